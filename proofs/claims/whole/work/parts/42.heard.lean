section PHEARD
theorem mFloor_sp0 (al : Nat → Int32) {cap : Nat} (hc : al 264 = nI cap) (h9 : cap < 1000) : (mFull al 0 = false ∧ mFloor al 0 = 0) ∨ (mFull al 0 = true ∧ ∃ w, w < 26 ∧ mWeak al 0 26 = nI w ∧ ¬ al (26 + w) ≤ 0 ∧ mFloor al 0 = al (26 + w) ∧ ∀ q, q < 26 → ¬ al (26 + q) ≤ 0 → (al (26 + w)).toInt ≤ (al (26 + q)).toInt) := by
  have h := mFloor_sp al 0 hc h9
  simp only [Nat.zero_add] at h
  exact h
theorem mEst_sp0 (al : Nat → Int32) (p : Nat) : (al (26 + p) ≤ 0 ∧ mEst al 0 p = mFloor al 0) ∨ (¬ al (26 + p) ≤ 0 ∧ mEst al 0 p = al (26 + p)) := by
  have h := mEst_sp al 0 p
  simp only [Nat.zero_add] at h
  exact h
theorem mFloor_mono0 (al be : Nat → Int32) {cap : Nat} (hc : al 264 = nI cap) (hc2 : be 264 = nI cap) (h9 : cap < 1000) (h1 : mFull al 0 = true → mFull be 0 = true) (h2 : ∀ q, q < 26 → ¬ be (26 + q) ≤ 0 → (mFloor al 0).toInt ≤ (be (26 + q)).toInt) : (mFloor al 0).toInt ≤ (mFloor be 0).toInt :=
  mFloor_mono al be 0 0 hc hc2 h9 h1 (fun q hq hn => by simp only [Nat.zero_add] at hn ⊢; exact h2 q hq hn)
theorem LI0 {al : Nat → Int32} : LI al 0 ↔ (∀ p, p < 26 → 0 ≤ (al p).toInt ∧ 0 ≤ (al (104 + p)).toInt ∧ (al (104 + p)).toInt ≤ (al p).toInt ∧ 0 ≤ (al (52 + p)).toInt ∧ (al (52 + p)).toInt ≤ (al (26 + p)).toInt ∧ (al (26 + p)).toInt ≤ smI (rwF al 0) 26) ∧
  smI (rwF al 0) 26 ≤ 99999 ∧
  (∀ p, p < 26 → (al p).toInt ≤ (mEst al 0 p).toInt) ∧
  (∀ p, p < 26 → ¬ al (26 + p) ≤ 0 → al (78 + p) ≤ al 131) ∧ 0 ≤ (al 131).toInt ∧ (al 131).toInt ≤ 26 + smI (rwF al 0) 26 := by
  simp only [LI, Nat.zero_add]
theorem LR0 {L : LV} {al : Nat → Int32} : LR L al 0 ↔ (∀ p, p < 26 → L.1 p = al (26 + p) ∧ (¬ L.1 p ≤ 0 → L.2.1 p = al (52 + p)) ∧ L.2.2.2.2.2.1 p = al (104 + p) ∧ L.2.2.2.2.2.2.2.2 p = al p) ∧
  (∀ p q, p < 26 → q < 26 → ¬ L.1 p ≤ 0 → ¬ L.1 q ≤ 0 → (L.2.2.1 p ≤ L.2.2.1 q ↔ al (78 + p) ≤ al (78 + q))) ∧
  (∀ p, p < 26 → ¬ L.1 p ≤ 0 → L.2.2.1 p ≤ L.2.2.2.1) ∧ 0 ≤ L.2.2.2.1.toInt ∧ L.2.2.2.1.toInt ≤ 26 + smI (rwF al 0) 26 ∧
  L.2.2.2.2.1 = nI (cntN L.1 26) ∧ L.2.2.2.2.2.2.1 = al 130 ∧ L.2.2.2.2.2.2.2.1 = nI (cntN L.2.2.2.2.2.1 26) := by
  simp only [LR, Nat.zero_add]
theorem he_cases {al : Nat → Int32} {cap pa : Nat} (hc : al 264 = nI cap) (h9 : cap < 1000) (hp : pa < 26) : (¬ (al (26 + pa) = 0 ∧ mFull al 0 = true) ∧ heB al pa = upd al pa (al pa + 1)) ∨ (al (26 + pa) = 0 ∧ mFull al 0 = true ∧ ∃ w, w < 26 ∧ w ≠ pa ∧ mWeak al 0 26 = nI w ∧ ¬ al (26 + w) ≤ 0 ∧ mFloor al 0 = al (26 + w) ∧ (∀ q, q < 26 → ¬ al (26 + q) ≤ 0 → (al (26 + w)).toInt ≤ (al (26 + q)).toInt) ∧ heB al pa = heT (upd al pa (al pa + 1)) pa w) := by
  by_cases h : al (26 + pa) = 0 ∧ mFull al 0 = true
  · refine Or.inr ⟨h.1, h.2, ?_⟩
    rcases mFloor_sp0 al hc h9 with ⟨a, _⟩ | ⟨_, w, hw, b, c, d, e⟩
    · rw [h.2] at a; exact absurd a (by decide)
    · refine ⟨w, hw, fun e2 => ?_, b, c, d, e, heB_yes hp h.1 h.2 hw b⟩
      rw [e2, h.1] at c
      exact c (Int32.le_refl 0)
  · exact Or.inl ⟨h, heB_no hp h⟩
/-- the reference's rows behind a call -/
theorem heM_hi {al : Nat → Int32} {cap pa : Nat} (hc : al 264 = nI cap) (h9 : cap < 1000) (hp : pa < 26) : (∀ j, (j < 104 ∨ 131 ≤ j) → heM al pa j = heC (heB al pa) pa j) ∧ (∀ q, q < 26 → heM al pa (104 + q) = if weX al pa then (if al (104 + q) ≤ 1 then 0 else al (104 + q) - 1) else if q = pa then al (104 + pa) + 1 else al (104 + q)) ∧ (heM al pa 130 = if weX al pa then al 130 + 1 else al 130) ∧ (∀ j, 132 ≤ j → heM al pa j = al j) := by
  have hX : ∀ j, (104 ≤ j ∧ j < 131) ∨ 132 ≤ j → heC (heB al pa) pa j = al j := by
    intro j hj
    rcases he_cases hc h9 hp with ⟨_, e⟩ | ⟨_, _, w, hw, hne, _, _, _, _, e⟩
    · rw [e, heX_no hp]
      rw [if_neg (show ¬ j = 78 + pa by omega), if_neg (show ¬ j = 131 by omega), if_neg (show ¬ j = 26 + pa by omega), if_neg (show ¬ j = pa by omega)]
    · rw [e, heX_yes hp hw hne]
      rw [if_neg (show ¬ j = 78 + pa by omega), if_neg (show ¬ j = 131 by omega), if_neg (show ¬ j = 26 + pa by omega), if_neg (show ¬ j = 78 + w by omega), if_neg (show ¬ j = 52 + w by omega), if_neg (show ¬ j = 26 + w by omega), if_neg (show ¬ j = 52 + pa by omega), if_neg (show ¬ j = pa by omega)]
  have hw : weX (heC (heB al pa) pa) pa = weX al pa := by
    unfold weX
    rw [hX (104 + pa) (by omega), hX 264 (by omega), cntN_cg (f := rwF (heC (heB al pa) pa) 104) (g := rwF al 104) 26 (fun j hj => hX (104 + j) (by omega))]
  refine ⟨fun j hj => ?_, fun q hq => ?_, ?_, fun j hj => ?_⟩
  · show heW (heC (heB al pa) pa) pa j = _
    rw [heW_at hp]
    rw [if_neg (show ¬ j = 130 by omega), if_neg (show ¬ (104 ≤ j ∧ j < 104 + 26) by omega), if_neg (show ¬ j = 104 + pa by omega)]
    split <;> rfl
  · show heW (heC (heB al pa) pa) pa (104 + q) = _
    rw [heW_at hp, hw, hX (104 + q) (by omega), hX (104 + pa) (by omega)]
    rw [if_neg (show ¬ 104 + q = 130 by omega), if_pos (show (104 ≤ 104 + q ∧ 104 + q < 104 + 26) by omega)]
    have e : (104 + q = 104 + pa) ↔ q = pa := by omega
    simp only [e]
  · show heW (heC (heB al pa) pa) pa 130 = _
    rw [heW_at hp, hw, hX 130 (by omega)]
    rw [if_pos (show (130 : Nat) = 130 from rfl), if_neg (show ¬ 130 = 104 + pa by omega)]
  · show heW (heC (heB al pa) pa) pa j = _
    rw [heW_at hp, hX j (by omega)]
    rw [if_neg (show ¬ j = 130 by omega), if_neg (show ¬ (104 ≤ j ∧ j < 104 + 26) by omega), if_neg (show ¬ j = 104 + pa by omega)]
    split <;> rfl
theorem heM_no {al : Nat → Int32} {cap pa : Nat} (hc : al 264 = nI cap) (h9 : cap < 1000) (hp : pa < 26) (e : heB al pa = upd al pa (al pa + 1)) : (∀ q, q < 26 → heM al pa q = if q = pa then al pa + 1 else al q) ∧ (∀ q, q < 26 → heM al pa (26 + q) = if q = pa then al (26 + pa) + 1 else al (26 + q)) ∧ (∀ q, q < 26 → heM al pa (52 + q) = al (52 + q)) ∧ (∀ q, q < 26 → heM al pa (78 + q) = if q = pa then al 131 + 1 else al (78 + q)) ∧ heM al pa 131 = al 131 + 1 := by
  have h := (heM_hi hc h9 hp).1
  refine ⟨fun q hq => ?_, fun q hq => ?_, fun q hq => ?_, fun q hq => ?_, ?_⟩ <;> rw [h _ (by omega), e, heX_no hp] <;> grind
theorem heM_yes {al : Nat → Int32} {cap pa w : Nat} (hc : al 264 = nI cap) (h9 : cap < 1000) (hp : pa < 26) (hw : w < 26) (hne : w ≠ pa) (e : heB al pa = heT (upd al pa (al pa + 1)) pa w) : (∀ q, q < 26 → heM al pa q = if q = pa then al pa + 1 else al q) ∧ (∀ q, q < 26 → heM al pa (26 + q) = if q = pa then al (26 + w) + 1 else if q = w then 0 else al (26 + q)) ∧ (∀ q, q < 26 → heM al pa (52 + q) = if q = pa then al (26 + w) else if q = w then 0 else al (52 + q)) ∧ (∀ q, q < 26 → heM al pa (78 + q) = if q = pa then al 131 + 1 else if q = w then 0 else al (78 + q)) ∧ heM al pa 131 = al 131 + 1 := by
  have h := (heM_hi hc h9 hp).1
  refine ⟨fun q hq => ?_, fun q hq => ?_, fun q hq => ?_, fun q hq => ?_, ?_⟩ <;> rw [h _ (by omega), e, heX_yes hp hw hne] <;> grind
theorem heM_sum {al : Nat → Int32} {pa : Nat} (hp : pa < 26) (h0 : 0 ≤ (al pa).toInt) (hb : (al pa).toInt ≤ 99999) (h : ∀ q, q < 26 → heM al pa q = if q = pa then al pa + 1 else al q) : smI (rwF (heM al pa) 0) 26 = smI (rwF al 0) 26 + 1 := by
  have e : smI (rwF (heM al pa) 0) 26 = smI (upd (rwF al 0) pa (al pa + 1)) 26 := smI_cg 26 (fun j hj => by
    show heM al pa (0 + j) = if j = pa then al pa + 1 else al (0 + j)
    rw [Nat.zero_add, h j hj])
  have e2 : rwF al 0 pa = al pa := by show al (0 + pa) = _; rw [Nat.zero_add]
  rw [e, smI_upd _ _ _ 26 hp, t_1 h0 (by omega), e2]
  omega
/-- the reference's lists stay well behind a call -/
theorem LI_take {al : Nat → Int32} {cap pa : Nat} (hc : al 264 = nI cap) (h9 : cap < 1000) (hp : pa < 26) (hi : LI al 0) (hs : smI (rwF al 0) 26 + 1 ≤ 99999) : LI (heM al pa) 0 := by
  have hi0 := LI0.mp hi
  obtain ⟨hr, hsm, hest, hcl, hk0, hk1⟩ := hi0
  obtain ⟨_, hW, _, hhi⟩ := heM_hi hc h9 hp
  have hc2 : heM al pa 264 = nI cap := by rw [hhi 264 (by omega), hc]
  have z0 : (0 : Int32).toInt = 0 := rfl
  have wornOK : ∀ q, q < 26 → (∀ q, q < 26 → heM al pa q = if q = pa then al pa + 1 else al q) → 0 ≤ (heM al pa (104 + q)).toInt ∧ (heM al pa (104 + q)).toInt ≤ (heM al pa q).toInt := by
    intro q hq ht
    obtain ⟨a1, a2, a3, a4, a5, a6⟩ := hr q hq
    have hq1 : (al q).toInt ≤ (heM al pa q).toInt := by
      rw [ht q hq]
      by_cases h : q = pa
      · subst h
        have := (smI_nn (f := rwF al 0) 26 (fun j hj => by show 0 ≤ (al (0 + j)).toInt; rw [Nat.zero_add]; exact (hr j hj).1)).2 q hq
        have e2 : rwF al 0 q = al q := by show al (0 + q) = _; rw [Nat.zero_add]
        rw [e2] at this
        rw [if_pos rfl, t_1 a1 (by omega)]; omega
      · rw [if_neg h]; exact Int.le_refl _
    rw [hW q hq]
    by_cases hwx : weX al pa = true
    · rw [if_pos hwx]
      have := wr_nn (x := al (104 + q)) (v := 1) a2 (by decide)
      omega
    · rw [if_neg hwx]
      by_cases h : q = pa
      · subst h
        have := (smI_nn (f := rwF al 0) 26 (fun j hj => by show 0 ≤ (al (0 + j)).toInt; rw [Nat.zero_add]; exact (hr j hj).1)).2 q hq
        have e2 : rwF al 0 q = al q := by show al (0 + q) = _; rw [Nat.zero_add]
        rw [e2] at this
        rw [if_pos rfl, ht q hq, if_pos rfl, t_1 a1 (by omega), t_1 a2 (by omega)]
        omega
      · rw [if_neg h]; omega
  have bnd : ∀ q, q < 26 → (al q).toInt ≤ 99998 := by
    intro q hq
    have := (smI_nn (f := rwF al 0) 26 (fun j hj => by show 0 ≤ (al (0 + j)).toInt; rw [Nat.zero_add]; exact (hr j hj).1)).2 q hq
    have e2 : rwF al 0 q = al q := by show al (0 + q) = _; rw [Nat.zero_add]
    rw [e2] at this
    omega
  refine LI0.mpr ?_
  rcases he_cases hc h9 hp with ⟨hno, e⟩ | ⟨hz, hf, w, hw, hne, hwk, hwp, hfl, hmin, e⟩
  · obtain ⟨rt, rc, rs, rg, rk⟩ := heM_no hc h9 hp e
    have hsum := heM_sum hp (hr pa hp).1 (by have := bnd pa hp; omega) rt
    have hcp : (al pa).toInt ≤ (al (26 + pa)).toInt := by
      have h1 := hest pa hp
      rcases mEst_sp0 al pa with ⟨a, b⟩ | ⟨a, b⟩
      · have h2 : al (26 + pa) = 0 := by
          rw [nI_n] at a
          have := (hr pa hp).2.2.2
          apply Int32.toInt_inj.mp
          omega
        rcases mFloor_sp0 al hc h9 with ⟨_, c⟩ | ⟨c, _⟩
        · rw [b, c] at h1; rw [h2]; exact h1
        · exact absurd ⟨h2, c⟩ hno
      · rw [b] at h1; exact h1
    have hcb : (al (26 + pa)).toInt ≤ 99998 := by have := (hr pa hp).2.2.2.2.2; omega
    have cnt : cntN (rwF al 26) 26 ≤ cntN (rwF (heM al pa) 26) 26 := by
      have e1 : cntN (rwF (heM al pa) 26) 26 = cntN (upd (rwF al 26) pa (al (26 + pa) + 1)) 26 := cntN_cg 26 (fun j hj => rc j hj)
      have e2 := cntN_upd (rwF al 26) pa (al (26 + pa) + 1) 26
      have e3 : ¬ al (26 + pa) + 1 ≤ 0 := by
        rw [nI_p, t_1 (by have := (hr pa hp).2.2.2; omega) (by omega)]
        have := (hr pa hp).2.2.2; omega
      rw [if_pos (show pa < 26 ∧ ¬ al (26 + pa) + 1 ≤ 0 from ⟨hp, e3⟩)] at e2
      rw [e1]
      split at e2 <;> omega
    have hfull : mFull al 0 = true → mFull (heM al pa) 0 = true := fun h => mFull_of hc2 h9 (Nat.lt_of_lt_of_le (mFull_cnt h hc h9) cnt)
    have hfl : (mFloor al 0).toInt ≤ (mFloor (heM al pa) 0).toInt := by
      refine mFloor_mono0 al (heM al pa) hc hc2 h9 hfull (fun q hq hn => ?_)
      rw [rc q hq] at hn ⊢
      rcases mFloor_sp0 al hc h9 with ⟨a, b⟩ | ⟨a, w, hw, b, c, d, e4⟩
      · rw [b, z0]; have := nI_p.mp hn; omega
      · rw [d]
        by_cases h : q = pa
        · subst h
          rw [if_pos rfl] at hn ⊢
          rw [t_1 (by have := (hr q hq).2.2.2; omega) (by omega)]
          have h2 : ¬ al (26 + q) ≤ 0 := fun h3 => by
            rw [nI_n] at h3
            have := (hr q hq).2.2.2
            exact hno ⟨Int32.toInt_inj.mp (by omega), a⟩
          have := e4 q hq h2
          omega
        · rw [if_neg h] at hn ⊢
          exact e4 q hq hn
    refine ⟨fun q hq => ?_, by omega, fun q hq => ?_, fun q hq hn => ?_, ?_, ?_⟩
    · obtain ⟨a1, a2, a3, a4, a5, a6⟩ := hr q hq
      obtain ⟨b1, b2⟩ := wornOK q hq rt
      rw [hsum]
      refine ⟨?_, b1, b2, ?_⟩
      · rw [rt q hq]
        by_cases h : q = pa
        · subst h; rw [if_pos rfl, t_1 a1 (by have := bnd q hq; omega)]; omega
        · rw [if_neg h]; exact a1
      · rw [rs q hq, rc q hq]
        by_cases h : q = pa
        · subst h; rw [if_pos rfl, t_1 (by omega) (by omega)]; omega
        · rw [if_neg h]; omega
    · have h1 := hest q hq
      rcases mEst_sp0 (heM al pa) q with ⟨a, b⟩ | ⟨a, b⟩
      · rw [b, rt q hq]
        rw [rc q hq] at a
        by_cases h : q = pa
        · subst h
          rw [if_pos rfl, nI_n, t_1 (by have := (hr q hq).2.2.2; omega) (by omega)] at a
          have := (hr q hq).2.2.2
          omega
        · rw [if_neg h] at a ⊢
          rcases mEst_sp0 al q with ⟨c, d⟩ | ⟨c, d⟩
          · rw [d] at h1; omega
          · exact absurd a c
      · rw [b, rt q hq, rc q hq]
        by_cases h : q = pa
        · subst h
          rw [if_pos rfl, if_pos rfl, t_1 (hr q hq).1 (by have := bnd q hq; omega), t_1 (by have := (hr q hq).2.2.2; omega) (by omega)]
          omega
        · rw [rc q hq, if_neg h] at a
          rw [if_neg h, if_neg h]
          rcases mEst_sp0 al q with ⟨c, d⟩ | ⟨c, d⟩
          · exact absurd c a
          · rw [d] at h1; exact h1
    · rw [rg q hq, rk]
      by_cases h : q = pa
      · rw [if_pos h]; exact Int32.le_refl _
      · rw [if_neg h]
        rw [rc q hq, if_neg h] at hn
        have := hcl q hq hn
        rw [Int32.le_iff_toInt_le] at this ⊢
        rw [t_1 hk0 (by omega)]; omega
    · rw [rk, t_1 hk0 (by omega)]; omega
    · rw [rk, t_1 hk0 (by omega), hsum]; omega
  · obtain ⟨rt, rc, rs, rg, rk⟩ := heM_yes hc h9 hp hw hne e
    have hsum := heM_sum hp (hr pa hp).1 (by have := bnd pa hp; omega) rt
    have hcw0 := nI_p.mp hwp
    have hcb : (al (26 + w)).toInt ≤ 99998 := by have := (hr w hw).2.2.2.2.2; omega
    have e3 : ¬ al (26 + w) + 1 ≤ 0 := by
      rw [nI_p, t_1 (by omega) (by omega)]; omega
    have cnt : cntN (rwF al 26) 26 ≤ cntN (rwF (heM al pa) 26) 26 := by
      have e1 : cntN (rwF (heM al pa) 26) 26 = cntN (upd (upd (rwF al 26) w 0) pa (al (26 + w) + 1)) 26 := cntN_cg 26 (fun j hj => rc j hj)
      have e2 := cntN_upd (upd (rwF al 26) w 0) pa (al (26 + w) + 1) 26
      have e4 := cntN_upd (rwF al 26) w 0 26
      have e5 : upd (rwF al 26) w 0 pa = 0 := by
        show (if pa = w then (0 : Int32) else al (26 + pa)) = 0
        rw [hz]; split <;> rfl
      rw [if_pos (show pa < 26 ∧ ¬ al (26 + w) + 1 ≤ 0 from ⟨hp, e3⟩), e5] at e2
      have e6 : ¬ (pa < 26 ∧ ¬ (0 : Int32) ≤ 0) := fun h => h.2 (Int32.le_refl 0)
      rw [if_neg e6] at e2
      have e7 : ¬ (w < 26 ∧ ¬ (0 : Int32) ≤ 0) := fun h => h.2 (Int32.le_refl 0)
      rw [if_neg e7] at e4
      rw [e1]
      split at e4 <;> omega
    have hfull : mFull al 0 = true → mFull (heM al pa) 0 = true := fun h => mFull_of hc2 h9 (Nat.lt_of_lt_of_le (mFull_cnt h hc h9) cnt)
    have hfl2 : (mFloor al 0).toInt ≤ (mFloor (heM al pa) 0).toInt := by
      refine mFloor_mono0 al (heM al pa) hc hc2 h9 hfull (fun q hq hn => ?_)
      rw [rc q hq] at hn ⊢
      rw [hfl]
      by_cases h : q = pa
      · rw [if_pos h, t_1 (by omega) (by omega)]; omega
      · rw [if_neg h] at hn ⊢
        by_cases h2 : q = w
        · rw [if_pos h2] at hn; exact absurd (Int32.le_refl 0) hn
        · rw [if_neg h2] at hn ⊢
          exact hmin q hq hn
    refine ⟨fun q hq => ?_, by omega, fun q hq => ?_, fun q hq hn => ?_, ?_, ?_⟩
    · obtain ⟨a1, a2, a3, a4, a5, a6⟩ := hr q hq
      obtain ⟨b1, b2⟩ := wornOK q hq rt
      rw [hsum]
      refine ⟨?_, b1, b2, ?_⟩
      · rw [rt q hq]
        by_cases h : q = pa
        · subst h; rw [if_pos rfl, t_1 a1 (by have := bnd q hq; omega)]; omega
        · rw [if_neg h]; exact a1
      · rw [rs q hq, rc q hq]
        by_cases h : q = pa
        · rw [if_pos h, if_pos h, t_1 (by omega) (by omega)]
          have := (hr w hw).2.2.2.2.2; omega
        · rw [if_neg h, if_neg h]
          by_cases h2 : q = w
          · rw [if_pos h2, if_pos h2, z0]
            have := (smI_nn (f := rwF al 0) 26 (fun j hj => by show 0 ≤ (al (0 + j)).toInt; rw [Nat.zero_add]; exact (hr j hj).1)).1
            omega
          · rw [if_neg h2, if_neg h2]; omega
    · have h1 := hest q hq
      by_cases h : q = pa
      · subst h
        have a : ¬ heM al q (26 + q) ≤ 0 := by rw [rc q hq, if_pos rfl]; exact e3
        rcases mEst_sp0 (heM al q) q with ⟨c, _⟩ | ⟨_, b⟩
        · exact absurd c a
        rw [b, rt q hq, rc q hq, if_pos rfl, if_pos rfl, t_1 (hr q hq).1 (by have := bnd q hq; omega), t_1 (by omega) (by omega)]
        rcases mEst_sp0 al q with ⟨c, d⟩ | ⟨c, d⟩
        · rw [d, hfl] at h1; omega
        · rw [hz] at c; exact absurd (Int32.le_refl 0) c
      · rw [rt q hq, if_neg h]
        by_cases h2 : q = w
        · subst h2
          have a : heM al pa (26 + q) ≤ 0 := by rw [rc q hq, if_neg h, if_pos rfl]; exact Int32.le_refl 0
          rcases mEst_sp0 (heM al pa) q with ⟨_, b⟩ | ⟨c, _⟩
          · rw [b]
            rcases mEst_sp0 al q with ⟨c, d⟩ | ⟨c, d⟩
            · exact absurd c hwp
            · rw [d, ← hfl] at h1; omega
          · exact absurd a c
        · have r := rc q hq
          rw [if_neg h, if_neg h2] at r
          rcases mEst_sp0 (heM al pa) q with ⟨a, b⟩ | ⟨a, b⟩
          · rw [b]; rw [r] at a
            rcases mEst_sp0 al q with ⟨c, d⟩ | ⟨c, d⟩
            · rw [d] at h1; omega
            · exact absurd a c
          · rw [b, r]; rw [r] at a
            rcases mEst_sp0 al q with ⟨c, d⟩ | ⟨c, d⟩
            · exact absurd c a
            · rw [d] at h1; exact h1
    · rw [rg q hq, rk]
      by_cases h : q = pa
      · rw [if_pos h]; exact Int32.le_refl _
      · rw [if_neg h]
        rw [rc q hq, if_neg h] at hn
        by_cases h2 : q = w
        · rw [if_pos h2] at hn; exact absurd (Int32.le_refl 0) hn
        · rw [if_neg h2] at hn ⊢
          have := hcl q hq hn
          rw [Int32.le_iff_toInt_le] at this ⊢
          rw [t_1 hk0 (by omega)]; omega
    · rw [rk, t_1 hk0 (by omega)]; omega
    · rw [rk, t_1 hk0 (by omega), hsum]; omega
end PHEARD
