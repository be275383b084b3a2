section PTAKE2
theorem st_take {wf tf : Nat → Int32} {wo : Int32} {cap pa : Nat} {S : Int} (h9 : cap < 1000) (hp : pa < 26) (hA : ∀ p, p < 26 → 0 ≤ (tf p).toInt ∧ 0 ≤ (wf p).toInt ∧ (wf p).toInt ≤ (tf p).toInt ∧ (tf p).toInt ≤ (wf p).toInt + wo.toInt ∧ (wf p).toInt + wo.toInt ≤ S ∧ (tf p).toInt ≤ S) (hS : S + 1 ≤ 99999) (hw0 : 0 ≤ wo.toInt) (hwc : cntN wf 26 ≤ cap) :
    (∀ p, p < 26 → 0 ≤ (stC wf (nI (cntN wf 26)) (nI cap) pa p).toInt ∧ (stC wf (nI (cntN wf 26)) (nI cap) pa p).toInt ≤ (upd tf pa (tf pa + 1) p).toInt ∧ (upd tf pa (tf pa + 1) p).toInt ≤ (stC wf (nI (cntN wf 26)) (nI cap) pa p).toInt + (stO wf wo (nI (cntN wf 26)) (nI cap) pa).toInt ∧ (stC wf (nI (cntN wf 26)) (nI cap) pa p).toInt + (stO wf wo (nI (cntN wf 26)) (nI cap) pa).toInt ≤ S + 1) ∧ 0 ≤ (stO wf wo (nI (cntN wf 26)) (nI cap) pa).toInt ∧ stZ wf (nI (cntN wf 26)) (nI cap) pa = nI (cntN (stC wf (nI (cntN wf 26)) (nI cap) pa) 26) ∧ cntN (stC wf (nI (cntN wf 26)) (nI cap) pa) 26 ≤ cap := by
  have hb := cntN_le wf 26
  have z1 : (1 : Int32).toInt = 1 := rfl
  have hwo : wo.toInt ≤ S := by have := hA pa hp; omega
  by_cases h : wf pa ≤ 0
  · by_cases c : cap ≤ cntN wf 26
    · have cn : nI cap ≤ nI (cntN wf 26) := (nI_leI (by omega) (by omega)).mpr c
      have eC : stC wf (nI (cntN wf 26)) (nI cap) pa = wdN wf 1 26 := by unfold stC; rw [if_pos h, if_pos cn]
      have eO : stO wf wo (nI (cntN wf 26)) (nI cap) pa = wo + 1 := by unfold stO; rw [if_pos h, if_pos cn]
      have eZ : stZ wf (nI (cntN wf 26)) (nI cap) pa = nI (cntN (wdN wf 1 26) 26) := by unfold stZ; rw [if_pos h, if_pos cn]
      have ew : (wo + 1).toInt = wo.toInt + 1 := t_1 hw0 (by omega)
      rw [eC, eO, eZ]
      refine ⟨fun p hp2 => ?_, by omega, rfl, ?_⟩
      · obtain ⟨a1, a2, a3, a4, a5, a6⟩ := hA p hp2
        obtain ⟨d1, d2, d3, d4⟩ := wd_int (x := wf p) (v := 1) a2 (by decide)
        rw [z1] at d3 d4
        rw [wdN_at, if_pos hp2, upd_at, ew]
        by_cases hq : p = pa
        · rw [if_pos hq]
          have h0 := nI_n.mp h
          rw [← hq] at h0 ⊢
          rw [t_1 a1 (by omega)]
          omega
        · rw [if_neg hq]
          omega
      · have := cntN_mono (f := wdN wf 1 26) (g := wf) 26 (fun j hj k => by
          have a2 := (hA j hj).2.1
          obtain ⟨d1, d2, d3, d4⟩ := wd_int (x := wf j) (v := 1) a2 (by decide)
          rw [wdN_at, if_pos hj, nI_p] at k
          rw [nI_p]; omega)
        omega
    · have cn : ¬ nI cap ≤ nI (cntN wf 26) := fun k => c ((nI_leI (by omega) (by omega)).mp k)
      have eC : stC wf (nI (cntN wf 26)) (nI cap) pa = upd wf pa 1 := by unfold stC; rw [if_pos h, if_neg cn]
      have eO : stO wf wo (nI (cntN wf 26)) (nI cap) pa = wo := by unfold stO; rw [if_pos h, if_neg cn]
      have eZ : stZ wf (nI (cntN wf 26)) (nI cap) pa = nI (cntN wf 26) + 1 := by unfold stZ; rw [if_pos h, if_neg cn]
      have e2 := cntN_upd wf pa 1 26
      rw [if_neg (show ¬ (pa < 26 ∧ ¬ wf pa ≤ 0) from fun k => k.2 h), if_pos (show pa < 26 ∧ ¬ (1 : Int32) ≤ 0 from ⟨hp, by decide⟩)] at e2
      rw [eC, eO, eZ]
      refine ⟨fun p hp2 => ?_, hw0, ?_, by omega⟩
      · obtain ⟨a1, a2, a3, a4, a5, a6⟩ := hA p hp2
        rw [upd_at, upd_at]
        by_cases hq : p = pa
        · rw [if_pos hq, if_pos hq]
          have h0 := nI_n.mp h
          rw [← hq] at h0 ⊢
          rw [t_1 a1 (by omega)]
          omega
        · rw [if_neg hq, if_neg hq]
          omega
      · rw [nI_1]
        congr 1
        omega
  · have eC : stC wf (nI (cntN wf 26)) (nI cap) pa = upd wf pa (wf pa + 1) := by unfold stC; rw [if_neg h]
    have eO : stO wf wo (nI (cntN wf 26)) (nI cap) pa = wo := by unfold stO; rw [if_neg h]
    have eZ : stZ wf (nI (cntN wf 26)) (nI cap) pa = nI (cntN wf 26) := by unfold stZ; rw [if_neg h]
    have e2 := cntN_upd wf pa (wf pa + 1) 26
    have e3 : ¬ wf pa + 1 ≤ 0 := by
      have a := hA pa hp
      rw [nI_p, t_1 a.2.1 (by omega)]; omega
    rw [if_pos (show pa < 26 ∧ ¬ wf pa ≤ 0 from ⟨hp, h⟩), if_pos (show pa < 26 ∧ ¬ wf pa + 1 ≤ 0 from ⟨hp, e3⟩)] at e2
    rw [eC, eO, eZ]
    refine ⟨fun p hp2 => ?_, hw0, ?_, by omega⟩
    · obtain ⟨a1, a2, a3, a4, a5, a6⟩ := hA p hp2
      rw [upd_at, upd_at]
      by_cases hq : p = pa
      · rw [if_pos hq, if_pos hq]
        rw [← hq]
        rw [t_1 a1 (by omega), t_1 a2 (by omega)]
        omega
      · rw [if_neg hq, if_neg hq]
        omega
    · congr 1
      omega
theorem fl_take {fc fs fg tf : Nat → Int32} {cap pa : Nat} {S : Int} (h9 : cap < 1000) (hp : pa < 26) (hA : ∀ p, p < 26 → 0 ≤ (tf p).toInt ∧ (tf p).toInt ≤ S ∧ 0 ≤ (fc p).toInt ∧ (fc p).toInt ≤ S) (hB : ∀ p, p < 26 → ¬ fc p ≤ 0 → 0 ≤ (fs p).toInt ∧ (fs p).toInt ≤ (fc p).toInt ∧ (fc p).toInt - (fs p).toInt ≤ (tf p).toInt ∧ (tf p).toInt ≤ (fc p).toInt) (hC : ∀ p, p < 26 → fc p ≤ 0 → (cntN fc 26 ≤ cap → (tf p).toInt ≤ 0) ∧ ∀ w, w < 26 → ¬ fc w ≤ 0 → (tf p).toInt ≤ (fc w).toInt) (hS : S + 1 ≤ 99999) (hcap : cntN fc 26 ≤ cap + 1) :
    (∀ p, p < 26 → 0 ≤ (tkC fc fg (nI (cntN fc 26)) (nI (cap + 1)) pa p).toInt ∧ (tkC fc fg (nI (cntN fc 26)) (nI (cap + 1)) pa p).toInt ≤ S + 1) ∧
    (∀ p, p < 26 → ¬ tkC fc fg (nI (cntN fc 26)) (nI (cap + 1)) pa p ≤ 0 → 0 ≤ (tkS fc fs fg (nI (cntN fc 26)) (nI (cap + 1)) pa p).toInt ∧ (tkS fc fs fg (nI (cntN fc 26)) (nI (cap + 1)) pa p).toInt ≤ (tkC fc fg (nI (cntN fc 26)) (nI (cap + 1)) pa p).toInt ∧ (tkC fc fg (nI (cntN fc 26)) (nI (cap + 1)) pa p).toInt - (tkS fc fs fg (nI (cntN fc 26)) (nI (cap + 1)) pa p).toInt ≤ (upd tf pa (tf pa + 1) p).toInt ∧ (upd tf pa (tf pa + 1) p).toInt ≤ (tkC fc fg (nI (cntN fc 26)) (nI (cap + 1)) pa p).toInt) ∧
    (∀ p, p < 26 → tkC fc fg (nI (cntN fc 26)) (nI (cap + 1)) pa p ≤ 0 → (cntN (tkC fc fg (nI (cntN fc 26)) (nI (cap + 1)) pa) 26 ≤ cap → (upd tf pa (tf pa + 1) p).toInt ≤ 0) ∧ ∀ w, w < 26 → ¬ tkC fc fg (nI (cntN fc 26)) (nI (cap + 1)) pa w ≤ 0 → (upd tf pa (tf pa + 1) p).toInt ≤ (tkC fc fg (nI (cntN fc 26)) (nI (cap + 1)) pa w).toInt) ∧
    tkZ fc fg (nI (cntN fc 26)) (nI (cap + 1)) pa = nI (cntN (tkC fc fg (nI (cntN fc 26)) (nI (cap + 1)) pa) 26) ∧ cntN (tkC fc fg (nI (cntN fc 26)) (nI (cap + 1)) pa) 26 ≤ cap + 1 ∧ cntN fc 26 ≤ cntN (tkC fc fg (nI (cntN fc 26)) (nI (cap + 1)) pa) 26 ∧
    (tkC fc fg (nI (cntN fc 26)) (nI (cap + 1)) pa pa).toInt = (flEst fc fg (nI (cntN fc 26)) (nI (cap + 1)) pa).toInt + 1 ∧ ¬ tkC fc fg (nI (cntN fc 26)) (nI (cap + 1)) pa pa ≤ 0 ∧
    (∀ w, w < 26 → ¬ tkC fc fg (nI (cntN fc 26)) (nI (cap + 1)) pa w ≤ 0 → (flLeast fc fg (nI (cntN fc 26)) (nI (cap + 1))).toInt ≤ (tkC fc fg (nI (cntN fc 26)) (nI (cap + 1)) pa w).toInt) := by
  have hb := cntN_le fc 26
  have z0 : (0 : Int32).toInt = 0 := rfl
  have tt : ∀ p, p < 26 → (upd tf pa (tf pa + 1) p).toInt = (tf p).toInt + if p = pa then 1 else 0 := fun p hp2 => by
    have a := hA p hp2
    rw [upd_at]
    by_cases hq : p = pa
    · rw [if_pos hq, if_pos hq, ← hq, t_1 a.1 (by omega)]
    · rw [if_neg hq, if_neg hq]; omega
  have zero : ∀ p, p < 26 → fc p ≤ 0 → fc p = 0 := fun p hp2 k => by
    have a := hA p hp2
    rw [nI_n] at k
    exact Int32.toInt_inj.mp (by omega)
  have apa := hA pa hp
  have ap1 : (fc pa + 1).toInt = (fc pa).toInt + 1 := t_1 apa.2.2.1 (by omega)
  have no : (¬ fc pa = 0 ∨ (flFull (nI (cntN fc 26)) (nI (cap + 1)) = false ∧ cntN fc 26 ≤ cap ∧ flLeast fc fg (nI (cntN fc 26)) (nI (cap + 1)) = 0)) ∨ (fc pa = 0 ∧ flFull (nI (cntN fc 26)) (nI (cap + 1)) = true ∧ cntN fc 26 = cap + 1 ∧ ∃ w, w < 26 ∧ w ≠ pa ∧ flWeak fc fg 26 = nI w ∧ ¬ fc w ≤ 0 ∧ flLeast fc fg (nI (cntN fc 26)) (nI (cap + 1)) = fc w ∧ ∀ q, q < 26 → ¬ fc q ≤ 0 → (fc w).toInt ≤ (fc q).toInt) := by
    by_cases k : fc pa = 0
    · rcases least_sp fc fg h9 hcap with h | ⟨h1, h2, w, h3, h4, h5, h6, h7⟩
      · exact Or.inl (Or.inr h)
      · exact Or.inr ⟨k, h1, h2, w, h3, fun e => h5 (by rw [e, k]; exact Int32.le_refl 0), h4, h5, h6, h7⟩
    · exact Or.inl (Or.inl k)
  rcases no with h | ⟨k0, kf, kc, w, hw, hne, hwk, hwp, hfl, hmin⟩
  · obtain ⟨kC, kS, kZ⟩ := tk_no (fc := fc) (fs := fs) (fg := fg) (sz := nI (cntN fc 26)) (rm := nI (cap + 1)) (pa := pa) (h.imp id (fun k => ⟨k.1, k.2.2⟩))
    have est : (flEst fc fg (nI (cntN fc 26)) (nI (cap + 1)) pa).toInt = (fc pa).toInt := by
      unfold flEst
      by_cases k : fc pa ≤ 0
      · rw [if_pos k]
        rcases h with h1 | h1
        · exact absurd (zero pa hp k) h1
        · rw [h1.2.2, zero pa hp k]
      · rw [if_neg k]
    have ppos : ¬ fc pa + 1 ≤ 0 := by rw [nI_p, ap1]; omega
    have e1 : cntN (tkC fc fg (nI (cntN fc 26)) (nI (cap + 1)) pa) 26 = cntN (upd fc pa (fc pa + 1)) 26 := cntN_cg 26 (fun j _ => kC j)
    have e2 := cntN_upd fc pa (fc pa + 1) 26
    rw [if_pos (show pa < 26 ∧ ¬ fc pa + 1 ≤ 0 from ⟨hp, ppos⟩)] at e2
    have hcnt : (fc pa = 0 ∧ cntN (tkC fc fg (nI (cntN fc 26)) (nI (cap + 1)) pa) 26 = cntN fc 26 + 1 ∧ cntN fc 26 ≤ cap) ∨ (¬ fc pa ≤ 0 ∧ cntN (tkC fc fg (nI (cntN fc 26)) (nI (cap + 1)) pa) 26 = cntN fc 26) := by
      by_cases k : fc pa ≤ 0
      · have k2 := zero pa hp k
        rw [if_neg (show ¬ (pa < 26 ∧ ¬ fc pa ≤ 0) from fun q => q.2 k)] at e2
        rcases h with h1 | h1
        · exact absurd k2 h1
        · exact Or.inl ⟨k2, by omega, h1.2.1⟩
      · rw [if_pos (show pa < 26 ∧ ¬ fc pa ≤ 0 from ⟨hp, k⟩)] at e2
        exact Or.inr ⟨k, by omega⟩
    have hfl0 : fc pa = 0 → (flLeast fc fg (nI (cntN fc 26)) (nI (cap + 1))).toInt = 0 := fun k => by
      rcases h with h1 | h1
      · exact absurd k h1
      · rw [h1.2.2]; rfl
    refine ⟨fun p hp2 => ?_, fun p hp2 k => ?_, fun p hp2 k => ?_, ?_, by omega, by omega, ?_, ?_, fun q hq k => ?_⟩
    · have a := hA p hp2
      rw [kC p]
      by_cases hq : p = pa
      · rw [if_pos hq, ap1]; omega
      · rw [if_neg hq]; omega
    · rw [kC p] at k ⊢
      rw [kS p, tt p hp2]
      by_cases hq : p = pa
      · rw [if_pos hq, if_pos hq, ap1]
        rcases hcnt with ⟨c1, _, c3⟩ | ⟨c1, _⟩
        · rw [if_pos ⟨c1, hq⟩, z0]
          have := (hC pa hp (by rw [c1]; exact Int32.le_refl 0)).1 c3
          rw [hq, c1, z0]
          omega
        · rw [if_neg (fun q => c1 (by rw [q.1]; exact Int32.le_refl 0))]
          have := hB pa hp c1
          rw [hq]
          omega
      · rw [if_neg hq] at k ⊢
        rw [if_neg (fun q => hq q.2), if_neg hq]
        have := hB p hp2 k
        omega
    · have hq : p ≠ pa := fun q => by rw [kC p, if_pos q] at k; exact ppos k
      rw [kC p, if_neg hq] at k
      rw [tt p hp2, if_neg hq]
      obtain ⟨a, b⟩ := hC p hp2 k
      refine ⟨fun c => ?_, fun w hw c => ?_⟩
      · have := a (by omega)
        omega
      · rw [kC w] at c ⊢
        by_cases hw2 : w = pa
        · rw [if_pos hw2, ap1]
          rcases hcnt with ⟨c1, _, c3⟩ | ⟨c1, _⟩
          · have := a c3
            omega
          · have := b pa hp c1
            omega
        · rw [if_neg hw2] at c ⊢
          have := b w hw c
          omega
    · rw [kZ]
      rcases hcnt with ⟨c1, c2, c3⟩ | ⟨c1, c2⟩
      · rw [if_pos c1, c2, nI_1]
      · rw [if_neg (fun q => c1 (by rw [q]; exact Int32.le_refl 0)), c2]
    · rw [kC pa, if_pos rfl, ap1, est]
    · rw [kC pa, if_pos rfl]; exact ppos
    · rw [kC q] at k ⊢
      rcases least_sp fc fg h9 hcap with ⟨_, _, h3⟩ | ⟨_, _, w, h3, _, h5, h6, h7⟩
      · rw [h3, z0]
        have := nI_p.mp k
        omega
      · by_cases hq2 : q = pa
        · rw [if_pos hq2, ap1]
          by_cases c1 : fc pa = 0
          · have := hfl0 c1
            omega
          · have c2 : ¬ fc pa ≤ 0 := fun q => c1 (zero pa hp q)
            have := h7 pa hp c2
            rw [h6]
            omega
        · rw [if_neg hq2] at k ⊢
          rw [h6]
          exact h7 q hq k
  · obtain ⟨kC, kS, kZ⟩ := tk_yes (fc := fc) (fs := fs) (fg := fg) (sz := nI (cntN fc 26)) (rm := nI (cap + 1)) (pa := pa) k0 kf hwk hw hne
    have aw := hA w hw
    have hwp' := nI_p.mp hwp
    have ew : (fc w + 1).toInt = (fc w).toInt + 1 := t_1 aw.2.2.1 (by omega)
    have ppos : ¬ fc w + 1 ≤ 0 := by rw [nI_p, ew]; omega
    have kp : fc pa ≤ 0 := by rw [k0]; exact Int32.le_refl 0
    have e1 : cntN (tkC fc fg (nI (cntN fc 26)) (nI (cap + 1)) pa) 26 = cntN (upd (upd fc w 0) pa (fc w + 1)) 26 := cntN_cg 26 (fun j _ => kC j)
    have e2 := cntN_upd (upd fc w 0) pa (fc w + 1) 26
    have e4 := cntN_upd fc w 0 26
    have e5 : upd fc w 0 pa = 0 := by
      rw [upd_at, k0]; split <;> rfl
    rw [if_pos (show pa < 26 ∧ ¬ fc w + 1 ≤ 0 from ⟨hp, ppos⟩), e5, if_neg (show ¬ (pa < 26 ∧ ¬ (0 : Int32) ≤ 0) from fun k => k.2 (Int32.le_refl 0))] at e2
    rw [if_neg (show ¬ (w < 26 ∧ ¬ (0 : Int32) ≤ 0) from fun k => k.2 (Int32.le_refl 0)), if_pos (show w < 26 ∧ ¬ fc w ≤ 0 from ⟨hw, hwp⟩)] at e4
    have hcnt : cntN (tkC fc fg (nI (cntN fc 26)) (nI (cap + 1)) pa) 26 = cntN fc 26 := by omega
    have est : flEst fc fg (nI (cntN fc 26)) (nI (cap + 1)) pa = fc w := by unfold flEst; rw [if_pos kp, hfl]
    refine ⟨fun p hp2 => ?_, fun p hp2 k => ?_, fun p hp2 k => ?_, ?_, by omega, by omega, ?_, ?_, fun q hq k => ?_⟩
    · have a := hA p hp2
      rw [kC p]
      by_cases hq : p = pa
      · rw [if_pos hq, ew]; omega
      · rw [if_neg hq]
        by_cases hq2 : p = w
        · rw [if_pos hq2, z0]; omega
        · rw [if_neg hq2]; omega
    · rw [kC p] at k ⊢
      rw [kS p, tt p hp2]
      by_cases hq : p = pa
      · rw [if_pos hq, if_pos hq, if_pos hq, ew]
        have := (hC pa hp kp).2 w hw hwp
        rw [hq]
        omega
      · rw [if_neg hq] at k ⊢
        rw [if_neg hq, if_neg hq]
        by_cases hq2 : p = w
        · rw [if_pos hq2] at k; exact absurd (Int32.le_refl 0) k
        · rw [if_neg hq2] at k ⊢
          have := hB p hp2 k
          omega
    · have hq : p ≠ pa := fun q => by rw [kC p, if_pos q] at k; exact ppos k
      rw [kC p, if_neg hq] at k
      rw [tt p hp2, if_neg hq]
      refine ⟨fun c => by omega, fun q hq3 c => ?_⟩
      have tpw : (tf p).toInt ≤ (fc w).toInt := by
        by_cases hq2 : p = w
        · rw [hq2]; exact (hB w hw hwp).2.2.2
        · rw [if_neg hq2] at k
          exact (hC p hp2 k).2 w hw hwp
      rw [kC q] at c ⊢
      by_cases h4 : q = pa
      · rw [if_pos h4, ew]; omega
      · rw [if_neg h4] at c ⊢
        by_cases h5 : q = w
        · rw [if_pos h5] at c; exact absurd (Int32.le_refl 0) c
        · rw [if_neg h5] at c ⊢
          have := hmin q hq3 c
          omega
    · rw [kZ, hcnt, Int32.sub_add_cancel]
    · rw [kC pa, if_pos rfl, ew, est]
    · rw [kC pa, if_pos rfl]; exact ppos
    · rw [kC q] at k ⊢
      rw [hfl]
      by_cases h4 : q = pa
      · rw [if_pos h4, ew]; omega
      · rw [if_neg h4] at k ⊢
        by_cases h5 : q = w
        · rw [if_pos h5] at k; exact absurd (Int32.le_refl 0) k
        · rw [if_neg h5] at k ⊢
          exact hmin q hq k
/-- a call heard keeps the lists well; the estimate grows by 1, the floor doesn't fall -/
theorem WI_take {L : LV} {cap pa : Nat} (h9 : cap < 1000) (hp : pa < 26) (hi : WI L cap) (hs : smI L.2.2.2.2.2.2.2.2 26 + 1 ≤ 99999) : WI (tkL (nI (cap + 1)) (nI cap) L pa) cap ∧ smI (tkL (nI (cap + 1)) (nI cap) L pa).2.2.2.2.2.2.2.2 26 = smI L.2.2.2.2.2.2.2.2 26 + 1 ∧
    (flEst (tkL (nI (cap + 1)) (nI cap) L pa).1 (tkL (nI (cap + 1)) (nI cap) L pa).2.2.1 (tkL (nI (cap + 1)) (nI cap) L pa).2.2.2.2.1 (nI (cap + 1)) pa).toInt = (flEst L.1 L.2.2.1 L.2.2.2.2.1 (nI (cap + 1)) pa).toInt + 1 ∧ ¬ (tkL (nI (cap + 1)) (nI cap) L pa).1 pa ≤ 0 ∧
    (flLeast L.1 L.2.2.1 L.2.2.2.2.1 (nI (cap + 1))).toInt ≤ (flLeast (tkL (nI (cap + 1)) (nI cap) L pa).1 (tkL (nI (cap + 1)) (nI cap) L pa).2.2.1 (tkL (nI (cap + 1)) (nI cap) L pa).2.2.2.2.1 (nI (cap + 1))).toInt := by
  obtain ⟨fc, fs, fg, ch, sz, wf, wo, wz, tf⟩ := L
  obtain ⟨hA, hB, hC, hS, hw0, hsz, hcap, hwz, hwc⟩ := hi
  dsimp only at hA hB hC hS hw0 hsz hcap hwz hwc hs ⊢
  subst hsz
  subst hwz
  have tS : ∀ p, p < 26 → (tf p).toInt ≤ smI tf 26 := (smI_nn (f := tf) 26 (fun j hj => (hA j hj).1)).2
  obtain ⟨s1, s2, s3, s4⟩ := st_take (wf := wf) (tf := tf) (wo := wo) (cap := cap) (pa := pa) (S := smI tf 26) h9 hp (fun p hp2 => by have a := hA p hp2; have b := tS p hp2; omega) hs hw0 hwc
  obtain ⟨f1, f2, f3, f4, f5, f6, f7, f8, f9⟩ := fl_take (fc := fc) (fs := fs) (fg := fg) (tf := tf) (cap := cap) (pa := pa) (S := smI tf 26) h9 hp (fun p hp2 => by have a := hA p hp2; have b := tS p hp2; omega) hB hC hs hcap
  have hsum : smI (upd tf pa (tf pa + 1)) 26 = smI tf 26 + 1 := by
    have a := hA pa hp
    have b := tS pa hp
    rw [smI_upd tf pa (tf pa + 1) 26 hp, t_1 a.1 (by omega)]
    omega
  have tnn : ∀ p, p < 26 → 0 ≤ (upd tf pa (tf pa + 1) p).toInt := fun p hp2 => by have := s1 p hp2; omega
  refine ⟨⟨fun p hp2 => ?_, f2, f3, ?_, s2, f4, f5, s3, s4⟩, hsum, ?_, f8, ?_⟩
  · have a := s1 p hp2
    have b := f1 p hp2
    have c := tnn p hp2
    dsimp only [tkL]
    rw [hsum]
    omega
  · dsimp only [tkL]
    rw [hsum]; exact hs
  · dsimp only [tkL]
    rw [← f7]
    unfold flEst
    rw [if_neg f8]
  · dsimp only [tkL]
    rw [f4]
    rcases least_sp fc fg h9 hcap with ⟨_, _, h3⟩ | ⟨h1, h2, _⟩
    · rw [h3]
      rcases least_sp (tkC fc fg (nI (cntN fc 26)) (nI (cap + 1)) pa) (upd fg pa (ch + 1)) h9 f5 with ⟨_, _, g3⟩ | ⟨_, _, w, g3, _, g5, g6, _⟩
      · rw [g3]; exact Int.le_refl _
      · rw [g6]
        have := nI_p.mp g5
        have z0 : (0 : Int32).toInt = 0 := rfl
        omega
    · rcases least_sp (tkC fc fg (nI (cntN fc 26)) (nI (cap + 1)) pa) (upd fg pa (ch + 1)) h9 f5 with ⟨_, g2, _⟩ | ⟨_, _, w, g3, _, g5, g6, _⟩
      · omega
      · rw [g6]
        exact f9 w g3 g5
end PTAKE2
