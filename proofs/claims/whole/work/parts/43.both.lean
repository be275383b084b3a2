section PBOTH
theorem tk_no {fc fs fg : Nat → Int32} {sz rm : Int32} {pa : Nat} (h0 : ¬ fc pa = 0 ∨ (flFull sz rm = false ∧ flLeast fc fg sz rm = 0)) : (∀ q, tkC fc fg sz rm pa q = if q = pa then fc pa + 1 else fc q) ∧ (∀ q, tkS fc fs fg sz rm pa q = if fc pa = 0 ∧ q = pa then 0 else fs q) ∧ tkZ fc fg sz rm pa = if fc pa = 0 then sz + 1 else sz := by
  by_cases h : fc pa = 0
  · obtain ⟨hf, hl⟩ := h0.resolve_left (fun k => k h)
    refine ⟨fun q => ?_, fun q => ?_, ?_⟩
    · simp only [tkC, gvC, hf, hl, upd_at, h, if_true]
      by_cases hq : q = pa
      · simp [hq]
      · simp [hq]
    · simp only [tkS, hl, upd_at, h, if_true, true_and]
    · simp only [tkZ, gvZ, hf, h, if_true]
      rfl
  · refine ⟨fun q => ?_, fun q => ?_, ?_⟩
    · simp only [tkC, h, if_false, upd_at]
    · simp only [tkS, h, if_false, false_and]
    · simp only [tkZ, h, if_false]
theorem tk_yes {fc fs fg : Nat → Int32} {sz rm : Int32} {pa w : Nat} (h0 : fc pa = 0) (hf : flFull sz rm = true) (hw : flWeak fc fg 26 = nI w) (hw26 : w < 26) (hne : w ≠ pa) : (∀ q, tkC fc fg sz rm pa q = if q = pa then fc w + 1 else if q = w then 0 else fc q) ∧ (∀ q, tkS fc fs fg sz rm pa q = if q = pa then fc w else fs q) ∧ tkZ fc fg sz rm pa = sz - 1 + 1 := by
  have hn : ¬ nI w = -1 := nI_ne1 (by omega)
  have hk : (nI w).toNatClampNeg = w := nI_clamp (by omega)
  have hl : flLeast fc fg sz rm = fc w := by
    simp only [flLeast, hf, hw, hn, hk, if_true, if_false]
  refine ⟨fun q => ?_, fun q => ?_, ?_⟩
  · simp only [tkC, gvC, flRemC, hf, hl, hw, hn, hk, upd_at, h0, if_true, if_false]
    by_cases hq : q = pa
    · simp [hq]
    · simp [hq]
  · simp only [tkS, hl, upd_at, h0, if_true]
  · simp only [tkZ, gvZ, flRemZ, hf, hw, hn, h0, if_true, if_false]
theorem LR_take {L : LV} {al : Nat → Int32} {cap pa : Nat} (hc : al 264 = nI cap) (h9 : cap < 1000) (hp : pa < 26) (hi : LI al 0) (hs : smI (rwF al 0) 26 + 1 ≤ 99999) (h : LR L al 0) : LR (tkL (nI (cap + 1)) (nI cap) L pa) (heM al pa) 0 := by
  have hfull := LR_full h hc h9
  have hwk := LR_weak h
  have hleast := LR_least h hc h9
  have hcw := LR_cntW h
  obtain ⟨fc, fs, fg, ch, sz, wf, wo, wz, tf⟩ := L
  have hi0 := LI0.mp hi
  obtain ⟨hr, hsm, hest, hcl, hk0, hk1⟩ := hi0
  obtain ⟨lr, lo, lg, lc0, lc1, lz, lw, lwz⟩ := LR0.mp h
  obtain ⟨_, hW, hWo, hhi⟩ := heM_hi hc h9 hp
  dsimp only at lr lo lg lc0 lc1 lz lw lwz hfull hwk hleast hcw
  have bnd : ∀ q, q < 26 → (al q).toInt ≤ 99998 := by
    intro q hq
    have := (smI_nn (f := rwF al 0) 26 (fun j hj => by show 0 ≤ (al (0 + j)).toInt; rw [Nat.zero_add]; exact (hr j hj).1)).2 q hq
    have e2 : rwF al 0 q = al q := by show al (0 + q) = _; rw [Nat.zero_add]
    rw [e2] at this
    omega
  have hch : (ch + 1).toInt = ch.toInt + 1 := t_1 lc0 (by omega)
  have hck : (al 131 + 1).toInt = (al 131).toInt + 1 := t_1 hk0 (by omega)
  -- the second list
  have hwe : (wf pa ≤ 0 ∧ nI cap ≤ wz) ↔ weX al pa = true := by
    unfold weX
    rw [decide_eq_true_eq, (lr pa hp).2.2.1, hc, lwz, hcw]
  have worn : (∀ q, q < 26 → stC wf wz (nI cap) pa q = heM al pa (104 + q)) ∧ stO wf wo wz (nI cap) pa = heM al pa 130 ∧ stZ wf wz (nI cap) pa = nI (cntN (stC wf wz (nI cap) pa) 26) := by
    by_cases hwx : weX al pa = true
    · obtain ⟨a, b⟩ := hwe.mpr hwx
      refine ⟨fun q hq => ?_, ?_, ?_⟩
      · rw [hW q hq, if_pos hwx]
        unfold stC
        rw [if_pos a, if_pos b, wdN_at, if_pos hq, wd_wr (by rw [(lr q hq).2.2.1]; exact (hr q hq).2.1) (by decide), (lr q hq).2.2.1]
      · rw [hWo, if_pos hwx]
        unfold stO
        rw [if_pos a, if_pos b, lw]
      · unfold stZ stC
        rw [if_pos a, if_pos b, if_pos a, if_pos b]
    · refine ⟨fun q hq => ?_, ?_, ?_⟩
      · rw [hW q hq, if_neg hwx]
        unfold stC
        by_cases a : wf pa ≤ 0
        · have b : ¬ nI cap ≤ wz := fun b => hwx (hwe.mp ⟨a, b⟩)
          rw [if_pos a, if_neg b, upd_at]
          by_cases hq2 : q = pa
          · rw [if_pos hq2, if_pos hq2]
            have a2 := (hr pa hp).2.1
            rw [(lr pa hp).2.2.1, nI_n] at a
            have e : al (104 + pa) = 0 := Int32.toInt_inj.mp (by show _ = (0 : Int); omega)
            rw [e]; rfl
          · rw [if_neg hq2, if_neg hq2, (lr q hq).2.2.1]
        · rw [if_neg a, upd_at]
          by_cases hq2 : q = pa
          · rw [if_pos hq2, if_pos hq2, (lr pa hp).2.2.1]
          · rw [if_neg hq2, if_neg hq2, (lr q hq).2.2.1]
      · rw [hWo, if_neg hwx]
        unfold stO
        by_cases a : wf pa ≤ 0
        · have b : ¬ nI cap ≤ wz := fun b => hwx (hwe.mp ⟨a, b⟩)
          rw [if_pos a, if_neg b, lw]
        · rw [if_neg a, lw]
      · unfold stZ stC
        by_cases a : wf pa ≤ 0
        · have b : ¬ nI cap ≤ wz := fun b => hwx (hwe.mp ⟨a, b⟩)
          rw [if_pos a, if_neg b, if_pos a, if_neg b, lwz, nI_1]
          have e := cntN_upd wf pa 1 26
          rw [if_neg (show ¬ (pa < 26 ∧ ¬ wf pa ≤ 0) from fun k => k.2 a), if_pos (show pa < 26 ∧ ¬ (1 : Int32) ≤ 0 from ⟨hp, by decide⟩)] at e
          rw [← e]
          rfl
        · rw [if_neg a, if_neg a, lwz]
          have e := cntN_upd wf pa (wf pa + 1) 26
          have e1 : ¬ wf pa + 1 ≤ 0 := by
            rw [nI_p, (lr pa hp).2.2.1, t_1 (hr pa hp).2.1 (by have := (hr pa hp).2.2.1; have := bnd pa hp; omega)]
            have := (hr pa hp).2.1
            omega
          rw [if_pos (show pa < 26 ∧ ¬ wf pa ≤ 0 from ⟨hp, a⟩), if_pos (show pa < 26 ∧ ¬ wf pa + 1 ≤ 0 from ⟨hp, e1⟩)] at e
          congr 1
          omega
  -- the order of the changes, given what is counted
  have order : ∀ (hrg : ∀ q, q < 26 → ¬ tkC fc fg sz (nI (cap + 1)) pa q ≤ 0 → q ≠ pa → ¬ fc q ≤ 0 ∧ heM al pa (78 + q) = al (78 + q)) (hrp : heM al pa (78 + pa) = al 131 + 1), ∀ p q, p < 26 → q < 26 → ¬ tkC fc fg sz (nI (cap + 1)) pa p ≤ 0 → ¬ tkC fc fg sz (nI (cap + 1)) pa q ≤ 0 → (upd fg pa (ch + 1) p ≤ upd fg pa (ch + 1) q ↔ heM al pa (78 + p) ≤ heM al pa (78 + q)) := by
    intro hrg hrp p q hp1 hq1 h1 h2
    rw [upd_at, upd_at]
    by_cases e1 : p = pa
    · by_cases e2 : q = pa
      · rw [e1, e2]
        exact iff_of_true (Int32.le_refl _) (Int32.le_refl _)
      · obtain ⟨g1, g2⟩ := hrg q hq1 h2 e2
        rw [if_pos e1, if_neg e2, e1, hrp, g2]
        have g3 := lg q hq1 g1
        have g4 := hcl q hq1 (by rw [← (lr q hq1).1]; exact g1)
        rw [Int32.le_iff_toInt_le] at g3 g4
        refine iff_of_false ?_ ?_ <;> rw [Int32.le_iff_toInt_le] <;> omega
    · obtain ⟨k1, k2⟩ := hrg p hp1 h1 e1
      have k3 := lg p hp1 k1
      have k4 := hcl p hp1 (by rw [← (lr p hp1).1]; exact k1)
      rw [Int32.le_iff_toInt_le] at k3 k4
      by_cases e2 : q = pa
      · rw [if_neg e1, if_pos e2, e2, hrp, k2]
        refine iff_of_true ?_ ?_ <;> rw [Int32.le_iff_toInt_le] <;> omega
      · obtain ⟨g1, g2⟩ := hrg q hq1 h2 e2
        rw [if_neg e1, if_neg e2, k2, g2]
        exact lo p q hp1 hq1 k1 g1
  have lateC : ∀ (hrg : ∀ q, q < 26 → ¬ tkC fc fg sz (nI (cap + 1)) pa q ≤ 0 → q ≠ pa → ¬ fc q ≤ 0), ∀ p, p < 26 → ¬ tkC fc fg sz (nI (cap + 1)) pa p ≤ 0 → upd fg pa (ch + 1) p ≤ ch + 1 := by
    intro hrg p hp1 h1
    rw [upd_at]
    by_cases e1 : p = pa
    · rw [if_pos e1]; exact Int32.le_refl _
    · rw [if_neg e1]
      have k3 := lg p hp1 (hrg p hp1 h1 e1)
      rw [Int32.le_iff_toInt_le] at k3 ⊢
      omega
  refine LR0.mpr ?_
  dsimp only [tkL]
  rcases he_cases hc h9 hp with ⟨hno, e⟩ | ⟨hz, hf, w, hw, hne, hwk2, hwp, hfl, hmin, e⟩
  · obtain ⟨rt, rc, rs, rg, rk⟩ := heM_no hc h9 hp e
    have hsum := heM_sum hp (hr pa hp).1 (by have := bnd pa hp; omega) rt
    have h0 : ¬ fc pa = 0 ∨ (flFull sz (nI (cap + 1)) = false ∧ flLeast fc fg sz (nI (cap + 1)) = 0) := by
      by_cases k : fc pa = 0
      · rw [(lr pa hp).1] at k
        rcases mFloor_sp0 al hc h9 with ⟨a, b⟩ | ⟨a, _⟩
        · exact Or.inr ⟨by rw [hfull, a], by rw [hleast, b]⟩
        · exact absurd ⟨k, a⟩ hno
      · exact Or.inl k
    obtain ⟨kC, kS, kZ⟩ := tk_no (fs := fs) h0
    have pos1 : ¬ fc pa + 1 ≤ 0 := by
      have a := (hr pa hp).2.2.2
      rw [nI_p, (lr pa hp).1, t_1 (by omega) (by omega)]; omega
    have ctd : ∀ q, q < 26 → ¬ tkC fc fg sz (nI (cap + 1)) pa q ≤ 0 → q ≠ pa → ¬ fc q ≤ 0 := fun q hq k k2 => by
      rw [kC q, if_neg k2] at k; exact k
    refine ⟨fun q hq => ⟨?_, fun k => ?_, worn.1 q hq, ?_⟩, order (fun q hq k k2 => ⟨ctd q hq k k2, by rw [rg q hq, if_neg k2]⟩) (by rw [rg pa hp, if_pos rfl]), lateC ctd, by omega, by rw [hsum]; omega, ?_, worn.2.1, worn.2.2⟩
    · rw [kC q, rc q hq, (lr pa hp).1, (lr q hq).1]
    · rw [kS q, rs q hq]
      by_cases hq2 : q = pa
      · subst hq2
        by_cases k3 : fc q = 0
        · rw [if_pos ⟨k3, rfl⟩]
          rw [(lr q hq).1] at k3
          have a := (hr q hq).2.2.2
          rw [k3] at a
          exact Int32.toInt_inj.mp (by have : (0 : Int32).toInt = 0 := rfl; omega)
        · rw [if_neg (fun k4 => k3 k4.1)]
          refine (lr q hq).2.1 (fun k4 => k3 ?_)
          have a := (hr q hq).2.2.2
          rw [nI_n, (lr q hq).1] at k4
          rw [(lr q hq).1]
          exact Int32.toInt_inj.mp (by have : (0 : Int32).toInt = 0 := rfl; omega)
      · rw [if_neg (fun k4 => hq2 k4.2)]
        exact (lr q hq).2.1 (ctd q hq k hq2)
    · rw [rt q hq, upd_at, (lr pa hp).2.2.2, (lr q hq).2.2.2]
    · have e1 : cntN (tkC fc fg sz (nI (cap + 1)) pa) 26 = cntN (upd fc pa (fc pa + 1)) 26 := cntN_cg 26 (fun j _ => kC j)
      have e2 := cntN_upd fc pa (fc pa + 1) 26
      rw [if_pos (show pa < 26 ∧ ¬ fc pa + 1 ≤ 0 from ⟨hp, pos1⟩)] at e2
      rw [kZ, e1, lz]
      by_cases k3 : fc pa = 0
      · rw [if_neg (show ¬ (pa < 26 ∧ ¬ fc pa ≤ 0) from fun k => k.2 (by rw [k3]; exact Int32.le_refl 0))] at e2
        rw [if_pos k3, nI_1]
        congr 1
        omega
      · have k4 : ¬ fc pa ≤ 0 := fun k4 => k3 (by
          have a := (hr pa hp).2.2.2
          rw [nI_n, (lr pa hp).1] at k4
          rw [(lr pa hp).1]
          exact Int32.toInt_inj.mp (by have : (0 : Int32).toInt = 0 := rfl; omega))
        rw [if_pos (show pa < 26 ∧ ¬ fc pa ≤ 0 from ⟨hp, k4⟩)] at e2
        rw [if_neg k3]
        congr 1
        omega
  · obtain ⟨rt, rc, rs, rg, rk⟩ := heM_yes hc h9 hp hw hne e
    have hsum := heM_sum hp (hr pa hp).1 (by have := bnd pa hp; omega) rt
    have k0 : fc pa = 0 := by rw [(lr pa hp).1]; exact hz
    obtain ⟨kC, kS, kZ⟩ := tk_yes (fs := fs) k0 (by rw [hfull]; exact hf) (by rw [hwk]; exact hwk2) hw hne
    have hcw0 := nI_p.mp hwp
    have pos1 : ¬ fc w + 1 ≤ 0 := by
      have a := (hr w hw).2.2.2
      rw [nI_p, (lr w hw).1, t_1 (by omega) (by omega)]; omega
    have ctd : ∀ q, q < 26 → ¬ tkC fc fg sz (nI (cap + 1)) pa q ≤ 0 → q ≠ pa → q ≠ w ∧ ¬ fc q ≤ 0 := fun q hq k k2 => by
      rw [kC q, if_neg k2] at k
      by_cases k3 : q = w
      · rw [if_pos k3] at k; exact absurd (Int32.le_refl 0) k
      · rw [if_neg k3] at k; exact ⟨k3, k⟩
    refine ⟨fun q hq => ⟨?_, fun k => ?_, worn.1 q hq, ?_⟩, order (fun q hq k k2 => ⟨(ctd q hq k k2).2, by rw [rg q hq, if_neg k2, if_neg (ctd q hq k k2).1]⟩) (by rw [rg pa hp, if_pos rfl]), lateC (fun q hq k k2 => (ctd q hq k k2).2), by omega, by rw [hsum]; omega, ?_, worn.2.1, worn.2.2⟩
    · rw [kC q, rc q hq, (lr w hw).1, (lr q hq).1]
    · rw [kS q, rs q hq]
      by_cases hq2 : q = pa
      · rw [if_pos hq2, if_pos hq2, (lr w hw).1]
      · obtain ⟨k3, k4⟩ := ctd q hq k hq2
        rw [if_neg hq2, if_neg hq2, if_neg k3]
        exact (lr q hq).2.1 k4
    · rw [rt q hq, upd_at, (lr pa hp).2.2.2, (lr q hq).2.2.2]
    · have e1 : cntN (tkC fc fg sz (nI (cap + 1)) pa) 26 = cntN (upd (upd fc w 0) pa (fc w + 1)) 26 := cntN_cg 26 (fun j _ => kC j)
      have e2 := cntN_upd (upd fc w 0) pa (fc w + 1) 26
      have e4 := cntN_upd fc w 0 26
      have e5 : upd fc w 0 pa = 0 := by
        show (if pa = w then (0 : Int32) else fc pa) = 0
        rw [k0]; split <;> rfl
      rw [if_pos (show pa < 26 ∧ ¬ fc w + 1 ≤ 0 from ⟨hp, pos1⟩), e5, if_neg (show ¬ (pa < 26 ∧ ¬ (0 : Int32) ≤ 0) from fun k => k.2 (Int32.le_refl 0))] at e2
      rw [if_neg (show ¬ (w < 26 ∧ ¬ (0 : Int32) ≤ 0) from fun k => k.2 (Int32.le_refl 0)), if_pos (show w < 26 ∧ ¬ fc w ≤ 0 from ⟨hw, by rw [(lr w hw).1]; exact hwp⟩)] at e4
      rw [kZ, e1, lz, Int32.sub_add_cancel]
      congr 1
      omega
end PBOTH
