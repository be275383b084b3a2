section PMERGE2
/-- what a well kept listener's estimates are worth -/
theorem WI_floor {L : LV} {cap : Nat} (h9 : cap < 1000) (hi : WI L cap) : 0 ≤ (flLeast L.1 L.2.2.1 L.2.2.2.2.1 (nI (cap + 1))).toInt ∧ (flLeast L.1 L.2.2.1 L.2.2.2.2.1 (nI (cap + 1))).toInt ≤ smI L.2.2.2.2.2.2.2.2 26 ∧ (∀ w, w < 26 → ¬ L.1 w ≤ 0 → (flLeast L.1 L.2.2.1 L.2.2.2.2.1 (nI (cap + 1))).toInt ≤ (L.1 w).toInt) ∧ (∀ p, p < 26 → L.1 p ≤ 0 → (L.2.2.2.2.2.2.2.2 p).toInt ≤ (flLeast L.1 L.2.2.1 L.2.2.2.2.1 (nI (cap + 1))).toInt) ∧ (cntN L.1 26 ≤ cap → flLeast L.1 L.2.2.1 L.2.2.2.2.1 (nI (cap + 1)) = 0) ∧ (¬ cntN L.1 26 ≤ cap → 0 < (flLeast L.1 L.2.2.1 L.2.2.2.2.1 (nI (cap + 1))).toInt) := by
  obtain ⟨fc, fs, fg, ch, sz, wf, wo, wz, tf⟩ := L
  obtain ⟨hA, hB, hC, hS, hw0, hsz, hcap, hwz, hwc⟩ := hi
  dsimp only at hA hB hC hS hw0 hsz hcap hwz hwc ⊢
  subst hsz
  have z0 : (0 : Int32).toInt = 0 := rfl
  have s0 := (smI_nn (f := tf) 26 (fun j hj => (hA j hj).1)).1
  rcases least_sp fc fg h9 hcap with ⟨_, h2, h3⟩ | ⟨_, h2, w, h3, h4, h5, h6, h7⟩
  · rw [h3]
    exact ⟨Int.le_refl 0, s0, fun w hw k => by have := nI_p.mp k; omega, fun p hp k => (hC p hp k).1 h2, fun _ => rfl, fun k => absurd h2 k⟩
  · rw [h6]
    have := nI_p.mp h5
    exact ⟨by omega, (hA w h3).2.2.2.2.2.2, h7, fun p hp k => (hC p hp k).2 w h3 h5, fun k => by omega, fun _ => by omega⟩
theorem WI_est {L : LV} {cap : Nat} (h9 : cap < 1000) (hi : WI L cap) {p : Nat} (hp : p < 26) : 0 ≤ (flEst L.1 L.2.2.1 L.2.2.2.2.1 (nI (cap + 1)) p).toInt ∧ (flEst L.1 L.2.2.1 L.2.2.2.2.1 (nI (cap + 1)) p).toInt ≤ smI L.2.2.2.2.2.2.2.2 26 ∧ (L.2.2.2.2.2.2.2.2 p).toInt ≤ (flEst L.1 L.2.2.1 L.2.2.2.2.1 (nI (cap + 1)) p).toInt ∧ 0 ≤ (flSure L.1 L.2.1 p).toInt ∧ (flSure L.1 L.2.1 p).toInt ≤ (L.2.2.2.2.2.2.2.2 p).toInt ∧ (flLeast L.1 L.2.2.1 L.2.2.2.2.1 (nI (cap + 1))).toInt ≤ (flEst L.1 L.2.2.1 L.2.2.2.2.1 (nI (cap + 1)) p).toInt := by
  obtain ⟨e1, e2, e3, e4, e5, _⟩ := WI_floor h9 hi
  have z0 : (0 : Int32).toInt = 0 := rfl
  have a := hi.1 p hp
  by_cases h : L.1 p ≤ 0
  · unfold flEst flSure
    rw [if_pos h, if_pos h]
    have := e4 p hp h
    exact ⟨e1, e2, this, Int.le_refl 0, by omega, Int.le_refl _⟩
  · have b := hi.2.1 p hp h
    have := e3 p hp h
    unfold flEst flSure
    rw [if_neg h, if_neg h, i32_sub (by omega) (by have := Int32.toInt_lt (L.1 p); omega)]
    omega
theorem sm_merge {wf vf tf uf : Nat → Int32} {wo vo : Int32} {cap : Nat} {S R : Int} (h9 : cap < 26) (hA : ∀ p, p < 26 → 0 ≤ (tf p).toInt ∧ 0 ≤ (wf p).toInt ∧ (wf p).toInt ≤ (tf p).toInt ∧ (tf p).toInt ≤ (wf p).toInt + wo.toInt ∧ (wf p).toInt + wo.toInt ≤ S) (hA2 : ∀ p, p < 26 → 0 ≤ (uf p).toInt ∧ 0 ≤ (vf p).toInt ∧ (vf p).toInt ≤ (uf p).toInt ∧ (uf p).toInt ≤ (vf p).toInt + vo.toInt ∧ (vf p).toInt + vo.toInt ≤ R) (hS : S + R ≤ 99999) (hS0 : 0 ≤ S) (hR0 : 0 ≤ R) (hw0 : 0 ≤ wo.toInt) (hv0 : 0 ≤ vo.toInt) :
    (∀ p, p < 26 → 0 ≤ (smC wf vf (nI cap) p).toInt ∧ (smC wf vf (nI cap) p).toInt ≤ (tf p).toInt + (uf p).toInt ∧ (tf p).toInt + (uf p).toInt ≤ (smC wf vf (nI cap) p).toInt + (smO wf vf wo (nI cap) vo).toInt ∧ (smC wf vf (nI cap) p).toInt + (smO wf vf wo (nI cap) vo).toInt ≤ S + R) ∧ wo.toInt ≤ (smO wf vf wo (nI cap) vo).toInt ∧ smZ wf vf (nI cap) = nI (cntN (smC wf vf (nI cap)) 26) ∧ cntN (smC wf vf (nI cap)) 26 ≤ cap := by
  have hm : ∀ p, p < 26 → (smA wf vf 26 p).toInt = (wf p).toInt + (vf p).toInt := fun p hp => by
    have a := hA p hp
    have b := hA2 p hp
    rw [smA_at, if_pos hp, i32_add (by omega) (by omega)]
  have p0 := hA 0 (by omega)
  have q0 := hA2 0 (by omega)
  have ewv : (wo + vo).toInt = wo.toInt + vo.toInt := i32_add (by omega) (by omega)
  have hbm := cntN_le (smA wf vf 26) 26
  rcases pAtN_sp (smA wf vf 26) (nI cap) 26 0 rfl with ⟨e1, e2⟩ | ⟨k, _, hk, e1, e2, e3⟩
  · have eC : smC wf vf (nI cap) = smA wf vf 26 := by unfold smC; rw [if_pos e1]
    have eO : smO wf vf wo (nI cap) vo = wo + vo := by unfold smO; rw [if_pos e1]
    have eZ : smZ wf vf (nI cap) = nI (cntN (smA wf vf 26) 26) := by unfold smZ; rw [if_pos e1]
    rw [eC, eO, eZ, ewv]
    refine ⟨fun p hp => ?_, by omega, rfl, ?_⟩
    · have a := hA p hp
      have b := hA2 p hp
      rw [hm p hp]
      omega
    · refine Classical.byContradiction fun c => ?_
      obtain ⟨q, h1, h2, h3, h4⟩ := pAtN_ex (smA wf vf 26) (m := cap) (by omega)
      rw [h2] at e1
      exact nI_ne1 (by omega) e1
  · have en : ¬ pAtN (smA wf vf 26) (nI cap) 26 0 = -1 := by rw [e1]; exact nI_ne1 (by omega)
    have ek : (pAtN (smA wf vf 26) (nI cap) 26 0).toNatClampNeg = k := by rw [e1, nI_clamp (by omega)]
    have eC : smC wf vf (nI cap) = wdN (smA wf vf 26) (smA wf vf 26 k) 26 := by unfold smC; rw [if_neg en, ek]
    have eO : smO wf vf wo (nI cap) vo = wo + vo + smA wf vf 26 k := by unfold smO; rw [if_neg en, ek]
    have eZ : smZ wf vf (nI cap) = nI (cntN (wdN (smA wf vf 26) (smA wf vf 26 k) 26) 26) := by unfold smZ; rw [if_neg en, ek]
    have ak := hA k hk
    have bk := hA2 k hk
    have mk := hm k hk
    have eo : (wo + vo + smA wf vf 26 k).toInt = wo.toInt + vo.toInt + ((wf k).toInt + (vf k).toInt) := by
      rw [i32_add (by omega) (by omega), ewv, mk]
    rw [eC, eO, eZ, eo]
    have hpk : posN (smA wf vf 26) k 26 = cap := by
      have := posN_le' (smA wf vf 26) k hk 26 (Nat.le_refl 26)
      exact (nI_eq (by omega) (by omega)).mp e3
    have hwd : ∀ p, p < 26 → 0 ≤ (wdN (smA wf vf 26) (smA wf vf 26 k) 26 p).toInt ∧ (wdN (smA wf vf 26) (smA wf vf 26 k) 26 p).toInt ≤ (wf p).toInt + (vf p).toInt ∧ (wf p).toInt + (vf p).toInt ≤ (wdN (smA wf vf 26) (smA wf vf 26 k) 26 p).toInt + ((wf k).toInt + (vf k).toInt) ∧ (0 < (wdN (smA wf vf 26) (smA wf vf 26 k) 26 p).toInt → (wdN (smA wf vf 26) (smA wf vf 26 k) 26 p).toInt + ((wf k).toInt + (vf k).toInt) = (wf p).toInt + (vf p).toInt) := fun p hp => by
      have a := hA p hp
      have b := hA2 p hp
      have c := wd_int (x := smA wf vf 26 p) (v := smA wf vf 26 k) (by rw [hm p hp]; omega) (by rw [mk]; omega)
      rw [hm p hp, mk] at c
      rw [wdN_at, if_pos hp]
      exact c
    refine ⟨fun p hp => ?_, by omega, rfl, ?_⟩
    · have a := hA p hp
      have b := hA2 p hp
      obtain ⟨c1, c2, c3, c4⟩ := hwd p hp
      omega
    · have := cnt_pos (f := smA wf vf 26) (g := wdN (smA wf vf 26) (smA wf vf 26 k) 26) hk 26 (Nat.le_refl 26) (fun j hj h => by
        obtain ⟨c1, c2, c3, c4⟩ := hwd j hj
        have h2 := nI_p.mp h
        have h3 := c4 h2
        refine Or.inl ?_
        rw [i_lt, mk, hm j hj]
        omega)
      omega
/-- merging keeps the lists well -/
theorem WI_merge {L K : LV} {cap : Nat} (h9 : cap < 26) (hi : WI L cap) (hj : WI K cap) (hs : smI L.2.2.2.2.2.2.2.2 26 + smI K.2.2.2.2.2.2.2.2 26 ≤ 99999) :
    WI (mrC (mgC L.1 L.2.2.1 K.1 K.2.2.1 L.2.2.2.2.1 (nI (cap + 1)) K.2.2.2.2.1 (nI (cap + 1))) (cap + 1), mgS L.1 L.2.1 L.2.2.1 K.1 K.2.1 K.2.2.1 L.2.2.2.2.1 (nI (cap + 1)) K.2.2.2.2.1 (nI (cap + 1)), idN L.2.2.1 26, 26, mrZ (mgC L.1 L.2.2.1 K.1 K.2.2.1 L.2.2.2.2.1 (nI (cap + 1)) K.2.2.2.2.1 (nI (cap + 1))) (cap + 1), smC L.2.2.2.2.2.1 K.2.2.2.2.2.1 (nI cap), smO L.2.2.2.2.2.1 K.2.2.2.2.2.1 L.2.2.2.2.2.2.1 (nI cap) K.2.2.2.2.2.2.1, smZ L.2.2.2.2.2.1 K.2.2.2.2.2.1 (nI cap), smA L.2.2.2.2.2.2.2.2 K.2.2.2.2.2.2.2.2 26) cap ∧
    smI (smA L.2.2.2.2.2.2.2.2 K.2.2.2.2.2.2.2.2 26) 26 = smI L.2.2.2.2.2.2.2.2 26 + smI K.2.2.2.2.2.2.2.2 26 ∧ L.2.2.2.2.2.2.1.toInt ≤ (smO L.2.2.2.2.2.1 K.2.2.2.2.2.1 L.2.2.2.2.2.2.1 (nI cap) K.2.2.2.2.2.2.1).toInt := by
  have h10 : cap < 1000 := by omega
  obtain ⟨e1, e2, e3, e4, e5, _⟩ := WI_floor h10 hi
  obtain ⟨g1, g2, g3, g4, g5, _⟩ := WI_floor h10 hj
  have hE := fun p (hp : p < 26) => WI_est h10 hi hp
  have hG := fun p (hp : p < 26) => WI_est h10 hj hp
  obtain ⟨fc, fs, fg, ch, sz, wf, wo, wz, tf⟩ := L
  obtain ⟨gc, gs, gg, hh, hz, vf, vo, vz, uf⟩ := K
  obtain ⟨hA, hB, hC, hS, hw0, hsz, hcap, hwz, hwc⟩ := hi
  obtain ⟨kA, kB, kC, kS, kw0, ksz, kcap, kwz, kwc⟩ := hj
  dsimp only at hA hB hC hS hw0 hsz hcap hwz hwc kA kB kC kS kw0 ksz kcap kwz kwc hs e1 e2 e3 e4 e5 g1 g2 g3 g4 g5 hE hG ⊢
  have z0 : (0 : Int32).toInt = 0 := rfl
  have sS0 := smI_nn (f := tf) 26 (fun j hj => (hA j hj).1)
  have sR0 := smI_nn (f := uf) 26 (fun j hj => (kA j hj).1)
  obtain ⟨w1, w2, w3, w4⟩ := sm_merge (wf := wf) (vf := vf) (tf := tf) (uf := uf) (wo := wo) (vo := vo) (cap := cap) (S := smI tf 26) (R := smI uf 26) h9 (fun p hp => by have := hA p hp; omega) (fun p hp => by have := kA p hp; omega) hs sS0.1 sR0.1 hw0 kw0
  have hT : ∀ p, p < 26 → (smA tf uf 26 p).toInt = (tf p).toInt + (uf p).toInt := fun p hp => by
    have a := hA p hp
    have b := kA p hp
    have a2 := sS0.2 p hp
    have b2 := sR0.2 p hp
    rw [smA_at, if_pos hp, i32_add (by omega) (by omega)]
  have hsum : smI (smA tf uf 26) 26 = smI tf 26 + smI uf 26 := by
    have gen : ∀ n, n ≤ 26 → smI (smA tf uf 26) n = smI tf n + smI uf n := by
      intro n
      induction n with
      | zero => intro _; rfl
      | succ n ih =>
        intro hn
        have h1 := ih (by omega)
        have h2 := hT n (by omega)
        show smI (smA tf uf 26) n + (smA tf uf 26 n).toInt = smI tf n + (tf n).toInt + (smI uf n + (uf n).toInt)
        omega
    exact gen 26 (Nat.le_refl 26)
  -- the merged counts
  have hm : ∀ p, p < 26 → ¬ (fc p ≤ 0 ∧ gc p ≤ 0) → mgC fc fg gc gg sz (nI (cap + 1)) hz (nI (cap + 1)) p = flEst fc fg sz (nI (cap + 1)) p + flEst gc gg hz (nI (cap + 1)) p ∧ (mgC fc fg gc gg sz (nI (cap + 1)) hz (nI (cap + 1)) p).toInt = (flEst fc fg sz (nI (cap + 1)) p).toInt + (flEst gc gg hz (nI (cap + 1)) p).toInt := fun p hp h => by
    have e : mgC fc fg gc gg sz (nI (cap + 1)) hz (nI (cap + 1)) p = flEst fc fg sz (nI (cap + 1)) p + flEst gc gg hz (nI (cap + 1)) p := by
      unfold mgC
      rw [adC_at, if_pos ⟨hp, h⟩]
      rfl
    have a := hE p hp
    have b := hG p hp
    refine ⟨e, ?_⟩
    rw [e, i32_add (by omega) (by omega)]
  have hn : ∀ p, p < 26 → fc p ≤ 0 ∧ gc p ≤ 0 → mgC fc fg gc gg sz (nI (cap + 1)) hz (nI (cap + 1)) p = fc p := fun p hp h => by
    unfold mgC
    rw [adC_at, if_neg (fun k => k.2 h)]
  have ms : ∀ p, p < 26 → ¬ (fc p ≤ 0 ∧ gc p ≤ 0) → (mgS fc fs fg gc gs gg sz (nI (cap + 1)) hz (nI (cap + 1)) p).toInt = (flEst fc fg sz (nI (cap + 1)) p).toInt + (flEst gc gg hz (nI (cap + 1)) p).toInt - ((flSure fc fs p).toInt + (flSure gc gs p).toInt) := fun p hp h => by
    have e : mgS fc fs fg gc gs gg sz (nI (cap + 1)) hz (nI (cap + 1)) p = flEst fc fg sz (nI (cap + 1)) p + flEst gc gg hz (nI (cap + 1)) p - (flSure fc fs p + flSure gc gs p) := by
      unfold mgS
      rw [adS_at, if_pos ⟨hp, h⟩]
      rfl
    have a := hE p hp
    have b := hG p hp
    have a2 := sS0.2 p hp
    have b2 := sR0.2 p hp
    have x1 : (flEst fc fg sz (nI (cap + 1)) p + flEst gc gg hz (nI (cap + 1)) p).toInt = (flEst fc fg sz (nI (cap + 1)) p).toInt + (flEst gc gg hz (nI (cap + 1)) p).toInt := i32_add (by omega) (by omega)
    have x2 : (flSure fc fs p + flSure gc gs p).toInt = (flSure fc fs p).toInt + (flSure gc gs p).toInt := i32_add (by omega) (by omega)
    rw [e, i32_sub (by omega) (by omega), x1, x2]
  have mpos : ∀ p, p < 26 → (¬ mgC fc fg gc gg sz (nI (cap + 1)) hz (nI (cap + 1)) p ≤ 0 ↔ ¬ (fc p ≤ 0 ∧ gc p ≤ 0)) := fun p hp => by
    refine ⟨fun k h => k (by rw [hn p hp h]; exact h.1), fun h => ?_⟩
    rw [nI_p, (hm p hp h).2]
    have a := hE p hp
    have b := hG p hp
    have a2 := hA p hp
    have b2 := kA p hp
    by_cases c : fc p ≤ 0
    · have d : ¬ gc p ≤ 0 := fun d => h ⟨c, d⟩
      have e : flEst gc gg hz (nI (cap + 1)) p = gc p := by unfold flEst; rw [if_neg d]
      have := nI_p.mp d
      rw [e]; omega
    · have e : flEst fc fg sz (nI (cap + 1)) p = fc p := by unfold flEst; rw [if_neg c]
      have := nI_p.mp c
      rw [e]; omega
  obtain ⟨r1, r2, r3⟩ := mrC_sp (mgC fc fg gc gg sz (nI (cap + 1)) hz (nI (cap + 1))) (cap + 1)
  have kept : ∀ p, p < 26 → ¬ mrC (mgC fc fg gc gg sz (nI (cap + 1)) hz (nI (cap + 1))) (cap + 1) p ≤ 0 → ¬ (fc p ≤ 0 ∧ gc p ≤ 0) ∧ posN (mgC fc fg gc gg sz (nI (cap + 1)) hz (nI (cap + 1))) p 26 ≤ cap ∧ mrC (mgC fc fg gc gg sz (nI (cap + 1)) hz (nI (cap + 1))) (cap + 1) p = mgC fc fg gc gg sz (nI (cap + 1)) hz (nI (cap + 1)) p := fun p hp k => by
    rw [r1 p hp] at k ⊢
    by_cases c : ¬ mgC fc fg gc gg sz (nI (cap + 1)) hz (nI (cap + 1)) p ≤ 0 ∧ cap + 1 ≤ posN (mgC fc fg gc gg sz (nI (cap + 1)) hz (nI (cap + 1))) p 26
    · rw [if_pos c] at k; exact absurd (Int32.le_refl 0) k
    · rw [if_neg c] at k ⊢
      exact ⟨(mpos p hp).mp k, Classical.byContradiction fun c2 => c ⟨k, by omega⟩, rfl⟩
  refine ⟨⟨fun p hp => ?_, fun p hp k => ?_, fun p hp k => ?_, by rw [hsum]; exact hs, Int.le_trans hw0 w2, r3, by rw [r2]; omega, w3, w4⟩, hsum, w2⟩
  · have a := hA p hp
    have b := kA p hp
    have w := w1 p hp
    have x := hE p hp
    have y := hG p hp
    dsimp only
    rw [hT p hp, hsum]
    have bnd : 0 ≤ (mrC (mgC fc fg gc gg sz (nI (cap + 1)) hz (nI (cap + 1))) (cap + 1) p).toInt ∧ (mrC (mgC fc fg gc gg sz (nI (cap + 1)) hz (nI (cap + 1))) (cap + 1) p).toInt ≤ smI tf 26 + smI uf 26 := by
      rw [r1 p hp]
      by_cases c : ¬ mgC fc fg gc gg sz (nI (cap + 1)) hz (nI (cap + 1)) p ≤ 0 ∧ cap + 1 ≤ posN (mgC fc fg gc gg sz (nI (cap + 1)) hz (nI (cap + 1))) p 26
      · rw [if_pos c, z0]
        have := sS0.1
        have := sR0.1
        omega
      · rw [if_neg c]
        by_cases d : fc p ≤ 0 ∧ gc p ≤ 0
        · rw [hn p hp d]
          have := sR0.1
          omega
        · rw [(hm p hp d).2]; omega
    omega
  · obtain ⟨k1, k2, k3⟩ := kept p hp k
    have x := hE p hp
    have y := hG p hp
    dsimp only
    rw [k3, (hm p hp k1).2, ms p hp k1, hT p hp]
    have a2 := hA p hp
    have b2 := kA p hp
    omega
  · dsimp only at k ⊢
    rw [hT p hp]
    have x := hE p hp
    have y := hG p hp
    by_cases d : fc p ≤ 0 ∧ gc p ≤ 0
    · have t1 := e4 p hp d.1
      have t2 := g4 p hp d.2
      refine ⟨fun c => ?_, fun w hw c => ?_⟩
      · rw [r2] at c
        have m1 := cntN_mono (f := fc) (g := mgC fc fg gc gg sz (nI (cap + 1)) hz (nI (cap + 1))) 26 (fun j hj k => (mpos j hj).mpr (fun q => k q.1))
        have m2 := cntN_mono (f := gc) (g := mgC fc fg gc gg sz (nI (cap + 1)) hz (nI (cap + 1))) 26 (fun j hj k => (mpos j hj).mpr (fun q => k q.2))
        have n1 := e5 (by omega)
        have n2 := g5 (by omega)
        rw [n1, z0] at t1
        rw [n2, z0] at t2
        omega
      · obtain ⟨k1, k2, k3⟩ := kept w hw c
        rw [k3, (hm w hw k1).2]
        have x2 := hE w hw
        have y2 := hG w hw
        omega
    · have mp := (mpos p hp).mpr d
      have hpos : cap + 1 ≤ posN (mgC fc fg gc gg sz (nI (cap + 1)) hz (nI (cap + 1))) p 26 := Classical.byContradiction fun c => by
        rw [r1 p hp, if_neg (fun q => c q.2)] at k
        exact mp k
      have hcn := posN_cnt hp mp 26 (Nat.le_refl 26)
      rw [if_pos hp] at hcn
      refine ⟨fun c => ?_, fun w hw c => ?_⟩
      · rw [r2] at c
        omega
      · obtain ⟨k1, k2, k3⟩ := kept w hw c
        rw [k3]
        have hle : (mgC fc fg gc gg sz (nI (cap + 1)) hz (nI (cap + 1)) p).toInt ≤ (mgC fc fg gc gg sz (nI (cap + 1)) hz (nI (cap + 1)) w).toInt := Classical.byContradiction fun c2 => by
          have h7 : ahd (mgC fc fg gc gg sz (nI (cap + 1)) hz (nI (cap + 1))) p w := Or.inl (by rw [i_lt]; omega)
          have := (posN_mono hp hw h7 26 (Nat.le_refl 26)).1
          omega
        have := (hm p hp d).2
        omega
end PMERGE2
