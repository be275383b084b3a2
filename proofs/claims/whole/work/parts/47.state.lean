section PSTATE
theorem flN_cg (f : Nat → Int32) (v : Int32) : ∀ j, j < 26 → flN f v 26 j = v := fun j hj => flN_at f v 26 j hj
theorem cntN_0 {f : Nat → Int32} : ∀ n, (∀ j, j < n → f j = 0) → cntN f n = 0
  | 0, _ => rfl
  | n + 1, h => by
    have ih := cntN_0 n (fun j hj => h j (by omega))
    rcases cntN_s f n with ⟨c, d⟩ | ⟨c, d⟩
    · omega
    · rw [h n (by omega)] at c; exact absurd (Int32.le_refl 0) c
theorem smI_0 {f : Nat → Int32} : ∀ n, (∀ j, j < n → f j = 0) → smI f n = 0
  | 0, _ => rfl
  | n + 1, h => by
    show smI f n + (f n).toInt = 0
    rw [smI_0 n (fun j hj => h j (by omega)), h n (by omega)]
    rfl
/-- rows that are moved -/
theorem mv_full {al be : Nat → Int32} {fr gr : Nat} (h : ∀ k p, k + p < 132 → be (gr + k + p) = al (fr + k + p)) (hc : be 264 = al 264) : mFull be gr = mFull al fr := by
  unfold mFull
  rw [hc, cntN_cg (f := rwF be (gr + 26)) (g := rwF al (fr + 26)) 26 (fun j hj => h 26 j (by omega))]
theorem mv_weak {al be : Nat → Int32} {fr gr : Nat} (h : ∀ k p, k + p < 132 → be (gr + k + p) = al (fr + k + p)) : mWeak be gr 26 = mWeak al fr 26 := by
  refine flWeak_cg (fun j hj => h 26 j (by omega)) (fun p q hp hq _ _ => ?_) 26 (Nat.le_refl 26)
  show be (gr + 78 + p) ≤ be (gr + 78 + q) ↔ al (fr + 78 + p) ≤ al (fr + 78 + q)
  rw [h 78 p (by omega), h 78 q (by omega)]
theorem mv_floor {al be : Nat → Int32} {fr gr : Nat} {cap : Nat} (h : ∀ k p, k + p < 132 → be (gr + k + p) = al (fr + k + p)) (hc : be 264 = al 264) (hcp : al 264 = nI cap) (h9 : cap < 1000) : mFloor be gr = mFloor al fr := by
  rcases mFloor_sp al fr hcp h9 with ⟨a, b⟩ | ⟨a, w, hw, b, c, d, _⟩
  · unfold mFloor at b ⊢
    rw [mv_full h hc, a]
    rw [a] at b
    rfl
  · unfold mFloor
    rw [mv_full h hc, a, mv_weak h, b, nI_clamp (by omega)]
    show be (gr + 26 + w) = (if True then al (fr + 26 + w) else 0)
    rw [if_pos trivial, h 26 w (by omega)]
theorem LI_mv {al be : Nat → Int32} {fr gr : Nat} {cap : Nat} (h : ∀ j, j < 132 → be (gr + j) = al (fr + j)) (hc : be 264 = al 264) (hcp : al 264 = nI cap) (h9 : cap < 1000) (hi : LI al fr) : LI be gr := by
  have h' : ∀ k p, k + p < 132 → be (gr + k + p) = al (fr + k + p) := fun k p hk => by
    rw [Nat.add_assoc, Nat.add_assoc]; exact h (k + p) hk
  have hs : smI (rwF be gr) 26 = smI (rwF al fr) 26 := smI_cg 26 (fun j hj => h j (by omega))
  obtain ⟨hr, hsm, hest, hcl, hk0, hk1⟩ := hi
  refine ⟨fun p hp => ?_, by rw [hs]; exact hsm, fun p hp => ?_, fun p hp hn => ?_, ?_, ?_⟩
  · rw [h p (by omega), h' 104 p (by omega), h' 52 p (by omega), h' 26 p (by omega), hs]
    exact hr p hp
  · have e : mEst be gr p = mEst al fr p := by
      unfold mEst
      rw [h' 26 p (by omega), mv_floor h' hc hcp h9]
    rw [h p (by omega), e]
    exact hest p hp
  · rw [h' 26 p (by omega)] at hn
    rw [h' 78 p (by omega), h 131 (by omega)]
    exact hcl p hp hn
  · rw [h 131 (by omega)]; exact hk0
  · rw [h 131 (by omega), hs]; exact hk1
theorem LR_mv {L : LV} {al be : Nat → Int32} {fr gr : Nat} (h : ∀ j, j < 132 → be (gr + j) = al (fr + j)) (hl : LR L al fr) : LR L be gr := by
  have h' : ∀ k p, k + p < 132 → be (gr + k + p) = al (fr + k + p) := fun k p hk => by
    rw [Nat.add_assoc, Nat.add_assoc]; exact h (k + p) hk
  have hs : smI (rwF be gr) 26 = smI (rwF al fr) 26 := smI_cg 26 (fun j hj => h j (by omega))
  obtain ⟨lr, lo, lg, lc0, lc1, lz, lw, lwz⟩ := hl
  refine ⟨fun p hp => ?_, fun p q hp hq h1 h2 => ?_, lg, lc0, by rw [hs]; exact lc1, lz, by rw [h 130 (by omega)]; exact lw, lwz⟩
  · rw [h p (by omega), h' 104 p (by omega), h' 52 p (by omega), h' 26 p (by omega)]
    exact lr p hp
  · rw [h' 78 p (by omega), h' 78 q (by omega)]
    exact lo p q hp hq h1 h2
theorem LI_zero {be : Nat → Int32} {gr cap : Nat} (h : ∀ j, j < 132 → be (gr + j) = 0) (hc : be 264 = nI cap) (h9 : cap < 1000) : LI be gr := by
  have h' : ∀ k p, k + p < 132 → be (gr + k + p) = 0 := fun k p hk => by
    rw [Nat.add_assoc]; exact h (k + p) hk
  have hs : smI (rwF be gr) 26 = 0 := smI_0 26 (fun j hj => h j (by omega))
  have z0 : (0 : Int32).toInt = 0 := rfl
  refine ⟨fun p hp => ?_, by rw [hs]; omega, fun p hp => ?_, fun p hp hn => ?_, ?_, ?_⟩
  · rw [h p (by omega), h' 104 p (by omega), h' 52 p (by omega), h' 26 p (by omega), hs, z0]
    omega
  · rw [h p (by omega), z0]
    rcases mEst_sp be gr p with ⟨_, b⟩ | ⟨a, _⟩
    · rw [b]; exact mFloor_nn be gr hc h9
    · rw [h' 26 p (by omega)] at a; exact absurd (Int32.le_refl 0) a
  · rw [h' 26 p (by omega)] at hn; exact absurd (Int32.le_refl 0) hn
  · rw [h 131 (by omega)]; exact Int.le_refl 0
  · rw [h 131 (by omega), hs]; decide
theorem LR_zero {f0 fs fg w0 t0 : Nat → Int32} {be : Nat → Int32} {gr : Nat} (h : ∀ j, j < 132 → be (gr + j) = 0) (hf : ∀ j, j < 26 → f0 j = 0) (hw : ∀ j, j < 26 → w0 j = 0) (ht : ∀ j, j < 26 → t0 j = 0) : LR (f0, fs, fg, 0, 0, w0, 0, 0, t0) be gr := by
  have h' : ∀ k p, k + p < 132 → be (gr + k + p) = 0 := fun k p hk => by
    rw [Nat.add_assoc]; exact h (k + p) hk
  have hs : smI (rwF be gr) 26 = 0 := smI_0 26 (fun j hj => h j (by omega))
  have no : ∀ p, p < 26 → ¬ f0 p ≤ 0 → False := fun p hp hn => by
    rw [hf p hp] at hn; exact hn (Int32.le_refl 0)
  refine ⟨fun p hp => ⟨?_, fun hn => (no p hp hn).elim, ?_, ?_⟩, fun p q hp hq h1 h2 => (no p hp h1).elim, fun p hp hn => (no p hp hn).elim, (by decide : (0 : Int) ≤ (0 : Int32).toInt), ?_, ?_, ?_, ?_⟩
  · dsimp only
    rw [hf p hp, h' 26 p (by omega)]
  · dsimp only
    rw [hw p hp, h' 104 p (by omega)]
  · dsimp only
    rw [ht p hp, h p (by omega)]
  · dsimp only
    rw [hs]; decide
  · dsimp only
    rw [cntN_0 26 hf]; rfl
  · dsimp only
    rw [h 130 (by omega)]
  · dsimp only
    rw [cntN_0 26 hw]; rfl
/-- a state of the class: own lists, their rooms, lists aside, their rooms, whether something is aside, the capacity -/
abbrev ST : Type := LV × Int32 × Int32 × LV × Int32 × Int32 × Bool × Nat
def SR (s : ST) (al : Nat → Int32) : Prop :=
  1 ≤ s.2.2.2.2.2.2.2 ∧ s.2.2.2.2.2.2.2 ≤ 9 ∧ al 264 = nI s.2.2.2.2.2.2.2 ∧ al 265 = bI s.2.2.2.2.2.2.1 ∧ LI al 0 ∧ LR s.1 al 0 ∧ s.2.1 = nI (s.2.2.2.2.2.2.2 + 1) ∧ s.2.2.1 = nI s.2.2.2.2.2.2.2 ∧
  (s.2.2.2.2.2.2.1 = true → LI al 132 ∧ LR s.2.2.2.1 al 132 ∧ s.2.2.2.2.1 = nI (s.2.2.2.2.2.2.2 + 1) ∧ s.2.2.2.2.2.1 = nI s.2.2.2.2.2.2.2)
theorem SR_cg {s : ST} {al be : Nat → Int32} (h : ∀ j, j < 266 → be j = al j) (hs : SR s al) : SR s be := by
  obtain ⟨a1, a2, a3, a4, a5, a6, a7, a8, a9⟩ := hs
  have e : be 264 = al 264 := h 264 (by omega)
  refine ⟨a1, a2, by rw [e]; exact a3, by rw [h 265 (by omega)]; exact a4, LI_mv (fun j hj => h (0 + j) (by omega)) e a3 (by omega) a5, LR_mv (fun j hj => h (0 + j) (by omega)) a6, a7, a8, fun k => ?_⟩
  obtain ⟨b1, b2, b3, b4⟩ := a9 k
  exact ⟨LI_mv (fun j hj => h (132 + j) (by omega)) e a3 (by omega) b1, LR_mv (fun j hj => h (132 + j) (by omega)) b2, b3, b4⟩
theorem SR_sum {s : ST} {al : Nat → Int32} (hs : SR s al) : (smN s.1.2.2.2.2.2.2.2.2 26).toInt = smI (rwF al 0) 26 ∧ (smN (rwF al 0) 26).toInt = smI (rwF al 0) 26 ∧ 0 ≤ smI (rwF al 0) 26 ∧ smI (rwF al 0) 26 ≤ 99999 := by
  obtain ⟨a1, a2, a3, a4, a5, a6, a7, a8, a9⟩ := hs
  have h0 : ∀ j, j < 26 → 0 ≤ (rwF al 0 j).toInt := fun j hj => (a5.1 j hj).1
  have h1 := a5.2.1
  have e := smN_int 26 h0 (by omega)
  refine ⟨?_, e, (smI_nn 26 h0).1, h1⟩
  rw [LR_sum a6, e]
theorem SR_sumA {s : ST} {al : Nat → Int32} (hs : SR s al) (hv : s.2.2.2.2.2.2.1 = true) : (smN s.2.2.2.1.2.2.2.2.2.2.2.2 26).toInt = smI (rwF al 132) 26 ∧ (smN (rwF al 132) 26).toInt = smI (rwF al 132) 26 ∧ 0 ≤ smI (rwF al 132) 26 ∧ smI (rwF al 132) 26 ≤ 99999 := by
  obtain ⟨a1, a2, a3, a4, a5, a6, a7, a8, a9⟩ := hs
  obtain ⟨b1, b2, b3, b4⟩ := a9 hv
  have h0 : ∀ j, j < 26 → 0 ≤ (rwF al 132 j).toInt := fun j hj => (b1.1 j hj).1
  have h1 := b1.2.1
  have e := smN_int 26 h0 (by omega)
  refine ⟨?_, e, (smI_nn 26 h0).1, h1⟩
  rw [LR_sum b2, e]
theorem SR_take {L K : LV} {rm wr arm awr : Int32} {via : Bool} {cq pa : Nat} {al : Nat → Int32} (hp : pa < 26) (hs : SR (L, rm, wr, K, arm, awr, via, cq) al) (hsm : smI (rwF al 0) 26 + 1 ≤ 99999) : SR (tkL rm wr L pa, rm, wr, K, arm, awr, via, cq) (heM al pa) ∧ smI (rwF (heM al pa) 0) 26 = smI (rwF al 0) 26 + 1 := by
  obtain ⟨a1, a2, a3, a4, a5, a6, a7, a8, a9⟩ := hs
  dsimp only at a1 a2 a3 a4 a5 a6 a7 a8 a9
  have h9 : cq < 1000 := by omega
  have hhi := (heM_hi a3 h9 hp).2.2.2
  have e : heM al pa 264 = al 264 := hhi 264 (by omega)
  have b5 := LI_take a3 h9 hp a5 hsm
  have b6 := LR_take a3 h9 hp a5 hsm a6
  subst a7
  subst a8
  refine ⟨⟨a1, a2, by rw [e]; exact a3, by rw [hhi 265 (by omega)]; exact a4, b5, b6, rfl, rfl, fun k => ?_⟩, ?_⟩
  · obtain ⟨c1, c2, c3, c4⟩ := a9 k
    exact ⟨LI_mv (fun j hj => hhi (132 + j) (by omega)) e a3 h9 c1, LR_mv (fun j hj => hhi (132 + j) (by omega)) c2, c3, c4⟩
  · have a5' := LI0.mp a5
    have hb : (al pa).toInt ≤ 99999 := by
      have := (smI_nn (f := rwF al 0) 26 (fun j hj => (a5.1 j hj).1)).2 pa hp
      have e2 : rwF al 0 pa = al pa := by show al (0 + pa) = _; rw [Nat.zero_add]
      rw [e2] at this
      omega
    rcases he_cases a3 h9 hp with ⟨_, e⟩ | ⟨_, _, w, hw, hne, _, _, _, _, e⟩
    · exact heM_sum hp (a5'.1 pa hp).1 hb (heM_no a3 h9 hp e).1
    · exact heM_sum hp (a5'.1 pa hp).1 hb (heM_yes a3 h9 hp hw hne e).1
/-- a parrot that is heard has a counter then -/
theorem heM_est {al : Nat → Int32} {cap pa : Nat} (hc : al 264 = nI cap) (h9 : cap < 1000) (hp : pa < 26) (hi : LI al 0) (hs : smI (rwF al 0) 26 + 1 ≤ 99999) : mEst (heM al pa) 0 pa = heM al pa (26 + pa) := by
  have hi0 := LI0.mp hi
  have hn : ¬ heM al pa (26 + pa) ≤ 0 := by
    rcases he_cases hc h9 hp with ⟨_, e⟩ | ⟨_, _, w, hw, hne, _, _, _, _, e⟩
    · have a := hi0.1 pa hp
      rw [(heM_no hc h9 hp e).2.1 pa hp, if_pos rfl, nI_p, t_1 (by omega) (by omega)]
      omega
    · have a := hi0.1 w hw
      rw [(heM_yes hc h9 hp hw hne e).2.1 pa hp, if_pos rfl, nI_p, t_1 (by omega) (by omega)]
      omega
  rcases mEst_sp0 (heM al pa) pa with ⟨a, _⟩ | ⟨_, b⟩
  · exact absurd a hn
  · exact b
theorem SR_empty {s : ST} {al : Nat → Int32} {f0 fs fg w0 t0 : Nat → Int32} {c : Nat} (h1 : 1 ≤ c) (h9 : c ≤ 9) (hf : ∀ j, j < 26 → f0 j = 0) (hw : ∀ j, j < 26 → w0 j = 0) (ht : ∀ j, j < 26 → t0 j = 0) (K : LV) (arm awr : Int32) : SR ((f0, fs, fg, 0, 0, w0, 0, 0, t0), nI (c + 1), nI c, K, arm, awr, false, c) (upd (upd (clN (clN al 0 132) 132 132) 265 0) 264 (nI c)) := by
  have z : ∀ j, j < 132 → upd (upd (clN (clN al 0 132) 132 132) 265 0) 264 (nI c) (0 + j) = 0 := fun j hj => by
    rw [upd_ne _ _ (show 0 + j ≠ 264 by omega), upd_ne _ _ (show 0 + j ≠ 265 by omega), clN_at, if_neg (show ¬ (132 ≤ 0 + j ∧ 0 + j < 132 + 132) by omega), clN_at, if_pos (show 0 ≤ 0 + j ∧ 0 + j < 0 + 132 by omega)]
  have e : upd (upd (clN (clN al 0 132) 132 132) 265 0) 264 (nI c) 264 = nI c := upd_eq _ _ _
  refine ⟨h1, h9, e, ?_, LI_zero z e (by omega), LR_zero z hf hw ht, rfl, rfl, fun k => absurd (show false = true from k) (by decide)⟩
  rw [upd_ne _ _ (show 265 ≠ 264 by omega), upd_eq]
  rfl
theorem paN_at (al : Nat → Int32) : ∀ n, n ≤ 132 → ∀ j, paN al n j = if 132 ≤ j ∧ j < 132 + n then al (j - 132) else al j
  | 0, _, j => by rw [if_neg (by omega)]; rfl
  | n + 1, hn, j => by
    have ih := paN_at al n (by omega)
    show upd (paN al n) (132 + n) (paN al n n) j = _
    rw [upd_at]
    by_cases hj : j = 132 + n
    · rw [if_pos hj, ih, if_neg (show ¬ (132 ≤ n ∧ n < 132 + n) by omega), if_pos (show 132 ≤ j ∧ j < 132 + (n + 1) by omega), hj, Nat.add_sub_cancel_left]
    · rw [if_neg hj, ih]
      have : (132 ≤ j ∧ j < 132 + (n + 1)) ↔ (132 ≤ j ∧ j < 132 + n) := by omega
      simp only [this]
theorem paA_rows (al : Nat → Int32) : (∀ j, j < 132 → paA al (0 + j) = 0) ∧ (∀ j, j < 132 → paA al (132 + j) = al (0 + j)) ∧ paA al 264 = al 264 ∧ paA al 265 = 1 := by
  unfold paA
  refine ⟨fun j hj => ?_, fun j hj => ?_, ?_, upd_eq _ _ _⟩
  · rw [upd_ne _ _ (show 0 + j ≠ 265 by omega), clN_at, if_pos (show 0 ≤ 0 + j ∧ 0 + j < 0 + 132 by omega)]
  · rw [upd_ne _ _ (show 132 + j ≠ 265 by omega), clN_at, if_neg (show ¬ (0 ≤ 132 + j ∧ 132 + j < 0 + 132) by omega), paN_at _ 132 (Nat.le_refl 132), if_pos (show 132 ≤ 132 + j ∧ 132 + j < 132 + 132 by omega), Nat.add_sub_cancel_left, Nat.zero_add]
  · rw [upd_ne _ _ (show 264 ≠ 265 by omega), clN_at, if_neg (show ¬ (0 ≤ 264 ∧ 264 < 0 + 132) by omega), paN_at _ 132 (Nat.le_refl 132), if_neg (show ¬ (132 ≤ 264 ∧ 264 < 132 + 132) by omega)]
theorem SR_aside {L K : LV} {rm wr arm awr : Int32} {via : Bool} {cq : Nat} {al : Nat → Int32} {f0 fs fg w0 t0 : Nat → Int32} (hs : SR (L, rm, wr, K, arm, awr, via, cq) al) (hf : ∀ j, j < 26 → f0 j = 0) (hw : ∀ j, j < 26 → w0 j = 0) (ht : ∀ j, j < 26 → t0 j = 0) : SR ((f0, fs, fg, 0, 0, w0, 0, 0, t0), nI (cq + 1), nI cq, L, rm, wr, true, cq) (paA al) ∧ smN (rwF (paA al) 132) 26 = smN (rwF al 0) 26 := by
  obtain ⟨a1, a2, a3, a4, a5, a6, a7, a8, a9⟩ := hs
  dsimp only at a1 a2 a3 a4 a5 a6 a7 a8 a9
  obtain ⟨r1, r2, r3, r4⟩ := paA_rows al
  refine ⟨⟨a1, a2, by rw [r3]; exact a3, r4, LI_zero r1 (by rw [r3]; exact a3) (by omega), LR_zero r1 hf hw ht, rfl, rfl, fun _ => ⟨LI_mv r2 r3 a3 (by omega) a5, LR_mv r2 a6, a7, a8⟩⟩, smN_cg 26 (fun j hj => r2 j (by omega))⟩
theorem SR_merge {L K : LV} {rm wr arm awr : Int32} {cq : Nat} {al ck zk : Nat → Int32} (hs : SR (L, rm, wr, K, arm, awr, true, cq) al) (hsm : smI (rwF al 0) 26 + smI (rwF al 132) 26 ≤ 99999) : SR ((mrC (mgC L.1 L.2.2.1 K.1 K.2.2.1 L.2.2.2.2.1 (nI (cq + 1)) K.2.2.2.2.1 arm) (cq + 1), mgS L.1 L.2.1 L.2.2.1 K.1 K.2.1 K.2.2.1 L.2.2.2.2.1 (nI (cq + 1)) K.2.2.2.2.1 arm, idN L.2.2.1 26, 26, mrZ (mgC L.1 L.2.2.1 K.1 K.2.2.1 L.2.2.2.2.1 (nI (cq + 1)) K.2.2.2.2.1 arm) (cq + 1), smC L.2.2.2.2.2.1 K.2.2.2.2.2.1 wr, smO L.2.2.2.2.2.1 K.2.2.2.2.2.1 L.2.2.2.2.2.2.1 wr K.2.2.2.2.2.2.1, smZ L.2.2.2.2.2.1 K.2.2.2.2.2.1 wr, smA L.2.2.2.2.2.2.2.2 K.2.2.2.2.2.2.2.2 26), nI (cq + 1), wr, K, arm, awr, false, cq) (meR al ck zk) := by
  obtain ⟨a1, a2, a3, a4, a5, a6, a7, a8, a9⟩ := hs
  dsimp only at a1 a2 a3 a4 a5 a6 a7 a8 a9
  obtain ⟨b1, b2, b3, b4⟩ := a9 rfl
  subst b3
  subst a8
  obtain ⟨_, _, _, _, _, _, r264, r265⟩ := meR_rows al ck zk
  exact ⟨a1, a2, by rw [r264]; exact a3, by rw [r265]; rfl, (LI_merge a3 (by omega) a5 b1 hsm).1, LR_merge a3 a1 (by omega) a5 b1 hsm a6 b2, rfl, rfl, fun k => absurd (show false = true from k) (by decide)⟩
/-- the history: the class's ring against the reference's rows -/
def HR (hk hz : Nat) (sl : Nat → ST) (hy : Nat → Int32) : Prop := hk < 5 ∧ hz ≤ 5 ∧ ∀ j, j < hz → SR (sl ((hk + 5 - hz + j) % 5)) (fun i => hy (266 * j + i))
theorem shN_at (hy : Nat → Int32) : ∀ n j, shN hy n j = if j < n then hy (j + 266) else hy j
  | 0, j => by rw [if_neg (Nat.not_lt_zero j)]; rfl
  | n + 1, j => by
    have ih := shN_at hy n
    show upd (shN hy n) n (shN hy n (n + 266)) j = _
    rw [upd_at]
    by_cases hj : j = n
    · rw [if_pos hj, ih, if_neg (show ¬ n + 266 < n by omega), if_pos (show j < n + 1 by omega), hj]
    · rw [if_neg hj, ih]
      have : (j < n + 1) ↔ (j < n) := by omega
      simp only [this]
theorem cpH_at (hy al : Nat → Int32) (hn : Nat) : ∀ n j, cpH hy al hn n j = if 266 * hn ≤ j ∧ j < 266 * hn + n then al (j - 266 * hn) else hy j
  | 0, j => by rw [if_neg (by omega)]; rfl
  | n + 1, j => by
    have ih := cpH_at hy al hn n
    show upd (cpH hy al hn n) (266 * hn + n) (al n) j = _
    rw [upd_at]
    by_cases hj : j = 266 * hn + n
    · rw [if_pos hj, if_pos (show 266 * hn ≤ j ∧ j < 266 * hn + (n + 1) by omega), hj, Nat.add_sub_cancel_left]
    · rw [if_neg hj, ih]
      have : (266 * hn ≤ j ∧ j < 266 * hn + (n + 1)) ↔ (266 * hn ≤ j ∧ j < 266 * hn + n) := by omega
      simp only [this]
theorem chK_eq {hz : Nat} (h : hz ≤ 5) : chK hz + 1 = min (hz + 1) 5 := by
  unfold chK
  by_cases e : hz = 5
  · subst e; rfl
  · rw [if_neg (show ¬ nI hz = 5 from fun k => e ((nI_eq (a := hz) (b := 5) (by omega) (by omega)).mp k))]
    omega
theorem HR_record {hk hz : Nat} {sl : Nat → ST} {hy al : Nat → Int32} {v : ST} (h : HR hk hz sl hy) (hv : SR v al) : HR (hNx hk) (min (hz + 1) 5) (fun i => if i = hk then v else sl i) (chH hy al hz) := by
  obtain ⟨h5, hz5, hr⟩ := h
  refine ⟨hNx_lt hk, by omega, fun j hj => ?_⟩
  have enx : hNx hk = (hk + 1) % 5 := by
    unfold hNx
    split <;> omega
  by_cases e : hz = 5
  · have eK : chK hz = 4 := by rw [e]; rfl
    have eB : chB hy hz = shN hy 1064 := by rw [e]; rfl
    have hmin : min (hz + 1) 5 = 5 := by omega
    rw [hmin] at hj ⊢
    by_cases ej : j = 4
    · have e1 : (hNx hk + 5 - 5 + j) % 5 = hk := by rw [enx]; omega
      rw [e1]
      dsimp only
      rw [if_pos rfl]
      refine SR_cg (fun i hi => ?_) hv
      show chH hy al hz (266 * j + i) = al i
      unfold chH
      rw [eK, cpH_at, if_pos (show 266 * 4 ≤ 266 * j + i ∧ 266 * j + i < 266 * 4 + 266 by omega), show 266 * j + i - 266 * 4 = i by omega]
    · have e1 : (hNx hk + 5 - 5 + j) % 5 = (hk + 5 - hz + (j + 1)) % 5 := by rw [enx, e]; omega
      have e2 : ¬ (hNx hk + 5 - 5 + j) % 5 = hk := by rw [enx]; omega
      dsimp only
      rw [if_neg e2, e1]
      refine SR_cg (fun i hi => ?_) (hr (j + 1) (by omega))
      show chH hy al hz (266 * j + i) = hy (266 * (j + 1) + i)
      unfold chH
      rw [eK, cpH_at, if_neg (show ¬ (266 * 4 ≤ 266 * j + i ∧ 266 * j + i < 266 * 4 + 266) by omega), eB, shN_at, if_pos (show 266 * j + i < 1064 by omega), show 266 * j + i + 266 = 266 * (j + 1) + i by omega]
  · have ne : ¬ nI hz = 5 := fun k => e ((nI_eq (a := hz) (b := 5) (by omega) (by omega)).mp k)
    have eK : chK hz = hz := by unfold chK; rw [if_neg ne]
    have eB : chB hy hz = hy := by unfold chB; rw [if_neg ne]
    have hmin : min (hz + 1) 5 = hz + 1 := by omega
    rw [hmin] at hj ⊢
    by_cases ej : j = hz
    · have e1 : (hNx hk + 5 - (hz + 1) + j) % 5 = hk := by rw [enx]; omega
      rw [e1]
      dsimp only
      rw [if_pos rfl]
      refine SR_cg (fun i hi => ?_) hv
      show chH hy al hz (266 * j + i) = al i
      unfold chH
      rw [eK, cpH_at, if_pos (show 266 * hz ≤ 266 * j + i ∧ 266 * j + i < 266 * hz + 266 by omega), show 266 * j + i - 266 * hz = i by omega]
    · have e1 : (hNx hk + 5 - (hz + 1) + j) % 5 = (hk + 5 - hz + j) % 5 := by rw [enx]; omega
      have e2 : ¬ (hNx hk + 5 - (hz + 1) + j) % 5 = hk := by rw [enx]; omega
      dsimp only
      rw [if_neg e2, e1]
      refine SR_cg (fun i hi => ?_) (hr j (by omega))
      show chH hy al hz (266 * j + i) = hy (266 * j + i)
      unfold chH
      rw [eK, cpH_at, if_neg (show ¬ (266 * hz ≤ 266 * j + i ∧ 266 * j + i < 266 * hz + 266) by omega), eB]
theorem unA_at (al hy : Nat → Int32) (hn : Nat) : ∀ n j, unA al hy hn n j = if j < n then hy (266 * hn + j) else al j
  | 0, j => by rw [if_neg (Nat.not_lt_zero j)]; rfl
  | n + 1, j => by
    have ih := unA_at al hy hn n
    show upd (unA al hy hn n) n (hy (266 * hn + n)) j = _
    rw [upd_at]
    by_cases hj : j = n
    · rw [if_pos hj, if_pos (show j < n + 1 by omega), hj]
    · rw [if_neg hj, ih]
      have : (j < n + 1) ↔ (j < n) := by omega
      simp only [this]
theorem HR_undo {hk hm : Nat} {sl : Nat → ST} {hy al : Nat → Int32} (h : HR hk (hm + 1) sl hy) : HR (hPv hk) hm sl hy ∧ SR (sl (hPv hk)) (unA al hy hm 266) := by
  obtain ⟨h5, hz5, hr⟩ := h
  have epv : hPv hk = (hk + 4) % 5 := by
    unfold hPv
    split <;> omega
  refine ⟨⟨hPv_lt h5, by omega, fun j hj => ?_⟩, ?_⟩
  · have e : (hPv hk + 5 - hm + j) % 5 = (hk + 5 - (hm + 1) + j) % 5 := by rw [epv]; omega
    rw [e]
    exact hr j (by omega)
  · have e : hPv hk = (hk + 5 - (hm + 1) + hm) % 5 := by rw [epv]; omega
    rw [e]
    refine SR_cg (fun i hi => ?_) (hr hm (by omega))
    rw [unA_at, if_pos hi]
end PSTATE
