section PTAKE
/-- what holds of the reference's lists from fr on -/
def LI (al : Nat → Int32) (fr : Nat) : Prop :=
  (∀ p, p < 26 → 0 ≤ (al (fr + p)).toInt ∧ 0 ≤ (al (fr + 104 + p)).toInt ∧ (al (fr + 104 + p)).toInt ≤ (al (fr + p)).toInt ∧ 0 ≤ (al (fr + 52 + p)).toInt ∧ (al (fr + 52 + p)).toInt ≤ (al (fr + 26 + p)).toInt ∧ (al (fr + 26 + p)).toInt ≤ smI (rwF al fr) 26) ∧
  smI (rwF al fr) 26 ≤ 99999 ∧
  (∀ p, p < 26 → (al (fr + p)).toInt ≤ (mEst al fr p).toInt) ∧
  (∀ p, p < 26 → ¬ al (fr + 26 + p) ≤ 0 → al (fr + 78 + p) ≤ al (fr + 131)) ∧ 0 ≤ (al (fr + 131)).toInt ∧ (al (fr + 131)).toInt ≤ 26 + smI (rwF al fr) 26
/-- the class's lists say the same as the reference's from fr on -/
def LR (L : LV) (al : Nat → Int32) (fr : Nat) : Prop :=
  (∀ p, p < 26 → L.1 p = al (fr + 26 + p) ∧ (¬ L.1 p ≤ 0 → L.2.1 p = al (fr + 52 + p)) ∧ L.2.2.2.2.2.1 p = al (fr + 104 + p) ∧ L.2.2.2.2.2.2.2.2 p = al (fr + p)) ∧
  (∀ p q, p < 26 → q < 26 → ¬ L.1 p ≤ 0 → ¬ L.1 q ≤ 0 → (L.2.2.1 p ≤ L.2.2.1 q ↔ al (fr + 78 + p) ≤ al (fr + 78 + q))) ∧
  (∀ p, p < 26 → ¬ L.1 p ≤ 0 → L.2.2.1 p ≤ L.2.2.2.1) ∧ 0 ≤ L.2.2.2.1.toInt ∧ L.2.2.2.1.toInt ≤ 26 + smI (rwF al fr) 26 ∧
  L.2.2.2.2.1 = nI (cntN L.1 26) ∧ L.2.2.2.2.2.2.1 = al (fr + 130) ∧ L.2.2.2.2.2.2.2.1 = nI (cntN L.2.2.2.2.2.1 26)
theorem LR_cnt {L : LV} {al : Nat → Int32} {fr : Nat} (h : LR L al fr) : cntN L.1 26 = cntN (rwF al (fr + 26)) 26 := cntN_cg 26 (fun j hj => (h.1 j hj).1)
theorem LR_cntW {L : LV} {al : Nat → Int32} {fr : Nat} (h : LR L al fr) : cntN L.2.2.2.2.2.1 26 = cntN (rwF al (fr + 104)) 26 := cntN_cg 26 (fun j hj => (h.1 j hj).2.2.1)
theorem LR_sum {L : LV} {al : Nat → Int32} {fr : Nat} (h : LR L al fr) : smN L.2.2.2.2.2.2.2.2 26 = smN (rwF al fr) 26 := smN_cg 26 (fun j hj => (h.1 j hj).2.2.2)
theorem LR_sumC {L : LV} {al : Nat → Int32} {fr : Nat} (h : LR L al fr) : smN L.1 26 = smN (rwF al (fr + 26)) 26 := smN_cg 26 (fun j hj => (h.1 j hj).1)
theorem LR_cntT {L : LV} {al : Nat → Int32} {fr : Nat} (h : LR L al fr) : cntN L.2.2.2.2.2.2.2.2 26 = cntN (rwF al fr) 26 := cntN_cg 26 (fun j hj => (h.1 j hj).2.2.2)
theorem LR_weak {L : LV} {al : Nat → Int32} {fr : Nat} (h : LR L al fr) : flWeak L.1 L.2.2.1 26 = mWeak al fr 26 :=
  flWeak_cg (gc := rwF al (fr + 26)) (gg := rwF al (fr + 78)) (fun j hj => (h.1 j hj).1) (fun p q hp hq h1 h2 => h.2.1 p q hp hq h1 h2) 26 (Nat.le_refl 26)
theorem LR_full {L : LV} {al : Nat → Int32} {fr cap : Nat} (h : LR L al fr) (hc : al 264 = nI cap) (h9 : cap < 1000) : flFull L.2.2.2.2.1 (nI (cap + 1)) = mFull al fr := by
  unfold flFull mFull
  rw [h.2.2.2.2.2.1, hc, ← LR_cnt h]
  have hb := cntN_le L.1 26
  by_cases hle : cntN L.1 26 ≤ cap
  · rw [if_pos (nI_le hle (by omega))]
    exact decide_eq_false (nI_ge (by omega) (by omega))
  · rw [if_neg (nI_ge (by omega) (by omega))]
    exact decide_eq_true (nI_le (by omega) (by omega))
theorem mFull_cnt {al : Nat → Int32} {fr : Nat} (h : mFull al fr = true) {cap : Nat} (hc : al 264 = nI cap) (h9 : cap < 1000) : cap < cntN (rwF al (fr + 26)) 26 := by
  unfold mFull at h
  rw [hc] at h
  by_cases hle : cntN (rwF al (fr + 26)) 26 ≤ cap
  · rw [if_pos (nI_le hle (by omega))] at h
    exact absurd h (by decide)
  · omega
theorem mFull_of {al : Nat → Int32} {fr : Nat} {cap : Nat} (hc : al 264 = nI cap) (h9 : cap < 1000) (h : cap < cntN (rwF al (fr + 26)) 26) : mFull al fr = true := by
  unfold mFull
  have hb := cntN_le (rwF al (fr + 26)) 26
  rw [hc, if_neg (nI_ge (by omega) (by omega))]
/-- the floor: 0, or the least of the counts -/
theorem mFloor_sp (al : Nat → Int32) (fr : Nat) {cap : Nat} (hc : al 264 = nI cap) (h9 : cap < 1000) : (mFull al fr = false ∧ mFloor al fr = 0) ∨ (mFull al fr = true ∧ ∃ w, w < 26 ∧ mWeak al fr 26 = nI w ∧ ¬ al (fr + 26 + w) ≤ 0 ∧ mFloor al fr = al (fr + 26 + w) ∧ ∀ q, q < 26 → ¬ al (fr + 26 + q) ≤ 0 → (al (fr + 26 + w)).toInt ≤ (al (fr + 26 + q)).toInt) := by
  by_cases hf : mFull al fr = true
  · refine Or.inr ⟨hf, ?_⟩
    have hn := mFull_cnt hf hc h9
    obtain ⟨j, hj, hp⟩ := cntN_ex 26 (Nat.lt_of_le_of_lt (Nat.zero_le _) hn)
    rcases flWeak_sp (rwF al (fr + 26)) (rwF al (fr + 78)) 26 (Nat.le_refl 26) with ⟨_, b⟩ | ⟨w, a, b, c, d⟩
    · exact absurd (b j hj) hp
    · refine ⟨w, a, b, c, ?_, d⟩
      unfold mFloor
      rw [if_pos hf, show mWeak al fr 26 = nI w from b, nI_clamp (by omega)]
  · have hf2 : mFull al fr = false := by cases h : mFull al fr with
      | true => exact absurd h hf
      | false => rfl
    refine Or.inl ⟨hf2, ?_⟩
    unfold mFloor
    rw [hf2]
    rfl
theorem mFloor_nn (al : Nat → Int32) (fr : Nat) {cap : Nat} (hc : al 264 = nI cap) (h9 : cap < 1000) : 0 ≤ (mFloor al fr).toInt := by
  rcases mFloor_sp al fr hc h9 with ⟨_, b⟩ | ⟨_, w, a, b, c, d, e⟩
  · rw [b]; exact Int.le_refl _
  · rw [d]; have := nI_p.mp c; omega
theorem LR_least {L : LV} {al : Nat → Int32} {fr cap : Nat} (h : LR L al fr) (hc : al 264 = nI cap) (h9 : cap < 1000) : flLeast L.1 L.2.2.1 L.2.2.2.2.1 (nI (cap + 1)) = mFloor al fr := by
  unfold flLeast
  rw [LR_full h hc h9, LR_weak h]
  rcases mFloor_sp al fr hc h9 with ⟨a, b⟩ | ⟨a, w, hw, b, c, d, e⟩
  · rw [a, b]; rfl
  · rw [a, if_pos rfl, b, if_neg (nI_ne1 (by omega)), nI_clamp (by omega), d]
    exact (h.1 w hw).1
theorem LR_est {L : LV} {al : Nat → Int32} {fr cap : Nat} (h : LR L al fr) (hc : al 264 = nI cap) (h9 : cap < 1000) {p : Nat} (hp : p < 26) : flEst L.1 L.2.2.1 L.2.2.2.2.1 (nI (cap + 1)) p = mEst al fr p := by
  unfold flEst mEst
  rw [LR_least h hc h9, (h.1 p hp).1]
theorem LR_sure {L : LV} {al : Nat → Int32} {fr : Nat} (h : LR L al fr) (hi : LI al fr) {p : Nat} (hp : p < 26) : flSure L.1 L.2.1 p = mSure al fr p := by
  unfold flSure mSure
  obtain ⟨a1, a2, a3, a4, a5, a6⟩ := hi.1 p hp
  by_cases h1 : L.1 p ≤ 0
  · rw [if_pos h1]
    rw [(h.1 p hp).1, nI_n] at h1
    apply Int32.toInt_inj.mp
    rw [i32_sub (by omega) (by omega)]
    show (0 : Int) = _
    omega
  · rw [if_neg h1, (h.1 p hp).2.1 h1, (h.1 p hp).1]
theorem mEst_sp (al : Nat → Int32) (fr p : Nat) : (al (fr + 26 + p) ≤ 0 ∧ mEst al fr p = mFloor al fr) ∨ (¬ al (fr + 26 + p) ≤ 0 ∧ mEst al fr p = al (fr + 26 + p)) := by
  unfold mEst
  by_cases h : al (fr + 26 + p) ≤ 0
  · exact Or.inl ⟨h, if_pos h⟩
  · exact Or.inr ⟨h, if_neg h⟩
/-- the floor doesn't fall where it is at most each count -/
theorem mFloor_mono (al be : Nat → Int32) (fr gr : Nat) {cap : Nat} (hc : al 264 = nI cap) (hc2 : be 264 = nI cap) (h9 : cap < 1000) (h1 : mFull al fr = true → mFull be gr = true) (h2 : ∀ q, q < 26 → ¬ be (gr + 26 + q) ≤ 0 → (mFloor al fr).toInt ≤ (be (gr + 26 + q)).toInt) : (mFloor al fr).toInt ≤ (mFloor be gr).toInt := by
  rcases mFloor_sp al fr hc h9 with ⟨a, b⟩ | ⟨a, _⟩
  · have := mFloor_nn be gr hc2 h9
    rw [b]; exact this
  · rcases mFloor_sp be gr hc2 h9 with ⟨a2, _⟩ | ⟨a2, w, hw, b, c, d, e⟩
    · rw [h1 a] at a2; exact absurd a2 (by decide)
    · rw [d]; exact h2 w hw c
theorem wrZ_at (al : Nat → Int32) (by' : Int32) : ∀ n j, wrN al by' n j = if 104 ≤ j ∧ j < 104 + n then (if al j ≤ by' then 0 else al j - by') else al j
  | 0, j => by
    rw [if_neg (by omega)]
    rfl
  | n + 1, j => by
    have ih := wrZ_at al by' n
    show (if j = 104 + n then (if wrN al by' n (104 + n) ≤ by' then 0 else wrN al by' n (104 + n) - by') else wrN al by' n j) = _
    by_cases h : j = 104 + n
    · rw [if_pos h, ih, if_neg (show ¬ (104 ≤ 104 + n ∧ 104 + n < 104 + n) by omega), if_pos (show 104 ≤ j ∧ j < 104 + (n + 1) by omega), h]
    · rw [if_neg h, ih]
      by_cases h2 : 104 ≤ j ∧ j < 104 + n
      · rw [if_pos h2, if_pos (show 104 ≤ j ∧ j < 104 + (n + 1) by omega)]
      · rw [if_neg h2, if_neg (show ¬ (104 ≤ j ∧ j < 104 + (n + 1)) by omega)]
theorem wdN_at (f : Nat → Int32) (v : Int32) : ∀ n j, wdN f v n j = if j < n then (if f j - v < 0 then 0 else f j - v) else f j
  | 0, j => by
    rw [if_neg (by omega)]
    rfl
  | n + 1, j => by
    have ih := wdN_at f v n
    show (if j = n then (if wdN f v n n - v < 0 then 0 else wdN f v n n - v) else wdN f v n j) = _
    by_cases h : j = n
    · rw [if_pos h, ih, if_neg (show ¬ n < n by omega), if_pos (show j < n + 1 by omega), h]
    · rw [if_neg h, ih]
      by_cases h2 : j < n
      · rw [if_pos h2, if_pos (show j < n + 1 by omega)]
      · rw [if_neg h2, if_neg (show ¬ j < n + 1 by omega)]
/-- worn down on both sides -/
theorem wd_wr {x v : Int32} (h0 : 0 ≤ x.toInt) (hv : 0 ≤ v.toInt) : (if x - v < 0 then (0 : Int32) else x - v) = if x ≤ v then 0 else x - v := by
  have b1 := Int32.toInt_lt x
  have b2 := Int32.toInt_lt v
  have e : (x - v).toInt = x.toInt - v.toInt := i32_sub (by omega) (by omega)
  have z : (0 : Int32).toInt = 0 := rfl
  by_cases h : x ≤ v
  · rw [if_pos h]
    rw [Int32.le_iff_toInt_le] at h
    by_cases h2 : x - v < 0
    · rw [if_pos h2]
    · rw [if_neg h2]
      rw [Int32.lt_iff_toInt_lt] at h2
      apply Int32.toInt_inj.mp
      omega
  · rw [if_neg h]
    rw [Int32.le_iff_toInt_le] at h
    rw [if_neg (by rw [Int32.lt_iff_toInt_lt]; omega)]
theorem wr_nn {x v : Int32} (h0 : 0 ≤ x.toInt) (hv : 0 ≤ v.toInt) : 0 ≤ (if x ≤ v then (0 : Int32) else x - v).toInt ∧ (if x ≤ v then (0 : Int32) else x - v).toInt ≤ x.toInt := by
  have b1 := Int32.toInt_lt x
  have b2 := Int32.toInt_lt v
  have e : (x - v).toInt = x.toInt - v.toInt := i32_sub (by omega) (by omega)
  have z : (0 : Int32).toInt = 0 := rfl
  by_cases h : x ≤ v
  · rw [if_pos h]; omega
  · rw [if_neg h]
    rw [Int32.le_iff_toInt_le] at h
    omega
/-- how a call is heard, row by row -/
theorem heB_no {al : Nat → Int32} {pa : Nat} (hp : pa < 26) (h : ¬ (al (26 + pa) = 0 ∧ mFull al 0 = true)) : heB al pa = upd al pa (al pa + 1) := by
  have e1 : upd al pa (al pa + 1) (26 + pa) = al (26 + pa) := upd_ne al _ (by omega)
  have e2 : mFull (upd al pa (al pa + 1)) 0 = mFull al 0 := by
    unfold mFull
    rw [upd_ne al _ (show 264 ≠ pa by omega), cntN_cg (f := rwF (upd al pa (al pa + 1)) (0 + 26)) (g := rwF al (0 + 26)) 26 (fun j hj => upd_ne al _ (by omega))]
  unfold heB
  rw [e1, e2]
  by_cases h1 : al (26 + pa) = 0
  · rw [if_pos h1]
    by_cases h2 : mFull al 0 = true
    · exact absurd ⟨h1, h2⟩ h
    · rw [if_neg h2]
  · rw [if_neg h1]
theorem heB_yes {al : Nat → Int32} {pa w : Nat} (hp : pa < 26) (h1 : al (26 + pa) = 0) (h2 : mFull al 0 = true) (hw : w < 26) (h3 : mWeak al 0 26 = nI w) : heB al pa = heT (upd al pa (al pa + 1)) pa w := by
  have e1 : upd al pa (al pa + 1) (26 + pa) = al (26 + pa) := upd_ne al _ (by omega)
  have e2 : mFull (upd al pa (al pa + 1)) 0 = mFull al 0 := by
    unfold mFull
    rw [upd_ne al _ (show 264 ≠ pa by omega), cntN_cg (f := rwF (upd al pa (al pa + 1)) (0 + 26)) (g := rwF al (0 + 26)) 26 (fun j hj => upd_ne al _ (by omega))]
  have e3 : mWeak (upd al pa (al pa + 1)) 0 26 = mWeak al 0 26 := by
    refine flWeak_cg (fun j hj => upd_ne al _ (by omega)) (fun p q hp1 hq1 _ _ => ?_) 26 (Nat.le_refl 26)
    show upd al pa (al pa + 1) (0 + 78 + p) ≤ upd al pa (al pa + 1) (0 + 78 + q) ↔ _
    rw [upd_ne al _ (show 0 + 78 + p ≠ pa by omega), upd_ne al _ (show 0 + 78 + q ≠ pa by omega)]
    exact Iff.rfl
  unfold heB
  rw [e1, e2, e3, if_pos h1, if_pos h2, h3, nI_clamp (by omega)]
theorem heX_no {al : Nat → Int32} {pa : Nat} (hp : pa < 26) (j : Nat) : heC (upd al pa (al pa + 1)) pa j = if j = 78 + pa then al 131 + 1 else if j = 131 then al 131 + 1 else if j = 26 + pa then al (26 + pa) + 1 else if j = pa then al pa + 1 else al j := by
  simp only [heC, upd_at]
  grind
theorem heX_yes {al : Nat → Int32} {pa w : Nat} (hp : pa < 26) (hw : w < 26) (hne : w ≠ pa) (j : Nat) : heC (heT (upd al pa (al pa + 1)) pa w) pa j = if j = 78 + pa then al 131 + 1 else if j = 131 then al 131 + 1 else if j = 26 + pa then al (26 + w) + 1 else if j = 78 + w then 0 else if j = 52 + w then 0 else if j = 26 + w then 0 else if j = 52 + pa then al (26 + w) else if j = pa then al pa + 1 else al j := by
  simp only [heC, heT, upd_at]
  grind
def weX (al : Nat → Int32) (pa : Nat) : Bool := decide (al (104 + pa) ≤ 0 ∧ al 264 ≤ nI (cntN (rwF al 104) 26))
theorem heW_at {al : Nat → Int32} {pa : Nat} (hp : pa < 26) (j : Nat) : heW al pa j = if weX al pa then (if j = 130 then al 130 + 1 else if 104 ≤ j ∧ j < 104 + 26 then (if al j ≤ 1 then 0 else al j - 1) else al j) else if j = 104 + pa then al (104 + pa) + 1 else al j := by
  unfold heW weX
  by_cases h1 : al (104 + pa) ≤ 0
  · by_cases h2 : al 264 ≤ nI (cntN (rwF al 104) 26)
    · have e : wrN al 1 26 130 = al 130 := by rw [wrZ_at, if_neg (show ¬ (104 ≤ 130 ∧ 130 < 104 + 26) by omega)]
      rw [if_pos h1, if_pos h2, if_pos (decide_eq_true ⟨h1, h2⟩), upd_at, e, wrZ_at]
    · rw [if_pos h1, if_neg h2, if_neg (by rw [decide_eq_true_eq]; exact fun h => h2 h.2), upd_at]
  · rw [if_neg h1, if_neg (by rw [decide_eq_true_eq]; exact fun h => h1 h.1), upd_at]
end PTAKE
