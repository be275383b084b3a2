section PANS
theorem l64 {n : Int} (h1 : -2 ^ 63 ≤ n) (h2 : n < 2 ^ 63) : n.bmod (2 ^ 64) = n := by
  rw [Int.bmod_def]; omega
theorem inP {px : Int32} : inL px.toInt64 0 25 = true ↔ 0 ≤ px.toInt ∧ px.toInt ≤ 25 := by
  have h := inZ_iff px 0 25
  rw [show (0 : Int32).toInt64 = (0 : Int64) from by decide, show (25 : Int32).toInt64 = (25 : Int64) from by decide, i_le, i_le] at h
  exact h
theorem inM {px : Int32} : inL px.toInt64 0 1000 = true ↔ 0 ≤ px.toInt ∧ px.toInt ≤ 1000 := by
  have h := inZ_iff px 0 1000
  rw [show (0 : Int32).toInt64 = (0 : Int64) from by decide, show (1000 : Int32).toInt64 = (1000 : Int64) from by decide, i_le, i_le] at h
  exact h
theorem inK {px : Int32} : inL px.toInt64 1 9 = true ↔ 1 ≤ px.toInt ∧ px.toInt ≤ 9 := by
  have h := inZ_iff px 1 9
  rw [show (1 : Int32).toInt64 = (1 : Int64) from by decide, show (9 : Int32).toInt64 = (9 : Int64) from by decide, i_le, i_le] at h
  exact h
/-- what an argument is: no parrot, or one -/
theorem isPar (px : Int32) : (px < 0 ∧ inL px.toInt64 0 25 = false) ∨ (¬ px < 0 ∧ 26 ≤ px ∧ inL px.toInt64 0 25 = false) ∨ ∃ pa, pa < 26 ∧ px = nI pa := by
  have z0 : (0 : Int32).toInt = 0 := rfl
  have z26 : (26 : Int32).toInt = 26 := rfl
  by_cases h : px < 0
  · refine Or.inl ⟨h, bfalse (fun k => ?_)⟩
    rw [inP] at k
    rw [i_lt, z0] at h
    omega
  · obtain ⟨j, hj, e⟩ := nI_of h
    by_cases h2 : j < 26
    · exact Or.inr (Or.inr ⟨j, h2, e⟩)
    · have e2 : px.toInt = j := by rw [e, nI_toInt hj]
      refine Or.inr (Or.inl ⟨h, by rw [i_le, z26]; omega, bfalse (fun k => ?_)⟩)
      rw [inP] at k
      omega
theorem isMil (px : Int32) : (px < 0 ∧ inL px.toInt64 0 1000 = false) ∨ (¬ px < 0 ∧ ¬ px ≤ 1000 ∧ inL px.toInt64 0 1000 = false) ∨ (¬ px < 0 ∧ px ≤ 1000 ∧ inL px.toInt64 0 1000 = true) := by
  have z0 : (0 : Int32).toInt = 0 := rfl
  have z26 : (1000 : Int32).toInt = 1000 := rfl
  by_cases h : px < 0
  · refine Or.inl ⟨h, bfalse (fun k => ?_)⟩
    rw [inM] at k
    rw [i_lt, z0] at h
    omega
  · by_cases h2 : px ≤ 1000
    · refine Or.inr (Or.inr ⟨h, h2, ?_⟩)
      rw [i_lt, z0] at h
      rw [i_le, z26] at h2
      rw [inM]; omega
    · refine Or.inr (Or.inl ⟨h, h2, bfalse (fun k => ?_)⟩)
      rw [inM] at k
      rw [i_le, z26] at h2
      omega
theorem isCap (px : Int32) : (px < 1 ∧ inL px.toInt64 1 9 = false) ∨ (¬ px < 1 ∧ ¬ px ≤ 9 ∧ inL px.toInt64 1 9 = false) ∨ ∃ c, 1 ≤ c ∧ c ≤ 9 ∧ px = nI c ∧ inL px.toInt64 1 9 = true := by
  have z0 : (1 : Int32).toInt = 1 := rfl
  have z26 : (9 : Int32).toInt = 9 := rfl
  by_cases h : px < 1
  · refine Or.inl ⟨h, bfalse (fun k => ?_)⟩
    rw [inK] at k
    rw [i_lt, z0] at h
    omega
  · by_cases h2 : px ≤ 9
    · obtain ⟨j, hj, e⟩ := nI_of (x := px) (by rw [i_lt] at h ⊢; rw [z0] at h; show ¬ _ < (0 : Int); omega)
      have e2 : px.toInt = j := by rw [e, nI_toInt hj]
      rw [i_lt, z0] at h
      rw [i_le, z26] at h2
      exact Or.inr (Or.inr ⟨j, by omega, by omega, e, by rw [inK]; omega⟩)
    · refine Or.inr (Or.inl ⟨h, h2, bfalse (fun k => ?_)⟩)
      rw [inK] at k
      rw [i_le, z26] at h2
      omega
/-- the sets of parrots above a share -/
theorem ab_eq {f al : Nat → Int32} {px S : Int32} {wh : Nat} (h : ∀ k, k < 26 → f k = abW al wh k) (hb : ∀ k, k < 26 → 0 ≤ (f k).toInt ∧ (f k).toInt ≤ 99999) (hp0 : 0 ≤ px.toInt) (hp1 : px.toInt ≤ 1000) (hS : S = smN (rwF al 0) 26) (hS0 : 0 ≤ S.toInt) (hS1 : S.toInt ≤ 99999) : ∀ n, n ≤ 26 → abC f (px * S) n = abN al px wh n
  | 0, _ => rfl
  | n + 1, hn => by
    have ih := ab_eq h hb hp0 hp1 hS hS0 hS1 n (by omega)
    obtain ⟨b1, b2⟩ := hb n (by omega)
    have z1 : (1000 : Int32).toInt = 1000 := rfl
    have z2 : (1000 : Int64).toInt = 1000 := rfl
    have m0 : 0 ≤ px.toInt * S.toInt := Int.mul_nonneg hp0 hS0
    have m1 : px.toInt * S.toInt ≤ 1000 * 99999 := Int.mul_le_mul hp1 hS1 hS0 (by decide)
    have e1 : (f n * 1000).toInt = (f n).toInt * 1000 := by rw [i32_mul (by rw [z1]; omega) (by rw [z1]; omega), z1]
    have e2 : (px * S).toInt = px.toInt * S.toInt := i32_mul (by omega) (by omega)
    have e3 : ((1000 : Int64) * (f n).toInt64).toInt = 1000 * (f n).toInt := by
      rw [Int64.toInt_mul, z2, Int32.toInt_toInt64, l64 (by omega) (by omega)]
    have e4 : (px.toInt64 * S.toInt64).toInt = px.toInt * S.toInt := by
      rw [Int64.toInt_mul, Int32.toInt_toInt64, Int32.toInt_toInt64, l64 (by omega) (by omega)]
    have e5 : (f n * 1000 ≤ px * S) ↔ lg_cmp (1000 * (abW al wh n).toInt64) (px.toInt64 * (smN (rwF al 0) 26).toInt64) ≤ 0 := by
      rw [lg_cmp_le, ← h n (by omega), ← hS, Int64.le_iff_toInt_le, i_le, e1, e2, e3, e4]
      omega
    show (if f n * 1000 ≤ px * S then abC f (px * S) n else abC f (px * S) n ||| ((1 : Int32) <<< (nI n &&& 31))) = abN al px wh n ||| (if lg_cmp (1000 * (abW al wh n).toInt64) (px.toInt64 * (smN (rwF al 0) 26).toInt64) ≤ 0 then 0 else (1 : Int32) <<< (nI n &&& 31))
    rw [ih]
    by_cases k : f n * 1000 ≤ px * S
    · rw [if_pos k, if_pos (e5.mp k), Int32.or_zero]
    · rw [if_neg k, if_neg (fun k2 => k (e5.mpr k2))]
/-- the greatest error -/
theorem ge_eq {L : LV} {al : Nat → Int32} {cap : Nat} (hc : al 264 = nI cap) (h9 : cap < 1000) (hi : LI al 0) (h : LR L al 0) : ∀ n, n < 26 → geC L.1 L.2.2.1 L.2.2.2.2.1 (nI (cap + 1)) L.2.2.2.2.2.2.2.2 (n + 1) = geM al n := by
  have z0 : (0 : Int32).toInt = 0 := rfl
  have hd : ∀ n, n < 26 → flEst L.1 L.2.2.1 L.2.2.2.2.1 (nI (cap + 1)) n - L.2.2.2.2.2.2.2.2 n = mEst al 0 n - al n ∧ 0 ≤ (mEst al 0 n - al n).toInt := fun n hn => by
    have b := mEst_bd hc h9 hi hn
    have s := hi.2.1
    have r := (hi.1 n hn).1
    rw [Nat.zero_add] at b r
    rw [LR_est h hc h9 hn, (h.1 n hn).2.2.2, Nat.zero_add]
    refine ⟨rfl, ?_⟩
    rw [i32_sub (by omega) (by omega)]
    omega
  intro n
  induction n with
  | zero =>
    intro hn
    obtain ⟨d1, d2⟩ := hd 0 hn
    show (if (0 : Int32) < flEst L.1 L.2.2.1 L.2.2.2.2.1 (nI (cap + 1)) 0 - L.2.2.2.2.2.2.2.2 0 then flEst L.1 L.2.2.1 L.2.2.2.2.1 (nI (cap + 1)) 0 - L.2.2.2.2.2.2.2.2 0 else 0) = mEst al 0 0 - al 0
    rw [d1]
    by_cases k : (0 : Int32) < mEst al 0 0 - al 0
    · rw [if_pos k]
    · rw [if_neg k]
      rw [i_lt, z0] at k
      rw [i_eq, z0]
      omega
  | succ n ih =>
    intro hn
    obtain ⟨d1, d2⟩ := hd (n + 1) hn
    have i := ih (by omega)
    show (if geC L.1 L.2.2.1 L.2.2.2.2.1 (nI (cap + 1)) L.2.2.2.2.2.2.2.2 (n + 1) < flEst L.1 L.2.2.1 L.2.2.2.2.1 (nI (cap + 1)) (n + 1) - L.2.2.2.2.2.2.2.2 (n + 1) then flEst L.1 L.2.2.1 L.2.2.2.2.1 (nI (cap + 1)) (n + 1) - L.2.2.2.2.2.2.2.2 (n + 1) else geC L.1 L.2.2.1 L.2.2.2.2.1 (nI (cap + 1)) L.2.2.2.2.2.2.2.2 (n + 1)) = (if mEst al 0 (n + 1) - al (n + 1) ≤ geM al n then geM al n else mEst al 0 (n + 1) - al (n + 1))
    rw [d1, i]
    by_cases k : geM al n < mEst al 0 (n + 1) - al (n + 1)
    · rw [if_pos k, if_neg (fun k2 => by rw [i_le] at k2; rw [i_lt] at k; omega)]
    · rw [if_neg k, if_pos (by rw [i_le]; rw [i_lt] at k; omega)]
/-- places of the counters -/
theorem trC_same (f : Nat → Int32) {k : Nat} (hk : cntN f 26 = k) {t : Nat} (ht : t ≤ k) {p : Nat} (hp : p < 26) (h2 : ¬ trC f k t p ≤ 0) : posN (trC f k t) p 26 = posN f p 26 ∧ ¬ f p ≤ 0 := by
  obtain ⟨i1, i2, i3⟩ := trC_sp f hk t ht
  have hpf : ¬ f p ≤ 0 ∧ posN f p 26 < k - t := by
    rw [i1 p hp] at h2
    by_cases c : ¬ f p ≤ 0 ∧ k - t ≤ posN f p 26
    · rw [if_pos c] at h2; exact absurd (Int32.le_refl 0) h2
    · rw [if_neg c] at h2
      exact ⟨h2, Classical.byContradiction fun c2 => c ⟨h2, by omega⟩⟩
  refine ⟨posN_eq2 hp hp 26 (Nat.le_refl 26) (fun j hj => ?_), hpf.1⟩
  have gp : trC f k t p = f p := by rw [i1 p hp, if_neg (fun c => by omega)]
  by_cases c : ¬ f j ≤ 0 ∧ k - t ≤ posN f j 26
  · have gj : trC f k t j = 0 := by rw [i1 j hj, if_pos c]
    refine iff_of_false (fun c2 => ?_) (fun c2 => ?_)
    · have := ahd_pos h2 c2
      rw [gj] at this
      exact this (Int32.le_refl 0)
    · have := (posN_mono hj hp c2 26 (Nat.le_refl 26)).1
      omega
  · have gj : trC f k t j = f j := by rw [i1 j hj, if_neg c]
    unfold ahd
    rw [gp, gj]
theorem pAtN_ex (f : Nat → Int32) {m : Nat} (hm : m < cntN f 26) : ∃ p, p < 26 ∧ pAtN f (nI m) 26 0 = nI p := by
  obtain ⟨i1, i2, i3⟩ := trC_sp f rfl (cntN f 26 - (m + 1)) (by omega)
  obtain ⟨p, hp, h1, h2, h3⟩ := pAtN_last (trC f (cntN f 26) (cntN f 26 - (m + 1))) (m := m) (by rw [i2]; omega)
  obtain ⟨h4, h5⟩ := trC_same f rfl (by omega) hp h2
  rcases pAtN_sp f (nI m) 26 0 rfl with ⟨_, k⟩ | ⟨j, _, hj, k, _⟩
  · exact absurd (by rw [← h4, h3]) (k p (Nat.zero_le p) hp h5)
  · exact ⟨j, hj, k⟩
theorem pAtN_no (f : Nat → Int32) {px : Int32} (h : nI (cntN f 26) ≤ px) : pAtN f px 26 0 = -1 := by
  have hb := cntN_le f 26
  rcases pAtN_sp f px 26 0 rfl with ⟨k, _⟩ | ⟨j, _, hj, k, k2, k3⟩
  · exact k
  · have h1 := posN_cnt hj k2 26 (Nat.le_refl 26)
    rw [if_pos hj] at h1
    rw [← k3, nI_leI (by omega) (by omega)] at h
    omega
/-- where calls were heard there is a counter -/
theorem some_cnt {al : Nat → Int32} {cap : Nat} (hc : al 264 = nI cap) (h9 : cap < 1000) (hi : LI al 0) (h0 : ¬ smN (rwF al 0) 26 = 0) : 0 < cntN (rwF al 26) 26 := by
  refine Nat.pos_of_ne_zero (fun k => h0 ?_)
  have z0 : (0 : Int32).toInt = 0 := rfl
  have hz := cntN_zero 26 k
  have i0 := LI0.mp hi
  have fl : mFloor al 0 = 0 := by
    rcases mFloor_sp0 al hc h9 with ⟨_, b⟩ | ⟨_, w, hw, _, c, _⟩
    · exact b
    · exact absurd (hz w hw) c
  have all0 : ∀ j, j < 26 → rwF al 0 j = 0 := fun j hj => by
    have e := i0.2.2.1 j hj
    rcases mEst_sp0 al j with ⟨_, b⟩ | ⟨a, _⟩
    · rw [b, fl, z0] at e
      have := (i0.1 j hj).1
      show al (0 + j) = 0
      rw [Nat.zero_add, i_eq, z0]; omega
    · exact absurd (hz j hj) a
  have gen : ∀ n, n ≤ 26 → smN (rwF al 0) n = 0 := by
    intro n
    induction n with
    | zero => intro _; rfl
    | succ n ih =>
      intro hn
      show smN (rwF al 0) n + rwF al 0 n = 0
      rw [ih (by omega), all0 n (by omega)]
      rfl
  exact gen 26 (Nat.le_refl 26)
end PANS
