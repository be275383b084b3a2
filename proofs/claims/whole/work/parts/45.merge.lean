section PMERGE
theorem adC_at (fc gc : Nat → Int32) (f0 f1 : Int32) : ∀ n j, adC fc gc f0 f1 n j = if j < n ∧ ¬ (fc j ≤ 0 ∧ gc j ≤ 0) then (if fc j ≤ 0 then f0 else fc j) + (if gc j ≤ 0 then f1 else gc j) else fc j
  | 0, j => by rw [if_neg (fun h => absurd h.1 (Nat.not_lt_zero j))]; rfl
  | n + 1, j => by
    have ih := adC_at fc gc f0 f1 n
    have hn : adC fc gc f0 f1 n n = fc n := by rw [ih, if_neg (fun h => absurd h.1 (Nat.lt_irrefl n))]
    show (if adC fc gc f0 f1 n n ≤ 0 ∧ gc n ≤ 0 then adC fc gc f0 f1 n else upd (adC fc gc f0 f1 n) n ((if adC fc gc f0 f1 n n ≤ 0 then f0 else adC fc gc f0 f1 n n) + (if gc n ≤ 0 then f1 else gc n))) j = _
    rw [hn]
    by_cases h : fc n ≤ 0 ∧ gc n ≤ 0
    · rw [if_pos h, ih]
      by_cases hj : j = n
      · subst hj
        rw [if_neg (fun k => absurd k.1 (Nat.lt_irrefl j)), if_neg (fun k => k.2 h)]
      · have : (j < n + 1) ↔ (j < n) := by omega
        simp only [this]
    · rw [if_neg h, upd_at]
      by_cases hj : j = n
      · subst hj
        rw [if_pos rfl, if_pos (show j < j + 1 ∧ ¬ (fc j ≤ 0 ∧ gc j ≤ 0) from ⟨Nat.lt_succ_self j, h⟩)]
      · rw [if_neg hj, ih]
        have : (j < n + 1) ↔ (j < n) := by omega
        simp only [this]
theorem adS_at (fc fs gc gs : Nat → Int32) (f0 f1 : Int32) : ∀ n j, adS fc fs gc gs f0 f1 n j = if j < n ∧ ¬ (fc j ≤ 0 ∧ gc j ≤ 0) then ((if fc j ≤ 0 then f0 else fc j) + (if gc j ≤ 0 then f1 else gc j)) - (flSure fc fs j + flSure gc gs j) else fs j
  | 0, j => by rw [if_neg (fun h => absurd h.1 (Nat.not_lt_zero j))]; rfl
  | n + 1, j => by
    have ih := adS_at fc fs gc gs f0 f1 n
    have hn : adC fc gc f0 f1 n n = fc n := by rw [adC_at, if_neg (fun h => absurd h.1 (Nat.lt_irrefl n))]
    have hs : adS fc fs gc gs f0 f1 n n = fs n := by rw [ih, if_neg (fun h => absurd h.1 (Nat.lt_irrefl n))]
    have hu : flSure (adC fc gc f0 f1 n) (adS fc fs gc gs f0 f1 n) n = flSure fc fs n := by
      unfold flSure
      rw [hn, hs]
    show (if adC fc gc f0 f1 n n ≤ 0 ∧ gc n ≤ 0 then adS fc fs gc gs f0 f1 n else upd (adS fc fs gc gs f0 f1 n) n (((if adC fc gc f0 f1 n n ≤ 0 then f0 else adC fc gc f0 f1 n n) + (if gc n ≤ 0 then f1 else gc n)) - (flSure (adC fc gc f0 f1 n) (adS fc fs gc gs f0 f1 n) n + flSure gc gs n))) j = _
    rw [hn, hu]
    by_cases h : fc n ≤ 0 ∧ gc n ≤ 0
    · rw [if_pos h, ih]
      by_cases hj : j = n
      · subst hj
        rw [if_neg (fun k => absurd k.1 (Nat.lt_irrefl j)), if_neg (fun k => k.2 h)]
      · have : (j < n + 1) ↔ (j < n) := by omega
        simp only [this]
    · rw [if_neg h, upd_at]
      by_cases hj : j = n
      · subst hj
        rw [if_pos rfl, if_pos (show j < j + 1 ∧ ¬ (fc j ≤ 0 ∧ gc j ≤ 0) from ⟨Nat.lt_succ_self j, h⟩)]
      · rw [if_neg hj, ih]
        have : (j < n + 1) ↔ (j < n) := by omega
        simp only [this]
theorem meC_at (al ck : Nat → Int32) : ∀ n j, meC al ck n j = if j < n then (if meI al j then mEst al 0 j + mEst al 132 j else 0) else ck j
  | 0, j => by rw [if_neg (Nat.not_lt_zero j)]; rfl
  | n + 1, j => by
    have ih := meC_at al ck n
    show upd (meC al ck n) n (if meI al n then mEst al 0 n + mEst al 132 n else 0) j = _
    rw [upd_at]
    by_cases hj : j = n
    · subst hj
      rw [if_pos rfl, if_pos (Nat.lt_succ_self j)]
    · rw [if_neg hj, ih]
      have : (j < n + 1) ↔ (j < n) := by omega
      simp only [this]
theorem meS_at (al ck zk : Nat → Int32) : ∀ n j, meS al ck zk n j = if j < n then (if meI al j then mEst al 0 j + mEst al 132 j - mSure al 0 j - mSure al 132 j else 0) else zk j
  | 0, j => by rw [if_neg (Nat.not_lt_zero j)]; rfl
  | n + 1, j => by
    have ih := meS_at al ck zk n
    show upd (meS al ck zk n) n (if meI al n then meC al ck (n + 1) n - mSure al 0 n - mSure al 132 n else 0) j = _
    rw [upd_at, meC_at, if_pos (Nat.lt_succ_self n)]
    by_cases hj : j = n
    · subst hj
      rw [if_pos rfl, if_pos (Nat.lt_succ_self j)]
      by_cases h : meI al j = true
      · rw [if_pos h, if_pos h, if_pos h]
      · rw [if_neg h, if_neg h]
    · rw [if_neg hj, ih]
      have : (j < n + 1) ↔ (j < n) := by omega
      simp only [this]
/-- how many stay, of the parrots below n -/
def stN (al ck : Nat → Int32) : Nat → Nat
  | 0 => 0
  | n + 1 => stN al ck n + (if meQ al ck n then 1 else 0)
theorem stN_le (al ck : Nat → Int32) : ∀ n, stN al ck n ≤ n
  | 0 => Nat.le_refl 0
  | n + 1 => by
    have := stN_le al ck n
    show stN al ck n + (if meQ al ck n then 1 else 0) ≤ n + 1
    split <;> omega
theorem stN_mono (al ck : Nat → Int32) {p : Nat} : ∀ n, p ≤ n → stN al ck p ≤ stN al ck n
  | 0, h => by rw [show p = 0 by omega]; exact Nat.le_refl _
  | n + 1, h => by
    by_cases e : p = n + 1
    · rw [e]; exact Nat.le_refl _
    · have := stN_mono al ck n (show p ≤ n by omega)
      show _ ≤ stN al ck n + (if meQ al ck n then 1 else 0)
      omega
theorem meA_at (al ck zk : Nat → Int32) : ∀ n, n ≤ 26 → (∀ q, q < 26 → meA al ck zk n (26 + q) = if q < n then (if meQ al ck q then ck q else 0) else al (26 + q)) ∧ (∀ q, q < 26 → meA al ck zk n (52 + q) = if q < n then (if meQ al ck q then zk q else 0) else al (52 + q)) ∧ (∀ q, q < 26 → meA al ck zk n (78 + q) = if q < n then (if meQ al ck q then nI (stN al ck (q + 1)) else 0) else al (78 + q)) ∧ meA al ck zk n 131 = nI (stN al ck n) ∧ (∀ j, j < 26 ∨ (104 ≤ j ∧ j ≠ 131) → meA al ck zk n j = al j)
  | 0, _ => by
    have e : meA al ck zk 0 = upd al 131 0 := rfl
    refine ⟨fun q hq => ?_, fun q hq => ?_, fun q hq => ?_, ?_, fun j hj => ?_⟩
    · rw [e, upd_ne al 0 (show 26 + q ≠ 131 by omega)]; rfl
    · rw [e, upd_ne al 0 (show 52 + q ≠ 131 by omega)]; rfl
    · rw [e, upd_ne al 0 (show 78 + q ≠ 131 by omega)]; rfl
    · rw [e, upd_eq]; rfl
    · rw [e, upd_ne al 0 (show j ≠ 131 by omega)]
  | n + 1, hn => by
    obtain ⟨i1, i2, i3, i4, i5⟩ := meA_at al ck zk n (by omega)
    have eQ : meQ (meA al ck zk n) ck n = meQ al ck n := by
      unfold meQ
      rw [i5 264 (by omega)]
    have e : meA al ck zk (n + 1) = upd (upd (upd (upd (meA al ck zk n) 131 (meA al ck zk n 131 + bI (meQ al ck n))) (26 + n) (if meQ al ck n then ck n else 0)) (52 + n) (if meQ al ck n then zk n else 0)) (78 + n) (if meQ al ck n then nI (stN al ck (n + 1)) else 0) := by
      show upd (upd (upd (upd (meA al ck zk n) 131 (meA al ck zk n 131 + bI (meQ (meA al ck zk n) ck n))) (26 + n) (if meQ (meA al ck zk n) ck n then ck n else 0)) (52 + n) (if meQ (meA al ck zk n) ck n then zk n else 0)) (78 + n) (if meQ (meA al ck zk n) ck n then upd (upd (upd (meA al ck zk n) 131 (meA al ck zk n 131 + bI (meQ (meA al ck zk n) ck n))) (26 + n) (ck n)) (52 + n) (zk n) 131 else 0) = _
      rw [eQ]
      congr 1
      by_cases h : meQ al ck n = true
      · rw [if_pos h, if_pos h, upd_ne _ _ (show 131 ≠ 52 + n by omega), upd_ne _ _ (show 131 ≠ 26 + n by omega), upd_eq, i4, h]
        show nI (stN al ck n) + 1 = nI (stN al ck n + (if meQ al ck n then 1 else 0))
        rw [if_pos h, nI_1]
      · rw [if_neg h, if_neg h]
    have e131 : meA al ck zk n 131 + bI (meQ al ck n) = nI (stN al ck (n + 1)) := by
      rw [i4]
      show nI (stN al ck n) + bI (meQ al ck n) = nI (stN al ck n + (if meQ al ck n then 1 else 0))
      cases meQ al ck n with
      | true => exact nI_1 _
      | false => exact (Int32.add_zero _)
    rw [e, e131]
    refine ⟨fun q hq => ?_, fun q hq => ?_, fun q hq => ?_, ?_, fun j hj => ?_⟩
    · rw [upd_ne _ _ (show 26 + q ≠ 78 + n by omega), upd_ne _ _ (show 26 + q ≠ 52 + n by omega), upd_at]
      by_cases h : q = n
      · subst h; rw [if_pos rfl, if_pos (Nat.lt_succ_self q)]
      · rw [if_neg (show ¬ 26 + q = 26 + n by omega), upd_ne _ _ (show 26 + q ≠ 131 by omega), i1 q hq]
        have : (q < n + 1) ↔ (q < n) := by omega
        simp only [this]
    · rw [upd_ne _ _ (show 52 + q ≠ 78 + n by omega), upd_at]
      by_cases h : q = n
      · subst h; rw [if_pos rfl, if_pos (Nat.lt_succ_self q)]
      · rw [if_neg (show ¬ 52 + q = 52 + n by omega), upd_ne _ _ (show 52 + q ≠ 26 + n by omega), upd_ne _ _ (show 52 + q ≠ 131 by omega), i2 q hq]
        have : (q < n + 1) ↔ (q < n) := by omega
        simp only [this]
    · rw [upd_at]
      by_cases h : q = n
      · subst h; rw [if_pos rfl, if_pos (Nat.lt_succ_self q)]
      · rw [if_neg (show ¬ 78 + q = 78 + n by omega), upd_ne _ _ (show 78 + q ≠ 52 + n by omega), upd_ne _ _ (show 78 + q ≠ 26 + n by omega), upd_ne _ _ (show 78 + q ≠ 131 by omega), i3 q hq]
        have : (q < n + 1) ↔ (q < n) := by omega
        simp only [this]
    · rw [upd_ne _ _ (show 131 ≠ 78 + n by omega), upd_ne _ _ (show 131 ≠ 52 + n by omega), upd_ne _ _ (show 131 ≠ 26 + n by omega), upd_eq]
    · rw [upd_ne _ _ (show j ≠ 78 + n by omega), upd_ne _ _ (show j ≠ 52 + n by omega), upd_ne _ _ (show j ≠ 26 + n by omega), upd_ne _ _ (show j ≠ 131 by omega), i5 j hj]
theorem clN_at (al : Nat → Int32) (fr : Nat) : ∀ n j, clN al fr n j = if fr ≤ j ∧ j < fr + n then 0 else al j
  | 0, j => by rw [if_neg (by omega)]; rfl
  | n + 1, j => by
    have ih := clN_at al fr n
    show upd (clN al fr n) (fr + n) 0 j = _
    rw [upd_at]
    by_cases hj : j = fr + n
    · rw [if_pos hj, if_pos (show fr ≤ j ∧ j < fr + (n + 1) by omega)]
    · rw [if_neg hj, ih]
      have : (fr ≤ j ∧ j < fr + (n + 1)) ↔ (fr ≤ j ∧ j < fr + n) := by omega
      simp only [this]
theorem mtN_at (al : Nat → Int32) : ∀ n, n ≤ 26 → ∀ j, mtN al n j = if j < n then al j + al (132 + j) else al j
  | 0, _, j => by rw [if_neg (Nat.not_lt_zero j)]; rfl
  | n + 1, hn, j => by
    have ih := mtN_at al n (by omega)
    show upd (mtN al n) n (mtN al n n + mtN al n (132 + n)) j = _
    rw [upd_at]
    by_cases hj : j = n
    · rw [if_pos hj, ih, ih, if_neg (Nat.lt_irrefl n), if_neg (show ¬ 132 + n < n by omega), if_pos (show j < n + 1 by omega), hj]
    · rw [if_neg hj, ih]
      have : (j < n + 1) ↔ (j < n) := by omega
      simp only [this]
theorem msA_at (al : Nat → Int32) : ∀ n, n ≤ 26 → ∀ j, msA al n j = if 104 ≤ j ∧ j < 104 + n then al j + al (132 + j) else al j
  | 0, _, j => by rw [if_neg (by omega)]; rfl
  | n + 1, hn, j => by
    have ih := msA_at al n (by omega)
    show upd (msA al n) (104 + n) (msA al n (104 + n) + msA al n (236 + n)) j = _
    rw [upd_at]
    by_cases hj : j = 104 + n
    · rw [if_pos hj, ih, ih, if_neg (show ¬ (104 ≤ 104 + n ∧ 104 + n < 104 + n) by omega), if_neg (show ¬ (104 ≤ 236 + n ∧ 236 + n < 104 + n) by omega), if_pos (show 104 ≤ j ∧ j < 104 + (n + 1) by omega), hj]
      rw [show 132 + (104 + n) = 236 + n by omega]
    · rw [if_neg hj, ih]
      have : (104 ≤ j ∧ j < 104 + (n + 1)) ↔ (104 ≤ j ∧ j < 104 + n) := by omega
      simp only [this]
theorem msK_at (al ck : Nat → Int32) : ∀ n, n ≤ 26 → ∀ j, msK al ck n j = if j < n then al (104 + j) + al (236 + j) else ck j
  | 0, _, j => by rw [if_neg (Nat.not_lt_zero j)]; rfl
  | n + 1, hn, j => by
    have ih := msK_at al ck n (by omega)
    show upd (msK al ck n) n (msA al (n + 1) (104 + n)) j = _
    rw [upd_at]
    by_cases hj : j = n
    · rw [if_pos hj, msA_at al (n + 1) hn, if_pos (show 104 ≤ 104 + n ∧ 104 + n < 104 + (n + 1) by omega), if_pos (show j < n + 1 by omega), hj]
      rw [show 132 + (104 + n) = 236 + n by omega]
    · rw [if_neg hj, ih]
      have : (j < n + 1) ↔ (j < n) := by omega
      simp only [this]
theorem msL_sp (al ck : Nat → Int32) : ∀ n, (∃ k, k < n ∧ nI (posN ck k 26) = al 264 ∧ msL al ck n = ck k) ∨ (msL al ck n = 0 ∧ ∀ k, k < n → ¬ nI (posN ck k 26) = al 264)
  | 0 => Or.inr ⟨rfl, fun k hk => absurd hk (Nat.not_lt_zero k)⟩
  | n + 1 => by
    have e : msL al ck (n + 1) = if nI (posN ck n 26) = al 264 then ck n else msL al ck n := rfl
    by_cases h : nI (posN ck n 26) = al 264
    · rw [e, if_pos h]; exact Or.inl ⟨n, Nat.lt_succ_self n, h, rfl⟩
    · rw [e, if_neg h]
      rcases msL_sp al ck n with ⟨k, a, b, c⟩ | ⟨a, b⟩
      · exact Or.inl ⟨k, by omega, b, c⟩
      · refine Or.inr ⟨a, fun k hk => ?_⟩
        rcases Nat.lt_succ_iff_lt_or_eq.mp hk with k2 | k2
        · exact b k k2
        · rw [k2]; exact h
theorem smA_at (f g : Nat → Int32) : ∀ n j, smA f g n j = if j < n then f j + g j else f j
  | 0, j => by rw [if_neg (Nat.not_lt_zero j)]; rfl
  | n + 1, j => by
    have ih := smA_at f g n
    show upd (smA f g n) n (smA f g n n + g n) j = _
    rw [upd_at]
    by_cases hj : j = n
    · rw [if_pos hj, ih, if_neg (Nat.lt_irrefl n), if_pos (show j < n + 1 by omega), hj]
    · rw [if_neg hj, ih]
      have : (j < n + 1) ↔ (j < n) := by omega
      simp only [this]
/-- the rows of the reference behind a merging -/
theorem meR_rows (al ck zk : Nat → Int32) : (∀ q, q < 26 → meR al ck zk q = al q + al (132 + q)) ∧ (∀ q, q < 26 → meR al ck zk (26 + q) = if meQ al (meC al ck 26) q then meC al ck 26 q else 0) ∧ (∀ q, q < 26 → meR al ck zk (52 + q) = if meQ al (meC al ck 26) q then meS al ck zk 26 q else 0) ∧ (∀ q, q < 26 → meR al ck zk (78 + q) = if meQ al (meC al ck 26) q then nI (stN al (meC al ck 26) (q + 1)) else 0) ∧ meR al ck zk 131 = nI (stN al (meC al ck 26) 26) ∧ (∃ ls : Int32, ((∃ k, k < 26 ∧ nI (posN (fun j => al (104 + j) + al (236 + j)) k 26) = al 264 ∧ ls = al (104 + k) + al (236 + k)) ∨ (ls = 0 ∧ ∀ k, k < 26 → ¬ nI (posN (fun j => al (104 + j) + al (236 + j)) k 26) = al 264)) ∧ (∀ q, q < 26 → meR al ck zk (104 + q) = if al (104 + q) + al (236 + q) ≤ ls then 0 else al (104 + q) + al (236 + q) - ls) ∧ meR al ck zk 130 = al 130 + (al 262 + ls)) ∧ meR al ck zk 264 = al 264 ∧ meR al ck zk 265 = 0 := by
  obtain ⟨i1, i2, i3, i4, i5⟩ := meA_at al (meC al ck 26) (meS al ck zk 26) 26 (Nat.le_refl 26)
  have hF : ∀ j, meF al ck zk j = meA al (meC al ck 26) (meS al ck zk 26) 26 j := fun j => rfl
  have hK : ∀ j, j < 26 → msK (meF al ck zk) (meC al ck 26) 26 j = al (104 + j) + al (236 + j) := fun j hj => by
    rw [msK_at _ _ 26 (Nat.le_refl 26), if_pos hj, hF, hF, i5 (104 + j) (by omega), i5 (236 + j) (by omega)]
  have hB264 : msA (meF al ck zk) 26 264 = al 264 := by
    rw [msA_at _ 26 (Nat.le_refl 26), if_neg (show ¬ (104 ≤ 264 ∧ 264 < 104 + 26) by omega), hF, i5 264 (by omega)]
  have hO : ∀ j, j ≠ 130 → ¬ (104 ≤ j ∧ j < 104 + 26) → msO (meF al ck zk) (meC al ck 26) j = meA al (meC al ck 26) (meS al ck zk 26) 26 j := fun j h1 h2 => by
    unfold msO
    rw [upd_ne _ _ h1, wrZ_at, if_neg h2, msA_at _ 26 (Nat.le_refl 26), if_neg h2, hF]
  have hR : ∀ j, j < 132 → meR al ck zk j = mtN (msO (meF al ck zk) (meC al ck 26)) 26 j := fun j hj => by
    unfold meR
    rw [upd_ne _ _ (show j ≠ 265 by omega), clN_at, if_neg (show ¬ (132 ≤ j ∧ j < 132 + 132) by omega)]
  have hR2 : ∀ j, 26 ≤ j → j < 132 → meR al ck zk j = msO (meF al ck zk) (meC al ck 26) j := fun j h1 h2 => by
    rw [hR j h2, mtN_at _ 26 (Nat.le_refl 26), if_neg (show ¬ j < 26 by omega)]
  refine ⟨fun q hq => ?_, fun q hq => ?_, fun q hq => ?_, fun q hq => ?_, ?_, ?_, ?_, ?_⟩
  · rw [hR q (by omega), mtN_at _ 26 (Nat.le_refl 26), if_pos hq, hO q (by omega) (by omega), hO (132 + q) (by omega) (by omega), i5 q (by omega), i5 (132 + q) (by omega)]
  · rw [hR2 _ (by omega) (by omega), hO _ (by omega) (by omega), i1 q hq, if_pos hq]
  · rw [hR2 _ (by omega) (by omega), hO _ (by omega) (by omega), i2 q hq, if_pos hq]
  · rw [hR2 _ (by omega) (by omega), hO _ (by omega) (by omega), i3 q hq, if_pos hq]
  · rw [hR2 _ (by omega) (by omega), hO _ (by omega) (by omega), i4]
  · refine ⟨msL (msA (meF al ck zk) 26) (msK (meF al ck zk) (meC al ck 26) 26) 26, ?_, fun q hq => ?_, ?_⟩
    · have e : ∀ k, k < 26 → posN (msK (meF al ck zk) (meC al ck 26) 26) k 26 = posN (fun j => al (104 + j) + al (236 + j)) k 26 := fun k hk => posN_cg (g := fun j => al (104 + j) + al (236 + j)) (hK k hk) 26 (fun j hj => hK j hj)
      rcases msL_sp (msA (meF al ck zk) 26) (msK (meF al ck zk) (meC al ck 26) 26) 26 with ⟨k, a, b, c⟩ | ⟨a, b⟩
      · rw [hB264, e k a] at b
        rw [c, hK k a]
        exact Or.inl ⟨k, a, b, rfl⟩
      · refine Or.inr ⟨a, fun k hk => ?_⟩
        have := b k hk
        rw [hB264, e k hk] at this
        exact this
    · rw [hR2 _ (by omega) (by omega)]
      unfold msO
      rw [upd_ne _ _ (show 104 + q ≠ 130 by omega), wrZ_at, if_pos (show 104 ≤ 104 + q ∧ 104 + q < 104 + 26 by omega), msA_at _ 26 (Nat.le_refl 26), if_pos (show 104 ≤ 104 + q ∧ 104 + q < 104 + 26 by omega), hF, hF, i5 (104 + q) (by omega), i5 (132 + (104 + q)) (by omega), show 132 + (104 + q) = 236 + q by omega]
    · rw [hR2 _ (by omega) (by omega)]
      unfold msO
      rw [upd_eq, wrZ_at, if_neg (show ¬ (104 ≤ 130 ∧ 130 < 104 + 26) by omega), wrZ_at, if_neg (show ¬ (104 ≤ 262 ∧ 262 < 104 + 26) by omega), msA_at _ 26 (Nat.le_refl 26) 130, if_neg (show ¬ (104 ≤ 130 ∧ 130 < 104 + 26) by omega), msA_at _ 26 (Nat.le_refl 26) 262, if_neg (show ¬ (104 ≤ 262 ∧ 262 < 104 + 26) by omega), hF, hF, i5 130 (by omega), i5 262 (by omega)]
  · unfold meR
    rw [upd_ne _ _ (show 264 ≠ 265 by omega), clN_at, if_neg (show ¬ (132 ≤ 264 ∧ 264 < 132 + 132) by omega), mtN_at _ 26 (Nat.le_refl 26), if_neg (show ¬ 264 < 26 by omega), hO _ (by omega) (by omega), i5 264 (by omega)]
  · unfold meR
    rw [upd_eq]
end PMERGE
