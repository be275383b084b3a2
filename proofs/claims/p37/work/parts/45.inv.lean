section PINV
theorem wdN_at (f : Nat → Int32) (v : Int32) : ∀ n j, wdN f v n j = if j < n then (if f j - v < 0 then 0 else f j - v) else f j
  | 0, j => by
    rw [if_neg (by omega)]
    rfl
  | n + 1, j => by
    have ih := wdN_at f v n
    show (if j = n then (if wdN f v n n - v < 0 then 0 else wdN f v n n - v) else wdN f v n j) = _
    by_cases h : j = n
    · rw [if_pos h, ih, if_neg (show ¬ n < n by omega), if_pos (show j < n + 1 by omega), h]
    · rw [if_neg h, ih]
      by_cases h2 : j < n
      · rw [if_pos h2, if_pos (show j < n + 1 by omega)]
      · rw [if_neg h2, if_neg (show ¬ j < n + 1 by omega)]
/-- what a count becomes when all are worn down, as integers -/
theorem wd_int {x v : Int32} (h0 : 0 ≤ x.toInt) (hv : 0 ≤ v.toInt) : 0 ≤ (if x - v < 0 then (0 : Int32) else x - v).toInt ∧ (if x - v < 0 then (0 : Int32) else x - v).toInt ≤ x.toInt ∧ x.toInt ≤ (if x - v < 0 then (0 : Int32) else x - v).toInt + v.toInt ∧ (0 < (if x - v < 0 then (0 : Int32) else x - v).toInt → (if x - v < 0 then (0 : Int32) else x - v).toInt + v.toInt = x.toInt) := by
  have b1 := Int32.toInt_lt x
  have b2 := Int32.toInt_lt v
  have e : (x - v).toInt = x.toInt - v.toInt := i32_sub (by omega) (by omega)
  have z : (0 : Int32).toInt = 0 := rfl
  by_cases h : x - v < 0
  · rw [if_pos h]
    rw [Int32.lt_iff_toInt_lt] at h
    omega
  · rw [if_neg h]
    rw [Int32.lt_iff_toInt_lt] at h
    omega
theorem smA_at (f g : Nat → Int32) : ∀ n j, smA f g n j = if j < n then f j + g j else f j
  | 0, j => by rw [if_neg (Nat.not_lt_zero j)]; rfl
  | n + 1, j => by
    have ih := smA_at f g n
    show upd (smA f g n) n (smA f g n n + g n) j = _
    rw [upd_at]
    by_cases hj : j = n
    · rw [if_pos hj, ih, if_neg (Nat.lt_irrefl n), if_pos (show j < n + 1 by omega), hj]
    · rw [if_neg hj, ih]
      have : (j < n + 1) ↔ (j < n) := by omega
      simp only [this]
theorem adC_at (fc gc : Nat → Int32) (f0 f1 : Int32) : ∀ n j, adC fc gc f0 f1 n j = if j < n ∧ ¬ (fc j ≤ 0 ∧ gc j ≤ 0) then (if fc j ≤ 0 then f0 else fc j) + (if gc j ≤ 0 then f1 else gc j) else fc j
  | 0, j => by rw [if_neg (fun h => absurd h.1 (Nat.not_lt_zero j))]; rfl
  | n + 1, j => by
    have ih := adC_at fc gc f0 f1 n
    have hn : adC fc gc f0 f1 n n = fc n := by rw [ih, if_neg (fun h => absurd h.1 (Nat.lt_irrefl n))]
    show (if adC fc gc f0 f1 n n ≤ 0 ∧ gc n ≤ 0 then adC fc gc f0 f1 n else upd (adC fc gc f0 f1 n) n ((if adC fc gc f0 f1 n n ≤ 0 then f0 else adC fc gc f0 f1 n n) + (if gc n ≤ 0 then f1 else gc n))) j = _
    rw [hn]
    by_cases h : fc n ≤ 0 ∧ gc n ≤ 0
    · rw [if_pos h, ih]
      by_cases hj : j = n
      · subst hj
        rw [if_neg (fun k => absurd k.1 (Nat.lt_irrefl j)), if_neg (fun k => k.2 h)]
      · have : (j < n + 1) ↔ (j < n) := by omega
        simp only [this]
    · rw [if_neg h, upd_at]
      by_cases hj : j = n
      · subst hj
        rw [if_pos rfl, if_pos (show j < j + 1 ∧ ¬ (fc j ≤ 0 ∧ gc j ≤ 0) from ⟨Nat.lt_succ_self j, h⟩)]
      · rw [if_neg hj, ih]
        have : (j < n + 1) ↔ (j < n) := by omega
        simp only [this]
theorem adS_at (fc fs gc gs : Nat → Int32) (f0 f1 : Int32) : ∀ n j, adS fc fs gc gs f0 f1 n j = if j < n ∧ ¬ (fc j ≤ 0 ∧ gc j ≤ 0) then ((if fc j ≤ 0 then f0 else fc j) + (if gc j ≤ 0 then f1 else gc j)) - (flSure fc fs j + flSure gc gs j) else fs j
  | 0, j => by rw [if_neg (fun h => absurd h.1 (Nat.not_lt_zero j))]; rfl
  | n + 1, j => by
    have ih := adS_at fc fs gc gs f0 f1 n
    have hn : adC fc gc f0 f1 n n = fc n := by rw [adC_at, if_neg (fun h => absurd h.1 (Nat.lt_irrefl n))]
    have hs : adS fc fs gc gs f0 f1 n n = fs n := by rw [ih, if_neg (fun h => absurd h.1 (Nat.lt_irrefl n))]
    have hu : flSure (adC fc gc f0 f1 n) (adS fc fs gc gs f0 f1 n) n = flSure fc fs n := by
      unfold flSure
      rw [hn, hs]
    show (if adC fc gc f0 f1 n n ≤ 0 ∧ gc n ≤ 0 then adS fc fs gc gs f0 f1 n else upd (adS fc fs gc gs f0 f1 n) n (((if adC fc gc f0 f1 n n ≤ 0 then f0 else adC fc gc f0 f1 n n) + (if gc n ≤ 0 then f1 else gc n)) - (flSure (adC fc gc f0 f1 n) (adS fc fs gc gs f0 f1 n) n + flSure gc gs n))) j = _
    rw [hn, hu]
    by_cases h : fc n ≤ 0 ∧ gc n ≤ 0
    · rw [if_pos h, ih]
      by_cases hj : j = n
      · subst hj
        rw [if_neg (fun k => absurd k.1 (Nat.lt_irrefl j)), if_neg (fun k => k.2 h)]
      · have : (j < n + 1) ↔ (j < n) := by omega
        simp only [this]
    · rw [if_neg h, upd_at]
      by_cases hj : j = n
      · subst hj
        rw [if_pos rfl, if_pos (show j < j + 1 ∧ ¬ (fc j ≤ 0 ∧ gc j ≤ 0) from ⟨Nat.lt_succ_self j, h⟩)]
      · rw [if_neg hj, ih]
        have : (j < n + 1) ↔ (j < n) := by omega
        simp only [this]
theorem tk_no {fc fs fg : Nat → Int32} {sz rm : Int32} {pa : Nat} (h0 : ¬ fc pa = 0 ∨ (flFull sz rm = false ∧ flLeast fc fg sz rm = 0)) : (∀ q, tkC fc fg sz rm pa q = if q = pa then fc pa + 1 else fc q) ∧ (∀ q, tkS fc fs fg sz rm pa q = if fc pa = 0 ∧ q = pa then 0 else fs q) ∧ tkZ fc fg sz rm pa = if fc pa = 0 then sz + 1 else sz := by
  by_cases h : fc pa = 0
  · obtain ⟨hf, hl⟩ := h0.resolve_left (fun k => k h)
    refine ⟨fun q => ?_, fun q => ?_, ?_⟩
    · simp only [tkC, gvC, hf, hl, upd_at, h, if_true]
      by_cases hq : q = pa
      · simp [hq]
      · simp [hq]
    · simp only [tkS, hl, upd_at, h, if_true, true_and]
    · simp only [tkZ, gvZ, hf, h, if_true]
      rfl
  · refine ⟨fun q => ?_, fun q => ?_, ?_⟩
    · simp only [tkC, h, if_false, upd_at]
    · simp only [tkS, h, if_false, false_and]
    · simp only [tkZ, h, if_false]
theorem tk_yes {fc fs fg : Nat → Int32} {sz rm : Int32} {pa w : Nat} (h0 : fc pa = 0) (hf : flFull sz rm = true) (hw : flWeak fc fg 26 = nI w) (hw26 : w < 26) (hne : w ≠ pa) : (∀ q, tkC fc fg sz rm pa q = if q = pa then fc w + 1 else if q = w then 0 else fc q) ∧ (∀ q, tkS fc fs fg sz rm pa q = if q = pa then fc w else fs q) ∧ tkZ fc fg sz rm pa = sz - 1 + 1 := by
  have hn : ¬ nI w = -1 := nI_ne1 (by omega)
  have hk : (nI w).toNatClampNeg = w := nI_clamp (by omega)
  have hl : flLeast fc fg sz rm = fc w := by
    simp only [flLeast, hf, hw, hn, hk, if_true, if_false]
  refine ⟨fun q => ?_, fun q => ?_, ?_⟩
  · simp only [tkC, gvC, flRemC, hf, hl, hw, hn, hk, upd_at, h0, if_true, if_false]
    by_cases hq : q = pa
    · simp [hq]
    · simp [hq]
  · simp only [tkS, hl, upd_at, h0, if_true]
  · simp only [tkZ, gvZ, flRemZ, hf, hw, hn, h0, if_true, if_false]
theorem pAtN_ex (f : Nat → Int32) {m : Nat} (hm : m < cntN f 26) : ∃ p, p < 26 ∧ pAtN f (nI m) 26 0 = nI p ∧ ¬ f p ≤ 0 ∧ posN f p 26 = m := by
  have hb := cntN_le f 26
  obtain ⟨a, b, c⟩ := trC_sp f (k := cntN f 26) rfl (cntN f 26 - (m + 1)) (by omega)
  obtain ⟨p, hp, h1, h2, h3⟩ := pAtN_last (trC f (cntN f 26) (cntN f 26 - (m + 1))) (m := m) (by omega)
  have e : ∀ q, q < 26 → ¬ trC f (cntN f 26) (cntN f 26 - (m + 1)) q ≤ 0 → posN (trC f (cntN f 26) (cntN f 26 - (m + 1))) q 26 = posN f q 26 ∧ ¬ f q ≤ 0 := by
    intro q hq h4
    have hqf : ¬ f q ≤ 0 ∧ ¬ (cntN f 26 - (cntN f 26 - (m + 1)) ≤ posN f q 26) := by
      rw [a q hq] at h4
      by_cases c1 : ¬ f q ≤ 0 ∧ cntN f 26 - (cntN f 26 - (m + 1)) ≤ posN f q 26
      · rw [if_pos c1] at h4; exact absurd (Int32.le_refl 0) h4
      · rw [if_neg c1] at h4
        exact ⟨h4, fun c2 => c1 ⟨h4, c2⟩⟩
    have gq : trC f (cntN f 26) (cntN f 26 - (m + 1)) q = f q := by rw [a q hq, if_neg (fun c2 => hqf.2 c2.2)]
    refine ⟨posN_eq2 hq hq 26 (Nat.le_refl 26) (fun j hj => ?_), hqf.1⟩
    by_cases c1 : ¬ f j ≤ 0 ∧ cntN f 26 - (cntN f 26 - (m + 1)) ≤ posN f j 26
    · have gj : trC f (cntN f 26) (cntN f 26 - (m + 1)) j = 0 := by rw [a j hj, if_pos c1]
      refine iff_of_false (fun c2 => ?_) (fun c2 => ?_)
      · have := ahd_pos h4 c2
        rw [gj] at this
        exact this (Int32.le_refl 0)
      · have := (posN_mono hj hq c2 26 (Nat.le_refl 26)).1
        have := hqf.2
        omega
    · have gj : trC f (cntN f 26) (cntN f 26 - (m + 1)) j = f j := by rw [a j hj, if_neg c1]
      unfold ahd
      rw [gq, gj]
  obtain ⟨h5, h6⟩ := e p hp h2
  rcases pAtN_sp f (nI m) 26 0 rfl with ⟨_, h7⟩ | ⟨q, _, h8, h9, h10, h11⟩
  · exact absurd (by rw [← h5, h3]) (h7 p (Nat.zero_le p) hp h6)
  · have h12 := posN_le' f q h8 26 (Nat.le_refl 26)
    exact ⟨q, h8, h9, h10, (nI_eq (by omega) (by omega)).mp h11⟩
theorem cntN_mono {f g : Nat → Int32} : ∀ n, (∀ j, j < n → ¬ f j ≤ 0 → ¬ g j ≤ 0) → cntN f n ≤ cntN g n
  | 0, _ => Nat.le_refl 0
  | n + 1, h => by
    have ih := cntN_mono (f := f) (g := g) n (fun j hj => h j (by omega))
    rcases cntN_s f n with ⟨c, d⟩ | ⟨c, d⟩ <;> rcases cntN_s g n with ⟨c2, d2⟩ | ⟨c2, d2⟩
    · omega
    · omega
    · exact absurd c2 (h n (by omega) c)
    · omega
theorem cnt_pos {f g : Nat → Int32} {k : Nat} (hk : k < 26) : ∀ n, n ≤ 26 → (∀ j, j < n → ¬ g j ≤ 0 → ahd f j k) → cntN g n ≤ posN f k n
  | 0, _, _ => Nat.le_refl 0
  | n + 1, hn, h => by
    have ih := cnt_pos (f := f) (g := g) hk n (by omega) (fun j hj => h j (by omega))
    rcases posN_s f hk (n := n) (by omega) with ⟨a, b⟩ | ⟨a, b⟩ <;> rcases cntN_s g n with ⟨c, d⟩ | ⟨c, d⟩
    · omega
    · omega
    · omega
    · exact absurd (h n (by omega) c) a
/-- what holds of a listener's lists -/
def WI (L : LV) (cap : Nat) : Prop :=
  (∀ p, p < 26 → 0 ≤ (L.2.2.2.2.2.2.2.2 p).toInt ∧ 0 ≤ (L.2.2.2.2.2.1 p).toInt ∧ (L.2.2.2.2.2.1 p).toInt ≤ (L.2.2.2.2.2.2.2.2 p).toInt ∧ (L.2.2.2.2.2.2.2.2 p).toInt ≤ (L.2.2.2.2.2.1 p).toInt + L.2.2.2.2.2.2.1.toInt ∧ (L.2.2.2.2.2.1 p).toInt + L.2.2.2.2.2.2.1.toInt ≤ smI L.2.2.2.2.2.2.2.2 26 ∧ 0 ≤ (L.1 p).toInt ∧ (L.1 p).toInt ≤ smI L.2.2.2.2.2.2.2.2 26) ∧
  (∀ p, p < 26 → ¬ L.1 p ≤ 0 → 0 ≤ (L.2.1 p).toInt ∧ (L.2.1 p).toInt ≤ (L.1 p).toInt ∧ (L.1 p).toInt - (L.2.1 p).toInt ≤ (L.2.2.2.2.2.2.2.2 p).toInt ∧ (L.2.2.2.2.2.2.2.2 p).toInt ≤ (L.1 p).toInt) ∧
  (∀ p, p < 26 → L.1 p ≤ 0 → (cntN L.1 26 ≤ cap → (L.2.2.2.2.2.2.2.2 p).toInt ≤ 0) ∧ ∀ w, w < 26 → ¬ L.1 w ≤ 0 → (L.2.2.2.2.2.2.2.2 p).toInt ≤ (L.1 w).toInt) ∧
  smI L.2.2.2.2.2.2.2.2 26 ≤ 99999 ∧ 0 ≤ L.2.2.2.2.2.2.1.toInt ∧ L.2.2.2.2.1 = nI (cntN L.1 26) ∧ cntN L.1 26 ≤ cap + 1 ∧ L.2.2.2.2.2.2.2.1 = nI (cntN L.2.2.2.2.2.1 26) ∧ cntN L.2.2.2.2.2.1 26 ≤ cap
/-- the floor: 0, or the least of the counts -/
theorem least_sp (fc fg : Nat → Int32) {cap : Nat} (h9 : cap < 1000) (hle : cntN fc 26 ≤ cap + 1) : (flFull (nI (cntN fc 26)) (nI (cap + 1)) = false ∧ cntN fc 26 ≤ cap ∧ flLeast fc fg (nI (cntN fc 26)) (nI (cap + 1)) = 0) ∨ (flFull (nI (cntN fc 26)) (nI (cap + 1)) = true ∧ cntN fc 26 = cap + 1 ∧ ∃ w, w < 26 ∧ flWeak fc fg 26 = nI w ∧ ¬ fc w ≤ 0 ∧ flLeast fc fg (nI (cntN fc 26)) (nI (cap + 1)) = fc w ∧ ∀ q, q < 26 → ¬ fc q ≤ 0 → (fc w).toInt ≤ (fc q).toInt) := by
  have hb := cntN_le fc 26
  by_cases h : cap + 1 ≤ cntN fc 26
  · have hf : flFull (nI (cntN fc 26)) (nI (cap + 1)) = true := decide_eq_true (nI_le h (by omega))
    refine Or.inr ⟨hf, by omega, ?_⟩
    obtain ⟨j, hj, hp⟩ := cntN_ex (f := fc) 26 (by omega)
    rcases flWeak_sp fc fg 26 (Nat.le_refl 26) with ⟨_, b⟩ | ⟨w, a, b, c, d⟩
    · exact absurd (b j hj) hp
    · refine ⟨w, a, b, c, ?_, d⟩
      unfold flLeast
      rw [hf, if_pos rfl, b, if_neg (nI_ne1 (by omega)), nI_clamp (by omega)]
  · have hf : flFull (nI (cntN fc 26)) (nI (cap + 1)) = false := decide_eq_false (nI_ge (by omega) (by omega))
    refine Or.inl ⟨hf, by omega, ?_⟩
    unfold flLeast
    rw [hf]; rfl
end PINV
