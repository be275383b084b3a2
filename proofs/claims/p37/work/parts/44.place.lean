section PPLACE
/-- j comes ahead of p by the counts f -/
def ahd (f : Nat → Int32) (j p : Nat) : Prop := f p < f j ∨ (f j = f p ∧ j < p)
theorem i_lt {x y : Int32} : x < y ↔ x.toInt < y.toInt := Int32.lt_iff_toInt_lt
theorem i_le {x y : Int32} : x ≤ y ↔ x.toInt ≤ y.toInt := Int32.le_iff_toInt_le
theorem i_eq {x y : Int32} : x = y ↔ x.toInt = y.toInt := Int32.toInt_inj.symm
theorem ahd_tr {f : Nat → Int32} {a b c : Nat} (h1 : ahd f a b) (h2 : ahd f b c) : ahd f a c := by
  unfold ahd at *
  simp only [i_lt, i_eq] at *
  omega
theorem ahd_irr {f : Nat → Int32} {a : Nat} (h1 : ahd f a a) : False := by
  unfold ahd at *
  simp only [i_lt] at *
  omega
theorem ahd_tot {f : Nat → Int32} {a b : Nat} (h : a ≠ b) : ahd f a b ∨ ahd f b a := by
  unfold ahd
  simp only [i_lt, i_eq]
  omega
theorem posN_s (f : Nat → Int32) {p : Nat} (hp : p < 26) {n : Nat} (hn : n < 26) : (ahd f n p ∧ posN f p (n + 1) = posN f p n + 1) ∨ (¬ ahd f n p ∧ posN f p (n + 1) = posN f p n) := by
  unfold ahd
  simp only [posN, i_lt, i_le, i_eq]
  rw [nI_toInt (by omega), nI_toInt (by omega)]
  by_cases h1 : (f n).toInt ≤ (f p).toInt
  · by_cases h2 : (f n).toInt = (f p).toInt
    · by_cases h3 : (p : Int) ≤ (n : Int)
      · rw [if_pos h1, if_pos h2, if_pos h3]
        exact Or.inr ⟨by omega, rfl⟩
      · rw [if_pos h1, if_pos h2, if_neg h3]
        exact Or.inl ⟨by omega, rfl⟩
    · rw [if_pos h1, if_neg h2]
      exact Or.inr ⟨by omega, rfl⟩
  · rw [if_neg h1]
    exact Or.inl ⟨by omega, rfl⟩
theorem cntN_s (f : Nat → Int32) (n : Nat) : (f n ≤ 0 ∧ cntN f (n + 1) = cntN f n) ∨ (¬ f n ≤ 0 ∧ cntN f (n + 1) = cntN f n + 1) := by
  simp only [cntN]
  by_cases h : f n ≤ 0
  · rw [if_pos h]; exact Or.inl ⟨h, rfl⟩
  · rw [if_neg h]; exact Or.inr ⟨h, rfl⟩
theorem ahd_pos {f : Nat → Int32} {j p : Nat} (hp : ¬ f p ≤ 0) (h : ahd f j p) : ¬ f j ≤ 0 := by
  unfold ahd at h
  simp only [i_lt, i_eq] at h
  rw [nI_p] at hp ⊢
  omega
theorem posN_eq2 {f g : Nat → Int32} {p q : Nat} (hp : p < 26) (hq : q < 26) : ∀ n, n ≤ 26 → (∀ j, j < n → (ahd f j p ↔ ahd g j q)) → posN f p n = posN g q n
  | 0, _, _ => rfl
  | n + 1, hn, h => by
    have ih := posN_eq2 hp hq n (by omega) (fun j hj => h j (by omega))
    have hh := h n (by omega)
    rcases posN_s f hp (n := n) (by omega) with ⟨a, b⟩ | ⟨a, b⟩ <;> rcases posN_s g hq (n := n) (by omega) with ⟨c, d⟩ | ⟨c, d⟩
    · omega
    · exact absurd (hh.mp a) c
    · exact absurd (hh.mpr c) a
    · omega
/-- who comes ahead has the lower place -/
theorem posN_mono {f : Nat → Int32} {p q : Nat} (hp : p < 26) (hq : q < 26) (h : ahd f p q) : ∀ n, n ≤ 26 → posN f p n ≤ posN f q n ∧ (p < n → posN f p n + 1 ≤ posN f q n)
  | 0, _ => ⟨Nat.le_refl 0, fun h => absurd h (Nat.not_lt_zero p)⟩
  | n + 1, hn => by
    obtain ⟨i1, i2⟩ := posN_mono hp hq h n (by omega)
    have hpn : n = p → ¬ ahd f n p ∧ ahd f n q := fun e => ⟨fun k => ahd_irr (e ▸ k), by rw [e]; exact h⟩
    rcases posN_s f hp (n := n) (by omega) with ⟨a, b⟩ | ⟨a, b⟩ <;> rcases posN_s f hq (n := n) (by omega) with ⟨c, d⟩ | ⟨c, d⟩
    · refine ⟨by omega, fun k => ?_⟩
      have : n ≠ p := fun e => (hpn e).1 a
      have := i2 (by omega)
      omega
    · exact absurd (ahd_tr a h) c
    · refine ⟨by omega, fun k => ?_⟩
      by_cases e : n = p
      · omega
      · have := i2 (by omega); omega
    · refine ⟨by omega, fun k => ?_⟩
      have : n ≠ p := fun e => c (hpn e).2
      have := i2 (by omega)
      omega
theorem posN_inj {f : Nat → Int32} {p q : Nat} (hp : p < 26) (hq : q < 26) (h : posN f p 26 = posN f q 26) : p = q := by
  by_cases e : p = q
  · exact e
  · rcases ahd_tot (f := f) e with k | k
    · have := (posN_mono hp hq k 26 (Nat.le_refl 26)).2 hp; omega
    · have := (posN_mono hq hp k 26 (Nat.le_refl 26)).2 hq; omega
theorem posN_le' (f : Nat → Int32) (p : Nat) (hp : p < 26) : ∀ n, n ≤ 26 → posN f p n ≤ n
  | 0, _ => Nat.le_refl 0
  | n + 1, hn => by
    have := posN_le' f p hp n (by omega)
    rcases posN_s f hp (n := n) (by omega) with ⟨a, b⟩ | ⟨a, b⟩ <;> omega
/-- a counter's place is below the number of counters, and lower yet if another counter isn't ahead of it -/
theorem posN_cnt {f : Nat → Int32} {p : Nat} (hp : p < 26) (hc : ¬ f p ≤ 0) : ∀ n, n ≤ 26 → posN f p n + (if p < n then 1 else 0) ≤ cntN f n
  | 0, _ => by simp [posN, cntN]
  | n + 1, hn => by
    have ih := posN_cnt hp hc n (by omega)
    rcases posN_s f hp (n := n) (by omega) with ⟨a, b⟩ | ⟨a, b⟩ <;> rcases cntN_s f n with ⟨c, d⟩ | ⟨c, d⟩
    · exact absurd c (ahd_pos hc a)
    · have : n ≠ p := fun e => ahd_irr (e ▸ a)
      rw [b, d]
      split at ih <;> split <;> omega
    · have : n ≠ p := fun e => hc (e ▸ c)
      rw [b, d]
      split at ih <;> split <;> omega
    · rw [b, d]
      split at ih <;> split <;> omega
theorem posN_all {f : Nat → Int32} {p : Nat} (hp : p < 26) (hc : ¬ f p ≤ 0) (hl : ∀ j, j < 26 → ¬ f j ≤ 0 → j ≠ p → ahd f j p) : ∀ n, n ≤ 26 → posN f p n + (if p < n then 1 else 0) = cntN f n
  | 0, _ => by simp [posN, cntN]
  | n + 1, hn => by
    have ih := posN_all hp hc hl n (by omega)
    rcases posN_s f hp (n := n) (by omega) with ⟨a, b⟩ | ⟨a, b⟩ <;> rcases cntN_s f n with ⟨c, d⟩ | ⟨c, d⟩
    · exact absurd c (ahd_pos hc a)
    · have : n ≠ p := fun e => ahd_irr (e ▸ a)
      rw [b, d]
      split at ih <;> split <;> omega
    · have : n ≠ p := fun e => hc (e ▸ c)
      rw [b, d]
      split at ih <;> split <;> omega
    · have e : n = p := Classical.byContradiction fun e => a (hl n (by omega) c e)
      rw [b, d]
      split at ih <;> split <;> omega
/-- a last one there is, where there are counters -/
theorem last_ex (f : Nat → Int32) : ∀ n, n ≤ 26 → 0 < cntN f n → ∃ w, w < n ∧ ¬ f w ≤ 0 ∧ ∀ j, j < n → ¬ f j ≤ 0 → j ≠ w → ahd f j w
  | 0, _, h => absurd h (Nat.not_lt_zero 0)
  | n + 1, hn, h => by
    rcases cntN_s f n with ⟨c, d⟩ | ⟨c, d⟩
    · obtain ⟨w, a, b, e⟩ := last_ex f n (by omega) (by omega)
      refine ⟨w, by omega, b, fun j hj hp hne => ?_⟩
      rcases Nat.lt_succ_iff_lt_or_eq.mp hj with k | k
      · exact e j k hp hne
      · exact absurd c (by rw [← k]; exact hp)
    · by_cases h0 : 0 < cntN f n
      · obtain ⟨w, a, b, e⟩ := last_ex f n (by omega) h0
        rcases ahd_tot (f := f) (show w ≠ n by omega) with k | k
        · refine ⟨n, by omega, c, fun j hj hp hne => ?_⟩
          by_cases e2 : j = w
          · rw [e2]; exact k
          · exact ahd_tr (e j (by omega) hp e2) k
        · refine ⟨w, by omega, b, fun j hj hp hne => ?_⟩
          rcases Nat.lt_succ_iff_lt_or_eq.mp hj with k2 | k2
          · exact e j k2 hp hne
          · rw [k2]; exact k
      · refine ⟨n, by omega, c, fun j hj hp hne => ?_⟩
        exact absurd (cntN_zero n (by omega) j (by omega)) hp
theorem pAtN_sp (f : Nat → Int32) (ps : Int32) : ∀ n i, n + i = 26 → (pAtN f ps n i = -1 ∧ ∀ j, i ≤ j → j < 26 → ¬ f j ≤ 0 → ¬ nI (posN f j 26) = ps) ∨ (∃ j, i ≤ j ∧ j < 26 ∧ pAtN f ps n i = nI j ∧ ¬ f j ≤ 0 ∧ nI (posN f j 26) = ps)
  | 0, i, hi => Or.inl ⟨rfl, fun j h1 h2 => by omega⟩
  | n + 1, i, hi => by
    have ih := pAtN_sp f ps n (i + 1) (by omega)
    simp only [pAtN]
    by_cases h1 : f i ≤ 0
    · rw [if_pos h1]
      rcases ih with ⟨a, b⟩ | ⟨j, a, b, c, d, e⟩
      · exact Or.inl ⟨a, fun j k1 k2 k3 => by
          rcases Nat.lt_or_eq_of_le k1 with k | k
          · exact b j (by omega) k2 k3
          · subst k; exact absurd h1 k3⟩
      · exact Or.inr ⟨j, by omega, b, c, d, e⟩
    · rw [if_neg h1]
      by_cases h2 : nI (posN f i 26) = ps
      · rw [if_pos h2]
        exact Or.inr ⟨i, Nat.le_refl i, by omega, rfl, h1, h2⟩
      · rw [if_neg h2]
        rcases ih with ⟨a, b⟩ | ⟨j, a, b, c, d, e⟩
        · exact Or.inl ⟨a, fun j k1 k2 k3 => by
            rcases Nat.lt_or_eq_of_le k1 with k | k
            · exact b j (by omega) k2 k3
            · subst k; exact h2⟩
        · exact Or.inr ⟨j, by omega, b, c, d, e⟩
/-- the counter at the last place -/
theorem pAtN_last (f : Nat → Int32) {m : Nat} (hm : cntN f 26 = m + 1) : ∃ p, p < 26 ∧ pAtN f (nI m) 26 0 = nI p ∧ ¬ f p ≤ 0 ∧ posN f p 26 = m := by
  have hb := cntN_le f 26
  obtain ⟨w, a, b, e⟩ := last_ex f 26 (Nat.le_refl 26) (by omega)
  have h1 := posN_all a b e 26 (Nat.le_refl 26)
  rw [if_pos a] at h1
  rcases pAtN_sp f (nI m) 26 0 rfl with ⟨_, h2⟩ | ⟨p, _, h3, h4, h5, h6⟩
  · exact absurd (by rw [show posN f w 26 = m by omega]) (h2 w (Nat.zero_le w) a b)
  · have h7 := posN_le' f p h3 26 (Nat.le_refl 26)
    exact ⟨p, h3, h4, h5, (nI_eq (by omega) (by omega)).mp h6⟩
/-- counters are taken off from the last place on -/
theorem trC_sp (f : Nat → Int32) {k : Nat} (hk : cntN f 26 = k) : ∀ t, t ≤ k → (∀ j, j < 26 → trC f k t j = if ¬ f j ≤ 0 ∧ k - t ≤ posN f j 26 then 0 else f j) ∧ cntN (trC f k t) 26 = k - t ∧ trZ f k t = nI (k - t)
  | 0, _ => by
    refine ⟨fun j hj => ?_, hk, rfl⟩
    have h1 : ¬ (¬ f j ≤ 0 ∧ k - 0 ≤ posN f j 26) := fun h => by
      have := posN_cnt hj h.1 26 (Nat.le_refl 26)
      rw [if_pos hj] at this
      omega
    rw [if_neg h1]
    rfl
  | t + 1, ht => by
    obtain ⟨i1, i2, i3⟩ := trC_sp f hk t (by omega)
    have hb := cntN_le f 26
    have e1 : nI (k - t) - 1 = nI (k - (t + 1)) := by
      rw [show k - t = (k - (t + 1)) + 1 by omega]; exact nI_pred _
    obtain ⟨p, hp, h1, h2, h3⟩ := pAtN_last (trC f k t) (m := k - (t + 1)) (by omega)
    have e2 : trC f k (t + 1) = upd (trC f k t) p 0 := by
      show flRemC (trC f k t) (pAtN (trC f k t) (nI (k - t) - 1) 26 0) = _
      rw [e1, h1]
      unfold flRemC
      rw [if_neg (nI_ne1 (by omega)), nI_clamp (by omega)]
    have e3 : trZ f k (t + 1) = nI (k - (t + 1)) := by
      show flRemZ (trZ f k t) (pAtN (trC f k t) (nI (k - t) - 1) 26 0) = _
      rw [e1, h1, i3]
      unfold flRemZ
      rw [if_neg (nI_ne1 (by omega)), e1]
    have hpf : ¬ f p ≤ 0 ∧ posN f p 26 < k - t := by
      rw [i1 p hp] at h2
      by_cases c : ¬ f p ≤ 0 ∧ k - t ≤ posN f p 26
      · rw [if_pos c] at h2; exact absurd (Int32.le_refl 0) h2
      · rw [if_neg c] at h2
        exact ⟨h2, Classical.byContradiction fun c2 => c ⟨h2, by omega⟩⟩
    -- places are the same in both rows
    have same : posN (trC f k t) p 26 = posN f p 26 := by
      refine posN_eq2 hp hp 26 (Nat.le_refl 26) (fun j hj => ?_)
      have gp : trC f k t p = f p := by rw [i1 p hp, if_neg (fun c => by omega)]
      by_cases c : ¬ f j ≤ 0 ∧ k - t ≤ posN f j 26
      · have gj : trC f k t j = 0 := by rw [i1 j hj, if_pos c]
        refine iff_of_false (fun c2 => ?_) (fun c2 => ?_)
        · have := ahd_pos h2 c2
          rw [gj] at this
          exact this (Int32.le_refl 0)
        · have := (posN_mono hj hp c2 26 (Nat.le_refl 26)).1
          omega
      · have gj : trC f k t j = f j := by rw [i1 j hj, if_neg c]
        unfold ahd
        rw [gp, gj]
    have hpe : posN f p 26 = k - (t + 1) := by omega
    refine ⟨fun j hj => ?_, ?_, e3⟩
    · rw [e2, upd_at, i1 j hj]
      by_cases c : j = p
      · rw [if_pos c, c, if_pos ⟨hpf.1, by omega⟩]
      · rw [if_neg c]
        by_cases c2 : ¬ f j ≤ 0 ∧ k - t ≤ posN f j 26
        · rw [if_pos c2, if_pos ⟨c2.1, by omega⟩]
        · rw [if_neg c2, if_neg (fun c3 => ?_)]
          have : posN f j 26 = posN f p 26 := by
            have := c3.2
            have : ¬ k - t ≤ posN f j 26 := fun c4 => c2 ⟨c3.1, c4⟩
            omega
          exact c (posN_inj hj hp this)
    · have h4 := cntN_upd (trC f k t) p 0 26
      rw [if_pos (show p < 26 ∧ ¬ trC f k t p ≤ 0 from ⟨hp, h2⟩), if_neg (show ¬ (p < 26 ∧ ¬ (0 : Int32) ≤ 0) from fun k => k.2 (Int32.le_refl 0))] at h4
      rw [e2]
      omega
/-- the counts that stay -/
theorem mrC_sp (f : Nat → Int32) (rr : Nat) : (∀ j, j < 26 → mrC f rr j = if ¬ f j ≤ 0 ∧ rr ≤ posN f j 26 then 0 else f j) ∧ cntN (mrC f rr) 26 = min (cntN f 26) rr ∧ mrZ f rr = nI (cntN (mrC f rr) 26) := by
  obtain ⟨a, b, c⟩ := trC_sp f rfl (cntN f 26 - rr) (by omega)
  have e : cntN (mrC f rr) 26 = min (cntN f 26) rr := by
    show cntN (trC f (cntN f 26) (cntN f 26 - rr)) 26 = _
    rw [b]; omega
  refine ⟨fun j hj => ?_, e, ?_⟩
  · show trC f (cntN f 26) (cntN f 26 - rr) j = _
    rw [a j hj]
    by_cases h : ¬ f j ≤ 0
    · have h2 := posN_cnt hj h 26 (Nat.le_refl 26)
      rw [if_pos hj] at h2
      have h3 : (cntN f 26 - (cntN f 26 - rr) ≤ posN f j 26) ↔ rr ≤ posN f j 26 := by omega
      simp only [h3]
    · rw [if_neg (fun k => h k.1), if_neg (fun k => h k.1)]
  · show trZ f (cntN f 26) (cntN f 26 - rr) = _
    rw [c, e]
    congr 1
    omega
end PPLACE
