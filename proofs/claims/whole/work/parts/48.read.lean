section PREAD
theorem inZ_iff (x lo hi : Int32) : inL x.toInt64 lo.toInt64 hi.toInt64 = true ↔ lo ≤ x ∧ x ≤ hi := by
  have e1 : (0 ≤ lg_cmp x.toInt64 lo.toInt64) ↔ lo.toInt ≤ x.toInt := by
    rw [lg_cmp_ge, Int64.le_iff_toInt_le, Int32.toInt_toInt64, Int32.toInt_toInt64]
  have e2 : (lg_cmp x.toInt64 hi.toInt64 ≤ 0) ↔ x.toInt ≤ hi.toInt := by
    rw [lg_cmp_le, Int64.le_iff_toInt_le, Int32.toInt_toInt64, Int32.toInt_toInt64]
  unfold inL
  simp only [e1, e2]
  rw [Int32.le_iff_toInt_le, Int32.le_iff_toInt_le]
  by_cases h : lo.toInt ≤ x.toInt
  · rw [if_pos h, decide_eq_true_eq]
    exact ⟨fun k => ⟨h, k⟩, fun k => k.2⟩
  · rw [if_neg h]
    exact ⟨fun k => absurd k (by decide), fun k => absurd k.1 h⟩
theorem hrB_iff {tx : Nat → Int32} {tn ax : Nat} {lo hi : Int32} (h1 : tn < 1000) (h2 : ax < 1000) : hrB tx tn ax lo hi = true ↔ ax < tn ∧ lo ≤ tx ax ∧ tx ax ≤ hi := by
  unfold hrB
  by_cases h : tn ≤ ax
  · rw [if_pos (nI_le h (by omega))]
    exact ⟨fun k => absurd k (by decide), fun k => by omega⟩
  · rw [if_neg (nI_ge (by omega) (by omega)), inZ_iff]
    exact ⟨fun k => ⟨by omega, k⟩, fun k => k.2⟩
theorem chD_iff {c : Int32} : chD c = true ↔ 48 ≤ c.toInt ∧ c.toInt ≤ 57 := by
  unfold chD
  simp only [Int32.le_iff_toInt_le]
  show (if (48 : Int) ≤ c.toInt then decide (c.toInt ≤ (57 : Int)) else false) = true ↔ _
  by_cases h : (48 : Int) ≤ c.toInt
  · rw [if_pos h, decide_eq_true_eq]
    exact ⟨fun k => ⟨h, k⟩, fun k => k.2⟩
  · rw [if_neg h]
    exact ⟨fun k => absurd k (by decide), fun k => absurd k.1 h⟩
theorem chN_iff {c : Int32} : chN c = true ↔ 97 ≤ c.toInt ∧ c.toInt ≤ 122 := by
  unfold chN
  simp only [Int32.le_iff_toInt_le]
  show (if (97 : Int) ≤ c.toInt then decide (c.toInt ≤ (122 : Int)) else false) = true ↔ _
  by_cases h : (97 : Int) ≤ c.toInt
  · rw [if_pos h, decide_eq_true_eq]
    exact ⟨fun k => ⟨h, k⟩, fun k => k.2⟩
  · rw [if_neg h]
    exact ⟨fun k => absurd k (by decide), fun k => absurd k.1 h⟩
theorem hrD9 {tx : Nat → Int32} {tn ax : Nat} (h1 : tn < 1000) (h2 : ax < 1000) : hrB tx tn ax 49 57 = true ↔ ax < tn ∧ 49 ≤ (tx ax).toInt ∧ (tx ax).toInt ≤ 57 := by
  rw [hrB_iff h1 h2, Int32.le_iff_toInt_le, Int32.le_iff_toInt_le]; exact Iff.rfl
theorem hrD {tx : Nat → Int32} {tn ax : Nat} (h1 : tn < 1000) (h2 : ax < 1000) : hrB tx tn ax 48 57 = true ↔ ax < tn ∧ chD (tx ax) = true := by
  rw [hrB_iff h1 h2, Int32.le_iff_toInt_le, Int32.le_iff_toInt_le, chD_iff]; exact Iff.rfl
theorem hrN {tx : Nat → Int32} {tn ax : Nat} (h1 : tn < 1000) (h2 : ax < 1000) : hrB tx tn ax 97 122 = true ↔ ax < tn ∧ chN (tx ax) = true := by
  rw [hrB_iff h1 h2, Int32.le_iff_toInt_le, Int32.le_iff_toInt_le, chN_iff]; exact Iff.rfl
theorem hrO {tx : Nat → Int32} {tn ax : Nat} (h1 : tn < 1000) (h2 : ax < 1000) : hrB tx tn ax 40 40 = true ↔ ax < tn ∧ tx ax = 40 := by
  rw [hrB_iff h1 h2, Int32.le_iff_toInt_le, Int32.le_iff_toInt_le, i_eq]
  have e : (40 : Int32).toInt = 40 := rfl
  rw [e]; omega
theorem hrC {tx : Nat → Int32} {tn ax : Nat} (h1 : tn < 1000) (h2 : ax < 1000) : hrB tx tn ax 41 41 = true ↔ ax < tn ∧ tx ax = 41 := by
  rw [hrB_iff h1 h2, Int32.le_iff_toInt_le, Int32.le_iff_toInt_le, i_eq]
  have e : (41 : Int32).toInt = 41 := rfl
  rw [e]; omega
theorem bfalse {b : Bool} (h : ¬ b = true) : b = false := by cases b with
  | true => exact absurd rfl h
  | false => rfl
/-- the class's reader, one character on -/
theorem rdF_D {tx : Nat → Int32} {i : Nat} {nu ti ca : Int32} {ip hp : Bool} (h : rdF tx i = (nu, ti, ip, hp, ca)) (hc : chD (tx i) = true) : rdA tx i = dgOK nu (tx i - 48) ∧ rdF tx (i + 1) = (dgN nu (tx i - 48), ti, ip, hp, ca) := by
  constructor
  · unfold rdA rdK; rw [h]; dsimp only; rw [if_pos hc]
  · show rdS (rdF tx i).1 (rdF tx i).2.1 (rdF tx i).2.2.1 (rdF tx i).2.2.2.1 (rdF tx i).2.2.2.2 (tx i) = _
    rw [h]; dsimp only; unfold rdS; rw [if_pos hc]
theorem rdF_N {tx : Nat → Int32} {i : Nat} {nu ti ca : Int32} {ip hp : Bool} (h : rdF tx i = (nu, ti, ip, hp, ca)) (hc : chN (tx i) = true) : rdA tx i = nmOK nu ∧ rdF tx (i + 1) = (nmN nu, ti, ip, nmH nu hp, nmC nu ti ca) := by
  have hd : ¬ chD (tx i) = true := fun k => by rw [chD_iff] at k; rw [chN_iff] at hc; omega
  constructor
  · unfold rdA rdK; rw [h]; dsimp only; rw [if_neg hd, if_pos hc]
  · show rdS (rdF tx i).1 (rdF tx i).2.1 (rdF tx i).2.2.1 (rdF tx i).2.2.2.1 (rdF tx i).2.2.2.2 (tx i) = _
    rw [h]; dsimp only; unfold rdS; rw [if_neg hd, if_pos hc]
theorem rdF_O {tx : Nat → Int32} {i : Nat} {nu ti ca : Int32} {ip hp : Bool} (h : rdF tx i = (nu, ti, ip, hp, ca)) (hc : tx i = 40) : rdA tx i = opOK nu ip ∧ rdF tx (i + 1) = (opN nu ip, opT nu ti ip, opI nu ip, opH nu ip hp, ca) := by
  have hd : ¬ chD (tx i) = true := by rw [hc]; decide
  have hn : ¬ chN (tx i) = true := by rw [hc]; decide
  constructor
  · unfold rdA rdK; rw [h]; dsimp only; rw [if_neg hd, if_neg hn, if_pos hc]
  · show rdS (rdF tx i).1 (rdF tx i).2.1 (rdF tx i).2.2.1 (rdF tx i).2.2.2.1 (rdF tx i).2.2.2.2 (tx i) = _
    rw [h]; dsimp only; unfold rdS; rw [if_neg hd, if_neg hn, if_pos hc]
theorem rdF_C {tx : Nat → Int32} {i : Nat} {nu ti ca : Int32} {ip hp : Bool} (h : rdF tx i = (nu, ti, ip, hp, ca)) (hc : tx i = 41) : rdA tx i = clOK nu ip hp ∧ rdF tx (i + 1) = (nu, clT nu ti ip hp, clI nu ip hp, hp, ca) := by
  have hd : ¬ chD (tx i) = true := by rw [hc]; decide
  have hn : ¬ chN (tx i) = true := by rw [hc]; decide
  have ho : ¬ tx i = 40 := by rw [hc]; decide
  constructor
  · unfold rdA rdK; rw [h]; dsimp only; rw [if_neg hd, if_neg hn, if_neg ho, if_pos hc]
  · show rdS (rdF tx i).1 (rdF tx i).2.1 (rdF tx i).2.2.1 (rdF tx i).2.2.2.1 (rdF tx i).2.2.2.2 (tx i) = _
    rw [h]; dsimp only; unfold rdS; rw [if_neg hd, if_neg hn, if_neg ho, if_pos hc]
theorem rdA_X {tx : Nat → Int32} {i : Nat} (hd : ¬ chD (tx i) = true) (hn : ¬ chN (tx i) = true) (ho : ¬ tx i = 40) (hc : ¬ tx i = 41) : rdA tx i = false := by
  unfold rdA rdK; rw [if_neg hd, if_neg hn, if_neg ho, if_neg hc]
/-- the digits ahead of a phrase, on both sides; U: anything that digits leave as it is -/
theorem numLem {tx : Nat → Int32} {tn a : Nat} (htn : tn ≤ 60) (ha : a ≤ tn) {ti ca : Int32} {ip hp : Bool} (h : rdF tx a = (0, ti, ip, hp, ca)) : ∃ (b : Nat) (nu : Int32), a ≤ b ∧ b ≤ tn ∧ rtK tx tn a = (nmOK nu, b, mx1 nu) ∧ rdF tx b = (nu, ti, ip, hp, ca) ∧ (∀ k, a ≤ k → k < b → rdA tx k = true ∧ chD (tx k) = true) ∧ 0 ≤ nu.toInt ∧ nu.toInt ≤ 99 ∧ (nu = 0 ↔ b = a) ∧ (b < tn → chD (tx b) = true → rdA tx b = false) := by
  have t1 : tn < 1000 := by omega
  by_cases c1 : hrB tx tn a 49 57 = true
  · obtain ⟨k1, k2, k3⟩ := (hrD9 t1 (by omega)).mp c1
    have hd : chD (tx a) = true := chD_iff.mpr ⟨by omega, k3⟩
    have e48 : (48 : Int32).toInt = 48 := rfl
    have z0 : (0 : Int32).toInt = 0 := rfl
    have d1 : (tx a - 48).toInt = (tx a).toInt - 48 := by rw [i32_sub (by omega) (by omega), e48]
    have dne : ¬ tx a - 48 = 0 := fun k => by rw [i_eq, d1, z0] at k; omega
    have dok : dgOK 0 (tx a - 48) = true := by
      unfold dgOK
      rw [if_pos rfl, if_neg dne]; decide
    obtain ⟨r1, r2⟩ := rdF_D h hd
    have e10 : (10 : Int32) * 0 + (tx a - 48) = tx a - 48 := by rw [Int32.mul_zero, Int32.zero_add]
    have r2' : rdF tx (a + 1) = (tx a - 48, ti, ip, hp, ca) := by
      rw [r2]; unfold dgN; rw [if_pos dok, e10]
    by_cases c2 : hrB tx tn (a + 1) 48 57 = true
    · obtain ⟨m1, m2⟩ := (hrD t1 (by omega)).mp c2
      have m3 := chD_iff.mp m2
      have d2 : (tx (a + 1) - 48).toInt = (tx (a + 1)).toInt - 48 := by rw [i32_sub (by omega) (by omega), e48]
      have e101 : (10 : Int32).toInt = 10 := rfl
      have d3 : (10 * (tx a - 48)).toInt = 10 * ((tx a).toInt - 48) := by rw [i32_mul (by rw [e101, d1]; omega) (by rw [e101, d1]; omega), e101, d1]
      have d4 : (10 * (tx a - 48) + (tx (a + 1) - 48)).toInt = 10 * ((tx a).toInt - 48) + ((tx (a + 1)).toInt - 48) := by rw [i32_add (by omega) (by omega), d3, d2]
      have e9 : (9 : Int32).toInt = 9 := rfl
      have dok2 : dgOK (tx a - 48) (tx (a + 1) - 48) = true := by
        unfold dgOK
        rw [if_neg dne, decide_eq_true_eq, i_le, d1, e9]; omega
      obtain ⟨s1, s2⟩ := rdF_D r2' m2
      have s2' : rdF tx (a + 1 + 1) = (10 * (tx a - 48) + (tx (a + 1) - 48), ti, ip, hp, ca) := by
        rw [s2]; unfold dgN; rw [if_pos dok2]
      have e1 : (1 : Int32).toInt = 1 := rfl
      have e2 : (2 : Int32).toInt = 2 := rfl
      have esub : 10 * (tx a - 48) + tx (a + 1) - 48 = 10 * (tx a - 48) + (tx (a + 1) - 48) := by grind
      have nne : ¬ 10 * (tx a - 48) + (tx (a + 1) - 48) = 0 := fun k => by rw [i_eq, d4, z0] at k; omega
      refine ⟨a + 1 + 1, 10 * (tx a - 48) + (tx (a + 1) - 48), by omega, by omega, ?_, s2', fun k p1 p2 => ?_, by omega, by omega, ⟨fun k => absurd k nne, fun k => by omega⟩, fun p1 p2 => ?_⟩
      · unfold rtK
        rw [if_pos c1, if_pos c2, esub]
        have g1 : decide (¬ 10 * (tx a - 48) + (tx (a + 1) - 48) ≤ 1) = nmOK (10 * (tx a - 48) + (tx (a + 1) - 48)) := by
          unfold nmOK
          rw [if_neg nne]
          rw [decide_eq_decide, i_le, i_le, d4, e1, e2]; omega
        have g2 : 10 * (tx a - 48) + (tx (a + 1) - 48) = mx1 (10 * (tx a - 48) + (tx (a + 1) - 48)) := by
          unfold mx1
          rw [if_neg (by rw [i_lt, d4, e1]; omega)]
        rw [g1, ← g2]
      · by_cases p3 : k = a
        · rw [p3]; exact ⟨by rw [r1]; exact dok, hd⟩
        · rw [show k = a + 1 by omega]; exact ⟨by rw [s1]; exact dok2, m2⟩
      · obtain ⟨q1, _⟩ := rdF_D s2' p2
        rw [q1]
        unfold dgOK
        rw [if_neg nne, decide_eq_false_iff_not, i_le, d4, e9]; omega
    · have e1 : (1 : Int32).toInt = 1 := rfl
      have e2 : (2 : Int32).toInt = 2 := rfl
      refine ⟨a + 1, tx a - 48, by omega, by omega, ?_, r2', fun k p1 p2 => ?_, by omega, by omega, ⟨fun k => absurd k dne, fun k => by omega⟩, fun p1 p2 => absurd ((hrD t1 (by omega)).mpr ⟨p1, p2⟩) c2⟩
      · unfold rtK
        rw [if_pos c1, if_neg c2]
        have g1 : decide (¬ tx a - 48 ≤ 1) = nmOK (tx a - 48) := by
          unfold nmOK
          rw [if_neg dne]
          rw [decide_eq_decide, i_le, i_le, d1, e1, e2]; omega
        have g2 : tx a - 48 = mx1 (tx a - 48) := by
          unfold mx1
          rw [if_neg (by rw [i_lt, d1, e1]; omega)]
        rw [g1, ← g2]
      · rw [show k = a by omega]; exact ⟨by rw [r1]; exact dok, hd⟩
  · refine ⟨a, 0, by omega, ha, ?_, h, fun k p1 p2 => by omega, by decide, by decide, ⟨fun _ => rfl, fun _ => rfl⟩, fun p1 p2 => ?_⟩
    · unfold rtK
      rw [if_neg c1]
      rfl
    · have m3 := chD_iff.mp p2
      have c3 : ¬ (49 ≤ (tx a).toInt) := fun k => c1 ((hrD9 t1 (by omega)).mpr ⟨p1, k, m3.2⟩)
      obtain ⟨r1, _⟩ := rdF_D h p2
      have e48 : (48 : Int32).toInt = 48 := rfl
      have z : tx a - 48 = 0 := by
        have : tx a = 48 := by rw [i_eq, e48]; omega
        rw [this]; rfl
      rw [r1, z]
      rfl
/-- a phrase, on both sides -/
theorem phLem {tx : Nat → Int32} {tn a : Nat} (htn : tn ≤ 60) (ha : a ≤ tn) {ti ca : Int32} {ip hp ob : Bool} (h : rdF tx a = (0, ti, ip, hp, ca)) (hob : ob = !ip) (hx : ip = true → hp = true → a < tn → ¬ tx a = 41) :
    (∃ (e : Nat) (t' : Int32), a ≤ e ∧ e ≤ tn ∧ rpK tx tn a ob = (false, e, t', -1) ∧ (∀ k, a ≤ k → k < e → rdA tx k = true) ∧ ((e < tn ∧ rdA tx e = false) ∨ (e = tn ∧ a = tn) ∨ (e = tn ∧ ¬ (rdF tx tn).1 = 0))) ∨
    (∃ (b : Nat) (nu : Int32), a ≤ b ∧ b < tn ∧ rpK tx tn a ob = (true, b + 1, mx1 nu, tx b - 97) ∧ (∀ k, a ≤ k → k < b → rdA tx k = true ∧ chD (tx k) = true) ∧ rdA tx b = true ∧ chN (tx b) = true ∧ rdF tx b = (nu, ti, ip, hp, ca) ∧ rdF tx (b + 1) = (0, ti, ip, true, ca + ti * mx1 nu) ∧ 1 ≤ (mx1 nu).toInt ∧ (mx1 nu).toInt ≤ 99) ∨
    (ip = false ∧ ∃ (b : Nat) (nu : Int32), a ≤ b ∧ b < tn ∧ rpK tx tn a ob = (true, b + 1, nu, -1) ∧ (∀ k, a ≤ k → k < b → rdA tx k = true ∧ chD (tx k) = true) ∧ rdA tx b = true ∧ tx b = 40 ∧ rdF tx b = (nu, ti, ip, hp, ca) ∧ rdF tx (b + 1) = (0, nu, true, false, ca) ∧ 2 ≤ nu.toInt ∧ nu.toInt ≤ 99) := by
  have t1 : tn < 1000 := by omega
  have z0 : (0 : Int32).toInt = 0 := rfl
  have e1 : (1 : Int32).toInt = 1 := rfl
  have e2 : (2 : Int32).toInt = 2 := rfl
  obtain ⟨b, nu, hab, hbt, hrt, hrd, hdig, hn0, hn9, hnb, hnd⟩ := numLem htn ha h
  have mx : 1 ≤ (mx1 nu).toInt ∧ (mx1 nu).toInt ≤ 99 ∧ (2 ≤ nu.toInt → mx1 nu = nu) := by
    unfold mx1
    by_cases k : nu < 1
    · rw [if_pos k]
      rw [i_lt, e1] at k
      refine ⟨by decide, by decide, fun k2 => by omega⟩
    · rw [if_neg k]
      rw [i_lt, e1] at k
      exact ⟨by omega, hn9, fun _ => rfl⟩
  -- what the class says at b where the reference sees no phrase
  have fin : ∀ (t' : Int32), rpK tx tn a ob = (false, b, t', -1) → (b < tn → rdA tx b = false) → ((b = tn ∧ a = tn) ∨ (b = tn ∧ ¬ nu = 0) ∨ b < tn) → ∃ (e : Nat) (t' : Int32), a ≤ e ∧ e ≤ tn ∧ rpK tx tn a ob = (false, e, t', -1) ∧ (∀ k, a ≤ k → k < e → rdA tx k = true) ∧ ((e < tn ∧ rdA tx e = false) ∨ (e = tn ∧ a = tn) ∨ (e = tn ∧ ¬ (rdF tx tn).1 = 0)) := by
    intro t' g1 g2 g3
    refine ⟨b, t', hab, hbt, g1, fun k p1 p2 => (hdig k p1 p2).1, ?_⟩
    rcases g3 with g3 | g3 | g3
    · exact Or.inr (Or.inl g3)
    · refine Or.inr (Or.inr ⟨g3.1, ?_⟩)
      rw [← g3.1, hrd]; exact g3.2
    · exact Or.inl ⟨g3, g2 g3⟩
  have pos3 : (b = tn ∧ a = tn) ∨ (b = tn ∧ ¬ nu = 0) ∨ b < tn := by
    by_cases k : b = tn
    · by_cases k2 : nu = 0
      · have := hnb.mp k2
        exact Or.inl ⟨k, by omega⟩
      · exact Or.inr (Or.inl ⟨k, k2⟩)
    · exact Or.inr (Or.inr (by omega))
  unfold rpK at *
  rw [hrt] at *
  dsimp only at *
  by_cases c1 : nmOK nu = true
  · rw [if_pos c1] at *
    by_cases c2 : hrB tx tn b 97 122 = true
    · rw [if_pos c2] at *
      obtain ⟨k1, k2⟩ := (hrN t1 (by omega)).mp c2
      obtain ⟨r1, r2⟩ := rdF_N hrd k2
      refine Or.inr (Or.inl ⟨b, nu, hab, k1, rfl, hdig, by rw [r1]; exact c1, k2, hrd, ?_, mx.1, mx.2.1⟩)
      rw [r2]
      unfold nmN nmH nmC
      rw [if_pos c1, if_pos c1, if_pos c1]
    · rw [if_neg c2] at *
      have noN : b < tn → ¬ chN (tx b) = true := fun k1 k2 => c2 ((hrN t1 (by omega)).mpr ⟨k1, k2⟩)
      cases ip with
      | false =>
        have ob1 : ob = true := hob
        rw [if_pos ob1] at *
        have noC : b < tn → tx b = 41 → rdA tx b = false := fun k1 k2 => (rdF_C hrd k2).1
        by_cases c3 : nI b ≤ nI a
        · have hba : b = a := by
            rw [nI_leI (by omega) (by omega)] at c3; omega
          have hnu := hnb.mpr hba
          rw [if_pos c3] at *
          refine Or.inl (fin _ rfl (fun k1 => ?_) pos3)
          by_cases q1 : chD (tx b) = true
          · exact hnd k1 q1
          by_cases q2 : tx b = 40
          · rw [(rdF_O hrd q2).1, hnu]; rfl
          by_cases q3 : tx b = 41
          · exact noC k1 q3
          exact rdA_X q1 (noN k1) q2 q3
        · rw [if_neg c3] at *
          have hba : ¬ b = a := fun k => c3 (by rw [k]; exact Int32.le_refl _)
          have hnu : ¬ nu = 0 := fun k => hba (hnb.mp k)
          have hnu2 : 2 ≤ nu.toInt := by
            unfold nmOK at c1
            rw [if_neg hnu, decide_eq_true_eq, i_le, e2] at c1
            exact c1
          by_cases c4 : hrB tx tn b 40 40 = true
          · rw [if_pos c4] at *
            obtain ⟨k1, k2⟩ := (hrO t1 (by omega)).mp c4
            obtain ⟨r1, r2⟩ := rdF_O hrd k2
            have ok : opOK nu false = true := by
              show decide (2 ≤ nu) = true
              rw [decide_eq_true_eq, i_le, e2]; exact hnu2
            refine Or.inr (Or.inr ⟨rfl, b, nu, hab, k1, ?_, hdig, by rw [r1]; exact ok, k2, hrd, ?_, hnu2, hn9⟩)
            · rw [mx.2.2 hnu2]
            · rw [r2]
              unfold opN opT opI opH
              rw [if_pos ok, if_pos ok, if_pos ok, if_pos ok]
          · rw [if_neg c4] at *
            refine Or.inl (fin _ rfl (fun k1 => ?_) pos3)
            by_cases q1 : chD (tx b) = true
            · exact hnd k1 q1
            by_cases q2 : tx b = 40
            · exact absurd ((hrO t1 (by omega)).mpr ⟨k1, q2⟩) c4
            by_cases q3 : tx b = 41
            · exact noC k1 q3
            exact rdA_X q1 (noN k1) q2 q3
      | true =>
        have ob1 : ¬ ob = true := by rw [hob]; decide
        rw [if_neg ob1] at *
        refine Or.inl (fin _ rfl (fun k1 => ?_) pos3)
        by_cases q1 : chD (tx b) = true
        · exact hnd k1 q1
        by_cases q2 : tx b = 40
        · exact (rdF_O hrd q2).1
        by_cases q3 : tx b = 41
        · rw [(rdF_C hrd q3).1]
          show (if nu = 0 then hp else false) = false
          by_cases q4 : nu = 0
          · rw [if_pos q4]
            have q5 := hnb.mp q4
            refine bfalse (fun q6 => hx rfl q6 (by omega) ?_)
            rw [← q5]; exact q3
          · rw [if_neg q4]
        exact rdA_X q1 (noN k1) q2 q3
  · rw [if_neg c1] at *
    refine Or.inl (fin _ rfl (fun k1 => ?_) pos3)
    have hnu : ¬ nu = 0 := fun k => c1 (by unfold nmOK; rw [if_pos k])
    have hnu2 : ¬ (2 ≤ nu) := fun k => c1 (by unfold nmOK; rw [if_neg hnu]; exact decide_eq_true k)
    by_cases q1 : chD (tx b) = true
    · exact hnd k1 q1
    by_cases q2 : tx b = 40
    · rw [(rdF_O hrd q2).1]
      unfold opOK
      cases ip with
      | true => rfl
      | false => exact decide_eq_false hnu2
    by_cases q3 : tx b = 41
    · rw [(rdF_C hrd q3).1]
      unfold clOK
      rw [if_neg hnu]
      split <;> rfl
    by_cases q4 : chN (tx b) = true
    · rw [(rdF_N hrd q4).1]; exact bfalse c1
    exact rdA_X q1 q4 q2 q3
/-- the reference's reading of the whole text says what the class's says -/
theorem erLem {tx : Nat → Int32} {tn : Nat} (htn : tn ≤ 60) : ∀ (n a : Nat) (md b : Bool) (oo ii sc ti pp : Int32) (hp : Bool), a ≤ tn → tn - a + 1 ≤ n → (md = false → hp = !b) → rdF tx a = (0, (if md then oo else 1), md, hp, (if md then sc + oo * ii else sc)) → (md = true → hp = true → a < tn → ¬ tx a = 41) →
    ∃ TT, erX tx tn n md b oo ii a sc ti pp = some TT ∧ ((TT.1 = -1 ∧ (∀ k, a ≤ k → k < tn → rdA tx k = true) ∧ rdF tx tn = (0, 1, false, true, TT.2.2.1)) ∨ (∃ e, a ≤ e ∧ e ≤ tn ∧ TT.1 = nI e ∧ (∀ k, a ≤ k → k < e → rdA tx k = true) ∧ ((e < tn ∧ rdA tx e = false) ∨ (e = tn ∧ whole (rdF tx tn).1 (rdF tx tn).2.2.1 (rdF tx tn).2.2.2.1 = false)))) := by
  have t1 : tn < 1000 := by omega
  intro n
  induction n with
  | zero => intro a md b oo ii sc ti pp hp h1 h2; omega
  | succ n ih =>
    intro a md b oo ii sc ti pp hp ha hn hb hrd hx
    have more : ∀ (a' : Nat) (TT : Int32 × Nat × Int32 × Int32 × Int32), a ≤ a' → (∀ k, a ≤ k → k < a' → rdA tx k = true) → ((TT.1 = -1 ∧ (∀ k, a' ≤ k → k < tn → rdA tx k = true) ∧ rdF tx tn = (0, 1, false, true, TT.2.2.1)) ∨ (∃ e, a' ≤ e ∧ e ≤ tn ∧ TT.1 = nI e ∧ (∀ k, a' ≤ k → k < e → rdA tx k = true) ∧ ((e < tn ∧ rdA tx e = false) ∨ (e = tn ∧ whole (rdF tx tn).1 (rdF tx tn).2.2.1 (rdF tx tn).2.2.2.1 = false)))) → ((TT.1 = -1 ∧ (∀ k, a ≤ k → k < tn → rdA tx k = true) ∧ rdF tx tn = (0, 1, false, true, TT.2.2.1)) ∨ (∃ e, a ≤ e ∧ e ≤ tn ∧ TT.1 = nI e ∧ (∀ k, a ≤ k → k < e → rdA tx k = true) ∧ ((e < tn ∧ rdA tx e = false) ∨ (e = tn ∧ whole (rdF tx tn).1 (rdF tx tn).2.2.1 (rdF tx tn).2.2.2.1 = false)))) := by
      intro a' TT g1 g2 g3
      rcases g3 with ⟨q1, q2, q3⟩ | ⟨e, q1, q2, q3, q4, q5⟩
      · refine Or.inl ⟨q1, fun k p1 p2 => ?_, q3⟩
        by_cases p3 : k < a'
        · exact g2 k p1 p3
        · exact q2 k (by omega) p2
      · refine Or.inr ⟨e, by omega, q2, q3, fun k p1 p2 => ?_, q5⟩
        by_cases p3 : k < a'
        · exact g2 k p1 p3
        · exact q4 k (by omega) p2
    have wholeN : ¬ (rdF tx tn).1 = 0 → whole (rdF tx tn).1 (rdF tx tn).2.2.1 (rdF tx tn).2.2.2.1 = false := fun k => by
      unfold whole
      rw [if_neg k]
      split <;> rfl
    cases md with
    | true =>
      have hrd' : rdF tx a = (0, oo, true, hp, sc + oo * ii) := hrd
      unfold erX
      rw [if_pos rfl]
      rcases phLem htn ha (ob := false) hrd' rfl (fun _ => hx rfl) with ⟨e, t', g1, g2, g3, g4, g5⟩ | ⟨b2, nu, g1, g2, g3, g4, g5, g6, g7, g8, g9, g10⟩ | ⟨g0, _⟩
      · rw [g3]
        dsimp only
        rw [if_neg (by decide)]
        refine ⟨_, rfl, Or.inr ⟨e, g1, g2, rfl, g4, ?_⟩⟩
        rcases g5 with g5 | g5 | g5
        · exact Or.inl g5
        · refine Or.inr ⟨g5.1, ?_⟩
          rw [← g5.2, hrd']
          show (if hp then _ else false) = false
          cases hp <;> rfl
        · exact Or.inr ⟨g5.1, wholeN g5.2⟩
      · rw [g3]
        dsimp only
        rw [if_pos rfl]
        have allA : ∀ k, a ≤ k → k < b2 + 1 → rdA tx k = true := fun k p1 p2 => by
          by_cases p3 : k = b2
          · rw [p3]; exact g5
          · exact (g4 k p1 (by omega)).1
        by_cases c : hrB tx tn (b2 + 1) 41 41 = true
        · rw [if_pos c]
          obtain ⟨k1, k2⟩ := (hrC t1 (by omega)).mp c
          obtain ⟨r1, r2⟩ := rdF_C g8 k2
          have r3 : rdF tx (b2 + 1 + 1) = (0, 1, false, true, sc + oo * (ii + mx1 nu)) := by
            rw [r2]
            show ((0 : Int32), (1 : Int32), false, true, sc + oo * ii + oo * mx1 nu) = _
            have : sc + oo * ii + oo * mx1 nu = sc + oo * (ii + mx1 nu) := by grind
            rw [this]
          obtain ⟨TT, h1, h2⟩ := ih (b2 + 1 + 1) false false 0 0 (sc + oo * (ii + mx1 nu)) (mx1 nu) (tx b2 - 97) true (by omega) (by omega) (fun _ => rfl) r3 (fun k => absurd k (by decide))
          refine ⟨TT, h1, more (b2 + 1 + 1) TT (by omega) (fun k p1 p2 => ?_) h2⟩
          by_cases p3 : k = b2 + 1
          · rw [p3, r1]; rfl
          · exact allA k p1 (by omega)
        · rw [if_neg c]
          have r3 : rdF tx (b2 + 1) = (0, oo, true, true, sc + oo * (ii + mx1 nu)) := by
            rw [g8]
            have : sc + oo * ii + oo * mx1 nu = sc + oo * (ii + mx1 nu) := by grind
            rw [this]
          obtain ⟨TT, h1, h2⟩ := ih (b2 + 1) true false oo (ii + mx1 nu) sc (mx1 nu) (tx b2 - 97) true (by omega) (by omega) (fun k => absurd k (by decide)) r3 (fun _ _ k1 k2 => c ((hrC t1 (by omega)).mpr ⟨k1, k2⟩))
          exact ⟨TT, h1, more (b2 + 1) TT (by omega) allA h2⟩
      · exact absurd g0 (by decide)
    | false =>
      have hrd' : rdF tx a = (0, 1, false, hp, sc) := hrd
      have hb' := hb rfl
      unfold erX
      rw [if_neg (by decide)]
      by_cases c0 : (if b then false else decide (nI tn ≤ nI a)) = true
      · rw [if_pos c0]
        cases b with
        | true => exact absurd (show false = true from c0) (by decide)
        | false =>
          have c1 : nI tn ≤ nI a := of_decide_eq_true c0
          rw [nI_leI (by omega) (by omega)] at c1
          have e : a = tn := by omega
          refine ⟨_, rfl, Or.inl ⟨rfl, fun k p1 p2 => by omega, ?_⟩⟩
          rw [← e, hrd', hb']
          rfl
      · rw [if_neg c0]
        rcases phLem htn ha (ob := true) hrd' rfl (fun k => absurd k (by decide)) with ⟨e, t', g1, g2, g3, g4, g5⟩ | ⟨b2, nu, g1, g2, g3, g4, g5, g6, g7, g8, g9, g10⟩ | ⟨_, b2, nu, g1, g2, g3, g4, g5, g6, g7, g8, g9, g10⟩
        · rw [g3]
          dsimp only
          rw [if_neg (by decide)]
          refine ⟨_, rfl, Or.inr ⟨e, g1, g2, rfl, g4, ?_⟩⟩
          rcases g5 with g5 | g5 | g5
          · exact Or.inl g5
          · refine Or.inr ⟨g5.1, ?_⟩
            cases b with
            | true =>
              rw [← g5.2, hrd', hb']
              rfl
            | false =>
              refine absurd ?_ c0
              show decide (nI tn ≤ nI a) = true
              rw [g5.2]; exact decide_eq_true (Int32.le_refl _)
          · exact Or.inr ⟨g5.1, wholeN g5.2⟩
        · rw [g3]
          dsimp only
          rw [if_pos rfl]
          have allA : ∀ k, a ≤ k → k < b2 + 1 → rdA tx k = true := fun k p1 p2 => by
            by_cases p3 : k = b2
            · rw [p3]; exact g5
            · exact (g4 k p1 (by omega)).1
          have hne : ¬ tx b2 - 97 = -1 := fun k => by
            have m := chN_iff.mp g6
            have e97 : (97 : Int32).toInt = 97 := rfl
            have em : (-1 : Int32).toInt = -1 := rfl
            rw [i_eq, i32_sub (by omega) (by omega), e97, em] at k
            omega
          rw [if_neg hne]
          have r3 : rdF tx (b2 + 1) = (0, 1, false, true, sc + mx1 nu) := by
            rw [g8, Int32.one_mul]
          obtain ⟨TT, h1, h2⟩ := ih (b2 + 1) false false 0 0 (sc + mx1 nu) (mx1 nu) (tx b2 - 97) true (by omega) (by omega) (fun _ => rfl) r3 (fun k => absurd k (by decide))
          exact ⟨TT, h1, more (b2 + 1) TT (by omega) allA h2⟩
        · rw [g3]
          dsimp only
          rw [if_pos rfl, if_pos rfl]
          have allA : ∀ k, a ≤ k → k < b2 + 1 → rdA tx k = true := fun k p1 p2 => by
            by_cases p3 : k = b2
            · rw [p3]; exact g5
            · exact (g4 k p1 (by omega)).1
          have r3 : rdF tx (b2 + 1) = (0, nu, true, false, sc + nu * 0) := by
            rw [g8, Int32.mul_zero, Int32.add_zero]
          obtain ⟨TT, h1, h2⟩ := ih (b2 + 1) true false nu 0 sc nu (-1) false (by omega) (by omega) (fun k => absurd k (by decide)) r3 (fun _ k => absurd k (by decide))
          exact ⟨TT, h1, more (b2 + 1) TT (by omega) allA h2⟩
theorem rlN_eq {tx : Nat → Int32} {tn e : Nat} (he : e ≤ tn) (h : e < tn → rdA tx e = false) : ∀ n i, n + i = tn → i ≤ e → (∀ k, i ≤ k → k < e → rdA tx k = true) → rlN tx n i = e
  | 0, i, h1, h2, _ => by
    show i = e
    omega
  | n + 1, i, h1, h2, h3 => by
    show (if rdA tx i then rlN tx n (i + 1) else i) = e
    by_cases k : i = e
    · rw [k, h (by omega)]; rfl
    · rw [if_pos (h3 i (Nat.le_refl i) (by omega))]
      exact rlN_eq he h n (i + 1) (by omega) (by omega) (fun k p1 p2 => h3 k (by omega) p2)
/-- all of it: whether the text is a song, where its first error is, how many calls it has -/
theorem songLem {tx : Nat → Int32} {tn : Nat} (htn : tn ≤ 60) (ti pp : Int32) : ∃ TT, erX tx tn (tn + 1) false true 0 0 0 0 ti pp = some TT ∧ ((TT.1 = -1 ∧ song tx tn = true ∧ (∀ k, k < tn → rdA tx k = true) ∧ rlN tx tn 0 = tn ∧ rdF tx tn = (0, 1, false, true, TT.2.2.1)) ∨ (¬ TT.1 = -1 ∧ song tx tn = false ∧ TT.1 = nI (rlN tx tn 0) ∧ rlN tx tn 0 ≤ tn)) := by
  obtain ⟨TT, h1, h2⟩ := erLem htn (tn + 1) 0 false true 0 0 0 ti pp false (Nat.zero_le tn) (by omega) (fun _ => rfl) rfl (fun k => absurd k (by decide))
  refine ⟨TT, h1, ?_⟩
  rcases h2 with ⟨q1, q2, q3⟩ | ⟨e, q1, q2, q3, q4, q5⟩
  · have r := rlN_eq (tx := tx) (Nat.le_refl tn) (fun k => absurd k (Nat.lt_irrefl _)) tn 0 rfl (Nat.zero_le tn) q2
    refine Or.inl ⟨q1, ?_, fun k hk => q2 k (Nat.zero_le k) hk, r, q3⟩
    unfold song
    rw [r, if_pos rfl, q3]
    rfl
  · have r := rlN_eq (tx := tx) q2 (fun k => by
      rcases q5 with q5 | q5
      · exact q5.2
      · omega) tn 0 rfl (Nat.zero_le e) q4
    refine Or.inr ⟨by rw [q3]; exact nI_ne1 (by omega), ?_, by rw [r]; exact q3, by rw [r]; exact q2⟩
    unfold song
    rw [r]
    by_cases k : e = tn
    · rw [if_pos (by rw [k]), k]
      rcases q5 with q5 | q5
      · omega
      · exact q5.2
    · rw [if_neg (fun k2 => k ((nI_eq (by omega) (by omega)).mp k2))]
/-- texts that are alike below their length -/
theorem rdF_cg {f g : Nat → Int32} : ∀ n, (∀ j, j < n → f j = g j) → rdF f n = rdF g n
  | 0, _ => rfl
  | n + 1, h => by
    show rdS (rdF f n).1 (rdF f n).2.1 (rdF f n).2.2.1 (rdF f n).2.2.2.1 (rdF f n).2.2.2.2 (f n) = rdS (rdF g n).1 (rdF g n).2.1 (rdF g n).2.2.1 (rdF g n).2.2.2.1 (rdF g n).2.2.2.2 (g n)
    rw [rdF_cg n (fun j hj => h j (by omega)), h n (by omega)]
theorem rdA_cg {f g : Nat → Int32} {n : Nat} (h : ∀ j, j ≤ n → f j = g j) : rdA f n = rdA g n := by
  unfold rdA
  rw [rdF_cg n (fun j hj => h j (by omega)), h n (Nat.le_refl n)]
theorem rlN_cg {f g : Nat → Int32} : ∀ n i, (∀ j, j < n + i → f j = g j) → rlN f n i = rlN g n i
  | 0, _, _ => rfl
  | n + 1, i, h => by
    show (if rdA f i then rlN f n (i + 1) else i) = (if rdA g i then rlN g n (i + 1) else i)
    rw [rdA_cg (f := f) (g := g) (n := i) (fun j hj => h j (by omega)), rlN_cg n (i + 1) (fun j hj => h j (by omega))]
theorem rlN_le (f : Nat → Int32) : ∀ n i, rlN f n i ≤ n + i
  | 0, i => by show i ≤ 0 + i; omega
  | n + 1, i => by
    show (if rdA f i then rlN f n (i + 1) else i) ≤ n + 1 + i
    have := rlN_le f n (i + 1)
    split <;> omega
theorem song_cg {f g : Nat → Int32} {n : Nat} (h : ∀ j, j < n → f j = g j) : song f n = song g n := by
  unfold song
  have e := rlN_cg (f := f) (g := g) n 0 (fun j hj => h j (by omega))
  have b := rlN_le g n 0
  rw [e, rdF_cg (f := f) (g := g) (rlN g n 0) (fun j hj => h j (by omega))]
end PREAD
