section PFACTS
theorem q_sum {v : ST} {M : Int} (h : SI v M) (hM : M ≤ 99999) : (qSum v).toInt = smI (qT v) 26 ∧ 0 ≤ smI (qT v) 26 ∧ smI (qT v) 26 ≤ M := by
  have nn := fun j (hj : j < 26) => (h.2.2.2.2.1.1 j hj).1
  have h6 : smI (qT v) 26 ≤ M := h.2.2.2.2.2.1
  exact ⟨smN_int 26 nn (by show smI (qT v) 26 < 2 ^ 31; omega), (smI_nn 26 nn).1, h6⟩
theorem qSum_takes {v : ST} {M : Int} {pa n : Nat} (hp : pa < 26) (hS : SI v M) (h : M + n ≤ 99999) : qSum (tkR v pa n) = qSum v + nI n := by
  obtain ⟨i1, i2, i3, i4⟩ := SI_takes hp hS n h
  have a := q_sum i1 h
  have b := q_sum hS (by omega)
  have hn : n < 2 ^ 31 := by omega
  apply Int32.toInt_inj.mp
  rw [i32_add (by rw [nI_toInt hn]; omega) (by rw [nI_toInt hn]; omega), nI_toInt hn, a.1, b.1, i4]
theorem i9 : (99999 : Int32).toInt = 99999 := rfl
/-- a song of n calls of one parrot, heard -/
theorem o_song (l : Launch) (D : va_G) (T : Nat → ClassId) (po : Nat) (a : Nat → Nat) (k : KS) (x : CT) {M : Int} {pa n : Nat} (hp : pa < 26) (hT : TX x pa n) (hK : KI k M) (hM : M + n ≤ 99999) (hn : n ≤ 1000) : kM l D T yX8_hearSong wsX8_hearSong rX8_hearSong [.ref po] (wO T po a k x) (some (.int (qSum k.1 + nI n))) (wO T po a (recQ k (tkR k.1 pa n)) (sgX x)) := by
  obtain ⟨t1, t2, t3, t4, t5, t6⟩ := hT
  have e1 := tkI_R k.1 pa hp (ufF x.2.2.1 x.2.2.2.1 x.1).2.2.1 n t6
  have e2 := qSum_takes hp hK.1 hM
  have b := q_sum hK.1 (by omega)
  have hq := o_hearSong l D T po a k x hK.2.1 t1 t2 (by rw [t3]; exact (nI_leI (b := 1000) (by omega) (by decide)).mpr hn) (by rw [t3, i_le, i9, i32_add (by rw [nI_toInt (by omega)]; omega) (by rw [nI_toInt (by omega)]; omega), nI_toInt (by omega)]; omega) t4 (by rw [t5]; exact hn) (fun j hj => by rw [t5] at hj; rw [t6 j hj, nI_clamp (by omega)]; exact ⟨rfl, hp⟩) hK.2.2.1
  rw [t5, e1] at hq
  have e3 : smN (tkI k.1.2.1 k.1.2.2.1 k.1.1 (ufF x.2.2.1 x.2.2.2.1 x.1).2.2.1 n).2.2.2.2.2.2.2.2 26 = qSum k.1 + nI n := by
    rw [← e2, ← e1]
    rfl
  rw [e3] at hq
  exact hq
/-- the text with a character more -/
def apX (x : CT) (n : Nat) : CT := (x.1 + 1, x.2.1, upd x.2.2.1 x.1 (nI n), x.2.2.2)
theorem o_app (l : Launch) (D : va_G) (T : Nat → ClassId) (po : Nat) (a : Nat → Nat) (k : KS) (x : CT) {n : Nat} (hn : n < 128) (hlc : x.1 < 60) : kM l D T yX8_append wsX8_append rX8_append [.ref po, .int (nI n)] (wO T po a k x) (some (.int (nI (x.1 + 1)))) (wO T po a k (apX x n)) := by
  have h := o_append l D T po a k x (nI n) hlc
  rw [(ch_i2c n hn).2] at h
  exact h
/-- the law's numbers that say what was thrown are no answers -/
theorem SI_mergeSum {v : ST} {M : Int} (hs : SI v M) (hv : qVia v = true) (hM : M ≤ 99999) : (qSum v).toInt ≤ (qSum (mgQ v)).toInt := by
  obtain ⟨h1, h2, h3, h4, h5⟩ := SI_merge hs hv hM
  have a := q_sum h1 hM
  have b := q_sum hs hM
  rw [a.1, b.1, h3]
  omega
/-- what a state's estimates are worth -/
theorem q_est {v : ST} {M : Int} {p : Nat} (hS : SI v M) (hM : M ≤ 99999) (hp : p < 26) : 0 ≤ (qEst v p).toInt ∧ (qEst v p).toInt ≤ M ∧ (qT v p).toInt ≤ (qEst v p).toInt ∧ 0 ≤ (qSure v p).toInt ∧ (qSure v p).toInt ≤ (qT v p).toInt ∧ (qLeast v).toInt ≤ (qEst v p).toInt ∧ 0 ≤ (qLeast v).toInt ∧ (qLeast v).toInt ≤ M ∧ 0 ≤ (qT v p).toInt := by
  obtain ⟨L, rm, wr, K, arm, awr, via, cap⟩ := v
  obtain ⟨a1, a2, a3, a4, a5, a6, a7⟩ := hS
  dsimp only at a1 a2 a3 a4 a5 a6 a7
  subst a3
  obtain ⟨e1, e2, e3, e4, e5, e6⟩ := WI_est (L := L) (cap := cap) (by omega) a5 hp
  obtain ⟨g1, g2, _⟩ := WI_floor (L := L) (cap := cap) (by omega) a5
  have t := (a5.1 p hp).1
  exact ⟨e1, Int.le_trans e2 a6, e3, e4, e5, e6, g1, Int.le_trans g2 a6, t⟩
theorem f_est1 {v : ST} {M : Int} {pa : Nat} (hp : pa < 26) (hS : SI v M) (hM : M + 1 ≤ 99999) : qEst (tkQ v pa) pa = qEst v pa + 1 := by
  have a := q_est hS (by omega) hp
  apply Int32.toInt_inj.mp
  rw [(SI_take hp hS hM).2.1, t_1 a.1 (by omega)]
theorem f_estn {v : ST} {M : Int} {pa n : Nat} (hp : pa < 26) (hS : SI v M) (hM : M + n ≤ 99999) : qEst (tkR v pa n) pa = qEst v pa + nI n := by
  have a := q_est hS (by omega) hp
  have hn : n < 2 ^ 31 := by omega
  apply Int32.toInt_inj.mp
  rw [(SI_takes hp hS n hM).2.1, i32_add (by rw [nI_toInt hn]; omega) (by rw [nI_toInt hn]; omega), nI_toInt hn]
theorem f_least {v : ST} {M : Int} {pa n : Nat} (hp : pa < 26) (hS : SI v M) (hM : M + n ≤ 99999) : ¬ qLeast (tkR v pa n) < qLeast v := by
  rw [i_lt]
  have := (SI_takes hp hS n hM).2.2.1
  omega
theorem f_few {v : ST} {M : Int} (hS : SI v M) (hM : M + 1 ≤ 99999) : qSum v + 1 ≤ 99999 := by
  have b := q_sum hS (by omega)
  rw [i_le, i9, t_1 (by omega) (by omega)]
  omega
theorem f_T1 (v : ST) (pa : Nat) : qT (tkQ v pa) pa = qT v pa + 1 := upd_eq _ _ _
theorem f_heard1 {v : ST} {M : Int} {pa : Nat} (hp : pa < 26) (h0 : qT v pa = 0) : cntN (qT (tkQ v pa)) 26 = cntN (qT v) 26 + 1 := by
  have e := cntN_upd (qT v) pa (qT v pa + 1) 26
  rw [h0] at e
  rw [if_neg (fun k => k.2 (Int32.le_refl 0)), if_pos (show pa < 26 ∧ ¬ (0 : Int32) + 1 ≤ 0 from ⟨hp, by decide⟩)] at e
  have : qT (tkQ v pa) = upd (qT v) pa (0 + 1) := by rw [← h0]; rfl
  rw [this]
  omega
theorem f_heard0 {v : ST} {M : Int} {pa : Nat} (hp : pa < 26) (hS : SI v M) (hM : M + 1 ≤ 99999) (h0 : ¬ qT v pa = 0) : cntN (qT (tkQ v pa)) 26 = cntN (qT v) 26 := by
  have a := q_est hS (by omega) hp
  have z0 : (0 : Int32).toInt = 0 := rfl
  have h1 : ¬ qT v pa ≤ 0 := fun k => h0 (Int32.toInt_inj.mp (by rw [nI_n] at k; omega))
  have h2 : ¬ qT v pa + 1 ≤ 0 := by rw [nI_p, t_1 (by omega) (by omega)]; omega
  have e := cntN_upd (qT v) pa (qT v pa + 1) 26
  rw [if_pos (show pa < 26 ∧ ¬ qT v pa ≤ 0 from ⟨hp, h1⟩), if_pos (show pa < 26 ∧ ¬ qT v pa + 1 ≤ 0 from ⟨hp, h2⟩)] at e
  have : qT (tkQ v pa) = upd (qT v) pa (qT v pa + 1) := rfl
  rw [this]
  omega
/-- the first list is full just if the floor is above 0 -/
theorem q_full {v : ST} {M : Int} (hS : SI v M) (hM : M ≤ 99999) : (qSize v ≤ nI (qCap v) ∧ qLeast v = 0 ∧ qFull v = false) ∨ (¬ qSize v ≤ nI (qCap v) ∧ 0 < (qLeast v).toInt ∧ qFull v = true) := by
  obtain ⟨L, rm, wr, K, arm, awr, via, cap⟩ := v
  obtain ⟨a1, a2, a3, a4, a5, a6, a7⟩ := hS
  dsimp only at a1 a2 a3 a4 a5 a6 a7
  subst a3
  obtain ⟨g1, g2, g3, g4, g5, g6⟩ := WI_floor (L := L) (cap := cap) (by omega) a5
  have hsz := a5.2.2.2.2.2.1
  have hb := cntN_le L.1 26
  show (L.2.2.2.2.1 ≤ nI cap ∧ _ ∧ flFull L.2.2.2.2.1 (nI (cap + 1)) = false) ∨ (¬ L.2.2.2.2.1 ≤ nI cap ∧ _ ∧ flFull L.2.2.2.2.1 (nI (cap + 1)) = true)
  rw [hsz, nI_leI (by omega) (by omega)]
  by_cases h : cntN L.1 26 ≤ cap
  · exact Or.inl ⟨h, g5 h, decide_eq_false (nI_ge (by omega) (by omega))⟩
  · exact Or.inr ⟨h, g6 h, decide_eq_true (nI_le (by omega) (by omega))⟩
theorem f_floor0 {v : ST} {M : Int} {p : Nat} (hS : SI v M) (hM : M ≤ 99999) (hc : ¬ qC v p ≤ 0) (h : qSize v ≤ nI (qCap v)) : ¬ qEst v p ≤ qLeast v - 0 := by
  rcases q_full hS hM with ⟨_, h2, _⟩ | ⟨h1, _⟩
  · rw [h2]
    have e : qEst v p = qC v p := by
      show flEst v.1.1 _ _ _ p = v.1.1 p
      exact if_neg hc
    rw [e]
    exact hc
  · exact absurd h h1
theorem f_floor1 {v : ST} {M : Int} {p : Nat} (hS : SI v M) (hM : M ≤ 99999) (hp : p < 26) : ¬ qEst v p ≤ qLeast v - 1 := by
  have a := q_est hS hM hp
  have z1 : (1 : Int32).toInt = 1 := rfl
  rw [i_le, i32_sub (by omega) (by omega), z1]
  omega
theorem smN_00 {f : Nat → Int32} : ∀ n, (∀ j, j < n → f j = 0) → smN f n = 0
  | 0, _ => rfl
  | n + 1, h => by
    show smN f n + f n = 0
    rw [smN_00 n (fun j hj => h j (by omega)), h n (by omega)]
    rfl
theorem f_sumE (v : ST) (cn : Nat) : qSum (emQ v cn) = 0 := smN_00 26 (fun j hj => flN_at _ _ _ _ hj)
theorem f_sumP (v : ST) : qSum (paQ v) = 0 := smN_00 26 (fun j hj => flN_at _ _ _ _ hj)
theorem f_mgS {v : ST} {M : Int} (hs : SI v M) (hM : M ≤ 99999) (hv : qVia v = true) : ¬ qSum (mgQ v) < qSum v := by
  have := SI_mergeSum hs hv hM
  rw [i_lt]; omega
theorem f_mgW {v : ST} {M : Int} (hs : SI v M) (hM : M ≤ 99999) (hv : qVia v = true) : ¬ qWear (mgQ v) < qWear v := by
  have := (SI_merge hs hv hM).2.1
  rw [i_lt]; omega
/-- the row of letters that the first listener is given -/
def roX (x : CT) (pa : Nat) : Nat → CT
  | 0 => (0, x.2)
  | i + 1 => apX (roX x pa i) (97 + pa)
theorem roX_len (x : CT) (pa : Nat) : ∀ i, (roX x pa i).1 = i
  | 0 => rfl
  | i + 1 => by show (roX x pa i).1 + 1 = i + 1; rw [roX_len x pa i]
theorem roX_at (x : CT) (pa : Nat) : ∀ i k, k < i → (roX x pa i).2.2.1 k = nI (97 + pa)
  | 0, k, h => absurd h (Nat.not_lt_zero k)
  | i + 1, k, h => by
    show upd (roX x pa i).2.2.1 (roX x pa i).1 (nI (97 + pa)) k = nI (97 + pa)
    rw [upd_at, roX_len]
    by_cases c : k = i
    · rw [if_pos c]
    · rw [if_neg c]; exact roX_at x pa i k (by omega)
theorem TX_roX {x : CT} {pa n : Nat} (hp : pa < 26) (h1 : 1 ≤ n) (h60 : n ≤ 60) : TX (roX x pa n) pa n := TX_row hp h1 h60 (roX_len x pa n) (fun k hk => roX_at x pa n k hk)
theorem up_eq0 {x : Int32} {n : Nat} (hn : 0 < n) (h9 : n < 1000) (h : ¬ upN x n = 0) : ¬ nI (upN x n) = 0 := fun k => h ((nI_eq (b := 0) (by have := upN_lt x hn; omega) (by decide)).mp k)
end PFACTS
