section PTEXTS
theorem ch_let : ∀ pa, pa < 26 → chD (nI (97 + pa)) = false ∧ chN (nI (97 + pa)) = true ∧ ¬ nI (97 + pa) = 40 ∧ ¬ nI (97 + pa) = 41 ∧ nI (97 + pa) - 97 = nI pa := by decide +kernel
theorem ch_dig : ∀ d, d < 10 → chD (nI (48 + d)) = true ∧ nI (48 + d) - 48 = nI d := by decide +kernel
theorem ch_i2c : ∀ n, n < 128 → ((nI n).toUInt32 % 65536).toInt32 = nI n ∧ vp_nar .char (nI n) = nI n := by decide +kernel
theorem rlN_all {tc : Nat → Int32} : ∀ n i, (∀ k, i ≤ k → k < i + n → rdA tc k = true) → rlN tc n i = i + n
  | 0, i, _ => rfl
  | n + 1, i, h => by
    show (if rdA tc i then rlN tc n (i + 1) else i) = _
    rw [if_pos (h i (Nat.le_refl i) (by omega)), rlN_all n (i + 1) (fun k h1 h2 => h k (by omega) (by omega))]
    omega
theorem rd_digit {tc : Nat → Int32} {i v d : Nat} {ti ca : Int32} {ip hp : Bool} (e : rdF tc i = (nI v, ti, ip, hp, ca)) (c : tc i = nI (48 + d)) (hd : d < 10) (hv : v ≤ 9) (hne : ¬ (v = 0 ∧ d = 0)) : rdA tc i = true ∧ rdF tc (i + 1) = (nI (10 * v + d), ti, ip, hp, ca) := by
  obtain ⟨hD, hs⟩ := ch_dig d hd
  have h9 : nI v ≤ 9 := (nI_leI (b := 9) (by omega) (by decide)).mpr hv
  have ok : dgOK (nI v) (nI d) = true := by
    unfold dgOK
    by_cases z : nI v = 0
    · have hv0 : v = 0 := (nI_eq (b := 0) (by omega) (by decide)).mp z
      have hd0 : ¬ nI d = 0 := fun k => hne ⟨hv0, (nI_eq (b := 0) (by omega) (by decide)).mp k⟩
      rw [if_pos z, if_neg hd0]
      exact decide_eq_true h9
    · rw [if_neg z]
      exact decide_eq_true h9
  constructor
  · unfold rdA rdK
    rw [e, c]
    dsimp only
    rw [if_pos hD, hs]
    exact ok
  · rw [rdF, e, c]
    dsimp only
    unfold rdS
    rw [if_pos hD, hs]
    unfold dgN
    rw [if_pos ok, show (10 : Int32) * nI v = nI (10 * v) from pk_mul 10 v, nI_add]
theorem rd_name {tc : Nat → Int32} {i v pa : Nat} {ti ca : Int32} {ip hp : Bool} (e : rdF tc i = (nI v, ti, ip, hp, ca)) (c : tc i = nI (97 + pa)) (hpa : pa < 26) (hv : v = 0 ∨ 2 ≤ v) (hv9 : v ≤ 99) : rdA tc i = true ∧ rdF tc (i + 1) = (0, ti, ip, true, ca + ti * mx1 (nI v)) := by
  obtain ⟨hD, hN, _, _, _⟩ := ch_let pa hpa
  have ok : nmOK (nI v) = true := by
    unfold nmOK
    rcases hv with rfl | h
    · exact if_pos (show nI 0 = 0 from rfl)
    · rw [if_neg (fun k => by have := (nI_eq (b := 0) (by omega) (by decide)).mp k; omega)]
      exact decide_eq_true ((nI_leI (a := 2) (by decide) (by omega)).mpr h)
  constructor
  · unfold rdA rdK
    rw [e, c]
    dsimp only
    rw [if_neg (by rw [hD]; decide), if_pos hN]
    exact ok
  · rw [rdF, e, c]
    dsimp only
    unfold rdS
    rw [if_neg (by rw [hD]; decide), if_pos hN]
    unfold nmN nmH nmC
    rw [if_pos ok, if_pos ok, if_pos ok]
theorem rd_open {tc : Nat → Int32} {i v : Nat} {ti ca : Int32} {hp : Bool} (e : rdF tc i = (nI v, ti, false, hp, ca)) (c : tc i = 40) (hv : 2 ≤ v) (hv9 : v ≤ 99) : rdA tc i = true ∧ rdF tc (i + 1) = (0, nI v, true, false, ca) := by
  have ok : opOK (nI v) false = true := by
    unfold opOK
    rw [if_neg (by decide)]
    exact decide_eq_true ((nI_leI (a := 2) (by decide) (by omega)).mpr hv)
  constructor
  · unfold rdA rdK
    rw [e, c]
    exact ok
  · rw [rdF, e, c]
    show (opN (nI v) false, opT (nI v) ti false, opI (nI v) false, opH (nI v) false hp, ca) = _
    unfold opN opT opI opH
    rw [if_pos ok, if_pos ok, if_pos ok, if_pos ok]
theorem rd_close {tc : Nat → Int32} {i : Nat} {ti ca : Int32} (e : rdF tc i = (0, ti, true, true, ca)) (c : tc i = 41) : rdA tc i = true ∧ rdF tc (i + 1) = (0, 1, false, true, ca) := by
  constructor
  · unfold rdA rdK
    rw [e, c]
    rfl
  · rw [rdF, e, c]
    rfl
theorem ucN_all (u : Nat → Int32) (x : Int32) : ∀ n, n ≤ 1000 → (ucN (u, 0) x n).2 = n ∧ ∀ k, k < n → (ucN (u, 0) x n).1 k = x
  | 0, _ => ⟨rfl, fun k hk => absurd hk (Nat.not_lt_zero k)⟩
  | n + 1, h => by
    obtain ⟨i1, i2⟩ := ucN_all u x n (by omega)
    have e : ucN (u, 0) x (n + 1) = (upd (ucN (u, 0) x n).1 n x, n + 1) := by
      show ufS (ucN (u, 0) x n) x = _
      unfold ufS
      rw [i1, if_pos (by omega)]
    rw [e]
    refine ⟨rfl, fun k hk => ?_⟩
    show upd (ucN (u, 0) x n).1 n x k = x
    rw [upd_at]
    by_cases c : k = n
    · rw [if_pos c]
    · rw [if_neg c]; exact i2 k (by omega)
theorem rpO_all (u : Nat → Int32) : ∀ n, 1 + n ≤ 1000 → (rpO (u, 1) 0 1 n).2 = 1 + n ∧ ∀ k, k < 1 + n → (rpO (u, 1) 0 1 n).1 k = u 0
  | 0, _ => ⟨rfl, fun k hk => by rw [show k = 0 by omega]; rfl⟩
  | n + 1, h => by
    obtain ⟨i1, i2⟩ := rpO_all u n (by omega)
    have e : rpO (u, 1) 0 1 (n + 1) = (upd (rpO (u, 1) 0 1 n).1 (1 + n) ((rpO (u, 1) 0 1 n).1 0), 1 + n + 1) := by
      show ufS (rpO (u, 1) 0 1 n) ((rpO (u, 1) 0 1 n).1 (0 + 0)) = _
      unfold ufS
      rw [i1, if_pos (by omega)]
    rw [e]
    refine ⟨by show 1 + n + 1 = 1 + (n + 1); omega, fun k hk => ?_⟩
    show upd (rpO (u, 1) 0 1 n).1 (1 + n) ((rpO (u, 1) 0 1 n).1 0) k = u 0
    rw [upd_at]
    by_cases c : k = 1 + n
    · rw [if_pos c]; exact i2 0 (by omega)
    · rw [if_neg c]; exact i2 k (by omega)
/-- the class's text and what its reader holds: length, calls, characters, written calls, and the reader's five numbers -/
abbrev CT : Type := Nat × Int32 × (Nat → Int32) × (Nat → Int32) × Int32 × Int32 × Bool × Bool × Int32
/-- the text is a song of n calls of one parrot -/
def TX (x : CT) (pa n : Nat) : Prop := x.1 ≤ 60 ∧ song x.2.2.1 x.1 = true ∧ (rdF x.2.2.1 (rlN x.2.2.1 x.1 0)).2.2.2.2 = nI n ∧ (∀ k, k < x.1 → rdA x.2.2.1 k = true) ∧ (ufF x.2.2.1 x.2.2.2.1 x.1).2.2.2 = n ∧ ∀ k, k < n → (ufF x.2.2.1 x.2.2.2.1 x.1).2.2.1 k = nI pa
theorem TX_of {x : CT} {pa n : Nat} {ti : Int32} (h60 : x.1 ≤ 60) (hA : ∀ k, k < x.1 → rdA x.2.2.1 k = true) (hF : rdF x.2.2.1 x.1 = (0, ti, false, true, nI n)) (hU : (ufF x.2.2.1 x.2.2.2.1 x.1).2.2.2 = n ∧ ∀ k, k < n → (ufF x.2.2.1 x.2.2.2.1 x.1).2.2.1 k = nI pa) : TX x pa n := by
  have e := rlN_all (tc := x.2.2.1) x.1 0 (fun k _ hk => hA k (by omega))
  rw [Nat.zero_add] at e
  refine ⟨h60, ?_, by rw [e, hF], hA, hU.1, hU.2⟩
  unfold song
  rw [e, if_pos rfl, hF]
  rfl
/-- n letters -/
theorem TX_row {x : CT} {pa n : Nat} (hp : pa < 26) (h1 : 1 ≤ n) (h60 : n ≤ 60) (hl : x.1 = n) (hc : ∀ k, k < n → x.2.2.1 k = nI (97 + pa)) : TX x pa n := by
  obtain ⟨hD, hN, h40, h41, hs⟩ := ch_let pa hp
  have hR : ∀ i, i ≤ n → (∀ k, k < i → rdA x.2.2.1 k = true) ∧ rdF x.2.2.1 i = (0, 1, false, decide (0 < i), nI i) ∧ (ufF x.2.2.1 x.2.2.2.1 i).2.2.2 = i ∧ ∀ k, k < i → (ufF x.2.2.1 x.2.2.2.1 i).2.2.1 k = nI pa := by
    intro i
    induction i with
    | zero => intro _; exact ⟨fun k hk => absurd hk (Nat.not_lt_zero k), rfl, rfl, fun k hk => absurd hk (Nat.not_lt_zero k)⟩
    | succ i ih =>
      intro hi
      obtain ⟨i1, i2, i3, i4⟩ := ih (by omega)
      have e0 : rdF x.2.2.1 i = (nI 0, 1, false, decide (0 < i), nI i) := i2
      obtain ⟨r1, r2⟩ := rd_name e0 (hc i (by omega)) hp (Or.inl rfl) (by omega)
      have m1 : nI i + 1 * mx1 (nI 0) = nI (i + 1) := nI_1 i
      have eU : ufF x.2.2.1 x.2.2.2.1 (i + 1) = ((ufF x.2.2.1 x.2.2.2.1 i).1, (ufF x.2.2.1 x.2.2.2.1 i).2.1, (upd (ufF x.2.2.1 x.2.2.2.1 i).2.2.1 i (nI pa), i + 1)) := by
        rw [ufF_nm (by rw [hc i (by omega)]; exact hD) (by rw [hc i (by omega)]; exact h40) (by rw [hc i (by omega)]; exact h41) (by rw [hc i (by omega)]; exact hN), e0, hc i (by omega), hs]
        have : (mx1 (nI 0)).toNatClampNeg = 1 := by decide
        rw [this]
        show (_, _, ufS (ufF x.2.2.1 x.2.2.2.1 i).2.2 (nI pa)) = _
        unfold ufS
        rw [i3, if_pos (by omega)]
      refine ⟨fun k hk => ?_, ?_, ?_, fun k hk => ?_⟩
      · rcases Nat.lt_succ_iff_lt_or_eq.mp hk with h | h
        · exact i1 k h
        · rw [h]; exact r1
      · rw [r2, m1]
        simp
      · rw [eU]
      · rw [eU]
        show upd (ufF x.2.2.1 x.2.2.2.1 i).2.2.1 i (nI pa) k = nI pa
        rw [upd_at]
        by_cases c : k = i
        · rw [if_pos c]
        · rw [if_neg c]; exact i4 k (by omega)
  obtain ⟨j1, j2, j3, j4⟩ := hR n (Nat.le_refl n)
  refine TX_of (ti := 1) (by omega) (fun k hk => j1 k (by omega)) ?_ ?_
  · rw [hl, j2, decide_eq_true (by omega : 0 < n)]
  · rw [hl]; exact ⟨j3, j4⟩
/-- behind a number (v = 0: none) of i digits: a letter, or a letter in parentheses -/
theorem TX_tail {x : CT} {pa n i v : Nat} (hp : pa < 26) (hn : n ≤ 99) (hvn : (v = 0 ∧ n = 1) ∨ (2 ≤ v ∧ n = v)) (hi : i ≤ 50) (hA : ∀ k, k < i → rdA x.2.2.1 k = true) (hF : rdF x.2.2.1 i = (nI v, 1, false, false, 0)) (hU : ufF x.2.2.1 x.2.2.2.1 i = (1, 0, (x.2.2.2.1, 0)))
    (hc : (x.1 = i + 1 ∧ x.2.2.1 i = nI (97 + pa)) ∨ (2 ≤ v ∧ x.1 = i + 3 ∧ x.2.2.1 i = 40 ∧ x.2.2.1 (i + 1) = nI (97 + pa) ∧ x.2.2.1 (i + 2) = 41)) : TX x pa n := by
  obtain ⟨hD, hN, h40, h41, hs⟩ := ch_let pa hp
  have mxv : mx1 (nI v) = nI n := by
    rcases hvn with ⟨rfl, rfl⟩ | ⟨h2, rfl⟩
    · rfl
    · unfold mx1
      rw [if_neg (fun k => by have := (nI_ltI (b := 1) (by omega) (by decide)).mp k; omega)]
  rcases hc with ⟨hl, c⟩ | ⟨h2, hl, c0, c1, c2⟩
  · obtain ⟨r1, r2⟩ := rd_name hF c hp (hvn.imp (fun k => k.1) (fun k => k.1)) (by omega)
    have eF : rdF x.2.2.1 (i + 1) = (0, 1, false, true, nI n) := by
      rw [r2, mxv, Int32.one_mul, Int32.zero_add]
    have eU : ufF x.2.2.1 x.2.2.2.1 (i + 1) = (1, 0, ucN (x.2.2.2.1, 0) (nI pa) n) := by
      rw [ufF_nm (by rw [c]; exact hD) (by rw [c]; exact h40) (by rw [c]; exact h41) (by rw [c]; exact hN), hF, hU, c, hs, mxv, nI_clamp (by omega)]
    obtain ⟨u1, u2⟩ := ucN_all x.2.2.2.1 (nI pa) n (by omega)
    refine TX_of (ti := 1) (by omega) (fun k hk => ?_) (by rw [hl]; exact eF) (by rw [hl, eU]; exact ⟨u1, u2⟩)
    by_cases e : k = i
    · rw [e]; exact r1
    · exact hA k (by omega)
  · have hv : n = v := by omega
    subst hv
    obtain ⟨a1, a2⟩ := rd_open hF c0 h2 hn
    have a2' : rdF x.2.2.1 (i + 1) = (nI 0, nI n, true, false, 0) := a2
    obtain ⟨b1, b2⟩ := rd_name a2' c1 hp (Or.inl rfl) (by omega)
    have b3 : rdF x.2.2.1 (i + 2) = (0, nI n, true, true, nI n) := by
      rw [b2]
      have : (0 : Int32) + nI n * mx1 (nI 0) = nI n := by
        rw [show mx1 (nI 0) = 1 from rfl, Int32.mul_one, Int32.zero_add]
      rw [this]
    obtain ⟨d1, d2⟩ := rd_close b3 c2
    have e1 : ufF x.2.2.1 x.2.2.2.1 (i + 1) = (n, 0, (x.2.2.2.1, 0)) := by
      rw [ufF_op (chD_40 c0) c0, hF, hU, nI_clamp (by omega)]
    have e2 : ufF x.2.2.1 x.2.2.2.1 (i + 2) = (n, 0, (upd x.2.2.2.1 0 (nI pa), 1)) := by
      rw [ufF_nm (by rw [c1]; exact hD) (by rw [c1]; exact h40) (by rw [c1]; exact h41) (by rw [c1]; exact hN), a2', e1, c1, hs]
      rfl
    have e3 : ufF x.2.2.1 x.2.2.2.1 (i + 3) = (n, 0, rpO (upd x.2.2.2.1 0 (nI pa), 1) 0 1 (n - 1)) := by
      rw [ufF_cl (chD_41 c2) (by rw [c2]; decide) c2, e2]
      rfl
    obtain ⟨u1, u2⟩ := rpO_all (upd x.2.2.2.1 0 (nI pa)) (n - 1) (by omega)
    refine TX_of (ti := 1) (by omega) (fun k hk => ?_) (by rw [hl]; exact d2) ?_
    · by_cases k0 : k = i
      · rw [k0]; exact a1
      · by_cases k1 : k = i + 1
        · rw [k1]; exact b1
        · by_cases k2 : k = i + 2
          · rw [k2]; exact d1
          · exact hA k (by omega)
    · rw [hl, e3]
      refine ⟨by show (rpO _ 0 1 (n - 1)).2 = n; rw [u1]; omega, fun k hk => ?_⟩
      show (rpO _ 0 1 (n - 1)).1 k = nI pa
      rw [u2 k (by omega)]
      exact upd_eq _ _ _
/-- the text of a song as the law writes it: a number of one or two digits, or none; a letter, alone or in parentheses -/
theorem TX_sung {x : CT} {pa n : Nat} (hp : pa < 26) (h1 : 1 ≤ n) (h99 : n ≤ 99) {i : Nat} (hd : (n = 1 ∧ i = 0) ∨ (2 ≤ n ∧ n ≤ 9 ∧ i = 1 ∧ x.2.2.1 0 = nI (48 + n)) ∨ (10 ≤ n ∧ i = 2 ∧ x.2.2.1 0 = nI (48 + n / 10) ∧ x.2.2.1 1 = nI (48 + n % 10)))
    (hc : (x.1 = i + 1 ∧ x.2.2.1 i = nI (97 + pa)) ∨ (2 ≤ n ∧ x.1 = i + 3 ∧ x.2.2.1 i = 40 ∧ x.2.2.1 (i + 1) = nI (97 + pa) ∧ x.2.2.1 (i + 2) = 41)) : TX x pa n := by
  have z : rdF x.2.2.1 0 = (nI 0, 1, false, false, 0) := rfl
  rcases hd with ⟨rfl, rfl⟩ | ⟨h2, h9, rfl, c0⟩ | ⟨h10, rfl, c0, c1⟩
  · exact TX_tail (v := 0) hp h99 (Or.inl ⟨rfl, rfl⟩) (by omega) (fun k hk => absurd hk (Nat.not_lt_zero k)) z rfl (hc.imp id (fun k => absurd k.1 (by decide)))
  · obtain ⟨r1, r2⟩ := rd_digit z c0 (by omega) (by omega) (by omega)
    rw [show 10 * 0 + n = n by omega] at r2
    refine TX_tail (v := n) hp h99 (Or.inr ⟨h2, rfl⟩) (by omega) (fun k hk => by rw [show k = 0 by omega]; exact r1) r2 ?_ hc
    rw [ufF_dg (by rw [c0]; exact (ch_dig n (by omega)).1)]
    rfl
  · obtain ⟨r1, r2⟩ := rd_digit z c0 (by omega) (by omega) (by omega)
    rw [show 10 * 0 + n / 10 = n / 10 by omega] at r2
    obtain ⟨s1, s2⟩ := rd_digit r2 c1 (by omega) (by omega) (by omega)
    rw [show 10 * (n / 10) + n % 10 = n by omega] at s2
    refine TX_tail (v := n) hp h99 (Or.inr ⟨by omega, rfl⟩) (by omega) (fun k hk => ?_) s2 ?_ hc
    · by_cases k0 : k = 0
      · rw [k0]; exact r1
      · rw [show k = 1 by omega]; exact s1
    · rw [ufF_dg (by rw [c1]; exact (ch_dig (n % 10) (by omega)).1), ufF_dg (by rw [c0]; exact (ch_dig (n / 10) (by omega)).1)]
      rfl
/-- one parrot's calls, one after the other -/
theorem tkI_R (v : ST) (pa : Nat) (hp : pa < 26) (u : Nat → Int32) : ∀ n, (∀ k, k < n → u k = nI pa) → (tkI v.2.1 v.2.2.1 v.1 u n, v.2.1, v.2.2.1, v.2.2.2) = tkR v pa n
  | 0, _ => rfl
  | n + 1, h => by
    have ih := tkI_R v pa hp u n (fun k hk => h k (by omega))
    have e : (u n).toNatClampNeg = pa := by rw [h n (by omega), nI_clamp (by omega)]
    show (tkL v.2.1 v.2.2.1 (tkI v.2.1 v.2.2.1 v.1 u n) (u n).toNatClampNeg, _) = tkQ (tkR v pa n) pa
    rw [← ih, e]
    rfl
end PTEXTS
