section PSTATES
/-- a state of the class: own lists, their rooms, lists aside, their rooms, whether something is aside, the capacity -/
abbrev ST : Type := LV × Int32 × Int32 × LV × Int32 × Int32 × Bool × Nat
/-- state and history: the state, the ring's place, its size, its rows -/
abbrev KS : Type := ST × Nat × Nat × (Nat → ST)
def tkQ (v : ST) (pa : Nat) : ST := (tkL v.2.1 v.2.2.1 v.1 pa, v.2.1, v.2.2.1, v.2.2.2)
def tkR (v : ST) (pa : Nat) : Nat → ST
  | 0 => v
  | n + 1 => tkQ (tkR v pa n) pa
def zeL (L : LV) : LV := (flN L.1 0 26, L.2.1, L.2.2.1, 0, 0, flN L.2.2.2.2.2.1 0 26, 0, 0, flN L.2.2.2.2.2.2.2.2 0 26)
def emQ (v : ST) (cn : Nat) : ST := (zeL v.1, nI (cn + 1), nI cn, v.2.2.2.1, v.2.2.2.2.1, v.2.2.2.2.2.1, false, cn)
def paQ (v : ST) : ST := (zeL v.1, nI (v.2.2.2.2.2.2.2 + 1), nI v.2.2.2.2.2.2.2, v.1, v.2.1, v.2.2.1, true, v.2.2.2.2.2.2.2)
def mgL (L K : LV) (cap : Nat) : LV := (mrC (mgC L.1 L.2.2.1 K.1 K.2.2.1 L.2.2.2.2.1 (nI (cap + 1)) K.2.2.2.2.1 (nI (cap + 1))) (cap + 1), mgS L.1 L.2.1 L.2.2.1 K.1 K.2.1 K.2.2.1 L.2.2.2.2.1 (nI (cap + 1)) K.2.2.2.2.1 (nI (cap + 1)), idN L.2.2.1 26, 26, mrZ (mgC L.1 L.2.2.1 K.1 K.2.2.1 L.2.2.2.2.1 (nI (cap + 1)) K.2.2.2.2.1 (nI (cap + 1))) (cap + 1), smC L.2.2.2.2.2.1 K.2.2.2.2.2.1 (nI cap), smO L.2.2.2.2.2.1 K.2.2.2.2.2.1 L.2.2.2.2.2.2.1 (nI cap) K.2.2.2.2.2.2.1, smZ L.2.2.2.2.2.1 K.2.2.2.2.2.1 (nI cap), smA L.2.2.2.2.2.2.2.2 K.2.2.2.2.2.2.2.2 26)
def mgQ (v : ST) : ST := (mgL v.1 v.2.2.2.1 v.2.2.2.2.2.2.2, nI (v.2.2.2.2.2.2.2 + 1), nI v.2.2.2.2.2.2.2, v.2.2.2.1, v.2.2.2.2.1, v.2.2.2.2.2.1, false, v.2.2.2.2.2.2.2)
def recQ (k : KS) (v' : ST) : KS := (v', hNx k.2.1, min (k.2.2.1 + 1) 5, fun i => if i = k.2.1 then k.1 else k.2.2.2 i)
def unQ (k : KS) : KS := (k.2.2.2 (hPv k.2.1), hPv k.2.1, k.2.2.1 - 1, k.2.2.2)
/-- what holds of a state; M: at most so many calls in both listeners -/
def SI (v : ST) (M : Int) : Prop := 1 ≤ v.2.2.2.2.2.2.2 ∧ v.2.2.2.2.2.2.2 ≤ 9 ∧ v.2.1 = nI (v.2.2.2.2.2.2.2 + 1) ∧ v.2.2.1 = nI v.2.2.2.2.2.2.2 ∧ WI v.1 v.2.2.2.2.2.2.2 ∧ smI v.1.2.2.2.2.2.2.2.2 26 ≤ M ∧ (v.2.2.2.2.2.2.1 = true → WI v.2.2.2.1 v.2.2.2.2.2.2.2 ∧ v.2.2.2.2.1 = nI (v.2.2.2.2.2.2.2 + 1) ∧ v.2.2.2.2.2.1 = nI v.2.2.2.2.2.2.2 ∧ smI v.1.2.2.2.2.2.2.2.2 26 + smI v.2.2.2.1.2.2.2.2.2.2.2.2 26 ≤ M)
def KI (k : KS) (M : Int) : Prop := SI k.1 M ∧ k.2.1 < 5 ∧ k.2.2.1 ≤ 5 ∧ ∀ j, j < k.2.2.1 → SI (k.2.2.2 ((k.2.1 + 5 - k.2.2.1 + j) % 5)) M
theorem SI_mono {v : ST} {M M' : Int} (h : M ≤ M') (hs : SI v M) : SI v M' := by
  obtain ⟨a1, a2, a3, a4, a5, a6, a7⟩ := hs
  exact ⟨a1, a2, a3, a4, a5, Int.le_trans a6 h, fun k => ⟨(a7 k).1, (a7 k).2.1, (a7 k).2.2.1, Int.le_trans (a7 k).2.2.2 h⟩⟩
theorem KI_mono {k : KS} {M M' : Int} (h : M ≤ M') (hs : KI k M) : KI k M' := ⟨SI_mono h hs.1, hs.2.1, hs.2.2.1, fun j hj => SI_mono h (hs.2.2.2 j hj)⟩
theorem KI_rec {k : KS} {M M' : Int} {v' : ST} (h : KI k M) (hM : M ≤ M') (hv : SI v' M') : KI (recQ k v') M' := by
  obtain ⟨v, hk, hz, sl⟩ := k
  obtain ⟨h0, h5, hz5, hr⟩ := h
  dsimp only at h0 h5 hz5 hr
  refine ⟨hv, hNx_lt hk, (by show min (hz + 1) 5 ≤ 5; omega), fun j hj => ?_⟩
  have enx : hNx hk = (hk + 1) % 5 := by
    unfold hNx
    split <;> omega
  have hj' : j < min (hz + 1) 5 := hj
  show SI (if (hNx hk + 5 - min (hz + 1) 5 + j) % 5 = hk then v else sl ((hNx hk + 5 - min (hz + 1) 5 + j) % 5)) M'
  by_cases e : (hNx hk + 5 - min (hz + 1) 5 + j) % 5 = hk
  · rw [if_pos e]; exact SI_mono hM h0
  · rw [if_neg e]
    by_cases c : hz = 5
    · have e1 : (hNx hk + 5 - min (hz + 1) 5 + j) % 5 = (hk + 5 - hz + (j + 1)) % 5 := by rw [enx]; omega
      rw [e1]
      exact SI_mono hM (hr (j + 1) (by rw [enx] at e; omega))
    · have e1 : (hNx hk + 5 - min (hz + 1) 5 + j) % 5 = (hk + 5 - hz + j) % 5 := by rw [enx]; omega
      rw [e1]
      exact SI_mono hM (hr j (by rw [enx] at e; omega))
theorem KI_undo {k : KS} {M : Int} (h : KI k M) (h0 : 0 < k.2.2.1) : KI (unQ k) M := by
  obtain ⟨v, hk, hz, sl⟩ := k
  obtain ⟨h1, h5, hz5, hr⟩ := h
  dsimp only at h0 h1 h5 hz5 hr
  have epv : hPv hk = (hk + 4) % 5 := by
    unfold hPv
    split <;> omega
  refine ⟨?_, hPv_lt h5, (by show hz - 1 ≤ 5; omega), fun j hj => ?_⟩
  · show SI (sl (hPv hk)) M
    have e : hPv hk = (hk + 5 - hz + (hz - 1)) % 5 := by rw [epv]; omega
    rw [e]
    exact hr (hz - 1) (by omega)
  · have hj' : j < hz - 1 := hj
    show SI (sl ((hPv hk + 5 - (hz - 1) + j) % 5)) M
    have e : (hPv hk + 5 - (hz - 1) + j) % 5 = (hk + 5 - hz + j) % 5 := by rw [epv]; omega
    rw [e]
    exact hr j (by omega)
theorem smI_00 {f : Nat → Int32} : ∀ n, (∀ j, j < n → f j = 0) → smI f n = 0
  | 0, _ => rfl
  | n + 1, h => by
    show smI f n + (f n).toInt = 0
    rw [smI_00 n (fun j hj => h j (by omega)), h n (by omega)]
    rfl
theorem cntN_00 {f : Nat → Int32} : ∀ n, (∀ j, j < n → f j = 0) → cntN f n = 0
  | 0, _ => rfl
  | n + 1, h => by
    show (if f n ≤ 0 then cntN f n else cntN f n + 1) = 0
    rw [if_pos (by rw [h n (by omega)]; exact Int32.le_refl 0), cntN_00 n (fun j hj => h j (by omega))]
theorem WI_zero {f0 fs fg w0 t0 : Nat → Int32} (cap : Nat) (hf : ∀ j, j < 26 → f0 j = 0) (hw : ∀ j, j < 26 → w0 j = 0) (ht : ∀ j, j < 26 → t0 j = 0) : WI (f0, fs, fg, 0, 0, w0, 0, 0, t0) cap ∧ smI t0 26 = 0 := by
  have z0 : (0 : Int32).toInt = 0 := rfl
  have s := smI_00 26 ht
  have cf := cntN_00 26 hf
  have cw := cntN_00 26 hw
  refine ⟨⟨fun p hp => ?_, fun p hp k => ?_, fun p hp k => ⟨fun _ => ?_, fun w hw2 k2 => ?_⟩, ?_, ?_, ?_, ?_, ?_, ?_⟩, s⟩
  · dsimp only
    rw [hf p hp, hw p hp, ht p hp, s, z0]
    omega
  · dsimp only at k
    rw [hf p hp] at k
    exact absurd (Int32.le_refl 0) k
  · dsimp only
    rw [ht p hp, z0]
    exact Int.le_refl 0
  · dsimp only at k2
    rw [hf w hw2] at k2
    exact absurd (Int32.le_refl 0) k2
  · dsimp only; rw [s]; omega
  · dsimp only; rw [z0]; exact Int.le_refl 0
  · dsimp only; rw [cf]; rfl
  · dsimp only; rw [cf]; omega
  · dsimp only; rw [cw]; rfl
  · dsimp only; rw [cw]; omega
theorem WI_zeL (L : LV) (cap : Nat) : WI (zeL L) cap ∧ smI (zeL L).2.2.2.2.2.2.2.2 26 = 0 := WI_zero cap (fun j hj => flN_at _ _ _ _ hj) (fun j hj => flN_at _ _ _ _ hj) (fun j hj => flN_at _ _ _ _ hj)
/-- the answers of a state -/
def qEst (v : ST) (p : Nat) : Int32 := flEst v.1.1 v.1.2.2.1 v.1.2.2.2.2.1 v.2.1 p
def qSure (v : ST) (p : Nat) : Int32 := flSure v.1.1 v.1.2.1 p
def qLeast (v : ST) : Int32 := flLeast v.1.1 v.1.2.2.1 v.1.2.2.2.2.1 v.2.1
def qSum (v : ST) : Int32 := smN v.1.2.2.2.2.2.2.2.2 26
def qT (v : ST) : Nat → Int32 := v.1.2.2.2.2.2.2.2.2
def qC (v : ST) : Nat → Int32 := v.1.1
def qS (v : ST) : Nat → Int32 := v.1.2.1
def qW (v : ST) : Nat → Int32 := v.1.2.2.2.2.2.1
def qWear (v : ST) : Int32 := v.1.2.2.2.2.2.2.1
def qSize (v : ST) : Int32 := v.1.2.2.2.2.1
def qWSize (v : ST) : Int32 := v.1.2.2.2.2.2.2.2.1
def qCap (v : ST) : Nat := v.2.2.2.2.2.2.2
def qVia (v : ST) : Bool := v.2.2.2.2.2.2.1
theorem SI_take {v : ST} {M : Int} {pa : Nat} (hp : pa < 26) (hs : SI v M) (hM : M + 1 ≤ 99999) : SI (tkQ v pa) (M + 1) ∧ (qEst (tkQ v pa) pa).toInt = (qEst v pa).toInt + 1 ∧ (qLeast v).toInt ≤ (qLeast (tkQ v pa)).toInt ∧ ¬ qC (tkQ v pa) pa ≤ 0 ∧ smI (qT (tkQ v pa)) 26 = smI (qT v) 26 + 1 := by
  obtain ⟨L, rm, wr, K, arm, awr, via, cap⟩ := v
  obtain ⟨a1, a2, a3, a4, a5, a6, a7⟩ := hs
  dsimp only at a1 a2 a3 a4 a5 a6 a7
  subst a3
  subst a4
  obtain ⟨w1, w2, w3, w4, w5⟩ := WI_take (L := L) (cap := cap) (pa := pa) (by omega) hp a5 (by omega)
  refine ⟨⟨a1, a2, rfl, rfl, w1, ?_, fun k => ?_⟩, w3, w5, w4, w2⟩
  · show smI (tkL (nI (cap + 1)) (nI cap) L pa).2.2.2.2.2.2.2.2 26 ≤ M + 1
    rw [w2]; omega
  · obtain ⟨b1, b2, b3, b4⟩ := a7 k
    refine ⟨b1, b2, b3, ?_⟩
    show smI (tkL (nI (cap + 1)) (nI cap) L pa).2.2.2.2.2.2.2.2 26 + _ ≤ M + 1
    rw [w2]
    dsimp only [tkQ]
    omega
theorem tkR_via (v : ST) (pa : Nat) : ∀ n, (tkR v pa n).2 = v.2
  | 0 => rfl
  | n + 1 => (show (tkQ (tkR v pa n) pa).2 = v.2 from (tkR_via v pa n))
theorem SI_takes {v : ST} {M : Int} {pa : Nat} (hp : pa < 26) (hs : SI v M) : ∀ n : Nat, M + n ≤ 99999 → SI (tkR v pa n) (M + n) ∧ (qEst (tkR v pa n) pa).toInt = (qEst v pa).toInt + n ∧ (qLeast v).toInt ≤ (qLeast (tkR v pa n)).toInt ∧ smI (qT (tkR v pa n)) 26 = smI (qT v) 26 + n
  | 0, _ => ⟨by rw [show M + ((0 : Nat) : Int) = M by omega]; exact hs, by show (qEst v pa).toInt = _; simp, Int.le_refl _, by show smI (qT v) 26 = _; simp⟩
  | n + 1, h => by
    obtain ⟨i1, i2, i3, i4⟩ := SI_takes hp hs n (by omega)
    obtain ⟨j1, j2, j3, _, j5⟩ := SI_take hp i1 (by omega)
    have e : M + ((n + 1 : Nat) : Int) = M + (n : Int) + 1 := by omega
    rw [e]
    refine ⟨j1, ?_, Int.le_trans i3 j3, ?_⟩
    · show (qEst (tkQ (tkR v pa n) pa) pa).toInt = _
      rw [j2, i2]; omega
    · show smI (qT (tkQ (tkR v pa n) pa)) 26 = _
      rw [j5, i4]; omega
theorem SI_empty {v : ST} {M : Int} {cn : Nat} (hM : 0 ≤ M) (h1 : 1 ≤ cn) (h9 : cn ≤ 9) : SI (emQ v cn) M := by
  obtain ⟨a, b⟩ := WI_zeL v.1 cn
  refine ⟨h1, h9, rfl, rfl, a, ?_, fun k => absurd (show false = true from k) (by decide)⟩
  show smI (zeL v.1).2.2.2.2.2.2.2.2 26 ≤ M
  rw [b]; exact hM
theorem SI_aside {v : ST} {M : Int} (hs : SI v M) : SI (paQ v) M := by
  obtain ⟨L, rm, wr, K, arm, awr, via, cap⟩ := v
  obtain ⟨a1, a2, a3, a4, a5, a6, a7⟩ := hs
  dsimp only at a1 a2 a3 a4 a5 a6 a7
  obtain ⟨a, b⟩ := WI_zeL L cap
  have nn := (smI_nn (f := L.2.2.2.2.2.2.2.2) 26 (fun j hj => (a5.1 j hj).1)).1
  refine ⟨a1, a2, rfl, rfl, a, ?_, fun _ => ⟨a5, a3, a4, ?_⟩⟩
  · show smI (zeL L).2.2.2.2.2.2.2.2 26 ≤ M
    rw [b]; omega
  · show smI (zeL L).2.2.2.2.2.2.2.2 26 + smI L.2.2.2.2.2.2.2.2 26 ≤ M
    rw [b]; omega
theorem SI_merge {v : ST} {M : Int} (hs : SI v M) (hv : qVia v = true) (hM : M ≤ 99999) : SI (mgQ v) M ∧ (qWear v).toInt ≤ (qWear (mgQ v)).toInt ∧ smI (qT (mgQ v)) 26 = smI (qT v) 26 + smI v.2.2.2.1.2.2.2.2.2.2.2.2 26 ∧ 0 ≤ smI v.2.2.2.1.2.2.2.2.2.2.2.2 26 ∧ smI (qT v) 26 + smI v.2.2.2.1.2.2.2.2.2.2.2.2 26 ≤ M := by
  obtain ⟨L, rm, wr, K, arm, awr, via, cap⟩ := v
  obtain ⟨a1, a2, a3, a4, a5, a6, a7⟩ := hs
  obtain ⟨b1, b2, b3, b4⟩ := a7 hv
  dsimp only at a1 a2 a3 a4 a5 a6 b1 b2 b3 b4
  obtain ⟨w1, w2, w3⟩ := WI_merge (L := L) (K := K) (cap := cap) (by omega) a5 b1 (by omega)
  have nn := (smI_nn (f := K.2.2.2.2.2.2.2.2) 26 (fun j hj => (b1.1 j hj).1)).1
  refine ⟨⟨a1, a2, rfl, rfl, w1, ?_, fun k => absurd (show false = true from k) (by decide)⟩, w3, w2, nn, b4⟩
  show smI (smA L.2.2.2.2.2.2.2.2 K.2.2.2.2.2.2.2.2 26) 26 ≤ M
  rw [w2]; exact b4
end PSTATES
