section PFACTS2
def qSur (v : ST) (p : Nat) : Int32 := if qC v p = 0 then 900002 else qS v p
def qNx (v : ST) : Int32 := if qFull v = true then qNext v else 900001
def qLo (v : ST) (px : Int32) : Int32 := if px < qSize v then pAtN (qC v) px 26 0 else 900002
theorem L_surplusA (l : Launch) (D : va_G) (T : Nat → ClassId) (po : Nat) (a : Nat → Nat) (k : KS) (x : CT) (pa : Nat) (hst9 : l.stackTraces = false) (hp : pa < 26) : kWN l D T yL_surplus wsL_surplus rL_surplus 1 6 [.ref po, .int (nI pa)] (wO T po a k x) (some (.int (qSur k.1 pa))) (wO T po a k x) := by
  unfold qSur
  by_cases h : qC k.1 pa = 0
  · rw [if_pos h]; exact Lx_surplus l D T po a k x pa hst9 hp h
  · rw [if_neg h]; exact L_surplus l D T po a k x pa hp h
theorem L_nextA (l : Launch) (D : va_G) (T : Nat → ClassId) (po : Nat) (a : Nat → Nat) (k : KS) (x : CT) (hst9 : l.stackTraces = false) : kWN l D T yL_next wsL_next rL_next 1 6 [.ref po] (wO T po a k x) (some (.int (qNx k.1))) (wO T po a k x) := by
  unfold qNx
  cases h : qFull k.1 with
  | true => exact L_next l D T po a k x h
  | false => exact Lx_next l D T po a k x hst9 h
theorem L_loudestA (l : Launch) (D : va_G) (T : Nat → ClassId) (po : Nat) (a : Nat → Nat) (k : KS) (x : CT) (px : Int32) (hst9 : l.stackTraces = false) (hpos : 0 ≤ px) : kWN l D T yL_loudest wsL_loudest rL_loudest 1 6 [.ref po, .int px] (wO T po a k x) (some (.int (qLo k.1 px))) (wO T po a k x) := by
  unfold qLo
  by_cases h : px < qSize k.1
  · rw [if_pos h]; exact L_loudest l D T po a k x px hpos h
  · rw [if_neg h]; exact Lx_loudest l D T po a k x px hst9 hpos (Int32.not_lt.mp h)
theorem q_lists {v : ST} {M : Int} (hS : SI v M) : WI v.1 (qCap v) ∧ 1 ≤ qCap v ∧ qCap v ≤ 9 ∧ v.2.1 = nI (qCap v + 1) := ⟨hS.2.2.2.2.1, hS.1, hS.2.1, hS.2.2.1⟩
theorem q_size {v : ST} {M : Int} (hS : SI v M) : qSize v = nI (cntN (qC v) 26) ∧ cntN (qC v) 26 ≤ qCap v + 1 ∧ cntN (qC v) 26 ≤ 26 := by
  obtain ⟨h, _⟩ := q_lists hS
  exact ⟨h.2.2.2.2.2.1, h.2.2.2.2.2.2.1, cntN_le _ 26⟩
/-- where something was heard, a counter there is -/
theorem some_cnt {v : ST} {M : Int} (hS : SI v M) (h0 : ¬ qSum v = 0) : 0 < cntN (qC v) 26 := by
  obtain ⟨h, _⟩ := q_lists hS
  refine Classical.byContradiction fun c => h0 (smN_00 26 (fun j hj => ?_))
  have c0 : cntN (qC v) 26 = 0 := by omega
  have hz := cntN_zero 26 c0 j hj
  have t := (h.2.2.1 j hj hz).1 (by show cntN (qC v) 26 ≤ _; omega)
  have t0 := (h.1 j hj).1
  have z0 : (0 : Int32).toInt = 0 := rfl
  exact Int32.toInt_inj.mp (by omega)
def lqN (v : ST) : Nat := (pAtN (qC v) 0 26 0).toNatClampNeg
def qShare (v : ST) : UInt64 := if qSum v = 0 then FP.dconst0 else FP.ddiv (FP.i2d (qC v (lqN v))) (FP.i2d (qSum v))
theorem o_share (l : Launch) (D : va_G) (T : Nat → ClassId) (po : Nat) (a : Nat → Nat) (k : KS) (x : CT) {M : Int} (hS : SI k.1 M) : kM l D T yX8_loudestShare wsX8_loudestShare rX8_loudestShare [.ref po] (wO T po a k x) (some (.double (qShare k.1))) (wO T po a k x) := by
  unfold qShare
  by_cases h : qSum k.1 = 0
  · rw [if_pos h]; exact o_loudestShare_0 l D T po a k x h
  · rw [if_neg h]
    obtain ⟨p, hp, e, _, _⟩ := pAtN_ex (qC k.1) (m := 0) (some_cnt hS h)
    have e' : pAtN (qC k.1) 0 26 0 = nI p := e
    have el : lqN k.1 = p := by unfold lqN; rw [e', nI_clamp (by omega)]
    rw [el]
    exact o_loudestShare l D T po a k x p h e' hp
theorem share_cmp (v : ST) : Op.cmpValue (FP.dcmp (qShare v) (qShare v)) .l = 0 := by
  have h : FP.Core.dIsNaN (qShare v) = false := by
    unfold qShare
    by_cases h : qSum v = 0
    · rw [if_pos h]; decide +kernel
    · rw [if_neg h]
      exact FP.Core.ddiv_out (FP.Core.i2d_fin _).notNaN (FP.Core.i2d_fin _) (fun z => FP.Core.i2d_ne_zero h ((FP.Core.zero_bits2 _).mp z))
  have e : FP.dcmp (qShare v) (qShare v) = some .eq := FP.Core.dcmp_refl h
  rw [e]
  rfl
-- what is sure, true and perhaps
def qGEn (v : ST) (n : Nat) : Int32 := geC v.1.1 v.1.2.2.1 v.1.2.2.2.2.1 v.2.1 v.1.2.2.2.2.2.2.2.2 n
theorem ge_no {v : ST} {i : Nat} (h : qEst v i - qT v i ≤ qGEn v i) : qGEn v i = qGEn v (i + 1) := by
  have e : qGEn v (i + 1) = if qGEn v i < qEst v i - qT v i then qEst v i - qT v i else qGEn v i := rfl
  rw [e, if_neg (Int32.not_lt.mpr h)]
theorem ge_yes {v : ST} {i : Nat} (h : ¬ qEst v i - qT v i ≤ qGEn v i) : qEst v i - qT v i = qGEn v (i + 1) := by
  have e : qGEn v (i + 1) = if qGEn v i < qEst v i - qT v i then qEst v i - qT v i else qGEn v i := rfl
  rw [e, if_pos (Int32.not_le.mp h)]
theorem cnt_no {f : Nat → Int32} {n : Nat} (h : f n ≤ 0) : nI (cntN f n) = nI (cntN f (n + 1)) := by
  rcases cntN_s f n with ⟨_, e⟩ | ⟨c, _⟩
  · rw [e]
  · exact absurd h c
theorem cnt_yes {f : Nat → Int32} {n : Nat} (h : ¬ f n ≤ 0) : nI (cntN f n + 1) = nI (cntN f (n + 1)) := by
  rcases cntN_s f n with ⟨c, _⟩ | ⟨_, e⟩
  · exact absurd c h
  · rw [e]
theorem f_zero {v : ST} {M : Int} {p : Nat} (hS : SI v M) (hp : p < 26) (h : qC v p ≤ 0) : qC v p = 0 := by
  obtain ⟨w, _⟩ := q_lists hS
  have a : 0 ≤ (qC v p).toInt := (w.1 p hp).2.2.2.2.2.1
  have z0 : (0 : Int32).toInt = 0 := rfl
  rw [nI_n] at h
  exact Int32.toInt_inj.mp (by omega)
theorem f_estC {v : ST} {p : Nat} (h : ¬ qC v p ≤ 0) : qEst v p = qC v p := by
  exact if_neg h
theorem f_estL {v : ST} {p : Nat} (h : qC v p ≤ 0) : qEst v p = qLeast v := by
  exact if_pos h
theorem f_sureC {v : ST} {p : Nat} (h : ¬ qC v p ≤ 0) : qSure v p = qC v p - qS v p := by
  exact if_neg h
theorem f_sure0 {v : ST} {p : Nat} (h : qC v p ≤ 0) : qSure v p = 0 := by
  exact if_pos h
theorem sur_no {v : ST} {M : Int} {p : Nat} (hS : SI v M) (hM : M ≤ 99999) (hp : p < 26) (h : qSur v p = 900002) : qC v p = 0 := by
  refine Classical.byContradiction fun c => ?_
  obtain ⟨w, _⟩ := q_lists hS
  have c2 : ¬ qC v p ≤ 0 := fun k => c (f_zero hS hp k)
  have b : 0 ≤ (qS v p).toInt ∧ (qS v p).toInt ≤ (qC v p).toInt := ⟨(w.2.1 p hp c2).1, (w.2.1 p hp c2).2.1⟩
  have a : (qC v p).toInt ≤ smI (qT v) 26 := (w.1 p hp).2.2.2.2.2.2
  have m : smI (qT v) 26 ≤ M := hS.2.2.2.2.2.1
  unfold qSur at h
  rw [if_neg c] at h
  have z : (900002 : Int32).toInt = 900002 := rfl
  rw [h, z] at b
  omega
theorem sur_yes {v : ST} {M : Int} {p : Nat} (hS : SI v M) (hp : p < 26) (h : ¬ qSur v p = 900002) : ¬ qC v p ≤ 0 ∧ qSur v p = qS v p := by
  unfold qSur at h ⊢
  by_cases c : qC v p = 0
  · rw [if_pos c] at h; exact absurd rfl h
  · rw [if_neg c]
    exact ⟨fun k => c (f_zero hS hp k), rfl⟩
theorem f_sureE {v : ST} {M : Int} {p : Nat} (hS : SI v M) (hp : p < 26) (h : ¬ qSur v p = 900002) : qSure v p = qEst v p - qSur v p := by
  obtain ⟨a, b⟩ := sur_yes hS hp h
  rw [f_sureC a, f_estC a, b]
theorem f_sizeA {v : ST} {M : Int} (hS : SI v M) : ¬ nI (qCap v + 1) < qSize v := by
  obtain ⟨a, b, c⟩ := q_size hS
  obtain ⟨_, _, d, _⟩ := q_lists hS
  rw [a]
  exact nI_nlt b (by omega)
theorem f_sizeW {v : ST} {M : Int} (hS : SI v M) : ¬ nI (qCap v) < qWSize v := by
  obtain ⟨w, _, d, _⟩ := q_lists hS
  have e : qWSize v = nI (cntN (qW v) 26) := w.2.2.2.2.2.2.2.1
  have f : cntN (qW v) 26 ≤ qCap v := w.2.2.2.2.2.2.2.2
  rw [e]
  exact nI_nlt f (by omega)
theorem f_fullA {v : ST} {M : Int} (hS : SI v M) (hM : M ≤ 99999) (h : qLeast v ≤ 0) : qSize v ≤ nI (qCap v) := by
  rcases q_full hS hM with ⟨a, _⟩ | ⟨_, b, _⟩
  · exact a
  · rw [nI_n] at h; omega
theorem f_fullB {v : ST} {M : Int} (hS : SI v M) (hM : M ≤ 99999) (h : ¬ qLeast v ≤ 0) : ¬ qSize v ≤ nI (qCap v) := by
  rcases q_full hS hM with ⟨_, b, _⟩ | ⟨a, _⟩
  · rw [b] at h; exact absurd (Int32.le_refl 0) h
  · exact a
theorem f_sure1 {v : ST} {M : Int} {p : Nat} (hS : SI v M) (hM : M ≤ 99999) (hp : p < 26) : ¬ qSure v p < 0 := by
  have a := q_est hS hM hp
  have z0 : (0 : Int32).toInt = 0 := rfl
  rw [i_lt]; omega
theorem f_sure2 {v : ST} {M : Int} {p : Nat} (hS : SI v M) (hM : M ≤ 99999) (hp : p < 26) : ¬ qT v p < qSure v p := by
  have a := q_est hS hM hp
  rw [i_lt]; omega
theorem f_est2 {v : ST} {M : Int} {p : Nat} (hS : SI v M) (hM : M ≤ 99999) (hp : p < 26) : ¬ qEst v p < qT v p := by
  have a := q_est hS hM hp
  rw [i_lt]; omega
theorem f_est3 {v : ST} {M : Int} {p : Nat} (hS : SI v M) (hM : M ≤ 99999) (hp : p < 26) : ¬ qEst v p < qLeast v := by
  have a := q_est hS hM hp
  rw [i_lt]; omega
theorem f_worn1 {v : ST} {M : Int} {p : Nat} (hS : SI v M) (hp : p < 26) : ¬ qT v p < qW v p := by
  obtain ⟨w, _⟩ := q_lists hS
  have a : (qW v p).toInt ≤ (qT v p).toInt := (w.1 p hp).2.2.1
  rw [i_lt]; omega
theorem f_worn2 {v : ST} {M : Int} {p : Nat} (hS : SI v M) (hM : M ≤ 99999) (hp : p < 26) : ¬ qW v p + qWear v < qT v p := by
  obtain ⟨w, _⟩ := q_lists hS
  obtain ⟨a1, a2, a3, a4, a5, _⟩ := w.1 p hp
  have b1 : 0 ≤ (qW v p).toInt := a2
  have b2 : (qT v p).toInt ≤ (qW v p).toInt + (qWear v).toInt := a4
  have b3 : (qW v p).toInt + (qWear v).toInt ≤ smI (qT v) 26 := a5
  have b4 : 0 ≤ (qWear v).toInt := w.2.2.2.2.1
  have m : smI (qT v) 26 ≤ M := hS.2.2.2.2.2.1
  rw [i_lt, i32_add (by omega) (by omega)]
  omega
theorem f_in {v : ST} {M : Int} {j : Nat} (hS : SI v M) (h : j < cntN (qC v) 26) : nI j < qSize v := by
  obtain ⟨a, b, c⟩ := q_size hS
  rw [a]
  exact nI_lt h (by omega)
theorem f_exit2 {v : ST} {M : Int} (hS : SI v M) : qSize v ≤ nI (cntN (qC v) 26 - 1 + 1) := by
  obtain ⟨a, b, c⟩ := q_size hS
  rw [a]
  exact nI_le (by omega) (by omega)
theorem f_body2 {v : ST} {M : Int} {j : Nat} (hS : SI v M) (h : j + 1 < cntN (qC v) 26) : ¬ qSize v ≤ nI (j + 1) := by
  obtain ⟨a, b, c⟩ := q_size hS
  rw [a]
  exact nI_ge h (by omega)
theorem f_pos {v : ST} {M : Int} (hS : SI v M) (h : ¬ qSize v = 0) : 0 < cntN (qC v) 26 := by
  obtain ⟨a, b, c⟩ := q_size hS
  refine Nat.pos_of_ne_zero fun e => h ?_
  rw [a, e]; rfl
theorem f_last {v : ST} {M : Int} (hS : SI v M) (h : ¬ qSize v = 0) : qSize v - 1 = nI (cntN (qC v) 26 - 1) := by
  obtain ⟨a, b, c⟩ := q_size hS
  have p := f_pos hS h
  rw [a, show cntN (qC v) 26 = cntN (qC v) 26 - 1 + 1 by omega, nI_pred]
  congr 1
theorem f_ahd {f : Nat → Int32} {p q j : Nat} (hp : p < 26) (hq : q < 26) (h1 : posN f p 26 = j) (h2 : posN f q 26 = j + 1) : ahd f p q := by
  rcases ahd_tot (f := f) (a := p) (b := q) (fun e => by rw [e] at h1; omega) with k | k
  · exact k
  · have := (posN_mono hq hp k 26 (Nat.le_refl 26)).1
    omega
theorem f_loud1 {v : ST} {p q : Nat} (hp : ¬ qC v p ≤ 0) (hq : ¬ qC v q ≤ 0) (h : ahd (qC v) p q) (c : ¬ qEst v q < qEst v p) : qEst v p = qEst v q := by
  rw [f_estC hp, f_estC hq] at c ⊢
  rcases h with k | k
  · exact absurd k c
  · exact k.1
theorem f_loud2 {v : ST} {p q : Nat} (hp26 : p < 26) (hq26 : q < 26) (hp : ¬ qC v p ≤ 0) (hq : ¬ qC v q ≤ 0) (h : ahd (qC v) p q) (c : ¬ qEst v q < qEst v p) : ¬ nI q ≤ nI p := by
  rw [f_estC hp, f_estC hq] at c
  rcases h with k | k
  · exact absurd k c
  · exact nI_ge k.2 (by omega)
theorem ab_or {f g : Nat → Int32} {sh : Int32} : ∀ n, (∀ j, j < n → ¬ f j * 1000 ≤ sh → ¬ g j * 1000 ≤ sh) → abC f sh n ||| abC g sh n = abC g sh n
  | 0, _ => (by decide : (0 : Int32) ||| 0 = 0)
  | n + 1, h => by
    have ih := ab_or (f := f) (g := g) (sh := sh) n (fun j hj => h j (by omega))
    have ef : abC f sh (n + 1) = if f n * 1000 ≤ sh then abC f sh n else abC f sh n ||| ((1 : Int32) <<< (nI n &&& 31)) := rfl
    have eg : abC g sh (n + 1) = if g n * 1000 ≤ sh then abC g sh n else abC g sh n ||| ((1 : Int32) <<< (nI n &&& 31)) := rfl
    rw [ef, eg]
    by_cases c : f n * 1000 ≤ sh
    · rw [if_pos c]
      by_cases d : g n * 1000 ≤ sh
      · rw [if_pos d]; exact ih
      · rw [if_neg d, ← Int32.or_assoc, ih]
    · rw [if_neg c, if_neg (h n (by omega) c)]
      generalize (1 : Int32) <<< (nI n &&& 31) = z
      rw [show (abC f sh n ||| z) ||| (abC g sh n ||| z) = (abC f sh n ||| abC g sh n) ||| (z ||| z) by ac_rfl, ih, Int32.or_self]
theorem ab_and {x y : Int32} (h : x ||| y = y) : x &&& (y ^^^ -1) = 0 := by
  rw [← h]
  apply Int32.toBitVec_inj.mp
  apply BitVec.eq_of_getLsbD_eq
  intro i hi
  have m : (-1 : Int32).toBitVec = BitVec.allOnes 32 := by decide
  have z : (0 : Int32).toBitVec = 0#32 := by decide
  simp only [Int32.toBitVec_and, Int32.toBitVec_xor, Int32.toBitVec_or, m, z, BitVec.getLsbD_and, BitVec.getLsbD_xor, BitVec.getLsbD_or, BitVec.getLsbD_allOnes, BitVec.getLsbD_zero, hi, decide_true]
  cases x.toBitVec.getLsbD i <;> cases y.toBitVec.getLsbD i <;> rfl
theorem k_mul {x : Int32} (h0 : 0 ≤ x.toInt) (h1 : x.toInt ≤ 99999) : (x * 1000).toInt = x.toInt * 1000 := by
  have z : (1000 : Int32).toInt = 1000 := rfl
  rw [i32_mul (by rw [z]; omega) (by rw [z]; omega), z]
theorem f_abA {v : ST} {M : Int} {px : Int32} (hS : SI v M) (hM : M ≤ 99999) : abC (qSure v) (px * qSum v) 26 &&& (abC (qT v) (px * qSum v) 26 ^^^ -1) = 0 :=
  ab_and (ab_or 26 (fun j hj c => by
    have a := q_est hS hM hj
    rw [i_le, k_mul (by omega) (by omega)] at c ⊢
    omega))
theorem f_abB {v : ST} {M : Int} {px : Int32} (hS : SI v M) (hM : M ≤ 99999) : abC (qT v) (px * qSum v) 26 &&& (abC (qEst v) (px * qSum v) 26 ^^^ -1) = 0 :=
  ab_and (ab_or 26 (fun j hj c => by
    have a := q_est hS hM hj
    rw [i_le, k_mul (by omega) (by omega)] at c ⊢
    omega))
end PFACTS2
