section PSING
def rep (b : List Nat) : Nat → List Nat
  | 0 => []
  | j + 1 => rep b j ++ b
theorem rep_len (b : List Nat) : ∀ j, (rep b j).length = j * b.length
  | 0 => by show 0 = _; rw [Nat.zero_mul]
  | j + 1 => by
    show (rep b j ++ b).length = _
    rw [List.length_append, rep_len b j, Nat.succ_mul]
theorem rep_comm (b : List Nat) : ∀ j, b ++ rep b j = rep b (j + 1)
  | 0 => by show b ++ [] = [] ++ b; rw [List.append_nil, List.nil_append]
  | j + 1 => by
    show b ++ (rep b j ++ b) = rep b (j + 1) ++ b
    rw [← List.append_assoc, rep_comm b j]
theorem rep_mem {b : List Nat} {P : Nat → Prop} (h : ∀ x ∈ b, P x) : ∀ j, ∀ x ∈ rep b j, P x
  | 0, x, hx => absurd hx List.not_mem_nil
  | j + 1, x, hx => by
    rcases List.mem_append.mp (show x ∈ rep b j ++ b from hx) with k | k
    · exact rep_mem h j x k
    · exact h x k
/-- the calls of a song as a list: how often the parentheses count, where they began, the calls so far -/
def lsF (tx : Nat → Int32) : Nat → Nat × Nat × List Nat
  | 0 => (1, 0, [])
  | i + 1 => if chD (tx i) then lsF tx i else if tx i = 40 then ((rdF tx i).1.toNatClampNeg, (lsF tx i).2.2.length, (lsF tx i).2.2) else if tx i = 41 then ((lsF tx i).1, (lsF tx i).2.1, (lsF tx i).2.2 ++ rep ((lsF tx i).2.2.drop (lsF tx i).2.1) ((lsF tx i).1 - 1)) else if chN (tx i) then ((lsF tx i).1, (lsF tx i).2.1, (lsF tx i).2.2 ++ rep [(tx i - 97).toNatClampNeg] (mx1 (rdF tx i).1).toNatClampNeg) else lsF tx i
theorem lsF_D {tx : Nat → Int32} {i : Nat} (h : chD (tx i) = true) : lsF tx (i + 1) = lsF tx i := by
  rw [lsF, if_pos h]
theorem lsF_O {tx : Nat → Int32} {i : Nat} (h : tx i = 40) : lsF tx (i + 1) = ((rdF tx i).1.toNatClampNeg, (lsF tx i).2.2.length, (lsF tx i).2.2) := by
  rw [lsF, if_neg (by rw [h]; decide), if_pos h]
theorem lsF_C {tx : Nat → Int32} {i : Nat} (h : tx i = 41) : lsF tx (i + 1) = ((lsF tx i).1, (lsF tx i).2.1, (lsF tx i).2.2 ++ rep ((lsF tx i).2.2.drop (lsF tx i).2.1) ((lsF tx i).1 - 1)) := by
  rw [lsF, if_neg (by rw [h]; decide), if_neg (by rw [h]; decide), if_pos h]
theorem lsF_N {tx : Nat → Int32} {i : Nat} (h : chN (tx i) = true) : lsF tx (i + 1) = ((lsF tx i).1, (lsF tx i).2.1, (lsF tx i).2.2 ++ rep [(tx i - 97).toNatClampNeg] (mx1 (rdF tx i).1).toNatClampNeg) := by
  have m := chN_iff.mp h
  have hd : ¬ chD (tx i) = true := fun k => by rw [chD_iff] at k; omega
  have e40 : (40 : Int32).toInt = 40 := rfl
  have e41 : (41 : Int32).toInt = 41 := rfl
  rw [lsF, if_neg hd, if_neg (by rw [i_eq, e40]; omega), if_neg (by rw [i_eq, e41]; omega), if_pos h]
theorem lsF_dig {tx : Nat → Int32} {a : Nat} : ∀ d, (∀ k, a ≤ k → k < a + d → chD (tx k) = true) → lsF tx (a + d) = lsF tx a
  | 0, _ => rfl
  | d + 1, h => by
    show lsF tx (a + d + 1) = _
    rw [lsF_D (h (a + d) (by omega) (by omega)), lsF_dig d (fun k p1 p2 => h k p1 (by omega))]
theorem lsF_mono (tx : Nat → Int32) (i : Nat) : (lsF tx i).2.1 ≤ (lsF tx i).2.2.length ∧ (lsF tx i).2.2.length ≤ (lsF tx (i + 1)).2.2.length := by
  have step : ∀ i, (lsF tx i).2.2.length ≤ (lsF tx (i + 1)).2.2.length := by
    intro i
    rw [lsF]
    split
    · exact Nat.le_refl _
    · split
      · exact Nat.le_refl _
      · split
        · rw [List.length_append]; omega
        · split
          · rw [List.length_append]; omega
          · exact Nat.le_refl _
  refine ⟨?_, step i⟩
  induction i with
  | zero => exact Nat.le_refl 0
  | succ i ih =>
    by_cases c1 : chD (tx i) = true
    · rw [lsF_D c1]; exact ih
    by_cases c2 : tx i = 40
    · rw [lsF_O c2]; exact Nat.le_refl _
    by_cases c3 : tx i = 41
    · rw [lsF_C c3]
      dsimp only
      rw [List.length_append]; omega
    by_cases c4 : chN (tx i) = true
    · rw [lsF_N c4]
      dsimp only
      rw [List.length_append]; omega
    · rw [lsF, if_neg c1, if_neg c2, if_neg c3, if_neg c4]; exact ih
/-- a row that holds the list l -/
def holdsL (q : (Nat → Int32) × Nat) (l : List Nat) : Prop := q.2 = l.length ∧ ∀ k x, l[k]? = some x → q.1 k = nI x
theorem holdsL_s {q : (Nat → Int32) × Nat} {l : List Nat} {x : Nat} (h : holdsL q l) (hx : l.length < 1000) : holdsL (ufS q (nI x)) (l ++ [x]) := by
  unfold ufS
  rw [if_pos (by rw [h.1]; exact hx)]
  refine ⟨by show q.2 + 1 = (l ++ [x]).length; rw [h.1, List.length_append]; rfl, fun k y hk => ?_⟩
  show (if k = q.2 then nI x else q.1 k) = nI y
  rw [h.1]
  rw [List.getElem?_append] at hk
  by_cases e : k < l.length
  · rw [if_pos e] at hk
    rw [if_neg (by omega)]
    exact h.2 k y hk
  · rw [if_neg e] at hk
    by_cases e2 : k = l.length
    · rw [e2, Nat.sub_self] at hk
      rw [if_pos e2]
      have : x = y := Option.some.inj hk
      rw [this]
    · have : k - l.length = (k - l.length - 1) + 1 := by omega
      rw [this] at hk
      simp at hk
theorem holdsL_c {q : (Nat → Int32) × Nat} {l : List Nat} {x : Nat} (h : holdsL q l) : ∀ j, l.length + j ≤ 1000 → holdsL (ucN q (nI x) j) (l ++ rep [x] j)
  | 0, _ => by
    show holdsL q (l ++ [])
    rw [List.append_nil]; exact h
  | j + 1, hj => by
    have ih := holdsL_c (x := x) h j (by omega)
    have := holdsL_s (x := x) ih (by rw [List.length_append, rep_len]; simp; omega)
    rw [List.append_assoc] at this
    exact this
theorem holdsL_i {q : (Nat → Int32) × Nat} {c b : List Nat} {st : Nat} (hq : holdsL q c) (hc : ∀ k, k < b.length → c[st + k]? = b[k]?) : ∀ j, j ≤ b.length → c.length + j ≤ 1000 → holdsL (rpI q st j) (c ++ b.take j)
  | 0, _, _ => by
    show holdsL q _
    rw [List.take_zero, List.append_nil]; exact hq
  | j + 1, hj, hm => by
    have ih := holdsL_i hq hc j (by omega) (by omega)
    have h1 := hc j (by omega)
    have h2 : b[j]? = some (b[j]'(by omega)) := List.getElem?_eq_getElem (by omega)
    generalize b[j]'(by omega) = y at h2
    rw [h2] at h1
    have h3 : st + j < c.length := by
      rcases Nat.lt_or_ge (st + j) c.length with k | k
      · exact k
      · rw [List.getElem?_eq_none k] at h1; cases h1
    have e : (rpI q st j).1 (st + j) = nI y := by
      refine ih.2 (st + j) y ?_
      rw [List.getElem?_append, if_pos h3]
      exact h1
    have := holdsL_s (x := y) ih (by rw [List.length_append, List.length_take]; omega)
    rw [List.append_assoc] at this
    have e2 : b.take (j + 1) = b.take j ++ [y] := by
      rw [List.take_succ, h2]; rfl
    show holdsL (ufS (rpI q st j) ((rpI q st j).1 (st + j))) _
    rw [e, e2]; exact this
theorem holdsL_o {q : (Nat → Int32) × Nat} {l b : List Nat} (h : holdsL q (l ++ b)) : ∀ j, l.length + b.length + j * b.length ≤ 1000 → holdsL (rpO q l.length b.length j) (l ++ b ++ rep b j)
  | 0, _ => by
    show holdsL q (l ++ b ++ [])
    rw [List.append_nil]; exact h
  | j + 1, hm => by
    rw [Nat.succ_mul] at hm
    have ih := holdsL_o h j (by omega)
    have g : ∀ k, k < b.length → (l ++ b ++ rep b j)[l.length + k]? = b[k]? := fun k hk => by
      rw [List.append_assoc, List.getElem?_append, if_neg (by omega), Nat.add_sub_cancel_left, List.getElem?_append, if_pos hk]
    have := holdsL_i (b := b) (st := l.length) ih g b.length (Nat.le_refl _) (by rw [List.length_append, List.length_append, rep_len]; omega)
    rw [List.take_length, List.append_assoc (l ++ b)] at this
    exact this
/-- what the class writes down is the list -/
theorem ufLem (tx un : Nat → Int32) : ∀ i, (lsF tx i).2.2.length ≤ 1000 → (ufF tx un i).1 = (lsF tx i).1 ∧ (ufF tx un i).2.1 = (lsF tx i).2.1 ∧ holdsL (ufF tx un i).2.2 (lsF tx i).2.2
  | 0, _ => ⟨rfl, rfl, rfl, fun k x h => by simp [lsF] at h⟩
  | i + 1, hl => by
    have mono := lsF_mono tx i
    obtain ⟨h1, h2, h3⟩ := ufLem tx un i (by omega)
    by_cases c1 : chD (tx i) = true
    · rw [lsF_D c1, ufF, if_pos c1]
      exact ⟨h1, h2, h3⟩
    by_cases c2 : tx i = 40
    · rw [lsF_O c2, ufF, if_neg c1, if_pos c2]
      exact ⟨rfl, h3.1, h3⟩
    by_cases c3 : tx i = 41
    · rw [lsF_C c3] at hl ⊢
      rw [ufF, if_neg c1, if_neg c2, if_pos c3]
      refine ⟨h1, h2, ?_⟩
      dsimp only at hl ⊢
      rw [h1, h2, h3.1]
      generalize (lsF tx i).2.2 = l at *
      generalize (lsF tx i).2.1 = st at *
      generalize (lsF tx i).1 - 1 = j at *
      have e : l.take st ++ l.drop st = l := List.take_append_drop st l
      have e1 : (l.take st).length = st := by rw [List.length_take]; omega
      have e2 : (l.drop st).length = l.length - st := List.length_drop
      rw [List.length_append, rep_len, e2] at hl
      have := holdsL_o (q := (ufF tx un i).2.2) (l := l.take st) (b := l.drop st) (by rw [e]; exact h3) j (by rw [e1, e2]; omega)
      rw [e, e1, e2] at this
      exact this
    by_cases c4 : chN (tx i) = true
    · rw [lsF_N c4] at hl ⊢
      rw [ufF, if_neg c1, if_neg c2, if_neg c3, if_pos c4]
      refine ⟨h1, h2, ?_⟩
      dsimp only at hl ⊢
      have m := chN_iff.mp c4
      have e97 : (97 : Int32).toInt = 97 := rfl
      have e : tx i - 97 = nI (tx i - 97).toNatClampNeg := by
        obtain ⟨j, hj, ej⟩ := nI_of (x := tx i - 97) (by rw [i_lt, i32_sub (by omega) (by omega), e97]; show ¬ _ < (0 : Int); omega)
        rw [ej, nI_clamp hj]
      rw [List.length_append, rep_len] at hl
      have := holdsL_c (x := (tx i - 97).toNatClampNeg) h3 (mx1 (rdF tx i).1).toNatClampNeg (by simp at hl; omega)
      rw [← e] at this
      exact this
    · rw [lsF, ufF, if_neg c1, if_neg c2, if_neg c3, if_neg c4, if_neg c1, if_neg c2, if_neg c3, if_neg c4] at *
      exact ⟨h1, h2, h3⟩
/-- the reference's singing goes from one place to another -/
def Rch (tx : Nat → Int32) (tn : Nat) (ag : Int32) (bk a : Nat) (al : Nat → Int32) (ti pp : Int32) (ag' : Int32) (bk' a' : Nat) (al' : Nat → Int32) (ti' pp' : Int32) : Prop := ∃ m, ∀ n, sgX tx tn (n + m) ag bk a al ti pp = sgX tx tn n ag' bk' a' al' ti' pp'
theorem Rch.refl {tx : Nat → Int32} {tn : Nat} {ag : Int32} {bk a : Nat} {al : Nat → Int32} {ti pp : Int32} : Rch tx tn ag bk a al ti pp ag bk a al ti pp := ⟨0, fun _ => rfl⟩
theorem Rch.trans {tx : Nat → Int32} {tn : Nat} {ag ag' ag2 : Int32} {bk a bk' a' bk2 a2 : Nat} {al al' al2 : Nat → Int32} {ti pp ti' pp' ti2 pp2 : Int32} (h1 : Rch tx tn ag bk a al ti pp ag' bk' a' al' ti' pp') (h2 : Rch tx tn ag' bk' a' al' ti' pp' ag2 bk2 a2 al2 ti2 pp2) : Rch tx tn ag bk a al ti pp ag2 bk2 a2 al2 ti2 pp2 := by
  obtain ⟨m1, e1⟩ := h1
  obtain ⟨m2, e2⟩ := h2
  exact ⟨m2 + m1, fun n => by rw [← Nat.add_assoc, e1, e2]⟩
theorem heR_rep (al : Nat → Int32) (p : Nat) : ∀ k, heR al p k = (rep [p] k).foldl heM al
  | 0 => rfl
  | k + 1 => by
    show heM (heR al p k) p = (rep [p] k ++ [p]).foldl heM al
    rw [heR_rep al p k, List.foldl_append]
    rfl
/-- a phrase of a song, what it does to the list and to the singing -/
theorem phV {tx : Nat → Int32} {tn a : Nat} (htn : tn ≤ 60) (hall : ∀ k, k < tn → rdA tx k = true) (hend : (rdF tx tn).1 = 0) (ha : a < tn) {ti ca : Int32} {ip hp ob : Bool} (h : rdF tx a = (0, ti, ip, hp, ca)) (hob : ob = !ip) (hx : ip = true → ¬ tx a = 41) :
    (∃ (b t p : Nat), a ≤ b ∧ b < tn ∧ p < 26 ∧ 1 ≤ t ∧ t ≤ 99 ∧ rpK tx tn a ob = (true, b + 1, nI t, nI p) ∧ rdF tx (b + 1) = (0, ti, ip, true, ca + ti * nI t) ∧ lsF tx (b + 1) = ((lsF tx a).1, (lsF tx a).2.1, (lsF tx a).2.2 ++ rep [p] t)) ∨
    (ip = false ∧ ∃ (b t : Nat), a ≤ b ∧ b < tn ∧ 2 ≤ t ∧ t ≤ 99 ∧ rpK tx tn a ob = (true, b + 1, nI t, -1) ∧ rdF tx (b + 1) = (0, nI t, true, false, ca) ∧ lsF tx (b + 1) = (t, (lsF tx a).2.2.length, (lsF tx a).2.2)) := by
  have dig : ∀ b, a ≤ b → (∀ k, a ≤ k → k < b → rdA tx k = true ∧ chD (tx k) = true) → lsF tx b = lsF tx a := fun b hb hk => by
    have := lsF_dig (tx := tx) (a := a) (b - a) (fun k p1 p2 => (hk k p1 (by omega)).2)
    rw [show a + (b - a) = b by omega] at this
    exact this
  rcases phLem htn (Nat.le_of_lt ha) (ob := ob) h hob (fun k _ _ => hx k) with ⟨e, t', g1, g2, g3, g4, g5⟩ | ⟨b, nu, g1, g2, g3, g4, g5, g6, g7, g8, g9, g10⟩ | ⟨g0, b, nu, g1, g2, g3, g4, g5, g6, g7, g8, g9, g10⟩
  · exfalso
    rcases g5 with g5 | g5 | g5
    · rw [hall e g5.1] at g5; exact absurd g5.2 (by decide)
    · omega
    · exact g5.2 hend
  · obtain ⟨t, ht, et⟩ := nI_of (x := mx1 nu) (by rw [i_lt]; show ¬ _ < (0 : Int); omega)
    rw [et, nI_toInt ht] at g9 g10
    have m := chN_iff.mp g6
    have e97 : (97 : Int32).toInt = 97 := rfl
    have es : (tx b - 97).toInt = (tx b).toInt - 97 := by rw [i32_sub (by omega) (by omega), e97]
    obtain ⟨p, hp, ep⟩ := nI_of (x := tx b - 97) (by rw [i_lt, es]; show ¬ _ < (0 : Int); omega)
    have hp26 : p < 26 := by
      have : (tx b - 97).toInt = p := by rw [ep, nI_toInt hp]
      omega
    refine Or.inl ⟨b, t, p, g1, g2, hp26, by omega, by omega, by rw [g3, et, ep], by rw [g8, et], ?_⟩
    rw [lsF_N g6, dig b g1 g4, g7]
    dsimp only
    rw [et, ep, nI_clamp hp, nI_clamp ht]
  · obtain ⟨t, ht, et⟩ := nI_of (x := nu) (by rw [i_lt]; show ¬ _ < (0 : Int); omega)
    rw [et, nI_toInt ht] at g9 g10
    refine Or.inr ⟨g0, b, t, g1, g2, by omega, by omega, by rw [g3, et], by rw [g8, et], ?_⟩
    rw [lsF_O g6, dig b g1 g4, g7]
    dsimp only
    rw [et, nI_clamp ht]
theorem sg_name {tx : Nat → Int32} {tn a b t p : Nat} (htn : tn ≤ 60) (ha : a < tn) (hp : p < 26) (ht : t ≤ 99) {ag : Int32} (hr : rpK tx tn a (decide (ag = 0)) = (true, b + 1, nI t, nI p)) (hno : ¬ ag ≤ 0 → ¬ tx a = 41) (bk : Nat) (al : Nat → Int32) (ti pp : Int32) : Rch tx tn ag bk a al ti pp ag bk (b + 1) ((rep [p] t).foldl heM al) (nI t) (nI p) := by
  refine ⟨1, fun n => ?_⟩
  rw [sgX, if_neg (nI_ge ha (by omega))]
  have c : ¬ (if ag ≤ 0 then false else hrB tx tn a 41 41) = true := by
    by_cases k : ag ≤ 0
    · rw [if_pos k]; decide
    · rw [if_neg k, hrC (by omega) (by omega)]
      exact fun k2 => hno k k2.2
  rw [if_neg c, hr]
  dsimp only
  rw [if_neg (nI_ne1 (by omega)), nI_clamp (by omega), nI_clamp (by omega), heR_rep]
/-- inside parentheses, up to their end -/
theorem inLem {tx : Nat → Int32} {tn : Nat} (htn : tn ≤ 60) (hall : ∀ k, k < tn → rdA tx k = true) {CA : Int32} (hend : rdF tx tn = (0, 1, false, true, CA)) : ∀ n a, tn - a ≤ n → a ≤ tn → ∀ (T ca : Int32) (hp : Bool), rdF tx a = (0, T, true, hp, ca) → ∃ z J, a ≤ z ∧ z < tn ∧ tx z = 41 ∧ rdF tx z = (0, T, true, true, ca + T * nI J.length) ∧ lsF tx z = ((lsF tx a).1, (lsF tx a).2.1, (lsF tx a).2.2 ++ J) ∧ (∀ x ∈ J, x < 26) ∧ J.length ≤ 99 * (z - a) ∧ ∀ (ag : Int32) (bk : Nat) (al : Nat → Int32) (ti pp : Int32), ¬ ag ≤ 0 → ∃ ti' pp', Rch tx tn ag bk a al ti pp ag bk z (J.foldl heM al) ti' pp' := by
  intro n
  induction n with
  | zero =>
    intro a h1 h2 T ca hp hrd
    have e : a = tn := by omega
    rw [e, hend] at hrd
    have := congrArg (fun q => q.2.2.1) hrd
    exact absurd (show false = true from this) (by decide)
  | succ n ih =>
    intro a h1 h2 T ca hp hrd
    by_cases ha : a = tn
    · rw [ha, hend] at hrd
      have := congrArg (fun q => q.2.2.1) hrd
      exact absurd (show false = true from this) (by decide)
    have ha' : a < tn := by omega
    by_cases hc : tx a = 41
    · have hk := hall a ha'
      rw [(rdF_C hrd hc).1] at hk
      have hp1 : hp = true := hk
      refine ⟨a, [], Nat.le_refl a, ha', hc, ?_, ?_, fun x hx => absurd hx List.not_mem_nil, Nat.zero_le _, fun ag bk al ti pp _ => ⟨ti, pp, Rch.refl⟩⟩
      · rw [hrd, hp1]
        show _ = ((0 : Int32), T, true, true, ca + T * nI 0)
        rw [nI_0, Int32.mul_zero, Int32.add_zero]
      · rw [List.append_nil]
    · rcases phV htn hall (by rw [hend]) ha' (ob := false) hrd rfl (fun _ => hc) with ⟨b, t, p, g1, g2, g3, g4, g5, g6, g7, g8⟩ | ⟨g0, _⟩
      · obtain ⟨z, J, i1, i2, i3, i4, i5, i6, i7, i8⟩ := ih (b + 1) (by omega) (by omega) T (ca + T * nI t) true g7
        have hlen : (rep [p] t ++ J).length = t + J.length := by
          rw [List.length_append, rep_len]; simp
        refine ⟨z, rep [p] t ++ J, by omega, i2, i3, ?_, ?_, fun x hx => ?_, ?_, fun ag bk al ti pp hag => ?_⟩
        · rw [i4, hlen, ← nI_add]
          have : ca + T * nI t + T * nI J.length = ca + T * (nI t + nI J.length) := by grind
          rw [this]
        · rw [i5, g8]
          dsimp only
          rw [List.append_assoc]
        · rcases List.mem_append.mp hx with k | k
          · exact rep_mem (P := fun x => x < 26) (fun y hy => by rw [List.mem_singleton.mp hy]; exact g3) t x k
          · exact i6 x k
        · rw [hlen]; omega
        · obtain ⟨ti', pp', r⟩ := i8 ag bk ((rep [p] t).foldl heM al) (nI t) (nI p) hag
          have hz : decide (ag = 0) = false := decide_eq_false (fun k => hag (by rw [k]; exact Int32.le_refl 0))
          refine ⟨ti', pp', Rch.trans (sg_name htn ha' g3 g5 (by rw [hz]; exact g6) (fun _ => hc) bk al ti pp) ?_⟩
          rw [List.foldl_append]
          exact r
      · exact absurd g0 (by decide)
theorem passLem {tx : Nat → Int32} {tn z bk : Nat} {J : List Nat} (htn : tn ≤ 60) (hz : z < tn) (hc : tx z = 41) (run : ∀ (ag : Int32) (al : Nat → Int32) (ti pp : Int32), ¬ ag ≤ 0 → ∃ ti' pp', Rch tx tn ag bk bk al ti pp ag bk z (J.foldl heM al) ti' pp') : ∀ (g : Nat), g < 1000 → ∀ (al : Nat → Int32) (ti pp : Int32), ∃ ti' pp', Rch tx tn (nI (g + 1)) bk z al ti pp 0 bk (z + 1) ((rep J g).foldl heM al) ti' pp'
  | 0, _, al, ti, pp => by
    refine ⟨ti, pp, 1, fun n => ?_⟩
    rw [sgX, if_neg (nI_ge hz (by omega))]
    rw [if_neg (nI_nle (n := 0 + 1) (by omega) (by omega)), if_pos ((hrC (by omega) (by omega)).mpr ⟨hz, hc⟩), pk_m1, if_pos (by decide)]
    rfl
  | g + 1, hg, al, ti, pp => by
    obtain ⟨t1, p1, r1⟩ := run (nI (g + 1)) al ti pp (nI_nle (by omega) (by omega))
    obtain ⟨t2, p2, r2⟩ := passLem htn hz hc run g (by omega) (J.foldl heM al) t1 p1
    refine ⟨t2, p2, Rch.trans ⟨1, fun n => ?_⟩ (Rch.trans r1 ?_)⟩
    · rw [sgX, if_neg (nI_ge hz (by omega))]
      rw [if_neg (nI_nle (n := g + 1 + 1) (by omega) (by omega)), if_pos ((hrC (by omega) (by omega)).mpr ⟨hz, hc⟩), pk_m1, if_neg (nI_nle (by omega) (by omega))]
    · rw [← rep_comm, List.foldl_append]
      exact r2
/-- outside parentheses, up to the end of the song -/
theorem outLem {tx : Nat → Int32} {tn : Nat} (htn : tn ≤ 60) (hall : ∀ k, k < tn → rdA tx k = true) {CA : Int32} (hend : rdF tx tn = (0, 1, false, true, CA)) : ∀ n a, tn - a ≤ n → a ≤ tn → ∀ (hp : Bool), rdF tx a = (0, 1, false, hp, nI (lsF tx a).2.2.length) → (lsF tx a).2.2.length ≤ 9801 * a → (∀ x ∈ (lsF tx a).2.2, x < 26) → (CA = nI (lsF tx tn).2.2.length ∧ (lsF tx tn).2.2.length ≤ 9801 * tn ∧ (∀ x ∈ (lsF tx tn).2.2, x < 26) ∧ ∃ J, (lsF tx tn).2.2 = (lsF tx a).2.2 ++ J ∧ ∀ (bk : Nat) (al : Nat → Int32) (ti pp : Int32), ∃ bk' ti' pp', Rch tx tn 0 bk a al ti pp 0 bk' tn (J.foldl heM al) ti' pp') := by
  have base : ∀ a, a = tn → ∀ (hp : Bool), rdF tx a = (0, 1, false, hp, nI (lsF tx a).2.2.length) → (lsF tx a).2.2.length ≤ 9801 * a → (∀ x ∈ (lsF tx a).2.2, x < 26) → (CA = nI (lsF tx tn).2.2.length ∧ (lsF tx tn).2.2.length ≤ 9801 * tn ∧ (∀ x ∈ (lsF tx tn).2.2, x < 26) ∧ ∃ J, (lsF tx tn).2.2 = (lsF tx a).2.2 ++ J ∧ ∀ (bk : Nat) (al : Nat → Int32) (ti pp : Int32), ∃ bk' ti' pp', Rch tx tn 0 bk a al ti pp 0 bk' tn (J.foldl heM al) ti' pp') := by
    intro a e hp hrd h3 h4
    subst e
    rw [hend] at hrd
    have := congrArg (fun q => q.2.2.2.2) hrd
    exact ⟨this, h3, h4, [], by rw [List.append_nil], fun bk al ti pp => ⟨bk, ti, pp, Rch.refl⟩⟩
  intro n
  induction n with
  | zero => intro a h1 h2 hp hrd h3 h4; exact base a (by omega) hp hrd h3 h4
  | succ n ih =>
    intro a h1 h2 hp hrd h3 h4
    by_cases ha : a = tn
    · exact base a ha hp hrd h3 h4
    have ha' : a < tn := by omega
    have z0 : decide ((0 : Int32) = 0) = true := by decide
    rcases phV htn hall (by rw [hend]) ha' (ob := true) hrd rfl (fun k => absurd k (by decide)) with ⟨b, t, p, g1, g2, g3, g4, g5, g6, g7, g8⟩ | ⟨_, b, t, g1, g2, g4, g5, g6, g7, g8⟩
    · have hl : (lsF tx (b + 1)).2.2 = (lsF tx a).2.2 ++ rep [p] t := by rw [g8]
      have hlen : (lsF tx (b + 1)).2.2.length = (lsF tx a).2.2.length + t := by
        rw [hl, List.length_append, rep_len]; simp
      obtain ⟨i1, i2, i3, J, i4, i5⟩ := ih (b + 1) (by omega) (by omega) true (by
        rw [g7, hlen, ← nI_add, Int32.one_mul]) (by rw [hlen]; omega) (fun x hx => by
        rw [hl] at hx
        rcases List.mem_append.mp hx with k | k
        · exact h4 x k
        · exact rep_mem (P := fun x => x < 26) (fun y hy => by rw [List.mem_singleton.mp hy]; exact g3) t x k)
      refine ⟨i1, i2, i3, rep [p] t ++ J, by rw [i4, hl, List.append_assoc], fun bk al ti pp => ?_⟩
      obtain ⟨bk', ti', pp', r⟩ := i5 bk ((rep [p] t).foldl heM al) (nI t) (nI p)
      refine ⟨bk', ti', pp', Rch.trans (sg_name htn ha' g3 g5 (by rw [z0]; exact g6) (fun k => absurd (Int32.le_refl 0) k) bk al ti pp) ?_⟩
      rw [List.foldl_append]
      exact r
    · obtain ⟨z, J, j1, j2, j3, j4, j5, j6, j7, j8⟩ := inLem htn hall hend (tn - (b + 1)) (b + 1) (Nat.le_refl _) (by omega) _ _ _ g7
      rw [g8] at j5
      dsimp only at j5
      have hl : (lsF tx (z + 1)).2.2 = (lsF tx a).2.2 ++ (J ++ rep J (t - 1)) := by
        rw [lsF_C j3, j5]
        dsimp only
        rw [List.drop_left, List.append_assoc]
      have hlen : (lsF tx (z + 1)).2.2.length = (lsF tx a).2.2.length + t * J.length := by
        rw [hl, List.length_append, List.length_append, rep_len]
        have : t * J.length = (t - 1) * J.length + J.length := by
          rw [← Nat.succ_mul]; congr 1; omega
        omega
      have hrd2 : rdF tx (z + 1) = (0, 1, false, true, nI (lsF tx (z + 1)).2.2.length) := by
        rw [(rdF_C j4 j3).2, hlen, ← nI_add, ← pk_mul]
        rfl
      have hb : t * J.length ≤ 9801 * (z - b) := by
        have a1 : t * J.length ≤ 99 * (99 * (z - (b + 1))) := Nat.mul_le_mul (by omega) j7
        omega
      obtain ⟨i1, i2, i3, K, i4, i5⟩ := ih (z + 1) (by omega) (by omega) true hrd2 (by rw [hlen]; omega) (fun x hx => by
        rw [hl] at hx
        rcases List.mem_append.mp hx with k | k
        · exact h4 x k
        · rcases List.mem_append.mp k with k | k
          · exact j6 x k
          · exact rep_mem (P := fun x => x < 26) j6 (t - 1) x k)
      refine ⟨i1, i2, i3, J ++ rep J (t - 1) ++ K, by rw [i4, hl, List.append_assoc], fun bk al ti pp => ?_⟩
      obtain ⟨t1, p1, r1⟩ := j8 (nI t) (b + 1) al (nI t) (-1) (nI_nle (by omega) (by omega))
      obtain ⟨t2, p2, r2⟩ := passLem (J := J) htn j2 j3 (fun ag al ti pp hag => j8 ag (b + 1) al ti pp hag) (t - 1) (by omega) (J.foldl heM al) t1 p1
      rw [show t - 1 + 1 = t by omega] at r2
      obtain ⟨bk', t3, p3, r3⟩ := i5 (b + 1) ((rep J (t - 1)).foldl heM (J.foldl heM al)) t2 p2
      refine ⟨bk', t3, p3, Rch.trans ⟨1, fun n => ?_⟩ (Rch.trans r1 (Rch.trans r2 ?_))⟩
      · rw [sgX, if_neg (nI_ge ha' (by omega))]
        rw [if_pos (Int32.le_refl 0), if_neg (by decide), z0, g6]
        dsimp only
        rw [if_pos rfl]
      · rw [List.foldl_append, List.foldl_append]
        exact r3
/-- the song is sung: the same calls on both sides -/
theorem singLem {tx : Nat → Int32} {tn : Nat} (htn : tn ≤ 60) (hall : ∀ k, k < tn → rdA tx k = true) {CA : Int32} (hend : rdF tx tn = (0, 1, false, true, CA)) : CA = nI (lsF tx tn).2.2.length ∧ (lsF tx tn).2.2.length ≤ 600000 ∧ (∀ x ∈ (lsF tx tn).2.2, x < 26) ∧ ∀ (al : Nat → Int32) (ti pp : Int32), ∃ N SS, sgX tx tn N 0 0 0 al ti pp = some SS ∧ SS.1 = (lsF tx tn).2.2.foldl heM al := by
  obtain ⟨h1, h2, h3, J, h4, h5⟩ := outLem htn hall hend tn 0 (by omega) (Nat.zero_le tn) false rfl (Nat.le_refl 0) (fun x hx => absurd hx List.not_mem_nil)
  refine ⟨h1, by omega, h3, fun al ti pp => ?_⟩
  obtain ⟨bk', ti', pp', m, r⟩ := h5 0 al ti pp
  refine ⟨1 + m, (J.foldl heM al, tn, ti', pp'), ?_, ?_⟩
  · rw [r 1, sgX, if_pos (Int32.le_refl _)]
  · rw [h4]
    rfl
/-- a list of calls is heard on both sides -/
theorem tkFold {L K : LV} {rm wr arm awr : Int32} {via : Bool} {cq : Nat} {al q : Nat → Int32} {l : List Nat} (hs : SR (L, rm, wr, K, arm, awr, via, cq) al) (hl : ∀ x ∈ l, x < 26) (hq : ∀ k x, l[k]? = some x → q k = nI x) (hsm : smI (rwF al 0) 26 + l.length ≤ 99999) : ∀ n, n ≤ l.length → SR (tkI rm wr L q n, rm, wr, K, arm, awr, via, cq) ((l.take n).foldl heM al) ∧ smI (rwF ((l.take n).foldl heM al) 0) 26 = smI (rwF al 0) 26 + n
  | 0, _ => ⟨hs, by show smI (rwF al 0) 26 = _; omega⟩
  | n + 1, hn => by
    obtain ⟨i1, i2⟩ := tkFold hs hl hq hsm n (by omega)
    have h2 : l[n]? = some (l[n]'(by omega)) := List.getElem?_eq_getElem (by omega)
    have h26 := hl _ (List.mem_of_getElem? h2)
    generalize l[n]'(by omega) = y at h2 h26
    have e2 : l.take (n + 1) = l.take n ++ [y] := by
      rw [List.take_succ, h2]; rfl
    rw [e2, List.foldl_append]
    have := SR_take h26 i1 (by rw [i2]; omega)
    rw [i2] at this
    refine ⟨?_, ?_⟩
    · show SR (tkL rm wr (tkI rm wr L q n) (q n).toNatClampNeg, rm, wr, K, arm, awr, via, cq) (heM _ y)
      rw [hq n y h2, nI_clamp (by omega)]
      exact this.1
    · show smI (rwF (heM _ y) 0) 26 = _
      rw [this.2]
      omega
end PSING
