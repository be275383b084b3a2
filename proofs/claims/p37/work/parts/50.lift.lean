section PLIFT
theorem va_P_perm {D : va_G} {cl : List vw_C} {ws ws' : va_W} {H : Heap} (hp : ws.Perm ws') (h : va_P D cl ws H) : va_P D cl ws' H := by
  intro k q hk
  have hm := (hp.mem_iff (a := q)).mpr (List.mem_of_getElem? hk)
  obtain ⟨j, hj⟩ := List.getElem?_of_mem hm
  exact h j q hj
theorem va_D_pw {A : Nat → Prop} {ws : va_W} : va_D A ws ↔ ws.Pairwise (fun p q => p.1 ≠ q.1) ∧ ∀ q ∈ ws, A q.1 := by
  constructor
  · intro h
    refine ⟨List.pairwise_iff_getElem.mpr (fun i j hi hj hij e => ?_), fun q hq => ?_⟩
    · have := h.1 i j ws[i] ws[j] (List.getElem?_eq_getElem hi) (List.getElem?_eq_getElem hj) e
      omega
    · obtain ⟨k, hk⟩ := List.getElem?_of_mem hq
      exact h.2 k q hk
  · intro h
    refine ⟨fun i j p q hi hj e => ?_, fun k q hk => h.2 q (List.mem_of_getElem? hk)⟩
    have h1 := List.pairwise_iff_getElem.mp h.1
    obtain ⟨hi1, hi2⟩ := List.getElem?_eq_some_iff.mp hi
    obtain ⟨hj1, hj2⟩ := List.getElem?_eq_some_iff.mp hj
    rcases Nat.lt_trichotomy i j with k | k | k
    · exact absurd (by rw [hi2, hj2]; exact e) (h1 i j hi1 hj1 k)
    · exact k
    · exact absurd (by rw [hi2, hj2]; exact e.symm) (h1 j i hj1 hi1 k)
theorem va_D_perm {A : Nat → Prop} {ws ws' : va_W} (hp : ws.Perm ws') (h : va_D A ws) : va_D A ws' := by
  obtain ⟨h1, h2⟩ := va_D_pw.mp h
  exact va_D_pw.mpr ⟨hp.pairwise h1 (fun h => Ne.symm h), fun q hq => h2 q (hp.mem_iff.mpr hq)⟩
theorem va_A_sub {w w1 wr : va_W} {sz : Nat} (hp : w1.Perm (w ++ wr)) : ∀ q, va_A w sz q → va_A w1 sz q := by
  intro q h
  rcases h with ⟨k, e, h⟩ | h
  · have hm : (q, e) ∈ w1 := hp.mem_iff.mpr (List.mem_append_left _ (List.mem_of_getElem? h))
    obtain ⟨j, hj⟩ := List.getElem?_of_mem hm
    exact Or.inl ⟨j, e, hj⟩
  · exact Or.inr h
theorem kM.perm {l : Launch} {D : va_G} {T : Nat → ClassId} {y : MethodName} {ws : List Cond} {rm : Room} {av : List Value} {w w' wr w1 w1' : va_W} {o : Option Value} (h : kM l D T y ws rm av w o w') (p1 : w1.Perm (w ++ wr)) (p2 : (w' ++ wr).Perm w1') : kM l D T y ws rm av w1 o w1' := by
  intro sz p e ha hc hk s m args below hf happ hP hK
  obtain ⟨hav, hsz, hPw, hC, hD⟩ := hP
  have hP2 := va_P_perm p1 hPw
  have hD2 := va_D_perm p1 hD
  obtain ⟨hl1, hl2⟩ := kLeft hP2 hD2
  obtain ⟨n, oc, h1, h2, h3, ⟨hq1, hq2, hq3, hq4⟩, L, hF, hL⟩ := h sz p e ha hc hk s m args below hf happ ⟨hav, hsz, hl1, hC, hl2⟩ hK
  subst hsz
  have hsub : ∀ q, va_A w s.heap.size q → va_A w1 s.heap.size q := va_A_sub p1
  obtain ⟨j1, j2⟩ := kJoin (A := va_A w1 s.heap.size) hP2 (va_D_perm p1 hD.self) hq4.2 hsub hq2 hq3
  exact ⟨n, oc, h1, h2, h3, ⟨hq1, va_P_perm p2 j1, va_D_perm p2 j2, hq4.1, fun q a b => hq4.2 q a (fun c => b (hsub q c))⟩, L, hF, fun q hq => hsub _ (hL q hq)⟩
theorem kEM.perm {l : Launch} {D : va_G} {T : Nat → ClassId} {y : MethodName} {ws : List Cond} {rm : Room} {av : List Value} {w w' wr w1 w1' : va_W} {o : Option Value} (h : kEM l D T y ws rm av w o w') (p1 : w1.Perm (w ++ wr)) (p2 : (w' ++ wr).Perm w1') : kEM l D T y ws rm av w1 o w1' := by
  intro sz p e ha hc hk s m args below hf happ hP hK
  obtain ⟨hav, hsz, hPw, hC, hD, hE⟩ := hP
  have hP2 := va_P_perm p1 hPw
  have hD2 := va_D_perm p1 hD
  obtain ⟨hl1, hl2⟩ := kLeft hP2 hD2
  obtain ⟨n, oc, h1, h2, h3, ⟨hq1, hq2, hq3, hq4⟩, L, hF, hL⟩ := h sz p e ha hc hk s m args below hf happ ⟨hav, hsz, hl1, hC, hl2, hE.narrow (va_A_sub p1)⟩ hK
  subst hsz
  have hsub : ∀ q, va_A w s.heap.size q → va_A w1 s.heap.size q := va_A_sub p1
  obtain ⟨j1, j2⟩ := kJoin (A := va_A w1 s.heap.size) hP2 (va_D_perm p1 hD.self) hq4.2 hsub hq2 hq3
  exact ⟨n, oc, h1, h2, h3, ⟨hq1, va_P_perm p2 j1, va_D_perm p2 j2, hq4.1, fun q a b => hq4.2 q a (fun c => b (hsub q c))⟩, L, hF, fun q hq => hsub _ (hL q hq)⟩
theorem kXM.perm {l : Launch} {D : va_G} {T : Nat → ClassId} {y : MethodName} {ws : List Cond} {rm : Room} {av : List Value} {w w' wr w1 w1' : va_W} {o : String} (h : kXM l D T y ws rm av w o w') (p1 : w1.Perm (w ++ wr)) (p2 : (w' ++ wr).Perm w1') : kXM l D T y ws rm av w1 o w1' := by
  intro sz p e ha hc hk s m args below hf happ hP hK
  obtain ⟨hav, hsz, hPw, hC, hD, hXX, hZ⟩ := hP
  have hP2 := va_P_perm p1 hPw
  have hD2 := va_D_perm p1 hD
  obtain ⟨hl1, hl2⟩ := kLeft hP2 hD2
  obtain ⟨n, oc, h1, h2, h3, h4⟩ := h sz p e ha hc hk s m args below hf happ ⟨hav, hsz, hl1, hC, hl2, hXX, hZ.narrow (va_A_sub p1)⟩ hK
  refine ⟨n, oc, h1, h2, h3, ?_⟩
  rcases h4 with ⟨k, _⟩ | ⟨q, hq, E', ce, L, ⟨hE, hp, hd, hz, hkk⟩, hce, hcv, hcl, hW, hsame, hL⟩
  · exact absurd k id
  · subst hsz
    have hsub : ∀ q, va_A w s.heap.size q → va_A w1 s.heap.size q := va_A_sub p1
    obtain ⟨j1, j2⟩ := kJoin (A := va_A w1 s.heap.size) hP2 (va_D_perm p1 hD.self) hkk hsub hp hd
    exact Or.inr ⟨q, hq, E', ce, L, ⟨hE, va_P_perm p2 j1, va_D_perm p2 j2, hz, fun q a b => hkk q a (fun c => b (hsub q c))⟩, hce, hcv, hcl, hW, hsame, fun z hzL => hsub _ (hL z hzL)⟩
abbrev pk (bs : List va_W) (is : List Nat) : List va_W := is.map (fun i => bs.getD i [])
theorem blk (bs : List va_W) (idx : List Nat) (h : idx.Perm (List.range bs.length)) : bs.flatten.Perm (pk bs idx).flatten := by
  have e : bs = (List.range bs.length).map (fun i => bs.getD i []) := by
    apply List.ext_getElem
    · simp
    · intro i h1 h2
      simp [List.getD, List.getElem?_eq_getElem h1]
  have h1 := (h.symm.map (fun i => bs.getD i [])).flatten
  rw [← e] at h1
  exact h1
theorem blk2 (bs : List va_W) (i1 i2 : List Nat) {n : Nat} (hb : bs.length = n) (hp : (i1 ++ i2).isPerm (List.range n) = true) : bs.flatten.Perm ((pk bs i1).flatten ++ (pk bs i2).flatten) := by
  have h := blk bs (i1 ++ i2) (by rw [hb]; exact List.isPerm_iff.mp hp)
  rw [show pk bs (i1 ++ i2) = pk bs i1 ++ pk bs i2 from List.map_append, List.flatten_append] at h
  exact h
theorem kM.blk {l : Launch} {D : va_G} {T : Nat → ClassId} {y : MethodName} {ws : List Cond} {rm : Room} {av : List Value} {w w' : va_W} {o : Option Value} (h : kM l D T y ws rm av w o w') (bs bs' : List va_W) (i1 i2 : List Nat) {n : Nat} (hb : bs.length = n) (hb' : bs'.length = n) (hp : (i1 ++ i2).isPerm (List.range n) = true) (hw : (pk bs i1).flatten = w) (hw' : (pk bs' i1).flatten = w') (hr : pk bs i2 = pk bs' i2) : kM l D T y ws rm av bs.flatten o bs'.flatten := by
  subst hw
  subst hw'
  refine kM.perm h (blk2 bs i1 i2 hb hp) ?_
  rw [hr]
  exact (blk2 bs' i1 i2 hb' hp).symm
theorem kEM.blk {l : Launch} {D : va_G} {T : Nat → ClassId} {y : MethodName} {ws : List Cond} {rm : Room} {av : List Value} {w w' : va_W} {o : Option Value} (h : kEM l D T y ws rm av w o w') (bs bs' : List va_W) (i1 i2 : List Nat) {n : Nat} (hb : bs.length = n) (hb' : bs'.length = n) (hp : (i1 ++ i2).isPerm (List.range n) = true) (hw : (pk bs i1).flatten = w) (hw' : (pk bs' i1).flatten = w') (hr : pk bs i2 = pk bs' i2) : kEM l D T y ws rm av bs.flatten o bs'.flatten := by
  subst hw
  subst hw'
  refine kEM.perm h (blk2 bs i1 i2 hb hp) ?_
  rw [hr]
  exact (blk2 bs' i1 i2 hb' hp).symm
theorem kXM.blk {l : Launch} {D : va_G} {T : Nat → ClassId} {y : MethodName} {ws : List Cond} {rm : Room} {av : List Value} {w w' : va_W} {o : String} (h : kXM l D T y ws rm av w o w') (bs bs' : List va_W) (i1 i2 : List Nat) {n : Nat} (hb : bs.length = n) (hb' : bs'.length = n) (hp : (i1 ++ i2).isPerm (List.range n) = true) (hw : (pk bs i1).flatten = w) (hw' : (pk bs' i1).flatten = w') (hr : pk bs i2 = pk bs' i2) : kXM l D T y ws rm av bs.flatten o bs'.flatten := by
  subst hw
  subst hw'
  refine kXM.perm h (blk2 bs i1 i2 hb hp) ?_
  rw [hr]
  exact (blk2 bs' i1 i2 hb' hp).symm
/-- the lists of a listener, from the address a k on -/
abbrev bLB (T : Nat → ClassId) (a : Nat → Nat) (k : Nat) (L : LV) (rm wr : Int32) : va_W := [oLi (a k) (a (k + 1)) (a (k + 5)) (a (k + 7)), oFL (a (k + 1)) (a (k + 2)) (a (k + 3)) (a (k + 4)) L.2.2.2.1 L.2.2.2.2.1 rm, aI T (a (k + 2)) 26 L.1, aI T (a (k + 3)) 26 L.2.1, aI T (a (k + 4)) 26 L.2.2.1, oSL (a (k + 5)) (a (k + 6)) L.2.2.2.2.2.2.1 L.2.2.2.2.2.2.2.1 wr, aI T (a (k + 6)) 26 L.2.2.2.2.2.1, aI T (a (k + 7)) 26 L.2.2.2.2.2.2.2.2]
/-- a whole state, from the address a k on -/
abbrev bSt (T : Nat → ClassId) (a : Nat → Nat) (k : Nat) (s : ST) : va_W := oSt (a k) (a (k + 1)) (a (k + 9)) (bI s.2.2.2.2.2.2.1) (nI s.2.2.2.2.2.2.2) :: (bLB T a (k + 1) s.1 s.2.1 s.2.2.1 ++ bLB T a (k + 9) s.2.2.2.1 s.2.2.2.2.1 s.2.2.2.2.2.1)
abbrev hsF (a : Nat → Nat) : Nat → Option Nat := va_up (va_up (va_up (va_up (va_up (fun _ => none) 0 (some (a 19))) 1 (some (a 36))) 2 (some (a 53))) 3 (some (a 70))) 4 (some (a 87))
end PLIFT
