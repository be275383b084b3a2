/-- merging, the reference's way: the merged counts and surpluses -/
def meI (al : Nat → Int32) (k : Nat) : Bool := if al (26 + k) ≤ 0 then decide (¬ al (158 + k) ≤ 0) else true
def meC (al ck : Nat → Int32) : Nat → (Nat → Int32)
  | 0 => ck
  | k + 1 => upd (meC al ck k) k (if meI al k then mEst al 0 k + mEst al 132 k else 0)
def meS (al ck zk : Nat → Int32) : Nat → (Nat → Int32)
  | 0 => zk
  | k + 1 => upd (meS al ck zk k) k (if meI al k then meC al ck (k + 1) k - mSure al 0 k - mSure al 132 k else 0)
def meQ (al ck : Nat → Int32) (k : Nat) : Bool := if ck k ≤ 0 then false else decide (nI (posN ck k 26) ≤ al 264)
/-- the counters that stay -/
def meA (al ck zk : Nat → Int32) : Nat → (Nat → Int32)
  | 0 => upd al 131 0
  | k + 1 => upd (upd (upd (upd (meA al ck zk k) 131 (meA al ck zk k 131 + bI (meQ (meA al ck zk k) ck k))) (26 + k) (if meQ (meA al ck zk k) ck k then ck k else 0)) (52 + k) (if meQ (meA al ck zk k) ck k then zk k else 0)) (78 + k) (if meQ (meA al ck zk k) ck k then upd (upd (upd (meA al ck zk k) 131 (meA al ck zk k 131 + bI (meQ (meA al ck zk k) ck k))) (26 + k) (ck k)) (52 + k) (zk k) 131 else 0)
theorem meA_264 {al ck zk : Nat → Int32} : ∀ k, k ≤ 26 → meA al ck zk k 264 = al 264
  | 0, _ => pk_un (by decide)
  | k + 1, h => by rw [meA, pk_un (by omega), pk_un (by omega), pk_un (by omega), pk_un (by omega)]; exact meA_264 k (by omega)
def msA (al : Nat → Int32) : Nat → (Nat → Int32)
  | 0 => al
  | k + 1 => upd (msA al k) (104 + k) (msA al k (104 + k) + msA al k (236 + k))
def msK (al ck : Nat → Int32) : Nat → (Nat → Int32)
  | 0 => ck
  | k + 1 => upd (msK al ck k) k (msA al (k + 1) (104 + k))
def msL (al ck : Nat → Int32) : Nat → Int32
  | 0 => 0
  | k + 1 => if nI (posN ck k 26) = al 264 then ck k else msL al ck k
def msO (al ck : Nat → Int32) : Nat → Int32 := upd (wrN (msA al 26) (msL (msA al 26) (msK al ck 26) 26) 26) 130 (wrN (msA al 26) (msL (msA al 26) (msK al ck 26) 26) 26 130 + (wrN (msA al 26) (msL (msA al 26) (msK al ck 26) 26) 26 262 + msL (msA al 26) (msK al ck 26) 26))
def mtN (al : Nat → Int32) : Nat → (Nat → Int32)
  | 0 => al
  | k + 1 => upd (mtN al k) k (mtN al k k + mtN al k (132 + k))
def meF (al ck zk : Nat → Int32) : Nat → Int32 := meA al (meC al ck 26) (meS al ck zk 26) 26
def meR (al ck zk : Nat → Int32) : Nat → Int32 := upd (clN (mtN (msO (meF al ck zk) (meC al ck 26)) 26) 132 132) 265 0
def unA (al hy : Nat → Int32) (hn : Nat) : Nat → (Nat → Int32)
  | 0 => al
  | k + 1 => upd (unA al hy hn k) k (hy (266 * hn + k))
/-- the greatest error, by the reference -/
def geM (al : Nat → Int32) : Nat → Int32
  | 0 => mEst al 0 0 - al 0
  | k + 1 => if mEst al 0 (k + 1) - al (k + 1) ≤ geM al k then geM al k else mEst al 0 (k + 1) - al (k + 1)
def cyN (al ck : Nat → Int32) : Nat → (Nat → Int32)
  | 0 => ck
  | k + 1 => upd (cyN al ck k) k (al (26 + k))
def abW (al : Nat → Int32) (wh k : Nat) : Int32 := if nI wh = 0 then al k else if nI wh = 1 then mSure al 0 k else mEst al 0 k
def abN (al : Nat → Int32) (pm : Int32) (wh : Nat) : Nat → Int32
  | 0 => 0
  | k + 1 => abN al pm wh k ||| (if lg_cmp (1000 * (abW al wh k).toInt64) (pm.toInt64 * (smN (rwF al 0) 26).toInt64) ≤ 0 then 0 else (1 : Int32) <<< (nI k &&& 31))

theorem cyN_at (al ck : Nat → Int32) : ∀ i j, j < i → cyN al ck i j = rwF al 26 j
  | i + 1, j, h => by
    rw [cyN]
    by_cases e : j = i
    · rw [e, pk_us]; rfl
    · rw [pk_un e]; exact cyN_at al ck i j (by omega)
abbrev rX9_mergesFirst : Room := { frames := 4, cells := 0, slots := 0, locals := 88 }
set_option maxHeartbeats 4000000 in
set_option maxRecDepth 100000 in
theorem c_X9_mergesFirst (l : Launch) (D : va_G) (T : Nat → ClassId) (mo ma mh mk mz mt : Nat) (al ck zk : Nat → Int32) (hn : Nat) (th : Int32) (tn ax : Nat) (sc ti pp : Int32) (cp : Nat) (hcp : al 264 = nI cp) (hcp9 : cp < 1000) : kM l D T yX9_mergesFirst wsX9_mergesFirst rX9_mergesFirst [.ref mo] [oMo mo ma mh (nI hn) th mk mz mt (nI tn) (nI ax) sc ti pp, aI T ma 266 al, aI T mk 26 ck, aI T mz 26 zk] none [oMo mo ma mh (nI hn) th mk mz mt (nI tn) (nI ax) sc ti pp, aI T ma 266 (meF al ck zk), aI T mk 26 (meC al ck 26), aI T mz 26 (meS al ck zk 26)] := by
  refine kM.of (cc := cX9_mergesFirst) (maxL := 3) (ret := none) (by decide) rfl (Nat.le_of_ble_eq_true rfl) ?_
  intro p e s m below meth c A Q ls hx hb hml hown hr hlk hts hC hP hD hS hA hl hret
  have iX9 : ∀ w ∈ wsX90, w ∈ wsX9_mergesFirst := (fun _ h => List.mem_cons_of_mem _ (List.mem_append_right _ h))
  have loop_121 : ∀ (n i : Nat), i + n = 26 → ∀ (H : Heap) (locs : List Loc) (ls : Array Slot), va_P D vwCl [oMo mo ma mh (nI hn) th mk mz mt (nI tn) (nI ax) sc ti pp, aI T ma 266 (meA al (meC al ck 26) (meS al ck zk 26) i), aI T mk 26 (meC al ck 26), aI T mz 26 (meS al ck zk 26)] H → va_D A [oMo mo ma mh (nI hn) th mk mz mt (nI tn) (nI ax) sc ti pp, aI T ma 266 (meA al (meC al ck 26) (meS al ck zk 26) i), aI T mk 26 (meC al ck 26), aI T mz 26 (meS al ck zk 26)] → va_S A s.heap H locs → lv_has ls 3 [(1, .int (nI i)), (0, .ref mo)] → W p l e rX9_mergesFirst s m [.ref mo].toArray below meth c H locs 0 0 Q (F0 m 121 ls []) := by
    intro n
    induction n with
    | zero =>
      intro i hi  H locs ls hP hD hS hl
      have hi9 : 26 = i := by omega
      subst hi9
      refine lv_iload_n hx hb dX9_mergesFirst_121 rfl (lv_at hl 0 rfl) ?_
      refine lv_bipush (v := 26) hx hb dX9_mergesFirst_122 (by decide) ?_
      refine lv_icmp_ge (tgt := 255) hx hb dX9_mergesFirst_124 (by decide) (fun _ => ?_) (fun c_x => absurd (by decide : (26 : Int32) ≤ nI 26) c_x)
      have e_1 : meA al (meC al ck 26) (meS al ck zk 26) 26 = meF al ck zk := rfl
      have eW := congrArg (fun zZ => ([oMo mo ma mh (nI hn) th mk mz mt (nI tn) (nI ax) sc ti pp, aI T ma 266 zZ, aI T mk 26 (meC al ck 26), aI T mz 26 (meS al ck zk 26)] : va_W)) e_1
      have hP : va_P D vwCl [oMo mo ma mh (nI hn) th mk mz mt (nI tn) (nI ax) sc ti pp, aI T ma 266 (meF al ck zk), aI T mk 26 (meC al ck 26), aI T mz 26 (meS al ck zk 26)] _ := Eq.subst (motive := fun w => va_P D vwCl w _) eW hP
      have hD : va_D A [oMo mo ma mh (nI hn) th mk mz mt (nI tn) (nI ax) sc ti pp, aI T ma 266 (meF al ck zk), aI T mk 26 (meC al ck 26), aI T mz 26 (meS al ck zk 26)] := Eq.subst (motive := fun w => va_D A w) eW hD
      exact hret _ _ _ _ _ (fun Qc free hq hf => W.vret hx hb hr hq hf dX9_mergesFirst_255 hlk) hP hD hS
    | succ n ih =>
      intro i hi  H locs ls hP hD hS hl
      have hlt : i < 26 := by omega
      refine lv_iload_n hx hb dX9_mergesFirst_121 rfl (lv_at hl 0 rfl) ?_
      refine lv_bipush (v := 26) hx hb dX9_mergesFirst_122 (by decide) ?_
      refine lv_icmp_ge (tgt := 255) hx hb dX9_mergesFirst_124 (by decide) (fun c_x => absurd c_x (nI_ge (b := 26) hlt (by decide))) (fun _ => ?_)
      refine lv_aload_n hx hb dX9_mergesFirst_127 rfl (lv_at hl 1 rfl) ?_
      refine va_get (D := D) (ci := 8) (v := .ref mk) (C := RX9) (T := TX9) (N := 12) hx hb hts iX9 hown hC.1 hP 0 rfl rfl 4 (by decide) (hts (.fieldLink RX9 16 "ParrotCountsModel" "counts" "[I") (List.mem_of_getElem? (i := 2) rfl)) (fun _ h => h) rfl dX9_mergesFirst_128 ?_
      refine lv_iload_n hx hb dX9_mergesFirst_131 rfl (lv_at hl 0 rfl) ?_
      refine k_iald hx hb hC.1 hP 2 0 rfl rfl (by omega) dX9_mergesFirst_132 ?_
      refine lv_if_le (tgt := 156) hx hb dX9_mergesFirst_133 (by decide) (fun c133 => ?_) (fun c133 => ?_)
      · refine lv_iconst (v := 0) hx hb dX9_mergesFirst_156 (by decide) ?_
        refine lv_istore_n (lv' := [(2, .int 0), (1, .int (nI i)), (0, .ref mo)]) hx hb dX9_mergesFirst_157 rfl hl (by decide) rfl (fun ls hl => ?_)
        refine lv_aload_n hx hb dX9_mergesFirst_158 rfl (lv_at hl 2 rfl) ?_
        refine va_get (D := D) (ci := 8) (v := .ref ma) (C := RX9) (T := TX9) (N := 12) hx hb hts iX9 hown hC.1 hP 0 rfl rfl 0 (by decide) (hts (.fieldLink RX9 7 "ParrotCountsModel" "all" "[I") (List.mem_of_getElem? (i := 1) rfl)) (fun _ h => h) rfl dX9_mergesFirst_159 ?_
        refine lv_sipush (v := 131) hx hb dX9_mergesFirst_162 (by decide) ?_
        refine lv_dup2_11 hx hb dX9_mergesFirst_165 rfl rfl ?_
        refine k_iald hx hb hC.1 hP 1 0 rfl rfl (by decide) dX9_mergesFirst_166 ?_
        refine lv_iload_n hx hb dX9_mergesFirst_167 rfl (lv_at hl 0 rfl) ?_
        refine lv_if_eq (tgt := 175) hx hb dX9_mergesFirst_168 (by decide) (fun _ => ?_) (fun c_x => absurd (by decide : ((0 : Int32) = 0)) c_x)
        refine lv_iconst (v := 0) hx hb dX9_mergesFirst_175 (by decide) ?_
        refine lv_iadd hx hb dX9_mergesFirst_176 ?_
        refine k_iast hx hb hC.1 hP hD hS 1 0 rfl rfl (by decide) dX9_mergesFirst_177 (fun H locs hP hD hS => ?_)
        have hP : va_P D vwCl [oMo mo ma mh (nI hn) th mk mz mt (nI tn) (nI ax) sc ti pp, aI T ma 266 (upd (meA al (meC al ck 26) (meS al ck zk 26) i) 131 (((meA al (meC al ck 26) (meS al ck zk 26) i) 131) + 0)), aI T mk 26 (meC al ck 26), aI T mz 26 (meS al ck zk 26)] H := hP
        have hD : va_D A [oMo mo ma mh (nI hn) th mk mz mt (nI tn) (nI ax) sc ti pp, aI T ma 266 (upd (meA al (meC al ck 26) (meS al ck zk 26) i) 131 (((meA al (meC al ck 26) (meS al ck zk 26) i) 131) + 0)), aI T mk 26 (meC al ck 26), aI T mz 26 (meS al ck zk 26)] := hD
        refine lv_aload_n hx hb dX9_mergesFirst_178 rfl (lv_at hl 2 rfl) ?_
        refine va_get (D := D) (ci := 8) (v := .ref ma) (C := RX9) (T := TX9) (N := 12) hx hb hts iX9 hown hC.1 hP 0 rfl rfl 0 (by decide) (hts (.fieldLink RX9 7 "ParrotCountsModel" "all" "[I") (List.mem_of_getElem? (i := 1) rfl)) (fun _ h => h) rfl dX9_mergesFirst_179 ?_
        refine lv_bipush (v := 26) hx hb dX9_mergesFirst_182 (by decide) ?_
        refine lv_iload_n hx hb dX9_mergesFirst_184 rfl (lv_at hl 1 rfl) ?_
        refine lv_iadd hx hb dX9_mergesFirst_185 ?_
        refine W.eq (g2 := F0 m 186 ls (.int (nI (26 + i)) :: [.ref ma])) (congrArg (fun z => F0 m 186 ls (.int z :: [.ref ma])) (nI_add 26 i)) ?_
        refine lv_iload_n hx hb dX9_mergesFirst_186 rfl (lv_at hl 0 rfl) ?_
        refine lv_if_eq (tgt := 199) hx hb dX9_mergesFirst_187 (by decide) (fun _ => ?_) (fun c_x => absurd (by decide : ((0 : Int32) = 0)) c_x)
        refine lv_iconst (v := 0) hx hb dX9_mergesFirst_199 (by decide) ?_
        refine k_iast hx hb hC.1 hP hD hS 1 0 rfl rfl (by omega) dX9_mergesFirst_200 (fun H locs hP hD hS => ?_)
        have hP : va_P D vwCl [oMo mo ma mh (nI hn) th mk mz mt (nI tn) (nI ax) sc ti pp, aI T ma 266 (upd (upd (meA al (meC al ck 26) (meS al ck zk 26) i) 131 (((meA al (meC al ck 26) (meS al ck zk 26) i) 131) + 0)) (26 + i) 0), aI T mk 26 (meC al ck 26), aI T mz 26 (meS al ck zk 26)] H := hP
        have hD : va_D A [oMo mo ma mh (nI hn) th mk mz mt (nI tn) (nI ax) sc ti pp, aI T ma 266 (upd (upd (meA al (meC al ck 26) (meS al ck zk 26) i) 131 (((meA al (meC al ck 26) (meS al ck zk 26) i) 131) + 0)) (26 + i) 0), aI T mk 26 (meC al ck 26), aI T mz 26 (meS al ck zk 26)] := hD
        refine lv_aload_n hx hb dX9_mergesFirst_201 rfl (lv_at hl 2 rfl) ?_
        refine va_get (D := D) (ci := 8) (v := .ref ma) (C := RX9) (T := TX9) (N := 12) hx hb hts iX9 hown hC.1 hP 0 rfl rfl 0 (by decide) (hts (.fieldLink RX9 7 "ParrotCountsModel" "all" "[I") (List.mem_of_getElem? (i := 1) rfl)) (fun _ h => h) rfl dX9_mergesFirst_202 ?_
        refine lv_bipush (v := 52) hx hb dX9_mergesFirst_205 (by decide) ?_
        refine lv_iload_n hx hb dX9_mergesFirst_207 rfl (lv_at hl 1 rfl) ?_
        refine lv_iadd hx hb dX9_mergesFirst_208 ?_
        refine W.eq (g2 := F0 m 209 ls (.int (nI (52 + i)) :: [.ref ma])) (congrArg (fun z => F0 m 209 ls (.int z :: [.ref ma])) (nI_add 52 i)) ?_
        refine lv_iload_n hx hb dX9_mergesFirst_209 rfl (lv_at hl 0 rfl) ?_
        refine lv_if_eq (tgt := 222) hx hb dX9_mergesFirst_210 (by decide) (fun _ => ?_) (fun c_x => absurd (by decide : ((0 : Int32) = 0)) c_x)
        refine lv_iconst (v := 0) hx hb dX9_mergesFirst_222 (by decide) ?_
        refine k_iast hx hb hC.1 hP hD hS 1 0 rfl rfl (by omega) dX9_mergesFirst_223 (fun H locs hP hD hS => ?_)
        have hP : va_P D vwCl [oMo mo ma mh (nI hn) th mk mz mt (nI tn) (nI ax) sc ti pp, aI T ma 266 (upd (upd (upd (meA al (meC al ck 26) (meS al ck zk 26) i) 131 (((meA al (meC al ck 26) (meS al ck zk 26) i) 131) + 0)) (26 + i) 0) (52 + i) 0), aI T mk 26 (meC al ck 26), aI T mz 26 (meS al ck zk 26)] H := hP
        have hD : va_D A [oMo mo ma mh (nI hn) th mk mz mt (nI tn) (nI ax) sc ti pp, aI T ma 266 (upd (upd (upd (meA al (meC al ck 26) (meS al ck zk 26) i) 131 (((meA al (meC al ck 26) (meS al ck zk 26) i) 131) + 0)) (26 + i) 0) (52 + i) 0), aI T mk 26 (meC al ck 26), aI T mz 26 (meS al ck zk 26)] := hD
        refine lv_aload_n hx hb dX9_mergesFirst_224 rfl (lv_at hl 2 rfl) ?_
        refine va_get (D := D) (ci := 8) (v := .ref ma) (C := RX9) (T := TX9) (N := 12) hx hb hts iX9 hown hC.1 hP 0 rfl rfl 0 (by decide) (hts (.fieldLink RX9 7 "ParrotCountsModel" "all" "[I") (List.mem_of_getElem? (i := 1) rfl)) (fun _ h => h) rfl dX9_mergesFirst_225 ?_
        refine lv_bipush (v := 78) hx hb dX9_mergesFirst_228 (by decide) ?_
        refine lv_iload_n hx hb dX9_mergesFirst_230 rfl (lv_at hl 1 rfl) ?_
        refine lv_iadd hx hb dX9_mergesFirst_231 ?_
        refine W.eq (g2 := F0 m 232 ls (.int (nI (78 + i)) :: [.ref ma])) (congrArg (fun z => F0 m 232 ls (.int z :: [.ref ma])) (nI_add 78 i)) ?_
        refine lv_iload_n hx hb dX9_mergesFirst_232 rfl (lv_at hl 0 rfl) ?_
        refine lv_if_eq (tgt := 247) hx hb dX9_mergesFirst_233 (by decide) (fun _ => ?_) (fun c_x => absurd (by decide : ((0 : Int32) = 0)) c_x)
        refine lv_iconst (v := 0) hx hb dX9_mergesFirst_247 (by decide) ?_
        refine k_iast hx hb hC.1 hP hD hS 1 0 rfl rfl (by omega) dX9_mergesFirst_248 (fun H locs hP hD hS => ?_)
        have hP : va_P D vwCl [oMo mo ma mh (nI hn) th mk mz mt (nI tn) (nI ax) sc ti pp, aI T ma 266 (upd (upd (upd (upd (meA al (meC al ck 26) (meS al ck zk 26) i) 131 (((meA al (meC al ck 26) (meS al ck zk 26) i) 131) + 0)) (26 + i) 0) (52 + i) 0) (78 + i) 0), aI T mk 26 (meC al ck 26), aI T mz 26 (meS al ck zk 26)] H := hP
        have hD : va_D A [oMo mo ma mh (nI hn) th mk mz mt (nI tn) (nI ax) sc ti pp, aI T ma 266 (upd (upd (upd (upd (meA al (meC al ck 26) (meS al ck zk 26) i) 131 (((meA al (meC al ck 26) (meS al ck zk 26) i) 131) + 0)) (26 + i) 0) (52 + i) 0) (78 + i) 0), aI T mk 26 (meC al ck 26), aI T mz 26 (meS al ck zk 26)] := hD
        refine lv_iinc (v := nI (i + 1)) (lv' := [(1, .int (nI (i + 1))), (2, .int 0), (0, .ref mo)]) hx hb dX9_mergesFirst_249 hl (k := 1) rfl (nI_1 i) (by decide) rfl (fun ls hl => ?_)
        refine lv_goto (tgt := 121) hx hb dX9_mergesFirst_252 (by decide) ?_
        have e_2 : upd (upd (upd (upd (meA al (meC al ck 26) (meS al ck zk 26) i) 131 (((meA al (meC al ck 26) (meS al ck zk 26) i) 131) + 0)) (26 + i) 0) (52 + i) 0) (78 + i) 0 = meA al (meC al ck 26) (meS al ck zk 26) (i + 1) := by first | with_reducible rfl | (simp [c133]; done) | (have hq : meQ (meA al (meC al ck 26) (meS al ck zk 26) i) (meC al ck 26) i = true := (by simp [meQ, c133]); rw [meA, hq]; rfl) | (have hq : meQ (meA al (meC al ck 26) (meS al ck zk 26) i) (meC al ck 26) i = false := (by simp [meQ, c133]); rw [meA, hq]; simp [bI]; done)
        have eW := congrArg (fun zZ => ([oMo mo ma mh (nI hn) th mk mz mt (nI tn) (nI ax) sc ti pp, aI T ma 266 zZ, aI T mk 26 (meC al ck 26), aI T mz 26 (meS al ck zk 26)] : va_W)) e_2
        have hP : va_P D vwCl [oMo mo ma mh (nI hn) th mk mz mt (nI tn) (nI ax) sc ti pp, aI T ma 266 (meA al (meC al ck 26) (meS al ck zk 26) (i + 1)), aI T mk 26 (meC al ck 26), aI T mz 26 (meS al ck zk 26)] _ := Eq.subst (motive := fun w => va_P D vwCl w _) eW hP
        have hD : va_D A [oMo mo ma mh (nI hn) th mk mz mt (nI tn) (nI ax) sc ti pp, aI T ma 266 (meA al (meC al ck 26) (meS al ck zk 26) (i + 1)), aI T mk 26 (meC al ck 26), aI T mz 26 (meS al ck zk 26)] := Eq.subst (motive := fun w => va_D A w) eW hD
        have hl : lv_has ls 3 [(1, .int (nI (i + 1))), (0, .ref mo)] := lv_sub hl [0, 2] (by rfl)
        exact ih (i + 1) (by omega)  _ _ _ hP hD hS hl
      · refine lv_aload_n hx hb dX9_mergesFirst_136 rfl (lv_at hl 1 rfl) ?_
        refine lv_iload_n hx hb dX9_mergesFirst_137 rfl (lv_at hl 0 rfl) ?_
        have hP := hP.sub (ws' := [oMo mo ma mh (nI hn) th mk mz mt (nI tn) (nI ax) sc ti pp, aI T mk 26 (meC al ck 26)] ++ [aI T ma 266 (meA al (meC al ck 26) (meS al ck zk 26) i), aI T mz 26 (meS al ck zk 26)]) [0, 2, 1, 3] rfl
        have hD := hD.sub (ws' := [oMo mo ma mh (nI hn) th mk mz mt (nI tn) (nI ax) sc ti pp, aI T mk 26 (meC al ck 26)] ++ [aI T ma 266 (meA al (meC al ck 26) (meS al ck zk 26) i), aI T mz 26 (meS al ck zk 26)]) [0, 2, 1, 3] (by decide) rfl
        refine kV (ci := 8) (As := [.int (nI i)]) (rest := []) ⟨hx, hb, hml, hown, hts⟩ (c_X9_aheadOf l D T mo ma mh mk mz mt (meC al ck 26) hn th tn ax sc ti pp i (by first | omega | assumption)) (cwV 1 hts gX9_mergesFirst_X9_aheadOf rfl rfl rfl (by decide +kernel) ⟨Nat.le_of_ble_eq_true rfl, Nat.le_of_ble_eq_true rfl⟩) hC hP hD hS hA rfl rfl rfl hl.1 rfl (Nat.le_of_ble_eq_true rfl) dX9_mergesFirst_138 ⟨Nat.zero_le _, Nat.zero_le _⟩ (fun H locs hP hD hS => ?_)
        have hP := hP.sub (ws' := [oMo mo ma mh (nI hn) th mk mz mt (nI tn) (nI ax) sc ti pp, aI T ma 266 (meA al (meC al ck 26) (meS al ck zk 26) i), aI T mk 26 (meC al ck 26), aI T mz 26 (meS al ck zk 26)]) [0, 2, 1, 3] rfl
        have hD := hD.sub (ws' := [oMo mo ma mh (nI hn) th mk mz mt (nI tn) (nI ax) sc ti pp, aI T ma 266 (meA al (meC al ck 26) (meS al ck zk 26) i), aI T mk 26 (meC al ck 26), aI T mz 26 (meS al ck zk 26)]) [0, 2, 1, 3] (by decide) rfl
        refine W.eq (g2 := F0 m 141 ls [.int (nI (posN (meC al ck 26) i 26))]) rfl ?_
        refine lv_aload_n hx hb dX9_mergesFirst_141 rfl (lv_at hl 1 rfl) ?_
        refine va_get (D := D) (ci := 8) (v := .ref ma) (C := RX9) (T := TX9) (N := 12) hx hb hts iX9 hown hC.1 hP 0 rfl rfl 0 (by decide) (hts (.fieldLink RX9 7 "ParrotCountsModel" "all" "[I") (List.mem_of_getElem? (i := 1) rfl)) (fun _ h => h) rfl dX9_mergesFirst_142 ?_
        refine lv_sipush (v := 264) hx hb dX9_mergesFirst_145 (by decide) ?_
        refine k_iald hx hb hC.1 hP 1 0 rfl rfl (by decide) dX9_mergesFirst_148 ?_
        refine lv_icmp_gt (tgt := 156) hx hb dX9_mergesFirst_149 (by decide) (fun c149 => ?_) (fun c149 => ?_)
        · have c149 := Int32.not_le.mpr c149
          refine lv_iconst (v := 0) hx hb dX9_mergesFirst_156 (by decide) ?_
          refine lv_istore_n (lv' := [(2, .int 0), (1, .int (nI i)), (0, .ref mo)]) hx hb dX9_mergesFirst_157 rfl hl (by decide) rfl (fun ls hl => ?_)
          refine lv_aload_n hx hb dX9_mergesFirst_158 rfl (lv_at hl 2 rfl) ?_
          refine va_get (D := D) (ci := 8) (v := .ref ma) (C := RX9) (T := TX9) (N := 12) hx hb hts iX9 hown hC.1 hP 0 rfl rfl 0 (by decide) (hts (.fieldLink RX9 7 "ParrotCountsModel" "all" "[I") (List.mem_of_getElem? (i := 1) rfl)) (fun _ h => h) rfl dX9_mergesFirst_159 ?_
          refine lv_sipush (v := 131) hx hb dX9_mergesFirst_162 (by decide) ?_
          refine lv_dup2_11 hx hb dX9_mergesFirst_165 rfl rfl ?_
          refine k_iald hx hb hC.1 hP 1 0 rfl rfl (by decide) dX9_mergesFirst_166 ?_
          refine lv_iload_n hx hb dX9_mergesFirst_167 rfl (lv_at hl 0 rfl) ?_
          refine lv_if_eq (tgt := 175) hx hb dX9_mergesFirst_168 (by decide) (fun _ => ?_) (fun c_x => absurd (by decide : ((0 : Int32) = 0)) c_x)
          refine lv_iconst (v := 0) hx hb dX9_mergesFirst_175 (by decide) ?_
          refine lv_iadd hx hb dX9_mergesFirst_176 ?_
          refine k_iast hx hb hC.1 hP hD hS 1 0 rfl rfl (by decide) dX9_mergesFirst_177 (fun H locs hP hD hS => ?_)
          have hP : va_P D vwCl [oMo mo ma mh (nI hn) th mk mz mt (nI tn) (nI ax) sc ti pp, aI T ma 266 (upd (meA al (meC al ck 26) (meS al ck zk 26) i) 131 (((meA al (meC al ck 26) (meS al ck zk 26) i) 131) + 0)), aI T mk 26 (meC al ck 26), aI T mz 26 (meS al ck zk 26)] H := hP
          have hD : va_D A [oMo mo ma mh (nI hn) th mk mz mt (nI tn) (nI ax) sc ti pp, aI T ma 266 (upd (meA al (meC al ck 26) (meS al ck zk 26) i) 131 (((meA al (meC al ck 26) (meS al ck zk 26) i) 131) + 0)), aI T mk 26 (meC al ck 26), aI T mz 26 (meS al ck zk 26)] := hD
          refine lv_aload_n hx hb dX9_mergesFirst_178 rfl (lv_at hl 2 rfl) ?_
          refine va_get (D := D) (ci := 8) (v := .ref ma) (C := RX9) (T := TX9) (N := 12) hx hb hts iX9 hown hC.1 hP 0 rfl rfl 0 (by decide) (hts (.fieldLink RX9 7 "ParrotCountsModel" "all" "[I") (List.mem_of_getElem? (i := 1) rfl)) (fun _ h => h) rfl dX9_mergesFirst_179 ?_
          refine lv_bipush (v := 26) hx hb dX9_mergesFirst_182 (by decide) ?_
          refine lv_iload_n hx hb dX9_mergesFirst_184 rfl (lv_at hl 1 rfl) ?_
          refine lv_iadd hx hb dX9_mergesFirst_185 ?_
          refine W.eq (g2 := F0 m 186 ls (.int (nI (26 + i)) :: [.ref ma])) (congrArg (fun z => F0 m 186 ls (.int z :: [.ref ma])) (nI_add 26 i)) ?_
          refine lv_iload_n hx hb dX9_mergesFirst_186 rfl (lv_at hl 0 rfl) ?_
          refine lv_if_eq (tgt := 199) hx hb dX9_mergesFirst_187 (by decide) (fun _ => ?_) (fun c_x => absurd (by decide : ((0 : Int32) = 0)) c_x)
          refine lv_iconst (v := 0) hx hb dX9_mergesFirst_199 (by decide) ?_
          refine k_iast hx hb hC.1 hP hD hS 1 0 rfl rfl (by omega) dX9_mergesFirst_200 (fun H locs hP hD hS => ?_)
          have hP : va_P D vwCl [oMo mo ma mh (nI hn) th mk mz mt (nI tn) (nI ax) sc ti pp, aI T ma 266 (upd (upd (meA al (meC al ck 26) (meS al ck zk 26) i) 131 (((meA al (meC al ck 26) (meS al ck zk 26) i) 131) + 0)) (26 + i) 0), aI T mk 26 (meC al ck 26), aI T mz 26 (meS al ck zk 26)] H := hP
          have hD : va_D A [oMo mo ma mh (nI hn) th mk mz mt (nI tn) (nI ax) sc ti pp, aI T ma 266 (upd (upd (meA al (meC al ck 26) (meS al ck zk 26) i) 131 (((meA al (meC al ck 26) (meS al ck zk 26) i) 131) + 0)) (26 + i) 0), aI T mk 26 (meC al ck 26), aI T mz 26 (meS al ck zk 26)] := hD
          refine lv_aload_n hx hb dX9_mergesFirst_201 rfl (lv_at hl 2 rfl) ?_
          refine va_get (D := D) (ci := 8) (v := .ref ma) (C := RX9) (T := TX9) (N := 12) hx hb hts iX9 hown hC.1 hP 0 rfl rfl 0 (by decide) (hts (.fieldLink RX9 7 "ParrotCountsModel" "all" "[I") (List.mem_of_getElem? (i := 1) rfl)) (fun _ h => h) rfl dX9_mergesFirst_202 ?_
          refine lv_bipush (v := 52) hx hb dX9_mergesFirst_205 (by decide) ?_
          refine lv_iload_n hx hb dX9_mergesFirst_207 rfl (lv_at hl 1 rfl) ?_
          refine lv_iadd hx hb dX9_mergesFirst_208 ?_
          refine W.eq (g2 := F0 m 209 ls (.int (nI (52 + i)) :: [.ref ma])) (congrArg (fun z => F0 m 209 ls (.int z :: [.ref ma])) (nI_add 52 i)) ?_
          refine lv_iload_n hx hb dX9_mergesFirst_209 rfl (lv_at hl 0 rfl) ?_
          refine lv_if_eq (tgt := 222) hx hb dX9_mergesFirst_210 (by decide) (fun _ => ?_) (fun c_x => absurd (by decide : ((0 : Int32) = 0)) c_x)
          refine lv_iconst (v := 0) hx hb dX9_mergesFirst_222 (by decide) ?_
          refine k_iast hx hb hC.1 hP hD hS 1 0 rfl rfl (by omega) dX9_mergesFirst_223 (fun H locs hP hD hS => ?_)
          have hP : va_P D vwCl [oMo mo ma mh (nI hn) th mk mz mt (nI tn) (nI ax) sc ti pp, aI T ma 266 (upd (upd (upd (meA al (meC al ck 26) (meS al ck zk 26) i) 131 (((meA al (meC al ck 26) (meS al ck zk 26) i) 131) + 0)) (26 + i) 0) (52 + i) 0), aI T mk 26 (meC al ck 26), aI T mz 26 (meS al ck zk 26)] H := hP
          have hD : va_D A [oMo mo ma mh (nI hn) th mk mz mt (nI tn) (nI ax) sc ti pp, aI T ma 266 (upd (upd (upd (meA al (meC al ck 26) (meS al ck zk 26) i) 131 (((meA al (meC al ck 26) (meS al ck zk 26) i) 131) + 0)) (26 + i) 0) (52 + i) 0), aI T mk 26 (meC al ck 26), aI T mz 26 (meS al ck zk 26)] := hD
          refine lv_aload_n hx hb dX9_mergesFirst_224 rfl (lv_at hl 2 rfl) ?_
          refine va_get (D := D) (ci := 8) (v := .ref ma) (C := RX9) (T := TX9) (N := 12) hx hb hts iX9 hown hC.1 hP 0 rfl rfl 0 (by decide) (hts (.fieldLink RX9 7 "ParrotCountsModel" "all" "[I") (List.mem_of_getElem? (i := 1) rfl)) (fun _ h => h) rfl dX9_mergesFirst_225 ?_
          refine lv_bipush (v := 78) hx hb dX9_mergesFirst_228 (by decide) ?_
          refine lv_iload_n hx hb dX9_mergesFirst_230 rfl (lv_at hl 1 rfl) ?_
          refine lv_iadd hx hb dX9_mergesFirst_231 ?_
          refine W.eq (g2 := F0 m 232 ls (.int (nI (78 + i)) :: [.ref ma])) (congrArg (fun z => F0 m 232 ls (.int z :: [.ref ma])) (nI_add 78 i)) ?_
          refine lv_iload_n hx hb dX9_mergesFirst_232 rfl (lv_at hl 0 rfl) ?_
          refine lv_if_eq (tgt := 247) hx hb dX9_mergesFirst_233 (by decide) (fun _ => ?_) (fun c_x => absurd (by decide : ((0 : Int32) = 0)) c_x)
          refine lv_iconst (v := 0) hx hb dX9_mergesFirst_247 (by decide) ?_
          refine k_iast hx hb hC.1 hP hD hS 1 0 rfl rfl (by omega) dX9_mergesFirst_248 (fun H locs hP hD hS => ?_)
          have hP : va_P D vwCl [oMo mo ma mh (nI hn) th mk mz mt (nI tn) (nI ax) sc ti pp, aI T ma 266 (upd (upd (upd (upd (meA al (meC al ck 26) (meS al ck zk 26) i) 131 (((meA al (meC al ck 26) (meS al ck zk 26) i) 131) + 0)) (26 + i) 0) (52 + i) 0) (78 + i) 0), aI T mk 26 (meC al ck 26), aI T mz 26 (meS al ck zk 26)] H := hP
          have hD : va_D A [oMo mo ma mh (nI hn) th mk mz mt (nI tn) (nI ax) sc ti pp, aI T ma 266 (upd (upd (upd (upd (meA al (meC al ck 26) (meS al ck zk 26) i) 131 (((meA al (meC al ck 26) (meS al ck zk 26) i) 131) + 0)) (26 + i) 0) (52 + i) 0) (78 + i) 0), aI T mk 26 (meC al ck 26), aI T mz 26 (meS al ck zk 26)] := hD
          refine lv_iinc (v := nI (i + 1)) (lv' := [(1, .int (nI (i + 1))), (2, .int 0), (0, .ref mo)]) hx hb dX9_mergesFirst_249 hl (k := 1) rfl (nI_1 i) (by decide) rfl (fun ls hl => ?_)
          refine lv_goto (tgt := 121) hx hb dX9_mergesFirst_252 (by decide) ?_
          have e_3 : upd (upd (upd (upd (meA al (meC al ck 26) (meS al ck zk 26) i) 131 (((meA al (meC al ck 26) (meS al ck zk 26) i) 131) + 0)) (26 + i) 0) (52 + i) 0) (78 + i) 0 = meA al (meC al ck 26) (meS al ck zk 26) (i + 1) := by first | with_reducible rfl | (simp [c133, c149]; done) | (have hq : meQ (meA al (meC al ck 26) (meS al ck zk 26) i) (meC al ck 26) i = true := (by simp [meQ, c133, c149]); rw [meA, hq]; rfl) | (have hq : meQ (meA al (meC al ck 26) (meS al ck zk 26) i) (meC al ck 26) i = false := (by simp [meQ, c133, c149]); rw [meA, hq]; simp [bI]; done)
          have eW := congrArg (fun zZ => ([oMo mo ma mh (nI hn) th mk mz mt (nI tn) (nI ax) sc ti pp, aI T ma 266 zZ, aI T mk 26 (meC al ck 26), aI T mz 26 (meS al ck zk 26)] : va_W)) e_3
          have hP : va_P D vwCl [oMo mo ma mh (nI hn) th mk mz mt (nI tn) (nI ax) sc ti pp, aI T ma 266 (meA al (meC al ck 26) (meS al ck zk 26) (i + 1)), aI T mk 26 (meC al ck 26), aI T mz 26 (meS al ck zk 26)] _ := Eq.subst (motive := fun w => va_P D vwCl w _) eW hP
          have hD : va_D A [oMo mo ma mh (nI hn) th mk mz mt (nI tn) (nI ax) sc ti pp, aI T ma 266 (meA al (meC al ck 26) (meS al ck zk 26) (i + 1)), aI T mk 26 (meC al ck 26), aI T mz 26 (meS al ck zk 26)] := Eq.subst (motive := fun w => va_D A w) eW hD
          have hl : lv_has ls 3 [(1, .int (nI (i + 1))), (0, .ref mo)] := lv_sub hl [0, 2] (by rfl)
          exact ih (i + 1) (by omega)  _ _ _ hP hD hS hl
        · have c149 := Int32.not_lt.mp c149
          refine lv_iconst (v := 1) hx hb dX9_mergesFirst_152 (by decide) ?_
          refine lv_goto (tgt := 157) hx hb dX9_mergesFirst_153 (by decide) ?_
          refine lv_istore_n (lv' := [(2, .int 1), (1, .int (nI i)), (0, .ref mo)]) hx hb dX9_mergesFirst_157 rfl hl (by decide) rfl (fun ls hl => ?_)
          refine lv_aload_n hx hb dX9_mergesFirst_158 rfl (lv_at hl 2 rfl) ?_
          refine va_get (D := D) (ci := 8) (v := .ref ma) (C := RX9) (T := TX9) (N := 12) hx hb hts iX9 hown hC.1 hP 0 rfl rfl 0 (by decide) (hts (.fieldLink RX9 7 "ParrotCountsModel" "all" "[I") (List.mem_of_getElem? (i := 1) rfl)) (fun _ h => h) rfl dX9_mergesFirst_159 ?_
          refine lv_sipush (v := 131) hx hb dX9_mergesFirst_162 (by decide) ?_
          refine lv_dup2_11 hx hb dX9_mergesFirst_165 rfl rfl ?_
          refine k_iald hx hb hC.1 hP 1 0 rfl rfl (by decide) dX9_mergesFirst_166 ?_
          refine lv_iload_n hx hb dX9_mergesFirst_167 rfl (lv_at hl 0 rfl) ?_
          refine lv_if_eq (tgt := 175) hx hb dX9_mergesFirst_168 (by decide) (fun c_x => absurd c_x (by decide : ¬ ((1 : Int32) = 0))) (fun _ => ?_)
          refine lv_iconst (v := 1) hx hb dX9_mergesFirst_171 (by decide) ?_
          refine lv_goto (tgt := 176) hx hb dX9_mergesFirst_172 (by decide) ?_
          refine lv_iadd hx hb dX9_mergesFirst_176 ?_
          refine k_iast hx hb hC.1 hP hD hS 1 0 rfl rfl (by decide) dX9_mergesFirst_177 (fun H locs hP hD hS => ?_)
          have hP : va_P D vwCl [oMo mo ma mh (nI hn) th mk mz mt (nI tn) (nI ax) sc ti pp, aI T ma 266 (upd (meA al (meC al ck 26) (meS al ck zk 26) i) 131 (((meA al (meC al ck 26) (meS al ck zk 26) i) 131) + 1)), aI T mk 26 (meC al ck 26), aI T mz 26 (meS al ck zk 26)] H := hP
          have hD : va_D A [oMo mo ma mh (nI hn) th mk mz mt (nI tn) (nI ax) sc ti pp, aI T ma 266 (upd (meA al (meC al ck 26) (meS al ck zk 26) i) 131 (((meA al (meC al ck 26) (meS al ck zk 26) i) 131) + 1)), aI T mk 26 (meC al ck 26), aI T mz 26 (meS al ck zk 26)] := hD
          refine lv_aload_n hx hb dX9_mergesFirst_178 rfl (lv_at hl 2 rfl) ?_
          refine va_get (D := D) (ci := 8) (v := .ref ma) (C := RX9) (T := TX9) (N := 12) hx hb hts iX9 hown hC.1 hP 0 rfl rfl 0 (by decide) (hts (.fieldLink RX9 7 "ParrotCountsModel" "all" "[I") (List.mem_of_getElem? (i := 1) rfl)) (fun _ h => h) rfl dX9_mergesFirst_179 ?_
          refine lv_bipush (v := 26) hx hb dX9_mergesFirst_182 (by decide) ?_
          refine lv_iload_n hx hb dX9_mergesFirst_184 rfl (lv_at hl 1 rfl) ?_
          refine lv_iadd hx hb dX9_mergesFirst_185 ?_
          refine W.eq (g2 := F0 m 186 ls (.int (nI (26 + i)) :: [.ref ma])) (congrArg (fun z => F0 m 186 ls (.int z :: [.ref ma])) (nI_add 26 i)) ?_
          refine lv_iload_n hx hb dX9_mergesFirst_186 rfl (lv_at hl 0 rfl) ?_
          refine lv_if_eq (tgt := 199) hx hb dX9_mergesFirst_187 (by decide) (fun c_x => absurd c_x (by decide : ¬ ((1 : Int32) = 0))) (fun _ => ?_)
          refine lv_aload_n hx hb dX9_mergesFirst_190 rfl (lv_at hl 2 rfl) ?_
          refine va_get (D := D) (ci := 8) (v := .ref mk) (C := RX9) (T := TX9) (N := 12) hx hb hts iX9 hown hC.1 hP 0 rfl rfl 4 (by decide) (hts (.fieldLink RX9 16 "ParrotCountsModel" "counts" "[I") (List.mem_of_getElem? (i := 2) rfl)) (fun _ h => h) rfl dX9_mergesFirst_191 ?_
          refine lv_iload_n hx hb dX9_mergesFirst_194 rfl (lv_at hl 1 rfl) ?_
          refine k_iald hx hb hC.1 hP 2 0 rfl rfl (by omega) dX9_mergesFirst_195 ?_
          refine lv_goto (tgt := 200) hx hb dX9_mergesFirst_196 (by decide) ?_
          refine k_iast hx hb hC.1 hP hD hS 1 0 rfl rfl (by omega) dX9_mergesFirst_200 (fun H locs hP hD hS => ?_)
          have hP : va_P D vwCl [oMo mo ma mh (nI hn) th mk mz mt (nI tn) (nI ax) sc ti pp, aI T ma 266 (upd (upd (meA al (meC al ck 26) (meS al ck zk 26) i) 131 (((meA al (meC al ck 26) (meS al ck zk 26) i) 131) + 1)) (26 + i) ((meC al ck 26) i)), aI T mk 26 (meC al ck 26), aI T mz 26 (meS al ck zk 26)] H := hP
          have hD : va_D A [oMo mo ma mh (nI hn) th mk mz mt (nI tn) (nI ax) sc ti pp, aI T ma 266 (upd (upd (meA al (meC al ck 26) (meS al ck zk 26) i) 131 (((meA al (meC al ck 26) (meS al ck zk 26) i) 131) + 1)) (26 + i) ((meC al ck 26) i)), aI T mk 26 (meC al ck 26), aI T mz 26 (meS al ck zk 26)] := hD
          refine lv_aload_n hx hb dX9_mergesFirst_201 rfl (lv_at hl 2 rfl) ?_
          refine va_get (D := D) (ci := 8) (v := .ref ma) (C := RX9) (T := TX9) (N := 12) hx hb hts iX9 hown hC.1 hP 0 rfl rfl 0 (by decide) (hts (.fieldLink RX9 7 "ParrotCountsModel" "all" "[I") (List.mem_of_getElem? (i := 1) rfl)) (fun _ h => h) rfl dX9_mergesFirst_202 ?_
          refine lv_bipush (v := 52) hx hb dX9_mergesFirst_205 (by decide) ?_
          refine lv_iload_n hx hb dX9_mergesFirst_207 rfl (lv_at hl 1 rfl) ?_
          refine lv_iadd hx hb dX9_mergesFirst_208 ?_
          refine W.eq (g2 := F0 m 209 ls (.int (nI (52 + i)) :: [.ref ma])) (congrArg (fun z => F0 m 209 ls (.int z :: [.ref ma])) (nI_add 52 i)) ?_
          refine lv_iload_n hx hb dX9_mergesFirst_209 rfl (lv_at hl 0 rfl) ?_
          refine lv_if_eq (tgt := 222) hx hb dX9_mergesFirst_210 (by decide) (fun c_x => absurd c_x (by decide : ¬ ((1 : Int32) = 0))) (fun _ => ?_)
          refine lv_aload_n hx hb dX9_mergesFirst_213 rfl (lv_at hl 2 rfl) ?_
          refine va_get (D := D) (ci := 8) (v := .ref mz) (C := RX9) (T := TX9) (N := 12) hx hb hts iX9 hown hC.1 hP 0 rfl rfl 5 (by decide) (hts (.fieldLink RX9 19 "ParrotCountsModel" "surpluses" "[I") (List.mem_of_getElem? (i := 3) rfl)) (fun _ h => h) rfl dX9_mergesFirst_214 ?_
          refine lv_iload_n hx hb dX9_mergesFirst_217 rfl (lv_at hl 1 rfl) ?_
          refine k_iald hx hb hC.1 hP 3 0 rfl rfl (by omega) dX9_mergesFirst_218 ?_
          refine lv_goto (tgt := 223) hx hb dX9_mergesFirst_219 (by decide) ?_
          refine k_iast hx hb hC.1 hP hD hS 1 0 rfl rfl (by omega) dX9_mergesFirst_223 (fun H locs hP hD hS => ?_)
          have hP : va_P D vwCl [oMo mo ma mh (nI hn) th mk mz mt (nI tn) (nI ax) sc ti pp, aI T ma 266 (upd (upd (upd (meA al (meC al ck 26) (meS al ck zk 26) i) 131 (((meA al (meC al ck 26) (meS al ck zk 26) i) 131) + 1)) (26 + i) ((meC al ck 26) i)) (52 + i) ((meS al ck zk 26) i)), aI T mk 26 (meC al ck 26), aI T mz 26 (meS al ck zk 26)] H := hP
          have hD : va_D A [oMo mo ma mh (nI hn) th mk mz mt (nI tn) (nI ax) sc ti pp, aI T ma 266 (upd (upd (upd (meA al (meC al ck 26) (meS al ck zk 26) i) 131 (((meA al (meC al ck 26) (meS al ck zk 26) i) 131) + 1)) (26 + i) ((meC al ck 26) i)) (52 + i) ((meS al ck zk 26) i)), aI T mk 26 (meC al ck 26), aI T mz 26 (meS al ck zk 26)] := hD
          refine lv_aload_n hx hb dX9_mergesFirst_224 rfl (lv_at hl 2 rfl) ?_
          refine va_get (D := D) (ci := 8) (v := .ref ma) (C := RX9) (T := TX9) (N := 12) hx hb hts iX9 hown hC.1 hP 0 rfl rfl 0 (by decide) (hts (.fieldLink RX9 7 "ParrotCountsModel" "all" "[I") (List.mem_of_getElem? (i := 1) rfl)) (fun _ h => h) rfl dX9_mergesFirst_225 ?_
          refine lv_bipush (v := 78) hx hb dX9_mergesFirst_228 (by decide) ?_
          refine lv_iload_n hx hb dX9_mergesFirst_230 rfl (lv_at hl 1 rfl) ?_
          refine lv_iadd hx hb dX9_mergesFirst_231 ?_
          refine W.eq (g2 := F0 m 232 ls (.int (nI (78 + i)) :: [.ref ma])) (congrArg (fun z => F0 m 232 ls (.int z :: [.ref ma])) (nI_add 78 i)) ?_
          refine lv_iload_n hx hb dX9_mergesFirst_232 rfl (lv_at hl 0 rfl) ?_
          refine lv_if_eq (tgt := 247) hx hb dX9_mergesFirst_233 (by decide) (fun c_x => absurd c_x (by decide : ¬ ((1 : Int32) = 0))) (fun _ => ?_)
          refine lv_aload_n hx hb dX9_mergesFirst_236 rfl (lv_at hl 2 rfl) ?_
          refine va_get (D := D) (ci := 8) (v := .ref ma) (C := RX9) (T := TX9) (N := 12) hx hb hts iX9 hown hC.1 hP 0 rfl rfl 0 (by decide) (hts (.fieldLink RX9 7 "ParrotCountsModel" "all" "[I") (List.mem_of_getElem? (i := 1) rfl)) (fun _ h => h) rfl dX9_mergesFirst_237 ?_
          refine lv_sipush (v := 131) hx hb dX9_mergesFirst_240 (by decide) ?_
          refine k_iald hx hb hC.1 hP 1 0 rfl rfl (by decide) dX9_mergesFirst_243 ?_
          refine lv_goto (tgt := 248) hx hb dX9_mergesFirst_244 (by decide) ?_
          refine k_iast hx hb hC.1 hP hD hS 1 0 rfl rfl (by omega) dX9_mergesFirst_248 (fun H locs hP hD hS => ?_)
          have hP : va_P D vwCl [oMo mo ma mh (nI hn) th mk mz mt (nI tn) (nI ax) sc ti pp, aI T ma 266 (upd (upd (upd (upd (meA al (meC al ck 26) (meS al ck zk 26) i) 131 (((meA al (meC al ck 26) (meS al ck zk 26) i) 131) + 1)) (26 + i) ((meC al ck 26) i)) (52 + i) ((meS al ck zk 26) i)) (78 + i) ((upd (upd (upd (meA al (meC al ck 26) (meS al ck zk 26) i) 131 (((meA al (meC al ck 26) (meS al ck zk 26) i) 131) + 1)) (26 + i) ((meC al ck 26) i)) (52 + i) ((meS al ck zk 26) i)) 131)), aI T mk 26 (meC al ck 26), aI T mz 26 (meS al ck zk 26)] H := hP
          have hD : va_D A [oMo mo ma mh (nI hn) th mk mz mt (nI tn) (nI ax) sc ti pp, aI T ma 266 (upd (upd (upd (upd (meA al (meC al ck 26) (meS al ck zk 26) i) 131 (((meA al (meC al ck 26) (meS al ck zk 26) i) 131) + 1)) (26 + i) ((meC al ck 26) i)) (52 + i) ((meS al ck zk 26) i)) (78 + i) ((upd (upd (upd (meA al (meC al ck 26) (meS al ck zk 26) i) 131 (((meA al (meC al ck 26) (meS al ck zk 26) i) 131) + 1)) (26 + i) ((meC al ck 26) i)) (52 + i) ((meS al ck zk 26) i)) 131)), aI T mk 26 (meC al ck 26), aI T mz 26 (meS al ck zk 26)] := hD
          refine lv_iinc (v := nI (i + 1)) (lv' := [(1, .int (nI (i + 1))), (2, .int 1), (0, .ref mo)]) hx hb dX9_mergesFirst_249 hl (k := 1) rfl (nI_1 i) (by decide) rfl (fun ls hl => ?_)
          refine lv_goto (tgt := 121) hx hb dX9_mergesFirst_252 (by decide) ?_
          have e_4 : upd (upd (upd (upd (meA al (meC al ck 26) (meS al ck zk 26) i) 131 (((meA al (meC al ck 26) (meS al ck zk 26) i) 131) + 1)) (26 + i) ((meC al ck 26) i)) (52 + i) ((meS al ck zk 26) i)) (78 + i) ((upd (upd (upd (meA al (meC al ck 26) (meS al ck zk 26) i) 131 (((meA al (meC al ck 26) (meS al ck zk 26) i) 131) + 1)) (26 + i) ((meC al ck 26) i)) (52 + i) ((meS al ck zk 26) i)) 131) = meA al (meC al ck 26) (meS al ck zk 26) (i + 1) := by first | with_reducible rfl | (simp [c133, c149]; done) | (have hq : meQ (meA al (meC al ck 26) (meS al ck zk 26) i) (meC al ck 26) i = true := (by simp [meQ, c133, c149]); rw [meA, hq]; rfl) | (have hq : meQ (meA al (meC al ck 26) (meS al ck zk 26) i) (meC al ck 26) i = false := (by simp [meQ, c133, c149]); rw [meA, hq]; simp [bI]; done)
          have eW := congrArg (fun zZ => ([oMo mo ma mh (nI hn) th mk mz mt (nI tn) (nI ax) sc ti pp, aI T ma 266 zZ, aI T mk 26 (meC al ck 26), aI T mz 26 (meS al ck zk 26)] : va_W)) e_4
          have hP : va_P D vwCl [oMo mo ma mh (nI hn) th mk mz mt (nI tn) (nI ax) sc ti pp, aI T ma 266 (meA al (meC al ck 26) (meS al ck zk 26) (i + 1)), aI T mk 26 (meC al ck 26), aI T mz 26 (meS al ck zk 26)] _ := Eq.subst (motive := fun w => va_P D vwCl w _) eW hP
          have hD : va_D A [oMo mo ma mh (nI hn) th mk mz mt (nI tn) (nI ax) sc ti pp, aI T ma 266 (meA al (meC al ck 26) (meS al ck zk 26) (i + 1)), aI T mk 26 (meC al ck 26), aI T mz 26 (meS al ck zk 26)] := Eq.subst (motive := fun w => va_D A w) eW hD
          have hl : lv_has ls 3 [(1, .int (nI (i + 1))), (0, .ref mo)] := lv_sub hl [0, 2] (by rfl)
          exact ih (i + 1) (by omega)  _ _ _ hP hD hS hl
  have loop_2 : ∀ (n i : Nat), i + n = 26 → ∀ (H : Heap) (locs : List Loc) (ls : Array Slot), va_P D vwCl [oMo mo ma mh (nI hn) th mk mz mt (nI tn) (nI ax) sc ti pp, aI T ma 266 al, aI T mk 26 (meC al ck i), aI T mz 26 (meS al ck zk i)] H → va_D A [oMo mo ma mh (nI hn) th mk mz mt (nI tn) (nI ax) sc ti pp, aI T ma 266 al, aI T mk 26 (meC al ck i), aI T mz 26 (meS al ck zk i)] → va_S A s.heap H locs → lv_has ls 3 [(1, .int (nI i)), (0, .ref mo)] → W p l e rX9_mergesFirst s m [.ref mo].toArray below meth c H locs 0 0 Q (F0 m 2 ls []) := by
    intro n
    induction n with
    | zero =>
      intro i hi  H locs ls hP hD hS hl
      have hi9 : 26 = i := by omega
      subst hi9
      refine lv_iload_n hx hb dX9_mergesFirst_2 rfl (lv_at hl 0 rfl) ?_
      refine lv_bipush (v := 26) hx hb dX9_mergesFirst_3 (by decide) ?_
      refine lv_icmp_ge (tgt := 110) hx hb dX9_mergesFirst_5 (by decide) (fun _ => ?_) (fun c_x => absurd (by decide : (26 : Int32) ≤ nI 26) c_x)
      refine lv_aload_n hx hb dX9_mergesFirst_110 rfl (lv_at hl 1 rfl) ?_
      refine va_get (D := D) (ci := 8) (v := .ref ma) (C := RX9) (T := TX9) (N := 12) hx hb hts iX9 hown hC.1 hP 0 rfl rfl 0 (by decide) (hts (.fieldLink RX9 7 "ParrotCountsModel" "all" "[I") (List.mem_of_getElem? (i := 1) rfl)) (fun _ h => h) rfl dX9_mergesFirst_111 ?_
      refine lv_sipush (v := 131) hx hb dX9_mergesFirst_114 (by decide) ?_
      refine lv_iconst (v := 0) hx hb dX9_mergesFirst_117 (by decide) ?_
      refine k_iast hx hb hC.1 hP hD hS 1 0 rfl rfl (by decide) dX9_mergesFirst_118 (fun H locs hP hD hS => ?_)
      have hP : va_P D vwCl [oMo mo ma mh (nI hn) th mk mz mt (nI tn) (nI ax) sc ti pp, aI T ma 266 (upd al 131 0), aI T mk 26 (meC al ck 26), aI T mz 26 (meS al ck zk 26)] H := hP
      have hD : va_D A [oMo mo ma mh (nI hn) th mk mz mt (nI tn) (nI ax) sc ti pp, aI T ma 266 (upd al 131 0), aI T mk 26 (meC al ck 26), aI T mz 26 (meS al ck zk 26)] := hD
      refine lv_iconst (v := 0) hx hb dX9_mergesFirst_119 (by decide) ?_
      refine lv_istore_n (lv' := [(1, .int 0), (0, .ref mo)]) hx hb dX9_mergesFirst_120 rfl hl (by decide) rfl (fun ls hl => ?_)
      have e_5 : upd al 131 0 = meA al (meC al ck 26) (meS al ck zk 26) 0 := by first | rfl | (rw [meA]; done)
      have eW := congrArg (fun zZ => ([oMo mo ma mh (nI hn) th mk mz mt (nI tn) (nI ax) sc ti pp, aI T ma 266 zZ, aI T mk 26 (meC al ck 26), aI T mz 26 (meS al ck zk 26)] : va_W)) e_5
      have hP : va_P D vwCl [oMo mo ma mh (nI hn) th mk mz mt (nI tn) (nI ax) sc ti pp, aI T ma 266 (meA al (meC al ck 26) (meS al ck zk 26) 0), aI T mk 26 (meC al ck 26), aI T mz 26 (meS al ck zk 26)] _ := Eq.subst (motive := fun w => va_P D vwCl w _) eW hP
      have hD : va_D A [oMo mo ma mh (nI hn) th mk mz mt (nI tn) (nI ax) sc ti pp, aI T ma 266 (meA al (meC al ck 26) (meS al ck zk 26) 0), aI T mk 26 (meC al ck 26), aI T mz 26 (meS al ck zk 26)] := Eq.subst (motive := fun w => va_D A w) eW hD
      have e_6 : (0 : Int32) = nI 0 := by first | rfl | (rw [meA]; done)
      have hl : lv_has ls 3 [(1, .int (nI 0)), (0, .ref mo)] := lv_sub hl [0, 1] (by show (_ : List (Nat × Value)) = [(1, .int (nI 0)), (0, .ref mo)]; rw [← e_6]; rfl)
      exact loop_121 26 0 (by omega)  _ _ _ hP hD hS hl
    | succ n ih =>
      intro i hi  H locs ls hP hD hS hl
      have hlt : i < 26 := by omega
      refine lv_iload_n hx hb dX9_mergesFirst_2 rfl (lv_at hl 0 rfl) ?_
      refine lv_bipush (v := 26) hx hb dX9_mergesFirst_3 (by decide) ?_
      refine lv_icmp_ge (tgt := 110) hx hb dX9_mergesFirst_5 (by decide) (fun c_x => absurd c_x (nI_ge (b := 26) hlt (by decide))) (fun _ => ?_)
      refine lv_aload_n hx hb dX9_mergesFirst_8 rfl (lv_at hl 1 rfl) ?_
      refine va_get (D := D) (ci := 8) (v := .ref ma) (C := RX9) (T := TX9) (N := 12) hx hb hts iX9 hown hC.1 hP 0 rfl rfl 0 (by decide) (hts (.fieldLink RX9 7 "ParrotCountsModel" "all" "[I") (List.mem_of_getElem? (i := 1) rfl)) (fun _ h => h) rfl dX9_mergesFirst_9 ?_
      refine lv_bipush (v := 26) hx hb dX9_mergesFirst_12 (by decide) ?_
      refine lv_iload_n hx hb dX9_mergesFirst_14 rfl (lv_at hl 0 rfl) ?_
      refine lv_iadd hx hb dX9_mergesFirst_15 ?_
      refine W.eq (g2 := F0 m 16 ls (.int (nI (26 + i)) :: [.ref ma])) (congrArg (fun z => F0 m 16 ls (.int z :: [.ref ma])) (nI_add 26 i)) ?_
      refine k_iald hx hb hC.1 hP 1 0 rfl rfl (by omega) dX9_mergesFirst_16 ?_
      refine lv_if_gt (tgt := 33) hx hb dX9_mergesFirst_17 (by decide) (fun c17 => ?_) (fun c17 => ?_)
      · have c17 := Int32.not_le.mpr c17
        refine lv_iconst (v := 1) hx hb dX9_mergesFirst_33 (by decide) ?_
        refine lv_goto (tgt := 38) hx hb dX9_mergesFirst_34 (by decide) ?_
        refine lv_istore_n (lv' := [(2, .int 1), (1, .int (nI i)), (0, .ref mo)]) hx hb dX9_mergesFirst_38 rfl hl (by decide) rfl (fun ls hl => ?_)
        refine lv_aload_n hx hb dX9_mergesFirst_39 rfl (lv_at hl 2 rfl) ?_
        refine va_get (D := D) (ci := 8) (v := .ref mk) (C := RX9) (T := TX9) (N := 12) hx hb hts iX9 hown hC.1 hP 0 rfl rfl 4 (by decide) (hts (.fieldLink RX9 16 "ParrotCountsModel" "counts" "[I") (List.mem_of_getElem? (i := 2) rfl)) (fun _ h => h) rfl dX9_mergesFirst_40 ?_
        refine lv_iload_n hx hb dX9_mergesFirst_43 rfl (lv_at hl 1 rfl) ?_
        refine lv_iload_n hx hb dX9_mergesFirst_44 rfl (lv_at hl 0 rfl) ?_
        refine lv_if_eq (tgt := 66) hx hb dX9_mergesFirst_45 (by decide) (fun c_x => absurd c_x (by decide : ¬ ((1 : Int32) = 0))) (fun _ => ?_)
        refine lv_aload_n hx hb dX9_mergesFirst_48 rfl (lv_at hl 2 rfl) ?_
        refine lv_iconst (v := 0) hx hb dX9_mergesFirst_49 (by decide) ?_
        refine lv_iload_n hx hb dX9_mergesFirst_50 rfl (lv_at hl 1 rfl) ?_
        have hP := hP.sub (ws' := [oMo mo ma mh (nI hn) th mk mz mt (nI tn) (nI ax) sc ti pp, aI T ma 266 al] ++ [aI T mk 26 (meC al ck i), aI T mz 26 (meS al ck zk i)]) [0, 1, 2, 3] rfl
        have hD := hD.sub (ws' := [oMo mo ma mh (nI hn) th mk mz mt (nI tn) (nI ax) sc ti pp, aI T ma 266 al] ++ [aI T mk 26 (meC al ck i), aI T mz 26 (meS al ck zk i)]) [0, 1, 2, 3] (by decide) rfl
        refine kV (ci := 8) (As := [.int 0, .int (nI i)]) (rest := [.int (nI i), .ref mk]) ⟨hx, hb, hml, hown, hts⟩ (c_X9_estimateBy l D T mo ma mh mk mz mt al hn th tn ax sc ti pp 0 cp i (by first | omega | assumption) (by first | omega | assumption) (by first | omega | assumption) (by first | omega | assumption)) (cwV 2 hts gX9_mergesFirst_X9_estimateBy rfl rfl rfl (by decide +kernel) ⟨Nat.le_of_ble_eq_true rfl, Nat.le_of_ble_eq_true rfl⟩) hC hP hD hS hA rfl rfl rfl hl.1 rfl (Nat.le_of_ble_eq_true rfl) dX9_mergesFirst_51 ⟨Nat.zero_le _, Nat.zero_le _⟩ (fun H locs hP hD hS => ?_)
        have hP : va_P D vwCl [oMo mo ma mh (nI hn) th mk mz mt (nI tn) (nI ax) sc ti pp, aI T ma 266 al, aI T mk 26 (meC al ck i), aI T mz 26 (meS al ck zk i)] H := hP
        have hD : va_D A [oMo mo ma mh (nI hn) th mk mz mt (nI tn) (nI ax) sc ti pp, aI T ma 266 al, aI T mk 26 (meC al ck i), aI T mz 26 (meS al ck zk i)] := hD
        refine W.eq (g2 := F0 m 54 ls [.int (mEst al 0 i), .int (nI i), .ref mk]) rfl ?_
        refine lv_aload_n hx hb dX9_mergesFirst_54 rfl (lv_at hl 2 rfl) ?_
        refine lv_sipush (v := 132) hx hb dX9_mergesFirst_55 (by decide) ?_
        refine lv_iload_n hx hb dX9_mergesFirst_58 rfl (lv_at hl 1 rfl) ?_
        have hP := hP.sub (ws' := [oMo mo ma mh (nI hn) th mk mz mt (nI tn) (nI ax) sc ti pp, aI T ma 266 al] ++ [aI T mk 26 (meC al ck i), aI T mz 26 (meS al ck zk i)]) [0, 1, 2, 3] rfl
        have hD := hD.sub (ws' := [oMo mo ma mh (nI hn) th mk mz mt (nI tn) (nI ax) sc ti pp, aI T ma 266 al] ++ [aI T mk 26 (meC al ck i), aI T mz 26 (meS al ck zk i)]) [0, 1, 2, 3] (by decide) rfl
        refine kV (ci := 8) (As := [.int 132, .int (nI i)]) (rest := [.int (mEst al 0 i), .int (nI i), .ref mk]) ⟨hx, hb, hml, hown, hts⟩ (c_X9_estimateBy l D T mo ma mh mk mz mt al hn th tn ax sc ti pp 132 cp i (by first | omega | assumption) (by first | omega | assumption) (by first | omega | assumption) (by first | omega | assumption)) (cwV 2 hts gX9_mergesFirst_X9_estimateBy rfl rfl rfl (by decide +kernel) ⟨Nat.le_of_ble_eq_true rfl, Nat.le_of_ble_eq_true rfl⟩) hC hP hD hS hA rfl rfl rfl hl.1 rfl (Nat.le_of_ble_eq_true rfl) dX9_mergesFirst_59 ⟨Nat.zero_le _, Nat.zero_le _⟩ (fun H locs hP hD hS => ?_)
        have hP : va_P D vwCl [oMo mo ma mh (nI hn) th mk mz mt (nI tn) (nI ax) sc ti pp, aI T ma 266 al, aI T mk 26 (meC al ck i), aI T mz 26 (meS al ck zk i)] H := hP
        have hD : va_D A [oMo mo ma mh (nI hn) th mk mz mt (nI tn) (nI ax) sc ti pp, aI T ma 266 al, aI T mk 26 (meC al ck i), aI T mz 26 (meS al ck zk i)] := hD
        refine W.eq (g2 := F0 m 62 ls [.int (mEst al 132 i), .int (mEst al 0 i), .int (nI i), .ref mk]) rfl ?_
        refine lv_iadd hx hb dX9_mergesFirst_62 ?_
        refine lv_goto (tgt := 67) hx hb dX9_mergesFirst_63 (by decide) ?_
        refine k_iast hx hb hC.1 hP hD hS 2 0 rfl rfl (by omega) dX9_mergesFirst_67 (fun H locs hP hD hS => ?_)
        have hP : va_P D vwCl [oMo mo ma mh (nI hn) th mk mz mt (nI tn) (nI ax) sc ti pp, aI T ma 266 al, aI T mk 26 (upd (meC al ck i) i ((mEst al 0 i) + (mEst al 132 i))), aI T mz 26 (meS al ck zk i)] H := hP
        have hD : va_D A [oMo mo ma mh (nI hn) th mk mz mt (nI tn) (nI ax) sc ti pp, aI T ma 266 al, aI T mk 26 (upd (meC al ck i) i ((mEst al 0 i) + (mEst al 132 i))), aI T mz 26 (meS al ck zk i)] := hD
        refine lv_aload_n hx hb dX9_mergesFirst_68 rfl (lv_at hl 2 rfl) ?_
        refine va_get (D := D) (ci := 8) (v := .ref mz) (C := RX9) (T := TX9) (N := 12) hx hb hts iX9 hown hC.1 hP 0 rfl rfl 5 (by decide) (hts (.fieldLink RX9 19 "ParrotCountsModel" "surpluses" "[I") (List.mem_of_getElem? (i := 3) rfl)) (fun _ h => h) rfl dX9_mergesFirst_69 ?_
        refine lv_iload_n hx hb dX9_mergesFirst_72 rfl (lv_at hl 1 rfl) ?_
        refine lv_iload_n hx hb dX9_mergesFirst_73 rfl (lv_at hl 0 rfl) ?_
        refine lv_if_eq (tgt := 102) hx hb dX9_mergesFirst_74 (by decide) (fun c_x => absurd c_x (by decide : ¬ ((1 : Int32) = 0))) (fun _ => ?_)
        refine lv_aload_n hx hb dX9_mergesFirst_77 rfl (lv_at hl 2 rfl) ?_
        refine va_get (D := D) (ci := 8) (v := .ref mk) (C := RX9) (T := TX9) (N := 12) hx hb hts iX9 hown hC.1 hP 0 rfl rfl 4 (by decide) (hts (.fieldLink RX9 16 "ParrotCountsModel" "counts" "[I") (List.mem_of_getElem? (i := 2) rfl)) (fun _ h => h) rfl dX9_mergesFirst_78 ?_
        refine lv_iload_n hx hb dX9_mergesFirst_81 rfl (lv_at hl 1 rfl) ?_
        refine k_iald hx hb hC.1 hP 2 0 rfl rfl (by omega) dX9_mergesFirst_82 ?_
        refine lv_aload_n hx hb dX9_mergesFirst_83 rfl (lv_at hl 2 rfl) ?_
        refine lv_iconst (v := 0) hx hb dX9_mergesFirst_84 (by decide) ?_
        refine lv_iload_n hx hb dX9_mergesFirst_85 rfl (lv_at hl 1 rfl) ?_
        have hP := hP.sub (ws' := [oMo mo ma mh (nI hn) th mk mz mt (nI tn) (nI ax) sc ti pp, aI T ma 266 al] ++ [aI T mk 26 (upd (meC al ck i) i ((mEst al 0 i) + (mEst al 132 i))), aI T mz 26 (meS al ck zk i)]) [0, 1, 2, 3] rfl
        have hD := hD.sub (ws' := [oMo mo ma mh (nI hn) th mk mz mt (nI tn) (nI ax) sc ti pp, aI T ma 266 al] ++ [aI T mk 26 (upd (meC al ck i) i ((mEst al 0 i) + (mEst al 132 i))), aI T mz 26 (meS al ck zk i)]) [0, 1, 2, 3] (by decide) rfl
        refine kV (ci := 8) (As := [.int 0, .int (nI i)]) (rest := [.int ((upd (meC al ck i) i ((mEst al 0 i) + (mEst al 132 i))) i), .int (nI i), .ref mz]) ⟨hx, hb, hml, hown, hts⟩ (c_X9_sureBy l D T mo ma mh mk mz mt al hn th tn ax sc ti pp 0 i (by first | omega | assumption) (by first | omega | assumption)) (cwV 2 hts gX9_mergesFirst_X9_sureBy rfl rfl rfl (by decide +kernel) ⟨Nat.le_of_ble_eq_true rfl, Nat.le_of_ble_eq_true rfl⟩) hC hP hD hS hA rfl rfl rfl hl.1 rfl (Nat.le_of_ble_eq_true rfl) dX9_mergesFirst_86 ⟨Nat.zero_le _, Nat.zero_le _⟩ (fun H locs hP hD hS => ?_)
        have hP : va_P D vwCl [oMo mo ma mh (nI hn) th mk mz mt (nI tn) (nI ax) sc ti pp, aI T ma 266 al, aI T mk 26 (upd (meC al ck i) i ((mEst al 0 i) + (mEst al 132 i))), aI T mz 26 (meS al ck zk i)] H := hP
        have hD : va_D A [oMo mo ma mh (nI hn) th mk mz mt (nI tn) (nI ax) sc ti pp, aI T ma 266 al, aI T mk 26 (upd (meC al ck i) i ((mEst al 0 i) + (mEst al 132 i))), aI T mz 26 (meS al ck zk i)] := hD
        refine W.eq (g2 := F0 m 89 ls [.int (mSure al 0 i), .int ((upd (meC al ck i) i ((mEst al 0 i) + (mEst al 132 i))) i), .int (nI i), .ref mz]) rfl ?_
        refine lv_isub hx hb dX9_mergesFirst_89 ?_
        refine lv_aload_n hx hb dX9_mergesFirst_90 rfl (lv_at hl 2 rfl) ?_
        refine lv_sipush (v := 132) hx hb dX9_mergesFirst_91 (by decide) ?_
        refine lv_iload_n hx hb dX9_mergesFirst_94 rfl (lv_at hl 1 rfl) ?_
        have hP := hP.sub (ws' := [oMo mo ma mh (nI hn) th mk mz mt (nI tn) (nI ax) sc ti pp, aI T ma 266 al] ++ [aI T mk 26 (upd (meC al ck i) i ((mEst al 0 i) + (mEst al 132 i))), aI T mz 26 (meS al ck zk i)]) [0, 1, 2, 3] rfl
        have hD := hD.sub (ws' := [oMo mo ma mh (nI hn) th mk mz mt (nI tn) (nI ax) sc ti pp, aI T ma 266 al] ++ [aI T mk 26 (upd (meC al ck i) i ((mEst al 0 i) + (mEst al 132 i))), aI T mz 26 (meS al ck zk i)]) [0, 1, 2, 3] (by decide) rfl
        refine kV (ci := 8) (As := [.int 132, .int (nI i)]) (rest := [.int (((upd (meC al ck i) i ((mEst al 0 i) + (mEst al 132 i))) i) - (mSure al 0 i)), .int (nI i), .ref mz]) ⟨hx, hb, hml, hown, hts⟩ (c_X9_sureBy l D T mo ma mh mk mz mt al hn th tn ax sc ti pp 132 i (by first | omega | assumption) (by first | omega | assumption)) (cwV 2 hts gX9_mergesFirst_X9_sureBy rfl rfl rfl (by decide +kernel) ⟨Nat.le_of_ble_eq_true rfl, Nat.le_of_ble_eq_true rfl⟩) hC hP hD hS hA rfl rfl rfl hl.1 rfl (Nat.le_of_ble_eq_true rfl) dX9_mergesFirst_95 ⟨Nat.zero_le _, Nat.zero_le _⟩ (fun H locs hP hD hS => ?_)
        have hP : va_P D vwCl [oMo mo ma mh (nI hn) th mk mz mt (nI tn) (nI ax) sc ti pp, aI T ma 266 al, aI T mk 26 (upd (meC al ck i) i ((mEst al 0 i) + (mEst al 132 i))), aI T mz 26 (meS al ck zk i)] H := hP
        have hD : va_D A [oMo mo ma mh (nI hn) th mk mz mt (nI tn) (nI ax) sc ti pp, aI T ma 266 al, aI T mk 26 (upd (meC al ck i) i ((mEst al 0 i) + (mEst al 132 i))), aI T mz 26 (meS al ck zk i)] := hD
        refine W.eq (g2 := F0 m 98 ls [.int (mSure al 132 i), .int (((upd (meC al ck i) i ((mEst al 0 i) + (mEst al 132 i))) i) - (mSure al 0 i)), .int (nI i), .ref mz]) rfl ?_
        refine lv_isub hx hb dX9_mergesFirst_98 ?_
        refine lv_goto (tgt := 103) hx hb dX9_mergesFirst_99 (by decide) ?_
        refine k_iast hx hb hC.1 hP hD hS 3 0 rfl rfl (by omega) dX9_mergesFirst_103 (fun H locs hP hD hS => ?_)
        have hP : va_P D vwCl [oMo mo ma mh (nI hn) th mk mz mt (nI tn) (nI ax) sc ti pp, aI T ma 266 al, aI T mk 26 (upd (meC al ck i) i ((mEst al 0 i) + (mEst al 132 i))), aI T mz 26 (upd (meS al ck zk i) i ((((upd (meC al ck i) i ((mEst al 0 i) + (mEst al 132 i))) i) - (mSure al 0 i)) - (mSure al 132 i)))] H := hP
        have hD : va_D A [oMo mo ma mh (nI hn) th mk mz mt (nI tn) (nI ax) sc ti pp, aI T ma 266 al, aI T mk 26 (upd (meC al ck i) i ((mEst al 0 i) + (mEst al 132 i))), aI T mz 26 (upd (meS al ck zk i) i ((((upd (meC al ck i) i ((mEst al 0 i) + (mEst al 132 i))) i) - (mSure al 0 i)) - (mSure al 132 i)))] := hD
        refine lv_iinc (v := nI (i + 1)) (lv' := [(1, .int (nI (i + 1))), (2, .int 1), (0, .ref mo)]) hx hb dX9_mergesFirst_104 hl (k := 1) rfl (nI_1 i) (by decide) rfl (fun ls hl => ?_)
        refine lv_goto (tgt := 2) hx hb dX9_mergesFirst_107 (by decide) ?_
        have e_7 : upd (meC al ck i) i ((mEst al 0 i) + (mEst al 132 i)) = meC al ck (i + 1) := by first | with_reducible rfl | (simp [pk_us, c17]; done) | (rw [meC, if_pos (show meI al i = true from by simp [meI, c17])]; done) | (rw [meC, if_neg (show ¬ meI al i = true from by simp [meI, c17])]; done) | (rw [meS, meC, if_pos (show meI al i = true from by simp [meI, c17]), if_pos (show meI al i = true from by simp [meI, c17]), pk_us]; done) | (rw [meS, if_neg (show ¬ meI al i = true from by simp [meI, c17])]; done)
        have e_8 : upd (meS al ck zk i) i ((((upd (meC al ck i) i ((mEst al 0 i) + (mEst al 132 i))) i) - (mSure al 0 i)) - (mSure al 132 i)) = meS al ck zk (i + 1) := by first | with_reducible rfl | (simp [pk_us, c17]; done) | (rw [meC, if_pos (show meI al i = true from by simp [meI, c17])]; done) | (rw [meC, if_neg (show ¬ meI al i = true from by simp [meI, c17])]; done) | (rw [meS, meC, if_pos (show meI al i = true from by simp [meI, c17]), if_pos (show meI al i = true from by simp [meI, c17]), pk_us]; done) | (rw [meS, if_neg (show ¬ meI al i = true from by simp [meI, c17])]; done)
        have eW := (congrArg (fun zZ => ([oMo mo ma mh (nI hn) th mk mz mt (nI tn) (nI ax) sc ti pp, aI T ma 266 al, aI T mk 26 zZ, aI T mz 26 (upd (meS al ck zk i) i ((((upd (meC al ck i) i ((mEst al 0 i) + (mEst al 132 i))) i) - (mSure al 0 i)) - (mSure al 132 i)))] : va_W)) e_7).trans (congrArg (fun zZ => ([oMo mo ma mh (nI hn) th mk mz mt (nI tn) (nI ax) sc ti pp, aI T ma 266 al, aI T mk 26 (meC al ck (i + 1)), aI T mz 26 zZ] : va_W)) e_8)
        have hP : va_P D vwCl [oMo mo ma mh (nI hn) th mk mz mt (nI tn) (nI ax) sc ti pp, aI T ma 266 al, aI T mk 26 (meC al ck (i + 1)), aI T mz 26 (meS al ck zk (i + 1))] _ := Eq.subst (motive := fun w => va_P D vwCl w _) eW hP
        have hD : va_D A [oMo mo ma mh (nI hn) th mk mz mt (nI tn) (nI ax) sc ti pp, aI T ma 266 al, aI T mk 26 (meC al ck (i + 1)), aI T mz 26 (meS al ck zk (i + 1))] := Eq.subst (motive := fun w => va_D A w) eW hD
        have hl : lv_has ls 3 [(1, .int (nI (i + 1))), (0, .ref mo)] := lv_sub hl [0, 2] (by rfl)
        exact ih (i + 1) (by omega)  _ _ _ hP hD hS hl
      · have c17 := Int32.not_lt.mp c17
        refine lv_aload_n hx hb dX9_mergesFirst_20 rfl (lv_at hl 1 rfl) ?_
        refine va_get (D := D) (ci := 8) (v := .ref ma) (C := RX9) (T := TX9) (N := 12) hx hb hts iX9 hown hC.1 hP 0 rfl rfl 0 (by decide) (hts (.fieldLink RX9 7 "ParrotCountsModel" "all" "[I") (List.mem_of_getElem? (i := 1) rfl)) (fun _ h => h) rfl dX9_mergesFirst_21 ?_
        refine lv_sipush (v := 158) hx hb dX9_mergesFirst_24 (by decide) ?_
        refine lv_iload_n hx hb dX9_mergesFirst_27 rfl (lv_at hl 0 rfl) ?_
        refine lv_iadd hx hb dX9_mergesFirst_28 ?_
        refine W.eq (g2 := F0 m 29 ls (.int (nI (158 + i)) :: [.ref ma])) (congrArg (fun z => F0 m 29 ls (.int z :: [.ref ma])) (nI_add 158 i)) ?_
        refine k_iald hx hb hC.1 hP 1 0 rfl rfl (by omega) dX9_mergesFirst_29 ?_
        refine lv_if_le (tgt := 37) hx hb dX9_mergesFirst_30 (by decide) (fun c30 => ?_) (fun c30 => ?_)
        · refine lv_iconst (v := 0) hx hb dX9_mergesFirst_37 (by decide) ?_
          refine lv_istore_n (lv' := [(2, .int 0), (1, .int (nI i)), (0, .ref mo)]) hx hb dX9_mergesFirst_38 rfl hl (by decide) rfl (fun ls hl => ?_)
          refine lv_aload_n hx hb dX9_mergesFirst_39 rfl (lv_at hl 2 rfl) ?_
          refine va_get (D := D) (ci := 8) (v := .ref mk) (C := RX9) (T := TX9) (N := 12) hx hb hts iX9 hown hC.1 hP 0 rfl rfl 4 (by decide) (hts (.fieldLink RX9 16 "ParrotCountsModel" "counts" "[I") (List.mem_of_getElem? (i := 2) rfl)) (fun _ h => h) rfl dX9_mergesFirst_40 ?_
          refine lv_iload_n hx hb dX9_mergesFirst_43 rfl (lv_at hl 1 rfl) ?_
          refine lv_iload_n hx hb dX9_mergesFirst_44 rfl (lv_at hl 0 rfl) ?_
          refine lv_if_eq (tgt := 66) hx hb dX9_mergesFirst_45 (by decide) (fun _ => ?_) (fun c_x => absurd (by decide : ((0 : Int32) = 0)) c_x)
          refine lv_iconst (v := 0) hx hb dX9_mergesFirst_66 (by decide) ?_
          refine k_iast hx hb hC.1 hP hD hS 2 0 rfl rfl (by omega) dX9_mergesFirst_67 (fun H locs hP hD hS => ?_)
          have hP : va_P D vwCl [oMo mo ma mh (nI hn) th mk mz mt (nI tn) (nI ax) sc ti pp, aI T ma 266 al, aI T mk 26 (upd (meC al ck i) i 0), aI T mz 26 (meS al ck zk i)] H := hP
          have hD : va_D A [oMo mo ma mh (nI hn) th mk mz mt (nI tn) (nI ax) sc ti pp, aI T ma 266 al, aI T mk 26 (upd (meC al ck i) i 0), aI T mz 26 (meS al ck zk i)] := hD
          refine lv_aload_n hx hb dX9_mergesFirst_68 rfl (lv_at hl 2 rfl) ?_
          refine va_get (D := D) (ci := 8) (v := .ref mz) (C := RX9) (T := TX9) (N := 12) hx hb hts iX9 hown hC.1 hP 0 rfl rfl 5 (by decide) (hts (.fieldLink RX9 19 "ParrotCountsModel" "surpluses" "[I") (List.mem_of_getElem? (i := 3) rfl)) (fun _ h => h) rfl dX9_mergesFirst_69 ?_
          refine lv_iload_n hx hb dX9_mergesFirst_72 rfl (lv_at hl 1 rfl) ?_
          refine lv_iload_n hx hb dX9_mergesFirst_73 rfl (lv_at hl 0 rfl) ?_
          refine lv_if_eq (tgt := 102) hx hb dX9_mergesFirst_74 (by decide) (fun _ => ?_) (fun c_x => absurd (by decide : ((0 : Int32) = 0)) c_x)
          refine lv_iconst (v := 0) hx hb dX9_mergesFirst_102 (by decide) ?_
          refine k_iast hx hb hC.1 hP hD hS 3 0 rfl rfl (by omega) dX9_mergesFirst_103 (fun H locs hP hD hS => ?_)
          have hP : va_P D vwCl [oMo mo ma mh (nI hn) th mk mz mt (nI tn) (nI ax) sc ti pp, aI T ma 266 al, aI T mk 26 (upd (meC al ck i) i 0), aI T mz 26 (upd (meS al ck zk i) i 0)] H := hP
          have hD : va_D A [oMo mo ma mh (nI hn) th mk mz mt (nI tn) (nI ax) sc ti pp, aI T ma 266 al, aI T mk 26 (upd (meC al ck i) i 0), aI T mz 26 (upd (meS al ck zk i) i 0)] := hD
          refine lv_iinc (v := nI (i + 1)) (lv' := [(1, .int (nI (i + 1))), (2, .int 0), (0, .ref mo)]) hx hb dX9_mergesFirst_104 hl (k := 1) rfl (nI_1 i) (by decide) rfl (fun ls hl => ?_)
          refine lv_goto (tgt := 2) hx hb dX9_mergesFirst_107 (by decide) ?_
          have e_9 : upd (meC al ck i) i 0 = meC al ck (i + 1) := by first | with_reducible rfl | (simp [pk_us, c17, c30]; done) | (rw [meC, if_pos (show meI al i = true from by simp [meI, c17, c30])]; done) | (rw [meC, if_neg (show ¬ meI al i = true from by simp [meI, c17, c30])]; done) | (rw [meS, meC, if_pos (show meI al i = true from by simp [meI, c17, c30]), if_pos (show meI al i = true from by simp [meI, c17, c30]), pk_us]; done) | (rw [meS, if_neg (show ¬ meI al i = true from by simp [meI, c17, c30])]; done)
          have e_10 : upd (meS al ck zk i) i 0 = meS al ck zk (i + 1) := by first | with_reducible rfl | (simp [pk_us, c17, c30]; done) | (rw [meC, if_pos (show meI al i = true from by simp [meI, c17, c30])]; done) | (rw [meC, if_neg (show ¬ meI al i = true from by simp [meI, c17, c30])]; done) | (rw [meS, meC, if_pos (show meI al i = true from by simp [meI, c17, c30]), if_pos (show meI al i = true from by simp [meI, c17, c30]), pk_us]; done) | (rw [meS, if_neg (show ¬ meI al i = true from by simp [meI, c17, c30])]; done)
          have eW := (congrArg (fun zZ => ([oMo mo ma mh (nI hn) th mk mz mt (nI tn) (nI ax) sc ti pp, aI T ma 266 al, aI T mk 26 zZ, aI T mz 26 (upd (meS al ck zk i) i 0)] : va_W)) e_9).trans (congrArg (fun zZ => ([oMo mo ma mh (nI hn) th mk mz mt (nI tn) (nI ax) sc ti pp, aI T ma 266 al, aI T mk 26 (meC al ck (i + 1)), aI T mz 26 zZ] : va_W)) e_10)
          have hP : va_P D vwCl [oMo mo ma mh (nI hn) th mk mz mt (nI tn) (nI ax) sc ti pp, aI T ma 266 al, aI T mk 26 (meC al ck (i + 1)), aI T mz 26 (meS al ck zk (i + 1))] _ := Eq.subst (motive := fun w => va_P D vwCl w _) eW hP
          have hD : va_D A [oMo mo ma mh (nI hn) th mk mz mt (nI tn) (nI ax) sc ti pp, aI T ma 266 al, aI T mk 26 (meC al ck (i + 1)), aI T mz 26 (meS al ck zk (i + 1))] := Eq.subst (motive := fun w => va_D A w) eW hD
          have hl : lv_has ls 3 [(1, .int (nI (i + 1))), (0, .ref mo)] := lv_sub hl [0, 2] (by rfl)
          exact ih (i + 1) (by omega)  _ _ _ hP hD hS hl
        · refine lv_iconst (v := 1) hx hb dX9_mergesFirst_33 (by decide) ?_
          refine lv_goto (tgt := 38) hx hb dX9_mergesFirst_34 (by decide) ?_
          refine lv_istore_n (lv' := [(2, .int 1), (1, .int (nI i)), (0, .ref mo)]) hx hb dX9_mergesFirst_38 rfl hl (by decide) rfl (fun ls hl => ?_)
          refine lv_aload_n hx hb dX9_mergesFirst_39 rfl (lv_at hl 2 rfl) ?_
          refine va_get (D := D) (ci := 8) (v := .ref mk) (C := RX9) (T := TX9) (N := 12) hx hb hts iX9 hown hC.1 hP 0 rfl rfl 4 (by decide) (hts (.fieldLink RX9 16 "ParrotCountsModel" "counts" "[I") (List.mem_of_getElem? (i := 2) rfl)) (fun _ h => h) rfl dX9_mergesFirst_40 ?_
          refine lv_iload_n hx hb dX9_mergesFirst_43 rfl (lv_at hl 1 rfl) ?_
          refine lv_iload_n hx hb dX9_mergesFirst_44 rfl (lv_at hl 0 rfl) ?_
          refine lv_if_eq (tgt := 66) hx hb dX9_mergesFirst_45 (by decide) (fun c_x => absurd c_x (by decide : ¬ ((1 : Int32) = 0))) (fun _ => ?_)
          refine lv_aload_n hx hb dX9_mergesFirst_48 rfl (lv_at hl 2 rfl) ?_
          refine lv_iconst (v := 0) hx hb dX9_mergesFirst_49 (by decide) ?_
          refine lv_iload_n hx hb dX9_mergesFirst_50 rfl (lv_at hl 1 rfl) ?_
          have hP := hP.sub (ws' := [oMo mo ma mh (nI hn) th mk mz mt (nI tn) (nI ax) sc ti pp, aI T ma 266 al] ++ [aI T mk 26 (meC al ck i), aI T mz 26 (meS al ck zk i)]) [0, 1, 2, 3] rfl
          have hD := hD.sub (ws' := [oMo mo ma mh (nI hn) th mk mz mt (nI tn) (nI ax) sc ti pp, aI T ma 266 al] ++ [aI T mk 26 (meC al ck i), aI T mz 26 (meS al ck zk i)]) [0, 1, 2, 3] (by decide) rfl
          refine kV (ci := 8) (As := [.int 0, .int (nI i)]) (rest := [.int (nI i), .ref mk]) ⟨hx, hb, hml, hown, hts⟩ (c_X9_estimateBy l D T mo ma mh mk mz mt al hn th tn ax sc ti pp 0 cp i (by first | omega | assumption) (by first | omega | assumption) (by first | omega | assumption) (by first | omega | assumption)) (cwV 2 hts gX9_mergesFirst_X9_estimateBy rfl rfl rfl (by decide +kernel) ⟨Nat.le_of_ble_eq_true rfl, Nat.le_of_ble_eq_true rfl⟩) hC hP hD hS hA rfl rfl rfl hl.1 rfl (Nat.le_of_ble_eq_true rfl) dX9_mergesFirst_51 ⟨Nat.zero_le _, Nat.zero_le _⟩ (fun H locs hP hD hS => ?_)
          have hP : va_P D vwCl [oMo mo ma mh (nI hn) th mk mz mt (nI tn) (nI ax) sc ti pp, aI T ma 266 al, aI T mk 26 (meC al ck i), aI T mz 26 (meS al ck zk i)] H := hP
          have hD : va_D A [oMo mo ma mh (nI hn) th mk mz mt (nI tn) (nI ax) sc ti pp, aI T ma 266 al, aI T mk 26 (meC al ck i), aI T mz 26 (meS al ck zk i)] := hD
          refine W.eq (g2 := F0 m 54 ls [.int (mEst al 0 i), .int (nI i), .ref mk]) rfl ?_
          refine lv_aload_n hx hb dX9_mergesFirst_54 rfl (lv_at hl 2 rfl) ?_
          refine lv_sipush (v := 132) hx hb dX9_mergesFirst_55 (by decide) ?_
          refine lv_iload_n hx hb dX9_mergesFirst_58 rfl (lv_at hl 1 rfl) ?_
          have hP := hP.sub (ws' := [oMo mo ma mh (nI hn) th mk mz mt (nI tn) (nI ax) sc ti pp, aI T ma 266 al] ++ [aI T mk 26 (meC al ck i), aI T mz 26 (meS al ck zk i)]) [0, 1, 2, 3] rfl
          have hD := hD.sub (ws' := [oMo mo ma mh (nI hn) th mk mz mt (nI tn) (nI ax) sc ti pp, aI T ma 266 al] ++ [aI T mk 26 (meC al ck i), aI T mz 26 (meS al ck zk i)]) [0, 1, 2, 3] (by decide) rfl
          refine kV (ci := 8) (As := [.int 132, .int (nI i)]) (rest := [.int (mEst al 0 i), .int (nI i), .ref mk]) ⟨hx, hb, hml, hown, hts⟩ (c_X9_estimateBy l D T mo ma mh mk mz mt al hn th tn ax sc ti pp 132 cp i (by first | omega | assumption) (by first | omega | assumption) (by first | omega | assumption) (by first | omega | assumption)) (cwV 2 hts gX9_mergesFirst_X9_estimateBy rfl rfl rfl (by decide +kernel) ⟨Nat.le_of_ble_eq_true rfl, Nat.le_of_ble_eq_true rfl⟩) hC hP hD hS hA rfl rfl rfl hl.1 rfl (Nat.le_of_ble_eq_true rfl) dX9_mergesFirst_59 ⟨Nat.zero_le _, Nat.zero_le _⟩ (fun H locs hP hD hS => ?_)
          have hP : va_P D vwCl [oMo mo ma mh (nI hn) th mk mz mt (nI tn) (nI ax) sc ti pp, aI T ma 266 al, aI T mk 26 (meC al ck i), aI T mz 26 (meS al ck zk i)] H := hP
          have hD : va_D A [oMo mo ma mh (nI hn) th mk mz mt (nI tn) (nI ax) sc ti pp, aI T ma 266 al, aI T mk 26 (meC al ck i), aI T mz 26 (meS al ck zk i)] := hD
          refine W.eq (g2 := F0 m 62 ls [.int (mEst al 132 i), .int (mEst al 0 i), .int (nI i), .ref mk]) rfl ?_
          refine lv_iadd hx hb dX9_mergesFirst_62 ?_
          refine lv_goto (tgt := 67) hx hb dX9_mergesFirst_63 (by decide) ?_
          refine k_iast hx hb hC.1 hP hD hS 2 0 rfl rfl (by omega) dX9_mergesFirst_67 (fun H locs hP hD hS => ?_)
          have hP : va_P D vwCl [oMo mo ma mh (nI hn) th mk mz mt (nI tn) (nI ax) sc ti pp, aI T ma 266 al, aI T mk 26 (upd (meC al ck i) i ((mEst al 0 i) + (mEst al 132 i))), aI T mz 26 (meS al ck zk i)] H := hP
          have hD : va_D A [oMo mo ma mh (nI hn) th mk mz mt (nI tn) (nI ax) sc ti pp, aI T ma 266 al, aI T mk 26 (upd (meC al ck i) i ((mEst al 0 i) + (mEst al 132 i))), aI T mz 26 (meS al ck zk i)] := hD
          refine lv_aload_n hx hb dX9_mergesFirst_68 rfl (lv_at hl 2 rfl) ?_
          refine va_get (D := D) (ci := 8) (v := .ref mz) (C := RX9) (T := TX9) (N := 12) hx hb hts iX9 hown hC.1 hP 0 rfl rfl 5 (by decide) (hts (.fieldLink RX9 19 "ParrotCountsModel" "surpluses" "[I") (List.mem_of_getElem? (i := 3) rfl)) (fun _ h => h) rfl dX9_mergesFirst_69 ?_
          refine lv_iload_n hx hb dX9_mergesFirst_72 rfl (lv_at hl 1 rfl) ?_
          refine lv_iload_n hx hb dX9_mergesFirst_73 rfl (lv_at hl 0 rfl) ?_
          refine lv_if_eq (tgt := 102) hx hb dX9_mergesFirst_74 (by decide) (fun c_x => absurd c_x (by decide : ¬ ((1 : Int32) = 0))) (fun _ => ?_)
          refine lv_aload_n hx hb dX9_mergesFirst_77 rfl (lv_at hl 2 rfl) ?_
          refine va_get (D := D) (ci := 8) (v := .ref mk) (C := RX9) (T := TX9) (N := 12) hx hb hts iX9 hown hC.1 hP 0 rfl rfl 4 (by decide) (hts (.fieldLink RX9 16 "ParrotCountsModel" "counts" "[I") (List.mem_of_getElem? (i := 2) rfl)) (fun _ h => h) rfl dX9_mergesFirst_78 ?_
          refine lv_iload_n hx hb dX9_mergesFirst_81 rfl (lv_at hl 1 rfl) ?_
          refine k_iald hx hb hC.1 hP 2 0 rfl rfl (by omega) dX9_mergesFirst_82 ?_
          refine lv_aload_n hx hb dX9_mergesFirst_83 rfl (lv_at hl 2 rfl) ?_
          refine lv_iconst (v := 0) hx hb dX9_mergesFirst_84 (by decide) ?_
          refine lv_iload_n hx hb dX9_mergesFirst_85 rfl (lv_at hl 1 rfl) ?_
          have hP := hP.sub (ws' := [oMo mo ma mh (nI hn) th mk mz mt (nI tn) (nI ax) sc ti pp, aI T ma 266 al] ++ [aI T mk 26 (upd (meC al ck i) i ((mEst al 0 i) + (mEst al 132 i))), aI T mz 26 (meS al ck zk i)]) [0, 1, 2, 3] rfl
          have hD := hD.sub (ws' := [oMo mo ma mh (nI hn) th mk mz mt (nI tn) (nI ax) sc ti pp, aI T ma 266 al] ++ [aI T mk 26 (upd (meC al ck i) i ((mEst al 0 i) + (mEst al 132 i))), aI T mz 26 (meS al ck zk i)]) [0, 1, 2, 3] (by decide) rfl
          refine kV (ci := 8) (As := [.int 0, .int (nI i)]) (rest := [.int ((upd (meC al ck i) i ((mEst al 0 i) + (mEst al 132 i))) i), .int (nI i), .ref mz]) ⟨hx, hb, hml, hown, hts⟩ (c_X9_sureBy l D T mo ma mh mk mz mt al hn th tn ax sc ti pp 0 i (by first | omega | assumption) (by first | omega | assumption)) (cwV 2 hts gX9_mergesFirst_X9_sureBy rfl rfl rfl (by decide +kernel) ⟨Nat.le_of_ble_eq_true rfl, Nat.le_of_ble_eq_true rfl⟩) hC hP hD hS hA rfl rfl rfl hl.1 rfl (Nat.le_of_ble_eq_true rfl) dX9_mergesFirst_86 ⟨Nat.zero_le _, Nat.zero_le _⟩ (fun H locs hP hD hS => ?_)
          have hP : va_P D vwCl [oMo mo ma mh (nI hn) th mk mz mt (nI tn) (nI ax) sc ti pp, aI T ma 266 al, aI T mk 26 (upd (meC al ck i) i ((mEst al 0 i) + (mEst al 132 i))), aI T mz 26 (meS al ck zk i)] H := hP
          have hD : va_D A [oMo mo ma mh (nI hn) th mk mz mt (nI tn) (nI ax) sc ti pp, aI T ma 266 al, aI T mk 26 (upd (meC al ck i) i ((mEst al 0 i) + (mEst al 132 i))), aI T mz 26 (meS al ck zk i)] := hD
          refine W.eq (g2 := F0 m 89 ls [.int (mSure al 0 i), .int ((upd (meC al ck i) i ((mEst al 0 i) + (mEst al 132 i))) i), .int (nI i), .ref mz]) rfl ?_
          refine lv_isub hx hb dX9_mergesFirst_89 ?_
          refine lv_aload_n hx hb dX9_mergesFirst_90 rfl (lv_at hl 2 rfl) ?_
          refine lv_sipush (v := 132) hx hb dX9_mergesFirst_91 (by decide) ?_
          refine lv_iload_n hx hb dX9_mergesFirst_94 rfl (lv_at hl 1 rfl) ?_
          have hP := hP.sub (ws' := [oMo mo ma mh (nI hn) th mk mz mt (nI tn) (nI ax) sc ti pp, aI T ma 266 al] ++ [aI T mk 26 (upd (meC al ck i) i ((mEst al 0 i) + (mEst al 132 i))), aI T mz 26 (meS al ck zk i)]) [0, 1, 2, 3] rfl
          have hD := hD.sub (ws' := [oMo mo ma mh (nI hn) th mk mz mt (nI tn) (nI ax) sc ti pp, aI T ma 266 al] ++ [aI T mk 26 (upd (meC al ck i) i ((mEst al 0 i) + (mEst al 132 i))), aI T mz 26 (meS al ck zk i)]) [0, 1, 2, 3] (by decide) rfl
          refine kV (ci := 8) (As := [.int 132, .int (nI i)]) (rest := [.int (((upd (meC al ck i) i ((mEst al 0 i) + (mEst al 132 i))) i) - (mSure al 0 i)), .int (nI i), .ref mz]) ⟨hx, hb, hml, hown, hts⟩ (c_X9_sureBy l D T mo ma mh mk mz mt al hn th tn ax sc ti pp 132 i (by first | omega | assumption) (by first | omega | assumption)) (cwV 2 hts gX9_mergesFirst_X9_sureBy rfl rfl rfl (by decide +kernel) ⟨Nat.le_of_ble_eq_true rfl, Nat.le_of_ble_eq_true rfl⟩) hC hP hD hS hA rfl rfl rfl hl.1 rfl (Nat.le_of_ble_eq_true rfl) dX9_mergesFirst_95 ⟨Nat.zero_le _, Nat.zero_le _⟩ (fun H locs hP hD hS => ?_)
          have hP : va_P D vwCl [oMo mo ma mh (nI hn) th mk mz mt (nI tn) (nI ax) sc ti pp, aI T ma 266 al, aI T mk 26 (upd (meC al ck i) i ((mEst al 0 i) + (mEst al 132 i))), aI T mz 26 (meS al ck zk i)] H := hP
          have hD : va_D A [oMo mo ma mh (nI hn) th mk mz mt (nI tn) (nI ax) sc ti pp, aI T ma 266 al, aI T mk 26 (upd (meC al ck i) i ((mEst al 0 i) + (mEst al 132 i))), aI T mz 26 (meS al ck zk i)] := hD
          refine W.eq (g2 := F0 m 98 ls [.int (mSure al 132 i), .int (((upd (meC al ck i) i ((mEst al 0 i) + (mEst al 132 i))) i) - (mSure al 0 i)), .int (nI i), .ref mz]) rfl ?_
          refine lv_isub hx hb dX9_mergesFirst_98 ?_
          refine lv_goto (tgt := 103) hx hb dX9_mergesFirst_99 (by decide) ?_
          refine k_iast hx hb hC.1 hP hD hS 3 0 rfl rfl (by omega) dX9_mergesFirst_103 (fun H locs hP hD hS => ?_)
          have hP : va_P D vwCl [oMo mo ma mh (nI hn) th mk mz mt (nI tn) (nI ax) sc ti pp, aI T ma 266 al, aI T mk 26 (upd (meC al ck i) i ((mEst al 0 i) + (mEst al 132 i))), aI T mz 26 (upd (meS al ck zk i) i ((((upd (meC al ck i) i ((mEst al 0 i) + (mEst al 132 i))) i) - (mSure al 0 i)) - (mSure al 132 i)))] H := hP
          have hD : va_D A [oMo mo ma mh (nI hn) th mk mz mt (nI tn) (nI ax) sc ti pp, aI T ma 266 al, aI T mk 26 (upd (meC al ck i) i ((mEst al 0 i) + (mEst al 132 i))), aI T mz 26 (upd (meS al ck zk i) i ((((upd (meC al ck i) i ((mEst al 0 i) + (mEst al 132 i))) i) - (mSure al 0 i)) - (mSure al 132 i)))] := hD
          refine lv_iinc (v := nI (i + 1)) (lv' := [(1, .int (nI (i + 1))), (2, .int 1), (0, .ref mo)]) hx hb dX9_mergesFirst_104 hl (k := 1) rfl (nI_1 i) (by decide) rfl (fun ls hl => ?_)
          refine lv_goto (tgt := 2) hx hb dX9_mergesFirst_107 (by decide) ?_
          have e_11 : upd (meC al ck i) i ((mEst al 0 i) + (mEst al 132 i)) = meC al ck (i + 1) := by first | with_reducible rfl | (simp [pk_us, c17, c30]; done) | (rw [meC, if_pos (show meI al i = true from by simp [meI, c17, c30])]; done) | (rw [meC, if_neg (show ¬ meI al i = true from by simp [meI, c17, c30])]; done) | (rw [meS, meC, if_pos (show meI al i = true from by simp [meI, c17, c30]), if_pos (show meI al i = true from by simp [meI, c17, c30]), pk_us]; done) | (rw [meS, if_neg (show ¬ meI al i = true from by simp [meI, c17, c30])]; done)
          have e_12 : upd (meS al ck zk i) i ((((upd (meC al ck i) i ((mEst al 0 i) + (mEst al 132 i))) i) - (mSure al 0 i)) - (mSure al 132 i)) = meS al ck zk (i + 1) := by first | with_reducible rfl | (simp [pk_us, c17, c30]; done) | (rw [meC, if_pos (show meI al i = true from by simp [meI, c17, c30])]; done) | (rw [meC, if_neg (show ¬ meI al i = true from by simp [meI, c17, c30])]; done) | (rw [meS, meC, if_pos (show meI al i = true from by simp [meI, c17, c30]), if_pos (show meI al i = true from by simp [meI, c17, c30]), pk_us]; done) | (rw [meS, if_neg (show ¬ meI al i = true from by simp [meI, c17, c30])]; done)
          have eW := (congrArg (fun zZ => ([oMo mo ma mh (nI hn) th mk mz mt (nI tn) (nI ax) sc ti pp, aI T ma 266 al, aI T mk 26 zZ, aI T mz 26 (upd (meS al ck zk i) i ((((upd (meC al ck i) i ((mEst al 0 i) + (mEst al 132 i))) i) - (mSure al 0 i)) - (mSure al 132 i)))] : va_W)) e_11).trans (congrArg (fun zZ => ([oMo mo ma mh (nI hn) th mk mz mt (nI tn) (nI ax) sc ti pp, aI T ma 266 al, aI T mk 26 (meC al ck (i + 1)), aI T mz 26 zZ] : va_W)) e_12)
          have hP : va_P D vwCl [oMo mo ma mh (nI hn) th mk mz mt (nI tn) (nI ax) sc ti pp, aI T ma 266 al, aI T mk 26 (meC al ck (i + 1)), aI T mz 26 (meS al ck zk (i + 1))] _ := Eq.subst (motive := fun w => va_P D vwCl w _) eW hP
          have hD : va_D A [oMo mo ma mh (nI hn) th mk mz mt (nI tn) (nI ax) sc ti pp, aI T ma 266 al, aI T mk 26 (meC al ck (i + 1)), aI T mz 26 (meS al ck zk (i + 1))] := Eq.subst (motive := fun w => va_D A w) eW hD
          have hl : lv_has ls 3 [(1, .int (nI (i + 1))), (0, .ref mo)] := lv_sub hl [0, 2] (by rfl)
          exact ih (i + 1) (by omega)  _ _ _ hP hD hS hl
  have hl : lv_has ls 3 [(0, .ref mo)] := hl
  have hP : va_P D vwCl [oMo mo ma mh (nI hn) th mk mz mt (nI tn) (nI ax) sc ti pp, aI T ma 266 al, aI T mk 26 ck, aI T mz 26 zk] s.heap := hP
  have hD : va_D A [oMo mo ma mh (nI hn) th mk mz mt (nI tn) (nI ax) sc ti pp, aI T ma 266 al, aI T mk 26 ck, aI T mz 26 zk] := hD
  refine lv_iconst (v := 0) hx hb dX9_mergesFirst_0 (by decide) ?_
  refine lv_istore_n (lv' := [(1, .int 0), (0, .ref mo)]) hx hb dX9_mergesFirst_1 rfl hl (by decide) rfl (fun ls hl => ?_)
  have e_13 : ck = meC al ck 0 := rfl
  have e_14 : zk = meS al ck zk 0 := rfl
  have eW := (congrArg (fun zZ => ([oMo mo ma mh (nI hn) th mk mz mt (nI tn) (nI ax) sc ti pp, aI T ma 266 al, aI T mk 26 zZ, aI T mz 26 zk] : va_W)) e_13).trans (congrArg (fun zZ => ([oMo mo ma mh (nI hn) th mk mz mt (nI tn) (nI ax) sc ti pp, aI T ma 266 al, aI T mk 26 (meC al ck 0), aI T mz 26 zZ] : va_W)) e_14)
  have hP : va_P D vwCl [oMo mo ma mh (nI hn) th mk mz mt (nI tn) (nI ax) sc ti pp, aI T ma 266 al, aI T mk 26 (meC al ck 0), aI T mz 26 (meS al ck zk 0)] _ := Eq.subst (motive := fun w => va_P D vwCl w _) eW hP
  have hD : va_D A [oMo mo ma mh (nI hn) th mk mz mt (nI tn) (nI ax) sc ti pp, aI T ma 266 al, aI T mk 26 (meC al ck 0), aI T mz 26 (meS al ck zk 0)] := Eq.subst (motive := fun w => va_D A w) eW hD
  have e_15 : (0 : Int32) = nI 0 := rfl
  have hl : lv_has ls 3 [(1, .int (nI 0)), (0, .ref mo)] := lv_sub hl [0, 1] (by show (_ : List (Nat × Value)) = [(1, .int (nI 0)), (0, .ref mo)]; rw [← e_15]; rfl)
  exact loop_2 26 0 (by omega)  _ _ _ hP hD hS hl
abbrev rX9_mergesSecond : Room := { frames := 1, cells := 0, slots := 0, locals := 23 }
set_option maxHeartbeats 4000000 in
set_option maxRecDepth 100000 in
theorem c_X9_mergesSecond (l : Launch) (D : va_G) (T : Nat → ClassId) (mo ma mh mk mz mt : Nat) (al ck : Nat → Int32) (hn : Nat) (th : Int32) (tn ax : Nat) (sc ti pp : Int32) : kM l D T yX9_mergesSecond wsX9_mergesSecond rX9_mergesSecond [.ref mo] [oMo mo ma mh (nI hn) th mk mz mt (nI tn) (nI ax) sc ti pp, aI T ma 266 al, aI T mk 26 ck] none [oMo mo ma mh (nI hn) th mk mz mt (nI tn) (nI ax) sc ti pp, aI T ma 266 (msO al ck), aI T mk 26 (msK al ck 26)] := by
  refine kM.of (cc := cX9_mergesSecond) (maxL := 3) (ret := none) (by decide) rfl (Nat.le_of_ble_eq_true rfl) ?_
  intro p e s m below meth c A Q ls hx hb hml hown hr hlk hts hC hP hD hS hA hl hret
  have iX9 : ∀ w ∈ wsX90, w ∈ wsX9_mergesSecond := (fun _ h => List.mem_cons_of_mem _ (List.mem_append_right _ h))
  have loop_55 : ∀ (n i : Nat), i + n = 26 → ∀ (H : Heap) (locs : List Loc) (ls : Array Slot), va_P D vwCl [oMo mo ma mh (nI hn) th mk mz mt (nI tn) (nI ax) sc ti pp, aI T ma 266 (msA al 26), aI T mk 26 (msK al ck 26)] H → va_D A [oMo mo ma mh (nI hn) th mk mz mt (nI tn) (nI ax) sc ti pp, aI T ma 266 (msA al 26), aI T mk 26 (msK al ck 26)] → va_S A s.heap H locs → lv_has ls 3 [(2, .int (nI i)), (1, .int (msL (msA al 26) (msK al ck 26) i)), (0, .ref mo)] → W p l e rX9_mergesSecond s m [.ref mo].toArray below meth c H locs 0 0 Q (F0 m 55 ls []) := by
    intro n
    induction n with
    | zero =>
      intro i hi  H locs ls hP hD hS hl
      have hi9 : 26 = i := by omega
      subst hi9
      refine lv_iload_n hx hb dX9_mergesSecond_55 rfl (lv_at hl 0 rfl) ?_
      refine lv_bipush (v := 26) hx hb dX9_mergesSecond_56 (by decide) ?_
      refine lv_icmp_ge (tgt := 94) hx hb dX9_mergesSecond_58 (by decide) (fun _ => ?_) (fun c_x => absurd (by decide : (26 : Int32) ≤ nI 26) c_x)
      refine lv_aload_n hx hb dX9_mergesSecond_94 rfl (lv_at hl 2 rfl) ?_
      refine lv_iload_n hx hb dX9_mergesSecond_95 rfl (lv_at hl 1 rfl) ?_
      have hP := hP.sub (ws' := [oMo mo ma mh (nI hn) th mk mz mt (nI tn) (nI ax) sc ti pp, aI T ma 266 (msA al 26)] ++ [aI T mk 26 (msK al ck 26)]) [0, 1, 2] rfl
      have hD := hD.sub (ws' := [oMo mo ma mh (nI hn) th mk mz mt (nI tn) (nI ax) sc ti pp, aI T ma 266 (msA al 26)] ++ [aI T mk 26 (msK al ck 26)]) [0, 1, 2] (by decide) rfl
      refine kV (ci := 8) (As := [.int (msL (msA al 26) (msK al ck 26) 26)]) (rest := []) ⟨hx, hb, hml, hown, hts⟩ (c_X9_wears l D T mo ma mh mk mz mt (msA al 26) hn th tn ax sc ti pp (msL (msA al 26) (msK al ck 26) 26) ) (cwV 1 hts gX9_mergesSecond_X9_wears rfl rfl rfl (by decide +kernel) ⟨Nat.le_of_ble_eq_true rfl, Nat.le_of_ble_eq_true rfl⟩) hC hP hD hS hA rfl rfl rfl hl.1 rfl (Nat.le_of_ble_eq_true rfl) dX9_mergesSecond_96 ⟨Nat.zero_le _, Nat.zero_le _⟩ (fun H locs hP hD hS => ?_)
      have hP : va_P D vwCl [oMo mo ma mh (nI hn) th mk mz mt (nI tn) (nI ax) sc ti pp, aI T ma 266 (wrN (msA al 26) (msL (msA al 26) (msK al ck 26) 26) 26), aI T mk 26 (msK al ck 26)] H := hP
      have hD : va_D A [oMo mo ma mh (nI hn) th mk mz mt (nI tn) (nI ax) sc ti pp, aI T ma 266 (wrN (msA al 26) (msL (msA al 26) (msK al ck 26) 26) 26), aI T mk 26 (msK al ck 26)] := hD
      refine W.eq (g2 := F0 m 99 ls []) rfl ?_
      refine lv_aload_n hx hb dX9_mergesSecond_99 rfl (lv_at hl 2 rfl) ?_
      refine va_get (D := D) (ci := 8) (v := .ref ma) (C := RX9) (T := TX9) (N := 12) hx hb hts iX9 hown hC.1 hP 0 rfl rfl 0 (by decide) (hts (.fieldLink RX9 7 "ParrotCountsModel" "all" "[I") (List.mem_of_getElem? (i := 1) rfl)) (fun _ h => h) rfl dX9_mergesSecond_100 ?_
      refine lv_sipush (v := 130) hx hb dX9_mergesSecond_103 (by decide) ?_
      refine lv_dup2_11 hx hb dX9_mergesSecond_106 rfl rfl ?_
      refine k_iald hx hb hC.1 hP 1 0 rfl rfl (by decide) dX9_mergesSecond_107 ?_
      refine lv_aload_n hx hb dX9_mergesSecond_108 rfl (lv_at hl 2 rfl) ?_
      refine va_get (D := D) (ci := 8) (v := .ref ma) (C := RX9) (T := TX9) (N := 12) hx hb hts iX9 hown hC.1 hP 0 rfl rfl 0 (by decide) (hts (.fieldLink RX9 7 "ParrotCountsModel" "all" "[I") (List.mem_of_getElem? (i := 1) rfl)) (fun _ h => h) rfl dX9_mergesSecond_109 ?_
      refine lv_sipush (v := 262) hx hb dX9_mergesSecond_112 (by decide) ?_
      refine k_iald hx hb hC.1 hP 1 0 rfl rfl (by decide) dX9_mergesSecond_115 ?_
      refine lv_iload_n hx hb dX9_mergesSecond_116 rfl (lv_at hl 1 rfl) ?_
      refine lv_iadd hx hb dX9_mergesSecond_117 ?_
      refine lv_iadd hx hb dX9_mergesSecond_118 ?_
      refine k_iast hx hb hC.1 hP hD hS 1 0 rfl rfl (by decide) dX9_mergesSecond_119 (fun H locs hP hD hS => ?_)
      have hP : va_P D vwCl [oMo mo ma mh (nI hn) th mk mz mt (nI tn) (nI ax) sc ti pp, aI T ma 266 (upd (wrN (msA al 26) (msL (msA al 26) (msK al ck 26) 26) 26) 130 (((wrN (msA al 26) (msL (msA al 26) (msK al ck 26) 26) 26) 130) + (((wrN (msA al 26) (msL (msA al 26) (msK al ck 26) 26) 26) 262) + (msL (msA al 26) (msK al ck 26) 26)))), aI T mk 26 (msK al ck 26)] H := hP
      have hD : va_D A [oMo mo ma mh (nI hn) th mk mz mt (nI tn) (nI ax) sc ti pp, aI T ma 266 (upd (wrN (msA al 26) (msL (msA al 26) (msK al ck 26) 26) 26) 130 (((wrN (msA al 26) (msL (msA al 26) (msK al ck 26) 26) 26) 130) + (((wrN (msA al 26) (msL (msA al 26) (msK al ck 26) 26) 26) 262) + (msL (msA al 26) (msK al ck 26) 26)))), aI T mk 26 (msK al ck 26)] := hD
      have e_1 : upd (wrN (msA al 26) (msL (msA al 26) (msK al ck 26) 26) 26) 130 (((wrN (msA al 26) (msL (msA al 26) (msK al ck 26) 26) 26) 130) + (((wrN (msA al 26) (msL (msA al 26) (msK al ck 26) 26) 26) 262) + (msL (msA al 26) (msK al ck 26) 26))) = msO al ck := rfl
      have eW := congrArg (fun zZ => ([oMo mo ma mh (nI hn) th mk mz mt (nI tn) (nI ax) sc ti pp, aI T ma 266 zZ, aI T mk 26 (msK al ck 26)] : va_W)) e_1
      have hP : va_P D vwCl [oMo mo ma mh (nI hn) th mk mz mt (nI tn) (nI ax) sc ti pp, aI T ma 266 (msO al ck), aI T mk 26 (msK al ck 26)] _ := Eq.subst (motive := fun w => va_P D vwCl w _) eW hP
      have hD : va_D A [oMo mo ma mh (nI hn) th mk mz mt (nI tn) (nI ax) sc ti pp, aI T ma 266 (msO al ck), aI T mk 26 (msK al ck 26)] := Eq.subst (motive := fun w => va_D A w) eW hD
      exact hret _ _ _ _ _ (fun Qc free hq hf => W.vret hx hb hr hq hf dX9_mergesSecond_120 hlk) hP hD hS
    | succ n ih =>
      intro i hi  H locs ls hP hD hS hl
      have hlt : i < 26 := by omega
      refine lv_iload_n hx hb dX9_mergesSecond_55 rfl (lv_at hl 0 rfl) ?_
      refine lv_bipush (v := 26) hx hb dX9_mergesSecond_56 (by decide) ?_
      refine lv_icmp_ge (tgt := 94) hx hb dX9_mergesSecond_58 (by decide) (fun c_x => absurd c_x (nI_ge (b := 26) hlt (by decide))) (fun _ => ?_)
      refine lv_aload_n hx hb dX9_mergesSecond_61 rfl (lv_at hl 2 rfl) ?_
      refine lv_iload_n hx hb dX9_mergesSecond_62 rfl (lv_at hl 0 rfl) ?_
      have hP := hP.sub (ws' := [oMo mo ma mh (nI hn) th mk mz mt (nI tn) (nI ax) sc ti pp, aI T mk 26 (msK al ck 26)] ++ [aI T ma 266 (msA al 26)]) [0, 2, 1] rfl
      have hD := hD.sub (ws' := [oMo mo ma mh (nI hn) th mk mz mt (nI tn) (nI ax) sc ti pp, aI T mk 26 (msK al ck 26)] ++ [aI T ma 266 (msA al 26)]) [0, 2, 1] (by decide) rfl
      refine kV (ci := 8) (As := [.int (nI i)]) (rest := []) ⟨hx, hb, hml, hown, hts⟩ (c_X9_aheadOf l D T mo ma mh mk mz mt (msK al ck 26) hn th tn ax sc ti pp i (by first | omega | assumption)) (cwV 1 hts gX9_mergesSecond_X9_aheadOf rfl rfl rfl (by decide +kernel) ⟨Nat.le_of_ble_eq_true rfl, Nat.le_of_ble_eq_true rfl⟩) hC hP hD hS hA rfl rfl rfl hl.1 rfl (Nat.le_of_ble_eq_true rfl) dX9_mergesSecond_63 ⟨Nat.zero_le _, Nat.zero_le _⟩ (fun H locs hP hD hS => ?_)
      have hP := hP.sub (ws' := [oMo mo ma mh (nI hn) th mk mz mt (nI tn) (nI ax) sc ti pp, aI T ma 266 (msA al 26), aI T mk 26 (msK al ck 26)]) [0, 2, 1] rfl
      have hD := hD.sub (ws' := [oMo mo ma mh (nI hn) th mk mz mt (nI tn) (nI ax) sc ti pp, aI T ma 266 (msA al 26), aI T mk 26 (msK al ck 26)]) [0, 2, 1] (by decide) rfl
      refine W.eq (g2 := F0 m 66 ls [.int (nI (posN (msK al ck 26) i 26))]) rfl ?_
      refine lv_aload_n hx hb dX9_mergesSecond_66 rfl (lv_at hl 2 rfl) ?_
      refine va_get (D := D) (ci := 8) (v := .ref ma) (C := RX9) (T := TX9) (N := 12) hx hb hts iX9 hown hC.1 hP 0 rfl rfl 0 (by decide) (hts (.fieldLink RX9 7 "ParrotCountsModel" "all" "[I") (List.mem_of_getElem? (i := 1) rfl)) (fun _ h => h) rfl dX9_mergesSecond_67 ?_
      refine lv_sipush (v := 264) hx hb dX9_mergesSecond_70 (by decide) ?_
      refine k_iald hx hb hC.1 hP 1 0 rfl rfl (by decide) dX9_mergesSecond_73 ?_
      refine lv_icmp_ne (tgt := 86) hx hb dX9_mergesSecond_74 (by decide) (fun c74 => ?_) (fun c74 => ?_)
      · refine lv_iload_n hx hb dX9_mergesSecond_86 rfl (lv_at hl 1 rfl) ?_
        refine lv_istore_n (lv' := [(1, .int (msL (msA al 26) (msK al ck 26) i)), (2, .int (nI i)), (0, .ref mo)]) hx hb dX9_mergesSecond_87 rfl hl (by decide) rfl (fun ls hl => ?_)
        refine lv_iinc (v := nI (i + 1)) (lv' := [(2, .int (nI (i + 1))), (1, .int (msL (msA al 26) (msK al ck 26) i)), (0, .ref mo)]) hx hb dX9_mergesSecond_88 hl (k := 1) rfl (nI_1 i) (by decide) rfl (fun ls hl => ?_)
        refine lv_goto (tgt := 55) hx hb dX9_mergesSecond_91 (by decide) ?_
        have e_2 : (msL (msA al 26) (msK al ck 26) i : Int32) = msL (msA al 26) (msK al ck 26) (i + 1) := by first | with_reducible rfl | (simp [msL, c74]; done)
        have hl : lv_has ls 3 [(2, .int (nI (i + 1))), (1, .int (msL (msA al 26) (msK al ck 26) (i + 1))), (0, .ref mo)] := lv_sub hl [0, 1, 2] (by show (_ : List (Nat × Value)) = [(2, .int (nI (i + 1))), (1, .int (msL (msA al 26) (msK al ck 26) (i + 1))), (0, .ref mo)]; rw [← e_2]; rfl)
        exact ih (i + 1) (by omega)  _ _ _ hP hD hS hl
      · refine lv_aload_n hx hb dX9_mergesSecond_77 rfl (lv_at hl 2 rfl) ?_
        refine va_get (D := D) (ci := 8) (v := .ref mk) (C := RX9) (T := TX9) (N := 12) hx hb hts iX9 hown hC.1 hP 0 rfl rfl 4 (by decide) (hts (.fieldLink RX9 16 "ParrotCountsModel" "counts" "[I") (List.mem_of_getElem? (i := 2) rfl)) (fun _ h => h) rfl dX9_mergesSecond_78 ?_
        refine lv_iload_n hx hb dX9_mergesSecond_81 rfl (lv_at hl 0 rfl) ?_
        refine k_iald hx hb hC.1 hP 2 0 rfl rfl (by omega) dX9_mergesSecond_82 ?_
        refine lv_goto (tgt := 87) hx hb dX9_mergesSecond_83 (by decide) ?_
        refine lv_istore_n (lv' := [(1, .int ((msK al ck 26) i)), (2, .int (nI i)), (0, .ref mo)]) hx hb dX9_mergesSecond_87 rfl hl (by decide) rfl (fun ls hl => ?_)
        refine lv_iinc (v := nI (i + 1)) (lv' := [(2, .int (nI (i + 1))), (1, .int ((msK al ck 26) i)), (0, .ref mo)]) hx hb dX9_mergesSecond_88 hl (k := 1) rfl (nI_1 i) (by decide) rfl (fun ls hl => ?_)
        refine lv_goto (tgt := 55) hx hb dX9_mergesSecond_91 (by decide) ?_
        have e_3 : ((msK al ck 26) i : Int32) = msL (msA al 26) (msK al ck 26) (i + 1) := by first | with_reducible rfl | (simp [msL, eq_true c74]; done)
        have hl : lv_has ls 3 [(2, .int (nI (i + 1))), (1, .int (msL (msA al 26) (msK al ck 26) (i + 1))), (0, .ref mo)] := lv_sub hl [0, 1, 2] (by show (_ : List (Nat × Value)) = [(2, .int (nI (i + 1))), (1, .int (msL (msA al 26) (msK al ck 26) (i + 1))), (0, .ref mo)]; rw [← e_3]; rfl)
        exact ih (i + 1) (by omega)  _ _ _ hP hD hS hl
  have loop_2 : ∀ (n i : Nat), i + n = 26 → ∀ (H : Heap) (locs : List Loc) (ls : Array Slot), va_P D vwCl [oMo mo ma mh (nI hn) th mk mz mt (nI tn) (nI ax) sc ti pp, aI T ma 266 (msA al i), aI T mk 26 (msK al ck i)] H → va_D A [oMo mo ma mh (nI hn) th mk mz mt (nI tn) (nI ax) sc ti pp, aI T ma 266 (msA al i), aI T mk 26 (msK al ck i)] → va_S A s.heap H locs → lv_has ls 3 [(1, .int (nI i)), (0, .ref mo)] → W p l e rX9_mergesSecond s m [.ref mo].toArray below meth c H locs 0 0 Q (F0 m 2 ls []) := by
    intro n
    induction n with
    | zero =>
      intro i hi  H locs ls hP hD hS hl
      have hi9 : 26 = i := by omega
      subst hi9
      refine lv_iload_n hx hb dX9_mergesSecond_2 rfl (lv_at hl 0 rfl) ?_
      refine lv_bipush (v := 26) hx hb dX9_mergesSecond_3 (by decide) ?_
      refine lv_icmp_ge (tgt := 51) hx hb dX9_mergesSecond_5 (by decide) (fun _ => ?_) (fun c_x => absurd (by decide : (26 : Int32) ≤ nI 26) c_x)
      refine lv_iconst (v := 0) hx hb dX9_mergesSecond_51 (by decide) ?_
      refine lv_istore_n (lv' := [(1, .int 0), (0, .ref mo)]) hx hb dX9_mergesSecond_52 rfl hl (by decide) rfl (fun ls hl => ?_)
      refine lv_iconst (v := 0) hx hb dX9_mergesSecond_53 (by decide) ?_
      refine lv_istore_n (lv' := [(2, .int 0), (1, .int 0), (0, .ref mo)]) hx hb dX9_mergesSecond_54 rfl hl (by decide) rfl (fun ls hl => ?_)
      have e_4 : (0 : Int32) = nI 0 := rfl
      have e_5 : (0 : Int32) = msL (msA al 26) (msK al ck 26) 0 := rfl
      have hl : lv_has ls 3 [(2, .int (nI 0)), (1, .int (msL (msA al 26) (msK al ck 26) 0)), (0, .ref mo)] := lv_sub hl [0, 1, 2] (by show (_ : List (Nat × Value)) = [(2, .int (nI 0)), (1, .int (msL (msA al 26) (msK al ck 26) 0)), (0, .ref mo)]; rw [← e_4, ← e_5]; rfl)
      exact loop_55 26 0 (by omega)  _ _ _ hP hD hS hl
    | succ n ih =>
      intro i hi  H locs ls hP hD hS hl
      have hlt : i < 26 := by omega
      refine lv_iload_n hx hb dX9_mergesSecond_2 rfl (lv_at hl 0 rfl) ?_
      refine lv_bipush (v := 26) hx hb dX9_mergesSecond_3 (by decide) ?_
      refine lv_icmp_ge (tgt := 51) hx hb dX9_mergesSecond_5 (by decide) (fun c_x => absurd c_x (nI_ge (b := 26) hlt (by decide))) (fun _ => ?_)
      refine lv_aload_n hx hb dX9_mergesSecond_8 rfl (lv_at hl 1 rfl) ?_
      refine va_get (D := D) (ci := 8) (v := .ref ma) (C := RX9) (T := TX9) (N := 12) hx hb hts iX9 hown hC.1 hP 0 rfl rfl 0 (by decide) (hts (.fieldLink RX9 7 "ParrotCountsModel" "all" "[I") (List.mem_of_getElem? (i := 1) rfl)) (fun _ h => h) rfl dX9_mergesSecond_9 ?_
      refine lv_bipush (v := 104) hx hb dX9_mergesSecond_12 (by decide) ?_
      refine lv_iload_n hx hb dX9_mergesSecond_14 rfl (lv_at hl 0 rfl) ?_
      refine lv_iadd hx hb dX9_mergesSecond_15 ?_
      refine W.eq (g2 := F0 m 16 ls (.int (nI (104 + i)) :: [.ref ma])) (congrArg (fun z => F0 m 16 ls (.int z :: [.ref ma])) (nI_add 104 i)) ?_
      refine lv_dup2_11 hx hb dX9_mergesSecond_16 rfl rfl ?_
      refine k_iald hx hb hC.1 hP 1 0 rfl rfl (by omega) dX9_mergesSecond_17 ?_
      refine lv_aload_n hx hb dX9_mergesSecond_18 rfl (lv_at hl 1 rfl) ?_
      refine va_get (D := D) (ci := 8) (v := .ref ma) (C := RX9) (T := TX9) (N := 12) hx hb hts iX9 hown hC.1 hP 0 rfl rfl 0 (by decide) (hts (.fieldLink RX9 7 "ParrotCountsModel" "all" "[I") (List.mem_of_getElem? (i := 1) rfl)) (fun _ h => h) rfl dX9_mergesSecond_19 ?_
      refine lv_sipush (v := 236) hx hb dX9_mergesSecond_22 (by decide) ?_
      refine lv_iload_n hx hb dX9_mergesSecond_25 rfl (lv_at hl 0 rfl) ?_
      refine lv_iadd hx hb dX9_mergesSecond_26 ?_
      refine W.eq (g2 := F0 m 27 ls (.int (nI (236 + i)) :: [.ref ma, .int ((msA al i) (104 + i)), .int (nI (104 + i)), .ref ma])) (congrArg (fun z => F0 m 27 ls (.int z :: [.ref ma, .int ((msA al i) (104 + i)), .int (nI (104 + i)), .ref ma])) (nI_add 236 i)) ?_
      refine k_iald hx hb hC.1 hP 1 0 rfl rfl (by omega) dX9_mergesSecond_27 ?_
      refine lv_iadd hx hb dX9_mergesSecond_28 ?_
      refine k_iast hx hb hC.1 hP hD hS 1 0 rfl rfl (by omega) dX9_mergesSecond_29 (fun H locs hP hD hS => ?_)
      have hP : va_P D vwCl [oMo mo ma mh (nI hn) th mk mz mt (nI tn) (nI ax) sc ti pp, aI T ma 266 (upd (msA al i) (104 + i) (((msA al i) (104 + i)) + ((msA al i) (236 + i)))), aI T mk 26 (msK al ck i)] H := hP
      have hD : va_D A [oMo mo ma mh (nI hn) th mk mz mt (nI tn) (nI ax) sc ti pp, aI T ma 266 (upd (msA al i) (104 + i) (((msA al i) (104 + i)) + ((msA al i) (236 + i)))), aI T mk 26 (msK al ck i)] := hD
      refine lv_aload_n hx hb dX9_mergesSecond_30 rfl (lv_at hl 1 rfl) ?_
      refine va_get (D := D) (ci := 8) (v := .ref mk) (C := RX9) (T := TX9) (N := 12) hx hb hts iX9 hown hC.1 hP 0 rfl rfl 4 (by decide) (hts (.fieldLink RX9 16 "ParrotCountsModel" "counts" "[I") (List.mem_of_getElem? (i := 2) rfl)) (fun _ h => h) rfl dX9_mergesSecond_31 ?_
      refine lv_iload_n hx hb dX9_mergesSecond_34 rfl (lv_at hl 0 rfl) ?_
      refine lv_aload_n hx hb dX9_mergesSecond_35 rfl (lv_at hl 1 rfl) ?_
      refine va_get (D := D) (ci := 8) (v := .ref ma) (C := RX9) (T := TX9) (N := 12) hx hb hts iX9 hown hC.1 hP 0 rfl rfl 0 (by decide) (hts (.fieldLink RX9 7 "ParrotCountsModel" "all" "[I") (List.mem_of_getElem? (i := 1) rfl)) (fun _ h => h) rfl dX9_mergesSecond_36 ?_
      refine lv_bipush (v := 104) hx hb dX9_mergesSecond_39 (by decide) ?_
      refine lv_iload_n hx hb dX9_mergesSecond_41 rfl (lv_at hl 0 rfl) ?_
      refine lv_iadd hx hb dX9_mergesSecond_42 ?_
      refine W.eq (g2 := F0 m 43 ls (.int (nI (104 + i)) :: [.ref ma, .int (nI i), .ref mk])) (congrArg (fun z => F0 m 43 ls (.int z :: [.ref ma, .int (nI i), .ref mk])) (nI_add 104 i)) ?_
      refine k_iald hx hb hC.1 hP 1 0 rfl rfl (by omega) dX9_mergesSecond_43 ?_
      refine k_iast hx hb hC.1 hP hD hS 2 0 rfl rfl (by omega) dX9_mergesSecond_44 (fun H locs hP hD hS => ?_)
      have hP : va_P D vwCl [oMo mo ma mh (nI hn) th mk mz mt (nI tn) (nI ax) sc ti pp, aI T ma 266 (upd (msA al i) (104 + i) (((msA al i) (104 + i)) + ((msA al i) (236 + i)))), aI T mk 26 (upd (msK al ck i) i ((upd (msA al i) (104 + i) (((msA al i) (104 + i)) + ((msA al i) (236 + i)))) (104 + i)))] H := hP
      have hD : va_D A [oMo mo ma mh (nI hn) th mk mz mt (nI tn) (nI ax) sc ti pp, aI T ma 266 (upd (msA al i) (104 + i) (((msA al i) (104 + i)) + ((msA al i) (236 + i)))), aI T mk 26 (upd (msK al ck i) i ((upd (msA al i) (104 + i) (((msA al i) (104 + i)) + ((msA al i) (236 + i)))) (104 + i)))] := hD
      refine lv_iinc (v := nI (i + 1)) (lv' := [(1, .int (nI (i + 1))), (0, .ref mo)]) hx hb dX9_mergesSecond_45 hl (k := 0) rfl (nI_1 i) (by decide) rfl (fun ls hl => ?_)
      refine lv_goto (tgt := 2) hx hb dX9_mergesSecond_48 (by decide) ?_
      have e_6 : upd (msA al i) (104 + i) (((msA al i) (104 + i)) + ((msA al i) (236 + i))) = msA al (i + 1) := by first | (rw [msA]; done) | (rw [msK, msA]; done)
      have e_7 : upd (msK al ck i) i ((upd (msA al i) (104 + i) (((msA al i) (104 + i)) + ((msA al i) (236 + i)))) (104 + i)) = msK al ck (i + 1) := by first | (rw [msA]; done) | (rw [msK, msA]; done)
      have eW := (congrArg (fun zZ => ([oMo mo ma mh (nI hn) th mk mz mt (nI tn) (nI ax) sc ti pp, aI T ma 266 zZ, aI T mk 26 (upd (msK al ck i) i ((upd (msA al i) (104 + i) (((msA al i) (104 + i)) + ((msA al i) (236 + i)))) (104 + i)))] : va_W)) e_6).trans (congrArg (fun zZ => ([oMo mo ma mh (nI hn) th mk mz mt (nI tn) (nI ax) sc ti pp, aI T ma 266 (msA al (i + 1)), aI T mk 26 zZ] : va_W)) e_7)
      have hP : va_P D vwCl [oMo mo ma mh (nI hn) th mk mz mt (nI tn) (nI ax) sc ti pp, aI T ma 266 (msA al (i + 1)), aI T mk 26 (msK al ck (i + 1))] _ := Eq.subst (motive := fun w => va_P D vwCl w _) eW hP
      have hD : va_D A [oMo mo ma mh (nI hn) th mk mz mt (nI tn) (nI ax) sc ti pp, aI T ma 266 (msA al (i + 1)), aI T mk 26 (msK al ck (i + 1))] := Eq.subst (motive := fun w => va_D A w) eW hD
      have hl : lv_has ls 3 [(1, .int (nI (i + 1))), (0, .ref mo)] := lv_sub hl [0, 1] (by rfl)
      exact ih (i + 1) (by omega)  _ _ _ hP hD hS hl
  have hl : lv_has ls 3 [(0, .ref mo)] := hl
  have hP : va_P D vwCl [oMo mo ma mh (nI hn) th mk mz mt (nI tn) (nI ax) sc ti pp, aI T ma 266 al, aI T mk 26 ck] s.heap := hP
  have hD : va_D A [oMo mo ma mh (nI hn) th mk mz mt (nI tn) (nI ax) sc ti pp, aI T ma 266 al, aI T mk 26 ck] := hD
  refine lv_iconst (v := 0) hx hb dX9_mergesSecond_0 (by decide) ?_
  refine lv_istore_n (lv' := [(1, .int 0), (0, .ref mo)]) hx hb dX9_mergesSecond_1 rfl hl (by decide) rfl (fun ls hl => ?_)
  have e_8 : al = msA al 0 := rfl
  have e_9 : ck = msK al ck 0 := rfl
  have eW := (congrArg (fun zZ => ([oMo mo ma mh (nI hn) th mk mz mt (nI tn) (nI ax) sc ti pp, aI T ma 266 zZ, aI T mk 26 ck] : va_W)) e_8).trans (congrArg (fun zZ => ([oMo mo ma mh (nI hn) th mk mz mt (nI tn) (nI ax) sc ti pp, aI T ma 266 (msA al 0), aI T mk 26 zZ] : va_W)) e_9)
  have hP : va_P D vwCl [oMo mo ma mh (nI hn) th mk mz mt (nI tn) (nI ax) sc ti pp, aI T ma 266 (msA al 0), aI T mk 26 (msK al ck 0)] _ := Eq.subst (motive := fun w => va_P D vwCl w _) eW hP
  have hD : va_D A [oMo mo ma mh (nI hn) th mk mz mt (nI tn) (nI ax) sc ti pp, aI T ma 266 (msA al 0), aI T mk 26 (msK al ck 0)] := Eq.subst (motive := fun w => va_D A w) eW hD
  have e_10 : (0 : Int32) = nI 0 := rfl
  have hl : lv_has ls 3 [(1, .int (nI 0)), (0, .ref mo)] := lv_sub hl [0, 1] (by show (_ : List (Nat × Value)) = [(1, .int (nI 0)), (0, .ref mo)]; rw [← e_10]; rfl)
  exact loop_2 26 0 (by omega)  _ _ _ hP hD hS hl
abbrev rX9_undo : Room := { frames := 1, cells := 0, slots := 0, locals := 21 }
set_option maxHeartbeats 4000000 in
set_option maxRecDepth 100000 in
theorem c_X9_undo_no (l : Launch) (D : va_G) (T : Nat → ClassId) (mo ma mh mk mz mt : Nat) (al hy : Nat → Int32) (hn : Nat) (th : Int32) (tn ax : Nat) (sc ti pp : Int32) (hz0 : hn = 0) : kM l D T yX9_undo wsX9_undo rX9_undo [.ref mo] [oMo mo ma mh (nI hn) th mk mz mt (nI tn) (nI ax) sc ti pp, aI T ma 266 al, aI T mh 1330 hy] (some (.int 0)) [oMo mo ma mh (nI hn) 1 mk mz mt (nI tn) (nI ax) sc ti pp, aI T ma 266 al, aI T mh 1330 hy] := by
  refine kM.of (cc := cX9_undo) (maxL := 2) (ret := some .int) (by decide) rfl (Nat.le_of_ble_eq_true rfl) ?_
  intro p e s m below meth c A Q ls hx hb hml hown hr hlk hts hC hP hD hS hA hl hret
  have iX9 : ∀ w ∈ wsX90, w ∈ wsX9_undo := (fun _ h => List.mem_cons_of_mem _ (List.mem_append_right _ h))
  have hl : lv_has ls 2 [(0, .ref mo)] := hl
  have hP : va_P D vwCl [oMo mo ma mh (nI hn) th mk mz mt (nI tn) (nI ax) sc ti pp, aI T ma 266 al, aI T mh 1330 hy] s.heap := hP
  have hD : va_D A [oMo mo ma mh (nI hn) th mk mz mt (nI tn) (nI ax) sc ti pp, aI T ma 266 al, aI T mh 1330 hy] := hD
  refine lv_aload_n hx hb dX9_undo_0 rfl (lv_at hl 0 rfl) ?_
  refine va_get (D := D) (ci := 8) (v := .int (nI hn)) (C := RX9) (T := TX9) (N := 12) hx hb hts iX9 hown hC.1 hP 0 rfl rfl 2 (by decide) (hts (.fieldLink RX9 29 "ParrotCountsModel" "historyLong" "I") (List.mem_of_getElem? (i := 1) rfl)) (fun _ h => h) rfl dX9_undo_1 ?_
  refine lv_if_ne (tgt := 13) hx hb dX9_undo_4 (by decide) (fun c_x => absurd (by rw [hz0]; decide) c_x) (fun _ => ?_)
  refine lv_aload_n hx hb dX9_undo_7 rfl (lv_at hl 0 rfl) ?_
  refine lv_iconst (v := 1) hx hb dX9_undo_8 (by decide) ?_
  have hP := hP.sub (ws' := [oMo mo ma mh (nI hn) th mk mz mt (nI tn) (nI ax) sc ti pp] ++ [aI T ma 266 al, aI T mh 1330 hy]) [0, 1, 2] rfl
  have hD := hD.sub (ws' := [oMo mo ma mh (nI hn) th mk mz mt (nI tn) (nI ax) sc ti pp] ++ [aI T ma 266 al, aI T mh 1330 hy]) [0, 1, 2] (by decide) rfl
  refine kV (ci := 8) (As := [.int 1]) (rest := []) ⟨hx, hb, hml, hown, hts⟩ (c_X9_fails l D T mo ma mh mk mz mt hn th tn ax sc ti pp 1 ) (cwV 1 hts gX9_undo_X9_fails rfl rfl rfl (by decide +kernel) ⟨Nat.le_of_ble_eq_true rfl, Nat.le_of_ble_eq_true rfl⟩) hC hP hD hS hA rfl rfl rfl hl.1 rfl (Nat.le_of_ble_eq_true rfl) dX9_undo_9 ⟨Nat.zero_le _, Nat.zero_le _⟩ (fun H locs hP hD hS => ?_)
  have hP : va_P D vwCl [oMo mo ma mh (nI hn) 1 mk mz mt (nI tn) (nI ax) sc ti pp, aI T ma 266 al, aI T mh 1330 hy] H := hP
  have hD : va_D A [oMo mo ma mh (nI hn) 1 mk mz mt (nI tn) (nI ax) sc ti pp, aI T ma 266 al, aI T mh 1330 hy] := hD
  refine W.eq (g2 := F0 m 12 ls [.int 0]) rfl ?_
  exact hret _ _ _ _ _ (fun Qc free hq hf => W.iret hx hb hr hq hf dX9_undo_12 hlk) hP hD hS
set_option maxHeartbeats 4000000 in
set_option maxRecDepth 100000 in
theorem c_X9_undo (l : Launch) (D : va_G) (T : Nat → ClassId) (mo ma mh mk mz mt : Nat) (al hy : Nat → Int32) (hn : Nat) (th : Int32) (tn ax : Nat) (sc ti pp : Int32) (hm : Nat) (hm5 : hm < 5) : kM l D T yX9_undo wsX9_undo rX9_undo [.ref mo] [oMo mo ma mh (nI (hm + 1)) th mk mz mt (nI tn) (nI ax) sc ti pp, aI T ma 266 al, aI T mh 1330 hy] (some (.int (nI hm))) [oMo mo ma mh (nI hm) 0 mk mz mt (nI tn) (nI ax) sc ti pp, aI T ma 266 (unA al hy hm 266), aI T mh 1330 hy] := by
  refine kM.of (cc := cX9_undo) (maxL := 2) (ret := some .int) (by decide) rfl (Nat.le_of_ble_eq_true rfl) ?_
  intro p e s m below meth c A Q ls hx hb hml hown hr hlk hts hC hP hD hS hA hl hret
  have iX9 : ∀ w ∈ wsX90, w ∈ wsX9_undo := (fun _ h => List.mem_cons_of_mem _ (List.mem_append_right _ h))
  have loop_30 : ∀ (n i : Nat), i + n = 266 → ∀ (H : Heap) (locs : List Loc) (ls : Array Slot), va_P D vwCl [oMo mo ma mh (nI hm) 0 mk mz mt (nI tn) (nI ax) sc ti pp, aI T ma 266 (unA al hy hm i), aI T mh 1330 hy] H → va_D A [oMo mo ma mh (nI hm) 0 mk mz mt (nI tn) (nI ax) sc ti pp, aI T ma 266 (unA al hy hm i), aI T mh 1330 hy] → va_S A s.heap H locs → lv_has ls 2 [(1, .int (nI i)), (0, .ref mo)] → W p l e rX9_undo s m [.ref mo].toArray below meth c H locs 0 0 Q (F0 m 30 ls []) := by
    intro n
    induction n with
    | zero =>
      intro i hi  H locs ls hP hD hS hl
      have hi9 : 266 = i := by omega
      subst hi9
      refine lv_iload_n hx hb dX9_undo_30 rfl (lv_at hl 0 rfl) ?_
      refine lv_sipush (v := 266) hx hb dX9_undo_31 (by decide) ?_
      refine lv_icmp_ge (tgt := 64) hx hb dX9_undo_34 (by decide) (fun _ => ?_) (fun c_x => absurd (by decide : (266 : Int32) ≤ nI 266) c_x)
      refine lv_aload_n hx hb dX9_undo_64 rfl (lv_at hl 1 rfl) ?_
      refine va_get (D := D) (ci := 8) (v := .int (nI hm)) (C := RX9) (T := TX9) (N := 12) hx hb hts iX9 hown hC.1 hP 0 rfl rfl 2 (by decide) (hts (.fieldLink RX9 29 "ParrotCountsModel" "historyLong" "I") (List.mem_of_getElem? (i := 1) rfl)) (fun _ h => h) rfl dX9_undo_65 ?_
      exact hret _ _ _ _ _ (fun Qc free hq hf => W.iret hx hb hr hq hf dX9_undo_68 hlk) hP hD hS
    | succ n ih =>
      intro i hi  H locs ls hP hD hS hl
      have hlt : i < 266 := by omega
      refine lv_iload_n hx hb dX9_undo_30 rfl (lv_at hl 0 rfl) ?_
      refine lv_sipush (v := 266) hx hb dX9_undo_31 (by decide) ?_
      refine lv_icmp_ge (tgt := 64) hx hb dX9_undo_34 (by decide) (fun c_x => absurd c_x (nI_ge (b := 266) hlt (by decide))) (fun _ => ?_)
      refine lv_aload_n hx hb dX9_undo_37 rfl (lv_at hl 1 rfl) ?_
      refine va_get (D := D) (ci := 8) (v := .ref ma) (C := RX9) (T := TX9) (N := 12) hx hb hts iX9 hown hC.1 hP 0 rfl rfl 0 (by decide) (hts (.fieldLink RX9 7 "ParrotCountsModel" "all" "[I") (List.mem_of_getElem? (i := 3) rfl)) (fun _ h => h) rfl dX9_undo_38 ?_
      refine lv_iload_n hx hb dX9_undo_41 rfl (lv_at hl 0 rfl) ?_
      refine lv_aload_n hx hb dX9_undo_42 rfl (lv_at hl 1 rfl) ?_
      refine va_get (D := D) (ci := 8) (v := .ref mh) (C := RX9) (T := TX9) (N := 12) hx hb hts iX9 hown hC.1 hP 0 rfl rfl 1 (by decide) (hts (.fieldLink RX9 13 "ParrotCountsModel" "history" "[I") (List.mem_of_getElem? (i := 4) rfl)) (fun _ h => h) rfl dX9_undo_43 ?_
      refine lv_sipush (v := 266) hx hb dX9_undo_46 (by decide) ?_
      refine lv_aload_n hx hb dX9_undo_49 rfl (lv_at hl 1 rfl) ?_
      refine va_get (D := D) (ci := 8) (v := .int (nI hm)) (C := RX9) (T := TX9) (N := 12) hx hb hts iX9 hown hC.1 hP 0 rfl rfl 2 (by decide) (hts (.fieldLink RX9 29 "ParrotCountsModel" "historyLong" "I") (List.mem_of_getElem? (i := 1) rfl)) (fun _ h => h) rfl dX9_undo_50 ?_
      refine lv_imul hx hb dX9_undo_53 ?_
      refine W.eq (g2 := F0 m 54 ls (.int (nI (266 * hm)) :: [.ref mh, .int (nI i), .ref ma])) (congrArg (fun z => F0 m 54 ls (.int z :: [.ref mh, .int (nI i), .ref ma])) (pk_mul 266 hm)) ?_
      refine lv_iload_n hx hb dX9_undo_54 rfl (lv_at hl 0 rfl) ?_
      refine lv_iadd hx hb dX9_undo_55 ?_
      refine W.eq (g2 := F0 m 56 ls (.int (nI ((266 * hm) + i)) :: [.ref mh, .int (nI i), .ref ma])) (congrArg (fun z => F0 m 56 ls (.int z :: [.ref mh, .int (nI i), .ref ma])) (nI_add (266 * hm) i)) ?_
      refine k_iald hx hb hC.1 hP 2 0 rfl rfl (by omega) dX9_undo_56 ?_
      refine k_iast hx hb hC.1 hP hD hS 1 0 rfl rfl (by omega) dX9_undo_57 (fun H locs hP hD hS => ?_)
      have hP : va_P D vwCl [oMo mo ma mh (nI hm) 0 mk mz mt (nI tn) (nI ax) sc ti pp, aI T ma 266 (upd (unA al hy hm i) i (hy ((266 * hm) + i))), aI T mh 1330 hy] H := hP
      have hD : va_D A [oMo mo ma mh (nI hm) 0 mk mz mt (nI tn) (nI ax) sc ti pp, aI T ma 266 (upd (unA al hy hm i) i (hy ((266 * hm) + i))), aI T mh 1330 hy] := hD
      refine lv_iinc (v := nI (i + 1)) (lv' := [(1, .int (nI (i + 1))), (0, .ref mo)]) hx hb dX9_undo_58 hl (k := 0) rfl (nI_1 i) (by decide) rfl (fun ls hl => ?_)
      refine lv_goto (tgt := 30) hx hb dX9_undo_61 (by decide) ?_
      have e_1 : upd (unA al hy hm i) i (hy ((266 * hm) + i)) = unA al hy hm (i + 1) := by rw [unA]
      have eW := congrArg (fun zZ => ([oMo mo ma mh (nI hm) 0 mk mz mt (nI tn) (nI ax) sc ti pp, aI T ma 266 zZ, aI T mh 1330 hy] : va_W)) e_1
      have hP : va_P D vwCl [oMo mo ma mh (nI hm) 0 mk mz mt (nI tn) (nI ax) sc ti pp, aI T ma 266 (unA al hy hm (i + 1)), aI T mh 1330 hy] _ := Eq.subst (motive := fun w => va_P D vwCl w _) eW hP
      have hD : va_D A [oMo mo ma mh (nI hm) 0 mk mz mt (nI tn) (nI ax) sc ti pp, aI T ma 266 (unA al hy hm (i + 1)), aI T mh 1330 hy] := Eq.subst (motive := fun w => va_D A w) eW hD
      have hl : lv_has ls 2 [(1, .int (nI (i + 1))), (0, .ref mo)] := lv_sub hl [0, 1] (by rfl)
      exact ih (i + 1) (by omega)  _ _ _ hP hD hS hl
  have hl : lv_has ls 2 [(0, .ref mo)] := hl
  have hP : va_P D vwCl [oMo mo ma mh (nI (hm + 1)) th mk mz mt (nI tn) (nI ax) sc ti pp, aI T ma 266 al, aI T mh 1330 hy] s.heap := hP
  have hD : va_D A [oMo mo ma mh (nI (hm + 1)) th mk mz mt (nI tn) (nI ax) sc ti pp, aI T ma 266 al, aI T mh 1330 hy] := hD
  refine lv_aload_n hx hb dX9_undo_0 rfl (lv_at hl 0 rfl) ?_
  refine va_get (D := D) (ci := 8) (v := .int (nI (hm + 1))) (C := RX9) (T := TX9) (N := 12) hx hb hts iX9 hown hC.1 hP 0 rfl rfl 2 (by decide) (hts (.fieldLink RX9 29 "ParrotCountsModel" "historyLong" "I") (List.mem_of_getElem? (i := 1) rfl)) (fun _ h => h) rfl dX9_undo_1 ?_
  refine lv_if_ne (tgt := 13) hx hb dX9_undo_4 (by decide) (fun _ => ?_) (fun c_x => absurd c_x (nI_ne0 (by omega) (by omega)))
  refine lv_aload_n hx hb dX9_undo_13 rfl (lv_at hl 0 rfl) ?_
  refine lv_iconst (v := 0) hx hb dX9_undo_14 (by decide) ?_
  refine va_put (D := D) (ci := 8) (v := .int 0) (ty := .int) (C := RX9) (T := TX9) (N := 12) hx hb hts iX9 tyX9 tyX9_ok nmX9 hown hC.1 hP hD hS 0 rfl rfl 3 (by decide) (hts (.fieldLink RX9 25 "ParrotCountsModel" "thrown" "I") (List.mem_of_getElem? (i := 2) rfl)) (fun _ h9 => h9) rfl (by decide +kernel) rfl rfl (Nat.le_of_ble_eq_true rfl) dX9_undo_15 (fun H locs hP hD hS => ?_)
  have hP : va_P D vwCl [oMo mo ma mh (nI (hm + 1)) 0 mk mz mt (nI tn) (nI ax) sc ti pp, aI T ma 266 al, aI T mh 1330 hy] H := hP
  have hD : va_D A [oMo mo ma mh (nI (hm + 1)) 0 mk mz mt (nI tn) (nI ax) sc ti pp, aI T ma 266 al, aI T mh 1330 hy] := hD
  refine lv_aload_n hx hb dX9_undo_18 rfl (lv_at hl 0 rfl) ?_
  refine lv_dup hx hb dX9_undo_19 rfl ?_
  refine va_get (D := D) (ci := 8) (v := .int (nI (hm + 1))) (C := RX9) (T := TX9) (N := 12) hx hb hts iX9 hown hC.1 hP 0 rfl rfl 2 (by decide) (hts (.fieldLink RX9 29 "ParrotCountsModel" "historyLong" "I") (List.mem_of_getElem? (i := 1) rfl)) (fun _ h => h) rfl dX9_undo_20 ?_
  refine lv_iconst (v := 1) hx hb dX9_undo_23 (by decide) ?_
  refine lv_isub hx hb dX9_undo_24 ?_
  refine va_put (D := D) (ci := 8) (v := .int ((nI (hm + 1)) - 1)) (ty := .int) (C := RX9) (T := TX9) (N := 12) hx hb hts iX9 tyX9 tyX9_ok nmX9 hown hC.1 hP hD hS 0 rfl rfl 2 (by decide) (hts (.fieldLink RX9 29 "ParrotCountsModel" "historyLong" "I") (List.mem_of_getElem? (i := 1) rfl)) (fun _ h9 => h9) rfl (by decide +kernel) rfl rfl (Nat.le_of_ble_eq_true rfl) dX9_undo_25 (fun H locs hP hD hS => ?_)
  have hP : va_P D vwCl [oMo mo ma mh ((nI (hm + 1)) - 1) 0 mk mz mt (nI tn) (nI ax) sc ti pp, aI T ma 266 al, aI T mh 1330 hy] H := hP
  have hD : va_D A [oMo mo ma mh ((nI (hm + 1)) - 1) 0 mk mz mt (nI tn) (nI ax) sc ti pp, aI T ma 266 al, aI T mh 1330 hy] := hD
  refine lv_iconst (v := 0) hx hb dX9_undo_28 (by decide) ?_
  refine lv_istore_n (lv' := [(1, .int 0), (0, .ref mo)]) hx hb dX9_undo_29 rfl hl (by decide) rfl (fun ls hl => ?_)
  have e_2 : (nI (hm + 1)) - 1 = nI hm := by first | rfl | exact nI_pred hm
  have e_3 : al = unA al hy hm 0 := by first | rfl | exact nI_pred hm
  have eW := (congrArg (fun zZ => ([oMo mo ma mh zZ 0 mk mz mt (nI tn) (nI ax) sc ti pp, aI T ma 266 al, aI T mh 1330 hy] : va_W)) e_2).trans (congrArg (fun zZ => ([oMo mo ma mh (nI hm) 0 mk mz mt (nI tn) (nI ax) sc ti pp, aI T ma 266 zZ, aI T mh 1330 hy] : va_W)) e_3)
  have hP : va_P D vwCl [oMo mo ma mh (nI hm) 0 mk mz mt (nI tn) (nI ax) sc ti pp, aI T ma 266 (unA al hy hm 0), aI T mh 1330 hy] _ := Eq.subst (motive := fun w => va_P D vwCl w _) eW hP
  have hD : va_D A [oMo mo ma mh (nI hm) 0 mk mz mt (nI tn) (nI ax) sc ti pp, aI T ma 266 (unA al hy hm 0), aI T mh 1330 hy] := Eq.subst (motive := fun w => va_D A w) eW hD
  have e_4 : (0 : Int32) = nI 0 := by first | rfl | exact nI_pred hm
  have hl : lv_has ls 2 [(1, .int (nI 0)), (0, .ref mo)] := lv_sub hl [0, 1] (by show (_ : List (Nat × Value)) = [(1, .int (nI 0)), (0, .ref mo)]; rw [← e_4]; rfl)
  exact loop_30 266 0 (by omega)  _ _ _ hP hD hS hl
abbrev rX9_counters : Room := { frames := 1, cells := 0, slots := 0, locals := 23 }
set_option maxHeartbeats 4000000 in
set_option maxRecDepth 100000 in
theorem c_X9_counters (l : Launch) (D : va_G) (T : Nat → ClassId) (mo ma mh mk mz mt : Nat) (al : Nat → Int32) (hn : Nat) (th : Int32) (tn ax : Nat) (sc ti pp : Int32) : kM l D T yX9_counters wsX9_counters rX9_counters [.ref mo] [oMo mo ma mh (nI hn) th mk mz mt (nI tn) (nI ax) sc ti pp, aI T ma 266 al] (some (.int (nI (cntN (rwF al 26) 26)))) [oMo mo ma mh (nI hn) 0 mk mz mt (nI tn) (nI ax) sc ti pp, aI T ma 266 al] := by
  refine kM.of (cc := cX9_counters) (maxL := 1) (ret := some .int) (by decide) rfl (Nat.le_of_ble_eq_true rfl) ?_
  intro p e s m below meth c A Q ls hx hb hml hown hr hlk hts hC hP hD hS hA hl hret
  have hl : lv_has ls 1 [(0, .ref mo)] := hl
  have hP : va_P D vwCl [oMo mo ma mh (nI hn) th mk mz mt (nI tn) (nI ax) sc ti pp, aI T ma 266 al] s.heap := hP
  have hD : va_D A [oMo mo ma mh (nI hn) th mk mz mt (nI tn) (nI ax) sc ti pp, aI T ma 266 al] := hD
  refine lv_aload_n hx hb dX9_counters_0 rfl (lv_at hl 0 rfl) ?_
  refine lv_aload_n hx hb dX9_counters_1 rfl (lv_at hl 0 rfl) ?_
  refine lv_bipush (v := 26) hx hb dX9_counters_2 (by decide) ?_
  have hP := hP.sub (ws' := [oMo mo ma mh (nI hn) th mk mz mt (nI tn) (nI ax) sc ti pp, aI T ma 266 al] ++ []) [0, 1] rfl
  have hD := hD.sub (ws' := [oMo mo ma mh (nI hn) th mk mz mt (nI tn) (nI ax) sc ti pp, aI T ma 266 al] ++ []) [0, 1] (by decide) rfl
  refine kV (ci := 8) (As := [.int 26]) (rest := [.ref mo]) ⟨hx, hb, hml, hown, hts⟩ (c_X9_many l D T mo ma mh mk mz mt al hn th tn ax sc ti pp 26 (by first | omega | assumption)) (cwV 1 hts gX9_counters_X9_many rfl rfl rfl (by decide +kernel) ⟨Nat.le_of_ble_eq_true rfl, Nat.le_of_ble_eq_true rfl⟩) hC hP hD hS hA rfl rfl rfl hl.1 rfl (Nat.le_of_ble_eq_true rfl) dX9_counters_4 ⟨Nat.zero_le _, Nat.zero_le _⟩ (fun H locs hP hD hS => ?_)
  have hP : va_P D vwCl [oMo mo ma mh (nI hn) th mk mz mt (nI tn) (nI ax) sc ti pp, aI T ma 266 al] H := hP
  have hD : va_D A [oMo mo ma mh (nI hn) th mk mz mt (nI tn) (nI ax) sc ti pp, aI T ma 266 al] := hD
  refine W.eq (g2 := F0 m 7 ls [.int (nI (cntN (rwF al 26) 26)), .ref mo]) rfl ?_
  have hP := hP.sub (ws' := [oMo mo ma mh (nI hn) th mk mz mt (nI tn) (nI ax) sc ti pp] ++ [aI T ma 266 al]) [0, 1] rfl
  have hD := hD.sub (ws' := [oMo mo ma mh (nI hn) th mk mz mt (nI tn) (nI ax) sc ti pp] ++ [aI T ma 266 al]) [0, 1] (by decide) rfl
  refine kV (ci := 8) (As := [.int (nI (cntN (rwF al 26) 26))]) (rest := []) ⟨hx, hb, hml, hown, hts⟩ (c_X9_told l D T mo ma mh mk mz mt hn th tn ax sc ti pp (nI (cntN (rwF al 26) 26)) ) (cwV 1 hts gX9_counters_X9_told rfl rfl rfl (by decide +kernel) ⟨Nat.le_of_ble_eq_true rfl, Nat.le_of_ble_eq_true rfl⟩) hC hP hD hS hA rfl rfl rfl hl.1 rfl (Nat.le_of_ble_eq_true rfl) dX9_counters_7 ⟨Nat.zero_le _, Nat.zero_le _⟩ (fun H locs hP hD hS => ?_)
  have hP : va_P D vwCl [oMo mo ma mh (nI hn) 0 mk mz mt (nI tn) (nI ax) sc ti pp, aI T ma 266 al] H := hP
  have hD : va_D A [oMo mo ma mh (nI hn) 0 mk mz mt (nI tn) (nI ax) sc ti pp, aI T ma 266 al] := hD
  refine W.eq (g2 := F0 m 10 ls [.int (nI (cntN (rwF al 26) 26))]) rfl ?_
  exact hret _ _ _ _ _ (fun Qc free hq hf => W.iret hx hb hr hq hf dX9_counters_10 hlk) hP hD hS
abbrev rX9_estimate : Room := { frames := 4, cells := 0, slots := 0, locals := 88 }
set_option maxHeartbeats 4000000 in
set_option maxRecDepth 100000 in
theorem c_X9_estimate (l : Launch) (D : va_G) (T : Nat → ClassId) (mo ma mh mk mz mt : Nat) (al : Nat → Int32) (hn : Nat) (th : Int32) (tn ax : Nat) (sc ti pp : Int32) (cp : Nat) (pa : Nat) (hp : pa < 26) (hcp : al 264 = nI cp) (hcp9 : cp < 1000) : kM l D T yX9_estimate wsX9_estimate rX9_estimate [.ref mo, .int (nI pa)] [oMo mo ma mh (nI hn) th mk mz mt (nI tn) (nI ax) sc ti pp, aI T ma 266 al] (some (.int (mEst al 0 pa))) [oMo mo ma mh (nI hn) 0 mk mz mt (nI tn) (nI ax) sc ti pp, aI T ma 266 al] := by
  refine kM.of (cc := cX9_estimate) (maxL := 2) (ret := some .int) (by decide) rfl (Nat.le_of_ble_eq_true rfl) ?_
  intro p e s m below meth c A Q ls hx hb hml hown hr hlk hts hC hP hD hS hA hl hret
  have hl : lv_has ls 2 [(0, .ref mo), (1, .int (nI pa))] := hl
  have hP : va_P D vwCl [oMo mo ma mh (nI hn) th mk mz mt (nI tn) (nI ax) sc ti pp, aI T ma 266 al] s.heap := hP
  have hD : va_D A [oMo mo ma mh (nI hn) th mk mz mt (nI tn) (nI ax) sc ti pp, aI T ma 266 al] := hD
  refine lv_iload_n hx hb dX9_estimate_0 rfl (lv_at hl 1 rfl) ?_
  have hP := hP.sub (ws' := [] ++ [oMo mo ma mh (nI hn) th mk mz mt (nI tn) (nI ax) sc ti pp, aI T ma 266 al]) [0, 1] rfl
  have hD := hD.sub (ws' := [] ++ [oMo mo ma mh (nI hn) th mk mz mt (nI tn) (nI ax) sc ti pp, aI T ma 266 al]) [0, 1] (by decide) rfl
  refine kS (As := [.int (nI pa)]) (rest := []) ⟨hx, hb, hml, hown, hts⟩ (c_X9_isParrot l D T (nI pa) ) (va_cwS 1 hts gX9_estimate_X9_isParrot rfl rfl rfl (by decide +kernel) ⟨Nat.le_of_ble_eq_true rfl, Nat.le_of_ble_eq_true rfl⟩) hC hP hD hS hA rfl hl.1 rfl (Nat.le_of_ble_eq_true rfl) dX9_estimate_1 ⟨Nat.zero_le _, Nat.zero_le _⟩ (fun H locs hP hD hS => ?_)
  have hP : va_P D vwCl [oMo mo ma mh (nI hn) th mk mz mt (nI tn) (nI ax) sc ti pp, aI T ma 266 al] H := hP
  have hD : va_D A [oMo mo ma mh (nI hn) th mk mz mt (nI tn) (nI ax) sc ti pp, aI T ma 266 al] := hD
  refine W.eq (g2 := F0 m 4 ls [.int (bI (inL (nI pa).toInt64 0 25))]) rfl ?_
  refine lv_if_eq (tgt := 20) hx hb dX9_estimate_4 (by decide) (fun c_x => absurd c_x (fun e => by rw [inL_n hp] at e; exact absurd e (by decide))) (fun _ => ?_)
  refine lv_aload_n hx hb dX9_estimate_7 rfl (lv_at hl 0 rfl) ?_
  refine lv_aload_n hx hb dX9_estimate_8 rfl (lv_at hl 0 rfl) ?_
  refine lv_iconst (v := 0) hx hb dX9_estimate_9 (by decide) ?_
  refine lv_iload_n hx hb dX9_estimate_10 rfl (lv_at hl 1 rfl) ?_
  have hP := hP.sub (ws' := [oMo mo ma mh (nI hn) th mk mz mt (nI tn) (nI ax) sc ti pp, aI T ma 266 al] ++ []) [0, 1] rfl
  have hD := hD.sub (ws' := [oMo mo ma mh (nI hn) th mk mz mt (nI tn) (nI ax) sc ti pp, aI T ma 266 al] ++ []) [0, 1] (by decide) rfl
  refine kV (ci := 8) (As := [.int 0, .int (nI pa)]) (rest := [.ref mo]) ⟨hx, hb, hml, hown, hts⟩ (c_X9_estimateBy l D T mo ma mh mk mz mt al hn th tn ax sc ti pp 0 cp pa (by first | omega | assumption) (by first | omega | assumption) (by first | omega | assumption) (by first | omega | assumption)) (cwV 2 hts gX9_estimate_X9_estimateBy rfl rfl rfl (by decide +kernel) ⟨Nat.le_of_ble_eq_true rfl, Nat.le_of_ble_eq_true rfl⟩) hC hP hD hS hA rfl rfl rfl hl.1 rfl (Nat.le_of_ble_eq_true rfl) dX9_estimate_11 ⟨Nat.zero_le _, Nat.zero_le _⟩ (fun H locs hP hD hS => ?_)
  have hP : va_P D vwCl [oMo mo ma mh (nI hn) th mk mz mt (nI tn) (nI ax) sc ti pp, aI T ma 266 al] H := hP
  have hD : va_D A [oMo mo ma mh (nI hn) th mk mz mt (nI tn) (nI ax) sc ti pp, aI T ma 266 al] := hD
  refine W.eq (g2 := F0 m 14 ls [.int (mEst al 0 pa), .ref mo]) rfl ?_
  have hP := hP.sub (ws' := [oMo mo ma mh (nI hn) th mk mz mt (nI tn) (nI ax) sc ti pp] ++ [aI T ma 266 al]) [0, 1] rfl
  have hD := hD.sub (ws' := [oMo mo ma mh (nI hn) th mk mz mt (nI tn) (nI ax) sc ti pp] ++ [aI T ma 266 al]) [0, 1] (by decide) rfl
  refine kV (ci := 8) (As := [.int (mEst al 0 pa)]) (rest := []) ⟨hx, hb, hml, hown, hts⟩ (c_X9_told l D T mo ma mh mk mz mt hn th tn ax sc ti pp (mEst al 0 pa) ) (cwV 1 hts gX9_estimate_X9_told rfl rfl rfl (by decide +kernel) ⟨Nat.le_of_ble_eq_true rfl, Nat.le_of_ble_eq_true rfl⟩) hC hP hD hS hA rfl rfl rfl hl.1 rfl (Nat.le_of_ble_eq_true rfl) dX9_estimate_14 ⟨Nat.zero_le _, Nat.zero_le _⟩ (fun H locs hP hD hS => ?_)
  have hP : va_P D vwCl [oMo mo ma mh (nI hn) 0 mk mz mt (nI tn) (nI ax) sc ti pp, aI T ma 266 al] H := hP
  have hD : va_D A [oMo mo ma mh (nI hn) 0 mk mz mt (nI tn) (nI ax) sc ti pp, aI T ma 266 al] := hD
  refine W.eq (g2 := F0 m 17 ls [.int (mEst al 0 pa)]) rfl ?_
  refine lv_goto (tgt := 25) hx hb dX9_estimate_17 (by decide) ?_
  exact hret _ _ _ _ _ (fun Qc free hq hf => W.iret hx hb hr hq hf dX9_estimate_25 hlk) hP hD hS
set_option maxHeartbeats 4000000 in
set_option maxRecDepth 100000 in
theorem c_X9_estimate_bad (l : Launch) (D : va_G) (T : Nat → ClassId) (mo ma mh mk mz mt : Nat) (al : Nat → Int32) (hn : Nat) (th : Int32) (tn ax : Nat) (sc ti pp : Int32) (px : Int32) (hbad : inL px.toInt64 0 25 = false) : kM l D T yX9_estimate wsX9_estimate rX9_estimate [.ref mo, .int px] [oMo mo ma mh (nI hn) th mk mz mt (nI tn) (nI ax) sc ti pp, aI T ma 266 al] (some (.int 0)) [oMo mo ma mh (nI hn) 1 mk mz mt (nI tn) (nI ax) sc ti pp, aI T ma 266 al] := by
  refine kM.of (cc := cX9_estimate) (maxL := 2) (ret := some .int) (by decide) rfl (Nat.le_of_ble_eq_true rfl) ?_
  intro p e s m below meth c A Q ls hx hb hml hown hr hlk hts hC hP hD hS hA hl hret
  have hl : lv_has ls 2 [(0, .ref mo), (1, .int px)] := hl
  have hP : va_P D vwCl [oMo mo ma mh (nI hn) th mk mz mt (nI tn) (nI ax) sc ti pp, aI T ma 266 al] s.heap := hP
  have hD : va_D A [oMo mo ma mh (nI hn) th mk mz mt (nI tn) (nI ax) sc ti pp, aI T ma 266 al] := hD
  refine lv_iload_n hx hb dX9_estimate_0 rfl (lv_at hl 1 rfl) ?_
  have hP := hP.sub (ws' := [] ++ [oMo mo ma mh (nI hn) th mk mz mt (nI tn) (nI ax) sc ti pp, aI T ma 266 al]) [0, 1] rfl
  have hD := hD.sub (ws' := [] ++ [oMo mo ma mh (nI hn) th mk mz mt (nI tn) (nI ax) sc ti pp, aI T ma 266 al]) [0, 1] (by decide) rfl
  refine kS (As := [.int px]) (rest := []) ⟨hx, hb, hml, hown, hts⟩ (c_X9_isParrot l D T px ) (va_cwS 1 hts gX9_estimate_X9_isParrot rfl rfl rfl (by decide +kernel) ⟨Nat.le_of_ble_eq_true rfl, Nat.le_of_ble_eq_true rfl⟩) hC hP hD hS hA rfl hl.1 rfl (Nat.le_of_ble_eq_true rfl) dX9_estimate_1 ⟨Nat.zero_le _, Nat.zero_le _⟩ (fun H locs hP hD hS => ?_)
  have hP : va_P D vwCl [oMo mo ma mh (nI hn) th mk mz mt (nI tn) (nI ax) sc ti pp, aI T ma 266 al] H := hP
  have hD : va_D A [oMo mo ma mh (nI hn) th mk mz mt (nI tn) (nI ax) sc ti pp, aI T ma 266 al] := hD
  refine W.eq (g2 := F0 m 4 ls [.int (bI (inL px.toInt64 0 25))]) rfl ?_
  refine lv_if_eq (tgt := 20) hx hb dX9_estimate_4 (by decide) (fun _ => ?_) (fun c_x => absurd (by rw [hbad]; rfl) c_x)
  refine lv_aload_n hx hb dX9_estimate_20 rfl (lv_at hl 0 rfl) ?_
  refine lv_iconst (v := 1) hx hb dX9_estimate_21 (by decide) ?_
  have hP := hP.sub (ws' := [oMo mo ma mh (nI hn) th mk mz mt (nI tn) (nI ax) sc ti pp] ++ [aI T ma 266 al]) [0, 1] rfl
  have hD := hD.sub (ws' := [oMo mo ma mh (nI hn) th mk mz mt (nI tn) (nI ax) sc ti pp] ++ [aI T ma 266 al]) [0, 1] (by decide) rfl
  refine kV (ci := 8) (As := [.int 1]) (rest := []) ⟨hx, hb, hml, hown, hts⟩ (c_X9_fails l D T mo ma mh mk mz mt hn th tn ax sc ti pp 1 ) (cwV 1 hts gX9_estimate_X9_fails rfl rfl rfl (by decide +kernel) ⟨Nat.le_of_ble_eq_true rfl, Nat.le_of_ble_eq_true rfl⟩) hC hP hD hS hA rfl rfl rfl hl.1 rfl (Nat.le_of_ble_eq_true rfl) dX9_estimate_22 ⟨Nat.zero_le _, Nat.zero_le _⟩ (fun H locs hP hD hS => ?_)
  have hP : va_P D vwCl [oMo mo ma mh (nI hn) 1 mk mz mt (nI tn) (nI ax) sc ti pp, aI T ma 266 al] H := hP
  have hD : va_D A [oMo mo ma mh (nI hn) 1 mk mz mt (nI tn) (nI ax) sc ti pp, aI T ma 266 al] := hD
  refine W.eq (g2 := F0 m 25 ls [.int 0]) rfl ?_
  exact hret _ _ _ _ _ (fun Qc free hq hf => W.iret hx hb hr hq hf dX9_estimate_25 hlk) hP hD hS
abbrev rX9_sureCount : Room := { frames := 2, cells := 0, slots := 0, locals := 45 }
set_option maxHeartbeats 4000000 in
set_option maxRecDepth 100000 in
theorem c_X9_sureCount (l : Launch) (D : va_G) (T : Nat → ClassId) (mo ma mh mk mz mt : Nat) (al : Nat → Int32) (hn : Nat) (th : Int32) (tn ax : Nat) (sc ti pp : Int32) (pa : Nat) (hp : pa < 26) : kM l D T yX9_sureCount wsX9_sureCount rX9_sureCount [.ref mo, .int (nI pa)] [oMo mo ma mh (nI hn) th mk mz mt (nI tn) (nI ax) sc ti pp, aI T ma 266 al] (some (.int (mSure al 0 pa))) [oMo mo ma mh (nI hn) 0 mk mz mt (nI tn) (nI ax) sc ti pp, aI T ma 266 al] := by
  refine kM.of (cc := cX9_sureCount) (maxL := 2) (ret := some .int) (by decide) rfl (Nat.le_of_ble_eq_true rfl) ?_
  intro p e s m below meth c A Q ls hx hb hml hown hr hlk hts hC hP hD hS hA hl hret
  have hl : lv_has ls 2 [(0, .ref mo), (1, .int (nI pa))] := hl
  have hP : va_P D vwCl [oMo mo ma mh (nI hn) th mk mz mt (nI tn) (nI ax) sc ti pp, aI T ma 266 al] s.heap := hP
  have hD : va_D A [oMo mo ma mh (nI hn) th mk mz mt (nI tn) (nI ax) sc ti pp, aI T ma 266 al] := hD
  refine lv_iload_n hx hb dX9_sureCount_0 rfl (lv_at hl 1 rfl) ?_
  have hP := hP.sub (ws' := [] ++ [oMo mo ma mh (nI hn) th mk mz mt (nI tn) (nI ax) sc ti pp, aI T ma 266 al]) [0, 1] rfl
  have hD := hD.sub (ws' := [] ++ [oMo mo ma mh (nI hn) th mk mz mt (nI tn) (nI ax) sc ti pp, aI T ma 266 al]) [0, 1] (by decide) rfl
  refine kS (As := [.int (nI pa)]) (rest := []) ⟨hx, hb, hml, hown, hts⟩ (c_X9_isParrot l D T (nI pa) ) (va_cwS 1 hts gX9_sureCount_X9_isParrot rfl rfl rfl (by decide +kernel) ⟨Nat.le_of_ble_eq_true rfl, Nat.le_of_ble_eq_true rfl⟩) hC hP hD hS hA rfl hl.1 rfl (Nat.le_of_ble_eq_true rfl) dX9_sureCount_1 ⟨Nat.zero_le _, Nat.zero_le _⟩ (fun H locs hP hD hS => ?_)
  have hP : va_P D vwCl [oMo mo ma mh (nI hn) th mk mz mt (nI tn) (nI ax) sc ti pp, aI T ma 266 al] H := hP
  have hD : va_D A [oMo mo ma mh (nI hn) th mk mz mt (nI tn) (nI ax) sc ti pp, aI T ma 266 al] := hD
  refine W.eq (g2 := F0 m 4 ls [.int (bI (inL (nI pa).toInt64 0 25))]) rfl ?_
  refine lv_if_eq (tgt := 20) hx hb dX9_sureCount_4 (by decide) (fun c_x => absurd c_x (fun e => by rw [inL_n hp] at e; exact absurd e (by decide))) (fun _ => ?_)
  refine lv_aload_n hx hb dX9_sureCount_7 rfl (lv_at hl 0 rfl) ?_
  refine lv_aload_n hx hb dX9_sureCount_8 rfl (lv_at hl 0 rfl) ?_
  refine lv_iconst (v := 0) hx hb dX9_sureCount_9 (by decide) ?_
  refine lv_iload_n hx hb dX9_sureCount_10 rfl (lv_at hl 1 rfl) ?_
  have hP := hP.sub (ws' := [oMo mo ma mh (nI hn) th mk mz mt (nI tn) (nI ax) sc ti pp, aI T ma 266 al] ++ []) [0, 1] rfl
  have hD := hD.sub (ws' := [oMo mo ma mh (nI hn) th mk mz mt (nI tn) (nI ax) sc ti pp, aI T ma 266 al] ++ []) [0, 1] (by decide) rfl
  refine kV (ci := 8) (As := [.int 0, .int (nI pa)]) (rest := [.ref mo]) ⟨hx, hb, hml, hown, hts⟩ (c_X9_sureBy l D T mo ma mh mk mz mt al hn th tn ax sc ti pp 0 pa (by first | omega | assumption) (by first | omega | assumption)) (cwV 2 hts gX9_sureCount_X9_sureBy rfl rfl rfl (by decide +kernel) ⟨Nat.le_of_ble_eq_true rfl, Nat.le_of_ble_eq_true rfl⟩) hC hP hD hS hA rfl rfl rfl hl.1 rfl (Nat.le_of_ble_eq_true rfl) dX9_sureCount_11 ⟨Nat.zero_le _, Nat.zero_le _⟩ (fun H locs hP hD hS => ?_)
  have hP : va_P D vwCl [oMo mo ma mh (nI hn) th mk mz mt (nI tn) (nI ax) sc ti pp, aI T ma 266 al] H := hP
  have hD : va_D A [oMo mo ma mh (nI hn) th mk mz mt (nI tn) (nI ax) sc ti pp, aI T ma 266 al] := hD
  refine W.eq (g2 := F0 m 14 ls [.int (mSure al 0 pa), .ref mo]) rfl ?_
  have hP := hP.sub (ws' := [oMo mo ma mh (nI hn) th mk mz mt (nI tn) (nI ax) sc ti pp] ++ [aI T ma 266 al]) [0, 1] rfl
  have hD := hD.sub (ws' := [oMo mo ma mh (nI hn) th mk mz mt (nI tn) (nI ax) sc ti pp] ++ [aI T ma 266 al]) [0, 1] (by decide) rfl
  refine kV (ci := 8) (As := [.int (mSure al 0 pa)]) (rest := []) ⟨hx, hb, hml, hown, hts⟩ (c_X9_told l D T mo ma mh mk mz mt hn th tn ax sc ti pp (mSure al 0 pa) ) (cwV 1 hts gX9_sureCount_X9_told rfl rfl rfl (by decide +kernel) ⟨Nat.le_of_ble_eq_true rfl, Nat.le_of_ble_eq_true rfl⟩) hC hP hD hS hA rfl rfl rfl hl.1 rfl (Nat.le_of_ble_eq_true rfl) dX9_sureCount_14 ⟨Nat.zero_le _, Nat.zero_le _⟩ (fun H locs hP hD hS => ?_)
  have hP : va_P D vwCl [oMo mo ma mh (nI hn) 0 mk mz mt (nI tn) (nI ax) sc ti pp, aI T ma 266 al] H := hP
  have hD : va_D A [oMo mo ma mh (nI hn) 0 mk mz mt (nI tn) (nI ax) sc ti pp, aI T ma 266 al] := hD
  refine W.eq (g2 := F0 m 17 ls [.int (mSure al 0 pa)]) rfl ?_
  refine lv_goto (tgt := 25) hx hb dX9_sureCount_17 (by decide) ?_
  exact hret _ _ _ _ _ (fun Qc free hq hf => W.iret hx hb hr hq hf dX9_sureCount_25 hlk) hP hD hS
set_option maxHeartbeats 4000000 in
set_option maxRecDepth 100000 in
theorem c_X9_sureCount_bad (l : Launch) (D : va_G) (T : Nat → ClassId) (mo ma mh mk mz mt : Nat) (al : Nat → Int32) (hn : Nat) (th : Int32) (tn ax : Nat) (sc ti pp : Int32) (px : Int32) (hbad : inL px.toInt64 0 25 = false) : kM l D T yX9_sureCount wsX9_sureCount rX9_sureCount [.ref mo, .int px] [oMo mo ma mh (nI hn) th mk mz mt (nI tn) (nI ax) sc ti pp, aI T ma 266 al] (some (.int 0)) [oMo mo ma mh (nI hn) 1 mk mz mt (nI tn) (nI ax) sc ti pp, aI T ma 266 al] := by
  refine kM.of (cc := cX9_sureCount) (maxL := 2) (ret := some .int) (by decide) rfl (Nat.le_of_ble_eq_true rfl) ?_
  intro p e s m below meth c A Q ls hx hb hml hown hr hlk hts hC hP hD hS hA hl hret
  have hl : lv_has ls 2 [(0, .ref mo), (1, .int px)] := hl
  have hP : va_P D vwCl [oMo mo ma mh (nI hn) th mk mz mt (nI tn) (nI ax) sc ti pp, aI T ma 266 al] s.heap := hP
  have hD : va_D A [oMo mo ma mh (nI hn) th mk mz mt (nI tn) (nI ax) sc ti pp, aI T ma 266 al] := hD
  refine lv_iload_n hx hb dX9_sureCount_0 rfl (lv_at hl 1 rfl) ?_
  have hP := hP.sub (ws' := [] ++ [oMo mo ma mh (nI hn) th mk mz mt (nI tn) (nI ax) sc ti pp, aI T ma 266 al]) [0, 1] rfl
  have hD := hD.sub (ws' := [] ++ [oMo mo ma mh (nI hn) th mk mz mt (nI tn) (nI ax) sc ti pp, aI T ma 266 al]) [0, 1] (by decide) rfl
  refine kS (As := [.int px]) (rest := []) ⟨hx, hb, hml, hown, hts⟩ (c_X9_isParrot l D T px ) (va_cwS 1 hts gX9_sureCount_X9_isParrot rfl rfl rfl (by decide +kernel) ⟨Nat.le_of_ble_eq_true rfl, Nat.le_of_ble_eq_true rfl⟩) hC hP hD hS hA rfl hl.1 rfl (Nat.le_of_ble_eq_true rfl) dX9_sureCount_1 ⟨Nat.zero_le _, Nat.zero_le _⟩ (fun H locs hP hD hS => ?_)
  have hP : va_P D vwCl [oMo mo ma mh (nI hn) th mk mz mt (nI tn) (nI ax) sc ti pp, aI T ma 266 al] H := hP
  have hD : va_D A [oMo mo ma mh (nI hn) th mk mz mt (nI tn) (nI ax) sc ti pp, aI T ma 266 al] := hD
  refine W.eq (g2 := F0 m 4 ls [.int (bI (inL px.toInt64 0 25))]) rfl ?_
  refine lv_if_eq (tgt := 20) hx hb dX9_sureCount_4 (by decide) (fun _ => ?_) (fun c_x => absurd (by rw [hbad]; rfl) c_x)
  refine lv_aload_n hx hb dX9_sureCount_20 rfl (lv_at hl 0 rfl) ?_
  refine lv_iconst (v := 1) hx hb dX9_sureCount_21 (by decide) ?_
  have hP := hP.sub (ws' := [oMo mo ma mh (nI hn) th mk mz mt (nI tn) (nI ax) sc ti pp] ++ [aI T ma 266 al]) [0, 1] rfl
  have hD := hD.sub (ws' := [oMo mo ma mh (nI hn) th mk mz mt (nI tn) (nI ax) sc ti pp] ++ [aI T ma 266 al]) [0, 1] (by decide) rfl
  refine kV (ci := 8) (As := [.int 1]) (rest := []) ⟨hx, hb, hml, hown, hts⟩ (c_X9_fails l D T mo ma mh mk mz mt hn th tn ax sc ti pp 1 ) (cwV 1 hts gX9_sureCount_X9_fails rfl rfl rfl (by decide +kernel) ⟨Nat.le_of_ble_eq_true rfl, Nat.le_of_ble_eq_true rfl⟩) hC hP hD hS hA rfl rfl rfl hl.1 rfl (Nat.le_of_ble_eq_true rfl) dX9_sureCount_22 ⟨Nat.zero_le _, Nat.zero_le _⟩ (fun H locs hP hD hS => ?_)
  have hP : va_P D vwCl [oMo mo ma mh (nI hn) 1 mk mz mt (nI tn) (nI ax) sc ti pp, aI T ma 266 al] H := hP
  have hD : va_D A [oMo mo ma mh (nI hn) 1 mk mz mt (nI tn) (nI ax) sc ti pp, aI T ma 266 al] := hD
  refine W.eq (g2 := F0 m 25 ls [.int 0]) rfl ?_
  exact hret _ _ _ _ _ (fun Qc free hq hf => W.iret hx hb hr hq hf dX9_sureCount_25 hlk) hP hD hS
abbrev rX9_floor : Room := { frames := 3, cells := 0, slots := 0, locals := 65 }
set_option maxHeartbeats 4000000 in
set_option maxRecDepth 100000 in
theorem c_X9_floor (l : Launch) (D : va_G) (T : Nat → ClassId) (mo ma mh mk mz mt : Nat) (al : Nat → Int32) (hn : Nat) (th : Int32) (tn ax : Nat) (sc ti pp : Int32) (cp : Nat) (hcp : al 264 = nI cp) (hcp9 : cp < 1000) : kM l D T yX9_floor wsX9_floor rX9_floor [.ref mo] [oMo mo ma mh (nI hn) th mk mz mt (nI tn) (nI ax) sc ti pp, aI T ma 266 al] (some (.int (mFloor al 0))) [oMo mo ma mh (nI hn) 0 mk mz mt (nI tn) (nI ax) sc ti pp, aI T ma 266 al] := by
  refine kM.of (cc := cX9_floor) (maxL := 1) (ret := some .int) (by decide) rfl (Nat.le_of_ble_eq_true rfl) ?_
  intro p e s m below meth c A Q ls hx hb hml hown hr hlk hts hC hP hD hS hA hl hret
  have hl : lv_has ls 1 [(0, .ref mo)] := hl
  have hP : va_P D vwCl [oMo mo ma mh (nI hn) th mk mz mt (nI tn) (nI ax) sc ti pp, aI T ma 266 al] s.heap := hP
  have hD : va_D A [oMo mo ma mh (nI hn) th mk mz mt (nI tn) (nI ax) sc ti pp, aI T ma 266 al] := hD
  refine lv_aload_n hx hb dX9_floor_0 rfl (lv_at hl 0 rfl) ?_
  refine lv_aload_n hx hb dX9_floor_1 rfl (lv_at hl 0 rfl) ?_
  refine lv_iconst (v := 0) hx hb dX9_floor_2 (by decide) ?_
  have hP := hP.sub (ws' := [oMo mo ma mh (nI hn) th mk mz mt (nI tn) (nI ax) sc ti pp, aI T ma 266 al] ++ []) [0, 1] rfl
  have hD := hD.sub (ws' := [oMo mo ma mh (nI hn) th mk mz mt (nI tn) (nI ax) sc ti pp, aI T ma 266 al] ++ []) [0, 1] (by decide) rfl
  refine kV (ci := 8) (As := [.int 0]) (rest := [.ref mo]) ⟨hx, hb, hml, hown, hts⟩ (c_X9_floorOf l D T mo ma mh mk mz mt al hn th tn ax sc ti pp 0 cp (by first | omega | assumption) (by first | omega | assumption) (by first | omega | assumption)) (cwV 1 hts gX9_floor_X9_floorOf rfl rfl rfl (by decide +kernel) ⟨Nat.le_of_ble_eq_true rfl, Nat.le_of_ble_eq_true rfl⟩) hC hP hD hS hA rfl rfl rfl hl.1 rfl (Nat.le_of_ble_eq_true rfl) dX9_floor_3 ⟨Nat.zero_le _, Nat.zero_le _⟩ (fun H locs hP hD hS => ?_)
  have hP : va_P D vwCl [oMo mo ma mh (nI hn) th mk mz mt (nI tn) (nI ax) sc ti pp, aI T ma 266 al] H := hP
  have hD : va_D A [oMo mo ma mh (nI hn) th mk mz mt (nI tn) (nI ax) sc ti pp, aI T ma 266 al] := hD
  refine W.eq (g2 := F0 m 6 ls [.int (mFloor al 0), .ref mo]) rfl ?_
  have hP := hP.sub (ws' := [oMo mo ma mh (nI hn) th mk mz mt (nI tn) (nI ax) sc ti pp] ++ [aI T ma 266 al]) [0, 1] rfl
  have hD := hD.sub (ws' := [oMo mo ma mh (nI hn) th mk mz mt (nI tn) (nI ax) sc ti pp] ++ [aI T ma 266 al]) [0, 1] (by decide) rfl
  refine kV (ci := 8) (As := [.int (mFloor al 0)]) (rest := []) ⟨hx, hb, hml, hown, hts⟩ (c_X9_told l D T mo ma mh mk mz mt hn th tn ax sc ti pp (mFloor al 0) ) (cwV 1 hts gX9_floor_X9_told rfl rfl rfl (by decide +kernel) ⟨Nat.le_of_ble_eq_true rfl, Nat.le_of_ble_eq_true rfl⟩) hC hP hD hS hA rfl rfl rfl hl.1 rfl (Nat.le_of_ble_eq_true rfl) dX9_floor_6 ⟨Nat.zero_le _, Nat.zero_le _⟩ (fun H locs hP hD hS => ?_)
  have hP : va_P D vwCl [oMo mo ma mh (nI hn) 0 mk mz mt (nI tn) (nI ax) sc ti pp, aI T ma 266 al] H := hP
  have hD : va_D A [oMo mo ma mh (nI hn) 0 mk mz mt (nI tn) (nI ax) sc ti pp, aI T ma 266 al] := hD
  refine W.eq (g2 := F0 m 9 ls [.int (mFloor al 0)]) rfl ?_
  exact hret _ _ _ _ _ (fun Qc free hq hf => W.iret hx hb hr hq hf dX9_floor_9 hlk) hP hD hS
abbrev rX9_nextTakenOver : Room := { frames := 2, cells := 0, slots := 0, locals := 44 }
set_option maxHeartbeats 4000000 in
set_option maxRecDepth 100000 in
theorem c_X9_nextTakenOver (l : Launch) (D : va_G) (T : Nat → ClassId) (mo ma mh mk mz mt : Nat) (al : Nat → Int32) (hn : Nat) (th : Int32) (tn ax : Nat) (sc ti pp : Int32) (hfull : mFull al 0 = true) : kM l D T yX9_nextTakenOver wsX9_nextTakenOver rX9_nextTakenOver [.ref mo] [oMo mo ma mh (nI hn) th mk mz mt (nI tn) (nI ax) sc ti pp, aI T ma 266 al] (some (.int (mWeak al 0 26))) [oMo mo ma mh (nI hn) 0 mk mz mt (nI tn) (nI ax) sc ti pp, aI T ma 266 al] := by
  refine kM.of (cc := cX9_nextTakenOver) (maxL := 1) (ret := some .int) (by decide) rfl (Nat.le_of_ble_eq_true rfl) ?_
  intro p e s m below meth c A Q ls hx hb hml hown hr hlk hts hC hP hD hS hA hl hret
  have hl : lv_has ls 1 [(0, .ref mo)] := hl
  have hP : va_P D vwCl [oMo mo ma mh (nI hn) th mk mz mt (nI tn) (nI ax) sc ti pp, aI T ma 266 al] s.heap := hP
  have hD : va_D A [oMo mo ma mh (nI hn) th mk mz mt (nI tn) (nI ax) sc ti pp, aI T ma 266 al] := hD
  refine lv_aload_n hx hb dX9_nextTakenOver_0 rfl (lv_at hl 0 rfl) ?_
  refine lv_iconst (v := 0) hx hb dX9_nextTakenOver_1 (by decide) ?_
  have hP := hP.sub (ws' := [oMo mo ma mh (nI hn) th mk mz mt (nI tn) (nI ax) sc ti pp, aI T ma 266 al] ++ []) [0, 1] rfl
  have hD := hD.sub (ws' := [oMo mo ma mh (nI hn) th mk mz mt (nI tn) (nI ax) sc ti pp, aI T ma 266 al] ++ []) [0, 1] (by decide) rfl
  refine kV (ci := 8) (As := [.int 0]) (rest := []) ⟨hx, hb, hml, hown, hts⟩ (c_X9_isFull l D T mo ma mh mk mz mt al hn th tn ax sc ti pp 0 (by first | omega | assumption)) (cwV 1 hts gX9_nextTakenOver_X9_isFull rfl rfl rfl (by decide +kernel) ⟨Nat.le_of_ble_eq_true rfl, Nat.le_of_ble_eq_true rfl⟩) hC hP hD hS hA rfl rfl rfl hl.1 rfl (Nat.le_of_ble_eq_true rfl) dX9_nextTakenOver_2 ⟨Nat.zero_le _, Nat.zero_le _⟩ (fun H locs hP hD hS => ?_)
  have hP : va_P D vwCl [oMo mo ma mh (nI hn) th mk mz mt (nI tn) (nI ax) sc ti pp, aI T ma 266 al] H := hP
  have hD : va_D A [oMo mo ma mh (nI hn) th mk mz mt (nI tn) (nI ax) sc ti pp, aI T ma 266 al] := hD
  refine W.eq (g2 := F0 m 5 ls [.int (bI (mFull al 0))]) rfl ?_
  refine lv_if_eq (tgt := 20) hx hb dX9_nextTakenOver_5 (by decide) (fun c_x => absurd c_x (fun e => by rw [hfull] at e; exact absurd e (by decide))) (fun _ => ?_)
  refine lv_aload_n hx hb dX9_nextTakenOver_8 rfl (lv_at hl 0 rfl) ?_
  refine lv_aload_n hx hb dX9_nextTakenOver_9 rfl (lv_at hl 0 rfl) ?_
  refine lv_iconst (v := 0) hx hb dX9_nextTakenOver_10 (by decide) ?_
  have hP := hP.sub (ws' := [oMo mo ma mh (nI hn) th mk mz mt (nI tn) (nI ax) sc ti pp, aI T ma 266 al] ++ []) [0, 1] rfl
  have hD := hD.sub (ws' := [oMo mo ma mh (nI hn) th mk mz mt (nI tn) (nI ax) sc ti pp, aI T ma 266 al] ++ []) [0, 1] (by decide) rfl
  refine kV (ci := 8) (As := [.int 0]) (rest := [.ref mo]) ⟨hx, hb, hml, hown, hts⟩ (c_X9_leastOf l D T mo ma mh mk mz mt al hn th tn ax sc ti pp 0 (by first | omega | assumption)) (cwV 1 hts gX9_nextTakenOver_X9_leastOf rfl rfl rfl (by decide +kernel) ⟨Nat.le_of_ble_eq_true rfl, Nat.le_of_ble_eq_true rfl⟩) hC hP hD hS hA rfl rfl rfl hl.1 rfl (Nat.le_of_ble_eq_true rfl) dX9_nextTakenOver_11 ⟨Nat.zero_le _, Nat.zero_le _⟩ (fun H locs hP hD hS => ?_)
  have hP : va_P D vwCl [oMo mo ma mh (nI hn) th mk mz mt (nI tn) (nI ax) sc ti pp, aI T ma 266 al] H := hP
  have hD : va_D A [oMo mo ma mh (nI hn) th mk mz mt (nI tn) (nI ax) sc ti pp, aI T ma 266 al] := hD
  refine W.eq (g2 := F0 m 14 ls [.int (mWeak al 0 26), .ref mo]) rfl ?_
  have hP := hP.sub (ws' := [oMo mo ma mh (nI hn) th mk mz mt (nI tn) (nI ax) sc ti pp] ++ [aI T ma 266 al]) [0, 1] rfl
  have hD := hD.sub (ws' := [oMo mo ma mh (nI hn) th mk mz mt (nI tn) (nI ax) sc ti pp] ++ [aI T ma 266 al]) [0, 1] (by decide) rfl
  refine kV (ci := 8) (As := [.int (mWeak al 0 26)]) (rest := []) ⟨hx, hb, hml, hown, hts⟩ (c_X9_told l D T mo ma mh mk mz mt hn th tn ax sc ti pp (mWeak al 0 26) ) (cwV 1 hts gX9_nextTakenOver_X9_told rfl rfl rfl (by decide +kernel) ⟨Nat.le_of_ble_eq_true rfl, Nat.le_of_ble_eq_true rfl⟩) hC hP hD hS hA rfl rfl rfl hl.1 rfl (Nat.le_of_ble_eq_true rfl) dX9_nextTakenOver_14 ⟨Nat.zero_le _, Nat.zero_le _⟩ (fun H locs hP hD hS => ?_)
  have hP : va_P D vwCl [oMo mo ma mh (nI hn) 0 mk mz mt (nI tn) (nI ax) sc ti pp, aI T ma 266 al] H := hP
  have hD : va_D A [oMo mo ma mh (nI hn) 0 mk mz mt (nI tn) (nI ax) sc ti pp, aI T ma 266 al] := hD
  refine W.eq (g2 := F0 m 17 ls [.int (mWeak al 0 26)]) rfl ?_
  refine lv_goto (tgt := 25) hx hb dX9_nextTakenOver_17 (by decide) ?_
  exact hret _ _ _ _ _ (fun Qc free hq hf => W.iret hx hb hr hq hf dX9_nextTakenOver_25 hlk) hP hD hS
set_option maxHeartbeats 4000000 in
set_option maxRecDepth 100000 in
theorem c_X9_nextTakenOver_no (l : Launch) (D : va_G) (T : Nat → ClassId) (mo ma mh mk mz mt : Nat) (al : Nat → Int32) (hn : Nat) (th : Int32) (tn ax : Nat) (sc ti pp : Int32) (hfull : mFull al 0 = false) : kM l D T yX9_nextTakenOver wsX9_nextTakenOver rX9_nextTakenOver [.ref mo] [oMo mo ma mh (nI hn) th mk mz mt (nI tn) (nI ax) sc ti pp, aI T ma 266 al] (some (.int 0)) [oMo mo ma mh (nI hn) 1 mk mz mt (nI tn) (nI ax) sc ti pp, aI T ma 266 al] := by
  refine kM.of (cc := cX9_nextTakenOver) (maxL := 1) (ret := some .int) (by decide) rfl (Nat.le_of_ble_eq_true rfl) ?_
  intro p e s m below meth c A Q ls hx hb hml hown hr hlk hts hC hP hD hS hA hl hret
  have hl : lv_has ls 1 [(0, .ref mo)] := hl
  have hP : va_P D vwCl [oMo mo ma mh (nI hn) th mk mz mt (nI tn) (nI ax) sc ti pp, aI T ma 266 al] s.heap := hP
  have hD : va_D A [oMo mo ma mh (nI hn) th mk mz mt (nI tn) (nI ax) sc ti pp, aI T ma 266 al] := hD
  refine lv_aload_n hx hb dX9_nextTakenOver_0 rfl (lv_at hl 0 rfl) ?_
  refine lv_iconst (v := 0) hx hb dX9_nextTakenOver_1 (by decide) ?_
  have hP := hP.sub (ws' := [oMo mo ma mh (nI hn) th mk mz mt (nI tn) (nI ax) sc ti pp, aI T ma 266 al] ++ []) [0, 1] rfl
  have hD := hD.sub (ws' := [oMo mo ma mh (nI hn) th mk mz mt (nI tn) (nI ax) sc ti pp, aI T ma 266 al] ++ []) [0, 1] (by decide) rfl
  refine kV (ci := 8) (As := [.int 0]) (rest := []) ⟨hx, hb, hml, hown, hts⟩ (c_X9_isFull l D T mo ma mh mk mz mt al hn th tn ax sc ti pp 0 (by first | omega | assumption)) (cwV 1 hts gX9_nextTakenOver_X9_isFull rfl rfl rfl (by decide +kernel) ⟨Nat.le_of_ble_eq_true rfl, Nat.le_of_ble_eq_true rfl⟩) hC hP hD hS hA rfl rfl rfl hl.1 rfl (Nat.le_of_ble_eq_true rfl) dX9_nextTakenOver_2 ⟨Nat.zero_le _, Nat.zero_le _⟩ (fun H locs hP hD hS => ?_)
  have hP : va_P D vwCl [oMo mo ma mh (nI hn) th mk mz mt (nI tn) (nI ax) sc ti pp, aI T ma 266 al] H := hP
  have hD : va_D A [oMo mo ma mh (nI hn) th mk mz mt (nI tn) (nI ax) sc ti pp, aI T ma 266 al] := hD
  refine W.eq (g2 := F0 m 5 ls [.int (bI (mFull al 0))]) rfl ?_
  refine lv_if_eq (tgt := 20) hx hb dX9_nextTakenOver_5 (by decide) (fun _ => ?_) (fun c_x => absurd (by rw [hfull]; rfl) c_x)
  refine lv_aload_n hx hb dX9_nextTakenOver_20 rfl (lv_at hl 0 rfl) ?_
  refine lv_iconst (v := 1) hx hb dX9_nextTakenOver_21 (by decide) ?_
  have hP := hP.sub (ws' := [oMo mo ma mh (nI hn) th mk mz mt (nI tn) (nI ax) sc ti pp] ++ [aI T ma 266 al]) [0, 1] rfl
  have hD := hD.sub (ws' := [oMo mo ma mh (nI hn) th mk mz mt (nI tn) (nI ax) sc ti pp] ++ [aI T ma 266 al]) [0, 1] (by decide) rfl
  refine kV (ci := 8) (As := [.int 1]) (rest := []) ⟨hx, hb, hml, hown, hts⟩ (c_X9_fails l D T mo ma mh mk mz mt hn th tn ax sc ti pp 1 ) (cwV 1 hts gX9_nextTakenOver_X9_fails rfl rfl rfl (by decide +kernel) ⟨Nat.le_of_ble_eq_true rfl, Nat.le_of_ble_eq_true rfl⟩) hC hP hD hS hA rfl rfl rfl hl.1 rfl (Nat.le_of_ble_eq_true rfl) dX9_nextTakenOver_22 ⟨Nat.zero_le _, Nat.zero_le _⟩ (fun H locs hP hD hS => ?_)
  have hP : va_P D vwCl [oMo mo ma mh (nI hn) 1 mk mz mt (nI tn) (nI ax) sc ti pp, aI T ma 266 al] H := hP
  have hD : va_D A [oMo mo ma mh (nI hn) 1 mk mz mt (nI tn) (nI ax) sc ti pp, aI T ma 266 al] := hD
  refine W.eq (g2 := F0 m 25 ls [.int 0]) rfl ?_
  exact hret _ _ _ _ _ (fun Qc free hq hf => W.iret hx hb hr hq hf dX9_nextTakenOver_25 hlk) hP hD hS
abbrev rX9_wornCounters : Room := { frames := 1, cells := 0, slots := 0, locals := 23 }
set_option maxHeartbeats 4000000 in
set_option maxRecDepth 100000 in
theorem c_X9_wornCounters (l : Launch) (D : va_G) (T : Nat → ClassId) (mo ma mh mk mz mt : Nat) (al : Nat → Int32) (hn : Nat) (th : Int32) (tn ax : Nat) (sc ti pp : Int32) : kM l D T yX9_wornCounters wsX9_wornCounters rX9_wornCounters [.ref mo] [oMo mo ma mh (nI hn) th mk mz mt (nI tn) (nI ax) sc ti pp, aI T ma 266 al] (some (.int (nI (cntN (rwF al 104) 26)))) [oMo mo ma mh (nI hn) 0 mk mz mt (nI tn) (nI ax) sc ti pp, aI T ma 266 al] := by
  refine kM.of (cc := cX9_wornCounters) (maxL := 1) (ret := some .int) (by decide) rfl (Nat.le_of_ble_eq_true rfl) ?_
  intro p e s m below meth c A Q ls hx hb hml hown hr hlk hts hC hP hD hS hA hl hret
  have hl : lv_has ls 1 [(0, .ref mo)] := hl
  have hP : va_P D vwCl [oMo mo ma mh (nI hn) th mk mz mt (nI tn) (nI ax) sc ti pp, aI T ma 266 al] s.heap := hP
  have hD : va_D A [oMo mo ma mh (nI hn) th mk mz mt (nI tn) (nI ax) sc ti pp, aI T ma 266 al] := hD
  refine lv_aload_n hx hb dX9_wornCounters_0 rfl (lv_at hl 0 rfl) ?_
  refine lv_aload_n hx hb dX9_wornCounters_1 rfl (lv_at hl 0 rfl) ?_
  refine lv_bipush (v := 104) hx hb dX9_wornCounters_2 (by decide) ?_
  have hP := hP.sub (ws' := [oMo mo ma mh (nI hn) th mk mz mt (nI tn) (nI ax) sc ti pp, aI T ma 266 al] ++ []) [0, 1] rfl
  have hD := hD.sub (ws' := [oMo mo ma mh (nI hn) th mk mz mt (nI tn) (nI ax) sc ti pp, aI T ma 266 al] ++ []) [0, 1] (by decide) rfl
  refine kV (ci := 8) (As := [.int 104]) (rest := [.ref mo]) ⟨hx, hb, hml, hown, hts⟩ (c_X9_many l D T mo ma mh mk mz mt al hn th tn ax sc ti pp 104 (by first | omega | assumption)) (cwV 1 hts gX9_wornCounters_X9_many rfl rfl rfl (by decide +kernel) ⟨Nat.le_of_ble_eq_true rfl, Nat.le_of_ble_eq_true rfl⟩) hC hP hD hS hA rfl rfl rfl hl.1 rfl (Nat.le_of_ble_eq_true rfl) dX9_wornCounters_4 ⟨Nat.zero_le _, Nat.zero_le _⟩ (fun H locs hP hD hS => ?_)
  have hP : va_P D vwCl [oMo mo ma mh (nI hn) th mk mz mt (nI tn) (nI ax) sc ti pp, aI T ma 266 al] H := hP
  have hD : va_D A [oMo mo ma mh (nI hn) th mk mz mt (nI tn) (nI ax) sc ti pp, aI T ma 266 al] := hD
  refine W.eq (g2 := F0 m 7 ls [.int (nI (cntN (rwF al 104) 26)), .ref mo]) rfl ?_
  have hP := hP.sub (ws' := [oMo mo ma mh (nI hn) th mk mz mt (nI tn) (nI ax) sc ti pp] ++ [aI T ma 266 al]) [0, 1] rfl
  have hD := hD.sub (ws' := [oMo mo ma mh (nI hn) th mk mz mt (nI tn) (nI ax) sc ti pp] ++ [aI T ma 266 al]) [0, 1] (by decide) rfl
  refine kV (ci := 8) (As := [.int (nI (cntN (rwF al 104) 26))]) (rest := []) ⟨hx, hb, hml, hown, hts⟩ (c_X9_told l D T mo ma mh mk mz mt hn th tn ax sc ti pp (nI (cntN (rwF al 104) 26)) ) (cwV 1 hts gX9_wornCounters_X9_told rfl rfl rfl (by decide +kernel) ⟨Nat.le_of_ble_eq_true rfl, Nat.le_of_ble_eq_true rfl⟩) hC hP hD hS hA rfl rfl rfl hl.1 rfl (Nat.le_of_ble_eq_true rfl) dX9_wornCounters_7 ⟨Nat.zero_le _, Nat.zero_le _⟩ (fun H locs hP hD hS => ?_)
  have hP : va_P D vwCl [oMo mo ma mh (nI hn) 0 mk mz mt (nI tn) (nI ax) sc ti pp, aI T ma 266 al] H := hP
  have hD : va_D A [oMo mo ma mh (nI hn) 0 mk mz mt (nI tn) (nI ax) sc ti pp, aI T ma 266 al] := hD
  refine W.eq (g2 := F0 m 10 ls [.int (nI (cntN (rwF al 104) 26))]) rfl ?_
  exact hret _ _ _ _ _ (fun Qc free hq hf => W.iret hx hb hr hq hf dX9_wornCounters_10 hlk) hP hD hS
abbrev rX9_wornCount : Room := { frames := 2, cells := 0, slots := 0, locals := 45 }
set_option maxHeartbeats 4000000 in
set_option maxRecDepth 100000 in
theorem c_X9_wornCount (l : Launch) (D : va_G) (T : Nat → ClassId) (mo ma mh mk mz mt : Nat) (al : Nat → Int32) (hn : Nat) (th : Int32) (tn ax : Nat) (sc ti pp : Int32) (pa : Nat) (hp : pa < 26) : kM l D T yX9_wornCount wsX9_wornCount rX9_wornCount [.ref mo, .int (nI pa)] [oMo mo ma mh (nI hn) th mk mz mt (nI tn) (nI ax) sc ti pp, aI T ma 266 al] (some (.int (al (104 + pa)))) [oMo mo ma mh (nI hn) 0 mk mz mt (nI tn) (nI ax) sc ti pp, aI T ma 266 al] := by
  refine kM.of (cc := cX9_wornCount) (maxL := 2) (ret := some .int) (by decide) rfl (Nat.le_of_ble_eq_true rfl) ?_
  intro p e s m below meth c A Q ls hx hb hml hown hr hlk hts hC hP hD hS hA hl hret
  have iX9 : ∀ w ∈ wsX90, w ∈ wsX9_wornCount := (fun _ h => List.mem_cons_of_mem _ (List.mem_append_right _ h))
  have hl : lv_has ls 2 [(0, .ref mo), (1, .int (nI pa))] := hl
  have hP : va_P D vwCl [oMo mo ma mh (nI hn) th mk mz mt (nI tn) (nI ax) sc ti pp, aI T ma 266 al] s.heap := hP
  have hD : va_D A [oMo mo ma mh (nI hn) th mk mz mt (nI tn) (nI ax) sc ti pp, aI T ma 266 al] := hD
  refine lv_iload_n hx hb dX9_wornCount_0 rfl (lv_at hl 1 rfl) ?_
  have hP := hP.sub (ws' := [] ++ [oMo mo ma mh (nI hn) th mk mz mt (nI tn) (nI ax) sc ti pp, aI T ma 266 al]) [0, 1] rfl
  have hD := hD.sub (ws' := [] ++ [oMo mo ma mh (nI hn) th mk mz mt (nI tn) (nI ax) sc ti pp, aI T ma 266 al]) [0, 1] (by decide) rfl
  refine kS (As := [.int (nI pa)]) (rest := []) ⟨hx, hb, hml, hown, hts⟩ (c_X9_isParrot l D T (nI pa) ) (va_cwS 1 hts gX9_wornCount_X9_isParrot rfl rfl rfl (by decide +kernel) ⟨Nat.le_of_ble_eq_true rfl, Nat.le_of_ble_eq_true rfl⟩) hC hP hD hS hA rfl hl.1 rfl (Nat.le_of_ble_eq_true rfl) dX9_wornCount_1 ⟨Nat.zero_le _, Nat.zero_le _⟩ (fun H locs hP hD hS => ?_)
  have hP : va_P D vwCl [oMo mo ma mh (nI hn) th mk mz mt (nI tn) (nI ax) sc ti pp, aI T ma 266 al] H := hP
  have hD : va_D A [oMo mo ma mh (nI hn) th mk mz mt (nI tn) (nI ax) sc ti pp, aI T ma 266 al] := hD
  refine W.eq (g2 := F0 m 4 ls [.int (bI (inL (nI pa).toInt64 0 25))]) rfl ?_
  refine lv_if_eq (tgt := 23) hx hb dX9_wornCount_4 (by decide) (fun c_x => absurd c_x (fun e => by rw [inL_n hp] at e; exact absurd e (by decide))) (fun _ => ?_)
  refine lv_aload_n hx hb dX9_wornCount_7 rfl (lv_at hl 0 rfl) ?_
  refine lv_aload_n hx hb dX9_wornCount_8 rfl (lv_at hl 0 rfl) ?_
  refine va_get (D := D) (ci := 8) (v := .ref ma) (C := RX9) (T := TX9) (N := 12) hx hb hts iX9 hown hC.1 hP 0 rfl rfl 0 (by decide) (hts (.fieldLink RX9 7 "ParrotCountsModel" "all" "[I") (List.mem_of_getElem? (i := 1) rfl)) (fun _ h => h) rfl dX9_wornCount_9 ?_
  refine lv_bipush (v := 104) hx hb dX9_wornCount_12 (by decide) ?_
  refine lv_iload_n hx hb dX9_wornCount_14 rfl (lv_at hl 1 rfl) ?_
  refine lv_iadd hx hb dX9_wornCount_15 ?_
  refine W.eq (g2 := F0 m 16 ls (.int (nI (104 + pa)) :: [.ref ma, .ref mo])) (congrArg (fun z => F0 m 16 ls (.int z :: [.ref ma, .ref mo])) (nI_add 104 pa)) ?_
  refine k_iald hx hb hC.1 hP 1 0 rfl rfl (by omega) dX9_wornCount_16 ?_
  have hP := hP.sub (ws' := [oMo mo ma mh (nI hn) th mk mz mt (nI tn) (nI ax) sc ti pp] ++ [aI T ma 266 al]) [0, 1] rfl
  have hD := hD.sub (ws' := [oMo mo ma mh (nI hn) th mk mz mt (nI tn) (nI ax) sc ti pp] ++ [aI T ma 266 al]) [0, 1] (by decide) rfl
  refine kV (ci := 8) (As := [.int (al (104 + pa))]) (rest := []) ⟨hx, hb, hml, hown, hts⟩ (c_X9_told l D T mo ma mh mk mz mt hn th tn ax sc ti pp (al (104 + pa)) ) (cwV 1 hts gX9_wornCount_X9_told rfl rfl rfl (by decide +kernel) ⟨Nat.le_of_ble_eq_true rfl, Nat.le_of_ble_eq_true rfl⟩) hC hP hD hS hA rfl rfl rfl hl.1 rfl (Nat.le_of_ble_eq_true rfl) dX9_wornCount_17 ⟨Nat.zero_le _, Nat.zero_le _⟩ (fun H locs hP hD hS => ?_)
  have hP : va_P D vwCl [oMo mo ma mh (nI hn) 0 mk mz mt (nI tn) (nI ax) sc ti pp, aI T ma 266 al] H := hP
  have hD : va_D A [oMo mo ma mh (nI hn) 0 mk mz mt (nI tn) (nI ax) sc ti pp, aI T ma 266 al] := hD
  refine W.eq (g2 := F0 m 20 ls [.int (al (104 + pa))]) rfl ?_
  refine lv_goto (tgt := 28) hx hb dX9_wornCount_20 (by decide) ?_
  exact hret _ _ _ _ _ (fun Qc free hq hf => W.iret hx hb hr hq hf dX9_wornCount_28 hlk) hP hD hS
set_option maxHeartbeats 4000000 in
set_option maxRecDepth 100000 in
theorem c_X9_wornCount_bad (l : Launch) (D : va_G) (T : Nat → ClassId) (mo ma mh mk mz mt : Nat) (al : Nat → Int32) (hn : Nat) (th : Int32) (tn ax : Nat) (sc ti pp : Int32) (px : Int32) (hbad : inL px.toInt64 0 25 = false) : kM l D T yX9_wornCount wsX9_wornCount rX9_wornCount [.ref mo, .int px] [oMo mo ma mh (nI hn) th mk mz mt (nI tn) (nI ax) sc ti pp, aI T ma 266 al] (some (.int 0)) [oMo mo ma mh (nI hn) 1 mk mz mt (nI tn) (nI ax) sc ti pp, aI T ma 266 al] := by
  refine kM.of (cc := cX9_wornCount) (maxL := 2) (ret := some .int) (by decide) rfl (Nat.le_of_ble_eq_true rfl) ?_
  intro p e s m below meth c A Q ls hx hb hml hown hr hlk hts hC hP hD hS hA hl hret
  have hl : lv_has ls 2 [(0, .ref mo), (1, .int px)] := hl
  have hP : va_P D vwCl [oMo mo ma mh (nI hn) th mk mz mt (nI tn) (nI ax) sc ti pp, aI T ma 266 al] s.heap := hP
  have hD : va_D A [oMo mo ma mh (nI hn) th mk mz mt (nI tn) (nI ax) sc ti pp, aI T ma 266 al] := hD
  refine lv_iload_n hx hb dX9_wornCount_0 rfl (lv_at hl 1 rfl) ?_
  have hP := hP.sub (ws' := [] ++ [oMo mo ma mh (nI hn) th mk mz mt (nI tn) (nI ax) sc ti pp, aI T ma 266 al]) [0, 1] rfl
  have hD := hD.sub (ws' := [] ++ [oMo mo ma mh (nI hn) th mk mz mt (nI tn) (nI ax) sc ti pp, aI T ma 266 al]) [0, 1] (by decide) rfl
  refine kS (As := [.int px]) (rest := []) ⟨hx, hb, hml, hown, hts⟩ (c_X9_isParrot l D T px ) (va_cwS 1 hts gX9_wornCount_X9_isParrot rfl rfl rfl (by decide +kernel) ⟨Nat.le_of_ble_eq_true rfl, Nat.le_of_ble_eq_true rfl⟩) hC hP hD hS hA rfl hl.1 rfl (Nat.le_of_ble_eq_true rfl) dX9_wornCount_1 ⟨Nat.zero_le _, Nat.zero_le _⟩ (fun H locs hP hD hS => ?_)
  have hP : va_P D vwCl [oMo mo ma mh (nI hn) th mk mz mt (nI tn) (nI ax) sc ti pp, aI T ma 266 al] H := hP
  have hD : va_D A [oMo mo ma mh (nI hn) th mk mz mt (nI tn) (nI ax) sc ti pp, aI T ma 266 al] := hD
  refine W.eq (g2 := F0 m 4 ls [.int (bI (inL px.toInt64 0 25))]) rfl ?_
  refine lv_if_eq (tgt := 23) hx hb dX9_wornCount_4 (by decide) (fun _ => ?_) (fun c_x => absurd (by rw [hbad]; rfl) c_x)
  refine lv_aload_n hx hb dX9_wornCount_23 rfl (lv_at hl 0 rfl) ?_
  refine lv_iconst (v := 1) hx hb dX9_wornCount_24 (by decide) ?_
  have hP := hP.sub (ws' := [oMo mo ma mh (nI hn) th mk mz mt (nI tn) (nI ax) sc ti pp] ++ [aI T ma 266 al]) [0, 1] rfl
  have hD := hD.sub (ws' := [oMo mo ma mh (nI hn) th mk mz mt (nI tn) (nI ax) sc ti pp] ++ [aI T ma 266 al]) [0, 1] (by decide) rfl
  refine kV (ci := 8) (As := [.int 1]) (rest := []) ⟨hx, hb, hml, hown, hts⟩ (c_X9_fails l D T mo ma mh mk mz mt hn th tn ax sc ti pp 1 ) (cwV 1 hts gX9_wornCount_X9_fails rfl rfl rfl (by decide +kernel) ⟨Nat.le_of_ble_eq_true rfl, Nat.le_of_ble_eq_true rfl⟩) hC hP hD hS hA rfl rfl rfl hl.1 rfl (Nat.le_of_ble_eq_true rfl) dX9_wornCount_25 ⟨Nat.zero_le _, Nat.zero_le _⟩ (fun H locs hP hD hS => ?_)
  have hP : va_P D vwCl [oMo mo ma mh (nI hn) 1 mk mz mt (nI tn) (nI ax) sc ti pp, aI T ma 266 al] H := hP
  have hD : va_D A [oMo mo ma mh (nI hn) 1 mk mz mt (nI tn) (nI ax) sc ti pp, aI T ma 266 al] := hD
  refine W.eq (g2 := F0 m 28 ls [.int 0]) rfl ?_
  exact hret _ _ _ _ _ (fun Qc free hq hf => W.iret hx hb hr hq hf dX9_wornCount_28 hlk) hP hD hS
abbrev rX9_aboveFloor : Room := { frames := 4, cells := 0, slots := 0, locals := 88 }
set_option maxHeartbeats 4000000 in
set_option maxRecDepth 100000 in
theorem c_X9_aboveFloor (l : Launch) (D : va_G) (T : Nat → ClassId) (mo ma mh mk mz mt : Nat) (al : Nat → Int32) (hn : Nat) (th : Int32) (tn ax : Nat) (sc ti pp : Int32) (cp : Nat) (pa : Nat) (hp : pa < 26) (hcp : al 264 = nI cp) (hcp9 : cp < 1000) : kM l D T yX9_aboveFloor wsX9_aboveFloor rX9_aboveFloor [.ref mo, .int (nI pa)] [oMo mo ma mh (nI hn) th mk mz mt (nI tn) (nI ax) sc ti pp, aI T ma 266 al] (some (.int (mEst al 0 pa - mFloor al 0))) [oMo mo ma mh (nI hn) 0 mk mz mt (nI tn) (nI ax) sc ti pp, aI T ma 266 al] := by
  refine kM.of (cc := cX9_aboveFloor) (maxL := 2) (ret := some .int) (by decide) rfl (Nat.le_of_ble_eq_true rfl) ?_
  intro p e s m below meth c A Q ls hx hb hml hown hr hlk hts hC hP hD hS hA hl hret
  have hl : lv_has ls 2 [(0, .ref mo), (1, .int (nI pa))] := hl
  have hP : va_P D vwCl [oMo mo ma mh (nI hn) th mk mz mt (nI tn) (nI ax) sc ti pp, aI T ma 266 al] s.heap := hP
  have hD : va_D A [oMo mo ma mh (nI hn) th mk mz mt (nI tn) (nI ax) sc ti pp, aI T ma 266 al] := hD
  refine lv_iload_n hx hb dX9_aboveFloor_0 rfl (lv_at hl 1 rfl) ?_
  have hP := hP.sub (ws' := [] ++ [oMo mo ma mh (nI hn) th mk mz mt (nI tn) (nI ax) sc ti pp, aI T ma 266 al]) [0, 1] rfl
  have hD := hD.sub (ws' := [] ++ [oMo mo ma mh (nI hn) th mk mz mt (nI tn) (nI ax) sc ti pp, aI T ma 266 al]) [0, 1] (by decide) rfl
  refine kS (As := [.int (nI pa)]) (rest := []) ⟨hx, hb, hml, hown, hts⟩ (c_X9_isParrot l D T (nI pa) ) (va_cwS 1 hts gX9_aboveFloor_X9_isParrot rfl rfl rfl (by decide +kernel) ⟨Nat.le_of_ble_eq_true rfl, Nat.le_of_ble_eq_true rfl⟩) hC hP hD hS hA rfl hl.1 rfl (Nat.le_of_ble_eq_true rfl) dX9_aboveFloor_1 ⟨Nat.zero_le _, Nat.zero_le _⟩ (fun H locs hP hD hS => ?_)
  have hP : va_P D vwCl [oMo mo ma mh (nI hn) th mk mz mt (nI tn) (nI ax) sc ti pp, aI T ma 266 al] H := hP
  have hD : va_D A [oMo mo ma mh (nI hn) th mk mz mt (nI tn) (nI ax) sc ti pp, aI T ma 266 al] := hD
  refine W.eq (g2 := F0 m 4 ls [.int (bI (inL (nI pa).toInt64 0 25))]) rfl ?_
  refine lv_if_eq (tgt := 26) hx hb dX9_aboveFloor_4 (by decide) (fun c_x => absurd c_x (fun e => by rw [inL_n hp] at e; exact absurd e (by decide))) (fun _ => ?_)
  refine lv_aload_n hx hb dX9_aboveFloor_7 rfl (lv_at hl 0 rfl) ?_
  refine lv_aload_n hx hb dX9_aboveFloor_8 rfl (lv_at hl 0 rfl) ?_
  refine lv_iconst (v := 0) hx hb dX9_aboveFloor_9 (by decide) ?_
  refine lv_iload_n hx hb dX9_aboveFloor_10 rfl (lv_at hl 1 rfl) ?_
  have hP := hP.sub (ws' := [oMo mo ma mh (nI hn) th mk mz mt (nI tn) (nI ax) sc ti pp, aI T ma 266 al] ++ []) [0, 1] rfl
  have hD := hD.sub (ws' := [oMo mo ma mh (nI hn) th mk mz mt (nI tn) (nI ax) sc ti pp, aI T ma 266 al] ++ []) [0, 1] (by decide) rfl
  refine kV (ci := 8) (As := [.int 0, .int (nI pa)]) (rest := [.ref mo]) ⟨hx, hb, hml, hown, hts⟩ (c_X9_estimateBy l D T mo ma mh mk mz mt al hn th tn ax sc ti pp 0 cp pa (by first | omega | assumption) (by first | omega | assumption) (by first | omega | assumption) (by first | omega | assumption)) (cwV 2 hts gX9_aboveFloor_X9_estimateBy rfl rfl rfl (by decide +kernel) ⟨Nat.le_of_ble_eq_true rfl, Nat.le_of_ble_eq_true rfl⟩) hC hP hD hS hA rfl rfl rfl hl.1 rfl (Nat.le_of_ble_eq_true rfl) dX9_aboveFloor_11 ⟨Nat.zero_le _, Nat.zero_le _⟩ (fun H locs hP hD hS => ?_)
  have hP : va_P D vwCl [oMo mo ma mh (nI hn) th mk mz mt (nI tn) (nI ax) sc ti pp, aI T ma 266 al] H := hP
  have hD : va_D A [oMo mo ma mh (nI hn) th mk mz mt (nI tn) (nI ax) sc ti pp, aI T ma 266 al] := hD
  refine W.eq (g2 := F0 m 14 ls [.int (mEst al 0 pa), .ref mo]) rfl ?_
  refine lv_aload_n hx hb dX9_aboveFloor_14 rfl (lv_at hl 0 rfl) ?_
  refine lv_iconst (v := 0) hx hb dX9_aboveFloor_15 (by decide) ?_
  have hP := hP.sub (ws' := [oMo mo ma mh (nI hn) th mk mz mt (nI tn) (nI ax) sc ti pp, aI T ma 266 al] ++ []) [0, 1] rfl
  have hD := hD.sub (ws' := [oMo mo ma mh (nI hn) th mk mz mt (nI tn) (nI ax) sc ti pp, aI T ma 266 al] ++ []) [0, 1] (by decide) rfl
  refine kV (ci := 8) (As := [.int 0]) (rest := [.int (mEst al 0 pa), .ref mo]) ⟨hx, hb, hml, hown, hts⟩ (c_X9_floorOf l D T mo ma mh mk mz mt al hn th tn ax sc ti pp 0 cp (by first | omega | assumption) (by first | omega | assumption) (by first | omega | assumption)) (cwV 1 hts gX9_aboveFloor_X9_floorOf rfl rfl rfl (by decide +kernel) ⟨Nat.le_of_ble_eq_true rfl, Nat.le_of_ble_eq_true rfl⟩) hC hP hD hS hA rfl rfl rfl hl.1 rfl (Nat.le_of_ble_eq_true rfl) dX9_aboveFloor_16 ⟨Nat.zero_le _, Nat.zero_le _⟩ (fun H locs hP hD hS => ?_)
  have hP : va_P D vwCl [oMo mo ma mh (nI hn) th mk mz mt (nI tn) (nI ax) sc ti pp, aI T ma 266 al] H := hP
  have hD : va_D A [oMo mo ma mh (nI hn) th mk mz mt (nI tn) (nI ax) sc ti pp, aI T ma 266 al] := hD
  refine W.eq (g2 := F0 m 19 ls [.int (mFloor al 0), .int (mEst al 0 pa), .ref mo]) rfl ?_
  refine lv_isub hx hb dX9_aboveFloor_19 ?_
  have hP := hP.sub (ws' := [oMo mo ma mh (nI hn) th mk mz mt (nI tn) (nI ax) sc ti pp] ++ [aI T ma 266 al]) [0, 1] rfl
  have hD := hD.sub (ws' := [oMo mo ma mh (nI hn) th mk mz mt (nI tn) (nI ax) sc ti pp] ++ [aI T ma 266 al]) [0, 1] (by decide) rfl
  refine kV (ci := 8) (As := [.int ((mEst al 0 pa) - (mFloor al 0))]) (rest := []) ⟨hx, hb, hml, hown, hts⟩ (c_X9_told l D T mo ma mh mk mz mt hn th tn ax sc ti pp ((mEst al 0 pa) - (mFloor al 0)) ) (cwV 1 hts gX9_aboveFloor_X9_told rfl rfl rfl (by decide +kernel) ⟨Nat.le_of_ble_eq_true rfl, Nat.le_of_ble_eq_true rfl⟩) hC hP hD hS hA rfl rfl rfl hl.1 rfl (Nat.le_of_ble_eq_true rfl) dX9_aboveFloor_20 ⟨Nat.zero_le _, Nat.zero_le _⟩ (fun H locs hP hD hS => ?_)
  have hP : va_P D vwCl [oMo mo ma mh (nI hn) 0 mk mz mt (nI tn) (nI ax) sc ti pp, aI T ma 266 al] H := hP
  have hD : va_D A [oMo mo ma mh (nI hn) 0 mk mz mt (nI tn) (nI ax) sc ti pp, aI T ma 266 al] := hD
  refine W.eq (g2 := F0 m 23 ls [.int ((mEst al 0 pa) - (mFloor al 0))]) rfl ?_
  refine lv_goto (tgt := 31) hx hb dX9_aboveFloor_23 (by decide) ?_
  have e_1 : ((mEst al 0 pa) - (mFloor al 0)) = mEst al 0 pa - mFloor al 0 := by rfl
  refine W.eq (g2 := F0 m 31 ls [.int (mEst al 0 pa - mFloor al 0)]) (congrArg (fun z => F0 m 31 ls [.int z]) e_1) ?_
  exact hret _ _ _ _ _ (fun Qc free hq hf => W.iret hx hb hr hq hf dX9_aboveFloor_31 hlk) hP hD hS
set_option maxHeartbeats 4000000 in
set_option maxRecDepth 100000 in
theorem c_X9_aboveFloor_bad (l : Launch) (D : va_G) (T : Nat → ClassId) (mo ma mh mk mz mt : Nat) (al : Nat → Int32) (hn : Nat) (th : Int32) (tn ax : Nat) (sc ti pp : Int32) (px : Int32) (hbad : inL px.toInt64 0 25 = false) : kM l D T yX9_aboveFloor wsX9_aboveFloor rX9_aboveFloor [.ref mo, .int px] [oMo mo ma mh (nI hn) th mk mz mt (nI tn) (nI ax) sc ti pp, aI T ma 266 al] (some (.int 0)) [oMo mo ma mh (nI hn) 1 mk mz mt (nI tn) (nI ax) sc ti pp, aI T ma 266 al] := by
  refine kM.of (cc := cX9_aboveFloor) (maxL := 2) (ret := some .int) (by decide) rfl (Nat.le_of_ble_eq_true rfl) ?_
  intro p e s m below meth c A Q ls hx hb hml hown hr hlk hts hC hP hD hS hA hl hret
  have hl : lv_has ls 2 [(0, .ref mo), (1, .int px)] := hl
  have hP : va_P D vwCl [oMo mo ma mh (nI hn) th mk mz mt (nI tn) (nI ax) sc ti pp, aI T ma 266 al] s.heap := hP
  have hD : va_D A [oMo mo ma mh (nI hn) th mk mz mt (nI tn) (nI ax) sc ti pp, aI T ma 266 al] := hD
  refine lv_iload_n hx hb dX9_aboveFloor_0 rfl (lv_at hl 1 rfl) ?_
  have hP := hP.sub (ws' := [] ++ [oMo mo ma mh (nI hn) th mk mz mt (nI tn) (nI ax) sc ti pp, aI T ma 266 al]) [0, 1] rfl
  have hD := hD.sub (ws' := [] ++ [oMo mo ma mh (nI hn) th mk mz mt (nI tn) (nI ax) sc ti pp, aI T ma 266 al]) [0, 1] (by decide) rfl
  refine kS (As := [.int px]) (rest := []) ⟨hx, hb, hml, hown, hts⟩ (c_X9_isParrot l D T px ) (va_cwS 1 hts gX9_aboveFloor_X9_isParrot rfl rfl rfl (by decide +kernel) ⟨Nat.le_of_ble_eq_true rfl, Nat.le_of_ble_eq_true rfl⟩) hC hP hD hS hA rfl hl.1 rfl (Nat.le_of_ble_eq_true rfl) dX9_aboveFloor_1 ⟨Nat.zero_le _, Nat.zero_le _⟩ (fun H locs hP hD hS => ?_)
  have hP : va_P D vwCl [oMo mo ma mh (nI hn) th mk mz mt (nI tn) (nI ax) sc ti pp, aI T ma 266 al] H := hP
  have hD : va_D A [oMo mo ma mh (nI hn) th mk mz mt (nI tn) (nI ax) sc ti pp, aI T ma 266 al] := hD
  refine W.eq (g2 := F0 m 4 ls [.int (bI (inL px.toInt64 0 25))]) rfl ?_
  refine lv_if_eq (tgt := 26) hx hb dX9_aboveFloor_4 (by decide) (fun _ => ?_) (fun c_x => absurd (by rw [hbad]; rfl) c_x)
  refine lv_aload_n hx hb dX9_aboveFloor_26 rfl (lv_at hl 0 rfl) ?_
  refine lv_iconst (v := 1) hx hb dX9_aboveFloor_27 (by decide) ?_
  have hP := hP.sub (ws' := [oMo mo ma mh (nI hn) th mk mz mt (nI tn) (nI ax) sc ti pp] ++ [aI T ma 266 al]) [0, 1] rfl
  have hD := hD.sub (ws' := [oMo mo ma mh (nI hn) th mk mz mt (nI tn) (nI ax) sc ti pp] ++ [aI T ma 266 al]) [0, 1] (by decide) rfl
  refine kV (ci := 8) (As := [.int 1]) (rest := []) ⟨hx, hb, hml, hown, hts⟩ (c_X9_fails l D T mo ma mh mk mz mt hn th tn ax sc ti pp 1 ) (cwV 1 hts gX9_aboveFloor_X9_fails rfl rfl rfl (by decide +kernel) ⟨Nat.le_of_ble_eq_true rfl, Nat.le_of_ble_eq_true rfl⟩) hC hP hD hS hA rfl rfl rfl hl.1 rfl (Nat.le_of_ble_eq_true rfl) dX9_aboveFloor_28 ⟨Nat.zero_le _, Nat.zero_le _⟩ (fun H locs hP hD hS => ?_)
  have hP : va_P D vwCl [oMo mo ma mh (nI hn) 1 mk mz mt (nI tn) (nI ax) sc ti pp, aI T ma 266 al] H := hP
  have hD : va_D A [oMo mo ma mh (nI hn) 1 mk mz mt (nI tn) (nI ax) sc ti pp, aI T ma 266 al] := hD
  refine W.eq (g2 := F0 m 31 ls [.int 0]) rfl ?_
  exact hret _ _ _ _ _ (fun Qc free hq hf => W.iret hx hb hr hq hf dX9_aboveFloor_31 hlk) hP hD hS
abbrev rX9_wear : Room := { frames := 1, cells := 0, slots := 0, locals := 21 }
set_option maxHeartbeats 4000000 in
set_option maxRecDepth 100000 in
theorem c_X9_wear (l : Launch) (D : va_G) (T : Nat → ClassId) (mo ma mh mk mz mt : Nat) (al : Nat → Int32) (hn : Nat) (th : Int32) (tn ax : Nat) (sc ti pp : Int32) : kM l D T yX9_wear wsX9_wear rX9_wear [.ref mo] [oMo mo ma mh (nI hn) th mk mz mt (nI tn) (nI ax) sc ti pp, aI T ma 266 al] (some (.int (al 130))) [oMo mo ma mh (nI hn) 0 mk mz mt (nI tn) (nI ax) sc ti pp, aI T ma 266 al] := by
  refine kM.of (cc := cX9_wear) (maxL := 1) (ret := some .int) (by decide) rfl (Nat.le_of_ble_eq_true rfl) ?_
  intro p e s m below meth c A Q ls hx hb hml hown hr hlk hts hC hP hD hS hA hl hret
  have iX9 : ∀ w ∈ wsX90, w ∈ wsX9_wear := (fun _ h => List.mem_cons_of_mem _ (List.mem_append_right _ h))
  have hl : lv_has ls 1 [(0, .ref mo)] := hl
  have hP : va_P D vwCl [oMo mo ma mh (nI hn) th mk mz mt (nI tn) (nI ax) sc ti pp, aI T ma 266 al] s.heap := hP
  have hD : va_D A [oMo mo ma mh (nI hn) th mk mz mt (nI tn) (nI ax) sc ti pp, aI T ma 266 al] := hD
  refine lv_aload_n hx hb dX9_wear_0 rfl (lv_at hl 0 rfl) ?_
  refine lv_aload_n hx hb dX9_wear_1 rfl (lv_at hl 0 rfl) ?_
  refine va_get (D := D) (ci := 8) (v := .ref ma) (C := RX9) (T := TX9) (N := 12) hx hb hts iX9 hown hC.1 hP 0 rfl rfl 0 (by decide) (hts (.fieldLink RX9 7 "ParrotCountsModel" "all" "[I") (List.mem_of_getElem? (i := 1) rfl)) (fun _ h => h) rfl dX9_wear_2 ?_
  refine lv_sipush (v := 130) hx hb dX9_wear_5 (by decide) ?_
  refine k_iald hx hb hC.1 hP 1 0 rfl rfl (by decide) dX9_wear_8 ?_
  have hP := hP.sub (ws' := [oMo mo ma mh (nI hn) th mk mz mt (nI tn) (nI ax) sc ti pp] ++ [aI T ma 266 al]) [0, 1] rfl
  have hD := hD.sub (ws' := [oMo mo ma mh (nI hn) th mk mz mt (nI tn) (nI ax) sc ti pp] ++ [aI T ma 266 al]) [0, 1] (by decide) rfl
  refine kV (ci := 8) (As := [.int (al 130)]) (rest := []) ⟨hx, hb, hml, hown, hts⟩ (c_X9_told l D T mo ma mh mk mz mt hn th tn ax sc ti pp (al 130) ) (cwV 1 hts gX9_wear_X9_told rfl rfl rfl (by decide +kernel) ⟨Nat.le_of_ble_eq_true rfl, Nat.le_of_ble_eq_true rfl⟩) hC hP hD hS hA rfl rfl rfl hl.1 rfl (Nat.le_of_ble_eq_true rfl) dX9_wear_9 ⟨Nat.zero_le _, Nat.zero_le _⟩ (fun H locs hP hD hS => ?_)
  have hP : va_P D vwCl [oMo mo ma mh (nI hn) 0 mk mz mt (nI tn) (nI ax) sc ti pp, aI T ma 266 al] H := hP
  have hD : va_D A [oMo mo ma mh (nI hn) 0 mk mz mt (nI tn) (nI ax) sc ti pp, aI T ma 266 al] := hD
  refine W.eq (g2 := F0 m 12 ls [.int (al 130)]) rfl ?_
  exact hret _ _ _ _ _ (fun Qc free hq hf => W.iret hx hb hr hq hf dX9_wear_12 hlk) hP hD hS
abbrev rX9_capacity : Room := { frames := 1, cells := 0, slots := 0, locals := 21 }
set_option maxHeartbeats 4000000 in
set_option maxRecDepth 100000 in
theorem c_X9_capacity (l : Launch) (D : va_G) (T : Nat → ClassId) (mo ma mh mk mz mt : Nat) (al : Nat → Int32) (hn : Nat) (th : Int32) (tn ax : Nat) (sc ti pp : Int32) : kM l D T yX9_capacity wsX9_capacity rX9_capacity [.ref mo] [oMo mo ma mh (nI hn) th mk mz mt (nI tn) (nI ax) sc ti pp, aI T ma 266 al] (some (.int (al 264))) [oMo mo ma mh (nI hn) 0 mk mz mt (nI tn) (nI ax) sc ti pp, aI T ma 266 al] := by
  refine kM.of (cc := cX9_capacity) (maxL := 1) (ret := some .int) (by decide) rfl (Nat.le_of_ble_eq_true rfl) ?_
  intro p e s m below meth c A Q ls hx hb hml hown hr hlk hts hC hP hD hS hA hl hret
  have iX9 : ∀ w ∈ wsX90, w ∈ wsX9_capacity := (fun _ h => List.mem_cons_of_mem _ (List.mem_append_right _ h))
  have hl : lv_has ls 1 [(0, .ref mo)] := hl
  have hP : va_P D vwCl [oMo mo ma mh (nI hn) th mk mz mt (nI tn) (nI ax) sc ti pp, aI T ma 266 al] s.heap := hP
  have hD : va_D A [oMo mo ma mh (nI hn) th mk mz mt (nI tn) (nI ax) sc ti pp, aI T ma 266 al] := hD
  refine lv_aload_n hx hb dX9_capacity_0 rfl (lv_at hl 0 rfl) ?_
  refine lv_aload_n hx hb dX9_capacity_1 rfl (lv_at hl 0 rfl) ?_
  refine va_get (D := D) (ci := 8) (v := .ref ma) (C := RX9) (T := TX9) (N := 12) hx hb hts iX9 hown hC.1 hP 0 rfl rfl 0 (by decide) (hts (.fieldLink RX9 7 "ParrotCountsModel" "all" "[I") (List.mem_of_getElem? (i := 1) rfl)) (fun _ h => h) rfl dX9_capacity_2 ?_
  refine lv_sipush (v := 264) hx hb dX9_capacity_5 (by decide) ?_
  refine k_iald hx hb hC.1 hP 1 0 rfl rfl (by decide) dX9_capacity_8 ?_
  have hP := hP.sub (ws' := [oMo mo ma mh (nI hn) th mk mz mt (nI tn) (nI ax) sc ti pp] ++ [aI T ma 266 al]) [0, 1] rfl
  have hD := hD.sub (ws' := [oMo mo ma mh (nI hn) th mk mz mt (nI tn) (nI ax) sc ti pp] ++ [aI T ma 266 al]) [0, 1] (by decide) rfl
  refine kV (ci := 8) (As := [.int (al 264)]) (rest := []) ⟨hx, hb, hml, hown, hts⟩ (c_X9_told l D T mo ma mh mk mz mt hn th tn ax sc ti pp (al 264) ) (cwV 1 hts gX9_capacity_X9_told rfl rfl rfl (by decide +kernel) ⟨Nat.le_of_ble_eq_true rfl, Nat.le_of_ble_eq_true rfl⟩) hC hP hD hS hA rfl rfl rfl hl.1 rfl (Nat.le_of_ble_eq_true rfl) dX9_capacity_9 ⟨Nat.zero_le _, Nat.zero_le _⟩ (fun H locs hP hD hS => ?_)
  have hP : va_P D vwCl [oMo mo ma mh (nI hn) 0 mk mz mt (nI tn) (nI ax) sc ti pp, aI T ma 266 al] H := hP
  have hD : va_D A [oMo mo ma mh (nI hn) 0 mk mz mt (nI tn) (nI ax) sc ti pp, aI T ma 266 al] := hD
  refine W.eq (g2 := F0 m 12 ls [.int (al 264)]) rfl ?_
  exact hret _ _ _ _ _ (fun Qc free hq hf => W.iret hx hb hr hq hf dX9_capacity_12 hlk) hP hD hS
abbrev rX9_trueCount : Room := { frames := 2, cells := 0, slots := 0, locals := 45 }
set_option maxHeartbeats 4000000 in
set_option maxRecDepth 100000 in
theorem c_X9_trueCount (l : Launch) (D : va_G) (T : Nat → ClassId) (mo ma mh mk mz mt : Nat) (al : Nat → Int32) (hn : Nat) (th : Int32) (tn ax : Nat) (sc ti pp : Int32) (pa : Nat) (hp : pa < 26) : kM l D T yX9_trueCount wsX9_trueCount rX9_trueCount [.ref mo, .int (nI pa)] [oMo mo ma mh (nI hn) th mk mz mt (nI tn) (nI ax) sc ti pp, aI T ma 266 al] (some (.int (al pa))) [oMo mo ma mh (nI hn) 0 mk mz mt (nI tn) (nI ax) sc ti pp, aI T ma 266 al] := by
  refine kM.of (cc := cX9_trueCount) (maxL := 2) (ret := some .int) (by decide) rfl (Nat.le_of_ble_eq_true rfl) ?_
  intro p e s m below meth c A Q ls hx hb hml hown hr hlk hts hC hP hD hS hA hl hret
  have iX9 : ∀ w ∈ wsX90, w ∈ wsX9_trueCount := (fun _ h => List.mem_cons_of_mem _ (List.mem_append_right _ h))
  have hl : lv_has ls 2 [(0, .ref mo), (1, .int (nI pa))] := hl
  have hP : va_P D vwCl [oMo mo ma mh (nI hn) th mk mz mt (nI tn) (nI ax) sc ti pp, aI T ma 266 al] s.heap := hP
  have hD : va_D A [oMo mo ma mh (nI hn) th mk mz mt (nI tn) (nI ax) sc ti pp, aI T ma 266 al] := hD
  refine lv_iload_n hx hb dX9_trueCount_0 rfl (lv_at hl 1 rfl) ?_
  have hP := hP.sub (ws' := [] ++ [oMo mo ma mh (nI hn) th mk mz mt (nI tn) (nI ax) sc ti pp, aI T ma 266 al]) [0, 1] rfl
  have hD := hD.sub (ws' := [] ++ [oMo mo ma mh (nI hn) th mk mz mt (nI tn) (nI ax) sc ti pp, aI T ma 266 al]) [0, 1] (by decide) rfl
  refine kS (As := [.int (nI pa)]) (rest := []) ⟨hx, hb, hml, hown, hts⟩ (c_X9_isParrot l D T (nI pa) ) (va_cwS 1 hts gX9_trueCount_X9_isParrot rfl rfl rfl (by decide +kernel) ⟨Nat.le_of_ble_eq_true rfl, Nat.le_of_ble_eq_true rfl⟩) hC hP hD hS hA rfl hl.1 rfl (Nat.le_of_ble_eq_true rfl) dX9_trueCount_1 ⟨Nat.zero_le _, Nat.zero_le _⟩ (fun H locs hP hD hS => ?_)
  have hP : va_P D vwCl [oMo mo ma mh (nI hn) th mk mz mt (nI tn) (nI ax) sc ti pp, aI T ma 266 al] H := hP
  have hD : va_D A [oMo mo ma mh (nI hn) th mk mz mt (nI tn) (nI ax) sc ti pp, aI T ma 266 al] := hD
  refine W.eq (g2 := F0 m 4 ls [.int (bI (inL (nI pa).toInt64 0 25))]) rfl ?_
  refine lv_if_eq (tgt := 22) hx hb dX9_trueCount_4 (by decide) (fun c_x => absurd c_x (fun e => by rw [inL_n hp] at e; exact absurd e (by decide))) (fun _ => ?_)
  refine lv_aload_n hx hb dX9_trueCount_7 rfl (lv_at hl 0 rfl) ?_
  refine lv_aload_n hx hb dX9_trueCount_8 rfl (lv_at hl 0 rfl) ?_
  refine va_get (D := D) (ci := 8) (v := .ref ma) (C := RX9) (T := TX9) (N := 12) hx hb hts iX9 hown hC.1 hP 0 rfl rfl 0 (by decide) (hts (.fieldLink RX9 7 "ParrotCountsModel" "all" "[I") (List.mem_of_getElem? (i := 1) rfl)) (fun _ h => h) rfl dX9_trueCount_9 ?_
  refine lv_iconst (v := 0) hx hb dX9_trueCount_12 (by decide) ?_
  refine lv_iload_n hx hb dX9_trueCount_13 rfl (lv_at hl 1 rfl) ?_
  refine lv_iadd hx hb dX9_trueCount_14 ?_
  refine W.eq (g2 := F0 m 15 ls (.int (nI pa) :: [.ref ma, .ref mo])) (congrArg (fun z => F0 m 15 ls (.int z :: [.ref ma, .ref mo])) (nI_z pa)) ?_
  refine k_iald hx hb hC.1 hP 1 0 rfl rfl (by omega) dX9_trueCount_15 ?_
  have hP := hP.sub (ws' := [oMo mo ma mh (nI hn) th mk mz mt (nI tn) (nI ax) sc ti pp] ++ [aI T ma 266 al]) [0, 1] rfl
  have hD := hD.sub (ws' := [oMo mo ma mh (nI hn) th mk mz mt (nI tn) (nI ax) sc ti pp] ++ [aI T ma 266 al]) [0, 1] (by decide) rfl
  refine kV (ci := 8) (As := [.int (al pa)]) (rest := []) ⟨hx, hb, hml, hown, hts⟩ (c_X9_told l D T mo ma mh mk mz mt hn th tn ax sc ti pp (al pa) ) (cwV 1 hts gX9_trueCount_X9_told rfl rfl rfl (by decide +kernel) ⟨Nat.le_of_ble_eq_true rfl, Nat.le_of_ble_eq_true rfl⟩) hC hP hD hS hA rfl rfl rfl hl.1 rfl (Nat.le_of_ble_eq_true rfl) dX9_trueCount_16 ⟨Nat.zero_le _, Nat.zero_le _⟩ (fun H locs hP hD hS => ?_)
  have hP : va_P D vwCl [oMo mo ma mh (nI hn) 0 mk mz mt (nI tn) (nI ax) sc ti pp, aI T ma 266 al] H := hP
  have hD : va_D A [oMo mo ma mh (nI hn) 0 mk mz mt (nI tn) (nI ax) sc ti pp, aI T ma 266 al] := hD
  refine W.eq (g2 := F0 m 19 ls [.int (al pa)]) rfl ?_
  refine lv_goto (tgt := 27) hx hb dX9_trueCount_19 (by decide) ?_
  exact hret _ _ _ _ _ (fun Qc free hq hf => W.iret hx hb hr hq hf dX9_trueCount_27 hlk) hP hD hS
set_option maxHeartbeats 4000000 in
set_option maxRecDepth 100000 in
theorem c_X9_trueCount_bad (l : Launch) (D : va_G) (T : Nat → ClassId) (mo ma mh mk mz mt : Nat) (al : Nat → Int32) (hn : Nat) (th : Int32) (tn ax : Nat) (sc ti pp : Int32) (px : Int32) (hbad : inL px.toInt64 0 25 = false) : kM l D T yX9_trueCount wsX9_trueCount rX9_trueCount [.ref mo, .int px] [oMo mo ma mh (nI hn) th mk mz mt (nI tn) (nI ax) sc ti pp, aI T ma 266 al] (some (.int 0)) [oMo mo ma mh (nI hn) 1 mk mz mt (nI tn) (nI ax) sc ti pp, aI T ma 266 al] := by
  refine kM.of (cc := cX9_trueCount) (maxL := 2) (ret := some .int) (by decide) rfl (Nat.le_of_ble_eq_true rfl) ?_
  intro p e s m below meth c A Q ls hx hb hml hown hr hlk hts hC hP hD hS hA hl hret
  have hl : lv_has ls 2 [(0, .ref mo), (1, .int px)] := hl
  have hP : va_P D vwCl [oMo mo ma mh (nI hn) th mk mz mt (nI tn) (nI ax) sc ti pp, aI T ma 266 al] s.heap := hP
  have hD : va_D A [oMo mo ma mh (nI hn) th mk mz mt (nI tn) (nI ax) sc ti pp, aI T ma 266 al] := hD
  refine lv_iload_n hx hb dX9_trueCount_0 rfl (lv_at hl 1 rfl) ?_
  have hP := hP.sub (ws' := [] ++ [oMo mo ma mh (nI hn) th mk mz mt (nI tn) (nI ax) sc ti pp, aI T ma 266 al]) [0, 1] rfl
  have hD := hD.sub (ws' := [] ++ [oMo mo ma mh (nI hn) th mk mz mt (nI tn) (nI ax) sc ti pp, aI T ma 266 al]) [0, 1] (by decide) rfl
  refine kS (As := [.int px]) (rest := []) ⟨hx, hb, hml, hown, hts⟩ (c_X9_isParrot l D T px ) (va_cwS 1 hts gX9_trueCount_X9_isParrot rfl rfl rfl (by decide +kernel) ⟨Nat.le_of_ble_eq_true rfl, Nat.le_of_ble_eq_true rfl⟩) hC hP hD hS hA rfl hl.1 rfl (Nat.le_of_ble_eq_true rfl) dX9_trueCount_1 ⟨Nat.zero_le _, Nat.zero_le _⟩ (fun H locs hP hD hS => ?_)
  have hP : va_P D vwCl [oMo mo ma mh (nI hn) th mk mz mt (nI tn) (nI ax) sc ti pp, aI T ma 266 al] H := hP
  have hD : va_D A [oMo mo ma mh (nI hn) th mk mz mt (nI tn) (nI ax) sc ti pp, aI T ma 266 al] := hD
  refine W.eq (g2 := F0 m 4 ls [.int (bI (inL px.toInt64 0 25))]) rfl ?_
  refine lv_if_eq (tgt := 22) hx hb dX9_trueCount_4 (by decide) (fun _ => ?_) (fun c_x => absurd (by rw [hbad]; rfl) c_x)
  refine lv_aload_n hx hb dX9_trueCount_22 rfl (lv_at hl 0 rfl) ?_
  refine lv_iconst (v := 1) hx hb dX9_trueCount_23 (by decide) ?_
  have hP := hP.sub (ws' := [oMo mo ma mh (nI hn) th mk mz mt (nI tn) (nI ax) sc ti pp] ++ [aI T ma 266 al]) [0, 1] rfl
  have hD := hD.sub (ws' := [oMo mo ma mh (nI hn) th mk mz mt (nI tn) (nI ax) sc ti pp] ++ [aI T ma 266 al]) [0, 1] (by decide) rfl
  refine kV (ci := 8) (As := [.int 1]) (rest := []) ⟨hx, hb, hml, hown, hts⟩ (c_X9_fails l D T mo ma mh mk mz mt hn th tn ax sc ti pp 1 ) (cwV 1 hts gX9_trueCount_X9_fails rfl rfl rfl (by decide +kernel) ⟨Nat.le_of_ble_eq_true rfl, Nat.le_of_ble_eq_true rfl⟩) hC hP hD hS hA rfl rfl rfl hl.1 rfl (Nat.le_of_ble_eq_true rfl) dX9_trueCount_24 ⟨Nat.zero_le _, Nat.zero_le _⟩ (fun H locs hP hD hS => ?_)
  have hP : va_P D vwCl [oMo mo ma mh (nI hn) 1 mk mz mt (nI tn) (nI ax) sc ti pp, aI T ma 266 al] H := hP
  have hD : va_D A [oMo mo ma mh (nI hn) 1 mk mz mt (nI tn) (nI ax) sc ti pp, aI T ma 266 al] := hD
  refine W.eq (g2 := F0 m 27 ls [.int 0]) rfl ?_
  exact hret _ _ _ _ _ (fun Qc free hq hf => W.iret hx hb hr hq hf dX9_trueCount_27 hlk) hP hD hS
abbrev rX9_calls : Room := { frames := 2, cells := 0, slots := 0, locals := 43 }
set_option maxHeartbeats 4000000 in
set_option maxRecDepth 100000 in
theorem c_X9_calls (l : Launch) (D : va_G) (T : Nat → ClassId) (mo ma mh mk mz mt : Nat) (al : Nat → Int32) (hn : Nat) (th : Int32) (tn ax : Nat) (sc ti pp : Int32) : kM l D T yX9_calls wsX9_calls rX9_calls [.ref mo] [oMo mo ma mh (nI hn) th mk mz mt (nI tn) (nI ax) sc ti pp, aI T ma 266 al] (some (.int (smN (rwF al 0) 26))) [oMo mo ma mh (nI hn) 0 mk mz mt (nI tn) (nI ax) sc ti pp, aI T ma 266 al] := by
  refine kM.of (cc := cX9_calls) (maxL := 1) (ret := some .int) (by decide) rfl (Nat.le_of_ble_eq_true rfl) ?_
  intro p e s m below meth c A Q ls hx hb hml hown hr hlk hts hC hP hD hS hA hl hret
  have hl : lv_has ls 1 [(0, .ref mo)] := hl
  have hP : va_P D vwCl [oMo mo ma mh (nI hn) th mk mz mt (nI tn) (nI ax) sc ti pp, aI T ma 266 al] s.heap := hP
  have hD : va_D A [oMo mo ma mh (nI hn) th mk mz mt (nI tn) (nI ax) sc ti pp, aI T ma 266 al] := hD
  refine lv_aload_n hx hb dX9_calls_0 rfl (lv_at hl 0 rfl) ?_
  refine lv_aload_n hx hb dX9_calls_1 rfl (lv_at hl 0 rfl) ?_
  have hP := hP.sub (ws' := [oMo mo ma mh (nI hn) th mk mz mt (nI tn) (nI ax) sc ti pp, aI T ma 266 al] ++ []) [0, 1] rfl
  have hD := hD.sub (ws' := [oMo mo ma mh (nI hn) th mk mz mt (nI tn) (nI ax) sc ti pp, aI T ma 266 al] ++ []) [0, 1] (by decide) rfl
  refine kV (ci := 8) (As := []) (rest := [.ref mo]) ⟨hx, hb, hml, hown, hts⟩ (c_X9_callsNow l D T mo ma mh mk mz mt al hn th tn ax sc ti pp ) (cwV 0 hts gX9_calls_X9_callsNow rfl rfl rfl (by decide +kernel) ⟨Nat.le_of_ble_eq_true rfl, Nat.le_of_ble_eq_true rfl⟩) hC hP hD hS hA rfl rfl rfl hl.1 rfl (Nat.le_of_ble_eq_true rfl) dX9_calls_2 ⟨Nat.zero_le _, Nat.zero_le _⟩ (fun H locs hP hD hS => ?_)
  have hP : va_P D vwCl [oMo mo ma mh (nI hn) th mk mz mt (nI tn) (nI ax) sc ti pp, aI T ma 266 al] H := hP
  have hD : va_D A [oMo mo ma mh (nI hn) th mk mz mt (nI tn) (nI ax) sc ti pp, aI T ma 266 al] := hD
  refine W.eq (g2 := F0 m 5 ls [.int (smN (rwF al 0) 26), .ref mo]) rfl ?_
  have hP := hP.sub (ws' := [oMo mo ma mh (nI hn) th mk mz mt (nI tn) (nI ax) sc ti pp] ++ [aI T ma 266 al]) [0, 1] rfl
  have hD := hD.sub (ws' := [oMo mo ma mh (nI hn) th mk mz mt (nI tn) (nI ax) sc ti pp] ++ [aI T ma 266 al]) [0, 1] (by decide) rfl
  refine kV (ci := 8) (As := [.int (smN (rwF al 0) 26)]) (rest := []) ⟨hx, hb, hml, hown, hts⟩ (c_X9_told l D T mo ma mh mk mz mt hn th tn ax sc ti pp (smN (rwF al 0) 26) ) (cwV 1 hts gX9_calls_X9_told rfl rfl rfl (by decide +kernel) ⟨Nat.le_of_ble_eq_true rfl, Nat.le_of_ble_eq_true rfl⟩) hC hP hD hS hA rfl rfl rfl hl.1 rfl (Nat.le_of_ble_eq_true rfl) dX9_calls_5 ⟨Nat.zero_le _, Nat.zero_le _⟩ (fun H locs hP hD hS => ?_)
  have hP : va_P D vwCl [oMo mo ma mh (nI hn) 0 mk mz mt (nI tn) (nI ax) sc ti pp, aI T ma 266 al] H := hP
  have hD : va_D A [oMo mo ma mh (nI hn) 0 mk mz mt (nI tn) (nI ax) sc ti pp, aI T ma 266 al] := hD
  refine W.eq (g2 := F0 m 8 ls [.int (smN (rwF al 0) 26)]) rfl ?_
  exact hret _ _ _ _ _ (fun Qc free hq hf => W.iret hx hb hr hq hf dX9_calls_8 hlk) hP hD hS
abbrev rX9_callsByCounters : Room := { frames := 1, cells := 0, slots := 0, locals := 23 }
set_option maxHeartbeats 4000000 in
set_option maxRecDepth 100000 in
theorem c_X9_callsByCounters (l : Launch) (D : va_G) (T : Nat → ClassId) (mo ma mh mk mz mt : Nat) (al : Nat → Int32) (hn : Nat) (th : Int32) (tn ax : Nat) (sc ti pp : Int32) : kM l D T yX9_callsByCounters wsX9_callsByCounters rX9_callsByCounters [.ref mo] [oMo mo ma mh (nI hn) th mk mz mt (nI tn) (nI ax) sc ti pp, aI T ma 266 al] (some (.int (smN (rwF al 26) 26))) [oMo mo ma mh (nI hn) 0 mk mz mt (nI tn) (nI ax) sc ti pp, aI T ma 266 al] := by
  refine kM.of (cc := cX9_callsByCounters) (maxL := 1) (ret := some .int) (by decide) rfl (Nat.le_of_ble_eq_true rfl) ?_
  intro p e s m below meth c A Q ls hx hb hml hown hr hlk hts hC hP hD hS hA hl hret
  have hl : lv_has ls 1 [(0, .ref mo)] := hl
  have hP : va_P D vwCl [oMo mo ma mh (nI hn) th mk mz mt (nI tn) (nI ax) sc ti pp, aI T ma 266 al] s.heap := hP
  have hD : va_D A [oMo mo ma mh (nI hn) th mk mz mt (nI tn) (nI ax) sc ti pp, aI T ma 266 al] := hD
  refine lv_aload_n hx hb dX9_callsByCounters_0 rfl (lv_at hl 0 rfl) ?_
  refine lv_aload_n hx hb dX9_callsByCounters_1 rfl (lv_at hl 0 rfl) ?_
  refine lv_bipush (v := 26) hx hb dX9_callsByCounters_2 (by decide) ?_
  have hP := hP.sub (ws' := [oMo mo ma mh (nI hn) th mk mz mt (nI tn) (nI ax) sc ti pp, aI T ma 266 al] ++ []) [0, 1] rfl
  have hD := hD.sub (ws' := [oMo mo ma mh (nI hn) th mk mz mt (nI tn) (nI ax) sc ti pp, aI T ma 266 al] ++ []) [0, 1] (by decide) rfl
  refine kV (ci := 8) (As := [.int 26]) (rest := [.ref mo]) ⟨hx, hb, hml, hown, hts⟩ (c_X9_sum l D T mo ma mh mk mz mt al hn th tn ax sc ti pp 26 (by first | omega | assumption)) (cwV 1 hts gX9_callsByCounters_X9_sum rfl rfl rfl (by decide +kernel) ⟨Nat.le_of_ble_eq_true rfl, Nat.le_of_ble_eq_true rfl⟩) hC hP hD hS hA rfl rfl rfl hl.1 rfl (Nat.le_of_ble_eq_true rfl) dX9_callsByCounters_4 ⟨Nat.zero_le _, Nat.zero_le _⟩ (fun H locs hP hD hS => ?_)
  have hP : va_P D vwCl [oMo mo ma mh (nI hn) th mk mz mt (nI tn) (nI ax) sc ti pp, aI T ma 266 al] H := hP
  have hD : va_D A [oMo mo ma mh (nI hn) th mk mz mt (nI tn) (nI ax) sc ti pp, aI T ma 266 al] := hD
  refine W.eq (g2 := F0 m 7 ls [.int (smN (rwF al 26) 26), .ref mo]) rfl ?_
  have hP := hP.sub (ws' := [oMo mo ma mh (nI hn) th mk mz mt (nI tn) (nI ax) sc ti pp] ++ [aI T ma 266 al]) [0, 1] rfl
  have hD := hD.sub (ws' := [oMo mo ma mh (nI hn) th mk mz mt (nI tn) (nI ax) sc ti pp] ++ [aI T ma 266 al]) [0, 1] (by decide) rfl
  refine kV (ci := 8) (As := [.int (smN (rwF al 26) 26)]) (rest := []) ⟨hx, hb, hml, hown, hts⟩ (c_X9_told l D T mo ma mh mk mz mt hn th tn ax sc ti pp (smN (rwF al 26) 26) ) (cwV 1 hts gX9_callsByCounters_X9_told rfl rfl rfl (by decide +kernel) ⟨Nat.le_of_ble_eq_true rfl, Nat.le_of_ble_eq_true rfl⟩) hC hP hD hS hA rfl rfl rfl hl.1 rfl (Nat.le_of_ble_eq_true rfl) dX9_callsByCounters_7 ⟨Nat.zero_le _, Nat.zero_le _⟩ (fun H locs hP hD hS => ?_)
  have hP : va_P D vwCl [oMo mo ma mh (nI hn) 0 mk mz mt (nI tn) (nI ax) sc ti pp, aI T ma 266 al] H := hP
  have hD : va_D A [oMo mo ma mh (nI hn) 0 mk mz mt (nI tn) (nI ax) sc ti pp, aI T ma 266 al] := hD
  refine W.eq (g2 := F0 m 10 ls [.int (smN (rwF al 26) 26)]) rfl ?_
  exact hret _ _ _ _ _ (fun Qc free hq hf => W.iret hx hb hr hq hf dX9_callsByCounters_10 hlk) hP hD hS
abbrev rX9_parrotsHeard : Room := { frames := 1, cells := 0, slots := 0, locals := 23 }
set_option maxHeartbeats 4000000 in
set_option maxRecDepth 100000 in
theorem c_X9_parrotsHeard (l : Launch) (D : va_G) (T : Nat → ClassId) (mo ma mh mk mz mt : Nat) (al : Nat → Int32) (hn : Nat) (th : Int32) (tn ax : Nat) (sc ti pp : Int32) : kM l D T yX9_parrotsHeard wsX9_parrotsHeard rX9_parrotsHeard [.ref mo] [oMo mo ma mh (nI hn) th mk mz mt (nI tn) (nI ax) sc ti pp, aI T ma 266 al] (some (.int (nI (cntN (rwF al 0) 26)))) [oMo mo ma mh (nI hn) 0 mk mz mt (nI tn) (nI ax) sc ti pp, aI T ma 266 al] := by
  refine kM.of (cc := cX9_parrotsHeard) (maxL := 1) (ret := some .int) (by decide) rfl (Nat.le_of_ble_eq_true rfl) ?_
  intro p e s m below meth c A Q ls hx hb hml hown hr hlk hts hC hP hD hS hA hl hret
  have hl : lv_has ls 1 [(0, .ref mo)] := hl
  have hP : va_P D vwCl [oMo mo ma mh (nI hn) th mk mz mt (nI tn) (nI ax) sc ti pp, aI T ma 266 al] s.heap := hP
  have hD : va_D A [oMo mo ma mh (nI hn) th mk mz mt (nI tn) (nI ax) sc ti pp, aI T ma 266 al] := hD
  refine lv_aload_n hx hb dX9_parrotsHeard_0 rfl (lv_at hl 0 rfl) ?_
  refine lv_aload_n hx hb dX9_parrotsHeard_1 rfl (lv_at hl 0 rfl) ?_
  refine lv_iconst (v := 0) hx hb dX9_parrotsHeard_2 (by decide) ?_
  have hP := hP.sub (ws' := [oMo mo ma mh (nI hn) th mk mz mt (nI tn) (nI ax) sc ti pp, aI T ma 266 al] ++ []) [0, 1] rfl
  have hD := hD.sub (ws' := [oMo mo ma mh (nI hn) th mk mz mt (nI tn) (nI ax) sc ti pp, aI T ma 266 al] ++ []) [0, 1] (by decide) rfl
  refine kV (ci := 8) (As := [.int 0]) (rest := [.ref mo]) ⟨hx, hb, hml, hown, hts⟩ (c_X9_many l D T mo ma mh mk mz mt al hn th tn ax sc ti pp 0 (by first | omega | assumption)) (cwV 1 hts gX9_parrotsHeard_X9_many rfl rfl rfl (by decide +kernel) ⟨Nat.le_of_ble_eq_true rfl, Nat.le_of_ble_eq_true rfl⟩) hC hP hD hS hA rfl rfl rfl hl.1 rfl (Nat.le_of_ble_eq_true rfl) dX9_parrotsHeard_3 ⟨Nat.zero_le _, Nat.zero_le _⟩ (fun H locs hP hD hS => ?_)
  have hP : va_P D vwCl [oMo mo ma mh (nI hn) th mk mz mt (nI tn) (nI ax) sc ti pp, aI T ma 266 al] H := hP
  have hD : va_D A [oMo mo ma mh (nI hn) th mk mz mt (nI tn) (nI ax) sc ti pp, aI T ma 266 al] := hD
  refine W.eq (g2 := F0 m 6 ls [.int (nI (cntN (rwF al 0) 26)), .ref mo]) rfl ?_
  have hP := hP.sub (ws' := [oMo mo ma mh (nI hn) th mk mz mt (nI tn) (nI ax) sc ti pp] ++ [aI T ma 266 al]) [0, 1] rfl
  have hD := hD.sub (ws' := [oMo mo ma mh (nI hn) th mk mz mt (nI tn) (nI ax) sc ti pp] ++ [aI T ma 266 al]) [0, 1] (by decide) rfl
  refine kV (ci := 8) (As := [.int (nI (cntN (rwF al 0) 26))]) (rest := []) ⟨hx, hb, hml, hown, hts⟩ (c_X9_told l D T mo ma mh mk mz mt hn th tn ax sc ti pp (nI (cntN (rwF al 0) 26)) ) (cwV 1 hts gX9_parrotsHeard_X9_told rfl rfl rfl (by decide +kernel) ⟨Nat.le_of_ble_eq_true rfl, Nat.le_of_ble_eq_true rfl⟩) hC hP hD hS hA rfl rfl rfl hl.1 rfl (Nat.le_of_ble_eq_true rfl) dX9_parrotsHeard_6 ⟨Nat.zero_le _, Nat.zero_le _⟩ (fun H locs hP hD hS => ?_)
  have hP : va_P D vwCl [oMo mo ma mh (nI hn) 0 mk mz mt (nI tn) (nI ax) sc ti pp, aI T ma 266 al] H := hP
  have hD : va_D A [oMo mo ma mh (nI hn) 0 mk mz mt (nI tn) (nI ax) sc ti pp, aI T ma 266 al] := hD
  refine W.eq (g2 := F0 m 9 ls [.int (nI (cntN (rwF al 0) 26))]) rfl ?_
  exact hret _ _ _ _ _ (fun Qc free hq hf => W.iret hx hb hr hq hf dX9_parrotsHeard_9 hlk) hP hD hS
abbrev rX9_historySize : Room := { frames := 1, cells := 0, slots := 0, locals := 21 }
set_option maxHeartbeats 4000000 in
set_option maxRecDepth 100000 in
theorem c_X9_historySize (l : Launch) (D : va_G) (T : Nat → ClassId) (mo ma mh mk mz mt : Nat) (hn : Nat) (th : Int32) (tn ax : Nat) (sc ti pp : Int32) : kM l D T yX9_historySize wsX9_historySize rX9_historySize [.ref mo] [oMo mo ma mh (nI hn) th mk mz mt (nI tn) (nI ax) sc ti pp] (some (.int (nI hn))) [oMo mo ma mh (nI hn) 0 mk mz mt (nI tn) (nI ax) sc ti pp] := by
  refine kM.of (cc := cX9_historySize) (maxL := 1) (ret := some .int) (by decide) rfl (Nat.le_of_ble_eq_true rfl) ?_
  intro p e s m below meth c A Q ls hx hb hml hown hr hlk hts hC hP hD hS hA hl hret
  have iX9 : ∀ w ∈ wsX90, w ∈ wsX9_historySize := (fun _ h => List.mem_cons_of_mem _ (List.mem_append_right _ h))
  have hl : lv_has ls 1 [(0, .ref mo)] := hl
  have hP : va_P D vwCl [oMo mo ma mh (nI hn) th mk mz mt (nI tn) (nI ax) sc ti pp] s.heap := hP
  have hD : va_D A [oMo mo ma mh (nI hn) th mk mz mt (nI tn) (nI ax) sc ti pp] := hD
  refine lv_aload_n hx hb dX9_historySize_0 rfl (lv_at hl 0 rfl) ?_
  refine lv_aload_n hx hb dX9_historySize_1 rfl (lv_at hl 0 rfl) ?_
  refine va_get (D := D) (ci := 8) (v := .int (nI hn)) (C := RX9) (T := TX9) (N := 12) hx hb hts iX9 hown hC.1 hP 0 rfl rfl 2 (by decide) (hts (.fieldLink RX9 29 "ParrotCountsModel" "historyLong" "I") (List.mem_of_getElem? (i := 1) rfl)) (fun _ h => h) rfl dX9_historySize_2 ?_
  have hP := hP.sub (ws' := [oMo mo ma mh (nI hn) th mk mz mt (nI tn) (nI ax) sc ti pp] ++ []) [0] rfl
  have hD := hD.sub (ws' := [oMo mo ma mh (nI hn) th mk mz mt (nI tn) (nI ax) sc ti pp] ++ []) [0] (by decide) rfl
  refine kV (ci := 8) (As := [.int (nI hn)]) (rest := []) ⟨hx, hb, hml, hown, hts⟩ (c_X9_told l D T mo ma mh mk mz mt hn th tn ax sc ti pp (nI hn) ) (cwV 1 hts gX9_historySize_X9_told rfl rfl rfl (by decide +kernel) ⟨Nat.le_of_ble_eq_true rfl, Nat.le_of_ble_eq_true rfl⟩) hC hP hD hS hA rfl rfl rfl hl.1 rfl (Nat.le_of_ble_eq_true rfl) dX9_historySize_5 ⟨Nat.zero_le _, Nat.zero_le _⟩ (fun H locs hP hD hS => ?_)
  have hP : va_P D vwCl [oMo mo ma mh (nI hn) 0 mk mz mt (nI tn) (nI ax) sc ti pp] H := hP
  have hD : va_D A [oMo mo ma mh (nI hn) 0 mk mz mt (nI tn) (nI ax) sc ti pp] := hD
  refine W.eq (g2 := F0 m 8 ls [.int (nI hn)]) rfl ?_
  exact hret _ _ _ _ _ (fun Qc free hq hf => W.iret hx hb hr hq hf dX9_historySize_8 hlk) hP hD hS
abbrev rX9_hasAside : Room := { frames := 0, cells := 0, slots := 0, locals := 0 }
set_option maxHeartbeats 4000000 in
set_option maxRecDepth 100000 in
theorem c_X9_hasAside (l : Launch) (D : va_G) (T : Nat → ClassId) (mo ma mh mk mz mt : Nat) (al : Nat → Int32) (hn : Nat) (th : Int32) (tn ax : Nat) (sc ti pp : Int32) : kM l D T yX9_hasAside wsX9_hasAside rX9_hasAside [.ref mo] [oMo mo ma mh (nI hn) th mk mz mt (nI tn) (nI ax) sc ti pp, aI T ma 266 al] (some (.int (bI (decide (al 265 = 1))))) [oMo mo ma mh (nI hn) 0 mk mz mt (nI tn) (nI ax) sc ti pp, aI T ma 266 al] := by
  refine kM.of (cc := cX9_hasAside) (maxL := 1) (ret := some .boolean) (by decide) rfl (Nat.le_of_ble_eq_true rfl) ?_
  intro p e s m below meth c A Q ls hx hb hml hown hr hlk hts hC hP hD hS hA hl hret
  have iX9 : ∀ w ∈ wsX90, w ∈ wsX9_hasAside := (fun _ h => List.mem_cons_of_mem _ (List.mem_append_right _ h))
  have hl : lv_has ls 1 [(0, .ref mo)] := hl
  have hP : va_P D vwCl [oMo mo ma mh (nI hn) th mk mz mt (nI tn) (nI ax) sc ti pp, aI T ma 266 al] s.heap := hP
  have hD : va_D A [oMo mo ma mh (nI hn) th mk mz mt (nI tn) (nI ax) sc ti pp, aI T ma 266 al] := hD
  refine lv_aload_n hx hb dX9_hasAside_0 rfl (lv_at hl 0 rfl) ?_
  refine lv_iconst (v := 0) hx hb dX9_hasAside_1 (by decide) ?_
  refine va_put (D := D) (ci := 8) (v := .int 0) (ty := .int) (C := RX9) (T := TX9) (N := 12) hx hb hts iX9 tyX9 tyX9_ok nmX9 hown hC.1 hP hD hS 0 rfl rfl 3 (by decide) (hts (.fieldLink RX9 25 "ParrotCountsModel" "thrown" "I") (List.mem_of_getElem? (i := 1) rfl)) (fun _ h9 => h9) rfl (by decide +kernel) rfl rfl (Nat.le_of_ble_eq_true rfl) dX9_hasAside_2 (fun H locs hP hD hS => ?_)
  have hP : va_P D vwCl [oMo mo ma mh (nI hn) 0 mk mz mt (nI tn) (nI ax) sc ti pp, aI T ma 266 al] H := hP
  have hD : va_D A [oMo mo ma mh (nI hn) 0 mk mz mt (nI tn) (nI ax) sc ti pp, aI T ma 266 al] := hD
  refine lv_aload_n hx hb dX9_hasAside_5 rfl (lv_at hl 0 rfl) ?_
  refine va_get (D := D) (ci := 8) (v := .ref ma) (C := RX9) (T := TX9) (N := 12) hx hb hts iX9 hown hC.1 hP 0 rfl rfl 0 (by decide) (hts (.fieldLink RX9 7 "ParrotCountsModel" "all" "[I") (List.mem_of_getElem? (i := 2) rfl)) (fun _ h => h) rfl dX9_hasAside_6 ?_
  refine lv_sipush (v := 265) hx hb dX9_hasAside_9 (by decide) ?_
  refine k_iald hx hb hC.1 hP 1 0 rfl rfl (by decide) dX9_hasAside_12 ?_
  refine lv_iconst (v := 1) hx hb dX9_hasAside_13 (by decide) ?_
  refine lv_icmp_ne (tgt := 21) hx hb dX9_hasAside_14 (by decide) (fun c14 => ?_) (fun c14 => ?_)
  · refine lv_iconst (v := 0) hx hb dX9_hasAside_21 (by decide) ?_
    have e_1 : 0 = bI (decide (al 265 = 1)) := by first | with_reducible rfl | (simp [bI, c14]; done)
    refine W.eq (g2 := F0 m 22 ls [.int (bI (decide (al 265 = 1)))]) (congrArg (fun z => F0 m 22 ls [.int z]) e_1) ?_
    exact hret _ _ _ _ _ (fun Qc free hq hf => W.zret hx hb hr (bI_nar _) hq hf dX9_hasAside_22 hlk) hP hD hS
  · refine lv_iconst (v := 1) hx hb dX9_hasAside_17 (by decide) ?_
    refine lv_goto (tgt := 22) hx hb dX9_hasAside_18 (by decide) ?_
    have e_2 : 1 = bI (decide (al 265 = 1)) := by first | with_reducible rfl | (simp [bI, eq_true c14]; done)
    refine W.eq (g2 := F0 m 22 ls [.int (bI (decide (al 265 = 1)))]) (congrArg (fun z => F0 m 22 ls [.int z]) e_2) ?_
    exact hret _ _ _ _ _ (fun Qc free hq hf => W.zret hx hb hr (bI_nar _) hq hf dX9_hasAside_22 hlk) hP hD hS
abbrev rX9_surplus : Room := { frames := 2, cells := 0, slots := 0, locals := 45 }
set_option maxHeartbeats 4000000 in
set_option maxRecDepth 100000 in
theorem c_X9_surplus (l : Launch) (D : va_G) (T : Nat → ClassId) (mo ma mh mk mz mt : Nat) (al : Nat → Int32) (hn : Nat) (th : Int32) (tn ax : Nat) (sc ti pp : Int32) (pa : Nat) (hp : pa < 26) (hc : ¬ al (26 + pa) ≤ 0) : kM l D T yX9_surplus wsX9_surplus rX9_surplus [.ref mo, .int (nI pa)] [oMo mo ma mh (nI hn) th mk mz mt (nI tn) (nI ax) sc ti pp, aI T ma 266 al] (some (.int (al (52 + pa)))) [oMo mo ma mh (nI hn) 0 mk mz mt (nI tn) (nI ax) sc ti pp, aI T ma 266 al] := by
  refine kM.of (cc := cX9_surplus) (maxL := 2) (ret := some .int) (by decide) rfl (Nat.le_of_ble_eq_true rfl) ?_
  intro p e s m below meth c A Q ls hx hb hml hown hr hlk hts hC hP hD hS hA hl hret
  have iX9 : ∀ w ∈ wsX90, w ∈ wsX9_surplus := (fun _ h => List.mem_cons_of_mem _ (List.mem_append_right _ h))
  have hl : lv_has ls 2 [(0, .ref mo), (1, .int (nI pa))] := hl
  have hP : va_P D vwCl [oMo mo ma mh (nI hn) th mk mz mt (nI tn) (nI ax) sc ti pp, aI T ma 266 al] s.heap := hP
  have hD : va_D A [oMo mo ma mh (nI hn) th mk mz mt (nI tn) (nI ax) sc ti pp, aI T ma 266 al] := hD
  refine lv_iload_n hx hb dX9_surplus_0 rfl (lv_at hl 1 rfl) ?_
  have hP := hP.sub (ws' := [] ++ [oMo mo ma mh (nI hn) th mk mz mt (nI tn) (nI ax) sc ti pp, aI T ma 266 al]) [0, 1] rfl
  have hD := hD.sub (ws' := [] ++ [oMo mo ma mh (nI hn) th mk mz mt (nI tn) (nI ax) sc ti pp, aI T ma 266 al]) [0, 1] (by decide) rfl
  refine kS (As := [.int (nI pa)]) (rest := []) ⟨hx, hb, hml, hown, hts⟩ (c_X9_isParrot l D T (nI pa) ) (va_cwS 1 hts gX9_surplus_X9_isParrot rfl rfl rfl (by decide +kernel) ⟨Nat.le_of_ble_eq_true rfl, Nat.le_of_ble_eq_true rfl⟩) hC hP hD hS hA rfl hl.1 rfl (Nat.le_of_ble_eq_true rfl) dX9_surplus_1 ⟨Nat.zero_le _, Nat.zero_le _⟩ (fun H locs hP hD hS => ?_)
  have hP : va_P D vwCl [oMo mo ma mh (nI hn) th mk mz mt (nI tn) (nI ax) sc ti pp, aI T ma 266 al] H := hP
  have hD : va_D A [oMo mo ma mh (nI hn) th mk mz mt (nI tn) (nI ax) sc ti pp, aI T ma 266 al] := hD
  refine W.eq (g2 := F0 m 4 ls [.int (bI (inL (nI pa).toInt64 0 25))]) rfl ?_
  refine lv_if_ne (tgt := 13) hx hb dX9_surplus_4 (by decide) (fun _ => ?_) (fun c_x => absurd c_x (fun e => by rw [inL_n hp] at e; exact absurd e (by decide)))
  refine lv_aload_n hx hb dX9_surplus_13 rfl (lv_at hl 0 rfl) ?_
  refine va_get (D := D) (ci := 8) (v := .ref ma) (C := RX9) (T := TX9) (N := 12) hx hb hts iX9 hown hC.1 hP 0 rfl rfl 0 (by decide) (hts (.fieldLink RX9 7 "ParrotCountsModel" "all" "[I") (List.mem_of_getElem? (i := 1) rfl)) (fun _ h => h) rfl dX9_surplus_14 ?_
  refine lv_bipush (v := 26) hx hb dX9_surplus_17 (by decide) ?_
  refine lv_iload_n hx hb dX9_surplus_19 rfl (lv_at hl 1 rfl) ?_
  refine lv_iadd hx hb dX9_surplus_20 ?_
  refine W.eq (g2 := F0 m 21 ls (.int (nI (26 + pa)) :: [.ref ma])) (congrArg (fun z => F0 m 21 ls (.int z :: [.ref ma])) (nI_add 26 pa)) ?_
  refine k_iald hx hb hC.1 hP 1 0 rfl rfl (by omega) dX9_surplus_21 ?_
  refine lv_if_le (tgt := 41) hx hb dX9_surplus_22 (by decide) (fun c_x => absurd c_x hc) (fun _ => ?_)
  refine lv_aload_n hx hb dX9_surplus_25 rfl (lv_at hl 0 rfl) ?_
  refine lv_aload_n hx hb dX9_surplus_26 rfl (lv_at hl 0 rfl) ?_
  refine va_get (D := D) (ci := 8) (v := .ref ma) (C := RX9) (T := TX9) (N := 12) hx hb hts iX9 hown hC.1 hP 0 rfl rfl 0 (by decide) (hts (.fieldLink RX9 7 "ParrotCountsModel" "all" "[I") (List.mem_of_getElem? (i := 1) rfl)) (fun _ h => h) rfl dX9_surplus_27 ?_
  refine lv_bipush (v := 52) hx hb dX9_surplus_30 (by decide) ?_
  refine lv_iload_n hx hb dX9_surplus_32 rfl (lv_at hl 1 rfl) ?_
  refine lv_iadd hx hb dX9_surplus_33 ?_
  refine W.eq (g2 := F0 m 34 ls (.int (nI (52 + pa)) :: [.ref ma, .ref mo])) (congrArg (fun z => F0 m 34 ls (.int z :: [.ref ma, .ref mo])) (nI_add 52 pa)) ?_
  refine k_iald hx hb hC.1 hP 1 0 rfl rfl (by omega) dX9_surplus_34 ?_
  have hP := hP.sub (ws' := [oMo mo ma mh (nI hn) th mk mz mt (nI tn) (nI ax) sc ti pp] ++ [aI T ma 266 al]) [0, 1] rfl
  have hD := hD.sub (ws' := [oMo mo ma mh (nI hn) th mk mz mt (nI tn) (nI ax) sc ti pp] ++ [aI T ma 266 al]) [0, 1] (by decide) rfl
  refine kV (ci := 8) (As := [.int (al (52 + pa))]) (rest := []) ⟨hx, hb, hml, hown, hts⟩ (c_X9_told l D T mo ma mh mk mz mt hn th tn ax sc ti pp (al (52 + pa)) ) (cwV 1 hts gX9_surplus_X9_told rfl rfl rfl (by decide +kernel) ⟨Nat.le_of_ble_eq_true rfl, Nat.le_of_ble_eq_true rfl⟩) hC hP hD hS hA rfl rfl rfl hl.1 rfl (Nat.le_of_ble_eq_true rfl) dX9_surplus_35 ⟨Nat.zero_le _, Nat.zero_le _⟩ (fun H locs hP hD hS => ?_)
  have hP : va_P D vwCl [oMo mo ma mh (nI hn) 0 mk mz mt (nI tn) (nI ax) sc ti pp, aI T ma 266 al] H := hP
  have hD : va_D A [oMo mo ma mh (nI hn) 0 mk mz mt (nI tn) (nI ax) sc ti pp, aI T ma 266 al] := hD
  refine W.eq (g2 := F0 m 38 ls [.int (al (52 + pa))]) rfl ?_
  refine lv_goto (tgt := 46) hx hb dX9_surplus_38 (by decide) ?_
  exact hret _ _ _ _ _ (fun Qc free hq hf => W.iret hx hb hr hq hf dX9_surplus_46 hlk) hP hD hS
set_option maxHeartbeats 4000000 in
set_option maxRecDepth 100000 in
theorem c_X9_surplus_no (l : Launch) (D : va_G) (T : Nat → ClassId) (mo ma mh mk mz mt : Nat) (al : Nat → Int32) (hn : Nat) (th : Int32) (tn ax : Nat) (sc ti pp : Int32) (pa : Nat) (hp : pa < 26) (hc : al (26 + pa) ≤ 0) : kM l D T yX9_surplus wsX9_surplus rX9_surplus [.ref mo, .int (nI pa)] [oMo mo ma mh (nI hn) th mk mz mt (nI tn) (nI ax) sc ti pp, aI T ma 266 al] (some (.int 0)) [oMo mo ma mh (nI hn) 2 mk mz mt (nI tn) (nI ax) sc ti pp, aI T ma 266 al] := by
  refine kM.of (cc := cX9_surplus) (maxL := 2) (ret := some .int) (by decide) rfl (Nat.le_of_ble_eq_true rfl) ?_
  intro p e s m below meth c A Q ls hx hb hml hown hr hlk hts hC hP hD hS hA hl hret
  have iX9 : ∀ w ∈ wsX90, w ∈ wsX9_surplus := (fun _ h => List.mem_cons_of_mem _ (List.mem_append_right _ h))
  have hl : lv_has ls 2 [(0, .ref mo), (1, .int (nI pa))] := hl
  have hP : va_P D vwCl [oMo mo ma mh (nI hn) th mk mz mt (nI tn) (nI ax) sc ti pp, aI T ma 266 al] s.heap := hP
  have hD : va_D A [oMo mo ma mh (nI hn) th mk mz mt (nI tn) (nI ax) sc ti pp, aI T ma 266 al] := hD
  refine lv_iload_n hx hb dX9_surplus_0 rfl (lv_at hl 1 rfl) ?_
  have hP := hP.sub (ws' := [] ++ [oMo mo ma mh (nI hn) th mk mz mt (nI tn) (nI ax) sc ti pp, aI T ma 266 al]) [0, 1] rfl
  have hD := hD.sub (ws' := [] ++ [oMo mo ma mh (nI hn) th mk mz mt (nI tn) (nI ax) sc ti pp, aI T ma 266 al]) [0, 1] (by decide) rfl
  refine kS (As := [.int (nI pa)]) (rest := []) ⟨hx, hb, hml, hown, hts⟩ (c_X9_isParrot l D T (nI pa) ) (va_cwS 1 hts gX9_surplus_X9_isParrot rfl rfl rfl (by decide +kernel) ⟨Nat.le_of_ble_eq_true rfl, Nat.le_of_ble_eq_true rfl⟩) hC hP hD hS hA rfl hl.1 rfl (Nat.le_of_ble_eq_true rfl) dX9_surplus_1 ⟨Nat.zero_le _, Nat.zero_le _⟩ (fun H locs hP hD hS => ?_)
  have hP : va_P D vwCl [oMo mo ma mh (nI hn) th mk mz mt (nI tn) (nI ax) sc ti pp, aI T ma 266 al] H := hP
  have hD : va_D A [oMo mo ma mh (nI hn) th mk mz mt (nI tn) (nI ax) sc ti pp, aI T ma 266 al] := hD
  refine W.eq (g2 := F0 m 4 ls [.int (bI (inL (nI pa).toInt64 0 25))]) rfl ?_
  refine lv_if_ne (tgt := 13) hx hb dX9_surplus_4 (by decide) (fun _ => ?_) (fun c_x => absurd c_x (fun e => by rw [inL_n hp] at e; exact absurd e (by decide)))
  refine lv_aload_n hx hb dX9_surplus_13 rfl (lv_at hl 0 rfl) ?_
  refine va_get (D := D) (ci := 8) (v := .ref ma) (C := RX9) (T := TX9) (N := 12) hx hb hts iX9 hown hC.1 hP 0 rfl rfl 0 (by decide) (hts (.fieldLink RX9 7 "ParrotCountsModel" "all" "[I") (List.mem_of_getElem? (i := 1) rfl)) (fun _ h => h) rfl dX9_surplus_14 ?_
  refine lv_bipush (v := 26) hx hb dX9_surplus_17 (by decide) ?_
  refine lv_iload_n hx hb dX9_surplus_19 rfl (lv_at hl 1 rfl) ?_
  refine lv_iadd hx hb dX9_surplus_20 ?_
  refine W.eq (g2 := F0 m 21 ls (.int (nI (26 + pa)) :: [.ref ma])) (congrArg (fun z => F0 m 21 ls (.int z :: [.ref ma])) (nI_add 26 pa)) ?_
  refine k_iald hx hb hC.1 hP 1 0 rfl rfl (by omega) dX9_surplus_21 ?_
  refine lv_if_le (tgt := 41) hx hb dX9_surplus_22 (by decide) (fun _ => ?_) (fun c_x => absurd hc c_x)
  refine lv_aload_n hx hb dX9_surplus_41 rfl (lv_at hl 0 rfl) ?_
  refine lv_iconst (v := 2) hx hb dX9_surplus_42 (by decide) ?_
  have hP := hP.sub (ws' := [oMo mo ma mh (nI hn) th mk mz mt (nI tn) (nI ax) sc ti pp] ++ [aI T ma 266 al]) [0, 1] rfl
  have hD := hD.sub (ws' := [oMo mo ma mh (nI hn) th mk mz mt (nI tn) (nI ax) sc ti pp] ++ [aI T ma 266 al]) [0, 1] (by decide) rfl
  refine kV (ci := 8) (As := [.int 2]) (rest := []) ⟨hx, hb, hml, hown, hts⟩ (c_X9_fails l D T mo ma mh mk mz mt hn th tn ax sc ti pp 2 ) (cwV 1 hts gX9_surplus_X9_fails rfl rfl rfl (by decide +kernel) ⟨Nat.le_of_ble_eq_true rfl, Nat.le_of_ble_eq_true rfl⟩) hC hP hD hS hA rfl rfl rfl hl.1 rfl (Nat.le_of_ble_eq_true rfl) dX9_surplus_43 ⟨Nat.zero_le _, Nat.zero_le _⟩ (fun H locs hP hD hS => ?_)
  have hP : va_P D vwCl [oMo mo ma mh (nI hn) 2 mk mz mt (nI tn) (nI ax) sc ti pp, aI T ma 266 al] H := hP
  have hD : va_D A [oMo mo ma mh (nI hn) 2 mk mz mt (nI tn) (nI ax) sc ti pp, aI T ma 266 al] := hD
  refine W.eq (g2 := F0 m 46 ls [.int 0]) rfl ?_
  exact hret _ _ _ _ _ (fun Qc free hq hf => W.iret hx hb hr hq hf dX9_surplus_46 hlk) hP hD hS
set_option maxHeartbeats 4000000 in
set_option maxRecDepth 100000 in
theorem c_X9_surplus_bad (l : Launch) (D : va_G) (T : Nat → ClassId) (mo ma mh mk mz mt : Nat) (al : Nat → Int32) (hn : Nat) (th : Int32) (tn ax : Nat) (sc ti pp : Int32) (px : Int32) (hbad : inL px.toInt64 0 25 = false) : kM l D T yX9_surplus wsX9_surplus rX9_surplus [.ref mo, .int px] [oMo mo ma mh (nI hn) th mk mz mt (nI tn) (nI ax) sc ti pp, aI T ma 266 al] (some (.int 0)) [oMo mo ma mh (nI hn) 1 mk mz mt (nI tn) (nI ax) sc ti pp, aI T ma 266 al] := by
  refine kM.of (cc := cX9_surplus) (maxL := 2) (ret := some .int) (by decide) rfl (Nat.le_of_ble_eq_true rfl) ?_
  intro p e s m below meth c A Q ls hx hb hml hown hr hlk hts hC hP hD hS hA hl hret
  have hl : lv_has ls 2 [(0, .ref mo), (1, .int px)] := hl
  have hP : va_P D vwCl [oMo mo ma mh (nI hn) th mk mz mt (nI tn) (nI ax) sc ti pp, aI T ma 266 al] s.heap := hP
  have hD : va_D A [oMo mo ma mh (nI hn) th mk mz mt (nI tn) (nI ax) sc ti pp, aI T ma 266 al] := hD
  refine lv_iload_n hx hb dX9_surplus_0 rfl (lv_at hl 1 rfl) ?_
  have hP := hP.sub (ws' := [] ++ [oMo mo ma mh (nI hn) th mk mz mt (nI tn) (nI ax) sc ti pp, aI T ma 266 al]) [0, 1] rfl
  have hD := hD.sub (ws' := [] ++ [oMo mo ma mh (nI hn) th mk mz mt (nI tn) (nI ax) sc ti pp, aI T ma 266 al]) [0, 1] (by decide) rfl
  refine kS (As := [.int px]) (rest := []) ⟨hx, hb, hml, hown, hts⟩ (c_X9_isParrot l D T px ) (va_cwS 1 hts gX9_surplus_X9_isParrot rfl rfl rfl (by decide +kernel) ⟨Nat.le_of_ble_eq_true rfl, Nat.le_of_ble_eq_true rfl⟩) hC hP hD hS hA rfl hl.1 rfl (Nat.le_of_ble_eq_true rfl) dX9_surplus_1 ⟨Nat.zero_le _, Nat.zero_le _⟩ (fun H locs hP hD hS => ?_)
  have hP : va_P D vwCl [oMo mo ma mh (nI hn) th mk mz mt (nI tn) (nI ax) sc ti pp, aI T ma 266 al] H := hP
  have hD : va_D A [oMo mo ma mh (nI hn) th mk mz mt (nI tn) (nI ax) sc ti pp, aI T ma 266 al] := hD
  refine W.eq (g2 := F0 m 4 ls [.int (bI (inL px.toInt64 0 25))]) rfl ?_
  refine lv_if_ne (tgt := 13) hx hb dX9_surplus_4 (by decide) (fun c_x => absurd (by rw [hbad]; rfl) c_x) (fun _ => ?_)
  refine lv_aload_n hx hb dX9_surplus_7 rfl (lv_at hl 0 rfl) ?_
  refine lv_iconst (v := 1) hx hb dX9_surplus_8 (by decide) ?_
  have hP := hP.sub (ws' := [oMo mo ma mh (nI hn) th mk mz mt (nI tn) (nI ax) sc ti pp] ++ [aI T ma 266 al]) [0, 1] rfl
  have hD := hD.sub (ws' := [oMo mo ma mh (nI hn) th mk mz mt (nI tn) (nI ax) sc ti pp] ++ [aI T ma 266 al]) [0, 1] (by decide) rfl
  refine kV (ci := 8) (As := [.int 1]) (rest := []) ⟨hx, hb, hml, hown, hts⟩ (c_X9_fails l D T mo ma mh mk mz mt hn th tn ax sc ti pp 1 ) (cwV 1 hts gX9_surplus_X9_fails rfl rfl rfl (by decide +kernel) ⟨Nat.le_of_ble_eq_true rfl, Nat.le_of_ble_eq_true rfl⟩) hC hP hD hS hA rfl rfl rfl hl.1 rfl (Nat.le_of_ble_eq_true rfl) dX9_surplus_9 ⟨Nat.zero_le _, Nat.zero_le _⟩ (fun H locs hP hD hS => ?_)
  have hP : va_P D vwCl [oMo mo ma mh (nI hn) 1 mk mz mt (nI tn) (nI ax) sc ti pp, aI T ma 266 al] H := hP
  have hD : va_D A [oMo mo ma mh (nI hn) 1 mk mz mt (nI tn) (nI ax) sc ti pp, aI T ma 266 al] := hD
  refine W.eq (g2 := F0 m 12 ls [.int 0]) rfl ?_
  exact hret _ _ _ _ _ (fun Qc free hq hf => W.iret hx hb hr hq hf dX9_surplus_12 hlk) hP hD hS
abbrev rX9_loudestAt : Room := { frames := 1, cells := 0, slots := 0, locals := 23 }
set_option maxHeartbeats 4000000 in
set_option maxRecDepth 100000 in
theorem c_X9_loudestAt (l : Launch) (D : va_G) (T : Nat → ClassId) (mo ma mh mk mz mt : Nat) (al ck : Nat → Int32) (hn : Nat) (th : Int32) (tn ax : Nat) (sc ti pp : Int32) (px : Int32) : kM l D T yX9_loudestAt wsX9_loudestAt rX9_loudestAt [.ref mo, .int px] [oMo mo ma mh (nI hn) th mk mz mt (nI tn) (nI ax) sc ti pp, aI T ma 266 al, aI T mk 26 ck] (some (.int (pAtN (rwF al 26) px 26 0))) [oMo mo ma mh (nI hn) th mk mz mt (nI tn) (nI ax) sc ti pp, aI T ma 266 al, aI T mk 26 (rwF al 26)] := by
  refine kM.of (cc := cX9_loudestAt) (maxL := 3) (ret := some .int) (by decide) rfl (Nat.le_of_ble_eq_true rfl) ?_
  intro p e s m below meth c A Q ls hx hb hml hown hr hlk hts hC hP hD hS hA hl hret
  have iX9 : ∀ w ∈ wsX90, w ∈ wsX9_loudestAt := (fun _ h => List.mem_cons_of_mem _ (List.mem_append_right _ h))
  have loop_31 : ∀ (n i : Nat), i + n = 26 → pAtN (rwF al 26) px n i = pAtN (rwF al 26) px 26 0 → ∀ (H : Heap) (locs : List Loc) (ls : Array Slot), va_P D vwCl [oMo mo ma mh (nI hn) th mk mz mt (nI tn) (nI ax) sc ti pp, aI T ma 266 al, aI T mk 26 (rwF al 26)] H → va_D A [oMo mo ma mh (nI hn) th mk mz mt (nI tn) (nI ax) sc ti pp, aI T ma 266 al, aI T mk 26 (rwF al 26)] → va_S A s.heap H locs → lv_has ls 3 [(2, .int (nI i)), (0, .ref mo), (1, .int px)] → W p l e rX9_loudestAt s m [.ref mo, .int px].toArray below meth c H locs 0 0 Q (F0 m 31 ls []) := by
    intro n
    induction n with
    | zero =>
      intro i hi hv H locs ls hP hD hS hl
      have hi9 : 26 = i := by omega
      subst hi9
      refine lv_iload_n hx hb dX9_loudestAt_31 rfl (lv_at hl 0 rfl) ?_
      refine lv_bipush (v := 26) hx hb dX9_loudestAt_32 (by decide) ?_
      refine lv_icmp_ge (tgt := 63) hx hb dX9_loudestAt_34 (by decide) (fun _ => ?_) (fun c_x => absurd (by decide : (26 : Int32) ≤ nI 26) c_x)
      refine lv_iconst (v := (-1)) hx hb dX9_loudestAt_63 (by decide) ?_
      have e_1 : (-1) = pAtN (rwF al 26) px 26 0 := by rw [← hv]; rfl
      refine W.eq (g2 := F0 m 64 ls [.int (pAtN (rwF al 26) px 26 0)]) (congrArg (fun z => F0 m 64 ls [.int z]) e_1) ?_
      exact hret _ _ _ _ _ (fun Qc free hq hf => W.iret hx hb hr hq hf dX9_loudestAt_64 hlk) hP hD hS
    | succ n ih =>
      intro i hi hv H locs ls hP hD hS hl
      have hlt : i < 26 := by omega
      refine lv_iload_n hx hb dX9_loudestAt_31 rfl (lv_at hl 0 rfl) ?_
      refine lv_bipush (v := 26) hx hb dX9_loudestAt_32 (by decide) ?_
      refine lv_icmp_ge (tgt := 63) hx hb dX9_loudestAt_34 (by decide) (fun c_x => absurd c_x (nI_ge (b := 26) hlt (by decide))) (fun _ => ?_)
      refine lv_aload_n hx hb dX9_loudestAt_37 rfl (lv_at hl 1 rfl) ?_
      refine va_get (D := D) (ci := 8) (v := .ref mk) (C := RX9) (T := TX9) (N := 12) hx hb hts iX9 hown hC.1 hP 0 rfl rfl 4 (by decide) (hts (.fieldLink RX9 16 "ParrotCountsModel" "counts" "[I") (List.mem_of_getElem? (i := 1) rfl)) (fun _ h => h) rfl dX9_loudestAt_38 ?_
      refine lv_iload_n hx hb dX9_loudestAt_41 rfl (lv_at hl 0 rfl) ?_
      refine k_iald hx hb hC.1 hP 2 0 rfl rfl (by omega) dX9_loudestAt_42 ?_
      refine lv_if_le (tgt := 57) hx hb dX9_loudestAt_43 (by decide) (fun c43 => ?_) (fun c43 => ?_)
      · refine lv_iinc (v := nI (i + 1)) (lv' := [(2, .int (nI (i + 1))), (0, .ref mo), (1, .int px)]) hx hb dX9_loudestAt_57 hl (k := 0) rfl (nI_1 i) (by decide) rfl (fun ls hl => ?_)
        refine lv_goto (tgt := 31) hx hb dX9_loudestAt_60 (by decide) ?_
        have hl : lv_has ls 3 [(2, .int (nI (i + 1))), (0, .ref mo), (1, .int px)] := lv_sub hl [0, 1, 2] (by rfl)
        exact ih (i + 1) (by omega) (by rw [← hv]; simp [pAtN, c43]) _ _ _ hP hD hS hl
      · refine lv_aload_n hx hb dX9_loudestAt_46 rfl (lv_at hl 1 rfl) ?_
        refine lv_iload_n hx hb dX9_loudestAt_47 rfl (lv_at hl 0 rfl) ?_
        have hP := hP.sub (ws' := [oMo mo ma mh (nI hn) th mk mz mt (nI tn) (nI ax) sc ti pp, aI T mk 26 (rwF al 26)] ++ [aI T ma 266 al]) [0, 2, 1] rfl
        have hD := hD.sub (ws' := [oMo mo ma mh (nI hn) th mk mz mt (nI tn) (nI ax) sc ti pp, aI T mk 26 (rwF al 26)] ++ [aI T ma 266 al]) [0, 2, 1] (by decide) rfl
        refine kV (ci := 8) (As := [.int (nI i)]) (rest := []) ⟨hx, hb, hml, hown, hts⟩ (c_X9_aheadOf l D T mo ma mh mk mz mt (rwF al 26) hn th tn ax sc ti pp i (by first | omega | assumption)) (cwV 1 hts gX9_loudestAt_X9_aheadOf rfl rfl rfl (by decide +kernel) ⟨Nat.le_of_ble_eq_true rfl, Nat.le_of_ble_eq_true rfl⟩) hC hP hD hS hA rfl rfl rfl hl.1 rfl (Nat.le_of_ble_eq_true rfl) dX9_loudestAt_48 ⟨Nat.zero_le _, Nat.zero_le _⟩ (fun H locs hP hD hS => ?_)
        have hP := hP.sub (ws' := [oMo mo ma mh (nI hn) th mk mz mt (nI tn) (nI ax) sc ti pp, aI T ma 266 al, aI T mk 26 (rwF al 26)]) [0, 2, 1] rfl
        have hD := hD.sub (ws' := [oMo mo ma mh (nI hn) th mk mz mt (nI tn) (nI ax) sc ti pp, aI T ma 266 al, aI T mk 26 (rwF al 26)]) [0, 2, 1] (by decide) rfl
        refine W.eq (g2 := F0 m 51 ls [.int (nI (posN (rwF al 26) i 26))]) rfl ?_
        refine lv_iload_n hx hb dX9_loudestAt_51 rfl (lv_at hl 2 rfl) ?_
        refine lv_icmp_ne (tgt := 57) hx hb dX9_loudestAt_52 (by decide) (fun c52 => ?_) (fun c52 => ?_)
        · refine lv_iinc (v := nI (i + 1)) (lv' := [(2, .int (nI (i + 1))), (0, .ref mo), (1, .int px)]) hx hb dX9_loudestAt_57 hl (k := 0) rfl (nI_1 i) (by decide) rfl (fun ls hl => ?_)
          refine lv_goto (tgt := 31) hx hb dX9_loudestAt_60 (by decide) ?_
          have hl : lv_has ls 3 [(2, .int (nI (i + 1))), (0, .ref mo), (1, .int px)] := lv_sub hl [0, 1, 2] (by rfl)
          exact ih (i + 1) (by omega) (by rw [← hv]; simp [pAtN, c43, c52]) _ _ _ hP hD hS hl
        · refine lv_iload_n hx hb dX9_loudestAt_55 rfl (lv_at hl 0 rfl) ?_
          have e_2 : nI i = pAtN (rwF al 26) px 26 0 := by rw [← hv]; simp [pAtN, c43, eq_true c52]
          refine W.eq (g2 := F0 m 56 ls [.int (pAtN (rwF al 26) px 26 0)]) (congrArg (fun z => F0 m 56 ls [.int z]) e_2) ?_
          exact hret _ _ _ _ _ (fun Qc free hq hf => W.iret hx hb hr hq hf dX9_loudestAt_56 hlk) hP hD hS
  have loop_2 : ∀ (n i : Nat), i + n = 26 → ∀ (H : Heap) (locs : List Loc) (ls : Array Slot), va_P D vwCl [oMo mo ma mh (nI hn) th mk mz mt (nI tn) (nI ax) sc ti pp, aI T ma 266 al, aI T mk 26 (cyN al ck i)] H → va_D A [oMo mo ma mh (nI hn) th mk mz mt (nI tn) (nI ax) sc ti pp, aI T ma 266 al, aI T mk 26 (cyN al ck i)] → va_S A s.heap H locs → lv_has ls 3 [(2, .int (nI i)), (0, .ref mo), (1, .int px)] → W p l e rX9_loudestAt s m [.ref mo, .int px].toArray below meth c H locs 0 0 Q (F0 m 2 ls []) := by
    intro n
    induction n with
    | zero =>
      intro i hi  H locs ls hP hD hS hl
      have hi9 : 26 = i := by omega
      subst hi9
      refine lv_iload_n hx hb dX9_loudestAt_2 rfl (lv_at hl 0 rfl) ?_
      refine lv_bipush (v := 26) hx hb dX9_loudestAt_3 (by decide) ?_
      refine lv_icmp_ge (tgt := 29) hx hb dX9_loudestAt_5 (by decide) (fun _ => ?_) (fun c_x => absurd (by decide : (26 : Int32) ≤ nI 26) c_x)
      obtain ⟨hP, hD⟩ := kRow hP hD 2 (rwF al 26) rfl (cyN_at al ck 26)
      have hP : va_P D vwCl [oMo mo ma mh (nI hn) th mk mz mt (nI tn) (nI ax) sc ti pp, aI T ma 266 al, aI T mk 26 (rwF al 26)] H := hP
      have hD : va_D A [oMo mo ma mh (nI hn) th mk mz mt (nI tn) (nI ax) sc ti pp, aI T ma 266 al, aI T mk 26 (rwF al 26)] := hD
      refine lv_iconst (v := 0) hx hb dX9_loudestAt_29 (by decide) ?_
      refine lv_istore_n (lv' := [(2, .int 0), (0, .ref mo), (1, .int px)]) hx hb dX9_loudestAt_30 rfl hl (by decide) rfl (fun ls hl => ?_)
      have e_3 : (0 : Int32) = nI 0 := rfl
      have hl : lv_has ls 3 [(2, .int (nI 0)), (0, .ref mo), (1, .int px)] := lv_sub hl [0, 1, 2] (by show (_ : List (Nat × Value)) = [(2, .int (nI 0)), (0, .ref mo), (1, .int px)]; rw [← e_3]; rfl)
      exact loop_31 26 0 (by omega) rfl _ _ _ hP hD hS hl
    | succ n ih =>
      intro i hi  H locs ls hP hD hS hl
      have hlt : i < 26 := by omega
      refine lv_iload_n hx hb dX9_loudestAt_2 rfl (lv_at hl 0 rfl) ?_
      refine lv_bipush (v := 26) hx hb dX9_loudestAt_3 (by decide) ?_
      refine lv_icmp_ge (tgt := 29) hx hb dX9_loudestAt_5 (by decide) (fun c_x => absurd c_x (nI_ge (b := 26) hlt (by decide))) (fun _ => ?_)
      refine lv_aload_n hx hb dX9_loudestAt_8 rfl (lv_at hl 1 rfl) ?_
      refine va_get (D := D) (ci := 8) (v := .ref mk) (C := RX9) (T := TX9) (N := 12) hx hb hts iX9 hown hC.1 hP 0 rfl rfl 4 (by decide) (hts (.fieldLink RX9 16 "ParrotCountsModel" "counts" "[I") (List.mem_of_getElem? (i := 1) rfl)) (fun _ h => h) rfl dX9_loudestAt_9 ?_
      refine lv_iload_n hx hb dX9_loudestAt_12 rfl (lv_at hl 0 rfl) ?_
      refine lv_aload_n hx hb dX9_loudestAt_13 rfl (lv_at hl 1 rfl) ?_
      refine va_get (D := D) (ci := 8) (v := .ref ma) (C := RX9) (T := TX9) (N := 12) hx hb hts iX9 hown hC.1 hP 0 rfl rfl 0 (by decide) (hts (.fieldLink RX9 7 "ParrotCountsModel" "all" "[I") (List.mem_of_getElem? (i := 2) rfl)) (fun _ h => h) rfl dX9_loudestAt_14 ?_
      refine lv_bipush (v := 26) hx hb dX9_loudestAt_17 (by decide) ?_
      refine lv_iload_n hx hb dX9_loudestAt_19 rfl (lv_at hl 0 rfl) ?_
      refine lv_iadd hx hb dX9_loudestAt_20 ?_
      refine W.eq (g2 := F0 m 21 ls (.int (nI (26 + i)) :: [.ref ma, .int (nI i), .ref mk])) (congrArg (fun z => F0 m 21 ls (.int z :: [.ref ma, .int (nI i), .ref mk])) (nI_add 26 i)) ?_
      refine k_iald hx hb hC.1 hP 1 0 rfl rfl (by omega) dX9_loudestAt_21 ?_
      refine k_iast hx hb hC.1 hP hD hS 2 0 rfl rfl (by omega) dX9_loudestAt_22 (fun H locs hP hD hS => ?_)
      have hP : va_P D vwCl [oMo mo ma mh (nI hn) th mk mz mt (nI tn) (nI ax) sc ti pp, aI T ma 266 al, aI T mk 26 (upd (cyN al ck i) i (al (26 + i)))] H := hP
      have hD : va_D A [oMo mo ma mh (nI hn) th mk mz mt (nI tn) (nI ax) sc ti pp, aI T ma 266 al, aI T mk 26 (upd (cyN al ck i) i (al (26 + i)))] := hD
      refine lv_iinc (v := nI (i + 1)) (lv' := [(2, .int (nI (i + 1))), (0, .ref mo), (1, .int px)]) hx hb dX9_loudestAt_23 hl (k := 0) rfl (nI_1 i) (by decide) rfl (fun ls hl => ?_)
      refine lv_goto (tgt := 2) hx hb dX9_loudestAt_26 (by decide) ?_
      have e_4 : upd (cyN al ck i) i (al (26 + i)) = cyN al ck (i + 1) := by rw [cyN]
      have eW := congrArg (fun zZ => ([oMo mo ma mh (nI hn) th mk mz mt (nI tn) (nI ax) sc ti pp, aI T ma 266 al, aI T mk 26 zZ] : va_W)) e_4
      have hP : va_P D vwCl [oMo mo ma mh (nI hn) th mk mz mt (nI tn) (nI ax) sc ti pp, aI T ma 266 al, aI T mk 26 (cyN al ck (i + 1))] _ := Eq.subst (motive := fun w => va_P D vwCl w _) eW hP
      have hD : va_D A [oMo mo ma mh (nI hn) th mk mz mt (nI tn) (nI ax) sc ti pp, aI T ma 266 al, aI T mk 26 (cyN al ck (i + 1))] := Eq.subst (motive := fun w => va_D A w) eW hD
      have hl : lv_has ls 3 [(2, .int (nI (i + 1))), (0, .ref mo), (1, .int px)] := lv_sub hl [0, 1, 2] (by rfl)
      exact ih (i + 1) (by omega)  _ _ _ hP hD hS hl
  have hl : lv_has ls 3 [(0, .ref mo), (1, .int px)] := hl
  have hP : va_P D vwCl [oMo mo ma mh (nI hn) th mk mz mt (nI tn) (nI ax) sc ti pp, aI T ma 266 al, aI T mk 26 ck] s.heap := hP
  have hD : va_D A [oMo mo ma mh (nI hn) th mk mz mt (nI tn) (nI ax) sc ti pp, aI T ma 266 al, aI T mk 26 ck] := hD
  refine lv_iconst (v := 0) hx hb dX9_loudestAt_0 (by decide) ?_
  refine lv_istore_n (lv' := [(2, .int 0), (0, .ref mo), (1, .int px)]) hx hb dX9_loudestAt_1 rfl hl (by decide) rfl (fun ls hl => ?_)
  have e_5 : ck = cyN al ck 0 := rfl
  have eW := congrArg (fun zZ => ([oMo mo ma mh (nI hn) th mk mz mt (nI tn) (nI ax) sc ti pp, aI T ma 266 al, aI T mk 26 zZ] : va_W)) e_5
  have hP : va_P D vwCl [oMo mo ma mh (nI hn) th mk mz mt (nI tn) (nI ax) sc ti pp, aI T ma 266 al, aI T mk 26 (cyN al ck 0)] _ := Eq.subst (motive := fun w => va_P D vwCl w _) eW hP
  have hD : va_D A [oMo mo ma mh (nI hn) th mk mz mt (nI tn) (nI ax) sc ti pp, aI T ma 266 al, aI T mk 26 (cyN al ck 0)] := Eq.subst (motive := fun w => va_D A w) eW hD
  have e_6 : (0 : Int32) = nI 0 := rfl
  have hl : lv_has ls 3 [(2, .int (nI 0)), (0, .ref mo), (1, .int px)] := lv_sub hl [0, 1, 2] (by show (_ : List (Nat × Value)) = [(2, .int (nI 0)), (0, .ref mo), (1, .int px)]; rw [← e_6]; rfl)
  exact loop_2 26 0 (by omega)  _ _ _ hP hD hS hl
abbrev rX9_loudest : Room := { frames := 2, cells := 0, slots := 0, locals := 45 }
set_option maxHeartbeats 4000000 in
set_option maxRecDepth 100000 in
theorem c_X9_loudest_bad (l : Launch) (D : va_G) (T : Nat → ClassId) (mo ma mh mk mz mt : Nat) (al ck : Nat → Int32) (hn : Nat) (th : Int32) (tn ax : Nat) (sc ti pp : Int32) (px : Int32) (hneg : px < 0) : kM l D T yX9_loudest wsX9_loudest rX9_loudest [.ref mo, .int px] [oMo mo ma mh (nI hn) th mk mz mt (nI tn) (nI ax) sc ti pp, aI T ma 266 al, aI T mk 26 ck] (some (.int 0)) [oMo mo ma mh (nI hn) 1 mk mz mt (nI tn) (nI ax) sc ti pp, aI T ma 266 al, aI T mk 26 ck] := by
  refine kM.of (cc := cX9_loudest) (maxL := 3) (ret := some .int) (by decide) rfl (Nat.le_of_ble_eq_true rfl) ?_
  intro p e s m below meth c A Q ls hx hb hml hown hr hlk hts hC hP hD hS hA hl hret
  have hl : lv_has ls 3 [(0, .ref mo), (1, .int px)] := hl
  have hP : va_P D vwCl [oMo mo ma mh (nI hn) th mk mz mt (nI tn) (nI ax) sc ti pp, aI T ma 266 al, aI T mk 26 ck] s.heap := hP
  have hD : va_D A [oMo mo ma mh (nI hn) th mk mz mt (nI tn) (nI ax) sc ti pp, aI T ma 266 al, aI T mk 26 ck] := hD
  refine lv_iload_n hx hb dX9_loudest_0 rfl (lv_at hl 1 rfl) ?_
  refine lv_if_ge (tgt := 10) hx hb dX9_loudest_1 (by decide) (fun c_x => absurd c_x (Int32.not_le.mpr hneg)) (fun _ => ?_)
  refine lv_aload_n hx hb dX9_loudest_4 rfl (lv_at hl 0 rfl) ?_
  refine lv_iconst (v := 1) hx hb dX9_loudest_5 (by decide) ?_
  have hP := hP.sub (ws' := [oMo mo ma mh (nI hn) th mk mz mt (nI tn) (nI ax) sc ti pp] ++ [aI T ma 266 al, aI T mk 26 ck]) [0, 1, 2] rfl
  have hD := hD.sub (ws' := [oMo mo ma mh (nI hn) th mk mz mt (nI tn) (nI ax) sc ti pp] ++ [aI T ma 266 al, aI T mk 26 ck]) [0, 1, 2] (by decide) rfl
  refine kV (ci := 8) (As := [.int 1]) (rest := []) ⟨hx, hb, hml, hown, hts⟩ (c_X9_fails l D T mo ma mh mk mz mt hn th tn ax sc ti pp 1 ) (cwV 1 hts gX9_loudest_X9_fails rfl rfl rfl (by decide +kernel) ⟨Nat.le_of_ble_eq_true rfl, Nat.le_of_ble_eq_true rfl⟩) hC hP hD hS hA rfl rfl rfl hl.1 rfl (Nat.le_of_ble_eq_true rfl) dX9_loudest_6 ⟨Nat.zero_le _, Nat.zero_le _⟩ (fun H locs hP hD hS => ?_)
  have hP : va_P D vwCl [oMo mo ma mh (nI hn) 1 mk mz mt (nI tn) (nI ax) sc ti pp, aI T ma 266 al, aI T mk 26 ck] H := hP
  have hD : va_D A [oMo mo ma mh (nI hn) 1 mk mz mt (nI tn) (nI ax) sc ti pp, aI T ma 266 al, aI T mk 26 ck] := hD
  refine W.eq (g2 := F0 m 9 ls [.int 0]) rfl ?_
  exact hret _ _ _ _ _ (fun Qc free hq hf => W.iret hx hb hr hq hf dX9_loudest_9 hlk) hP hD hS
set_option maxHeartbeats 4000000 in
set_option maxRecDepth 100000 in
theorem c_X9_loudest_no (l : Launch) (D : va_G) (T : Nat → ClassId) (mo ma mh mk mz mt : Nat) (al ck : Nat → Int32) (hn : Nat) (th : Int32) (tn ax : Nat) (sc ti pp : Int32) (px : Int32) (hpos : 0 ≤ px) (hno : pAtN (rwF al 26) px 26 0 = -1) : kM l D T yX9_loudest wsX9_loudest rX9_loudest [.ref mo, .int px] [oMo mo ma mh (nI hn) th mk mz mt (nI tn) (nI ax) sc ti pp, aI T ma 266 al, aI T mk 26 ck] (some (.int 0)) [oMo mo ma mh (nI hn) 2 mk mz mt (nI tn) (nI ax) sc ti pp, aI T ma 266 al, aI T mk 26 (rwF al 26)] := by
  refine kM.of (cc := cX9_loudest) (maxL := 3) (ret := some .int) (by decide) rfl (Nat.le_of_ble_eq_true rfl) ?_
  intro p e s m below meth c A Q ls hx hb hml hown hr hlk hts hC hP hD hS hA hl hret
  have hl : lv_has ls 3 [(0, .ref mo), (1, .int px)] := hl
  have hP : va_P D vwCl [oMo mo ma mh (nI hn) th mk mz mt (nI tn) (nI ax) sc ti pp, aI T ma 266 al, aI T mk 26 ck] s.heap := hP
  have hD : va_D A [oMo mo ma mh (nI hn) th mk mz mt (nI tn) (nI ax) sc ti pp, aI T ma 266 al, aI T mk 26 ck] := hD
  refine lv_iload_n hx hb dX9_loudest_0 rfl (lv_at hl 1 rfl) ?_
  refine lv_if_ge (tgt := 10) hx hb dX9_loudest_1 (by decide) (fun _ => ?_) (fun c_x => absurd hpos c_x)
  refine lv_aload_n hx hb dX9_loudest_10 rfl (lv_at hl 0 rfl) ?_
  refine lv_iload_n hx hb dX9_loudest_11 rfl (lv_at hl 1 rfl) ?_
  have hP := hP.sub (ws' := [oMo mo ma mh (nI hn) th mk mz mt (nI tn) (nI ax) sc ti pp, aI T ma 266 al, aI T mk 26 ck] ++ []) [0, 1, 2] rfl
  have hD := hD.sub (ws' := [oMo mo ma mh (nI hn) th mk mz mt (nI tn) (nI ax) sc ti pp, aI T ma 266 al, aI T mk 26 ck] ++ []) [0, 1, 2] (by decide) rfl
  refine kV (ci := 8) (As := [.int px]) (rest := []) ⟨hx, hb, hml, hown, hts⟩ (c_X9_loudestAt l D T mo ma mh mk mz mt al ck hn th tn ax sc ti pp px ) (cwV 1 hts gX9_loudest_X9_loudestAt rfl rfl rfl (by decide +kernel) ⟨Nat.le_of_ble_eq_true rfl, Nat.le_of_ble_eq_true rfl⟩) hC hP hD hS hA rfl rfl rfl hl.1 rfl (Nat.le_of_ble_eq_true rfl) dX9_loudest_12 ⟨Nat.zero_le _, Nat.zero_le _⟩ (fun H locs hP hD hS => ?_)
  have hP : va_P D vwCl [oMo mo ma mh (nI hn) th mk mz mt (nI tn) (nI ax) sc ti pp, aI T ma 266 al, aI T mk 26 (rwF al 26)] H := hP
  have hD : va_D A [oMo mo ma mh (nI hn) th mk mz mt (nI tn) (nI ax) sc ti pp, aI T ma 266 al, aI T mk 26 (rwF al 26)] := hD
  refine W.eq (g2 := F0 m 15 ls [.int (pAtN (rwF al 26) px 26 0)]) rfl ?_
  refine lv_istore_n (lv' := [(2, .int (pAtN (rwF al 26) px 26 0)), (0, .ref mo), (1, .int px)]) hx hb dX9_loudest_15 rfl hl (by decide) rfl (fun ls hl => ?_)
  refine lv_iload_n hx hb dX9_loudest_16 rfl (lv_at hl 0 rfl) ?_
  refine lv_iconst (v := (-1)) hx hb dX9_loudest_17 (by decide) ?_
  refine lv_icmp_ne (tgt := 29) hx hb dX9_loudest_18 (by decide) (fun c_x => absurd hno c_x) (fun _ => ?_)
  refine lv_aload_n hx hb dX9_loudest_21 rfl (lv_at hl 1 rfl) ?_
  refine lv_iconst (v := 2) hx hb dX9_loudest_22 (by decide) ?_
  have hP := hP.sub (ws' := [oMo mo ma mh (nI hn) th mk mz mt (nI tn) (nI ax) sc ti pp] ++ [aI T ma 266 al, aI T mk 26 (rwF al 26)]) [0, 1, 2] rfl
  have hD := hD.sub (ws' := [oMo mo ma mh (nI hn) th mk mz mt (nI tn) (nI ax) sc ti pp] ++ [aI T ma 266 al, aI T mk 26 (rwF al 26)]) [0, 1, 2] (by decide) rfl
  refine kV (ci := 8) (As := [.int 2]) (rest := []) ⟨hx, hb, hml, hown, hts⟩ (c_X9_fails l D T mo ma mh mk mz mt hn th tn ax sc ti pp 2 ) (cwV 1 hts gX9_loudest_X9_fails rfl rfl rfl (by decide +kernel) ⟨Nat.le_of_ble_eq_true rfl, Nat.le_of_ble_eq_true rfl⟩) hC hP hD hS hA rfl rfl rfl hl.1 rfl (Nat.le_of_ble_eq_true rfl) dX9_loudest_23 ⟨Nat.zero_le _, Nat.zero_le _⟩ (fun H locs hP hD hS => ?_)
  have hP : va_P D vwCl [oMo mo ma mh (nI hn) 2 mk mz mt (nI tn) (nI ax) sc ti pp, aI T ma 266 al, aI T mk 26 (rwF al 26)] H := hP
  have hD : va_D A [oMo mo ma mh (nI hn) 2 mk mz mt (nI tn) (nI ax) sc ti pp, aI T ma 266 al, aI T mk 26 (rwF al 26)] := hD
  refine W.eq (g2 := F0 m 26 ls [.int 0]) rfl ?_
  refine lv_goto (tgt := 34) hx hb dX9_loudest_26 (by decide) ?_
  exact hret _ _ _ _ _ (fun Qc free hq hf => W.iret hx hb hr hq hf dX9_loudest_34 hlk) hP hD hS
set_option maxHeartbeats 4000000 in
set_option maxRecDepth 100000 in
theorem c_X9_loudest (l : Launch) (D : va_G) (T : Nat → ClassId) (mo ma mh mk mz mt : Nat) (al ck : Nat → Int32) (hn : Nat) (th : Int32) (tn ax : Nat) (sc ti pp : Int32) (px : Int32) (hpos : 0 ≤ px) (hno : ¬ pAtN (rwF al 26) px 26 0 = -1) : kM l D T yX9_loudest wsX9_loudest rX9_loudest [.ref mo, .int px] [oMo mo ma mh (nI hn) th mk mz mt (nI tn) (nI ax) sc ti pp, aI T ma 266 al, aI T mk 26 ck] (some (.int (pAtN (rwF al 26) px 26 0))) [oMo mo ma mh (nI hn) 0 mk mz mt (nI tn) (nI ax) sc ti pp, aI T ma 266 al, aI T mk 26 (rwF al 26)] := by
  refine kM.of (cc := cX9_loudest) (maxL := 3) (ret := some .int) (by decide) rfl (Nat.le_of_ble_eq_true rfl) ?_
  intro p e s m below meth c A Q ls hx hb hml hown hr hlk hts hC hP hD hS hA hl hret
  have hl : lv_has ls 3 [(0, .ref mo), (1, .int px)] := hl
  have hP : va_P D vwCl [oMo mo ma mh (nI hn) th mk mz mt (nI tn) (nI ax) sc ti pp, aI T ma 266 al, aI T mk 26 ck] s.heap := hP
  have hD : va_D A [oMo mo ma mh (nI hn) th mk mz mt (nI tn) (nI ax) sc ti pp, aI T ma 266 al, aI T mk 26 ck] := hD
  refine lv_iload_n hx hb dX9_loudest_0 rfl (lv_at hl 1 rfl) ?_
  refine lv_if_ge (tgt := 10) hx hb dX9_loudest_1 (by decide) (fun _ => ?_) (fun c_x => absurd hpos c_x)
  refine lv_aload_n hx hb dX9_loudest_10 rfl (lv_at hl 0 rfl) ?_
  refine lv_iload_n hx hb dX9_loudest_11 rfl (lv_at hl 1 rfl) ?_
  have hP := hP.sub (ws' := [oMo mo ma mh (nI hn) th mk mz mt (nI tn) (nI ax) sc ti pp, aI T ma 266 al, aI T mk 26 ck] ++ []) [0, 1, 2] rfl
  have hD := hD.sub (ws' := [oMo mo ma mh (nI hn) th mk mz mt (nI tn) (nI ax) sc ti pp, aI T ma 266 al, aI T mk 26 ck] ++ []) [0, 1, 2] (by decide) rfl
  refine kV (ci := 8) (As := [.int px]) (rest := []) ⟨hx, hb, hml, hown, hts⟩ (c_X9_loudestAt l D T mo ma mh mk mz mt al ck hn th tn ax sc ti pp px ) (cwV 1 hts gX9_loudest_X9_loudestAt rfl rfl rfl (by decide +kernel) ⟨Nat.le_of_ble_eq_true rfl, Nat.le_of_ble_eq_true rfl⟩) hC hP hD hS hA rfl rfl rfl hl.1 rfl (Nat.le_of_ble_eq_true rfl) dX9_loudest_12 ⟨Nat.zero_le _, Nat.zero_le _⟩ (fun H locs hP hD hS => ?_)
  have hP : va_P D vwCl [oMo mo ma mh (nI hn) th mk mz mt (nI tn) (nI ax) sc ti pp, aI T ma 266 al, aI T mk 26 (rwF al 26)] H := hP
  have hD : va_D A [oMo mo ma mh (nI hn) th mk mz mt (nI tn) (nI ax) sc ti pp, aI T ma 266 al, aI T mk 26 (rwF al 26)] := hD
  refine W.eq (g2 := F0 m 15 ls [.int (pAtN (rwF al 26) px 26 0)]) rfl ?_
  refine lv_istore_n (lv' := [(2, .int (pAtN (rwF al 26) px 26 0)), (0, .ref mo), (1, .int px)]) hx hb dX9_loudest_15 rfl hl (by decide) rfl (fun ls hl => ?_)
  refine lv_iload_n hx hb dX9_loudest_16 rfl (lv_at hl 0 rfl) ?_
  refine lv_iconst (v := (-1)) hx hb dX9_loudest_17 (by decide) ?_
  refine lv_icmp_ne (tgt := 29) hx hb dX9_loudest_18 (by decide) (fun _ => ?_) (fun c_x => absurd c_x hno)
  refine lv_aload_n hx hb dX9_loudest_29 rfl (lv_at hl 1 rfl) ?_
  refine lv_iload_n hx hb dX9_loudest_30 rfl (lv_at hl 0 rfl) ?_
  have hP := hP.sub (ws' := [oMo mo ma mh (nI hn) th mk mz mt (nI tn) (nI ax) sc ti pp] ++ [aI T ma 266 al, aI T mk 26 (rwF al 26)]) [0, 1, 2] rfl
  have hD := hD.sub (ws' := [oMo mo ma mh (nI hn) th mk mz mt (nI tn) (nI ax) sc ti pp] ++ [aI T ma 266 al, aI T mk 26 (rwF al 26)]) [0, 1, 2] (by decide) rfl
  refine kV (ci := 8) (As := [.int (pAtN (rwF al 26) px 26 0)]) (rest := []) ⟨hx, hb, hml, hown, hts⟩ (c_X9_told l D T mo ma mh mk mz mt hn th tn ax sc ti pp (pAtN (rwF al 26) px 26 0) ) (cwV 1 hts gX9_loudest_X9_told rfl rfl rfl (by decide +kernel) ⟨Nat.le_of_ble_eq_true rfl, Nat.le_of_ble_eq_true rfl⟩) hC hP hD hS hA rfl rfl rfl hl.1 rfl (Nat.le_of_ble_eq_true rfl) dX9_loudest_31 ⟨Nat.zero_le _, Nat.zero_le _⟩ (fun H locs hP hD hS => ?_)
  have hP : va_P D vwCl [oMo mo ma mh (nI hn) 0 mk mz mt (nI tn) (nI ax) sc ti pp, aI T ma 266 al, aI T mk 26 (rwF al 26)] H := hP
  have hD : va_D A [oMo mo ma mh (nI hn) 0 mk mz mt (nI tn) (nI ax) sc ti pp, aI T ma 266 al, aI T mk 26 (rwF al 26)] := hD
  refine W.eq (g2 := F0 m 34 ls [.int (pAtN (rwF al 26) px 26 0)]) rfl ?_
  exact hret _ _ _ _ _ (fun Qc free hq hf => W.iret hx hb hr hq hf dX9_loudest_34 hlk) hP hD hS
abbrev rX9_above : Room := { frames := 4, cells := 0, slots := 0, locals := 88 }
set_option maxHeartbeats 4000000 in
set_option maxRecDepth 100000 in
theorem c_X9_above_bad (l : Launch) (D : va_G) (T : Nat → ClassId) (mo ma mh mk mz mt : Nat) (al : Nat → Int32) (hn : Nat) (th : Int32) (tn ax : Nat) (sc ti pp : Int32) (px : Int32) (wh : Nat) (hbad : inL px.toInt64 0 1000 = false) : kM l D T yX9_above wsX9_above rX9_above [.ref mo, .int px, .int (nI wh)] [oMo mo ma mh (nI hn) th mk mz mt (nI tn) (nI ax) sc ti pp, aI T ma 266 al] (some (.int 0)) [oMo mo ma mh (nI hn) 1 mk mz mt (nI tn) (nI ax) sc ti pp, aI T ma 266 al] := by
  refine kM.of (cc := cX9_above) (maxL := 6) (ret := some .int) (by decide) rfl (Nat.le_of_ble_eq_true rfl) ?_
  intro p e s m below meth c A Q ls hx hb hml hown hr hlk hts hC hP hD hS hA hl hret
  have hl : lv_has ls 6 [(0, .ref mo), (1, .int px), (2, .int (nI wh))] := hl
  have hP : va_P D vwCl [oMo mo ma mh (nI hn) th mk mz mt (nI tn) (nI ax) sc ti pp, aI T ma 266 al] s.heap := hP
  have hD : va_D A [oMo mo ma mh (nI hn) th mk mz mt (nI tn) (nI ax) sc ti pp, aI T ma 266 al] := hD
  refine lv_iload_n hx hb dX9_above_0 rfl (lv_at hl 1 rfl) ?_
  refine lv_i2l (v := px.toInt64) hx hb dX9_above_1 rfl ?_
  refine lv_lconst (v := 0) hx hb dX9_above_2 (by decide) ?_
  refine lv_ldc2 (v := 1000) hx hb hown (hts (.constantLong RX9 136 1000) (List.mem_of_getElem? (i := 1) rfl)) dX9_above_3 ?_
  have hP := hP.sub (ws' := [] ++ [oMo mo ma mh (nI hn) th mk mz mt (nI tn) (nI ax) sc ti pp, aI T ma 266 al]) [0, 1] rfl
  have hD := hD.sub (ws' := [] ++ [oMo mo ma mh (nI hn) th mk mz mt (nI tn) (nI ax) sc ti pp, aI T ma 266 al]) [0, 1] (by decide) rfl
  refine kS (As := [.long px.toInt64, .long 0, .long 1000]) (rest := []) ⟨hx, hb, hml, hown, hts⟩ (c_X9_in l D T px.toInt64 0 1000 ) (va_cwS 3 hts gX9_above_X9_in rfl rfl rfl (by decide +kernel) ⟨Nat.le_of_ble_eq_true rfl, Nat.le_of_ble_eq_true rfl⟩) hC hP hD hS hA rfl hl.1 rfl (Nat.le_of_ble_eq_true rfl) dX9_above_6 ⟨Nat.zero_le _, Nat.zero_le _⟩ (fun H locs hP hD hS => ?_)
  have hP : va_P D vwCl [oMo mo ma mh (nI hn) th mk mz mt (nI tn) (nI ax) sc ti pp, aI T ma 266 al] H := hP
  have hD : va_D A [oMo mo ma mh (nI hn) th mk mz mt (nI tn) (nI ax) sc ti pp, aI T ma 266 al] := hD
  refine W.eq (g2 := F0 m 9 ls [.int (bI (inL px.toInt64 0 1000))]) rfl ?_
  refine lv_if_ne (tgt := 18) hx hb dX9_above_9 (by decide) (fun c_x => absurd (by rw [hbad]; rfl) c_x) (fun _ => ?_)
  refine lv_aload_n hx hb dX9_above_12 rfl (lv_at hl 0 rfl) ?_
  refine lv_iconst (v := 1) hx hb dX9_above_13 (by decide) ?_
  have hP := hP.sub (ws' := [oMo mo ma mh (nI hn) th mk mz mt (nI tn) (nI ax) sc ti pp] ++ [aI T ma 266 al]) [0, 1] rfl
  have hD := hD.sub (ws' := [oMo mo ma mh (nI hn) th mk mz mt (nI tn) (nI ax) sc ti pp] ++ [aI T ma 266 al]) [0, 1] (by decide) rfl
  refine kV (ci := 8) (As := [.int 1]) (rest := []) ⟨hx, hb, hml, hown, hts⟩ (c_X9_fails l D T mo ma mh mk mz mt hn th tn ax sc ti pp 1 ) (cwV 1 hts gX9_above_X9_fails rfl rfl rfl (by decide +kernel) ⟨Nat.le_of_ble_eq_true rfl, Nat.le_of_ble_eq_true rfl⟩) hC hP hD hS hA rfl rfl rfl hl.1 rfl (Nat.le_of_ble_eq_true rfl) dX9_above_14 ⟨Nat.zero_le _, Nat.zero_le _⟩ (fun H locs hP hD hS => ?_)
  have hP : va_P D vwCl [oMo mo ma mh (nI hn) 1 mk mz mt (nI tn) (nI ax) sc ti pp, aI T ma 266 al] H := hP
  have hD : va_D A [oMo mo ma mh (nI hn) 1 mk mz mt (nI tn) (nI ax) sc ti pp, aI T ma 266 al] := hD
  refine W.eq (g2 := F0 m 17 ls [.int 0]) rfl ?_
  exact hret _ _ _ _ _ (fun Qc free hq hf => W.iret hx hb hr hq hf dX9_above_17 hlk) hP hD hS
set_option maxHeartbeats 4000000 in
set_option maxRecDepth 100000 in
theorem c_X9_above (l : Launch) (D : va_G) (T : Nat → ClassId) (mo ma mh mk mz mt : Nat) (al : Nat → Int32) (hn : Nat) (th : Int32) (tn ax : Nat) (sc ti pp : Int32) (cp : Nat) (px : Int32) (wh : Nat) (hcp : al 264 = nI cp) (hcp9 : cp < 1000) (hin : inL px.toInt64 0 1000 = true) : kM l D T yX9_above wsX9_above rX9_above [.ref mo, .int px, .int (nI wh)] [oMo mo ma mh (nI hn) th mk mz mt (nI tn) (nI ax) sc ti pp, aI T ma 266 al] (some (.int (abN al px wh 26))) [oMo mo ma mh (nI hn) 0 mk mz mt (nI tn) (nI ax) sc ti pp, aI T ma 266 al] := by
  refine kM.of (cc := cX9_above) (maxL := 6) (ret := some .int) (by decide) rfl (Nat.le_of_ble_eq_true rfl) ?_
  intro p e s m below meth c A Q ls hx hb hml hown hr hlk hts hC hP hD hS hA hl hret
  have iX9 : ∀ w ∈ wsX90, w ∈ wsX9_above := (fun _ h => List.mem_cons_of_mem _ (List.mem_append_right _ h))
  have loop_28 : ∀ (n i : Nat), i + n = 26 → ∀ (H : Heap) (locs : List Loc) (ls : Array Slot), va_P D vwCl [oMo mo ma mh (nI hn) 0 mk mz mt (nI tn) (nI ax) sc ti pp, aI T ma 266 al] H → va_D A [oMo mo ma mh (nI hn) 0 mk mz mt (nI tn) (nI ax) sc ti pp, aI T ma 266 al] → va_S A s.heap H locs → lv_has ls 6 [(4, .int (nI i)), (3, .int (abN al px wh i)), (0, .ref mo), (1, .int px), (2, .int (nI wh))] → W p l e rX9_above s m [.ref mo, .int px, .int (nI wh)].toArray below meth c H locs 0 0 Q (F0 m 28 ls []) := by
    intro n
    induction n with
    | zero =>
      intro i hi  H locs ls hP hD hS hl
      have hi9 : 26 = i := by omega
      subst hi9
      refine lv_iload hx hb dX9_above_28 (lv_at hl 0 rfl) ?_
      refine lv_bipush (v := 26) hx hb dX9_above_30 (by decide) ?_
      refine lv_icmp_ge (tgt := 111) hx hb dX9_above_32 (by decide) (fun _ => ?_) (fun c_x => absurd (by decide : (26 : Int32) ≤ nI 26) c_x)
      refine lv_iload_n hx hb dX9_above_111 rfl (lv_at hl 1 rfl) ?_
      exact hret _ _ _ _ _ (fun Qc free hq hf => W.iret hx hb hr hq hf dX9_above_112 hlk) hP hD hS
    | succ n ih =>
      intro i hi  H locs ls hP hD hS hl
      have hlt : i < 26 := by omega
      refine lv_iload hx hb dX9_above_28 (lv_at hl 0 rfl) ?_
      refine lv_bipush (v := 26) hx hb dX9_above_30 (by decide) ?_
      refine lv_icmp_ge (tgt := 111) hx hb dX9_above_32 (by decide) (fun c_x => absurd c_x (nI_ge (b := 26) hlt (by decide))) (fun _ => ?_)
      refine lv_iload_n hx hb dX9_above_35 rfl (lv_at hl 4 rfl) ?_
      refine lv_if_ne (tgt := 51) hx hb dX9_above_36 (by decide) (fun c36 => ?_) (fun c36 => ?_)
      · refine lv_iload_n hx hb dX9_above_51 rfl (lv_at hl 4 rfl) ?_
        refine lv_iconst (v := 1) hx hb dX9_above_52 (by decide) ?_
        refine lv_icmp_ne (tgt := 66) hx hb dX9_above_53 (by decide) (fun c53 => ?_) (fun c53 => ?_)
        · refine lv_aload_n hx hb dX9_above_66 rfl (lv_at hl 2 rfl) ?_
          refine lv_iconst (v := 0) hx hb dX9_above_67 (by decide) ?_
          refine lv_iload hx hb dX9_above_68 (lv_at hl 0 rfl) ?_
          have hP := hP.sub (ws' := [oMo mo ma mh (nI hn) 0 mk mz mt (nI tn) (nI ax) sc ti pp, aI T ma 266 al] ++ []) [0, 1] rfl
          have hD := hD.sub (ws' := [oMo mo ma mh (nI hn) 0 mk mz mt (nI tn) (nI ax) sc ti pp, aI T ma 266 al] ++ []) [0, 1] (by decide) rfl
          refine kV (ci := 8) (As := [.int 0, .int (nI i)]) (rest := []) ⟨hx, hb, hml, hown, hts⟩ (c_X9_estimateBy l D T mo ma mh mk mz mt al hn 0 tn ax sc ti pp 0 cp i (by first | omega | assumption) (by first | omega | assumption) (by first | omega | assumption) (by first | omega | assumption)) (cwV 2 hts gX9_above_X9_estimateBy rfl rfl rfl (by decide +kernel) ⟨Nat.le_of_ble_eq_true rfl, Nat.le_of_ble_eq_true rfl⟩) hC hP hD hS hA rfl rfl rfl hl.1 rfl (Nat.le_of_ble_eq_true rfl) dX9_above_70 ⟨Nat.zero_le _, Nat.zero_le _⟩ (fun H locs hP hD hS => ?_)
          have hP : va_P D vwCl [oMo mo ma mh (nI hn) 0 mk mz mt (nI tn) (nI ax) sc ti pp, aI T ma 266 al] H := hP
          have hD : va_D A [oMo mo ma mh (nI hn) 0 mk mz mt (nI tn) (nI ax) sc ti pp, aI T ma 266 al] := hD
          refine W.eq (g2 := F0 m 73 ls [.int (mEst al 0 i)]) rfl ?_
          refine lv_istore (lv' := [(5, .int (mEst al 0 i)), (4, .int (nI i)), (3, .int (abN al px wh i)), (0, .ref mo), (1, .int px), (2, .int (nI wh))]) hx hb dX9_above_73 hl (by decide) rfl (fun ls hl => ?_)
          refine lv_iload_n hx hb dX9_above_75 rfl (lv_at hl 2 rfl) ?_
          refine lv_ldc2 (v := 1000) hx hb hown (hts (.constantLong RX9 136 1000) (List.mem_of_getElem? (i := 1) rfl)) dX9_above_76 ?_
          refine lv_iload hx hb dX9_above_79 (lv_at hl 0 rfl) ?_
          refine lv_i2l (v := (mEst al 0 i).toInt64) hx hb dX9_above_81 rfl ?_
          refine lv_lmul hx hb dX9_above_82 ?_
          refine lv_iload_n hx hb dX9_above_83 rfl (lv_at hl 4 rfl) ?_
          refine lv_i2l (v := px.toInt64) hx hb dX9_above_84 rfl ?_
          refine lv_aload_n hx hb dX9_above_85 rfl (lv_at hl 3 rfl) ?_
          have hP := hP.sub (ws' := [oMo mo ma mh (nI hn) 0 mk mz mt (nI tn) (nI ax) sc ti pp, aI T ma 266 al] ++ []) [0, 1] rfl
          have hD := hD.sub (ws' := [oMo mo ma mh (nI hn) 0 mk mz mt (nI tn) (nI ax) sc ti pp, aI T ma 266 al] ++ []) [0, 1] (by decide) rfl
          refine kV (ci := 8) (As := []) (rest := [.long px.toInt64, .long (1000 * (mEst al 0 i).toInt64), .int (abN al px wh i)]) ⟨hx, hb, hml, hown, hts⟩ (c_X9_callsNow l D T mo ma mh mk mz mt al hn 0 tn ax sc ti pp ) (cwV 0 hts gX9_above_X9_callsNow rfl rfl rfl (by decide +kernel) ⟨Nat.le_of_ble_eq_true rfl, Nat.le_of_ble_eq_true rfl⟩) hC hP hD hS hA rfl rfl rfl hl.1 rfl (Nat.le_of_ble_eq_true rfl) dX9_above_86 ⟨Nat.zero_le _, Nat.zero_le _⟩ (fun H locs hP hD hS => ?_)
          have hP : va_P D vwCl [oMo mo ma mh (nI hn) 0 mk mz mt (nI tn) (nI ax) sc ti pp, aI T ma 266 al] H := hP
          have hD : va_D A [oMo mo ma mh (nI hn) 0 mk mz mt (nI tn) (nI ax) sc ti pp, aI T ma 266 al] := hD
          refine W.eq (g2 := F0 m 89 ls [.int (smN (rwF al 0) 26), .long px.toInt64, .long (1000 * (mEst al 0 i).toInt64), .int (abN al px wh i)]) rfl ?_
          refine lv_i2l (v := (smN (rwF al 0) 26).toInt64) hx hb dX9_above_89 rfl ?_
          refine lv_lmul hx hb dX9_above_90 ?_
          refine W.lcmp hx hb dX9_above_91 ?_
          refine lv_if_le (tgt := 102) hx hb dX9_above_92 (by decide) (fun c92 => ?_) (fun c92 => ?_)
          · refine lv_iconst (v := 0) hx hb dX9_above_102 (by decide) ?_
            refine lv_ior hx hb dX9_above_103 ?_
            refine lv_istore_n (lv' := [(3, .int ((abN al px wh i) ||| 0)), (5, .int (mEst al 0 i)), (4, .int (nI i)), (0, .ref mo), (1, .int px), (2, .int (nI wh))]) hx hb dX9_above_104 rfl hl (by decide) rfl (fun ls hl => ?_)
            refine lv_iinc (v := nI (i + 1)) (lv' := [(4, .int (nI (i + 1))), (3, .int ((abN al px wh i) ||| 0)), (5, .int (mEst al 0 i)), (0, .ref mo), (1, .int px), (2, .int (nI wh))]) hx hb dX9_above_105 hl (k := 2) rfl (nI_1 i) (by decide) rfl (fun ls hl => ?_)
            refine lv_goto (tgt := 28) hx hb dX9_above_108 (by decide) ?_
            have e_1 : ((abN al px wh i) ||| 0 : Int32) = abN al px wh (i + 1) := by first | with_reducible rfl | (simp [abN, abW, c36, c53, c92]; done)
            have hl : lv_has ls 6 [(4, .int (nI (i + 1))), (3, .int (abN al px wh (i + 1))), (0, .ref mo), (1, .int px), (2, .int (nI wh))] := lv_sub hl [0, 1, 3, 4, 5] (by show (_ : List (Nat × Value)) = [(4, .int (nI (i + 1))), (3, .int (abN al px wh (i + 1))), (0, .ref mo), (1, .int px), (2, .int (nI wh))]; rw [← e_1]; rfl)
            exact ih (i + 1) (by omega)  _ _ _ hP hD hS hl
          · refine lv_iconst (v := 1) hx hb dX9_above_95 (by decide) ?_
            refine lv_iload hx hb dX9_above_96 (lv_at hl 1 rfl) ?_
            refine lv_ishl hx hb dX9_above_98 ?_
            refine lv_goto (tgt := 103) hx hb dX9_above_99 (by decide) ?_
            refine lv_ior hx hb dX9_above_103 ?_
            refine lv_istore_n (lv' := [(3, .int ((abN al px wh i) ||| (1 <<< ((nI i) &&& 31)))), (5, .int (mEst al 0 i)), (4, .int (nI i)), (0, .ref mo), (1, .int px), (2, .int (nI wh))]) hx hb dX9_above_104 rfl hl (by decide) rfl (fun ls hl => ?_)
            refine lv_iinc (v := nI (i + 1)) (lv' := [(4, .int (nI (i + 1))), (3, .int ((abN al px wh i) ||| (1 <<< ((nI i) &&& 31)))), (5, .int (mEst al 0 i)), (0, .ref mo), (1, .int px), (2, .int (nI wh))]) hx hb dX9_above_105 hl (k := 2) rfl (nI_1 i) (by decide) rfl (fun ls hl => ?_)
            refine lv_goto (tgt := 28) hx hb dX9_above_108 (by decide) ?_
            have e_2 : ((abN al px wh i) ||| (1 <<< ((nI i) &&& 31)) : Int32) = abN al px wh (i + 1) := by first | with_reducible rfl | (simp [abN, abW, c36, c53, c92]; done)
            have hl : lv_has ls 6 [(4, .int (nI (i + 1))), (3, .int (abN al px wh (i + 1))), (0, .ref mo), (1, .int px), (2, .int (nI wh))] := lv_sub hl [0, 1, 3, 4, 5] (by show (_ : List (Nat × Value)) = [(4, .int (nI (i + 1))), (3, .int (abN al px wh (i + 1))), (0, .ref mo), (1, .int px), (2, .int (nI wh))]; rw [← e_2]; rfl)
            exact ih (i + 1) (by omega)  _ _ _ hP hD hS hl
        · refine lv_aload_n hx hb dX9_above_56 rfl (lv_at hl 2 rfl) ?_
          refine lv_iconst (v := 0) hx hb dX9_above_57 (by decide) ?_
          refine lv_iload hx hb dX9_above_58 (lv_at hl 0 rfl) ?_
          have hP := hP.sub (ws' := [oMo mo ma mh (nI hn) 0 mk mz mt (nI tn) (nI ax) sc ti pp, aI T ma 266 al] ++ []) [0, 1] rfl
          have hD := hD.sub (ws' := [oMo mo ma mh (nI hn) 0 mk mz mt (nI tn) (nI ax) sc ti pp, aI T ma 266 al] ++ []) [0, 1] (by decide) rfl
          refine kV (ci := 8) (As := [.int 0, .int (nI i)]) (rest := []) ⟨hx, hb, hml, hown, hts⟩ (c_X9_sureBy l D T mo ma mh mk mz mt al hn 0 tn ax sc ti pp 0 i (by first | omega | assumption) (by first | omega | assumption)) (cwV 2 hts gX9_above_X9_sureBy rfl rfl rfl (by decide +kernel) ⟨Nat.le_of_ble_eq_true rfl, Nat.le_of_ble_eq_true rfl⟩) hC hP hD hS hA rfl rfl rfl hl.1 rfl (Nat.le_of_ble_eq_true rfl) dX9_above_60 ⟨Nat.zero_le _, Nat.zero_le _⟩ (fun H locs hP hD hS => ?_)
          have hP : va_P D vwCl [oMo mo ma mh (nI hn) 0 mk mz mt (nI tn) (nI ax) sc ti pp, aI T ma 266 al] H := hP
          have hD : va_D A [oMo mo ma mh (nI hn) 0 mk mz mt (nI tn) (nI ax) sc ti pp, aI T ma 266 al] := hD
          refine W.eq (g2 := F0 m 63 ls [.int (mSure al 0 i)]) rfl ?_
          refine lv_goto (tgt := 73) hx hb dX9_above_63 (by decide) ?_
          refine lv_istore (lv' := [(5, .int (mSure al 0 i)), (4, .int (nI i)), (3, .int (abN al px wh i)), (0, .ref mo), (1, .int px), (2, .int (nI wh))]) hx hb dX9_above_73 hl (by decide) rfl (fun ls hl => ?_)
          refine lv_iload_n hx hb dX9_above_75 rfl (lv_at hl 2 rfl) ?_
          refine lv_ldc2 (v := 1000) hx hb hown (hts (.constantLong RX9 136 1000) (List.mem_of_getElem? (i := 1) rfl)) dX9_above_76 ?_
          refine lv_iload hx hb dX9_above_79 (lv_at hl 0 rfl) ?_
          refine lv_i2l (v := (mSure al 0 i).toInt64) hx hb dX9_above_81 rfl ?_
          refine lv_lmul hx hb dX9_above_82 ?_
          refine lv_iload_n hx hb dX9_above_83 rfl (lv_at hl 4 rfl) ?_
          refine lv_i2l (v := px.toInt64) hx hb dX9_above_84 rfl ?_
          refine lv_aload_n hx hb dX9_above_85 rfl (lv_at hl 3 rfl) ?_
          have hP := hP.sub (ws' := [oMo mo ma mh (nI hn) 0 mk mz mt (nI tn) (nI ax) sc ti pp, aI T ma 266 al] ++ []) [0, 1] rfl
          have hD := hD.sub (ws' := [oMo mo ma mh (nI hn) 0 mk mz mt (nI tn) (nI ax) sc ti pp, aI T ma 266 al] ++ []) [0, 1] (by decide) rfl
          refine kV (ci := 8) (As := []) (rest := [.long px.toInt64, .long (1000 * (mSure al 0 i).toInt64), .int (abN al px wh i)]) ⟨hx, hb, hml, hown, hts⟩ (c_X9_callsNow l D T mo ma mh mk mz mt al hn 0 tn ax sc ti pp ) (cwV 0 hts gX9_above_X9_callsNow rfl rfl rfl (by decide +kernel) ⟨Nat.le_of_ble_eq_true rfl, Nat.le_of_ble_eq_true rfl⟩) hC hP hD hS hA rfl rfl rfl hl.1 rfl (Nat.le_of_ble_eq_true rfl) dX9_above_86 ⟨Nat.zero_le _, Nat.zero_le _⟩ (fun H locs hP hD hS => ?_)
          have hP : va_P D vwCl [oMo mo ma mh (nI hn) 0 mk mz mt (nI tn) (nI ax) sc ti pp, aI T ma 266 al] H := hP
          have hD : va_D A [oMo mo ma mh (nI hn) 0 mk mz mt (nI tn) (nI ax) sc ti pp, aI T ma 266 al] := hD
          refine W.eq (g2 := F0 m 89 ls [.int (smN (rwF al 0) 26), .long px.toInt64, .long (1000 * (mSure al 0 i).toInt64), .int (abN al px wh i)]) rfl ?_
          refine lv_i2l (v := (smN (rwF al 0) 26).toInt64) hx hb dX9_above_89 rfl ?_
          refine lv_lmul hx hb dX9_above_90 ?_
          refine W.lcmp hx hb dX9_above_91 ?_
          refine lv_if_le (tgt := 102) hx hb dX9_above_92 (by decide) (fun c92 => ?_) (fun c92 => ?_)
          · refine lv_iconst (v := 0) hx hb dX9_above_102 (by decide) ?_
            refine lv_ior hx hb dX9_above_103 ?_
            refine lv_istore_n (lv' := [(3, .int ((abN al px wh i) ||| 0)), (5, .int (mSure al 0 i)), (4, .int (nI i)), (0, .ref mo), (1, .int px), (2, .int (nI wh))]) hx hb dX9_above_104 rfl hl (by decide) rfl (fun ls hl => ?_)
            refine lv_iinc (v := nI (i + 1)) (lv' := [(4, .int (nI (i + 1))), (3, .int ((abN al px wh i) ||| 0)), (5, .int (mSure al 0 i)), (0, .ref mo), (1, .int px), (2, .int (nI wh))]) hx hb dX9_above_105 hl (k := 2) rfl (nI_1 i) (by decide) rfl (fun ls hl => ?_)
            refine lv_goto (tgt := 28) hx hb dX9_above_108 (by decide) ?_
            have e_3 : ((abN al px wh i) ||| 0 : Int32) = abN al px wh (i + 1) := by first | with_reducible rfl | (simp [abN, abW, c36, eq_true c53, c92]; done)
            have hl : lv_has ls 6 [(4, .int (nI (i + 1))), (3, .int (abN al px wh (i + 1))), (0, .ref mo), (1, .int px), (2, .int (nI wh))] := lv_sub hl [0, 1, 3, 4, 5] (by show (_ : List (Nat × Value)) = [(4, .int (nI (i + 1))), (3, .int (abN al px wh (i + 1))), (0, .ref mo), (1, .int px), (2, .int (nI wh))]; rw [← e_3]; rfl)
            exact ih (i + 1) (by omega)  _ _ _ hP hD hS hl
          · refine lv_iconst (v := 1) hx hb dX9_above_95 (by decide) ?_
            refine lv_iload hx hb dX9_above_96 (lv_at hl 1 rfl) ?_
            refine lv_ishl hx hb dX9_above_98 ?_
            refine lv_goto (tgt := 103) hx hb dX9_above_99 (by decide) ?_
            refine lv_ior hx hb dX9_above_103 ?_
            refine lv_istore_n (lv' := [(3, .int ((abN al px wh i) ||| (1 <<< ((nI i) &&& 31)))), (5, .int (mSure al 0 i)), (4, .int (nI i)), (0, .ref mo), (1, .int px), (2, .int (nI wh))]) hx hb dX9_above_104 rfl hl (by decide) rfl (fun ls hl => ?_)
            refine lv_iinc (v := nI (i + 1)) (lv' := [(4, .int (nI (i + 1))), (3, .int ((abN al px wh i) ||| (1 <<< ((nI i) &&& 31)))), (5, .int (mSure al 0 i)), (0, .ref mo), (1, .int px), (2, .int (nI wh))]) hx hb dX9_above_105 hl (k := 2) rfl (nI_1 i) (by decide) rfl (fun ls hl => ?_)
            refine lv_goto (tgt := 28) hx hb dX9_above_108 (by decide) ?_
            have e_4 : ((abN al px wh i) ||| (1 <<< ((nI i) &&& 31)) : Int32) = abN al px wh (i + 1) := by first | with_reducible rfl | (simp [abN, abW, c36, eq_true c53, c92]; done)
            have hl : lv_has ls 6 [(4, .int (nI (i + 1))), (3, .int (abN al px wh (i + 1))), (0, .ref mo), (1, .int px), (2, .int (nI wh))] := lv_sub hl [0, 1, 3, 4, 5] (by show (_ : List (Nat × Value)) = [(4, .int (nI (i + 1))), (3, .int (abN al px wh (i + 1))), (0, .ref mo), (1, .int px), (2, .int (nI wh))]; rw [← e_4]; rfl)
            exact ih (i + 1) (by omega)  _ _ _ hP hD hS hl
      · refine lv_aload_n hx hb dX9_above_39 rfl (lv_at hl 2 rfl) ?_
        refine va_get (D := D) (ci := 8) (v := .ref ma) (C := RX9) (T := TX9) (N := 12) hx hb hts iX9 hown hC.1 hP 0 rfl rfl 0 (by decide) (hts (.fieldLink RX9 7 "ParrotCountsModel" "all" "[I") (List.mem_of_getElem? (i := 3) rfl)) (fun _ h => h) rfl dX9_above_40 ?_
        refine lv_iconst (v := 0) hx hb dX9_above_43 (by decide) ?_
        refine lv_iload hx hb dX9_above_44 (lv_at hl 0 rfl) ?_
        refine lv_iadd hx hb dX9_above_46 ?_
        refine W.eq (g2 := F0 m 47 ls (.int (nI i) :: [.ref ma])) (congrArg (fun z => F0 m 47 ls (.int z :: [.ref ma])) (nI_z i)) ?_
        refine k_iald hx hb hC.1 hP 1 0 rfl rfl (by omega) dX9_above_47 ?_
        refine lv_goto (tgt := 73) hx hb dX9_above_48 (by decide) ?_
        refine lv_istore (lv' := [(5, .int (al i)), (4, .int (nI i)), (3, .int (abN al px wh i)), (0, .ref mo), (1, .int px), (2, .int (nI wh))]) hx hb dX9_above_73 hl (by decide) rfl (fun ls hl => ?_)
        refine lv_iload_n hx hb dX9_above_75 rfl (lv_at hl 2 rfl) ?_
        refine lv_ldc2 (v := 1000) hx hb hown (hts (.constantLong RX9 136 1000) (List.mem_of_getElem? (i := 1) rfl)) dX9_above_76 ?_
        refine lv_iload hx hb dX9_above_79 (lv_at hl 0 rfl) ?_
        refine lv_i2l (v := (al i).toInt64) hx hb dX9_above_81 rfl ?_
        refine lv_lmul hx hb dX9_above_82 ?_
        refine lv_iload_n hx hb dX9_above_83 rfl (lv_at hl 4 rfl) ?_
        refine lv_i2l (v := px.toInt64) hx hb dX9_above_84 rfl ?_
        refine lv_aload_n hx hb dX9_above_85 rfl (lv_at hl 3 rfl) ?_
        have hP := hP.sub (ws' := [oMo mo ma mh (nI hn) 0 mk mz mt (nI tn) (nI ax) sc ti pp, aI T ma 266 al] ++ []) [0, 1] rfl
        have hD := hD.sub (ws' := [oMo mo ma mh (nI hn) 0 mk mz mt (nI tn) (nI ax) sc ti pp, aI T ma 266 al] ++ []) [0, 1] (by decide) rfl
        refine kV (ci := 8) (As := []) (rest := [.long px.toInt64, .long (1000 * (al i).toInt64), .int (abN al px wh i)]) ⟨hx, hb, hml, hown, hts⟩ (c_X9_callsNow l D T mo ma mh mk mz mt al hn 0 tn ax sc ti pp ) (cwV 0 hts gX9_above_X9_callsNow rfl rfl rfl (by decide +kernel) ⟨Nat.le_of_ble_eq_true rfl, Nat.le_of_ble_eq_true rfl⟩) hC hP hD hS hA rfl rfl rfl hl.1 rfl (Nat.le_of_ble_eq_true rfl) dX9_above_86 ⟨Nat.zero_le _, Nat.zero_le _⟩ (fun H locs hP hD hS => ?_)
        have hP : va_P D vwCl [oMo mo ma mh (nI hn) 0 mk mz mt (nI tn) (nI ax) sc ti pp, aI T ma 266 al] H := hP
        have hD : va_D A [oMo mo ma mh (nI hn) 0 mk mz mt (nI tn) (nI ax) sc ti pp, aI T ma 266 al] := hD
        refine W.eq (g2 := F0 m 89 ls [.int (smN (rwF al 0) 26), .long px.toInt64, .long (1000 * (al i).toInt64), .int (abN al px wh i)]) rfl ?_
        refine lv_i2l (v := (smN (rwF al 0) 26).toInt64) hx hb dX9_above_89 rfl ?_
        refine lv_lmul hx hb dX9_above_90 ?_
        refine W.lcmp hx hb dX9_above_91 ?_
        refine lv_if_le (tgt := 102) hx hb dX9_above_92 (by decide) (fun c92 => ?_) (fun c92 => ?_)
        · refine lv_iconst (v := 0) hx hb dX9_above_102 (by decide) ?_
          refine lv_ior hx hb dX9_above_103 ?_
          refine lv_istore_n (lv' := [(3, .int ((abN al px wh i) ||| 0)), (5, .int (al i)), (4, .int (nI i)), (0, .ref mo), (1, .int px), (2, .int (nI wh))]) hx hb dX9_above_104 rfl hl (by decide) rfl (fun ls hl => ?_)
          refine lv_iinc (v := nI (i + 1)) (lv' := [(4, .int (nI (i + 1))), (3, .int ((abN al px wh i) ||| 0)), (5, .int (al i)), (0, .ref mo), (1, .int px), (2, .int (nI wh))]) hx hb dX9_above_105 hl (k := 2) rfl (nI_1 i) (by decide) rfl (fun ls hl => ?_)
          refine lv_goto (tgt := 28) hx hb dX9_above_108 (by decide) ?_
          have e_5 : ((abN al px wh i) ||| 0 : Int32) = abN al px wh (i + 1) := by first | with_reducible rfl | (simp [abN, abW, eq_true c36, c92]; done)
          have hl : lv_has ls 6 [(4, .int (nI (i + 1))), (3, .int (abN al px wh (i + 1))), (0, .ref mo), (1, .int px), (2, .int (nI wh))] := lv_sub hl [0, 1, 3, 4, 5] (by show (_ : List (Nat × Value)) = [(4, .int (nI (i + 1))), (3, .int (abN al px wh (i + 1))), (0, .ref mo), (1, .int px), (2, .int (nI wh))]; rw [← e_5]; rfl)
          exact ih (i + 1) (by omega)  _ _ _ hP hD hS hl
        · refine lv_iconst (v := 1) hx hb dX9_above_95 (by decide) ?_
          refine lv_iload hx hb dX9_above_96 (lv_at hl 1 rfl) ?_
          refine lv_ishl hx hb dX9_above_98 ?_
          refine lv_goto (tgt := 103) hx hb dX9_above_99 (by decide) ?_
          refine lv_ior hx hb dX9_above_103 ?_
          refine lv_istore_n (lv' := [(3, .int ((abN al px wh i) ||| (1 <<< ((nI i) &&& 31)))), (5, .int (al i)), (4, .int (nI i)), (0, .ref mo), (1, .int px), (2, .int (nI wh))]) hx hb dX9_above_104 rfl hl (by decide) rfl (fun ls hl => ?_)
          refine lv_iinc (v := nI (i + 1)) (lv' := [(4, .int (nI (i + 1))), (3, .int ((abN al px wh i) ||| (1 <<< ((nI i) &&& 31)))), (5, .int (al i)), (0, .ref mo), (1, .int px), (2, .int (nI wh))]) hx hb dX9_above_105 hl (k := 2) rfl (nI_1 i) (by decide) rfl (fun ls hl => ?_)
          refine lv_goto (tgt := 28) hx hb dX9_above_108 (by decide) ?_
          have e_6 : ((abN al px wh i) ||| (1 <<< ((nI i) &&& 31)) : Int32) = abN al px wh (i + 1) := by first | with_reducible rfl | (simp [abN, abW, eq_true c36, c92]; done)
          have hl : lv_has ls 6 [(4, .int (nI (i + 1))), (3, .int (abN al px wh (i + 1))), (0, .ref mo), (1, .int px), (2, .int (nI wh))] := lv_sub hl [0, 1, 3, 4, 5] (by show (_ : List (Nat × Value)) = [(4, .int (nI (i + 1))), (3, .int (abN al px wh (i + 1))), (0, .ref mo), (1, .int px), (2, .int (nI wh))]; rw [← e_6]; rfl)
          exact ih (i + 1) (by omega)  _ _ _ hP hD hS hl
  have hl : lv_has ls 6 [(0, .ref mo), (1, .int px), (2, .int (nI wh))] := hl
  have hP : va_P D vwCl [oMo mo ma mh (nI hn) th mk mz mt (nI tn) (nI ax) sc ti pp, aI T ma 266 al] s.heap := hP
  have hD : va_D A [oMo mo ma mh (nI hn) th mk mz mt (nI tn) (nI ax) sc ti pp, aI T ma 266 al] := hD
  refine lv_iload_n hx hb dX9_above_0 rfl (lv_at hl 1 rfl) ?_
  refine lv_i2l (v := px.toInt64) hx hb dX9_above_1 rfl ?_
  refine lv_lconst (v := 0) hx hb dX9_above_2 (by decide) ?_
  refine lv_ldc2 (v := 1000) hx hb hown (hts (.constantLong RX9 136 1000) (List.mem_of_getElem? (i := 1) rfl)) dX9_above_3 ?_
  have hP := hP.sub (ws' := [] ++ [oMo mo ma mh (nI hn) th mk mz mt (nI tn) (nI ax) sc ti pp, aI T ma 266 al]) [0, 1] rfl
  have hD := hD.sub (ws' := [] ++ [oMo mo ma mh (nI hn) th mk mz mt (nI tn) (nI ax) sc ti pp, aI T ma 266 al]) [0, 1] (by decide) rfl
  refine kS (As := [.long px.toInt64, .long 0, .long 1000]) (rest := []) ⟨hx, hb, hml, hown, hts⟩ (c_X9_in l D T px.toInt64 0 1000 ) (va_cwS 3 hts gX9_above_X9_in rfl rfl rfl (by decide +kernel) ⟨Nat.le_of_ble_eq_true rfl, Nat.le_of_ble_eq_true rfl⟩) hC hP hD hS hA rfl hl.1 rfl (Nat.le_of_ble_eq_true rfl) dX9_above_6 ⟨Nat.zero_le _, Nat.zero_le _⟩ (fun H locs hP hD hS => ?_)
  have hP : va_P D vwCl [oMo mo ma mh (nI hn) th mk mz mt (nI tn) (nI ax) sc ti pp, aI T ma 266 al] H := hP
  have hD : va_D A [oMo mo ma mh (nI hn) th mk mz mt (nI tn) (nI ax) sc ti pp, aI T ma 266 al] := hD
  refine W.eq (g2 := F0 m 9 ls [.int (bI (inL px.toInt64 0 1000))]) rfl ?_
  refine lv_if_ne (tgt := 18) hx hb dX9_above_9 (by decide) (fun _ => ?_) (fun c_x => absurd c_x (fun e => by rw [hin] at e; exact absurd e (by decide)))
  refine lv_aload_n hx hb dX9_above_18 rfl (lv_at hl 0 rfl) ?_
  refine lv_iconst (v := 0) hx hb dX9_above_19 (by decide) ?_
  refine va_put (D := D) (ci := 8) (v := .int 0) (ty := .int) (C := RX9) (T := TX9) (N := 12) hx hb hts iX9 tyX9 tyX9_ok nmX9 hown hC.1 hP hD hS 0 rfl rfl 3 (by decide) (hts (.fieldLink RX9 25 "ParrotCountsModel" "thrown" "I") (List.mem_of_getElem? (i := 2) rfl)) (fun _ h9 => h9) rfl (by decide +kernel) rfl rfl (Nat.le_of_ble_eq_true rfl) dX9_above_20 (fun H locs hP hD hS => ?_)
  have hP : va_P D vwCl [oMo mo ma mh (nI hn) 0 mk mz mt (nI tn) (nI ax) sc ti pp, aI T ma 266 al] H := hP
  have hD : va_D A [oMo mo ma mh (nI hn) 0 mk mz mt (nI tn) (nI ax) sc ti pp, aI T ma 266 al] := hD
  refine lv_iconst (v := 0) hx hb dX9_above_23 (by decide) ?_
  refine lv_istore_n (lv' := [(3, .int 0), (0, .ref mo), (1, .int px), (2, .int (nI wh))]) hx hb dX9_above_24 rfl hl (by decide) rfl (fun ls hl => ?_)
  refine lv_iconst (v := 0) hx hb dX9_above_25 (by decide) ?_
  refine lv_istore (lv' := [(4, .int 0), (3, .int 0), (0, .ref mo), (1, .int px), (2, .int (nI wh))]) hx hb dX9_above_26 hl (by decide) rfl (fun ls hl => ?_)
  have e_7 : (0 : Int32) = nI 0 := rfl
  have e_8 : (0 : Int32) = abN al px wh 0 := rfl
  have hl : lv_has ls 6 [(4, .int (nI 0)), (3, .int (abN al px wh 0)), (0, .ref mo), (1, .int px), (2, .int (nI wh))] := lv_sub hl [0, 1, 2, 3, 4] (by show (_ : List (Nat × Value)) = [(4, .int (nI 0)), (3, .int (abN al px wh 0)), (0, .ref mo), (1, .int px), (2, .int (nI wh))]; rw [← e_7, ← e_8]; rfl)
  exact loop_28 26 0 (by omega)  _ _ _ hP hD hS hl
abbrev rX9_trulyAbove : Room := { frames := 5, cells := 0, slots := 0, locals := 113 }
set_option maxHeartbeats 4000000 in
set_option maxRecDepth 100000 in
theorem c_X9_trulyAbove (l : Launch) (D : va_G) (T : Nat → ClassId) (mo ma mh mk mz mt : Nat) (al : Nat → Int32) (hn : Nat) (th : Int32) (tn ax : Nat) (sc ti pp : Int32) (cp : Nat) (px : Int32) (hcp : al 264 = nI cp) (hcp9 : cp < 1000) (hin : inL px.toInt64 0 1000 = true) : kM l D T yX9_trulyAbove wsX9_trulyAbove rX9_trulyAbove [.ref mo, .int px] [oMo mo ma mh (nI hn) th mk mz mt (nI tn) (nI ax) sc ti pp, aI T ma 266 al] (some (.int (abN al px 0 26))) [oMo mo ma mh (nI hn) 0 mk mz mt (nI tn) (nI ax) sc ti pp, aI T ma 266 al] := by
  refine kM.of (cc := cX9_trulyAbove) (maxL := 2) (ret := some .int) (by decide) rfl (Nat.le_of_ble_eq_true rfl) ?_
  intro p e s m below meth c A Q ls hx hb hml hown hr hlk hts hC hP hD hS hA hl hret
  have hl : lv_has ls 2 [(0, .ref mo), (1, .int px)] := hl
  have hP : va_P D vwCl [oMo mo ma mh (nI hn) th mk mz mt (nI tn) (nI ax) sc ti pp, aI T ma 266 al] s.heap := hP
  have hD : va_D A [oMo mo ma mh (nI hn) th mk mz mt (nI tn) (nI ax) sc ti pp, aI T ma 266 al] := hD
  refine lv_aload_n hx hb dX9_trulyAbove_0 rfl (lv_at hl 0 rfl) ?_
  refine lv_iload_n hx hb dX9_trulyAbove_1 rfl (lv_at hl 1 rfl) ?_
  refine lv_iconst (v := 0) hx hb dX9_trulyAbove_2 (by decide) ?_
  have hP := hP.sub (ws' := [oMo mo ma mh (nI hn) th mk mz mt (nI tn) (nI ax) sc ti pp, aI T ma 266 al] ++ []) [0, 1] rfl
  have hD := hD.sub (ws' := [oMo mo ma mh (nI hn) th mk mz mt (nI tn) (nI ax) sc ti pp, aI T ma 266 al] ++ []) [0, 1] (by decide) rfl
  refine kV (ci := 8) (As := [.int px, .int 0]) (rest := []) ⟨hx, hb, hml, hown, hts⟩ (c_X9_above l D T mo ma mh mk mz mt al hn th tn ax sc ti pp cp px 0 (by first | omega | assumption) (by first | omega | assumption) (by first | omega | assumption)) (cwV 2 hts gX9_trulyAbove_X9_above rfl rfl rfl (by decide +kernel) ⟨Nat.le_of_ble_eq_true rfl, Nat.le_of_ble_eq_true rfl⟩) hC hP hD hS hA rfl rfl rfl hl.1 rfl (Nat.le_of_ble_eq_true rfl) dX9_trulyAbove_3 ⟨Nat.zero_le _, Nat.zero_le _⟩ (fun H locs hP hD hS => ?_)
  have hP : va_P D vwCl [oMo mo ma mh (nI hn) 0 mk mz mt (nI tn) (nI ax) sc ti pp, aI T ma 266 al] H := hP
  have hD : va_D A [oMo mo ma mh (nI hn) 0 mk mz mt (nI tn) (nI ax) sc ti pp, aI T ma 266 al] := hD
  refine W.eq (g2 := F0 m 6 ls [.int (abN al px 0 26)]) rfl ?_
  exact hret _ _ _ _ _ (fun Qc free hq hf => W.iret hx hb hr hq hf dX9_trulyAbove_6 hlk) hP hD hS
set_option maxHeartbeats 4000000 in
set_option maxRecDepth 100000 in
theorem c_X9_trulyAbove_bad (l : Launch) (D : va_G) (T : Nat → ClassId) (mo ma mh mk mz mt : Nat) (al : Nat → Int32) (hn : Nat) (th : Int32) (tn ax : Nat) (sc ti pp : Int32) (px : Int32) (hbad : inL px.toInt64 0 1000 = false) : kM l D T yX9_trulyAbove wsX9_trulyAbove rX9_trulyAbove [.ref mo, .int px] [oMo mo ma mh (nI hn) th mk mz mt (nI tn) (nI ax) sc ti pp, aI T ma 266 al] (some (.int 0)) [oMo mo ma mh (nI hn) 1 mk mz mt (nI tn) (nI ax) sc ti pp, aI T ma 266 al] := by
  refine kM.of (cc := cX9_trulyAbove) (maxL := 2) (ret := some .int) (by decide) rfl (Nat.le_of_ble_eq_true rfl) ?_
  intro p e s m below meth c A Q ls hx hb hml hown hr hlk hts hC hP hD hS hA hl hret
  have hl : lv_has ls 2 [(0, .ref mo), (1, .int px)] := hl
  have hP : va_P D vwCl [oMo mo ma mh (nI hn) th mk mz mt (nI tn) (nI ax) sc ti pp, aI T ma 266 al] s.heap := hP
  have hD : va_D A [oMo mo ma mh (nI hn) th mk mz mt (nI tn) (nI ax) sc ti pp, aI T ma 266 al] := hD
  refine lv_aload_n hx hb dX9_trulyAbove_0 rfl (lv_at hl 0 rfl) ?_
  refine lv_iload_n hx hb dX9_trulyAbove_1 rfl (lv_at hl 1 rfl) ?_
  refine lv_iconst (v := 0) hx hb dX9_trulyAbove_2 (by decide) ?_
  have hP := hP.sub (ws' := [oMo mo ma mh (nI hn) th mk mz mt (nI tn) (nI ax) sc ti pp, aI T ma 266 al] ++ []) [0, 1] rfl
  have hD := hD.sub (ws' := [oMo mo ma mh (nI hn) th mk mz mt (nI tn) (nI ax) sc ti pp, aI T ma 266 al] ++ []) [0, 1] (by decide) rfl
  refine kV (ci := 8) (As := [.int px, .int 0]) (rest := []) ⟨hx, hb, hml, hown, hts⟩ (c_X9_above_bad l D T mo ma mh mk mz mt al hn th tn ax sc ti pp px 0 (by first | omega | assumption)) (cwV 2 hts gX9_trulyAbove_X9_above rfl rfl rfl (by decide +kernel) ⟨Nat.le_of_ble_eq_true rfl, Nat.le_of_ble_eq_true rfl⟩) hC hP hD hS hA rfl rfl rfl hl.1 rfl (Nat.le_of_ble_eq_true rfl) dX9_trulyAbove_3 ⟨Nat.zero_le _, Nat.zero_le _⟩ (fun H locs hP hD hS => ?_)
  have hP : va_P D vwCl [oMo mo ma mh (nI hn) 1 mk mz mt (nI tn) (nI ax) sc ti pp, aI T ma 266 al] H := hP
  have hD : va_D A [oMo mo ma mh (nI hn) 1 mk mz mt (nI tn) (nI ax) sc ti pp, aI T ma 266 al] := hD
  refine W.eq (g2 := F0 m 6 ls [.int 0]) rfl ?_
  exact hret _ _ _ _ _ (fun Qc free hq hf => W.iret hx hb hr hq hf dX9_trulyAbove_6 hlk) hP hD hS
abbrev rX9_surelyAbove : Room := { frames := 5, cells := 0, slots := 0, locals := 113 }
set_option maxHeartbeats 4000000 in
set_option maxRecDepth 100000 in
theorem c_X9_surelyAbove (l : Launch) (D : va_G) (T : Nat → ClassId) (mo ma mh mk mz mt : Nat) (al : Nat → Int32) (hn : Nat) (th : Int32) (tn ax : Nat) (sc ti pp : Int32) (cp : Nat) (px : Int32) (hcp : al 264 = nI cp) (hcp9 : cp < 1000) (hin : inL px.toInt64 0 1000 = true) : kM l D T yX9_surelyAbove wsX9_surelyAbove rX9_surelyAbove [.ref mo, .int px] [oMo mo ma mh (nI hn) th mk mz mt (nI tn) (nI ax) sc ti pp, aI T ma 266 al] (some (.int (abN al px 1 26))) [oMo mo ma mh (nI hn) 0 mk mz mt (nI tn) (nI ax) sc ti pp, aI T ma 266 al] := by
  refine kM.of (cc := cX9_surelyAbove) (maxL := 2) (ret := some .int) (by decide) rfl (Nat.le_of_ble_eq_true rfl) ?_
  intro p e s m below meth c A Q ls hx hb hml hown hr hlk hts hC hP hD hS hA hl hret
  have hl : lv_has ls 2 [(0, .ref mo), (1, .int px)] := hl
  have hP : va_P D vwCl [oMo mo ma mh (nI hn) th mk mz mt (nI tn) (nI ax) sc ti pp, aI T ma 266 al] s.heap := hP
  have hD : va_D A [oMo mo ma mh (nI hn) th mk mz mt (nI tn) (nI ax) sc ti pp, aI T ma 266 al] := hD
  refine lv_aload_n hx hb dX9_surelyAbove_0 rfl (lv_at hl 0 rfl) ?_
  refine lv_iload_n hx hb dX9_surelyAbove_1 rfl (lv_at hl 1 rfl) ?_
  refine lv_iconst (v := 1) hx hb dX9_surelyAbove_2 (by decide) ?_
  have hP := hP.sub (ws' := [oMo mo ma mh (nI hn) th mk mz mt (nI tn) (nI ax) sc ti pp, aI T ma 266 al] ++ []) [0, 1] rfl
  have hD := hD.sub (ws' := [oMo mo ma mh (nI hn) th mk mz mt (nI tn) (nI ax) sc ti pp, aI T ma 266 al] ++ []) [0, 1] (by decide) rfl
  refine kV (ci := 8) (As := [.int px, .int 1]) (rest := []) ⟨hx, hb, hml, hown, hts⟩ (c_X9_above l D T mo ma mh mk mz mt al hn th tn ax sc ti pp cp px 1 (by first | omega | assumption) (by first | omega | assumption) (by first | omega | assumption)) (cwV 2 hts gX9_surelyAbove_X9_above rfl rfl rfl (by decide +kernel) ⟨Nat.le_of_ble_eq_true rfl, Nat.le_of_ble_eq_true rfl⟩) hC hP hD hS hA rfl rfl rfl hl.1 rfl (Nat.le_of_ble_eq_true rfl) dX9_surelyAbove_3 ⟨Nat.zero_le _, Nat.zero_le _⟩ (fun H locs hP hD hS => ?_)
  have hP : va_P D vwCl [oMo mo ma mh (nI hn) 0 mk mz mt (nI tn) (nI ax) sc ti pp, aI T ma 266 al] H := hP
  have hD : va_D A [oMo mo ma mh (nI hn) 0 mk mz mt (nI tn) (nI ax) sc ti pp, aI T ma 266 al] := hD
  refine W.eq (g2 := F0 m 6 ls [.int (abN al px 1 26)]) rfl ?_
  exact hret _ _ _ _ _ (fun Qc free hq hf => W.iret hx hb hr hq hf dX9_surelyAbove_6 hlk) hP hD hS
set_option maxHeartbeats 4000000 in
set_option maxRecDepth 100000 in
theorem c_X9_surelyAbove_bad (l : Launch) (D : va_G) (T : Nat → ClassId) (mo ma mh mk mz mt : Nat) (al : Nat → Int32) (hn : Nat) (th : Int32) (tn ax : Nat) (sc ti pp : Int32) (px : Int32) (hbad : inL px.toInt64 0 1000 = false) : kM l D T yX9_surelyAbove wsX9_surelyAbove rX9_surelyAbove [.ref mo, .int px] [oMo mo ma mh (nI hn) th mk mz mt (nI tn) (nI ax) sc ti pp, aI T ma 266 al] (some (.int 0)) [oMo mo ma mh (nI hn) 1 mk mz mt (nI tn) (nI ax) sc ti pp, aI T ma 266 al] := by
  refine kM.of (cc := cX9_surelyAbove) (maxL := 2) (ret := some .int) (by decide) rfl (Nat.le_of_ble_eq_true rfl) ?_
  intro p e s m below meth c A Q ls hx hb hml hown hr hlk hts hC hP hD hS hA hl hret
  have hl : lv_has ls 2 [(0, .ref mo), (1, .int px)] := hl
  have hP : va_P D vwCl [oMo mo ma mh (nI hn) th mk mz mt (nI tn) (nI ax) sc ti pp, aI T ma 266 al] s.heap := hP
  have hD : va_D A [oMo mo ma mh (nI hn) th mk mz mt (nI tn) (nI ax) sc ti pp, aI T ma 266 al] := hD
  refine lv_aload_n hx hb dX9_surelyAbove_0 rfl (lv_at hl 0 rfl) ?_
  refine lv_iload_n hx hb dX9_surelyAbove_1 rfl (lv_at hl 1 rfl) ?_
  refine lv_iconst (v := 1) hx hb dX9_surelyAbove_2 (by decide) ?_
  have hP := hP.sub (ws' := [oMo mo ma mh (nI hn) th mk mz mt (nI tn) (nI ax) sc ti pp, aI T ma 266 al] ++ []) [0, 1] rfl
  have hD := hD.sub (ws' := [oMo mo ma mh (nI hn) th mk mz mt (nI tn) (nI ax) sc ti pp, aI T ma 266 al] ++ []) [0, 1] (by decide) rfl
  refine kV (ci := 8) (As := [.int px, .int 1]) (rest := []) ⟨hx, hb, hml, hown, hts⟩ (c_X9_above_bad l D T mo ma mh mk mz mt al hn th tn ax sc ti pp px 1 (by first | omega | assumption)) (cwV 2 hts gX9_surelyAbove_X9_above rfl rfl rfl (by decide +kernel) ⟨Nat.le_of_ble_eq_true rfl, Nat.le_of_ble_eq_true rfl⟩) hC hP hD hS hA rfl rfl rfl hl.1 rfl (Nat.le_of_ble_eq_true rfl) dX9_surelyAbove_3 ⟨Nat.zero_le _, Nat.zero_le _⟩ (fun H locs hP hD hS => ?_)
  have hP : va_P D vwCl [oMo mo ma mh (nI hn) 1 mk mz mt (nI tn) (nI ax) sc ti pp, aI T ma 266 al] H := hP
  have hD : va_D A [oMo mo ma mh (nI hn) 1 mk mz mt (nI tn) (nI ax) sc ti pp, aI T ma 266 al] := hD
  refine W.eq (g2 := F0 m 6 ls [.int 0]) rfl ?_
  exact hret _ _ _ _ _ (fun Qc free hq hf => W.iret hx hb hr hq hf dX9_surelyAbove_6 hlk) hP hD hS
abbrev rX9_perhapsAbove : Room := { frames := 5, cells := 0, slots := 0, locals := 113 }
set_option maxHeartbeats 4000000 in
set_option maxRecDepth 100000 in
theorem c_X9_perhapsAbove (l : Launch) (D : va_G) (T : Nat → ClassId) (mo ma mh mk mz mt : Nat) (al : Nat → Int32) (hn : Nat) (th : Int32) (tn ax : Nat) (sc ti pp : Int32) (cp : Nat) (px : Int32) (hcp : al 264 = nI cp) (hcp9 : cp < 1000) (hin : inL px.toInt64 0 1000 = true) : kM l D T yX9_perhapsAbove wsX9_perhapsAbove rX9_perhapsAbove [.ref mo, .int px] [oMo mo ma mh (nI hn) th mk mz mt (nI tn) (nI ax) sc ti pp, aI T ma 266 al] (some (.int (abN al px 2 26))) [oMo mo ma mh (nI hn) 0 mk mz mt (nI tn) (nI ax) sc ti pp, aI T ma 266 al] := by
  refine kM.of (cc := cX9_perhapsAbove) (maxL := 2) (ret := some .int) (by decide) rfl (Nat.le_of_ble_eq_true rfl) ?_
  intro p e s m below meth c A Q ls hx hb hml hown hr hlk hts hC hP hD hS hA hl hret
  have hl : lv_has ls 2 [(0, .ref mo), (1, .int px)] := hl
  have hP : va_P D vwCl [oMo mo ma mh (nI hn) th mk mz mt (nI tn) (nI ax) sc ti pp, aI T ma 266 al] s.heap := hP
  have hD : va_D A [oMo mo ma mh (nI hn) th mk mz mt (nI tn) (nI ax) sc ti pp, aI T ma 266 al] := hD
  refine lv_aload_n hx hb dX9_perhapsAbove_0 rfl (lv_at hl 0 rfl) ?_
  refine lv_iload_n hx hb dX9_perhapsAbove_1 rfl (lv_at hl 1 rfl) ?_
  refine lv_iconst (v := 2) hx hb dX9_perhapsAbove_2 (by decide) ?_
  have hP := hP.sub (ws' := [oMo mo ma mh (nI hn) th mk mz mt (nI tn) (nI ax) sc ti pp, aI T ma 266 al] ++ []) [0, 1] rfl
  have hD := hD.sub (ws' := [oMo mo ma mh (nI hn) th mk mz mt (nI tn) (nI ax) sc ti pp, aI T ma 266 al] ++ []) [0, 1] (by decide) rfl
  refine kV (ci := 8) (As := [.int px, .int 2]) (rest := []) ⟨hx, hb, hml, hown, hts⟩ (c_X9_above l D T mo ma mh mk mz mt al hn th tn ax sc ti pp cp px 2 (by first | omega | assumption) (by first | omega | assumption) (by first | omega | assumption)) (cwV 2 hts gX9_perhapsAbove_X9_above rfl rfl rfl (by decide +kernel) ⟨Nat.le_of_ble_eq_true rfl, Nat.le_of_ble_eq_true rfl⟩) hC hP hD hS hA rfl rfl rfl hl.1 rfl (Nat.le_of_ble_eq_true rfl) dX9_perhapsAbove_3 ⟨Nat.zero_le _, Nat.zero_le _⟩ (fun H locs hP hD hS => ?_)
  have hP : va_P D vwCl [oMo mo ma mh (nI hn) 0 mk mz mt (nI tn) (nI ax) sc ti pp, aI T ma 266 al] H := hP
  have hD : va_D A [oMo mo ma mh (nI hn) 0 mk mz mt (nI tn) (nI ax) sc ti pp, aI T ma 266 al] := hD
  refine W.eq (g2 := F0 m 6 ls [.int (abN al px 2 26)]) rfl ?_
  exact hret _ _ _ _ _ (fun Qc free hq hf => W.iret hx hb hr hq hf dX9_perhapsAbove_6 hlk) hP hD hS
set_option maxHeartbeats 4000000 in
set_option maxRecDepth 100000 in
theorem c_X9_perhapsAbove_bad (l : Launch) (D : va_G) (T : Nat → ClassId) (mo ma mh mk mz mt : Nat) (al : Nat → Int32) (hn : Nat) (th : Int32) (tn ax : Nat) (sc ti pp : Int32) (px : Int32) (hbad : inL px.toInt64 0 1000 = false) : kM l D T yX9_perhapsAbove wsX9_perhapsAbove rX9_perhapsAbove [.ref mo, .int px] [oMo mo ma mh (nI hn) th mk mz mt (nI tn) (nI ax) sc ti pp, aI T ma 266 al] (some (.int 0)) [oMo mo ma mh (nI hn) 1 mk mz mt (nI tn) (nI ax) sc ti pp, aI T ma 266 al] := by
  refine kM.of (cc := cX9_perhapsAbove) (maxL := 2) (ret := some .int) (by decide) rfl (Nat.le_of_ble_eq_true rfl) ?_
  intro p e s m below meth c A Q ls hx hb hml hown hr hlk hts hC hP hD hS hA hl hret
  have hl : lv_has ls 2 [(0, .ref mo), (1, .int px)] := hl
  have hP : va_P D vwCl [oMo mo ma mh (nI hn) th mk mz mt (nI tn) (nI ax) sc ti pp, aI T ma 266 al] s.heap := hP
  have hD : va_D A [oMo mo ma mh (nI hn) th mk mz mt (nI tn) (nI ax) sc ti pp, aI T ma 266 al] := hD
  refine lv_aload_n hx hb dX9_perhapsAbove_0 rfl (lv_at hl 0 rfl) ?_
  refine lv_iload_n hx hb dX9_perhapsAbove_1 rfl (lv_at hl 1 rfl) ?_
  refine lv_iconst (v := 2) hx hb dX9_perhapsAbove_2 (by decide) ?_
  have hP := hP.sub (ws' := [oMo mo ma mh (nI hn) th mk mz mt (nI tn) (nI ax) sc ti pp, aI T ma 266 al] ++ []) [0, 1] rfl
  have hD := hD.sub (ws' := [oMo mo ma mh (nI hn) th mk mz mt (nI tn) (nI ax) sc ti pp, aI T ma 266 al] ++ []) [0, 1] (by decide) rfl
  refine kV (ci := 8) (As := [.int px, .int 2]) (rest := []) ⟨hx, hb, hml, hown, hts⟩ (c_X9_above_bad l D T mo ma mh mk mz mt al hn th tn ax sc ti pp px 2 (by first | omega | assumption)) (cwV 2 hts gX9_perhapsAbove_X9_above rfl rfl rfl (by decide +kernel) ⟨Nat.le_of_ble_eq_true rfl, Nat.le_of_ble_eq_true rfl⟩) hC hP hD hS hA rfl rfl rfl hl.1 rfl (Nat.le_of_ble_eq_true rfl) dX9_perhapsAbove_3 ⟨Nat.zero_le _, Nat.zero_le _⟩ (fun H locs hP hD hS => ?_)
  have hP : va_P D vwCl [oMo mo ma mh (nI hn) 1 mk mz mt (nI tn) (nI ax) sc ti pp, aI T ma 266 al] H := hP
  have hD : va_D A [oMo mo ma mh (nI hn) 1 mk mz mt (nI tn) (nI ax) sc ti pp, aI T ma 266 al] := hD
  refine W.eq (g2 := F0 m 6 ls [.int 0]) rfl ?_
  exact hret _ _ _ _ _ (fun Qc free hq hf => W.iret hx hb hr hq hf dX9_perhapsAbove_6 hlk) hP hD hS
abbrev rX9_greatestError : Room := { frames := 4, cells := 0, slots := 0, locals := 88 }
set_option maxHeartbeats 4000000 in
set_option maxRecDepth 100000 in
theorem c_X9_greatestError (l : Launch) (D : va_G) (T : Nat → ClassId) (mo ma mh mk mz mt : Nat) (al : Nat → Int32) (hn : Nat) (th : Int32) (tn ax : Nat) (sc ti pp : Int32) (cp : Nat) (hcp : al 264 = nI cp) (hcp9 : cp < 1000) : kM l D T yX9_greatestError wsX9_greatestError rX9_greatestError [.ref mo] [oMo mo ma mh (nI hn) th mk mz mt (nI tn) (nI ax) sc ti pp, aI T ma 266 al] (some (.int (geM al 25))) [oMo mo ma mh (nI hn) 0 mk mz mt (nI tn) (nI ax) sc ti pp, aI T ma 266 al] := by
  refine kM.of (cc := cX9_greatestError) (maxL := 4) (ret := some .int) (by decide) rfl (Nat.le_of_ble_eq_true rfl) ?_
  intro p e s m below meth c A Q ls hx hb hml hown hr hlk hts hC hP hD hS hA hl hret
  have iX9 : ∀ w ∈ wsX90, w ∈ wsX9_greatestError := (fun _ h => List.mem_cons_of_mem _ (List.mem_append_right _ h))
  have loop_21 : ∀ (n i : Nat), i + n = 25 → ∀ (H : Heap) (locs : List Loc) (ls : Array Slot), va_P D vwCl [oMo mo ma mh (nI hn) 0 mk mz mt (nI tn) (nI ax) sc ti pp, aI T ma 266 al] H → va_D A [oMo mo ma mh (nI hn) 0 mk mz mt (nI tn) (nI ax) sc ti pp, aI T ma 266 al] → va_S A s.heap H locs → lv_has ls 4 [(2, .int (nI (i + 1))), (1, .int (geM al i)), (0, .ref mo)] → W p l e rX9_greatestError s m [.ref mo].toArray below meth c H locs 0 0 Q (F0 m 21 ls []) := by
    intro n
    induction n with
    | zero =>
      intro i hi  H locs ls hP hD hS hl
      have hi9 : 25 = i := by omega
      subst hi9
      refine lv_iload_n hx hb dX9_greatestError_21 rfl (lv_at hl 0 rfl) ?_
      refine lv_bipush (v := 26) hx hb dX9_greatestError_22 (by decide) ?_
      refine lv_icmp_ge (tgt := 60) hx hb dX9_greatestError_24 (by decide) (fun _ => ?_) (fun c_x => absurd (by decide) c_x)
      refine lv_iload_n hx hb dX9_greatestError_60 rfl (lv_at hl 1 rfl) ?_
      exact hret _ _ _ _ _ (fun Qc free hq hf => W.iret hx hb hr hq hf dX9_greatestError_61 hlk) hP hD hS
    | succ n ih =>
      intro i hi  H locs ls hP hD hS hl
      have hlt : i < 25 := by omega
      refine lv_iload_n hx hb dX9_greatestError_21 rfl (lv_at hl 0 rfl) ?_
      refine lv_bipush (v := 26) hx hb dX9_greatestError_22 (by decide) ?_
      refine lv_icmp_ge (tgt := 60) hx hb dX9_greatestError_24 (by decide) (fun c_x => absurd c_x (nI_ge (b := 26) (by omega) (by decide))) (fun _ => ?_)
      refine lv_aload_n hx hb dX9_greatestError_27 rfl (lv_at hl 2 rfl) ?_
      refine lv_iconst (v := 0) hx hb dX9_greatestError_28 (by decide) ?_
      refine lv_iload_n hx hb dX9_greatestError_29 rfl (lv_at hl 0 rfl) ?_
      have hP := hP.sub (ws' := [oMo mo ma mh (nI hn) 0 mk mz mt (nI tn) (nI ax) sc ti pp, aI T ma 266 al] ++ []) [0, 1] rfl
      have hD := hD.sub (ws' := [oMo mo ma mh (nI hn) 0 mk mz mt (nI tn) (nI ax) sc ti pp, aI T ma 266 al] ++ []) [0, 1] (by decide) rfl
      refine kV (ci := 8) (As := [.int 0, .int (nI (i + 1))]) (rest := []) ⟨hx, hb, hml, hown, hts⟩ (c_X9_estimateBy l D T mo ma mh mk mz mt al hn 0 tn ax sc ti pp 0 cp (i + 1) (by first | omega | assumption) (by first | omega | assumption) (by first | omega | assumption) (by first | omega | assumption)) (cwV 2 hts gX9_greatestError_X9_estimateBy rfl rfl rfl (by decide +kernel) ⟨Nat.le_of_ble_eq_true rfl, Nat.le_of_ble_eq_true rfl⟩) hC hP hD hS hA rfl rfl rfl hl.1 rfl (Nat.le_of_ble_eq_true rfl) dX9_greatestError_30 ⟨Nat.zero_le _, Nat.zero_le _⟩ (fun H locs hP hD hS => ?_)
      have hP : va_P D vwCl [oMo mo ma mh (nI hn) 0 mk mz mt (nI tn) (nI ax) sc ti pp, aI T ma 266 al] H := hP
      have hD : va_D A [oMo mo ma mh (nI hn) 0 mk mz mt (nI tn) (nI ax) sc ti pp, aI T ma 266 al] := hD
      refine W.eq (g2 := F0 m 33 ls [.int (mEst al 0 (i + 1))]) rfl ?_
      refine lv_aload_n hx hb dX9_greatestError_33 rfl (lv_at hl 2 rfl) ?_
      refine va_get (D := D) (ci := 8) (v := .ref ma) (C := RX9) (T := TX9) (N := 12) hx hb hts iX9 hown hC.1 hP 0 rfl rfl 0 (by decide) (hts (.fieldLink RX9 7 "ParrotCountsModel" "all" "[I") (List.mem_of_getElem? (i := 2) rfl)) (fun _ h => h) rfl dX9_greatestError_34 ?_
      refine lv_iconst (v := 0) hx hb dX9_greatestError_37 (by decide) ?_
      refine lv_iload_n hx hb dX9_greatestError_38 rfl (lv_at hl 0 rfl) ?_
      refine lv_iadd hx hb dX9_greatestError_39 ?_
      refine W.eq (g2 := F0 m 40 ls (.int (nI (i + 1)) :: [.ref ma, .int (mEst al 0 (i + 1))])) (congrArg (fun z => F0 m 40 ls (.int z :: [.ref ma, .int (mEst al 0 (i + 1))])) (nI_z (i + 1))) ?_
      refine k_iald hx hb hC.1 hP 1 0 rfl rfl (by omega) dX9_greatestError_40 ?_
      refine lv_isub hx hb dX9_greatestError_41 ?_
      refine lv_istore_n (lv' := [(3, .int ((mEst al 0 (i + 1)) - (al (i + 1)))), (2, .int (nI (i + 1))), (1, .int (geM al i)), (0, .ref mo)]) hx hb dX9_greatestError_42 rfl hl (by decide) rfl (fun ls hl => ?_)
      refine lv_iload_n hx hb dX9_greatestError_43 rfl (lv_at hl 0 rfl) ?_
      refine lv_iload_n hx hb dX9_greatestError_44 rfl (lv_at hl 2 rfl) ?_
      refine lv_icmp_le (tgt := 52) hx hb dX9_greatestError_45 (by decide) (fun c45 => ?_) (fun c45 => ?_)
      · refine lv_iload_n hx hb dX9_greatestError_52 rfl (lv_at hl 2 rfl) ?_
        refine lv_istore_n (lv' := [(1, .int (geM al i)), (3, .int ((mEst al 0 (i + 1)) - (al (i + 1)))), (2, .int (nI (i + 1))), (0, .ref mo)]) hx hb dX9_greatestError_53 rfl hl (by decide) rfl (fun ls hl => ?_)
        refine lv_iinc (v := nI ((i + 1) + 1)) (lv' := [(2, .int (nI ((i + 1) + 1))), (1, .int (geM al i)), (3, .int ((mEst al 0 (i + 1)) - (al (i + 1)))), (0, .ref mo)]) hx hb dX9_greatestError_54 hl (k := 2) rfl (nI_1 (i + 1)) (by decide) rfl (fun ls hl => ?_)
        refine lv_goto (tgt := 21) hx hb dX9_greatestError_57 (by decide) ?_
        have e_1 : (geM al i : Int32) = geM al (i + 1) := by first | with_reducible rfl | (simp [geM, c45]; done)
        have hl : lv_has ls 4 [(2, .int (nI ((i + 1) + 1))), (1, .int (geM al (i + 1))), (0, .ref mo)] := lv_sub hl [0, 1, 3] (by show (_ : List (Nat × Value)) = [(2, .int (nI ((i + 1) + 1))), (1, .int (geM al (i + 1))), (0, .ref mo)]; rw [← e_1]; rfl)
        exact ih (i + 1) (by omega)  _ _ _ hP hD hS hl
      · refine lv_iload_n hx hb dX9_greatestError_48 rfl (lv_at hl 0 rfl) ?_
        refine lv_goto (tgt := 53) hx hb dX9_greatestError_49 (by decide) ?_
        refine lv_istore_n (lv' := [(1, .int ((mEst al 0 (i + 1)) - (al (i + 1)))), (3, .int ((mEst al 0 (i + 1)) - (al (i + 1)))), (2, .int (nI (i + 1))), (0, .ref mo)]) hx hb dX9_greatestError_53 rfl hl (by decide) rfl (fun ls hl => ?_)
        refine lv_iinc (v := nI ((i + 1) + 1)) (lv' := [(2, .int (nI ((i + 1) + 1))), (1, .int ((mEst al 0 (i + 1)) - (al (i + 1)))), (3, .int ((mEst al 0 (i + 1)) - (al (i + 1)))), (0, .ref mo)]) hx hb dX9_greatestError_54 hl (k := 2) rfl (nI_1 (i + 1)) (by decide) rfl (fun ls hl => ?_)
        refine lv_goto (tgt := 21) hx hb dX9_greatestError_57 (by decide) ?_
        have e_2 : ((mEst al 0 (i + 1)) - (al (i + 1)) : Int32) = geM al (i + 1) := by first | with_reducible rfl | (simp [geM, c45]; done)
        have hl : lv_has ls 4 [(2, .int (nI ((i + 1) + 1))), (1, .int (geM al (i + 1))), (0, .ref mo)] := lv_sub hl [0, 1, 3] (by show (_ : List (Nat × Value)) = [(2, .int (nI ((i + 1) + 1))), (1, .int (geM al (i + 1))), (0, .ref mo)]; rw [← e_2]; rfl)
        exact ih (i + 1) (by omega)  _ _ _ hP hD hS hl
  have hl : lv_has ls 4 [(0, .ref mo)] := hl
  have hP : va_P D vwCl [oMo mo ma mh (nI hn) th mk mz mt (nI tn) (nI ax) sc ti pp, aI T ma 266 al] s.heap := hP
  have hD : va_D A [oMo mo ma mh (nI hn) th mk mz mt (nI tn) (nI ax) sc ti pp, aI T ma 266 al] := hD
  refine lv_aload_n hx hb dX9_greatestError_0 rfl (lv_at hl 0 rfl) ?_
  refine lv_iconst (v := 0) hx hb dX9_greatestError_1 (by decide) ?_
  refine va_put (D := D) (ci := 8) (v := .int 0) (ty := .int) (C := RX9) (T := TX9) (N := 12) hx hb hts iX9 tyX9 tyX9_ok nmX9 hown hC.1 hP hD hS 0 rfl rfl 3 (by decide) (hts (.fieldLink RX9 25 "ParrotCountsModel" "thrown" "I") (List.mem_of_getElem? (i := 1) rfl)) (fun _ h9 => h9) rfl (by decide +kernel) rfl rfl (Nat.le_of_ble_eq_true rfl) dX9_greatestError_2 (fun H locs hP hD hS => ?_)
  have hP : va_P D vwCl [oMo mo ma mh (nI hn) 0 mk mz mt (nI tn) (nI ax) sc ti pp, aI T ma 266 al] H := hP
  have hD : va_D A [oMo mo ma mh (nI hn) 0 mk mz mt (nI tn) (nI ax) sc ti pp, aI T ma 266 al] := hD
  refine lv_aload_n hx hb dX9_greatestError_5 rfl (lv_at hl 0 rfl) ?_
  refine lv_iconst (v := 0) hx hb dX9_greatestError_6 (by decide) ?_
  refine lv_iconst (v := 0) hx hb dX9_greatestError_7 (by decide) ?_
  have hP := hP.sub (ws' := [oMo mo ma mh (nI hn) 0 mk mz mt (nI tn) (nI ax) sc ti pp, aI T ma 266 al] ++ []) [0, 1] rfl
  have hD := hD.sub (ws' := [oMo mo ma mh (nI hn) 0 mk mz mt (nI tn) (nI ax) sc ti pp, aI T ma 266 al] ++ []) [0, 1] (by decide) rfl
  refine kV (ci := 8) (As := [.int 0, .int 0]) (rest := []) ⟨hx, hb, hml, hown, hts⟩ (c_X9_estimateBy l D T mo ma mh mk mz mt al hn 0 tn ax sc ti pp 0 cp 0 (by first | omega | assumption) (by first | omega | assumption) (by first | omega | assumption) (by first | omega | assumption)) (cwV 2 hts gX9_greatestError_X9_estimateBy rfl rfl rfl (by decide +kernel) ⟨Nat.le_of_ble_eq_true rfl, Nat.le_of_ble_eq_true rfl⟩) hC hP hD hS hA rfl rfl rfl hl.1 rfl (Nat.le_of_ble_eq_true rfl) dX9_greatestError_8 ⟨Nat.zero_le _, Nat.zero_le _⟩ (fun H locs hP hD hS => ?_)
  have hP : va_P D vwCl [oMo mo ma mh (nI hn) 0 mk mz mt (nI tn) (nI ax) sc ti pp, aI T ma 266 al] H := hP
  have hD : va_D A [oMo mo ma mh (nI hn) 0 mk mz mt (nI tn) (nI ax) sc ti pp, aI T ma 266 al] := hD
  refine W.eq (g2 := F0 m 11 ls [.int (mEst al 0 0)]) rfl ?_
  refine lv_aload_n hx hb dX9_greatestError_11 rfl (lv_at hl 0 rfl) ?_
  refine va_get (D := D) (ci := 8) (v := .ref ma) (C := RX9) (T := TX9) (N := 12) hx hb hts iX9 hown hC.1 hP 0 rfl rfl 0 (by decide) (hts (.fieldLink RX9 7 "ParrotCountsModel" "all" "[I") (List.mem_of_getElem? (i := 2) rfl)) (fun _ h => h) rfl dX9_greatestError_12 ?_
  refine lv_iconst (v := 0) hx hb dX9_greatestError_15 (by decide) ?_
  refine k_iald hx hb hC.1 hP 1 0 rfl rfl (by decide) dX9_greatestError_16 ?_
  refine lv_isub hx hb dX9_greatestError_17 ?_
  refine lv_istore_n (lv' := [(1, .int ((mEst al 0 0) - (al 0))), (0, .ref mo)]) hx hb dX9_greatestError_18 rfl hl (by decide) rfl (fun ls hl => ?_)
  refine lv_iconst (v := 1) hx hb dX9_greatestError_19 (by decide) ?_
  refine lv_istore_n (lv' := [(2, .int 1), (1, .int ((mEst al 0 0) - (al 0))), (0, .ref mo)]) hx hb dX9_greatestError_20 rfl hl (by decide) rfl (fun ls hl => ?_)
  have e_3 : (1 : Int32) = nI (0 + 1) := rfl
  have e_4 : ((mEst al 0 0) - (al 0) : Int32) = geM al 0 := rfl
  have hl : lv_has ls 4 [(2, .int (nI (0 + 1))), (1, .int (geM al 0)), (0, .ref mo)] := lv_sub hl [0, 1, 2] (by show (_ : List (Nat × Value)) = [(2, .int (nI (0 + 1))), (1, .int (geM al 0)), (0, .ref mo)]; rw [← e_3, ← e_4]; rfl)
  exact loop_21 25 0 (by omega)  _ _ _ hP hD hS hl
abbrev rX9_clearText : Room := { frames := 0, cells := 0, slots := 0, locals := 0 }
set_option maxHeartbeats 4000000 in
set_option maxRecDepth 100000 in
theorem c_X9_clearText (l : Launch) (D : va_G) (T : Nat → ClassId) (mo ma mh mk mz mt : Nat) (hn : Nat) (th : Int32) (tn ax : Nat) (sc ti pp : Int32) : kM l D T yX9_clearText wsX9_clearText rX9_clearText [.ref mo] [oMo mo ma mh (nI hn) th mk mz mt (nI tn) (nI ax) sc ti pp] (some (.int (nI tn))) [oMo mo ma mh (nI hn) 0 mk mz mt 0 (nI ax) sc ti pp] := by
  refine kM.of (cc := cX9_clearText) (maxL := 2) (ret := some .int) (by decide) rfl (Nat.le_of_ble_eq_true rfl) ?_
  intro p e s m below meth c A Q ls hx hb hml hown hr hlk hts hC hP hD hS hA hl hret
  have iX9 : ∀ w ∈ wsX90, w ∈ wsX9_clearText := (fun _ h => List.mem_cons_of_mem _ (List.mem_append_right _ h))
  have hl : lv_has ls 2 [(0, .ref mo)] := hl
  have hP : va_P D vwCl [oMo mo ma mh (nI hn) th mk mz mt (nI tn) (nI ax) sc ti pp] s.heap := hP
  have hD : va_D A [oMo mo ma mh (nI hn) th mk mz mt (nI tn) (nI ax) sc ti pp] := hD
  refine lv_aload_n hx hb dX9_clearText_0 rfl (lv_at hl 0 rfl) ?_
  refine lv_iconst (v := 0) hx hb dX9_clearText_1 (by decide) ?_
  refine va_put (D := D) (ci := 8) (v := .int 0) (ty := .int) (C := RX9) (T := TX9) (N := 12) hx hb hts iX9 tyX9 tyX9_ok nmX9 hown hC.1 hP hD hS 0 rfl rfl 3 (by decide) (hts (.fieldLink RX9 25 "ParrotCountsModel" "thrown" "I") (List.mem_of_getElem? (i := 1) rfl)) (fun _ h9 => h9) rfl (by decide +kernel) rfl rfl (Nat.le_of_ble_eq_true rfl) dX9_clearText_2 (fun H locs hP hD hS => ?_)
  have hP : va_P D vwCl [oMo mo ma mh (nI hn) 0 mk mz mt (nI tn) (nI ax) sc ti pp] H := hP
  have hD : va_D A [oMo mo ma mh (nI hn) 0 mk mz mt (nI tn) (nI ax) sc ti pp] := hD
  refine lv_aload_n hx hb dX9_clearText_5 rfl (lv_at hl 0 rfl) ?_
  refine va_get (D := D) (ci := 8) (v := .int (nI tn)) (C := RX9) (T := TX9) (N := 12) hx hb hts iX9 hown hC.1 hP 0 rfl rfl 7 (by decide) (hts (.fieldLink RX9 106 "ParrotCountsModel" "textLong" "I") (List.mem_of_getElem? (i := 2) rfl)) (fun _ h => h) rfl dX9_clearText_6 ?_
  refine lv_istore_n (lv' := [(1, .int (nI tn)), (0, .ref mo)]) hx hb dX9_clearText_9 rfl hl (by decide) rfl (fun ls hl => ?_)
  refine lv_aload_n hx hb dX9_clearText_10 rfl (lv_at hl 1 rfl) ?_
  refine lv_iconst (v := 0) hx hb dX9_clearText_11 (by decide) ?_
  refine va_put (D := D) (ci := 8) (v := .int 0) (ty := .int) (C := RX9) (T := TX9) (N := 12) hx hb hts iX9 tyX9 tyX9_ok nmX9 hown hC.1 hP hD hS 0 rfl rfl 7 (by decide) (hts (.fieldLink RX9 106 "ParrotCountsModel" "textLong" "I") (List.mem_of_getElem? (i := 2) rfl)) (fun _ h9 => h9) rfl (by decide +kernel) rfl rfl (Nat.le_of_ble_eq_true rfl) dX9_clearText_12 (fun H locs hP hD hS => ?_)
  have hP : va_P D vwCl [oMo mo ma mh (nI hn) 0 mk mz mt 0 (nI ax) sc ti pp] H := hP
  have hD : va_D A [oMo mo ma mh (nI hn) 0 mk mz mt 0 (nI ax) sc ti pp] := hD
  refine lv_iload_n hx hb dX9_clearText_15 rfl (lv_at hl 0 rfl) ?_
  exact hret _ _ _ _ _ (fun Qc free hq hf => W.iret hx hb hr hq hf dX9_clearText_16 hlk) hP hD hS
abbrev rX9_append : Room := { frames := 1, cells := 0, slots := 0, locals := 21 }
set_option maxHeartbeats 4000000 in
set_option maxRecDepth 100000 in
theorem c_X9_append (l : Launch) (D : va_G) (T : Nat → ClassId) (mo ma mh mk mz mt : Nat) (hn : Nat) (th : Int32) (tn ax : Nat) (sc ti pp : Int32) (tx : Nat → Int32) (cx : Int32) (htn : tn < 60) : kM l D T yX9_append wsX9_append rX9_append [.ref mo, .int cx] [oMo mo ma mh (nI hn) th mk mz mt (nI tn) (nI ax) sc ti pp, aI T mt 60 tx] (some (.int (nI (tn + 1)))) [oMo mo ma mh (nI hn) 0 mk mz mt (nI (tn + 1)) (nI ax) sc ti pp, aI T mt 60 (upd tx tn cx)] := by
  refine kM.of (cc := cX9_append) (maxL := 2) (ret := some .int) (by decide) rfl (Nat.le_of_ble_eq_true rfl) ?_
  intro p e s m below meth c A Q ls hx hb hml hown hr hlk hts hC hP hD hS hA hl hret
  have iX9 : ∀ w ∈ wsX90, w ∈ wsX9_append := (fun _ h => List.mem_cons_of_mem _ (List.mem_append_right _ h))
  have hl : lv_has ls 2 [(0, .ref mo), (1, .int cx)] := hl
  have hP : va_P D vwCl [oMo mo ma mh (nI hn) th mk mz mt (nI tn) (nI ax) sc ti pp, aI T mt 60 tx] s.heap := hP
  have hD : va_D A [oMo mo ma mh (nI hn) th mk mz mt (nI tn) (nI ax) sc ti pp, aI T mt 60 tx] := hD
  refine lv_aload_n hx hb dX9_append_0 rfl (lv_at hl 0 rfl) ?_
  refine va_get (D := D) (ci := 8) (v := .int (nI tn)) (C := RX9) (T := TX9) (N := 12) hx hb hts iX9 hown hC.1 hP 0 rfl rfl 7 (by decide) (hts (.fieldLink RX9 106 "ParrotCountsModel" "textLong" "I") (List.mem_of_getElem? (i := 1) rfl)) (fun _ h => h) rfl dX9_append_1 ?_
  refine lv_bipush (v := 60) hx hb dX9_append_4 (by decide) ?_
  refine lv_icmp_ne (tgt := 15) hx hb dX9_append_6 (by decide) (fun _ => ?_) (fun c_x => absurd c_x (fun e => absurd ((nI_eq (b := 60) (by omega) (by decide)).mp e) (by omega)))
  refine lv_aload_n hx hb dX9_append_15 rfl (lv_at hl 0 rfl) ?_
  refine lv_iconst (v := 0) hx hb dX9_append_16 (by decide) ?_
  refine va_put (D := D) (ci := 8) (v := .int 0) (ty := .int) (C := RX9) (T := TX9) (N := 12) hx hb hts iX9 tyX9 tyX9_ok nmX9 hown hC.1 hP hD hS 0 rfl rfl 3 (by decide) (hts (.fieldLink RX9 25 "ParrotCountsModel" "thrown" "I") (List.mem_of_getElem? (i := 2) rfl)) (fun _ h9 => h9) rfl (by decide +kernel) rfl rfl (Nat.le_of_ble_eq_true rfl) dX9_append_17 (fun H locs hP hD hS => ?_)
  have hP : va_P D vwCl [oMo mo ma mh (nI hn) 0 mk mz mt (nI tn) (nI ax) sc ti pp, aI T mt 60 tx] H := hP
  have hD : va_D A [oMo mo ma mh (nI hn) 0 mk mz mt (nI tn) (nI ax) sc ti pp, aI T mt 60 tx] := hD
  refine lv_aload_n hx hb dX9_append_20 rfl (lv_at hl 0 rfl) ?_
  refine va_get (D := D) (ci := 8) (v := .ref mt) (C := RX9) (T := TX9) (N := 12) hx hb hts iX9 hown hC.1 hP 0 rfl rfl 6 (by decide) (hts (.fieldLink RX9 22 "ParrotCountsModel" "text" "[I") (List.mem_of_getElem? (i := 3) rfl)) (fun _ h => h) rfl dX9_append_21 ?_
  refine lv_aload_n hx hb dX9_append_24 rfl (lv_at hl 0 rfl) ?_
  refine va_get (D := D) (ci := 8) (v := .int (nI tn)) (C := RX9) (T := TX9) (N := 12) hx hb hts iX9 hown hC.1 hP 0 rfl rfl 7 (by decide) (hts (.fieldLink RX9 106 "ParrotCountsModel" "textLong" "I") (List.mem_of_getElem? (i := 1) rfl)) (fun _ h => h) rfl dX9_append_25 ?_
  refine lv_iload_n hx hb dX9_append_28 rfl (lv_at hl 1 rfl) ?_
  refine k_iast hx hb hC.1 hP hD hS 1 0 rfl rfl (by omega) dX9_append_29 (fun H locs hP hD hS => ?_)
  have hP : va_P D vwCl [oMo mo ma mh (nI hn) 0 mk mz mt (nI tn) (nI ax) sc ti pp, aI T mt 60 (upd tx tn cx)] H := hP
  have hD : va_D A [oMo mo ma mh (nI hn) 0 mk mz mt (nI tn) (nI ax) sc ti pp, aI T mt 60 (upd tx tn cx)] := hD
  refine lv_aload_n hx hb dX9_append_30 rfl (lv_at hl 0 rfl) ?_
  refine lv_dup hx hb dX9_append_31 rfl ?_
  refine va_get (D := D) (ci := 8) (v := .int (nI tn)) (C := RX9) (T := TX9) (N := 12) hx hb hts iX9 hown hC.1 hP 0 rfl rfl 7 (by decide) (hts (.fieldLink RX9 106 "ParrotCountsModel" "textLong" "I") (List.mem_of_getElem? (i := 1) rfl)) (fun _ h => h) rfl dX9_append_32 ?_
  refine lv_iconst (v := 1) hx hb dX9_append_35 (by decide) ?_
  refine lv_iadd hx hb dX9_append_36 ?_
  refine W.eq (g2 := F0 m 37 ls (.int (nI (tn + 1)) :: [.ref mo])) (congrArg (fun z => F0 m 37 ls (.int z :: [.ref mo])) (nI_1 tn)) ?_
  refine va_put (D := D) (ci := 8) (v := .int (nI (tn + 1))) (ty := .int) (C := RX9) (T := TX9) (N := 12) hx hb hts iX9 tyX9 tyX9_ok nmX9 hown hC.1 hP hD hS 0 rfl rfl 7 (by decide) (hts (.fieldLink RX9 106 "ParrotCountsModel" "textLong" "I") (List.mem_of_getElem? (i := 1) rfl)) (fun _ h9 => h9) rfl (by decide +kernel) rfl rfl (Nat.le_of_ble_eq_true rfl) dX9_append_37 (fun H locs hP hD hS => ?_)
  have hP : va_P D vwCl [oMo mo ma mh (nI hn) 0 mk mz mt (nI (tn + 1)) (nI ax) sc ti pp, aI T mt 60 (upd tx tn cx)] H := hP
  have hD : va_D A [oMo mo ma mh (nI hn) 0 mk mz mt (nI (tn + 1)) (nI ax) sc ti pp, aI T mt 60 (upd tx tn cx)] := hD
  refine lv_aload_n hx hb dX9_append_40 rfl (lv_at hl 0 rfl) ?_
  refine va_get (D := D) (ci := 8) (v := .int (nI (tn + 1))) (C := RX9) (T := TX9) (N := 12) hx hb hts iX9 hown hC.1 hP 0 rfl rfl 7 (by decide) (hts (.fieldLink RX9 106 "ParrotCountsModel" "textLong" "I") (List.mem_of_getElem? (i := 1) rfl)) (fun _ h => h) rfl dX9_append_41 ?_
  exact hret _ _ _ _ _ (fun Qc free hq hf => W.iret hx hb hr hq hf dX9_append_44 hlk) hP hD hS
set_option maxHeartbeats 4000000 in
set_option maxRecDepth 100000 in
theorem c_X9_append_no (l : Launch) (D : va_G) (T : Nat → ClassId) (mo ma mh mk mz mt : Nat) (hn : Nat) (th : Int32) (tn ax : Nat) (sc ti pp : Int32) (tx : Nat → Int32) (cx : Int32) (htn : tn = 60) : kM l D T yX9_append wsX9_append rX9_append [.ref mo, .int cx] [oMo mo ma mh (nI hn) th mk mz mt (nI tn) (nI ax) sc ti pp, aI T mt 60 tx] (some (.int 0)) [oMo mo ma mh (nI hn) 1 mk mz mt (nI tn) (nI ax) sc ti pp, aI T mt 60 tx] := by
  refine kM.of (cc := cX9_append) (maxL := 2) (ret := some .int) (by decide) rfl (Nat.le_of_ble_eq_true rfl) ?_
  intro p e s m below meth c A Q ls hx hb hml hown hr hlk hts hC hP hD hS hA hl hret
  have iX9 : ∀ w ∈ wsX90, w ∈ wsX9_append := (fun _ h => List.mem_cons_of_mem _ (List.mem_append_right _ h))
  have hl : lv_has ls 2 [(0, .ref mo), (1, .int cx)] := hl
  have hP : va_P D vwCl [oMo mo ma mh (nI hn) th mk mz mt (nI tn) (nI ax) sc ti pp, aI T mt 60 tx] s.heap := hP
  have hD : va_D A [oMo mo ma mh (nI hn) th mk mz mt (nI tn) (nI ax) sc ti pp, aI T mt 60 tx] := hD
  refine lv_aload_n hx hb dX9_append_0 rfl (lv_at hl 0 rfl) ?_
  refine va_get (D := D) (ci := 8) (v := .int (nI tn)) (C := RX9) (T := TX9) (N := 12) hx hb hts iX9 hown hC.1 hP 0 rfl rfl 7 (by decide) (hts (.fieldLink RX9 106 "ParrotCountsModel" "textLong" "I") (List.mem_of_getElem? (i := 1) rfl)) (fun _ h => h) rfl dX9_append_1 ?_
  refine lv_bipush (v := 60) hx hb dX9_append_4 (by decide) ?_
  refine lv_icmp_ne (tgt := 15) hx hb dX9_append_6 (by decide) (fun c_x => absurd (by rw [htn]; decide) c_x) (fun _ => ?_)
  refine lv_aload_n hx hb dX9_append_9 rfl (lv_at hl 0 rfl) ?_
  refine lv_iconst (v := 1) hx hb dX9_append_10 (by decide) ?_
  have hP := hP.sub (ws' := [oMo mo ma mh (nI hn) th mk mz mt (nI tn) (nI ax) sc ti pp] ++ [aI T mt 60 tx]) [0, 1] rfl
  have hD := hD.sub (ws' := [oMo mo ma mh (nI hn) th mk mz mt (nI tn) (nI ax) sc ti pp] ++ [aI T mt 60 tx]) [0, 1] (by decide) rfl
  refine kV (ci := 8) (As := [.int 1]) (rest := []) ⟨hx, hb, hml, hown, hts⟩ (c_X9_fails l D T mo ma mh mk mz mt hn th tn ax sc ti pp 1 ) (cwV 1 hts gX9_append_X9_fails rfl rfl rfl (by decide +kernel) ⟨Nat.le_of_ble_eq_true rfl, Nat.le_of_ble_eq_true rfl⟩) hC hP hD hS hA rfl rfl rfl hl.1 rfl (Nat.le_of_ble_eq_true rfl) dX9_append_11 ⟨Nat.zero_le _, Nat.zero_le _⟩ (fun H locs hP hD hS => ?_)
  have hP : va_P D vwCl [oMo mo ma mh (nI hn) 1 mk mz mt (nI tn) (nI ax) sc ti pp, aI T mt 60 tx] H := hP
  have hD : va_D A [oMo mo ma mh (nI hn) 1 mk mz mt (nI tn) (nI ax) sc ti pp, aI T mt 60 tx] := hD
  refine W.eq (g2 := F0 m 14 ls [.int 0]) rfl ?_
  exact hret _ _ _ _ _ (fun Qc free hq hf => W.iret hx hb hr hq hf dX9_append_14 hlk) hP hD hS
