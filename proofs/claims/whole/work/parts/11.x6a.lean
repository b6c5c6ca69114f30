set_option maxHeartbeats 4000000 in
set_option maxRecDepth 100000 in
theorem c_X6_in (l : Launch) (D : va_G) (cI cZ : ClassId) (v : Int64) (x : Int64) (y : Int64)  : Met l yX6_in wsX6_in rmX6_in (va_Pc [.long v, .long x, .long y] (PR D cI cZ [])) (RI (fInL v x y)) 0 0 nA := by
  refine met_go (cc := cX6_in) (maxL := 6) (ret := (some .boolean)) (by decide) rfl ?_ (Nat.le_of_ble_eq_true rfl)
  intro p e s m a below meth c Q hQ _ hx hb hr hml hts hown hlk hnm hpre ls hl
  have hown : s.vm.findClass RX6 = some m.cls := hown
  obtain ⟨hP, hK⟩ := hpre
  have hN := hK.2
  have hS : va_S nA s.heap s.heap [] := va_S.rf
  have hl : lv_has ls 6 [(0, .long v), (2, .long x), (4, .long y)] := hl
  refine lv_lload_n hx hb dX6_in_0 rfl (lv_at hl 0 rfl) ?_
  refine lv_lload_n hx hb dX6_in_1 rfl (lv_at hl 1 rfl) ?_
  refine W.lcmp hx hb dX6_in_2 ?_
  refine lv_if_lt (tgt := 17) hx hb dX6_in_3 (by decide) (fun c1 => ?_) (fun c1 => ?_)
  · skip
    have c1 : v < x := (lg_cmp_lt v x).mp c1
    refine lv_iconst (v := 0) hx hb dX6_in_17 (by decide) ?_
    exact ret_RZ hQ hx hb hr rfl hlk hS (show fInL v x y = 0 from (by first | with_reducible rfl | (simp only [fInL, if_pos c1]; done) | (simp [fInL, if_pos c1]; done))).symm dX6_in_18
  · skip
    have c1 : ¬ (v < x) := fun h9 => c1 ((lg_cmp_lt v x).mpr h9)
    refine lv_lload_n hx hb dX6_in_6 rfl (lv_at hl 0 rfl) ?_
    refine lv_lload hx hb dX6_in_7 (lv_at hl 2 rfl) ?_
    refine W.lcmp hx hb dX6_in_9 ?_
    refine lv_if_gt (tgt := 17) hx hb dX6_in_10 (by decide) (fun c2 => ?_) (fun c2 => ?_)
    · skip
      have c2 : y < v := (lg_cmp_gt v y).mp c2
      refine lv_iconst (v := 0) hx hb dX6_in_17 (by decide) ?_
      exact ret_RZ hQ hx hb hr rfl hlk hS (show fInL v x y = 0 from (by first | with_reducible rfl | (simp only [fInL, if_neg c1, if_pos c2]; done) | (simp [fInL, if_neg c1, if_pos c2]; done))).symm dX6_in_18
    · skip
      have c2 : ¬ (y < v) := fun h9 => c2 ((lg_cmp_gt v y).mpr h9)
      refine lv_iconst (v := 1) hx hb dX6_in_13 (by decide) ?_
      refine lv_goto (tgt := 18) hx hb dX6_in_14 (by decide) ?_
      exact ret_RZ hQ hx hb hr rfl hlk hS (show fInL v x y = 1 from (by first | with_reducible rfl | (simp only [fInL, if_neg c1, if_neg c2]; done) | (simp [fInL, if_neg c1, if_neg c2]; done))).symm dX6_in_18

set_option maxHeartbeats 4000000 in
set_option maxRecDepth 100000 in
theorem c_X6_isSet (l : Launch) (D : va_G) (cI cZ : ClassId) (x : Int32)  : Met l yX6_isSet wsX6_isSet rmX6_isSet (va_Pc [.int x] (PR D cI cZ [])) (RI (fInL x.toInt64 0 63)) 0 0 nA := by
  refine met_go (cc := cX6_isSet) (maxL := 1) (ret := (some .boolean)) (by decide) rfl ?_ (Nat.le_of_ble_eq_true rfl)
  intro p e s m a below meth c Q hQ _ hx hb hr hml hts hown hlk hnm hpre ls hl
  have hown : s.vm.findClass RX6 = some m.cls := hown
  obtain ⟨hP, hK⟩ := hpre
  have hN := hK.2
  have hS : va_S nA s.heap s.heap [] := va_S.rf
  have hl : lv_has ls 1 [(0, .int x)] := hl
  refine lv_iload_n hx hb dX6_isSet_0 rfl (lv_at hl 0 rfl) ?_
  refine lv_i2l hx hb dX6_isSet_1 rfl ?_
  refine lv_lconst (v := 0) hx hb dX6_isSet_2 (by decide) ?_
  refine lv_ldc2 hx hb hown (hts (.constantLong RX6 133 (63)) (List.mem_of_getElem? (i := 1) rfl)) dX6_isSet_3 ?_
  refine rd_i (va_runS (As := [.long x.toInt64, .long 0, .long 63]) (rest := []) ⟨hx, hb, hml, hown, hts⟩ (c_X6_in l D cI cZ x.toInt64 0 63) (va_cwS 3 hts gX6_isSet_X6_in rfl rfl rfl hdV_X6_in.2 ⟨Nat.le_of_ble_eq_true rfl, Nat.le_of_ble_eq_true rfl⟩) (PR.S hP hK) rfl rfl hl.1 rfl (lv_room (Nat.le_of_ble_eq_true rfl)) dX6_isSet_6 ⟨Nat.le_of_ble_eq_true rfl, Nat.le_of_ble_eq_true rfl⟩) hP hS (fun H locs hP hS => ?_)
  exact ret_RZ hQ hx hb hr (nar_fInL _ _ _) hlk hS (show fInL x.toInt64 0 63 = fInL x.toInt64 0 63 from (by first | with_reducible rfl | (simp only []; done) | (simp []; done))).symm dX6_isSet_9

set_option maxHeartbeats 4000000 in
set_option maxRecDepth 100000 in
theorem c_X6_isLarge (l : Launch) (D : va_G) (cI cZ : ClassId) (v : Int64)  : Met l yX6_isLarge wsX6_isLarge rmX6_isLarge (va_Pc [.long v] (PR D cI cZ [])) (RI (fBig v)) 0 0 nA := by
  refine met_go (cc := cX6_isLarge) (maxL := 2) (ret := (some .boolean)) (by decide) rfl ?_ (Nat.le_of_ble_eq_true rfl)
  intro p e s m a below meth c Q hQ _ hx hb hr hml hts hown hlk hnm hpre ls hl
  have hown : s.vm.findClass RX6 = some m.cls := hown
  obtain ⟨hP, hK⟩ := hpre
  have hN := hK.2
  have hS : va_S nA s.heap s.heap [] := va_S.rf
  have hl : lv_has ls 2 [(0, .long v)] := hl
  refine lv_lload_n hx hb dX6_isLarge_0 rfl (lv_at hl 0 rfl) ?_
  refine lv_ldc2 hx hb hown (hts (.constantLong RX6 115 (1099511627776)) (List.mem_of_getElem? (i := 1) rfl)) dX6_isLarge_1 ?_
  refine W.lcmp hx hb dX6_isLarge_4 ?_
  refine lv_if_ge (tgt := 16) hx hb dX6_isLarge_5 (by decide) (fun c1 => ?_) (fun c1 => ?_)
  · skip
    have c1 : 1099511627776 ≤ v := (lg_cmp_ge v 1099511627776).mp c1
    refine lv_iconst (v := 1) hx hb dX6_isLarge_16 (by decide) ?_
    refine lv_goto (tgt := 21) hx hb dX6_isLarge_17 (by decide) ?_
    exact ret_RZ hQ hx hb hr rfl hlk hS (show fBig v = 1 from (by first | with_reducible rfl | (simp only [fBig, if_pos c1]; done) | (simp [fBig, if_pos c1]; done))).symm dX6_isLarge_21
  · skip
    have c1 : ¬ (1099511627776 ≤ v) := fun h9 => c1 ((lg_cmp_ge v 1099511627776).mpr h9)
    refine lv_lload_n hx hb dX6_isLarge_8 rfl (lv_at hl 0 rfl) ?_
    refine lv_ldc2 hx hb hown (hts (.constantLong RX6 117 (-1099511627776)) (List.mem_of_getElem? (i := 2) rfl)) dX6_isLarge_9 ?_
    refine W.lcmp hx hb dX6_isLarge_12 ?_
    refine lv_if_gt (tgt := 20) hx hb dX6_isLarge_13 (by decide) (fun c2 => ?_) (fun c2 => ?_)
    · skip
      have c2 : (-1099511627776) < v := (lg_cmp_gt v (-1099511627776)).mp c2
      refine lv_iconst (v := 0) hx hb dX6_isLarge_20 (by decide) ?_
      exact ret_RZ hQ hx hb hr rfl hlk hS (show fBig v = 0 from (by first | with_reducible rfl | (simp only [fBig, if_neg c1, if_pos c2]; done) | (simp [fBig, if_neg c1, if_pos c2]; done))).symm dX6_isLarge_21
    · skip
      have c2 : ¬ ((-1099511627776) < v) := fun h9 => c2 ((lg_cmp_gt v (-1099511627776)).mpr h9)
      refine lv_iconst (v := 1) hx hb dX6_isLarge_16 (by decide) ?_
      refine lv_goto (tgt := 21) hx hb dX6_isLarge_17 (by decide) ?_
      exact ret_RZ hQ hx hb hr rfl hlk hS (show fBig v = 1 from (by first | with_reducible rfl | (simp only [fBig, if_neg c1, if_neg c2]; done) | (simp [fBig, if_neg c1, if_neg c2]; done))).symm dX6_isLarge_21

set_option maxHeartbeats 4000000 in
set_option maxRecDepth 100000 in
theorem c_X6_unlike (l : Launch) (D : va_G) (cI cZ : ClassId) (x : Int32) (y : Int32) (z : Int32)  : Met l yX6_unlike wsX6_unlike rmX6_unlike (va_Pc [.int x, .int y, .int z] (PR D cI cZ [])) (RI (mUnlike x y z)) 0 0 nA := by
  refine met_go (cc := cX6_unlike) (maxL := 3) (ret := (some .int)) (by decide) rfl ?_ (Nat.le_of_ble_eq_true rfl)
  intro p e s m a below meth c Q hQ _ hx hb hr hml hts hown hlk hnm hpre ls hl
  have hown : s.vm.findClass RX6 = some m.cls := hown
  obtain ⟨hP, hK⟩ := hpre
  have hN := hK.2
  have hS : va_S nA s.heap s.heap [] := va_S.rf
  have hl : lv_has ls 3 [(0, .int x), (1, .int y), (2, .int z)] := hl
  refine lv_iload_n hx hb dX6_unlike_0 rfl (lv_at hl 0 rfl) ?_
  refine lv_if_eq (tgt := 20) hx hb dX6_unlike_1 (by decide) (fun c1 => ?_) (fun c1 => ?_)
  · skip
    refine lv_iload_n hx hb dX6_unlike_20 rfl (lv_at hl 0 rfl) ?_
    refine lv_if_ne (tgt := 28) hx hb dX6_unlike_21 (by decide) (fun c2 => ?_) (fun c2 => ?_)
    · skip
      refine lv_iconst (v := 1) hx hb dX6_unlike_28 (by decide) ?_
      refine lv_goto (tgt := 33) hx hb dX6_unlike_29 (by decide) ?_
      exact ret_RI hQ hx hb hr hlk hS (show mUnlike x y z = 1 from (by first | with_reducible rfl | contradiction | (simp only [mUnlike, if_pos c1, if_neg c2]; done) | (simp [mUnlike, if_pos c1, if_neg c2]; done))).symm dX6_unlike_33
    · skip
      refine lv_iload_n hx hb dX6_unlike_24 rfl (lv_at hl 1 rfl) ?_
      refine lv_if_eq (tgt := 32) hx hb dX6_unlike_25 (by decide) (fun c3 => ?_) (fun c3 => ?_)
      · skip
        refine lv_iconst (v := 0) hx hb dX6_unlike_32 (by decide) ?_
        exact ret_RI hQ hx hb hr hlk hS (show mUnlike x y z = 0 from (by first | with_reducible rfl | contradiction | (simp only [mUnlike, if_pos c1, if_pos c2, if_pos c3]; done) | (simp [mUnlike, if_pos c1, if_pos c2, if_pos c3]; done))).symm dX6_unlike_33
      · skip
        refine lv_iconst (v := 1) hx hb dX6_unlike_28 (by decide) ?_
        refine lv_goto (tgt := 33) hx hb dX6_unlike_29 (by decide) ?_
        exact ret_RI hQ hx hb hr hlk hS (show mUnlike x y z = 1 from (by first | with_reducible rfl | contradiction | (simp only [mUnlike, if_pos c1, if_pos c2, if_neg c3]; done) | (simp [mUnlike, if_pos c1, if_pos c2, if_neg c3]; done))).symm dX6_unlike_33
  · skip
    refine lv_iload_n hx hb dX6_unlike_4 rfl (lv_at hl 1 rfl) ?_
    refine lv_if_eq (tgt := 20) hx hb dX6_unlike_5 (by decide) (fun c4 => ?_) (fun c4 => ?_)
    · skip
      refine lv_iload_n hx hb dX6_unlike_20 rfl (lv_at hl 0 rfl) ?_
      refine lv_if_ne (tgt := 28) hx hb dX6_unlike_21 (by decide) (fun c5 => ?_) (fun c5 => ?_)
      · skip
        refine lv_iconst (v := 1) hx hb dX6_unlike_28 (by decide) ?_
        refine lv_goto (tgt := 33) hx hb dX6_unlike_29 (by decide) ?_
        exact ret_RI hQ hx hb hr hlk hS (show mUnlike x y z = 1 from (by first | with_reducible rfl | contradiction | (simp only [mUnlike, if_neg c1, if_pos c4, if_neg c5]; done) | (simp [mUnlike, if_neg c1, if_pos c4, if_neg c5]; done))).symm dX6_unlike_33
      · skip
        refine lv_iload_n hx hb dX6_unlike_24 rfl (lv_at hl 1 rfl) ?_
        refine lv_if_eq (tgt := 32) hx hb dX6_unlike_25 (by decide) (fun c6 => ?_) (fun c6 => ?_)
        · skip
          refine lv_iconst (v := 0) hx hb dX6_unlike_32 (by decide) ?_
          exact ret_RI hQ hx hb hr hlk hS (show mUnlike x y z = 0 from (by first | with_reducible rfl | contradiction | (simp only [mUnlike, if_neg c1, if_pos c4, if_pos c5, if_pos c6]; done) | (simp [mUnlike, if_neg c1, if_pos c4, if_pos c5, if_pos c6]; done))).symm dX6_unlike_33
        · skip
          refine lv_iconst (v := 1) hx hb dX6_unlike_28 (by decide) ?_
          refine lv_goto (tgt := 33) hx hb dX6_unlike_29 (by decide) ?_
          exact ret_RI hQ hx hb hr hlk hS (show mUnlike x y z = 1 from (by first | with_reducible rfl | contradiction | (simp only [mUnlike, if_neg c1, if_pos c4, if_pos c5, if_neg c6]; done) | (simp [mUnlike, if_neg c1, if_pos c4, if_pos c5, if_neg c6]; done))).symm dX6_unlike_33
    · skip
      refine lv_iload_n hx hb dX6_unlike_8 rfl (lv_at hl 2 rfl) ?_
      refine lv_if_eq (tgt := 16) hx hb dX6_unlike_9 (by decide) (fun c7 => ?_) (fun c7 => ?_)
      · skip
        refine lv_iconst (v := 1) hx hb dX6_unlike_16 (by decide) ?_
        refine lv_goto (tgt := 33) hx hb dX6_unlike_17 (by decide) ?_
        exact ret_RI hQ hx hb hr hlk hS (show mUnlike x y z = 1 from (by first | with_reducible rfl | contradiction | (simp only [mUnlike, if_neg c1, if_neg c4, if_pos c7]; done) | (simp [mUnlike, if_neg c1, if_neg c4, if_pos c7]; done))).symm dX6_unlike_33
      · skip
        refine lv_iconst (v := 0) hx hb dX6_unlike_12 (by decide) ?_
        refine lv_goto (tgt := 33) hx hb dX6_unlike_13 (by decide) ?_
        exact ret_RI hQ hx hb hr hlk hS (show mUnlike x y z = 0 from (by first | with_reducible rfl | contradiction | (simp only [mUnlike, if_neg c1, if_neg c4, if_neg c7]; done) | (simp [mUnlike, if_neg c1, if_neg c4, if_neg c7]; done))).symm dX6_unlike_33

set_option maxHeartbeats 4000000 in
set_option maxRecDepth 100000 in
theorem c_X6_sineOf (l : Launch) (D : va_G) (cI cZ : ClassId) (t : Int32)  : Met l yX6_sineOf wsX6_sineOf rmX6_sineOf (va_Pc [.int t] (PR D cI cZ [])) (RJ (mSine t)) 0 0 nA := by
  refine met_go (cc := cX6_sineOf) (maxL := 7) (ret := (some .long)) (by decide) rfl ?_ (Nat.le_of_ble_eq_true rfl)
  intro p e s m a below meth c Q hQ _ hx hb hr hml hts hown hlk hnm hpre ls hl
  have hown : s.vm.findClass RX6 = some m.cls := hown
  obtain ⟨hP, hK⟩ := hpre
  have hN := hK.2
  have hS : va_S nA s.heap s.heap [] := va_S.rf
  have hl : lv_has ls 7 [(0, .int t)] := hl
  refine lv_iload_n hx hb dX6_sineOf_0 rfl (lv_at hl 0 rfl) ?_
  refine lv_ldc hx hb hown (hts (.constant RX6 102 (32768)) (List.mem_of_getElem? (i := 1) rfl)) dX6_sineOf_1 ?_
  refine lv_irem hx hb dX6_sineOf_3 (by decide) ?_
  refine lv_i2l hx hb dX6_sineOf_4 rfl ?_
  refine lv_eqj (y := mSX t) rfl ?_
  refine lv_lstore_n (lv' := [(1, .long (mSX t)), (0, .int t)]) hx hb dX6_sineOf_5 rfl hl (by decide) rfl (fun ls hl => ?_)
  refine lv_lload_n hx hb dX6_sineOf_6 rfl (lv_at hl 0 rfl) ?_
  refine lv_ldc2 hx hb hown (hts (.constantLong RX6 103 (32768)) (List.mem_of_getElem? (i := 2) rfl)) dX6_sineOf_7 ?_
  refine lv_lload_n hx hb dX6_sineOf_10 rfl (lv_at hl 0 rfl) ?_
  refine lv_lsub hx hb dX6_sineOf_11 ?_
  refine lv_lmul hx hb dX6_sineOf_12 ?_
  refine lv_eqj (y := mSP t) rfl ?_
  refine lv_lstore_n (lv' := [(3, .long (mSP t)), (1, .long (mSX t)), (0, .int t)]) hx hb dX6_sineOf_13 rfl hl (by decide) rfl (fun ls hl => ?_)
  refine lv_ldc2 hx hb hown (hts (.constantLong RX6 105 (131068)) (List.mem_of_getElem? (i := 3) rfl)) dX6_sineOf_14 ?_
  refine lv_lload_n hx hb dX6_sineOf_17 rfl (lv_at hl 0 rfl) ?_
  refine lv_lmul hx hb dX6_sineOf_18 ?_
  refine lv_ldc2 hx hb hown (hts (.constantLong RX6 107 (1342177280)) (List.mem_of_getElem? (i := 4) rfl)) dX6_sineOf_19 ?_
  refine lv_lload_n hx hb dX6_sineOf_22 rfl (lv_at hl 0 rfl) ?_
  refine lv_lsub hx hb dX6_sineOf_23 ?_
  refine lv_ldiv hx hb dX6_sineOf_24 (mS_ne t) ?_
  refine lv_eqj (y := mSV t) rfl ?_
  refine lv_lstore (lv' := [(5, .long (mSV t)), (3, .long (mSP t)), (1, .long (mSX t)), (0, .int t)]) hx hb dX6_sineOf_25 hl (by decide) rfl (fun ls hl => ?_)
  refine lv_iload_n hx hb dX6_sineOf_27 rfl (lv_at hl 3 rfl) ?_
  refine lv_ldc hx hb hown (hts (.constant RX6 102 (32768)) (List.mem_of_getElem? (i := 1) rfl)) dX6_sineOf_28 ?_
  refine lv_icmp_ge (tgt := 38) hx hb dX6_sineOf_30 (by decide) (fun c1 => ?_) (fun c1 => ?_)
  · skip
    refine lv_lload hx hb dX6_sineOf_38 (lv_at hl 0 rfl) ?_
    refine lv_lneg hx hb dX6_sineOf_40 ?_
    exact ret_RJ hQ hx hb hr hlk hS (show mSine t = -(mSV t) from (by first | with_reducible rfl | (simp only [mSine, if_pos c1]; done) | (simp [mSine, if_pos c1]; done))).symm dX6_sineOf_41
  · skip
    refine lv_lload hx hb dX6_sineOf_33 (lv_at hl 0 rfl) ?_
    refine lv_goto (tgt := 41) hx hb dX6_sineOf_35 (by decide) ?_
    exact ret_RJ hQ hx hb hr hlk hS (show mSine t = mSV t from (by first | with_reducible rfl | (simp only [mSine, if_neg c1]; done) | (simp [mSine, if_neg c1]; done))).symm dX6_sineOf_41

set_option maxHeartbeats 4000000 in
set_option maxRecDepth 100000 in
theorem c_X6_isHole (l : Launch) (D : va_G) (cI cZ : ClassId) (mm : Nat) (m1 : Nat) (m2 : Nat) (m3 : Nat) (m4 : Nat) (m5 : Nat) (m6 : Nat) (m7 : Nat) (m8 : Nat) (m9 : Nat) (np : Nat) (nh : Nat) (nn : Nat) (re : Int32) (ro : Int32) (tm : Int32) (x : Int32)  : Met l yX6_isHole wsX6_isHole rmX6_isHole (va_Pc [.ref mm, .int x] (PR D cI cZ [(mm, .inr (6, [.int (nI np), .ref m1, .ref m2, .int (nI nh), .ref m3, .ref m4, .int (nI nn), .ref m5, .ref m6, .ref m7, .ref m8, .int re, .int ro, .ref m9, .int tm]))])) (RI (fInL x.toInt64 0 (nI nh - 1).toInt64)) 0 0 nA := by
  refine met_go (cc := cX6_isHole) (maxL := 2) (ret := (some .boolean)) (by decide) rfl ?_ (Nat.le_of_ble_eq_true rfl)
  intro p e s m a below meth c Q hQ _ hx hb hr hml hts hown hlk hnm hpre ls hl
  have hown : s.vm.findClass RX6 = some m.cls := hown
  obtain ⟨hP, hK⟩ := hpre
  have hN := hK.2
  have hS : va_S nA s.heap s.heap [] := va_S.rf
  have hl : lv_has ls 2 [(0, .ref mm), (1, .int x)] := hl
  have k6 : ∀ w ∈ wsX60, w ∈ wsX6_isHole := fun w h => List.mem_cons_of_mem _ (List.mem_append_right _ h)
  refine lv_iload_n hx hb dX6_isHole_0 rfl (lv_at hl 1 rfl) ?_
  refine lv_i2l hx hb dX6_isHole_1 rfl ?_
  refine lv_lconst (v := 0) hx hb dX6_isHole_2 (by decide) ?_
  refine lv_aload_n hx hb dX6_isHole_3 rfl (lv_at hl 0 rfl) ?_
  refine va_get (D := D) (ci := 6) (v := .int (nI nh)) (C := RX6) (T := TX6) (N := 15) hx hb hts k6 hown hK.1 hP 0 rfl rfl 3 (by decide) (hts (.fieldLink RX6 67 "BoredPipesModel" "holes" "I") (List.mem_of_getElem? (i := 1) rfl)) (fun _ h9 => h9) rfl dX6_isHole_4 ?_
  refine lv_iconst (v := 1) hx hb dX6_isHole_7 (by decide) ?_
  refine lv_isub hx hb dX6_isHole_8 ?_
  refine lv_i2l hx hb dX6_isHole_9 rfl ?_
  refine rd_i (va_runS (As := [.long x.toInt64, .long 0, .long (((nI nh) - 1).toInt64)]) (rest := []) ⟨hx, hb, hml, hown, hts⟩ (c_X6_in l D cI cZ x.toInt64 0 (((nI nh) - 1).toInt64)) (va_cwS 3 hts gX6_isHole_X6_in rfl rfl rfl hdV_X6_in.2 ⟨Nat.le_of_ble_eq_true rfl, Nat.le_of_ble_eq_true rfl⟩) (PR.S (hP.sub [] rfl) hK) rfl rfl hl.1 rfl (lv_room (Nat.le_of_ble_eq_true rfl)) dX6_isHole_10 ⟨Nat.le_of_ble_eq_true rfl, Nat.le_of_ble_eq_true rfl⟩) hP hS (fun H locs hP hS => ?_)
  exact ret_RZ hQ hx hb hr (nar_fInL _ _ _) hlk hS (show fInL x.toInt64 0 (nI nh - 1).toInt64 = fInL x.toInt64 0 (((nI nh) - 1).toInt64) from (by first | with_reducible rfl | (simp only []; done) | (simp []; done))).symm dX6_isHole_13

set_option maxHeartbeats 4000000 in
set_option maxRecDepth 100000 in
theorem c_X6_whole (l : Launch) (D : va_G) (cI cZ : ClassId) (mm : Nat) (m1 : Nat) (m2 : Nat) (m3 : Nat) (m4 : Nat) (m5 : Nat) (m6 : Nat) (m7 : Nat) (m8 : Nat) (m9 : Nat) (np : Nat) (nh : Nat) (nn : Nat) (re : Int32) (ro : Int32) (tm : Int32) (ln : Nat → Int32) (hnp : np ≤ 12) : Met l yX6_whole wsX6_whole rmX6_whole (va_Pc [.ref mm] (PR D cI cZ [(mm, .inr (6, [.int (nI np), .ref m1, .ref m2, .int (nI nh), .ref m3, .ref m4, .int (nI nn), .ref m5, .ref m6, .ref m7, .ref m8, .int re, .int ro, .ref m9, .int tm])), (m1, .inl (cI, 12, .inl ln))])) (RI (fSum ln np 0 0)) 0 0 nA := by
  refine met_go (cc := cX6_whole) (maxL := 3) (ret := (some .int)) (by decide) rfl ?_ (Nat.le_of_ble_eq_true rfl)
  intro p e s m a below meth c Q hQ _ hx hb hr hml hts hown hlk hnm hpre ls hl
  have hown : s.vm.findClass RX6 = some m.cls := hown
  obtain ⟨hP, hK⟩ := hpre
  have hN := hK.2
  have hS : va_S nA s.heap s.heap [] := va_S.rf
  have hl : lv_has ls 3 [(0, .ref mm)] := hl
  have k6 : ∀ w ∈ wsX60, w ∈ wsX6_whole := fun w h => List.mem_cons_of_mem _ (List.mem_append_right _ h)
  refine lv_iconst (v := 0) hx hb dX6_whole_0 (by decide) ?_
  refine lv_istore_n (lv' := [(1, .int 0), (0, .ref mm)]) hx hb dX6_whole_1 rfl hl (by decide) rfl (fun ls hl => ?_)
  refine lv_iconst (v := 0) hx hb dX6_whole_2 (by decide) ?_
  refine lv_istore_n (lv' := [(2, .int 0), (1, .int 0), (0, .ref mm)]) hx hb dX6_whole_3 rfl hl (by decide) rfl (fun ls hl => ?_)
  have lp_4 : ∀ (r : Nat) (i : Nat) (z : Int32), (i + r = np) → (fSum ln np 0 0 = fSum ln r i z) → ∀ (H : Heap) (locs : List Loc), va_P D vwCl [(mm, .inr (6, [.int (nI np), .ref m1, .ref m2, .int (nI nh), .ref m3, .ref m4, .int (nI nn), .ref m5, .ref m6, .ref m7, .ref m8, .int re, .int ro, .ref m9, .int tm])), (m1, .inl (cI, 12, .inl ln))] H → va_S nA s.heap H locs → ∀ (ls : Array Slot), lv_has ls 3 [(2, .int (nI i)), (1, .int z), (0, .ref mm)] → W p l e rmX6_whole s m a below meth c H locs 0 0 Q (F0 m 4 ls []) := by
    intro r
    induction r with
    | zero =>
      intro i z hi hF H locs hP hS ls hl
      refine lv_iload_n hx hb dX6_whole_4 rfl (lv_at hl 0 rfl) ?_
      refine lv_aload_n hx hb dX6_whole_5 rfl (lv_at hl 2 rfl) ?_
      refine va_get (D := D) (ci := 6) (v := .int (nI np)) (C := RX6) (T := TX6) (N := 15) hx hb hts k6 hown hK.1 hP 0 rfl rfl 0 (by decide) (hts (.fieldLink RX6 42 "BoredPipesModel" "pieces" "I") (List.mem_of_getElem? (i := 1) rfl)) (fun _ h9 => h9) rfl dX6_whole_6 ?_
      refine lv_icmp_ge (tgt := 27) hx hb dX6_whole_9 (by decide) (fun c1 => ?_) (fun c1 => absurd ((nI_le (a := np) (b := i) (by omega) (by omega))) c1)
      refine lv_iload_n hx hb dX6_whole_27 rfl (lv_at hl 1 rfl) ?_
      exact ret_RI hQ hx hb hr hlk hS (hF.trans (by first | with_reducible rfl | (simp only [fSum, if_pos c1]; done) | (simp [fSum, if_pos c1]; done))).symm dX6_whole_28
    | succ r ih_4 =>
      intro i z hi hF H locs hP hS ls hl
      refine lv_iload_n hx hb dX6_whole_4 rfl (lv_at hl 0 rfl) ?_
      refine lv_aload_n hx hb dX6_whole_5 rfl (lv_at hl 2 rfl) ?_
      refine va_get (D := D) (ci := 6) (v := .int (nI np)) (C := RX6) (T := TX6) (N := 15) hx hb hts k6 hown hK.1 hP 0 rfl rfl 0 (by decide) (hts (.fieldLink RX6 42 "BoredPipesModel" "pieces" "I") (List.mem_of_getElem? (i := 1) rfl)) (fun _ h9 => h9) rfl dX6_whole_6 ?_
      refine lv_icmp_ge (tgt := 27) hx hb dX6_whole_9 (by decide) (fun c2 => absurd c2 ((nI_ge (a := i) (b := np) (by omega) (by omega)))) (fun c2 => ?_)
      refine lv_iload_n hx hb dX6_whole_12 rfl (lv_at hl 1 rfl) ?_
      refine lv_aload_n hx hb dX6_whole_13 rfl (lv_at hl 2 rfl) ?_
      refine va_get (D := D) (ci := 6) (v := .ref m1) (C := RX6) (T := TX6) (N := 15) hx hb hts k6 hown hK.1 hP 0 rfl rfl 1 (by decide) (hts (.fieldLink RX6 7 "BoredPipesModel" "lengths" "[I") (List.mem_of_getElem? (i := 2) rfl)) (fun _ h9 => h9) rfl dX6_whole_14 ?_
      refine lv_iload_n hx hb dX6_whole_17 rfl (lv_at hl 0 rfl) ?_
      refine iald_n (k := i) hx hb hK.1 hP 1 rfl (by omega) (by decide) dX6_whole_18 ?_
      refine lv_iadd hx hb dX6_whole_19 ?_
      refine lv_istore_n (lv' := [(1, .int (z + (ln i))), (2, .int (nI i)), (0, .ref mm)]) hx hb dX6_whole_20 rfl hl (by decide) rfl (fun ls hl => ?_)
      refine lv_iinc (v := nI (i + 1)) (lv' := [(2, .int (nI (i + 1))), (1, .int (z + (ln i))), (0, .ref mm)]) hx hb dX6_whole_21 hl (k := 1) rfl (iinc_1 i) (by decide) rfl (fun ls hl => ?_)
      refine lv_goto (tgt := 4) hx hb dX6_whole_24 (by decide) ?_
      exact ih_4 (i + 1) (z + (ln i)) (by omega) (hF.trans (by first | with_reducible rfl | (simp only [fSum, if_neg c2]; done) | (simp [fSum, if_neg c2]; done))) _ _ hP hS ls (lv_sub hl [0, 1, 2] rfl)
  exact lp_4 np 0 0 (by omega) rfl _ _ hP hS ls (lv_sub hl [0, 1, 2] rfl)

set_option maxHeartbeats 4000000 in
set_option maxRecDepth 100000 in
theorem c_X6_fits (l : Launch) (D : va_G) (cI cZ : ClassId) (mm : Nat) (m1 : Nat) (m2 : Nat) (m3 : Nat) (m4 : Nat) (m5 : Nat) (m6 : Nat) (m7 : Nat) (m8 : Nat) (m9 : Nat) (np : Nat) (nh : Nat) (nn : Nat) (re : Int32) (ro : Int32) (tm : Int32) (ln : Nat → Int32) (x : Int32) (v : Int32) (hnp : np ≤ 12) : Met l yX6_fits wsX6_fits rmX6_fits (va_Pc [.ref mm, .int x, .int v] (PR D cI cZ [(mm, .inr (6, [.int (nI np), .ref m1, .ref m2, .int (nI nh), .ref m3, .ref m4, .int (nI nn), .ref m5, .ref m6, .ref m7, .ref m8, .int re, .int ro, .ref m9, .int tm])), (m1, .inl (cI, 12, .inl ln))])) (RI (mFits x v (fSum ln np 0 0))) 0 0 nA := by
  refine met_go (cc := cX6_fits) (maxL := 3) (ret := (some .boolean)) (by decide) rfl ?_ (Nat.le_of_ble_eq_true rfl)
  intro p e s m a below meth c Q hQ _ hx hb hr hml hts hown hlk hnm hpre ls hl
  have hown : s.vm.findClass RX6 = some m.cls := hown
  obtain ⟨hP, hK⟩ := hpre
  have hN := hK.2
  have hS : va_S nA s.heap s.heap [] := va_S.rf
  have hl : lv_has ls 3 [(0, .ref mm), (1, .int x), (2, .int v)] := hl
  refine lv_iload_n hx hb dX6_fits_0 rfl (lv_at hl 1 rfl) ?_
  refine lv_if_ne (tgt := 20) hx hb dX6_fits_1 (by decide) (fun c1 => ?_) (fun c1 => ?_)
  · skip
    refine lv_iload_n hx hb dX6_fits_20 rfl (lv_at hl 2 rfl) ?_
    refine lv_i2l hx hb dX6_fits_21 rfl ?_
    refine lv_iload_n hx hb dX6_fits_22 rfl (lv_at hl 1 rfl) ?_
    refine lv_iconst (v := 1) hx hb dX6_fits_23 (by decide) ?_
    have jn_24 : ∀ (H : Heap) (locs : List Loc), va_P D vwCl [(mm, .inr (6, [.int (nI np), .ref m1, .ref m2, .int (nI nh), .ref m3, .ref m4, .int (nI nn), .ref m5, .ref m6, .ref m7, .ref m8, .int re, .int ro, .ref m9, .int tm])), (m1, .inl (cI, 12, .inl ln))] H → va_S nA s.heap H locs → W p l e rmX6_fits s m a below meth c H locs 0 0 Q (F0 m 32 ls [.long (if x = 1 then 1 else 0), .long v.toInt64]) := by
      intro H locs hP hS
      refine lv_ldc2 hx hb hown (hts (.constantLong RX6 65 (60)) (List.mem_of_getElem? (i := 1) rfl)) dX6_fits_32 ?_
      refine rd_i (va_runS (As := [.long v.toInt64, .long (if x = 1 then 1 else 0), .long 60]) (rest := []) ⟨hx, hb, hml, hown, hts⟩ (c_X6_in l D cI cZ v.toInt64 (if x = 1 then 1 else 0) 60) (va_cwS 3 hts gX6_fits_X6_in rfl rfl rfl hdV_X6_in.2 ⟨Nat.le_of_ble_eq_true rfl, Nat.le_of_ble_eq_true rfl⟩) (PR.S (hP.sub [] rfl) hK) rfl rfl hl.1 rfl (lv_room (Nat.le_of_ble_eq_true rfl)) dX6_fits_35 ⟨Nat.le_of_ble_eq_true rfl, Nat.le_of_ble_eq_true rfl⟩) hP hS (fun H locs hP hS => ?_)
      exact ret_RZ hQ hx hb hr (nar_fInL _ _ _) hlk hS (show mFits x v (fSum ln np 0 0) = fInL v.toInt64 (if x = 1 then 1 else 0) 60 from (by first | with_reducible rfl | (simp only [mFits, if_neg c1]; done) | (simp [mFits, if_neg c1]; done))).symm dX6_fits_38
    refine lv_icmp_ne (tgt := 31) hx hb dX6_fits_24 (by decide) (fun c2 => ?_) (fun c2 => ?_)
    · skip
      refine lv_lconst (v := 0) hx hb dX6_fits_31 (by decide) ?_
      exact lv_eqj (if_neg c2).symm (jn_24 _ _ hP hS)
    · skip
      refine lv_lconst (v := 1) hx hb dX6_fits_27 (by decide) ?_
      refine lv_goto (tgt := 32) hx hb dX6_fits_28 (by decide) ?_
      exact lv_eqj (if_pos c2).symm (jn_24 _ _ hP hS)
  · skip
    refine lv_iload_n hx hb dX6_fits_4 rfl (lv_at hl 2 rfl) ?_
    refine lv_i2l hx hb dX6_fits_5 rfl ?_
    refine lv_lconst (v := 1) hx hb dX6_fits_6 (by decide) ?_
    refine lv_aload_n hx hb dX6_fits_7 rfl (lv_at hl 0 rfl) ?_
    refine rd_i (va_runV (As := []) (rest := [.long 1, .long v.toInt64]) ⟨hx, hb, hml, hown, hts⟩ (c_X6_whole l D cI cZ mm m1 m2 m3 m4 m5 m6 m7 m8 m9 np nh nn re ro tm ln (by first | omega | exact hnp)) (cwV 0 hts gX6_fits_X6_whole rfl rfl rfl hdV_X6_whole ⟨Nat.le_of_ble_eq_true rfl, Nat.le_of_ble_eq_true rfl⟩) (PR.V hP hK hP (q0 := 0) rfl rfl) rfl rfl hl.1 rfl (lv_room (Nat.le_of_ble_eq_true rfl)) dX6_fits_8 ⟨Nat.le_of_ble_eq_true rfl, Nat.le_of_ble_eq_true rfl⟩) hP hS (fun H locs hP hS => ?_)
    refine lv_iconst (v := 1) hx hb dX6_fits_11 (by decide) ?_
    refine lv_isub hx hb dX6_fits_12 ?_
    refine lv_i2l hx hb dX6_fits_13 rfl ?_
    refine rd_i (va_runS (As := [.long v.toInt64, .long 1, .long (((fSum ln np 0 0) - 1).toInt64)]) (rest := []) ⟨hx, hb, hml, hown, hts⟩ (c_X6_in l D cI cZ v.toInt64 1 (((fSum ln np 0 0) - 1).toInt64)) (va_cwS 3 hts gX6_fits_X6_in rfl rfl rfl hdV_X6_in.2 ⟨Nat.le_of_ble_eq_true rfl, Nat.le_of_ble_eq_true rfl⟩) (PR.S (hP.sub [] rfl) hK) rfl rfl hl.1 rfl (lv_room (Nat.le_of_ble_eq_true rfl)) dX6_fits_14 ⟨Nat.le_of_ble_eq_true rfl, Nat.le_of_ble_eq_true rfl⟩) hP hS (fun H locs hP hS => ?_)
    refine lv_goto (tgt := 38) hx hb dX6_fits_17 (by decide) ?_
    exact ret_RZ hQ hx hb hr (nar_fInL _ _ _) hlk hS (show mFits x v (fSum ln np 0 0) = fInL v.toInt64 1 (((fSum ln np 0 0) - 1).toInt64) from (by first | with_reducible rfl | (simp only [mFits, if_pos c1]; done) | (simp [mFits, if_pos c1]; done))).symm dX6_fits_38

set_option maxHeartbeats 4000000 in
set_option maxRecDepth 100000 in
theorem c_X6_pieceOf (l : Launch) (D : va_G) (cI cZ : ClassId) (mm : Nat) (m1 : Nat) (m2 : Nat) (m3 : Nat) (m4 : Nat) (m5 : Nat) (m6 : Nat) (m7 : Nat) (m8 : Nat) (m9 : Nat) (np : Nat) (nh : Nat) (nn : Nat) (re : Int32) (ro : Int32) (tm : Int32) (ln : Nat → Int32) (v : Int32) (hnp : np ≤ 12) (hn1 : 1 ≤ np) (hv : v ≤ fSum ln np 0 0) : Met l yX6_pieceOf wsX6_pieceOf rmX6_pieceOf (va_Pc [.ref mm, .int v] (PR D cI cZ [(mm, .inr (6, [.int (nI np), .ref m1, .ref m2, .int (nI nh), .ref m3, .ref m4, .int (nI nn), .ref m5, .ref m6, .ref m7, .ref m8, .int re, .int ro, .ref m9, .int tm])), (m1, .inl (cI, 12, .inl ln))])) (RI (mPieceOf ln v (np - 1) 0 (ln 0))) 0 0 nA := by
  refine met_go (cc := cX6_pieceOf) (maxL := 4) (ret := (some .int)) (by decide) rfl ?_ (Nat.le_of_ble_eq_true rfl)
  intro p e s m a below meth c Q hQ _ hx hb hr hml hts hown hlk hnm hpre ls hl
  have hown : s.vm.findClass RX6 = some m.cls := hown
  obtain ⟨hP, hK⟩ := hpre
  have hN := hK.2
  have hS : va_S nA s.heap s.heap [] := va_S.rf
  have hl : lv_has ls 4 [(0, .ref mm), (1, .int v)] := hl
  have k6 : ∀ w ∈ wsX60, w ∈ wsX6_pieceOf := fun w h => List.mem_cons_of_mem _ (List.mem_append_right _ h)
  refine lv_iconst (v := 0) hx hb dX6_pieceOf_0 (by decide) ?_
  refine lv_istore_n (lv' := [(2, .int 0), (0, .ref mm), (1, .int v)]) hx hb dX6_pieceOf_1 rfl hl (by decide) rfl (fun ls hl => ?_)
  refine lv_aload_n hx hb dX6_pieceOf_2 rfl (lv_at hl 1 rfl) ?_
  refine va_get (D := D) (ci := 6) (v := .ref m1) (C := RX6) (T := TX6) (N := 15) hx hb hts k6 hown hK.1 hP 0 rfl rfl 1 (by decide) (hts (.fieldLink RX6 7 "BoredPipesModel" "lengths" "[I") (List.mem_of_getElem? (i := 1) rfl)) (fun _ h9 => h9) rfl dX6_pieceOf_3 ?_
  refine lv_iconst (v := 0) hx hb dX6_pieceOf_6 (by decide) ?_
  refine iald_n (k := 0) hx hb hK.1 hP 1 rfl (by omega) (by decide) dX6_pieceOf_7 ?_
  refine lv_istore_n (lv' := [(3, .int (ln 0)), (2, .int 0), (0, .ref mm), (1, .int v)]) hx hb dX6_pieceOf_8 rfl hl (by decide) rfl (fun ls hl => ?_)
  have lp_9 : ∀ (r : Nat) (i : Nat) (z : Int32), (i + r = np - 1) → (z = fSum ln (i + 1) 0 0) → (mPieceOf ln v (np - 1) 0 (ln 0) = mPieceOf ln v r i z) → ∀ (H : Heap) (locs : List Loc), va_P D vwCl [(mm, .inr (6, [.int (nI np), .ref m1, .ref m2, .int (nI nh), .ref m3, .ref m4, .int (nI nn), .ref m5, .ref m6, .ref m7, .ref m8, .int re, .int ro, .ref m9, .int tm])), (m1, .inl (cI, 12, .inl ln))] H → va_S nA s.heap H locs → ∀ (ls : Array Slot), lv_has ls 4 [(3, .int z), (2, .int (nI i)), (0, .ref mm), (1, .int v)] → W p l e rmX6_pieceOf s m a below meth c H locs 0 0 Q (F0 m 9 ls []) := by
    intro r
    induction r with
    | zero =>
      intro i z hi hz hF H locs hP hS ls hl
      refine lv_iload_n hx hb dX6_pieceOf_9 rfl (lv_at hl 3 rfl) ?_
      refine lv_iload_n hx hb dX6_pieceOf_10 rfl (lv_at hl 0 rfl) ?_
      refine lv_icmp_le (tgt := 29) hx hb dX6_pieceOf_11 (by decide) (fun c1 => ?_) (fun c1 => absurd ((by rw [hz, show i + 1 = np from by omega]; exact hv)) c1)
      refine lv_iload_n hx hb dX6_pieceOf_29 rfl (lv_at hl 1 rfl) ?_
      exact ret_RI hQ hx hb hr hlk hS (hF.trans (by first | with_reducible rfl | (simp only [mPieceOf, if_pos c1]; done) | (simp [mPieceOf, if_pos c1]; done))).symm dX6_pieceOf_30
    | succ r ih_9 =>
      intro i z hi hz hF H locs hP hS ls hl
      refine lv_iload_n hx hb dX6_pieceOf_9 rfl (lv_at hl 3 rfl) ?_
      refine lv_iload_n hx hb dX6_pieceOf_10 rfl (lv_at hl 0 rfl) ?_
      refine lv_icmp_le (tgt := 29) hx hb dX6_pieceOf_11 (by decide) (fun c2 => ?_) (fun c2 => ?_)
      · skip
        refine lv_iload_n hx hb dX6_pieceOf_29 rfl (lv_at hl 1 rfl) ?_
        exact ret_RI hQ hx hb hr hlk hS (hF.trans (by first | with_reducible rfl | (simp only [mPieceOf, if_pos c2]; done) | (simp [mPieceOf, if_pos c2]; done))).symm dX6_pieceOf_30
      · skip
        refine lv_iinc (v := nI (i + 1)) (lv' := [(2, .int (nI (i + 1))), (3, .int z), (0, .ref mm), (1, .int v)]) hx hb dX6_pieceOf_14 hl (k := 1) rfl (iinc_1 i) (by decide) rfl (fun ls hl => ?_)
        refine lv_iload_n hx hb dX6_pieceOf_17 rfl (lv_at hl 1 rfl) ?_
        refine lv_aload_n hx hb dX6_pieceOf_18 rfl (lv_at hl 2 rfl) ?_
        refine va_get (D := D) (ci := 6) (v := .ref m1) (C := RX6) (T := TX6) (N := 15) hx hb hts k6 hown hK.1 hP 0 rfl rfl 1 (by decide) (hts (.fieldLink RX6 7 "BoredPipesModel" "lengths" "[I") (List.mem_of_getElem? (i := 1) rfl)) (fun _ h9 => h9) rfl dX6_pieceOf_19 ?_
        refine lv_iload_n hx hb dX6_pieceOf_22 rfl (lv_at hl 0 rfl) ?_
        refine iald_n (k := (i + 1)) hx hb hK.1 hP 1 rfl (by omega) (by decide) dX6_pieceOf_23 ?_
        refine lv_iadd hx hb dX6_pieceOf_24 ?_
        refine lv_istore_n (lv' := [(3, .int (z + (ln (i + 1)))), (2, .int (nI (i + 1))), (0, .ref mm), (1, .int v)]) hx hb dX6_pieceOf_25 rfl hl (by decide) rfl (fun ls hl => ?_)
        refine lv_goto (tgt := 9) hx hb dX6_pieceOf_26 (by decide) ?_
        exact ih_9 (i + 1) (z + (ln (i + 1))) (by omega) (by rw [fSum_last, hz]) (hF.trans (by first | with_reducible rfl | (simp only [mPieceOf, if_neg c2]; done) | (simp [mPieceOf, if_neg c2]; done))) _ _ hP hS ls (lv_sub hl [0, 1, 2, 3] rfl)
  exact lp_9 (np - 1) 0 (ln 0) (by omega) ((fSum_one ln).symm) rfl _ _ hP hS ls (lv_sub hl [0, 1, 2, 3] rfl)

set_option maxHeartbeats 4000000 in
set_option maxRecDepth 100000 in
theorem c_X6_holeAt (l : Launch) (D : va_G) (cI cZ : ClassId) (mm : Nat) (m1 : Nat) (m2 : Nat) (m3 : Nat) (m4 : Nat) (m5 : Nat) (m6 : Nat) (m7 : Nat) (m8 : Nat) (m9 : Nat) (np : Nat) (nh : Nat) (nn : Nat) (re : Int32) (ro : Int32) (tm : Int32) (bd : Nat → Int32) (v : Int32) (hnh : nh ≤ 6) : Met l yX6_holeAt wsX6_holeAt rmX6_holeAt (va_Pc [.ref mm, .int v] (PR D cI cZ [(mm, .inr (6, [.int (nI np), .ref m1, .ref m2, .int (nI nh), .ref m3, .ref m4, .int (nI nn), .ref m5, .ref m6, .ref m7, .ref m8, .int re, .int ro, .ref m9, .int tm])), (m3, .inl (cI, 18, .inl bd))])) (RI (mHoleAt bd v nh 0 (-1))) 0 0 nA := by
  refine met_go (cc := cX6_holeAt) (maxL := 4) (ret := (some .int)) (by decide) rfl ?_ (Nat.le_of_ble_eq_true rfl)
  intro p e s m a below meth c Q hQ _ hx hb hr hml hts hown hlk hnm hpre ls hl
  have hown : s.vm.findClass RX6 = some m.cls := hown
  obtain ⟨hP, hK⟩ := hpre
  have hN := hK.2
  have hS : va_S nA s.heap s.heap [] := va_S.rf
  have hl : lv_has ls 4 [(0, .ref mm), (1, .int v)] := hl
  have k6 : ∀ w ∈ wsX60, w ∈ wsX6_holeAt := fun w h => List.mem_cons_of_mem _ (List.mem_append_right _ h)
  refine lv_iconst (v := (-1)) hx hb dX6_holeAt_0 (by decide) ?_
  refine lv_istore_n (lv' := [(2, .int (-1)), (0, .ref mm), (1, .int v)]) hx hb dX6_holeAt_1 rfl hl (by decide) rfl (fun ls hl => ?_)
  refine lv_iconst (v := 0) hx hb dX6_holeAt_2 (by decide) ?_
  refine lv_istore_n (lv' := [(3, .int 0), (2, .int (-1)), (0, .ref mm), (1, .int v)]) hx hb dX6_holeAt_3 rfl hl (by decide) rfl (fun ls hl => ?_)
  have lp_4 : ∀ (r : Nat) (i : Nat) (z : Int32), (i + r = nh) → (mHoleAt bd v nh 0 (-1) = mHoleAt bd v r i z) → ∀ (H : Heap) (locs : List Loc), va_P D vwCl [(mm, .inr (6, [.int (nI np), .ref m1, .ref m2, .int (nI nh), .ref m3, .ref m4, .int (nI nn), .ref m5, .ref m6, .ref m7, .ref m8, .int re, .int ro, .ref m9, .int tm])), (m3, .inl (cI, 18, .inl bd))] H → va_S nA s.heap H locs → ∀ (ls : Array Slot), lv_has ls 4 [(3, .int (nI i)), (2, .int z), (0, .ref mm), (1, .int v)] → W p l e rmX6_holeAt s m a below meth c H locs 0 0 Q (F0 m 4 ls []) := by
    intro r
    induction r with
    | zero =>
      intro i z hi hF H locs hP hS ls hl
      refine lv_iload_n hx hb dX6_holeAt_4 rfl (lv_at hl 0 rfl) ?_
      refine lv_aload_n hx hb dX6_holeAt_5 rfl (lv_at hl 2 rfl) ?_
      refine va_get (D := D) (ci := 6) (v := .int (nI nh)) (C := RX6) (T := TX6) (N := 15) hx hb hts k6 hown hK.1 hP 0 rfl rfl 3 (by decide) (hts (.fieldLink RX6 67 "BoredPipesModel" "holes" "I") (List.mem_of_getElem? (i := 1) rfl)) (fun _ h9 => h9) rfl dX6_holeAt_6 ?_
      refine lv_icmp_ge (tgt := 36) hx hb dX6_holeAt_9 (by decide) (fun c1 => ?_) (fun c1 => absurd ((nI_le (a := nh) (b := i) (by omega) (by omega))) c1)
      refine lv_iload_n hx hb dX6_holeAt_36 rfl (lv_at hl 1 rfl) ?_
      exact ret_RI hQ hx hb hr hlk hS (hF.trans (by first | with_reducible rfl | (simp only [mHoleAt, if_pos c1]; done) | (simp [mHoleAt, if_pos c1]; done))).symm dX6_holeAt_37
    | succ r ih_4 =>
      intro i z hi hF H locs hP hS ls hl
      refine lv_iload_n hx hb dX6_holeAt_4 rfl (lv_at hl 0 rfl) ?_
      refine lv_aload_n hx hb dX6_holeAt_5 rfl (lv_at hl 2 rfl) ?_
      refine va_get (D := D) (ci := 6) (v := .int (nI nh)) (C := RX6) (T := TX6) (N := 15) hx hb hts k6 hown hK.1 hP 0 rfl rfl 3 (by decide) (hts (.fieldLink RX6 67 "BoredPipesModel" "holes" "I") (List.mem_of_getElem? (i := 1) rfl)) (fun _ h9 => h9) rfl dX6_holeAt_6 ?_
      refine lv_icmp_ge (tgt := 36) hx hb dX6_holeAt_9 (by decide) (fun c2 => absurd c2 ((nI_ge (a := i) (b := nh) (by omega) (by omega)))) (fun c2 => ?_)
      refine lv_aload_n hx hb dX6_holeAt_12 rfl (lv_at hl 2 rfl) ?_
      refine va_get (D := D) (ci := 6) (v := .ref m3) (C := RX6) (T := TX6) (N := 15) hx hb hts k6 hown hK.1 hP 0 rfl rfl 4 (by decide) (hts (.fieldLink RX6 16 "BoredPipesModel" "bored" "[I") (List.mem_of_getElem? (i := 2) rfl)) (fun _ h9 => h9) rfl dX6_holeAt_13 ?_
      refine lv_iconst (v := 3) hx hb dX6_holeAt_16 (by decide) ?_
      refine lv_iload_n hx hb dX6_holeAt_17 rfl (lv_at hl 0 rfl) ?_
      refine nn_imul hx hb dX6_holeAt_18 (x := 3) (y := i) rfl rfl ?_
      refine iald_n (k := (3 * i)) hx hb hK.1 hP 1 rfl (by omega) (by decide) dX6_holeAt_19 ?_
      refine lv_iload_n hx hb dX6_holeAt_20 rfl (lv_at hl 3 rfl) ?_
      have jn_21 : ∀ (H : Heap) (locs : List Loc), va_P D vwCl [(mm, .inr (6, [.int (nI np), .ref m1, .ref m2, .int (nI nh), .ref m3, .ref m4, .int (nI nn), .ref m5, .ref m6, .ref m7, .ref m8, .int re, .int ro, .ref m9, .int tm])), (m3, .inl (cI, 18, .inl bd))] H → va_S nA s.heap H locs → W p l e rmX6_holeAt s m a below meth c H locs 0 0 Q (F0 m 29 ls [.int (if (bd (3 * i)) = v then nI i else z)]) := by
        intro H locs hP hS
        refine lv_istore_n (lv' := [(2, .int (if (bd (3 * i)) = v then nI i else z)), (3, .int (nI i)), (0, .ref mm), (1, .int v)]) hx hb dX6_holeAt_29 rfl hl (by decide) rfl (fun ls hl => ?_)
        refine lv_iinc (v := nI (i + 1)) (lv' := [(3, .int (nI (i + 1))), (2, .int (if (bd (3 * i)) = v then nI i else z)), (0, .ref mm), (1, .int v)]) hx hb dX6_holeAt_30 hl (k := 1) rfl (iinc_1 i) (by decide) rfl (fun ls hl => ?_)
        refine lv_goto (tgt := 4) hx hb dX6_holeAt_33 (by decide) ?_
        exact ih_4 (i + 1) (if (bd (3 * i)) = v then nI i else z) (by omega) (hF.trans (by first | with_reducible rfl | (simp only [mHoleAt, if_neg c2]; done) | (simp [mHoleAt, if_neg c2]; done))) _ _ hP hS ls (lv_sub hl [0, 1, 2, 3] rfl)
      refine lv_icmp_ne (tgt := 28) hx hb dX6_holeAt_21 (by decide) (fun c3 => ?_) (fun c3 => ?_)
      · skip
        refine lv_iload_n hx hb dX6_holeAt_28 rfl (lv_at hl 1 rfl) ?_
        exact lv_eqi (if_neg c3).symm (jn_21 _ _ hP hS)
      · skip
        refine lv_iload_n hx hb dX6_holeAt_24 rfl (lv_at hl 0 rfl) ?_
        refine lv_goto (tgt := 29) hx hb dX6_holeAt_25 (by decide) ?_
        exact lv_eqi (if_pos c3).symm (jn_21 _ _ hP hS)
  exact lp_4 nh 0 (-1) (by omega) rfl _ _ hP hS ls (lv_sub hl [0, 1, 2, 3] rfl)

set_option maxHeartbeats 4000000 in
set_option maxRecDepth 100000 in
theorem c_X6_beside (l : Launch) (D : va_G) (cI cZ : ClassId) (mm : Nat) (m1 : Nat) (m2 : Nat) (m3 : Nat) (m4 : Nat) (m5 : Nat) (m6 : Nat) (m7 : Nat) (m8 : Nat) (m9 : Nat) (np : Nat) (nh : Nat) (nn : Nat) (re : Int32) (ro : Int32) (tm : Int32) (bd : Nat → Int32) (k : Nat) (w : Int32) (hnh : nh ≤ 6) (hk : k < 6) : Met l yX6_beside wsX6_beside rmX6_beside (va_Pc [.ref mm, .int (nI k), .int w] (PR D cI cZ [(mm, .inr (6, [.int (nI np), .ref m1, .ref m2, .int (nI nh), .ref m3, .ref m4, .int (nI nn), .ref m5, .ref m6, .ref m7, .ref m8, .int re, .int ro, .ref m9, .int tm])), (m3, .inl (cI, 18, .inl bd))])) (RI (mBeside bd k w nh 0 (-1))) 0 0 nA := by
  refine met_go (cc := cX6_beside) (maxL := 6) (ret := (some .int)) (by decide) rfl ?_ (Nat.le_of_ble_eq_true rfl)
  intro p e s m a below meth c Q hQ _ hx hb hr hml hts hown hlk hnm hpre ls hl
  have hown : s.vm.findClass RX6 = some m.cls := hown
  obtain ⟨hP, hK⟩ := hpre
  have hN := hK.2
  have hS : va_S nA s.heap s.heap [] := va_S.rf
  have hl : lv_has ls 6 [(0, .ref mm), (1, .int (nI k)), (2, .int w)] := hl
  have k6 : ∀ w ∈ wsX60, w ∈ wsX6_beside := fun w h => List.mem_cons_of_mem _ (List.mem_append_right _ h)
  refine lv_iconst (v := (-1)) hx hb dX6_beside_0 (by decide) ?_
  refine lv_istore_n (lv' := [(3, .int (-1)), (0, .ref mm), (1, .int (nI k)), (2, .int w)]) hx hb dX6_beside_1 rfl hl (by decide) rfl (fun ls hl => ?_)
  refine lv_iconst (v := 0) hx hb dX6_beside_2 (by decide) ?_
  refine lv_istore (lv' := [(4, .int 0), (3, .int (-1)), (0, .ref mm), (1, .int (nI k)), (2, .int w)]) hx hb dX6_beside_3 hl (by decide) rfl (fun ls hl => ?_)
  have lp_5 : ∀ (r : Nat) (i : Nat) (z : Int32), (i + r = nh) → (z = -1 ∨ ∃ j, j < 6 ∧ z = nI j) → (mBeside bd k w nh 0 (-1) = mBeside bd k w r i z) → ∀ (H : Heap) (locs : List Loc), va_P D vwCl [(mm, .inr (6, [.int (nI np), .ref m1, .ref m2, .int (nI nh), .ref m3, .ref m4, .int (nI nn), .ref m5, .ref m6, .ref m7, .ref m8, .int re, .int ro, .ref m9, .int tm])), (m3, .inl (cI, 18, .inl bd))] H → va_S nA s.heap H locs → ∀ (ls : Array Slot), lv_has ls 6 [(4, .int (nI i)), (3, .int z), (0, .ref mm), (1, .int (nI k)), (2, .int w)] → W p l e rmX6_beside s m a below meth c H locs 0 0 Q (F0 m 5 ls []) := by
    intro r
    induction r with
    | zero =>
      intro i z hi hz hF H locs hP hS ls hl
      refine lv_iload hx hb dX6_beside_5 (lv_at hl 0 rfl) ?_
      refine lv_aload_n hx hb dX6_beside_7 rfl (lv_at hl 2 rfl) ?_
      refine va_get (D := D) (ci := 6) (v := .int (nI nh)) (C := RX6) (T := TX6) (N := 15) hx hb hts k6 hown hK.1 hP 0 rfl rfl 3 (by decide) (hts (.fieldLink RX6 67 "BoredPipesModel" "holes" "I") (List.mem_of_getElem? (i := 1) rfl)) (fun _ h9 => h9) rfl dX6_beside_8 ?_
      refine lv_icmp_ge (tgt := 78) hx hb dX6_beside_11 (by decide) (fun c1 => ?_) (fun c1 => absurd ((nI_le (a := nh) (b := i) (by omega) (by omega))) c1)
      refine lv_iload_n hx hb dX6_beside_78 rfl (lv_at hl 1 rfl) ?_
      exact ret_RI hQ hx hb hr hlk hS (hF.trans (by first | with_reducible rfl | (simp only [mBeside, if_pos c1]; done) | (simp [mBeside, if_pos c1]; done))).symm dX6_beside_79
    | succ r ih_5 =>
      intro i z hi hz hF H locs hP hS ls hl
      refine lv_iload hx hb dX6_beside_5 (lv_at hl 0 rfl) ?_
      refine lv_aload_n hx hb dX6_beside_7 rfl (lv_at hl 2 rfl) ?_
      refine va_get (D := D) (ci := 6) (v := .int (nI nh)) (C := RX6) (T := TX6) (N := 15) hx hb hts k6 hown hK.1 hP 0 rfl rfl 3 (by decide) (hts (.fieldLink RX6 67 "BoredPipesModel" "holes" "I") (List.mem_of_getElem? (i := 1) rfl)) (fun _ h9 => h9) rfl dX6_beside_8 ?_
      refine lv_icmp_ge (tgt := 78) hx hb dX6_beside_11 (by decide) (fun c2 => absurd c2 ((nI_ge (a := i) (b := nh) (by omega) (by omega)))) (fun c2 => ?_)
      refine lv_aload_n hx hb dX6_beside_14 rfl (lv_at hl 2 rfl) ?_
      refine va_get (D := D) (ci := 6) (v := .ref m3) (C := RX6) (T := TX6) (N := 15) hx hb hts k6 hown hK.1 hP 0 rfl rfl 4 (by decide) (hts (.fieldLink RX6 16 "BoredPipesModel" "bored" "[I") (List.mem_of_getElem? (i := 2) rfl)) (fun _ h9 => h9) rfl dX6_beside_15 ?_
      refine lv_iconst (v := 3) hx hb dX6_beside_18 (by decide) ?_
      refine lv_iload hx hb dX6_beside_19 (lv_at hl 0 rfl) ?_
      refine nn_imul hx hb dX6_beside_21 (x := 3) (y := i) rfl rfl ?_
      refine iald_n (k := (3 * i)) hx hb hK.1 hP 1 rfl (by omega) (by decide) dX6_beside_22 ?_
      refine lv_aload_n hx hb dX6_beside_23 rfl (lv_at hl 2 rfl) ?_
      refine va_get (D := D) (ci := 6) (v := .ref m3) (C := RX6) (T := TX6) (N := 15) hx hb hts k6 hown hK.1 hP 0 rfl rfl 4 (by decide) (hts (.fieldLink RX6 16 "BoredPipesModel" "bored" "[I") (List.mem_of_getElem? (i := 2) rfl)) (fun _ h9 => h9) rfl dX6_beside_24 ?_
      refine lv_iconst (v := 3) hx hb dX6_beside_27 (by decide) ?_
      refine lv_iload_n hx hb dX6_beside_28 rfl (lv_at hl 3 rfl) ?_
      refine nn_imul hx hb dX6_beside_29 (x := 3) (y := k) rfl rfl ?_
      refine iald_n (k := (3 * k)) hx hb hK.1 hP 1 rfl (by omega) (by decide) dX6_beside_30 ?_
      refine lv_isub hx hb dX6_beside_31 ?_
      refine lv_iload_n hx hb dX6_beside_32 rfl (lv_at hl 4 rfl) ?_
      refine lv_imul hx hb dX6_beside_33 ?_
      refine lv_eqi (y := mBD bd k w i) rfl ?_
      refine lv_istore (lv' := [(5, .int (mBD bd k w i)), (4, .int (nI i)), (3, .int z), (0, .ref mm), (1, .int (nI k)), (2, .int w)]) hx hb dX6_beside_34 hl (by decide) rfl (fun ls hl => ?_)
      refine lv_iload hx hb dX6_beside_36 (lv_at hl 0 rfl) ?_
      refine lv_if_le (tgt := 72) hx hb dX6_beside_38 (by decide) (fun c3 => ?_) (fun c3 => ?_)
      · skip
        refine lv_iinc (v := nI (i + 1)) (lv' := [(4, .int (nI (i + 1))), (5, .int (mBD bd k w i)), (3, .int z), (0, .ref mm), (1, .int (nI k)), (2, .int w)]) hx hb dX6_beside_72 hl (k := 1) rfl (iinc_1 i) (by decide) rfl (fun ls hl => ?_)
        refine lv_goto (tgt := 5) hx hb dX6_beside_75 (by decide) ?_
        exact ih_5 (i + 1) z (by omega) hz (hF.trans (by first | with_reducible rfl | (simp only [mBeside, if_neg c2, if_pos c3]; done) | (simp [mBeside, if_neg c2, if_pos c3]; done))) _ _ hP hS ls (lv_sub hl [0, 2, 3, 4, 5] rfl)
      · skip
        refine lv_iload_n hx hb dX6_beside_41 rfl (lv_at hl 2 rfl) ?_
        refine lv_if_lt (tgt := 69) hx hb dX6_beside_42 (by decide) (fun c4 => ?_) (fun c4 => ?_)
        · skip
          refine lv_iload hx hb dX6_beside_69 (lv_at hl 1 rfl) ?_
          refine lv_istore_n (lv' := [(3, .int (nI i)), (5, .int (mBD bd k w i)), (4, .int (nI i)), (0, .ref mm), (1, .int (nI k)), (2, .int w)]) hx hb dX6_beside_71 rfl hl (by decide) rfl (fun ls hl => ?_)
          refine lv_iinc (v := nI (i + 1)) (lv' := [(4, .int (nI (i + 1))), (3, .int (nI i)), (5, .int (mBD bd k w i)), (0, .ref mm), (1, .int (nI k)), (2, .int w)]) hx hb dX6_beside_72 hl (k := 2) rfl (iinc_1 i) (by decide) rfl (fun ls hl => ?_)
          refine lv_goto (tgt := 5) hx hb dX6_beside_75 (by decide) ?_
          exact ih_5 (i + 1) (nI i) (by omega) (Or.inr ⟨i, by omega, rfl⟩) (hF.trans (by first | with_reducible rfl | (simp only [mBeside, if_neg c2, if_neg c3, if_pos c4]; done) | (simp [mBeside, if_neg c2, if_neg c3, if_pos c4]; done))) _ _ hP hS ls (lv_sub hl [0, 1, 3, 4, 5] rfl)
        · skip
          obtain ⟨j, hj, rfl⟩ := hz.resolve_left (fun h9 => c4 (by rw [h9]; decide))
          refine lv_iload hx hb dX6_beside_45 (lv_at hl 0 rfl) ?_
          refine lv_aload_n hx hb dX6_beside_47 rfl (lv_at hl 3 rfl) ?_
          refine va_get (D := D) (ci := 6) (v := .ref m3) (C := RX6) (T := TX6) (N := 15) hx hb hts k6 hown hK.1 hP 0 rfl rfl 4 (by decide) (hts (.fieldLink RX6 16 "BoredPipesModel" "bored" "[I") (List.mem_of_getElem? (i := 2) rfl)) (fun _ h9 => h9) rfl dX6_beside_48 ?_
          refine lv_iconst (v := 3) hx hb dX6_beside_51 (by decide) ?_
          refine lv_iload_n hx hb dX6_beside_52 rfl (lv_at hl 2 rfl) ?_
          refine nn_imul hx hb dX6_beside_53 (x := 3) (y := j) rfl rfl ?_
          refine iald_n (k := (3 * j)) hx hb hK.1 hP 1 rfl (by omega) (by decide) dX6_beside_54 ?_
          refine lv_aload_n hx hb dX6_beside_55 rfl (lv_at hl 3 rfl) ?_
          refine va_get (D := D) (ci := 6) (v := .ref m3) (C := RX6) (T := TX6) (N := 15) hx hb hts k6 hown hK.1 hP 0 rfl rfl 4 (by decide) (hts (.fieldLink RX6 16 "BoredPipesModel" "bored" "[I") (List.mem_of_getElem? (i := 2) rfl)) (fun _ h9 => h9) rfl dX6_beside_56 ?_
          refine lv_iconst (v := 3) hx hb dX6_beside_59 (by decide) ?_
          refine lv_iload_n hx hb dX6_beside_60 rfl (lv_at hl 4 rfl) ?_
          refine nn_imul hx hb dX6_beside_61 (x := 3) (y := k) rfl rfl ?_
          refine iald_n (k := (3 * k)) hx hb hK.1 hP 1 rfl (by omega) (by decide) dX6_beside_62 ?_
          refine lv_isub hx hb dX6_beside_63 ?_
          refine lv_iload_n hx hb dX6_beside_64 rfl (lv_at hl 5 rfl) ?_
          refine lv_imul hx hb dX6_beside_65 ?_
          refine lv_eqi (y := mBD bd k w j) rfl ?_
          refine lv_icmp_ge (tgt := 72) hx hb dX6_beside_66 (by decide) (fun c5 => ?_) (fun c5 => ?_)
          · skip
            refine lv_iinc (v := nI (i + 1)) (lv' := [(4, .int (nI (i + 1))), (5, .int (mBD bd k w i)), (3, .int (nI j)), (0, .ref mm), (1, .int (nI k)), (2, .int w)]) hx hb dX6_beside_72 hl (k := 1) rfl (iinc_1 i) (by decide) rfl (fun ls hl => ?_)
            refine lv_goto (tgt := 5) hx hb dX6_beside_75 (by decide) ?_
            exact ih_5 (i + 1) (nI j) (by omega) (Or.inr ⟨j, hj, rfl⟩) (hF.trans (by first | with_reducible rfl | (simp only [mBeside, nI_clamp (show j < 2147483648 from by omega), if_neg c2, if_neg c3, if_neg c4, if_pos c5]; done) | (simp [mBeside, nI_clamp (show j < 2147483648 from by omega), if_neg c2, if_neg c3, if_neg c4, if_pos c5]; done))) _ _ hP hS ls (lv_sub hl [0, 2, 3, 4, 5] rfl)
          · skip
            refine lv_iload hx hb dX6_beside_69 (lv_at hl 1 rfl) ?_
            refine lv_istore_n (lv' := [(3, .int (nI i)), (5, .int (mBD bd k w i)), (4, .int (nI i)), (0, .ref mm), (1, .int (nI k)), (2, .int w)]) hx hb dX6_beside_71 rfl hl (by decide) rfl (fun ls hl => ?_)
            refine lv_iinc (v := nI (i + 1)) (lv' := [(4, .int (nI (i + 1))), (3, .int (nI i)), (5, .int (mBD bd k w i)), (0, .ref mm), (1, .int (nI k)), (2, .int w)]) hx hb dX6_beside_72 hl (k := 2) rfl (iinc_1 i) (by decide) rfl (fun ls hl => ?_)
            refine lv_goto (tgt := 5) hx hb dX6_beside_75 (by decide) ?_
            exact ih_5 (i + 1) (nI i) (by omega) (Or.inr ⟨i, by omega, rfl⟩) (hF.trans (by first | with_reducible rfl | (simp only [mBeside, nI_clamp (show j < 2147483648 from by omega), if_neg c2, if_neg c3, if_neg c4, if_neg c5]; done) | (simp [mBeside, nI_clamp (show j < 2147483648 from by omega), if_neg c2, if_neg c3, if_neg c4, if_neg c5]; done))) _ _ hP hS ls (lv_sub hl [0, 1, 3, 4, 5] rfl)
  exact lp_5 nh 0 (-1) (by omega) (Or.inl rfl) rfl _ _ hP hS ls (lv_sub hl [0, 1, 2, 3, 4] rfl)

set_option maxHeartbeats 4000000 in
set_option maxRecDepth 100000 in
theorem c_X6_nextPlace (l : Launch) (D : va_G) (cI cZ : ClassId) (mm : Nat) (m1 : Nat) (m2 : Nat) (m3 : Nat) (m4 : Nat) (m5 : Nat) (m6 : Nat) (m7 : Nat) (m8 : Nat) (m9 : Nat) (np : Nat) (nh : Nat) (nn : Nat) (re : Int32) (ro : Int32) (tm : Int32) (ln : Nat → Int32) (bd : Nat → Int32) (v : Int32) (hnp : np ≤ 12) (hnh : nh ≤ 6) : Met l yX6_nextPlace wsX6_nextPlace rmX6_nextPlace (va_Pc [.ref mm, .int v] (PR D cI cZ [(mm, .inr (6, [.int (nI np), .ref m1, .ref m2, .int (nI nh), .ref m3, .ref m4, .int (nI nn), .ref m5, .ref m6, .ref m7, .ref m8, .int re, .int ro, .ref m9, .int tm])), (m1, .inl (cI, 12, .inl ln)), (m3, .inl (cI, 18, .inl bd))])) (RI (mNext ln bd np nh v)) 0 0 nA := by
  refine met_go (cc := cX6_nextPlace) (maxL := 6) (ret := (some .int)) (by decide) rfl ?_ (Nat.le_of_ble_eq_true rfl)
  intro p e s m a below meth c Q hQ _ hx hb hr hml hts hown hlk hnm hpre ls hl
  have hown : s.vm.findClass RX6 = some m.cls := hown
  obtain ⟨hP, hK⟩ := hpre
  have hN := hK.2
  have hS : va_S nA s.heap s.heap [] := va_S.rf
  have hl : lv_has ls 6 [(0, .ref mm), (1, .int v)] := hl
  have k6 : ∀ w ∈ wsX60, w ∈ wsX6_nextPlace := fun w h => List.mem_cons_of_mem _ (List.mem_append_right _ h)
  refine lv_iconst (v := 0) hx hb dX6_nextPlace_0 (by decide) ?_
  refine lv_istore_n (lv' := [(2, .int 0), (0, .ref mm), (1, .int v)]) hx hb dX6_nextPlace_1 rfl hl (by decide) rfl (fun ls hl => ?_)
  refine lv_iconst (v := 0) hx hb dX6_nextPlace_2 (by decide) ?_
  refine lv_istore_n (lv' := [(3, .int 0), (2, .int 0), (0, .ref mm), (1, .int v)]) hx hb dX6_nextPlace_3 rfl hl (by decide) rfl (fun ls hl => ?_)
  refine lv_iconst (v := 0) hx hb dX6_nextPlace_4 (by decide) ?_
  refine lv_istore (lv' := [(4, .int 0), (3, .int 0), (2, .int 0), (0, .ref mm), (1, .int v)]) hx hb dX6_nextPlace_5 hl (by decide) rfl (fun ls hl => ?_)
  have lp_7 : ∀ (r : Nat) (i : Nat) (b : Int32) (z : Int32), (i + r = np) → (mNext ln bd np nh v = mNx2 bd v nh 0 (mNx1 ln v r i b z)) → ∀ (H : Heap) (locs : List Loc), va_P D vwCl [(mm, .inr (6, [.int (nI np), .ref m1, .ref m2, .int (nI nh), .ref m3, .ref m4, .int (nI nn), .ref m5, .ref m6, .ref m7, .ref m8, .int re, .int ro, .ref m9, .int tm])), (m1, .inl (cI, 12, .inl ln)), (m3, .inl (cI, 18, .inl bd))] H → va_S nA s.heap H locs → ∀ (ls : Array Slot), lv_has ls 6 [(4, .int (nI i)), (3, .int z), (2, .int b), (0, .ref mm), (1, .int v)] → W p l e rmX6_nextPlace s m a below meth c H locs 0 0 Q (F0 m 7 ls []) := by
    intro r
    induction r with
    | zero =>
      intro i b z hi hF H locs hP hS ls hl
      refine lv_iload hx hb dX6_nextPlace_7 (lv_at hl 0 rfl) ?_
      refine lv_aload_n hx hb dX6_nextPlace_9 rfl (lv_at hl 3 rfl) ?_
      refine va_get (D := D) (ci := 6) (v := .int (nI np)) (C := RX6) (T := TX6) (N := 15) hx hb hts k6 hown hK.1 hP 0 rfl rfl 0 (by decide) (hts (.fieldLink RX6 42 "BoredPipesModel" "pieces" "I") (List.mem_of_getElem? (i := 1) rfl)) (fun _ h9 => h9) rfl dX6_nextPlace_10 ?_
      refine lv_icmp_ge (tgt := 48) hx hb dX6_nextPlace_13 (by decide) (fun c1 => ?_) (fun c1 => absurd ((nI_le (a := np) (b := i) (by omega) (by omega))) c1)
      refine lv_iconst (v := 0) hx hb dX6_nextPlace_48 (by decide) ?_
      refine lv_istore (lv' := [(4, .int 0), (3, .int z), (2, .int b), (0, .ref mm), (1, .int v)]) hx hb dX6_nextPlace_49 hl (by decide) rfl (fun ls hl => ?_)
      have lp_51 : ∀ (r2 : Nat) (i2 : Nat) (b2 : Int32), (i2 + r2 = nh) → (mNext ln bd np nh v = mNx2 bd v r2 i2 b2) → ∀ (H : Heap) (locs : List Loc), va_P D vwCl [(mm, .inr (6, [.int (nI np), .ref m1, .ref m2, .int (nI nh), .ref m3, .ref m4, .int (nI nn), .ref m5, .ref m6, .ref m7, .ref m8, .int re, .int ro, .ref m9, .int tm])), (m1, .inl (cI, 12, .inl ln)), (m3, .inl (cI, 18, .inl bd))] H → va_S nA s.heap H locs → ∀ (ls : Array Slot), lv_has ls 6 [(4, .int (nI i2)), (3, .int z), (2, .int b2), (0, .ref mm), (1, .int v)] → W p l e rmX6_nextPlace s m a below meth c H locs 0 0 Q (F0 m 51 ls []) := by
        intro r2
        induction r2 with
        | zero =>
          intro i2 b2 hi2 hF2 H locs hP hS ls hl
          refine lv_iload hx hb dX6_nextPlace_51 (lv_at hl 0 rfl) ?_
          refine lv_aload_n hx hb dX6_nextPlace_53 rfl (lv_at hl 3 rfl) ?_
          refine va_get (D := D) (ci := 6) (v := .int (nI nh)) (C := RX6) (T := TX6) (N := 15) hx hb hts k6 hown hK.1 hP 0 rfl rfl 3 (by decide) (hts (.fieldLink RX6 67 "BoredPipesModel" "holes" "I") (List.mem_of_getElem? (i := 3) rfl)) (fun _ h9 => h9) rfl dX6_nextPlace_54 ?_
          refine lv_icmp_ge (tgt := 96) hx hb dX6_nextPlace_57 (by decide) (fun c2 => ?_) (fun c2 => absurd ((nI_le (a := nh) (b := i2) (by omega) (by omega))) c2)
          refine lv_iload_n hx hb dX6_nextPlace_96 rfl (lv_at hl 2 rfl) ?_
          exact ret_RI hQ hx hb hr hlk hS (hF2.trans (by first | with_reducible rfl | (simp only [mNx1, mNx2, if_pos c1, if_pos c2]; done) | (simp [mNx1, mNx2, if_pos c1, if_pos c2]; done))).symm dX6_nextPlace_97
        | succ r2 ih_51 =>
          intro i2 b2 hi2 hF2 H locs hP hS ls hl
          refine lv_iload hx hb dX6_nextPlace_51 (lv_at hl 0 rfl) ?_
          refine lv_aload_n hx hb dX6_nextPlace_53 rfl (lv_at hl 3 rfl) ?_
          refine va_get (D := D) (ci := 6) (v := .int (nI nh)) (C := RX6) (T := TX6) (N := 15) hx hb hts k6 hown hK.1 hP 0 rfl rfl 3 (by decide) (hts (.fieldLink RX6 67 "BoredPipesModel" "holes" "I") (List.mem_of_getElem? (i := 3) rfl)) (fun _ h9 => h9) rfl dX6_nextPlace_54 ?_
          refine lv_icmp_ge (tgt := 96) hx hb dX6_nextPlace_57 (by decide) (fun c3 => absurd c3 ((nI_ge (a := i2) (b := nh) (by omega) (by omega)))) (fun c3 => ?_)
          refine lv_aload_n hx hb dX6_nextPlace_60 rfl (lv_at hl 3 rfl) ?_
          refine va_get (D := D) (ci := 6) (v := .ref m3) (C := RX6) (T := TX6) (N := 15) hx hb hts k6 hown hK.1 hP 0 rfl rfl 4 (by decide) (hts (.fieldLink RX6 16 "BoredPipesModel" "bored" "[I") (List.mem_of_getElem? (i := 4) rfl)) (fun _ h9 => h9) rfl dX6_nextPlace_61 ?_
          refine lv_iconst (v := 3) hx hb dX6_nextPlace_64 (by decide) ?_
          refine lv_iload hx hb dX6_nextPlace_65 (lv_at hl 0 rfl) ?_
          refine nn_imul hx hb dX6_nextPlace_67 (x := 3) (y := i2) rfl rfl ?_
          refine iald_n (k := (3 * i2)) hx hb hK.1 hP 2 rfl (by omega) (by decide) dX6_nextPlace_68 ?_
          refine lv_istore (lv' := [(5, .int (bd (3 * i2))), (4, .int (nI i2)), (3, .int z), (2, .int b2), (0, .ref mm), (1, .int v)]) hx hb dX6_nextPlace_69 hl (by decide) rfl (fun ls hl => ?_)
          refine lv_iload hx hb dX6_nextPlace_71 (lv_at hl 0 rfl) ?_
          refine lv_iload_n hx hb dX6_nextPlace_73 rfl (lv_at hl 5 rfl) ?_
          refine lv_icmp_ge (tgt := 88) hx hb dX6_nextPlace_74 (by decide) (fun c4 => ?_) (fun c4 => ?_)
          · skip
            refine lv_iload_n hx hb dX6_nextPlace_88 rfl (lv_at hl 3 rfl) ?_
            refine lv_istore_n (lv' := [(2, .int b2), (5, .int (bd (3 * i2))), (4, .int (nI i2)), (3, .int z), (0, .ref mm), (1, .int v)]) hx hb dX6_nextPlace_89 rfl hl (by decide) rfl (fun ls hl => ?_)
            refine lv_iinc (v := nI (i2 + 1)) (lv' := [(4, .int (nI (i2 + 1))), (2, .int b2), (5, .int (bd (3 * i2))), (3, .int z), (0, .ref mm), (1, .int v)]) hx hb dX6_nextPlace_90 hl (k := 2) rfl (iinc_1 i2) (by decide) rfl (fun ls hl => ?_)
            refine lv_goto (tgt := 51) hx hb dX6_nextPlace_93 (by decide) ?_
            exact ih_51 (i2 + 1) b2 (by omega) (hF2.trans (by first | with_reducible rfl | (simp only [mNx1, mNx2, if_pos c1, if_neg c3, if_pos c4]; done) | (simp [mNx1, mNx2, if_pos c1, if_neg c3, if_pos c4]; done))) _ _ hP hS ls (lv_sub hl [0, 3, 1, 4, 5] rfl)
          · skip
            refine lv_iload hx hb dX6_nextPlace_77 (lv_at hl 0 rfl) ?_
            refine lv_iload_n hx hb dX6_nextPlace_79 rfl (lv_at hl 3 rfl) ?_
            refine lv_icmp_le (tgt := 88) hx hb dX6_nextPlace_80 (by decide) (fun c5 => ?_) (fun c5 => ?_)
            · skip
              refine lv_iload_n hx hb dX6_nextPlace_88 rfl (lv_at hl 3 rfl) ?_
              refine lv_istore_n (lv' := [(2, .int b2), (5, .int (bd (3 * i2))), (4, .int (nI i2)), (3, .int z), (0, .ref mm), (1, .int v)]) hx hb dX6_nextPlace_89 rfl hl (by decide) rfl (fun ls hl => ?_)
              refine lv_iinc (v := nI (i2 + 1)) (lv' := [(4, .int (nI (i2 + 1))), (2, .int b2), (5, .int (bd (3 * i2))), (3, .int z), (0, .ref mm), (1, .int v)]) hx hb dX6_nextPlace_90 hl (k := 2) rfl (iinc_1 i2) (by decide) rfl (fun ls hl => ?_)
              refine lv_goto (tgt := 51) hx hb dX6_nextPlace_93 (by decide) ?_
              exact ih_51 (i2 + 1) b2 (by omega) (hF2.trans (by first | with_reducible rfl | (simp only [mNx1, mNx2, if_pos c1, if_neg c3, if_neg c4, if_pos c5]; done) | (simp [mNx1, mNx2, if_pos c1, if_neg c3, if_neg c4, if_pos c5]; done))) _ _ hP hS ls (lv_sub hl [0, 3, 1, 4, 5] rfl)
            · skip
              refine lv_iload hx hb dX6_nextPlace_83 (lv_at hl 0 rfl) ?_
              refine lv_goto (tgt := 89) hx hb dX6_nextPlace_85 (by decide) ?_
              refine lv_istore_n (lv' := [(2, .int (bd (3 * i2))), (5, .int (bd (3 * i2))), (4, .int (nI i2)), (3, .int z), (0, .ref mm), (1, .int v)]) hx hb dX6_nextPlace_89 rfl hl (by decide) rfl (fun ls hl => ?_)
              refine lv_iinc (v := nI (i2 + 1)) (lv' := [(4, .int (nI (i2 + 1))), (2, .int (bd (3 * i2))), (5, .int (bd (3 * i2))), (3, .int z), (0, .ref mm), (1, .int v)]) hx hb dX6_nextPlace_90 hl (k := 2) rfl (iinc_1 i2) (by decide) rfl (fun ls hl => ?_)
              refine lv_goto (tgt := 51) hx hb dX6_nextPlace_93 (by decide) ?_
              exact ih_51 (i2 + 1) (bd (3 * i2)) (by omega) (hF2.trans (by first | with_reducible rfl | (simp only [mNx1, mNx2, if_pos c1, if_neg c3, if_neg c4, if_neg c5]; done) | (simp [mNx1, mNx2, if_pos c1, if_neg c3, if_neg c4, if_neg c5]; done))) _ _ hP hS ls (lv_sub hl [0, 3, 1, 4, 5] rfl)
      exact lp_51 nh 0 b (by omega) (hF.trans (by simp only [mNx1])) _ _ hP hS ls (lv_sub hl [0, 1, 2, 3, 4] rfl)
    | succ r ih_7 =>
      intro i b z hi hF H locs hP hS ls hl
      refine lv_iload hx hb dX6_nextPlace_7 (lv_at hl 0 rfl) ?_
      refine lv_aload_n hx hb dX6_nextPlace_9 rfl (lv_at hl 3 rfl) ?_
      refine va_get (D := D) (ci := 6) (v := .int (nI np)) (C := RX6) (T := TX6) (N := 15) hx hb hts k6 hown hK.1 hP 0 rfl rfl 0 (by decide) (hts (.fieldLink RX6 42 "BoredPipesModel" "pieces" "I") (List.mem_of_getElem? (i := 1) rfl)) (fun _ h9 => h9) rfl dX6_nextPlace_10 ?_
      refine lv_icmp_ge (tgt := 48) hx hb dX6_nextPlace_13 (by decide) (fun c6 => absurd c6 ((nI_ge (a := i) (b := np) (by omega) (by omega)))) (fun c6 => ?_)
      refine lv_iload_n hx hb dX6_nextPlace_16 rfl (lv_at hl 1 rfl) ?_
      refine lv_aload_n hx hb dX6_nextPlace_17 rfl (lv_at hl 3 rfl) ?_
      refine va_get (D := D) (ci := 6) (v := .ref m1) (C := RX6) (T := TX6) (N := 15) hx hb hts k6 hown hK.1 hP 0 rfl rfl 1 (by decide) (hts (.fieldLink RX6 7 "BoredPipesModel" "lengths" "[I") (List.mem_of_getElem? (i := 2) rfl)) (fun _ h9 => h9) rfl dX6_nextPlace_18 ?_
      refine lv_iload hx hb dX6_nextPlace_21 (lv_at hl 0 rfl) ?_
      refine iald_n (k := i) hx hb hK.1 hP 1 rfl (by omega) (by decide) dX6_nextPlace_23 ?_
      refine lv_iadd hx hb dX6_nextPlace_24 ?_
      refine lv_istore_n (lv' := [(3, .int (z + (ln i))), (4, .int (nI i)), (2, .int b), (0, .ref mm), (1, .int v)]) hx hb dX6_nextPlace_25 rfl hl (by decide) rfl (fun ls hl => ?_)
      refine lv_iload_n hx hb dX6_nextPlace_26 rfl (lv_at hl 0 rfl) ?_
      refine lv_iload_n hx hb dX6_nextPlace_27 rfl (lv_at hl 4 rfl) ?_
      refine lv_icmp_ge (tgt := 40) hx hb dX6_nextPlace_28 (by decide) (fun c7 => ?_) (fun c7 => ?_)
      · skip
        refine lv_iload_n hx hb dX6_nextPlace_40 rfl (lv_at hl 2 rfl) ?_
        refine lv_istore_n (lv' := [(2, .int b), (3, .int (z + (ln i))), (4, .int (nI i)), (0, .ref mm), (1, .int v)]) hx hb dX6_nextPlace_41 rfl hl (by decide) rfl (fun ls hl => ?_)
        refine lv_iinc (v := nI (i + 1)) (lv' := [(4, .int (nI (i + 1))), (2, .int b), (3, .int (z + (ln i))), (0, .ref mm), (1, .int v)]) hx hb dX6_nextPlace_42 hl (k := 2) rfl (iinc_1 i) (by decide) rfl (fun ls hl => ?_)
        refine lv_goto (tgt := 7) hx hb dX6_nextPlace_45 (by decide) ?_
        exact ih_7 (i + 1) b (z + (ln i)) (by omega) (hF.trans (by first | with_reducible rfl | (simp only [mNx1, if_neg c6, if_pos c7]; done) | (simp [mNx1, if_neg c6, if_pos c7]; done))) _ _ hP hS ls (lv_sub hl [0, 2, 1, 3, 4] rfl)
      · skip
        refine lv_iload_n hx hb dX6_nextPlace_31 rfl (lv_at hl 0 rfl) ?_
        refine lv_iload_n hx hb dX6_nextPlace_32 rfl (lv_at hl 2 rfl) ?_
        refine lv_icmp_le (tgt := 40) hx hb dX6_nextPlace_33 (by decide) (fun c8 => ?_) (fun c8 => ?_)
        · skip
          refine lv_iload_n hx hb dX6_nextPlace_40 rfl (lv_at hl 2 rfl) ?_
          refine lv_istore_n (lv' := [(2, .int b), (3, .int (z + (ln i))), (4, .int (nI i)), (0, .ref mm), (1, .int v)]) hx hb dX6_nextPlace_41 rfl hl (by decide) rfl (fun ls hl => ?_)
          refine lv_iinc (v := nI (i + 1)) (lv' := [(4, .int (nI (i + 1))), (2, .int b), (3, .int (z + (ln i))), (0, .ref mm), (1, .int v)]) hx hb dX6_nextPlace_42 hl (k := 2) rfl (iinc_1 i) (by decide) rfl (fun ls hl => ?_)
          refine lv_goto (tgt := 7) hx hb dX6_nextPlace_45 (by decide) ?_
          exact ih_7 (i + 1) b (z + (ln i)) (by omega) (hF.trans (by first | with_reducible rfl | (simp only [mNx1, if_neg c6, if_neg c7, if_pos c8]; done) | (simp [mNx1, if_neg c6, if_neg c7, if_pos c8]; done))) _ _ hP hS ls (lv_sub hl [0, 2, 1, 3, 4] rfl)
        · skip
          refine lv_iload_n hx hb dX6_nextPlace_36 rfl (lv_at hl 0 rfl) ?_
          refine lv_goto (tgt := 41) hx hb dX6_nextPlace_37 (by decide) ?_
          refine lv_istore_n (lv' := [(2, .int (z + (ln i))), (3, .int (z + (ln i))), (4, .int (nI i)), (0, .ref mm), (1, .int v)]) hx hb dX6_nextPlace_41 rfl hl (by decide) rfl (fun ls hl => ?_)
          refine lv_iinc (v := nI (i + 1)) (lv' := [(4, .int (nI (i + 1))), (2, .int (z + (ln i))), (3, .int (z + (ln i))), (0, .ref mm), (1, .int v)]) hx hb dX6_nextPlace_42 hl (k := 2) rfl (iinc_1 i) (by decide) rfl (fun ls hl => ?_)
          refine lv_goto (tgt := 7) hx hb dX6_nextPlace_45 (by decide) ?_
          exact ih_7 (i + 1) (z + (ln i)) (z + (ln i)) (by omega) (hF.trans (by first | with_reducible rfl | (simp only [mNx1, if_neg c6, if_neg c7, if_neg c8]; done) | (simp [mNx1, if_neg c6, if_neg c7, if_neg c8]; done))) _ _ hP hS ls (lv_sub hl [0, 2, 1, 3, 4] rfl)
  exact lp_7 np 0 0 0 (by omega) rfl _ _ hP hS ls (lv_sub hl [0, 1, 2, 3, 4] rfl)

set_option maxHeartbeats 4000000 in
set_option maxRecDepth 100000 in
theorem c_X6_drillMany (l : Launch) (D : va_G) (cI cZ : ClassId) (mm : Nat) (m1 : Nat) (m2 : Nat) (m3 : Nat) (m4 : Nat) (m5 : Nat) (m6 : Nat) (m7 : Nat) (m8 : Nat) (m9 : Nat) (np : Nat) (nh : Nat) (nn : Nat) (re : Int32) (ro : Int32) (tm : Int32) (db : Nat → Int32)  : Met l yX6_drillMany wsX6_drillMany rmX6_drillMany (va_Pc [.ref mm] (PR D cI cZ [(mm, .inr (6, [.int (nI np), .ref m1, .ref m2, .int (nI nh), .ref m3, .ref m4, .int (nI nn), .ref m5, .ref m6, .ref m7, .ref m8, .int re, .int ro, .ref m9, .int tm])), (m8, .inl (cZ, 61, .inl db))])) (RI (mDr db 60 1 0)) 0 0 nA := by
  refine met_go (cc := cX6_drillMany) (maxL := 3) (ret := (some .int)) (by decide) rfl ?_ (Nat.le_of_ble_eq_true rfl)
  intro p e s m a below meth c Q hQ _ hx hb hr hml hts hown hlk hnm hpre ls hl
  have hown : s.vm.findClass RX6 = some m.cls := hown
  obtain ⟨hP, hK⟩ := hpre
  have hN := hK.2
  have hS : va_S nA s.heap s.heap [] := va_S.rf
  have hl : lv_has ls 3 [(0, .ref mm)] := hl
  have k6 : ∀ w ∈ wsX60, w ∈ wsX6_drillMany := fun w h => List.mem_cons_of_mem _ (List.mem_append_right _ h)
  refine lv_iconst (v := 0) hx hb dX6_drillMany_0 (by decide) ?_
  refine lv_istore_n (lv' := [(1, .int 0), (0, .ref mm)]) hx hb dX6_drillMany_1 rfl hl (by decide) rfl (fun ls hl => ?_)
  refine lv_iconst (v := 1) hx hb dX6_drillMany_2 (by decide) ?_
  refine lv_istore_n (lv' := [(2, .int 1), (1, .int 0), (0, .ref mm)]) hx hb dX6_drillMany_3 rfl hl (by decide) rfl (fun ls hl => ?_)
  have lp_4 : ∀ (r : Nat) (i : Nat) (z : Int32), (i + r = 61) → (mDr db 60 1 0 = mDr db r i z) → ∀ (H : Heap) (locs : List Loc), va_P D vwCl [(mm, .inr (6, [.int (nI np), .ref m1, .ref m2, .int (nI nh), .ref m3, .ref m4, .int (nI nn), .ref m5, .ref m6, .ref m7, .ref m8, .int re, .int ro, .ref m9, .int tm])), (m8, .inl (cZ, 61, .inl db))] H → va_S nA s.heap H locs → ∀ (ls : Array Slot), lv_has ls 3 [(2, .int (nI i)), (1, .int z), (0, .ref mm)] → W p l e rmX6_drillMany s m a below meth c H locs 0 0 Q (F0 m 4 ls []) := by
    intro r
    induction r with
    | zero =>
      intro i z hi hF H locs hP hS ls hl
      refine lv_iload_n hx hb dX6_drillMany_4 rfl (lv_at hl 0 rfl) ?_
      refine lv_bipush (v := 61) hx hb dX6_drillMany_5 (by decide) ?_
      refine lv_icmp_ge (tgt := 33) hx hb dX6_drillMany_7 (by decide) (fun c1 => ?_) (fun c1 => absurd ((nI_le (a := 61) (b := i) (by omega) (by omega))) c1)
      refine lv_iload_n hx hb dX6_drillMany_33 rfl (lv_at hl 1 rfl) ?_
      exact ret_RI hQ hx hb hr hlk hS (hF.trans (by first | with_reducible rfl | (simp only [mDr, if_pos c1]; done) | (simp [mDr, if_pos c1]; done))).symm dX6_drillMany_34
    | succ r ih_4 =>
      intro i z hi hF H locs hP hS ls hl
      refine lv_iload_n hx hb dX6_drillMany_4 rfl (lv_at hl 0 rfl) ?_
      refine lv_bipush (v := 61) hx hb dX6_drillMany_5 (by decide) ?_
      refine lv_icmp_ge (tgt := 33) hx hb dX6_drillMany_7 (by decide) (fun c2 => absurd c2 ((nI_ge (a := i) (b := 61) (by omega) (by omega)))) (fun c2 => ?_)
      refine lv_iload_n hx hb dX6_drillMany_10 rfl (lv_at hl 1 rfl) ?_
      refine lv_aload_n hx hb dX6_drillMany_11 rfl (lv_at hl 2 rfl) ?_
      refine va_get (D := D) (ci := 6) (v := .ref m8) (C := RX6) (T := TX6) (N := 15) hx hb hts k6 hown hK.1 hP 0 rfl rfl 10 (by decide) (hts (.fieldLink RX6 31 "BoredPipesModel" "drills" "[Z") (List.mem_of_getElem? (i := 1) rfl)) (fun _ h9 => h9) rfl dX6_drillMany_12 ?_
      refine lv_iload_n hx hb dX6_drillMany_15 rfl (lv_at hl 0 rfl) ?_
      refine zald_n (k := i) hx hb hK.1 hP 1 rfl (by omega) (by decide) dX6_drillMany_16 ?_
      have jn_17 : ∀ (H : Heap) (locs : List Loc), va_P D vwCl [(mm, .inr (6, [.int (nI np), .ref m1, .ref m2, .int (nI nh), .ref m3, .ref m4, .int (nI nn), .ref m5, .ref m6, .ref m7, .ref m8, .int re, .int ro, .ref m9, .int tm])), (m8, .inl (cZ, 61, .inl db))] H → va_S nA s.heap H locs → W p l e rmX6_drillMany s m a below meth c H locs 0 0 Q (F0 m 25 ls [.int (if (db i) = 0 then 0 else 1), .int z]) := by
        intro H locs hP hS
        refine lv_iadd hx hb dX6_drillMany_25 ?_
        refine lv_istore_n (lv' := [(1, .int (z + (if (db i) = 0 then 0 else 1))), (2, .int (nI i)), (0, .ref mm)]) hx hb dX6_drillMany_26 rfl hl (by decide) rfl (fun ls hl => ?_)
        refine lv_iinc (v := nI (i + 1)) (lv' := [(2, .int (nI (i + 1))), (1, .int (z + (if (db i) = 0 then 0 else 1))), (0, .ref mm)]) hx hb dX6_drillMany_27 hl (k := 1) rfl (iinc_1 i) (by decide) rfl (fun ls hl => ?_)
        refine lv_goto (tgt := 4) hx hb dX6_drillMany_30 (by decide) ?_
        exact ih_4 (i + 1) (z + (if (db i) = 0 then 0 else 1)) (by omega) (hF.trans (by first | with_reducible rfl | (simp only [mDr, if_neg c2]; done) | (simp [mDr, if_neg c2]; done))) _ _ hP hS ls (lv_sub hl [0, 1, 2] rfl)
      refine lv_if_eq (tgt := 24) hx hb dX6_drillMany_17 (by decide) (fun c3 => ?_) (fun c3 => ?_)
      · skip
        refine lv_iconst (v := 0) hx hb dX6_drillMany_24 (by decide) ?_
        exact lv_eqi (if_pos c3).symm (jn_17 _ _ hP hS)
      · skip
        refine lv_iconst (v := 1) hx hb dX6_drillMany_20 (by decide) ?_
        refine lv_goto (tgt := 25) hx hb dX6_drillMany_21 (by decide) ?_
        exact lv_eqi (if_neg c3).symm (jn_17 _ _ hP hS)
  exact lp_4 60 1 0 (by omega) rfl _ _ hP hS ls (lv_sub hl [0, 1, 2] rfl)

set_option maxHeartbeats 4000000 in
set_option maxRecDepth 100000 in
theorem c_X6_add (l : Launch) (D : va_G) (cI cZ : ClassId) (mm : Nat) (m1 : Nat) (m2 : Nat) (m3 : Nat) (m4 : Nat) (m5 : Nat) (m6 : Nat) (m7 : Nat) (m8 : Nat) (m9 : Nat) (np : Nat) (nh : Nat) (nn : Nat) (re : Int32) (ro : Int32) (tm : Int32) (ln : Nat → Int32) (bo : Nat → Int32) (x : Int32) (y : Int32) (hnp : np < 12) : Met l yX6_add wsX6_add rmX6_add (va_Pc [.ref mm, .int x, .int y] (PW D cI cZ [(mm, .inr (6, [.int (nI np), .ref m1, .ref m2, .int (nI nh), .ref m3, .ref m4, .int (nI nn), .ref m5, .ref m6, .ref m7, .ref m8, .int re, .int ro, .ref m9, .int tm])), (m1, .inl (cI, 12, .inl ln)), (m2, .inl (cI, 12, .inl bo))])) (WV (S := Unit) D (fun _ => True) (fun _ => [(mm, .inr (6, [.int (nI (np + 1)), .ref m1, .ref m2, .int (nI nh), .ref m3, .ref m4, .int (nI nn), .ref m5, .ref m6, .ref m7, .ref m8, .int re, .int ro, .ref m9, .int tm])), (m1, .inl (cI, 12, .inl (upd ln np x))), (m2, .inl (cI, 12, .inl (upd bo np y)))]) [(mm, .inr (6, [.int (nI np), .ref m1, .ref m2, .int (nI nh), .ref m3, .ref m4, .int (nI nn), .ref m5, .ref m6, .ref m7, .ref m8, .int re, .int ro, .ref m9, .int tm])), (m1, .inl (cI, 12, .inl ln)), (m2, .inl (cI, 12, .inl bo))]) 0 0 (ad [(mm, .inr (6, [.int (nI np), .ref m1, .ref m2, .int (nI nh), .ref m3, .ref m4, .int (nI nn), .ref m5, .ref m6, .ref m7, .ref m8, .int re, .int ro, .ref m9, .int tm])), (m1, .inl (cI, 12, .inl ln)), (m2, .inl (cI, 12, .inl bo))]) := by
  refine met_go (cc := cX6_add) (maxL := 3) (ret := none) (by decide) rfl ?_ (Nat.le_of_ble_eq_true rfl)
  intro p e s m a below meth c Q hQ _ hx hb hr hml hts hown hlk hnm hpre ls hl
  have hown : s.vm.findClass RX6 = some m.cls := hown
  obtain ⟨hP, hK, hD0⟩ := hpre
  have hN := hK.2
  obtain ⟨A, hAe⟩ : ∃ A : Nat → Prop, A = ad [(mm, .inr (6, [.int (nI np), .ref m1, .ref m2, .int (nI nh), .ref m3, .ref m4, .int (nI nn), .ref m5, .ref m6, .ref m7, .ref m8, .int re, .int ro, .ref m9, .int tm])), (m1, .inl (cI, 12, .inl ln)), (m2, .inl (cI, 12, .inl bo))] := ⟨_, rfl⟩
  have hD : va_D A [(mm, .inr (6, [.int (nI np), .ref m1, .ref m2, .int (nI nh), .ref m3, .ref m4, .int (nI nn), .ref m5, .ref m6, .ref m7, .ref m8, .int re, .int ro, .ref m9, .int tm])), (m1, .inl (cI, 12, .inl ln)), (m2, .inl (cI, 12, .inl bo))] := by rw [hAe]; exact hD0.ad
  have hS : va_S A s.heap s.heap [] := va_S.rf
  have hl : lv_has ls 3 [(0, .ref mm), (1, .int x), (2, .int y)] := hl
  have k6 : ∀ w ∈ wsX60, w ∈ wsX6_add := fun w h => List.mem_cons_of_mem _ (List.mem_append_right _ h)
  refine lv_aload_n hx hb dX6_add_0 rfl (lv_at hl 0 rfl) ?_
  refine va_get (D := D) (ci := 6) (v := .ref m1) (C := RX6) (T := TX6) (N := 15) hx hb hts k6 hown hK.1 hP 0 rfl rfl 1 (by decide) (hts (.fieldLink RX6 7 "BoredPipesModel" "lengths" "[I") (List.mem_of_getElem? (i := 1) rfl)) (fun _ h9 => h9) rfl dX6_add_1 ?_
  refine lv_aload_n hx hb dX6_add_4 rfl (lv_at hl 0 rfl) ?_
  refine va_get (D := D) (ci := 6) (v := .int (nI np)) (C := RX6) (T := TX6) (N := 15) hx hb hts k6 hown hK.1 hP 0 rfl rfl 0 (by decide) (hts (.fieldLink RX6 42 "BoredPipesModel" "pieces" "I") (List.mem_of_getElem? (i := 2) rfl)) (fun _ h9 => h9) rfl dX6_add_5 ?_
  refine lv_iload_n hx hb dX6_add_8 rfl (lv_at hl 1 rfl) ?_
  refine iast_n (k := np) hx hb hK.1 hP hD hS 1 rfl (by omega) (by decide) dX6_add_9 (fun H locs hP hD hS => ?_)
  have hP : va_P D vwCl [(mm, .inr (6, [.int (nI np), .ref m1, .ref m2, .int (nI nh), .ref m3, .ref m4, .int (nI nn), .ref m5, .ref m6, .ref m7, .ref m8, .int re, .int ro, .ref m9, .int tm])), (m1, .inl (cI, 12, .inl (upd ln np x))), (m2, .inl (cI, 12, .inl bo))] H := hP
  have hD : va_D A [(mm, .inr (6, [.int (nI np), .ref m1, .ref m2, .int (nI nh), .ref m3, .ref m4, .int (nI nn), .ref m5, .ref m6, .ref m7, .ref m8, .int re, .int ro, .ref m9, .int tm])), (m1, .inl (cI, 12, .inl (upd ln np x))), (m2, .inl (cI, 12, .inl bo))] := hD
  refine lv_aload_n hx hb dX6_add_10 rfl (lv_at hl 0 rfl) ?_
  refine va_get (D := D) (ci := 6) (v := .ref m2) (C := RX6) (T := TX6) (N := 15) hx hb hts k6 hown hK.1 hP 0 rfl rfl 2 (by decide) (hts (.fieldLink RX6 13 "BoredPipesModel" "bores" "[I") (List.mem_of_getElem? (i := 3) rfl)) (fun _ h9 => h9) rfl dX6_add_11 ?_
  refine lv_aload_n hx hb dX6_add_14 rfl (lv_at hl 0 rfl) ?_
  refine va_get (D := D) (ci := 6) (v := .int (nI np)) (C := RX6) (T := TX6) (N := 15) hx hb hts k6 hown hK.1 hP 0 rfl rfl 0 (by decide) (hts (.fieldLink RX6 42 "BoredPipesModel" "pieces" "I") (List.mem_of_getElem? (i := 2) rfl)) (fun _ h9 => h9) rfl dX6_add_15 ?_
  refine lv_iload_n hx hb dX6_add_18 rfl (lv_at hl 2 rfl) ?_
  refine iast_n (k := np) hx hb hK.1 hP hD hS 2 rfl (by omega) (by decide) dX6_add_19 (fun H locs hP hD hS => ?_)
  have hP : va_P D vwCl [(mm, .inr (6, [.int (nI np), .ref m1, .ref m2, .int (nI nh), .ref m3, .ref m4, .int (nI nn), .ref m5, .ref m6, .ref m7, .ref m8, .int re, .int ro, .ref m9, .int tm])), (m1, .inl (cI, 12, .inl (upd ln np x))), (m2, .inl (cI, 12, .inl (upd bo np y)))] H := hP
  have hD : va_D A [(mm, .inr (6, [.int (nI np), .ref m1, .ref m2, .int (nI nh), .ref m3, .ref m4, .int (nI nn), .ref m5, .ref m6, .ref m7, .ref m8, .int re, .int ro, .ref m9, .int tm])), (m1, .inl (cI, 12, .inl (upd ln np x))), (m2, .inl (cI, 12, .inl (upd bo np y)))] := hD
  refine lv_aload_n hx hb dX6_add_20 rfl (lv_at hl 0 rfl) ?_
  refine lv_dup hx hb dX6_add_21 rfl ?_
  refine va_get (D := D) (ci := 6) (v := .int (nI np)) (C := RX6) (T := TX6) (N := 15) hx hb hts k6 hown hK.1 hP 0 rfl rfl 0 (by decide) (hts (.fieldLink RX6 42 "BoredPipesModel" "pieces" "I") (List.mem_of_getElem? (i := 2) rfl)) (fun _ h9 => h9) rfl dX6_add_22 ?_
  refine lv_iconst (v := 1) hx hb dX6_add_25 (by decide) ?_
  refine nn_iadd hx hb dX6_add_26 (x := np) (y := 1) rfl rfl ?_
  refine va_put (D := D) (ci := 6) (v := .int (nI (np + 1))) (ty := .int) (C := RX6) (T := TX6) (N := 15) hx hb hts k6 tyX6 tyX6_ok nmX6 hown hK.1 hP hD hS 0 rfl rfl 0 (by decide) (hts (.fieldLink RX6 42 "BoredPipesModel" "pieces" "I") (List.mem_of_getElem? (i := 2) rfl)) (fun _ h9 => h9) rfl (tyX6_ok 0 (by decide)) rfl rfl (Nat.le_of_ble_eq_true rfl) dX6_add_27 (fun H locs hP hD hS => ?_)
  have hP : va_P D vwCl [(mm, .inr (6, [.int (nI (np + 1)), .ref m1, .ref m2, .int (nI nh), .ref m3, .ref m4, .int (nI nn), .ref m5, .ref m6, .ref m7, .ref m8, .int re, .int ro, .ref m9, .int tm])), (m1, .inl (cI, 12, .inl (upd ln np x))), (m2, .inl (cI, 12, .inl (upd bo np y)))] H := hP
  have hD : va_D A [(mm, .inr (6, [.int (nI (np + 1)), .ref m1, .ref m2, .int (nI nh), .ref m3, .ref m4, .int (nI nn), .ref m5, .ref m6, .ref m7, .ref m8, .int re, .int ro, .ref m9, .int tm])), (m1, .inl (cI, 12, .inl (upd ln np x))), (m2, .inl (cI, 12, .inl (upd bo np y)))] := hD
  exact ret_WV hQ hx hb hr hlk hAe () hP hS trivial dX6_add_30
