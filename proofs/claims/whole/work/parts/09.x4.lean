set_option maxHeartbeats 4000000 in
set_option maxRecDepth 100000 in
theorem c_X4_isTooBig (l : Launch) (D : va_G) (cI cZ : ClassId) (v : Int64)  : Met l yX4_isTooBig wsX4_isTooBig rmX4_isTooBig (va_Pc [.long v] (PR D cI cZ [])) (RI (fBig v)) 0 0 nA := by
  refine met_go (cc := cX4_isTooBig) (maxL := 2) (ret := (some .boolean)) (by decide) rfl ?_ (Nat.le_of_ble_eq_true rfl)
  intro p e s m a below meth c Q hQ _ hx hb hr hml hts hown hlk hnm hpre ls hl
  have hown : s.vm.findClass RX4 = some m.cls := hown
  obtain ⟨hP, hK⟩ := hpre
  have hN := hK.2
  have hS : va_S nA s.heap s.heap [] := va_S.rf
  have hl : lv_has ls 2 [(0, .long v)] := hl
  refine lv_lload_n hx hb dX4_isTooBig_0 rfl (lv_at hl 0 rfl) ?_
  refine lv_ldc2 hx hb hown (hts (.constantLong RX4 107 (1099511627776)) (List.mem_of_getElem? (i := 1) rfl)) dX4_isTooBig_1 ?_
  refine W.lcmp hx hb dX4_isTooBig_4 ?_
  refine lv_if_ge (tgt := 16) hx hb dX4_isTooBig_5 (by decide) (fun c1 => ?_) (fun c1 => ?_)
  · skip
    have c1 : 1099511627776 ≤ v := (lg_cmp_ge v 1099511627776).mp c1
    refine lv_iconst (v := 1) hx hb dX4_isTooBig_16 (by decide) ?_
    refine lv_goto (tgt := 21) hx hb dX4_isTooBig_17 (by decide) ?_
    exact ret_RZ hQ hx hb hr rfl hlk hS (show fBig v = 1 from (by first | with_reducible rfl | (simp only [fBig, if_pos c1]; done) | (simp [fBig, if_pos c1]; done))).symm dX4_isTooBig_21
  · skip
    have c1 : ¬ (1099511627776 ≤ v) := fun h9 => c1 ((lg_cmp_ge v 1099511627776).mpr h9)
    refine lv_lload_n hx hb dX4_isTooBig_8 rfl (lv_at hl 0 rfl) ?_
    refine lv_ldc2 hx hb hown (hts (.constantLong RX4 109 (-1099511627776)) (List.mem_of_getElem? (i := 2) rfl)) dX4_isTooBig_9 ?_
    refine W.lcmp hx hb dX4_isTooBig_12 ?_
    refine lv_if_gt (tgt := 20) hx hb dX4_isTooBig_13 (by decide) (fun c2 => ?_) (fun c2 => ?_)
    · skip
      have c2 : (-1099511627776) < v := (lg_cmp_gt v (-1099511627776)).mp c2
      refine lv_iconst (v := 0) hx hb dX4_isTooBig_20 (by decide) ?_
      exact ret_RZ hQ hx hb hr rfl hlk hS (show fBig v = 0 from (by first | with_reducible rfl | (simp only [fBig, if_neg c1, if_pos c2]; done) | (simp [fBig, if_neg c1, if_pos c2]; done))).symm dX4_isTooBig_21
    · skip
      have c2 : ¬ ((-1099511627776) < v) := fun h9 => c2 ((lg_cmp_gt v (-1099511627776)).mpr h9)
      refine lv_iconst (v := 1) hx hb dX4_isTooBig_16 (by decide) ?_
      refine lv_goto (tgt := 21) hx hb dX4_isTooBig_17 (by decide) ?_
      exact ret_RZ hQ hx hb hr rfl hlk hS (show fBig v = 1 from (by first | with_reducible rfl | (simp only [fBig, if_neg c1, if_neg c2]; done) | (simp [fBig, if_neg c1, if_neg c2]; done))).symm dX4_isTooBig_21

set_option maxHeartbeats 4000000 in
set_option maxRecDepth 100000 in
theorem c_X4_shiftFor (l : Launch) (D : va_G) (cI cZ : ClassId) (x : Int64) (y : Int64)  : Met l yX4_shiftFor wsX4_shiftFor rmX4_shiftFor (va_Pc [.long x, .long y] (PR D cI cZ [])) (RI (fShift x y 7 0)) 0 0 nA := by
  refine met_go (cc := cX4_shiftFor) (maxL := 5) (ret := (some .int)) (by decide) rfl ?_ (Nat.le_of_ble_eq_true rfl)
  intro p e s m a below meth c Q hQ _ hx hb hr hml hts hown hlk hnm hpre ls hl
  have hown : s.vm.findClass RX4 = some m.cls := hown
  obtain ⟨hP, hK⟩ := hpre
  have hN := hK.2
  have hS : va_S nA s.heap s.heap [] := va_S.rf
  have hl : lv_has ls 5 [(0, .long x), (2, .long y)] := hl
  refine lv_iconst (v := 0) hx hb dX4_shiftFor_0 (by decide) ?_
  refine lv_istore (lv' := [(4, .int 0), (0, .long x), (2, .long y)]) hx hb dX4_shiftFor_1 hl (by decide) rfl (fun ls hl => ?_)
  have lp_3 : ∀ (r : Nat) (i : Nat), (i + 8 * r = 56) → (fShift x y 7 0 = fShift x y r i) → ∀ (H : Heap) (locs : List Loc), va_P D vwCl [] H → va_S nA s.heap H locs → ∀ (ls : Array Slot), lv_has ls 5 [(4, .int (nI i)), (0, .long x), (2, .long y)] → W p l e rmX4_shiftFor s m a below meth c H locs 0 0 Q (F0 m 3 ls []) := by
    intro r
    induction r with
    | zero =>
      intro i hi hF H locs hP hS ls hl
      refine lv_iload hx hb dX4_shiftFor_3 (lv_at hl 0 rfl) ?_
      refine lv_bipush (v := 56) hx hb dX4_shiftFor_5 (by decide) ?_
      refine lv_icmp_ge (tgt := 36) hx hb dX4_shiftFor_7 (by decide) (fun c1 => ?_) (fun c1 => absurd ((nI_le (a := 56) (b := i) (by omega) (by omega))) c1)
      refine lv_iload hx hb dX4_shiftFor_36 (lv_at hl 0 rfl) ?_
      exact ret_RI hQ hx hb hr hlk hS (hF.trans (by first | with_reducible rfl | (simp only [fShift, if_pos c1]; done) | (simp [fShift, if_pos c1]; done))).symm dX4_shiftFor_38
    | succ r ih_3 =>
      intro i hi hF H locs hP hS ls hl
      refine lv_iload hx hb dX4_shiftFor_3 (lv_at hl 0 rfl) ?_
      refine lv_bipush (v := 56) hx hb dX4_shiftFor_5 (by decide) ?_
      refine lv_icmp_ge (tgt := 36) hx hb dX4_shiftFor_7 (by decide) (fun c2 => absurd c2 ((nI_ge (a := i) (b := 56) (by omega) (by omega)))) (fun c2 => ?_)
      refine lv_lload_n hx hb dX4_shiftFor_10 rfl (lv_at hl 1 rfl) ?_
      refine lv_iload hx hb dX4_shiftFor_11 (lv_at hl 0 rfl) ?_
      refine lv_lshr hx hb dX4_shiftFor_13 rfl ?_
      refine rd_i (va_runS (As := [.long (x >>> ((nI i).toInt64 &&& 63))]) (rest := []) ⟨hx, hb, hml, hown, hts⟩ (c_X4_isTooBig l D cI cZ (x >>> ((nI i).toInt64 &&& 63))) (va_cwS 1 hts gX4_shiftFor_X4_isTooBig rfl rfl rfl hdV_X4_isTooBig.2 ⟨Nat.le_of_ble_eq_true rfl, Nat.le_of_ble_eq_true rfl⟩) (PR.S hP hK) rfl rfl hl.1 rfl (lv_room (Nat.le_of_ble_eq_true rfl)) dX4_shiftFor_14 ⟨Nat.le_of_ble_eq_true rfl, Nat.le_of_ble_eq_true rfl⟩) hP hS (fun H locs hP hS => ?_)
      refine lv_if_ne (tgt := 30) hx hb dX4_shiftFor_17 (by decide) (fun c3 => ?_) (fun c3 => ?_)
      · skip
        refine lv_iinc (v := nI (i + 8)) (lv' := [(4, .int (nI (i + 8))), (0, .long x), (2, .long y)]) hx hb dX4_shiftFor_30 hl (k := 0) rfl (iinc_8 i) (by decide) rfl (fun ls hl => ?_)
        refine lv_goto (tgt := 3) hx hb dX4_shiftFor_33 (by decide) ?_
        exact ih_3 (i + 8) (by omega) (hF.trans (by first | with_reducible rfl | (simp only [fShift, if_neg c2, if_neg c3]; done) | (simp [fShift, if_neg c2, if_neg c3]; done))) _ _ hP hS ls (lv_sub hl [0, 1, 2] rfl)
      · skip
        refine lv_lload_n hx hb dX4_shiftFor_20 rfl (lv_at hl 2 rfl) ?_
        refine lv_iload hx hb dX4_shiftFor_21 (lv_at hl 0 rfl) ?_
        refine lv_lshr hx hb dX4_shiftFor_23 rfl ?_
        refine rd_i (va_runS (As := [.long (y >>> ((nI i).toInt64 &&& 63))]) (rest := []) ⟨hx, hb, hml, hown, hts⟩ (c_X4_isTooBig l D cI cZ (y >>> ((nI i).toInt64 &&& 63))) (va_cwS 1 hts gX4_shiftFor_X4_isTooBig rfl rfl rfl hdV_X4_isTooBig.2 ⟨Nat.le_of_ble_eq_true rfl, Nat.le_of_ble_eq_true rfl⟩) (PR.S hP hK) rfl rfl hl.1 rfl (lv_room (Nat.le_of_ble_eq_true rfl)) dX4_shiftFor_24 ⟨Nat.le_of_ble_eq_true rfl, Nat.le_of_ble_eq_true rfl⟩) hP hS (fun H locs hP hS => ?_)
        refine lv_if_eq (tgt := 36) hx hb dX4_shiftFor_27 (by decide) (fun c4 => ?_) (fun c4 => ?_)
        · skip
          refine lv_iload hx hb dX4_shiftFor_36 (lv_at hl 0 rfl) ?_
          exact ret_RI hQ hx hb hr hlk hS (hF.trans (by first | with_reducible rfl | (simp only [fShift, if_neg c2, if_pos c3, if_pos c4]; done) | (simp [fShift, if_neg c2, if_pos c3, if_pos c4]; done))).symm dX4_shiftFor_38
        · skip
          refine lv_iinc (v := nI (i + 8)) (lv' := [(4, .int (nI (i + 8))), (0, .long x), (2, .long y)]) hx hb dX4_shiftFor_30 hl (k := 0) rfl (iinc_8 i) (by decide) rfl (fun ls hl => ?_)
          refine lv_goto (tgt := 3) hx hb dX4_shiftFor_33 (by decide) ?_
          exact ih_3 (i + 8) (by omega) (hF.trans (by first | with_reducible rfl | (simp only [fShift, if_neg c2, if_pos c3, if_neg c4]; done) | (simp [fShift, if_neg c2, if_pos c3, if_neg c4]; done))) _ _ hP hS ls (lv_sub hl [0, 1, 2] rfl)
  exact lp_3 7 0 (by omega) rfl _ _ hP hS ls (lv_sub hl [0, 1, 2] rfl)

set_option maxHeartbeats 4000000 in
set_option maxRecDepth 100000 in
theorem c_X4_isOpen (l : Launch) (D : va_G) (cI cZ : ClassId) (t : Nat) (t1 : Nat) (t2 : Nat) (t3 : Nat) (t4 : Nat) (t5 : Nat) (mn : Nat) (su : Int32) (rd : Int32) (hf : Nat → Int32) (k : Nat) (w : Int32) (hk : k < 18) : Met l yX4_isOpen wsX4_isOpen rmX4_isOpen (va_Pc [.ref t, .int (nI k), .int w] (PR D cI cZ [(t, .inr (4, [.ref t1, .ref t2, .ref t3, .ref t4, .ref t5, .int (nI mn), .int su, .int rd])), (t3, .inl (cI, 18, .inl hf))])) (RI (fOpen (hf k) w)) 0 0 nA := by
  refine met_go (cc := cX4_isOpen) (maxL := 4) (ret := (some .boolean)) (by decide) rfl ?_ (Nat.le_of_ble_eq_true rfl)
  intro p e s m a below meth c Q hQ _ hx hb hr hml hts hown hlk hnm hpre ls hl
  have hown : s.vm.findClass RX4 = some m.cls := hown
  obtain ⟨hP, hK⟩ := hpre
  have hN := hK.2
  have hS : va_S nA s.heap s.heap [] := va_S.rf
  have hl : lv_has ls 4 [(0, .ref t), (1, .int (nI k)), (2, .int w)] := hl
  have k4 : ∀ w ∈ wsX40, w ∈ wsX4_isOpen := fun w h => List.mem_cons_of_mem _ (List.mem_append_right _ h)
  refine lv_aload_n hx hb dX4_isOpen_0 rfl (lv_at hl 0 rfl) ?_
  refine va_get (D := D) (ci := 4) (v := .ref t3) (C := RX4) (T := TX4) (N := 8) hx hb hts k4 hown hK.1 hP 0 rfl rfl 2 (by decide) (hts (.fieldLink RX4 18 "BoredPipes$Stretches" "holes" "[I") (List.mem_of_getElem? (i := 1) rfl)) (fun _ h9 => h9) rfl dX4_isOpen_1 ?_
  refine lv_iload_n hx hb dX4_isOpen_4 rfl (lv_at hl 1 rfl) ?_
  refine rd_i (va_runSN (As := [.ref t3, .int (nI k)]) (rest := []) ⟨hx, hb, hml, hown, hts⟩ (c_X5_at_in l D cI cZ t3 18 hf k (by first | omega | exact hk) (by omega)) ⟨va_cnB 2 hts gX4_isOpen_X5_at_n74 rfl rfl rfl (nwL9 hN) (hts (.initialized RX5) (List.mem_of_getElem? (i := 3) rfl)) hdV_X5_at.2 ⟨Nat.le_of_ble_eq_true rfl, Nat.le_of_ble_eq_true rfl⟩, (hts (.static yX5_at) (List.mem_of_getElem? (i := 2) rfl)), trivial⟩ (PR.S (hP.sub [1] rfl) hK) rfl rfl hl.1 rfl (lv_room (Nat.le_of_ble_eq_true rfl)) dX4_isOpen_5 ⟨Nat.le_of_ble_eq_true rfl, Nat.le_of_ble_eq_true rfl⟩) hP hS (fun H locs hP hS => ?_)
  refine lv_istore_n (lv' := [(3, .int (hf k)), (0, .ref t), (1, .int (nI k)), (2, .int w)]) hx hb dX4_isOpen_8 rfl hl (by decide) rfl (fun ls hl => ?_)
  refine lv_iload_n hx hb dX4_isOpen_9 rfl (lv_at hl 0 rfl) ?_
  refine lv_iconst (v := (-1)) hx hb dX4_isOpen_10 (by decide) ?_
  refine lv_icmp_eq (tgt := 27) hx hb dX4_isOpen_11 (by decide) (fun c1 => ?_) (fun c1 => ?_)
  · skip
    refine lv_iconst (v := 0) hx hb dX4_isOpen_27 (by decide) ?_
    exact ret_RZ hQ hx hb hr rfl hlk hS (show fOpen (hf k) w = 0 from (by first | with_reducible rfl | (simp only [fOpen, if_pos c1]; done) | (simp [fOpen, if_pos c1]; done))).symm dX4_isOpen_28
  · skip
    refine lv_iload_n hx hb dX4_isOpen_14 rfl (lv_at hl 3 rfl) ?_
    refine lv_iload_n hx hb dX4_isOpen_15 rfl (lv_at hl 0 rfl) ?_
    refine lv_ishr hx hb dX4_isOpen_16 ?_
    refine lv_iconst (v := 1) hx hb dX4_isOpen_17 (by decide) ?_
    refine lv_iand hx hb dX4_isOpen_18 ?_
    refine lv_iconst (v := 1) hx hb dX4_isOpen_19 (by decide) ?_
    refine lv_icmp_ne (tgt := 27) hx hb dX4_isOpen_20 (by decide) (fun c2 => ?_) (fun c2 => ?_)
    · skip
      refine lv_iconst (v := 0) hx hb dX4_isOpen_27 (by decide) ?_
      exact ret_RZ hQ hx hb hr rfl hlk hS (show fOpen (hf k) w = 0 from (by first | with_reducible rfl | (simp only [fOpen, if_neg c1, if_neg c2]; done) | (simp [fOpen, if_neg c1, if_neg c2]; done))).symm dX4_isOpen_28
    · skip
      refine lv_iconst (v := 1) hx hb dX4_isOpen_23 (by decide) ?_
      refine lv_goto (tgt := 28) hx hb dX4_isOpen_24 (by decide) ?_
      exact ret_RZ hQ hx hb hr rfl hlk hS (show fOpen (hf k) w = 1 from (by first | with_reducible rfl | (simp only [fOpen, if_neg c1, if_pos c2]; done) | (simp [fOpen, if_neg c1, if_pos c2]; done))).symm dX4_isOpen_28

set_option maxHeartbeats 4000000 in
set_option maxRecDepth 100000 in
theorem c_X4_worthOf (l : Launch) (D : va_G) (cI cZ : ClassId) (t : Nat) (t1 : Nat) (t2 : Nat) (t3 : Nat) (t4 : Nat) (t5 : Nat) (mn : Nat) (su : Int32) (rd : Int32) (lf : Nat → Int32) (bf : Nat → Int32) (hf : Nat → Int32) (sf : Nat → Int32) (cf : Nat → Int32) (xl : Nat → Int32) (xb : Nat → Int32) (xh : Nat → Int32) (xs : Nat → Int32) (xc : Nat → Int32) (f : Int32) (w : Int32) (hmn : mn ≤ 18) (hc : CutEq mn lf bf hf sf cf xl xb xh xs xc) : Met l yX4_worthOf wsX4_worthOf rmX4_worthOf (va_Pc [.ref t, .int f, .int w] (PR D cI cZ [(t, .inr (4, [.ref t1, .ref t2, .ref t3, .ref t4, .ref t5, .int (nI mn), .int su, .int rd])), (t1, .inl (cI, 18, .inl lf)), (t2, .inl (cI, 18, .inl bf)), (t3, .inl (cI, 18, .inl hf)), (t4, .inl (cI, 18, .inl sf)), (t5, .inl (cI, 18, .inl cf))])) (RJ (fWorth su rd mn xl xb xh xs xc w f)) 0 0 nA := by
  refine met_go (cc := cX4_worthOf) (maxL := 22) (ret := (some .long)) (by decide) rfl ?_ (Nat.le_of_ble_eq_true rfl)
  intro p e s m a below meth c Q hQ _ hx hb hr hml hts hown hlk hnm hpre ls hl
  have hown : s.vm.findClass RX4 = some m.cls := hown
  obtain ⟨hP, hK⟩ := hpre
  have hN := hK.2
  have hS : va_S nA s.heap s.heap [] := va_S.rf
  have hl : lv_has ls 22 [(0, .ref t), (1, .int f), (2, .int w)] := hl
  have k4 : ∀ w ∈ wsX40, w ∈ wsX4_worthOf := fun w h => List.mem_cons_of_mem _ (List.mem_append_right _ h)
  refine lv_aload_n hx hb dX4_worthOf_0 rfl (lv_at hl 0 rfl) ?_
  refine va_get (D := D) (ci := 4) (v := .int su) (C := RX4) (T := TX4) (N := 8) hx hb hts k4 hown hK.1 hP 0 rfl rfl 6 (by decide) (hts (.fieldLink RX4 31 "BoredPipes$Stretches" "shut" "Z") (List.mem_of_getElem? (i := 1) rfl)) (fun _ h9 => h9) rfl dX4_worthOf_1 ?_
  have jn_4 : ∀ (H : Heap) (locs : List Loc), va_P D vwCl [(t, .inr (4, [.ref t1, .ref t2, .ref t3, .ref t4, .ref t5, .int (nI mn), .int su, .int rd])), (t1, .inl (cI, 18, .inl lf)), (t2, .inl (cI, 18, .inl bf)), (t3, .inl (cI, 18, .inl hf)), (t4, .inl (cI, 18, .inl sf)), (t5, .inl (cI, 18, .inl cf))] H → va_S nA s.heap H locs → W p l e rmX4_worthOf s m a below meth c H locs 0 0 Q (F0 m 14 ls [.long (if su = 0 then 0 else 1048576)]) := by
    intro H locs hP hS
    refine lv_lstore_n (lv' := [(3, .long (if su = 0 then 0 else 1048576)), (0, .ref t), (1, .int f), (2, .int w)]) hx hb dX4_worthOf_14 rfl hl (by decide) rfl (fun ls hl => ?_)
    refine lv_aload_n hx hb dX4_worthOf_15 rfl (lv_at hl 1 rfl) ?_
    refine va_get (D := D) (ci := 4) (v := .int su) (C := RX4) (T := TX4) (N := 8) hx hb hts k4 hown hK.1 hP 0 rfl rfl 6 (by decide) (hts (.fieldLink RX4 31 "BoredPipes$Stretches" "shut" "Z") (List.mem_of_getElem? (i := 1) rfl)) (fun _ h9 => h9) rfl dX4_worthOf_16 ?_
    have jn_19 : ∀ (H : Heap) (locs : List Loc), va_P D vwCl [(t, .inr (4, [.ref t1, .ref t2, .ref t3, .ref t4, .ref t5, .int (nI mn), .int su, .int rd])), (t1, .inl (cI, 18, .inl lf)), (t2, .inl (cI, 18, .inl bf)), (t3, .inl (cI, 18, .inl hf)), (t4, .inl (cI, 18, .inl sf)), (t5, .inl (cI, 18, .inl cf))] H → va_S nA s.heap H locs → W p l e rmX4_worthOf s m a below meth c H locs 0 0 Q (F0 m 29 ls [.long (if su = 0 then 1048576 else 0)]) := by
      intro H locs hP hS
      refine lv_lstore (lv' := [(5, .long (if su = 0 then 1048576 else 0)), (3, .long (if su = 0 then 0 else 1048576)), (0, .ref t), (1, .int f), (2, .int w)]) hx hb dX4_worthOf_29 hl (by decide) rfl (fun ls hl => ?_)
      refine lv_iconst (v := 0) hx hb dX4_worthOf_31 (by decide) ?_
      refine lv_istore (lv' := [(7, .int 0), (5, .long (if su = 0 then 1048576 else 0)), (3, .long (if su = 0 then 0 else 1048576)), (0, .ref t), (1, .int f), (2, .int w)]) hx hb dX4_worthOf_32 hl (by decide) rfl (fun ls hl => ?_)
      have lp_34 : ∀ (r : Nat) (i : Nat) (pp : Int64) (uu : Int64), (i + r = mn) → (fWorth su rd mn xl xb xh xs xc w f = fWl rd xl xb xh xs xc w f r i pp uu) → ∀ (H : Heap) (locs : List Loc), va_P D vwCl [(t, .inr (4, [.ref t1, .ref t2, .ref t3, .ref t4, .ref t5, .int (nI mn), .int su, .int rd])), (t1, .inl (cI, 18, .inl lf)), (t2, .inl (cI, 18, .inl bf)), (t3, .inl (cI, 18, .inl hf)), (t4, .inl (cI, 18, .inl sf)), (t5, .inl (cI, 18, .inl cf))] H → va_S nA s.heap H locs → ∀ (ls : Array Slot), lv_has ls 22 [(7, .int (nI i)), (5, .long uu), (3, .long pp), (0, .ref t), (1, .int f), (2, .int w)] → W p l e rmX4_worthOf s m a below meth c H locs 0 0 Q (F0 m 34 ls []) := by
        intro r
        induction r with
        | zero =>
          intro i pp uu hi hF H locs hP hS ls hl
          refine lv_iload hx hb dX4_worthOf_34 (lv_at hl 0 rfl) ?_
          refine lv_aload_n hx hb dX4_worthOf_36 rfl (lv_at hl 3 rfl) ?_
          refine va_get (D := D) (ci := 4) (v := .int (nI mn)) (C := RX4) (T := TX4) (N := 8) hx hb hts k4 hown hK.1 hP 0 rfl rfl 5 (by decide) (hts (.fieldLink RX4 27 "BoredPipes$Stretches" "many" "I") (List.mem_of_getElem? (i := 3) rfl)) (fun _ h9 => h9) rfl dX4_worthOf_37 ?_
          refine lv_icmp_ge (tgt := 242) hx hb dX4_worthOf_40 (by decide) (fun c3 => ?_) (fun c3 => absurd ((nI_le (a := mn) (b := i) (by omega) (by omega))) c3)
          refine lv_aload_n hx hb dX4_worthOf_242 rfl (lv_at hl 3 rfl) ?_
          refine va_get (D := D) (ci := 4) (v := .int rd) (C := RX4) (T := TX4) (N := 8) hx hb hts k4 hown hK.1 hP 0 rfl rfl 7 (by decide) (hts (.fieldLink RX4 35 "BoredPipes$Stretches" "reed" "Z") (List.mem_of_getElem? (i := 11) rfl)) (fun _ h9 => h9) rfl dX4_worthOf_243 ?_
          refine lv_if_eq (tgt := 254) hx hb dX4_worthOf_246 (by decide) (fun c4 => ?_) (fun c4 => ?_)
          · skip
            refine lv_lload_n hx hb dX4_worthOf_254 rfl (lv_at hl 2 rfl) ?_
            exact ret_RJ hQ hx hb hr hlk hS (hF.trans (by first | with_reducible rfl | (simp only [fWorth, fWl, if_pos c3, if_pos c4]; done) | (simp [fWorth, fWl, if_pos c3, if_pos c4]; done))).symm dX4_worthOf_255
          · skip
            refine lv_lload hx hb dX4_worthOf_249 (lv_at hl 1 rfl) ?_
            refine lv_goto (tgt := 255) hx hb dX4_worthOf_251 (by decide) ?_
            exact ret_RJ hQ hx hb hr hlk hS (hF.trans (by first | with_reducible rfl | (simp only [fWorth, fWl, if_pos c3, if_neg c4]; done) | (simp [fWorth, fWl, if_pos c3, if_neg c4]; done))).symm dX4_worthOf_255
        | succ r ih_34 =>
          intro i pp uu hi hF H locs hP hS ls hl
          refine lv_iload hx hb dX4_worthOf_34 (lv_at hl 0 rfl) ?_
          refine lv_aload_n hx hb dX4_worthOf_36 rfl (lv_at hl 3 rfl) ?_
          refine va_get (D := D) (ci := 4) (v := .int (nI mn)) (C := RX4) (T := TX4) (N := 8) hx hb hts k4 hown hK.1 hP 0 rfl rfl 5 (by decide) (hts (.fieldLink RX4 27 "BoredPipes$Stretches" "many" "I") (List.mem_of_getElem? (i := 3) rfl)) (fun _ h9 => h9) rfl dX4_worthOf_37 ?_
          refine lv_icmp_ge (tgt := 242) hx hb dX4_worthOf_40 (by decide) (fun c5 => absurd c5 ((nI_ge (a := i) (b := mn) (by omega) (by omega)))) (fun c5 => ?_)
          refine lv_iload_n hx hb dX4_worthOf_43 rfl (lv_at hl 4 rfl) ?_
          refine lv_aload_n hx hb dX4_worthOf_44 rfl (lv_at hl 3 rfl) ?_
          refine va_get (D := D) (ci := 4) (v := .ref t1) (C := RX4) (T := TX4) (N := 8) hx hb hts k4 hown hK.1 hP 0 rfl rfl 0 (by decide) (hts (.fieldLink RX4 11 "BoredPipes$Stretches" "lengths" "[I") (List.mem_of_getElem? (i := 4) rfl)) (fun _ h9 => h9) rfl dX4_worthOf_45 ?_
          refine lv_iload hx hb dX4_worthOf_48 (lv_at hl 0 rfl) ?_
          refine rd_i (va_runSN (As := [.ref t1, .int (nI i)]) (rest := [.int f]) ⟨hx, hb, hml, hown, hts⟩ (c_X5_at_in l D cI cZ t1 18 lf i (by omega) (by omega)) ⟨va_cnB 2 hts gX4_worthOf_X5_at_n74 rfl rfl rfl (nwL9 hN) (hts (.initialized RX5) (List.mem_of_getElem? (i := 13) rfl)) hdV_X5_at.2 ⟨Nat.le_of_ble_eq_true rfl, Nat.le_of_ble_eq_true rfl⟩, (hts (.static yX5_at) (List.mem_of_getElem? (i := 12) rfl)), trivial⟩ (PR.S (hP.sub [1] rfl) hK) rfl rfl hl.1 rfl (lv_room (Nat.le_of_ble_eq_true rfl)) dX4_worthOf_50 ⟨Nat.le_of_ble_eq_true rfl, Nat.le_of_ble_eq_true rfl⟩) hP hS (fun H locs hP hS => ?_)
          refine lv_eqi (y := xl i) (hc i (by omega)).1 ?_
          refine lv_imul hx hb dX4_worthOf_53 ?_
          refine lv_bipush (v := 16) hx hb dX4_worthOf_54 (by decide) ?_
          refine lv_imul hx hb dX4_worthOf_56 ?_
          refine lv_ldc hx hb hown (hts (.constant RX4 82 (65535)) (List.mem_of_getElem? (i := 5) rfl)) dX4_worthOf_57 ?_
          refine lv_iand hx hb dX4_worthOf_59 ?_
          refine lv_eqi (y := xTurn f (xl i)) rfl ?_
          refine lv_istore (lv' := [(8, .int (xTurn f (xl i))), (7, .int (nI i)), (5, .long uu), (3, .long pp), (0, .ref t), (1, .int f), (2, .int w)]) hx hb dX4_worthOf_60 hl (by decide) rfl (fun ls hl => ?_)
          refine lv_iload hx hb dX4_worthOf_62 (lv_at hl 0 rfl) ?_
          refine rd_l (va_runSN (As := [.int (xTurn f (xl i))]) (rest := []) ⟨hx, hb, hml, hown, hts⟩ (c_X5_sineOf l D cI cZ (xTurn f (xl i))) ⟨va_cnB 1 hts gX4_worthOf_X5_sineOf_n83 rfl rfl rfl (nwL10 hN) (hts (.initialized RX5) (List.mem_of_getElem? (i := 13) rfl)) hdV_X5_sineOf.2 ⟨Nat.le_of_ble_eq_true rfl, Nat.le_of_ble_eq_true rfl⟩, (hts (.static yX5_sineOf) (List.mem_of_getElem? (i := 15) rfl)), trivial⟩ (PR.S (hP.sub [] rfl) hK) rfl rfl hl.1 rfl (lv_room (Nat.le_of_ble_eq_true rfl)) dX4_worthOf_64 ⟨Nat.le_of_ble_eq_true rfl, Nat.le_of_ble_eq_true rfl⟩) hP hS (fun H locs hP hS => ?_)
          refine lv_eqj (y := wS f (xl i)) rfl ?_
          refine lv_lstore (lv' := [(9, .long (wS f (xl i))), (8, .int (xTurn f (xl i))), (7, .int (nI i)), (5, .long uu), (3, .long pp), (0, .ref t), (1, .int f), (2, .int w)]) hx hb dX4_worthOf_67 hl (by decide) rfl (fun ls hl => ?_)
          refine lv_iload hx hb dX4_worthOf_69 (lv_at hl 1 rfl) ?_
          refine lv_sipush (v := 16384) hx hb dX4_worthOf_71 (by decide) ?_
          refine lv_iadd hx hb dX4_worthOf_74 ?_
          refine lv_ldc hx hb hown (hts (.constant RX4 82 (65535)) (List.mem_of_getElem? (i := 5) rfl)) dX4_worthOf_75 ?_
          refine lv_iand hx hb dX4_worthOf_77 ?_
          refine rd_l (va_runSN (As := [.int (((xTurn f (xl i)) + 16384) &&& 65535)]) (rest := []) ⟨hx, hb, hml, hown, hts⟩ (c_X5_sineOf l D cI cZ (((xTurn f (xl i)) + 16384) &&& 65535)) ⟨va_cnB 1 hts gX4_worthOf_X5_sineOf_n83 rfl rfl rfl (nwL10 hN) (hts (.initialized RX5) (List.mem_of_getElem? (i := 13) rfl)) hdV_X5_sineOf.2 ⟨Nat.le_of_ble_eq_true rfl, Nat.le_of_ble_eq_true rfl⟩, (hts (.static yX5_sineOf) (List.mem_of_getElem? (i := 15) rfl)), trivial⟩ (PR.S (hP.sub [] rfl) hK) rfl rfl hl.1 rfl (lv_room (Nat.le_of_ble_eq_true rfl)) dX4_worthOf_78 ⟨Nat.le_of_ble_eq_true rfl, Nat.le_of_ble_eq_true rfl⟩) hP hS (fun H locs hP hS => ?_)
          refine lv_eqj (y := wC f (xl i)) rfl ?_
          refine lv_lstore (lv' := [(11, .long (wC f (xl i))), (9, .long (wS f (xl i))), (8, .int (xTurn f (xl i))), (7, .int (nI i)), (5, .long uu), (3, .long pp), (0, .ref t), (1, .int f), (2, .int w)]) hx hb dX4_worthOf_81 hl (by decide) rfl (fun ls hl => ?_)
          refine lv_aload_n hx hb dX4_worthOf_83 rfl (lv_at hl 6 rfl) ?_
          refine va_get (D := D) (ci := 4) (v := .ref t2) (C := RX4) (T := TX4) (N := 8) hx hb hts k4 hown hK.1 hP 0 rfl rfl 1 (by decide) (hts (.fieldLink RX4 15 "BoredPipes$Stretches" "bores" "[I") (List.mem_of_getElem? (i := 6) rfl)) (fun _ h9 => h9) rfl dX4_worthOf_84 ?_
          refine lv_iload hx hb dX4_worthOf_87 (lv_at hl 3 rfl) ?_
          refine rd_i (va_runSN (As := [.ref t2, .int (nI i)]) (rest := []) ⟨hx, hb, hml, hown, hts⟩ (c_X5_at_in l D cI cZ t2 18 bf i (by omega) (by omega)) ⟨va_cnB 2 hts gX4_worthOf_X5_at_n74 rfl rfl rfl (nwL9 hN) (hts (.initialized RX5) (List.mem_of_getElem? (i := 13) rfl)) hdV_X5_at.2 ⟨Nat.le_of_ble_eq_true rfl, Nat.le_of_ble_eq_true rfl⟩, (hts (.static yX5_at) (List.mem_of_getElem? (i := 12) rfl)), trivial⟩ (PR.S (hP.sub [2] rfl) hK) rfl rfl hl.1 rfl (lv_room (Nat.le_of_ble_eq_true rfl)) dX4_worthOf_89 ⟨Nat.le_of_ble_eq_true rfl, Nat.le_of_ble_eq_true rfl⟩) hP hS (fun H locs hP hS => ?_)
          refine lv_eqi (y := xb i) (hc i (by omega)).2.1 ?_
          refine lv_aload_n hx hb dX4_worthOf_92 rfl (lv_at hl 6 rfl) ?_
          refine va_get (D := D) (ci := 4) (v := .ref t2) (C := RX4) (T := TX4) (N := 8) hx hb hts k4 hown hK.1 hP 0 rfl rfl 1 (by decide) (hts (.fieldLink RX4 15 "BoredPipes$Stretches" "bores" "[I") (List.mem_of_getElem? (i := 6) rfl)) (fun _ h9 => h9) rfl dX4_worthOf_93 ?_
          refine lv_iload hx hb dX4_worthOf_96 (lv_at hl 3 rfl) ?_
          refine rd_i (va_runSN (As := [.ref t2, .int (nI i)]) (rest := [.int (xb i)]) ⟨hx, hb, hml, hown, hts⟩ (c_X5_at_in l D cI cZ t2 18 bf i (by omega) (by omega)) ⟨va_cnB 2 hts gX4_worthOf_X5_at_n74 rfl rfl rfl (nwL9 hN) (hts (.initialized RX5) (List.mem_of_getElem? (i := 13) rfl)) hdV_X5_at.2 ⟨Nat.le_of_ble_eq_true rfl, Nat.le_of_ble_eq_true rfl⟩, (hts (.static yX5_at) (List.mem_of_getElem? (i := 12) rfl)), trivial⟩ (PR.S (hP.sub [2] rfl) hK) rfl rfl hl.1 rfl (lv_room (Nat.le_of_ble_eq_true rfl)) dX4_worthOf_98 ⟨Nat.le_of_ble_eq_true rfl, Nat.le_of_ble_eq_true rfl⟩) hP hS (fun H locs hP hS => ?_)
          refine lv_eqi (y := xb i) (hc i (by omega)).2.1 ?_
          refine lv_imul hx hb dX4_worthOf_101 ?_
          refine lv_i2l hx hb dX4_worthOf_102 rfl ?_
          refine lv_eqj (y := xQ (xb i)) rfl ?_
          refine lv_lstore (lv' := [(13, .long (xQ (xb i))), (11, .long (wC f (xl i))), (9, .long (wS f (xl i))), (8, .int (xTurn f (xl i))), (7, .int (nI i)), (5, .long uu), (3, .long pp), (0, .ref t), (1, .int f), (2, .int w)]) hx hb dX4_worthOf_103 hl (by decide) rfl (fun ls hl => ?_)
          refine lv_lload_n hx hb dX4_worthOf_105 rfl (lv_at hl 6 rfl) ?_
          refine lv_lload hx hb dX4_worthOf_106 (lv_at hl 1 rfl) ?_
          refine lv_lmul hx hb dX4_worthOf_108 ?_
          refine lv_bipush (v := 15) hx hb dX4_worthOf_109 (by decide) ?_
          refine lv_lshr hx hb dX4_worthOf_111 rfl ?_
          refine lv_lload hx hb dX4_worthOf_112 (lv_at hl 5 rfl) ?_
          refine lv_lload hx hb dX4_worthOf_114 (lv_at hl 2 rfl) ?_
          refine lv_lmul hx hb dX4_worthOf_116 ?_
          refine lv_bipush (v := 15) hx hb dX4_worthOf_117 (by decide) ?_
          refine lv_lshr hx hb dX4_worthOf_119 rfl ?_
          refine lv_ldc2 hx hb hown (hts (.constantLong RX4 87 (10000)) (List.mem_of_getElem? (i := 7) rfl)) dX4_worthOf_120 ?_
          refine lv_lmul hx hb dX4_worthOf_123 ?_
          refine lv_lload hx hb dX4_worthOf_124 (lv_at hl 0 rfl) ?_
          refine rd_l (va_runSN (As := [.long (((uu * (wS f (xl i))) >>> ((15 : Int32).toInt64 &&& 63)) * 10000), .long (xQ (xb i))]) (rest := [.long ((pp * (wC f (xl i))) >>> ((15 : Int32).toInt64 &&& 63))]) ⟨hx, hb, hml, hown, hts⟩ (c_X5_quotient l D cI cZ (((uu * (wS f (xl i))) >>> ((15 : Int32).toInt64 &&& 63)) * 10000) (xQ (xb i))) ⟨va_cnB 2 hts gX4_worthOf_X5_quotient_n89 rfl rfl rfl (nwL11 hN) (hts (.initialized RX5) (List.mem_of_getElem? (i := 13) rfl)) hdV_X5_quotient.2 ⟨Nat.le_of_ble_eq_true rfl, Nat.le_of_ble_eq_true rfl⟩, (hts (.static yX5_quotient) (List.mem_of_getElem? (i := 22) rfl)), trivial⟩ (PR.S (hP.sub [] rfl) hK) rfl rfl hl.1 rfl (lv_room (Nat.le_of_ble_eq_true rfl)) dX4_worthOf_126 ⟨Nat.le_of_ble_eq_true rfl, Nat.le_of_ble_eq_true rfl⟩) hP hS (fun H locs hP hS => ?_)
          refine lv_ladd hx hb dX4_worthOf_129 ?_
          refine lv_eqj (y := wP1 f (xl i) (xb i) pp uu) rfl ?_
          refine lv_lstore (lv' := [(15, .long (wP1 f (xl i) (xb i) pp uu)), (13, .long (xQ (xb i))), (11, .long (wC f (xl i))), (9, .long (wS f (xl i))), (8, .int (xTurn f (xl i))), (7, .int (nI i)), (5, .long uu), (3, .long pp), (0, .ref t), (1, .int f), (2, .int w)]) hx hb dX4_worthOf_130 hl (by decide) rfl (fun ls hl => ?_)
          refine lv_lload hx hb dX4_worthOf_132 (lv_at hl 6 rfl) ?_
          refine lv_lload hx hb dX4_worthOf_134 (lv_at hl 2 rfl) ?_
          refine lv_lmul hx hb dX4_worthOf_136 ?_
          refine lv_bipush (v := 15) hx hb dX4_worthOf_137 (by decide) ?_
          refine lv_lshr hx hb dX4_worthOf_139 rfl ?_
          refine lv_lload_n hx hb dX4_worthOf_140 rfl (lv_at hl 7 rfl) ?_
          refine lv_lload hx hb dX4_worthOf_141 (lv_at hl 3 rfl) ?_
          refine lv_lmul hx hb dX4_worthOf_143 ?_
          refine lv_bipush (v := 15) hx hb dX4_worthOf_144 (by decide) ?_
          refine lv_lshr hx hb dX4_worthOf_146 rfl ?_
          refine lv_lload hx hb dX4_worthOf_147 (lv_at hl 1 rfl) ?_
          refine lv_lmul hx hb dX4_worthOf_149 ?_
          refine lv_ldc2 hx hb hown (hts (.constantLong RX4 87 (10000)) (List.mem_of_getElem? (i := 7) rfl)) dX4_worthOf_150 ?_
          refine lv_ldiv hx hb dX4_worthOf_153 (by decide) ?_
          refine lv_lsub hx hb dX4_worthOf_154 ?_
          refine lv_eqj (y := wU1 f (xl i) (xb i) pp uu) rfl ?_
          refine lv_lstore (lv' := [(17, .long (wU1 f (xl i) (xb i) pp uu)), (15, .long (wP1 f (xl i) (xb i) pp uu)), (13, .long (xQ (xb i))), (11, .long (wC f (xl i))), (9, .long (wS f (xl i))), (8, .int (xTurn f (xl i))), (7, .int (nI i)), (5, .long uu), (3, .long pp), (0, .ref t), (1, .int f), (2, .int w)]) hx hb dX4_worthOf_155 hl (by decide) rfl (fun ls hl => ?_)
          refine lv_lload hx hb dX4_worthOf_157 (lv_at hl 1 rfl) ?_
          refine lv_lload hx hb dX4_worthOf_159 (lv_at hl 0 rfl) ?_
          refine rd_i (va_runS (As := [.long (wP1 f (xl i) (xb i) pp uu), .long (wU1 f (xl i) (xb i) pp uu)]) (rest := []) ⟨hx, hb, hml, hown, hts⟩ (c_X4_shiftFor l D cI cZ (wP1 f (xl i) (xb i) pp uu) (wU1 f (xl i) (xb i) pp uu)) (va_cwS 2 hts gX4_worthOf_X4_shiftFor rfl rfl rfl hdV_X4_shiftFor.2 ⟨Nat.le_of_ble_eq_true rfl, Nat.le_of_ble_eq_true rfl⟩) (PR.S (hP.sub [] rfl) hK) rfl rfl hl.1 rfl (lv_room (Nat.le_of_ble_eq_true rfl)) dX4_worthOf_161 ⟨Nat.le_of_ble_eq_true rfl, Nat.le_of_ble_eq_true rfl⟩) hP hS (fun H locs hP hS => ?_)
          refine lv_eqi (y := wSh f (xl i) (xb i) pp uu) rfl ?_
          refine lv_istore (lv' := [(19, .int (wSh f (xl i) (xb i) pp uu)), (17, .long (wU1 f (xl i) (xb i) pp uu)), (15, .long (wP1 f (xl i) (xb i) pp uu)), (13, .long (xQ (xb i))), (11, .long (wC f (xl i))), (9, .long (wS f (xl i))), (8, .int (xTurn f (xl i))), (7, .int (nI i)), (5, .long uu), (3, .long pp), (0, .ref t), (1, .int f), (2, .int w)]) hx hb dX4_worthOf_164 hl (by decide) rfl (fun ls hl => ?_)
          refine lv_lload hx hb dX4_worthOf_166 (lv_at hl 2 rfl) ?_
          refine lv_iload hx hb dX4_worthOf_168 (lv_at hl 0 rfl) ?_
          refine lv_lshr hx hb dX4_worthOf_170 rfl ?_
          refine lv_eqj (y := wP2 f (xl i) (xb i) pp uu) rfl ?_
          refine lv_lstore_n (lv' := [(3, .long (wP2 f (xl i) (xb i) pp uu)), (19, .int (wSh f (xl i) (xb i) pp uu)), (17, .long (wU1 f (xl i) (xb i) pp uu)), (15, .long (wP1 f (xl i) (xb i) pp uu)), (13, .long (xQ (xb i))), (11, .long (wC f (xl i))), (9, .long (wS f (xl i))), (8, .int (xTurn f (xl i))), (7, .int (nI i)), (5, .long uu), (0, .ref t), (1, .int f), (2, .int w)]) hx hb dX4_worthOf_171 rfl hl (by decide) rfl (fun ls hl => ?_)
          refine lv_lload hx hb dX4_worthOf_172 (lv_at hl 2 rfl) ?_
          refine lv_iload hx hb dX4_worthOf_174 (lv_at hl 1 rfl) ?_
          refine lv_lshr hx hb dX4_worthOf_176 rfl ?_
          refine lv_eqj (y := wU2 f (xl i) (xb i) pp uu) rfl ?_
          refine lv_lstore (lv' := [(5, .long (wU2 f (xl i) (xb i) pp uu)), (3, .long (wP2 f (xl i) (xb i) pp uu)), (19, .int (wSh f (xl i) (xb i) pp uu)), (17, .long (wU1 f (xl i) (xb i) pp uu)), (15, .long (wP1 f (xl i) (xb i) pp uu)), (13, .long (xQ (xb i))), (11, .long (wC f (xl i))), (9, .long (wS f (xl i))), (8, .int (xTurn f (xl i))), (7, .int (nI i)), (0, .ref t), (1, .int f), (2, .int w)]) hx hb dX4_worthOf_177 hl (by decide) rfl (fun ls hl => ?_)
          refine lv_aload_n hx hb dX4_worthOf_179 rfl (lv_at hl 10 rfl) ?_
          refine lv_iload hx hb dX4_worthOf_180 (lv_at hl 9 rfl) ?_
          refine lv_iload_n hx hb dX4_worthOf_182 rfl (lv_at hl 12 rfl) ?_
          refine rd_i (va_runV (As := [.int (nI i), .int w]) (rest := []) ⟨hx, hb, hml, hown, hts⟩ (c_X4_isOpen l D cI cZ t t1 t2 t3 t4 t5 mn su rd hf i w (by omega)) (cwV 2 hts gX4_worthOf_X4_isOpen rfl rfl rfl hdV_X4_isOpen ⟨Nat.le_of_ble_eq_true rfl, Nat.le_of_ble_eq_true rfl⟩) (PR.V (hP.sub [0, 3] rfl) hK hP (q0 := 0) rfl rfl) rfl rfl hl.1 rfl (lv_room (Nat.le_of_ble_eq_true rfl)) dX4_worthOf_183 ⟨Nat.le_of_ble_eq_true rfl, Nat.le_of_ble_eq_true rfl⟩) hP hS (fun H locs hP hS => ?_)
          refine lv_eqi (y := fOpen (xh i) w) (by rw [(hc i (by omega)).2.2.1]) ?_
          refine lv_if_eq (tgt := 236) hx hb dX4_worthOf_186 (by decide) (fun c6 => ?_) (fun c6 => ?_)
          · skip
            refine lv_iinc (v := nI (i + 1)) (lv' := [(7, .int (nI (i + 1))), (5, .long (wU2 f (xl i) (xb i) pp uu)), (3, .long (wP2 f (xl i) (xb i) pp uu)), (19, .int (wSh f (xl i) (xb i) pp uu)), (17, .long (wU1 f (xl i) (xb i) pp uu)), (15, .long (wP1 f (xl i) (xb i) pp uu)), (13, .long (xQ (xb i))), (11, .long (wC f (xl i))), (9, .long (wS f (xl i))), (8, .int (xTurn f (xl i))), (0, .ref t), (1, .int f), (2, .int w)]) hx hb dX4_worthOf_236 hl (k := 9) rfl (iinc_1 i) (by decide) rfl (fun ls hl => ?_)
            refine lv_goto (tgt := 34) hx hb dX4_worthOf_239 (by decide) ?_
            exact ih_34 (i + 1) (wP2 f (xl i) (xb i) pp uu) (wU2 f (xl i) (xb i) pp uu) (by omega) (hF.trans (by first | with_reducible rfl | (simp only [fWorth, fWl, if_neg c5, if_pos c6]; done) | (simp [fWorth, fWl, if_neg c5, if_pos c6]; done))) _ _ hP hS ls (lv_sub hl [0, 1, 2, 10, 11, 12] rfl)
          · skip
            refine lv_aload_n hx hb dX4_worthOf_189 rfl (lv_at hl 10 rfl) ?_
            refine va_get (D := D) (ci := 4) (v := .ref t4) (C := RX4) (T := TX4) (N := 8) hx hb hts k4 hown hK.1 hP 0 rfl rfl 3 (by decide) (hts (.fieldLink RX4 21 "BoredPipes$Stretches" "sizes" "[I") (List.mem_of_getElem? (i := 8) rfl)) (fun _ h9 => h9) rfl dX4_worthOf_190 ?_
            refine lv_iload hx hb dX4_worthOf_193 (lv_at hl 9 rfl) ?_
            refine rd_i (va_runSN (As := [.ref t4, .int (nI i)]) (rest := []) ⟨hx, hb, hml, hown, hts⟩ (c_X5_at_in l D cI cZ t4 18 sf i (by omega) (by omega)) ⟨va_cnB 2 hts gX4_worthOf_X5_at_n74 rfl rfl rfl (nwL9 hN) (hts (.initialized RX5) (List.mem_of_getElem? (i := 13) rfl)) hdV_X5_at.2 ⟨Nat.le_of_ble_eq_true rfl, Nat.le_of_ble_eq_true rfl⟩, (hts (.static yX5_at) (List.mem_of_getElem? (i := 12) rfl)), trivial⟩ (PR.S (hP.sub [4] rfl) hK) rfl rfl hl.1 rfl (lv_room (Nat.le_of_ble_eq_true rfl)) dX4_worthOf_195 ⟨Nat.le_of_ble_eq_true rfl, Nat.le_of_ble_eq_true rfl⟩) hP hS (fun H locs hP hS => ?_)
            refine lv_eqi (y := xs i) (hc i (by omega)).2.2.2.1 ?_
            refine lv_i2l hx hb dX4_worthOf_198 rfl ?_
            refine lv_lstore (lv' := [(20, .long ((xs i).toInt64)), (5, .long (wU2 f (xl i) (xb i) pp uu)), (3, .long (wP2 f (xl i) (xb i) pp uu)), (19, .int (wSh f (xl i) (xb i) pp uu)), (17, .long (wU1 f (xl i) (xb i) pp uu)), (15, .long (wP1 f (xl i) (xb i) pp uu)), (13, .long (xQ (xb i))), (11, .long (wC f (xl i))), (9, .long (wS f (xl i))), (8, .int (xTurn f (xl i))), (7, .int (nI i)), (0, .ref t), (1, .int f), (2, .int w)]) hx hb dX4_worthOf_199 hl (by decide) rfl (fun ls hl => ?_)
            refine lv_lload hx hb dX4_worthOf_201 (lv_at hl 1 rfl) ?_
            refine lv_lload_n hx hb dX4_worthOf_203 rfl (lv_at hl 2 rfl) ?_
            refine lv_lload hx hb dX4_worthOf_204 (lv_at hl 0 rfl) ?_
            refine lv_lload hx hb dX4_worthOf_206 (lv_at hl 0 rfl) ?_
            refine lv_lmul hx hb dX4_worthOf_208 ?_
            refine lv_lmul hx hb dX4_worthOf_209 ?_
            refine lv_ldc2 hx hb hown (hts (.constantLong RX4 101 (25)) (List.mem_of_getElem? (i := 9) rfl)) dX4_worthOf_210 ?_
            refine lv_lload hx hb dX4_worthOf_213 (lv_at hl 0 rfl) ?_
            refine lv_aload_n hx hb dX4_worthOf_215 rfl (lv_at hl 11 rfl) ?_
            refine va_get (D := D) (ci := 4) (v := .ref t5) (C := RX4) (T := TX4) (N := 8) hx hb hts k4 hown hK.1 hP 0 rfl rfl 4 (by decide) (hts (.fieldLink RX4 24 "BoredPipes$Stretches" "chimneys" "[I") (List.mem_of_getElem? (i := 10) rfl)) (fun _ h9 => h9) rfl dX4_worthOf_216 ?_
            refine lv_iload hx hb dX4_worthOf_219 (lv_at hl 10 rfl) ?_
            refine rd_i (va_runSN (As := [.ref t5, .int (nI i)]) (rest := [.long ((xs i).toInt64), .long 25, .long ((wP2 f (xl i) (xb i) pp uu) * (((xs i).toInt64) * ((xs i).toInt64))), .long (wU2 f (xl i) (xb i) pp uu)]) ⟨hx, hb, hml, hown, hts⟩ (c_X5_at_in l D cI cZ t5 18 cf i (by omega) (by omega)) ⟨va_cnB 2 hts gX4_worthOf_X5_at_n74 rfl rfl rfl (nwL9 hN) (hts (.initialized RX5) (List.mem_of_getElem? (i := 13) rfl)) hdV_X5_at.2 ⟨Nat.le_of_ble_eq_true rfl, Nat.le_of_ble_eq_true rfl⟩, (hts (.static yX5_at) (List.mem_of_getElem? (i := 12) rfl)), trivial⟩ (PR.S (hP.sub [5] rfl) hK) rfl rfl hl.1 rfl (lv_room (Nat.le_of_ble_eq_true rfl)) dX4_worthOf_221 ⟨Nat.le_of_ble_eq_true rfl, Nat.le_of_ble_eq_true rfl⟩) hP hS (fun H locs hP hS => ?_)
            refine lv_eqi (y := xc i) (hc i (by omega)).2.2.2.2 ?_
            refine lv_i2l hx hb dX4_worthOf_224 rfl ?_
            refine lv_ladd hx hb dX4_worthOf_225 ?_
            refine lv_lmul hx hb dX4_worthOf_226 ?_
            refine lv_iload_n hx hb dX4_worthOf_227 rfl (lv_at hl 12 rfl) ?_
            refine lv_i2l hx hb dX4_worthOf_228 rfl ?_
            refine lv_lmul hx hb dX4_worthOf_229 ?_
            refine rd_l (va_runSN (As := [.long ((wP2 f (xl i) (xb i) pp uu) * (((xs i).toInt64) * ((xs i).toInt64))), .long ((25 * (((xs i).toInt64) + ((xc i).toInt64))) * f.toInt64)]) (rest := [.long (wU2 f (xl i) (xb i) pp uu)]) ⟨hx, hb, hml, hown, hts⟩ (c_X5_quotient l D cI cZ ((wP2 f (xl i) (xb i) pp uu) * (((xs i).toInt64) * ((xs i).toInt64))) ((25 * (((xs i).toInt64) + ((xc i).toInt64))) * f.toInt64)) ⟨va_cnB 2 hts gX4_worthOf_X5_quotient_n89 rfl rfl rfl (nwL11 hN) (hts (.initialized RX5) (List.mem_of_getElem? (i := 13) rfl)) hdV_X5_quotient.2 ⟨Nat.le_of_ble_eq_true rfl, Nat.le_of_ble_eq_true rfl⟩, (hts (.static yX5_quotient) (List.mem_of_getElem? (i := 22) rfl)), trivial⟩ (PR.S (hP.sub [] rfl) hK) rfl rfl hl.1 rfl (lv_room (Nat.le_of_ble_eq_true rfl)) dX4_worthOf_230 ⟨Nat.le_of_ble_eq_true rfl, Nat.le_of_ble_eq_true rfl⟩) hP hS (fun H locs hP hS => ?_)
            refine lv_ladd hx hb dX4_worthOf_233 ?_
            refine lv_eqj (y := wU3 f (xs i) (xc i) (wP2 f (xl i) (xb i) pp uu) (wU2 f (xl i) (xb i) pp uu)) rfl ?_
            refine lv_lstore (lv' := [(5, .long (wU3 f (xs i) (xc i) (wP2 f (xl i) (xb i) pp uu) (wU2 f (xl i) (xb i) pp uu))), (20, .long ((xs i).toInt64)), (3, .long (wP2 f (xl i) (xb i) pp uu)), (19, .int (wSh f (xl i) (xb i) pp uu)), (17, .long (wU1 f (xl i) (xb i) pp uu)), (15, .long (wP1 f (xl i) (xb i) pp uu)), (13, .long (xQ (xb i))), (11, .long (wC f (xl i))), (9, .long (wS f (xl i))), (8, .int (xTurn f (xl i))), (7, .int (nI i)), (0, .ref t), (1, .int f), (2, .int w)]) hx hb dX4_worthOf_234 hl (by decide) rfl (fun ls hl => ?_)
            refine lv_iinc (v := nI (i + 1)) (lv' := [(7, .int (nI (i + 1))), (5, .long (wU3 f (xs i) (xc i) (wP2 f (xl i) (xb i) pp uu) (wU2 f (xl i) (xb i) pp uu))), (20, .long ((xs i).toInt64)), (3, .long (wP2 f (xl i) (xb i) pp uu)), (19, .int (wSh f (xl i) (xb i) pp uu)), (17, .long (wU1 f (xl i) (xb i) pp uu)), (15, .long (wP1 f (xl i) (xb i) pp uu)), (13, .long (xQ (xb i))), (11, .long (wC f (xl i))), (9, .long (wS f (xl i))), (8, .int (xTurn f (xl i))), (0, .ref t), (1, .int f), (2, .int w)]) hx hb dX4_worthOf_236 hl (k := 10) rfl (iinc_1 i) (by decide) rfl (fun ls hl => ?_)
            refine lv_goto (tgt := 34) hx hb dX4_worthOf_239 (by decide) ?_
            exact ih_34 (i + 1) (wP2 f (xl i) (xb i) pp uu) (wU3 f (xs i) (xc i) (wP2 f (xl i) (xb i) pp uu) (wU2 f (xl i) (xb i) pp uu)) (by omega) (hF.trans (by first | with_reducible rfl | (simp only [fWorth, fWl, if_neg c5, if_neg c6]; done) | (simp [fWorth, fWl, if_neg c5, if_neg c6]; done))) _ _ hP hS ls (lv_sub hl [0, 1, 3, 11, 12, 13] rfl)
      exact lp_34 mn 0 (if su = 0 then 0 else 1048576) (if su = 0 then 1048576 else 0) (by omega) rfl _ _ hP hS ls (lv_sub hl [0, 1, 2, 3, 4, 5] rfl)
    refine lv_if_eq (tgt := 26) hx hb dX4_worthOf_19 (by decide) (fun c2 => ?_) (fun c2 => ?_)
    · skip
      refine lv_ldc2 hx hb hown (hts (.constantLong RX4 80 (1048576)) (List.mem_of_getElem? (i := 2) rfl)) dX4_worthOf_26 ?_
      exact lv_eqj (if_pos c2).symm (jn_19 _ _ hP hS)
    · skip
      refine lv_lconst (v := 0) hx hb dX4_worthOf_22 (by decide) ?_
      refine lv_goto (tgt := 29) hx hb dX4_worthOf_23 (by decide) ?_
      exact lv_eqj (if_neg c2).symm (jn_19 _ _ hP hS)
  refine lv_if_eq (tgt := 13) hx hb dX4_worthOf_4 (by decide) (fun c1 => ?_) (fun c1 => ?_)
  · skip
    refine lv_lconst (v := 0) hx hb dX4_worthOf_13 (by decide) ?_
    exact lv_eqj (if_pos c1).symm (jn_4 _ _ hP hS)
  · skip
    refine lv_ldc2 hx hb hown (hts (.constantLong RX4 80 (1048576)) (List.mem_of_getElem? (i := 2) rfl)) dX4_worthOf_7 ?_
    refine lv_goto (tgt := 14) hx hb dX4_worthOf_10 (by decide) ?_
    exact lv_eqj (if_neg c1).symm (jn_4 _ _ hP hS)

set_option maxHeartbeats 4000000 in
set_option maxRecDepth 100000 in
theorem c_X4_findTone (l : Launch) (D : va_G) (cI cZ : ClassId) (t : Nat) (t1 : Nat) (t2 : Nat) (t3 : Nat) (t4 : Nat) (t5 : Nat) (mn : Nat) (su : Int32) (rd : Int32) (lf : Nat → Int32) (bf : Nat → Int32) (hf : Nat → Int32) (sf : Nat → Int32) (cf : Nat → Int32) (xl : Nat → Int32) (xb : Nat → Int32) (xh : Nat → Int32) (xs : Nat → Int32) (xc : Nat → Int32) (w : Int32) (k : Int32) (hmn : mn ≤ 18) (hc : CutEq mn lf bf hf sf cf xl xb xh xs xc) : Met l yX4_findTone wsX4_findTone rmX4_findTone (va_Pc [.ref t, .int w, .int k] (PR D cI cZ [(t, .inr (4, [.ref t1, .ref t2, .ref t3, .ref t4, .ref t5, .int (nI mn), .int su, .int rd])), (t1, .inl (cI, 18, .inl lf)), (t2, .inl (cI, 18, .inl bf)), (t3, .inl (cI, 18, .inl hf)), (t4, .inl (cI, 18, .inl sf)), (t5, .inl (cI, 18, .inl cf))])) (RI (fToneOf (fWorth su rd mn xl xb xh xs xc w) k)) 0 0 nA := by
  refine met_go (cc := cX4_findTone) (maxL := 7) (ret := (some .int)) (by decide) rfl ?_ (Nat.le_of_ble_eq_true rfl)
  intro p e s m a below meth c Q hQ _ hx hb hr hml hts hown hlk hnm hpre ls hl
  have hown : s.vm.findClass RX4 = some m.cls := hown
  obtain ⟨hP, hK⟩ := hpre
  have hN := hK.2
  have hS : va_S nA s.heap s.heap [] := va_S.rf
  have hl : lv_has ls 7 [(0, .ref t), (1, .int w), (2, .int k)] := hl
  refine lv_iconst (v := 0) hx hb dX4_findTone_0 (by decide) ?_
  refine lv_istore_n (lv' := [(3, .int 0), (0, .ref t), (1, .int w), (2, .int k)]) hx hb dX4_findTone_1 rfl hl (by decide) rfl (fun ls hl => ?_)
  refine lv_aload_n hx hb dX4_findTone_2 rfl (lv_at hl 1 rfl) ?_
  refine lv_iconst (v := 1) hx hb dX4_findTone_3 (by decide) ?_
  refine lv_iload_n hx hb dX4_findTone_4 rfl (lv_at hl 2 rfl) ?_
  refine rd_l (va_runV (As := [.int 1, .int w]) (rest := []) ⟨hx, hb, hml, hown, hts⟩ (c_X4_worthOf l D cI cZ t t1 t2 t3 t4 t5 mn su rd lf bf hf sf cf xl xb xh xs xc 1 w (by first | omega | exact hmn) hc) (cwV 2 hts gX4_findTone_X4_worthOf rfl rfl rfl hdV_X4_worthOf ⟨Nat.le_of_ble_eq_true rfl, Nat.le_of_ble_eq_true rfl⟩) (PR.V hP hK hP (q0 := 0) rfl rfl) rfl rfl hl.1 rfl (lv_room (Nat.le_of_ble_eq_true rfl)) dX4_findTone_5 ⟨Nat.le_of_ble_eq_true rfl, Nat.le_of_ble_eq_true rfl⟩) hP hS (fun H locs hP hS => ?_)
  refine lv_lconst (v := 0) hx hb dX4_findTone_8 (by decide) ?_
  refine W.lcmp hx hb dX4_findTone_9 ?_
  have jn_10 : ∀ (H : Heap) (locs : List Loc), va_P D vwCl [(t, .inr (4, [.ref t1, .ref t2, .ref t3, .ref t4, .ref t5, .int (nI mn), .int su, .int rd])), (t1, .inl (cI, 18, .inl lf)), (t2, .inl (cI, 18, .inl bf)), (t3, .inl (cI, 18, .inl hf)), (t4, .inl (cI, 18, .inl sf)), (t5, .inl (cI, 18, .inl cf))] H → va_S nA s.heap H locs → W p l e rmX4_findTone s m a below meth c H locs 0 0 Q (F0 m 18 ls [.int (if (fWorth su rd mn xl xb xh xs xc w 1) ≤ 0 then 0 else 1)]) := by
    intro H locs hP hS
    refine lv_eqi (y := fAb (fWorth su rd mn xl xb xh xs xc w 1)) rfl ?_
    refine lv_istore (lv' := [(4, .int (fAb (fWorth su rd mn xl xb xh xs xc w 1))), (3, .int 0), (0, .ref t), (1, .int w), (2, .int k)]) hx hb dX4_findTone_18 hl (by decide) rfl (fun ls hl => ?_)
    refine lv_iconst (v := 1) hx hb dX4_findTone_20 (by decide) ?_
    refine lv_istore (lv' := [(5, .int 1), (4, .int (fAb (fWorth su rd mn xl xb xh xs xc w 1))), (3, .int 0), (0, .ref t), (1, .int w), (2, .int k)]) hx hb dX4_findTone_21 hl (by decide) rfl (fun ls hl => ?_)
    have lp_23 : ∀ (r : Nat) (i : Nat) (z : Int32) (y : Int32), (i + r = 300) → (fToneOf (fWorth su rd mn xl xb xh xs xc w) k = fTone (fWorth su rd mn xl xb xh xs xc w) k r i z y) → ∀ (H : Heap) (locs : List Loc), va_P D vwCl [(t, .inr (4, [.ref t1, .ref t2, .ref t3, .ref t4, .ref t5, .int (nI mn), .int su, .int rd])), (t1, .inl (cI, 18, .inl lf)), (t2, .inl (cI, 18, .inl bf)), (t3, .inl (cI, 18, .inl hf)), (t4, .inl (cI, 18, .inl sf)), (t5, .inl (cI, 18, .inl cf))] H → va_S nA s.heap H locs → ∀ (ls : Array Slot), lv_has ls 7 [(5, .int (nI i)), (4, .int y), (3, .int z), (0, .ref t), (1, .int w), (2, .int k)] → W p l e rmX4_findTone s m a below meth c H locs 0 0 Q (F0 m 23 ls []) := by
      intro r
      induction r with
      | zero =>
        intro i z y hi hF H locs hP hS ls hl
        refine lv_iload hx hb dX4_findTone_23 (lv_at hl 0 rfl) ?_
        refine lv_sipush (v := 300) hx hb dX4_findTone_25 (by decide) ?_
        refine lv_icmp_ge (tgt := 80) hx hb dX4_findTone_28 (by decide) (fun c2 => ?_) (fun c2 => absurd ((nI_le (a := 300) (b := i) (by omega) (by omega))) c2)
        refine lv_iload_n hx hb dX4_findTone_80 rfl (lv_at hl 5 rfl) ?_
        refine lv_iconst (v := (-1)) hx hb dX4_findTone_81 (by decide) ?_
        refine lv_icmp_ne (tgt := 89) hx hb dX4_findTone_82 (by decide) (fun c3 => ?_) (fun c3 => ?_)
        · skip
          refine lv_iconst (v := (-1)) hx hb dX4_findTone_89 (by decide) ?_
          exact ret_RI hQ hx hb hr hlk hS (hF.trans (by first | with_reducible rfl | (simp only [fToneOf, fTone, if_pos c2, if_neg c3]; done) | (simp [fToneOf, fTone, if_pos c2, if_neg c3]; done))).symm dX4_findTone_90
        · skip
          refine lv_iload_n hx hb dX4_findTone_85 rfl (lv_at hl 2 rfl) ?_
          refine lv_goto (tgt := 90) hx hb dX4_findTone_86 (by decide) ?_
          exact ret_RI hQ hx hb hr hlk hS (hF.trans (by first | with_reducible rfl | (simp only [fToneOf, fTone, if_pos c2, if_pos c3]; done) | (simp [fToneOf, fTone, if_pos c2, if_pos c3]; done))).symm dX4_findTone_90
      | succ r ih_23 =>
        intro i z y hi hF H locs hP hS ls hl
        refine lv_iload hx hb dX4_findTone_23 (lv_at hl 0 rfl) ?_
        refine lv_sipush (v := 300) hx hb dX4_findTone_25 (by decide) ?_
        refine lv_icmp_ge (tgt := 80) hx hb dX4_findTone_28 (by decide) (fun c4 => absurd c4 ((nI_ge (a := i) (b := 300) (by omega) (by omega)))) (fun c4 => ?_)
        refine lv_aload_n hx hb dX4_findTone_31 rfl (lv_at hl 3 rfl) ?_
        refine lv_iload hx hb dX4_findTone_32 (lv_at hl 0 rfl) ?_
        refine lv_iconst (v := 1) hx hb dX4_findTone_34 (by decide) ?_
        refine nn_iadd hx hb dX4_findTone_35 (x := i) (y := 1) rfl rfl ?_
        refine lv_iload_n hx hb dX4_findTone_36 rfl (lv_at hl 4 rfl) ?_
        refine rd_l (va_runV (As := [.int (nI (i + 1)), .int w]) (rest := []) ⟨hx, hb, hml, hown, hts⟩ (c_X4_worthOf l D cI cZ t t1 t2 t3 t4 t5 mn su rd lf bf hf sf cf xl xb xh xs xc (nI (i + 1)) w (by first | omega | exact hmn) hc) (cwV 2 hts gX4_findTone_X4_worthOf rfl rfl rfl hdV_X4_worthOf ⟨Nat.le_of_ble_eq_true rfl, Nat.le_of_ble_eq_true rfl⟩) (PR.V hP hK hP (q0 := 0) rfl rfl) rfl rfl hl.1 rfl (lv_room (Nat.le_of_ble_eq_true rfl)) dX4_findTone_37 ⟨Nat.le_of_ble_eq_true rfl, Nat.le_of_ble_eq_true rfl⟩) hP hS (fun H locs hP hS => ?_)
        refine lv_lconst (v := 0) hx hb dX4_findTone_40 (by decide) ?_
        refine W.lcmp hx hb dX4_findTone_41 ?_
        have jn_42 : ∀ (H : Heap) (locs : List Loc), va_P D vwCl [(t, .inr (4, [.ref t1, .ref t2, .ref t3, .ref t4, .ref t5, .int (nI mn), .int su, .int rd])), (t1, .inl (cI, 18, .inl lf)), (t2, .inl (cI, 18, .inl bf)), (t3, .inl (cI, 18, .inl hf)), (t4, .inl (cI, 18, .inl sf)), (t5, .inl (cI, 18, .inl cf))] H → va_S nA s.heap H locs → W p l e rmX4_findTone s m a below meth c H locs 0 0 Q (F0 m 50 ls [.int (if (fWorth su rd mn xl xb xh xs xc w (nI (i + 1))) ≤ 0 then 0 else 1)]) := by
          intro H locs hP hS
          refine lv_eqi (y := fAb (fWorth su rd mn xl xb xh xs xc w (nI (i + 1)))) rfl ?_
          refine lv_istore (lv' := [(6, .int (fAb (fWorth su rd mn xl xb xh xs xc w (nI (i + 1))))), (5, .int (nI i)), (4, .int y), (3, .int z), (0, .ref t), (1, .int w), (2, .int k)]) hx hb dX4_findTone_50 hl (by decide) rfl (fun ls hl => ?_)
          refine lv_iload hx hb dX4_findTone_52 (lv_at hl 2 rfl) ?_
          refine lv_iload hx hb dX4_findTone_54 (lv_at hl 0 rfl) ?_
          refine lv_icmp_eq (tgt := 70) hx hb dX4_findTone_56 (by decide) (fun c6 => ?_) (fun c6 => ?_)
          · skip
            refine lv_iload hx hb dX4_findTone_70 (lv_at hl 0 rfl) ?_
            refine lv_istore (lv' := [(4, .int (fAb (fWorth su rd mn xl xb xh xs xc w (nI (i + 1))))), (6, .int (fAb (fWorth su rd mn xl xb xh xs xc w (nI (i + 1))))), (5, .int (nI i)), (3, .int z), (0, .ref t), (1, .int w), (2, .int k)]) hx hb dX4_findTone_72 hl (by decide) rfl (fun ls hl => ?_)
            refine lv_iinc (v := nI (i + 1)) (lv' := [(5, .int (nI (i + 1))), (4, .int (fAb (fWorth su rd mn xl xb xh xs xc w (nI (i + 1))))), (6, .int (fAb (fWorth su rd mn xl xb xh xs xc w (nI (i + 1))))), (3, .int z), (0, .ref t), (1, .int w), (2, .int k)]) hx hb dX4_findTone_74 hl (k := 2) rfl (iinc_1 i) (by decide) rfl (fun ls hl => ?_)
            refine lv_goto (tgt := 23) hx hb dX4_findTone_77 (by decide) ?_
            exact ih_23 (i + 1) z (fAb (fWorth su rd mn xl xb xh xs xc w (nI (i + 1)))) (by omega) (hF.trans (by first | with_reducible rfl | (simp only [fToneOf, fTone, if_neg c4, if_pos c6]; done) | (simp [fToneOf, fTone, if_neg c4, if_pos c6]; done))) _ _ hP hS ls (lv_sub hl [0, 1, 3, 4, 5, 6] rfl)
          · skip
            refine lv_iload_n hx hb dX4_findTone_59 rfl (lv_at hl 3 rfl) ?_
            refine lv_iload_n hx hb dX4_findTone_60 rfl (lv_at hl 6 rfl) ?_
            refine lv_icmp_ne (tgt := 67) hx hb dX4_findTone_61 (by decide) (fun c7 => ?_) (fun c7 => ?_)
            · skip
              refine lv_iinc (v := z + 1) (lv' := [(3, .int (z + 1)), (6, .int (fAb (fWorth su rd mn xl xb xh xs xc w (nI (i + 1))))), (5, .int (nI i)), (4, .int y), (0, .ref t), (1, .int w), (2, .int k)]) hx hb dX4_findTone_67 hl (k := 3) rfl rfl (by decide) rfl (fun ls hl => ?_)
              refine lv_iload hx hb dX4_findTone_70 (lv_at hl 1 rfl) ?_
              refine lv_istore (lv' := [(4, .int (fAb (fWorth su rd mn xl xb xh xs xc w (nI (i + 1))))), (3, .int (z + 1)), (6, .int (fAb (fWorth su rd mn xl xb xh xs xc w (nI (i + 1))))), (5, .int (nI i)), (0, .ref t), (1, .int w), (2, .int k)]) hx hb dX4_findTone_72 hl (by decide) rfl (fun ls hl => ?_)
              refine lv_iinc (v := nI (i + 1)) (lv' := [(5, .int (nI (i + 1))), (4, .int (fAb (fWorth su rd mn xl xb xh xs xc w (nI (i + 1))))), (3, .int (z + 1)), (6, .int (fAb (fWorth su rd mn xl xb xh xs xc w (nI (i + 1))))), (0, .ref t), (1, .int w), (2, .int k)]) hx hb dX4_findTone_74 hl (k := 3) rfl (iinc_1 i) (by decide) rfl (fun ls hl => ?_)
              refine lv_goto (tgt := 23) hx hb dX4_findTone_77 (by decide) ?_
              exact ih_23 (i + 1) (z + 1) (fAb (fWorth su rd mn xl xb xh xs xc w (nI (i + 1)))) (by omega) (hF.trans (by first | with_reducible rfl | (simp only [fToneOf, fTone, if_neg c4, if_neg c6, if_neg c7]; done) | (simp [fToneOf, fTone, if_neg c4, if_neg c6, if_neg c7]; done))) _ _ hP hS ls (lv_sub hl [0, 1, 2, 4, 5, 6] rfl)
            · skip
              refine lv_iload hx hb dX4_findTone_64 (lv_at hl 1 rfl) ?_
              exact ret_RI hQ hx hb hr hlk hS (hF.trans (by first | with_reducible rfl | (simp only [fToneOf, fTone, if_neg c4, if_neg c6, if_pos c7]; done) | (simp [fToneOf, fTone, if_neg c4, if_neg c6, if_pos c7]; done))).symm dX4_findTone_66
        refine lv_if_le (tgt := 49) hx hb dX4_findTone_42 (by decide) (fun c5 => ?_) (fun c5 => ?_)
        · skip
          have c5 : (fWorth su rd mn xl xb xh xs xc w (nI (i + 1))) ≤ 0 := (lg_cmp_le (fWorth su rd mn xl xb xh xs xc w (nI (i + 1))) 0).mp c5
          refine lv_iconst (v := 0) hx hb dX4_findTone_49 (by decide) ?_
          exact lv_eqi (if_pos c5).symm (jn_42 _ _ hP hS)
        · skip
          have c5 : ¬ ((fWorth su rd mn xl xb xh xs xc w (nI (i + 1))) ≤ 0) := fun h9 => c5 ((lg_cmp_le (fWorth su rd mn xl xb xh xs xc w (nI (i + 1))) 0).mpr h9)
          refine lv_iconst (v := 1) hx hb dX4_findTone_45 (by decide) ?_
          refine lv_goto (tgt := 50) hx hb dX4_findTone_46 (by decide) ?_
          exact lv_eqi (if_neg c5).symm (jn_42 _ _ hP hS)
    exact lp_23 299 1 0 (fAb (fWorth su rd mn xl xb xh xs xc w 1)) (by omega) rfl _ _ hP hS ls (lv_sub hl [0, 1, 2, 3, 4, 5] rfl)
  refine lv_if_le (tgt := 17) hx hb dX4_findTone_10 (by decide) (fun c1 => ?_) (fun c1 => ?_)
  · skip
    have c1 : (fWorth su rd mn xl xb xh xs xc w 1) ≤ 0 := (lg_cmp_le (fWorth su rd mn xl xb xh xs xc w 1) 0).mp c1
    refine lv_iconst (v := 0) hx hb dX4_findTone_17 (by decide) ?_
    exact lv_eqi (if_pos c1).symm (jn_10 _ _ hP hS)
  · skip
    have c1 : ¬ ((fWorth su rd mn xl xb xh xs xc w 1) ≤ 0) := fun h9 => c1 ((lg_cmp_le (fWorth su rd mn xl xb xh xs xc w 1) 0).mpr h9)
    refine lv_iconst (v := 1) hx hb dX4_findTone_13 (by decide) ?_
    refine lv_goto (tgt := 18) hx hb dX4_findTone_14 (by decide) ?_
    exact lv_eqi (if_neg c1).symm (jn_10 _ _ hP hS)

set_option maxHeartbeats 4000000 in
set_option maxRecDepth 100000 in
theorem c_X4_cutUp (l : Launch) (D : va_G) (cI cZ : ClassId) (h : Nat) (h1 : Nat) (h2 : Nat) (h3 : Nat) (h4 : Nat) (h5 : Nat) (np : Nat) (nh : Nat) (mo : Int32) (fa : Int32) (ln : Nat → Int32) (bo : Nat → Int32) (pl : Nat → Int32) (sz : Nat → Int32) (ch : Nat → Int32) (t : Nat) (t1 : Nat) (t2 : Nat) (t3 : Nat) (t4 : Nat) (t5 : Nat) (mn : Nat) (su : Int32) (rd : Int32) (lf : Nat → Int32) (bf : Nat → Int32) (hf : Nat → Int32) (sf : Nat → Int32) (cf : Nat → Int32) (hnp : np ≤ 12) (hnh : nh ≤ 6) : Met l yX4_cutUp wsX4_cutUp rmX4_cutUp (va_Pc [.ref t, .ref h] (PW D cI cZ [(h, .inr (2, [.ref h1, .ref h2, .ref h3, .ref h4, .ref h5, .int (nI np), .int (nI nh), .int mo, .int fa])), (h1, .inl (cI, 12, .inl ln)), (h2, .inl (cI, 12, .inl bo)), (h3, .inl (cI, 6, .inl pl)), (h4, .inl (cI, 6, .inl sz)), (h5, .inl (cI, 6, .inl ch)), (t, .inr (4, [.ref t1, .ref t2, .ref t3, .ref t4, .ref t5, .int (nI mn), .int su, .int rd])), (t1, .inl (cI, 18, .inl lf)), (t2, .inl (cI, 18, .inl bf)), (t3, .inl (cI, 18, .inl hf)), (t4, .inl (cI, 18, .inl sf)), (t5, .inl (cI, 18, .inl cf))])) (WV (S := FN5) D (fun ⟨f1, f2, f3, f4, f5⟩ => CutEq (xMany ln pl np nh) f1 f2 f3 f4 f5 (xL ln pl np nh) (xB ln bo pl np nh) (xH ln pl np nh) (xS ln pl sz np nh) (xC ln pl ch np nh)) (fun ⟨f1, f2, f3, f4, f5⟩ => [(h, .inr (2, [.ref h1, .ref h2, .ref h3, .ref h4, .ref h5, .int (nI np), .int (nI nh), .int mo, .int fa])), (h1, .inl (cI, 12, .inl ln)), (h2, .inl (cI, 12, .inl bo)), (h3, .inl (cI, 6, .inl pl)), (h4, .inl (cI, 6, .inl sz)), (h5, .inl (cI, 6, .inl ch)), (t, .inr (4, [.ref t1, .ref t2, .ref t3, .ref t4, .ref t5, .int (nI (xMany ln pl np nh)), .int (fFlag fa), .int (fFlag mo)])), (t1, .inl (cI, 18, .inl f1)), (t2, .inl (cI, 18, .inl f2)), (t3, .inl (cI, 18, .inl f3)), (t4, .inl (cI, 18, .inl f4)), (t5, .inl (cI, 18, .inl f5))]) [(h, .inr (2, [.ref h1, .ref h2, .ref h3, .ref h4, .ref h5, .int (nI np), .int (nI nh), .int mo, .int fa])), (h1, .inl (cI, 12, .inl ln)), (h2, .inl (cI, 12, .inl bo)), (h3, .inl (cI, 6, .inl pl)), (h4, .inl (cI, 6, .inl sz)), (h5, .inl (cI, 6, .inl ch)), (t, .inr (4, [.ref t1, .ref t2, .ref t3, .ref t4, .ref t5, .int (nI mn), .int su, .int rd])), (t1, .inl (cI, 18, .inl lf)), (t2, .inl (cI, 18, .inl bf)), (t3, .inl (cI, 18, .inl hf)), (t4, .inl (cI, 18, .inl sf)), (t5, .inl (cI, 18, .inl cf))]) 0 0 (ad [(h, .inr (2, [.ref h1, .ref h2, .ref h3, .ref h4, .ref h5, .int (nI np), .int (nI nh), .int mo, .int fa])), (h1, .inl (cI, 12, .inl ln)), (h2, .inl (cI, 12, .inl bo)), (h3, .inl (cI, 6, .inl pl)), (h4, .inl (cI, 6, .inl sz)), (h5, .inl (cI, 6, .inl ch)), (t, .inr (4, [.ref t1, .ref t2, .ref t3, .ref t4, .ref t5, .int (nI mn), .int su, .int rd])), (t1, .inl (cI, 18, .inl lf)), (t2, .inl (cI, 18, .inl bf)), (t3, .inl (cI, 18, .inl hf)), (t4, .inl (cI, 18, .inl sf)), (t5, .inl (cI, 18, .inl cf))]) := by
  refine met_go (cc := cX4_cutUp) (maxL := 7) (ret := none) (by decide) rfl ?_ (Nat.le_of_ble_eq_true rfl)
  intro p e s m a below meth c Q hQ _ hx hb hr hml hts hown hlk hnm hpre ls hl
  have hown : s.vm.findClass RX4 = some m.cls := hown
  obtain ⟨hP, hK, hD0⟩ := hpre
  have hN := hK.2
  obtain ⟨A, hAe⟩ : ∃ A : Nat → Prop, A = ad [(h, .inr (2, [.ref h1, .ref h2, .ref h3, .ref h4, .ref h5, .int (nI np), .int (nI nh), .int mo, .int fa])), (h1, .inl (cI, 12, .inl ln)), (h2, .inl (cI, 12, .inl bo)), (h3, .inl (cI, 6, .inl pl)), (h4, .inl (cI, 6, .inl sz)), (h5, .inl (cI, 6, .inl ch)), (t, .inr (4, [.ref t1, .ref t2, .ref t3, .ref t4, .ref t5, .int (nI mn), .int su, .int rd])), (t1, .inl (cI, 18, .inl lf)), (t2, .inl (cI, 18, .inl bf)), (t3, .inl (cI, 18, .inl hf)), (t4, .inl (cI, 18, .inl sf)), (t5, .inl (cI, 18, .inl cf))] := ⟨_, rfl⟩
  have hD : va_D A [(h, .inr (2, [.ref h1, .ref h2, .ref h3, .ref h4, .ref h5, .int (nI np), .int (nI nh), .int mo, .int fa])), (h1, .inl (cI, 12, .inl ln)), (h2, .inl (cI, 12, .inl bo)), (h3, .inl (cI, 6, .inl pl)), (h4, .inl (cI, 6, .inl sz)), (h5, .inl (cI, 6, .inl ch)), (t, .inr (4, [.ref t1, .ref t2, .ref t3, .ref t4, .ref t5, .int (nI mn), .int su, .int rd])), (t1, .inl (cI, 18, .inl lf)), (t2, .inl (cI, 18, .inl bf)), (t3, .inl (cI, 18, .inl hf)), (t4, .inl (cI, 18, .inl sf)), (t5, .inl (cI, 18, .inl cf))] := by rw [hAe]; exact hD0.ad
  have hS : va_S A s.heap s.heap [] := va_S.rf
  have hl : lv_has ls 7 [(0, .ref t), (1, .ref h)] := hl
  have k2 : ∀ w ∈ wsX20, w ∈ wsX4_cutUp := fun w h => List.mem_cons_of_mem _ (List.mem_append_right _ h)
  have k4 : ∀ w ∈ wsX40, w ∈ wsX4_cutUp := fun w h => List.mem_cons_of_mem _ (List.mem_append_left _ (List.mem_append_right _ h))
  refine lv_aload_n hx hb dX4_cutUp_0 rfl (lv_at hl 0 rfl) ?_
  refine lv_iconst (v := 0) hx hb dX4_cutUp_1 (by decide) ?_
  refine va_put (D := D) (ci := 4) (v := .int 0) (ty := .int) (C := RX4) (T := TX4) (N := 8) hx hb hts k4 tyX4 tyX4_ok nmX4 hown hK.1 hP hD hS 6 rfl rfl 5 (by decide) (hts (.fieldLink RX4 27 "BoredPipes$Stretches" "many" "I") (List.mem_of_getElem? (i := 1) rfl)) (fun _ h9 => h9) rfl (tyX4_ok 5 (by decide)) rfl rfl (Nat.le_of_ble_eq_true rfl) dX4_cutUp_2 (fun H locs hP hD hS => ?_)
  have hP : va_P D vwCl [(h, .inr (2, [.ref h1, .ref h2, .ref h3, .ref h4, .ref h5, .int (nI np), .int (nI nh), .int mo, .int fa])), (h1, .inl (cI, 12, .inl ln)), (h2, .inl (cI, 12, .inl bo)), (h3, .inl (cI, 6, .inl pl)), (h4, .inl (cI, 6, .inl sz)), (h5, .inl (cI, 6, .inl ch)), (t, .inr (4, [.ref t1, .ref t2, .ref t3, .ref t4, .ref t5, .int 0, .int su, .int rd])), (t1, .inl (cI, 18, .inl lf)), (t2, .inl (cI, 18, .inl bf)), (t3, .inl (cI, 18, .inl hf)), (t4, .inl (cI, 18, .inl sf)), (t5, .inl (cI, 18, .inl cf))] H := hP
  have hD : va_D A [(h, .inr (2, [.ref h1, .ref h2, .ref h3, .ref h4, .ref h5, .int (nI np), .int (nI nh), .int mo, .int fa])), (h1, .inl (cI, 12, .inl ln)), (h2, .inl (cI, 12, .inl bo)), (h3, .inl (cI, 6, .inl pl)), (h4, .inl (cI, 6, .inl sz)), (h5, .inl (cI, 6, .inl ch)), (t, .inr (4, [.ref t1, .ref t2, .ref t3, .ref t4, .ref t5, .int 0, .int su, .int rd])), (t1, .inl (cI, 18, .inl lf)), (t2, .inl (cI, 18, .inl bf)), (t3, .inl (cI, 18, .inl hf)), (t4, .inl (cI, 18, .inl sf)), (t5, .inl (cI, 18, .inl cf))] := hD
  refine lv_aload_n hx hb dX4_cutUp_5 rfl (lv_at hl 0 rfl) ?_
  refine lv_aload_n hx hb dX4_cutUp_6 rfl (lv_at hl 1 rfl) ?_
  refine va_get (D := D) (ci := 2) (v := .int fa) (C := RX2) (T := TX2) (N := 9) hx hb hts k2 hown hK.1 hP 0 rfl rfl 8 (by decide) (hts (.fieldLink RX4 38 "BoredPipes$Pipe" "farEnd" "I") (List.mem_of_getElem? (i := 2) rfl)) (fun _ h9 => h9) rfl dX4_cutUp_7 ?_
  refine lv_iconst (v := 1) hx hb dX4_cutUp_10 (by decide) ?_
  have jn_11 : ∀ (H : Heap) (locs : List Loc), va_P D vwCl [(h, .inr (2, [.ref h1, .ref h2, .ref h3, .ref h4, .ref h5, .int (nI np), .int (nI nh), .int mo, .int fa])), (h1, .inl (cI, 12, .inl ln)), (h2, .inl (cI, 12, .inl bo)), (h3, .inl (cI, 6, .inl pl)), (h4, .inl (cI, 6, .inl sz)), (h5, .inl (cI, 6, .inl ch)), (t, .inr (4, [.ref t1, .ref t2, .ref t3, .ref t4, .ref t5, .int 0, .int su, .int rd])), (t1, .inl (cI, 18, .inl lf)), (t2, .inl (cI, 18, .inl bf)), (t3, .inl (cI, 18, .inl hf)), (t4, .inl (cI, 18, .inl sf)), (t5, .inl (cI, 18, .inl cf))] H → va_S A s.heap H locs → W p l e rmX4_cutUp s m a below meth c H locs 0 0 Q (F0 m 19 ls [.int (if fa = 1 then 1 else 0), .ref t]) := by
    intro H locs hP hS
    refine lv_eqi (y := fFlag fa) rfl ?_
    refine va_put (D := D) (ci := 4) (v := .int (fFlag fa)) (ty := .boolean) (C := RX4) (T := TX4) (N := 8) hx hb hts k4 tyX4 tyX4_ok nmX4 hown hK.1 hP hD hS 6 rfl rfl 6 (by decide) (hts (.fieldLink RX4 31 "BoredPipes$Stretches" "shut" "Z") (List.mem_of_getElem? (i := 3) rfl)) (fun _ h9 => h9) rfl (tyX4_ok 6 (by decide)) (nar_fFlag _) (fit_fFlag _) (Nat.le_of_ble_eq_true rfl) dX4_cutUp_19 (fun H locs hP hD hS => ?_)
    have hP : va_P D vwCl [(h, .inr (2, [.ref h1, .ref h2, .ref h3, .ref h4, .ref h5, .int (nI np), .int (nI nh), .int mo, .int fa])), (h1, .inl (cI, 12, .inl ln)), (h2, .inl (cI, 12, .inl bo)), (h3, .inl (cI, 6, .inl pl)), (h4, .inl (cI, 6, .inl sz)), (h5, .inl (cI, 6, .inl ch)), (t, .inr (4, [.ref t1, .ref t2, .ref t3, .ref t4, .ref t5, .int 0, .int (fFlag fa), .int rd])), (t1, .inl (cI, 18, .inl lf)), (t2, .inl (cI, 18, .inl bf)), (t3, .inl (cI, 18, .inl hf)), (t4, .inl (cI, 18, .inl sf)), (t5, .inl (cI, 18, .inl cf))] H := hP
    have hD : va_D A [(h, .inr (2, [.ref h1, .ref h2, .ref h3, .ref h4, .ref h5, .int (nI np), .int (nI nh), .int mo, .int fa])), (h1, .inl (cI, 12, .inl ln)), (h2, .inl (cI, 12, .inl bo)), (h3, .inl (cI, 6, .inl pl)), (h4, .inl (cI, 6, .inl sz)), (h5, .inl (cI, 6, .inl ch)), (t, .inr (4, [.ref t1, .ref t2, .ref t3, .ref t4, .ref t5, .int 0, .int (fFlag fa), .int rd])), (t1, .inl (cI, 18, .inl lf)), (t2, .inl (cI, 18, .inl bf)), (t3, .inl (cI, 18, .inl hf)), (t4, .inl (cI, 18, .inl sf)), (t5, .inl (cI, 18, .inl cf))] := hD
    refine lv_aload_n hx hb dX4_cutUp_22 rfl (lv_at hl 0 rfl) ?_
    refine lv_aload_n hx hb dX4_cutUp_23 rfl (lv_at hl 1 rfl) ?_
    refine va_get (D := D) (ci := 2) (v := .int mo) (C := RX2) (T := TX2) (N := 9) hx hb hts k2 hown hK.1 hP 0 rfl rfl 7 (by decide) (hts (.fieldLink RX4 43 "BoredPipes$Pipe" "mouth" "I") (List.mem_of_getElem? (i := 4) rfl)) (fun _ h9 => h9) rfl dX4_cutUp_24 ?_
    refine lv_iconst (v := 1) hx hb dX4_cutUp_27 (by decide) ?_
    have jn_28 : ∀ (H : Heap) (locs : List Loc), va_P D vwCl [(h, .inr (2, [.ref h1, .ref h2, .ref h3, .ref h4, .ref h5, .int (nI np), .int (nI nh), .int mo, .int fa])), (h1, .inl (cI, 12, .inl ln)), (h2, .inl (cI, 12, .inl bo)), (h3, .inl (cI, 6, .inl pl)), (h4, .inl (cI, 6, .inl sz)), (h5, .inl (cI, 6, .inl ch)), (t, .inr (4, [.ref t1, .ref t2, .ref t3, .ref t4, .ref t5, .int 0, .int (fFlag fa), .int rd])), (t1, .inl (cI, 18, .inl lf)), (t2, .inl (cI, 18, .inl bf)), (t3, .inl (cI, 18, .inl hf)), (t4, .inl (cI, 18, .inl sf)), (t5, .inl (cI, 18, .inl cf))] H → va_S A s.heap H locs → W p l e rmX4_cutUp s m a below meth c H locs 0 0 Q (F0 m 36 ls [.int (if mo = 1 then 1 else 0), .ref t]) := by
      intro H locs hP hS
      refine lv_eqi (y := fFlag mo) rfl ?_
      refine va_put (D := D) (ci := 4) (v := .int (fFlag mo)) (ty := .boolean) (C := RX4) (T := TX4) (N := 8) hx hb hts k4 tyX4 tyX4_ok nmX4 hown hK.1 hP hD hS 6 rfl rfl 7 (by decide) (hts (.fieldLink RX4 35 "BoredPipes$Stretches" "reed" "Z") (List.mem_of_getElem? (i := 5) rfl)) (fun _ h9 => h9) rfl (tyX4_ok 7 (by decide)) (nar_fFlag _) (fit_fFlag _) (Nat.le_of_ble_eq_true rfl) dX4_cutUp_36 (fun H locs hP hD hS => ?_)
      have hP : va_P D vwCl [(h, .inr (2, [.ref h1, .ref h2, .ref h3, .ref h4, .ref h5, .int (nI np), .int (nI nh), .int mo, .int fa])), (h1, .inl (cI, 12, .inl ln)), (h2, .inl (cI, 12, .inl bo)), (h3, .inl (cI, 6, .inl pl)), (h4, .inl (cI, 6, .inl sz)), (h5, .inl (cI, 6, .inl ch)), (t, .inr (4, [.ref t1, .ref t2, .ref t3, .ref t4, .ref t5, .int 0, .int (fFlag fa), .int (fFlag mo)])), (t1, .inl (cI, 18, .inl lf)), (t2, .inl (cI, 18, .inl bf)), (t3, .inl (cI, 18, .inl hf)), (t4, .inl (cI, 18, .inl sf)), (t5, .inl (cI, 18, .inl cf))] H := hP
      have hD : va_D A [(h, .inr (2, [.ref h1, .ref h2, .ref h3, .ref h4, .ref h5, .int (nI np), .int (nI nh), .int mo, .int fa])), (h1, .inl (cI, 12, .inl ln)), (h2, .inl (cI, 12, .inl bo)), (h3, .inl (cI, 6, .inl pl)), (h4, .inl (cI, 6, .inl sz)), (h5, .inl (cI, 6, .inl ch)), (t, .inr (4, [.ref t1, .ref t2, .ref t3, .ref t4, .ref t5, .int 0, .int (fFlag fa), .int (fFlag mo)])), (t1, .inl (cI, 18, .inl lf)), (t2, .inl (cI, 18, .inl bf)), (t3, .inl (cI, 18, .inl hf)), (t4, .inl (cI, 18, .inl sf)), (t5, .inl (cI, 18, .inl cf))] := hD
      refine lv_aload_n hx hb dX4_cutUp_39 rfl (lv_at hl 1 rfl) ?_
      refine rd_i (va_runV (As := []) (rest := []) ⟨hx, hb, hml, hown, hts⟩ (c_X2_wholeLength l D cI cZ h h1 h2 h3 h4 h5 np nh mo fa ln (by first | omega | exact hnp)) (cwV 0 hts gX4_cutUp_X2_wholeLength rfl rfl rfl hdV_X2_wholeLength ⟨Nat.le_of_ble_eq_true rfl, Nat.le_of_ble_eq_true rfl⟩) (PR.V (hP.sub [0, 1] rfl) hK hP (q0 := 0) rfl rfl) rfl rfl hl.1 rfl (lv_room (Nat.le_of_ble_eq_true rfl)) dX4_cutUp_40 ⟨Nat.le_of_ble_eq_true rfl, Nat.le_of_ble_eq_true rfl⟩) hP hS (fun H locs hP hS => ?_)
      refine lv_eqi (y := seqX ln pl np nh 0) rfl ?_
      refine lv_istore_n (lv' := [(2, .int (seqX ln pl np nh 0)), (0, .ref t), (1, .ref h)]) hx hb dX4_cutUp_43 rfl hl (by decide) rfl (fun ls hl => ?_)
      refine lv_iconst (v := 0) hx hb dX4_cutUp_44 (by decide) ?_
      refine lv_istore_n (lv' := [(3, .int 0), (2, .int (seqX ln pl np nh 0)), (0, .ref t), (1, .ref h)]) hx hb dX4_cutUp_45 rfl hl (by decide) rfl (fun ls hl => ?_)
      have lp_46 : ∀ (r : Nat) (i : Nat) (lf : Nat → Int32) (bf : Nat → Int32) (hf : Nat → Int32) (sf : Nat → Int32) (cf : Nat → Int32), (i + r = 18) → (CutEq i lf bf hf sf cf (xL ln pl np nh) (xB ln bo pl np nh) (xH ln pl np nh) (xS ln pl sz np nh) (xC ln pl ch np nh)) → (xMany ln pl np nh = fCut ln pl np nh r i) → ∀ (H : Heap) (locs : List Loc), va_P D vwCl [(h, .inr (2, [.ref h1, .ref h2, .ref h3, .ref h4, .ref h5, .int (nI np), .int (nI nh), .int mo, .int fa])), (h1, .inl (cI, 12, .inl ln)), (h2, .inl (cI, 12, .inl bo)), (h3, .inl (cI, 6, .inl pl)), (h4, .inl (cI, 6, .inl sz)), (h5, .inl (cI, 6, .inl ch)), (t, .inr (4, [.ref t1, .ref t2, .ref t3, .ref t4, .ref t5, .int (nI i), .int (fFlag fa), .int (fFlag mo)])), (t1, .inl (cI, 18, .inl lf)), (t2, .inl (cI, 18, .inl bf)), (t3, .inl (cI, 18, .inl hf)), (t4, .inl (cI, 18, .inl sf)), (t5, .inl (cI, 18, .inl cf))] H → va_D A [(h, .inr (2, [.ref h1, .ref h2, .ref h3, .ref h4, .ref h5, .int (nI np), .int (nI nh), .int mo, .int fa])), (h1, .inl (cI, 12, .inl ln)), (h2, .inl (cI, 12, .inl bo)), (h3, .inl (cI, 6, .inl pl)), (h4, .inl (cI, 6, .inl sz)), (h5, .inl (cI, 6, .inl ch)), (t, .inr (4, [.ref t1, .ref t2, .ref t3, .ref t4, .ref t5, .int (nI i), .int (fFlag fa), .int (fFlag mo)])), (t1, .inl (cI, 18, .inl lf)), (t2, .inl (cI, 18, .inl bf)), (t3, .inl (cI, 18, .inl hf)), (t4, .inl (cI, 18, .inl sf)), (t5, .inl (cI, 18, .inl cf))] → va_S A s.heap H locs → ∀ (ls : Array Slot), lv_has ls 7 [(3, .int (nI i)), (2, .int (seqX ln pl np nh i)), (0, .ref t), (1, .ref h)] → W p l e rmX4_cutUp s m a below meth c H locs 0 0 Q (F0 m 46 ls []) := by
        intro r
        induction r with
        | zero =>
          intro i lf bf hf sf cf hi hc hF H locs hP hD hS ls hl
          refine lv_iload_n hx hb dX4_cutUp_46 rfl (lv_at hl 0 rfl) ?_
          refine lv_bipush (v := 18) hx hb dX4_cutUp_47 (by decide) ?_
          refine lv_icmp_ge (tgt := 179) hx hb dX4_cutUp_49 (by decide) (fun c3 => ?_) (fun c3 => absurd ((nI_le (a := 18) (b := i) (by omega) (by omega))) c3)
          exact ret_WV hQ hx hb hr hlk hAe (⟨lf, bf, hf, sf, cf⟩) (by rw [show xMany ln pl np nh = i from (hF.trans (by first | with_reducible rfl | (simp only [fCut, if_pos c3]; done) | (simp [fCut, if_pos c3]; done)))]; exact hP) hS (show CutEq (xMany ln pl np nh) lf bf hf sf cf (xL ln pl np nh) (xB ln bo pl np nh) (xH ln pl np nh) (xS ln pl sz np nh) (xC ln pl ch np nh) from by rw [show xMany ln pl np nh = i from (hF.trans (by first | with_reducible rfl | (simp only [fCut, if_pos c3]; done) | (simp [fCut, if_pos c3]; done)))]; exact hc) dX4_cutUp_179
        | succ r ih_46 =>
          intro i lf bf hf sf cf hi hc hF H locs hP hD hS ls hl
          refine lv_iload_n hx hb dX4_cutUp_46 rfl (lv_at hl 0 rfl) ?_
          refine lv_bipush (v := 18) hx hb dX4_cutUp_47 (by decide) ?_
          refine lv_icmp_ge (tgt := 179) hx hb dX4_cutUp_49 (by decide) (fun c4 => absurd c4 ((nI_ge (a := i) (b := 18) (by omega) (by omega)))) (fun c4 => ?_)
          refine lv_iload_n hx hb dX4_cutUp_52 rfl (lv_at hl 1 rfl) ?_
          refine lv_if_le (tgt := 179) hx hb dX4_cutUp_53 (by decide) (fun c5 => ?_) (fun c5 => ?_)
          · skip
            exact ret_WV hQ hx hb hr hlk hAe (⟨lf, bf, hf, sf, cf⟩) (by rw [show xMany ln pl np nh = i from (hF.trans (by first | with_reducible rfl | (simp only [fCut, if_neg c4, if_pos c5]; done) | (simp [fCut, if_neg c4, if_pos c5]; done)))]; exact hP) hS (show CutEq (xMany ln pl np nh) lf bf hf sf cf (xL ln pl np nh) (xB ln bo pl np nh) (xH ln pl np nh) (xS ln pl sz np nh) (xC ln pl ch np nh) from by rw [show xMany ln pl np nh = i from (hF.trans (by first | with_reducible rfl | (simp only [fCut, if_neg c4, if_pos c5]; done) | (simp [fCut, if_neg c4, if_pos c5]; done)))]; exact hc) dX4_cutUp_179
          · skip
            refine lv_aload_n hx hb dX4_cutUp_56 rfl (lv_at hl 3 rfl) ?_
            refine lv_iload_n hx hb dX4_cutUp_57 rfl (lv_at hl 1 rfl) ?_
            refine rd_i (va_runV (As := [.int (seqX ln pl np nh i)]) (rest := []) ⟨hx, hb, hml, hown, hts⟩ (c_X2_pieceAt l D cI cZ h h1 h2 h3 h4 h5 np nh mo fa ln (seqX ln pl np nh i) (by first | omega | exact hnp)) (cwV 1 hts gX4_cutUp_X2_pieceAt rfl rfl rfl hdV_X2_pieceAt ⟨Nat.le_of_ble_eq_true rfl, Nat.le_of_ble_eq_true rfl⟩) (PR.V (hP.sub [0, 1] rfl) hK hP (q0 := 0) rfl rfl) rfl rfl hl.1 rfl (lv_room (Nat.le_of_ble_eq_true rfl)) dX4_cutUp_58 ⟨Nat.le_of_ble_eq_true rfl, Nat.le_of_ble_eq_true rfl⟩) hP hS (fun H locs hP hS => ?_)
            refine lv_istore (lv' := [(4, .int (fPieceAt ln (seqX ln pl np nh i) np 0 0)), (3, .int (nI i)), (2, .int (seqX ln pl np nh i)), (0, .ref t), (1, .ref h)]) hx hb dX4_cutUp_61 hl (by decide) rfl (fun ls hl => ?_)
            refine lv_aload_n hx hb dX4_cutUp_63 rfl (lv_at hl 4 rfl) ?_
            refine lv_iload hx hb dX4_cutUp_64 (lv_at hl 0 rfl) ?_
            refine rd_i (va_runV (As := [.int (fPieceAt ln (seqX ln pl np nh i) np 0 0)]) (rest := []) ⟨hx, hb, hml, hown, hts⟩ (c_X2_startOf_g l D cI cZ h h1 h2 h3 h4 h5 np nh mo fa ln (fPieceAt ln (seqX ln pl np nh i) np 0 0) (fPieceAt_le (by omega))) (cwV 1 hts gX4_cutUp_X2_startOf rfl rfl rfl hdV_X2_startOf ⟨Nat.le_of_ble_eq_true rfl, Nat.le_of_ble_eq_true rfl⟩) (PR.V (hP.sub [0, 1] rfl) hK hP (q0 := 0) rfl rfl) rfl rfl hl.1 rfl (lv_room (Nat.le_of_ble_eq_true rfl)) dX4_cutUp_66 ⟨Nat.le_of_ble_eq_true rfl, Nat.le_of_ble_eq_true rfl⟩) hP hS (fun H locs hP hS => ?_)
            refine lv_aload_n hx hb dX4_cutUp_69 rfl (lv_at hl 4 rfl) ?_
            refine lv_iload_n hx hb dX4_cutUp_70 rfl (lv_at hl 2 rfl) ?_
            refine rd_i (va_runV (As := [.int (seqX ln pl np nh i)]) (rest := [.int (fSum ln (fPieceAt ln (seqX ln pl np nh i) np 0 0).toNatClampNeg 0 0)]) ⟨hx, hb, hml, hown, hts⟩ (c_X2_lastHoleBefore l D cI cZ h h1 h2 h3 h4 h5 np nh mo fa pl (seqX ln pl np nh i) (by first | omega | exact hnh)) (cwV 1 hts gX4_cutUp_X2_lastHoleBefore rfl rfl rfl hdV_X2_lastHoleBefore ⟨Nat.le_of_ble_eq_true rfl, Nat.le_of_ble_eq_true rfl⟩) (PR.V (hP.sub [0, 3] rfl) hK hP (q0 := 0) rfl rfl) rfl rfl hl.1 rfl (lv_room (Nat.le_of_ble_eq_true rfl)) dX4_cutUp_71 ⟨Nat.le_of_ble_eq_true rfl, Nat.le_of_ble_eq_true rfl⟩) hP hS (fun H locs hP hS => ?_)
            refine va_mmax hx hb (hml.trans hl.1.symm) hown (hts (.methodLink RX4 60 Lib.Math.max.name) (List.mem_of_getElem? (i := 6) rfl)) (hts (.static Lib.Math.max.name) (List.mem_of_getElem? (i := 7) rfl)) (hts (.initialized "java/lang/Math") (List.mem_of_getElem? (i := 8) rfl)) (hts (.code Lib.Math.max.name Lib.Math.max.code 2 (some .int)) (List.mem_of_getElem? (i := 9) rfl)) (Nat.le_of_ble_eq_true rfl) (Nat.le_of_ble_eq_true rfl) (Nat.le_of_ble_eq_true rfl) (Nat.le_of_ble_eq_true rfl) dX4_cutUp_74 ?_
            refine lv_eqi (y := seqX ln pl np nh (i + 1)) (seqX_succ ln pl np nh i).symm ?_
            refine lv_istore (lv' := [(5, .int (seqX ln pl np nh (i + 1))), (4, .int (fPieceAt ln (seqX ln pl np nh i) np 0 0)), (3, .int (nI i)), (2, .int (seqX ln pl np nh i)), (0, .ref t), (1, .ref h)]) hx hb dX4_cutUp_77 hl (by decide) rfl (fun ls hl => ?_)
            refine lv_aload_n hx hb dX4_cutUp_79 rfl (lv_at hl 5 rfl) ?_
            refine lv_iload hx hb dX4_cutUp_80 (lv_at hl 0 rfl) ?_
            refine rd_i (va_runV (As := [.int (seqX ln pl np nh (i + 1))]) (rest := []) ⟨hx, hb, hml, hown, hts⟩ (c_X2_holeAt l D cI cZ h h1 h2 h3 h4 h5 np nh mo fa pl (seqX ln pl np nh (i + 1)) (by first | omega | exact hnh)) (cwV 1 hts gX4_cutUp_X2_holeAt rfl rfl rfl hdV_X2_holeAt ⟨Nat.le_of_ble_eq_true rfl, Nat.le_of_ble_eq_true rfl⟩) (PR.V (hP.sub [0, 3] rfl) hK hP (q0 := 0) rfl rfl) rfl rfl hl.1 rfl (lv_room (Nat.le_of_ble_eq_true rfl)) dX4_cutUp_82 ⟨Nat.le_of_ble_eq_true rfl, Nat.le_of_ble_eq_true rfl⟩) hP hS (fun H locs hP hS => ?_)
            refine lv_eqi (y := xH ln pl np nh i) rfl ?_
            refine lv_istore (lv' := [(6, .int (xH ln pl np nh i)), (5, .int (seqX ln pl np nh (i + 1))), (4, .int (fPieceAt ln (seqX ln pl np nh i) np 0 0)), (3, .int (nI i)), (2, .int (seqX ln pl np nh i)), (0, .ref t), (1, .ref h)]) hx hb dX4_cutUp_85 hl (by decide) rfl (fun ls hl => ?_)
            refine lv_aload_n hx hb dX4_cutUp_87 rfl (lv_at hl 5 rfl) ?_
            refine va_get (D := D) (ci := 4) (v := .ref t1) (C := RX4) (T := TX4) (N := 8) hx hb hts k4 hown hK.1 hP 6 rfl rfl 0 (by decide) (hts (.fieldLink RX4 11 "BoredPipes$Stretches" "lengths" "[I") (List.mem_of_getElem? (i := 10) rfl)) (fun _ h9 => h9) rfl dX4_cutUp_88 ?_
            refine lv_iload_n hx hb dX4_cutUp_91 rfl (lv_at hl 3 rfl) ?_
            refine lv_iload_n hx hb dX4_cutUp_92 rfl (lv_at hl 4 rfl) ?_
            refine lv_iload hx hb dX4_cutUp_93 (lv_at hl 1 rfl) ?_
            refine lv_isub hx hb dX4_cutUp_95 ?_
            refine lv_eqi (y := xL ln pl np nh i) rfl ?_
            refine wr_v (va_runSN (As := [.ref t1, .int (nI i), .int (xL ln pl np nh i)]) (rest := []) ⟨hx, hb, hml, hown, hts⟩ (c_X5_put_in l D cI cZ t1 18 lf i (xL ln pl np nh i) (by omega) (by omega)) ⟨va_cnB 3 hts gX4_cutUp_X5_put_n69 rfl rfl rfl (nwL8 hN) (hts (.initialized RX5) (List.mem_of_getElem? (i := 30) rfl)) hdV_X5_put.2 ⟨Nat.le_of_ble_eq_true rfl, Nat.le_of_ble_eq_true rfl⟩, (hts (.static yX5_put) (List.mem_of_getElem? (i := 48) rfl)), trivial⟩ (PW.S (hP.sub [7] rfl) hK ((hD.sub [7] (by decide) rfl).weaken (fun _ _ _ _ => trivial))) rfl rfl hl.1 rfl (lv_room (Nat.le_of_ble_eq_true rfl)) dX4_cutUp_96 ⟨Nat.le_of_ble_eq_true rfl, Nat.le_of_ble_eq_true rfl⟩) hP hD hS [7] rfl (fun _ => rfl) (fun u6 H locs hu6 hP hD hS => ?_)
            have hP : va_P D vwCl [(h, .inr (2, [.ref h1, .ref h2, .ref h3, .ref h4, .ref h5, .int (nI np), .int (nI nh), .int mo, .int fa])), (h1, .inl (cI, 12, .inl ln)), (h2, .inl (cI, 12, .inl bo)), (h3, .inl (cI, 6, .inl pl)), (h4, .inl (cI, 6, .inl sz)), (h5, .inl (cI, 6, .inl ch)), (t, .inr (4, [.ref t1, .ref t2, .ref t3, .ref t4, .ref t5, .int (nI i), .int (fFlag fa), .int (fFlag mo)])), (t1, .inl (cI, 18, .inl (upd lf i (xL ln pl np nh i)))), (t2, .inl (cI, 18, .inl bf)), (t3, .inl (cI, 18, .inl hf)), (t4, .inl (cI, 18, .inl sf)), (t5, .inl (cI, 18, .inl cf))] H := hP
            have hD : va_D A [(h, .inr (2, [.ref h1, .ref h2, .ref h3, .ref h4, .ref h5, .int (nI np), .int (nI nh), .int mo, .int fa])), (h1, .inl (cI, 12, .inl ln)), (h2, .inl (cI, 12, .inl bo)), (h3, .inl (cI, 6, .inl pl)), (h4, .inl (cI, 6, .inl sz)), (h5, .inl (cI, 6, .inl ch)), (t, .inr (4, [.ref t1, .ref t2, .ref t3, .ref t4, .ref t5, .int (nI i), .int (fFlag fa), .int (fFlag mo)])), (t1, .inl (cI, 18, .inl (upd lf i (xL ln pl np nh i)))), (t2, .inl (cI, 18, .inl bf)), (t3, .inl (cI, 18, .inl hf)), (t4, .inl (cI, 18, .inl sf)), (t5, .inl (cI, 18, .inl cf))] := hD
            refine lv_aload_n hx hb dX4_cutUp_99 rfl (lv_at hl 5 rfl) ?_
            refine va_get (D := D) (ci := 4) (v := .ref t2) (C := RX4) (T := TX4) (N := 8) hx hb hts k4 hown hK.1 hP 6 rfl rfl 1 (by decide) (hts (.fieldLink RX4 15 "BoredPipes$Stretches" "bores" "[I") (List.mem_of_getElem? (i := 11) rfl)) (fun _ h9 => h9) rfl dX4_cutUp_100 ?_
            refine lv_iload_n hx hb dX4_cutUp_103 rfl (lv_at hl 3 rfl) ?_
            refine lv_aload_n hx hb dX4_cutUp_104 rfl (lv_at hl 6 rfl) ?_
            refine va_get (D := D) (ci := 2) (v := .ref h2) (C := RX2) (T := TX2) (N := 9) hx hb hts k2 hown hK.1 hP 0 rfl rfl 1 (by decide) (hts (.fieldLink RX4 73 "BoredPipes$Pipe" "bores" "[I") (List.mem_of_getElem? (i := 12) rfl)) (fun _ h9 => h9) rfl dX4_cutUp_105 ?_
            refine lv_iload hx hb dX4_cutUp_108 (lv_at hl 2 rfl) ?_
            refine rd_i (va_runSN (As := [.ref h2, .int (fPieceAt ln (seqX ln pl np nh i) np 0 0)]) (rest := [.int (nI i), .ref t2]) ⟨hx, hb, hml, hown, hts⟩ (c_X5_at l D cI cZ h2 12 bo (fPieceAt ln (seqX ln pl np nh i) np 0 0) (by omega)) ⟨va_cnB 2 hts gX4_cutUp_X5_at_n74 rfl rfl rfl (nwL9 hN) (hts (.initialized RX5) (List.mem_of_getElem? (i := 30) rfl)) hdV_X5_at.2 ⟨Nat.le_of_ble_eq_true rfl, Nat.le_of_ble_eq_true rfl⟩, (hts (.static yX5_at) (List.mem_of_getElem? (i := 29) rfl)), trivial⟩ (PR.S (hP.sub [2] rfl) hK) rfl rfl hl.1 rfl (lv_room (Nat.le_of_ble_eq_true rfl)) dX4_cutUp_110 ⟨Nat.le_of_ble_eq_true rfl, Nat.le_of_ble_eq_true rfl⟩) hP hS (fun H locs hP hS => ?_)
            refine lv_eqi (y := xB ln bo pl np nh i) rfl ?_
            refine wr_v (va_runSN (As := [.ref t2, .int (nI i), .int (xB ln bo pl np nh i)]) (rest := []) ⟨hx, hb, hml, hown, hts⟩ (c_X5_put_in l D cI cZ t2 18 bf i (xB ln bo pl np nh i) (by omega) (by omega)) ⟨va_cnB 3 hts gX4_cutUp_X5_put_n69 rfl rfl rfl (nwL8 hN) (hts (.initialized RX5) (List.mem_of_getElem? (i := 30) rfl)) hdV_X5_put.2 ⟨Nat.le_of_ble_eq_true rfl, Nat.le_of_ble_eq_true rfl⟩, (hts (.static yX5_put) (List.mem_of_getElem? (i := 48) rfl)), trivial⟩ (PW.S (hP.sub [8] rfl) hK ((hD.sub [8] (by decide) rfl).weaken (fun _ _ _ _ => trivial))) rfl rfl hl.1 rfl (lv_room (Nat.le_of_ble_eq_true rfl)) dX4_cutUp_113 ⟨Nat.le_of_ble_eq_true rfl, Nat.le_of_ble_eq_true rfl⟩) hP hD hS [8] rfl (fun _ => rfl) (fun u7 H locs hu7 hP hD hS => ?_)
            have hP : va_P D vwCl [(h, .inr (2, [.ref h1, .ref h2, .ref h3, .ref h4, .ref h5, .int (nI np), .int (nI nh), .int mo, .int fa])), (h1, .inl (cI, 12, .inl ln)), (h2, .inl (cI, 12, .inl bo)), (h3, .inl (cI, 6, .inl pl)), (h4, .inl (cI, 6, .inl sz)), (h5, .inl (cI, 6, .inl ch)), (t, .inr (4, [.ref t1, .ref t2, .ref t3, .ref t4, .ref t5, .int (nI i), .int (fFlag fa), .int (fFlag mo)])), (t1, .inl (cI, 18, .inl (upd lf i (xL ln pl np nh i)))), (t2, .inl (cI, 18, .inl (upd bf i (xB ln bo pl np nh i)))), (t3, .inl (cI, 18, .inl hf)), (t4, .inl (cI, 18, .inl sf)), (t5, .inl (cI, 18, .inl cf))] H := hP
            have hD : va_D A [(h, .inr (2, [.ref h1, .ref h2, .ref h3, .ref h4, .ref h5, .int (nI np), .int (nI nh), .int mo, .int fa])), (h1, .inl (cI, 12, .inl ln)), (h2, .inl (cI, 12, .inl bo)), (h3, .inl (cI, 6, .inl pl)), (h4, .inl (cI, 6, .inl sz)), (h5, .inl (cI, 6, .inl ch)), (t, .inr (4, [.ref t1, .ref t2, .ref t3, .ref t4, .ref t5, .int (nI i), .int (fFlag fa), .int (fFlag mo)])), (t1, .inl (cI, 18, .inl (upd lf i (xL ln pl np nh i)))), (t2, .inl (cI, 18, .inl (upd bf i (xB ln bo pl np nh i)))), (t3, .inl (cI, 18, .inl hf)), (t4, .inl (cI, 18, .inl sf)), (t5, .inl (cI, 18, .inl cf))] := hD
            refine lv_aload_n hx hb dX4_cutUp_116 rfl (lv_at hl 5 rfl) ?_
            refine va_get (D := D) (ci := 4) (v := .ref t3) (C := RX4) (T := TX4) (N := 8) hx hb hts k4 hown hK.1 hP 6 rfl rfl 2 (by decide) (hts (.fieldLink RX4 18 "BoredPipes$Stretches" "holes" "[I") (List.mem_of_getElem? (i := 13) rfl)) (fun _ h9 => h9) rfl dX4_cutUp_117 ?_
            refine lv_iload_n hx hb dX4_cutUp_120 rfl (lv_at hl 3 rfl) ?_
            refine lv_iload hx hb dX4_cutUp_121 (lv_at hl 0 rfl) ?_
            refine wr_v (va_runSN (As := [.ref t3, .int (nI i), .int (xH ln pl np nh i)]) (rest := []) ⟨hx, hb, hml, hown, hts⟩ (c_X5_put_in l D cI cZ t3 18 hf i (xH ln pl np nh i) (by omega) (by omega)) ⟨va_cnB 3 hts gX4_cutUp_X5_put_n69 rfl rfl rfl (nwL8 hN) (hts (.initialized RX5) (List.mem_of_getElem? (i := 30) rfl)) hdV_X5_put.2 ⟨Nat.le_of_ble_eq_true rfl, Nat.le_of_ble_eq_true rfl⟩, (hts (.static yX5_put) (List.mem_of_getElem? (i := 48) rfl)), trivial⟩ (PW.S (hP.sub [9] rfl) hK ((hD.sub [9] (by decide) rfl).weaken (fun _ _ _ _ => trivial))) rfl rfl hl.1 rfl (lv_room (Nat.le_of_ble_eq_true rfl)) dX4_cutUp_123 ⟨Nat.le_of_ble_eq_true rfl, Nat.le_of_ble_eq_true rfl⟩) hP hD hS [9] rfl (fun _ => rfl) (fun u8 H locs hu8 hP hD hS => ?_)
            have hP : va_P D vwCl [(h, .inr (2, [.ref h1, .ref h2, .ref h3, .ref h4, .ref h5, .int (nI np), .int (nI nh), .int mo, .int fa])), (h1, .inl (cI, 12, .inl ln)), (h2, .inl (cI, 12, .inl bo)), (h3, .inl (cI, 6, .inl pl)), (h4, .inl (cI, 6, .inl sz)), (h5, .inl (cI, 6, .inl ch)), (t, .inr (4, [.ref t1, .ref t2, .ref t3, .ref t4, .ref t5, .int (nI i), .int (fFlag fa), .int (fFlag mo)])), (t1, .inl (cI, 18, .inl (upd lf i (xL ln pl np nh i)))), (t2, .inl (cI, 18, .inl (upd bf i (xB ln bo pl np nh i)))), (t3, .inl (cI, 18, .inl (upd hf i (xH ln pl np nh i)))), (t4, .inl (cI, 18, .inl sf)), (t5, .inl (cI, 18, .inl cf))] H := hP
            have hD : va_D A [(h, .inr (2, [.ref h1, .ref h2, .ref h3, .ref h4, .ref h5, .int (nI np), .int (nI nh), .int mo, .int fa])), (h1, .inl (cI, 12, .inl ln)), (h2, .inl (cI, 12, .inl bo)), (h3, .inl (cI, 6, .inl pl)), (h4, .inl (cI, 6, .inl sz)), (h5, .inl (cI, 6, .inl ch)), (t, .inr (4, [.ref t1, .ref t2, .ref t3, .ref t4, .ref t5, .int (nI i), .int (fFlag fa), .int (fFlag mo)])), (t1, .inl (cI, 18, .inl (upd lf i (xL ln pl np nh i)))), (t2, .inl (cI, 18, .inl (upd bf i (xB ln bo pl np nh i)))), (t3, .inl (cI, 18, .inl (upd hf i (xH ln pl np nh i)))), (t4, .inl (cI, 18, .inl sf)), (t5, .inl (cI, 18, .inl cf))] := hD
            refine lv_aload_n hx hb dX4_cutUp_126 rfl (lv_at hl 5 rfl) ?_
            refine va_get (D := D) (ci := 4) (v := .ref t4) (C := RX4) (T := TX4) (N := 8) hx hb hts k4 hown hK.1 hP 6 rfl rfl 3 (by decide) (hts (.fieldLink RX4 21 "BoredPipes$Stretches" "sizes" "[I") (List.mem_of_getElem? (i := 14) rfl)) (fun _ h9 => h9) rfl dX4_cutUp_127 ?_
            refine lv_iload_n hx hb dX4_cutUp_130 rfl (lv_at hl 3 rfl) ?_
            refine lv_aload_n hx hb dX4_cutUp_131 rfl (lv_at hl 6 rfl) ?_
            refine va_get (D := D) (ci := 2) (v := .ref h4) (C := RX2) (T := TX2) (N := 9) hx hb hts k2 hown hK.1 hP 0 rfl rfl 3 (by decide) (hts (.fieldLink RX4 78 "BoredPipes$Pipe" "sizes" "[I") (List.mem_of_getElem? (i := 15) rfl)) (fun _ h9 => h9) rfl dX4_cutUp_132 ?_
            refine lv_iload hx hb dX4_cutUp_135 (lv_at hl 0 rfl) ?_
            refine rd_i (va_runSN (As := [.ref h4, .int (xH ln pl np nh i)]) (rest := [.int (nI i), .ref t4]) ⟨hx, hb, hml, hown, hts⟩ (c_X5_at l D cI cZ h4 6 sz (xH ln pl np nh i) (by omega)) ⟨va_cnB 2 hts gX4_cutUp_X5_at_n74 rfl rfl rfl (nwL9 hN) (hts (.initialized RX5) (List.mem_of_getElem? (i := 30) rfl)) hdV_X5_at.2 ⟨Nat.le_of_ble_eq_true rfl, Nat.le_of_ble_eq_true rfl⟩, (hts (.static yX5_at) (List.mem_of_getElem? (i := 29) rfl)), trivial⟩ (PR.S (hP.sub [4] rfl) hK) rfl rfl hl.1 rfl (lv_room (Nat.le_of_ble_eq_true rfl)) dX4_cutUp_137 ⟨Nat.le_of_ble_eq_true rfl, Nat.le_of_ble_eq_true rfl⟩) hP hS (fun H locs hP hS => ?_)
            refine lv_eqi (y := xS ln pl sz np nh i) rfl ?_
            refine wr_v (va_runSN (As := [.ref t4, .int (nI i), .int (xS ln pl sz np nh i)]) (rest := []) ⟨hx, hb, hml, hown, hts⟩ (c_X5_put_in l D cI cZ t4 18 sf i (xS ln pl sz np nh i) (by omega) (by omega)) ⟨va_cnB 3 hts gX4_cutUp_X5_put_n69 rfl rfl rfl (nwL8 hN) (hts (.initialized RX5) (List.mem_of_getElem? (i := 30) rfl)) hdV_X5_put.2 ⟨Nat.le_of_ble_eq_true rfl, Nat.le_of_ble_eq_true rfl⟩, (hts (.static yX5_put) (List.mem_of_getElem? (i := 48) rfl)), trivial⟩ (PW.S (hP.sub [10] rfl) hK ((hD.sub [10] (by decide) rfl).weaken (fun _ _ _ _ => trivial))) rfl rfl hl.1 rfl (lv_room (Nat.le_of_ble_eq_true rfl)) dX4_cutUp_140 ⟨Nat.le_of_ble_eq_true rfl, Nat.le_of_ble_eq_true rfl⟩) hP hD hS [10] rfl (fun _ => rfl) (fun u9 H locs hu9 hP hD hS => ?_)
            have hP : va_P D vwCl [(h, .inr (2, [.ref h1, .ref h2, .ref h3, .ref h4, .ref h5, .int (nI np), .int (nI nh), .int mo, .int fa])), (h1, .inl (cI, 12, .inl ln)), (h2, .inl (cI, 12, .inl bo)), (h3, .inl (cI, 6, .inl pl)), (h4, .inl (cI, 6, .inl sz)), (h5, .inl (cI, 6, .inl ch)), (t, .inr (4, [.ref t1, .ref t2, .ref t3, .ref t4, .ref t5, .int (nI i), .int (fFlag fa), .int (fFlag mo)])), (t1, .inl (cI, 18, .inl (upd lf i (xL ln pl np nh i)))), (t2, .inl (cI, 18, .inl (upd bf i (xB ln bo pl np nh i)))), (t3, .inl (cI, 18, .inl (upd hf i (xH ln pl np nh i)))), (t4, .inl (cI, 18, .inl (upd sf i (xS ln pl sz np nh i)))), (t5, .inl (cI, 18, .inl cf))] H := hP
            have hD : va_D A [(h, .inr (2, [.ref h1, .ref h2, .ref h3, .ref h4, .ref h5, .int (nI np), .int (nI nh), .int mo, .int fa])), (h1, .inl (cI, 12, .inl ln)), (h2, .inl (cI, 12, .inl bo)), (h3, .inl (cI, 6, .inl pl)), (h4, .inl (cI, 6, .inl sz)), (h5, .inl (cI, 6, .inl ch)), (t, .inr (4, [.ref t1, .ref t2, .ref t3, .ref t4, .ref t5, .int (nI i), .int (fFlag fa), .int (fFlag mo)])), (t1, .inl (cI, 18, .inl (upd lf i (xL ln pl np nh i)))), (t2, .inl (cI, 18, .inl (upd bf i (xB ln bo pl np nh i)))), (t3, .inl (cI, 18, .inl (upd hf i (xH ln pl np nh i)))), (t4, .inl (cI, 18, .inl (upd sf i (xS ln pl sz np nh i)))), (t5, .inl (cI, 18, .inl cf))] := hD
            refine lv_aload_n hx hb dX4_cutUp_143 rfl (lv_at hl 5 rfl) ?_
            refine va_get (D := D) (ci := 4) (v := .ref t5) (C := RX4) (T := TX4) (N := 8) hx hb hts k4 hown hK.1 hP 6 rfl rfl 4 (by decide) (hts (.fieldLink RX4 24 "BoredPipes$Stretches" "chimneys" "[I") (List.mem_of_getElem? (i := 16) rfl)) (fun _ h9 => h9) rfl dX4_cutUp_144 ?_
            refine lv_iload_n hx hb dX4_cutUp_147 rfl (lv_at hl 3 rfl) ?_
            refine lv_aload_n hx hb dX4_cutUp_148 rfl (lv_at hl 6 rfl) ?_
            refine va_get (D := D) (ci := 2) (v := .ref h5) (C := RX2) (T := TX2) (N := 9) hx hb hts k2 hown hK.1 hP 0 rfl rfl 4 (by decide) (hts (.fieldLink RX4 79 "BoredPipes$Pipe" "chimneys" "[I") (List.mem_of_getElem? (i := 17) rfl)) (fun _ h9 => h9) rfl dX4_cutUp_149 ?_
            refine lv_iload hx hb dX4_cutUp_152 (lv_at hl 0 rfl) ?_
            refine rd_i (va_runSN (As := [.ref h5, .int (xH ln pl np nh i)]) (rest := [.int (nI i), .ref t5]) ⟨hx, hb, hml, hown, hts⟩ (c_X5_at l D cI cZ h5 6 ch (xH ln pl np nh i) (by omega)) ⟨va_cnB 2 hts gX4_cutUp_X5_at_n74 rfl rfl rfl (nwL9 hN) (hts (.initialized RX5) (List.mem_of_getElem? (i := 30) rfl)) hdV_X5_at.2 ⟨Nat.le_of_ble_eq_true rfl, Nat.le_of_ble_eq_true rfl⟩, (hts (.static yX5_at) (List.mem_of_getElem? (i := 29) rfl)), trivial⟩ (PR.S (hP.sub [5] rfl) hK) rfl rfl hl.1 rfl (lv_room (Nat.le_of_ble_eq_true rfl)) dX4_cutUp_154 ⟨Nat.le_of_ble_eq_true rfl, Nat.le_of_ble_eq_true rfl⟩) hP hS (fun H locs hP hS => ?_)
            refine lv_eqi (y := xC ln pl ch np nh i) rfl ?_
            refine wr_v (va_runSN (As := [.ref t5, .int (nI i), .int (xC ln pl ch np nh i)]) (rest := []) ⟨hx, hb, hml, hown, hts⟩ (c_X5_put_in l D cI cZ t5 18 cf i (xC ln pl ch np nh i) (by omega) (by omega)) ⟨va_cnB 3 hts gX4_cutUp_X5_put_n69 rfl rfl rfl (nwL8 hN) (hts (.initialized RX5) (List.mem_of_getElem? (i := 30) rfl)) hdV_X5_put.2 ⟨Nat.le_of_ble_eq_true rfl, Nat.le_of_ble_eq_true rfl⟩, (hts (.static yX5_put) (List.mem_of_getElem? (i := 48) rfl)), trivial⟩ (PW.S (hP.sub [11] rfl) hK ((hD.sub [11] (by decide) rfl).weaken (fun _ _ _ _ => trivial))) rfl rfl hl.1 rfl (lv_room (Nat.le_of_ble_eq_true rfl)) dX4_cutUp_157 ⟨Nat.le_of_ble_eq_true rfl, Nat.le_of_ble_eq_true rfl⟩) hP hD hS [11] rfl (fun _ => rfl) (fun u10 H locs hu10 hP hD hS => ?_)
            have hP : va_P D vwCl [(h, .inr (2, [.ref h1, .ref h2, .ref h3, .ref h4, .ref h5, .int (nI np), .int (nI nh), .int mo, .int fa])), (h1, .inl (cI, 12, .inl ln)), (h2, .inl (cI, 12, .inl bo)), (h3, .inl (cI, 6, .inl pl)), (h4, .inl (cI, 6, .inl sz)), (h5, .inl (cI, 6, .inl ch)), (t, .inr (4, [.ref t1, .ref t2, .ref t3, .ref t4, .ref t5, .int (nI i), .int (fFlag fa), .int (fFlag mo)])), (t1, .inl (cI, 18, .inl (upd lf i (xL ln pl np nh i)))), (t2, .inl (cI, 18, .inl (upd bf i (xB ln bo pl np nh i)))), (t3, .inl (cI, 18, .inl (upd hf i (xH ln pl np nh i)))), (t4, .inl (cI, 18, .inl (upd sf i (xS ln pl sz np nh i)))), (t5, .inl (cI, 18, .inl (upd cf i (xC ln pl ch np nh i))))] H := hP
            have hD : va_D A [(h, .inr (2, [.ref h1, .ref h2, .ref h3, .ref h4, .ref h5, .int (nI np), .int (nI nh), .int mo, .int fa])), (h1, .inl (cI, 12, .inl ln)), (h2, .inl (cI, 12, .inl bo)), (h3, .inl (cI, 6, .inl pl)), (h4, .inl (cI, 6, .inl sz)), (h5, .inl (cI, 6, .inl ch)), (t, .inr (4, [.ref t1, .ref t2, .ref t3, .ref t4, .ref t5, .int (nI i), .int (fFlag fa), .int (fFlag mo)])), (t1, .inl (cI, 18, .inl (upd lf i (xL ln pl np nh i)))), (t2, .inl (cI, 18, .inl (upd bf i (xB ln bo pl np nh i)))), (t3, .inl (cI, 18, .inl (upd hf i (xH ln pl np nh i)))), (t4, .inl (cI, 18, .inl (upd sf i (xS ln pl sz np nh i)))), (t5, .inl (cI, 18, .inl (upd cf i (xC ln pl ch np nh i))))] := hD
            refine lv_aload_n hx hb dX4_cutUp_160 rfl (lv_at hl 5 rfl) ?_
            refine lv_dup hx hb dX4_cutUp_161 rfl ?_
            refine va_get (D := D) (ci := 4) (v := .int (nI i)) (C := RX4) (T := TX4) (N := 8) hx hb hts k4 hown hK.1 hP 6 rfl rfl 5 (by decide) (hts (.fieldLink RX4 27 "BoredPipes$Stretches" "many" "I") (List.mem_of_getElem? (i := 1) rfl)) (fun _ h9 => h9) rfl dX4_cutUp_162 ?_
            refine lv_iconst (v := 1) hx hb dX4_cutUp_165 (by decide) ?_
            refine nn_iadd hx hb dX4_cutUp_166 (x := i) (y := 1) rfl rfl ?_
            refine va_put (D := D) (ci := 4) (v := .int (nI (i + 1))) (ty := .int) (C := RX4) (T := TX4) (N := 8) hx hb hts k4 tyX4 tyX4_ok nmX4 hown hK.1 hP hD hS 6 rfl rfl 5 (by decide) (hts (.fieldLink RX4 27 "BoredPipes$Stretches" "many" "I") (List.mem_of_getElem? (i := 1) rfl)) (fun _ h9 => h9) rfl (tyX4_ok 5 (by decide)) rfl rfl (Nat.le_of_ble_eq_true rfl) dX4_cutUp_167 (fun H locs hP hD hS => ?_)
            have hP : va_P D vwCl [(h, .inr (2, [.ref h1, .ref h2, .ref h3, .ref h4, .ref h5, .int (nI np), .int (nI nh), .int mo, .int fa])), (h1, .inl (cI, 12, .inl ln)), (h2, .inl (cI, 12, .inl bo)), (h3, .inl (cI, 6, .inl pl)), (h4, .inl (cI, 6, .inl sz)), (h5, .inl (cI, 6, .inl ch)), (t, .inr (4, [.ref t1, .ref t2, .ref t3, .ref t4, .ref t5, .int (nI (i + 1)), .int (fFlag fa), .int (fFlag mo)])), (t1, .inl (cI, 18, .inl (upd lf i (xL ln pl np nh i)))), (t2, .inl (cI, 18, .inl (upd bf i (xB ln bo pl np nh i)))), (t3, .inl (cI, 18, .inl (upd hf i (xH ln pl np nh i)))), (t4, .inl (cI, 18, .inl (upd sf i (xS ln pl sz np nh i)))), (t5, .inl (cI, 18, .inl (upd cf i (xC ln pl ch np nh i))))] H := hP
            have hD : va_D A [(h, .inr (2, [.ref h1, .ref h2, .ref h3, .ref h4, .ref h5, .int (nI np), .int (nI nh), .int mo, .int fa])), (h1, .inl (cI, 12, .inl ln)), (h2, .inl (cI, 12, .inl bo)), (h3, .inl (cI, 6, .inl pl)), (h4, .inl (cI, 6, .inl sz)), (h5, .inl (cI, 6, .inl ch)), (t, .inr (4, [.ref t1, .ref t2, .ref t3, .ref t4, .ref t5, .int (nI (i + 1)), .int (fFlag fa), .int (fFlag mo)])), (t1, .inl (cI, 18, .inl (upd lf i (xL ln pl np nh i)))), (t2, .inl (cI, 18, .inl (upd bf i (xB ln bo pl np nh i)))), (t3, .inl (cI, 18, .inl (upd hf i (xH ln pl np nh i)))), (t4, .inl (cI, 18, .inl (upd sf i (xS ln pl sz np nh i)))), (t5, .inl (cI, 18, .inl (upd cf i (xC ln pl ch np nh i))))] := hD
            refine lv_iload hx hb dX4_cutUp_170 (lv_at hl 1 rfl) ?_
            refine lv_istore_n (lv' := [(2, .int (seqX ln pl np nh (i + 1))), (6, .int (xH ln pl np nh i)), (5, .int (seqX ln pl np nh (i + 1))), (4, .int (fPieceAt ln (seqX ln pl np nh i) np 0 0)), (3, .int (nI i)), (0, .ref t), (1, .ref h)]) hx hb dX4_cutUp_172 rfl hl (by decide) rfl (fun ls hl => ?_)
            refine lv_iinc (v := nI (i + 1)) (lv' := [(3, .int (nI (i + 1))), (2, .int (seqX ln pl np nh (i + 1))), (6, .int (xH ln pl np nh i)), (5, .int (seqX ln pl np nh (i + 1))), (4, .int (fPieceAt ln (seqX ln pl np nh i) np 0 0)), (0, .ref t), (1, .ref h)]) hx hb dX4_cutUp_173 hl (k := 4) rfl (iinc_1 i) (by decide) rfl (fun ls hl => ?_)
            refine lv_goto (tgt := 46) hx hb dX4_cutUp_176 (by decide) ?_
            exact ih_46 (i + 1) (upd lf i (xL ln pl np nh i)) (upd bf i (xB ln bo pl np nh i)) (upd hf i (xH ln pl np nh i)) (upd sf i (xS ln pl sz np nh i)) (upd cf i (xC ln pl ch np nh i)) (by omega) (CutEq_succ hc) (hF.trans (by first | with_reducible rfl | (simp only [fCut, if_neg c4, if_neg c5]; done) | (simp [fCut, if_neg c4, if_neg c5]; done))) _ _ hP hD hS ls (lv_sub hl [0, 1, 5, 6] rfl)
      exact lp_46 18 0 lf bf hf sf cf (by omega) (fun j hj => absurd hj (Nat.not_lt_zero j)) rfl _ _ hP hD hS ls (lv_sub hl [0, 1, 2, 3] rfl)
    refine lv_icmp_ne (tgt := 35) hx hb dX4_cutUp_28 (by decide) (fun c2 => ?_) (fun c2 => ?_)
    · skip
      refine lv_iconst (v := 0) hx hb dX4_cutUp_35 (by decide) ?_
      exact lv_eqi (if_neg c2).symm (jn_28 _ _ hP hS)
    · skip
      refine lv_iconst (v := 1) hx hb dX4_cutUp_31 (by decide) ?_
      refine lv_goto (tgt := 36) hx hb dX4_cutUp_32 (by decide) ?_
      exact lv_eqi (if_pos c2).symm (jn_28 _ _ hP hS)
  refine lv_icmp_ne (tgt := 18) hx hb dX4_cutUp_11 (by decide) (fun c1 => ?_) (fun c1 => ?_)
  · skip
    refine lv_iconst (v := 0) hx hb dX4_cutUp_18 (by decide) ?_
    exact lv_eqi (if_neg c1).symm (jn_11 _ _ hP hS)
  · skip
    refine lv_iconst (v := 1) hx hb dX4_cutUp_14 (by decide) ?_
    refine lv_goto (tgt := 19) hx hb dX4_cutUp_15 (by decide) ?_
    exact lv_eqi (if_pos c1).symm (jn_11 _ _ hP hS)
