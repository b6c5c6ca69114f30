set_option maxHeartbeats 4000000 in
set_option maxRecDepth 100000 in
theorem c_X6_piece (l : Launch) (D : va_G) (cI cZ : ClassId) (mm : Nat) (m1 : Nat) (m2 : Nat) (m3 : Nat) (m4 : Nat) (m5 : Nat) (m6 : Nat) (m7 : Nat) (m8 : Nat) (m9 : Nat) (np : Nat) (nh : Nat) (nn : Nat) (re : Int32) (ro : Int32) (tm : Int32) (ln : Nat → Int32) (bo : Nat → Int32) (x : Int32) (y : Int32) (hnp : np ≤ 12) : Met l yX6_piece wsX6_piece rmX6_piece (va_Pc [.ref mm, .int x, .int y] (PW D cI cZ [(mm, .inr (6, [.int (nI np), .ref m1, .ref m2, .int (nI nh), .ref m3, .ref m4, .int (nI nn), .ref m5, .ref m6, .ref m7, .ref m8, .int re, .int ro, .ref m9, .int tm])), (m1, .inl (cI, 12, .inl ln)), (m2, .inl (cI, 12, .inl bo))])) (WI (S := Unit) D (fun zr _ => zr = (mPiece x y np ln bo).1) (fun _ => [(mm, .inr (6, [.int (nI ((mPiece x y np ln bo).2.1)), .ref m1, .ref m2, .int (nI nh), .ref m3, .ref m4, .int (nI nn), .ref m5, .ref m6, .ref m7, .ref m8, .int re, .int ro, .ref m9, .int tm])), (m1, .inl (cI, 12, .inl ((mPiece x y np ln bo).2.2.1))), (m2, .inl (cI, 12, .inl ((mPiece x y np ln bo).2.2.2)))]) [(mm, .inr (6, [.int (nI np), .ref m1, .ref m2, .int (nI nh), .ref m3, .ref m4, .int (nI nn), .ref m5, .ref m6, .ref m7, .ref m8, .int re, .int ro, .ref m9, .int tm])), (m1, .inl (cI, 12, .inl ln)), (m2, .inl (cI, 12, .inl bo))]) 0 0 (ad [(mm, .inr (6, [.int (nI np), .ref m1, .ref m2, .int (nI nh), .ref m3, .ref m4, .int (nI nn), .ref m5, .ref m6, .ref m7, .ref m8, .int re, .int ro, .ref m9, .int tm])), (m1, .inl (cI, 12, .inl ln)), (m2, .inl (cI, 12, .inl bo))]) := by
  refine met_go (cc := cX6_piece) (maxL := 3) (ret := (some .int)) (by decide) rfl ?_ (Nat.le_of_ble_eq_true rfl)
  intro p e s m a below meth c Q hQ _ hx hb hr hml hts hown hlk hnm hpre ls hl
  have hown : s.vm.findClass RX6 = some m.cls := hown
  obtain ⟨hP, hK, hD0⟩ := hpre
  have hN := hK.2
  obtain ⟨A, hAe⟩ : ∃ A : Nat → Prop, A = ad [(mm, .inr (6, [.int (nI np), .ref m1, .ref m2, .int (nI nh), .ref m3, .ref m4, .int (nI nn), .ref m5, .ref m6, .ref m7, .ref m8, .int re, .int ro, .ref m9, .int tm])), (m1, .inl (cI, 12, .inl ln)), (m2, .inl (cI, 12, .inl bo))] := ⟨_, rfl⟩
  have hD : va_D A [(mm, .inr (6, [.int (nI np), .ref m1, .ref m2, .int (nI nh), .ref m3, .ref m4, .int (nI nn), .ref m5, .ref m6, .ref m7, .ref m8, .int re, .int ro, .ref m9, .int tm])), (m1, .inl (cI, 12, .inl ln)), (m2, .inl (cI, 12, .inl bo))] := by rw [hAe]; exact hD0.ad
  have hS : va_S A s.heap s.heap [] := va_S.rf
  have hl : lv_has ls 3 [(0, .ref mm), (1, .int x), (2, .int y)] := hl
  have k6 : ∀ w ∈ wsX60, w ∈ wsX6_piece := fun w h => List.mem_cons_of_mem _ (List.mem_append_right _ h)
  refine lv_iload_n hx hb dX6_piece_0 rfl (lv_at hl 1 rfl) ?_
  refine lv_i2l hx hb dX6_piece_1 rfl ?_
  refine lv_lconst (v := 1) hx hb dX6_piece_2 (by decide) ?_
  refine lv_ldc2 hx hb hown (hts (.constantLong RX6 45 (400)) (List.mem_of_getElem? (i := 1) rfl)) dX6_piece_3 ?_
  refine rd_i (va_runS (As := [.long x.toInt64, .long 1, .long 400]) (rest := []) ⟨hx, hb, hml, hown, hts⟩ (c_X6_in l D cI cZ x.toInt64 1 400) (va_cwS 3 hts gX6_piece_X6_in rfl rfl rfl hdV_X6_in.2 ⟨Nat.le_of_ble_eq_true rfl, Nat.le_of_ble_eq_true rfl⟩) (PR.S (hP.sub [] rfl) hK) rfl rfl hl.1 rfl (lv_room (Nat.le_of_ble_eq_true rfl)) dX6_piece_6 ⟨Nat.le_of_ble_eq_true rfl, Nat.le_of_ble_eq_true rfl⟩) hP hS (fun H locs hP hS => ?_)
  refine lv_if_eq (tgt := 24) hx hb dX6_piece_9 (by decide) (fun c1 => ?_) (fun c1 => ?_)
  · skip
    refine lv_sipush (v := (-1002)) hx hb dX6_piece_24 (by decide) ?_
    exact ret_WI hQ hx hb hr hlk hAe () (by show va_P D vwCl [(mm, .inr (6, [.int (nI ((mPiece x y np ln bo).2.1)), .ref m1, .ref m2, .int (nI nh), .ref m3, .ref m4, .int (nI nn), .ref m5, .ref m6, .ref m7, .ref m8, .int re, .int ro, .ref m9, .int tm])), (m1, .inl (cI, 12, .inl ((mPiece x y np ln bo).2.2.1))), (m2, .inl (cI, 12, .inl ((mPiece x y np ln bo).2.2.2)))] H; rw [show nI ((mPiece x y np ln bo).2.1) = nI np from (by first | with_reducible rfl | (simp only [mPiece, if_pos c1]; done) | (simp [mPiece, if_pos c1]; done)), show (mPiece x y np ln bo).2.2.1 = ln from (by first | with_reducible rfl | (simp only [mPiece, if_pos c1]; done) | (simp [mPiece, if_pos c1]; done)), show (mPiece x y np ln bo).2.2.2 = bo from (by first | with_reducible rfl | (simp only [mPiece, if_pos c1]; done) | (simp [mPiece, if_pos c1]; done))]; exact hP) hS (show (mPiece x y np ln bo).1 = (-1002) from (by first | with_reducible rfl | (simp only [mPiece, if_pos c1]; done) | (simp [mPiece, if_pos c1]; done))).symm dX6_piece_27
  · skip
    refine lv_iload_n hx hb dX6_piece_12 rfl (lv_at hl 2 rfl) ?_
    refine lv_i2l hx hb dX6_piece_13 rfl ?_
    refine lv_lconst (v := 1) hx hb dX6_piece_14 (by decide) ?_
    refine lv_ldc2 hx hb hown (hts (.constantLong RX6 51 (100)) (List.mem_of_getElem? (i := 2) rfl)) dX6_piece_15 ?_
    refine rd_i (va_runS (As := [.long y.toInt64, .long 1, .long 100]) (rest := []) ⟨hx, hb, hml, hown, hts⟩ (c_X6_in l D cI cZ y.toInt64 1 100) (va_cwS 3 hts gX6_piece_X6_in rfl rfl rfl hdV_X6_in.2 ⟨Nat.le_of_ble_eq_true rfl, Nat.le_of_ble_eq_true rfl⟩) (PR.S (hP.sub [] rfl) hK) rfl rfl hl.1 rfl (lv_room (Nat.le_of_ble_eq_true rfl)) dX6_piece_18 ⟨Nat.le_of_ble_eq_true rfl, Nat.le_of_ble_eq_true rfl⟩) hP hS (fun H locs hP hS => ?_)
    refine lv_if_ne (tgt := 28) hx hb dX6_piece_21 (by decide) (fun c2 => ?_) (fun c2 => ?_)
    · skip
      refine lv_aload_n hx hb dX6_piece_28 rfl (lv_at hl 0 rfl) ?_
      refine va_get (D := D) (ci := 6) (v := .int (nI np)) (C := RX6) (T := TX6) (N := 15) hx hb hts k6 hown hK.1 hP 0 rfl rfl 0 (by decide) (hts (.fieldLink RX6 42 "BoredPipesModel" "pieces" "I") (List.mem_of_getElem? (i := 3) rfl)) (fun _ h9 => h9) rfl dX6_piece_29 ?_
      refine lv_bipush (v := 12) hx hb dX6_piece_32 (by decide) ?_
      refine lv_icmp_ne (tgt := 41) hx hb dX6_piece_34 (by decide) (fun c3 => ?_) (fun c3 => ?_)
      · skip
        have hlt : np < 12 := nI_ltne (N := 12) c3 hnp
        refine lv_aload_n hx hb dX6_piece_41 rfl (lv_at hl 0 rfl) ?_
        refine lv_iload_n hx hb dX6_piece_42 rfl (lv_at hl 1 rfl) ?_
        refine lv_iload_n hx hb dX6_piece_43 rfl (lv_at hl 2 rfl) ?_
        refine wr_v0 (va_runV (As := [.int x, .int y]) (rest := []) ⟨hx, hb, hml, hown, hts⟩ (c_X6_add l D cI cZ mm m1 m2 m3 m4 m5 m6 m7 m8 m9 np nh nn re ro tm ln bo x y (by first | omega | exact hnp)) (cwV 2 hts gX6_piece_X6_add rfl rfl rfl hdV_X6_add ⟨Nat.le_of_ble_eq_true rfl, Nat.le_of_ble_eq_true rfl⟩) (PW.V hP hK (hD.weaken (fun _ _ _ _ => trivial)) hP (q0 := 0) rfl rfl) rfl rfl hl.1 rfl (lv_room (Nat.le_of_ble_eq_true rfl)) dX6_piece_44 ⟨Nat.le_of_ble_eq_true rfl, Nat.le_of_ble_eq_true rfl⟩) hD hS (fun _ => rfl) (fun u4 H locs hu4 hP hD hS => ?_)
        have hP : va_P D vwCl [(mm, .inr (6, [.int (nI (np + 1)), .ref m1, .ref m2, .int (nI nh), .ref m3, .ref m4, .int (nI nn), .ref m5, .ref m6, .ref m7, .ref m8, .int re, .int ro, .ref m9, .int tm])), (m1, .inl (cI, 12, .inl (upd ln np x))), (m2, .inl (cI, 12, .inl (upd bo np y)))] H := hP
        have hD : va_D A [(mm, .inr (6, [.int (nI (np + 1)), .ref m1, .ref m2, .int (nI nh), .ref m3, .ref m4, .int (nI nn), .ref m5, .ref m6, .ref m7, .ref m8, .int re, .int ro, .ref m9, .int tm])), (m1, .inl (cI, 12, .inl (upd ln np x))), (m2, .inl (cI, 12, .inl (upd bo np y)))] := hD
        refine lv_aload_n hx hb dX6_piece_47 rfl (lv_at hl 0 rfl) ?_
        refine rd_i (va_runV (As := []) (rest := []) ⟨hx, hb, hml, hown, hts⟩ (c_X6_whole l D cI cZ mm m1 m2 m3 m4 m5 m6 m7 m8 m9 (np + 1) nh nn re ro tm (upd ln np x) (by first | omega | exact hnp)) (cwV 0 hts gX6_piece_X6_whole rfl rfl rfl hdV_X6_whole ⟨Nat.le_of_ble_eq_true rfl, Nat.le_of_ble_eq_true rfl⟩) (PR.V (hP.sub [0, 1] rfl) hK hP (q0 := 0) rfl rfl) rfl rfl hl.1 rfl (lv_room (Nat.le_of_ble_eq_true rfl)) dX6_piece_48 ⟨Nat.le_of_ble_eq_true rfl, Nat.le_of_ble_eq_true rfl⟩) hP hS (fun H locs hP hS => ?_)
        exact ret_WI hQ hx hb hr hlk hAe () (by show va_P D vwCl [(mm, .inr (6, [.int (nI ((mPiece x y np ln bo).2.1)), .ref m1, .ref m2, .int (nI nh), .ref m3, .ref m4, .int (nI nn), .ref m5, .ref m6, .ref m7, .ref m8, .int re, .int ro, .ref m9, .int tm])), (m1, .inl (cI, 12, .inl ((mPiece x y np ln bo).2.2.1))), (m2, .inl (cI, 12, .inl ((mPiece x y np ln bo).2.2.2)))] H; rw [show nI ((mPiece x y np ln bo).2.1) = nI (np + 1) from (by first | with_reducible rfl | (simp only [mPiece, if_neg c1, if_neg c2, if_neg c3]; done) | (simp [mPiece, if_neg c1, if_neg c2, if_neg c3]; done)), show (mPiece x y np ln bo).2.2.1 = upd ln np x from (by first | with_reducible rfl | (simp only [mPiece, if_neg c1, if_neg c2, if_neg c3]; done) | (simp [mPiece, if_neg c1, if_neg c2, if_neg c3]; done)), show (mPiece x y np ln bo).2.2.2 = upd bo np y from (by first | with_reducible rfl | (simp only [mPiece, if_neg c1, if_neg c2, if_neg c3]; done) | (simp [mPiece, if_neg c1, if_neg c2, if_neg c3]; done))]; exact hP) hS (show (mPiece x y np ln bo).1 = fSum (upd ln np x) (np + 1) 0 0 from (by first | with_reducible rfl | (simp only [mPiece, if_neg c1, if_neg c2, if_neg c3]; done) | (simp [mPiece, if_neg c1, if_neg c2, if_neg c3]; done))).symm dX6_piece_51
      · skip
        refine lv_sipush (v := (-1004)) hx hb dX6_piece_37 (by decide) ?_
        exact ret_WI hQ hx hb hr hlk hAe () (by show va_P D vwCl [(mm, .inr (6, [.int (nI ((mPiece x y np ln bo).2.1)), .ref m1, .ref m2, .int (nI nh), .ref m3, .ref m4, .int (nI nn), .ref m5, .ref m6, .ref m7, .ref m8, .int re, .int ro, .ref m9, .int tm])), (m1, .inl (cI, 12, .inl ((mPiece x y np ln bo).2.2.1))), (m2, .inl (cI, 12, .inl ((mPiece x y np ln bo).2.2.2)))] H; rw [show nI ((mPiece x y np ln bo).2.1) = nI np from (by first | with_reducible rfl | (simp only [mPiece, if_neg c1, if_neg c2, if_pos c3]; done) | (simp [mPiece, if_neg c1, if_neg c2, if_pos c3]; done)), show (mPiece x y np ln bo).2.2.1 = ln from (by first | with_reducible rfl | (simp only [mPiece, if_neg c1, if_neg c2, if_pos c3]; done) | (simp [mPiece, if_neg c1, if_neg c2, if_pos c3]; done)), show (mPiece x y np ln bo).2.2.2 = bo from (by first | with_reducible rfl | (simp only [mPiece, if_neg c1, if_neg c2, if_pos c3]; done) | (simp [mPiece, if_neg c1, if_neg c2, if_pos c3]; done))]; exact hP) hS (show (mPiece x y np ln bo).1 = (-1004) from (by first | with_reducible rfl | (simp only [mPiece, if_neg c1, if_neg c2, if_pos c3]; done) | (simp [mPiece, if_neg c1, if_neg c2, if_pos c3]; done))).symm dX6_piece_40
    · skip
      refine lv_sipush (v := (-1002)) hx hb dX6_piece_24 (by decide) ?_
      exact ret_WI hQ hx hb hr hlk hAe () (by show va_P D vwCl [(mm, .inr (6, [.int (nI ((mPiece x y np ln bo).2.1)), .ref m1, .ref m2, .int (nI nh), .ref m3, .ref m4, .int (nI nn), .ref m5, .ref m6, .ref m7, .ref m8, .int re, .int ro, .ref m9, .int tm])), (m1, .inl (cI, 12, .inl ((mPiece x y np ln bo).2.2.1))), (m2, .inl (cI, 12, .inl ((mPiece x y np ln bo).2.2.2)))] H; rw [show nI ((mPiece x y np ln bo).2.1) = nI np from (by first | with_reducible rfl | (simp only [mPiece, if_neg c1, if_pos c2]; done) | (simp [mPiece, if_neg c1, if_pos c2]; done)), show (mPiece x y np ln bo).2.2.1 = ln from (by first | with_reducible rfl | (simp only [mPiece, if_neg c1, if_pos c2]; done) | (simp [mPiece, if_neg c1, if_pos c2]; done)), show (mPiece x y np ln bo).2.2.2 = bo from (by first | with_reducible rfl | (simp only [mPiece, if_neg c1, if_pos c2]; done) | (simp [mPiece, if_neg c1, if_pos c2]; done))]; exact hP) hS (show (mPiece x y np ln bo).1 = (-1002) from (by first | with_reducible rfl | (simp only [mPiece, if_neg c1, if_pos c2]; done) | (simp [mPiece, if_neg c1, if_pos c2]; done))).symm dX6_piece_27

set_option maxHeartbeats 4000000 in
set_option maxRecDepth 100000 in
theorem c_X6_cone (l : Launch) (D : va_G) (cI cZ : ClassId) (mm : Nat) (m1 : Nat) (m2 : Nat) (m3 : Nat) (m4 : Nat) (m5 : Nat) (m6 : Nat) (m7 : Nat) (m8 : Nat) (m9 : Nat) (np : Nat) (nh : Nat) (nn : Nat) (re : Int32) (ro : Int32) (tm : Int32) (ln : Nat → Int32) (bo : Nat → Int32) (x : Int32) (y : Int32) (z : Int32) (w : Int32) (hnp : np ≤ 12) : Met l yX6_cone wsX6_cone rmX6_cone (va_Pc [.ref mm, .int x, .int y, .int z, .int w] (PW D cI cZ [(mm, .inr (6, [.int (nI np), .ref m1, .ref m2, .int (nI nh), .ref m3, .ref m4, .int (nI nn), .ref m5, .ref m6, .ref m7, .ref m8, .int re, .int ro, .ref m9, .int tm])), (m1, .inl (cI, 12, .inl ln)), (m2, .inl (cI, 12, .inl bo))])) (WI (S := Unit) D (fun zr _ => zr = (mCone x y z w np ln bo).1) (fun _ => [(mm, .inr (6, [.int (nI ((mCone x y z w np ln bo).2.1)), .ref m1, .ref m2, .int (nI nh), .ref m3, .ref m4, .int (nI nn), .ref m5, .ref m6, .ref m7, .ref m8, .int re, .int ro, .ref m9, .int tm])), (m1, .inl (cI, 12, .inl ((mCone x y z w np ln bo).2.2.1))), (m2, .inl (cI, 12, .inl ((mCone x y z w np ln bo).2.2.2)))]) [(mm, .inr (6, [.int (nI np), .ref m1, .ref m2, .int (nI nh), .ref m3, .ref m4, .int (nI nn), .ref m5, .ref m6, .ref m7, .ref m8, .int re, .int ro, .ref m9, .int tm])), (m1, .inl (cI, 12, .inl ln)), (m2, .inl (cI, 12, .inl bo))]) 0 0 (ad [(mm, .inr (6, [.int (nI np), .ref m1, .ref m2, .int (nI nh), .ref m3, .ref m4, .int (nI nn), .ref m5, .ref m6, .ref m7, .ref m8, .int re, .int ro, .ref m9, .int tm])), (m1, .inl (cI, 12, .inl ln)), (m2, .inl (cI, 12, .inl bo))]) := by
  refine met_go (cc := cX6_cone) (maxL := 6) (ret := (some .int)) (by decide) rfl ?_ (Nat.le_of_ble_eq_true rfl)
  intro p e s m a below meth c Q hQ _ hx hb hr hml hts hown hlk hnm hpre ls hl
  have hown : s.vm.findClass RX6 = some m.cls := hown
  obtain ⟨hP, hK, hD0⟩ := hpre
  have hN := hK.2
  obtain ⟨A, hAe⟩ : ∃ A : Nat → Prop, A = ad [(mm, .inr (6, [.int (nI np), .ref m1, .ref m2, .int (nI nh), .ref m3, .ref m4, .int (nI nn), .ref m5, .ref m6, .ref m7, .ref m8, .int re, .int ro, .ref m9, .int tm])), (m1, .inl (cI, 12, .inl ln)), (m2, .inl (cI, 12, .inl bo))] := ⟨_, rfl⟩
  have hD : va_D A [(mm, .inr (6, [.int (nI np), .ref m1, .ref m2, .int (nI nh), .ref m3, .ref m4, .int (nI nn), .ref m5, .ref m6, .ref m7, .ref m8, .int re, .int ro, .ref m9, .int tm])), (m1, .inl (cI, 12, .inl ln)), (m2, .inl (cI, 12, .inl bo))] := by rw [hAe]; exact hD0.ad
  have hS : va_S A s.heap s.heap [] := va_S.rf
  have hl : lv_has ls 6 [(0, .ref mm), (1, .int x), (2, .int y), (3, .int z), (4, .int w)] := hl
  have k6 : ∀ w ∈ wsX60, w ∈ wsX6_cone := fun w h => List.mem_cons_of_mem _ (List.mem_append_right _ h)
  refine lv_iload_n hx hb dX6_cone_0 rfl (lv_at hl 1 rfl) ?_
  refine lv_i2l hx hb dX6_cone_1 rfl ?_
  refine lv_lconst (v := 1) hx hb dX6_cone_2 (by decide) ?_
  refine lv_ldc2 hx hb hown (hts (.constantLong RX6 45 (400)) (List.mem_of_getElem? (i := 1) rfl)) dX6_cone_3 ?_
  refine rd_i (va_runS (As := [.long x.toInt64, .long 1, .long 400]) (rest := []) ⟨hx, hb, hml, hown, hts⟩ (c_X6_in l D cI cZ x.toInt64 1 400) (va_cwS 3 hts gX6_cone_X6_in rfl rfl rfl hdV_X6_in.2 ⟨Nat.le_of_ble_eq_true rfl, Nat.le_of_ble_eq_true rfl⟩) (PR.S (hP.sub [] rfl) hK) rfl rfl hl.1 rfl (lv_room (Nat.le_of_ble_eq_true rfl)) dX6_cone_6 ⟨Nat.le_of_ble_eq_true rfl, Nat.le_of_ble_eq_true rfl⟩) hP hS (fun H locs hP hS => ?_)
  refine lv_if_eq (tgt := 51) hx hb dX6_cone_9 (by decide) (fun c1 => ?_) (fun c1 => ?_)
  · skip
    refine lv_sipush (v := (-1002)) hx hb dX6_cone_51 (by decide) ?_
    exact ret_WI hQ hx hb hr hlk hAe () (by show va_P D vwCl [(mm, .inr (6, [.int (nI ((mCone x y z w np ln bo).2.1)), .ref m1, .ref m2, .int (nI nh), .ref m3, .ref m4, .int (nI nn), .ref m5, .ref m6, .ref m7, .ref m8, .int re, .int ro, .ref m9, .int tm])), (m1, .inl (cI, 12, .inl ((mCone x y z w np ln bo).2.2.1))), (m2, .inl (cI, 12, .inl ((mCone x y z w np ln bo).2.2.2)))] H; rw [show nI ((mCone x y z w np ln bo).2.1) = nI np from (by first | with_reducible rfl | (simp only [mCone, if_pos c1]; done) | (simp [mCone, if_pos c1]; done)), show (mCone x y z w np ln bo).2.2.1 = ln from (by first | with_reducible rfl | (simp only [mCone, if_pos c1]; done) | (simp [mCone, if_pos c1]; done)), show (mCone x y z w np ln bo).2.2.2 = bo from (by first | with_reducible rfl | (simp only [mCone, if_pos c1]; done) | (simp [mCone, if_pos c1]; done))]; exact hP) hS (show (mCone x y z w np ln bo).1 = (-1002) from (by first | with_reducible rfl | (simp only [mCone, if_pos c1]; done) | (simp [mCone, if_pos c1]; done))).symm dX6_cone_54
  · skip
    refine lv_iload_n hx hb dX6_cone_12 rfl (lv_at hl 2 rfl) ?_
    refine lv_i2l hx hb dX6_cone_13 rfl ?_
    refine lv_lconst (v := 1) hx hb dX6_cone_14 (by decide) ?_
    refine lv_ldc2 hx hb hown (hts (.constantLong RX6 51 (100)) (List.mem_of_getElem? (i := 2) rfl)) dX6_cone_15 ?_
    refine rd_i (va_runS (As := [.long y.toInt64, .long 1, .long 100]) (rest := []) ⟨hx, hb, hml, hown, hts⟩ (c_X6_in l D cI cZ y.toInt64 1 100) (va_cwS 3 hts gX6_cone_X6_in rfl rfl rfl hdV_X6_in.2 ⟨Nat.le_of_ble_eq_true rfl, Nat.le_of_ble_eq_true rfl⟩) (PR.S (hP.sub [] rfl) hK) rfl rfl hl.1 rfl (lv_room (Nat.le_of_ble_eq_true rfl)) dX6_cone_18 ⟨Nat.le_of_ble_eq_true rfl, Nat.le_of_ble_eq_true rfl⟩) hP hS (fun H locs hP hS => ?_)
    refine lv_if_eq (tgt := 51) hx hb dX6_cone_21 (by decide) (fun c2 => ?_) (fun c2 => ?_)
    · skip
      refine lv_sipush (v := (-1002)) hx hb dX6_cone_51 (by decide) ?_
      exact ret_WI hQ hx hb hr hlk hAe () (by show va_P D vwCl [(mm, .inr (6, [.int (nI ((mCone x y z w np ln bo).2.1)), .ref m1, .ref m2, .int (nI nh), .ref m3, .ref m4, .int (nI nn), .ref m5, .ref m6, .ref m7, .ref m8, .int re, .int ro, .ref m9, .int tm])), (m1, .inl (cI, 12, .inl ((mCone x y z w np ln bo).2.2.1))), (m2, .inl (cI, 12, .inl ((mCone x y z w np ln bo).2.2.2)))] H; rw [show nI ((mCone x y z w np ln bo).2.1) = nI np from (by first | with_reducible rfl | (simp only [mCone, if_neg c1, if_pos c2]; done) | (simp [mCone, if_neg c1, if_pos c2]; done)), show (mCone x y z w np ln bo).2.2.1 = ln from (by first | with_reducible rfl | (simp only [mCone, if_neg c1, if_pos c2]; done) | (simp [mCone, if_neg c1, if_pos c2]; done)), show (mCone x y z w np ln bo).2.2.2 = bo from (by first | with_reducible rfl | (simp only [mCone, if_neg c1, if_pos c2]; done) | (simp [mCone, if_neg c1, if_pos c2]; done))]; exact hP) hS (show (mCone x y z w np ln bo).1 = (-1002) from (by first | with_reducible rfl | (simp only [mCone, if_neg c1, if_pos c2]; done) | (simp [mCone, if_neg c1, if_pos c2]; done))).symm dX6_cone_54
    · skip
      refine lv_iload_n hx hb dX6_cone_24 rfl (lv_at hl 3 rfl) ?_
      refine lv_i2l hx hb dX6_cone_25 rfl ?_
      refine lv_lconst (v := 1) hx hb dX6_cone_26 (by decide) ?_
      refine lv_ldc2 hx hb hown (hts (.constantLong RX6 51 (100)) (List.mem_of_getElem? (i := 2) rfl)) dX6_cone_27 ?_
      refine rd_i (va_runS (As := [.long z.toInt64, .long 1, .long 100]) (rest := []) ⟨hx, hb, hml, hown, hts⟩ (c_X6_in l D cI cZ z.toInt64 1 100) (va_cwS 3 hts gX6_cone_X6_in rfl rfl rfl hdV_X6_in.2 ⟨Nat.le_of_ble_eq_true rfl, Nat.le_of_ble_eq_true rfl⟩) (PR.S (hP.sub [] rfl) hK) rfl rfl hl.1 rfl (lv_room (Nat.le_of_ble_eq_true rfl)) dX6_cone_30 ⟨Nat.le_of_ble_eq_true rfl, Nat.le_of_ble_eq_true rfl⟩) hP hS (fun H locs hP hS => ?_)
      refine lv_if_eq (tgt := 51) hx hb dX6_cone_33 (by decide) (fun c3 => ?_) (fun c3 => ?_)
      · skip
        refine lv_sipush (v := (-1002)) hx hb dX6_cone_51 (by decide) ?_
        exact ret_WI hQ hx hb hr hlk hAe () (by show va_P D vwCl [(mm, .inr (6, [.int (nI ((mCone x y z w np ln bo).2.1)), .ref m1, .ref m2, .int (nI nh), .ref m3, .ref m4, .int (nI nn), .ref m5, .ref m6, .ref m7, .ref m8, .int re, .int ro, .ref m9, .int tm])), (m1, .inl (cI, 12, .inl ((mCone x y z w np ln bo).2.2.1))), (m2, .inl (cI, 12, .inl ((mCone x y z w np ln bo).2.2.2)))] H; rw [show nI ((mCone x y z w np ln bo).2.1) = nI np from (by first | with_reducible rfl | (simp only [mCone, if_neg c1, if_neg c2, if_pos c3]; done) | (simp [mCone, if_neg c1, if_neg c2, if_pos c3]; done)), show (mCone x y z w np ln bo).2.2.1 = ln from (by first | with_reducible rfl | (simp only [mCone, if_neg c1, if_neg c2, if_pos c3]; done) | (simp [mCone, if_neg c1, if_neg c2, if_pos c3]; done)), show (mCone x y z w np ln bo).2.2.2 = bo from (by first | with_reducible rfl | (simp only [mCone, if_neg c1, if_neg c2, if_pos c3]; done) | (simp [mCone, if_neg c1, if_neg c2, if_pos c3]; done))]; exact hP) hS (show (mCone x y z w np ln bo).1 = (-1002) from (by first | with_reducible rfl | (simp only [mCone, if_neg c1, if_neg c2, if_pos c3]; done) | (simp [mCone, if_neg c1, if_neg c2, if_pos c3]; done))).symm dX6_cone_54
      · skip
        refine lv_iload hx hb dX6_cone_36 (lv_at hl 4 rfl) ?_
        refine lv_i2l hx hb dX6_cone_38 rfl ?_
        refine lv_ldc2 hx hb hown (hts (.constantLong RX6 61 (2)) (List.mem_of_getElem? (i := 3) rfl)) dX6_cone_39 ?_
        refine lv_ldc2 hx hb hown (hts (.constantLong RX6 63 (12)) (List.mem_of_getElem? (i := 4) rfl)) dX6_cone_42 ?_
        refine rd_i (va_runS (As := [.long w.toInt64, .long 2, .long 12]) (rest := []) ⟨hx, hb, hml, hown, hts⟩ (c_X6_in l D cI cZ w.toInt64 2 12) (va_cwS 3 hts gX6_cone_X6_in rfl rfl rfl hdV_X6_in.2 ⟨Nat.le_of_ble_eq_true rfl, Nat.le_of_ble_eq_true rfl⟩) (PR.S (hP.sub [] rfl) hK) rfl rfl hl.1 rfl (lv_room (Nat.le_of_ble_eq_true rfl)) dX6_cone_45 ⟨Nat.le_of_ble_eq_true rfl, Nat.le_of_ble_eq_true rfl⟩) hP hS (fun H locs hP hS => ?_)
        refine lv_if_ne (tgt := 55) hx hb dX6_cone_48 (by decide) (fun c4 => ?_) (fun c4 => ?_)
        · skip
          obtain ⟨N, hN2, hN12, rfl⟩ := fInL_rng (a := 2) (b := 12) c4 (by decide) (by decide)
          refine lv_aload_n hx hb dX6_cone_55 rfl (lv_at hl 0 rfl) ?_
          refine va_get (D := D) (ci := 6) (v := .int (nI np)) (C := RX6) (T := TX6) (N := 15) hx hb hts k6 hown hK.1 hP 0 rfl rfl 0 (by decide) (hts (.fieldLink RX6 42 "BoredPipesModel" "pieces" "I") (List.mem_of_getElem? (i := 5) rfl)) (fun _ h9 => h9) rfl dX6_cone_56 ?_
          refine lv_iload hx hb dX6_cone_59 (lv_at hl 4 rfl) ?_
          refine nn_iadd hx hb dX6_cone_61 (x := np) (y := N) rfl rfl ?_
          refine lv_bipush (v := 12) hx hb dX6_cone_62 (by decide) ?_
          refine lv_icmp_le (tgt := 71) hx hb dX6_cone_64 (by decide) (fun c5 => ?_) (fun c5 => ?_)
          · skip
            have hle : np + N ≤ 12 := nI_leL (N := 12) c5 (by omega) (by decide)
            refine lv_iconst (v := 0) hx hb dX6_cone_71 (by decide) ?_
            refine lv_istore (lv' := [(5, .int 0), (0, .ref mm), (1, .int x), (2, .int y), (3, .int z), (4, .int (nI N))]) hx hb dX6_cone_72 hl (by decide) rfl (fun ls hl => ?_)
            have hP : va_P D vwCl [(mm, .inr (6, [.int (nI np), .ref m1, .ref m2, .int (nI nh), .ref m3, .ref m4, .int (nI nn), .ref m5, .ref m6, .ref m7, .ref m8, .int re, .int ro, .ref m9, .int tm])), (m1, .inl (cI, 12, .inl (coneL ln np x 0))), (m2, .inl (cI, 12, .inl bo))] H := by rw [← (show ln = coneL ln np x 0 from rfl)]; exact hP
            have hD : va_D A [(mm, .inr (6, [.int (nI np), .ref m1, .ref m2, .int (nI nh), .ref m3, .ref m4, .int (nI nn), .ref m5, .ref m6, .ref m7, .ref m8, .int re, .int ro, .ref m9, .int tm])), (m1, .inl (cI, 12, .inl (coneL ln np x 0))), (m2, .inl (cI, 12, .inl bo))] := va_D_fst hD (by simp only [List.map_cons, List.map_nil])
            have hP : va_P D vwCl [(mm, .inr (6, [.int (nI np), .ref m1, .ref m2, .int (nI nh), .ref m3, .ref m4, .int (nI nn), .ref m5, .ref m6, .ref m7, .ref m8, .int re, .int ro, .ref m9, .int tm])), (m1, .inl (cI, 12, .inl (coneL ln np x 0))), (m2, .inl (cI, 12, .inl (coneB bo np y z N 0)))] H := by rw [← (show bo = coneB bo np y z N 0 from rfl)]; exact hP
            have hD : va_D A [(mm, .inr (6, [.int (nI np), .ref m1, .ref m2, .int (nI nh), .ref m3, .ref m4, .int (nI nn), .ref m5, .ref m6, .ref m7, .ref m8, .int re, .int ro, .ref m9, .int tm])), (m1, .inl (cI, 12, .inl (coneL ln np x 0))), (m2, .inl (cI, 12, .inl (coneB bo np y z N 0)))] := va_D_fst hD (by simp only [List.map_cons, List.map_nil])
            have lp_74 : ∀ (r : Nat) (i : Nat), (i + r = N) → ∀ (H : Heap) (locs : List Loc), va_P D vwCl [(mm, .inr (6, [.int (nI (np + i)), .ref m1, .ref m2, .int (nI nh), .ref m3, .ref m4, .int (nI nn), .ref m5, .ref m6, .ref m7, .ref m8, .int re, .int ro, .ref m9, .int tm])), (m1, .inl (cI, 12, .inl (coneL ln np x i))), (m2, .inl (cI, 12, .inl (coneB bo np y z N i)))] H → va_D A [(mm, .inr (6, [.int (nI (np + i)), .ref m1, .ref m2, .int (nI nh), .ref m3, .ref m4, .int (nI nn), .ref m5, .ref m6, .ref m7, .ref m8, .int re, .int ro, .ref m9, .int tm])), (m1, .inl (cI, 12, .inl (coneL ln np x i))), (m2, .inl (cI, 12, .inl (coneB bo np y z N i)))] → va_S A s.heap H locs → ∀ (ls : Array Slot), lv_has ls 6 [(5, .int (nI i)), (0, .ref mm), (1, .int x), (2, .int y), (3, .int z), (4, .int (nI N))] → W p l e rmX6_cone s m a below meth c H locs 0 0 Q (F0 m 74 ls []) := by
              intro r
              induction r with
              | zero =>
                intro i hi H locs hP hD hS ls hl
                have hzz : N = i := by omega
                subst hzz
                refine lv_iload hx hb dX6_cone_74 (lv_at hl 0 rfl) ?_
                refine lv_iload hx hb dX6_cone_76 (lv_at hl 5 rfl) ?_
                refine lv_icmp_ge (tgt := 105) hx hb dX6_cone_78 (by decide) (fun c6 => ?_) (fun c6 => absurd ((nI_le (a := N) (b := N) (by omega) (by omega))) c6)
                refine lv_aload_n hx hb dX6_cone_105 rfl (lv_at hl 1 rfl) ?_
                refine rd_i (va_runV (As := []) (rest := []) ⟨hx, hb, hml, hown, hts⟩ (c_X6_whole l D cI cZ mm m1 m2 m3 m4 m5 m6 m7 m8 m9 (np + N) nh nn re ro tm (coneL ln np x N) (by first | omega | exact hnp)) (cwV 0 hts gX6_cone_X6_whole rfl rfl rfl hdV_X6_whole ⟨Nat.le_of_ble_eq_true rfl, Nat.le_of_ble_eq_true rfl⟩) (PR.V (hP.sub [0, 1] rfl) hK hP (q0 := 0) rfl rfl) rfl rfl hl.1 rfl (lv_room (Nat.le_of_ble_eq_true rfl)) dX6_cone_106 ⟨Nat.le_of_ble_eq_true rfl, Nat.le_of_ble_eq_true rfl⟩) hP hS (fun H locs hP hS => ?_)
                exact ret_WI hQ hx hb hr hlk hAe () (by show va_P D vwCl [(mm, .inr (6, [.int (nI ((mCone x y z (nI N) np ln bo).2.1)), .ref m1, .ref m2, .int (nI nh), .ref m3, .ref m4, .int (nI nn), .ref m5, .ref m6, .ref m7, .ref m8, .int re, .int ro, .ref m9, .int tm])), (m1, .inl (cI, 12, .inl ((mCone x y z (nI N) np ln bo).2.2.1))), (m2, .inl (cI, 12, .inl ((mCone x y z (nI N) np ln bo).2.2.2)))] H; rw [show nI ((mCone x y z (nI N) np ln bo).2.1) = nI (np + N) from (by first | with_reducible rfl | (simp only [mCone, nI_clamp (show N < 2147483648 from by omega), if_neg c1, if_neg c2, if_neg c3, if_neg c4, if_pos c5, if_pos c6]; done) | (simp [mCone, nI_clamp (show N < 2147483648 from by omega), if_neg c1, if_neg c2, if_neg c3, if_neg c4, if_pos c5, if_pos c6]; done)), show (mCone x y z (nI N) np ln bo).2.2.1 = coneL ln np x N from (by first | with_reducible rfl | (simp only [mCone, nI_clamp (show N < 2147483648 from by omega), if_neg c1, if_neg c2, if_neg c3, if_neg c4, if_pos c5, if_pos c6]; done) | (simp [mCone, nI_clamp (show N < 2147483648 from by omega), if_neg c1, if_neg c2, if_neg c3, if_neg c4, if_pos c5, if_pos c6]; done)), show (mCone x y z (nI N) np ln bo).2.2.2 = coneB bo np y z N N from (by first | with_reducible rfl | (simp only [mCone, nI_clamp (show N < 2147483648 from by omega), if_neg c1, if_neg c2, if_neg c3, if_neg c4, if_pos c5, if_pos c6]; done) | (simp [mCone, nI_clamp (show N < 2147483648 from by omega), if_neg c1, if_neg c2, if_neg c3, if_neg c4, if_pos c5, if_pos c6]; done))]; exact hP) hS (show (mCone x y z (nI N) np ln bo).1 = fSum (coneL ln np x N) (np + N) 0 0 from (by first | with_reducible rfl | (simp only [mCone, nI_clamp (show N < 2147483648 from by omega), if_neg c1, if_neg c2, if_neg c3, if_neg c4, if_pos c5, if_pos c6]; done) | (simp [mCone, nI_clamp (show N < 2147483648 from by omega), if_neg c1, if_neg c2, if_neg c3, if_neg c4, if_pos c5, if_pos c6]; done))).symm dX6_cone_109
              | succ r ih_74 =>
                intro i hi H locs hP hD hS ls hl
                refine lv_iload hx hb dX6_cone_74 (lv_at hl 0 rfl) ?_
                refine lv_iload hx hb dX6_cone_76 (lv_at hl 5 rfl) ?_
                refine lv_icmp_ge (tgt := 105) hx hb dX6_cone_78 (by decide) (fun c7 => absurd c7 ((nI_ge (a := i) (b := N) (by omega) (by omega)))) (fun c7 => ?_)
                refine lv_aload_n hx hb dX6_cone_81 rfl (lv_at hl 1 rfl) ?_
                refine lv_iload_n hx hb dX6_cone_82 rfl (lv_at hl 2 rfl) ?_
                refine lv_iload_n hx hb dX6_cone_83 rfl (lv_at hl 3 rfl) ?_
                refine lv_iload_n hx hb dX6_cone_84 rfl (lv_at hl 4 rfl) ?_
                refine lv_iload_n hx hb dX6_cone_85 rfl (lv_at hl 3 rfl) ?_
                refine lv_isub hx hb dX6_cone_86 ?_
                refine lv_iload hx hb dX6_cone_87 (lv_at hl 0 rfl) ?_
                refine lv_imul hx hb dX6_cone_89 ?_
                refine lv_iload hx hb dX6_cone_90 (lv_at hl 5 rfl) ?_
                refine lv_iconst (v := 1) hx hb dX6_cone_92 (by decide) ?_
                refine lv_isub hx hb dX6_cone_93 ?_
                refine lv_idiv hx hb dX6_cone_94 (nI_pred_ne hN2 (by omega)) ?_
                refine lv_iadd hx hb dX6_cone_95 ?_
                refine lv_eqi (y := coneV y z N i) rfl ?_
                refine wr_v0 (va_runV (As := [.int x, .int (coneV y z N i)]) (rest := []) ⟨hx, hb, hml, hown, hts⟩ (c_X6_add l D cI cZ mm m1 m2 m3 m4 m5 m6 m7 m8 m9 (np + i) nh nn re ro tm (coneL ln np x i) (coneB bo np y z N i) x (coneV y z N i) (by first | omega | exact hnp)) (cwV 2 hts gX6_cone_X6_add rfl rfl rfl hdV_X6_add ⟨Nat.le_of_ble_eq_true rfl, Nat.le_of_ble_eq_true rfl⟩) (PW.V hP hK (hD.weaken (fun _ _ _ _ => trivial)) hP (q0 := 0) rfl rfl) rfl rfl hl.1 rfl (lv_room (Nat.le_of_ble_eq_true rfl)) dX6_cone_96 ⟨Nat.le_of_ble_eq_true rfl, Nat.le_of_ble_eq_true rfl⟩) hD hS (fun _ => rfl) (fun u8 H locs hu8 hP hD hS => ?_)
                have hP : va_P D vwCl [(mm, .inr (6, [.int (nI ((np + i) + 1)), .ref m1, .ref m2, .int (nI nh), .ref m3, .ref m4, .int (nI nn), .ref m5, .ref m6, .ref m7, .ref m8, .int re, .int ro, .ref m9, .int tm])), (m1, .inl (cI, 12, .inl (upd (coneL ln np x i) (np + i) x))), (m2, .inl (cI, 12, .inl (upd (coneB bo np y z N i) (np + i) (coneV y z N i))))] H := hP
                have hD : va_D A [(mm, .inr (6, [.int (nI ((np + i) + 1)), .ref m1, .ref m2, .int (nI nh), .ref m3, .ref m4, .int (nI nn), .ref m5, .ref m6, .ref m7, .ref m8, .int re, .int ro, .ref m9, .int tm])), (m1, .inl (cI, 12, .inl (upd (coneL ln np x i) (np + i) x))), (m2, .inl (cI, 12, .inl (upd (coneB bo np y z N i) (np + i) (coneV y z N i))))] := hD
                refine lv_iinc (v := nI (i + 1)) (lv' := [(5, .int (nI (i + 1))), (0, .ref mm), (1, .int x), (2, .int y), (3, .int z), (4, .int (nI N))]) hx hb dX6_cone_99 hl (k := 0) rfl (iinc_1 i) (by decide) rfl (fun ls hl => ?_)
                refine lv_goto (tgt := 74) hx hb dX6_cone_102 (by decide) ?_
                exact ih_74 (i + 1) (by omega) _ _ hP hD hS ls (lv_sub hl [0, 1, 2, 3, 4, 5] rfl)
            exact lp_74 N 0 (by omega) _ _ hP hD hS ls (lv_sub hl [0, 1, 2, 3, 4, 5] rfl)
          · skip
            refine lv_sipush (v := (-1004)) hx hb dX6_cone_67 (by decide) ?_
            exact ret_WI hQ hx hb hr hlk hAe () (by show va_P D vwCl [(mm, .inr (6, [.int (nI ((mCone x y z (nI N) np ln bo).2.1)), .ref m1, .ref m2, .int (nI nh), .ref m3, .ref m4, .int (nI nn), .ref m5, .ref m6, .ref m7, .ref m8, .int re, .int ro, .ref m9, .int tm])), (m1, .inl (cI, 12, .inl ((mCone x y z (nI N) np ln bo).2.2.1))), (m2, .inl (cI, 12, .inl ((mCone x y z (nI N) np ln bo).2.2.2)))] H; rw [show nI ((mCone x y z (nI N) np ln bo).2.1) = nI np from (by first | with_reducible rfl | (simp only [mCone, nI_clamp (show N < 2147483648 from by omega), if_neg c1, if_neg c2, if_neg c3, if_neg c4, if_neg c5]; done) | (simp [mCone, nI_clamp (show N < 2147483648 from by omega), if_neg c1, if_neg c2, if_neg c3, if_neg c4, if_neg c5]; done)), show (mCone x y z (nI N) np ln bo).2.2.1 = ln from (by first | with_reducible rfl | (simp only [mCone, nI_clamp (show N < 2147483648 from by omega), if_neg c1, if_neg c2, if_neg c3, if_neg c4, if_neg c5]; done) | (simp [mCone, nI_clamp (show N < 2147483648 from by omega), if_neg c1, if_neg c2, if_neg c3, if_neg c4, if_neg c5]; done)), show (mCone x y z (nI N) np ln bo).2.2.2 = bo from (by first | with_reducible rfl | (simp only [mCone, nI_clamp (show N < 2147483648 from by omega), if_neg c1, if_neg c2, if_neg c3, if_neg c4, if_neg c5]; done) | (simp [mCone, nI_clamp (show N < 2147483648 from by omega), if_neg c1, if_neg c2, if_neg c3, if_neg c4, if_neg c5]; done))]; exact hP) hS (show (mCone x y z (nI N) np ln bo).1 = (-1004) from (by first | with_reducible rfl | (simp only [mCone, nI_clamp (show N < 2147483648 from by omega), if_neg c1, if_neg c2, if_neg c3, if_neg c4, if_neg c5]; done) | (simp [mCone, nI_clamp (show N < 2147483648 from by omega), if_neg c1, if_neg c2, if_neg c3, if_neg c4, if_neg c5]; done))).symm dX6_cone_70
        · skip
          refine lv_sipush (v := (-1002)) hx hb dX6_cone_51 (by decide) ?_
          exact ret_WI hQ hx hb hr hlk hAe () (by show va_P D vwCl [(mm, .inr (6, [.int (nI ((mCone x y z w np ln bo).2.1)), .ref m1, .ref m2, .int (nI nh), .ref m3, .ref m4, .int (nI nn), .ref m5, .ref m6, .ref m7, .ref m8, .int re, .int ro, .ref m9, .int tm])), (m1, .inl (cI, 12, .inl ((mCone x y z w np ln bo).2.2.1))), (m2, .inl (cI, 12, .inl ((mCone x y z w np ln bo).2.2.2)))] H; rw [show nI ((mCone x y z w np ln bo).2.1) = nI np from (by first | with_reducible rfl | (simp only [mCone, if_neg c1, if_neg c2, if_neg c3, if_pos c4]; done) | (simp [mCone, if_neg c1, if_neg c2, if_neg c3, if_pos c4]; done)), show (mCone x y z w np ln bo).2.2.1 = ln from (by first | with_reducible rfl | (simp only [mCone, if_neg c1, if_neg c2, if_neg c3, if_pos c4]; done) | (simp [mCone, if_neg c1, if_neg c2, if_neg c3, if_pos c4]; done)), show (mCone x y z w np ln bo).2.2.2 = bo from (by first | with_reducible rfl | (simp only [mCone, if_neg c1, if_neg c2, if_neg c3, if_pos c4]; done) | (simp [mCone, if_neg c1, if_neg c2, if_neg c3, if_pos c4]; done))]; exact hP) hS (show (mCone x y z w np ln bo).1 = (-1002) from (by first | with_reducible rfl | (simp only [mCone, if_neg c1, if_neg c2, if_neg c3, if_pos c4]; done) | (simp [mCone, if_neg c1, if_neg c2, if_neg c3, if_pos c4]; done))).symm dX6_cone_54

set_option maxHeartbeats 4000000 in
set_option maxRecDepth 100000 in
theorem c_X6_hole (l : Launch) (D : va_G) (cI cZ : ClassId) (mm : Nat) (m1 : Nat) (m2 : Nat) (m3 : Nat) (m4 : Nat) (m5 : Nat) (m6 : Nat) (m7 : Nat) (m8 : Nat) (m9 : Nat) (np : Nat) (nh : Nat) (nn : Nat) (re : Int32) (ro : Int32) (tm : Int32) (ln : Nat → Int32) (bd : Nat → Int32) (x : Int32) (y : Int32) (z : Int32) (hnp : np ≤ 12) (hnh : nh ≤ 6) : Met l yX6_hole wsX6_hole rmX6_hole (va_Pc [.ref mm, .int x, .int y, .int z] (PW D cI cZ [(mm, .inr (6, [.int (nI np), .ref m1, .ref m2, .int (nI nh), .ref m3, .ref m4, .int (nI nn), .ref m5, .ref m6, .ref m7, .ref m8, .int re, .int ro, .ref m9, .int tm])), (m1, .inl (cI, 12, .inl ln)), (m3, .inl (cI, 18, .inl bd))])) (WI (S := Unit) D (fun zr _ => zr = (mHole x y z nh bd (fSum ln np 0 0)).1) (fun _ => [(mm, .inr (6, [.int (nI np), .ref m1, .ref m2, .int (nI ((mHole x y z nh bd (fSum ln np 0 0)).2.1)), .ref m3, .ref m4, .int (nI nn), .ref m5, .ref m6, .ref m7, .ref m8, .int re, .int ro, .ref m9, .int tm])), (m1, .inl (cI, 12, .inl ln)), (m3, .inl (cI, 18, .inl ((mHole x y z nh bd (fSum ln np 0 0)).2.2)))]) [(mm, .inr (6, [.int (nI np), .ref m1, .ref m2, .int (nI nh), .ref m3, .ref m4, .int (nI nn), .ref m5, .ref m6, .ref m7, .ref m8, .int re, .int ro, .ref m9, .int tm])), (m1, .inl (cI, 12, .inl ln)), (m3, .inl (cI, 18, .inl bd))]) 0 0 (ad [(mm, .inr (6, [.int (nI np), .ref m1, .ref m2, .int (nI nh), .ref m3, .ref m4, .int (nI nn), .ref m5, .ref m6, .ref m7, .ref m8, .int re, .int ro, .ref m9, .int tm])), (m1, .inl (cI, 12, .inl ln)), (m3, .inl (cI, 18, .inl bd))]) := by
  refine met_go (cc := cX6_hole) (maxL := 4) (ret := (some .int)) (by decide) rfl ?_ (Nat.le_of_ble_eq_true rfl)
  intro p e s m a below meth c Q hQ _ hx hb hr hml hts hown hlk hnm hpre ls hl
  have hown : s.vm.findClass RX6 = some m.cls := hown
  obtain ⟨hP, hK, hD0⟩ := hpre
  have hN := hK.2
  obtain ⟨A, hAe⟩ : ∃ A : Nat → Prop, A = ad [(mm, .inr (6, [.int (nI np), .ref m1, .ref m2, .int (nI nh), .ref m3, .ref m4, .int (nI nn), .ref m5, .ref m6, .ref m7, .ref m8, .int re, .int ro, .ref m9, .int tm])), (m1, .inl (cI, 12, .inl ln)), (m3, .inl (cI, 18, .inl bd))] := ⟨_, rfl⟩
  have hD : va_D A [(mm, .inr (6, [.int (nI np), .ref m1, .ref m2, .int (nI nh), .ref m3, .ref m4, .int (nI nn), .ref m5, .ref m6, .ref m7, .ref m8, .int re, .int ro, .ref m9, .int tm])), (m1, .inl (cI, 12, .inl ln)), (m3, .inl (cI, 18, .inl bd))] := by rw [hAe]; exact hD0.ad
  have hS : va_S A s.heap s.heap [] := va_S.rf
  have hl : lv_has ls 4 [(0, .ref mm), (1, .int x), (2, .int y), (3, .int z)] := hl
  have k6 : ∀ w ∈ wsX60, w ∈ wsX6_hole := fun w h => List.mem_cons_of_mem _ (List.mem_append_right _ h)
  refine lv_aload_n hx hb dX6_hole_0 rfl (lv_at hl 0 rfl) ?_
  refine lv_iconst (v := 0) hx hb dX6_hole_1 (by decide) ?_
  refine lv_iload_n hx hb dX6_hole_2 rfl (lv_at hl 1 rfl) ?_
  refine rd_i (va_runV (As := [.int 0, .int x]) (rest := []) ⟨hx, hb, hml, hown, hts⟩ (c_X6_fits l D cI cZ mm m1 m2 m3 m4 m5 m6 m7 m8 m9 np nh nn re ro tm ln 0 x (by first | omega | exact hnp)) (cwV 2 hts gX6_hole_X6_fits rfl rfl rfl hdV_X6_fits ⟨Nat.le_of_ble_eq_true rfl, Nat.le_of_ble_eq_true rfl⟩) (PR.V (hP.sub [0, 1] rfl) hK hP (q0 := 0) rfl rfl) rfl rfl hl.1 rfl (lv_room (Nat.le_of_ble_eq_true rfl)) dX6_hole_3 ⟨Nat.le_of_ble_eq_true rfl, Nat.le_of_ble_eq_true rfl⟩) hP hS (fun H locs hP hS => ?_)
  refine lv_if_eq (tgt := 27) hx hb dX6_hole_6 (by decide) (fun c1 => ?_) (fun c1 => ?_)
  · skip
    refine lv_sipush (v := (-1002)) hx hb dX6_hole_27 (by decide) ?_
    exact ret_WI hQ hx hb hr hlk hAe () (by show va_P D vwCl [(mm, .inr (6, [.int (nI np), .ref m1, .ref m2, .int (nI ((mHole x y z nh bd (fSum ln np 0 0)).2.1)), .ref m3, .ref m4, .int (nI nn), .ref m5, .ref m6, .ref m7, .ref m8, .int re, .int ro, .ref m9, .int tm])), (m1, .inl (cI, 12, .inl ln)), (m3, .inl (cI, 18, .inl ((mHole x y z nh bd (fSum ln np 0 0)).2.2)))] H; rw [show nI ((mHole x y z nh bd (fSum ln np 0 0)).2.1) = nI nh from (by first | with_reducible rfl | (simp only [mHole, if_pos c1]; done) | (simp [mHole, if_pos c1]; done)), show (mHole x y z nh bd (fSum ln np 0 0)).2.2 = bd from (by first | with_reducible rfl | (simp only [mHole, if_pos c1]; done) | (simp [mHole, if_pos c1]; done))]; exact hP) hS (show (mHole x y z nh bd (fSum ln np 0 0)).1 = (-1002) from (by first | with_reducible rfl | (simp only [mHole, if_pos c1]; done) | (simp [mHole, if_pos c1]; done))).symm dX6_hole_30
  · skip
    refine lv_aload_n hx hb dX6_hole_9 rfl (lv_at hl 0 rfl) ?_
    refine lv_iconst (v := 1) hx hb dX6_hole_10 (by decide) ?_
    refine lv_iload_n hx hb dX6_hole_11 rfl (lv_at hl 2 rfl) ?_
    refine rd_i (va_runV (As := [.int 1, .int y]) (rest := []) ⟨hx, hb, hml, hown, hts⟩ (c_X6_fits l D cI cZ mm m1 m2 m3 m4 m5 m6 m7 m8 m9 np nh nn re ro tm ln 1 y (by first | omega | exact hnp)) (cwV 2 hts gX6_hole_X6_fits rfl rfl rfl hdV_X6_fits ⟨Nat.le_of_ble_eq_true rfl, Nat.le_of_ble_eq_true rfl⟩) (PR.V (hP.sub [0, 1] rfl) hK hP (q0 := 0) rfl rfl) rfl rfl hl.1 rfl (lv_room (Nat.le_of_ble_eq_true rfl)) dX6_hole_12 ⟨Nat.le_of_ble_eq_true rfl, Nat.le_of_ble_eq_true rfl⟩) hP hS (fun H locs hP hS => ?_)
    refine lv_if_eq (tgt := 27) hx hb dX6_hole_15 (by decide) (fun c2 => ?_) (fun c2 => ?_)
    · skip
      refine lv_sipush (v := (-1002)) hx hb dX6_hole_27 (by decide) ?_
      exact ret_WI hQ hx hb hr hlk hAe () (by show va_P D vwCl [(mm, .inr (6, [.int (nI np), .ref m1, .ref m2, .int (nI ((mHole x y z nh bd (fSum ln np 0 0)).2.1)), .ref m3, .ref m4, .int (nI nn), .ref m5, .ref m6, .ref m7, .ref m8, .int re, .int ro, .ref m9, .int tm])), (m1, .inl (cI, 12, .inl ln)), (m3, .inl (cI, 18, .inl ((mHole x y z nh bd (fSum ln np 0 0)).2.2)))] H; rw [show nI ((mHole x y z nh bd (fSum ln np 0 0)).2.1) = nI nh from (by first | with_reducible rfl | (simp only [mHole, if_neg c1, if_pos c2]; done) | (simp [mHole, if_neg c1, if_pos c2]; done)), show (mHole x y z nh bd (fSum ln np 0 0)).2.2 = bd from (by first | with_reducible rfl | (simp only [mHole, if_neg c1, if_pos c2]; done) | (simp [mHole, if_neg c1, if_pos c2]; done))]; exact hP) hS (show (mHole x y z nh bd (fSum ln np 0 0)).1 = (-1002) from (by first | with_reducible rfl | (simp only [mHole, if_neg c1, if_pos c2]; done) | (simp [mHole, if_neg c1, if_pos c2]; done))).symm dX6_hole_30
    · skip
      refine lv_aload_n hx hb dX6_hole_18 rfl (lv_at hl 0 rfl) ?_
      refine lv_iconst (v := 2) hx hb dX6_hole_19 (by decide) ?_
      refine lv_iload_n hx hb dX6_hole_20 rfl (lv_at hl 3 rfl) ?_
      refine rd_i (va_runV (As := [.int 2, .int z]) (rest := []) ⟨hx, hb, hml, hown, hts⟩ (c_X6_fits l D cI cZ mm m1 m2 m3 m4 m5 m6 m7 m8 m9 np nh nn re ro tm ln 2 z (by first | omega | exact hnp)) (cwV 2 hts gX6_hole_X6_fits rfl rfl rfl hdV_X6_fits ⟨Nat.le_of_ble_eq_true rfl, Nat.le_of_ble_eq_true rfl⟩) (PR.V (hP.sub [0, 1] rfl) hK hP (q0 := 0) rfl rfl) rfl rfl hl.1 rfl (lv_room (Nat.le_of_ble_eq_true rfl)) dX6_hole_21 ⟨Nat.le_of_ble_eq_true rfl, Nat.le_of_ble_eq_true rfl⟩) hP hS (fun H locs hP hS => ?_)
      refine lv_if_ne (tgt := 31) hx hb dX6_hole_24 (by decide) (fun c3 => ?_) (fun c3 => ?_)
      · skip
        refine lv_aload_n hx hb dX6_hole_31 rfl (lv_at hl 0 rfl) ?_
        refine lv_iload_n hx hb dX6_hole_32 rfl (lv_at hl 1 rfl) ?_
        refine rd_i (va_runV (As := [.int x]) (rest := []) ⟨hx, hb, hml, hown, hts⟩ (c_X6_holeAt l D cI cZ mm m1 m2 m3 m4 m5 m6 m7 m8 m9 np nh nn re ro tm bd x (by first | omega | exact hnh)) (cwV 1 hts gX6_hole_X6_holeAt rfl rfl rfl hdV_X6_holeAt ⟨Nat.le_of_ble_eq_true rfl, Nat.le_of_ble_eq_true rfl⟩) (PR.V (hP.sub [0, 2] rfl) hK hP (q0 := 0) rfl rfl) rfl rfl hl.1 rfl (lv_room (Nat.le_of_ble_eq_true rfl)) dX6_hole_33 ⟨Nat.le_of_ble_eq_true rfl, Nat.le_of_ble_eq_true rfl⟩) hP hS (fun H locs hP hS => ?_)
        refine lv_if_lt (tgt := 43) hx hb dX6_hole_36 (by decide) (fun c4 => ?_) (fun c4 => ?_)
        · skip
          refine lv_aload_n hx hb dX6_hole_43 rfl (lv_at hl 0 rfl) ?_
          refine va_get (D := D) (ci := 6) (v := .int (nI nh)) (C := RX6) (T := TX6) (N := 15) hx hb hts k6 hown hK.1 hP 0 rfl rfl 3 (by decide) (hts (.fieldLink RX6 67 "BoredPipesModel" "holes" "I") (List.mem_of_getElem? (i := 1) rfl)) (fun _ h9 => h9) rfl dX6_hole_44 ?_
          refine lv_bipush (v := 6) hx hb dX6_hole_47 (by decide) ?_
          refine lv_icmp_ne (tgt := 56) hx hb dX6_hole_49 (by decide) (fun c5 => ?_) (fun c5 => ?_)
          · skip
            have hlt : nh < 6 := nI_ltne (N := 6) c5 hnh
            refine lv_aload_n hx hb dX6_hole_56 rfl (lv_at hl 0 rfl) ?_
            refine va_get (D := D) (ci := 6) (v := .ref m3) (C := RX6) (T := TX6) (N := 15) hx hb hts k6 hown hK.1 hP 0 rfl rfl 4 (by decide) (hts (.fieldLink RX6 16 "BoredPipesModel" "bored" "[I") (List.mem_of_getElem? (i := 2) rfl)) (fun _ h9 => h9) rfl dX6_hole_57 ?_
            refine lv_iconst (v := 3) hx hb dX6_hole_60 (by decide) ?_
            refine lv_aload_n hx hb dX6_hole_61 rfl (lv_at hl 0 rfl) ?_
            refine va_get (D := D) (ci := 6) (v := .int (nI nh)) (C := RX6) (T := TX6) (N := 15) hx hb hts k6 hown hK.1 hP 0 rfl rfl 3 (by decide) (hts (.fieldLink RX6 67 "BoredPipesModel" "holes" "I") (List.mem_of_getElem? (i := 1) rfl)) (fun _ h9 => h9) rfl dX6_hole_62 ?_
            refine nn_imul hx hb dX6_hole_65 (x := 3) (y := nh) rfl rfl ?_
            refine lv_iload_n hx hb dX6_hole_66 rfl (lv_at hl 1 rfl) ?_
            refine iast_n (k := (3 * nh)) hx hb hK.1 hP hD hS 2 rfl (by omega) (by decide) dX6_hole_67 (fun H locs hP hD hS => ?_)
            have hP : va_P D vwCl [(mm, .inr (6, [.int (nI np), .ref m1, .ref m2, .int (nI nh), .ref m3, .ref m4, .int (nI nn), .ref m5, .ref m6, .ref m7, .ref m8, .int re, .int ro, .ref m9, .int tm])), (m1, .inl (cI, 12, .inl ln)), (m3, .inl (cI, 18, .inl (upd bd (3 * nh) x)))] H := hP
            have hD : va_D A [(mm, .inr (6, [.int (nI np), .ref m1, .ref m2, .int (nI nh), .ref m3, .ref m4, .int (nI nn), .ref m5, .ref m6, .ref m7, .ref m8, .int re, .int ro, .ref m9, .int tm])), (m1, .inl (cI, 12, .inl ln)), (m3, .inl (cI, 18, .inl (upd bd (3 * nh) x)))] := hD
            refine lv_aload_n hx hb dX6_hole_68 rfl (lv_at hl 0 rfl) ?_
            refine va_get (D := D) (ci := 6) (v := .ref m3) (C := RX6) (T := TX6) (N := 15) hx hb hts k6 hown hK.1 hP 0 rfl rfl 4 (by decide) (hts (.fieldLink RX6 16 "BoredPipesModel" "bored" "[I") (List.mem_of_getElem? (i := 2) rfl)) (fun _ h9 => h9) rfl dX6_hole_69 ?_
            refine lv_iconst (v := 3) hx hb dX6_hole_72 (by decide) ?_
            refine lv_aload_n hx hb dX6_hole_73 rfl (lv_at hl 0 rfl) ?_
            refine va_get (D := D) (ci := 6) (v := .int (nI nh)) (C := RX6) (T := TX6) (N := 15) hx hb hts k6 hown hK.1 hP 0 rfl rfl 3 (by decide) (hts (.fieldLink RX6 67 "BoredPipesModel" "holes" "I") (List.mem_of_getElem? (i := 1) rfl)) (fun _ h9 => h9) rfl dX6_hole_74 ?_
            refine nn_imul hx hb dX6_hole_77 (x := 3) (y := nh) rfl rfl ?_
            refine lv_iconst (v := 1) hx hb dX6_hole_78 (by decide) ?_
            refine nn_iadd hx hb dX6_hole_79 (x := (3 * nh)) (y := 1) rfl rfl ?_
            refine lv_iload_n hx hb dX6_hole_80 rfl (lv_at hl 2 rfl) ?_
            refine iast_n (k := ((3 * nh) + 1)) hx hb hK.1 hP hD hS 2 rfl (by omega) (by decide) dX6_hole_81 (fun H locs hP hD hS => ?_)
            have hP : va_P D vwCl [(mm, .inr (6, [.int (nI np), .ref m1, .ref m2, .int (nI nh), .ref m3, .ref m4, .int (nI nn), .ref m5, .ref m6, .ref m7, .ref m8, .int re, .int ro, .ref m9, .int tm])), (m1, .inl (cI, 12, .inl ln)), (m3, .inl (cI, 18, .inl (upd (upd bd (3 * nh) x) ((3 * nh) + 1) y)))] H := hP
            have hD : va_D A [(mm, .inr (6, [.int (nI np), .ref m1, .ref m2, .int (nI nh), .ref m3, .ref m4, .int (nI nn), .ref m5, .ref m6, .ref m7, .ref m8, .int re, .int ro, .ref m9, .int tm])), (m1, .inl (cI, 12, .inl ln)), (m3, .inl (cI, 18, .inl (upd (upd bd (3 * nh) x) ((3 * nh) + 1) y)))] := hD
            refine lv_aload_n hx hb dX6_hole_82 rfl (lv_at hl 0 rfl) ?_
            refine va_get (D := D) (ci := 6) (v := .ref m3) (C := RX6) (T := TX6) (N := 15) hx hb hts k6 hown hK.1 hP 0 rfl rfl 4 (by decide) (hts (.fieldLink RX6 16 "BoredPipesModel" "bored" "[I") (List.mem_of_getElem? (i := 2) rfl)) (fun _ h9 => h9) rfl dX6_hole_83 ?_
            refine lv_iconst (v := 3) hx hb dX6_hole_86 (by decide) ?_
            refine lv_aload_n hx hb dX6_hole_87 rfl (lv_at hl 0 rfl) ?_
            refine va_get (D := D) (ci := 6) (v := .int (nI nh)) (C := RX6) (T := TX6) (N := 15) hx hb hts k6 hown hK.1 hP 0 rfl rfl 3 (by decide) (hts (.fieldLink RX6 67 "BoredPipesModel" "holes" "I") (List.mem_of_getElem? (i := 1) rfl)) (fun _ h9 => h9) rfl dX6_hole_88 ?_
            refine nn_imul hx hb dX6_hole_91 (x := 3) (y := nh) rfl rfl ?_
            refine lv_iconst (v := 2) hx hb dX6_hole_92 (by decide) ?_
            refine nn_iadd hx hb dX6_hole_93 (x := (3 * nh)) (y := 2) rfl rfl ?_
            refine lv_iload_n hx hb dX6_hole_94 rfl (lv_at hl 3 rfl) ?_
            refine iast_n (k := ((3 * nh) + 2)) hx hb hK.1 hP hD hS 2 rfl (by omega) (by decide) dX6_hole_95 (fun H locs hP hD hS => ?_)
            have hP : va_P D vwCl [(mm, .inr (6, [.int (nI np), .ref m1, .ref m2, .int (nI nh), .ref m3, .ref m4, .int (nI nn), .ref m5, .ref m6, .ref m7, .ref m8, .int re, .int ro, .ref m9, .int tm])), (m1, .inl (cI, 12, .inl ln)), (m3, .inl (cI, 18, .inl (upd (upd (upd bd (3 * nh) x) ((3 * nh) + 1) y) ((3 * nh) + 2) z)))] H := hP
            have hD : va_D A [(mm, .inr (6, [.int (nI np), .ref m1, .ref m2, .int (nI nh), .ref m3, .ref m4, .int (nI nn), .ref m5, .ref m6, .ref m7, .ref m8, .int re, .int ro, .ref m9, .int tm])), (m1, .inl (cI, 12, .inl ln)), (m3, .inl (cI, 18, .inl (upd (upd (upd bd (3 * nh) x) ((3 * nh) + 1) y) ((3 * nh) + 2) z)))] := hD
            refine lv_aload_n hx hb dX6_hole_96 rfl (lv_at hl 0 rfl) ?_
            refine lv_dup hx hb dX6_hole_97 rfl ?_
            refine va_get (D := D) (ci := 6) (v := .int (nI nh)) (C := RX6) (T := TX6) (N := 15) hx hb hts k6 hown hK.1 hP 0 rfl rfl 3 (by decide) (hts (.fieldLink RX6 67 "BoredPipesModel" "holes" "I") (List.mem_of_getElem? (i := 1) rfl)) (fun _ h9 => h9) rfl dX6_hole_98 ?_
            refine lv_iconst (v := 1) hx hb dX6_hole_101 (by decide) ?_
            refine nn_iadd hx hb dX6_hole_102 (x := nh) (y := 1) rfl rfl ?_
            refine va_put (D := D) (ci := 6) (v := .int (nI (nh + 1))) (ty := .int) (C := RX6) (T := TX6) (N := 15) hx hb hts k6 tyX6 tyX6_ok nmX6 hown hK.1 hP hD hS 0 rfl rfl 3 (by decide) (hts (.fieldLink RX6 67 "BoredPipesModel" "holes" "I") (List.mem_of_getElem? (i := 1) rfl)) (fun _ h9 => h9) rfl (tyX6_ok 3 (by decide)) rfl rfl (Nat.le_of_ble_eq_true rfl) dX6_hole_103 (fun H locs hP hD hS => ?_)
            have hP : va_P D vwCl [(mm, .inr (6, [.int (nI np), .ref m1, .ref m2, .int (nI (nh + 1)), .ref m3, .ref m4, .int (nI nn), .ref m5, .ref m6, .ref m7, .ref m8, .int re, .int ro, .ref m9, .int tm])), (m1, .inl (cI, 12, .inl ln)), (m3, .inl (cI, 18, .inl (upd (upd (upd bd (3 * nh) x) ((3 * nh) + 1) y) ((3 * nh) + 2) z)))] H := hP
            have hD : va_D A [(mm, .inr (6, [.int (nI np), .ref m1, .ref m2, .int (nI (nh + 1)), .ref m3, .ref m4, .int (nI nn), .ref m5, .ref m6, .ref m7, .ref m8, .int re, .int ro, .ref m9, .int tm])), (m1, .inl (cI, 12, .inl ln)), (m3, .inl (cI, 18, .inl (upd (upd (upd bd (3 * nh) x) ((3 * nh) + 1) y) ((3 * nh) + 2) z)))] := hD
            refine lv_aload_n hx hb dX6_hole_106 rfl (lv_at hl 0 rfl) ?_
            refine va_get (D := D) (ci := 6) (v := .int (nI (nh + 1))) (C := RX6) (T := TX6) (N := 15) hx hb hts k6 hown hK.1 hP 0 rfl rfl 3 (by decide) (hts (.fieldLink RX6 67 "BoredPipesModel" "holes" "I") (List.mem_of_getElem? (i := 1) rfl)) (fun _ h9 => h9) rfl dX6_hole_107 ?_
            refine lv_iconst (v := 1) hx hb dX6_hole_110 (by decide) ?_
            refine lv_isub hx hb dX6_hole_111 ?_
            exact ret_WI hQ hx hb hr hlk hAe () (by show va_P D vwCl [(mm, .inr (6, [.int (nI np), .ref m1, .ref m2, .int (nI ((mHole x y z nh bd (fSum ln np 0 0)).2.1)), .ref m3, .ref m4, .int (nI nn), .ref m5, .ref m6, .ref m7, .ref m8, .int re, .int ro, .ref m9, .int tm])), (m1, .inl (cI, 12, .inl ln)), (m3, .inl (cI, 18, .inl ((mHole x y z nh bd (fSum ln np 0 0)).2.2)))] H; rw [show nI ((mHole x y z nh bd (fSum ln np 0 0)).2.1) = nI (nh + 1) from (by first | with_reducible rfl | (simp only [mHole, if_neg c1, if_neg c2, if_neg c3, if_pos c4, if_neg c5]; done) | (simp [mHole, if_neg c1, if_neg c2, if_neg c3, if_pos c4, if_neg c5]; done)), show (mHole x y z nh bd (fSum ln np 0 0)).2.2 = upd (upd (upd bd (3 * nh) x) ((3 * nh) + 1) y) ((3 * nh) + 2) z from (by first | with_reducible rfl | (simp only [mHole, if_neg c1, if_neg c2, if_neg c3, if_pos c4, if_neg c5]; done) | (simp [mHole, if_neg c1, if_neg c2, if_neg c3, if_pos c4, if_neg c5]; done))]; exact hP) hS (show (mHole x y z nh bd (fSum ln np 0 0)).1 = (nI (nh + 1)) - 1 from (by first | with_reducible rfl | (simp only [mHole, if_neg c1, if_neg c2, if_neg c3, if_pos c4, if_neg c5]; done) | (simp [mHole, if_neg c1, if_neg c2, if_neg c3, if_pos c4, if_neg c5]; done))).symm dX6_hole_112
          · skip
            refine lv_sipush (v := (-1004)) hx hb dX6_hole_52 (by decide) ?_
            exact ret_WI hQ hx hb hr hlk hAe () (by show va_P D vwCl [(mm, .inr (6, [.int (nI np), .ref m1, .ref m2, .int (nI ((mHole x y z nh bd (fSum ln np 0 0)).2.1)), .ref m3, .ref m4, .int (nI nn), .ref m5, .ref m6, .ref m7, .ref m8, .int re, .int ro, .ref m9, .int tm])), (m1, .inl (cI, 12, .inl ln)), (m3, .inl (cI, 18, .inl ((mHole x y z nh bd (fSum ln np 0 0)).2.2)))] H; rw [show nI ((mHole x y z nh bd (fSum ln np 0 0)).2.1) = nI nh from (by first | with_reducible rfl | (simp only [mHole, if_neg c1, if_neg c2, if_neg c3, if_pos c4, if_pos c5]; done) | (simp [mHole, if_neg c1, if_neg c2, if_neg c3, if_pos c4, if_pos c5]; done)), show (mHole x y z nh bd (fSum ln np 0 0)).2.2 = bd from (by first | with_reducible rfl | (simp only [mHole, if_neg c1, if_neg c2, if_neg c3, if_pos c4, if_pos c5]; done) | (simp [mHole, if_neg c1, if_neg c2, if_neg c3, if_pos c4, if_pos c5]; done))]; exact hP) hS (show (mHole x y z nh bd (fSum ln np 0 0)).1 = (-1004) from (by first | with_reducible rfl | (simp only [mHole, if_neg c1, if_neg c2, if_neg c3, if_pos c4, if_pos c5]; done) | (simp [mHole, if_neg c1, if_neg c2, if_neg c3, if_pos c4, if_pos c5]; done))).symm dX6_hole_55
        · skip
          refine lv_sipush (v := (-1003)) hx hb dX6_hole_39 (by decide) ?_
          exact ret_WI hQ hx hb hr hlk hAe () (by show va_P D vwCl [(mm, .inr (6, [.int (nI np), .ref m1, .ref m2, .int (nI ((mHole x y z nh bd (fSum ln np 0 0)).2.1)), .ref m3, .ref m4, .int (nI nn), .ref m5, .ref m6, .ref m7, .ref m8, .int re, .int ro, .ref m9, .int tm])), (m1, .inl (cI, 12, .inl ln)), (m3, .inl (cI, 18, .inl ((mHole x y z nh bd (fSum ln np 0 0)).2.2)))] H; rw [show nI ((mHole x y z nh bd (fSum ln np 0 0)).2.1) = nI nh from (by first | with_reducible rfl | (simp only [mHole, if_neg c1, if_neg c2, if_neg c3, if_neg c4]; done) | (simp [mHole, if_neg c1, if_neg c2, if_neg c3, if_neg c4]; done)), show (mHole x y z nh bd (fSum ln np 0 0)).2.2 = bd from (by first | with_reducible rfl | (simp only [mHole, if_neg c1, if_neg c2, if_neg c3, if_neg c4]; done) | (simp [mHole, if_neg c1, if_neg c2, if_neg c3, if_neg c4]; done))]; exact hP) hS (show (mHole x y z nh bd (fSum ln np 0 0)).1 = (-1003) from (by first | with_reducible rfl | (simp only [mHole, if_neg c1, if_neg c2, if_neg c3, if_neg c4]; done) | (simp [mHole, if_neg c1, if_neg c2, if_neg c3, if_neg c4]; done))).symm dX6_hole_42
      · skip
        refine lv_sipush (v := (-1002)) hx hb dX6_hole_27 (by decide) ?_
        exact ret_WI hQ hx hb hr hlk hAe () (by show va_P D vwCl [(mm, .inr (6, [.int (nI np), .ref m1, .ref m2, .int (nI ((mHole x y z nh bd (fSum ln np 0 0)).2.1)), .ref m3, .ref m4, .int (nI nn), .ref m5, .ref m6, .ref m7, .ref m8, .int re, .int ro, .ref m9, .int tm])), (m1, .inl (cI, 12, .inl ln)), (m3, .inl (cI, 18, .inl ((mHole x y z nh bd (fSum ln np 0 0)).2.2)))] H; rw [show nI ((mHole x y z nh bd (fSum ln np 0 0)).2.1) = nI nh from (by first | with_reducible rfl | (simp only [mHole, if_neg c1, if_neg c2, if_pos c3]; done) | (simp [mHole, if_neg c1, if_neg c2, if_pos c3]; done)), show (mHole x y z nh bd (fSum ln np 0 0)).2.2 = bd from (by first | with_reducible rfl | (simp only [mHole, if_neg c1, if_neg c2, if_pos c3]; done) | (simp [mHole, if_neg c1, if_neg c2, if_pos c3]; done))]; exact hP) hS (show (mHole x y z nh bd (fSum ln np 0 0)).1 = (-1002) from (by first | with_reducible rfl | (simp only [mHole, if_neg c1, if_neg c2, if_pos c3]; done) | (simp [mHole, if_neg c1, if_neg c2, if_pos c3]; done))).symm dX6_hole_30

set_option maxHeartbeats 4000000 in
set_option maxRecDepth 100000 in
theorem c_X6_set (l : Launch) (D : va_G) (cI cZ : ClassId) (mm : Nat) (m1 : Nat) (m2 : Nat) (m3 : Nat) (m4 : Nat) (m5 : Nat) (m6 : Nat) (m7 : Nat) (m8 : Nat) (m9 : Nat) (np : Nat) (nh : Nat) (nn : Nat) (re : Int32) (ro : Int32) (tm : Int32) (ln : Nat → Int32) (bd : Nat → Int32) (x : Int32) (y : Int32) (v : Int32) (hnp : np ≤ 12) (hnh : nh ≤ 6) : Met l yX6_set wsX6_set rmX6_set (va_Pc [.ref mm, .int x, .int y, .int v] (PW D cI cZ [(mm, .inr (6, [.int (nI np), .ref m1, .ref m2, .int (nI nh), .ref m3, .ref m4, .int (nI nn), .ref m5, .ref m6, .ref m7, .ref m8, .int re, .int ro, .ref m9, .int tm])), (m1, .inl (cI, 12, .inl ln)), (m3, .inl (cI, 18, .inl bd))])) (WI (S := Unit) D (fun zr _ => zr = (mSet x y v nh bd (fSum ln np 0 0)).1) (fun _ => [(mm, .inr (6, [.int (nI np), .ref m1, .ref m2, .int (nI nh), .ref m3, .ref m4, .int (nI nn), .ref m5, .ref m6, .ref m7, .ref m8, .int re, .int ro, .ref m9, .int tm])), (m1, .inl (cI, 12, .inl ln)), (m3, .inl (cI, 18, .inl ((mSet x y v nh bd (fSum ln np 0 0)).2)))]) [(mm, .inr (6, [.int (nI np), .ref m1, .ref m2, .int (nI nh), .ref m3, .ref m4, .int (nI nn), .ref m5, .ref m6, .ref m7, .ref m8, .int re, .int ro, .ref m9, .int tm])), (m1, .inl (cI, 12, .inl ln)), (m3, .inl (cI, 18, .inl bd))]) 0 0 (ad [(mm, .inr (6, [.int (nI np), .ref m1, .ref m2, .int (nI nh), .ref m3, .ref m4, .int (nI nn), .ref m5, .ref m6, .ref m7, .ref m8, .int re, .int ro, .ref m9, .int tm])), (m1, .inl (cI, 12, .inl ln)), (m3, .inl (cI, 18, .inl bd))]) := by
  refine met_go (cc := cX6_set) (maxL := 6) (ret := (some .int)) (by decide) rfl ?_ (Nat.le_of_ble_eq_true rfl)
  intro p e s m a below meth c Q hQ _ hx hb hr hml hts hown hlk hnm hpre ls hl
  have hown : s.vm.findClass RX6 = some m.cls := hown
  obtain ⟨hP, hK, hD0⟩ := hpre
  have hN := hK.2
  obtain ⟨A, hAe⟩ : ∃ A : Nat → Prop, A = ad [(mm, .inr (6, [.int (nI np), .ref m1, .ref m2, .int (nI nh), .ref m3, .ref m4, .int (nI nn), .ref m5, .ref m6, .ref m7, .ref m8, .int re, .int ro, .ref m9, .int tm])), (m1, .inl (cI, 12, .inl ln)), (m3, .inl (cI, 18, .inl bd))] := ⟨_, rfl⟩
  have hD : va_D A [(mm, .inr (6, [.int (nI np), .ref m1, .ref m2, .int (nI nh), .ref m3, .ref m4, .int (nI nn), .ref m5, .ref m6, .ref m7, .ref m8, .int re, .int ro, .ref m9, .int tm])), (m1, .inl (cI, 12, .inl ln)), (m3, .inl (cI, 18, .inl bd))] := by rw [hAe]; exact hD0.ad
  have hS : va_S A s.heap s.heap [] := va_S.rf
  have hl : lv_has ls 6 [(0, .ref mm), (1, .int x), (2, .int y), (3, .int v)] := hl
  have k6 : ∀ w ∈ wsX60, w ∈ wsX6_set := fun w h => List.mem_cons_of_mem _ (List.mem_append_right _ h)
  refine lv_aload_n hx hb dX6_set_0 rfl (lv_at hl 0 rfl) ?_
  refine lv_iload_n hx hb dX6_set_1 rfl (lv_at hl 1 rfl) ?_
  refine rd_i (va_runV (As := [.int x]) (rest := []) ⟨hx, hb, hml, hown, hts⟩ (c_X6_isHole l D cI cZ mm m1 m2 m3 m4 m5 m6 m7 m8 m9 np nh nn re ro tm x) (cwV 1 hts gX6_set_X6_isHole rfl rfl rfl hdV_X6_isHole ⟨Nat.le_of_ble_eq_true rfl, Nat.le_of_ble_eq_true rfl⟩) (PR.V (hP.sub [0] rfl) hK hP (q0 := 0) rfl rfl) rfl rfl hl.1 rfl (lv_room (Nat.le_of_ble_eq_true rfl)) dX6_set_2 ⟨Nat.le_of_ble_eq_true rfl, Nat.le_of_ble_eq_true rfl⟩) hP hS (fun H locs hP hS => ?_)
  refine lv_if_ne (tgt := 12) hx hb dX6_set_5 (by decide) (fun c1 => ?_) (fun c1 => ?_)
  · skip
    have hx0 := c1
    refine lv_iload_n hx hb dX6_set_12 rfl (lv_at hl 2 rfl) ?_
    refine lv_i2l hx hb dX6_set_13 rfl ?_
    refine lv_lconst (v := 0) hx hb dX6_set_14 (by decide) ?_
    refine lv_ldc2 hx hb hown (hts (.constantLong RX6 61 (2)) (List.mem_of_getElem? (i := 1) rfl)) dX6_set_15 ?_
    refine rd_i (va_runS (As := [.long y.toInt64, .long 0, .long 2]) (rest := []) ⟨hx, hb, hml, hown, hts⟩ (c_X6_in l D cI cZ y.toInt64 0 2) (va_cwS 3 hts gX6_set_X6_in rfl rfl rfl hdV_X6_in.2 ⟨Nat.le_of_ble_eq_true rfl, Nat.le_of_ble_eq_true rfl⟩) (PR.S (hP.sub [] rfl) hK) rfl rfl hl.1 rfl (lv_room (Nat.le_of_ble_eq_true rfl)) dX6_set_18 ⟨Nat.le_of_ble_eq_true rfl, Nat.le_of_ble_eq_true rfl⟩) hP hS (fun H locs hP hS => ?_)
    refine lv_if_eq (tgt := 33) hx hb dX6_set_21 (by decide) (fun c2 => ?_) (fun c2 => ?_)
    · skip
      refine lv_sipush (v := (-1002)) hx hb dX6_set_33 (by decide) ?_
      exact ret_WI hQ hx hb hr hlk hAe () (by show va_P D vwCl [(mm, .inr (6, [.int (nI np), .ref m1, .ref m2, .int (nI nh), .ref m3, .ref m4, .int (nI nn), .ref m5, .ref m6, .ref m7, .ref m8, .int re, .int ro, .ref m9, .int tm])), (m1, .inl (cI, 12, .inl ln)), (m3, .inl (cI, 18, .inl ((mSet x y v nh bd (fSum ln np 0 0)).2)))] H; rw [show (mSet x y v nh bd (fSum ln np 0 0)).2 = bd from (by first | with_reducible rfl | (simp only [mSet, if_neg c1, if_pos c2]; done) | (simp [mSet, if_neg c1, if_pos c2]; done))]; exact hP) hS (show (mSet x y v nh bd (fSum ln np 0 0)).1 = (-1002) from (by first | with_reducible rfl | (simp only [mSet, if_neg c1, if_pos c2]; done) | (simp [mSet, if_neg c1, if_pos c2]; done))).symm dX6_set_36
    · skip
      have hy0 := c2
      refine lv_aload_n hx hb dX6_set_24 rfl (lv_at hl 0 rfl) ?_
      refine lv_iload_n hx hb dX6_set_25 rfl (lv_at hl 2 rfl) ?_
      refine lv_iload_n hx hb dX6_set_26 rfl (lv_at hl 3 rfl) ?_
      refine rd_i (va_runV (As := [.int y, .int v]) (rest := []) ⟨hx, hb, hml, hown, hts⟩ (c_X6_fits l D cI cZ mm m1 m2 m3 m4 m5 m6 m7 m8 m9 np nh nn re ro tm ln y v (by first | omega | exact hnp)) (cwV 2 hts gX6_set_X6_fits rfl rfl rfl hdV_X6_fits ⟨Nat.le_of_ble_eq_true rfl, Nat.le_of_ble_eq_true rfl⟩) (PR.V (hP.sub [0, 1] rfl) hK hP (q0 := 0) rfl rfl) rfl rfl hl.1 rfl (lv_room (Nat.le_of_ble_eq_true rfl)) dX6_set_27 ⟨Nat.le_of_ble_eq_true rfl, Nat.le_of_ble_eq_true rfl⟩) hP hS (fun H locs hP hS => ?_)
      refine lv_if_ne (tgt := 37) hx hb dX6_set_30 (by decide) (fun c3 => ?_) (fun c3 => ?_)
      · skip
        refine lv_iload_n hx hb dX6_set_37 rfl (lv_at hl 2 rfl) ?_
        have jn_38 : ∀ (H : Heap) (locs : List Loc), va_P D vwCl [(mm, .inr (6, [.int (nI np), .ref m1, .ref m2, .int (nI nh), .ref m3, .ref m4, .int (nI nn), .ref m5, .ref m6, .ref m7, .ref m8, .int re, .int ro, .ref m9, .int tm])), (m1, .inl (cI, 12, .inl ln)), (m3, .inl (cI, 18, .inl bd))] H → va_S A s.heap H locs → W p l e rmX6_set s m a below meth c H locs 0 0 Q (F0 m 50 ls [.int (if y = 0 then mHoleAt bd v nh 0 (-1) else (-1))]) := by
          intro H locs hP hS
          refine lv_topi (fun tv_ etv => ?_)
          refine lv_istore (lv' := [(4, .int tv_), (0, .ref mm), (1, .int x), (2, .int y), (3, .int v)]) hx hb dX6_set_50 hl (by decide) rfl (fun ls hl => ?_)
          refine lv_iload hx hb dX6_set_52 (lv_at hl 0 rfl) ?_
          refine lv_if_lt (tgt := 67) hx hb dX6_set_54 (by decide) (fun c5 => ?_) (fun c5 => ?_)
          · skip
            obtain ⟨k, hk, rfl⟩ := fInL_hole hx0 (by omega)
            obtain ⟨j, -, hj, rfl⟩ := fInL_rng (a := 0) (b := 2) hy0 (by decide) (by decide)
            refine lv_aload_n hx hb dX6_set_67 rfl (lv_at hl 1 rfl) ?_
            refine va_get (D := D) (ci := 6) (v := .ref m3) (C := RX6) (T := TX6) (N := 15) hx hb hts k6 hown hK.1 hP 0 rfl rfl 4 (by decide) (hts (.fieldLink RX6 16 "BoredPipesModel" "bored" "[I") (List.mem_of_getElem? (i := 2) rfl)) (fun _ h9 => h9) rfl dX6_set_68 ?_
            refine lv_iconst (v := 3) hx hb dX6_set_71 (by decide) ?_
            refine lv_iload_n hx hb dX6_set_72 rfl (lv_at hl 2 rfl) ?_
            refine nn_imul hx hb dX6_set_73 (x := 3) (y := k) rfl rfl ?_
            refine lv_iload_n hx hb dX6_set_74 rfl (lv_at hl 3 rfl) ?_
            refine nn_iadd hx hb dX6_set_75 (x := (3 * k)) (y := j) rfl rfl ?_
            refine iald_n (k := ((3 * k) + j)) hx hb hK.1 hP 2 rfl (by omega) (by decide) dX6_set_76 ?_
            refine lv_istore (lv' := [(5, .int (bd ((3 * k) + j))), (4, .int tv_), (0, .ref mm), (1, .int (nI k)), (2, .int (nI j)), (3, .int v)]) hx hb dX6_set_77 hl (by decide) rfl (fun ls hl => ?_)
            refine lv_aload_n hx hb dX6_set_79 rfl (lv_at hl 2 rfl) ?_
            refine va_get (D := D) (ci := 6) (v := .ref m3) (C := RX6) (T := TX6) (N := 15) hx hb hts k6 hown hK.1 hP 0 rfl rfl 4 (by decide) (hts (.fieldLink RX6 16 "BoredPipesModel" "bored" "[I") (List.mem_of_getElem? (i := 2) rfl)) (fun _ h9 => h9) rfl dX6_set_80 ?_
            refine lv_iconst (v := 3) hx hb dX6_set_83 (by decide) ?_
            refine lv_iload_n hx hb dX6_set_84 rfl (lv_at hl 3 rfl) ?_
            refine nn_imul hx hb dX6_set_85 (x := 3) (y := k) rfl rfl ?_
            refine lv_iload_n hx hb dX6_set_86 rfl (lv_at hl 4 rfl) ?_
            refine nn_iadd hx hb dX6_set_87 (x := (3 * k)) (y := j) rfl rfl ?_
            refine lv_iload_n hx hb dX6_set_88 rfl (lv_at hl 5 rfl) ?_
            refine iast_n (k := ((3 * k) + j)) hx hb hK.1 hP hD hS 2 rfl (by omega) (by decide) dX6_set_89 (fun H locs hP hD hS => ?_)
            have hP : va_P D vwCl [(mm, .inr (6, [.int (nI np), .ref m1, .ref m2, .int (nI nh), .ref m3, .ref m4, .int (nI nn), .ref m5, .ref m6, .ref m7, .ref m8, .int re, .int ro, .ref m9, .int tm])), (m1, .inl (cI, 12, .inl ln)), (m3, .inl (cI, 18, .inl (upd bd ((3 * k) + j) v)))] H := hP
            have hD : va_D A [(mm, .inr (6, [.int (nI np), .ref m1, .ref m2, .int (nI nh), .ref m3, .ref m4, .int (nI nn), .ref m5, .ref m6, .ref m7, .ref m8, .int re, .int ro, .ref m9, .int tm])), (m1, .inl (cI, 12, .inl ln)), (m3, .inl (cI, 18, .inl (upd bd ((3 * k) + j) v)))] := hD
            refine lv_iload hx hb dX6_set_90 (lv_at hl 0 rfl) ?_
            exact ret_WI hQ hx hb hr hlk hAe () (by show va_P D vwCl [(mm, .inr (6, [.int (nI np), .ref m1, .ref m2, .int (nI nh), .ref m3, .ref m4, .int (nI nn), .ref m5, .ref m6, .ref m7, .ref m8, .int re, .int ro, .ref m9, .int tm])), (m1, .inl (cI, 12, .inl ln)), (m3, .inl (cI, 18, .inl ((mSet (nI k) (nI j) v nh bd (fSum ln np 0 0)).2)))] H; rw [show (mSet (nI k) (nI j) v nh bd (fSum ln np 0 0)).2 = upd bd ((3 * k) + j) v from (by first | with_reducible rfl | (simp only [mSet, ← etv, nI_clamp (show k < 2147483648 from by omega), nI_clamp (show j < 2147483648 from by omega), if_neg c1, if_neg c2, if_neg c3, if_pos c5]; done) | (simp [mSet, ← etv, nI_clamp (show k < 2147483648 from by omega), nI_clamp (show j < 2147483648 from by omega), if_neg c1, if_neg c2, if_neg c3, if_pos c5]; done))]; exact hP) hS (show (mSet (nI k) (nI j) v nh bd (fSum ln np 0 0)).1 = bd ((3 * k) + j) from (by first | with_reducible rfl | (simp only [mSet, ← etv, nI_clamp (show k < 2147483648 from by omega), nI_clamp (show j < 2147483648 from by omega), if_neg c1, if_neg c2, if_neg c3, if_pos c5]; done) | (simp [mSet, ← etv, nI_clamp (show k < 2147483648 from by omega), nI_clamp (show j < 2147483648 from by omega), if_neg c1, if_neg c2, if_neg c3, if_pos c5]; done))).symm dX6_set_92
          · skip
            refine lv_iload hx hb dX6_set_57 (lv_at hl 0 rfl) ?_
            refine lv_iload_n hx hb dX6_set_59 rfl (lv_at hl 2 rfl) ?_
            refine lv_icmp_eq (tgt := 67) hx hb dX6_set_60 (by decide) (fun c6 => ?_) (fun c6 => ?_)
            · skip
              obtain ⟨k, hk, rfl⟩ := fInL_hole hx0 (by omega)
              obtain ⟨j, -, hj, rfl⟩ := fInL_rng (a := 0) (b := 2) hy0 (by decide) (by decide)
              refine lv_aload_n hx hb dX6_set_67 rfl (lv_at hl 1 rfl) ?_
              refine va_get (D := D) (ci := 6) (v := .ref m3) (C := RX6) (T := TX6) (N := 15) hx hb hts k6 hown hK.1 hP 0 rfl rfl 4 (by decide) (hts (.fieldLink RX6 16 "BoredPipesModel" "bored" "[I") (List.mem_of_getElem? (i := 2) rfl)) (fun _ h9 => h9) rfl dX6_set_68 ?_
              refine lv_iconst (v := 3) hx hb dX6_set_71 (by decide) ?_
              refine lv_iload_n hx hb dX6_set_72 rfl (lv_at hl 2 rfl) ?_
              refine nn_imul hx hb dX6_set_73 (x := 3) (y := k) rfl rfl ?_
              refine lv_iload_n hx hb dX6_set_74 rfl (lv_at hl 3 rfl) ?_
              refine nn_iadd hx hb dX6_set_75 (x := (3 * k)) (y := j) rfl rfl ?_
              refine iald_n (k := ((3 * k) + j)) hx hb hK.1 hP 2 rfl (by omega) (by decide) dX6_set_76 ?_
              refine lv_istore (lv' := [(5, .int (bd ((3 * k) + j))), (4, .int tv_), (0, .ref mm), (1, .int (nI k)), (2, .int (nI j)), (3, .int v)]) hx hb dX6_set_77 hl (by decide) rfl (fun ls hl => ?_)
              refine lv_aload_n hx hb dX6_set_79 rfl (lv_at hl 2 rfl) ?_
              refine va_get (D := D) (ci := 6) (v := .ref m3) (C := RX6) (T := TX6) (N := 15) hx hb hts k6 hown hK.1 hP 0 rfl rfl 4 (by decide) (hts (.fieldLink RX6 16 "BoredPipesModel" "bored" "[I") (List.mem_of_getElem? (i := 2) rfl)) (fun _ h9 => h9) rfl dX6_set_80 ?_
              refine lv_iconst (v := 3) hx hb dX6_set_83 (by decide) ?_
              refine lv_iload_n hx hb dX6_set_84 rfl (lv_at hl 3 rfl) ?_
              refine nn_imul hx hb dX6_set_85 (x := 3) (y := k) rfl rfl ?_
              refine lv_iload_n hx hb dX6_set_86 rfl (lv_at hl 4 rfl) ?_
              refine nn_iadd hx hb dX6_set_87 (x := (3 * k)) (y := j) rfl rfl ?_
              refine lv_iload_n hx hb dX6_set_88 rfl (lv_at hl 5 rfl) ?_
              refine iast_n (k := ((3 * k) + j)) hx hb hK.1 hP hD hS 2 rfl (by omega) (by decide) dX6_set_89 (fun H locs hP hD hS => ?_)
              have hP : va_P D vwCl [(mm, .inr (6, [.int (nI np), .ref m1, .ref m2, .int (nI nh), .ref m3, .ref m4, .int (nI nn), .ref m5, .ref m6, .ref m7, .ref m8, .int re, .int ro, .ref m9, .int tm])), (m1, .inl (cI, 12, .inl ln)), (m3, .inl (cI, 18, .inl (upd bd ((3 * k) + j) v)))] H := hP
              have hD : va_D A [(mm, .inr (6, [.int (nI np), .ref m1, .ref m2, .int (nI nh), .ref m3, .ref m4, .int (nI nn), .ref m5, .ref m6, .ref m7, .ref m8, .int re, .int ro, .ref m9, .int tm])), (m1, .inl (cI, 12, .inl ln)), (m3, .inl (cI, 18, .inl (upd bd ((3 * k) + j) v)))] := hD
              refine lv_iload hx hb dX6_set_90 (lv_at hl 0 rfl) ?_
              exact ret_WI hQ hx hb hr hlk hAe () (by show va_P D vwCl [(mm, .inr (6, [.int (nI np), .ref m1, .ref m2, .int (nI nh), .ref m3, .ref m4, .int (nI nn), .ref m5, .ref m6, .ref m7, .ref m8, .int re, .int ro, .ref m9, .int tm])), (m1, .inl (cI, 12, .inl ln)), (m3, .inl (cI, 18, .inl ((mSet (nI k) (nI j) v nh bd (fSum ln np 0 0)).2)))] H; rw [show (mSet (nI k) (nI j) v nh bd (fSum ln np 0 0)).2 = upd bd ((3 * k) + j) v from (by first | with_reducible rfl | (simp only [mSet, ← etv, nI_clamp (show k < 2147483648 from by omega), nI_clamp (show j < 2147483648 from by omega), if_neg c1, if_neg c2, if_neg c3, if_neg c5, if_pos c6]; done) | (simp [mSet, ← etv, nI_clamp (show k < 2147483648 from by omega), nI_clamp (show j < 2147483648 from by omega), if_neg c1, if_neg c2, if_neg c3, if_neg c5, if_pos c6]; done))]; exact hP) hS (show (mSet (nI k) (nI j) v nh bd (fSum ln np 0 0)).1 = bd ((3 * k) + j) from (by first | with_reducible rfl | (simp only [mSet, ← etv, nI_clamp (show k < 2147483648 from by omega), nI_clamp (show j < 2147483648 from by omega), if_neg c1, if_neg c2, if_neg c3, if_neg c5, if_pos c6]; done) | (simp [mSet, ← etv, nI_clamp (show k < 2147483648 from by omega), nI_clamp (show j < 2147483648 from by omega), if_neg c1, if_neg c2, if_neg c3, if_neg c5, if_pos c6]; done))).symm dX6_set_92
            · skip
              refine lv_sipush (v := (-1003)) hx hb dX6_set_63 (by decide) ?_
              exact ret_WI hQ hx hb hr hlk hAe () (by show va_P D vwCl [(mm, .inr (6, [.int (nI np), .ref m1, .ref m2, .int (nI nh), .ref m3, .ref m4, .int (nI nn), .ref m5, .ref m6, .ref m7, .ref m8, .int re, .int ro, .ref m9, .int tm])), (m1, .inl (cI, 12, .inl ln)), (m3, .inl (cI, 18, .inl ((mSet x y v nh bd (fSum ln np 0 0)).2)))] H; rw [show (mSet x y v nh bd (fSum ln np 0 0)).2 = bd from (by first | with_reducible rfl | (simp only [mSet, ← etv, if_neg c1, if_neg c2, if_neg c3, if_neg c5, if_neg c6]; done) | (simp [mSet, ← etv, if_neg c1, if_neg c2, if_neg c3, if_neg c5, if_neg c6]; done))]; exact hP) hS (show (mSet x y v nh bd (fSum ln np 0 0)).1 = (-1003) from (by first | with_reducible rfl | (simp only [mSet, ← etv, if_neg c1, if_neg c2, if_neg c3, if_neg c5, if_neg c6]; done) | (simp [mSet, ← etv, if_neg c1, if_neg c2, if_neg c3, if_neg c5, if_neg c6]; done))).symm dX6_set_66
        refine lv_if_ne (tgt := 49) hx hb dX6_set_38 (by decide) (fun c4 => ?_) (fun c4 => ?_)
        · skip
          refine lv_iconst (v := (-1)) hx hb dX6_set_49 (by decide) ?_
          exact lv_eqi (if_neg c4).symm (jn_38 _ _ hP hS)
        · skip
          refine lv_aload_n hx hb dX6_set_41 rfl (lv_at hl 0 rfl) ?_
          refine lv_iload_n hx hb dX6_set_42 rfl (lv_at hl 3 rfl) ?_
          refine rd_i (va_runV (As := [.int v]) (rest := []) ⟨hx, hb, hml, hown, hts⟩ (c_X6_holeAt l D cI cZ mm m1 m2 m3 m4 m5 m6 m7 m8 m9 np nh nn re ro tm bd v (by first | omega | exact hnh)) (cwV 1 hts gX6_set_X6_holeAt rfl rfl rfl hdV_X6_holeAt ⟨Nat.le_of_ble_eq_true rfl, Nat.le_of_ble_eq_true rfl⟩) (PR.V (hP.sub [0, 2] rfl) hK hP (q0 := 0) rfl rfl) rfl rfl hl.1 rfl (lv_room (Nat.le_of_ble_eq_true rfl)) dX6_set_43 ⟨Nat.le_of_ble_eq_true rfl, Nat.le_of_ble_eq_true rfl⟩) hP hS (fun H locs hP hS => ?_)
          refine lv_goto (tgt := 50) hx hb dX6_set_46 (by decide) ?_
          exact lv_eqi (if_pos c4).symm (jn_38 _ _ hP hS)
      · skip
        refine lv_sipush (v := (-1002)) hx hb dX6_set_33 (by decide) ?_
        exact ret_WI hQ hx hb hr hlk hAe () (by show va_P D vwCl [(mm, .inr (6, [.int (nI np), .ref m1, .ref m2, .int (nI nh), .ref m3, .ref m4, .int (nI nn), .ref m5, .ref m6, .ref m7, .ref m8, .int re, .int ro, .ref m9, .int tm])), (m1, .inl (cI, 12, .inl ln)), (m3, .inl (cI, 18, .inl ((mSet x y v nh bd (fSum ln np 0 0)).2)))] H; rw [show (mSet x y v nh bd (fSum ln np 0 0)).2 = bd from (by first | with_reducible rfl | (simp only [mSet, if_neg c1, if_neg c2, if_pos c3]; done) | (simp [mSet, if_neg c1, if_neg c2, if_pos c3]; done))]; exact hP) hS (show (mSet x y v nh bd (fSum ln np 0 0)).1 = (-1002) from (by first | with_reducible rfl | (simp only [mSet, if_neg c1, if_neg c2, if_pos c3]; done) | (simp [mSet, if_neg c1, if_neg c2, if_pos c3]; done))).symm dX6_set_36
  · skip
    refine lv_sipush (v := (-1001)) hx hb dX6_set_8 (by decide) ?_
    exact ret_WI hQ hx hb hr hlk hAe () (by show va_P D vwCl [(mm, .inr (6, [.int (nI np), .ref m1, .ref m2, .int (nI nh), .ref m3, .ref m4, .int (nI nn), .ref m5, .ref m6, .ref m7, .ref m8, .int re, .int ro, .ref m9, .int tm])), (m1, .inl (cI, 12, .inl ln)), (m3, .inl (cI, 18, .inl ((mSet x y v nh bd (fSum ln np 0 0)).2)))] H; rw [show (mSet x y v nh bd (fSum ln np 0 0)).2 = bd from (by first | with_reducible rfl | (simp only [mSet, if_pos c1]; done) | (simp [mSet, if_pos c1]; done))]; exact hP) hS (show (mSet x y v nh bd (fSum ln np 0 0)).1 = (-1001) from (by first | with_reducible rfl | (simp only [mSet, if_pos c1]; done) | (simp [mSet, if_pos c1]; done))).symm dX6_set_11

set_option maxHeartbeats 4000000 in
set_option maxRecDepth 100000 in
theorem c_X6_end (l : Launch) (D : va_G) (cI cZ : ClassId) (mm : Nat) (m1 : Nat) (m2 : Nat) (m3 : Nat) (m4 : Nat) (m5 : Nat) (m6 : Nat) (m7 : Nat) (m8 : Nat) (m9 : Nat) (np : Nat) (nh : Nat) (nn : Nat) (re : Int32) (ro : Int32) (tm : Int32) (en : Nat → Int32) (x : Int32) (v : Int32)  : Met l yX6_end wsX6_end rmX6_end (va_Pc [.ref mm, .int x, .int v] (PW D cI cZ [(mm, .inr (6, [.int (nI np), .ref m1, .ref m2, .int (nI nh), .ref m3, .ref m4, .int (nI nn), .ref m5, .ref m6, .ref m7, .ref m8, .int re, .int ro, .ref m9, .int tm])), (m4, .inl (cI, 2, .inl en))])) (WI (S := Unit) D (fun zr _ => zr = (mEnd x v en).1) (fun _ => [(mm, .inr (6, [.int (nI np), .ref m1, .ref m2, .int (nI nh), .ref m3, .ref m4, .int (nI nn), .ref m5, .ref m6, .ref m7, .ref m8, .int re, .int ro, .ref m9, .int tm])), (m4, .inl (cI, 2, .inl ((mEnd x v en).2)))]) [(mm, .inr (6, [.int (nI np), .ref m1, .ref m2, .int (nI nh), .ref m3, .ref m4, .int (nI nn), .ref m5, .ref m6, .ref m7, .ref m8, .int re, .int ro, .ref m9, .int tm])), (m4, .inl (cI, 2, .inl en))]) 0 0 (ad [(mm, .inr (6, [.int (nI np), .ref m1, .ref m2, .int (nI nh), .ref m3, .ref m4, .int (nI nn), .ref m5, .ref m6, .ref m7, .ref m8, .int re, .int ro, .ref m9, .int tm])), (m4, .inl (cI, 2, .inl en))]) := by
  refine met_go (cc := cX6_end) (maxL := 4) (ret := (some .int)) (by decide) rfl ?_ (Nat.le_of_ble_eq_true rfl)
  intro p e s m a below meth c Q hQ _ hx hb hr hml hts hown hlk hnm hpre ls hl
  have hown : s.vm.findClass RX6 = some m.cls := hown
  obtain ⟨hP, hK, hD0⟩ := hpre
  have hN := hK.2
  obtain ⟨A, hAe⟩ : ∃ A : Nat → Prop, A = ad [(mm, .inr (6, [.int (nI np), .ref m1, .ref m2, .int (nI nh), .ref m3, .ref m4, .int (nI nn), .ref m5, .ref m6, .ref m7, .ref m8, .int re, .int ro, .ref m9, .int tm])), (m4, .inl (cI, 2, .inl en))] := ⟨_, rfl⟩
  have hD : va_D A [(mm, .inr (6, [.int (nI np), .ref m1, .ref m2, .int (nI nh), .ref m3, .ref m4, .int (nI nn), .ref m5, .ref m6, .ref m7, .ref m8, .int re, .int ro, .ref m9, .int tm])), (m4, .inl (cI, 2, .inl en))] := by rw [hAe]; exact hD0.ad
  have hS : va_S A s.heap s.heap [] := va_S.rf
  have hl : lv_has ls 4 [(0, .ref mm), (1, .int x), (2, .int v)] := hl
  have k6 : ∀ w ∈ wsX60, w ∈ wsX6_end := fun w h => List.mem_cons_of_mem _ (List.mem_append_right _ h)
  refine lv_iload_n hx hb dX6_end_0 rfl (lv_at hl 1 rfl) ?_
  refine lv_i2l hx hb dX6_end_1 rfl ?_
  refine lv_lconst (v := 0) hx hb dX6_end_2 (by decide) ?_
  refine lv_lconst (v := 1) hx hb dX6_end_3 (by decide) ?_
  refine rd_i (va_runS (As := [.long x.toInt64, .long 0, .long 1]) (rest := []) ⟨hx, hb, hml, hown, hts⟩ (c_X6_in l D cI cZ x.toInt64 0 1) (va_cwS 3 hts gX6_end_X6_in rfl rfl rfl hdV_X6_in.2 ⟨Nat.le_of_ble_eq_true rfl, Nat.le_of_ble_eq_true rfl⟩) (PR.S (hP.sub [] rfl) hK) rfl rfl hl.1 rfl (lv_room (Nat.le_of_ble_eq_true rfl)) dX6_end_4 ⟨Nat.le_of_ble_eq_true rfl, Nat.le_of_ble_eq_true rfl⟩) hP hS (fun H locs hP hS => ?_)
  refine lv_if_eq (tgt := 20) hx hb dX6_end_7 (by decide) (fun c1 => ?_) (fun c1 => ?_)
  · skip
    refine lv_sipush (v := (-1002)) hx hb dX6_end_20 (by decide) ?_
    exact ret_WI hQ hx hb hr hlk hAe () (by show va_P D vwCl [(mm, .inr (6, [.int (nI np), .ref m1, .ref m2, .int (nI nh), .ref m3, .ref m4, .int (nI nn), .ref m5, .ref m6, .ref m7, .ref m8, .int re, .int ro, .ref m9, .int tm])), (m4, .inl (cI, 2, .inl ((mEnd x v en).2)))] H; rw [show (mEnd x v en).2 = en from (by first | with_reducible rfl | (simp only [mEnd, if_pos c1]; done) | (simp [mEnd, if_pos c1]; done))]; exact hP) hS (show (mEnd x v en).1 = (-1002) from (by first | with_reducible rfl | (simp only [mEnd, if_pos c1]; done) | (simp [mEnd, if_pos c1]; done))).symm dX6_end_23
  · skip
    have hx0 := c1
    refine lv_iload_n hx hb dX6_end_10 rfl (lv_at hl 2 rfl) ?_
    refine lv_i2l hx hb dX6_end_11 rfl ?_
    refine lv_lconst (v := 0) hx hb dX6_end_12 (by decide) ?_
    refine lv_lconst (v := 1) hx hb dX6_end_13 (by decide) ?_
    refine rd_i (va_runS (As := [.long v.toInt64, .long 0, .long 1]) (rest := []) ⟨hx, hb, hml, hown, hts⟩ (c_X6_in l D cI cZ v.toInt64 0 1) (va_cwS 3 hts gX6_end_X6_in rfl rfl rfl hdV_X6_in.2 ⟨Nat.le_of_ble_eq_true rfl, Nat.le_of_ble_eq_true rfl⟩) (PR.S (hP.sub [] rfl) hK) rfl rfl hl.1 rfl (lv_room (Nat.le_of_ble_eq_true rfl)) dX6_end_14 ⟨Nat.le_of_ble_eq_true rfl, Nat.le_of_ble_eq_true rfl⟩) hP hS (fun H locs hP hS => ?_)
    refine lv_if_ne (tgt := 24) hx hb dX6_end_17 (by decide) (fun c2 => ?_) (fun c2 => ?_)
    · skip
      obtain ⟨k, -, hk, rfl⟩ := fInL_rng (a := 0) (b := 1) hx0 (by decide) (by decide)
      refine lv_aload_n hx hb dX6_end_24 rfl (lv_at hl 0 rfl) ?_
      refine va_get (D := D) (ci := 6) (v := .ref m4) (C := RX6) (T := TX6) (N := 15) hx hb hts k6 hown hK.1 hP 0 rfl rfl 5 (by decide) (hts (.fieldLink RX6 19 "BoredPipesModel" "ends" "[I") (List.mem_of_getElem? (i := 1) rfl)) (fun _ h9 => h9) rfl dX6_end_25 ?_
      refine lv_iload_n hx hb dX6_end_28 rfl (lv_at hl 1 rfl) ?_
      refine iald_n (k := k) hx hb hK.1 hP 1 rfl (by omega) (by decide) dX6_end_29 ?_
      refine lv_istore_n (lv' := [(3, .int (en k)), (0, .ref mm), (1, .int (nI k)), (2, .int v)]) hx hb dX6_end_30 rfl hl (by decide) rfl (fun ls hl => ?_)
      refine lv_aload_n hx hb dX6_end_31 rfl (lv_at hl 1 rfl) ?_
      refine va_get (D := D) (ci := 6) (v := .ref m4) (C := RX6) (T := TX6) (N := 15) hx hb hts k6 hown hK.1 hP 0 rfl rfl 5 (by decide) (hts (.fieldLink RX6 19 "BoredPipesModel" "ends" "[I") (List.mem_of_getElem? (i := 1) rfl)) (fun _ h9 => h9) rfl dX6_end_32 ?_
      refine lv_iload_n hx hb dX6_end_35 rfl (lv_at hl 2 rfl) ?_
      refine lv_iload_n hx hb dX6_end_36 rfl (lv_at hl 3 rfl) ?_
      refine iast_n (k := k) hx hb hK.1 hP hD hS 1 rfl (by omega) (by decide) dX6_end_37 (fun H locs hP hD hS => ?_)
      have hP : va_P D vwCl [(mm, .inr (6, [.int (nI np), .ref m1, .ref m2, .int (nI nh), .ref m3, .ref m4, .int (nI nn), .ref m5, .ref m6, .ref m7, .ref m8, .int re, .int ro, .ref m9, .int tm])), (m4, .inl (cI, 2, .inl (upd en k v)))] H := hP
      have hD : va_D A [(mm, .inr (6, [.int (nI np), .ref m1, .ref m2, .int (nI nh), .ref m3, .ref m4, .int (nI nn), .ref m5, .ref m6, .ref m7, .ref m8, .int re, .int ro, .ref m9, .int tm])), (m4, .inl (cI, 2, .inl (upd en k v)))] := hD
      refine lv_iload_n hx hb dX6_end_38 rfl (lv_at hl 0 rfl) ?_
      exact ret_WI hQ hx hb hr hlk hAe () (by show va_P D vwCl [(mm, .inr (6, [.int (nI np), .ref m1, .ref m2, .int (nI nh), .ref m3, .ref m4, .int (nI nn), .ref m5, .ref m6, .ref m7, .ref m8, .int re, .int ro, .ref m9, .int tm])), (m4, .inl (cI, 2, .inl ((mEnd (nI k) v en).2)))] H; rw [show (mEnd (nI k) v en).2 = upd en k v from (by first | with_reducible rfl | (simp only [mEnd, nI_clamp (show k < 2147483648 from by omega), if_neg c1, if_neg c2]; done) | (simp [mEnd, nI_clamp (show k < 2147483648 from by omega), if_neg c1, if_neg c2]; done))]; exact hP) hS (show (mEnd (nI k) v en).1 = en k from (by first | with_reducible rfl | (simp only [mEnd, nI_clamp (show k < 2147483648 from by omega), if_neg c1, if_neg c2]; done) | (simp [mEnd, nI_clamp (show k < 2147483648 from by omega), if_neg c1, if_neg c2]; done))).symm dX6_end_39
    · skip
      refine lv_sipush (v := (-1002)) hx hb dX6_end_20 (by decide) ?_
      exact ret_WI hQ hx hb hr hlk hAe () (by show va_P D vwCl [(mm, .inr (6, [.int (nI np), .ref m1, .ref m2, .int (nI nh), .ref m3, .ref m4, .int (nI nn), .ref m5, .ref m6, .ref m7, .ref m8, .int re, .int ro, .ref m9, .int tm])), (m4, .inl (cI, 2, .inl ((mEnd x v en).2)))] H; rw [show (mEnd x v en).2 = en from (by first | with_reducible rfl | (simp only [mEnd, if_neg c1, if_pos c2]; done) | (simp [mEnd, if_neg c1, if_pos c2]; done))]; exact hP) hS (show (mEnd x v en).1 = (-1002) from (by first | with_reducible rfl | (simp only [mEnd, if_neg c1, if_pos c2]; done) | (simp [mEnd, if_neg c1, if_pos c2]; done))).symm dX6_end_23

set_option maxHeartbeats 4000000 in
set_option maxRecDepth 100000 in
theorem c_X6_clear (l : Launch) (D : va_G) (cI cZ : ClassId) (mm : Nat) (m1 : Nat) (m2 : Nat) (m3 : Nat) (m4 : Nat) (m5 : Nat) (m6 : Nat) (m7 : Nat) (m8 : Nat) (m9 : Nat) (np : Nat) (nh : Nat) (nn : Nat) (re : Int32) (ro : Int32) (tm : Int32) (en : Nat → Int32)  : Met l yX6_clear wsX6_clear rmX6_clear (va_Pc [.ref mm] (PW D cI cZ [(mm, .inr (6, [.int (nI np), .ref m1, .ref m2, .int (nI nh), .ref m3, .ref m4, .int (nI nn), .ref m5, .ref m6, .ref m7, .ref m8, .int re, .int ro, .ref m9, .int tm])), (m4, .inl (cI, 2, .inl en))])) (WI (S := Unit) D (fun zr _ => zr = nI np) (fun _ => [(mm, .inr (6, [.int 0, .ref m1, .ref m2, .int 0, .ref m3, .ref m4, .int 0, .ref m5, .ref m6, .ref m7, .ref m8, .int re, .int 0, .ref m9, .int tm])), (m4, .inl (cI, 2, .inl (upd (upd en 0 0) 1 0)))]) [(mm, .inr (6, [.int (nI np), .ref m1, .ref m2, .int (nI nh), .ref m3, .ref m4, .int (nI nn), .ref m5, .ref m6, .ref m7, .ref m8, .int re, .int ro, .ref m9, .int tm])), (m4, .inl (cI, 2, .inl en))]) 0 0 (ad [(mm, .inr (6, [.int (nI np), .ref m1, .ref m2, .int (nI nh), .ref m3, .ref m4, .int (nI nn), .ref m5, .ref m6, .ref m7, .ref m8, .int re, .int ro, .ref m9, .int tm])), (m4, .inl (cI, 2, .inl en))]) := by
  refine met_go (cc := cX6_clear) (maxL := 2) (ret := (some .int)) (by decide) rfl ?_ (Nat.le_of_ble_eq_true rfl)
  intro p e s m a below meth c Q hQ _ hx hb hr hml hts hown hlk hnm hpre ls hl
  have hown : s.vm.findClass RX6 = some m.cls := hown
  obtain ⟨hP, hK, hD0⟩ := hpre
  have hN := hK.2
  obtain ⟨A, hAe⟩ : ∃ A : Nat → Prop, A = ad [(mm, .inr (6, [.int (nI np), .ref m1, .ref m2, .int (nI nh), .ref m3, .ref m4, .int (nI nn), .ref m5, .ref m6, .ref m7, .ref m8, .int re, .int ro, .ref m9, .int tm])), (m4, .inl (cI, 2, .inl en))] := ⟨_, rfl⟩
  have hD : va_D A [(mm, .inr (6, [.int (nI np), .ref m1, .ref m2, .int (nI nh), .ref m3, .ref m4, .int (nI nn), .ref m5, .ref m6, .ref m7, .ref m8, .int re, .int ro, .ref m9, .int tm])), (m4, .inl (cI, 2, .inl en))] := by rw [hAe]; exact hD0.ad
  have hS : va_S A s.heap s.heap [] := va_S.rf
  have hl : lv_has ls 2 [(0, .ref mm)] := hl
  have k6 : ∀ w ∈ wsX60, w ∈ wsX6_clear := fun w h => List.mem_cons_of_mem _ (List.mem_append_right _ h)
  refine lv_aload_n hx hb dX6_clear_0 rfl (lv_at hl 0 rfl) ?_
  refine va_get (D := D) (ci := 6) (v := .int (nI np)) (C := RX6) (T := TX6) (N := 15) hx hb hts k6 hown hK.1 hP 0 rfl rfl 0 (by decide) (hts (.fieldLink RX6 42 "BoredPipesModel" "pieces" "I") (List.mem_of_getElem? (i := 1) rfl)) (fun _ h9 => h9) rfl dX6_clear_1 ?_
  refine lv_istore_n (lv' := [(1, .int (nI np)), (0, .ref mm)]) hx hb dX6_clear_4 rfl hl (by decide) rfl (fun ls hl => ?_)
  refine lv_aload_n hx hb dX6_clear_5 rfl (lv_at hl 1 rfl) ?_
  refine lv_iconst (v := 0) hx hb dX6_clear_6 (by decide) ?_
  refine va_put (D := D) (ci := 6) (v := .int 0) (ty := .int) (C := RX6) (T := TX6) (N := 15) hx hb hts k6 tyX6 tyX6_ok nmX6 hown hK.1 hP hD hS 0 rfl rfl 0 (by decide) (hts (.fieldLink RX6 42 "BoredPipesModel" "pieces" "I") (List.mem_of_getElem? (i := 1) rfl)) (fun _ h9 => h9) rfl (tyX6_ok 0 (by decide)) rfl rfl (Nat.le_of_ble_eq_true rfl) dX6_clear_7 (fun H locs hP hD hS => ?_)
  have hP : va_P D vwCl [(mm, .inr (6, [.int 0, .ref m1, .ref m2, .int (nI nh), .ref m3, .ref m4, .int (nI nn), .ref m5, .ref m6, .ref m7, .ref m8, .int re, .int ro, .ref m9, .int tm])), (m4, .inl (cI, 2, .inl en))] H := hP
  have hD : va_D A [(mm, .inr (6, [.int 0, .ref m1, .ref m2, .int (nI nh), .ref m3, .ref m4, .int (nI nn), .ref m5, .ref m6, .ref m7, .ref m8, .int re, .int ro, .ref m9, .int tm])), (m4, .inl (cI, 2, .inl en))] := hD
  refine lv_aload_n hx hb dX6_clear_10 rfl (lv_at hl 1 rfl) ?_
  refine lv_iconst (v := 0) hx hb dX6_clear_11 (by decide) ?_
  refine va_put (D := D) (ci := 6) (v := .int 0) (ty := .int) (C := RX6) (T := TX6) (N := 15) hx hb hts k6 tyX6 tyX6_ok nmX6 hown hK.1 hP hD hS 0 rfl rfl 3 (by decide) (hts (.fieldLink RX6 67 "BoredPipesModel" "holes" "I") (List.mem_of_getElem? (i := 2) rfl)) (fun _ h9 => h9) rfl (tyX6_ok 3 (by decide)) rfl rfl (Nat.le_of_ble_eq_true rfl) dX6_clear_12 (fun H locs hP hD hS => ?_)
  have hP : va_P D vwCl [(mm, .inr (6, [.int 0, .ref m1, .ref m2, .int 0, .ref m3, .ref m4, .int (nI nn), .ref m5, .ref m6, .ref m7, .ref m8, .int re, .int ro, .ref m9, .int tm])), (m4, .inl (cI, 2, .inl en))] H := hP
  have hD : va_D A [(mm, .inr (6, [.int 0, .ref m1, .ref m2, .int 0, .ref m3, .ref m4, .int (nI nn), .ref m5, .ref m6, .ref m7, .ref m8, .int re, .int ro, .ref m9, .int tm])), (m4, .inl (cI, 2, .inl en))] := hD
  refine lv_aload_n hx hb dX6_clear_15 rfl (lv_at hl 1 rfl) ?_
  refine lv_iconst (v := 0) hx hb dX6_clear_16 (by decide) ?_
  refine va_put (D := D) (ci := 6) (v := .int 0) (ty := .int) (C := RX6) (T := TX6) (N := 15) hx hb hts k6 tyX6 tyX6_ok nmX6 hown hK.1 hP hD hS 0 rfl rfl 6 (by decide) (hts (.fieldLink RX6 82 "BoredPipesModel" "notes" "I") (List.mem_of_getElem? (i := 3) rfl)) (fun _ h9 => h9) rfl (tyX6_ok 6 (by decide)) rfl rfl (Nat.le_of_ble_eq_true rfl) dX6_clear_17 (fun H locs hP hD hS => ?_)
  have hP : va_P D vwCl [(mm, .inr (6, [.int 0, .ref m1, .ref m2, .int 0, .ref m3, .ref m4, .int 0, .ref m5, .ref m6, .ref m7, .ref m8, .int re, .int ro, .ref m9, .int tm])), (m4, .inl (cI, 2, .inl en))] H := hP
  have hD : va_D A [(mm, .inr (6, [.int 0, .ref m1, .ref m2, .int 0, .ref m3, .ref m4, .int 0, .ref m5, .ref m6, .ref m7, .ref m8, .int re, .int ro, .ref m9, .int tm])), (m4, .inl (cI, 2, .inl en))] := hD
  refine lv_aload_n hx hb dX6_clear_20 rfl (lv_at hl 1 rfl) ?_
  refine va_get (D := D) (ci := 6) (v := .ref m4) (C := RX6) (T := TX6) (N := 15) hx hb hts k6 hown hK.1 hP 0 rfl rfl 5 (by decide) (hts (.fieldLink RX6 19 "BoredPipesModel" "ends" "[I") (List.mem_of_getElem? (i := 4) rfl)) (fun _ h9 => h9) rfl dX6_clear_21 ?_
  refine lv_iconst (v := 0) hx hb dX6_clear_24 (by decide) ?_
  refine lv_iconst (v := 0) hx hb dX6_clear_25 (by decide) ?_
  refine iast_n (k := 0) hx hb hK.1 hP hD hS 1 rfl (by omega) (by decide) dX6_clear_26 (fun H locs hP hD hS => ?_)
  have hP : va_P D vwCl [(mm, .inr (6, [.int 0, .ref m1, .ref m2, .int 0, .ref m3, .ref m4, .int 0, .ref m5, .ref m6, .ref m7, .ref m8, .int re, .int ro, .ref m9, .int tm])), (m4, .inl (cI, 2, .inl (upd en 0 0)))] H := hP
  have hD : va_D A [(mm, .inr (6, [.int 0, .ref m1, .ref m2, .int 0, .ref m3, .ref m4, .int 0, .ref m5, .ref m6, .ref m7, .ref m8, .int re, .int ro, .ref m9, .int tm])), (m4, .inl (cI, 2, .inl (upd en 0 0)))] := hD
  refine lv_aload_n hx hb dX6_clear_27 rfl (lv_at hl 1 rfl) ?_
  refine va_get (D := D) (ci := 6) (v := .ref m4) (C := RX6) (T := TX6) (N := 15) hx hb hts k6 hown hK.1 hP 0 rfl rfl 5 (by decide) (hts (.fieldLink RX6 19 "BoredPipesModel" "ends" "[I") (List.mem_of_getElem? (i := 4) rfl)) (fun _ h9 => h9) rfl dX6_clear_28 ?_
  refine lv_iconst (v := 1) hx hb dX6_clear_31 (by decide) ?_
  refine lv_iconst (v := 0) hx hb dX6_clear_32 (by decide) ?_
  refine iast_n (k := 1) hx hb hK.1 hP hD hS 1 rfl (by omega) (by decide) dX6_clear_33 (fun H locs hP hD hS => ?_)
  have hP : va_P D vwCl [(mm, .inr (6, [.int 0, .ref m1, .ref m2, .int 0, .ref m3, .ref m4, .int 0, .ref m5, .ref m6, .ref m7, .ref m8, .int re, .int ro, .ref m9, .int tm])), (m4, .inl (cI, 2, .inl (upd (upd en 0 0) 1 0)))] H := hP
  have hD : va_D A [(mm, .inr (6, [.int 0, .ref m1, .ref m2, .int 0, .ref m3, .ref m4, .int 0, .ref m5, .ref m6, .ref m7, .ref m8, .int re, .int ro, .ref m9, .int tm])), (m4, .inl (cI, 2, .inl (upd (upd en 0 0) 1 0)))] := hD
  refine lv_aload_n hx hb dX6_clear_34 rfl (lv_at hl 1 rfl) ?_
  refine lv_iconst (v := 0) hx hb dX6_clear_35 (by decide) ?_
  refine va_put (D := D) (ci := 6) (v := .int 0) (ty := .int) (C := RX6) (T := TX6) (N := 15) hx hb hts k6 tyX6 tyX6_ok nmX6 hown hK.1 hP hD hS 0 rfl rfl 12 (by decide) (hts (.fieldLink RX6 85 "BoredPipesModel" "rounds" "I") (List.mem_of_getElem? (i := 5) rfl)) (fun _ h9 => h9) rfl (tyX6_ok 12 (by decide)) rfl rfl (Nat.le_of_ble_eq_true rfl) dX6_clear_36 (fun H locs hP hD hS => ?_)
  have hP : va_P D vwCl [(mm, .inr (6, [.int 0, .ref m1, .ref m2, .int 0, .ref m3, .ref m4, .int 0, .ref m5, .ref m6, .ref m7, .ref m8, .int re, .int 0, .ref m9, .int tm])), (m4, .inl (cI, 2, .inl (upd (upd en 0 0) 1 0)))] H := hP
  have hD : va_D A [(mm, .inr (6, [.int 0, .ref m1, .ref m2, .int 0, .ref m3, .ref m4, .int 0, .ref m5, .ref m6, .ref m7, .ref m8, .int re, .int 0, .ref m9, .int tm])), (m4, .inl (cI, 2, .inl (upd (upd en 0 0) 1 0)))] := hD
  refine lv_iload_n hx hb dX6_clear_39 rfl (lv_at hl 0 rfl) ?_
  exact ret_WI hQ hx hb hr hlk hAe () hP hS (show nI np = nI np from (by first | with_reducible rfl | (simp only []; done) | (simp []; done))).symm dX6_clear_40

set_option maxHeartbeats 4000000 in
set_option maxRecDepth 100000 in
theorem c_X6_told (l : Launch) (D : va_G) (cI cZ : ClassId) (mm : Nat) (m1 : Nat) (m2 : Nat) (m3 : Nat) (m4 : Nat) (m5 : Nat) (m6 : Nat) (m7 : Nat) (m8 : Nat) (m9 : Nat) (np : Nat) (nh : Nat) (nn : Nat) (re : Int32) (ro : Int32) (tm : Int32) (ln : Nat → Int32) (bo : Nat → Int32) (x : Int32) (y : Int32) (hnp : np ≤ 12) : Met l yX6_told wsX6_told rmX6_told (va_Pc [.ref mm, .int x, .int y] (PR D cI cZ [(mm, .inr (6, [.int (nI np), .ref m1, .ref m2, .int (nI nh), .ref m3, .ref m4, .int (nI nn), .ref m5, .ref m6, .ref m7, .ref m8, .int re, .int ro, .ref m9, .int tm])), (m1, .inl (cI, 12, .inl ln)), (m2, .inl (cI, 12, .inl bo))])) (RI (mTold x y np ln bo)) 0 0 nA := by
  refine met_go (cc := cX6_told) (maxL := 3) (ret := (some .int)) (by decide) rfl ?_ (Nat.le_of_ble_eq_true rfl)
  intro p e s m a below meth c Q hQ _ hx hb hr hml hts hown hlk hnm hpre ls hl
  have hown : s.vm.findClass RX6 = some m.cls := hown
  obtain ⟨hP, hK⟩ := hpre
  have hN := hK.2
  have hS : va_S nA s.heap s.heap [] := va_S.rf
  have hl : lv_has ls 3 [(0, .ref mm), (1, .int x), (2, .int y)] := hl
  have k6 : ∀ w ∈ wsX60, w ∈ wsX6_told := fun w h => List.mem_cons_of_mem _ (List.mem_append_right _ h)
  refine lv_iload_n hx hb dX6_told_0 rfl (lv_at hl 1 rfl) ?_
  refine lv_i2l hx hb dX6_told_1 rfl ?_
  refine lv_lconst (v := 0) hx hb dX6_told_2 (by decide) ?_
  refine lv_aload_n hx hb dX6_told_3 rfl (lv_at hl 0 rfl) ?_
  refine va_get (D := D) (ci := 6) (v := .int (nI np)) (C := RX6) (T := TX6) (N := 15) hx hb hts k6 hown hK.1 hP 0 rfl rfl 0 (by decide) (hts (.fieldLink RX6 42 "BoredPipesModel" "pieces" "I") (List.mem_of_getElem? (i := 1) rfl)) (fun _ h9 => h9) rfl dX6_told_4 ?_
  refine lv_iconst (v := 1) hx hb dX6_told_7 (by decide) ?_
  refine lv_isub hx hb dX6_told_8 ?_
  refine lv_i2l hx hb dX6_told_9 rfl ?_
  refine rd_i (va_runS (As := [.long x.toInt64, .long 0, .long (((nI np) - 1).toInt64)]) (rest := []) ⟨hx, hb, hml, hown, hts⟩ (c_X6_in l D cI cZ x.toInt64 0 (((nI np) - 1).toInt64)) (va_cwS 3 hts gX6_told_X6_in rfl rfl rfl hdV_X6_in.2 ⟨Nat.le_of_ble_eq_true rfl, Nat.le_of_ble_eq_true rfl⟩) (PR.S (hP.sub [] rfl) hK) rfl rfl hl.1 rfl (lv_room (Nat.le_of_ble_eq_true rfl)) dX6_told_10 ⟨Nat.le_of_ble_eq_true rfl, Nat.le_of_ble_eq_true rfl⟩) hP hS (fun H locs hP hS => ?_)
  refine lv_if_ne (tgt := 20) hx hb dX6_told_13 (by decide) (fun c1 => ?_) (fun c1 => ?_)
  · skip
    obtain ⟨k, hk, rfl⟩ := fInL_hole c1 (by omega)
    refine lv_iload_n hx hb dX6_told_20 rfl (lv_at hl 2 rfl) ?_
    refine lv_if_ne (tgt := 33) hx hb dX6_told_21 (by decide) (fun c2 => ?_) (fun c2 => ?_)
    · skip
      refine lv_iload_n hx hb dX6_told_33 rfl (lv_at hl 2 rfl) ?_
      refine lv_iconst (v := 1) hx hb dX6_told_34 (by decide) ?_
      refine lv_icmp_ne (tgt := 47) hx hb dX6_told_35 (by decide) (fun c3 => ?_) (fun c3 => ?_)
      · skip
        refine lv_sipush (v := (-1002)) hx hb dX6_told_47 (by decide) ?_
        exact ret_RI hQ hx hb hr hlk hS (show mTold (nI k) y np ln bo = (-1002) from (by first | with_reducible rfl | (simp only [mTold, nI_clamp (show k < 2147483648 from by omega), if_neg c1, if_neg c2, if_neg c3]; done) | (simp [mTold, nI_clamp (show k < 2147483648 from by omega), if_neg c1, if_neg c2, if_neg c3]; done))).symm dX6_told_50
      · skip
        refine lv_aload_n hx hb dX6_told_38 rfl (lv_at hl 0 rfl) ?_
        refine va_get (D := D) (ci := 6) (v := .ref m2) (C := RX6) (T := TX6) (N := 15) hx hb hts k6 hown hK.1 hP 0 rfl rfl 2 (by decide) (hts (.fieldLink RX6 13 "BoredPipesModel" "bores" "[I") (List.mem_of_getElem? (i := 3) rfl)) (fun _ h9 => h9) rfl dX6_told_39 ?_
        refine lv_iload_n hx hb dX6_told_42 rfl (lv_at hl 1 rfl) ?_
        refine iald_n (k := k) hx hb hK.1 hP 2 rfl (by omega) (by decide) dX6_told_43 ?_
        refine lv_goto (tgt := 50) hx hb dX6_told_44 (by decide) ?_
        exact ret_RI hQ hx hb hr hlk hS (show mTold (nI k) y np ln bo = bo k from (by first | with_reducible rfl | (simp only [mTold, nI_clamp (show k < 2147483648 from by omega), if_neg c1, if_neg c2, if_pos c3]; done) | (simp [mTold, nI_clamp (show k < 2147483648 from by omega), if_neg c1, if_neg c2, if_pos c3]; done))).symm dX6_told_50
    · skip
      refine lv_aload_n hx hb dX6_told_24 rfl (lv_at hl 0 rfl) ?_
      refine va_get (D := D) (ci := 6) (v := .ref m1) (C := RX6) (T := TX6) (N := 15) hx hb hts k6 hown hK.1 hP 0 rfl rfl 1 (by decide) (hts (.fieldLink RX6 7 "BoredPipesModel" "lengths" "[I") (List.mem_of_getElem? (i := 2) rfl)) (fun _ h9 => h9) rfl dX6_told_25 ?_
      refine lv_iload_n hx hb dX6_told_28 rfl (lv_at hl 1 rfl) ?_
      refine iald_n (k := k) hx hb hK.1 hP 1 rfl (by omega) (by decide) dX6_told_29 ?_
      refine lv_goto (tgt := 50) hx hb dX6_told_30 (by decide) ?_
      exact ret_RI hQ hx hb hr hlk hS (show mTold (nI k) y np ln bo = ln k from (by first | with_reducible rfl | (simp only [mTold, nI_clamp (show k < 2147483648 from by omega), if_neg c1, if_pos c2]; done) | (simp [mTold, nI_clamp (show k < 2147483648 from by omega), if_neg c1, if_pos c2]; done))).symm dX6_told_50
  · skip
    refine lv_sipush (v := (-1001)) hx hb dX6_told_16 (by decide) ?_
    exact ret_RI hQ hx hb hr hlk hS (show mTold x y np ln bo = (-1001) from (by first | with_reducible rfl | (simp only [mTold, if_pos c1]; done) | (simp [mTold, if_pos c1]; done))).symm dX6_told_19

set_option maxHeartbeats 4000000 in
set_option maxRecDepth 100000 in
theorem c_X6_bored (l : Launch) (D : va_G) (cI cZ : ClassId) (mm : Nat) (m1 : Nat) (m2 : Nat) (m3 : Nat) (m4 : Nat) (m5 : Nat) (m6 : Nat) (m7 : Nat) (m8 : Nat) (m9 : Nat) (np : Nat) (nh : Nat) (nn : Nat) (re : Int32) (ro : Int32) (tm : Int32) (ln : Nat → Int32) (bd : Nat → Int32) (x : Int32) (y : Int32) (hnp : np ≤ 12) (hnh : nh ≤ 6) (hn1 : 0 < nh → 1 ≤ np) (hpl : ∀ j, j < nh → bd (3 * j) ≤ fSum ln np 0 0) : Met l yX6_bored wsX6_bored rmX6_bored (va_Pc [.ref mm, .int x, .int y] (PR D cI cZ [(mm, .inr (6, [.int (nI np), .ref m1, .ref m2, .int (nI nh), .ref m3, .ref m4, .int (nI nn), .ref m5, .ref m6, .ref m7, .ref m8, .int re, .int ro, .ref m9, .int tm])), (m1, .inl (cI, 12, .inl ln)), (m3, .inl (cI, 18, .inl bd))])) (RI (mBored x y np nh ln bd)) 0 0 nA := by
  refine met_go (cc := cX6_bored) (maxL := 5) (ret := (some .int)) (by decide) rfl ?_ (Nat.le_of_ble_eq_true rfl)
  intro p e s m a below meth c Q hQ _ hx hb hr hml hts hown hlk hnm hpre ls hl
  have hown : s.vm.findClass RX6 = some m.cls := hown
  obtain ⟨hP, hK⟩ := hpre
  have hN := hK.2
  have hS : va_S nA s.heap s.heap [] := va_S.rf
  have hl : lv_has ls 5 [(0, .ref mm), (1, .int x), (2, .int y)] := hl
  have k6 : ∀ w ∈ wsX60, w ∈ wsX6_bored := fun w h => List.mem_cons_of_mem _ (List.mem_append_right _ h)
  refine lv_aload_n hx hb dX6_bored_0 rfl (lv_at hl 0 rfl) ?_
  refine lv_iload_n hx hb dX6_bored_1 rfl (lv_at hl 1 rfl) ?_
  refine rd_i (va_runV (As := [.int x]) (rest := []) ⟨hx, hb, hml, hown, hts⟩ (c_X6_isHole l D cI cZ mm m1 m2 m3 m4 m5 m6 m7 m8 m9 np nh nn re ro tm x) (cwV 1 hts gX6_bored_X6_isHole rfl rfl rfl hdV_X6_isHole ⟨Nat.le_of_ble_eq_true rfl, Nat.le_of_ble_eq_true rfl⟩) (PR.V (hP.sub [0] rfl) hK hP (q0 := 0) rfl rfl) rfl rfl hl.1 rfl (lv_room (Nat.le_of_ble_eq_true rfl)) dX6_bored_2 ⟨Nat.le_of_ble_eq_true rfl, Nat.le_of_ble_eq_true rfl⟩) hP hS (fun H locs hP hS => ?_)
  refine lv_if_ne (tgt := 12) hx hb dX6_bored_5 (by decide) (fun c1 => ?_) (fun c1 => ?_)
  · skip
    obtain ⟨k, hk, rfl⟩ := fInL_hole c1 (by omega)
    refine lv_iload_n hx hb dX6_bored_12 rfl (lv_at hl 2 rfl) ?_
    refine lv_i2l hx hb dX6_bored_13 rfl ?_
    refine lv_lconst (v := 0) hx hb dX6_bored_14 (by decide) ?_
    refine lv_ldc2 hx hb hown (hts (.constantLong RX6 88 (4)) (List.mem_of_getElem? (i := 1) rfl)) dX6_bored_15 ?_
    refine rd_i (va_runS (As := [.long y.toInt64, .long 0, .long 4]) (rest := []) ⟨hx, hb, hml, hown, hts⟩ (c_X6_in l D cI cZ y.toInt64 0 4) (va_cwS 3 hts gX6_bored_X6_in rfl rfl rfl hdV_X6_in.2 ⟨Nat.le_of_ble_eq_true rfl, Nat.le_of_ble_eq_true rfl⟩) (PR.S (hP.sub [] rfl) hK) rfl rfl hl.1 rfl (lv_room (Nat.le_of_ble_eq_true rfl)) dX6_bored_18 ⟨Nat.le_of_ble_eq_true rfl, Nat.le_of_ble_eq_true rfl⟩) hP hS (fun H locs hP hS => ?_)
    refine lv_if_ne (tgt := 28) hx hb dX6_bored_21 (by decide) (fun c2 => ?_) (fun c2 => ?_)
    · skip
      have hy0 := c2
      refine lv_iload_n hx hb dX6_bored_28 rfl (lv_at hl 2 rfl) ?_
      refine lv_iconst (v := 3) hx hb dX6_bored_29 (by decide) ?_
      refine lv_icmp_ge (tgt := 44) hx hb dX6_bored_30 (by decide) (fun c3 => ?_) (fun c3 => ?_)
      · skip
        refine lv_iconst (v := 0) hx hb dX6_bored_44 (by decide) ?_
        refine lv_istore_n (lv' := [(3, .int 0), (0, .ref mm), (1, .int (nI k)), (2, .int y)]) hx hb dX6_bored_45 rfl hl (by decide) rfl (fun ls hl => ?_)
        refine lv_iconst (v := 0) hx hb dX6_bored_46 (by decide) ?_
        refine lv_istore (lv' := [(4, .int 0), (3, .int 0), (0, .ref mm), (1, .int (nI k)), (2, .int y)]) hx hb dX6_bored_47 hl (by decide) rfl (fun ls hl => ?_)
        have lp_49 : ∀ (r : Nat) (i : Nat) (z : Int32), (i + r = nh) → (mNear bd k nh 0 0 = mNear bd k r i z) → ∀ (H : Heap) (locs : List Loc), va_P D vwCl [(mm, .inr (6, [.int (nI np), .ref m1, .ref m2, .int (nI nh), .ref m3, .ref m4, .int (nI nn), .ref m5, .ref m6, .ref m7, .ref m8, .int re, .int ro, .ref m9, .int tm])), (m1, .inl (cI, 12, .inl ln)), (m3, .inl (cI, 18, .inl bd))] H → va_S nA s.heap H locs → ∀ (ls : Array Slot), lv_has ls 5 [(4, .int (nI i)), (3, .int z), (0, .ref mm), (1, .int (nI k)), (2, .int y)] → W p l e rmX6_bored s m a below meth c H locs 0 0 Q (F0 m 49 ls []) := by
          intro r
          induction r with
          | zero =>
            intro i z hi hF H locs hP hS ls hl
            refine lv_iload hx hb dX6_bored_49 (lv_at hl 0 rfl) ?_
            refine lv_aload_n hx hb dX6_bored_51 rfl (lv_at hl 2 rfl) ?_
            refine va_get (D := D) (ci := 6) (v := .int (nI nh)) (C := RX6) (T := TX6) (N := 15) hx hb hts k6 hown hK.1 hP 0 rfl rfl 3 (by decide) (hts (.fieldLink RX6 67 "BoredPipesModel" "holes" "I") (List.mem_of_getElem? (i := 3) rfl)) (fun _ h9 => h9) rfl dX6_bored_52 ?_
            refine lv_icmp_ge (tgt := 92) hx hb dX6_bored_55 (by decide) (fun c4 => ?_) (fun c4 => absurd ((nI_le (a := nh) (b := i) (by omega) (by omega))) c4)
            have hG : mNear bd k nh 0 0 = z := hF.trans (by first | with_reducible rfl | (simp only [mBored, nI_clamp (show k < 2147483648 from by omega), mNear, if_neg c1, if_neg c2, if_pos c3, if_pos c4]; done) | (simp [mBored, nI_clamp (show k < 2147483648 from by omega), mNear, if_neg c1, if_neg c2, if_pos c3, if_pos c4]; done))
            refine lv_iload_n hx hb dX6_bored_92 rfl (lv_at hl 4 rfl) ?_
            refine lv_iconst (v := 3) hx hb dX6_bored_93 (by decide) ?_
            refine lv_icmp_ne (tgt := 112) hx hb dX6_bored_94 (by decide) (fun c5 => ?_) (fun c5 => ?_)
            · skip
              refine lv_iload_n hx hb dX6_bored_112 rfl (lv_at hl 1 rfl) ?_
              exact ret_RI hQ hx hb hr hlk hS (show mBored (nI k) y np nh ln bd = z from (by first | with_reducible rfl | (simp only [mBored, nI_clamp (show k < 2147483648 from by omega), mNear, hG, if_neg c1, if_neg c2, if_pos c3, if_pos c4, if_neg c5]; done) | (simp [mBored, nI_clamp (show k < 2147483648 from by omega), mNear, hG, if_neg c1, if_neg c2, if_pos c3, if_pos c4, if_neg c5]; done))).symm dX6_bored_113
            · skip
              refine lv_aload_n hx hb dX6_bored_97 rfl (lv_at hl 2 rfl) ?_
              refine lv_aload_n hx hb dX6_bored_98 rfl (lv_at hl 2 rfl) ?_
              refine va_get (D := D) (ci := 6) (v := .ref m3) (C := RX6) (T := TX6) (N := 15) hx hb hts k6 hown hK.1 hP 0 rfl rfl 4 (by decide) (hts (.fieldLink RX6 16 "BoredPipesModel" "bored" "[I") (List.mem_of_getElem? (i := 2) rfl)) (fun _ h9 => h9) rfl dX6_bored_99 ?_
              refine lv_iconst (v := 3) hx hb dX6_bored_102 (by decide) ?_
              refine lv_iload_n hx hb dX6_bored_103 rfl (lv_at hl 3 rfl) ?_
              refine nn_imul hx hb dX6_bored_104 (x := 3) (y := k) rfl rfl ?_
              refine iald_n (k := (3 * k)) hx hb hK.1 hP 2 rfl (by omega) (by decide) dX6_bored_105 ?_
              refine rd_i (va_runV (As := [.int (bd (3 * k))]) (rest := []) ⟨hx, hb, hml, hown, hts⟩ (c_X6_pieceOf l D cI cZ mm m1 m2 m3 m4 m5 m6 m7 m8 m9 np nh nn re ro tm ln (bd (3 * k)) (by first | omega | exact hnp) (hn1 (by omega)) (hpl k hk)) (cwV 1 hts gX6_bored_X6_pieceOf rfl rfl rfl hdV_X6_pieceOf ⟨Nat.le_of_ble_eq_true rfl, Nat.le_of_ble_eq_true rfl⟩) (PR.V (hP.sub [0, 1] rfl) hK hP (q0 := 0) rfl rfl) rfl rfl hl.1 rfl (lv_room (Nat.le_of_ble_eq_true rfl)) dX6_bored_106 ⟨Nat.le_of_ble_eq_true rfl, Nat.le_of_ble_eq_true rfl⟩) hP hS (fun H locs hP hS => ?_)
              refine lv_goto (tgt := 113) hx hb dX6_bored_109 (by decide) ?_
              exact ret_RI hQ hx hb hr hlk hS (show mBored (nI k) y np nh ln bd = mPieceOf ln (bd (3 * k)) (np - 1) 0 (ln 0) from (by first | with_reducible rfl | (simp only [mBored, nI_clamp (show k < 2147483648 from by omega), mNear, hG, if_neg c1, if_neg c2, if_pos c3, if_pos c4, if_pos c5]; done) | (simp [mBored, nI_clamp (show k < 2147483648 from by omega), mNear, hG, if_neg c1, if_neg c2, if_pos c3, if_pos c4, if_pos c5]; done))).symm dX6_bored_113
          | succ r ih_49 =>
            intro i z hi hF H locs hP hS ls hl
            refine lv_iload hx hb dX6_bored_49 (lv_at hl 0 rfl) ?_
            refine lv_aload_n hx hb dX6_bored_51 rfl (lv_at hl 2 rfl) ?_
            refine va_get (D := D) (ci := 6) (v := .int (nI nh)) (C := RX6) (T := TX6) (N := 15) hx hb hts k6 hown hK.1 hP 0 rfl rfl 3 (by decide) (hts (.fieldLink RX6 67 "BoredPipesModel" "holes" "I") (List.mem_of_getElem? (i := 3) rfl)) (fun _ h9 => h9) rfl dX6_bored_52 ?_
            refine lv_icmp_ge (tgt := 92) hx hb dX6_bored_55 (by decide) (fun c6 => absurd c6 ((nI_ge (a := i) (b := nh) (by omega) (by omega)))) (fun c6 => ?_)
            refine lv_iload_n hx hb dX6_bored_58 rfl (lv_at hl 1 rfl) ?_
            refine lv_aload_n hx hb dX6_bored_59 rfl (lv_at hl 2 rfl) ?_
            refine va_get (D := D) (ci := 6) (v := .ref m3) (C := RX6) (T := TX6) (N := 15) hx hb hts k6 hown hK.1 hP 0 rfl rfl 4 (by decide) (hts (.fieldLink RX6 16 "BoredPipesModel" "bored" "[I") (List.mem_of_getElem? (i := 2) rfl)) (fun _ h9 => h9) rfl dX6_bored_60 ?_
            refine lv_iconst (v := 3) hx hb dX6_bored_63 (by decide) ?_
            refine lv_iload hx hb dX6_bored_64 (lv_at hl 0 rfl) ?_
            refine nn_imul hx hb dX6_bored_66 (x := 3) (y := i) rfl rfl ?_
            refine iald_n (k := (3 * i)) hx hb hK.1 hP 2 rfl (by omega) (by decide) dX6_bored_67 ?_
            refine lv_aload_n hx hb dX6_bored_68 rfl (lv_at hl 2 rfl) ?_
            refine va_get (D := D) (ci := 6) (v := .ref m3) (C := RX6) (T := TX6) (N := 15) hx hb hts k6 hown hK.1 hP 0 rfl rfl 4 (by decide) (hts (.fieldLink RX6 16 "BoredPipesModel" "bored" "[I") (List.mem_of_getElem? (i := 2) rfl)) (fun _ h9 => h9) rfl dX6_bored_69 ?_
            refine lv_iconst (v := 3) hx hb dX6_bored_72 (by decide) ?_
            refine lv_iload_n hx hb dX6_bored_73 rfl (lv_at hl 3 rfl) ?_
            refine nn_imul hx hb dX6_bored_74 (x := 3) (y := k) rfl rfl ?_
            refine iald_n (k := (3 * k)) hx hb hK.1 hP 2 rfl (by omega) (by decide) dX6_bored_75 ?_
            have jn_76 : ∀ (H : Heap) (locs : List Loc), va_P D vwCl [(mm, .inr (6, [.int (nI np), .ref m1, .ref m2, .int (nI nh), .ref m3, .ref m4, .int (nI nn), .ref m5, .ref m6, .ref m7, .ref m8, .int re, .int ro, .ref m9, .int tm])), (m1, .inl (cI, 12, .inl ln)), (m3, .inl (cI, 18, .inl bd))] H → va_S nA s.heap H locs → W p l e rmX6_bored s m a below meth c H locs 0 0 Q (F0 m 84 ls [.int (if (bd (3 * k)) ≤ (bd (3 * i)) then 0 else 1), .int z]) := by
              intro H locs hP hS
              refine lv_iadd hx hb dX6_bored_84 ?_
              refine lv_istore_n (lv' := [(3, .int (z + (if (bd (3 * k)) ≤ (bd (3 * i)) then 0 else 1))), (4, .int (nI i)), (0, .ref mm), (1, .int (nI k)), (2, .int y)]) hx hb dX6_bored_85 rfl hl (by decide) rfl (fun ls hl => ?_)
              refine lv_iinc (v := nI (i + 1)) (lv' := [(4, .int (nI (i + 1))), (3, .int (z + (if (bd (3 * k)) ≤ (bd (3 * i)) then 0 else 1))), (0, .ref mm), (1, .int (nI k)), (2, .int y)]) hx hb dX6_bored_86 hl (k := 1) rfl (iinc_1 i) (by decide) rfl (fun ls hl => ?_)
              refine lv_goto (tgt := 49) hx hb dX6_bored_89 (by decide) ?_
              exact ih_49 (i + 1) (z + (if (bd (3 * k)) ≤ (bd (3 * i)) then 0 else 1)) (by omega) (hF.trans (by first | with_reducible rfl | (simp only [mBored, nI_clamp (show k < 2147483648 from by omega), mNear, if_neg c1, if_neg c2, if_pos c3, if_neg c6]; done) | (simp [mBored, nI_clamp (show k < 2147483648 from by omega), mNear, if_neg c1, if_neg c2, if_pos c3, if_neg c6]; done))) _ _ hP hS ls (lv_sub hl [0, 1, 2, 3, 4] rfl)
            refine lv_icmp_ge (tgt := 83) hx hb dX6_bored_76 (by decide) (fun c7 => ?_) (fun c7 => ?_)
            · skip
              refine lv_iconst (v := 0) hx hb dX6_bored_83 (by decide) ?_
              exact lv_eqi (if_pos c7).symm (jn_76 _ _ hP hS)
            · skip
              refine lv_iconst (v := 1) hx hb dX6_bored_79 (by decide) ?_
              refine lv_goto (tgt := 84) hx hb dX6_bored_80 (by decide) ?_
              exact lv_eqi (if_neg c7).symm (jn_76 _ _ hP hS)
        exact lp_49 nh 0 0 (by omega) rfl _ _ hP hS ls (lv_sub hl [0, 1, 2, 3, 4] rfl)
      · skip
        have hyc := c3
        obtain ⟨j, -, hj, rfl⟩ := fInL_rng (a := 0) (b := 4) hy0 (by decide) (by decide)
        refine lv_aload_n hx hb dX6_bored_33 rfl (lv_at hl 0 rfl) ?_
        refine va_get (D := D) (ci := 6) (v := .ref m3) (C := RX6) (T := TX6) (N := 15) hx hb hts k6 hown hK.1 hP 0 rfl rfl 4 (by decide) (hts (.fieldLink RX6 16 "BoredPipesModel" "bored" "[I") (List.mem_of_getElem? (i := 2) rfl)) (fun _ h9 => h9) rfl dX6_bored_34 ?_
        refine lv_iconst (v := 3) hx hb dX6_bored_37 (by decide) ?_
        refine lv_iload_n hx hb dX6_bored_38 rfl (lv_at hl 1 rfl) ?_
        refine nn_imul hx hb dX6_bored_39 (x := 3) (y := k) rfl rfl ?_
        refine lv_iload_n hx hb dX6_bored_40 rfl (lv_at hl 2 rfl) ?_
        refine nn_iadd hx hb dX6_bored_41 (x := (3 * k)) (y := j) rfl rfl ?_
        have hj3 := nI_lt3 (by omega) hyc
        refine iald_n (k := ((3 * k) + j)) hx hb hK.1 hP 2 rfl (by omega) (by decide) dX6_bored_42 ?_
        exact ret_RI hQ hx hb hr hlk hS (show mBored (nI k) (nI j) np nh ln bd = bd ((3 * k) + j) from (by first | with_reducible rfl | (simp only [mBored, nI_clamp (show k < 2147483648 from by omega), nI_clamp (show j < 2147483648 from by omega), if_neg c1, if_neg c2, if_neg c3]; done) | (simp [mBored, nI_clamp (show k < 2147483648 from by omega), nI_clamp (show j < 2147483648 from by omega), if_neg c1, if_neg c2, if_neg c3]; done))).symm dX6_bored_43
    · skip
      refine lv_sipush (v := (-1002)) hx hb dX6_bored_24 (by decide) ?_
      exact ret_RI hQ hx hb hr hlk hS (show mBored (nI k) y np nh ln bd = (-1002) from (by first | with_reducible rfl | (simp only [mBored, nI_clamp (show k < 2147483648 from by omega), if_neg c1, if_pos c2]; done) | (simp [mBored, nI_clamp (show k < 2147483648 from by omega), if_neg c1, if_pos c2]; done))).symm dX6_bored_27
  · skip
    refine lv_sipush (v := (-1001)) hx hb dX6_bored_8 (by decide) ?_
    exact ret_RI hQ hx hb hr hlk hS (show mBored x y np nh ln bd = (-1001) from (by first | with_reducible rfl | (simp only [mBored, if_pos c1]; done) | (simp [mBored, if_pos c1]; done))).symm dX6_bored_11
