set_option maxHeartbeats 4000000 in
set_option maxRecDepth 100000 in
theorem c_J13_bitCount_95d88 (l : Launch) (D : va_G) (cI cZ : ClassId) (v : Int64)  : Met l yJ13_bitCount_95d88 wsJ13_bitCount_95d88 rmJ13_bitCount_95d88 (va_Pc [.long v] (PR D cI cZ [])) (RI (fBit v)) 0 0 nA := by
  refine met_go (cc := cJ13_bitCount_95d88) (maxL := 2) (ret := (some .int)) (by decide) rfl ?_ (Nat.le_of_ble_eq_true rfl)
  intro p e s m a below meth c Q hQ _ hx hb hr hml hts hown hlk hnm hpre ls hl
  have hown : s.vm.findClass RJ13 = some m.cls := hown
  obtain ⟨hP, hK⟩ := hpre
  have hN := hK.2
  have hS : va_S nA s.heap s.heap [] := va_S.rf
  have hl : lv_has ls 2 [(0, .long v)] := hl
  refine lv_lload_n hx hb dJ13_bitCount_95d88_0 rfl (lv_at hl 0 rfl) ?_
  refine lv_lload_n hx hb dJ13_bitCount_95d88_1 rfl (lv_at hl 0 rfl) ?_
  refine lv_iconst (v := 1) hx hb dJ13_bitCount_95d88_2 (by decide) ?_
  refine lv_lushr hx hb dJ13_bitCount_95d88_3 rfl ?_
  refine lv_ldc2 hx hb hown (hts (.constantLong RJ13 314 (6148914691236517205)) (List.mem_of_getElem? (i := 1) rfl)) dJ13_bitCount_95d88_4 ?_
  refine lv_land hx hb dJ13_bitCount_95d88_7 ?_
  refine lv_lsub hx hb dJ13_bitCount_95d88_8 ?_
  refine lv_eqj (y := fBit1 v) rfl ?_
  refine lv_lstore_n (lv' := [(0, .long (fBit1 v))]) hx hb dJ13_bitCount_95d88_9 rfl hl (by decide) rfl (fun ls hl => ?_)
  refine lv_lload_n hx hb dJ13_bitCount_95d88_10 rfl (lv_at hl 0 rfl) ?_
  refine lv_ldc2 hx hb hown (hts (.constantLong RJ13 316 (3689348814741910323)) (List.mem_of_getElem? (i := 2) rfl)) dJ13_bitCount_95d88_11 ?_
  refine lv_land hx hb dJ13_bitCount_95d88_14 ?_
  refine lv_lload_n hx hb dJ13_bitCount_95d88_15 rfl (lv_at hl 0 rfl) ?_
  refine lv_iconst (v := 2) hx hb dJ13_bitCount_95d88_16 (by decide) ?_
  refine lv_lushr hx hb dJ13_bitCount_95d88_17 rfl ?_
  refine lv_ldc2 hx hb hown (hts (.constantLong RJ13 316 (3689348814741910323)) (List.mem_of_getElem? (i := 2) rfl)) dJ13_bitCount_95d88_18 ?_
  refine lv_land hx hb dJ13_bitCount_95d88_21 ?_
  refine lv_ladd hx hb dJ13_bitCount_95d88_22 ?_
  refine lv_eqj (y := fBit2 (fBit1 v)) rfl ?_
  refine lv_lstore_n (lv' := [(0, .long (fBit2 (fBit1 v)))]) hx hb dJ13_bitCount_95d88_23 rfl hl (by decide) rfl (fun ls hl => ?_)
  refine lv_lload_n hx hb dJ13_bitCount_95d88_24 rfl (lv_at hl 0 rfl) ?_
  refine lv_lload_n hx hb dJ13_bitCount_95d88_25 rfl (lv_at hl 0 rfl) ?_
  refine lv_iconst (v := 4) hx hb dJ13_bitCount_95d88_26 (by decide) ?_
  refine lv_lushr hx hb dJ13_bitCount_95d88_27 rfl ?_
  refine lv_ladd hx hb dJ13_bitCount_95d88_28 ?_
  refine lv_ldc2 hx hb hown (hts (.constantLong RJ13 318 (1085102592571150095)) (List.mem_of_getElem? (i := 3) rfl)) dJ13_bitCount_95d88_29 ?_
  refine lv_land hx hb dJ13_bitCount_95d88_32 ?_
  refine lv_eqj (y := fBit3 (fBit2 (fBit1 v))) rfl ?_
  refine lv_lstore_n (lv' := [(0, .long (fBit3 (fBit2 (fBit1 v))))]) hx hb dJ13_bitCount_95d88_33 rfl hl (by decide) rfl (fun ls hl => ?_)
  refine lv_lload_n hx hb dJ13_bitCount_95d88_34 rfl (lv_at hl 0 rfl) ?_
  refine lv_lload_n hx hb dJ13_bitCount_95d88_35 rfl (lv_at hl 0 rfl) ?_
  refine lv_bipush (v := 8) hx hb dJ13_bitCount_95d88_36 (by decide) ?_
  refine lv_lushr hx hb dJ13_bitCount_95d88_38 rfl ?_
  refine lv_ladd hx hb dJ13_bitCount_95d88_39 ?_
  refine lv_eqj (y := fBit4 (fBit3 (fBit2 (fBit1 v)))) rfl ?_
  refine lv_lstore_n (lv' := [(0, .long (fBit4 (fBit3 (fBit2 (fBit1 v)))))]) hx hb dJ13_bitCount_95d88_40 rfl hl (by decide) rfl (fun ls hl => ?_)
  refine lv_lload_n hx hb dJ13_bitCount_95d88_41 rfl (lv_at hl 0 rfl) ?_
  refine lv_lload_n hx hb dJ13_bitCount_95d88_42 rfl (lv_at hl 0 rfl) ?_
  refine lv_bipush (v := 16) hx hb dJ13_bitCount_95d88_43 (by decide) ?_
  refine lv_lushr hx hb dJ13_bitCount_95d88_45 rfl ?_
  refine lv_ladd hx hb dJ13_bitCount_95d88_46 ?_
  refine lv_eqj (y := fBit5 (fBit4 (fBit3 (fBit2 (fBit1 v))))) rfl ?_
  refine lv_lstore_n (lv' := [(0, .long (fBit5 (fBit4 (fBit3 (fBit2 (fBit1 v))))))]) hx hb dJ13_bitCount_95d88_47 rfl hl (by decide) rfl (fun ls hl => ?_)
  refine lv_lload_n hx hb dJ13_bitCount_95d88_48 rfl (lv_at hl 0 rfl) ?_
  refine lv_lload_n hx hb dJ13_bitCount_95d88_49 rfl (lv_at hl 0 rfl) ?_
  refine lv_bipush (v := 32) hx hb dJ13_bitCount_95d88_50 (by decide) ?_
  refine lv_lushr hx hb dJ13_bitCount_95d88_52 rfl ?_
  refine lv_ladd hx hb dJ13_bitCount_95d88_53 ?_
  refine lv_eqj (y := fBit6 (fBit5 (fBit4 (fBit3 (fBit2 (fBit1 v)))))) rfl ?_
  refine lv_lstore_n (lv' := [(0, .long (fBit6 (fBit5 (fBit4 (fBit3 (fBit2 (fBit1 v)))))))]) hx hb dJ13_bitCount_95d88_54 rfl hl (by decide) rfl (fun ls hl => ?_)
  refine lv_lload_n hx hb dJ13_bitCount_95d88_55 rfl (lv_at hl 0 rfl) ?_
  refine lv_l2i hx hb dJ13_bitCount_95d88_56 rfl ?_
  refine lv_bipush (v := 127) hx hb dJ13_bitCount_95d88_57 (by decide) ?_
  refine lv_iand hx hb dJ13_bitCount_95d88_59 ?_
  exact ret_RI hQ hx hb hr hlk hS (show fBit v = ((fBit6 (fBit5 (fBit4 (fBit3 (fBit2 (fBit1 v)))))).toInt32) &&& 127 from (by first | with_reducible rfl | (simp only [fBit]; done) | (simp [fBit]; done))).symm dJ13_bitCount_95d88_60

set_option maxHeartbeats 4000000 in
set_option maxRecDepth 100000 in
theorem c_X5_mayBe (l : Launch) (D : va_G) (cI cZ : ClassId) (o : Nat) (h : Nat) (ja : Nat) (jb : Nat) (t : Nat) (n : Nat) (g : Nat) (dr : Int64) (re : Int32) (ro : Int32) (h1 : Nat) (h2 : Nat) (h3 : Nat) (h4 : Nat) (h5 : Nat) (np : Nat) (nh : Nat) (mo : Int32) (fa : Int32) (ln : Nat → Int32) (x : Int32) (v : Int32) (hnp : np ≤ 12) : Met l yX5_mayBe wsX5_mayBe rmX5_mayBe (va_Pc [.ref o, .int x, .int v] (PR D cI cZ [(o, .inr (5, [.ref h, .ref ja, .ref jb, .ref t, .ref n, .ref g, .long dr, .int re, .int ro])), (h, .inr (2, [.ref h1, .ref h2, .ref h3, .ref h4, .ref h5, .int (nI np), .int (nI nh), .int mo, .int fa])), (h1, .inl (cI, 12, .inl ln))])) (RI (xMay x v (fSum ln np 0 0))) 0 0 nA := by
  refine met_go (cc := cX5_mayBe) (maxL := 3) (ret := (some .boolean)) (by decide) rfl ?_ (Nat.le_of_ble_eq_true rfl)
  intro p e s m a below meth c Q hQ _ hx hb hr hml hts hown hlk hnm hpre ls hl
  have hown : s.vm.findClass RX5 = some m.cls := hown
  obtain ⟨hP, hK⟩ := hpre
  have hN := hK.2
  have hS : va_S nA s.heap s.heap [] := va_S.rf
  have hl : lv_has ls 3 [(0, .ref o), (1, .int x), (2, .int v)] := hl
  have k5 : ∀ w ∈ wsX50, w ∈ wsX5_mayBe := fun w h => List.mem_cons_of_mem _ (List.mem_append_left _ (List.mem_append_right _ h))
  refine lv_iload_n hx hb dX5_mayBe_0 rfl (lv_at hl 1 rfl) ?_
  by_cases c1 : x = 0
  · refine lv_tableIn (off := 27) (tgt := 28) hx hb dX5_mayBe_1 (by rw [c1]; decide) (by rw [c1]; decide) (by rw [c1]; rfl) (by decide) ?_
    refine lv_iload_n hx hb dX5_mayBe_28 rfl (lv_at hl 2 rfl) ?_
    refine lv_iconst (v := 1) hx hb dX5_mayBe_29 (by decide) ?_
    refine lv_aload_n hx hb dX5_mayBe_30 rfl (lv_at hl 0 rfl) ?_
    refine va_get (D := D) (ci := 5) (v := .ref h) (C := RX5) (T := TX5) (N := 9) hx hb hts k5 hown hK.1 hP 0 rfl rfl 0 (by decide) (hts (.fieldLink RX5 12 "BoredPipes" "pipe" "LBoredPipes$Pipe;") (List.mem_of_getElem? (i := 1) rfl)) (fun _ h9 => h9) rfl dX5_mayBe_31 ?_
    refine rd_i (va_runV (As := []) (rest := [.int 1, .int v]) ⟨hx, hb, hml, hown, hts⟩ (c_X2_wholeLength l D cI cZ h h1 h2 h3 h4 h5 np nh mo fa ln (by first | omega | exact hnp)) (cwV 0 hts gX5_mayBe_X2_wholeLength rfl rfl rfl hdV_X2_wholeLength ⟨Nat.le_of_ble_eq_true rfl, Nat.le_of_ble_eq_true rfl⟩) (PR.V (hP.sub [1, 2] rfl) hK hP (q0 := 1) rfl rfl) rfl rfl hl.1 rfl (lv_room (Nat.le_of_ble_eq_true rfl)) dX5_mayBe_34 ⟨Nat.le_of_ble_eq_true rfl, Nat.le_of_ble_eq_true rfl⟩) hP hS (fun H locs hP hS => ?_)
    refine lv_iconst (v := 1) hx hb dX5_mayBe_37 (by decide) ?_
    refine lv_isub hx hb dX5_mayBe_38 ?_
    refine rd_i (va_runS (As := [.int v, .int 1, .int ((fSum ln np 0 0) - 1)]) (rest := []) ⟨hx, hb, hml, hown, hts⟩ (c_X5_within l D cI cZ v 1 ((fSum ln np 0 0) - 1)) (va_cwS 3 hts gX5_mayBe_X5_within rfl rfl rfl hdV_X5_within.2 ⟨Nat.le_of_ble_eq_true rfl, Nat.le_of_ble_eq_true rfl⟩) (PR.S (hP.sub [] rfl) hK) rfl rfl hl.1 rfl (lv_room (Nat.le_of_ble_eq_true rfl)) dX5_mayBe_39 ⟨Nat.le_of_ble_eq_true rfl, Nat.le_of_ble_eq_true rfl⟩) hP hS (fun H locs hP hS => ?_)
    exact ret_RZ hQ hx hb hr (nar_fIn _ _ _) hlk hS (show xMay x v (fSum ln np 0 0) = fIn v 1 ((fSum ln np 0 0) - 1) from (by first | with_reducible rfl | (simp only [xMay, if_pos c1]; done) | (simp [xMay, if_pos c1]; done))).symm dX5_mayBe_42
  by_cases c2 : x = 1
  · refine lv_tableIn (off := 42) (tgt := 43) hx hb dX5_mayBe_1 (by rw [c2]; decide) (by rw [c2]; decide) (by rw [c2]; rfl) (by decide) ?_
    refine lv_iload_n hx hb dX5_mayBe_43 rfl (lv_at hl 2 rfl) ?_
    refine lv_iconst (v := 1) hx hb dX5_mayBe_44 (by decide) ?_
    refine lv_bipush (v := 60) hx hb dX5_mayBe_45 (by decide) ?_
    refine rd_i (va_runS (As := [.int v, .int 1, .int 60]) (rest := []) ⟨hx, hb, hml, hown, hts⟩ (c_X5_within l D cI cZ v 1 60) (va_cwS 3 hts gX5_mayBe_X5_within rfl rfl rfl hdV_X5_within.2 ⟨Nat.le_of_ble_eq_true rfl, Nat.le_of_ble_eq_true rfl⟩) (PR.S (hP.sub [] rfl) hK) rfl rfl hl.1 rfl (lv_room (Nat.le_of_ble_eq_true rfl)) dX5_mayBe_47 ⟨Nat.le_of_ble_eq_true rfl, Nat.le_of_ble_eq_true rfl⟩) hP hS (fun H locs hP hS => ?_)
    exact ret_RZ hQ hx hb hr (nar_fIn _ _ _) hlk hS (show xMay x v (fSum ln np 0 0) = fIn v 1 60 from (by first | with_reducible rfl | (simp only [xMay, if_neg c1, if_pos c2]; done) | (simp [xMay, if_neg c1, if_pos c2]; done))).symm dX5_mayBe_50
  by_cases c3 : x = 2
  · refine lv_tableIn (off := 50) (tgt := 51) hx hb dX5_mayBe_1 (by rw [c3]; decide) (by rw [c3]; decide) (by rw [c3]; rfl) (by decide) ?_
    refine lv_iload_n hx hb dX5_mayBe_51 rfl (lv_at hl 2 rfl) ?_
    refine lv_iconst (v := 0) hx hb dX5_mayBe_52 (by decide) ?_
    refine lv_bipush (v := 60) hx hb dX5_mayBe_53 (by decide) ?_
    refine rd_i (va_runS (As := [.int v, .int 0, .int 60]) (rest := []) ⟨hx, hb, hml, hown, hts⟩ (c_X5_within l D cI cZ v 0 60) (va_cwS 3 hts gX5_mayBe_X5_within rfl rfl rfl hdV_X5_within.2 ⟨Nat.le_of_ble_eq_true rfl, Nat.le_of_ble_eq_true rfl⟩) (PR.S (hP.sub [] rfl) hK) rfl rfl hl.1 rfl (lv_room (Nat.le_of_ble_eq_true rfl)) dX5_mayBe_55 ⟨Nat.le_of_ble_eq_true rfl, Nat.le_of_ble_eq_true rfl⟩) hP hS (fun H locs hP hS => ?_)
    exact ret_RZ hQ hx hb hr (nar_fIn _ _ _) hlk hS (show xMay x v (fSum ln np 0 0) = fIn v 0 60 from (by first | with_reducible rfl | (simp only [xMay, if_neg c1, if_neg c2, if_pos c3]; done) | (simp [xMay, if_neg c1, if_neg c2, if_pos c3]; done))).symm dX5_mayBe_58
  refine lv_tableOut (tgt := 59) hx hb dX5_mayBe_1 (by have z0 := lv_neT (a := 0) c1 (by decide); have z1 := lv_neT (a := 1) c2 (by decide); have z2 := lv_neT (a := 2) c3 (by decide); omega) (by decide) ?_
  refine lv_iconst (v := 0) hx hb dX5_mayBe_59 (by decide) ?_
  exact ret_RZ hQ hx hb hr rfl hlk hS (show xMay x v (fSum ln np 0 0) = 0 from (by first | with_reducible rfl | (simp only [xMay, if_neg c1, if_neg c2, if_neg c3]; done) | (simp [xMay, if_neg c1, if_neg c2, if_neg c3]; done))).symm dX5_mayBe_60

set_option maxHeartbeats 4000000 in
set_option maxRecDepth 100000 in
theorem c_X5_piece (l : Launch) (D : va_G) (cI cZ : ClassId) (o : Nat) (h : Nat) (ja : Nat) (jb : Nat) (t : Nat) (n : Nat) (g : Nat) (dr : Int64) (re : Int32) (ro : Int32) (h1 : Nat) (h2 : Nat) (h3 : Nat) (h4 : Nat) (h5 : Nat) (np : Nat) (nh : Nat) (mo : Int32) (fa : Int32) (ln : Nat → Int32) (bo : Nat → Int32) (x : Int32) (y : Int32) (hnp : np ≤ 12) : Met l yX5_piece wsX5_piece rmX5_piece (va_Pc [.ref o, .int x, .int y] (PW D cI cZ [(o, .inr (5, [.ref h, .ref ja, .ref jb, .ref t, .ref n, .ref g, .long dr, .int re, .int ro])), (h, .inr (2, [.ref h1, .ref h2, .ref h3, .ref h4, .ref h5, .int (nI np), .int (nI nh), .int mo, .int fa])), (h1, .inl (cI, 12, .inl ln)), (h2, .inl (cI, 12, .inl bo))])) (WI (S := Unit) D (fun zr _ => zr = (xPiece x y np ln bo).1) (fun _ => [(o, .inr (5, [.ref h, .ref ja, .ref jb, .ref t, .ref n, .ref g, .long dr, .int re, .int ro])), (h, .inr (2, [.ref h1, .ref h2, .ref h3, .ref h4, .ref h5, .int (nI ((xPiece x y np ln bo).2.1)), .int (nI nh), .int mo, .int fa])), (h1, .inl (cI, 12, .inl ((xPiece x y np ln bo).2.2.1))), (h2, .inl (cI, 12, .inl ((xPiece x y np ln bo).2.2.2)))]) [(o, .inr (5, [.ref h, .ref ja, .ref jb, .ref t, .ref n, .ref g, .long dr, .int re, .int ro])), (h, .inr (2, [.ref h1, .ref h2, .ref h3, .ref h4, .ref h5, .int (nI np), .int (nI nh), .int mo, .int fa])), (h1, .inl (cI, 12, .inl ln)), (h2, .inl (cI, 12, .inl bo))]) 0 0 (ad [(o, .inr (5, [.ref h, .ref ja, .ref jb, .ref t, .ref n, .ref g, .long dr, .int re, .int ro])), (h, .inr (2, [.ref h1, .ref h2, .ref h3, .ref h4, .ref h5, .int (nI np), .int (nI nh), .int mo, .int fa])), (h1, .inl (cI, 12, .inl ln)), (h2, .inl (cI, 12, .inl bo))]) := by
  refine met_go (cc := cX5_piece) (maxL := 3) (ret := (some .int)) (by decide) rfl ?_ (Nat.le_of_ble_eq_true rfl)
  intro p e s m a below meth c Q hQ _ hx hb hr hml hts hown hlk hnm hpre ls hl
  have hown : s.vm.findClass RX5 = some m.cls := hown
  obtain ⟨hP, hK, hD0⟩ := hpre
  have hN := hK.2
  obtain ⟨A, hAe⟩ : ∃ A : Nat → Prop, A = ad [(o, .inr (5, [.ref h, .ref ja, .ref jb, .ref t, .ref n, .ref g, .long dr, .int re, .int ro])), (h, .inr (2, [.ref h1, .ref h2, .ref h3, .ref h4, .ref h5, .int (nI np), .int (nI nh), .int mo, .int fa])), (h1, .inl (cI, 12, .inl ln)), (h2, .inl (cI, 12, .inl bo))] := ⟨_, rfl⟩
  have hD : va_D A [(o, .inr (5, [.ref h, .ref ja, .ref jb, .ref t, .ref n, .ref g, .long dr, .int re, .int ro])), (h, .inr (2, [.ref h1, .ref h2, .ref h3, .ref h4, .ref h5, .int (nI np), .int (nI nh), .int mo, .int fa])), (h1, .inl (cI, 12, .inl ln)), (h2, .inl (cI, 12, .inl bo))] := by rw [hAe]; exact hD0.ad
  have hS : va_S A s.heap s.heap [] := va_S.rf
  have hl : lv_has ls 3 [(0, .ref o), (1, .int x), (2, .int y)] := hl
  have k2 : ∀ w ∈ wsX20, w ∈ wsX5_piece := fun w h => List.mem_cons_of_mem _ (List.mem_append_right _ h)
  have k5 : ∀ w ∈ wsX50, w ∈ wsX5_piece := fun w h => List.mem_cons_of_mem _ (List.mem_append_left _ (List.mem_append_right _ h))
  refine lv_iload_n hx hb dX5_piece_0 rfl (lv_at hl 1 rfl) ?_
  refine lv_iload_n hx hb dX5_piece_1 rfl (lv_at hl 2 rfl) ?_
  refine rd_i (va_runS (As := [.int x, .int y]) (rest := []) ⟨hx, hb, hml, hown, hts⟩ (c_X5_isPiece l D cI cZ x y) (va_cwS 2 hts gX5_piece_X5_isPiece rfl rfl rfl hdV_X5_isPiece.2 ⟨Nat.le_of_ble_eq_true rfl, Nat.le_of_ble_eq_true rfl⟩) (PR.S (hP.sub [] rfl) hK) rfl rfl hl.1 rfl (lv_room (Nat.le_of_ble_eq_true rfl)) dX5_piece_2 ⟨Nat.le_of_ble_eq_true rfl, Nat.le_of_ble_eq_true rfl⟩) hP hS (fun H locs hP hS => ?_)
  refine lv_if_ne (tgt := 12) hx hb dX5_piece_5 (by decide) (fun c1 => ?_) (fun c1 => ?_)
  · skip
    refine lv_aload_n hx hb dX5_piece_12 rfl (lv_at hl 0 rfl) ?_
    refine va_get (D := D) (ci := 5) (v := .ref h) (C := RX5) (T := TX5) (N := 9) hx hb hts k5 hown hK.1 hP 0 rfl rfl 0 (by decide) (hts (.fieldLink RX5 12 "BoredPipes" "pipe" "LBoredPipes$Pipe;") (List.mem_of_getElem? (i := 1) rfl)) (fun _ h9 => h9) rfl dX5_piece_13 ?_
    refine va_get (D := D) (ci := 2) (v := .int (nI np)) (C := RX2) (T := TX2) (N := 9) hx hb hts k2 hown hK.1 hP 1 rfl rfl 5 (by decide) (hts (.fieldLink RX5 64 "BoredPipes$Pipe" "pieces" "I") (List.mem_of_getElem? (i := 2) rfl)) (fun _ h9 => h9) rfl dX5_piece_16 ?_
    refine lv_bipush (v := 12) hx hb dX5_piece_19 (by decide) ?_
    refine lv_icmp_lt (tgt := 28) hx hb dX5_piece_21 (by decide) (fun c2 => ?_) (fun c2 => ?_)
    · skip
      have hlt : np < 12 := nI_ltL (N := 12) c2 (by omega) (by decide)
      refine lv_aload_n hx hb dX5_piece_28 rfl (lv_at hl 0 rfl) ?_
      refine va_get (D := D) (ci := 5) (v := .ref h) (C := RX5) (T := TX5) (N := 9) hx hb hts k5 hown hK.1 hP 0 rfl rfl 0 (by decide) (hts (.fieldLink RX5 12 "BoredPipes" "pipe" "LBoredPipes$Pipe;") (List.mem_of_getElem? (i := 1) rfl)) (fun _ h9 => h9) rfl dX5_piece_29 ?_
      refine lv_iload_n hx hb dX5_piece_32 rfl (lv_at hl 1 rfl) ?_
      refine lv_iload_n hx hb dX5_piece_33 rfl (lv_at hl 2 rfl) ?_
      refine wr_v (va_runV (As := [.int x, .int y]) (rest := []) ⟨hx, hb, hml, hown, hts⟩ (c_X2_addPiece l D cI cZ h h1 h2 h3 h4 h5 np nh mo fa ln bo x y (by first | omega | exact hnp)) (cwV 2 hts gX5_piece_X2_addPiece rfl rfl rfl hdV_X2_addPiece ⟨Nat.le_of_ble_eq_true rfl, Nat.le_of_ble_eq_true rfl⟩) (PW.V (hP.sub [1, 2, 3] rfl) hK ((hD.sub [1, 2, 3] (by decide) rfl).weaken (fun _ _ _ _ => trivial)) hP (q0 := 1) rfl rfl) rfl rfl hl.1 rfl (lv_room (Nat.le_of_ble_eq_true rfl)) dX5_piece_34 ⟨Nat.le_of_ble_eq_true rfl, Nat.le_of_ble_eq_true rfl⟩) hP hD hS [1, 2, 3] rfl (fun _ => rfl) (fun u3 H locs hu3 hP hD hS => ?_)
      have hP : va_P D vwCl [(o, .inr (5, [.ref h, .ref ja, .ref jb, .ref t, .ref n, .ref g, .long dr, .int re, .int ro])), (h, .inr (2, [.ref h1, .ref h2, .ref h3, .ref h4, .ref h5, .int (nI (np + 1)), .int (nI nh), .int mo, .int fa])), (h1, .inl (cI, 12, .inl (upd ln np x))), (h2, .inl (cI, 12, .inl (upd bo np y)))] H := hP
      have hD : va_D A [(o, .inr (5, [.ref h, .ref ja, .ref jb, .ref t, .ref n, .ref g, .long dr, .int re, .int ro])), (h, .inr (2, [.ref h1, .ref h2, .ref h3, .ref h4, .ref h5, .int (nI (np + 1)), .int (nI nh), .int mo, .int fa])), (h1, .inl (cI, 12, .inl (upd ln np x))), (h2, .inl (cI, 12, .inl (upd bo np y)))] := hD
      refine lv_aload_n hx hb dX5_piece_37 rfl (lv_at hl 0 rfl) ?_
      refine va_get (D := D) (ci := 5) (v := .ref h) (C := RX5) (T := TX5) (N := 9) hx hb hts k5 hown hK.1 hP 0 rfl rfl 0 (by decide) (hts (.fieldLink RX5 12 "BoredPipes" "pipe" "LBoredPipes$Pipe;") (List.mem_of_getElem? (i := 1) rfl)) (fun _ h9 => h9) rfl dX5_piece_38 ?_
      refine rd_i (va_runV (As := []) (rest := []) ⟨hx, hb, hml, hown, hts⟩ (c_X2_wholeLength l D cI cZ h h1 h2 h3 h4 h5 (np + 1) nh mo fa (upd ln np x) (by first | omega | exact hnp)) (cwV 0 hts gX5_piece_X2_wholeLength rfl rfl rfl hdV_X2_wholeLength ⟨Nat.le_of_ble_eq_true rfl, Nat.le_of_ble_eq_true rfl⟩) (PR.V (hP.sub [1, 2] rfl) hK hP (q0 := 1) rfl rfl) rfl rfl hl.1 rfl (lv_room (Nat.le_of_ble_eq_true rfl)) dX5_piece_41 ⟨Nat.le_of_ble_eq_true rfl, Nat.le_of_ble_eq_true rfl⟩) hP hS (fun H locs hP hS => ?_)
      exact ret_WI hQ hx hb hr hlk hAe () (by show va_P D vwCl [(o, .inr (5, [.ref h, .ref ja, .ref jb, .ref t, .ref n, .ref g, .long dr, .int re, .int ro])), (h, .inr (2, [.ref h1, .ref h2, .ref h3, .ref h4, .ref h5, .int (nI ((xPiece x y np ln bo).2.1)), .int (nI nh), .int mo, .int fa])), (h1, .inl (cI, 12, .inl ((xPiece x y np ln bo).2.2.1))), (h2, .inl (cI, 12, .inl ((xPiece x y np ln bo).2.2.2)))] H; rw [show nI ((xPiece x y np ln bo).2.1) = nI (np + 1) from (by first | with_reducible rfl | (simp only [xPiece, if_neg c1, if_pos c2]; done) | (simp [xPiece, if_neg c1, if_pos c2]; done)), show (xPiece x y np ln bo).2.2.1 = upd ln np x from (by first | with_reducible rfl | (simp only [xPiece, if_neg c1, if_pos c2]; done) | (simp [xPiece, if_neg c1, if_pos c2]; done)), show (xPiece x y np ln bo).2.2.2 = upd bo np y from (by first | with_reducible rfl | (simp only [xPiece, if_neg c1, if_pos c2]; done) | (simp [xPiece, if_neg c1, if_pos c2]; done))]; exact hP) hS (show (xPiece x y np ln bo).1 = fSum (upd ln np x) (np + 1) 0 0 from (by first | with_reducible rfl | (simp only [xPiece, if_neg c1, if_pos c2]; done) | (simp [xPiece, if_neg c1, if_pos c2]; done))).symm dX5_piece_44
    · skip
      refine lv_sipush (v := (-1004)) hx hb dX5_piece_24 (by decide) ?_
      exact ret_WI hQ hx hb hr hlk hAe () (by show va_P D vwCl [(o, .inr (5, [.ref h, .ref ja, .ref jb, .ref t, .ref n, .ref g, .long dr, .int re, .int ro])), (h, .inr (2, [.ref h1, .ref h2, .ref h3, .ref h4, .ref h5, .int (nI ((xPiece x y np ln bo).2.1)), .int (nI nh), .int mo, .int fa])), (h1, .inl (cI, 12, .inl ((xPiece x y np ln bo).2.2.1))), (h2, .inl (cI, 12, .inl ((xPiece x y np ln bo).2.2.2)))] H; rw [show nI ((xPiece x y np ln bo).2.1) = nI np from (by first | with_reducible rfl | (simp only [xPiece, if_neg c1, if_neg c2]; done) | (simp [xPiece, if_neg c1, if_neg c2]; done)), show (xPiece x y np ln bo).2.2.1 = ln from (by first | with_reducible rfl | (simp only [xPiece, if_neg c1, if_neg c2]; done) | (simp [xPiece, if_neg c1, if_neg c2]; done)), show (xPiece x y np ln bo).2.2.2 = bo from (by first | with_reducible rfl | (simp only [xPiece, if_neg c1, if_neg c2]; done) | (simp [xPiece, if_neg c1, if_neg c2]; done))]; exact hP) hS (show (xPiece x y np ln bo).1 = (-1004) from (by first | with_reducible rfl | (simp only [xPiece, if_neg c1, if_neg c2]; done) | (simp [xPiece, if_neg c1, if_neg c2]; done))).symm dX5_piece_27
  · skip
    refine lv_sipush (v := (-1002)) hx hb dX5_piece_8 (by decide) ?_
    exact ret_WI hQ hx hb hr hlk hAe () (by show va_P D vwCl [(o, .inr (5, [.ref h, .ref ja, .ref jb, .ref t, .ref n, .ref g, .long dr, .int re, .int ro])), (h, .inr (2, [.ref h1, .ref h2, .ref h3, .ref h4, .ref h5, .int (nI ((xPiece x y np ln bo).2.1)), .int (nI nh), .int mo, .int fa])), (h1, .inl (cI, 12, .inl ((xPiece x y np ln bo).2.2.1))), (h2, .inl (cI, 12, .inl ((xPiece x y np ln bo).2.2.2)))] H; rw [show nI ((xPiece x y np ln bo).2.1) = nI np from (by first | with_reducible rfl | (simp only [xPiece, if_pos c1]; done) | (simp [xPiece, if_pos c1]; done)), show (xPiece x y np ln bo).2.2.1 = ln from (by first | with_reducible rfl | (simp only [xPiece, if_pos c1]; done) | (simp [xPiece, if_pos c1]; done)), show (xPiece x y np ln bo).2.2.2 = bo from (by first | with_reducible rfl | (simp only [xPiece, if_pos c1]; done) | (simp [xPiece, if_pos c1]; done))]; exact hP) hS (show (xPiece x y np ln bo).1 = (-1002) from (by first | with_reducible rfl | (simp only [xPiece, if_pos c1]; done) | (simp [xPiece, if_pos c1]; done))).symm dX5_piece_11

set_option maxHeartbeats 4000000 in
set_option maxRecDepth 100000 in
theorem c_X5_cone (l : Launch) (D : va_G) (cI cZ : ClassId) (o : Nat) (h : Nat) (ja : Nat) (jb : Nat) (t : Nat) (n : Nat) (g : Nat) (dr : Int64) (re : Int32) (ro : Int32) (h1 : Nat) (h2 : Nat) (h3 : Nat) (h4 : Nat) (h5 : Nat) (np : Nat) (nh : Nat) (mo : Int32) (fa : Int32) (ln : Nat → Int32) (bo : Nat → Int32) (x : Int32) (y : Int32) (z : Int32) (w : Int32) (hnp : np ≤ 12) : Met l yX5_cone wsX5_cone rmX5_cone (va_Pc [.ref o, .int x, .int y, .int z, .int w] (PW D cI cZ [(o, .inr (5, [.ref h, .ref ja, .ref jb, .ref t, .ref n, .ref g, .long dr, .int re, .int ro])), (h, .inr (2, [.ref h1, .ref h2, .ref h3, .ref h4, .ref h5, .int (nI np), .int (nI nh), .int mo, .int fa])), (h1, .inl (cI, 12, .inl ln)), (h2, .inl (cI, 12, .inl bo))])) (WI (S := Unit) D (fun zr _ => zr = (xCone x y z w np ln bo).1) (fun _ => [(o, .inr (5, [.ref h, .ref ja, .ref jb, .ref t, .ref n, .ref g, .long dr, .int re, .int ro])), (h, .inr (2, [.ref h1, .ref h2, .ref h3, .ref h4, .ref h5, .int (nI ((xCone x y z w np ln bo).2.1)), .int (nI nh), .int mo, .int fa])), (h1, .inl (cI, 12, .inl ((xCone x y z w np ln bo).2.2.1))), (h2, .inl (cI, 12, .inl ((xCone x y z w np ln bo).2.2.2)))]) [(o, .inr (5, [.ref h, .ref ja, .ref jb, .ref t, .ref n, .ref g, .long dr, .int re, .int ro])), (h, .inr (2, [.ref h1, .ref h2, .ref h3, .ref h4, .ref h5, .int (nI np), .int (nI nh), .int mo, .int fa])), (h1, .inl (cI, 12, .inl ln)), (h2, .inl (cI, 12, .inl bo))]) 0 0 (ad [(o, .inr (5, [.ref h, .ref ja, .ref jb, .ref t, .ref n, .ref g, .long dr, .int re, .int ro])), (h, .inr (2, [.ref h1, .ref h2, .ref h3, .ref h4, .ref h5, .int (nI np), .int (nI nh), .int mo, .int fa])), (h1, .inl (cI, 12, .inl ln)), (h2, .inl (cI, 12, .inl bo))]) := by
  refine met_go (cc := cX5_cone) (maxL := 6) (ret := (some .int)) (by decide) rfl ?_ (Nat.le_of_ble_eq_true rfl)
  intro p e s m a below meth c Q hQ _ hx hb hr hml hts hown hlk hnm hpre ls hl
  have hown : s.vm.findClass RX5 = some m.cls := hown
  obtain ⟨hP, hK, hD0⟩ := hpre
  have hN := hK.2
  obtain ⟨A, hAe⟩ : ∃ A : Nat → Prop, A = ad [(o, .inr (5, [.ref h, .ref ja, .ref jb, .ref t, .ref n, .ref g, .long dr, .int re, .int ro])), (h, .inr (2, [.ref h1, .ref h2, .ref h3, .ref h4, .ref h5, .int (nI np), .int (nI nh), .int mo, .int fa])), (h1, .inl (cI, 12, .inl ln)), (h2, .inl (cI, 12, .inl bo))] := ⟨_, rfl⟩
  have hD : va_D A [(o, .inr (5, [.ref h, .ref ja, .ref jb, .ref t, .ref n, .ref g, .long dr, .int re, .int ro])), (h, .inr (2, [.ref h1, .ref h2, .ref h3, .ref h4, .ref h5, .int (nI np), .int (nI nh), .int mo, .int fa])), (h1, .inl (cI, 12, .inl ln)), (h2, .inl (cI, 12, .inl bo))] := by rw [hAe]; exact hD0.ad
  have hS : va_S A s.heap s.heap [] := va_S.rf
  have hl : lv_has ls 6 [(0, .ref o), (1, .int x), (2, .int y), (3, .int z), (4, .int w)] := hl
  have k2 : ∀ w ∈ wsX20, w ∈ wsX5_cone := fun w h => List.mem_cons_of_mem _ (List.mem_append_right _ h)
  have k5 : ∀ w ∈ wsX50, w ∈ wsX5_cone := fun w h => List.mem_cons_of_mem _ (List.mem_append_left _ (List.mem_append_right _ h))
  refine lv_iload_n hx hb dX5_cone_0 rfl (lv_at hl 1 rfl) ?_
  refine lv_iload_n hx hb dX5_cone_1 rfl (lv_at hl 2 rfl) ?_
  refine rd_i (va_runS (As := [.int x, .int y]) (rest := []) ⟨hx, hb, hml, hown, hts⟩ (c_X5_isPiece l D cI cZ x y) (va_cwS 2 hts gX5_cone_X5_isPiece rfl rfl rfl hdV_X5_isPiece.2 ⟨Nat.le_of_ble_eq_true rfl, Nat.le_of_ble_eq_true rfl⟩) (PR.S (hP.sub [] rfl) hK) rfl rfl hl.1 rfl (lv_room (Nat.le_of_ble_eq_true rfl)) dX5_cone_2 ⟨Nat.le_of_ble_eq_true rfl, Nat.le_of_ble_eq_true rfl⟩) hP hS (fun H locs hP hS => ?_)
  refine lv_if_eq (tgt := 27) hx hb dX5_cone_5 (by decide) (fun c1 => ?_) (fun c1 => ?_)
  · skip
    refine lv_sipush (v := (-1002)) hx hb dX5_cone_27 (by decide) ?_
    exact ret_WI hQ hx hb hr hlk hAe () (by show va_P D vwCl [(o, .inr (5, [.ref h, .ref ja, .ref jb, .ref t, .ref n, .ref g, .long dr, .int re, .int ro])), (h, .inr (2, [.ref h1, .ref h2, .ref h3, .ref h4, .ref h5, .int (nI ((xCone x y z w np ln bo).2.1)), .int (nI nh), .int mo, .int fa])), (h1, .inl (cI, 12, .inl ((xCone x y z w np ln bo).2.2.1))), (h2, .inl (cI, 12, .inl ((xCone x y z w np ln bo).2.2.2)))] H; rw [show nI ((xCone x y z w np ln bo).2.1) = nI np from (by first | with_reducible rfl | (simp only [xCone, if_pos c1]; done) | (simp [xCone, if_pos c1]; done)), show (xCone x y z w np ln bo).2.2.1 = ln from (by first | with_reducible rfl | (simp only [xCone, if_pos c1]; done) | (simp [xCone, if_pos c1]; done)), show (xCone x y z w np ln bo).2.2.2 = bo from (by first | with_reducible rfl | (simp only [xCone, if_pos c1]; done) | (simp [xCone, if_pos c1]; done))]; exact hP) hS (show (xCone x y z w np ln bo).1 = (-1002) from (by first | with_reducible rfl | (simp only [xCone, if_pos c1]; done) | (simp [xCone, if_pos c1]; done))).symm dX5_cone_30
  · skip
    refine lv_iload_n hx hb dX5_cone_8 rfl (lv_at hl 1 rfl) ?_
    refine lv_iload_n hx hb dX5_cone_9 rfl (lv_at hl 3 rfl) ?_
    refine rd_i (va_runS (As := [.int x, .int z]) (rest := []) ⟨hx, hb, hml, hown, hts⟩ (c_X5_isPiece l D cI cZ x z) (va_cwS 2 hts gX5_cone_X5_isPiece rfl rfl rfl hdV_X5_isPiece.2 ⟨Nat.le_of_ble_eq_true rfl, Nat.le_of_ble_eq_true rfl⟩) (PR.S (hP.sub [] rfl) hK) rfl rfl hl.1 rfl (lv_room (Nat.le_of_ble_eq_true rfl)) dX5_cone_10 ⟨Nat.le_of_ble_eq_true rfl, Nat.le_of_ble_eq_true rfl⟩) hP hS (fun H locs hP hS => ?_)
    refine lv_if_eq (tgt := 27) hx hb dX5_cone_13 (by decide) (fun c2 => ?_) (fun c2 => ?_)
    · skip
      refine lv_sipush (v := (-1002)) hx hb dX5_cone_27 (by decide) ?_
      exact ret_WI hQ hx hb hr hlk hAe () (by show va_P D vwCl [(o, .inr (5, [.ref h, .ref ja, .ref jb, .ref t, .ref n, .ref g, .long dr, .int re, .int ro])), (h, .inr (2, [.ref h1, .ref h2, .ref h3, .ref h4, .ref h5, .int (nI ((xCone x y z w np ln bo).2.1)), .int (nI nh), .int mo, .int fa])), (h1, .inl (cI, 12, .inl ((xCone x y z w np ln bo).2.2.1))), (h2, .inl (cI, 12, .inl ((xCone x y z w np ln bo).2.2.2)))] H; rw [show nI ((xCone x y z w np ln bo).2.1) = nI np from (by first | with_reducible rfl | (simp only [xCone, if_neg c1, if_pos c2]; done) | (simp [xCone, if_neg c1, if_pos c2]; done)), show (xCone x y z w np ln bo).2.2.1 = ln from (by first | with_reducible rfl | (simp only [xCone, if_neg c1, if_pos c2]; done) | (simp [xCone, if_neg c1, if_pos c2]; done)), show (xCone x y z w np ln bo).2.2.2 = bo from (by first | with_reducible rfl | (simp only [xCone, if_neg c1, if_pos c2]; done) | (simp [xCone, if_neg c1, if_pos c2]; done))]; exact hP) hS (show (xCone x y z w np ln bo).1 = (-1002) from (by first | with_reducible rfl | (simp only [xCone, if_neg c1, if_pos c2]; done) | (simp [xCone, if_neg c1, if_pos c2]; done))).symm dX5_cone_30
    · skip
      refine lv_iload hx hb dX5_cone_16 (lv_at hl 4 rfl) ?_
      refine lv_iconst (v := 2) hx hb dX5_cone_18 (by decide) ?_
      refine lv_bipush (v := 12) hx hb dX5_cone_19 (by decide) ?_
      refine rd_i (va_runS (As := [.int w, .int 2, .int 12]) (rest := []) ⟨hx, hb, hml, hown, hts⟩ (c_X5_within l D cI cZ w 2 12) (va_cwS 3 hts gX5_cone_X5_within rfl rfl rfl hdV_X5_within.2 ⟨Nat.le_of_ble_eq_true rfl, Nat.le_of_ble_eq_true rfl⟩) (PR.S (hP.sub [] rfl) hK) rfl rfl hl.1 rfl (lv_room (Nat.le_of_ble_eq_true rfl)) dX5_cone_21 ⟨Nat.le_of_ble_eq_true rfl, Nat.le_of_ble_eq_true rfl⟩) hP hS (fun H locs hP hS => ?_)
      refine lv_if_ne (tgt := 31) hx hb dX5_cone_24 (by decide) (fun c3 => ?_) (fun c3 => ?_)
      · skip
        obtain ⟨N, hN2, hN12, rfl⟩ := fIn_rng (a := 2) (b := 12) c3 (by decide) (by decide)
        refine lv_aload_n hx hb dX5_cone_31 rfl (lv_at hl 0 rfl) ?_
        refine va_get (D := D) (ci := 5) (v := .ref h) (C := RX5) (T := TX5) (N := 9) hx hb hts k5 hown hK.1 hP 0 rfl rfl 0 (by decide) (hts (.fieldLink RX5 12 "BoredPipes" "pipe" "LBoredPipes$Pipe;") (List.mem_of_getElem? (i := 1) rfl)) (fun _ h9 => h9) rfl dX5_cone_32 ?_
        refine va_get (D := D) (ci := 2) (v := .int (nI np)) (C := RX2) (T := TX2) (N := 9) hx hb hts k2 hown hK.1 hP 1 rfl rfl 5 (by decide) (hts (.fieldLink RX5 64 "BoredPipes$Pipe" "pieces" "I") (List.mem_of_getElem? (i := 2) rfl)) (fun _ h9 => h9) rfl dX5_cone_35 ?_
        refine lv_iload hx hb dX5_cone_38 (lv_at hl 4 rfl) ?_
        refine nn_iadd hx hb dX5_cone_40 (x := np) (y := N) rfl rfl ?_
        refine lv_bipush (v := 12) hx hb dX5_cone_41 (by decide) ?_
        refine lv_icmp_le (tgt := 50) hx hb dX5_cone_43 (by decide) (fun c4 => ?_) (fun c4 => ?_)
        · skip
          have hle : np + N ≤ 12 := nI_leL (N := 12) c4 (by omega) (by decide)
          refine lv_iconst (v := 0) hx hb dX5_cone_50 (by decide) ?_
          refine lv_istore (lv' := [(5, .int 0), (0, .ref o), (1, .int x), (2, .int y), (3, .int z), (4, .int (nI N))]) hx hb dX5_cone_51 hl (by decide) rfl (fun ls hl => ?_)
          have hP : va_P D vwCl [(o, .inr (5, [.ref h, .ref ja, .ref jb, .ref t, .ref n, .ref g, .long dr, .int re, .int ro])), (h, .inr (2, [.ref h1, .ref h2, .ref h3, .ref h4, .ref h5, .int (nI np), .int (nI nh), .int mo, .int fa])), (h1, .inl (cI, 12, .inl (coneL ln np x 0))), (h2, .inl (cI, 12, .inl bo))] H := by rw [← (show ln = coneL ln np x 0 from rfl)]; exact hP
          have hD : va_D A [(o, .inr (5, [.ref h, .ref ja, .ref jb, .ref t, .ref n, .ref g, .long dr, .int re, .int ro])), (h, .inr (2, [.ref h1, .ref h2, .ref h3, .ref h4, .ref h5, .int (nI np), .int (nI nh), .int mo, .int fa])), (h1, .inl (cI, 12, .inl (coneL ln np x 0))), (h2, .inl (cI, 12, .inl bo))] := va_D_fst hD (by simp only [List.map_cons, List.map_nil])
          have hP : va_P D vwCl [(o, .inr (5, [.ref h, .ref ja, .ref jb, .ref t, .ref n, .ref g, .long dr, .int re, .int ro])), (h, .inr (2, [.ref h1, .ref h2, .ref h3, .ref h4, .ref h5, .int (nI np), .int (nI nh), .int mo, .int fa])), (h1, .inl (cI, 12, .inl (coneL ln np x 0))), (h2, .inl (cI, 12, .inl (xConeB bo np y z N 0)))] H := by rw [← (show bo = xConeB bo np y z N 0 from rfl)]; exact hP
          have hD : va_D A [(o, .inr (5, [.ref h, .ref ja, .ref jb, .ref t, .ref n, .ref g, .long dr, .int re, .int ro])), (h, .inr (2, [.ref h1, .ref h2, .ref h3, .ref h4, .ref h5, .int (nI np), .int (nI nh), .int mo, .int fa])), (h1, .inl (cI, 12, .inl (coneL ln np x 0))), (h2, .inl (cI, 12, .inl (xConeB bo np y z N 0)))] := va_D_fst hD (by simp only [List.map_cons, List.map_nil])
          have lp_53 : ∀ (r : Nat) (i : Nat), (i + r = N) → ∀ (H : Heap) (locs : List Loc), va_P D vwCl [(o, .inr (5, [.ref h, .ref ja, .ref jb, .ref t, .ref n, .ref g, .long dr, .int re, .int ro])), (h, .inr (2, [.ref h1, .ref h2, .ref h3, .ref h4, .ref h5, .int (nI (np + i)), .int (nI nh), .int mo, .int fa])), (h1, .inl (cI, 12, .inl (coneL ln np x i))), (h2, .inl (cI, 12, .inl (xConeB bo np y z N i)))] H → va_D A [(o, .inr (5, [.ref h, .ref ja, .ref jb, .ref t, .ref n, .ref g, .long dr, .int re, .int ro])), (h, .inr (2, [.ref h1, .ref h2, .ref h3, .ref h4, .ref h5, .int (nI (np + i)), .int (nI nh), .int mo, .int fa])), (h1, .inl (cI, 12, .inl (coneL ln np x i))), (h2, .inl (cI, 12, .inl (xConeB bo np y z N i)))] → va_S A s.heap H locs → ∀ (ls : Array Slot), lv_has ls 6 [(5, .int (nI i)), (0, .ref o), (1, .int x), (2, .int y), (3, .int z), (4, .int (nI N))] → W p l e rmX5_cone s m a below meth c H locs 0 0 Q (F0 m 53 ls []) := by
            intro r
            induction r with
            | zero =>
              intro i hi H locs hP hD hS ls hl
              have hzz : N = i := by omega
              subst hzz
              refine lv_iload hx hb dX5_cone_53 (lv_at hl 0 rfl) ?_
              refine lv_iload hx hb dX5_cone_55 (lv_at hl 5 rfl) ?_
              refine lv_icmp_ge (tgt := 92) hx hb dX5_cone_57 (by decide) (fun c5 => ?_) (fun c5 => absurd ((nI_le (a := N) (b := N) (by omega) (by omega))) c5)
              refine lv_aload_n hx hb dX5_cone_92 rfl (lv_at hl 1 rfl) ?_
              refine va_get (D := D) (ci := 5) (v := .ref h) (C := RX5) (T := TX5) (N := 9) hx hb hts k5 hown hK.1 hP 0 rfl rfl 0 (by decide) (hts (.fieldLink RX5 12 "BoredPipes" "pipe" "LBoredPipes$Pipe;") (List.mem_of_getElem? (i := 1) rfl)) (fun _ h9 => h9) rfl dX5_cone_93 ?_
              refine rd_i (va_runV (As := []) (rest := []) ⟨hx, hb, hml, hown, hts⟩ (c_X2_wholeLength l D cI cZ h h1 h2 h3 h4 h5 (np + N) nh mo fa (coneL ln np x N) (by first | omega | exact hnp)) (cwV 0 hts gX5_cone_X2_wholeLength rfl rfl rfl hdV_X2_wholeLength ⟨Nat.le_of_ble_eq_true rfl, Nat.le_of_ble_eq_true rfl⟩) (PR.V (hP.sub [1, 2] rfl) hK hP (q0 := 1) rfl rfl) rfl rfl hl.1 rfl (lv_room (Nat.le_of_ble_eq_true rfl)) dX5_cone_96 ⟨Nat.le_of_ble_eq_true rfl, Nat.le_of_ble_eq_true rfl⟩) hP hS (fun H locs hP hS => ?_)
              exact ret_WI hQ hx hb hr hlk hAe () (by show va_P D vwCl [(o, .inr (5, [.ref h, .ref ja, .ref jb, .ref t, .ref n, .ref g, .long dr, .int re, .int ro])), (h, .inr (2, [.ref h1, .ref h2, .ref h3, .ref h4, .ref h5, .int (nI ((xCone x y z (nI N) np ln bo).2.1)), .int (nI nh), .int mo, .int fa])), (h1, .inl (cI, 12, .inl ((xCone x y z (nI N) np ln bo).2.2.1))), (h2, .inl (cI, 12, .inl ((xCone x y z (nI N) np ln bo).2.2.2)))] H; rw [show nI ((xCone x y z (nI N) np ln bo).2.1) = nI (np + N) from (by first | with_reducible rfl | (simp only [xCone, nI_clamp (show N < 2147483648 from by omega), if_neg c1, if_neg c2, if_neg c3, if_pos c4, if_pos c5]; done) | (simp [xCone, nI_clamp (show N < 2147483648 from by omega), if_neg c1, if_neg c2, if_neg c3, if_pos c4, if_pos c5]; done)), show (xCone x y z (nI N) np ln bo).2.2.1 = coneL ln np x N from (by first | with_reducible rfl | (simp only [xCone, nI_clamp (show N < 2147483648 from by omega), if_neg c1, if_neg c2, if_neg c3, if_pos c4, if_pos c5]; done) | (simp [xCone, nI_clamp (show N < 2147483648 from by omega), if_neg c1, if_neg c2, if_neg c3, if_pos c4, if_pos c5]; done)), show (xCone x y z (nI N) np ln bo).2.2.2 = xConeB bo np y z N N from (by first | with_reducible rfl | (simp only [xCone, nI_clamp (show N < 2147483648 from by omega), if_neg c1, if_neg c2, if_neg c3, if_pos c4, if_pos c5]; done) | (simp [xCone, nI_clamp (show N < 2147483648 from by omega), if_neg c1, if_neg c2, if_neg c3, if_pos c4, if_pos c5]; done))]; exact hP) hS (show (xCone x y z (nI N) np ln bo).1 = fSum (coneL ln np x N) (np + N) 0 0 from (by first | with_reducible rfl | (simp only [xCone, nI_clamp (show N < 2147483648 from by omega), if_neg c1, if_neg c2, if_neg c3, if_pos c4, if_pos c5]; done) | (simp [xCone, nI_clamp (show N < 2147483648 from by omega), if_neg c1, if_neg c2, if_neg c3, if_pos c4, if_pos c5]; done))).symm dX5_cone_99
            | succ r ih_53 =>
              intro i hi H locs hP hD hS ls hl
              refine lv_iload hx hb dX5_cone_53 (lv_at hl 0 rfl) ?_
              refine lv_iload hx hb dX5_cone_55 (lv_at hl 5 rfl) ?_
              refine lv_icmp_ge (tgt := 92) hx hb dX5_cone_57 (by decide) (fun c6 => absurd c6 ((nI_ge (a := i) (b := N) (by omega) (by omega)))) (fun c6 => ?_)
              refine lv_aload_n hx hb dX5_cone_60 rfl (lv_at hl 1 rfl) ?_
              refine va_get (D := D) (ci := 5) (v := .ref h) (C := RX5) (T := TX5) (N := 9) hx hb hts k5 hown hK.1 hP 0 rfl rfl 0 (by decide) (hts (.fieldLink RX5 12 "BoredPipes" "pipe" "LBoredPipes$Pipe;") (List.mem_of_getElem? (i := 1) rfl)) (fun _ h9 => h9) rfl dX5_cone_61 ?_
              refine lv_iload_n hx hb dX5_cone_64 rfl (lv_at hl 2 rfl) ?_
              refine lv_iload_n hx hb dX5_cone_65 rfl (lv_at hl 3 rfl) ?_
              refine lv_iload_n hx hb dX5_cone_66 rfl (lv_at hl 4 rfl) ?_
              refine lv_iload_n hx hb dX5_cone_67 rfl (lv_at hl 3 rfl) ?_
              refine lv_isub hx hb dX5_cone_68 ?_
              refine lv_iload hx hb dX5_cone_69 (lv_at hl 0 rfl) ?_
              refine lv_imul hx hb dX5_cone_71 ?_
              refine lv_i2l hx hb dX5_cone_72 rfl ?_
              refine lv_iload hx hb dX5_cone_73 (lv_at hl 5 rfl) ?_
              refine lv_iconst (v := 1) hx hb dX5_cone_75 (by decide) ?_
              refine lv_isub hx hb dX5_cone_76 ?_
              refine lv_i2l hx hb dX5_cone_77 rfl ?_
              refine rd_l (va_runS (As := [.long (((z - y) * (nI i)).toInt64), .long (((nI N) - 1).toInt64)]) (rest := [.int y, .int x, .ref h]) ⟨hx, hb, hml, hown, hts⟩ (c_X5_quotient l D cI cZ (((z - y) * (nI i)).toInt64) (((nI N) - 1).toInt64)) (va_cwS 2 hts gX5_cone_X5_quotient rfl rfl rfl hdV_X5_quotient.2 ⟨Nat.le_of_ble_eq_true rfl, Nat.le_of_ble_eq_true rfl⟩) (PR.S (hP.sub [] rfl) hK) rfl rfl hl.1 rfl (lv_room (Nat.le_of_ble_eq_true rfl)) dX5_cone_78 ⟨Nat.le_of_ble_eq_true rfl, Nat.le_of_ble_eq_true rfl⟩) hP hS (fun H locs hP hS => ?_)
              refine lv_l2i hx hb dX5_cone_81 rfl ?_
              refine lv_iadd hx hb dX5_cone_82 ?_
              refine lv_eqi (y := xConeV y z N i) rfl ?_
              refine wr_v (va_runV (As := [.int x, .int (xConeV y z N i)]) (rest := []) ⟨hx, hb, hml, hown, hts⟩ (c_X2_addPiece l D cI cZ h h1 h2 h3 h4 h5 (np + i) nh mo fa (coneL ln np x i) (xConeB bo np y z N i) x (xConeV y z N i) (by first | omega | exact hnp)) (cwV 2 hts gX5_cone_X2_addPiece rfl rfl rfl hdV_X2_addPiece ⟨Nat.le_of_ble_eq_true rfl, Nat.le_of_ble_eq_true rfl⟩) (PW.V (hP.sub [1, 2, 3] rfl) hK ((hD.sub [1, 2, 3] (by decide) rfl).weaken (fun _ _ _ _ => trivial)) hP (q0 := 1) rfl rfl) rfl rfl hl.1 rfl (lv_room (Nat.le_of_ble_eq_true rfl)) dX5_cone_83 ⟨Nat.le_of_ble_eq_true rfl, Nat.le_of_ble_eq_true rfl⟩) hP hD hS [1, 2, 3] rfl (fun _ => rfl) (fun u7 H locs hu7 hP hD hS => ?_)
              have hP : va_P D vwCl [(o, .inr (5, [.ref h, .ref ja, .ref jb, .ref t, .ref n, .ref g, .long dr, .int re, .int ro])), (h, .inr (2, [.ref h1, .ref h2, .ref h3, .ref h4, .ref h5, .int (nI ((np + i) + 1)), .int (nI nh), .int mo, .int fa])), (h1, .inl (cI, 12, .inl (upd (coneL ln np x i) (np + i) x))), (h2, .inl (cI, 12, .inl (upd (xConeB bo np y z N i) (np + i) (xConeV y z N i))))] H := hP
              have hD : va_D A [(o, .inr (5, [.ref h, .ref ja, .ref jb, .ref t, .ref n, .ref g, .long dr, .int re, .int ro])), (h, .inr (2, [.ref h1, .ref h2, .ref h3, .ref h4, .ref h5, .int (nI ((np + i) + 1)), .int (nI nh), .int mo, .int fa])), (h1, .inl (cI, 12, .inl (upd (coneL ln np x i) (np + i) x))), (h2, .inl (cI, 12, .inl (upd (xConeB bo np y z N i) (np + i) (xConeV y z N i))))] := hD
              refine lv_iinc (v := nI (i + 1)) (lv' := [(5, .int (nI (i + 1))), (0, .ref o), (1, .int x), (2, .int y), (3, .int z), (4, .int (nI N))]) hx hb dX5_cone_86 hl (k := 0) rfl (iinc_1 i) (by decide) rfl (fun ls hl => ?_)
              refine lv_goto (tgt := 53) hx hb dX5_cone_89 (by decide) ?_
              exact ih_53 (i + 1) (by omega) _ _ hP hD hS ls (lv_sub hl [0, 1, 2, 3, 4, 5] rfl)
          exact lp_53 N 0 (by omega) _ _ hP hD hS ls (lv_sub hl [0, 1, 2, 3, 4, 5] rfl)
        · skip
          refine lv_sipush (v := (-1004)) hx hb dX5_cone_46 (by decide) ?_
          exact ret_WI hQ hx hb hr hlk hAe () (by show va_P D vwCl [(o, .inr (5, [.ref h, .ref ja, .ref jb, .ref t, .ref n, .ref g, .long dr, .int re, .int ro])), (h, .inr (2, [.ref h1, .ref h2, .ref h3, .ref h4, .ref h5, .int (nI ((xCone x y z (nI N) np ln bo).2.1)), .int (nI nh), .int mo, .int fa])), (h1, .inl (cI, 12, .inl ((xCone x y z (nI N) np ln bo).2.2.1))), (h2, .inl (cI, 12, .inl ((xCone x y z (nI N) np ln bo).2.2.2)))] H; rw [show nI ((xCone x y z (nI N) np ln bo).2.1) = nI np from (by first | with_reducible rfl | (simp only [xCone, nI_clamp (show N < 2147483648 from by omega), if_neg c1, if_neg c2, if_neg c3, if_neg c4]; done) | (simp [xCone, nI_clamp (show N < 2147483648 from by omega), if_neg c1, if_neg c2, if_neg c3, if_neg c4]; done)), show (xCone x y z (nI N) np ln bo).2.2.1 = ln from (by first | with_reducible rfl | (simp only [xCone, nI_clamp (show N < 2147483648 from by omega), if_neg c1, if_neg c2, if_neg c3, if_neg c4]; done) | (simp [xCone, nI_clamp (show N < 2147483648 from by omega), if_neg c1, if_neg c2, if_neg c3, if_neg c4]; done)), show (xCone x y z (nI N) np ln bo).2.2.2 = bo from (by first | with_reducible rfl | (simp only [xCone, nI_clamp (show N < 2147483648 from by omega), if_neg c1, if_neg c2, if_neg c3, if_neg c4]; done) | (simp [xCone, nI_clamp (show N < 2147483648 from by omega), if_neg c1, if_neg c2, if_neg c3, if_neg c4]; done))]; exact hP) hS (show (xCone x y z (nI N) np ln bo).1 = (-1004) from (by first | with_reducible rfl | (simp only [xCone, nI_clamp (show N < 2147483648 from by omega), if_neg c1, if_neg c2, if_neg c3, if_neg c4]; done) | (simp [xCone, nI_clamp (show N < 2147483648 from by omega), if_neg c1, if_neg c2, if_neg c3, if_neg c4]; done))).symm dX5_cone_49
      · skip
        refine lv_sipush (v := (-1002)) hx hb dX5_cone_27 (by decide) ?_
        exact ret_WI hQ hx hb hr hlk hAe () (by show va_P D vwCl [(o, .inr (5, [.ref h, .ref ja, .ref jb, .ref t, .ref n, .ref g, .long dr, .int re, .int ro])), (h, .inr (2, [.ref h1, .ref h2, .ref h3, .ref h4, .ref h5, .int (nI ((xCone x y z w np ln bo).2.1)), .int (nI nh), .int mo, .int fa])), (h1, .inl (cI, 12, .inl ((xCone x y z w np ln bo).2.2.1))), (h2, .inl (cI, 12, .inl ((xCone x y z w np ln bo).2.2.2)))] H; rw [show nI ((xCone x y z w np ln bo).2.1) = nI np from (by first | with_reducible rfl | (simp only [xCone, if_neg c1, if_neg c2, if_pos c3]; done) | (simp [xCone, if_neg c1, if_neg c2, if_pos c3]; done)), show (xCone x y z w np ln bo).2.2.1 = ln from (by first | with_reducible rfl | (simp only [xCone, if_neg c1, if_neg c2, if_pos c3]; done) | (simp [xCone, if_neg c1, if_neg c2, if_pos c3]; done)), show (xCone x y z w np ln bo).2.2.2 = bo from (by first | with_reducible rfl | (simp only [xCone, if_neg c1, if_neg c2, if_pos c3]; done) | (simp [xCone, if_neg c1, if_neg c2, if_pos c3]; done))]; exact hP) hS (show (xCone x y z w np ln bo).1 = (-1002) from (by first | with_reducible rfl | (simp only [xCone, if_neg c1, if_neg c2, if_pos c3]; done) | (simp [xCone, if_neg c1, if_neg c2, if_pos c3]; done))).symm dX5_cone_30

set_option maxHeartbeats 4000000 in
set_option maxRecDepth 100000 in
theorem c_X5_hole (l : Launch) (D : va_G) (cI cZ : ClassId) (o : Nat) (h : Nat) (ja : Nat) (jb : Nat) (t : Nat) (n : Nat) (g : Nat) (dr : Int64) (re : Int32) (ro : Int32) (h1 : Nat) (h2 : Nat) (h3 : Nat) (h4 : Nat) (h5 : Nat) (np : Nat) (nh : Nat) (mo : Int32) (fa : Int32) (ln : Nat → Int32) (pl : Nat → Int32) (sz : Nat → Int32) (ch : Nat → Int32) (x : Int32) (y : Int32) (z : Int32) (hnp : np ≤ 12) (hnh : nh ≤ 6) : Met l yX5_hole wsX5_hole rmX5_hole (va_Pc [.ref o, .int x, .int y, .int z] (PW D cI cZ [(o, .inr (5, [.ref h, .ref ja, .ref jb, .ref t, .ref n, .ref g, .long dr, .int re, .int ro])), (h, .inr (2, [.ref h1, .ref h2, .ref h3, .ref h4, .ref h5, .int (nI np), .int (nI nh), .int mo, .int fa])), (h1, .inl (cI, 12, .inl ln)), (h3, .inl (cI, 6, .inl pl)), (h4, .inl (cI, 6, .inl sz)), (h5, .inl (cI, 6, .inl ch))])) (WI (S := Unit) D (fun zr _ => zr = (xHole x y z nh pl sz ch (fSum ln np 0 0)).1) (fun _ => [(o, .inr (5, [.ref h, .ref ja, .ref jb, .ref t, .ref n, .ref g, .long dr, .int re, .int ro])), (h, .inr (2, [.ref h1, .ref h2, .ref h3, .ref h4, .ref h5, .int (nI np), .int (nI ((xHole x y z nh pl sz ch (fSum ln np 0 0)).2.1)), .int mo, .int fa])), (h1, .inl (cI, 12, .inl ln)), (h3, .inl (cI, 6, .inl ((xHole x y z nh pl sz ch (fSum ln np 0 0)).2.2.1))), (h4, .inl (cI, 6, .inl ((xHole x y z nh pl sz ch (fSum ln np 0 0)).2.2.2.1))), (h5, .inl (cI, 6, .inl ((xHole x y z nh pl sz ch (fSum ln np 0 0)).2.2.2.2)))]) [(o, .inr (5, [.ref h, .ref ja, .ref jb, .ref t, .ref n, .ref g, .long dr, .int re, .int ro])), (h, .inr (2, [.ref h1, .ref h2, .ref h3, .ref h4, .ref h5, .int (nI np), .int (nI nh), .int mo, .int fa])), (h1, .inl (cI, 12, .inl ln)), (h3, .inl (cI, 6, .inl pl)), (h4, .inl (cI, 6, .inl sz)), (h5, .inl (cI, 6, .inl ch))]) 0 0 (ad [(o, .inr (5, [.ref h, .ref ja, .ref jb, .ref t, .ref n, .ref g, .long dr, .int re, .int ro])), (h, .inr (2, [.ref h1, .ref h2, .ref h3, .ref h4, .ref h5, .int (nI np), .int (nI nh), .int mo, .int fa])), (h1, .inl (cI, 12, .inl ln)), (h3, .inl (cI, 6, .inl pl)), (h4, .inl (cI, 6, .inl sz)), (h5, .inl (cI, 6, .inl ch))]) := by
  refine met_go (cc := cX5_hole) (maxL := 4) (ret := (some .int)) (by decide) rfl ?_ (Nat.le_of_ble_eq_true rfl)
  intro p e s m a below meth c Q hQ _ hx hb hr hml hts hown hlk hnm hpre ls hl
  have hown : s.vm.findClass RX5 = some m.cls := hown
  obtain ⟨hP, hK, hD0⟩ := hpre
  have hN := hK.2
  obtain ⟨A, hAe⟩ : ∃ A : Nat → Prop, A = ad [(o, .inr (5, [.ref h, .ref ja, .ref jb, .ref t, .ref n, .ref g, .long dr, .int re, .int ro])), (h, .inr (2, [.ref h1, .ref h2, .ref h3, .ref h4, .ref h5, .int (nI np), .int (nI nh), .int mo, .int fa])), (h1, .inl (cI, 12, .inl ln)), (h3, .inl (cI, 6, .inl pl)), (h4, .inl (cI, 6, .inl sz)), (h5, .inl (cI, 6, .inl ch))] := ⟨_, rfl⟩
  have hD : va_D A [(o, .inr (5, [.ref h, .ref ja, .ref jb, .ref t, .ref n, .ref g, .long dr, .int re, .int ro])), (h, .inr (2, [.ref h1, .ref h2, .ref h3, .ref h4, .ref h5, .int (nI np), .int (nI nh), .int mo, .int fa])), (h1, .inl (cI, 12, .inl ln)), (h3, .inl (cI, 6, .inl pl)), (h4, .inl (cI, 6, .inl sz)), (h5, .inl (cI, 6, .inl ch))] := by rw [hAe]; exact hD0.ad
  have hS : va_S A s.heap s.heap [] := va_S.rf
  have hl : lv_has ls 4 [(0, .ref o), (1, .int x), (2, .int y), (3, .int z)] := hl
  have k2 : ∀ w ∈ wsX20, w ∈ wsX5_hole := fun w h => List.mem_cons_of_mem _ (List.mem_append_right _ h)
  have k5 : ∀ w ∈ wsX50, w ∈ wsX5_hole := fun w h => List.mem_cons_of_mem _ (List.mem_append_left _ (List.mem_append_right _ h))
  refine lv_aload_n hx hb dX5_hole_0 rfl (lv_at hl 0 rfl) ?_
  refine lv_iconst (v := 0) hx hb dX5_hole_1 (by decide) ?_
  refine lv_iload_n hx hb dX5_hole_2 rfl (lv_at hl 1 rfl) ?_
  refine rd_i (va_runV (As := [.int 0, .int x]) (rest := []) ⟨hx, hb, hml, hown, hts⟩ (c_X5_mayBe l D cI cZ o h ja jb t n g dr re ro h1 h2 h3 h4 h5 np nh mo fa ln 0 x (by first | omega | exact hnp)) (cwV 2 hts gX5_hole_X5_mayBe rfl rfl rfl hdV_X5_mayBe ⟨Nat.le_of_ble_eq_true rfl, Nat.le_of_ble_eq_true rfl⟩) (PR.V (hP.sub [0, 1, 2] rfl) hK hP (q0 := 0) rfl rfl) rfl rfl hl.1 rfl (lv_room (Nat.le_of_ble_eq_true rfl)) dX5_hole_3 ⟨Nat.le_of_ble_eq_true rfl, Nat.le_of_ble_eq_true rfl⟩) hP hS (fun H locs hP hS => ?_)
  refine lv_if_eq (tgt := 27) hx hb dX5_hole_6 (by decide) (fun c1 => ?_) (fun c1 => ?_)
  · skip
    refine lv_sipush (v := (-1002)) hx hb dX5_hole_27 (by decide) ?_
    exact ret_WI hQ hx hb hr hlk hAe () (by show va_P D vwCl [(o, .inr (5, [.ref h, .ref ja, .ref jb, .ref t, .ref n, .ref g, .long dr, .int re, .int ro])), (h, .inr (2, [.ref h1, .ref h2, .ref h3, .ref h4, .ref h5, .int (nI np), .int (nI ((xHole x y z nh pl sz ch (fSum ln np 0 0)).2.1)), .int mo, .int fa])), (h1, .inl (cI, 12, .inl ln)), (h3, .inl (cI, 6, .inl ((xHole x y z nh pl sz ch (fSum ln np 0 0)).2.2.1))), (h4, .inl (cI, 6, .inl ((xHole x y z nh pl sz ch (fSum ln np 0 0)).2.2.2.1))), (h5, .inl (cI, 6, .inl ((xHole x y z nh pl sz ch (fSum ln np 0 0)).2.2.2.2)))] H; rw [show nI ((xHole x y z nh pl sz ch (fSum ln np 0 0)).2.1) = nI nh from (by first | with_reducible rfl | (simp only [xHole, if_pos c1]; done) | (simp [xHole, if_pos c1]; done)), show (xHole x y z nh pl sz ch (fSum ln np 0 0)).2.2.1 = pl from (by first | with_reducible rfl | (simp only [xHole, if_pos c1]; done) | (simp [xHole, if_pos c1]; done)), show (xHole x y z nh pl sz ch (fSum ln np 0 0)).2.2.2.1 = sz from (by first | with_reducible rfl | (simp only [xHole, if_pos c1]; done) | (simp [xHole, if_pos c1]; done)), show (xHole x y z nh pl sz ch (fSum ln np 0 0)).2.2.2.2 = ch from (by first | with_reducible rfl | (simp only [xHole, if_pos c1]; done) | (simp [xHole, if_pos c1]; done))]; exact hP) hS (show (xHole x y z nh pl sz ch (fSum ln np 0 0)).1 = (-1002) from (by first | with_reducible rfl | (simp only [xHole, if_pos c1]; done) | (simp [xHole, if_pos c1]; done))).symm dX5_hole_30
  · skip
    refine lv_aload_n hx hb dX5_hole_9 rfl (lv_at hl 0 rfl) ?_
    refine lv_iconst (v := 1) hx hb dX5_hole_10 (by decide) ?_
    refine lv_iload_n hx hb dX5_hole_11 rfl (lv_at hl 2 rfl) ?_
    refine rd_i (va_runV (As := [.int 1, .int y]) (rest := []) ⟨hx, hb, hml, hown, hts⟩ (c_X5_mayBe l D cI cZ o h ja jb t n g dr re ro h1 h2 h3 h4 h5 np nh mo fa ln 1 y (by first | omega | exact hnp)) (cwV 2 hts gX5_hole_X5_mayBe rfl rfl rfl hdV_X5_mayBe ⟨Nat.le_of_ble_eq_true rfl, Nat.le_of_ble_eq_true rfl⟩) (PR.V (hP.sub [0, 1, 2] rfl) hK hP (q0 := 0) rfl rfl) rfl rfl hl.1 rfl (lv_room (Nat.le_of_ble_eq_true rfl)) dX5_hole_12 ⟨Nat.le_of_ble_eq_true rfl, Nat.le_of_ble_eq_true rfl⟩) hP hS (fun H locs hP hS => ?_)
    refine lv_if_eq (tgt := 27) hx hb dX5_hole_15 (by decide) (fun c2 => ?_) (fun c2 => ?_)
    · skip
      refine lv_sipush (v := (-1002)) hx hb dX5_hole_27 (by decide) ?_
      exact ret_WI hQ hx hb hr hlk hAe () (by show va_P D vwCl [(o, .inr (5, [.ref h, .ref ja, .ref jb, .ref t, .ref n, .ref g, .long dr, .int re, .int ro])), (h, .inr (2, [.ref h1, .ref h2, .ref h3, .ref h4, .ref h5, .int (nI np), .int (nI ((xHole x y z nh pl sz ch (fSum ln np 0 0)).2.1)), .int mo, .int fa])), (h1, .inl (cI, 12, .inl ln)), (h3, .inl (cI, 6, .inl ((xHole x y z nh pl sz ch (fSum ln np 0 0)).2.2.1))), (h4, .inl (cI, 6, .inl ((xHole x y z nh pl sz ch (fSum ln np 0 0)).2.2.2.1))), (h5, .inl (cI, 6, .inl ((xHole x y z nh pl sz ch (fSum ln np 0 0)).2.2.2.2)))] H; rw [show nI ((xHole x y z nh pl sz ch (fSum ln np 0 0)).2.1) = nI nh from (by first | with_reducible rfl | (simp only [xHole, if_neg c1, if_pos c2]; done) | (simp [xHole, if_neg c1, if_pos c2]; done)), show (xHole x y z nh pl sz ch (fSum ln np 0 0)).2.2.1 = pl from (by first | with_reducible rfl | (simp only [xHole, if_neg c1, if_pos c2]; done) | (simp [xHole, if_neg c1, if_pos c2]; done)), show (xHole x y z nh pl sz ch (fSum ln np 0 0)).2.2.2.1 = sz from (by first | with_reducible rfl | (simp only [xHole, if_neg c1, if_pos c2]; done) | (simp [xHole, if_neg c1, if_pos c2]; done)), show (xHole x y z nh pl sz ch (fSum ln np 0 0)).2.2.2.2 = ch from (by first | with_reducible rfl | (simp only [xHole, if_neg c1, if_pos c2]; done) | (simp [xHole, if_neg c1, if_pos c2]; done))]; exact hP) hS (show (xHole x y z nh pl sz ch (fSum ln np 0 0)).1 = (-1002) from (by first | with_reducible rfl | (simp only [xHole, if_neg c1, if_pos c2]; done) | (simp [xHole, if_neg c1, if_pos c2]; done))).symm dX5_hole_30
    · skip
      refine lv_aload_n hx hb dX5_hole_18 rfl (lv_at hl 0 rfl) ?_
      refine lv_iconst (v := 2) hx hb dX5_hole_19 (by decide) ?_
      refine lv_iload_n hx hb dX5_hole_20 rfl (lv_at hl 3 rfl) ?_
      refine rd_i (va_runV (As := [.int 2, .int z]) (rest := []) ⟨hx, hb, hml, hown, hts⟩ (c_X5_mayBe l D cI cZ o h ja jb t n g dr re ro h1 h2 h3 h4 h5 np nh mo fa ln 2 z (by first | omega | exact hnp)) (cwV 2 hts gX5_hole_X5_mayBe rfl rfl rfl hdV_X5_mayBe ⟨Nat.le_of_ble_eq_true rfl, Nat.le_of_ble_eq_true rfl⟩) (PR.V (hP.sub [0, 1, 2] rfl) hK hP (q0 := 0) rfl rfl) rfl rfl hl.1 rfl (lv_room (Nat.le_of_ble_eq_true rfl)) dX5_hole_21 ⟨Nat.le_of_ble_eq_true rfl, Nat.le_of_ble_eq_true rfl⟩) hP hS (fun H locs hP hS => ?_)
      refine lv_if_ne (tgt := 31) hx hb dX5_hole_24 (by decide) (fun c3 => ?_) (fun c3 => ?_)
      · skip
        refine lv_aload_n hx hb dX5_hole_31 rfl (lv_at hl 0 rfl) ?_
        refine va_get (D := D) (ci := 5) (v := .ref h) (C := RX5) (T := TX5) (N := 9) hx hb hts k5 hown hK.1 hP 0 rfl rfl 0 (by decide) (hts (.fieldLink RX5 12 "BoredPipes" "pipe" "LBoredPipes$Pipe;") (List.mem_of_getElem? (i := 1) rfl)) (fun _ h9 => h9) rfl dX5_hole_32 ?_
        refine lv_iload_n hx hb dX5_hole_35 rfl (lv_at hl 1 rfl) ?_
        refine rd_i (va_runV (As := [.int x]) (rest := []) ⟨hx, hb, hml, hown, hts⟩ (c_X2_holeAt l D cI cZ h h1 h2 h3 h4 h5 np nh mo fa pl x (by first | omega | exact hnh)) (cwV 1 hts gX5_hole_X2_holeAt rfl rfl rfl hdV_X2_holeAt ⟨Nat.le_of_ble_eq_true rfl, Nat.le_of_ble_eq_true rfl⟩) (PR.V (hP.sub [1, 3] rfl) hK hP (q0 := 1) rfl rfl) rfl rfl hl.1 rfl (lv_room (Nat.le_of_ble_eq_true rfl)) dX5_hole_36 ⟨Nat.le_of_ble_eq_true rfl, Nat.le_of_ble_eq_true rfl⟩) hP hS (fun H locs hP hS => ?_)
        refine lv_iconst (v := (-1)) hx hb dX5_hole_39 (by decide) ?_
        refine lv_icmp_eq (tgt := 47) hx hb dX5_hole_40 (by decide) (fun c4 => ?_) (fun c4 => ?_)
        · skip
          refine lv_aload_n hx hb dX5_hole_47 rfl (lv_at hl 0 rfl) ?_
          refine va_get (D := D) (ci := 5) (v := .ref h) (C := RX5) (T := TX5) (N := 9) hx hb hts k5 hown hK.1 hP 0 rfl rfl 0 (by decide) (hts (.fieldLink RX5 12 "BoredPipes" "pipe" "LBoredPipes$Pipe;") (List.mem_of_getElem? (i := 1) rfl)) (fun _ h9 => h9) rfl dX5_hole_48 ?_
          refine va_get (D := D) (ci := 2) (v := .int (nI nh)) (C := RX2) (T := TX2) (N := 9) hx hb hts k2 hown hK.1 hP 1 rfl rfl 6 (by decide) (hts (.fieldLink RX5 90 "BoredPipes$Pipe" "holes" "I") (List.mem_of_getElem? (i := 2) rfl)) (fun _ h9 => h9) rfl dX5_hole_51 ?_
          refine lv_bipush (v := 6) hx hb dX5_hole_54 (by decide) ?_
          refine lv_icmp_lt (tgt := 63) hx hb dX5_hole_56 (by decide) (fun c5 => ?_) (fun c5 => ?_)
          · skip
            have hlt : nh < 6 := nI_ltL (N := 6) c5 (by omega) (by decide)
            refine lv_aload_n hx hb dX5_hole_63 rfl (lv_at hl 0 rfl) ?_
            refine va_get (D := D) (ci := 5) (v := .ref h) (C := RX5) (T := TX5) (N := 9) hx hb hts k5 hown hK.1 hP 0 rfl rfl 0 (by decide) (hts (.fieldLink RX5 12 "BoredPipes" "pipe" "LBoredPipes$Pipe;") (List.mem_of_getElem? (i := 1) rfl)) (fun _ h9 => h9) rfl dX5_hole_64 ?_
            refine lv_iload_n hx hb dX5_hole_67 rfl (lv_at hl 1 rfl) ?_
            refine lv_iload_n hx hb dX5_hole_68 rfl (lv_at hl 2 rfl) ?_
            refine lv_iload_n hx hb dX5_hole_69 rfl (lv_at hl 3 rfl) ?_
            refine wr_v (va_runV (As := [.int x, .int y, .int z]) (rest := []) ⟨hx, hb, hml, hown, hts⟩ (c_X2_addHole l D cI cZ h h1 h2 h3 h4 h5 np nh mo fa pl sz ch x y z (by first | omega | exact hnh)) (cwV 3 hts gX5_hole_X2_addHole rfl rfl rfl hdV_X2_addHole ⟨Nat.le_of_ble_eq_true rfl, Nat.le_of_ble_eq_true rfl⟩) (PW.V (hP.sub [1, 3, 4, 5] rfl) hK ((hD.sub [1, 3, 4, 5] (by decide) rfl).weaken (fun _ _ _ _ => trivial)) hP (q0 := 1) rfl rfl) rfl rfl hl.1 rfl (lv_room (Nat.le_of_ble_eq_true rfl)) dX5_hole_70 ⟨Nat.le_of_ble_eq_true rfl, Nat.le_of_ble_eq_true rfl⟩) hP hD hS [1, 3, 4, 5] rfl (fun _ => rfl) (fun u6 H locs hu6 hP hD hS => ?_)
            have hP : va_P D vwCl [(o, .inr (5, [.ref h, .ref ja, .ref jb, .ref t, .ref n, .ref g, .long dr, .int re, .int ro])), (h, .inr (2, [.ref h1, .ref h2, .ref h3, .ref h4, .ref h5, .int (nI np), .int (nI (nh + 1)), .int mo, .int fa])), (h1, .inl (cI, 12, .inl ln)), (h3, .inl (cI, 6, .inl (upd pl nh x))), (h4, .inl (cI, 6, .inl (upd sz nh y))), (h5, .inl (cI, 6, .inl (upd ch nh z)))] H := hP
            have hD : va_D A [(o, .inr (5, [.ref h, .ref ja, .ref jb, .ref t, .ref n, .ref g, .long dr, .int re, .int ro])), (h, .inr (2, [.ref h1, .ref h2, .ref h3, .ref h4, .ref h5, .int (nI np), .int (nI (nh + 1)), .int mo, .int fa])), (h1, .inl (cI, 12, .inl ln)), (h3, .inl (cI, 6, .inl (upd pl nh x))), (h4, .inl (cI, 6, .inl (upd sz nh y))), (h5, .inl (cI, 6, .inl (upd ch nh z)))] := hD
            refine lv_aload_n hx hb dX5_hole_73 rfl (lv_at hl 0 rfl) ?_
            refine va_get (D := D) (ci := 5) (v := .ref h) (C := RX5) (T := TX5) (N := 9) hx hb hts k5 hown hK.1 hP 0 rfl rfl 0 (by decide) (hts (.fieldLink RX5 12 "BoredPipes" "pipe" "LBoredPipes$Pipe;") (List.mem_of_getElem? (i := 1) rfl)) (fun _ h9 => h9) rfl dX5_hole_74 ?_
            refine va_get (D := D) (ci := 2) (v := .int (nI (nh + 1))) (C := RX2) (T := TX2) (N := 9) hx hb hts k2 hown hK.1 hP 1 rfl rfl 6 (by decide) (hts (.fieldLink RX5 90 "BoredPipes$Pipe" "holes" "I") (List.mem_of_getElem? (i := 2) rfl)) (fun _ h9 => h9) rfl dX5_hole_77 ?_
            refine lv_iconst (v := 1) hx hb dX5_hole_80 (by decide) ?_
            refine lv_isub hx hb dX5_hole_81 ?_
            exact ret_WI hQ hx hb hr hlk hAe () (by show va_P D vwCl [(o, .inr (5, [.ref h, .ref ja, .ref jb, .ref t, .ref n, .ref g, .long dr, .int re, .int ro])), (h, .inr (2, [.ref h1, .ref h2, .ref h3, .ref h4, .ref h5, .int (nI np), .int (nI ((xHole x y z nh pl sz ch (fSum ln np 0 0)).2.1)), .int mo, .int fa])), (h1, .inl (cI, 12, .inl ln)), (h3, .inl (cI, 6, .inl ((xHole x y z nh pl sz ch (fSum ln np 0 0)).2.2.1))), (h4, .inl (cI, 6, .inl ((xHole x y z nh pl sz ch (fSum ln np 0 0)).2.2.2.1))), (h5, .inl (cI, 6, .inl ((xHole x y z nh pl sz ch (fSum ln np 0 0)).2.2.2.2)))] H; rw [show nI ((xHole x y z nh pl sz ch (fSum ln np 0 0)).2.1) = nI (nh + 1) from (by first | with_reducible rfl | (simp only [xHole, if_neg c1, if_neg c2, if_neg c3, if_pos c4, if_pos c5]; done) | (simp [xHole, if_neg c1, if_neg c2, if_neg c3, if_pos c4, if_pos c5]; done)), show (xHole x y z nh pl sz ch (fSum ln np 0 0)).2.2.1 = upd pl nh x from (by first | with_reducible rfl | (simp only [xHole, if_neg c1, if_neg c2, if_neg c3, if_pos c4, if_pos c5]; done) | (simp [xHole, if_neg c1, if_neg c2, if_neg c3, if_pos c4, if_pos c5]; done)), show (xHole x y z nh pl sz ch (fSum ln np 0 0)).2.2.2.1 = upd sz nh y from (by first | with_reducible rfl | (simp only [xHole, if_neg c1, if_neg c2, if_neg c3, if_pos c4, if_pos c5]; done) | (simp [xHole, if_neg c1, if_neg c2, if_neg c3, if_pos c4, if_pos c5]; done)), show (xHole x y z nh pl sz ch (fSum ln np 0 0)).2.2.2.2 = upd ch nh z from (by first | with_reducible rfl | (simp only [xHole, if_neg c1, if_neg c2, if_neg c3, if_pos c4, if_pos c5]; done) | (simp [xHole, if_neg c1, if_neg c2, if_neg c3, if_pos c4, if_pos c5]; done))]; exact hP) hS (show (xHole x y z nh pl sz ch (fSum ln np 0 0)).1 = (nI (nh + 1)) - 1 from (by first | with_reducible rfl | (simp only [xHole, if_neg c1, if_neg c2, if_neg c3, if_pos c4, if_pos c5]; done) | (simp [xHole, if_neg c1, if_neg c2, if_neg c3, if_pos c4, if_pos c5]; done))).symm dX5_hole_82
          · skip
            refine lv_sipush (v := (-1004)) hx hb dX5_hole_59 (by decide) ?_
            exact ret_WI hQ hx hb hr hlk hAe () (by show va_P D vwCl [(o, .inr (5, [.ref h, .ref ja, .ref jb, .ref t, .ref n, .ref g, .long dr, .int re, .int ro])), (h, .inr (2, [.ref h1, .ref h2, .ref h3, .ref h4, .ref h5, .int (nI np), .int (nI ((xHole x y z nh pl sz ch (fSum ln np 0 0)).2.1)), .int mo, .int fa])), (h1, .inl (cI, 12, .inl ln)), (h3, .inl (cI, 6, .inl ((xHole x y z nh pl sz ch (fSum ln np 0 0)).2.2.1))), (h4, .inl (cI, 6, .inl ((xHole x y z nh pl sz ch (fSum ln np 0 0)).2.2.2.1))), (h5, .inl (cI, 6, .inl ((xHole x y z nh pl sz ch (fSum ln np 0 0)).2.2.2.2)))] H; rw [show nI ((xHole x y z nh pl sz ch (fSum ln np 0 0)).2.1) = nI nh from (by first | with_reducible rfl | (simp only [xHole, if_neg c1, if_neg c2, if_neg c3, if_pos c4, if_neg c5]; done) | (simp [xHole, if_neg c1, if_neg c2, if_neg c3, if_pos c4, if_neg c5]; done)), show (xHole x y z nh pl sz ch (fSum ln np 0 0)).2.2.1 = pl from (by first | with_reducible rfl | (simp only [xHole, if_neg c1, if_neg c2, if_neg c3, if_pos c4, if_neg c5]; done) | (simp [xHole, if_neg c1, if_neg c2, if_neg c3, if_pos c4, if_neg c5]; done)), show (xHole x y z nh pl sz ch (fSum ln np 0 0)).2.2.2.1 = sz from (by first | with_reducible rfl | (simp only [xHole, if_neg c1, if_neg c2, if_neg c3, if_pos c4, if_neg c5]; done) | (simp [xHole, if_neg c1, if_neg c2, if_neg c3, if_pos c4, if_neg c5]; done)), show (xHole x y z nh pl sz ch (fSum ln np 0 0)).2.2.2.2 = ch from (by first | with_reducible rfl | (simp only [xHole, if_neg c1, if_neg c2, if_neg c3, if_pos c4, if_neg c5]; done) | (simp [xHole, if_neg c1, if_neg c2, if_neg c3, if_pos c4, if_neg c5]; done))]; exact hP) hS (show (xHole x y z nh pl sz ch (fSum ln np 0 0)).1 = (-1004) from (by first | with_reducible rfl | (simp only [xHole, if_neg c1, if_neg c2, if_neg c3, if_pos c4, if_neg c5]; done) | (simp [xHole, if_neg c1, if_neg c2, if_neg c3, if_pos c4, if_neg c5]; done))).symm dX5_hole_62
        · skip
          refine lv_sipush (v := (-1003)) hx hb dX5_hole_43 (by decide) ?_
          exact ret_WI hQ hx hb hr hlk hAe () (by show va_P D vwCl [(o, .inr (5, [.ref h, .ref ja, .ref jb, .ref t, .ref n, .ref g, .long dr, .int re, .int ro])), (h, .inr (2, [.ref h1, .ref h2, .ref h3, .ref h4, .ref h5, .int (nI np), .int (nI ((xHole x y z nh pl sz ch (fSum ln np 0 0)).2.1)), .int mo, .int fa])), (h1, .inl (cI, 12, .inl ln)), (h3, .inl (cI, 6, .inl ((xHole x y z nh pl sz ch (fSum ln np 0 0)).2.2.1))), (h4, .inl (cI, 6, .inl ((xHole x y z nh pl sz ch (fSum ln np 0 0)).2.2.2.1))), (h5, .inl (cI, 6, .inl ((xHole x y z nh pl sz ch (fSum ln np 0 0)).2.2.2.2)))] H; rw [show nI ((xHole x y z nh pl sz ch (fSum ln np 0 0)).2.1) = nI nh from (by first | with_reducible rfl | (simp only [xHole, if_neg c1, if_neg c2, if_neg c3, if_neg c4]; done) | (simp [xHole, if_neg c1, if_neg c2, if_neg c3, if_neg c4]; done)), show (xHole x y z nh pl sz ch (fSum ln np 0 0)).2.2.1 = pl from (by first | with_reducible rfl | (simp only [xHole, if_neg c1, if_neg c2, if_neg c3, if_neg c4]; done) | (simp [xHole, if_neg c1, if_neg c2, if_neg c3, if_neg c4]; done)), show (xHole x y z nh pl sz ch (fSum ln np 0 0)).2.2.2.1 = sz from (by first | with_reducible rfl | (simp only [xHole, if_neg c1, if_neg c2, if_neg c3, if_neg c4]; done) | (simp [xHole, if_neg c1, if_neg c2, if_neg c3, if_neg c4]; done)), show (xHole x y z nh pl sz ch (fSum ln np 0 0)).2.2.2.2 = ch from (by first | with_reducible rfl | (simp only [xHole, if_neg c1, if_neg c2, if_neg c3, if_neg c4]; done) | (simp [xHole, if_neg c1, if_neg c2, if_neg c3, if_neg c4]; done))]; exact hP) hS (show (xHole x y z nh pl sz ch (fSum ln np 0 0)).1 = (-1003) from (by first | with_reducible rfl | (simp only [xHole, if_neg c1, if_neg c2, if_neg c3, if_neg c4]; done) | (simp [xHole, if_neg c1, if_neg c2, if_neg c3, if_neg c4]; done))).symm dX5_hole_46
      · skip
        refine lv_sipush (v := (-1002)) hx hb dX5_hole_27 (by decide) ?_
        exact ret_WI hQ hx hb hr hlk hAe () (by show va_P D vwCl [(o, .inr (5, [.ref h, .ref ja, .ref jb, .ref t, .ref n, .ref g, .long dr, .int re, .int ro])), (h, .inr (2, [.ref h1, .ref h2, .ref h3, .ref h4, .ref h5, .int (nI np), .int (nI ((xHole x y z nh pl sz ch (fSum ln np 0 0)).2.1)), .int mo, .int fa])), (h1, .inl (cI, 12, .inl ln)), (h3, .inl (cI, 6, .inl ((xHole x y z nh pl sz ch (fSum ln np 0 0)).2.2.1))), (h4, .inl (cI, 6, .inl ((xHole x y z nh pl sz ch (fSum ln np 0 0)).2.2.2.1))), (h5, .inl (cI, 6, .inl ((xHole x y z nh pl sz ch (fSum ln np 0 0)).2.2.2.2)))] H; rw [show nI ((xHole x y z nh pl sz ch (fSum ln np 0 0)).2.1) = nI nh from (by first | with_reducible rfl | (simp only [xHole, if_neg c1, if_neg c2, if_pos c3]; done) | (simp [xHole, if_neg c1, if_neg c2, if_pos c3]; done)), show (xHole x y z nh pl sz ch (fSum ln np 0 0)).2.2.1 = pl from (by first | with_reducible rfl | (simp only [xHole, if_neg c1, if_neg c2, if_pos c3]; done) | (simp [xHole, if_neg c1, if_neg c2, if_pos c3]; done)), show (xHole x y z nh pl sz ch (fSum ln np 0 0)).2.2.2.1 = sz from (by first | with_reducible rfl | (simp only [xHole, if_neg c1, if_neg c2, if_pos c3]; done) | (simp [xHole, if_neg c1, if_neg c2, if_pos c3]; done)), show (xHole x y z nh pl sz ch (fSum ln np 0 0)).2.2.2.2 = ch from (by first | with_reducible rfl | (simp only [xHole, if_neg c1, if_neg c2, if_pos c3]; done) | (simp [xHole, if_neg c1, if_neg c2, if_pos c3]; done))]; exact hP) hS (show (xHole x y z nh pl sz ch (fSum ln np 0 0)).1 = (-1002) from (by first | with_reducible rfl | (simp only [xHole, if_neg c1, if_neg c2, if_pos c3]; done) | (simp [xHole, if_neg c1, if_neg c2, if_pos c3]; done))).symm dX5_hole_30

set_option maxHeartbeats 4000000 in
set_option maxRecDepth 100000 in
theorem c_X5_set (l : Launch) (D : va_G) (cI cZ : ClassId) (o : Nat) (h : Nat) (ja : Nat) (jb : Nat) (t : Nat) (n : Nat) (g : Nat) (dr : Int64) (re : Int32) (ro : Int32) (h1 : Nat) (h2 : Nat) (h3 : Nat) (h4 : Nat) (h5 : Nat) (np : Nat) (nh : Nat) (mo : Int32) (fa : Int32) (ln : Nat → Int32) (pl : Nat → Int32) (sz : Nat → Int32) (ch : Nat → Int32) (x : Int32) (y : Int32) (v : Int32) (hnp : np ≤ 12) (hnh : nh ≤ 6) : Met l yX5_set wsX5_set rmX5_set (va_Pc [.ref o, .int x, .int y, .int v] (PW D cI cZ [(o, .inr (5, [.ref h, .ref ja, .ref jb, .ref t, .ref n, .ref g, .long dr, .int re, .int ro])), (h, .inr (2, [.ref h1, .ref h2, .ref h3, .ref h4, .ref h5, .int (nI np), .int (nI nh), .int mo, .int fa])), (h1, .inl (cI, 12, .inl ln)), (h3, .inl (cI, 6, .inl pl)), (h4, .inl (cI, 6, .inl sz)), (h5, .inl (cI, 6, .inl ch))])) (WI (S := Unit) D (fun zr _ => zr = (xSet x y v nh pl sz ch (fSum ln np 0 0)).1) (fun _ => [(o, .inr (5, [.ref h, .ref ja, .ref jb, .ref t, .ref n, .ref g, .long dr, .int re, .int ro])), (h, .inr (2, [.ref h1, .ref h2, .ref h3, .ref h4, .ref h5, .int (nI np), .int (nI nh), .int mo, .int fa])), (h1, .inl (cI, 12, .inl ln)), (h3, .inl (cI, 6, .inl ((xSet x y v nh pl sz ch (fSum ln np 0 0)).2.1))), (h4, .inl (cI, 6, .inl ((xSet x y v nh pl sz ch (fSum ln np 0 0)).2.2.1))), (h5, .inl (cI, 6, .inl ((xSet x y v nh pl sz ch (fSum ln np 0 0)).2.2.2)))]) [(o, .inr (5, [.ref h, .ref ja, .ref jb, .ref t, .ref n, .ref g, .long dr, .int re, .int ro])), (h, .inr (2, [.ref h1, .ref h2, .ref h3, .ref h4, .ref h5, .int (nI np), .int (nI nh), .int mo, .int fa])), (h1, .inl (cI, 12, .inl ln)), (h3, .inl (cI, 6, .inl pl)), (h4, .inl (cI, 6, .inl sz)), (h5, .inl (cI, 6, .inl ch))]) 0 0 (ad [(o, .inr (5, [.ref h, .ref ja, .ref jb, .ref t, .ref n, .ref g, .long dr, .int re, .int ro])), (h, .inr (2, [.ref h1, .ref h2, .ref h3, .ref h4, .ref h5, .int (nI np), .int (nI nh), .int mo, .int fa])), (h1, .inl (cI, 12, .inl ln)), (h3, .inl (cI, 6, .inl pl)), (h4, .inl (cI, 6, .inl sz)), (h5, .inl (cI, 6, .inl ch))]) := by
  refine met_go (cc := cX5_set) (maxL := 5) (ret := (some .int)) (by decide) rfl ?_ (Nat.le_of_ble_eq_true rfl)
  intro p e s m a below meth c Q hQ _ hx hb hr hml hts hown hlk hnm hpre ls hl
  have hown : s.vm.findClass RX5 = some m.cls := hown
  obtain ⟨hP, hK, hD0⟩ := hpre
  have hN := hK.2
  obtain ⟨A, hAe⟩ : ∃ A : Nat → Prop, A = ad [(o, .inr (5, [.ref h, .ref ja, .ref jb, .ref t, .ref n, .ref g, .long dr, .int re, .int ro])), (h, .inr (2, [.ref h1, .ref h2, .ref h3, .ref h4, .ref h5, .int (nI np), .int (nI nh), .int mo, .int fa])), (h1, .inl (cI, 12, .inl ln)), (h3, .inl (cI, 6, .inl pl)), (h4, .inl (cI, 6, .inl sz)), (h5, .inl (cI, 6, .inl ch))] := ⟨_, rfl⟩
  have hD : va_D A [(o, .inr (5, [.ref h, .ref ja, .ref jb, .ref t, .ref n, .ref g, .long dr, .int re, .int ro])), (h, .inr (2, [.ref h1, .ref h2, .ref h3, .ref h4, .ref h5, .int (nI np), .int (nI nh), .int mo, .int fa])), (h1, .inl (cI, 12, .inl ln)), (h3, .inl (cI, 6, .inl pl)), (h4, .inl (cI, 6, .inl sz)), (h5, .inl (cI, 6, .inl ch))] := by rw [hAe]; exact hD0.ad
  have hS : va_S A s.heap s.heap [] := va_S.rf
  have hl : lv_has ls 5 [(0, .ref o), (1, .int x), (2, .int y), (3, .int v)] := hl
  have k2 : ∀ w ∈ wsX20, w ∈ wsX5_set := fun w h => List.mem_cons_of_mem _ (List.mem_append_right _ h)
  have k5 : ∀ w ∈ wsX50, w ∈ wsX5_set := fun w h => List.mem_cons_of_mem _ (List.mem_append_left _ (List.mem_append_right _ h))
  refine lv_iload_n hx hb dX5_set_0 rfl (lv_at hl 1 rfl) ?_
  refine lv_iconst (v := 0) hx hb dX5_set_1 (by decide) ?_
  refine lv_aload_n hx hb dX5_set_2 rfl (lv_at hl 0 rfl) ?_
  refine va_get (D := D) (ci := 5) (v := .ref h) (C := RX5) (T := TX5) (N := 9) hx hb hts k5 hown hK.1 hP 0 rfl rfl 0 (by decide) (hts (.fieldLink RX5 12 "BoredPipes" "pipe" "LBoredPipes$Pipe;") (List.mem_of_getElem? (i := 1) rfl)) (fun _ h9 => h9) rfl dX5_set_3 ?_
  refine va_get (D := D) (ci := 2) (v := .int (nI nh)) (C := RX2) (T := TX2) (N := 9) hx hb hts k2 hown hK.1 hP 1 rfl rfl 6 (by decide) (hts (.fieldLink RX5 90 "BoredPipes$Pipe" "holes" "I") (List.mem_of_getElem? (i := 2) rfl)) (fun _ h9 => h9) rfl dX5_set_6 ?_
  refine lv_iconst (v := 1) hx hb dX5_set_9 (by decide) ?_
  refine lv_isub hx hb dX5_set_10 ?_
  refine rd_i (va_runS (As := [.int x, .int 0, .int ((nI nh) - 1)]) (rest := []) ⟨hx, hb, hml, hown, hts⟩ (c_X5_within l D cI cZ x 0 ((nI nh) - 1)) (va_cwS 3 hts gX5_set_X5_within rfl rfl rfl hdV_X5_within.2 ⟨Nat.le_of_ble_eq_true rfl, Nat.le_of_ble_eq_true rfl⟩) (PR.S (hP.sub [] rfl) hK) rfl rfl hl.1 rfl (lv_room (Nat.le_of_ble_eq_true rfl)) dX5_set_11 ⟨Nat.le_of_ble_eq_true rfl, Nat.le_of_ble_eq_true rfl⟩) hP hS (fun H locs hP hS => ?_)
  refine lv_if_ne (tgt := 21) hx hb dX5_set_14 (by decide) (fun c1 => ?_) (fun c1 => ?_)
  · skip
    obtain ⟨k, hk, rfl⟩ := fIn_hole c1 (by omega)
    refine lv_aload_n hx hb dX5_set_21 rfl (lv_at hl 0 rfl) ?_
    refine lv_iload_n hx hb dX5_set_22 rfl (lv_at hl 2 rfl) ?_
    refine lv_iload_n hx hb dX5_set_23 rfl (lv_at hl 3 rfl) ?_
    refine rd_i (va_runV (As := [.int y, .int v]) (rest := []) ⟨hx, hb, hml, hown, hts⟩ (c_X5_mayBe l D cI cZ o h ja jb t n g dr re ro h1 h2 h3 h4 h5 np nh mo fa ln y v (by first | omega | exact hnp)) (cwV 2 hts gX5_set_X5_mayBe rfl rfl rfl hdV_X5_mayBe ⟨Nat.le_of_ble_eq_true rfl, Nat.le_of_ble_eq_true rfl⟩) (PR.V (hP.sub [0, 1, 2] rfl) hK hP (q0 := 0) rfl rfl) rfl rfl hl.1 rfl (lv_room (Nat.le_of_ble_eq_true rfl)) dX5_set_24 ⟨Nat.le_of_ble_eq_true rfl, Nat.le_of_ble_eq_true rfl⟩) hP hS (fun H locs hP hS => ?_)
    refine lv_if_ne (tgt := 34) hx hb dX5_set_27 (by decide) (fun c2 => ?_) (fun c2 => ?_)
    · skip
      refine lv_iload_n hx hb dX5_set_34 rfl (lv_at hl 2 rfl) ?_
      refine lv_if_ne (tgt := 69) hx hb dX5_set_35 (by decide) (fun c3 => ?_) (fun c3 => ?_)
      · skip
        refine lv_aload_n hx hb dX5_set_69 rfl (lv_at hl 0 rfl) ?_
        refine va_get (D := D) (ci := 5) (v := .ref h) (C := RX5) (T := TX5) (N := 9) hx hb hts k5 hown hK.1 hP 0 rfl rfl 0 (by decide) (hts (.fieldLink RX5 12 "BoredPipes" "pipe" "LBoredPipes$Pipe;") (List.mem_of_getElem? (i := 1) rfl)) (fun _ h9 => h9) rfl dX5_set_70 ?_
        refine lv_iload_n hx hb dX5_set_73 rfl (lv_at hl 1 rfl) ?_
        refine lv_iload_n hx hb dX5_set_74 rfl (lv_at hl 2 rfl) ?_
        refine rd_i (va_runV (As := [.int (nI k), .int y]) (rest := []) ⟨hx, hb, hml, hown, hts⟩ (c_X2_ofHole l D cI cZ h h1 h2 h3 h4 h5 np nh mo fa pl sz ch k y (by omega)) (cwV 2 hts gX5_set_X2_ofHole rfl rfl rfl hdV_X2_ofHole ⟨Nat.le_of_ble_eq_true rfl, Nat.le_of_ble_eq_true rfl⟩) (PR.V (hP.sub [1, 3, 4, 5] rfl) hK hP (q0 := 1) rfl rfl) rfl rfl hl.1 rfl (lv_room (Nat.le_of_ble_eq_true rfl)) dX5_set_75 ⟨Nat.le_of_ble_eq_true rfl, Nat.le_of_ble_eq_true rfl⟩) hP hS (fun H locs hP hS => ?_)
        refine lv_istore (lv' := [(4, .int (fRow3 pl sz ch y k)), (0, .ref o), (1, .int (nI k)), (2, .int y), (3, .int v)]) hx hb dX5_set_78 hl (by decide) rfl (fun ls hl => ?_)
        refine lv_aload_n hx hb dX5_set_80 rfl (lv_at hl 1 rfl) ?_
        refine va_get (D := D) (ci := 5) (v := .ref h) (C := RX5) (T := TX5) (N := 9) hx hb hts k5 hown hK.1 hP 0 rfl rfl 0 (by decide) (hts (.fieldLink RX5 12 "BoredPipes" "pipe" "LBoredPipes$Pipe;") (List.mem_of_getElem? (i := 1) rfl)) (fun _ h9 => h9) rfl dX5_set_81 ?_
        refine lv_iload_n hx hb dX5_set_84 rfl (lv_at hl 2 rfl) ?_
        refine lv_iload_n hx hb dX5_set_85 rfl (lv_at hl 3 rfl) ?_
        refine lv_iload_n hx hb dX5_set_86 rfl (lv_at hl 4 rfl) ?_
        refine wr_v (va_runV (As := [.int (nI k), .int y, .int v]) (rest := []) ⟨hx, hb, hml, hown, hts⟩ (c_X2_changeHole l D cI cZ h h1 h2 h3 h4 h5 np nh mo fa pl sz ch k y v (by omega)) (cwV 3 hts gX5_set_X2_changeHole rfl rfl rfl hdV_X2_changeHole ⟨Nat.le_of_ble_eq_true rfl, Nat.le_of_ble_eq_true rfl⟩) (PW.V (hP.sub [1, 3, 4, 5] rfl) hK ((hD.sub [1, 3, 4, 5] (by decide) rfl).weaken (fun _ _ _ _ => trivial)) hP (q0 := 1) rfl rfl) rfl rfl hl.1 rfl (lv_room (Nat.le_of_ble_eq_true rfl)) dX5_set_87 ⟨Nat.le_of_ble_eq_true rfl, Nat.le_of_ble_eq_true rfl⟩) hP hD hS [1, 3, 4, 5] rfl (fun _ => rfl) (fun u4 H locs hu4 hP hD hS => ?_)
        have hP : va_P D vwCl [(o, .inr (5, [.ref h, .ref ja, .ref jb, .ref t, .ref n, .ref g, .long dr, .int re, .int ro])), (h, .inr (2, [.ref h1, .ref h2, .ref h3, .ref h4, .ref h5, .int (nI np), .int (nI nh), .int mo, .int fa])), (h1, .inl (cI, 12, .inl ln)), (h3, .inl (cI, 6, .inl (cPl pl y k v))), (h4, .inl (cI, 6, .inl (cSz sz y k v))), (h5, .inl (cI, 6, .inl (cCh ch y k v)))] H := hP
        have hD : va_D A [(o, .inr (5, [.ref h, .ref ja, .ref jb, .ref t, .ref n, .ref g, .long dr, .int re, .int ro])), (h, .inr (2, [.ref h1, .ref h2, .ref h3, .ref h4, .ref h5, .int (nI np), .int (nI nh), .int mo, .int fa])), (h1, .inl (cI, 12, .inl ln)), (h3, .inl (cI, 6, .inl (cPl pl y k v))), (h4, .inl (cI, 6, .inl (cSz sz y k v))), (h5, .inl (cI, 6, .inl (cCh ch y k v)))] := hD
        refine lv_iload hx hb dX5_set_90 (lv_at hl 0 rfl) ?_
        exact ret_WI hQ hx hb hr hlk hAe () (by show va_P D vwCl [(o, .inr (5, [.ref h, .ref ja, .ref jb, .ref t, .ref n, .ref g, .long dr, .int re, .int ro])), (h, .inr (2, [.ref h1, .ref h2, .ref h3, .ref h4, .ref h5, .int (nI np), .int (nI nh), .int mo, .int fa])), (h1, .inl (cI, 12, .inl ln)), (h3, .inl (cI, 6, .inl ((xSet (nI k) y v nh pl sz ch (fSum ln np 0 0)).2.1))), (h4, .inl (cI, 6, .inl ((xSet (nI k) y v nh pl sz ch (fSum ln np 0 0)).2.2.1))), (h5, .inl (cI, 6, .inl ((xSet (nI k) y v nh pl sz ch (fSum ln np 0 0)).2.2.2)))] H; rw [show (xSet (nI k) y v nh pl sz ch (fSum ln np 0 0)).2.1 = cPl pl y k v from (by first | with_reducible rfl | (simp only [xSet, nI_clamp (show k < 2147483648 from by omega), if_neg c1, if_neg c2, if_neg c3]; done) | (simp [xSet, nI_clamp (show k < 2147483648 from by omega), if_neg c1, if_neg c2, if_neg c3]; done)), show (xSet (nI k) y v nh pl sz ch (fSum ln np 0 0)).2.2.1 = cSz sz y k v from (by first | with_reducible rfl | (simp only [xSet, nI_clamp (show k < 2147483648 from by omega), if_neg c1, if_neg c2, if_neg c3]; done) | (simp [xSet, nI_clamp (show k < 2147483648 from by omega), if_neg c1, if_neg c2, if_neg c3]; done)), show (xSet (nI k) y v nh pl sz ch (fSum ln np 0 0)).2.2.2 = cCh ch y k v from (by first | with_reducible rfl | (simp only [xSet, nI_clamp (show k < 2147483648 from by omega), if_neg c1, if_neg c2, if_neg c3]; done) | (simp [xSet, nI_clamp (show k < 2147483648 from by omega), if_neg c1, if_neg c2, if_neg c3]; done))]; exact hP) hS (show (xSet (nI k) y v nh pl sz ch (fSum ln np 0 0)).1 = fRow3 pl sz ch y k from (by first | with_reducible rfl | (simp only [xSet, nI_clamp (show k < 2147483648 from by omega), if_neg c1, if_neg c2, if_neg c3]; done) | (simp [xSet, nI_clamp (show k < 2147483648 from by omega), if_neg c1, if_neg c2, if_neg c3]; done))).symm dX5_set_92
      · skip
        refine lv_iload_n hx hb dX5_set_38 rfl (lv_at hl 3 rfl) ?_
        refine lv_aload_n hx hb dX5_set_39 rfl (lv_at hl 0 rfl) ?_
        refine va_get (D := D) (ci := 5) (v := .ref h) (C := RX5) (T := TX5) (N := 9) hx hb hts k5 hown hK.1 hP 0 rfl rfl 0 (by decide) (hts (.fieldLink RX5 12 "BoredPipes" "pipe" "LBoredPipes$Pipe;") (List.mem_of_getElem? (i := 1) rfl)) (fun _ h9 => h9) rfl dX5_set_40 ?_
        refine va_get (D := D) (ci := 2) (v := .ref h3) (C := RX2) (T := TX2) (N := 9) hx hb hts k2 hown hK.1 hP 1 rfl rfl 2 (by decide) (hts (.fieldLink RX5 97 "BoredPipes$Pipe" "places" "[I") (List.mem_of_getElem? (i := 3) rfl)) (fun _ h9 => h9) rfl dX5_set_43 ?_
        refine lv_iload_n hx hb dX5_set_46 rfl (lv_at hl 1 rfl) ?_
        refine rd_i (va_runS (As := [.ref h3, .int (nI k)]) (rest := [.int v]) ⟨hx, hb, hml, hown, hts⟩ (c_X5_at_in l D cI cZ h3 6 pl k (by omega) (by omega)) (va_cwS 2 hts gX5_set_X5_at rfl rfl rfl hdV_X5_at.2 ⟨Nat.le_of_ble_eq_true rfl, Nat.le_of_ble_eq_true rfl⟩) (PR.S (hP.sub [3] rfl) hK) rfl rfl hl.1 rfl (lv_room (Nat.le_of_ble_eq_true rfl)) dX5_set_47 ⟨Nat.le_of_ble_eq_true rfl, Nat.le_of_ble_eq_true rfl⟩) hP hS (fun H locs hP hS => ?_)
        refine lv_icmp_eq (tgt := 69) hx hb dX5_set_50 (by decide) (fun c5 => ?_) (fun c5 => ?_)
        · skip
          refine lv_aload_n hx hb dX5_set_69 rfl (lv_at hl 0 rfl) ?_
          refine va_get (D := D) (ci := 5) (v := .ref h) (C := RX5) (T := TX5) (N := 9) hx hb hts k5 hown hK.1 hP 0 rfl rfl 0 (by decide) (hts (.fieldLink RX5 12 "BoredPipes" "pipe" "LBoredPipes$Pipe;") (List.mem_of_getElem? (i := 1) rfl)) (fun _ h9 => h9) rfl dX5_set_70 ?_
          refine lv_iload_n hx hb dX5_set_73 rfl (lv_at hl 1 rfl) ?_
          refine lv_iload_n hx hb dX5_set_74 rfl (lv_at hl 2 rfl) ?_
          refine rd_i (va_runV (As := [.int (nI k), .int y]) (rest := []) ⟨hx, hb, hml, hown, hts⟩ (c_X2_ofHole l D cI cZ h h1 h2 h3 h4 h5 np nh mo fa pl sz ch k y (by omega)) (cwV 2 hts gX5_set_X2_ofHole rfl rfl rfl hdV_X2_ofHole ⟨Nat.le_of_ble_eq_true rfl, Nat.le_of_ble_eq_true rfl⟩) (PR.V (hP.sub [1, 3, 4, 5] rfl) hK hP (q0 := 1) rfl rfl) rfl rfl hl.1 rfl (lv_room (Nat.le_of_ble_eq_true rfl)) dX5_set_75 ⟨Nat.le_of_ble_eq_true rfl, Nat.le_of_ble_eq_true rfl⟩) hP hS (fun H locs hP hS => ?_)
          refine lv_istore (lv' := [(4, .int (fRow3 pl sz ch y k)), (0, .ref o), (1, .int (nI k)), (2, .int y), (3, .int v)]) hx hb dX5_set_78 hl (by decide) rfl (fun ls hl => ?_)
          refine lv_aload_n hx hb dX5_set_80 rfl (lv_at hl 1 rfl) ?_
          refine va_get (D := D) (ci := 5) (v := .ref h) (C := RX5) (T := TX5) (N := 9) hx hb hts k5 hown hK.1 hP 0 rfl rfl 0 (by decide) (hts (.fieldLink RX5 12 "BoredPipes" "pipe" "LBoredPipes$Pipe;") (List.mem_of_getElem? (i := 1) rfl)) (fun _ h9 => h9) rfl dX5_set_81 ?_
          refine lv_iload_n hx hb dX5_set_84 rfl (lv_at hl 2 rfl) ?_
          refine lv_iload_n hx hb dX5_set_85 rfl (lv_at hl 3 rfl) ?_
          refine lv_iload_n hx hb dX5_set_86 rfl (lv_at hl 4 rfl) ?_
          refine wr_v (va_runV (As := [.int (nI k), .int y, .int v]) (rest := []) ⟨hx, hb, hml, hown, hts⟩ (c_X2_changeHole l D cI cZ h h1 h2 h3 h4 h5 np nh mo fa pl sz ch k y v (by omega)) (cwV 3 hts gX5_set_X2_changeHole rfl rfl rfl hdV_X2_changeHole ⟨Nat.le_of_ble_eq_true rfl, Nat.le_of_ble_eq_true rfl⟩) (PW.V (hP.sub [1, 3, 4, 5] rfl) hK ((hD.sub [1, 3, 4, 5] (by decide) rfl).weaken (fun _ _ _ _ => trivial)) hP (q0 := 1) rfl rfl) rfl rfl hl.1 rfl (lv_room (Nat.le_of_ble_eq_true rfl)) dX5_set_87 ⟨Nat.le_of_ble_eq_true rfl, Nat.le_of_ble_eq_true rfl⟩) hP hD hS [1, 3, 4, 5] rfl (fun _ => rfl) (fun u6 H locs hu6 hP hD hS => ?_)
          have hP : va_P D vwCl [(o, .inr (5, [.ref h, .ref ja, .ref jb, .ref t, .ref n, .ref g, .long dr, .int re, .int ro])), (h, .inr (2, [.ref h1, .ref h2, .ref h3, .ref h4, .ref h5, .int (nI np), .int (nI nh), .int mo, .int fa])), (h1, .inl (cI, 12, .inl ln)), (h3, .inl (cI, 6, .inl (cPl pl y k v))), (h4, .inl (cI, 6, .inl (cSz sz y k v))), (h5, .inl (cI, 6, .inl (cCh ch y k v)))] H := hP
          have hD : va_D A [(o, .inr (5, [.ref h, .ref ja, .ref jb, .ref t, .ref n, .ref g, .long dr, .int re, .int ro])), (h, .inr (2, [.ref h1, .ref h2, .ref h3, .ref h4, .ref h5, .int (nI np), .int (nI nh), .int mo, .int fa])), (h1, .inl (cI, 12, .inl ln)), (h3, .inl (cI, 6, .inl (cPl pl y k v))), (h4, .inl (cI, 6, .inl (cSz sz y k v))), (h5, .inl (cI, 6, .inl (cCh ch y k v)))] := hD
          refine lv_iload hx hb dX5_set_90 (lv_at hl 0 rfl) ?_
          exact ret_WI hQ hx hb hr hlk hAe () (by show va_P D vwCl [(o, .inr (5, [.ref h, .ref ja, .ref jb, .ref t, .ref n, .ref g, .long dr, .int re, .int ro])), (h, .inr (2, [.ref h1, .ref h2, .ref h3, .ref h4, .ref h5, .int (nI np), .int (nI nh), .int mo, .int fa])), (h1, .inl (cI, 12, .inl ln)), (h3, .inl (cI, 6, .inl ((xSet (nI k) y v nh pl sz ch (fSum ln np 0 0)).2.1))), (h4, .inl (cI, 6, .inl ((xSet (nI k) y v nh pl sz ch (fSum ln np 0 0)).2.2.1))), (h5, .inl (cI, 6, .inl ((xSet (nI k) y v nh pl sz ch (fSum ln np 0 0)).2.2.2)))] H; rw [show (xSet (nI k) y v nh pl sz ch (fSum ln np 0 0)).2.1 = cPl pl y k v from (by first | with_reducible rfl | (simp only [xSet, nI_clamp (show k < 2147483648 from by omega), if_neg c1, if_neg c2, if_pos c3, if_pos c5]; done) | (simp [xSet, nI_clamp (show k < 2147483648 from by omega), if_neg c1, if_neg c2, if_pos c3, if_pos c5]; done)), show (xSet (nI k) y v nh pl sz ch (fSum ln np 0 0)).2.2.1 = cSz sz y k v from (by first | with_reducible rfl | (simp only [xSet, nI_clamp (show k < 2147483648 from by omega), if_neg c1, if_neg c2, if_pos c3, if_pos c5]; done) | (simp [xSet, nI_clamp (show k < 2147483648 from by omega), if_neg c1, if_neg c2, if_pos c3, if_pos c5]; done)), show (xSet (nI k) y v nh pl sz ch (fSum ln np 0 0)).2.2.2 = cCh ch y k v from (by first | with_reducible rfl | (simp only [xSet, nI_clamp (show k < 2147483648 from by omega), if_neg c1, if_neg c2, if_pos c3, if_pos c5]; done) | (simp [xSet, nI_clamp (show k < 2147483648 from by omega), if_neg c1, if_neg c2, if_pos c3, if_pos c5]; done))]; exact hP) hS (show (xSet (nI k) y v nh pl sz ch (fSum ln np 0 0)).1 = fRow3 pl sz ch y k from (by first | with_reducible rfl | (simp only [xSet, nI_clamp (show k < 2147483648 from by omega), if_neg c1, if_neg c2, if_pos c3, if_pos c5]; done) | (simp [xSet, nI_clamp (show k < 2147483648 from by omega), if_neg c1, if_neg c2, if_pos c3, if_pos c5]; done))).symm dX5_set_92
        · skip
          refine lv_aload_n hx hb dX5_set_53 rfl (lv_at hl 0 rfl) ?_
          refine va_get (D := D) (ci := 5) (v := .ref h) (C := RX5) (T := TX5) (N := 9) hx hb hts k5 hown hK.1 hP 0 rfl rfl 0 (by decide) (hts (.fieldLink RX5 12 "BoredPipes" "pipe" "LBoredPipes$Pipe;") (List.mem_of_getElem? (i := 1) rfl)) (fun _ h9 => h9) rfl dX5_set_54 ?_
          refine lv_iload_n hx hb dX5_set_57 rfl (lv_at hl 3 rfl) ?_
          refine rd_i (va_runV (As := [.int v]) (rest := []) ⟨hx, hb, hml, hown, hts⟩ (c_X2_holeAt l D cI cZ h h1 h2 h3 h4 h5 np nh mo fa pl v (by first | omega | exact hnh)) (cwV 1 hts gX5_set_X2_holeAt rfl rfl rfl hdV_X2_holeAt ⟨Nat.le_of_ble_eq_true rfl, Nat.le_of_ble_eq_true rfl⟩) (PR.V (hP.sub [1, 3] rfl) hK hP (q0 := 1) rfl rfl) rfl rfl hl.1 rfl (lv_room (Nat.le_of_ble_eq_true rfl)) dX5_set_58 ⟨Nat.le_of_ble_eq_true rfl, Nat.le_of_ble_eq_true rfl⟩) hP hS (fun H locs hP hS => ?_)
          refine lv_iconst (v := (-1)) hx hb dX5_set_61 (by decide) ?_
          refine lv_icmp_eq (tgt := 69) hx hb dX5_set_62 (by decide) (fun c7 => ?_) (fun c7 => ?_)
          · skip
            refine lv_aload_n hx hb dX5_set_69 rfl (lv_at hl 0 rfl) ?_
            refine va_get (D := D) (ci := 5) (v := .ref h) (C := RX5) (T := TX5) (N := 9) hx hb hts k5 hown hK.1 hP 0 rfl rfl 0 (by decide) (hts (.fieldLink RX5 12 "BoredPipes" "pipe" "LBoredPipes$Pipe;") (List.mem_of_getElem? (i := 1) rfl)) (fun _ h9 => h9) rfl dX5_set_70 ?_
            refine lv_iload_n hx hb dX5_set_73 rfl (lv_at hl 1 rfl) ?_
            refine lv_iload_n hx hb dX5_set_74 rfl (lv_at hl 2 rfl) ?_
            refine rd_i (va_runV (As := [.int (nI k), .int y]) (rest := []) ⟨hx, hb, hml, hown, hts⟩ (c_X2_ofHole l D cI cZ h h1 h2 h3 h4 h5 np nh mo fa pl sz ch k y (by omega)) (cwV 2 hts gX5_set_X2_ofHole rfl rfl rfl hdV_X2_ofHole ⟨Nat.le_of_ble_eq_true rfl, Nat.le_of_ble_eq_true rfl⟩) (PR.V (hP.sub [1, 3, 4, 5] rfl) hK hP (q0 := 1) rfl rfl) rfl rfl hl.1 rfl (lv_room (Nat.le_of_ble_eq_true rfl)) dX5_set_75 ⟨Nat.le_of_ble_eq_true rfl, Nat.le_of_ble_eq_true rfl⟩) hP hS (fun H locs hP hS => ?_)
            refine lv_istore (lv' := [(4, .int (fRow3 pl sz ch y k)), (0, .ref o), (1, .int (nI k)), (2, .int y), (3, .int v)]) hx hb dX5_set_78 hl (by decide) rfl (fun ls hl => ?_)
            refine lv_aload_n hx hb dX5_set_80 rfl (lv_at hl 1 rfl) ?_
            refine va_get (D := D) (ci := 5) (v := .ref h) (C := RX5) (T := TX5) (N := 9) hx hb hts k5 hown hK.1 hP 0 rfl rfl 0 (by decide) (hts (.fieldLink RX5 12 "BoredPipes" "pipe" "LBoredPipes$Pipe;") (List.mem_of_getElem? (i := 1) rfl)) (fun _ h9 => h9) rfl dX5_set_81 ?_
            refine lv_iload_n hx hb dX5_set_84 rfl (lv_at hl 2 rfl) ?_
            refine lv_iload_n hx hb dX5_set_85 rfl (lv_at hl 3 rfl) ?_
            refine lv_iload_n hx hb dX5_set_86 rfl (lv_at hl 4 rfl) ?_
            refine wr_v (va_runV (As := [.int (nI k), .int y, .int v]) (rest := []) ⟨hx, hb, hml, hown, hts⟩ (c_X2_changeHole l D cI cZ h h1 h2 h3 h4 h5 np nh mo fa pl sz ch k y v (by omega)) (cwV 3 hts gX5_set_X2_changeHole rfl rfl rfl hdV_X2_changeHole ⟨Nat.le_of_ble_eq_true rfl, Nat.le_of_ble_eq_true rfl⟩) (PW.V (hP.sub [1, 3, 4, 5] rfl) hK ((hD.sub [1, 3, 4, 5] (by decide) rfl).weaken (fun _ _ _ _ => trivial)) hP (q0 := 1) rfl rfl) rfl rfl hl.1 rfl (lv_room (Nat.le_of_ble_eq_true rfl)) dX5_set_87 ⟨Nat.le_of_ble_eq_true rfl, Nat.le_of_ble_eq_true rfl⟩) hP hD hS [1, 3, 4, 5] rfl (fun _ => rfl) (fun u8 H locs hu8 hP hD hS => ?_)
            have hP : va_P D vwCl [(o, .inr (5, [.ref h, .ref ja, .ref jb, .ref t, .ref n, .ref g, .long dr, .int re, .int ro])), (h, .inr (2, [.ref h1, .ref h2, .ref h3, .ref h4, .ref h5, .int (nI np), .int (nI nh), .int mo, .int fa])), (h1, .inl (cI, 12, .inl ln)), (h3, .inl (cI, 6, .inl (cPl pl y k v))), (h4, .inl (cI, 6, .inl (cSz sz y k v))), (h5, .inl (cI, 6, .inl (cCh ch y k v)))] H := hP
            have hD : va_D A [(o, .inr (5, [.ref h, .ref ja, .ref jb, .ref t, .ref n, .ref g, .long dr, .int re, .int ro])), (h, .inr (2, [.ref h1, .ref h2, .ref h3, .ref h4, .ref h5, .int (nI np), .int (nI nh), .int mo, .int fa])), (h1, .inl (cI, 12, .inl ln)), (h3, .inl (cI, 6, .inl (cPl pl y k v))), (h4, .inl (cI, 6, .inl (cSz sz y k v))), (h5, .inl (cI, 6, .inl (cCh ch y k v)))] := hD
            refine lv_iload hx hb dX5_set_90 (lv_at hl 0 rfl) ?_
            exact ret_WI hQ hx hb hr hlk hAe () (by show va_P D vwCl [(o, .inr (5, [.ref h, .ref ja, .ref jb, .ref t, .ref n, .ref g, .long dr, .int re, .int ro])), (h, .inr (2, [.ref h1, .ref h2, .ref h3, .ref h4, .ref h5, .int (nI np), .int (nI nh), .int mo, .int fa])), (h1, .inl (cI, 12, .inl ln)), (h3, .inl (cI, 6, .inl ((xSet (nI k) y v nh pl sz ch (fSum ln np 0 0)).2.1))), (h4, .inl (cI, 6, .inl ((xSet (nI k) y v nh pl sz ch (fSum ln np 0 0)).2.2.1))), (h5, .inl (cI, 6, .inl ((xSet (nI k) y v nh pl sz ch (fSum ln np 0 0)).2.2.2)))] H; rw [show (xSet (nI k) y v nh pl sz ch (fSum ln np 0 0)).2.1 = cPl pl y k v from (by first | with_reducible rfl | (simp only [xSet, nI_clamp (show k < 2147483648 from by omega), if_neg c1, if_neg c2, if_pos c3, if_neg c5, if_pos c7]; done) | (simp [xSet, nI_clamp (show k < 2147483648 from by omega), if_neg c1, if_neg c2, if_pos c3, if_neg c5, if_pos c7]; done)), show (xSet (nI k) y v nh pl sz ch (fSum ln np 0 0)).2.2.1 = cSz sz y k v from (by first | with_reducible rfl | (simp only [xSet, nI_clamp (show k < 2147483648 from by omega), if_neg c1, if_neg c2, if_pos c3, if_neg c5, if_pos c7]; done) | (simp [xSet, nI_clamp (show k < 2147483648 from by omega), if_neg c1, if_neg c2, if_pos c3, if_neg c5, if_pos c7]; done)), show (xSet (nI k) y v nh pl sz ch (fSum ln np 0 0)).2.2.2 = cCh ch y k v from (by first | with_reducible rfl | (simp only [xSet, nI_clamp (show k < 2147483648 from by omega), if_neg c1, if_neg c2, if_pos c3, if_neg c5, if_pos c7]; done) | (simp [xSet, nI_clamp (show k < 2147483648 from by omega), if_neg c1, if_neg c2, if_pos c3, if_neg c5, if_pos c7]; done))]; exact hP) hS (show (xSet (nI k) y v nh pl sz ch (fSum ln np 0 0)).1 = fRow3 pl sz ch y k from (by first | with_reducible rfl | (simp only [xSet, nI_clamp (show k < 2147483648 from by omega), if_neg c1, if_neg c2, if_pos c3, if_neg c5, if_pos c7]; done) | (simp [xSet, nI_clamp (show k < 2147483648 from by omega), if_neg c1, if_neg c2, if_pos c3, if_neg c5, if_pos c7]; done))).symm dX5_set_92
          · skip
            refine lv_sipush (v := (-1003)) hx hb dX5_set_65 (by decide) ?_
            exact ret_WI hQ hx hb hr hlk hAe () (by show va_P D vwCl [(o, .inr (5, [.ref h, .ref ja, .ref jb, .ref t, .ref n, .ref g, .long dr, .int re, .int ro])), (h, .inr (2, [.ref h1, .ref h2, .ref h3, .ref h4, .ref h5, .int (nI np), .int (nI nh), .int mo, .int fa])), (h1, .inl (cI, 12, .inl ln)), (h3, .inl (cI, 6, .inl ((xSet (nI k) y v nh pl sz ch (fSum ln np 0 0)).2.1))), (h4, .inl (cI, 6, .inl ((xSet (nI k) y v nh pl sz ch (fSum ln np 0 0)).2.2.1))), (h5, .inl (cI, 6, .inl ((xSet (nI k) y v nh pl sz ch (fSum ln np 0 0)).2.2.2)))] H; rw [show (xSet (nI k) y v nh pl sz ch (fSum ln np 0 0)).2.1 = pl from (by first | with_reducible rfl | (simp only [xSet, nI_clamp (show k < 2147483648 from by omega), if_neg c1, if_neg c2, if_pos c3, if_neg c5, if_neg c7]; done) | (simp [xSet, nI_clamp (show k < 2147483648 from by omega), if_neg c1, if_neg c2, if_pos c3, if_neg c5, if_neg c7]; done)), show (xSet (nI k) y v nh pl sz ch (fSum ln np 0 0)).2.2.1 = sz from (by first | with_reducible rfl | (simp only [xSet, nI_clamp (show k < 2147483648 from by omega), if_neg c1, if_neg c2, if_pos c3, if_neg c5, if_neg c7]; done) | (simp [xSet, nI_clamp (show k < 2147483648 from by omega), if_neg c1, if_neg c2, if_pos c3, if_neg c5, if_neg c7]; done)), show (xSet (nI k) y v nh pl sz ch (fSum ln np 0 0)).2.2.2 = ch from (by first | with_reducible rfl | (simp only [xSet, nI_clamp (show k < 2147483648 from by omega), if_neg c1, if_neg c2, if_pos c3, if_neg c5, if_neg c7]; done) | (simp [xSet, nI_clamp (show k < 2147483648 from by omega), if_neg c1, if_neg c2, if_pos c3, if_neg c5, if_neg c7]; done))]; exact hP) hS (show (xSet (nI k) y v nh pl sz ch (fSum ln np 0 0)).1 = (-1003) from (by first | with_reducible rfl | (simp only [xSet, nI_clamp (show k < 2147483648 from by omega), if_neg c1, if_neg c2, if_pos c3, if_neg c5, if_neg c7]; done) | (simp [xSet, nI_clamp (show k < 2147483648 from by omega), if_neg c1, if_neg c2, if_pos c3, if_neg c5, if_neg c7]; done))).symm dX5_set_68
    · skip
      refine lv_sipush (v := (-1002)) hx hb dX5_set_30 (by decide) ?_
      exact ret_WI hQ hx hb hr hlk hAe () (by show va_P D vwCl [(o, .inr (5, [.ref h, .ref ja, .ref jb, .ref t, .ref n, .ref g, .long dr, .int re, .int ro])), (h, .inr (2, [.ref h1, .ref h2, .ref h3, .ref h4, .ref h5, .int (nI np), .int (nI nh), .int mo, .int fa])), (h1, .inl (cI, 12, .inl ln)), (h3, .inl (cI, 6, .inl ((xSet (nI k) y v nh pl sz ch (fSum ln np 0 0)).2.1))), (h4, .inl (cI, 6, .inl ((xSet (nI k) y v nh pl sz ch (fSum ln np 0 0)).2.2.1))), (h5, .inl (cI, 6, .inl ((xSet (nI k) y v nh pl sz ch (fSum ln np 0 0)).2.2.2)))] H; rw [show (xSet (nI k) y v nh pl sz ch (fSum ln np 0 0)).2.1 = pl from (by first | with_reducible rfl | (simp only [xSet, nI_clamp (show k < 2147483648 from by omega), if_neg c1, if_pos c2]; done) | (simp [xSet, nI_clamp (show k < 2147483648 from by omega), if_neg c1, if_pos c2]; done)), show (xSet (nI k) y v nh pl sz ch (fSum ln np 0 0)).2.2.1 = sz from (by first | with_reducible rfl | (simp only [xSet, nI_clamp (show k < 2147483648 from by omega), if_neg c1, if_pos c2]; done) | (simp [xSet, nI_clamp (show k < 2147483648 from by omega), if_neg c1, if_pos c2]; done)), show (xSet (nI k) y v nh pl sz ch (fSum ln np 0 0)).2.2.2 = ch from (by first | with_reducible rfl | (simp only [xSet, nI_clamp (show k < 2147483648 from by omega), if_neg c1, if_pos c2]; done) | (simp [xSet, nI_clamp (show k < 2147483648 from by omega), if_neg c1, if_pos c2]; done))]; exact hP) hS (show (xSet (nI k) y v nh pl sz ch (fSum ln np 0 0)).1 = (-1002) from (by first | with_reducible rfl | (simp only [xSet, nI_clamp (show k < 2147483648 from by omega), if_neg c1, if_pos c2]; done) | (simp [xSet, nI_clamp (show k < 2147483648 from by omega), if_neg c1, if_pos c2]; done))).symm dX5_set_33
  · skip
    refine lv_sipush (v := (-1001)) hx hb dX5_set_17 (by decide) ?_
    exact ret_WI hQ hx hb hr hlk hAe () (by show va_P D vwCl [(o, .inr (5, [.ref h, .ref ja, .ref jb, .ref t, .ref n, .ref g, .long dr, .int re, .int ro])), (h, .inr (2, [.ref h1, .ref h2, .ref h3, .ref h4, .ref h5, .int (nI np), .int (nI nh), .int mo, .int fa])), (h1, .inl (cI, 12, .inl ln)), (h3, .inl (cI, 6, .inl ((xSet x y v nh pl sz ch (fSum ln np 0 0)).2.1))), (h4, .inl (cI, 6, .inl ((xSet x y v nh pl sz ch (fSum ln np 0 0)).2.2.1))), (h5, .inl (cI, 6, .inl ((xSet x y v nh pl sz ch (fSum ln np 0 0)).2.2.2)))] H; rw [show (xSet x y v nh pl sz ch (fSum ln np 0 0)).2.1 = pl from (by first | with_reducible rfl | (simp only [xSet, if_pos c1]; done) | (simp [xSet, if_pos c1]; done)), show (xSet x y v nh pl sz ch (fSum ln np 0 0)).2.2.1 = sz from (by first | with_reducible rfl | (simp only [xSet, if_pos c1]; done) | (simp [xSet, if_pos c1]; done)), show (xSet x y v nh pl sz ch (fSum ln np 0 0)).2.2.2 = ch from (by first | with_reducible rfl | (simp only [xSet, if_pos c1]; done) | (simp [xSet, if_pos c1]; done))]; exact hP) hS (show (xSet x y v nh pl sz ch (fSum ln np 0 0)).1 = (-1001) from (by first | with_reducible rfl | (simp only [xSet, if_pos c1]; done) | (simp [xSet, if_pos c1]; done))).symm dX5_set_20

set_option maxHeartbeats 4000000 in
set_option maxRecDepth 100000 in
theorem c_X5_end (l : Launch) (D : va_G) (cI cZ : ClassId) (o : Nat) (h : Nat) (ja : Nat) (jb : Nat) (t : Nat) (n : Nat) (g : Nat) (dr : Int64) (re : Int32) (ro : Int32) (h1 : Nat) (h2 : Nat) (h3 : Nat) (h4 : Nat) (h5 : Nat) (np : Nat) (nh : Nat) (mo : Int32) (fa : Int32) (x : Int32) (v : Int32)  : Met l yX5_end wsX5_end rmX5_end (va_Pc [.ref o, .int x, .int v] (PW D cI cZ [(o, .inr (5, [.ref h, .ref ja, .ref jb, .ref t, .ref n, .ref g, .long dr, .int re, .int ro])), (h, .inr (2, [.ref h1, .ref h2, .ref h3, .ref h4, .ref h5, .int (nI np), .int (nI nh), .int mo, .int fa]))])) (WI (S := Unit) D (fun zr _ => zr = (xEnd x v mo fa).1) (fun _ => [(o, .inr (5, [.ref h, .ref ja, .ref jb, .ref t, .ref n, .ref g, .long dr, .int re, .int ro])), (h, .inr (2, [.ref h1, .ref h2, .ref h3, .ref h4, .ref h5, .int (nI np), .int (nI nh), .int ((xEnd x v mo fa).2.1), .int ((xEnd x v mo fa).2.2)]))]) [(o, .inr (5, [.ref h, .ref ja, .ref jb, .ref t, .ref n, .ref g, .long dr, .int re, .int ro])), (h, .inr (2, [.ref h1, .ref h2, .ref h3, .ref h4, .ref h5, .int (nI np), .int (nI nh), .int mo, .int fa]))]) 0 0 (ad [(o, .inr (5, [.ref h, .ref ja, .ref jb, .ref t, .ref n, .ref g, .long dr, .int re, .int ro])), (h, .inr (2, [.ref h1, .ref h2, .ref h3, .ref h4, .ref h5, .int (nI np), .int (nI nh), .int mo, .int fa]))]) := by
  refine met_go (cc := cX5_end) (maxL := 4) (ret := (some .int)) (by decide) rfl ?_ (Nat.le_of_ble_eq_true rfl)
  intro p e s m a below meth c Q hQ _ hx hb hr hml hts hown hlk hnm hpre ls hl
  have hown : s.vm.findClass RX5 = some m.cls := hown
  obtain ⟨hP, hK, hD0⟩ := hpre
  have hN := hK.2
  obtain ⟨A, hAe⟩ : ∃ A : Nat → Prop, A = ad [(o, .inr (5, [.ref h, .ref ja, .ref jb, .ref t, .ref n, .ref g, .long dr, .int re, .int ro])), (h, .inr (2, [.ref h1, .ref h2, .ref h3, .ref h4, .ref h5, .int (nI np), .int (nI nh), .int mo, .int fa]))] := ⟨_, rfl⟩
  have hD : va_D A [(o, .inr (5, [.ref h, .ref ja, .ref jb, .ref t, .ref n, .ref g, .long dr, .int re, .int ro])), (h, .inr (2, [.ref h1, .ref h2, .ref h3, .ref h4, .ref h5, .int (nI np), .int (nI nh), .int mo, .int fa]))] := by rw [hAe]; exact hD0.ad
  have hS : va_S A s.heap s.heap [] := va_S.rf
  have hl : lv_has ls 4 [(0, .ref o), (1, .int x), (2, .int v)] := hl
  have k2 : ∀ w ∈ wsX20, w ∈ wsX5_end := fun w h => List.mem_cons_of_mem _ (List.mem_append_right _ h)
  have k5 : ∀ w ∈ wsX50, w ∈ wsX5_end := fun w h => List.mem_cons_of_mem _ (List.mem_append_left _ (List.mem_append_right _ h))
  refine lv_iload_n hx hb dX5_end_0 rfl (lv_at hl 1 rfl) ?_
  refine lv_iconst (v := 0) hx hb dX5_end_1 (by decide) ?_
  refine lv_iconst (v := 1) hx hb dX5_end_2 (by decide) ?_
  refine rd_i (va_runS (As := [.int x, .int 0, .int 1]) (rest := []) ⟨hx, hb, hml, hown, hts⟩ (c_X5_within l D cI cZ x 0 1) (va_cwS 3 hts gX5_end_X5_within rfl rfl rfl hdV_X5_within.2 ⟨Nat.le_of_ble_eq_true rfl, Nat.le_of_ble_eq_true rfl⟩) (PR.S (hP.sub [] rfl) hK) rfl rfl hl.1 rfl (lv_room (Nat.le_of_ble_eq_true rfl)) dX5_end_3 ⟨Nat.le_of_ble_eq_true rfl, Nat.le_of_ble_eq_true rfl⟩) hP hS (fun H locs hP hS => ?_)
  refine lv_if_eq (tgt := 18) hx hb dX5_end_6 (by decide) (fun c1 => ?_) (fun c1 => ?_)
  · skip
    refine lv_sipush (v := (-1002)) hx hb dX5_end_18 (by decide) ?_
    exact ret_WI hQ hx hb hr hlk hAe () (by show va_P D vwCl [(o, .inr (5, [.ref h, .ref ja, .ref jb, .ref t, .ref n, .ref g, .long dr, .int re, .int ro])), (h, .inr (2, [.ref h1, .ref h2, .ref h3, .ref h4, .ref h5, .int (nI np), .int (nI nh), .int ((xEnd x v mo fa).2.1), .int ((xEnd x v mo fa).2.2)]))] H; rw [show (xEnd x v mo fa).2.1 = mo from (by first | with_reducible rfl | (simp only [xEnd, if_pos c1]; done) | (simp [xEnd, if_pos c1]; done)), show (xEnd x v mo fa).2.2 = fa from (by first | with_reducible rfl | (simp only [xEnd, if_pos c1]; done) | (simp [xEnd, if_pos c1]; done))]; exact hP) hS (show (xEnd x v mo fa).1 = (-1002) from (by first | with_reducible rfl | (simp only [xEnd, if_pos c1]; done) | (simp [xEnd, if_pos c1]; done))).symm dX5_end_21
  · skip
    refine lv_iload_n hx hb dX5_end_9 rfl (lv_at hl 2 rfl) ?_
    refine lv_iconst (v := 0) hx hb dX5_end_10 (by decide) ?_
    refine lv_iconst (v := 1) hx hb dX5_end_11 (by decide) ?_
    refine rd_i (va_runS (As := [.int v, .int 0, .int 1]) (rest := []) ⟨hx, hb, hml, hown, hts⟩ (c_X5_within l D cI cZ v 0 1) (va_cwS 3 hts gX5_end_X5_within rfl rfl rfl hdV_X5_within.2 ⟨Nat.le_of_ble_eq_true rfl, Nat.le_of_ble_eq_true rfl⟩) (PR.S (hP.sub [] rfl) hK) rfl rfl hl.1 rfl (lv_room (Nat.le_of_ble_eq_true rfl)) dX5_end_12 ⟨Nat.le_of_ble_eq_true rfl, Nat.le_of_ble_eq_true rfl⟩) hP hS (fun H locs hP hS => ?_)
    refine lv_if_ne (tgt := 22) hx hb dX5_end_15 (by decide) (fun c2 => ?_) (fun c2 => ?_)
    · skip
      refine lv_iload_n hx hb dX5_end_22 rfl (lv_at hl 1 rfl) ?_
      refine lv_if_ne (tgt := 36) hx hb dX5_end_23 (by decide) (fun c3 => ?_) (fun c3 => ?_)
      · skip
        refine lv_aload_n hx hb dX5_end_36 rfl (lv_at hl 0 rfl) ?_
        refine va_get (D := D) (ci := 5) (v := .ref h) (C := RX5) (T := TX5) (N := 9) hx hb hts k5 hown hK.1 hP 0 rfl rfl 0 (by decide) (hts (.fieldLink RX5 12 "BoredPipes" "pipe" "LBoredPipes$Pipe;") (List.mem_of_getElem? (i := 1) rfl)) (fun _ h9 => h9) rfl dX5_end_37 ?_
        refine va_get (D := D) (ci := 2) (v := .int fa) (C := RX2) (T := TX2) (N := 9) hx hb hts k2 hown hK.1 hP 1 rfl rfl 8 (by decide) (hts (.fieldLink RX5 115 "BoredPipes$Pipe" "farEnd" "I") (List.mem_of_getElem? (i := 3) rfl)) (fun _ h9 => h9) rfl dX5_end_40 ?_
        refine lv_istore_n (lv' := [(3, .int fa), (0, .ref o), (1, .int x), (2, .int v)]) hx hb dX5_end_43 rfl hl (by decide) rfl (fun ls hl => ?_)
        refine lv_iload_n hx hb dX5_end_44 rfl (lv_at hl 2 rfl) ?_
        refine lv_if_ne (tgt := 59) hx hb dX5_end_45 (by decide) (fun c4 => ?_) (fun c4 => absurd c4 (c3))
        refine lv_aload_n hx hb dX5_end_59 rfl (lv_at hl 1 rfl) ?_
        refine va_get (D := D) (ci := 5) (v := .ref h) (C := RX5) (T := TX5) (N := 9) hx hb hts k5 hown hK.1 hP 0 rfl rfl 0 (by decide) (hts (.fieldLink RX5 12 "BoredPipes" "pipe" "LBoredPipes$Pipe;") (List.mem_of_getElem? (i := 1) rfl)) (fun _ h9 => h9) rfl dX5_end_60 ?_
        refine lv_iload_n hx hb dX5_end_63 rfl (lv_at hl 3 rfl) ?_
        refine va_put (D := D) (ci := 2) (v := .int v) (ty := .int) (C := RX2) (T := TX2) (N := 9) hx hb hts k2 tyX2 tyX2_ok nmX2 hown hK.1 hP hD hS 1 rfl rfl 8 (by decide) (hts (.fieldLink RX5 115 "BoredPipes$Pipe" "farEnd" "I") (List.mem_of_getElem? (i := 3) rfl)) (fun _ h9 => h9) rfl (tyX2_ok 8 (by decide)) rfl rfl (Nat.le_of_ble_eq_true rfl) dX5_end_64 (fun H locs hP hD hS => ?_)
        have hP : va_P D vwCl [(o, .inr (5, [.ref h, .ref ja, .ref jb, .ref t, .ref n, .ref g, .long dr, .int re, .int ro])), (h, .inr (2, [.ref h1, .ref h2, .ref h3, .ref h4, .ref h5, .int (nI np), .int (nI nh), .int mo, .int v]))] H := hP
        have hD : va_D A [(o, .inr (5, [.ref h, .ref ja, .ref jb, .ref t, .ref n, .ref g, .long dr, .int re, .int ro])), (h, .inr (2, [.ref h1, .ref h2, .ref h3, .ref h4, .ref h5, .int (nI np), .int (nI nh), .int mo, .int v]))] := hD
        refine lv_iload_n hx hb dX5_end_67 rfl (lv_at hl 0 rfl) ?_
        exact ret_WI hQ hx hb hr hlk hAe () (by show va_P D vwCl [(o, .inr (5, [.ref h, .ref ja, .ref jb, .ref t, .ref n, .ref g, .long dr, .int re, .int ro])), (h, .inr (2, [.ref h1, .ref h2, .ref h3, .ref h4, .ref h5, .int (nI np), .int (nI nh), .int ((xEnd x v mo fa).2.1), .int ((xEnd x v mo fa).2.2)]))] H; rw [show (xEnd x v mo fa).2.1 = mo from (by first | with_reducible rfl | (simp only [xEnd, if_neg c1, if_neg c2, if_neg c3, if_neg c4]; done) | (simp [xEnd, if_neg c1, if_neg c2, if_neg c3, if_neg c4]; done)), show (xEnd x v mo fa).2.2 = v from (by first | with_reducible rfl | (simp only [xEnd, if_neg c1, if_neg c2, if_neg c3, if_neg c4]; done) | (simp [xEnd, if_neg c1, if_neg c2, if_neg c3, if_neg c4]; done))]; exact hP) hS (show (xEnd x v mo fa).1 = fa from (by first | with_reducible rfl | (simp only [xEnd, if_neg c1, if_neg c2, if_neg c3, if_neg c4]; done) | (simp [xEnd, if_neg c1, if_neg c2, if_neg c3, if_neg c4]; done))).symm dX5_end_68
      · skip
        refine lv_aload_n hx hb dX5_end_26 rfl (lv_at hl 0 rfl) ?_
        refine va_get (D := D) (ci := 5) (v := .ref h) (C := RX5) (T := TX5) (N := 9) hx hb hts k5 hown hK.1 hP 0 rfl rfl 0 (by decide) (hts (.fieldLink RX5 12 "BoredPipes" "pipe" "LBoredPipes$Pipe;") (List.mem_of_getElem? (i := 1) rfl)) (fun _ h9 => h9) rfl dX5_end_27 ?_
        refine va_get (D := D) (ci := 2) (v := .int mo) (C := RX2) (T := TX2) (N := 9) hx hb hts k2 hown hK.1 hP 1 rfl rfl 7 (by decide) (hts (.fieldLink RX5 112 "BoredPipes$Pipe" "mouth" "I") (List.mem_of_getElem? (i := 2) rfl)) (fun _ h9 => h9) rfl dX5_end_30 ?_
        refine lv_goto (tgt := 43) hx hb dX5_end_33 (by decide) ?_
        refine lv_istore_n (lv' := [(3, .int mo), (0, .ref o), (1, .int x), (2, .int v)]) hx hb dX5_end_43 rfl hl (by decide) rfl (fun ls hl => ?_)
        refine lv_iload_n hx hb dX5_end_44 rfl (lv_at hl 2 rfl) ?_
        refine lv_if_ne (tgt := 59) hx hb dX5_end_45 (by decide) (fun c5 => absurd (c3) c5) (fun c5 => ?_)
        refine lv_aload_n hx hb dX5_end_48 rfl (lv_at hl 1 rfl) ?_
        refine va_get (D := D) (ci := 5) (v := .ref h) (C := RX5) (T := TX5) (N := 9) hx hb hts k5 hown hK.1 hP 0 rfl rfl 0 (by decide) (hts (.fieldLink RX5 12 "BoredPipes" "pipe" "LBoredPipes$Pipe;") (List.mem_of_getElem? (i := 1) rfl)) (fun _ h9 => h9) rfl dX5_end_49 ?_
        refine lv_iload_n hx hb dX5_end_52 rfl (lv_at hl 3 rfl) ?_
        refine va_put (D := D) (ci := 2) (v := .int v) (ty := .int) (C := RX2) (T := TX2) (N := 9) hx hb hts k2 tyX2 tyX2_ok nmX2 hown hK.1 hP hD hS 1 rfl rfl 7 (by decide) (hts (.fieldLink RX5 112 "BoredPipes$Pipe" "mouth" "I") (List.mem_of_getElem? (i := 2) rfl)) (fun _ h9 => h9) rfl (tyX2_ok 7 (by decide)) rfl rfl (Nat.le_of_ble_eq_true rfl) dX5_end_53 (fun H locs hP hD hS => ?_)
        have hP : va_P D vwCl [(o, .inr (5, [.ref h, .ref ja, .ref jb, .ref t, .ref n, .ref g, .long dr, .int re, .int ro])), (h, .inr (2, [.ref h1, .ref h2, .ref h3, .ref h4, .ref h5, .int (nI np), .int (nI nh), .int v, .int fa]))] H := hP
        have hD : va_D A [(o, .inr (5, [.ref h, .ref ja, .ref jb, .ref t, .ref n, .ref g, .long dr, .int re, .int ro])), (h, .inr (2, [.ref h1, .ref h2, .ref h3, .ref h4, .ref h5, .int (nI np), .int (nI nh), .int v, .int fa]))] := hD
        refine lv_goto (tgt := 67) hx hb dX5_end_56 (by decide) ?_
        refine lv_iload_n hx hb dX5_end_67 rfl (lv_at hl 0 rfl) ?_
        exact ret_WI hQ hx hb hr hlk hAe () (by show va_P D vwCl [(o, .inr (5, [.ref h, .ref ja, .ref jb, .ref t, .ref n, .ref g, .long dr, .int re, .int ro])), (h, .inr (2, [.ref h1, .ref h2, .ref h3, .ref h4, .ref h5, .int (nI np), .int (nI nh), .int ((xEnd x v mo fa).2.1), .int ((xEnd x v mo fa).2.2)]))] H; rw [show (xEnd x v mo fa).2.1 = v from (by first | with_reducible rfl | (simp only [xEnd, if_neg c1, if_neg c2, if_pos c3, if_pos c5]; done) | (simp [xEnd, if_neg c1, if_neg c2, if_pos c3, if_pos c5]; done)), show (xEnd x v mo fa).2.2 = fa from (by first | with_reducible rfl | (simp only [xEnd, if_neg c1, if_neg c2, if_pos c3, if_pos c5]; done) | (simp [xEnd, if_neg c1, if_neg c2, if_pos c3, if_pos c5]; done))]; exact hP) hS (show (xEnd x v mo fa).1 = mo from (by first | with_reducible rfl | (simp only [xEnd, if_neg c1, if_neg c2, if_pos c3, if_pos c5]; done) | (simp [xEnd, if_neg c1, if_neg c2, if_pos c3, if_pos c5]; done))).symm dX5_end_68
    · skip
      refine lv_sipush (v := (-1002)) hx hb dX5_end_18 (by decide) ?_
      exact ret_WI hQ hx hb hr hlk hAe () (by show va_P D vwCl [(o, .inr (5, [.ref h, .ref ja, .ref jb, .ref t, .ref n, .ref g, .long dr, .int re, .int ro])), (h, .inr (2, [.ref h1, .ref h2, .ref h3, .ref h4, .ref h5, .int (nI np), .int (nI nh), .int ((xEnd x v mo fa).2.1), .int ((xEnd x v mo fa).2.2)]))] H; rw [show (xEnd x v mo fa).2.1 = mo from (by first | with_reducible rfl | (simp only [xEnd, if_neg c1, if_pos c2]; done) | (simp [xEnd, if_neg c1, if_pos c2]; done)), show (xEnd x v mo fa).2.2 = fa from (by first | with_reducible rfl | (simp only [xEnd, if_neg c1, if_pos c2]; done) | (simp [xEnd, if_neg c1, if_pos c2]; done))]; exact hP) hS (show (xEnd x v mo fa).1 = (-1002) from (by first | with_reducible rfl | (simp only [xEnd, if_neg c1, if_pos c2]; done) | (simp [xEnd, if_neg c1, if_pos c2]; done))).symm dX5_end_21

set_option maxHeartbeats 4000000 in
set_option maxRecDepth 100000 in
theorem c_X5_clear (l : Launch) (D : va_G) (cI cZ : ClassId) (o : Nat) (h : Nat) (ja : Nat) (jb : Nat) (t : Nat) (n : Nat) (g : Nat) (dr : Int64) (re : Int32) (ro : Int32) (h1 : Nat) (h2 : Nat) (h3 : Nat) (h4 : Nat) (h5 : Nat) (np : Nat) (nh : Nat) (mo : Int32) (fa : Int32) (n1 : Nat) (n2 : Nat) (n3 : Nat) (nn : Nat)  : Met l yX5_clear wsX5_clear rmX5_clear (va_Pc [.ref o] (PW D cI cZ [(o, .inr (5, [.ref h, .ref ja, .ref jb, .ref t, .ref n, .ref g, .long dr, .int re, .int ro])), (h, .inr (2, [.ref h1, .ref h2, .ref h3, .ref h4, .ref h5, .int (nI np), .int (nI nh), .int mo, .int fa])), (n, .inr (1, [.ref n1, .ref n2, .ref n3, .int (nI nn)]))])) (WI (S := Unit) D (fun zr _ => zr = nI np) (fun _ => [(o, .inr (5, [.ref h, .ref ja, .ref jb, .ref t, .ref n, .ref g, .long dr, .int re, .int 0])), (h, .inr (2, [.ref h1, .ref h2, .ref h3, .ref h4, .ref h5, .int 0, .int 0, .int 0, .int 0])), (n, .inr (1, [.ref n1, .ref n2, .ref n3, .int 0]))]) [(o, .inr (5, [.ref h, .ref ja, .ref jb, .ref t, .ref n, .ref g, .long dr, .int re, .int ro])), (h, .inr (2, [.ref h1, .ref h2, .ref h3, .ref h4, .ref h5, .int (nI np), .int (nI nh), .int mo, .int fa])), (n, .inr (1, [.ref n1, .ref n2, .ref n3, .int (nI nn)]))]) 0 0 (ad [(o, .inr (5, [.ref h, .ref ja, .ref jb, .ref t, .ref n, .ref g, .long dr, .int re, .int ro])), (h, .inr (2, [.ref h1, .ref h2, .ref h3, .ref h4, .ref h5, .int (nI np), .int (nI nh), .int mo, .int fa])), (n, .inr (1, [.ref n1, .ref n2, .ref n3, .int (nI nn)]))]) := by
  refine met_go (cc := cX5_clear) (maxL := 2) (ret := (some .int)) (by decide) rfl ?_ (Nat.le_of_ble_eq_true rfl)
  intro p e s m a below meth c Q hQ _ hx hb hr hml hts hown hlk hnm hpre ls hl
  have hown : s.vm.findClass RX5 = some m.cls := hown
  obtain ⟨hP, hK, hD0⟩ := hpre
  have hN := hK.2
  obtain ⟨A, hAe⟩ : ∃ A : Nat → Prop, A = ad [(o, .inr (5, [.ref h, .ref ja, .ref jb, .ref t, .ref n, .ref g, .long dr, .int re, .int ro])), (h, .inr (2, [.ref h1, .ref h2, .ref h3, .ref h4, .ref h5, .int (nI np), .int (nI nh), .int mo, .int fa])), (n, .inr (1, [.ref n1, .ref n2, .ref n3, .int (nI nn)]))] := ⟨_, rfl⟩
  have hD : va_D A [(o, .inr (5, [.ref h, .ref ja, .ref jb, .ref t, .ref n, .ref g, .long dr, .int re, .int ro])), (h, .inr (2, [.ref h1, .ref h2, .ref h3, .ref h4, .ref h5, .int (nI np), .int (nI nh), .int mo, .int fa])), (n, .inr (1, [.ref n1, .ref n2, .ref n3, .int (nI nn)]))] := by rw [hAe]; exact hD0.ad
  have hS : va_S A s.heap s.heap [] := va_S.rf
  have hl : lv_has ls 2 [(0, .ref o)] := hl
  have k1 : ∀ w ∈ wsX10, w ∈ wsX5_clear := fun w h => List.mem_cons_of_mem _ (List.mem_append_right _ h)
  have k2 : ∀ w ∈ wsX20, w ∈ wsX5_clear := fun w h => List.mem_cons_of_mem _ (List.mem_append_left _ (List.mem_append_right _ h))
  have k5 : ∀ w ∈ wsX50, w ∈ wsX5_clear := fun w h => List.mem_cons_of_mem _ (List.mem_append_left _ (List.mem_append_left _ (List.mem_append_right _ h)))
  refine lv_aload_n hx hb dX5_clear_0 rfl (lv_at hl 0 rfl) ?_
  refine va_get (D := D) (ci := 5) (v := .ref h) (C := RX5) (T := TX5) (N := 9) hx hb hts k5 hown hK.1 hP 0 rfl rfl 0 (by decide) (hts (.fieldLink RX5 12 "BoredPipes" "pipe" "LBoredPipes$Pipe;") (List.mem_of_getElem? (i := 1) rfl)) (fun _ h9 => h9) rfl dX5_clear_1 ?_
  refine va_get (D := D) (ci := 2) (v := .int (nI np)) (C := RX2) (T := TX2) (N := 9) hx hb hts k2 hown hK.1 hP 1 rfl rfl 5 (by decide) (hts (.fieldLink RX5 64 "BoredPipes$Pipe" "pieces" "I") (List.mem_of_getElem? (i := 2) rfl)) (fun _ h9 => h9) rfl dX5_clear_4 ?_
  refine lv_istore_n (lv' := [(1, .int (nI np)), (0, .ref o)]) hx hb dX5_clear_7 rfl hl (by decide) rfl (fun ls hl => ?_)
  refine lv_aload_n hx hb dX5_clear_8 rfl (lv_at hl 1 rfl) ?_
  refine va_get (D := D) (ci := 5) (v := .ref h) (C := RX5) (T := TX5) (N := 9) hx hb hts k5 hown hK.1 hP 0 rfl rfl 0 (by decide) (hts (.fieldLink RX5 12 "BoredPipes" "pipe" "LBoredPipes$Pipe;") (List.mem_of_getElem? (i := 1) rfl)) (fun _ h9 => h9) rfl dX5_clear_9 ?_
  refine wr_v (va_runV (As := []) (rest := []) ⟨hx, hb, hml, hown, hts⟩ (c_X2_empty l D cI cZ h h1 h2 h3 h4 h5 np nh mo fa) (cwV 0 hts gX5_clear_X2_empty rfl rfl rfl hdV_X2_empty ⟨Nat.le_of_ble_eq_true rfl, Nat.le_of_ble_eq_true rfl⟩) (PW.V (hP.sub [1] rfl) hK ((hD.sub [1] (by decide) rfl).weaken (fun _ _ _ _ => trivial)) hP (q0 := 1) rfl rfl) rfl rfl hl.1 rfl (lv_room (Nat.le_of_ble_eq_true rfl)) dX5_clear_12 ⟨Nat.le_of_ble_eq_true rfl, Nat.le_of_ble_eq_true rfl⟩) hP hD hS [1] rfl (fun _ => rfl) (fun u1 H locs hu1 hP hD hS => ?_)
  have hP : va_P D vwCl [(o, .inr (5, [.ref h, .ref ja, .ref jb, .ref t, .ref n, .ref g, .long dr, .int re, .int ro])), (h, .inr (2, [.ref h1, .ref h2, .ref h3, .ref h4, .ref h5, .int 0, .int 0, .int 0, .int 0])), (n, .inr (1, [.ref n1, .ref n2, .ref n3, .int (nI nn)]))] H := hP
  have hD : va_D A [(o, .inr (5, [.ref h, .ref ja, .ref jb, .ref t, .ref n, .ref g, .long dr, .int re, .int ro])), (h, .inr (2, [.ref h1, .ref h2, .ref h3, .ref h4, .ref h5, .int 0, .int 0, .int 0, .int 0])), (n, .inr (1, [.ref n1, .ref n2, .ref n3, .int (nI nn)]))] := hD
  refine lv_aload_n hx hb dX5_clear_15 rfl (lv_at hl 1 rfl) ?_
  refine va_get (D := D) (ci := 5) (v := .ref n) (C := RX5) (T := TX5) (N := 9) hx hb hts k5 hown hK.1 hP 0 rfl rfl 4 (by decide) (hts (.fieldLink RX5 36 "BoredPipes" "notes" "LBoredPipes$Notes;") (List.mem_of_getElem? (i := 3) rfl)) (fun _ h9 => h9) rfl dX5_clear_16 ?_
  refine lv_iconst (v := 0) hx hb dX5_clear_19 (by decide) ?_
  refine va_put (D := D) (ci := 1) (v := .int 0) (ty := .int) (C := RX1) (T := TX1) (N := 4) hx hb hts k1 tyX1 tyX1_ok nmX1 hown hK.1 hP hD hS 2 rfl rfl 3 (by decide) (hts (.fieldLink RX5 121 "BoredPipes$Notes" "many" "I") (List.mem_of_getElem? (i := 4) rfl)) (fun _ h9 => h9) rfl (tyX1_ok 3 (by decide)) rfl rfl (Nat.le_of_ble_eq_true rfl) dX5_clear_20 (fun H locs hP hD hS => ?_)
  have hP : va_P D vwCl [(o, .inr (5, [.ref h, .ref ja, .ref jb, .ref t, .ref n, .ref g, .long dr, .int re, .int ro])), (h, .inr (2, [.ref h1, .ref h2, .ref h3, .ref h4, .ref h5, .int 0, .int 0, .int 0, .int 0])), (n, .inr (1, [.ref n1, .ref n2, .ref n3, .int 0]))] H := hP
  have hD : va_D A [(o, .inr (5, [.ref h, .ref ja, .ref jb, .ref t, .ref n, .ref g, .long dr, .int re, .int ro])), (h, .inr (2, [.ref h1, .ref h2, .ref h3, .ref h4, .ref h5, .int 0, .int 0, .int 0, .int 0])), (n, .inr (1, [.ref n1, .ref n2, .ref n3, .int 0]))] := hD
  refine lv_aload_n hx hb dX5_clear_23 rfl (lv_at hl 1 rfl) ?_
  refine lv_iconst (v := 0) hx hb dX5_clear_24 (by decide) ?_
  refine va_put (D := D) (ci := 5) (v := .int 0) (ty := .int) (C := RX5) (T := TX5) (N := 9) hx hb hts k5 tyX5 tyX5_ok nmX5 hown hK.1 hP hD hS 0 rfl rfl 8 (by decide) (hts (.fieldLink RX5 57 "BoredPipes" "rounds" "I") (List.mem_of_getElem? (i := 5) rfl)) (fun _ h9 => h9) rfl (tyX5_ok 8 (by decide)) rfl rfl (Nat.le_of_ble_eq_true rfl) dX5_clear_25 (fun H locs hP hD hS => ?_)
  have hP : va_P D vwCl [(o, .inr (5, [.ref h, .ref ja, .ref jb, .ref t, .ref n, .ref g, .long dr, .int re, .int 0])), (h, .inr (2, [.ref h1, .ref h2, .ref h3, .ref h4, .ref h5, .int 0, .int 0, .int 0, .int 0])), (n, .inr (1, [.ref n1, .ref n2, .ref n3, .int 0]))] H := hP
  have hD : va_D A [(o, .inr (5, [.ref h, .ref ja, .ref jb, .ref t, .ref n, .ref g, .long dr, .int re, .int 0])), (h, .inr (2, [.ref h1, .ref h2, .ref h3, .ref h4, .ref h5, .int 0, .int 0, .int 0, .int 0])), (n, .inr (1, [.ref n1, .ref n2, .ref n3, .int 0]))] := hD
  refine lv_iload_n hx hb dX5_clear_28 rfl (lv_at hl 0 rfl) ?_
  exact ret_WI hQ hx hb hr hlk hAe () hP hS (show nI np = nI np from (by first | with_reducible rfl | (simp only []; done) | (simp []; done))).symm dX5_clear_29

set_option maxHeartbeats 4000000 in
set_option maxRecDepth 100000 in
theorem c_X5_told (l : Launch) (D : va_G) (cI cZ : ClassId) (o : Nat) (h : Nat) (ja : Nat) (jb : Nat) (t : Nat) (n : Nat) (g : Nat) (dr : Int64) (re : Int32) (ro : Int32) (h1 : Nat) (h2 : Nat) (h3 : Nat) (h4 : Nat) (h5 : Nat) (np : Nat) (nh : Nat) (mo : Int32) (fa : Int32) (ln : Nat → Int32) (bo : Nat → Int32) (x : Int32) (y : Int32) (hnp : np ≤ 12) : Met l yX5_told wsX5_told rmX5_told (va_Pc [.ref o, .int x, .int y] (PR D cI cZ [(o, .inr (5, [.ref h, .ref ja, .ref jb, .ref t, .ref n, .ref g, .long dr, .int re, .int ro])), (h, .inr (2, [.ref h1, .ref h2, .ref h3, .ref h4, .ref h5, .int (nI np), .int (nI nh), .int mo, .int fa])), (h1, .inl (cI, 12, .inl ln)), (h2, .inl (cI, 12, .inl bo))])) (RI (xTold x y np ln bo)) 0 0 nA := by
  refine met_go (cc := cX5_told) (maxL := 3) (ret := (some .int)) (by decide) rfl ?_ (Nat.le_of_ble_eq_true rfl)
  intro p e s m a below meth c Q hQ _ hx hb hr hml hts hown hlk hnm hpre ls hl
  have hown : s.vm.findClass RX5 = some m.cls := hown
  obtain ⟨hP, hK⟩ := hpre
  have hN := hK.2
  have hS : va_S nA s.heap s.heap [] := va_S.rf
  have hl : lv_has ls 3 [(0, .ref o), (1, .int x), (2, .int y)] := hl
  have k2 : ∀ w ∈ wsX20, w ∈ wsX5_told := fun w h => List.mem_cons_of_mem _ (List.mem_append_right _ h)
  have k5 : ∀ w ∈ wsX50, w ∈ wsX5_told := fun w h => List.mem_cons_of_mem _ (List.mem_append_left _ (List.mem_append_right _ h))
  refine lv_iload_n hx hb dX5_told_0 rfl (lv_at hl 1 rfl) ?_
  refine lv_iconst (v := 0) hx hb dX5_told_1 (by decide) ?_
  refine lv_aload_n hx hb dX5_told_2 rfl (lv_at hl 0 rfl) ?_
  refine va_get (D := D) (ci := 5) (v := .ref h) (C := RX5) (T := TX5) (N := 9) hx hb hts k5 hown hK.1 hP 0 rfl rfl 0 (by decide) (hts (.fieldLink RX5 12 "BoredPipes" "pipe" "LBoredPipes$Pipe;") (List.mem_of_getElem? (i := 1) rfl)) (fun _ h9 => h9) rfl dX5_told_3 ?_
  refine va_get (D := D) (ci := 2) (v := .int (nI np)) (C := RX2) (T := TX2) (N := 9) hx hb hts k2 hown hK.1 hP 1 rfl rfl 5 (by decide) (hts (.fieldLink RX5 64 "BoredPipes$Pipe" "pieces" "I") (List.mem_of_getElem? (i := 2) rfl)) (fun _ h9 => h9) rfl dX5_told_6 ?_
  refine lv_iconst (v := 1) hx hb dX5_told_9 (by decide) ?_
  refine lv_isub hx hb dX5_told_10 ?_
  refine rd_i (va_runS (As := [.int x, .int 0, .int ((nI np) - 1)]) (rest := []) ⟨hx, hb, hml, hown, hts⟩ (c_X5_within l D cI cZ x 0 ((nI np) - 1)) (va_cwS 3 hts gX5_told_X5_within rfl rfl rfl hdV_X5_within.2 ⟨Nat.le_of_ble_eq_true rfl, Nat.le_of_ble_eq_true rfl⟩) (PR.S (hP.sub [] rfl) hK) rfl rfl hl.1 rfl (lv_room (Nat.le_of_ble_eq_true rfl)) dX5_told_11 ⟨Nat.le_of_ble_eq_true rfl, Nat.le_of_ble_eq_true rfl⟩) hP hS (fun H locs hP hS => ?_)
  refine lv_if_ne (tgt := 21) hx hb dX5_told_14 (by decide) (fun c1 => ?_) (fun c1 => ?_)
  · skip
    obtain ⟨k, hk, rfl⟩ := fIn_hole c1 (by omega)
    refine lv_iload_n hx hb dX5_told_21 rfl (lv_at hl 2 rfl) ?_
    refine lv_iconst (v := 0) hx hb dX5_told_22 (by decide) ?_
    refine lv_iconst (v := 1) hx hb dX5_told_23 (by decide) ?_
    refine rd_i (va_runS (As := [.int y, .int 0, .int 1]) (rest := []) ⟨hx, hb, hml, hown, hts⟩ (c_X5_within l D cI cZ y 0 1) (va_cwS 3 hts gX5_told_X5_within rfl rfl rfl hdV_X5_within.2 ⟨Nat.le_of_ble_eq_true rfl, Nat.le_of_ble_eq_true rfl⟩) (PR.S (hP.sub [] rfl) hK) rfl rfl hl.1 rfl (lv_room (Nat.le_of_ble_eq_true rfl)) dX5_told_24 ⟨Nat.le_of_ble_eq_true rfl, Nat.le_of_ble_eq_true rfl⟩) hP hS (fun H locs hP hS => ?_)
    refine lv_if_ne (tgt := 34) hx hb dX5_told_27 (by decide) (fun c2 => ?_) (fun c2 => ?_)
    · skip
      refine lv_iload_n hx hb dX5_told_34 rfl (lv_at hl 2 rfl) ?_
      refine lv_if_ne (tgt := 52) hx hb dX5_told_35 (by decide) (fun c3 => ?_) (fun c3 => ?_)
      · skip
        refine lv_aload_n hx hb dX5_told_52 rfl (lv_at hl 0 rfl) ?_
        refine va_get (D := D) (ci := 5) (v := .ref h) (C := RX5) (T := TX5) (N := 9) hx hb hts k5 hown hK.1 hP 0 rfl rfl 0 (by decide) (hts (.fieldLink RX5 12 "BoredPipes" "pipe" "LBoredPipes$Pipe;") (List.mem_of_getElem? (i := 1) rfl)) (fun _ h9 => h9) rfl dX5_told_53 ?_
        refine va_get (D := D) (ci := 2) (v := .ref h2) (C := RX2) (T := TX2) (N := 9) hx hb hts k2 hown hK.1 hP 1 rfl rfl 1 (by decide) (hts (.fieldLink RX5 127 "BoredPipes$Pipe" "bores" "[I") (List.mem_of_getElem? (i := 4) rfl)) (fun _ h9 => h9) rfl dX5_told_56 ?_
        refine lv_iload_n hx hb dX5_told_59 rfl (lv_at hl 1 rfl) ?_
        refine rd_i (va_runS (As := [.ref h2, .int (nI k)]) (rest := []) ⟨hx, hb, hml, hown, hts⟩ (c_X5_at_in l D cI cZ h2 12 bo k (by omega) (by omega)) (va_cwS 2 hts gX5_told_X5_at rfl rfl rfl hdV_X5_at.2 ⟨Nat.le_of_ble_eq_true rfl, Nat.le_of_ble_eq_true rfl⟩) (PR.S (hP.sub [3] rfl) hK) rfl rfl hl.1 rfl (lv_room (Nat.le_of_ble_eq_true rfl)) dX5_told_60 ⟨Nat.le_of_ble_eq_true rfl, Nat.le_of_ble_eq_true rfl⟩) hP hS (fun H locs hP hS => ?_)
        exact ret_RI hQ hx hb hr hlk hS (show xTold (nI k) y np ln bo = bo k from (by first | with_reducible rfl | (simp only [xTold, nI_clamp (show k < 2147483648 from by omega), if_neg c1, if_neg c2, if_neg c3]; done) | (simp [xTold, nI_clamp (show k < 2147483648 from by omega), if_neg c1, if_neg c2, if_neg c3]; done))).symm dX5_told_63
      · skip
        refine lv_aload_n hx hb dX5_told_38 rfl (lv_at hl 0 rfl) ?_
        refine va_get (D := D) (ci := 5) (v := .ref h) (C := RX5) (T := TX5) (N := 9) hx hb hts k5 hown hK.1 hP 0 rfl rfl 0 (by decide) (hts (.fieldLink RX5 12 "BoredPipes" "pipe" "LBoredPipes$Pipe;") (List.mem_of_getElem? (i := 1) rfl)) (fun _ h9 => h9) rfl dX5_told_39 ?_
        refine va_get (D := D) (ci := 2) (v := .ref h1) (C := RX2) (T := TX2) (N := 9) hx hb hts k2 hown hK.1 hP 1 rfl rfl 0 (by decide) (hts (.fieldLink RX5 124 "BoredPipes$Pipe" "lengths" "[I") (List.mem_of_getElem? (i := 3) rfl)) (fun _ h9 => h9) rfl dX5_told_42 ?_
        refine lv_iload_n hx hb dX5_told_45 rfl (lv_at hl 1 rfl) ?_
        refine rd_i (va_runS (As := [.ref h1, .int (nI k)]) (rest := []) ⟨hx, hb, hml, hown, hts⟩ (c_X5_at_in l D cI cZ h1 12 ln k (by omega) (by omega)) (va_cwS 2 hts gX5_told_X5_at rfl rfl rfl hdV_X5_at.2 ⟨Nat.le_of_ble_eq_true rfl, Nat.le_of_ble_eq_true rfl⟩) (PR.S (hP.sub [2] rfl) hK) rfl rfl hl.1 rfl (lv_room (Nat.le_of_ble_eq_true rfl)) dX5_told_46 ⟨Nat.le_of_ble_eq_true rfl, Nat.le_of_ble_eq_true rfl⟩) hP hS (fun H locs hP hS => ?_)
        refine lv_goto (tgt := 63) hx hb dX5_told_49 (by decide) ?_
        exact ret_RI hQ hx hb hr hlk hS (show xTold (nI k) y np ln bo = ln k from (by first | with_reducible rfl | (simp only [xTold, nI_clamp (show k < 2147483648 from by omega), if_neg c1, if_neg c2, if_pos c3]; done) | (simp [xTold, nI_clamp (show k < 2147483648 from by omega), if_neg c1, if_neg c2, if_pos c3]; done))).symm dX5_told_63
    · skip
      refine lv_sipush (v := (-1002)) hx hb dX5_told_30 (by decide) ?_
      exact ret_RI hQ hx hb hr hlk hS (show xTold (nI k) y np ln bo = (-1002) from (by first | with_reducible rfl | (simp only [xTold, nI_clamp (show k < 2147483648 from by omega), if_neg c1, if_pos c2]; done) | (simp [xTold, nI_clamp (show k < 2147483648 from by omega), if_neg c1, if_pos c2]; done))).symm dX5_told_33
  · skip
    refine lv_sipush (v := (-1001)) hx hb dX5_told_17 (by decide) ?_
    exact ret_RI hQ hx hb hr hlk hS (show xTold x y np ln bo = (-1001) from (by first | with_reducible rfl | (simp only [xTold, if_pos c1]; done) | (simp [xTold, if_pos c1]; done))).symm dX5_told_20

set_option maxHeartbeats 4000000 in
set_option maxRecDepth 100000 in
theorem c_X5_bored (l : Launch) (D : va_G) (cI cZ : ClassId) (o : Nat) (h : Nat) (ja : Nat) (jb : Nat) (t : Nat) (n : Nat) (g : Nat) (dr : Int64) (re : Int32) (ro : Int32) (h1 : Nat) (h2 : Nat) (h3 : Nat) (h4 : Nat) (h5 : Nat) (np : Nat) (nh : Nat) (mo : Int32) (fa : Int32) (ln : Nat → Int32) (pl : Nat → Int32) (sz : Nat → Int32) (ch : Nat → Int32) (x : Int32) (y : Int32) (hnp : np ≤ 12) (hnh : nh ≤ 6) : Met l yX5_bored wsX5_bored rmX5_bored (va_Pc [.ref o, .int x, .int y] (PR D cI cZ [(o, .inr (5, [.ref h, .ref ja, .ref jb, .ref t, .ref n, .ref g, .long dr, .int re, .int ro])), (h, .inr (2, [.ref h1, .ref h2, .ref h3, .ref h4, .ref h5, .int (nI np), .int (nI nh), .int mo, .int fa])), (h1, .inl (cI, 12, .inl ln)), (h3, .inl (cI, 6, .inl pl)), (h4, .inl (cI, 6, .inl sz)), (h5, .inl (cI, 6, .inl ch))])) (RI (xBored x y np nh ln pl sz ch)) 0 0 nA := by
  refine met_go (cc := cX5_bored) (maxL := 3) (ret := (some .int)) (by decide) rfl ?_ (Nat.le_of_ble_eq_true rfl)
  intro p e s m a below meth c Q hQ _ hx hb hr hml hts hown hlk hnm hpre ls hl
  have hown : s.vm.findClass RX5 = some m.cls := hown
  obtain ⟨hP, hK⟩ := hpre
  have hN := hK.2
  have hS : va_S nA s.heap s.heap [] := va_S.rf
  have hl : lv_has ls 3 [(0, .ref o), (1, .int x), (2, .int y)] := hl
  have k2 : ∀ w ∈ wsX20, w ∈ wsX5_bored := fun w h => List.mem_cons_of_mem _ (List.mem_append_right _ h)
  have k5 : ∀ w ∈ wsX50, w ∈ wsX5_bored := fun w h => List.mem_cons_of_mem _ (List.mem_append_left _ (List.mem_append_right _ h))
  refine lv_iload_n hx hb dX5_bored_0 rfl (lv_at hl 1 rfl) ?_
  refine lv_iconst (v := 0) hx hb dX5_bored_1 (by decide) ?_
  refine lv_aload_n hx hb dX5_bored_2 rfl (lv_at hl 0 rfl) ?_
  refine va_get (D := D) (ci := 5) (v := .ref h) (C := RX5) (T := TX5) (N := 9) hx hb hts k5 hown hK.1 hP 0 rfl rfl 0 (by decide) (hts (.fieldLink RX5 12 "BoredPipes" "pipe" "LBoredPipes$Pipe;") (List.mem_of_getElem? (i := 1) rfl)) (fun _ h9 => h9) rfl dX5_bored_3 ?_
  refine va_get (D := D) (ci := 2) (v := .int (nI nh)) (C := RX2) (T := TX2) (N := 9) hx hb hts k2 hown hK.1 hP 1 rfl rfl 6 (by decide) (hts (.fieldLink RX5 90 "BoredPipes$Pipe" "holes" "I") (List.mem_of_getElem? (i := 2) rfl)) (fun _ h9 => h9) rfl dX5_bored_6 ?_
  refine lv_iconst (v := 1) hx hb dX5_bored_9 (by decide) ?_
  refine lv_isub hx hb dX5_bored_10 ?_
  refine rd_i (va_runS (As := [.int x, .int 0, .int ((nI nh) - 1)]) (rest := []) ⟨hx, hb, hml, hown, hts⟩ (c_X5_within l D cI cZ x 0 ((nI nh) - 1)) (va_cwS 3 hts gX5_bored_X5_within rfl rfl rfl hdV_X5_within.2 ⟨Nat.le_of_ble_eq_true rfl, Nat.le_of_ble_eq_true rfl⟩) (PR.S (hP.sub [] rfl) hK) rfl rfl hl.1 rfl (lv_room (Nat.le_of_ble_eq_true rfl)) dX5_bored_11 ⟨Nat.le_of_ble_eq_true rfl, Nat.le_of_ble_eq_true rfl⟩) hP hS (fun H locs hP hS => ?_)
  refine lv_if_ne (tgt := 21) hx hb dX5_bored_14 (by decide) (fun c1 => ?_) (fun c1 => ?_)
  · skip
    obtain ⟨k, hk, rfl⟩ := fIn_hole c1 (by omega)
    refine lv_iload_n hx hb dX5_bored_21 rfl (lv_at hl 2 rfl) ?_
    refine lv_iconst (v := 0) hx hb dX5_bored_22 (by decide) ?_
    refine lv_iconst (v := 4) hx hb dX5_bored_23 (by decide) ?_
    refine rd_i (va_runS (As := [.int y, .int 0, .int 4]) (rest := []) ⟨hx, hb, hml, hown, hts⟩ (c_X5_within l D cI cZ y 0 4) (va_cwS 3 hts gX5_bored_X5_within rfl rfl rfl hdV_X5_within.2 ⟨Nat.le_of_ble_eq_true rfl, Nat.le_of_ble_eq_true rfl⟩) (PR.S (hP.sub [] rfl) hK) rfl rfl hl.1 rfl (lv_room (Nat.le_of_ble_eq_true rfl)) dX5_bored_24 ⟨Nat.le_of_ble_eq_true rfl, Nat.le_of_ble_eq_true rfl⟩) hP hS (fun H locs hP hS => ?_)
    refine lv_if_ne (tgt := 34) hx hb dX5_bored_27 (by decide) (fun c2 => ?_) (fun c2 => ?_)
    · skip
      refine lv_iload_n hx hb dX5_bored_34 rfl (lv_at hl 2 rfl) ?_
      refine lv_iconst (v := 3) hx hb dX5_bored_35 (by decide) ?_
      refine lv_icmp_ne (tgt := 58) hx hb dX5_bored_36 (by decide) (fun c3 => ?_) (fun c3 => ?_)
      · skip
        refine lv_iload_n hx hb dX5_bored_58 rfl (lv_at hl 2 rfl) ?_
        refine lv_iconst (v := 4) hx hb dX5_bored_59 (by decide) ?_
        refine lv_icmp_ne (tgt := 82) hx hb dX5_bored_60 (by decide) (fun c4 => ?_) (fun c4 => ?_)
        · skip
          refine lv_aload_n hx hb dX5_bored_82 rfl (lv_at hl 0 rfl) ?_
          refine va_get (D := D) (ci := 5) (v := .ref h) (C := RX5) (T := TX5) (N := 9) hx hb hts k5 hown hK.1 hP 0 rfl rfl 0 (by decide) (hts (.fieldLink RX5 12 "BoredPipes" "pipe" "LBoredPipes$Pipe;") (List.mem_of_getElem? (i := 1) rfl)) (fun _ h9 => h9) rfl dX5_bored_83 ?_
          refine lv_iload_n hx hb dX5_bored_86 rfl (lv_at hl 1 rfl) ?_
          refine lv_iload_n hx hb dX5_bored_87 rfl (lv_at hl 2 rfl) ?_
          refine rd_i (va_runV (As := [.int (nI k), .int y]) (rest := []) ⟨hx, hb, hml, hown, hts⟩ (c_X2_ofHole l D cI cZ h h1 h2 h3 h4 h5 np nh mo fa pl sz ch k y (by omega)) (cwV 2 hts gX5_bored_X2_ofHole rfl rfl rfl hdV_X2_ofHole ⟨Nat.le_of_ble_eq_true rfl, Nat.le_of_ble_eq_true rfl⟩) (PR.V (hP.sub [1, 3, 4, 5] rfl) hK hP (q0 := 1) rfl rfl) rfl rfl hl.1 rfl (lv_room (Nat.le_of_ble_eq_true rfl)) dX5_bored_88 ⟨Nat.le_of_ble_eq_true rfl, Nat.le_of_ble_eq_true rfl⟩) hP hS (fun H locs hP hS => ?_)
          exact ret_RI hQ hx hb hr hlk hS (show xBored (nI k) y np nh ln pl sz ch = fRow3 pl sz ch y k from (by first | with_reducible rfl | (simp only [xBored, nI_clamp (show k < 2147483648 from by omega), if_neg c1, if_neg c2, if_neg c3, if_neg c4]; done) | (simp [xBored, nI_clamp (show k < 2147483648 from by omega), if_neg c1, if_neg c2, if_neg c3, if_neg c4]; done))).symm dX5_bored_91
        · skip
          refine lv_aload_n hx hb dX5_bored_63 rfl (lv_at hl 0 rfl) ?_
          refine va_get (D := D) (ci := 5) (v := .ref h) (C := RX5) (T := TX5) (N := 9) hx hb hts k5 hown hK.1 hP 0 rfl rfl 0 (by decide) (hts (.fieldLink RX5 12 "BoredPipes" "pipe" "LBoredPipes$Pipe;") (List.mem_of_getElem? (i := 1) rfl)) (fun _ h9 => h9) rfl dX5_bored_64 ?_
          refine lv_aload_n hx hb dX5_bored_67 rfl (lv_at hl 0 rfl) ?_
          refine va_get (D := D) (ci := 5) (v := .ref h) (C := RX5) (T := TX5) (N := 9) hx hb hts k5 hown hK.1 hP 0 rfl rfl 0 (by decide) (hts (.fieldLink RX5 12 "BoredPipes" "pipe" "LBoredPipes$Pipe;") (List.mem_of_getElem? (i := 1) rfl)) (fun _ h9 => h9) rfl dX5_bored_68 ?_
          refine va_get (D := D) (ci := 2) (v := .ref h3) (C := RX2) (T := TX2) (N := 9) hx hb hts k2 hown hK.1 hP 1 rfl rfl 2 (by decide) (hts (.fieldLink RX5 97 "BoredPipes$Pipe" "places" "[I") (List.mem_of_getElem? (i := 3) rfl)) (fun _ h9 => h9) rfl dX5_bored_71 ?_
          refine lv_iload_n hx hb dX5_bored_74 rfl (lv_at hl 1 rfl) ?_
          refine rd_i (va_runS (As := [.ref h3, .int (nI k)]) (rest := [.ref h]) ⟨hx, hb, hml, hown, hts⟩ (c_X5_at_in l D cI cZ h3 6 pl k (by omega) (by omega)) (va_cwS 2 hts gX5_bored_X5_at rfl rfl rfl hdV_X5_at.2 ⟨Nat.le_of_ble_eq_true rfl, Nat.le_of_ble_eq_true rfl⟩) (PR.S (hP.sub [3] rfl) hK) rfl rfl hl.1 rfl (lv_room (Nat.le_of_ble_eq_true rfl)) dX5_bored_75 ⟨Nat.le_of_ble_eq_true rfl, Nat.le_of_ble_eq_true rfl⟩) hP hS (fun H locs hP hS => ?_)
          refine rd_i (va_runV (As := [.int (pl k)]) (rest := []) ⟨hx, hb, hml, hown, hts⟩ (c_X2_holesBefore l D cI cZ h h1 h2 h3 h4 h5 np nh mo fa pl (pl k) (by first | omega | exact hnh)) (cwV 1 hts gX5_bored_X2_holesBefore rfl rfl rfl hdV_X2_holesBefore ⟨Nat.le_of_ble_eq_true rfl, Nat.le_of_ble_eq_true rfl⟩) (PR.V (hP.sub [1, 3] rfl) hK hP (q0 := 1) rfl rfl) rfl rfl hl.1 rfl (lv_room (Nat.le_of_ble_eq_true rfl)) dX5_bored_78 ⟨Nat.le_of_ble_eq_true rfl, Nat.le_of_ble_eq_true rfl⟩) hP hS (fun H locs hP hS => ?_)
          exact ret_RI hQ hx hb hr hlk hS (show xBored (nI k) y np nh ln pl sz ch = fBefore pl (pl k) nh 0 0 from (by first | with_reducible rfl | (simp only [xBored, nI_clamp (show k < 2147483648 from by omega), if_neg c1, if_neg c2, if_neg c3, if_pos c4]; done) | (simp [xBored, nI_clamp (show k < 2147483648 from by omega), if_neg c1, if_neg c2, if_neg c3, if_pos c4]; done))).symm dX5_bored_81
      · skip
        refine lv_aload_n hx hb dX5_bored_39 rfl (lv_at hl 0 rfl) ?_
        refine va_get (D := D) (ci := 5) (v := .ref h) (C := RX5) (T := TX5) (N := 9) hx hb hts k5 hown hK.1 hP 0 rfl rfl 0 (by decide) (hts (.fieldLink RX5 12 "BoredPipes" "pipe" "LBoredPipes$Pipe;") (List.mem_of_getElem? (i := 1) rfl)) (fun _ h9 => h9) rfl dX5_bored_40 ?_
        refine lv_aload_n hx hb dX5_bored_43 rfl (lv_at hl 0 rfl) ?_
        refine va_get (D := D) (ci := 5) (v := .ref h) (C := RX5) (T := TX5) (N := 9) hx hb hts k5 hown hK.1 hP 0 rfl rfl 0 (by decide) (hts (.fieldLink RX5 12 "BoredPipes" "pipe" "LBoredPipes$Pipe;") (List.mem_of_getElem? (i := 1) rfl)) (fun _ h9 => h9) rfl dX5_bored_44 ?_
        refine va_get (D := D) (ci := 2) (v := .ref h3) (C := RX2) (T := TX2) (N := 9) hx hb hts k2 hown hK.1 hP 1 rfl rfl 2 (by decide) (hts (.fieldLink RX5 97 "BoredPipes$Pipe" "places" "[I") (List.mem_of_getElem? (i := 3) rfl)) (fun _ h9 => h9) rfl dX5_bored_47 ?_
        refine lv_iload_n hx hb dX5_bored_50 rfl (lv_at hl 1 rfl) ?_
        refine rd_i (va_runS (As := [.ref h3, .int (nI k)]) (rest := [.ref h]) ⟨hx, hb, hml, hown, hts⟩ (c_X5_at_in l D cI cZ h3 6 pl k (by omega) (by omega)) (va_cwS 2 hts gX5_bored_X5_at rfl rfl rfl hdV_X5_at.2 ⟨Nat.le_of_ble_eq_true rfl, Nat.le_of_ble_eq_true rfl⟩) (PR.S (hP.sub [3] rfl) hK) rfl rfl hl.1 rfl (lv_room (Nat.le_of_ble_eq_true rfl)) dX5_bored_51 ⟨Nat.le_of_ble_eq_true rfl, Nat.le_of_ble_eq_true rfl⟩) hP hS (fun H locs hP hS => ?_)
        refine rd_i (va_runV (As := [.int (pl k)]) (rest := []) ⟨hx, hb, hml, hown, hts⟩ (c_X2_pieceAt l D cI cZ h h1 h2 h3 h4 h5 np nh mo fa ln (pl k) (by first | omega | exact hnp)) (cwV 1 hts gX5_bored_X2_pieceAt rfl rfl rfl hdV_X2_pieceAt ⟨Nat.le_of_ble_eq_true rfl, Nat.le_of_ble_eq_true rfl⟩) (PR.V (hP.sub [1, 2] rfl) hK hP (q0 := 1) rfl rfl) rfl rfl hl.1 rfl (lv_room (Nat.le_of_ble_eq_true rfl)) dX5_bored_54 ⟨Nat.le_of_ble_eq_true rfl, Nat.le_of_ble_eq_true rfl⟩) hP hS (fun H locs hP hS => ?_)
        exact ret_RI hQ hx hb hr hlk hS (show xBored (nI k) y np nh ln pl sz ch = fPieceAt ln (pl k) np 0 0 from (by first | with_reducible rfl | (simp only [xBored, nI_clamp (show k < 2147483648 from by omega), if_neg c1, if_neg c2, if_pos c3]; done) | (simp [xBored, nI_clamp (show k < 2147483648 from by omega), if_neg c1, if_neg c2, if_pos c3]; done))).symm dX5_bored_57
    · skip
      refine lv_sipush (v := (-1002)) hx hb dX5_bored_30 (by decide) ?_
      exact ret_RI hQ hx hb hr hlk hS (show xBored (nI k) y np nh ln pl sz ch = (-1002) from (by first | with_reducible rfl | (simp only [xBored, nI_clamp (show k < 2147483648 from by omega), if_neg c1, if_pos c2]; done) | (simp [xBored, nI_clamp (show k < 2147483648 from by omega), if_neg c1, if_pos c2]; done))).symm dX5_bored_33
  · skip
    refine lv_sipush (v := (-1001)) hx hb dX5_bored_17 (by decide) ?_
    exact ret_RI hQ hx hb hr hlk hS (show xBored x y np nh ln pl sz ch = (-1001) from (by first | with_reducible rfl | (simp only [xBored, if_pos c1]; done) | (simp [xBored, if_pos c1]; done))).symm dX5_bored_20

set_option maxHeartbeats 4000000 in
set_option maxRecDepth 100000 in
theorem c_X5_sine (l : Launch) (D : va_G) (cI cZ : ClassId) (o : Nat) (h : Nat) (ja : Nat) (jb : Nat) (t : Nat) (n : Nat) (g : Nat) (dr : Int64) (re : Int32) (ro : Int32) (x : Int32)  : Met l yX5_sine wsX5_sine rmX5_sine (va_Pc [.ref o, .int x] (PR D cI cZ [(o, .inr (5, [.ref h, .ref ja, .ref jb, .ref t, .ref n, .ref g, .long dr, .int re, .int ro]))])) (RI (xSineP x)) 0 0 nA := by
  refine met_go (cc := cX5_sine) (maxL := 2) (ret := (some .int)) (by decide) rfl ?_ (Nat.le_of_ble_eq_true rfl)
  intro p e s m a below meth c Q hQ _ hx hb hr hml hts hown hlk hnm hpre ls hl
  have hown : s.vm.findClass RX5 = some m.cls := hown
  obtain ⟨hP, hK⟩ := hpre
  have hN := hK.2
  have hS : va_S nA s.heap s.heap [] := va_S.rf
  have hl : lv_has ls 2 [(0, .ref o), (1, .int x)] := hl
  refine lv_iload_n hx hb dX5_sine_0 rfl (lv_at hl 1 rfl) ?_
  refine lv_iconst (v := 0) hx hb dX5_sine_1 (by decide) ?_
  refine lv_ldc hx hb hown (hts (.constant RX5 146 (65535)) (List.mem_of_getElem? (i := 1) rfl)) dX5_sine_2 ?_
  refine rd_i (va_runS (As := [.int x, .int 0, .int 65535]) (rest := []) ⟨hx, hb, hml, hown, hts⟩ (c_X5_within l D cI cZ x 0 65535) (va_cwS 3 hts gX5_sine_X5_within rfl rfl rfl hdV_X5_within.2 ⟨Nat.le_of_ble_eq_true rfl, Nat.le_of_ble_eq_true rfl⟩) (PR.S (hP.sub [] rfl) hK) rfl rfl hl.1 rfl (lv_room (Nat.le_of_ble_eq_true rfl)) dX5_sine_4 ⟨Nat.le_of_ble_eq_true rfl, Nat.le_of_ble_eq_true rfl⟩) hP hS (fun H locs hP hS => ?_)
  refine lv_if_eq (tgt := 18) hx hb dX5_sine_7 (by decide) (fun c1 => ?_) (fun c1 => ?_)
  · skip
    refine lv_sipush (v := (-1002)) hx hb dX5_sine_18 (by decide) ?_
    exact ret_RI hQ hx hb hr hlk hS (show xSineP x = (-1002) from (by first | with_reducible rfl | (simp only [xSineP, if_pos c1]; done) | (simp [xSineP, if_pos c1]; done))).symm dX5_sine_21
  · skip
    refine lv_iload_n hx hb dX5_sine_10 rfl (lv_at hl 1 rfl) ?_
    refine rd_l (va_runS (As := [.int x]) (rest := []) ⟨hx, hb, hml, hown, hts⟩ (c_X5_sineOf l D cI cZ x) (va_cwS 1 hts gX5_sine_X5_sineOf rfl rfl rfl hdV_X5_sineOf.2 ⟨Nat.le_of_ble_eq_true rfl, Nat.le_of_ble_eq_true rfl⟩) (PR.S (hP.sub [] rfl) hK) rfl rfl hl.1 rfl (lv_room (Nat.le_of_ble_eq_true rfl)) dX5_sine_11 ⟨Nat.le_of_ble_eq_true rfl, Nat.le_of_ble_eq_true rfl⟩) hP hS (fun H locs hP hS => ?_)
    refine lv_l2i hx hb dX5_sine_14 rfl ?_
    refine lv_goto (tgt := 21) hx hb dX5_sine_15 (by decide) ?_
    exact ret_RI hQ hx hb hr hlk hS (show xSineP x = (fSine x).toInt32 from (by first | with_reducible rfl | (simp only [xSineP, if_neg c1]; done) | (simp [xSineP, if_neg c1]; done))).symm dX5_sine_21

set_option maxHeartbeats 4000000 in
set_option maxRecDepth 100000 in
theorem c_X5_reach (l : Launch) (D : va_G) (cI cZ : ClassId) (o : Nat) (h : Nat) (ja : Nat) (jb : Nat) (t : Nat) (n : Nat) (g : Nat) (dr : Int64) (re : Int32) (ro : Int32) (x : Int32)  : Met l yX5_reach wsX5_reach rmX5_reach (va_Pc [.ref o, .int x] (PW D cI cZ [(o, .inr (5, [.ref h, .ref ja, .ref jb, .ref t, .ref n, .ref g, .long dr, .int re, .int ro]))])) (WI (S := Unit) D (fun zr _ => zr = (xReach x re).1) (fun _ => [(o, .inr (5, [.ref h, .ref ja, .ref jb, .ref t, .ref n, .ref g, .long dr, .int ((xReach x re).2), .int ro]))]) [(o, .inr (5, [.ref h, .ref ja, .ref jb, .ref t, .ref n, .ref g, .long dr, .int re, .int ro]))]) 0 0 (ad [(o, .inr (5, [.ref h, .ref ja, .ref jb, .ref t, .ref n, .ref g, .long dr, .int re, .int ro]))]) := by
  refine met_go (cc := cX5_reach) (maxL := 3) (ret := (some .int)) (by decide) rfl ?_ (Nat.le_of_ble_eq_true rfl)
  intro p e s m a below meth c Q hQ _ hx hb hr hml hts hown hlk hnm hpre ls hl
  have hown : s.vm.findClass RX5 = some m.cls := hown
  obtain ⟨hP, hK, hD0⟩ := hpre
  have hN := hK.2
  obtain ⟨A, hAe⟩ : ∃ A : Nat → Prop, A = ad [(o, .inr (5, [.ref h, .ref ja, .ref jb, .ref t, .ref n, .ref g, .long dr, .int re, .int ro]))] := ⟨_, rfl⟩
  have hD : va_D A [(o, .inr (5, [.ref h, .ref ja, .ref jb, .ref t, .ref n, .ref g, .long dr, .int re, .int ro]))] := by rw [hAe]; exact hD0.ad
  have hS : va_S A s.heap s.heap [] := va_S.rf
  have hl : lv_has ls 3 [(0, .ref o), (1, .int x)] := hl
  have k5 : ∀ w ∈ wsX50, w ∈ wsX5_reach := fun w h => List.mem_cons_of_mem _ (List.mem_append_right _ h)
  refine lv_iload_n hx hb dX5_reach_0 rfl (lv_at hl 1 rfl) ?_
  refine lv_iconst (v := 1) hx hb dX5_reach_1 (by decide) ?_
  refine lv_bipush (v := 100) hx hb dX5_reach_2 (by decide) ?_
  refine rd_i (va_runS (As := [.int x, .int 1, .int 100]) (rest := []) ⟨hx, hb, hml, hown, hts⟩ (c_X5_within l D cI cZ x 1 100) (va_cwS 3 hts gX5_reach_X5_within rfl rfl rfl hdV_X5_within.2 ⟨Nat.le_of_ble_eq_true rfl, Nat.le_of_ble_eq_true rfl⟩) (PR.S (hP.sub [] rfl) hK) rfl rfl hl.1 rfl (lv_room (Nat.le_of_ble_eq_true rfl)) dX5_reach_4 ⟨Nat.le_of_ble_eq_true rfl, Nat.le_of_ble_eq_true rfl⟩) hP hS (fun H locs hP hS => ?_)
  refine lv_if_ne (tgt := 14) hx hb dX5_reach_7 (by decide) (fun c1 => ?_) (fun c1 => ?_)
  · skip
    refine lv_aload_n hx hb dX5_reach_14 rfl (lv_at hl 0 rfl) ?_
    refine va_get (D := D) (ci := 5) (v := .int re) (C := RX5) (T := TX5) (N := 9) hx hb hts k5 hown hK.1 hP 0 rfl rfl 7 (by decide) (hts (.fieldLink RX5 53 "BoredPipes" "reach" "I") (List.mem_of_getElem? (i := 1) rfl)) (fun _ h9 => h9) rfl dX5_reach_15 ?_
    refine lv_istore_n (lv' := [(2, .int re), (0, .ref o), (1, .int x)]) hx hb dX5_reach_18 rfl hl (by decide) rfl (fun ls hl => ?_)
    refine lv_aload_n hx hb dX5_reach_19 rfl (lv_at hl 1 rfl) ?_
    refine lv_iload_n hx hb dX5_reach_20 rfl (lv_at hl 2 rfl) ?_
    refine va_put (D := D) (ci := 5) (v := .int x) (ty := .int) (C := RX5) (T := TX5) (N := 9) hx hb hts k5 tyX5 tyX5_ok nmX5 hown hK.1 hP hD hS 0 rfl rfl 7 (by decide) (hts (.fieldLink RX5 53 "BoredPipes" "reach" "I") (List.mem_of_getElem? (i := 1) rfl)) (fun _ h9 => h9) rfl (tyX5_ok 7 (by decide)) rfl rfl (Nat.le_of_ble_eq_true rfl) dX5_reach_21 (fun H locs hP hD hS => ?_)
    have hP : va_P D vwCl [(o, .inr (5, [.ref h, .ref ja, .ref jb, .ref t, .ref n, .ref g, .long dr, .int x, .int ro]))] H := hP
    have hD : va_D A [(o, .inr (5, [.ref h, .ref ja, .ref jb, .ref t, .ref n, .ref g, .long dr, .int x, .int ro]))] := hD
    refine lv_iload_n hx hb dX5_reach_24 rfl (lv_at hl 0 rfl) ?_
    exact ret_WI hQ hx hb hr hlk hAe () (by show va_P D vwCl [(o, .inr (5, [.ref h, .ref ja, .ref jb, .ref t, .ref n, .ref g, .long dr, .int ((xReach x re).2), .int ro]))] H; rw [show (xReach x re).2 = x from (by first | with_reducible rfl | (simp only [xReach, if_neg c1]; done) | (simp [xReach, if_neg c1]; done))]; exact hP) hS (show (xReach x re).1 = re from (by first | with_reducible rfl | (simp only [xReach, if_neg c1]; done) | (simp [xReach, if_neg c1]; done))).symm dX5_reach_25
  · skip
    refine lv_sipush (v := (-1002)) hx hb dX5_reach_10 (by decide) ?_
    exact ret_WI hQ hx hb hr hlk hAe () (by show va_P D vwCl [(o, .inr (5, [.ref h, .ref ja, .ref jb, .ref t, .ref n, .ref g, .long dr, .int ((xReach x re).2), .int ro]))] H; rw [show (xReach x re).2 = re from (by first | with_reducible rfl | (simp only [xReach, if_pos c1]; done) | (simp [xReach, if_pos c1]; done))]; exact hP) hS (show (xReach x re).1 = (-1002) from (by first | with_reducible rfl | (simp only [xReach, if_pos c1]; done) | (simp [xReach, if_pos c1]; done))).symm dX5_reach_13

set_option maxHeartbeats 4000000 in
set_option maxRecDepth 100000 in
theorem c_X5_drill (l : Launch) (D : va_G) (cI cZ : ClassId) (o : Nat) (h : Nat) (ja : Nat) (jb : Nat) (t : Nat) (n : Nat) (g : Nat) (dr : Int64) (re : Int32) (ro : Int32) (x : Int32) (y : Int32)  : Met l yX5_drill wsX5_drill rmX5_drill (va_Pc [.ref o, .int x, .int y] (PW D cI cZ [(o, .inr (5, [.ref h, .ref ja, .ref jb, .ref t, .ref n, .ref g, .long dr, .int re, .int ro]))])) (WI (S := Unit) D (fun zr _ => zr = (xDrill x y dr).1) (fun _ => [(o, .inr (5, [.ref h, .ref ja, .ref jb, .ref t, .ref n, .ref g, .long ((xDrill x y dr).2), .int re, .int ro]))]) [(o, .inr (5, [.ref h, .ref ja, .ref jb, .ref t, .ref n, .ref g, .long dr, .int re, .int ro]))]) 0 0 (ad [(o, .inr (5, [.ref h, .ref ja, .ref jb, .ref t, .ref n, .ref g, .long dr, .int re, .int ro]))]) := by
  refine met_go (cc := cX5_drill) (maxL := 5) (ret := (some .int)) (by decide) rfl ?_ (Nat.le_of_ble_eq_true rfl)
  intro p e s m a below meth c Q hQ _ hx hb hr hml hts hown hlk hnm hpre ls hl
  have hown : s.vm.findClass RX5 = some m.cls := hown
  obtain ⟨hP, hK, hD0⟩ := hpre
  have hN := hK.2
  obtain ⟨A, hAe⟩ : ∃ A : Nat → Prop, A = ad [(o, .inr (5, [.ref h, .ref ja, .ref jb, .ref t, .ref n, .ref g, .long dr, .int re, .int ro]))] := ⟨_, rfl⟩
  have hD : va_D A [(o, .inr (5, [.ref h, .ref ja, .ref jb, .ref t, .ref n, .ref g, .long dr, .int re, .int ro]))] := by rw [hAe]; exact hD0.ad
  have hS : va_S A s.heap s.heap [] := va_S.rf
  have hl : lv_has ls 5 [(0, .ref o), (1, .int x), (2, .int y)] := hl
  have k5 : ∀ w ∈ wsX50, w ∈ wsX5_drill := fun w h => List.mem_cons_of_mem _ (List.mem_append_right _ h)
  refine lv_iload_n hx hb dX5_drill_0 rfl (lv_at hl 1 rfl) ?_
  refine lv_iconst (v := 1) hx hb dX5_drill_1 (by decide) ?_
  refine lv_bipush (v := 60) hx hb dX5_drill_2 (by decide) ?_
  refine rd_i (va_runS (As := [.int x, .int 1, .int 60]) (rest := []) ⟨hx, hb, hml, hown, hts⟩ (c_X5_within l D cI cZ x 1 60) (va_cwS 3 hts gX5_drill_X5_within rfl rfl rfl hdV_X5_within.2 ⟨Nat.le_of_ble_eq_true rfl, Nat.le_of_ble_eq_true rfl⟩) (PR.S (hP.sub [] rfl) hK) rfl rfl hl.1 rfl (lv_room (Nat.le_of_ble_eq_true rfl)) dX5_drill_4 ⟨Nat.le_of_ble_eq_true rfl, Nat.le_of_ble_eq_true rfl⟩) hP hS (fun H locs hP hS => ?_)
  refine lv_if_ne (tgt := 14) hx hb dX5_drill_7 (by decide) (fun c1 => ?_) (fun c1 => ?_)
  · skip
    refine lv_lconst (v := 1) hx hb dX5_drill_14 (by decide) ?_
    refine lv_iload_n hx hb dX5_drill_15 rfl (lv_at hl 1 rfl) ?_
    refine lv_lshl hx hb dX5_drill_16 rfl ?_
    refine lv_lstore_n (lv' := [(3, .long (1 <<< (x.toInt64 &&& 63))), (0, .ref o), (1, .int x), (2, .int y)]) hx hb dX5_drill_17 rfl hl (by decide) rfl (fun ls hl => ?_)
    refine lv_aload_n hx hb dX5_drill_18 rfl (lv_at hl 1 rfl) ?_
    refine lv_iload_n hx hb dX5_drill_19 rfl (lv_at hl 3 rfl) ?_
    refine lv_if_eq (tgt := 32) hx hb dX5_drill_20 (by decide) (fun c2 => ?_) (fun c2 => ?_)
    · skip
      refine lv_aload_n hx hb dX5_drill_32 rfl (lv_at hl 1 rfl) ?_
      refine va_get (D := D) (ci := 5) (v := .long dr) (C := RX5) (T := TX5) (N := 9) hx hb hts k5 hown hK.1 hP 0 rfl rfl 6 (by decide) (hts (.fieldLink RX5 49 "BoredPipes" "drills" "J") (List.mem_of_getElem? (i := 1) rfl)) (fun _ h9 => h9) rfl dX5_drill_33 ?_
      refine lv_lload_n hx hb dX5_drill_36 rfl (lv_at hl 0 rfl) ?_
      refine lv_ldc2 hx hb hown (hts (.constantLong RX5 184 (-1)) (List.mem_of_getElem? (i := 2) rfl)) dX5_drill_37 ?_
      refine lv_lxor hx hb dX5_drill_40 ?_
      refine lv_land hx hb dX5_drill_41 ?_
      refine va_put (D := D) (ci := 5) (v := .long (dr &&& ((1 <<< (x.toInt64 &&& 63)) ^^^ (-1)))) (ty := .long) (C := RX5) (T := TX5) (N := 9) hx hb hts k5 tyX5 tyX5_ok nmX5 hown hK.1 hP hD hS 0 rfl rfl 6 (by decide) (hts (.fieldLink RX5 49 "BoredPipes" "drills" "J") (List.mem_of_getElem? (i := 1) rfl)) (fun _ h9 => h9) rfl (tyX5_ok 6 (by decide)) rfl rfl (Nat.le_of_ble_eq_true rfl) dX5_drill_42 (fun H locs hP hD hS => ?_)
      have hP : va_P D vwCl [(o, .inr (5, [.ref h, .ref ja, .ref jb, .ref t, .ref n, .ref g, .long (dr &&& ((1 <<< (x.toInt64 &&& 63)) ^^^ (-1))), .int re, .int ro]))] H := hP
      have hD : va_D A [(o, .inr (5, [.ref h, .ref ja, .ref jb, .ref t, .ref n, .ref g, .long (dr &&& ((1 <<< (x.toInt64 &&& 63)) ^^^ (-1))), .int re, .int ro]))] := hD
      refine lv_aload_n hx hb dX5_drill_45 rfl (lv_at hl 1 rfl) ?_
      refine va_get (D := D) (ci := 5) (v := .long (dr &&& ((1 <<< (x.toInt64 &&& 63)) ^^^ (-1)))) (C := RX5) (T := TX5) (N := 9) hx hb hts k5 hown hK.1 hP 0 rfl rfl 6 (by decide) (hts (.fieldLink RX5 49 "BoredPipes" "drills" "J") (List.mem_of_getElem? (i := 1) rfl)) (fun _ h9 => h9) rfl dX5_drill_46 ?_
      refine rd_i (va_runS (As := [.long (dr &&& ((1 <<< (x.toInt64 &&& 63)) ^^^ (-1)))]) (rest := []) ⟨hx, hb, hml, hown, hts⟩ (c_J13_bitCount_95d88 l D cI cZ (dr &&& ((1 <<< (x.toInt64 &&& 63)) ^^^ (-1)))) (va_cwS 1 hts gX5_drill_J13_bitCount_95d88 rfl rfl rfl hdV_J13_bitCount_95d88.2 ⟨Nat.le_of_ble_eq_true rfl, Nat.le_of_ble_eq_true rfl⟩) (PR.S (hP.sub [] rfl) hK) rfl rfl hl.1 rfl (lv_room (Nat.le_of_ble_eq_true rfl)) dX5_drill_49 ⟨Nat.le_of_ble_eq_true rfl, Nat.le_of_ble_eq_true rfl⟩) hP hS (fun H locs hP hS => ?_)
      exact ret_WI hQ hx hb hr hlk hAe () (by show va_P D vwCl [(o, .inr (5, [.ref h, .ref ja, .ref jb, .ref t, .ref n, .ref g, .long ((xDrill x y dr).2), .int re, .int ro]))] H; rw [show (xDrill x y dr).2 = dr &&& ((1 <<< (x.toInt64 &&& 63)) ^^^ (-1)) from (by first | with_reducible rfl | (simp only [xDrill, if_neg c1, if_pos c2]; done) | (simp [xDrill, if_neg c1, if_pos c2]; done))]; exact hP) hS (show (xDrill x y dr).1 = fBit (dr &&& ((1 <<< (x.toInt64 &&& 63)) ^^^ (-1))) from (by first | with_reducible rfl | (simp only [xDrill, if_neg c1, if_pos c2]; done) | (simp [xDrill, if_neg c1, if_pos c2]; done))).symm dX5_drill_52
    · skip
      refine lv_aload_n hx hb dX5_drill_23 rfl (lv_at hl 1 rfl) ?_
      refine va_get (D := D) (ci := 5) (v := .long dr) (C := RX5) (T := TX5) (N := 9) hx hb hts k5 hown hK.1 hP 0 rfl rfl 6 (by decide) (hts (.fieldLink RX5 49 "BoredPipes" "drills" "J") (List.mem_of_getElem? (i := 1) rfl)) (fun _ h9 => h9) rfl dX5_drill_24 ?_
      refine lv_lload_n hx hb dX5_drill_27 rfl (lv_at hl 0 rfl) ?_
      refine lv_lor hx hb dX5_drill_28 ?_
      refine lv_goto (tgt := 42) hx hb dX5_drill_29 (by decide) ?_
      refine va_put (D := D) (ci := 5) (v := .long (dr ||| (1 <<< (x.toInt64 &&& 63)))) (ty := .long) (C := RX5) (T := TX5) (N := 9) hx hb hts k5 tyX5 tyX5_ok nmX5 hown hK.1 hP hD hS 0 rfl rfl 6 (by decide) (hts (.fieldLink RX5 49 "BoredPipes" "drills" "J") (List.mem_of_getElem? (i := 1) rfl)) (fun _ h9 => h9) rfl (tyX5_ok 6 (by decide)) rfl rfl (Nat.le_of_ble_eq_true rfl) dX5_drill_42 (fun H locs hP hD hS => ?_)
      have hP : va_P D vwCl [(o, .inr (5, [.ref h, .ref ja, .ref jb, .ref t, .ref n, .ref g, .long (dr ||| (1 <<< (x.toInt64 &&& 63))), .int re, .int ro]))] H := hP
      have hD : va_D A [(o, .inr (5, [.ref h, .ref ja, .ref jb, .ref t, .ref n, .ref g, .long (dr ||| (1 <<< (x.toInt64 &&& 63))), .int re, .int ro]))] := hD
      refine lv_aload_n hx hb dX5_drill_45 rfl (lv_at hl 1 rfl) ?_
      refine va_get (D := D) (ci := 5) (v := .long (dr ||| (1 <<< (x.toInt64 &&& 63)))) (C := RX5) (T := TX5) (N := 9) hx hb hts k5 hown hK.1 hP 0 rfl rfl 6 (by decide) (hts (.fieldLink RX5 49 "BoredPipes" "drills" "J") (List.mem_of_getElem? (i := 1) rfl)) (fun _ h9 => h9) rfl dX5_drill_46 ?_
      refine rd_i (va_runS (As := [.long (dr ||| (1 <<< (x.toInt64 &&& 63)))]) (rest := []) ⟨hx, hb, hml, hown, hts⟩ (c_J13_bitCount_95d88 l D cI cZ (dr ||| (1 <<< (x.toInt64 &&& 63)))) (va_cwS 1 hts gX5_drill_J13_bitCount_95d88 rfl rfl rfl hdV_J13_bitCount_95d88.2 ⟨Nat.le_of_ble_eq_true rfl, Nat.le_of_ble_eq_true rfl⟩) (PR.S (hP.sub [] rfl) hK) rfl rfl hl.1 rfl (lv_room (Nat.le_of_ble_eq_true rfl)) dX5_drill_49 ⟨Nat.le_of_ble_eq_true rfl, Nat.le_of_ble_eq_true rfl⟩) hP hS (fun H locs hP hS => ?_)
      exact ret_WI hQ hx hb hr hlk hAe () (by show va_P D vwCl [(o, .inr (5, [.ref h, .ref ja, .ref jb, .ref t, .ref n, .ref g, .long ((xDrill x y dr).2), .int re, .int ro]))] H; rw [show (xDrill x y dr).2 = dr ||| (1 <<< (x.toInt64 &&& 63)) from (by first | with_reducible rfl | (simp only [xDrill, if_neg c1, if_neg c2]; done) | (simp [xDrill, if_neg c1, if_neg c2]; done))]; exact hP) hS (show (xDrill x y dr).1 = fBit (dr ||| (1 <<< (x.toInt64 &&& 63))) from (by first | with_reducible rfl | (simp only [xDrill, if_neg c1, if_neg c2]; done) | (simp [xDrill, if_neg c1, if_neg c2]; done))).symm dX5_drill_52
  · skip
    refine lv_sipush (v := (-1002)) hx hb dX5_drill_10 (by decide) ?_
    exact ret_WI hQ hx hb hr hlk hAe () (by show va_P D vwCl [(o, .inr (5, [.ref h, .ref ja, .ref jb, .ref t, .ref n, .ref g, .long ((xDrill x y dr).2), .int re, .int ro]))] H; rw [show (xDrill x y dr).2 = dr from (by first | with_reducible rfl | (simp only [xDrill, if_pos c1]; done) | (simp [xDrill, if_pos c1]; done))]; exact hP) hS (show (xDrill x y dr).1 = (-1002) from (by first | with_reducible rfl | (simp only [xDrill, if_pos c1]; done) | (simp [xDrill, if_pos c1]; done))).symm dX5_drill_13

set_option maxHeartbeats 4000000 in
set_option maxRecDepth 100000 in
theorem c_X5_note (l : Launch) (D : va_G) (cI cZ : ClassId) (o : Nat) (h : Nat) (ja : Nat) (jb : Nat) (t : Nat) (n : Nat) (g : Nat) (dr : Int64) (re : Int32) (ro : Int32) (n1 : Nat) (n2 : Nat) (n3 : Nat) (nn : Nat) (ns : Nat → Int32) (nw : Nat → Int32) (nt : Nat → Int32) (x : Int32) (y : Int32) (z : Int32) (hnn : nn ≤ 6) : Met l yX5_note wsX5_note rmX5_note (va_Pc [.ref o, .int x, .int y, .int z] (PW D cI cZ [(o, .inr (5, [.ref h, .ref ja, .ref jb, .ref t, .ref n, .ref g, .long dr, .int re, .int ro])), (n, .inr (1, [.ref n1, .ref n2, .ref n3, .int (nI nn)])), (n1, .inl (cI, 6, .inl ns)), (n2, .inl (cI, 6, .inl nw)), (n3, .inl (cI, 6, .inl nt))])) (WI (S := Unit) D (fun zr _ => zr = (xNote x y z nn ns nw nt).1) (fun _ => [(o, .inr (5, [.ref h, .ref ja, .ref jb, .ref t, .ref n, .ref g, .long dr, .int re, .int ro])), (n, .inr (1, [.ref n1, .ref n2, .ref n3, .int (nI ((xNote x y z nn ns nw nt).2.1))])), (n1, .inl (cI, 6, .inl ((xNote x y z nn ns nw nt).2.2.1))), (n2, .inl (cI, 6, .inl ((xNote x y z nn ns nw nt).2.2.2.1))), (n3, .inl (cI, 6, .inl ((xNote x y z nn ns nw nt).2.2.2.2)))]) [(o, .inr (5, [.ref h, .ref ja, .ref jb, .ref t, .ref n, .ref g, .long dr, .int re, .int ro])), (n, .inr (1, [.ref n1, .ref n2, .ref n3, .int (nI nn)])), (n1, .inl (cI, 6, .inl ns)), (n2, .inl (cI, 6, .inl nw)), (n3, .inl (cI, 6, .inl nt))]) 0 0 (ad [(o, .inr (5, [.ref h, .ref ja, .ref jb, .ref t, .ref n, .ref g, .long dr, .int re, .int ro])), (n, .inr (1, [.ref n1, .ref n2, .ref n3, .int (nI nn)])), (n1, .inl (cI, 6, .inl ns)), (n2, .inl (cI, 6, .inl nw)), (n3, .inl (cI, 6, .inl nt))]) := by
  refine met_go (cc := cX5_note) (maxL := 4) (ret := (some .int)) (by decide) rfl ?_ (Nat.le_of_ble_eq_true rfl)
  intro p e s m a below meth c Q hQ _ hx hb hr hml hts hown hlk hnm hpre ls hl
  have hown : s.vm.findClass RX5 = some m.cls := hown
  obtain ⟨hP, hK, hD0⟩ := hpre
  have hN := hK.2
  obtain ⟨A, hAe⟩ : ∃ A : Nat → Prop, A = ad [(o, .inr (5, [.ref h, .ref ja, .ref jb, .ref t, .ref n, .ref g, .long dr, .int re, .int ro])), (n, .inr (1, [.ref n1, .ref n2, .ref n3, .int (nI nn)])), (n1, .inl (cI, 6, .inl ns)), (n2, .inl (cI, 6, .inl nw)), (n3, .inl (cI, 6, .inl nt))] := ⟨_, rfl⟩
  have hD : va_D A [(o, .inr (5, [.ref h, .ref ja, .ref jb, .ref t, .ref n, .ref g, .long dr, .int re, .int ro])), (n, .inr (1, [.ref n1, .ref n2, .ref n3, .int (nI nn)])), (n1, .inl (cI, 6, .inl ns)), (n2, .inl (cI, 6, .inl nw)), (n3, .inl (cI, 6, .inl nt))] := by rw [hAe]; exact hD0.ad
  have hS : va_S A s.heap s.heap [] := va_S.rf
  have hl : lv_has ls 4 [(0, .ref o), (1, .int x), (2, .int y), (3, .int z)] := hl
  have k1 : ∀ w ∈ wsX10, w ∈ wsX5_note := fun w h => List.mem_cons_of_mem _ (List.mem_append_right _ h)
  have k5 : ∀ w ∈ wsX50, w ∈ wsX5_note := fun w h => List.mem_cons_of_mem _ (List.mem_append_left _ (List.mem_append_right _ h))
  refine lv_iload_n hx hb dX5_note_0 rfl (lv_at hl 1 rfl) ?_
  refine lv_iconst (v := 0) hx hb dX5_note_1 (by decide) ?_
  refine lv_bipush (v := 63) hx hb dX5_note_2 (by decide) ?_
  refine rd_i (va_runS (As := [.int x, .int 0, .int 63]) (rest := []) ⟨hx, hb, hml, hown, hts⟩ (c_X5_within l D cI cZ x 0 63) (va_cwS 3 hts gX5_note_X5_within rfl rfl rfl hdV_X5_within.2 ⟨Nat.le_of_ble_eq_true rfl, Nat.le_of_ble_eq_true rfl⟩) (PR.S (hP.sub [] rfl) hK) rfl rfl hl.1 rfl (lv_room (Nat.le_of_ble_eq_true rfl)) dX5_note_4 ⟨Nat.le_of_ble_eq_true rfl, Nat.le_of_ble_eq_true rfl⟩) hP hS (fun H locs hP hS => ?_)
  refine lv_if_eq (tgt := 30) hx hb dX5_note_7 (by decide) (fun c1 => ?_) (fun c1 => ?_)
  · skip
    refine lv_sipush (v := (-1002)) hx hb dX5_note_30 (by decide) ?_
    exact ret_WI hQ hx hb hr hlk hAe () (by show va_P D vwCl [(o, .inr (5, [.ref h, .ref ja, .ref jb, .ref t, .ref n, .ref g, .long dr, .int re, .int ro])), (n, .inr (1, [.ref n1, .ref n2, .ref n3, .int (nI ((xNote x y z nn ns nw nt).2.1))])), (n1, .inl (cI, 6, .inl ((xNote x y z nn ns nw nt).2.2.1))), (n2, .inl (cI, 6, .inl ((xNote x y z nn ns nw nt).2.2.2.1))), (n3, .inl (cI, 6, .inl ((xNote x y z nn ns nw nt).2.2.2.2)))] H; rw [show nI ((xNote x y z nn ns nw nt).2.1) = nI nn from (by first | with_reducible rfl | (simp only [xNote, if_pos c1]; done) | (simp [xNote, if_pos c1]; done)), show (xNote x y z nn ns nw nt).2.2.1 = ns from (by first | with_reducible rfl | (simp only [xNote, if_pos c1]; done) | (simp [xNote, if_pos c1]; done)), show (xNote x y z nn ns nw nt).2.2.2.1 = nw from (by first | with_reducible rfl | (simp only [xNote, if_pos c1]; done) | (simp [xNote, if_pos c1]; done)), show (xNote x y z nn ns nw nt).2.2.2.2 = nt from (by first | with_reducible rfl | (simp only [xNote, if_pos c1]; done) | (simp [xNote, if_pos c1]; done))]; exact hP) hS (show (xNote x y z nn ns nw nt).1 = (-1002) from (by first | with_reducible rfl | (simp only [xNote, if_pos c1]; done) | (simp [xNote, if_pos c1]; done))).symm dX5_note_33
  · skip
    refine lv_iload_n hx hb dX5_note_10 rfl (lv_at hl 2 rfl) ?_
    refine lv_iconst (v := 0) hx hb dX5_note_11 (by decide) ?_
    refine lv_iconst (v := 5) hx hb dX5_note_12 (by decide) ?_
    refine rd_i (va_runS (As := [.int y, .int 0, .int 5]) (rest := []) ⟨hx, hb, hml, hown, hts⟩ (c_X5_within l D cI cZ y 0 5) (va_cwS 3 hts gX5_note_X5_within rfl rfl rfl hdV_X5_within.2 ⟨Nat.le_of_ble_eq_true rfl, Nat.le_of_ble_eq_true rfl⟩) (PR.S (hP.sub [] rfl) hK) rfl rfl hl.1 rfl (lv_room (Nat.le_of_ble_eq_true rfl)) dX5_note_13 ⟨Nat.le_of_ble_eq_true rfl, Nat.le_of_ble_eq_true rfl⟩) hP hS (fun H locs hP hS => ?_)
    refine lv_if_eq (tgt := 30) hx hb dX5_note_16 (by decide) (fun c2 => ?_) (fun c2 => ?_)
    · skip
      refine lv_sipush (v := (-1002)) hx hb dX5_note_30 (by decide) ?_
      exact ret_WI hQ hx hb hr hlk hAe () (by show va_P D vwCl [(o, .inr (5, [.ref h, .ref ja, .ref jb, .ref t, .ref n, .ref g, .long dr, .int re, .int ro])), (n, .inr (1, [.ref n1, .ref n2, .ref n3, .int (nI ((xNote x y z nn ns nw nt).2.1))])), (n1, .inl (cI, 6, .inl ((xNote x y z nn ns nw nt).2.2.1))), (n2, .inl (cI, 6, .inl ((xNote x y z nn ns nw nt).2.2.2.1))), (n3, .inl (cI, 6, .inl ((xNote x y z nn ns nw nt).2.2.2.2)))] H; rw [show nI ((xNote x y z nn ns nw nt).2.1) = nI nn from (by first | with_reducible rfl | (simp only [xNote, if_neg c1, if_pos c2]; done) | (simp [xNote, if_neg c1, if_pos c2]; done)), show (xNote x y z nn ns nw nt).2.2.1 = ns from (by first | with_reducible rfl | (simp only [xNote, if_neg c1, if_pos c2]; done) | (simp [xNote, if_neg c1, if_pos c2]; done)), show (xNote x y z nn ns nw nt).2.2.2.1 = nw from (by first | with_reducible rfl | (simp only [xNote, if_neg c1, if_pos c2]; done) | (simp [xNote, if_neg c1, if_pos c2]; done)), show (xNote x y z nn ns nw nt).2.2.2.2 = nt from (by first | with_reducible rfl | (simp only [xNote, if_neg c1, if_pos c2]; done) | (simp [xNote, if_neg c1, if_pos c2]; done))]; exact hP) hS (show (xNote x y z nn ns nw nt).1 = (-1002) from (by first | with_reducible rfl | (simp only [xNote, if_neg c1, if_pos c2]; done) | (simp [xNote, if_neg c1, if_pos c2]; done))).symm dX5_note_33
    · skip
      refine lv_iload_n hx hb dX5_note_19 rfl (lv_at hl 3 rfl) ?_
      refine lv_iconst (v := 1) hx hb dX5_note_20 (by decide) ?_
      refine lv_sipush (v := 300) hx hb dX5_note_21 (by decide) ?_
      refine rd_i (va_runS (As := [.int z, .int 1, .int 300]) (rest := []) ⟨hx, hb, hml, hown, hts⟩ (c_X5_within l D cI cZ z 1 300) (va_cwS 3 hts gX5_note_X5_within rfl rfl rfl hdV_X5_within.2 ⟨Nat.le_of_ble_eq_true rfl, Nat.le_of_ble_eq_true rfl⟩) (PR.S (hP.sub [] rfl) hK) rfl rfl hl.1 rfl (lv_room (Nat.le_of_ble_eq_true rfl)) dX5_note_24 ⟨Nat.le_of_ble_eq_true rfl, Nat.le_of_ble_eq_true rfl⟩) hP hS (fun H locs hP hS => ?_)
      refine lv_if_ne (tgt := 34) hx hb dX5_note_27 (by decide) (fun c3 => ?_) (fun c3 => ?_)
      · skip
        refine lv_aload_n hx hb dX5_note_34 rfl (lv_at hl 0 rfl) ?_
        refine va_get (D := D) (ci := 5) (v := .ref n) (C := RX5) (T := TX5) (N := 9) hx hb hts k5 hown hK.1 hP 0 rfl rfl 4 (by decide) (hts (.fieldLink RX5 36 "BoredPipes" "notes" "LBoredPipes$Notes;") (List.mem_of_getElem? (i := 1) rfl)) (fun _ h9 => h9) rfl dX5_note_35 ?_
        refine va_get (D := D) (ci := 1) (v := .int (nI nn)) (C := RX1) (T := TX1) (N := 4) hx hb hts k1 hown hK.1 hP 1 rfl rfl 3 (by decide) (hts (.fieldLink RX5 121 "BoredPipes$Notes" "many" "I") (List.mem_of_getElem? (i := 2) rfl)) (fun _ h9 => h9) rfl dX5_note_38 ?_
        refine lv_bipush (v := 6) hx hb dX5_note_41 (by decide) ?_
        refine lv_icmp_lt (tgt := 50) hx hb dX5_note_43 (by decide) (fun c4 => ?_) (fun c4 => ?_)
        · skip
          have hlt : nn < 6 := nI_ltL (N := 6) c4 (by omega) (by decide)
          refine lv_aload_n hx hb dX5_note_50 rfl (lv_at hl 0 rfl) ?_
          refine va_get (D := D) (ci := 5) (v := .ref n) (C := RX5) (T := TX5) (N := 9) hx hb hts k5 hown hK.1 hP 0 rfl rfl 4 (by decide) (hts (.fieldLink RX5 36 "BoredPipes" "notes" "LBoredPipes$Notes;") (List.mem_of_getElem? (i := 1) rfl)) (fun _ h9 => h9) rfl dX5_note_51 ?_
          refine lv_iload_n hx hb dX5_note_54 rfl (lv_at hl 1 rfl) ?_
          refine lv_iload_n hx hb dX5_note_55 rfl (lv_at hl 2 rfl) ?_
          refine lv_iload_n hx hb dX5_note_56 rfl (lv_at hl 3 rfl) ?_
          refine wr_v (va_runV (As := [.int x, .int y, .int z]) (rest := []) ⟨hx, hb, hml, hown, hts⟩ (c_X1_add l D cI cZ n n1 n2 n3 nn ns nw nt x y z (by first | omega | exact hnn)) (cwV 3 hts gX5_note_X1_add rfl rfl rfl hdV_X1_add ⟨Nat.le_of_ble_eq_true rfl, Nat.le_of_ble_eq_true rfl⟩) (PW.V (hP.sub [1, 2, 3, 4] rfl) hK ((hD.sub [1, 2, 3, 4] (by decide) rfl).weaken (fun _ _ _ _ => trivial)) hP (q0 := 1) rfl rfl) rfl rfl hl.1 rfl (lv_room (Nat.le_of_ble_eq_true rfl)) dX5_note_57 ⟨Nat.le_of_ble_eq_true rfl, Nat.le_of_ble_eq_true rfl⟩) hP hD hS [1, 2, 3, 4] rfl (fun _ => rfl) (fun u5 H locs hu5 hP hD hS => ?_)
          have hP : va_P D vwCl [(o, .inr (5, [.ref h, .ref ja, .ref jb, .ref t, .ref n, .ref g, .long dr, .int re, .int ro])), (n, .inr (1, [.ref n1, .ref n2, .ref n3, .int (nI (nn + 1))])), (n1, .inl (cI, 6, .inl (upd ns nn x))), (n2, .inl (cI, 6, .inl (upd nw nn y))), (n3, .inl (cI, 6, .inl (upd nt nn z)))] H := hP
          have hD : va_D A [(o, .inr (5, [.ref h, .ref ja, .ref jb, .ref t, .ref n, .ref g, .long dr, .int re, .int ro])), (n, .inr (1, [.ref n1, .ref n2, .ref n3, .int (nI (nn + 1))])), (n1, .inl (cI, 6, .inl (upd ns nn x))), (n2, .inl (cI, 6, .inl (upd nw nn y))), (n3, .inl (cI, 6, .inl (upd nt nn z)))] := hD
          refine lv_aload_n hx hb dX5_note_60 rfl (lv_at hl 0 rfl) ?_
          refine va_get (D := D) (ci := 5) (v := .ref n) (C := RX5) (T := TX5) (N := 9) hx hb hts k5 hown hK.1 hP 0 rfl rfl 4 (by decide) (hts (.fieldLink RX5 36 "BoredPipes" "notes" "LBoredPipes$Notes;") (List.mem_of_getElem? (i := 1) rfl)) (fun _ h9 => h9) rfl dX5_note_61 ?_
          refine va_get (D := D) (ci := 1) (v := .int (nI (nn + 1))) (C := RX1) (T := TX1) (N := 4) hx hb hts k1 hown hK.1 hP 1 rfl rfl 3 (by decide) (hts (.fieldLink RX5 121 "BoredPipes$Notes" "many" "I") (List.mem_of_getElem? (i := 2) rfl)) (fun _ h9 => h9) rfl dX5_note_64 ?_
          refine lv_iconst (v := 1) hx hb dX5_note_67 (by decide) ?_
          refine lv_isub hx hb dX5_note_68 ?_
          exact ret_WI hQ hx hb hr hlk hAe () (by show va_P D vwCl [(o, .inr (5, [.ref h, .ref ja, .ref jb, .ref t, .ref n, .ref g, .long dr, .int re, .int ro])), (n, .inr (1, [.ref n1, .ref n2, .ref n3, .int (nI ((xNote x y z nn ns nw nt).2.1))])), (n1, .inl (cI, 6, .inl ((xNote x y z nn ns nw nt).2.2.1))), (n2, .inl (cI, 6, .inl ((xNote x y z nn ns nw nt).2.2.2.1))), (n3, .inl (cI, 6, .inl ((xNote x y z nn ns nw nt).2.2.2.2)))] H; rw [show nI ((xNote x y z nn ns nw nt).2.1) = nI (nn + 1) from (by first | with_reducible rfl | (simp only [xNote, if_neg c1, if_neg c2, if_neg c3, if_pos c4]; done) | (simp [xNote, if_neg c1, if_neg c2, if_neg c3, if_pos c4]; done)), show (xNote x y z nn ns nw nt).2.2.1 = upd ns nn x from (by first | with_reducible rfl | (simp only [xNote, if_neg c1, if_neg c2, if_neg c3, if_pos c4]; done) | (simp [xNote, if_neg c1, if_neg c2, if_neg c3, if_pos c4]; done)), show (xNote x y z nn ns nw nt).2.2.2.1 = upd nw nn y from (by first | with_reducible rfl | (simp only [xNote, if_neg c1, if_neg c2, if_neg c3, if_pos c4]; done) | (simp [xNote, if_neg c1, if_neg c2, if_neg c3, if_pos c4]; done)), show (xNote x y z nn ns nw nt).2.2.2.2 = upd nt nn z from (by first | with_reducible rfl | (simp only [xNote, if_neg c1, if_neg c2, if_neg c3, if_pos c4]; done) | (simp [xNote, if_neg c1, if_neg c2, if_neg c3, if_pos c4]; done))]; exact hP) hS (show (xNote x y z nn ns nw nt).1 = (nI (nn + 1)) - 1 from (by first | with_reducible rfl | (simp only [xNote, if_neg c1, if_neg c2, if_neg c3, if_pos c4]; done) | (simp [xNote, if_neg c1, if_neg c2, if_neg c3, if_pos c4]; done))).symm dX5_note_69
        · skip
          refine lv_sipush (v := (-1004)) hx hb dX5_note_46 (by decide) ?_
          exact ret_WI hQ hx hb hr hlk hAe () (by show va_P D vwCl [(o, .inr (5, [.ref h, .ref ja, .ref jb, .ref t, .ref n, .ref g, .long dr, .int re, .int ro])), (n, .inr (1, [.ref n1, .ref n2, .ref n3, .int (nI ((xNote x y z nn ns nw nt).2.1))])), (n1, .inl (cI, 6, .inl ((xNote x y z nn ns nw nt).2.2.1))), (n2, .inl (cI, 6, .inl ((xNote x y z nn ns nw nt).2.2.2.1))), (n3, .inl (cI, 6, .inl ((xNote x y z nn ns nw nt).2.2.2.2)))] H; rw [show nI ((xNote x y z nn ns nw nt).2.1) = nI nn from (by first | with_reducible rfl | (simp only [xNote, if_neg c1, if_neg c2, if_neg c3, if_neg c4]; done) | (simp [xNote, if_neg c1, if_neg c2, if_neg c3, if_neg c4]; done)), show (xNote x y z nn ns nw nt).2.2.1 = ns from (by first | with_reducible rfl | (simp only [xNote, if_neg c1, if_neg c2, if_neg c3, if_neg c4]; done) | (simp [xNote, if_neg c1, if_neg c2, if_neg c3, if_neg c4]; done)), show (xNote x y z nn ns nw nt).2.2.2.1 = nw from (by first | with_reducible rfl | (simp only [xNote, if_neg c1, if_neg c2, if_neg c3, if_neg c4]; done) | (simp [xNote, if_neg c1, if_neg c2, if_neg c3, if_neg c4]; done)), show (xNote x y z nn ns nw nt).2.2.2.2 = nt from (by first | with_reducible rfl | (simp only [xNote, if_neg c1, if_neg c2, if_neg c3, if_neg c4]; done) | (simp [xNote, if_neg c1, if_neg c2, if_neg c3, if_neg c4]; done))]; exact hP) hS (show (xNote x y z nn ns nw nt).1 = (-1004) from (by first | with_reducible rfl | (simp only [xNote, if_neg c1, if_neg c2, if_neg c3, if_neg c4]; done) | (simp [xNote, if_neg c1, if_neg c2, if_neg c3, if_neg c4]; done))).symm dX5_note_49
      · skip
        refine lv_sipush (v := (-1002)) hx hb dX5_note_30 (by decide) ?_
        exact ret_WI hQ hx hb hr hlk hAe () (by show va_P D vwCl [(o, .inr (5, [.ref h, .ref ja, .ref jb, .ref t, .ref n, .ref g, .long dr, .int re, .int ro])), (n, .inr (1, [.ref n1, .ref n2, .ref n3, .int (nI ((xNote x y z nn ns nw nt).2.1))])), (n1, .inl (cI, 6, .inl ((xNote x y z nn ns nw nt).2.2.1))), (n2, .inl (cI, 6, .inl ((xNote x y z nn ns nw nt).2.2.2.1))), (n3, .inl (cI, 6, .inl ((xNote x y z nn ns nw nt).2.2.2.2)))] H; rw [show nI ((xNote x y z nn ns nw nt).2.1) = nI nn from (by first | with_reducible rfl | (simp only [xNote, if_neg c1, if_neg c2, if_pos c3]; done) | (simp [xNote, if_neg c1, if_neg c2, if_pos c3]; done)), show (xNote x y z nn ns nw nt).2.2.1 = ns from (by first | with_reducible rfl | (simp only [xNote, if_neg c1, if_neg c2, if_pos c3]; done) | (simp [xNote, if_neg c1, if_neg c2, if_pos c3]; done)), show (xNote x y z nn ns nw nt).2.2.2.1 = nw from (by first | with_reducible rfl | (simp only [xNote, if_neg c1, if_neg c2, if_pos c3]; done) | (simp [xNote, if_neg c1, if_neg c2, if_pos c3]; done)), show (xNote x y z nn ns nw nt).2.2.2.2 = nt from (by first | with_reducible rfl | (simp only [xNote, if_neg c1, if_neg c2, if_pos c3]; done) | (simp [xNote, if_neg c1, if_neg c2, if_pos c3]; done))]; exact hP) hS (show (xNote x y z nn ns nw nt).1 = (-1002) from (by first | with_reducible rfl | (simp only [xNote, if_neg c1, if_neg c2, if_pos c3]; done) | (simp [xNote, if_neg c1, if_neg c2, if_pos c3]; done))).symm dX5_note_33
