set_option maxHeartbeats 4000000 in
set_option maxRecDepth 100000 in
theorem c_X2_startOf (l : Launch) (D : va_G) (cI cZ : ClassId) (h : Nat) (h1 : Nat) (h2 : Nat) (h3 : Nat) (h4 : Nat) (h5 : Nat) (np : Nat) (nh : Nat) (mo : Int32) (fa : Int32) (ln : Nat → Int32) (k : Nat) (hk : k ≤ 12) : Met l yX2_startOf wsX2_startOf rmX2_startOf (va_Pc [.ref h, .int (nI k)] (PR D cI cZ [(h, .inr (2, [.ref h1, .ref h2, .ref h3, .ref h4, .ref h5, .int (nI np), .int (nI nh), .int mo, .int fa])), (h1, .inl (cI, 12, .inl ln))])) (RI (fSum ln k 0 0)) 0 0 nA := by
  refine met_go (cc := cX2_startOf) (maxL := 4) (ret := (some .int)) (by decide) rfl ?_ (Nat.le_of_ble_eq_true rfl)
  intro p e s m a below meth c Q hQ _ hx hb hr hml hts hown hlk hnm hpre ls hl
  have hown : s.vm.findClass RX2 = some m.cls := hown
  obtain ⟨hP, hK⟩ := hpre
  have hN := hK.2
  have hS : va_S nA s.heap s.heap [] := va_S.rf
  have hl : lv_has ls 4 [(0, .ref h), (1, .int (nI k))] := hl
  have k2 : ∀ w ∈ wsX20, w ∈ wsX2_startOf := fun w h => List.mem_cons_of_mem _ (List.mem_append_right _ h)
  refine lv_iconst (v := 0) hx hb dX2_startOf_0 (by decide) ?_
  refine lv_istore_n (lv' := [(2, .int 0), (0, .ref h), (1, .int (nI k))]) hx hb dX2_startOf_1 rfl hl (by decide) rfl (fun ls hl => ?_)
  refine lv_iconst (v := 0) hx hb dX2_startOf_2 (by decide) ?_
  refine lv_istore_n (lv' := [(3, .int 0), (2, .int 0), (0, .ref h), (1, .int (nI k))]) hx hb dX2_startOf_3 rfl hl (by decide) rfl (fun ls hl => ?_)
  have lp_4 : ∀ (r : Nat) (i : Nat) (z : Int32), (i + r = k) → (fSum ln k 0 0 = fSum ln r i z) → ∀ (H : Heap) (locs : List Loc), va_P D vwCl [(h, .inr (2, [.ref h1, .ref h2, .ref h3, .ref h4, .ref h5, .int (nI np), .int (nI nh), .int mo, .int fa])), (h1, .inl (cI, 12, .inl ln))] H → va_S nA s.heap H locs → ∀ (ls : Array Slot), lv_has ls 4 [(3, .int (nI i)), (2, .int z), (0, .ref h), (1, .int (nI k))] → W p l e rmX2_startOf s m a below meth c H locs 0 0 Q (F0 m 4 ls []) := by
    intro r
    induction r with
    | zero =>
      intro i z hi hF H locs hP hS ls hl
      refine lv_iload_n hx hb dX2_startOf_4 rfl (lv_at hl 0 rfl) ?_
      refine lv_iload_n hx hb dX2_startOf_5 rfl (lv_at hl 3 rfl) ?_
      refine lv_icmp_ge (tgt := 26) hx hb dX2_startOf_6 (by decide) (fun c1 => ?_) (fun c1 => absurd ((nI_le (a := k) (b := i) (by omega) (by omega))) c1)
      refine lv_iload_n hx hb dX2_startOf_26 rfl (lv_at hl 1 rfl) ?_
      exact ret_RI hQ hx hb hr hlk hS (hF.trans (by first | with_reducible rfl | (simp only [fSum, if_pos c1]; done) | (simp [fSum, if_pos c1]; done))).symm dX2_startOf_27
    | succ r ih_4 =>
      intro i z hi hF H locs hP hS ls hl
      refine lv_iload_n hx hb dX2_startOf_4 rfl (lv_at hl 0 rfl) ?_
      refine lv_iload_n hx hb dX2_startOf_5 rfl (lv_at hl 3 rfl) ?_
      refine lv_icmp_ge (tgt := 26) hx hb dX2_startOf_6 (by decide) (fun c2 => absurd c2 ((nI_ge (a := i) (b := k) (by omega) (by omega)))) (fun c2 => ?_)
      refine lv_iload_n hx hb dX2_startOf_9 rfl (lv_at hl 1 rfl) ?_
      refine lv_aload_n hx hb dX2_startOf_10 rfl (lv_at hl 2 rfl) ?_
      refine va_get (D := D) (ci := 2) (v := .ref h1) (C := RX2) (T := TX2) (N := 9) hx hb hts k2 hown hK.1 hP 0 rfl rfl 0 (by decide) (hts (.fieldLink RX2 9 "BoredPipes$Pipe" "lengths" "[I") (List.mem_of_getElem? (i := 1) rfl)) (fun _ h9 => h9) rfl dX2_startOf_11 ?_
      refine lv_iload_n hx hb dX2_startOf_14 rfl (lv_at hl 0 rfl) ?_
      refine rd_i (va_runSN (As := [.ref h1, .int (nI i)]) (rest := [.int z]) ⟨hx, hb, hml, hown, hts⟩ (c_X5_at_in l D cI cZ h1 12 ln i (by first | omega | exact hk) (by omega)) ⟨va_cnB 2 hts gX2_startOf_X5_at_n48 rfl rfl rfl (nwL7 hN) (hts (.initialized RX5) (List.mem_of_getElem? (i := 3) rfl)) hdV_X5_at.2 ⟨Nat.le_of_ble_eq_true rfl, Nat.le_of_ble_eq_true rfl⟩, (hts (.static yX5_at) (List.mem_of_getElem? (i := 2) rfl)), trivial⟩ (PR.S (hP.sub [1] rfl) hK) rfl rfl hl.1 rfl (lv_room (Nat.le_of_ble_eq_true rfl)) dX2_startOf_15 ⟨Nat.le_of_ble_eq_true rfl, Nat.le_of_ble_eq_true rfl⟩) hP hS (fun H locs hP hS => ?_)
      refine lv_iadd hx hb dX2_startOf_18 ?_
      refine lv_istore_n (lv' := [(2, .int (z + (ln i))), (3, .int (nI i)), (0, .ref h), (1, .int (nI k))]) hx hb dX2_startOf_19 rfl hl (by decide) rfl (fun ls hl => ?_)
      refine lv_iinc (v := nI (i + 1)) (lv' := [(3, .int (nI (i + 1))), (2, .int (z + (ln i))), (0, .ref h), (1, .int (nI k))]) hx hb dX2_startOf_20 hl (k := 1) rfl (iinc_1 i) (by decide) rfl (fun ls hl => ?_)
      refine lv_goto (tgt := 4) hx hb dX2_startOf_23 (by decide) ?_
      exact ih_4 (i + 1) (z + (ln i)) (by omega) (hF.trans (by first | with_reducible rfl | (simp only [fSum, if_neg c2]; done) | (simp [fSum, if_neg c2]; done))) _ _ hP hS ls (lv_sub hl [0, 1, 2, 3] rfl)
  exact lp_4 k 0 0 (by omega) rfl _ _ hP hS ls (lv_sub hl [0, 1, 2, 3] rfl)

set_option maxHeartbeats 4000000 in
set_option maxRecDepth 100000 in
theorem c_X2_wholeLength (l : Launch) (D : va_G) (cI cZ : ClassId) (h : Nat) (h1 : Nat) (h2 : Nat) (h3 : Nat) (h4 : Nat) (h5 : Nat) (np : Nat) (nh : Nat) (mo : Int32) (fa : Int32) (ln : Nat → Int32) (hnp : np ≤ 12) : Met l yX2_wholeLength wsX2_wholeLength rmX2_wholeLength (va_Pc [.ref h] (PR D cI cZ [(h, .inr (2, [.ref h1, .ref h2, .ref h3, .ref h4, .ref h5, .int (nI np), .int (nI nh), .int mo, .int fa])), (h1, .inl (cI, 12, .inl ln))])) (RI (fSum ln np 0 0)) 0 0 nA := by
  refine met_go (cc := cX2_wholeLength) (maxL := 1) (ret := (some .int)) (by decide) rfl ?_ (Nat.le_of_ble_eq_true rfl)
  intro p e s m a below meth c Q hQ _ hx hb hr hml hts hown hlk hnm hpre ls hl
  have hown : s.vm.findClass RX2 = some m.cls := hown
  obtain ⟨hP, hK⟩ := hpre
  have hN := hK.2
  have hS : va_S nA s.heap s.heap [] := va_S.rf
  have hl : lv_has ls 1 [(0, .ref h)] := hl
  have k2 : ∀ w ∈ wsX20, w ∈ wsX2_wholeLength := fun w h => List.mem_cons_of_mem _ (List.mem_append_right _ h)
  refine lv_aload_n hx hb dX2_wholeLength_0 rfl (lv_at hl 0 rfl) ?_
  refine lv_aload_n hx hb dX2_wholeLength_1 rfl (lv_at hl 0 rfl) ?_
  refine va_get (D := D) (ci := 2) (v := .int (nI np)) (C := RX2) (T := TX2) (N := 9) hx hb hts k2 hown hK.1 hP 0 rfl rfl 5 (by decide) (hts (.fieldLink RX2 27 "BoredPipes$Pipe" "pieces" "I") (List.mem_of_getElem? (i := 1) rfl)) (fun _ h9 => h9) rfl dX2_wholeLength_2 ?_
  refine rd_i (va_runV (As := [.int (nI np)]) (rest := []) ⟨hx, hb, hml, hown, hts⟩ (c_X2_startOf l D cI cZ h h1 h2 h3 h4 h5 np nh mo fa ln np (by omega)) (cwV 1 hts gX2_wholeLength_X2_startOf rfl rfl rfl hdV_X2_startOf ⟨Nat.le_of_ble_eq_true rfl, Nat.le_of_ble_eq_true rfl⟩) (PR.V hP hK hP (q0 := 0) rfl rfl) rfl rfl hl.1 rfl (lv_room (Nat.le_of_ble_eq_true rfl)) dX2_wholeLength_5 ⟨Nat.le_of_ble_eq_true rfl, Nat.le_of_ble_eq_true rfl⟩) hP hS (fun H locs hP hS => ?_)
  exact ret_RI hQ hx hb hr hlk hS (show fSum ln np 0 0 = fSum ln np 0 0 from (by first | with_reducible rfl | (simp only []; done) | (simp []; done))).symm dX2_wholeLength_8

set_option maxHeartbeats 4000000 in
set_option maxRecDepth 100000 in
theorem c_X2_pieceAt (l : Launch) (D : va_G) (cI cZ : ClassId) (h : Nat) (h1 : Nat) (h2 : Nat) (h3 : Nat) (h4 : Nat) (h5 : Nat) (np : Nat) (nh : Nat) (mo : Int32) (fa : Int32) (ln : Nat → Int32) (v : Int32) (hnp : np ≤ 12) : Met l yX2_pieceAt wsX2_pieceAt rmX2_pieceAt (va_Pc [.ref h, .int v] (PR D cI cZ [(h, .inr (2, [.ref h1, .ref h2, .ref h3, .ref h4, .ref h5, .int (nI np), .int (nI nh), .int mo, .int fa])), (h1, .inl (cI, 12, .inl ln))])) (RI (fPieceAt ln v np 0 0)) 0 0 nA := by
  refine met_go (cc := cX2_pieceAt) (maxL := 4) (ret := (some .int)) (by decide) rfl ?_ (Nat.le_of_ble_eq_true rfl)
  intro p e s m a below meth c Q hQ _ hx hb hr hml hts hown hlk hnm hpre ls hl
  have hown : s.vm.findClass RX2 = some m.cls := hown
  obtain ⟨hP, hK⟩ := hpre
  have hN := hK.2
  have hS : va_S nA s.heap s.heap [] := va_S.rf
  have hl : lv_has ls 4 [(0, .ref h), (1, .int v)] := hl
  have k2 : ∀ w ∈ wsX20, w ∈ wsX2_pieceAt := fun w h => List.mem_cons_of_mem _ (List.mem_append_right _ h)
  refine lv_iconst (v := 0) hx hb dX2_pieceAt_0 (by decide) ?_
  refine lv_istore_n (lv' := [(2, .int 0), (0, .ref h), (1, .int v)]) hx hb dX2_pieceAt_1 rfl hl (by decide) rfl (fun ls hl => ?_)
  refine lv_iconst (v := 0) hx hb dX2_pieceAt_2 (by decide) ?_
  refine lv_istore_n (lv' := [(3, .int 0), (2, .int 0), (0, .ref h), (1, .int v)]) hx hb dX2_pieceAt_3 rfl hl (by decide) rfl (fun ls hl => ?_)
  have lp_4 : ∀ (r : Nat) (i : Nat) (z : Int32), (i + r = np) → (fPieceAt ln v np 0 0 = fPieceAt ln v r i z) → ∀ (H : Heap) (locs : List Loc), va_P D vwCl [(h, .inr (2, [.ref h1, .ref h2, .ref h3, .ref h4, .ref h5, .int (nI np), .int (nI nh), .int mo, .int fa])), (h1, .inl (cI, 12, .inl ln))] H → va_S nA s.heap H locs → ∀ (ls : Array Slot), lv_has ls 4 [(3, .int (nI i)), (2, .int z), (0, .ref h), (1, .int v)] → W p l e rmX2_pieceAt s m a below meth c H locs 0 0 Q (F0 m 4 ls []) := by
    intro r
    induction r with
    | zero =>
      intro i z hi hF H locs hP hS ls hl
      refine lv_iload_n hx hb dX2_pieceAt_4 rfl (lv_at hl 0 rfl) ?_
      refine lv_aload_n hx hb dX2_pieceAt_5 rfl (lv_at hl 2 rfl) ?_
      refine va_get (D := D) (ci := 2) (v := .int (nI np)) (C := RX2) (T := TX2) (N := 9) hx hb hts k2 hown hK.1 hP 0 rfl rfl 5 (by decide) (hts (.fieldLink RX2 27 "BoredPipes$Pipe" "pieces" "I") (List.mem_of_getElem? (i := 1) rfl)) (fun _ h9 => h9) rfl dX2_pieceAt_6 ?_
      refine lv_icmp_ge (tgt := 36) hx hb dX2_pieceAt_9 (by decide) (fun c1 => ?_) (fun c1 => absurd ((nI_le (a := np) (b := i) (by omega) (by omega))) c1)
      refine lv_iconst (v := (-1)) hx hb dX2_pieceAt_36 (by decide) ?_
      exact ret_RI hQ hx hb hr hlk hS (hF.trans (by first | with_reducible rfl | (simp only [fPieceAt, if_pos c1]; done) | (simp [fPieceAt, if_pos c1]; done))).symm dX2_pieceAt_37
    | succ r ih_4 =>
      intro i z hi hF H locs hP hS ls hl
      refine lv_iload_n hx hb dX2_pieceAt_4 rfl (lv_at hl 0 rfl) ?_
      refine lv_aload_n hx hb dX2_pieceAt_5 rfl (lv_at hl 2 rfl) ?_
      refine va_get (D := D) (ci := 2) (v := .int (nI np)) (C := RX2) (T := TX2) (N := 9) hx hb hts k2 hown hK.1 hP 0 rfl rfl 5 (by decide) (hts (.fieldLink RX2 27 "BoredPipes$Pipe" "pieces" "I") (List.mem_of_getElem? (i := 1) rfl)) (fun _ h9 => h9) rfl dX2_pieceAt_6 ?_
      refine lv_icmp_ge (tgt := 36) hx hb dX2_pieceAt_9 (by decide) (fun c2 => absurd c2 ((nI_ge (a := i) (b := np) (by omega) (by omega)))) (fun c2 => ?_)
      refine lv_iload_n hx hb dX2_pieceAt_12 rfl (lv_at hl 1 rfl) ?_
      refine lv_aload_n hx hb dX2_pieceAt_13 rfl (lv_at hl 2 rfl) ?_
      refine va_get (D := D) (ci := 2) (v := .ref h1) (C := RX2) (T := TX2) (N := 9) hx hb hts k2 hown hK.1 hP 0 rfl rfl 0 (by decide) (hts (.fieldLink RX2 9 "BoredPipes$Pipe" "lengths" "[I") (List.mem_of_getElem? (i := 2) rfl)) (fun _ h9 => h9) rfl dX2_pieceAt_14 ?_
      refine lv_iload_n hx hb dX2_pieceAt_17 rfl (lv_at hl 0 rfl) ?_
      refine rd_i (va_runSN (As := [.ref h1, .int (nI i)]) (rest := [.int z]) ⟨hx, hb, hml, hown, hts⟩ (c_X5_at_in l D cI cZ h1 12 ln i (by omega) (by omega)) ⟨va_cnB 2 hts gX2_pieceAt_X5_at_n48 rfl rfl rfl (nwL7 hN) (hts (.initialized RX5) (List.mem_of_getElem? (i := 4) rfl)) hdV_X5_at.2 ⟨Nat.le_of_ble_eq_true rfl, Nat.le_of_ble_eq_true rfl⟩, (hts (.static yX5_at) (List.mem_of_getElem? (i := 3) rfl)), trivial⟩ (PR.S (hP.sub [1] rfl) hK) rfl rfl hl.1 rfl (lv_room (Nat.le_of_ble_eq_true rfl)) dX2_pieceAt_18 ⟨Nat.le_of_ble_eq_true rfl, Nat.le_of_ble_eq_true rfl⟩) hP hS (fun H locs hP hS => ?_)
      refine lv_iadd hx hb dX2_pieceAt_21 ?_
      refine lv_istore_n (lv' := [(2, .int (z + (ln i))), (3, .int (nI i)), (0, .ref h), (1, .int v)]) hx hb dX2_pieceAt_22 rfl hl (by decide) rfl (fun ls hl => ?_)
      refine lv_iload_n hx hb dX2_pieceAt_23 rfl (lv_at hl 3 rfl) ?_
      refine lv_iload_n hx hb dX2_pieceAt_24 rfl (lv_at hl 0 rfl) ?_
      refine lv_icmp_gt (tgt := 30) hx hb dX2_pieceAt_25 (by decide) (fun c3 => ?_) (fun c3 => ?_)
      · skip
        refine lv_iinc (v := nI (i + 1)) (lv' := [(3, .int (nI (i + 1))), (2, .int (z + (ln i))), (0, .ref h), (1, .int v)]) hx hb dX2_pieceAt_30 hl (k := 1) rfl (iinc_1 i) (by decide) rfl (fun ls hl => ?_)
        refine lv_goto (tgt := 4) hx hb dX2_pieceAt_33 (by decide) ?_
        exact ih_4 (i + 1) (z + (ln i)) (by omega) (hF.trans (by first | with_reducible rfl | (simp only [fPieceAt, if_neg c2, if_pos c3]; done) | (simp [fPieceAt, if_neg c2, if_pos c3]; done))) _ _ hP hS ls (lv_sub hl [0, 1, 2, 3] rfl)
      · skip
        refine lv_iload_n hx hb dX2_pieceAt_28 rfl (lv_at hl 1 rfl) ?_
        exact ret_RI hQ hx hb hr hlk hS (hF.trans (by first | with_reducible rfl | (simp only [fPieceAt, if_neg c2, if_neg c3]; done) | (simp [fPieceAt, if_neg c2, if_neg c3]; done))).symm dX2_pieceAt_29
  exact lp_4 np 0 0 (by omega) rfl _ _ hP hS ls (lv_sub hl [0, 1, 2, 3] rfl)

set_option maxHeartbeats 4000000 in
set_option maxRecDepth 100000 in
theorem c_X2_holeAt (l : Launch) (D : va_G) (cI cZ : ClassId) (h : Nat) (h1 : Nat) (h2 : Nat) (h3 : Nat) (h4 : Nat) (h5 : Nat) (np : Nat) (nh : Nat) (mo : Int32) (fa : Int32) (pl : Nat → Int32) (v : Int32) (hnh : nh ≤ 6) : Met l yX2_holeAt wsX2_holeAt rmX2_holeAt (va_Pc [.ref h, .int v] (PR D cI cZ [(h, .inr (2, [.ref h1, .ref h2, .ref h3, .ref h4, .ref h5, .int (nI np), .int (nI nh), .int mo, .int fa])), (h3, .inl (cI, 6, .inl pl))])) (RI (fHoleAt pl v nh 0)) 0 0 nA := by
  refine met_go (cc := cX2_holeAt) (maxL := 3) (ret := (some .int)) (by decide) rfl ?_ (Nat.le_of_ble_eq_true rfl)
  intro p e s m a below meth c Q hQ _ hx hb hr hml hts hown hlk hnm hpre ls hl
  have hown : s.vm.findClass RX2 = some m.cls := hown
  obtain ⟨hP, hK⟩ := hpre
  have hN := hK.2
  have hS : va_S nA s.heap s.heap [] := va_S.rf
  have hl : lv_has ls 3 [(0, .ref h), (1, .int v)] := hl
  have k2 : ∀ w ∈ wsX20, w ∈ wsX2_holeAt := fun w h => List.mem_cons_of_mem _ (List.mem_append_right _ h)
  refine lv_iconst (v := 0) hx hb dX2_holeAt_0 (by decide) ?_
  refine lv_istore_n (lv' := [(2, .int 0), (0, .ref h), (1, .int v)]) hx hb dX2_holeAt_1 rfl hl (by decide) rfl (fun ls hl => ?_)
  have lp_2 : ∀ (r : Nat) (i : Nat), (i + r = nh) → (fHoleAt pl v nh 0 = fHoleAt pl v r i) → ∀ (H : Heap) (locs : List Loc), va_P D vwCl [(h, .inr (2, [.ref h1, .ref h2, .ref h3, .ref h4, .ref h5, .int (nI np), .int (nI nh), .int mo, .int fa])), (h3, .inl (cI, 6, .inl pl))] H → va_S nA s.heap H locs → ∀ (ls : Array Slot), lv_has ls 3 [(2, .int (nI i)), (0, .ref h), (1, .int v)] → W p l e rmX2_holeAt s m a below meth c H locs 0 0 Q (F0 m 2 ls []) := by
    intro r
    induction r with
    | zero =>
      intro i hi hF H locs hP hS ls hl
      refine lv_iload_n hx hb dX2_holeAt_2 rfl (lv_at hl 0 rfl) ?_
      refine lv_aload_n hx hb dX2_holeAt_3 rfl (lv_at hl 1 rfl) ?_
      refine va_get (D := D) (ci := 2) (v := .int (nI nh)) (C := RX2) (T := TX2) (N := 9) hx hb hts k2 hown hK.1 hP 0 rfl rfl 6 (by decide) (hts (.fieldLink RX2 31 "BoredPipes$Pipe" "holes" "I") (List.mem_of_getElem? (i := 1) rfl)) (fun _ h9 => h9) rfl dX2_holeAt_4 ?_
      refine lv_icmp_ge (tgt := 30) hx hb dX2_holeAt_7 (by decide) (fun c1 => ?_) (fun c1 => absurd ((nI_le (a := nh) (b := i) (by omega) (by omega))) c1)
      refine lv_iconst (v := (-1)) hx hb dX2_holeAt_30 (by decide) ?_
      exact ret_RI hQ hx hb hr hlk hS (hF.trans (by first | with_reducible rfl | (simp only [fHoleAt, if_pos c1]; done) | (simp [fHoleAt, if_pos c1]; done))).symm dX2_holeAt_31
    | succ r ih_2 =>
      intro i hi hF H locs hP hS ls hl
      refine lv_iload_n hx hb dX2_holeAt_2 rfl (lv_at hl 0 rfl) ?_
      refine lv_aload_n hx hb dX2_holeAt_3 rfl (lv_at hl 1 rfl) ?_
      refine va_get (D := D) (ci := 2) (v := .int (nI nh)) (C := RX2) (T := TX2) (N := 9) hx hb hts k2 hown hK.1 hP 0 rfl rfl 6 (by decide) (hts (.fieldLink RX2 31 "BoredPipes$Pipe" "holes" "I") (List.mem_of_getElem? (i := 1) rfl)) (fun _ h9 => h9) rfl dX2_holeAt_4 ?_
      refine lv_icmp_ge (tgt := 30) hx hb dX2_holeAt_7 (by decide) (fun c2 => absurd c2 ((nI_ge (a := i) (b := nh) (by omega) (by omega)))) (fun c2 => ?_)
      refine lv_aload_n hx hb dX2_holeAt_10 rfl (lv_at hl 1 rfl) ?_
      refine va_get (D := D) (ci := 2) (v := .ref h3) (C := RX2) (T := TX2) (N := 9) hx hb hts k2 hown hK.1 hP 0 rfl rfl 2 (by decide) (hts (.fieldLink RX2 18 "BoredPipes$Pipe" "places" "[I") (List.mem_of_getElem? (i := 2) rfl)) (fun _ h9 => h9) rfl dX2_holeAt_11 ?_
      refine lv_iload_n hx hb dX2_holeAt_14 rfl (lv_at hl 0 rfl) ?_
      refine rd_i (va_runSN (As := [.ref h3, .int (nI i)]) (rest := []) ⟨hx, hb, hml, hown, hts⟩ (c_X5_at_in l D cI cZ h3 6 pl i (by omega) (by omega)) ⟨va_cnB 2 hts gX2_holeAt_X5_at_n48 rfl rfl rfl (nwL7 hN) (hts (.initialized RX5) (List.mem_of_getElem? (i := 4) rfl)) hdV_X5_at.2 ⟨Nat.le_of_ble_eq_true rfl, Nat.le_of_ble_eq_true rfl⟩, (hts (.static yX5_at) (List.mem_of_getElem? (i := 3) rfl)), trivial⟩ (PR.S (hP.sub [1] rfl) hK) rfl rfl hl.1 rfl (lv_room (Nat.le_of_ble_eq_true rfl)) dX2_holeAt_15 ⟨Nat.le_of_ble_eq_true rfl, Nat.le_of_ble_eq_true rfl⟩) hP hS (fun H locs hP hS => ?_)
      refine lv_iload_n hx hb dX2_holeAt_18 rfl (lv_at hl 2 rfl) ?_
      refine lv_icmp_ne (tgt := 24) hx hb dX2_holeAt_19 (by decide) (fun c3 => ?_) (fun c3 => ?_)
      · skip
        refine lv_iinc (v := nI (i + 1)) (lv' := [(2, .int (nI (i + 1))), (0, .ref h), (1, .int v)]) hx hb dX2_holeAt_24 hl (k := 0) rfl (iinc_1 i) (by decide) rfl (fun ls hl => ?_)
        refine lv_goto (tgt := 2) hx hb dX2_holeAt_27 (by decide) ?_
        exact ih_2 (i + 1) (by omega) (hF.trans (by first | with_reducible rfl | (simp only [fHoleAt, if_neg c2, if_neg c3]; done) | (simp [fHoleAt, if_neg c2, if_neg c3]; done))) _ _ hP hS ls (lv_sub hl [0, 1, 2] rfl)
      · skip
        refine lv_iload_n hx hb dX2_holeAt_22 rfl (lv_at hl 0 rfl) ?_
        exact ret_RI hQ hx hb hr hlk hS (hF.trans (by first | with_reducible rfl | (simp only [fHoleAt, if_neg c2, if_pos c3]; done) | (simp [fHoleAt, if_neg c2, if_pos c3]; done))).symm dX2_holeAt_23
  exact lp_2 nh 0 (by omega) rfl _ _ hP hS ls (lv_sub hl [0, 1, 2] rfl)

set_option maxHeartbeats 4000000 in
set_option maxRecDepth 100000 in
theorem c_X2_holesBefore (l : Launch) (D : va_G) (cI cZ : ClassId) (h : Nat) (h1 : Nat) (h2 : Nat) (h3 : Nat) (h4 : Nat) (h5 : Nat) (np : Nat) (nh : Nat) (mo : Int32) (fa : Int32) (pl : Nat → Int32) (v : Int32) (hnh : nh ≤ 6) : Met l yX2_holesBefore wsX2_holesBefore rmX2_holesBefore (va_Pc [.ref h, .int v] (PR D cI cZ [(h, .inr (2, [.ref h1, .ref h2, .ref h3, .ref h4, .ref h5, .int (nI np), .int (nI nh), .int mo, .int fa])), (h3, .inl (cI, 6, .inl pl))])) (RI (fBefore pl v nh 0 0)) 0 0 nA := by
  refine met_go (cc := cX2_holesBefore) (maxL := 4) (ret := (some .int)) (by decide) rfl ?_ (Nat.le_of_ble_eq_true rfl)
  intro p e s m a below meth c Q hQ _ hx hb hr hml hts hown hlk hnm hpre ls hl
  have hown : s.vm.findClass RX2 = some m.cls := hown
  obtain ⟨hP, hK⟩ := hpre
  have hN := hK.2
  have hS : va_S nA s.heap s.heap [] := va_S.rf
  have hl : lv_has ls 4 [(0, .ref h), (1, .int v)] := hl
  have k2 : ∀ w ∈ wsX20, w ∈ wsX2_holesBefore := fun w h => List.mem_cons_of_mem _ (List.mem_append_right _ h)
  refine lv_iconst (v := 0) hx hb dX2_holesBefore_0 (by decide) ?_
  refine lv_istore_n (lv' := [(2, .int 0), (0, .ref h), (1, .int v)]) hx hb dX2_holesBefore_1 rfl hl (by decide) rfl (fun ls hl => ?_)
  refine lv_iconst (v := 0) hx hb dX2_holesBefore_2 (by decide) ?_
  refine lv_istore_n (lv' := [(3, .int 0), (2, .int 0), (0, .ref h), (1, .int v)]) hx hb dX2_holesBefore_3 rfl hl (by decide) rfl (fun ls hl => ?_)
  have lp_4 : ∀ (r : Nat) (i : Nat) (z : Int32), (i + r = nh) → (fBefore pl v nh 0 0 = fBefore pl v r i z) → ∀ (H : Heap) (locs : List Loc), va_P D vwCl [(h, .inr (2, [.ref h1, .ref h2, .ref h3, .ref h4, .ref h5, .int (nI np), .int (nI nh), .int mo, .int fa])), (h3, .inl (cI, 6, .inl pl))] H → va_S nA s.heap H locs → ∀ (ls : Array Slot), lv_has ls 4 [(3, .int (nI i)), (2, .int z), (0, .ref h), (1, .int v)] → W p l e rmX2_holesBefore s m a below meth c H locs 0 0 Q (F0 m 4 ls []) := by
    intro r
    induction r with
    | zero =>
      intro i z hi hF H locs hP hS ls hl
      refine lv_iload_n hx hb dX2_holesBefore_4 rfl (lv_at hl 0 rfl) ?_
      refine lv_aload_n hx hb dX2_holesBefore_5 rfl (lv_at hl 2 rfl) ?_
      refine va_get (D := D) (ci := 2) (v := .int (nI nh)) (C := RX2) (T := TX2) (N := 9) hx hb hts k2 hown hK.1 hP 0 rfl rfl 6 (by decide) (hts (.fieldLink RX2 31 "BoredPipes$Pipe" "holes" "I") (List.mem_of_getElem? (i := 1) rfl)) (fun _ h9 => h9) rfl dX2_holesBefore_6 ?_
      refine lv_icmp_ge (tgt := 33) hx hb dX2_holesBefore_9 (by decide) (fun c1 => ?_) (fun c1 => absurd ((nI_le (a := nh) (b := i) (by omega) (by omega))) c1)
      refine lv_iload_n hx hb dX2_holesBefore_33 rfl (lv_at hl 1 rfl) ?_
      exact ret_RI hQ hx hb hr hlk hS (hF.trans (by first | with_reducible rfl | (simp only [fBefore, if_pos c1]; done) | (simp [fBefore, if_pos c1]; done))).symm dX2_holesBefore_34
    | succ r ih_4 =>
      intro i z hi hF H locs hP hS ls hl
      refine lv_iload_n hx hb dX2_holesBefore_4 rfl (lv_at hl 0 rfl) ?_
      refine lv_aload_n hx hb dX2_holesBefore_5 rfl (lv_at hl 2 rfl) ?_
      refine va_get (D := D) (ci := 2) (v := .int (nI nh)) (C := RX2) (T := TX2) (N := 9) hx hb hts k2 hown hK.1 hP 0 rfl rfl 6 (by decide) (hts (.fieldLink RX2 31 "BoredPipes$Pipe" "holes" "I") (List.mem_of_getElem? (i := 1) rfl)) (fun _ h9 => h9) rfl dX2_holesBefore_6 ?_
      refine lv_icmp_ge (tgt := 33) hx hb dX2_holesBefore_9 (by decide) (fun c2 => absurd c2 ((nI_ge (a := i) (b := nh) (by omega) (by omega)))) (fun c2 => ?_)
      refine lv_aload_n hx hb dX2_holesBefore_12 rfl (lv_at hl 2 rfl) ?_
      refine va_get (D := D) (ci := 2) (v := .ref h3) (C := RX2) (T := TX2) (N := 9) hx hb hts k2 hown hK.1 hP 0 rfl rfl 2 (by decide) (hts (.fieldLink RX2 18 "BoredPipes$Pipe" "places" "[I") (List.mem_of_getElem? (i := 2) rfl)) (fun _ h9 => h9) rfl dX2_holesBefore_13 ?_
      refine lv_iload_n hx hb dX2_holesBefore_16 rfl (lv_at hl 0 rfl) ?_
      refine rd_i (va_runSN (As := [.ref h3, .int (nI i)]) (rest := []) ⟨hx, hb, hml, hown, hts⟩ (c_X5_at_in l D cI cZ h3 6 pl i (by omega) (by omega)) ⟨va_cnB 2 hts gX2_holesBefore_X5_at_n48 rfl rfl rfl (nwL7 hN) (hts (.initialized RX5) (List.mem_of_getElem? (i := 4) rfl)) hdV_X5_at.2 ⟨Nat.le_of_ble_eq_true rfl, Nat.le_of_ble_eq_true rfl⟩, (hts (.static yX5_at) (List.mem_of_getElem? (i := 3) rfl)), trivial⟩ (PR.S (hP.sub [1] rfl) hK) rfl rfl hl.1 rfl (lv_room (Nat.le_of_ble_eq_true rfl)) dX2_holesBefore_17 ⟨Nat.le_of_ble_eq_true rfl, Nat.le_of_ble_eq_true rfl⟩) hP hS (fun H locs hP hS => ?_)
      refine lv_iload_n hx hb dX2_holesBefore_20 rfl (lv_at hl 3 rfl) ?_
      refine lv_icmp_ge (tgt := 27) hx hb dX2_holesBefore_21 (by decide) (fun c3 => ?_) (fun c3 => ?_)
      · skip
        refine lv_iinc (v := nI (i + 1)) (lv' := [(3, .int (nI (i + 1))), (2, .int z), (0, .ref h), (1, .int v)]) hx hb dX2_holesBefore_27 hl (k := 0) rfl (iinc_1 i) (by decide) rfl (fun ls hl => ?_)
        refine lv_goto (tgt := 4) hx hb dX2_holesBefore_30 (by decide) ?_
        exact ih_4 (i + 1) z (by omega) (hF.trans (by first | with_reducible rfl | (simp only [fBefore, if_neg c2, if_pos c3]; done) | (simp [fBefore, if_neg c2, if_pos c3]; done))) _ _ hP hS ls (lv_sub hl [0, 1, 2, 3] rfl)
      · skip
        refine lv_iinc (v := z + 1) (lv' := [(2, .int (z + 1)), (3, .int (nI i)), (0, .ref h), (1, .int v)]) hx hb dX2_holesBefore_24 hl (k := 1) rfl rfl (by decide) rfl (fun ls hl => ?_)
        refine lv_iinc (v := nI (i + 1)) (lv' := [(3, .int (nI (i + 1))), (2, .int (z + 1)), (0, .ref h), (1, .int v)]) hx hb dX2_holesBefore_27 hl (k := 1) rfl (iinc_1 i) (by decide) rfl (fun ls hl => ?_)
        refine lv_goto (tgt := 4) hx hb dX2_holesBefore_30 (by decide) ?_
        exact ih_4 (i + 1) (z + 1) (by omega) (hF.trans (by first | with_reducible rfl | (simp only [fBefore, if_neg c2, if_neg c3]; done) | (simp [fBefore, if_neg c2, if_neg c3]; done))) _ _ hP hS ls (lv_sub hl [0, 1, 2, 3] rfl)
  exact lp_4 nh 0 0 (by omega) rfl _ _ hP hS ls (lv_sub hl [0, 1, 2, 3] rfl)

set_option maxHeartbeats 4000000 in
set_option maxRecDepth 100000 in
theorem c_X2_lastHoleBefore (l : Launch) (D : va_G) (cI cZ : ClassId) (h : Nat) (h1 : Nat) (h2 : Nat) (h3 : Nat) (h4 : Nat) (h5 : Nat) (np : Nat) (nh : Nat) (mo : Int32) (fa : Int32) (pl : Nat → Int32) (v : Int32) (hnh : nh ≤ 6) : Met l yX2_lastHoleBefore wsX2_lastHoleBefore rmX2_lastHoleBefore (va_Pc [.ref h, .int v] (PR D cI cZ [(h, .inr (2, [.ref h1, .ref h2, .ref h3, .ref h4, .ref h5, .int (nI np), .int (nI nh), .int mo, .int fa])), (h3, .inl (cI, 6, .inl pl))])) (RI (fLast pl v nh 0 0)) 0 0 nA := by
  refine met_go (cc := cX2_lastHoleBefore) (maxL := 4) (ret := (some .int)) (by decide) rfl ?_ (Nat.le_of_ble_eq_true rfl)
  intro p e s m a below meth c Q hQ _ hx hb hr hml hts hown hlk hnm hpre ls hl
  have hown : s.vm.findClass RX2 = some m.cls := hown
  obtain ⟨hP, hK⟩ := hpre
  have hN := hK.2
  have hS : va_S nA s.heap s.heap [] := va_S.rf
  have hl : lv_has ls 4 [(0, .ref h), (1, .int v)] := hl
  have k2 : ∀ w ∈ wsX20, w ∈ wsX2_lastHoleBefore := fun w h => List.mem_cons_of_mem _ (List.mem_append_right _ h)
  refine lv_iconst (v := 0) hx hb dX2_lastHoleBefore_0 (by decide) ?_
  refine lv_istore_n (lv' := [(2, .int 0), (0, .ref h), (1, .int v)]) hx hb dX2_lastHoleBefore_1 rfl hl (by decide) rfl (fun ls hl => ?_)
  refine lv_iconst (v := 0) hx hb dX2_lastHoleBefore_2 (by decide) ?_
  refine lv_istore_n (lv' := [(3, .int 0), (2, .int 0), (0, .ref h), (1, .int v)]) hx hb dX2_lastHoleBefore_3 rfl hl (by decide) rfl (fun ls hl => ?_)
  have lp_4 : ∀ (r : Nat) (i : Nat) (z : Int32), (i + r = nh) → (fLast pl v nh 0 0 = fLast pl v r i z) → ∀ (H : Heap) (locs : List Loc), va_P D vwCl [(h, .inr (2, [.ref h1, .ref h2, .ref h3, .ref h4, .ref h5, .int (nI np), .int (nI nh), .int mo, .int fa])), (h3, .inl (cI, 6, .inl pl))] H → va_S nA s.heap H locs → ∀ (ls : Array Slot), lv_has ls 4 [(3, .int (nI i)), (2, .int z), (0, .ref h), (1, .int v)] → W p l e rmX2_lastHoleBefore s m a below meth c H locs 0 0 Q (F0 m 4 ls []) := by
    intro r
    induction r with
    | zero =>
      intro i z hi hF H locs hP hS ls hl
      refine lv_iload_n hx hb dX2_lastHoleBefore_4 rfl (lv_at hl 0 rfl) ?_
      refine lv_aload_n hx hb dX2_lastHoleBefore_5 rfl (lv_at hl 2 rfl) ?_
      refine va_get (D := D) (ci := 2) (v := .int (nI nh)) (C := RX2) (T := TX2) (N := 9) hx hb hts k2 hown hK.1 hP 0 rfl rfl 6 (by decide) (hts (.fieldLink RX2 31 "BoredPipes$Pipe" "holes" "I") (List.mem_of_getElem? (i := 1) rfl)) (fun _ h9 => h9) rfl dX2_lastHoleBefore_6 ?_
      refine lv_icmp_ge (tgt := 43) hx hb dX2_lastHoleBefore_9 (by decide) (fun c1 => ?_) (fun c1 => absurd ((nI_le (a := nh) (b := i) (by omega) (by omega))) c1)
      refine lv_iload_n hx hb dX2_lastHoleBefore_43 rfl (lv_at hl 1 rfl) ?_
      exact ret_RI hQ hx hb hr hlk hS (hF.trans (by first | with_reducible rfl | (simp only [fLast, if_pos c1]; done) | (simp [fLast, if_pos c1]; done))).symm dX2_lastHoleBefore_44
    | succ r ih_4 =>
      intro i z hi hF H locs hP hS ls hl
      refine lv_iload_n hx hb dX2_lastHoleBefore_4 rfl (lv_at hl 0 rfl) ?_
      refine lv_aload_n hx hb dX2_lastHoleBefore_5 rfl (lv_at hl 2 rfl) ?_
      refine va_get (D := D) (ci := 2) (v := .int (nI nh)) (C := RX2) (T := TX2) (N := 9) hx hb hts k2 hown hK.1 hP 0 rfl rfl 6 (by decide) (hts (.fieldLink RX2 31 "BoredPipes$Pipe" "holes" "I") (List.mem_of_getElem? (i := 1) rfl)) (fun _ h9 => h9) rfl dX2_lastHoleBefore_6 ?_
      refine lv_icmp_ge (tgt := 43) hx hb dX2_lastHoleBefore_9 (by decide) (fun c2 => absurd c2 ((nI_ge (a := i) (b := nh) (by omega) (by omega)))) (fun c2 => ?_)
      refine lv_aload_n hx hb dX2_lastHoleBefore_12 rfl (lv_at hl 2 rfl) ?_
      refine va_get (D := D) (ci := 2) (v := .ref h3) (C := RX2) (T := TX2) (N := 9) hx hb hts k2 hown hK.1 hP 0 rfl rfl 2 (by decide) (hts (.fieldLink RX2 18 "BoredPipes$Pipe" "places" "[I") (List.mem_of_getElem? (i := 2) rfl)) (fun _ h9 => h9) rfl dX2_lastHoleBefore_13 ?_
      refine lv_iload_n hx hb dX2_lastHoleBefore_16 rfl (lv_at hl 0 rfl) ?_
      refine rd_i (va_runSN (As := [.ref h3, .int (nI i)]) (rest := []) ⟨hx, hb, hml, hown, hts⟩ (c_X5_at_in l D cI cZ h3 6 pl i (by omega) (by omega)) ⟨va_cnB 2 hts gX2_lastHoleBefore_X5_at_n48 rfl rfl rfl (nwL7 hN) (hts (.initialized RX5) (List.mem_of_getElem? (i := 8) rfl)) hdV_X5_at.2 ⟨Nat.le_of_ble_eq_true rfl, Nat.le_of_ble_eq_true rfl⟩, (hts (.static yX5_at) (List.mem_of_getElem? (i := 7) rfl)), trivial⟩ (PR.S (hP.sub [1] rfl) hK) rfl rfl hl.1 rfl (lv_room (Nat.le_of_ble_eq_true rfl)) dX2_lastHoleBefore_17 ⟨Nat.le_of_ble_eq_true rfl, Nat.le_of_ble_eq_true rfl⟩) hP hS (fun H locs hP hS => ?_)
      refine lv_iload_n hx hb dX2_lastHoleBefore_20 rfl (lv_at hl 3 rfl) ?_
      refine lv_icmp_ge (tgt := 37) hx hb dX2_lastHoleBefore_21 (by decide) (fun c3 => ?_) (fun c3 => ?_)
      · skip
        refine lv_iinc (v := nI (i + 1)) (lv' := [(3, .int (nI (i + 1))), (2, .int z), (0, .ref h), (1, .int v)]) hx hb dX2_lastHoleBefore_37 hl (k := 0) rfl (iinc_1 i) (by decide) rfl (fun ls hl => ?_)
        refine lv_goto (tgt := 4) hx hb dX2_lastHoleBefore_40 (by decide) ?_
        exact ih_4 (i + 1) z (by omega) (hF.trans (by first | with_reducible rfl | (simp only [fLast, if_neg c2, if_pos c3]; done) | (simp [fLast, if_neg c2, if_pos c3]; done))) _ _ hP hS ls (lv_sub hl [0, 1, 2, 3] rfl)
      · skip
        refine lv_iload_n hx hb dX2_lastHoleBefore_24 rfl (lv_at hl 1 rfl) ?_
        refine lv_aload_n hx hb dX2_lastHoleBefore_25 rfl (lv_at hl 2 rfl) ?_
        refine va_get (D := D) (ci := 2) (v := .ref h3) (C := RX2) (T := TX2) (N := 9) hx hb hts k2 hown hK.1 hP 0 rfl rfl 2 (by decide) (hts (.fieldLink RX2 18 "BoredPipes$Pipe" "places" "[I") (List.mem_of_getElem? (i := 2) rfl)) (fun _ h9 => h9) rfl dX2_lastHoleBefore_26 ?_
        refine lv_iload_n hx hb dX2_lastHoleBefore_29 rfl (lv_at hl 0 rfl) ?_
        refine rd_i (va_runSN (As := [.ref h3, .int (nI i)]) (rest := [.int z]) ⟨hx, hb, hml, hown, hts⟩ (c_X5_at_in l D cI cZ h3 6 pl i (by omega) (by omega)) ⟨va_cnB 2 hts gX2_lastHoleBefore_X5_at_n48 rfl rfl rfl (nwL7 hN) (hts (.initialized RX5) (List.mem_of_getElem? (i := 8) rfl)) hdV_X5_at.2 ⟨Nat.le_of_ble_eq_true rfl, Nat.le_of_ble_eq_true rfl⟩, (hts (.static yX5_at) (List.mem_of_getElem? (i := 7) rfl)), trivial⟩ (PR.S (hP.sub [1] rfl) hK) rfl rfl hl.1 rfl (lv_room (Nat.le_of_ble_eq_true rfl)) dX2_lastHoleBefore_30 ⟨Nat.le_of_ble_eq_true rfl, Nat.le_of_ble_eq_true rfl⟩) hP hS (fun H locs hP hS => ?_)
        refine va_mmax hx hb (hml.trans hl.1.symm) hown (hts (.methodLink RX2 56 Lib.Math.max.name) (List.mem_of_getElem? (i := 3) rfl)) (hts (.static Lib.Math.max.name) (List.mem_of_getElem? (i := 4) rfl)) (hts (.initialized "java/lang/Math") (List.mem_of_getElem? (i := 5) rfl)) (hts (.code Lib.Math.max.name Lib.Math.max.code 2 (some .int)) (List.mem_of_getElem? (i := 6) rfl)) (Nat.le_of_ble_eq_true rfl) (Nat.le_of_ble_eq_true rfl) (Nat.le_of_ble_eq_true rfl) (Nat.le_of_ble_eq_true rfl) dX2_lastHoleBefore_33 ?_
        refine lv_istore_n (lv' := [(2, .int (if z < (pl i) then pl i else z)), (3, .int (nI i)), (0, .ref h), (1, .int v)]) hx hb dX2_lastHoleBefore_36 rfl hl (by decide) rfl (fun ls hl => ?_)
        refine lv_iinc (v := nI (i + 1)) (lv' := [(3, .int (nI (i + 1))), (2, .int (if z < (pl i) then pl i else z)), (0, .ref h), (1, .int v)]) hx hb dX2_lastHoleBefore_37 hl (k := 1) rfl (iinc_1 i) (by decide) rfl (fun ls hl => ?_)
        refine lv_goto (tgt := 4) hx hb dX2_lastHoleBefore_40 (by decide) ?_
        exact ih_4 (i + 1) (if z < (pl i) then pl i else z) (by omega) (hF.trans (by first | with_reducible rfl | (simp only [fLast, if_neg c2, if_neg c3]; done) | (simp [fLast, if_neg c2, if_neg c3]; done))) _ _ hP hS ls (lv_sub hl [0, 1, 2, 3] rfl)
  exact lp_4 nh 0 0 (by omega) rfl _ _ hP hS ls (lv_sub hl [0, 1, 2, 3] rfl)

set_option maxHeartbeats 4000000 in
set_option maxRecDepth 100000 in
theorem c_X2_gap (l : Launch) (D : va_G) (cI cZ : ClassId) (h : Nat) (h1 : Nat) (h2 : Nat) (h3 : Nat) (h4 : Nat) (h5 : Nat) (np : Nat) (nh : Nat) (mo : Int32) (fa : Int32) (pl : Nat → Int32) (k : Nat) (w : Int32) (hnh : nh ≤ 6) (hk : k < 6) : Met l yX2_gap wsX2_gap rmX2_gap (va_Pc [.ref h, .int (nI k), .int w] (PR D cI cZ [(h, .inr (2, [.ref h1, .ref h2, .ref h3, .ref h4, .ref h5, .int (nI np), .int (nI nh), .int mo, .int fa])), (h3, .inl (cI, 6, .inl pl))])) (RI (fGap pl k w nh 0 0)) 0 0 nA := by
  refine met_go (cc := cX2_gap) (maxL := 6) (ret := (some .int)) (by decide) rfl ?_ (Nat.le_of_ble_eq_true rfl)
  intro p e s m a below meth c Q hQ _ hx hb hr hml hts hown hlk hnm hpre ls hl
  have hown : s.vm.findClass RX2 = some m.cls := hown
  obtain ⟨hP, hK⟩ := hpre
  have hN := hK.2
  have hS : va_S nA s.heap s.heap [] := va_S.rf
  have hl : lv_has ls 6 [(0, .ref h), (1, .int (nI k)), (2, .int w)] := hl
  have k2 : ∀ w ∈ wsX20, w ∈ wsX2_gap := fun w h => List.mem_cons_of_mem _ (List.mem_append_right _ h)
  refine lv_iconst (v := 0) hx hb dX2_gap_0 (by decide) ?_
  refine lv_istore_n (lv' := [(3, .int 0), (0, .ref h), (1, .int (nI k)), (2, .int w)]) hx hb dX2_gap_1 rfl hl (by decide) rfl (fun ls hl => ?_)
  refine lv_iconst (v := 0) hx hb dX2_gap_2 (by decide) ?_
  refine lv_istore (lv' := [(4, .int 0), (3, .int 0), (0, .ref h), (1, .int (nI k)), (2, .int w)]) hx hb dX2_gap_3 hl (by decide) rfl (fun ls hl => ?_)
  have lp_5 : ∀ (r : Nat) (i : Nat) (z : Int32), (i + r = nh) → (fGap pl k w nh 0 0 = fGap pl k w r i z) → ∀ (H : Heap) (locs : List Loc), va_P D vwCl [(h, .inr (2, [.ref h1, .ref h2, .ref h3, .ref h4, .ref h5, .int (nI np), .int (nI nh), .int mo, .int fa])), (h3, .inl (cI, 6, .inl pl))] H → va_S nA s.heap H locs → ∀ (ls : Array Slot), lv_has ls 6 [(4, .int (nI i)), (3, .int z), (0, .ref h), (1, .int (nI k)), (2, .int w)] → W p l e rmX2_gap s m a below meth c H locs 0 0 Q (F0 m 5 ls []) := by
    intro r
    induction r with
    | zero =>
      intro i z hi hF H locs hP hS ls hl
      refine lv_iload hx hb dX2_gap_5 (lv_at hl 0 rfl) ?_
      refine lv_aload_n hx hb dX2_gap_7 rfl (lv_at hl 2 rfl) ?_
      refine va_get (D := D) (ci := 2) (v := .int (nI nh)) (C := RX2) (T := TX2) (N := 9) hx hb hts k2 hown hK.1 hP 0 rfl rfl 6 (by decide) (hts (.fieldLink RX2 31 "BoredPipes$Pipe" "holes" "I") (List.mem_of_getElem? (i := 1) rfl)) (fun _ h9 => h9) rfl dX2_gap_8 ?_
      refine lv_icmp_ge (tgt := 60) hx hb dX2_gap_11 (by decide) (fun c1 => ?_) (fun c1 => absurd ((nI_le (a := nh) (b := i) (by omega) (by omega))) c1)
      refine lv_iload_n hx hb dX2_gap_60 rfl (lv_at hl 1 rfl) ?_
      exact ret_RI hQ hx hb hr hlk hS (hF.trans (by first | with_reducible rfl | (simp only [fGap, if_pos c1]; done) | (simp [fGap, if_pos c1]; done))).symm dX2_gap_61
    | succ r ih_5 =>
      intro i z hi hF H locs hP hS ls hl
      refine lv_iload hx hb dX2_gap_5 (lv_at hl 0 rfl) ?_
      refine lv_aload_n hx hb dX2_gap_7 rfl (lv_at hl 2 rfl) ?_
      refine va_get (D := D) (ci := 2) (v := .int (nI nh)) (C := RX2) (T := TX2) (N := 9) hx hb hts k2 hown hK.1 hP 0 rfl rfl 6 (by decide) (hts (.fieldLink RX2 31 "BoredPipes$Pipe" "holes" "I") (List.mem_of_getElem? (i := 1) rfl)) (fun _ h9 => h9) rfl dX2_gap_8 ?_
      refine lv_icmp_ge (tgt := 60) hx hb dX2_gap_11 (by decide) (fun c2 => absurd c2 ((nI_ge (a := i) (b := nh) (by omega) (by omega)))) (fun c2 => ?_)
      refine lv_aload_n hx hb dX2_gap_14 rfl (lv_at hl 2 rfl) ?_
      refine va_get (D := D) (ci := 2) (v := .ref h3) (C := RX2) (T := TX2) (N := 9) hx hb hts k2 hown hK.1 hP 0 rfl rfl 2 (by decide) (hts (.fieldLink RX2 18 "BoredPipes$Pipe" "places" "[I") (List.mem_of_getElem? (i := 2) rfl)) (fun _ h9 => h9) rfl dX2_gap_15 ?_
      refine lv_iload hx hb dX2_gap_18 (lv_at hl 0 rfl) ?_
      refine rd_i (va_runSN (As := [.ref h3, .int (nI i)]) (rest := []) ⟨hx, hb, hml, hown, hts⟩ (c_X5_at_in l D cI cZ h3 6 pl i (by first | omega | exact hk) (by omega)) ⟨va_cnB 2 hts gX2_gap_X5_at_n48 rfl rfl rfl (nwL7 hN) (hts (.initialized RX5) (List.mem_of_getElem? (i := 4) rfl)) hdV_X5_at.2 ⟨Nat.le_of_ble_eq_true rfl, Nat.le_of_ble_eq_true rfl⟩, (hts (.static yX5_at) (List.mem_of_getElem? (i := 3) rfl)), trivial⟩ (PR.S (hP.sub [1] rfl) hK) rfl rfl hl.1 rfl (lv_room (Nat.le_of_ble_eq_true rfl)) dX2_gap_20 ⟨Nat.le_of_ble_eq_true rfl, Nat.le_of_ble_eq_true rfl⟩) hP hS (fun H locs hP hS => ?_)
      refine lv_aload_n hx hb dX2_gap_23 rfl (lv_at hl 2 rfl) ?_
      refine va_get (D := D) (ci := 2) (v := .ref h3) (C := RX2) (T := TX2) (N := 9) hx hb hts k2 hown hK.1 hP 0 rfl rfl 2 (by decide) (hts (.fieldLink RX2 18 "BoredPipes$Pipe" "places" "[I") (List.mem_of_getElem? (i := 2) rfl)) (fun _ h9 => h9) rfl dX2_gap_24 ?_
      refine lv_iload_n hx hb dX2_gap_27 rfl (lv_at hl 3 rfl) ?_
      refine rd_i (va_runSN (As := [.ref h3, .int (nI k)]) (rest := [.int (pl i)]) ⟨hx, hb, hml, hown, hts⟩ (c_X5_at_in l D cI cZ h3 6 pl k (by first | omega | exact hk) (by omega)) ⟨va_cnB 2 hts gX2_gap_X5_at_n48 rfl rfl rfl (nwL7 hN) (hts (.initialized RX5) (List.mem_of_getElem? (i := 4) rfl)) hdV_X5_at.2 ⟨Nat.le_of_ble_eq_true rfl, Nat.le_of_ble_eq_true rfl⟩, (hts (.static yX5_at) (List.mem_of_getElem? (i := 3) rfl)), trivial⟩ (PR.S (hP.sub [1] rfl) hK) rfl rfl hl.1 rfl (lv_room (Nat.le_of_ble_eq_true rfl)) dX2_gap_28 ⟨Nat.le_of_ble_eq_true rfl, Nat.le_of_ble_eq_true rfl⟩) hP hS (fun H locs hP hS => ?_)
      refine lv_isub hx hb dX2_gap_31 ?_
      refine lv_iload_n hx hb dX2_gap_32 rfl (lv_at hl 4 rfl) ?_
      refine lv_imul hx hb dX2_gap_33 ?_
      refine lv_eqi (y := fGapD pl k w i) rfl ?_
      refine lv_istore (lv' := [(5, .int (fGapD pl k w i)), (4, .int (nI i)), (3, .int z), (0, .ref h), (1, .int (nI k)), (2, .int w)]) hx hb dX2_gap_34 hl (by decide) rfl (fun ls hl => ?_)
      refine lv_iload hx hb dX2_gap_36 (lv_at hl 0 rfl) ?_
      refine lv_if_le (tgt := 54) hx hb dX2_gap_38 (by decide) (fun c3 => ?_) (fun c3 => ?_)
      · skip
        refine lv_iinc (v := nI (i + 1)) (lv' := [(4, .int (nI (i + 1))), (5, .int (fGapD pl k w i)), (3, .int z), (0, .ref h), (1, .int (nI k)), (2, .int w)]) hx hb dX2_gap_54 hl (k := 1) rfl (iinc_1 i) (by decide) rfl (fun ls hl => ?_)
        refine lv_goto (tgt := 5) hx hb dX2_gap_57 (by decide) ?_
        exact ih_5 (i + 1) z (by omega) (hF.trans (by first | with_reducible rfl | (simp only [fGap, if_neg c2, if_pos c3]; done) | (simp [fGap, if_neg c2, if_pos c3]; done))) _ _ hP hS ls (lv_sub hl [0, 2, 3, 4, 5] rfl)
      · skip
        refine lv_iload_n hx hb dX2_gap_41 rfl (lv_at hl 2 rfl) ?_
        refine lv_if_eq (tgt := 51) hx hb dX2_gap_42 (by decide) (fun c4 => ?_) (fun c4 => ?_)
        · skip
          refine lv_iload hx hb dX2_gap_51 (lv_at hl 0 rfl) ?_
          refine lv_istore_n (lv' := [(3, .int (fGapD pl k w i)), (5, .int (fGapD pl k w i)), (4, .int (nI i)), (0, .ref h), (1, .int (nI k)), (2, .int w)]) hx hb dX2_gap_53 rfl hl (by decide) rfl (fun ls hl => ?_)
          refine lv_iinc (v := nI (i + 1)) (lv' := [(4, .int (nI (i + 1))), (3, .int (fGapD pl k w i)), (5, .int (fGapD pl k w i)), (0, .ref h), (1, .int (nI k)), (2, .int w)]) hx hb dX2_gap_54 hl (k := 2) rfl (iinc_1 i) (by decide) rfl (fun ls hl => ?_)
          refine lv_goto (tgt := 5) hx hb dX2_gap_57 (by decide) ?_
          exact ih_5 (i + 1) (fGapD pl k w i) (by omega) (hF.trans (by first | with_reducible rfl | (simp only [fGap, if_neg c2, if_neg c3, if_pos c4]; done) | (simp [fGap, if_neg c2, if_neg c3, if_pos c4]; done))) _ _ hP hS ls (lv_sub hl [0, 1, 3, 4, 5] rfl)
        · skip
          refine lv_iload hx hb dX2_gap_45 (lv_at hl 0 rfl) ?_
          refine lv_iload_n hx hb dX2_gap_47 rfl (lv_at hl 2 rfl) ?_
          refine lv_icmp_ge (tgt := 54) hx hb dX2_gap_48 (by decide) (fun c5 => ?_) (fun c5 => ?_)
          · skip
            refine lv_iinc (v := nI (i + 1)) (lv' := [(4, .int (nI (i + 1))), (5, .int (fGapD pl k w i)), (3, .int z), (0, .ref h), (1, .int (nI k)), (2, .int w)]) hx hb dX2_gap_54 hl (k := 1) rfl (iinc_1 i) (by decide) rfl (fun ls hl => ?_)
            refine lv_goto (tgt := 5) hx hb dX2_gap_57 (by decide) ?_
            exact ih_5 (i + 1) z (by omega) (hF.trans (by first | with_reducible rfl | (simp only [fGap, if_neg c2, if_neg c3, if_neg c4, if_pos c5]; done) | (simp [fGap, if_neg c2, if_neg c3, if_neg c4, if_pos c5]; done))) _ _ hP hS ls (lv_sub hl [0, 2, 3, 4, 5] rfl)
          · skip
            refine lv_iload hx hb dX2_gap_51 (lv_at hl 0 rfl) ?_
            refine lv_istore_n (lv' := [(3, .int (fGapD pl k w i)), (5, .int (fGapD pl k w i)), (4, .int (nI i)), (0, .ref h), (1, .int (nI k)), (2, .int w)]) hx hb dX2_gap_53 rfl hl (by decide) rfl (fun ls hl => ?_)
            refine lv_iinc (v := nI (i + 1)) (lv' := [(4, .int (nI (i + 1))), (3, .int (fGapD pl k w i)), (5, .int (fGapD pl k w i)), (0, .ref h), (1, .int (nI k)), (2, .int w)]) hx hb dX2_gap_54 hl (k := 2) rfl (iinc_1 i) (by decide) rfl (fun ls hl => ?_)
            refine lv_goto (tgt := 5) hx hb dX2_gap_57 (by decide) ?_
            exact ih_5 (i + 1) (fGapD pl k w i) (by omega) (hF.trans (by first | with_reducible rfl | (simp only [fGap, if_neg c2, if_neg c3, if_neg c4, if_neg c5]; done) | (simp [fGap, if_neg c2, if_neg c3, if_neg c4, if_neg c5]; done))) _ _ hP hS ls (lv_sub hl [0, 1, 3, 4, 5] rfl)
  exact lp_5 nh 0 0 (by omega) rfl _ _ hP hS ls (lv_sub hl [0, 1, 2, 3, 4] rfl)

set_option maxHeartbeats 4000000 in
set_option maxRecDepth 100000 in
theorem c_X2_rowOf (l : Launch) (D : va_G) (cI cZ : ClassId) (h : Nat) (h1 : Nat) (h2 : Nat) (h3 : Nat) (h4 : Nat) (h5 : Nat) (np : Nat) (nh : Nat) (mo : Int32) (fa : Int32) (v : Int32)  : Met l yX2_rowOf wsX2_rowOf rmX2_rowOf (va_Pc [.ref h, .int v] (PR D cI cZ [(h, .inr (2, [.ref h1, .ref h2, .ref h3, .ref h4, .ref h5, .int (nI np), .int (nI nh), .int mo, .int fa]))])) (RR (fRowOf h3 h4 h5 v)) 0 0 nA := by
  refine met_go (cc := cX2_rowOf) (maxL := 2) (ret := (some (.array .int))) (by decide) rfl ?_ (Nat.le_of_ble_eq_true rfl)
  intro p e s m a below meth c Q hQ _ hx hb hr hml hts hown hlk hnm hpre ls hl
  have hown : s.vm.findClass RX2 = some m.cls := hown
  obtain ⟨hP, hK⟩ := hpre
  have hN := hK.2
  have hS : va_S nA s.heap s.heap [] := va_S.rf
  have hl : lv_has ls 2 [(0, .ref h), (1, .int v)] := hl
  have k2 : ∀ w ∈ wsX20, w ∈ wsX2_rowOf := fun w h => List.mem_cons_of_mem _ (List.mem_append_right _ h)
  refine lv_iload_n hx hb dX2_rowOf_0 rfl (lv_at hl 1 rfl) ?_
  refine lv_if_ne (tgt := 11) hx hb dX2_rowOf_1 (by decide) (fun c1 => ?_) (fun c1 => ?_)
  · skip
    refine lv_iload_n hx hb dX2_rowOf_11 rfl (lv_at hl 1 rfl) ?_
    refine lv_iconst (v := 1) hx hb dX2_rowOf_12 (by decide) ?_
    refine lv_icmp_ne (tgt := 23) hx hb dX2_rowOf_13 (by decide) (fun c2 => ?_) (fun c2 => ?_)
    · skip
      refine lv_aload_n hx hb dX2_rowOf_23 rfl (lv_at hl 0 rfl) ?_
      refine va_get (D := D) (ci := 2) (v := .ref h5) (C := RX2) (T := TX2) (N := 9) hx hb hts k2 hown hK.1 hP 0 rfl rfl 4 (by decide) (hts (.fieldLink RX2 24 "BoredPipes$Pipe" "chimneys" "[I") (List.mem_of_getElem? (i := 3) rfl)) (fun _ h9 => h9) rfl dX2_rowOf_24 ?_
      exact ret_RR hQ hx hb hr (Or.inr ⟨_, rfl⟩) hlk hS (show fRowOf h3 h4 h5 v = h5 from (by first | with_reducible rfl | (simp only [fRowOf, if_neg c1, if_neg c2]; done) | (simp [fRowOf, if_neg c1, if_neg c2]; done))).symm dX2_rowOf_27
    · skip
      refine lv_aload_n hx hb dX2_rowOf_16 rfl (lv_at hl 0 rfl) ?_
      refine va_get (D := D) (ci := 2) (v := .ref h4) (C := RX2) (T := TX2) (N := 9) hx hb hts k2 hown hK.1 hP 0 rfl rfl 3 (by decide) (hts (.fieldLink RX2 21 "BoredPipes$Pipe" "sizes" "[I") (List.mem_of_getElem? (i := 2) rfl)) (fun _ h9 => h9) rfl dX2_rowOf_17 ?_
      refine lv_goto (tgt := 27) hx hb dX2_rowOf_20 (by decide) ?_
      exact ret_RR hQ hx hb hr (Or.inr ⟨_, rfl⟩) hlk hS (show fRowOf h3 h4 h5 v = h4 from (by first | with_reducible rfl | (simp only [fRowOf, if_neg c1, if_pos c2]; done) | (simp [fRowOf, if_neg c1, if_pos c2]; done))).symm dX2_rowOf_27
  · skip
    refine lv_aload_n hx hb dX2_rowOf_4 rfl (lv_at hl 0 rfl) ?_
    refine va_get (D := D) (ci := 2) (v := .ref h3) (C := RX2) (T := TX2) (N := 9) hx hb hts k2 hown hK.1 hP 0 rfl rfl 2 (by decide) (hts (.fieldLink RX2 18 "BoredPipes$Pipe" "places" "[I") (List.mem_of_getElem? (i := 1) rfl)) (fun _ h9 => h9) rfl dX2_rowOf_5 ?_
    refine lv_goto (tgt := 27) hx hb dX2_rowOf_8 (by decide) ?_
    exact ret_RR hQ hx hb hr (Or.inr ⟨_, rfl⟩) hlk hS (show fRowOf h3 h4 h5 v = h3 from (by first | with_reducible rfl | (simp only [fRowOf, if_pos c1]; done) | (simp [fRowOf, if_pos c1]; done))).symm dX2_rowOf_27

set_option maxHeartbeats 4000000 in
set_option maxRecDepth 100000 in
theorem c_X2_empty (l : Launch) (D : va_G) (cI cZ : ClassId) (h : Nat) (h1 : Nat) (h2 : Nat) (h3 : Nat) (h4 : Nat) (h5 : Nat) (np : Nat) (nh : Nat) (mo : Int32) (fa : Int32)  : Met l yX2_empty wsX2_empty rmX2_empty (va_Pc [.ref h] (PW D cI cZ [(h, .inr (2, [.ref h1, .ref h2, .ref h3, .ref h4, .ref h5, .int (nI np), .int (nI nh), .int mo, .int fa]))])) (WV (S := Unit) D (fun _ => True) (fun _ => [(h, .inr (2, [.ref h1, .ref h2, .ref h3, .ref h4, .ref h5, .int 0, .int 0, .int 0, .int 0]))]) [(h, .inr (2, [.ref h1, .ref h2, .ref h3, .ref h4, .ref h5, .int (nI np), .int (nI nh), .int mo, .int fa]))]) 0 0 (ad [(h, .inr (2, [.ref h1, .ref h2, .ref h3, .ref h4, .ref h5, .int (nI np), .int (nI nh), .int mo, .int fa]))]) := by
  refine met_go (cc := cX2_empty) (maxL := 1) (ret := none) (by decide) rfl ?_ (Nat.le_of_ble_eq_true rfl)
  intro p e s m a below meth c Q hQ _ hx hb hr hml hts hown hlk hnm hpre ls hl
  have hown : s.vm.findClass RX2 = some m.cls := hown
  obtain ⟨hP, hK, hD0⟩ := hpre
  have hN := hK.2
  obtain ⟨A, hAe⟩ : ∃ A : Nat → Prop, A = ad [(h, .inr (2, [.ref h1, .ref h2, .ref h3, .ref h4, .ref h5, .int (nI np), .int (nI nh), .int mo, .int fa]))] := ⟨_, rfl⟩
  have hD : va_D A [(h, .inr (2, [.ref h1, .ref h2, .ref h3, .ref h4, .ref h5, .int (nI np), .int (nI nh), .int mo, .int fa]))] := by rw [hAe]; exact hD0.ad
  have hS : va_S A s.heap s.heap [] := va_S.rf
  have hl : lv_has ls 1 [(0, .ref h)] := hl
  have k2 : ∀ w ∈ wsX20, w ∈ wsX2_empty := fun w h => List.mem_cons_of_mem _ (List.mem_append_right _ h)
  refine lv_aload_n hx hb dX2_empty_0 rfl (lv_at hl 0 rfl) ?_
  refine lv_iconst (v := 0) hx hb dX2_empty_1 (by decide) ?_
  refine va_put (D := D) (ci := 2) (v := .int 0) (ty := .int) (C := RX2) (T := TX2) (N := 9) hx hb hts k2 tyX2 tyX2_ok nmX2 hown hK.1 hP hD hS 0 rfl rfl 5 (by decide) (hts (.fieldLink RX2 27 "BoredPipes$Pipe" "pieces" "I") (List.mem_of_getElem? (i := 1) rfl)) (fun _ h9 => h9) rfl (tyX2_ok 5 (by decide)) rfl rfl (Nat.le_of_ble_eq_true rfl) dX2_empty_2 (fun H locs hP hD hS => ?_)
  have hP : va_P D vwCl [(h, .inr (2, [.ref h1, .ref h2, .ref h3, .ref h4, .ref h5, .int 0, .int (nI nh), .int mo, .int fa]))] H := hP
  have hD : va_D A [(h, .inr (2, [.ref h1, .ref h2, .ref h3, .ref h4, .ref h5, .int 0, .int (nI nh), .int mo, .int fa]))] := hD
  refine lv_aload_n hx hb dX2_empty_5 rfl (lv_at hl 0 rfl) ?_
  refine lv_iconst (v := 0) hx hb dX2_empty_6 (by decide) ?_
  refine va_put (D := D) (ci := 2) (v := .int 0) (ty := .int) (C := RX2) (T := TX2) (N := 9) hx hb hts k2 tyX2 tyX2_ok nmX2 hown hK.1 hP hD hS 0 rfl rfl 6 (by decide) (hts (.fieldLink RX2 31 "BoredPipes$Pipe" "holes" "I") (List.mem_of_getElem? (i := 2) rfl)) (fun _ h9 => h9) rfl (tyX2_ok 6 (by decide)) rfl rfl (Nat.le_of_ble_eq_true rfl) dX2_empty_7 (fun H locs hP hD hS => ?_)
  have hP : va_P D vwCl [(h, .inr (2, [.ref h1, .ref h2, .ref h3, .ref h4, .ref h5, .int 0, .int 0, .int mo, .int fa]))] H := hP
  have hD : va_D A [(h, .inr (2, [.ref h1, .ref h2, .ref h3, .ref h4, .ref h5, .int 0, .int 0, .int mo, .int fa]))] := hD
  refine lv_aload_n hx hb dX2_empty_10 rfl (lv_at hl 0 rfl) ?_
  refine lv_iconst (v := 0) hx hb dX2_empty_11 (by decide) ?_
  refine va_put (D := D) (ci := 2) (v := .int 0) (ty := .int) (C := RX2) (T := TX2) (N := 9) hx hb hts k2 tyX2 tyX2_ok nmX2 hown hK.1 hP hD hS 0 rfl rfl 7 (by decide) (hts (.fieldLink RX2 34 "BoredPipes$Pipe" "mouth" "I") (List.mem_of_getElem? (i := 3) rfl)) (fun _ h9 => h9) rfl (tyX2_ok 7 (by decide)) rfl rfl (Nat.le_of_ble_eq_true rfl) dX2_empty_12 (fun H locs hP hD hS => ?_)
  have hP : va_P D vwCl [(h, .inr (2, [.ref h1, .ref h2, .ref h3, .ref h4, .ref h5, .int 0, .int 0, .int 0, .int fa]))] H := hP
  have hD : va_D A [(h, .inr (2, [.ref h1, .ref h2, .ref h3, .ref h4, .ref h5, .int 0, .int 0, .int 0, .int fa]))] := hD
  refine lv_aload_n hx hb dX2_empty_15 rfl (lv_at hl 0 rfl) ?_
  refine lv_iconst (v := 0) hx hb dX2_empty_16 (by decide) ?_
  refine va_put (D := D) (ci := 2) (v := .int 0) (ty := .int) (C := RX2) (T := TX2) (N := 9) hx hb hts k2 tyX2 tyX2_ok nmX2 hown hK.1 hP hD hS 0 rfl rfl 8 (by decide) (hts (.fieldLink RX2 37 "BoredPipes$Pipe" "farEnd" "I") (List.mem_of_getElem? (i := 4) rfl)) (fun _ h9 => h9) rfl (tyX2_ok 8 (by decide)) rfl rfl (Nat.le_of_ble_eq_true rfl) dX2_empty_17 (fun H locs hP hD hS => ?_)
  have hP : va_P D vwCl [(h, .inr (2, [.ref h1, .ref h2, .ref h3, .ref h4, .ref h5, .int 0, .int 0, .int 0, .int 0]))] H := hP
  have hD : va_D A [(h, .inr (2, [.ref h1, .ref h2, .ref h3, .ref h4, .ref h5, .int 0, .int 0, .int 0, .int 0]))] := hD
  exact ret_WV hQ hx hb hr hlk hAe () hP hS trivial dX2_empty_20

set_option maxHeartbeats 4000000 in
set_option maxRecDepth 100000 in
theorem c_X2_addPiece (l : Launch) (D : va_G) (cI cZ : ClassId) (h : Nat) (h1 : Nat) (h2 : Nat) (h3 : Nat) (h4 : Nat) (h5 : Nat) (np : Nat) (nh : Nat) (mo : Int32) (fa : Int32) (ln : Nat → Int32) (bo : Nat → Int32) (x : Int32) (y : Int32) (hnp : np < 12) : Met l yX2_addPiece wsX2_addPiece rmX2_addPiece (va_Pc [.ref h, .int x, .int y] (PW D cI cZ [(h, .inr (2, [.ref h1, .ref h2, .ref h3, .ref h4, .ref h5, .int (nI np), .int (nI nh), .int mo, .int fa])), (h1, .inl (cI, 12, .inl ln)), (h2, .inl (cI, 12, .inl bo))])) (WV (S := Unit) D (fun _ => True) (fun _ => [(h, .inr (2, [.ref h1, .ref h2, .ref h3, .ref h4, .ref h5, .int (nI (np + 1)), .int (nI nh), .int mo, .int fa])), (h1, .inl (cI, 12, .inl (upd ln np x))), (h2, .inl (cI, 12, .inl (upd bo np y)))]) [(h, .inr (2, [.ref h1, .ref h2, .ref h3, .ref h4, .ref h5, .int (nI np), .int (nI nh), .int mo, .int fa])), (h1, .inl (cI, 12, .inl ln)), (h2, .inl (cI, 12, .inl bo))]) 0 0 (ad [(h, .inr (2, [.ref h1, .ref h2, .ref h3, .ref h4, .ref h5, .int (nI np), .int (nI nh), .int mo, .int fa])), (h1, .inl (cI, 12, .inl ln)), (h2, .inl (cI, 12, .inl bo))]) := by
  refine met_go (cc := cX2_addPiece) (maxL := 3) (ret := none) (by decide) rfl ?_ (Nat.le_of_ble_eq_true rfl)
  intro p e s m a below meth c Q hQ _ hx hb hr hml hts hown hlk hnm hpre ls hl
  have hown : s.vm.findClass RX2 = some m.cls := hown
  obtain ⟨hP, hK, hD0⟩ := hpre
  have hN := hK.2
  obtain ⟨A, hAe⟩ : ∃ A : Nat → Prop, A = ad [(h, .inr (2, [.ref h1, .ref h2, .ref h3, .ref h4, .ref h5, .int (nI np), .int (nI nh), .int mo, .int fa])), (h1, .inl (cI, 12, .inl ln)), (h2, .inl (cI, 12, .inl bo))] := ⟨_, rfl⟩
  have hD : va_D A [(h, .inr (2, [.ref h1, .ref h2, .ref h3, .ref h4, .ref h5, .int (nI np), .int (nI nh), .int mo, .int fa])), (h1, .inl (cI, 12, .inl ln)), (h2, .inl (cI, 12, .inl bo))] := by rw [hAe]; exact hD0.ad
  have hS : va_S A s.heap s.heap [] := va_S.rf
  have hl : lv_has ls 3 [(0, .ref h), (1, .int x), (2, .int y)] := hl
  have k2 : ∀ w ∈ wsX20, w ∈ wsX2_addPiece := fun w h => List.mem_cons_of_mem _ (List.mem_append_right _ h)
  refine lv_aload_n hx hb dX2_addPiece_0 rfl (lv_at hl 0 rfl) ?_
  refine va_get (D := D) (ci := 2) (v := .ref h1) (C := RX2) (T := TX2) (N := 9) hx hb hts k2 hown hK.1 hP 0 rfl rfl 0 (by decide) (hts (.fieldLink RX2 9 "BoredPipes$Pipe" "lengths" "[I") (List.mem_of_getElem? (i := 1) rfl)) (fun _ h9 => h9) rfl dX2_addPiece_1 ?_
  refine lv_aload_n hx hb dX2_addPiece_4 rfl (lv_at hl 0 rfl) ?_
  refine va_get (D := D) (ci := 2) (v := .int (nI np)) (C := RX2) (T := TX2) (N := 9) hx hb hts k2 hown hK.1 hP 0 rfl rfl 5 (by decide) (hts (.fieldLink RX2 27 "BoredPipes$Pipe" "pieces" "I") (List.mem_of_getElem? (i := 2) rfl)) (fun _ h9 => h9) rfl dX2_addPiece_5 ?_
  refine lv_iload_n hx hb dX2_addPiece_8 rfl (lv_at hl 1 rfl) ?_
  refine wr_v (va_runSN (As := [.ref h1, .int (nI np), .int x]) (rest := []) ⟨hx, hb, hml, hown, hts⟩ (c_X5_put_in l D cI cZ h1 12 ln np x (by omega) (by omega)) ⟨va_cnB 3 hts gX2_addPiece_X5_put_n40 rfl rfl rfl (nwL6 hN) (hts (.initialized RX5) (List.mem_of_getElem? (i := 5) rfl)) hdV_X5_put.2 ⟨Nat.le_of_ble_eq_true rfl, Nat.le_of_ble_eq_true rfl⟩, (hts (.static yX5_put) (List.mem_of_getElem? (i := 4) rfl)), trivial⟩ (PW.S (hP.sub [1] rfl) hK ((hD.sub [1] (by decide) rfl).weaken (fun _ _ _ _ => trivial))) rfl rfl hl.1 rfl (lv_room (Nat.le_of_ble_eq_true rfl)) dX2_addPiece_9 ⟨Nat.le_of_ble_eq_true rfl, Nat.le_of_ble_eq_true rfl⟩) hP hD hS [1] rfl (fun _ => rfl) (fun u1 H locs hu1 hP hD hS => ?_)
  have hP : va_P D vwCl [(h, .inr (2, [.ref h1, .ref h2, .ref h3, .ref h4, .ref h5, .int (nI np), .int (nI nh), .int mo, .int fa])), (h1, .inl (cI, 12, .inl (upd ln np x))), (h2, .inl (cI, 12, .inl bo))] H := hP
  have hD : va_D A [(h, .inr (2, [.ref h1, .ref h2, .ref h3, .ref h4, .ref h5, .int (nI np), .int (nI nh), .int mo, .int fa])), (h1, .inl (cI, 12, .inl (upd ln np x))), (h2, .inl (cI, 12, .inl bo))] := hD
  refine lv_aload_n hx hb dX2_addPiece_12 rfl (lv_at hl 0 rfl) ?_
  refine va_get (D := D) (ci := 2) (v := .ref h2) (C := RX2) (T := TX2) (N := 9) hx hb hts k2 hown hK.1 hP 0 rfl rfl 1 (by decide) (hts (.fieldLink RX2 15 "BoredPipes$Pipe" "bores" "[I") (List.mem_of_getElem? (i := 3) rfl)) (fun _ h9 => h9) rfl dX2_addPiece_13 ?_
  refine lv_aload_n hx hb dX2_addPiece_16 rfl (lv_at hl 0 rfl) ?_
  refine va_get (D := D) (ci := 2) (v := .int (nI np)) (C := RX2) (T := TX2) (N := 9) hx hb hts k2 hown hK.1 hP 0 rfl rfl 5 (by decide) (hts (.fieldLink RX2 27 "BoredPipes$Pipe" "pieces" "I") (List.mem_of_getElem? (i := 2) rfl)) (fun _ h9 => h9) rfl dX2_addPiece_17 ?_
  refine lv_iload_n hx hb dX2_addPiece_20 rfl (lv_at hl 2 rfl) ?_
  refine wr_v (va_runSN (As := [.ref h2, .int (nI np), .int y]) (rest := []) ⟨hx, hb, hml, hown, hts⟩ (c_X5_put_in l D cI cZ h2 12 bo np y (by omega) (by omega)) ⟨va_cnB 3 hts gX2_addPiece_X5_put_n40 rfl rfl rfl (nwL6 hN) (hts (.initialized RX5) (List.mem_of_getElem? (i := 5) rfl)) hdV_X5_put.2 ⟨Nat.le_of_ble_eq_true rfl, Nat.le_of_ble_eq_true rfl⟩, (hts (.static yX5_put) (List.mem_of_getElem? (i := 4) rfl)), trivial⟩ (PW.S (hP.sub [2] rfl) hK ((hD.sub [2] (by decide) rfl).weaken (fun _ _ _ _ => trivial))) rfl rfl hl.1 rfl (lv_room (Nat.le_of_ble_eq_true rfl)) dX2_addPiece_21 ⟨Nat.le_of_ble_eq_true rfl, Nat.le_of_ble_eq_true rfl⟩) hP hD hS [2] rfl (fun _ => rfl) (fun u2 H locs hu2 hP hD hS => ?_)
  have hP : va_P D vwCl [(h, .inr (2, [.ref h1, .ref h2, .ref h3, .ref h4, .ref h5, .int (nI np), .int (nI nh), .int mo, .int fa])), (h1, .inl (cI, 12, .inl (upd ln np x))), (h2, .inl (cI, 12, .inl (upd bo np y)))] H := hP
  have hD : va_D A [(h, .inr (2, [.ref h1, .ref h2, .ref h3, .ref h4, .ref h5, .int (nI np), .int (nI nh), .int mo, .int fa])), (h1, .inl (cI, 12, .inl (upd ln np x))), (h2, .inl (cI, 12, .inl (upd bo np y)))] := hD
  refine lv_aload_n hx hb dX2_addPiece_24 rfl (lv_at hl 0 rfl) ?_
  refine lv_dup hx hb dX2_addPiece_25 rfl ?_
  refine va_get (D := D) (ci := 2) (v := .int (nI np)) (C := RX2) (T := TX2) (N := 9) hx hb hts k2 hown hK.1 hP 0 rfl rfl 5 (by decide) (hts (.fieldLink RX2 27 "BoredPipes$Pipe" "pieces" "I") (List.mem_of_getElem? (i := 2) rfl)) (fun _ h9 => h9) rfl dX2_addPiece_26 ?_
  refine lv_iconst (v := 1) hx hb dX2_addPiece_29 (by decide) ?_
  refine nn_iadd hx hb dX2_addPiece_30 (x := np) (y := 1) rfl rfl ?_
  refine va_put (D := D) (ci := 2) (v := .int (nI (np + 1))) (ty := .int) (C := RX2) (T := TX2) (N := 9) hx hb hts k2 tyX2 tyX2_ok nmX2 hown hK.1 hP hD hS 0 rfl rfl 5 (by decide) (hts (.fieldLink RX2 27 "BoredPipes$Pipe" "pieces" "I") (List.mem_of_getElem? (i := 2) rfl)) (fun _ h9 => h9) rfl (tyX2_ok 5 (by decide)) rfl rfl (Nat.le_of_ble_eq_true rfl) dX2_addPiece_31 (fun H locs hP hD hS => ?_)
  have hP : va_P D vwCl [(h, .inr (2, [.ref h1, .ref h2, .ref h3, .ref h4, .ref h5, .int (nI (np + 1)), .int (nI nh), .int mo, .int fa])), (h1, .inl (cI, 12, .inl (upd ln np x))), (h2, .inl (cI, 12, .inl (upd bo np y)))] H := hP
  have hD : va_D A [(h, .inr (2, [.ref h1, .ref h2, .ref h3, .ref h4, .ref h5, .int (nI (np + 1)), .int (nI nh), .int mo, .int fa])), (h1, .inl (cI, 12, .inl (upd ln np x))), (h2, .inl (cI, 12, .inl (upd bo np y)))] := hD
  exact ret_WV hQ hx hb hr hlk hAe () hP hS trivial dX2_addPiece_34

set_option maxHeartbeats 4000000 in
set_option maxRecDepth 100000 in
theorem c_X2_addHole (l : Launch) (D : va_G) (cI cZ : ClassId) (h : Nat) (h1 : Nat) (h2 : Nat) (h3 : Nat) (h4 : Nat) (h5 : Nat) (np : Nat) (nh : Nat) (mo : Int32) (fa : Int32) (pl : Nat → Int32) (sz : Nat → Int32) (ch : Nat → Int32) (x : Int32) (y : Int32) (z : Int32) (hnh : nh < 6) : Met l yX2_addHole wsX2_addHole rmX2_addHole (va_Pc [.ref h, .int x, .int y, .int z] (PW D cI cZ [(h, .inr (2, [.ref h1, .ref h2, .ref h3, .ref h4, .ref h5, .int (nI np), .int (nI nh), .int mo, .int fa])), (h3, .inl (cI, 6, .inl pl)), (h4, .inl (cI, 6, .inl sz)), (h5, .inl (cI, 6, .inl ch))])) (WV (S := Unit) D (fun _ => True) (fun _ => [(h, .inr (2, [.ref h1, .ref h2, .ref h3, .ref h4, .ref h5, .int (nI np), .int (nI (nh + 1)), .int mo, .int fa])), (h3, .inl (cI, 6, .inl (upd pl nh x))), (h4, .inl (cI, 6, .inl (upd sz nh y))), (h5, .inl (cI, 6, .inl (upd ch nh z)))]) [(h, .inr (2, [.ref h1, .ref h2, .ref h3, .ref h4, .ref h5, .int (nI np), .int (nI nh), .int mo, .int fa])), (h3, .inl (cI, 6, .inl pl)), (h4, .inl (cI, 6, .inl sz)), (h5, .inl (cI, 6, .inl ch))]) 0 0 (ad [(h, .inr (2, [.ref h1, .ref h2, .ref h3, .ref h4, .ref h5, .int (nI np), .int (nI nh), .int mo, .int fa])), (h3, .inl (cI, 6, .inl pl)), (h4, .inl (cI, 6, .inl sz)), (h5, .inl (cI, 6, .inl ch))]) := by
  refine met_go (cc := cX2_addHole) (maxL := 4) (ret := none) (by decide) rfl ?_ (Nat.le_of_ble_eq_true rfl)
  intro p e s m a below meth c Q hQ _ hx hb hr hml hts hown hlk hnm hpre ls hl
  have hown : s.vm.findClass RX2 = some m.cls := hown
  obtain ⟨hP, hK, hD0⟩ := hpre
  have hN := hK.2
  obtain ⟨A, hAe⟩ : ∃ A : Nat → Prop, A = ad [(h, .inr (2, [.ref h1, .ref h2, .ref h3, .ref h4, .ref h5, .int (nI np), .int (nI nh), .int mo, .int fa])), (h3, .inl (cI, 6, .inl pl)), (h4, .inl (cI, 6, .inl sz)), (h5, .inl (cI, 6, .inl ch))] := ⟨_, rfl⟩
  have hD : va_D A [(h, .inr (2, [.ref h1, .ref h2, .ref h3, .ref h4, .ref h5, .int (nI np), .int (nI nh), .int mo, .int fa])), (h3, .inl (cI, 6, .inl pl)), (h4, .inl (cI, 6, .inl sz)), (h5, .inl (cI, 6, .inl ch))] := by rw [hAe]; exact hD0.ad
  have hS : va_S A s.heap s.heap [] := va_S.rf
  have hl : lv_has ls 4 [(0, .ref h), (1, .int x), (2, .int y), (3, .int z)] := hl
  have k2 : ∀ w ∈ wsX20, w ∈ wsX2_addHole := fun w h => List.mem_cons_of_mem _ (List.mem_append_right _ h)
  refine lv_aload_n hx hb dX2_addHole_0 rfl (lv_at hl 0 rfl) ?_
  refine va_get (D := D) (ci := 2) (v := .ref h3) (C := RX2) (T := TX2) (N := 9) hx hb hts k2 hown hK.1 hP 0 rfl rfl 2 (by decide) (hts (.fieldLink RX2 18 "BoredPipes$Pipe" "places" "[I") (List.mem_of_getElem? (i := 1) rfl)) (fun _ h9 => h9) rfl dX2_addHole_1 ?_
  refine lv_aload_n hx hb dX2_addHole_4 rfl (lv_at hl 0 rfl) ?_
  refine va_get (D := D) (ci := 2) (v := .int (nI nh)) (C := RX2) (T := TX2) (N := 9) hx hb hts k2 hown hK.1 hP 0 rfl rfl 6 (by decide) (hts (.fieldLink RX2 31 "BoredPipes$Pipe" "holes" "I") (List.mem_of_getElem? (i := 2) rfl)) (fun _ h9 => h9) rfl dX2_addHole_5 ?_
  refine lv_iload_n hx hb dX2_addHole_8 rfl (lv_at hl 1 rfl) ?_
  refine wr_v (va_runSN (As := [.ref h3, .int (nI nh), .int x]) (rest := []) ⟨hx, hb, hml, hown, hts⟩ (c_X5_put_in l D cI cZ h3 6 pl nh x (by omega) (by omega)) ⟨va_cnB 3 hts gX2_addHole_X5_put_n40 rfl rfl rfl (nwL6 hN) (hts (.initialized RX5) (List.mem_of_getElem? (i := 6) rfl)) hdV_X5_put.2 ⟨Nat.le_of_ble_eq_true rfl, Nat.le_of_ble_eq_true rfl⟩, (hts (.static yX5_put) (List.mem_of_getElem? (i := 5) rfl)), trivial⟩ (PW.S (hP.sub [1] rfl) hK ((hD.sub [1] (by decide) rfl).weaken (fun _ _ _ _ => trivial))) rfl rfl hl.1 rfl (lv_room (Nat.le_of_ble_eq_true rfl)) dX2_addHole_9 ⟨Nat.le_of_ble_eq_true rfl, Nat.le_of_ble_eq_true rfl⟩) hP hD hS [1] rfl (fun _ => rfl) (fun u1 H locs hu1 hP hD hS => ?_)
  have hP : va_P D vwCl [(h, .inr (2, [.ref h1, .ref h2, .ref h3, .ref h4, .ref h5, .int (nI np), .int (nI nh), .int mo, .int fa])), (h3, .inl (cI, 6, .inl (upd pl nh x))), (h4, .inl (cI, 6, .inl sz)), (h5, .inl (cI, 6, .inl ch))] H := hP
  have hD : va_D A [(h, .inr (2, [.ref h1, .ref h2, .ref h3, .ref h4, .ref h5, .int (nI np), .int (nI nh), .int mo, .int fa])), (h3, .inl (cI, 6, .inl (upd pl nh x))), (h4, .inl (cI, 6, .inl sz)), (h5, .inl (cI, 6, .inl ch))] := hD
  refine lv_aload_n hx hb dX2_addHole_12 rfl (lv_at hl 0 rfl) ?_
  refine va_get (D := D) (ci := 2) (v := .ref h4) (C := RX2) (T := TX2) (N := 9) hx hb hts k2 hown hK.1 hP 0 rfl rfl 3 (by decide) (hts (.fieldLink RX2 21 "BoredPipes$Pipe" "sizes" "[I") (List.mem_of_getElem? (i := 3) rfl)) (fun _ h9 => h9) rfl dX2_addHole_13 ?_
  refine lv_aload_n hx hb dX2_addHole_16 rfl (lv_at hl 0 rfl) ?_
  refine va_get (D := D) (ci := 2) (v := .int (nI nh)) (C := RX2) (T := TX2) (N := 9) hx hb hts k2 hown hK.1 hP 0 rfl rfl 6 (by decide) (hts (.fieldLink RX2 31 "BoredPipes$Pipe" "holes" "I") (List.mem_of_getElem? (i := 2) rfl)) (fun _ h9 => h9) rfl dX2_addHole_17 ?_
  refine lv_iload_n hx hb dX2_addHole_20 rfl (lv_at hl 2 rfl) ?_
  refine wr_v (va_runSN (As := [.ref h4, .int (nI nh), .int y]) (rest := []) ⟨hx, hb, hml, hown, hts⟩ (c_X5_put_in l D cI cZ h4 6 sz nh y (by omega) (by omega)) ⟨va_cnB 3 hts gX2_addHole_X5_put_n40 rfl rfl rfl (nwL6 hN) (hts (.initialized RX5) (List.mem_of_getElem? (i := 6) rfl)) hdV_X5_put.2 ⟨Nat.le_of_ble_eq_true rfl, Nat.le_of_ble_eq_true rfl⟩, (hts (.static yX5_put) (List.mem_of_getElem? (i := 5) rfl)), trivial⟩ (PW.S (hP.sub [2] rfl) hK ((hD.sub [2] (by decide) rfl).weaken (fun _ _ _ _ => trivial))) rfl rfl hl.1 rfl (lv_room (Nat.le_of_ble_eq_true rfl)) dX2_addHole_21 ⟨Nat.le_of_ble_eq_true rfl, Nat.le_of_ble_eq_true rfl⟩) hP hD hS [2] rfl (fun _ => rfl) (fun u2 H locs hu2 hP hD hS => ?_)
  have hP : va_P D vwCl [(h, .inr (2, [.ref h1, .ref h2, .ref h3, .ref h4, .ref h5, .int (nI np), .int (nI nh), .int mo, .int fa])), (h3, .inl (cI, 6, .inl (upd pl nh x))), (h4, .inl (cI, 6, .inl (upd sz nh y))), (h5, .inl (cI, 6, .inl ch))] H := hP
  have hD : va_D A [(h, .inr (2, [.ref h1, .ref h2, .ref h3, .ref h4, .ref h5, .int (nI np), .int (nI nh), .int mo, .int fa])), (h3, .inl (cI, 6, .inl (upd pl nh x))), (h4, .inl (cI, 6, .inl (upd sz nh y))), (h5, .inl (cI, 6, .inl ch))] := hD
  refine lv_aload_n hx hb dX2_addHole_24 rfl (lv_at hl 0 rfl) ?_
  refine va_get (D := D) (ci := 2) (v := .ref h5) (C := RX2) (T := TX2) (N := 9) hx hb hts k2 hown hK.1 hP 0 rfl rfl 4 (by decide) (hts (.fieldLink RX2 24 "BoredPipes$Pipe" "chimneys" "[I") (List.mem_of_getElem? (i := 4) rfl)) (fun _ h9 => h9) rfl dX2_addHole_25 ?_
  refine lv_aload_n hx hb dX2_addHole_28 rfl (lv_at hl 0 rfl) ?_
  refine va_get (D := D) (ci := 2) (v := .int (nI nh)) (C := RX2) (T := TX2) (N := 9) hx hb hts k2 hown hK.1 hP 0 rfl rfl 6 (by decide) (hts (.fieldLink RX2 31 "BoredPipes$Pipe" "holes" "I") (List.mem_of_getElem? (i := 2) rfl)) (fun _ h9 => h9) rfl dX2_addHole_29 ?_
  refine lv_iload_n hx hb dX2_addHole_32 rfl (lv_at hl 3 rfl) ?_
  refine wr_v (va_runSN (As := [.ref h5, .int (nI nh), .int z]) (rest := []) ⟨hx, hb, hml, hown, hts⟩ (c_X5_put_in l D cI cZ h5 6 ch nh z (by omega) (by omega)) ⟨va_cnB 3 hts gX2_addHole_X5_put_n40 rfl rfl rfl (nwL6 hN) (hts (.initialized RX5) (List.mem_of_getElem? (i := 6) rfl)) hdV_X5_put.2 ⟨Nat.le_of_ble_eq_true rfl, Nat.le_of_ble_eq_true rfl⟩, (hts (.static yX5_put) (List.mem_of_getElem? (i := 5) rfl)), trivial⟩ (PW.S (hP.sub [3] rfl) hK ((hD.sub [3] (by decide) rfl).weaken (fun _ _ _ _ => trivial))) rfl rfl hl.1 rfl (lv_room (Nat.le_of_ble_eq_true rfl)) dX2_addHole_33 ⟨Nat.le_of_ble_eq_true rfl, Nat.le_of_ble_eq_true rfl⟩) hP hD hS [3] rfl (fun _ => rfl) (fun u3 H locs hu3 hP hD hS => ?_)
  have hP : va_P D vwCl [(h, .inr (2, [.ref h1, .ref h2, .ref h3, .ref h4, .ref h5, .int (nI np), .int (nI nh), .int mo, .int fa])), (h3, .inl (cI, 6, .inl (upd pl nh x))), (h4, .inl (cI, 6, .inl (upd sz nh y))), (h5, .inl (cI, 6, .inl (upd ch nh z)))] H := hP
  have hD : va_D A [(h, .inr (2, [.ref h1, .ref h2, .ref h3, .ref h4, .ref h5, .int (nI np), .int (nI nh), .int mo, .int fa])), (h3, .inl (cI, 6, .inl (upd pl nh x))), (h4, .inl (cI, 6, .inl (upd sz nh y))), (h5, .inl (cI, 6, .inl (upd ch nh z)))] := hD
  refine lv_aload_n hx hb dX2_addHole_36 rfl (lv_at hl 0 rfl) ?_
  refine lv_dup hx hb dX2_addHole_37 rfl ?_
  refine va_get (D := D) (ci := 2) (v := .int (nI nh)) (C := RX2) (T := TX2) (N := 9) hx hb hts k2 hown hK.1 hP 0 rfl rfl 6 (by decide) (hts (.fieldLink RX2 31 "BoredPipes$Pipe" "holes" "I") (List.mem_of_getElem? (i := 2) rfl)) (fun _ h9 => h9) rfl dX2_addHole_38 ?_
  refine lv_iconst (v := 1) hx hb dX2_addHole_41 (by decide) ?_
  refine nn_iadd hx hb dX2_addHole_42 (x := nh) (y := 1) rfl rfl ?_
  refine va_put (D := D) (ci := 2) (v := .int (nI (nh + 1))) (ty := .int) (C := RX2) (T := TX2) (N := 9) hx hb hts k2 tyX2 tyX2_ok nmX2 hown hK.1 hP hD hS 0 rfl rfl 6 (by decide) (hts (.fieldLink RX2 31 "BoredPipes$Pipe" "holes" "I") (List.mem_of_getElem? (i := 2) rfl)) (fun _ h9 => h9) rfl (tyX2_ok 6 (by decide)) rfl rfl (Nat.le_of_ble_eq_true rfl) dX2_addHole_43 (fun H locs hP hD hS => ?_)
  have hP : va_P D vwCl [(h, .inr (2, [.ref h1, .ref h2, .ref h3, .ref h4, .ref h5, .int (nI np), .int (nI (nh + 1)), .int mo, .int fa])), (h3, .inl (cI, 6, .inl (upd pl nh x))), (h4, .inl (cI, 6, .inl (upd sz nh y))), (h5, .inl (cI, 6, .inl (upd ch nh z)))] H := hP
  have hD : va_D A [(h, .inr (2, [.ref h1, .ref h2, .ref h3, .ref h4, .ref h5, .int (nI np), .int (nI (nh + 1)), .int mo, .int fa])), (h3, .inl (cI, 6, .inl (upd pl nh x))), (h4, .inl (cI, 6, .inl (upd sz nh y))), (h5, .inl (cI, 6, .inl (upd ch nh z)))] := hD
  exact ret_WV hQ hx hb hr hlk hAe () hP hS trivial dX2_addHole_46
