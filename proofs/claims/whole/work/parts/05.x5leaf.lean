set_option maxHeartbeats 4000000 in
set_option maxRecDepth 100000 in
/-- at: the place, 0 outside -/
theorem c_X5_at (l : Launch) (D : va_G) (cI cZ : ClassId) (q0 : Nat) (n : Nat) (f : Nat → Int32) (i : Int32) (hn : n < 2147483648) : Met l yX5_at wsX5_at rmX5_at (va_Pc [.ref q0, .int i] (PR D cI cZ [(q0, .inl (cI, n, .inl f))])) (RI (fAt n f i)) 0 0 nA := by
  refine met_go (cc := cX5_at) (maxL := 2) (ret := (some .int)) (by decide) rfl ?_ (Nat.le_of_ble_eq_true rfl)
  intro p e s m a below meth c Q hQ _ hx hb hr hml hts hown hlk hnm hpre ls hl
  have hown : s.vm.findClass RX5 = some m.cls := hown
  obtain ⟨hP, hK⟩ := hpre
  have hN := hK.2
  have hS : va_S nA s.heap s.heap [] := va_S.rf
  have hl : lv_has ls 2 [(0, .ref q0), (1, .int i)] := hl
  refine lv_iload_n hx hb dX5_at_0 rfl (lv_at hl 1 rfl) ?_
  refine lv_if_lt (tgt := 16) hx hb dX5_at_1 (by decide) (fun c1 => ?_) (fun c1 => ?_)
  · skip
    refine lv_iconst (v := 0) hx hb dX5_at_16 (by decide) ?_
    exact ret_RI hQ hx hb hr hlk hS (show fAt n f i = 0 from (by first | with_reducible rfl | (simp only [fAt, if_pos c1]; done) | (simp [fAt, if_pos c1]; done))).symm dX5_at_17
  · skip
    refine lv_iload_n hx hb dX5_at_4 rfl (lv_at hl 1 rfl) ?_
    refine lv_aload_n hx hb dX5_at_5 rfl (lv_at hl 0 rfl) ?_
    refine va_alen hx hb hK.1 hP 0 0 (v := nI n) rfl rfl rfl dX5_at_6 ?_
    refine lv_icmp_ge (tgt := 16) hx hb dX5_at_7 (by decide) (fun c2 => ?_) (fun c2 => ?_)
    · skip
      refine lv_iconst (v := 0) hx hb dX5_at_16 (by decide) ?_
      exact ret_RI hQ hx hb hr hlk hS (show fAt n f i = 0 from (by first | with_reducible rfl | (simp only [fAt, if_neg c1, if_pos c2]; done) | (simp [fAt, if_neg c1, if_pos c2]; done))).symm dX5_at_17
    · skip
      refine lv_aload_n hx hb dX5_at_10 rfl (lv_at hl 0 rfl) ?_
      refine lv_iload_n hx hb dX5_at_11 rfl (lv_at hl 1 rfl) ?_
      refine va_iald hx hb hK.1 hP 0 0 rfl rfl (vpin_of c1 c2 hn) dX5_at_12 ?_
      refine lv_goto (tgt := 17) hx hb dX5_at_13 (by decide) ?_
      exact ret_RI hQ hx hb hr hlk hS (show fAt n f i = f i.toNatClampNeg from (by first | with_reducible rfl | (simp only [fAt, if_neg c1, if_neg c2]; done) | (simp [fAt, if_neg c1, if_neg c2]; done))).symm dX5_at_17

theorem c_X5_at_in (l : Launch) (D : va_G) (cI cZ : ClassId) (q0 n : Nat) (f : Nat → Int32) (k : Nat) (hk : k < n) (hn : n < 2147483648) : Met l yX5_at wsX5_at rmX5_at (va_Pc [.ref q0, .int (nI k)] (PR D cI cZ [(q0, .inl (cI, n, .inl f))])) (RI (f k)) 0 0 nA := by
  have h := c_X5_at l D cI cZ q0 n f (nI k) hn
  rwa [fAt_in f hk hn] at h

set_option maxHeartbeats 4000000 in
set_option maxRecDepth 100000 in
/-- put -/
theorem c_X5_put (l : Launch) (D : va_G) (cI cZ : ClassId) (q0 : Nat) (n : Nat) (f : Nat → Int32) (i : Int32) (v : Int32) (hn : n < 2147483648) : Met l yX5_put wsX5_put rmX5_put (va_Pc [.ref q0, .int i, .int v] (PW D cI cZ [(q0, .inl (cI, n, .inl f))])) (WV (S := Unit) D (fun _ => True) (fun _ => [(q0, .inl (cI, n, .inl (fPut n f i v)))]) [(q0, .inl (cI, n, .inl f))]) 0 0 (ad [(q0, .inl (cI, n, .inl f))]) := by
  refine met_go (cc := cX5_put) (maxL := 3) (ret := none) (by decide) rfl ?_ (Nat.le_of_ble_eq_true rfl)
  intro p e s m a below meth c Q hQ _ hx hb hr hml hts hown hlk hnm hpre ls hl
  have hown : s.vm.findClass RX5 = some m.cls := hown
  obtain ⟨hP, hK, hD0⟩ := hpre
  have hN := hK.2
  obtain ⟨A, hAe⟩ : ∃ A : Nat → Prop, A = ad [(q0, .inl (cI, n, .inl f))] := ⟨_, rfl⟩
  have hD : va_D A [(q0, .inl (cI, n, .inl f))] := by rw [hAe]; exact hD0.ad
  have hS : va_S A s.heap s.heap [] := va_S.rf
  have hl : lv_has ls 3 [(0, .ref q0), (1, .int i), (2, .int v)] := hl
  refine lv_iload_n hx hb dX5_put_0 rfl (lv_at hl 1 rfl) ?_
  refine lv_if_lt (tgt := 14) hx hb dX5_put_1 (by decide) (fun c1 => ?_) (fun c1 => ?_)
  · skip
    exact ret_WV hQ hx hb hr hlk hAe () (by show va_P D vwCl [(q0, .inl (cI, n, .inl (fPut n f i v)))] s.heap; rw [show fPut n f i v = f from (by first | with_reducible rfl | (simp only [fPut, if_pos c1]; done) | (simp [fPut, if_pos c1]; done))]; exact hP) hS trivial dX5_put_14
  · skip
    refine lv_iload_n hx hb dX5_put_4 rfl (lv_at hl 1 rfl) ?_
    refine lv_aload_n hx hb dX5_put_5 rfl (lv_at hl 0 rfl) ?_
    refine va_alen hx hb hK.1 hP 0 0 (v := nI n) rfl rfl rfl dX5_put_6 ?_
    refine lv_icmp_ge (tgt := 14) hx hb dX5_put_7 (by decide) (fun c2 => ?_) (fun c2 => ?_)
    · skip
      exact ret_WV hQ hx hb hr hlk hAe () (by show va_P D vwCl [(q0, .inl (cI, n, .inl (fPut n f i v)))] s.heap; rw [show fPut n f i v = f from (by first | with_reducible rfl | (simp only [fPut, if_neg c1, if_pos c2]; done) | (simp [fPut, if_neg c1, if_pos c2]; done))]; exact hP) hS trivial dX5_put_14
    · skip
      refine lv_aload_n hx hb dX5_put_10 rfl (lv_at hl 0 rfl) ?_
      refine lv_iload_n hx hb dX5_put_11 rfl (lv_at hl 1 rfl) ?_
      refine lv_iload_n hx hb dX5_put_12 rfl (lv_at hl 2 rfl) ?_
      refine va_iast hx hb hK.1 hP hD hS 0 0 rfl rfl (vpin_of c1 c2 hn) dX5_put_13 (fun H locs hP hD hS => ?_)
      have hP : va_P D vwCl [(q0, .inl (cI, n, .inl (upd f i.toNatClampNeg v)))] H := hP
      have hD : va_D A [(q0, .inl (cI, n, .inl (upd f i.toNatClampNeg v)))] := hD
      exact ret_WV hQ hx hb hr hlk hAe () (by show va_P D vwCl [(q0, .inl (cI, n, .inl (fPut n f i v)))] H; rw [show fPut n f i v = upd f i.toNatClampNeg v from (by first | with_reducible rfl | (simp only [fPut, if_neg c1, if_neg c2]; done) | (simp [fPut, if_neg c1, if_neg c2]; done))]; exact hP) hS trivial dX5_put_14

theorem c_X5_put_in (l : Launch) (D : va_G) (cI cZ : ClassId) (q0 n : Nat) (f : Nat → Int32) (k : Nat) (v : Int32) (hk : k < n) (hn : n < 2147483648) : Met l yX5_put wsX5_put rmX5_put (va_Pc [.ref q0, .int (nI k), .int v] (PW D cI cZ [(q0, .inl (cI, n, .inl f))])) (WV (S := Unit) D (fun _ => True) (fun _ => [(q0, .inl (cI, n, .inl (upd f k v)))]) [(q0, .inl (cI, n, .inl f))]) 0 0 (ad [(q0, .inl (cI, n, .inl f))]) := by
  have h := c_X5_put l D cI cZ q0 n f (nI k) v hn
  rwa [fPut_in f v hk hn] at h

set_option maxHeartbeats 4000000 in
set_option maxRecDepth 100000 in
theorem c_X5_within (l : Launch) (D : va_G) (cI cZ : ClassId) (v : Int32) (x : Int32) (y : Int32)  : Met l yX5_within wsX5_within rmX5_within (va_Pc [.int v, .int x, .int y] (PR D cI cZ [])) (RI (fIn v x y)) 0 0 nA := by
  refine met_go (cc := cX5_within) (maxL := 3) (ret := (some .boolean)) (by decide) rfl ?_ (Nat.le_of_ble_eq_true rfl)
  intro p e s m a below meth c Q hQ _ hx hb hr hml hts hown hlk hnm hpre ls hl
  have hown : s.vm.findClass RX5 = some m.cls := hown
  obtain ⟨hP, hK⟩ := hpre
  have hN := hK.2
  have hS : va_S nA s.heap s.heap [] := va_S.rf
  have hl : lv_has ls 3 [(0, .int v), (1, .int x), (2, .int y)] := hl
  refine lv_iload_n hx hb dX5_within_0 rfl (lv_at hl 0 rfl) ?_
  refine lv_iload_n hx hb dX5_within_1 rfl (lv_at hl 1 rfl) ?_
  refine lv_icmp_lt (tgt := 14) hx hb dX5_within_2 (by decide) (fun c1 => ?_) (fun c1 => ?_)
  · skip
    refine lv_iconst (v := 0) hx hb dX5_within_14 (by decide) ?_
    exact ret_RZ hQ hx hb hr rfl hlk hS (show fIn v x y = 0 from (by first | with_reducible rfl | (simp only [fIn, if_pos c1]; done) | (simp [fIn, if_pos c1]; done))).symm dX5_within_15
  · skip
    refine lv_iload_n hx hb dX5_within_5 rfl (lv_at hl 0 rfl) ?_
    refine lv_iload_n hx hb dX5_within_6 rfl (lv_at hl 2 rfl) ?_
    refine lv_icmp_gt (tgt := 14) hx hb dX5_within_7 (by decide) (fun c2 => ?_) (fun c2 => ?_)
    · skip
      refine lv_iconst (v := 0) hx hb dX5_within_14 (by decide) ?_
      exact ret_RZ hQ hx hb hr rfl hlk hS (show fIn v x y = 0 from (by first | with_reducible rfl | (simp only [fIn, if_neg c1, if_pos c2]; done) | (simp [fIn, if_neg c1, if_pos c2]; done))).symm dX5_within_15
    · skip
      refine lv_iconst (v := 1) hx hb dX5_within_10 (by decide) ?_
      refine lv_goto (tgt := 15) hx hb dX5_within_11 (by decide) ?_
      exact ret_RZ hQ hx hb hr rfl hlk hS (show fIn v x y = 1 from (by first | with_reducible rfl | (simp only [fIn, if_neg c1, if_neg c2]; done) | (simp [fIn, if_neg c1, if_neg c2]; done))).symm dX5_within_15

set_option maxHeartbeats 4000000 in
set_option maxRecDepth 100000 in
theorem c_X5_isPiece (l : Launch) (D : va_G) (cI cZ : ClassId) (x : Int32) (y : Int32)  : Met l yX5_isPiece wsX5_isPiece rmX5_isPiece (va_Pc [.int x, .int y] (PR D cI cZ [])) (RI (fIsPiece x y)) 0 0 nA := by
  refine met_go (cc := cX5_isPiece) (maxL := 2) (ret := (some .boolean)) (by decide) rfl ?_ (Nat.le_of_ble_eq_true rfl)
  intro p e s m a below meth c Q hQ _ hx hb hr hml hts hown hlk hnm hpre ls hl
  have hown : s.vm.findClass RX5 = some m.cls := hown
  obtain ⟨hP, hK⟩ := hpre
  have hN := hK.2
  have hS : va_S nA s.heap s.heap [] := va_S.rf
  have hl : lv_has ls 2 [(0, .int x), (1, .int y)] := hl
  refine lv_iload_n hx hb dX5_isPiece_0 rfl (lv_at hl 0 rfl) ?_
  refine lv_iconst (v := 1) hx hb dX5_isPiece_1 (by decide) ?_
  refine lv_sipush (v := 400) hx hb dX5_isPiece_2 (by decide) ?_
  refine rd_i (va_runS (As := [.int x, .int 1, .int 400]) (rest := []) ⟨hx, hb, hml, hown, hts⟩ (c_X5_within l D cI cZ x 1 400) (va_cwS 3 hts gX5_isPiece_X5_within rfl rfl rfl hdV_X5_within.2 ⟨Nat.le_of_ble_eq_true rfl, Nat.le_of_ble_eq_true rfl⟩) (PR.S hP hK) rfl rfl hl.1 rfl (lv_room (Nat.le_of_ble_eq_true rfl)) dX5_isPiece_5 ⟨Nat.le_of_ble_eq_true rfl, Nat.le_of_ble_eq_true rfl⟩) hP hS (fun H locs hP hS => ?_)
  refine lv_if_eq (tgt := 25) hx hb dX5_isPiece_8 (by decide) (fun c1 => ?_) (fun c1 => ?_)
  · skip
    refine lv_iconst (v := 0) hx hb dX5_isPiece_25 (by decide) ?_
    exact ret_RZ hQ hx hb hr rfl hlk hS (show fIsPiece x y = 0 from (by first | with_reducible rfl | (simp only [fIsPiece, if_pos c1]; done) | (simp [fIsPiece, if_pos c1]; done))).symm dX5_isPiece_26
  · skip
    refine lv_iload_n hx hb dX5_isPiece_11 rfl (lv_at hl 1 rfl) ?_
    refine lv_iconst (v := 1) hx hb dX5_isPiece_12 (by decide) ?_
    refine lv_bipush (v := 100) hx hb dX5_isPiece_13 (by decide) ?_
    refine rd_i (va_runS (As := [.int y, .int 1, .int 100]) (rest := []) ⟨hx, hb, hml, hown, hts⟩ (c_X5_within l D cI cZ y 1 100) (va_cwS 3 hts gX5_isPiece_X5_within rfl rfl rfl hdV_X5_within.2 ⟨Nat.le_of_ble_eq_true rfl, Nat.le_of_ble_eq_true rfl⟩) (PR.S hP hK) rfl rfl hl.1 rfl (lv_room (Nat.le_of_ble_eq_true rfl)) dX5_isPiece_15 ⟨Nat.le_of_ble_eq_true rfl, Nat.le_of_ble_eq_true rfl⟩) hP hS (fun H locs hP hS => ?_)
    refine lv_if_eq (tgt := 25) hx hb dX5_isPiece_18 (by decide) (fun c2 => ?_) (fun c2 => ?_)
    · skip
      refine lv_iconst (v := 0) hx hb dX5_isPiece_25 (by decide) ?_
      exact ret_RZ hQ hx hb hr rfl hlk hS (show fIsPiece x y = 0 from (by first | with_reducible rfl | (simp only [fIsPiece, if_neg c1, if_pos c2]; done) | (simp [fIsPiece, if_neg c1, if_pos c2]; done))).symm dX5_isPiece_26
    · skip
      refine lv_iconst (v := 1) hx hb dX5_isPiece_21 (by decide) ?_
      refine lv_goto (tgt := 26) hx hb dX5_isPiece_22 (by decide) ?_
      exact ret_RZ hQ hx hb hr rfl hlk hS (show fIsPiece x y = 1 from (by first | with_reducible rfl | (simp only [fIsPiece, if_neg c1, if_neg c2]; done) | (simp [fIsPiece, if_neg c1, if_neg c2]; done))).symm dX5_isPiece_26

set_option maxHeartbeats 4000000 in
set_option maxRecDepth 100000 in
theorem c_X5_quotient (l : Launch) (D : va_G) (cI cZ : ClassId) (x : Int64) (y : Int64)  : Met l yX5_quotient wsX5_quotient rmX5_quotient (va_Pc [.long x, .long y] (PR D cI cZ [])) (RJ (fQuo x y)) 0 0 nA := by
  refine met_go (cc := cX5_quotient) (maxL := 4) (ret := (some .long)) (by decide) rfl ?_ (Nat.le_of_ble_eq_true rfl)
  intro p e s m a below meth c Q hQ _ hx hb hr hml hts hown hlk hnm hpre ls hl
  have hown : s.vm.findClass RX5 = some m.cls := hown
  obtain ⟨hP, hK⟩ := hpre
  have hN := hK.2
  have hS : va_S nA s.heap s.heap [] := va_S.rf
  have hl : lv_has ls 4 [(0, .long x), (2, .long y)] := hl
  refine lv_lload_n hx hb dX5_quotient_0 rfl (lv_at hl 1 rfl) ?_
  refine lv_lconst (v := 0) hx hb dX5_quotient_1 (by decide) ?_
  refine W.lcmp hx hb dX5_quotient_2 ?_
  refine lv_if_ne (tgt := 10) hx hb dX5_quotient_3 (by decide) (fun c1 => ?_) (fun c1 => ?_)
  · skip
    have c1 : ¬ (y = 0) := fun h9 => c1 ((lg_cmp_eq y 0).mpr h9)
    refine lv_lload_n hx hb dX5_quotient_10 rfl (lv_at hl 0 rfl) ?_
    refine lv_lload_n hx hb dX5_quotient_11 rfl (lv_at hl 1 rfl) ?_
    refine lv_ldiv hx hb dX5_quotient_12 c1 ?_
    exact ret_RJ hQ hx hb hr hlk hS (show fQuo x y = x / y from (by first | with_reducible rfl | (simp only [fQuo, if_neg c1]; done) | (simp [fQuo, if_neg c1]; done))).symm dX5_quotient_13
  · skip
    have c1 : y = 0 := (lg_cmp_eq y 0).mp c1
    refine lv_lconst (v := 0) hx hb dX5_quotient_6 (by decide) ?_
    refine lv_goto (tgt := 13) hx hb dX5_quotient_7 (by decide) ?_
    exact ret_RJ hQ hx hb hr hlk hS (show fQuo x y = 0 from (by first | with_reducible rfl | (simp only [fQuo, if_pos c1]; done) | (simp [fQuo, if_pos c1]; done))).symm dX5_quotient_13

set_option maxHeartbeats 4000000 in
set_option maxRecDepth 100000 in
theorem c_X5_sineOf (l : Launch) (D : va_G) (cI cZ : ClassId) (t : Int32)  : Met l yX5_sineOf wsX5_sineOf rmX5_sineOf (va_Pc [.int t] (PR D cI cZ [])) (RJ (fSine t)) 0 0 nA := by
  refine met_go (cc := cX5_sineOf) (maxL := 7) (ret := (some .long)) (by decide) rfl ?_ (Nat.le_of_ble_eq_true rfl)
  intro p e s m a below meth c Q hQ _ hx hb hr hml hts hown hlk hnm hpre ls hl
  have hown : s.vm.findClass RX5 = some m.cls := hown
  obtain ⟨hP, hK⟩ := hpre
  have hN := hK.2
  have hS : va_S nA s.heap s.heap [] := va_S.rf
  have hl : lv_has ls 7 [(0, .int t)] := hl
  refine lv_iload_n hx hb dX5_sineOf_0 rfl (lv_at hl 0 rfl) ?_
  refine lv_sipush (v := 32767) hx hb dX5_sineOf_1 (by decide) ?_
  refine lv_iand hx hb dX5_sineOf_4 ?_
  refine lv_i2l hx hb dX5_sineOf_5 rfl ?_
  refine lv_eqj (y := fSX t) rfl ?_
  refine lv_lstore_n (lv' := [(1, .long (fSX t)), (0, .int t)]) hx hb dX5_sineOf_6 rfl hl (by decide) rfl (fun ls hl => ?_)
  refine lv_lload_n hx hb dX5_sineOf_7 rfl (lv_at hl 0 rfl) ?_
  refine lv_ldc2 hx hb hown (hts (.constantLong RX5 246 (32768)) (List.mem_of_getElem? (i := 1) rfl)) dX5_sineOf_8 ?_
  refine lv_lload_n hx hb dX5_sineOf_11 rfl (lv_at hl 0 rfl) ?_
  refine lv_lsub hx hb dX5_sineOf_12 ?_
  refine lv_lmul hx hb dX5_sineOf_13 ?_
  refine lv_eqj (y := fSP t) rfl ?_
  refine lv_lstore_n (lv' := [(3, .long (fSP t)), (1, .long (fSX t)), (0, .int t)]) hx hb dX5_sineOf_14 rfl hl (by decide) rfl (fun ls hl => ?_)
  refine lv_ldc2 hx hb hown (hts (.constantLong RX5 248 (131068)) (List.mem_of_getElem? (i := 2) rfl)) dX5_sineOf_15 ?_
  refine lv_lload_n hx hb dX5_sineOf_18 rfl (lv_at hl 0 rfl) ?_
  refine lv_lmul hx hb dX5_sineOf_19 ?_
  refine lv_ldc2 hx hb hown (hts (.constantLong RX5 250 (1342177280)) (List.mem_of_getElem? (i := 3) rfl)) dX5_sineOf_20 ?_
  refine lv_lload_n hx hb dX5_sineOf_23 rfl (lv_at hl 0 rfl) ?_
  refine lv_lsub hx hb dX5_sineOf_24 ?_
  refine rd_l (va_runS (As := [.long (131068 * (fSP t)), .long (1342177280 - (fSP t))]) (rest := []) ⟨hx, hb, hml, hown, hts⟩ (c_X5_quotient l D cI cZ (131068 * (fSP t)) (1342177280 - (fSP t))) (va_cwS 2 hts gX5_sineOf_X5_quotient rfl rfl rfl hdV_X5_quotient.2 ⟨Nat.le_of_ble_eq_true rfl, Nat.le_of_ble_eq_true rfl⟩) (PR.S hP hK) rfl rfl hl.1 rfl (lv_room (Nat.le_of_ble_eq_true rfl)) dX5_sineOf_25 ⟨Nat.le_of_ble_eq_true rfl, Nat.le_of_ble_eq_true rfl⟩) hP hS (fun H locs hP hS => ?_)
  refine lv_eqj (y := fSV t) rfl ?_
  refine lv_lstore (lv' := [(5, .long (fSV t)), (3, .long (fSP t)), (1, .long (fSX t)), (0, .int t)]) hx hb dX5_sineOf_28 hl (by decide) rfl (fun ls hl => ?_)
  refine lv_iload_n hx hb dX5_sineOf_30 rfl (lv_at hl 3 rfl) ?_
  refine lv_ldc hx hb hown (hts (.constant RX5 252 (32768)) (List.mem_of_getElem? (i := 4) rfl)) dX5_sineOf_31 ?_
  refine lv_iand hx hb dX5_sineOf_33 ?_
  refine lv_if_ne (tgt := 42) hx hb dX5_sineOf_34 (by decide) (fun c1 => ?_) (fun c1 => ?_)
  · skip
    refine lv_lload hx hb dX5_sineOf_42 (lv_at hl 0 rfl) ?_
    refine lv_lneg hx hb dX5_sineOf_44 ?_
    exact ret_RJ hQ hx hb hr hlk hS (show fSine t = -(fSV t) from (by first | with_reducible rfl | (simp only [fSine, if_neg c1]; done) | (simp [fSine, if_neg c1]; done))).symm dX5_sineOf_45
  · skip
    refine lv_lload hx hb dX5_sineOf_37 (lv_at hl 0 rfl) ?_
    refine lv_goto (tgt := 45) hx hb dX5_sineOf_39 (by decide) ?_
    exact ret_RJ hQ hx hb hr hlk hS (show fSine t = fSV t from (by first | with_reducible rfl | (simp only [fSine, if_pos c1]; done) | (simp [fSine, if_pos c1]; done))).symm dX5_sineOf_45

set_option maxHeartbeats 4000000 in
set_option maxRecDepth 100000 in
theorem c_X5_missOf (l : Launch) (D : va_G) (cI cZ : ClassId) (t : Int32) (w : Int32)  : Met l yX5_missOf wsX5_missOf rmX5_missOf (va_Pc [.int t, .int w] (PR D cI cZ [])) (RI (fMiss t w)) 0 0 nA := by
  refine met_go (cc := cX5_missOf) (maxL := 2) (ret := (some .int)) (by decide) rfl ?_ (Nat.le_of_ble_eq_true rfl)
  intro p e s m a below meth c Q hQ _ hx hb hr hml hts hown hlk hnm hpre ls hl
  have hown : s.vm.findClass RX5 = some m.cls := hown
  obtain ⟨hP, hK⟩ := hpre
  have hN := hK.2
  have hS : va_S nA s.heap s.heap [] := va_S.rf
  have hl : lv_has ls 2 [(0, .int t), (1, .int w)] := hl
  refine lv_iload_n hx hb dX5_missOf_0 rfl (lv_at hl 0 rfl) ?_
  refine lv_iconst (v := (-1)) hx hb dX5_missOf_1 (by decide) ?_
  refine lv_icmp_ne (tgt := 11) hx hb dX5_missOf_2 (by decide) (fun c1 => ?_) (fun c1 => ?_)
  · skip
    refine lv_iload_n hx hb dX5_missOf_11 rfl (lv_at hl 0 rfl) ?_
    refine lv_iload_n hx hb dX5_missOf_12 rfl (lv_at hl 1 rfl) ?_
    refine lv_isub hx hb dX5_missOf_13 ?_
    refine va_mabs hx hb (hml.trans hl.1.symm) hown (hts (.methodLink RX5 226 Lib.Math.abs.name) (List.mem_of_getElem? (i := 1) rfl)) (hts (.static Lib.Math.abs.name) (List.mem_of_getElem? (i := 2) rfl)) (hts (.initialized "java/lang/Math") (List.mem_of_getElem? (i := 3) rfl)) (hts (.code Lib.Math.abs.name Lib.Math.abs.code 1 (some .int)) (List.mem_of_getElem? (i := 4) rfl)) (Nat.le_of_ble_eq_true rfl) (Nat.le_of_ble_eq_true rfl) (Nat.le_of_ble_eq_true rfl) (Nat.le_of_ble_eq_true rfl) dX5_missOf_14 ?_
    exact ret_RI hQ hx hb hr hlk hS (show fMiss t w = if 0 ≤ (t - w) then t - w else 0 - (t - w) from (by first | with_reducible rfl | (simp only [fMiss, if_neg c1]; done) | (simp [fMiss, if_neg c1]; done))).symm dX5_missOf_17
  · skip
    refine lv_sipush (v := 300) hx hb dX5_missOf_5 (by decide) ?_
    refine lv_goto (tgt := 17) hx hb dX5_missOf_8 (by decide) ?_
    exact ret_RI hQ hx hb hr hlk hS (show fMiss t w = 300 from (by first | with_reducible rfl | (simp only [fMiss, if_pos c1]; done) | (simp [fMiss, if_pos c1]; done))).symm dX5_missOf_17

set_option maxHeartbeats 4000000 in
set_option maxRecDepth 100000 in
theorem c_X5_copyRow (l : Launch) (D : va_G) (cI cZ : ClassId) (q0 : Nat) (q1 : Nat) (n : Nat) (f : Nat → Int32) (g : Nat → Int32) (hn : n < 2147483648) : Met l yX5_copyRow wsX5_copyRow rmX5_copyRow (va_Pc [.ref q0, .ref q1] (PW D cI cZ [(q0, .inl (cI, n, .inl f)), (q1, .inl (cI, n, .inl g))])) (WV (S := Unit) D (fun _ => True) (fun _ => [(q0, .inl (cI, n, .inl f)), (q1, .inl (cI, n, .inl (cpyF f g n)))]) [(q0, .inl (cI, n, .inl f)), (q1, .inl (cI, n, .inl g))]) 0 0 (ad [(q0, .inl (cI, n, .inl f)), (q1, .inl (cI, n, .inl g))]) := by
  refine met_go (cc := cX5_copyRow) (maxL := 3) (ret := none) (by decide) rfl ?_ (Nat.le_of_ble_eq_true rfl)
  intro p e s m a below meth c Q hQ _ hx hb hr hml hts hown hlk hnm hpre ls hl
  have hown : s.vm.findClass RX5 = some m.cls := hown
  obtain ⟨hP, hK, hD0⟩ := hpre
  have hN := hK.2
  obtain ⟨A, hAe⟩ : ∃ A : Nat → Prop, A = ad [(q0, .inl (cI, n, .inl f)), (q1, .inl (cI, n, .inl g))] := ⟨_, rfl⟩
  have hD : va_D A [(q0, .inl (cI, n, .inl f)), (q1, .inl (cI, n, .inl g))] := by rw [hAe]; exact hD0.ad
  have hS : va_S A s.heap s.heap [] := va_S.rf
  have hl : lv_has ls 3 [(0, .ref q0), (1, .ref q1)] := hl
  refine lv_iconst (v := 0) hx hb dX5_copyRow_0 (by decide) ?_
  refine lv_istore_n (lv' := [(2, .int 0), (0, .ref q0), (1, .ref q1)]) hx hb dX5_copyRow_1 rfl hl (by decide) rfl (fun ls hl => ?_)
  have hP : va_P D vwCl [(q0, .inl (cI, n, .inl f)), (q1, .inl (cI, n, .inl (cpyF f g 0)))] s.heap := by rw [← (show g = cpyF f g 0 from (cpyF_0 f g).symm)]; exact hP
  have hD : va_D A [(q0, .inl (cI, n, .inl f)), (q1, .inl (cI, n, .inl (cpyF f g 0)))] := va_D_fst hD (by simp only [List.map_cons, List.map_nil])
  have lp_2 : ∀ (r : Nat) (i : Nat), (i + r = n) → ∀ (H : Heap) (locs : List Loc), va_P D vwCl [(q0, .inl (cI, n, .inl f)), (q1, .inl (cI, n, .inl (cpyF f g i)))] H → va_D A [(q0, .inl (cI, n, .inl f)), (q1, .inl (cI, n, .inl (cpyF f g i)))] → va_S A s.heap H locs → ∀ (ls : Array Slot), lv_has ls 3 [(2, .int (nI i)), (0, .ref q0), (1, .ref q1)] → W p l e rmX5_copyRow s m a below meth c H locs 0 0 Q (F0 m 2 ls []) := by
    intro r
    induction r with
    | zero =>
      intro i hi H locs hP hD hS ls hl
      have hzz : n = i := by omega
      subst hzz
      refine lv_iload_n hx hb dX5_copyRow_2 rfl (lv_at hl 0 rfl) ?_
      refine lv_aload_n hx hb dX5_copyRow_3 rfl (lv_at hl 1 rfl) ?_
      refine va_alen hx hb hK.1 hP 0 0 (v := nI n) rfl rfl rfl dX5_copyRow_4 ?_
      refine lv_icmp_ge (tgt := 24) hx hb dX5_copyRow_5 (by decide) (fun c1 => ?_) (fun c1 => absurd (nI_le (Nat.le_refl _) hn) c1)
      exact ret_WV hQ hx hb hr hlk hAe () hP hS trivial dX5_copyRow_24
    | succ r ih_2 =>
      intro i hi H locs hP hD hS ls hl
      refine lv_iload_n hx hb dX5_copyRow_2 rfl (lv_at hl 0 rfl) ?_
      refine lv_aload_n hx hb dX5_copyRow_3 rfl (lv_at hl 1 rfl) ?_
      refine va_alen hx hb hK.1 hP 0 0 (v := nI n) rfl rfl rfl dX5_copyRow_4 ?_
      refine lv_icmp_ge (tgt := 24) hx hb dX5_copyRow_5 (by decide) (fun c2 => absurd c2 ((nI_ge (a := i) (b := n) (by omega) (by omega)))) (fun c2 => ?_)
      refine lv_aload_n hx hb dX5_copyRow_8 rfl (lv_at hl 2 rfl) ?_
      refine lv_iload_n hx hb dX5_copyRow_9 rfl (lv_at hl 0 rfl) ?_
      refine lv_aload_n hx hb dX5_copyRow_10 rfl (lv_at hl 1 rfl) ?_
      refine lv_iload_n hx hb dX5_copyRow_11 rfl (lv_at hl 0 rfl) ?_
      refine rd_i (va_runS (As := [.ref q0, .int (nI i)]) (rest := [.int (nI i), .ref q1]) ⟨hx, hb, hml, hown, hts⟩ (c_X5_at_in l D cI cZ q0 n f i (by omega) hn) (va_cwS 2 hts gX5_copyRow_X5_at rfl rfl rfl hdV_X5_at.2 ⟨Nat.le_of_ble_eq_true rfl, Nat.le_of_ble_eq_true rfl⟩) (PR.S (hP.sub [0] rfl) hK) rfl rfl hl.1 rfl (lv_room (Nat.le_of_ble_eq_true rfl)) dX5_copyRow_12 ⟨Nat.le_of_ble_eq_true rfl, Nat.le_of_ble_eq_true rfl⟩) hP hS (fun H locs hP hS => ?_)
      refine wr_v (va_runS (As := [.ref q1, .int (nI i), .int (f i)]) (rest := []) ⟨hx, hb, hml, hown, hts⟩ (c_X5_put_in l D cI cZ q1 n (cpyF f g i) i (f i) (by omega) hn) (va_cwS 3 hts gX5_copyRow_X5_put rfl rfl rfl hdV_X5_put.2 ⟨Nat.le_of_ble_eq_true rfl, Nat.le_of_ble_eq_true rfl⟩) (PW.S (hP.sub [1] rfl) hK ((hD.sub [1] (by decide) rfl).weaken (fun _ _ _ _ => trivial))) rfl rfl hl.1 rfl (lv_room (Nat.le_of_ble_eq_true rfl)) dX5_copyRow_15 ⟨Nat.le_of_ble_eq_true rfl, Nat.le_of_ble_eq_true rfl⟩) hP hD hS [1] rfl (fun _ => rfl) (fun u3 H locs hu3 hP hD hS => ?_)
      have hP : va_P D vwCl [(q0, .inl (cI, n, .inl f)), (q1, .inl (cI, n, .inl (upd (cpyF f g i) i (f i))))] H := hP
      have hD : va_D A [(q0, .inl (cI, n, .inl f)), (q1, .inl (cI, n, .inl (upd (cpyF f g i) i (f i))))] := hD
      have hP : va_P D vwCl [(q0, .inl (cI, n, .inl f)), (q1, .inl (cI, n, .inl (cpyF f g (i + 1))))] H := by rw [← (show upd (cpyF f g i) i (f i) = cpyF f g (i + 1) from cpyF_upd f g i)]; exact hP
      have hD : va_D A [(q0, .inl (cI, n, .inl f)), (q1, .inl (cI, n, .inl (cpyF f g (i + 1))))] := va_D_fst hD (by simp only [List.map_cons, List.map_nil])
      refine lv_iinc (v := nI (i + 1)) (lv' := [(2, .int (nI (i + 1))), (0, .ref q0), (1, .ref q1)]) hx hb dX5_copyRow_18 hl (k := 0) rfl (iinc_1 i) (by decide) rfl (fun ls hl => ?_)
      refine lv_goto (tgt := 2) hx hb dX5_copyRow_21 (by decide) ?_
      exact ih_2 (i + 1) (by omega) _ _ hP hD hS ls (lv_sub hl [0, 1, 2] rfl)
  exact lp_2 n 0 (by omega) _ _ hP hD hS ls (lv_sub hl [0, 1, 2] rfl)

set_option maxHeartbeats 4000000 in
set_option maxRecDepth 100000 in
theorem c_X5_rowDifferences (l : Launch) (D : va_G) (cI cZ : ClassId) (q0 : Nat) (q1 : Nat) (n : Nat) (f : Nat → Int32) (g : Nat → Int32) (na : Nat) (nb : Nat) (hn : n < 2147483648) (ha : na ≤ n) (hbn : nb ≤ n) : Met l yX5_rowDifferences wsX5_rowDifferences rmX5_rowDifferences (va_Pc [.ref q0, .int (nI na), .ref q1, .int (nI nb)] (PR D cI cZ [(q0, .inl (cI, n, .inl f)), (q1, .inl (cI, n, .inl g))])) (RI (fRowD f g na nb)) 0 0 nA := by
  refine met_go (cc := cX5_rowDifferences) (maxL := 7) (ret := (some .int)) (by decide) rfl ?_ (Nat.le_of_ble_eq_true rfl)
  intro p e s m a below meth c Q hQ _ hx hb hr hml hts hown hlk hnm hpre ls hl
  have hown : s.vm.findClass RX5 = some m.cls := hown
  obtain ⟨hP, hK⟩ := hpre
  have hN := hK.2
  have hS : va_S nA s.heap s.heap [] := va_S.rf
  have hl : lv_has ls 7 [(0, .ref q0), (1, .int (nI na)), (2, .ref q1), (3, .int (nI nb))] := hl
  refine lv_iload_n hx hb dX5_rowDifferences_0 rfl (lv_at hl 1 rfl) ?_
  refine lv_iload_n hx hb dX5_rowDifferences_1 rfl (lv_at hl 3 rfl) ?_
  refine va_mmin hx hb (hml.trans hl.1.symm) hown (hts (.methodLink RX5 257 Lib.Math.min.name) (List.mem_of_getElem? (i := 1) rfl)) (hts (.static Lib.Math.min.name) (List.mem_of_getElem? (i := 2) rfl)) (hts (.initialized "java/lang/Math") (List.mem_of_getElem? (i := 3) rfl)) (hts (.code Lib.Math.min.name Lib.Math.min.code 2 (some .int)) (List.mem_of_getElem? (i := 4) rfl)) (Nat.le_of_ble_eq_true rfl) (Nat.le_of_ble_eq_true rfl) (Nat.le_of_ble_eq_true rfl) (Nat.le_of_ble_eq_true rfl) dX5_rowDifferences_2 ?_
  refine lv_eqi (y := nI (min na nb)) (fMin_eq (by omega) (by omega)) ?_
  refine lv_istore (lv' := [(4, .int (nI (min na nb))), (0, .ref q0), (1, .int (nI na)), (2, .ref q1), (3, .int (nI nb))]) hx hb dX5_rowDifferences_5 hl (by decide) rfl (fun ls hl => ?_)
  refine lv_iload_n hx hb dX5_rowDifferences_7 rfl (lv_at hl 2 rfl) ?_
  refine lv_iload_n hx hb dX5_rowDifferences_8 rfl (lv_at hl 4 rfl) ?_
  refine va_mmax hx hb (hml.trans hl.1.symm) hown (hts (.methodLink RX5 231 Lib.Math.max.name) (List.mem_of_getElem? (i := 5) rfl)) (hts (.static Lib.Math.max.name) (List.mem_of_getElem? (i := 6) rfl)) (hts (.initialized "java/lang/Math") (List.mem_of_getElem? (i := 3) rfl)) (hts (.code Lib.Math.max.name Lib.Math.max.code 2 (some .int)) (List.mem_of_getElem? (i := 7) rfl)) (Nat.le_of_ble_eq_true rfl) (Nat.le_of_ble_eq_true rfl) (Nat.le_of_ble_eq_true rfl) (Nat.le_of_ble_eq_true rfl) dX5_rowDifferences_9 ?_
  refine lv_iload hx hb dX5_rowDifferences_12 (lv_at hl 0 rfl) ?_
  refine lv_isub hx hb dX5_rowDifferences_14 ?_
  refine lv_eqi (y := fRowD0 na nb) rfl ?_
  refine lv_istore (lv' := [(5, .int (fRowD0 na nb)), (4, .int (nI (min na nb))), (0, .ref q0), (1, .int (nI na)), (2, .ref q1), (3, .int (nI nb))]) hx hb dX5_rowDifferences_15 hl (by decide) rfl (fun ls hl => ?_)
  refine lv_iconst (v := 0) hx hb dX5_rowDifferences_17 (by decide) ?_
  refine lv_istore (lv' := [(6, .int 0), (5, .int (fRowD0 na nb)), (4, .int (nI (min na nb))), (0, .ref q0), (1, .int (nI na)), (2, .ref q1), (3, .int (nI nb))]) hx hb dX5_rowDifferences_18 hl (by decide) rfl (fun ls hl => ?_)
  have lp_20 : ∀ (r : Nat) (i : Nat) (z : Int32), (i + r = min na nb) → (fRowD f g na nb = fDiff f g r i z) → ∀ (H : Heap) (locs : List Loc), va_P D vwCl [(q0, .inl (cI, n, .inl f)), (q1, .inl (cI, n, .inl g))] H → va_S nA s.heap H locs → ∀ (ls : Array Slot), lv_has ls 7 [(6, .int (nI i)), (5, .int z), (4, .int (nI (min na nb))), (0, .ref q0), (1, .int (nI na)), (2, .ref q1), (3, .int (nI nb))] → W p l e rmX5_rowDifferences s m a below meth c H locs 0 0 Q (F0 m 20 ls []) := by
    intro r
    induction r with
    | zero =>
      intro i z hi hF H locs hP hS ls hl
      refine lv_iload hx hb dX5_rowDifferences_20 (lv_at hl 0 rfl) ?_
      refine lv_iload hx hb dX5_rowDifferences_22 (lv_at hl 2 rfl) ?_
      refine lv_icmp_ge (tgt := 51) hx hb dX5_rowDifferences_24 (by decide) (fun c1 => ?_) (fun c1 => absurd ((nI_le (a := (min na nb)) (b := i) (by omega) (by omega))) c1)
      refine lv_iload hx hb dX5_rowDifferences_51 (lv_at hl 1 rfl) ?_
      exact ret_RI hQ hx hb hr hlk hS (hF.trans (by first | with_reducible rfl | (simp only [fRowD, fDiff, if_pos c1]; done) | (simp [fRowD, fDiff, if_pos c1]; done))).symm dX5_rowDifferences_53
    | succ r ih_20 =>
      intro i z hi hF H locs hP hS ls hl
      refine lv_iload hx hb dX5_rowDifferences_20 (lv_at hl 0 rfl) ?_
      refine lv_iload hx hb dX5_rowDifferences_22 (lv_at hl 2 rfl) ?_
      refine lv_icmp_ge (tgt := 51) hx hb dX5_rowDifferences_24 (by decide) (fun c2 => absurd c2 ((nI_ge (a := i) (b := (min na nb)) (by omega) (by omega)))) (fun c2 => ?_)
      refine lv_aload_n hx hb dX5_rowDifferences_27 rfl (lv_at hl 3 rfl) ?_
      refine lv_iload hx hb dX5_rowDifferences_28 (lv_at hl 0 rfl) ?_
      refine rd_i (va_runS (As := [.ref q0, .int (nI i)]) (rest := []) ⟨hx, hb, hml, hown, hts⟩ (c_X5_at_in l D cI cZ q0 n f i (by omega) (by first | omega | exact hn)) (va_cwS 2 hts gX5_rowDifferences_X5_at rfl rfl rfl hdV_X5_at.2 ⟨Nat.le_of_ble_eq_true rfl, Nat.le_of_ble_eq_true rfl⟩) (PR.S (hP.sub [0] rfl) hK) rfl rfl hl.1 rfl (lv_room (Nat.le_of_ble_eq_true rfl)) dX5_rowDifferences_30 ⟨Nat.le_of_ble_eq_true rfl, Nat.le_of_ble_eq_true rfl⟩) hP hS (fun H locs hP hS => ?_)
      refine lv_aload_n hx hb dX5_rowDifferences_33 rfl (lv_at hl 5 rfl) ?_
      refine lv_iload hx hb dX5_rowDifferences_34 (lv_at hl 0 rfl) ?_
      refine rd_i (va_runS (As := [.ref q1, .int (nI i)]) (rest := [.int (f i)]) ⟨hx, hb, hml, hown, hts⟩ (c_X5_at_in l D cI cZ q1 n g i (by omega) (by first | omega | exact hn)) (va_cwS 2 hts gX5_rowDifferences_X5_at rfl rfl rfl hdV_X5_at.2 ⟨Nat.le_of_ble_eq_true rfl, Nat.le_of_ble_eq_true rfl⟩) (PR.S (hP.sub [1] rfl) hK) rfl rfl hl.1 rfl (lv_room (Nat.le_of_ble_eq_true rfl)) dX5_rowDifferences_36 ⟨Nat.le_of_ble_eq_true rfl, Nat.le_of_ble_eq_true rfl⟩) hP hS (fun H locs hP hS => ?_)
      refine lv_icmp_eq (tgt := 45) hx hb dX5_rowDifferences_39 (by decide) (fun c3 => ?_) (fun c3 => ?_)
      · skip
        refine lv_iinc (v := nI (i + 1)) (lv' := [(6, .int (nI (i + 1))), (5, .int z), (4, .int (nI (min na nb))), (0, .ref q0), (1, .int (nI na)), (2, .ref q1), (3, .int (nI nb))]) hx hb dX5_rowDifferences_45 hl (k := 0) rfl (iinc_1 i) (by decide) rfl (fun ls hl => ?_)
        refine lv_goto (tgt := 20) hx hb dX5_rowDifferences_48 (by decide) ?_
        exact ih_20 (i + 1) z (by omega) (hF.trans (by first | with_reducible rfl | (simp only [fRowD, fDiff, if_neg c2, if_pos c3]; done) | (simp [fRowD, fDiff, if_neg c2, if_pos c3]; done))) _ _ hP hS ls (lv_sub hl [0, 1, 2, 3, 4, 5, 6] rfl)
      · skip
        refine lv_iinc (v := z + 1) (lv' := [(5, .int (z + 1)), (6, .int (nI i)), (4, .int (nI (min na nb))), (0, .ref q0), (1, .int (nI na)), (2, .ref q1), (3, .int (nI nb))]) hx hb dX5_rowDifferences_42 hl (k := 1) rfl rfl (by decide) rfl (fun ls hl => ?_)
        refine lv_iinc (v := nI (i + 1)) (lv' := [(6, .int (nI (i + 1))), (5, .int (z + 1)), (4, .int (nI (min na nb))), (0, .ref q0), (1, .int (nI na)), (2, .ref q1), (3, .int (nI nb))]) hx hb dX5_rowDifferences_45 hl (k := 1) rfl (iinc_1 i) (by decide) rfl (fun ls hl => ?_)
        refine lv_goto (tgt := 20) hx hb dX5_rowDifferences_48 (by decide) ?_
        exact ih_20 (i + 1) (z + 1) (by omega) (hF.trans (by first | with_reducible rfl | (simp only [fRowD, fDiff, if_neg c2, if_neg c3]; done) | (simp [fRowD, fDiff, if_neg c2, if_neg c3]; done))) _ _ hP hS ls (lv_sub hl [0, 1, 2, 3, 4, 5, 6] rfl)
  exact lp_20 (min na nb) 0 (fRowD0 na nb) (by omega) rfl _ _ hP hS ls (lv_sub hl [0, 1, 2, 3, 4, 5, 6] rfl)
