set_option maxHeartbeats 4000000 in
set_option maxRecDepth 100000 in
theorem c_X6_sine (l : Launch) (D : va_G) (cI cZ : ClassId) (mm : Nat) (m1 : Nat) (m2 : Nat) (m3 : Nat) (m4 : Nat) (m5 : Nat) (m6 : Nat) (m7 : Nat) (m8 : Nat) (m9 : Nat) (np : Nat) (nh : Nat) (nn : Nat) (re : Int32) (ro : Int32) (tm : Int32) (x : Int32)  : Met l yX6_sine wsX6_sine rmX6_sine (va_Pc [.ref mm, .int x] (PR D cI cZ [(mm, .inr (6, [.int (nI np), .ref m1, .ref m2, .int (nI nh), .ref m3, .ref m4, .int (nI nn), .ref m5, .ref m6, .ref m7, .ref m8, .int re, .int ro, .ref m9, .int tm]))])) (RI (mSineP x)) 0 0 nA := by
  refine met_go (cc := cX6_sine) (maxL := 2) (ret := (some .int)) (by decide) rfl ?_ (Nat.le_of_ble_eq_true rfl)
  intro p e s m a below meth c Q hQ _ hx hb hr hml hts hown hlk hnm hpre ls hl
  have hown : s.vm.findClass RX6 = some m.cls := hown
  obtain ⟨hP, hK⟩ := hpre
  have hN := hK.2
  have hS : va_S nA s.heap s.heap [] := va_S.rf
  have hl : lv_has ls 2 [(0, .ref mm), (1, .int x)] := hl
  refine lv_iload_n hx hb dX6_sine_0 rfl (lv_at hl 1 rfl) ?_
  refine lv_i2l hx hb dX6_sine_1 rfl ?_
  refine lv_lconst (v := 0) hx hb dX6_sine_2 (by decide) ?_
  refine lv_ldc2 hx hb hown (hts (.constantLong RX6 109 (65535)) (List.mem_of_getElem? (i := 1) rfl)) dX6_sine_3 ?_
  refine rd_i (va_runS (As := [.long x.toInt64, .long 0, .long 65535]) (rest := []) ⟨hx, hb, hml, hown, hts⟩ (c_X6_in l D cI cZ x.toInt64 0 65535) (va_cwS 3 hts gX6_sine_X6_in rfl rfl rfl hdV_X6_in.2 ⟨Nat.le_of_ble_eq_true rfl, Nat.le_of_ble_eq_true rfl⟩) (PR.S (hP.sub [] rfl) hK) rfl rfl hl.1 rfl (lv_room (Nat.le_of_ble_eq_true rfl)) dX6_sine_6 ⟨Nat.le_of_ble_eq_true rfl, Nat.le_of_ble_eq_true rfl⟩) hP hS (fun H locs hP hS => ?_)
  refine lv_if_eq (tgt := 20) hx hb dX6_sine_9 (by decide) (fun c1 => ?_) (fun c1 => ?_)
  · skip
    refine lv_sipush (v := (-1002)) hx hb dX6_sine_20 (by decide) ?_
    exact ret_RI hQ hx hb hr hlk hS (show mSineP x = (-1002) from (by first | with_reducible rfl | (simp only [mSineP, if_pos c1]; done) | (simp [mSineP, if_pos c1]; done))).symm dX6_sine_23
  · skip
    refine lv_iload_n hx hb dX6_sine_12 rfl (lv_at hl 1 rfl) ?_
    refine rd_l (va_runS (As := [.int x]) (rest := []) ⟨hx, hb, hml, hown, hts⟩ (c_X6_sineOf l D cI cZ x) (va_cwS 1 hts gX6_sine_X6_sineOf rfl rfl rfl hdV_X6_sineOf.2 ⟨Nat.le_of_ble_eq_true rfl, Nat.le_of_ble_eq_true rfl⟩) (PR.S (hP.sub [] rfl) hK) rfl rfl hl.1 rfl (lv_room (Nat.le_of_ble_eq_true rfl)) dX6_sine_13 ⟨Nat.le_of_ble_eq_true rfl, Nat.le_of_ble_eq_true rfl⟩) hP hS (fun H locs hP hS => ?_)
    refine lv_l2i hx hb dX6_sine_16 rfl ?_
    refine lv_goto (tgt := 23) hx hb dX6_sine_17 (by decide) ?_
    exact ret_RI hQ hx hb hr hlk hS (show mSineP x = (mSine x).toInt32 from (by first | with_reducible rfl | (simp only [mSineP, if_neg c1]; done) | (simp [mSineP, if_neg c1]; done))).symm dX6_sine_23

set_option maxHeartbeats 4000000 in
set_option maxRecDepth 100000 in
theorem c_X6_worth (l : Launch) (D : va_G) (cI cZ : ClassId) (mm : Nat) (m1 : Nat) (m2 : Nat) (m3 : Nat) (m4 : Nat) (m5 : Nat) (m6 : Nat) (m7 : Nat) (m8 : Nat) (m9 : Nat) (np : Nat) (nh : Nat) (nn : Nat) (re : Int32) (ro : Int32) (tm : Int32) (ln : Nat → Int32) (bo : Nat → Int32) (bd : Nat → Int32) (en : Nat → Int32) (f : Int32) (w : Int32) (hnp : np ≤ 12) (hnh : nh ≤ 6) (hM : 1 ≤ np → MH ln bo bd np nh) : Met l yX6_worth wsX6_worth rmX6_worth (va_Pc [.ref mm, .int f, .int w] (PR D cI cZ [(mm, .inr (6, [.int (nI np), .ref m1, .ref m2, .int (nI nh), .ref m3, .ref m4, .int (nI nn), .ref m5, .ref m6, .ref m7, .ref m8, .int re, .int ro, .ref m9, .int tm])), (m1, .inl (cI, 12, .inl ln)), (m2, .inl (cI, 12, .inl bo)), (m3, .inl (cI, 18, .inl bd)), (m4, .inl (cI, 2, .inl en))])) (RJ (mWorthP (mWorth ln bo bd np nh (en 0) (en 1)) f w np)) 0 0 nA := by
  refine met_go (cc := cX6_worth) (maxL := 3) (ret := (some .long)) (by decide) rfl ?_ (Nat.le_of_ble_eq_true rfl)
  intro p e s m a below meth c Q hQ _ hx hb hr hml hts hown hlk hnm hpre ls hl
  have hown : s.vm.findClass RX6 = some m.cls := hown
  obtain ⟨hP, hK⟩ := hpre
  have hN := hK.2
  have hS : va_S nA s.heap s.heap [] := va_S.rf
  have hl : lv_has ls 3 [(0, .ref mm), (1, .int f), (2, .int w)] := hl
  have k6 : ∀ w ∈ wsX60, w ∈ wsX6_worth := fun w h => List.mem_cons_of_mem _ (List.mem_append_right _ h)
  refine lv_iload_n hx hb dX6_worth_0 rfl (lv_at hl 1 rfl) ?_
  refine lv_i2l hx hb dX6_worth_1 rfl ?_
  refine lv_lconst (v := 1) hx hb dX6_worth_2 (by decide) ?_
  refine lv_ldc2 hx hb hown (hts (.constantLong RX6 135 (300)) (List.mem_of_getElem? (i := 1) rfl)) dX6_worth_3 ?_
  refine rd_i (va_runS (As := [.long f.toInt64, .long 1, .long 300]) (rest := []) ⟨hx, hb, hml, hown, hts⟩ (c_X6_in l D cI cZ f.toInt64 1 300) (va_cwS 3 hts gX6_worth_X6_in rfl rfl rfl hdV_X6_in.2 ⟨Nat.le_of_ble_eq_true rfl, Nat.le_of_ble_eq_true rfl⟩) (PR.S (hP.sub [] rfl) hK) rfl rfl hl.1 rfl (lv_room (Nat.le_of_ble_eq_true rfl)) dX6_worth_6 ⟨Nat.le_of_ble_eq_true rfl, Nat.le_of_ble_eq_true rfl⟩) hP hS (fun H locs hP hS => ?_)
  refine lv_if_eq (tgt := 19) hx hb dX6_worth_9 (by decide) (fun c1 => ?_) (fun c1 => ?_)
  · skip
    refine lv_ldc2 hx hb hown (hts (.constantLong RX6 140 (-1002)) (List.mem_of_getElem? (i := 2) rfl)) dX6_worth_19 ?_
    exact ret_RJ hQ hx hb hr hlk hS (show mWorthP (mWorth ln bo bd np nh (en 0) (en 1)) f w np = (-1002) from (by first | with_reducible rfl | (simp only [mWorthP, if_pos c1]; done) | (simp [mWorthP, if_pos c1]; done))).symm dX6_worth_22
  · skip
    have hf0 := c1
    refine lv_iload_n hx hb dX6_worth_12 rfl (lv_at hl 2 rfl) ?_
    refine rd_i (va_runS (As := [.int w]) (rest := []) ⟨hx, hb, hml, hown, hts⟩ (c_X6_isSet l D cI cZ w) (va_cwS 1 hts gX6_worth_X6_isSet rfl rfl rfl hdV_X6_isSet.2 ⟨Nat.le_of_ble_eq_true rfl, Nat.le_of_ble_eq_true rfl⟩) (PR.S (hP.sub [] rfl) hK) rfl rfl hl.1 rfl (lv_room (Nat.le_of_ble_eq_true rfl)) dX6_worth_13 ⟨Nat.le_of_ble_eq_true rfl, Nat.le_of_ble_eq_true rfl⟩) hP hS (fun H locs hP hS => ?_)
    refine lv_if_ne (tgt := 23) hx hb dX6_worth_16 (by decide) (fun c2 => ?_) (fun c2 => ?_)
    · skip
      refine lv_aload_n hx hb dX6_worth_23 rfl (lv_at hl 0 rfl) ?_
      refine va_get (D := D) (ci := 6) (v := .int (nI np)) (C := RX6) (T := TX6) (N := 15) hx hb hts k6 hown hK.1 hP 0 rfl rfl 0 (by decide) (hts (.fieldLink RX6 42 "BoredPipesModel" "pieces" "I") (List.mem_of_getElem? (i := 3) rfl)) (fun _ h9 => h9) rfl dX6_worth_24 ?_
      refine lv_if_ne (tgt := 36) hx hb dX6_worth_27 (by decide) (fun c3 => ?_) (fun c3 => ?_)
      · skip
        have hn1 : 1 ≤ np := nI_n0 c3
        have hMM := hM hn1
        obtain ⟨F, hF1, hF3, rfl⟩ := fInL_rng (a := 1) (b := 300) hf0 (by decide) (by decide)
        refine lv_aload_n hx hb dX6_worth_36 rfl (lv_at hl 0 rfl) ?_
        refine lv_iload_n hx hb dX6_worth_37 rfl (lv_at hl 1 rfl) ?_
        refine lv_iload_n hx hb dX6_worth_38 rfl (lv_at hl 2 rfl) ?_
        refine rd_l (va_runV (As := [.int (nI F), .int w]) (rest := []) ⟨hx, hb, hml, hown, hts⟩ (c_X6_worthOf l D cI cZ mm m1 m2 m3 m4 m5 m6 m7 m8 m9 np nh nn re ro tm ln bo bd en (nI F) w (by first | omega | exact hnp) (by first | omega | exact hnh) hn1 hMM.1 hMM.2.1 hMM.2.2.1 (fun j hj => hMM.2.2.2 F j (by omega) (by omega) hj)) (cwV 2 hts gX6_worth_X6_worthOf rfl rfl rfl hdV_X6_worthOf ⟨Nat.le_of_ble_eq_true rfl, Nat.le_of_ble_eq_true rfl⟩) (PR.V hP hK hP (q0 := 0) rfl rfl) rfl rfl hl.1 rfl (lv_room (Nat.le_of_ble_eq_true rfl)) dX6_worth_39 ⟨Nat.le_of_ble_eq_true rfl, Nat.le_of_ble_eq_true rfl⟩) hP hS (fun H locs hP hS => ?_)
        exact ret_RJ hQ hx hb hr hlk hS (show mWorthP (mWorth ln bo bd np nh (en 0) (en 1)) (nI F) w np = mWorth ln bo bd np nh (en 0) (en 1) w (nI F) from (by first | with_reducible rfl | (simp only [mWorthP, if_neg c1, if_neg c2, if_neg c3]; done) | (simp [mWorthP, if_neg c1, if_neg c2, if_neg c3]; done))).symm dX6_worth_42
      · skip
        refine lv_ldc2 hx hb hown (hts (.constantLong RX6 142 (-1003)) (List.mem_of_getElem? (i := 4) rfl)) dX6_worth_30 ?_
        refine lv_goto (tgt := 42) hx hb dX6_worth_33 (by decide) ?_
        exact ret_RJ hQ hx hb hr hlk hS (show mWorthP (mWorth ln bo bd np nh (en 0) (en 1)) f w np = (-1003) from (by first | with_reducible rfl | (simp only [mWorthP, if_neg c1, if_neg c2, if_pos c3]; done) | (simp [mWorthP, if_neg c1, if_neg c2, if_pos c3]; done))).symm dX6_worth_42
    · skip
      refine lv_ldc2 hx hb hown (hts (.constantLong RX6 140 (-1002)) (List.mem_of_getElem? (i := 2) rfl)) dX6_worth_19 ?_
      exact ret_RJ hQ hx hb hr hlk hS (show mWorthP (mWorth ln bo bd np nh (en 0) (en 1)) f w np = (-1002) from (by first | with_reducible rfl | (simp only [mWorthP, if_neg c1, if_pos c2]; done) | (simp [mWorthP, if_neg c1, if_pos c2]; done))).symm dX6_worth_22

set_option maxHeartbeats 4000000 in
set_option maxRecDepth 100000 in
theorem c_X6_tone (l : Launch) (D : va_G) (cI cZ : ClassId) (mm : Nat) (m1 : Nat) (m2 : Nat) (m3 : Nat) (m4 : Nat) (m5 : Nat) (m6 : Nat) (m7 : Nat) (m8 : Nat) (m9 : Nat) (np : Nat) (nh : Nat) (nn : Nat) (re : Int32) (ro : Int32) (tm : Int32) (ln : Nat → Int32) (bo : Nat → Int32) (bd : Nat → Int32) (en : Nat → Int32) (w : Int32) (k : Int32) (hnp : np ≤ 12) (hnh : nh ≤ 6) (hM : 1 ≤ np → MH ln bo bd np nh) : Met l yX6_tone wsX6_tone rmX6_tone (va_Pc [.ref mm, .int w, .int k] (PW D cI cZ [(mm, .inr (6, [.int (nI np), .ref m1, .ref m2, .int (nI nh), .ref m3, .ref m4, .int (nI nn), .ref m5, .ref m6, .ref m7, .ref m8, .int re, .int ro, .ref m9, .int tm])), (m1, .inl (cI, 12, .inl ln)), (m2, .inl (cI, 12, .inl bo)), (m3, .inl (cI, 18, .inl bd)), (m4, .inl (cI, 2, .inl en))])) (WI (S := Int32) D (fun zr tv => zr = mToneP (mWorth ln bo bd np nh (en 0) (en 1)) w k np) (fun tv => [(mm, .inr (6, [.int (nI np), .ref m1, .ref m2, .int (nI nh), .ref m3, .ref m4, .int (nI nn), .ref m5, .ref m6, .ref m7, .ref m8, .int re, .int ro, .ref m9, .int tv])), (m1, .inl (cI, 12, .inl ln)), (m2, .inl (cI, 12, .inl bo)), (m3, .inl (cI, 18, .inl bd)), (m4, .inl (cI, 2, .inl en))]) [(mm, .inr (6, [.int (nI np), .ref m1, .ref m2, .int (nI nh), .ref m3, .ref m4, .int (nI nn), .ref m5, .ref m6, .ref m7, .ref m8, .int re, .int ro, .ref m9, .int tm])), (m1, .inl (cI, 12, .inl ln)), (m2, .inl (cI, 12, .inl bo)), (m3, .inl (cI, 18, .inl bd)), (m4, .inl (cI, 2, .inl en))]) 0 0 (ad [(mm, .inr (6, [.int (nI np), .ref m1, .ref m2, .int (nI nh), .ref m3, .ref m4, .int (nI nn), .ref m5, .ref m6, .ref m7, .ref m8, .int re, .int ro, .ref m9, .int tm])), (m1, .inl (cI, 12, .inl ln)), (m2, .inl (cI, 12, .inl bo)), (m3, .inl (cI, 18, .inl bd)), (m4, .inl (cI, 2, .inl en))]) := by
  refine met_go (cc := cX6_tone) (maxL := 4) (ret := (some .int)) (by decide) rfl ?_ (Nat.le_of_ble_eq_true rfl)
  intro p e s m a below meth c Q hQ _ hx hb hr hml hts hown hlk hnm hpre ls hl
  have hown : s.vm.findClass RX6 = some m.cls := hown
  obtain ⟨hP, hK, hD0⟩ := hpre
  have hN := hK.2
  obtain ⟨A, hAe⟩ : ∃ A : Nat → Prop, A = ad [(mm, .inr (6, [.int (nI np), .ref m1, .ref m2, .int (nI nh), .ref m3, .ref m4, .int (nI nn), .ref m5, .ref m6, .ref m7, .ref m8, .int re, .int ro, .ref m9, .int tm])), (m1, .inl (cI, 12, .inl ln)), (m2, .inl (cI, 12, .inl bo)), (m3, .inl (cI, 18, .inl bd)), (m4, .inl (cI, 2, .inl en))] := ⟨_, rfl⟩
  have hD : va_D A [(mm, .inr (6, [.int (nI np), .ref m1, .ref m2, .int (nI nh), .ref m3, .ref m4, .int (nI nn), .ref m5, .ref m6, .ref m7, .ref m8, .int re, .int ro, .ref m9, .int tm])), (m1, .inl (cI, 12, .inl ln)), (m2, .inl (cI, 12, .inl bo)), (m3, .inl (cI, 18, .inl bd)), (m4, .inl (cI, 2, .inl en))] := by rw [hAe]; exact hD0.ad
  have hS : va_S A s.heap s.heap [] := va_S.rf
  have hl : lv_has ls 4 [(0, .ref mm), (1, .int w), (2, .int k)] := hl
  have k6 : ∀ w ∈ wsX60, w ∈ wsX6_tone := fun w h => List.mem_cons_of_mem _ (List.mem_append_right _ h)
  refine lv_iload_n hx hb dX6_tone_0 rfl (lv_at hl 1 rfl) ?_
  refine rd_i (va_runS (As := [.int w]) (rest := []) ⟨hx, hb, hml, hown, hts⟩ (c_X6_isSet l D cI cZ w) (va_cwS 1 hts gX6_tone_X6_isSet rfl rfl rfl hdV_X6_isSet.2 ⟨Nat.le_of_ble_eq_true rfl, Nat.le_of_ble_eq_true rfl⟩) (PR.S (hP.sub [] rfl) hK) rfl rfl hl.1 rfl (lv_room (Nat.le_of_ble_eq_true rfl)) dX6_tone_1 ⟨Nat.le_of_ble_eq_true rfl, Nat.le_of_ble_eq_true rfl⟩) hP hS (fun H locs hP hS => ?_)
  refine lv_if_eq (tgt := 12) hx hb dX6_tone_4 (by decide) (fun c1 => ?_) (fun c1 => ?_)
  · skip
    refine lv_sipush (v := (-1002)) hx hb dX6_tone_12 (by decide) ?_
    exact ret_WI hQ hx hb hr hlk hAe tm hP hS (show mToneP (mWorth ln bo bd np nh (en 0) (en 1)) w k np = (-1002) from (by first | with_reducible rfl | (simp only [mToneP, if_pos c1]; done) | (simp [mToneP, if_pos c1]; done))).symm dX6_tone_15
  · skip
    refine lv_iload_n hx hb dX6_tone_7 rfl (lv_at hl 2 rfl) ?_
    refine lv_iconst (v := (-1)) hx hb dX6_tone_8 (by decide) ?_
    refine lv_icmp_ge (tgt := 16) hx hb dX6_tone_9 (by decide) (fun c2 => ?_) (fun c2 => ?_)
    · skip
      refine lv_aload_n hx hb dX6_tone_16 rfl (lv_at hl 0 rfl) ?_
      refine va_get (D := D) (ci := 6) (v := .int (nI np)) (C := RX6) (T := TX6) (N := 15) hx hb hts k6 hown hK.1 hP 0 rfl rfl 0 (by decide) (hts (.fieldLink RX6 42 "BoredPipesModel" "pieces" "I") (List.mem_of_getElem? (i := 1) rfl)) (fun _ h9 => h9) rfl dX6_tone_17 ?_
      refine lv_if_ne (tgt := 27) hx hb dX6_tone_20 (by decide) (fun c3 => ?_) (fun c3 => ?_)
      · skip
        refine lv_aload_n hx hb dX6_tone_27 rfl (lv_at hl 0 rfl) ?_
        refine lv_iload_n hx hb dX6_tone_28 rfl (lv_at hl 1 rfl) ?_
        refine lv_iload_n hx hb dX6_tone_29 rfl (lv_at hl 2 rfl) ?_
        refine wr_i0 (va_runV (As := [.int w, .int k]) (rest := []) ⟨hx, hb, hml, hown, hts⟩ (c_X6_toneOf l D cI cZ mm m1 m2 m3 m4 m5 m6 m7 m8 m9 np nh nn re ro tm ln bo bd en w k (by first | omega | exact hnp) (by first | omega | exact hnh) (by first | omega | exact hM)) (cwV 2 hts gX6_tone_X6_toneOf rfl rfl rfl hdV_X6_toneOf ⟨Nat.le_of_ble_eq_true rfl, Nat.le_of_ble_eq_true rfl⟩) (PW.V hP hK (hD.weaken (fun _ _ _ _ => trivial)) hP (q0 := 0) rfl rfl) rfl rfl hl.1 rfl (lv_room (Nat.le_of_ble_eq_true rfl)) dX6_tone_30 ⟨Nat.le_of_ble_eq_true rfl, Nat.le_of_ble_eq_true rfl⟩) hD hS (fun _ => rfl) (fun r5 u4 H locs hu4 hP hD hS => ?_)
        have hu4r := hu4
        subst hu4r
        have hP : va_P D vwCl [(mm, .inr (6, [.int (nI np), .ref m1, .ref m2, .int (nI nh), .ref m3, .ref m4, .int (nI nn), .ref m5, .ref m6, .ref m7, .ref m8, .int re, .int ro, .ref m9, .int ((mToneOf (mWorth ln bo bd np nh (en 0) (en 1) w) k np).2)])), (m1, .inl (cI, 12, .inl ln)), (m2, .inl (cI, 12, .inl bo)), (m3, .inl (cI, 18, .inl bd)), (m4, .inl (cI, 2, .inl en))] H := hP
        have hD : va_D A [(mm, .inr (6, [.int (nI np), .ref m1, .ref m2, .int (nI nh), .ref m3, .ref m4, .int (nI nn), .ref m5, .ref m6, .ref m7, .ref m8, .int re, .int ro, .ref m9, .int ((mToneOf (mWorth ln bo bd np nh (en 0) (en 1) w) k np).2)])), (m1, .inl (cI, 12, .inl ln)), (m2, .inl (cI, 12, .inl bo)), (m3, .inl (cI, 18, .inl bd)), (m4, .inl (cI, 2, .inl en))] := hD
        refine lv_istore_n (lv' := [(3, .int ((mToneOf (mWorth ln bo bd np nh (en 0) (en 1) w) k np).1)), (0, .ref mm), (1, .int w), (2, .int k)]) hx hb dX6_tone_33 rfl hl (by decide) rfl (fun ls hl => ?_)
        refine lv_iload_n hx hb dX6_tone_34 rfl (lv_at hl 3 rfl) ?_
        refine lv_iconst (v := (-1)) hx hb dX6_tone_35 (by decide) ?_
        refine lv_icmp_ne (tgt := 46) hx hb dX6_tone_36 (by decide) (fun c6 => ?_) (fun c6 => ?_)
        · skip
          refine lv_iload_n hx hb dX6_tone_46 rfl (lv_at hl 0 rfl) ?_
          exact ret_WI hQ hx hb hr hlk hAe ((mToneOf (mWorth ln bo bd np nh (en 0) (en 1) w) k np).2) hP hS (show mToneP (mWorth ln bo bd np nh (en 0) (en 1)) w k np = (mToneOf (mWorth ln bo bd np nh (en 0) (en 1) w) k np).1 from (by first | with_reducible rfl | (simp only [mToneP, if_neg c1, if_pos c2, if_neg c3, if_neg c6]; done) | (simp [mToneP, if_neg c1, if_pos c2, if_neg c3, if_neg c6]; done))).symm dX6_tone_47
        · skip
          refine lv_aload_n hx hb dX6_tone_39 rfl (lv_at hl 1 rfl) ?_
          refine va_get (D := D) (ci := 6) (v := .int ((mToneOf (mWorth ln bo bd np nh (en 0) (en 1) w) k np).2)) (C := RX6) (T := TX6) (N := 15) hx hb hts k6 hown hK.1 hP 0 rfl rfl 14 (by decide) (hts (.fieldLink RX6 148 "BoredPipesModel" "toneMany" "I") (List.mem_of_getElem? (i := 2) rfl)) (fun _ h9 => h9) rfl dX6_tone_40 ?_
          refine lv_goto (tgt := 47) hx hb dX6_tone_43 (by decide) ?_
          exact ret_WI hQ hx hb hr hlk hAe ((mToneOf (mWorth ln bo bd np nh (en 0) (en 1) w) k np).2) hP hS (show mToneP (mWorth ln bo bd np nh (en 0) (en 1)) w k np = (mToneOf (mWorth ln bo bd np nh (en 0) (en 1) w) k np).2 from (by first | with_reducible rfl | (simp only [mToneP, if_neg c1, if_pos c2, if_neg c3, if_pos c6]; done) | (simp [mToneP, if_neg c1, if_pos c2, if_neg c3, if_pos c6]; done))).symm dX6_tone_47
      · skip
        refine lv_sipush (v := (-1003)) hx hb dX6_tone_23 (by decide) ?_
        exact ret_WI hQ hx hb hr hlk hAe tm hP hS (show mToneP (mWorth ln bo bd np nh (en 0) (en 1)) w k np = (-1003) from (by first | with_reducible rfl | (simp only [mToneP, if_neg c1, if_pos c2, if_pos c3]; done) | (simp [mToneP, if_neg c1, if_pos c2, if_pos c3]; done))).symm dX6_tone_26
    · skip
      refine lv_sipush (v := (-1002)) hx hb dX6_tone_12 (by decide) ?_
      exact ret_WI hQ hx hb hr hlk hAe tm hP hS (show mToneP (mWorth ln bo bd np nh (en 0) (en 1)) w k np = (-1002) from (by first | with_reducible rfl | (simp only [mToneP, if_neg c1, if_neg c2]; done) | (simp [mToneP, if_neg c1, if_neg c2]; done))).symm dX6_tone_15

set_option maxHeartbeats 4000000 in
set_option maxRecDepth 100000 in
theorem c_X6_nearest (l : Launch) (D : va_G) (cI cZ : ClassId) (mm : Nat) (m1 : Nat) (m2 : Nat) (m3 : Nat) (m4 : Nat) (m5 : Nat) (m6 : Nat) (m7 : Nat) (m8 : Nat) (m9 : Nat) (np : Nat) (nh : Nat) (nn : Nat) (re : Int32) (ro : Int32) (tm : Int32) (ln : Nat → Int32) (bo : Nat → Int32) (bd : Nat → Int32) (en : Nat → Int32) (v : Int32) (y : Int32) (hnp : np ≤ 12) (hnh : nh ≤ 6) (hM : 1 ≤ np → MH ln bo bd np nh) : Met l yX6_nearest wsX6_nearest rmX6_nearest (va_Pc [.ref mm, .int v, .int y] (PW D cI cZ [(mm, .inr (6, [.int (nI np), .ref m1, .ref m2, .int (nI nh), .ref m3, .ref m4, .int (nI nn), .ref m5, .ref m6, .ref m7, .ref m8, .int re, .int ro, .ref m9, .int tm])), (m1, .inl (cI, 12, .inl ln)), (m2, .inl (cI, 12, .inl bo)), (m3, .inl (cI, 18, .inl bd)), (m4, .inl (cI, 2, .inl en))])) (WI (S := Int32) D (fun zr tv => zr = mNearest (mWorth ln bo bd np nh (en 0) (en 1)) v y np nh) (fun tv => [(mm, .inr (6, [.int (nI np), .ref m1, .ref m2, .int (nI nh), .ref m3, .ref m4, .int (nI nn), .ref m5, .ref m6, .ref m7, .ref m8, .int re, .int ro, .ref m9, .int tv])), (m1, .inl (cI, 12, .inl ln)), (m2, .inl (cI, 12, .inl bo)), (m3, .inl (cI, 18, .inl bd)), (m4, .inl (cI, 2, .inl en))]) [(mm, .inr (6, [.int (nI np), .ref m1, .ref m2, .int (nI nh), .ref m3, .ref m4, .int (nI nn), .ref m5, .ref m6, .ref m7, .ref m8, .int re, .int ro, .ref m9, .int tm])), (m1, .inl (cI, 12, .inl ln)), (m2, .inl (cI, 12, .inl bo)), (m3, .inl (cI, 18, .inl bd)), (m4, .inl (cI, 2, .inl en))]) 0 0 (ad [(mm, .inr (6, [.int (nI np), .ref m1, .ref m2, .int (nI nh), .ref m3, .ref m4, .int (nI nn), .ref m5, .ref m6, .ref m7, .ref m8, .int re, .int ro, .ref m9, .int tm])), (m1, .inl (cI, 12, .inl ln)), (m2, .inl (cI, 12, .inl bo)), (m3, .inl (cI, 18, .inl bd)), (m4, .inl (cI, 2, .inl en))]) := by
  refine met_go (cc := cX6_nearest) (maxL := 9) (ret := (some .int)) (by decide) rfl ?_ (Nat.le_of_ble_eq_true rfl)
  intro p e s m a below meth c Q hQ _ hx hb hr hml hts hown hlk hnm hpre ls hl
  have hown : s.vm.findClass RX6 = some m.cls := hown
  obtain ⟨hP, hK, hD0⟩ := hpre
  have hN := hK.2
  obtain ⟨A, hAe⟩ : ∃ A : Nat → Prop, A = ad [(mm, .inr (6, [.int (nI np), .ref m1, .ref m2, .int (nI nh), .ref m3, .ref m4, .int (nI nn), .ref m5, .ref m6, .ref m7, .ref m8, .int re, .int ro, .ref m9, .int tm])), (m1, .inl (cI, 12, .inl ln)), (m2, .inl (cI, 12, .inl bo)), (m3, .inl (cI, 18, .inl bd)), (m4, .inl (cI, 2, .inl en))] := ⟨_, rfl⟩
  have hD : va_D A [(mm, .inr (6, [.int (nI np), .ref m1, .ref m2, .int (nI nh), .ref m3, .ref m4, .int (nI nn), .ref m5, .ref m6, .ref m7, .ref m8, .int re, .int ro, .ref m9, .int tm])), (m1, .inl (cI, 12, .inl ln)), (m2, .inl (cI, 12, .inl bo)), (m3, .inl (cI, 18, .inl bd)), (m4, .inl (cI, 2, .inl en))] := by rw [hAe]; exact hD0.ad
  have hS : va_S A s.heap s.heap [] := va_S.rf
  have hl : lv_has ls 9 [(0, .ref mm), (1, .int v), (2, .int y)] := hl
  have hpw := pow_le64 hnh
  have k6 : ∀ w ∈ wsX60, w ∈ wsX6_nearest := fun w h => List.mem_cons_of_mem _ (List.mem_append_right _ h)
  refine lv_iload_n hx hb dX6_nearest_0 rfl (lv_at hl 1 rfl) ?_
  refine lv_i2l hx hb dX6_nearest_1 rfl ?_
  refine lv_lconst (v := 1) hx hb dX6_nearest_2 (by decide) ?_
  refine lv_ldc2 hx hb hown (hts (.constantLong RX6 135 (300)) (List.mem_of_getElem? (i := 1) rfl)) dX6_nearest_3 ?_
  refine rd_i (va_runS (As := [.long v.toInt64, .long 1, .long 300]) (rest := []) ⟨hx, hb, hml, hown, hts⟩ (c_X6_in l D cI cZ v.toInt64 1 300) (va_cwS 3 hts gX6_nearest_X6_in rfl rfl rfl hdV_X6_in.2 ⟨Nat.le_of_ble_eq_true rfl, Nat.le_of_ble_eq_true rfl⟩) (PR.S (hP.sub [] rfl) hK) rfl rfl hl.1 rfl (lv_room (Nat.le_of_ble_eq_true rfl)) dX6_nearest_6 ⟨Nat.le_of_ble_eq_true rfl, Nat.le_of_ble_eq_true rfl⟩) hP hS (fun H locs hP hS => ?_)
  refine lv_if_eq (tgt := 22) hx hb dX6_nearest_9 (by decide) (fun c1 => ?_) (fun c1 => ?_)
  · skip
    refine lv_sipush (v := (-1002)) hx hb dX6_nearest_22 (by decide) ?_
    exact ret_WI hQ hx hb hr hlk hAe tm hP hS (show mNearest (mWorth ln bo bd np nh (en 0) (en 1)) v y np nh = (-1002) from (by first | with_reducible rfl | (simp only [mNearest, if_pos c1]; done) | (simp [mNearest, if_pos c1]; done))).symm dX6_nearest_25
  · skip
    refine lv_iload_n hx hb dX6_nearest_12 rfl (lv_at hl 2 rfl) ?_
    refine lv_i2l hx hb dX6_nearest_13 rfl ?_
    refine lv_lconst (v := 0) hx hb dX6_nearest_14 (by decide) ?_
    refine lv_lconst (v := 1) hx hb dX6_nearest_15 (by decide) ?_
    refine rd_i (va_runS (As := [.long y.toInt64, .long 0, .long 1]) (rest := []) ⟨hx, hb, hml, hown, hts⟩ (c_X6_in l D cI cZ y.toInt64 0 1) (va_cwS 3 hts gX6_nearest_X6_in rfl rfl rfl hdV_X6_in.2 ⟨Nat.le_of_ble_eq_true rfl, Nat.le_of_ble_eq_true rfl⟩) (PR.S (hP.sub [] rfl) hK) rfl rfl hl.1 rfl (lv_room (Nat.le_of_ble_eq_true rfl)) dX6_nearest_16 ⟨Nat.le_of_ble_eq_true rfl, Nat.le_of_ble_eq_true rfl⟩) hP hS (fun H locs hP hS => ?_)
    refine lv_if_ne (tgt := 26) hx hb dX6_nearest_19 (by decide) (fun c2 => ?_) (fun c2 => ?_)
    · skip
      refine lv_aload_n hx hb dX6_nearest_26 rfl (lv_at hl 0 rfl) ?_
      refine va_get (D := D) (ci := 6) (v := .int (nI np)) (C := RX6) (T := TX6) (N := 15) hx hb hts k6 hown hK.1 hP 0 rfl rfl 0 (by decide) (hts (.fieldLink RX6 42 "BoredPipesModel" "pieces" "I") (List.mem_of_getElem? (i := 2) rfl)) (fun _ h9 => h9) rfl dX6_nearest_27 ?_
      refine lv_if_ne (tgt := 37) hx hb dX6_nearest_30 (by decide) (fun c3 => ?_) (fun c3 => ?_)
      · skip
        refine lv_iconst (v := (-1)) hx hb dX6_nearest_37 (by decide) ?_
        refine lv_istore_n (lv' := [(3, .int (-1)), (0, .ref mm), (1, .int v), (2, .int y)]) hx hb dX6_nearest_38 rfl hl (by decide) rfl (fun ls hl => ?_)
        refine lv_iconst (v := (-1)) hx hb dX6_nearest_39 (by decide) ?_
        refine lv_istore (lv' := [(4, .int (-1)), (3, .int (-1)), (0, .ref mm), (1, .int v), (2, .int y)]) hx hb dX6_nearest_40 hl (by decide) rfl (fun ls hl => ?_)
        refine lv_iconst (v := 0) hx hb dX6_nearest_42 (by decide) ?_
        refine lv_istore (lv' := [(5, .int 0), (4, .int (-1)), (3, .int (-1)), (0, .ref mm), (1, .int v), (2, .int y)]) hx hb dX6_nearest_43 hl (by decide) rfl (fun ls hl => ?_)
        refine lv_iconst (v := 0) hx hb dX6_nearest_45 (by decide) ?_
        refine lv_istore (lv' := [(6, .int 0), (5, .int 0), (4, .int (-1)), (3, .int (-1)), (0, .ref mm), (1, .int v), (2, .int y)]) hx hb dX6_nearest_46 hl (by decide) rfl (fun ls hl => ?_)
        have lp_48 : ∀ (r : Nat) (i : Nat) (b : Int32) (tt : Int32) (nr : Int32) (tz : Int32), (i + r = 2 ^ nh) → (mNr (fun o => (mToneOf ((mWorth ln bo bd np nh (en 0) (en 1)) o) 0 np).1) v (2 ^ nh) 0 (-1) (-1) 0 = mNr (fun o => (mToneOf ((mWorth ln bo bd np nh (en 0) (en 1)) o) 0 np).1) v r i b tt nr) → ∀ (H : Heap) (locs : List Loc), va_P D vwCl [(mm, .inr (6, [.int (nI np), .ref m1, .ref m2, .int (nI nh), .ref m3, .ref m4, .int (nI nn), .ref m5, .ref m6, .ref m7, .ref m8, .int re, .int ro, .ref m9, .int tz])), (m1, .inl (cI, 12, .inl ln)), (m2, .inl (cI, 12, .inl bo)), (m3, .inl (cI, 18, .inl bd)), (m4, .inl (cI, 2, .inl en))] H → va_D A [(mm, .inr (6, [.int (nI np), .ref m1, .ref m2, .int (nI nh), .ref m3, .ref m4, .int (nI nn), .ref m5, .ref m6, .ref m7, .ref m8, .int re, .int ro, .ref m9, .int tz])), (m1, .inl (cI, 12, .inl ln)), (m2, .inl (cI, 12, .inl bo)), (m3, .inl (cI, 18, .inl bd)), (m4, .inl (cI, 2, .inl en))] → va_S A s.heap H locs → ∀ (ls : Array Slot), lv_has ls 9 [(6, .int (nI i)), (5, .int nr), (4, .int tt), (3, .int b), (0, .ref mm), (1, .int v), (2, .int y)] → W p l e rmX6_nearest s m a below meth c H locs 0 0 Q (F0 m 48 ls []) := by
          intro r
          induction r with
          | zero =>
            intro i b tt nr tz hi hF H locs hP hD hS ls hl
            refine lv_iload hx hb dX6_nearest_48 (lv_at hl 0 rfl) ?_
            refine lv_iconst (v := 1) hx hb dX6_nearest_50 (by decide) ?_
            refine lv_aload_n hx hb dX6_nearest_51 rfl (lv_at hl 4 rfl) ?_
            refine va_get (D := D) (ci := 6) (v := .int (nI nh)) (C := RX6) (T := TX6) (N := 15) hx hb hts k6 hown hK.1 hP 0 rfl rfl 3 (by decide) (hts (.fieldLink RX6 67 "BoredPipesModel" "holes" "I") (List.mem_of_getElem? (i := 3) rfl)) (fun _ h9 => h9) rfl dX6_nearest_52 ?_
            refine lv_ishl hx hb dX6_nearest_55 ?_
            refine lv_eqi (y := nI (2 ^ nh)) (shl_pow hnh) ?_
            refine lv_icmp_ge (tgt := 120) hx hb dX6_nearest_56 (by decide) (fun c4 => ?_) (fun c4 => absurd ((nI_le (a := (2 ^ nh)) (b := i) (by omega) (by omega))) c4)
            have hG : mNr (fun o => (mToneOf ((mWorth ln bo bd np nh (en 0) (en 1)) o) 0 np).1) v (2 ^ nh) 0 (-1) (-1) 0 = (b, tt) := hF.trans (by first | with_reducible rfl | (simp only [mNearest, mNr, if_neg c1, if_neg c2, if_neg c3, if_pos c4]; done) | (simp [mNearest, mNr, if_neg c1, if_neg c2, if_neg c3, if_pos c4]; done))
            refine lv_iload_n hx hb dX6_nearest_120 rfl (lv_at hl 6 rfl) ?_
            refine lv_if_ne (tgt := 128) hx hb dX6_nearest_121 (by decide) (fun c5 => ?_) (fun c5 => ?_)
            · skip
              refine lv_iload hx hb dX6_nearest_128 (lv_at hl 2 rfl) ?_
              exact ret_WI hQ hx hb hr hlk hAe tz hP hS (show mNearest (mWorth ln bo bd np nh (en 0) (en 1)) v y np nh = tt from (by first | with_reducible rfl | (simp only [mNearest, mNr, hG, if_neg c1, if_neg c2, if_neg c3, if_pos c4, if_neg c5]; done) | (simp [mNearest, mNr, hG, if_neg c1, if_neg c2, if_neg c3, if_pos c4, if_neg c5]; done))).symm dX6_nearest_130
            · skip
              refine lv_iload_n hx hb dX6_nearest_124 rfl (lv_at hl 3 rfl) ?_
              refine lv_goto (tgt := 130) hx hb dX6_nearest_125 (by decide) ?_
              exact ret_WI hQ hx hb hr hlk hAe tz hP hS (show mNearest (mWorth ln bo bd np nh (en 0) (en 1)) v y np nh = b from (by first | with_reducible rfl | (simp only [mNearest, mNr, hG, if_neg c1, if_neg c2, if_neg c3, if_pos c4, if_pos c5]; done) | (simp [mNearest, mNr, hG, if_neg c1, if_neg c2, if_neg c3, if_pos c4, if_pos c5]; done))).symm dX6_nearest_130
          | succ r ih_48 =>
            intro i b tt nr tz hi hF H locs hP hD hS ls hl
            refine lv_iload hx hb dX6_nearest_48 (lv_at hl 0 rfl) ?_
            refine lv_iconst (v := 1) hx hb dX6_nearest_50 (by decide) ?_
            refine lv_aload_n hx hb dX6_nearest_51 rfl (lv_at hl 4 rfl) ?_
            refine va_get (D := D) (ci := 6) (v := .int (nI nh)) (C := RX6) (T := TX6) (N := 15) hx hb hts k6 hown hK.1 hP 0 rfl rfl 3 (by decide) (hts (.fieldLink RX6 67 "BoredPipesModel" "holes" "I") (List.mem_of_getElem? (i := 3) rfl)) (fun _ h9 => h9) rfl dX6_nearest_52 ?_
            refine lv_ishl hx hb dX6_nearest_55 ?_
            refine lv_eqi (y := nI (2 ^ nh)) (shl_pow hnh) ?_
            refine lv_icmp_ge (tgt := 120) hx hb dX6_nearest_56 (by decide) (fun c6 => absurd c6 ((nI_ge (a := i) (b := (2 ^ nh)) (by omega) (by omega)))) (fun c6 => ?_)
            refine lv_aload_n hx hb dX6_nearest_59 rfl (lv_at hl 4 rfl) ?_
            refine lv_iload hx hb dX6_nearest_60 (lv_at hl 0 rfl) ?_
            refine lv_iconst (v := 0) hx hb dX6_nearest_62 (by decide) ?_
            refine wr_i0 (va_runV (As := [.int (nI i), .int 0]) (rest := []) ⟨hx, hb, hml, hown, hts⟩ (c_X6_toneOf l D cI cZ mm m1 m2 m3 m4 m5 m6 m7 m8 m9 np nh nn re ro tz ln bo bd en (nI i) 0 (by first | omega | exact hnp) (by first | omega | exact hnh) (by first | omega | exact hM)) (cwV 2 hts gX6_nearest_X6_toneOf rfl rfl rfl hdV_X6_toneOf ⟨Nat.le_of_ble_eq_true rfl, Nat.le_of_ble_eq_true rfl⟩) (PW.V hP hK (hD.weaken (fun _ _ _ _ => trivial)) hP (q0 := 0) rfl rfl) rfl rfl hl.1 rfl (lv_room (Nat.le_of_ble_eq_true rfl)) dX6_nearest_63 ⟨Nat.le_of_ble_eq_true rfl, Nat.le_of_ble_eq_true rfl⟩) hD hS (fun _ => rfl) (fun r8 u7 H locs hu7 hP hD hS => ?_)
            have hu7r := hu7
            subst hu7r
            have hP : va_P D vwCl [(mm, .inr (6, [.int (nI np), .ref m1, .ref m2, .int (nI nh), .ref m3, .ref m4, .int (nI nn), .ref m5, .ref m6, .ref m7, .ref m8, .int re, .int ro, .ref m9, .int ((mToneOf (mWorth ln bo bd np nh (en 0) (en 1) (nI i)) 0 np).2)])), (m1, .inl (cI, 12, .inl ln)), (m2, .inl (cI, 12, .inl bo)), (m3, .inl (cI, 18, .inl bd)), (m4, .inl (cI, 2, .inl en))] H := hP
            have hD : va_D A [(mm, .inr (6, [.int (nI np), .ref m1, .ref m2, .int (nI nh), .ref m3, .ref m4, .int (nI nn), .ref m5, .ref m6, .ref m7, .ref m8, .int re, .int ro, .ref m9, .int ((mToneOf (mWorth ln bo bd np nh (en 0) (en 1) (nI i)) 0 np).2)])), (m1, .inl (cI, 12, .inl ln)), (m2, .inl (cI, 12, .inl bo)), (m3, .inl (cI, 18, .inl bd)), (m4, .inl (cI, 2, .inl en))] := hD
            refine lv_istore (lv' := [(7, .int ((mToneOf (mWorth ln bo bd np nh (en 0) (en 1) (nI i)) 0 np).1)), (6, .int (nI i)), (5, .int nr), (4, .int tt), (3, .int b), (0, .ref mm), (1, .int v), (2, .int y)]) hx hb dX6_nearest_66 hl (by decide) rfl (fun ls hl => ?_)
            refine lv_iload hx hb dX6_nearest_68 (lv_at hl 0 rfl) ?_
            refine lv_iload_n hx hb dX6_nearest_70 rfl (lv_at hl 6 rfl) ?_
            have jn_71 : ∀ (H : Heap) (locs : List Loc), va_P D vwCl [(mm, .inr (6, [.int (nI np), .ref m1, .ref m2, .int (nI nh), .ref m3, .ref m4, .int (nI nn), .ref m5, .ref m6, .ref m7, .ref m8, .int re, .int ro, .ref m9, .int ((mToneOf (mWorth ln bo bd np nh (en 0) (en 1) (nI i)) 0 np).2)])), (m1, .inl (cI, 12, .inl ln)), (m2, .inl (cI, 12, .inl bo)), (m3, .inl (cI, 18, .inl bd)), (m4, .inl (cI, 2, .inl en))] H → va_S A s.heap H locs → W p l e rmX6_nearest s m a below meth c H locs 0 0 Q (F0 m 85 ls [.int (if ((mToneOf (mWorth ln bo bd np nh (en 0) (en 1) (nI i)) 0 np).1) ≤ v then v - ((mToneOf (mWorth ln bo bd np nh (en 0) (en 1) (nI i)) 0 np).1) else ((mToneOf (mWorth ln bo bd np nh (en 0) (en 1) (nI i)) 0 np).1) - v)]) := by
              intro H locs hP hS
              refine lv_istore (lv' := [(8, .int (if ((mToneOf (mWorth ln bo bd np nh (en 0) (en 1) (nI i)) 0 np).1) ≤ v then v - ((mToneOf (mWorth ln bo bd np nh (en 0) (en 1) (nI i)) 0 np).1) else ((mToneOf (mWorth ln bo bd np nh (en 0) (en 1) (nI i)) 0 np).1) - v)), (7, .int ((mToneOf (mWorth ln bo bd np nh (en 0) (en 1) (nI i)) 0 np).1)), (6, .int (nI i)), (5, .int nr), (4, .int tt), (3, .int b), (0, .ref mm), (1, .int v), (2, .int y)]) hx hb dX6_nearest_85 hl (by decide) rfl (fun ls hl => ?_)
              refine lv_iload hx hb dX6_nearest_87 (lv_at hl 1 rfl) ?_
              refine lv_if_lt (tgt := 114) hx hb dX6_nearest_89 (by decide) (fun c10 => ?_) (fun c10 => ?_)
              · skip
                refine lv_iinc (v := nI (i + 1)) (lv' := [(6, .int (nI (i + 1))), (8, .int (if ((mToneOf (mWorth ln bo bd np nh (en 0) (en 1) (nI i)) 0 np).1) ≤ v then v - ((mToneOf (mWorth ln bo bd np nh (en 0) (en 1) (nI i)) 0 np).1) else ((mToneOf (mWorth ln bo bd np nh (en 0) (en 1) (nI i)) 0 np).1) - v)), (7, .int ((mToneOf (mWorth ln bo bd np nh (en 0) (en 1) (nI i)) 0 np).1)), (5, .int nr), (4, .int tt), (3, .int b), (0, .ref mm), (1, .int v), (2, .int y)]) hx hb dX6_nearest_114 hl (k := 2) rfl (iinc_1 i) (by decide) rfl (fun ls hl => ?_)
                refine lv_goto (tgt := 48) hx hb dX6_nearest_117 (by decide) ?_
                exact ih_48 (i + 1) b tt nr ((mToneOf (mWorth ln bo bd np nh (en 0) (en 1) (nI i)) 0 np).2) (by omega) (hF.trans (by first | with_reducible rfl | (simp only [mNearest, mNr, if_neg c1, if_neg c2, if_neg c3, if_neg c6, if_pos c10]; done) | (simp [mNearest, mNr, if_neg c1, if_neg c2, if_neg c3, if_neg c6, if_pos c10]; done))) _ _ hP hD hS ls (lv_sub hl [0, 3, 4, 5, 6, 7, 8] rfl)
              · skip
                refine lv_iload_n hx hb dX6_nearest_92 rfl (lv_at hl 5 rfl) ?_
                refine lv_if_lt (tgt := 103) hx hb dX6_nearest_93 (by decide) (fun c11 => ?_) (fun c11 => ?_)
                · skip
                  refine lv_iload hx hb dX6_nearest_103 (lv_at hl 2 rfl) ?_
                  refine lv_istore_n (lv' := [(3, .int (nI i)), (8, .int (if ((mToneOf (mWorth ln bo bd np nh (en 0) (en 1) (nI i)) 0 np).1) ≤ v then v - ((mToneOf (mWorth ln bo bd np nh (en 0) (en 1) (nI i)) 0 np).1) else ((mToneOf (mWorth ln bo bd np nh (en 0) (en 1) (nI i)) 0 np).1) - v)), (7, .int ((mToneOf (mWorth ln bo bd np nh (en 0) (en 1) (nI i)) 0 np).1)), (6, .int (nI i)), (5, .int nr), (4, .int tt), (0, .ref mm), (1, .int v), (2, .int y)]) hx hb dX6_nearest_105 rfl hl (by decide) rfl (fun ls hl => ?_)
                  refine lv_iload hx hb dX6_nearest_106 (lv_at hl 2 rfl) ?_
                  refine lv_istore (lv' := [(4, .int ((mToneOf (mWorth ln bo bd np nh (en 0) (en 1) (nI i)) 0 np).1)), (3, .int (nI i)), (8, .int (if ((mToneOf (mWorth ln bo bd np nh (en 0) (en 1) (nI i)) 0 np).1) ≤ v then v - ((mToneOf (mWorth ln bo bd np nh (en 0) (en 1) (nI i)) 0 np).1) else ((mToneOf (mWorth ln bo bd np nh (en 0) (en 1) (nI i)) 0 np).1) - v)), (7, .int ((mToneOf (mWorth ln bo bd np nh (en 0) (en 1) (nI i)) 0 np).1)), (6, .int (nI i)), (5, .int nr), (0, .ref mm), (1, .int v), (2, .int y)]) hx hb dX6_nearest_108 hl (by decide) rfl (fun ls hl => ?_)
                  refine lv_iload hx hb dX6_nearest_110 (lv_at hl 2 rfl) ?_
                  refine lv_istore (lv' := [(5, .int (if ((mToneOf (mWorth ln bo bd np nh (en 0) (en 1) (nI i)) 0 np).1) ≤ v then v - ((mToneOf (mWorth ln bo bd np nh (en 0) (en 1) (nI i)) 0 np).1) else ((mToneOf (mWorth ln bo bd np nh (en 0) (en 1) (nI i)) 0 np).1) - v)), (4, .int ((mToneOf (mWorth ln bo bd np nh (en 0) (en 1) (nI i)) 0 np).1)), (3, .int (nI i)), (8, .int (if ((mToneOf (mWorth ln bo bd np nh (en 0) (en 1) (nI i)) 0 np).1) ≤ v then v - ((mToneOf (mWorth ln bo bd np nh (en 0) (en 1) (nI i)) 0 np).1) else ((mToneOf (mWorth ln bo bd np nh (en 0) (en 1) (nI i)) 0 np).1) - v)), (7, .int ((mToneOf (mWorth ln bo bd np nh (en 0) (en 1) (nI i)) 0 np).1)), (6, .int (nI i)), (0, .ref mm), (1, .int v), (2, .int y)]) hx hb dX6_nearest_112 hl (by decide) rfl (fun ls hl => ?_)
                  refine lv_iinc (v := nI (i + 1)) (lv' := [(6, .int (nI (i + 1))), (5, .int (if ((mToneOf (mWorth ln bo bd np nh (en 0) (en 1) (nI i)) 0 np).1) ≤ v then v - ((mToneOf (mWorth ln bo bd np nh (en 0) (en 1) (nI i)) 0 np).1) else ((mToneOf (mWorth ln bo bd np nh (en 0) (en 1) (nI i)) 0 np).1) - v)), (4, .int ((mToneOf (mWorth ln bo bd np nh (en 0) (en 1) (nI i)) 0 np).1)), (3, .int (nI i)), (8, .int (if ((mToneOf (mWorth ln bo bd np nh (en 0) (en 1) (nI i)) 0 np).1) ≤ v then v - ((mToneOf (mWorth ln bo bd np nh (en 0) (en 1) (nI i)) 0 np).1) else ((mToneOf (mWorth ln bo bd np nh (en 0) (en 1) (nI i)) 0 np).1) - v)), (7, .int ((mToneOf (mWorth ln bo bd np nh (en 0) (en 1) (nI i)) 0 np).1)), (0, .ref mm), (1, .int v), (2, .int y)]) hx hb dX6_nearest_114 hl (k := 5) rfl (iinc_1 i) (by decide) rfl (fun ls hl => ?_)
                  refine lv_goto (tgt := 48) hx hb dX6_nearest_117 (by decide) ?_
                  exact ih_48 (i + 1) (nI i) ((mToneOf (mWorth ln bo bd np nh (en 0) (en 1) (nI i)) 0 np).1) (if ((mToneOf (mWorth ln bo bd np nh (en 0) (en 1) (nI i)) 0 np).1) ≤ v then v - ((mToneOf (mWorth ln bo bd np nh (en 0) (en 1) (nI i)) 0 np).1) else ((mToneOf (mWorth ln bo bd np nh (en 0) (en 1) (nI i)) 0 np).1) - v) ((mToneOf (mWorth ln bo bd np nh (en 0) (en 1) (nI i)) 0 np).2) (by omega) (hF.trans (by first | with_reducible rfl | (simp only [mNearest, mNr, if_neg c1, if_neg c2, if_neg c3, if_neg c6, if_neg c10, if_pos c11]; done) | (simp [mNearest, mNr, if_neg c1, if_neg c2, if_neg c3, if_neg c6, if_neg c10, if_pos c11]; done))) _ _ hP hD hS ls (lv_sub hl [0, 1, 2, 3, 6, 7, 8] rfl)
                · skip
                  refine lv_iload hx hb dX6_nearest_96 (lv_at hl 0 rfl) ?_
                  refine lv_iload hx hb dX6_nearest_98 (lv_at hl 3 rfl) ?_
                  refine lv_icmp_ge (tgt := 114) hx hb dX6_nearest_100 (by decide) (fun c12 => ?_) (fun c12 => ?_)
                  · skip
                    refine lv_iinc (v := nI (i + 1)) (lv' := [(6, .int (nI (i + 1))), (8, .int (if ((mToneOf (mWorth ln bo bd np nh (en 0) (en 1) (nI i)) 0 np).1) ≤ v then v - ((mToneOf (mWorth ln bo bd np nh (en 0) (en 1) (nI i)) 0 np).1) else ((mToneOf (mWorth ln bo bd np nh (en 0) (en 1) (nI i)) 0 np).1) - v)), (7, .int ((mToneOf (mWorth ln bo bd np nh (en 0) (en 1) (nI i)) 0 np).1)), (5, .int nr), (4, .int tt), (3, .int b), (0, .ref mm), (1, .int v), (2, .int y)]) hx hb dX6_nearest_114 hl (k := 2) rfl (iinc_1 i) (by decide) rfl (fun ls hl => ?_)
                    refine lv_goto (tgt := 48) hx hb dX6_nearest_117 (by decide) ?_
                    exact ih_48 (i + 1) b tt nr ((mToneOf (mWorth ln bo bd np nh (en 0) (en 1) (nI i)) 0 np).2) (by omega) (hF.trans (by first | with_reducible rfl | (simp only [mNearest, mNr, if_neg c1, if_neg c2, if_neg c3, if_neg c6, if_neg c10, if_neg c11, if_pos c12]; done) | (simp [mNearest, mNr, if_neg c1, if_neg c2, if_neg c3, if_neg c6, if_neg c10, if_neg c11, if_pos c12]; done))) _ _ hP hD hS ls (lv_sub hl [0, 3, 4, 5, 6, 7, 8] rfl)
                  · skip
                    refine lv_iload hx hb dX6_nearest_103 (lv_at hl 2 rfl) ?_
                    refine lv_istore_n (lv' := [(3, .int (nI i)), (8, .int (if ((mToneOf (mWorth ln bo bd np nh (en 0) (en 1) (nI i)) 0 np).1) ≤ v then v - ((mToneOf (mWorth ln bo bd np nh (en 0) (en 1) (nI i)) 0 np).1) else ((mToneOf (mWorth ln bo bd np nh (en 0) (en 1) (nI i)) 0 np).1) - v)), (7, .int ((mToneOf (mWorth ln bo bd np nh (en 0) (en 1) (nI i)) 0 np).1)), (6, .int (nI i)), (5, .int nr), (4, .int tt), (0, .ref mm), (1, .int v), (2, .int y)]) hx hb dX6_nearest_105 rfl hl (by decide) rfl (fun ls hl => ?_)
                    refine lv_iload hx hb dX6_nearest_106 (lv_at hl 2 rfl) ?_
                    refine lv_istore (lv' := [(4, .int ((mToneOf (mWorth ln bo bd np nh (en 0) (en 1) (nI i)) 0 np).1)), (3, .int (nI i)), (8, .int (if ((mToneOf (mWorth ln bo bd np nh (en 0) (en 1) (nI i)) 0 np).1) ≤ v then v - ((mToneOf (mWorth ln bo bd np nh (en 0) (en 1) (nI i)) 0 np).1) else ((mToneOf (mWorth ln bo bd np nh (en 0) (en 1) (nI i)) 0 np).1) - v)), (7, .int ((mToneOf (mWorth ln bo bd np nh (en 0) (en 1) (nI i)) 0 np).1)), (6, .int (nI i)), (5, .int nr), (0, .ref mm), (1, .int v), (2, .int y)]) hx hb dX6_nearest_108 hl (by decide) rfl (fun ls hl => ?_)
                    refine lv_iload hx hb dX6_nearest_110 (lv_at hl 2 rfl) ?_
                    refine lv_istore (lv' := [(5, .int (if ((mToneOf (mWorth ln bo bd np nh (en 0) (en 1) (nI i)) 0 np).1) ≤ v then v - ((mToneOf (mWorth ln bo bd np nh (en 0) (en 1) (nI i)) 0 np).1) else ((mToneOf (mWorth ln bo bd np nh (en 0) (en 1) (nI i)) 0 np).1) - v)), (4, .int ((mToneOf (mWorth ln bo bd np nh (en 0) (en 1) (nI i)) 0 np).1)), (3, .int (nI i)), (8, .int (if ((mToneOf (mWorth ln bo bd np nh (en 0) (en 1) (nI i)) 0 np).1) ≤ v then v - ((mToneOf (mWorth ln bo bd np nh (en 0) (en 1) (nI i)) 0 np).1) else ((mToneOf (mWorth ln bo bd np nh (en 0) (en 1) (nI i)) 0 np).1) - v)), (7, .int ((mToneOf (mWorth ln bo bd np nh (en 0) (en 1) (nI i)) 0 np).1)), (6, .int (nI i)), (0, .ref mm), (1, .int v), (2, .int y)]) hx hb dX6_nearest_112 hl (by decide) rfl (fun ls hl => ?_)
                    refine lv_iinc (v := nI (i + 1)) (lv' := [(6, .int (nI (i + 1))), (5, .int (if ((mToneOf (mWorth ln bo bd np nh (en 0) (en 1) (nI i)) 0 np).1) ≤ v then v - ((mToneOf (mWorth ln bo bd np nh (en 0) (en 1) (nI i)) 0 np).1) else ((mToneOf (mWorth ln bo bd np nh (en 0) (en 1) (nI i)) 0 np).1) - v)), (4, .int ((mToneOf (mWorth ln bo bd np nh (en 0) (en 1) (nI i)) 0 np).1)), (3, .int (nI i)), (8, .int (if ((mToneOf (mWorth ln bo bd np nh (en 0) (en 1) (nI i)) 0 np).1) ≤ v then v - ((mToneOf (mWorth ln bo bd np nh (en 0) (en 1) (nI i)) 0 np).1) else ((mToneOf (mWorth ln bo bd np nh (en 0) (en 1) (nI i)) 0 np).1) - v)), (7, .int ((mToneOf (mWorth ln bo bd np nh (en 0) (en 1) (nI i)) 0 np).1)), (0, .ref mm), (1, .int v), (2, .int y)]) hx hb dX6_nearest_114 hl (k := 5) rfl (iinc_1 i) (by decide) rfl (fun ls hl => ?_)
                    refine lv_goto (tgt := 48) hx hb dX6_nearest_117 (by decide) ?_
                    exact ih_48 (i + 1) (nI i) ((mToneOf (mWorth ln bo bd np nh (en 0) (en 1) (nI i)) 0 np).1) (if ((mToneOf (mWorth ln bo bd np nh (en 0) (en 1) (nI i)) 0 np).1) ≤ v then v - ((mToneOf (mWorth ln bo bd np nh (en 0) (en 1) (nI i)) 0 np).1) else ((mToneOf (mWorth ln bo bd np nh (en 0) (en 1) (nI i)) 0 np).1) - v) ((mToneOf (mWorth ln bo bd np nh (en 0) (en 1) (nI i)) 0 np).2) (by omega) (hF.trans (by first | with_reducible rfl | (simp only [mNearest, mNr, if_neg c1, if_neg c2, if_neg c3, if_neg c6, if_neg c10, if_neg c11, if_neg c12]; done) | (simp [mNearest, mNr, if_neg c1, if_neg c2, if_neg c3, if_neg c6, if_neg c10, if_neg c11, if_neg c12]; done))) _ _ hP hD hS ls (lv_sub hl [0, 1, 2, 3, 6, 7, 8] rfl)
            refine lv_icmp_le (tgt := 81) hx hb dX6_nearest_71 (by decide) (fun c9 => ?_) (fun c9 => ?_)
            · skip
              refine lv_iload_n hx hb dX6_nearest_81 rfl (lv_at hl 6 rfl) ?_
              refine lv_iload hx hb dX6_nearest_82 (lv_at hl 0 rfl) ?_
              refine lv_isub hx hb dX6_nearest_84 ?_
              exact lv_eqi (if_pos c9).symm (jn_71 _ _ hP hS)
            · skip
              refine lv_iload hx hb dX6_nearest_74 (lv_at hl 0 rfl) ?_
              refine lv_iload_n hx hb dX6_nearest_76 rfl (lv_at hl 6 rfl) ?_
              refine lv_isub hx hb dX6_nearest_77 ?_
              refine lv_goto (tgt := 85) hx hb dX6_nearest_78 (by decide) ?_
              exact lv_eqi (if_neg c9).symm (jn_71 _ _ hP hS)
        exact lp_48 (2 ^ nh) 0 (-1) (-1) 0 tm (by omega) rfl _ _ hP hD hS ls (lv_sub hl [0, 1, 2, 3, 4, 5, 6] rfl)
      · skip
        refine lv_sipush (v := (-1003)) hx hb dX6_nearest_33 (by decide) ?_
        exact ret_WI hQ hx hb hr hlk hAe tm hP hS (show mNearest (mWorth ln bo bd np nh (en 0) (en 1)) v y np nh = (-1003) from (by first | with_reducible rfl | (simp only [mNearest, if_neg c1, if_neg c2, if_pos c3]; done) | (simp [mNearest, if_neg c1, if_neg c2, if_pos c3]; done))).symm dX6_nearest_36
    · skip
      refine lv_sipush (v := (-1002)) hx hb dX6_nearest_22 (by decide) ?_
      exact ret_WI hQ hx hb hr hlk hAe tm hP hS (show mNearest (mWorth ln bo bd np nh (en 0) (en 1)) v y np nh = (-1002) from (by first | with_reducible rfl | (simp only [mNearest, if_neg c1, if_pos c2]; done) | (simp [mNearest, if_neg c1, if_pos c2]; done))).symm dX6_nearest_25

set_option maxHeartbeats 4000000 in
set_option maxRecDepth 100000 in
theorem c_X6_note (l : Launch) (D : va_G) (cI cZ : ClassId) (mm : Nat) (m1 : Nat) (m2 : Nat) (m3 : Nat) (m4 : Nat) (m5 : Nat) (m6 : Nat) (m7 : Nat) (m8 : Nat) (m9 : Nat) (np : Nat) (nh : Nat) (nn : Nat) (re : Int32) (ro : Int32) (tm : Int32) (ns : Nat → Int32) (nw : Nat → Int32) (nt : Nat → Int32) (x : Int32) (y : Int32) (z : Int32) (hnn : nn ≤ 6) : Met l yX6_note wsX6_note rmX6_note (va_Pc [.ref mm, .int x, .int y, .int z] (PW D cI cZ [(mm, .inr (6, [.int (nI np), .ref m1, .ref m2, .int (nI nh), .ref m3, .ref m4, .int (nI nn), .ref m5, .ref m6, .ref m7, .ref m8, .int re, .int ro, .ref m9, .int tm])), (m5, .inl (cI, 6, .inl ns)), (m6, .inl (cI, 6, .inl nw)), (m7, .inl (cI, 6, .inl nt))])) (WI (S := Unit) D (fun zr _ => zr = (mNote x y z nn ns nw nt).1) (fun _ => [(mm, .inr (6, [.int (nI np), .ref m1, .ref m2, .int (nI nh), .ref m3, .ref m4, .int (nI ((mNote x y z nn ns nw nt).2.1)), .ref m5, .ref m6, .ref m7, .ref m8, .int re, .int ro, .ref m9, .int tm])), (m5, .inl (cI, 6, .inl ((mNote x y z nn ns nw nt).2.2.1))), (m6, .inl (cI, 6, .inl ((mNote x y z nn ns nw nt).2.2.2.1))), (m7, .inl (cI, 6, .inl ((mNote x y z nn ns nw nt).2.2.2.2)))]) [(mm, .inr (6, [.int (nI np), .ref m1, .ref m2, .int (nI nh), .ref m3, .ref m4, .int (nI nn), .ref m5, .ref m6, .ref m7, .ref m8, .int re, .int ro, .ref m9, .int tm])), (m5, .inl (cI, 6, .inl ns)), (m6, .inl (cI, 6, .inl nw)), (m7, .inl (cI, 6, .inl nt))]) 0 0 (ad [(mm, .inr (6, [.int (nI np), .ref m1, .ref m2, .int (nI nh), .ref m3, .ref m4, .int (nI nn), .ref m5, .ref m6, .ref m7, .ref m8, .int re, .int ro, .ref m9, .int tm])), (m5, .inl (cI, 6, .inl ns)), (m6, .inl (cI, 6, .inl nw)), (m7, .inl (cI, 6, .inl nt))]) := by
  refine met_go (cc := cX6_note) (maxL := 4) (ret := (some .int)) (by decide) rfl ?_ (Nat.le_of_ble_eq_true rfl)
  intro p e s m a below meth c Q hQ _ hx hb hr hml hts hown hlk hnm hpre ls hl
  have hown : s.vm.findClass RX6 = some m.cls := hown
  obtain ⟨hP, hK, hD0⟩ := hpre
  have hN := hK.2
  obtain ⟨A, hAe⟩ : ∃ A : Nat → Prop, A = ad [(mm, .inr (6, [.int (nI np), .ref m1, .ref m2, .int (nI nh), .ref m3, .ref m4, .int (nI nn), .ref m5, .ref m6, .ref m7, .ref m8, .int re, .int ro, .ref m9, .int tm])), (m5, .inl (cI, 6, .inl ns)), (m6, .inl (cI, 6, .inl nw)), (m7, .inl (cI, 6, .inl nt))] := ⟨_, rfl⟩
  have hD : va_D A [(mm, .inr (6, [.int (nI np), .ref m1, .ref m2, .int (nI nh), .ref m3, .ref m4, .int (nI nn), .ref m5, .ref m6, .ref m7, .ref m8, .int re, .int ro, .ref m9, .int tm])), (m5, .inl (cI, 6, .inl ns)), (m6, .inl (cI, 6, .inl nw)), (m7, .inl (cI, 6, .inl nt))] := by rw [hAe]; exact hD0.ad
  have hS : va_S A s.heap s.heap [] := va_S.rf
  have hl : lv_has ls 4 [(0, .ref mm), (1, .int x), (2, .int y), (3, .int z)] := hl
  have k6 : ∀ w ∈ wsX60, w ∈ wsX6_note := fun w h => List.mem_cons_of_mem _ (List.mem_append_right _ h)
  refine lv_iload_n hx hb dX6_note_0 rfl (lv_at hl 1 rfl) ?_
  refine rd_i (va_runS (As := [.int x]) (rest := []) ⟨hx, hb, hml, hown, hts⟩ (c_X6_isSet l D cI cZ x) (va_cwS 1 hts gX6_note_X6_isSet rfl rfl rfl hdV_X6_isSet.2 ⟨Nat.le_of_ble_eq_true rfl, Nat.le_of_ble_eq_true rfl⟩) (PR.S (hP.sub [] rfl) hK) rfl rfl hl.1 rfl (lv_room (Nat.le_of_ble_eq_true rfl)) dX6_note_1 ⟨Nat.le_of_ble_eq_true rfl, Nat.le_of_ble_eq_true rfl⟩) hP hS (fun H locs hP hS => ?_)
  refine lv_if_eq (tgt := 31) hx hb dX6_note_4 (by decide) (fun c1 => ?_) (fun c1 => ?_)
  · skip
    refine lv_sipush (v := (-1002)) hx hb dX6_note_31 (by decide) ?_
    exact ret_WI hQ hx hb hr hlk hAe () (by show va_P D vwCl [(mm, .inr (6, [.int (nI np), .ref m1, .ref m2, .int (nI nh), .ref m3, .ref m4, .int (nI ((mNote x y z nn ns nw nt).2.1)), .ref m5, .ref m6, .ref m7, .ref m8, .int re, .int ro, .ref m9, .int tm])), (m5, .inl (cI, 6, .inl ((mNote x y z nn ns nw nt).2.2.1))), (m6, .inl (cI, 6, .inl ((mNote x y z nn ns nw nt).2.2.2.1))), (m7, .inl (cI, 6, .inl ((mNote x y z nn ns nw nt).2.2.2.2)))] H; rw [show nI ((mNote x y z nn ns nw nt).2.1) = nI nn from (by first | with_reducible rfl | (simp only [mNote, if_pos c1]; done) | (simp [mNote, if_pos c1]; done)), show (mNote x y z nn ns nw nt).2.2.1 = ns from (by first | with_reducible rfl | (simp only [mNote, if_pos c1]; done) | (simp [mNote, if_pos c1]; done)), show (mNote x y z nn ns nw nt).2.2.2.1 = nw from (by first | with_reducible rfl | (simp only [mNote, if_pos c1]; done) | (simp [mNote, if_pos c1]; done)), show (mNote x y z nn ns nw nt).2.2.2.2 = nt from (by first | with_reducible rfl | (simp only [mNote, if_pos c1]; done) | (simp [mNote, if_pos c1]; done))]; exact hP) hS (show (mNote x y z nn ns nw nt).1 = (-1002) from (by first | with_reducible rfl | (simp only [mNote, if_pos c1]; done) | (simp [mNote, if_pos c1]; done))).symm dX6_note_34
  · skip
    refine lv_iload_n hx hb dX6_note_7 rfl (lv_at hl 2 rfl) ?_
    refine lv_i2l hx hb dX6_note_8 rfl ?_
    refine lv_lconst (v := 0) hx hb dX6_note_9 (by decide) ?_
    refine lv_ldc2 hx hb hown (hts (.constantLong RX6 155 (5)) (List.mem_of_getElem? (i := 1) rfl)) dX6_note_10 ?_
    refine rd_i (va_runS (As := [.long y.toInt64, .long 0, .long 5]) (rest := []) ⟨hx, hb, hml, hown, hts⟩ (c_X6_in l D cI cZ y.toInt64 0 5) (va_cwS 3 hts gX6_note_X6_in rfl rfl rfl hdV_X6_in.2 ⟨Nat.le_of_ble_eq_true rfl, Nat.le_of_ble_eq_true rfl⟩) (PR.S (hP.sub [] rfl) hK) rfl rfl hl.1 rfl (lv_room (Nat.le_of_ble_eq_true rfl)) dX6_note_13 ⟨Nat.le_of_ble_eq_true rfl, Nat.le_of_ble_eq_true rfl⟩) hP hS (fun H locs hP hS => ?_)
    refine lv_if_eq (tgt := 31) hx hb dX6_note_16 (by decide) (fun c2 => ?_) (fun c2 => ?_)
    · skip
      refine lv_sipush (v := (-1002)) hx hb dX6_note_31 (by decide) ?_
      exact ret_WI hQ hx hb hr hlk hAe () (by show va_P D vwCl [(mm, .inr (6, [.int (nI np), .ref m1, .ref m2, .int (nI nh), .ref m3, .ref m4, .int (nI ((mNote x y z nn ns nw nt).2.1)), .ref m5, .ref m6, .ref m7, .ref m8, .int re, .int ro, .ref m9, .int tm])), (m5, .inl (cI, 6, .inl ((mNote x y z nn ns nw nt).2.2.1))), (m6, .inl (cI, 6, .inl ((mNote x y z nn ns nw nt).2.2.2.1))), (m7, .inl (cI, 6, .inl ((mNote x y z nn ns nw nt).2.2.2.2)))] H; rw [show nI ((mNote x y z nn ns nw nt).2.1) = nI nn from (by first | with_reducible rfl | (simp only [mNote, if_neg c1, if_pos c2]; done) | (simp [mNote, if_neg c1, if_pos c2]; done)), show (mNote x y z nn ns nw nt).2.2.1 = ns from (by first | with_reducible rfl | (simp only [mNote, if_neg c1, if_pos c2]; done) | (simp [mNote, if_neg c1, if_pos c2]; done)), show (mNote x y z nn ns nw nt).2.2.2.1 = nw from (by first | with_reducible rfl | (simp only [mNote, if_neg c1, if_pos c2]; done) | (simp [mNote, if_neg c1, if_pos c2]; done)), show (mNote x y z nn ns nw nt).2.2.2.2 = nt from (by first | with_reducible rfl | (simp only [mNote, if_neg c1, if_pos c2]; done) | (simp [mNote, if_neg c1, if_pos c2]; done))]; exact hP) hS (show (mNote x y z nn ns nw nt).1 = (-1002) from (by first | with_reducible rfl | (simp only [mNote, if_neg c1, if_pos c2]; done) | (simp [mNote, if_neg c1, if_pos c2]; done))).symm dX6_note_34
    · skip
      refine lv_iload_n hx hb dX6_note_19 rfl (lv_at hl 3 rfl) ?_
      refine lv_i2l hx hb dX6_note_20 rfl ?_
      refine lv_lconst (v := 1) hx hb dX6_note_21 (by decide) ?_
      refine lv_ldc2 hx hb hown (hts (.constantLong RX6 135 (300)) (List.mem_of_getElem? (i := 2) rfl)) dX6_note_22 ?_
      refine rd_i (va_runS (As := [.long z.toInt64, .long 1, .long 300]) (rest := []) ⟨hx, hb, hml, hown, hts⟩ (c_X6_in l D cI cZ z.toInt64 1 300) (va_cwS 3 hts gX6_note_X6_in rfl rfl rfl hdV_X6_in.2 ⟨Nat.le_of_ble_eq_true rfl, Nat.le_of_ble_eq_true rfl⟩) (PR.S (hP.sub [] rfl) hK) rfl rfl hl.1 rfl (lv_room (Nat.le_of_ble_eq_true rfl)) dX6_note_25 ⟨Nat.le_of_ble_eq_true rfl, Nat.le_of_ble_eq_true rfl⟩) hP hS (fun H locs hP hS => ?_)
      refine lv_if_ne (tgt := 35) hx hb dX6_note_28 (by decide) (fun c3 => ?_) (fun c3 => ?_)
      · skip
        refine lv_aload_n hx hb dX6_note_35 rfl (lv_at hl 0 rfl) ?_
        refine va_get (D := D) (ci := 6) (v := .int (nI nn)) (C := RX6) (T := TX6) (N := 15) hx hb hts k6 hown hK.1 hP 0 rfl rfl 6 (by decide) (hts (.fieldLink RX6 82 "BoredPipesModel" "notes" "I") (List.mem_of_getElem? (i := 3) rfl)) (fun _ h9 => h9) rfl dX6_note_36 ?_
        refine lv_bipush (v := 6) hx hb dX6_note_39 (by decide) ?_
        refine lv_icmp_ne (tgt := 48) hx hb dX6_note_41 (by decide) (fun c4 => ?_) (fun c4 => ?_)
        · skip
          have hlt : nn < 6 := nI_ltne (N := 6) c4 hnn
          refine lv_aload_n hx hb dX6_note_48 rfl (lv_at hl 0 rfl) ?_
          refine va_get (D := D) (ci := 6) (v := .ref m5) (C := RX6) (T := TX6) (N := 15) hx hb hts k6 hown hK.1 hP 0 rfl rfl 7 (by decide) (hts (.fieldLink RX6 22 "BoredPipesModel" "opens" "[I") (List.mem_of_getElem? (i := 4) rfl)) (fun _ h9 => h9) rfl dX6_note_49 ?_
          refine lv_aload_n hx hb dX6_note_52 rfl (lv_at hl 0 rfl) ?_
          refine va_get (D := D) (ci := 6) (v := .int (nI nn)) (C := RX6) (T := TX6) (N := 15) hx hb hts k6 hown hK.1 hP 0 rfl rfl 6 (by decide) (hts (.fieldLink RX6 82 "BoredPipesModel" "notes" "I") (List.mem_of_getElem? (i := 3) rfl)) (fun _ h9 => h9) rfl dX6_note_53 ?_
          refine lv_iload_n hx hb dX6_note_56 rfl (lv_at hl 1 rfl) ?_
          refine iast_n (k := nn) hx hb hK.1 hP hD hS 1 rfl (by omega) (by decide) dX6_note_57 (fun H locs hP hD hS => ?_)
          have hP : va_P D vwCl [(mm, .inr (6, [.int (nI np), .ref m1, .ref m2, .int (nI nh), .ref m3, .ref m4, .int (nI nn), .ref m5, .ref m6, .ref m7, .ref m8, .int re, .int ro, .ref m9, .int tm])), (m5, .inl (cI, 6, .inl (upd ns nn x))), (m6, .inl (cI, 6, .inl nw)), (m7, .inl (cI, 6, .inl nt))] H := hP
          have hD : va_D A [(mm, .inr (6, [.int (nI np), .ref m1, .ref m2, .int (nI nh), .ref m3, .ref m4, .int (nI nn), .ref m5, .ref m6, .ref m7, .ref m8, .int re, .int ro, .ref m9, .int tm])), (m5, .inl (cI, 6, .inl (upd ns nn x))), (m6, .inl (cI, 6, .inl nw)), (m7, .inl (cI, 6, .inl nt))] := hD
          refine lv_aload_n hx hb dX6_note_58 rfl (lv_at hl 0 rfl) ?_
          refine va_get (D := D) (ci := 6) (v := .ref m6) (C := RX6) (T := TX6) (N := 15) hx hb hts k6 hown hK.1 hP 0 rfl rfl 8 (by decide) (hts (.fieldLink RX6 25 "BoredPipesModel" "whiches" "[I") (List.mem_of_getElem? (i := 5) rfl)) (fun _ h9 => h9) rfl dX6_note_59 ?_
          refine lv_aload_n hx hb dX6_note_62 rfl (lv_at hl 0 rfl) ?_
          refine va_get (D := D) (ci := 6) (v := .int (nI nn)) (C := RX6) (T := TX6) (N := 15) hx hb hts k6 hown hK.1 hP 0 rfl rfl 6 (by decide) (hts (.fieldLink RX6 82 "BoredPipesModel" "notes" "I") (List.mem_of_getElem? (i := 3) rfl)) (fun _ h9 => h9) rfl dX6_note_63 ?_
          refine lv_iload_n hx hb dX6_note_66 rfl (lv_at hl 2 rfl) ?_
          refine iast_n (k := nn) hx hb hK.1 hP hD hS 2 rfl (by omega) (by decide) dX6_note_67 (fun H locs hP hD hS => ?_)
          have hP : va_P D vwCl [(mm, .inr (6, [.int (nI np), .ref m1, .ref m2, .int (nI nh), .ref m3, .ref m4, .int (nI nn), .ref m5, .ref m6, .ref m7, .ref m8, .int re, .int ro, .ref m9, .int tm])), (m5, .inl (cI, 6, .inl (upd ns nn x))), (m6, .inl (cI, 6, .inl (upd nw nn y))), (m7, .inl (cI, 6, .inl nt))] H := hP
          have hD : va_D A [(mm, .inr (6, [.int (nI np), .ref m1, .ref m2, .int (nI nh), .ref m3, .ref m4, .int (nI nn), .ref m5, .ref m6, .ref m7, .ref m8, .int re, .int ro, .ref m9, .int tm])), (m5, .inl (cI, 6, .inl (upd ns nn x))), (m6, .inl (cI, 6, .inl (upd nw nn y))), (m7, .inl (cI, 6, .inl nt))] := hD
          refine lv_aload_n hx hb dX6_note_68 rfl (lv_at hl 0 rfl) ?_
          refine va_get (D := D) (ci := 6) (v := .ref m7) (C := RX6) (T := TX6) (N := 15) hx hb hts k6 hown hK.1 hP 0 rfl rfl 9 (by decide) (hts (.fieldLink RX6 28 "BoredPipesModel" "wanteds" "[I") (List.mem_of_getElem? (i := 6) rfl)) (fun _ h9 => h9) rfl dX6_note_69 ?_
          refine lv_aload_n hx hb dX6_note_72 rfl (lv_at hl 0 rfl) ?_
          refine va_get (D := D) (ci := 6) (v := .int (nI nn)) (C := RX6) (T := TX6) (N := 15) hx hb hts k6 hown hK.1 hP 0 rfl rfl 6 (by decide) (hts (.fieldLink RX6 82 "BoredPipesModel" "notes" "I") (List.mem_of_getElem? (i := 3) rfl)) (fun _ h9 => h9) rfl dX6_note_73 ?_
          refine lv_iload_n hx hb dX6_note_76 rfl (lv_at hl 3 rfl) ?_
          refine iast_n (k := nn) hx hb hK.1 hP hD hS 3 rfl (by omega) (by decide) dX6_note_77 (fun H locs hP hD hS => ?_)
          have hP : va_P D vwCl [(mm, .inr (6, [.int (nI np), .ref m1, .ref m2, .int (nI nh), .ref m3, .ref m4, .int (nI nn), .ref m5, .ref m6, .ref m7, .ref m8, .int re, .int ro, .ref m9, .int tm])), (m5, .inl (cI, 6, .inl (upd ns nn x))), (m6, .inl (cI, 6, .inl (upd nw nn y))), (m7, .inl (cI, 6, .inl (upd nt nn z)))] H := hP
          have hD : va_D A [(mm, .inr (6, [.int (nI np), .ref m1, .ref m2, .int (nI nh), .ref m3, .ref m4, .int (nI nn), .ref m5, .ref m6, .ref m7, .ref m8, .int re, .int ro, .ref m9, .int tm])), (m5, .inl (cI, 6, .inl (upd ns nn x))), (m6, .inl (cI, 6, .inl (upd nw nn y))), (m7, .inl (cI, 6, .inl (upd nt nn z)))] := hD
          refine lv_aload_n hx hb dX6_note_78 rfl (lv_at hl 0 rfl) ?_
          refine lv_dup hx hb dX6_note_79 rfl ?_
          refine va_get (D := D) (ci := 6) (v := .int (nI nn)) (C := RX6) (T := TX6) (N := 15) hx hb hts k6 hown hK.1 hP 0 rfl rfl 6 (by decide) (hts (.fieldLink RX6 82 "BoredPipesModel" "notes" "I") (List.mem_of_getElem? (i := 3) rfl)) (fun _ h9 => h9) rfl dX6_note_80 ?_
          refine lv_iconst (v := 1) hx hb dX6_note_83 (by decide) ?_
          refine nn_iadd hx hb dX6_note_84 (x := nn) (y := 1) rfl rfl ?_
          refine va_put (D := D) (ci := 6) (v := .int (nI (nn + 1))) (ty := .int) (C := RX6) (T := TX6) (N := 15) hx hb hts k6 tyX6 tyX6_ok nmX6 hown hK.1 hP hD hS 0 rfl rfl 6 (by decide) (hts (.fieldLink RX6 82 "BoredPipesModel" "notes" "I") (List.mem_of_getElem? (i := 3) rfl)) (fun _ h9 => h9) rfl (tyX6_ok 6 (by decide)) rfl rfl (Nat.le_of_ble_eq_true rfl) dX6_note_85 (fun H locs hP hD hS => ?_)
          have hP : va_P D vwCl [(mm, .inr (6, [.int (nI np), .ref m1, .ref m2, .int (nI nh), .ref m3, .ref m4, .int (nI (nn + 1)), .ref m5, .ref m6, .ref m7, .ref m8, .int re, .int ro, .ref m9, .int tm])), (m5, .inl (cI, 6, .inl (upd ns nn x))), (m6, .inl (cI, 6, .inl (upd nw nn y))), (m7, .inl (cI, 6, .inl (upd nt nn z)))] H := hP
          have hD : va_D A [(mm, .inr (6, [.int (nI np), .ref m1, .ref m2, .int (nI nh), .ref m3, .ref m4, .int (nI (nn + 1)), .ref m5, .ref m6, .ref m7, .ref m8, .int re, .int ro, .ref m9, .int tm])), (m5, .inl (cI, 6, .inl (upd ns nn x))), (m6, .inl (cI, 6, .inl (upd nw nn y))), (m7, .inl (cI, 6, .inl (upd nt nn z)))] := hD
          refine lv_aload_n hx hb dX6_note_88 rfl (lv_at hl 0 rfl) ?_
          refine va_get (D := D) (ci := 6) (v := .int (nI (nn + 1))) (C := RX6) (T := TX6) (N := 15) hx hb hts k6 hown hK.1 hP 0 rfl rfl 6 (by decide) (hts (.fieldLink RX6 82 "BoredPipesModel" "notes" "I") (List.mem_of_getElem? (i := 3) rfl)) (fun _ h9 => h9) rfl dX6_note_89 ?_
          refine lv_iconst (v := 1) hx hb dX6_note_92 (by decide) ?_
          refine lv_isub hx hb dX6_note_93 ?_
          exact ret_WI hQ hx hb hr hlk hAe () (by show va_P D vwCl [(mm, .inr (6, [.int (nI np), .ref m1, .ref m2, .int (nI nh), .ref m3, .ref m4, .int (nI ((mNote x y z nn ns nw nt).2.1)), .ref m5, .ref m6, .ref m7, .ref m8, .int re, .int ro, .ref m9, .int tm])), (m5, .inl (cI, 6, .inl ((mNote x y z nn ns nw nt).2.2.1))), (m6, .inl (cI, 6, .inl ((mNote x y z nn ns nw nt).2.2.2.1))), (m7, .inl (cI, 6, .inl ((mNote x y z nn ns nw nt).2.2.2.2)))] H; rw [show nI ((mNote x y z nn ns nw nt).2.1) = nI (nn + 1) from (by first | with_reducible rfl | (simp only [mNote, if_neg c1, if_neg c2, if_neg c3, if_neg c4]; done) | (simp [mNote, if_neg c1, if_neg c2, if_neg c3, if_neg c4]; done)), show (mNote x y z nn ns nw nt).2.2.1 = upd ns nn x from (by first | with_reducible rfl | (simp only [mNote, if_neg c1, if_neg c2, if_neg c3, if_neg c4]; done) | (simp [mNote, if_neg c1, if_neg c2, if_neg c3, if_neg c4]; done)), show (mNote x y z nn ns nw nt).2.2.2.1 = upd nw nn y from (by first | with_reducible rfl | (simp only [mNote, if_neg c1, if_neg c2, if_neg c3, if_neg c4]; done) | (simp [mNote, if_neg c1, if_neg c2, if_neg c3, if_neg c4]; done)), show (mNote x y z nn ns nw nt).2.2.2.2 = upd nt nn z from (by first | with_reducible rfl | (simp only [mNote, if_neg c1, if_neg c2, if_neg c3, if_neg c4]; done) | (simp [mNote, if_neg c1, if_neg c2, if_neg c3, if_neg c4]; done))]; exact hP) hS (show (mNote x y z nn ns nw nt).1 = (nI (nn + 1)) - 1 from (by first | with_reducible rfl | (simp only [mNote, if_neg c1, if_neg c2, if_neg c3, if_neg c4]; done) | (simp [mNote, if_neg c1, if_neg c2, if_neg c3, if_neg c4]; done))).symm dX6_note_94
        · skip
          refine lv_sipush (v := (-1004)) hx hb dX6_note_44 (by decide) ?_
          exact ret_WI hQ hx hb hr hlk hAe () (by show va_P D vwCl [(mm, .inr (6, [.int (nI np), .ref m1, .ref m2, .int (nI nh), .ref m3, .ref m4, .int (nI ((mNote x y z nn ns nw nt).2.1)), .ref m5, .ref m6, .ref m7, .ref m8, .int re, .int ro, .ref m9, .int tm])), (m5, .inl (cI, 6, .inl ((mNote x y z nn ns nw nt).2.2.1))), (m6, .inl (cI, 6, .inl ((mNote x y z nn ns nw nt).2.2.2.1))), (m7, .inl (cI, 6, .inl ((mNote x y z nn ns nw nt).2.2.2.2)))] H; rw [show nI ((mNote x y z nn ns nw nt).2.1) = nI nn from (by first | with_reducible rfl | (simp only [mNote, if_neg c1, if_neg c2, if_neg c3, if_pos c4]; done) | (simp [mNote, if_neg c1, if_neg c2, if_neg c3, if_pos c4]; done)), show (mNote x y z nn ns nw nt).2.2.1 = ns from (by first | with_reducible rfl | (simp only [mNote, if_neg c1, if_neg c2, if_neg c3, if_pos c4]; done) | (simp [mNote, if_neg c1, if_neg c2, if_neg c3, if_pos c4]; done)), show (mNote x y z nn ns nw nt).2.2.2.1 = nw from (by first | with_reducible rfl | (simp only [mNote, if_neg c1, if_neg c2, if_neg c3, if_pos c4]; done) | (simp [mNote, if_neg c1, if_neg c2, if_neg c3, if_pos c4]; done)), show (mNote x y z nn ns nw nt).2.2.2.2 = nt from (by first | with_reducible rfl | (simp only [mNote, if_neg c1, if_neg c2, if_neg c3, if_pos c4]; done) | (simp [mNote, if_neg c1, if_neg c2, if_neg c3, if_pos c4]; done))]; exact hP) hS (show (mNote x y z nn ns nw nt).1 = (-1004) from (by first | with_reducible rfl | (simp only [mNote, if_neg c1, if_neg c2, if_neg c3, if_pos c4]; done) | (simp [mNote, if_neg c1, if_neg c2, if_neg c3, if_pos c4]; done))).symm dX6_note_47
      · skip
        refine lv_sipush (v := (-1002)) hx hb dX6_note_31 (by decide) ?_
        exact ret_WI hQ hx hb hr hlk hAe () (by show va_P D vwCl [(mm, .inr (6, [.int (nI np), .ref m1, .ref m2, .int (nI nh), .ref m3, .ref m4, .int (nI ((mNote x y z nn ns nw nt).2.1)), .ref m5, .ref m6, .ref m7, .ref m8, .int re, .int ro, .ref m9, .int tm])), (m5, .inl (cI, 6, .inl ((mNote x y z nn ns nw nt).2.2.1))), (m6, .inl (cI, 6, .inl ((mNote x y z nn ns nw nt).2.2.2.1))), (m7, .inl (cI, 6, .inl ((mNote x y z nn ns nw nt).2.2.2.2)))] H; rw [show nI ((mNote x y z nn ns nw nt).2.1) = nI nn from (by first | with_reducible rfl | (simp only [mNote, if_neg c1, if_neg c2, if_pos c3]; done) | (simp [mNote, if_neg c1, if_neg c2, if_pos c3]; done)), show (mNote x y z nn ns nw nt).2.2.1 = ns from (by first | with_reducible rfl | (simp only [mNote, if_neg c1, if_neg c2, if_pos c3]; done) | (simp [mNote, if_neg c1, if_neg c2, if_pos c3]; done)), show (mNote x y z nn ns nw nt).2.2.2.1 = nw from (by first | with_reducible rfl | (simp only [mNote, if_neg c1, if_neg c2, if_pos c3]; done) | (simp [mNote, if_neg c1, if_neg c2, if_pos c3]; done)), show (mNote x y z nn ns nw nt).2.2.2.2 = nt from (by first | with_reducible rfl | (simp only [mNote, if_neg c1, if_neg c2, if_pos c3]; done) | (simp [mNote, if_neg c1, if_neg c2, if_pos c3]; done))]; exact hP) hS (show (mNote x y z nn ns nw nt).1 = (-1002) from (by first | with_reducible rfl | (simp only [mNote, if_neg c1, if_neg c2, if_pos c3]; done) | (simp [mNote, if_neg c1, if_neg c2, if_pos c3]; done))).symm dX6_note_34

set_option maxHeartbeats 4000000 in
set_option maxRecDepth 100000 in
theorem c_X6_noted (l : Launch) (D : va_G) (cI cZ : ClassId) (mm : Nat) (m1 : Nat) (m2 : Nat) (m3 : Nat) (m4 : Nat) (m5 : Nat) (m6 : Nat) (m7 : Nat) (m8 : Nat) (m9 : Nat) (np : Nat) (nh : Nat) (nn : Nat) (re : Int32) (ro : Int32) (tm : Int32) (ln : Nat → Int32) (bo : Nat → Int32) (bd : Nat → Int32) (en : Nat → Int32) (ns : Nat → Int32) (nw : Nat → Int32) (nt : Nat → Int32) (x : Int32) (y : Int32) (hnp : np ≤ 12) (hnh : nh ≤ 6) (hM : 1 ≤ np → MH ln bo bd np nh) (hnn : nn ≤ 6) : Met l yX6_noted wsX6_noted rmX6_noted (va_Pc [.ref mm, .int x, .int y] (PW D cI cZ [(mm, .inr (6, [.int (nI np), .ref m1, .ref m2, .int (nI nh), .ref m3, .ref m4, .int (nI nn), .ref m5, .ref m6, .ref m7, .ref m8, .int re, .int ro, .ref m9, .int tm])), (m1, .inl (cI, 12, .inl ln)), (m2, .inl (cI, 12, .inl bo)), (m3, .inl (cI, 18, .inl bd)), (m4, .inl (cI, 2, .inl en)), (m5, .inl (cI, 6, .inl ns)), (m6, .inl (cI, 6, .inl nw)), (m7, .inl (cI, 6, .inl nt))])) (WI (S := Int32) D (fun zr tv => zr = mNoted (mWorth ln bo bd np nh (en 0) (en 1)) x y np nn ns nw nt) (fun tv => [(mm, .inr (6, [.int (nI np), .ref m1, .ref m2, .int (nI nh), .ref m3, .ref m4, .int (nI nn), .ref m5, .ref m6, .ref m7, .ref m8, .int re, .int ro, .ref m9, .int tv])), (m1, .inl (cI, 12, .inl ln)), (m2, .inl (cI, 12, .inl bo)), (m3, .inl (cI, 18, .inl bd)), (m4, .inl (cI, 2, .inl en)), (m5, .inl (cI, 6, .inl ns)), (m6, .inl (cI, 6, .inl nw)), (m7, .inl (cI, 6, .inl nt))]) [(mm, .inr (6, [.int (nI np), .ref m1, .ref m2, .int (nI nh), .ref m3, .ref m4, .int (nI nn), .ref m5, .ref m6, .ref m7, .ref m8, .int re, .int ro, .ref m9, .int tm])), (m1, .inl (cI, 12, .inl ln)), (m2, .inl (cI, 12, .inl bo)), (m3, .inl (cI, 18, .inl bd)), (m4, .inl (cI, 2, .inl en)), (m5, .inl (cI, 6, .inl ns)), (m6, .inl (cI, 6, .inl nw)), (m7, .inl (cI, 6, .inl nt))]) 0 0 (ad [(mm, .inr (6, [.int (nI np), .ref m1, .ref m2, .int (nI nh), .ref m3, .ref m4, .int (nI nn), .ref m5, .ref m6, .ref m7, .ref m8, .int re, .int ro, .ref m9, .int tm])), (m1, .inl (cI, 12, .inl ln)), (m2, .inl (cI, 12, .inl bo)), (m3, .inl (cI, 18, .inl bd)), (m4, .inl (cI, 2, .inl en)), (m5, .inl (cI, 6, .inl ns)), (m6, .inl (cI, 6, .inl nw)), (m7, .inl (cI, 6, .inl nt))]) := by
  refine met_go (cc := cX6_noted) (maxL := 3) (ret := (some .int)) (by decide) rfl ?_ (Nat.le_of_ble_eq_true rfl)
  intro p e s m a below meth c Q hQ _ hx hb hr hml hts hown hlk hnm hpre ls hl
  have hown : s.vm.findClass RX6 = some m.cls := hown
  obtain ⟨hP, hK, hD0⟩ := hpre
  have hN := hK.2
  obtain ⟨A, hAe⟩ : ∃ A : Nat → Prop, A = ad [(mm, .inr (6, [.int (nI np), .ref m1, .ref m2, .int (nI nh), .ref m3, .ref m4, .int (nI nn), .ref m5, .ref m6, .ref m7, .ref m8, .int re, .int ro, .ref m9, .int tm])), (m1, .inl (cI, 12, .inl ln)), (m2, .inl (cI, 12, .inl bo)), (m3, .inl (cI, 18, .inl bd)), (m4, .inl (cI, 2, .inl en)), (m5, .inl (cI, 6, .inl ns)), (m6, .inl (cI, 6, .inl nw)), (m7, .inl (cI, 6, .inl nt))] := ⟨_, rfl⟩
  have hD : va_D A [(mm, .inr (6, [.int (nI np), .ref m1, .ref m2, .int (nI nh), .ref m3, .ref m4, .int (nI nn), .ref m5, .ref m6, .ref m7, .ref m8, .int re, .int ro, .ref m9, .int tm])), (m1, .inl (cI, 12, .inl ln)), (m2, .inl (cI, 12, .inl bo)), (m3, .inl (cI, 18, .inl bd)), (m4, .inl (cI, 2, .inl en)), (m5, .inl (cI, 6, .inl ns)), (m6, .inl (cI, 6, .inl nw)), (m7, .inl (cI, 6, .inl nt))] := by rw [hAe]; exact hD0.ad
  have hS : va_S A s.heap s.heap [] := va_S.rf
  have hl : lv_has ls 3 [(0, .ref mm), (1, .int x), (2, .int y)] := hl
  have k6 : ∀ w ∈ wsX60, w ∈ wsX6_noted := fun w h => List.mem_cons_of_mem _ (List.mem_append_right _ h)
  refine lv_iload_n hx hb dX6_noted_0 rfl (lv_at hl 1 rfl) ?_
  refine lv_i2l hx hb dX6_noted_1 rfl ?_
  refine lv_lconst (v := 0) hx hb dX6_noted_2 (by decide) ?_
  refine lv_aload_n hx hb dX6_noted_3 rfl (lv_at hl 0 rfl) ?_
  refine va_get (D := D) (ci := 6) (v := .int (nI nn)) (C := RX6) (T := TX6) (N := 15) hx hb hts k6 hown hK.1 hP 0 rfl rfl 6 (by decide) (hts (.fieldLink RX6 82 "BoredPipesModel" "notes" "I") (List.mem_of_getElem? (i := 1) rfl)) (fun _ h9 => h9) rfl dX6_noted_4 ?_
  refine lv_iconst (v := 1) hx hb dX6_noted_7 (by decide) ?_
  refine lv_isub hx hb dX6_noted_8 ?_
  refine lv_i2l hx hb dX6_noted_9 rfl ?_
  refine rd_i (va_runS (As := [.long x.toInt64, .long 0, .long (((nI nn) - 1).toInt64)]) (rest := []) ⟨hx, hb, hml, hown, hts⟩ (c_X6_in l D cI cZ x.toInt64 0 (((nI nn) - 1).toInt64)) (va_cwS 3 hts gX6_noted_X6_in rfl rfl rfl hdV_X6_in.2 ⟨Nat.le_of_ble_eq_true rfl, Nat.le_of_ble_eq_true rfl⟩) (PR.S (hP.sub [] rfl) hK) rfl rfl hl.1 rfl (lv_room (Nat.le_of_ble_eq_true rfl)) dX6_noted_10 ⟨Nat.le_of_ble_eq_true rfl, Nat.le_of_ble_eq_true rfl⟩) hP hS (fun H locs hP hS => ?_)
  refine lv_if_ne (tgt := 20) hx hb dX6_noted_13 (by decide) (fun c1 => ?_) (fun c1 => ?_)
  · skip
    obtain ⟨k, hk, rfl⟩ := fInL_hole c1 (by omega)
    refine lv_iload_n hx hb dX6_noted_20 rfl (lv_at hl 2 rfl) ?_
    by_cases c2 : y = 0
    · refine lv_tableIn (off := 35) (tgt := 56) hx hb dX6_noted_21 (by rw [c2]; decide) (by rw [c2]; decide) (by rw [c2]; rfl) (by decide) ?_
      refine lv_aload_n hx hb dX6_noted_56 rfl (lv_at hl 0 rfl) ?_
      refine va_get (D := D) (ci := 6) (v := .ref m5) (C := RX6) (T := TX6) (N := 15) hx hb hts k6 hown hK.1 hP 0 rfl rfl 7 (by decide) (hts (.fieldLink RX6 22 "BoredPipesModel" "opens" "[I") (List.mem_of_getElem? (i := 2) rfl)) (fun _ h9 => h9) rfl dX6_noted_57 ?_
      refine lv_iload_n hx hb dX6_noted_60 rfl (lv_at hl 1 rfl) ?_
      refine iald_n (k := k) hx hb hK.1 hP 5 rfl (by omega) (by decide) dX6_noted_61 ?_
      exact ret_WI hQ hx hb hr hlk hAe tm hP hS (show mNoted (mWorth ln bo bd np nh (en 0) (en 1)) (nI k) y np nn ns nw nt = ns k from (by first | with_reducible rfl | (simp only [mNoted, mMissK, nI_clamp (show k < 2147483648 from by omega), if_neg c1, if_pos c2]; done) | (simp [mNoted, mMissK, nI_clamp (show k < 2147483648 from by omega), if_neg c1, if_pos c2]; done))).symm dX6_noted_62
    by_cases c3 : y = 1
    · refine lv_tableIn (off := 42) (tgt := 63) hx hb dX6_noted_21 (by rw [c3]; decide) (by rw [c3]; decide) (by rw [c3]; rfl) (by decide) ?_
      refine lv_aload_n hx hb dX6_noted_63 rfl (lv_at hl 0 rfl) ?_
      refine va_get (D := D) (ci := 6) (v := .ref m6) (C := RX6) (T := TX6) (N := 15) hx hb hts k6 hown hK.1 hP 0 rfl rfl 8 (by decide) (hts (.fieldLink RX6 25 "BoredPipesModel" "whiches" "[I") (List.mem_of_getElem? (i := 3) rfl)) (fun _ h9 => h9) rfl dX6_noted_64 ?_
      refine lv_iload_n hx hb dX6_noted_67 rfl (lv_at hl 1 rfl) ?_
      refine iald_n (k := k) hx hb hK.1 hP 6 rfl (by omega) (by decide) dX6_noted_68 ?_
      exact ret_WI hQ hx hb hr hlk hAe tm hP hS (show mNoted (mWorth ln bo bd np nh (en 0) (en 1)) (nI k) y np nn ns nw nt = nw k from (by first | with_reducible rfl | (simp only [mNoted, mMissK, nI_clamp (show k < 2147483648 from by omega), if_neg c1, if_neg c2, if_pos c3]; done) | (simp [mNoted, mMissK, nI_clamp (show k < 2147483648 from by omega), if_neg c1, if_neg c2, if_pos c3]; done))).symm dX6_noted_69
    by_cases c4 : y = 2
    · refine lv_tableIn (off := 49) (tgt := 70) hx hb dX6_noted_21 (by rw [c4]; decide) (by rw [c4]; decide) (by rw [c4]; rfl) (by decide) ?_
      refine lv_aload_n hx hb dX6_noted_70 rfl (lv_at hl 0 rfl) ?_
      refine va_get (D := D) (ci := 6) (v := .ref m7) (C := RX6) (T := TX6) (N := 15) hx hb hts k6 hown hK.1 hP 0 rfl rfl 9 (by decide) (hts (.fieldLink RX6 28 "BoredPipesModel" "wanteds" "[I") (List.mem_of_getElem? (i := 4) rfl)) (fun _ h9 => h9) rfl dX6_noted_71 ?_
      refine lv_iload_n hx hb dX6_noted_74 rfl (lv_at hl 1 rfl) ?_
      refine iald_n (k := k) hx hb hK.1 hP 7 rfl (by omega) (by decide) dX6_noted_75 ?_
      exact ret_WI hQ hx hb hr hlk hAe tm hP hS (show mNoted (mWorth ln bo bd np nh (en 0) (en 1)) (nI k) y np nn ns nw nt = nt k from (by first | with_reducible rfl | (simp only [mNoted, mMissK, nI_clamp (show k < 2147483648 from by omega), if_neg c1, if_neg c2, if_neg c3, if_pos c4]; done) | (simp [mNoted, mMissK, nI_clamp (show k < 2147483648 from by omega), if_neg c1, if_neg c2, if_neg c3, if_pos c4]; done))).symm dX6_noted_76
    by_cases c5 : y = 3
    · refine lv_tableIn (off := 56) (tgt := 77) hx hb dX6_noted_21 (by rw [c5]; decide) (by rw [c5]; decide) (by rw [c5]; rfl) (by decide) ?_
      refine lv_aload_n hx hb dX6_noted_77 rfl (lv_at hl 0 rfl) ?_
      refine lv_aload_n hx hb dX6_noted_78 rfl (lv_at hl 0 rfl) ?_
      refine va_get (D := D) (ci := 6) (v := .ref m5) (C := RX6) (T := TX6) (N := 15) hx hb hts k6 hown hK.1 hP 0 rfl rfl 7 (by decide) (hts (.fieldLink RX6 22 "BoredPipesModel" "opens" "[I") (List.mem_of_getElem? (i := 2) rfl)) (fun _ h9 => h9) rfl dX6_noted_79 ?_
      refine lv_iload_n hx hb dX6_noted_82 rfl (lv_at hl 1 rfl) ?_
      refine iald_n (k := k) hx hb hK.1 hP 5 rfl (by omega) (by decide) dX6_noted_83 ?_
      refine lv_aload_n hx hb dX6_noted_84 rfl (lv_at hl 0 rfl) ?_
      refine va_get (D := D) (ci := 6) (v := .ref m6) (C := RX6) (T := TX6) (N := 15) hx hb hts k6 hown hK.1 hP 0 rfl rfl 8 (by decide) (hts (.fieldLink RX6 25 "BoredPipesModel" "whiches" "[I") (List.mem_of_getElem? (i := 3) rfl)) (fun _ h9 => h9) rfl dX6_noted_85 ?_
      refine lv_iload_n hx hb dX6_noted_88 rfl (lv_at hl 1 rfl) ?_
      refine iald_n (k := k) hx hb hK.1 hP 6 rfl (by omega) (by decide) dX6_noted_89 ?_
      refine wr_i (va_runV (As := [.int (ns k), .int (nw k)]) (rest := []) ⟨hx, hb, hml, hown, hts⟩ (c_X6_toneOf l D cI cZ mm m1 m2 m3 m4 m5 m6 m7 m8 m9 np nh nn re ro tm ln bo bd en (ns k) (nw k) (by first | omega | exact hnp) (by first | omega | exact hnh) (by first | omega | exact hM)) (cwV 2 hts gX6_noted_X6_toneOf rfl rfl rfl hdV_X6_toneOf ⟨Nat.le_of_ble_eq_true rfl, Nat.le_of_ble_eq_true rfl⟩) (PW.V (hP.sub [0, 1, 2, 3, 4] rfl) hK ((hD.sub [0, 1, 2, 3, 4] (by decide) rfl).weaken (fun _ _ _ _ => trivial)) hP (q0 := 0) rfl rfl) rfl rfl hl.1 rfl (lv_room (Nat.le_of_ble_eq_true rfl)) dX6_noted_90 ⟨Nat.le_of_ble_eq_true rfl, Nat.le_of_ble_eq_true rfl⟩) hP hD hS [0, 1, 2, 3, 4] rfl (fun _ => rfl) (fun r7 u6 H locs hu6 hP hD hS => ?_)
      have hu6r := hu6
      subst hu6r
      have hP : va_P D vwCl [(mm, .inr (6, [.int (nI np), .ref m1, .ref m2, .int (nI nh), .ref m3, .ref m4, .int (nI nn), .ref m5, .ref m6, .ref m7, .ref m8, .int re, .int ro, .ref m9, .int ((mToneOf (mWorth ln bo bd np nh (en 0) (en 1) (ns k)) (nw k) np).2)])), (m1, .inl (cI, 12, .inl ln)), (m2, .inl (cI, 12, .inl bo)), (m3, .inl (cI, 18, .inl bd)), (m4, .inl (cI, 2, .inl en)), (m5, .inl (cI, 6, .inl ns)), (m6, .inl (cI, 6, .inl nw)), (m7, .inl (cI, 6, .inl nt))] H := hP
      have hD : va_D A [(mm, .inr (6, [.int (nI np), .ref m1, .ref m2, .int (nI nh), .ref m3, .ref m4, .int (nI nn), .ref m5, .ref m6, .ref m7, .ref m8, .int re, .int ro, .ref m9, .int ((mToneOf (mWorth ln bo bd np nh (en 0) (en 1) (ns k)) (nw k) np).2)])), (m1, .inl (cI, 12, .inl ln)), (m2, .inl (cI, 12, .inl bo)), (m3, .inl (cI, 18, .inl bd)), (m4, .inl (cI, 2, .inl en)), (m5, .inl (cI, 6, .inl ns)), (m6, .inl (cI, 6, .inl nw)), (m7, .inl (cI, 6, .inl nt))] := hD
      exact ret_WI hQ hx hb hr hlk hAe ((mToneOf (mWorth ln bo bd np nh (en 0) (en 1) (ns k)) (nw k) np).2) hP hS (show mNoted (mWorth ln bo bd np nh (en 0) (en 1)) (nI k) y np nn ns nw nt = (mToneOf (mWorth ln bo bd np nh (en 0) (en 1) (ns k)) (nw k) np).1 from (by first | with_reducible rfl | (simp only [mNoted, mMissK, nI_clamp (show k < 2147483648 from by omega), if_neg c1, if_neg c2, if_neg c3, if_neg c4, if_pos c5]; done) | (simp [mNoted, mMissK, nI_clamp (show k < 2147483648 from by omega), if_neg c1, if_neg c2, if_neg c3, if_neg c4, if_pos c5]; done))).symm dX6_noted_93
    by_cases c8 : y = 4
    · refine lv_tableIn (off := 73) (tgt := 94) hx hb dX6_noted_21 (by rw [c8]; decide) (by rw [c8]; decide) (by rw [c8]; rfl) (by decide) ?_
      refine lv_aload_n hx hb dX6_noted_94 rfl (lv_at hl 0 rfl) ?_
      refine lv_iload_n hx hb dX6_noted_95 rfl (lv_at hl 1 rfl) ?_
      refine wr_i0 (va_runV (As := [.int (nI k)]) (rest := []) ⟨hx, hb, hml, hown, hts⟩ (c_X6_missOf l D cI cZ mm m1 m2 m3 m4 m5 m6 m7 m8 m9 np nh nn re ro tm ln bo bd en ns nw nt k (by first | omega | exact hnp) (by first | omega | exact hnh) (by first | omega | exact hM) (by omega)) (cwV 1 hts gX6_noted_X6_missOf rfl rfl rfl hdV_X6_missOf ⟨Nat.le_of_ble_eq_true rfl, Nat.le_of_ble_eq_true rfl⟩) (PW.V hP hK (hD.weaken (fun _ _ _ _ => trivial)) hP (q0 := 0) rfl rfl) rfl rfl hl.1 rfl (lv_room (Nat.le_of_ble_eq_true rfl)) dX6_noted_96 ⟨Nat.le_of_ble_eq_true rfl, Nat.le_of_ble_eq_true rfl⟩) hD hS (fun _ => rfl) (fun r10 u9 H locs hu9 hP hD hS => ?_)
      have hu9r := hu9
      subst hu9r
      have hP : va_P D vwCl [(mm, .inr (6, [.int (nI np), .ref m1, .ref m2, .int (nI nh), .ref m3, .ref m4, .int (nI nn), .ref m5, .ref m6, .ref m7, .ref m8, .int re, .int ro, .ref m9, .int u9])), (m1, .inl (cI, 12, .inl ln)), (m2, .inl (cI, 12, .inl bo)), (m3, .inl (cI, 18, .inl bd)), (m4, .inl (cI, 2, .inl en)), (m5, .inl (cI, 6, .inl ns)), (m6, .inl (cI, 6, .inl nw)), (m7, .inl (cI, 6, .inl nt))] H := hP
      have hD : va_D A [(mm, .inr (6, [.int (nI np), .ref m1, .ref m2, .int (nI nh), .ref m3, .ref m4, .int (nI nn), .ref m5, .ref m6, .ref m7, .ref m8, .int re, .int ro, .ref m9, .int u9])), (m1, .inl (cI, 12, .inl ln)), (m2, .inl (cI, 12, .inl bo)), (m3, .inl (cI, 18, .inl bd)), (m4, .inl (cI, 2, .inl en)), (m5, .inl (cI, 6, .inl ns)), (m6, .inl (cI, 6, .inl nw)), (m7, .inl (cI, 6, .inl nt))] := hD
      exact ret_WI hQ hx hb hr hlk hAe u9 hP hS (show mNoted (mWorth ln bo bd np nh (en 0) (en 1)) (nI k) y np nn ns nw nt = (mMissK ln bo bd np nh (en 0) (en 1) ns nw nt) k from (by first | with_reducible rfl | (simp only [mNoted, mMissK, nI_clamp (show k < 2147483648 from by omega), if_neg c1, if_neg c2, if_neg c3, if_neg c4, if_neg c5, if_pos c8]; done) | (simp [mNoted, mMissK, nI_clamp (show k < 2147483648 from by omega), if_neg c1, if_neg c2, if_neg c3, if_neg c4, if_neg c5, if_pos c8]; done))).symm dX6_noted_99
    refine lv_tableOut (tgt := 100) hx hb dX6_noted_21 (by have z0 := lv_neT (a := 0) c2 (by decide); have z1 := lv_neT (a := 1) c3 (by decide); have z2 := lv_neT (a := 2) c4 (by decide); have z3 := lv_neT (a := 3) c5 (by decide); have z4 := lv_neT (a := 4) c8 (by decide); omega) (by decide) ?_
    refine lv_sipush (v := (-1002)) hx hb dX6_noted_100 (by decide) ?_
    exact ret_WI hQ hx hb hr hlk hAe tm hP hS (show mNoted (mWorth ln bo bd np nh (en 0) (en 1)) (nI k) y np nn ns nw nt = (-1002) from (by first | with_reducible rfl | (simp only [mNoted, mMissK, nI_clamp (show k < 2147483648 from by omega), if_neg c1, if_neg c2, if_neg c3, if_neg c4, if_neg c5, if_neg c8]; done) | (simp [mNoted, mMissK, nI_clamp (show k < 2147483648 from by omega), if_neg c1, if_neg c2, if_neg c3, if_neg c4, if_neg c5, if_neg c8]; done))).symm dX6_noted_103
  · skip
    refine lv_sipush (v := (-1001)) hx hb dX6_noted_16 (by decide) ?_
    exact ret_WI hQ hx hb hr hlk hAe tm hP hS (show mNoted (mWorth ln bo bd np nh (en 0) (en 1)) x y np nn ns nw nt = (-1001) from (by first | with_reducible rfl | (simp only [mNoted, mMissK, if_pos c1]; done) | (simp [mNoted, mMissK, if_pos c1]; done))).symm dX6_noted_19

set_option maxHeartbeats 4000000 in
set_option maxRecDepth 100000 in
theorem c_X6_drill (l : Launch) (D : va_G) (cI cZ : ClassId) (mm : Nat) (m1 : Nat) (m2 : Nat) (m3 : Nat) (m4 : Nat) (m5 : Nat) (m6 : Nat) (m7 : Nat) (m8 : Nat) (m9 : Nat) (np : Nat) (nh : Nat) (nn : Nat) (re : Int32) (ro : Int32) (tm : Int32) (db : Nat → Int32) (x : Int32) (y : Int32)  : Met l yX6_drill wsX6_drill rmX6_drill (va_Pc [.ref mm, .int x, .int y] (PW D cI cZ [(mm, .inr (6, [.int (nI np), .ref m1, .ref m2, .int (nI nh), .ref m3, .ref m4, .int (nI nn), .ref m5, .ref m6, .ref m7, .ref m8, .int re, .int ro, .ref m9, .int tm])), (m8, .inl (cZ, 61, .inl db))])) (WI (S := Unit) D (fun zr _ => zr = (mDrill x y db).1) (fun _ => [(mm, .inr (6, [.int (nI np), .ref m1, .ref m2, .int (nI nh), .ref m3, .ref m4, .int (nI nn), .ref m5, .ref m6, .ref m7, .ref m8, .int re, .int ro, .ref m9, .int tm])), (m8, .inl (cZ, 61, .inl ((mDrill x y db).2)))]) [(mm, .inr (6, [.int (nI np), .ref m1, .ref m2, .int (nI nh), .ref m3, .ref m4, .int (nI nn), .ref m5, .ref m6, .ref m7, .ref m8, .int re, .int ro, .ref m9, .int tm])), (m8, .inl (cZ, 61, .inl db))]) 0 0 (ad [(mm, .inr (6, [.int (nI np), .ref m1, .ref m2, .int (nI nh), .ref m3, .ref m4, .int (nI nn), .ref m5, .ref m6, .ref m7, .ref m8, .int re, .int ro, .ref m9, .int tm])), (m8, .inl (cZ, 61, .inl db))]) := by
  refine met_go (cc := cX6_drill) (maxL := 3) (ret := (some .int)) (by decide) rfl ?_ (Nat.le_of_ble_eq_true rfl)
  intro p e s m a below meth c Q hQ _ hx hb hr hml hts hown hlk hnm hpre ls hl
  have hown : s.vm.findClass RX6 = some m.cls := hown
  obtain ⟨hP, hK, hD0⟩ := hpre
  have hN := hK.2
  obtain ⟨A, hAe⟩ : ∃ A : Nat → Prop, A = ad [(mm, .inr (6, [.int (nI np), .ref m1, .ref m2, .int (nI nh), .ref m3, .ref m4, .int (nI nn), .ref m5, .ref m6, .ref m7, .ref m8, .int re, .int ro, .ref m9, .int tm])), (m8, .inl (cZ, 61, .inl db))] := ⟨_, rfl⟩
  have hD : va_D A [(mm, .inr (6, [.int (nI np), .ref m1, .ref m2, .int (nI nh), .ref m3, .ref m4, .int (nI nn), .ref m5, .ref m6, .ref m7, .ref m8, .int re, .int ro, .ref m9, .int tm])), (m8, .inl (cZ, 61, .inl db))] := by rw [hAe]; exact hD0.ad
  have hS : va_S A s.heap s.heap [] := va_S.rf
  have hl : lv_has ls 3 [(0, .ref mm), (1, .int x), (2, .int y)] := hl
  have k6 : ∀ w ∈ wsX60, w ∈ wsX6_drill := fun w h => List.mem_cons_of_mem _ (List.mem_append_right _ h)
  refine lv_iload_n hx hb dX6_drill_0 rfl (lv_at hl 1 rfl) ?_
  refine lv_i2l hx hb dX6_drill_1 rfl ?_
  refine lv_lconst (v := 1) hx hb dX6_drill_2 (by decide) ?_
  refine lv_ldc2 hx hb hown (hts (.constantLong RX6 65 (60)) (List.mem_of_getElem? (i := 1) rfl)) dX6_drill_3 ?_
  refine rd_i (va_runS (As := [.long x.toInt64, .long 1, .long 60]) (rest := []) ⟨hx, hb, hml, hown, hts⟩ (c_X6_in l D cI cZ x.toInt64 1 60) (va_cwS 3 hts gX6_drill_X6_in rfl rfl rfl hdV_X6_in.2 ⟨Nat.le_of_ble_eq_true rfl, Nat.le_of_ble_eq_true rfl⟩) (PR.S (hP.sub [] rfl) hK) rfl rfl hl.1 rfl (lv_room (Nat.le_of_ble_eq_true rfl)) dX6_drill_6 ⟨Nat.le_of_ble_eq_true rfl, Nat.le_of_ble_eq_true rfl⟩) hP hS (fun H locs hP hS => ?_)
  refine lv_if_ne (tgt := 16) hx hb dX6_drill_9 (by decide) (fun c1 => ?_) (fun c1 => ?_)
  · skip
    obtain ⟨k, hk1, hk, rfl⟩ := fInL_rng (a := 1) (b := 60) c1 (by decide) (by decide)
    refine lv_aload_n hx hb dX6_drill_16 rfl (lv_at hl 0 rfl) ?_
    refine va_get (D := D) (ci := 6) (v := .ref m8) (C := RX6) (T := TX6) (N := 15) hx hb hts k6 hown hK.1 hP 0 rfl rfl 10 (by decide) (hts (.fieldLink RX6 31 "BoredPipesModel" "drills" "[Z") (List.mem_of_getElem? (i := 2) rfl)) (fun _ h9 => h9) rfl dX6_drill_17 ?_
    refine lv_iload_n hx hb dX6_drill_20 rfl (lv_at hl 1 rfl) ?_
    refine lv_iload_n hx hb dX6_drill_21 rfl (lv_at hl 2 rfl) ?_
    refine zast_n (k := k) hx hb hK.1 hP hD hS 1 rfl (by omega) (by decide) dX6_drill_22 (fun H locs hP hD hS => ?_)
    have hP : va_P D vwCl [(mm, .inr (6, [.int (nI np), .ref m1, .ref m2, .int (nI nh), .ref m3, .ref m4, .int (nI nn), .ref m5, .ref m6, .ref m7, .ref m8, .int re, .int ro, .ref m9, .int tm])), (m8, .inl (cZ, 61, .inl (upd db k (vp_nar .boolean y))))] H := hP
    have hD : va_D A [(mm, .inr (6, [.int (nI np), .ref m1, .ref m2, .int (nI nh), .ref m3, .ref m4, .int (nI nn), .ref m5, .ref m6, .ref m7, .ref m8, .int re, .int ro, .ref m9, .int tm])), (m8, .inl (cZ, 61, .inl (upd db k (vp_nar .boolean y))))] := hD
    refine lv_aload_n hx hb dX6_drill_23 rfl (lv_at hl 0 rfl) ?_
    refine rd_i (va_runV (As := []) (rest := []) ⟨hx, hb, hml, hown, hts⟩ (c_X6_drillMany l D cI cZ mm m1 m2 m3 m4 m5 m6 m7 m8 m9 np nh nn re ro tm (upd db k (vp_nar .boolean y))) (cwV 0 hts gX6_drill_X6_drillMany rfl rfl rfl hdV_X6_drillMany ⟨Nat.le_of_ble_eq_true rfl, Nat.le_of_ble_eq_true rfl⟩) (PR.V hP hK hP (q0 := 0) rfl rfl) rfl rfl hl.1 rfl (lv_room (Nat.le_of_ble_eq_true rfl)) dX6_drill_24 ⟨Nat.le_of_ble_eq_true rfl, Nat.le_of_ble_eq_true rfl⟩) hP hS (fun H locs hP hS => ?_)
    exact ret_WI hQ hx hb hr hlk hAe () (by show va_P D vwCl [(mm, .inr (6, [.int (nI np), .ref m1, .ref m2, .int (nI nh), .ref m3, .ref m4, .int (nI nn), .ref m5, .ref m6, .ref m7, .ref m8, .int re, .int ro, .ref m9, .int tm])), (m8, .inl (cZ, 61, .inl ((mDrill (nI k) y db).2)))] H; rw [show (mDrill (nI k) y db).2 = upd db k (vp_nar .boolean y) from (by first | with_reducible rfl | (simp only [mDrill, nI_clamp (show k < 2147483648 from by omega), if_neg c1]; done) | (simp [mDrill, nI_clamp (show k < 2147483648 from by omega), if_neg c1]; done))]; exact hP) hS (show (mDrill (nI k) y db).1 = mDr (upd db k (vp_nar .boolean y)) 60 1 0 from (by first | with_reducible rfl | (simp only [mDrill, nI_clamp (show k < 2147483648 from by omega), if_neg c1]; done) | (simp [mDrill, nI_clamp (show k < 2147483648 from by omega), if_neg c1]; done))).symm dX6_drill_27
  · skip
    refine lv_sipush (v := (-1002)) hx hb dX6_drill_12 (by decide) ?_
    exact ret_WI hQ hx hb hr hlk hAe () (by show va_P D vwCl [(mm, .inr (6, [.int (nI np), .ref m1, .ref m2, .int (nI nh), .ref m3, .ref m4, .int (nI nn), .ref m5, .ref m6, .ref m7, .ref m8, .int re, .int ro, .ref m9, .int tm])), (m8, .inl (cZ, 61, .inl ((mDrill x y db).2)))] H; rw [show (mDrill x y db).2 = db from (by first | with_reducible rfl | (simp only [mDrill, if_pos c1]; done) | (simp [mDrill, if_pos c1]; done))]; exact hP) hS (show (mDrill x y db).1 = (-1002) from (by first | with_reducible rfl | (simp only [mDrill, if_pos c1]; done) | (simp [mDrill, if_pos c1]; done))).symm dX6_drill_15

set_option maxHeartbeats 4000000 in
set_option maxRecDepth 100000 in
theorem c_X6_reach (l : Launch) (D : va_G) (cI cZ : ClassId) (mm : Nat) (m1 : Nat) (m2 : Nat) (m3 : Nat) (m4 : Nat) (m5 : Nat) (m6 : Nat) (m7 : Nat) (m8 : Nat) (m9 : Nat) (np : Nat) (nh : Nat) (nn : Nat) (re : Int32) (ro : Int32) (tm : Int32) (x : Int32)  : Met l yX6_reach wsX6_reach rmX6_reach (va_Pc [.ref mm, .int x] (PW D cI cZ [(mm, .inr (6, [.int (nI np), .ref m1, .ref m2, .int (nI nh), .ref m3, .ref m4, .int (nI nn), .ref m5, .ref m6, .ref m7, .ref m8, .int re, .int ro, .ref m9, .int tm]))])) (WI (S := Unit) D (fun zr _ => zr = (mReach x re).1) (fun _ => [(mm, .inr (6, [.int (nI np), .ref m1, .ref m2, .int (nI nh), .ref m3, .ref m4, .int (nI nn), .ref m5, .ref m6, .ref m7, .ref m8, .int ((mReach x re).2), .int ro, .ref m9, .int tm]))]) [(mm, .inr (6, [.int (nI np), .ref m1, .ref m2, .int (nI nh), .ref m3, .ref m4, .int (nI nn), .ref m5, .ref m6, .ref m7, .ref m8, .int re, .int ro, .ref m9, .int tm]))]) 0 0 (ad [(mm, .inr (6, [.int (nI np), .ref m1, .ref m2, .int (nI nh), .ref m3, .ref m4, .int (nI nn), .ref m5, .ref m6, .ref m7, .ref m8, .int re, .int ro, .ref m9, .int tm]))]) := by
  refine met_go (cc := cX6_reach) (maxL := 3) (ret := (some .int)) (by decide) rfl ?_ (Nat.le_of_ble_eq_true rfl)
  intro p e s m a below meth c Q hQ _ hx hb hr hml hts hown hlk hnm hpre ls hl
  have hown : s.vm.findClass RX6 = some m.cls := hown
  obtain ⟨hP, hK, hD0⟩ := hpre
  have hN := hK.2
  obtain ⟨A, hAe⟩ : ∃ A : Nat → Prop, A = ad [(mm, .inr (6, [.int (nI np), .ref m1, .ref m2, .int (nI nh), .ref m3, .ref m4, .int (nI nn), .ref m5, .ref m6, .ref m7, .ref m8, .int re, .int ro, .ref m9, .int tm]))] := ⟨_, rfl⟩
  have hD : va_D A [(mm, .inr (6, [.int (nI np), .ref m1, .ref m2, .int (nI nh), .ref m3, .ref m4, .int (nI nn), .ref m5, .ref m6, .ref m7, .ref m8, .int re, .int ro, .ref m9, .int tm]))] := by rw [hAe]; exact hD0.ad
  have hS : va_S A s.heap s.heap [] := va_S.rf
  have hl : lv_has ls 3 [(0, .ref mm), (1, .int x)] := hl
  have k6 : ∀ w ∈ wsX60, w ∈ wsX6_reach := fun w h => List.mem_cons_of_mem _ (List.mem_append_right _ h)
  refine lv_iload_n hx hb dX6_reach_0 rfl (lv_at hl 1 rfl) ?_
  refine lv_i2l hx hb dX6_reach_1 rfl ?_
  refine lv_lconst (v := 1) hx hb dX6_reach_2 (by decide) ?_
  refine lv_ldc2 hx hb hown (hts (.constantLong RX6 51 (100)) (List.mem_of_getElem? (i := 1) rfl)) dX6_reach_3 ?_
  refine rd_i (va_runS (As := [.long x.toInt64, .long 1, .long 100]) (rest := []) ⟨hx, hb, hml, hown, hts⟩ (c_X6_in l D cI cZ x.toInt64 1 100) (va_cwS 3 hts gX6_reach_X6_in rfl rfl rfl hdV_X6_in.2 ⟨Nat.le_of_ble_eq_true rfl, Nat.le_of_ble_eq_true rfl⟩) (PR.S (hP.sub [] rfl) hK) rfl rfl hl.1 rfl (lv_room (Nat.le_of_ble_eq_true rfl)) dX6_reach_6 ⟨Nat.le_of_ble_eq_true rfl, Nat.le_of_ble_eq_true rfl⟩) hP hS (fun H locs hP hS => ?_)
  refine lv_if_ne (tgt := 16) hx hb dX6_reach_9 (by decide) (fun c1 => ?_) (fun c1 => ?_)
  · skip
    refine lv_aload_n hx hb dX6_reach_16 rfl (lv_at hl 0 rfl) ?_
    refine va_get (D := D) (ci := 6) (v := .int re) (C := RX6) (T := TX6) (N := 15) hx hb hts k6 hown hK.1 hP 0 rfl rfl 11 (by decide) (hts (.fieldLink RX6 35 "BoredPipesModel" "reach" "I") (List.mem_of_getElem? (i := 2) rfl)) (fun _ h9 => h9) rfl dX6_reach_17 ?_
    refine lv_istore_n (lv' := [(2, .int re), (0, .ref mm), (1, .int x)]) hx hb dX6_reach_20 rfl hl (by decide) rfl (fun ls hl => ?_)
    refine lv_aload_n hx hb dX6_reach_21 rfl (lv_at hl 1 rfl) ?_
    refine lv_iload_n hx hb dX6_reach_22 rfl (lv_at hl 2 rfl) ?_
    refine va_put (D := D) (ci := 6) (v := .int x) (ty := .int) (C := RX6) (T := TX6) (N := 15) hx hb hts k6 tyX6 tyX6_ok nmX6 hown hK.1 hP hD hS 0 rfl rfl 11 (by decide) (hts (.fieldLink RX6 35 "BoredPipesModel" "reach" "I") (List.mem_of_getElem? (i := 2) rfl)) (fun _ h9 => h9) rfl (tyX6_ok 11 (by decide)) rfl rfl (Nat.le_of_ble_eq_true rfl) dX6_reach_23 (fun H locs hP hD hS => ?_)
    have hP : va_P D vwCl [(mm, .inr (6, [.int (nI np), .ref m1, .ref m2, .int (nI nh), .ref m3, .ref m4, .int (nI nn), .ref m5, .ref m6, .ref m7, .ref m8, .int x, .int ro, .ref m9, .int tm]))] H := hP
    have hD : va_D A [(mm, .inr (6, [.int (nI np), .ref m1, .ref m2, .int (nI nh), .ref m3, .ref m4, .int (nI nn), .ref m5, .ref m6, .ref m7, .ref m8, .int x, .int ro, .ref m9, .int tm]))] := hD
    refine lv_iload_n hx hb dX6_reach_26 rfl (lv_at hl 0 rfl) ?_
    exact ret_WI hQ hx hb hr hlk hAe () (by show va_P D vwCl [(mm, .inr (6, [.int (nI np), .ref m1, .ref m2, .int (nI nh), .ref m3, .ref m4, .int (nI nn), .ref m5, .ref m6, .ref m7, .ref m8, .int ((mReach x re).2), .int ro, .ref m9, .int tm]))] H; rw [show (mReach x re).2 = x from (by first | with_reducible rfl | (simp only [mReach, if_neg c1]; done) | (simp [mReach, if_neg c1]; done))]; exact hP) hS (show (mReach x re).1 = re from (by first | with_reducible rfl | (simp only [mReach, if_neg c1]; done) | (simp [mReach, if_neg c1]; done))).symm dX6_reach_27
  · skip
    refine lv_sipush (v := (-1002)) hx hb dX6_reach_12 (by decide) ?_
    exact ret_WI hQ hx hb hr hlk hAe () (by show va_P D vwCl [(mm, .inr (6, [.int (nI np), .ref m1, .ref m2, .int (nI nh), .ref m3, .ref m4, .int (nI nn), .ref m5, .ref m6, .ref m7, .ref m8, .int ((mReach x re).2), .int ro, .ref m9, .int tm]))] H; rw [show (mReach x re).2 = re from (by first | with_reducible rfl | (simp only [mReach, if_pos c1]; done) | (simp [mReach, if_pos c1]; done))]; exact hP) hS (show (mReach x re).1 = (-1002) from (by first | with_reducible rfl | (simp only [mReach, if_pos c1]; done) | (simp [mReach, if_pos c1]; done))).symm dX6_reach_15

set_option maxHeartbeats 4000000 in
set_option maxRecDepth 100000 in
theorem c_X6_count (l : Launch) (D : va_G) (cI cZ : ClassId) (mm : Nat) (m1 : Nat) (m2 : Nat) (m3 : Nat) (m4 : Nat) (m5 : Nat) (m6 : Nat) (m7 : Nat) (m8 : Nat) (m9 : Nat) (np : Nat) (nh : Nat) (nn : Nat) (re : Int32) (ro : Int32) (tm : Int32) (ln : Nat → Int32) (bo : Nat → Int32) (bd : Nat → Int32) (en : Nat → Int32) (ns : Nat → Int32) (nw : Nat → Int32) (nt : Nat → Int32) (db : Nat → Int32) (y : Int32) (hnp : np ≤ 12) (hnh : nh ≤ 6) (hM : 1 ≤ np → MH ln bo bd np nh) (hnn : nn ≤ 6) : Met l yX6_count wsX6_count rmX6_count (va_Pc [.ref mm, .int y] (PW D cI cZ [(mm, .inr (6, [.int (nI np), .ref m1, .ref m2, .int (nI nh), .ref m3, .ref m4, .int (nI nn), .ref m5, .ref m6, .ref m7, .ref m8, .int re, .int ro, .ref m9, .int tm])), (m1, .inl (cI, 12, .inl ln)), (m2, .inl (cI, 12, .inl bo)), (m3, .inl (cI, 18, .inl bd)), (m4, .inl (cI, 2, .inl en)), (m5, .inl (cI, 6, .inl ns)), (m6, .inl (cI, 6, .inl nw)), (m7, .inl (cI, 6, .inl nt)), (m8, .inl (cZ, 61, .inl db))])) (WI (S := Int32) D (fun zr tv => zr = mCount y np nh nn (fSum ln np 0 0) (en 0) (en 1) re (mDr db 60 1 0) (mGr (mMissK ln bo bd np nh (en 0) (en 1) ns nw nt) nn 0 0) (mSu (mMissK ln bo bd np nh (en 0) (en 1) ns nw nt) nn 0 0) ro) (fun tv => [(mm, .inr (6, [.int (nI np), .ref m1, .ref m2, .int (nI nh), .ref m3, .ref m4, .int (nI nn), .ref m5, .ref m6, .ref m7, .ref m8, .int re, .int ro, .ref m9, .int tv])), (m1, .inl (cI, 12, .inl ln)), (m2, .inl (cI, 12, .inl bo)), (m3, .inl (cI, 18, .inl bd)), (m4, .inl (cI, 2, .inl en)), (m5, .inl (cI, 6, .inl ns)), (m6, .inl (cI, 6, .inl nw)), (m7, .inl (cI, 6, .inl nt)), (m8, .inl (cZ, 61, .inl db))]) [(mm, .inr (6, [.int (nI np), .ref m1, .ref m2, .int (nI nh), .ref m3, .ref m4, .int (nI nn), .ref m5, .ref m6, .ref m7, .ref m8, .int re, .int ro, .ref m9, .int tm])), (m1, .inl (cI, 12, .inl ln)), (m2, .inl (cI, 12, .inl bo)), (m3, .inl (cI, 18, .inl bd)), (m4, .inl (cI, 2, .inl en)), (m5, .inl (cI, 6, .inl ns)), (m6, .inl (cI, 6, .inl nw)), (m7, .inl (cI, 6, .inl nt)), (m8, .inl (cZ, 61, .inl db))]) 0 0 (ad [(mm, .inr (6, [.int (nI np), .ref m1, .ref m2, .int (nI nh), .ref m3, .ref m4, .int (nI nn), .ref m5, .ref m6, .ref m7, .ref m8, .int re, .int ro, .ref m9, .int tm])), (m1, .inl (cI, 12, .inl ln)), (m2, .inl (cI, 12, .inl bo)), (m3, .inl (cI, 18, .inl bd)), (m4, .inl (cI, 2, .inl en)), (m5, .inl (cI, 6, .inl ns)), (m6, .inl (cI, 6, .inl nw)), (m7, .inl (cI, 6, .inl nt)), (m8, .inl (cZ, 61, .inl db))]) := by
  refine met_go (cc := cX6_count) (maxL := 2) (ret := (some .int)) (by decide) rfl ?_ (Nat.le_of_ble_eq_true rfl)
  intro p e s m a below meth c Q hQ _ hx hb hr hml hts hown hlk hnm hpre ls hl
  have hown : s.vm.findClass RX6 = some m.cls := hown
  obtain ⟨hP, hK, hD0⟩ := hpre
  have hN := hK.2
  obtain ⟨A, hAe⟩ : ∃ A : Nat → Prop, A = ad [(mm, .inr (6, [.int (nI np), .ref m1, .ref m2, .int (nI nh), .ref m3, .ref m4, .int (nI nn), .ref m5, .ref m6, .ref m7, .ref m8, .int re, .int ro, .ref m9, .int tm])), (m1, .inl (cI, 12, .inl ln)), (m2, .inl (cI, 12, .inl bo)), (m3, .inl (cI, 18, .inl bd)), (m4, .inl (cI, 2, .inl en)), (m5, .inl (cI, 6, .inl ns)), (m6, .inl (cI, 6, .inl nw)), (m7, .inl (cI, 6, .inl nt)), (m8, .inl (cZ, 61, .inl db))] := ⟨_, rfl⟩
  have hD : va_D A [(mm, .inr (6, [.int (nI np), .ref m1, .ref m2, .int (nI nh), .ref m3, .ref m4, .int (nI nn), .ref m5, .ref m6, .ref m7, .ref m8, .int re, .int ro, .ref m9, .int tm])), (m1, .inl (cI, 12, .inl ln)), (m2, .inl (cI, 12, .inl bo)), (m3, .inl (cI, 18, .inl bd)), (m4, .inl (cI, 2, .inl en)), (m5, .inl (cI, 6, .inl ns)), (m6, .inl (cI, 6, .inl nw)), (m7, .inl (cI, 6, .inl nt)), (m8, .inl (cZ, 61, .inl db))] := by rw [hAe]; exact hD0.ad
  have hS : va_S A s.heap s.heap [] := va_S.rf
  have hl : lv_has ls 2 [(0, .ref mm), (1, .int y)] := hl
  have k6 : ∀ w ∈ wsX60, w ∈ wsX6_count := fun w h => List.mem_cons_of_mem _ (List.mem_append_right _ h)
  refine lv_iload_n hx hb dX6_count_0 rfl (lv_at hl 1 rfl) ?_
  by_cases c1 : y = 0
  · refine lv_tableIn (off := 59) (tgt := 60) hx hb dX6_count_1 (by rw [c1]; decide) (by rw [c1]; decide) (by rw [c1]; rfl) (by decide) ?_
    refine lv_aload_n hx hb dX6_count_60 rfl (lv_at hl 0 rfl) ?_
    refine va_get (D := D) (ci := 6) (v := .int (nI np)) (C := RX6) (T := TX6) (N := 15) hx hb hts k6 hown hK.1 hP 0 rfl rfl 0 (by decide) (hts (.fieldLink RX6 42 "BoredPipesModel" "pieces" "I") (List.mem_of_getElem? (i := 1) rfl)) (fun _ h9 => h9) rfl dX6_count_61 ?_
    exact ret_WI hQ hx hb hr hlk hAe tm hP hS (show mCount y np nh nn (fSum ln np 0 0) (en 0) (en 1) re (mDr db 60 1 0) (mGr (mMissK ln bo bd np nh (en 0) (en 1) ns nw nt) nn 0 0) (mSu (mMissK ln bo bd np nh (en 0) (en 1) ns nw nt) nn 0 0) ro = nI np from (by first | with_reducible rfl | (simp only [mCount, if_pos c1]; done) | (simp [mCount, if_pos c1]; done))).symm dX6_count_64
  by_cases c2 : y = 1
  · refine lv_tableIn (off := 64) (tgt := 65) hx hb dX6_count_1 (by rw [c2]; decide) (by rw [c2]; decide) (by rw [c2]; rfl) (by decide) ?_
    refine lv_aload_n hx hb dX6_count_65 rfl (lv_at hl 0 rfl) ?_
    refine va_get (D := D) (ci := 6) (v := .int (nI nh)) (C := RX6) (T := TX6) (N := 15) hx hb hts k6 hown hK.1 hP 0 rfl rfl 3 (by decide) (hts (.fieldLink RX6 67 "BoredPipesModel" "holes" "I") (List.mem_of_getElem? (i := 2) rfl)) (fun _ h9 => h9) rfl dX6_count_66 ?_
    exact ret_WI hQ hx hb hr hlk hAe tm hP hS (show mCount y np nh nn (fSum ln np 0 0) (en 0) (en 1) re (mDr db 60 1 0) (mGr (mMissK ln bo bd np nh (en 0) (en 1) ns nw nt) nn 0 0) (mSu (mMissK ln bo bd np nh (en 0) (en 1) ns nw nt) nn 0 0) ro = nI nh from (by first | with_reducible rfl | (simp only [mCount, if_neg c1, if_pos c2]; done) | (simp [mCount, if_neg c1, if_pos c2]; done))).symm dX6_count_69
  by_cases c3 : y = 2
  · refine lv_tableIn (off := 69) (tgt := 70) hx hb dX6_count_1 (by rw [c3]; decide) (by rw [c3]; decide) (by rw [c3]; rfl) (by decide) ?_
    refine lv_aload_n hx hb dX6_count_70 rfl (lv_at hl 0 rfl) ?_
    refine va_get (D := D) (ci := 6) (v := .int (nI nn)) (C := RX6) (T := TX6) (N := 15) hx hb hts k6 hown hK.1 hP 0 rfl rfl 6 (by decide) (hts (.fieldLink RX6 82 "BoredPipesModel" "notes" "I") (List.mem_of_getElem? (i := 3) rfl)) (fun _ h9 => h9) rfl dX6_count_71 ?_
    exact ret_WI hQ hx hb hr hlk hAe tm hP hS (show mCount y np nh nn (fSum ln np 0 0) (en 0) (en 1) re (mDr db 60 1 0) (mGr (mMissK ln bo bd np nh (en 0) (en 1) ns nw nt) nn 0 0) (mSu (mMissK ln bo bd np nh (en 0) (en 1) ns nw nt) nn 0 0) ro = nI nn from (by first | with_reducible rfl | (simp only [mCount, if_neg c1, if_neg c2, if_pos c3]; done) | (simp [mCount, if_neg c1, if_neg c2, if_pos c3]; done))).symm dX6_count_74
  by_cases c4 : y = 3
  · refine lv_tableIn (off := 74) (tgt := 75) hx hb dX6_count_1 (by rw [c4]; decide) (by rw [c4]; decide) (by rw [c4]; rfl) (by decide) ?_
    refine lv_aload_n hx hb dX6_count_75 rfl (lv_at hl 0 rfl) ?_
    refine rd_i (va_runV (As := []) (rest := []) ⟨hx, hb, hml, hown, hts⟩ (c_X6_whole l D cI cZ mm m1 m2 m3 m4 m5 m6 m7 m8 m9 np nh nn re ro tm ln (by first | omega | exact hnp)) (cwV 0 hts gX6_count_X6_whole rfl rfl rfl hdV_X6_whole ⟨Nat.le_of_ble_eq_true rfl, Nat.le_of_ble_eq_true rfl⟩) (PR.V (hP.sub [0, 1] rfl) hK hP (q0 := 0) rfl rfl) rfl rfl hl.1 rfl (lv_room (Nat.le_of_ble_eq_true rfl)) dX6_count_76 ⟨Nat.le_of_ble_eq_true rfl, Nat.le_of_ble_eq_true rfl⟩) hP hS (fun H locs hP hS => ?_)
    exact ret_WI hQ hx hb hr hlk hAe tm hP hS (show mCount y np nh nn (fSum ln np 0 0) (en 0) (en 1) re (mDr db 60 1 0) (mGr (mMissK ln bo bd np nh (en 0) (en 1) ns nw nt) nn 0 0) (mSu (mMissK ln bo bd np nh (en 0) (en 1) ns nw nt) nn 0 0) ro = fSum ln np 0 0 from (by first | with_reducible rfl | (simp only [mCount, if_neg c1, if_neg c2, if_neg c3, if_pos c4]; done) | (simp [mCount, if_neg c1, if_neg c2, if_neg c3, if_pos c4]; done))).symm dX6_count_79
  by_cases c5 : y = 4
  · refine lv_tableIn (off := 79) (tgt := 80) hx hb dX6_count_1 (by rw [c5]; decide) (by rw [c5]; decide) (by rw [c5]; rfl) (by decide) ?_
    refine lv_aload_n hx hb dX6_count_80 rfl (lv_at hl 0 rfl) ?_
    refine va_get (D := D) (ci := 6) (v := .ref m4) (C := RX6) (T := TX6) (N := 15) hx hb hts k6 hown hK.1 hP 0 rfl rfl 5 (by decide) (hts (.fieldLink RX6 19 "BoredPipesModel" "ends" "[I") (List.mem_of_getElem? (i := 4) rfl)) (fun _ h9 => h9) rfl dX6_count_81 ?_
    refine lv_iconst (v := 0) hx hb dX6_count_84 (by decide) ?_
    refine iald_n (k := 0) hx hb hK.1 hP 4 rfl (by omega) (by decide) dX6_count_85 ?_
    exact ret_WI hQ hx hb hr hlk hAe tm hP hS (show mCount y np nh nn (fSum ln np 0 0) (en 0) (en 1) re (mDr db 60 1 0) (mGr (mMissK ln bo bd np nh (en 0) (en 1) ns nw nt) nn 0 0) (mSu (mMissK ln bo bd np nh (en 0) (en 1) ns nw nt) nn 0 0) ro = en 0 from (by first | with_reducible rfl | (simp only [mCount, if_neg c1, if_neg c2, if_neg c3, if_neg c4, if_pos c5]; done) | (simp [mCount, if_neg c1, if_neg c2, if_neg c3, if_neg c4, if_pos c5]; done))).symm dX6_count_86
  by_cases c6 : y = 5
  · refine lv_tableIn (off := 86) (tgt := 87) hx hb dX6_count_1 (by rw [c6]; decide) (by rw [c6]; decide) (by rw [c6]; rfl) (by decide) ?_
    refine lv_aload_n hx hb dX6_count_87 rfl (lv_at hl 0 rfl) ?_
    refine va_get (D := D) (ci := 6) (v := .ref m4) (C := RX6) (T := TX6) (N := 15) hx hb hts k6 hown hK.1 hP 0 rfl rfl 5 (by decide) (hts (.fieldLink RX6 19 "BoredPipesModel" "ends" "[I") (List.mem_of_getElem? (i := 4) rfl)) (fun _ h9 => h9) rfl dX6_count_88 ?_
    refine lv_iconst (v := 1) hx hb dX6_count_91 (by decide) ?_
    refine iald_n (k := 1) hx hb hK.1 hP 4 rfl (by omega) (by decide) dX6_count_92 ?_
    exact ret_WI hQ hx hb hr hlk hAe tm hP hS (show mCount y np nh nn (fSum ln np 0 0) (en 0) (en 1) re (mDr db 60 1 0) (mGr (mMissK ln bo bd np nh (en 0) (en 1) ns nw nt) nn 0 0) (mSu (mMissK ln bo bd np nh (en 0) (en 1) ns nw nt) nn 0 0) ro = en 1 from (by first | with_reducible rfl | (simp only [mCount, if_neg c1, if_neg c2, if_neg c3, if_neg c4, if_neg c5, if_pos c6]; done) | (simp [mCount, if_neg c1, if_neg c2, if_neg c3, if_neg c4, if_neg c5, if_pos c6]; done))).symm dX6_count_93
  by_cases c7 : y = 6
  · refine lv_tableIn (off := 93) (tgt := 94) hx hb dX6_count_1 (by rw [c7]; decide) (by rw [c7]; decide) (by rw [c7]; rfl) (by decide) ?_
    refine lv_aload_n hx hb dX6_count_94 rfl (lv_at hl 0 rfl) ?_
    refine va_get (D := D) (ci := 6) (v := .int re) (C := RX6) (T := TX6) (N := 15) hx hb hts k6 hown hK.1 hP 0 rfl rfl 11 (by decide) (hts (.fieldLink RX6 35 "BoredPipesModel" "reach" "I") (List.mem_of_getElem? (i := 5) rfl)) (fun _ h9 => h9) rfl dX6_count_95 ?_
    exact ret_WI hQ hx hb hr hlk hAe tm hP hS (show mCount y np nh nn (fSum ln np 0 0) (en 0) (en 1) re (mDr db 60 1 0) (mGr (mMissK ln bo bd np nh (en 0) (en 1) ns nw nt) nn 0 0) (mSu (mMissK ln bo bd np nh (en 0) (en 1) ns nw nt) nn 0 0) ro = re from (by first | with_reducible rfl | (simp only [mCount, if_neg c1, if_neg c2, if_neg c3, if_neg c4, if_neg c5, if_neg c6, if_pos c7]; done) | (simp [mCount, if_neg c1, if_neg c2, if_neg c3, if_neg c4, if_neg c5, if_neg c6, if_pos c7]; done))).symm dX6_count_98
  by_cases c8 : y = 7
  · refine lv_tableIn (off := 98) (tgt := 99) hx hb dX6_count_1 (by rw [c8]; decide) (by rw [c8]; decide) (by rw [c8]; rfl) (by decide) ?_
    refine lv_aload_n hx hb dX6_count_99 rfl (lv_at hl 0 rfl) ?_
    refine rd_i (va_runV (As := []) (rest := []) ⟨hx, hb, hml, hown, hts⟩ (c_X6_drillMany l D cI cZ mm m1 m2 m3 m4 m5 m6 m7 m8 m9 np nh nn re ro tm db) (cwV 0 hts gX6_count_X6_drillMany rfl rfl rfl hdV_X6_drillMany ⟨Nat.le_of_ble_eq_true rfl, Nat.le_of_ble_eq_true rfl⟩) (PR.V (hP.sub [0, 8] rfl) hK hP (q0 := 0) rfl rfl) rfl rfl hl.1 rfl (lv_room (Nat.le_of_ble_eq_true rfl)) dX6_count_100 ⟨Nat.le_of_ble_eq_true rfl, Nat.le_of_ble_eq_true rfl⟩) hP hS (fun H locs hP hS => ?_)
    exact ret_WI hQ hx hb hr hlk hAe tm hP hS (show mCount y np nh nn (fSum ln np 0 0) (en 0) (en 1) re (mDr db 60 1 0) (mGr (mMissK ln bo bd np nh (en 0) (en 1) ns nw nt) nn 0 0) (mSu (mMissK ln bo bd np nh (en 0) (en 1) ns nw nt) nn 0 0) ro = mDr db 60 1 0 from (by first | with_reducible rfl | (simp only [mCount, if_neg c1, if_neg c2, if_neg c3, if_neg c4, if_neg c5, if_neg c6, if_neg c7, if_pos c8]; done) | (simp [mCount, if_neg c1, if_neg c2, if_neg c3, if_neg c4, if_neg c5, if_neg c6, if_neg c7, if_pos c8]; done))).symm dX6_count_103
  by_cases c9 : y = 8
  · refine lv_tableIn (off := 103) (tgt := 104) hx hb dX6_count_1 (by rw [c9]; decide) (by rw [c9]; decide) (by rw [c9]; rfl) (by decide) ?_
    refine lv_aload_n hx hb dX6_count_104 rfl (lv_at hl 0 rfl) ?_
    refine wr_i (va_runV (As := []) (rest := []) ⟨hx, hb, hml, hown, hts⟩ (c_X6_greatest l D cI cZ mm m1 m2 m3 m4 m5 m6 m7 m8 m9 np nh nn re ro tm ln bo bd en ns nw nt (by first | omega | exact hnp) (by first | omega | exact hnh) (by first | omega | exact hM) (by first | omega | exact hnn)) (cwV 0 hts gX6_count_X6_greatest rfl rfl rfl hdV_X6_greatest ⟨Nat.le_of_ble_eq_true rfl, Nat.le_of_ble_eq_true rfl⟩) (PW.V (hP.sub [0, 1, 2, 3, 4, 5, 6, 7] rfl) hK ((hD.sub [0, 1, 2, 3, 4, 5, 6, 7] (by decide) rfl).weaken (fun _ _ _ _ => trivial)) hP (q0 := 0) rfl rfl) rfl rfl hl.1 rfl (lv_room (Nat.le_of_ble_eq_true rfl)) dX6_count_105 ⟨Nat.le_of_ble_eq_true rfl, Nat.le_of_ble_eq_true rfl⟩) hP hD hS [0, 1, 2, 3, 4, 5, 6, 7] rfl (fun _ => rfl) (fun r11 u10 H locs hu10 hP hD hS => ?_)
    have hu10r := hu10
    subst hu10r
    have hP : va_P D vwCl [(mm, .inr (6, [.int (nI np), .ref m1, .ref m2, .int (nI nh), .ref m3, .ref m4, .int (nI nn), .ref m5, .ref m6, .ref m7, .ref m8, .int re, .int ro, .ref m9, .int u10])), (m1, .inl (cI, 12, .inl ln)), (m2, .inl (cI, 12, .inl bo)), (m3, .inl (cI, 18, .inl bd)), (m4, .inl (cI, 2, .inl en)), (m5, .inl (cI, 6, .inl ns)), (m6, .inl (cI, 6, .inl nw)), (m7, .inl (cI, 6, .inl nt)), (m8, .inl (cZ, 61, .inl db))] H := hP
    have hD : va_D A [(mm, .inr (6, [.int (nI np), .ref m1, .ref m2, .int (nI nh), .ref m3, .ref m4, .int (nI nn), .ref m5, .ref m6, .ref m7, .ref m8, .int re, .int ro, .ref m9, .int u10])), (m1, .inl (cI, 12, .inl ln)), (m2, .inl (cI, 12, .inl bo)), (m3, .inl (cI, 18, .inl bd)), (m4, .inl (cI, 2, .inl en)), (m5, .inl (cI, 6, .inl ns)), (m6, .inl (cI, 6, .inl nw)), (m7, .inl (cI, 6, .inl nt)), (m8, .inl (cZ, 61, .inl db))] := hD
    exact ret_WI hQ hx hb hr hlk hAe u10 hP hS (show mCount y np nh nn (fSum ln np 0 0) (en 0) (en 1) re (mDr db 60 1 0) (mGr (mMissK ln bo bd np nh (en 0) (en 1) ns nw nt) nn 0 0) (mSu (mMissK ln bo bd np nh (en 0) (en 1) ns nw nt) nn 0 0) ro = mGr (mMissK ln bo bd np nh (en 0) (en 1) ns nw nt) nn 0 0 from (by first | with_reducible rfl | (simp only [mCount, if_neg c1, if_neg c2, if_neg c3, if_neg c4, if_neg c5, if_neg c6, if_neg c7, if_neg c8, if_pos c9]; done) | (simp [mCount, if_neg c1, if_neg c2, if_neg c3, if_neg c4, if_neg c5, if_neg c6, if_neg c7, if_neg c8, if_pos c9]; done))).symm dX6_count_108
  by_cases c12 : y = 9
  · refine lv_tableIn (off := 108) (tgt := 109) hx hb dX6_count_1 (by rw [c12]; decide) (by rw [c12]; decide) (by rw [c12]; rfl) (by decide) ?_
    refine lv_aload_n hx hb dX6_count_109 rfl (lv_at hl 0 rfl) ?_
    refine wr_i (va_runV (As := []) (rest := []) ⟨hx, hb, hml, hown, hts⟩ (c_X6_sumOfMisses l D cI cZ mm m1 m2 m3 m4 m5 m6 m7 m8 m9 np nh nn re ro tm ln bo bd en ns nw nt (by first | omega | exact hnp) (by first | omega | exact hnh) (by first | omega | exact hM) (by first | omega | exact hnn)) (cwV 0 hts gX6_count_X6_sumOfMisses rfl rfl rfl hdV_X6_sumOfMisses ⟨Nat.le_of_ble_eq_true rfl, Nat.le_of_ble_eq_true rfl⟩) (PW.V (hP.sub [0, 1, 2, 3, 4, 5, 6, 7] rfl) hK ((hD.sub [0, 1, 2, 3, 4, 5, 6, 7] (by decide) rfl).weaken (fun _ _ _ _ => trivial)) hP (q0 := 0) rfl rfl) rfl rfl hl.1 rfl (lv_room (Nat.le_of_ble_eq_true rfl)) dX6_count_110 ⟨Nat.le_of_ble_eq_true rfl, Nat.le_of_ble_eq_true rfl⟩) hP hD hS [0, 1, 2, 3, 4, 5, 6, 7] rfl (fun _ => rfl) (fun r14 u13 H locs hu13 hP hD hS => ?_)
    have hu13r := hu13
    subst hu13r
    have hP : va_P D vwCl [(mm, .inr (6, [.int (nI np), .ref m1, .ref m2, .int (nI nh), .ref m3, .ref m4, .int (nI nn), .ref m5, .ref m6, .ref m7, .ref m8, .int re, .int ro, .ref m9, .int u13])), (m1, .inl (cI, 12, .inl ln)), (m2, .inl (cI, 12, .inl bo)), (m3, .inl (cI, 18, .inl bd)), (m4, .inl (cI, 2, .inl en)), (m5, .inl (cI, 6, .inl ns)), (m6, .inl (cI, 6, .inl nw)), (m7, .inl (cI, 6, .inl nt)), (m8, .inl (cZ, 61, .inl db))] H := hP
    have hD : va_D A [(mm, .inr (6, [.int (nI np), .ref m1, .ref m2, .int (nI nh), .ref m3, .ref m4, .int (nI nn), .ref m5, .ref m6, .ref m7, .ref m8, .int re, .int ro, .ref m9, .int u13])), (m1, .inl (cI, 12, .inl ln)), (m2, .inl (cI, 12, .inl bo)), (m3, .inl (cI, 18, .inl bd)), (m4, .inl (cI, 2, .inl en)), (m5, .inl (cI, 6, .inl ns)), (m6, .inl (cI, 6, .inl nw)), (m7, .inl (cI, 6, .inl nt)), (m8, .inl (cZ, 61, .inl db))] := hD
    exact ret_WI hQ hx hb hr hlk hAe u13 hP hS (show mCount y np nh nn (fSum ln np 0 0) (en 0) (en 1) re (mDr db 60 1 0) (mGr (mMissK ln bo bd np nh (en 0) (en 1) ns nw nt) nn 0 0) (mSu (mMissK ln bo bd np nh (en 0) (en 1) ns nw nt) nn 0 0) ro = mSu (mMissK ln bo bd np nh (en 0) (en 1) ns nw nt) nn 0 0 from (by first | with_reducible rfl | (simp only [mCount, if_neg c1, if_neg c2, if_neg c3, if_neg c4, if_neg c5, if_neg c6, if_neg c7, if_neg c8, if_neg c9, if_pos c12]; done) | (simp [mCount, if_neg c1, if_neg c2, if_neg c3, if_neg c4, if_neg c5, if_neg c6, if_neg c7, if_neg c8, if_neg c9, if_pos c12]; done))).symm dX6_count_113
  by_cases c15 : y = 10
  · refine lv_tableIn (off := 113) (tgt := 114) hx hb dX6_count_1 (by rw [c15]; decide) (by rw [c15]; decide) (by rw [c15]; rfl) (by decide) ?_
    refine lv_aload_n hx hb dX6_count_114 rfl (lv_at hl 0 rfl) ?_
    refine va_get (D := D) (ci := 6) (v := .int ro) (C := RX6) (T := TX6) (N := 15) hx hb hts k6 hown hK.1 hP 0 rfl rfl 12 (by decide) (hts (.fieldLink RX6 85 "BoredPipesModel" "rounds" "I") (List.mem_of_getElem? (i := 6) rfl)) (fun _ h9 => h9) rfl dX6_count_115 ?_
    exact ret_WI hQ hx hb hr hlk hAe tm hP hS (show mCount y np nh nn (fSum ln np 0 0) (en 0) (en 1) re (mDr db 60 1 0) (mGr (mMissK ln bo bd np nh (en 0) (en 1) ns nw nt) nn 0 0) (mSu (mMissK ln bo bd np nh (en 0) (en 1) ns nw nt) nn 0 0) ro = ro from (by first | with_reducible rfl | (simp only [mCount, if_neg c1, if_neg c2, if_neg c3, if_neg c4, if_neg c5, if_neg c6, if_neg c7, if_neg c8, if_neg c9, if_neg c12, if_pos c15]; done) | (simp [mCount, if_neg c1, if_neg c2, if_neg c3, if_neg c4, if_neg c5, if_neg c6, if_neg c7, if_neg c8, if_neg c9, if_neg c12, if_pos c15]; done))).symm dX6_count_118
  refine lv_tableOut (tgt := 119) hx hb dX6_count_1 (by have z0 := lv_neT (a := 0) c1 (by decide); have z1 := lv_neT (a := 1) c2 (by decide); have z2 := lv_neT (a := 2) c3 (by decide); have z3 := lv_neT (a := 3) c4 (by decide); have z4 := lv_neT (a := 4) c5 (by decide); have z5 := lv_neT (a := 5) c6 (by decide); have z6 := lv_neT (a := 6) c7 (by decide); have z7 := lv_neT (a := 7) c8 (by decide); have z8 := lv_neT (a := 8) c9 (by decide); have z9 := lv_neT (a := 9) c12 (by decide); have z10 := lv_neT (a := 10) c15 (by decide); omega) (by decide) ?_
  refine lv_sipush (v := (-1002)) hx hb dX6_count_119 (by decide) ?_
  exact ret_WI hQ hx hb hr hlk hAe tm hP hS (show mCount y np nh nn (fSum ln np 0 0) (en 0) (en 1) re (mDr db 60 1 0) (mGr (mMissK ln bo bd np nh (en 0) (en 1) ns nw nt) nn 0 0) (mSu (mMissK ln bo bd np nh (en 0) (en 1) ns nw nt) nn 0 0) ro = (-1002) from (by first | with_reducible rfl | (simp only [mCount, if_neg c1, if_neg c2, if_neg c3, if_neg c4, if_neg c5, if_neg c6, if_neg c7, if_neg c8, if_neg c9, if_neg c12, if_neg c15]; done) | (simp [mCount, if_neg c1, if_neg c2, if_neg c3, if_neg c4, if_neg c5, if_neg c6, if_neg c7, if_neg c8, if_neg c9, if_neg c12, if_neg c15]; done))).symm dX6_count_122
