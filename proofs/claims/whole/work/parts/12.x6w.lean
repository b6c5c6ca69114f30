set_option maxHeartbeats 4000000 in
set_option maxRecDepth 100000 in
theorem c_X6_worthOf (l : Launch) (D : va_G) (cI cZ : ClassId) (mm : Nat) (m1 : Nat) (m2 : Nat) (m3 : Nat) (m4 : Nat) (m5 : Nat) (m6 : Nat) (m7 : Nat) (m8 : Nat) (m9 : Nat) (np : Nat) (nh : Nat) (nn : Nat) (re : Int32) (ro : Int32) (tm : Int32) (ln : Nat → Int32) (bo : Nat → Int32) (bd : Nat → Int32) (en : Nat → Int32) (f : Int32) (w : Int32) (hnp : np ≤ 12) (hnh : nh ≤ 6) (hn1 : 1 ≤ np) (hend : seqM ln bd np nh 18 ≤ 0) (hle : ∀ i, seqM ln bd np nh i ≤ fSum ln np 0 0) (hb0 : ∀ j, j < np → ¬ (bo j).toInt64 * (bo j).toInt64 = 0) (hd0 : ∀ j, j < nh → ¬ 25 * ((bd (3 * j + 1)).toInt64 + (bd (3 * j + 2)).toInt64) * f.toInt64 = 0) : Met l yX6_worthOf wsX6_worthOf rmX6_worthOf (va_Pc [.ref mm, .int f, .int w] (PR D cI cZ [(mm, .inr (6, [.int (nI np), .ref m1, .ref m2, .int (nI nh), .ref m3, .ref m4, .int (nI nn), .ref m5, .ref m6, .ref m7, .ref m8, .int re, .int ro, .ref m9, .int tm])), (m1, .inl (cI, 12, .inl ln)), (m2, .inl (cI, 12, .inl bo)), (m3, .inl (cI, 18, .inl bd)), (m4, .inl (cI, 2, .inl en))])) (RJ (mWorth ln bo bd np nh (en 0) (en 1) w f)) 0 0 nA := by
  refine met_go (cc := cX6_worthOf) (maxL := 23) (ret := (some .long)) (by decide) rfl ?_ (Nat.le_of_ble_eq_true rfl)
  intro p e s m a below meth c Q hQ _ hx hb hr hml hts hown hlk hnm hpre ls hl
  have hown : s.vm.findClass RX6 = some m.cls := hown
  obtain ⟨hP, hK⟩ := hpre
  have hN := hK.2
  have hS : va_S nA s.heap s.heap [] := va_S.rf
  have hl : lv_has ls 23 [(0, .ref mm), (1, .int f), (2, .int w)] := hl
  have k6 : ∀ w ∈ wsX60, w ∈ wsX6_worthOf := fun w h => List.mem_cons_of_mem _ (List.mem_append_right _ h)
  refine lv_aload_n hx hb dX6_worthOf_0 rfl (lv_at hl 0 rfl) ?_
  refine va_get (D := D) (ci := 6) (v := .ref m4) (C := RX6) (T := TX6) (N := 15) hx hb hts k6 hown hK.1 hP 0 rfl rfl 5 (by decide) (hts (.fieldLink RX6 19 "BoredPipesModel" "ends" "[I") (List.mem_of_getElem? (i := 1) rfl)) (fun _ h9 => h9) rfl dX6_worthOf_1 ?_
  refine lv_iconst (v := 1) hx hb dX6_worthOf_4 (by decide) ?_
  refine iald_n (k := 1) hx hb hK.1 hP 4 rfl (by omega) (by decide) dX6_worthOf_5 ?_
  have jn_6 : ∀ (H : Heap) (locs : List Loc), va_P D vwCl [(mm, .inr (6, [.int (nI np), .ref m1, .ref m2, .int (nI nh), .ref m3, .ref m4, .int (nI nn), .ref m5, .ref m6, .ref m7, .ref m8, .int re, .int ro, .ref m9, .int tm])), (m1, .inl (cI, 12, .inl ln)), (m2, .inl (cI, 12, .inl bo)), (m3, .inl (cI, 18, .inl bd)), (m4, .inl (cI, 2, .inl en))] H → va_S nA s.heap H locs → W p l e rmX6_worthOf s m a below meth c H locs 0 0 Q (F0 m 16 ls [.long (if (en 1) = 0 then 0 else 1048576)]) := by
    intro H locs hP hS
    refine lv_lstore_n (lv' := [(3, .long (if (en 1) = 0 then 0 else 1048576)), (0, .ref mm), (1, .int f), (2, .int w)]) hx hb dX6_worthOf_16 rfl hl (by decide) rfl (fun ls hl => ?_)
    refine lv_aload_n hx hb dX6_worthOf_17 rfl (lv_at hl 1 rfl) ?_
    refine va_get (D := D) (ci := 6) (v := .ref m4) (C := RX6) (T := TX6) (N := 15) hx hb hts k6 hown hK.1 hP 0 rfl rfl 5 (by decide) (hts (.fieldLink RX6 19 "BoredPipesModel" "ends" "[I") (List.mem_of_getElem? (i := 1) rfl)) (fun _ h9 => h9) rfl dX6_worthOf_18 ?_
    refine lv_iconst (v := 1) hx hb dX6_worthOf_21 (by decide) ?_
    refine iald_n (k := 1) hx hb hK.1 hP 4 rfl (by omega) (by decide) dX6_worthOf_22 ?_
    have jn_23 : ∀ (H : Heap) (locs : List Loc), va_P D vwCl [(mm, .inr (6, [.int (nI np), .ref m1, .ref m2, .int (nI nh), .ref m3, .ref m4, .int (nI nn), .ref m5, .ref m6, .ref m7, .ref m8, .int re, .int ro, .ref m9, .int tm])), (m1, .inl (cI, 12, .inl ln)), (m2, .inl (cI, 12, .inl bo)), (m3, .inl (cI, 18, .inl bd)), (m4, .inl (cI, 2, .inl en))] H → va_S nA s.heap H locs → W p l e rmX6_worthOf s m a below meth c H locs 0 0 Q (F0 m 33 ls [.long (if (en 1) = 0 then 1048576 else 0)]) := by
      intro H locs hP hS
      refine lv_lstore (lv' := [(5, .long (if (en 1) = 0 then 1048576 else 0)), (3, .long (if (en 1) = 0 then 0 else 1048576)), (0, .ref mm), (1, .int f), (2, .int w)]) hx hb dX6_worthOf_33 hl (by decide) rfl (fun ls hl => ?_)
      refine lv_aload_n hx hb dX6_worthOf_35 rfl (lv_at hl 2 rfl) ?_
      refine rd_i (va_runV (As := []) (rest := []) ⟨hx, hb, hml, hown, hts⟩ (c_X6_whole l D cI cZ mm m1 m2 m3 m4 m5 m6 m7 m8 m9 np nh nn re ro tm ln (by first | omega | exact hnp)) (cwV 0 hts gX6_worthOf_X6_whole rfl rfl rfl hdV_X6_whole ⟨Nat.le_of_ble_eq_true rfl, Nat.le_of_ble_eq_true rfl⟩) (PR.V (hP.sub [0, 1] rfl) hK hP (q0 := 0) rfl rfl) rfl rfl hl.1 rfl (lv_room (Nat.le_of_ble_eq_true rfl)) dX6_worthOf_36 ⟨Nat.le_of_ble_eq_true rfl, Nat.le_of_ble_eq_true rfl⟩) hP hS (fun H locs hP hS => ?_)
      refine lv_eqi (y := seqM ln bd np nh 0) rfl ?_
      refine lv_istore (lv' := [(7, .int (seqM ln bd np nh 0)), (5, .long (if (en 1) = 0 then 1048576 else 0)), (3, .long (if (en 1) = 0 then 0 else 1048576)), (0, .ref mm), (1, .int f), (2, .int w)]) hx hb dX6_worthOf_39 hl (by decide) rfl (fun ls hl => ?_)
      have lp_41 : ∀ (r : Nat) (i : Nat) (pp : Int64) (uu : Int64), (i + r = 18) → (mWorth ln bo bd np nh (en 0) (en 1) w f = mWl ln bo bd np nh (en 0) w f r i pp uu) → ∀ (H : Heap) (locs : List Loc), va_P D vwCl [(mm, .inr (6, [.int (nI np), .ref m1, .ref m2, .int (nI nh), .ref m3, .ref m4, .int (nI nn), .ref m5, .ref m6, .ref m7, .ref m8, .int re, .int ro, .ref m9, .int tm])), (m1, .inl (cI, 12, .inl ln)), (m2, .inl (cI, 12, .inl bo)), (m3, .inl (cI, 18, .inl bd)), (m4, .inl (cI, 2, .inl en))] H → va_S nA s.heap H locs → ∀ (ls : Array Slot), lv_has ls 23 [(7, .int (seqM ln bd np nh i)), (5, .long uu), (3, .long pp), (0, .ref mm), (1, .int f), (2, .int w)] → W p l e rmX6_worthOf s m a below meth c H locs 0 0 Q (F0 m 41 ls []) := by
        intro r
        induction r with
        | zero =>
          intro i pp uu hi hF H locs hP hS ls hl
          refine lv_iload hx hb dX6_worthOf_41 (lv_at hl 0 rfl) ?_
          refine lv_if_le (tgt := 276) hx hb dX6_worthOf_43 (by decide) (fun c3 => ?_) (fun c3 => absurd ((by rw [show i = 18 from by omega]; exact hend)) c3)
          refine lv_aload_n hx hb dX6_worthOf_276 rfl (lv_at hl 3 rfl) ?_
          refine va_get (D := D) (ci := 6) (v := .ref m4) (C := RX6) (T := TX6) (N := 15) hx hb hts k6 hown hK.1 hP 0 rfl rfl 5 (by decide) (hts (.fieldLink RX6 19 "BoredPipesModel" "ends" "[I") (List.mem_of_getElem? (i := 1) rfl)) (fun _ h9 => h9) rfl dX6_worthOf_277 ?_
          refine lv_iconst (v := 0) hx hb dX6_worthOf_280 (by decide) ?_
          refine iald_n (k := 0) hx hb hK.1 hP 4 rfl (by omega) (by decide) dX6_worthOf_281 ?_
          refine lv_if_ne (tgt := 289) hx hb dX6_worthOf_282 (by decide) (fun c4 => ?_) (fun c4 => ?_)
          · skip
            refine lv_lload hx hb dX6_worthOf_289 (lv_at hl 1 rfl) ?_
            exact ret_RJ hQ hx hb hr hlk hS (hF.trans (by first | with_reducible rfl | (simp only [mWorth, mWl, if_pos c3, if_neg c4]; done) | (simp [mWorth, mWl, if_pos c3, if_neg c4]; done))).symm dX6_worthOf_291
          · skip
            refine lv_lload_n hx hb dX6_worthOf_285 rfl (lv_at hl 2 rfl) ?_
            refine lv_goto (tgt := 291) hx hb dX6_worthOf_286 (by decide) ?_
            exact ret_RJ hQ hx hb hr hlk hS (hF.trans (by first | with_reducible rfl | (simp only [mWorth, mWl, if_pos c3, if_pos c4]; done) | (simp [mWorth, mWl, if_pos c3, if_pos c4]; done))).symm dX6_worthOf_291
        | succ r ih_41 =>
          intro i pp uu hi hF H locs hP hS ls hl
          refine lv_iload hx hb dX6_worthOf_41 (lv_at hl 0 rfl) ?_
          refine lv_if_le (tgt := 276) hx hb dX6_worthOf_43 (by decide) (fun c5 => ?_) (fun c5 => ?_)
          · skip
            refine lv_aload_n hx hb dX6_worthOf_276 rfl (lv_at hl 3 rfl) ?_
            refine va_get (D := D) (ci := 6) (v := .ref m4) (C := RX6) (T := TX6) (N := 15) hx hb hts k6 hown hK.1 hP 0 rfl rfl 5 (by decide) (hts (.fieldLink RX6 19 "BoredPipesModel" "ends" "[I") (List.mem_of_getElem? (i := 1) rfl)) (fun _ h9 => h9) rfl dX6_worthOf_277 ?_
            refine lv_iconst (v := 0) hx hb dX6_worthOf_280 (by decide) ?_
            refine iald_n (k := 0) hx hb hK.1 hP 4 rfl (by omega) (by decide) dX6_worthOf_281 ?_
            refine lv_if_ne (tgt := 289) hx hb dX6_worthOf_282 (by decide) (fun c6 => ?_) (fun c6 => ?_)
            · skip
              refine lv_lload hx hb dX6_worthOf_289 (lv_at hl 1 rfl) ?_
              exact ret_RJ hQ hx hb hr hlk hS (hF.trans (by first | with_reducible rfl | (simp only [mWorth, mWl, if_pos c5, if_neg c6]; done) | (simp [mWorth, mWl, if_pos c5, if_neg c6]; done))).symm dX6_worthOf_291
            · skip
              refine lv_lload_n hx hb dX6_worthOf_285 rfl (lv_at hl 2 rfl) ?_
              refine lv_goto (tgt := 291) hx hb dX6_worthOf_286 (by decide) ?_
              exact ret_RJ hQ hx hb hr hlk hS (hF.trans (by first | with_reducible rfl | (simp only [mWorth, mWl, if_pos c5, if_pos c6]; done) | (simp [mWorth, mWl, if_pos c5, if_pos c6]; done))).symm dX6_worthOf_291
          · skip
            refine lv_aload_n hx hb dX6_worthOf_46 rfl (lv_at hl 3 rfl) ?_
            refine lv_iload hx hb dX6_worthOf_47 (lv_at hl 0 rfl) ?_
            refine rd_i (va_runV (As := [.int (seqM ln bd np nh i)]) (rest := []) ⟨hx, hb, hml, hown, hts⟩ (c_X6_nextPlace l D cI cZ mm m1 m2 m3 m4 m5 m6 m7 m8 m9 np nh nn re ro tm ln bd (seqM ln bd np nh i) (by first | omega | exact hnp) (by first | omega | exact hnh)) (cwV 1 hts gX6_worthOf_X6_nextPlace rfl rfl rfl hdV_X6_nextPlace ⟨Nat.le_of_ble_eq_true rfl, Nat.le_of_ble_eq_true rfl⟩) (PR.V (hP.sub [0, 1, 3] rfl) hK hP (q0 := 0) rfl rfl) rfl rfl hl.1 rfl (lv_room (Nat.le_of_ble_eq_true rfl)) dX6_worthOf_49 ⟨Nat.le_of_ble_eq_true rfl, Nat.le_of_ble_eq_true rfl⟩) hP hS (fun H locs hP hS => ?_)
            refine lv_eqi (y := seqM ln bd np nh (i + 1)) rfl ?_
            refine lv_istore (lv' := [(8, .int (seqM ln bd np nh (i + 1))), (7, .int (seqM ln bd np nh i)), (5, .long uu), (3, .long pp), (0, .ref mm), (1, .int f), (2, .int w)]) hx hb dX6_worthOf_52 hl (by decide) rfl (fun ls hl => ?_)
            refine lv_iload_n hx hb dX6_worthOf_54 rfl (lv_at hl 5 rfl) ?_
            refine lv_iload hx hb dX6_worthOf_55 (lv_at hl 1 rfl) ?_
            refine lv_iload hx hb dX6_worthOf_57 (lv_at hl 0 rfl) ?_
            refine lv_isub hx hb dX6_worthOf_59 ?_
            refine lv_eqi (y := mL ln bd np nh i) rfl ?_
            refine lv_imul hx hb dX6_worthOf_60 ?_
            refine lv_bipush (v := 16) hx hb dX6_worthOf_61 (by decide) ?_
            refine lv_imul hx hb dX6_worthOf_63 ?_
            refine lv_ldc hx hb hown (hts (.constant RX6 124 (65536)) (List.mem_of_getElem? (i := 3) rfl)) dX6_worthOf_64 ?_
            refine lv_irem hx hb dX6_worthOf_66 (by decide) ?_
            refine lv_eqi (y := mTurn f (mL ln bd np nh i)) rfl ?_
            refine lv_istore (lv' := [(9, .int (mTurn f (mL ln bd np nh i))), (8, .int (seqM ln bd np nh (i + 1))), (7, .int (seqM ln bd np nh i)), (5, .long uu), (3, .long pp), (0, .ref mm), (1, .int f), (2, .int w)]) hx hb dX6_worthOf_67 hl (by decide) rfl (fun ls hl => ?_)
            refine lv_iload hx hb dX6_worthOf_69 (lv_at hl 0 rfl) ?_
            refine rd_l (va_runS (As := [.int (mTurn f (mL ln bd np nh i))]) (rest := []) ⟨hx, hb, hml, hown, hts⟩ (c_X6_sineOf l D cI cZ (mTurn f (mL ln bd np nh i))) (va_cwS 1 hts gX6_worthOf_X6_sineOf rfl rfl rfl hdV_X6_sineOf.2 ⟨Nat.le_of_ble_eq_true rfl, Nat.le_of_ble_eq_true rfl⟩) (PR.S (hP.sub [] rfl) hK) rfl rfl hl.1 rfl (lv_room (Nat.le_of_ble_eq_true rfl)) dX6_worthOf_71 ⟨Nat.le_of_ble_eq_true rfl, Nat.le_of_ble_eq_true rfl⟩) hP hS (fun H locs hP hS => ?_)
            refine lv_eqj (y := mSine (mTurn f (mL ln bd np nh i))) rfl ?_
            refine lv_lstore (lv' := [(10, .long (mSine (mTurn f (mL ln bd np nh i)))), (9, .int (mTurn f (mL ln bd np nh i))), (8, .int (seqM ln bd np nh (i + 1))), (7, .int (seqM ln bd np nh i)), (5, .long uu), (3, .long pp), (0, .ref mm), (1, .int f), (2, .int w)]) hx hb dX6_worthOf_74 hl (by decide) rfl (fun ls hl => ?_)
            refine lv_iload hx hb dX6_worthOf_76 (lv_at hl 1 rfl) ?_
            refine lv_sipush (v := 16384) hx hb dX6_worthOf_78 (by decide) ?_
            refine lv_iadd hx hb dX6_worthOf_81 ?_
            refine lv_ldc hx hb hown (hts (.constant RX6 124 (65536)) (List.mem_of_getElem? (i := 3) rfl)) dX6_worthOf_82 ?_
            refine lv_irem hx hb dX6_worthOf_84 (by decide) ?_
            refine rd_l (va_runS (As := [.int (((mTurn f (mL ln bd np nh i)) + 16384) - ((mTurn f (mL ln bd np nh i)) + 16384) / 65536 * 65536)]) (rest := []) ⟨hx, hb, hml, hown, hts⟩ (c_X6_sineOf l D cI cZ (((mTurn f (mL ln bd np nh i)) + 16384) - ((mTurn f (mL ln bd np nh i)) + 16384) / 65536 * 65536)) (va_cwS 1 hts gX6_worthOf_X6_sineOf rfl rfl rfl hdV_X6_sineOf.2 ⟨Nat.le_of_ble_eq_true rfl, Nat.le_of_ble_eq_true rfl⟩) (PR.S (hP.sub [] rfl) hK) rfl rfl hl.1 rfl (lv_room (Nat.le_of_ble_eq_true rfl)) dX6_worthOf_85 ⟨Nat.le_of_ble_eq_true rfl, Nat.le_of_ble_eq_true rfl⟩) hP hS (fun H locs hP hS => ?_)
            refine lv_eqj (y := mSine (mTurn2 f (mL ln bd np nh i))) rfl ?_
            refine lv_lstore (lv' := [(12, .long (mSine (mTurn2 f (mL ln bd np nh i)))), (10, .long (mSine (mTurn f (mL ln bd np nh i)))), (9, .int (mTurn f (mL ln bd np nh i))), (8, .int (seqM ln bd np nh (i + 1))), (7, .int (seqM ln bd np nh i)), (5, .long uu), (3, .long pp), (0, .ref mm), (1, .int f), (2, .int w)]) hx hb dX6_worthOf_88 hl (by decide) rfl (fun ls hl => ?_)
            refine lv_aload_n hx hb dX6_worthOf_90 rfl (lv_at hl 7 rfl) ?_
            refine va_get (D := D) (ci := 6) (v := .ref m2) (C := RX6) (T := TX6) (N := 15) hx hb hts k6 hown hK.1 hP 0 rfl rfl 2 (by decide) (hts (.fieldLink RX6 13 "BoredPipesModel" "bores" "[I") (List.mem_of_getElem? (i := 4) rfl)) (fun _ h9 => h9) rfl dX6_worthOf_91 ?_
            refine lv_aload_n hx hb dX6_worthOf_94 rfl (lv_at hl 7 rfl) ?_
            refine lv_iload hx hb dX6_worthOf_95 (lv_at hl 4 rfl) ?_
            refine rd_i (va_runV (As := [.int (seqM ln bd np nh i)]) (rest := [.ref m2]) ⟨hx, hb, hml, hown, hts⟩ (c_X6_pieceOf l D cI cZ mm m1 m2 m3 m4 m5 m6 m7 m8 m9 np nh nn re ro tm ln (seqM ln bd np nh i) (by first | omega | exact hnp) (by first | omega | exact hn1) (hle i)) (cwV 1 hts gX6_worthOf_X6_pieceOf rfl rfl rfl hdV_X6_pieceOf ⟨Nat.le_of_ble_eq_true rfl, Nat.le_of_ble_eq_true rfl⟩) (PR.V (hP.sub [0, 1] rfl) hK hP (q0 := 0) rfl rfl) rfl rfl hl.1 rfl (lv_room (Nat.le_of_ble_eq_true rfl)) dX6_worthOf_97 ⟨Nat.le_of_ble_eq_true rfl, Nat.le_of_ble_eq_true rfl⟩) hP hS (fun H locs hP hS => ?_)
            refine va_iald hx hb hK.1 hP 2 0 rfl rfl (mPieceOf_in hnp hn1) dX6_worthOf_100 ?_
            refine lv_i2l hx hb dX6_worthOf_101 rfl ?_
            refine lv_eqj (y := mB ln bo bd np nh i) rfl ?_
            refine lv_lstore (lv' := [(14, .long (mB ln bo bd np nh i)), (12, .long (mSine (mTurn2 f (mL ln bd np nh i)))), (10, .long (mSine (mTurn f (mL ln bd np nh i)))), (9, .int (mTurn f (mL ln bd np nh i))), (8, .int (seqM ln bd np nh (i + 1))), (7, .int (seqM ln bd np nh i)), (5, .long uu), (3, .long pp), (0, .ref mm), (1, .int f), (2, .int w)]) hx hb dX6_worthOf_102 hl (by decide) rfl (fun ls hl => ?_)
            refine lv_lload_n hx hb dX6_worthOf_104 rfl (lv_at hl 7 rfl) ?_
            refine lv_lload hx hb dX6_worthOf_105 (lv_at hl 1 rfl) ?_
            refine lv_lmul hx hb dX6_worthOf_107 ?_
            refine lv_bipush (v := 15) hx hb dX6_worthOf_108 (by decide) ?_
            refine lv_lshr hx hb dX6_worthOf_110 rfl ?_
            refine lv_lload hx hb dX6_worthOf_111 (lv_at hl 6 rfl) ?_
            refine lv_lload hx hb dX6_worthOf_113 (lv_at hl 2 rfl) ?_
            refine lv_lmul hx hb dX6_worthOf_115 ?_
            refine lv_bipush (v := 15) hx hb dX6_worthOf_116 (by decide) ?_
            refine lv_lshr hx hb dX6_worthOf_118 rfl ?_
            refine lv_ldc2 hx hb hown (hts (.constantLong RX6 125 (10000)) (List.mem_of_getElem? (i := 5) rfl)) dX6_worthOf_119 ?_
            refine lv_lmul hx hb dX6_worthOf_122 ?_
            refine lv_lload hx hb dX6_worthOf_123 (lv_at hl 0 rfl) ?_
            refine lv_lload hx hb dX6_worthOf_125 (lv_at hl 0 rfl) ?_
            refine lv_lmul hx hb dX6_worthOf_127 ?_
            refine lv_ldiv hx hb dX6_worthOf_128 (hb0 _ (mPieceOf_lt hnp hn1)) ?_
            refine lv_ladd hx hb dX6_worthOf_129 ?_
            refine lv_eqj (y := mP1 f (mL ln bd np nh i) (mB ln bo bd np nh i) pp uu) rfl ?_
            refine lv_lstore (lv' := [(16, .long (mP1 f (mL ln bd np nh i) (mB ln bo bd np nh i) pp uu)), (14, .long (mB ln bo bd np nh i)), (12, .long (mSine (mTurn2 f (mL ln bd np nh i)))), (10, .long (mSine (mTurn f (mL ln bd np nh i)))), (9, .int (mTurn f (mL ln bd np nh i))), (8, .int (seqM ln bd np nh (i + 1))), (7, .int (seqM ln bd np nh i)), (5, .long uu), (3, .long pp), (0, .ref mm), (1, .int f), (2, .int w)]) hx hb dX6_worthOf_130 hl (by decide) rfl (fun ls hl => ?_)
            refine lv_lload hx hb dX6_worthOf_132 (lv_at hl 7 rfl) ?_
            refine lv_lload hx hb dX6_worthOf_134 (lv_at hl 2 rfl) ?_
            refine lv_lmul hx hb dX6_worthOf_136 ?_
            refine lv_bipush (v := 15) hx hb dX6_worthOf_137 (by decide) ?_
            refine lv_lshr hx hb dX6_worthOf_139 rfl ?_
            refine lv_lload_n hx hb dX6_worthOf_140 rfl (lv_at hl 8 rfl) ?_
            refine lv_lload hx hb dX6_worthOf_141 (lv_at hl 3 rfl) ?_
            refine lv_lmul hx hb dX6_worthOf_143 ?_
            refine lv_bipush (v := 15) hx hb dX6_worthOf_144 (by decide) ?_
            refine lv_lshr hx hb dX6_worthOf_146 rfl ?_
            refine lv_lload hx hb dX6_worthOf_147 (lv_at hl 1 rfl) ?_
            refine lv_lload hx hb dX6_worthOf_149 (lv_at hl 1 rfl) ?_
            refine lv_lmul hx hb dX6_worthOf_151 ?_
            refine lv_lmul hx hb dX6_worthOf_152 ?_
            refine lv_ldc2 hx hb hown (hts (.constantLong RX6 125 (10000)) (List.mem_of_getElem? (i := 5) rfl)) dX6_worthOf_153 ?_
            refine lv_ldiv hx hb dX6_worthOf_156 (by decide) ?_
            refine lv_lsub hx hb dX6_worthOf_157 ?_
            refine lv_eqj (y := mU1 f (mL ln bd np nh i) (mB ln bo bd np nh i) pp uu) rfl ?_
            refine lv_lstore (lv' := [(18, .long (mU1 f (mL ln bd np nh i) (mB ln bo bd np nh i) pp uu)), (16, .long (mP1 f (mL ln bd np nh i) (mB ln bo bd np nh i) pp uu)), (14, .long (mB ln bo bd np nh i)), (12, .long (mSine (mTurn2 f (mL ln bd np nh i)))), (10, .long (mSine (mTurn f (mL ln bd np nh i)))), (9, .int (mTurn f (mL ln bd np nh i))), (8, .int (seqM ln bd np nh (i + 1))), (7, .int (seqM ln bd np nh i)), (5, .long uu), (3, .long pp), (0, .ref mm), (1, .int f), (2, .int w)]) hx hb dX6_worthOf_158 hl (by decide) rfl (fun ls hl => ?_)
            refine lv_lload hx hb dX6_worthOf_160 (lv_at hl 1 rfl) ?_
            refine lv_eqj (y := sh8 (mP1 f (mL ln bd np nh i) (mB ln bo bd np nh i) pp uu) 0) (sh8_0 _).symm ?_
            refine lv_lstore_n (lv' := [(3, .long (sh8 (mP1 f (mL ln bd np nh i) (mB ln bo bd np nh i) pp uu) 0)), (18, .long (mU1 f (mL ln bd np nh i) (mB ln bo bd np nh i) pp uu)), (16, .long (mP1 f (mL ln bd np nh i) (mB ln bo bd np nh i) pp uu)), (14, .long (mB ln bo bd np nh i)), (12, .long (mSine (mTurn2 f (mL ln bd np nh i)))), (10, .long (mSine (mTurn f (mL ln bd np nh i)))), (9, .int (mTurn f (mL ln bd np nh i))), (8, .int (seqM ln bd np nh (i + 1))), (7, .int (seqM ln bd np nh i)), (5, .long uu), (0, .ref mm), (1, .int f), (2, .int w)]) hx hb dX6_worthOf_162 rfl hl (by decide) rfl (fun ls hl => ?_)
            refine lv_lload hx hb dX6_worthOf_163 (lv_at hl 1 rfl) ?_
            refine lv_eqj (y := sh8 (mU1 f (mL ln bd np nh i) (mB ln bo bd np nh i) pp uu) 0) (sh8_0 _).symm ?_
            refine lv_lstore (lv' := [(5, .long (sh8 (mU1 f (mL ln bd np nh i) (mB ln bo bd np nh i) pp uu) 0)), (3, .long (sh8 (mP1 f (mL ln bd np nh i) (mB ln bo bd np nh i) pp uu) 0)), (18, .long (mU1 f (mL ln bd np nh i) (mB ln bo bd np nh i) pp uu)), (16, .long (mP1 f (mL ln bd np nh i) (mB ln bo bd np nh i) pp uu)), (14, .long (mB ln bo bd np nh i)), (12, .long (mSine (mTurn2 f (mL ln bd np nh i)))), (10, .long (mSine (mTurn f (mL ln bd np nh i)))), (9, .int (mTurn f (mL ln bd np nh i))), (8, .int (seqM ln bd np nh (i + 1))), (7, .int (seqM ln bd np nh i)), (0, .ref mm), (1, .int f), (2, .int w)]) hx hb dX6_worthOf_165 hl (by decide) rfl (fun ls hl => ?_)
            have lp_167 : ∀ (r2 : Nat) (i2 : Nat), (i2 + r2 = 3) → (mShN (mP1 f (mL ln bd np nh i) (mB ln bo bd np nh i) pp uu) (mU1 f (mL ln bd np nh i) (mB ln bo bd np nh i) pp uu) = mSh (mP1 f (mL ln bd np nh i) (mB ln bo bd np nh i) pp uu) (mU1 f (mL ln bd np nh i) (mB ln bo bd np nh i) pp uu) r2 i2) → ∀ (H : Heap) (locs : List Loc), va_P D vwCl [(mm, .inr (6, [.int (nI np), .ref m1, .ref m2, .int (nI nh), .ref m3, .ref m4, .int (nI nn), .ref m5, .ref m6, .ref m7, .ref m8, .int re, .int ro, .ref m9, .int tm])), (m1, .inl (cI, 12, .inl ln)), (m2, .inl (cI, 12, .inl bo)), (m3, .inl (cI, 18, .inl bd)), (m4, .inl (cI, 2, .inl en))] H → va_S nA s.heap H locs → ∀ (ls : Array Slot), lv_has ls 23 [(5, .long (sh8 (mU1 f (mL ln bd np nh i) (mB ln bo bd np nh i) pp uu) i2)), (3, .long (sh8 (mP1 f (mL ln bd np nh i) (mB ln bo bd np nh i) pp uu) i2)), (18, .long (mU1 f (mL ln bd np nh i) (mB ln bo bd np nh i) pp uu)), (16, .long (mP1 f (mL ln bd np nh i) (mB ln bo bd np nh i) pp uu)), (14, .long (mB ln bo bd np nh i)), (12, .long (mSine (mTurn2 f (mL ln bd np nh i)))), (10, .long (mSine (mTurn f (mL ln bd np nh i)))), (9, .int (mTurn f (mL ln bd np nh i))), (8, .int (seqM ln bd np nh (i + 1))), (7, .int (seqM ln bd np nh i)), (0, .ref mm), (1, .int f), (2, .int w)] → W p l e rmX6_worthOf s m a below meth c H locs 0 0 Q (F0 m 167 ls []) := by
              intro r2
              induction r2 with
              | zero =>
                intro i2 hi2 hF2 H locs hP hS ls hl
                refine lv_lload_n hx hb dX6_worthOf_167 rfl (lv_at hl 1 rfl) ?_
                refine rd_i (va_runS (As := [.long (sh8 (mP1 f (mL ln bd np nh i) (mB ln bo bd np nh i) pp uu) i2)]) (rest := []) ⟨hx, hb, hml, hown, hts⟩ (c_X6_isLarge l D cI cZ (sh8 (mP1 f (mL ln bd np nh i) (mB ln bo bd np nh i) pp uu) i2)) (va_cwS 1 hts gX6_worthOf_X6_isLarge rfl rfl rfl hdV_X6_isLarge.2 ⟨Nat.le_of_ble_eq_true rfl, Nat.le_of_ble_eq_true rfl⟩) (PR.S (hP.sub [] rfl) hK) rfl rfl hl.1 rfl (lv_room (Nat.le_of_ble_eq_true rfl)) dX6_worthOf_168 ⟨Nat.le_of_ble_eq_true rfl, Nat.le_of_ble_eq_true rfl⟩) hP hS (fun H locs hP hS => ?_)
                refine lv_if_ne (tgt := 182) hx hb dX6_worthOf_171 (by decide) (fun c7 => absurd ((by rw [show i2 = 3 from by omega]; exact fBig_sh8 _)) c7) (fun c7 => ?_)
                refine lv_lload hx hb dX6_worthOf_174 (lv_at hl 0 rfl) ?_
                refine rd_i (va_runS (As := [.long (sh8 (mU1 f (mL ln bd np nh i) (mB ln bo bd np nh i) pp uu) i2)]) (rest := []) ⟨hx, hb, hml, hown, hts⟩ (c_X6_isLarge l D cI cZ (sh8 (mU1 f (mL ln bd np nh i) (mB ln bo bd np nh i) pp uu) i2)) (va_cwS 1 hts gX6_worthOf_X6_isLarge rfl rfl rfl hdV_X6_isLarge.2 ⟨Nat.le_of_ble_eq_true rfl, Nat.le_of_ble_eq_true rfl⟩) (PR.S (hP.sub [] rfl) hK) rfl rfl hl.1 rfl (lv_room (Nat.le_of_ble_eq_true rfl)) dX6_worthOf_176 ⟨Nat.le_of_ble_eq_true rfl, Nat.le_of_ble_eq_true rfl⟩) hP hS (fun H locs hP hS => ?_)
                refine lv_if_eq (tgt := 197) hx hb dX6_worthOf_179 (by decide) (fun c8 => ?_) (fun c8 => absurd ((by rw [show i2 = 3 from by omega]; exact fBig_sh8 _)) c8)
                have hG : mShN (mP1 f (mL ln bd np nh i) (mB ln bo bd np nh i) pp uu) (mU1 f (mL ln bd np nh i) (mB ln bo bd np nh i) pp uu) = i2 := hF2.trans (by first | with_reducible rfl | (simp only [mWorth, mWl, mSh, if_neg c5, if_pos c7, if_pos c8]; done) | (simp [mWorth, mWl, mSh, if_neg c5, if_pos c7, if_pos c8]; done))
                refine lv_aload_n hx hb dX6_worthOf_197 rfl (lv_at hl 10 rfl) ?_
                refine lv_iload hx hb dX6_worthOf_198 (lv_at hl 8 rfl) ?_
                refine rd_i (va_runV (As := [.int (seqM ln bd np nh (i + 1))]) (rest := []) ⟨hx, hb, hml, hown, hts⟩ (c_X6_holeAt l D cI cZ mm m1 m2 m3 m4 m5 m6 m7 m8 m9 np nh nn re ro tm bd (seqM ln bd np nh (i + 1)) (by first | omega | exact hnh)) (cwV 1 hts gX6_worthOf_X6_holeAt rfl rfl rfl hdV_X6_holeAt ⟨Nat.le_of_ble_eq_true rfl, Nat.le_of_ble_eq_true rfl⟩) (PR.V (hP.sub [0, 3] rfl) hK hP (q0 := 0) rfl rfl) rfl rfl hl.1 rfl (lv_room (Nat.le_of_ble_eq_true rfl)) dX6_worthOf_200 ⟨Nat.le_of_ble_eq_true rfl, Nat.le_of_ble_eq_true rfl⟩) hP hS (fun H locs hP hS => ?_)
                refine lv_topi (fun hv ehv => ?_)
                refine lv_istore (lv' := [(20, .int hv), (5, .long (sh8 (mU1 f (mL ln bd np nh i) (mB ln bo bd np nh i) pp uu) i2)), (3, .long (sh8 (mP1 f (mL ln bd np nh i) (mB ln bo bd np nh i) pp uu) i2)), (18, .long (mU1 f (mL ln bd np nh i) (mB ln bo bd np nh i) pp uu)), (16, .long (mP1 f (mL ln bd np nh i) (mB ln bo bd np nh i) pp uu)), (14, .long (mB ln bo bd np nh i)), (12, .long (mSine (mTurn2 f (mL ln bd np nh i)))), (10, .long (mSine (mTurn f (mL ln bd np nh i)))), (9, .int (mTurn f (mL ln bd np nh i))), (8, .int (seqM ln bd np nh (i + 1))), (7, .int (seqM ln bd np nh i)), (0, .ref mm), (1, .int f), (2, .int w)]) hx hb dX6_worthOf_203 hl (by decide) rfl (fun ls hl => ?_)
                refine lv_iload hx hb dX6_worthOf_205 (lv_at hl 0 rfl) ?_
                refine lv_if_lt (tgt := 269) hx hb dX6_worthOf_207 (by decide) (fun c9 => ?_) (fun c9 => ?_)
                · skip
                  refine lv_iload hx hb dX6_worthOf_269 (lv_at hl 9 rfl) ?_
                  refine lv_istore (lv' := [(7, .int (seqM ln bd np nh (i + 1))), (20, .int hv), (5, .long (sh8 (mU1 f (mL ln bd np nh i) (mB ln bo bd np nh i) pp uu) i2)), (3, .long (sh8 (mP1 f (mL ln bd np nh i) (mB ln bo bd np nh i) pp uu) i2)), (18, .long (mU1 f (mL ln bd np nh i) (mB ln bo bd np nh i) pp uu)), (16, .long (mP1 f (mL ln bd np nh i) (mB ln bo bd np nh i) pp uu)), (14, .long (mB ln bo bd np nh i)), (12, .long (mSine (mTurn2 f (mL ln bd np nh i)))), (10, .long (mSine (mTurn f (mL ln bd np nh i)))), (9, .int (mTurn f (mL ln bd np nh i))), (8, .int (seqM ln bd np nh (i + 1))), (0, .ref mm), (1, .int f), (2, .int w)]) hx hb dX6_worthOf_271 hl (by decide) rfl (fun ls hl => ?_)
                  refine lv_goto (tgt := 41) hx hb dX6_worthOf_273 (by decide) ?_
                  exact ih_41 (i + 1) (sh8 (mP1 f (mL ln bd np nh i) (mB ln bo bd np nh i) pp uu) i2) (sh8 (mU1 f (mL ln bd np nh i) (mB ln bo bd np nh i) pp uu) i2) (by omega) (hF.trans (by first | with_reducible rfl | (simp only [mWorth, mWl, mSh, hG, ← ehv, if_neg c5, if_pos c7, if_pos c8, if_pos c9]; done) | (simp [mWorth, mWl, mSh, hG, ← ehv, if_neg c5, if_pos c7, if_pos c8, if_pos c9]; done))) _ _ hP hS ls (lv_sub hl [0, 2, 3, 11, 12, 13] rfl)
                · skip
                  obtain ⟨k, hk, rfl⟩ : ∃ k, k < nh ∧ hv = nI k := by rw [ehv] at c9 ⊢; exact mHoleAt_nat hnh c9
                  refine lv_iload_n hx hb dX6_worthOf_210 rfl (lv_at hl 13 rfl) ?_
                  refine lv_iload hx hb dX6_worthOf_211 (lv_at hl 0 rfl) ?_
                  refine lv_ishr hx hb dX6_worthOf_213 ?_
                  refine lv_iconst (v := 1) hx hb dX6_worthOf_214 (by decide) ?_
                  refine lv_iand hx hb dX6_worthOf_215 ?_
                  refine lv_iconst (v := 1) hx hb dX6_worthOf_216 (by decide) ?_
                  refine lv_icmp_ne (tgt := 269) hx hb dX6_worthOf_217 (by decide) (fun c10 => ?_) (fun c10 => ?_)
                  · skip
                    refine lv_iload hx hb dX6_worthOf_269 (lv_at hl 9 rfl) ?_
                    refine lv_istore (lv' := [(7, .int (seqM ln bd np nh (i + 1))), (20, .int (nI k)), (5, .long (sh8 (mU1 f (mL ln bd np nh i) (mB ln bo bd np nh i) pp uu) i2)), (3, .long (sh8 (mP1 f (mL ln bd np nh i) (mB ln bo bd np nh i) pp uu) i2)), (18, .long (mU1 f (mL ln bd np nh i) (mB ln bo bd np nh i) pp uu)), (16, .long (mP1 f (mL ln bd np nh i) (mB ln bo bd np nh i) pp uu)), (14, .long (mB ln bo bd np nh i)), (12, .long (mSine (mTurn2 f (mL ln bd np nh i)))), (10, .long (mSine (mTurn f (mL ln bd np nh i)))), (9, .int (mTurn f (mL ln bd np nh i))), (8, .int (seqM ln bd np nh (i + 1))), (0, .ref mm), (1, .int f), (2, .int w)]) hx hb dX6_worthOf_271 hl (by decide) rfl (fun ls hl => ?_)
                    refine lv_goto (tgt := 41) hx hb dX6_worthOf_273 (by decide) ?_
                    exact ih_41 (i + 1) (sh8 (mP1 f (mL ln bd np nh i) (mB ln bo bd np nh i) pp uu) i2) (sh8 (mU1 f (mL ln bd np nh i) (mB ln bo bd np nh i) pp uu) i2) (by omega) (hF.trans (by first | with_reducible rfl | (simp only [mWorth, mWl, mSh, hG, ← ehv, if_neg c5, if_pos c7, if_pos c8, if_neg c9, if_neg c10]; done) | (simp [mWorth, mWl, mSh, hG, ← ehv, if_neg c5, if_pos c7, if_pos c8, if_neg c9, if_neg c10]; done))) _ _ hP hS ls (lv_sub hl [0, 2, 3, 11, 12, 13] rfl)
                  · skip
                    refine lv_aload_n hx hb dX6_worthOf_220 rfl (lv_at hl 11 rfl) ?_
                    refine va_get (D := D) (ci := 6) (v := .ref m3) (C := RX6) (T := TX6) (N := 15) hx hb hts k6 hown hK.1 hP 0 rfl rfl 4 (by decide) (hts (.fieldLink RX6 16 "BoredPipesModel" "bored" "[I") (List.mem_of_getElem? (i := 6) rfl)) (fun _ h9 => h9) rfl dX6_worthOf_221 ?_
                    refine lv_iconst (v := 3) hx hb dX6_worthOf_224 (by decide) ?_
                    refine lv_iload hx hb dX6_worthOf_225 (lv_at hl 0 rfl) ?_
                    refine nn_imul hx hb dX6_worthOf_227 (x := 3) (y := k) rfl rfl ?_
                    refine lv_iconst (v := 1) hx hb dX6_worthOf_228 (by decide) ?_
                    refine nn_iadd hx hb dX6_worthOf_229 (x := (3 * k)) (y := 1) rfl rfl ?_
                    refine iald_n (k := ((3 * k) + 1)) hx hb hK.1 hP 3 rfl (by omega) (by decide) dX6_worthOf_230 ?_
                    refine lv_i2l hx hb dX6_worthOf_231 rfl ?_
                    refine lv_lstore (lv' := [(21, .long ((bd ((3 * k) + 1)).toInt64)), (20, .int (nI k)), (5, .long (sh8 (mU1 f (mL ln bd np nh i) (mB ln bo bd np nh i) pp uu) i2)), (3, .long (sh8 (mP1 f (mL ln bd np nh i) (mB ln bo bd np nh i) pp uu) i2)), (18, .long (mU1 f (mL ln bd np nh i) (mB ln bo bd np nh i) pp uu)), (16, .long (mP1 f (mL ln bd np nh i) (mB ln bo bd np nh i) pp uu)), (14, .long (mB ln bo bd np nh i)), (12, .long (mSine (mTurn2 f (mL ln bd np nh i)))), (10, .long (mSine (mTurn f (mL ln bd np nh i)))), (9, .int (mTurn f (mL ln bd np nh i))), (8, .int (seqM ln bd np nh (i + 1))), (7, .int (seqM ln bd np nh i)), (0, .ref mm), (1, .int f), (2, .int w)]) hx hb dX6_worthOf_232 hl (by decide) rfl (fun ls hl => ?_)
                    refine lv_lload hx hb dX6_worthOf_234 (lv_at hl 2 rfl) ?_
                    refine lv_lload_n hx hb dX6_worthOf_236 rfl (lv_at hl 3 rfl) ?_
                    refine lv_lload hx hb dX6_worthOf_237 (lv_at hl 0 rfl) ?_
                    refine lv_lmul hx hb dX6_worthOf_239 ?_
                    refine lv_lload hx hb dX6_worthOf_240 (lv_at hl 0 rfl) ?_
                    refine lv_lmul hx hb dX6_worthOf_242 ?_
                    refine lv_ldc2 hx hb hown (hts (.constantLong RX6 131 (25)) (List.mem_of_getElem? (i := 7) rfl)) dX6_worthOf_243 ?_
                    refine lv_lload hx hb dX6_worthOf_246 (lv_at hl 0 rfl) ?_
                    refine lv_aload_n hx hb dX6_worthOf_248 rfl (lv_at hl 12 rfl) ?_
                    refine va_get (D := D) (ci := 6) (v := .ref m3) (C := RX6) (T := TX6) (N := 15) hx hb hts k6 hown hK.1 hP 0 rfl rfl 4 (by decide) (hts (.fieldLink RX6 16 "BoredPipesModel" "bored" "[I") (List.mem_of_getElem? (i := 6) rfl)) (fun _ h9 => h9) rfl dX6_worthOf_249 ?_
                    refine lv_iconst (v := 3) hx hb dX6_worthOf_252 (by decide) ?_
                    refine lv_iload hx hb dX6_worthOf_253 (lv_at hl 1 rfl) ?_
                    refine nn_imul hx hb dX6_worthOf_255 (x := 3) (y := k) rfl rfl ?_
                    refine lv_iconst (v := 2) hx hb dX6_worthOf_256 (by decide) ?_
                    refine nn_iadd hx hb dX6_worthOf_257 (x := (3 * k)) (y := 2) rfl rfl ?_
                    refine iald_n (k := ((3 * k) + 2)) hx hb hK.1 hP 3 rfl (by omega) (by decide) dX6_worthOf_258 ?_
                    refine lv_i2l hx hb dX6_worthOf_259 rfl ?_
                    refine lv_ladd hx hb dX6_worthOf_260 ?_
                    refine lv_lmul hx hb dX6_worthOf_261 ?_
                    refine lv_iload_n hx hb dX6_worthOf_262 rfl (lv_at hl 13 rfl) ?_
                    refine lv_i2l hx hb dX6_worthOf_263 rfl ?_
                    refine lv_lmul hx hb dX6_worthOf_264 ?_
                    refine lv_ldiv hx hb dX6_worthOf_265 (hd0 k hk) ?_
                    refine lv_ladd hx hb dX6_worthOf_266 ?_
                    refine lv_eqj (y := mU3 f (bd (3 * k + 1)).toInt64 (bd (3 * k + 2)).toInt64 (sh8 (mP1 f (mL ln bd np nh i) (mB ln bo bd np nh i) pp uu) i2) (sh8 (mU1 f (mL ln bd np nh i) (mB ln bo bd np nh i) pp uu) i2)) rfl ?_
                    refine lv_lstore (lv' := [(5, .long (mU3 f (bd (3 * k + 1)).toInt64 (bd (3 * k + 2)).toInt64 (sh8 (mP1 f (mL ln bd np nh i) (mB ln bo bd np nh i) pp uu) i2) (sh8 (mU1 f (mL ln bd np nh i) (mB ln bo bd np nh i) pp uu) i2))), (21, .long ((bd ((3 * k) + 1)).toInt64)), (20, .int (nI k)), (3, .long (sh8 (mP1 f (mL ln bd np nh i) (mB ln bo bd np nh i) pp uu) i2)), (18, .long (mU1 f (mL ln bd np nh i) (mB ln bo bd np nh i) pp uu)), (16, .long (mP1 f (mL ln bd np nh i) (mB ln bo bd np nh i) pp uu)), (14, .long (mB ln bo bd np nh i)), (12, .long (mSine (mTurn2 f (mL ln bd np nh i)))), (10, .long (mSine (mTurn f (mL ln bd np nh i)))), (9, .int (mTurn f (mL ln bd np nh i))), (8, .int (seqM ln bd np nh (i + 1))), (7, .int (seqM ln bd np nh i)), (0, .ref mm), (1, .int f), (2, .int w)]) hx hb dX6_worthOf_267 hl (by decide) rfl (fun ls hl => ?_)
                    refine lv_iload hx hb dX6_worthOf_269 (lv_at hl 10 rfl) ?_
                    refine lv_istore (lv' := [(7, .int (seqM ln bd np nh (i + 1))), (5, .long (mU3 f (bd (3 * k + 1)).toInt64 (bd (3 * k + 2)).toInt64 (sh8 (mP1 f (mL ln bd np nh i) (mB ln bo bd np nh i) pp uu) i2) (sh8 (mU1 f (mL ln bd np nh i) (mB ln bo bd np nh i) pp uu) i2))), (21, .long ((bd ((3 * k) + 1)).toInt64)), (20, .int (nI k)), (3, .long (sh8 (mP1 f (mL ln bd np nh i) (mB ln bo bd np nh i) pp uu) i2)), (18, .long (mU1 f (mL ln bd np nh i) (mB ln bo bd np nh i) pp uu)), (16, .long (mP1 f (mL ln bd np nh i) (mB ln bo bd np nh i) pp uu)), (14, .long (mB ln bo bd np nh i)), (12, .long (mSine (mTurn2 f (mL ln bd np nh i)))), (10, .long (mSine (mTurn f (mL ln bd np nh i)))), (9, .int (mTurn f (mL ln bd np nh i))), (8, .int (seqM ln bd np nh (i + 1))), (0, .ref mm), (1, .int f), (2, .int w)]) hx hb dX6_worthOf_271 hl (by decide) rfl (fun ls hl => ?_)
                    refine lv_goto (tgt := 41) hx hb dX6_worthOf_273 (by decide) ?_
                    exact ih_41 (i + 1) (sh8 (mP1 f (mL ln bd np nh i) (mB ln bo bd np nh i) pp uu) i2) (mU3 f (bd (3 * k + 1)).toInt64 (bd (3 * k + 2)).toInt64 (sh8 (mP1 f (mL ln bd np nh i) (mB ln bo bd np nh i) pp uu) i2) (sh8 (mU1 f (mL ln bd np nh i) (mB ln bo bd np nh i) pp uu) i2)) (by omega) (hF.trans (by first | with_reducible rfl | (simp only [mWorth, mWl, mSh, hG, ← ehv, nI_clamp (show k < 2147483648 from by omega), if_neg c5, if_pos c7, if_pos c8, if_neg c9, if_pos c10]; done) | (simp [mWorth, mWl, mSh, hG, ← ehv, nI_clamp (show k < 2147483648 from by omega), if_neg c5, if_pos c7, if_pos c8, if_neg c9, if_pos c10]; done))) _ _ hP hS ls (lv_sub hl [0, 1, 4, 12, 13, 14] rfl)
              | succ r2 ih_167 =>
                intro i2 hi2 hF2 H locs hP hS ls hl
                refine lv_lload_n hx hb dX6_worthOf_167 rfl (lv_at hl 1 rfl) ?_
                refine rd_i (va_runS (As := [.long (sh8 (mP1 f (mL ln bd np nh i) (mB ln bo bd np nh i) pp uu) i2)]) (rest := []) ⟨hx, hb, hml, hown, hts⟩ (c_X6_isLarge l D cI cZ (sh8 (mP1 f (mL ln bd np nh i) (mB ln bo bd np nh i) pp uu) i2)) (va_cwS 1 hts gX6_worthOf_X6_isLarge rfl rfl rfl hdV_X6_isLarge.2 ⟨Nat.le_of_ble_eq_true rfl, Nat.le_of_ble_eq_true rfl⟩) (PR.S (hP.sub [] rfl) hK) rfl rfl hl.1 rfl (lv_room (Nat.le_of_ble_eq_true rfl)) dX6_worthOf_168 ⟨Nat.le_of_ble_eq_true rfl, Nat.le_of_ble_eq_true rfl⟩) hP hS (fun H locs hP hS => ?_)
                refine lv_if_ne (tgt := 182) hx hb dX6_worthOf_171 (by decide) (fun c11 => ?_) (fun c11 => ?_)
                · skip
                  refine lv_lload_n hx hb dX6_worthOf_182 rfl (lv_at hl 1 rfl) ?_
                  refine lv_bipush (v := 8) hx hb dX6_worthOf_183 (by decide) ?_
                  refine lv_lshr hx hb dX6_worthOf_185 rfl ?_
                  refine lv_eqj (y := sh8 (mP1 f (mL ln bd np nh i) (mB ln bo bd np nh i) pp uu) (i2 + 1)) rfl ?_
                  refine lv_lstore_n (lv' := [(3, .long (sh8 (mP1 f (mL ln bd np nh i) (mB ln bo bd np nh i) pp uu) (i2 + 1))), (5, .long (sh8 (mU1 f (mL ln bd np nh i) (mB ln bo bd np nh i) pp uu) i2)), (18, .long (mU1 f (mL ln bd np nh i) (mB ln bo bd np nh i) pp uu)), (16, .long (mP1 f (mL ln bd np nh i) (mB ln bo bd np nh i) pp uu)), (14, .long (mB ln bo bd np nh i)), (12, .long (mSine (mTurn2 f (mL ln bd np nh i)))), (10, .long (mSine (mTurn f (mL ln bd np nh i)))), (9, .int (mTurn f (mL ln bd np nh i))), (8, .int (seqM ln bd np nh (i + 1))), (7, .int (seqM ln bd np nh i)), (0, .ref mm), (1, .int f), (2, .int w)]) hx hb dX6_worthOf_186 rfl hl (by decide) rfl (fun ls hl => ?_)
                  refine lv_lload hx hb dX6_worthOf_187 (lv_at hl 1 rfl) ?_
                  refine lv_bipush (v := 8) hx hb dX6_worthOf_189 (by decide) ?_
                  refine lv_lshr hx hb dX6_worthOf_191 rfl ?_
                  refine lv_eqj (y := sh8 (mU1 f (mL ln bd np nh i) (mB ln bo bd np nh i) pp uu) (i2 + 1)) rfl ?_
                  refine lv_lstore (lv' := [(5, .long (sh8 (mU1 f (mL ln bd np nh i) (mB ln bo bd np nh i) pp uu) (i2 + 1))), (3, .long (sh8 (mP1 f (mL ln bd np nh i) (mB ln bo bd np nh i) pp uu) (i2 + 1))), (18, .long (mU1 f (mL ln bd np nh i) (mB ln bo bd np nh i) pp uu)), (16, .long (mP1 f (mL ln bd np nh i) (mB ln bo bd np nh i) pp uu)), (14, .long (mB ln bo bd np nh i)), (12, .long (mSine (mTurn2 f (mL ln bd np nh i)))), (10, .long (mSine (mTurn f (mL ln bd np nh i)))), (9, .int (mTurn f (mL ln bd np nh i))), (8, .int (seqM ln bd np nh (i + 1))), (7, .int (seqM ln bd np nh i)), (0, .ref mm), (1, .int f), (2, .int w)]) hx hb dX6_worthOf_192 hl (by decide) rfl (fun ls hl => ?_)
                  refine lv_goto (tgt := 167) hx hb dX6_worthOf_194 (by decide) ?_
                  exact ih_167 (i2 + 1) (by omega) (hF2.trans (by first | with_reducible rfl | (simp only [mWorth, mWl, mSh, if_neg c5, if_neg c11]; done) | (simp [mWorth, mWl, mSh, if_neg c5, if_neg c11]; done))) _ _ hP hS ls (lv_sub hl [0, 1, 2, 3, 4, 5, 6, 7, 8, 9, 10, 11, 12] rfl)
                · skip
                  refine lv_lload hx hb dX6_worthOf_174 (lv_at hl 0 rfl) ?_
                  refine rd_i (va_runS (As := [.long (sh8 (mU1 f (mL ln bd np nh i) (mB ln bo bd np nh i) pp uu) i2)]) (rest := []) ⟨hx, hb, hml, hown, hts⟩ (c_X6_isLarge l D cI cZ (sh8 (mU1 f (mL ln bd np nh i) (mB ln bo bd np nh i) pp uu) i2)) (va_cwS 1 hts gX6_worthOf_X6_isLarge rfl rfl rfl hdV_X6_isLarge.2 ⟨Nat.le_of_ble_eq_true rfl, Nat.le_of_ble_eq_true rfl⟩) (PR.S (hP.sub [] rfl) hK) rfl rfl hl.1 rfl (lv_room (Nat.le_of_ble_eq_true rfl)) dX6_worthOf_176 ⟨Nat.le_of_ble_eq_true rfl, Nat.le_of_ble_eq_true rfl⟩) hP hS (fun H locs hP hS => ?_)
                  refine lv_if_eq (tgt := 197) hx hb dX6_worthOf_179 (by decide) (fun c12 => ?_) (fun c12 => ?_)
                  · skip
                    have hG : mShN (mP1 f (mL ln bd np nh i) (mB ln bo bd np nh i) pp uu) (mU1 f (mL ln bd np nh i) (mB ln bo bd np nh i) pp uu) = i2 := hF2.trans (by first | with_reducible rfl | (simp only [mWorth, mWl, mSh, if_neg c5, if_pos c11, if_pos c12]; done) | (simp [mWorth, mWl, mSh, if_neg c5, if_pos c11, if_pos c12]; done))
                    refine lv_aload_n hx hb dX6_worthOf_197 rfl (lv_at hl 10 rfl) ?_
                    refine lv_iload hx hb dX6_worthOf_198 (lv_at hl 8 rfl) ?_
                    refine rd_i (va_runV (As := [.int (seqM ln bd np nh (i + 1))]) (rest := []) ⟨hx, hb, hml, hown, hts⟩ (c_X6_holeAt l D cI cZ mm m1 m2 m3 m4 m5 m6 m7 m8 m9 np nh nn re ro tm bd (seqM ln bd np nh (i + 1)) (by first | omega | exact hnh)) (cwV 1 hts gX6_worthOf_X6_holeAt rfl rfl rfl hdV_X6_holeAt ⟨Nat.le_of_ble_eq_true rfl, Nat.le_of_ble_eq_true rfl⟩) (PR.V (hP.sub [0, 3] rfl) hK hP (q0 := 0) rfl rfl) rfl rfl hl.1 rfl (lv_room (Nat.le_of_ble_eq_true rfl)) dX6_worthOf_200 ⟨Nat.le_of_ble_eq_true rfl, Nat.le_of_ble_eq_true rfl⟩) hP hS (fun H locs hP hS => ?_)
                    refine lv_topi (fun hv ehv => ?_)
                    refine lv_istore (lv' := [(20, .int hv), (5, .long (sh8 (mU1 f (mL ln bd np nh i) (mB ln bo bd np nh i) pp uu) i2)), (3, .long (sh8 (mP1 f (mL ln bd np nh i) (mB ln bo bd np nh i) pp uu) i2)), (18, .long (mU1 f (mL ln bd np nh i) (mB ln bo bd np nh i) pp uu)), (16, .long (mP1 f (mL ln bd np nh i) (mB ln bo bd np nh i) pp uu)), (14, .long (mB ln bo bd np nh i)), (12, .long (mSine (mTurn2 f (mL ln bd np nh i)))), (10, .long (mSine (mTurn f (mL ln bd np nh i)))), (9, .int (mTurn f (mL ln bd np nh i))), (8, .int (seqM ln bd np nh (i + 1))), (7, .int (seqM ln bd np nh i)), (0, .ref mm), (1, .int f), (2, .int w)]) hx hb dX6_worthOf_203 hl (by decide) rfl (fun ls hl => ?_)
                    refine lv_iload hx hb dX6_worthOf_205 (lv_at hl 0 rfl) ?_
                    refine lv_if_lt (tgt := 269) hx hb dX6_worthOf_207 (by decide) (fun c13 => ?_) (fun c13 => ?_)
                    · skip
                      refine lv_iload hx hb dX6_worthOf_269 (lv_at hl 9 rfl) ?_
                      refine lv_istore (lv' := [(7, .int (seqM ln bd np nh (i + 1))), (20, .int hv), (5, .long (sh8 (mU1 f (mL ln bd np nh i) (mB ln bo bd np nh i) pp uu) i2)), (3, .long (sh8 (mP1 f (mL ln bd np nh i) (mB ln bo bd np nh i) pp uu) i2)), (18, .long (mU1 f (mL ln bd np nh i) (mB ln bo bd np nh i) pp uu)), (16, .long (mP1 f (mL ln bd np nh i) (mB ln bo bd np nh i) pp uu)), (14, .long (mB ln bo bd np nh i)), (12, .long (mSine (mTurn2 f (mL ln bd np nh i)))), (10, .long (mSine (mTurn f (mL ln bd np nh i)))), (9, .int (mTurn f (mL ln bd np nh i))), (8, .int (seqM ln bd np nh (i + 1))), (0, .ref mm), (1, .int f), (2, .int w)]) hx hb dX6_worthOf_271 hl (by decide) rfl (fun ls hl => ?_)
                      refine lv_goto (tgt := 41) hx hb dX6_worthOf_273 (by decide) ?_
                      exact ih_41 (i + 1) (sh8 (mP1 f (mL ln bd np nh i) (mB ln bo bd np nh i) pp uu) i2) (sh8 (mU1 f (mL ln bd np nh i) (mB ln bo bd np nh i) pp uu) i2) (by omega) (hF.trans (by first | with_reducible rfl | (simp only [mWorth, mWl, mSh, hG, ← ehv, if_neg c5, if_pos c11, if_pos c12, if_pos c13]; done) | (simp [mWorth, mWl, mSh, hG, ← ehv, if_neg c5, if_pos c11, if_pos c12, if_pos c13]; done))) _ _ hP hS ls (lv_sub hl [0, 2, 3, 11, 12, 13] rfl)
                    · skip
                      obtain ⟨k, hk, rfl⟩ : ∃ k, k < nh ∧ hv = nI k := by rw [ehv] at c13 ⊢; exact mHoleAt_nat hnh c13
                      refine lv_iload_n hx hb dX6_worthOf_210 rfl (lv_at hl 13 rfl) ?_
                      refine lv_iload hx hb dX6_worthOf_211 (lv_at hl 0 rfl) ?_
                      refine lv_ishr hx hb dX6_worthOf_213 ?_
                      refine lv_iconst (v := 1) hx hb dX6_worthOf_214 (by decide) ?_
                      refine lv_iand hx hb dX6_worthOf_215 ?_
                      refine lv_iconst (v := 1) hx hb dX6_worthOf_216 (by decide) ?_
                      refine lv_icmp_ne (tgt := 269) hx hb dX6_worthOf_217 (by decide) (fun c14 => ?_) (fun c14 => ?_)
                      · skip
                        refine lv_iload hx hb dX6_worthOf_269 (lv_at hl 9 rfl) ?_
                        refine lv_istore (lv' := [(7, .int (seqM ln bd np nh (i + 1))), (20, .int (nI k)), (5, .long (sh8 (mU1 f (mL ln bd np nh i) (mB ln bo bd np nh i) pp uu) i2)), (3, .long (sh8 (mP1 f (mL ln bd np nh i) (mB ln bo bd np nh i) pp uu) i2)), (18, .long (mU1 f (mL ln bd np nh i) (mB ln bo bd np nh i) pp uu)), (16, .long (mP1 f (mL ln bd np nh i) (mB ln bo bd np nh i) pp uu)), (14, .long (mB ln bo bd np nh i)), (12, .long (mSine (mTurn2 f (mL ln bd np nh i)))), (10, .long (mSine (mTurn f (mL ln bd np nh i)))), (9, .int (mTurn f (mL ln bd np nh i))), (8, .int (seqM ln bd np nh (i + 1))), (0, .ref mm), (1, .int f), (2, .int w)]) hx hb dX6_worthOf_271 hl (by decide) rfl (fun ls hl => ?_)
                        refine lv_goto (tgt := 41) hx hb dX6_worthOf_273 (by decide) ?_
                        exact ih_41 (i + 1) (sh8 (mP1 f (mL ln bd np nh i) (mB ln bo bd np nh i) pp uu) i2) (sh8 (mU1 f (mL ln bd np nh i) (mB ln bo bd np nh i) pp uu) i2) (by omega) (hF.trans (by first | with_reducible rfl | (simp only [mWorth, mWl, mSh, hG, ← ehv, if_neg c5, if_pos c11, if_pos c12, if_neg c13, if_neg c14]; done) | (simp [mWorth, mWl, mSh, hG, ← ehv, if_neg c5, if_pos c11, if_pos c12, if_neg c13, if_neg c14]; done))) _ _ hP hS ls (lv_sub hl [0, 2, 3, 11, 12, 13] rfl)
                      · skip
                        refine lv_aload_n hx hb dX6_worthOf_220 rfl (lv_at hl 11 rfl) ?_
                        refine va_get (D := D) (ci := 6) (v := .ref m3) (C := RX6) (T := TX6) (N := 15) hx hb hts k6 hown hK.1 hP 0 rfl rfl 4 (by decide) (hts (.fieldLink RX6 16 "BoredPipesModel" "bored" "[I") (List.mem_of_getElem? (i := 6) rfl)) (fun _ h9 => h9) rfl dX6_worthOf_221 ?_
                        refine lv_iconst (v := 3) hx hb dX6_worthOf_224 (by decide) ?_
                        refine lv_iload hx hb dX6_worthOf_225 (lv_at hl 0 rfl) ?_
                        refine nn_imul hx hb dX6_worthOf_227 (x := 3) (y := k) rfl rfl ?_
                        refine lv_iconst (v := 1) hx hb dX6_worthOf_228 (by decide) ?_
                        refine nn_iadd hx hb dX6_worthOf_229 (x := (3 * k)) (y := 1) rfl rfl ?_
                        refine iald_n (k := ((3 * k) + 1)) hx hb hK.1 hP 3 rfl (by omega) (by decide) dX6_worthOf_230 ?_
                        refine lv_i2l hx hb dX6_worthOf_231 rfl ?_
                        refine lv_lstore (lv' := [(21, .long ((bd ((3 * k) + 1)).toInt64)), (20, .int (nI k)), (5, .long (sh8 (mU1 f (mL ln bd np nh i) (mB ln bo bd np nh i) pp uu) i2)), (3, .long (sh8 (mP1 f (mL ln bd np nh i) (mB ln bo bd np nh i) pp uu) i2)), (18, .long (mU1 f (mL ln bd np nh i) (mB ln bo bd np nh i) pp uu)), (16, .long (mP1 f (mL ln bd np nh i) (mB ln bo bd np nh i) pp uu)), (14, .long (mB ln bo bd np nh i)), (12, .long (mSine (mTurn2 f (mL ln bd np nh i)))), (10, .long (mSine (mTurn f (mL ln bd np nh i)))), (9, .int (mTurn f (mL ln bd np nh i))), (8, .int (seqM ln bd np nh (i + 1))), (7, .int (seqM ln bd np nh i)), (0, .ref mm), (1, .int f), (2, .int w)]) hx hb dX6_worthOf_232 hl (by decide) rfl (fun ls hl => ?_)
                        refine lv_lload hx hb dX6_worthOf_234 (lv_at hl 2 rfl) ?_
                        refine lv_lload_n hx hb dX6_worthOf_236 rfl (lv_at hl 3 rfl) ?_
                        refine lv_lload hx hb dX6_worthOf_237 (lv_at hl 0 rfl) ?_
                        refine lv_lmul hx hb dX6_worthOf_239 ?_
                        refine lv_lload hx hb dX6_worthOf_240 (lv_at hl 0 rfl) ?_
                        refine lv_lmul hx hb dX6_worthOf_242 ?_
                        refine lv_ldc2 hx hb hown (hts (.constantLong RX6 131 (25)) (List.mem_of_getElem? (i := 7) rfl)) dX6_worthOf_243 ?_
                        refine lv_lload hx hb dX6_worthOf_246 (lv_at hl 0 rfl) ?_
                        refine lv_aload_n hx hb dX6_worthOf_248 rfl (lv_at hl 12 rfl) ?_
                        refine va_get (D := D) (ci := 6) (v := .ref m3) (C := RX6) (T := TX6) (N := 15) hx hb hts k6 hown hK.1 hP 0 rfl rfl 4 (by decide) (hts (.fieldLink RX6 16 "BoredPipesModel" "bored" "[I") (List.mem_of_getElem? (i := 6) rfl)) (fun _ h9 => h9) rfl dX6_worthOf_249 ?_
                        refine lv_iconst (v := 3) hx hb dX6_worthOf_252 (by decide) ?_
                        refine lv_iload hx hb dX6_worthOf_253 (lv_at hl 1 rfl) ?_
                        refine nn_imul hx hb dX6_worthOf_255 (x := 3) (y := k) rfl rfl ?_
                        refine lv_iconst (v := 2) hx hb dX6_worthOf_256 (by decide) ?_
                        refine nn_iadd hx hb dX6_worthOf_257 (x := (3 * k)) (y := 2) rfl rfl ?_
                        refine iald_n (k := ((3 * k) + 2)) hx hb hK.1 hP 3 rfl (by omega) (by decide) dX6_worthOf_258 ?_
                        refine lv_i2l hx hb dX6_worthOf_259 rfl ?_
                        refine lv_ladd hx hb dX6_worthOf_260 ?_
                        refine lv_lmul hx hb dX6_worthOf_261 ?_
                        refine lv_iload_n hx hb dX6_worthOf_262 rfl (lv_at hl 13 rfl) ?_
                        refine lv_i2l hx hb dX6_worthOf_263 rfl ?_
                        refine lv_lmul hx hb dX6_worthOf_264 ?_
                        refine lv_ldiv hx hb dX6_worthOf_265 (hd0 k hk) ?_
                        refine lv_ladd hx hb dX6_worthOf_266 ?_
                        refine lv_eqj (y := mU3 f (bd (3 * k + 1)).toInt64 (bd (3 * k + 2)).toInt64 (sh8 (mP1 f (mL ln bd np nh i) (mB ln bo bd np nh i) pp uu) i2) (sh8 (mU1 f (mL ln bd np nh i) (mB ln bo bd np nh i) pp uu) i2)) rfl ?_
                        refine lv_lstore (lv' := [(5, .long (mU3 f (bd (3 * k + 1)).toInt64 (bd (3 * k + 2)).toInt64 (sh8 (mP1 f (mL ln bd np nh i) (mB ln bo bd np nh i) pp uu) i2) (sh8 (mU1 f (mL ln bd np nh i) (mB ln bo bd np nh i) pp uu) i2))), (21, .long ((bd ((3 * k) + 1)).toInt64)), (20, .int (nI k)), (3, .long (sh8 (mP1 f (mL ln bd np nh i) (mB ln bo bd np nh i) pp uu) i2)), (18, .long (mU1 f (mL ln bd np nh i) (mB ln bo bd np nh i) pp uu)), (16, .long (mP1 f (mL ln bd np nh i) (mB ln bo bd np nh i) pp uu)), (14, .long (mB ln bo bd np nh i)), (12, .long (mSine (mTurn2 f (mL ln bd np nh i)))), (10, .long (mSine (mTurn f (mL ln bd np nh i)))), (9, .int (mTurn f (mL ln bd np nh i))), (8, .int (seqM ln bd np nh (i + 1))), (7, .int (seqM ln bd np nh i)), (0, .ref mm), (1, .int f), (2, .int w)]) hx hb dX6_worthOf_267 hl (by decide) rfl (fun ls hl => ?_)
                        refine lv_iload hx hb dX6_worthOf_269 (lv_at hl 10 rfl) ?_
                        refine lv_istore (lv' := [(7, .int (seqM ln bd np nh (i + 1))), (5, .long (mU3 f (bd (3 * k + 1)).toInt64 (bd (3 * k + 2)).toInt64 (sh8 (mP1 f (mL ln bd np nh i) (mB ln bo bd np nh i) pp uu) i2) (sh8 (mU1 f (mL ln bd np nh i) (mB ln bo bd np nh i) pp uu) i2))), (21, .long ((bd ((3 * k) + 1)).toInt64)), (20, .int (nI k)), (3, .long (sh8 (mP1 f (mL ln bd np nh i) (mB ln bo bd np nh i) pp uu) i2)), (18, .long (mU1 f (mL ln bd np nh i) (mB ln bo bd np nh i) pp uu)), (16, .long (mP1 f (mL ln bd np nh i) (mB ln bo bd np nh i) pp uu)), (14, .long (mB ln bo bd np nh i)), (12, .long (mSine (mTurn2 f (mL ln bd np nh i)))), (10, .long (mSine (mTurn f (mL ln bd np nh i)))), (9, .int (mTurn f (mL ln bd np nh i))), (8, .int (seqM ln bd np nh (i + 1))), (0, .ref mm), (1, .int f), (2, .int w)]) hx hb dX6_worthOf_271 hl (by decide) rfl (fun ls hl => ?_)
                        refine lv_goto (tgt := 41) hx hb dX6_worthOf_273 (by decide) ?_
                        exact ih_41 (i + 1) (sh8 (mP1 f (mL ln bd np nh i) (mB ln bo bd np nh i) pp uu) i2) (mU3 f (bd (3 * k + 1)).toInt64 (bd (3 * k + 2)).toInt64 (sh8 (mP1 f (mL ln bd np nh i) (mB ln bo bd np nh i) pp uu) i2) (sh8 (mU1 f (mL ln bd np nh i) (mB ln bo bd np nh i) pp uu) i2)) (by omega) (hF.trans (by first | with_reducible rfl | (simp only [mWorth, mWl, mSh, hG, ← ehv, nI_clamp (show k < 2147483648 from by omega), if_neg c5, if_pos c11, if_pos c12, if_neg c13, if_pos c14]; done) | (simp [mWorth, mWl, mSh, hG, ← ehv, nI_clamp (show k < 2147483648 from by omega), if_neg c5, if_pos c11, if_pos c12, if_neg c13, if_pos c14]; done))) _ _ hP hS ls (lv_sub hl [0, 1, 4, 12, 13, 14] rfl)
                  · skip
                    refine lv_lload_n hx hb dX6_worthOf_182 rfl (lv_at hl 1 rfl) ?_
                    refine lv_bipush (v := 8) hx hb dX6_worthOf_183 (by decide) ?_
                    refine lv_lshr hx hb dX6_worthOf_185 rfl ?_
                    refine lv_eqj (y := sh8 (mP1 f (mL ln bd np nh i) (mB ln bo bd np nh i) pp uu) (i2 + 1)) rfl ?_
                    refine lv_lstore_n (lv' := [(3, .long (sh8 (mP1 f (mL ln bd np nh i) (mB ln bo bd np nh i) pp uu) (i2 + 1))), (5, .long (sh8 (mU1 f (mL ln bd np nh i) (mB ln bo bd np nh i) pp uu) i2)), (18, .long (mU1 f (mL ln bd np nh i) (mB ln bo bd np nh i) pp uu)), (16, .long (mP1 f (mL ln bd np nh i) (mB ln bo bd np nh i) pp uu)), (14, .long (mB ln bo bd np nh i)), (12, .long (mSine (mTurn2 f (mL ln bd np nh i)))), (10, .long (mSine (mTurn f (mL ln bd np nh i)))), (9, .int (mTurn f (mL ln bd np nh i))), (8, .int (seqM ln bd np nh (i + 1))), (7, .int (seqM ln bd np nh i)), (0, .ref mm), (1, .int f), (2, .int w)]) hx hb dX6_worthOf_186 rfl hl (by decide) rfl (fun ls hl => ?_)
                    refine lv_lload hx hb dX6_worthOf_187 (lv_at hl 1 rfl) ?_
                    refine lv_bipush (v := 8) hx hb dX6_worthOf_189 (by decide) ?_
                    refine lv_lshr hx hb dX6_worthOf_191 rfl ?_
                    refine lv_eqj (y := sh8 (mU1 f (mL ln bd np nh i) (mB ln bo bd np nh i) pp uu) (i2 + 1)) rfl ?_
                    refine lv_lstore (lv' := [(5, .long (sh8 (mU1 f (mL ln bd np nh i) (mB ln bo bd np nh i) pp uu) (i2 + 1))), (3, .long (sh8 (mP1 f (mL ln bd np nh i) (mB ln bo bd np nh i) pp uu) (i2 + 1))), (18, .long (mU1 f (mL ln bd np nh i) (mB ln bo bd np nh i) pp uu)), (16, .long (mP1 f (mL ln bd np nh i) (mB ln bo bd np nh i) pp uu)), (14, .long (mB ln bo bd np nh i)), (12, .long (mSine (mTurn2 f (mL ln bd np nh i)))), (10, .long (mSine (mTurn f (mL ln bd np nh i)))), (9, .int (mTurn f (mL ln bd np nh i))), (8, .int (seqM ln bd np nh (i + 1))), (7, .int (seqM ln bd np nh i)), (0, .ref mm), (1, .int f), (2, .int w)]) hx hb dX6_worthOf_192 hl (by decide) rfl (fun ls hl => ?_)
                    refine lv_goto (tgt := 167) hx hb dX6_worthOf_194 (by decide) ?_
                    exact ih_167 (i2 + 1) (by omega) (hF2.trans (by first | with_reducible rfl | (simp only [mWorth, mWl, mSh, if_neg c5, if_pos c11, if_neg c12]; done) | (simp [mWorth, mWl, mSh, if_neg c5, if_pos c11, if_neg c12]; done))) _ _ hP hS ls (lv_sub hl [0, 1, 2, 3, 4, 5, 6, 7, 8, 9, 10, 11, 12] rfl)
            exact lp_167 3 0 (by omega) rfl _ _ hP hS ls (lv_sub hl [0, 1, 2, 3, 4, 5, 6, 7, 8, 9, 10, 11, 12] rfl)
      exact lp_41 18 0 (if en 1 = 0 then 0 else 1048576) (if en 1 = 0 then 1048576 else 0) (by omega) rfl _ _ hP hS ls (lv_sub hl [0, 1, 2, 3, 4, 5] rfl)
    refine lv_if_ne (tgt := 32) hx hb dX6_worthOf_23 (by decide) (fun c2 => ?_) (fun c2 => ?_)
    · skip
      refine lv_lconst (v := 0) hx hb dX6_worthOf_32 (by decide) ?_
      exact lv_eqj (if_neg c2).symm (jn_23 _ _ hP hS)
    · skip
      refine lv_ldc2 hx hb hown (hts (.constantLong RX6 119 (1048576)) (List.mem_of_getElem? (i := 2) rfl)) dX6_worthOf_26 ?_
      refine lv_goto (tgt := 33) hx hb dX6_worthOf_29 (by decide) ?_
      exact lv_eqj (if_pos c2).symm (jn_23 _ _ hP hS)
  refine lv_if_ne (tgt := 13) hx hb dX6_worthOf_6 (by decide) (fun c1 => ?_) (fun c1 => ?_)
  · skip
    refine lv_ldc2 hx hb hown (hts (.constantLong RX6 119 (1048576)) (List.mem_of_getElem? (i := 2) rfl)) dX6_worthOf_13 ?_
    exact lv_eqj (if_neg c1).symm (jn_6 _ _ hP hS)
  · skip
    refine lv_lconst (v := 0) hx hb dX6_worthOf_9 (by decide) ?_
    refine lv_goto (tgt := 16) hx hb dX6_worthOf_10 (by decide) ?_
    exact lv_eqj (if_pos c1).symm (jn_6 _ _ hP hS)
