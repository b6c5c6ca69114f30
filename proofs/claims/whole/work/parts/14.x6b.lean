set_option maxHeartbeats 4000000 in
set_option maxRecDepth 100000 in
theorem c_X6_toneOf (l : Launch) (D : va_G) (cI cZ : ClassId) (mm : Nat) (m1 : Nat) (m2 : Nat) (m3 : Nat) (m4 : Nat) (m5 : Nat) (m6 : Nat) (m7 : Nat) (m8 : Nat) (m9 : Nat) (np : Nat) (nh : Nat) (nn : Nat) (re : Int32) (ro : Int32) (tm : Int32) (ln : Nat → Int32) (bo : Nat → Int32) (bd : Nat → Int32) (en : Nat → Int32) (w : Int32) (k : Int32) (hnp : np ≤ 12) (hnh : nh ≤ 6) (hM : 1 ≤ np → MH ln bo bd np nh) : Met l yX6_toneOf wsX6_toneOf rmX6_toneOf (va_Pc [.ref mm, .int w, .int k] (PW D cI cZ [(mm, .inr (6, [.int (nI np), .ref m1, .ref m2, .int (nI nh), .ref m3, .ref m4, .int (nI nn), .ref m5, .ref m6, .ref m7, .ref m8, .int re, .int ro, .ref m9, .int tm])), (m1, .inl (cI, 12, .inl ln)), (m2, .inl (cI, 12, .inl bo)), (m3, .inl (cI, 18, .inl bd)), (m4, .inl (cI, 2, .inl en))])) (WI (S := Unit) D (fun zr _ => zr = (mToneOf (mWorth ln bo bd np nh (en 0) (en 1) w) k np).1) (fun _ => [(mm, .inr (6, [.int (nI np), .ref m1, .ref m2, .int (nI nh), .ref m3, .ref m4, .int (nI nn), .ref m5, .ref m6, .ref m7, .ref m8, .int re, .int ro, .ref m9, .int ((mToneOf (mWorth ln bo bd np nh (en 0) (en 1) w) k np).2)])), (m1, .inl (cI, 12, .inl ln)), (m2, .inl (cI, 12, .inl bo)), (m3, .inl (cI, 18, .inl bd)), (m4, .inl (cI, 2, .inl en))]) [(mm, .inr (6, [.int (nI np), .ref m1, .ref m2, .int (nI nh), .ref m3, .ref m4, .int (nI nn), .ref m5, .ref m6, .ref m7, .ref m8, .int re, .int ro, .ref m9, .int tm])), (m1, .inl (cI, 12, .inl ln)), (m2, .inl (cI, 12, .inl bo)), (m3, .inl (cI, 18, .inl bd)), (m4, .inl (cI, 2, .inl en))]) 0 0 (ad [(mm, .inr (6, [.int (nI np), .ref m1, .ref m2, .int (nI nh), .ref m3, .ref m4, .int (nI nn), .ref m5, .ref m6, .ref m7, .ref m8, .int re, .int ro, .ref m9, .int tm])), (m1, .inl (cI, 12, .inl ln)), (m2, .inl (cI, 12, .inl bo)), (m3, .inl (cI, 18, .inl bd)), (m4, .inl (cI, 2, .inl en))]) := by
  refine met_go (cc := cX6_toneOf) (maxL := 6) (ret := (some .int)) (by decide) rfl ?_ (Nat.le_of_ble_eq_true rfl)
  intro p e s m a below meth c Q hQ _ hx hb hr hml hts hown hlk hnm hpre ls hl
  have hown : s.vm.findClass RX6 = some m.cls := hown
  obtain ⟨hP, hK, hD0⟩ := hpre
  have hN := hK.2
  obtain ⟨A, hAe⟩ : ∃ A : Nat → Prop, A = ad [(mm, .inr (6, [.int (nI np), .ref m1, .ref m2, .int (nI nh), .ref m3, .ref m4, .int (nI nn), .ref m5, .ref m6, .ref m7, .ref m8, .int re, .int ro, .ref m9, .int tm])), (m1, .inl (cI, 12, .inl ln)), (m2, .inl (cI, 12, .inl bo)), (m3, .inl (cI, 18, .inl bd)), (m4, .inl (cI, 2, .inl en))] := ⟨_, rfl⟩
  have hD : va_D A [(mm, .inr (6, [.int (nI np), .ref m1, .ref m2, .int (nI nh), .ref m3, .ref m4, .int (nI nn), .ref m5, .ref m6, .ref m7, .ref m8, .int re, .int ro, .ref m9, .int tm])), (m1, .inl (cI, 12, .inl ln)), (m2, .inl (cI, 12, .inl bo)), (m3, .inl (cI, 18, .inl bd)), (m4, .inl (cI, 2, .inl en))] := by rw [hAe]; exact hD0.ad
  have hS : va_S A s.heap s.heap [] := va_S.rf
  have hl : lv_has ls 6 [(0, .ref mm), (1, .int w), (2, .int k)] := hl
  have k6 : ∀ w ∈ wsX60, w ∈ wsX6_toneOf := fun w h => List.mem_cons_of_mem _ (List.mem_append_right _ h)
  refine lv_aload_n hx hb dX6_toneOf_0 rfl (lv_at hl 0 rfl) ?_
  refine lv_iconst (v := 0) hx hb dX6_toneOf_1 (by decide) ?_
  refine va_put (D := D) (ci := 6) (v := .int 0) (ty := .int) (C := RX6) (T := TX6) (N := 15) hx hb hts k6 tyX6 tyX6_ok nmX6 hown hK.1 hP hD hS 0 rfl rfl 14 (by decide) (hts (.fieldLink RX6 148 "BoredPipesModel" "toneMany" "I") (List.mem_of_getElem? (i := 1) rfl)) (fun _ h9 => h9) rfl (tyX6_ok 14 (by decide)) rfl rfl (Nat.le_of_ble_eq_true rfl) dX6_toneOf_2 (fun H locs hP hD hS => ?_)
  have hP : va_P D vwCl [(mm, .inr (6, [.int (nI np), .ref m1, .ref m2, .int (nI nh), .ref m3, .ref m4, .int (nI nn), .ref m5, .ref m6, .ref m7, .ref m8, .int re, .int ro, .ref m9, .int 0])), (m1, .inl (cI, 12, .inl ln)), (m2, .inl (cI, 12, .inl bo)), (m3, .inl (cI, 18, .inl bd)), (m4, .inl (cI, 2, .inl en))] H := hP
  have hD : va_D A [(mm, .inr (6, [.int (nI np), .ref m1, .ref m2, .int (nI nh), .ref m3, .ref m4, .int (nI nn), .ref m5, .ref m6, .ref m7, .ref m8, .int re, .int ro, .ref m9, .int 0])), (m1, .inl (cI, 12, .inl ln)), (m2, .inl (cI, 12, .inl bo)), (m3, .inl (cI, 18, .inl bd)), (m4, .inl (cI, 2, .inl en))] := hD
  refine lv_aload_n hx hb dX6_toneOf_5 rfl (lv_at hl 0 rfl) ?_
  refine va_get (D := D) (ci := 6) (v := .int (nI np)) (C := RX6) (T := TX6) (N := 15) hx hb hts k6 hown hK.1 hP 0 rfl rfl 0 (by decide) (hts (.fieldLink RX6 42 "BoredPipesModel" "pieces" "I") (List.mem_of_getElem? (i := 2) rfl)) (fun _ h9 => h9) rfl dX6_toneOf_6 ?_
  refine lv_if_ne (tgt := 14) hx hb dX6_toneOf_9 (by decide) (fun c1 => ?_) (fun c1 => ?_)
  · skip
    have hn1 : 1 ≤ np := nI_n0 c1
    have hMM := hM hn1
    refine lv_aload_n hx hb dX6_toneOf_14 rfl (lv_at hl 0 rfl) ?_
    refine lv_iconst (v := 1) hx hb dX6_toneOf_15 (by decide) ?_
    refine lv_iload_n hx hb dX6_toneOf_16 rfl (lv_at hl 1 rfl) ?_
    refine rd_l (va_runV (As := [.int 1, .int w]) (rest := []) ⟨hx, hb, hml, hown, hts⟩ (c_X6_worthOf l D cI cZ mm m1 m2 m3 m4 m5 m6 m7 m8 m9 np nh nn re ro 0 ln bo bd en 1 w (by first | omega | exact hnp) (by first | omega | exact hnh) hn1 hMM.1 hMM.2.1 hMM.2.2.1 (fun j hj => hMM.2.2.2 1 j (by decide) (by decide) hj)) (cwV 2 hts gX6_toneOf_X6_worthOf rfl rfl rfl hdV_X6_worthOf ⟨Nat.le_of_ble_eq_true rfl, Nat.le_of_ble_eq_true rfl⟩) (PR.V hP hK hP (q0 := 0) rfl rfl) rfl rfl hl.1 rfl (lv_room (Nat.le_of_ble_eq_true rfl)) dX6_toneOf_17 ⟨Nat.le_of_ble_eq_true rfl, Nat.le_of_ble_eq_true rfl⟩) hP hS (fun H locs hP hS => ?_)
    refine lv_lconst (v := 0) hx hb dX6_toneOf_20 (by decide) ?_
    refine W.lcmp hx hb dX6_toneOf_21 ?_
    have jn_22 : ∀ (H : Heap) (locs : List Loc), va_P D vwCl [(mm, .inr (6, [.int (nI np), .ref m1, .ref m2, .int (nI nh), .ref m3, .ref m4, .int (nI nn), .ref m5, .ref m6, .ref m7, .ref m8, .int re, .int ro, .ref m9, .int 0])), (m1, .inl (cI, 12, .inl ln)), (m2, .inl (cI, 12, .inl bo)), (m3, .inl (cI, 18, .inl bd)), (m4, .inl (cI, 2, .inl en))] H → va_S A s.heap H locs → W p l e rmX6_toneOf s m a below meth c H locs 0 0 Q (F0 m 30 ls [.int (if (mWorth ln bo bd np nh (en 0) (en 1) w 1) ≤ 0 then 0 else 1)]) := by
      intro H locs hP hS
      refine lv_eqi (y := fAb ((mWorth ln bo bd np nh (en 0) (en 1) w) 1)) rfl ?_
      refine lv_istore_n (lv' := [(3, .int (fAb ((mWorth ln bo bd np nh (en 0) (en 1) w) 1))), (0, .ref mm), (1, .int w), (2, .int k)]) hx hb dX6_toneOf_30 rfl hl (by decide) rfl (fun ls hl => ?_)
      refine lv_iconst (v := 1) hx hb dX6_toneOf_31 (by decide) ?_
      refine lv_istore (lv' := [(4, .int 1), (3, .int (fAb ((mWorth ln bo bd np nh (en 0) (en 1) w) 1))), (0, .ref mm), (1, .int w), (2, .int k)]) hx hb dX6_toneOf_32 hl (by decide) rfl (fun ls hl => ?_)
      have lp_34 : ∀ (r : Nat) (i : Nat) (z : Int32) (y : Int32), (i + r = 300) → (mToneOf (mWorth ln bo bd np nh (en 0) (en 1) w) k np = mTone (mWorth ln bo bd np nh (en 0) (en 1) w) k r i z y) → ∀ (H : Heap) (locs : List Loc), va_P D vwCl [(mm, .inr (6, [.int (nI np), .ref m1, .ref m2, .int (nI nh), .ref m3, .ref m4, .int (nI nn), .ref m5, .ref m6, .ref m7, .ref m8, .int re, .int ro, .ref m9, .int z])), (m1, .inl (cI, 12, .inl ln)), (m2, .inl (cI, 12, .inl bo)), (m3, .inl (cI, 18, .inl bd)), (m4, .inl (cI, 2, .inl en))] H → va_D A [(mm, .inr (6, [.int (nI np), .ref m1, .ref m2, .int (nI nh), .ref m3, .ref m4, .int (nI nn), .ref m5, .ref m6, .ref m7, .ref m8, .int re, .int ro, .ref m9, .int z])), (m1, .inl (cI, 12, .inl ln)), (m2, .inl (cI, 12, .inl bo)), (m3, .inl (cI, 18, .inl bd)), (m4, .inl (cI, 2, .inl en))] → va_S A s.heap H locs → ∀ (ls : Array Slot), lv_has ls 6 [(4, .int (nI i)), (3, .int y), (0, .ref mm), (1, .int w), (2, .int k)] → W p l e rmX6_toneOf s m a below meth c H locs 0 0 Q (F0 m 34 ls []) := by
        intro r
        induction r with
        | zero =>
          intro i z y hi hF H locs hP hD hS ls hl
          refine lv_iload hx hb dX6_toneOf_34 (lv_at hl 0 rfl) ?_
          refine lv_sipush (v := 300) hx hb dX6_toneOf_36 (by decide) ?_
          refine lv_icmp_ge (tgt := 99) hx hb dX6_toneOf_39 (by decide) (fun c3 => ?_) (fun c3 => absurd ((nI_le (a := 300) (b := i) (by omega) (by omega))) c3)
          refine lv_iconst (v := (-1)) hx hb dX6_toneOf_99 (by decide) ?_
          exact ret_WI hQ hx hb hr hlk hAe () (by rw [show (mToneOf (mWorth ln bo bd np nh (en 0) (en 1) w) k np).2 = z from congrArg Prod.snd (show mToneOf (mWorth ln bo bd np nh (en 0) (en 1) w) k np = ((-1), z) from hF.trans (by first | with_reducible rfl | (simp only [mToneOf, mTone, if_neg c1, if_pos c3]; done) | (simp [mToneOf, mTone, if_neg c1, if_pos c3]; done)))]; exact hP) hS (congrArg Prod.fst (show mToneOf (mWorth ln bo bd np nh (en 0) (en 1) w) k np = ((-1), z) from hF.trans (by first | with_reducible rfl | (simp only [mToneOf, mTone, if_neg c1, if_pos c3]; done) | (simp [mToneOf, mTone, if_neg c1, if_pos c3]; done)))).symm dX6_toneOf_100
        | succ r ih_34 =>
          intro i z y hi hF H locs hP hD hS ls hl
          refine lv_iload hx hb dX6_toneOf_34 (lv_at hl 0 rfl) ?_
          refine lv_sipush (v := 300) hx hb dX6_toneOf_36 (by decide) ?_
          refine lv_icmp_ge (tgt := 99) hx hb dX6_toneOf_39 (by decide) (fun c4 => absurd c4 ((nI_ge (a := i) (b := 300) (by omega) (by omega)))) (fun c4 => ?_)
          refine lv_aload_n hx hb dX6_toneOf_42 rfl (lv_at hl 2 rfl) ?_
          refine lv_iload hx hb dX6_toneOf_43 (lv_at hl 0 rfl) ?_
          refine lv_iconst (v := 1) hx hb dX6_toneOf_45 (by decide) ?_
          refine nn_iadd hx hb dX6_toneOf_46 (x := i) (y := 1) rfl rfl ?_
          refine lv_iload_n hx hb dX6_toneOf_47 rfl (lv_at hl 3 rfl) ?_
          refine rd_l (va_runV (As := [.int (nI (i + 1)), .int w]) (rest := []) ⟨hx, hb, hml, hown, hts⟩ (c_X6_worthOf l D cI cZ mm m1 m2 m3 m4 m5 m6 m7 m8 m9 np nh nn re ro z ln bo bd en (nI (i + 1)) w (by first | omega | exact hnp) (by first | omega | exact hnh) hn1 hMM.1 hMM.2.1 hMM.2.2.1 (fun j hj => hMM.2.2.2 (i + 1) j (by omega) (by omega) hj)) (cwV 2 hts gX6_toneOf_X6_worthOf rfl rfl rfl hdV_X6_worthOf ⟨Nat.le_of_ble_eq_true rfl, Nat.le_of_ble_eq_true rfl⟩) (PR.V hP hK hP (q0 := 0) rfl rfl) rfl rfl hl.1 rfl (lv_room (Nat.le_of_ble_eq_true rfl)) dX6_toneOf_48 ⟨Nat.le_of_ble_eq_true rfl, Nat.le_of_ble_eq_true rfl⟩) hP hS (fun H locs hP hS => ?_)
          refine lv_lconst (v := 0) hx hb dX6_toneOf_51 (by decide) ?_
          refine W.lcmp hx hb dX6_toneOf_52 ?_
          have jn_53 : ∀ (H : Heap) (locs : List Loc), va_P D vwCl [(mm, .inr (6, [.int (nI np), .ref m1, .ref m2, .int (nI nh), .ref m3, .ref m4, .int (nI nn), .ref m5, .ref m6, .ref m7, .ref m8, .int re, .int ro, .ref m9, .int z])), (m1, .inl (cI, 12, .inl ln)), (m2, .inl (cI, 12, .inl bo)), (m3, .inl (cI, 18, .inl bd)), (m4, .inl (cI, 2, .inl en))] H → va_S A s.heap H locs → W p l e rmX6_toneOf s m a below meth c H locs 0 0 Q (F0 m 61 ls [.int (if (mWorth ln bo bd np nh (en 0) (en 1) w (nI (i + 1))) ≤ 0 then 0 else 1)]) := by
            intro H locs hP hS
            refine lv_eqi (y := fAb ((mWorth ln bo bd np nh (en 0) (en 1) w) (nI (i + 1)))) rfl ?_
            refine lv_istore (lv' := [(5, .int (fAb ((mWorth ln bo bd np nh (en 0) (en 1) w) (nI (i + 1))))), (4, .int (nI i)), (3, .int y), (0, .ref mm), (1, .int w), (2, .int k)]) hx hb dX6_toneOf_61 hl (by decide) rfl (fun ls hl => ?_)
            refine lv_iload_n hx hb dX6_toneOf_63 rfl (lv_at hl 2 rfl) ?_
            refine lv_iload hx hb dX6_toneOf_64 (lv_at hl 0 rfl) ?_
            refine lv_icmp_eq (tgt := 90) hx hb dX6_toneOf_66 (by decide) (fun c6 => ?_) (fun c6 => ?_)
            · skip
              refine lv_iload hx hb dX6_toneOf_90 (lv_at hl 0 rfl) ?_
              refine lv_istore_n (lv' := [(3, .int (fAb ((mWorth ln bo bd np nh (en 0) (en 1) w) (nI (i + 1))))), (5, .int (fAb ((mWorth ln bo bd np nh (en 0) (en 1) w) (nI (i + 1))))), (4, .int (nI i)), (0, .ref mm), (1, .int w), (2, .int k)]) hx hb dX6_toneOf_92 rfl hl (by decide) rfl (fun ls hl => ?_)
              refine lv_iinc (v := nI (i + 1)) (lv' := [(4, .int (nI (i + 1))), (3, .int (fAb ((mWorth ln bo bd np nh (en 0) (en 1) w) (nI (i + 1))))), (5, .int (fAb ((mWorth ln bo bd np nh (en 0) (en 1) w) (nI (i + 1))))), (0, .ref mm), (1, .int w), (2, .int k)]) hx hb dX6_toneOf_93 hl (k := 2) rfl (iinc_1 i) (by decide) rfl (fun ls hl => ?_)
              refine lv_goto (tgt := 34) hx hb dX6_toneOf_96 (by decide) ?_
              exact ih_34 (i + 1) z (fAb ((mWorth ln bo bd np nh (en 0) (en 1) w) (nI (i + 1)))) (by omega) (hF.trans (by first | with_reducible rfl | (simp only [mToneOf, mTone, if_neg c1, if_neg c4, if_pos c6]; done) | (simp [mToneOf, mTone, if_neg c1, if_neg c4, if_pos c6]; done))) _ _ hP hD hS ls (lv_sub hl [0, 1, 3, 4, 5] rfl)
            · skip
              refine lv_aload_n hx hb dX6_toneOf_69 rfl (lv_at hl 3 rfl) ?_
              refine va_get (D := D) (ci := 6) (v := .int z) (C := RX6) (T := TX6) (N := 15) hx hb hts k6 hown hK.1 hP 0 rfl rfl 14 (by decide) (hts (.fieldLink RX6 148 "BoredPipesModel" "toneMany" "I") (List.mem_of_getElem? (i := 1) rfl)) (fun _ h9 => h9) rfl dX6_toneOf_70 ?_
              refine lv_iload_n hx hb dX6_toneOf_73 rfl (lv_at hl 5 rfl) ?_
              refine lv_icmp_ne (tgt := 80) hx hb dX6_toneOf_74 (by decide) (fun c7 => ?_) (fun c7 => ?_)
              · skip
                refine lv_aload_n hx hb dX6_toneOf_80 rfl (lv_at hl 3 rfl) ?_
                refine lv_dup hx hb dX6_toneOf_81 rfl ?_
                refine va_get (D := D) (ci := 6) (v := .int z) (C := RX6) (T := TX6) (N := 15) hx hb hts k6 hown hK.1 hP 0 rfl rfl 14 (by decide) (hts (.fieldLink RX6 148 "BoredPipesModel" "toneMany" "I") (List.mem_of_getElem? (i := 1) rfl)) (fun _ h9 => h9) rfl dX6_toneOf_82 ?_
                refine lv_iconst (v := 1) hx hb dX6_toneOf_85 (by decide) ?_
                refine lv_iadd hx hb dX6_toneOf_86 ?_
                refine va_put (D := D) (ci := 6) (v := .int (z + 1)) (ty := .int) (C := RX6) (T := TX6) (N := 15) hx hb hts k6 tyX6 tyX6_ok nmX6 hown hK.1 hP hD hS 0 rfl rfl 14 (by decide) (hts (.fieldLink RX6 148 "BoredPipesModel" "toneMany" "I") (List.mem_of_getElem? (i := 1) rfl)) (fun _ h9 => h9) rfl (tyX6_ok 14 (by decide)) rfl rfl (Nat.le_of_ble_eq_true rfl) dX6_toneOf_87 (fun H locs hP hD hS => ?_)
                have hP : va_P D vwCl [(mm, .inr (6, [.int (nI np), .ref m1, .ref m2, .int (nI nh), .ref m3, .ref m4, .int (nI nn), .ref m5, .ref m6, .ref m7, .ref m8, .int re, .int ro, .ref m9, .int (z + 1)])), (m1, .inl (cI, 12, .inl ln)), (m2, .inl (cI, 12, .inl bo)), (m3, .inl (cI, 18, .inl bd)), (m4, .inl (cI, 2, .inl en))] H := hP
                have hD : va_D A [(mm, .inr (6, [.int (nI np), .ref m1, .ref m2, .int (nI nh), .ref m3, .ref m4, .int (nI nn), .ref m5, .ref m6, .ref m7, .ref m8, .int re, .int ro, .ref m9, .int (z + 1)])), (m1, .inl (cI, 12, .inl ln)), (m2, .inl (cI, 12, .inl bo)), (m3, .inl (cI, 18, .inl bd)), (m4, .inl (cI, 2, .inl en))] := hD
                refine lv_iload hx hb dX6_toneOf_90 (lv_at hl 0 rfl) ?_
                refine lv_istore_n (lv' := [(3, .int (fAb ((mWorth ln bo bd np nh (en 0) (en 1) w) (nI (i + 1))))), (5, .int (fAb ((mWorth ln bo bd np nh (en 0) (en 1) w) (nI (i + 1))))), (4, .int (nI i)), (0, .ref mm), (1, .int w), (2, .int k)]) hx hb dX6_toneOf_92 rfl hl (by decide) rfl (fun ls hl => ?_)
                refine lv_iinc (v := nI (i + 1)) (lv' := [(4, .int (nI (i + 1))), (3, .int (fAb ((mWorth ln bo bd np nh (en 0) (en 1) w) (nI (i + 1))))), (5, .int (fAb ((mWorth ln bo bd np nh (en 0) (en 1) w) (nI (i + 1))))), (0, .ref mm), (1, .int w), (2, .int k)]) hx hb dX6_toneOf_93 hl (k := 2) rfl (iinc_1 i) (by decide) rfl (fun ls hl => ?_)
                refine lv_goto (tgt := 34) hx hb dX6_toneOf_96 (by decide) ?_
                exact ih_34 (i + 1) (z + 1) (fAb ((mWorth ln bo bd np nh (en 0) (en 1) w) (nI (i + 1)))) (by omega) (hF.trans (by first | with_reducible rfl | (simp only [mToneOf, mTone, if_neg c1, if_neg c4, if_neg c6, if_neg c7]; done) | (simp [mToneOf, mTone, if_neg c1, if_neg c4, if_neg c6, if_neg c7]; done))) _ _ hP hD hS ls (lv_sub hl [0, 1, 3, 4, 5] rfl)
              · skip
                refine lv_iload hx hb dX6_toneOf_77 (lv_at hl 1 rfl) ?_
                exact ret_WI hQ hx hb hr hlk hAe () (by rw [show (mToneOf (mWorth ln bo bd np nh (en 0) (en 1) w) k np).2 = z from congrArg Prod.snd (show mToneOf (mWorth ln bo bd np nh (en 0) (en 1) w) k np = (nI i, z) from hF.trans (by first | with_reducible rfl | (simp only [mToneOf, mTone, if_neg c1, if_neg c4, if_neg c6, if_pos c7]; done) | (simp [mToneOf, mTone, if_neg c1, if_neg c4, if_neg c6, if_pos c7]; done)))]; exact hP) hS (congrArg Prod.fst (show mToneOf (mWorth ln bo bd np nh (en 0) (en 1) w) k np = (nI i, z) from hF.trans (by first | with_reducible rfl | (simp only [mToneOf, mTone, if_neg c1, if_neg c4, if_neg c6, if_pos c7]; done) | (simp [mToneOf, mTone, if_neg c1, if_neg c4, if_neg c6, if_pos c7]; done)))).symm dX6_toneOf_79
          refine lv_if_le (tgt := 60) hx hb dX6_toneOf_53 (by decide) (fun c5 => ?_) (fun c5 => ?_)
          · skip
            have c5 : (mWorth ln bo bd np nh (en 0) (en 1) w (nI (i + 1))) ≤ 0 := (lg_cmp_le (mWorth ln bo bd np nh (en 0) (en 1) w (nI (i + 1))) 0).mp c5
            refine lv_iconst (v := 0) hx hb dX6_toneOf_60 (by decide) ?_
            exact lv_eqi (if_pos c5).symm (jn_53 _ _ hP hS)
          · skip
            have c5 : ¬ ((mWorth ln bo bd np nh (en 0) (en 1) w (nI (i + 1))) ≤ 0) := fun h9 => c5 ((lg_cmp_le (mWorth ln bo bd np nh (en 0) (en 1) w (nI (i + 1))) 0).mpr h9)
            refine lv_iconst (v := 1) hx hb dX6_toneOf_56 (by decide) ?_
            refine lv_goto (tgt := 61) hx hb dX6_toneOf_57 (by decide) ?_
            exact lv_eqi (if_neg c5).symm (jn_53 _ _ hP hS)
      exact lp_34 299 1 0 (fAb ((mWorth ln bo bd np nh (en 0) (en 1) w) 1)) (by omega) (by first | with_reducible rfl | (simp only [mToneOf, if_neg c1]; done) | (simp [mToneOf, if_neg c1]; done)) _ _ hP hD hS ls (lv_sub hl [0, 1, 2, 3, 4] rfl)
    refine lv_if_le (tgt := 29) hx hb dX6_toneOf_22 (by decide) (fun c2 => ?_) (fun c2 => ?_)
    · skip
      have c2 : (mWorth ln bo bd np nh (en 0) (en 1) w 1) ≤ 0 := (lg_cmp_le (mWorth ln bo bd np nh (en 0) (en 1) w 1) 0).mp c2
      refine lv_iconst (v := 0) hx hb dX6_toneOf_29 (by decide) ?_
      exact lv_eqi (if_pos c2).symm (jn_22 _ _ hP hS)
    · skip
      have c2 : ¬ ((mWorth ln bo bd np nh (en 0) (en 1) w 1) ≤ 0) := fun h9 => c2 ((lg_cmp_le (mWorth ln bo bd np nh (en 0) (en 1) w 1) 0).mpr h9)
      refine lv_iconst (v := 1) hx hb dX6_toneOf_25 (by decide) ?_
      refine lv_goto (tgt := 30) hx hb dX6_toneOf_26 (by decide) ?_
      exact lv_eqi (if_neg c2).symm (jn_22 _ _ hP hS)
  · skip
    refine lv_iconst (v := (-1)) hx hb dX6_toneOf_12 (by decide) ?_
    exact ret_WI hQ hx hb hr hlk hAe () (by rw [show (mToneOf (mWorth ln bo bd np nh (en 0) (en 1) w) k np).2 = 0 from congrArg Prod.snd (show mToneOf (mWorth ln bo bd np nh (en 0) (en 1) w) k np = ((-1), 0) from (by first | with_reducible rfl | (simp only [mToneOf, if_pos c1]; done) | (simp [mToneOf, if_pos c1]; done)))]; exact hP) hS (congrArg Prod.fst (show mToneOf (mWorth ln bo bd np nh (en 0) (en 1) w) k np = ((-1), 0) from (by first | with_reducible rfl | (simp only [mToneOf, if_pos c1]; done) | (simp [mToneOf, if_pos c1]; done)))).symm dX6_toneOf_13

set_option maxHeartbeats 4000000 in
set_option maxRecDepth 100000 in
theorem c_X6_missOf (l : Launch) (D : va_G) (cI cZ : ClassId) (mm : Nat) (m1 : Nat) (m2 : Nat) (m3 : Nat) (m4 : Nat) (m5 : Nat) (m6 : Nat) (m7 : Nat) (m8 : Nat) (m9 : Nat) (np : Nat) (nh : Nat) (nn : Nat) (re : Int32) (ro : Int32) (tm : Int32) (ln : Nat → Int32) (bo : Nat → Int32) (bd : Nat → Int32) (en : Nat → Int32) (ns : Nat → Int32) (nw : Nat → Int32) (nt : Nat → Int32) (k : Nat) (hnp : np ≤ 12) (hnh : nh ≤ 6) (hM : 1 ≤ np → MH ln bo bd np nh) (hk : k < 6) : Met l yX6_missOf wsX6_missOf rmX6_missOf (va_Pc [.ref mm, .int (nI k)] (PW D cI cZ [(mm, .inr (6, [.int (nI np), .ref m1, .ref m2, .int (nI nh), .ref m3, .ref m4, .int (nI nn), .ref m5, .ref m6, .ref m7, .ref m8, .int re, .int ro, .ref m9, .int tm])), (m1, .inl (cI, 12, .inl ln)), (m2, .inl (cI, 12, .inl bo)), (m3, .inl (cI, 18, .inl bd)), (m4, .inl (cI, 2, .inl en)), (m5, .inl (cI, 6, .inl ns)), (m6, .inl (cI, 6, .inl nw)), (m7, .inl (cI, 6, .inl nt))])) (WI (S := Int32) D (fun zr tv => zr = (mMissK ln bo bd np nh (en 0) (en 1) ns nw nt) k) (fun tv => [(mm, .inr (6, [.int (nI np), .ref m1, .ref m2, .int (nI nh), .ref m3, .ref m4, .int (nI nn), .ref m5, .ref m6, .ref m7, .ref m8, .int re, .int ro, .ref m9, .int tv])), (m1, .inl (cI, 12, .inl ln)), (m2, .inl (cI, 12, .inl bo)), (m3, .inl (cI, 18, .inl bd)), (m4, .inl (cI, 2, .inl en)), (m5, .inl (cI, 6, .inl ns)), (m6, .inl (cI, 6, .inl nw)), (m7, .inl (cI, 6, .inl nt))]) [(mm, .inr (6, [.int (nI np), .ref m1, .ref m2, .int (nI nh), .ref m3, .ref m4, .int (nI nn), .ref m5, .ref m6, .ref m7, .ref m8, .int re, .int ro, .ref m9, .int tm])), (m1, .inl (cI, 12, .inl ln)), (m2, .inl (cI, 12, .inl bo)), (m3, .inl (cI, 18, .inl bd)), (m4, .inl (cI, 2, .inl en)), (m5, .inl (cI, 6, .inl ns)), (m6, .inl (cI, 6, .inl nw)), (m7, .inl (cI, 6, .inl nt))]) 0 0 (ad [(mm, .inr (6, [.int (nI np), .ref m1, .ref m2, .int (nI nh), .ref m3, .ref m4, .int (nI nn), .ref m5, .ref m6, .ref m7, .ref m8, .int re, .int ro, .ref m9, .int tm])), (m1, .inl (cI, 12, .inl ln)), (m2, .inl (cI, 12, .inl bo)), (m3, .inl (cI, 18, .inl bd)), (m4, .inl (cI, 2, .inl en)), (m5, .inl (cI, 6, .inl ns)), (m6, .inl (cI, 6, .inl nw)), (m7, .inl (cI, 6, .inl nt))]) := by
  refine met_go (cc := cX6_missOf) (maxL := 4) (ret := (some .int)) (by decide) rfl ?_ (Nat.le_of_ble_eq_true rfl)
  intro p e s m a below meth c Q hQ _ hx hb hr hml hts hown hlk hnm hpre ls hl
  have hown : s.vm.findClass RX6 = some m.cls := hown
  obtain ⟨hP, hK, hD0⟩ := hpre
  have hN := hK.2
  obtain ⟨A, hAe⟩ : ∃ A : Nat → Prop, A = ad [(mm, .inr (6, [.int (nI np), .ref m1, .ref m2, .int (nI nh), .ref m3, .ref m4, .int (nI nn), .ref m5, .ref m6, .ref m7, .ref m8, .int re, .int ro, .ref m9, .int tm])), (m1, .inl (cI, 12, .inl ln)), (m2, .inl (cI, 12, .inl bo)), (m3, .inl (cI, 18, .inl bd)), (m4, .inl (cI, 2, .inl en)), (m5, .inl (cI, 6, .inl ns)), (m6, .inl (cI, 6, .inl nw)), (m7, .inl (cI, 6, .inl nt))] := ⟨_, rfl⟩
  have hD : va_D A [(mm, .inr (6, [.int (nI np), .ref m1, .ref m2, .int (nI nh), .ref m3, .ref m4, .int (nI nn), .ref m5, .ref m6, .ref m7, .ref m8, .int re, .int ro, .ref m9, .int tm])), (m1, .inl (cI, 12, .inl ln)), (m2, .inl (cI, 12, .inl bo)), (m3, .inl (cI, 18, .inl bd)), (m4, .inl (cI, 2, .inl en)), (m5, .inl (cI, 6, .inl ns)), (m6, .inl (cI, 6, .inl nw)), (m7, .inl (cI, 6, .inl nt))] := by rw [hAe]; exact hD0.ad
  have hS : va_S A s.heap s.heap [] := va_S.rf
  have hl : lv_has ls 4 [(0, .ref mm), (1, .int (nI k))] := hl
  have k6 : ∀ w ∈ wsX60, w ∈ wsX6_missOf := fun w h => List.mem_cons_of_mem _ (List.mem_append_right _ h)
  refine lv_aload_n hx hb dX6_missOf_0 rfl (lv_at hl 0 rfl) ?_
  refine lv_aload_n hx hb dX6_missOf_1 rfl (lv_at hl 0 rfl) ?_
  refine va_get (D := D) (ci := 6) (v := .ref m5) (C := RX6) (T := TX6) (N := 15) hx hb hts k6 hown hK.1 hP 0 rfl rfl 7 (by decide) (hts (.fieldLink RX6 22 "BoredPipesModel" "opens" "[I") (List.mem_of_getElem? (i := 1) rfl)) (fun _ h9 => h9) rfl dX6_missOf_2 ?_
  refine lv_iload_n hx hb dX6_missOf_5 rfl (lv_at hl 1 rfl) ?_
  refine iald_n (k := k) hx hb hK.1 hP 5 rfl (by omega) (by decide) dX6_missOf_6 ?_
  refine lv_aload_n hx hb dX6_missOf_7 rfl (lv_at hl 0 rfl) ?_
  refine va_get (D := D) (ci := 6) (v := .ref m6) (C := RX6) (T := TX6) (N := 15) hx hb hts k6 hown hK.1 hP 0 rfl rfl 8 (by decide) (hts (.fieldLink RX6 25 "BoredPipesModel" "whiches" "[I") (List.mem_of_getElem? (i := 2) rfl)) (fun _ h9 => h9) rfl dX6_missOf_8 ?_
  refine lv_iload_n hx hb dX6_missOf_11 rfl (lv_at hl 1 rfl) ?_
  refine iald_n (k := k) hx hb hK.1 hP 6 rfl (by omega) (by decide) dX6_missOf_12 ?_
  refine wr_i (va_runV (As := [.int (ns k), .int (nw k)]) (rest := []) ⟨hx, hb, hml, hown, hts⟩ (c_X6_toneOf l D cI cZ mm m1 m2 m3 m4 m5 m6 m7 m8 m9 np nh nn re ro tm ln bo bd en (ns k) (nw k) (by first | omega | exact hnp) (by first | omega | exact hnh) (by first | omega | exact hM)) (cwV 2 hts gX6_missOf_X6_toneOf rfl rfl rfl hdV_X6_toneOf ⟨Nat.le_of_ble_eq_true rfl, Nat.le_of_ble_eq_true rfl⟩) (PW.V (hP.sub [0, 1, 2, 3, 4] rfl) hK ((hD.sub [0, 1, 2, 3, 4] (by decide) rfl).weaken (fun _ _ _ _ => trivial)) hP (q0 := 0) rfl rfl) rfl rfl hl.1 rfl (lv_room (Nat.le_of_ble_eq_true rfl)) dX6_missOf_13 ⟨Nat.le_of_ble_eq_true rfl, Nat.le_of_ble_eq_true rfl⟩) hP hD hS [0, 1, 2, 3, 4] rfl (fun _ => rfl) (fun r2 u1 H locs hu1 hP hD hS => ?_)
  have hu1r := hu1
  subst hu1r
  have hP : va_P D vwCl [(mm, .inr (6, [.int (nI np), .ref m1, .ref m2, .int (nI nh), .ref m3, .ref m4, .int (nI nn), .ref m5, .ref m6, .ref m7, .ref m8, .int re, .int ro, .ref m9, .int ((mToneOf (mWorth ln bo bd np nh (en 0) (en 1) (ns k)) (nw k) np).2)])), (m1, .inl (cI, 12, .inl ln)), (m2, .inl (cI, 12, .inl bo)), (m3, .inl (cI, 18, .inl bd)), (m4, .inl (cI, 2, .inl en)), (m5, .inl (cI, 6, .inl ns)), (m6, .inl (cI, 6, .inl nw)), (m7, .inl (cI, 6, .inl nt))] H := hP
  have hD : va_D A [(mm, .inr (6, [.int (nI np), .ref m1, .ref m2, .int (nI nh), .ref m3, .ref m4, .int (nI nn), .ref m5, .ref m6, .ref m7, .ref m8, .int re, .int ro, .ref m9, .int ((mToneOf (mWorth ln bo bd np nh (en 0) (en 1) (ns k)) (nw k) np).2)])), (m1, .inl (cI, 12, .inl ln)), (m2, .inl (cI, 12, .inl bo)), (m3, .inl (cI, 18, .inl bd)), (m4, .inl (cI, 2, .inl en)), (m5, .inl (cI, 6, .inl ns)), (m6, .inl (cI, 6, .inl nw)), (m7, .inl (cI, 6, .inl nt))] := hD
  refine lv_istore_n (lv' := [(2, .int ((mToneOf (mWorth ln bo bd np nh (en 0) (en 1) (ns k)) (nw k) np).1)), (0, .ref mm), (1, .int (nI k))]) hx hb dX6_missOf_16 rfl hl (by decide) rfl (fun ls hl => ?_)
  refine lv_iload_n hx hb dX6_missOf_17 rfl (lv_at hl 0 rfl) ?_
  refine lv_aload_n hx hb dX6_missOf_18 rfl (lv_at hl 1 rfl) ?_
  refine va_get (D := D) (ci := 6) (v := .ref m7) (C := RX6) (T := TX6) (N := 15) hx hb hts k6 hown hK.1 hP 0 rfl rfl 9 (by decide) (hts (.fieldLink RX6 28 "BoredPipesModel" "wanteds" "[I") (List.mem_of_getElem? (i := 3) rfl)) (fun _ h9 => h9) rfl dX6_missOf_19 ?_
  refine lv_iload_n hx hb dX6_missOf_22 rfl (lv_at hl 2 rfl) ?_
  refine iald_n (k := k) hx hb hK.1 hP 7 rfl (by omega) (by decide) dX6_missOf_23 ?_
  refine lv_isub hx hb dX6_missOf_24 ?_
  refine lv_istore_n (lv' := [(3, .int (((mToneOf (mWorth ln bo bd np nh (en 0) (en 1) (ns k)) (nw k) np).1) - (nt k))), (2, .int ((mToneOf (mWorth ln bo bd np nh (en 0) (en 1) (ns k)) (nw k) np).1)), (0, .ref mm), (1, .int (nI k))]) hx hb dX6_missOf_25 rfl hl (by decide) rfl (fun ls hl => ?_)
  refine lv_iload_n hx hb dX6_missOf_26 rfl (lv_at hl 1 rfl) ?_
  refine lv_if_ge (tgt := 36) hx hb dX6_missOf_27 (by decide) (fun c3 => ?_) (fun c3 => ?_)
  · skip
    refine lv_iload_n hx hb dX6_missOf_36 rfl (lv_at hl 0 rfl) ?_
    refine lv_if_ge (tgt := 45) hx hb dX6_missOf_37 (by decide) (fun c4 => ?_) (fun c4 => ?_)
    · skip
      refine lv_iload_n hx hb dX6_missOf_45 rfl (lv_at hl 0 rfl) ?_
      exact ret_WI hQ hx hb hr hlk hAe ((mToneOf (mWorth ln bo bd np nh (en 0) (en 1) (ns k)) (nw k) np).2) hP hS (show (mMissK ln bo bd np nh (en 0) (en 1) ns nw nt) k = ((mToneOf (mWorth ln bo bd np nh (en 0) (en 1) (ns k)) (nw k) np).1) - (nt k) from (by first | with_reducible rfl | (simp only [mMissK, mMiss, if_pos c3, if_pos c4]; done) | (simp [mMissK, mMiss, if_pos c3, if_pos c4]; done))).symm dX6_missOf_46
    · skip
      refine lv_iload_n hx hb dX6_missOf_40 rfl (lv_at hl 0 rfl) ?_
      refine lv_ineg hx hb dX6_missOf_41 ?_
      refine lv_goto (tgt := 46) hx hb dX6_missOf_42 (by decide) ?_
      exact ret_WI hQ hx hb hr hlk hAe ((mToneOf (mWorth ln bo bd np nh (en 0) (en 1) (ns k)) (nw k) np).2) hP hS (show (mMissK ln bo bd np nh (en 0) (en 1) ns nw nt) k = -(((mToneOf (mWorth ln bo bd np nh (en 0) (en 1) (ns k)) (nw k) np).1) - (nt k)) from (by first | with_reducible rfl | (simp only [mMissK, mMiss, if_pos c3, if_neg c4]; done) | (simp [mMissK, mMiss, if_pos c3, if_neg c4]; done))).symm dX6_missOf_46
  · skip
    refine lv_sipush (v := 300) hx hb dX6_missOf_30 (by decide) ?_
    refine lv_goto (tgt := 46) hx hb dX6_missOf_33 (by decide) ?_
    exact ret_WI hQ hx hb hr hlk hAe ((mToneOf (mWorth ln bo bd np nh (en 0) (en 1) (ns k)) (nw k) np).2) hP hS (show (mMissK ln bo bd np nh (en 0) (en 1) ns nw nt) k = 300 from (by first | with_reducible rfl | (simp only [mMissK, mMiss, if_neg c3]; done) | (simp [mMissK, mMiss, if_neg c3]; done))).symm dX6_missOf_46

set_option maxHeartbeats 4000000 in
set_option maxRecDepth 100000 in
theorem c_X6_greatest (l : Launch) (D : va_G) (cI cZ : ClassId) (mm : Nat) (m1 : Nat) (m2 : Nat) (m3 : Nat) (m4 : Nat) (m5 : Nat) (m6 : Nat) (m7 : Nat) (m8 : Nat) (m9 : Nat) (np : Nat) (nh : Nat) (nn : Nat) (re : Int32) (ro : Int32) (tm : Int32) (ln : Nat → Int32) (bo : Nat → Int32) (bd : Nat → Int32) (en : Nat → Int32) (ns : Nat → Int32) (nw : Nat → Int32) (nt : Nat → Int32) (hnp : np ≤ 12) (hnh : nh ≤ 6) (hM : 1 ≤ np → MH ln bo bd np nh) (hnn : nn ≤ 6) : Met l yX6_greatest wsX6_greatest rmX6_greatest (va_Pc [.ref mm] (PW D cI cZ [(mm, .inr (6, [.int (nI np), .ref m1, .ref m2, .int (nI nh), .ref m3, .ref m4, .int (nI nn), .ref m5, .ref m6, .ref m7, .ref m8, .int re, .int ro, .ref m9, .int tm])), (m1, .inl (cI, 12, .inl ln)), (m2, .inl (cI, 12, .inl bo)), (m3, .inl (cI, 18, .inl bd)), (m4, .inl (cI, 2, .inl en)), (m5, .inl (cI, 6, .inl ns)), (m6, .inl (cI, 6, .inl nw)), (m7, .inl (cI, 6, .inl nt))])) (WI (S := Int32) D (fun zr tv => zr = mGr (mMissK ln bo bd np nh (en 0) (en 1) ns nw nt) nn 0 0) (fun tv => [(mm, .inr (6, [.int (nI np), .ref m1, .ref m2, .int (nI nh), .ref m3, .ref m4, .int (nI nn), .ref m5, .ref m6, .ref m7, .ref m8, .int re, .int ro, .ref m9, .int tv])), (m1, .inl (cI, 12, .inl ln)), (m2, .inl (cI, 12, .inl bo)), (m3, .inl (cI, 18, .inl bd)), (m4, .inl (cI, 2, .inl en)), (m5, .inl (cI, 6, .inl ns)), (m6, .inl (cI, 6, .inl nw)), (m7, .inl (cI, 6, .inl nt))]) [(mm, .inr (6, [.int (nI np), .ref m1, .ref m2, .int (nI nh), .ref m3, .ref m4, .int (nI nn), .ref m5, .ref m6, .ref m7, .ref m8, .int re, .int ro, .ref m9, .int tm])), (m1, .inl (cI, 12, .inl ln)), (m2, .inl (cI, 12, .inl bo)), (m3, .inl (cI, 18, .inl bd)), (m4, .inl (cI, 2, .inl en)), (m5, .inl (cI, 6, .inl ns)), (m6, .inl (cI, 6, .inl nw)), (m7, .inl (cI, 6, .inl nt))]) 0 0 (ad [(mm, .inr (6, [.int (nI np), .ref m1, .ref m2, .int (nI nh), .ref m3, .ref m4, .int (nI nn), .ref m5, .ref m6, .ref m7, .ref m8, .int re, .int ro, .ref m9, .int tm])), (m1, .inl (cI, 12, .inl ln)), (m2, .inl (cI, 12, .inl bo)), (m3, .inl (cI, 18, .inl bd)), (m4, .inl (cI, 2, .inl en)), (m5, .inl (cI, 6, .inl ns)), (m6, .inl (cI, 6, .inl nw)), (m7, .inl (cI, 6, .inl nt))]) := by
  refine met_go (cc := cX6_greatest) (maxL := 4) (ret := (some .int)) (by decide) rfl ?_ (Nat.le_of_ble_eq_true rfl)
  intro p e s m a below meth c Q hQ _ hx hb hr hml hts hown hlk hnm hpre ls hl
  have hown : s.vm.findClass RX6 = some m.cls := hown
  obtain ⟨hP, hK, hD0⟩ := hpre
  have hN := hK.2
  obtain ⟨A, hAe⟩ : ∃ A : Nat → Prop, A = ad [(mm, .inr (6, [.int (nI np), .ref m1, .ref m2, .int (nI nh), .ref m3, .ref m4, .int (nI nn), .ref m5, .ref m6, .ref m7, .ref m8, .int re, .int ro, .ref m9, .int tm])), (m1, .inl (cI, 12, .inl ln)), (m2, .inl (cI, 12, .inl bo)), (m3, .inl (cI, 18, .inl bd)), (m4, .inl (cI, 2, .inl en)), (m5, .inl (cI, 6, .inl ns)), (m6, .inl (cI, 6, .inl nw)), (m7, .inl (cI, 6, .inl nt))] := ⟨_, rfl⟩
  have hD : va_D A [(mm, .inr (6, [.int (nI np), .ref m1, .ref m2, .int (nI nh), .ref m3, .ref m4, .int (nI nn), .ref m5, .ref m6, .ref m7, .ref m8, .int re, .int ro, .ref m9, .int tm])), (m1, .inl (cI, 12, .inl ln)), (m2, .inl (cI, 12, .inl bo)), (m3, .inl (cI, 18, .inl bd)), (m4, .inl (cI, 2, .inl en)), (m5, .inl (cI, 6, .inl ns)), (m6, .inl (cI, 6, .inl nw)), (m7, .inl (cI, 6, .inl nt))] := by rw [hAe]; exact hD0.ad
  have hS : va_S A s.heap s.heap [] := va_S.rf
  have hl : lv_has ls 4 [(0, .ref mm)] := hl
  have k6 : ∀ w ∈ wsX60, w ∈ wsX6_greatest := fun w h => List.mem_cons_of_mem _ (List.mem_append_right _ h)
  refine lv_iconst (v := 0) hx hb dX6_greatest_0 (by decide) ?_
  refine lv_istore_n (lv' := [(1, .int 0), (0, .ref mm)]) hx hb dX6_greatest_1 rfl hl (by decide) rfl (fun ls hl => ?_)
  refine lv_iconst (v := 0) hx hb dX6_greatest_2 (by decide) ?_
  refine lv_istore_n (lv' := [(2, .int 0), (1, .int 0), (0, .ref mm)]) hx hb dX6_greatest_3 rfl hl (by decide) rfl (fun ls hl => ?_)
  have lp_4 : ∀ (r : Nat) (i : Nat) (z : Int32) (tz : Int32), (i + r = nn) → (mGr (mMissK ln bo bd np nh (en 0) (en 1) ns nw nt) nn 0 0 = mGr (mMissK ln bo bd np nh (en 0) (en 1) ns nw nt) r i z) → ∀ (H : Heap) (locs : List Loc), va_P D vwCl [(mm, .inr (6, [.int (nI np), .ref m1, .ref m2, .int (nI nh), .ref m3, .ref m4, .int (nI nn), .ref m5, .ref m6, .ref m7, .ref m8, .int re, .int ro, .ref m9, .int tz])), (m1, .inl (cI, 12, .inl ln)), (m2, .inl (cI, 12, .inl bo)), (m3, .inl (cI, 18, .inl bd)), (m4, .inl (cI, 2, .inl en)), (m5, .inl (cI, 6, .inl ns)), (m6, .inl (cI, 6, .inl nw)), (m7, .inl (cI, 6, .inl nt))] H → va_D A [(mm, .inr (6, [.int (nI np), .ref m1, .ref m2, .int (nI nh), .ref m3, .ref m4, .int (nI nn), .ref m5, .ref m6, .ref m7, .ref m8, .int re, .int ro, .ref m9, .int tz])), (m1, .inl (cI, 12, .inl ln)), (m2, .inl (cI, 12, .inl bo)), (m3, .inl (cI, 18, .inl bd)), (m4, .inl (cI, 2, .inl en)), (m5, .inl (cI, 6, .inl ns)), (m6, .inl (cI, 6, .inl nw)), (m7, .inl (cI, 6, .inl nt))] → va_S A s.heap H locs → ∀ (ls : Array Slot), lv_has ls 4 [(2, .int (nI i)), (1, .int z), (0, .ref mm)] → W p l e rmX6_greatest s m a below meth c H locs 0 0 Q (F0 m 4 ls []) := by
    intro r
    induction r with
    | zero =>
      intro i z tz hi hF H locs hP hD hS ls hl
      refine lv_iload_n hx hb dX6_greatest_4 rfl (lv_at hl 0 rfl) ?_
      refine lv_aload_n hx hb dX6_greatest_5 rfl (lv_at hl 2 rfl) ?_
      refine va_get (D := D) (ci := 6) (v := .int (nI nn)) (C := RX6) (T := TX6) (N := 15) hx hb hts k6 hown hK.1 hP 0 rfl rfl 6 (by decide) (hts (.fieldLink RX6 82 "BoredPipesModel" "notes" "I") (List.mem_of_getElem? (i := 1) rfl)) (fun _ h9 => h9) rfl dX6_greatest_6 ?_
      refine lv_icmp_ge (tgt := 35) hx hb dX6_greatest_9 (by decide) (fun c1 => ?_) (fun c1 => absurd ((nI_le (a := nn) (b := i) (by omega) (by omega))) c1)
      refine lv_iload_n hx hb dX6_greatest_35 rfl (lv_at hl 1 rfl) ?_
      exact ret_WI hQ hx hb hr hlk hAe tz hP hS (hF.trans (by first | with_reducible rfl | (simp only [mGr, if_pos c1]; done) | (simp [mGr, if_pos c1]; done))).symm dX6_greatest_36
    | succ r ih_4 =>
      intro i z tz hi hF H locs hP hD hS ls hl
      refine lv_iload_n hx hb dX6_greatest_4 rfl (lv_at hl 0 rfl) ?_
      refine lv_aload_n hx hb dX6_greatest_5 rfl (lv_at hl 2 rfl) ?_
      refine va_get (D := D) (ci := 6) (v := .int (nI nn)) (C := RX6) (T := TX6) (N := 15) hx hb hts k6 hown hK.1 hP 0 rfl rfl 6 (by decide) (hts (.fieldLink RX6 82 "BoredPipesModel" "notes" "I") (List.mem_of_getElem? (i := 1) rfl)) (fun _ h9 => h9) rfl dX6_greatest_6 ?_
      refine lv_icmp_ge (tgt := 35) hx hb dX6_greatest_9 (by decide) (fun c2 => absurd c2 ((nI_ge (a := i) (b := nn) (by omega) (by omega)))) (fun c2 => ?_)
      refine lv_aload_n hx hb dX6_greatest_12 rfl (lv_at hl 2 rfl) ?_
      refine lv_iload_n hx hb dX6_greatest_13 rfl (lv_at hl 0 rfl) ?_
      refine wr_i0 (va_runV (As := [.int (nI i)]) (rest := []) ⟨hx, hb, hml, hown, hts⟩ (c_X6_missOf l D cI cZ mm m1 m2 m3 m4 m5 m6 m7 m8 m9 np nh nn re ro tz ln bo bd en ns nw nt i (by first | omega | exact hnp) (by first | omega | exact hnh) (by first | omega | exact hM) (by omega)) (cwV 1 hts gX6_greatest_X6_missOf rfl rfl rfl hdV_X6_missOf ⟨Nat.le_of_ble_eq_true rfl, Nat.le_of_ble_eq_true rfl⟩) (PW.V hP hK (hD.weaken (fun _ _ _ _ => trivial)) hP (q0 := 0) rfl rfl) rfl rfl hl.1 rfl (lv_room (Nat.le_of_ble_eq_true rfl)) dX6_greatest_14 ⟨Nat.le_of_ble_eq_true rfl, Nat.le_of_ble_eq_true rfl⟩) hD hS (fun _ => rfl) (fun r4 u3 H locs hu3 hP hD hS => ?_)
      have hu3r := hu3
      subst hu3r
      have hP : va_P D vwCl [(mm, .inr (6, [.int (nI np), .ref m1, .ref m2, .int (nI nh), .ref m3, .ref m4, .int (nI nn), .ref m5, .ref m6, .ref m7, .ref m8, .int re, .int ro, .ref m9, .int u3])), (m1, .inl (cI, 12, .inl ln)), (m2, .inl (cI, 12, .inl bo)), (m3, .inl (cI, 18, .inl bd)), (m4, .inl (cI, 2, .inl en)), (m5, .inl (cI, 6, .inl ns)), (m6, .inl (cI, 6, .inl nw)), (m7, .inl (cI, 6, .inl nt))] H := hP
      have hD : va_D A [(mm, .inr (6, [.int (nI np), .ref m1, .ref m2, .int (nI nh), .ref m3, .ref m4, .int (nI nn), .ref m5, .ref m6, .ref m7, .ref m8, .int re, .int ro, .ref m9, .int u3])), (m1, .inl (cI, 12, .inl ln)), (m2, .inl (cI, 12, .inl bo)), (m3, .inl (cI, 18, .inl bd)), (m4, .inl (cI, 2, .inl en)), (m5, .inl (cI, 6, .inl ns)), (m6, .inl (cI, 6, .inl nw)), (m7, .inl (cI, 6, .inl nt))] := hD
      refine lv_istore_n (lv' := [(3, .int ((mMissK ln bo bd np nh (en 0) (en 1) ns nw nt) i)), (2, .int (nI i)), (1, .int z), (0, .ref mm)]) hx hb dX6_greatest_17 rfl hl (by decide) rfl (fun ls hl => ?_)
      refine lv_iload_n hx hb dX6_greatest_18 rfl (lv_at hl 0 rfl) ?_
      refine lv_iload_n hx hb dX6_greatest_19 rfl (lv_at hl 2 rfl) ?_
      have jn_20 : ∀ (H : Heap) (locs : List Loc), va_P D vwCl [(mm, .inr (6, [.int (nI np), .ref m1, .ref m2, .int (nI nh), .ref m3, .ref m4, .int (nI nn), .ref m5, .ref m6, .ref m7, .ref m8, .int re, .int ro, .ref m9, .int u3])), (m1, .inl (cI, 12, .inl ln)), (m2, .inl (cI, 12, .inl bo)), (m3, .inl (cI, 18, .inl bd)), (m4, .inl (cI, 2, .inl en)), (m5, .inl (cI, 6, .inl ns)), (m6, .inl (cI, 6, .inl nw)), (m7, .inl (cI, 6, .inl nt))] H → va_S A s.heap H locs → W p l e rmX6_greatest s m a below meth c H locs 0 0 Q (F0 m 28 ls [.int (if ((mMissK ln bo bd np nh (en 0) (en 1) ns nw nt) i) ≤ z then z else (mMissK ln bo bd np nh (en 0) (en 1) ns nw nt) i)]) := by
        intro H locs hP hS
        refine lv_istore_n (lv' := [(1, .int (if ((mMissK ln bo bd np nh (en 0) (en 1) ns nw nt) i) ≤ z then z else (mMissK ln bo bd np nh (en 0) (en 1) ns nw nt) i)), (3, .int ((mMissK ln bo bd np nh (en 0) (en 1) ns nw nt) i)), (2, .int (nI i)), (0, .ref mm)]) hx hb dX6_greatest_28 rfl hl (by decide) rfl (fun ls hl => ?_)
        refine lv_iinc (v := nI (i + 1)) (lv' := [(2, .int (nI (i + 1))), (1, .int (if ((mMissK ln bo bd np nh (en 0) (en 1) ns nw nt) i) ≤ z then z else (mMissK ln bo bd np nh (en 0) (en 1) ns nw nt) i)), (3, .int ((mMissK ln bo bd np nh (en 0) (en 1) ns nw nt) i)), (0, .ref mm)]) hx hb dX6_greatest_29 hl (k := 2) rfl (iinc_1 i) (by decide) rfl (fun ls hl => ?_)
        refine lv_goto (tgt := 4) hx hb dX6_greatest_32 (by decide) ?_
        exact ih_4 (i + 1) (if ((mMissK ln bo bd np nh (en 0) (en 1) ns nw nt) i) ≤ z then z else (mMissK ln bo bd np nh (en 0) (en 1) ns nw nt) i) u3 (by omega) (hF.trans (by first | with_reducible rfl | (simp only [mGr, if_neg c2]; done) | (simp [mGr, if_neg c2]; done))) _ _ hP hD hS ls (lv_sub hl [0, 1, 3] rfl)
      refine lv_icmp_le (tgt := 27) hx hb dX6_greatest_20 (by decide) (fun c5 => ?_) (fun c5 => ?_)
      · skip
        refine lv_iload_n hx hb dX6_greatest_27 rfl (lv_at hl 2 rfl) ?_
        exact lv_eqi (if_pos c5).symm (jn_20 _ _ hP hS)
      · skip
        refine lv_iload_n hx hb dX6_greatest_23 rfl (lv_at hl 0 rfl) ?_
        refine lv_goto (tgt := 28) hx hb dX6_greatest_24 (by decide) ?_
        exact lv_eqi (if_neg c5).symm (jn_20 _ _ hP hS)
  exact lp_4 nn 0 0 tm (by omega) rfl _ _ hP hD hS ls (lv_sub hl [0, 1, 2] rfl)

set_option maxHeartbeats 4000000 in
set_option maxRecDepth 100000 in
theorem c_X6_sumOfMisses (l : Launch) (D : va_G) (cI cZ : ClassId) (mm : Nat) (m1 : Nat) (m2 : Nat) (m3 : Nat) (m4 : Nat) (m5 : Nat) (m6 : Nat) (m7 : Nat) (m8 : Nat) (m9 : Nat) (np : Nat) (nh : Nat) (nn : Nat) (re : Int32) (ro : Int32) (tm : Int32) (ln : Nat → Int32) (bo : Nat → Int32) (bd : Nat → Int32) (en : Nat → Int32) (ns : Nat → Int32) (nw : Nat → Int32) (nt : Nat → Int32) (hnp : np ≤ 12) (hnh : nh ≤ 6) (hM : 1 ≤ np → MH ln bo bd np nh) (hnn : nn ≤ 6) : Met l yX6_sumOfMisses wsX6_sumOfMisses rmX6_sumOfMisses (va_Pc [.ref mm] (PW D cI cZ [(mm, .inr (6, [.int (nI np), .ref m1, .ref m2, .int (nI nh), .ref m3, .ref m4, .int (nI nn), .ref m5, .ref m6, .ref m7, .ref m8, .int re, .int ro, .ref m9, .int tm])), (m1, .inl (cI, 12, .inl ln)), (m2, .inl (cI, 12, .inl bo)), (m3, .inl (cI, 18, .inl bd)), (m4, .inl (cI, 2, .inl en)), (m5, .inl (cI, 6, .inl ns)), (m6, .inl (cI, 6, .inl nw)), (m7, .inl (cI, 6, .inl nt))])) (WI (S := Int32) D (fun zr tv => zr = mSu (mMissK ln bo bd np nh (en 0) (en 1) ns nw nt) nn 0 0) (fun tv => [(mm, .inr (6, [.int (nI np), .ref m1, .ref m2, .int (nI nh), .ref m3, .ref m4, .int (nI nn), .ref m5, .ref m6, .ref m7, .ref m8, .int re, .int ro, .ref m9, .int tv])), (m1, .inl (cI, 12, .inl ln)), (m2, .inl (cI, 12, .inl bo)), (m3, .inl (cI, 18, .inl bd)), (m4, .inl (cI, 2, .inl en)), (m5, .inl (cI, 6, .inl ns)), (m6, .inl (cI, 6, .inl nw)), (m7, .inl (cI, 6, .inl nt))]) [(mm, .inr (6, [.int (nI np), .ref m1, .ref m2, .int (nI nh), .ref m3, .ref m4, .int (nI nn), .ref m5, .ref m6, .ref m7, .ref m8, .int re, .int ro, .ref m9, .int tm])), (m1, .inl (cI, 12, .inl ln)), (m2, .inl (cI, 12, .inl bo)), (m3, .inl (cI, 18, .inl bd)), (m4, .inl (cI, 2, .inl en)), (m5, .inl (cI, 6, .inl ns)), (m6, .inl (cI, 6, .inl nw)), (m7, .inl (cI, 6, .inl nt))]) 0 0 (ad [(mm, .inr (6, [.int (nI np), .ref m1, .ref m2, .int (nI nh), .ref m3, .ref m4, .int (nI nn), .ref m5, .ref m6, .ref m7, .ref m8, .int re, .int ro, .ref m9, .int tm])), (m1, .inl (cI, 12, .inl ln)), (m2, .inl (cI, 12, .inl bo)), (m3, .inl (cI, 18, .inl bd)), (m4, .inl (cI, 2, .inl en)), (m5, .inl (cI, 6, .inl ns)), (m6, .inl (cI, 6, .inl nw)), (m7, .inl (cI, 6, .inl nt))]) := by
  refine met_go (cc := cX6_sumOfMisses) (maxL := 3) (ret := (some .int)) (by decide) rfl ?_ (Nat.le_of_ble_eq_true rfl)
  intro p e s m a below meth c Q hQ _ hx hb hr hml hts hown hlk hnm hpre ls hl
  have hown : s.vm.findClass RX6 = some m.cls := hown
  obtain ⟨hP, hK, hD0⟩ := hpre
  have hN := hK.2
  obtain ⟨A, hAe⟩ : ∃ A : Nat → Prop, A = ad [(mm, .inr (6, [.int (nI np), .ref m1, .ref m2, .int (nI nh), .ref m3, .ref m4, .int (nI nn), .ref m5, .ref m6, .ref m7, .ref m8, .int re, .int ro, .ref m9, .int tm])), (m1, .inl (cI, 12, .inl ln)), (m2, .inl (cI, 12, .inl bo)), (m3, .inl (cI, 18, .inl bd)), (m4, .inl (cI, 2, .inl en)), (m5, .inl (cI, 6, .inl ns)), (m6, .inl (cI, 6, .inl nw)), (m7, .inl (cI, 6, .inl nt))] := ⟨_, rfl⟩
  have hD : va_D A [(mm, .inr (6, [.int (nI np), .ref m1, .ref m2, .int (nI nh), .ref m3, .ref m4, .int (nI nn), .ref m5, .ref m6, .ref m7, .ref m8, .int re, .int ro, .ref m9, .int tm])), (m1, .inl (cI, 12, .inl ln)), (m2, .inl (cI, 12, .inl bo)), (m3, .inl (cI, 18, .inl bd)), (m4, .inl (cI, 2, .inl en)), (m5, .inl (cI, 6, .inl ns)), (m6, .inl (cI, 6, .inl nw)), (m7, .inl (cI, 6, .inl nt))] := by rw [hAe]; exact hD0.ad
  have hS : va_S A s.heap s.heap [] := va_S.rf
  have hl : lv_has ls 3 [(0, .ref mm)] := hl
  have k6 : ∀ w ∈ wsX60, w ∈ wsX6_sumOfMisses := fun w h => List.mem_cons_of_mem _ (List.mem_append_right _ h)
  refine lv_iconst (v := 0) hx hb dX6_sumOfMisses_0 (by decide) ?_
  refine lv_istore_n (lv' := [(1, .int 0), (0, .ref mm)]) hx hb dX6_sumOfMisses_1 rfl hl (by decide) rfl (fun ls hl => ?_)
  refine lv_iconst (v := 0) hx hb dX6_sumOfMisses_2 (by decide) ?_
  refine lv_istore_n (lv' := [(2, .int 0), (1, .int 0), (0, .ref mm)]) hx hb dX6_sumOfMisses_3 rfl hl (by decide) rfl (fun ls hl => ?_)
  have lp_4 : ∀ (r : Nat) (i : Nat) (z : Int32) (tz : Int32), (i + r = nn) → (mSu (mMissK ln bo bd np nh (en 0) (en 1) ns nw nt) nn 0 0 = mSu (mMissK ln bo bd np nh (en 0) (en 1) ns nw nt) r i z) → ∀ (H : Heap) (locs : List Loc), va_P D vwCl [(mm, .inr (6, [.int (nI np), .ref m1, .ref m2, .int (nI nh), .ref m3, .ref m4, .int (nI nn), .ref m5, .ref m6, .ref m7, .ref m8, .int re, .int ro, .ref m9, .int tz])), (m1, .inl (cI, 12, .inl ln)), (m2, .inl (cI, 12, .inl bo)), (m3, .inl (cI, 18, .inl bd)), (m4, .inl (cI, 2, .inl en)), (m5, .inl (cI, 6, .inl ns)), (m6, .inl (cI, 6, .inl nw)), (m7, .inl (cI, 6, .inl nt))] H → va_D A [(mm, .inr (6, [.int (nI np), .ref m1, .ref m2, .int (nI nh), .ref m3, .ref m4, .int (nI nn), .ref m5, .ref m6, .ref m7, .ref m8, .int re, .int ro, .ref m9, .int tz])), (m1, .inl (cI, 12, .inl ln)), (m2, .inl (cI, 12, .inl bo)), (m3, .inl (cI, 18, .inl bd)), (m4, .inl (cI, 2, .inl en)), (m5, .inl (cI, 6, .inl ns)), (m6, .inl (cI, 6, .inl nw)), (m7, .inl (cI, 6, .inl nt))] → va_S A s.heap H locs → ∀ (ls : Array Slot), lv_has ls 3 [(2, .int (nI i)), (1, .int z), (0, .ref mm)] → W p l e rmX6_sumOfMisses s m a below meth c H locs 0 0 Q (F0 m 4 ls []) := by
    intro r
    induction r with
    | zero =>
      intro i z tz hi hF H locs hP hD hS ls hl
      refine lv_iload_n hx hb dX6_sumOfMisses_4 rfl (lv_at hl 0 rfl) ?_
      refine lv_aload_n hx hb dX6_sumOfMisses_5 rfl (lv_at hl 2 rfl) ?_
      refine va_get (D := D) (ci := 6) (v := .int (nI nn)) (C := RX6) (T := TX6) (N := 15) hx hb hts k6 hown hK.1 hP 0 rfl rfl 6 (by decide) (hts (.fieldLink RX6 82 "BoredPipesModel" "notes" "I") (List.mem_of_getElem? (i := 1) rfl)) (fun _ h9 => h9) rfl dX6_sumOfMisses_6 ?_
      refine lv_icmp_ge (tgt := 26) hx hb dX6_sumOfMisses_9 (by decide) (fun c1 => ?_) (fun c1 => absurd ((nI_le (a := nn) (b := i) (by omega) (by omega))) c1)
      refine lv_iload_n hx hb dX6_sumOfMisses_26 rfl (lv_at hl 1 rfl) ?_
      exact ret_WI hQ hx hb hr hlk hAe tz hP hS (hF.trans (by first | with_reducible rfl | (simp only [mSu, if_pos c1]; done) | (simp [mSu, if_pos c1]; done))).symm dX6_sumOfMisses_27
    | succ r ih_4 =>
      intro i z tz hi hF H locs hP hD hS ls hl
      refine lv_iload_n hx hb dX6_sumOfMisses_4 rfl (lv_at hl 0 rfl) ?_
      refine lv_aload_n hx hb dX6_sumOfMisses_5 rfl (lv_at hl 2 rfl) ?_
      refine va_get (D := D) (ci := 6) (v := .int (nI nn)) (C := RX6) (T := TX6) (N := 15) hx hb hts k6 hown hK.1 hP 0 rfl rfl 6 (by decide) (hts (.fieldLink RX6 82 "BoredPipesModel" "notes" "I") (List.mem_of_getElem? (i := 1) rfl)) (fun _ h9 => h9) rfl dX6_sumOfMisses_6 ?_
      refine lv_icmp_ge (tgt := 26) hx hb dX6_sumOfMisses_9 (by decide) (fun c2 => absurd c2 ((nI_ge (a := i) (b := nn) (by omega) (by omega)))) (fun c2 => ?_)
      refine lv_iload_n hx hb dX6_sumOfMisses_12 rfl (lv_at hl 1 rfl) ?_
      refine lv_aload_n hx hb dX6_sumOfMisses_13 rfl (lv_at hl 2 rfl) ?_
      refine lv_iload_n hx hb dX6_sumOfMisses_14 rfl (lv_at hl 0 rfl) ?_
      refine wr_i0 (va_runV (As := [.int (nI i)]) (rest := [.int z]) ⟨hx, hb, hml, hown, hts⟩ (c_X6_missOf l D cI cZ mm m1 m2 m3 m4 m5 m6 m7 m8 m9 np nh nn re ro tz ln bo bd en ns nw nt i (by first | omega | exact hnp) (by first | omega | exact hnh) (by first | omega | exact hM) (by omega)) (cwV 1 hts gX6_sumOfMisses_X6_missOf rfl rfl rfl hdV_X6_missOf ⟨Nat.le_of_ble_eq_true rfl, Nat.le_of_ble_eq_true rfl⟩) (PW.V hP hK (hD.weaken (fun _ _ _ _ => trivial)) hP (q0 := 0) rfl rfl) rfl rfl hl.1 rfl (lv_room (Nat.le_of_ble_eq_true rfl)) dX6_sumOfMisses_15 ⟨Nat.le_of_ble_eq_true rfl, Nat.le_of_ble_eq_true rfl⟩) hD hS (fun _ => rfl) (fun r4 u3 H locs hu3 hP hD hS => ?_)
      have hu3r := hu3
      subst hu3r
      have hP : va_P D vwCl [(mm, .inr (6, [.int (nI np), .ref m1, .ref m2, .int (nI nh), .ref m3, .ref m4, .int (nI nn), .ref m5, .ref m6, .ref m7, .ref m8, .int re, .int ro, .ref m9, .int u3])), (m1, .inl (cI, 12, .inl ln)), (m2, .inl (cI, 12, .inl bo)), (m3, .inl (cI, 18, .inl bd)), (m4, .inl (cI, 2, .inl en)), (m5, .inl (cI, 6, .inl ns)), (m6, .inl (cI, 6, .inl nw)), (m7, .inl (cI, 6, .inl nt))] H := hP
      have hD : va_D A [(mm, .inr (6, [.int (nI np), .ref m1, .ref m2, .int (nI nh), .ref m3, .ref m4, .int (nI nn), .ref m5, .ref m6, .ref m7, .ref m8, .int re, .int ro, .ref m9, .int u3])), (m1, .inl (cI, 12, .inl ln)), (m2, .inl (cI, 12, .inl bo)), (m3, .inl (cI, 18, .inl bd)), (m4, .inl (cI, 2, .inl en)), (m5, .inl (cI, 6, .inl ns)), (m6, .inl (cI, 6, .inl nw)), (m7, .inl (cI, 6, .inl nt))] := hD
      refine lv_iadd hx hb dX6_sumOfMisses_18 ?_
      refine lv_istore_n (lv' := [(1, .int (z + ((mMissK ln bo bd np nh (en 0) (en 1) ns nw nt) i))), (2, .int (nI i)), (0, .ref mm)]) hx hb dX6_sumOfMisses_19 rfl hl (by decide) rfl (fun ls hl => ?_)
      refine lv_iinc (v := nI (i + 1)) (lv' := [(2, .int (nI (i + 1))), (1, .int (z + ((mMissK ln bo bd np nh (en 0) (en 1) ns nw nt) i))), (0, .ref mm)]) hx hb dX6_sumOfMisses_20 hl (k := 1) rfl (iinc_1 i) (by decide) rfl (fun ls hl => ?_)
      refine lv_goto (tgt := 4) hx hb dX6_sumOfMisses_23 (by decide) ?_
      exact ih_4 (i + 1) (z + ((mMissK ln bo bd np nh (en 0) (en 1) ns nw nt) i)) u3 (by omega) (hF.trans (by first | with_reducible rfl | (simp only [mSu, if_neg c2]; done) | (simp [mSu, if_neg c2]; done))) _ _ hP hD hS ls (lv_sub hl [0, 1, 2] rfl)
  exact lp_4 nn 0 0 tm (by omega) rfl _ _ hP hD hS ls (lv_sub hl [0, 1, 2] rfl)

set_option maxHeartbeats 4000000 in
set_option maxRecDepth 100000 in
theorem c_X6_badness (l : Launch) (D : va_G) (cI cZ : ClassId) (mm : Nat) (m1 : Nat) (m2 : Nat) (m3 : Nat) (m4 : Nat) (m5 : Nat) (m6 : Nat) (m7 : Nat) (m8 : Nat) (m9 : Nat) (np : Nat) (nh : Nat) (nn : Nat) (re : Int32) (ro : Int32) (tm : Int32) (ln : Nat → Int32) (bo : Nat → Int32) (bd : Nat → Int32) (en : Nat → Int32) (ns : Nat → Int32) (nw : Nat → Int32) (nt : Nat → Int32) (hnp : np ≤ 12) (hnh : nh ≤ 6) (hM : 1 ≤ np → MH ln bo bd np nh) (hnn : nn ≤ 6) : Met l yX6_badness wsX6_badness rmX6_badness (va_Pc [.ref mm] (PW D cI cZ [(mm, .inr (6, [.int (nI np), .ref m1, .ref m2, .int (nI nh), .ref m3, .ref m4, .int (nI nn), .ref m5, .ref m6, .ref m7, .ref m8, .int re, .int ro, .ref m9, .int tm])), (m1, .inl (cI, 12, .inl ln)), (m2, .inl (cI, 12, .inl bo)), (m3, .inl (cI, 18, .inl bd)), (m4, .inl (cI, 2, .inl en)), (m5, .inl (cI, 6, .inl ns)), (m6, .inl (cI, 6, .inl nw)), (m7, .inl (cI, 6, .inl nt))])) (WI (S := Int32) D (fun zr tv => zr = mBa (mMissK ln bo bd np nh (en 0) (en 1) ns nw nt) nn 0 0 0) (fun tv => [(mm, .inr (6, [.int (nI np), .ref m1, .ref m2, .int (nI nh), .ref m3, .ref m4, .int (nI nn), .ref m5, .ref m6, .ref m7, .ref m8, .int re, .int ro, .ref m9, .int tv])), (m1, .inl (cI, 12, .inl ln)), (m2, .inl (cI, 12, .inl bo)), (m3, .inl (cI, 18, .inl bd)), (m4, .inl (cI, 2, .inl en)), (m5, .inl (cI, 6, .inl ns)), (m6, .inl (cI, 6, .inl nw)), (m7, .inl (cI, 6, .inl nt))]) [(mm, .inr (6, [.int (nI np), .ref m1, .ref m2, .int (nI nh), .ref m3, .ref m4, .int (nI nn), .ref m5, .ref m6, .ref m7, .ref m8, .int re, .int ro, .ref m9, .int tm])), (m1, .inl (cI, 12, .inl ln)), (m2, .inl (cI, 12, .inl bo)), (m3, .inl (cI, 18, .inl bd)), (m4, .inl (cI, 2, .inl en)), (m5, .inl (cI, 6, .inl ns)), (m6, .inl (cI, 6, .inl nw)), (m7, .inl (cI, 6, .inl nt))]) 0 0 (ad [(mm, .inr (6, [.int (nI np), .ref m1, .ref m2, .int (nI nh), .ref m3, .ref m4, .int (nI nn), .ref m5, .ref m6, .ref m7, .ref m8, .int re, .int ro, .ref m9, .int tm])), (m1, .inl (cI, 12, .inl ln)), (m2, .inl (cI, 12, .inl bo)), (m3, .inl (cI, 18, .inl bd)), (m4, .inl (cI, 2, .inl en)), (m5, .inl (cI, 6, .inl ns)), (m6, .inl (cI, 6, .inl nw)), (m7, .inl (cI, 6, .inl nt))]) := by
  refine met_go (cc := cX6_badness) (maxL := 5) (ret := (some .int)) (by decide) rfl ?_ (Nat.le_of_ble_eq_true rfl)
  intro p e s m a below meth c Q hQ _ hx hb hr hml hts hown hlk hnm hpre ls hl
  have hown : s.vm.findClass RX6 = some m.cls := hown
  obtain ⟨hP, hK, hD0⟩ := hpre
  have hN := hK.2
  obtain ⟨A, hAe⟩ : ∃ A : Nat → Prop, A = ad [(mm, .inr (6, [.int (nI np), .ref m1, .ref m2, .int (nI nh), .ref m3, .ref m4, .int (nI nn), .ref m5, .ref m6, .ref m7, .ref m8, .int re, .int ro, .ref m9, .int tm])), (m1, .inl (cI, 12, .inl ln)), (m2, .inl (cI, 12, .inl bo)), (m3, .inl (cI, 18, .inl bd)), (m4, .inl (cI, 2, .inl en)), (m5, .inl (cI, 6, .inl ns)), (m6, .inl (cI, 6, .inl nw)), (m7, .inl (cI, 6, .inl nt))] := ⟨_, rfl⟩
  have hD : va_D A [(mm, .inr (6, [.int (nI np), .ref m1, .ref m2, .int (nI nh), .ref m3, .ref m4, .int (nI nn), .ref m5, .ref m6, .ref m7, .ref m8, .int re, .int ro, .ref m9, .int tm])), (m1, .inl (cI, 12, .inl ln)), (m2, .inl (cI, 12, .inl bo)), (m3, .inl (cI, 18, .inl bd)), (m4, .inl (cI, 2, .inl en)), (m5, .inl (cI, 6, .inl ns)), (m6, .inl (cI, 6, .inl nw)), (m7, .inl (cI, 6, .inl nt))] := by rw [hAe]; exact hD0.ad
  have hS : va_S A s.heap s.heap [] := va_S.rf
  have hl : lv_has ls 5 [(0, .ref mm)] := hl
  have k6 : ∀ w ∈ wsX60, w ∈ wsX6_badness := fun w h => List.mem_cons_of_mem _ (List.mem_append_right _ h)
  refine lv_iconst (v := 0) hx hb dX6_badness_0 (by decide) ?_
  refine lv_istore_n (lv' := [(1, .int 0), (0, .ref mm)]) hx hb dX6_badness_1 rfl hl (by decide) rfl (fun ls hl => ?_)
  refine lv_iconst (v := 0) hx hb dX6_badness_2 (by decide) ?_
  refine lv_istore_n (lv' := [(2, .int 0), (1, .int 0), (0, .ref mm)]) hx hb dX6_badness_3 rfl hl (by decide) rfl (fun ls hl => ?_)
  refine lv_iconst (v := 0) hx hb dX6_badness_4 (by decide) ?_
  refine lv_istore_n (lv' := [(3, .int 0), (2, .int 0), (1, .int 0), (0, .ref mm)]) hx hb dX6_badness_5 rfl hl (by decide) rfl (fun ls hl => ?_)
  have lp_6 : ∀ (r : Nat) (i : Nat) (z : Int32) (y : Int32) (tz : Int32), (i + r = nn) → (mBa (mMissK ln bo bd np nh (en 0) (en 1) ns nw nt) nn 0 0 0 = mBa (mMissK ln bo bd np nh (en 0) (en 1) ns nw nt) r i z y) → ∀ (H : Heap) (locs : List Loc), va_P D vwCl [(mm, .inr (6, [.int (nI np), .ref m1, .ref m2, .int (nI nh), .ref m3, .ref m4, .int (nI nn), .ref m5, .ref m6, .ref m7, .ref m8, .int re, .int ro, .ref m9, .int tz])), (m1, .inl (cI, 12, .inl ln)), (m2, .inl (cI, 12, .inl bo)), (m3, .inl (cI, 18, .inl bd)), (m4, .inl (cI, 2, .inl en)), (m5, .inl (cI, 6, .inl ns)), (m6, .inl (cI, 6, .inl nw)), (m7, .inl (cI, 6, .inl nt))] H → va_D A [(mm, .inr (6, [.int (nI np), .ref m1, .ref m2, .int (nI nh), .ref m3, .ref m4, .int (nI nn), .ref m5, .ref m6, .ref m7, .ref m8, .int re, .int ro, .ref m9, .int tz])), (m1, .inl (cI, 12, .inl ln)), (m2, .inl (cI, 12, .inl bo)), (m3, .inl (cI, 18, .inl bd)), (m4, .inl (cI, 2, .inl en)), (m5, .inl (cI, 6, .inl ns)), (m6, .inl (cI, 6, .inl nw)), (m7, .inl (cI, 6, .inl nt))] → va_S A s.heap H locs → ∀ (ls : Array Slot), lv_has ls 5 [(3, .int (nI i)), (2, .int y), (1, .int z), (0, .ref mm)] → W p l e rmX6_badness s m a below meth c H locs 0 0 Q (F0 m 6 ls []) := by
    intro r
    induction r with
    | zero =>
      intro i z y tz hi hF H locs hP hD hS ls hl
      refine lv_iload_n hx hb dX6_badness_6 rfl (lv_at hl 0 rfl) ?_
      refine lv_aload_n hx hb dX6_badness_7 rfl (lv_at hl 3 rfl) ?_
      refine va_get (D := D) (ci := 6) (v := .int (nI nn)) (C := RX6) (T := TX6) (N := 15) hx hb hts k6 hown hK.1 hP 0 rfl rfl 6 (by decide) (hts (.fieldLink RX6 82 "BoredPipesModel" "notes" "I") (List.mem_of_getElem? (i := 1) rfl)) (fun _ h9 => h9) rfl dX6_badness_8 ?_
      refine lv_icmp_ge (tgt := 45) hx hb dX6_badness_11 (by decide) (fun c1 => ?_) (fun c1 => absurd ((nI_le (a := nn) (b := i) (by omega) (by omega))) c1)
      refine lv_sipush (v := 10000) hx hb dX6_badness_45 (by decide) ?_
      refine lv_iload_n hx hb dX6_badness_48 rfl (lv_at hl 2 rfl) ?_
      refine lv_imul hx hb dX6_badness_49 ?_
      refine lv_iload_n hx hb dX6_badness_50 rfl (lv_at hl 1 rfl) ?_
      refine lv_iadd hx hb dX6_badness_51 ?_
      exact ret_WI hQ hx hb hr hlk hAe tz hP hS (hF.trans (by first | with_reducible rfl | (simp only [mBa, if_pos c1]; done) | (simp [mBa, if_pos c1]; done))).symm dX6_badness_52
    | succ r ih_6 =>
      intro i z y tz hi hF H locs hP hD hS ls hl
      refine lv_iload_n hx hb dX6_badness_6 rfl (lv_at hl 0 rfl) ?_
      refine lv_aload_n hx hb dX6_badness_7 rfl (lv_at hl 3 rfl) ?_
      refine va_get (D := D) (ci := 6) (v := .int (nI nn)) (C := RX6) (T := TX6) (N := 15) hx hb hts k6 hown hK.1 hP 0 rfl rfl 6 (by decide) (hts (.fieldLink RX6 82 "BoredPipesModel" "notes" "I") (List.mem_of_getElem? (i := 1) rfl)) (fun _ h9 => h9) rfl dX6_badness_8 ?_
      refine lv_icmp_ge (tgt := 45) hx hb dX6_badness_11 (by decide) (fun c2 => absurd c2 ((nI_ge (a := i) (b := nn) (by omega) (by omega)))) (fun c2 => ?_)
      refine lv_aload_n hx hb dX6_badness_14 rfl (lv_at hl 3 rfl) ?_
      refine lv_iload_n hx hb dX6_badness_15 rfl (lv_at hl 0 rfl) ?_
      refine wr_i0 (va_runV (As := [.int (nI i)]) (rest := []) ⟨hx, hb, hml, hown, hts⟩ (c_X6_missOf l D cI cZ mm m1 m2 m3 m4 m5 m6 m7 m8 m9 np nh nn re ro tz ln bo bd en ns nw nt i (by first | omega | exact hnp) (by first | omega | exact hnh) (by first | omega | exact hM) (by omega)) (cwV 1 hts gX6_badness_X6_missOf rfl rfl rfl hdV_X6_missOf ⟨Nat.le_of_ble_eq_true rfl, Nat.le_of_ble_eq_true rfl⟩) (PW.V hP hK (hD.weaken (fun _ _ _ _ => trivial)) hP (q0 := 0) rfl rfl) rfl rfl hl.1 rfl (lv_room (Nat.le_of_ble_eq_true rfl)) dX6_badness_16 ⟨Nat.le_of_ble_eq_true rfl, Nat.le_of_ble_eq_true rfl⟩) hD hS (fun _ => rfl) (fun r4 u3 H locs hu3 hP hD hS => ?_)
      have hu3r := hu3
      subst hu3r
      have hP : va_P D vwCl [(mm, .inr (6, [.int (nI np), .ref m1, .ref m2, .int (nI nh), .ref m3, .ref m4, .int (nI nn), .ref m5, .ref m6, .ref m7, .ref m8, .int re, .int ro, .ref m9, .int u3])), (m1, .inl (cI, 12, .inl ln)), (m2, .inl (cI, 12, .inl bo)), (m3, .inl (cI, 18, .inl bd)), (m4, .inl (cI, 2, .inl en)), (m5, .inl (cI, 6, .inl ns)), (m6, .inl (cI, 6, .inl nw)), (m7, .inl (cI, 6, .inl nt))] H := hP
      have hD : va_D A [(mm, .inr (6, [.int (nI np), .ref m1, .ref m2, .int (nI nh), .ref m3, .ref m4, .int (nI nn), .ref m5, .ref m6, .ref m7, .ref m8, .int re, .int ro, .ref m9, .int u3])), (m1, .inl (cI, 12, .inl ln)), (m2, .inl (cI, 12, .inl bo)), (m3, .inl (cI, 18, .inl bd)), (m4, .inl (cI, 2, .inl en)), (m5, .inl (cI, 6, .inl ns)), (m6, .inl (cI, 6, .inl nw)), (m7, .inl (cI, 6, .inl nt))] := hD
      refine lv_istore (lv' := [(4, .int ((mMissK ln bo bd np nh (en 0) (en 1) ns nw nt) i)), (3, .int (nI i)), (2, .int y), (1, .int z), (0, .ref mm)]) hx hb dX6_badness_19 hl (by decide) rfl (fun ls hl => ?_)
      refine lv_iload hx hb dX6_badness_21 (lv_at hl 0 rfl) ?_
      refine lv_iload_n hx hb dX6_badness_23 rfl (lv_at hl 3 rfl) ?_
      have jn_24 : ∀ (H : Heap) (locs : List Loc), va_P D vwCl [(mm, .inr (6, [.int (nI np), .ref m1, .ref m2, .int (nI nh), .ref m3, .ref m4, .int (nI nn), .ref m5, .ref m6, .ref m7, .ref m8, .int re, .int ro, .ref m9, .int u3])), (m1, .inl (cI, 12, .inl ln)), (m2, .inl (cI, 12, .inl bo)), (m3, .inl (cI, 18, .inl bd)), (m4, .inl (cI, 2, .inl en)), (m5, .inl (cI, 6, .inl ns)), (m6, .inl (cI, 6, .inl nw)), (m7, .inl (cI, 6, .inl nt))] H → va_S A s.heap H locs → W p l e rmX6_badness s m a below meth c H locs 0 0 Q (F0 m 33 ls [.int (if ((mMissK ln bo bd np nh (en 0) (en 1) ns nw nt) i) ≤ z then z else (mMissK ln bo bd np nh (en 0) (en 1) ns nw nt) i)]) := by
        intro H locs hP hS
        refine lv_istore_n (lv' := [(1, .int (if ((mMissK ln bo bd np nh (en 0) (en 1) ns nw nt) i) ≤ z then z else (mMissK ln bo bd np nh (en 0) (en 1) ns nw nt) i)), (4, .int ((mMissK ln bo bd np nh (en 0) (en 1) ns nw nt) i)), (3, .int (nI i)), (2, .int y), (0, .ref mm)]) hx hb dX6_badness_33 rfl hl (by decide) rfl (fun ls hl => ?_)
        refine lv_iload_n hx hb dX6_badness_34 rfl (lv_at hl 3 rfl) ?_
        refine lv_iload hx hb dX6_badness_35 (lv_at hl 1 rfl) ?_
        refine lv_iadd hx hb dX6_badness_37 ?_
        refine lv_istore_n (lv' := [(2, .int (y + ((mMissK ln bo bd np nh (en 0) (en 1) ns nw nt) i))), (1, .int (if ((mMissK ln bo bd np nh (en 0) (en 1) ns nw nt) i) ≤ z then z else (mMissK ln bo bd np nh (en 0) (en 1) ns nw nt) i)), (4, .int ((mMissK ln bo bd np nh (en 0) (en 1) ns nw nt) i)), (3, .int (nI i)), (0, .ref mm)]) hx hb dX6_badness_38 rfl hl (by decide) rfl (fun ls hl => ?_)
        refine lv_iinc (v := nI (i + 1)) (lv' := [(3, .int (nI (i + 1))), (2, .int (y + ((mMissK ln bo bd np nh (en 0) (en 1) ns nw nt) i))), (1, .int (if ((mMissK ln bo bd np nh (en 0) (en 1) ns nw nt) i) ≤ z then z else (mMissK ln bo bd np nh (en 0) (en 1) ns nw nt) i)), (4, .int ((mMissK ln bo bd np nh (en 0) (en 1) ns nw nt) i)), (0, .ref mm)]) hx hb dX6_badness_39 hl (k := 3) rfl (iinc_1 i) (by decide) rfl (fun ls hl => ?_)
        refine lv_goto (tgt := 6) hx hb dX6_badness_42 (by decide) ?_
        exact ih_6 (i + 1) (if ((mMissK ln bo bd np nh (en 0) (en 1) ns nw nt) i) ≤ z then z else (mMissK ln bo bd np nh (en 0) (en 1) ns nw nt) i) (y + ((mMissK ln bo bd np nh (en 0) (en 1) ns nw nt) i)) u3 (by omega) (hF.trans (by first | with_reducible rfl | (simp only [mBa, if_neg c2]; done) | (simp [mBa, if_neg c2]; done))) _ _ hP hD hS ls (lv_sub hl [0, 1, 2, 4] rfl)
      refine lv_icmp_le (tgt := 32) hx hb dX6_badness_24 (by decide) (fun c5 => ?_) (fun c5 => ?_)
      · skip
        refine lv_iload_n hx hb dX6_badness_32 rfl (lv_at hl 3 rfl) ?_
        exact lv_eqi (if_pos c5).symm (jn_24 _ _ hP hS)
      · skip
        refine lv_iload hx hb dX6_badness_27 (lv_at hl 0 rfl) ?_
        refine lv_goto (tgt := 33) hx hb dX6_badness_29 (by decide) ?_
        exact lv_eqi (if_neg c5).symm (jn_24 _ _ hP hS)
  exact lp_6 nn 0 0 0 tm (by omega) rfl _ _ hP hD hS ls (lv_sub hl [0, 1, 2, 3] rfl)

set_option maxHeartbeats 4000000 in
set_option maxRecDepth 100000 in
theorem c_X6_mayPlace (l : Launch) (D : va_G) (cI cZ : ClassId) (mm : Nat) (m1 : Nat) (m2 : Nat) (m3 : Nat) (m4 : Nat) (m5 : Nat) (m6 : Nat) (m7 : Nat) (m8 : Nat) (m9 : Nat) (np : Nat) (nh : Nat) (nn : Nat) (re : Int32) (ro : Int32) (tm : Int32) (ln : Nat → Int32) (bd : Nat → Int32) (k : Nat) (v : Int32) (hnp : np ≤ 12) (hnh : nh ≤ 6) (hk : k < 6) : Met l yX6_mayPlace wsX6_mayPlace rmX6_mayPlace (va_Pc [.ref mm, .int (nI k), .int v] (PR D cI cZ [(mm, .inr (6, [.int (nI np), .ref m1, .ref m2, .int (nI nh), .ref m3, .ref m4, .int (nI nn), .ref m5, .ref m6, .ref m7, .ref m8, .int re, .int ro, .ref m9, .int tm])), (m1, .inl (cI, 12, .inl ln)), (m3, .inl (cI, 18, .inl bd))])) (RI (mMay ln bd np nh re k v)) 0 0 nA := by
  refine met_go (cc := cX6_mayPlace) (maxL := 6) (ret := (some .boolean)) (by decide) rfl ?_ (Nat.le_of_ble_eq_true rfl)
  intro p e s m a below meth c Q hQ _ hx hb hr hml hts hown hlk hnm hpre ls hl
  have hown : s.vm.findClass RX6 = some m.cls := hown
  obtain ⟨hP, hK⟩ := hpre
  have hN := hK.2
  have hS : va_S nA s.heap s.heap [] := va_S.rf
  have hl : lv_has ls 6 [(0, .ref mm), (1, .int (nI k)), (2, .int v)] := hl
  have k6 : ∀ w ∈ wsX60, w ∈ wsX6_mayPlace := fun w h => List.mem_cons_of_mem _ (List.mem_append_right _ h)
  refine lv_aload_n hx hb dX6_mayPlace_0 rfl (lv_at hl 0 rfl) ?_
  refine lv_iconst (v := 0) hx hb dX6_mayPlace_1 (by decide) ?_
  refine lv_iload_n hx hb dX6_mayPlace_2 rfl (lv_at hl 2 rfl) ?_
  refine rd_i (va_runV (As := [.int 0, .int v]) (rest := []) ⟨hx, hb, hml, hown, hts⟩ (c_X6_fits l D cI cZ mm m1 m2 m3 m4 m5 m6 m7 m8 m9 np nh nn re ro tm ln 0 v (by first | omega | exact hnp)) (cwV 2 hts gX6_mayPlace_X6_fits rfl rfl rfl hdV_X6_fits ⟨Nat.le_of_ble_eq_true rfl, Nat.le_of_ble_eq_true rfl⟩) (PR.V (hP.sub [0, 1] rfl) hK hP (q0 := 0) rfl rfl) rfl rfl hl.1 rfl (lv_room (Nat.le_of_ble_eq_true rfl)) dX6_mayPlace_3 ⟨Nat.le_of_ble_eq_true rfl, Nat.le_of_ble_eq_true rfl⟩) hP hS (fun H locs hP hS => ?_)
  refine lv_if_eq (tgt := 17) hx hb dX6_mayPlace_6 (by decide) (fun c1 => ?_) (fun c1 => ?_)
  · skip
    refine lv_iconst (v := 0) hx hb dX6_mayPlace_17 (by decide) ?_
    exact ret_RZ hQ hx hb hr rfl hlk hS (show mMay ln bd np nh re k v = 0 from (by first | with_reducible rfl | (simp only [mMay, if_pos c1]; done) | (simp [mMay, if_pos c1]; done))).symm dX6_mayPlace_18
  · skip
    refine lv_aload_n hx hb dX6_mayPlace_9 rfl (lv_at hl 0 rfl) ?_
    refine lv_iload_n hx hb dX6_mayPlace_10 rfl (lv_at hl 2 rfl) ?_
    refine rd_i (va_runV (As := [.int v]) (rest := []) ⟨hx, hb, hml, hown, hts⟩ (c_X6_holeAt l D cI cZ mm m1 m2 m3 m4 m5 m6 m7 m8 m9 np nh nn re ro tm bd v (by first | omega | exact hnh)) (cwV 1 hts gX6_mayPlace_X6_holeAt rfl rfl rfl hdV_X6_holeAt ⟨Nat.le_of_ble_eq_true rfl, Nat.le_of_ble_eq_true rfl⟩) (PR.V (hP.sub [0, 2] rfl) hK hP (q0 := 0) rfl rfl) rfl rfl hl.1 rfl (lv_room (Nat.le_of_ble_eq_true rfl)) dX6_mayPlace_11 ⟨Nat.le_of_ble_eq_true rfl, Nat.le_of_ble_eq_true rfl⟩) hP hS (fun H locs hP hS => ?_)
    refine lv_if_lt (tgt := 19) hx hb dX6_mayPlace_14 (by decide) (fun c2 => ?_) (fun c2 => ?_)
    · skip
      refine lv_iload_n hx hb dX6_mayPlace_19 rfl (lv_at hl 2 rfl) ?_
      refine lv_aload_n hx hb dX6_mayPlace_20 rfl (lv_at hl 0 rfl) ?_
      refine va_get (D := D) (ci := 6) (v := .ref m3) (C := RX6) (T := TX6) (N := 15) hx hb hts k6 hown hK.1 hP 0 rfl rfl 4 (by decide) (hts (.fieldLink RX6 16 "BoredPipesModel" "bored" "[I") (List.mem_of_getElem? (i := 1) rfl)) (fun _ h9 => h9) rfl dX6_mayPlace_21 ?_
      refine lv_iconst (v := 3) hx hb dX6_mayPlace_24 (by decide) ?_
      refine lv_iload_n hx hb dX6_mayPlace_25 rfl (lv_at hl 1 rfl) ?_
      refine nn_imul hx hb dX6_mayPlace_26 (x := 3) (y := k) rfl rfl ?_
      refine iald_n (k := (3 * k)) hx hb hK.1 hP 2 rfl (by omega) (by decide) dX6_mayPlace_27 ?_
      refine lv_isub hx hb dX6_mayPlace_28 ?_
      refine lv_istore_n (lv' := [(3, .int (v - (bd (3 * k)))), (0, .ref mm), (1, .int (nI k)), (2, .int v)]) hx hb dX6_mayPlace_29 rfl hl (by decide) rfl (fun ls hl => ?_)
      refine lv_aload_n hx hb dX6_mayPlace_30 rfl (lv_at hl 1 rfl) ?_
      refine lv_iload_n hx hb dX6_mayPlace_31 rfl (lv_at hl 2 rfl) ?_
      refine lv_iload_n hx hb dX6_mayPlace_32 rfl (lv_at hl 0 rfl) ?_
      refine rd_i (va_runV (As := [.int (nI k), .int (v - (bd (3 * k)))]) (rest := []) ⟨hx, hb, hml, hown, hts⟩ (c_X6_beside l D cI cZ mm m1 m2 m3 m4 m5 m6 m7 m8 m9 np nh nn re ro tm bd k (v - (bd (3 * k))) (by first | omega | exact hnh) (by first | omega | exact hk)) (cwV 2 hts gX6_mayPlace_X6_beside rfl rfl rfl hdV_X6_beside ⟨Nat.le_of_ble_eq_true rfl, Nat.le_of_ble_eq_true rfl⟩) (PR.V (hP.sub [0, 2] rfl) hK hP (q0 := 0) rfl rfl) rfl rfl hl.1 rfl (lv_room (Nat.le_of_ble_eq_true rfl)) dX6_mayPlace_33 ⟨Nat.le_of_ble_eq_true rfl, Nat.le_of_ble_eq_true rfl⟩) hP hS (fun H locs hP hS => ?_)
      refine lv_topi (fun hv ehv => ?_)
      refine lv_istore (lv' := [(4, .int hv), (3, .int (v - (bd (3 * k)))), (0, .ref mm), (1, .int (nI k)), (2, .int v)]) hx hb dX6_mayPlace_36 hl (by decide) rfl (fun ls hl => ?_)
      refine lv_iload hx hb dX6_mayPlace_38 (lv_at hl 0 rfl) ?_
      refine lv_if_ge (tgt := 45) hx hb dX6_mayPlace_40 (by decide) (fun c3 => ?_) (fun c3 => ?_)
      · skip
        obtain ⟨j, hj, rfl⟩ : ∃ j, j < 6 ∧ hv = nI j := by rw [ehv] at c3 ⊢; exact mBeside_nat hnh (k2_nlt c3)
        refine lv_aload_n hx hb dX6_mayPlace_45 rfl (lv_at hl 2 rfl) ?_
        refine va_get (D := D) (ci := 6) (v := .ref m3) (C := RX6) (T := TX6) (N := 15) hx hb hts k6 hown hK.1 hP 0 rfl rfl 4 (by decide) (hts (.fieldLink RX6 16 "BoredPipesModel" "bored" "[I") (List.mem_of_getElem? (i := 1) rfl)) (fun _ h9 => h9) rfl dX6_mayPlace_46 ?_
        refine lv_iconst (v := 3) hx hb dX6_mayPlace_49 (by decide) ?_
        refine lv_iload hx hb dX6_mayPlace_50 (lv_at hl 0 rfl) ?_
        refine nn_imul hx hb dX6_mayPlace_52 (x := 3) (y := j) rfl rfl ?_
        refine iald_n (k := (3 * j)) hx hb hK.1 hP 2 rfl (by omega) (by decide) dX6_mayPlace_53 ?_
        refine lv_aload_n hx hb dX6_mayPlace_54 rfl (lv_at hl 2 rfl) ?_
        refine va_get (D := D) (ci := 6) (v := .ref m3) (C := RX6) (T := TX6) (N := 15) hx hb hts k6 hown hK.1 hP 0 rfl rfl 4 (by decide) (hts (.fieldLink RX6 16 "BoredPipesModel" "bored" "[I") (List.mem_of_getElem? (i := 1) rfl)) (fun _ h9 => h9) rfl dX6_mayPlace_55 ?_
        refine lv_iconst (v := 3) hx hb dX6_mayPlace_58 (by decide) ?_
        refine lv_iload_n hx hb dX6_mayPlace_59 rfl (lv_at hl 3 rfl) ?_
        refine nn_imul hx hb dX6_mayPlace_60 (x := 3) (y := k) rfl rfl ?_
        refine iald_n (k := (3 * k)) hx hb hK.1 hP 2 rfl (by omega) (by decide) dX6_mayPlace_61 ?_
        refine lv_isub hx hb dX6_mayPlace_62 ?_
        refine lv_iload_n hx hb dX6_mayPlace_63 rfl (lv_at hl 1 rfl) ?_
        refine lv_imul hx hb dX6_mayPlace_64 ?_
        refine lv_eqi (y := mBD bd k (v - bd (3 * k)) j) rfl ?_
        refine lv_istore (lv' := [(5, .int (mBD bd k (v - bd (3 * k)) j)), (4, .int (nI j)), (3, .int (v - (bd (3 * k)))), (0, .ref mm), (1, .int (nI k)), (2, .int v)]) hx hb dX6_mayPlace_65 hl (by decide) rfl (fun ls hl => ?_)
        refine lv_iload hx hb dX6_mayPlace_67 (lv_at hl 0 rfl) ?_
        refine lv_aload_n hx hb dX6_mayPlace_69 rfl (lv_at hl 3 rfl) ?_
        refine va_get (D := D) (ci := 6) (v := .int re) (C := RX6) (T := TX6) (N := 15) hx hb hts k6 hown hK.1 hP 0 rfl rfl 11 (by decide) (hts (.fieldLink RX6 35 "BoredPipesModel" "reach" "I") (List.mem_of_getElem? (i := 2) rfl)) (fun _ h9 => h9) rfl dX6_mayPlace_70 ?_
        refine lv_icmp_lt (tgt := 87) hx hb dX6_mayPlace_73 (by decide) (fun c4 => ?_) (fun c4 => ?_)
        · skip
          refine lv_iconst (v := 1) hx hb dX6_mayPlace_87 (by decide) ?_
          refine lv_goto (tgt := 92) hx hb dX6_mayPlace_88 (by decide) ?_
          exact ret_RZ hQ hx hb hr rfl hlk hS (show mMay ln bd np nh re k v = 1 from (by first | with_reducible rfl | (simp only [mMay, ← ehv, nI_clamp (show j < 2147483648 from by omega), if_neg c1, if_pos c2, if_pos c3, if_pos c4]; done) | (simp [mMay, ← ehv, nI_clamp (show j < 2147483648 from by omega), if_neg c1, if_pos c2, if_pos c3, if_pos c4]; done))).symm dX6_mayPlace_92
        · skip
          refine lv_iload hx hb dX6_mayPlace_76 (lv_at hl 0 rfl) ?_
          refine lv_iconst (v := 1) hx hb dX6_mayPlace_78 (by decide) ?_
          refine lv_isub hx hb dX6_mayPlace_79 ?_
          refine lv_aload_n hx hb dX6_mayPlace_80 rfl (lv_at hl 3 rfl) ?_
          refine va_get (D := D) (ci := 6) (v := .int re) (C := RX6) (T := TX6) (N := 15) hx hb hts k6 hown hK.1 hP 0 rfl rfl 11 (by decide) (hts (.fieldLink RX6 35 "BoredPipesModel" "reach" "I") (List.mem_of_getElem? (i := 2) rfl)) (fun _ h9 => h9) rfl dX6_mayPlace_81 ?_
          refine lv_icmp_lt (tgt := 91) hx hb dX6_mayPlace_84 (by decide) (fun c5 => ?_) (fun c5 => ?_)
          · skip
            refine lv_iconst (v := 0) hx hb dX6_mayPlace_91 (by decide) ?_
            exact ret_RZ hQ hx hb hr rfl hlk hS (show mMay ln bd np nh re k v = 0 from (by first | with_reducible rfl | (simp only [mMay, ← ehv, nI_clamp (show j < 2147483648 from by omega), if_neg c1, if_pos c2, if_pos c3, if_neg c4, if_pos c5]; done) | (simp [mMay, ← ehv, nI_clamp (show j < 2147483648 from by omega), if_neg c1, if_pos c2, if_pos c3, if_neg c4, if_pos c5]; done))).symm dX6_mayPlace_92
          · skip
            refine lv_iconst (v := 1) hx hb dX6_mayPlace_87 (by decide) ?_
            refine lv_goto (tgt := 92) hx hb dX6_mayPlace_88 (by decide) ?_
            exact ret_RZ hQ hx hb hr rfl hlk hS (show mMay ln bd np nh re k v = 1 from (by first | with_reducible rfl | (simp only [mMay, ← ehv, nI_clamp (show j < 2147483648 from by omega), if_neg c1, if_pos c2, if_pos c3, if_neg c4, if_neg c5]; done) | (simp [mMay, ← ehv, nI_clamp (show j < 2147483648 from by omega), if_neg c1, if_pos c2, if_pos c3, if_neg c4, if_neg c5]; done))).symm dX6_mayPlace_92
      · skip
        refine lv_iconst (v := 1) hx hb dX6_mayPlace_43 (by decide) ?_
        exact ret_RZ hQ hx hb hr rfl hlk hS (show mMay ln bd np nh re k v = 1 from (by first | with_reducible rfl | (simp only [mMay, ← ehv, if_neg c1, if_pos c2, if_neg c3]; done) | (simp [mMay, ← ehv, if_neg c1, if_pos c2, if_neg c3]; done))).symm dX6_mayPlace_44
    · skip
      refine lv_iconst (v := 0) hx hb dX6_mayPlace_17 (by decide) ?_
      exact ret_RZ hQ hx hb hr rfl hlk hS (show mMay ln bd np nh re k v = 0 from (by first | with_reducible rfl | (simp only [mMay, if_neg c1, if_neg c2]; done) | (simp [mMay, if_neg c1, if_neg c2]; done))).symm dX6_mayPlace_18

set_option maxHeartbeats 4000000 in
set_option maxRecDepth 100000 in
theorem c_X6_moved (l : Launch) (D : va_G) (cI cZ : ClassId) (mm : Nat) (m1 : Nat) (m2 : Nat) (m3 : Nat) (m4 : Nat) (m5 : Nat) (m6 : Nat) (m7 : Nat) (m8 : Nat) (m9 : Nat) (np : Nat) (nh : Nat) (nn : Nat) (re : Int32) (ro : Int32) (tm : Int32) (ln : Nat → Int32) (bd : Nat → Int32) (db : Nat → Int32) (k : Nat) (mv : Nat) (hnp : np ≤ 12) (hnh : nh ≤ 6) (hk : k < 6) (hmv : mv < 4) (hsz : ∀ y : Int32, y = 1 ∨ y = -1 → fInL (mSz (bd (3 * k + mv / 2)) y 60).toInt64 1 60 = 0 ∨ mv < 2) : Met l yX6_moved wsX6_moved rmX6_moved (va_Pc [.ref mm, .int (nI k), .int (nI mv)] (PR D cI cZ [(mm, .inr (6, [.int (nI np), .ref m1, .ref m2, .int (nI nh), .ref m3, .ref m4, .int (nI nn), .ref m5, .ref m6, .ref m7, .ref m8, .int re, .int ro, .ref m9, .int tm])), (m1, .inl (cI, 12, .inl ln)), (m3, .inl (cI, 18, .inl bd)), (m8, .inl (cZ, 61, .inl db))])) (RI (mMoved ln bd db np nh re k mv)) 0 0 nA := by
  refine met_go (cc := cX6_moved) (maxL := 6) (ret := (some .int)) (by decide) rfl ?_ (Nat.le_of_ble_eq_true rfl)
  intro p e s m a below meth c Q hQ _ hx hb hr hml hts hown hlk hnm hpre ls hl
  have hown : s.vm.findClass RX6 = some m.cls := hown
  obtain ⟨hP, hK⟩ := hpre
  have hN := hK.2
  have hS : va_S nA s.heap s.heap [] := va_S.rf
  have hl : lv_has ls 6 [(0, .ref mm), (1, .int (nI k)), (2, .int (nI mv))] := hl
  have k6 : ∀ w ∈ wsX60, w ∈ wsX6_moved := fun w h => List.mem_cons_of_mem _ (List.mem_append_right _ h)
  refine lv_aload_n hx hb dX6_moved_0 rfl (lv_at hl 0 rfl) ?_
  refine va_get (D := D) (ci := 6) (v := .ref m3) (C := RX6) (T := TX6) (N := 15) hx hb hts k6 hown hK.1 hP 0 rfl rfl 4 (by decide) (hts (.fieldLink RX6 16 "BoredPipesModel" "bored" "[I") (List.mem_of_getElem? (i := 1) rfl)) (fun _ h9 => h9) rfl dX6_moved_1 ?_
  refine lv_iconst (v := 3) hx hb dX6_moved_4 (by decide) ?_
  refine lv_iload_n hx hb dX6_moved_5 rfl (lv_at hl 1 rfl) ?_
  refine nn_imul hx hb dX6_moved_6 (x := 3) (y := k) rfl rfl ?_
  refine lv_iload_n hx hb dX6_moved_7 rfl (lv_at hl 2 rfl) ?_
  refine lv_iconst (v := 2) hx hb dX6_moved_8 (by decide) ?_
  refine lv_idiv hx hb dX6_moved_9 (by decide) ?_
  refine lv_eqi (y := nI (mv / 2)) (pk_div (a := mv) (d := 2) (by omega) (by decide) (by decide)) ?_
  refine nn_iadd hx hb dX6_moved_10 (x := (3 * k)) (y := (mv / 2)) rfl rfl ?_
  refine iald_n (k := ((3 * k) + (mv / 2))) hx hb hK.1 hP 2 rfl (by omega) (by decide) dX6_moved_11 ?_
  refine lv_istore_n (lv' := [(3, .int (bd ((3 * k) + (mv / 2)))), (0, .ref mm), (1, .int (nI k)), (2, .int (nI mv))]) hx hb dX6_moved_12 rfl hl (by decide) rfl (fun ls hl => ?_)
  refine lv_iload_n hx hb dX6_moved_13 rfl (lv_at hl 3 rfl) ?_
  refine lv_iconst (v := 2) hx hb dX6_moved_14 (by decide) ?_
  refine lv_icmp_ge (tgt := 50) hx hb dX6_moved_15 (by decide) (fun c1 => ?_) (fun c1 => ?_)
  · skip
    have hm2 : ¬ mv < 2 := nI_2le c1 (by omega)
    refine lv_iload_n hx hb dX6_moved_50 rfl (lv_at hl 3 rfl) ?_
    refine lv_iconst (v := 2) hx hb dX6_moved_51 (by decide) ?_
    have jn_52 : ∀ (H : Heap) (locs : List Loc), va_P D vwCl [(mm, .inr (6, [.int (nI np), .ref m1, .ref m2, .int (nI nh), .ref m3, .ref m4, .int (nI nn), .ref m5, .ref m6, .ref m7, .ref m8, .int re, .int ro, .ref m9, .int tm])), (m1, .inl (cI, 12, .inl ln)), (m3, .inl (cI, 18, .inl bd)), (m8, .inl (cZ, 61, .inl db))] H → va_S nA s.heap H locs → W p l e rmX6_moved s m a below meth c H locs 0 0 Q (F0 m 60 ls [.int (if (nI mv) = 2 then 1 else (-1))]) := by
      intro H locs hP hS
      refine lv_topi (fun yy eyy => ?_)
      refine lv_istore (lv' := [(4, .int yy), (3, .int (bd ((3 * k) + (mv / 2)))), (0, .ref mm), (1, .int (nI k)), (2, .int (nI mv))]) hx hb dX6_moved_60 hl (by decide) rfl (fun ls hl => ?_)
      refine lv_iload_n hx hb dX6_moved_62 rfl (lv_at hl 1 rfl) ?_
      refine lv_iload hx hb dX6_moved_63 (lv_at hl 0 rfl) ?_
      refine lv_iadd hx hb dX6_moved_65 ?_
      refine lv_eqi (y := mSz (bd (3 * k + mv / 2)) yy 0) rfl ?_
      refine lv_istore (lv' := [(5, .int (mSz (bd (3 * k + mv / 2)) yy 0)), (4, .int yy), (3, .int (bd ((3 * k) + (mv / 2)))), (0, .ref mm), (1, .int (nI k)), (2, .int (nI mv))]) hx hb dX6_moved_66 hl (by decide) rfl (fun ls hl => ?_)
      have lp_68 : ∀ (r : Nat) (i : Nat), (i + r = 60) → (mMoved ln bd db np nh re k mv = mStep (bd (3 * k + mv / 2)) yy db r i) → ∀ (H : Heap) (locs : List Loc), va_P D vwCl [(mm, .inr (6, [.int (nI np), .ref m1, .ref m2, .int (nI nh), .ref m3, .ref m4, .int (nI nn), .ref m5, .ref m6, .ref m7, .ref m8, .int re, .int ro, .ref m9, .int tm])), (m1, .inl (cI, 12, .inl ln)), (m3, .inl (cI, 18, .inl bd)), (m8, .inl (cZ, 61, .inl db))] H → va_S nA s.heap H locs → ∀ (ls : Array Slot), lv_has ls 6 [(5, .int (mSz (bd (3 * k + mv / 2)) yy i)), (4, .int yy), (3, .int (bd ((3 * k) + (mv / 2)))), (0, .ref mm), (1, .int (nI k)), (2, .int (nI mv))] → W p l e rmX6_moved s m a below meth c H locs 0 0 Q (F0 m 68 ls []) := by
        intro r
        induction r with
        | zero =>
          intro i hi hF H locs hP hS ls hl
          refine lv_iload hx hb dX6_moved_68 (lv_at hl 0 rfl) ?_
          refine lv_i2l hx hb dX6_moved_70 rfl ?_
          refine lv_lconst (v := 1) hx hb dX6_moved_71 (by decide) ?_
          refine lv_ldc2 hx hb hown (hts (.constantLong RX6 65 (60)) (List.mem_of_getElem? (i := 2) rfl)) dX6_moved_72 ?_
          refine rd_i (va_runS (As := [.long ((mSz (bd (3 * k + mv / 2)) yy i).toInt64), .long 1, .long 60]) (rest := []) ⟨hx, hb, hml, hown, hts⟩ (c_X6_in l D cI cZ ((mSz (bd (3 * k + mv / 2)) yy i).toInt64) 1 60) (va_cwS 3 hts gX6_moved_X6_in rfl rfl rfl hdV_X6_in.2 ⟨Nat.le_of_ble_eq_true rfl, Nat.le_of_ble_eq_true rfl⟩) (PR.S (hP.sub [] rfl) hK) rfl rfl hl.1 rfl (lv_room (Nat.le_of_ble_eq_true rfl)) dX6_moved_75 ⟨Nat.le_of_ble_eq_true rfl, Nat.le_of_ble_eq_true rfl⟩) hP hS (fun H locs hP hS => ?_)
          refine lv_if_eq (tgt := 101) hx hb dX6_moved_78 (by decide) (fun c3 => ?_) (fun c3 => absurd ((by rw [show i = 60 from by omega]; exact (hsz yy (by rw [eyy]; split <;> simp)).resolve_right hm2)) c3)
          refine lv_iload hx hb dX6_moved_101 (lv_at hl 0 rfl) ?_
          refine lv_i2l hx hb dX6_moved_103 rfl ?_
          refine lv_lconst (v := 1) hx hb dX6_moved_104 (by decide) ?_
          refine lv_ldc2 hx hb hown (hts (.constantLong RX6 65 (60)) (List.mem_of_getElem? (i := 2) rfl)) dX6_moved_105 ?_
          refine rd_i (va_runS (As := [.long ((mSz (bd (3 * k + mv / 2)) yy i).toInt64), .long 1, .long 60]) (rest := []) ⟨hx, hb, hml, hown, hts⟩ (c_X6_in l D cI cZ ((mSz (bd (3 * k + mv / 2)) yy i).toInt64) 1 60) (va_cwS 3 hts gX6_moved_X6_in rfl rfl rfl hdV_X6_in.2 ⟨Nat.le_of_ble_eq_true rfl, Nat.le_of_ble_eq_true rfl⟩) (PR.S (hP.sub [] rfl) hK) rfl rfl hl.1 rfl (lv_room (Nat.le_of_ble_eq_true rfl)) dX6_moved_108 ⟨Nat.le_of_ble_eq_true rfl, Nat.le_of_ble_eq_true rfl⟩) hP hS (fun H locs hP hS => ?_)
          refine lv_if_eq (tgt := 119) hx hb dX6_moved_111 (by decide) (fun c4 => ?_) (fun c4 => absurd (c3) c4)
          refine lv_iconst (v := (-1)) hx hb dX6_moved_119 (by decide) ?_
          exact ret_RI hQ hx hb hr hlk hS (hF.trans (by first | with_reducible rfl | (simp only [mMoved, ← eyy, mStep, if_pos c1, if_pos c3, if_pos c4]; done) | (simp [mMoved, ← eyy, mStep, if_pos c1, if_pos c3, if_pos c4]; done))).symm dX6_moved_120
        | succ r ih_68 =>
          intro i hi hF H locs hP hS ls hl
          refine lv_iload hx hb dX6_moved_68 (lv_at hl 0 rfl) ?_
          refine lv_i2l hx hb dX6_moved_70 rfl ?_
          refine lv_lconst (v := 1) hx hb dX6_moved_71 (by decide) ?_
          refine lv_ldc2 hx hb hown (hts (.constantLong RX6 65 (60)) (List.mem_of_getElem? (i := 2) rfl)) dX6_moved_72 ?_
          refine rd_i (va_runS (As := [.long ((mSz (bd (3 * k + mv / 2)) yy i).toInt64), .long 1, .long 60]) (rest := []) ⟨hx, hb, hml, hown, hts⟩ (c_X6_in l D cI cZ ((mSz (bd (3 * k + mv / 2)) yy i).toInt64) 1 60) (va_cwS 3 hts gX6_moved_X6_in rfl rfl rfl hdV_X6_in.2 ⟨Nat.le_of_ble_eq_true rfl, Nat.le_of_ble_eq_true rfl⟩) (PR.S (hP.sub [] rfl) hK) rfl rfl hl.1 rfl (lv_room (Nat.le_of_ble_eq_true rfl)) dX6_moved_75 ⟨Nat.le_of_ble_eq_true rfl, Nat.le_of_ble_eq_true rfl⟩) hP hS (fun H locs hP hS => ?_)
          refine lv_if_eq (tgt := 101) hx hb dX6_moved_78 (by decide) (fun c5 => ?_) (fun c5 => ?_)
          · skip
            refine lv_iload hx hb dX6_moved_101 (lv_at hl 0 rfl) ?_
            refine lv_i2l hx hb dX6_moved_103 rfl ?_
            refine lv_lconst (v := 1) hx hb dX6_moved_104 (by decide) ?_
            refine lv_ldc2 hx hb hown (hts (.constantLong RX6 65 (60)) (List.mem_of_getElem? (i := 2) rfl)) dX6_moved_105 ?_
            refine rd_i (va_runS (As := [.long ((mSz (bd (3 * k + mv / 2)) yy i).toInt64), .long 1, .long 60]) (rest := []) ⟨hx, hb, hml, hown, hts⟩ (c_X6_in l D cI cZ ((mSz (bd (3 * k + mv / 2)) yy i).toInt64) 1 60) (va_cwS 3 hts gX6_moved_X6_in rfl rfl rfl hdV_X6_in.2 ⟨Nat.le_of_ble_eq_true rfl, Nat.le_of_ble_eq_true rfl⟩) (PR.S (hP.sub [] rfl) hK) rfl rfl hl.1 rfl (lv_room (Nat.le_of_ble_eq_true rfl)) dX6_moved_108 ⟨Nat.le_of_ble_eq_true rfl, Nat.le_of_ble_eq_true rfl⟩) hP hS (fun H locs hP hS => ?_)
            refine lv_if_eq (tgt := 119) hx hb dX6_moved_111 (by decide) (fun c6 => ?_) (fun c6 => absurd (c5) c6)
            refine lv_iconst (v := (-1)) hx hb dX6_moved_119 (by decide) ?_
            exact ret_RI hQ hx hb hr hlk hS (hF.trans (by first | with_reducible rfl | (simp only [mMoved, ← eyy, mStep, if_pos c1, if_pos c5, if_pos c6]; done) | (simp [mMoved, ← eyy, mStep, if_pos c1, if_pos c5, if_pos c6]; done))).symm dX6_moved_120
          · skip
            refine lv_aload_n hx hb dX6_moved_81 rfl (lv_at hl 3 rfl) ?_
            refine va_get (D := D) (ci := 6) (v := .ref m8) (C := RX6) (T := TX6) (N := 15) hx hb hts k6 hown hK.1 hP 0 rfl rfl 10 (by decide) (hts (.fieldLink RX6 31 "BoredPipesModel" "drills" "[Z") (List.mem_of_getElem? (i := 3) rfl)) (fun _ h9 => h9) rfl dX6_moved_82 ?_
            refine lv_iload hx hb dX6_moved_85 (lv_at hl 0 rfl) ?_
            refine va_zald hx hb hK.1 hP 3 1 rfl rfl (fInL_vp c5) dX6_moved_87 ?_
            refine lv_if_ne (tgt := 101) hx hb dX6_moved_88 (by decide) (fun c7 => ?_) (fun c7 => ?_)
            · skip
              refine lv_iload hx hb dX6_moved_101 (lv_at hl 0 rfl) ?_
              refine lv_i2l hx hb dX6_moved_103 rfl ?_
              refine lv_lconst (v := 1) hx hb dX6_moved_104 (by decide) ?_
              refine lv_ldc2 hx hb hown (hts (.constantLong RX6 65 (60)) (List.mem_of_getElem? (i := 2) rfl)) dX6_moved_105 ?_
              refine rd_i (va_runS (As := [.long ((mSz (bd (3 * k + mv / 2)) yy i).toInt64), .long 1, .long 60]) (rest := []) ⟨hx, hb, hml, hown, hts⟩ (c_X6_in l D cI cZ ((mSz (bd (3 * k + mv / 2)) yy i).toInt64) 1 60) (va_cwS 3 hts gX6_moved_X6_in rfl rfl rfl hdV_X6_in.2 ⟨Nat.le_of_ble_eq_true rfl, Nat.le_of_ble_eq_true rfl⟩) (PR.S (hP.sub [] rfl) hK) rfl rfl hl.1 rfl (lv_room (Nat.le_of_ble_eq_true rfl)) dX6_moved_108 ⟨Nat.le_of_ble_eq_true rfl, Nat.le_of_ble_eq_true rfl⟩) hP hS (fun H locs hP hS => ?_)
              refine lv_if_eq (tgt := 119) hx hb dX6_moved_111 (by decide) (fun c8 => absurd c8 (c5)) (fun c8 => ?_)
              refine lv_iload hx hb dX6_moved_114 (lv_at hl 0 rfl) ?_
              refine lv_goto (tgt := 120) hx hb dX6_moved_116 (by decide) ?_
              exact ret_RI hQ hx hb hr hlk hS (hF.trans (by first | with_reducible rfl | (simp only [mMoved, ← eyy, mStep, if_pos c1, if_neg c5, if_neg c7, if_neg c8]; done) | (simp [mMoved, ← eyy, mStep, if_pos c1, if_neg c5, if_neg c7, if_neg c8]; done))).symm dX6_moved_120
            · skip
              refine lv_iload hx hb dX6_moved_91 (lv_at hl 0 rfl) ?_
              refine lv_iload hx hb dX6_moved_93 (lv_at hl 1 rfl) ?_
              refine lv_iadd hx hb dX6_moved_95 ?_
              refine lv_eqi (y := mSz (bd (3 * k + mv / 2)) yy (i + 1)) rfl ?_
              refine lv_istore (lv' := [(5, .int (mSz (bd (3 * k + mv / 2)) yy (i + 1))), (4, .int yy), (3, .int (bd ((3 * k) + (mv / 2)))), (0, .ref mm), (1, .int (nI k)), (2, .int (nI mv))]) hx hb dX6_moved_96 hl (by decide) rfl (fun ls hl => ?_)
              refine lv_goto (tgt := 68) hx hb dX6_moved_98 (by decide) ?_
              exact ih_68 (i + 1) (by omega) (hF.trans (by first | with_reducible rfl | (simp only [mMoved, ← eyy, mStep, if_pos c1, if_neg c5, if_pos c7]; done) | (simp [mMoved, ← eyy, mStep, if_pos c1, if_neg c5, if_pos c7]; done))) _ _ hP hS ls (lv_sub hl [0, 1, 2, 3, 4, 5] rfl)
      exact lp_68 60 0 (by omega) (by first | with_reducible rfl | (simp only [mMoved, ← eyy, if_pos c1]; done) | (simp [mMoved, ← eyy, if_pos c1]; done)) _ _ hP hS ls (lv_sub hl [0, 1, 2, 3, 4, 5] rfl)
    refine lv_icmp_ne (tgt := 59) hx hb dX6_moved_52 (by decide) (fun c2 => ?_) (fun c2 => ?_)
    · skip
      refine lv_iconst (v := (-1)) hx hb dX6_moved_59 (by decide) ?_
      exact lv_eqi (if_neg c2).symm (jn_52 _ _ hP hS)
    · skip
      refine lv_iconst (v := 1) hx hb dX6_moved_55 (by decide) ?_
      refine lv_goto (tgt := 60) hx hb dX6_moved_56 (by decide) ?_
      exact lv_eqi (if_pos c2).symm (jn_52 _ _ hP hS)
  · skip
    refine lv_iload_n hx hb dX6_moved_18 rfl (lv_at hl 3 rfl) ?_
    have jn_19 : ∀ (H : Heap) (locs : List Loc), va_P D vwCl [(mm, .inr (6, [.int (nI np), .ref m1, .ref m2, .int (nI nh), .ref m3, .ref m4, .int (nI nn), .ref m5, .ref m6, .ref m7, .ref m8, .int re, .int ro, .ref m9, .int tm])), (m1, .inl (cI, 12, .inl ln)), (m3, .inl (cI, 18, .inl bd)), (m8, .inl (cZ, 61, .inl db))] H → va_S nA s.heap H locs → W p l e rmX6_moved s m a below meth c H locs 0 0 Q (F0 m 31 ls [.int (if (nI mv) = 0 then (bd ((3 * k) + (mv / 2))) + 1 else (bd ((3 * k) + (mv / 2))) - 1)]) := by
      intro H locs hP hS
      refine lv_istore (lv' := [(4, .int (if (nI mv) = 0 then (bd ((3 * k) + (mv / 2))) + 1 else (bd ((3 * k) + (mv / 2))) - 1)), (3, .int (bd ((3 * k) + (mv / 2)))), (0, .ref mm), (1, .int (nI k)), (2, .int (nI mv))]) hx hb dX6_moved_31 hl (by decide) rfl (fun ls hl => ?_)
      refine lv_aload_n hx hb dX6_moved_33 rfl (lv_at hl 2 rfl) ?_
      refine lv_iload_n hx hb dX6_moved_34 rfl (lv_at hl 3 rfl) ?_
      refine lv_iload hx hb dX6_moved_35 (lv_at hl 0 rfl) ?_
      refine rd_i (va_runV (As := [.int (nI k), .int (if (nI mv) = 0 then (bd ((3 * k) + (mv / 2))) + 1 else (bd ((3 * k) + (mv / 2))) - 1)]) (rest := []) ⟨hx, hb, hml, hown, hts⟩ (c_X6_mayPlace l D cI cZ mm m1 m2 m3 m4 m5 m6 m7 m8 m9 np nh nn re ro tm ln bd k (if (nI mv) = 0 then (bd ((3 * k) + (mv / 2))) + 1 else (bd ((3 * k) + (mv / 2))) - 1) (by first | omega | exact hnp) (by first | omega | exact hnh) (by first | omega | exact hk)) (cwV 2 hts gX6_moved_X6_mayPlace rfl rfl rfl hdV_X6_mayPlace ⟨Nat.le_of_ble_eq_true rfl, Nat.le_of_ble_eq_true rfl⟩) (PR.V (hP.sub [0, 1, 2] rfl) hK hP (q0 := 0) rfl rfl) rfl rfl hl.1 rfl (lv_room (Nat.le_of_ble_eq_true rfl)) dX6_moved_37 ⟨Nat.le_of_ble_eq_true rfl, Nat.le_of_ble_eq_true rfl⟩) hP hS (fun H locs hP hS => ?_)
      refine lv_if_eq (tgt := 48) hx hb dX6_moved_40 (by decide) (fun c10 => ?_) (fun c10 => ?_)
      · skip
        refine lv_iconst (v := (-1)) hx hb dX6_moved_48 (by decide) ?_
        exact ret_RI hQ hx hb hr hlk hS (show mMoved ln bd db np nh re k mv = (-1) from (by first | with_reducible rfl | (simp only [mMoved, if_neg c1, if_pos c10]; done) | (simp [mMoved, if_neg c1, if_pos c10]; done))).symm dX6_moved_49
      · skip
        refine lv_iload hx hb dX6_moved_43 (lv_at hl 0 rfl) ?_
        refine lv_goto (tgt := 49) hx hb dX6_moved_45 (by decide) ?_
        exact ret_RI hQ hx hb hr hlk hS (show mMoved ln bd db np nh re k mv = if (nI mv) = 0 then (bd ((3 * k) + (mv / 2))) + 1 else (bd ((3 * k) + (mv / 2))) - 1 from (by first | with_reducible rfl | (simp only [mMoved, if_neg c1, if_neg c10]; done) | (simp [mMoved, if_neg c1, if_neg c10]; done))).symm dX6_moved_49
    refine lv_if_ne (tgt := 28) hx hb dX6_moved_19 (by decide) (fun c9 => ?_) (fun c9 => ?_)
    · skip
      refine lv_iload_n hx hb dX6_moved_28 rfl (lv_at hl 0 rfl) ?_
      refine lv_iconst (v := 1) hx hb dX6_moved_29 (by decide) ?_
      refine lv_isub hx hb dX6_moved_30 ?_
      exact lv_eqi (if_neg c9).symm (jn_19 _ _ hP hS)
    · skip
      refine lv_iload_n hx hb dX6_moved_22 rfl (lv_at hl 0 rfl) ?_
      refine lv_iconst (v := 1) hx hb dX6_moved_23 (by decide) ?_
      refine lv_iadd hx hb dX6_moved_24 ?_
      refine lv_goto (tgt := 31) hx hb dX6_moved_25 (by decide) ?_
      exact lv_eqi (if_pos c9).symm (jn_19 _ _ hP hS)
