set_option maxHeartbeats 4000000 in
set_option maxRecDepth 100000 in
theorem c_X6_keep (l : Launch) (D : va_G) (cI cZ : ClassId) (mm : Nat) (m1 : Nat) (m2 : Nat) (m3 : Nat) (m4 : Nat) (m5 : Nat) (m6 : Nat) (m7 : Nat) (m8 : Nat) (m9 : Nat) (np : Nat) (nh : Nat) (nn : Nat) (re : Int32) (ro : Int32) (tm : Int32) (ln : Nat → Int32) (bo : Nat → Int32) (bd : Nat → Int32) (en : Nat → Int32) (sh : Nat → Int32) (x : Int32)  : Met l yX6_keep wsX6_keep rmX6_keep (va_Pc [.ref mm, .int x] (PW D cI cZ [(mm, .inr (6, [.int (nI np), .ref m1, .ref m2, .int (nI nh), .ref m3, .ref m4, .int (nI nn), .ref m5, .ref m6, .ref m7, .ref m8, .int re, .int ro, .ref m9, .int tm])), (m1, .inl (cI, 12, .inl ln)), (m2, .inl (cI, 12, .inl bo)), (m3, .inl (cI, 18, .inl bd)), (m4, .inl (cI, 2, .inl en)), (m9, .inl (cI, 100, .inl sh))])) (WI (S := Unit) D (fun zr _ => zr = (mKeep x np nh en ln bo bd sh).1) (fun _ => [(mm, .inr (6, [.int (nI np), .ref m1, .ref m2, .int (nI nh), .ref m3, .ref m4, .int (nI nn), .ref m5, .ref m6, .ref m7, .ref m8, .int re, .int ro, .ref m9, .int tm])), (m1, .inl (cI, 12, .inl ln)), (m2, .inl (cI, 12, .inl bo)), (m3, .inl (cI, 18, .inl bd)), (m4, .inl (cI, 2, .inl en)), (m9, .inl (cI, 100, .inl ((mKeep x np nh en ln bo bd sh).2)))]) [(mm, .inr (6, [.int (nI np), .ref m1, .ref m2, .int (nI nh), .ref m3, .ref m4, .int (nI nn), .ref m5, .ref m6, .ref m7, .ref m8, .int re, .int ro, .ref m9, .int tm])), (m1, .inl (cI, 12, .inl ln)), (m2, .inl (cI, 12, .inl bo)), (m3, .inl (cI, 18, .inl bd)), (m4, .inl (cI, 2, .inl en)), (m9, .inl (cI, 100, .inl sh))]) 0 0 (ad [(mm, .inr (6, [.int (nI np), .ref m1, .ref m2, .int (nI nh), .ref m3, .ref m4, .int (nI nn), .ref m5, .ref m6, .ref m7, .ref m8, .int re, .int ro, .ref m9, .int tm])), (m1, .inl (cI, 12, .inl ln)), (m2, .inl (cI, 12, .inl bo)), (m3, .inl (cI, 18, .inl bd)), (m4, .inl (cI, 2, .inl en)), (m9, .inl (cI, 100, .inl sh))]) := by
  refine met_go (cc := cX6_keep) (maxL := 3) (ret := (some .int)) (by decide) rfl ?_ (Nat.le_of_ble_eq_true rfl)
  intro p e s m a below meth c Q hQ _ hx hb hr hml hts hown hlk hnm hpre ls hl
  have hown : s.vm.findClass RX6 = some m.cls := hown
  obtain ⟨hP, hK, hD0⟩ := hpre
  have hN := hK.2
  obtain ⟨A, hAe⟩ : ∃ A : Nat → Prop, A = ad [(mm, .inr (6, [.int (nI np), .ref m1, .ref m2, .int (nI nh), .ref m3, .ref m4, .int (nI nn), .ref m5, .ref m6, .ref m7, .ref m8, .int re, .int ro, .ref m9, .int tm])), (m1, .inl (cI, 12, .inl ln)), (m2, .inl (cI, 12, .inl bo)), (m3, .inl (cI, 18, .inl bd)), (m4, .inl (cI, 2, .inl en)), (m9, .inl (cI, 100, .inl sh))] := ⟨_, rfl⟩
  have hD : va_D A [(mm, .inr (6, [.int (nI np), .ref m1, .ref m2, .int (nI nh), .ref m3, .ref m4, .int (nI nn), .ref m5, .ref m6, .ref m7, .ref m8, .int re, .int ro, .ref m9, .int tm])), (m1, .inl (cI, 12, .inl ln)), (m2, .inl (cI, 12, .inl bo)), (m3, .inl (cI, 18, .inl bd)), (m4, .inl (cI, 2, .inl en)), (m9, .inl (cI, 100, .inl sh))] := by rw [hAe]; exact hD0.ad
  have hS : va_S A s.heap s.heap [] := va_S.rf
  have hl : lv_has ls 3 [(0, .ref mm), (1, .int x)] := hl
  have k6 : ∀ w ∈ wsX60, w ∈ wsX6_keep := fun w h => List.mem_cons_of_mem _ (List.mem_append_right _ h)
  refine lv_iload_n hx hb dX6_keep_0 rfl (lv_at hl 1 rfl) ?_
  refine lv_i2l hx hb dX6_keep_1 rfl ?_
  refine lv_lconst (v := 0) hx hb dX6_keep_2 (by decide) ?_
  refine lv_lconst (v := 1) hx hb dX6_keep_3 (by decide) ?_
  refine rd_i (va_runS (As := [.long x.toInt64, .long 0, .long 1]) (rest := []) ⟨hx, hb, hml, hown, hts⟩ (c_X6_in l D cI cZ x.toInt64 0 1) (va_cwS 3 hts gX6_keep_X6_in rfl rfl rfl hdV_X6_in.2 ⟨Nat.le_of_ble_eq_true rfl, Nat.le_of_ble_eq_true rfl⟩) (PR.S (hP.sub [] rfl) hK) rfl rfl hl.1 rfl (lv_room (Nat.le_of_ble_eq_true rfl)) dX6_keep_4 ⟨Nat.le_of_ble_eq_true rfl, Nat.le_of_ble_eq_true rfl⟩) hP hS (fun H locs hP hS => ?_)
  refine lv_if_ne (tgt := 14) hx hb dX6_keep_7 (by decide) (fun c1 => ?_) (fun c1 => ?_)
  · skip
    obtain ⟨k, -, hk, rfl⟩ := fInL_rng (a := 0) (b := 1) c1 (by decide) (by decide)
    refine lv_aload_n hx hb dX6_keep_14 rfl (lv_at hl 0 rfl) ?_
    refine va_get (D := D) (ci := 6) (v := .ref m9) (C := RX6) (T := TX6) (N := 15) hx hb hts k6 hown hK.1 hP 0 rfl rfl 13 (by decide) (hts (.fieldLink RX6 39 "BoredPipesModel" "shelf" "[I") (List.mem_of_getElem? (i := 1) rfl)) (fun _ h9 => h9) rfl dX6_keep_15 ?_
    refine lv_bipush (v := 50) hx hb dX6_keep_18 (by decide) ?_
    refine lv_iload_n hx hb dX6_keep_20 rfl (lv_at hl 1 rfl) ?_
    refine nn_imul hx hb dX6_keep_21 (x := 50) (y := k) rfl rfl ?_
    refine lv_aload_n hx hb dX6_keep_22 rfl (lv_at hl 0 rfl) ?_
    refine va_get (D := D) (ci := 6) (v := .int (nI np)) (C := RX6) (T := TX6) (N := 15) hx hb hts k6 hown hK.1 hP 0 rfl rfl 0 (by decide) (hts (.fieldLink RX6 42 "BoredPipesModel" "pieces" "I") (List.mem_of_getElem? (i := 2) rfl)) (fun _ h9 => h9) rfl dX6_keep_23 ?_
    refine iast_n (k := (50 * k)) hx hb hK.1 hP hD hS 5 rfl (by omega) (by decide) dX6_keep_26 (fun H locs hP hD hS => ?_)
    have hP : va_P D vwCl [(mm, .inr (6, [.int (nI np), .ref m1, .ref m2, .int (nI nh), .ref m3, .ref m4, .int (nI nn), .ref m5, .ref m6, .ref m7, .ref m8, .int re, .int ro, .ref m9, .int tm])), (m1, .inl (cI, 12, .inl ln)), (m2, .inl (cI, 12, .inl bo)), (m3, .inl (cI, 18, .inl bd)), (m4, .inl (cI, 2, .inl en)), (m9, .inl (cI, 100, .inl (upd sh (50 * k) (nI np))))] H := hP
    have hD : va_D A [(mm, .inr (6, [.int (nI np), .ref m1, .ref m2, .int (nI nh), .ref m3, .ref m4, .int (nI nn), .ref m5, .ref m6, .ref m7, .ref m8, .int re, .int ro, .ref m9, .int tm])), (m1, .inl (cI, 12, .inl ln)), (m2, .inl (cI, 12, .inl bo)), (m3, .inl (cI, 18, .inl bd)), (m4, .inl (cI, 2, .inl en)), (m9, .inl (cI, 100, .inl (upd sh (50 * k) (nI np))))] := hD
    refine lv_aload_n hx hb dX6_keep_27 rfl (lv_at hl 0 rfl) ?_
    refine va_get (D := D) (ci := 6) (v := .ref m9) (C := RX6) (T := TX6) (N := 15) hx hb hts k6 hown hK.1 hP 0 rfl rfl 13 (by decide) (hts (.fieldLink RX6 39 "BoredPipesModel" "shelf" "[I") (List.mem_of_getElem? (i := 1) rfl)) (fun _ h9 => h9) rfl dX6_keep_28 ?_
    refine lv_bipush (v := 50) hx hb dX6_keep_31 (by decide) ?_
    refine lv_iload_n hx hb dX6_keep_33 rfl (lv_at hl 1 rfl) ?_
    refine nn_imul hx hb dX6_keep_34 (x := 50) (y := k) rfl rfl ?_
    refine lv_iconst (v := 1) hx hb dX6_keep_35 (by decide) ?_
    refine nn_iadd hx hb dX6_keep_36 (x := (50 * k)) (y := 1) rfl rfl ?_
    refine lv_aload_n hx hb dX6_keep_37 rfl (lv_at hl 0 rfl) ?_
    refine va_get (D := D) (ci := 6) (v := .int (nI nh)) (C := RX6) (T := TX6) (N := 15) hx hb hts k6 hown hK.1 hP 0 rfl rfl 3 (by decide) (hts (.fieldLink RX6 67 "BoredPipesModel" "holes" "I") (List.mem_of_getElem? (i := 3) rfl)) (fun _ h9 => h9) rfl dX6_keep_38 ?_
    refine iast_n (k := ((50 * k) + 1)) hx hb hK.1 hP hD hS 5 rfl (by omega) (by decide) dX6_keep_41 (fun H locs hP hD hS => ?_)
    have hP : va_P D vwCl [(mm, .inr (6, [.int (nI np), .ref m1, .ref m2, .int (nI nh), .ref m3, .ref m4, .int (nI nn), .ref m5, .ref m6, .ref m7, .ref m8, .int re, .int ro, .ref m9, .int tm])), (m1, .inl (cI, 12, .inl ln)), (m2, .inl (cI, 12, .inl bo)), (m3, .inl (cI, 18, .inl bd)), (m4, .inl (cI, 2, .inl en)), (m9, .inl (cI, 100, .inl (upd (upd sh (50 * k) (nI np)) ((50 * k) + 1) (nI nh))))] H := hP
    have hD : va_D A [(mm, .inr (6, [.int (nI np), .ref m1, .ref m2, .int (nI nh), .ref m3, .ref m4, .int (nI nn), .ref m5, .ref m6, .ref m7, .ref m8, .int re, .int ro, .ref m9, .int tm])), (m1, .inl (cI, 12, .inl ln)), (m2, .inl (cI, 12, .inl bo)), (m3, .inl (cI, 18, .inl bd)), (m4, .inl (cI, 2, .inl en)), (m9, .inl (cI, 100, .inl (upd (upd sh (50 * k) (nI np)) ((50 * k) + 1) (nI nh))))] := hD
    refine lv_aload_n hx hb dX6_keep_42 rfl (lv_at hl 0 rfl) ?_
    refine va_get (D := D) (ci := 6) (v := .ref m9) (C := RX6) (T := TX6) (N := 15) hx hb hts k6 hown hK.1 hP 0 rfl rfl 13 (by decide) (hts (.fieldLink RX6 39 "BoredPipesModel" "shelf" "[I") (List.mem_of_getElem? (i := 1) rfl)) (fun _ h9 => h9) rfl dX6_keep_43 ?_
    refine lv_bipush (v := 50) hx hb dX6_keep_46 (by decide) ?_
    refine lv_iload_n hx hb dX6_keep_48 rfl (lv_at hl 1 rfl) ?_
    refine nn_imul hx hb dX6_keep_49 (x := 50) (y := k) rfl rfl ?_
    refine lv_iconst (v := 2) hx hb dX6_keep_50 (by decide) ?_
    refine nn_iadd hx hb dX6_keep_51 (x := (50 * k)) (y := 2) rfl rfl ?_
    refine lv_aload_n hx hb dX6_keep_52 rfl (lv_at hl 0 rfl) ?_
    refine va_get (D := D) (ci := 6) (v := .ref m4) (C := RX6) (T := TX6) (N := 15) hx hb hts k6 hown hK.1 hP 0 rfl rfl 5 (by decide) (hts (.fieldLink RX6 19 "BoredPipesModel" "ends" "[I") (List.mem_of_getElem? (i := 4) rfl)) (fun _ h9 => h9) rfl dX6_keep_53 ?_
    refine lv_iconst (v := 0) hx hb dX6_keep_56 (by decide) ?_
    refine iald_n (k := 0) hx hb hK.1 hP 4 rfl (by omega) (by decide) dX6_keep_57 ?_
    refine iast_n (k := ((50 * k) + 2)) hx hb hK.1 hP hD hS 5 rfl (by omega) (by decide) dX6_keep_58 (fun H locs hP hD hS => ?_)
    have hP : va_P D vwCl [(mm, .inr (6, [.int (nI np), .ref m1, .ref m2, .int (nI nh), .ref m3, .ref m4, .int (nI nn), .ref m5, .ref m6, .ref m7, .ref m8, .int re, .int ro, .ref m9, .int tm])), (m1, .inl (cI, 12, .inl ln)), (m2, .inl (cI, 12, .inl bo)), (m3, .inl (cI, 18, .inl bd)), (m4, .inl (cI, 2, .inl en)), (m9, .inl (cI, 100, .inl (upd (upd (upd sh (50 * k) (nI np)) ((50 * k) + 1) (nI nh)) ((50 * k) + 2) (en 0))))] H := hP
    have hD : va_D A [(mm, .inr (6, [.int (nI np), .ref m1, .ref m2, .int (nI nh), .ref m3, .ref m4, .int (nI nn), .ref m5, .ref m6, .ref m7, .ref m8, .int re, .int ro, .ref m9, .int tm])), (m1, .inl (cI, 12, .inl ln)), (m2, .inl (cI, 12, .inl bo)), (m3, .inl (cI, 18, .inl bd)), (m4, .inl (cI, 2, .inl en)), (m9, .inl (cI, 100, .inl (upd (upd (upd sh (50 * k) (nI np)) ((50 * k) + 1) (nI nh)) ((50 * k) + 2) (en 0))))] := hD
    refine lv_aload_n hx hb dX6_keep_59 rfl (lv_at hl 0 rfl) ?_
    refine va_get (D := D) (ci := 6) (v := .ref m9) (C := RX6) (T := TX6) (N := 15) hx hb hts k6 hown hK.1 hP 0 rfl rfl 13 (by decide) (hts (.fieldLink RX6 39 "BoredPipesModel" "shelf" "[I") (List.mem_of_getElem? (i := 1) rfl)) (fun _ h9 => h9) rfl dX6_keep_60 ?_
    refine lv_bipush (v := 50) hx hb dX6_keep_63 (by decide) ?_
    refine lv_iload_n hx hb dX6_keep_65 rfl (lv_at hl 1 rfl) ?_
    refine nn_imul hx hb dX6_keep_66 (x := 50) (y := k) rfl rfl ?_
    refine lv_iconst (v := 3) hx hb dX6_keep_67 (by decide) ?_
    refine nn_iadd hx hb dX6_keep_68 (x := (50 * k)) (y := 3) rfl rfl ?_
    refine lv_aload_n hx hb dX6_keep_69 rfl (lv_at hl 0 rfl) ?_
    refine va_get (D := D) (ci := 6) (v := .ref m4) (C := RX6) (T := TX6) (N := 15) hx hb hts k6 hown hK.1 hP 0 rfl rfl 5 (by decide) (hts (.fieldLink RX6 19 "BoredPipesModel" "ends" "[I") (List.mem_of_getElem? (i := 4) rfl)) (fun _ h9 => h9) rfl dX6_keep_70 ?_
    refine lv_iconst (v := 1) hx hb dX6_keep_73 (by decide) ?_
    refine iald_n (k := 1) hx hb hK.1 hP 4 rfl (by omega) (by decide) dX6_keep_74 ?_
    refine iast_n (k := ((50 * k) + 3)) hx hb hK.1 hP hD hS 5 rfl (by omega) (by decide) dX6_keep_75 (fun H locs hP hD hS => ?_)
    have hP : va_P D vwCl [(mm, .inr (6, [.int (nI np), .ref m1, .ref m2, .int (nI nh), .ref m3, .ref m4, .int (nI nn), .ref m5, .ref m6, .ref m7, .ref m8, .int re, .int ro, .ref m9, .int tm])), (m1, .inl (cI, 12, .inl ln)), (m2, .inl (cI, 12, .inl bo)), (m3, .inl (cI, 18, .inl bd)), (m4, .inl (cI, 2, .inl en)), (m9, .inl (cI, 100, .inl (upd (upd (upd (upd sh (50 * k) (nI np)) ((50 * k) + 1) (nI nh)) ((50 * k) + 2) (en 0)) ((50 * k) + 3) (en 1))))] H := hP
    have hD : va_D A [(mm, .inr (6, [.int (nI np), .ref m1, .ref m2, .int (nI nh), .ref m3, .ref m4, .int (nI nn), .ref m5, .ref m6, .ref m7, .ref m8, .int re, .int ro, .ref m9, .int tm])), (m1, .inl (cI, 12, .inl ln)), (m2, .inl (cI, 12, .inl bo)), (m3, .inl (cI, 18, .inl bd)), (m4, .inl (cI, 2, .inl en)), (m9, .inl (cI, 100, .inl (upd (upd (upd (upd sh (50 * k) (nI np)) ((50 * k) + 1) (nI nh)) ((50 * k) + 2) (en 0)) ((50 * k) + 3) (en 1))))] := hD
    refine lv_iconst (v := 0) hx hb dX6_keep_76 (by decide) ?_
    refine lv_istore_n (lv' := [(2, .int 0), (0, .ref mm), (1, .int (nI k))]) hx hb dX6_keep_77 rfl hl (by decide) rfl (fun ls hl => ?_)
    have hP : va_P D vwCl [(mm, .inr (6, [.int (nI np), .ref m1, .ref m2, .int (nI nh), .ref m3, .ref m4, .int (nI nn), .ref m5, .ref m6, .ref m7, .ref m8, .int re, .int ro, .ref m9, .int tm])), (m1, .inl (cI, 12, .inl ln)), (m2, .inl (cI, 12, .inl bo)), (m3, .inl (cI, 18, .inl bd)), (m4, .inl (cI, 2, .inl en)), (m9, .inl (cI, 100, .inl (kp1 (kp0 sh k np nh (en 0) (en 1)) k ln bo 0)))] H := by rw [← (show upd (upd (upd (upd sh (50 * k) (nI np)) ((50 * k) + 1) (nI nh)) ((50 * k) + 2) (en 0)) ((50 * k) + 3) (en 1) = kp1 (kp0 sh k np nh (en 0) (en 1)) k ln bo 0 from rfl)]; exact hP
    have hD : va_D A [(mm, .inr (6, [.int (nI np), .ref m1, .ref m2, .int (nI nh), .ref m3, .ref m4, .int (nI nn), .ref m5, .ref m6, .ref m7, .ref m8, .int re, .int ro, .ref m9, .int tm])), (m1, .inl (cI, 12, .inl ln)), (m2, .inl (cI, 12, .inl bo)), (m3, .inl (cI, 18, .inl bd)), (m4, .inl (cI, 2, .inl en)), (m9, .inl (cI, 100, .inl (kp1 (kp0 sh k np nh (en 0) (en 1)) k ln bo 0)))] := va_D_fst hD (by simp only [List.map_cons, List.map_nil])
    have lp_78 : ∀ (r : Nat) (i : Nat), (i + r = 12) → ∀ (H : Heap) (locs : List Loc), va_P D vwCl [(mm, .inr (6, [.int (nI np), .ref m1, .ref m2, .int (nI nh), .ref m3, .ref m4, .int (nI nn), .ref m5, .ref m6, .ref m7, .ref m8, .int re, .int ro, .ref m9, .int tm])), (m1, .inl (cI, 12, .inl ln)), (m2, .inl (cI, 12, .inl bo)), (m3, .inl (cI, 18, .inl bd)), (m4, .inl (cI, 2, .inl en)), (m9, .inl (cI, 100, .inl (kp1 (kp0 sh k np nh (en 0) (en 1)) k ln bo i)))] H → va_D A [(mm, .inr (6, [.int (nI np), .ref m1, .ref m2, .int (nI nh), .ref m3, .ref m4, .int (nI nn), .ref m5, .ref m6, .ref m7, .ref m8, .int re, .int ro, .ref m9, .int tm])), (m1, .inl (cI, 12, .inl ln)), (m2, .inl (cI, 12, .inl bo)), (m3, .inl (cI, 18, .inl bd)), (m4, .inl (cI, 2, .inl en)), (m9, .inl (cI, 100, .inl (kp1 (kp0 sh k np nh (en 0) (en 1)) k ln bo i)))] → va_S A s.heap H locs → ∀ (ls : Array Slot), lv_has ls 3 [(2, .int (nI i)), (0, .ref mm), (1, .int (nI k))] → W p l e rmX6_keep s m a below meth c H locs 0 0 Q (F0 m 78 ls []) := by
      intro r
      induction r with
      | zero =>
        intro i hi H locs hP hD hS ls hl
        have hzz : 12 = i := by omega
        subst hzz
        refine lv_iload_n hx hb dX6_keep_78 rfl (lv_at hl 0 rfl) ?_
        refine lv_bipush (v := 12) hx hb dX6_keep_79 (by decide) ?_
        refine lv_icmp_ge (tgt := 132) hx hb dX6_keep_81 (by decide) (fun c2 => ?_) (fun c2 => absurd ((nI_le (a := 12) (b := 12) (by omega) (by omega))) c2)
        refine lv_iconst (v := 0) hx hb dX6_keep_132 (by decide) ?_
        refine lv_istore_n (lv' := [(2, .int 0), (0, .ref mm), (1, .int (nI k))]) hx hb dX6_keep_133 rfl hl (by decide) rfl (fun ls hl => ?_)
        have hP : va_P D vwCl [(mm, .inr (6, [.int (nI np), .ref m1, .ref m2, .int (nI nh), .ref m3, .ref m4, .int (nI nn), .ref m5, .ref m6, .ref m7, .ref m8, .int re, .int ro, .ref m9, .int tm])), (m1, .inl (cI, 12, .inl ln)), (m2, .inl (cI, 12, .inl bo)), (m3, .inl (cI, 18, .inl bd)), (m4, .inl (cI, 2, .inl en)), (m9, .inl (cI, 100, .inl (kp2 (kp1 (kp0 sh k np nh (en 0) (en 1)) k ln bo 12) k bd 0)))] H := by rw [← (show kp1 (kp0 sh k np nh (en 0) (en 1)) k ln bo 12 = kp2 (kp1 (kp0 sh k np nh (en 0) (en 1)) k ln bo 12) k bd 0 from rfl)]; exact hP
        have hD : va_D A [(mm, .inr (6, [.int (nI np), .ref m1, .ref m2, .int (nI nh), .ref m3, .ref m4, .int (nI nn), .ref m5, .ref m6, .ref m7, .ref m8, .int re, .int ro, .ref m9, .int tm])), (m1, .inl (cI, 12, .inl ln)), (m2, .inl (cI, 12, .inl bo)), (m3, .inl (cI, 18, .inl bd)), (m4, .inl (cI, 2, .inl en)), (m9, .inl (cI, 100, .inl (kp2 (kp1 (kp0 sh k np nh (en 0) (en 1)) k ln bo 12) k bd 0)))] := va_D_fst hD (by simp only [List.map_cons, List.map_nil])
        have lp_134 : ∀ (r2 : Nat) (i2 : Nat), (i2 + r2 = 18) → ∀ (H : Heap) (locs : List Loc), va_P D vwCl [(mm, .inr (6, [.int (nI np), .ref m1, .ref m2, .int (nI nh), .ref m3, .ref m4, .int (nI nn), .ref m5, .ref m6, .ref m7, .ref m8, .int re, .int ro, .ref m9, .int tm])), (m1, .inl (cI, 12, .inl ln)), (m2, .inl (cI, 12, .inl bo)), (m3, .inl (cI, 18, .inl bd)), (m4, .inl (cI, 2, .inl en)), (m9, .inl (cI, 100, .inl (kp2 (kp1 (kp0 sh k np nh (en 0) (en 1)) k ln bo 12) k bd i2)))] H → va_D A [(mm, .inr (6, [.int (nI np), .ref m1, .ref m2, .int (nI nh), .ref m3, .ref m4, .int (nI nn), .ref m5, .ref m6, .ref m7, .ref m8, .int re, .int ro, .ref m9, .int tm])), (m1, .inl (cI, 12, .inl ln)), (m2, .inl (cI, 12, .inl bo)), (m3, .inl (cI, 18, .inl bd)), (m4, .inl (cI, 2, .inl en)), (m9, .inl (cI, 100, .inl (kp2 (kp1 (kp0 sh k np nh (en 0) (en 1)) k ln bo 12) k bd i2)))] → va_S A s.heap H locs → ∀ (ls : Array Slot), lv_has ls 3 [(2, .int (nI i2)), (0, .ref mm), (1, .int (nI k))] → W p l e rmX6_keep s m a below meth c H locs 0 0 Q (F0 m 134 ls []) := by
          intro r2
          induction r2 with
          | zero =>
            intro i2 hi2 H locs hP hD hS ls hl
            have hzz : 18 = i2 := by omega
            subst hzz
            refine lv_iload_n hx hb dX6_keep_134 rfl (lv_at hl 0 rfl) ?_
            refine lv_bipush (v := 18) hx hb dX6_keep_135 (by decide) ?_
            refine lv_icmp_ge (tgt := 166) hx hb dX6_keep_137 (by decide) (fun c3 => ?_) (fun c3 => absurd ((nI_le (a := 18) (b := 18) (by omega) (by omega))) c3)
            refine lv_iconst (v := 1) hx hb dX6_keep_166 (by decide) ?_
            exact ret_WI hQ hx hb hr hlk hAe () (by show va_P D vwCl [(mm, .inr (6, [.int (nI np), .ref m1, .ref m2, .int (nI nh), .ref m3, .ref m4, .int (nI nn), .ref m5, .ref m6, .ref m7, .ref m8, .int re, .int ro, .ref m9, .int tm])), (m1, .inl (cI, 12, .inl ln)), (m2, .inl (cI, 12, .inl bo)), (m3, .inl (cI, 18, .inl bd)), (m4, .inl (cI, 2, .inl en)), (m9, .inl (cI, 100, .inl ((mKeep (nI k) np nh en ln bo bd sh).2)))] H; rw [show (mKeep (nI k) np nh en ln bo bd sh).2 = kp2 (kp1 (kp0 sh k np nh (en 0) (en 1)) k ln bo 12) k bd 18 from (by first | with_reducible rfl | (simp only [mKeep, nI_clamp (show k < 2147483648 from by omega), if_neg c1, if_pos c2, if_pos c3]; done) | (simp [mKeep, nI_clamp (show k < 2147483648 from by omega), if_neg c1, if_pos c2, if_pos c3]; done))]; exact hP) hS (show (mKeep (nI k) np nh en ln bo bd sh).1 = 1 from (by first | with_reducible rfl | (simp only [mKeep, nI_clamp (show k < 2147483648 from by omega), if_neg c1, if_pos c2, if_pos c3]; done) | (simp [mKeep, nI_clamp (show k < 2147483648 from by omega), if_neg c1, if_pos c2, if_pos c3]; done))).symm dX6_keep_167
          | succ r2 ih_134 =>
            intro i2 hi2 H locs hP hD hS ls hl
            refine lv_iload_n hx hb dX6_keep_134 rfl (lv_at hl 0 rfl) ?_
            refine lv_bipush (v := 18) hx hb dX6_keep_135 (by decide) ?_
            refine lv_icmp_ge (tgt := 166) hx hb dX6_keep_137 (by decide) (fun c4 => absurd c4 ((nI_ge (a := i2) (b := 18) (by omega) (by omega)))) (fun c4 => ?_)
            refine lv_aload_n hx hb dX6_keep_140 rfl (lv_at hl 1 rfl) ?_
            refine va_get (D := D) (ci := 6) (v := .ref m9) (C := RX6) (T := TX6) (N := 15) hx hb hts k6 hown hK.1 hP 0 rfl rfl 13 (by decide) (hts (.fieldLink RX6 39 "BoredPipesModel" "shelf" "[I") (List.mem_of_getElem? (i := 1) rfl)) (fun _ h9 => h9) rfl dX6_keep_141 ?_
            refine lv_bipush (v := 50) hx hb dX6_keep_144 (by decide) ?_
            refine lv_iload_n hx hb dX6_keep_146 rfl (lv_at hl 2 rfl) ?_
            refine nn_imul hx hb dX6_keep_147 (x := 50) (y := k) rfl rfl ?_
            refine lv_bipush (v := 28) hx hb dX6_keep_148 (by decide) ?_
            refine nn_iadd hx hb dX6_keep_150 (x := (50 * k)) (y := 28) rfl rfl ?_
            refine lv_iload_n hx hb dX6_keep_151 rfl (lv_at hl 0 rfl) ?_
            refine nn_iadd hx hb dX6_keep_152 (x := ((50 * k) + 28)) (y := i2) rfl rfl ?_
            refine lv_aload_n hx hb dX6_keep_153 rfl (lv_at hl 1 rfl) ?_
            refine va_get (D := D) (ci := 6) (v := .ref m3) (C := RX6) (T := TX6) (N := 15) hx hb hts k6 hown hK.1 hP 0 rfl rfl 4 (by decide) (hts (.fieldLink RX6 16 "BoredPipesModel" "bored" "[I") (List.mem_of_getElem? (i := 7) rfl)) (fun _ h9 => h9) rfl dX6_keep_154 ?_
            refine lv_iload_n hx hb dX6_keep_157 rfl (lv_at hl 0 rfl) ?_
            refine iald_n (k := i2) hx hb hK.1 hP 3 rfl (by omega) (by decide) dX6_keep_158 ?_
            refine iast_n (k := (((50 * k) + 28) + i2)) hx hb hK.1 hP hD hS 5 rfl (by omega) (by decide) dX6_keep_159 (fun H locs hP hD hS => ?_)
            have hP : va_P D vwCl [(mm, .inr (6, [.int (nI np), .ref m1, .ref m2, .int (nI nh), .ref m3, .ref m4, .int (nI nn), .ref m5, .ref m6, .ref m7, .ref m8, .int re, .int ro, .ref m9, .int tm])), (m1, .inl (cI, 12, .inl ln)), (m2, .inl (cI, 12, .inl bo)), (m3, .inl (cI, 18, .inl bd)), (m4, .inl (cI, 2, .inl en)), (m9, .inl (cI, 100, .inl (upd (kp2 (kp1 (kp0 sh k np nh (en 0) (en 1)) k ln bo 12) k bd i2) (((50 * k) + 28) + i2) (bd i2))))] H := hP
            have hD : va_D A [(mm, .inr (6, [.int (nI np), .ref m1, .ref m2, .int (nI nh), .ref m3, .ref m4, .int (nI nn), .ref m5, .ref m6, .ref m7, .ref m8, .int re, .int ro, .ref m9, .int tm])), (m1, .inl (cI, 12, .inl ln)), (m2, .inl (cI, 12, .inl bo)), (m3, .inl (cI, 18, .inl bd)), (m4, .inl (cI, 2, .inl en)), (m9, .inl (cI, 100, .inl (upd (kp2 (kp1 (kp0 sh k np nh (en 0) (en 1)) k ln bo 12) k bd i2) (((50 * k) + 28) + i2) (bd i2))))] := hD
            have hP : va_P D vwCl [(mm, .inr (6, [.int (nI np), .ref m1, .ref m2, .int (nI nh), .ref m3, .ref m4, .int (nI nn), .ref m5, .ref m6, .ref m7, .ref m8, .int re, .int ro, .ref m9, .int tm])), (m1, .inl (cI, 12, .inl ln)), (m2, .inl (cI, 12, .inl bo)), (m3, .inl (cI, 18, .inl bd)), (m4, .inl (cI, 2, .inl en)), (m9, .inl (cI, 100, .inl (kp2 (kp1 (kp0 sh k np nh (en 0) (en 1)) k ln bo 12) k bd (i2 + 1))))] H := by rw [← (show upd (kp2 (kp1 (kp0 sh k np nh (en 0) (en 1)) k ln bo 12) k bd i2) (((50 * k) + 28) + i2) (bd i2) = kp2 (kp1 (kp0 sh k np nh (en 0) (en 1)) k ln bo 12) k bd (i2 + 1) from rfl)]; exact hP
            have hD : va_D A [(mm, .inr (6, [.int (nI np), .ref m1, .ref m2, .int (nI nh), .ref m3, .ref m4, .int (nI nn), .ref m5, .ref m6, .ref m7, .ref m8, .int re, .int ro, .ref m9, .int tm])), (m1, .inl (cI, 12, .inl ln)), (m2, .inl (cI, 12, .inl bo)), (m3, .inl (cI, 18, .inl bd)), (m4, .inl (cI, 2, .inl en)), (m9, .inl (cI, 100, .inl (kp2 (kp1 (kp0 sh k np nh (en 0) (en 1)) k ln bo 12) k bd (i2 + 1))))] := va_D_fst hD (by simp only [List.map_cons, List.map_nil])
            refine lv_iinc (v := nI (i2 + 1)) (lv' := [(2, .int (nI (i2 + 1))), (0, .ref mm), (1, .int (nI k))]) hx hb dX6_keep_160 hl (k := 0) rfl (iinc_1 i2) (by decide) rfl (fun ls hl => ?_)
            refine lv_goto (tgt := 134) hx hb dX6_keep_163 (by decide) ?_
            exact ih_134 (i2 + 1) (by omega) _ _ hP hD hS ls (lv_sub hl [0, 1, 2] rfl)
        exact lp_134 18 0 (by omega) _ _ hP hD hS ls (lv_sub hl [0, 1, 2] rfl)
      | succ r ih_78 =>
        intro i hi H locs hP hD hS ls hl
        refine lv_iload_n hx hb dX6_keep_78 rfl (lv_at hl 0 rfl) ?_
        refine lv_bipush (v := 12) hx hb dX6_keep_79 (by decide) ?_
        refine lv_icmp_ge (tgt := 132) hx hb dX6_keep_81 (by decide) (fun c5 => absurd c5 ((nI_ge (a := i) (b := 12) (by omega) (by omega)))) (fun c5 => ?_)
        refine lv_aload_n hx hb dX6_keep_84 rfl (lv_at hl 1 rfl) ?_
        refine va_get (D := D) (ci := 6) (v := .ref m9) (C := RX6) (T := TX6) (N := 15) hx hb hts k6 hown hK.1 hP 0 rfl rfl 13 (by decide) (hts (.fieldLink RX6 39 "BoredPipesModel" "shelf" "[I") (List.mem_of_getElem? (i := 1) rfl)) (fun _ h9 => h9) rfl dX6_keep_85 ?_
        refine lv_bipush (v := 50) hx hb dX6_keep_88 (by decide) ?_
        refine lv_iload_n hx hb dX6_keep_90 rfl (lv_at hl 2 rfl) ?_
        refine nn_imul hx hb dX6_keep_91 (x := 50) (y := k) rfl rfl ?_
        refine lv_iconst (v := 4) hx hb dX6_keep_92 (by decide) ?_
        refine nn_iadd hx hb dX6_keep_93 (x := (50 * k)) (y := 4) rfl rfl ?_
        refine lv_iconst (v := 2) hx hb dX6_keep_94 (by decide) ?_
        refine lv_iload_n hx hb dX6_keep_95 rfl (lv_at hl 0 rfl) ?_
        refine nn_imul hx hb dX6_keep_96 (x := 2) (y := i) rfl rfl ?_
        refine nn_iadd hx hb dX6_keep_97 (x := ((50 * k) + 4)) (y := (2 * i)) rfl rfl ?_
        refine lv_aload_n hx hb dX6_keep_98 rfl (lv_at hl 1 rfl) ?_
        refine va_get (D := D) (ci := 6) (v := .ref m1) (C := RX6) (T := TX6) (N := 15) hx hb hts k6 hown hK.1 hP 0 rfl rfl 1 (by decide) (hts (.fieldLink RX6 7 "BoredPipesModel" "lengths" "[I") (List.mem_of_getElem? (i := 5) rfl)) (fun _ h9 => h9) rfl dX6_keep_99 ?_
        refine lv_iload_n hx hb dX6_keep_102 rfl (lv_at hl 0 rfl) ?_
        refine iald_n (k := i) hx hb hK.1 hP 1 rfl (by omega) (by decide) dX6_keep_103 ?_
        refine iast_n (k := (((50 * k) + 4) + (2 * i))) hx hb hK.1 hP hD hS 5 rfl (by omega) (by decide) dX6_keep_104 (fun H locs hP hD hS => ?_)
        have hP : va_P D vwCl [(mm, .inr (6, [.int (nI np), .ref m1, .ref m2, .int (nI nh), .ref m3, .ref m4, .int (nI nn), .ref m5, .ref m6, .ref m7, .ref m8, .int re, .int ro, .ref m9, .int tm])), (m1, .inl (cI, 12, .inl ln)), (m2, .inl (cI, 12, .inl bo)), (m3, .inl (cI, 18, .inl bd)), (m4, .inl (cI, 2, .inl en)), (m9, .inl (cI, 100, .inl (upd (kp1 (kp0 sh k np nh (en 0) (en 1)) k ln bo i) (((50 * k) + 4) + (2 * i)) (ln i))))] H := hP
        have hD : va_D A [(mm, .inr (6, [.int (nI np), .ref m1, .ref m2, .int (nI nh), .ref m3, .ref m4, .int (nI nn), .ref m5, .ref m6, .ref m7, .ref m8, .int re, .int ro, .ref m9, .int tm])), (m1, .inl (cI, 12, .inl ln)), (m2, .inl (cI, 12, .inl bo)), (m3, .inl (cI, 18, .inl bd)), (m4, .inl (cI, 2, .inl en)), (m9, .inl (cI, 100, .inl (upd (kp1 (kp0 sh k np nh (en 0) (en 1)) k ln bo i) (((50 * k) + 4) + (2 * i)) (ln i))))] := hD
        refine lv_aload_n hx hb dX6_keep_105 rfl (lv_at hl 1 rfl) ?_
        refine va_get (D := D) (ci := 6) (v := .ref m9) (C := RX6) (T := TX6) (N := 15) hx hb hts k6 hown hK.1 hP 0 rfl rfl 13 (by decide) (hts (.fieldLink RX6 39 "BoredPipesModel" "shelf" "[I") (List.mem_of_getElem? (i := 1) rfl)) (fun _ h9 => h9) rfl dX6_keep_106 ?_
        refine lv_bipush (v := 50) hx hb dX6_keep_109 (by decide) ?_
        refine lv_iload_n hx hb dX6_keep_111 rfl (lv_at hl 2 rfl) ?_
        refine nn_imul hx hb dX6_keep_112 (x := 50) (y := k) rfl rfl ?_
        refine lv_iconst (v := 5) hx hb dX6_keep_113 (by decide) ?_
        refine nn_iadd hx hb dX6_keep_114 (x := (50 * k)) (y := 5) rfl rfl ?_
        refine lv_iconst (v := 2) hx hb dX6_keep_115 (by decide) ?_
        refine lv_iload_n hx hb dX6_keep_116 rfl (lv_at hl 0 rfl) ?_
        refine nn_imul hx hb dX6_keep_117 (x := 2) (y := i) rfl rfl ?_
        refine nn_iadd hx hb dX6_keep_118 (x := ((50 * k) + 5)) (y := (2 * i)) rfl rfl ?_
        refine lv_aload_n hx hb dX6_keep_119 rfl (lv_at hl 1 rfl) ?_
        refine va_get (D := D) (ci := 6) (v := .ref m2) (C := RX6) (T := TX6) (N := 15) hx hb hts k6 hown hK.1 hP 0 rfl rfl 2 (by decide) (hts (.fieldLink RX6 13 "BoredPipesModel" "bores" "[I") (List.mem_of_getElem? (i := 6) rfl)) (fun _ h9 => h9) rfl dX6_keep_120 ?_
        refine lv_iload_n hx hb dX6_keep_123 rfl (lv_at hl 0 rfl) ?_
        refine iald_n (k := i) hx hb hK.1 hP 2 rfl (by omega) (by decide) dX6_keep_124 ?_
        refine iast_n (k := (((50 * k) + 5) + (2 * i))) hx hb hK.1 hP hD hS 5 rfl (by omega) (by decide) dX6_keep_125 (fun H locs hP hD hS => ?_)
        have hP : va_P D vwCl [(mm, .inr (6, [.int (nI np), .ref m1, .ref m2, .int (nI nh), .ref m3, .ref m4, .int (nI nn), .ref m5, .ref m6, .ref m7, .ref m8, .int re, .int ro, .ref m9, .int tm])), (m1, .inl (cI, 12, .inl ln)), (m2, .inl (cI, 12, .inl bo)), (m3, .inl (cI, 18, .inl bd)), (m4, .inl (cI, 2, .inl en)), (m9, .inl (cI, 100, .inl (upd (upd (kp1 (kp0 sh k np nh (en 0) (en 1)) k ln bo i) (((50 * k) + 4) + (2 * i)) (ln i)) (((50 * k) + 5) + (2 * i)) (bo i))))] H := hP
        have hD : va_D A [(mm, .inr (6, [.int (nI np), .ref m1, .ref m2, .int (nI nh), .ref m3, .ref m4, .int (nI nn), .ref m5, .ref m6, .ref m7, .ref m8, .int re, .int ro, .ref m9, .int tm])), (m1, .inl (cI, 12, .inl ln)), (m2, .inl (cI, 12, .inl bo)), (m3, .inl (cI, 18, .inl bd)), (m4, .inl (cI, 2, .inl en)), (m9, .inl (cI, 100, .inl (upd (upd (kp1 (kp0 sh k np nh (en 0) (en 1)) k ln bo i) (((50 * k) + 4) + (2 * i)) (ln i)) (((50 * k) + 5) + (2 * i)) (bo i))))] := hD
        have hP : va_P D vwCl [(mm, .inr (6, [.int (nI np), .ref m1, .ref m2, .int (nI nh), .ref m3, .ref m4, .int (nI nn), .ref m5, .ref m6, .ref m7, .ref m8, .int re, .int ro, .ref m9, .int tm])), (m1, .inl (cI, 12, .inl ln)), (m2, .inl (cI, 12, .inl bo)), (m3, .inl (cI, 18, .inl bd)), (m4, .inl (cI, 2, .inl en)), (m9, .inl (cI, 100, .inl (kp1 (kp0 sh k np nh (en 0) (en 1)) k ln bo (i + 1))))] H := by rw [← (show upd (upd (kp1 (kp0 sh k np nh (en 0) (en 1)) k ln bo i) (((50 * k) + 4) + (2 * i)) (ln i)) (((50 * k) + 5) + (2 * i)) (bo i) = kp1 (kp0 sh k np nh (en 0) (en 1)) k ln bo (i + 1) from rfl)]; exact hP
        have hD : va_D A [(mm, .inr (6, [.int (nI np), .ref m1, .ref m2, .int (nI nh), .ref m3, .ref m4, .int (nI nn), .ref m5, .ref m6, .ref m7, .ref m8, .int re, .int ro, .ref m9, .int tm])), (m1, .inl (cI, 12, .inl ln)), (m2, .inl (cI, 12, .inl bo)), (m3, .inl (cI, 18, .inl bd)), (m4, .inl (cI, 2, .inl en)), (m9, .inl (cI, 100, .inl (kp1 (kp0 sh k np nh (en 0) (en 1)) k ln bo (i + 1))))] := va_D_fst hD (by simp only [List.map_cons, List.map_nil])
        refine lv_iinc (v := nI (i + 1)) (lv' := [(2, .int (nI (i + 1))), (0, .ref mm), (1, .int (nI k))]) hx hb dX6_keep_126 hl (k := 0) rfl (iinc_1 i) (by decide) rfl (fun ls hl => ?_)
        refine lv_goto (tgt := 78) hx hb dX6_keep_129 (by decide) ?_
        exact ih_78 (i + 1) (by omega) _ _ hP hD hS ls (lv_sub hl [0, 1, 2] rfl)
    exact lp_78 12 0 (by omega) _ _ hP hD hS ls (lv_sub hl [0, 1, 2] rfl)
  · skip
    refine lv_sipush (v := (-1001)) hx hb dX6_keep_10 (by decide) ?_
    exact ret_WI hQ hx hb hr hlk hAe () (by show va_P D vwCl [(mm, .inr (6, [.int (nI np), .ref m1, .ref m2, .int (nI nh), .ref m3, .ref m4, .int (nI nn), .ref m5, .ref m6, .ref m7, .ref m8, .int re, .int ro, .ref m9, .int tm])), (m1, .inl (cI, 12, .inl ln)), (m2, .inl (cI, 12, .inl bo)), (m3, .inl (cI, 18, .inl bd)), (m4, .inl (cI, 2, .inl en)), (m9, .inl (cI, 100, .inl ((mKeep x np nh en ln bo bd sh).2)))] H; rw [show (mKeep x np nh en ln bo bd sh).2 = sh from (by first | with_reducible rfl | (simp only [mKeep, if_pos c1]; done) | (simp [mKeep, if_pos c1]; done))]; exact hP) hS (show (mKeep x np nh en ln bo bd sh).1 = (-1001) from (by first | with_reducible rfl | (simp only [mKeep, if_pos c1]; done) | (simp [mKeep, if_pos c1]; done))).symm dX6_keep_13

set_option maxHeartbeats 4000000 in
set_option maxRecDepth 100000 in
theorem c_X6_back (l : Launch) (D : va_G) (cI cZ : ClassId) (mm : Nat) (m1 : Nat) (m2 : Nat) (m3 : Nat) (m4 : Nat) (m5 : Nat) (m6 : Nat) (m7 : Nat) (m8 : Nat) (m9 : Nat) (np : Nat) (nh : Nat) (nn : Nat) (re : Int32) (ro : Int32) (tm : Int32) (ln : Nat → Int32) (bo : Nat → Int32) (bd : Nat → Int32) (en : Nat → Int32) (sh : Nat → Int32) (x : Int32)  : Met l yX6_back wsX6_back rmX6_back (va_Pc [.ref mm, .int x] (PW D cI cZ [(mm, .inr (6, [.int (nI np), .ref m1, .ref m2, .int (nI nh), .ref m3, .ref m4, .int (nI nn), .ref m5, .ref m6, .ref m7, .ref m8, .int re, .int ro, .ref m9, .int tm])), (m1, .inl (cI, 12, .inl ln)), (m2, .inl (cI, 12, .inl bo)), (m3, .inl (cI, 18, .inl bd)), (m4, .inl (cI, 2, .inl en)), (m9, .inl (cI, 100, .inl sh))])) (WI (S := Unit) D (fun zr _ => zr = (mBack x np nh en ln bo bd sh).1) (fun _ => [(mm, .inr (6, [.int ((mBack x np nh en ln bo bd sh).2.1), .ref m1, .ref m2, .int ((mBack x np nh en ln bo bd sh).2.2.1), .ref m3, .ref m4, .int (nI nn), .ref m5, .ref m6, .ref m7, .ref m8, .int re, .int ro, .ref m9, .int tm])), (m1, .inl (cI, 12, .inl ((mBack x np nh en ln bo bd sh).2.2.2.2.1))), (m2, .inl (cI, 12, .inl ((mBack x np nh en ln bo bd sh).2.2.2.2.2.1))), (m3, .inl (cI, 18, .inl ((mBack x np nh en ln bo bd sh).2.2.2.2.2.2))), (m4, .inl (cI, 2, .inl ((mBack x np nh en ln bo bd sh).2.2.2.1))), (m9, .inl (cI, 100, .inl sh))]) [(mm, .inr (6, [.int (nI np), .ref m1, .ref m2, .int (nI nh), .ref m3, .ref m4, .int (nI nn), .ref m5, .ref m6, .ref m7, .ref m8, .int re, .int ro, .ref m9, .int tm])), (m1, .inl (cI, 12, .inl ln)), (m2, .inl (cI, 12, .inl bo)), (m3, .inl (cI, 18, .inl bd)), (m4, .inl (cI, 2, .inl en)), (m9, .inl (cI, 100, .inl sh))]) 0 0 (ad [(mm, .inr (6, [.int (nI np), .ref m1, .ref m2, .int (nI nh), .ref m3, .ref m4, .int (nI nn), .ref m5, .ref m6, .ref m7, .ref m8, .int re, .int ro, .ref m9, .int tm])), (m1, .inl (cI, 12, .inl ln)), (m2, .inl (cI, 12, .inl bo)), (m3, .inl (cI, 18, .inl bd)), (m4, .inl (cI, 2, .inl en)), (m9, .inl (cI, 100, .inl sh))]) := by
  refine met_go (cc := cX6_back) (maxL := 3) (ret := (some .int)) (by decide) rfl ?_ (Nat.le_of_ble_eq_true rfl)
  intro p e s m a below meth c Q hQ _ hx hb hr hml hts hown hlk hnm hpre ls hl
  have hown : s.vm.findClass RX6 = some m.cls := hown
  obtain ⟨hP, hK, hD0⟩ := hpre
  have hN := hK.2
  obtain ⟨A, hAe⟩ : ∃ A : Nat → Prop, A = ad [(mm, .inr (6, [.int (nI np), .ref m1, .ref m2, .int (nI nh), .ref m3, .ref m4, .int (nI nn), .ref m5, .ref m6, .ref m7, .ref m8, .int re, .int ro, .ref m9, .int tm])), (m1, .inl (cI, 12, .inl ln)), (m2, .inl (cI, 12, .inl bo)), (m3, .inl (cI, 18, .inl bd)), (m4, .inl (cI, 2, .inl en)), (m9, .inl (cI, 100, .inl sh))] := ⟨_, rfl⟩
  have hD : va_D A [(mm, .inr (6, [.int (nI np), .ref m1, .ref m2, .int (nI nh), .ref m3, .ref m4, .int (nI nn), .ref m5, .ref m6, .ref m7, .ref m8, .int re, .int ro, .ref m9, .int tm])), (m1, .inl (cI, 12, .inl ln)), (m2, .inl (cI, 12, .inl bo)), (m3, .inl (cI, 18, .inl bd)), (m4, .inl (cI, 2, .inl en)), (m9, .inl (cI, 100, .inl sh))] := by rw [hAe]; exact hD0.ad
  have hS : va_S A s.heap s.heap [] := va_S.rf
  have hl : lv_has ls 3 [(0, .ref mm), (1, .int x)] := hl
  have k6 : ∀ w ∈ wsX60, w ∈ wsX6_back := fun w h => List.mem_cons_of_mem _ (List.mem_append_right _ h)
  refine lv_iload_n hx hb dX6_back_0 rfl (lv_at hl 1 rfl) ?_
  refine lv_i2l hx hb dX6_back_1 rfl ?_
  refine lv_lconst (v := 0) hx hb dX6_back_2 (by decide) ?_
  refine lv_lconst (v := 1) hx hb dX6_back_3 (by decide) ?_
  refine rd_i (va_runS (As := [.long x.toInt64, .long 0, .long 1]) (rest := []) ⟨hx, hb, hml, hown, hts⟩ (c_X6_in l D cI cZ x.toInt64 0 1) (va_cwS 3 hts gX6_back_X6_in rfl rfl rfl hdV_X6_in.2 ⟨Nat.le_of_ble_eq_true rfl, Nat.le_of_ble_eq_true rfl⟩) (PR.S (hP.sub [] rfl) hK) rfl rfl hl.1 rfl (lv_room (Nat.le_of_ble_eq_true rfl)) dX6_back_4 ⟨Nat.le_of_ble_eq_true rfl, Nat.le_of_ble_eq_true rfl⟩) hP hS (fun H locs hP hS => ?_)
  refine lv_if_ne (tgt := 14) hx hb dX6_back_7 (by decide) (fun c1 => ?_) (fun c1 => ?_)
  · skip
    obtain ⟨k, -, hk, rfl⟩ := fInL_rng (a := 0) (b := 1) c1 (by decide) (by decide)
    refine lv_aload_n hx hb dX6_back_14 rfl (lv_at hl 0 rfl) ?_
    refine va_get (D := D) (ci := 6) (v := .ref m9) (C := RX6) (T := TX6) (N := 15) hx hb hts k6 hown hK.1 hP 0 rfl rfl 13 (by decide) (hts (.fieldLink RX6 39 "BoredPipesModel" "shelf" "[I") (List.mem_of_getElem? (i := 1) rfl)) (fun _ h9 => h9) rfl dX6_back_15 ?_
    refine lv_bipush (v := 50) hx hb dX6_back_18 (by decide) ?_
    refine lv_iload_n hx hb dX6_back_20 rfl (lv_at hl 1 rfl) ?_
    refine nn_imul hx hb dX6_back_21 (x := 50) (y := k) rfl rfl ?_
    refine iald_n (k := (50 * k)) hx hb hK.1 hP 5 rfl (by omega) (by decide) dX6_back_22 ?_
    refine lv_if_ge (tgt := 30) hx hb dX6_back_23 (by decide) (fun c2 => ?_) (fun c2 => ?_)
    · skip
      refine lv_aload_n hx hb dX6_back_30 rfl (lv_at hl 0 rfl) ?_
      refine lv_aload_n hx hb dX6_back_31 rfl (lv_at hl 0 rfl) ?_
      refine va_get (D := D) (ci := 6) (v := .ref m9) (C := RX6) (T := TX6) (N := 15) hx hb hts k6 hown hK.1 hP 0 rfl rfl 13 (by decide) (hts (.fieldLink RX6 39 "BoredPipesModel" "shelf" "[I") (List.mem_of_getElem? (i := 1) rfl)) (fun _ h9 => h9) rfl dX6_back_32 ?_
      refine lv_bipush (v := 50) hx hb dX6_back_35 (by decide) ?_
      refine lv_iload_n hx hb dX6_back_37 rfl (lv_at hl 1 rfl) ?_
      refine nn_imul hx hb dX6_back_38 (x := 50) (y := k) rfl rfl ?_
      refine iald_n (k := (50 * k)) hx hb hK.1 hP 5 rfl (by omega) (by decide) dX6_back_39 ?_
      refine va_put (D := D) (ci := 6) (v := .int (sh (50 * k))) (ty := .int) (C := RX6) (T := TX6) (N := 15) hx hb hts k6 tyX6 tyX6_ok nmX6 hown hK.1 hP hD hS 0 rfl rfl 0 (by decide) (hts (.fieldLink RX6 42 "BoredPipesModel" "pieces" "I") (List.mem_of_getElem? (i := 2) rfl)) (fun _ h9 => h9) rfl (tyX6_ok 0 (by decide)) rfl rfl (Nat.le_of_ble_eq_true rfl) dX6_back_40 (fun H locs hP hD hS => ?_)
      have hP : va_P D vwCl [(mm, .inr (6, [.int (sh (50 * k)), .ref m1, .ref m2, .int (nI nh), .ref m3, .ref m4, .int (nI nn), .ref m5, .ref m6, .ref m7, .ref m8, .int re, .int ro, .ref m9, .int tm])), (m1, .inl (cI, 12, .inl ln)), (m2, .inl (cI, 12, .inl bo)), (m3, .inl (cI, 18, .inl bd)), (m4, .inl (cI, 2, .inl en)), (m9, .inl (cI, 100, .inl sh))] H := hP
      have hD : va_D A [(mm, .inr (6, [.int (sh (50 * k)), .ref m1, .ref m2, .int (nI nh), .ref m3, .ref m4, .int (nI nn), .ref m5, .ref m6, .ref m7, .ref m8, .int re, .int ro, .ref m9, .int tm])), (m1, .inl (cI, 12, .inl ln)), (m2, .inl (cI, 12, .inl bo)), (m3, .inl (cI, 18, .inl bd)), (m4, .inl (cI, 2, .inl en)), (m9, .inl (cI, 100, .inl sh))] := hD
      refine lv_aload_n hx hb dX6_back_43 rfl (lv_at hl 0 rfl) ?_
      refine lv_aload_n hx hb dX6_back_44 rfl (lv_at hl 0 rfl) ?_
      refine va_get (D := D) (ci := 6) (v := .ref m9) (C := RX6) (T := TX6) (N := 15) hx hb hts k6 hown hK.1 hP 0 rfl rfl 13 (by decide) (hts (.fieldLink RX6 39 "BoredPipesModel" "shelf" "[I") (List.mem_of_getElem? (i := 1) rfl)) (fun _ h9 => h9) rfl dX6_back_45 ?_
      refine lv_bipush (v := 50) hx hb dX6_back_48 (by decide) ?_
      refine lv_iload_n hx hb dX6_back_50 rfl (lv_at hl 1 rfl) ?_
      refine nn_imul hx hb dX6_back_51 (x := 50) (y := k) rfl rfl ?_
      refine lv_iconst (v := 1) hx hb dX6_back_52 (by decide) ?_
      refine nn_iadd hx hb dX6_back_53 (x := (50 * k)) (y := 1) rfl rfl ?_
      refine iald_n (k := ((50 * k) + 1)) hx hb hK.1 hP 5 rfl (by omega) (by decide) dX6_back_54 ?_
      refine va_put (D := D) (ci := 6) (v := .int (sh ((50 * k) + 1))) (ty := .int) (C := RX6) (T := TX6) (N := 15) hx hb hts k6 tyX6 tyX6_ok nmX6 hown hK.1 hP hD hS 0 rfl rfl 3 (by decide) (hts (.fieldLink RX6 67 "BoredPipesModel" "holes" "I") (List.mem_of_getElem? (i := 3) rfl)) (fun _ h9 => h9) rfl (tyX6_ok 3 (by decide)) rfl rfl (Nat.le_of_ble_eq_true rfl) dX6_back_55 (fun H locs hP hD hS => ?_)
      have hP : va_P D vwCl [(mm, .inr (6, [.int (sh (50 * k)), .ref m1, .ref m2, .int (sh ((50 * k) + 1)), .ref m3, .ref m4, .int (nI nn), .ref m5, .ref m6, .ref m7, .ref m8, .int re, .int ro, .ref m9, .int tm])), (m1, .inl (cI, 12, .inl ln)), (m2, .inl (cI, 12, .inl bo)), (m3, .inl (cI, 18, .inl bd)), (m4, .inl (cI, 2, .inl en)), (m9, .inl (cI, 100, .inl sh))] H := hP
      have hD : va_D A [(mm, .inr (6, [.int (sh (50 * k)), .ref m1, .ref m2, .int (sh ((50 * k) + 1)), .ref m3, .ref m4, .int (nI nn), .ref m5, .ref m6, .ref m7, .ref m8, .int re, .int ro, .ref m9, .int tm])), (m1, .inl (cI, 12, .inl ln)), (m2, .inl (cI, 12, .inl bo)), (m3, .inl (cI, 18, .inl bd)), (m4, .inl (cI, 2, .inl en)), (m9, .inl (cI, 100, .inl sh))] := hD
      refine lv_aload_n hx hb dX6_back_58 rfl (lv_at hl 0 rfl) ?_
      refine va_get (D := D) (ci := 6) (v := .ref m4) (C := RX6) (T := TX6) (N := 15) hx hb hts k6 hown hK.1 hP 0 rfl rfl 5 (by decide) (hts (.fieldLink RX6 19 "BoredPipesModel" "ends" "[I") (List.mem_of_getElem? (i := 4) rfl)) (fun _ h9 => h9) rfl dX6_back_59 ?_
      refine lv_iconst (v := 0) hx hb dX6_back_62 (by decide) ?_
      refine lv_aload_n hx hb dX6_back_63 rfl (lv_at hl 0 rfl) ?_
      refine va_get (D := D) (ci := 6) (v := .ref m9) (C := RX6) (T := TX6) (N := 15) hx hb hts k6 hown hK.1 hP 0 rfl rfl 13 (by decide) (hts (.fieldLink RX6 39 "BoredPipesModel" "shelf" "[I") (List.mem_of_getElem? (i := 1) rfl)) (fun _ h9 => h9) rfl dX6_back_64 ?_
      refine lv_bipush (v := 50) hx hb dX6_back_67 (by decide) ?_
      refine lv_iload_n hx hb dX6_back_69 rfl (lv_at hl 1 rfl) ?_
      refine nn_imul hx hb dX6_back_70 (x := 50) (y := k) rfl rfl ?_
      refine lv_iconst (v := 2) hx hb dX6_back_71 (by decide) ?_
      refine nn_iadd hx hb dX6_back_72 (x := (50 * k)) (y := 2) rfl rfl ?_
      refine iald_n (k := ((50 * k) + 2)) hx hb hK.1 hP 5 rfl (by omega) (by decide) dX6_back_73 ?_
      refine iast_n (k := 0) hx hb hK.1 hP hD hS 4 rfl (by omega) (by decide) dX6_back_74 (fun H locs hP hD hS => ?_)
      have hP : va_P D vwCl [(mm, .inr (6, [.int (sh (50 * k)), .ref m1, .ref m2, .int (sh ((50 * k) + 1)), .ref m3, .ref m4, .int (nI nn), .ref m5, .ref m6, .ref m7, .ref m8, .int re, .int ro, .ref m9, .int tm])), (m1, .inl (cI, 12, .inl ln)), (m2, .inl (cI, 12, .inl bo)), (m3, .inl (cI, 18, .inl bd)), (m4, .inl (cI, 2, .inl (upd en 0 (sh ((50 * k) + 2))))), (m9, .inl (cI, 100, .inl sh))] H := hP
      have hD : va_D A [(mm, .inr (6, [.int (sh (50 * k)), .ref m1, .ref m2, .int (sh ((50 * k) + 1)), .ref m3, .ref m4, .int (nI nn), .ref m5, .ref m6, .ref m7, .ref m8, .int re, .int ro, .ref m9, .int tm])), (m1, .inl (cI, 12, .inl ln)), (m2, .inl (cI, 12, .inl bo)), (m3, .inl (cI, 18, .inl bd)), (m4, .inl (cI, 2, .inl (upd en 0 (sh ((50 * k) + 2))))), (m9, .inl (cI, 100, .inl sh))] := hD
      refine lv_aload_n hx hb dX6_back_75 rfl (lv_at hl 0 rfl) ?_
      refine va_get (D := D) (ci := 6) (v := .ref m4) (C := RX6) (T := TX6) (N := 15) hx hb hts k6 hown hK.1 hP 0 rfl rfl 5 (by decide) (hts (.fieldLink RX6 19 "BoredPipesModel" "ends" "[I") (List.mem_of_getElem? (i := 4) rfl)) (fun _ h9 => h9) rfl dX6_back_76 ?_
      refine lv_iconst (v := 1) hx hb dX6_back_79 (by decide) ?_
      refine lv_aload_n hx hb dX6_back_80 rfl (lv_at hl 0 rfl) ?_
      refine va_get (D := D) (ci := 6) (v := .ref m9) (C := RX6) (T := TX6) (N := 15) hx hb hts k6 hown hK.1 hP 0 rfl rfl 13 (by decide) (hts (.fieldLink RX6 39 "BoredPipesModel" "shelf" "[I") (List.mem_of_getElem? (i := 1) rfl)) (fun _ h9 => h9) rfl dX6_back_81 ?_
      refine lv_bipush (v := 50) hx hb dX6_back_84 (by decide) ?_
      refine lv_iload_n hx hb dX6_back_86 rfl (lv_at hl 1 rfl) ?_
      refine nn_imul hx hb dX6_back_87 (x := 50) (y := k) rfl rfl ?_
      refine lv_iconst (v := 3) hx hb dX6_back_88 (by decide) ?_
      refine nn_iadd hx hb dX6_back_89 (x := (50 * k)) (y := 3) rfl rfl ?_
      refine iald_n (k := ((50 * k) + 3)) hx hb hK.1 hP 5 rfl (by omega) (by decide) dX6_back_90 ?_
      refine iast_n (k := 1) hx hb hK.1 hP hD hS 4 rfl (by omega) (by decide) dX6_back_91 (fun H locs hP hD hS => ?_)
      have hP : va_P D vwCl [(mm, .inr (6, [.int (sh (50 * k)), .ref m1, .ref m2, .int (sh ((50 * k) + 1)), .ref m3, .ref m4, .int (nI nn), .ref m5, .ref m6, .ref m7, .ref m8, .int re, .int ro, .ref m9, .int tm])), (m1, .inl (cI, 12, .inl ln)), (m2, .inl (cI, 12, .inl bo)), (m3, .inl (cI, 18, .inl bd)), (m4, .inl (cI, 2, .inl (upd (upd en 0 (sh ((50 * k) + 2))) 1 (sh ((50 * k) + 3))))), (m9, .inl (cI, 100, .inl sh))] H := hP
      have hD : va_D A [(mm, .inr (6, [.int (sh (50 * k)), .ref m1, .ref m2, .int (sh ((50 * k) + 1)), .ref m3, .ref m4, .int (nI nn), .ref m5, .ref m6, .ref m7, .ref m8, .int re, .int ro, .ref m9, .int tm])), (m1, .inl (cI, 12, .inl ln)), (m2, .inl (cI, 12, .inl bo)), (m3, .inl (cI, 18, .inl bd)), (m4, .inl (cI, 2, .inl (upd (upd en 0 (sh ((50 * k) + 2))) 1 (sh ((50 * k) + 3))))), (m9, .inl (cI, 100, .inl sh))] := hD
      refine lv_iconst (v := 0) hx hb dX6_back_92 (by decide) ?_
      refine lv_istore_n (lv' := [(2, .int 0), (0, .ref mm), (1, .int (nI k))]) hx hb dX6_back_93 rfl hl (by decide) rfl (fun ls hl => ?_)
      have hP : va_P D vwCl [(mm, .inr (6, [.int (sh (50 * k)), .ref m1, .ref m2, .int (sh ((50 * k) + 1)), .ref m3, .ref m4, .int (nI nn), .ref m5, .ref m6, .ref m7, .ref m8, .int re, .int ro, .ref m9, .int tm])), (m1, .inl (cI, 12, .inl (bkL sh k ln 0))), (m2, .inl (cI, 12, .inl bo)), (m3, .inl (cI, 18, .inl bd)), (m4, .inl (cI, 2, .inl (upd (upd en 0 (sh ((50 * k) + 2))) 1 (sh ((50 * k) + 3))))), (m9, .inl (cI, 100, .inl sh))] H := by rw [← (show ln = bkL sh k ln 0 from rfl)]; exact hP
      have hD : va_D A [(mm, .inr (6, [.int (sh (50 * k)), .ref m1, .ref m2, .int (sh ((50 * k) + 1)), .ref m3, .ref m4, .int (nI nn), .ref m5, .ref m6, .ref m7, .ref m8, .int re, .int ro, .ref m9, .int tm])), (m1, .inl (cI, 12, .inl (bkL sh k ln 0))), (m2, .inl (cI, 12, .inl bo)), (m3, .inl (cI, 18, .inl bd)), (m4, .inl (cI, 2, .inl (upd (upd en 0 (sh ((50 * k) + 2))) 1 (sh ((50 * k) + 3))))), (m9, .inl (cI, 100, .inl sh))] := va_D_fst hD (by simp only [List.map_cons, List.map_nil])
      have hP : va_P D vwCl [(mm, .inr (6, [.int (sh (50 * k)), .ref m1, .ref m2, .int (sh ((50 * k) + 1)), .ref m3, .ref m4, .int (nI nn), .ref m5, .ref m6, .ref m7, .ref m8, .int re, .int ro, .ref m9, .int tm])), (m1, .inl (cI, 12, .inl (bkL sh k ln 0))), (m2, .inl (cI, 12, .inl (bkB sh k bo 0))), (m3, .inl (cI, 18, .inl bd)), (m4, .inl (cI, 2, .inl (upd (upd en 0 (sh ((50 * k) + 2))) 1 (sh ((50 * k) + 3))))), (m9, .inl (cI, 100, .inl sh))] H := by rw [← (show bo = bkB sh k bo 0 from rfl)]; exact hP
      have hD : va_D A [(mm, .inr (6, [.int (sh (50 * k)), .ref m1, .ref m2, .int (sh ((50 * k) + 1)), .ref m3, .ref m4, .int (nI nn), .ref m5, .ref m6, .ref m7, .ref m8, .int re, .int ro, .ref m9, .int tm])), (m1, .inl (cI, 12, .inl (bkL sh k ln 0))), (m2, .inl (cI, 12, .inl (bkB sh k bo 0))), (m3, .inl (cI, 18, .inl bd)), (m4, .inl (cI, 2, .inl (upd (upd en 0 (sh ((50 * k) + 2))) 1 (sh ((50 * k) + 3))))), (m9, .inl (cI, 100, .inl sh))] := va_D_fst hD (by simp only [List.map_cons, List.map_nil])
      have lp_94 : ∀ (r : Nat) (i : Nat), (i + r = 12) → ∀ (H : Heap) (locs : List Loc), va_P D vwCl [(mm, .inr (6, [.int (sh (50 * k)), .ref m1, .ref m2, .int (sh ((50 * k) + 1)), .ref m3, .ref m4, .int (nI nn), .ref m5, .ref m6, .ref m7, .ref m8, .int re, .int ro, .ref m9, .int tm])), (m1, .inl (cI, 12, .inl (bkL sh k ln i))), (m2, .inl (cI, 12, .inl (bkB sh k bo i))), (m3, .inl (cI, 18, .inl bd)), (m4, .inl (cI, 2, .inl (upd (upd en 0 (sh ((50 * k) + 2))) 1 (sh ((50 * k) + 3))))), (m9, .inl (cI, 100, .inl sh))] H → va_D A [(mm, .inr (6, [.int (sh (50 * k)), .ref m1, .ref m2, .int (sh ((50 * k) + 1)), .ref m3, .ref m4, .int (nI nn), .ref m5, .ref m6, .ref m7, .ref m8, .int re, .int ro, .ref m9, .int tm])), (m1, .inl (cI, 12, .inl (bkL sh k ln i))), (m2, .inl (cI, 12, .inl (bkB sh k bo i))), (m3, .inl (cI, 18, .inl bd)), (m4, .inl (cI, 2, .inl (upd (upd en 0 (sh ((50 * k) + 2))) 1 (sh ((50 * k) + 3))))), (m9, .inl (cI, 100, .inl sh))] → va_S A s.heap H locs → ∀ (ls : Array Slot), lv_has ls 3 [(2, .int (nI i)), (0, .ref mm), (1, .int (nI k))] → W p l e rmX6_back s m a below meth c H locs 0 0 Q (F0 m 94 ls []) := by
        intro r
        induction r with
        | zero =>
          intro i hi H locs hP hD hS ls hl
          have hzz : 12 = i := by omega
          subst hzz
          refine lv_iload_n hx hb dX6_back_94 rfl (lv_at hl 0 rfl) ?_
          refine lv_bipush (v := 12) hx hb dX6_back_95 (by decide) ?_
          refine lv_icmp_ge (tgt := 148) hx hb dX6_back_97 (by decide) (fun c3 => ?_) (fun c3 => absurd ((nI_le (a := 12) (b := 12) (by omega) (by omega))) c3)
          refine lv_iconst (v := 0) hx hb dX6_back_148 (by decide) ?_
          refine lv_istore_n (lv' := [(2, .int 0), (0, .ref mm), (1, .int (nI k))]) hx hb dX6_back_149 rfl hl (by decide) rfl (fun ls hl => ?_)
          have hP : va_P D vwCl [(mm, .inr (6, [.int (sh (50 * k)), .ref m1, .ref m2, .int (sh ((50 * k) + 1)), .ref m3, .ref m4, .int (nI nn), .ref m5, .ref m6, .ref m7, .ref m8, .int re, .int ro, .ref m9, .int tm])), (m1, .inl (cI, 12, .inl (bkL sh k ln 12))), (m2, .inl (cI, 12, .inl (bkB sh k bo 12))), (m3, .inl (cI, 18, .inl (bkD sh k bd 0))), (m4, .inl (cI, 2, .inl (upd (upd en 0 (sh ((50 * k) + 2))) 1 (sh ((50 * k) + 3))))), (m9, .inl (cI, 100, .inl sh))] H := by rw [← (show bd = bkD sh k bd 0 from rfl)]; exact hP
          have hD : va_D A [(mm, .inr (6, [.int (sh (50 * k)), .ref m1, .ref m2, .int (sh ((50 * k) + 1)), .ref m3, .ref m4, .int (nI nn), .ref m5, .ref m6, .ref m7, .ref m8, .int re, .int ro, .ref m9, .int tm])), (m1, .inl (cI, 12, .inl (bkL sh k ln 12))), (m2, .inl (cI, 12, .inl (bkB sh k bo 12))), (m3, .inl (cI, 18, .inl (bkD sh k bd 0))), (m4, .inl (cI, 2, .inl (upd (upd en 0 (sh ((50 * k) + 2))) 1 (sh ((50 * k) + 3))))), (m9, .inl (cI, 100, .inl sh))] := va_D_fst hD (by simp only [List.map_cons, List.map_nil])
          have lp_150 : ∀ (r2 : Nat) (i2 : Nat), (i2 + r2 = 18) → ∀ (H : Heap) (locs : List Loc), va_P D vwCl [(mm, .inr (6, [.int (sh (50 * k)), .ref m1, .ref m2, .int (sh ((50 * k) + 1)), .ref m3, .ref m4, .int (nI nn), .ref m5, .ref m6, .ref m7, .ref m8, .int re, .int ro, .ref m9, .int tm])), (m1, .inl (cI, 12, .inl (bkL sh k ln 12))), (m2, .inl (cI, 12, .inl (bkB sh k bo 12))), (m3, .inl (cI, 18, .inl (bkD sh k bd i2))), (m4, .inl (cI, 2, .inl (upd (upd en 0 (sh ((50 * k) + 2))) 1 (sh ((50 * k) + 3))))), (m9, .inl (cI, 100, .inl sh))] H → va_D A [(mm, .inr (6, [.int (sh (50 * k)), .ref m1, .ref m2, .int (sh ((50 * k) + 1)), .ref m3, .ref m4, .int (nI nn), .ref m5, .ref m6, .ref m7, .ref m8, .int re, .int ro, .ref m9, .int tm])), (m1, .inl (cI, 12, .inl (bkL sh k ln 12))), (m2, .inl (cI, 12, .inl (bkB sh k bo 12))), (m3, .inl (cI, 18, .inl (bkD sh k bd i2))), (m4, .inl (cI, 2, .inl (upd (upd en 0 (sh ((50 * k) + 2))) 1 (sh ((50 * k) + 3))))), (m9, .inl (cI, 100, .inl sh))] → va_S A s.heap H locs → ∀ (ls : Array Slot), lv_has ls 3 [(2, .int (nI i2)), (0, .ref mm), (1, .int (nI k))] → W p l e rmX6_back s m a below meth c H locs 0 0 Q (F0 m 150 ls []) := by
            intro r2
            induction r2 with
            | zero =>
              intro i2 hi2 H locs hP hD hS ls hl
              have hzz : 18 = i2 := by omega
              subst hzz
              refine lv_iload_n hx hb dX6_back_150 rfl (lv_at hl 0 rfl) ?_
              refine lv_bipush (v := 18) hx hb dX6_back_151 (by decide) ?_
              refine lv_icmp_ge (tgt := 182) hx hb dX6_back_153 (by decide) (fun c4 => ?_) (fun c4 => absurd ((nI_le (a := 18) (b := 18) (by omega) (by omega))) c4)
              refine lv_iconst (v := 1) hx hb dX6_back_182 (by decide) ?_
              exact ret_WI hQ hx hb hr hlk hAe () (by show va_P D vwCl [(mm, .inr (6, [.int ((mBack (nI k) np nh en ln bo bd sh).2.1), .ref m1, .ref m2, .int ((mBack (nI k) np nh en ln bo bd sh).2.2.1), .ref m3, .ref m4, .int (nI nn), .ref m5, .ref m6, .ref m7, .ref m8, .int re, .int ro, .ref m9, .int tm])), (m1, .inl (cI, 12, .inl ((mBack (nI k) np nh en ln bo bd sh).2.2.2.2.1))), (m2, .inl (cI, 12, .inl ((mBack (nI k) np nh en ln bo bd sh).2.2.2.2.2.1))), (m3, .inl (cI, 18, .inl ((mBack (nI k) np nh en ln bo bd sh).2.2.2.2.2.2))), (m4, .inl (cI, 2, .inl ((mBack (nI k) np nh en ln bo bd sh).2.2.2.1))), (m9, .inl (cI, 100, .inl sh))] H; rw [show (mBack (nI k) np nh en ln bo bd sh).2.1 = sh (50 * k) from (by first | with_reducible rfl | (simp only [mBack, nI_clamp (show k < 2147483648 from by omega), if_neg c1, if_pos c2, if_pos c3, if_pos c4]; done) | (simp [mBack, nI_clamp (show k < 2147483648 from by omega), if_neg c1, if_pos c2, if_pos c3, if_pos c4]; done)), show (mBack (nI k) np nh en ln bo bd sh).2.2.1 = sh ((50 * k) + 1) from (by first | with_reducible rfl | (simp only [mBack, nI_clamp (show k < 2147483648 from by omega), if_neg c1, if_pos c2, if_pos c3, if_pos c4]; done) | (simp [mBack, nI_clamp (show k < 2147483648 from by omega), if_neg c1, if_pos c2, if_pos c3, if_pos c4]; done)), show (mBack (nI k) np nh en ln bo bd sh).2.2.2.2.1 = bkL sh k ln 12 from (by first | with_reducible rfl | (simp only [mBack, nI_clamp (show k < 2147483648 from by omega), if_neg c1, if_pos c2, if_pos c3, if_pos c4]; done) | (simp [mBack, nI_clamp (show k < 2147483648 from by omega), if_neg c1, if_pos c2, if_pos c3, if_pos c4]; done)), show (mBack (nI k) np nh en ln bo bd sh).2.2.2.2.2.1 = bkB sh k bo 12 from (by first | with_reducible rfl | (simp only [mBack, nI_clamp (show k < 2147483648 from by omega), if_neg c1, if_pos c2, if_pos c3, if_pos c4]; done) | (simp [mBack, nI_clamp (show k < 2147483648 from by omega), if_neg c1, if_pos c2, if_pos c3, if_pos c4]; done)), show (mBack (nI k) np nh en ln bo bd sh).2.2.2.2.2.2 = bkD sh k bd 18 from (by first | with_reducible rfl | (simp only [mBack, nI_clamp (show k < 2147483648 from by omega), if_neg c1, if_pos c2, if_pos c3, if_pos c4]; done) | (simp [mBack, nI_clamp (show k < 2147483648 from by omega), if_neg c1, if_pos c2, if_pos c3, if_pos c4]; done)), show (mBack (nI k) np nh en ln bo bd sh).2.2.2.1 = upd (upd en 0 (sh ((50 * k) + 2))) 1 (sh ((50 * k) + 3)) from (by first | with_reducible rfl | (simp only [mBack, nI_clamp (show k < 2147483648 from by omega), if_neg c1, if_pos c2, if_pos c3, if_pos c4]; done) | (simp [mBack, nI_clamp (show k < 2147483648 from by omega), if_neg c1, if_pos c2, if_pos c3, if_pos c4]; done))]; exact hP) hS (show (mBack (nI k) np nh en ln bo bd sh).1 = 1 from (by first | with_reducible rfl | (simp only [mBack, nI_clamp (show k < 2147483648 from by omega), if_neg c1, if_pos c2, if_pos c3, if_pos c4]; done) | (simp [mBack, nI_clamp (show k < 2147483648 from by omega), if_neg c1, if_pos c2, if_pos c3, if_pos c4]; done))).symm dX6_back_183
            | succ r2 ih_150 =>
              intro i2 hi2 H locs hP hD hS ls hl
              refine lv_iload_n hx hb dX6_back_150 rfl (lv_at hl 0 rfl) ?_
              refine lv_bipush (v := 18) hx hb dX6_back_151 (by decide) ?_
              refine lv_icmp_ge (tgt := 182) hx hb dX6_back_153 (by decide) (fun c5 => absurd c5 ((nI_ge (a := i2) (b := 18) (by omega) (by omega)))) (fun c5 => ?_)
              refine lv_aload_n hx hb dX6_back_156 rfl (lv_at hl 1 rfl) ?_
              refine va_get (D := D) (ci := 6) (v := .ref m3) (C := RX6) (T := TX6) (N := 15) hx hb hts k6 hown hK.1 hP 0 rfl rfl 4 (by decide) (hts (.fieldLink RX6 16 "BoredPipesModel" "bored" "[I") (List.mem_of_getElem? (i := 7) rfl)) (fun _ h9 => h9) rfl dX6_back_157 ?_
              refine lv_iload_n hx hb dX6_back_160 rfl (lv_at hl 0 rfl) ?_
              refine lv_aload_n hx hb dX6_back_161 rfl (lv_at hl 1 rfl) ?_
              refine va_get (D := D) (ci := 6) (v := .ref m9) (C := RX6) (T := TX6) (N := 15) hx hb hts k6 hown hK.1 hP 0 rfl rfl 13 (by decide) (hts (.fieldLink RX6 39 "BoredPipesModel" "shelf" "[I") (List.mem_of_getElem? (i := 1) rfl)) (fun _ h9 => h9) rfl dX6_back_162 ?_
              refine lv_bipush (v := 50) hx hb dX6_back_165 (by decide) ?_
              refine lv_iload_n hx hb dX6_back_167 rfl (lv_at hl 2 rfl) ?_
              refine nn_imul hx hb dX6_back_168 (x := 50) (y := k) rfl rfl ?_
              refine lv_bipush (v := 28) hx hb dX6_back_169 (by decide) ?_
              refine nn_iadd hx hb dX6_back_171 (x := (50 * k)) (y := 28) rfl rfl ?_
              refine lv_iload_n hx hb dX6_back_172 rfl (lv_at hl 0 rfl) ?_
              refine nn_iadd hx hb dX6_back_173 (x := ((50 * k) + 28)) (y := i2) rfl rfl ?_
              refine iald_n (k := (((50 * k) + 28) + i2)) hx hb hK.1 hP 5 rfl (by omega) (by decide) dX6_back_174 ?_
              refine iast_n (k := i2) hx hb hK.1 hP hD hS 3 rfl (by omega) (by decide) dX6_back_175 (fun H locs hP hD hS => ?_)
              have hP : va_P D vwCl [(mm, .inr (6, [.int (sh (50 * k)), .ref m1, .ref m2, .int (sh ((50 * k) + 1)), .ref m3, .ref m4, .int (nI nn), .ref m5, .ref m6, .ref m7, .ref m8, .int re, .int ro, .ref m9, .int tm])), (m1, .inl (cI, 12, .inl (bkL sh k ln 12))), (m2, .inl (cI, 12, .inl (bkB sh k bo 12))), (m3, .inl (cI, 18, .inl (upd (bkD sh k bd i2) i2 (sh (((50 * k) + 28) + i2))))), (m4, .inl (cI, 2, .inl (upd (upd en 0 (sh ((50 * k) + 2))) 1 (sh ((50 * k) + 3))))), (m9, .inl (cI, 100, .inl sh))] H := hP
              have hD : va_D A [(mm, .inr (6, [.int (sh (50 * k)), .ref m1, .ref m2, .int (sh ((50 * k) + 1)), .ref m3, .ref m4, .int (nI nn), .ref m5, .ref m6, .ref m7, .ref m8, .int re, .int ro, .ref m9, .int tm])), (m1, .inl (cI, 12, .inl (bkL sh k ln 12))), (m2, .inl (cI, 12, .inl (bkB sh k bo 12))), (m3, .inl (cI, 18, .inl (upd (bkD sh k bd i2) i2 (sh (((50 * k) + 28) + i2))))), (m4, .inl (cI, 2, .inl (upd (upd en 0 (sh ((50 * k) + 2))) 1 (sh ((50 * k) + 3))))), (m9, .inl (cI, 100, .inl sh))] := hD
              have hP : va_P D vwCl [(mm, .inr (6, [.int (sh (50 * k)), .ref m1, .ref m2, .int (sh ((50 * k) + 1)), .ref m3, .ref m4, .int (nI nn), .ref m5, .ref m6, .ref m7, .ref m8, .int re, .int ro, .ref m9, .int tm])), (m1, .inl (cI, 12, .inl (bkL sh k ln 12))), (m2, .inl (cI, 12, .inl (bkB sh k bo 12))), (m3, .inl (cI, 18, .inl (bkD sh k bd (i2 + 1)))), (m4, .inl (cI, 2, .inl (upd (upd en 0 (sh ((50 * k) + 2))) 1 (sh ((50 * k) + 3))))), (m9, .inl (cI, 100, .inl sh))] H := by rw [← (show upd (bkD sh k bd i2) i2 (sh (((50 * k) + 28) + i2)) = bkD sh k bd (i2 + 1) from rfl)]; exact hP
              have hD : va_D A [(mm, .inr (6, [.int (sh (50 * k)), .ref m1, .ref m2, .int (sh ((50 * k) + 1)), .ref m3, .ref m4, .int (nI nn), .ref m5, .ref m6, .ref m7, .ref m8, .int re, .int ro, .ref m9, .int tm])), (m1, .inl (cI, 12, .inl (bkL sh k ln 12))), (m2, .inl (cI, 12, .inl (bkB sh k bo 12))), (m3, .inl (cI, 18, .inl (bkD sh k bd (i2 + 1)))), (m4, .inl (cI, 2, .inl (upd (upd en 0 (sh ((50 * k) + 2))) 1 (sh ((50 * k) + 3))))), (m9, .inl (cI, 100, .inl sh))] := va_D_fst hD (by simp only [List.map_cons, List.map_nil])
              refine lv_iinc (v := nI (i2 + 1)) (lv' := [(2, .int (nI (i2 + 1))), (0, .ref mm), (1, .int (nI k))]) hx hb dX6_back_176 hl (k := 0) rfl (iinc_1 i2) (by decide) rfl (fun ls hl => ?_)
              refine lv_goto (tgt := 150) hx hb dX6_back_179 (by decide) ?_
              exact ih_150 (i2 + 1) (by omega) _ _ hP hD hS ls (lv_sub hl [0, 1, 2] rfl)
          exact lp_150 18 0 (by omega) _ _ hP hD hS ls (lv_sub hl [0, 1, 2] rfl)
        | succ r ih_94 =>
          intro i hi H locs hP hD hS ls hl
          refine lv_iload_n hx hb dX6_back_94 rfl (lv_at hl 0 rfl) ?_
          refine lv_bipush (v := 12) hx hb dX6_back_95 (by decide) ?_
          refine lv_icmp_ge (tgt := 148) hx hb dX6_back_97 (by decide) (fun c6 => absurd c6 ((nI_ge (a := i) (b := 12) (by omega) (by omega)))) (fun c6 => ?_)
          refine lv_aload_n hx hb dX6_back_100 rfl (lv_at hl 1 rfl) ?_
          refine va_get (D := D) (ci := 6) (v := .ref m1) (C := RX6) (T := TX6) (N := 15) hx hb hts k6 hown hK.1 hP 0 rfl rfl 1 (by decide) (hts (.fieldLink RX6 7 "BoredPipesModel" "lengths" "[I") (List.mem_of_getElem? (i := 5) rfl)) (fun _ h9 => h9) rfl dX6_back_101 ?_
          refine lv_iload_n hx hb dX6_back_104 rfl (lv_at hl 0 rfl) ?_
          refine lv_aload_n hx hb dX6_back_105 rfl (lv_at hl 1 rfl) ?_
          refine va_get (D := D) (ci := 6) (v := .ref m9) (C := RX6) (T := TX6) (N := 15) hx hb hts k6 hown hK.1 hP 0 rfl rfl 13 (by decide) (hts (.fieldLink RX6 39 "BoredPipesModel" "shelf" "[I") (List.mem_of_getElem? (i := 1) rfl)) (fun _ h9 => h9) rfl dX6_back_106 ?_
          refine lv_bipush (v := 50) hx hb dX6_back_109 (by decide) ?_
          refine lv_iload_n hx hb dX6_back_111 rfl (lv_at hl 2 rfl) ?_
          refine nn_imul hx hb dX6_back_112 (x := 50) (y := k) rfl rfl ?_
          refine lv_iconst (v := 4) hx hb dX6_back_113 (by decide) ?_
          refine nn_iadd hx hb dX6_back_114 (x := (50 * k)) (y := 4) rfl rfl ?_
          refine lv_iconst (v := 2) hx hb dX6_back_115 (by decide) ?_
          refine lv_iload_n hx hb dX6_back_116 rfl (lv_at hl 0 rfl) ?_
          refine nn_imul hx hb dX6_back_117 (x := 2) (y := i) rfl rfl ?_
          refine nn_iadd hx hb dX6_back_118 (x := ((50 * k) + 4)) (y := (2 * i)) rfl rfl ?_
          refine iald_n (k := (((50 * k) + 4) + (2 * i))) hx hb hK.1 hP 5 rfl (by omega) (by decide) dX6_back_119 ?_
          refine iast_n (k := i) hx hb hK.1 hP hD hS 1 rfl (by omega) (by decide) dX6_back_120 (fun H locs hP hD hS => ?_)
          have hP : va_P D vwCl [(mm, .inr (6, [.int (sh (50 * k)), .ref m1, .ref m2, .int (sh ((50 * k) + 1)), .ref m3, .ref m4, .int (nI nn), .ref m5, .ref m6, .ref m7, .ref m8, .int re, .int ro, .ref m9, .int tm])), (m1, .inl (cI, 12, .inl (upd (bkL sh k ln i) i (sh (((50 * k) + 4) + (2 * i)))))), (m2, .inl (cI, 12, .inl (bkB sh k bo i))), (m3, .inl (cI, 18, .inl bd)), (m4, .inl (cI, 2, .inl (upd (upd en 0 (sh ((50 * k) + 2))) 1 (sh ((50 * k) + 3))))), (m9, .inl (cI, 100, .inl sh))] H := hP
          have hD : va_D A [(mm, .inr (6, [.int (sh (50 * k)), .ref m1, .ref m2, .int (sh ((50 * k) + 1)), .ref m3, .ref m4, .int (nI nn), .ref m5, .ref m6, .ref m7, .ref m8, .int re, .int ro, .ref m9, .int tm])), (m1, .inl (cI, 12, .inl (upd (bkL sh k ln i) i (sh (((50 * k) + 4) + (2 * i)))))), (m2, .inl (cI, 12, .inl (bkB sh k bo i))), (m3, .inl (cI, 18, .inl bd)), (m4, .inl (cI, 2, .inl (upd (upd en 0 (sh ((50 * k) + 2))) 1 (sh ((50 * k) + 3))))), (m9, .inl (cI, 100, .inl sh))] := hD
          refine lv_aload_n hx hb dX6_back_121 rfl (lv_at hl 1 rfl) ?_
          refine va_get (D := D) (ci := 6) (v := .ref m2) (C := RX6) (T := TX6) (N := 15) hx hb hts k6 hown hK.1 hP 0 rfl rfl 2 (by decide) (hts (.fieldLink RX6 13 "BoredPipesModel" "bores" "[I") (List.mem_of_getElem? (i := 6) rfl)) (fun _ h9 => h9) rfl dX6_back_122 ?_
          refine lv_iload_n hx hb dX6_back_125 rfl (lv_at hl 0 rfl) ?_
          refine lv_aload_n hx hb dX6_back_126 rfl (lv_at hl 1 rfl) ?_
          refine va_get (D := D) (ci := 6) (v := .ref m9) (C := RX6) (T := TX6) (N := 15) hx hb hts k6 hown hK.1 hP 0 rfl rfl 13 (by decide) (hts (.fieldLink RX6 39 "BoredPipesModel" "shelf" "[I") (List.mem_of_getElem? (i := 1) rfl)) (fun _ h9 => h9) rfl dX6_back_127 ?_
          refine lv_bipush (v := 50) hx hb dX6_back_130 (by decide) ?_
          refine lv_iload_n hx hb dX6_back_132 rfl (lv_at hl 2 rfl) ?_
          refine nn_imul hx hb dX6_back_133 (x := 50) (y := k) rfl rfl ?_
          refine lv_iconst (v := 5) hx hb dX6_back_134 (by decide) ?_
          refine nn_iadd hx hb dX6_back_135 (x := (50 * k)) (y := 5) rfl rfl ?_
          refine lv_iconst (v := 2) hx hb dX6_back_136 (by decide) ?_
          refine lv_iload_n hx hb dX6_back_137 rfl (lv_at hl 0 rfl) ?_
          refine nn_imul hx hb dX6_back_138 (x := 2) (y := i) rfl rfl ?_
          refine nn_iadd hx hb dX6_back_139 (x := ((50 * k) + 5)) (y := (2 * i)) rfl rfl ?_
          refine iald_n (k := (((50 * k) + 5) + (2 * i))) hx hb hK.1 hP 5 rfl (by omega) (by decide) dX6_back_140 ?_
          refine iast_n (k := i) hx hb hK.1 hP hD hS 2 rfl (by omega) (by decide) dX6_back_141 (fun H locs hP hD hS => ?_)
          have hP : va_P D vwCl [(mm, .inr (6, [.int (sh (50 * k)), .ref m1, .ref m2, .int (sh ((50 * k) + 1)), .ref m3, .ref m4, .int (nI nn), .ref m5, .ref m6, .ref m7, .ref m8, .int re, .int ro, .ref m9, .int tm])), (m1, .inl (cI, 12, .inl (upd (bkL sh k ln i) i (sh (((50 * k) + 4) + (2 * i)))))), (m2, .inl (cI, 12, .inl (upd (bkB sh k bo i) i (sh (((50 * k) + 5) + (2 * i)))))), (m3, .inl (cI, 18, .inl bd)), (m4, .inl (cI, 2, .inl (upd (upd en 0 (sh ((50 * k) + 2))) 1 (sh ((50 * k) + 3))))), (m9, .inl (cI, 100, .inl sh))] H := hP
          have hD : va_D A [(mm, .inr (6, [.int (sh (50 * k)), .ref m1, .ref m2, .int (sh ((50 * k) + 1)), .ref m3, .ref m4, .int (nI nn), .ref m5, .ref m6, .ref m7, .ref m8, .int re, .int ro, .ref m9, .int tm])), (m1, .inl (cI, 12, .inl (upd (bkL sh k ln i) i (sh (((50 * k) + 4) + (2 * i)))))), (m2, .inl (cI, 12, .inl (upd (bkB sh k bo i) i (sh (((50 * k) + 5) + (2 * i)))))), (m3, .inl (cI, 18, .inl bd)), (m4, .inl (cI, 2, .inl (upd (upd en 0 (sh ((50 * k) + 2))) 1 (sh ((50 * k) + 3))))), (m9, .inl (cI, 100, .inl sh))] := hD
          have hP : va_P D vwCl [(mm, .inr (6, [.int (sh (50 * k)), .ref m1, .ref m2, .int (sh ((50 * k) + 1)), .ref m3, .ref m4, .int (nI nn), .ref m5, .ref m6, .ref m7, .ref m8, .int re, .int ro, .ref m9, .int tm])), (m1, .inl (cI, 12, .inl (bkL sh k ln (i + 1)))), (m2, .inl (cI, 12, .inl (upd (bkB sh k bo i) i (sh (((50 * k) + 5) + (2 * i)))))), (m3, .inl (cI, 18, .inl bd)), (m4, .inl (cI, 2, .inl (upd (upd en 0 (sh ((50 * k) + 2))) 1 (sh ((50 * k) + 3))))), (m9, .inl (cI, 100, .inl sh))] H := by rw [← (show upd (bkL sh k ln i) i (sh (((50 * k) + 4) + (2 * i))) = bkL sh k ln (i + 1) from rfl)]; exact hP
          have hD : va_D A [(mm, .inr (6, [.int (sh (50 * k)), .ref m1, .ref m2, .int (sh ((50 * k) + 1)), .ref m3, .ref m4, .int (nI nn), .ref m5, .ref m6, .ref m7, .ref m8, .int re, .int ro, .ref m9, .int tm])), (m1, .inl (cI, 12, .inl (bkL sh k ln (i + 1)))), (m2, .inl (cI, 12, .inl (upd (bkB sh k bo i) i (sh (((50 * k) + 5) + (2 * i)))))), (m3, .inl (cI, 18, .inl bd)), (m4, .inl (cI, 2, .inl (upd (upd en 0 (sh ((50 * k) + 2))) 1 (sh ((50 * k) + 3))))), (m9, .inl (cI, 100, .inl sh))] := va_D_fst hD (by simp only [List.map_cons, List.map_nil])
          have hP : va_P D vwCl [(mm, .inr (6, [.int (sh (50 * k)), .ref m1, .ref m2, .int (sh ((50 * k) + 1)), .ref m3, .ref m4, .int (nI nn), .ref m5, .ref m6, .ref m7, .ref m8, .int re, .int ro, .ref m9, .int tm])), (m1, .inl (cI, 12, .inl (bkL sh k ln (i + 1)))), (m2, .inl (cI, 12, .inl (bkB sh k bo (i + 1)))), (m3, .inl (cI, 18, .inl bd)), (m4, .inl (cI, 2, .inl (upd (upd en 0 (sh ((50 * k) + 2))) 1 (sh ((50 * k) + 3))))), (m9, .inl (cI, 100, .inl sh))] H := by rw [← (show upd (bkB sh k bo i) i (sh (((50 * k) + 5) + (2 * i))) = bkB sh k bo (i + 1) from rfl)]; exact hP
          have hD : va_D A [(mm, .inr (6, [.int (sh (50 * k)), .ref m1, .ref m2, .int (sh ((50 * k) + 1)), .ref m3, .ref m4, .int (nI nn), .ref m5, .ref m6, .ref m7, .ref m8, .int re, .int ro, .ref m9, .int tm])), (m1, .inl (cI, 12, .inl (bkL sh k ln (i + 1)))), (m2, .inl (cI, 12, .inl (bkB sh k bo (i + 1)))), (m3, .inl (cI, 18, .inl bd)), (m4, .inl (cI, 2, .inl (upd (upd en 0 (sh ((50 * k) + 2))) 1 (sh ((50 * k) + 3))))), (m9, .inl (cI, 100, .inl sh))] := va_D_fst hD (by simp only [List.map_cons, List.map_nil])
          refine lv_iinc (v := nI (i + 1)) (lv' := [(2, .int (nI (i + 1))), (0, .ref mm), (1, .int (nI k))]) hx hb dX6_back_142 hl (k := 0) rfl (iinc_1 i) (by decide) rfl (fun ls hl => ?_)
          refine lv_goto (tgt := 94) hx hb dX6_back_145 (by decide) ?_
          exact ih_94 (i + 1) (by omega) _ _ hP hD hS ls (lv_sub hl [0, 1, 2] rfl)
      exact lp_94 12 0 (by omega) _ _ hP hD hS ls (lv_sub hl [0, 1, 2] rfl)
    · skip
      refine lv_sipush (v := (-1003)) hx hb dX6_back_26 (by decide) ?_
      exact ret_WI hQ hx hb hr hlk hAe () (by show va_P D vwCl [(mm, .inr (6, [.int ((mBack (nI k) np nh en ln bo bd sh).2.1), .ref m1, .ref m2, .int ((mBack (nI k) np nh en ln bo bd sh).2.2.1), .ref m3, .ref m4, .int (nI nn), .ref m5, .ref m6, .ref m7, .ref m8, .int re, .int ro, .ref m9, .int tm])), (m1, .inl (cI, 12, .inl ((mBack (nI k) np nh en ln bo bd sh).2.2.2.2.1))), (m2, .inl (cI, 12, .inl ((mBack (nI k) np nh en ln bo bd sh).2.2.2.2.2.1))), (m3, .inl (cI, 18, .inl ((mBack (nI k) np nh en ln bo bd sh).2.2.2.2.2.2))), (m4, .inl (cI, 2, .inl ((mBack (nI k) np nh en ln bo bd sh).2.2.2.1))), (m9, .inl (cI, 100, .inl sh))] H; rw [show (mBack (nI k) np nh en ln bo bd sh).2.1 = nI np from (by first | with_reducible rfl | (simp only [mBack, nI_clamp (show k < 2147483648 from by omega), if_neg c1, if_neg c2]; done) | (simp [mBack, nI_clamp (show k < 2147483648 from by omega), if_neg c1, if_neg c2]; done)), show (mBack (nI k) np nh en ln bo bd sh).2.2.1 = nI nh from (by first | with_reducible rfl | (simp only [mBack, nI_clamp (show k < 2147483648 from by omega), if_neg c1, if_neg c2]; done) | (simp [mBack, nI_clamp (show k < 2147483648 from by omega), if_neg c1, if_neg c2]; done)), show (mBack (nI k) np nh en ln bo bd sh).2.2.2.2.1 = ln from (by first | with_reducible rfl | (simp only [mBack, nI_clamp (show k < 2147483648 from by omega), if_neg c1, if_neg c2]; done) | (simp [mBack, nI_clamp (show k < 2147483648 from by omega), if_neg c1, if_neg c2]; done)), show (mBack (nI k) np nh en ln bo bd sh).2.2.2.2.2.1 = bo from (by first | with_reducible rfl | (simp only [mBack, nI_clamp (show k < 2147483648 from by omega), if_neg c1, if_neg c2]; done) | (simp [mBack, nI_clamp (show k < 2147483648 from by omega), if_neg c1, if_neg c2]; done)), show (mBack (nI k) np nh en ln bo bd sh).2.2.2.2.2.2 = bd from (by first | with_reducible rfl | (simp only [mBack, nI_clamp (show k < 2147483648 from by omega), if_neg c1, if_neg c2]; done) | (simp [mBack, nI_clamp (show k < 2147483648 from by omega), if_neg c1, if_neg c2]; done)), show (mBack (nI k) np nh en ln bo bd sh).2.2.2.1 = en from (by first | with_reducible rfl | (simp only [mBack, nI_clamp (show k < 2147483648 from by omega), if_neg c1, if_neg c2]; done) | (simp [mBack, nI_clamp (show k < 2147483648 from by omega), if_neg c1, if_neg c2]; done))]; exact hP) hS (show (mBack (nI k) np nh en ln bo bd sh).1 = (-1003) from (by first | with_reducible rfl | (simp only [mBack, nI_clamp (show k < 2147483648 from by omega), if_neg c1, if_neg c2]; done) | (simp [mBack, nI_clamp (show k < 2147483648 from by omega), if_neg c1, if_neg c2]; done))).symm dX6_back_29
  · skip
    refine lv_sipush (v := (-1001)) hx hb dX6_back_10 (by decide) ?_
    exact ret_WI hQ hx hb hr hlk hAe () (by show va_P D vwCl [(mm, .inr (6, [.int ((mBack x np nh en ln bo bd sh).2.1), .ref m1, .ref m2, .int ((mBack x np nh en ln bo bd sh).2.2.1), .ref m3, .ref m4, .int (nI nn), .ref m5, .ref m6, .ref m7, .ref m8, .int re, .int ro, .ref m9, .int tm])), (m1, .inl (cI, 12, .inl ((mBack x np nh en ln bo bd sh).2.2.2.2.1))), (m2, .inl (cI, 12, .inl ((mBack x np nh en ln bo bd sh).2.2.2.2.2.1))), (m3, .inl (cI, 18, .inl ((mBack x np nh en ln bo bd sh).2.2.2.2.2.2))), (m4, .inl (cI, 2, .inl ((mBack x np nh en ln bo bd sh).2.2.2.1))), (m9, .inl (cI, 100, .inl sh))] H; rw [show (mBack x np nh en ln bo bd sh).2.1 = nI np from (by first | with_reducible rfl | (simp only [mBack, if_pos c1]; done) | (simp [mBack, if_pos c1]; done)), show (mBack x np nh en ln bo bd sh).2.2.1 = nI nh from (by first | with_reducible rfl | (simp only [mBack, if_pos c1]; done) | (simp [mBack, if_pos c1]; done)), show (mBack x np nh en ln bo bd sh).2.2.2.2.1 = ln from (by first | with_reducible rfl | (simp only [mBack, if_pos c1]; done) | (simp [mBack, if_pos c1]; done)), show (mBack x np nh en ln bo bd sh).2.2.2.2.2.1 = bo from (by first | with_reducible rfl | (simp only [mBack, if_pos c1]; done) | (simp [mBack, if_pos c1]; done)), show (mBack x np nh en ln bo bd sh).2.2.2.2.2.2 = bd from (by first | with_reducible rfl | (simp only [mBack, if_pos c1]; done) | (simp [mBack, if_pos c1]; done)), show (mBack x np nh en ln bo bd sh).2.2.2.1 = en from (by first | with_reducible rfl | (simp only [mBack, if_pos c1]; done) | (simp [mBack, if_pos c1]; done))]; exact hP) hS (show (mBack x np nh en ln bo bd sh).1 = (-1001) from (by first | with_reducible rfl | (simp only [mBack, if_pos c1]; done) | (simp [mBack, if_pos c1]; done))).symm dX6_back_13

set_option maxHeartbeats 4000000 in
set_option maxRecDepth 100000 in
theorem c_X6_differs (l : Launch) (D : va_G) (cI cZ : ClassId) (mm : Nat) (m1 : Nat) (m2 : Nat) (m3 : Nat) (m4 : Nat) (m5 : Nat) (m6 : Nat) (m7 : Nat) (m8 : Nat) (m9 : Nat) (np : Nat) (nh : Nat) (nn : Nat) (re : Int32) (ro : Int32) (tm : Int32) (ln : Nat → Int32) (bo : Nat → Int32) (bd : Nat → Int32) (en : Nat → Int32) (sh : Nat → Int32) (x : Int32)  : Met l yX6_differs wsX6_differs rmX6_differs (va_Pc [.ref mm, .int x] (PR D cI cZ [(mm, .inr (6, [.int (nI np), .ref m1, .ref m2, .int (nI nh), .ref m3, .ref m4, .int (nI nn), .ref m5, .ref m6, .ref m7, .ref m8, .int re, .int ro, .ref m9, .int tm])), (m1, .inl (cI, 12, .inl ln)), (m2, .inl (cI, 12, .inl bo)), (m3, .inl (cI, 18, .inl bd)), (m4, .inl (cI, 2, .inl en)), (m9, .inl (cI, 100, .inl sh))])) (RI (mDiffers x np nh en ln bo bd sh)) 0 0 nA := by
  refine met_go (cc := cX6_differs) (maxL := 5) (ret := (some .int)) (by decide) rfl ?_ (Nat.le_of_ble_eq_true rfl)
  intro p e s m a below meth c Q hQ _ hx hb hr hml hts hown hlk hnm hpre ls hl
  have hown : s.vm.findClass RX6 = some m.cls := hown
  obtain ⟨hP, hK⟩ := hpre
  have hN := hK.2
  have hS : va_S nA s.heap s.heap [] := va_S.rf
  have hl : lv_has ls 5 [(0, .ref mm), (1, .int x)] := hl
  have k6 : ∀ w ∈ wsX60, w ∈ wsX6_differs := fun w h => List.mem_cons_of_mem _ (List.mem_append_right _ h)
  refine lv_iload_n hx hb dX6_differs_0 rfl (lv_at hl 1 rfl) ?_
  refine lv_i2l hx hb dX6_differs_1 rfl ?_
  refine lv_lconst (v := 0) hx hb dX6_differs_2 (by decide) ?_
  refine lv_lconst (v := 1) hx hb dX6_differs_3 (by decide) ?_
  refine rd_i (va_runS (As := [.long x.toInt64, .long 0, .long 1]) (rest := []) ⟨hx, hb, hml, hown, hts⟩ (c_X6_in l D cI cZ x.toInt64 0 1) (va_cwS 3 hts gX6_differs_X6_in rfl rfl rfl hdV_X6_in.2 ⟨Nat.le_of_ble_eq_true rfl, Nat.le_of_ble_eq_true rfl⟩) (PR.S (hP.sub [] rfl) hK) rfl rfl hl.1 rfl (lv_room (Nat.le_of_ble_eq_true rfl)) dX6_differs_4 ⟨Nat.le_of_ble_eq_true rfl, Nat.le_of_ble_eq_true rfl⟩) hP hS (fun H locs hP hS => ?_)
  refine lv_if_ne (tgt := 14) hx hb dX6_differs_7 (by decide) (fun c1 => ?_) (fun c1 => ?_)
  · skip
    obtain ⟨k, -, hk, rfl⟩ := fInL_rng (a := 0) (b := 1) c1 (by decide) (by decide)
    refine lv_aload_n hx hb dX6_differs_14 rfl (lv_at hl 0 rfl) ?_
    refine va_get (D := D) (ci := 6) (v := .ref m9) (C := RX6) (T := TX6) (N := 15) hx hb hts k6 hown hK.1 hP 0 rfl rfl 13 (by decide) (hts (.fieldLink RX6 39 "BoredPipesModel" "shelf" "[I") (List.mem_of_getElem? (i := 1) rfl)) (fun _ h9 => h9) rfl dX6_differs_15 ?_
    refine lv_bipush (v := 50) hx hb dX6_differs_18 (by decide) ?_
    refine lv_iload_n hx hb dX6_differs_20 rfl (lv_at hl 1 rfl) ?_
    refine nn_imul hx hb dX6_differs_21 (x := 50) (y := k) rfl rfl ?_
    refine iald_n (k := (50 * k)) hx hb hK.1 hP 5 rfl (by omega) (by decide) dX6_differs_22 ?_
    refine lv_if_ge (tgt := 30) hx hb dX6_differs_23 (by decide) (fun c2 => ?_) (fun c2 => ?_)
    · skip
      refine lv_aload_n hx hb dX6_differs_30 rfl (lv_at hl 0 rfl) ?_
      refine va_get (D := D) (ci := 6) (v := .ref m4) (C := RX6) (T := TX6) (N := 15) hx hb hts k6 hown hK.1 hP 0 rfl rfl 5 (by decide) (hts (.fieldLink RX6 19 "BoredPipesModel" "ends" "[I") (List.mem_of_getElem? (i := 2) rfl)) (fun _ h9 => h9) rfl dX6_differs_31 ?_
      refine lv_iconst (v := 0) hx hb dX6_differs_34 (by decide) ?_
      refine iald_n (k := 0) hx hb hK.1 hP 4 rfl (by omega) (by decide) dX6_differs_35 ?_
      refine lv_aload_n hx hb dX6_differs_36 rfl (lv_at hl 0 rfl) ?_
      refine va_get (D := D) (ci := 6) (v := .ref m9) (C := RX6) (T := TX6) (N := 15) hx hb hts k6 hown hK.1 hP 0 rfl rfl 13 (by decide) (hts (.fieldLink RX6 39 "BoredPipesModel" "shelf" "[I") (List.mem_of_getElem? (i := 1) rfl)) (fun _ h9 => h9) rfl dX6_differs_37 ?_
      refine lv_bipush (v := 50) hx hb dX6_differs_40 (by decide) ?_
      refine lv_iload_n hx hb dX6_differs_42 rfl (lv_at hl 1 rfl) ?_
      refine nn_imul hx hb dX6_differs_43 (x := 50) (y := k) rfl rfl ?_
      refine lv_iconst (v := 2) hx hb dX6_differs_44 (by decide) ?_
      refine nn_iadd hx hb dX6_differs_45 (x := (50 * k)) (y := 2) rfl rfl ?_
      refine iald_n (k := ((50 * k) + 2)) hx hb hK.1 hP 5 rfl (by omega) (by decide) dX6_differs_46 ?_
      have jn_47 : ∀ (H : Heap) (locs : List Loc), va_P D vwCl [(mm, .inr (6, [.int (nI np), .ref m1, .ref m2, .int (nI nh), .ref m3, .ref m4, .int (nI nn), .ref m5, .ref m6, .ref m7, .ref m8, .int re, .int ro, .ref m9, .int tm])), (m1, .inl (cI, 12, .inl ln)), (m2, .inl (cI, 12, .inl bo)), (m3, .inl (cI, 18, .inl bd)), (m4, .inl (cI, 2, .inl en)), (m9, .inl (cI, 100, .inl sh))] H → va_S nA s.heap H locs → W p l e rmX6_differs s m a below meth c H locs 0 0 Q (F0 m 55 ls [.int (if (en 0) = (sh ((50 * k) + 2)) then 0 else 1)]) := by
        intro H locs hP hS
        refine lv_aload_n hx hb dX6_differs_55 rfl (lv_at hl 0 rfl) ?_
        refine va_get (D := D) (ci := 6) (v := .ref m4) (C := RX6) (T := TX6) (N := 15) hx hb hts k6 hown hK.1 hP 0 rfl rfl 5 (by decide) (hts (.fieldLink RX6 19 "BoredPipesModel" "ends" "[I") (List.mem_of_getElem? (i := 2) rfl)) (fun _ h9 => h9) rfl dX6_differs_56 ?_
        refine lv_iconst (v := 1) hx hb dX6_differs_59 (by decide) ?_
        refine iald_n (k := 1) hx hb hK.1 hP 4 rfl (by omega) (by decide) dX6_differs_60 ?_
        refine lv_aload_n hx hb dX6_differs_61 rfl (lv_at hl 0 rfl) ?_
        refine va_get (D := D) (ci := 6) (v := .ref m9) (C := RX6) (T := TX6) (N := 15) hx hb hts k6 hown hK.1 hP 0 rfl rfl 13 (by decide) (hts (.fieldLink RX6 39 "BoredPipesModel" "shelf" "[I") (List.mem_of_getElem? (i := 1) rfl)) (fun _ h9 => h9) rfl dX6_differs_62 ?_
        refine lv_bipush (v := 50) hx hb dX6_differs_65 (by decide) ?_
        refine lv_iload_n hx hb dX6_differs_67 rfl (lv_at hl 1 rfl) ?_
        refine nn_imul hx hb dX6_differs_68 (x := 50) (y := k) rfl rfl ?_
        refine lv_iconst (v := 3) hx hb dX6_differs_69 (by decide) ?_
        refine nn_iadd hx hb dX6_differs_70 (x := (50 * k)) (y := 3) rfl rfl ?_
        refine iald_n (k := ((50 * k) + 3)) hx hb hK.1 hP 5 rfl (by omega) (by decide) dX6_differs_71 ?_
        have jn_72 : ∀ (H : Heap) (locs : List Loc), va_P D vwCl [(mm, .inr (6, [.int (nI np), .ref m1, .ref m2, .int (nI nh), .ref m3, .ref m4, .int (nI nn), .ref m5, .ref m6, .ref m7, .ref m8, .int re, .int ro, .ref m9, .int tm])), (m1, .inl (cI, 12, .inl ln)), (m2, .inl (cI, 12, .inl bo)), (m3, .inl (cI, 18, .inl bd)), (m4, .inl (cI, 2, .inl en)), (m9, .inl (cI, 100, .inl sh))] H → va_S nA s.heap H locs → W p l e rmX6_differs s m a below meth c H locs 0 0 Q (F0 m 80 ls [.int (if (en 1) = (sh ((50 * k) + 3)) then 0 else 1), .int (if (en 0) = (sh ((50 * k) + 2)) then 0 else 1)]) := by
          intro H locs hP hS
          refine lv_iadd hx hb dX6_differs_80 ?_
          refine lv_istore_n (lv' := [(2, .int ((if (en 0) = (sh ((50 * k) + 2)) then 0 else 1) + (if (en 1) = (sh ((50 * k) + 3)) then 0 else 1))), (0, .ref mm), (1, .int (nI k))]) hx hb dX6_differs_81 rfl hl (by decide) rfl (fun ls hl => ?_)
          refine lv_iconst (v := 0) hx hb dX6_differs_82 (by decide) ?_
          refine lv_istore_n (lv' := [(3, .int 0), (2, .int ((if (en 0) = (sh ((50 * k) + 2)) then 0 else 1) + (if (en 1) = (sh ((50 * k) + 3)) then 0 else 1))), (0, .ref mm), (1, .int (nI k))]) hx hb dX6_differs_83 rfl hl (by decide) rfl (fun ls hl => ?_)
          have lp_84 : ∀ (r : Nat) (i : Nat) (z : Int32), (i + r = 12) → (mDiffers (nI k) np nh en ln bo bd sh = mDf2 nh k bd sh 18 0 (mDf1 np k ln bo sh r i z)) → ∀ (H : Heap) (locs : List Loc), va_P D vwCl [(mm, .inr (6, [.int (nI np), .ref m1, .ref m2, .int (nI nh), .ref m3, .ref m4, .int (nI nn), .ref m5, .ref m6, .ref m7, .ref m8, .int re, .int ro, .ref m9, .int tm])), (m1, .inl (cI, 12, .inl ln)), (m2, .inl (cI, 12, .inl bo)), (m3, .inl (cI, 18, .inl bd)), (m4, .inl (cI, 2, .inl en)), (m9, .inl (cI, 100, .inl sh))] H → va_S nA s.heap H locs → ∀ (ls : Array Slot), lv_has ls 5 [(3, .int (nI i)), (2, .int z), (0, .ref mm), (1, .int (nI k))] → W p l e rmX6_differs s m a below meth c H locs 0 0 Q (F0 m 84 ls []) := by
            intro r
            induction r with
            | zero =>
              intro i z hi hF H locs hP hS ls hl
              refine lv_iload_n hx hb dX6_differs_84 rfl (lv_at hl 0 rfl) ?_
              refine lv_bipush (v := 12) hx hb dX6_differs_85 (by decide) ?_
              refine lv_icmp_ge (tgt := 214) hx hb dX6_differs_87 (by decide) (fun c5 => ?_) (fun c5 => absurd ((nI_le (a := 12) (b := i) (by omega) (by omega))) c5)
              refine lv_iconst (v := 0) hx hb dX6_differs_214 (by decide) ?_
              refine lv_istore_n (lv' := [(3, .int 0), (2, .int z), (0, .ref mm), (1, .int (nI k))]) hx hb dX6_differs_215 rfl hl (by decide) rfl (fun ls hl => ?_)
              have lp_216 : ∀ (r2 : Nat) (i2 : Nat) (z2 : Int32), (i2 + r2 = 18) → (mDiffers (nI k) np nh en ln bo bd sh = mDf2 nh k bd sh r2 i2 z2) → ∀ (H : Heap) (locs : List Loc), va_P D vwCl [(mm, .inr (6, [.int (nI np), .ref m1, .ref m2, .int (nI nh), .ref m3, .ref m4, .int (nI nn), .ref m5, .ref m6, .ref m7, .ref m8, .int re, .int ro, .ref m9, .int tm])), (m1, .inl (cI, 12, .inl ln)), (m2, .inl (cI, 12, .inl bo)), (m3, .inl (cI, 18, .inl bd)), (m4, .inl (cI, 2, .inl en)), (m9, .inl (cI, 100, .inl sh))] H → va_S nA s.heap H locs → ∀ (ls : Array Slot), lv_has ls 5 [(3, .int (nI i2)), (2, .int z2), (0, .ref mm), (1, .int (nI k))] → W p l e rmX6_differs s m a below meth c H locs 0 0 Q (F0 m 216 ls []) := by
                intro r2
                induction r2 with
                | zero =>
                  intro i2 z2 hi2 hF2 H locs hP hS ls hl
                  refine lv_iload_n hx hb dX6_differs_216 rfl (lv_at hl 0 rfl) ?_
                  refine lv_bipush (v := 18) hx hb dX6_differs_217 (by decide) ?_
                  refine lv_icmp_ge (tgt := 299) hx hb dX6_differs_219 (by decide) (fun c6 => ?_) (fun c6 => absurd ((nI_le (a := 18) (b := i2) (by omega) (by omega))) c6)
                  refine lv_iload_n hx hb dX6_differs_299 rfl (lv_at hl 1 rfl) ?_
                  exact ret_RI hQ hx hb hr hlk hS (hF2.trans (by first | with_reducible rfl | (simp only [mDiffers, nI_clamp (show k < 2147483648 from by omega), mDf1, mDf2, if_neg c1, if_pos c2, if_pos c5, if_pos c6]; done) | (simp [mDiffers, nI_clamp (show k < 2147483648 from by omega), mDf1, mDf2, if_neg c1, if_pos c2, if_pos c5, if_pos c6]; done))).symm dX6_differs_300
                | succ r2 ih_216 =>
                  intro i2 z2 hi2 hF2 H locs hP hS ls hl
                  refine lv_iload_n hx hb dX6_differs_216 rfl (lv_at hl 0 rfl) ?_
                  refine lv_bipush (v := 18) hx hb dX6_differs_217 (by decide) ?_
                  refine lv_icmp_ge (tgt := 299) hx hb dX6_differs_219 (by decide) (fun c7 => absurd c7 ((nI_ge (a := i2) (b := 18) (by omega) (by omega)))) (fun c7 => ?_)
                  refine lv_iload_n hx hb dX6_differs_222 rfl (lv_at hl 1 rfl) ?_
                  refine lv_iload_n hx hb dX6_differs_223 rfl (lv_at hl 0 rfl) ?_
                  refine lv_iconst (v := 3) hx hb dX6_differs_224 (by decide) ?_
                  refine lv_idiv hx hb dX6_differs_225 (by decide) ?_
                  refine lv_aload_n hx hb dX6_differs_226 rfl (lv_at hl 2 rfl) ?_
                  refine va_get (D := D) (ci := 6) (v := .int (nI nh)) (C := RX6) (T := TX6) (N := 15) hx hb hts k6 hown hK.1 hP 0 rfl rfl 3 (by decide) (hts (.fieldLink RX6 67 "BoredPipesModel" "holes" "I") (List.mem_of_getElem? (i := 6) rfl)) (fun _ h9 => h9) rfl dX6_differs_227 ?_
                  have jn_230 : ∀ (H : Heap) (locs : List Loc), va_P D vwCl [(mm, .inr (6, [.int (nI np), .ref m1, .ref m2, .int (nI nh), .ref m3, .ref m4, .int (nI nn), .ref m5, .ref m6, .ref m7, .ref m8, .int re, .int ro, .ref m9, .int tm])), (m1, .inl (cI, 12, .inl ln)), (m2, .inl (cI, 12, .inl bo)), (m3, .inl (cI, 18, .inl bd)), (m4, .inl (cI, 2, .inl en)), (m9, .inl (cI, 100, .inl sh))] H → va_S nA s.heap H locs → W p l e rmX6_differs s m a below meth c H locs 0 0 Q (F0 m 238 ls [.int (if (nI nh) ≤ ((nI i2) / 3) then 0 else 1), .int z2]) := by
                    intro H locs hP hS
                    refine lv_iload_n hx hb dX6_differs_238 rfl (lv_at hl 0 rfl) ?_
                    refine lv_iconst (v := 3) hx hb dX6_differs_239 (by decide) ?_
                    refine lv_idiv hx hb dX6_differs_240 (by decide) ?_
                    refine lv_aload_n hx hb dX6_differs_241 rfl (lv_at hl 2 rfl) ?_
                    refine va_get (D := D) (ci := 6) (v := .ref m9) (C := RX6) (T := TX6) (N := 15) hx hb hts k6 hown hK.1 hP 0 rfl rfl 13 (by decide) (hts (.fieldLink RX6 39 "BoredPipesModel" "shelf" "[I") (List.mem_of_getElem? (i := 1) rfl)) (fun _ h9 => h9) rfl dX6_differs_242 ?_
                    refine lv_bipush (v := 50) hx hb dX6_differs_245 (by decide) ?_
                    refine lv_iload_n hx hb dX6_differs_247 rfl (lv_at hl 3 rfl) ?_
                    refine nn_imul hx hb dX6_differs_248 (x := 50) (y := k) rfl rfl ?_
                    refine lv_iconst (v := 1) hx hb dX6_differs_249 (by decide) ?_
                    refine nn_iadd hx hb dX6_differs_250 (x := (50 * k)) (y := 1) rfl rfl ?_
                    refine iald_n (k := ((50 * k) + 1)) hx hb hK.1 hP 5 rfl (by omega) (by decide) dX6_differs_251 ?_
                    have jn_252 : ∀ (H : Heap) (locs : List Loc), va_P D vwCl [(mm, .inr (6, [.int (nI np), .ref m1, .ref m2, .int (nI nh), .ref m3, .ref m4, .int (nI nn), .ref m5, .ref m6, .ref m7, .ref m8, .int re, .int ro, .ref m9, .int tm])), (m1, .inl (cI, 12, .inl ln)), (m2, .inl (cI, 12, .inl bo)), (m3, .inl (cI, 18, .inl bd)), (m4, .inl (cI, 2, .inl en)), (m9, .inl (cI, 100, .inl sh))] H → va_S nA s.heap H locs → W p l e rmX6_differs s m a below meth c H locs 0 0 Q (F0 m 260 ls [.int (if (sh ((50 * k) + 1)) ≤ ((nI i2) / 3) then 0 else 1), .int (if (nI nh) ≤ ((nI i2) / 3) then 0 else 1), .int z2]) := by
                      intro H locs hP hS
                      refine lv_aload_n hx hb dX6_differs_260 rfl (lv_at hl 2 rfl) ?_
                      refine va_get (D := D) (ci := 6) (v := .ref m3) (C := RX6) (T := TX6) (N := 15) hx hb hts k6 hown hK.1 hP 0 rfl rfl 4 (by decide) (hts (.fieldLink RX6 16 "BoredPipesModel" "bored" "[I") (List.mem_of_getElem? (i := 7) rfl)) (fun _ h9 => h9) rfl dX6_differs_261 ?_
                      refine lv_iload_n hx hb dX6_differs_264 rfl (lv_at hl 0 rfl) ?_
                      refine iald_n (k := i2) hx hb hK.1 hP 3 rfl (by omega) (by decide) dX6_differs_265 ?_
                      refine lv_aload_n hx hb dX6_differs_266 rfl (lv_at hl 2 rfl) ?_
                      refine va_get (D := D) (ci := 6) (v := .ref m9) (C := RX6) (T := TX6) (N := 15) hx hb hts k6 hown hK.1 hP 0 rfl rfl 13 (by decide) (hts (.fieldLink RX6 39 "BoredPipesModel" "shelf" "[I") (List.mem_of_getElem? (i := 1) rfl)) (fun _ h9 => h9) rfl dX6_differs_267 ?_
                      refine lv_bipush (v := 50) hx hb dX6_differs_270 (by decide) ?_
                      refine lv_iload_n hx hb dX6_differs_272 rfl (lv_at hl 3 rfl) ?_
                      refine nn_imul hx hb dX6_differs_273 (x := 50) (y := k) rfl rfl ?_
                      refine lv_bipush (v := 28) hx hb dX6_differs_274 (by decide) ?_
                      refine nn_iadd hx hb dX6_differs_276 (x := (50 * k)) (y := 28) rfl rfl ?_
                      refine lv_iload_n hx hb dX6_differs_277 rfl (lv_at hl 0 rfl) ?_
                      refine nn_iadd hx hb dX6_differs_278 (x := ((50 * k) + 28)) (y := i2) rfl rfl ?_
                      refine iald_n (k := (((50 * k) + 28) + i2)) hx hb hK.1 hP 5 rfl (by omega) (by decide) dX6_differs_279 ?_
                      have jn_280 : ∀ (H : Heap) (locs : List Loc), va_P D vwCl [(mm, .inr (6, [.int (nI np), .ref m1, .ref m2, .int (nI nh), .ref m3, .ref m4, .int (nI nn), .ref m5, .ref m6, .ref m7, .ref m8, .int re, .int ro, .ref m9, .int tm])), (m1, .inl (cI, 12, .inl ln)), (m2, .inl (cI, 12, .inl bo)), (m3, .inl (cI, 18, .inl bd)), (m4, .inl (cI, 2, .inl en)), (m9, .inl (cI, 100, .inl sh))] H → va_S nA s.heap H locs → W p l e rmX6_differs s m a below meth c H locs 0 0 Q (F0 m 288 ls [.int (if (bd i2) = (sh (((50 * k) + 28) + i2)) then 1 else 0), .int (if (sh ((50 * k) + 1)) ≤ ((nI i2) / 3) then 0 else 1), .int (if (nI nh) ≤ ((nI i2) / 3) then 0 else 1), .int z2]) := by
                        intro H locs hP hS
                        refine rd_i (va_runS (As := [.int (if (nI nh) ≤ ((nI i2) / 3) then 0 else 1), .int (if (sh ((50 * k) + 1)) ≤ ((nI i2) / 3) then 0 else 1), .int (if (bd i2) = (sh (((50 * k) + 28) + i2)) then 1 else 0)]) (rest := [.int z2]) ⟨hx, hb, hml, hown, hts⟩ (c_X6_unlike l D cI cZ (if (nI nh) ≤ ((nI i2) / 3) then 0 else 1) (if (sh ((50 * k) + 1)) ≤ ((nI i2) / 3) then 0 else 1) (if (bd i2) = (sh (((50 * k) + 28) + i2)) then 1 else 0)) (va_cwS 3 hts gX6_differs_X6_unlike rfl rfl rfl hdV_X6_unlike.2 ⟨Nat.le_of_ble_eq_true rfl, Nat.le_of_ble_eq_true rfl⟩) (PR.S (hP.sub [] rfl) hK) rfl rfl hl.1 rfl (lv_room (Nat.le_of_ble_eq_true rfl)) dX6_differs_288 ⟨Nat.le_of_ble_eq_true rfl, Nat.le_of_ble_eq_true rfl⟩) hP hS (fun H locs hP hS => ?_)
                        refine lv_iadd hx hb dX6_differs_291 ?_
                        refine lv_istore_n (lv' := [(2, .int (z2 + (mUnlike (if (nI nh) ≤ ((nI i2) / 3) then 0 else 1) (if (sh ((50 * k) + 1)) ≤ ((nI i2) / 3) then 0 else 1) (if (bd i2) = (sh (((50 * k) + 28) + i2)) then 1 else 0)))), (3, .int (nI i2)), (0, .ref mm), (1, .int (nI k))]) hx hb dX6_differs_292 rfl hl (by decide) rfl (fun ls hl => ?_)
                        refine lv_iinc (v := nI (i2 + 1)) (lv' := [(3, .int (nI (i2 + 1))), (2, .int (z2 + (mUnlike (if (nI nh) ≤ ((nI i2) / 3) then 0 else 1) (if (sh ((50 * k) + 1)) ≤ ((nI i2) / 3) then 0 else 1) (if (bd i2) = (sh (((50 * k) + 28) + i2)) then 1 else 0)))), (0, .ref mm), (1, .int (nI k))]) hx hb dX6_differs_293 hl (k := 1) rfl (iinc_1 i2) (by decide) rfl (fun ls hl => ?_)
                        refine lv_goto (tgt := 216) hx hb dX6_differs_296 (by decide) ?_
                        exact ih_216 (i2 + 1) (z2 + (mUnlike (if (nI nh) ≤ ((nI i2) / 3) then 0 else 1) (if (sh ((50 * k) + 1)) ≤ ((nI i2) / 3) then 0 else 1) (if (bd i2) = (sh (((50 * k) + 28) + i2)) then 1 else 0))) (by omega) (hF2.trans (by first | with_reducible rfl | (simp only [mDiffers, nI_clamp (show k < 2147483648 from by omega), mDf1, mDf2, if_neg c1, if_pos c2, if_pos c5, if_neg c7]; done) | (simp [mDiffers, nI_clamp (show k < 2147483648 from by omega), mDf1, mDf2, if_neg c1, if_pos c2, if_pos c5, if_neg c7]; done))) _ _ hP hS ls (lv_sub hl [0, 1, 2, 3] rfl)
                      refine lv_icmp_ne (tgt := 287) hx hb dX6_differs_280 (by decide) (fun c10 => ?_) (fun c10 => ?_)
                      · skip
                        refine lv_iconst (v := 0) hx hb dX6_differs_287 (by decide) ?_
                        exact lv_eqi (if_neg c10).symm (jn_280 _ _ hP hS)
                      · skip
                        refine lv_iconst (v := 1) hx hb dX6_differs_283 (by decide) ?_
                        refine lv_goto (tgt := 288) hx hb dX6_differs_284 (by decide) ?_
                        exact lv_eqi (if_pos c10).symm (jn_280 _ _ hP hS)
                    refine lv_icmp_ge (tgt := 259) hx hb dX6_differs_252 (by decide) (fun c9 => ?_) (fun c9 => ?_)
                    · skip
                      refine lv_iconst (v := 0) hx hb dX6_differs_259 (by decide) ?_
                      exact lv_eqi (if_pos c9).symm (jn_252 _ _ hP hS)
                    · skip
                      refine lv_iconst (v := 1) hx hb dX6_differs_255 (by decide) ?_
                      refine lv_goto (tgt := 260) hx hb dX6_differs_256 (by decide) ?_
                      exact lv_eqi (if_neg c9).symm (jn_252 _ _ hP hS)
                  refine lv_icmp_ge (tgt := 237) hx hb dX6_differs_230 (by decide) (fun c8 => ?_) (fun c8 => ?_)
                  · skip
                    refine lv_iconst (v := 0) hx hb dX6_differs_237 (by decide) ?_
                    exact lv_eqi (if_pos c8).symm (jn_230 _ _ hP hS)
                  · skip
                    refine lv_iconst (v := 1) hx hb dX6_differs_233 (by decide) ?_
                    refine lv_goto (tgt := 238) hx hb dX6_differs_234 (by decide) ?_
                    exact lv_eqi (if_neg c8).symm (jn_230 _ _ hP hS)
              exact lp_216 18 0 z (by omega) (hF.trans (by simp only [mDf1])) _ _ hP hS ls (lv_sub hl [0, 1, 2, 3] rfl)
            | succ r ih_84 =>
              intro i z hi hF H locs hP hS ls hl
              refine lv_iload_n hx hb dX6_differs_84 rfl (lv_at hl 0 rfl) ?_
              refine lv_bipush (v := 12) hx hb dX6_differs_85 (by decide) ?_
              refine lv_icmp_ge (tgt := 214) hx hb dX6_differs_87 (by decide) (fun c11 => absurd c11 ((nI_ge (a := i) (b := 12) (by omega) (by omega)))) (fun c11 => ?_)
              refine lv_iload_n hx hb dX6_differs_90 rfl (lv_at hl 0 rfl) ?_
              refine lv_aload_n hx hb dX6_differs_91 rfl (lv_at hl 2 rfl) ?_
              refine va_get (D := D) (ci := 6) (v := .ref m9) (C := RX6) (T := TX6) (N := 15) hx hb hts k6 hown hK.1 hP 0 rfl rfl 13 (by decide) (hts (.fieldLink RX6 39 "BoredPipesModel" "shelf" "[I") (List.mem_of_getElem? (i := 1) rfl)) (fun _ h9 => h9) rfl dX6_differs_92 ?_
              refine lv_bipush (v := 50) hx hb dX6_differs_95 (by decide) ?_
              refine lv_iload_n hx hb dX6_differs_97 rfl (lv_at hl 3 rfl) ?_
              refine nn_imul hx hb dX6_differs_98 (x := 50) (y := k) rfl rfl ?_
              refine iald_n (k := (50 * k)) hx hb hK.1 hP 5 rfl (by omega) (by decide) dX6_differs_99 ?_
              have jn_100 : ∀ (H : Heap) (locs : List Loc), va_P D vwCl [(mm, .inr (6, [.int (nI np), .ref m1, .ref m2, .int (nI nh), .ref m3, .ref m4, .int (nI nn), .ref m5, .ref m6, .ref m7, .ref m8, .int re, .int ro, .ref m9, .int tm])), (m1, .inl (cI, 12, .inl ln)), (m2, .inl (cI, 12, .inl bo)), (m3, .inl (cI, 18, .inl bd)), (m4, .inl (cI, 2, .inl en)), (m9, .inl (cI, 100, .inl sh))] H → va_S nA s.heap H locs → W p l e rmX6_differs s m a below meth c H locs 0 0 Q (F0 m 108 ls [.int (if (sh (50 * k)) ≤ (nI i) then 0 else 1)]) := by
                intro H locs hP hS
                refine lv_istore (lv' := [(4, .int (if (sh (50 * k)) ≤ (nI i) then 0 else 1)), (3, .int (nI i)), (2, .int z), (0, .ref mm), (1, .int (nI k))]) hx hb dX6_differs_108 hl (by decide) rfl (fun ls hl => ?_)
                refine lv_iload_n hx hb dX6_differs_110 rfl (lv_at hl 2 rfl) ?_
                refine lv_iload_n hx hb dX6_differs_111 rfl (lv_at hl 1 rfl) ?_
                refine lv_aload_n hx hb dX6_differs_112 rfl (lv_at hl 3 rfl) ?_
                refine va_get (D := D) (ci := 6) (v := .int (nI np)) (C := RX6) (T := TX6) (N := 15) hx hb hts k6 hown hK.1 hP 0 rfl rfl 0 (by decide) (hts (.fieldLink RX6 42 "BoredPipesModel" "pieces" "I") (List.mem_of_getElem? (i := 3) rfl)) (fun _ h9 => h9) rfl dX6_differs_113 ?_
                have jn_116 : ∀ (H : Heap) (locs : List Loc), va_P D vwCl [(mm, .inr (6, [.int (nI np), .ref m1, .ref m2, .int (nI nh), .ref m3, .ref m4, .int (nI nn), .ref m5, .ref m6, .ref m7, .ref m8, .int re, .int ro, .ref m9, .int tm])), (m1, .inl (cI, 12, .inl ln)), (m2, .inl (cI, 12, .inl bo)), (m3, .inl (cI, 18, .inl bd)), (m4, .inl (cI, 2, .inl en)), (m9, .inl (cI, 100, .inl sh))] H → va_S nA s.heap H locs → W p l e rmX6_differs s m a below meth c H locs 0 0 Q (F0 m 124 ls [.int (if (nI np) ≤ (nI i) then 0 else 1), .int z]) := by
                  intro H locs hP hS
                  refine lv_iload hx hb dX6_differs_124 (lv_at hl 0 rfl) ?_
                  refine lv_aload_n hx hb dX6_differs_126 rfl (lv_at hl 3 rfl) ?_
                  refine va_get (D := D) (ci := 6) (v := .ref m1) (C := RX6) (T := TX6) (N := 15) hx hb hts k6 hown hK.1 hP 0 rfl rfl 1 (by decide) (hts (.fieldLink RX6 7 "BoredPipesModel" "lengths" "[I") (List.mem_of_getElem? (i := 4) rfl)) (fun _ h9 => h9) rfl dX6_differs_127 ?_
                  refine lv_iload_n hx hb dX6_differs_130 rfl (lv_at hl 1 rfl) ?_
                  refine iald_n (k := i) hx hb hK.1 hP 1 rfl (by omega) (by decide) dX6_differs_131 ?_
                  refine lv_aload_n hx hb dX6_differs_132 rfl (lv_at hl 3 rfl) ?_
                  refine va_get (D := D) (ci := 6) (v := .ref m9) (C := RX6) (T := TX6) (N := 15) hx hb hts k6 hown hK.1 hP 0 rfl rfl 13 (by decide) (hts (.fieldLink RX6 39 "BoredPipesModel" "shelf" "[I") (List.mem_of_getElem? (i := 1) rfl)) (fun _ h9 => h9) rfl dX6_differs_133 ?_
                  refine lv_bipush (v := 50) hx hb dX6_differs_136 (by decide) ?_
                  refine lv_iload_n hx hb dX6_differs_138 rfl (lv_at hl 4 rfl) ?_
                  refine nn_imul hx hb dX6_differs_139 (x := 50) (y := k) rfl rfl ?_
                  refine lv_iconst (v := 4) hx hb dX6_differs_140 (by decide) ?_
                  refine nn_iadd hx hb dX6_differs_141 (x := (50 * k)) (y := 4) rfl rfl ?_
                  refine lv_iconst (v := 2) hx hb dX6_differs_142 (by decide) ?_
                  refine lv_iload_n hx hb dX6_differs_143 rfl (lv_at hl 1 rfl) ?_
                  refine nn_imul hx hb dX6_differs_144 (x := 2) (y := i) rfl rfl ?_
                  refine nn_iadd hx hb dX6_differs_145 (x := ((50 * k) + 4)) (y := (2 * i)) rfl rfl ?_
                  refine iald_n (k := (((50 * k) + 4) + (2 * i))) hx hb hK.1 hP 5 rfl (by omega) (by decide) dX6_differs_146 ?_
                  have jn_147 : ∀ (H : Heap) (locs : List Loc), va_P D vwCl [(mm, .inr (6, [.int (nI np), .ref m1, .ref m2, .int (nI nh), .ref m3, .ref m4, .int (nI nn), .ref m5, .ref m6, .ref m7, .ref m8, .int re, .int ro, .ref m9, .int tm])), (m1, .inl (cI, 12, .inl ln)), (m2, .inl (cI, 12, .inl bo)), (m3, .inl (cI, 18, .inl bd)), (m4, .inl (cI, 2, .inl en)), (m9, .inl (cI, 100, .inl sh))] H → va_S nA s.heap H locs → W p l e rmX6_differs s m a below meth c H locs 0 0 Q (F0 m 155 ls [.int (if (ln i) = (sh (((50 * k) + 4) + (2 * i))) then 1 else 0), .int (if (sh (50 * k)) ≤ (nI i) then 0 else 1), .int (if (nI np) ≤ (nI i) then 0 else 1), .int z]) := by
                    intro H locs hP hS
                    refine rd_i (va_runS (As := [.int (if (nI np) ≤ (nI i) then 0 else 1), .int (if (sh (50 * k)) ≤ (nI i) then 0 else 1), .int (if (ln i) = (sh (((50 * k) + 4) + (2 * i))) then 1 else 0)]) (rest := [.int z]) ⟨hx, hb, hml, hown, hts⟩ (c_X6_unlike l D cI cZ (if (nI np) ≤ (nI i) then 0 else 1) (if (sh (50 * k)) ≤ (nI i) then 0 else 1) (if (ln i) = (sh (((50 * k) + 4) + (2 * i))) then 1 else 0)) (va_cwS 3 hts gX6_differs_X6_unlike rfl rfl rfl hdV_X6_unlike.2 ⟨Nat.le_of_ble_eq_true rfl, Nat.le_of_ble_eq_true rfl⟩) (PR.S (hP.sub [] rfl) hK) rfl rfl hl.1 rfl (lv_room (Nat.le_of_ble_eq_true rfl)) dX6_differs_155 ⟨Nat.le_of_ble_eq_true rfl, Nat.le_of_ble_eq_true rfl⟩) hP hS (fun H locs hP hS => ?_)
                    refine lv_iload_n hx hb dX6_differs_158 rfl (lv_at hl 1 rfl) ?_
                    refine lv_aload_n hx hb dX6_differs_159 rfl (lv_at hl 3 rfl) ?_
                    refine va_get (D := D) (ci := 6) (v := .int (nI np)) (C := RX6) (T := TX6) (N := 15) hx hb hts k6 hown hK.1 hP 0 rfl rfl 0 (by decide) (hts (.fieldLink RX6 42 "BoredPipesModel" "pieces" "I") (List.mem_of_getElem? (i := 3) rfl)) (fun _ h9 => h9) rfl dX6_differs_160 ?_
                    have jn_163 : ∀ (H : Heap) (locs : List Loc), va_P D vwCl [(mm, .inr (6, [.int (nI np), .ref m1, .ref m2, .int (nI nh), .ref m3, .ref m4, .int (nI nn), .ref m5, .ref m6, .ref m7, .ref m8, .int re, .int ro, .ref m9, .int tm])), (m1, .inl (cI, 12, .inl ln)), (m2, .inl (cI, 12, .inl bo)), (m3, .inl (cI, 18, .inl bd)), (m4, .inl (cI, 2, .inl en)), (m9, .inl (cI, 100, .inl sh))] H → va_S nA s.heap H locs → W p l e rmX6_differs s m a below meth c H locs 0 0 Q (F0 m 171 ls [.int (if (nI np) ≤ (nI i) then 0 else 1), .int (mUnlike (if (nI np) ≤ (nI i) then 0 else 1) (if (sh (50 * k)) ≤ (nI i) then 0 else 1) (if (ln i) = (sh (((50 * k) + 4) + (2 * i))) then 1 else 0)), .int z]) := by
                      intro H locs hP hS
                      refine lv_iload hx hb dX6_differs_171 (lv_at hl 0 rfl) ?_
                      refine lv_aload_n hx hb dX6_differs_173 rfl (lv_at hl 3 rfl) ?_
                      refine va_get (D := D) (ci := 6) (v := .ref m2) (C := RX6) (T := TX6) (N := 15) hx hb hts k6 hown hK.1 hP 0 rfl rfl 2 (by decide) (hts (.fieldLink RX6 13 "BoredPipesModel" "bores" "[I") (List.mem_of_getElem? (i := 5) rfl)) (fun _ h9 => h9) rfl dX6_differs_174 ?_
                      refine lv_iload_n hx hb dX6_differs_177 rfl (lv_at hl 1 rfl) ?_
                      refine iald_n (k := i) hx hb hK.1 hP 2 rfl (by omega) (by decide) dX6_differs_178 ?_
                      refine lv_aload_n hx hb dX6_differs_179 rfl (lv_at hl 3 rfl) ?_
                      refine va_get (D := D) (ci := 6) (v := .ref m9) (C := RX6) (T := TX6) (N := 15) hx hb hts k6 hown hK.1 hP 0 rfl rfl 13 (by decide) (hts (.fieldLink RX6 39 "BoredPipesModel" "shelf" "[I") (List.mem_of_getElem? (i := 1) rfl)) (fun _ h9 => h9) rfl dX6_differs_180 ?_
                      refine lv_bipush (v := 50) hx hb dX6_differs_183 (by decide) ?_
                      refine lv_iload_n hx hb dX6_differs_185 rfl (lv_at hl 4 rfl) ?_
                      refine nn_imul hx hb dX6_differs_186 (x := 50) (y := k) rfl rfl ?_
                      refine lv_iconst (v := 5) hx hb dX6_differs_187 (by decide) ?_
                      refine nn_iadd hx hb dX6_differs_188 (x := (50 * k)) (y := 5) rfl rfl ?_
                      refine lv_iconst (v := 2) hx hb dX6_differs_189 (by decide) ?_
                      refine lv_iload_n hx hb dX6_differs_190 rfl (lv_at hl 1 rfl) ?_
                      refine nn_imul hx hb dX6_differs_191 (x := 2) (y := i) rfl rfl ?_
                      refine nn_iadd hx hb dX6_differs_192 (x := ((50 * k) + 5)) (y := (2 * i)) rfl rfl ?_
                      refine iald_n (k := (((50 * k) + 5) + (2 * i))) hx hb hK.1 hP 5 rfl (by omega) (by decide) dX6_differs_193 ?_
                      have jn_194 : ∀ (H : Heap) (locs : List Loc), va_P D vwCl [(mm, .inr (6, [.int (nI np), .ref m1, .ref m2, .int (nI nh), .ref m3, .ref m4, .int (nI nn), .ref m5, .ref m6, .ref m7, .ref m8, .int re, .int ro, .ref m9, .int tm])), (m1, .inl (cI, 12, .inl ln)), (m2, .inl (cI, 12, .inl bo)), (m3, .inl (cI, 18, .inl bd)), (m4, .inl (cI, 2, .inl en)), (m9, .inl (cI, 100, .inl sh))] H → va_S nA s.heap H locs → W p l e rmX6_differs s m a below meth c H locs 0 0 Q (F0 m 202 ls [.int (if (bo i) = (sh (((50 * k) + 5) + (2 * i))) then 1 else 0), .int (if (sh (50 * k)) ≤ (nI i) then 0 else 1), .int (if (nI np) ≤ (nI i) then 0 else 1), .int (mUnlike (if (nI np) ≤ (nI i) then 0 else 1) (if (sh (50 * k)) ≤ (nI i) then 0 else 1) (if (ln i) = (sh (((50 * k) + 4) + (2 * i))) then 1 else 0)), .int z]) := by
                        intro H locs hP hS
                        refine rd_i (va_runS (As := [.int (if (nI np) ≤ (nI i) then 0 else 1), .int (if (sh (50 * k)) ≤ (nI i) then 0 else 1), .int (if (bo i) = (sh (((50 * k) + 5) + (2 * i))) then 1 else 0)]) (rest := [.int (mUnlike (if (nI np) ≤ (nI i) then 0 else 1) (if (sh (50 * k)) ≤ (nI i) then 0 else 1) (if (ln i) = (sh (((50 * k) + 4) + (2 * i))) then 1 else 0)), .int z]) ⟨hx, hb, hml, hown, hts⟩ (c_X6_unlike l D cI cZ (if (nI np) ≤ (nI i) then 0 else 1) (if (sh (50 * k)) ≤ (nI i) then 0 else 1) (if (bo i) = (sh (((50 * k) + 5) + (2 * i))) then 1 else 0)) (va_cwS 3 hts gX6_differs_X6_unlike rfl rfl rfl hdV_X6_unlike.2 ⟨Nat.le_of_ble_eq_true rfl, Nat.le_of_ble_eq_true rfl⟩) (PR.S (hP.sub [] rfl) hK) rfl rfl hl.1 rfl (lv_room (Nat.le_of_ble_eq_true rfl)) dX6_differs_202 ⟨Nat.le_of_ble_eq_true rfl, Nat.le_of_ble_eq_true rfl⟩) hP hS (fun H locs hP hS => ?_)
                        refine lv_iadd hx hb dX6_differs_205 ?_
                        refine lv_iadd hx hb dX6_differs_206 ?_
                        refine lv_istore_n (lv' := [(2, .int (z + ((mUnlike (if (nI np) ≤ (nI i) then 0 else 1) (if (sh (50 * k)) ≤ (nI i) then 0 else 1) (if (ln i) = (sh (((50 * k) + 4) + (2 * i))) then 1 else 0)) + (mUnlike (if (nI np) ≤ (nI i) then 0 else 1) (if (sh (50 * k)) ≤ (nI i) then 0 else 1) (if (bo i) = (sh (((50 * k) + 5) + (2 * i))) then 1 else 0))))), (4, .int (if (sh (50 * k)) ≤ (nI i) then 0 else 1)), (3, .int (nI i)), (0, .ref mm), (1, .int (nI k))]) hx hb dX6_differs_207 rfl hl (by decide) rfl (fun ls hl => ?_)
                        refine lv_iinc (v := nI (i + 1)) (lv' := [(3, .int (nI (i + 1))), (2, .int (z + ((mUnlike (if (nI np) ≤ (nI i) then 0 else 1) (if (sh (50 * k)) ≤ (nI i) then 0 else 1) (if (ln i) = (sh (((50 * k) + 4) + (2 * i))) then 1 else 0)) + (mUnlike (if (nI np) ≤ (nI i) then 0 else 1) (if (sh (50 * k)) ≤ (nI i) then 0 else 1) (if (bo i) = (sh (((50 * k) + 5) + (2 * i))) then 1 else 0))))), (4, .int (if (sh (50 * k)) ≤ (nI i) then 0 else 1)), (0, .ref mm), (1, .int (nI k))]) hx hb dX6_differs_208 hl (k := 2) rfl (iinc_1 i) (by decide) rfl (fun ls hl => ?_)
                        refine lv_goto (tgt := 84) hx hb dX6_differs_211 (by decide) ?_
                        exact ih_84 (i + 1) (z + ((mUnlike (if (nI np) ≤ (nI i) then 0 else 1) (if (sh (50 * k)) ≤ (nI i) then 0 else 1) (if (ln i) = (sh (((50 * k) + 4) + (2 * i))) then 1 else 0)) + (mUnlike (if (nI np) ≤ (nI i) then 0 else 1) (if (sh (50 * k)) ≤ (nI i) then 0 else 1) (if (bo i) = (sh (((50 * k) + 5) + (2 * i))) then 1 else 0)))) (by omega) (hF.trans (by first | with_reducible rfl | (simp only [mDiffers, nI_clamp (show k < 2147483648 from by omega), mDf1, if_neg c1, if_pos c2, if_neg c11]; done) | (simp [mDiffers, nI_clamp (show k < 2147483648 from by omega), mDf1, if_neg c1, if_pos c2, if_neg c11]; done))) _ _ hP hS ls (lv_sub hl [0, 1, 3, 4] rfl)
                      refine lv_icmp_ne (tgt := 201) hx hb dX6_differs_194 (by decide) (fun c16 => ?_) (fun c16 => ?_)
                      · skip
                        refine lv_iconst (v := 0) hx hb dX6_differs_201 (by decide) ?_
                        exact lv_eqi (if_neg c16).symm (jn_194 _ _ hP hS)
                      · skip
                        refine lv_iconst (v := 1) hx hb dX6_differs_197 (by decide) ?_
                        refine lv_goto (tgt := 202) hx hb dX6_differs_198 (by decide) ?_
                        exact lv_eqi (if_pos c16).symm (jn_194 _ _ hP hS)
                    refine lv_icmp_ge (tgt := 170) hx hb dX6_differs_163 (by decide) (fun c15 => ?_) (fun c15 => ?_)
                    · skip
                      refine lv_iconst (v := 0) hx hb dX6_differs_170 (by decide) ?_
                      exact lv_eqi (if_pos c15).symm (jn_163 _ _ hP hS)
                    · skip
                      refine lv_iconst (v := 1) hx hb dX6_differs_166 (by decide) ?_
                      refine lv_goto (tgt := 171) hx hb dX6_differs_167 (by decide) ?_
                      exact lv_eqi (if_neg c15).symm (jn_163 _ _ hP hS)
                  refine lv_icmp_ne (tgt := 154) hx hb dX6_differs_147 (by decide) (fun c14 => ?_) (fun c14 => ?_)
                  · skip
                    refine lv_iconst (v := 0) hx hb dX6_differs_154 (by decide) ?_
                    exact lv_eqi (if_neg c14).symm (jn_147 _ _ hP hS)
                  · skip
                    refine lv_iconst (v := 1) hx hb dX6_differs_150 (by decide) ?_
                    refine lv_goto (tgt := 155) hx hb dX6_differs_151 (by decide) ?_
                    exact lv_eqi (if_pos c14).symm (jn_147 _ _ hP hS)
                refine lv_icmp_ge (tgt := 123) hx hb dX6_differs_116 (by decide) (fun c13 => ?_) (fun c13 => ?_)
                · skip
                  refine lv_iconst (v := 0) hx hb dX6_differs_123 (by decide) ?_
                  exact lv_eqi (if_pos c13).symm (jn_116 _ _ hP hS)
                · skip
                  refine lv_iconst (v := 1) hx hb dX6_differs_119 (by decide) ?_
                  refine lv_goto (tgt := 124) hx hb dX6_differs_120 (by decide) ?_
                  exact lv_eqi (if_neg c13).symm (jn_116 _ _ hP hS)
              refine lv_icmp_ge (tgt := 107) hx hb dX6_differs_100 (by decide) (fun c12 => ?_) (fun c12 => ?_)
              · skip
                refine lv_iconst (v := 0) hx hb dX6_differs_107 (by decide) ?_
                exact lv_eqi (if_pos c12).symm (jn_100 _ _ hP hS)
              · skip
                refine lv_iconst (v := 1) hx hb dX6_differs_103 (by decide) ?_
                refine lv_goto (tgt := 108) hx hb dX6_differs_104 (by decide) ?_
                exact lv_eqi (if_neg c12).symm (jn_100 _ _ hP hS)
          exact lp_84 12 0 ((if (en 0) = (sh ((50 * k) + 2)) then 0 else 1) + (if (en 1) = (sh ((50 * k) + 3)) then 0 else 1)) (by omega) (by first | with_reducible rfl | (simp only [mDiffers, nI_clamp (show k < 2147483648 from by omega), if_neg c1, if_pos c2]; done) | (simp [mDiffers, nI_clamp (show k < 2147483648 from by omega), if_neg c1, if_pos c2]; done)) _ _ hP hS ls (lv_sub hl [0, 1, 2, 3] rfl)
        refine lv_icmp_ne (tgt := 79) hx hb dX6_differs_72 (by decide) (fun c4 => ?_) (fun c4 => ?_)
        · skip
          refine lv_iconst (v := 1) hx hb dX6_differs_79 (by decide) ?_
          exact lv_eqi (if_neg c4).symm (jn_72 _ _ hP hS)
        · skip
          refine lv_iconst (v := 0) hx hb dX6_differs_75 (by decide) ?_
          refine lv_goto (tgt := 80) hx hb dX6_differs_76 (by decide) ?_
          exact lv_eqi (if_pos c4).symm (jn_72 _ _ hP hS)
      refine lv_icmp_ne (tgt := 54) hx hb dX6_differs_47 (by decide) (fun c3 => ?_) (fun c3 => ?_)
      · skip
        refine lv_iconst (v := 1) hx hb dX6_differs_54 (by decide) ?_
        exact lv_eqi (if_neg c3).symm (jn_47 _ _ hP hS)
      · skip
        refine lv_iconst (v := 0) hx hb dX6_differs_50 (by decide) ?_
        refine lv_goto (tgt := 55) hx hb dX6_differs_51 (by decide) ?_
        exact lv_eqi (if_pos c3).symm (jn_47 _ _ hP hS)
    · skip
      refine lv_sipush (v := (-1003)) hx hb dX6_differs_26 (by decide) ?_
      exact ret_RI hQ hx hb hr hlk hS (show mDiffers (nI k) np nh en ln bo bd sh = (-1003) from (by first | with_reducible rfl | (simp only [mDiffers, nI_clamp (show k < 2147483648 from by omega), if_neg c1, if_neg c2]; done) | (simp [mDiffers, nI_clamp (show k < 2147483648 from by omega), if_neg c1, if_neg c2]; done))).symm dX6_differs_29
  · skip
    refine lv_sipush (v := (-1001)) hx hb dX6_differs_10 (by decide) ?_
    exact ret_RI hQ hx hb hr hlk hS (show mDiffers x np nh en ln bo bd sh = (-1001) from (by first | with_reducible rfl | (simp only [mDiffers, if_pos c1]; done) | (simp [mDiffers, if_pos c1]; done))).symm dX6_differs_13
