set_option maxHeartbeats 4000000 in
set_option maxRecDepth 100000 in
theorem c_X2_startOf_g (l : Launch) (D : va_G) (cI cZ : ClassId) (h : Nat) (h1 : Nat) (h2 : Nat) (h3 : Nat) (h4 : Nat) (h5 : Nat) (np : Nat) (nh : Nat) (mo : Int32) (fa : Int32) (ln : Nat → Int32) (x : Int32) (hk : x.toNatClampNeg ≤ 12) : Met l yX2_startOf wsX2_startOf rmX2_startOf (va_Pc [.ref h, .int x] (PR D cI cZ [(h, .inr (2, [.ref h1, .ref h2, .ref h3, .ref h4, .ref h5, .int (nI np), .int (nI nh), .int mo, .int fa])), (h1, .inl (cI, 12, .inl ln))])) (RI (fSum ln x.toNatClampNeg 0 0)) 0 0 nA := by
  refine met_go (cc := cX2_startOf) (maxL := 4) (ret := (some .int)) (by decide) rfl ?_ (Nat.le_of_ble_eq_true rfl)
  intro p e s m a below meth c Q hQ _ hx hb hr hml hts hown hlk hnm hpre ls hl
  have hown : s.vm.findClass RX2 = some m.cls := hown
  obtain ⟨hP, hK⟩ := hpre
  have hN := hK.2
  have hS : va_S nA s.heap s.heap [] := va_S.rf
  have hl : lv_has ls 4 [(0, .ref h), (1, .int x)] := hl
  have k2 : ∀ w ∈ wsX20, w ∈ wsX2_startOf := fun w h => List.mem_cons_of_mem _ (List.mem_append_right _ h)
  refine lv_iconst (v := 0) hx hb dX2_startOf_0 (by decide) ?_
  refine lv_istore_n (lv' := [(2, .int 0), (0, .ref h), (1, .int x)]) hx hb dX2_startOf_1 rfl hl (by decide) rfl (fun ls hl => ?_)
  refine lv_iconst (v := 0) hx hb dX2_startOf_2 (by decide) ?_
  refine lv_istore_n (lv' := [(3, .int 0), (2, .int 0), (0, .ref h), (1, .int x)]) hx hb dX2_startOf_3 rfl hl (by decide) rfl (fun ls hl => ?_)
  have lp_4 : ∀ (r : Nat) (i : Nat) (z : Int32), (i + r = x.toNatClampNeg) → (fSum ln x.toNatClampNeg 0 0 = fSum ln r i z) → ∀ (H : Heap) (locs : List Loc), va_P D vwCl [(h, .inr (2, [.ref h1, .ref h2, .ref h3, .ref h4, .ref h5, .int (nI np), .int (nI nh), .int mo, .int fa])), (h1, .inl (cI, 12, .inl ln))] H → va_S nA s.heap H locs → ∀ (ls : Array Slot), lv_has ls 4 [(3, .int (nI i)), (2, .int z), (0, .ref h), (1, .int x)] → W p l e rmX2_startOf s m a below meth c H locs 0 0 Q (F0 m 4 ls []) := by
    intro r
    induction r with
    | zero =>
      intro i z hi hF H locs hP hS ls hl
      refine lv_iload_n hx hb dX2_startOf_4 rfl (lv_at hl 0 rfl) ?_
      refine lv_iload_n hx hb dX2_startOf_5 rfl (lv_at hl 3 rfl) ?_
      refine lv_icmp_ge (tgt := 26) hx hb dX2_startOf_6 (by decide) (fun c1 => ?_) (fun c1 => absurd (cl_le (by omega)) c1)
      refine lv_iload_n hx hb dX2_startOf_26 rfl (lv_at hl 1 rfl) ?_
      exact ret_RI hQ hx hb hr hlk hS (hF.trans (by first | with_reducible rfl | (simp only [fSum, if_pos c1]; done) | (simp [fSum, if_pos c1]; done))).symm dX2_startOf_27
    | succ r ih_4 =>
      intro i z hi hF H locs hP hS ls hl
      refine lv_iload_n hx hb dX2_startOf_4 rfl (lv_at hl 0 rfl) ?_
      refine lv_iload_n hx hb dX2_startOf_5 rfl (lv_at hl 3 rfl) ?_
      refine lv_icmp_ge (tgt := 26) hx hb dX2_startOf_6 (by decide) (fun c2 => absurd c2 (cl_nle (by omega))) (fun c2 => ?_)
      refine lv_iload_n hx hb dX2_startOf_9 rfl (lv_at hl 1 rfl) ?_
      refine lv_aload_n hx hb dX2_startOf_10 rfl (lv_at hl 2 rfl) ?_
      refine va_get (D := D) (ci := 2) (v := .ref h1) (C := RX2) (T := TX2) (N := 9) hx hb hts k2 hown hK.1 hP 0 rfl rfl 0 (by decide) (hts (.fieldLink RX2 9 "BoredPipes$Pipe" "lengths" "[I") (List.mem_of_getElem? (i := 1) rfl)) (fun _ h9 => h9) rfl dX2_startOf_11 ?_
      refine lv_iload_n hx hb dX2_startOf_14 rfl (lv_at hl 0 rfl) ?_
      refine rd_i (va_runSN (As := [.ref h1, .int (nI i)]) (rest := [.int z]) ⟨hx, hb, hml, hown, hts⟩ (c_X5_at_in l D cI cZ h1 12 ln i (by first | omega | exact hk) (by omega)) ⟨va_cnB 2 hts gX2_startOf_X5_at_n48 rfl rfl rfl (nwL7 hN) (hts (.initialized RX5) (List.mem_of_getElem? (i := 3) rfl)) hdV_X5_at.2 ⟨Nat.le_of_ble_eq_true rfl, Nat.le_of_ble_eq_true rfl⟩, (hts (.static yX5_at) (List.mem_of_getElem? (i := 2) rfl)), trivial⟩ (PR.S (hP.sub [1] rfl) hK) rfl rfl hl.1 rfl (lv_room (Nat.le_of_ble_eq_true rfl)) dX2_startOf_15 ⟨Nat.le_of_ble_eq_true rfl, Nat.le_of_ble_eq_true rfl⟩) hP hS (fun H locs hP hS => ?_)
      refine lv_iadd hx hb dX2_startOf_18 ?_
      refine lv_istore_n (lv' := [(2, .int (z + (ln i))), (3, .int (nI i)), (0, .ref h), (1, .int x)]) hx hb dX2_startOf_19 rfl hl (by decide) rfl (fun ls hl => ?_)
      refine lv_iinc (v := nI (i + 1)) (lv' := [(3, .int (nI (i + 1))), (2, .int (z + (ln i))), (0, .ref h), (1, .int x)]) hx hb dX2_startOf_20 hl (k := 1) rfl (iinc_1 i) (by decide) rfl (fun ls hl => ?_)
      refine lv_goto (tgt := 4) hx hb dX2_startOf_23 (by decide) ?_
      exact ih_4 (i + 1) (z + (ln i)) (by omega) (hF.trans (by first | with_reducible rfl | (simp only [fSum, if_neg c2]; done) | (simp [fSum, if_neg c2]; done))) _ _ hP hS ls (lv_sub hl [0, 1, 2, 3] rfl)
  exact lp_4 x.toNatClampNeg 0 0 (by omega) rfl _ _ hP hS ls (lv_sub hl [0, 1, 2, 3] rfl)

set_option maxHeartbeats 4000000 in
set_option maxRecDepth 100000 in
theorem c_X2_ofHole (l : Launch) (D : va_G) (cI cZ : ClassId) (h : Nat) (h1 : Nat) (h2 : Nat) (h3 : Nat) (h4 : Nat) (h5 : Nat) (np : Nat) (nh : Nat) (mo : Int32) (fa : Int32) (pl : Nat → Int32) (sz : Nat → Int32) (ch : Nat → Int32) (k : Nat) (v : Int32) (hk : k < 6) : Met l yX2_ofHole wsX2_ofHole rmX2_ofHole (va_Pc [.ref h, .int (nI k), .int v] (PR D cI cZ [(h, .inr (2, [.ref h1, .ref h2, .ref h3, .ref h4, .ref h5, .int (nI np), .int (nI nh), .int mo, .int fa])), (h3, .inl (cI, 6, .inl pl)), (h4, .inl (cI, 6, .inl sz)), (h5, .inl (cI, 6, .inl ch))])) (RI (fRow3 pl sz ch v k)) 0 0 nA := by
  refine met_go (cc := cX2_ofHole) (maxL := 3) (ret := (some .int)) (by decide) rfl ?_ (Nat.le_of_ble_eq_true rfl)
  intro p e s m a below meth c Q hQ _ hx hb hr hml hts hown hlk hnm hpre ls hl
  have hown : s.vm.findClass RX2 = some m.cls := hown
  obtain ⟨hP, hK⟩ := hpre
  have hN := hK.2
  have hS : va_S nA s.heap s.heap [] := va_S.rf
  have hl : lv_has ls 3 [(0, .ref h), (1, .int (nI k)), (2, .int v)] := hl
  refine lv_aload_n hx hb dX2_ofHole_0 rfl (lv_at hl 0 rfl) ?_
  refine lv_iload_n hx hb dX2_ofHole_1 rfl (lv_at hl 2 rfl) ?_
  refine rd_r (va_runV (As := [.int v]) (rest := []) ⟨hx, hb, hml, hown, hts⟩ (c_X2_rowOf l D cI cZ h h1 h2 h3 h4 h5 np nh mo fa v) (cwV 1 hts gX2_ofHole_X2_rowOf rfl rfl rfl hdV_X2_rowOf ⟨Nat.le_of_ble_eq_true rfl, Nat.le_of_ble_eq_true rfl⟩) (PR.V (hP.sub [0] rfl) hK hP (q0 := 0) rfl rfl) rfl rfl hl.1 rfl (lv_room (Nat.le_of_ble_eq_true rfl)) dX2_ofHole_2 ⟨Nat.le_of_ble_eq_true rfl, Nat.le_of_ble_eq_true rfl⟩) hP hS (fun H locs hP hS => ?_)
  by_cases c1 : v = 0
  · skip
    refine lv_eqr (show fRowOf h3 h4 h5 v = h3 from (by simp only [fRowOf, if_pos c1])) ?_
    refine lv_iload_n hx hb dX2_ofHole_5 rfl (lv_at hl 1 rfl) ?_
    refine rd_i (va_runSN (As := [.ref h3, .int (nI k)]) (rest := []) ⟨hx, hb, hml, hown, hts⟩ (c_X5_at_in l D cI cZ h3 6 pl k (by first | omega | exact hk) (by omega)) ⟨va_cnB 2 hts gX2_ofHole_X5_at_n48 rfl rfl rfl (nwL7 hN) (hts (.initialized RX5) (List.mem_of_getElem? (i := 10) rfl)) hdV_X5_at.2 ⟨Nat.le_of_ble_eq_true rfl, Nat.le_of_ble_eq_true rfl⟩, (hts (.static yX5_at) (List.mem_of_getElem? (i := 9) rfl)), trivial⟩ (PR.S (hP.sub [1] rfl) hK) rfl rfl hl.1 rfl (lv_room (Nat.le_of_ble_eq_true rfl)) dX2_ofHole_6 ⟨Nat.le_of_ble_eq_true rfl, Nat.le_of_ble_eq_true rfl⟩) hP hS (fun H locs hP hS => ?_)
    exact ret_RI hQ hx hb hr hlk hS (show fRow3 pl sz ch v k = pl k from (by first | with_reducible rfl | (simp only [fRow3, if_pos c1]; done) | (simp [fRow3, if_pos c1]; done))).symm dX2_ofHole_9
  by_cases c2 : v = 1
  · skip
    refine lv_eqr (show fRowOf h3 h4 h5 v = h4 from (by simp only [fRowOf, if_neg c1, if_pos c2])) ?_
    refine lv_iload_n hx hb dX2_ofHole_5 rfl (lv_at hl 1 rfl) ?_
    refine rd_i (va_runSN (As := [.ref h4, .int (nI k)]) (rest := []) ⟨hx, hb, hml, hown, hts⟩ (c_X5_at_in l D cI cZ h4 6 sz k (by first | omega | exact hk) (by omega)) ⟨va_cnB 2 hts gX2_ofHole_X5_at_n48 rfl rfl rfl (nwL7 hN) (hts (.initialized RX5) (List.mem_of_getElem? (i := 10) rfl)) hdV_X5_at.2 ⟨Nat.le_of_ble_eq_true rfl, Nat.le_of_ble_eq_true rfl⟩, (hts (.static yX5_at) (List.mem_of_getElem? (i := 9) rfl)), trivial⟩ (PR.S (hP.sub [2] rfl) hK) rfl rfl hl.1 rfl (lv_room (Nat.le_of_ble_eq_true rfl)) dX2_ofHole_6 ⟨Nat.le_of_ble_eq_true rfl, Nat.le_of_ble_eq_true rfl⟩) hP hS (fun H locs hP hS => ?_)
    exact ret_RI hQ hx hb hr hlk hS (show fRow3 pl sz ch v k = sz k from (by first | with_reducible rfl | (simp only [fRow3, if_neg c1, if_pos c2]; done) | (simp [fRow3, if_neg c1, if_pos c2]; done))).symm dX2_ofHole_9
  refine lv_eqr (show fRowOf h3 h4 h5 v = h5 from (by simp only [fRowOf, if_neg c1, if_neg c2])) ?_
  refine lv_iload_n hx hb dX2_ofHole_5 rfl (lv_at hl 1 rfl) ?_
  refine rd_i (va_runSN (As := [.ref h5, .int (nI k)]) (rest := []) ⟨hx, hb, hml, hown, hts⟩ (c_X5_at_in l D cI cZ h5 6 ch k (by first | omega | exact hk) (by omega)) ⟨va_cnB 2 hts gX2_ofHole_X5_at_n48 rfl rfl rfl (nwL7 hN) (hts (.initialized RX5) (List.mem_of_getElem? (i := 10) rfl)) hdV_X5_at.2 ⟨Nat.le_of_ble_eq_true rfl, Nat.le_of_ble_eq_true rfl⟩, (hts (.static yX5_at) (List.mem_of_getElem? (i := 9) rfl)), trivial⟩ (PR.S (hP.sub [3] rfl) hK) rfl rfl hl.1 rfl (lv_room (Nat.le_of_ble_eq_true rfl)) dX2_ofHole_6 ⟨Nat.le_of_ble_eq_true rfl, Nat.le_of_ble_eq_true rfl⟩) hP hS (fun H locs hP hS => ?_)
  exact ret_RI hQ hx hb hr hlk hS (show fRow3 pl sz ch v k = ch k from (by first | with_reducible rfl | (simp only [fRow3, if_neg c1, if_neg c2]; done) | (simp [fRow3, if_neg c1, if_neg c2]; done))).symm dX2_ofHole_9

set_option maxHeartbeats 4000000 in
set_option maxRecDepth 100000 in
theorem c_X2_changeHole (l : Launch) (D : va_G) (cI cZ : ClassId) (h : Nat) (h1 : Nat) (h2 : Nat) (h3 : Nat) (h4 : Nat) (h5 : Nat) (np : Nat) (nh : Nat) (mo : Int32) (fa : Int32) (pl : Nat → Int32) (sz : Nat → Int32) (ch : Nat → Int32) (k : Nat) (v : Int32) (x : Int32) (hk : k < 6) : Met l yX2_changeHole wsX2_changeHole rmX2_changeHole (va_Pc [.ref h, .int (nI k), .int v, .int x] (PW D cI cZ [(h, .inr (2, [.ref h1, .ref h2, .ref h3, .ref h4, .ref h5, .int (nI np), .int (nI nh), .int mo, .int fa])), (h3, .inl (cI, 6, .inl pl)), (h4, .inl (cI, 6, .inl sz)), (h5, .inl (cI, 6, .inl ch))])) (WV (S := Unit) D (fun _ => True) (fun _ => [(h, .inr (2, [.ref h1, .ref h2, .ref h3, .ref h4, .ref h5, .int (nI np), .int (nI nh), .int mo, .int fa])), (h3, .inl (cI, 6, .inl (cPl pl v k x))), (h4, .inl (cI, 6, .inl (cSz sz v k x))), (h5, .inl (cI, 6, .inl (cCh ch v k x)))]) [(h, .inr (2, [.ref h1, .ref h2, .ref h3, .ref h4, .ref h5, .int (nI np), .int (nI nh), .int mo, .int fa])), (h3, .inl (cI, 6, .inl pl)), (h4, .inl (cI, 6, .inl sz)), (h5, .inl (cI, 6, .inl ch))]) 0 0 (ad [(h, .inr (2, [.ref h1, .ref h2, .ref h3, .ref h4, .ref h5, .int (nI np), .int (nI nh), .int mo, .int fa])), (h3, .inl (cI, 6, .inl pl)), (h4, .inl (cI, 6, .inl sz)), (h5, .inl (cI, 6, .inl ch))]) := by
  refine met_go (cc := cX2_changeHole) (maxL := 4) (ret := none) (by decide) rfl ?_ (Nat.le_of_ble_eq_true rfl)
  intro p e s m a below meth c Q hQ _ hx hb hr hml hts hown hlk hnm hpre ls hl
  have hown : s.vm.findClass RX2 = some m.cls := hown
  obtain ⟨hP, hK, hD0⟩ := hpre
  have hN := hK.2
  obtain ⟨A, hAe⟩ : ∃ A : Nat → Prop, A = ad [(h, .inr (2, [.ref h1, .ref h2, .ref h3, .ref h4, .ref h5, .int (nI np), .int (nI nh), .int mo, .int fa])), (h3, .inl (cI, 6, .inl pl)), (h4, .inl (cI, 6, .inl sz)), (h5, .inl (cI, 6, .inl ch))] := ⟨_, rfl⟩
  have hD : va_D A [(h, .inr (2, [.ref h1, .ref h2, .ref h3, .ref h4, .ref h5, .int (nI np), .int (nI nh), .int mo, .int fa])), (h3, .inl (cI, 6, .inl pl)), (h4, .inl (cI, 6, .inl sz)), (h5, .inl (cI, 6, .inl ch))] := by rw [hAe]; exact hD0.ad
  have hS : va_S A s.heap s.heap [] := va_S.rf
  have hl : lv_has ls 4 [(0, .ref h), (1, .int (nI k)), (2, .int v), (3, .int x)] := hl
  refine lv_aload_n hx hb dX2_changeHole_0 rfl (lv_at hl 0 rfl) ?_
  refine lv_iload_n hx hb dX2_changeHole_1 rfl (lv_at hl 2 rfl) ?_
  refine rd_r (va_runV (As := [.int v]) (rest := []) ⟨hx, hb, hml, hown, hts⟩ (c_X2_rowOf l D cI cZ h h1 h2 h3 h4 h5 np nh mo fa v) (cwV 1 hts gX2_changeHole_X2_rowOf rfl rfl rfl hdV_X2_rowOf ⟨Nat.le_of_ble_eq_true rfl, Nat.le_of_ble_eq_true rfl⟩) (PR.V (hP.sub [0] rfl) hK hP (q0 := 0) rfl rfl) rfl rfl hl.1 rfl (lv_room (Nat.le_of_ble_eq_true rfl)) dX2_changeHole_2 ⟨Nat.le_of_ble_eq_true rfl, Nat.le_of_ble_eq_true rfl⟩) hP hS (fun H locs hP hS => ?_)
  by_cases c1 : v = 0
  · skip
    refine lv_eqr (show fRowOf h3 h4 h5 v = h3 from (by simp only [fRowOf, if_pos c1])) ?_
    refine lv_iload_n hx hb dX2_changeHole_5 rfl (lv_at hl 1 rfl) ?_
    refine lv_iload_n hx hb dX2_changeHole_6 rfl (lv_at hl 3 rfl) ?_
    refine wr_v (va_runSN (As := [.ref h3, .int (nI k), .int x]) (rest := []) ⟨hx, hb, hml, hown, hts⟩ (c_X5_put_in l D cI cZ h3 6 pl k x (by first | omega | exact hk) (by omega)) ⟨va_cnB 3 hts gX2_changeHole_X5_put_n40 rfl rfl rfl (nwL6 hN) (hts (.initialized RX5) (List.mem_of_getElem? (i := 10) rfl)) hdV_X5_put.2 ⟨Nat.le_of_ble_eq_true rfl, Nat.le_of_ble_eq_true rfl⟩, (hts (.static yX5_put) (List.mem_of_getElem? (i := 9) rfl)), trivial⟩ (PW.S (hP.sub [1] rfl) hK ((hD.sub [1] (by decide) rfl).weaken (fun _ _ _ _ => trivial))) rfl rfl hl.1 rfl (lv_room (Nat.le_of_ble_eq_true rfl)) dX2_changeHole_7 ⟨Nat.le_of_ble_eq_true rfl, Nat.le_of_ble_eq_true rfl⟩) hP hD hS [1] rfl (fun _ => rfl) (fun u2 H locs hu2 hP hD hS => ?_)
    have hP : va_P D vwCl [(h, .inr (2, [.ref h1, .ref h2, .ref h3, .ref h4, .ref h5, .int (nI np), .int (nI nh), .int mo, .int fa])), (h3, .inl (cI, 6, .inl (upd pl k x))), (h4, .inl (cI, 6, .inl sz)), (h5, .inl (cI, 6, .inl ch))] H := hP
    have hD : va_D A [(h, .inr (2, [.ref h1, .ref h2, .ref h3, .ref h4, .ref h5, .int (nI np), .int (nI nh), .int mo, .int fa])), (h3, .inl (cI, 6, .inl (upd pl k x))), (h4, .inl (cI, 6, .inl sz)), (h5, .inl (cI, 6, .inl ch))] := hD
    exact ret_WV hQ hx hb hr hlk hAe () (by show va_P D vwCl [(h, .inr (2, [.ref h1, .ref h2, .ref h3, .ref h4, .ref h5, .int (nI np), .int (nI nh), .int mo, .int fa])), (h3, .inl (cI, 6, .inl (cPl pl v k x))), (h4, .inl (cI, 6, .inl (cSz sz v k x))), (h5, .inl (cI, 6, .inl (cCh ch v k x)))] H; rw [show cPl pl v k x = upd pl k x from (by first | with_reducible rfl | (simp only [cPl, cSz, cCh, if_pos c1]; done) | (simp [cPl, cSz, cCh, if_pos c1]; done)), show cSz sz v k x = sz from (by first | with_reducible rfl | (simp only [cPl, cSz, cCh, if_pos c1]; done) | (simp [cPl, cSz, cCh, if_pos c1]; done)), show cCh ch v k x = ch from (by first | with_reducible rfl | (simp only [cPl, cSz, cCh, if_pos c1]; done) | (simp [cPl, cSz, cCh, if_pos c1]; done))]; exact hP) hS trivial dX2_changeHole_10
  by_cases c3 : v = 1
  · skip
    refine lv_eqr (show fRowOf h3 h4 h5 v = h4 from (by simp only [fRowOf, if_neg c1, if_pos c3])) ?_
    refine lv_iload_n hx hb dX2_changeHole_5 rfl (lv_at hl 1 rfl) ?_
    refine lv_iload_n hx hb dX2_changeHole_6 rfl (lv_at hl 3 rfl) ?_
    refine wr_v (va_runSN (As := [.ref h4, .int (nI k), .int x]) (rest := []) ⟨hx, hb, hml, hown, hts⟩ (c_X5_put_in l D cI cZ h4 6 sz k x (by first | omega | exact hk) (by omega)) ⟨va_cnB 3 hts gX2_changeHole_X5_put_n40 rfl rfl rfl (nwL6 hN) (hts (.initialized RX5) (List.mem_of_getElem? (i := 10) rfl)) hdV_X5_put.2 ⟨Nat.le_of_ble_eq_true rfl, Nat.le_of_ble_eq_true rfl⟩, (hts (.static yX5_put) (List.mem_of_getElem? (i := 9) rfl)), trivial⟩ (PW.S (hP.sub [2] rfl) hK ((hD.sub [2] (by decide) rfl).weaken (fun _ _ _ _ => trivial))) rfl rfl hl.1 rfl (lv_room (Nat.le_of_ble_eq_true rfl)) dX2_changeHole_7 ⟨Nat.le_of_ble_eq_true rfl, Nat.le_of_ble_eq_true rfl⟩) hP hD hS [2] rfl (fun _ => rfl) (fun u4 H locs hu4 hP hD hS => ?_)
    have hP : va_P D vwCl [(h, .inr (2, [.ref h1, .ref h2, .ref h3, .ref h4, .ref h5, .int (nI np), .int (nI nh), .int mo, .int fa])), (h3, .inl (cI, 6, .inl pl)), (h4, .inl (cI, 6, .inl (upd sz k x))), (h5, .inl (cI, 6, .inl ch))] H := hP
    have hD : va_D A [(h, .inr (2, [.ref h1, .ref h2, .ref h3, .ref h4, .ref h5, .int (nI np), .int (nI nh), .int mo, .int fa])), (h3, .inl (cI, 6, .inl pl)), (h4, .inl (cI, 6, .inl (upd sz k x))), (h5, .inl (cI, 6, .inl ch))] := hD
    exact ret_WV hQ hx hb hr hlk hAe () (by show va_P D vwCl [(h, .inr (2, [.ref h1, .ref h2, .ref h3, .ref h4, .ref h5, .int (nI np), .int (nI nh), .int mo, .int fa])), (h3, .inl (cI, 6, .inl (cPl pl v k x))), (h4, .inl (cI, 6, .inl (cSz sz v k x))), (h5, .inl (cI, 6, .inl (cCh ch v k x)))] H; rw [show cPl pl v k x = pl from (by first | with_reducible rfl | (simp only [cPl, cSz, cCh, if_neg c1, if_pos c3]; done) | (simp [cPl, cSz, cCh, if_neg c1, if_pos c3]; done)), show cSz sz v k x = upd sz k x from (by first | with_reducible rfl | (simp only [cPl, cSz, cCh, if_neg c1, if_pos c3]; done) | (simp [cPl, cSz, cCh, if_neg c1, if_pos c3]; done)), show cCh ch v k x = ch from (by first | with_reducible rfl | (simp only [cPl, cSz, cCh, if_neg c1, if_pos c3]; done) | (simp [cPl, cSz, cCh, if_neg c1, if_pos c3]; done))]; exact hP) hS trivial dX2_changeHole_10
  refine lv_eqr (show fRowOf h3 h4 h5 v = h5 from (by simp only [fRowOf, if_neg c1, if_neg c3])) ?_
  refine lv_iload_n hx hb dX2_changeHole_5 rfl (lv_at hl 1 rfl) ?_
  refine lv_iload_n hx hb dX2_changeHole_6 rfl (lv_at hl 3 rfl) ?_
  refine wr_v (va_runSN (As := [.ref h5, .int (nI k), .int x]) (rest := []) ⟨hx, hb, hml, hown, hts⟩ (c_X5_put_in l D cI cZ h5 6 ch k x (by first | omega | exact hk) (by omega)) ⟨va_cnB 3 hts gX2_changeHole_X5_put_n40 rfl rfl rfl (nwL6 hN) (hts (.initialized RX5) (List.mem_of_getElem? (i := 10) rfl)) hdV_X5_put.2 ⟨Nat.le_of_ble_eq_true rfl, Nat.le_of_ble_eq_true rfl⟩, (hts (.static yX5_put) (List.mem_of_getElem? (i := 9) rfl)), trivial⟩ (PW.S (hP.sub [3] rfl) hK ((hD.sub [3] (by decide) rfl).weaken (fun _ _ _ _ => trivial))) rfl rfl hl.1 rfl (lv_room (Nat.le_of_ble_eq_true rfl)) dX2_changeHole_7 ⟨Nat.le_of_ble_eq_true rfl, Nat.le_of_ble_eq_true rfl⟩) hP hD hS [3] rfl (fun _ => rfl) (fun u5 H locs hu5 hP hD hS => ?_)
  have hP : va_P D vwCl [(h, .inr (2, [.ref h1, .ref h2, .ref h3, .ref h4, .ref h5, .int (nI np), .int (nI nh), .int mo, .int fa])), (h3, .inl (cI, 6, .inl pl)), (h4, .inl (cI, 6, .inl sz)), (h5, .inl (cI, 6, .inl (upd ch k x)))] H := hP
  have hD : va_D A [(h, .inr (2, [.ref h1, .ref h2, .ref h3, .ref h4, .ref h5, .int (nI np), .int (nI nh), .int mo, .int fa])), (h3, .inl (cI, 6, .inl pl)), (h4, .inl (cI, 6, .inl sz)), (h5, .inl (cI, 6, .inl (upd ch k x)))] := hD
  exact ret_WV hQ hx hb hr hlk hAe () (by show va_P D vwCl [(h, .inr (2, [.ref h1, .ref h2, .ref h3, .ref h4, .ref h5, .int (nI np), .int (nI nh), .int mo, .int fa])), (h3, .inl (cI, 6, .inl (cPl pl v k x))), (h4, .inl (cI, 6, .inl (cSz sz v k x))), (h5, .inl (cI, 6, .inl (cCh ch v k x)))] H; rw [show cPl pl v k x = pl from (by first | with_reducible rfl | (simp only [cPl, cSz, cCh, if_neg c1, if_neg c3]; done) | (simp [cPl, cSz, cCh, if_neg c1, if_neg c3]; done)), show cSz sz v k x = sz from (by first | with_reducible rfl | (simp only [cPl, cSz, cCh, if_neg c1, if_neg c3]; done) | (simp [cPl, cSz, cCh, if_neg c1, if_neg c3]; done)), show cCh ch v k x = upd ch k x from (by first | with_reducible rfl | (simp only [cPl, cSz, cCh, if_neg c1, if_neg c3]; done) | (simp [cPl, cSz, cCh, if_neg c1, if_neg c3]; done))]; exact hP) hS trivial dX2_changeHole_10

set_option maxHeartbeats 4000000 in
set_option maxRecDepth 100000 in
theorem c_X2_copy (l : Launch) (D : va_G) (cI cZ : ClassId) (h : Nat) (h1 : Nat) (h2 : Nat) (h3 : Nat) (h4 : Nat) (h5 : Nat) (np : Nat) (nh : Nat) (mo : Int32) (fa : Int32) (ln : Nat → Int32) (bo : Nat → Int32) (pl : Nat → Int32) (sz : Nat → Int32) (ch : Nat → Int32) (g : Nat) (g1 : Nat) (g2 : Nat) (g3 : Nat) (g4 : Nat) (g5 : Nat) (np' : Nat) (nh' : Nat) (mo' : Int32) (fa' : Int32) (ln' : Nat → Int32) (bo' : Nat → Int32) (pl' : Nat → Int32) (sz' : Nat → Int32) (ch' : Nat → Int32)  : Met l yX2_copy wsX2_copy rmX2_copy (va_Pc [.ref h, .ref g] (PW D cI cZ [(h, .inr (2, [.ref h1, .ref h2, .ref h3, .ref h4, .ref h5, .int (nI np), .int (nI nh), .int mo, .int fa])), (h1, .inl (cI, 12, .inl ln)), (h2, .inl (cI, 12, .inl bo)), (h3, .inl (cI, 6, .inl pl)), (h4, .inl (cI, 6, .inl sz)), (h5, .inl (cI, 6, .inl ch)), (g, .inr (2, [.ref g1, .ref g2, .ref g3, .ref g4, .ref g5, .int (nI np'), .int (nI nh'), .int mo', .int fa'])), (g1, .inl (cI, 12, .inl ln')), (g2, .inl (cI, 12, .inl bo')), (g3, .inl (cI, 6, .inl pl')), (g4, .inl (cI, 6, .inl sz')), (g5, .inl (cI, 6, .inl ch'))])) (WV (S := Unit) D (fun _ => True) (fun _ => [(h, .inr (2, [.ref h1, .ref h2, .ref h3, .ref h4, .ref h5, .int (nI np'), .int (nI nh'), .int mo', .int fa'])), (h1, .inl (cI, 12, .inl (cpyF ln' ln 12))), (h2, .inl (cI, 12, .inl (cpyF bo' bo 12))), (h3, .inl (cI, 6, .inl (cpyF pl' pl 6))), (h4, .inl (cI, 6, .inl (cpyF sz' sz 6))), (h5, .inl (cI, 6, .inl (cpyF ch' ch 6))), (g, .inr (2, [.ref g1, .ref g2, .ref g3, .ref g4, .ref g5, .int (nI np'), .int (nI nh'), .int mo', .int fa'])), (g1, .inl (cI, 12, .inl ln')), (g2, .inl (cI, 12, .inl bo')), (g3, .inl (cI, 6, .inl pl')), (g4, .inl (cI, 6, .inl sz')), (g5, .inl (cI, 6, .inl ch'))]) [(h, .inr (2, [.ref h1, .ref h2, .ref h3, .ref h4, .ref h5, .int (nI np), .int (nI nh), .int mo, .int fa])), (h1, .inl (cI, 12, .inl ln)), (h2, .inl (cI, 12, .inl bo)), (h3, .inl (cI, 6, .inl pl)), (h4, .inl (cI, 6, .inl sz)), (h5, .inl (cI, 6, .inl ch)), (g, .inr (2, [.ref g1, .ref g2, .ref g3, .ref g4, .ref g5, .int (nI np'), .int (nI nh'), .int mo', .int fa'])), (g1, .inl (cI, 12, .inl ln')), (g2, .inl (cI, 12, .inl bo')), (g3, .inl (cI, 6, .inl pl')), (g4, .inl (cI, 6, .inl sz')), (g5, .inl (cI, 6, .inl ch'))]) 0 0 (ad [(h, .inr (2, [.ref h1, .ref h2, .ref h3, .ref h4, .ref h5, .int (nI np), .int (nI nh), .int mo, .int fa])), (h1, .inl (cI, 12, .inl ln)), (h2, .inl (cI, 12, .inl bo)), (h3, .inl (cI, 6, .inl pl)), (h4, .inl (cI, 6, .inl sz)), (h5, .inl (cI, 6, .inl ch)), (g, .inr (2, [.ref g1, .ref g2, .ref g3, .ref g4, .ref g5, .int (nI np'), .int (nI nh'), .int mo', .int fa'])), (g1, .inl (cI, 12, .inl ln')), (g2, .inl (cI, 12, .inl bo')), (g3, .inl (cI, 6, .inl pl')), (g4, .inl (cI, 6, .inl sz')), (g5, .inl (cI, 6, .inl ch'))]) := by
  refine met_go (cc := cX2_copy) (maxL := 2) (ret := none) (by decide) rfl ?_ (Nat.le_of_ble_eq_true rfl)
  intro p e s m a below meth c Q hQ _ hx hb hr hml hts hown hlk hnm hpre ls hl
  have hown : s.vm.findClass RX2 = some m.cls := hown
  obtain ⟨hP, hK, hD0⟩ := hpre
  have hN := hK.2
  obtain ⟨A, hAe⟩ : ∃ A : Nat → Prop, A = ad [(h, .inr (2, [.ref h1, .ref h2, .ref h3, .ref h4, .ref h5, .int (nI np), .int (nI nh), .int mo, .int fa])), (h1, .inl (cI, 12, .inl ln)), (h2, .inl (cI, 12, .inl bo)), (h3, .inl (cI, 6, .inl pl)), (h4, .inl (cI, 6, .inl sz)), (h5, .inl (cI, 6, .inl ch)), (g, .inr (2, [.ref g1, .ref g2, .ref g3, .ref g4, .ref g5, .int (nI np'), .int (nI nh'), .int mo', .int fa'])), (g1, .inl (cI, 12, .inl ln')), (g2, .inl (cI, 12, .inl bo')), (g3, .inl (cI, 6, .inl pl')), (g4, .inl (cI, 6, .inl sz')), (g5, .inl (cI, 6, .inl ch'))] := ⟨_, rfl⟩
  have hD : va_D A [(h, .inr (2, [.ref h1, .ref h2, .ref h3, .ref h4, .ref h5, .int (nI np), .int (nI nh), .int mo, .int fa])), (h1, .inl (cI, 12, .inl ln)), (h2, .inl (cI, 12, .inl bo)), (h3, .inl (cI, 6, .inl pl)), (h4, .inl (cI, 6, .inl sz)), (h5, .inl (cI, 6, .inl ch)), (g, .inr (2, [.ref g1, .ref g2, .ref g3, .ref g4, .ref g5, .int (nI np'), .int (nI nh'), .int mo', .int fa'])), (g1, .inl (cI, 12, .inl ln')), (g2, .inl (cI, 12, .inl bo')), (g3, .inl (cI, 6, .inl pl')), (g4, .inl (cI, 6, .inl sz')), (g5, .inl (cI, 6, .inl ch'))] := by rw [hAe]; exact hD0.ad
  have hS : va_S A s.heap s.heap [] := va_S.rf
  have hl : lv_has ls 2 [(0, .ref h), (1, .ref g)] := hl
  have k2 : ∀ w ∈ wsX20, w ∈ wsX2_copy := fun w h => List.mem_cons_of_mem _ (List.mem_append_right _ h)
  refine lv_aload_n hx hb dX2_copy_0 rfl (lv_at hl 1 rfl) ?_
  refine va_get (D := D) (ci := 2) (v := .ref g1) (C := RX2) (T := TX2) (N := 9) hx hb hts k2 hown hK.1 hP 6 rfl rfl 0 (by decide) (hts (.fieldLink RX2 9 "BoredPipes$Pipe" "lengths" "[I") (List.mem_of_getElem? (i := 1) rfl)) (fun _ h9 => h9) rfl dX2_copy_1 ?_
  refine lv_aload_n hx hb dX2_copy_4 rfl (lv_at hl 0 rfl) ?_
  refine va_get (D := D) (ci := 2) (v := .ref h1) (C := RX2) (T := TX2) (N := 9) hx hb hts k2 hown hK.1 hP 0 rfl rfl 0 (by decide) (hts (.fieldLink RX2 9 "BoredPipes$Pipe" "lengths" "[I") (List.mem_of_getElem? (i := 1) rfl)) (fun _ h9 => h9) rfl dX2_copy_5 ?_
  refine wr_v (va_runSN (As := [.ref g1, .ref h1]) (rest := []) ⟨hx, hb, hml, hown, hts⟩ (c_X5_copyRow l D cI cZ g1 h1 12 ln' ln (by omega)) ⟨va_cnB 2 hts gX2_copy_X5_copyRow_n62 rfl rfl rfl (nwL13 hN) (hts (.initialized RX5) (List.mem_of_getElem? (i := 11) rfl)) hdV_X5_copyRow.2 ⟨Nat.le_of_ble_eq_true rfl, Nat.le_of_ble_eq_true rfl⟩, (hts (.static yX5_copyRow) (List.mem_of_getElem? (i := 10) rfl)), trivial⟩ (PW.S (hP.sub [7, 1] rfl) hK ((hD.sub [7, 1] (by decide) rfl).weaken (fun _ _ _ _ => trivial))) rfl rfl hl.1 rfl (lv_room (Nat.le_of_ble_eq_true rfl)) dX2_copy_8 ⟨Nat.le_of_ble_eq_true rfl, Nat.le_of_ble_eq_true rfl⟩) hP hD hS [7, 1] rfl (fun _ => rfl) (fun u1 H locs hu1 hP hD hS => ?_)
  have hP : va_P D vwCl [(h, .inr (2, [.ref h1, .ref h2, .ref h3, .ref h4, .ref h5, .int (nI np), .int (nI nh), .int mo, .int fa])), (h1, .inl (cI, 12, .inl (cpyF ln' ln 12))), (h2, .inl (cI, 12, .inl bo)), (h3, .inl (cI, 6, .inl pl)), (h4, .inl (cI, 6, .inl sz)), (h5, .inl (cI, 6, .inl ch)), (g, .inr (2, [.ref g1, .ref g2, .ref g3, .ref g4, .ref g5, .int (nI np'), .int (nI nh'), .int mo', .int fa'])), (g1, .inl (cI, 12, .inl ln')), (g2, .inl (cI, 12, .inl bo')), (g3, .inl (cI, 6, .inl pl')), (g4, .inl (cI, 6, .inl sz')), (g5, .inl (cI, 6, .inl ch'))] H := hP
  have hD : va_D A [(h, .inr (2, [.ref h1, .ref h2, .ref h3, .ref h4, .ref h5, .int (nI np), .int (nI nh), .int mo, .int fa])), (h1, .inl (cI, 12, .inl (cpyF ln' ln 12))), (h2, .inl (cI, 12, .inl bo)), (h3, .inl (cI, 6, .inl pl)), (h4, .inl (cI, 6, .inl sz)), (h5, .inl (cI, 6, .inl ch)), (g, .inr (2, [.ref g1, .ref g2, .ref g3, .ref g4, .ref g5, .int (nI np'), .int (nI nh'), .int mo', .int fa'])), (g1, .inl (cI, 12, .inl ln')), (g2, .inl (cI, 12, .inl bo')), (g3, .inl (cI, 6, .inl pl')), (g4, .inl (cI, 6, .inl sz')), (g5, .inl (cI, 6, .inl ch'))] := hD
  refine lv_aload_n hx hb dX2_copy_11 rfl (lv_at hl 1 rfl) ?_
  refine va_get (D := D) (ci := 2) (v := .ref g2) (C := RX2) (T := TX2) (N := 9) hx hb hts k2 hown hK.1 hP 6 rfl rfl 1 (by decide) (hts (.fieldLink RX2 15 "BoredPipes$Pipe" "bores" "[I") (List.mem_of_getElem? (i := 2) rfl)) (fun _ h9 => h9) rfl dX2_copy_12 ?_
  refine lv_aload_n hx hb dX2_copy_15 rfl (lv_at hl 0 rfl) ?_
  refine va_get (D := D) (ci := 2) (v := .ref h2) (C := RX2) (T := TX2) (N := 9) hx hb hts k2 hown hK.1 hP 0 rfl rfl 1 (by decide) (hts (.fieldLink RX2 15 "BoredPipes$Pipe" "bores" "[I") (List.mem_of_getElem? (i := 2) rfl)) (fun _ h9 => h9) rfl dX2_copy_16 ?_
  refine wr_v (va_runSN (As := [.ref g2, .ref h2]) (rest := []) ⟨hx, hb, hml, hown, hts⟩ (c_X5_copyRow l D cI cZ g2 h2 12 bo' bo (by omega)) ⟨va_cnB 2 hts gX2_copy_X5_copyRow_n62 rfl rfl rfl (nwL13 hN) (hts (.initialized RX5) (List.mem_of_getElem? (i := 11) rfl)) hdV_X5_copyRow.2 ⟨Nat.le_of_ble_eq_true rfl, Nat.le_of_ble_eq_true rfl⟩, (hts (.static yX5_copyRow) (List.mem_of_getElem? (i := 10) rfl)), trivial⟩ (PW.S (hP.sub [8, 2] rfl) hK ((hD.sub [8, 2] (by decide) rfl).weaken (fun _ _ _ _ => trivial))) rfl rfl hl.1 rfl (lv_room (Nat.le_of_ble_eq_true rfl)) dX2_copy_19 ⟨Nat.le_of_ble_eq_true rfl, Nat.le_of_ble_eq_true rfl⟩) hP hD hS [8, 2] rfl (fun _ => rfl) (fun u2 H locs hu2 hP hD hS => ?_)
  have hP : va_P D vwCl [(h, .inr (2, [.ref h1, .ref h2, .ref h3, .ref h4, .ref h5, .int (nI np), .int (nI nh), .int mo, .int fa])), (h1, .inl (cI, 12, .inl (cpyF ln' ln 12))), (h2, .inl (cI, 12, .inl (cpyF bo' bo 12))), (h3, .inl (cI, 6, .inl pl)), (h4, .inl (cI, 6, .inl sz)), (h5, .inl (cI, 6, .inl ch)), (g, .inr (2, [.ref g1, .ref g2, .ref g3, .ref g4, .ref g5, .int (nI np'), .int (nI nh'), .int mo', .int fa'])), (g1, .inl (cI, 12, .inl ln')), (g2, .inl (cI, 12, .inl bo')), (g3, .inl (cI, 6, .inl pl')), (g4, .inl (cI, 6, .inl sz')), (g5, .inl (cI, 6, .inl ch'))] H := hP
  have hD : va_D A [(h, .inr (2, [.ref h1, .ref h2, .ref h3, .ref h4, .ref h5, .int (nI np), .int (nI nh), .int mo, .int fa])), (h1, .inl (cI, 12, .inl (cpyF ln' ln 12))), (h2, .inl (cI, 12, .inl (cpyF bo' bo 12))), (h3, .inl (cI, 6, .inl pl)), (h4, .inl (cI, 6, .inl sz)), (h5, .inl (cI, 6, .inl ch)), (g, .inr (2, [.ref g1, .ref g2, .ref g3, .ref g4, .ref g5, .int (nI np'), .int (nI nh'), .int mo', .int fa'])), (g1, .inl (cI, 12, .inl ln')), (g2, .inl (cI, 12, .inl bo')), (g3, .inl (cI, 6, .inl pl')), (g4, .inl (cI, 6, .inl sz')), (g5, .inl (cI, 6, .inl ch'))] := hD
  refine lv_aload_n hx hb dX2_copy_22 rfl (lv_at hl 1 rfl) ?_
  refine va_get (D := D) (ci := 2) (v := .ref g3) (C := RX2) (T := TX2) (N := 9) hx hb hts k2 hown hK.1 hP 6 rfl rfl 2 (by decide) (hts (.fieldLink RX2 18 "BoredPipes$Pipe" "places" "[I") (List.mem_of_getElem? (i := 3) rfl)) (fun _ h9 => h9) rfl dX2_copy_23 ?_
  refine lv_aload_n hx hb dX2_copy_26 rfl (lv_at hl 0 rfl) ?_
  refine va_get (D := D) (ci := 2) (v := .ref h3) (C := RX2) (T := TX2) (N := 9) hx hb hts k2 hown hK.1 hP 0 rfl rfl 2 (by decide) (hts (.fieldLink RX2 18 "BoredPipes$Pipe" "places" "[I") (List.mem_of_getElem? (i := 3) rfl)) (fun _ h9 => h9) rfl dX2_copy_27 ?_
  refine wr_v (va_runSN (As := [.ref g3, .ref h3]) (rest := []) ⟨hx, hb, hml, hown, hts⟩ (c_X5_copyRow l D cI cZ g3 h3 6 pl' pl (by omega)) ⟨va_cnB 2 hts gX2_copy_X5_copyRow_n62 rfl rfl rfl (nwL13 hN) (hts (.initialized RX5) (List.mem_of_getElem? (i := 11) rfl)) hdV_X5_copyRow.2 ⟨Nat.le_of_ble_eq_true rfl, Nat.le_of_ble_eq_true rfl⟩, (hts (.static yX5_copyRow) (List.mem_of_getElem? (i := 10) rfl)), trivial⟩ (PW.S (hP.sub [9, 3] rfl) hK ((hD.sub [9, 3] (by decide) rfl).weaken (fun _ _ _ _ => trivial))) rfl rfl hl.1 rfl (lv_room (Nat.le_of_ble_eq_true rfl)) dX2_copy_30 ⟨Nat.le_of_ble_eq_true rfl, Nat.le_of_ble_eq_true rfl⟩) hP hD hS [9, 3] rfl (fun _ => rfl) (fun u3 H locs hu3 hP hD hS => ?_)
  have hP : va_P D vwCl [(h, .inr (2, [.ref h1, .ref h2, .ref h3, .ref h4, .ref h5, .int (nI np), .int (nI nh), .int mo, .int fa])), (h1, .inl (cI, 12, .inl (cpyF ln' ln 12))), (h2, .inl (cI, 12, .inl (cpyF bo' bo 12))), (h3, .inl (cI, 6, .inl (cpyF pl' pl 6))), (h4, .inl (cI, 6, .inl sz)), (h5, .inl (cI, 6, .inl ch)), (g, .inr (2, [.ref g1, .ref g2, .ref g3, .ref g4, .ref g5, .int (nI np'), .int (nI nh'), .int mo', .int fa'])), (g1, .inl (cI, 12, .inl ln')), (g2, .inl (cI, 12, .inl bo')), (g3, .inl (cI, 6, .inl pl')), (g4, .inl (cI, 6, .inl sz')), (g5, .inl (cI, 6, .inl ch'))] H := hP
  have hD : va_D A [(h, .inr (2, [.ref h1, .ref h2, .ref h3, .ref h4, .ref h5, .int (nI np), .int (nI nh), .int mo, .int fa])), (h1, .inl (cI, 12, .inl (cpyF ln' ln 12))), (h2, .inl (cI, 12, .inl (cpyF bo' bo 12))), (h3, .inl (cI, 6, .inl (cpyF pl' pl 6))), (h4, .inl (cI, 6, .inl sz)), (h5, .inl (cI, 6, .inl ch)), (g, .inr (2, [.ref g1, .ref g2, .ref g3, .ref g4, .ref g5, .int (nI np'), .int (nI nh'), .int mo', .int fa'])), (g1, .inl (cI, 12, .inl ln')), (g2, .inl (cI, 12, .inl bo')), (g3, .inl (cI, 6, .inl pl')), (g4, .inl (cI, 6, .inl sz')), (g5, .inl (cI, 6, .inl ch'))] := hD
  refine lv_aload_n hx hb dX2_copy_33 rfl (lv_at hl 1 rfl) ?_
  refine va_get (D := D) (ci := 2) (v := .ref g4) (C := RX2) (T := TX2) (N := 9) hx hb hts k2 hown hK.1 hP 6 rfl rfl 3 (by decide) (hts (.fieldLink RX2 21 "BoredPipes$Pipe" "sizes" "[I") (List.mem_of_getElem? (i := 4) rfl)) (fun _ h9 => h9) rfl dX2_copy_34 ?_
  refine lv_aload_n hx hb dX2_copy_37 rfl (lv_at hl 0 rfl) ?_
  refine va_get (D := D) (ci := 2) (v := .ref h4) (C := RX2) (T := TX2) (N := 9) hx hb hts k2 hown hK.1 hP 0 rfl rfl 3 (by decide) (hts (.fieldLink RX2 21 "BoredPipes$Pipe" "sizes" "[I") (List.mem_of_getElem? (i := 4) rfl)) (fun _ h9 => h9) rfl dX2_copy_38 ?_
  refine wr_v (va_runSN (As := [.ref g4, .ref h4]) (rest := []) ⟨hx, hb, hml, hown, hts⟩ (c_X5_copyRow l D cI cZ g4 h4 6 sz' sz (by omega)) ⟨va_cnB 2 hts gX2_copy_X5_copyRow_n62 rfl rfl rfl (nwL13 hN) (hts (.initialized RX5) (List.mem_of_getElem? (i := 11) rfl)) hdV_X5_copyRow.2 ⟨Nat.le_of_ble_eq_true rfl, Nat.le_of_ble_eq_true rfl⟩, (hts (.static yX5_copyRow) (List.mem_of_getElem? (i := 10) rfl)), trivial⟩ (PW.S (hP.sub [10, 4] rfl) hK ((hD.sub [10, 4] (by decide) rfl).weaken (fun _ _ _ _ => trivial))) rfl rfl hl.1 rfl (lv_room (Nat.le_of_ble_eq_true rfl)) dX2_copy_41 ⟨Nat.le_of_ble_eq_true rfl, Nat.le_of_ble_eq_true rfl⟩) hP hD hS [10, 4] rfl (fun _ => rfl) (fun u4 H locs hu4 hP hD hS => ?_)
  have hP : va_P D vwCl [(h, .inr (2, [.ref h1, .ref h2, .ref h3, .ref h4, .ref h5, .int (nI np), .int (nI nh), .int mo, .int fa])), (h1, .inl (cI, 12, .inl (cpyF ln' ln 12))), (h2, .inl (cI, 12, .inl (cpyF bo' bo 12))), (h3, .inl (cI, 6, .inl (cpyF pl' pl 6))), (h4, .inl (cI, 6, .inl (cpyF sz' sz 6))), (h5, .inl (cI, 6, .inl ch)), (g, .inr (2, [.ref g1, .ref g2, .ref g3, .ref g4, .ref g5, .int (nI np'), .int (nI nh'), .int mo', .int fa'])), (g1, .inl (cI, 12, .inl ln')), (g2, .inl (cI, 12, .inl bo')), (g3, .inl (cI, 6, .inl pl')), (g4, .inl (cI, 6, .inl sz')), (g5, .inl (cI, 6, .inl ch'))] H := hP
  have hD : va_D A [(h, .inr (2, [.ref h1, .ref h2, .ref h3, .ref h4, .ref h5, .int (nI np), .int (nI nh), .int mo, .int fa])), (h1, .inl (cI, 12, .inl (cpyF ln' ln 12))), (h2, .inl (cI, 12, .inl (cpyF bo' bo 12))), (h3, .inl (cI, 6, .inl (cpyF pl' pl 6))), (h4, .inl (cI, 6, .inl (cpyF sz' sz 6))), (h5, .inl (cI, 6, .inl ch)), (g, .inr (2, [.ref g1, .ref g2, .ref g3, .ref g4, .ref g5, .int (nI np'), .int (nI nh'), .int mo', .int fa'])), (g1, .inl (cI, 12, .inl ln')), (g2, .inl (cI, 12, .inl bo')), (g3, .inl (cI, 6, .inl pl')), (g4, .inl (cI, 6, .inl sz')), (g5, .inl (cI, 6, .inl ch'))] := hD
  refine lv_aload_n hx hb dX2_copy_44 rfl (lv_at hl 1 rfl) ?_
  refine va_get (D := D) (ci := 2) (v := .ref g5) (C := RX2) (T := TX2) (N := 9) hx hb hts k2 hown hK.1 hP 6 rfl rfl 4 (by decide) (hts (.fieldLink RX2 24 "BoredPipes$Pipe" "chimneys" "[I") (List.mem_of_getElem? (i := 5) rfl)) (fun _ h9 => h9) rfl dX2_copy_45 ?_
  refine lv_aload_n hx hb dX2_copy_48 rfl (lv_at hl 0 rfl) ?_
  refine va_get (D := D) (ci := 2) (v := .ref h5) (C := RX2) (T := TX2) (N := 9) hx hb hts k2 hown hK.1 hP 0 rfl rfl 4 (by decide) (hts (.fieldLink RX2 24 "BoredPipes$Pipe" "chimneys" "[I") (List.mem_of_getElem? (i := 5) rfl)) (fun _ h9 => h9) rfl dX2_copy_49 ?_
  refine wr_v (va_runSN (As := [.ref g5, .ref h5]) (rest := []) ⟨hx, hb, hml, hown, hts⟩ (c_X5_copyRow l D cI cZ g5 h5 6 ch' ch (by omega)) ⟨va_cnB 2 hts gX2_copy_X5_copyRow_n62 rfl rfl rfl (nwL13 hN) (hts (.initialized RX5) (List.mem_of_getElem? (i := 11) rfl)) hdV_X5_copyRow.2 ⟨Nat.le_of_ble_eq_true rfl, Nat.le_of_ble_eq_true rfl⟩, (hts (.static yX5_copyRow) (List.mem_of_getElem? (i := 10) rfl)), trivial⟩ (PW.S (hP.sub [11, 5] rfl) hK ((hD.sub [11, 5] (by decide) rfl).weaken (fun _ _ _ _ => trivial))) rfl rfl hl.1 rfl (lv_room (Nat.le_of_ble_eq_true rfl)) dX2_copy_52 ⟨Nat.le_of_ble_eq_true rfl, Nat.le_of_ble_eq_true rfl⟩) hP hD hS [11, 5] rfl (fun _ => rfl) (fun u5 H locs hu5 hP hD hS => ?_)
  have hP : va_P D vwCl [(h, .inr (2, [.ref h1, .ref h2, .ref h3, .ref h4, .ref h5, .int (nI np), .int (nI nh), .int mo, .int fa])), (h1, .inl (cI, 12, .inl (cpyF ln' ln 12))), (h2, .inl (cI, 12, .inl (cpyF bo' bo 12))), (h3, .inl (cI, 6, .inl (cpyF pl' pl 6))), (h4, .inl (cI, 6, .inl (cpyF sz' sz 6))), (h5, .inl (cI, 6, .inl (cpyF ch' ch 6))), (g, .inr (2, [.ref g1, .ref g2, .ref g3, .ref g4, .ref g5, .int (nI np'), .int (nI nh'), .int mo', .int fa'])), (g1, .inl (cI, 12, .inl ln')), (g2, .inl (cI, 12, .inl bo')), (g3, .inl (cI, 6, .inl pl')), (g4, .inl (cI, 6, .inl sz')), (g5, .inl (cI, 6, .inl ch'))] H := hP
  have hD : va_D A [(h, .inr (2, [.ref h1, .ref h2, .ref h3, .ref h4, .ref h5, .int (nI np), .int (nI nh), .int mo, .int fa])), (h1, .inl (cI, 12, .inl (cpyF ln' ln 12))), (h2, .inl (cI, 12, .inl (cpyF bo' bo 12))), (h3, .inl (cI, 6, .inl (cpyF pl' pl 6))), (h4, .inl (cI, 6, .inl (cpyF sz' sz 6))), (h5, .inl (cI, 6, .inl (cpyF ch' ch 6))), (g, .inr (2, [.ref g1, .ref g2, .ref g3, .ref g4, .ref g5, .int (nI np'), .int (nI nh'), .int mo', .int fa'])), (g1, .inl (cI, 12, .inl ln')), (g2, .inl (cI, 12, .inl bo')), (g3, .inl (cI, 6, .inl pl')), (g4, .inl (cI, 6, .inl sz')), (g5, .inl (cI, 6, .inl ch'))] := hD
  refine lv_aload_n hx hb dX2_copy_55 rfl (lv_at hl 0 rfl) ?_
  refine lv_aload_n hx hb dX2_copy_56 rfl (lv_at hl 1 rfl) ?_
  refine va_get (D := D) (ci := 2) (v := .int (nI np')) (C := RX2) (T := TX2) (N := 9) hx hb hts k2 hown hK.1 hP 6 rfl rfl 5 (by decide) (hts (.fieldLink RX2 27 "BoredPipes$Pipe" "pieces" "I") (List.mem_of_getElem? (i := 6) rfl)) (fun _ h9 => h9) rfl dX2_copy_57 ?_
  refine va_put (D := D) (ci := 2) (v := .int (nI np')) (ty := .int) (C := RX2) (T := TX2) (N := 9) hx hb hts k2 tyX2 tyX2_ok nmX2 hown hK.1 hP hD hS 0 rfl rfl 5 (by decide) (hts (.fieldLink RX2 27 "BoredPipes$Pipe" "pieces" "I") (List.mem_of_getElem? (i := 6) rfl)) (fun _ h9 => h9) rfl (tyX2_ok 5 (by decide)) rfl rfl (Nat.le_of_ble_eq_true rfl) dX2_copy_60 (fun H locs hP hD hS => ?_)
  have hP : va_P D vwCl [(h, .inr (2, [.ref h1, .ref h2, .ref h3, .ref h4, .ref h5, .int (nI np'), .int (nI nh), .int mo, .int fa])), (h1, .inl (cI, 12, .inl (cpyF ln' ln 12))), (h2, .inl (cI, 12, .inl (cpyF bo' bo 12))), (h3, .inl (cI, 6, .inl (cpyF pl' pl 6))), (h4, .inl (cI, 6, .inl (cpyF sz' sz 6))), (h5, .inl (cI, 6, .inl (cpyF ch' ch 6))), (g, .inr (2, [.ref g1, .ref g2, .ref g3, .ref g4, .ref g5, .int (nI np'), .int (nI nh'), .int mo', .int fa'])), (g1, .inl (cI, 12, .inl ln')), (g2, .inl (cI, 12, .inl bo')), (g3, .inl (cI, 6, .inl pl')), (g4, .inl (cI, 6, .inl sz')), (g5, .inl (cI, 6, .inl ch'))] H := hP
  have hD : va_D A [(h, .inr (2, [.ref h1, .ref h2, .ref h3, .ref h4, .ref h5, .int (nI np'), .int (nI nh), .int mo, .int fa])), (h1, .inl (cI, 12, .inl (cpyF ln' ln 12))), (h2, .inl (cI, 12, .inl (cpyF bo' bo 12))), (h3, .inl (cI, 6, .inl (cpyF pl' pl 6))), (h4, .inl (cI, 6, .inl (cpyF sz' sz 6))), (h5, .inl (cI, 6, .inl (cpyF ch' ch 6))), (g, .inr (2, [.ref g1, .ref g2, .ref g3, .ref g4, .ref g5, .int (nI np'), .int (nI nh'), .int mo', .int fa'])), (g1, .inl (cI, 12, .inl ln')), (g2, .inl (cI, 12, .inl bo')), (g3, .inl (cI, 6, .inl pl')), (g4, .inl (cI, 6, .inl sz')), (g5, .inl (cI, 6, .inl ch'))] := hD
  refine lv_aload_n hx hb dX2_copy_63 rfl (lv_at hl 0 rfl) ?_
  refine lv_aload_n hx hb dX2_copy_64 rfl (lv_at hl 1 rfl) ?_
  refine va_get (D := D) (ci := 2) (v := .int (nI nh')) (C := RX2) (T := TX2) (N := 9) hx hb hts k2 hown hK.1 hP 6 rfl rfl 6 (by decide) (hts (.fieldLink RX2 31 "BoredPipes$Pipe" "holes" "I") (List.mem_of_getElem? (i := 7) rfl)) (fun _ h9 => h9) rfl dX2_copy_65 ?_
  refine va_put (D := D) (ci := 2) (v := .int (nI nh')) (ty := .int) (C := RX2) (T := TX2) (N := 9) hx hb hts k2 tyX2 tyX2_ok nmX2 hown hK.1 hP hD hS 0 rfl rfl 6 (by decide) (hts (.fieldLink RX2 31 "BoredPipes$Pipe" "holes" "I") (List.mem_of_getElem? (i := 7) rfl)) (fun _ h9 => h9) rfl (tyX2_ok 6 (by decide)) rfl rfl (Nat.le_of_ble_eq_true rfl) dX2_copy_68 (fun H locs hP hD hS => ?_)
  have hP : va_P D vwCl [(h, .inr (2, [.ref h1, .ref h2, .ref h3, .ref h4, .ref h5, .int (nI np'), .int (nI nh'), .int mo, .int fa])), (h1, .inl (cI, 12, .inl (cpyF ln' ln 12))), (h2, .inl (cI, 12, .inl (cpyF bo' bo 12))), (h3, .inl (cI, 6, .inl (cpyF pl' pl 6))), (h4, .inl (cI, 6, .inl (cpyF sz' sz 6))), (h5, .inl (cI, 6, .inl (cpyF ch' ch 6))), (g, .inr (2, [.ref g1, .ref g2, .ref g3, .ref g4, .ref g5, .int (nI np'), .int (nI nh'), .int mo', .int fa'])), (g1, .inl (cI, 12, .inl ln')), (g2, .inl (cI, 12, .inl bo')), (g3, .inl (cI, 6, .inl pl')), (g4, .inl (cI, 6, .inl sz')), (g5, .inl (cI, 6, .inl ch'))] H := hP
  have hD : va_D A [(h, .inr (2, [.ref h1, .ref h2, .ref h3, .ref h4, .ref h5, .int (nI np'), .int (nI nh'), .int mo, .int fa])), (h1, .inl (cI, 12, .inl (cpyF ln' ln 12))), (h2, .inl (cI, 12, .inl (cpyF bo' bo 12))), (h3, .inl (cI, 6, .inl (cpyF pl' pl 6))), (h4, .inl (cI, 6, .inl (cpyF sz' sz 6))), (h5, .inl (cI, 6, .inl (cpyF ch' ch 6))), (g, .inr (2, [.ref g1, .ref g2, .ref g3, .ref g4, .ref g5, .int (nI np'), .int (nI nh'), .int mo', .int fa'])), (g1, .inl (cI, 12, .inl ln')), (g2, .inl (cI, 12, .inl bo')), (g3, .inl (cI, 6, .inl pl')), (g4, .inl (cI, 6, .inl sz')), (g5, .inl (cI, 6, .inl ch'))] := hD
  refine lv_aload_n hx hb dX2_copy_71 rfl (lv_at hl 0 rfl) ?_
  refine lv_aload_n hx hb dX2_copy_72 rfl (lv_at hl 1 rfl) ?_
  refine va_get (D := D) (ci := 2) (v := .int mo') (C := RX2) (T := TX2) (N := 9) hx hb hts k2 hown hK.1 hP 6 rfl rfl 7 (by decide) (hts (.fieldLink RX2 34 "BoredPipes$Pipe" "mouth" "I") (List.mem_of_getElem? (i := 8) rfl)) (fun _ h9 => h9) rfl dX2_copy_73 ?_
  refine va_put (D := D) (ci := 2) (v := .int mo') (ty := .int) (C := RX2) (T := TX2) (N := 9) hx hb hts k2 tyX2 tyX2_ok nmX2 hown hK.1 hP hD hS 0 rfl rfl 7 (by decide) (hts (.fieldLink RX2 34 "BoredPipes$Pipe" "mouth" "I") (List.mem_of_getElem? (i := 8) rfl)) (fun _ h9 => h9) rfl (tyX2_ok 7 (by decide)) rfl rfl (Nat.le_of_ble_eq_true rfl) dX2_copy_76 (fun H locs hP hD hS => ?_)
  have hP : va_P D vwCl [(h, .inr (2, [.ref h1, .ref h2, .ref h3, .ref h4, .ref h5, .int (nI np'), .int (nI nh'), .int mo', .int fa])), (h1, .inl (cI, 12, .inl (cpyF ln' ln 12))), (h2, .inl (cI, 12, .inl (cpyF bo' bo 12))), (h3, .inl (cI, 6, .inl (cpyF pl' pl 6))), (h4, .inl (cI, 6, .inl (cpyF sz' sz 6))), (h5, .inl (cI, 6, .inl (cpyF ch' ch 6))), (g, .inr (2, [.ref g1, .ref g2, .ref g3, .ref g4, .ref g5, .int (nI np'), .int (nI nh'), .int mo', .int fa'])), (g1, .inl (cI, 12, .inl ln')), (g2, .inl (cI, 12, .inl bo')), (g3, .inl (cI, 6, .inl pl')), (g4, .inl (cI, 6, .inl sz')), (g5, .inl (cI, 6, .inl ch'))] H := hP
  have hD : va_D A [(h, .inr (2, [.ref h1, .ref h2, .ref h3, .ref h4, .ref h5, .int (nI np'), .int (nI nh'), .int mo', .int fa])), (h1, .inl (cI, 12, .inl (cpyF ln' ln 12))), (h2, .inl (cI, 12, .inl (cpyF bo' bo 12))), (h3, .inl (cI, 6, .inl (cpyF pl' pl 6))), (h4, .inl (cI, 6, .inl (cpyF sz' sz 6))), (h5, .inl (cI, 6, .inl (cpyF ch' ch 6))), (g, .inr (2, [.ref g1, .ref g2, .ref g3, .ref g4, .ref g5, .int (nI np'), .int (nI nh'), .int mo', .int fa'])), (g1, .inl (cI, 12, .inl ln')), (g2, .inl (cI, 12, .inl bo')), (g3, .inl (cI, 6, .inl pl')), (g4, .inl (cI, 6, .inl sz')), (g5, .inl (cI, 6, .inl ch'))] := hD
  refine lv_aload_n hx hb dX2_copy_79 rfl (lv_at hl 0 rfl) ?_
  refine lv_aload_n hx hb dX2_copy_80 rfl (lv_at hl 1 rfl) ?_
  refine va_get (D := D) (ci := 2) (v := .int fa') (C := RX2) (T := TX2) (N := 9) hx hb hts k2 hown hK.1 hP 6 rfl rfl 8 (by decide) (hts (.fieldLink RX2 37 "BoredPipes$Pipe" "farEnd" "I") (List.mem_of_getElem? (i := 9) rfl)) (fun _ h9 => h9) rfl dX2_copy_81 ?_
  refine va_put (D := D) (ci := 2) (v := .int fa') (ty := .int) (C := RX2) (T := TX2) (N := 9) hx hb hts k2 tyX2 tyX2_ok nmX2 hown hK.1 hP hD hS 0 rfl rfl 8 (by decide) (hts (.fieldLink RX2 37 "BoredPipes$Pipe" "farEnd" "I") (List.mem_of_getElem? (i := 9) rfl)) (fun _ h9 => h9) rfl (tyX2_ok 8 (by decide)) rfl rfl (Nat.le_of_ble_eq_true rfl) dX2_copy_84 (fun H locs hP hD hS => ?_)
  have hP : va_P D vwCl [(h, .inr (2, [.ref h1, .ref h2, .ref h3, .ref h4, .ref h5, .int (nI np'), .int (nI nh'), .int mo', .int fa'])), (h1, .inl (cI, 12, .inl (cpyF ln' ln 12))), (h2, .inl (cI, 12, .inl (cpyF bo' bo 12))), (h3, .inl (cI, 6, .inl (cpyF pl' pl 6))), (h4, .inl (cI, 6, .inl (cpyF sz' sz 6))), (h5, .inl (cI, 6, .inl (cpyF ch' ch 6))), (g, .inr (2, [.ref g1, .ref g2, .ref g3, .ref g4, .ref g5, .int (nI np'), .int (nI nh'), .int mo', .int fa'])), (g1, .inl (cI, 12, .inl ln')), (g2, .inl (cI, 12, .inl bo')), (g3, .inl (cI, 6, .inl pl')), (g4, .inl (cI, 6, .inl sz')), (g5, .inl (cI, 6, .inl ch'))] H := hP
  have hD : va_D A [(h, .inr (2, [.ref h1, .ref h2, .ref h3, .ref h4, .ref h5, .int (nI np'), .int (nI nh'), .int mo', .int fa'])), (h1, .inl (cI, 12, .inl (cpyF ln' ln 12))), (h2, .inl (cI, 12, .inl (cpyF bo' bo 12))), (h3, .inl (cI, 6, .inl (cpyF pl' pl 6))), (h4, .inl (cI, 6, .inl (cpyF sz' sz 6))), (h5, .inl (cI, 6, .inl (cpyF ch' ch 6))), (g, .inr (2, [.ref g1, .ref g2, .ref g3, .ref g4, .ref g5, .int (nI np'), .int (nI nh'), .int mo', .int fa'])), (g1, .inl (cI, 12, .inl ln')), (g2, .inl (cI, 12, .inl bo')), (g3, .inl (cI, 6, .inl pl')), (g4, .inl (cI, 6, .inl sz')), (g5, .inl (cI, 6, .inl ch'))] := hD
  exact ret_WV hQ hx hb hr hlk hAe () hP hS trivial dX2_copy_87

set_option maxHeartbeats 4000000 in
set_option maxRecDepth 100000 in
theorem c_X2_differences (l : Launch) (D : va_G) (cI cZ : ClassId) (h : Nat) (h1 : Nat) (h2 : Nat) (h3 : Nat) (h4 : Nat) (h5 : Nat) (np : Nat) (nh : Nat) (mo : Int32) (fa : Int32) (ln : Nat → Int32) (bo : Nat → Int32) (pl : Nat → Int32) (sz : Nat → Int32) (ch : Nat → Int32) (g : Nat) (g1 : Nat) (g2 : Nat) (g3 : Nat) (g4 : Nat) (g5 : Nat) (np' : Nat) (nh' : Nat) (mo' : Int32) (fa' : Int32) (ln' : Nat → Int32) (bo' : Nat → Int32) (pl' : Nat → Int32) (sz' : Nat → Int32) (ch' : Nat → Int32) (h1n : np ≤ 12) (h2n : nh ≤ 6) (h3n : np' ≤ 12) (h4n : nh' ≤ 6) : Met l yX2_differences wsX2_differences rmX2_differences (va_Pc [.ref h, .ref g] (PR D cI cZ [(h, .inr (2, [.ref h1, .ref h2, .ref h3, .ref h4, .ref h5, .int (nI np), .int (nI nh), .int mo, .int fa])), (h1, .inl (cI, 12, .inl ln)), (h2, .inl (cI, 12, .inl bo)), (h3, .inl (cI, 6, .inl pl)), (h4, .inl (cI, 6, .inl sz)), (h5, .inl (cI, 6, .inl ch)), (g, .inr (2, [.ref g1, .ref g2, .ref g3, .ref g4, .ref g5, .int (nI np'), .int (nI nh'), .int mo', .int fa'])), (g1, .inl (cI, 12, .inl ln')), (g2, .inl (cI, 12, .inl bo')), (g3, .inl (cI, 6, .inl pl')), (g4, .inl (cI, 6, .inl sz')), (g5, .inl (cI, 6, .inl ch'))])) (RI (fDiffs ln bo pl sz ch np nh mo fa ln' bo' pl' sz' ch' np' nh' mo' fa')) 0 0 nA := by
  refine met_go (cc := cX2_differences) (maxL := 2) (ret := (some .int)) (by decide) rfl ?_ (Nat.le_of_ble_eq_true rfl)
  intro p e s m a below meth c Q hQ _ hx hb hr hml hts hown hlk hnm hpre ls hl
  have hown : s.vm.findClass RX2 = some m.cls := hown
  obtain ⟨hP, hK⟩ := hpre
  have hN := hK.2
  have hS : va_S nA s.heap s.heap [] := va_S.rf
  have hl : lv_has ls 2 [(0, .ref h), (1, .ref g)] := hl
  have k2 : ∀ w ∈ wsX20, w ∈ wsX2_differences := fun w h => List.mem_cons_of_mem _ (List.mem_append_right _ h)
  refine lv_aload_n hx hb dX2_differences_0 rfl (lv_at hl 0 rfl) ?_
  refine va_get (D := D) (ci := 2) (v := .ref h1) (C := RX2) (T := TX2) (N := 9) hx hb hts k2 hown hK.1 hP 0 rfl rfl 0 (by decide) (hts (.fieldLink RX2 9 "BoredPipes$Pipe" "lengths" "[I") (List.mem_of_getElem? (i := 1) rfl)) (fun _ h9 => h9) rfl dX2_differences_1 ?_
  refine lv_aload_n hx hb dX2_differences_4 rfl (lv_at hl 0 rfl) ?_
  refine va_get (D := D) (ci := 2) (v := .int (nI np)) (C := RX2) (T := TX2) (N := 9) hx hb hts k2 hown hK.1 hP 0 rfl rfl 5 (by decide) (hts (.fieldLink RX2 27 "BoredPipes$Pipe" "pieces" "I") (List.mem_of_getElem? (i := 2) rfl)) (fun _ h9 => h9) rfl dX2_differences_5 ?_
  refine lv_aload_n hx hb dX2_differences_8 rfl (lv_at hl 1 rfl) ?_
  refine va_get (D := D) (ci := 2) (v := .ref g1) (C := RX2) (T := TX2) (N := 9) hx hb hts k2 hown hK.1 hP 6 rfl rfl 0 (by decide) (hts (.fieldLink RX2 9 "BoredPipes$Pipe" "lengths" "[I") (List.mem_of_getElem? (i := 1) rfl)) (fun _ h9 => h9) rfl dX2_differences_9 ?_
  refine lv_aload_n hx hb dX2_differences_12 rfl (lv_at hl 1 rfl) ?_
  refine va_get (D := D) (ci := 2) (v := .int (nI np')) (C := RX2) (T := TX2) (N := 9) hx hb hts k2 hown hK.1 hP 6 rfl rfl 5 (by decide) (hts (.fieldLink RX2 27 "BoredPipes$Pipe" "pieces" "I") (List.mem_of_getElem? (i := 2) rfl)) (fun _ h9 => h9) rfl dX2_differences_13 ?_
  refine rd_i (va_runSN (As := [.ref h1, .int (nI np), .ref g1, .int (nI np')]) (rest := []) ⟨hx, hb, hml, hown, hts⟩ (c_X5_rowDifferences l D cI cZ h1 g1 12 ln ln' np np' (by omega) (by omega) (by omega)) ⟨va_cnB 4 hts gX2_differences_X5_rowDifferences_n66 rfl rfl rfl (nwL14 hN) (hts (.initialized RX5) (List.mem_of_getElem? (i := 11) rfl)) hdV_X5_rowDifferences.2 ⟨Nat.le_of_ble_eq_true rfl, Nat.le_of_ble_eq_true rfl⟩, (hts (.static yX5_rowDifferences) (List.mem_of_getElem? (i := 10) rfl)), trivial⟩ (PR.S (hP.sub [1, 7] rfl) hK) rfl rfl hl.1 rfl (lv_room (Nat.le_of_ble_eq_true rfl)) dX2_differences_16 ⟨Nat.le_of_ble_eq_true rfl, Nat.le_of_ble_eq_true rfl⟩) hP hS (fun H locs hP hS => ?_)
  refine lv_aload_n hx hb dX2_differences_19 rfl (lv_at hl 0 rfl) ?_
  refine va_get (D := D) (ci := 2) (v := .ref h2) (C := RX2) (T := TX2) (N := 9) hx hb hts k2 hown hK.1 hP 0 rfl rfl 1 (by decide) (hts (.fieldLink RX2 15 "BoredPipes$Pipe" "bores" "[I") (List.mem_of_getElem? (i := 3) rfl)) (fun _ h9 => h9) rfl dX2_differences_20 ?_
  refine lv_aload_n hx hb dX2_differences_23 rfl (lv_at hl 0 rfl) ?_
  refine va_get (D := D) (ci := 2) (v := .int (nI np)) (C := RX2) (T := TX2) (N := 9) hx hb hts k2 hown hK.1 hP 0 rfl rfl 5 (by decide) (hts (.fieldLink RX2 27 "BoredPipes$Pipe" "pieces" "I") (List.mem_of_getElem? (i := 2) rfl)) (fun _ h9 => h9) rfl dX2_differences_24 ?_
  refine lv_aload_n hx hb dX2_differences_27 rfl (lv_at hl 1 rfl) ?_
  refine va_get (D := D) (ci := 2) (v := .ref g2) (C := RX2) (T := TX2) (N := 9) hx hb hts k2 hown hK.1 hP 6 rfl rfl 1 (by decide) (hts (.fieldLink RX2 15 "BoredPipes$Pipe" "bores" "[I") (List.mem_of_getElem? (i := 3) rfl)) (fun _ h9 => h9) rfl dX2_differences_28 ?_
  refine lv_aload_n hx hb dX2_differences_31 rfl (lv_at hl 1 rfl) ?_
  refine va_get (D := D) (ci := 2) (v := .int (nI np')) (C := RX2) (T := TX2) (N := 9) hx hb hts k2 hown hK.1 hP 6 rfl rfl 5 (by decide) (hts (.fieldLink RX2 27 "BoredPipes$Pipe" "pieces" "I") (List.mem_of_getElem? (i := 2) rfl)) (fun _ h9 => h9) rfl dX2_differences_32 ?_
  refine rd_i (va_runSN (As := [.ref h2, .int (nI np), .ref g2, .int (nI np')]) (rest := [.int (fRowD ln ln' np np')]) ⟨hx, hb, hml, hown, hts⟩ (c_X5_rowDifferences l D cI cZ h2 g2 12 bo bo' np np' (by omega) (by omega) (by omega)) ⟨va_cnB 4 hts gX2_differences_X5_rowDifferences_n66 rfl rfl rfl (nwL14 hN) (hts (.initialized RX5) (List.mem_of_getElem? (i := 11) rfl)) hdV_X5_rowDifferences.2 ⟨Nat.le_of_ble_eq_true rfl, Nat.le_of_ble_eq_true rfl⟩, (hts (.static yX5_rowDifferences) (List.mem_of_getElem? (i := 10) rfl)), trivial⟩ (PR.S (hP.sub [2, 8] rfl) hK) rfl rfl hl.1 rfl (lv_room (Nat.le_of_ble_eq_true rfl)) dX2_differences_35 ⟨Nat.le_of_ble_eq_true rfl, Nat.le_of_ble_eq_true rfl⟩) hP hS (fun H locs hP hS => ?_)
  refine lv_iadd hx hb dX2_differences_38 ?_
  refine lv_aload_n hx hb dX2_differences_39 rfl (lv_at hl 0 rfl) ?_
  refine va_get (D := D) (ci := 2) (v := .ref h3) (C := RX2) (T := TX2) (N := 9) hx hb hts k2 hown hK.1 hP 0 rfl rfl 2 (by decide) (hts (.fieldLink RX2 18 "BoredPipes$Pipe" "places" "[I") (List.mem_of_getElem? (i := 4) rfl)) (fun _ h9 => h9) rfl dX2_differences_40 ?_
  refine lv_aload_n hx hb dX2_differences_43 rfl (lv_at hl 0 rfl) ?_
  refine va_get (D := D) (ci := 2) (v := .int (nI nh)) (C := RX2) (T := TX2) (N := 9) hx hb hts k2 hown hK.1 hP 0 rfl rfl 6 (by decide) (hts (.fieldLink RX2 31 "BoredPipes$Pipe" "holes" "I") (List.mem_of_getElem? (i := 5) rfl)) (fun _ h9 => h9) rfl dX2_differences_44 ?_
  refine lv_aload_n hx hb dX2_differences_47 rfl (lv_at hl 1 rfl) ?_
  refine va_get (D := D) (ci := 2) (v := .ref g3) (C := RX2) (T := TX2) (N := 9) hx hb hts k2 hown hK.1 hP 6 rfl rfl 2 (by decide) (hts (.fieldLink RX2 18 "BoredPipes$Pipe" "places" "[I") (List.mem_of_getElem? (i := 4) rfl)) (fun _ h9 => h9) rfl dX2_differences_48 ?_
  refine lv_aload_n hx hb dX2_differences_51 rfl (lv_at hl 1 rfl) ?_
  refine va_get (D := D) (ci := 2) (v := .int (nI nh')) (C := RX2) (T := TX2) (N := 9) hx hb hts k2 hown hK.1 hP 6 rfl rfl 6 (by decide) (hts (.fieldLink RX2 31 "BoredPipes$Pipe" "holes" "I") (List.mem_of_getElem? (i := 5) rfl)) (fun _ h9 => h9) rfl dX2_differences_52 ?_
  refine rd_i (va_runSN (As := [.ref h3, .int (nI nh), .ref g3, .int (nI nh')]) (rest := [.int ((fRowD ln ln' np np') + (fRowD bo bo' np np'))]) ⟨hx, hb, hml, hown, hts⟩ (c_X5_rowDifferences l D cI cZ h3 g3 6 pl pl' nh nh' (by omega) (by omega) (by omega)) ⟨va_cnB 4 hts gX2_differences_X5_rowDifferences_n66 rfl rfl rfl (nwL14 hN) (hts (.initialized RX5) (List.mem_of_getElem? (i := 11) rfl)) hdV_X5_rowDifferences.2 ⟨Nat.le_of_ble_eq_true rfl, Nat.le_of_ble_eq_true rfl⟩, (hts (.static yX5_rowDifferences) (List.mem_of_getElem? (i := 10) rfl)), trivial⟩ (PR.S (hP.sub [3, 9] rfl) hK) rfl rfl hl.1 rfl (lv_room (Nat.le_of_ble_eq_true rfl)) dX2_differences_55 ⟨Nat.le_of_ble_eq_true rfl, Nat.le_of_ble_eq_true rfl⟩) hP hS (fun H locs hP hS => ?_)
  refine lv_iadd hx hb dX2_differences_58 ?_
  refine lv_aload_n hx hb dX2_differences_59 rfl (lv_at hl 0 rfl) ?_
  refine va_get (D := D) (ci := 2) (v := .ref h4) (C := RX2) (T := TX2) (N := 9) hx hb hts k2 hown hK.1 hP 0 rfl rfl 3 (by decide) (hts (.fieldLink RX2 21 "BoredPipes$Pipe" "sizes" "[I") (List.mem_of_getElem? (i := 6) rfl)) (fun _ h9 => h9) rfl dX2_differences_60 ?_
  refine lv_aload_n hx hb dX2_differences_63 rfl (lv_at hl 0 rfl) ?_
  refine va_get (D := D) (ci := 2) (v := .int (nI nh)) (C := RX2) (T := TX2) (N := 9) hx hb hts k2 hown hK.1 hP 0 rfl rfl 6 (by decide) (hts (.fieldLink RX2 31 "BoredPipes$Pipe" "holes" "I") (List.mem_of_getElem? (i := 5) rfl)) (fun _ h9 => h9) rfl dX2_differences_64 ?_
  refine lv_aload_n hx hb dX2_differences_67 rfl (lv_at hl 1 rfl) ?_
  refine va_get (D := D) (ci := 2) (v := .ref g4) (C := RX2) (T := TX2) (N := 9) hx hb hts k2 hown hK.1 hP 6 rfl rfl 3 (by decide) (hts (.fieldLink RX2 21 "BoredPipes$Pipe" "sizes" "[I") (List.mem_of_getElem? (i := 6) rfl)) (fun _ h9 => h9) rfl dX2_differences_68 ?_
  refine lv_aload_n hx hb dX2_differences_71 rfl (lv_at hl 1 rfl) ?_
  refine va_get (D := D) (ci := 2) (v := .int (nI nh')) (C := RX2) (T := TX2) (N := 9) hx hb hts k2 hown hK.1 hP 6 rfl rfl 6 (by decide) (hts (.fieldLink RX2 31 "BoredPipes$Pipe" "holes" "I") (List.mem_of_getElem? (i := 5) rfl)) (fun _ h9 => h9) rfl dX2_differences_72 ?_
  refine rd_i (va_runSN (As := [.ref h4, .int (nI nh), .ref g4, .int (nI nh')]) (rest := [.int (((fRowD ln ln' np np') + (fRowD bo bo' np np')) + (fRowD pl pl' nh nh'))]) ⟨hx, hb, hml, hown, hts⟩ (c_X5_rowDifferences l D cI cZ h4 g4 6 sz sz' nh nh' (by omega) (by omega) (by omega)) ⟨va_cnB 4 hts gX2_differences_X5_rowDifferences_n66 rfl rfl rfl (nwL14 hN) (hts (.initialized RX5) (List.mem_of_getElem? (i := 11) rfl)) hdV_X5_rowDifferences.2 ⟨Nat.le_of_ble_eq_true rfl, Nat.le_of_ble_eq_true rfl⟩, (hts (.static yX5_rowDifferences) (List.mem_of_getElem? (i := 10) rfl)), trivial⟩ (PR.S (hP.sub [4, 10] rfl) hK) rfl rfl hl.1 rfl (lv_room (Nat.le_of_ble_eq_true rfl)) dX2_differences_75 ⟨Nat.le_of_ble_eq_true rfl, Nat.le_of_ble_eq_true rfl⟩) hP hS (fun H locs hP hS => ?_)
  refine lv_iadd hx hb dX2_differences_78 ?_
  refine lv_aload_n hx hb dX2_differences_79 rfl (lv_at hl 0 rfl) ?_
  refine va_get (D := D) (ci := 2) (v := .ref h5) (C := RX2) (T := TX2) (N := 9) hx hb hts k2 hown hK.1 hP 0 rfl rfl 4 (by decide) (hts (.fieldLink RX2 24 "BoredPipes$Pipe" "chimneys" "[I") (List.mem_of_getElem? (i := 7) rfl)) (fun _ h9 => h9) rfl dX2_differences_80 ?_
  refine lv_aload_n hx hb dX2_differences_83 rfl (lv_at hl 0 rfl) ?_
  refine va_get (D := D) (ci := 2) (v := .int (nI nh)) (C := RX2) (T := TX2) (N := 9) hx hb hts k2 hown hK.1 hP 0 rfl rfl 6 (by decide) (hts (.fieldLink RX2 31 "BoredPipes$Pipe" "holes" "I") (List.mem_of_getElem? (i := 5) rfl)) (fun _ h9 => h9) rfl dX2_differences_84 ?_
  refine lv_aload_n hx hb dX2_differences_87 rfl (lv_at hl 1 rfl) ?_
  refine va_get (D := D) (ci := 2) (v := .ref g5) (C := RX2) (T := TX2) (N := 9) hx hb hts k2 hown hK.1 hP 6 rfl rfl 4 (by decide) (hts (.fieldLink RX2 24 "BoredPipes$Pipe" "chimneys" "[I") (List.mem_of_getElem? (i := 7) rfl)) (fun _ h9 => h9) rfl dX2_differences_88 ?_
  refine lv_aload_n hx hb dX2_differences_91 rfl (lv_at hl 1 rfl) ?_
  refine va_get (D := D) (ci := 2) (v := .int (nI nh')) (C := RX2) (T := TX2) (N := 9) hx hb hts k2 hown hK.1 hP 6 rfl rfl 6 (by decide) (hts (.fieldLink RX2 31 "BoredPipes$Pipe" "holes" "I") (List.mem_of_getElem? (i := 5) rfl)) (fun _ h9 => h9) rfl dX2_differences_92 ?_
  refine rd_i (va_runSN (As := [.ref h5, .int (nI nh), .ref g5, .int (nI nh')]) (rest := [.int ((((fRowD ln ln' np np') + (fRowD bo bo' np np')) + (fRowD pl pl' nh nh')) + (fRowD sz sz' nh nh'))]) ⟨hx, hb, hml, hown, hts⟩ (c_X5_rowDifferences l D cI cZ h5 g5 6 ch ch' nh nh' (by omega) (by omega) (by omega)) ⟨va_cnB 4 hts gX2_differences_X5_rowDifferences_n66 rfl rfl rfl (nwL14 hN) (hts (.initialized RX5) (List.mem_of_getElem? (i := 11) rfl)) hdV_X5_rowDifferences.2 ⟨Nat.le_of_ble_eq_true rfl, Nat.le_of_ble_eq_true rfl⟩, (hts (.static yX5_rowDifferences) (List.mem_of_getElem? (i := 10) rfl)), trivial⟩ (PR.S (hP.sub [5, 11] rfl) hK) rfl rfl hl.1 rfl (lv_room (Nat.le_of_ble_eq_true rfl)) dX2_differences_95 ⟨Nat.le_of_ble_eq_true rfl, Nat.le_of_ble_eq_true rfl⟩) hP hS (fun H locs hP hS => ?_)
  refine lv_iadd hx hb dX2_differences_98 ?_
  refine lv_aload_n hx hb dX2_differences_99 rfl (lv_at hl 0 rfl) ?_
  refine va_get (D := D) (ci := 2) (v := .int mo) (C := RX2) (T := TX2) (N := 9) hx hb hts k2 hown hK.1 hP 0 rfl rfl 7 (by decide) (hts (.fieldLink RX2 34 "BoredPipes$Pipe" "mouth" "I") (List.mem_of_getElem? (i := 8) rfl)) (fun _ h9 => h9) rfl dX2_differences_100 ?_
  refine lv_aload_n hx hb dX2_differences_103 rfl (lv_at hl 1 rfl) ?_
  refine va_get (D := D) (ci := 2) (v := .int mo') (C := RX2) (T := TX2) (N := 9) hx hb hts k2 hown hK.1 hP 6 rfl rfl 7 (by decide) (hts (.fieldLink RX2 34 "BoredPipes$Pipe" "mouth" "I") (List.mem_of_getElem? (i := 8) rfl)) (fun _ h9 => h9) rfl dX2_differences_104 ?_
  have jn_107 : ∀ (H : Heap) (locs : List Loc), va_P D vwCl [(h, .inr (2, [.ref h1, .ref h2, .ref h3, .ref h4, .ref h5, .int (nI np), .int (nI nh), .int mo, .int fa])), (h1, .inl (cI, 12, .inl ln)), (h2, .inl (cI, 12, .inl bo)), (h3, .inl (cI, 6, .inl pl)), (h4, .inl (cI, 6, .inl sz)), (h5, .inl (cI, 6, .inl ch)), (g, .inr (2, [.ref g1, .ref g2, .ref g3, .ref g4, .ref g5, .int (nI np'), .int (nI nh'), .int mo', .int fa'])), (g1, .inl (cI, 12, .inl ln')), (g2, .inl (cI, 12, .inl bo')), (g3, .inl (cI, 6, .inl pl')), (g4, .inl (cI, 6, .inl sz')), (g5, .inl (cI, 6, .inl ch'))] H → va_S nA s.heap H locs → W p l e rmX2_differences s m a below meth c H locs 0 0 Q (F0 m 115 ls [.int (if mo = mo' then 0 else 1), .int (((((fRowD ln ln' np np') + (fRowD bo bo' np np')) + (fRowD pl pl' nh nh')) + (fRowD sz sz' nh nh')) + (fRowD ch ch' nh nh'))]) := by
    intro H locs hP hS
    refine lv_iadd hx hb dX2_differences_115 ?_
    refine lv_aload_n hx hb dX2_differences_116 rfl (lv_at hl 0 rfl) ?_
    refine va_get (D := D) (ci := 2) (v := .int fa) (C := RX2) (T := TX2) (N := 9) hx hb hts k2 hown hK.1 hP 0 rfl rfl 8 (by decide) (hts (.fieldLink RX2 37 "BoredPipes$Pipe" "farEnd" "I") (List.mem_of_getElem? (i := 9) rfl)) (fun _ h9 => h9) rfl dX2_differences_117 ?_
    refine lv_aload_n hx hb dX2_differences_120 rfl (lv_at hl 1 rfl) ?_
    refine va_get (D := D) (ci := 2) (v := .int fa') (C := RX2) (T := TX2) (N := 9) hx hb hts k2 hown hK.1 hP 6 rfl rfl 8 (by decide) (hts (.fieldLink RX2 37 "BoredPipes$Pipe" "farEnd" "I") (List.mem_of_getElem? (i := 9) rfl)) (fun _ h9 => h9) rfl dX2_differences_121 ?_
    have jn_124 : ∀ (H : Heap) (locs : List Loc), va_P D vwCl [(h, .inr (2, [.ref h1, .ref h2, .ref h3, .ref h4, .ref h5, .int (nI np), .int (nI nh), .int mo, .int fa])), (h1, .inl (cI, 12, .inl ln)), (h2, .inl (cI, 12, .inl bo)), (h3, .inl (cI, 6, .inl pl)), (h4, .inl (cI, 6, .inl sz)), (h5, .inl (cI, 6, .inl ch)), (g, .inr (2, [.ref g1, .ref g2, .ref g3, .ref g4, .ref g5, .int (nI np'), .int (nI nh'), .int mo', .int fa'])), (g1, .inl (cI, 12, .inl ln')), (g2, .inl (cI, 12, .inl bo')), (g3, .inl (cI, 6, .inl pl')), (g4, .inl (cI, 6, .inl sz')), (g5, .inl (cI, 6, .inl ch'))] H → va_S nA s.heap H locs → W p l e rmX2_differences s m a below meth c H locs 0 0 Q (F0 m 132 ls [.int (if fa = fa' then 0 else 1), .int ((((((fRowD ln ln' np np') + (fRowD bo bo' np np')) + (fRowD pl pl' nh nh')) + (fRowD sz sz' nh nh')) + (fRowD ch ch' nh nh')) + (if mo = mo' then 0 else 1))]) := by
      intro H locs hP hS
      refine lv_iadd hx hb dX2_differences_132 ?_
      exact ret_RI hQ hx hb hr hlk hS (show fDiffs ln bo pl sz ch np nh mo fa ln' bo' pl' sz' ch' np' nh' mo' fa' = ((((((fRowD ln ln' np np') + (fRowD bo bo' np np')) + (fRowD pl pl' nh nh')) + (fRowD sz sz' nh nh')) + (fRowD ch ch' nh nh')) + (if mo = mo' then 0 else 1)) + (if fa = fa' then 0 else 1) from (by first | with_reducible rfl | (simp only [fDiffs]; done) | (simp [fDiffs]; done))).symm dX2_differences_133
    refine lv_icmp_ne (tgt := 131) hx hb dX2_differences_124 (by decide) (fun c2 => ?_) (fun c2 => ?_)
    · skip
      refine lv_iconst (v := 1) hx hb dX2_differences_131 (by decide) ?_
      exact lv_eqi (if_neg c2).symm (jn_124 _ _ hP hS)
    · skip
      refine lv_iconst (v := 0) hx hb dX2_differences_127 (by decide) ?_
      refine lv_goto (tgt := 132) hx hb dX2_differences_128 (by decide) ?_
      exact lv_eqi (if_pos c2).symm (jn_124 _ _ hP hS)
  refine lv_icmp_ne (tgt := 114) hx hb dX2_differences_107 (by decide) (fun c1 => ?_) (fun c1 => ?_)
  · skip
    refine lv_iconst (v := 1) hx hb dX2_differences_114 (by decide) ?_
    exact lv_eqi (if_neg c1).symm (jn_107 _ _ hP hS)
  · skip
    refine lv_iconst (v := 0) hx hb dX2_differences_110 (by decide) ?_
    refine lv_goto (tgt := 115) hx hb dX2_differences_111 (by decide) ?_
    exact lv_eqi (if_pos c1).symm (jn_107 _ _ hP hS)

set_option maxHeartbeats 4000000 in
set_option maxRecDepth 100000 in
theorem c_X0_none (l : Launch) (D : va_G) (cI cZ : ClassId) (g : Nat) (rk : Int32) (ho : Int32) (wh : Int32) (va : Int32) (x : Int32)  : Met l yX0_none wsX0_none rmX0_none (va_Pc [.ref g, .int x] (PW D cI cZ [(g, .inr (0, [.int rk, .int ho, .int wh, .int va]))])) (WV (S := Unit) D (fun _ => True) (fun _ => [(g, .inr (0, [.int x, .int (-1), .int wh, .int va]))]) [(g, .inr (0, [.int rk, .int ho, .int wh, .int va]))]) 0 0 (ad [(g, .inr (0, [.int rk, .int ho, .int wh, .int va]))]) := by
  refine met_go (cc := cX0_none) (maxL := 2) (ret := none) (by decide) rfl ?_ (Nat.le_of_ble_eq_true rfl)
  intro p e s m a below meth c Q hQ _ hx hb hr hml hts hown hlk hnm hpre ls hl
  have hown : s.vm.findClass RX0 = some m.cls := hown
  obtain ⟨hP, hK, hD0⟩ := hpre
  have hN := hK.2
  obtain ⟨A, hAe⟩ : ∃ A : Nat → Prop, A = ad [(g, .inr (0, [.int rk, .int ho, .int wh, .int va]))] := ⟨_, rfl⟩
  have hD : va_D A [(g, .inr (0, [.int rk, .int ho, .int wh, .int va]))] := by rw [hAe]; exact hD0.ad
  have hS : va_S A s.heap s.heap [] := va_S.rf
  have hl : lv_has ls 2 [(0, .ref g), (1, .int x)] := hl
  have k0 : ∀ w ∈ wsX00, w ∈ wsX0_none := fun w h => List.mem_cons_of_mem _ (List.mem_append_right _ h)
  refine lv_aload_n hx hb dX0_none_0 rfl (lv_at hl 0 rfl) ?_
  refine lv_iload_n hx hb dX0_none_1 rfl (lv_at hl 1 rfl) ?_
  refine va_put (D := D) (ci := 0) (v := .int x) (ty := .int) (C := RX0) (T := TX0) (N := 4) hx hb hts k0 tyX0 tyX0_ok nmX0 hown hK.1 hP hD hS 0 rfl rfl 0 (by decide) (hts (.fieldLink RX0 9 "BoredPipes$Move" "rank" "I") (List.mem_of_getElem? (i := 1) rfl)) (fun _ h9 => h9) rfl (tyX0_ok 0 (by decide)) rfl rfl (Nat.le_of_ble_eq_true rfl) dX0_none_2 (fun H locs hP hD hS => ?_)
  have hP : va_P D vwCl [(g, .inr (0, [.int x, .int ho, .int wh, .int va]))] H := hP
  have hD : va_D A [(g, .inr (0, [.int x, .int ho, .int wh, .int va]))] := hD
  refine lv_aload_n hx hb dX0_none_5 rfl (lv_at hl 0 rfl) ?_
  refine lv_iconst (v := (-1)) hx hb dX0_none_6 (by decide) ?_
  refine va_put (D := D) (ci := 0) (v := .int (-1)) (ty := .int) (C := RX0) (T := TX0) (N := 4) hx hb hts k0 tyX0 tyX0_ok nmX0 hown hK.1 hP hD hS 0 rfl rfl 1 (by decide) (hts (.fieldLink RX0 15 "BoredPipes$Move" "hole" "I") (List.mem_of_getElem? (i := 2) rfl)) (fun _ h9 => h9) rfl (tyX0_ok 1 (by decide)) rfl rfl (Nat.le_of_ble_eq_true rfl) dX0_none_7 (fun H locs hP hD hS => ?_)
  have hP : va_P D vwCl [(g, .inr (0, [.int x, .int (-1), .int wh, .int va]))] H := hP
  have hD : va_D A [(g, .inr (0, [.int x, .int (-1), .int wh, .int va]))] := hD
  exact ret_WV hQ hx hb hr hlk hAe () hP hS trivial dX0_none_10

set_option maxHeartbeats 4000000 in
set_option maxRecDepth 100000 in
theorem c_X0_take (l : Launch) (D : va_G) (cI cZ : ClassId) (g : Nat) (rk : Int32) (ho : Int32) (wh : Int32) (va : Int32) (x : Int32) (y : Int32) (z : Int32) (w : Int32)  : Met l yX0_take wsX0_take rmX0_take (va_Pc [.ref g, .int x, .int y, .int z, .int w] (PW D cI cZ [(g, .inr (0, [.int rk, .int ho, .int wh, .int va]))])) (WV (S := Unit) D (fun _ => True) (fun _ => [(g, .inr (0, [.int x, .int y, .int z, .int w]))]) [(g, .inr (0, [.int rk, .int ho, .int wh, .int va]))]) 0 0 (ad [(g, .inr (0, [.int rk, .int ho, .int wh, .int va]))]) := by
  refine met_go (cc := cX0_take) (maxL := 5) (ret := none) (by decide) rfl ?_ (Nat.le_of_ble_eq_true rfl)
  intro p e s m a below meth c Q hQ _ hx hb hr hml hts hown hlk hnm hpre ls hl
  have hown : s.vm.findClass RX0 = some m.cls := hown
  obtain ⟨hP, hK, hD0⟩ := hpre
  have hN := hK.2
  obtain ⟨A, hAe⟩ : ∃ A : Nat → Prop, A = ad [(g, .inr (0, [.int rk, .int ho, .int wh, .int va]))] := ⟨_, rfl⟩
  have hD : va_D A [(g, .inr (0, [.int rk, .int ho, .int wh, .int va]))] := by rw [hAe]; exact hD0.ad
  have hS : va_S A s.heap s.heap [] := va_S.rf
  have hl : lv_has ls 5 [(0, .ref g), (1, .int x), (2, .int y), (3, .int z), (4, .int w)] := hl
  have k0 : ∀ w ∈ wsX00, w ∈ wsX0_take := fun w h => List.mem_cons_of_mem _ (List.mem_append_right _ h)
  refine lv_aload_n hx hb dX0_take_0 rfl (lv_at hl 0 rfl) ?_
  refine lv_iload_n hx hb dX0_take_1 rfl (lv_at hl 1 rfl) ?_
  refine va_put (D := D) (ci := 0) (v := .int x) (ty := .int) (C := RX0) (T := TX0) (N := 4) hx hb hts k0 tyX0 tyX0_ok nmX0 hown hK.1 hP hD hS 0 rfl rfl 0 (by decide) (hts (.fieldLink RX0 9 "BoredPipes$Move" "rank" "I") (List.mem_of_getElem? (i := 1) rfl)) (fun _ h9 => h9) rfl (tyX0_ok 0 (by decide)) rfl rfl (Nat.le_of_ble_eq_true rfl) dX0_take_2 (fun H locs hP hD hS => ?_)
  have hP : va_P D vwCl [(g, .inr (0, [.int x, .int ho, .int wh, .int va]))] H := hP
  have hD : va_D A [(g, .inr (0, [.int x, .int ho, .int wh, .int va]))] := hD
  refine lv_aload_n hx hb dX0_take_5 rfl (lv_at hl 0 rfl) ?_
  refine lv_iload_n hx hb dX0_take_6 rfl (lv_at hl 2 rfl) ?_
  refine va_put (D := D) (ci := 0) (v := .int y) (ty := .int) (C := RX0) (T := TX0) (N := 4) hx hb hts k0 tyX0 tyX0_ok nmX0 hown hK.1 hP hD hS 0 rfl rfl 1 (by decide) (hts (.fieldLink RX0 15 "BoredPipes$Move" "hole" "I") (List.mem_of_getElem? (i := 2) rfl)) (fun _ h9 => h9) rfl (tyX0_ok 1 (by decide)) rfl rfl (Nat.le_of_ble_eq_true rfl) dX0_take_7 (fun H locs hP hD hS => ?_)
  have hP : va_P D vwCl [(g, .inr (0, [.int x, .int y, .int wh, .int va]))] H := hP
  have hD : va_D A [(g, .inr (0, [.int x, .int y, .int wh, .int va]))] := hD
  refine lv_aload_n hx hb dX0_take_10 rfl (lv_at hl 0 rfl) ?_
  refine lv_iload_n hx hb dX0_take_11 rfl (lv_at hl 3 rfl) ?_
  refine va_put (D := D) (ci := 0) (v := .int z) (ty := .int) (C := RX0) (T := TX0) (N := 4) hx hb hts k0 tyX0 tyX0_ok nmX0 hown hK.1 hP hD hS 0 rfl rfl 2 (by decide) (hts (.fieldLink RX0 18 "BoredPipes$Move" "what" "I") (List.mem_of_getElem? (i := 3) rfl)) (fun _ h9 => h9) rfl (tyX0_ok 2 (by decide)) rfl rfl (Nat.le_of_ble_eq_true rfl) dX0_take_12 (fun H locs hP hD hS => ?_)
  have hP : va_P D vwCl [(g, .inr (0, [.int x, .int y, .int z, .int va]))] H := hP
  have hD : va_D A [(g, .inr (0, [.int x, .int y, .int z, .int va]))] := hD
  refine lv_aload_n hx hb dX0_take_15 rfl (lv_at hl 0 rfl) ?_
  refine lv_iload hx hb dX0_take_16 (lv_at hl 4 rfl) ?_
  refine va_put (D := D) (ci := 0) (v := .int w) (ty := .int) (C := RX0) (T := TX0) (N := 4) hx hb hts k0 tyX0 tyX0_ok nmX0 hown hK.1 hP hD hS 0 rfl rfl 3 (by decide) (hts (.fieldLink RX0 21 "BoredPipes$Move" "value" "I") (List.mem_of_getElem? (i := 4) rfl)) (fun _ h9 => h9) rfl (tyX0_ok 3 (by decide)) rfl rfl (Nat.le_of_ble_eq_true rfl) dX0_take_18 (fun H locs hP hD hS => ?_)
  have hP : va_P D vwCl [(g, .inr (0, [.int x, .int y, .int z, .int w]))] H := hP
  have hD : va_D A [(g, .inr (0, [.int x, .int y, .int z, .int w]))] := hD
  exact ret_WV hQ hx hb hr hlk hAe () hP hS trivial dX0_take_21

set_option maxHeartbeats 4000000 in
set_option maxRecDepth 100000 in
theorem c_X1_add (l : Launch) (D : va_G) (cI cZ : ClassId) (n : Nat) (n1 : Nat) (n2 : Nat) (n3 : Nat) (nn : Nat) (ns : Nat → Int32) (nw : Nat → Int32) (nt : Nat → Int32) (x : Int32) (y : Int32) (z : Int32) (hnn : nn < 6) : Met l yX1_add wsX1_add rmX1_add (va_Pc [.ref n, .int x, .int y, .int z] (PW D cI cZ [(n, .inr (1, [.ref n1, .ref n2, .ref n3, .int (nI nn)])), (n1, .inl (cI, 6, .inl ns)), (n2, .inl (cI, 6, .inl nw)), (n3, .inl (cI, 6, .inl nt))])) (WV (S := Unit) D (fun _ => True) (fun _ => [(n, .inr (1, [.ref n1, .ref n2, .ref n3, .int (nI (nn + 1))])), (n1, .inl (cI, 6, .inl (upd ns nn x))), (n2, .inl (cI, 6, .inl (upd nw nn y))), (n3, .inl (cI, 6, .inl (upd nt nn z)))]) [(n, .inr (1, [.ref n1, .ref n2, .ref n3, .int (nI nn)])), (n1, .inl (cI, 6, .inl ns)), (n2, .inl (cI, 6, .inl nw)), (n3, .inl (cI, 6, .inl nt))]) 0 0 (ad [(n, .inr (1, [.ref n1, .ref n2, .ref n3, .int (nI nn)])), (n1, .inl (cI, 6, .inl ns)), (n2, .inl (cI, 6, .inl nw)), (n3, .inl (cI, 6, .inl nt))]) := by
  refine met_go (cc := cX1_add) (maxL := 4) (ret := none) (by decide) rfl ?_ (Nat.le_of_ble_eq_true rfl)
  intro p e s m a below meth c Q hQ _ hx hb hr hml hts hown hlk hnm hpre ls hl
  have hown : s.vm.findClass RX1 = some m.cls := hown
  obtain ⟨hP, hK, hD0⟩ := hpre
  have hN := hK.2
  obtain ⟨A, hAe⟩ : ∃ A : Nat → Prop, A = ad [(n, .inr (1, [.ref n1, .ref n2, .ref n3, .int (nI nn)])), (n1, .inl (cI, 6, .inl ns)), (n2, .inl (cI, 6, .inl nw)), (n3, .inl (cI, 6, .inl nt))] := ⟨_, rfl⟩
  have hD : va_D A [(n, .inr (1, [.ref n1, .ref n2, .ref n3, .int (nI nn)])), (n1, .inl (cI, 6, .inl ns)), (n2, .inl (cI, 6, .inl nw)), (n3, .inl (cI, 6, .inl nt))] := by rw [hAe]; exact hD0.ad
  have hS : va_S A s.heap s.heap [] := va_S.rf
  have hl : lv_has ls 4 [(0, .ref n), (1, .int x), (2, .int y), (3, .int z)] := hl
  have k1 : ∀ w ∈ wsX10, w ∈ wsX1_add := fun w h => List.mem_cons_of_mem _ (List.mem_append_right _ h)
  refine lv_aload_n hx hb dX1_add_0 rfl (lv_at hl 0 rfl) ?_
  refine va_get (D := D) (ci := 1) (v := .ref n1) (C := RX1) (T := TX1) (N := 4) hx hb hts k1 hown hK.1 hP 0 rfl rfl 0 (by decide) (hts (.fieldLink RX1 9 "BoredPipes$Notes" "sets" "[I") (List.mem_of_getElem? (i := 1) rfl)) (fun _ h9 => h9) rfl dX1_add_1 ?_
  refine lv_aload_n hx hb dX1_add_4 rfl (lv_at hl 0 rfl) ?_
  refine va_get (D := D) (ci := 1) (v := .int (nI nn)) (C := RX1) (T := TX1) (N := 4) hx hb hts k1 hown hK.1 hP 0 rfl rfl 3 (by decide) (hts (.fieldLink RX1 21 "BoredPipes$Notes" "many" "I") (List.mem_of_getElem? (i := 2) rfl)) (fun _ h9 => h9) rfl dX1_add_5 ?_
  refine lv_iload_n hx hb dX1_add_8 rfl (lv_at hl 1 rfl) ?_
  refine wr_v (va_runSN (As := [.ref n1, .int (nI nn), .int x]) (rest := []) ⟨hx, hb, hml, hown, hts⟩ (c_X5_put_in l D cI cZ n1 6 ns nn x (by omega) (by omega)) ⟨va_cnB 3 hts gX1_add_X5_put_n25 rfl rfl rfl (nwL12 hN) (hts (.initialized RX5) (List.mem_of_getElem? (i := 6) rfl)) hdV_X5_put.2 ⟨Nat.le_of_ble_eq_true rfl, Nat.le_of_ble_eq_true rfl⟩, (hts (.static yX5_put) (List.mem_of_getElem? (i := 5) rfl)), trivial⟩ (PW.S (hP.sub [1] rfl) hK ((hD.sub [1] (by decide) rfl).weaken (fun _ _ _ _ => trivial))) rfl rfl hl.1 rfl (lv_room (Nat.le_of_ble_eq_true rfl)) dX1_add_9 ⟨Nat.le_of_ble_eq_true rfl, Nat.le_of_ble_eq_true rfl⟩) hP hD hS [1] rfl (fun _ => rfl) (fun u1 H locs hu1 hP hD hS => ?_)
  have hP : va_P D vwCl [(n, .inr (1, [.ref n1, .ref n2, .ref n3, .int (nI nn)])), (n1, .inl (cI, 6, .inl (upd ns nn x))), (n2, .inl (cI, 6, .inl nw)), (n3, .inl (cI, 6, .inl nt))] H := hP
  have hD : va_D A [(n, .inr (1, [.ref n1, .ref n2, .ref n3, .int (nI nn)])), (n1, .inl (cI, 6, .inl (upd ns nn x))), (n2, .inl (cI, 6, .inl nw)), (n3, .inl (cI, 6, .inl nt))] := hD
  refine lv_aload_n hx hb dX1_add_12 rfl (lv_at hl 0 rfl) ?_
  refine va_get (D := D) (ci := 1) (v := .ref n2) (C := RX1) (T := TX1) (N := 4) hx hb hts k1 hown hK.1 hP 0 rfl rfl 1 (by decide) (hts (.fieldLink RX1 15 "BoredPipes$Notes" "whiches" "[I") (List.mem_of_getElem? (i := 3) rfl)) (fun _ h9 => h9) rfl dX1_add_13 ?_
  refine lv_aload_n hx hb dX1_add_16 rfl (lv_at hl 0 rfl) ?_
  refine va_get (D := D) (ci := 1) (v := .int (nI nn)) (C := RX1) (T := TX1) (N := 4) hx hb hts k1 hown hK.1 hP 0 rfl rfl 3 (by decide) (hts (.fieldLink RX1 21 "BoredPipes$Notes" "many" "I") (List.mem_of_getElem? (i := 2) rfl)) (fun _ h9 => h9) rfl dX1_add_17 ?_
  refine lv_iload_n hx hb dX1_add_20 rfl (lv_at hl 2 rfl) ?_
  refine wr_v (va_runSN (As := [.ref n2, .int (nI nn), .int y]) (rest := []) ⟨hx, hb, hml, hown, hts⟩ (c_X5_put_in l D cI cZ n2 6 nw nn y (by omega) (by omega)) ⟨va_cnB 3 hts gX1_add_X5_put_n25 rfl rfl rfl (nwL12 hN) (hts (.initialized RX5) (List.mem_of_getElem? (i := 6) rfl)) hdV_X5_put.2 ⟨Nat.le_of_ble_eq_true rfl, Nat.le_of_ble_eq_true rfl⟩, (hts (.static yX5_put) (List.mem_of_getElem? (i := 5) rfl)), trivial⟩ (PW.S (hP.sub [2] rfl) hK ((hD.sub [2] (by decide) rfl).weaken (fun _ _ _ _ => trivial))) rfl rfl hl.1 rfl (lv_room (Nat.le_of_ble_eq_true rfl)) dX1_add_21 ⟨Nat.le_of_ble_eq_true rfl, Nat.le_of_ble_eq_true rfl⟩) hP hD hS [2] rfl (fun _ => rfl) (fun u2 H locs hu2 hP hD hS => ?_)
  have hP : va_P D vwCl [(n, .inr (1, [.ref n1, .ref n2, .ref n3, .int (nI nn)])), (n1, .inl (cI, 6, .inl (upd ns nn x))), (n2, .inl (cI, 6, .inl (upd nw nn y))), (n3, .inl (cI, 6, .inl nt))] H := hP
  have hD : va_D A [(n, .inr (1, [.ref n1, .ref n2, .ref n3, .int (nI nn)])), (n1, .inl (cI, 6, .inl (upd ns nn x))), (n2, .inl (cI, 6, .inl (upd nw nn y))), (n3, .inl (cI, 6, .inl nt))] := hD
  refine lv_aload_n hx hb dX1_add_24 rfl (lv_at hl 0 rfl) ?_
  refine va_get (D := D) (ci := 1) (v := .ref n3) (C := RX1) (T := TX1) (N := 4) hx hb hts k1 hown hK.1 hP 0 rfl rfl 2 (by decide) (hts (.fieldLink RX1 18 "BoredPipes$Notes" "wanted" "[I") (List.mem_of_getElem? (i := 4) rfl)) (fun _ h9 => h9) rfl dX1_add_25 ?_
  refine lv_aload_n hx hb dX1_add_28 rfl (lv_at hl 0 rfl) ?_
  refine va_get (D := D) (ci := 1) (v := .int (nI nn)) (C := RX1) (T := TX1) (N := 4) hx hb hts k1 hown hK.1 hP 0 rfl rfl 3 (by decide) (hts (.fieldLink RX1 21 "BoredPipes$Notes" "many" "I") (List.mem_of_getElem? (i := 2) rfl)) (fun _ h9 => h9) rfl dX1_add_29 ?_
  refine lv_iload_n hx hb dX1_add_32 rfl (lv_at hl 3 rfl) ?_
  refine wr_v (va_runSN (As := [.ref n3, .int (nI nn), .int z]) (rest := []) ⟨hx, hb, hml, hown, hts⟩ (c_X5_put_in l D cI cZ n3 6 nt nn z (by omega) (by omega)) ⟨va_cnB 3 hts gX1_add_X5_put_n25 rfl rfl rfl (nwL12 hN) (hts (.initialized RX5) (List.mem_of_getElem? (i := 6) rfl)) hdV_X5_put.2 ⟨Nat.le_of_ble_eq_true rfl, Nat.le_of_ble_eq_true rfl⟩, (hts (.static yX5_put) (List.mem_of_getElem? (i := 5) rfl)), trivial⟩ (PW.S (hP.sub [3] rfl) hK ((hD.sub [3] (by decide) rfl).weaken (fun _ _ _ _ => trivial))) rfl rfl hl.1 rfl (lv_room (Nat.le_of_ble_eq_true rfl)) dX1_add_33 ⟨Nat.le_of_ble_eq_true rfl, Nat.le_of_ble_eq_true rfl⟩) hP hD hS [3] rfl (fun _ => rfl) (fun u3 H locs hu3 hP hD hS => ?_)
  have hP : va_P D vwCl [(n, .inr (1, [.ref n1, .ref n2, .ref n3, .int (nI nn)])), (n1, .inl (cI, 6, .inl (upd ns nn x))), (n2, .inl (cI, 6, .inl (upd nw nn y))), (n3, .inl (cI, 6, .inl (upd nt nn z)))] H := hP
  have hD : va_D A [(n, .inr (1, [.ref n1, .ref n2, .ref n3, .int (nI nn)])), (n1, .inl (cI, 6, .inl (upd ns nn x))), (n2, .inl (cI, 6, .inl (upd nw nn y))), (n3, .inl (cI, 6, .inl (upd nt nn z)))] := hD
  refine lv_aload_n hx hb dX1_add_36 rfl (lv_at hl 0 rfl) ?_
  refine lv_dup hx hb dX1_add_37 rfl ?_
  refine va_get (D := D) (ci := 1) (v := .int (nI nn)) (C := RX1) (T := TX1) (N := 4) hx hb hts k1 hown hK.1 hP 0 rfl rfl 3 (by decide) (hts (.fieldLink RX1 21 "BoredPipes$Notes" "many" "I") (List.mem_of_getElem? (i := 2) rfl)) (fun _ h9 => h9) rfl dX1_add_38 ?_
  refine lv_iconst (v := 1) hx hb dX1_add_41 (by decide) ?_
  refine nn_iadd hx hb dX1_add_42 (x := nn) (y := 1) rfl rfl ?_
  refine va_put (D := D) (ci := 1) (v := .int (nI (nn + 1))) (ty := .int) (C := RX1) (T := TX1) (N := 4) hx hb hts k1 tyX1 tyX1_ok nmX1 hown hK.1 hP hD hS 0 rfl rfl 3 (by decide) (hts (.fieldLink RX1 21 "BoredPipes$Notes" "many" "I") (List.mem_of_getElem? (i := 2) rfl)) (fun _ h9 => h9) rfl (tyX1_ok 3 (by decide)) rfl rfl (Nat.le_of_ble_eq_true rfl) dX1_add_43 (fun H locs hP hD hS => ?_)
  have hP : va_P D vwCl [(n, .inr (1, [.ref n1, .ref n2, .ref n3, .int (nI (nn + 1))])), (n1, .inl (cI, 6, .inl (upd ns nn x))), (n2, .inl (cI, 6, .inl (upd nw nn y))), (n3, .inl (cI, 6, .inl (upd nt nn z)))] H := hP
  have hD : va_D A [(n, .inr (1, [.ref n1, .ref n2, .ref n3, .int (nI (nn + 1))])), (n1, .inl (cI, 6, .inl (upd ns nn x))), (n2, .inl (cI, 6, .inl (upd nw nn y))), (n3, .inl (cI, 6, .inl (upd nt nn z)))] := hD
  exact ret_WV hQ hx hb hr hlk hAe () hP hS trivial dX1_add_46
