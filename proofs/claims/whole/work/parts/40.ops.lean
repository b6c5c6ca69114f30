section OPS
theorem re_ok {re : Int32} (h : ∃ k, 1 ≤ k ∧ k ≤ 100 ∧ re = nI k) : ¬ re ≤ 0 := by
  obtain ⟨k, k1, k2, e⟩ := h
  rw [e]; exact nI_nle (by omega) (by omega)
theorem mh_of_ok {ln bo pl sz ch bd : Nat → Int32} {np nh k p : Nat} {mo fa y v : Int32} (o : OKp ln bo pl sz ch np nh mo fa bd k y v (nI p)) (hp : p < 100) : MH ln bo (upd bd p v) np nh := by
  obtain ⟨q, q18, e, hP, hH⟩ := okp_c o
  have : p = q := (nI_eq (by omega) (by omega)).mp e
  rw [this]; exact MH_of hP hH
theorem PI_e {ln bo pl sz ch : Nat → Int32} {np nh : Nat} {mo fa mo' fa' : Int32} (h : PI ln bo pl sz ch np nh mo fa) (hm : mo' = 0 ∨ mo' = 1) (hf : fa' = 0 ∨ fa' = 1) : PI ln bo pl sz ch np nh mo' fa' := by
  obtain ⟨a1, a2, a3, a4, a5, a6, a7, a8, -, -⟩ := h
  exact ⟨a1, a2, a3, a4, a5, a6, a7, a8, hm, hf⟩
theorem inv_MH {dr : Int64} {re : Int32} {np nh : Nat} {mo fa : Int32} {ln bo pl sz ch : Nat → Int32} {ua : Int32} {npA nhA : Nat} {moA faA : Int32} {lnA boA plA szA chA : Nat → Int32} {ub : Int32} {npB nhB : Nat} {moB faB : Int32} {lnB boB plB szB chB : Nat → Int32} {nn : Nat} {ns nw nt bd en db sh : Nat → Int32} (hI : INV dr re np nh mo fa ln bo pl sz ch ua npA nhA moA faA lnA boA plA szA chA ub npB nhB moB faB lnB boB plB szB chB nn ns nw nt bd en db sh) : 1 ≤ np → MH ln bo bd np nh := by
  obtain ⟨hP, hH, hE, hN, hD, hR, hA, hB⟩ := hI
  intro _; exact MH_of hP hH
theorem inv_n1 {dr : Int64} {re : Int32} {np nh : Nat} {mo fa : Int32} {ln bo pl sz ch : Nat → Int32} {ua : Int32} {npA nhA : Nat} {moA faA : Int32} {lnA boA plA szA chA : Nat → Int32} {ub : Int32} {npB nhB : Nat} {moB faB : Int32} {lnB boB plB szB chB : Nat → Int32} {nn : Nat} {ns nw nt bd en db sh : Nat → Int32} (hI : INV dr re np nh mo fa ln bo pl sz ch ua npA nhA moA faA lnA boA plA szA chA ub npB nhB moB faB lnB boB plB szB chB nn ns nw nt bd en db sh) : 0 < nh → 1 ≤ np := by
  obtain ⟨hP, hH, hE, hN, hD, hR, hA, hB⟩ := hI
  intro h0
  obtain ⟨k, T, k1, k2, k3, -, eT⟩ := hP.2.2.2.2.1 0 h0
  rcases Nat.eq_zero_or_pos np with q | q
  · subst q
    exact absurd eT.symm (nI_ne0 (by omega) (by omega))
  · exact q
theorem inv_pl {dr : Int64} {re : Int32} {np nh : Nat} {mo fa : Int32} {ln bo pl sz ch : Nat → Int32} {ua : Int32} {npA nhA : Nat} {moA faA : Int32} {lnA boA plA szA chA : Nat → Int32} {ub : Int32} {npB nhB : Nat} {moB faB : Int32} {lnB boB plB szB chB : Nat → Int32} {nn : Nat} {ns nw nt bd en db sh : Nat → Int32} (hI : INV dr re np nh mo fa ln bo pl sz ch ua npA nhA moA faA lnA boA plA szA chA ub npB nhB moB faB lnB boB plB szB chB nn ns nw nt bd en db sh) : ∀ j, j < nh → bd (3 * j) ≤ fSum ln np 0 0 := by
  obtain ⟨hP, hH, hE, hN, hD, hR, hA, hB⟩ := hI
  intro j hj
  have h6 := hP.2.1
  obtain ⟨k, T, k1, k2, k3, e, eT⟩ := hP.2.2.2.2.1 j hj
  rw [hH.h j (by omega), e, eT]
  exact nI_le (by omega) (by omega)
theorem inv_hsz {dr : Int64} {re : Int32} {np nh : Nat} {mo fa : Int32} {ln bo pl sz ch : Nat → Int32} {ua : Int32} {npA nhA : Nat} {moA faA : Int32} {lnA boA plA szA chA : Nat → Int32} {ub : Int32} {npB nhB : Nat} {moB faB : Int32} {lnB boB plB szB chB : Nat → Int32} {nn : Nat} {ns nw nt bd en db sh : Nat → Int32} (hI : INV dr re np nh mo fa ln bo pl sz ch ua npA nhA moA faA lnA boA plA szA chA ub npB nhB moB faB lnB boB plB szB chB nn ns nw nt bd en db sh) : ∀ k mv, k < nh → mv < 4 → ∀ y : Int32, y = 1 ∨ y = -1 → fInL (mSz (bd (3 * k + mv / 2)) y 60).toInt64 1 60 = 0 ∨ mv < 2 := by
  obtain ⟨hP, hH, hE, hN, hD, hR, hA, hB⟩ := hI
  intro k mv hk h4 y hy
  have h6 := hP.2.1
  rcases Nat.lt_or_ge mv 2 with q | q
  · exact Or.inr q
  · refine Or.inl ?_
    obtain ⟨a, a1, a2, ea⟩ := hP.sz hk
    rw [show 3 * k + mv / 2 = 3 * k + 1 by omega, (hH k (by omega)).2.1, ea, mSz_e, fInL60]
    rcases hy with e | e
    · subst e; exact (out_p a1 a2).2 61 (by omega) (by omega)
    · subst e; exact (out_m a1 a2).2 61 (by omega) (by omega)
theorem inv_hMv {dr : Int64} {re : Int32} {np nh : Nat} {mo fa : Int32} {ln bo pl sz ch : Nat → Int32} {ua : Int32} {npA nhA : Nat} {moA faA : Int32} {lnA boA plA szA chA : Nat → Int32} {ub : Int32} {npB nhB : Nat} {moB faB : Int32} {lnB boB plB szB chB : Nat → Int32} {nn : Nat} {ns nw nt bd en db sh : Nat → Int32} (hI : INV dr re np nh mo fa ln bo pl sz ch ua npA nhA moA faA lnA boA plA szA chA ub npB nhB moB faB lnB boB plB szB chB nn ns nw nt bd en db sh) : ∀ k mv, k < nh → mv < 4 → ¬ mMoved ln bd db np nh re k mv < 0 → 1 ≤ np → MH ln bo (upd bd (3 * k + mv / 2) (mMoved ln bd db np nh re k mv)) np nh := by
  obtain ⟨hP, hH, hE, hN, hD, hR, hA, hB⟩ := hI
  intro k mv hk h4 hn _
  have h6 := hP.2.1
  obtain ⟨⟨m0, m1⟩, m2, m3⟩ := mv_e hP hH hD (re_ok hR) hk
  have hv : ¬ mMoved ln bd db np nh re k mv = -1 := fun e => hn (by rw [e]; exact m1_lt)
  rcases (show mv = 0 ∨ mv = 1 ∨ mv = 2 ∨ mv = 3 by omega) with e | e | e | e
  · rw [show 3 * k + mv / 2 = 3 * k by omega]
    subst e
    generalize mMoved ln bd db np nh re k 0 = v at m0 hv
    exact mh_of_ok (okp_pm hP hH hk m0 hv) (by omega)
  · rw [show 3 * k + mv / 2 = 3 * k by omega]
    subst e
    generalize mMoved ln bd db np nh re k 1 = v at m1 hv
    exact mh_of_ok (okp_pm hP hH hk m1 hv) (by omega)
  · rw [show 3 * k + mv / 2 = 3 * k + 1 by omega]
    subst e
    generalize mMoved ln bd db np nh re k 2 = v at m2 hv
    exact mh_of_ok (okp_ns hP hH hk m2 hv) (by omega)
  · rw [show 3 * k + mv / 2 = 3 * k + 1 by omega]
    subst e
    generalize mMoved ln bd db np nh re k 3 = v at m3 hv
    exact mh_of_ok (okp_ns hP hH hk m3 hv) (by omega)
theorem op_piece {dr : Int64} {re : Int32} {np nh : Nat} {mo fa : Int32} {ln bo pl sz ch : Nat → Int32} {ua : Int32} {npA nhA : Nat} {moA faA : Int32} {lnA boA plA szA chA : Nat → Int32} {ub : Int32} {npB nhB : Nat} {moB faB : Int32} {lnB boB plB szB chB : Nat → Int32} {nn : Nat} {ns nw nt bd en db sh : Nat → Int32} (hI : INV dr re np nh mo fa ln bo pl sz ch ua npA nhA moA faA lnA boA plA szA chA ub npB nhB moB faB lnB boB plB szB chB nn ns nw nt bd en db sh) (x y : Int32) : mPiece x y np ln bo = xPiece x y np ln bo ∧ INV dr re ((xPiece x y np ln bo).2.1) nh mo fa ((xPiece x y np ln bo).2.2.1) ((xPiece x y np ln bo).2.2.2) pl sz ch ua npA nhA moA faA lnA boA plA szA chA ub npB nhB moB faB lnB boB plB szB chB nn ns nw nt bd en db sh := by
  obtain ⟨hP, hH, hE, hN, hD, hR, hA, hB⟩ := hI
  obtain ⟨e, p⟩ := piece_p hP x y
  exact ⟨e, p, hH, hE, hN, hD, hR, hA, hB⟩
theorem op_cone {dr : Int64} {re : Int32} {np nh : Nat} {mo fa : Int32} {ln bo pl sz ch : Nat → Int32} {ua : Int32} {npA nhA : Nat} {moA faA : Int32} {lnA boA plA szA chA : Nat → Int32} {ub : Int32} {npB nhB : Nat} {moB faB : Int32} {lnB boB plB szB chB : Nat → Int32} {nn : Nat} {ns nw nt bd en db sh : Nat → Int32} (hI : INV dr re np nh mo fa ln bo pl sz ch ua npA nhA moA faA lnA boA plA szA chA ub npB nhB moB faB lnB boB plB szB chB nn ns nw nt bd en db sh) (x y z w : Int32) : mCone x y z w np ln bo = xCone x y z w np ln bo ∧ INV dr re ((xCone x y z w np ln bo).2.1) nh mo fa ((xCone x y z w np ln bo).2.2.1) ((xCone x y z w np ln bo).2.2.2) pl sz ch ua npA nhA moA faA lnA boA plA szA chA ub npB nhB moB faB lnB boB plB szB chB nn ns nw nt bd en db sh := by
  obtain ⟨hP, hH, hE, hN, hD, hR, hA, hB⟩ := hI
  obtain ⟨e, p⟩ := cone_p hP x y z w
  exact ⟨e, p, hH, hE, hN, hD, hR, hA, hB⟩
theorem op_hole {dr : Int64} {re : Int32} {np nh : Nat} {mo fa : Int32} {ln bo pl sz ch : Nat → Int32} {ua : Int32} {npA nhA : Nat} {moA faA : Int32} {lnA boA plA szA chA : Nat → Int32} {ub : Int32} {npB nhB : Nat} {moB faB : Int32} {lnB boB plB szB chB : Nat → Int32} {nn : Nat} {ns nw nt bd en db sh : Nat → Int32} (hI : INV dr re np nh mo fa ln bo pl sz ch ua npA nhA moA faA lnA boA plA szA chA ub npB nhB moB faB lnB boB plB szB chB nn ns nw nt bd en db sh) (x y z : Int32) : (mHole x y z nh bd (fSum ln np 0 0)).1 = (xHole x y z nh pl sz ch (fSum ln np 0 0)).1 ∧ (mHole x y z nh bd (fSum ln np 0 0)).2.1 = (xHole x y z nh pl sz ch (fSum ln np 0 0)).2.1 ∧ INV dr re np ((xHole x y z nh pl sz ch (fSum ln np 0 0)).2.1) mo fa ln bo ((xHole x y z nh pl sz ch (fSum ln np 0 0)).2.2.1) ((xHole x y z nh pl sz ch (fSum ln np 0 0)).2.2.2.1) ((xHole x y z nh pl sz ch (fSum ln np 0 0)).2.2.2.2) ua npA nhA moA faA lnA boA plA szA chA ub npB nhB moB faB lnB boB plB szB chB nn ns nw nt ((mHole x y z nh bd (fSum ln np 0 0)).2.2) en db sh := by
  obtain ⟨hP, hH, hE, hN, hD, hR, hA, hB⟩ := hI
  obtain ⟨e1, e2, p, q⟩ := hole_p hP hH x y z
  exact ⟨e1, e2, p, q, hE, hN, hD, hR, hA, hB⟩
theorem op_set {dr : Int64} {re : Int32} {np nh : Nat} {mo fa : Int32} {ln bo pl sz ch : Nat → Int32} {ua : Int32} {npA nhA : Nat} {moA faA : Int32} {lnA boA plA szA chA : Nat → Int32} {ub : Int32} {npB nhB : Nat} {moB faB : Int32} {lnB boB plB szB chB : Nat → Int32} {nn : Nat} {ns nw nt bd en db sh : Nat → Int32} (hI : INV dr re np nh mo fa ln bo pl sz ch ua npA nhA moA faA lnA boA plA szA chA ub npB nhB moB faB lnB boB plB szB chB nn ns nw nt bd en db sh) (x y v : Int32) : (mSet x y v nh bd (fSum ln np 0 0)).1 = (xSet x y v nh pl sz ch (fSum ln np 0 0)).1 ∧ INV dr re np nh mo fa ln bo ((xSet x y v nh pl sz ch (fSum ln np 0 0)).2.1) ((xSet x y v nh pl sz ch (fSum ln np 0 0)).2.2.1) ((xSet x y v nh pl sz ch (fSum ln np 0 0)).2.2.2) ua npA nhA moA faA lnA boA plA szA chA ub npB nhB moB faB lnB boB plB szB chB nn ns nw nt ((mSet x y v nh bd (fSum ln np 0 0)).2) en db sh := by
  obtain ⟨hP, hH, hE, hN, hD, hR, hA, hB⟩ := hI
  obtain ⟨e1, p, q⟩ := set_p hP hH x y v
  exact ⟨e1, p, q, hE, hN, hD, hR, hA, hB⟩
theorem op_end {dr : Int64} {re : Int32} {np nh : Nat} {mo fa : Int32} {ln bo pl sz ch : Nat → Int32} {ua : Int32} {npA nhA : Nat} {moA faA : Int32} {lnA boA plA szA chA : Nat → Int32} {ub : Int32} {npB nhB : Nat} {moB faB : Int32} {lnB boB plB szB chB : Nat → Int32} {nn : Nat} {ns nw nt bd en db sh : Nat → Int32} (hI : INV dr re np nh mo fa ln bo pl sz ch ua npA nhA moA faA lnA boA plA szA chA ub npB nhB moB faB lnB boB plB szB chB nn ns nw nt bd en db sh) (x v : Int32) : (mEnd x v en).1 = (xEnd x v mo fa).1 ∧ INV dr re np nh ((xEnd x v mo fa).2.1) ((xEnd x v mo fa).2.2) ln bo pl sz ch ua npA nhA moA faA lnA boA plA szA chA ub npB nhB moB faB lnB boB plB szB chB nn ns nw nt bd ((mEnd x v en).2) db sh := by
  obtain ⟨hP, hH, hE, hN, hD, hR, hA, hB⟩ := hI
  obtain ⟨e, m, f, a, b⟩ := end_p hE hP.mo hP.fa x v
  exact ⟨e, PI_e hP m f, hH, ⟨a, b⟩, hN, hD, hR, hA, hB⟩
theorem op_clear {dr : Int64} {re : Int32} {np nh : Nat} {mo fa : Int32} {ln bo pl sz ch : Nat → Int32} {ua : Int32} {npA nhA : Nat} {moA faA : Int32} {lnA boA plA szA chA : Nat → Int32} {ub : Int32} {npB nhB : Nat} {moB faB : Int32} {lnB boB plB szB chB : Nat → Int32} {nn : Nat} {ns nw nt bd en db sh : Nat → Int32} (hI : INV dr re np nh mo fa ln bo pl sz ch ua npA nhA moA faA lnA boA plA szA chA ub npB nhB moB faB lnB boB plB szB chB nn ns nw nt bd en db sh) : INV dr re (0) (0) (0) (0) ln bo pl sz ch ua npA nhA moA faA lnA boA plA szA chA ub npB nhB moB faB lnB boB plB szB chB (0) ns nw nt bd (upd (upd en 0 0) 1 0) db sh := by
  obtain ⟨hP, hH, hE, hN, hD, hR, hA, hB⟩ := hI
  have no : ∀ j : Nat, ¬ j < 0 := Nat.not_lt_zero
  have p0 : PI ln bo pl sz ch 0 0 0 0 := ⟨Nat.zero_le _, Nat.zero_le _, fun j h => absurd h (no j), fun j h => absurd h (no j), fun j h => absurd h (no j), fun j h => absurd h (no j), fun j h => absurd h (no j), fun i j h => absurd h (no i), Or.inl rfl, Or.inl rfl⟩
  exact ⟨p0, hH, ⟨by rw [pk_un (by decide), pk_us], pk_us⟩, ⟨Nat.zero_le _, fun j h => absurd h (no j)⟩, hD, hR, hA, hB⟩
theorem op_told {dr : Int64} {re : Int32} {np nh : Nat} {mo fa : Int32} {ln bo pl sz ch : Nat → Int32} {ua : Int32} {npA nhA : Nat} {moA faA : Int32} {lnA boA plA szA chA : Nat → Int32} {ub : Int32} {npB nhB : Nat} {moB faB : Int32} {lnB boB plB szB chB : Nat → Int32} {nn : Nat} {ns nw nt bd en db sh : Nat → Int32} (hI : INV dr re np nh mo fa ln bo pl sz ch ua npA nhA moA faA lnA boA plA szA chA ub npB nhB moB faB lnB boB plB szB chB nn ns nw nt bd en db sh) (x y : Int32) : mTold x y np ln bo = xTold x y np ln bo := by
  obtain ⟨hP, hH, hE, hN, hD, hR, hA, hB⟩ := hI
  exact told_p x y
theorem op_bored {dr : Int64} {re : Int32} {np nh : Nat} {mo fa : Int32} {ln bo pl sz ch : Nat → Int32} {ua : Int32} {npA nhA : Nat} {moA faA : Int32} {lnA boA plA szA chA : Nat → Int32} {ub : Int32} {npB nhB : Nat} {moB faB : Int32} {lnB boB plB szB chB : Nat → Int32} {nn : Nat} {ns nw nt bd en db sh : Nat → Int32} (hI : INV dr re np nh mo fa ln bo pl sz ch ua npA nhA moA faA lnA boA plA szA chA ub npB nhB moB faB lnB boB plB szB chB nn ns nw nt bd en db sh) (x y : Int32) : mBored x y np nh ln bd = xBored x y np nh ln pl sz ch := by
  obtain ⟨hP, hH, hE, hN, hD, hR, hA, hB⟩ := hI
  exact bored_p hP hH x y
theorem op_count {dr : Int64} {re : Int32} {np nh : Nat} {mo fa : Int32} {ln bo pl sz ch : Nat → Int32} {ua : Int32} {npA nhA : Nat} {moA faA : Int32} {lnA boA plA szA chA : Nat → Int32} {ub : Int32} {npB nhB : Nat} {moB faB : Int32} {lnB boB plB szB chB : Nat → Int32} {nn : Nat} {ns nw nt bd en db sh : Nat → Int32} (hI : INV dr re np nh mo fa ln bo pl sz ch ua npA nhA moA faA lnA boA plA szA chA ub npB nhB moB faB lnB boB plB szB chB nn ns nw nt bd en db sh) (y ro : Int32) : mCount y np nh nn (fSum ln np 0 0) (en 0) (en 1) re (mDr db 60 1 0) (mGr (mMissK ln bo bd np nh (en 0) (en 1) ns nw nt) nn 0 0) (mSu (mMissK ln bo bd np nh (en 0) (en 1) ns nw nt) nn 0 0) ro = xCount y np nh nn (fSum ln np 0 0) mo fa re (fBit dr) (xRk (xMk (xW ln bo pl sz ch np nh mo fa) ns nw nt) 3243601 nn 0 0 0) ro := by
  obtain ⟨hP, hH, hE, hN, hD, hR, hA, hB⟩ := hI
  rw [hE.1, hE.2]
  exact count_p hP hH hN hD y re ro
theorem op_sine {dr : Int64} {re : Int32} {np nh : Nat} {mo fa : Int32} {ln bo pl sz ch : Nat → Int32} {ua : Int32} {npA nhA : Nat} {moA faA : Int32} {lnA boA plA szA chA : Nat → Int32} {ub : Int32} {npB nhB : Nat} {moB faB : Int32} {lnB boB plB szB chB : Nat → Int32} {nn : Nat} {ns nw nt bd en db sh : Nat → Int32} (hI : INV dr re np nh mo fa ln bo pl sz ch ua npA nhA moA faA lnA boA plA szA chA ub npB nhB moB faB lnB boB plB szB chB nn ns nw nt bd en db sh) (x : Int32) : mSineP x = xSineP x := by
  obtain ⟨hP, hH, hE, hN, hD, hR, hA, hB⟩ := hI
  exact sine_p x
theorem op_worth {dr : Int64} {re : Int32} {np nh : Nat} {mo fa : Int32} {ln bo pl sz ch : Nat → Int32} {ua : Int32} {npA nhA : Nat} {moA faA : Int32} {lnA boA plA szA chA : Nat → Int32} {ub : Int32} {npB nhB : Nat} {moB faB : Int32} {lnB boB plB szB chB : Nat → Int32} {nn : Nat} {ns nw nt bd en db sh : Nat → Int32} (hI : INV dr re np nh mo fa ln bo pl sz ch ua npA nhA moA faA lnA boA plA szA chA ub npB nhB moB faB lnB boB plB szB chB nn ns nw nt bd en db sh) (f w : Int32) : mWorthP (mWorth ln bo bd np nh (en 0) (en 1)) f w np = xWorthP (xW ln bo pl sz ch np nh mo fa) f w np := by
  obtain ⟨hP, hH, hE, hN, hD, hR, hA, hB⟩ := hI
  rw [hE.1, hE.2]
  exact worth_p hP hH f w
theorem op_tone {dr : Int64} {re : Int32} {np nh : Nat} {mo fa : Int32} {ln bo pl sz ch : Nat → Int32} {ua : Int32} {npA nhA : Nat} {moA faA : Int32} {lnA boA plA szA chA : Nat → Int32} {ub : Int32} {npB nhB : Nat} {moB faB : Int32} {lnB boB plB szB chB : Nat → Int32} {nn : Nat} {ns nw nt bd en db sh : Nat → Int32} (hI : INV dr re np nh mo fa ln bo pl sz ch ua npA nhA moA faA lnA boA plA szA chA ub npB nhB moB faB lnB boB plB szB chB nn ns nw nt bd en db sh) (w k : Int32) : mToneP (mWorth ln bo bd np nh (en 0) (en 1)) w k np = xToneP (xW ln bo pl sz ch np nh mo fa) w k np := by
  obtain ⟨hP, hH, hE, hN, hD, hR, hA, hB⟩ := hI
  rw [hE.1, hE.2]
  exact toneP_p hP hH w k
theorem op_nearest {dr : Int64} {re : Int32} {np nh : Nat} {mo fa : Int32} {ln bo pl sz ch : Nat → Int32} {ua : Int32} {npA nhA : Nat} {moA faA : Int32} {lnA boA plA szA chA : Nat → Int32} {ub : Int32} {npB nhB : Nat} {moB faB : Int32} {lnB boB plB szB chB : Nat → Int32} {nn : Nat} {ns nw nt bd en db sh : Nat → Int32} (hI : INV dr re np nh mo fa ln bo pl sz ch ua npA nhA moA faA lnA boA plA szA chA ub npB nhB moB faB lnB boB plB szB chB nn ns nw nt bd en db sh) (v y : Int32) : mNearest (mWorth ln bo bd np nh (en 0) (en 1)) v y np nh = xNearest (xW ln bo pl sz ch np nh mo fa) v y np nh := by
  obtain ⟨hP, hH, hE, hN, hD, hR, hA, hB⟩ := hI
  rw [hE.1, hE.2]
  exact nearest_p hP hH v y
theorem op_note {dr : Int64} {re : Int32} {np nh : Nat} {mo fa : Int32} {ln bo pl sz ch : Nat → Int32} {ua : Int32} {npA nhA : Nat} {moA faA : Int32} {lnA boA plA szA chA : Nat → Int32} {ub : Int32} {npB nhB : Nat} {moB faB : Int32} {lnB boB plB szB chB : Nat → Int32} {nn : Nat} {ns nw nt bd en db sh : Nat → Int32} (hI : INV dr re np nh mo fa ln bo pl sz ch ua npA nhA moA faA lnA boA plA szA chA ub npB nhB moB faB lnB boB plB szB chB nn ns nw nt bd en db sh) (x y z : Int32) : mNote x y z nn ns nw nt = xNote x y z nn ns nw nt ∧ INV dr re np nh mo fa ln bo pl sz ch ua npA nhA moA faA lnA boA plA szA chA ub npB nhB moB faB lnB boB plB szB chB ((xNote x y z nn ns nw nt).2.1) ((xNote x y z nn ns nw nt).2.2.1) ((xNote x y z nn ns nw nt).2.2.2.1) ((xNote x y z nn ns nw nt).2.2.2.2) bd en db sh := by
  obtain ⟨hP, hH, hE, hN, hD, hR, hA, hB⟩ := hI
  obtain ⟨e, p⟩ := note_p hN x y z
  exact ⟨e, hP, hH, hE, p, hD, hR, hA, hB⟩
theorem op_noted {dr : Int64} {re : Int32} {np nh : Nat} {mo fa : Int32} {ln bo pl sz ch : Nat → Int32} {ua : Int32} {npA nhA : Nat} {moA faA : Int32} {lnA boA plA szA chA : Nat → Int32} {ub : Int32} {npB nhB : Nat} {moB faB : Int32} {lnB boB plB szB chB : Nat → Int32} {nn : Nat} {ns nw nt bd en db sh : Nat → Int32} (hI : INV dr re np nh mo fa ln bo pl sz ch ua npA nhA moA faA lnA boA plA szA chA ub npB nhB moB faB lnB boB plB szB chB nn ns nw nt bd en db sh) (x y : Int32) : mNoted (mWorth ln bo bd np nh (en 0) (en 1)) x y np nn ns nw nt = xNoted (xW ln bo pl sz ch np nh mo fa) x y nn ns nw nt := by
  obtain ⟨hP, hH, hE, hN, hD, hR, hA, hB⟩ := hI
  rw [hE.1, hE.2]
  exact noted_p hP hH hN x y
theorem op_drill {dr : Int64} {re : Int32} {np nh : Nat} {mo fa : Int32} {ln bo pl sz ch : Nat → Int32} {ua : Int32} {npA nhA : Nat} {moA faA : Int32} {lnA boA plA szA chA : Nat → Int32} {ub : Int32} {npB nhB : Nat} {moB faB : Int32} {lnB boB plB szB chB : Nat → Int32} {nn : Nat} {ns nw nt bd en db sh : Nat → Int32} (hI : INV dr re np nh mo fa ln bo pl sz ch ua npA nhA moA faA lnA boA plA szA chA ub npB nhB moB faB lnB boB plB szB chB nn ns nw nt bd en db sh) (x y : Int32) (hy : y = 0 ∨ y = 1) : (mDrill x y db).1 = (xDrill x y dr).1 ∧ INV ((xDrill x y dr).2) re np nh mo fa ln bo pl sz ch ua npA nhA moA faA lnA boA plA szA chA ub npB nhB moB faB lnB boB plB szB chB nn ns nw nt bd en ((mDrill x y db).2) sh := by
  obtain ⟨hP, hH, hE, hN, hD, hR, hA, hB⟩ := hI
  obtain ⟨e, p⟩ := drill_p hD x y hy
  exact ⟨e, hP, hH, hE, hN, p, hR, hA, hB⟩
theorem op_reach {dr : Int64} {re : Int32} {np nh : Nat} {mo fa : Int32} {ln bo pl sz ch : Nat → Int32} {ua : Int32} {npA nhA : Nat} {moA faA : Int32} {lnA boA plA szA chA : Nat → Int32} {ub : Int32} {npB nhB : Nat} {moB faB : Int32} {lnB boB plB szB chB : Nat → Int32} {nn : Nat} {ns nw nt bd en db sh : Nat → Int32} (hI : INV dr re np nh mo fa ln bo pl sz ch ua npA nhA moA faA lnA boA plA szA chA ub npB nhB moB faB lnB boB plB szB chB nn ns nw nt bd en db sh) (x : Int32) : mReach x re = xReach x re ∧ INV dr ((xReach x re).2) np nh mo fa ln bo pl sz ch ua npA nhA moA faA lnA boA plA szA chA ub npB nhB moB faB lnB boB plB szB chB nn ns nw nt bd en db sh := by
  obtain ⟨hP, hH, hE, hN, hD, hR, hA, hB⟩ := hI
  obtain ⟨e, p⟩ := reach_p hR x
  exact ⟨e, hP, hH, hE, hN, hD, p, hA, hB⟩
theorem op_round {dr : Int64} {re : Int32} {np nh : Nat} {mo fa : Int32} {ln bo pl sz ch : Nat → Int32} {ua : Int32} {npA nhA : Nat} {moA faA : Int32} {lnA boA plA szA chA : Nat → Int32} {ub : Int32} {npB nhB : Nat} {moB faB : Int32} {lnB boB plB szB chB : Nat → Int32} {nn : Nat} {ns nw nt bd en db sh : Nat → Int32} (hI : INV dr re np nh mo fa ln bo pl sz ch ua npA nhA moA faA lnA boA plA szA chA ub npB nhB moB faB lnB boB plB szB chB nn ns nw nt bd en db sh) (ro wh va : Int32) : (mRound ln bo bd db np nh nn (en 0) (en 1) re ro ns nw nt).1 = (xRound ln bo pl sz ch np nh mo fa nn ns nw nt re dr ro wh va).1 ∧ (mRound ln bo bd db np nh nn (en 0) (en 1) re ro ns nw nt).2.2 = (xRound ln bo pl sz ch np nh mo fa nn ns nw nt re dr ro wh va).2.2.2.2 ∧ INV dr re np nh mo fa ln bo ((xRound ln bo pl sz ch np nh mo fa nn ns nw nt re dr ro wh va).2.1) ((xRound ln bo pl sz ch np nh mo fa nn ns nw nt re dr ro wh va).2.2.1) ((xRound ln bo pl sz ch np nh mo fa nn ns nw nt re dr ro wh va).2.2.2.1) ua npA nhA moA faA lnA boA plA szA chA ub npB nhB moB faB lnB boB plB szB chB nn ns nw nt ((mRound ln bo bd db np nh nn (en 0) (en 1) re ro ns nw nt).2.1) en db sh := by
  obtain ⟨hP, hH, hE, hN, hD, hR, hA, hB⟩ := hI
  rw [hE.1, hE.2]
  obtain ⟨e1, e2, p, q⟩ := round_p hP hH hD (re_ok hR) hN ro wh va
  exact ⟨e1, e2, p, q, hE, hN, hD, hR, hA, hB⟩
theorem op_keep {dr : Int64} {re : Int32} {np nh : Nat} {mo fa : Int32} {ln bo pl sz ch : Nat → Int32} {ua : Int32} {npA nhA : Nat} {moA faA : Int32} {lnA boA plA szA chA : Nat → Int32} {ub : Int32} {npB nhB : Nat} {moB faB : Int32} {lnB boB plB szB chB : Nat → Int32} {nn : Nat} {ns nw nt bd en db sh : Nat → Int32} (hI : INV dr re np nh mo fa ln bo pl sz ch ua npA nhA moA faA lnA boA plA szA chA ub npB nhB moB faB lnB boB plB szB chB nn ns nw nt bd en db sh) (x : Int32) : (mKeep x np nh en ln bo bd sh).1 = xKR x ∧ INV dr re np nh mo fa ln bo pl sz ch (xKA x ua 1) (xKA x npA np) (xKA x nhA nh) (xKA x moA mo) (xKA x faA fa) (xKA x lnA (cpyF ln lnA 12)) (xKA x boA (cpyF bo boA 12)) (xKA x plA (cpyF pl plA 6)) (xKA x szA (cpyF sz szA 6)) (xKA x chA (cpyF ch chA 6)) (xKB x ub 1) (xKB x npB np) (xKB x nhB nh) (xKB x moB mo) (xKB x faB fa) (xKB x lnB (cpyF ln lnB 12)) (xKB x boB (cpyF bo boB 12)) (xKB x plB (cpyF pl plB 6)) (xKB x szB (cpyF sz szB 6)) (xKB x chB (cpyF ch chB 6)) nn ns nw nt bd en db ((mKeep x np nh en ln bo bd sh).2) := by
  obtain ⟨hP, hH, hE, hN, hD, hR, hA, hB⟩ := hI
  obtain ⟨e, a, b⟩ := keep_p hP hH hE hA hB x
  exact ⟨e, hP, hH, hE, hN, hD, hR, a, b⟩
theorem op_back {dr : Int64} {re : Int32} {np nh : Nat} {mo fa : Int32} {ln bo pl sz ch : Nat → Int32} {ua : Int32} {npA nhA : Nat} {moA faA : Int32} {lnA boA plA szA chA : Nat → Int32} {ub : Int32} {npB nhB : Nat} {moB faB : Int32} {lnB boB plB szB chB : Nat → Int32} {nn : Nat} {ns nw nt bd en db sh : Nat → Int32} (hI : INV dr re np nh mo fa ln bo pl sz ch ua npA nhA moA faA lnA boA plA szA chA ub npB nhB moB faB lnB boB plB szB chB nn ns nw nt bd en db sh) (x : Int32) : (mBack x np nh en ln bo bd sh).1 = xBR x ua ub ∧ (mBack x np nh en ln bo bd sh).2.1 = nI (xBk x ua ub np npA npB) ∧ (mBack x np nh en ln bo bd sh).2.2.1 = nI (xBk x ua ub nh nhA nhB) ∧ (mBack x np nh en ln bo bd sh).2.2.2.2.1 = xBk x ua ub ln (cpyF lnA ln 12) (cpyF lnB ln 12) ∧ (mBack x np nh en ln bo bd sh).2.2.2.2.2.1 = xBk x ua ub bo (cpyF boA bo 12) (cpyF boB bo 12) ∧ INV dr re (xBk x ua ub np npA npB) (xBk x ua ub nh nhA nhB) (xBk x ua ub mo moA moB) (xBk x ua ub fa faA faB) (xBk x ua ub ln (cpyF lnA ln 12) (cpyF lnB ln 12)) (xBk x ua ub bo (cpyF boA bo 12) (cpyF boB bo 12)) (xBk x ua ub pl (cpyF plA pl 6) (cpyF plB pl 6)) (xBk x ua ub sz (cpyF szA sz 6) (cpyF szB sz 6)) (xBk x ua ub ch (cpyF chA ch 6) (cpyF chB ch 6)) ua npA nhA moA faA lnA boA plA szA chA ub npB nhB moB faB lnB boB plB szB chB nn ns nw nt ((mBack x np nh en ln bo bd sh).2.2.2.2.2.2) ((mBack x np nh en ln bo bd sh).2.2.2.1) db sh := by
  obtain ⟨hP, hH, hE, hN, hD, hR, hA, hB⟩ := hI
  obtain ⟨e1, e2, e3, e4, e5, p, q, r⟩ := back_p hP hH hE hA hB x
  exact ⟨e1, e2, e3, e4, e5, p, q, r, hN, hD, hR, hA, hB⟩
theorem op_differs {dr : Int64} {re : Int32} {np nh : Nat} {mo fa : Int32} {ln bo pl sz ch : Nat → Int32} {ua : Int32} {npA nhA : Nat} {moA faA : Int32} {lnA boA plA szA chA : Nat → Int32} {ub : Int32} {npB nhB : Nat} {moB faB : Int32} {lnB boB plB szB chB : Nat → Int32} {nn : Nat} {ns nw nt bd en db sh : Nat → Int32} (hI : INV dr re np nh mo fa ln bo pl sz ch ua npA nhA moA faA lnA boA plA szA chA ub npB nhB moB faB lnB boB plB szB chB nn ns nw nt bd en db sh) (x : Int32) : mDiffers x np nh en ln bo bd sh = xDf x ua ub (fDiffs ln bo pl sz ch np nh mo fa lnA boA plA szA chA npA nhA moA faA) (fDiffs ln bo pl sz ch np nh mo fa lnB boB plB szB chB npB nhB moB faB) := by
  obtain ⟨hP, hH, hE, hN, hD, hR, hA, hB⟩ := hI
  exact differs_p hP hH hE hA hB x
end OPS
