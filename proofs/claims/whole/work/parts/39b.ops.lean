section OPB
theorem hole_p {ln bo pl sz ch bd : Nat → Int32} {np nh : Nat} {mo fa : Int32} (h : PI ln bo pl sz ch np nh mo fa) (hH : HR pl sz ch bd) (x y z : Int32) :
    (mHole x y z nh bd (fSum ln np 0 0)).1 = (xHole x y z nh pl sz ch (fSum ln np 0 0)).1 ∧ (mHole x y z nh bd (fSum ln np 0 0)).2.1 = (xHole x y z nh pl sz ch (fSum ln np 0 0)).2.1 ∧
    PI ln bo ((xHole x y z nh pl sz ch (fSum ln np 0 0)).2.2.1) ((xHole x y z nh pl sz ch (fSum ln np 0 0)).2.2.2.1) ((xHole x y z nh pl sz ch (fSum ln np 0 0)).2.2.2.2) np ((xHole x y z nh pl sz ch (fSum ln np 0 0)).2.1) mo fa ∧
    HR ((xHole x y z nh pl sz ch (fSum ln np 0 0)).2.2.1) ((xHole x y z nh pl sz ch (fSum ln np 0 0)).2.2.2.1) ((xHole x y z nh pl sz ch (fSum ln np 0 0)).2.2.2.2) ((mHole x y z nh bd (fSum ln np 0 0)).2.2) := by
  have h6 := h.2.1
  unfold mHole xHole
  rw [fits0, fits1, fits2, holeAt_e hH.h h6 h.di]
  by_cases c1 : xMay 0 x (fSum ln np 0 0) = 0
  · rw [if_pos c1, if_pos c1]; exact ⟨rfl, rfl, h, hH⟩
  · rw [if_neg c1, if_neg c1]
    by_cases c2 : xMay 1 y (fSum ln np 0 0) = 0
    · rw [if_pos c2, if_pos c2]; exact ⟨rfl, rfl, h, hH⟩
    · rw [if_neg c2, if_neg c2]
      by_cases c3 : xMay 2 z (fSum ln np 0 0) = 0
      · rw [if_pos c3, if_pos c3]; exact ⟨rfl, rfl, h, hH⟩
      · rw [if_neg c3, if_neg c3]
        rcases fHole_sp pl x nh with ⟨e1, e2⟩ | ⟨j, j1, -, e1⟩
        · rw [e1, if_pos m1_lt, if_pos rfl]
          by_cases c4 : nh = 6
          · subst c4
            rw [if_pos (show nI 6 = 6 from rfl), if_neg (show ¬ nI 6 < 6 by decide)]; exact ⟨rfl, rfl, h, hH⟩
          · rw [if_neg (show ¬ nI nh = 6 from fun q => c4 ((nI_eq (b := 6) (by omega) (by omega)).mp q)), if_pos (show nI nh < 6 from nI_lt (b := 6) (by omega) (by omega))]
            rw [xMay0] at c1
            rw [xMay1] at c2
            rw [xMay2] at c3
            exact ⟨rfl, rfl, PI_nh h (by omega) (place_ok h.ln c1) e2 (rng c2 (by decide) (by decide)) (by
              obtain ⟨k, -, k2, e⟩ := rng (a := 0) (b := 60) c3 (by decide) (by decide)
              exact ⟨k, k2, e⟩), HR_ch (HR_sz (HR_pl hH nh x) nh y) nh z⟩
        · rw [e1, if_neg (nI_pos (by omega)), if_neg (nI_nm1 (by omega))]
          exact ⟨rfl, rfl, h, hH⟩
theorem rngN {x : Int32} {n : Nat} (hn : n ≤ 12) (h : ¬ fIn x 0 (nI n - 1) = 0) : ∃ k, k < n ∧ x = nI k := fIn_hole h (by omega)
theorem set_p {ln bo pl sz ch bd : Nat → Int32} {np nh : Nat} {mo fa : Int32} (h : PI ln bo pl sz ch np nh mo fa) (hH : HR pl sz ch bd) (x y v : Int32) :
    (mSet x y v nh bd (fSum ln np 0 0)).1 = (xSet x y v nh pl sz ch (fSum ln np 0 0)).1 ∧
    PI ln bo ((xSet x y v nh pl sz ch (fSum ln np 0 0)).2.1) ((xSet x y v nh pl sz ch (fSum ln np 0 0)).2.2.1) ((xSet x y v nh pl sz ch (fSum ln np 0 0)).2.2.2) np nh mo fa ∧
    HR ((xSet x y v nh pl sz ch (fSum ln np 0 0)).2.1) ((xSet x y v nh pl sz ch (fSum ln np 0 0)).2.2.1) ((xSet x y v nh pl sz ch (fSum ln np 0 0)).2.2.2) ((mSet x y v nh bd (fSum ln np 0 0)).2) := by
  have h6 := h.2.1
  unfold mSet xSet
  rw [rW, r02]
  by_cases c1 : fIn x 0 (nI nh - 1) = 0
  · rw [if_pos c1, if_pos c1]; exact ⟨rfl, h, hH⟩
  · rw [if_neg c1, if_neg c1]
    obtain ⟨k, hk, ek⟩ := rngN (by omega) c1
    subst ek
    rw [nI_clamp (by omega)]
    obtain ⟨ep, es, ec⟩ := hH k (by omega)
    have d1 : ¬ (1 : Int32) = 0 := by decide
    have d2 : ¬ (2 : Int32) = 0 := by decide
    have d3 : ¬ (2 : Int32) = 1 := by decide
    by_cases y0 : y = 0
    · subst y0
      rw [if_neg (by decide : ¬ fIn 0 0 2 = 0), fits0, if_pos rfl, if_pos rfl, holeAt_e hH.h h6 h.di]
      by_cases c2 : xMay 0 v (fSum ln np 0 0) = 0
      · rw [if_pos c2, if_pos c2]; exact ⟨rfl, h, hH⟩
      · rw [if_neg c2, if_neg c2]
        rw [xMay0] at c2
        have ok : (∀ j, j < nh → j ≠ k → pl j ≠ v) → bd (3 * k + Int32.toNatClampNeg 0) = fRow3 pl sz ch 0 k ∧ PI ln bo (cPl pl 0 k v) (cSz sz 0 k v) (cCh ch 0 k v) np nh mo fa ∧ HR (cPl pl 0 k v) (cSz sz 0 k v) (cCh ch 0 k v) (upd bd (3 * k + Int32.toNatClampNeg 0) v) := by
          intro hd
          unfold fRow3 cPl cSz cCh
          rw [if_pos rfl, if_pos rfl, if_pos rfl, if_pos rfl]
          exact ⟨ep, PI_pl h (place_ok h.ln c2) hd, HR_pl hH k v⟩
        rcases fHole_sp pl v nh with ⟨e1, e2⟩ | ⟨j, j1, j2, e1⟩
        · rw [e1, if_pos m1_lt]
          have hne : ¬ v = pl k := fun q => e2 k hk q.symm
          rw [if_neg hne, if_pos rfl]
          exact ok (fun j a _ => e2 j a)
        · rw [e1, if_neg (nI_pos (by omega))]
          by_cases c3 : v = pl k
          · have : j = k := h.di j k j1 hk (by rw [j2, c3])
            subst this
            rw [if_pos rfl, if_pos c3]
            exact ok (fun i a b q => b (h.di i j a hk (by rw [q, c3])))
          · rw [if_neg c3, if_neg (nI_nm1 (by omega))]
            have hjk : ¬ nI j = nI k := by
              intro q
              have := (nI_eq (by omega) (by omega)).mp q
              subst this
              exact c3 j2.symm
            rw [if_neg hjk]
            exact ⟨rfl, h, hH⟩
    · by_cases y1 : y = 1
      · subst y1
        rw [if_neg (by decide : ¬ fIn 1 0 2 = 0), fits1, if_neg d1, if_neg d1, if_pos m1_lt]
        by_cases c2 : xMay 1 v (fSum ln np 0 0) = 0
        · rw [if_pos c2, if_pos c2]; exact ⟨rfl, h, hH⟩
        · rw [if_neg c2, if_neg c2]
          rw [xMay1] at c2
          unfold fRow3 cPl cSz cCh
          rw [if_neg d1, if_neg d1, if_neg d1, if_neg d1, if_pos rfl, if_pos rfl, if_pos rfl]
          exact ⟨es, PI_sz h (rng c2 (by decide) (by decide)), HR_sz hH k v⟩
      · by_cases y2 : y = 2
        · subst y2
          rw [if_neg (by decide : ¬ fIn 2 0 2 = 0), fits2, if_neg d2, if_neg d2, if_pos m1_lt]
          by_cases c2 : xMay 2 v (fSum ln np 0 0) = 0
          · rw [if_pos c2, if_pos c2]; exact ⟨rfl, h, hH⟩
          · rw [if_neg c2, if_neg c2]
            rw [xMay2] at c2
            unfold fRow3 cPl cSz cCh
            rw [if_neg d2, if_neg d2, if_neg d2, if_neg d2, if_neg d3, if_neg d3, if_neg d3]
            obtain ⟨q, -, q2, e⟩ := rng (a := 0) (b := 60) c2 (by decide) (by decide)
            exact ⟨ec, PI_ch h ⟨q, q2, e⟩, HR_ch hH k v⟩
        · have hb : fIn y 0 2 = 0 := by
            refine fIn_no ?_
            intro ⟨q1, q2⟩
            rw [t0_] at q1
            rw [show (2 : Int32).toInt = 2 by decide] at q2
            obtain ⟨e, -⟩ := nI_toI (x := y) q1
            have : y.toInt.toNat = 0 ∨ y.toInt.toNat = 1 ∨ y.toInt.toNat = 2 := by omega
            rcases this with t | t | t
            · rw [t] at e; exact y0 e
            · rw [t] at e; exact y1 e
            · rw [t] at e; exact y2 e
          have hm : xMay y v (fSum ln np 0 0) = 0 := by unfold xMay; rw [if_neg y0, if_neg y1, if_neg y2]
          rw [if_pos hb, if_pos hm]
          exact ⟨rfl, h, hH⟩
theorem fin01 {x : Int32} (h : ¬ fIn x 0 1 = 0) : x = 0 ∨ x = 1 := by
  obtain ⟨k, -, k2, e⟩ := rng (a := 0) (b := 1) h (by decide) (by decide)
  rcases (show k = 0 ∨ k = 1 by omega) with q | q
  · subst q; exact Or.inl e
  · subst q; exact Or.inr e
theorem end_p {en : Nat → Int32} {mo fa : Int32} (he : en 0 = mo ∧ en 1 = fa) (hm : mo = 0 ∨ mo = 1) (hf : fa = 0 ∨ fa = 1) (x v : Int32) :
    (mEnd x v en).1 = (xEnd x v mo fa).1 ∧ ((xEnd x v mo fa).2.1 = 0 ∨ (xEnd x v mo fa).2.1 = 1) ∧ ((xEnd x v mo fa).2.2 = 0 ∨ (xEnd x v mo fa).2.2 = 1) ∧ (mEnd x v en).2 0 = (xEnd x v mo fa).2.1 ∧ (mEnd x v en).2 1 = (xEnd x v mo fa).2.2 := by
  unfold mEnd xEnd
  rw [r01, r01]
  by_cases c1 : fIn x 0 1 = 0
  · rw [if_pos c1, if_pos c1]; exact ⟨rfl, hm, hf, he.1, he.2⟩
  · rw [if_neg c1, if_neg c1]
    by_cases c2 : fIn v 0 1 = 0
    · rw [if_pos c2, if_pos c2]; exact ⟨rfl, hm, hf, he.1, he.2⟩
    · rw [if_neg c2, if_neg c2]
      have hv := fin01 c2
      rcases fin01 c1 with e | e
      · subst e; rw [if_pos rfl]
        exact ⟨he.1, hv, hf, rfl, he.2⟩
      · subst e; rw [if_neg (by decide)]
        exact ⟨he.2, hm, hv, he.1, rfl⟩
theorem told_p {np : Nat} {ln bo : Nat → Int32} (x y : Int32) : mTold x y np ln bo = xTold x y np ln bo := by
  unfold mTold xTold
  rw [rW]
  by_cases c1 : fIn x 0 (nI np - 1) = 0
  · rw [if_pos c1, if_pos c1]
  · rw [if_neg c1, if_neg c1]
    by_cases c2 : fIn y 0 1 = 0
    · rw [if_pos c2]
      have y0 : ¬ y = 0 := fun q => by rw [q] at c2; exact absurd c2 (by decide)
      have y1 : ¬ y = 1 := fun q => by rw [q] at c2; exact absurd c2 (by decide)
      rw [if_neg y0, if_neg y1]
    · rw [if_neg c2]
      rcases fin01 c2 with e | e
      · rw [if_pos e, if_pos e]
      · have : ¬ y = 0 := by rw [e]; decide
        rw [if_neg this, if_neg this, if_pos e]
theorem near_go {pl bd : Nat → Int32} {nh k : Nat} (hH : ∀ j, j < 6 → bd (3 * j) = pl j) (h6 : nh ≤ 6) (hk : k < 6) : ∀ r i z, i + r = nh → mNear bd k r i z = fBefore pl (pl k) r i z := by
  intro r
  induction r with
  | zero => intro i z _; rfl
  | succ r ih =>
    intro i z hi
    rw [mNear, fBefore, hH k hk, hH i (by omega)]
    by_cases c : pl k ≤ pl i
    · rw [if_pos c, if_pos c, Int32.add_zero]; exact ih (i + 1) z (by omega)
    · rw [if_neg c, if_neg c]; exact ih (i + 1) _ (by omega)
theorem bored_p {ln bo pl sz ch bd : Nat → Int32} {np nh : Nat} {mo fa : Int32} (h : PI ln bo pl sz ch np nh mo fa) (hH : HR pl sz ch bd) (x y : Int32) : mBored x y np nh ln bd = xBored x y np nh ln pl sz ch := by
  have h6 := h.2.1
  unfold mBored xBored
  rw [rW, r04]
  by_cases c1 : fIn x 0 (nI nh - 1) = 0
  · rw [if_pos c1, if_pos c1]
  · rw [if_neg c1, if_neg c1]
    by_cases c2 : fIn y 0 4 = 0
    · rw [if_pos c2, if_pos c2]
    · rw [if_neg c2, if_neg c2]
      obtain ⟨k, hk, ek⟩ := rngN (by omega) c1
      subst ek
      rw [nI_clamp (by omega)]
      obtain ⟨ep, es, ec⟩ := hH k (by omega)
      obtain ⟨q, -, q2, e⟩ := rng (a := 0) (b := 4) c2 (by decide) (by decide)
      subst e
      rcases (show q = 0 ∨ q = 1 ∨ q = 2 ∨ q = 3 ∨ q = 4 by omega) with t | t | t | t | t
      · subst t; exact ep
      · subst t; exact es
      · subst t; exact ec
      · subst t
        show mPieceOf ln (bd (3 * k)) (np - 1) 0 (ln 0) = fPieceAt ln (pl k) np 0 0
        obtain ⟨e1, b1, b2, b3⟩ := h.ho.at hk
        have hnp : 1 ≤ np := by
          rcases Nat.eq_zero_or_pos np with z | z
          · subst z
            have : cN pl k < 0 := b2
            omega
          · exact z
        obtain ⟨j, j1, j2, j3, -⟩ := piece_e (n := cN pl k) h.ln hnp (by omega)
        rw [← e1] at j2 j3
        rw [ep, j2, j3]
      · subst t
        show mNear bd k nh 0 0 = fBefore pl (pl k) nh 0 0
        exact near_go hH.h h6 (by omega) nh 0 0 (by omega)
theorem sine_p (x : Int32) : mSineP x = xSineP x := by
  unfold mSineP xSineP
  rw [r65]
  by_cases c1 : fIn x 0 65535 = 0
  · rw [if_pos c1, if_pos c1]
  · rw [if_neg c1, if_neg c1]
    obtain ⟨q, -, q2, e⟩ := rng (a := 0) (b := 65535) c1 (by decide) (by decide)
    rw [e, fSine_e (by omega)]
theorem worth_p {ln bo pl sz ch bd : Nat → Int32} {np nh : Nat} {mo fa : Int32} (h : PI ln bo pl sz ch np nh mo fa) (hH : HR pl sz ch bd) (f w : Int32) : mWorthP (mWorth ln bo bd np nh mo fa) f w np = xWorthP (xW ln bo pl sz ch np nh mo fa) f w np := by
  unfold mWorthP xWorthP
  rw [r300, r63]
  by_cases c1 : fIn f 1 300 = 0
  · rw [if_pos c1, if_pos c1]
  · rw [if_neg c1, if_neg c1]
    obtain ⟨q, q1, q2, e⟩ := rng (a := 1) (b := 300) c1 (by decide) (by decide)
    rw [e, W_eq h hH w q1 q2]
theorem toneP_p {ln bo pl sz ch bd : Nat → Int32} {np nh : Nat} {mo fa : Int32} (h : PI ln bo pl sz ch np nh mo fa) (hH : HR pl sz ch bd) (w k : Int32) : mToneP (mWorth ln bo bd np nh mo fa) w k np = xToneP (xW ln bo pl sz ch np nh mo fa) w k np := by
  unfold mToneP xToneP
  rw [r63, toneOf_e h hH]
theorem fMiss_a {a v : Nat} (ha : a ≤ 300) (hv : v ≤ 300) : (if nI a ≤ nI v then nI v - nI a else nI a - nI v) = fMiss (nI a) (nI v) ∧ ∃ m, m ≤ 300 ∧ fMiss (nI a) (nI v) = nI m ∧ (1 ≤ a → 1 ≤ v → m < 300) := by
  unfold fMiss
  rw [if_neg (nI_nm1 (by omega))]
  by_cases c : v ≤ a
  · rw [pk_sub c, if_pos (nI_pos' (by omega))]
    refine ⟨?_, a - v, by omega, rfl, by omega⟩
    by_cases d : a ≤ v
    · have : a = v := by omega
      subst this
      rw [if_pos (nI_le d (by omega)), pk_sub d]
    · rw [if_neg (nI_ge (by omega) (by omega))]
  · have hn : ¬ 0 ≤ nI a - nI v := by
      have := pk_sneg (a := a) (b := v) (by omega) (by omega)
      intro q
      rw [Int32.lt_iff_toInt_lt] at this
      rw [Int32.le_iff_toInt_le] at q
      omega
    rw [if_neg hn, if_pos (nI_le (by omega) (by omega)), Int32.zero_sub, Int32.neg_sub, pk_sub (by omega)]
    exact ⟨rfl, v - a, by omega, rfl, by omega⟩
def NrI (v : Nat) (b t b' t' n : Int32) : Prop := b = b' ∧ t = t' ∧ ((b = -1 ∧ t = -1) ∨ ∃ j a, j < 2147483648 ∧ b = nI j ∧ 1 ≤ a ∧ a ≤ 300 ∧ t = nI a ∧ n = fMiss t (nI v))
theorem nr_go {T : Int32 → Int32} {v : Nat} (v1 : 1 ≤ v) (v2 : v ≤ 300) (hT : ∀ o, T o = -1 ∨ ∃ a, 1 ≤ a ∧ a ≤ 300 ∧ T o = nI a) : ∀ r i b t n, i + r < 1000 → NrI v b t b t n → mNr T (nI v) r i b t n = xNr T (nI v) r i b t := by
  intro r
  induction r with
  | zero => intro i b t n _ _; rfl
  | succ r ih =>
    intro i b t n hi h
    rw [mNr, xNr]
    have miss1 : fMiss (-1) (nI v) = nI 300 := by unfold fMiss; rw [if_pos rfl]; rfl
    rcases hT (nI i) with e | ⟨a, a1, a2, e⟩
    · rw [e, if_pos m1_lt, miss1]
      have hle : fMiss t (nI v) ≤ nI 300 := by
        rcases h.2.2 with ⟨-, q⟩ | ⟨j, c, -, -, c1, c2, q, -⟩
        · rw [q, miss1]; exact nI_le (Nat.le_refl _) (by omega)
        · obtain ⟨-, m, m1, m2, -⟩ := fMiss_a (a := c) (v := v) c2 v2
          rw [q, m2]; exact nI_le m1 (by omega)
      rw [if_pos hle]
      exact ih (i + 1) b t n (by omega) h
    · obtain ⟨d, m, m1, m2, m3⟩ := fMiss_a (a := a) (v := v) a2 v2
      rw [e, if_neg (nI_pos (by omega)), d, m2]
      have hnew : NrI v (nI i) (nI a) (nI i) (nI a) (nI m) := ⟨rfl, rfl, Or.inr ⟨i, a, by omega, rfl, a1, a2, rfl, m2.symm⟩⟩
      rcases h.2.2 with ⟨q1, q2⟩ | ⟨j, c, hj, q1, c1, c2, q2, q3⟩
      · rw [if_pos (by rw [q1]; exact m1_lt), q2, miss1, if_neg (nI_ge (m3 a1 v1) (by omega))]
        exact ih (i + 1) _ _ _ (by omega) hnew
      · rw [if_neg (by rw [q1]; exact nI_pos hj), q3]
        by_cases g : fMiss t (nI v) ≤ nI m
        · rw [if_pos g, if_pos g]
          rw [← q3]
          exact ih (i + 1) b t n (by omega) h
        · rw [if_neg g, if_neg g]
          exact ih (i + 1) _ _ _ (by omega) hnew
theorem nearest_p {ln bo pl sz ch bd : Nat → Int32} {np nh : Nat} {mo fa : Int32} (h : PI ln bo pl sz ch np nh mo fa) (hH : HR pl sz ch bd) (v y : Int32) : mNearest (mWorth ln bo bd np nh mo fa) v y np nh = xNearest (xW ln bo pl sz ch np nh mo fa) v y np nh := by
  have h6 := h.2.1
  unfold mNearest xNearest
  rw [r300, r01]
  by_cases c1 : fIn v 1 300 = 0
  · rw [if_pos c1, if_pos c1]
  · rw [if_neg c1, if_neg c1]
    obtain ⟨q, q1, q2, e⟩ := rng (a := 1) (b := 300) c1 (by decide) (by decide)
    have hT : (fun o => fToneOf (xW ln bo pl sz ch np nh mo fa o) 0) = (fun o => (mToneOf (mWorth ln bo bd np nh mo fa o) 0 np).1) := by
      funext o
      rw [toneOf_e h hH, if_neg (by decide)]
    rw [hT, e]
    have hp := pow_le64 h6
    rw [nr_go q1 q2 (fun o => mToneOf_r _ _ _) (2 ^ nh) 0 (-1) (-1) 0 (by omega) ⟨rfl, rfl, Or.inl ⟨rfl, rfl⟩⟩]
theorem note_p {nn : Nat} {ns nw nt : Nat → Int32} (h : NI nn ns nw nt) (x y z : Int32) : mNote x y z nn ns nw nt = xNote x y z nn ns nw nt ∧ NI ((xNote x y z nn ns nw nt).2.1) ((xNote x y z nn ns nw nt).2.2.1) ((xNote x y z nn ns nw nt).2.2.2.1) ((xNote x y z nn ns nw nt).2.2.2.2) := by
  have h6 := h.1
  unfold mNote xNote
  rw [r63, r05, r300]
  by_cases c1 : fIn x 0 63 = 0
  · rw [if_pos c1, if_pos c1]; exact ⟨rfl, h⟩
  · rw [if_neg c1, if_neg c1]
    by_cases c2 : fIn y 0 5 = 0
    · rw [if_pos c2, if_pos c2]; exact ⟨rfl, h⟩
    · rw [if_neg c2, if_neg c2]
      by_cases c3 : fIn z 1 300 = 0
      · rw [if_pos c3, if_pos c3]; exact ⟨rfl, h⟩
      · rw [if_neg c3, if_neg c3]
        by_cases c4 : nn = 6
        · subst c4
          rw [if_pos (show nI 6 = 6 from rfl), if_neg (show ¬ nI 6 < 6 by decide)]; exact ⟨rfl, h⟩
        · rw [if_neg (show ¬ nI nn = 6 from fun q => c4 ((nI_eq (b := 6) (by omega) (by omega)).mp q)), if_pos (show nI nn < 6 from nI_lt (b := 6) (by omega) (by omega))]
          refine ⟨rfl, by show nn + 1 ≤ 6; omega, ?_⟩
          intro j hj
          have hj : j < nn + 1 := hj
          show (∃ k, k ≤ 63 ∧ upd ns nn x j = nI k) ∧ (∃ k, k ≤ 5 ∧ upd nw nn y j = nI k) ∧ (∃ k, 1 ≤ k ∧ k ≤ 300 ∧ upd nt nn z j = nI k)
          by_cases c : j = nn
          · subst c
            rw [pk_us, pk_us, pk_us]
            obtain ⟨a, -, a2, e⟩ := rng (a := 0) (b := 63) c1 (by decide) (by decide)
            obtain ⟨b, -, b2, e2⟩ := rng (a := 0) (b := 5) c2 (by decide) (by decide)
            exact ⟨⟨a, a2, e⟩, ⟨b, b2, e2⟩, rng c3 (by decide) (by decide)⟩
          · rw [pk_un c, pk_un c, pk_un c]; exact h.2 j (by omega)
theorem noted_p {ln bo pl sz ch bd : Nat → Int32} {np nh nn : Nat} {mo fa : Int32} {ns nw nt : Nat → Int32} (h : PI ln bo pl sz ch np nh mo fa) (hH : HR pl sz ch bd) (hN : NI nn ns nw nt) (x y : Int32) : mNoted (mWorth ln bo bd np nh mo fa) x y np nn ns nw nt = xNoted (xW ln bo pl sz ch np nh mo fa) x y nn ns nw nt := by
  have h6 := hN.1
  unfold mNoted xNoted
  rw [rW]
  by_cases c1 : fIn x 0 (nI nn - 1) = 0
  · rw [if_pos c1, if_pos c1]
  · rw [if_neg c1, if_neg c1]
    obtain ⟨k, hk, ek⟩ := rngN (by omega) c1
    subst ek
    rw [nI_clamp (by omega)]
    obtain ⟨e1, e2, -⟩ := xMk_e h hH hN hk
    rw [e1, e2]
    rfl
theorem reach_p {re : Int32} (h : ∃ k, 1 ≤ k ∧ k ≤ 100 ∧ re = nI k) (x : Int32) : mReach x re = xReach x re ∧ ∃ k, 1 ≤ k ∧ k ≤ 100 ∧ (xReach x re).2 = nI k := by
  unfold mReach xReach
  rw [r100]
  by_cases c1 : fIn x 1 100 = 0
  · rw [if_pos c1]; exact ⟨rfl, h⟩
  · rw [if_neg c1]; exact ⟨rfl, rng c1 (by decide) (by decide)⟩
end OPB
