section MOVE
theorem fIn_to {x A B : Int32} (h : ¬ fIn x A B = 0) : A.toInt ≤ x.toInt ∧ x.toInt ≤ B.toInt := by
  unfold fIn at h
  by_cases h1 : x < A
  · rw [if_pos h1] at h; exact absurd rfl h
  · rw [if_neg h1] at h
    by_cases h2 : B < x
    · rw [if_pos h2] at h; exact absurd rfl h
    · rw [Int32.lt_iff_toInt_lt] at h1 h2
      omega
theorem fIn_of {x A B : Int32} (h1 : A.toInt ≤ x.toInt) (h2 : x.toInt ≤ B.toInt) : fIn x A B = 1 := by
  unfold fIn
  rw [if_neg (by rw [Int32.lt_iff_toInt_lt]; omega), if_neg (by rw [Int32.lt_iff_toInt_lt]; omega)]
theorem fIn_no {x A B : Int32} (h : ¬ (A.toInt ≤ x.toInt ∧ x.toInt ≤ B.toInt)) : fIn x A B = 0 := by
  rcases fIn_01 x A B with q | q
  · exact q
  · exact absurd (fIn_to (x := x) (A := A) (B := B) (by rw [q]; decide)) h
theorem nI_toI {x : Int32} (h : 0 ≤ x.toInt) : x = nI x.toInt.toNat ∧ x.toInt.toNat < 2147483648 := by
  obtain ⟨j, hj, e⟩ := nI_of (x := x) (fun q => by
    rw [Int32.lt_iff_toInt_lt] at q
    have : (0 : Int32).toInt = 0 := by decide
    omega)
  have h2 : x.toInt = (j : Int) := by rw [e, nI_toInt hj]
  rw [h2]
  exact ⟨e, by show (j : Int).toNat < _; rw [Int.toNat_natCast]; exact hj⟩
theorem rng {x A B : Int32} {a b : Nat} (h : ¬ fIn x A B = 0) (hA : A.toInt = a) (hB : B.toInt ≤ b) : ∃ k : Nat, a ≤ k ∧ k ≤ b ∧ x = nI k := by
  obtain ⟨h1, h2⟩ := fIn_to h
  obtain ⟨e, -⟩ := nI_toI (x := x) (by omega)
  exact ⟨x.toInt.toNat, by omega, by omega, e⟩
theorem t1_ : (1 : Int32).toInt = 1 := by decide
theorem t0_ : (0 : Int32).toInt = 0 := by decide
theorem t60 : (60 : Int32).toInt = 60 := by decide
/-- a place that may be -/
theorem place_ok {ln : Nat → Int32} {np : Nat} {v : Int32} (hl : LnOK ln np) (h : ¬ fIn v 1 (fSum ln np 0 0 - 1) = 0) : ∃ n, 1 ≤ n ∧ n < sN ln np ∧ n ≤ 4800 ∧ v = nI n := by
  have hT := sN_b hl (Nat.le_refl np)
  have e : (fSum ln np 0 0 - 1).toInt = (sN ln np : Int) - 1 := by
    rw [fSum_e hl np (Nat.le_refl _), nI_pred_toInt (by omega)]
  obtain ⟨h1, h2⟩ := fIn_to h
  rw [e] at h2
  rw [t1_] at h1
  obtain ⟨q, -⟩ := nI_toI (x := v) (by omega)
  exact ⟨v.toInt.toNat, by omega, by omega, by omega, q⟩
theorem PI_pl {ln bo pl sz ch : Nat → Int32} {np nh k : Nat} {mo fa v : Int32} (h : PI ln bo pl sz ch np nh mo fa) (hv : ∃ n, 1 ≤ n ∧ n < sN ln np ∧ n ≤ 4800 ∧ v = nI n) (hd : ∀ j, j < nh → j ≠ k → pl j ≠ v) : PI ln bo (upd pl k v) sz ch np nh mo fa := by
  obtain ⟨a1, a2, a3, a4, a5, a6, a7, a8, a9, a10⟩ := id h
  have hT := sN_b h.ln (Nat.le_refl np)
  obtain ⟨n, n1, n2, n3, e⟩ := hv
  refine ⟨a1, a2, a3, a4, ?_, a6, a7, ?_, a9, a10⟩
  · intro j hj
    by_cases c : j = k
    · subst c
      rw [pk_us]
      exact ⟨n, sN ln np, n1, n2, hT, e, fSum_e h.ln np (Nat.le_refl _)⟩
    · rw [pk_un c]; exact a5 j hj
  · intro i j hi hj q
    by_cases c : i = k
    · by_cases c2 : j = k
      · rw [c, c2]
      · rw [c, pk_us, pk_un c2] at q
        exact absurd q.symm (hd j hj c2)
    · by_cases c2 : j = k
      · rw [c2, pk_us, pk_un c] at q
        exact absurd q (hd i hi c)
      · rw [pk_un c, pk_un c2] at q
        exact a8 i j hi hj q
theorem PI_sz {ln bo pl sz ch : Nat → Int32} {np nh k : Nat} {mo fa v : Int32} (h : PI ln bo pl sz ch np nh mo fa) (hv : ∃ n, 1 ≤ n ∧ n ≤ 60 ∧ v = nI n) : PI ln bo pl (upd sz k v) ch np nh mo fa := by
  obtain ⟨a1, a2, a3, a4, a5, a6, a7, a8, a9, a10⟩ := id h
  refine ⟨a1, a2, a3, a4, a5, ?_, a7, a8, a9, a10⟩
  intro j hj
  by_cases c : j = k
  · subst c; rw [pk_us]; exact hv
  · rw [pk_un c]; exact a6 j hj
theorem PI_ch {ln bo pl sz ch : Nat → Int32} {np nh k : Nat} {mo fa v : Int32} (h : PI ln bo pl sz ch np nh mo fa) (hv : ∃ n, n ≤ 60 ∧ v = nI n) : PI ln bo pl sz (upd ch k v) np nh mo fa := by
  obtain ⟨a1, a2, a3, a4, a5, a6, a7, a8, a9, a10⟩ := id h
  refine ⟨a1, a2, a3, a4, a5, a6, ?_, a8, a9, a10⟩
  intro j hj
  by_cases c : j = k
  · subst c; rw [pk_us]; exact hv
  · rw [pk_un c]; exact a7 j hj
theorem HR_pl {pl sz ch bd : Nat → Int32} (h : HR pl sz ch bd) (k : Nat) (v : Int32) : HR (upd pl k v) sz ch (upd bd (3 * k) v) := by
  intro j hj
  obtain ⟨a, b, c⟩ := h j hj
  refine ⟨?_, ?_, ?_⟩
  · by_cases q : j = k
    · subst q; rw [pk_us, pk_us]
    · rw [pk_un q, pk_un (by omega)]; exact a
  · rw [pk_un (by omega)]; exact b
  · rw [pk_un (by omega)]; exact c
theorem HR_sz {pl sz ch bd : Nat → Int32} (h : HR pl sz ch bd) (k : Nat) (v : Int32) : HR pl (upd sz k v) ch (upd bd (3 * k + 1) v) := by
  intro j hj
  obtain ⟨a, b, c⟩ := h j hj
  refine ⟨?_, ?_, ?_⟩
  · rw [pk_un (by omega)]; exact a
  · by_cases q : j = k
    · subst q; rw [pk_us, pk_us]
    · rw [pk_un q, pk_un (by omega)]; exact b
  · rw [pk_un (by omega)]; exact c
theorem HR_ch {pl sz ch bd : Nat → Int32} (h : HR pl sz ch bd) (k : Nat) (v : Int32) : HR pl sz (upd ch k v) (upd bd (3 * k + 2) v) := by
  intro j hj
  obtain ⟨a, b, c⟩ := h j hj
  refine ⟨?_, ?_, ?_⟩
  · rw [pk_un (by omega)]; exact a
  · rw [pk_un (by omega)]; exact b
  · by_cases q : j = k
    · subst q; rw [pk_us, pk_us]
    · rw [pk_un q, pk_un (by omega)]; exact c
theorem fits0 (v W : Int32) : mFits 0 v W = xMay 0 v W := by
  unfold mFits xMay
  rw [if_pos rfl, if_pos rfl]
  exact fInL_in (by decide) (Int32.toInt_toInt64 _)
theorem fits1 (v W : Int32) : mFits 1 v W = xMay 1 v W := by
  unfold mFits xMay
  have a : ¬ (1 : Int32) = 0 := by decide
  rw [if_neg a, if_pos (rfl : (1 : Int32) = 1), if_neg a, if_pos rfl]
  exact fInL_in (by decide) (by decide)
theorem fits2 (v W : Int32) : mFits 2 v W = xMay 2 v W := by
  unfold mFits xMay
  have a : ¬ (2 : Int32) = 0 := by decide
  have b : ¬ (2 : Int32) = 1 := by decide
  rw [if_neg a, if_neg b, if_neg a, if_neg b, if_pos rfl]
  exact fInL_in (by decide) (by decide)
theorem xMay0 (v W : Int32) : xMay 0 v W = fIn v 1 (W - 1) := by unfold xMay; rw [if_pos rfl]
theorem xMay1 (v W : Int32) : xMay 1 v W = fIn v 1 60 := by unfold xMay; rw [if_neg (by decide), if_pos rfl]
theorem xMay2 (v W : Int32) : xMay 2 v W = fIn v 0 60 := by unfold xMay; rw [if_neg (by decide), if_neg (by decide), if_pos rfl]
/-- the hole beside, and the gap to it -/
def BsI (pl : Nat → Int32) (nh k : Nat) (w z g : Int32) : Prop := (z = -1 ∧ g = 0) ∨ ∃ j, j < nh ∧ z = nI j ∧ g = fGapD pl k w j ∧ ¬ g ≤ 0
theorem mBD_e {pl bd : Nat → Int32} (hH : ∀ j, j < 6 → bd (3 * j) = pl j) {k i : Nat} (w : Int32) (hk : k < 6) (hi : i < 6) : mBD bd k w i = fGapD pl k w i := by
  unfold mBD fGapD
  rw [hH k hk, hH i hi]
theorem bes_go {pl bd : Nat → Int32} {nh k : Nat} {w : Int32} (hH : ∀ j, j < 6 → bd (3 * j) = pl j) (h6 : nh ≤ 6) (hk : k < 6) : ∀ r i z g, i + r = nh → BsI pl nh k w z g → BsI pl nh k w (mBeside bd k w r i z) (fGap pl k w r i g) := by
  intro r
  induction r with
  | zero => intro i z g _ h; exact h
  | succ r ih =>
    intro i z g hi h
    rw [mBeside, fGap, mBD_e hH w hk (by omega)]
    by_cases c : fGapD pl k w i ≤ 0
    · rw [if_pos c, if_pos c]; exact ih (i + 1) z g (by omega) h
    · rw [if_neg c, if_neg c]
      have hnew : BsI pl nh k w (nI i) (fGapD pl k w i) := Or.inr ⟨i, by omega, rfl, rfl, c⟩
      rcases h with ⟨e1, e2⟩ | ⟨j, j1, e1, e2, e3⟩
      · rw [if_pos (by rw [e1]; exact m1_lt), if_pos e2]
        exact ih (i + 1) _ _ (by omega) hnew
      · have g0 : ¬ g = 0 := fun q => e3 (by rw [q]; decide)
        rw [if_neg (by rw [e1]; exact nI_pos (by omega)), if_neg g0]
        have ej : mBD bd k w z.toNatClampNeg = g := by
          rw [e1, nI_clamp (by omega), mBD_e hH w hk (by omega), ← e2]
        rw [ej]
        by_cases d : g ≤ fGapD pl k w i
        · rw [if_pos d, if_pos d]
          exact ih (i + 1) z g (by omega) (Or.inr ⟨j, j1, e1, e2, e3⟩)
        · rw [if_neg d, if_neg d]
          exact ih (i + 1) _ _ (by omega) hnew
theorem gap_e {g re : Int32} (h : ¬ g ≤ 0) : (¬ g < re ∧ g - 1 < re) ↔ g = re := by
  have z := t0_
  have o := t1_
  rw [Int32.le_iff_toInt_le, z] at h
  have h1 := Int32.toInt_lt g
  have h2 := Int32.le_toInt g
  have e : (g - 1).toInt = g.toInt - 1 := by
    rw [Int32.toInt_sub, o, Int.bmod_eq_of_le_mul_two (by omega) (by omega)]
  rw [Int32.lt_iff_toInt_lt, Int32.lt_iff_toInt_lt, e]
  constructor
  · intro ⟨a, b⟩; exact Int32.toInt_inj.mp (by omega)
  · intro q; subst q; exact ⟨by omega, by omega⟩
/-- a place's move, both sides -/
theorem pm_e {ln bo pl sz ch bd : Nat → Int32} {np nh k : Nat} {mo fa re v w : Int32} (h : PI ln bo pl sz ch np nh mo fa) (hH : HR pl sz ch bd) (hk : k < nh) (hre : ¬ re ≤ 0) (ev : v = pl k + w) (ew : v - bd (3 * k) = w) :
    xPM pl nh re k w (fSum ln np 0 0) = if mMay ln bd np nh re k v = 0 then -1 else v := by
  have h6 := h.2.1
  unfold xPM mMay
  rw [← ev, fits0, ew, holeAt_e hH.h h6 h.di]
  by_cases c : xMay 0 v (fSum ln np 0 0) = 0
  · rw [if_pos c, if_pos c, if_pos rfl]
  · rw [if_neg c, if_neg c]
    rcases fHole_sp pl v nh with ⟨e1, -⟩ | ⟨j, j1, -, e1⟩
    · rw [e1, if_pos rfl, if_pos m1_lt]
      have hb := bes_go (w := w) hH.h h6 (show k < 6 by omega) nh 0 (-1) 0 (by omega) (Or.inl ⟨rfl, rfl⟩)
      rcases hb with ⟨z, g⟩ | ⟨j, j1, z, g, g0⟩
      · rw [z, g, if_neg (by decide : ¬ (0 : Int32) ≤ -1), if_neg (by decide : ¬ (1 : Int32) = 0)]
        rw [if_neg (fun q => hre (by rw [← q]; decide))]
      · generalize fGap pl k w nh 0 0 = gg at g g0 ⊢
        rw [z, if_pos (nI_pos' (by omega)), nI_clamp (by omega), mBD_e hH.h w (by omega) (by omega), ← g]
        have ge := gap_e (re := re) g0
        by_cases d : gg = re
        · obtain ⟨d1, d2⟩ := ge.mpr d
          rw [if_pos d, if_neg d1, if_pos d2, if_pos rfl]
        · rw [if_neg d]
          by_cases d1 : gg < re
          · rw [if_pos d1, if_neg (by decide)]
          · have d2 : ¬ gg - 1 < re := fun q => d (ge.mp ⟨d1, q⟩)
            rw [if_neg d1, if_neg d2, if_neg (by decide)]
    · rw [e1, if_neg (nI_nm1 (by omega)), if_neg (nI_pos (by omega)), if_pos rfl]
/-- a place that a move gives is good -/
theorem pm_ok {ln pl : Nat → Int32} {np nh k : Nat} {re w : Int32} (hl : LnOK ln np) (h6 : nh ≤ 6) (h : ¬ xPM pl nh re k w (fSum ln np 0 0) = -1) :
    xPM pl nh re k w (fSum ln np 0 0) = pl k + w ∧ (∃ n, 1 ≤ n ∧ n < sN ln np ∧ n ≤ 4800 ∧ pl k + w = nI n) ∧ ∀ j, j < nh → pl j ≠ pl k + w := by
  unfold xPM at h ⊢
  by_cases c : xMay 0 (pl k + w) (fSum ln np 0 0) = 0
  · rw [if_pos c] at h; exact absurd rfl h
  · rw [if_neg c] at h ⊢
    rcases fHole_sp pl (pl k + w) nh with ⟨e1, e2⟩ | ⟨j, j1, -, e1⟩
    · rw [if_pos e1] at h ⊢
      by_cases d : fGap pl k w nh 0 0 = re
      · rw [if_pos d] at h; exact absurd rfl h
      · rw [if_neg d]
        rw [xMay0] at c
        exact ⟨rfl, place_ok hl c, e2⟩
    · rw [if_neg (by rw [e1]; exact nI_nm1 (by omega))] at h
      exact absurd rfl h
end MOVE
