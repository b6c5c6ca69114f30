section WORTH
/-- which hole stands at a place -/
theorem hole_go {pl bd : Nat → Int32} {nh : Nat} {v : Int32} (hH : ∀ j, j < 6 → bd (3 * j) = pl j) (h6 : nh ≤ 6) : ∀ r i z, i + r = nh → (∀ j, i ≤ j → j < nh → pl j ≠ v) → mHoleAt bd v r i z = z := by
  intro r
  induction r with
  | zero => intro i z _ _; rfl
  | succ r ih =>
    intro i z hi h
    rw [mHoleAt, if_neg (by rw [hH i (by omega)]; exact h i (Nat.le_refl _) (by omega))]
    exact ih (i + 1) z (by omega) (fun j a b => h j (by omega) b)
theorem holeAt_go {pl bd : Nat → Int32} {nh : Nat} {v : Int32} (hH : ∀ j, j < 6 → bd (3 * j) = pl j) (h6 : nh ≤ 6) (hd : ∀ i j, i < nh → j < nh → pl i = pl j → i = j) : ∀ r i, i + r = nh → mHoleAt bd v r i (-1) = fHoleAt pl v r i := by
  intro r
  induction r with
  | zero => intro i _; rfl
  | succ r ih =>
    intro i hi
    rw [mHoleAt, fHoleAt, hH i (by omega)]
    by_cases c : pl i = v
    · rw [if_pos c, if_pos c]
      refine hole_go hH h6 r (i + 1) (nI i) (by omega) ?_
      intro j a b e
      have := hd i j (by omega) b (by rw [c, e])
      omega
    · rw [if_neg c, if_neg c]
      exact ih (i + 1) (by omega)
theorem holeAt_e {pl bd : Nat → Int32} {nh : Nat} {v : Int32} (hH : ∀ j, j < 6 → bd (3 * j) = pl j) (h6 : nh ≤ 6) (hd : ∀ i j, i < nh → j < nh → pl i = pl j → i = j) : mHoleAt bd v nh 0 (-1) = fHoleAt pl v nh 0 := holeAt_go hH h6 hd nh 0 (by omega)
theorem fHole_go (pl : Nat → Int32) (v : Int32) (nh : Nat) : ∀ r i, i + r = nh → (fHoleAt pl v r i = -1 ∧ ∀ j, i ≤ j → j < nh → pl j ≠ v) ∨ ∃ k, k < nh ∧ pl k = v ∧ fHoleAt pl v r i = nI k := by
  intro r
  induction r with
  | zero => intro i hi; exact Or.inl ⟨rfl, fun j a b => by omega⟩
  | succ r ih =>
    intro i hi
    rw [fHoleAt]
    by_cases c : pl i = v
    · rw [if_pos c]; exact Or.inr ⟨i, by omega, c, rfl⟩
    · rw [if_neg c]
      rcases ih (i + 1) (by omega) with ⟨a, b⟩ | q
      · refine Or.inl ⟨a, fun j p1 p2 => ?_⟩
        rcases Nat.lt_or_ge i j with q | q
        · exact b j q p2
        · obtain rfl : j = i := by omega
          exact c
      · exact Or.inr q
theorem fHole_sp (pl : Nat → Int32) (v : Int32) (nh : Nat) : (fHoleAt pl v nh 0 = -1 ∧ ∀ j, j < nh → pl j ≠ v) ∨ ∃ k, k < nh ∧ pl k = v ∧ fHoleAt pl v nh 0 = nI k := by
  rcases fHole_go pl v nh nh 0 (by omega) with ⟨a, b⟩ | q
  · exact Or.inl ⟨a, fun j h => b j (Nat.zero_le _) h⟩
  · exact Or.inr q
theorem m1_lt : (-1 : Int32) < 0 := by decide
theorem nI_nm1 {k : Nat} (h : k < 2147483648) : ¬ nI k = -1 := by
  intro e
  have h1 := nI_pos h
  rw [e] at h1
  exact h1 m1_lt
theorem PI.ln {ln bo pl sz ch : Nat → Int32} {np nh : Nat} {mo fa : Int32} (h : PI ln bo pl sz ch np nh mo fa) : LnOK ln np := ⟨h.1, h.2.2.1⟩
theorem PI.ho {ln bo pl sz ch : Nat → Int32} {np nh : Nat} {mo fa : Int32} (h : PI ln bo pl sz ch np nh mo fa) : HoOK pl nh (sN ln np) := by
  have hl := h.ln
  have hT := sN_b hl (Nat.le_refl np)
  refine ⟨h.2.1, fun j hj => ?_⟩
  obtain ⟨k, T, h1, h2, h3, e, eT⟩ := h.2.2.2.2.1 j hj
  rw [fSum_e hl np (Nat.le_refl _)] at eT
  have := (nI_eq (by omega) (by omega)).mp eT
  exact ⟨k, h1, by omega, by omega, e⟩
theorem HR.h {pl sz ch bd : Nat → Int32} (h : HR pl sz ch bd) : ∀ j, j < 6 → bd (3 * j) = pl j := fun j hj => (h j hj).1
theorem PI.bo {ln bo pl sz ch : Nat → Int32} {np nh j : Nat} {mo fa : Int32} (h : PI ln bo pl sz ch np nh mo fa) (hj : j < np) : ∃ k, 1 ≤ k ∧ k ≤ 100 ∧ bo j = nI k := h.2.2.2.1 j hj
theorem PI.sz {ln bo pl sz ch : Nat → Int32} {np nh j : Nat} {mo fa : Int32} (h : PI ln bo pl sz ch np nh mo fa) (hj : j < nh) : ∃ k, 1 ≤ k ∧ k ≤ 60 ∧ sz j = nI k := h.2.2.2.2.2.1 j hj
theorem PI.ch {ln bo pl sz ch : Nat → Int32} {np nh j : Nat} {mo fa : Int32} (h : PI ln bo pl sz ch np nh mo fa) (hj : j < nh) : ∃ k, k ≤ 60 ∧ ch j = nI k := h.2.2.2.2.2.2.1 j hj
theorem PI.di {ln bo pl sz ch : Nat → Int32} {np nh : Nat} {mo fa : Int32} (h : PI ln bo pl sz ch np nh mo fa) : ∀ i j, i < nh → j < nh → pl i = pl j → i = j := h.2.2.2.2.2.2.2.1
theorem PI.mo {ln bo pl sz ch : Nat → Int32} {np nh : Nat} {mo fa : Int32} (h : PI ln bo pl sz ch np nh mo fa) : mo = 0 ∨ mo = 1 := h.2.2.2.2.2.2.2.2.1
theorem PI.fa {ln bo pl sz ch : Nat → Int32} {np nh : Nat} {mo fa : Int32} (h : PI ln bo pl sz ch np nh mo fa) : fa = 0 ∨ fa = 1 := h.2.2.2.2.2.2.2.2.2
theorem MH_of {ln bo pl sz ch bd : Nat → Int32} {np nh : Nat} {mo fa : Int32} (h : PI ln bo pl sz ch np nh mo fa) (hH : HR pl sz ch bd) : MH ln bo bd np nh := by
  refine ⟨seq18 h.ln h.ho hH.h, seq_le h.ln h.ho hH.h, ?_, ?_⟩
  · intro j hj
    obtain ⟨k, h1, h2, e⟩ := h.bo hj
    rw [e]; exact bb_ne h1 h2
  · intro f j f1 f2 hj
    obtain ⟨s, s1, s2, es⟩ := h.sz hj
    obtain ⟨c, c2, ec⟩ := h.ch hj
    have h6 := h.2.1
    rw [(hH j (by omega)).2.1, (hH j (by omega)).2.2, es, ec]
    exact den_ne f1 f2 s1 s2 c2
theorem fWl_s (rd : Int32) (xl xb xh xs xc : Nat → Int32) (w f : Int32) (r i : Nat) (pp uu : Int64) : fWl rd xl xb xh xs xc w f (r + 1) i pp uu = if fOpen (xh i) w = 0 then fWl rd xl xb xh xs xc w f r (i + 1) (wP2 f (xl i) (xb i) pp uu) (wU2 f (xl i) (xb i) pp uu) else fWl rd xl xb xh xs xc w f r (i + 1) (wP2 f (xl i) (xb i) pp uu) (wU3 f (xs i) (xc i) (wP2 f (xl i) (xb i) pp uu) (wU2 f (xl i) (xb i) pp uu)) := rfl
theorem fCut_s (ln pl : Nat → Int32) (np nh r i : Nat) : fCut ln pl np nh (r + 1) i = if seqX ln pl np nh i ≤ 0 then i else fCut ln pl np nh r (i + 1) := rfl
theorem fCut_ge (ln pl : Nat → Int32) (np nh : Nat) : ∀ r i, i ≤ fCut ln pl np nh r i := by
  intro r
  induction r with
  | zero => intro i; exact Nat.le_refl _
  | succ r ih =>
    intro i
    rw [fCut_s]
    split
    · exact Nat.le_refl _
    · have := ih (i + 1); omega
theorem flag_e {v : Int32} (h : v = 0 ∨ v = 1) : fFlag v = v := by
  rcases h with h | h <;> subst h <;> decide
/-- one stretch of the wave, both sides -/
theorem wl_go {ln bo pl sz ch bd : Nat → Int32} {np nh : Nat} {mo fa : Int32} (h : PI ln bo pl sz ch np nh mo fa) (hH : HR pl sz ch bd) (w : Int32) {a : Nat} (h1 : 1 ≤ a) (h2 : a ≤ 300) :
    ∀ r i pp uu, fWl (fFlag mo) (xL ln pl np nh) (xB ln bo pl np nh) (xH ln pl np nh) (xS ln pl sz np nh) (xC ln pl ch np nh) w (nI a) (fCut ln pl np nh r i - i) i pp uu = mWl ln bo bd np nh mo w (nI a) r i pp uu := by
  have hl := h.ln
  have hT := sN_b hl (Nat.le_refl np)
  intro r
  induction r with
  | zero =>
    intro i pp uu
    have e : fCut ln pl np nh 0 i - i = 0 := Nat.sub_self i
    rw [e, flag_e h.mo]
    rfl
  | succ r ih =>
    intro i pp uu
    obtain ⟨n, hn, ex, em, m, hv, ey⟩ := seq_e hl h.ho hH.h i
    obtain ⟨m', -, ex2, em2, -⟩ := seq_e hl h.ho hH.h (i + 1)
    rw [fCut_s, mWl, ex, em]
    rcases Nat.eq_zero_or_pos n with z | z
    · subst z
      rw [if_pos (by decide : nI 0 ≤ 0), if_pos (by decide : nI 0 ≤ 0), Nat.sub_self, flag_e h.mo]
      rfl
    · have hnp : 1 ≤ np := by
        rcases Nat.eq_zero_or_pos np with q | q
        · subst q
          have : n ≤ 0 := hn
          omega
        · exact q
      have c0 : ¬ nI n ≤ 0 := nI_nle z (by omega)
      rw [if_neg c0, if_neg c0]
      have hge := fCut_ge ln pl np nh r (i + 1)
      rw [show fCut ln pl np nh r (i + 1) - i = (fCut ln pl np nh r (i + 1) - (i + 1)) + 1 from by omega, fWl_s]
      have hm : m < n := by rcases hv.1 with q | q <;> omega
      have eL : mL ln bd np nh i = xL ln pl np nh i := by
        unfold mL xL
        rw [em, ex, em2, ex2]
      have eL2 : xL ln pl np nh i = nI (n - m) := by
        unfold xL
        rw [ex, ey, pk_sub (by omega)]
      obtain ⟨k, k1, k2, k3, -⟩ := piece_e hl hnp hn
      have h12 := h.1
      obtain ⟨q, q1, q2, eq⟩ := h.bo k1
      have eB : xB ln bo pl np nh i = nI q := by
        unfold xB
        rw [ex, k2, fAt_in _ (by omega) (by decide), eq]
      have eB2 : mB ln bo bd np nh i = (nI q).toInt64 := by
        unfold mB
        rw [em, k3, nI_clamp (by omega), eq]
      have h6 := h.2.1
      have eHm : mHoleAt bd (seqM ln bd np nh (i + 1)) nh 0 (-1) = xH ln pl np nh i := by
        unfold xH
        rw [em2, ex2, holeAt_e hH.h h6 h.di]
      have eP2 : wP2 (nI a) (xL ln pl np nh i) (xB ln bo pl np nh i) pp uu = sh8 (mP1 (nI a) (mL ln bd np nh i) (mB ln bo bd np nh i) pp uu) (mShN (mP1 (nI a) (mL ln bd np nh i) (mB ln bo bd np nh i) pp uu) (mU1 (nI a) (mL ln bd np nh i) (mB ln bo bd np nh i) pp uu)) := by
        rw [eL, eB, eB2, eL2, wP2_e h2 (by omega) q1 q2]
      have eU2 : wU2 (nI a) (xL ln pl np nh i) (xB ln bo pl np nh i) pp uu = sh8 (mU1 (nI a) (mL ln bd np nh i) (mB ln bo bd np nh i) pp uu) (mShN (mP1 (nI a) (mL ln bd np nh i) (mB ln bo bd np nh i) pp uu) (mU1 (nI a) (mL ln bd np nh i) (mB ln bo bd np nh i) pp uu)) := by
        rw [eL, eB, eB2, eL2, wU2_e h2 (by omega) q1 q2]
      rw [← eP2, ← eU2, eHm]
      generalize wP2 (nI a) (xL ln pl np nh i) (xB ln bo pl np nh i) pp uu = P
      generalize wU2 (nI a) (xL ln pl np nh i) (xB ln bo pl np nh i) pp uu = U
      rcases fHole_sp pl (seqX ln pl np nh (i + 1)) nh with ⟨e1, -⟩ | ⟨j, j1, -, e1⟩
      · have eh : xH ln pl np nh i = -1 := e1
        rw [eh, if_pos m1_lt]
        have eo : fOpen (-1) w = 0 := by unfold fOpen; rw [if_pos rfl]
        rw [if_pos eo]
        exact ih (i + 1) P U
      · have eh : xH ln pl np nh i = nI j := e1
        have eS : xS ln pl sz np nh i = sz j := by
          unfold xS
          rw [eh, fAt_in _ (by omega) (by decide)]
        have eC : xC ln pl ch np nh i = ch j := by
          unfold xC
          rw [eh, fAt_in _ (by omega) (by decide)]
        obtain ⟨s, s1, s2, es⟩ := h.sz j1
        obtain ⟨c, c2, ec⟩ := h.ch j1
        rw [eS, eC, eh, if_neg (nI_pos (by omega)), nI_clamp (by omega), (hH j (by omega)).2.1, (hH j (by omega)).2.2, es, ec]
        by_cases cc : (w >>> (nI j &&& 31)) &&& 1 = 1
        · have eo : ¬ fOpen (nI j) w = 0 := by
            unfold fOpen
            rw [if_neg (nI_nm1 (by omega)), if_pos cc]; decide
          rw [if_neg eo, if_pos cc, wU3_e h1 h2 s1 s2 c2]
          exact ih (i + 1) P _
        · have eo : fOpen (nI j) w = 0 := by
            unfold fOpen
            rw [if_neg (nI_nm1 (by omega)), if_neg cc]
          rw [if_pos eo, if_neg cc]
          exact ih (i + 1) P U
theorem W_eq {ln bo pl sz ch bd : Nat → Int32} {np nh : Nat} {mo fa : Int32} (h : PI ln bo pl sz ch np nh mo fa) (hH : HR pl sz ch bd) (w : Int32) {a : Nat} (h1 : 1 ≤ a) (h2 : a ≤ 300) :
    xW ln bo pl sz ch np nh mo fa w (nI a) = mWorth ln bo bd np nh mo fa w (nI a) := by
  unfold xW fWorth mWorth xMany
  rw [flag_e h.fa]
  exact wl_go h hH w h1 h2 18 0 _ _
end WORTH
