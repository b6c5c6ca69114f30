section OPD
theorem bkL_e (sh : Nat → Int32) (k : Nat) (ln : Nat → Int32) : ∀ n, bkL sh k ln n = cpyF (fun j => sh (50 * k + 4 + 2 * j)) ln n := by
  intro n
  induction n with
  | zero => exact (cpyF_0 _ _).symm
  | succ n ih =>
    rw [← cpyF_upd, ← ih]
    rfl
theorem bkB_e (sh : Nat → Int32) (k : Nat) (bo : Nat → Int32) : ∀ n, bkB sh k bo n = cpyF (fun j => sh (50 * k + 5 + 2 * j)) bo n := by
  intro n
  induction n with
  | zero => exact (cpyF_0 _ _).symm
  | succ n ih =>
    rw [← cpyF_upd, ← ih]
    rfl
theorem bkD_e (sh : Nat → Int32) (k : Nat) (bd : Nat → Int32) : ∀ n, bkD sh k bd n = cpyF (fun j => sh (50 * k + 28 + j)) bd n := by
  intro n
  induction n with
  | zero => exact (cpyF_0 _ _).symm
  | succ n ih =>
    rw [← cpyF_upd, ← ih]
    rfl
/-- what comes back from a shelf that is used -/
theorem came {ln bo pl sz ch bd en sh lnA boA plA szA chA : Nat → Int32} {npA nhA : Nat} {moA faA : Int32} {k : Nat} (hP : PI lnA boA plA szA chA npA nhA moA faA) (b2 : sh (50 * k + 2) = moA) (b3 : sh (50 * k + 3) = faA)
    (b4 : ∀ j, j < 12 → sh (50 * k + 4 + 2 * j) = lnA j ∧ sh (50 * k + 5 + 2 * j) = boA j) (b5 : ∀ j, j < 6 → sh (50 * k + 28 + 3 * j) = plA j ∧ sh (50 * k + 28 + (3 * j + 1)) = szA j ∧ sh (50 * k + 28 + (3 * j + 2)) = chA j) :
    bkL sh k ln 12 = cpyF lnA ln 12 ∧ bkB sh k bo 12 = cpyF boA bo 12 ∧ PI (cpyF lnA ln 12) (cpyF boA bo 12) (cpyF plA pl 6) (cpyF szA sz 6) (cpyF chA ch 6) npA nhA moA faA ∧ HR (cpyF plA pl 6) (cpyF szA sz 6) (cpyF chA ch 6) (bkD sh k bd 18) ∧
    (upd (upd en 0 (sh (50 * k + 2))) 1 (sh (50 * k + 3)) 0 = moA ∧ upd (upd en 0 (sh (50 * k + 2))) 1 (sh (50 * k + 3)) 1 = faA) := by
  refine ⟨?_, ?_, PI_cg hP (fun j q => cpyF_in q) (fun j q => cpyF_in q) (fun j q => cpyF_in q) (fun j q => cpyF_in q) (fun j q => cpyF_in q), fun j hj => ?_, ?_, ?_⟩
  · rw [bkL_e]; exact cpyF_cg (fun j q => (b4 j q).1)
  · rw [bkB_e]; exact cpyF_cg (fun j q => (b4 j q).2)
  · rw [bkD_e, cpyF_in (show 3 * j < 18 by omega), cpyF_in (show 3 * j + 1 < 18 by omega), cpyF_in (show 3 * j + 2 < 18 by omega), cpyF_in hj, cpyF_in hj, cpyF_in hj]
    exact b5 j hj
  · rw [pk_un (by decide), pk_us]; exact b2
  · rw [pk_us]; exact b3
theorem xBk_o {α : Type} {x : Int32} (h : fIn x 0 1 = 0) (ua ub : Int32) (o na nb : α) : xBk x ua ub o na nb = o := if_pos h
theorem xBk_00 {α : Type} (ub : Int32) (o na nb : α) : xBk 0 0 ub o na nb = o := by unfold xBk; rw [if_neg f0_, if_pos rfl, if_pos rfl]
theorem xBk_01 {α : Type} (ub : Int32) (o na nb : α) : xBk 0 1 ub o na nb = na := by unfold xBk; rw [if_neg f0_, if_pos rfl, if_neg d10]
theorem xBk_10 {α : Type} (ua : Int32) (o na nb : α) : xBk 1 ua 0 o na nb = o := by unfold xBk; rw [if_neg f1_, if_neg d10, if_pos rfl]
theorem xBk_11 {α : Type} (ua : Int32) (o na nb : α) : xBk 1 ua 1 o na nb = nb := by unfold xBk; rw [if_neg f1_, if_neg d10, if_neg d10]
theorem n0m1 : ¬ (0 : Int32) ≤ -1 := by decide
theorem c0_ : (0 : Int32).toNatClampNeg = 0 := by decide
theorem c1_ : (1 : Int32).toNatClampNeg = 1 := by decide
theorem back_p {ln bo pl sz ch bd en sh : Nat → Int32} {np nh : Nat} {mo fa : Int32} {ua ub moA faA moB faB : Int32} {npA nhA npB nhB : Nat} {lnA boA plA szA chA lnB boB plB szB chB : Nat → Int32} (h : PI ln bo pl sz ch np nh mo fa) (hH : HR pl sz ch bd) (he : en 0 = mo ∧ en 1 = fa) (hA : SR sh 0 ua lnA boA plA szA chA npA nhA moA faA) (hB : SR sh 1 ub lnB boB plB szB chB npB nhB moB faB) (x : Int32) :
    (mBack x np nh en ln bo bd sh).1 = xBR x ua ub ∧ (mBack x np nh en ln bo bd sh).2.1 = nI (xBk x ua ub np npA npB) ∧ (mBack x np nh en ln bo bd sh).2.2.1 = nI (xBk x ua ub nh nhA nhB) ∧ (mBack x np nh en ln bo bd sh).2.2.2.2.1 = xBk x ua ub ln (cpyF lnA ln 12) (cpyF lnB ln 12) ∧ (mBack x np nh en ln bo bd sh).2.2.2.2.2.1 = xBk x ua ub bo (cpyF boA bo 12) (cpyF boB bo 12) ∧
    PI (xBk x ua ub ln (cpyF lnA ln 12) (cpyF lnB ln 12)) (xBk x ua ub bo (cpyF boA bo 12) (cpyF boB bo 12)) (xBk x ua ub pl (cpyF plA pl 6) (cpyF plB pl 6)) (xBk x ua ub sz (cpyF szA sz 6) (cpyF szB sz 6)) (xBk x ua ub ch (cpyF chA ch 6) (cpyF chB ch 6)) (xBk x ua ub np npA npB) (xBk x ua ub nh nhA nhB) (xBk x ua ub mo moA moB) (xBk x ua ub fa faA faB) ∧
    HR (xBk x ua ub pl (cpyF plA pl 6) (cpyF plB pl 6)) (xBk x ua ub sz (cpyF szA sz 6) (cpyF szB sz 6)) (xBk x ua ub ch (cpyF chA ch 6) (cpyF chB ch 6)) ((mBack x np nh en ln bo bd sh).2.2.2.2.2.2) ∧
    ((mBack x np nh en ln bo bd sh).2.2.2.1 0 = xBk x ua ub mo moA moB ∧ (mBack x np nh en ln bo bd sh).2.2.2.1 1 = xBk x ua ub fa faA faB) := by
  unfold mBack xBR
  rw [r01]
  by_cases c : fIn x 0 1 = 0
  · rw [if_pos c, if_pos c]
    simp only [xBk_o c]
    exact ⟨trivial, trivial, trivial, trivial, trivial, h, hH, he⟩
  · rw [if_neg c, if_neg c]
    rcases fin01 c with e | e
    · subst e
      rw [c0_, if_pos rfl]
      obtain ⟨h12, h6, hA⟩ := hA
      rcases hA with ⟨a, b⟩ | ⟨a, p, b0, b1, b2, b3, b4, b5⟩
      · subst a
        rw [b, if_neg n0m1, if_pos rfl]
        simp only [xBk_00]
        exact ⟨trivial, trivial, trivial, trivial, trivial, h, hH, he⟩
      · subst a
        rw [b0, b1, if_pos (nI_pos' (by omega)), if_neg d10]
        simp only [xBk_01]
        obtain ⟨z1, z2, z3, z4, z5⟩ := came (ln := ln) (bo := bo) (pl := pl) (sz := sz) (ch := ch) (bd := bd) (en := en) p b2 b3 b4 b5
        exact ⟨trivial, trivial, trivial, z1, z2, z3, z4, z5⟩
    · subst e
      rw [c1_, if_neg d10]
      obtain ⟨h12, h6, hB⟩ := hB
      rcases hB with ⟨a, b⟩ | ⟨a, p, b0, b1, b2, b3, b4, b5⟩
      · subst a
        rw [b, if_neg n0m1, if_pos rfl]
        simp only [xBk_10]
        exact ⟨trivial, trivial, trivial, trivial, trivial, h, hH, he⟩
      · subst a
        rw [b0, b1, if_pos (nI_pos' (by omega)), if_neg d10]
        simp only [xBk_11]
        obtain ⟨z1, z2, z3, z4, z5⟩ := came (ln := ln) (bo := bo) (pl := pl) (sz := sz) (ch := ch) (bd := bd) (en := en) p b2 b3 b4 b5
        exact ⟨trivial, trivial, trivial, z1, z2, z3, z4, z5⟩
/-- 1 where two rows differ -/
def uN (f g : Nat → Int32) (na nb i : Nat) : Nat := if i < na then (if i < nb then (if f i = g i then 0 else 1) else 1) else (if i < nb then 1 else 0)
theorem diff_go {f g : Nat → Int32} {na nb : Nat} : ∀ r i z, i + r ≤ na → i + r ≤ nb → fDiff f g r i (nI z) = nI (z + sF (uN f g na nb) r i) := by
  intro r
  induction r with
  | zero => intro i z _ _; rfl
  | succ r ih =>
    intro i z ha hb
    have hu : uN f g na nb i = if f i = g i then 0 else 1 := by unfold uN; rw [if_pos (by omega), if_pos (by omega)]
    rw [fDiff, sF_s, hu]
    by_cases c : f i = g i
    · rw [if_pos c, if_pos c, ih _ _ (by omega) (by omega), Nat.zero_add]
    · rw [if_neg c, if_neg c, nI_1, ih _ _ (by omega) (by omega), Nat.add_assoc]
theorem row_e (f g : Nat → Int32) {na nb N : Nat} (ha : na ≤ N) (hb : nb ≤ N) (hN : N ≤ 100) : fRowD f g na nb = nI (sF (uN f g na nb) N 0) := by
  have hm : (if nI na < nI nb then nI nb else nI na) = nI (max na nb) := by
    by_cases d : na < nb
    · rw [if_pos (nI_lt d (by omega)), Nat.max_eq_right (by omega)]
    · rw [if_neg (nI_nlt (by omega) (by omega)), Nat.max_eq_left (by omega)]
  unfold fRowD fRowD0
  rw [hm, pk_sub (Nat.le_trans (Nat.min_le_left _ _) (Nat.le_max_left _ _))]
  rw [diff_go _ _ _ (by rw [Nat.zero_add]; exact Nat.min_le_left _ _) (by rw [Nat.zero_add]; exact Nat.min_le_right _ _)]
  have l1 := Nat.min_le_left na nb
  have l2 := Nat.min_le_right na nb
  have l3 := Nat.le_max_left na nb
  have l4 := Nat.le_max_right na nb
  have l5 : (min na nb = na ∧ max na nb = nb) ∨ (min na nb = nb ∧ max na nb = na) := by
    rcases Nat.le_total na nb with q | q
    · exact Or.inl ⟨Nat.min_eq_left q, Nat.max_eq_right q⟩
    · exact Or.inr ⟨Nat.min_eq_right q, Nat.max_eq_left q⟩
  generalize min na nb = m at l1 l2 l5
  generalize max na nb = M at l3 l4 l5
  have e : sF (uN f g na nb) N 0 = sF (uN f g na nb) m 0 + (M - m) := by
    obtain ⟨A, hA⟩ : ∃ A, A = M - m := ⟨_, rfl⟩
    obtain ⟨B, hB⟩ : ∃ B, B = N - M := ⟨_, rfl⟩
    have hs : N = m + (A + B) := by omega
    have h1 : sF (uN f g na nb) A (0 + m) = A * 1 := sF_c A (0 + m) (fun j a b => by
      unfold uN
      by_cases q : j < na
      · rw [if_pos q, if_neg (by omega)]
      · rw [if_neg q, if_pos (by omega)])
    have h2 : sF (uN f g na nb) B (0 + m + A) = B * 0 := sF_c B (0 + m + A) (fun j a b => by
      unfold uN
      rw [if_neg (by omega), if_neg (by omega)])
    rw [hs, sF_add, sF_add, h1, h2, ← hA]
    omega
  rw [e, Nat.add_comm]
theorem unl_e {a b i : Nat} {x y : Int32} (ha : a ≤ 100) (hb : b ≤ 100) (hi : i ≤ 100) : mUnlike (if nI a ≤ nI i then 0 else 1) (if nI b ≤ nI i then 0 else 1) (if x = y then 1 else 0) = nI (if i < a then (if i < b then (if x = y then 0 else 1) else 1) else (if i < b then 1 else 0)) := by
  by_cases p : i < a
  · rw [if_neg (nI_ge p (by omega)), if_pos p]
    by_cases q : i < b
    · rw [if_neg (nI_ge q (by omega)), if_pos q]
      by_cases e : x = y
      · rw [if_pos e, if_pos e]; decide
      · rw [if_neg e, if_neg e]; decide
    · rw [if_pos (nI_le (by omega) (by omega)), if_neg q]
      by_cases e : x = y
      · rw [if_pos e]; decide
      · rw [if_neg e]; decide
  · rw [if_pos (nI_le (by omega) (by omega)), if_neg p]
    by_cases q : i < b
    · rw [if_neg (nI_ge q (by omega)), if_pos q]
      by_cases e : x = y
      · rw [if_pos e]; decide
      · rw [if_neg e]; decide
    · rw [if_pos (nI_le (by omega) (by omega)), if_neg q]
      by_cases e : x = y
      · rw [if_pos e]; decide
      · rw [if_neg e]; decide
theorem df1_go {np npA k : Nat} {ln bo lnA boA sh : Nat → Int32} (h0 : sh (50 * k) = nI npA) (hp : npA ≤ 12) (hn : np ≤ 12) (hs : ∀ j, j < 12 → sh (50 * k + 4 + 2 * j) = lnA j ∧ sh (50 * k + 5 + 2 * j) = boA j) :
    ∀ r i z, i + r = 12 → mDf1 np k ln bo sh r i (nI z) = nI (z + (sF (uN ln lnA np npA) r i + sF (uN bo boA np npA) r i)) := by
  intro r
  induction r with
  | zero => intro i z _; rfl
  | succ r ih =>
    intro i z hi
    obtain ⟨s1, s2⟩ := hs i (by omega)
    have e1 : mUnlike (if nI np ≤ nI i then 0 else 1) (if nI npA ≤ nI i then 0 else 1) (if ln i = lnA i then 1 else 0) = nI (uN ln lnA np npA i) := unl_e (by omega) (by omega) (by omega)
    have e2 : mUnlike (if nI np ≤ nI i then 0 else 1) (if nI npA ≤ nI i then 0 else 1) (if bo i = boA i then 1 else 0) = nI (uN bo boA np npA i) := unl_e (by omega) (by omega) (by omega)
    rw [mDf1, h0, s1, s2, e1, e2, nI_add, nI_add, ih (i + 1) _ (by omega), sF_s, sF_s]
    congr 1
    omega
theorem df2_go {nh nhA k : Nat} {pl sz ch bd plA szA chA sh : Nat → Int32} (h1 : sh (50 * k + 1) = nI nhA) (hp : nhA ≤ 6) (hn : nh ≤ 6) (hH : HR pl sz ch bd) (hs : ∀ j, j < 6 → sh (50 * k + 28 + 3 * j) = plA j ∧ sh (50 * k + 28 + (3 * j + 1)) = szA j ∧ sh (50 * k + 28 + (3 * j + 2)) = chA j) :
    ∀ r j z, j + r = 6 → mDf2 nh k bd sh (3 * r) (3 * j) (nI z) = nI (z + (sF (uN pl plA nh nhA) r j + (sF (uN sz szA nh nhA) r j + sF (uN ch chA nh nhA) r j))) := by
  intro r
  induction r with
  | zero => intro j z _; rfl
  | succ r ih =>
    intro j z hj
    obtain ⟨s1, s2, s3⟩ := hs j (by omega)
    obtain ⟨b1, b2, b3⟩ := hH j (by omega)
    have q0 : nI (3 * j) / 3 = nI j := by
      have := pk_div (a := 3 * j) (d := 3) (by omega) (by decide) (by decide)
      rw [show 3 * j / 3 = j by omega] at this
      exact this
    have q1 : nI (3 * j + 1) / 3 = nI j := by
      have := pk_div (a := 3 * j + 1) (d := 3) (by omega) (by decide) (by decide)
      rw [show (3 * j + 1) / 3 = j by omega] at this
      exact this
    have q2 : nI (3 * j + 2) / 3 = nI j := by
      have := pk_div (a := 3 * j + 2) (d := 3) (by omega) (by decide) (by decide)
      rw [show (3 * j + 2) / 3 = j by omega] at this
      exact this
    have e1 : mUnlike (if nI nh ≤ nI j then 0 else 1) (if nI nhA ≤ nI j then 0 else 1) (if pl j = plA j then 1 else 0) = nI (uN pl plA nh nhA j) := unl_e (by omega) (by omega) (by omega)
    have e2 : mUnlike (if nI nh ≤ nI j then 0 else 1) (if nI nhA ≤ nI j then 0 else 1) (if sz j = szA j then 1 else 0) = nI (uN sz szA nh nhA j) := unl_e (by omega) (by omega) (by omega)
    have e3 : mUnlike (if nI nh ≤ nI j then 0 else 1) (if nI nhA ≤ nI j then 0 else 1) (if ch j = chA j then 1 else 0) = nI (uN ch chA nh nhA j) := unl_e (by omega) (by omega) (by omega)
    have u : mDf2 nh k bd sh (3 * r + 1 + 1 + 1) (3 * j) (nI z) = mDf2 nh k bd sh (3 * r) (3 * j + 1 + 1 + 1) (nI z + mUnlike (if nI nh ≤ nI (3 * j) / 3 then 0 else 1) (if sh (50 * k + 1) ≤ nI (3 * j) / 3 then 0 else 1) (if bd (3 * j) = sh (50 * k + 28 + 3 * j) then 1 else 0) + mUnlike (if nI nh ≤ nI (3 * j + 1) / 3 then 0 else 1) (if sh (50 * k + 1) ≤ nI (3 * j + 1) / 3 then 0 else 1) (if bd (3 * j + 1) = sh (50 * k + 28 + (3 * j + 1)) then 1 else 0) + mUnlike (if nI nh ≤ nI (3 * j + 2) / 3 then 0 else 1) (if sh (50 * k + 1) ≤ nI (3 * j + 2) / 3 then 0 else 1) (if bd (3 * j + 2) = sh (50 * k + 28 + (3 * j + 2)) then 1 else 0)) := rfl
    rw [show 3 * (r + 1) = 3 * r + 1 + 1 + 1 by omega, u, q0, q1, q2, h1, s1, s2, s3, b1, b2, b3, e1, e2, e3, nI_add, nI_add, nI_add, show 3 * j + 1 + 1 + 1 = 3 * (j + 1) by omega, ih (j + 1) _ (by omega), sF_s, sF_s, sF_s]
    congr 1
    omega
theorem dif_k {ln bo pl sz ch bd en sh lnA boA plA szA chA : Nat → Int32} {np nh npA nhA k : Nat} {mo fa moA faA : Int32} (h : PI ln bo pl sz ch np nh mo fa) (hH : HR pl sz ch bd) (he : en 0 = mo ∧ en 1 = fa) (h12 : npA ≤ 12) (h6 : nhA ≤ 6) (b0 : sh (50 * k) = nI npA) (b1 : sh (50 * k + 1) = nI nhA) (b2 : sh (50 * k + 2) = moA) (b3 : sh (50 * k + 3) = faA)
    (b4 : ∀ j, j < 12 → sh (50 * k + 4 + 2 * j) = lnA j ∧ sh (50 * k + 5 + 2 * j) = boA j) (b5 : ∀ j, j < 6 → sh (50 * k + 28 + 3 * j) = plA j ∧ sh (50 * k + 28 + (3 * j + 1)) = szA j ∧ sh (50 * k + 28 + (3 * j + 2)) = chA j) :
    mDf2 nh k bd sh 18 0 (mDf1 np k ln bo sh 12 0 ((if en 0 = sh (50 * k + 2) then 0 else 1) + (if en 1 = sh (50 * k + 3) then 0 else 1))) = fDiffs ln bo pl sz ch np nh mo fa lnA boA plA szA chA npA nhA moA faA := by
  have n12 := h.1
  have n6 := h.2.1
  have w : ∀ a b : Int32, ∃ n : Nat, (if a = b then (0 : Int32) else 1) = nI n := by
    intro a b
    by_cases c : a = b
    · exact ⟨0, if_pos c⟩
    · exact ⟨1, if_neg c⟩
  unfold fDiffs
  rw [he.1, he.2, b2, b3]
  obtain ⟨w1, e1⟩ := w mo moA
  obtain ⟨w2, e2⟩ := w fa faA
  rw [e1, e2, nI_add, df1_go b0 h12 n12 b4 12 0 _ rfl]
  have d2 := df2_go (k := k) b1 h6 n6 hH b5 6 0 (w1 + w2 + (sF (uN ln lnA np npA) 12 0 + sF (uN bo boA np npA) 12 0)) rfl
  rw [show 3 * 6 = 18 from rfl, show 3 * 0 = 0 from rfl] at d2
  rw [d2, row_e ln lnA n12 h12 (by decide), row_e bo boA n12 h12 (by decide), row_e pl plA n6 h6 (by decide), row_e sz szA n6 h6 (by decide), row_e ch chA n6 h6 (by decide), nI_add, nI_add, nI_add, nI_add, nI_add, nI_add]
  congr 1
  omega
theorem differs_p {ln bo pl sz ch bd en sh : Nat → Int32} {np nh : Nat} {mo fa : Int32} {ua ub moA faA moB faB : Int32} {npA nhA npB nhB : Nat} {lnA boA plA szA chA lnB boB plB szB chB : Nat → Int32} (h : PI ln bo pl sz ch np nh mo fa) (hH : HR pl sz ch bd) (he : en 0 = mo ∧ en 1 = fa) (hA : SR sh 0 ua lnA boA plA szA chA npA nhA moA faA) (hB : SR sh 1 ub lnB boB plB szB chB npB nhB moB faB) (x : Int32) :
    mDiffers x np nh en ln bo bd sh = xDf x ua ub (fDiffs ln bo pl sz ch np nh mo fa lnA boA plA szA chA npA nhA moA faA) (fDiffs ln bo pl sz ch np nh mo fa lnB boB plB szB chB npB nhB moB faB) := by
  unfold mDiffers xDf
  rw [r01]
  by_cases c : fIn x 0 1 = 0
  · rw [if_pos c, if_pos c]
  · rw [if_neg c, if_neg c]
    rcases fin01 c with e | e
    · subst e
      rw [c0_, if_pos rfl]
      obtain ⟨h12, h6, hA⟩ := hA
      rcases hA with ⟨a, b⟩ | ⟨a, p, b0, b1, b2, b3, b4, b5⟩
      · subst a
        rw [b, if_neg n0m1, if_pos rfl]
      · subst a
        rw [if_pos (by rw [b0]; exact nI_pos' (by omega)), if_neg d10]
        exact dif_k h hH he h12 h6 b0 b1 b2 b3 b4 b5
    · subst e
      rw [c1_, if_neg d10]
      obtain ⟨h12, h6, hB⟩ := hB
      rcases hB with ⟨a, b⟩ | ⟨a, p, b0, b1, b2, b3, b4, b5⟩
      · subst a
        rw [b, if_neg n0m1, if_pos rfl]
      · subst a
        rw [if_pos (by rw [b0]; exact nI_pos' (by omega)), if_neg d10]
        exact dif_k h hH he h12 h6 b0 b1 b2 b3 b4 b5
end OPD
