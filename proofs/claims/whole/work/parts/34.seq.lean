section SEQ
def sN (ln : Nat → Int32) : Nat → Nat
  | 0 => 0
  | k + 1 => sN ln k + (ln k).toNatClampNeg
def cN (f : Nat → Int32) (j : Nat) : Nat := (f j).toNatClampNeg
def LnOK (ln : Nat → Int32) (np : Nat) : Prop := np ≤ 12 ∧ ∀ j, j < np → ∃ k, 1 ≤ k ∧ k ≤ 400 ∧ ln j = nI k
theorem LnOK.at {ln : Nat → Int32} {np j : Nat} (h : LnOK ln np) (hj : j < np) : ln j = nI (ln j).toNatClampNeg ∧ 1 ≤ (ln j).toNatClampNeg ∧ (ln j).toNatClampNeg ≤ 400 := by
  obtain ⟨k, h1, h2, e⟩ := h.2 j hj
  have c : (ln j).toNatClampNeg = k := by rw [e, nI_clamp (by omega)]
  rw [c]; exact ⟨e, h1, h2⟩
theorem sN_s (ln : Nat → Int32) (k : Nat) : sN ln (k + 1) = sN ln k + (ln k).toNatClampNeg := rfl
theorem sN_le {ln : Nat → Int32} {np : Nat} (h : LnOK ln np) : ∀ k, k ≤ np → sN ln k ≤ 400 * k := by
  intro k
  induction k with
  | zero => intro _; exact Nat.le_refl _
  | succ k ih =>
    intro hk
    have h1 := ih (by omega)
    have h2 := h.at (j := k) (by omega)
    rw [sN_s]; omega
theorem sN_b {ln : Nat → Int32} {np k : Nat} (h : LnOK ln np) (hk : k ≤ np) : sN ln k ≤ 4800 := by
  have h1 := sN_le h k hk
  have h2 := h.1
  omega
theorem sN_lt {ln : Nat → Int32} {np : Nat} (h : LnOK ln np) : ∀ d i, i + d + 1 ≤ np → sN ln i < sN ln (i + d + 1) := by
  intro d
  induction d with
  | zero =>
    intro i hi
    have h2 := h.at (j := i) (by omega)
    rw [Nat.add_zero, sN_s]; omega
  | succ d ih =>
    intro i hi
    have h1 := ih i (by omega)
    have h2 := h.at (j := i + d + 1) (by omega)
    rw [show i + (d + 1) + 1 = (i + d + 1) + 1 from by omega, sN_s]; omega
theorem sN_mono {ln : Nat → Int32} {np i j : Nat} (h : LnOK ln np) (hij : i < j) (hj : j ≤ np) : sN ln i < sN ln j := by
  have := sN_lt h (j - i - 1) i (by omega)
  rwa [show i + (j - i - 1) + 1 = j from by omega] at this
theorem sN_mle {ln : Nat → Int32} {np i j : Nat} (h : LnOK ln np) (hij : i ≤ j) (hj : j ≤ np) : sN ln i ≤ sN ln j := by
  rcases Nat.lt_or_ge i j with q | q
  · exact Nat.le_of_lt (sN_mono h q hj)
  · rw [Nat.le_antisymm hij q]; exact Nat.le_refl _
theorem fSum_e {ln : Nat → Int32} {np : Nat} (h : LnOK ln np) : ∀ k, k ≤ np → fSum ln k 0 0 = nI (sN ln k) := by
  intro k
  induction k with
  | zero => intro _; exact nI_0.symm
  | succ k ih =>
    intro hk
    have h2 := (h.at (j := k) (by omega)).1
    rw [fSum_last, ih (by omega), sN_s]
    generalize (ln k).toNatClampNeg = q at h2 ⊢
    rw [h2, nI_add]
theorem sN_add {ln : Nat → Int32} {np i : Nat} (h : LnOK ln np) (hi : i < np) : nI (sN ln i) + ln i = nI (sN ln (i + 1)) := by
  have h2 := (h.at (j := i) hi).1
  rw [sN_s]
  generalize (ln i).toNatClampNeg = q at h2 ⊢
  rw [h2, nI_add]
theorem piece_go {ln : Nat → Int32} {np n : Nat} (h : LnOK ln np) (hn : n ≤ sN ln np) : ∀ r i, i + (r + 1) = np → (i = 0 ∨ sN ln i < n) →
    ∃ k, k < np ∧ fPieceAt ln (nI n) (r + 1) i (nI (sN ln i)) = nI k ∧ mPieceOf ln (nI n) r i (nI (sN ln (i + 1))) = nI k ∧ n ≤ sN ln (k + 1) ∧ (k = 0 ∨ sN ln k < n) := by
  have hb := sN_b h (Nat.le_refl np)
  intro r
  induction r with
  | zero =>
    intro i hi h0
    have hi2 : i + 1 = np := by omega
    refine ⟨i, by omega, ?_, rfl, by rw [hi2]; exact hn, h0⟩
    rw [fPieceAt, sN_add h (by omega), hi2, if_neg (nI_nlt hn (by omega))]
  | succ r ih =>
    intro i hi h0
    have hb2 := sN_b h (k := i + 1) (by omega)
    by_cases c : sN ln (i + 1) < n
    · obtain ⟨k, h1, h2, h3, h4⟩ := ih (i + 1) (by omega) (Or.inr c)
      refine ⟨k, h1, ?_, ?_, h4⟩
      · rw [fPieceAt, sN_add h (by omega), if_pos (nI_lt c (by omega))]; exact h2
      · rw [mPieceOf, if_neg (nI_ge c (by omega)), sN_add h (by omega)]; exact h3
    · refine ⟨i, by omega, ?_, ?_, by omega, h0⟩
      · rw [fPieceAt, sN_add h (by omega), if_neg (nI_nlt (by omega) (by omega))]
      · rw [mPieceOf, if_pos (nI_le (by omega) (by omega))]
theorem piece_e {ln : Nat → Int32} {np n : Nat} (h : LnOK ln np) (h1 : 1 ≤ np) (hn : n ≤ sN ln np) :
    ∃ k, k < np ∧ fPieceAt ln (nI n) np 0 0 = nI k ∧ mPieceOf ln (nI n) (np - 1) 0 (ln 0) = nI k ∧ n ≤ sN ln (k + 1) ∧ (k = 0 ∨ sN ln k < n) := by
  obtain ⟨k, a, b, c, d⟩ := piece_go h hn (np - 1) 0 (by omega) (Or.inl rfl)
  rw [show np - 1 + 1 = np from by omega] at b
  have e := sN_add h (i := 0) (by omega)
  have z : nI (sN ln 0) = 0 := nI_0
  rw [z] at b
  rw [z, Int32.zero_add] at e
  rw [← e] at c
  exact ⟨k, a, b, c, d⟩
def HoOK (pl : Nat → Int32) (nh T : Nat) : Prop := nh ≤ 6 ∧ ∀ j, j < nh → ∃ k, 1 ≤ k ∧ k < T ∧ k ≤ 4800 ∧ pl j = nI k
theorem HoOK.at {pl : Nat → Int32} {nh T j : Nat} (h : HoOK pl nh T) (hj : j < nh) : pl j = nI (cN pl j) ∧ 1 ≤ cN pl j ∧ cN pl j < T ∧ cN pl j ≤ 4800 := by
  obtain ⟨k, h1, h2, h3, e⟩ := h.2 j hj
  have c : cN pl j = k := by unfold cN; rw [e, nI_clamp (by omega)]
  rw [c]; exact ⟨e, h1, h2, h3⟩
/-- the point next below n -/
def IsPv (ln pl : Nat → Int32) (np nh n m : Nat) : Prop := (m < n ∨ m = 0) ∧ (m = 0 ∨ (∃ j, j ≤ np ∧ m = sN ln j) ∨ ∃ j, j < nh ∧ m = cN pl j) ∧ (∀ j, j ≤ np → sN ln j < n → sN ln j ≤ m) ∧ (∀ j, j < nh → cN pl j < n → cN pl j ≤ m)
theorem IsPv.le {ln pl : Nat → Int32} {np nh n m k : Nat} (h : IsPv ln pl np nh n m) (h' : IsPv ln pl np nh n k) : m ≤ k := by
  obtain ⟨a, b, -, -⟩ := h
  obtain ⟨-, -, c, d⟩ := h'
  rcases Nat.eq_zero_or_pos m with z | z
  · omega
  · rcases b with b | ⟨j, hj, e⟩ | ⟨j, hj, e⟩
    · omega
    · rw [e]; exact c j hj (by omega)
    · rw [e]; exact d j hj (by omega)
theorem IsPv.eq {ln pl : Nat → Int32} {np nh n m k : Nat} (h : IsPv ln pl np nh n m) (h' : IsPv ln pl np nh n k) : m = k := Nat.le_antisymm (h.le h') (h'.le h)
theorem nx1_go {ln : Nat → Int32} {np n : Nat} (h : LnOK ln np) (hn : n ≤ 4800) : ∀ r i B, i + r = np → B ≤ 4800 → (B < n ∨ B = 0) → (B = 0 ∨ ∃ j, j ≤ np ∧ B = sN ln j) → (∀ j, j ≤ i → sN ln j < n → sN ln j ≤ B) →
    ∃ m, mNx1 ln (nI n) r i (nI B) (nI (sN ln i)) = nI m ∧ m ≤ 4800 ∧ (m < n ∨ m = 0) ∧ (m = 0 ∨ ∃ j, j ≤ np ∧ m = sN ln j) ∧ ∀ j, j ≤ np → sN ln j < n → sN ln j ≤ m := by
  intro r
  induction r with
  | zero =>
    intro i B hi hB h1 h2 h3
    obtain rfl : i = np := by omega
    exact ⟨B, rfl, hB, h1, h2, h3⟩
  | succ r ih =>
    intro i B hi hB h1 h2 h3
    have hb := sN_b h (k := i + 1) (by omega)
    rw [mNx1, sN_add h (by omega)]
    by_cases c : n ≤ sN ln (i + 1)
    · rw [if_pos (nI_le c (by omega))]
      refine ih (i + 1) B (by omega) hB h1 h2 ?_
      intro j hj hl
      rcases Nat.lt_or_ge i j with q | q
      · have : j = i + 1 := by omega
        subst this; omega
      · exact h3 j q hl
    · rw [if_neg (nI_ge (by omega) (by omega))]
      by_cases c2 : sN ln (i + 1) ≤ B
      · rw [if_pos (nI_le c2 (by omega))]
        refine ih (i + 1) B (by omega) hB h1 h2 ?_
        intro j hj hl
        rcases Nat.lt_or_ge i j with q | q
        · have : j = i + 1 := by omega
          subst this; omega
        · exact h3 j q hl
      · rw [if_neg (nI_ge (by omega) (by omega))]
        refine ih (i + 1) (sN ln (i + 1)) (by omega) hb (by omega) (Or.inr ⟨i + 1, by omega, rfl⟩) ?_
        intro j hj hl
        exact sN_mle h hj (by omega)
theorem nx2_go {pl bd : Nat → Int32} {nh T n : Nat} (h : HoOK pl nh T) (hH : ∀ j, j < 6 → bd (3 * j) = pl j) : ∀ r i B, i + r = nh → n ≤ 4800 → B ≤ 4800 → (B < n ∨ B = 0) →
    ∃ m, mNx2 bd (nI n) r i (nI B) = nI m ∧ m ≤ 4800 ∧ (m < n ∨ m = 0) ∧ (m = B ∨ ∃ j, j < nh ∧ m = cN pl j) ∧ B ≤ m ∧ ∀ j, i ≤ j → j < nh → cN pl j < n → cN pl j ≤ m := by
  intro r
  induction r with
  | zero =>
    intro i B hi hn hB h1
    exact ⟨B, rfl, hB, h1, Or.inl rfl, Nat.le_refl _, fun j a b => by omega⟩
  | succ r ih =>
    intro i B hi hn hB h1
    have h6 := h.1
    obtain ⟨e, p1, p2, p3⟩ := h.at (j := i) (by omega)
    have eb : bd (3 * i) = nI (cN pl i) := by rw [hH i (by omega), ← e]
    rw [mNx2, eb]
    have key : ∀ B', B' ≤ 4800 → (B' < n ∨ B' = 0) → B ≤ B' → (B' = B ∨ ∃ j, j < nh ∧ B' = cN pl j) → (cN pl i < n → cN pl i ≤ B') → ∃ m, mNx2 bd (nI n) r (i + 1) (nI B') = nI m ∧ m ≤ 4800 ∧ (m < n ∨ m = 0) ∧ (m = B ∨ ∃ j, j < nh ∧ m = cN pl j) ∧ B ≤ m ∧ ∀ j, i ≤ j → j < nh → cN pl j < n → cN pl j ≤ m := by
      intro B' q1 q2 q3 q4 q5
      obtain ⟨m, a1, a2, a3, a4, a5, a6⟩ := ih (i + 1) B' (by omega) hn q1 q2
      refine ⟨m, a1, a2, a3, ?_, by omega, ?_⟩
      · rcases a4 with a4 | a4
        · rw [a4]; exact q4
        · exact Or.inr a4
      · intro j b1 b2 b3
        rcases Nat.lt_or_ge i j with q | q
        · exact a6 j q b2 b3
        · have : j = i := by omega
          subst this
          have := q5 b3
          omega
    by_cases c : n ≤ cN pl i
    · rw [if_pos (nI_le c (by omega))]
      exact key B hB h1 (Nat.le_refl _) (Or.inl rfl) (fun q => by omega)
    · rw [if_neg (nI_ge (by omega) (by omega))]
      by_cases c2 : cN pl i ≤ B
      · rw [if_pos (nI_le c2 (by omega))]
        exact key B hB h1 (Nat.le_refl _) (Or.inl rfl) (fun _ => c2)
      · rw [if_neg (nI_ge (by omega) (by omega))]
        exact key (cN pl i) p3 (by omega) (by omega) (Or.inr ⟨i, by omega, rfl⟩) (fun _ => Nat.le_refl _)
theorem last_go {pl : Nat → Int32} {nh T n : Nat} (h : HoOK pl nh T) : ∀ r i B, i + r = nh → n ≤ 4800 → B ≤ 4800 → (B < n ∨ B = 0) →
    ∃ m, fLast pl (nI n) r i (nI B) = nI m ∧ m ≤ 4800 ∧ (m < n ∨ m = 0) ∧ (m = B ∨ ∃ j, j < nh ∧ m = cN pl j) ∧ B ≤ m ∧ ∀ j, i ≤ j → j < nh → cN pl j < n → cN pl j ≤ m := by
  intro r
  induction r with
  | zero =>
    intro i B hi hn hB h1
    exact ⟨B, rfl, hB, h1, Or.inl rfl, Nat.le_refl _, fun j a b => by omega⟩
  | succ r ih =>
    intro i B hi hn hB h1
    have h6 := h.1
    obtain ⟨e, p1, p2, p3⟩ := h.at (j := i) (by omega)
    rw [fLast]
    have key : ∀ B', B' ≤ 4800 → (B' < n ∨ B' = 0) → B ≤ B' → (B' = B ∨ ∃ j, j < nh ∧ B' = cN pl j) → (cN pl i < n → cN pl i ≤ B') → ∃ m, fLast pl (nI n) r (i + 1) (nI B') = nI m ∧ m ≤ 4800 ∧ (m < n ∨ m = 0) ∧ (m = B ∨ ∃ j, j < nh ∧ m = cN pl j) ∧ B ≤ m ∧ ∀ j, i ≤ j → j < nh → cN pl j < n → cN pl j ≤ m := by
      intro B' q1 q2 q3 q4 q5
      obtain ⟨m, a1, a2, a3, a4, a5, a6⟩ := ih (i + 1) B' (by omega) hn q1 q2
      refine ⟨m, a1, a2, a3, ?_, by omega, ?_⟩
      · rcases a4 with a4 | a4
        · rw [a4]; exact q4
        · exact Or.inr a4
      · intro j b1 b2 b3
        rcases Nat.lt_or_ge i j with q | q
        · exact a6 j q b2 b3
        · have : j = i := by omega
          subst this
          have := q5 b3
          omega
    generalize hc : cN pl i = q at e p1 p2 p3 key
    rw [e]
    by_cases c : n ≤ q
    · rw [if_pos (nI_le c (by omega))]
      exact key B hB h1 (Nat.le_refl _) (Or.inl rfl) (fun q => by omega)
    · rw [if_neg (nI_ge (by omega) (by omega))]
      by_cases c2 : B < q
      · rw [if_pos (nI_lt c2 (by omega))]
        exact key q p3 (by omega) (by omega) (Or.inr ⟨i, by omega, hc.symm⟩) (fun _ => Nat.le_refl _)
      · rw [if_neg (nI_nlt (by omega) (by omega))]
        exact key B hB h1 (Nat.le_refl _) (Or.inl rfl) (fun _ => by omega)
theorem next_m {ln pl bd : Nat → Int32} {np nh T n : Nat} (h : LnOK ln np) (hh : HoOK pl nh T) (hH : ∀ j, j < 6 → bd (3 * j) = pl j) (hn : n ≤ 4800) :
    ∃ m, mNext ln bd np nh (nI n) = nI m ∧ m ≤ 4800 ∧ IsPv ln pl np nh n m := by
  obtain ⟨B, b1, b2, b3, b4, b5⟩ := nx1_go h hn np 0 0 (by omega) (by omega) (Or.inr rfl) (Or.inl rfl) (fun j hj _ => by
    have : j = 0 := by omega
    subst this; exact Nat.le_refl _)
  have z : nI (sN ln 0) = 0 := nI_0
  rw [nI_0, z] at b1
  obtain ⟨m, c1, c2, c3, c4, c5, c6⟩ := nx2_go hh hH nh 0 B (by omega) hn b2 b3
  refine ⟨m, ?_, c2, c3, ?_, ?_, ?_⟩
  · unfold mNext; rw [b1]; exact c1
  · rcases c4 with c4 | c4
    · rw [c4]
      rcases b4 with b4 | b4
      · exact Or.inl b4
      · exact Or.inr (Or.inl b4)
    · exact Or.inr (Or.inr c4)
  · intro j hj hl
    have := b5 j hj hl
    omega
  · intro j hj hl
    exact c6 j (Nat.zero_le _) hj hl
theorem prev_x {ln pl : Nat → Int32} {np nh n : Nat} (h : LnOK ln np) (hh : HoOK pl nh (sN ln np)) (hn : n ≤ sN ln np) :
    ∃ m, xPrev ln pl np nh (nI n) = nI m ∧ m ≤ 4800 ∧ IsPv ln pl np nh n m := by
  have hT := sN_b h (Nat.le_refl np)
  rcases Nat.eq_zero_or_pos np with z | z
  · subst z
    have n0 : n = 0 := Nat.le_zero.mp hn
    subst n0
    have h0 : nh = 0 := by
      rcases Nat.eq_zero_or_pos nh with q | q
      · exact q
      · have := (hh.at q).2.2.1
        exact absurd this (by show ¬ _ < 0; omega)
    subst h0
    exact ⟨0, rfl, by omega, Or.inr rfl, Or.inl rfl, fun j hj hl => absurd hl (Nat.not_lt_zero _), fun j hj => absurd hj (Nat.not_lt_zero _)⟩
  · obtain ⟨k, k1, k2, -, k4, k5⟩ := piece_e h z hn
    obtain ⟨L, c1, c2, c3, c4, -, c6⟩ := last_go (n := n) hh nh 0 0 (by omega) (by omega) (by omega) (Or.inr rfl)
    have h12 := h.1
    have hk := sN_b h (k := k) (by omega)
    rw [nI_0] at c1
    unfold xPrev
    rw [k2, nI_clamp (by omega), fSum_e h k (by omega), c1]
    have pts : ∀ j, j ≤ np → sN ln j < n → sN ln j ≤ sN ln k := by
      intro j hj hl
      rcases Nat.lt_or_ge k j with q | q
      · have := sN_mle h (i := k + 1) (j := j) q hj
        omega
      · exact sN_mle h q (by omega)
    have k6 : sN ln k < n ∨ sN ln k = 0 := by
      rcases k5 with k5 | k5
      · subst k5; exact Or.inr rfl
      · exact Or.inl k5
    by_cases c : sN ln k < L
    · rw [if_pos (nI_lt c (by omega))]
      refine ⟨L, rfl, c2, c3, ?_, ?_, ?_⟩
      · rcases c4 with c4 | c4
        · exact Or.inl c4
        · exact Or.inr (Or.inr c4)
      · intro j hj hl
        have := pts j hj hl
        omega
      · intro j hj hl
        exact c6 j (Nat.zero_le _) hj hl
    · rw [if_neg (nI_nlt (by omega) (by omega))]
      refine ⟨sN ln k, rfl, by omega, k6, Or.inr (Or.inl ⟨k, by omega, rfl⟩), pts, ?_⟩
      intro j hj hl
      have := c6 j (Nat.zero_le _) hj hl
      omega
/-- the sequence of the points, the same on both sides -/
theorem seq_e {ln pl bd : Nat → Int32} {np nh : Nat} (h : LnOK ln np) (hh : HoOK pl nh (sN ln np)) (hH : ∀ j, j < 6 → bd (3 * j) = pl j) :
    ∀ i, ∃ n, n ≤ sN ln np ∧ seqX ln pl np nh i = nI n ∧ seqM ln bd np nh i = nI n ∧ ∃ m, IsPv ln pl np nh n m ∧ seqX ln pl np nh (i + 1) = nI m := by
  have hT := sN_b h (Nat.le_refl np)
  have st : ∀ i n, n ≤ sN ln np → seqX ln pl np nh i = nI n → seqM ln bd np nh i = nI n → ∃ m, IsPv ln pl np nh n m ∧ seqX ln pl np nh (i + 1) = nI m ∧ seqM ln bd np nh (i + 1) = nI m := by
    intro i n hn ex em
    obtain ⟨m, a1, a2, a3⟩ := prev_x h hh hn
    obtain ⟨m', b1, b2, b3⟩ := next_m (n := n) h hh hH (by omega)
    have e := a3.eq b3
    subst e
    refine ⟨m, a3, ?_, ?_⟩
    · show xPrev ln pl np nh (seqX ln pl np nh i) = _
      rw [ex]; exact a1
    · show mNext ln bd np nh (seqM ln bd np nh i) = _
      rw [em]; exact b1
  intro i
  induction i with
  | zero =>
    have e : fSum ln np 0 0 = nI (sN ln np) := fSum_e h np (Nat.le_refl _)
    obtain ⟨m, a, b, -⟩ := st 0 (sN ln np) (Nat.le_refl _) e e
    exact ⟨sN ln np, Nat.le_refl _, e, e, m, a, b⟩
  | succ i ih =>
    obtain ⟨n, hn, ex, em, -⟩ := ih
    obtain ⟨m, a, b, c⟩ := st i n hn ex em
    have hm : m ≤ sN ln np := by
      rcases a.1 with q | q <;> omega
    obtain ⟨m', a', b', -⟩ := st (i + 1) m hm b c
    exact ⟨m, hm, b, c, m', a', b'⟩
def kt (p : Nat → Bool) : Nat → Nat
  | 0 => 0
  | n + 1 => kt p n + (if p n = true then 1 else 0)
theorem kt_s (p : Nat → Bool) (n : Nat) : kt p (n + 1) = kt p n + (if p n = true then 1 else 0) := rfl
theorem kt_b (p : Nat → Bool) : ∀ n, kt p n ≤ n := by
  intro n
  induction n with
  | zero => exact Nat.le_refl _
  | succ n ih => rw [kt_s]; split <;> omega
theorem kt_le {p q : Nat → Bool} : ∀ n, (∀ k, k < n → p k = true → q k = true) → kt p n ≤ kt q n := by
  intro n
  induction n with
  | zero => intro _; exact Nat.le_refl _
  | succ n ih =>
    intro h
    have h1 := ih (fun k hk => h k (by omega))
    have h2 := h n (by omega)
    rw [kt_s, kt_s]
    by_cases c : p n = true
    · rw [if_pos c, if_pos (h2 c)]; omega
    · rw [if_neg c]; split <;> omega
theorem kt_lt {p q : Nat → Bool} : ∀ n, (∀ k, k < n → p k = true → q k = true) → (∃ k, k < n ∧ q k = true ∧ ¬ p k = true) → kt p n + 1 ≤ kt q n := by
  intro n
  induction n with
  | zero => intro _ ⟨k, hk, _⟩; exact absurd hk (Nat.not_lt_zero _)
  | succ n ih =>
    intro h ⟨k, hk, hq, hp⟩
    have h2 := h n (by omega)
    rw [kt_s, kt_s]
    rcases Nat.lt_or_ge k n with c | c
    · have h1 := ih (fun k hk => h k (by omega)) ⟨k, c, hq, hp⟩
      by_cases c : p n = true
      · rw [if_pos c, if_pos (h2 c)]; omega
      · rw [if_neg c]; split <;> omega
    · obtain rfl : k = n := by omega
      have h1 := kt_le k (fun j hj => h j (by omega))
      rw [if_pos hq, if_neg hp]; omega
/-- how many points lie below n -/
def cPt (ln pl : Nat → Int32) (np nh n : Nat) : Nat := kt (fun j => decide (sN ln (j + 1) < n)) (np - 1) + kt (fun j => decide (cN pl j < n)) nh
theorem cPt_lt {ln pl : Nat → Int32} {np nh n m : Nat} (h : LnOK ln np) (hn : n ≤ sN ln np) (hv : IsPv ln pl np nh n m) (hm : 0 < m) : cPt ln pl np nh m + 1 ≤ cPt ln pl np nh n := by
  obtain ⟨a, b, -, -⟩ := hv
  have hmn : m < n := by omega
  have s1 : ∀ k, k < np - 1 → decide (sN ln (k + 1) < m) = true → decide (sN ln (k + 1) < n) = true := fun k _ q => decide_eq_true (Nat.lt_trans (of_decide_eq_true q) hmn)
  have s2 : ∀ k, k < nh → decide (cN pl k < m) = true → decide (cN pl k < n) = true := fun k _ q => decide_eq_true (Nat.lt_trans (of_decide_eq_true q) hmn)
  have t1 := kt_le (np - 1) s1
  have t2 := kt_le nh s2
  unfold cPt
  rcases b with b | ⟨j, hj, e⟩ | ⟨j, hj, e⟩
  · omega
  · have hj0 : j ≠ 0 := by
      intro q; subst q
      have : sN ln 0 = 0 := rfl
      omega
    have hjn : j < np := by
      rcases Nat.lt_or_ge j np with q | q
      · exact q
      · have : j = np := by omega
        subst this; omega
    have t3 := kt_lt (np - 1) s1 ⟨j - 1, by omega, by
      apply decide_eq_true
      rw [show j - 1 + 1 = j from by omega]; omega, by
      intro q
      have := of_decide_eq_true q
      rw [show j - 1 + 1 = j from by omega] at this; omega⟩
    omega
  · have t3 := kt_lt nh s2 ⟨j, hj, decide_eq_true (by omega), fun q => by
      have := of_decide_eq_true q
      omega⟩
    omega
theorem seq_cnt {ln pl bd : Nat → Int32} {np nh : Nat} (h : LnOK ln np) (hh : HoOK pl nh (sN ln np)) (hH : ∀ j, j < 6 → bd (3 * j) = pl j) :
    ∀ i, ∃ n, n ≤ sN ln np ∧ seqM ln bd np nh i = nI n ∧ (n = 0 ∨ cPt ln pl np nh n + i ≤ 17) := by
  have hT := sN_b h (Nat.le_refl np)
  have h12 := h.1
  have h6 := hh.1
  intro i
  induction i with
  | zero =>
    refine ⟨sN ln np, Nat.le_refl _, fSum_e h np (Nat.le_refl _), ?_⟩
    rcases Nat.eq_zero_or_pos np with z | z
    · subst z; exact Or.inl rfl
    · right
      have t1 := kt_b (fun j => decide (sN ln (j + 1) < sN ln np)) (np - 1)
      have t2 := kt_b (fun j => decide (cN pl j < sN ln np)) nh
      unfold cPt
      omega
  | succ i ih =>
    obtain ⟨n, hn, e, hc⟩ := ih
    obtain ⟨m, b1, b2, b3⟩ := next_m (n := n) h hh hH (by omega)
    have hm : m ≤ sN ln np := by rcases b3.1 with q | q <;> omega
    refine ⟨m, hm, ?_, ?_⟩
    · show mNext ln bd np nh (seqM ln bd np nh i) = _
      rw [e]; exact b1
    · rcases Nat.eq_zero_or_pos m with z | z
      · exact Or.inl z
      · right
        have := cPt_lt h hn b3 z
        rcases b3.1 with q | q
        · rcases hc with hc | hc <;> omega
        · omega
theorem seq18 {ln pl bd : Nat → Int32} {np nh : Nat} (h : LnOK ln np) (hh : HoOK pl nh (sN ln np)) (hH : ∀ j, j < 6 → bd (3 * j) = pl j) : seqM ln bd np nh 18 ≤ 0 := by
  obtain ⟨n, hn, e, hc⟩ := seq_cnt h hh hH 18
  rw [e]
  have : n = 0 := by omega
  subst this
  decide
theorem seq_le {ln pl bd : Nat → Int32} {np nh : Nat} (h : LnOK ln np) (hh : HoOK pl nh (sN ln np)) (hH : ∀ j, j < 6 → bd (3 * j) = pl j) (i : Nat) : seqM ln bd np nh i ≤ fSum ln np 0 0 := by
  obtain ⟨n, hn, e, -⟩ := seq_cnt h hh hH i
  have hT := sN_b h (Nat.le_refl np)
  rw [e, fSum_e h np (Nat.le_refl _)]
  exact nI_le hn (by omega)
end SEQ
