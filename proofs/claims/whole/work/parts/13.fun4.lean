section FUN4
def MH (ln bo bd : Nat → Int32) (np nh : Nat) : Prop := seqM ln bd np nh 18 ≤ 0 ∧ (∀ i, seqM ln bd np nh i ≤ fSum ln np 0 0) ∧ (∀ j, j < np → ¬ (bo j).toInt64 * (bo j).toInt64 = 0) ∧ (∀ f j, 1 ≤ f → f ≤ 300 → j < nh → ¬ 25 * ((bd (3 * j + 1)).toInt64 + (bd (3 * j + 2)).toInt64) * (nI f).toInt64 = 0)
theorem nI_n0 {n : Nat} (h : ¬ nI n = 0) : 1 ≤ n := by
  rcases Nat.eq_zero_or_pos n with h0 | h0
  · subst h0; exact absurd nI_0 h
  · exact h0
theorem nI_2le {n : Nat} (h : 2 ≤ nI n) (hn : n < 2147483648) : ¬ n < 2 := by
  intro h2
  exact nI_ge (a := n) (b := 2) h2 (by decide) h
def mTone (w : Int32 → Int64) (k : Int32) : Nat → Nat → Int32 → Int32 → Int32 × Int32
  | 0, _, z, _ => (-1, z)
  | r + 1, i, z, y => if y = fAb (w (nI (i + 1))) then mTone w k r (i + 1) z (fAb (w (nI (i + 1)))) else if z = k then (nI i, z) else mTone w k r (i + 1) (z + 1) (fAb (w (nI (i + 1))))
def mToneOf (w : Int32 → Int64) (k : Int32) (np : Nat) : Int32 × Int32 := if nI np = 0 then (-1, 0) else mTone w k 299 1 0 (fAb (w 1))
def mMiss (f w : Int32) : Int32 := if 0 ≤ f then (if 0 ≤ f - w then f - w else -(f - w)) else 300
def mMissK (ln bo bd : Nat → Int32) (np nh : Nat) (e0 e1 : Int32) (ns nw nt : Nat → Int32) (k : Nat) : Int32 := mMiss (mToneOf (mWorth ln bo bd np nh e0 e1 (ns k)) (nw k) np).1 (nt k)
def mGr (mk : Nat → Int32) : Nat → Nat → Int32 → Int32
  | 0, _, z => z
  | r + 1, i, z => mGr mk r (i + 1) (if mk i ≤ z then z else mk i)
def mSu (mk : Nat → Int32) : Nat → Nat → Int32 → Int32
  | 0, _, z => z
  | r + 1, i, z => mSu mk r (i + 1) (z + mk i)
def mBa (mk : Nat → Int32) : Nat → Nat → Int32 → Int32 → Int32
  | 0, _, z, y => 10000 * z + y
  | r + 1, i, z, y => mBa mk r (i + 1) (if mk i ≤ z then z else mk i) (y + mk i)
theorem mBeside_go (bd : Nat → Int32) (k : Nat) (w : Int32) (N : Nat) : ∀ (r i : Nat) (z : Int32), i + r = N → (z = -1 ∨ ∃ j, j < N ∧ z = nI j) → (mBeside bd k w r i z = -1 ∨ ∃ j, j < N ∧ mBeside bd k w r i z = nI j) := by
  intro r
  induction r with
  | zero => intro i z _ h; exact h
  | succ r ih =>
    intro i z hi h
    have hn : (nI i = -1 ∨ ∃ j, j < N ∧ nI i = nI j) := Or.inr ⟨i, by omega, rfl⟩
    unfold mBeside
    split
    · exact ih (i + 1) _ (by omega) h
    · split
      · exact ih (i + 1) _ (by omega) hn
      · split
        · exact ih (i + 1) _ (by omega) h
        · exact ih (i + 1) _ (by omega) hn
theorem mBeside_nat {bd : Nat → Int32} {k : Nat} {w : Int32} {nh : Nat} (h6 : nh ≤ 6) (h : ¬ mBeside bd k w nh 0 (-1) < 0) : ∃ j, j < 6 ∧ mBeside bd k w nh 0 (-1) = nI j := by
  rcases mBeside_go bd k w nh nh 0 (-1) (by omega) (Or.inl rfl) with h1 | ⟨j, h1, h2⟩
  · rw [h1] at h; exact absurd (by decide) h
  · exact ⟨j, by omega, h2⟩
def mMay (ln bd : Nat → Int32) (np nh : Nat) (re : Int32) (k : Nat) (v : Int32) : Int32 :=
  if mFits 0 v (fSum ln np 0 0) = 0 then 0 else if mHoleAt bd v nh 0 (-1) < 0 then
    (if 0 ≤ mBeside bd k (v - bd (3 * k)) nh 0 (-1) then
      (if mBD bd k (v - bd (3 * k)) (mBeside bd k (v - bd (3 * k)) nh 0 (-1)).toNatClampNeg < re then 1 else if mBD bd k (v - bd (3 * k)) (mBeside bd k (v - bd (3 * k)) nh 0 (-1)).toNatClampNeg - 1 < re then 0 else 1) else 1) else 0
def mSz (v y : Int32) : Nat → Int32
  | 0 => v + y
  | i + 1 => mSz v y i + y
theorem fInL_vp {x : Int32} (h : ¬ fInL x.toInt64 1 60 = 0) : vp_in x 61 := by
  unfold fInL at h
  by_cases h1 : x.toInt64 < 1
  · rw [if_pos h1] at h; exact absurd rfl h
  · rw [if_neg h1] at h
    by_cases h2 : (60 : Int64) < x.toInt64
    · rw [if_pos h2] at h; exact absurd rfl h
    · have c1 : (1 : Int64).toInt = 1 := by decide
      have c2 : (60 : Int64).toInt = 60 := by decide
      rw [Int64.lt_iff_toInt_lt, Int32.toInt_toInt64, c1] at h1
      rw [Int64.lt_iff_toInt_lt, Int32.toInt_toInt64, c2] at h2
      exact vp_in_iff.mpr ⟨by omega, by omega⟩
def mStep (v y : Int32) (db : Nat → Int32) : Nat → Nat → Int32
  | 0, _ => -1
  | r + 1, i => if fInL (mSz v y i).toInt64 1 60 = 0 then -1 else if db (mSz v y i).toNatClampNeg = 0 then mStep v y db r (i + 1) else mSz v y i
def mMoved (ln bd db : Nat → Int32) (np nh : Nat) (re : Int32) (k mv : Nat) : Int32 :=
  if 2 ≤ nI mv then mStep (bd (3 * k + mv / 2)) (if nI mv = 2 then 1 else -1) db 60 0
  else if mMay ln bd np nh re k (if nI mv = 0 then bd (3 * k + mv / 2) + 1 else bd (3 * k + mv / 2) - 1) = 0 then -1 else (if nI mv = 0 then bd (3 * k + mv / 2) + 1 else bd (3 * k + mv / 2) - 1)
end FUN4
