section FUN5
theorem fInL_rng {x : Int32} {A B : Int64} {a b : Nat} (h : ¬ fInL x.toInt64 A B = 0) (hA : A.toInt = a) (hB : B.toInt = b) : ∃ k : Nat, a ≤ k ∧ k ≤ b ∧ x = nI k := by
  unfold fInL at h
  by_cases h1 : x.toInt64 < A
  · rw [if_pos h1] at h; exact absurd rfl h
  · rw [if_neg h1] at h
    by_cases h2 : B < x.toInt64
    · rw [if_pos h2] at h; exact absurd rfl h
    · rw [Int64.lt_iff_toInt_lt, Int32.toInt_toInt64, hA] at h1
      rw [Int64.lt_iff_toInt_lt, Int32.toInt_toInt64, hB] at h2
      have h0 : ¬ x < 0 := by
        rw [Int32.lt_iff_toInt_lt]
        have : (0 : Int32).toInt = 0 := by decide
        omega
      obtain ⟨j, hj, rfl⟩ := nI_of h0
      rw [nI_toInt hj] at h1 h2
      exact ⟨j, by omega, by omega, rfl⟩
theorem nI_pred_toInt {n : Nat} (hn : n < 2147483648) : (nI n - 1).toInt = (n : Int) - 1 := by
  have h1 : (1 : Int32).toInt = 1 := by decide
  rw [Int32.toInt_sub, nI_toInt hn, h1, Int.bmod_eq_of_le_mul_two (by omega) (by omega)]
theorem fInL_hole {x : Int32} {nh : Nat} (h : ¬ fInL x.toInt64 0 (nI nh - 1).toInt64 = 0) (hn : nh < 2147483648) : ∃ k, k < nh ∧ x = nI k := by
  have e : (nI nh - 1).toInt64.toInt = (nh : Int) - 1 := by rw [Int32.toInt_toInt64, nI_pred_toInt hn]
  rcases Nat.eq_zero_or_pos nh with h0 | h0
  · subst h0
    exfalso; apply h
    unfold fInL
    by_cases h1 : x.toInt64 < 0
    · rw [if_pos h1]
    · rw [if_neg h1, if_pos]
      have c0 : (0 : Int64).toInt = 0 := by decide
      rw [Int64.lt_iff_toInt_lt, e]
      rw [Int64.lt_iff_toInt_lt, c0] at h1
      omega
  · obtain ⟨k, -, hk, e2⟩ := fInL_rng (a := 0) (b := nh - 1) h (by decide) (by rw [e]; omega)
    exact ⟨k, by omega, e2⟩
theorem nI_ltne {n N : Nat} (h : ¬ nI n = nI N) (hn : n ≤ N) : n < N := by
  rcases Nat.lt_or_ge n N with h1 | h1
  · exact h1
  · exact absurd (by rw [Nat.le_antisymm hn h1]) h
theorem nI_ltL {n N : Nat} (h : nI n < nI N) (hn : n < 2147483648) (hN : N < 2147483648) : n < N := (nI_ltI hn hN).mp h
theorem nI_leL {n N : Nat} (h : nI n ≤ nI N) (hn : n < 2147483648) (hN : N < 2147483648) : n ≤ N := (nI_leI hn hN).mp h
theorem nI_lt3 {n : Nat} (hn : n < 2147483648) (h : ¬ 3 ≤ nI n) : n < 3 := by
  rcases Nat.lt_or_ge n 3 with h1 | h1
  · exact h1
  · exact absurd (nI_le (a := 3) h1 hn) h
def mPiece (x y : Int32) (np : Nat) (ln bo : Nat → Int32) : Int32 × Nat × (Nat → Int32) × (Nat → Int32) :=
  if fInL x.toInt64 1 400 = 0 then (-1002, np, ln, bo) else if fInL y.toInt64 1 100 = 0 then (-1002, np, ln, bo) else if nI np = 12 then (-1004, np, ln, bo) else (fSum (upd ln np x) (np + 1) 0 0, np + 1, upd ln np x, upd bo np y)
def coneV (y z : Int32) (N i : Nat) : Int32 := y + (z - y) * nI i / (nI N - 1)
def coneL (ln : Nat → Int32) (np : Nat) (x : Int32) : Nat → Nat → Int32
  | 0 => ln
  | i + 1 => upd (coneL ln np x i) (np + i) x
def coneB (bo : Nat → Int32) (np : Nat) (y z : Int32) (N : Nat) : Nat → Nat → Int32
  | 0 => bo
  | i + 1 => upd (coneB bo np y z N i) (np + i) (coneV y z N i)
def mCone (x y z w : Int32) (np : Nat) (ln bo : Nat → Int32) : Int32 × Nat × (Nat → Int32) × (Nat → Int32) :=
  if fInL x.toInt64 1 400 = 0 then (-1002, np, ln, bo) else if fInL y.toInt64 1 100 = 0 then (-1002, np, ln, bo) else if fInL z.toInt64 1 100 = 0 then (-1002, np, ln, bo) else if fInL w.toInt64 2 12 = 0 then (-1002, np, ln, bo) else
  if nI (np + w.toNatClampNeg) ≤ 12 then (fSum (coneL ln np x w.toNatClampNeg) (np + w.toNatClampNeg) 0 0, np + w.toNatClampNeg, coneL ln np x w.toNatClampNeg, coneB bo np y z w.toNatClampNeg w.toNatClampNeg) else (-1004, np, ln, bo)
theorem nI_pred_ne {N : Nat} (h : 2 ≤ N) (hN : N < 2147483648) : ¬ nI N - 1 = 0 := by
  intro e
  have h1 := nI_pred_toInt hN
  rw [e] at h1
  have : (0 : Int32).toInt = 0 := by decide
  omega
def mHole (x y z : Int32) (nh : Nat) (bd : Nat → Int32) (W : Int32) : Int32 × Nat × (Nat → Int32) :=
  if mFits 0 x W = 0 then (-1002, nh, bd) else if mFits 1 y W = 0 then (-1002, nh, bd) else if mFits 2 z W = 0 then (-1002, nh, bd) else
  if mHoleAt bd x nh 0 (-1) < 0 then (if nI nh = 6 then (-1004, nh, bd) else (nI (nh + 1) - 1, nh + 1, upd (upd (upd bd (3 * nh) x) (3 * nh + 1) y) (3 * nh + 2) z)) else (-1003, nh, bd)
def mSet (x y v : Int32) (nh : Nat) (bd : Nat → Int32) (W : Int32) : Int32 × (Nat → Int32) :=
  if fInL x.toInt64 0 (nI nh - 1).toInt64 = 0 then (-1001, bd) else if fInL y.toInt64 0 2 = 0 then (-1002, bd) else if mFits y v W = 0 then (-1002, bd) else
  if (if y = 0 then mHoleAt bd v nh 0 (-1) else -1) < 0 then (bd (3 * x.toNatClampNeg + y.toNatClampNeg), upd bd (3 * x.toNatClampNeg + y.toNatClampNeg) v)
  else if (if y = 0 then mHoleAt bd v nh 0 (-1) else -1) = x then (bd (3 * x.toNatClampNeg + y.toNatClampNeg), upd bd (3 * x.toNatClampNeg + y.toNatClampNeg) v) else (-1003, bd)
def mEnd (x v : Int32) (en : Nat → Int32) : Int32 × (Nat → Int32) :=
  if fInL x.toInt64 0 1 = 0 then (-1002, en) else if fInL v.toInt64 0 1 = 0 then (-1002, en) else (en x.toNatClampNeg, upd en x.toNatClampNeg v)
def mTold (x y : Int32) (np : Nat) (ln bo : Nat → Int32) : Int32 :=
  if fInL x.toInt64 0 (nI np - 1).toInt64 = 0 then -1001 else if y = 0 then ln x.toNatClampNeg else if y = 1 then bo x.toNatClampNeg else -1002
def mNear (bd : Nat → Int32) (k : Nat) : Nat → Nat → Int32 → Int32
  | 0, _, z => z
  | r + 1, i, z => mNear bd k r (i + 1) (z + if bd (3 * k) ≤ bd (3 * i) then 0 else 1)
def mBored (x y : Int32) (np nh : Nat) (ln bd : Nat → Int32) : Int32 :=
  if fInL x.toInt64 0 (nI nh - 1).toInt64 = 0 then -1001 else if fInL y.toInt64 0 4 = 0 then -1002 else if 3 ≤ y then (if y = 3 then mPieceOf ln (bd (3 * x.toNatClampNeg)) (np - 1) 0 (ln 0) else mNear bd x.toNatClampNeg nh 0 0) else bd (3 * x.toNatClampNeg + y.toNatClampNeg)
def mSineP (x : Int32) : Int32 := if fInL x.toInt64 0 65535 = 0 then -1002 else (mSine x).toInt32
def mWorthP (W : Int32 → Int32 → Int64) (f w : Int32) (np : Nat) : Int64 :=
  if fInL f.toInt64 1 300 = 0 then -1002 else if fInL w.toInt64 0 63 = 0 then -1002 else if nI np = 0 then -1003 else W w f
def mToneP (W : Int32 → Int32 → Int64) (w k : Int32) (np : Nat) : Int32 :=
  if fInL w.toInt64 0 63 = 0 then -1002 else if -1 ≤ k then (if nI np = 0 then -1003 else if k = -1 then (mToneOf (W w) k np).2 else (mToneOf (W w) k np).1) else -1002
def mNr (T : Int32 → Int32) (v : Int32) : Nat → Nat → Int32 → Int32 → Int32 → Int32 × Int32
  | 0, _, b, t, _ => (b, t)
  | r + 1, i, b, t, n => if T (nI i) < 0 then mNr T v r (i + 1) b t n else if b < 0 then mNr T v r (i + 1) (nI i) (T (nI i)) (if T (nI i) ≤ v then v - T (nI i) else T (nI i) - v) else if n ≤ (if T (nI i) ≤ v then v - T (nI i) else T (nI i) - v) then mNr T v r (i + 1) b t n else mNr T v r (i + 1) (nI i) (T (nI i)) (if T (nI i) ≤ v then v - T (nI i) else T (nI i) - v)
def mNearest (W : Int32 → Int32 → Int64) (v y : Int32) (np nh : Nat) : Int32 :=
  if fInL v.toInt64 1 300 = 0 then -1002 else if fInL y.toInt64 0 1 = 0 then -1002 else if nI np = 0 then -1003 else if y = 0 then (mNr (fun o => (mToneOf (W o) 0 np).1) v (2 ^ nh) 0 (-1) (-1) 0).1 else (mNr (fun o => (mToneOf (W o) 0 np).1) v (2 ^ nh) 0 (-1) (-1) 0).2
theorem shl_pow {n : Nat} (h : n ≤ 6) : (1 : Int32) <<< (nI n &&& 31) = nI (2 ^ n) := by
  match n, h with
  | 0, _ => decide
  | 1, _ => decide
  | 2, _ => decide
  | 3, _ => decide
  | 4, _ => decide
  | 5, _ => decide
  | 6, _ => decide
  | n + 7, h => omega
theorem pow_le64 {n : Nat} (h : n ≤ 6) : 2 ^ n ≤ 64 := Nat.le_trans (Nat.pow_le_pow_right (by decide) h) (by decide)
def mNote (x y z : Int32) (nn : Nat) (ns nw nt : Nat → Int32) : Int32 × Nat × (Nat → Int32) × (Nat → Int32) × (Nat → Int32) :=
  if fInL x.toInt64 0 63 = 0 then (-1002, nn, ns, nw, nt) else if fInL y.toInt64 0 5 = 0 then (-1002, nn, ns, nw, nt) else if fInL z.toInt64 1 300 = 0 then (-1002, nn, ns, nw, nt) else if nI nn = 6 then (-1004, nn, ns, nw, nt) else (nI (nn + 1) - 1, nn + 1, upd ns nn x, upd nw nn y, upd nt nn z)
def mNoted (W : Int32 → Int32 → Int64) (x y : Int32) (np nn : Nat) (ns nw nt : Nat → Int32) : Int32 :=
  if fInL x.toInt64 0 (nI nn - 1).toInt64 = 0 then -1001 else if y = 0 then ns x.toNatClampNeg else if y = 1 then nw x.toNatClampNeg else if y = 2 then nt x.toNatClampNeg else if y = 3 then (mToneOf (W (ns x.toNatClampNeg)) (nw x.toNatClampNeg) np).1 else if y = 4 then mMiss (mToneOf (W (ns x.toNatClampNeg)) (nw x.toNatClampNeg) np).1 (nt x.toNatClampNeg) else -1002
def mDrill (x y : Int32) (db : Nat → Int32) : Int32 × (Nat → Int32) :=
  if fInL x.toInt64 1 60 = 0 then (-1002, db) else (mDr (upd db x.toNatClampNeg (vp_nar .boolean y)) 60 1 0, upd db x.toNatClampNeg (vp_nar .boolean y))
def mReach (x re : Int32) : Int32 × Int32 := if fInL x.toInt64 1 100 = 0 then (-1002, re) else (re, x)
def mCount (y : Int32) (np nh nn : Nat) (W e0 e1 re dr gr su ro : Int32) : Int32 :=
  if y = 0 then nI np else if y = 1 then nI nh else if y = 2 then nI nn else if y = 3 then W else if y = 4 then e0 else if y = 5 then e1 else if y = 6 then re else if y = 7 then dr else if y = 8 then gr else if y = 9 then su else if y = 10 then ro else -1002
end FUN5
