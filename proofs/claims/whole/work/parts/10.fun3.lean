section FUN3
def fInL (v x y : Int64) : Int32 := if v < x then 0 else if y < v then 0 else 1
theorem nar_fInL (v x y : Int64) : narrow .boolean (.int (fInL v x y)) = .int (fInL v x y) := by
  unfold fInL
  split
  · rfl
  · split <;> rfl
theorem nar_fIn (v x y : Int32) : narrow .boolean (.int (fIn v x y)) = .int (fIn v x y) := by
  unfold fIn
  split
  · rfl
  · split <;> rfl
def mUnlike (x y z : Int32) : Int32 := if x = 0 then (if x = 0 then (if y = 0 then 0 else 1) else 1) else if y = 0 then (if x = 0 then (if y = 0 then 0 else 1) else 1) else if z = 0 then 1 else 0
def mSX (t : Int32) : Int64 := (t - t / 32768 * 32768).toInt64
def mSP (t : Int32) : Int64 := mSX t * (32768 - mSX t)
def mSV (t : Int32) : Int64 := 131068 * mSP t / (1342177280 - mSP t)
def mSine (t : Int32) : Int64 := if 32768 ≤ t then -(mSV t) else mSV t
theorem rem_bounds (t : Int32) : -32768 < (t - t / 32768 * 32768).toInt ∧ (t - t / 32768 * 32768).toInt < 32768 := by
  rw [rem_toInt]
  have h : (32768 : Int32).toInt = 32768 := by decide
  rw [h]
  exact tmod_bounds (by decide)
theorem mSX_toInt (t : Int32) : (mSX t).toInt = (t - t / 32768 * 32768).toInt := by
  unfold mSX
  rw [Int32.toInt_toInt64]
theorem mSP_bounds (t : Int32) : (mSP t).toInt = (mSX t).toInt * (32768 - (mSX t).toInt) ∧ -2147483648 ≤ (mSX t).toInt * (32768 - (mSX t).toInt) ∧ (mSX t).toInt * (32768 - (mSX t).toInt) ≤ 268435456 := by
  have hb := rem_bounds t
  rw [← mSX_toInt] at hb
  generalize hx : (mSX t).toInt = x at hb ⊢
  have h1 : -2147483648 ≤ x * (32768 - x) := by
    have : (x + 32768) * (65536 - x) ≥ 0 := Int.mul_nonneg (by omega) (by omega)
    have e : (x + 32768) * (65536 - x) = x * (32768 - x) + 2147483648 := by
      simp only [Int.add_mul, Int.mul_sub]
      omega
    omega
  have h2 : x * (32768 - x) ≤ 268435456 := by
    have : (x - 16384) * (x - 16384) ≥ 0 := by
      rcases Int.le_total x 16384 with h | h
      · have : (x - 16384) * (x - 16384) = (16384 - x) * (16384 - x) := by
          simp only [Int.sub_mul, Int.mul_sub]; omega
        rw [this]; exact Int.mul_nonneg (by omega) (by omega)
      · exact Int.mul_nonneg (by omega) (by omega)
    have e : (x - 16384) * (x - 16384) = 268435456 - x * (32768 - x) := by
      simp only [Int.sub_mul, Int.mul_sub]
      omega
    omega
  refine ⟨?_, h1, h2⟩
  unfold mSP
  have hc : (32768 : Int64).toInt = 32768 := by decide
  have hs : (32768 - mSX t).toInt = 32768 - x := by
    rw [Int64.toInt_sub, hc, hx, Int.bmod_eq_of_le_mul_two (by omega) (by omega)]
  rw [Int64.toInt_mul, hs, hx, Int.bmod_eq_of_le_mul_two (by omega) (by omega)]
theorem mS_toInt (t : Int32) : (1342177280 - mSP t).toInt = 1342177280 - (mSP t).toInt := by
  have h := mSP_bounds t
  have hc : (1342177280 : Int64).toInt = 1342177280 := by decide
  rw [Int64.toInt_sub, hc, h.1, Int.bmod_eq_of_le_mul_two (by omega) (by omega)]
theorem mS_ne (t : Int32) : ¬ 1342177280 - mSP t = 0 := by
  intro h
  have h1 := mS_toInt t
  rw [h] at h1
  have h2 := mSP_bounds t
  have h3 : (0 : Int64).toInt = 0 := by decide
  omega
def mFits (x v w : Int32) : Int32 := if x = 0 then fInL v.toInt64 1 (w - 1).toInt64 else fInL v.toInt64 (if x = 1 then 1 else 0) 60
theorem fSum_go (ln : Nat → Int32) : ∀ (r i : Nat) (z : Int32), fSum ln (r + 1) i z = fSum ln r i z + ln (i + r) := by
  intro r
  induction r with
  | zero => intro i z; simp [fSum]
  | succ r ih =>
    intro i z
    rw [fSum, ih (i + 1) (z + ln i), fSum, show i + 1 + r = i + (r + 1) from by omega]
theorem fSum_last (ln : Nat → Int32) (n : Nat) : fSum ln (n + 1) 0 0 = fSum ln n 0 0 + ln n := by rw [fSum_go, Nat.zero_add]
theorem fSum_one (ln : Nat → Int32) : fSum ln (0 + 1) 0 0 = ln 0 := by simp [fSum]
def mPieceOf (ln : Nat → Int32) (v : Int32) : Nat → Nat → Int32 → Int32
  | 0, i, _ => nI i
  | r + 1, i, z => if v ≤ z then nI i else mPieceOf ln v r (i + 1) (z + ln (i + 1))
theorem mPieceOf_nat (ln : Nat → Int32) (v : Int32) (N : Nat) : ∀ (r i : Nat) (z : Int32), i + r = N → ∃ k, k ≤ N ∧ mPieceOf ln v r i z = nI k := by
  intro r
  induction r with
  | zero => intro i z h; exact ⟨i, by omega, rfl⟩
  | succ r ih =>
    intro i z h
    unfold mPieceOf
    split
    · exact ⟨i, by omega, rfl⟩
    · exact ih (i + 1) _ (by omega)
theorem mPieceOf_in {ln : Nat → Int32} {v z : Int32} {np : Nat} (h : np ≤ 12) (h1 : 1 ≤ np) : vp_in (mPieceOf ln v (np - 1) 0 z) 12 := by
  obtain ⟨k, hk, e⟩ := mPieceOf_nat ln v (np - 1) (np - 1) 0 z (by omega)
  rw [e]; exact vp_in_nI (by omega) (by decide)
theorem mPieceOf_lt {ln : Nat → Int32} {v z : Int32} {np : Nat} (h : np ≤ 12) (h1 : 1 ≤ np) : (mPieceOf ln v (np - 1) 0 z).toNatClampNeg < np := by
  obtain ⟨k, hk, e⟩ := mPieceOf_nat ln v (np - 1) (np - 1) 0 z (by omega)
  rw [e, nI_clamp (by omega)]; omega
def mHoleAt (bd : Nat → Int32) (v : Int32) : Nat → Nat → Int32 → Int32
  | 0, _, z => z
  | r + 1, i, z => mHoleAt bd v r (i + 1) (if bd (3 * i) = v then nI i else z)
theorem mHoleAt_go (bd : Nat → Int32) (v : Int32) (N : Nat) : ∀ (r i : Nat) (z : Int32), i + r = N → (z = -1 ∨ ∃ k, k < N ∧ z = nI k) → (mHoleAt bd v r i z = -1 ∨ ∃ k, k < N ∧ mHoleAt bd v r i z = nI k) := by
  intro r
  induction r with
  | zero => intro i z _ h; exact h
  | succ r ih =>
    intro i z hi h
    unfold mHoleAt
    refine ih (i + 1) _ (by omega) ?_
    split
    · exact Or.inr ⟨i, by omega, rfl⟩
    · exact h
theorem mHoleAt_nat {bd : Nat → Int32} {v : Int32} {nh : Nat} (_ : nh ≤ 6) (h : ¬ mHoleAt bd v nh 0 (-1) < 0) : ∃ k, k < nh ∧ mHoleAt bd v nh 0 (-1) = nI k := by
  rcases mHoleAt_go bd v nh nh 0 (-1) (by omega) (Or.inl rfl) with h1 | h1
  · rw [h1] at h; exact absurd (by decide) h
  · exact h1
def mBD (bd : Nat → Int32) (k : Nat) (w : Int32) (i : Nat) : Int32 := (bd (3 * i) - bd (3 * k)) * w
def mBeside (bd : Nat → Int32) (k : Nat) (w : Int32) : Nat → Nat → Int32 → Int32
  | 0, _, z => z
  | r + 1, i, z => if mBD bd k w i ≤ 0 then mBeside bd k w r (i + 1) z else if z < 0 then mBeside bd k w r (i + 1) (nI i) else if mBD bd k w z.toNatClampNeg ≤ mBD bd k w i then mBeside bd k w r (i + 1) z else mBeside bd k w r (i + 1) (nI i)
def mNx1 (ln : Nat → Int32) (v : Int32) : Nat → Nat → Int32 → Int32 → Int32
  | 0, _, b, _ => b
  | r + 1, i, b, z => if v ≤ z + ln i then mNx1 ln v r (i + 1) b (z + ln i) else if z + ln i ≤ b then mNx1 ln v r (i + 1) b (z + ln i) else mNx1 ln v r (i + 1) (z + ln i) (z + ln i)
def mNx2 (bd : Nat → Int32) (v : Int32) : Nat → Nat → Int32 → Int32
  | 0, _, b => b
  | r + 1, i, b => if v ≤ bd (3 * i) then mNx2 bd v r (i + 1) b else if bd (3 * i) ≤ b then mNx2 bd v r (i + 1) b else mNx2 bd v r (i + 1) (bd (3 * i))
def mNext (ln bd : Nat → Int32) (np nh : Nat) (v : Int32) : Int32 := mNx2 bd v nh 0 (mNx1 ln v np 0 0 0)
def mDr (db : Nat → Int32) : Nat → Nat → Int32 → Int32
  | 0, _, z => z
  | r + 1, i, z => mDr db r (i + 1) (z + if db i = 0 then 0 else 1)
def seqM (ln bd : Nat → Int32) (np nh : Nat) : Nat → Int32
  | 0 => fSum ln np 0 0
  | i + 1 => mNext ln bd np nh (seqM ln bd np nh i)
def mL (ln bd : Nat → Int32) (np nh i : Nat) : Int32 := seqM ln bd np nh i - seqM ln bd np nh (i + 1)
def mB (ln bo bd : Nat → Int32) (np nh i : Nat) : Int64 := (bo (mPieceOf ln (seqM ln bd np nh i) (np - 1) 0 (ln 0)).toNatClampNeg).toInt64
def mTurn (f l : Int32) : Int32 := f * l * 16 - f * l * 16 / 65536 * 65536
def mTurn2 (f l : Int32) : Int32 := mTurn f l + 16384 - (mTurn f l + 16384) / 65536 * 65536
def mP1 (f l : Int32) (b pp uu : Int64) : Int64 := ((pp * mSine (mTurn2 f l)) >>> ((15 : Int32).toInt64 &&& 63)) + (((uu * mSine (mTurn f l)) >>> ((15 : Int32).toInt64 &&& 63)) * 10000) / (b * b)
def mU1 (f l : Int32) (b pp uu : Int64) : Int64 := ((uu * mSine (mTurn2 f l)) >>> ((15 : Int32).toInt64 &&& 63)) - (((pp * mSine (mTurn f l)) >>> ((15 : Int32).toInt64 &&& 63)) * (b * b)) / 10000
def sh8 (x : Int64) : Nat → Int64
  | 0 => x
  | i + 1 => sh8 x i >>> ((8 : Int32).toInt64 &&& 63)
def mSh (P U : Int64) : Nat → Nat → Nat
  | 0, i => i
  | r + 1, i => if fBig (sh8 P i) = 0 then (if fBig (sh8 U i) = 0 then i else mSh P U r (i + 1)) else mSh P U r (i + 1)
def mShN (P U : Int64) : Nat := mSh P U 3 0
theorem sh8_0 (x : Int64) : sh8 x 0 = x := rfl
theorem sh8_toInt (x : Int64) : (x >>> ((8 : Int32).toInt64 &&& 63)).toInt = x.toInt / 256 := Jvm.Kit.i64_shr (k := 8) x _ (by decide)
theorem fBig_sh8 (x : Int64) : fBig (sh8 x 3) = 0 := by
  have h1 := Int64.toInt_lt x
  have h2 := Int64.le_toInt x
  have e : (sh8 x 3).toInt = x.toInt / 256 / 256 / 256 := by
    show (((x >>> ((8 : Int32).toInt64 &&& 63)) >>> ((8 : Int32).toInt64 &&& 63)) >>> ((8 : Int32).toInt64 &&& 63)).toInt = _
    rw [sh8_toInt, sh8_toInt, sh8_toInt]
  have c1 : (1099511627776 : Int64).toInt = 1099511627776 := by decide
  have c2 : (-1099511627776 : Int64).toInt = -1099511627776 := by decide
  unfold fBig
  rw [if_neg (by rw [Int64.le_iff_toInt_le, e, c1]; omega), if_pos (by rw [Int64.lt_iff_toInt_lt, e, c2]; omega)]
def mU3 (f : Int32) (s c P U : Int64) : Int64 := U + P * s * s / (25 * (s + c) * f.toInt64)
def mWl (ln bo bd : Nat → Int32) (np nh : Nat) (e0 w f : Int32) : Nat → Nat → Int64 → Int64 → Int64
  | 0, _, pp, uu => if e0 = 0 then pp else uu
  | r + 1, i, pp, uu => if seqM ln bd np nh i ≤ 0 then (if e0 = 0 then pp else uu) else
      if mHoleAt bd (seqM ln bd np nh (i + 1)) nh 0 (-1) < 0 then mWl ln bo bd np nh e0 w f r (i + 1) (sh8 (mP1 f (mL ln bd np nh i) (mB ln bo bd np nh i) pp uu) (mShN (mP1 f (mL ln bd np nh i) (mB ln bo bd np nh i) pp uu) (mU1 f (mL ln bd np nh i) (mB ln bo bd np nh i) pp uu))) (sh8 (mU1 f (mL ln bd np nh i) (mB ln bo bd np nh i) pp uu) (mShN (mP1 f (mL ln bd np nh i) (mB ln bo bd np nh i) pp uu) (mU1 f (mL ln bd np nh i) (mB ln bo bd np nh i) pp uu)))
      else if (w >>> (mHoleAt bd (seqM ln bd np nh (i + 1)) nh 0 (-1) &&& 31)) &&& 1 = 1 then mWl ln bo bd np nh e0 w f r (i + 1) (sh8 (mP1 f (mL ln bd np nh i) (mB ln bo bd np nh i) pp uu) (mShN (mP1 f (mL ln bd np nh i) (mB ln bo bd np nh i) pp uu) (mU1 f (mL ln bd np nh i) (mB ln bo bd np nh i) pp uu))) (mU3 f (bd (3 * (mHoleAt bd (seqM ln bd np nh (i + 1)) nh 0 (-1)).toNatClampNeg + 1)).toInt64 (bd (3 * (mHoleAt bd (seqM ln bd np nh (i + 1)) nh 0 (-1)).toNatClampNeg + 2)).toInt64 (sh8 (mP1 f (mL ln bd np nh i) (mB ln bo bd np nh i) pp uu) (mShN (mP1 f (mL ln bd np nh i) (mB ln bo bd np nh i) pp uu) (mU1 f (mL ln bd np nh i) (mB ln bo bd np nh i) pp uu))) (sh8 (mU1 f (mL ln bd np nh i) (mB ln bo bd np nh i) pp uu) (mShN (mP1 f (mL ln bd np nh i) (mB ln bo bd np nh i) pp uu) (mU1 f (mL ln bd np nh i) (mB ln bo bd np nh i) pp uu))))
      else mWl ln bo bd np nh e0 w f r (i + 1) (sh8 (mP1 f (mL ln bd np nh i) (mB ln bo bd np nh i) pp uu) (mShN (mP1 f (mL ln bd np nh i) (mB ln bo bd np nh i) pp uu) (mU1 f (mL ln bd np nh i) (mB ln bo bd np nh i) pp uu))) (sh8 (mU1 f (mL ln bd np nh i) (mB ln bo bd np nh i) pp uu) (mShN (mP1 f (mL ln bd np nh i) (mB ln bo bd np nh i) pp uu) (mU1 f (mL ln bd np nh i) (mB ln bo bd np nh i) pp uu)))
def mWorth (ln bo bd : Nat → Int32) (np nh : Nat) (e0 e1 w f : Int32) : Int64 := mWl ln bo bd np nh e0 w f 18 0 (if e1 = 0 then 0 else 1048576) (if e1 = 0 then 1048576 else 0)
end FUN3
