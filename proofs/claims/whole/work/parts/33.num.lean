section NUM
theorem fInL_in {x a b : Int32} {A B : Int64} (hA : A.toInt = a.toInt) (hB : B.toInt = b.toInt) : fInL x.toInt64 A B = fIn x a b := by
  unfold fInL fIn
  have e1 : (x.toInt64 < A) = (x < a) := by
    rw [Int64.lt_iff_toInt_lt, Int32.lt_iff_toInt_lt, Int32.toInt_toInt64, hA]
  have e2 : (B < x.toInt64) = (b < x) := by
    rw [Int64.lt_iff_toInt_lt, Int32.lt_iff_toInt_lt, Int32.toInt_toInt64, hB]
  simp only [e1, e2]
theorem fIn_nI {n a b : Nat} (hn : n < 2147483648) (ha : a < 2147483648) (hb : b < 2147483648) (h1 : a ≤ n) (h2 : n ≤ b) : fIn (nI n) (nI a) (nI b) = 1 := by
  unfold fIn
  rw [if_neg (nI_nlt h1 hn), if_neg (nI_nlt h2 hb)]
theorem fIn_n0 {n a b : Nat} (hn : n < 2147483648) (ha : a < 2147483648) (hb : b < 2147483648) (h : ¬ (a ≤ n ∧ n ≤ b)) : fIn (nI n) (nI a) (nI b) = 0 := by
  unfold fIn
  by_cases h1 : a ≤ n
  · rw [if_neg (nI_nlt h1 hn), if_pos (nI_lt (by omega) hn)]
  · rw [if_pos (nI_lt (by omega) ha)]
theorem fIn_01 (x a b : Int32) : fIn x a b = 0 ∨ fIn x a b = 1 := by
  unfold fIn
  split
  · exact Or.inl rfl
  · split
    · exact Or.inl rfl
    · exact Or.inr rfl
theorem m16 {n : Nat} (h : n < 2147483648) : nI n &&& 65535 = nI (n % 65536) := pk_andN (n := n) (m := 65535) (by omega) 16 (by decide)
theorem m15 {n : Nat} (h : n < 2147483648) : nI n &&& 32767 = nI (n % 32768) := pk_andN (n := n) (m := 32767) (by omega) 15 (by decide)
theorem d16 {n : Nat} (h : n < 2147483648) : nI n - nI n / 65536 * 65536 = nI (n % 65536) := pk_rem (a := n) (d := 65536) h (by decide) (by decide)
theorem d15 {n : Nat} (h : n < 2147483648) : nI n - nI n / 32768 * 32768 = nI (n % 32768) := pk_rem (a := n) (d := 32768) h (by decide) (by decide)
theorem b15 : ∀ q, q < 2 → (nI (32768 * q) &&& 32768 = 0 ↔ q = 0) := by decide
theorem and15 {n : Nat} (h : n < 65536) : nI n &&& 32768 = 0 ↔ n < 32768 := by
  have e : (nI n &&& 32768).toBitVec.toNat = n &&& 32768 := by
    rw [Int32.toBitVec_and, BitVec.toNat_and, pk_tn (by omega)]
    rfl
  have hz : (nI n &&& 32768 = 0) ↔ n &&& 32768 = 0 := by
    constructor
    · intro hh; rw [hh] at e; exact e.symm
    · intro hh; apply Int32.toBitVec_inj.mp; apply BitVec.eq_of_toNat_eq; rw [e, hh]; rfl
  rw [hz]
  have h1 : (n &&& 32768) / 32768 = n / 32768 % 2 := by
    have := Nat.and_div_two_pow (a := n) (b := 32768) (n := 15)
    rw [show (2 : Nat) ^ 15 = 32768 from rfl] at this
    rw [this]
    exact Nat.and_one_is_mod _
  have h2 : (n &&& 32768) % 32768 = 0 := by
    have := Nat.and_mod_two_pow (a := n) (b := 32768) (n := 15)
    rw [show (2 : Nat) ^ 15 = 32768 from rfl] at this
    rw [this]
    exact Nat.and_zero _
  omega
theorem fSX_e {n : Nat} (h : n < 2147483648) : fSX (nI n) = mSX (nI n) := by
  unfold fSX mSX
  rw [m15 h, d15 h]
theorem fSV_e {n : Nat} (h : n < 2147483648) : fSV (nI n) = mSV (nI n) := by
  have e : fSP (nI n) = mSP (nI n) := by unfold fSP mSP; rw [fSX_e h]
  unfold fSV mSV fQuo
  rw [e, if_neg (mS_ne (nI n))]
theorem fSine_e {n : Nat} (h : n < 65536) : fSine (nI n) = mSine (nI n) := by
  unfold fSine mSine
  rw [fSV_e (by omega)]
  by_cases c : n < 32768
  · rw [if_pos ((and15 h).mpr c), if_neg (show ¬ (32768 : Int32) ≤ nI n from nI_ge (a := n) (b := 32768) c (by decide))]
  · rw [if_neg (fun q => c ((and15 h).mp q)), if_pos (show (32768 : Int32) ≤ nI n from nI_le (a := 32768) (b := n) (by omega) (by omega))]
theorem turn_x {a b : Nat} (ha : a ≤ 300) (hb : b ≤ 4800) : xTurn (nI a) (nI b) = nI (a * b * 16 % 65536) := by
  have h1 : a * b ≤ 300 * 4800 := Nat.mul_le_mul ha hb
  show nI a * nI b * nI 16 &&& 65535 = _
  rw [pk_mul, pk_mul, m16 (by omega)]
theorem turn_m {a b : Nat} (ha : a ≤ 300) (hb : b ≤ 4800) : mTurn (nI a) (nI b) = nI (a * b * 16 % 65536) := by
  have h1 : a * b ≤ 300 * 4800 := Nat.mul_le_mul ha hb
  show nI a * nI b * nI 16 - nI a * nI b * nI 16 / 65536 * 65536 = _
  rw [pk_mul, pk_mul, d16 (by omega)]
theorem wS_e {a b : Nat} (ha : a ≤ 300) (hb : b ≤ 4800) : wS (nI a) (nI b) = mSine (mTurn (nI a) (nI b)) := by
  unfold wS
  rw [turn_x ha hb, turn_m ha hb, fSine_e (Nat.mod_lt _ (by decide))]
theorem wC_e {a b : Nat} (ha : a ≤ 300) (hb : b ≤ 4800) : wC (nI a) (nI b) = mSine (mTurn2 (nI a) (nI b)) := by
  have h1 : a * b * 16 % 65536 < 65536 := Nat.mod_lt _ (by decide)
  unfold wC mTurn2
  rw [turn_x ha hb, turn_m ha hb]
  have e : nI (a * b * 16 % 65536) + 16384 = nI (a * b * 16 % 65536 + 16384) := nI_add _ 16384
  rw [e, m16 (by omega), d16 (by omega), fSine_e (Nat.mod_lt _ (by decide))]
theorem xQ_e {k : Nat} (hk : k ≤ 100) : xQ (nI k) = (nI k).toInt64 * (nI k).toInt64 := by
  unfold xQ
  have h1 : k * k ≤ 100 * 100 := Nat.mul_le_mul hk hk
  rw [pk_mul, nI_l (by omega), nI_l (by omega), lN_mul]
theorem bb_ne {k : Nat} (h1 : 1 ≤ k) (hk : k ≤ 100) : ¬ (nI k).toInt64 * (nI k).toInt64 = 0 := by
  have h2 : k * k ≤ 100 * 100 := Nat.mul_le_mul hk hk
  have h3 : 1 * 1 ≤ k * k := Nat.mul_le_mul h1 h1
  rw [nI_l (by omega), lN_mul]
  intro h
  have := (lN_eq (a := k * k) (b := 0) (by omega) (by decide)).mp h
  omega
theorem wP1_e {a b k : Nat} (ha : a ≤ 300) (hb : b ≤ 4800) (h1 : 1 ≤ k) (hk : k ≤ 100) (pp uu : Int64) : wP1 (nI a) (nI b) (nI k) pp uu = mP1 (nI a) (nI b) (nI k).toInt64 pp uu := by
  unfold wP1 mP1 fQuo
  rw [wS_e ha hb, wC_e ha hb, xQ_e hk, if_neg (bb_ne h1 hk)]
theorem wU1_e {a b k : Nat} (ha : a ≤ 300) (hb : b ≤ 4800) (hk : k ≤ 100) (pp uu : Int64) : wU1 (nI a) (nI b) (nI k) pp uu = mU1 (nI a) (nI b) (nI k).toInt64 pp uu := by
  unfold wU1 mU1
  rw [wS_e ha hb, wC_e ha hb, xQ_e hk]
theorem sh8_k (x : Int64) (k : Nat) (hk : k < 4) : sh8 x k = x >>> ((nI (8 * k)).toInt64 &&& 63) := by
  apply Int64.toInt_inj.mp
  match k, hk with
  | 0, _ =>
    rw [Jvm.Kit.i64_shr (k := 0) x _ (by decide)]
    show x.toInt = x.toInt / 1
    omega
  | 1, _ =>
    show (x >>> ((8 : Int32).toInt64 &&& 63)).toInt = (x >>> ((8 : Int32).toInt64 &&& 63)).toInt
    rfl
  | 2, _ =>
    rw [Jvm.Kit.i64_shr (k := 16) x ((nI (8 * 2)).toInt64 &&& 63) (by decide)]
    show ((x >>> ((8 : Int32).toInt64 &&& 63)) >>> ((8 : Int32).toInt64 &&& 63)).toInt = x.toInt / 65536
    rw [sh8_toInt, sh8_toInt]
    omega
  | 3, _ =>
    rw [Jvm.Kit.i64_shr (k := 24) x ((nI (8 * 3)).toInt64 &&& 63) (by decide)]
    show (((x >>> ((8 : Int32).toInt64 &&& 63)) >>> ((8 : Int32).toInt64 &&& 63)) >>> ((8 : Int32).toInt64 &&& 63)).toInt = x.toInt / 16777216
    rw [sh8_toInt, sh8_toInt, sh8_toInt]
    omega
  | k + 4, h => omega
theorem fShift_s (P U : Int64) (r i : Nat) : fShift P U (r + 1) i = if fBig (P >>> ((nI i).toInt64 &&& 63)) = 0 then (if fBig (U >>> ((nI i).toInt64 &&& 63)) = 0 then nI i else fShift P U r (i + 8)) else fShift P U r (i + 8) := rfl
theorem mSh_s (P U : Int64) (r i : Nat) : mSh P U (r + 1) i = if fBig (sh8 P i) = 0 then (if fBig (sh8 U i) = 0 then i else mSh P U r (i + 1)) else mSh P U r (i + 1) := rfl
theorem fShift_go (P U : Int64) (s : Nat) : ∀ r k, k + r = 3 → fShift P U (r + (s + 1)) (8 * k) = nI (8 * mSh P U r k) := by
  intro r
  induction r with
  | zero =>
    intro k h
    obtain rfl : k = 3 := by omega
    rw [Nat.zero_add, fShift_s, ← sh8_k P 3 (by omega), ← sh8_k U 3 (by omega), if_pos (fBig_sh8 P), if_pos (fBig_sh8 U)]
    rfl
  | succ r ih =>
    intro k h
    rw [show r + 1 + (s + 1) = (r + (s + 1)) + 1 from by omega, fShift_s, mSh_s, ← sh8_k P k (by omega), ← sh8_k U k (by omega), show 8 * k + 8 = 8 * (k + 1) from by omega, ih (k + 1) (by omega)]
    by_cases c1 : fBig (sh8 P k) = 0
    · rw [if_pos c1, if_pos c1]
      by_cases c2 : fBig (sh8 U k) = 0
      · rw [if_pos c2, if_pos c2]
      · rw [if_neg c2, if_neg c2]
    · rw [if_neg c1, if_neg c1]
theorem mSh_le (P U : Int64) : ∀ r k, mSh P U r k ≤ k + r := by
  intro r
  induction r with
  | zero => intro k; exact Nat.le_refl _
  | succ r ih =>
    intro k
    have := ih (k + 1)
    rw [mSh_s]
    split
    · split <;> omega
    · omega
theorem fShift_e (P U : Int64) : fShift P U 7 0 = nI (8 * mShN P U) := fShift_go P U 3 3 0 rfl
theorem shN_e (P U x : Int64) : x >>> ((fShift P U 7 0).toInt64 &&& 63) = sh8 x (mShN P U) := by
  have h : mShN P U ≤ 0 + 3 := mSh_le P U 3 0
  rw [fShift_e, sh8_k x (mShN P U) (by omega)]
theorem wP2_e {a b k : Nat} (ha : a ≤ 300) (hb : b ≤ 4800) (h1 : 1 ≤ k) (hk : k ≤ 100) (pp uu : Int64) : wP2 (nI a) (nI b) (nI k) pp uu = sh8 (mP1 (nI a) (nI b) (nI k).toInt64 pp uu) (mShN (mP1 (nI a) (nI b) (nI k).toInt64 pp uu) (mU1 (nI a) (nI b) (nI k).toInt64 pp uu)) := by
  unfold wP2 wSh
  rw [shN_e, wP1_e ha hb h1 hk, wU1_e ha hb hk]
theorem wU2_e {a b k : Nat} (ha : a ≤ 300) (hb : b ≤ 4800) (h1 : 1 ≤ k) (hk : k ≤ 100) (pp uu : Int64) : wU2 (nI a) (nI b) (nI k) pp uu = sh8 (mU1 (nI a) (nI b) (nI k).toInt64 pp uu) (mShN (mP1 (nI a) (nI b) (nI k).toInt64 pp uu) (mU1 (nI a) (nI b) (nI k).toInt64 pp uu)) := by
  unfold wU2 wSh
  rw [shN_e, wP1_e ha hb h1 hk, wU1_e ha hb hk]
theorem den_ne {a s c : Nat} (h1 : 1 ≤ a) (ha : a ≤ 300) (hs1 : 1 ≤ s) (hs : s ≤ 60) (hc : c ≤ 60) : ¬ (25 * ((nI s).toInt64 + (nI c).toInt64)) * (nI a).toInt64 = 0 := by
  have e : (25 * ((nI s).toInt64 + (nI c).toInt64)) * (nI a).toInt64 = lN (25 * (s + c) * a) := by
    rw [nI_l (by omega), nI_l (by omega), nI_l (by omega), lN_add]
    show lN 25 * lN (s + c) * lN a = _
    rw [lN_mul, lN_mul]
  have h2 : 25 * (s + c) * a ≤ 25 * 120 * 300 := Nat.mul_le_mul (by omega) ha
  have h3 : 25 * 1 * 1 ≤ 25 * (s + c) * a := Nat.mul_le_mul (by omega) h1
  rw [e]
  intro h
  have := (lN_eq (a := 25 * (s + c) * a) (b := 0) (by omega) (by decide)).mp h
  omega
theorem wU3_e {a s c : Nat} (h1 : 1 ≤ a) (ha : a ≤ 300) (hs1 : 1 ≤ s) (hs : s ≤ 60) (hc : c ≤ 60) (P U : Int64) : wU3 (nI a) (nI s) (nI c) P U = mU3 (nI a) (nI s).toInt64 (nI c).toInt64 P U := by
  unfold wU3 mU3 fQuo
  rw [if_neg (den_ne h1 ha hs1 hs hc), Int64.mul_assoc P]
end NUM
