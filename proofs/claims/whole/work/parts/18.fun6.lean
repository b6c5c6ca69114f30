section FUN6
def kp0 (sh : Nat → Int32) (k np nh : Nat) (e0 e1 : Int32) : Nat → Int32 := upd (upd (upd (upd sh (50 * k) (nI np)) (50 * k + 1) (nI nh)) (50 * k + 2) e0) (50 * k + 3) e1
def kp1 (s0 : Nat → Int32) (k : Nat) (ln bo : Nat → Int32) : Nat → Nat → Int32
  | 0 => s0
  | i + 1 => upd (upd (kp1 s0 k ln bo i) (50 * k + 4 + 2 * i) (ln i)) (50 * k + 5 + 2 * i) (bo i)
def kp2 (s1 : Nat → Int32) (k : Nat) (bd : Nat → Int32) : Nat → Nat → Int32
  | 0 => s1
  | i + 1 => upd (kp2 s1 k bd i) (50 * k + 28 + i) (bd i)
def mKeep (x : Int32) (np nh : Nat) (en ln bo bd sh : Nat → Int32) : Int32 × (Nat → Int32) :=
  if fInL x.toInt64 0 1 = 0 then (-1001, sh) else (1, kp2 (kp1 (kp0 sh x.toNatClampNeg np nh (en 0) (en 1)) x.toNatClampNeg ln bo 12) x.toNatClampNeg bd 18)
def bkL (sh : Nat → Int32) (k : Nat) (ln : Nat → Int32) : Nat → Nat → Int32
  | 0 => ln
  | i + 1 => upd (bkL sh k ln i) i (sh (50 * k + 4 + 2 * i))
def bkB (sh : Nat → Int32) (k : Nat) (bo : Nat → Int32) : Nat → Nat → Int32
  | 0 => bo
  | i + 1 => upd (bkB sh k bo i) i (sh (50 * k + 5 + 2 * i))
def bkD (sh : Nat → Int32) (k : Nat) (bd : Nat → Int32) : Nat → Nat → Int32
  | 0 => bd
  | i + 1 => upd (bkD sh k bd i) i (sh (50 * k + 28 + i))
def mBack (x : Int32) (np nh : Nat) (en ln bo bd sh : Nat → Int32) : Int32 × Int32 × Int32 × (Nat → Int32) × (Nat → Int32) × (Nat → Int32) × (Nat → Int32) :=
  if fInL x.toInt64 0 1 = 0 then (-1001, nI np, nI nh, en, ln, bo, bd) else if 0 ≤ sh (50 * x.toNatClampNeg) then (1, sh (50 * x.toNatClampNeg), sh (50 * x.toNatClampNeg + 1), upd (upd en 0 (sh (50 * x.toNatClampNeg + 2))) 1 (sh (50 * x.toNatClampNeg + 3)), bkL sh x.toNatClampNeg ln 12, bkB sh x.toNatClampNeg bo 12, bkD sh x.toNatClampNeg bd 18) else (-1003, nI np, nI nh, en, ln, bo, bd)
def mDf1 (np k : Nat) (ln bo sh : Nat → Int32) : Nat → Nat → Int32 → Int32
  | 0, _, z => z
  | r + 1, i, z => mDf1 np k ln bo sh r (i + 1) (z + (mUnlike (if nI np ≤ nI i then 0 else 1) (if sh (50 * k) ≤ nI i then 0 else 1) (if ln i = sh (50 * k + 4 + 2 * i) then 1 else 0) + mUnlike (if nI np ≤ nI i then 0 else 1) (if sh (50 * k) ≤ nI i then 0 else 1) (if bo i = sh (50 * k + 5 + 2 * i) then 1 else 0)))
def mDf2 (nh k : Nat) (bd sh : Nat → Int32) : Nat → Nat → Int32 → Int32
  | 0, _, z => z
  | r + 1, i, z => mDf2 nh k bd sh r (i + 1) (z + mUnlike (if nI nh ≤ nI i / 3 then 0 else 1) (if sh (50 * k + 1) ≤ nI i / 3 then 0 else 1) (if bd i = sh (50 * k + 28 + i) then 1 else 0))
def mDiffers (x : Int32) (np nh : Nat) (en ln bo bd sh : Nat → Int32) : Int32 :=
  if fInL x.toInt64 0 1 = 0 then -1001 else if 0 ≤ sh (50 * x.toNatClampNeg) then mDf2 nh x.toNatClampNeg bd sh 18 0 (mDf1 np x.toNatClampNeg ln bo sh 12 0 ((if en 0 = sh (50 * x.toNatClampNeg + 2) then 0 else 1) + (if en 1 = sh (50 * x.toNatClampNeg + 3) then 0 else 1))) else -1003
theorem upd_back {f : Nat → Int32} {a : Nat} {v : Int32} : upd (upd f a v) a (f a) = f := by
  funext j
  unfold upd
  by_cases h : j = a
  · subst h; simp
  · simp [h]
def mBdA (ln bo bd db : Nat → Int32) (np nh nn : Nat) (e0 e1 re : Int32) (ns nw nt : Nat → Int32) (i : Nat) : Int32 :=
  mBa (mMissK ln bo (upd bd (3 * (i / 4) + i % 4 / 2) (mMoved ln bd db np nh re (i / 4) (i % 4))) np nh e0 e1 ns nw nt) nn 0 0 0
def mRd (M B : Nat → Int32) : Nat → Nat → Int32 → Int32 → Int32 → Int32 × Int32
  | 0, _, _, be, bc => (be, bc)
  | r + 1, i, le, be, bc => if M i < 0 then mRd M B r (i + 1) le be bc else if le ≤ B i then mRd M B r (i + 1) le be bc else mRd M B r (i + 1) (B i) (nI (3 * (i / 4) + i % 4 / 2)) (M i)
def mMv (ln bd db : Nat → Int32) (np nh : Nat) (re : Int32) (i : Nat) : Int32 := mMoved ln bd db np nh re (i / 4) (i % 4)
def mRound (ln bo bd db : Nat → Int32) (np nh nn : Nat) (e0 e1 re ro : Int32) (ns nw nt : Nat → Int32) : Int32 × (Nat → Int32) × Int32 :=
  if nI np = 0 then (-1003, bd, ro) else if nI nh = 0 then (-1003, bd, ro) else if nI nn = 0 then (-1003, bd, ro) else
  if 0 ≤ (mRd (mMv ln bd db np nh re) (mBdA ln bo bd db np nh nn e0 e1 re ns nw nt) (4 * nh) 0 (mBa (mMissK ln bo bd np nh e0 e1 ns nw nt) nn 0 0 0) (-1) 0).1 then (1, upd bd (mRd (mMv ln bd db np nh re) (mBdA ln bo bd db np nh nn e0 e1 re ns nw nt) (4 * nh) 0 (mBa (mMissK ln bo bd np nh e0 e1 ns nw nt) nn 0 0 0) (-1) 0).1.toNatClampNeg (mRd (mMv ln bd db np nh re) (mBdA ln bo bd db np nh nn e0 e1 re ns nw nt) (4 * nh) 0 (mBa (mMissK ln bo bd np nh e0 e1 ns nw nt) nn 0 0 0) (-1) 0).2, ro + 1) else (0, bd, ro)
end FUN6
