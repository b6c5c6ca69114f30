section FUN
theorem vpin_of {i : Int32} {n : Nat} (h1 : ¬ i < 0) (h2 : ¬ nI n ≤ i) (hn : n < 2147483648) : vp_in i n := by
  obtain ⟨j, hj, rfl⟩ := nI_of h1
  have : j < n := by
    rcases Nat.lt_or_ge j n with h | h
    · exact h
    · exact absurd (nI_le h hj) h2
  exact vp_in_nI this hn
def fAt (n : Nat) (f : Nat → Int32) (i : Int32) : Int32 := if i < 0 then 0 else if nI n ≤ i then 0 else f i.toNatClampNeg
theorem fAt_in {n k : Nat} (f : Nat → Int32) (hk : k < n) (hn : n < 2147483648) : fAt n f (nI k) = f k := by
  unfold fAt
  rw [if_neg (nI_pos (Nat.lt_trans hk hn)), if_neg (nI_ge hk hn), nI_clamp (Nat.lt_trans hk hn)]
def fPut (n : Nat) (f : Nat → Int32) (i v : Int32) : Nat → Int32 := if i < 0 then f else if nI n ≤ i then f else upd f i.toNatClampNeg v
theorem fPut_in {n k : Nat} (f : Nat → Int32) (v : Int32) (hk : k < n) (hn : n < 2147483648) : fPut n f (nI k) v = upd f k v := by
  unfold fPut
  rw [if_neg (nI_pos (Nat.lt_trans hk hn)), if_neg (nI_ge hk hn), nI_clamp (Nat.lt_trans hk hn)]
def fIn (v x y : Int32) : Int32 := if v < x then 0 else if y < v then 0 else 1
def fIsPiece (x y : Int32) : Int32 := if fIn x 1 400 = 0 then 0 else if fIn y 1 100 = 0 then 0 else 1
def fQuo (x y : Int64) : Int64 := if y = 0 then 0 else x / y
def fSX (t : Int32) : Int64 := (t &&& 32767).toInt64
def fSP (t : Int32) : Int64 := fSX t * (32768 - fSX t)
def fSV (t : Int32) : Int64 := fQuo (131068 * fSP t) (1342177280 - fSP t)
def fSine (t : Int32) : Int64 := if t &&& 32768 = 0 then fSV t else -(fSV t)
def fMiss (t w : Int32) : Int32 := if t = -1 then 300 else if 0 ≤ t - w then t - w else 0 - (t - w)
def cpyF (f g : Nat → Int32) (n : Nat) : Nat → Int32 := fun j => if j < n then f j else g j
theorem cpyF_0 (f g : Nat → Int32) : cpyF f g 0 = g := by funext j; simp [cpyF]
theorem cpyF_upd (f g : Nat → Int32) (i : Nat) : upd (cpyF f g i) i (f i) = cpyF f g (i + 1) := by
  funext j
  unfold upd cpyF
  by_cases h : j = i
  · subst h; simp
  · by_cases h2 : j < i
    · rw [if_neg h, if_pos h2, if_pos (by omega)]
    · rw [if_neg h, if_neg h2, if_neg (by omega)]
theorem fMin_eq {a b : Nat} (ha : a < 2147483648) (hb : b < 2147483648) : (if nI b < nI a then nI b else nI a) = nI (min a b) := by
  by_cases h : b < a
  · rw [if_pos (nI_lt h ha), Nat.min_eq_right (Nat.le_of_lt h)]
  · rw [if_neg (nI_nlt (Nat.le_of_not_lt h) hb), Nat.min_eq_left (Nat.le_of_not_lt h)]
def fRowD0 (na nb : Nat) : Int32 := (if nI na < nI nb then nI nb else nI na) - nI (min na nb)
def fDiff (f g : Nat → Int32) : Nat → Nat → Int32 → Int32
  | 0, _, z => z
  | r + 1, i, z => if f i = g i then fDiff f g r (i + 1) z else fDiff f g r (i + 1) (z + 1)
def fRowD (f g : Nat → Int32) (na nb : Nat) : Int32 := fDiff f g (min na nb) 0 (fRowD0 na nb)
def fSum (ln : Nat → Int32) : Nat → Nat → Int32 → Int32
  | 0, _, z => z
  | r + 1, i, z => fSum ln r (i + 1) (z + ln i)
def fPieceAt (ln : Nat → Int32) (v : Int32) : Nat → Nat → Int32 → Int32
  | 0, _, _ => -1
  | r + 1, i, z => if z + ln i < v then fPieceAt ln v r (i + 1) (z + ln i) else nI i
def fHoleAt (pl : Nat → Int32) (v : Int32) : Nat → Nat → Int32
  | 0, _ => -1
  | r + 1, i => if pl i = v then nI i else fHoleAt pl v r (i + 1)
def fBefore (pl : Nat → Int32) (v : Int32) : Nat → Nat → Int32 → Int32
  | 0, _, z => z
  | r + 1, i, z => if v ≤ pl i then fBefore pl v r (i + 1) z else fBefore pl v r (i + 1) (z + 1)
def fLast (pl : Nat → Int32) (v : Int32) : Nat → Nat → Int32 → Int32
  | 0, _, z => z
  | r + 1, i, z => if v ≤ pl i then fLast pl v r (i + 1) z else fLast pl v r (i + 1) (if z < pl i then pl i else z)
def fGapD (pl : Nat → Int32) (k : Nat) (w : Int32) (i : Nat) : Int32 := (pl i - pl k) * w
def fGap (pl : Nat → Int32) (k : Nat) (w : Int32) : Nat → Nat → Int32 → Int32
  | 0, _, z => z
  | r + 1, i, z => if fGapD pl k w i ≤ 0 then fGap pl k w r (i + 1) z else if z = 0 then fGap pl k w r (i + 1) (fGapD pl k w i) else if z ≤ fGapD pl k w i then fGap pl k w r (i + 1) z else fGap pl k w r (i + 1) (fGapD pl k w i)
def fRowOf (a b c : Nat) (v : Int32) : Nat := if v = 0 then a else if v = 1 then b else c
end FUN
