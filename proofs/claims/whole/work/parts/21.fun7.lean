section FUN7
abbrev ST8 : Type := Nat × Int32 × Int32 × (Nat → Int32) × (Nat → Int32) × (Nat → Int32) × (Nat → Int32) × (Nat → Int32)
abbrev MV4 : Type := Int32 × Int32 × Int32 × Int32
theorem fIn_rng {x A B : Int32} {a b : Nat} (h : ¬ fIn x A B = 0) (hA : A.toInt = a) (hB : B.toInt = b) : ∃ k : Nat, a ≤ k ∧ k ≤ b ∧ x = nI k := by
  unfold fIn at h
  by_cases h1 : x < A
  · rw [if_pos h1] at h; exact absurd rfl h
  · rw [if_neg h1] at h
    by_cases h2 : B < x
    · rw [if_pos h2] at h; exact absurd rfl h
    · rw [Int32.lt_iff_toInt_lt, hA] at h1
      rw [Int32.lt_iff_toInt_lt, hB] at h2
      have h0 : ¬ x < 0 := by
        rw [Int32.lt_iff_toInt_lt]
        have : (0 : Int32).toInt = 0 := by decide
        omega
      obtain ⟨j, hj, rfl⟩ := nI_of h0
      rw [nI_toInt hj] at h1 h2
      exact ⟨j, by omega, by omega, rfl⟩
theorem fIn_hole {x : Int32} {nh : Nat} (h : ¬ fIn x 0 (nI nh - 1) = 0) (hn : nh < 2147483648) : ∃ k, k < nh ∧ x = nI k := by
  have e : (nI nh - 1).toInt = (nh : Int) - 1 := nI_pred_toInt hn
  rcases Nat.eq_zero_or_pos nh with h0 | h0
  · subst h0
    exfalso; apply h
    unfold fIn
    by_cases h1 : x < 0
    · rw [if_pos h1]
    · rw [if_neg h1, if_pos]
      have c0 : (0 : Int32).toInt = 0 := by decide
      rw [Int32.lt_iff_toInt_lt, e]
      rw [Int32.lt_iff_toInt_lt, c0] at h1
      omega
  · obtain ⟨k, -, hk, e2⟩ := fIn_rng (a := 0) (b := nh - 1) h (by decide) (by rw [e]; omega)
    exact ⟨k, by omega, e2⟩
def xMay (x v W : Int32) : Int32 := if x = 0 then fIn v 1 (W - 1) else if x = 1 then fIn v 1 60 else if x = 2 then fIn v 0 60 else 0
def xPiece (x y : Int32) (np : Nat) (ln bo : Nat → Int32) : Int32 × Nat × (Nat → Int32) × (Nat → Int32) :=
  if fIsPiece x y = 0 then (-1002, np, ln, bo) else if nI np < 12 then (fSum (upd ln np x) (np + 1) 0 0, np + 1, upd ln np x, upd bo np y) else (-1004, np, ln, bo)
def xConeV (y z : Int32) (N i : Nat) : Int32 := y + (fQuo ((z - y) * nI i).toInt64 (nI N - 1).toInt64).toInt32
def xConeB (bo : Nat → Int32) (np : Nat) (y z : Int32) (N : Nat) : Nat → Nat → Int32
  | 0 => bo
  | i + 1 => upd (xConeB bo np y z N i) (np + i) (xConeV y z N i)
def xCone (x y z w : Int32) (np : Nat) (ln bo : Nat → Int32) : Int32 × Nat × (Nat → Int32) × (Nat → Int32) :=
  if fIsPiece x y = 0 then (-1002, np, ln, bo) else if fIsPiece x z = 0 then (-1002, np, ln, bo) else if fIn w 2 12 = 0 then (-1002, np, ln, bo) else
  if nI (np + w.toNatClampNeg) ≤ 12 then (fSum (coneL ln np x w.toNatClampNeg) (np + w.toNatClampNeg) 0 0, np + w.toNatClampNeg, coneL ln np x w.toNatClampNeg, xConeB bo np y z w.toNatClampNeg w.toNatClampNeg) else (-1004, np, ln, bo)
def xHole (x y z : Int32) (nh : Nat) (pl sz ch : Nat → Int32) (W : Int32) : Int32 × Nat × (Nat → Int32) × (Nat → Int32) × (Nat → Int32) :=
  if xMay 0 x W = 0 then (-1002, nh, pl, sz, ch) else if xMay 1 y W = 0 then (-1002, nh, pl, sz, ch) else if xMay 2 z W = 0 then (-1002, nh, pl, sz, ch) else
  if fHoleAt pl x nh 0 = -1 then (if nI nh < 6 then (nI (nh + 1) - 1, nh + 1, upd pl nh x, upd sz nh y, upd ch nh z) else (-1004, nh, pl, sz, ch)) else (-1003, nh, pl, sz, ch)
def xSet (x y v : Int32) (nh : Nat) (pl sz ch : Nat → Int32) (W : Int32) : Int32 × (Nat → Int32) × (Nat → Int32) × (Nat → Int32) :=
  if fIn x 0 (nI nh - 1) = 0 then (-1001, pl, sz, ch) else if xMay y v W = 0 then (-1002, pl, sz, ch) else
  if y = 0 then (if v = pl x.toNatClampNeg then (fRow3 pl sz ch y x.toNatClampNeg, cPl pl y x.toNatClampNeg v, cSz sz y x.toNatClampNeg v, cCh ch y x.toNatClampNeg v) else if fHoleAt pl v nh 0 = -1 then (fRow3 pl sz ch y x.toNatClampNeg, cPl pl y x.toNatClampNeg v, cSz sz y x.toNatClampNeg v, cCh ch y x.toNatClampNeg v) else (-1003, pl, sz, ch))
  else (fRow3 pl sz ch y x.toNatClampNeg, cPl pl y x.toNatClampNeg v, cSz sz y x.toNatClampNeg v, cCh ch y x.toNatClampNeg v)
def xEnd (x v mo fa : Int32) : Int32 × Int32 × Int32 :=
  if fIn x 0 1 = 0 then (-1002, mo, fa) else if fIn v 0 1 = 0 then (-1002, mo, fa) else if x = 0 then (mo, v, fa) else (fa, mo, v)
def xTold (x y : Int32) (np : Nat) (ln bo : Nat → Int32) : Int32 :=
  if fIn x 0 (nI np - 1) = 0 then -1001 else if fIn y 0 1 = 0 then -1002 else if y = 0 then ln x.toNatClampNeg else bo x.toNatClampNeg
def xBored (x y : Int32) (np nh : Nat) (ln pl sz ch : Nat → Int32) : Int32 :=
  if fIn x 0 (nI nh - 1) = 0 then -1001 else if fIn y 0 4 = 0 then -1002 else if y = 3 then fPieceAt ln (pl x.toNatClampNeg) np 0 0 else if y = 4 then fBefore pl (pl x.toNatClampNeg) nh 0 0 else fRow3 pl sz ch y x.toNatClampNeg
def xSineP (x : Int32) : Int32 := if fIn x 0 65535 = 0 then -1002 else (fSine x).toInt32
def xW (ln bo pl sz ch : Nat → Int32) (np nh : Nat) (mo fa : Int32) : Int32 → Int32 → Int64 := fWorth (fFlag fa) (fFlag mo) (xMany ln pl np nh) (xL ln pl np nh) (xB ln bo pl np nh) (xH ln pl np nh) (xS ln pl sz np nh) (xC ln pl ch np nh)
theorem fCut_le (ln pl : Nat → Int32) (np nh N : Nat) : ∀ (r i : Nat), i + r = N → fCut ln pl np nh r i ≤ N := by
  intro r
  induction r with
  | zero => intro i h; unfold fCut; omega
  | succ r ih =>
    intro i h
    unfold fCut
    split
    · omega
    · exact ih (i + 1) (by omega)
theorem xMany_le {ln pl : Nat → Int32} {np nh : Nat} : xMany ln pl np nh ≤ 18 := fCut_le ln pl np nh 18 18 0 (by omega)
def xWorthP (W : Int32 → Int32 → Int64) (f w : Int32) (np : Nat) : Int64 :=
  if fIn f 1 300 = 0 then -1002 else if fIn w 0 63 = 0 then -1002 else if nI np = 0 then -1003 else W w f
def xToneP (W : Int32 → Int32 → Int64) (w k : Int32) (np : Nat) : Int32 :=
  if fIn w 0 63 = 0 then -1002 else if -1 ≤ k then (if nI np = 0 then -1003 else fToneOf (W w) k) else -1002
def xNr (T : Int32 → Int32) (v : Int32) : Nat → Nat → Int32 → Int32 → Int32 × Int32
  | 0, _, b, t => (b, t)
  | r + 1, i, b, t => if fMiss t v ≤ fMiss (T (nI i)) v then xNr T v r (i + 1) b t else xNr T v r (i + 1) (nI i) (T (nI i))
def xNearest (W : Int32 → Int32 → Int64) (v y : Int32) (np nh : Nat) : Int32 :=
  if fIn v 1 300 = 0 then -1002 else if fIn y 0 1 = 0 then -1002 else if nI np = 0 then -1003 else if y = 0 then (xNr (fun o => fToneOf (W o) 0) v (2 ^ nh) 0 (-1) (-1)).1 else (xNr (fun o => fToneOf (W o) 0) v (2 ^ nh) 0 (-1) (-1)).2
def xNote (x y z : Int32) (nn : Nat) (ns nw nt : Nat → Int32) : Int32 × Nat × (Nat → Int32) × (Nat → Int32) × (Nat → Int32) :=
  if fIn x 0 63 = 0 then (-1002, nn, ns, nw, nt) else if fIn y 0 5 = 0 then (-1002, nn, ns, nw, nt) else if fIn z 1 300 = 0 then (-1002, nn, ns, nw, nt) else if nI nn < 6 then (nI (nn + 1) - 1, nn + 1, upd ns nn x, upd nw nn y, upd nt nn z) else (-1004, nn, ns, nw, nt)
def xTk (W : Int32 → Int32 → Int64) (ns nw : Nat → Int32) (k : Nat) : Int32 := fToneOf (W (ns k)) (nw k)
def xMk (W : Int32 → Int32 → Int64) (ns nw nt : Nat → Int32) (k : Nat) : Int32 := fMiss (xTk W ns nw k) (nt k)
def xNoted (W : Int32 → Int32 → Int64) (x y : Int32) (nn : Nat) (ns nw nt : Nat → Int32) : Int32 :=
  if fIn x 0 (nI nn - 1) = 0 then -1001 else if y = 0 then ns x.toNatClampNeg else if y = 1 then nw x.toNatClampNeg else if y = 2 then nt x.toNatClampNeg else if y = 3 then xTk W ns nw x.toNatClampNeg else if y = 4 then xMk W ns nw nt x.toNatClampNeg else -1002
def xRk (mk : Nat → Int32) (bd : Int32) : Nat → Nat → Int32 → Int32 → Int32
  | 0, _, g, s => g * 1801 + s
  | r + 1, i, g, s => if bd ≤ g * 1801 + s then g * 1801 + s else xRk mk bd r (i + 1) (if g < mk i then mk i else g) (s + mk i)
def fBit1 (v : Int64) : Int64 := v - ((v.toUInt64 >>> ((1 : Int32).toInt64.toUInt64 &&& Int64.toUInt64 63)).toInt64 &&& 6148914691236517205)
def fBit2 (v : Int64) : Int64 := (v &&& 3689348814741910323) + ((v.toUInt64 >>> ((2 : Int32).toInt64.toUInt64 &&& Int64.toUInt64 63)).toInt64 &&& 3689348814741910323)
def fBit3 (v : Int64) : Int64 := v + (v.toUInt64 >>> ((4 : Int32).toInt64.toUInt64 &&& Int64.toUInt64 63)).toInt64 &&& 1085102592571150095
def fBit4 (v : Int64) : Int64 := v + (v.toUInt64 >>> ((8 : Int32).toInt64.toUInt64 &&& Int64.toUInt64 63)).toInt64
def fBit5 (v : Int64) : Int64 := v + (v.toUInt64 >>> ((16 : Int32).toInt64.toUInt64 &&& Int64.toUInt64 63)).toInt64
def fBit6 (v : Int64) : Int64 := v + (v.toUInt64 >>> ((32 : Int32).toInt64.toUInt64 &&& Int64.toUInt64 63)).toInt64
def fBit (v : Int64) : Int32 := (fBit6 (fBit5 (fBit4 (fBit3 (fBit2 (fBit1 v)))))).toInt32 &&& 127
def xDrill (x y : Int32) (dr : Int64) : Int32 × Int64 :=
  if fIn x 1 60 = 0 then (-1002, dr) else if y = 0 then (fBit (dr &&& ((1 <<< (x.toInt64 &&& 63)) ^^^ (-1))), dr &&& ((1 <<< (x.toInt64 &&& 63)) ^^^ (-1))) else (fBit (dr ||| (1 <<< (x.toInt64 &&& 63))), dr ||| (1 <<< (x.toInt64 &&& 63)))
def xReach (x re : Int32) : Int32 × Int32 := if fIn x 1 100 = 0 then (-1002, re) else (re, x)
def xCount (y : Int32) (np nh nn : Nat) (W mo fa re dr : Int32) (rk ro : Int32) : Int32 :=
  if y = 0 then nI np else if y = 1 then nI nh else if y = 2 then nI nn else if y = 3 then W else if y = 4 then mo else if y = 5 then fa else if y = 6 then re else if y = 7 then dr else if y = 8 then rk / 1801 else if y = 9 then rk - rk / 1801 * 1801 else if y = 10 then ro else -1002
def xPM (pl : Nat → Int32) (nh : Nat) (re : Int32) (k : Nat) (w W : Int32) : Int32 :=
  if xMay 0 (pl k + w) W = 0 then -1 else if fHoleAt pl (pl k + w) nh 0 = -1 then (if fGap pl k w nh 0 0 = re then -1 else pl k + w) else -1
def xNS (v w : Int32) (dr : Int64) : Nat → Nat → Int32
  | 0, _ => -1
  | r + 1, i => if fIn (v + nI i * w) 1 60 = 0 then xNS v w dr r (i + 1) else if (dr >>> ((v + nI i * w).toInt64 &&& 63)) &&& 1 = 1 then v + nI i * w else xNS v w dr r (i + 1)
def fShelf (a b : Nat) (v : Int32) : Nat := if v = 0 then a else b
def xKA {α : Type} (x : Int32) (o n : α) : α := if fIn x 0 1 = 0 then o else if x = 0 then n else o
def xKB {α : Type} (x : Int32) (o n : α) : α := if fIn x 0 1 = 0 then o else if x = 0 then o else n
def xKR (x : Int32) : Int32 := if fIn x 0 1 = 0 then -1001 else 1
def xBk {α : Type} (x ua ub : Int32) (o na nb : α) : α := if fIn x 0 1 = 0 then o else if x = 0 then (if ua = 0 then o else na) else (if ub = 0 then o else nb)
def xBR (x ua ub : Int32) : Int32 := if fIn x 0 1 = 0 then -1001 else if x = 0 then (if ua = 0 then -1003 else 1) else (if ub = 0 then -1003 else 1)
def xDf (x ua ub da db : Int32) : Int32 := if fIn x 0 1 = 0 then -1001 else if x = 0 then (if ua = 0 then -1003 else da) else (if ub = 0 then -1003 else db)
end FUN7
