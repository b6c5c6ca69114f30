section FUN2
abbrev FN5 : Type := (Nat → Int32) × (Nat → Int32) × (Nat → Int32) × (Nat → Int32) × (Nat → Int32)
theorem cl_le {x : Int32} {i : Nat} (h : x.toNatClampNeg ≤ i) (hi : i < 2147483648 := by omega) : x ≤ nI i := by
  rcases Int32.lt_or_le x 0 with h0 | h0
  · rw [Int32.le_iff_toInt_le, nI_toInt hi]
    rw [Int32.lt_iff_toInt_lt] at h0
    have : (0 : Int32).toInt = 0 := by decide
    omega
  · obtain ⟨j, hj, rfl⟩ := nI_of (x := x) (fun h => by rw [Int32.lt_iff_toInt_lt] at h; rw [Int32.le_iff_toInt_le] at h0; omega)
    rw [nI_clamp hj] at h
    exact nI_le h hi
theorem cl_nle {x : Int32} {i : Nat} (h : i < x.toNatClampNeg) : ¬ x ≤ nI i := by
  rcases Int32.lt_or_le x 0 with h0 | h0
  · exfalso
    rw [Int32.lt_iff_toInt_lt] at h0
    have h2 : (0 : Int32).toInt = 0 := by decide
    have h1 : x.toNatClampNeg = x.toInt.toNat := rfl
    rw [h1] at h
    omega
  · obtain ⟨j, hj, rfl⟩ := nI_of (x := x) (fun h => by rw [Int32.lt_iff_toInt_lt] at h; rw [Int32.le_iff_toInt_le] at h0; omega)
    rw [nI_clamp hj] at h
    exact nI_ge h hj
def fRow3 (pl sz ch : Nat → Int32) (v : Int32) : Nat → Int32 := if v = 0 then pl else if v = 1 then sz else ch
def cPl (pl : Nat → Int32) (v : Int32) (k : Nat) (x : Int32) : Nat → Int32 := if v = 0 then upd pl k x else pl
def cSz (sz : Nat → Int32) (v : Int32) (k : Nat) (x : Int32) : Nat → Int32 := if v = 0 then sz else if v = 1 then upd sz k x else sz
def cCh (ch : Nat → Int32) (v : Int32) (k : Nat) (x : Int32) : Nat → Int32 := if v = 0 then ch else if v = 1 then ch else upd ch k x
def fDiffs (ln bo pl sz ch : Nat → Int32) (np nh : Nat) (mo fa : Int32) (ln' bo' pl' sz' ch' : Nat → Int32) (np' nh' : Nat) (mo' fa' : Int32) : Int32 :=
  fRowD ln ln' np np' + fRowD bo bo' np np' + fRowD pl pl' nh nh' + fRowD sz sz' nh nh' + fRowD ch ch' nh nh' + (if mo = mo' then 0 else 1) + (if fa = fa' then 0 else 1)
def fBig (v : Int64) : Int32 := if 1099511627776 ≤ v then 1 else if (-1099511627776) < v then 0 else 1
def fShift (x y : Int64) : Nat → Nat → Int32
  | 0, i => nI i
  | r + 1, i => if fBig (x >>> ((nI i).toInt64 &&& 63)) = 0 then (if fBig (y >>> ((nI i).toInt64 &&& 63)) = 0 then nI i else fShift x y r (i + 8)) else fShift x y r (i + 8)
def fOpen (h w : Int32) : Int32 := if h = -1 then 0 else if (w >>> (h &&& 31)) &&& 1 = 1 then 1 else 0
def CutEq (mn : Nat) (lf bf hf sf cf xl xb xh xs xc : Nat → Int32) : Prop := ∀ j, j < mn → lf j = xl j ∧ bf j = xb j ∧ hf j = xh j ∧ sf j = xs j ∧ cf j = xc j
theorem CutEq_succ {i : Nat} {lf bf hf sf cf xl xb xh xs xc : Nat → Int32} (h : CutEq i lf bf hf sf cf xl xb xh xs xc) : CutEq (i + 1) (upd lf i (xl i)) (upd bf i (xb i)) (upd hf i (xh i)) (upd sf i (xs i)) (upd cf i (xc i)) xl xb xh xs xc := by
  intro j hj
  by_cases e : j = i
  · subst e; simp [upd]
  · have := h j (by omega)
    simpa [upd, e] using this
def xTurn (f l : Int32) : Int32 := f * l * 16 &&& 65535
def wS (f l : Int32) : Int64 := fSine (xTurn f l)
def wC (f l : Int32) : Int64 := fSine (xTurn f l + 16384 &&& 65535)
def xQ (b : Int32) : Int64 := (b * b).toInt64
def wP1 (f l b : Int32) (pp uu : Int64) : Int64 := ((pp * wC f l) >>> ((15 : Int32).toInt64 &&& 63)) + fQuo (((uu * wS f l) >>> ((15 : Int32).toInt64 &&& 63)) * 10000) (xQ b)
def wU1 (f l b : Int32) (pp uu : Int64) : Int64 := ((uu * wC f l) >>> ((15 : Int32).toInt64 &&& 63)) - (((pp * wS f l) >>> ((15 : Int32).toInt64 &&& 63)) * xQ b) / 10000
def wSh (f l b : Int32) (pp uu : Int64) : Int32 := fShift (wP1 f l b pp uu) (wU1 f l b pp uu) 7 0
def wP2 (f l b : Int32) (pp uu : Int64) : Int64 := wP1 f l b pp uu >>> ((wSh f l b pp uu).toInt64 &&& 63)
def wU2 (f l b : Int32) (pp uu : Int64) : Int64 := wU1 f l b pp uu >>> ((wSh f l b pp uu).toInt64 &&& 63)
def wU3 (f s c : Int32) (P U : Int64) : Int64 := U + fQuo (P * (s.toInt64 * s.toInt64)) ((25 * (s.toInt64 + c.toInt64)) * f.toInt64)
def fWl (rd : Int32) (xl xb xh xs xc : Nat → Int32) (w f : Int32) : Nat → Nat → Int64 → Int64 → Int64
  | 0, _, pp, uu => if rd = 0 then pp else uu
  | r + 1, i, pp, uu => if fOpen (xh i) w = 0 then fWl rd xl xb xh xs xc w f r (i + 1) (wP2 f (xl i) (xb i) pp uu) (wU2 f (xl i) (xb i) pp uu) else fWl rd xl xb xh xs xc w f r (i + 1) (wP2 f (xl i) (xb i) pp uu) (wU3 f (xs i) (xc i) (wP2 f (xl i) (xb i) pp uu) (wU2 f (xl i) (xb i) pp uu))
def fWorth (su rd : Int32) (mn : Nat) (xl xb xh xs xc : Nat → Int32) (w f : Int32) : Int64 := fWl rd xl xb xh xs xc w f mn 0 (if su = 0 then 0 else 1048576) (if su = 0 then 1048576 else 0)
def fAb (w : Int64) : Int32 := if w ≤ 0 then 0 else 1
def fTone (w : Int32 → Int64) (k : Int32) : Nat → Nat → Int32 → Int32 → Int32
  | 0, _, z, _ => if k = -1 then z else -1
  | r + 1, i, z, y => if y = fAb (w (nI (i + 1))) then fTone w k r (i + 1) z (fAb (w (nI (i + 1)))) else if z = k then nI i else fTone w k r (i + 1) (z + 1) (fAb (w (nI (i + 1))))
def fToneOf (w : Int32 → Int64) (k : Int32) : Int32 := fTone w k 299 1 0 (fAb (w 1))
def fFlag (v : Int32) : Int32 := if v = 1 then 1 else 0
theorem nar_fFlag (v : Int32) : narrow .boolean (.int (fFlag v)) = .int (fFlag v) := by unfold fFlag; split <;> rfl
theorem fit_fFlag (v : Int32) : fits .boolean (.int (fFlag v)) = true := by unfold fFlag; split <;> rfl
def xPrev (ln pl : Nat → Int32) (np nh : Nat) (v : Int32) : Int32 := if fSum ln (fPieceAt ln v np 0 0).toNatClampNeg 0 0 < fLast pl v nh 0 0 then fLast pl v nh 0 0 else fSum ln (fPieceAt ln v np 0 0).toNatClampNeg 0 0
def seqX (ln pl : Nat → Int32) (np nh : Nat) : Nat → Int32
  | 0 => fSum ln np 0 0
  | i + 1 => xPrev ln pl np nh (seqX ln pl np nh i)
theorem seqX_succ (ln pl : Nat → Int32) (np nh i : Nat) : seqX ln pl np nh (i + 1) = if fSum ln (fPieceAt ln (seqX ln pl np nh i) np 0 0).toNatClampNeg 0 0 < fLast pl (seqX ln pl np nh i) nh 0 0 then fLast pl (seqX ln pl np nh i) nh 0 0 else fSum ln (fPieceAt ln (seqX ln pl np nh i) np 0 0).toNatClampNeg 0 0 := rfl
theorem fPieceAt_cl (ln : Nat → Int32) (v : Int32) (N : Nat) (hN : N < 2147483648) : ∀ (r i : Nat) (z : Int32), i + r = N → (fPieceAt ln v r i z).toNatClampNeg ≤ N := by
  intro r
  induction r with
  | zero => intro i z _; exact Nat.zero_le _
  | succ r ih =>
    intro i z h
    unfold fPieceAt
    split
    · exact ih (i + 1) _ (by omega)
    · rw [nI_clamp (by omega)]; omega
theorem fPieceAt_le {ln : Nat → Int32} {v : Int32} {np : Nat} (h : np ≤ 12) : (fPieceAt ln v np 0 0).toNatClampNeg ≤ 12 := Nat.le_trans (fPieceAt_cl ln v np (by omega) np 0 0 (by omega)) h
def xL (ln pl : Nat → Int32) (np nh i : Nat) : Int32 := seqX ln pl np nh i - seqX ln pl np nh (i + 1)
def xB (ln bo pl : Nat → Int32) (np nh i : Nat) : Int32 := fAt 12 bo (fPieceAt ln (seqX ln pl np nh i) np 0 0)
def xH (ln pl : Nat → Int32) (np nh i : Nat) : Int32 := fHoleAt pl (seqX ln pl np nh (i + 1)) nh 0
def xS (ln pl sz : Nat → Int32) (np nh i : Nat) : Int32 := fAt 6 sz (xH ln pl np nh i)
def xC (ln pl ch : Nat → Int32) (np nh i : Nat) : Int32 := fAt 6 ch (xH ln pl np nh i)
def fCut (ln pl : Nat → Int32) (np nh : Nat) : Nat → Nat → Nat
  | 0, i => i
  | r + 1, i => if seqX ln pl np nh i ≤ 0 then i else fCut ln pl np nh r (i + 1)
def xMany (ln pl : Nat → Int32) (np nh : Nat) : Nat := fCut ln pl np nh 18 0
end FUN2
