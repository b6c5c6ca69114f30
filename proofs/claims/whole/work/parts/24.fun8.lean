section FUN8
theorem cPl_back {pl sz ch : Nat → Int32} {y v : Int32} {k : Nat} : cPl (cPl pl y k v) y k (fRow3 pl sz ch y k) = pl := by
  unfold cPl fRow3
  by_cases h : y = 0
  · simp only [if_pos h]; exact upd_back
  · simp only [if_neg h]
theorem cSz_back {pl sz ch : Nat → Int32} {y v : Int32} {k : Nat} : cSz (cSz sz y k v) y k (fRow3 pl sz ch y k) = sz := by
  unfold cSz fRow3
  by_cases h : y = 0
  · simp only [if_pos h]
  · by_cases h1 : y = 1
    · simp only [if_neg h, if_pos h1]; exact upd_back
    · simp only [if_neg h, if_neg h1]
theorem cCh_back {pl sz ch : Nat → Int32} {y v : Int32} {k : Nat} : cCh (cCh ch y k v) y k (fRow3 pl sz ch y k) = ch := by
  unfold cCh fRow3
  by_cases h : y = 0
  · simp only [if_pos h]
  · by_cases h1 : y = 1
    · simp only [if_neg h, if_pos h1]
    · simp only [if_neg h, if_neg h1]; exact upd_back
def xTryR (ln bo pl sz ch : Nat → Int32) (np nh : Nat) (mo fa : Int32) (nn : Nat) (ns nw nt : Nat → Int32) (k : Nat) (y v b : Int32) : Int32 :=
  xRk (xMk (xW ln bo (cPl pl y k v) (cSz sz y k v) (cCh ch y k v) np nh mo fa) ns nw nt) b nn 0 0 0
def xTryT (ln bo pl sz ch : Nat → Int32) (np nh : Nat) (mo fa : Int32) (nn : Nat) (ns nw nt : Nat → Int32) (k : Nat) (y v : Int32) (q : MV4) : MV4 :=
  if v = -1 then q else if q.1 ≤ xTryR ln bo pl sz ch np nh mo fa nn ns nw nt k y v q.1 then q else (xTryR ln bo pl sz ch np nh mo fa nn ns nw nt k y v q.1, nI k, y, v)
def QOK (q : MV4) : Prop := q.2.1 = -1 ∨ ∃ j, j < 6 ∧ q.2.1 = nI j
theorem xTryT_ok {ln bo pl sz ch : Nat → Int32} {np nh : Nat} {mo fa : Int32} {nn : Nat} {ns nw nt : Nat → Int32} {k : Nat} {y v : Int32} {q : MV4} (hk : k < 6) (hq : QOK q) : QOK (xTryT ln bo pl sz ch np nh mo fa nn ns nw nt k y v q) := by
  unfold xTryT
  split
  · exact hq
  · split
    · exact hq
    · exact Or.inr ⟨k, hk, rfl⟩
def xTry4 (ln bo pl sz ch : Nat → Int32) (np nh : Nat) (mo fa : Int32) (nn : Nat) (ns nw nt : Nat → Int32) (re : Int32) (dr : Int64) (k : Nat) (q : MV4) : MV4 :=
  xTryT ln bo pl sz ch np nh mo fa nn ns nw nt k 1 (xNS (sz k) (-1) dr 59 1) (xTryT ln bo pl sz ch np nh mo fa nn ns nw nt k 1 (xNS (sz k) 1 dr 59 1) (xTryT ln bo pl sz ch np nh mo fa nn ns nw nt k 0 (xPM pl nh re k (-1) (fSum ln np 0 0)) (xTryT ln bo pl sz ch np nh mo fa nn ns nw nt k 0 (xPM pl nh re k 1 (fSum ln np 0 0)) q)))
def iterF (f : Nat → MV4 → MV4) : MV4 → Nat → Nat → MV4
  | q, _, 0 => q
  | q, i, r + 1 => iterF f (f i q) (i + 1) r
theorem iterF_0 {f : Nat → MV4 → MV4} {q : MV4} {i : Nat} : iterF f q i 0 = q := rfl
theorem iterF_s {f : Nat → MV4 → MV4} {q : MV4} {i r : Nat} : iterF f q i (r + 1) = iterF f (f i q) (i + 1) r := rfl
def xRd0 (ln bo pl sz ch : Nat → Int32) (np nh : Nat) (mo fa : Int32) (nn : Nat) (ns nw nt : Nat → Int32) (re : Int32) (dr : Int64) (wh va : Int32) : MV4 :=
  iterF (xTry4 ln bo pl sz ch np nh mo fa nn ns nw nt re dr) (xRk (xMk (xW ln bo pl sz ch np nh mo fa) ns nw nt) 3243601 nn 0 0 0, -1, wh, va) 0 nh
def xRound (ln bo pl sz ch : Nat → Int32) (np nh : Nat) (mo fa : Int32) (nn : Nat) (ns nw nt : Nat → Int32) (re : Int32) (dr : Int64) (ro wh va : Int32) : Int32 × (Nat → Int32) × (Nat → Int32) × (Nat → Int32) × Int32 :=
  if nI np = 0 then (-1003, pl, sz, ch, ro) else if nI nh = 0 then (-1003, pl, sz, ch, ro) else if nI nn = 0 then (-1003, pl, sz, ch, ro) else
  if (xRd0 ln bo pl sz ch np nh mo fa nn ns nw nt re dr wh va).2.1 = -1 then (0, pl, sz, ch, ro) else
  (1, cPl pl (xRd0 ln bo pl sz ch np nh mo fa nn ns nw nt re dr wh va).2.2.1 (xRd0 ln bo pl sz ch np nh mo fa nn ns nw nt re dr wh va).2.1.toNatClampNeg (xRd0 ln bo pl sz ch np nh mo fa nn ns nw nt re dr wh va).2.2.2, cSz sz (xRd0 ln bo pl sz ch np nh mo fa nn ns nw nt re dr wh va).2.2.1 (xRd0 ln bo pl sz ch np nh mo fa nn ns nw nt re dr wh va).2.1.toNatClampNeg (xRd0 ln bo pl sz ch np nh mo fa nn ns nw nt re dr wh va).2.2.2, cCh ch (xRd0 ln bo pl sz ch np nh mo fa nn ns nw nt re dr wh va).2.2.1 (xRd0 ln bo pl sz ch np nh mo fa nn ns nw nt re dr wh va).2.1.toNatClampNeg (xRd0 ln bo pl sz ch np nh mo fa nn ns nw nt re dr wh va).2.2.2, ro + 1)
theorem xTry4_e {ln bo pl sz ch : Nat → Int32} {np nh : Nat} {mo fa : Int32} {nn : Nat} {ns nw nt : Nat → Int32} {re : Int32} {dr : Int64} {k : Nat} {q qa qb qc qd : MV4} (ea : qa = xTryT ln bo pl sz ch np nh mo fa nn ns nw nt k 0 (xPM pl nh re k 1 (fSum ln np 0 0)) q) (eb : qb = xTryT ln bo pl sz ch np nh mo fa nn ns nw nt k 0 (xPM pl nh re k (-1) (fSum ln np 0 0)) qa) (ec : qc = xTryT ln bo pl sz ch np nh mo fa nn ns nw nt k 1 (xNS (sz k) 1 dr 59 1) qb) (ed : qd = xTryT ln bo pl sz ch np nh mo fa nn ns nw nt k 1 (xNS (sz k) (-1) dr 59 1) qc) : xTry4 ln bo pl sz ch np nh mo fa nn ns nw nt re dr k q = qd := by
  rw [ed, ec, eb, ea]; rfl
abbrev ST12 : Type := Int32 × Int32 × Int32 × Int32 × ST8
end FUN8
