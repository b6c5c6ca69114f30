section INVS
/-- a pipe as it may be -/
def PI (ln bo pl sz ch : Nat → Int32) (np nh : Nat) (mo fa : Int32) : Prop :=
  np ≤ 12 ∧ nh ≤ 6 ∧ (∀ j, j < np → ∃ k, 1 ≤ k ∧ k ≤ 400 ∧ ln j = nI k) ∧ (∀ j, j < np → ∃ k, 1 ≤ k ∧ k ≤ 100 ∧ bo j = nI k) ∧
  (∀ j, j < nh → ∃ k T, 1 ≤ k ∧ k < T ∧ T ≤ 4800 ∧ pl j = nI k ∧ fSum ln np 0 0 = nI T) ∧ (∀ j, j < nh → ∃ k, 1 ≤ k ∧ k ≤ 60 ∧ sz j = nI k) ∧ (∀ j, j < nh → ∃ k, k ≤ 60 ∧ ch j = nI k) ∧
  (∀ i j, i < nh → j < nh → pl i = pl j → i = j) ∧ (mo = 0 ∨ mo = 1) ∧ (fa = 0 ∨ fa = 1)
/-- the reference's holes in one row -/
def HR (pl sz ch bd : Nat → Int32) : Prop := ∀ k, k < 6 → bd (3 * k) = pl k ∧ bd (3 * k + 1) = sz k ∧ bd (3 * k + 2) = ch k
/-- a shelf on both sides -/
def SR (sh : Nat → Int32) (k : Nat) (u : Int32) (ln bo pl sz ch : Nat → Int32) (np nh : Nat) (mo fa : Int32) : Prop :=
  np ≤ 12 ∧ nh ≤ 6 ∧ ((u = 0 ∧ sh (50 * k) = -1) ∨ (u = 1 ∧ PI ln bo pl sz ch np nh mo fa ∧ sh (50 * k) = nI np ∧ sh (50 * k + 1) = nI nh ∧ sh (50 * k + 2) = mo ∧ sh (50 * k + 3) = fa ∧
    (∀ j, j < 12 → sh (50 * k + 4 + 2 * j) = ln j ∧ sh (50 * k + 5 + 2 * j) = bo j) ∧ (∀ j, j < 6 → sh (50 * k + 28 + 3 * j) = pl j ∧ sh (50 * k + 28 + (3 * j + 1)) = sz j ∧ sh (50 * k + 28 + (3 * j + 2)) = ch j)))
def NI (nn : Nat) (ns nw nt : Nat → Int32) : Prop := nn ≤ 6 ∧ ∀ j, j < nn → (∃ k, k ≤ 63 ∧ ns j = nI k) ∧ (∃ k, k ≤ 5 ∧ nw j = nI k) ∧ (∃ k, 1 ≤ k ∧ k ≤ 300 ∧ nt j = nI k)
/-- the drills as a set and as a row -/
def DI (dr : Int64) (db : Nat → Int32) : Prop := (∀ s, 1 ≤ s → s ≤ 60 → (db s = 0 ∨ db s = 1) ∧ (db s = 1 ↔ dr.toBitVec.getLsbD s = true)) ∧ dr.toBitVec.getLsbD 0 = false ∧ ∀ s, 61 ≤ s → dr.toBitVec.getLsbD s = false
def INV (dr : Int64) (re : Int32) (np nh : Nat) (mo fa : Int32) (ln bo pl sz ch : Nat → Int32) (ua : Int32) (npA nhA : Nat) (moA faA : Int32) (lnA boA plA szA chA : Nat → Int32) (ub : Int32) (npB nhB : Nat) (moB faB : Int32) (lnB boB plB szB chB : Nat → Int32) (nn : Nat) (ns nw nt bd en db sh : Nat → Int32) : Prop :=
  PI ln bo pl sz ch np nh mo fa ∧ HR pl sz ch bd ∧ (en 0 = mo ∧ en 1 = fa) ∧ NI nn ns nw nt ∧ DI dr db ∧ (∃ k, 1 ≤ k ∧ k ≤ 100 ∧ re = nI k) ∧ SR sh 0 ua lnA boA plA szA chA npA nhA moA faA ∧ SR sh 1 ub lnB boB plB szB chB npB nhB moB faB
end INVS
