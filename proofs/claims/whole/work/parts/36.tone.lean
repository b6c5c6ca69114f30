section TONE
theorem fTone_s (w : Int32 → Int64) (k : Int32) (r i : Nat) (z y : Int32) : fTone w k (r + 1) i z y = if y = fAb (w (nI (i + 1))) then fTone w k r (i + 1) z (fAb (w (nI (i + 1)))) else if z = k then nI i else fTone w k r (i + 1) (z + 1) (fAb (w (nI (i + 1)))) := rfl
theorem mTone_s (w : Int32 → Int64) (k : Int32) (r i : Nat) (z y : Int32) : mTone w k (r + 1) i z y = if y = fAb (w (nI (i + 1))) then mTone w k r (i + 1) z (fAb (w (nI (i + 1)))) else if z = k then (nI i, z) else mTone w k r (i + 1) (z + 1) (fAb (w (nI (i + 1)))) := rfl
theorem tone_cg {w w' : Int32 → Int64} (k : Int32) : ∀ r i z y, (∀ a, 1 ≤ a → a ≤ i + r → w (nI a) = w' (nI a)) → mTone w k r i z y = mTone w' k r i z y := by
  intro r
  induction r with
  | zero => intro i z y _; rfl
  | succ r ih =>
    intro i z y h
    rw [mTone_s, mTone_s, h (i + 1) (by omega) (by omega)]
    rw [ih (i + 1) z _ (fun a p q => h a p (by omega)), ih (i + 1) (z + 1) _ (fun a p q => h a p (by omega))]
theorem fTone_cg {w w' : Int32 → Int64} (k : Int32) : ∀ r i z y, (∀ a, 1 ≤ a → a ≤ i + r → w (nI a) = w' (nI a)) → fTone w k r i z y = fTone w' k r i z y := by
  intro r
  induction r with
  | zero => intro i z y _; rfl
  | succ r ih =>
    intro i z y h
    rw [fTone_s, fTone_s, h (i + 1) (by omega) (by omega)]
    rw [ih (i + 1) z _ (fun a p q => h a p (by omega)), ih (i + 1) (z + 1) _ (fun a p q => h a p (by omega))]
theorem tone_go (w : Int32 → Int64) (k : Int32) : ∀ r i (n : Nat) y, n + r < 1000 → fTone w k r i (nI n) y = if k = -1 then (mTone w k r i (nI n) y).2 else (mTone w k r i (nI n) y).1 := by
  intro r
  induction r with
  | zero => intro i n y _; rfl
  | succ r ih =>
    intro i n y h
    rw [fTone_s, mTone_s]
    by_cases c : y = fAb (w (nI (i + 1)))
    · rw [if_pos c, if_pos c]; exact ih (i + 1) n _ (by omega)
    · rw [if_neg c, if_neg c]
      by_cases c2 : nI n = k
      · rw [if_pos c2, if_pos c2, if_neg (by rw [← c2]; exact nI_nm1 (by omega))]
      · rw [if_neg c2, if_neg c2, nI_1]; exact ih (i + 1) (n + 1) _ (by omega)
theorem tone_e (w : Int32 → Int64) (k : Int32) : fToneOf w k = if k = -1 then (mTone w k 299 1 0 (fAb (w 1))).2 else (mTone w k 299 1 0 (fAb (w 1))).1 := by
  have h := tone_go w k 299 1 0 (fAb (w 1)) (by omega)
  rw [nI_0] at h
  exact h
theorem tone_r (w : Int32 → Int64) (k : Int32) : ∀ r i z y, 1 ≤ i → i + r ≤ 300 → (mTone w k r i z y).1 = -1 ∨ ∃ a, 1 ≤ a ∧ a ≤ 300 ∧ (mTone w k r i z y).1 = nI a := by
  intro r
  induction r with
  | zero => intro i z y _ _; exact Or.inl rfl
  | succ r ih =>
    intro i z y h1 h2
    rw [mTone_s]
    split
    · exact ih _ _ _ (by omega) (by omega)
    · split
      · exact Or.inr ⟨i, h1, by omega, rfl⟩
      · exact ih _ _ _ (by omega) (by omega)
theorem tone_c {w : Int32 → Int64} {v : Int64} (k : Int32) : ∀ r i z, (∀ a, 1 ≤ a → a ≤ i + r → w (nI a) = v) → mTone w k r i z (fAb v) = (-1, z) := by
  intro r
  induction r with
  | zero => intro i z _; rfl
  | succ r ih =>
    intro i z h
    rw [mTone_s, h (i + 1) (by omega) (by omega), if_pos rfl]
    exact ih (i + 1) z (fun a p q => h a p (by omega))
theorem mWl_0 (ln bo bd : Nat → Int32) (nh : Nat) (e0 w f : Int32) (r : Nat) (pp uu : Int64) : mWl ln bo bd 0 nh e0 w f (r + 1) 0 pp uu = if e0 = 0 then pp else uu := by
  have e : seqM ln bd 0 nh 0 ≤ 0 := (by decide : (0 : Int32) ≤ 0)
  rw [mWl, if_pos e]
/-- the class's tone is the reference's -/
theorem toneOf_e {ln bo pl sz ch bd : Nat → Int32} {np nh : Nat} {mo fa : Int32} (h : PI ln bo pl sz ch np nh mo fa) (hH : HR pl sz ch bd) (w k : Int32) :
    fToneOf (xW ln bo pl sz ch np nh mo fa w) k = if k = -1 then (mToneOf (mWorth ln bo bd np nh mo fa w) k np).2 else (mToneOf (mWorth ln bo bd np nh mo fa w) k np).1 := by
  have hW : ∀ a, 1 ≤ a → a ≤ 300 → xW ln bo pl sz ch np nh mo fa w (nI a) = mWorth ln bo bd np nh mo fa w (nI a) := fun a p q => W_eq h hH w p q
  have h1 : xW ln bo pl sz ch np nh mo fa w 1 = mWorth ln bo bd np nh mo fa w 1 := hW 1 (by omega) (by omega)
  rw [tone_e, tone_cg k 299 1 0 _ (fun a p q => hW a p (by omega)), h1]
  unfold mToneOf
  have hnp := h.1
  rcases Nat.eq_zero_or_pos np with z | z
  · subst z
    rw [if_pos nI_0]
    have hc : ∀ a, 1 ≤ a → a ≤ 1 + 299 → mWorth ln bo bd 0 nh mo fa w (nI a) = mWorth ln bo bd 0 nh mo fa w 1 := by
      intro a _ _
      unfold mWorth
      rw [mWl_0, mWl_0]
    rw [tone_c k 299 1 0 hc]
  · rw [if_neg (nI_ne0 z (by omega))]
theorem miss_e {f w : Int32} (hf : f = -1 ∨ ∃ a, 1 ≤ a ∧ a ≤ 300 ∧ f = nI a) (hw : ∃ k, 1 ≤ k ∧ k ≤ 300 ∧ w = nI k) : fMiss f w = mMiss f w ∧ ∃ k, k ≤ 300 ∧ mMiss f w = nI k := by
  obtain ⟨k, k1, k2, e⟩ := hw
  subst e
  unfold fMiss mMiss
  rcases hf with e | ⟨a, a1, a2, e⟩
  · subst e
    rw [if_pos rfl, if_neg (by decide)]
    exact ⟨rfl, 300, by omega, rfl⟩
  · subst e
    rw [if_neg (nI_nm1 (by omega)), if_pos (nI_pos' (by omega))]
    by_cases c : k ≤ a
    · rw [pk_sub c, if_pos (nI_pos' (by omega))]
      rw [if_pos (nI_pos' (by omega))]
      exact ⟨rfl, a - k, by omega, rfl⟩
    · have hn : ¬ 0 ≤ nI a - nI k := by
        have := pk_sneg (a := a) (b := k) (by omega) (by omega)
        intro q
        rw [Int32.lt_iff_toInt_lt] at this
        rw [Int32.le_iff_toInt_le] at q
        omega
      rw [if_neg hn, if_neg hn]
      have e : -(nI a - nI k) = nI (k - a) := by
        rw [Int32.neg_sub, pk_sub (by omega)]
      have e0 : 0 - (nI a - nI k) = -(nI a - nI k) := Int32.zero_sub _
      rw [e0, e]
      exact ⟨rfl, k - a, by omega, rfl⟩
theorem fMiss_nI {t : Int32} {v : Nat} (hf : t = -1 ∨ ∃ a, 1 ≤ a ∧ a ≤ 300 ∧ t = nI a) (h1 : 1 ≤ v) (h2 : v ≤ 300) : ∃ k, k ≤ 300 ∧ fMiss t (nI v) = nI k := by
  obtain ⟨a, k, h, e⟩ := miss_e hf ⟨v, h1, h2, rfl⟩
  exact ⟨k, h, by rw [a]; exact e⟩
/-- what a note says -/
def MsOK (mk : Nat → Int32) (nn : Nat) : Prop := ∀ i, i < nn → ∃ k, k ≤ 300 ∧ mk i = nI k
theorem mToneOf_r (w : Int32 → Int64) (k : Int32) (np : Nat) : (mToneOf w k np).1 = -1 ∨ ∃ a, 1 ≤ a ∧ a ≤ 300 ∧ (mToneOf w k np).1 = nI a := by
  unfold mToneOf
  split
  · exact Or.inl rfl
  · exact tone_r w k 299 1 0 _ (by omega) (by omega)
theorem xMk_e {ln bo pl sz ch bd : Nat → Int32} {np nh nn : Nat} {mo fa : Int32} {ns nw nt : Nat → Int32} (h : PI ln bo pl sz ch np nh mo fa) (hH : HR pl sz ch bd) (hN : NI nn ns nw nt) {i : Nat} (hi : i < nn) :
    xTk (xW ln bo pl sz ch np nh mo fa) ns nw i = (mToneOf (mWorth ln bo bd np nh mo fa (ns i)) (nw i) np).1 ∧ xMk (xW ln bo pl sz ch np nh mo fa) ns nw nt i = mMissK ln bo bd np nh mo fa ns nw nt i ∧ ∃ k, k ≤ 300 ∧ mMissK ln bo bd np nh mo fa ns nw nt i = nI k := by
  obtain ⟨-, ⟨k, k1, ek⟩, t⟩ := hN.2 i hi
  have e : xTk (xW ln bo pl sz ch np nh mo fa) ns nw i = (mToneOf (mWorth ln bo bd np nh mo fa (ns i)) (nw i) np).1 := by
    unfold xTk
    rw [toneOf_e h hH, if_neg (by rw [ek]; exact nI_nm1 (by omega))]
  refine ⟨e, ?_⟩
  unfold xMk mMissK
  rw [e]
  exact miss_e (mToneOf_r _ _ _) t
theorem mGr_cg {f g : Nat → Int32} : ∀ r i z, (∀ j, j < i + r → f j = g j) → mGr f r i z = mGr g r i z := by
  intro r
  induction r with
  | zero => intro i z _; rfl
  | succ r ih =>
    intro i z h
    rw [mGr, mGr, h i (by omega)]
    exact ih (i + 1) _ (fun j q => h j (by omega))
/-- greatest and sum, as numbers -/
def gN (mk : Nat → Int32) : Nat → Nat → Nat → Nat
  | 0, _, z => z
  | r + 1, i, z => gN mk r (i + 1) (max z (cN mk i))
def suN (mk : Nat → Int32) : Nat → Nat → Nat → Nat
  | 0, _, z => z
  | r + 1, i, z => suN mk r (i + 1) (z + cN mk i)
theorem ms_at {mk : Nat → Int32} {nn i : Nat} (h : MsOK mk nn) (hi : i < nn) : mk i = nI (cN mk i) ∧ cN mk i ≤ 300 := by
  obtain ⟨k, k1, e⟩ := h i hi
  have c : cN mk i = k := by unfold cN; rw [e, nI_clamp (by omega)]
  rw [c]; exact ⟨e, k1⟩
theorem gs_go {mk : Nat → Int32} {nn : Nat} (h : MsOK mk nn) : ∀ r i g s, i + r = nn → g ≤ 300 → s + 300 * r ≤ 1800 →
    mGr mk r i (nI g) = nI (gN mk r i g) ∧ mSu mk r i (nI s) = nI (suN mk r i s) ∧ mBa mk r i (nI g) (nI s) = nI (10000 * gN mk r i g + suN mk r i s) ∧ gN mk r i g ≤ 300 ∧ suN mk r i s ≤ 1800 ∧ g ≤ gN mk r i g ∧ s ≤ suN mk r i s := by
  intro r
  induction r with
  | zero =>
    intro i g s _ hg hs
    refine ⟨rfl, rfl, ?_, hg, by show s ≤ 1800; omega, Nat.le_refl _, Nat.le_refl _⟩
    show nI 10000 * nI g + nI s = _
    rw [pk_mul, nI_add]; rfl
  | succ r ih =>
    intro i g s hi hg hs
    obtain ⟨e, c⟩ := ms_at h (i := i) (by omega)
    have hm : (if mk i ≤ nI g then nI g else mk i) = nI (max g (cN mk i)) := by
      generalize cN mk i = q at e c
      rw [e]
      by_cases d : q ≤ g
      · rw [if_pos (nI_le d (by omega)), Nat.max_eq_left d]
      · rw [if_neg (nI_ge (by omega) (by omega)), Nat.max_eq_right (by omega)]
    have hs2 : nI s + mk i = nI (s + cN mk i) := by
      generalize cN mk i = q at e c
      rw [e, nI_add]
    rw [mGr, mSu, mBa, hm, hs2]
    obtain ⟨a1, a2, a3, a4, a5, a6, a7⟩ := ih (i + 1) (max g (cN mk i)) (s + cN mk i) (by omega) (Nat.max_le.mpr ⟨hg, c⟩) (by omega)
    refine ⟨a1, a2, a3, a4, a5, ?_, ?_⟩
    · exact Nat.le_trans (Nat.le_max_left _ _) a6
    · exact Nat.le_trans (Nat.le_add_right _ _) a7
theorem xRk_s (mk : Nat → Int32) (bd : Int32) (r i : Nat) (g s : Int32) : xRk mk bd (r + 1) i g s = if bd ≤ g * 1801 + s then g * 1801 + s else xRk mk bd r (i + 1) (if g < mk i then mk i else g) (s + mk i) := rfl
theorem rk_n {g s : Nat} : nI g * 1801 + nI s = nI (1801 * g + s) := by
  show nI g * nI 1801 + nI s = _
  rw [pk_mul, nI_add, Nat.mul_comm]
/-- the rank with its bound: either below it and exact, or not below, and nor is the exact one -/
theorem rk_go {mk : Nat → Int32} {nn B : Nat} (h : MsOK mk nn) (hB : B < 2147483648) : ∀ r i g s, i + r = nn → g ≤ 300 → s + 300 * r ≤ 1800 →
    ∃ k, k ≤ 1000000 ∧ xRk mk (nI B) r i (nI g) (nI s) = nI k ∧ (k = 1801 * gN mk r i g + suN mk r i s ∨ (B ≤ k ∧ B ≤ 1801 * gN mk r i g + suN mk r i s)) := by
  intro r
  induction r with
  | zero =>
    intro i g s _ hg hs
    exact ⟨1801 * g + s, by omega, rk_n, Or.inl rfl⟩
  | succ r ih =>
    intro i g s hi hg hs
    rw [xRk_s, rk_n]
    by_cases c0 : B ≤ 1801 * g + s
    · rw [if_pos (nI_le c0 (by omega))]
      refine ⟨1801 * g + s, by omega, rfl, Or.inr ⟨c0, ?_⟩⟩
      obtain ⟨-, -, -, -, -, a6, a7⟩ := gs_go h (r + 1) i g s hi hg hs
      omega
    · rw [if_neg (nI_ge (by omega) (by omega))]
      obtain ⟨e, c⟩ := ms_at h (i := i) (by omega)
      have hm : (if nI g < mk i then mk i else nI g) = nI (max g (cN mk i)) := by
        generalize cN mk i = q at e c
        rw [e]
        by_cases d : g < q
        · rw [if_pos (nI_lt d (by omega)), Nat.max_eq_right (by omega)]
        · rw [if_neg (nI_nlt (by omega) (by omega)), Nat.max_eq_left (by omega)]
      have hs2 : nI s + mk i = nI (s + cN mk i) := by
        generalize cN mk i = q at e c
        rw [e, nI_add]
      rw [hm, hs2]
      exact ih (i + 1) (max g (cN mk i)) (s + cN mk i) (by omega) (Nat.max_le.mpr ⟨hg, c⟩) (by omega)
theorem xRk_cg {f g : Nat → Int32} (b : Int32) : ∀ r i x y, (∀ j, j < i + r → f j = g j) → xRk f b r i x y = xRk g b r i x y := by
  intro r
  induction r with
  | zero => intro i x y _; rfl
  | succ r ih =>
    intro i x y h
    rw [xRk_s, xRk_s, h i (by omega), ih (i + 1) _ _ (fun j q => h j (by omega))]
theorem rk_full {mk : Nat → Int32} {nn : Nat} (h : MsOK mk nn) (hn : nn ≤ 6) : xRk mk 3243601 nn 0 0 0 = nI (1801 * gN mk nn 0 0 + suN mk nn 0 0) ∧ gN mk nn 0 0 ≤ 300 ∧ suN mk nn 0 0 ≤ 1800 := by
  obtain ⟨k, k1, e, c⟩ := rk_go (B := 3243601) h (by decide) nn 0 0 0 (by omega) (by omega) (by omega)
  obtain ⟨-, -, -, a4, a5, -, -⟩ := gs_go h nn 0 0 0 (by omega) (by omega) (by omega)
  rw [nI_0] at e
  refine ⟨?_, a4, a5⟩
  have : k = 1801 * gN mk nn 0 0 + suN mk nn 0 0 := by
    rcases c with c | c
    · exact c
    · omega
  rw [← this]; exact e
end TONE
