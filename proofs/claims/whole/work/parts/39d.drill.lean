section BITD
theorem fBit_e {n : Nat} (h : n < 2 ^ 64) : fBit (lN n) = nI (p8 (byt n 0) + p8 (byt n 1) + p8 (byt n 2) + p8 (byt n 3) + p8 (byt n 4) + p8 (byt n 5) + p8 (byt n 6) + p8 (byt n 7)) := by
  obtain ⟨a, b, c, ea, la, eb, ec, hb, e⟩ := swar h
  have hp : ∀ j, p8 (byt n j) ≤ 8 := fun j => (g_ok _ (byt_lt n j)).2.2.2.2.2
  have q : c + c / 256 + (c + c / 256) / 65536 + (c + c / 256 + (c + c / 256) / 65536) / 4294967296 < 2 ^ 64 ∧ (c + c / 256 + (c + c / 256) / 65536 + (c + c / 256 + (c + c / 256) / 65536) / 4294967296) % 128 = p8 (byt n 0) + p8 (byt n 1) + p8 (byt n 2) + p8 (byt n 3) + p8 (byt n 4) + p8 (byt n 5) + p8 (byt n 6) + p8 (byt n 7) := by
    rw [e]; exact bsum8 hp
  generalize p8 (byt n 0) + p8 (byt n 1) + p8 (byt n 2) + p8 (byt n 3) + p8 (byt n 4) + p8 (byt n 5) + p8 (byt n 6) + p8 (byt n 7) = P at q ⊢
  have hna : n - a < 2 ^ 64 := by omega
  have f1 : fBit1 (lN n) = lN (n - a) := by
    unfold fBit1
    rw [show (1 : Int32) = nI 1 from rfl, wb_shr h (by decide), show (6148914691236517205 : Int64) = lN 6148914691236517205 from rfl, wb_and (Nat.lt_of_le_of_lt (Nat.div_le_self _ _) h) (by decide), show (2 : Nat) ^ 1 = 2 from rfl, ← ea, lN_sub la]
  have f2 : fBit2 (lN (n - a)) = lN b := by
    unfold fBit2
    rw [show (2 : Int32) = nI 2 from rfl, wb_shr hna (by decide), show (3689348814741910323 : Int64) = lN 3689348814741910323 from rfl, wb_and (Nat.lt_of_le_of_lt (Nat.div_le_self _ _) hna) (by decide), wb_and hna (by decide), show (2 : Nat) ^ 2 = 4 from rfl, lN_add, ← eb]
  have f3 : fBit3 (lN b) = lN c := by
    unfold fBit3
    rw [show (4 : Int32) = nI 4 from rfl, wb_shr (by omega) (by decide), show (1085102592571150095 : Int64) = lN 1085102592571150095 from rfl, show (2 : Nat) ^ 4 = 16 from rfl, lN_add, wb_and hb (by decide), ← ec]
  have f4 : fBit4 (lN c) = lN (c + c / 256) := by
    unfold fBit4
    rw [show (8 : Int32) = nI 8 from rfl, wb_shr (by omega) (by decide), show (2 : Nat) ^ 8 = 256 from rfl, lN_add]
  have f5 : fBit5 (lN (c + c / 256)) = lN (c + c / 256 + (c + c / 256) / 65536) := by
    unfold fBit5
    rw [show (16 : Int32) = nI 16 from rfl, wb_shr (by omega) (by decide), show (2 : Nat) ^ 16 = 65536 from rfl, lN_add]
  have f6 : fBit6 (lN (c + c / 256 + (c + c / 256) / 65536)) = lN (c + c / 256 + (c + c / 256) / 65536 + (c + c / 256 + (c + c / 256) / 65536) / 4294967296) := by
    unfold fBit6
    rw [show (32 : Int32) = nI 32 from rfl, wb_shr (by omega) (by decide), show (2 : Nat) ^ 32 = 4294967296 from rfl, lN_add]
  unfold fBit
  rw [f1, f2, f3, f4, f5, f6, lN_i, pk_and _ 7 (by decide)]
  generalize c + c / 256 + (c + c / 256) / 65536 + (c + c / 256 + (c + c / 256) / 65536) / 4294967296 = x at q
  have ht : (nI x).toBitVec.toNat = x % 2 ^ 32 := BitVec.toNat_ofNat x 32
  rw [ht, show x % 2 ^ 32 % 2 ^ 7 = P by omega]
/-- a sum over a range -/
def sF (u : Nat → Nat) : Nat → Nat → Nat
  | 0, _ => 0
  | r + 1, i => u i + sF u r (i + 1)
theorem sF_0 (u : Nat → Nat) (i : Nat) : sF u 0 i = 0 := rfl
theorem sF_s (u : Nat → Nat) (r i : Nat) : sF u (r + 1) i = u i + sF u r (i + 1) := rfl
theorem sF_add (u : Nat → Nat) : ∀ a b i, sF u (a + b) i = sF u a i + sF u b (i + a) := by
  intro a
  induction a with
  | zero => intro b i; rw [Nat.zero_add, Nat.add_zero, sF_0, Nat.zero_add]
  | succ a ih =>
    intro b i
    rw [show a + 1 + b = a + b + 1 from by omega, sF_s, sF_s, ih, show i + 1 + a = i + (a + 1) from by omega, Nat.add_assoc]
theorem sF_cg {u v : Nat → Nat} : ∀ r i, (∀ j, i ≤ j → j < i + r → u j = v j) → sF u r i = sF v r i := by
  intro r
  induction r with
  | zero => intro i _; rfl
  | succ r ih =>
    intro i h
    rw [sF_s, sF_s, h i (by omega) (by omega), ih (i + 1) (fun j a b => h j (by omega) (by omega))]
theorem sF_c {u : Nat → Nat} {c : Nat} : ∀ r i, (∀ j, i ≤ j → j < i + r → u j = c) → sF u r i = r * c := by
  intro r
  induction r with
  | zero => intro i _; rw [sF_0, Nat.zero_mul]
  | succ r ih =>
    intro i h
    rw [sF_s, h i (by omega) (by omega), ih (i + 1) (fun j a b => h j (by omega) (by omega)), Nat.succ_mul, Nat.add_comm]
theorem sF_le {u : Nat → Nat} {c : Nat} (h : ∀ j, u j ≤ c) : ∀ r i, sF u r i ≤ r * c := by
  intro r
  induction r with
  | zero => intro i; rw [sF_0]; exact Nat.zero_le _
  | succ r ih =>
    intro i
    rw [sF_s, Nat.succ_mul, Nat.add_comm (r * c)]
    exact Nat.add_le_add (h i) (ih (i + 1))
/-- the bits of a number -/
def bN (n i : Nat) : Nat := n / 2 ^ i % 2
theorem bN_8 (n j : Nat) : sF (bN n) 8 (8 * j) = p8 (byt n j) := by
  have u : sF (bN n) 8 (8 * j) = bN n (8 * j) + (bN n (8 * j + 1) + (bN n (8 * j + 2) + (bN n (8 * j + 3) + (bN n (8 * j + 4) + (bN n (8 * j + 5) + (bN n (8 * j + 6) + (bN n (8 * j + 7) + 0))))))) := rfl
  have s : ∀ t, bN n (8 * j + t) = n / 2 ^ (8 * j) / 2 ^ t % 2 := fun t => by unfold bN; rw [Nat.pow_add, Nat.div_div_eq_div_mul]
  have s0 : bN n (8 * j) = n / 2 ^ (8 * j) % 2 := rfl
  rw [u, s0, s 1, s 2, s 3, s 4, s 5, s 6, s 7]
  unfold p8 byt
  generalize n / 2 ^ (8 * j) = m
  omega
theorem bN_64 (n : Nat) : sF (bN n) 64 0 = p8 (byt n 0) + p8 (byt n 1) + p8 (byt n 2) + p8 (byt n 3) + p8 (byt n 4) + p8 (byt n 5) + p8 (byt n 6) + p8 (byt n 7) := by
  rw [show (64 : Nat) = 8 + 56 from rfl, sF_add, show (56 : Nat) = 8 + 48 from rfl, sF_add, show (48 : Nat) = 8 + 40 from rfl, sF_add, show (40 : Nat) = 8 + 32 from rfl, sF_add, show (32 : Nat) = 8 + 24 from rfl, sF_add, show (24 : Nat) = 8 + 16 from rfl, sF_add, show (16 : Nat) = 8 + 8 from rfl, sF_add]
  have e0 := bN_8 n 0
  have e1 := bN_8 n 1
  have e2 := bN_8 n 2
  have e3 := bN_8 n 3
  have e4 := bN_8 n 4
  have e5 := bN_8 n 5
  have e6 := bN_8 n 6
  have e7 := bN_8 n 7
  rw [← e0, ← e1, ← e2, ← e3, ← e4, ← e5, ← e6, ← e7]
  simp only [Nat.add_assoc, Nat.zero_add, Nat.mul_zero, Nat.mul_one, Nat.reduceAdd, Nat.reduceMul]
theorem lb_e (n i : Nat) (hn : n < 2 ^ 64) : (lN n).toBitVec.getLsbD i = decide (bN n i = 1) := by
  rw [← BitVec.testBit_toNat, wb_tn hn, Nat.testBit_eq_decide_div_mod_eq]
  rfl
theorem bN_01 (n i : Nat) : bN n i = 0 ∨ bN n i = 1 := by
  unfold bN
  generalize n / 2 ^ i = m
  omega
theorem bN_f {n i : Nat} (hn : n < 2 ^ 64) (h : (lN n).toBitVec.getLsbD i = false) : bN n i = 0 := by
  rw [lb_e n i hn] at h
  rcases bN_01 n i with q | q
  · exact q
  · exact absurd q (of_decide_eq_false h)
theorem dr_go {db : Nat → Int32} {n : Nat} (hD : DI (lN n) db) (hn : n < 2 ^ 64) : ∀ r i z, 1 ≤ i → i + r ≤ 61 → mDr db r i (nI z) = nI (z + sF (bN n) r i) := by
  intro r
  induction r with
  | zero => intro i z _ _; rfl
  | succ r ih =>
    intro i z h1 h2
    have hb : (if db i = 0 then (0 : Int32) else 1) = nI (bN n i) := by
      obtain ⟨c, d⟩ := hD.1 i h1 (by omega)
      rw [lb_e n i hn] at d
      rcases c with c | c
      · rw [if_pos c]
        rcases bN_01 n i with q | q
        · rw [q]; rfl
        · have := d.mpr (decide_eq_true q)
          rw [c] at this
          exact absurd this (by decide)
      · rw [if_neg (by rw [c]; decide)]
        have := of_decide_eq_true (d.mp c)
        rw [this]; rfl
    rw [mDr, hb, nI_add, ih (i + 1) _ (by omega) (by omega), sF_s, Nat.add_assoc]
theorem dr_e {dr : Int64} {db : Nat → Int32} (hD : DI dr db) : mDr db 60 1 0 = fBit dr := by
  obtain ⟨n, hn, e⟩ := wb_of dr
  subst e
  have h := dr_go hD hn 60 1 0 (by omega) (by omega)
  rw [nI_0] at h
  rw [h, fBit_e hn, ← bN_64, show (64 : Nat) = 1 + (60 + 3) from rfl, sF_add, sF_add]
  have h0 : sF (bN n) 1 0 = 0 := by
    rw [sF_c (c := 0) 1 0 (fun j _ b => by
      have : j = 0 := by omega
      subst this
      exact bN_f hn hD.2.1)]
  have h3 : sF (bN n) 3 (0 + 1 + 60) = 0 := by
    rw [sF_c (c := 0) 3 (0 + 1 + 60) (fun j a _ => bN_f hn (hD.2.2 j (by omega)))]
  rw [h0, h3, Nat.add_zero]
theorem DI_upd {dr dr' : Int64} {db : Nat → Int32} {k : Nat} {v : Int32} (hD : DI dr db) (k1 : 1 ≤ k) (k2 : k ≤ 60) (hv : v = 0 ∨ v = 1) (hb : ∀ s, dr'.toBitVec.getLsbD s = if s = k then decide (v = 1) else dr.toBitVec.getLsbD s) : DI dr' (upd db k v) := by
  refine ⟨fun s s1 s2 => ?_, ?_, fun s s1 => ?_⟩
  · rw [hb s]
    by_cases c : s = k
    · subst c
      rw [pk_us, if_pos rfl]
      exact ⟨hv, decide_eq_true_iff.symm⟩
    · rw [pk_un c, if_neg c]
      exact hD.1 s s1 s2
  · rw [hb 0, if_neg (by omega)]; exact hD.2.1
  · rw [hb s, if_neg (by omega)]; exact hD.2.2 s s1
theorem sh_e {k : Nat} (hk : k < 64) (s : Nat) : ((1 : Int64) <<< ((nI k).toInt64 &&& 63)).toBitVec.getLsbD s = decide (s = k) := by
  rw [wb_c k hk]
  have h1 : ((1 : Int64) <<< lN k).toBitVec = 1#64 <<< k := by
    rw [Int64.toBitVec_shiftLeft, wb_tb, wb_sm k hk]
    show (1#64 <<< BitVec.ofNat 64 k) = _
    rw [BitVec.shiftLeft_eq', BitVec.toNat_ofNat, Nat.mod_eq_of_lt (show k < 2 ^ 64 by omega)]
  rw [h1, BitVec.getLsbD_shiftLeft]
  by_cases c : s = k
  · subst c
    rw [Nat.sub_self, decide_eq_true hk, decide_eq_true rfl, decide_eq_false (Nat.lt_irrefl s)]
    decide
  · rw [decide_eq_false c]
    by_cases d : s < k
    · rw [decide_eq_true d]; simp
    · have h2 : ∀ t, 1 ≤ t → (1#64).getLsbD t = false := by
        intro t ht
        rcases Nat.lt_or_ge t 64 with q | q
        · have : ∀ t, t < 64 → 1 ≤ t → (1#64).getLsbD t = false := by decide
          exact this t q ht
        · exact BitVec.getLsbD_of_ge _ _ q
      rw [h2 (s - k) (by omega), Bool.and_false]
theorem drill_p {dr : Int64} {db : Nat → Int32} (hD : DI dr db) (x y : Int32) (hy : y = 0 ∨ y = 1) : (mDrill x y db).1 = (xDrill x y dr).1 ∧ DI ((xDrill x y dr).2) ((mDrill x y db).2) := by
  unfold mDrill xDrill
  rw [fInL60]
  by_cases c1 : fIn x 1 60 = 0
  · rw [if_pos c1, if_pos c1]; exact ⟨rfl, hD⟩
  · rw [if_neg c1, if_neg c1]
    obtain ⟨k, k1, k2, e⟩ := rng (a := 1) (b := 60) c1 (by decide) (by decide)
    subst e
    rw [nI_clamp (by omega)]
    rcases hy with hy | hy
    · subst hy
      rw [if_pos rfl, show vp_nar .boolean 0 = 0 from rfl]
      have h : DI (dr &&& ((1 <<< ((nI k).toInt64 &&& 63)) ^^^ (-1))) (upd db k 0) := by
        refine DI_upd hD k1 k2 (Or.inl rfl) (fun s => ?_)
        have hm : (-1 : Int64).toBitVec = BitVec.allOnes 64 := by decide
        rw [Int64.toBitVec_and, Int64.toBitVec_xor, BitVec.getLsbD_and, BitVec.getLsbD_xor, sh_e (by omega), hm, BitVec.getLsbD_allOnes]
        by_cases c : s = k
        · rw [if_pos c, decide_eq_true c, decide_eq_true (show s < 64 by omega)]
          simp
        · rw [if_neg c, decide_eq_false c]
          by_cases d : s < 64
          · rw [decide_eq_true d]; simp
          · rw [BitVec.getLsbD_of_ge _ _ (Nat.le_of_not_lt d)]; simp
      exact ⟨dr_e h, h⟩
    · subst hy
      rw [if_neg (by decide : ¬ (1 : Int32) = 0), show vp_nar .boolean 1 = 1 from rfl]
      have h : DI (dr ||| (1 <<< ((nI k).toInt64 &&& 63))) (upd db k 1) := by
        refine DI_upd hD k1 k2 (Or.inr rfl) (fun s => ?_)
        rw [Int64.toBitVec_or, BitVec.getLsbD_or, sh_e (by omega)]
        by_cases c : s = k
        · rw [if_pos c, decide_eq_true c]; simp
        · rw [if_neg c, decide_eq_false c, Bool.or_false]
      exact ⟨dr_e h, h⟩
end BITD
