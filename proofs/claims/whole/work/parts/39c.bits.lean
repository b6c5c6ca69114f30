section BITC
theorem wb_tb (n : Nat) : (lN n).toBitVec = BitVec.ofNat 64 n := rfl
theorem wb_inj {a b : Int64} (h : a.toBitVec = b.toBitVec) : a = b := Int64.toBitVec_inj.mp h
theorem wb_tn {n : Nat} (h : n < 2 ^ 64) : (lN n).toBitVec.toNat = n := by rw [wb_tb, BitVec.toNat_ofNat, Nat.mod_eq_of_lt h]
theorem wb_of (x : Int64) : ∃ n, n < 2 ^ 64 ∧ x = lN n := ⟨x.toBitVec.toNat, x.toBitVec.isLt, wb_inj (by rw [wb_tb]; simp)⟩
theorem wb_c : ∀ k, k < 64 → ((nI k).toInt64 &&& 63) = lN k := by decide +kernel
theorem wb_cu : ∀ k, k < 64 → ((nI k).toInt64.toUInt64 &&& Int64.toUInt64 63) = UInt64.ofNat k := by decide +kernel
theorem wb_sm : ∀ k, k < 64 → (BitVec.ofNat 64 k).smod 64 = BitVec.ofNat 64 k := by decide +kernel
theorem wb_lt2 {a b : Nat} (h : a < b) : 2 ^ a < 2 ^ b := Nat.pow_lt_pow_right (by decide) h
theorem wb_mod (n : Nat) : lN n = lN (n % 2 ^ 64) := wb_inj (by rw [wb_tb, wb_tb]; apply BitVec.eq_of_toNat_eq; rw [BitVec.toNat_ofNat, BitVec.toNat_ofNat, Nat.mod_mod])
theorem wb_shr {n k : Nat} (hn : n < 2 ^ 64) (hk : k < 64) : ((lN n).toUInt64 >>> ((nI k).toInt64.toUInt64 &&& Int64.toUInt64 63)).toInt64 = lN (n / 2 ^ k) := by
  rw [wb_cu k hk]
  apply wb_inj
  apply BitVec.eq_of_toNat_eq
  show ((lN n).toUInt64 >>> UInt64.ofNat k).toNat = (BitVec.ofNat 64 _).toNat
  have h1 : (UInt64.ofNat k).toNat = k := by
    show (BitVec.ofNat 64 k).toNat = k
    rw [BitVec.toNat_ofNat, Nat.mod_eq_of_lt (by omega)]
  have h2 : (lN n).toUInt64.toNat = n := wb_tn hn
  rw [UInt64.toNat_shiftRight, h1, h2, Nat.mod_eq_of_lt hk, Nat.shiftRight_eq_div_pow, BitVec.toNat_ofNat, Nat.mod_eq_of_lt (Nat.lt_of_le_of_lt (Nat.div_le_self _ _) hn)]
theorem wb_and {a b : Nat} (ha : a < 2 ^ 64) (hb : b < 2 ^ 64) : lN a &&& lN b = lN (a &&& b) := by
  apply wb_inj
  rw [Int64.toBitVec_and, wb_tb, wb_tb, wb_tb]
  apply BitVec.eq_of_toNat_eq
  rw [BitVec.toNat_and, BitVec.toNat_ofNat, BitVec.toNat_ofNat, BitVec.toNat_ofNat, Nat.mod_eq_of_lt ha, Nat.mod_eq_of_lt hb, Nat.mod_eq_of_lt (Nat.and_lt_two_pow _ hb)]
def dg (f : Nat → Nat) : Nat → Nat → Nat
  | 0, _ => 0
  | r + 1, i => f i + 256 * dg f r (i + 1)
theorem dg_s (f : Nat → Nat) (r i : Nat) : dg f (r + 1) i = f i + 256 * dg f r (i + 1) := rfl
theorem and_256 {a b c d : Nat} (ha : a < 256) (hc : c < 256) : (a + 256 * b) &&& (c + 256 * d) = (a &&& c) + 256 * (b &&& d) := by
  have h1 := Nat.and_mod_two_pow (a := a + 256 * b) (b := c + 256 * d) (n := 8)
  have h2 := Nat.and_div_two_pow (a := a + 256 * b) (b := c + 256 * d) (n := 8)
  rw [show (2 : Nat) ^ 8 = 256 from rfl] at h1 h2
  rw [show (a + 256 * b) % 256 = a by omega, show (c + 256 * d) % 256 = c by omega] at h1
  rw [show (a + 256 * b) / 256 = b by omega, show (c + 256 * d) / 256 = d by omega] at h2
  omega
theorem dg_and {f : Nat → Nat} {c : Nat} (hf : ∀ j, f j < 256) (hc : c < 256) : ∀ r i, dg f r i &&& dg (fun _ => c) r i = dg (fun j => f j &&& c) r i := by
  intro r
  induction r with
  | zero => intro i; show (0 : Nat) &&& 0 = 0; exact Nat.and_zero 0
  | succ r ih => intro i; rw [dg_s, dg_s, dg_s, and_256 (hf i) hc, ih]
theorem k85 : ∀ x, x < 256 → ∀ e, e < 2 → (x / 2 + 128 * e) &&& 85 = x / 2 &&& 85 := by decide +kernel
theorem k51 : ∀ x, x < 256 → ∀ e, e < 4 → (x / 4 + 64 * e) &&& 51 = x / 4 &&& 51 := by decide +kernel
theorem dg_s1 {f : Nat → Nat} (hf : ∀ j, f j < 256) : ∀ r i, dg f r i / 2 &&& dg (fun _ => 85) r i = dg (fun j => f j / 2 &&& 85) r i := by
  intro r
  induction r with
  | zero => intro i; show (0 : Nat) / 2 &&& 0 = 0; exact Nat.and_zero _
  | succ r ih =>
    intro i
    have h := hf i
    rw [dg_s, dg_s, dg_s, ← ih]
    generalize dg f r (i + 1) = b
    rw [show (f i + 256 * b) / 2 = (f i / 2 + 128 * (b % 2)) + 256 * (b / 2) by omega, and_256 (by omega) (by omega), k85 _ h _ (Nat.mod_lt _ (by decide))]
theorem dg_s2 {f : Nat → Nat} (hf : ∀ j, f j < 256) : ∀ r i, dg f r i / 4 &&& dg (fun _ => 51) r i = dg (fun j => f j / 4 &&& 51) r i := by
  intro r
  induction r with
  | zero => intro i; show (0 : Nat) / 4 &&& 0 = 0; exact Nat.and_zero _
  | succ r ih =>
    intro i
    have h := hf i
    rw [dg_s, dg_s, dg_s, ← ih]
    generalize dg f r (i + 1) = b
    rw [show (f i + 256 * b) / 4 = (f i / 4 + 64 * (b % 4)) + 256 * (b / 4) by omega, and_256 (by omega) (by omega), k51 _ h _ (Nat.mod_lt _ (by decide))]
theorem dg_add (f g : Nat → Nat) : ∀ r i, dg f r i + dg g r i = dg (fun j => f j + g j) r i := by
  intro r
  induction r with
  | zero => intro i; rfl
  | succ r ih =>
    intro i
    rw [dg_s, dg_s, dg_s, ← ih]
    omega
theorem dg_cg {f g : Nat → Nat} (h : ∀ j, f j = g j) : ∀ r i, dg f r i = dg g r i := by
  intro r
  induction r with
  | zero => intro i; rfl
  | succ r ih => intro i; rw [dg_s, dg_s, h, ih]
theorem dg_m16 {f : Nat → Nat} (hf : ∀ j, f j % 16 ≤ 4) : ∀ r i, dg f r i % 16 ≤ 4 := by
  intro r i
  cases r with
  | zero => show 0 % 16 ≤ 4; omega
  | succ r =>
    have h := hf i
    rw [dg_s]; omega
theorem dg_s3 {f : Nat → Nat} (hf : ∀ j, f j % 16 ≤ 4 ∧ f j / 16 ≤ 4) : ∀ r i, (dg f r i + dg f r i / 16) &&& dg (fun _ => 15) r i = dg (fun j => (f j + f j / 16) &&& 15) r i := by
  intro r
  induction r with
  | zero => intro i; show ((0 : Nat) + 0 / 16) &&& 0 = 0; exact Nat.and_zero _
  | succ r ih =>
    intro i
    have h := hf i
    have hb := dg_m16 (fun j => (hf j).1) r (i + 1)
    rw [dg_s, dg_s, dg_s, ← ih]
    generalize dg f r (i + 1) = b at hb ⊢
    rw [show f i + 256 * b + (f i + 256 * b) / 16 = (f i + f i / 16 + 16 * (b % 16)) + 256 * (b + b / 16) by omega, and_256 (by omega) (by omega)]
    have e : (f i + f i / 16 + 16 * (b % 16)) &&& 15 = (f i + f i / 16) &&& 15 := by
      rw [show (15 : Nat) = 2 ^ 4 - 1 from rfl, Nat.and_two_pow_sub_one_eq_mod, Nat.and_two_pow_sub_one_eq_mod]
      omega
    rw [e]
def g1 (x : Nat) : Nat := x - (x / 2 &&& 85)
def g2 (x : Nat) : Nat := (g1 x &&& 51) + (g1 x / 4 &&& 51)
def g3 (x : Nat) : Nat := (g2 x + g2 x / 16) &&& 15
def p8 (x : Nat) : Nat := x % 2 + x / 2 % 2 + x / 4 % 2 + x / 8 % 2 + x / 16 % 2 + x / 32 % 2 + x / 64 % 2 + x / 128 % 2
theorem g_ok : ∀ x, x < 256 → (x / 2 &&& 85) ≤ x ∧ g1 x < 256 ∧ g2 x % 16 ≤ 4 ∧ g2 x / 16 ≤ 4 ∧ g3 x = p8 x ∧ p8 x ≤ 8 := by decide +kernel
def byt (n j : Nat) : Nat := n / 2 ^ (8 * j) % 256
theorem byt_lt (n j : Nat) : byt n j < 256 := Nat.mod_lt _ (by decide)
theorem byt_go (n : Nat) : ∀ r i, n / 2 ^ (8 * (i + r)) = 0 → dg (byt n) r i = n / 2 ^ (8 * i) := by
  intro r
  induction r with
  | zero => intro i h; exact h.symm
  | succ r ih =>
    intro i h
    have e := ih (i + 1) (by rw [show i + 1 + r = i + (r + 1) from by omega]; exact h)
    have e2 : n / 2 ^ (8 * (i + 1)) = n / 2 ^ (8 * i) / 256 := by
      rw [Nat.div_div_eq_div_mul, show 8 * (i + 1) = 8 * i + 8 from by omega, Nat.pow_add]
    rw [dg_s, e, e2]
    unfold byt
    omega
theorem byt_e {n : Nat} (h : n < 2 ^ 64) : dg (byt n) 8 0 = n := by
  have := byt_go n 8 0 (Nat.div_eq_of_lt (by omega))
  rw [this]
  show n / 1 = n
  omega
theorem bd_68 {y0 y1 y2 y3 y4 y5 y6 y7 : Nat} (h0 : y0 ≤ 68) (h1 : y1 ≤ 68) (h2 : y2 ≤ 68) (h3 : y3 ≤ 68) (h4 : y4 ≤ 68) (h5 : y5 ≤ 68) (h6 : y6 ≤ 68) (h7 : y7 ≤ 68) : y0 + 256 * (y1 + 256 * (y2 + 256 * (y3 + 256 * (y4 + 256 * (y5 + 256 * (y6 + 256 * (y7))))))) + (y0 + 256 * (y1 + 256 * (y2 + 256 * (y3 + 256 * (y4 + 256 * (y5 + 256 * (y6 + 256 * (y7)))))))) / 16 < 2 ^ 64 := by omega
/-- the whole count, as a number -/
theorem swar {n : Nat} (h : n < 2 ^ 64) : ∃ a b c, a = n / 2 &&& 6148914691236517205 ∧ a ≤ n ∧ b = ((n - a) &&& 3689348814741910323) + ((n - a) / 4 &&& 3689348814741910323) ∧ c = (b + b / 16) &&& 1085102592571150095 ∧ b + b / 16 < 2 ^ 64 ∧ c = dg (fun j => p8 (byt n j)) 8 0 := by
  have m1 : (6148914691236517205 : Nat) = dg (fun _ => 85) 8 0 := by decide
  have m2 : (3689348814741910323 : Nat) = dg (fun _ => 51) 8 0 := by decide
  have m3 : (1085102592571150095 : Nat) = dg (fun _ => 15) 8 0 := by decide
  have g := fun j => g_ok (byt n j) (byt_lt n j)
  have e1 : n / 2 &&& 6148914691236517205 = dg (fun j => byt n j / 2 &&& 85) 8 0 := by
    have := dg_s1 (byt_lt n) 8 0
    rw [byt_e h] at this
    rw [m1]; exact this
  have e2 : n / 2 &&& 6148914691236517205 ≤ n ∧ n - (n / 2 &&& 6148914691236517205) = dg (fun j => g1 (byt n j)) 8 0 := by
    have q := dg_add (fun j => byt n j / 2 &&& 85) (fun j => g1 (byt n j)) 8 0
    have q2 : dg (fun j => (byt n j / 2 &&& 85) + g1 (byt n j)) 8 0 = dg (byt n) 8 0 := dg_cg (fun j => by
      have := (g j).1
      unfold g1
      omega) 8 0
    have q3 := q.trans q2
    rw [byt_e h, ← e1] at q3
    omega
  have e3 : ((n - (n / 2 &&& 6148914691236517205)) &&& 3689348814741910323) + ((n - (n / 2 &&& 6148914691236517205)) / 4 &&& 3689348814741910323) = dg (fun j => g2 (byt n j)) 8 0 := by
    rw [e2.2, m2, dg_and (fun j => (g j).2.1) (by decide), dg_s2 (fun j => (g j).2.1), dg_add]
    rfl
  have e4 : (dg (fun j => g2 (byt n j)) 8 0 + dg (fun j => g2 (byt n j)) 8 0 / 16) &&& 1085102592571150095 = dg (fun j => g3 (byt n j)) 8 0 := by
    rw [m3, dg_s3 (fun j => ⟨(g j).2.2.1, (g j).2.2.2.1⟩)]
    rfl
  have e5 : dg (fun j => g3 (byt n j)) 8 0 = dg (fun j => p8 (byt n j)) 8 0 := dg_cg (fun j => (g j).2.2.2.2.1) 8 0
  refine ⟨_, _, _, rfl, e2.1, rfl, rfl, ?_, ?_⟩
  · rw [e3]
    have b0 := fun j => (show g2 (byt n j) ≤ 68 by
      have := g j
      omega)
    have u : dg (fun j => g2 (byt n j)) 8 0 = g2 (byt n 0) + 256 * (g2 (byt n 1) + 256 * (g2 (byt n 2) + 256 * (g2 (byt n 3) + 256 * (g2 (byt n 4) + 256 * (g2 (byt n 5) + 256 * (g2 (byt n 6) + 256 * (g2 (byt n 7) + 256 * 0))))))) := rfl
    rw [Nat.mul_zero, Nat.add_zero] at u
    rw [u]
    exact bd_68 (b0 0) (b0 1) (b0 2) (b0 3) (b0 4) (b0 5) (b0 6) (b0 7)
  · rw [e3, e4, e5]
theorem dv_256 {x t : Nat} (h : x < 256) : (x + 256 * t) / 256 = t := by omega
theorem dv_16 {x y t : Nat} (h : x < 256) (h2 : y < 256) : (x + 256 * (y + 256 * t)) / 65536 = t := by omega
theorem dv_32 {x y z w t : Nat} (h : x < 256) (h2 : y < 256) (h3 : z < 256) (h4 : w < 256) : (x + 256 * (y + 256 * (z + 256 * (w + 256 * t)))) / 4294967296 = t := by omega
theorem bd_64 {y0 y1 y2 y3 y4 y5 y6 y7 : Nat} (h0 : y0 ≤ 32) (h1 : y1 ≤ 32) (h2 : y2 ≤ 32) (h3 : y3 ≤ 32) (h4 : y4 ≤ 32) (h5 : y5 ≤ 32) (h6 : y6 ≤ 32) (h7 : y7 ≤ 32) : y0 + 256 * (y1 + 256 * (y2 + 256 * (y3 + 256 * (y4 + 256 * (y5 + 256 * (y6 + 256 * (y7))))))) + (y4 + 256 * (y5 + 256 * (y6 + 256 * (y7)))) < 2 ^ 64 := by omega
theorem md_128 {y0 y4 A B : Nat} (h : y0 + y4 < 128) : (y0 + 256 * A + (y4 + 256 * B)) % 128 = y0 + y4 := by omega
theorem bsum8 {p : Nat → Nat} (hp : ∀ j, p j ≤ 8) : ((dg p 8 0 + dg p 8 0 / 256) + (dg p 8 0 + dg p 8 0 / 256) / 65536) + ((dg p 8 0 + dg p 8 0 / 256) + (dg p 8 0 + dg p 8 0 / 256) / 65536) / 4294967296 < 2 ^ 64 ∧ (((dg p 8 0 + dg p 8 0 / 256) + (dg p 8 0 + dg p 8 0 / 256) / 65536) + ((dg p 8 0 + dg p 8 0 / 256) + (dg p 8 0 + dg p 8 0 / 256) / 65536) / 4294967296) % 128 = p 0 + p 1 + p 2 + p 3 + p 4 + p 5 + p 6 + p 7 := by
  have u : dg p 8 0 = p 0 + 256 * (p 1 + 256 * (p 2 + 256 * (p 3 + 256 * (p 4 + 256 * (p 5 + 256 * (p 6 + 256 * (p 7 + 256 * 0))))))) := rfl
  rw [Nat.mul_zero, Nat.add_zero] at u
  have a0 := hp 0
  have a1 := hp 1
  have a2 := hp 2
  have a3 := hp 3
  have a4 := hp 4
  have a5 := hp 5
  have a6 := hp 6
  have a7 := hp 7
  rw [u]
  generalize p 0 = x0 at a0
  generalize p 1 = x1 at a1
  generalize p 2 = x2 at a2
  generalize p 3 = x3 at a3
  generalize p 4 = x4 at a4
  generalize p 5 = x5 at a5
  generalize p 6 = x6 at a6
  generalize p 7 = x7 at a7
  clear hp u p
  have e1 : (x0 + 256 * (x1 + 256 * (x2 + 256 * (x3 + 256 * (x4 + 256 * (x5 + 256 * (x6 + 256 * (x7)))))))) / 256 = x1 + 256 * (x2 + 256 * (x3 + 256 * (x4 + 256 * (x5 + 256 * (x6 + 256 * (x7)))))) := dv_256 (by omega)
  have e2 : x0 + 256 * (x1 + 256 * (x2 + 256 * (x3 + 256 * (x4 + 256 * (x5 + 256 * (x6 + 256 * (x7))))))) + (x1 + 256 * (x2 + 256 * (x3 + 256 * (x4 + 256 * (x5 + 256 * (x6 + 256 * (x7))))))) = (x0 + x1) + 256 * ((x1 + x2) + 256 * ((x2 + x3) + 256 * ((x3 + x4) + 256 * ((x4 + x5) + 256 * ((x5 + x6) + 256 * ((x6 + x7) + 256 * (x7))))))) := by omega
  have e3 : ((x0 + x1) + 256 * ((x1 + x2) + 256 * ((x2 + x3) + 256 * ((x3 + x4) + 256 * ((x4 + x5) + 256 * ((x5 + x6) + 256 * ((x6 + x7) + 256 * (x7)))))))) / 65536 = (x2 + x3) + 256 * ((x3 + x4) + 256 * ((x4 + x5) + 256 * ((x5 + x6) + 256 * ((x6 + x7) + 256 * (x7))))) := dv_16 (by omega) (by omega)
  have e4 : (x0 + x1) + 256 * ((x1 + x2) + 256 * ((x2 + x3) + 256 * ((x3 + x4) + 256 * ((x4 + x5) + 256 * ((x5 + x6) + 256 * ((x6 + x7) + 256 * (x7))))))) + ((x2 + x3) + 256 * ((x3 + x4) + 256 * ((x4 + x5) + 256 * ((x5 + x6) + 256 * ((x6 + x7) + 256 * (x7)))))) = (x0 + x1 + (x2 + x3)) + 256 * ((x1 + x2 + (x3 + x4)) + 256 * ((x2 + x3 + (x4 + x5)) + 256 * ((x3 + x4 + (x5 + x6)) + 256 * ((x4 + x5 + (x6 + x7)) + 256 * ((x5 + x6 + x7) + 256 * ((x6 + x7) + 256 * (x7))))))) := by omega
  have e5 : ((x0 + x1 + (x2 + x3)) + 256 * ((x1 + x2 + (x3 + x4)) + 256 * ((x2 + x3 + (x4 + x5)) + 256 * ((x3 + x4 + (x5 + x6)) + 256 * ((x4 + x5 + (x6 + x7)) + 256 * ((x5 + x6 + x7) + 256 * ((x6 + x7) + 256 * (x7)))))))) / 4294967296 = (x4 + x5 + (x6 + x7)) + 256 * ((x5 + x6 + x7) + 256 * ((x6 + x7) + 256 * (x7))) := dv_32 (by omega) (by omega) (by omega) (by omega)
  rw [e1, e2, e3, e4, e5]
  clear e1 e2 e3 e4 e5
  refine ⟨bd_64 (by omega) (by omega) (by omega) (by omega) (by omega) (by omega) (by omega) (by omega), ?_⟩
  rw [md_128 (by omega)]
  omega
end BITC
