section ROUNDP
theorem mSz_e (v y : Int32) : ∀ i, mSz v y i = v + nI (i + 1) * y := by
  intro i
  induction i with
  | zero =>
    show v + y = v + 1 * y
    rw [Int32.one_mul]
  | succ i ih =>
    show mSz v y i + y = _
    rw [ih, ← nI_1 (i + 1), Int32.add_mul, Int32.one_mul, Int32.add_assoc]
theorem fInL60 (x : Int32) : fInL x.toInt64 1 60 = fIn x 1 60 := fInL_in (by decide) (by decide)
/-- the bit of a drill -/
theorem bit_e {dr : Int64} {n : Nat} (hn : n < 64) : (dr >>> ((nI n).toInt64 &&& 63)) &&& 1 = 1 ↔ dr.toBitVec.getLsbD n = true := by
  have hs : ∀ k, k < 64 → ((nI k).toInt64 &&& 63).toBitVec.smod 64 = BitVec.ofNat 64 k := by decide
  have e0 : (dr >>> ((nI n).toInt64 &&& 63)).toBitVec = dr.toBitVec.sshiftRight n := by
    have h0 : (dr >>> ((nI n).toInt64 &&& 63)).toBitVec = dr.toBitVec.sshiftRight' (((nI n).toInt64 &&& 63).toBitVec.smod 64) := rfl
    rw [h0, hs n hn]
    unfold BitVec.sshiftRight'
    rw [BitVec.toNat_ofNat, Nat.mod_eq_of_lt (by omega)]
  have e : ((dr >>> ((nI n).toInt64 &&& 63)) &&& 1).toBitVec = dr.toBitVec.sshiftRight n &&& 1#64 := by
    rw [Int64.toBitVec_and, e0]; rfl
  have hb : (dr.toBitVec.sshiftRight n &&& 1#64) = if dr.toBitVec.getLsbD n = true then 1#64 else 0#64 := by
    apply BitVec.eq_of_getLsbD_eq
    intro i hi
    rw [BitVec.getLsbD_and, BitVec.getLsbD_sshiftRight]
    rcases Nat.eq_zero_or_pos i with q | q
    · subst q
      have h1 : (1#64).getLsbD 0 = true := by decide
      rw [h1]
      simp only [Nat.add_zero, hn, Bool.and_true, if_true]
      cases dr.toBitVec.getLsbD n <;> decide
    · have h1 : (1#64).getLsbD i = false := by
        have : ∀ i, i < 64 → 0 < i → (1#64).getLsbD i = false := by decide
        exact this i hi q
      rw [h1, Bool.and_false]
      split
      · exact h1.symm
      · exact (BitVec.getLsbD_zero).symm
  constructor
  · intro h
    rw [h] at e
    rw [hb] at e
    by_cases c : dr.toBitVec.getLsbD n = true
    · exact c
    · rw [if_neg c] at e
      exact absurd e (by decide)
  · intro h
    apply Int64.toBitVec_inj.mp
    rw [e, hb, if_pos h]
    rfl
theorem ns_out (v w : Int32) (dr : Int64) (h : ∀ i, i < 60 → fIn (v + nI i * w) 1 60 = 0 → fIn (v + nI (i + 1) * w) 1 60 = 0) : ∀ r i, i + r ≤ 60 → fIn (v + nI i * w) 1 60 = 0 → xNS v w dr r i = -1 := by
  intro r
  induction r with
  | zero => intro i _ _; rfl
  | succ r ih =>
    intro i hi h0
    rw [xNS, if_pos h0]
    exact ih (i + 1) (by omega) (h i (by omega) h0)
theorem step_go {v w : Int32} {dr : Int64} {db : Nat → Int32} (hD : DI dr db) (h1 : ∀ i, i < 60 → fIn (v + nI i * w) 1 60 = 0 → fIn (v + nI (i + 1) * w) 1 60 = 0) (h2 : fIn (v + nI 60 * w) 1 60 = 0) :
    ∀ r i, i + r = 59 → xNS v w dr r (i + 1) = mStep v w db (r + 1) i := by
  intro r
  induction r with
  | zero =>
    intro i hi
    obtain rfl : i = 59 := by omega
    rw [mStep, mSz_e, fInL60, if_pos h2]
    rfl
  | succ r ih =>
    intro i hi
    rw [mStep, xNS, mSz_e, fInL60]
    by_cases c : fIn (v + nI (i + 1) * w) 1 60 = 0
    · rw [if_pos c, if_pos c]
      exact ns_out v w dr h1 r (i + 1 + 1) (by omega) (h1 (i + 1) (by omega) c)
    · rw [if_neg c, if_neg c]
      obtain ⟨k, k1, k2, e⟩ := rng (a := 1) (b := 60) c (by decide) (by decide)
      have hb := hD.1 k k1 k2
      rw [e, nI_clamp (by omega)]
      by_cases d : db k = 0
      · have nb : ¬ dr.toBitVec.getLsbD k = true := fun q => by
          have := hb.2.mpr q
          rw [d] at this
          exact absurd this (by decide)
        rw [if_pos d, if_neg (fun q => nb ((bit_e (by omega)).mp q))]
        exact ih (i + 1) (by omega)
      · have yb : dr.toBitVec.getLsbD k = true := hb.2.mp (hb.1.resolve_left d)
        rw [if_neg d, if_pos ((bit_e (by omega)).mpr yb)]
theorem out_p {a : Nat} (h1 : 1 ≤ a) (ha : a ≤ 60) : (∀ i, i < 60 → fIn (nI a + nI i * 1) 1 60 = 0 → fIn (nI a + nI (i + 1) * 1) 1 60 = 0) ∧ ∀ i, 60 ≤ i → i ≤ 61 → fIn (nI a + nI i * 1) 1 60 = 0 := by
  constructor
  · intro i hi h
    rw [Int32.mul_one, nI_add] at h ⊢
    have c : ¬ (1 ≤ a + i ∧ a + i ≤ 60) := by
      intro q
      have := fIn_nI (n := a + i) (a := 1) (b := 60) (by omega) (by omega) (by omega) q.1 q.2
      rw [show nI 1 = 1 from rfl, show nI 60 = 60 from rfl, h] at this
      exact absurd this (by decide)
    exact fIn_n0 (n := a + (i + 1)) (a := 1) (b := 60) (by omega) (by omega) (by omega) (by omega)
  · intro i hi _
    rw [Int32.mul_one, nI_add]
    exact fIn_n0 (n := a + i) (a := 1) (b := 60) (by omega) (by omega) (by omega) (by omega)
theorem neg_e (a i : Nat) : nI a + nI i * (-1) = nI a - nI i := by
  rw [Int32.mul_neg, Int32.mul_one, Int32.sub_eq_add_neg]
theorem out_m {a : Nat} (h1 : 1 ≤ a) (ha : a ≤ 60) : (∀ i, i < 60 → fIn (nI a + nI i * (-1)) 1 60 = 0 → fIn (nI a + nI (i + 1) * (-1)) 1 60 = 0) ∧ ∀ i, 60 ≤ i → i ≤ 61 → fIn (nI a + nI i * (-1)) 1 60 = 0 := by
  have e : ∀ i, i < 1000 → (nI a + nI i * (-1)).toInt = (a : Int) - i := by
    intro i hi
    rw [neg_e, pk_sub_toInt (by omega) (by omega)]
  constructor
  · intro i hi h
    refine fIn_no ?_
    rw [e (i + 1) (by omega), t1_, t60]
    intro q
    have := fIn_of (x := nI a + nI i * (-1)) (A := 1) (B := 60) (by rw [e i (by omega), t1_]; omega) (by rw [e i (by omega), t60]; omega)
    rw [h] at this
    exact absurd this (by decide)
  · intro i hi h2
    refine fIn_no ?_
    rw [e i (by omega), t1_, t60]
    omega
theorem ns_ok {v w : Int32} {dr : Int64} : ∀ r i, ¬ xNS v w dr r i = -1 → ∃ n, 1 ≤ n ∧ n ≤ 60 ∧ xNS v w dr r i = nI n := by
  intro r
  induction r with
  | zero => intro i h; exact absurd rfl h
  | succ r ih =>
    intro i h
    rw [xNS] at h ⊢
    by_cases c : fIn (v + nI i * w) 1 60 = 0
    · rw [if_pos c] at h ⊢; exact ih (i + 1) h
    · rw [if_neg c] at h ⊢
      by_cases d : (dr >>> ((v + nI i * w).toInt64 &&& 63)) &&& 1 = 1
      · rw [if_pos d]
        exact rng (a := 1) (b := 60) c (by decide) (by decide)
      · rw [if_neg d] at h ⊢; exact ih (i + 1) h
def OKp (ln bo pl sz ch : Nat → Int32) (np nh : Nat) (mo fa : Int32) (bd : Nat → Int32) (k : Nat) (y v : Int32) (be : Int32) : Prop :=
  k < nh ∧ ((y = 0 ∧ be = nI (3 * k) ∧ PI ln bo (upd pl k v) sz ch np nh mo fa ∧ HR (upd pl k v) sz ch (upd bd (3 * k) v)) ∨ (y = 1 ∧ be = nI (3 * k + 1) ∧ PI ln bo pl (upd sz k v) ch np nh mo fa ∧ HR pl (upd sz k v) ch (upd bd (3 * k + 1) v)))
/-- the four moves of a hole, both sides -/
theorem mv_e {ln bo pl sz ch bd db : Nat → Int32} {np nh k : Nat} {mo fa re : Int32} {dr : Int64} (h : PI ln bo pl sz ch np nh mo fa) (hH : HR pl sz ch bd) (hD : DI dr db) (hre : ¬ re ≤ 0) (hk : k < nh) :
    (xPM pl nh re k 1 (fSum ln np 0 0) = mMoved ln bd db np nh re k 0 ∧ xPM pl nh re k (-1) (fSum ln np 0 0) = mMoved ln bd db np nh re k 1) ∧ xNS (sz k) 1 dr 59 1 = mMoved ln bd db np nh re k 2 ∧ xNS (sz k) (-1) dr 59 1 = mMoved ln bd db np nh re k 3 := by
  have h6 := h.2.1
  have ek : bd (3 * k) = pl k := hH.h k (by omega)
  have es : bd (3 * k + 1) = sz k := (hH k (by omega)).2.1
  obtain ⟨a, a1, a2, ea⟩ := h.sz hk
  refine ⟨⟨?_, ?_⟩, ?_, ?_⟩
  · unfold mMoved
    rw [if_neg (by decide : ¬ 2 ≤ nI 0), if_pos (by decide : nI 0 = 0)]
    show _ = if mMay ln bd np nh re k (bd (3 * k) + 1) = 0 then -1 else bd (3 * k) + 1
    rw [ek]
    refine pm_e h hH hk hre rfl ?_
    rw [ek, Int32.add_comm, Int32.add_sub_cancel]
  · unfold mMoved
    rw [if_neg (by decide : ¬ 2 ≤ nI 1), if_neg (by decide : ¬ nI 1 = 0)]
    show _ = if mMay ln bd np nh re k (bd (3 * k) - 1) = 0 then -1 else bd (3 * k) - 1
    rw [ek]
    have e1 : pl k - 1 = pl k + -1 := Int32.sub_eq_add_neg _ _
    refine pm_e h hH hk hre e1 ?_
    rw [ek, e1, Int32.add_comm, Int32.add_sub_cancel]
  · unfold mMoved
    rw [if_pos (by decide : 2 ≤ nI 2), if_pos (by decide : nI 2 = 2)]
    show _ = mStep (bd (3 * k + 1)) 1 db 60 0
    rw [es, ea]
    obtain ⟨o1, o2⟩ := out_p a1 a2
    exact step_go hD o1 (o2 60 (by omega) (by omega)) 59 0 rfl
  · unfold mMoved
    rw [if_pos (by decide : 2 ≤ nI 3), if_neg (by decide : ¬ nI 3 = 2)]
    show _ = mStep (bd (3 * k + 1)) (-1) db 60 0
    rw [es, ea]
    obtain ⟨o1, o2⟩ := out_m a1 a2
    exact step_go hD o1 (o2 60 (by omega) (by omega)) 59 0 rfl
theorem okp_pm {ln bo pl sz ch bd : Nat → Int32} {np nh k : Nat} {mo fa re w v : Int32} (h : PI ln bo pl sz ch np nh mo fa) (hH : HR pl sz ch bd) (hk : k < nh) (e : xPM pl nh re k w (fSum ln np 0 0) = v) (hv : ¬ v = -1) : OKp ln bo pl sz ch np nh mo fa bd k 0 v (nI (3 * k)) := by
  have h6 := h.2.1
  obtain ⟨e1, e2, e3⟩ := pm_ok (re := re) (w := w) (k := k) h.ln h6 (by rw [e]; exact hv)
  rw [e] at e1
  rw [← e1] at e2 e3
  exact ⟨hk, Or.inl ⟨rfl, rfl, PI_pl h e2 (fun j a _ => e3 j a), HR_pl hH k v⟩⟩
theorem okp_ns {ln bo pl sz ch bd : Nat → Int32} {np nh k : Nat} {mo fa w v : Int32} {dr : Int64} (h : PI ln bo pl sz ch np nh mo fa) (hH : HR pl sz ch bd) (hk : k < nh) (e : xNS (sz k) w dr 59 1 = v) (hv : ¬ v = -1) : OKp ln bo pl sz ch np nh mo fa bd k 1 v (nI (3 * k + 1)) := by
  obtain ⟨n, n1, n2, e1⟩ := ns_ok (v := sz k) (w := w) (dr := dr) 59 1 (by rw [e]; exact hv)
  rw [e] at e1
  exact ⟨hk, Or.inr ⟨rfl, rfl, PI_sz h ⟨n, n1, n2, e1⟩, HR_sz hH k v⟩⟩
theorem okp_c {ln bo pl sz ch bd : Nat → Int32} {np nh k : Nat} {mo fa y v be : Int32} (h : OKp ln bo pl sz ch np nh mo fa bd k y v be) : ∃ q, q < 18 ∧ be = nI q ∧ PI ln bo (cPl pl y k v) (cSz sz y k v) (cCh ch y k v) np nh mo fa ∧ HR (cPl pl y k v) (cSz sz y k v) (cCh ch y k v) (upd bd q v) := by
  obtain ⟨hk, h⟩ := h
  rcases h with ⟨e1, e2, e3, e4⟩ | ⟨e1, e2, e3, e4⟩
  · have h6 := e3.2.1
    subst e1
    refine ⟨3 * k, by omega, e2, ?_, ?_⟩
    · unfold cPl cSz cCh; rw [if_pos rfl, if_pos rfl, if_pos rfl]; exact e3
    · unfold cPl cSz cCh; rw [if_pos rfl, if_pos rfl, if_pos rfl]; exact e4
  · have h6 := e3.2.1
    subst e1
    have d : ¬ (1 : Int32) = 0 := by decide
    refine ⟨3 * k + 1, by omega, e2, ?_, ?_⟩
    · unfold cPl cSz cCh; rw [if_neg d, if_neg d, if_neg d, if_pos rfl, if_pos rfl]; exact e3
    · unfold cPl cSz cCh; rw [if_neg d, if_neg d, if_neg d, if_pos rfl, if_pos rfl]; exact e4
/-- the state of the search, both sides -/
def RdI (ln bo pl sz ch : Nat → Int32) (np nh : Nat) (mo fa : Int32) (bd : Nat → Int32) (q : MV4) (t : Int32 × Int32 × Int32) : Prop :=
  ∃ G S, G ≤ 300 ∧ S ≤ 1800 ∧ q.1 = nI (1801 * G + S) ∧ t.1 = nI (10000 * G + S) ∧ ((q.2.1 = -1 ∧ t.2.1 = -1) ∨ ∃ k, q.2.1 = nI k ∧ q.2.2.2 = t.2.2 ∧ OKp ln bo pl sz ch np nh mo fa bd k q.2.2.1 q.2.2.2 t.2.1)
def mSt (M B : Nat → Int32) (i : Nat) (t : Int32 × Int32 × Int32) : Int32 × Int32 × Int32 :=
  if M i < 0 then t else if t.1 ≤ B i then t else (B i, nI (3 * (i / 4) + i % 4 / 2), M i)
theorem mRd_s (M B : Nat → Int32) (r i : Nat) (t : Int32 × Int32 × Int32) : mRd M B (r + 1) i t.1 t.2.1 t.2.2 = mRd M B r (i + 1) (mSt M B i t).1 (mSt M B i t).2.1 (mSt M B i t).2.2 := by
  rw [mRd]
  unfold mSt
  by_cases c : M i < 0
  · rw [if_pos c, if_pos c]
  · rw [if_neg c, if_neg c]
    by_cases d : t.1 ≤ B i
    · rw [if_pos d, if_pos d]
    · rw [if_neg d, if_neg d]
theorem try_e {ln bo pl sz ch bd db : Nat → Int32} {np nh nn k j : Nat} {mo fa re y v : Int32} {ns nw nt : Nat → Int32} {q : MV4} {t : Int32 × Int32 × Int32} (hN : NI nn ns nw nt) (hq : RdI ln bo pl sz ch np nh mo fa bd q t) (hj : j < 4) (ev : mMoved ln bd db np nh re k j = v)
    (hv : ¬ v = -1 → OKp ln bo pl sz ch np nh mo fa bd k y v (nI (3 * k + j / 2)) ∧ ¬ v < 0) :
    RdI ln bo pl sz ch np nh mo fa bd (xTryT ln bo pl sz ch np nh mo fa nn ns nw nt k y v q) (mSt (mMv ln bd db np nh re) (mBdA ln bo bd db np nh nn mo fa re ns nw nt) (4 * k + j) t) := by
  have hn6 := hN.1
  have e1 : (4 * k + j) / 4 = k := by omega
  have e2 : (4 * k + j) % 4 = j := by omega
  have em : mMv ln bd db np nh re (4 * k + j) = v := by unfold mMv; rw [e1, e2]; exact ev
  unfold mSt xTryT
  rw [em, e1, e2]
  by_cases c : v = -1
  · rw [if_pos c, if_pos (by rw [c]; exact m1_lt)]; exact hq
  · obtain ⟨ok, nv⟩ := hv c
    rw [if_neg c, if_neg nv]
    obtain ⟨p, p18, ep, hP, hH⟩ := okp_c ok
    have ep2 : 3 * k + j / 2 = p := by
      have hk := ok.1
      have h6 := hP.2.1
      exact (nI_eq (by omega) (by omega)).mp ep
    obtain ⟨G, S, g1, s1, eq, et, hk⟩ := id hq
    have eB : mBdA ln bo bd db np nh nn mo fa re ns nw nt (4 * k + j) = mBa (mMissK ln bo (upd bd p v) np nh mo fa ns nw nt) nn 0 0 0 := by
      unfold mBdA
      rw [e1, e2, ev, ep2]
    have hM : MsOK (mMissK ln bo (upd bd p v) np nh mo fa ns nw nt) nn := fun i hi => (xMk_e hP hH hN hi).2.2
    have hx : xTryR ln bo pl sz ch np nh mo fa nn ns nw nt k y v q.1 = xRk (mMissK ln bo (upd bd p v) np nh mo fa ns nw nt) q.1 nn 0 0 0 := by
      unfold xTryR
      exact xRk_cg q.1 nn 0 0 0 (fun i hi => (xMk_e hP hH hN (by omega)).2.1)
    rw [hx, eB]
    generalize mMissK ln bo (upd bd p v) np nh mo fa ns nw nt = mk at hM
    obtain ⟨-, -, a3, a4, a5, -, -⟩ := gs_go hM nn 0 0 0 (by omega) (by omega) (by omega)
    rw [nI_0] at a3
    obtain ⟨r, r1, er, hr⟩ := rk_go (B := 1801 * G + S) hM (by omega) nn 0 0 0 (by omega) (by omega) (by omega)
    rw [nI_0] at er
    rw [eq, er, a3, et]
    by_cases d : 1801 * G + S ≤ r
    · rw [if_pos (nI_le d (by omega)), if_pos (nI_le (by omega) (by omega))]
      exact hq
    · rw [if_neg (nI_ge (by omega) (by omega)), if_neg (nI_ge (by omega) (by omega))]
      have er2 : r = 1801 * gN mk nn 0 0 + suN mk nn 0 0 := by omega
      refine ⟨gN mk nn 0 0, suN mk nn 0 0, a4, a5, by rw [er2], rfl, Or.inr ⟨k, rfl, rfl, ok⟩⟩
theorem OKp.nn {ln bo pl sz ch bd : Nat → Int32} {np nh k : Nat} {mo fa y v be : Int32} (h : OKp ln bo pl sz ch np nh mo fa bd k y v be) : ¬ v < 0 := by
  obtain ⟨hk, h⟩ := h
  rcases h with ⟨-, -, e3, -⟩ | ⟨-, -, e3, -⟩
  · obtain ⟨e, -, -, b⟩ := e3.ho.at hk
    rw [pk_us] at e
    rw [e]; exact nI_pos (by omega)
  · obtain ⟨n, n1, n2, e⟩ := e3.sz hk
    rw [pk_us] at e
    rw [e]; exact nI_pos (by omega)
theorem try4_e {ln bo pl sz ch bd db : Nat → Int32} {np nh nn k : Nat} {mo fa re : Int32} {dr : Int64} {ns nw nt : Nat → Int32} {q : MV4} {t : Int32 × Int32 × Int32} (h : PI ln bo pl sz ch np nh mo fa) (hH : HR pl sz ch bd) (hD : DI dr db) (hre : ¬ re ≤ 0) (hN : NI nn ns nw nt) (hk : k < nh) (hq : RdI ln bo pl sz ch np nh mo fa bd q t) :
    ∃ t', RdI ln bo pl sz ch np nh mo fa bd (xTry4 ln bo pl sz ch np nh mo fa nn ns nw nt re dr k q) t' ∧ ∀ r, mRd (mMv ln bd db np nh re) (mBdA ln bo bd db np nh nn mo fa re ns nw nt) (r + 4) (4 * k) t.1 t.2.1 t.2.2 = mRd (mMv ln bd db np nh re) (mBdA ln bo bd db np nh nn mo fa re ns nw nt) r (4 * (k + 1)) t'.1 t'.2.1 t'.2.2 := by
  obtain ⟨⟨m0, m1⟩, m2, m3⟩ := mv_e h hH hD hre hk
  have s0 := try_e (y := 0) (j := 0) hN hq (by omega) m0.symm (fun hv => by
    have o := okp_pm h hH hk rfl hv
    exact ⟨o, o.nn⟩)
  have s1 := try_e (y := 0) (j := 1) hN s0 (by omega) m1.symm (fun hv => by
    have o := okp_pm h hH hk rfl hv
    exact ⟨o, o.nn⟩)
  have s2 := try_e (y := 1) (j := 2) hN s1 (by omega) m2.symm (fun hv => by
    have o := okp_ns h hH hk rfl hv
    exact ⟨o, o.nn⟩)
  have s3 := try_e (y := 1) (j := 3) hN s2 (by omega) m3.symm (fun hv => by
    have o := okp_ns h hH hk rfl hv
    exact ⟨o, o.nn⟩)
  refine ⟨_, s3, fun r => ?_⟩
  rw [show r + 4 = r + 3 + 1 from rfl, mRd_s, show r + 3 = r + 2 + 1 from rfl, mRd_s, show r + 2 = r + 1 + 1 from rfl, mRd_s, mRd_s]
  rfl
theorem rd_go {ln bo pl sz ch bd db : Nat → Int32} {np nh nn : Nat} {mo fa re : Int32} {dr : Int64} {ns nw nt : Nat → Int32} (h : PI ln bo pl sz ch np nh mo fa) (hH : HR pl sz ch bd) (hD : DI dr db) (hre : ¬ re ≤ 0) (hN : NI nn ns nw nt) :
    ∀ r k q t, k + r = nh → RdI ln bo pl sz ch np nh mo fa bd q t → ∃ t', RdI ln bo pl sz ch np nh mo fa bd (iterF (xTry4 ln bo pl sz ch np nh mo fa nn ns nw nt re dr) q k r) t' ∧ mRd (mMv ln bd db np nh re) (mBdA ln bo bd db np nh nn mo fa re ns nw nt) (4 * r) (4 * k) t.1 t.2.1 t.2.2 = (t'.2.1, t'.2.2) := by
  intro r
  induction r with
  | zero => intro k q t _ hq; exact ⟨t, hq, rfl⟩
  | succ r ih =>
    intro k q t hk hq
    obtain ⟨t1, a, b⟩ := try4_e (k := k) h hH hD hre hN (by omega) hq
    obtain ⟨t2, c, d⟩ := ih (k + 1) _ t1 (by omega) a
    refine ⟨t2, ?_, ?_⟩
    · rw [iterF_s]; exact c
    · rw [show 4 * (r + 1) = 4 * r + 4 from by omega, b, d]
end ROUNDP
