section OPC
theorem count_p {ln bo pl sz ch bd db : Nat → Int32} {np nh nn : Nat} {mo fa : Int32} {dr : Int64} {ns nw nt : Nat → Int32} (h : PI ln bo pl sz ch np nh mo fa) (hH : HR pl sz ch bd) (hN : NI nn ns nw nt) (hD : DI dr db) (y re ro : Int32) :
    mCount y np nh nn (fSum ln np 0 0) mo fa re (mDr db 60 1 0) (mGr (mMissK ln bo bd np nh mo fa ns nw nt) nn 0 0) (mSu (mMissK ln bo bd np nh mo fa ns nw nt) nn 0 0) ro = xCount y np nh nn (fSum ln np 0 0) mo fa re (fBit dr) (xRk (xMk (xW ln bo pl sz ch np nh mo fa) ns nw nt) 3243601 nn 0 0 0) ro := by
  have hn6 := hN.1
  have hM : MsOK (mMissK ln bo bd np nh mo fa ns nw nt) nn := fun i hi => (xMk_e h hH hN hi).2.2
  have hx : xRk (xMk (xW ln bo pl sz ch np nh mo fa) ns nw nt) 3243601 nn 0 0 0 = xRk (mMissK ln bo bd np nh mo fa ns nw nt) 3243601 nn 0 0 0 := xRk_cg 3243601 nn 0 0 0 (fun i hi => (xMk_e h hH hN (by omega)).2.1)
  rw [hx, dr_e hD]
  generalize mMissK ln bo bd np nh mo fa ns nw nt = mk at hM
  obtain ⟨e, g1, s1⟩ := rk_full hM hn6
  obtain ⟨a1, a2, -, -, -, -, -⟩ := gs_go hM nn 0 0 0 (by omega) (by omega) (by omega)
  rw [nI_0] at a1 a2
  rw [e, a1, a2]
  generalize gN mk nn 0 0 = g at g1
  generalize suN mk nn 0 0 = s at s1
  have d1 : nI (1801 * g + s) / 1801 = nI g := by
    have := pk_div (a := 1801 * g + s) (d := 1801) (by omega) (by decide) (by decide)
    rw [show (1801 * g + s) / 1801 = g by omega] at this
    exact this
  have d2 : nI (1801 * g + s) - nI (1801 * g + s) / 1801 * 1801 = nI s := by
    have := pk_rem (a := 1801 * g + s) (d := 1801) (by omega) (by decide) (by decide)
    rw [show (1801 * g + s) % 1801 = s by omega] at this
    exact this
  unfold mCount xCount
  rw [d2, d1]
theorem round_p {ln bo pl sz ch bd db : Nat → Int32} {np nh nn : Nat} {mo fa re : Int32} {dr : Int64} {ns nw nt : Nat → Int32} (h : PI ln bo pl sz ch np nh mo fa) (hH : HR pl sz ch bd) (hD : DI dr db) (hre : ¬ re ≤ 0) (hN : NI nn ns nw nt) (ro wh va : Int32) :
    (mRound ln bo bd db np nh nn mo fa re ro ns nw nt).1 = (xRound ln bo pl sz ch np nh mo fa nn ns nw nt re dr ro wh va).1 ∧ (mRound ln bo bd db np nh nn mo fa re ro ns nw nt).2.2 = (xRound ln bo pl sz ch np nh mo fa nn ns nw nt re dr ro wh va).2.2.2.2 ∧
    PI ln bo ((xRound ln bo pl sz ch np nh mo fa nn ns nw nt re dr ro wh va).2.1) ((xRound ln bo pl sz ch np nh mo fa nn ns nw nt re dr ro wh va).2.2.1) ((xRound ln bo pl sz ch np nh mo fa nn ns nw nt re dr ro wh va).2.2.2.1) np nh mo fa ∧
    HR ((xRound ln bo pl sz ch np nh mo fa nn ns nw nt re dr ro wh va).2.1) ((xRound ln bo pl sz ch np nh mo fa nn ns nw nt re dr ro wh va).2.2.1) ((xRound ln bo pl sz ch np nh mo fa nn ns nw nt re dr ro wh va).2.2.2.1) ((mRound ln bo bd db np nh nn mo fa re ro ns nw nt).2.1) := by
  have h6 := h.2.1
  have hn6 := hN.1
  have hM : MsOK (mMissK ln bo bd np nh mo fa ns nw nt) nn := fun i hi => (xMk_e h hH hN hi).2.2
  have hx : xRk (xMk (xW ln bo pl sz ch np nh mo fa) ns nw nt) 3243601 nn 0 0 0 = xRk (mMissK ln bo bd np nh mo fa ns nw nt) 3243601 nn 0 0 0 := xRk_cg 3243601 nn 0 0 0 (fun i hi => (xMk_e h hH hN (by omega)).2.1)
  have q0 : RdI ln bo pl sz ch np nh mo fa bd (xRk (xMk (xW ln bo pl sz ch np nh mo fa) ns nw nt) 3243601 nn 0 0 0, -1, wh, va) (mBa (mMissK ln bo bd np nh mo fa ns nw nt) nn 0 0 0, -1, 0) := by
    obtain ⟨e, g1, s1⟩ := rk_full hM hn6
    obtain ⟨-, -, a3, -, -, -, -⟩ := gs_go hM nn 0 0 0 (by omega) (by omega) (by omega)
    rw [nI_0] at a3
    exact ⟨_, _, g1, s1, hx.trans e, a3, Or.inl ⟨rfl, rfl⟩⟩
  obtain ⟨⟨le, b, v⟩, ht, et⟩ := rd_go h hH hD hre hN nh 0 _ _ (Nat.zero_add nh) q0
  have et : mRd (mMv ln bd db np nh re) (mBdA ln bo bd db np nh nn mo fa re ns nw nt) (4 * nh) 0 (mBa (mMissK ln bo bd np nh mo fa ns nw nt) nn 0 0 0) (-1) 0 = (b, v) := et
  have ht : RdI ln bo pl sz ch np nh mo fa bd (xRd0 ln bo pl sz ch np nh mo fa nn ns nw nt re dr wh va) (le, b, v) := ht
  unfold mRound xRound
  rw [et]
  generalize xRd0 ln bo pl sz ch np nh mo fa nn ns nw nt re dr wh va = q at ht
  obtain ⟨q1, q2, q3, q4⟩ := q
  by_cases c1 : nI np = 0
  · rw [if_pos c1, if_pos c1]; exact ⟨rfl, rfl, h, hH⟩
  · rw [if_neg c1, if_neg c1]
    by_cases c2 : nI nh = 0
    · rw [if_pos c2, if_pos c2]; exact ⟨rfl, rfl, h, hH⟩
    · rw [if_neg c2, if_neg c2]
      by_cases c3 : nI nn = 0
      · rw [if_pos c3, if_pos c3]; exact ⟨rfl, rfl, h, hH⟩
      · rw [if_neg c3, if_neg c3]
        obtain ⟨G, S, -, -, -, -, hk⟩ := ht
        dsimp only at hk ⊢
        rcases hk with ⟨k1, k2⟩ | ⟨k, k1, k2, ok⟩
        · subst k1 k2
          rw [if_neg (by decide : ¬ (0 : Int32) ≤ -1), if_pos rfl]
          exact ⟨rfl, rfl, h, hH⟩
        · obtain ⟨p, p18, ep, hP, hH2⟩ := okp_c ok
          have hk6 := ok.1
          subst k1 ep k2
          rw [if_pos (nI_pos' (by omega)), if_neg (nI_nm1 (by omega)), nI_clamp (by omega), nI_clamp (by omega)]
          exact ⟨rfl, rfl, hP, hH2⟩
theorem fSum_cg {f g : Nat → Int32} : ∀ r i z, (∀ j, j < i + r → f j = g j) → fSum f r i z = fSum g r i z := by
  intro r
  induction r with
  | zero => intro i z _; rfl
  | succ r ih =>
    intro i z h
    rw [fSum, fSum, h i (by omega)]
    exact ih (i + 1) _ (fun j q => h j (by omega))
theorem PI_cg {ln bo pl sz ch ln' bo' pl' sz' ch' : Nat → Int32} {np nh : Nat} {mo fa : Int32} (h : PI ln bo pl sz ch np nh mo fa) (e1 : ∀ j, j < 12 → ln' j = ln j) (e2 : ∀ j, j < 12 → bo' j = bo j) (e3 : ∀ j, j < 6 → pl' j = pl j) (e4 : ∀ j, j < 6 → sz' j = sz j) (e5 : ∀ j, j < 6 → ch' j = ch j) : PI ln' bo' pl' sz' ch' np nh mo fa := by
  obtain ⟨a1, a2, a3, a4, a5, a6, a7, a8, a9, a10⟩ := h
  have es : fSum ln' np 0 0 = fSum ln np 0 0 := fSum_cg np 0 0 (fun j q => e1 j (by omega))
  refine ⟨a1, a2, ?_, ?_, ?_, ?_, ?_, ?_, a9, a10⟩
  · intro j hj; rw [e1 j (by omega)]; exact a3 j hj
  · intro j hj; rw [e2 j (by omega)]; exact a4 j hj
  · intro j hj; rw [e3 j (by omega), es]; exact a5 j hj
  · intro j hj; rw [e4 j (by omega)]; exact a6 j hj
  · intro j hj; rw [e5 j (by omega)]; exact a7 j hj
  · intro i j hi hj q
    rw [e3 i (by omega), e3 j (by omega)] at q
    exact a8 i j hi hj q
theorem cpyF_in {f g : Nat → Int32} {n j : Nat} (h : j < n) : cpyF f g n j = f j := if_pos h
theorem cpyF_cg {f f' g : Nat → Int32} {n : Nat} (h : ∀ j, j < n → f j = f' j) : cpyF f g n = cpyF f' g n := by
  funext j
  unfold cpyF
  by_cases c : j < n
  · rw [if_pos c, if_pos c, h j c]
  · rw [if_neg c, if_neg c]
theorem kp1_at {s0 ln bo : Nat → Int32} {k : Nat} : ∀ n, n ≤ 12 → (∀ j, j < n → kp1 s0 k ln bo n (50 * k + 4 + 2 * j) = ln j ∧ kp1 s0 k ln bo n (50 * k + 5 + 2 * j) = bo j) ∧ ∀ a, (a < 50 * k + 4 ∨ 50 * k + 28 ≤ a) → kp1 s0 k ln bo n a = s0 a := by
  intro n
  induction n with
  | zero => intro _; exact ⟨fun j h => absurd h (Nat.not_lt_zero j), fun a _ => rfl⟩
  | succ n ih =>
    intro hn
    obtain ⟨i1, i2⟩ := ih (by omega)
    have u : kp1 s0 k ln bo (n + 1) = upd (upd (kp1 s0 k ln bo n) (50 * k + 4 + 2 * n) (ln n)) (50 * k + 5 + 2 * n) (bo n) := rfl
    rw [u]
    refine ⟨fun j hj => ?_, fun a ha => ?_⟩
    · by_cases c : j = n
      · subst c
        rw [pk_un (by omega), pk_us, pk_us]
        exact ⟨rfl, rfl⟩
      · rw [pk_un (by omega), pk_un (by omega), pk_un (by omega), pk_un (by omega)]
        exact i1 j (by omega)
    · rw [pk_un (by omega), pk_un (by omega)]
      exact i2 a ha
theorem kp2_at {s1 bd : Nat → Int32} {k : Nat} : ∀ n, n ≤ 18 → (∀ j, j < n → kp2 s1 k bd n (50 * k + 28 + j) = bd j) ∧ ∀ a, (a < 50 * k + 28 ∨ 50 * k + 46 ≤ a) → kp2 s1 k bd n a = s1 a := by
  intro n
  induction n with
  | zero => intro _; exact ⟨fun j h => absurd h (Nat.not_lt_zero j), fun a _ => rfl⟩
  | succ n ih =>
    intro hn
    obtain ⟨i1, i2⟩ := ih (by omega)
    have u : kp2 s1 k bd (n + 1) = upd (kp2 s1 k bd n) (50 * k + 28 + n) (bd n) := rfl
    rw [u]
    refine ⟨fun j hj => ?_, fun a ha => ?_⟩
    · by_cases c : j = n
      · subst c; rw [pk_us]
      · rw [pk_un (by omega)]
        exact i1 j (by omega)
    · rw [pk_un (by omega)]
      exact i2 a ha
theorem kp0_at (sh : Nat → Int32) (k np nh : Nat) (e0 e1 : Int32) : kp0 sh k np nh e0 e1 (50 * k) = nI np ∧ kp0 sh k np nh e0 e1 (50 * k + 1) = nI nh ∧ kp0 sh k np nh e0 e1 (50 * k + 2) = e0 ∧ kp0 sh k np nh e0 e1 (50 * k + 3) = e1 ∧ ∀ a, (a < 50 * k ∨ 50 * k + 4 ≤ a) → kp0 sh k np nh e0 e1 a = sh a := by
  unfold kp0
  refine ⟨?_, ?_, ?_, ?_, fun a ha => ?_⟩
  · rw [pk_un (by omega), pk_un (by omega), pk_un (by omega), pk_us]
  · rw [pk_un (by omega), pk_un (by omega), pk_us]
  · rw [pk_un (by omega), pk_us]
  · rw [pk_us]
  · rw [pk_un (by omega), pk_un (by omega), pk_un (by omega), pk_un (by omega)]
theorem SR_cg {sh s : Nat → Int32} {k : Nat} {u : Int32} {ln bo pl sz ch : Nat → Int32} {np nh : Nat} {mo fa : Int32} (h : SR sh k u ln bo pl sz ch np nh mo fa) (e : ∀ a, 50 * k ≤ a → a < 50 * k + 46 → s a = sh a) : SR s k u ln bo pl sz ch np nh mo fa := by
  obtain ⟨h12, h6, h⟩ := h
  refine ⟨h12, h6, ?_⟩
  rcases h with ⟨a, b⟩ | ⟨a, p, b0, b1, b2, b3, b4, b5⟩
  · exact Or.inl ⟨a, by rw [e _ (by omega) (by omega)]; exact b⟩
  · refine Or.inr ⟨a, p, ?_, ?_, ?_, ?_, fun j hj => ?_, fun j hj => ?_⟩
    · rw [e _ (by omega) (by omega)]; exact b0
    · rw [e _ (by omega) (by omega)]; exact b1
    · rw [e _ (by omega) (by omega)]; exact b2
    · rw [e _ (by omega) (by omega)]; exact b3
    · rw [e _ (by omega) (by omega), e _ (by omega) (by omega)]; exact b4 j hj
    · rw [e _ (by omega) (by omega), e _ (by omega) (by omega), e _ (by omega) (by omega)]; exact b5 j hj
/-- what is kept stands on its shelf, and nothing else changes -/
theorem kept {ln bo pl sz ch bd sh ln' bo' pl' sz' ch' : Nat → Int32} {np nh : Nat} {mo fa : Int32} (h : PI ln bo pl sz ch np nh mo fa) (hH : HR pl sz ch bd) (k : Nat) :
    SR (kp2 (kp1 (kp0 sh k np nh mo fa) k ln bo 12) k bd 18) k 1 (cpyF ln ln' 12) (cpyF bo bo' 12) (cpyF pl pl' 6) (cpyF sz sz' 6) (cpyF ch ch' 6) np nh mo fa ∧ ∀ a, (a < 50 * k ∨ 50 * k + 46 ≤ a) → kp2 (kp1 (kp0 sh k np nh mo fa) k ln bo 12) k bd 18 a = sh a := by
  obtain ⟨z0, z1, z2, z3, z4⟩ := kp0_at sh k np nh mo fa
  generalize kp0 sh k np nh mo fa = s0 at z0 z1 z2 z3 z4
  obtain ⟨y1, y2⟩ := kp1_at (s0 := s0) (ln := ln) (bo := bo) (k := k) 12 (by omega)
  generalize kp1 s0 k ln bo 12 = s1 at y1 y2
  obtain ⟨x1, x2⟩ := kp2_at (s1 := s1) (bd := bd) (k := k) 18 (by omega)
  generalize kp2 s1 k bd 18 = s2 at x1 x2
  have h12 := h.1
  have h6 := h.2.1
  refine ⟨⟨h12, h6, Or.inr ⟨rfl, PI_cg h (fun j q => cpyF_in q) (fun j q => cpyF_in q) (fun j q => cpyF_in q) (fun j q => cpyF_in q) (fun j q => cpyF_in q), ?_, ?_, ?_, ?_, fun j hj => ?_, fun j hj => ?_⟩⟩, fun a ha => ?_⟩
  · rw [x2 _ (by omega), y2 _ (by omega)]; exact z0
  · rw [x2 _ (by omega), y2 _ (by omega)]; exact z1
  · rw [x2 _ (by omega), y2 _ (by omega)]; exact z2
  · rw [x2 _ (by omega), y2 _ (by omega)]; exact z3
  · rw [x2 _ (by omega), x2 _ (by omega), cpyF_in hj, cpyF_in hj]; exact y1 j hj
  · rw [x1 _ (by omega), x1 _ (by omega), x1 _ (by omega), cpyF_in hj, cpyF_in hj, cpyF_in hj]; exact hH j hj
  · rw [x2 a (by omega), y2 a (by omega), z4 a (by omega)]
theorem xKA_o {α : Type} {x : Int32} (h : fIn x 0 1 = 0) (o n : α) : xKA x o n = o := if_pos h
theorem xKB_o {α : Type} {x : Int32} (h : fIn x 0 1 = 0) (o n : α) : xKB x o n = o := if_pos h
theorem f0_ : ¬ fIn 0 0 1 = 0 := by decide
theorem f1_ : ¬ fIn 1 0 1 = 0 := by decide
theorem d10 : ¬ (1 : Int32) = 0 := by decide
theorem xKA_0 {α : Type} (o n : α) : xKA 0 o n = n := by unfold xKA; rw [if_neg f0_, if_pos rfl]
theorem xKB_0 {α : Type} (o n : α) : xKB 0 o n = o := by unfold xKB; rw [if_neg f0_, if_pos rfl]
theorem xKA_1 {α : Type} (o n : α) : xKA 1 o n = o := by unfold xKA; rw [if_neg f1_, if_neg d10]
theorem xKB_1 {α : Type} (o n : α) : xKB 1 o n = n := by unfold xKB; rw [if_neg f1_, if_neg d10]
theorem keep_p {ln bo pl sz ch bd en sh : Nat → Int32} {np nh : Nat} {mo fa : Int32} {ua ub moA faA moB faB : Int32} {npA nhA npB nhB : Nat} {lnA boA plA szA chA lnB boB plB szB chB : Nat → Int32} (h : PI ln bo pl sz ch np nh mo fa) (hH : HR pl sz ch bd) (he : en 0 = mo ∧ en 1 = fa) (hA : SR sh 0 ua lnA boA plA szA chA npA nhA moA faA) (hB : SR sh 1 ub lnB boB plB szB chB npB nhB moB faB) (x : Int32) :
    (mKeep x np nh en ln bo bd sh).1 = xKR x ∧ SR ((mKeep x np nh en ln bo bd sh).2) 0 (xKA x ua 1) (xKA x lnA (cpyF ln lnA 12)) (xKA x boA (cpyF bo boA 12)) (xKA x plA (cpyF pl plA 6)) (xKA x szA (cpyF sz szA 6)) (xKA x chA (cpyF ch chA 6)) (xKA x npA np) (xKA x nhA nh) (xKA x moA mo) (xKA x faA fa) ∧
    SR ((mKeep x np nh en ln bo bd sh).2) 1 (xKB x ub 1) (xKB x lnB (cpyF ln lnB 12)) (xKB x boB (cpyF bo boB 12)) (xKB x plB (cpyF pl plB 6)) (xKB x szB (cpyF sz szB 6)) (xKB x chB (cpyF ch chB 6)) (xKB x npB np) (xKB x nhB nh) (xKB x moB mo) (xKB x faB fa) := by
  obtain ⟨he0, he1⟩ := he
  unfold mKeep xKR
  rw [r01, he0, he1]
  by_cases c : fIn x 0 1 = 0
  · rw [if_pos c, if_pos c]
    simp only [xKA_o c, xKB_o c]
    exact ⟨trivial, hA, hB⟩
  · rw [if_neg c, if_neg c]
    rcases fin01 c with e | e
    · subst e
      simp only [xKA_0, xKB_0]
      obtain ⟨k1, k2⟩ := kept (sh := sh) (ln' := lnA) (bo' := boA) (pl' := plA) (sz' := szA) (ch' := chA) h hH 0
      refine ⟨trivial, k1, SR_cg hB (fun a a1 a2 => k2 a (by omega))⟩
    · subst e
      simp only [xKA_1, xKB_1]
      obtain ⟨k1, k2⟩ := kept (sh := sh) (ln' := lnB) (bo' := boB) (pl' := plB) (sz' := szB) (ch' := chB) h hH 1
      refine ⟨trivial, SR_cg hA (fun a a1 a2 => k2 a (by omega)), k1⟩
end OPC
