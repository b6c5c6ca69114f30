section OPA
theorem sN_cg {f g : Nat → Int32} : ∀ n, (∀ j, j < n → f j = g j) → sN f n = sN g n := by
  intro n
  induction n with
  | zero => intro _; rfl
  | succ n ih =>
    intro h
    rw [sN_s, sN_s, ih (fun j q => h j (by omega)), h n (by omega)]
theorem PI_np {ln bo pl sz ch ln' bo' : Nat → Int32} {np nh np' : Nat} {mo fa : Int32} (h : PI ln bo pl sz ch np nh mo fa) (hl : LnOK ln' np') (hb : ∀ j, j < np' → ∃ k, 1 ≤ k ∧ k ≤ 100 ∧ bo' j = nI k) (hnp : np ≤ np') (hc : ∀ j, j < np → ln' j = ln j) : PI ln' bo' pl sz ch np' nh mo fa := by
  obtain ⟨a1, a2, a3, a4, a5, a6, a7, a8, a9, a10⟩ := id h
  refine ⟨hl.1, a2, hl.2, hb, ?_, a6, a7, a8, a9, a10⟩
  intro j hj
  obtain ⟨e, b1, b2, b3⟩ := h.ho.at hj
  have e2 : sN ln' np = sN ln np := sN_cg np hc
  have e3 := sN_mle hl hnp (Nat.le_refl _)
  exact ⟨cN pl j, sN ln' np', b1, by omega, sN_b hl (Nat.le_refl _), e, fSum_e hl np' (Nat.le_refl _)⟩
theorem PI_nh {ln bo pl sz ch : Nat → Int32} {np nh : Nat} {mo fa x y z : Int32} (h : PI ln bo pl sz ch np nh mo fa) (h6 : nh < 6) (hx : ∃ n, 1 ≤ n ∧ n < sN ln np ∧ n ≤ 4800 ∧ x = nI n) (hd : ∀ j, j < nh → pl j ≠ x) (hy : ∃ n, 1 ≤ n ∧ n ≤ 60 ∧ y = nI n) (hz : ∃ n, n ≤ 60 ∧ z = nI n) :
    PI ln bo (upd pl nh x) (upd sz nh y) (upd ch nh z) np (nh + 1) mo fa := by
  obtain ⟨a1, a2, a3, a4, a5, a6, a7, a8, a9, a10⟩ := id h
  obtain ⟨n, n1, n2, n3, e⟩ := hx
  refine ⟨a1, h6, a3, a4, ?_, ?_, ?_, ?_, a9, a10⟩
  · intro j hj
    by_cases c : j = nh
    · subst c; rw [pk_us]; exact ⟨n, sN ln np, n1, n2, sN_b h.ln (Nat.le_refl _), e, fSum_e h.ln np (Nat.le_refl _)⟩
    · rw [pk_un c]; exact a5 j (by omega)
  · intro j hj
    by_cases c : j = nh
    · subst c; rw [pk_us]; exact hy
    · rw [pk_un c]; exact a6 j (by omega)
  · intro j hj
    by_cases c : j = nh
    · subst c; rw [pk_us]; exact hz
    · rw [pk_un c]; exact a7 j (by omega)
  · intro i j hi hj q
    by_cases c : i = nh
    · by_cases c2 : j = nh
      · rw [c, c2]
      · rw [c, pk_us, pk_un c2] at q
        exact absurd q.symm (hd j (by omega))
    · by_cases c2 : j = nh
      · rw [c2, pk_us, pk_un c] at q
        exact absurd q (hd i (by omega))
      · rw [pk_un c, pk_un c2] at q
        exact a8 i j (by omega) (by omega) q
theorem r400 (x : Int32) : fInL x.toInt64 1 400 = fIn x 1 400 := fInL_in (by decide) (by decide)
theorem r100 (x : Int32) : fInL x.toInt64 1 100 = fIn x 1 100 := fInL_in (by decide) (by decide)
theorem r300 (x : Int32) : fInL x.toInt64 1 300 = fIn x 1 300 := fInL_in (by decide) (by decide)
theorem r12 (x : Int32) : fInL x.toInt64 2 12 = fIn x 2 12 := fInL_in (by decide) (by decide)
theorem r01 (x : Int32) : fInL x.toInt64 0 1 = fIn x 0 1 := fInL_in (by decide) (by decide)
theorem r02 (x : Int32) : fInL x.toInt64 0 2 = fIn x 0 2 := fInL_in (by decide) (by decide)
theorem r04 (x : Int32) : fInL x.toInt64 0 4 = fIn x 0 4 := fInL_in (by decide) (by decide)
theorem r05 (x : Int32) : fInL x.toInt64 0 5 = fIn x 0 5 := fInL_in (by decide) (by decide)
theorem r63 (x : Int32) : fInL x.toInt64 0 63 = fIn x 0 63 := fInL_in (by decide) (by decide)
theorem r65 (x : Int32) : fInL x.toInt64 0 65535 = fIn x 0 65535 := fInL_in (by decide) (by decide)
theorem rW (x W : Int32) : fInL x.toInt64 0 (W - 1).toInt64 = fIn x 0 (W - 1) := fInL_in (by decide) (Int32.toInt_toInt64 _)
theorem piece_p {ln bo pl sz ch : Nat → Int32} {np nh : Nat} {mo fa : Int32} (h : PI ln bo pl sz ch np nh mo fa) (x y : Int32) : mPiece x y np ln bo = xPiece x y np ln bo ∧ PI ((xPiece x y np ln bo).2.2.1) ((xPiece x y np ln bo).2.2.2) pl sz ch ((xPiece x y np ln bo).2.1) nh mo fa := by
  have h12 := h.1
  unfold mPiece xPiece fIsPiece
  rw [r400, r100]
  by_cases c1 : fIn x 1 400 = 0
  · rw [if_pos c1, if_pos c1, if_pos rfl]; exact ⟨rfl, h⟩
  · rw [if_neg c1, if_neg c1]
    by_cases c2 : fIn y 1 100 = 0
    · rw [if_pos c2, if_pos c2, if_pos rfl]; exact ⟨rfl, h⟩
    · rw [if_neg c2, if_neg c2, if_neg (by decide : ¬ (1 : Int32) = 0)]
      by_cases c3 : np = 12
      · subst c3
        rw [if_pos (show nI 12 = 12 from rfl), if_neg (show ¬ nI 12 < 12 by decide)]; exact ⟨rfl, h⟩
      · rw [if_neg (show ¬ nI np = 12 from fun q => c3 ((nI_eq (b := 12) (by omega) (by omega)).mp q)), if_pos (show nI np < 12 from nI_lt (b := 12) (by omega) (by omega))]
        refine ⟨rfl, PI_np h ⟨by show np + 1 ≤ 12; omega, ?_⟩ ?_ (Nat.le_succ _) ?_⟩
        · intro j hj
          by_cases c : j = np
          · subst c; show ∃ k, 1 ≤ k ∧ k ≤ 400 ∧ upd ln j x j = nI k; rw [pk_us]; exact rng c1 (by decide) (by decide)
          · show ∃ k, 1 ≤ k ∧ k ≤ 400 ∧ upd ln np x j = nI k; rw [pk_un c]; exact h.2.2.1 j (by have : j < np + 1 := hj; omega)
        · intro j hj
          by_cases c : j = np
          · subst c; show ∃ k, 1 ≤ k ∧ k ≤ 100 ∧ upd bo j y j = nI k; rw [pk_us]; exact rng c2 (by decide) (by decide)
          · show ∃ k, 1 ≤ k ∧ k ≤ 100 ∧ upd bo np y j = nI k; rw [pk_un c]; exact h.2.2.2.1 j (by have : j < np + 1 := hj; omega)
        · intro j hj
          exact pk_un (by omega)
theorem div64 {X Y : Int32} (h : 0 < Y.toInt) : (X.toInt64 / Y.toInt64).toInt32 = X / Y := by
  have e1 : (X / Y).toInt = X.toInt.tdiv Y.toInt := Jvm.Kit.i32_div (by omega)
  have e2 : (X.toInt64 / Y.toInt64).toInt = X.toInt.tdiv Y.toInt := by
    rw [Jvm.Kit.i64_div (by rw [Jvm.Kit.i64_of_i32, Jvm.Kit.i64_of_i32]; omega), Jvm.Kit.i64_of_i32, Jvm.Kit.i64_of_i32]
  apply Int32.toInt_inj.mp
  have h1 := Int32.toInt_lt (X / Y)
  have h2 := Int32.le_toInt (X / Y)
  rw [e1] at h1 h2
  rw [Jvm.Kit.i32_of_i64 (by rw [e2]; omega) (by rw [e2]; omega), e2, e1]
theorem tdiv_b {D M i : Int} (hM : 0 < M) (h0 : 0 ≤ i) (hi : i ≤ M) : (0 ≤ D → 0 ≤ (D * i).tdiv M ∧ (D * i).tdiv M ≤ D) ∧ (D ≤ 0 → D ≤ (D * i).tdiv M ∧ (D * i).tdiv M ≤ 0) := by
  have pos : ∀ E : Int, 0 ≤ E → 0 ≤ (E * i).tdiv M ∧ (E * i).tdiv M ≤ E := by
    intro E hE
    have h1 : 0 ≤ E * i := Int.mul_nonneg hE h0
    rw [Int.tdiv_eq_ediv_of_nonneg h1]
    refine ⟨Int.ediv_nonneg h1 (by omega), ?_⟩
    exact Int.ediv_le_of_le_mul hM (Int.mul_le_mul_of_nonneg_left hi hE)
  refine ⟨pos D, fun hD => ?_⟩
  obtain ⟨a, b⟩ := pos (-D) (by omega)
  rw [Int.neg_mul, Int.neg_tdiv] at a b
  omega
theorem cone_v {a b N i : Nat} (a1 : 1 ≤ a) (a2 : a ≤ 100) (b1 : 1 ≤ b) (b2 : b ≤ 100) (n1 : 2 ≤ N) (n2 : N ≤ 12) (hi : i < N) : xConeV (nI a) (nI b) N i = coneV (nI a) (nI b) N i ∧ ∃ k, 1 ≤ k ∧ k ≤ 100 ∧ coneV (nI a) (nI b) N i = nI k := by
  have eN : nI N - 1 = nI (N - 1) := by
    have := nI_pred (N - 1)
    rwa [show N - 1 + 1 = N from by omega] at this
  have tN : (nI (N - 1)).toInt = ((N - 1 : Nat) : Int) := nI_toInt (by omega)
  have tM : 0 < (nI (N - 1)).toInt := by rw [tN]; omega
  constructor
  · unfold xConeV coneV fQuo
    rw [eN]
    have hz : ¬ (nI (N - 1)).toInt64 = 0 := by
      intro q
      have : (nI (N - 1)).toInt64.toInt = 0 := by rw [q]; decide
      rw [Jvm.Kit.i64_of_i32] at this
      omega
    rw [if_neg hz, div64 tM]
  · unfold coneV
    rw [eN]
    have s1 : (nI b - nI a).toInt = (b : Int) - a := pk_sub_toInt (by omega) (by omega)
    have ti : (nI i).toInt = (i : Int) := nI_toInt (by omega)
    have hm : ((b : Int) - a) * i ≤ 99 * 12 ∧ -(99 * 12) ≤ ((b : Int) - a) * i := by
      have p1 : 0 ≤ (99 - ((b : Int) - a)) * i := Int.mul_nonneg (by omega) (by omega)
      have p2 : 0 ≤ (99 + ((b : Int) - a)) * i := Int.mul_nonneg (by omega) (by omega)
      rw [Int.sub_mul] at p1
      rw [Int.add_mul] at p2
      omega
    have s2 : ((nI b - nI a) * nI i).toInt = ((b : Int) - a) * i := by
      rw [Jvm.Kit.i32_mul (by rw [s1, ti]; omega) (by rw [s1, ti]; omega), s1, ti]
    have s3 : ((nI b - nI a) * nI i / nI (N - 1)).toInt = (((b : Int) - a) * i).tdiv ((N - 1 : Nat) : Int) := by
      rw [Jvm.Kit.i32_div (by omega), s2, tN]
    obtain ⟨q1, q2⟩ := tdiv_b (D := (b : Int) - a) (M := ((N - 1 : Nat) : Int)) (i := i) (by omega) (by omega) (by omega)
    have ta : (nI a).toInt = (a : Int) := nI_toInt (by omega)
    generalize (((b : Int) - a) * i).tdiv ((N - 1 : Nat) : Int) = q at s3 q1 q2
    have s4 : (nI a + (nI b - nI a) * nI i / nI (N - 1)).toInt = (a : Int) + q := by
      rw [Jvm.Kit.i32_add (by rw [ta, s3]; omega) (by rw [ta, s3]; omega), ta, s3]
    have b3 : 1 ≤ (a : Int) + q ∧ (a : Int) + q ≤ 100 := by
      rcases Int.le_total 0 ((b : Int) - a) with w | w
      · have := q1 w; omega
      · have := q2 w; omega
    obtain ⟨e, -⟩ := nI_toI (x := nI a + (nI b - nI a) * nI i / nI (N - 1)) (by rw [s4]; omega)
    exact ⟨_, by rw [s4]; omega, by rw [s4]; omega, e⟩
theorem coneB_e {bo : Nat → Int32} {np N : Nat} {y z : Int32} (h : ∀ i, i < N → xConeV y z N i = coneV y z N i) : ∀ i, i ≤ N → xConeB bo np y z N i = coneB bo np y z N i := by
  intro i
  induction i with
  | zero => intro _; rfl
  | succ i ih =>
    intro hi
    rw [xConeB, coneB, ih (by omega), h i (by omega)]
theorem coneL_at {ln : Nat → Int32} {np : Nat} {x : Int32} : ∀ i, (∀ j, j < np → coneL ln np x i j = ln j) ∧ ∀ j, np ≤ j → j < np + i → coneL ln np x i j = x := by
  intro i
  induction i with
  | zero => exact ⟨fun j _ => rfl, fun j a b => by omega⟩
  | succ i ih =>
    refine ⟨fun j hj => ?_, fun j a b => ?_⟩
    · rw [coneL, pk_un (by omega)]; exact ih.1 j hj
    · rw [coneL]
      by_cases c : j = np + i
      · subst c; exact pk_us
      · rw [pk_un c]; exact ih.2 j a (by omega)
theorem coneB_at {bo : Nat → Int32} {np N : Nat} {y z : Int32} : ∀ i, (∀ j, j < np → coneB bo np y z N i j = bo j) ∧ ∀ j, j < i → coneB bo np y z N i (np + j) = coneV y z N j := by
  intro i
  induction i with
  | zero => exact ⟨fun j _ => rfl, fun j a => by omega⟩
  | succ i ih =>
    refine ⟨fun j hj => ?_, fun j a => ?_⟩
    · rw [coneB, pk_un (by omega)]; exact ih.1 j hj
    · rw [coneB]
      by_cases c : j = i
      · subst c; exact pk_us
      · rw [pk_un (by omega)]; exact ih.2 j (by omega)
theorem cone_p {ln bo pl sz ch : Nat → Int32} {np nh : Nat} {mo fa : Int32} (h : PI ln bo pl sz ch np nh mo fa) (x y z w : Int32) : mCone x y z w np ln bo = xCone x y z w np ln bo ∧ PI ((xCone x y z w np ln bo).2.2.1) ((xCone x y z w np ln bo).2.2.2) pl sz ch ((xCone x y z w np ln bo).2.1) nh mo fa := by
  have h12 := h.1
  have n10 : ¬ (1 : Int32) = 0 := by decide
  unfold mCone xCone fIsPiece
  rw [r400, r100, r100, r12]
  by_cases c1 : fIn x 1 400 = 0
  · rw [if_pos c1, if_pos c1, if_pos rfl]; exact ⟨rfl, h⟩
  · rw [if_neg c1, if_neg c1, if_neg c1]
    by_cases c2 : fIn y 1 100 = 0
    · rw [if_pos c2, if_pos c2, if_pos rfl]; exact ⟨rfl, h⟩
    · rw [if_neg c2, if_neg c2, if_neg n10]
      by_cases c3 : fIn z 1 100 = 0
      · rw [if_pos c3, if_pos c3, if_pos rfl]; exact ⟨rfl, h⟩
      · rw [if_neg c3, if_neg c3, if_neg n10]
        by_cases c4 : fIn w 2 12 = 0
        · rw [if_pos c4, if_pos c4]; exact ⟨rfl, h⟩
        · rw [if_neg c4, if_neg c4]
          obtain ⟨N, n1, n2, e⟩ := rng (a := 2) (b := 12) c4 (by decide) (by decide)
          obtain ⟨a, a1, a2, ea⟩ := rng (a := 1) (b := 100) c2 (by decide) (by decide)
          obtain ⟨b, b1, b2, eb⟩ := rng (a := 1) (b := 100) c3 (by decide) (by decide)
          obtain ⟨k, k1, k2, ek⟩ := rng (a := 1) (b := 400) c1 (by decide) (by decide)
          rw [e, nI_clamp (by omega), ea, eb, coneB_e (fun i hi => (cone_v a1 a2 b1 b2 n1 n2 hi).1) N (Nat.le_refl _)]
          by_cases c5 : np + N ≤ 12
          · rw [if_pos (show nI (np + N) ≤ 12 from nI_le (b := 12) c5 (by omega))]
            refine ⟨rfl, PI_np h ⟨c5, ?_⟩ ?_ (Nat.le_add_right _ _) (coneL_at N).1⟩
            · intro j hj
              show ∃ q, 1 ≤ q ∧ q ≤ 400 ∧ coneL ln np x N j = nI q
              rcases Nat.lt_or_ge j np with c | c
              · rw [(coneL_at N).1 j c]; exact h.2.2.1 j c
              · rw [(coneL_at N).2 j c hj, ek]; exact ⟨k, k1, k2, rfl⟩
            · intro j hj
              show ∃ q, 1 ≤ q ∧ q ≤ 100 ∧ coneB bo np (nI a) (nI b) N N j = nI q
              rcases Nat.lt_or_ge j np with c | c
              · rw [(coneB_at N).1 j c]; exact h.2.2.2.1 j c
              · have hj2 : j < np + N := hj
                have := (coneB_at (bo := bo) (np := np) (y := nI a) (z := nI b) (N := N) N).2 (j - np) (by omega)
                rw [show np + (j - np) = j from by omega] at this
                rw [this]
                exact (cone_v a1 a2 b1 b2 n1 n2 (by omega)).2
          · rw [if_neg (show ¬ nI (np + N) ≤ 12 from nI_ge (a := 12) (by omega) (by omega))]
            exact ⟨rfl, h⟩
end OPA
