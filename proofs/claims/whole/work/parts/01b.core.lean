section CORE
/-- the links to private members of nest mates -/
def nwT : List (String × Nat × MethodName) := [(RX5, 11, yX2_init), (RX5, 18, yX3_init), (RX3, 9, yX2_init), (RX5, 28, yX4_init), (RX5, 35, yX1_init), (RX5, 42, yX0_init), (RX2, 40, yX5_put), (RX2, 48, yX5_at), (RX4, 69, yX5_put), (RX4, 74, yX5_at), (RX4, 83, yX5_sineOf), (RX4, 89, yX5_quotient), (RX1, 25, yX5_put), (RX2, 62, yX5_copyRow), (RX2, 66, yX5_rowDifferences)]
def NW (U : State) : Prop := ∀ (k : Nat) (q : String × Nat × MethodName), nwT[k]? = some q → va_Nw (.methodLinkNest q.1 q.2.1 q.2.2 RX5) U
theorem NW.warm {s U : State} (hW : s.WarmedH U.vm) (h : NW s) : NW U := fun k q hq => va_Nw.warmM hW (h k q hq)
theorem NW.blind {U : State} (g : JFrame) (mk : MethodId) (a : Array Value) (h : NW U) : NW (U.calling g mk a) := fun k q hq => va_Nw.same rfl rfl (h k q hq)
/-- what the tables say, for the worlds' classes, arrays of int and of boolean, and nest mates -/
def KN (D : va_G) (cI cZ : ClassId) (U : State) : Prop := va_K D vwCl [(cI, .int), (cZ, .boolean)] U ∧ NW U
theorem KN.warm {D : va_G} {cI cZ : ClassId} {s U : State} (hW : s.WarmedH U.vm) (h : KN D cI cZ s) : KN D cI cZ U := ⟨va_K.moved hW.alike h.1, h.2.warm hW⟩
theorem KN.blind {D : va_G} {cI cZ : ClassId} {U : State} (g : JFrame) (mk : MethodId) (a : Array Value) (h : KN D cI cZ U) : KN D cI cZ (U.calling g mk a) := ⟨va_K.moved (u := U) (U := U.calling g mk a) (Vm.Alike.refl U.vm) h.1, h.2.blind g mk a⟩
/-- a reader's start: a world, and the tables -/
def PR (D : va_G) (cI cZ : ClassId) (ws : va_W) (U : State) : Prop := va_P D vwCl ws U.heap ∧ KN D cI cZ U
/-- a writer's start: the addresses are apart, too -/
def PW (D : va_G) (cI cZ : ClassId) (ws : va_W) (U : State) : Prop := va_P D vwCl ws U.heap ∧ KN D cI cZ U ∧ va_D (fun _ => True) ws
theorem PR.fb {D : va_G} {cI cZ : ClassId} {ws : va_W} {As : List Value} : FrameBlind (va_Pc As (PR D cI cZ ws)) := fun a U g mk q => ⟨q.1, q.2.1, q.2.2.blind g mk a⟩
theorem PW.fb {D : va_G} {cI cZ : ClassId} {ws : va_W} {As : List Value} : FrameBlind (va_Pc As (PW D cI cZ ws)) := fun a U g mk q => ⟨q.1, q.2.1, q.2.2.1.blind g mk a, q.2.2.2⟩
theorem PR.S {D : va_G} {cI cZ : ClassId} {ws : va_W} {As : List Value} {s : State} {H : Heap} (hP : va_P D vwCl ws H) (hK : KN D cI cZ s) : PreS s H (va_Pc As (PR D cI cZ ws)) As := ⟨PR.fb, fun U hU hW => ⟨rfl, by rw [hU]; exact hP, hK.warm hW⟩⟩
theorem PW.S {D : va_G} {cI cZ : ClassId} {ws : va_W} {As : List Value} {s : State} {H : Heap} (hP : va_P D vwCl ws H) (hK : KN D cI cZ s) (hD : va_D (fun _ => True) ws) : PreS s H (va_Pc As (PW D cI cZ ws)) As := ⟨PW.fb, fun U hU hW => ⟨rfl, by rw [hU]; exact hP, hK.warm hW, hD⟩⟩
theorem PR.V {D : va_G} {cI cZ : ClassId} {wb ws : va_W} {As : List Value} {s : State} {H : Heap} {b q0 ci : Nat} {C : String} {T : u_T} {N : Nat} {fs : List Value} (hP : va_P D vwCl ws H) (hK : KN D cI cZ s) (hB : va_P D vwCl wb H) (he : wb[q0]? = some (b, .inr (ci, fs))) (hc : vwCl[ci]? = some (C, T, N)) : PreV s H C b (va_Pc (.ref b :: As) (PR D cI cZ ws)) As :=
  ⟨PR.fb, va_recv hK.1 hB hc he, fun U hU hW => ⟨rfl, by rw [hU]; exact hP, hK.warm hW⟩⟩
theorem PW.V {D : va_G} {cI cZ : ClassId} {wb ws : va_W} {As : List Value} {s : State} {H : Heap} {b q0 ci : Nat} {C : String} {T : u_T} {N : Nat} {fs : List Value} (hP : va_P D vwCl ws H) (hK : KN D cI cZ s) (hD : va_D (fun _ => True) ws) (hB : va_P D vwCl wb H) (he : wb[q0]? = some (b, .inr (ci, fs))) (hc : vwCl[ci]? = some (C, T, N)) : PreV s H C b (va_Pc (.ref b :: As) (PW D cI cZ ws)) As :=
  ⟨PW.fb, va_recv hK.1 hB hc he, fun U hU hW => ⟨rfl, by rw [hU]; exact hP, hK.warm hW, hD⟩⟩
/-- the addresses of a world -/
def ad (ws : va_W) : Nat → Prop := fun q => ∃ (k : Nat) (e : va_E), ws[k]? = some (q, e)
def nA : Nat → Prop := fun _ => False
theorem va_D.ad {A : Nat → Prop} {ws : va_W} (h : va_D A ws) : va_D (ad ws) ws := ⟨h.1, fun k q hk => ⟨k, q.2, hk⟩⟩
-- readers' ends: an answer, nothing written
def RI (r : Int32) : Array Value → State → Outcome → State → Prop := va_Qi (fun (x : Int32) (_ : Unit) => x = r) (fun _ _ => True) nA
def RJ (r : Int64) : Array Value → State → Outcome → State → Prop := va_Ql (fun (x : Int64) (_ : Unit) => x = r) (fun _ _ => True) nA
def RR (r : Nat) : Array Value → State → Outcome → State → Prop := va_Qr (fun (_ : Unit) => True) (fun _ x _ => x = r) nA
-- writers' ends
def WI {S : Type} (D : va_G) (post : Int32 → S → Prop) (w1 : S → va_W) (w0 : va_W) : Array Value → State → Outcome → State → Prop := va_Qi post (fun u t => va_P D vwCl (w1 u) t.heap) (ad w0)
def WJ {S : Type} (D : va_G) (post : Int64 → S → Prop) (w1 : S → va_W) (w0 : va_W) : Array Value → State → Outcome → State → Prop := va_Ql post (fun u t => va_P D vwCl (w1 u) t.heap) (ad w0)
def WV {S : Type} (D : va_G) (post : S → Prop) (w1 : S → va_W) (w0 : va_W) : Array Value → State → Outcome → State → Prop := va_Qv post (fun u t => va_P D vwCl (w1 u) t.heap) (ad w0)
end CORE
section PLUG
def plug : va_W → List Nat → va_W → va_W
  | ws, i :: is, x :: w => plug (ws.set i x) is w
  | ws, [], _ => ws
  | ws, _ :: _, [] => ws
theorem plug_all {G : Nat × va_E → Prop} : ∀ (is : List Nat) (w ws : va_W), is.length = w.length → (∀ (k : Nat) (q : Nat × va_E), ws[k]? = some q → k ∈ is ∨ G q) → (∀ (k : Nat) (q : Nat × va_E), w[k]? = some q → G q) → ∀ (k : Nat) (q : Nat × va_E), (plug ws is w)[k]? = some q → G q := by
  intro is
  induction is with
  | nil =>
    intro w ws _ h1 _ k q hk
    have hk : ws[k]? = some q := by cases w <;> exact hk
    rcases h1 k q hk with h | h
    · cases h
    · exact h
  | cons i is ih =>
    intro w ws hl h1 h2
    cases w with
    | nil => simp at hl
    | cons x w =>
      refine ih w (ws.set i x) (by simpa using hl) ?_ (fun k q hk => h2 (k + 1) q (by simpa using hk))
      intro k q hk
      by_cases e : i = k
      · subst e
        have hlt : i < ws.length := by
          have := (List.getElem?_eq_some_iff.mp hk).1
          simpa using this
        rw [List.getElem?_set_self hlt] at hk
        cases hk
        exact Or.inr (h2 0 x (by simp))
      · rw [List.getElem?_set_ne e] at hk
        rcases h1 k q hk with h | h
        · rcases List.mem_cons.mp h with h | h
          · exact absurd h.symm e
          · exact Or.inl h
        · exact Or.inr h
theorem plug_fst : ∀ (is : List Nat) (w ws : va_W), is.map (fun i => (ws.map Prod.fst)[i]?) = (w.map Prod.fst).map some → (plug ws is w).map Prod.fst = ws.map Prod.fst := by
  intro is
  induction is with
  | nil => intro w ws _; cases w <;> rfl
  | cons i is ih =>
    intro w ws h
    cases w with
    | nil => simp at h
    | cons x w =>
      simp only [List.map_cons, List.cons.injEq] at h
      obtain ⟨h1, h2⟩ := h
      have e : (ws.set i x).map Prod.fst = ws.map Prod.fst := by
        apply List.ext_getElem?
        intro k
        by_cases e : i = k
        · subst e
          rw [h1, List.getElem?_map]
          have hlt : i < ws.length := by
            have := (List.getElem?_eq_some_iff.mp h1).1
            simpa using this
          rw [List.getElem?_set_self hlt]; rfl
        · rw [List.getElem?_map, List.getElem?_set_ne e, List.getElem?_map]
      show (plug (ws.set i x) is w).map Prod.fst = _
      rw [ih w (ws.set i x) (by rw [e]; exact h2), e]
theorem va_D_fst {A : Nat → Prop} {ws ws' : va_W} (h : va_D A ws) (e : ws'.map Prod.fst = ws.map Prod.fst) : va_D A ws' := by
  have key : ∀ (k : Nat) (q : Nat × va_E), ws'[k]? = some q → ∃ z : Nat × va_E, ws[k]? = some z ∧ z.1 = q.1 := by
    intro k q hk
    have h1 : (ws'.map Prod.fst)[k]? = some q.1 := by rw [List.getElem?_map, hk]; rfl
    rw [e, List.getElem?_map] at h1
    cases hz : ws[k]? with
    | none => rw [hz] at h1; cases h1
    | some z => rw [hz] at h1; exact ⟨z, rfl, Option.some.inj h1⟩
  refine ⟨fun i j p q hi hj hpq => ?_, fun k q hk => ?_⟩
  · obtain ⟨z1, a1, b1⟩ := key i p hi
    obtain ⟨z2, a2, b2⟩ := key j q hj
    exact h.1 i j z1 z2 a1 a2 (by rw [b1, b2, hpq])
  · obtain ⟨z, a1, b1⟩ := key k q hk
    rw [← b1]; exact h.2 k z a1
/-- what comes back from a writer, put in its place -/
theorem va_back {A0 : Nat → Prop} {D : va_G} {ws wc w1 : va_W} {H H1 : Heap} (hP : va_P D vwCl ws H) (hD : va_D A0 ws) (isC : List Nat) (hC : isC.map (fun i => ws[i]?) = wc.map some) (ho : w1.map Prod.fst = wc.map Prod.fst)
    (hk : ∀ q : Nat, q < H.size → ¬ ad wc q → H1[q]? = H[q]?) (hP1 : va_P D vwCl w1 H1) : va_P D vwCl (plug ws isC w1) H1 ∧ va_D A0 (plug ws isC w1) := by
  have hlen : isC.length = w1.length := by
    have h1 := congrArg List.length hC
    have h2 := congrArg List.length ho
    simp at h1 h2
    omega
  refine ⟨plug_all (G := fun q => va_at D vwCl q H1) isC w1 ws hlen ?_ hP1, va_D_fst hD (plug_fst isC w1 ws ?_)⟩
  · intro k q hq
    by_cases hm : k ∈ isC
    · exact Or.inl hm
    · refine Or.inr ((hP k q hq).kept (hk q.1 (hP k q hq).lt ?_))
      rintro ⟨j, x, hj⟩
      have h1 : (isC.map (fun i => ws[i]?))[j]? = some (some (q.1, x)) := by rw [hC, List.getElem?_map, hj]; rfl
      rw [List.getElem?_map] at h1
      cases hi : isC[j]? with
      | none => rw [hi] at h1; cases h1
      | some i =>
        rw [hi] at h1
        have h2 : ws[i]? = some (q.1, x) := Option.some.inj h1
        have h3 := hD.1 i k _ _ h2 hq rfl
        exact hm (h3 ▸ List.mem_of_getElem? hi)
  · rw [ho]
    have := congrArg (List.map (Option.map Prod.fst)) hC
    simp only [List.map_map] at this ⊢
    refine Eq.trans (List.map_congr_left fun i _ => ?_) (this.trans (List.map_congr_left fun q _ => rfl))
    simp
end PLUG
section CALLS
variable {p : Program} {l : Launch} {e : Env} {R : Room} {s : State} {m : MethodId} {args : Array Value} {below : List Frame} {meth : Method} {c : Code} {H : Heap} {locs : List Loc} {cells slots : Nat} {Q : State → Prop}
variable {pc : Nat} {ls : Array Slot} {rest st0 : List Value} {a : Array Value} {A0 : Nat → Prop} {H0 : Heap} {D : va_G} {ws wc : va_W}
theorem lv_eqi {x y : Int32} (h : x = y) (k : W p l e R s m args below meth c H locs cells slots Q (F0 m pc ls (.int y :: rest))) : W p l e R s m args below meth c H locs cells slots Q (F0 m pc ls (.int x :: rest)) := by rw [h]; exact k
theorem lv_eqj {x y : Int64} (h : x = y) (k : W p l e R s m args below meth c H locs cells slots Q (F0 m pc ls (.long y :: rest))) : W p l e R s m args below meth c H locs cells slots Q (F0 m pc ls (.long x :: rest)) := by rw [h]; exact k
theorem rd_i {r : Int32} (hr : va_Run p l e R s m args below meth c H locs cells slots 0 0 (F0 m pc ls st0) rest (RI r a) nA) (hP : va_P D vwCl ws H) (hS : va_S A0 H0 H locs)
    (kk : ∀ (H1 : Heap) (locs1 : List Loc), va_P D vwCl ws H1 → va_S A0 H0 H1 locs1 → W p l e R s m args below meth c H1 locs1 cells slots Q (F0 m (pc + 3) ls (.int r :: rest))) : W p l e R s m args below meth c H locs cells slots Q (F0 m pc ls st0) := by
  refine va_calli hr hS (fun _ _ h => h.elim) (fun _ h => h.elim) (fun r' u t H1 locs1 ht hvm hw hB hz hk hS => ?_)
  cases hw
  exact kk H1 locs1 (hP.kept fun k q hq => hk q.1 (hP k q hq).lt (fun h => h)) hS
theorem rd_l {r : Int64} (hr : va_Run p l e R s m args below meth c H locs cells slots 0 0 (F0 m pc ls st0) rest (RJ r a) nA) (hP : va_P D vwCl ws H) (hS : va_S A0 H0 H locs)
    (kk : ∀ (H1 : Heap) (locs1 : List Loc), va_P D vwCl ws H1 → va_S A0 H0 H1 locs1 → W p l e R s m args below meth c H1 locs1 cells slots Q (F0 m (pc + 3) ls (.long r :: rest))) : W p l e R s m args below meth c H locs cells slots Q (F0 m pc ls st0) := by
  refine va_calll hr hS (fun _ _ h => h.elim) (fun _ h => h.elim) (fun r' u t H1 locs1 ht hvm hw hB hz hk hS => ?_)
  cases hw
  exact kk H1 locs1 (hP.kept fun k q hq => hk q.1 (hP k q hq).lt (fun h => h)) hS
theorem rd_r {r : Nat} (hr : va_Run p l e R s m args below meth c H locs cells slots 0 0 (F0 m pc ls st0) rest (RR r a) nA) (hP : va_P D vwCl ws H) (hS : va_S A0 H0 H locs)
    (kk : ∀ (H1 : Heap) (locs1 : List Loc), va_P D vwCl ws H1 → va_S A0 H0 H1 locs1 → W p l e R s m args below meth c H1 locs1 cells slots Q (F0 m (pc + 3) ls (.ref r :: rest))) : W p l e R s m args below meth c H locs cells slots Q (F0 m pc ls st0) := by
  refine va_callr hr hS (fun _ _ h => h.elim) (fun _ h => h.elim) (fun u ra t H1 locs1 ht hvm hw hB hz hk hS => ?_)
  cases hB
  exact kk H1 locs1 (hP.kept fun k q hq => hk q.1 (hP k q hq).lt (fun h => h)) hS
theorem ad_in {A0 : Nat → Prop} {ws wc : va_W} (hD : va_D A0 ws) (isC : List Nat) (hC : isC.map (fun i => ws[i]?) = wc.map some) : ∀ q, ad wc q → A0 q := by
  rintro q ⟨j, x, hj⟩
  have h1 : (isC.map (fun i => ws[i]?))[j]? = some (some (q, x)) := by rw [hC, List.getElem?_map, hj]; rfl
  rw [List.getElem?_map] at h1
  cases hi : isC[j]? with
  | none => rw [hi] at h1; cases h1
  | some i => rw [hi] at h1; exact hD.2 i (q, x) (Option.some.inj h1)
theorem wr_i {S : Type} {post : Int32 → S → Prop} {w1 : S → va_W} (hr : va_Run p l e R s m args below meth c H locs cells slots 0 0 (F0 m pc ls st0) rest (WI D post w1 wc a) (ad wc)) (hP : va_P D vwCl ws H) (hD : va_D A0 ws) (hS : va_S A0 H0 H locs) (isC : List Nat) (hC : isC.map (fun i => ws[i]?) = wc.map some) (ho : ∀ u, (w1 u).map Prod.fst = wc.map Prod.fst)
    (kk : ∀ (r : Int32) (u : S) (H1 : Heap) (locs1 : List Loc), post r u → va_P D vwCl (plug ws isC (w1 u)) H1 → va_D A0 (plug ws isC (w1 u)) → va_S A0 H0 H1 locs1 → W p l e R s m args below meth c H1 locs1 cells slots Q (F0 m (pc + 3) ls (.int r :: rest))) : W p l e R s m args below meth c H locs cells slots Q (F0 m pc ls st0) := by
  refine va_calli hr hS (fun q _ h => ad_in hD isC hC q h) (ad_in hD isC hC) (fun r u t H1 locs1 ht hvm hw hB hz hk hS => ?_)
  rw [ht] at hB
  obtain ⟨h1, h2⟩ := va_back hP hD isC hC (ho u) hk hB
  exact kk r u H1 locs1 hw h1 h2 hS
theorem wr_l {S : Type} {post : Int64 → S → Prop} {w1 : S → va_W} (hr : va_Run p l e R s m args below meth c H locs cells slots 0 0 (F0 m pc ls st0) rest (WJ D post w1 wc a) (ad wc)) (hP : va_P D vwCl ws H) (hD : va_D A0 ws) (hS : va_S A0 H0 H locs) (isC : List Nat) (hC : isC.map (fun i => ws[i]?) = wc.map some) (ho : ∀ u, (w1 u).map Prod.fst = wc.map Prod.fst)
    (kk : ∀ (r : Int64) (u : S) (H1 : Heap) (locs1 : List Loc), post r u → va_P D vwCl (plug ws isC (w1 u)) H1 → va_D A0 (plug ws isC (w1 u)) → va_S A0 H0 H1 locs1 → W p l e R s m args below meth c H1 locs1 cells slots Q (F0 m (pc + 3) ls (.long r :: rest))) : W p l e R s m args below meth c H locs cells slots Q (F0 m pc ls st0) := by
  refine va_calll hr hS (fun q _ h => ad_in hD isC hC q h) (ad_in hD isC hC) (fun r u t H1 locs1 ht hvm hw hB hz hk hS => ?_)
  rw [ht] at hB
  obtain ⟨h1, h2⟩ := va_back hP hD isC hC (ho u) hk hB
  exact kk r u H1 locs1 hw h1 h2 hS
theorem wr_v {S : Type} {post : S → Prop} {w1 : S → va_W} (hr : va_Run p l e R s m args below meth c H locs cells slots 0 0 (F0 m pc ls st0) rest (WV D post w1 wc a) (ad wc)) (hP : va_P D vwCl ws H) (hD : va_D A0 ws) (hS : va_S A0 H0 H locs) (isC : List Nat) (hC : isC.map (fun i => ws[i]?) = wc.map some) (ho : ∀ u, (w1 u).map Prod.fst = wc.map Prod.fst)
    (kk : ∀ (u : S) (H1 : Heap) (locs1 : List Loc), post u → va_P D vwCl (plug ws isC (w1 u)) H1 → va_D A0 (plug ws isC (w1 u)) → va_S A0 H0 H1 locs1 → W p l e R s m args below meth c H1 locs1 cells slots Q (F0 m (pc + 3) ls rest)) : W p l e R s m args below meth c H locs cells slots Q (F0 m pc ls st0) := by
  refine va_callv hr hS (fun q _ h => ad_in hD isC hC q h) (ad_in hD isC hC) (fun u t H1 locs1 ht hvm hw hB hz hk hS => ?_)
  rw [ht] at hB
  obtain ⟨h1, h2⟩ := va_back hP hD isC hC (ho u) hk hB
  exact kk u H1 locs1 hw h1 h2 hS
end CALLS
