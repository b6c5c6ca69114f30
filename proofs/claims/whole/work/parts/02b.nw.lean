section NWL
variable {s : State}
theorem nwL0 (hN : NW s) : va_Nw (.methodLinkNest RX5 11 yX2_init RX5) s := hN 0 (RX5, 11, yX2_init) rfl
theorem nwL1 (hN : NW s) : va_Nw (.methodLinkNest RX5 18 yX3_init RX5) s := hN 1 (RX5, 18, yX3_init) rfl
theorem nwL2 (hN : NW s) : va_Nw (.methodLinkNest RX3 9 yX2_init RX5) s := hN 2 (RX3, 9, yX2_init) rfl
theorem nwL3 (hN : NW s) : va_Nw (.methodLinkNest RX5 28 yX4_init RX5) s := hN 3 (RX5, 28, yX4_init) rfl
theorem nwL4 (hN : NW s) : va_Nw (.methodLinkNest RX5 35 yX1_init RX5) s := hN 4 (RX5, 35, yX1_init) rfl
theorem nwL5 (hN : NW s) : va_Nw (.methodLinkNest RX5 42 yX0_init RX5) s := hN 5 (RX5, 42, yX0_init) rfl
theorem nwL6 (hN : NW s) : va_Nw (.methodLinkNest RX2 40 yX5_put RX5) s := hN 6 (RX2, 40, yX5_put) rfl
theorem nwL7 (hN : NW s) : va_Nw (.methodLinkNest RX2 48 yX5_at RX5) s := hN 7 (RX2, 48, yX5_at) rfl
theorem nwL8 (hN : NW s) : va_Nw (.methodLinkNest RX4 69 yX5_put RX5) s := hN 8 (RX4, 69, yX5_put) rfl
theorem nwL9 (hN : NW s) : va_Nw (.methodLinkNest RX4 74 yX5_at RX5) s := hN 9 (RX4, 74, yX5_at) rfl
theorem nwL10 (hN : NW s) : va_Nw (.methodLinkNest RX4 83 yX5_sineOf RX5) s := hN 10 (RX4, 83, yX5_sineOf) rfl
theorem nwL11 (hN : NW s) : va_Nw (.methodLinkNest RX4 89 yX5_quotient RX5) s := hN 11 (RX4, 89, yX5_quotient) rfl
theorem nwL12 (hN : NW s) : va_Nw (.methodLinkNest RX1 25 yX5_put RX5) s := hN 12 (RX1, 25, yX5_put) rfl
theorem nwL13 (hN : NW s) : va_Nw (.methodLinkNest RX2 62 yX5_copyRow RX5) s := hN 13 (RX2, 62, yX5_copyRow) rfl
theorem nwL14 (hN : NW s) : va_Nw (.methodLinkNest RX2 66 yX5_rowDifferences RX5) s := hN 14 (RX2, 66, yX5_rowDifferences) rfl
end NWL
section WR0
variable {p : Program} {l : Launch} {e : Env} {R : Room} {s : State} {m : MethodId} {args : Array Value} {below : List Frame} {meth : Method} {c : Code} {H : Heap} {locs : List Loc} {cells slots : Nat} {Q : State → Prop}
variable {pc : Nat} {ls : Array Slot} {rest st0 : List Value} {a : Array Value} {A0 : Nat → Prop} {H0 : Heap} {D : va_G} {ws : va_W}
theorem ad_all {A0 : Nat → Prop} {ws : va_W} (hD : va_D A0 ws) : ∀ q, ad ws q → A0 q := by
  rintro q ⟨j, x, hj⟩
  exact hD.2 j (q, x) hj
theorem wr_i0 {S : Type} {post : Int32 → S → Prop} {w1 : S → va_W} (hr : va_Run p l e R s m args below meth c H locs cells slots 0 0 (F0 m pc ls st0) rest (WI D post w1 ws a) (ad ws)) (hD : va_D A0 ws) (hS : va_S A0 H0 H locs) (ho : ∀ u, (w1 u).map Prod.fst = ws.map Prod.fst)
    (kk : ∀ (r : Int32) (u : S) (H1 : Heap) (locs1 : List Loc), post r u → va_P D vwCl (w1 u) H1 → va_D A0 (w1 u) → va_S A0 H0 H1 locs1 → W p l e R s m args below meth c H1 locs1 cells slots Q (F0 m (pc + 3) ls (.int r :: rest))) : W p l e R s m args below meth c H locs cells slots Q (F0 m pc ls st0) := by
  refine va_calli hr hS (fun q _ h => ad_all hD q h) (ad_all hD) (fun r u t H1 locs1 ht hvm hw hB hz hk hS => ?_)
  rw [ht] at hB
  exact kk r u H1 locs1 hw hB (va_D_fst hD (ho u)) hS
theorem wr_l0 {S : Type} {post : Int64 → S → Prop} {w1 : S → va_W} (hr : va_Run p l e R s m args below meth c H locs cells slots 0 0 (F0 m pc ls st0) rest (WJ D post w1 ws a) (ad ws)) (hD : va_D A0 ws) (hS : va_S A0 H0 H locs) (ho : ∀ u, (w1 u).map Prod.fst = ws.map Prod.fst)
    (kk : ∀ (r : Int64) (u : S) (H1 : Heap) (locs1 : List Loc), post r u → va_P D vwCl (w1 u) H1 → va_D A0 (w1 u) → va_S A0 H0 H1 locs1 → W p l e R s m args below meth c H1 locs1 cells slots Q (F0 m (pc + 3) ls (.long r :: rest))) : W p l e R s m args below meth c H locs cells slots Q (F0 m pc ls st0) := by
  refine va_calll hr hS (fun q _ h => ad_all hD q h) (ad_all hD) (fun r u t H1 locs1 ht hvm hw hB hz hk hS => ?_)
  rw [ht] at hB
  exact kk r u H1 locs1 hw hB (va_D_fst hD (ho u)) hS
theorem wr_v0 {S : Type} {post : S → Prop} {w1 : S → va_W} (hr : va_Run p l e R s m args below meth c H locs cells slots 0 0 (F0 m pc ls st0) rest (WV D post w1 ws a) (ad ws)) (hD : va_D A0 ws) (hS : va_S A0 H0 H locs) (ho : ∀ u, (w1 u).map Prod.fst = ws.map Prod.fst)
    (kk : ∀ (u : S) (H1 : Heap) (locs1 : List Loc), post u → va_P D vwCl (w1 u) H1 → va_D A0 (w1 u) → va_S A0 H0 H1 locs1 → W p l e R s m args below meth c H1 locs1 cells slots Q (F0 m (pc + 3) ls rest)) : W p l e R s m args below meth c H locs cells slots Q (F0 m pc ls st0) := by
  refine va_callv hr hS (fun q _ h => ad_all hD q h) (ad_all hD) (fun u t H1 locs1 ht hvm hw hB hz hk hS => ?_)
  rw [ht] at hB
  exact kk u H1 locs1 hw hB (va_D_fst hD (ho u)) hS
end WR0
