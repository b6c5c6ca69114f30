set_option maxHeartbeats 40000000 in
set_option maxRecDepth 100000 in
theorem law_NW {s : State} {a : Array Value} (hts : ∀ w ∈ lw_tbl, w.before a s = true) : NW s := by
  intro k q hq
  match k, hq with
  | 0, hq => cases hq; exact va_Nw.of rfl (hts (.methodLinkNest RX5 11 yX2_init RX5) (List.mem_of_getElem? (i := 45) (by decide +kernel)))
  | 1, hq => cases hq; exact va_Nw.of rfl (hts (.methodLinkNest RX5 18 yX3_init RX5) (List.mem_of_getElem? (i := 93) (by decide +kernel)))
  | 2, hq => cases hq; exact va_Nw.of rfl (hts (.methodLinkNest RX3 9 yX2_init RX5) (List.mem_of_getElem? (i := 98) (by decide +kernel)))
  | 3, hq => cases hq; exact va_Nw.of rfl (hts (.methodLinkNest RX5 28 yX4_init RX5) (List.mem_of_getElem? (i := 110) (by decide +kernel)))
  | 4, hq => cases hq; exact va_Nw.of rfl (hts (.methodLinkNest RX5 35 yX1_init RX5) (List.mem_of_getElem? (i := 141) (by decide +kernel)))
  | 5, hq => cases hq; exact va_Nw.of rfl (hts (.methodLinkNest RX5 42 yX0_init RX5) (List.mem_of_getElem? (i := 164) (by decide +kernel)))
  | 6, hq => cases hq; exact va_Nw.of rfl (hts (.methodLinkNest RX2 40 yX5_put RX5) (List.mem_of_getElem? (i := 228) (by decide +kernel)))
  | 7, hq => cases hq; exact va_Nw.of rfl (hts (.methodLinkNest RX2 48 yX5_at RX5) (List.mem_of_getElem? (i := 239) (by decide +kernel)))
  | 8, hq => cases hq; exact va_Nw.of rfl (hts (.methodLinkNest RX4 69 yX5_put RX5) (List.mem_of_getElem? (i := 341) (by decide +kernel)))
  | 9, hq => cases hq; exact va_Nw.of rfl (hts (.methodLinkNest RX4 74 yX5_at RX5) (List.mem_of_getElem? (i := 342) (by decide +kernel)))
  | 10, hq => cases hq; exact va_Nw.of rfl (hts (.methodLinkNest RX4 83 yX5_sineOf RX5) (List.mem_of_getElem? (i := 353) (by decide +kernel)))
  | 11, hq => cases hq; exact va_Nw.of rfl (hts (.methodLinkNest RX4 89 yX5_quotient RX5) (List.mem_of_getElem? (i := 361) (by decide +kernel)))
  | 12, hq => cases hq; exact va_Nw.of rfl (hts (.methodLinkNest RX1 25 yX5_put RX5) (List.mem_of_getElem? (i := 411) (by decide +kernel)))
  | 13, hq => cases hq; exact va_Nw.of rfl (hts (.methodLinkNest RX2 62 yX5_copyRow RX5) (List.mem_of_getElem? (i := 469) (by decide +kernel)))
  | 14, hq => cases hq; exact va_Nw.of rfl (hts (.methodLinkNest RX2 66 yX5_rowDifferences RX5) (List.mem_of_getElem? (i := 485) (by decide +kernel)))
  | k + 15, hq => simp [nwT] at hq
theorem law_arr {s : State} {a : Array Value} {ty : FieldType} (h : (Cond.arrayClass ty).before a s = true) (ht : ∀ C, ty ≠ .object C) : ∃ cA, ArrOfT s cA ty ∧ va_RA s cA ty := by
  obtain ⟨cA, kA, comp, hfind, hk, hkind⟩ := Cond.arrayClass_spec h
  refine ⟨cA, fun n z => ⟨fun k h => (by cases h), kA, hk, comp, hkind⟩, ?_⟩
  cases ty <;> first | exact absurd rfl (ht _) | exact hfind
