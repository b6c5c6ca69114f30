section NWL
variable {s : State}
theorem nwL0 (hN : NW s) : va_Nw (.methodLinkNest RX5 11 yX2_init RX5) s := hN 0 (RX5, 11, yX2_init) rfl
theorem nwL1 (hN : NW s) : va_Nw (.methodLinkNest RX5 18 yX3_init RX5) s := hN 1 (RX5, 18, yX3_init) rfl
theorem nwL2 (hN : NW s) : va_Nw (.methodLinkNest RX3 9 yX2_init RX5) s := hN 2 (RX3, 9, yX2_init) rfl
theorem nwL3 (hN : NW s) : va_Nw (.methodLinkNest RX5 28 yX4_init RX5) s := hN 3 (RX5, 28, yX4_init) rfl
theorem nwL4 (hN : NW s) : va_Nw (.methodLinkNest RX5 35 yX1_init RX5) s := hN 4 (RX5, 35, yX1_init) rfl
theorem nwL5 (hN : NW s) : va_Nw (.methodLinkNest RX5 42 yX0_init RX5) s := hN 5 (RX5, 42, yX0_init) rfl
theorem nwL6 (hN : NW s) : va_Nw (.methodLinkNest RX2 40 yX5_put RX5) s := hN 6 (RX2, 40, yX5_put) rfl
theorem nwL7 (hN : NW s) : va_Nw (.methodLinkNest RX2 48 yX5_at RX5) s := hN 7 (RX2, 48, yX5_at) rfl
theorem nwL8 (hN : NW s) : va_Nw (.methodLinkNest RX4 69 yX5_put RX5) s := hN 8 (RX4, 69, yX5_put) rfl
theorem nwL9 (hN : NW s) : va_Nw (.methodLinkNest RX4 74 yX5_at RX5) s := hN 9 (RX4, 74, yX5_at) rfl
theorem nwL10 (hN : NW s) : va_Nw (.methodLinkNest RX4 83 yX5_sineOf RX5) s := hN 10 (RX4, 83, yX5_sineOf) rfl
theorem nwL11 (hN : NW s) : va_Nw (.methodLinkNest RX4 89 yX5_quotient RX5) s := hN 11 (RX4, 89, yX5_quotient) rfl
theorem nwL12 (hN : NW s) : va_Nw (.methodLinkNest RX1 25 yX5_put RX5) s := hN 12 (RX1, 25, yX5_put) rfl
theorem nwL13 (hN : NW s) : va_Nw (.methodLinkNest RX2 62 yX5_copyRow RX5) s := hN 13 (RX2, 62, yX5_copyRow) rfl
theorem nwL14 (hN : NW s) : va_Nw (.methodLinkNest RX2 66 yX5_rowDifferences RX5) s := hN 14 (RX2, 66, yX5_rowDifferences) rfl
end NWL
