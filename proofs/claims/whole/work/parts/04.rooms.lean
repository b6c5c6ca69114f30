abbrev rmX0_none : Room := { frames := 0, cells := 0, slots := 0, locals := 0 }
abbrev rmX0_take : Room := { frames := 0, cells := 0, slots := 0, locals := 0 }
abbrev rmX1_add : Room := { frames := 1, cells := 0, slots := 0, locals := 22 }
abbrev rmX2_empty : Room := { frames := 0, cells := 0, slots := 0, locals := 0 }
abbrev rmX2_addPiece : Room := { frames := 1, cells := 0, slots := 0, locals := 22 }
abbrev rmX2_addHole : Room := { frames := 1, cells := 0, slots := 0, locals := 22 }
abbrev rmX2_rowOf : Room := { frames := 0, cells := 0, slots := 0, locals := 0 }
abbrev rmX2_ofHole : Room := { frames := 1, cells := 0, slots := 0, locals := 21 }
abbrev rmX2_changeHole : Room := { frames := 1, cells := 0, slots := 0, locals := 22 }
abbrev rmX2_startOf : Room := { frames := 1, cells := 0, slots := 0, locals := 21 }
abbrev rmX2_wholeLength : Room := { frames := 2, cells := 0, slots := 0, locals := 44 }
abbrev rmX2_pieceAt : Room := { frames := 1, cells := 0, slots := 0, locals := 21 }
abbrev rmX2_holeAt : Room := { frames := 1, cells := 0, slots := 0, locals := 21 }
abbrev rmX2_holesBefore : Room := { frames := 1, cells := 0, slots := 0, locals := 21 }
abbrev rmX2_lastHoleBefore : Room := { frames := 1, cells := 0, slots := 0, locals := 22 }
abbrev rmX2_gap : Room := { frames := 1, cells := 0, slots := 0, locals := 21 }
abbrev rmX2_copy : Room := { frames := 2, cells := 0, slots := 0, locals := 44 }
abbrev rmX2_differences : Room := { frames := 2, cells := 0, slots := 0, locals := 48 }
abbrev rmX4_cutUp : Room := { frames := 3, cells := 0, slots := 0, locals := 64 }
abbrev rmX4_worthOf : Room := { frames := 2, cells := 0, slots := 0, locals := 49 }
abbrev rmX4_isOpen : Room := { frames := 1, cells := 0, slots := 0, locals := 21 }
abbrev rmX4_shiftFor : Room := { frames := 1, cells := 0, slots := 0, locals := 21 }
abbrev rmX4_isTooBig : Room := { frames := 0, cells := 0, slots := 0, locals := 0 }
abbrev rmX4_findTone : Room := { frames := 3, cells := 0, slots := 0, locals := 90 }
abbrev rmX5_piece : Room := { frames := 3, cells := 0, slots := 0, locals := 64 }
abbrev rmX5_cone : Room := { frames := 3, cells := 0, slots := 0, locals := 64 }
abbrev rmX5_hole : Room := { frames := 4, cells := 0, slots := 0, locals := 86 }
abbrev rmX5_set : Room := { frames := 4, cells := 0, slots := 0, locals := 86 }
abbrev rmX5_end : Room := { frames := 1, cells := 0, slots := 0, locals := 22 }
abbrev rmX5_clear : Room := { frames := 1, cells := 0, slots := 0, locals := 20 }
abbrev rmX5_told : Room := { frames := 1, cells := 0, slots := 0, locals := 22 }
abbrev rmX5_bored : Room := { frames := 2, cells := 0, slots := 0, locals := 44 }
abbrev rmX5_count : Room := { frames := 5, cells := 0, slots := 0, locals := 142 }
abbrev rmX5_sine : Room := { frames := 2, cells := 0, slots := 0, locals := 49 }
abbrev rmX5_worth : Room := { frames := 4, cells := 0, slots := 0, locals := 90 }
abbrev rmX5_tone : Room := { frames := 4, cells := 0, slots := 0, locals := 116 }
abbrev rmX5_nearest : Room := { frames := 4, cells := 0, slots := 0, locals := 116 }
abbrev rmX5_note : Room := { frames := 2, cells := 0, slots := 0, locals := 45 }
abbrev rmX5_noted : Room := { frames := 5, cells := 0, slots := 0, locals := 137 }
abbrev rmX5_drill : Room := { frames := 1, cells := 0, slots := 0, locals := 22 }
abbrev rmX5_reach : Room := { frames := 1, cells := 0, slots := 0, locals := 22 }
abbrev rmX5_round : Room := { frames := 6, cells := 0, slots := 0, locals := 167 }
abbrev rmX5_keep : Room := { frames := 3, cells := 0, slots := 0, locals := 65 }
abbrev rmX5_back : Room := { frames := 3, cells := 0, slots := 0, locals := 65 }
abbrev rmX5_differs : Room := { frames := 3, cells := 0, slots := 0, locals := 69 }
abbrev rmX5_shelfOf : Room := { frames := 0, cells := 0, slots := 0, locals := 0 }
abbrev rmX5_within : Room := { frames := 0, cells := 0, slots := 0, locals := 0 }
abbrev rmX5_isPiece : Room := { frames := 1, cells := 0, slots := 0, locals := 22 }
abbrev rmX5_mayBe : Room := { frames := 3, cells := 0, slots := 0, locals := 64 }
abbrev rmX5_toneNow : Room := { frames := 4, cells := 0, slots := 0, locals := 116 }
abbrev rmX5_missOf : Room := { frames := 1, cells := 0, slots := 0, locals := 22 }
abbrev rmX5_rank : Room := { frames := 4, cells := 0, slots := 0, locals := 116 }
abbrev rmX5_tryMove : Room := { frames := 5, cells := 0, slots := 0, locals := 142 }
abbrev rmX5_placeMoved : Room := { frames := 4, cells := 0, slots := 0, locals := 86 }
abbrev rmX5_nextSize : Room := { frames := 1, cells := 0, slots := 0, locals := 22 }
abbrev rmX5_quotient : Room := { frames := 0, cells := 0, slots := 0, locals := 0 }
abbrev rmX5_sineOf : Room := { frames := 1, cells := 0, slots := 0, locals := 23 }
abbrev rmX5_at : Room := { frames := 0, cells := 0, slots := 0, locals := 0 }
abbrev rmX5_put : Room := { frames := 0, cells := 0, slots := 0, locals := 0 }
abbrev rmX5_copyRow : Room := { frames := 1, cells := 0, slots := 0, locals := 22 }
abbrev rmX5_rowDifferences : Room := { frames := 1, cells := 0, slots := 0, locals := 22 }
abbrev rmX6_in : Room := { frames := 0, cells := 0, slots := 0, locals := 0 }
abbrev rmX6_whole : Room := { frames := 0, cells := 0, slots := 0, locals := 0 }
abbrev rmX6_add : Room := { frames := 0, cells := 0, slots := 0, locals := 0 }
abbrev rmX6_piece : Room := { frames := 1, cells := 0, slots := 0, locals := 25 }
abbrev rmX6_cone : Room := { frames := 1, cells := 0, slots := 0, locals := 25 }
abbrev rmX6_fits : Room := { frames := 1, cells := 0, slots := 0, locals := 25 }
abbrev rmX6_holeAt : Room := { frames := 0, cells := 0, slots := 0, locals := 0 }
abbrev rmX6_hole : Room := { frames := 2, cells := 0, slots := 0, locals := 47 }
abbrev rmX6_isHole : Room := { frames := 1, cells := 0, slots := 0, locals := 25 }
abbrev rmX6_set : Room := { frames := 2, cells := 0, slots := 0, locals := 47 }
abbrev rmX6_end : Room := { frames := 1, cells := 0, slots := 0, locals := 25 }
abbrev rmX6_clear : Room := { frames := 0, cells := 0, slots := 0, locals := 0 }
abbrev rmX6_told : Room := { frames := 1, cells := 0, slots := 0, locals := 25 }
abbrev rmX6_pieceOf : Room := { frames := 0, cells := 0, slots := 0, locals := 0 }
abbrev rmX6_bored : Room := { frames := 2, cells := 0, slots := 0, locals := 46 }
abbrev rmX6_drillMany : Room := { frames := 0, cells := 0, slots := 0, locals := 0 }
abbrev rmX6_count : Room := { frames := 5, cells := 0, slots := 0, locals := 139 }
abbrev rmX6_sineOf : Room := { frames := 0, cells := 0, slots := 0, locals := 0 }
abbrev rmX6_sine : Room := { frames := 1, cells := 0, slots := 0, locals := 26 }
abbrev rmX6_nextPlace : Room := { frames := 0, cells := 0, slots := 0, locals := 0 }
abbrev rmX6_isLarge : Room := { frames := 0, cells := 0, slots := 0, locals := 0 }
abbrev rmX6_worthOf : Room := { frames := 1, cells := 0, slots := 0, locals := 26 }
abbrev rmX6_isSet : Room := { frames := 1, cells := 0, slots := 0, locals := 25 }
abbrev rmX6_worth : Room := { frames := 2, cells := 0, slots := 0, locals := 68 }
abbrev rmX6_toneOf : Room := { frames := 2, cells := 0, slots := 0, locals := 68 }
abbrev rmX6_tone : Room := { frames := 3, cells := 0, slots := 0, locals := 93 }
abbrev rmX6_nearest : Room := { frames := 3, cells := 0, slots := 0, locals := 93 }
abbrev rmX6_note : Room := { frames := 2, cells := 0, slots := 0, locals := 45 }
abbrev rmX6_missOf : Room := { frames := 3, cells := 0, slots := 0, locals := 93 }
abbrev rmX6_noted : Room := { frames := 4, cells := 0, slots := 0, locals := 116 }
abbrev rmX6_greatest : Room := { frames := 4, cells := 0, slots := 0, locals := 116 }
abbrev rmX6_sumOfMisses : Room := { frames := 4, cells := 0, slots := 0, locals := 116 }
abbrev rmX6_badness : Room := { frames := 4, cells := 0, slots := 0, locals := 116 }
abbrev rmX6_drill : Room := { frames := 1, cells := 0, slots := 0, locals := 25 }
abbrev rmX6_reach : Room := { frames := 1, cells := 0, slots := 0, locals := 25 }
abbrev rmX6_beside : Room := { frames := 0, cells := 0, slots := 0, locals := 0 }
abbrev rmX6_mayPlace : Room := { frames := 2, cells := 0, slots := 0, locals := 47 }
abbrev rmX6_moved : Room := { frames := 3, cells := 0, slots := 0, locals := 72 }
abbrev rmX6_round : Room := { frames := 5, cells := 0, slots := 0, locals := 140 }
abbrev rmX6_keep : Room := { frames := 1, cells := 0, slots := 0, locals := 25 }
abbrev rmX6_back : Room := { frames := 1, cells := 0, slots := 0, locals := 25 }
abbrev rmX6_unlike : Room := { frames := 0, cells := 0, slots := 0, locals := 0 }
abbrev rmX6_differs : Room := { frames := 1, cells := 0, slots := 0, locals := 25 }
abbrev rmJ13_bitCount_95d88 : Room := { frames := 0, cells := 0, slots := 0, locals := 0 }
theorem hdV_X0_none : yX0_none.cls = RX0 ∧ yX0_none.cls ≠ "java/lang/invoke/MethodHandle" ∧ yX0_none.cls ≠ "java/lang/invoke/VarHandle" ∧ (parseMethodDescriptor yX0_none.desc).map (fun d => d.parameters.length) = some 1 := by decide +kernel
theorem hdV_X0_take : yX0_take.cls = RX0 ∧ yX0_take.cls ≠ "java/lang/invoke/MethodHandle" ∧ yX0_take.cls ≠ "java/lang/invoke/VarHandle" ∧ (parseMethodDescriptor yX0_take.desc).map (fun d => d.parameters.length) = some 4 := by decide +kernel
theorem hdV_X1_add : yX1_add.cls = RX1 ∧ yX1_add.cls ≠ "java/lang/invoke/MethodHandle" ∧ yX1_add.cls ≠ "java/lang/invoke/VarHandle" ∧ (parseMethodDescriptor yX1_add.desc).map (fun d => d.parameters.length) = some 3 := by decide +kernel
theorem hdV_X2_empty : yX2_empty.cls = RX2 ∧ yX2_empty.cls ≠ "java/lang/invoke/MethodHandle" ∧ yX2_empty.cls ≠ "java/lang/invoke/VarHandle" ∧ (parseMethodDescriptor yX2_empty.desc).map (fun d => d.parameters.length) = some 0 := by decide +kernel
theorem hdV_X2_addPiece : yX2_addPiece.cls = RX2 ∧ yX2_addPiece.cls ≠ "java/lang/invoke/MethodHandle" ∧ yX2_addPiece.cls ≠ "java/lang/invoke/VarHandle" ∧ (parseMethodDescriptor yX2_addPiece.desc).map (fun d => d.parameters.length) = some 2 := by decide +kernel
theorem hdV_X2_addHole : yX2_addHole.cls = RX2 ∧ yX2_addHole.cls ≠ "java/lang/invoke/MethodHandle" ∧ yX2_addHole.cls ≠ "java/lang/invoke/VarHandle" ∧ (parseMethodDescriptor yX2_addHole.desc).map (fun d => d.parameters.length) = some 3 := by decide +kernel
theorem hdV_X2_rowOf : yX2_rowOf.cls = RX2 ∧ yX2_rowOf.cls ≠ "java/lang/invoke/MethodHandle" ∧ yX2_rowOf.cls ≠ "java/lang/invoke/VarHandle" ∧ (parseMethodDescriptor yX2_rowOf.desc).map (fun d => d.parameters.length) = some 1 := by decide +kernel
theorem hdV_X2_ofHole : yX2_ofHole.cls = RX2 ∧ yX2_ofHole.cls ≠ "java/lang/invoke/MethodHandle" ∧ yX2_ofHole.cls ≠ "java/lang/invoke/VarHandle" ∧ (parseMethodDescriptor yX2_ofHole.desc).map (fun d => d.parameters.length) = some 2 := by decide +kernel
theorem hdV_X2_changeHole : yX2_changeHole.cls = RX2 ∧ yX2_changeHole.cls ≠ "java/lang/invoke/MethodHandle" ∧ yX2_changeHole.cls ≠ "java/lang/invoke/VarHandle" ∧ (parseMethodDescriptor yX2_changeHole.desc).map (fun d => d.parameters.length) = some 3 := by decide +kernel
theorem hdV_X2_startOf : yX2_startOf.cls = RX2 ∧ yX2_startOf.cls ≠ "java/lang/invoke/MethodHandle" ∧ yX2_startOf.cls ≠ "java/lang/invoke/VarHandle" ∧ (parseMethodDescriptor yX2_startOf.desc).map (fun d => d.parameters.length) = some 1 := by decide +kernel
theorem hdV_X2_wholeLength : yX2_wholeLength.cls = RX2 ∧ yX2_wholeLength.cls ≠ "java/lang/invoke/MethodHandle" ∧ yX2_wholeLength.cls ≠ "java/lang/invoke/VarHandle" ∧ (parseMethodDescriptor yX2_wholeLength.desc).map (fun d => d.parameters.length) = some 0 := by decide +kernel
theorem hdV_X2_pieceAt : yX2_pieceAt.cls = RX2 ∧ yX2_pieceAt.cls ≠ "java/lang/invoke/MethodHandle" ∧ yX2_pieceAt.cls ≠ "java/lang/invoke/VarHandle" ∧ (parseMethodDescriptor yX2_pieceAt.desc).map (fun d => d.parameters.length) = some 1 := by decide +kernel
theorem hdV_X2_holeAt : yX2_holeAt.cls = RX2 ∧ yX2_holeAt.cls ≠ "java/lang/invoke/MethodHandle" ∧ yX2_holeAt.cls ≠ "java/lang/invoke/VarHandle" ∧ (parseMethodDescriptor yX2_holeAt.desc).map (fun d => d.parameters.length) = some 1 := by decide +kernel
theorem hdV_X2_holesBefore : yX2_holesBefore.cls = RX2 ∧ yX2_holesBefore.cls ≠ "java/lang/invoke/MethodHandle" ∧ yX2_holesBefore.cls ≠ "java/lang/invoke/VarHandle" ∧ (parseMethodDescriptor yX2_holesBefore.desc).map (fun d => d.parameters.length) = some 1 := by decide +kernel
theorem hdV_X2_lastHoleBefore : yX2_lastHoleBefore.cls = RX2 ∧ yX2_lastHoleBefore.cls ≠ "java/lang/invoke/MethodHandle" ∧ yX2_lastHoleBefore.cls ≠ "java/lang/invoke/VarHandle" ∧ (parseMethodDescriptor yX2_lastHoleBefore.desc).map (fun d => d.parameters.length) = some 1 := by decide +kernel
theorem hdV_X2_gap : yX2_gap.cls = RX2 ∧ yX2_gap.cls ≠ "java/lang/invoke/MethodHandle" ∧ yX2_gap.cls ≠ "java/lang/invoke/VarHandle" ∧ (parseMethodDescriptor yX2_gap.desc).map (fun d => d.parameters.length) = some 2 := by decide +kernel
theorem hdV_X2_copy : yX2_copy.cls = RX2 ∧ yX2_copy.cls ≠ "java/lang/invoke/MethodHandle" ∧ yX2_copy.cls ≠ "java/lang/invoke/VarHandle" ∧ (parseMethodDescriptor yX2_copy.desc).map (fun d => d.parameters.length) = some 1 := by decide +kernel
theorem hdV_X2_differences : yX2_differences.cls = RX2 ∧ yX2_differences.cls ≠ "java/lang/invoke/MethodHandle" ∧ yX2_differences.cls ≠ "java/lang/invoke/VarHandle" ∧ (parseMethodDescriptor yX2_differences.desc).map (fun d => d.parameters.length) = some 1 := by decide +kernel
theorem hdV_X4_cutUp : yX4_cutUp.cls = RX4 ∧ yX4_cutUp.cls ≠ "java/lang/invoke/MethodHandle" ∧ yX4_cutUp.cls ≠ "java/lang/invoke/VarHandle" ∧ (parseMethodDescriptor yX4_cutUp.desc).map (fun d => d.parameters.length) = some 1 := by decide +kernel
theorem hdV_X4_worthOf : yX4_worthOf.cls = RX4 ∧ yX4_worthOf.cls ≠ "java/lang/invoke/MethodHandle" ∧ yX4_worthOf.cls ≠ "java/lang/invoke/VarHandle" ∧ (parseMethodDescriptor yX4_worthOf.desc).map (fun d => d.parameters.length) = some 2 := by decide +kernel
theorem hdV_X4_isOpen : yX4_isOpen.cls = RX4 ∧ yX4_isOpen.cls ≠ "java/lang/invoke/MethodHandle" ∧ yX4_isOpen.cls ≠ "java/lang/invoke/VarHandle" ∧ (parseMethodDescriptor yX4_isOpen.desc).map (fun d => d.parameters.length) = some 2 := by decide +kernel
theorem hdV_X4_shiftFor : yX4_shiftFor.cls = RX4 ∧ yX4_shiftFor.cls ≠ "java/lang/invoke/MethodHandle" ∧ yX4_shiftFor.cls ≠ "java/lang/invoke/VarHandle" ∧ (parseMethodDescriptor yX4_shiftFor.desc).map (fun d => d.parameters.length) = some 2 := by decide +kernel
theorem hdV_X4_isTooBig : yX4_isTooBig.cls = RX4 ∧ yX4_isTooBig.cls ≠ "java/lang/invoke/MethodHandle" ∧ yX4_isTooBig.cls ≠ "java/lang/invoke/VarHandle" ∧ (parseMethodDescriptor yX4_isTooBig.desc).map (fun d => d.parameters.length) = some 1 := by decide +kernel
theorem hdV_X4_findTone : yX4_findTone.cls = RX4 ∧ yX4_findTone.cls ≠ "java/lang/invoke/MethodHandle" ∧ yX4_findTone.cls ≠ "java/lang/invoke/VarHandle" ∧ (parseMethodDescriptor yX4_findTone.desc).map (fun d => d.parameters.length) = some 2 := by decide +kernel
theorem hdV_X5_piece : yX5_piece.cls = RX5 ∧ yX5_piece.cls ≠ "java/lang/invoke/MethodHandle" ∧ yX5_piece.cls ≠ "java/lang/invoke/VarHandle" ∧ (parseMethodDescriptor yX5_piece.desc).map (fun d => d.parameters.length) = some 2 := by decide +kernel
theorem hdV_X5_cone : yX5_cone.cls = RX5 ∧ yX5_cone.cls ≠ "java/lang/invoke/MethodHandle" ∧ yX5_cone.cls ≠ "java/lang/invoke/VarHandle" ∧ (parseMethodDescriptor yX5_cone.desc).map (fun d => d.parameters.length) = some 4 := by decide +kernel
theorem hdV_X5_hole : yX5_hole.cls = RX5 ∧ yX5_hole.cls ≠ "java/lang/invoke/MethodHandle" ∧ yX5_hole.cls ≠ "java/lang/invoke/VarHandle" ∧ (parseMethodDescriptor yX5_hole.desc).map (fun d => d.parameters.length) = some 3 := by decide +kernel
theorem hdV_X5_set : yX5_set.cls = RX5 ∧ yX5_set.cls ≠ "java/lang/invoke/MethodHandle" ∧ yX5_set.cls ≠ "java/lang/invoke/VarHandle" ∧ (parseMethodDescriptor yX5_set.desc).map (fun d => d.parameters.length) = some 3 := by decide +kernel
theorem hdV_X5_end : yX5_end.cls = RX5 ∧ yX5_end.cls ≠ "java/lang/invoke/MethodHandle" ∧ yX5_end.cls ≠ "java/lang/invoke/VarHandle" ∧ (parseMethodDescriptor yX5_end.desc).map (fun d => d.parameters.length) = some 2 := by decide +kernel
theorem hdV_X5_clear : yX5_clear.cls = RX5 ∧ yX5_clear.cls ≠ "java/lang/invoke/MethodHandle" ∧ yX5_clear.cls ≠ "java/lang/invoke/VarHandle" ∧ (parseMethodDescriptor yX5_clear.desc).map (fun d => d.parameters.length) = some 0 := by decide +kernel
theorem hdV_X5_told : yX5_told.cls = RX5 ∧ yX5_told.cls ≠ "java/lang/invoke/MethodHandle" ∧ yX5_told.cls ≠ "java/lang/invoke/VarHandle" ∧ (parseMethodDescriptor yX5_told.desc).map (fun d => d.parameters.length) = some 2 := by decide +kernel
theorem hdV_X5_bored : yX5_bored.cls = RX5 ∧ yX5_bored.cls ≠ "java/lang/invoke/MethodHandle" ∧ yX5_bored.cls ≠ "java/lang/invoke/VarHandle" ∧ (parseMethodDescriptor yX5_bored.desc).map (fun d => d.parameters.length) = some 2 := by decide +kernel
theorem hdV_X5_count : yX5_count.cls = RX5 ∧ yX5_count.cls ≠ "java/lang/invoke/MethodHandle" ∧ yX5_count.cls ≠ "java/lang/invoke/VarHandle" ∧ (parseMethodDescriptor yX5_count.desc).map (fun d => d.parameters.length) = some 1 := by decide +kernel
theorem hdV_X5_sine : yX5_sine.cls = RX5 ∧ yX5_sine.cls ≠ "java/lang/invoke/MethodHandle" ∧ yX5_sine.cls ≠ "java/lang/invoke/VarHandle" ∧ (parseMethodDescriptor yX5_sine.desc).map (fun d => d.parameters.length) = some 1 := by decide +kernel
theorem hdV_X5_worth : yX5_worth.cls = RX5 ∧ yX5_worth.cls ≠ "java/lang/invoke/MethodHandle" ∧ yX5_worth.cls ≠ "java/lang/invoke/VarHandle" ∧ (parseMethodDescriptor yX5_worth.desc).map (fun d => d.parameters.length) = some 2 := by decide +kernel
theorem hdV_X5_tone : yX5_tone.cls = RX5 ∧ yX5_tone.cls ≠ "java/lang/invoke/MethodHandle" ∧ yX5_tone.cls ≠ "java/lang/invoke/VarHandle" ∧ (parseMethodDescriptor yX5_tone.desc).map (fun d => d.parameters.length) = some 2 := by decide +kernel
theorem hdV_X5_nearest : yX5_nearest.cls = RX5 ∧ yX5_nearest.cls ≠ "java/lang/invoke/MethodHandle" ∧ yX5_nearest.cls ≠ "java/lang/invoke/VarHandle" ∧ (parseMethodDescriptor yX5_nearest.desc).map (fun d => d.parameters.length) = some 2 := by decide +kernel
theorem hdV_X5_note : yX5_note.cls = RX5 ∧ yX5_note.cls ≠ "java/lang/invoke/MethodHandle" ∧ yX5_note.cls ≠ "java/lang/invoke/VarHandle" ∧ (parseMethodDescriptor yX5_note.desc).map (fun d => d.parameters.length) = some 3 := by decide +kernel
theorem hdV_X5_noted : yX5_noted.cls = RX5 ∧ yX5_noted.cls ≠ "java/lang/invoke/MethodHandle" ∧ yX5_noted.cls ≠ "java/lang/invoke/VarHandle" ∧ (parseMethodDescriptor yX5_noted.desc).map (fun d => d.parameters.length) = some 2 := by decide +kernel
theorem hdV_X5_drill : yX5_drill.cls = RX5 ∧ yX5_drill.cls ≠ "java/lang/invoke/MethodHandle" ∧ yX5_drill.cls ≠ "java/lang/invoke/VarHandle" ∧ (parseMethodDescriptor yX5_drill.desc).map (fun d => d.parameters.length) = some 2 := by decide +kernel
theorem hdV_X5_reach : yX5_reach.cls = RX5 ∧ yX5_reach.cls ≠ "java/lang/invoke/MethodHandle" ∧ yX5_reach.cls ≠ "java/lang/invoke/VarHandle" ∧ (parseMethodDescriptor yX5_reach.desc).map (fun d => d.parameters.length) = some 1 := by decide +kernel
theorem hdV_X5_round : yX5_round.cls = RX5 ∧ yX5_round.cls ≠ "java/lang/invoke/MethodHandle" ∧ yX5_round.cls ≠ "java/lang/invoke/VarHandle" ∧ (parseMethodDescriptor yX5_round.desc).map (fun d => d.parameters.length) = some 0 := by decide +kernel
theorem hdV_X5_keep : yX5_keep.cls = RX5 ∧ yX5_keep.cls ≠ "java/lang/invoke/MethodHandle" ∧ yX5_keep.cls ≠ "java/lang/invoke/VarHandle" ∧ (parseMethodDescriptor yX5_keep.desc).map (fun d => d.parameters.length) = some 1 := by decide +kernel
theorem hdV_X5_back : yX5_back.cls = RX5 ∧ yX5_back.cls ≠ "java/lang/invoke/MethodHandle" ∧ yX5_back.cls ≠ "java/lang/invoke/VarHandle" ∧ (parseMethodDescriptor yX5_back.desc).map (fun d => d.parameters.length) = some 1 := by decide +kernel
theorem hdV_X5_differs : yX5_differs.cls = RX5 ∧ yX5_differs.cls ≠ "java/lang/invoke/MethodHandle" ∧ yX5_differs.cls ≠ "java/lang/invoke/VarHandle" ∧ (parseMethodDescriptor yX5_differs.desc).map (fun d => d.parameters.length) = some 1 := by decide +kernel
theorem hdV_X5_shelfOf : yX5_shelfOf.cls = RX5 ∧ yX5_shelfOf.cls ≠ "java/lang/invoke/MethodHandle" ∧ yX5_shelfOf.cls ≠ "java/lang/invoke/VarHandle" ∧ (parseMethodDescriptor yX5_shelfOf.desc).map (fun d => d.parameters.length) = some 1 := by decide +kernel
theorem hdV_X5_within : yX5_within.cls = RX5 ∧ yX5_within.cls ≠ "java/lang/invoke/MethodHandle" ∧ yX5_within.cls ≠ "java/lang/invoke/VarHandle" ∧ (parseMethodDescriptor yX5_within.desc).map (fun d => d.parameters.length) = some 3 := by decide +kernel
theorem hdV_X5_isPiece : yX5_isPiece.cls = RX5 ∧ yX5_isPiece.cls ≠ "java/lang/invoke/MethodHandle" ∧ yX5_isPiece.cls ≠ "java/lang/invoke/VarHandle" ∧ (parseMethodDescriptor yX5_isPiece.desc).map (fun d => d.parameters.length) = some 2 := by decide +kernel
theorem hdV_X5_mayBe : yX5_mayBe.cls = RX5 ∧ yX5_mayBe.cls ≠ "java/lang/invoke/MethodHandle" ∧ yX5_mayBe.cls ≠ "java/lang/invoke/VarHandle" ∧ (parseMethodDescriptor yX5_mayBe.desc).map (fun d => d.parameters.length) = some 2 := by decide +kernel
theorem hdV_X5_toneNow : yX5_toneNow.cls = RX5 ∧ yX5_toneNow.cls ≠ "java/lang/invoke/MethodHandle" ∧ yX5_toneNow.cls ≠ "java/lang/invoke/VarHandle" ∧ (parseMethodDescriptor yX5_toneNow.desc).map (fun d => d.parameters.length) = some 1 := by decide +kernel
theorem hdV_X5_missOf : yX5_missOf.cls = RX5 ∧ yX5_missOf.cls ≠ "java/lang/invoke/MethodHandle" ∧ yX5_missOf.cls ≠ "java/lang/invoke/VarHandle" ∧ (parseMethodDescriptor yX5_missOf.desc).map (fun d => d.parameters.length) = some 2 := by decide +kernel
theorem hdV_X5_rank : yX5_rank.cls = RX5 ∧ yX5_rank.cls ≠ "java/lang/invoke/MethodHandle" ∧ yX5_rank.cls ≠ "java/lang/invoke/VarHandle" ∧ (parseMethodDescriptor yX5_rank.desc).map (fun d => d.parameters.length) = some 1 := by decide +kernel
theorem hdV_X5_tryMove : yX5_tryMove.cls = RX5 ∧ yX5_tryMove.cls ≠ "java/lang/invoke/MethodHandle" ∧ yX5_tryMove.cls ≠ "java/lang/invoke/VarHandle" ∧ (parseMethodDescriptor yX5_tryMove.desc).map (fun d => d.parameters.length) = some 3 := by decide +kernel
theorem hdV_X5_placeMoved : yX5_placeMoved.cls = RX5 ∧ yX5_placeMoved.cls ≠ "java/lang/invoke/MethodHandle" ∧ yX5_placeMoved.cls ≠ "java/lang/invoke/VarHandle" ∧ (parseMethodDescriptor yX5_placeMoved.desc).map (fun d => d.parameters.length) = some 2 := by decide +kernel
theorem hdV_X5_nextSize : yX5_nextSize.cls = RX5 ∧ yX5_nextSize.cls ≠ "java/lang/invoke/MethodHandle" ∧ yX5_nextSize.cls ≠ "java/lang/invoke/VarHandle" ∧ (parseMethodDescriptor yX5_nextSize.desc).map (fun d => d.parameters.length) = some 2 := by decide +kernel
theorem hdV_X5_quotient : yX5_quotient.cls = RX5 ∧ yX5_quotient.cls ≠ "java/lang/invoke/MethodHandle" ∧ yX5_quotient.cls ≠ "java/lang/invoke/VarHandle" ∧ (parseMethodDescriptor yX5_quotient.desc).map (fun d => d.parameters.length) = some 2 := by decide +kernel
theorem hdV_X5_sineOf : yX5_sineOf.cls = RX5 ∧ yX5_sineOf.cls ≠ "java/lang/invoke/MethodHandle" ∧ yX5_sineOf.cls ≠ "java/lang/invoke/VarHandle" ∧ (parseMethodDescriptor yX5_sineOf.desc).map (fun d => d.parameters.length) = some 1 := by decide +kernel
theorem hdV_X5_at : yX5_at.cls = RX5 ∧ yX5_at.cls ≠ "java/lang/invoke/MethodHandle" ∧ yX5_at.cls ≠ "java/lang/invoke/VarHandle" ∧ (parseMethodDescriptor yX5_at.desc).map (fun d => d.parameters.length) = some 2 := by decide +kernel
theorem hdV_X5_put : yX5_put.cls = RX5 ∧ yX5_put.cls ≠ "java/lang/invoke/MethodHandle" ∧ yX5_put.cls ≠ "java/lang/invoke/VarHandle" ∧ (parseMethodDescriptor yX5_put.desc).map (fun d => d.parameters.length) = some 3 := by decide +kernel
theorem hdV_X5_copyRow : yX5_copyRow.cls = RX5 ∧ yX5_copyRow.cls ≠ "java/lang/invoke/MethodHandle" ∧ yX5_copyRow.cls ≠ "java/lang/invoke/VarHandle" ∧ (parseMethodDescriptor yX5_copyRow.desc).map (fun d => d.parameters.length) = some 2 := by decide +kernel
theorem hdV_X5_rowDifferences : yX5_rowDifferences.cls = RX5 ∧ yX5_rowDifferences.cls ≠ "java/lang/invoke/MethodHandle" ∧ yX5_rowDifferences.cls ≠ "java/lang/invoke/VarHandle" ∧ (parseMethodDescriptor yX5_rowDifferences.desc).map (fun d => d.parameters.length) = some 4 := by decide +kernel
theorem hdV_X6_in : yX6_in.cls = RX6 ∧ yX6_in.cls ≠ "java/lang/invoke/MethodHandle" ∧ yX6_in.cls ≠ "java/lang/invoke/VarHandle" ∧ (parseMethodDescriptor yX6_in.desc).map (fun d => d.parameters.length) = some 3 := by decide +kernel
theorem hdV_X6_whole : yX6_whole.cls = RX6 ∧ yX6_whole.cls ≠ "java/lang/invoke/MethodHandle" ∧ yX6_whole.cls ≠ "java/lang/invoke/VarHandle" ∧ (parseMethodDescriptor yX6_whole.desc).map (fun d => d.parameters.length) = some 0 := by decide +kernel
theorem hdV_X6_add : yX6_add.cls = RX6 ∧ yX6_add.cls ≠ "java/lang/invoke/MethodHandle" ∧ yX6_add.cls ≠ "java/lang/invoke/VarHandle" ∧ (parseMethodDescriptor yX6_add.desc).map (fun d => d.parameters.length) = some 2 := by decide +kernel
theorem hdV_X6_piece : yX6_piece.cls = RX6 ∧ yX6_piece.cls ≠ "java/lang/invoke/MethodHandle" ∧ yX6_piece.cls ≠ "java/lang/invoke/VarHandle" ∧ (parseMethodDescriptor yX6_piece.desc).map (fun d => d.parameters.length) = some 2 := by decide +kernel
theorem hdV_X6_cone : yX6_cone.cls = RX6 ∧ yX6_cone.cls ≠ "java/lang/invoke/MethodHandle" ∧ yX6_cone.cls ≠ "java/lang/invoke/VarHandle" ∧ (parseMethodDescriptor yX6_cone.desc).map (fun d => d.parameters.length) = some 4 := by decide +kernel
theorem hdV_X6_fits : yX6_fits.cls = RX6 ∧ yX6_fits.cls ≠ "java/lang/invoke/MethodHandle" ∧ yX6_fits.cls ≠ "java/lang/invoke/VarHandle" ∧ (parseMethodDescriptor yX6_fits.desc).map (fun d => d.parameters.length) = some 2 := by decide +kernel
theorem hdV_X6_holeAt : yX6_holeAt.cls = RX6 ∧ yX6_holeAt.cls ≠ "java/lang/invoke/MethodHandle" ∧ yX6_holeAt.cls ≠ "java/lang/invoke/VarHandle" ∧ (parseMethodDescriptor yX6_holeAt.desc).map (fun d => d.parameters.length) = some 1 := by decide +kernel
theorem hdV_X6_hole : yX6_hole.cls = RX6 ∧ yX6_hole.cls ≠ "java/lang/invoke/MethodHandle" ∧ yX6_hole.cls ≠ "java/lang/invoke/VarHandle" ∧ (parseMethodDescriptor yX6_hole.desc).map (fun d => d.parameters.length) = some 3 := by decide +kernel
theorem hdV_X6_isHole : yX6_isHole.cls = RX6 ∧ yX6_isHole.cls ≠ "java/lang/invoke/MethodHandle" ∧ yX6_isHole.cls ≠ "java/lang/invoke/VarHandle" ∧ (parseMethodDescriptor yX6_isHole.desc).map (fun d => d.parameters.length) = some 1 := by decide +kernel
theorem hdV_X6_set : yX6_set.cls = RX6 ∧ yX6_set.cls ≠ "java/lang/invoke/MethodHandle" ∧ yX6_set.cls ≠ "java/lang/invoke/VarHandle" ∧ (parseMethodDescriptor yX6_set.desc).map (fun d => d.parameters.length) = some 3 := by decide +kernel
theorem hdV_X6_end : yX6_end.cls = RX6 ∧ yX6_end.cls ≠ "java/lang/invoke/MethodHandle" ∧ yX6_end.cls ≠ "java/lang/invoke/VarHandle" ∧ (parseMethodDescriptor yX6_end.desc).map (fun d => d.parameters.length) = some 2 := by decide +kernel
theorem hdV_X6_clear : yX6_clear.cls = RX6 ∧ yX6_clear.cls ≠ "java/lang/invoke/MethodHandle" ∧ yX6_clear.cls ≠ "java/lang/invoke/VarHandle" ∧ (parseMethodDescriptor yX6_clear.desc).map (fun d => d.parameters.length) = some 0 := by decide +kernel
theorem hdV_X6_told : yX6_told.cls = RX6 ∧ yX6_told.cls ≠ "java/lang/invoke/MethodHandle" ∧ yX6_told.cls ≠ "java/lang/invoke/VarHandle" ∧ (parseMethodDescriptor yX6_told.desc).map (fun d => d.parameters.length) = some 2 := by decide +kernel
theorem hdV_X6_pieceOf : yX6_pieceOf.cls = RX6 ∧ yX6_pieceOf.cls ≠ "java/lang/invoke/MethodHandle" ∧ yX6_pieceOf.cls ≠ "java/lang/invoke/VarHandle" ∧ (parseMethodDescriptor yX6_pieceOf.desc).map (fun d => d.parameters.length) = some 1 := by decide +kernel
theorem hdV_X6_bored : yX6_bored.cls = RX6 ∧ yX6_bored.cls ≠ "java/lang/invoke/MethodHandle" ∧ yX6_bored.cls ≠ "java/lang/invoke/VarHandle" ∧ (parseMethodDescriptor yX6_bored.desc).map (fun d => d.parameters.length) = some 2 := by decide +kernel
theorem hdV_X6_drillMany : yX6_drillMany.cls = RX6 ∧ yX6_drillMany.cls ≠ "java/lang/invoke/MethodHandle" ∧ yX6_drillMany.cls ≠ "java/lang/invoke/VarHandle" ∧ (parseMethodDescriptor yX6_drillMany.desc).map (fun d => d.parameters.length) = some 0 := by decide +kernel
theorem hdV_X6_count : yX6_count.cls = RX6 ∧ yX6_count.cls ≠ "java/lang/invoke/MethodHandle" ∧ yX6_count.cls ≠ "java/lang/invoke/VarHandle" ∧ (parseMethodDescriptor yX6_count.desc).map (fun d => d.parameters.length) = some 1 := by decide +kernel
theorem hdV_X6_sineOf : yX6_sineOf.cls = RX6 ∧ yX6_sineOf.cls ≠ "java/lang/invoke/MethodHandle" ∧ yX6_sineOf.cls ≠ "java/lang/invoke/VarHandle" ∧ (parseMethodDescriptor yX6_sineOf.desc).map (fun d => d.parameters.length) = some 1 := by decide +kernel
theorem hdV_X6_sine : yX6_sine.cls = RX6 ∧ yX6_sine.cls ≠ "java/lang/invoke/MethodHandle" ∧ yX6_sine.cls ≠ "java/lang/invoke/VarHandle" ∧ (parseMethodDescriptor yX6_sine.desc).map (fun d => d.parameters.length) = some 1 := by decide +kernel
theorem hdV_X6_nextPlace : yX6_nextPlace.cls = RX6 ∧ yX6_nextPlace.cls ≠ "java/lang/invoke/MethodHandle" ∧ yX6_nextPlace.cls ≠ "java/lang/invoke/VarHandle" ∧ (parseMethodDescriptor yX6_nextPlace.desc).map (fun d => d.parameters.length) = some 1 := by decide +kernel
theorem hdV_X6_isLarge : yX6_isLarge.cls = RX6 ∧ yX6_isLarge.cls ≠ "java/lang/invoke/MethodHandle" ∧ yX6_isLarge.cls ≠ "java/lang/invoke/VarHandle" ∧ (parseMethodDescriptor yX6_isLarge.desc).map (fun d => d.parameters.length) = some 1 := by decide +kernel
theorem hdV_X6_worthOf : yX6_worthOf.cls = RX6 ∧ yX6_worthOf.cls ≠ "java/lang/invoke/MethodHandle" ∧ yX6_worthOf.cls ≠ "java/lang/invoke/VarHandle" ∧ (parseMethodDescriptor yX6_worthOf.desc).map (fun d => d.parameters.length) = some 2 := by decide +kernel
theorem hdV_X6_isSet : yX6_isSet.cls = RX6 ∧ yX6_isSet.cls ≠ "java/lang/invoke/MethodHandle" ∧ yX6_isSet.cls ≠ "java/lang/invoke/VarHandle" ∧ (parseMethodDescriptor yX6_isSet.desc).map (fun d => d.parameters.length) = some 1 := by decide +kernel
theorem hdV_X6_worth : yX6_worth.cls = RX6 ∧ yX6_worth.cls ≠ "java/lang/invoke/MethodHandle" ∧ yX6_worth.cls ≠ "java/lang/invoke/VarHandle" ∧ (parseMethodDescriptor yX6_worth.desc).map (fun d => d.parameters.length) = some 2 := by decide +kernel
theorem hdV_X6_toneOf : yX6_toneOf.cls = RX6 ∧ yX6_toneOf.cls ≠ "java/lang/invoke/MethodHandle" ∧ yX6_toneOf.cls ≠ "java/lang/invoke/VarHandle" ∧ (parseMethodDescriptor yX6_toneOf.desc).map (fun d => d.parameters.length) = some 2 := by decide +kernel
theorem hdV_X6_tone : yX6_tone.cls = RX6 ∧ yX6_tone.cls ≠ "java/lang/invoke/MethodHandle" ∧ yX6_tone.cls ≠ "java/lang/invoke/VarHandle" ∧ (parseMethodDescriptor yX6_tone.desc).map (fun d => d.parameters.length) = some 2 := by decide +kernel
theorem hdV_X6_nearest : yX6_nearest.cls = RX6 ∧ yX6_nearest.cls ≠ "java/lang/invoke/MethodHandle" ∧ yX6_nearest.cls ≠ "java/lang/invoke/VarHandle" ∧ (parseMethodDescriptor yX6_nearest.desc).map (fun d => d.parameters.length) = some 2 := by decide +kernel
theorem hdV_X6_note : yX6_note.cls = RX6 ∧ yX6_note.cls ≠ "java/lang/invoke/MethodHandle" ∧ yX6_note.cls ≠ "java/lang/invoke/VarHandle" ∧ (parseMethodDescriptor yX6_note.desc).map (fun d => d.parameters.length) = some 3 := by decide +kernel
theorem hdV_X6_missOf : yX6_missOf.cls = RX6 ∧ yX6_missOf.cls ≠ "java/lang/invoke/MethodHandle" ∧ yX6_missOf.cls ≠ "java/lang/invoke/VarHandle" ∧ (parseMethodDescriptor yX6_missOf.desc).map (fun d => d.parameters.length) = some 1 := by decide +kernel
theorem hdV_X6_noted : yX6_noted.cls = RX6 ∧ yX6_noted.cls ≠ "java/lang/invoke/MethodHandle" ∧ yX6_noted.cls ≠ "java/lang/invoke/VarHandle" ∧ (parseMethodDescriptor yX6_noted.desc).map (fun d => d.parameters.length) = some 2 := by decide +kernel
theorem hdV_X6_greatest : yX6_greatest.cls = RX6 ∧ yX6_greatest.cls ≠ "java/lang/invoke/MethodHandle" ∧ yX6_greatest.cls ≠ "java/lang/invoke/VarHandle" ∧ (parseMethodDescriptor yX6_greatest.desc).map (fun d => d.parameters.length) = some 0 := by decide +kernel
theorem hdV_X6_sumOfMisses : yX6_sumOfMisses.cls = RX6 ∧ yX6_sumOfMisses.cls ≠ "java/lang/invoke/MethodHandle" ∧ yX6_sumOfMisses.cls ≠ "java/lang/invoke/VarHandle" ∧ (parseMethodDescriptor yX6_sumOfMisses.desc).map (fun d => d.parameters.length) = some 0 := by decide +kernel
theorem hdV_X6_badness : yX6_badness.cls = RX6 ∧ yX6_badness.cls ≠ "java/lang/invoke/MethodHandle" ∧ yX6_badness.cls ≠ "java/lang/invoke/VarHandle" ∧ (parseMethodDescriptor yX6_badness.desc).map (fun d => d.parameters.length) = some 0 := by decide +kernel
theorem hdV_X6_drill : yX6_drill.cls = RX6 ∧ yX6_drill.cls ≠ "java/lang/invoke/MethodHandle" ∧ yX6_drill.cls ≠ "java/lang/invoke/VarHandle" ∧ (parseMethodDescriptor yX6_drill.desc).map (fun d => d.parameters.length) = some 2 := by decide +kernel
theorem hdV_X6_reach : yX6_reach.cls = RX6 ∧ yX6_reach.cls ≠ "java/lang/invoke/MethodHandle" ∧ yX6_reach.cls ≠ "java/lang/invoke/VarHandle" ∧ (parseMethodDescriptor yX6_reach.desc).map (fun d => d.parameters.length) = some 1 := by decide +kernel
theorem hdV_X6_beside : yX6_beside.cls = RX6 ∧ yX6_beside.cls ≠ "java/lang/invoke/MethodHandle" ∧ yX6_beside.cls ≠ "java/lang/invoke/VarHandle" ∧ (parseMethodDescriptor yX6_beside.desc).map (fun d => d.parameters.length) = some 2 := by decide +kernel
theorem hdV_X6_mayPlace : yX6_mayPlace.cls = RX6 ∧ yX6_mayPlace.cls ≠ "java/lang/invoke/MethodHandle" ∧ yX6_mayPlace.cls ≠ "java/lang/invoke/VarHandle" ∧ (parseMethodDescriptor yX6_mayPlace.desc).map (fun d => d.parameters.length) = some 2 := by decide +kernel
theorem hdV_X6_moved : yX6_moved.cls = RX6 ∧ yX6_moved.cls ≠ "java/lang/invoke/MethodHandle" ∧ yX6_moved.cls ≠ "java/lang/invoke/VarHandle" ∧ (parseMethodDescriptor yX6_moved.desc).map (fun d => d.parameters.length) = some 2 := by decide +kernel
theorem hdV_X6_round : yX6_round.cls = RX6 ∧ yX6_round.cls ≠ "java/lang/invoke/MethodHandle" ∧ yX6_round.cls ≠ "java/lang/invoke/VarHandle" ∧ (parseMethodDescriptor yX6_round.desc).map (fun d => d.parameters.length) = some 0 := by decide +kernel
theorem hdV_X6_keep : yX6_keep.cls = RX6 ∧ yX6_keep.cls ≠ "java/lang/invoke/MethodHandle" ∧ yX6_keep.cls ≠ "java/lang/invoke/VarHandle" ∧ (parseMethodDescriptor yX6_keep.desc).map (fun d => d.parameters.length) = some 1 := by decide +kernel
theorem hdV_X6_back : yX6_back.cls = RX6 ∧ yX6_back.cls ≠ "java/lang/invoke/MethodHandle" ∧ yX6_back.cls ≠ "java/lang/invoke/VarHandle" ∧ (parseMethodDescriptor yX6_back.desc).map (fun d => d.parameters.length) = some 1 := by decide +kernel
theorem hdV_X6_unlike : yX6_unlike.cls = RX6 ∧ yX6_unlike.cls ≠ "java/lang/invoke/MethodHandle" ∧ yX6_unlike.cls ≠ "java/lang/invoke/VarHandle" ∧ (parseMethodDescriptor yX6_unlike.desc).map (fun d => d.parameters.length) = some 3 := by decide +kernel
theorem hdV_X6_differs : yX6_differs.cls = RX6 ∧ yX6_differs.cls ≠ "java/lang/invoke/MethodHandle" ∧ yX6_differs.cls ≠ "java/lang/invoke/VarHandle" ∧ (parseMethodDescriptor yX6_differs.desc).map (fun d => d.parameters.length) = some 1 := by decide +kernel
theorem hdV_J13_bitCount_95d88 : yJ13_bitCount_95d88.cls = RJ13 ∧ yJ13_bitCount_95d88.cls ≠ "java/lang/invoke/MethodHandle" ∧ yJ13_bitCount_95d88.cls ≠ "java/lang/invoke/VarHandle" ∧ (parseMethodDescriptor yJ13_bitCount_95d88.desc).map (fun d => d.parameters.length) = some 1 := by decide +kernel
