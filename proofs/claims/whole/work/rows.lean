section
-- ===== PART A: goes FIRST, ahead of the names: the tables' words, and 'selects' of the private methods out of them =====
/-- a private method of a class that the tables say can be made, by its rows of tables_1 -/
def lw_okq (q : MethodName × Nat) : Prop := (q.1.cls ≠ "java/lang/invoke/MethodHandle" ∧ q.1.cls ≠ "java/lang/invoke/VarHandle") ∧ Cond.instantiable q.1.cls q.2 ∈ tables_1 ∧ Cond.privateMethod q.1 ∈ tables_1 ∧ Cond.instanceMethod q.1 ∈ tables_1
theorem lw_p0 : lw_okq (⟨"BoredPipes", "mayBe", "(II)Z"⟩, 9) := ⟨⟨by decide +kernel, by decide +kernel⟩, List.mem_of_getElem? (i := 11) (by decide +kernel), List.mem_of_getElem? (i := 229) (by decide +kernel), List.mem_of_getElem? (i := 230) (by decide +kernel)⟩
theorem lw_p1 : lw_okq (⟨"BoredPipes", "rank", "(I)I"⟩, 9) := ⟨⟨by decide +kernel, by decide +kernel⟩, List.mem_of_getElem? (i := 11) (by decide +kernel), List.mem_of_getElem? (i := 297) (by decide +kernel), List.mem_of_getElem? (i := 298) (by decide +kernel)⟩
theorem lw_p2 : lw_okq (⟨"BoredPipes$Stretches", "isOpen", "(II)Z"⟩, 8) := ⟨⟨by decide +kernel, by decide +kernel⟩, List.mem_of_getElem? (i := 84) (by decide +kernel), List.mem_of_getElem? (i := 346) (by decide +kernel), List.mem_of_getElem? (i := 347) (by decide +kernel)⟩
theorem lw_p3 : lw_okq (⟨"BoredPipes", "toneNow", "(I)I"⟩, 9) := ⟨⟨by decide +kernel, by decide +kernel⟩, List.mem_of_getElem? (i := 11) (by decide +kernel), List.mem_of_getElem? (i := 392) (by decide +kernel), List.mem_of_getElem? (i := 393) (by decide +kernel)⟩
theorem lw_p4 : lw_okq (⟨"BoredPipes", "placeMoved", "(II)I"⟩, 9) := ⟨⟨by decide +kernel, by decide +kernel⟩, List.mem_of_getElem? (i := 11) (by decide +kernel), List.mem_of_getElem? (i := 413) (by decide +kernel), List.mem_of_getElem? (i := 414) (by decide +kernel)⟩
theorem lw_p5 : lw_okq (⟨"BoredPipes", "tryMove", "(III)V"⟩, 9) := ⟨⟨by decide +kernel, by decide +kernel⟩, List.mem_of_getElem? (i := 11) (by decide +kernel), List.mem_of_getElem? (i := 421) (by decide +kernel), List.mem_of_getElem? (i := 422) (by decide +kernel)⟩
theorem lw_p6 : lw_okq (⟨"BoredPipes", "nextSize", "(II)I"⟩, 9) := ⟨⟨by decide +kernel, by decide +kernel⟩, List.mem_of_getElem? (i := 11) (by decide +kernel), List.mem_of_getElem? (i := 429) (by decide +kernel), List.mem_of_getElem? (i := 430) (by decide +kernel)⟩
theorem lw_p7 : lw_okq (⟨"BoredPipes", "shelfOf", "(I)LBoredPipes$Shelf;"⟩, 9) := ⟨⟨by decide +kernel, by decide +kernel⟩, List.mem_of_getElem? (i := 11) (by decide +kernel), List.mem_of_getElem? (i := 437) (by decide +kernel), List.mem_of_getElem? (i := 438) (by decide +kernel)⟩
theorem lw_p8 : lw_okq (⟨"BoredPipesModel", "add", "(II)V"⟩, 15) := ⟨⟨by decide +kernel, by decide +kernel⟩, List.mem_of_getElem? (i := 467) (by decide +kernel), List.mem_of_getElem? (i := 529) (by decide +kernel), List.mem_of_getElem? (i := 530) (by decide +kernel)⟩
theorem lw_p9 : lw_okq (⟨"BoredPipesModel", "whole", "()I"⟩, 15) := ⟨⟨by decide +kernel, by decide +kernel⟩, List.mem_of_getElem? (i := 467) (by decide +kernel), List.mem_of_getElem? (i := 533) (by decide +kernel), List.mem_of_getElem? (i := 534) (by decide +kernel)⟩
theorem lw_p10 : lw_okq (⟨"BoredPipesModel", "fits", "(II)Z"⟩, 15) := ⟨⟨by decide +kernel, by decide +kernel⟩, List.mem_of_getElem? (i := 467) (by decide +kernel), List.mem_of_getElem? (i := 547) (by decide +kernel), List.mem_of_getElem? (i := 548) (by decide +kernel)⟩
theorem lw_p11 : lw_okq (⟨"BoredPipesModel", "holeAt", "(I)I"⟩, 15) := ⟨⟨by decide +kernel, by decide +kernel⟩, List.mem_of_getElem? (i := 467) (by decide +kernel), List.mem_of_getElem? (i := 552) (by decide +kernel), List.mem_of_getElem? (i := 553) (by decide +kernel)⟩
theorem lw_p12 : lw_okq (⟨"BoredPipesModel", "isHole", "(I)Z"⟩, 15) := ⟨⟨by decide +kernel, by decide +kernel⟩, List.mem_of_getElem? (i := 467) (by decide +kernel), List.mem_of_getElem? (i := 560) (by decide +kernel), List.mem_of_getElem? (i := 561) (by decide +kernel)⟩
theorem lw_p13 : lw_okq (⟨"BoredPipesModel", "pieceOf", "(I)I"⟩, 15) := ⟨⟨by decide +kernel, by decide +kernel⟩, List.mem_of_getElem? (i := 467) (by decide +kernel), List.mem_of_getElem? (i := 581) (by decide +kernel), List.mem_of_getElem? (i := 582) (by decide +kernel)⟩
theorem lw_p14 : lw_okq (⟨"BoredPipesModel", "drillMany", "()I"⟩, 15) := ⟨⟨by decide +kernel, by decide +kernel⟩, List.mem_of_getElem? (i := 467) (by decide +kernel), List.mem_of_getElem? (i := 589) (by decide +kernel), List.mem_of_getElem? (i := 590) (by decide +kernel)⟩
theorem lw_p15 : lw_okq (⟨"BoredPipesModel", "greatest", "()I"⟩, 15) := ⟨⟨by decide +kernel, by decide +kernel⟩, List.mem_of_getElem? (i := 467) (by decide +kernel), List.mem_of_getElem? (i := 593) (by decide +kernel), List.mem_of_getElem? (i := 594) (by decide +kernel)⟩
def lw_privs_1 : List (MethodName × Nat) := [(⟨"BoredPipes", "mayBe", "(II)Z"⟩, 9), (⟨"BoredPipes", "rank", "(I)I"⟩, 9), (⟨"BoredPipes$Stretches", "isOpen", "(II)Z"⟩, 8), (⟨"BoredPipes", "toneNow", "(I)I"⟩, 9), (⟨"BoredPipes", "placeMoved", "(II)I"⟩, 9), (⟨"BoredPipes", "tryMove", "(III)V"⟩, 9), (⟨"BoredPipes", "nextSize", "(II)I"⟩, 9), (⟨"BoredPipes", "shelfOf", "(I)LBoredPipes$Shelf;"⟩, 9), (⟨"BoredPipesModel", "add", "(II)V"⟩, 15), (⟨"BoredPipesModel", "whole", "()I"⟩, 15), (⟨"BoredPipesModel", "fits", "(II)Z"⟩, 15), (⟨"BoredPipesModel", "holeAt", "(I)I"⟩, 15), (⟨"BoredPipesModel", "isHole", "(I)Z"⟩, 15), (⟨"BoredPipesModel", "pieceOf", "(I)I"⟩, 15), (⟨"BoredPipesModel", "drillMany", "()I"⟩, 15), (⟨"BoredPipesModel", "greatest", "()I"⟩, 15)]
theorem lw_r1 : ∀ q ∈ lw_privs_1, lw_okq q := List.forall_mem_cons.mpr ⟨lw_p0, List.forall_mem_cons.mpr ⟨lw_p1, List.forall_mem_cons.mpr ⟨lw_p2, List.forall_mem_cons.mpr ⟨lw_p3, List.forall_mem_cons.mpr ⟨lw_p4, List.forall_mem_cons.mpr ⟨lw_p5, List.forall_mem_cons.mpr ⟨lw_p6, List.forall_mem_cons.mpr ⟨lw_p7, List.forall_mem_cons.mpr ⟨lw_p8, List.forall_mem_cons.mpr ⟨lw_p9, List.forall_mem_cons.mpr ⟨lw_p10, List.forall_mem_cons.mpr ⟨lw_p11, List.forall_mem_cons.mpr ⟨lw_p12, List.forall_mem_cons.mpr ⟨lw_p13, List.forall_mem_cons.mpr ⟨lw_p14, List.forall_mem_cons.mpr ⟨lw_p15, fun _ h => absurd h List.not_mem_nil⟩⟩⟩⟩⟩⟩⟩⟩⟩⟩⟩⟩⟩⟩⟩⟩
theorem lw_p16 : lw_okq (⟨"BoredPipesModel", "missOf", "(I)I"⟩, 15) := ⟨⟨by decide +kernel, by decide +kernel⟩, List.mem_of_getElem? (i := 467) (by decide +kernel), List.mem_of_getElem? (i := 597) (by decide +kernel), List.mem_of_getElem? (i := 598) (by decide +kernel)⟩
theorem lw_p17 : lw_okq (⟨"BoredPipesModel", "toneOf", "(II)I"⟩, 15) := ⟨⟨by decide +kernel, by decide +kernel⟩, List.mem_of_getElem? (i := 467) (by decide +kernel), List.mem_of_getElem? (i := 601) (by decide +kernel), List.mem_of_getElem? (i := 602) (by decide +kernel)⟩
theorem lw_p18 : lw_okq (⟨"BoredPipesModel", "worthOf", "(II)J"⟩, 15) := ⟨⟨by decide +kernel, by decide +kernel⟩, List.mem_of_getElem? (i := 467) (by decide +kernel), List.mem_of_getElem? (i := 605) (by decide +kernel), List.mem_of_getElem? (i := 606) (by decide +kernel)⟩
theorem lw_p19 : lw_okq (⟨"BoredPipesModel", "nextPlace", "(I)I"⟩, 15) := ⟨⟨by decide +kernel, by decide +kernel⟩, List.mem_of_getElem? (i := 467) (by decide +kernel), List.mem_of_getElem? (i := 610) (by decide +kernel), List.mem_of_getElem? (i := 611) (by decide +kernel)⟩
theorem lw_p20 : lw_okq (⟨"BoredPipesModel", "sumOfMisses", "()I"⟩, 15) := ⟨⟨by decide +kernel, by decide +kernel⟩, List.mem_of_getElem? (i := 467) (by decide +kernel), List.mem_of_getElem? (i := 629) (by decide +kernel), List.mem_of_getElem? (i := 630) (by decide +kernel)⟩
theorem lw_p21 : lw_okq (⟨"BoredPipesModel", "badness", "()I"⟩, 15) := ⟨⟨by decide +kernel, by decide +kernel⟩, List.mem_of_getElem? (i := 467) (by decide +kernel), List.mem_of_getElem? (i := 678) (by decide +kernel), List.mem_of_getElem? (i := 679) (by decide +kernel)⟩
theorem lw_p22 : lw_okq (⟨"BoredPipesModel", "moved", "(II)I"⟩, 15) := ⟨⟨by decide +kernel, by decide +kernel⟩, List.mem_of_getElem? (i := 467) (by decide +kernel), List.mem_of_getElem? (i := 682) (by decide +kernel), List.mem_of_getElem? (i := 683) (by decide +kernel)⟩
theorem lw_p23 : lw_okq (⟨"BoredPipesModel", "mayPlace", "(II)Z"⟩, 15) := ⟨⟨by decide +kernel, by decide +kernel⟩, List.mem_of_getElem? (i := 467) (by decide +kernel), List.mem_of_getElem? (i := 686) (by decide +kernel), List.mem_of_getElem? (i := 687) (by decide +kernel)⟩
theorem lw_p24 : lw_okq (⟨"BoredPipesModel", "beside", "(II)I"⟩, 15) := ⟨⟨by decide +kernel, by decide +kernel⟩, List.mem_of_getElem? (i := 467) (by decide +kernel), List.mem_of_getElem? (i := 690) (by decide +kernel), List.mem_of_getElem? (i := 691) (by decide +kernel)⟩
def lw_privs_2 : List (MethodName × Nat) := [(⟨"BoredPipesModel", "missOf", "(I)I"⟩, 15), (⟨"BoredPipesModel", "toneOf", "(II)I"⟩, 15), (⟨"BoredPipesModel", "worthOf", "(II)J"⟩, 15), (⟨"BoredPipesModel", "nextPlace", "(I)I"⟩, 15), (⟨"BoredPipesModel", "sumOfMisses", "()I"⟩, 15), (⟨"BoredPipesModel", "badness", "()I"⟩, 15), (⟨"BoredPipesModel", "moved", "(II)I"⟩, 15), (⟨"BoredPipesModel", "mayPlace", "(II)Z"⟩, 15), (⟨"BoredPipesModel", "beside", "(II)I"⟩, 15)]
theorem lw_r2 : ∀ q ∈ lw_privs_2, lw_okq q := List.forall_mem_cons.mpr ⟨lw_p16, List.forall_mem_cons.mpr ⟨lw_p17, List.forall_mem_cons.mpr ⟨lw_p18, List.forall_mem_cons.mpr ⟨lw_p19, List.forall_mem_cons.mpr ⟨lw_p20, List.forall_mem_cons.mpr ⟨lw_p21, List.forall_mem_cons.mpr ⟨lw_p22, List.forall_mem_cons.mpr ⟨lw_p23, List.forall_mem_cons.mpr ⟨lw_p24, fun _ h => absurd h List.not_mem_nil⟩⟩⟩⟩⟩⟩⟩⟩⟩
def lw_privs : List (MethodName × Nat) := lw_privs_1 ++ (lw_privs_2)
def lw_tbl : List Cond := k2_sels lw_privs ++ tables_1
theorem lw_privs_ok : ∀ q ∈ lw_privs, lw_okq q := by
  show ∀ q ∈ lw_privs_1 ++ (lw_privs_2), lw_okq q
  exact List.forall_mem_append.mpr ⟨lw_r1, lw_r2⟩
-- ===== end of PART A; then your names; then what follows =====
end
section
/-! ===== BEGIN words of one list among another's, by their places ===== -/
theorem goodIn_r {big : List Cond} (ws : List Cond) (ps : List Nat) (hp : ws = ps.filterMap (fun i => big[i]?)) (h : ws.all goodWord = true) : GoodIn big ws := by
  intro w hw
  have h1 := List.all_eq_true.mp h w hw
  rw [hp] at hw
  obtain ⟨i, -, hi⟩ := List.mem_filterMap.mp hw
  have hm : w ∈ big := by first | exact List.mem_of_getElem? hi | exact List.getElem?_mem hi
  exact ⟨hm, good_of_word h1⟩
theorem goodIn_app {big a b : List Cond} (ha : GoodIn big a) (hb : GoodIn big b) : GoodIn big (a ++ b) := fun w h => (List.mem_append.mp h).elim (ha w) (hb w)
theorem goodIn_ca {big a b : List Cond} {c : Cond} (ha : GoodIn big (c :: a)) (hb : GoodIn big b) : GoodIn big (c :: (a ++ b)) := fun w h => (List.mem_cons.mp h).elim (fun e => ha w (List.mem_cons.mpr (Or.inl e))) (fun h => (List.mem_append.mp h).elim (fun h => ha w (List.mem_cons.mpr (Or.inr h))) (hb w))
theorem goodIn_sub {big ws : List Cond} (hm : ∀ w ∈ ws, w ∈ big) (h : ws.all goodWord = true) : GoodIn big ws := fun w hw => ⟨hm w hw, good_of_word (List.all_eq_true.mp h w hw)⟩
/-! ===== END ===== -/

/-! ===== BEGIN printed: names, fields, word lists, decode rows ===== -/
def RX0 : String := "BoredPipes$Move"
def TX0 : u_T := fun k => match k with
  | 0 => ("BoredPipes$Move", "rank", "I", false)
  | 1 => ("BoredPipes$Move", "hole", "I", false)
  | 2 => ("BoredPipes$Move", "what", "I", false)
  | _ => ("BoredPipes$Move", "value", "I", false)
def tyX0 : Nat → FieldType := fun k => match k with
  | 0 => .int
  | 1 => .int
  | 2 => .int
  | _ => .int
abbrev wsX00 : List Cond := u_ws RX0 TX0 4
theorem nmX0 : ∀ a, a < 4 → ∀ b, b < 4 → a ≠ b → (TX0 a).2.1 ≠ (TX0 b).2.1 := by decide +kernel
theorem tyX0_ok : ∀ k, k < 4 → parseFieldDescriptor (TX0 k).2.2.1 = some (tyX0 k) := by decide +kernel
abbrev cX0_init : ByteArray := prog_2_method_1_code
def yX0_init : MethodName := ⟨RX0, "<init>", "()V"⟩
abbrev cX0_none : ByteArray := prog_2_method_2_code
def yX0_none : MethodName := ⟨RX0, "none", "(I)V"⟩
abbrev cX0_take : ByteArray := prog_2_method_3_code
def yX0_take : MethodName := ⟨RX0, "take", "(IIII)V"⟩
def RX1 : String := "BoredPipes$Notes"
def TX1 : u_T := fun k => match k with
  | 0 => ("BoredPipes$Notes", "sets", "[I", true)
  | 1 => ("BoredPipes$Notes", "whiches", "[I", true)
  | 2 => ("BoredPipes$Notes", "wanted", "[I", true)
  | _ => ("BoredPipes$Notes", "many", "I", false)
def tyX1 : Nat → FieldType := fun k => match k with
  | 0 => .array .int
  | 1 => .array .int
  | 2 => .array .int
  | _ => .int
abbrev wsX10 : List Cond := u_ws RX1 TX1 4
theorem nmX1 : ∀ a, a < 4 → ∀ b, b < 4 → a ≠ b → (TX1 a).2.1 ≠ (TX1 b).2.1 := by decide +kernel
theorem tyX1_ok : ∀ k, k < 4 → parseFieldDescriptor (TX1 k).2.2.1 = some (tyX1 k) := by decide +kernel
abbrev cX1_init : ByteArray := prog_3_method_1_code
def yX1_init : MethodName := ⟨RX1, "<init>", "()V"⟩
abbrev cX1_add : ByteArray := prog_3_method_2_code
def yX1_add : MethodName := ⟨RX1, "add", "(III)V"⟩
def RX2 : String := "BoredPipes$Pipe"
def TX2 : u_T := fun k => match k with
  | 0 => ("BoredPipes$Pipe", "lengths", "[I", true)
  | 1 => ("BoredPipes$Pipe", "bores", "[I", true)
  | 2 => ("BoredPipes$Pipe", "places", "[I", true)
  | 3 => ("BoredPipes$Pipe", "sizes", "[I", true)
  | 4 => ("BoredPipes$Pipe", "chimneys", "[I", true)
  | 5 => ("BoredPipes$Pipe", "pieces", "I", false)
  | 6 => ("BoredPipes$Pipe", "holes", "I", false)
  | 7 => ("BoredPipes$Pipe", "mouth", "I", false)
  | _ => ("BoredPipes$Pipe", "farEnd", "I", false)
def tyX2 : Nat → FieldType := fun k => match k with
  | 0 => .array .int
  | 1 => .array .int
  | 2 => .array .int
  | 3 => .array .int
  | 4 => .array .int
  | 5 => .int
  | 6 => .int
  | 7 => .int
  | _ => .int
abbrev wsX20 : List Cond := u_ws RX2 TX2 9
theorem nmX2 : ∀ a, a < 9 → ∀ b, b < 9 → a ≠ b → (TX2 a).2.1 ≠ (TX2 b).2.1 := by decide +kernel
theorem tyX2_ok : ∀ k, k < 9 → parseFieldDescriptor (TX2 k).2.2.1 = some (tyX2 k) := by decide +kernel
abbrev cX2_init : ByteArray := prog_4_method_1_code
def yX2_init : MethodName := ⟨RX2, "<init>", "()V"⟩
abbrev cX2_empty : ByteArray := prog_4_method_2_code
def yX2_empty : MethodName := ⟨RX2, "empty", "()V"⟩
abbrev cX2_addPiece : ByteArray := prog_4_method_3_code
def yX2_addPiece : MethodName := ⟨RX2, "addPiece", "(II)V"⟩
abbrev cX2_addHole : ByteArray := prog_4_method_4_code
def yX2_addHole : MethodName := ⟨RX2, "addHole", "(III)V"⟩
abbrev cX2_rowOf : ByteArray := prog_4_method_5_code
def yX2_rowOf : MethodName := ⟨RX2, "rowOf", "(I)[I"⟩
abbrev cX2_ofHole : ByteArray := prog_4_method_6_code
def yX2_ofHole : MethodName := ⟨RX2, "ofHole", "(II)I"⟩
abbrev cX2_changeHole : ByteArray := prog_4_method_7_code
def yX2_changeHole : MethodName := ⟨RX2, "changeHole", "(III)V"⟩
abbrev cX2_startOf : ByteArray := prog_4_method_8_code
def yX2_startOf : MethodName := ⟨RX2, "startOf", "(I)I"⟩
abbrev cX2_wholeLength : ByteArray := prog_4_method_9_code
def yX2_wholeLength : MethodName := ⟨RX2, "wholeLength", "()I"⟩
abbrev cX2_pieceAt : ByteArray := prog_4_method_10_code
def yX2_pieceAt : MethodName := ⟨RX2, "pieceAt", "(I)I"⟩
abbrev cX2_holeAt : ByteArray := prog_4_method_11_code
def yX2_holeAt : MethodName := ⟨RX2, "holeAt", "(I)I"⟩
abbrev cX2_holesBefore : ByteArray := prog_4_method_12_code
def yX2_holesBefore : MethodName := ⟨RX2, "holesBefore", "(I)I"⟩
abbrev cX2_lastHoleBefore : ByteArray := prog_4_method_13_code
def yX2_lastHoleBefore : MethodName := ⟨RX2, "lastHoleBefore", "(I)I"⟩
abbrev cX2_gap : ByteArray := prog_4_method_14_code
def yX2_gap : MethodName := ⟨RX2, "gap", "(II)I"⟩
abbrev cX2_copy : ByteArray := prog_4_method_15_code
def yX2_copy : MethodName := ⟨RX2, "copy", "(LBoredPipes$Pipe;)V"⟩
abbrev cX2_differences : ByteArray := prog_4_method_16_code
def yX2_differences : MethodName := ⟨RX2, "differences", "(LBoredPipes$Pipe;)I"⟩
def RX3 : String := "BoredPipes$Shelf"
def TX3 : u_T := fun k => match k with
  | 0 => ("BoredPipes$Shelf", "kept", "LBoredPipes$Pipe;", true)
  | _ => ("BoredPipes$Shelf", "used", "Z", false)
def tyX3 : Nat → FieldType := fun k => match k with
  | 0 => .object "BoredPipes$Pipe"
  | _ => .boolean
abbrev wsX30 : List Cond := u_ws RX3 TX3 2
theorem nmX3 : ∀ a, a < 2 → ∀ b, b < 2 → a ≠ b → (TX3 a).2.1 ≠ (TX3 b).2.1 := by decide +kernel
theorem tyX3_ok : ∀ k, k < 2 → parseFieldDescriptor (TX3 k).2.2.1 = some (tyX3 k) := by decide +kernel
abbrev cX3_init : ByteArray := prog_5_method_1_code
def yX3_init : MethodName := ⟨RX3, "<init>", "()V"⟩
def RX4 : String := "BoredPipes$Stretches"
def TX4 : u_T := fun k => match k with
  | 0 => ("BoredPipes$Stretches", "lengths", "[I", true)
  | 1 => ("BoredPipes$Stretches", "bores", "[I", true)
  | 2 => ("BoredPipes$Stretches", "holes", "[I", true)
  | 3 => ("BoredPipes$Stretches", "sizes", "[I", true)
  | 4 => ("BoredPipes$Stretches", "chimneys", "[I", true)
  | 5 => ("BoredPipes$Stretches", "many", "I", false)
  | 6 => ("BoredPipes$Stretches", "shut", "Z", false)
  | _ => ("BoredPipes$Stretches", "reed", "Z", false)
def tyX4 : Nat → FieldType := fun k => match k with
  | 0 => .array .int
  | 1 => .array .int
  | 2 => .array .int
  | 3 => .array .int
  | 4 => .array .int
  | 5 => .int
  | 6 => .boolean
  | _ => .boolean
abbrev wsX40 : List Cond := u_ws RX4 TX4 8
theorem nmX4 : ∀ a, a < 8 → ∀ b, b < 8 → a ≠ b → (TX4 a).2.1 ≠ (TX4 b).2.1 := by decide +kernel
theorem tyX4_ok : ∀ k, k < 8 → parseFieldDescriptor (TX4 k).2.2.1 = some (tyX4 k) := by decide +kernel
abbrev cX4_init : ByteArray := prog_6_method_1_code
def yX4_init : MethodName := ⟨RX4, "<init>", "()V"⟩
abbrev cX4_cutUp : ByteArray := prog_6_method_2_code
def yX4_cutUp : MethodName := ⟨RX4, "cutUp", "(LBoredPipes$Pipe;)V"⟩
abbrev cX4_worthOf : ByteArray := prog_6_method_3_code
def yX4_worthOf : MethodName := ⟨RX4, "worthOf", "(II)J"⟩
abbrev cX4_isOpen : ByteArray := prog_6_method_4_code
def yX4_isOpen : MethodName := ⟨RX4, "isOpen", "(II)Z"⟩
abbrev cX4_shiftFor : ByteArray := prog_6_method_5_code
def yX4_shiftFor : MethodName := ⟨RX4, "shiftFor", "(JJ)I"⟩
abbrev cX4_isTooBig : ByteArray := prog_6_method_6_code
def yX4_isTooBig : MethodName := ⟨RX4, "isTooBig", "(J)Z"⟩
abbrev cX4_findTone : ByteArray := prog_6_method_7_code
def yX4_findTone : MethodName := ⟨RX4, "findTone", "(II)I"⟩
def RX5 : String := "BoredPipes"
def TX5 : u_T := fun k => match k with
  | 0 => ("BoredPipes", "pipe", "LBoredPipes$Pipe;", true)
  | 1 => ("BoredPipes", "firstShelf", "LBoredPipes$Shelf;", true)
  | 2 => ("BoredPipes", "secondShelf", "LBoredPipes$Shelf;", true)
  | 3 => ("BoredPipes", "stretches", "LBoredPipes$Stretches;", true)
  | 4 => ("BoredPipes", "notes", "LBoredPipes$Notes;", true)
  | 5 => ("BoredPipes", "best", "LBoredPipes$Move;", true)
  | 6 => ("BoredPipes", "drills", "J", false)
  | 7 => ("BoredPipes", "reach", "I", false)
  | _ => ("BoredPipes", "rounds", "I", false)
def tyX5 : Nat → FieldType := fun k => match k with
  | 0 => .object "BoredPipes$Pipe"
  | 1 => .object "BoredPipes$Shelf"
  | 2 => .object "BoredPipes$Shelf"
  | 3 => .object "BoredPipes$Stretches"
  | 4 => .object "BoredPipes$Notes"
  | 5 => .object "BoredPipes$Move"
  | 6 => .long
  | 7 => .int
  | _ => .int
abbrev wsX50 : List Cond := u_ws RX5 TX5 9
theorem nmX5 : ∀ a, a < 9 → ∀ b, b < 9 → a ≠ b → (TX5 a).2.1 ≠ (TX5 b).2.1 := by decide +kernel
theorem tyX5_ok : ∀ k, k < 9 → parseFieldDescriptor (TX5 k).2.2.1 = some (tyX5 k) := by decide +kernel
abbrev cX5_init : ByteArray := prog_1_method_1_code
def yX5_init : MethodName := ⟨RX5, "<init>", "()V"⟩
abbrev cX5_piece : ByteArray := prog_1_method_2_code
def yX5_piece : MethodName := ⟨RX5, "piece", "(II)I"⟩
abbrev cX5_cone : ByteArray := prog_1_method_3_code
def yX5_cone : MethodName := ⟨RX5, "cone", "(IIII)I"⟩
abbrev cX5_hole : ByteArray := prog_1_method_4_code
def yX5_hole : MethodName := ⟨RX5, "hole", "(III)I"⟩
abbrev cX5_set : ByteArray := prog_1_method_5_code
def yX5_set : MethodName := ⟨RX5, "set", "(III)I"⟩
abbrev cX5_end : ByteArray := prog_1_method_6_code
def yX5_end : MethodName := ⟨RX5, "end", "(II)I"⟩
abbrev cX5_clear : ByteArray := prog_1_method_7_code
def yX5_clear : MethodName := ⟨RX5, "clear", "()I"⟩
abbrev cX5_told : ByteArray := prog_1_method_8_code
def yX5_told : MethodName := ⟨RX5, "told", "(II)I"⟩
abbrev cX5_bored : ByteArray := prog_1_method_9_code
def yX5_bored : MethodName := ⟨RX5, "bored", "(II)I"⟩
abbrev cX5_count : ByteArray := prog_1_method_10_code
def yX5_count : MethodName := ⟨RX5, "count", "(I)I"⟩
abbrev cX5_sine : ByteArray := prog_1_method_11_code
def yX5_sine : MethodName := ⟨RX5, "sine", "(I)I"⟩
abbrev cX5_worth : ByteArray := prog_1_method_12_code
def yX5_worth : MethodName := ⟨RX5, "worth", "(II)J"⟩
abbrev cX5_tone : ByteArray := prog_1_method_13_code
def yX5_tone : MethodName := ⟨RX5, "tone", "(II)I"⟩
abbrev cX5_nearest : ByteArray := prog_1_method_14_code
def yX5_nearest : MethodName := ⟨RX5, "nearest", "(II)I"⟩
abbrev cX5_note : ByteArray := prog_1_method_15_code
def yX5_note : MethodName := ⟨RX5, "note", "(III)I"⟩
abbrev cX5_noted : ByteArray := prog_1_method_16_code
def yX5_noted : MethodName := ⟨RX5, "noted", "(II)I"⟩
abbrev cX5_drill : ByteArray := prog_1_method_17_code
def yX5_drill : MethodName := ⟨RX5, "drill", "(IZ)I"⟩
abbrev cX5_reach : ByteArray := prog_1_method_18_code
def yX5_reach : MethodName := ⟨RX5, "reach", "(I)I"⟩
abbrev cX5_round : ByteArray := prog_1_method_19_code
def yX5_round : MethodName := ⟨RX5, "round", "()I"⟩
abbrev cX5_keep : ByteArray := prog_1_method_20_code
def yX5_keep : MethodName := ⟨RX5, "keep", "(I)I"⟩
abbrev cX5_back : ByteArray := prog_1_method_21_code
def yX5_back : MethodName := ⟨RX5, "back", "(I)I"⟩
abbrev cX5_differs : ByteArray := prog_1_method_22_code
def yX5_differs : MethodName := ⟨RX5, "differs", "(I)I"⟩
abbrev cX5_shelfOf : ByteArray := prog_1_method_23_code
def yX5_shelfOf : MethodName := ⟨RX5, "shelfOf", "(I)LBoredPipes$Shelf;"⟩
abbrev cX5_within : ByteArray := prog_1_method_24_code
def yX5_within : MethodName := ⟨RX5, "within", "(III)Z"⟩
abbrev cX5_isPiece : ByteArray := prog_1_method_25_code
def yX5_isPiece : MethodName := ⟨RX5, "isPiece", "(II)Z"⟩
abbrev cX5_mayBe : ByteArray := prog_1_method_26_code
def yX5_mayBe : MethodName := ⟨RX5, "mayBe", "(II)Z"⟩
abbrev cX5_toneNow : ByteArray := prog_1_method_27_code
def yX5_toneNow : MethodName := ⟨RX5, "toneNow", "(I)I"⟩
abbrev cX5_missOf : ByteArray := prog_1_method_28_code
def yX5_missOf : MethodName := ⟨RX5, "missOf", "(II)I"⟩
abbrev cX5_rank : ByteArray := prog_1_method_29_code
def yX5_rank : MethodName := ⟨RX5, "rank", "(I)I"⟩
abbrev cX5_tryMove : ByteArray := prog_1_method_30_code
def yX5_tryMove : MethodName := ⟨RX5, "tryMove", "(III)V"⟩
abbrev cX5_placeMoved : ByteArray := prog_1_method_31_code
def yX5_placeMoved : MethodName := ⟨RX5, "placeMoved", "(II)I"⟩
abbrev cX5_nextSize : ByteArray := prog_1_method_32_code
def yX5_nextSize : MethodName := ⟨RX5, "nextSize", "(II)I"⟩
abbrev cX5_quotient : ByteArray := prog_1_method_33_code
def yX5_quotient : MethodName := ⟨RX5, "quotient", "(JJ)J"⟩
abbrev cX5_sineOf : ByteArray := prog_1_method_34_code
def yX5_sineOf : MethodName := ⟨RX5, "sineOf", "(I)J"⟩
abbrev cX5_at : ByteArray := prog_1_method_35_code
def yX5_at : MethodName := ⟨RX5, "at", "([II)I"⟩
abbrev cX5_put : ByteArray := prog_1_method_36_code
def yX5_put : MethodName := ⟨RX5, "put", "([III)V"⟩
abbrev cX5_copyRow : ByteArray := prog_1_method_37_code
def yX5_copyRow : MethodName := ⟨RX5, "copyRow", "([I[I)V"⟩
abbrev cX5_rowDifferences : ByteArray := prog_1_method_38_code
def yX5_rowDifferences : MethodName := ⟨RX5, "rowDifferences", "([II[II)I"⟩
def RX6 : String := "BoredPipesModel"
def TX6 : u_T := fun k => match k with
  | 0 => ("BoredPipesModel", "pieces", "I", false)
  | 1 => ("BoredPipesModel", "lengths", "[I", true)
  | 2 => ("BoredPipesModel", "bores", "[I", true)
  | 3 => ("BoredPipesModel", "holes", "I", false)
  | 4 => ("BoredPipesModel", "bored", "[I", true)
  | 5 => ("BoredPipesModel", "ends", "[I", true)
  | 6 => ("BoredPipesModel", "notes", "I", false)
  | 7 => ("BoredPipesModel", "opens", "[I", true)
  | 8 => ("BoredPipesModel", "whiches", "[I", true)
  | 9 => ("BoredPipesModel", "wanteds", "[I", true)
  | 10 => ("BoredPipesModel", "drills", "[Z", true)
  | 11 => ("BoredPipesModel", "reach", "I", false)
  | 12 => ("BoredPipesModel", "rounds", "I", false)
  | 13 => ("BoredPipesModel", "shelf", "[I", true)
  | _ => ("BoredPipesModel", "toneMany", "I", false)
def tyX6 : Nat → FieldType := fun k => match k with
  | 0 => .int
  | 1 => .array .int
  | 2 => .array .int
  | 3 => .int
  | 4 => .array .int
  | 5 => .array .int
  | 6 => .int
  | 7 => .array .int
  | 8 => .array .int
  | 9 => .array .int
  | 10 => .array .boolean
  | 11 => .int
  | 12 => .int
  | 13 => .array .int
  | _ => .int
abbrev wsX60 : List Cond := u_ws RX6 TX6 15
theorem nmX6 : ∀ a, a < 15 → ∀ b, b < 15 → a ≠ b → (TX6 a).2.1 ≠ (TX6 b).2.1 := by decide +kernel
theorem tyX6_ok : ∀ k, k < 15 → parseFieldDescriptor (TX6 k).2.2.1 = some (tyX6 k) := by decide +kernel
abbrev cX6_init : ByteArray := prog_8_method_1_code
def yX6_init : MethodName := ⟨RX6, "<init>", "()V"⟩
abbrev cX6_in : ByteArray := prog_8_method_3_code
def yX6_in : MethodName := ⟨RX6, "in", "(JJJ)Z"⟩
abbrev cX6_whole : ByteArray := prog_8_method_4_code
def yX6_whole : MethodName := ⟨RX6, "whole", "()I"⟩
abbrev cX6_add : ByteArray := prog_8_method_5_code
def yX6_add : MethodName := ⟨RX6, "add", "(II)V"⟩
abbrev cX6_piece : ByteArray := prog_8_method_6_code
def yX6_piece : MethodName := ⟨RX6, "piece", "(II)I"⟩
abbrev cX6_cone : ByteArray := prog_8_method_7_code
def yX6_cone : MethodName := ⟨RX6, "cone", "(IIII)I"⟩
abbrev cX6_fits : ByteArray := prog_8_method_8_code
def yX6_fits : MethodName := ⟨RX6, "fits", "(II)Z"⟩
abbrev cX6_holeAt : ByteArray := prog_8_method_9_code
def yX6_holeAt : MethodName := ⟨RX6, "holeAt", "(I)I"⟩
abbrev cX6_hole : ByteArray := prog_8_method_10_code
def yX6_hole : MethodName := ⟨RX6, "hole", "(III)I"⟩
abbrev cX6_isHole : ByteArray := prog_8_method_11_code
def yX6_isHole : MethodName := ⟨RX6, "isHole", "(I)Z"⟩
abbrev cX6_set : ByteArray := prog_8_method_12_code
def yX6_set : MethodName := ⟨RX6, "set", "(III)I"⟩
abbrev cX6_end : ByteArray := prog_8_method_13_code
def yX6_end : MethodName := ⟨RX6, "end", "(II)I"⟩
abbrev cX6_clear : ByteArray := prog_8_method_14_code
def yX6_clear : MethodName := ⟨RX6, "clear", "()I"⟩
abbrev cX6_told : ByteArray := prog_8_method_15_code
def yX6_told : MethodName := ⟨RX6, "told", "(II)I"⟩
abbrev cX6_pieceOf : ByteArray := prog_8_method_16_code
def yX6_pieceOf : MethodName := ⟨RX6, "pieceOf", "(I)I"⟩
abbrev cX6_bored : ByteArray := prog_8_method_17_code
def yX6_bored : MethodName := ⟨RX6, "bored", "(II)I"⟩
abbrev cX6_drillMany : ByteArray := prog_8_method_18_code
def yX6_drillMany : MethodName := ⟨RX6, "drillMany", "()I"⟩
abbrev cX6_count : ByteArray := prog_8_method_19_code
def yX6_count : MethodName := ⟨RX6, "count", "(I)I"⟩
abbrev cX6_sineOf : ByteArray := prog_8_method_20_code
def yX6_sineOf : MethodName := ⟨RX6, "sineOf", "(I)J"⟩
abbrev cX6_sine : ByteArray := prog_8_method_21_code
def yX6_sine : MethodName := ⟨RX6, "sine", "(I)I"⟩
abbrev cX6_nextPlace : ByteArray := prog_8_method_22_code
def yX6_nextPlace : MethodName := ⟨RX6, "nextPlace", "(I)I"⟩
abbrev cX6_isLarge : ByteArray := prog_8_method_23_code
def yX6_isLarge : MethodName := ⟨RX6, "isLarge", "(J)Z"⟩
abbrev cX6_worthOf : ByteArray := prog_8_method_24_code
def yX6_worthOf : MethodName := ⟨RX6, "worthOf", "(II)J"⟩
abbrev cX6_isSet : ByteArray := prog_8_method_25_code
def yX6_isSet : MethodName := ⟨RX6, "isSet", "(I)Z"⟩
abbrev cX6_worth : ByteArray := prog_8_method_26_code
def yX6_worth : MethodName := ⟨RX6, "worth", "(II)J"⟩
abbrev cX6_toneOf : ByteArray := prog_8_method_27_code
def yX6_toneOf : MethodName := ⟨RX6, "toneOf", "(II)I"⟩
abbrev cX6_tone : ByteArray := prog_8_method_28_code
def yX6_tone : MethodName := ⟨RX6, "tone", "(II)I"⟩
abbrev cX6_nearest : ByteArray := prog_8_method_29_code
def yX6_nearest : MethodName := ⟨RX6, "nearest", "(II)I"⟩
abbrev cX6_note : ByteArray := prog_8_method_30_code
def yX6_note : MethodName := ⟨RX6, "note", "(III)I"⟩
abbrev cX6_missOf : ByteArray := prog_8_method_31_code
def yX6_missOf : MethodName := ⟨RX6, "missOf", "(I)I"⟩
abbrev cX6_noted : ByteArray := prog_8_method_32_code
def yX6_noted : MethodName := ⟨RX6, "noted", "(II)I"⟩
abbrev cX6_greatest : ByteArray := prog_8_method_33_code
def yX6_greatest : MethodName := ⟨RX6, "greatest", "()I"⟩
abbrev cX6_sumOfMisses : ByteArray := prog_8_method_34_code
def yX6_sumOfMisses : MethodName := ⟨RX6, "sumOfMisses", "()I"⟩
abbrev cX6_badness : ByteArray := prog_8_method_35_code
def yX6_badness : MethodName := ⟨RX6, "badness", "()I"⟩
abbrev cX6_drill : ByteArray := prog_8_method_36_code
def yX6_drill : MethodName := ⟨RX6, "drill", "(IZ)I"⟩
abbrev cX6_reach : ByteArray := prog_8_method_37_code
def yX6_reach : MethodName := ⟨RX6, "reach", "(I)I"⟩
abbrev cX6_beside : ByteArray := prog_8_method_38_code
def yX6_beside : MethodName := ⟨RX6, "beside", "(II)I"⟩
abbrev cX6_mayPlace : ByteArray := prog_8_method_39_code
def yX6_mayPlace : MethodName := ⟨RX6, "mayPlace", "(II)Z"⟩
abbrev cX6_moved : ByteArray := prog_8_method_40_code
def yX6_moved : MethodName := ⟨RX6, "moved", "(II)I"⟩
abbrev cX6_round : ByteArray := prog_8_method_41_code
def yX6_round : MethodName := ⟨RX6, "round", "()I"⟩
abbrev cX6_keep : ByteArray := prog_8_method_42_code
def yX6_keep : MethodName := ⟨RX6, "keep", "(I)I"⟩
abbrev cX6_back : ByteArray := prog_8_method_43_code
def yX6_back : MethodName := ⟨RX6, "back", "(I)I"⟩
abbrev cX6_unlike : ByteArray := prog_8_method_44_code
def yX6_unlike : MethodName := ⟨RX6, "unlike", "(ZZZ)I"⟩
abbrev cX6_differs : ByteArray := prog_8_method_45_code
def yX6_differs : MethodName := ⟨RX6, "differs", "(I)I"⟩
def RJ13 : String := "java/lang/Long"
def TJ13 : u_T := fun k => match k with
  | _ => ("", "", "", false)
def tyJ13 : Nat → FieldType := fun k => match k with
  | _ => .int
abbrev wsJ130 : List Cond := u_ws RJ13 TJ13 0
theorem nmJ13 : ∀ a, a < 0 → ∀ b, b < 0 → a ≠ b → (TJ13 a).2.1 ≠ (TJ13 b).2.1 := by decide +kernel
theorem tyJ13_ok : ∀ k, k < 0 → parseFieldDescriptor (TJ13 k).2.2.1 = some (tyJ13 k) := by decide +kernel
abbrev cJ13_bitCount_95d88 : ByteArray := prog_9_method_50_code
def yJ13_bitCount_95d88 : MethodName := ⟨RJ13, "bitCount", "(J)I"⟩
def RJ9 : String := "java/lang/Math"
def TJ9 : u_T := fun k => match k with
  | _ => ("", "", "", false)
def tyJ9 : Nat → FieldType := fun k => match k with
  | _ => .int
abbrev wsJ90 : List Cond := u_ws RJ9 TJ9 0
theorem nmJ9 : ∀ a, a < 0 → ∀ b, b < 0 → a ≠ b → (TJ9 a).2.1 ≠ (TJ9 b).2.1 := by decide +kernel
theorem tyJ9_ok : ∀ k, k < 0 → parseFieldDescriptor (TJ9 k).2.2.1 = some (tyJ9 k) := by decide +kernel
abbrev cJ9_abs_0f7a4 : ByteArray := prog_10_method_59_code
def yJ9_abs_0f7a4 : MethodName := ⟨RJ9, "abs", "(I)I"⟩
abbrev cJ9_max_7cf53 : ByteArray := prog_10_method_65_code
def yJ9_max_7cf53 : MethodName := ⟨RJ9, "max", "(II)I"⟩
abbrev cJ9_min_7cf53 : ByteArray := prog_10_method_69_code
def yJ9_min_7cf53 : MethodName := ⟨RJ9, "min", "(II)I"⟩
def RL : String := "BoredPipesLaw"
abbrev cL_law : ByteArray := code
def yL_law : MethodName := ⟨RL, "law", "([I)Z"⟩
def wsX0_init : List Cond := .code yX0_init cX0_init 1 none :: ([.methodLink RX0 3 objectInit, .instanceMethod objectInit, .code objectInit ⟨#[0xb1]⟩ 1 none, .fieldLink RX0 9 "BoredPipes$Move" "rank" "I", .fieldLink RX0 15 "BoredPipes$Move" "hole" "I", .fieldLink RX0 18 "BoredPipes$Move" "what" "I", .fieldLink RX0 21 "BoredPipes$Move" "value" "I"] ++ wsX00)
def wsX0_none : List Cond := .code yX0_none cX0_none 2 none :: ([.fieldLink RX0 9 "BoredPipes$Move" "rank" "I", .fieldLink RX0 15 "BoredPipes$Move" "hole" "I"] ++ wsX00)
def wsX0_take : List Cond := .code yX0_take cX0_take 5 none :: ([.fieldLink RX0 9 "BoredPipes$Move" "rank" "I", .fieldLink RX0 15 "BoredPipes$Move" "hole" "I", .fieldLink RX0 18 "BoredPipes$Move" "what" "I", .fieldLink RX0 21 "BoredPipes$Move" "value" "I"] ++ wsX00)
def wsX1_init : List Cond := .code yX1_init cX1_init 1 none :: ([.methodLink RX1 3 objectInit, .instanceMethod objectInit, .code objectInit ⟨#[0xb1]⟩ 1 none, .arrayClass .int, .fieldLink RX1 9 "BoredPipes$Notes" "sets" "[I", .fieldLink RX1 15 "BoredPipes$Notes" "whiches" "[I", .fieldLink RX1 18 "BoredPipes$Notes" "wanted" "[I", .fieldLink RX1 21 "BoredPipes$Notes" "many" "I"] ++ wsX10)
def wsX5_put : List Cond := .code yX5_put cX5_put 3 none :: ([])
def wsX1_add : List Cond := .code yX1_add cX1_add 4 none :: ([.fieldLink RX1 9 "BoredPipes$Notes" "sets" "[I", .fieldLink RX1 21 "BoredPipes$Notes" "many" "I", .fieldLink RX1 15 "BoredPipes$Notes" "whiches" "[I", .fieldLink RX1 18 "BoredPipes$Notes" "wanted" "[I", .static yX5_put, .initialized RX5, .code yX5_put cX5_put 3 none] ++ wsX10)
def wsX2_init : List Cond := .code yX2_init cX2_init 1 none :: ([.methodLink RX2 3 objectInit, .instanceMethod objectInit, .code objectInit ⟨#[0xb1]⟩ 1 none, .arrayClass .int, .fieldLink RX2 9 "BoredPipes$Pipe" "lengths" "[I", .fieldLink RX2 15 "BoredPipes$Pipe" "bores" "[I", .fieldLink RX2 18 "BoredPipes$Pipe" "places" "[I", .fieldLink RX2 21 "BoredPipes$Pipe" "sizes" "[I", .fieldLink RX2 24 "BoredPipes$Pipe" "chimneys" "[I", .fieldLink RX2 27 "BoredPipes$Pipe" "pieces" "I", .fieldLink RX2 31 "BoredPipes$Pipe" "holes" "I", .fieldLink RX2 34 "BoredPipes$Pipe" "mouth" "I", .fieldLink RX2 37 "BoredPipes$Pipe" "farEnd" "I"] ++ wsX20)
def wsX2_empty : List Cond := .code yX2_empty cX2_empty 1 none :: ([.fieldLink RX2 27 "BoredPipes$Pipe" "pieces" "I", .fieldLink RX2 31 "BoredPipes$Pipe" "holes" "I", .fieldLink RX2 34 "BoredPipes$Pipe" "mouth" "I", .fieldLink RX2 37 "BoredPipes$Pipe" "farEnd" "I"] ++ wsX20)
def wsX2_addPiece : List Cond := .code yX2_addPiece cX2_addPiece 3 none :: ([.fieldLink RX2 9 "BoredPipes$Pipe" "lengths" "[I", .fieldLink RX2 27 "BoredPipes$Pipe" "pieces" "I", .fieldLink RX2 15 "BoredPipes$Pipe" "bores" "[I", .static yX5_put, .initialized RX5, .code yX5_put cX5_put 3 none] ++ wsX20)
def wsX2_addHole : List Cond := .code yX2_addHole cX2_addHole 4 none :: ([.fieldLink RX2 18 "BoredPipes$Pipe" "places" "[I", .fieldLink RX2 31 "BoredPipes$Pipe" "holes" "I", .fieldLink RX2 21 "BoredPipes$Pipe" "sizes" "[I", .fieldLink RX2 24 "BoredPipes$Pipe" "chimneys" "[I", .static yX5_put, .initialized RX5, .code yX5_put cX5_put 3 none] ++ wsX20)
def wsX2_rowOf : List Cond := .code yX2_rowOf cX2_rowOf 2 (some (.array .int)) :: ([.fieldLink RX2 18 "BoredPipes$Pipe" "places" "[I", .fieldLink RX2 21 "BoredPipes$Pipe" "sizes" "[I", .fieldLink RX2 24 "BoredPipes$Pipe" "chimneys" "[I"] ++ wsX20)
def wsX5_at : List Cond := .code yX5_at cX5_at 2 (some .int) :: ([])
def wsX2_ofHole : List Cond := .code yX2_ofHole cX2_ofHole 3 (some .int) :: ([.methodLink RX2 44 yX2_rowOf, .instanceMethod yX2_rowOf, .selects RX2 yX2_rowOf yX2_rowOf, .initialized RX2, .code yX2_rowOf cX2_rowOf 2 (some (.array .int)), .fieldLink RX2 18 "BoredPipes$Pipe" "places" "[I", .fieldLink RX2 21 "BoredPipes$Pipe" "sizes" "[I", .fieldLink RX2 24 "BoredPipes$Pipe" "chimneys" "[I", .static yX5_at, .initialized RX5, .code yX5_at cX5_at 2 (some .int)] ++ wsX20)
def wsX2_changeHole : List Cond := .code yX2_changeHole cX2_changeHole 4 none :: ([.methodLink RX2 44 yX2_rowOf, .instanceMethod yX2_rowOf, .selects RX2 yX2_rowOf yX2_rowOf, .initialized RX2, .code yX2_rowOf cX2_rowOf 2 (some (.array .int)), .fieldLink RX2 18 "BoredPipes$Pipe" "places" "[I", .fieldLink RX2 21 "BoredPipes$Pipe" "sizes" "[I", .fieldLink RX2 24 "BoredPipes$Pipe" "chimneys" "[I", .static yX5_put, .initialized RX5, .code yX5_put cX5_put 3 none] ++ wsX20)
def wsX2_startOf : List Cond := .code yX2_startOf cX2_startOf 4 (some .int) :: ([.fieldLink RX2 9 "BoredPipes$Pipe" "lengths" "[I", .static yX5_at, .initialized RX5, .code yX5_at cX5_at 2 (some .int)] ++ wsX20)
def wsX2_wholeLength : List Cond := .code yX2_wholeLength cX2_wholeLength 1 (some .int) :: ([.fieldLink RX2 27 "BoredPipes$Pipe" "pieces" "I", .methodLink RX2 52 yX2_startOf, .instanceMethod yX2_startOf, .selects RX2 yX2_startOf yX2_startOf, .initialized RX2, .code yX2_startOf cX2_startOf 4 (some .int), .fieldLink RX2 9 "BoredPipes$Pipe" "lengths" "[I", .static yX5_at, .initialized RX5, .code yX5_at cX5_at 2 (some .int)] ++ wsX20)
def wsX2_pieceAt : List Cond := .code yX2_pieceAt cX2_pieceAt 4 (some .int) :: ([.fieldLink RX2 27 "BoredPipes$Pipe" "pieces" "I", .fieldLink RX2 9 "BoredPipes$Pipe" "lengths" "[I", .static yX5_at, .initialized RX5, .code yX5_at cX5_at 2 (some .int)] ++ wsX20)
def wsX2_holeAt : List Cond := .code yX2_holeAt cX2_holeAt 3 (some .int) :: ([.fieldLink RX2 31 "BoredPipes$Pipe" "holes" "I", .fieldLink RX2 18 "BoredPipes$Pipe" "places" "[I", .static yX5_at, .initialized RX5, .code yX5_at cX5_at 2 (some .int)] ++ wsX20)
def wsX2_holesBefore : List Cond := .code yX2_holesBefore cX2_holesBefore 4 (some .int) :: ([.fieldLink RX2 31 "BoredPipes$Pipe" "holes" "I", .fieldLink RX2 18 "BoredPipes$Pipe" "places" "[I", .static yX5_at, .initialized RX5, .code yX5_at cX5_at 2 (some .int)] ++ wsX20)
def wsX2_lastHoleBefore : List Cond := .code yX2_lastHoleBefore cX2_lastHoleBefore 4 (some .int) :: ([.fieldLink RX2 31 "BoredPipes$Pipe" "holes" "I", .fieldLink RX2 18 "BoredPipes$Pipe" "places" "[I", .methodLink RX2 56 Lib.Math.max.name, .static Lib.Math.max.name, .initialized "java/lang/Math", .code Lib.Math.max.name Lib.Math.max.code 2 (some .int), .static yX5_at, .initialized RX5, .code yX5_at cX5_at 2 (some .int)] ++ wsX20)
def wsX2_gap : List Cond := .code yX2_gap cX2_gap 6 (some .int) :: ([.fieldLink RX2 31 "BoredPipes$Pipe" "holes" "I", .fieldLink RX2 18 "BoredPipes$Pipe" "places" "[I", .static yX5_at, .initialized RX5, .code yX5_at cX5_at 2 (some .int)] ++ wsX20)
def wsX5_copyRow : List Cond := .code yX5_copyRow cX5_copyRow 3 none :: ([.methodLink RX5 101 yX5_at, .static yX5_at, .initialized RX5, .code yX5_at cX5_at 2 (some .int), .methodLink RX5 255 yX5_put, .static yX5_put, .code yX5_put cX5_put 3 none])
def wsX2_copy : List Cond := .code yX2_copy cX2_copy 2 none :: ([.fieldLink RX2 9 "BoredPipes$Pipe" "lengths" "[I", .fieldLink RX2 15 "BoredPipes$Pipe" "bores" "[I", .fieldLink RX2 18 "BoredPipes$Pipe" "places" "[I", .fieldLink RX2 21 "BoredPipes$Pipe" "sizes" "[I", .fieldLink RX2 24 "BoredPipes$Pipe" "chimneys" "[I", .fieldLink RX2 27 "BoredPipes$Pipe" "pieces" "I", .fieldLink RX2 31 "BoredPipes$Pipe" "holes" "I", .fieldLink RX2 34 "BoredPipes$Pipe" "mouth" "I", .fieldLink RX2 37 "BoredPipes$Pipe" "farEnd" "I", .static yX5_copyRow, .initialized RX5, .code yX5_copyRow cX5_copyRow 3 none, .methodLink RX5 101 yX5_at, .static yX5_at, .code yX5_at cX5_at 2 (some .int), .methodLink RX5 255 yX5_put, .static yX5_put, .code yX5_put cX5_put 3 none] ++ wsX20)
def wsX5_rowDifferences : List Cond := .code yX5_rowDifferences cX5_rowDifferences 7 (some .int) :: ([.methodLink RX5 259 Lib.Math.min.name, .static Lib.Math.min.name, .initialized "java/lang/Math", .code Lib.Math.min.name Lib.Math.min.code 2 (some .int), .methodLink RX5 233 Lib.Math.max.name, .static Lib.Math.max.name, .code Lib.Math.max.name Lib.Math.max.code 2 (some .int), .methodLink RX5 101 yX5_at, .static yX5_at, .initialized RX5, .code yX5_at cX5_at 2 (some .int)])
def wsX2_differences : List Cond := .code yX2_differences cX2_differences 2 (some .int) :: ([.fieldLink RX2 9 "BoredPipes$Pipe" "lengths" "[I", .fieldLink RX2 27 "BoredPipes$Pipe" "pieces" "I", .fieldLink RX2 15 "BoredPipes$Pipe" "bores" "[I", .fieldLink RX2 18 "BoredPipes$Pipe" "places" "[I", .fieldLink RX2 31 "BoredPipes$Pipe" "holes" "I", .fieldLink RX2 21 "BoredPipes$Pipe" "sizes" "[I", .fieldLink RX2 24 "BoredPipes$Pipe" "chimneys" "[I", .fieldLink RX2 34 "BoredPipes$Pipe" "mouth" "I", .fieldLink RX2 37 "BoredPipes$Pipe" "farEnd" "I", .static yX5_rowDifferences, .initialized RX5, .code yX5_rowDifferences cX5_rowDifferences 7 (some .int), .methodLink RX5 259 Lib.Math.min.name, .static Lib.Math.min.name, .initialized "java/lang/Math", .code Lib.Math.min.name Lib.Math.min.code 2 (some .int), .methodLink RX5 233 Lib.Math.max.name, .static Lib.Math.max.name, .code Lib.Math.max.name Lib.Math.max.code 2 (some .int), .methodLink RX5 101 yX5_at, .static yX5_at, .code yX5_at cX5_at 2 (some .int)] ++ wsX20)
def wsX3_init : List Cond := .code yX3_init cX3_init 1 none :: ([.methodLink RX3 1 objectInit, .instanceMethod objectInit, .code objectInit ⟨#[0xb1]⟩ 1 none, .classLink RX3 7 RX2, .instantiable RX2 9, .initialized RX2, .fieldLink RX3 10 "BoredPipes$Shelf" "kept" "LBoredPipes$Pipe;", .fieldLink RX3 16 "BoredPipes$Shelf" "used" "Z", .instanceMethod yX2_init, .code yX2_init cX2_init 1 none, .methodLink RX2 3 objectInit, .arrayClass .int, .fieldLink RX2 9 "BoredPipes$Pipe" "lengths" "[I", .fieldLink RX2 15 "BoredPipes$Pipe" "bores" "[I", .fieldLink RX2 18 "BoredPipes$Pipe" "places" "[I", .fieldLink RX2 21 "BoredPipes$Pipe" "sizes" "[I", .fieldLink RX2 24 "BoredPipes$Pipe" "chimneys" "[I", .fieldLink RX2 27 "BoredPipes$Pipe" "pieces" "I", .fieldLink RX2 31 "BoredPipes$Pipe" "holes" "I", .fieldLink RX2 34 "BoredPipes$Pipe" "mouth" "I", .fieldLink RX2 37 "BoredPipes$Pipe" "farEnd" "I"] ++ wsX20 ++ wsX30)
def wsX4_init : List Cond := .code yX4_init cX4_init 1 none :: ([.methodLink RX4 3 objectInit, .instanceMethod objectInit, .code objectInit ⟨#[0xb1]⟩ 1 none, .arrayClass .int, .fieldLink RX4 11 "BoredPipes$Stretches" "lengths" "[I", .fieldLink RX4 15 "BoredPipes$Stretches" "bores" "[I", .fieldLink RX4 18 "BoredPipes$Stretches" "holes" "[I", .fieldLink RX4 21 "BoredPipes$Stretches" "sizes" "[I", .fieldLink RX4 24 "BoredPipes$Stretches" "chimneys" "[I", .fieldLink RX4 27 "BoredPipes$Stretches" "many" "I", .fieldLink RX4 31 "BoredPipes$Stretches" "shut" "Z", .fieldLink RX4 35 "BoredPipes$Stretches" "reed" "Z"] ++ wsX40)
def wsX4_cutUp_r1 : List Cond := [Cond.fieldLink RX4 27 "BoredPipes$Stretches" "many" "I", Cond.fieldLink RX4 38 "BoredPipes$Pipe" "farEnd" "I", Cond.fieldLink RX4 31 "BoredPipes$Stretches" "shut" "Z", Cond.fieldLink RX4 43 "BoredPipes$Pipe" "mouth" "I", Cond.fieldLink RX4 35 "BoredPipes$Stretches" "reed" "Z", Cond.methodLink RX4 60 Lib.Math.max.name, Cond.static Lib.Math.max.name, Cond.initialized "java/lang/Math", Cond.code Lib.Math.max.name Lib.Math.max.code 2 (some .int), Cond.fieldLink RX4 11 "BoredPipes$Stretches" "lengths" "[I", Cond.fieldLink RX4 15 "BoredPipes$Stretches" "bores" "[I", Cond.fieldLink RX4 73 "BoredPipes$Pipe" "bores" "[I", Cond.fieldLink RX4 18 "BoredPipes$Stretches" "holes" "[I", Cond.fieldLink RX4 21 "BoredPipes$Stretches" "sizes" "[I", Cond.fieldLink RX4 78 "BoredPipes$Pipe" "sizes" "[I", Cond.fieldLink RX4 24 "BoredPipes$Stretches" "chimneys" "[I", Cond.fieldLink RX4 79 "BoredPipes$Pipe" "chimneys" "[I", Cond.methodLink RX4 46 yX2_wholeLength, Cond.instanceMethod yX2_wholeLength, Cond.selects RX2 yX2_wholeLength yX2_wholeLength, Cond.initialized RX2, Cond.code yX2_wholeLength cX2_wholeLength 1 (some .int), Cond.fieldLink RX2 27 "BoredPipes$Pipe" "pieces" "I", Cond.methodLink RX2 52 yX2_startOf]
def wsX4_cutUp_r2 : List Cond := [Cond.instanceMethod yX2_startOf, Cond.selects RX2 yX2_startOf yX2_startOf, Cond.code yX2_startOf cX2_startOf 4 (some .int), Cond.fieldLink RX2 9 "BoredPipes$Pipe" "lengths" "[I", Cond.static yX5_at, Cond.initialized RX5, Cond.code yX5_at cX5_at 2 (some .int), Cond.methodLink RX4 50 yX2_pieceAt, Cond.instanceMethod yX2_pieceAt, Cond.selects RX2 yX2_pieceAt yX2_pieceAt, Cond.code yX2_pieceAt cX2_pieceAt 4 (some .int), Cond.methodLink RX4 54 yX2_startOf, Cond.methodLink RX4 57 yX2_lastHoleBefore, Cond.instanceMethod yX2_lastHoleBefore, Cond.selects RX2 yX2_lastHoleBefore yX2_lastHoleBefore, Cond.code yX2_lastHoleBefore cX2_lastHoleBefore 4 (some .int), Cond.fieldLink RX2 31 "BoredPipes$Pipe" "holes" "I", Cond.fieldLink RX2 18 "BoredPipes$Pipe" "places" "[I", Cond.methodLink RX2 56 Lib.Math.max.name, Cond.methodLink RX4 66 yX2_holeAt, Cond.instanceMethod yX2_holeAt, Cond.selects RX2 yX2_holeAt yX2_holeAt, Cond.code yX2_holeAt cX2_holeAt 3 (some .int), Cond.static yX5_put]
def wsX4_cutUp_r3 : List Cond := [Cond.code yX5_put cX5_put 3 none]
def wsX4_cutUp : List Cond := .code yX4_cutUp cX4_cutUp 7 none :: ((wsX4_cutUp_r1 ++ (wsX4_cutUp_r2 ++ wsX4_cutUp_r3)) ++ wsX40 ++ wsX20)
def wsX5_quotient : List Cond := .code yX5_quotient cX5_quotient 4 (some .long) :: ([])
def wsX5_sineOf : List Cond := .code yX5_sineOf cX5_sineOf 7 (some .long) :: ([.constantLong RX5 248 (32768), .constantLong RX5 250 (131068), .constantLong RX5 252 (1342177280), .constant RX5 254 (32768), .methodLink RX5 79 yX5_quotient, .static yX5_quotient, .initialized RX5, .code yX5_quotient cX5_quotient 4 (some .long)])
def wsX4_isTooBig : List Cond := .code yX4_isTooBig cX4_isTooBig 2 (some .boolean) :: ([.constantLong RX4 107 (1099511627776), .constantLong RX4 109 (-1099511627776)])
def wsX4_shiftFor : List Cond := .code yX4_shiftFor cX4_shiftFor 5 (some .int) :: ([.methodLink RX4 103 yX4_isTooBig, .static yX4_isTooBig, .initialized RX4, .code yX4_isTooBig cX4_isTooBig 2 (some .boolean), .constantLong RX4 107 (1099511627776), .constantLong RX4 109 (-1099511627776)])
def wsX4_isOpen : List Cond := .code yX4_isOpen cX4_isOpen 4 (some .boolean) :: ([.fieldLink RX4 18 "BoredPipes$Stretches" "holes" "[I", .static yX5_at, .initialized RX5, .code yX5_at cX5_at 2 (some .int)] ++ wsX40)
def wsX4_worthOf_r1 : List Cond := [Cond.fieldLink RX4 31 "BoredPipes$Stretches" "shut" "Z", Cond.constantLong RX4 80 (1048576), Cond.fieldLink RX4 27 "BoredPipes$Stretches" "many" "I", Cond.fieldLink RX4 11 "BoredPipes$Stretches" "lengths" "[I", Cond.constant RX4 82 (65535), Cond.fieldLink RX4 15 "BoredPipes$Stretches" "bores" "[I", Cond.constantLong RX4 87 (10000), Cond.fieldLink RX4 21 "BoredPipes$Stretches" "sizes" "[I", Cond.constantLong RX4 101 (25), Cond.fieldLink RX4 24 "BoredPipes$Stretches" "chimneys" "[I", Cond.fieldLink RX4 35 "BoredPipes$Stretches" "reed" "Z", Cond.static yX5_at, Cond.initialized RX5, Cond.code yX5_at cX5_at 2 (some .int), Cond.static yX5_sineOf, Cond.code yX5_sineOf cX5_sineOf 7 (some .long), Cond.constantLong RX5 248 (32768), Cond.constantLong RX5 250 (131068), Cond.constantLong RX5 252 (1342177280), Cond.constant RX5 254 (32768), Cond.methodLink RX5 79 yX5_quotient, Cond.static yX5_quotient, Cond.code yX5_quotient cX5_quotient 4 (some .long), Cond.methodLink RX4 93 yX4_shiftFor]
def wsX4_worthOf_r2 : List Cond := [Cond.static yX4_shiftFor, Cond.initialized RX4, Cond.code yX4_shiftFor cX4_shiftFor 5 (some .int), Cond.methodLink RX4 103 yX4_isTooBig, Cond.static yX4_isTooBig, Cond.code yX4_isTooBig cX4_isTooBig 2 (some .boolean), Cond.constantLong RX4 107 (1099511627776), Cond.constantLong RX4 109 (-1099511627776), Cond.methodLink RX4 97 yX4_isOpen, Cond.instanceMethod yX4_isOpen, Cond.selects RX4 yX4_isOpen yX4_isOpen, Cond.code yX4_isOpen cX4_isOpen 4 (some .boolean), Cond.fieldLink RX4 18 "BoredPipes$Stretches" "holes" "[I"]
def wsX4_worthOf : List Cond := .code yX4_worthOf cX4_worthOf 22 (some .long) :: ((wsX4_worthOf_r1 ++ wsX4_worthOf_r2) ++ wsX40)
def wsX4_findTone_r1 : List Cond := [Cond.methodLink RX4 111 yX4_worthOf, Cond.instanceMethod yX4_worthOf, Cond.selects RX4 yX4_worthOf yX4_worthOf, Cond.initialized RX4, Cond.code yX4_worthOf cX4_worthOf 22 (some .long), Cond.fieldLink RX4 31 "BoredPipes$Stretches" "shut" "Z", Cond.constantLong RX4 80 (1048576), Cond.fieldLink RX4 27 "BoredPipes$Stretches" "many" "I", Cond.fieldLink RX4 11 "BoredPipes$Stretches" "lengths" "[I", Cond.constant RX4 82 (65535), Cond.fieldLink RX4 15 "BoredPipes$Stretches" "bores" "[I", Cond.constantLong RX4 87 (10000), Cond.fieldLink RX4 21 "BoredPipes$Stretches" "sizes" "[I", Cond.constantLong RX4 101 (25), Cond.fieldLink RX4 24 "BoredPipes$Stretches" "chimneys" "[I", Cond.fieldLink RX4 35 "BoredPipes$Stretches" "reed" "Z", Cond.static yX5_at, Cond.initialized RX5, Cond.code yX5_at cX5_at 2 (some .int), Cond.static yX5_sineOf, Cond.code yX5_sineOf cX5_sineOf 7 (some .long), Cond.constantLong RX5 248 (32768), Cond.constantLong RX5 250 (131068), Cond.constantLong RX5 252 (1342177280)]
def wsX4_findTone_r2 : List Cond := [Cond.constant RX5 254 (32768), Cond.methodLink RX5 79 yX5_quotient, Cond.static yX5_quotient, Cond.code yX5_quotient cX5_quotient 4 (some .long), Cond.methodLink RX4 93 yX4_shiftFor, Cond.static yX4_shiftFor, Cond.code yX4_shiftFor cX4_shiftFor 5 (some .int), Cond.methodLink RX4 103 yX4_isTooBig, Cond.static yX4_isTooBig, Cond.code yX4_isTooBig cX4_isTooBig 2 (some .boolean), Cond.constantLong RX4 107 (1099511627776), Cond.constantLong RX4 109 (-1099511627776), Cond.methodLink RX4 97 yX4_isOpen, Cond.instanceMethod yX4_isOpen, Cond.selects RX4 yX4_isOpen yX4_isOpen, Cond.code yX4_isOpen cX4_isOpen 4 (some .boolean), Cond.fieldLink RX4 18 "BoredPipes$Stretches" "holes" "[I"]
def wsX4_findTone : List Cond := .code yX4_findTone cX4_findTone 7 (some .int) :: ((wsX4_findTone_r1 ++ wsX4_findTone_r2) ++ wsX40)
def wsX5_init_r1 : List Cond := [Cond.methodLink RX5 3 objectInit, Cond.instanceMethod objectInit, Cond.code objectInit ⟨#[0xb1]⟩ 1 none, Cond.classLink RX5 9 RX2, Cond.instantiable RX2 9, Cond.initialized RX2, Cond.fieldLink RX5 12 "BoredPipes" "pipe" "LBoredPipes$Pipe;", Cond.classLink RX5 16 RX3, Cond.instantiable RX3 2, Cond.initialized RX3, Cond.fieldLink RX5 19 "BoredPipes" "firstShelf" "LBoredPipes$Shelf;", Cond.fieldLink RX5 23 "BoredPipes" "secondShelf" "LBoredPipes$Shelf;", Cond.classLink RX5 26 RX4, Cond.instantiable RX4 8, Cond.initialized RX4, Cond.fieldLink RX5 29 "BoredPipes" "stretches" "LBoredPipes$Stretches;", Cond.classLink RX5 33 RX1, Cond.instantiable RX1 4, Cond.initialized RX1, Cond.fieldLink RX5 36 "BoredPipes" "notes" "LBoredPipes$Notes;", Cond.classLink RX5 40 RX0, Cond.instantiable RX0 4, Cond.initialized RX0, Cond.fieldLink RX5 43 "BoredPipes" "best" "LBoredPipes$Move;"]
def wsX5_init_r2 : List Cond := [Cond.constantLong RX5 47 (2305843009213693950), Cond.fieldLink RX5 49 "BoredPipes" "drills" "J", Cond.fieldLink RX5 53 "BoredPipes" "reach" "I", Cond.fieldLink RX5 57 "BoredPipes" "rounds" "I", Cond.instanceMethod yX2_init, Cond.code yX2_init cX2_init 1 none, Cond.methodLink RX2 3 objectInit, Cond.arrayClass .int, Cond.fieldLink RX2 9 "BoredPipes$Pipe" "lengths" "[I", Cond.fieldLink RX2 15 "BoredPipes$Pipe" "bores" "[I", Cond.fieldLink RX2 18 "BoredPipes$Pipe" "places" "[I", Cond.fieldLink RX2 21 "BoredPipes$Pipe" "sizes" "[I", Cond.fieldLink RX2 24 "BoredPipes$Pipe" "chimneys" "[I", Cond.fieldLink RX2 27 "BoredPipes$Pipe" "pieces" "I", Cond.fieldLink RX2 31 "BoredPipes$Pipe" "holes" "I", Cond.fieldLink RX2 34 "BoredPipes$Pipe" "mouth" "I", Cond.fieldLink RX2 37 "BoredPipes$Pipe" "farEnd" "I", Cond.instanceMethod yX3_init, Cond.code yX3_init cX3_init 1 none, Cond.methodLink RX3 1 objectInit, Cond.classLink RX3 7 RX2, Cond.fieldLink RX3 10 "BoredPipes$Shelf" "kept" "LBoredPipes$Pipe;", Cond.fieldLink RX3 16 "BoredPipes$Shelf" "used" "Z", Cond.instanceMethod yX4_init]
def wsX5_init_r3 : List Cond := [Cond.code yX4_init cX4_init 1 none, Cond.methodLink RX4 3 objectInit, Cond.fieldLink RX4 11 "BoredPipes$Stretches" "lengths" "[I", Cond.fieldLink RX4 15 "BoredPipes$Stretches" "bores" "[I", Cond.fieldLink RX4 18 "BoredPipes$Stretches" "holes" "[I", Cond.fieldLink RX4 21 "BoredPipes$Stretches" "sizes" "[I", Cond.fieldLink RX4 24 "BoredPipes$Stretches" "chimneys" "[I", Cond.fieldLink RX4 27 "BoredPipes$Stretches" "many" "I", Cond.fieldLink RX4 31 "BoredPipes$Stretches" "shut" "Z", Cond.fieldLink RX4 35 "BoredPipes$Stretches" "reed" "Z", Cond.instanceMethod yX1_init, Cond.code yX1_init cX1_init 1 none, Cond.methodLink RX1 3 objectInit, Cond.fieldLink RX1 9 "BoredPipes$Notes" "sets" "[I", Cond.fieldLink RX1 15 "BoredPipes$Notes" "whiches" "[I", Cond.fieldLink RX1 18 "BoredPipes$Notes" "wanted" "[I", Cond.fieldLink RX1 21 "BoredPipes$Notes" "many" "I", Cond.instanceMethod yX0_init, Cond.code yX0_init cX0_init 1 none, Cond.methodLink RX0 3 objectInit, Cond.fieldLink RX0 9 "BoredPipes$Move" "rank" "I", Cond.fieldLink RX0 15 "BoredPipes$Move" "hole" "I", Cond.fieldLink RX0 18 "BoredPipes$Move" "what" "I", Cond.fieldLink RX0 21 "BoredPipes$Move" "value" "I"]
def wsX5_init : List Cond := .code yX5_init cX5_init 1 none :: ((wsX5_init_r1 ++ (wsX5_init_r2 ++ wsX5_init_r3)) ++ wsX20 ++ wsX50 ++ wsX30 ++ wsX40 ++ wsX10 ++ wsX00)
def wsX5_within : List Cond := .code yX5_within cX5_within 3 (some .boolean) :: ([])
def wsX5_isPiece : List Cond := .code yX5_isPiece cX5_isPiece 2 (some .boolean) :: ([.methodLink RX5 75 yX5_within, .static yX5_within, .initialized RX5, .code yX5_within cX5_within 3 (some .boolean)])
def wsX5_piece_r1 : List Cond := [Cond.fieldLink RX5 12 "BoredPipes" "pipe" "LBoredPipes$Pipe;", Cond.fieldLink RX5 64 "BoredPipes$Pipe" "pieces" "I", Cond.methodLink RX5 60 yX5_isPiece, Cond.static yX5_isPiece, Cond.initialized RX5, Cond.code yX5_isPiece cX5_isPiece 2 (some .boolean), Cond.methodLink RX5 75 yX5_within, Cond.static yX5_within, Cond.code yX5_within cX5_within 3 (some .boolean), Cond.methodLink RX5 67 yX2_addPiece, Cond.instanceMethod yX2_addPiece, Cond.selects RX2 yX2_addPiece yX2_addPiece, Cond.initialized RX2, Cond.code yX2_addPiece cX2_addPiece 3 none, Cond.fieldLink RX2 9 "BoredPipes$Pipe" "lengths" "[I", Cond.fieldLink RX2 27 "BoredPipes$Pipe" "pieces" "I", Cond.fieldLink RX2 15 "BoredPipes$Pipe" "bores" "[I", Cond.static yX5_put, Cond.code yX5_put cX5_put 3 none, Cond.methodLink RX5 71 yX2_wholeLength, Cond.instanceMethod yX2_wholeLength, Cond.selects RX2 yX2_wholeLength yX2_wholeLength, Cond.code yX2_wholeLength cX2_wholeLength 1 (some .int), Cond.methodLink RX2 52 yX2_startOf]
def wsX5_piece_r2 : List Cond := [Cond.instanceMethod yX2_startOf, Cond.selects RX2 yX2_startOf yX2_startOf, Cond.code yX2_startOf cX2_startOf 4 (some .int), Cond.static yX5_at, Cond.code yX5_at cX5_at 2 (some .int)]
def wsX5_piece : List Cond := .code yX5_piece cX5_piece 3 (some .int) :: ((wsX5_piece_r1 ++ wsX5_piece_r2) ++ wsX50 ++ wsX20)
def wsX5_cone_r1 : List Cond := [Cond.fieldLink RX5 12 "BoredPipes" "pipe" "LBoredPipes$Pipe;", Cond.fieldLink RX5 64 "BoredPipes$Pipe" "pieces" "I", Cond.methodLink RX5 60 yX5_isPiece, Cond.static yX5_isPiece, Cond.initialized RX5, Cond.code yX5_isPiece cX5_isPiece 2 (some .boolean), Cond.methodLink RX5 75 yX5_within, Cond.static yX5_within, Cond.code yX5_within cX5_within 3 (some .boolean), Cond.methodLink RX5 79 yX5_quotient, Cond.static yX5_quotient, Cond.code yX5_quotient cX5_quotient 4 (some .long), Cond.methodLink RX5 67 yX2_addPiece, Cond.instanceMethod yX2_addPiece, Cond.selects RX2 yX2_addPiece yX2_addPiece, Cond.initialized RX2, Cond.code yX2_addPiece cX2_addPiece 3 none, Cond.fieldLink RX2 9 "BoredPipes$Pipe" "lengths" "[I", Cond.fieldLink RX2 27 "BoredPipes$Pipe" "pieces" "I", Cond.fieldLink RX2 15 "BoredPipes$Pipe" "bores" "[I", Cond.static yX5_put, Cond.code yX5_put cX5_put 3 none, Cond.methodLink RX5 71 yX2_wholeLength, Cond.instanceMethod yX2_wholeLength]
def wsX5_cone_r2 : List Cond := [Cond.selects RX2 yX2_wholeLength yX2_wholeLength, Cond.code yX2_wholeLength cX2_wholeLength 1 (some .int), Cond.methodLink RX2 52 yX2_startOf, Cond.instanceMethod yX2_startOf, Cond.selects RX2 yX2_startOf yX2_startOf, Cond.code yX2_startOf cX2_startOf 4 (some .int), Cond.static yX5_at, Cond.code yX5_at cX5_at 2 (some .int)]
def wsX5_cone : List Cond := .code yX5_cone cX5_cone 6 (some .int) :: ((wsX5_cone_r1 ++ wsX5_cone_r2) ++ wsX50 ++ wsX20)
def wsX5_mayBe : List Cond := .code yX5_mayBe cX5_mayBe 3 (some .boolean) :: ([.fieldLink RX5 12 "BoredPipes" "pipe" "LBoredPipes$Pipe;", .methodLink RX5 71 yX2_wholeLength, .instanceMethod yX2_wholeLength, .selects RX2 yX2_wholeLength yX2_wholeLength, .initialized RX2, .code yX2_wholeLength cX2_wholeLength 1 (some .int), .fieldLink RX2 27 "BoredPipes$Pipe" "pieces" "I", .methodLink RX2 52 yX2_startOf, .instanceMethod yX2_startOf, .selects RX2 yX2_startOf yX2_startOf, .code yX2_startOf cX2_startOf 4 (some .int), .fieldLink RX2 9 "BoredPipes$Pipe" "lengths" "[I", .static yX5_at, .initialized RX5, .code yX5_at cX5_at 2 (some .int), .methodLink RX5 75 yX5_within, .static yX5_within, .code yX5_within cX5_within 3 (some .boolean)] ++ wsX50 ++ wsX20)
def wsX5_hole_r1 : List Cond := [Cond.fieldLink RX5 12 "BoredPipes" "pipe" "LBoredPipes$Pipe;", Cond.fieldLink RX5 90 "BoredPipes$Pipe" "holes" "I", Cond.methodLink RX5 83 yX5_mayBe, Cond.instanceMethod yX5_mayBe, Cond.selects RX5 yX5_mayBe yX5_mayBe, Cond.initialized RX5, Cond.code yX5_mayBe cX5_mayBe 3 (some .boolean), Cond.methodLink RX5 71 yX2_wholeLength, Cond.instanceMethod yX2_wholeLength, Cond.selects RX2 yX2_wholeLength yX2_wholeLength, Cond.initialized RX2, Cond.code yX2_wholeLength cX2_wholeLength 1 (some .int), Cond.fieldLink RX2 27 "BoredPipes$Pipe" "pieces" "I", Cond.methodLink RX2 52 yX2_startOf, Cond.instanceMethod yX2_startOf, Cond.selects RX2 yX2_startOf yX2_startOf, Cond.code yX2_startOf cX2_startOf 4 (some .int), Cond.fieldLink RX2 9 "BoredPipes$Pipe" "lengths" "[I", Cond.static yX5_at, Cond.code yX5_at cX5_at 2 (some .int), Cond.methodLink RX5 75 yX5_within, Cond.static yX5_within, Cond.code yX5_within cX5_within 3 (some .boolean), Cond.methodLink RX5 86 yX2_holeAt]
def wsX5_hole_r2 : List Cond := [Cond.instanceMethod yX2_holeAt, Cond.selects RX2 yX2_holeAt yX2_holeAt, Cond.code yX2_holeAt cX2_holeAt 3 (some .int), Cond.fieldLink RX2 31 "BoredPipes$Pipe" "holes" "I", Cond.fieldLink RX2 18 "BoredPipes$Pipe" "places" "[I", Cond.methodLink RX5 93 yX2_addHole, Cond.instanceMethod yX2_addHole, Cond.selects RX2 yX2_addHole yX2_addHole, Cond.code yX2_addHole cX2_addHole 4 none, Cond.fieldLink RX2 21 "BoredPipes$Pipe" "sizes" "[I", Cond.fieldLink RX2 24 "BoredPipes$Pipe" "chimneys" "[I", Cond.static yX5_put, Cond.code yX5_put cX5_put 3 none]
def wsX5_hole : List Cond := .code yX5_hole cX5_hole 4 (some .int) :: ((wsX5_hole_r1 ++ wsX5_hole_r2) ++ wsX50 ++ wsX20)
def wsX5_set_r1 : List Cond := [Cond.fieldLink RX5 12 "BoredPipes" "pipe" "LBoredPipes$Pipe;", Cond.fieldLink RX5 90 "BoredPipes$Pipe" "holes" "I", Cond.fieldLink RX5 97 "BoredPipes$Pipe" "places" "[I", Cond.methodLink RX5 75 yX5_within, Cond.static yX5_within, Cond.initialized RX5, Cond.code yX5_within cX5_within 3 (some .boolean), Cond.methodLink RX5 83 yX5_mayBe, Cond.instanceMethod yX5_mayBe, Cond.selects RX5 yX5_mayBe yX5_mayBe, Cond.code yX5_mayBe cX5_mayBe 3 (some .boolean), Cond.methodLink RX5 71 yX2_wholeLength, Cond.instanceMethod yX2_wholeLength, Cond.selects RX2 yX2_wholeLength yX2_wholeLength, Cond.initialized RX2, Cond.code yX2_wholeLength cX2_wholeLength 1 (some .int), Cond.fieldLink RX2 27 "BoredPipes$Pipe" "pieces" "I", Cond.methodLink RX2 52 yX2_startOf, Cond.instanceMethod yX2_startOf, Cond.selects RX2 yX2_startOf yX2_startOf, Cond.code yX2_startOf cX2_startOf 4 (some .int), Cond.fieldLink RX2 9 "BoredPipes$Pipe" "lengths" "[I", Cond.static yX5_at, Cond.code yX5_at cX5_at 2 (some .int)]
def wsX5_set_r2 : List Cond := [Cond.methodLink RX5 101 yX5_at, Cond.methodLink RX5 86 yX2_holeAt, Cond.instanceMethod yX2_holeAt, Cond.selects RX2 yX2_holeAt yX2_holeAt, Cond.code yX2_holeAt cX2_holeAt 3 (some .int), Cond.fieldLink RX2 31 "BoredPipes$Pipe" "holes" "I", Cond.fieldLink RX2 18 "BoredPipes$Pipe" "places" "[I", Cond.methodLink RX5 105 yX2_ofHole, Cond.instanceMethod yX2_ofHole, Cond.selects RX2 yX2_ofHole yX2_ofHole, Cond.code yX2_ofHole cX2_ofHole 3 (some .int), Cond.methodLink RX2 44 yX2_rowOf, Cond.instanceMethod yX2_rowOf, Cond.selects RX2 yX2_rowOf yX2_rowOf, Cond.code yX2_rowOf cX2_rowOf 2 (some (.array .int)), Cond.fieldLink RX2 21 "BoredPipes$Pipe" "sizes" "[I", Cond.fieldLink RX2 24 "BoredPipes$Pipe" "chimneys" "[I", Cond.methodLink RX5 109 yX2_changeHole, Cond.instanceMethod yX2_changeHole, Cond.selects RX2 yX2_changeHole yX2_changeHole, Cond.code yX2_changeHole cX2_changeHole 4 none, Cond.static yX5_put, Cond.code yX5_put cX5_put 3 none]
def wsX5_set : List Cond := .code yX5_set cX5_set 5 (some .int) :: ((wsX5_set_r1 ++ wsX5_set_r2) ++ wsX50 ++ wsX20)
def wsX5_end : List Cond := .code yX5_end cX5_end 4 (some .int) :: ([.fieldLink RX5 12 "BoredPipes" "pipe" "LBoredPipes$Pipe;", .fieldLink RX5 112 "BoredPipes$Pipe" "mouth" "I", .fieldLink RX5 115 "BoredPipes$Pipe" "farEnd" "I", .methodLink RX5 75 yX5_within, .static yX5_within, .initialized RX5, .code yX5_within cX5_within 3 (some .boolean)] ++ wsX50 ++ wsX20)
def wsX5_clear : List Cond := .code yX5_clear cX5_clear 2 (some .int) :: ([.fieldLink RX5 12 "BoredPipes" "pipe" "LBoredPipes$Pipe;", .fieldLink RX5 64 "BoredPipes$Pipe" "pieces" "I", .fieldLink RX5 36 "BoredPipes" "notes" "LBoredPipes$Notes;", .fieldLink RX5 121 "BoredPipes$Notes" "many" "I", .fieldLink RX5 57 "BoredPipes" "rounds" "I", .methodLink RX5 118 yX2_empty, .instanceMethod yX2_empty, .selects RX2 yX2_empty yX2_empty, .initialized RX2, .code yX2_empty cX2_empty 1 none, .fieldLink RX2 27 "BoredPipes$Pipe" "pieces" "I", .fieldLink RX2 31 "BoredPipes$Pipe" "holes" "I", .fieldLink RX2 34 "BoredPipes$Pipe" "mouth" "I", .fieldLink RX2 37 "BoredPipes$Pipe" "farEnd" "I"] ++ wsX50 ++ wsX20 ++ wsX10)
def wsX5_told : List Cond := .code yX5_told cX5_told 3 (some .int) :: ([.fieldLink RX5 12 "BoredPipes" "pipe" "LBoredPipes$Pipe;", .fieldLink RX5 64 "BoredPipes$Pipe" "pieces" "I", .fieldLink RX5 124 "BoredPipes$Pipe" "lengths" "[I", .fieldLink RX5 127 "BoredPipes$Pipe" "bores" "[I", .methodLink RX5 75 yX5_within, .static yX5_within, .initialized RX5, .code yX5_within cX5_within 3 (some .boolean), .methodLink RX5 101 yX5_at, .static yX5_at, .code yX5_at cX5_at 2 (some .int)] ++ wsX50 ++ wsX20)
def wsX5_bored_r1 : List Cond := [Cond.fieldLink RX5 12 "BoredPipes" "pipe" "LBoredPipes$Pipe;", Cond.fieldLink RX5 90 "BoredPipes$Pipe" "holes" "I", Cond.fieldLink RX5 97 "BoredPipes$Pipe" "places" "[I", Cond.methodLink RX5 75 yX5_within, Cond.static yX5_within, Cond.initialized RX5, Cond.code yX5_within cX5_within 3 (some .boolean), Cond.methodLink RX5 101 yX5_at, Cond.static yX5_at, Cond.code yX5_at cX5_at 2 (some .int), Cond.methodLink RX5 130 yX2_pieceAt, Cond.instanceMethod yX2_pieceAt, Cond.selects RX2 yX2_pieceAt yX2_pieceAt, Cond.initialized RX2, Cond.code yX2_pieceAt cX2_pieceAt 4 (some .int), Cond.fieldLink RX2 27 "BoredPipes$Pipe" "pieces" "I", Cond.fieldLink RX2 9 "BoredPipes$Pipe" "lengths" "[I", Cond.methodLink RX5 133 yX2_holesBefore, Cond.instanceMethod yX2_holesBefore, Cond.selects RX2 yX2_holesBefore yX2_holesBefore, Cond.code yX2_holesBefore cX2_holesBefore 4 (some .int), Cond.fieldLink RX2 31 "BoredPipes$Pipe" "holes" "I", Cond.fieldLink RX2 18 "BoredPipes$Pipe" "places" "[I", Cond.methodLink RX5 105 yX2_ofHole]
def wsX5_bored_r2 : List Cond := [Cond.instanceMethod yX2_ofHole, Cond.selects RX2 yX2_ofHole yX2_ofHole, Cond.code yX2_ofHole cX2_ofHole 3 (some .int), Cond.methodLink RX2 44 yX2_rowOf, Cond.instanceMethod yX2_rowOf, Cond.selects RX2 yX2_rowOf yX2_rowOf, Cond.code yX2_rowOf cX2_rowOf 2 (some (.array .int)), Cond.fieldLink RX2 21 "BoredPipes$Pipe" "sizes" "[I", Cond.fieldLink RX2 24 "BoredPipes$Pipe" "chimneys" "[I"]
def wsX5_bored : List Cond := .code yX5_bored cX5_bored 3 (some .int) :: ((wsX5_bored_r1 ++ wsX5_bored_r2) ++ wsX50 ++ wsX20)
def wsJ13_bitCount_95d88 : List Cond := .code yJ13_bitCount_95d88 cJ13_bitCount_95d88 2 (some .int) :: ([.constantLong RJ13 314 (6148914691236517205), .constantLong RJ13 316 (3689348814741910323), .constantLong RJ13 318 (1085102592571150095)])
def wsX5_missOf : List Cond := .code yX5_missOf cX5_missOf 2 (some .int) :: ([.methodLink RX5 228 Lib.Math.abs.name, .static Lib.Math.abs.name, .initialized "java/lang/Math", .code Lib.Math.abs.name Lib.Math.abs.code 1 (some .int)])
def wsX5_rank_r1 : List Cond := [Cond.fieldLink RX5 29 "BoredPipes" "stretches" "LBoredPipes$Stretches;", Cond.fieldLink RX5 12 "BoredPipes" "pipe" "LBoredPipes$Pipe;", Cond.fieldLink RX5 36 "BoredPipes" "notes" "LBoredPipes$Notes;", Cond.fieldLink RX5 121 "BoredPipes$Notes" "many" "I", Cond.fieldLink RX5 174 "BoredPipes$Notes" "sets" "[I", Cond.fieldLink RX5 177 "BoredPipes$Notes" "whiches" "[I", Cond.fieldLink RX5 180 "BoredPipes$Notes" "wanted" "[I", Cond.methodLink RX5 233 Lib.Math.max.name, Cond.static Lib.Math.max.name, Cond.initialized "java/lang/Math", Cond.code Lib.Math.max.name Lib.Math.max.code 2 (some .int), Cond.methodLink RX5 157 yX4_cutUp, Cond.instanceMethod yX4_cutUp, Cond.selects RX4 yX4_cutUp yX4_cutUp, Cond.initialized RX4, Cond.code yX4_cutUp cX4_cutUp 7 none, Cond.fieldLink RX4 27 "BoredPipes$Stretches" "many" "I", Cond.fieldLink RX4 38 "BoredPipes$Pipe" "farEnd" "I", Cond.fieldLink RX4 31 "BoredPipes$Stretches" "shut" "Z", Cond.fieldLink RX4 43 "BoredPipes$Pipe" "mouth" "I", Cond.fieldLink RX4 35 "BoredPipes$Stretches" "reed" "Z", Cond.methodLink RX4 60 Lib.Math.max.name, Cond.fieldLink RX4 11 "BoredPipes$Stretches" "lengths" "[I", Cond.fieldLink RX4 15 "BoredPipes$Stretches" "bores" "[I"]
def wsX5_rank_r2 : List Cond := [Cond.fieldLink RX4 73 "BoredPipes$Pipe" "bores" "[I", Cond.fieldLink RX4 18 "BoredPipes$Stretches" "holes" "[I", Cond.fieldLink RX4 21 "BoredPipes$Stretches" "sizes" "[I", Cond.fieldLink RX4 78 "BoredPipes$Pipe" "sizes" "[I", Cond.fieldLink RX4 24 "BoredPipes$Stretches" "chimneys" "[I", Cond.fieldLink RX4 79 "BoredPipes$Pipe" "chimneys" "[I", Cond.methodLink RX4 46 yX2_wholeLength, Cond.instanceMethod yX2_wholeLength, Cond.selects RX2 yX2_wholeLength yX2_wholeLength, Cond.initialized RX2, Cond.code yX2_wholeLength cX2_wholeLength 1 (some .int), Cond.fieldLink RX2 27 "BoredPipes$Pipe" "pieces" "I", Cond.methodLink RX2 52 yX2_startOf, Cond.instanceMethod yX2_startOf, Cond.selects RX2 yX2_startOf yX2_startOf, Cond.code yX2_startOf cX2_startOf 4 (some .int), Cond.fieldLink RX2 9 "BoredPipes$Pipe" "lengths" "[I", Cond.static yX5_at, Cond.initialized RX5, Cond.code yX5_at cX5_at 2 (some .int), Cond.methodLink RX4 50 yX2_pieceAt, Cond.instanceMethod yX2_pieceAt, Cond.selects RX2 yX2_pieceAt yX2_pieceAt, Cond.code yX2_pieceAt cX2_pieceAt 4 (some .int)]
def wsX5_rank_r3 : List Cond := [Cond.methodLink RX4 54 yX2_startOf, Cond.methodLink RX4 57 yX2_lastHoleBefore, Cond.instanceMethod yX2_lastHoleBefore, Cond.selects RX2 yX2_lastHoleBefore yX2_lastHoleBefore, Cond.code yX2_lastHoleBefore cX2_lastHoleBefore 4 (some .int), Cond.fieldLink RX2 31 "BoredPipes$Pipe" "holes" "I", Cond.fieldLink RX2 18 "BoredPipes$Pipe" "places" "[I", Cond.methodLink RX2 56 Lib.Math.max.name, Cond.methodLink RX4 66 yX2_holeAt, Cond.instanceMethod yX2_holeAt, Cond.selects RX2 yX2_holeAt yX2_holeAt, Cond.code yX2_holeAt cX2_holeAt 3 (some .int), Cond.static yX5_put, Cond.code yX5_put cX5_put 3 none, Cond.methodLink RX5 101 yX5_at, Cond.methodLink RX5 165 yX4_findTone, Cond.instanceMethod yX4_findTone, Cond.selects RX4 yX4_findTone yX4_findTone, Cond.code yX4_findTone cX4_findTone 7 (some .int), Cond.methodLink RX4 111 yX4_worthOf, Cond.instanceMethod yX4_worthOf, Cond.selects RX4 yX4_worthOf yX4_worthOf, Cond.code yX4_worthOf cX4_worthOf 22 (some .long), Cond.constantLong RX4 80 (1048576)]
def wsX5_rank_r4 : List Cond := [Cond.constant RX4 82 (65535), Cond.constantLong RX4 87 (10000), Cond.constantLong RX4 101 (25), Cond.static yX5_sineOf, Cond.code yX5_sineOf cX5_sineOf 7 (some .long), Cond.constantLong RX5 248 (32768), Cond.constantLong RX5 250 (131068), Cond.constantLong RX5 252 (1342177280), Cond.constant RX5 254 (32768), Cond.methodLink RX5 79 yX5_quotient, Cond.static yX5_quotient, Cond.code yX5_quotient cX5_quotient 4 (some .long), Cond.methodLink RX4 93 yX4_shiftFor, Cond.static yX4_shiftFor, Cond.code yX4_shiftFor cX4_shiftFor 5 (some .int), Cond.methodLink RX4 103 yX4_isTooBig, Cond.static yX4_isTooBig, Cond.code yX4_isTooBig cX4_isTooBig 2 (some .boolean), Cond.constantLong RX4 107 (1099511627776), Cond.constantLong RX4 109 (-1099511627776), Cond.methodLink RX4 97 yX4_isOpen, Cond.instanceMethod yX4_isOpen, Cond.selects RX4 yX4_isOpen yX4_isOpen, Cond.code yX4_isOpen cX4_isOpen 4 (some .boolean)]
def wsX5_rank_r5 : List Cond := [Cond.methodLink RX5 168 yX5_missOf, Cond.static yX5_missOf, Cond.code yX5_missOf cX5_missOf 2 (some .int), Cond.methodLink RX5 228 Lib.Math.abs.name, Cond.static Lib.Math.abs.name, Cond.code Lib.Math.abs.name Lib.Math.abs.code 1 (some .int)]
def wsX5_rank : List Cond := .code yX5_rank cX5_rank 7 (some .int) :: ((wsX5_rank_r1 ++ (wsX5_rank_r2 ++ (wsX5_rank_r3 ++ (wsX5_rank_r4 ++ wsX5_rank_r5)))) ++ wsX50 ++ wsX10 ++ wsX40 ++ wsX20)
def wsX5_count_r1 : List Cond := [Cond.fieldLink RX5 12 "BoredPipes" "pipe" "LBoredPipes$Pipe;", Cond.fieldLink RX5 64 "BoredPipes$Pipe" "pieces" "I", Cond.fieldLink RX5 90 "BoredPipes$Pipe" "holes" "I", Cond.fieldLink RX5 36 "BoredPipes" "notes" "LBoredPipes$Notes;", Cond.fieldLink RX5 121 "BoredPipes$Notes" "many" "I", Cond.fieldLink RX5 112 "BoredPipes$Pipe" "mouth" "I", Cond.fieldLink RX5 115 "BoredPipes$Pipe" "farEnd" "I", Cond.fieldLink RX5 53 "BoredPipes" "reach" "I", Cond.fieldLink RX5 49 "BoredPipes" "drills" "J", Cond.constant RX5 144 (2147483647), Cond.fieldLink RX5 57 "BoredPipes" "rounds" "I", Cond.methodLink RX5 71 yX2_wholeLength, Cond.instanceMethod yX2_wholeLength, Cond.selects RX2 yX2_wholeLength yX2_wholeLength, Cond.initialized RX2, Cond.code yX2_wholeLength cX2_wholeLength 1 (some .int), Cond.fieldLink RX2 27 "BoredPipes$Pipe" "pieces" "I", Cond.methodLink RX2 52 yX2_startOf, Cond.instanceMethod yX2_startOf, Cond.selects RX2 yX2_startOf yX2_startOf, Cond.code yX2_startOf cX2_startOf 4 (some .int), Cond.fieldLink RX2 9 "BoredPipes$Pipe" "lengths" "[I", Cond.static yX5_at, Cond.initialized RX5]
def wsX5_count_r2 : List Cond := [Cond.code yX5_at cX5_at 2 (some .int), Cond.methodLink RX5 136 yJ13_bitCount_95d88, Cond.static yJ13_bitCount_95d88, Cond.initialized RJ13, Cond.code yJ13_bitCount_95d88 cJ13_bitCount_95d88 2 (some .int), Cond.constantLong RJ13 314 (6148914691236517205), Cond.constantLong RJ13 316 (3689348814741910323), Cond.constantLong RJ13 318 (1085102592571150095), Cond.methodLink RX5 145 yX5_rank, Cond.instanceMethod yX5_rank, Cond.selects RX5 yX5_rank yX5_rank, Cond.code yX5_rank cX5_rank 7 (some .int), Cond.fieldLink RX5 29 "BoredPipes" "stretches" "LBoredPipes$Stretches;", Cond.fieldLink RX5 174 "BoredPipes$Notes" "sets" "[I", Cond.fieldLink RX5 177 "BoredPipes$Notes" "whiches" "[I", Cond.fieldLink RX5 180 "BoredPipes$Notes" "wanted" "[I", Cond.methodLink RX5 233 Lib.Math.max.name, Cond.static Lib.Math.max.name, Cond.initialized "java/lang/Math", Cond.code Lib.Math.max.name Lib.Math.max.code 2 (some .int), Cond.methodLink RX5 157 yX4_cutUp, Cond.instanceMethod yX4_cutUp, Cond.selects RX4 yX4_cutUp yX4_cutUp, Cond.initialized RX4]
def wsX5_count_r3 : List Cond := [Cond.code yX4_cutUp cX4_cutUp 7 none, Cond.fieldLink RX4 27 "BoredPipes$Stretches" "many" "I", Cond.fieldLink RX4 38 "BoredPipes$Pipe" "farEnd" "I", Cond.fieldLink RX4 31 "BoredPipes$Stretches" "shut" "Z", Cond.fieldLink RX4 43 "BoredPipes$Pipe" "mouth" "I", Cond.fieldLink RX4 35 "BoredPipes$Stretches" "reed" "Z", Cond.methodLink RX4 60 Lib.Math.max.name, Cond.fieldLink RX4 11 "BoredPipes$Stretches" "lengths" "[I", Cond.fieldLink RX4 15 "BoredPipes$Stretches" "bores" "[I", Cond.fieldLink RX4 73 "BoredPipes$Pipe" "bores" "[I", Cond.fieldLink RX4 18 "BoredPipes$Stretches" "holes" "[I", Cond.fieldLink RX4 21 "BoredPipes$Stretches" "sizes" "[I", Cond.fieldLink RX4 78 "BoredPipes$Pipe" "sizes" "[I", Cond.fieldLink RX4 24 "BoredPipes$Stretches" "chimneys" "[I", Cond.fieldLink RX4 79 "BoredPipes$Pipe" "chimneys" "[I", Cond.methodLink RX4 46 yX2_wholeLength, Cond.methodLink RX4 50 yX2_pieceAt, Cond.instanceMethod yX2_pieceAt, Cond.selects RX2 yX2_pieceAt yX2_pieceAt, Cond.code yX2_pieceAt cX2_pieceAt 4 (some .int), Cond.methodLink RX4 54 yX2_startOf, Cond.methodLink RX4 57 yX2_lastHoleBefore, Cond.instanceMethod yX2_lastHoleBefore, Cond.selects RX2 yX2_lastHoleBefore yX2_lastHoleBefore]
def wsX5_count_r4 : List Cond := [Cond.code yX2_lastHoleBefore cX2_lastHoleBefore 4 (some .int), Cond.fieldLink RX2 31 "BoredPipes$Pipe" "holes" "I", Cond.fieldLink RX2 18 "BoredPipes$Pipe" "places" "[I", Cond.methodLink RX2 56 Lib.Math.max.name, Cond.methodLink RX4 66 yX2_holeAt, Cond.instanceMethod yX2_holeAt, Cond.selects RX2 yX2_holeAt yX2_holeAt, Cond.code yX2_holeAt cX2_holeAt 3 (some .int), Cond.static yX5_put, Cond.code yX5_put cX5_put 3 none, Cond.methodLink RX5 101 yX5_at, Cond.methodLink RX5 165 yX4_findTone, Cond.instanceMethod yX4_findTone, Cond.selects RX4 yX4_findTone yX4_findTone, Cond.code yX4_findTone cX4_findTone 7 (some .int), Cond.methodLink RX4 111 yX4_worthOf, Cond.instanceMethod yX4_worthOf, Cond.selects RX4 yX4_worthOf yX4_worthOf, Cond.code yX4_worthOf cX4_worthOf 22 (some .long), Cond.constantLong RX4 80 (1048576), Cond.constant RX4 82 (65535), Cond.constantLong RX4 87 (10000), Cond.constantLong RX4 101 (25), Cond.static yX5_sineOf]
def wsX5_count_r5 : List Cond := [Cond.code yX5_sineOf cX5_sineOf 7 (some .long), Cond.constantLong RX5 248 (32768), Cond.constantLong RX5 250 (131068), Cond.constantLong RX5 252 (1342177280), Cond.constant RX5 254 (32768), Cond.methodLink RX5 79 yX5_quotient, Cond.static yX5_quotient, Cond.code yX5_quotient cX5_quotient 4 (some .long), Cond.methodLink RX4 93 yX4_shiftFor, Cond.static yX4_shiftFor, Cond.code yX4_shiftFor cX4_shiftFor 5 (some .int), Cond.methodLink RX4 103 yX4_isTooBig, Cond.static yX4_isTooBig, Cond.code yX4_isTooBig cX4_isTooBig 2 (some .boolean), Cond.constantLong RX4 107 (1099511627776), Cond.constantLong RX4 109 (-1099511627776), Cond.methodLink RX4 97 yX4_isOpen, Cond.instanceMethod yX4_isOpen, Cond.selects RX4 yX4_isOpen yX4_isOpen, Cond.code yX4_isOpen cX4_isOpen 4 (some .boolean), Cond.methodLink RX5 168 yX5_missOf, Cond.static yX5_missOf, Cond.code yX5_missOf cX5_missOf 2 (some .int), Cond.methodLink RX5 228 Lib.Math.abs.name]
def wsX5_count_r6 : List Cond := [Cond.static Lib.Math.abs.name, Cond.code Lib.Math.abs.name Lib.Math.abs.code 1 (some .int)]
def wsX5_count : List Cond := .code yX5_count cX5_count 2 (some .int) :: ((wsX5_count_r1 ++ (wsX5_count_r2 ++ (wsX5_count_r3 ++ (wsX5_count_r4 ++ (wsX5_count_r5 ++ wsX5_count_r6))))) ++ wsX50 ++ wsX20 ++ wsX10 ++ wsX40)
def wsX5_sine : List Cond := .code yX5_sine cX5_sine 2 (some .int) :: ([.constant RX5 148 (65535), .methodLink RX5 75 yX5_within, .static yX5_within, .initialized RX5, .code yX5_within cX5_within 3 (some .boolean), .methodLink RX5 149 yX5_sineOf, .static yX5_sineOf, .code yX5_sineOf cX5_sineOf 7 (some .long), .constantLong RX5 248 (32768), .constantLong RX5 250 (131068), .constantLong RX5 252 (1342177280), .constant RX5 254 (32768), .methodLink RX5 79 yX5_quotient, .static yX5_quotient, .code yX5_quotient cX5_quotient 4 (some .long)])
def wsX5_worth_r1 : List Cond := [Cond.constantLong RX5 153 (-1002), Cond.fieldLink RX5 12 "BoredPipes" "pipe" "LBoredPipes$Pipe;", Cond.fieldLink RX5 64 "BoredPipes$Pipe" "pieces" "I", Cond.constantLong RX5 155 (-1003), Cond.fieldLink RX5 29 "BoredPipes" "stretches" "LBoredPipes$Stretches;", Cond.methodLink RX5 75 yX5_within, Cond.static yX5_within, Cond.initialized RX5, Cond.code yX5_within cX5_within 3 (some .boolean), Cond.methodLink RX5 157 yX4_cutUp, Cond.instanceMethod yX4_cutUp, Cond.selects RX4 yX4_cutUp yX4_cutUp, Cond.initialized RX4, Cond.code yX4_cutUp cX4_cutUp 7 none, Cond.fieldLink RX4 27 "BoredPipes$Stretches" "many" "I", Cond.fieldLink RX4 38 "BoredPipes$Pipe" "farEnd" "I", Cond.fieldLink RX4 31 "BoredPipes$Stretches" "shut" "Z", Cond.fieldLink RX4 43 "BoredPipes$Pipe" "mouth" "I", Cond.fieldLink RX4 35 "BoredPipes$Stretches" "reed" "Z", Cond.methodLink RX4 60 Lib.Math.max.name, Cond.static Lib.Math.max.name, Cond.initialized "java/lang/Math", Cond.code Lib.Math.max.name Lib.Math.max.code 2 (some .int), Cond.fieldLink RX4 11 "BoredPipes$Stretches" "lengths" "[I"]
def wsX5_worth_r2 : List Cond := [Cond.fieldLink RX4 15 "BoredPipes$Stretches" "bores" "[I", Cond.fieldLink RX4 73 "BoredPipes$Pipe" "bores" "[I", Cond.fieldLink RX4 18 "BoredPipes$Stretches" "holes" "[I", Cond.fieldLink RX4 21 "BoredPipes$Stretches" "sizes" "[I", Cond.fieldLink RX4 78 "BoredPipes$Pipe" "sizes" "[I", Cond.fieldLink RX4 24 "BoredPipes$Stretches" "chimneys" "[I", Cond.fieldLink RX4 79 "BoredPipes$Pipe" "chimneys" "[I", Cond.methodLink RX4 46 yX2_wholeLength, Cond.instanceMethod yX2_wholeLength, Cond.selects RX2 yX2_wholeLength yX2_wholeLength, Cond.initialized RX2, Cond.code yX2_wholeLength cX2_wholeLength 1 (some .int), Cond.fieldLink RX2 27 "BoredPipes$Pipe" "pieces" "I", Cond.methodLink RX2 52 yX2_startOf, Cond.instanceMethod yX2_startOf, Cond.selects RX2 yX2_startOf yX2_startOf, Cond.code yX2_startOf cX2_startOf 4 (some .int), Cond.fieldLink RX2 9 "BoredPipes$Pipe" "lengths" "[I", Cond.static yX5_at, Cond.code yX5_at cX5_at 2 (some .int), Cond.methodLink RX4 50 yX2_pieceAt, Cond.instanceMethod yX2_pieceAt, Cond.selects RX2 yX2_pieceAt yX2_pieceAt, Cond.code yX2_pieceAt cX2_pieceAt 4 (some .int)]
def wsX5_worth_r3 : List Cond := [Cond.methodLink RX4 54 yX2_startOf, Cond.methodLink RX4 57 yX2_lastHoleBefore, Cond.instanceMethod yX2_lastHoleBefore, Cond.selects RX2 yX2_lastHoleBefore yX2_lastHoleBefore, Cond.code yX2_lastHoleBefore cX2_lastHoleBefore 4 (some .int), Cond.fieldLink RX2 31 "BoredPipes$Pipe" "holes" "I", Cond.fieldLink RX2 18 "BoredPipes$Pipe" "places" "[I", Cond.methodLink RX2 56 Lib.Math.max.name, Cond.methodLink RX4 66 yX2_holeAt, Cond.instanceMethod yX2_holeAt, Cond.selects RX2 yX2_holeAt yX2_holeAt, Cond.code yX2_holeAt cX2_holeAt 3 (some .int), Cond.static yX5_put, Cond.code yX5_put cX5_put 3 none, Cond.methodLink RX5 161 yX4_worthOf, Cond.instanceMethod yX4_worthOf, Cond.selects RX4 yX4_worthOf yX4_worthOf, Cond.code yX4_worthOf cX4_worthOf 22 (some .long), Cond.constantLong RX4 80 (1048576), Cond.constant RX4 82 (65535), Cond.constantLong RX4 87 (10000), Cond.constantLong RX4 101 (25), Cond.static yX5_sineOf, Cond.code yX5_sineOf cX5_sineOf 7 (some .long)]
def wsX5_worth_r4 : List Cond := [Cond.constantLong RX5 248 (32768), Cond.constantLong RX5 250 (131068), Cond.constantLong RX5 252 (1342177280), Cond.constant RX5 254 (32768), Cond.methodLink RX5 79 yX5_quotient, Cond.static yX5_quotient, Cond.code yX5_quotient cX5_quotient 4 (some .long), Cond.methodLink RX4 93 yX4_shiftFor, Cond.static yX4_shiftFor, Cond.code yX4_shiftFor cX4_shiftFor 5 (some .int), Cond.methodLink RX4 103 yX4_isTooBig, Cond.static yX4_isTooBig, Cond.code yX4_isTooBig cX4_isTooBig 2 (some .boolean), Cond.constantLong RX4 107 (1099511627776), Cond.constantLong RX4 109 (-1099511627776), Cond.methodLink RX4 97 yX4_isOpen, Cond.instanceMethod yX4_isOpen, Cond.selects RX4 yX4_isOpen yX4_isOpen, Cond.code yX4_isOpen cX4_isOpen 4 (some .boolean)]
def wsX5_worth : List Cond := .code yX5_worth cX5_worth 3 (some .long) :: ((wsX5_worth_r1 ++ (wsX5_worth_r2 ++ (wsX5_worth_r3 ++ wsX5_worth_r4))) ++ wsX50 ++ wsX20 ++ wsX40)
def wsX5_tone_r1 : List Cond := [Cond.fieldLink RX5 12 "BoredPipes" "pipe" "LBoredPipes$Pipe;", Cond.fieldLink RX5 64 "BoredPipes$Pipe" "pieces" "I", Cond.fieldLink RX5 29 "BoredPipes" "stretches" "LBoredPipes$Stretches;", Cond.methodLink RX5 75 yX5_within, Cond.static yX5_within, Cond.initialized RX5, Cond.code yX5_within cX5_within 3 (some .boolean), Cond.methodLink RX5 157 yX4_cutUp, Cond.instanceMethod yX4_cutUp, Cond.selects RX4 yX4_cutUp yX4_cutUp, Cond.initialized RX4, Cond.code yX4_cutUp cX4_cutUp 7 none, Cond.fieldLink RX4 27 "BoredPipes$Stretches" "many" "I", Cond.fieldLink RX4 38 "BoredPipes$Pipe" "farEnd" "I", Cond.fieldLink RX4 31 "BoredPipes$Stretches" "shut" "Z", Cond.fieldLink RX4 43 "BoredPipes$Pipe" "mouth" "I", Cond.fieldLink RX4 35 "BoredPipes$Stretches" "reed" "Z", Cond.methodLink RX4 60 Lib.Math.max.name, Cond.static Lib.Math.max.name, Cond.initialized "java/lang/Math", Cond.code Lib.Math.max.name Lib.Math.max.code 2 (some .int), Cond.fieldLink RX4 11 "BoredPipes$Stretches" "lengths" "[I", Cond.fieldLink RX4 15 "BoredPipes$Stretches" "bores" "[I", Cond.fieldLink RX4 73 "BoredPipes$Pipe" "bores" "[I"]
def wsX5_tone_r2 : List Cond := [Cond.fieldLink RX4 18 "BoredPipes$Stretches" "holes" "[I", Cond.fieldLink RX4 21 "BoredPipes$Stretches" "sizes" "[I", Cond.fieldLink RX4 78 "BoredPipes$Pipe" "sizes" "[I", Cond.fieldLink RX4 24 "BoredPipes$Stretches" "chimneys" "[I", Cond.fieldLink RX4 79 "BoredPipes$Pipe" "chimneys" "[I", Cond.methodLink RX4 46 yX2_wholeLength, Cond.instanceMethod yX2_wholeLength, Cond.selects RX2 yX2_wholeLength yX2_wholeLength, Cond.initialized RX2, Cond.code yX2_wholeLength cX2_wholeLength 1 (some .int), Cond.fieldLink RX2 27 "BoredPipes$Pipe" "pieces" "I", Cond.methodLink RX2 52 yX2_startOf, Cond.instanceMethod yX2_startOf, Cond.selects RX2 yX2_startOf yX2_startOf, Cond.code yX2_startOf cX2_startOf 4 (some .int), Cond.fieldLink RX2 9 "BoredPipes$Pipe" "lengths" "[I", Cond.static yX5_at, Cond.code yX5_at cX5_at 2 (some .int), Cond.methodLink RX4 50 yX2_pieceAt, Cond.instanceMethod yX2_pieceAt, Cond.selects RX2 yX2_pieceAt yX2_pieceAt, Cond.code yX2_pieceAt cX2_pieceAt 4 (some .int), Cond.methodLink RX4 54 yX2_startOf, Cond.methodLink RX4 57 yX2_lastHoleBefore]
def wsX5_tone_r3 : List Cond := [Cond.instanceMethod yX2_lastHoleBefore, Cond.selects RX2 yX2_lastHoleBefore yX2_lastHoleBefore, Cond.code yX2_lastHoleBefore cX2_lastHoleBefore 4 (some .int), Cond.fieldLink RX2 31 "BoredPipes$Pipe" "holes" "I", Cond.fieldLink RX2 18 "BoredPipes$Pipe" "places" "[I", Cond.methodLink RX2 56 Lib.Math.max.name, Cond.methodLink RX4 66 yX2_holeAt, Cond.instanceMethod yX2_holeAt, Cond.selects RX2 yX2_holeAt yX2_holeAt, Cond.code yX2_holeAt cX2_holeAt 3 (some .int), Cond.static yX5_put, Cond.code yX5_put cX5_put 3 none, Cond.methodLink RX5 165 yX4_findTone, Cond.instanceMethod yX4_findTone, Cond.selects RX4 yX4_findTone yX4_findTone, Cond.code yX4_findTone cX4_findTone 7 (some .int), Cond.methodLink RX4 111 yX4_worthOf, Cond.instanceMethod yX4_worthOf, Cond.selects RX4 yX4_worthOf yX4_worthOf, Cond.code yX4_worthOf cX4_worthOf 22 (some .long), Cond.constantLong RX4 80 (1048576), Cond.constant RX4 82 (65535), Cond.constantLong RX4 87 (10000), Cond.constantLong RX4 101 (25)]
def wsX5_tone_r4 : List Cond := [Cond.static yX5_sineOf, Cond.code yX5_sineOf cX5_sineOf 7 (some .long), Cond.constantLong RX5 248 (32768), Cond.constantLong RX5 250 (131068), Cond.constantLong RX5 252 (1342177280), Cond.constant RX5 254 (32768), Cond.methodLink RX5 79 yX5_quotient, Cond.static yX5_quotient, Cond.code yX5_quotient cX5_quotient 4 (some .long), Cond.methodLink RX4 93 yX4_shiftFor, Cond.static yX4_shiftFor, Cond.code yX4_shiftFor cX4_shiftFor 5 (some .int), Cond.methodLink RX4 103 yX4_isTooBig, Cond.static yX4_isTooBig, Cond.code yX4_isTooBig cX4_isTooBig 2 (some .boolean), Cond.constantLong RX4 107 (1099511627776), Cond.constantLong RX4 109 (-1099511627776), Cond.methodLink RX4 97 yX4_isOpen, Cond.instanceMethod yX4_isOpen, Cond.selects RX4 yX4_isOpen yX4_isOpen, Cond.code yX4_isOpen cX4_isOpen 4 (some .boolean)]
def wsX5_tone : List Cond := .code yX5_tone cX5_tone 3 (some .int) :: ((wsX5_tone_r1 ++ (wsX5_tone_r2 ++ (wsX5_tone_r3 ++ wsX5_tone_r4))) ++ wsX50 ++ wsX20 ++ wsX40)
def wsX5_nearest_r1 : List Cond := [Cond.fieldLink RX5 12 "BoredPipes" "pipe" "LBoredPipes$Pipe;", Cond.fieldLink RX5 64 "BoredPipes$Pipe" "pieces" "I", Cond.fieldLink RX5 29 "BoredPipes" "stretches" "LBoredPipes$Stretches;", Cond.fieldLink RX5 90 "BoredPipes$Pipe" "holes" "I", Cond.methodLink RX5 75 yX5_within, Cond.static yX5_within, Cond.initialized RX5, Cond.code yX5_within cX5_within 3 (some .boolean), Cond.methodLink RX5 157 yX4_cutUp, Cond.instanceMethod yX4_cutUp, Cond.selects RX4 yX4_cutUp yX4_cutUp, Cond.initialized RX4, Cond.code yX4_cutUp cX4_cutUp 7 none, Cond.fieldLink RX4 27 "BoredPipes$Stretches" "many" "I", Cond.fieldLink RX4 38 "BoredPipes$Pipe" "farEnd" "I", Cond.fieldLink RX4 31 "BoredPipes$Stretches" "shut" "Z", Cond.fieldLink RX4 43 "BoredPipes$Pipe" "mouth" "I", Cond.fieldLink RX4 35 "BoredPipes$Stretches" "reed" "Z", Cond.methodLink RX4 60 Lib.Math.max.name, Cond.static Lib.Math.max.name, Cond.initialized "java/lang/Math", Cond.code Lib.Math.max.name Lib.Math.max.code 2 (some .int), Cond.fieldLink RX4 11 "BoredPipes$Stretches" "lengths" "[I", Cond.fieldLink RX4 15 "BoredPipes$Stretches" "bores" "[I"]
def wsX5_nearest_r2 : List Cond := [Cond.fieldLink RX4 73 "BoredPipes$Pipe" "bores" "[I", Cond.fieldLink RX4 18 "BoredPipes$Stretches" "holes" "[I", Cond.fieldLink RX4 21 "BoredPipes$Stretches" "sizes" "[I", Cond.fieldLink RX4 78 "BoredPipes$Pipe" "sizes" "[I", Cond.fieldLink RX4 24 "BoredPipes$Stretches" "chimneys" "[I", Cond.fieldLink RX4 79 "BoredPipes$Pipe" "chimneys" "[I", Cond.methodLink RX4 46 yX2_wholeLength, Cond.instanceMethod yX2_wholeLength, Cond.selects RX2 yX2_wholeLength yX2_wholeLength, Cond.initialized RX2, Cond.code yX2_wholeLength cX2_wholeLength 1 (some .int), Cond.fieldLink RX2 27 "BoredPipes$Pipe" "pieces" "I", Cond.methodLink RX2 52 yX2_startOf, Cond.instanceMethod yX2_startOf, Cond.selects RX2 yX2_startOf yX2_startOf, Cond.code yX2_startOf cX2_startOf 4 (some .int), Cond.fieldLink RX2 9 "BoredPipes$Pipe" "lengths" "[I", Cond.static yX5_at, Cond.code yX5_at cX5_at 2 (some .int), Cond.methodLink RX4 50 yX2_pieceAt, Cond.instanceMethod yX2_pieceAt, Cond.selects RX2 yX2_pieceAt yX2_pieceAt, Cond.code yX2_pieceAt cX2_pieceAt 4 (some .int), Cond.methodLink RX4 54 yX2_startOf]
def wsX5_nearest_r3 : List Cond := [Cond.methodLink RX4 57 yX2_lastHoleBefore, Cond.instanceMethod yX2_lastHoleBefore, Cond.selects RX2 yX2_lastHoleBefore yX2_lastHoleBefore, Cond.code yX2_lastHoleBefore cX2_lastHoleBefore 4 (some .int), Cond.fieldLink RX2 31 "BoredPipes$Pipe" "holes" "I", Cond.fieldLink RX2 18 "BoredPipes$Pipe" "places" "[I", Cond.methodLink RX2 56 Lib.Math.max.name, Cond.methodLink RX4 66 yX2_holeAt, Cond.instanceMethod yX2_holeAt, Cond.selects RX2 yX2_holeAt yX2_holeAt, Cond.code yX2_holeAt cX2_holeAt 3 (some .int), Cond.static yX5_put, Cond.code yX5_put cX5_put 3 none, Cond.methodLink RX5 165 yX4_findTone, Cond.instanceMethod yX4_findTone, Cond.selects RX4 yX4_findTone yX4_findTone, Cond.code yX4_findTone cX4_findTone 7 (some .int), Cond.methodLink RX4 111 yX4_worthOf, Cond.instanceMethod yX4_worthOf, Cond.selects RX4 yX4_worthOf yX4_worthOf, Cond.code yX4_worthOf cX4_worthOf 22 (some .long), Cond.constantLong RX4 80 (1048576), Cond.constant RX4 82 (65535), Cond.constantLong RX4 87 (10000)]
def wsX5_nearest_r4 : List Cond := [Cond.constantLong RX4 101 (25), Cond.static yX5_sineOf, Cond.code yX5_sineOf cX5_sineOf 7 (some .long), Cond.constantLong RX5 248 (32768), Cond.constantLong RX5 250 (131068), Cond.constantLong RX5 252 (1342177280), Cond.constant RX5 254 (32768), Cond.methodLink RX5 79 yX5_quotient, Cond.static yX5_quotient, Cond.code yX5_quotient cX5_quotient 4 (some .long), Cond.methodLink RX4 93 yX4_shiftFor, Cond.static yX4_shiftFor, Cond.code yX4_shiftFor cX4_shiftFor 5 (some .int), Cond.methodLink RX4 103 yX4_isTooBig, Cond.static yX4_isTooBig, Cond.code yX4_isTooBig cX4_isTooBig 2 (some .boolean), Cond.constantLong RX4 107 (1099511627776), Cond.constantLong RX4 109 (-1099511627776), Cond.methodLink RX4 97 yX4_isOpen, Cond.instanceMethod yX4_isOpen, Cond.selects RX4 yX4_isOpen yX4_isOpen, Cond.code yX4_isOpen cX4_isOpen 4 (some .boolean), Cond.methodLink RX5 168 yX5_missOf, Cond.static yX5_missOf]
def wsX5_nearest_r5 : List Cond := [Cond.code yX5_missOf cX5_missOf 2 (some .int), Cond.methodLink RX5 228 Lib.Math.abs.name, Cond.static Lib.Math.abs.name, Cond.code Lib.Math.abs.name Lib.Math.abs.code 1 (some .int)]
def wsX5_nearest : List Cond := .code yX5_nearest cX5_nearest 7 (some .int) :: ((wsX5_nearest_r1 ++ (wsX5_nearest_r2 ++ (wsX5_nearest_r3 ++ (wsX5_nearest_r4 ++ wsX5_nearest_r5)))) ++ wsX50 ++ wsX20 ++ wsX40)
def wsX5_note : List Cond := .code yX5_note cX5_note 4 (some .int) :: ([.fieldLink RX5 36 "BoredPipes" "notes" "LBoredPipes$Notes;", .fieldLink RX5 121 "BoredPipes$Notes" "many" "I", .methodLink RX5 75 yX5_within, .static yX5_within, .initialized RX5, .code yX5_within cX5_within 3 (some .boolean), .methodLink RX5 171 yX1_add, .instanceMethod yX1_add, .selects RX1 yX1_add yX1_add, .initialized RX1, .code yX1_add cX1_add 4 none, .fieldLink RX1 9 "BoredPipes$Notes" "sets" "[I", .fieldLink RX1 21 "BoredPipes$Notes" "many" "I", .fieldLink RX1 15 "BoredPipes$Notes" "whiches" "[I", .fieldLink RX1 18 "BoredPipes$Notes" "wanted" "[I", .static yX5_put, .code yX5_put cX5_put 3 none] ++ wsX50 ++ wsX10)
def wsX5_toneNow_r1 : List Cond := [Cond.fieldLink RX5 29 "BoredPipes" "stretches" "LBoredPipes$Stretches;", Cond.fieldLink RX5 12 "BoredPipes" "pipe" "LBoredPipes$Pipe;", Cond.fieldLink RX5 36 "BoredPipes" "notes" "LBoredPipes$Notes;", Cond.fieldLink RX5 174 "BoredPipes$Notes" "sets" "[I", Cond.fieldLink RX5 177 "BoredPipes$Notes" "whiches" "[I", Cond.methodLink RX5 157 yX4_cutUp, Cond.instanceMethod yX4_cutUp, Cond.selects RX4 yX4_cutUp yX4_cutUp, Cond.initialized RX4, Cond.code yX4_cutUp cX4_cutUp 7 none, Cond.fieldLink RX4 27 "BoredPipes$Stretches" "many" "I", Cond.fieldLink RX4 38 "BoredPipes$Pipe" "farEnd" "I", Cond.fieldLink RX4 31 "BoredPipes$Stretches" "shut" "Z", Cond.fieldLink RX4 43 "BoredPipes$Pipe" "mouth" "I", Cond.fieldLink RX4 35 "BoredPipes$Stretches" "reed" "Z", Cond.methodLink RX4 60 Lib.Math.max.name, Cond.static Lib.Math.max.name, Cond.initialized "java/lang/Math", Cond.code Lib.Math.max.name Lib.Math.max.code 2 (some .int), Cond.fieldLink RX4 11 "BoredPipes$Stretches" "lengths" "[I", Cond.fieldLink RX4 15 "BoredPipes$Stretches" "bores" "[I", Cond.fieldLink RX4 73 "BoredPipes$Pipe" "bores" "[I", Cond.fieldLink RX4 18 "BoredPipes$Stretches" "holes" "[I", Cond.fieldLink RX4 21 "BoredPipes$Stretches" "sizes" "[I"]
def wsX5_toneNow_r2 : List Cond := [Cond.fieldLink RX4 78 "BoredPipes$Pipe" "sizes" "[I", Cond.fieldLink RX4 24 "BoredPipes$Stretches" "chimneys" "[I", Cond.fieldLink RX4 79 "BoredPipes$Pipe" "chimneys" "[I", Cond.methodLink RX4 46 yX2_wholeLength, Cond.instanceMethod yX2_wholeLength, Cond.selects RX2 yX2_wholeLength yX2_wholeLength, Cond.initialized RX2, Cond.code yX2_wholeLength cX2_wholeLength 1 (some .int), Cond.fieldLink RX2 27 "BoredPipes$Pipe" "pieces" "I", Cond.methodLink RX2 52 yX2_startOf, Cond.instanceMethod yX2_startOf, Cond.selects RX2 yX2_startOf yX2_startOf, Cond.code yX2_startOf cX2_startOf 4 (some .int), Cond.fieldLink RX2 9 "BoredPipes$Pipe" "lengths" "[I", Cond.static yX5_at, Cond.initialized RX5, Cond.code yX5_at cX5_at 2 (some .int), Cond.methodLink RX4 50 yX2_pieceAt, Cond.instanceMethod yX2_pieceAt, Cond.selects RX2 yX2_pieceAt yX2_pieceAt, Cond.code yX2_pieceAt cX2_pieceAt 4 (some .int), Cond.methodLink RX4 54 yX2_startOf, Cond.methodLink RX4 57 yX2_lastHoleBefore, Cond.instanceMethod yX2_lastHoleBefore]
def wsX5_toneNow_r3 : List Cond := [Cond.selects RX2 yX2_lastHoleBefore yX2_lastHoleBefore, Cond.code yX2_lastHoleBefore cX2_lastHoleBefore 4 (some .int), Cond.fieldLink RX2 31 "BoredPipes$Pipe" "holes" "I", Cond.fieldLink RX2 18 "BoredPipes$Pipe" "places" "[I", Cond.methodLink RX2 56 Lib.Math.max.name, Cond.methodLink RX4 66 yX2_holeAt, Cond.instanceMethod yX2_holeAt, Cond.selects RX2 yX2_holeAt yX2_holeAt, Cond.code yX2_holeAt cX2_holeAt 3 (some .int), Cond.static yX5_put, Cond.code yX5_put cX5_put 3 none, Cond.methodLink RX5 101 yX5_at, Cond.methodLink RX5 165 yX4_findTone, Cond.instanceMethod yX4_findTone, Cond.selects RX4 yX4_findTone yX4_findTone, Cond.code yX4_findTone cX4_findTone 7 (some .int), Cond.methodLink RX4 111 yX4_worthOf, Cond.instanceMethod yX4_worthOf, Cond.selects RX4 yX4_worthOf yX4_worthOf, Cond.code yX4_worthOf cX4_worthOf 22 (some .long), Cond.constantLong RX4 80 (1048576), Cond.constant RX4 82 (65535), Cond.constantLong RX4 87 (10000), Cond.constantLong RX4 101 (25)]
def wsX5_toneNow_r4 : List Cond := [Cond.static yX5_sineOf, Cond.code yX5_sineOf cX5_sineOf 7 (some .long), Cond.constantLong RX5 248 (32768), Cond.constantLong RX5 250 (131068), Cond.constantLong RX5 252 (1342177280), Cond.constant RX5 254 (32768), Cond.methodLink RX5 79 yX5_quotient, Cond.static yX5_quotient, Cond.code yX5_quotient cX5_quotient 4 (some .long), Cond.methodLink RX4 93 yX4_shiftFor, Cond.static yX4_shiftFor, Cond.code yX4_shiftFor cX4_shiftFor 5 (some .int), Cond.methodLink RX4 103 yX4_isTooBig, Cond.static yX4_isTooBig, Cond.code yX4_isTooBig cX4_isTooBig 2 (some .boolean), Cond.constantLong RX4 107 (1099511627776), Cond.constantLong RX4 109 (-1099511627776), Cond.methodLink RX4 97 yX4_isOpen, Cond.instanceMethod yX4_isOpen, Cond.selects RX4 yX4_isOpen yX4_isOpen, Cond.code yX4_isOpen cX4_isOpen 4 (some .boolean)]
def wsX5_toneNow : List Cond := .code yX5_toneNow cX5_toneNow 2 (some .int) :: ((wsX5_toneNow_r1 ++ (wsX5_toneNow_r2 ++ (wsX5_toneNow_r3 ++ wsX5_toneNow_r4))) ++ wsX50 ++ wsX10 ++ wsX40 ++ wsX20)
def wsX5_noted_r1 : List Cond := [Cond.fieldLink RX5 36 "BoredPipes" "notes" "LBoredPipes$Notes;", Cond.fieldLink RX5 121 "BoredPipes$Notes" "many" "I", Cond.fieldLink RX5 174 "BoredPipes$Notes" "sets" "[I", Cond.fieldLink RX5 177 "BoredPipes$Notes" "whiches" "[I", Cond.fieldLink RX5 180 "BoredPipes$Notes" "wanted" "[I", Cond.methodLink RX5 75 yX5_within, Cond.static yX5_within, Cond.initialized RX5, Cond.code yX5_within cX5_within 3 (some .boolean), Cond.methodLink RX5 101 yX5_at, Cond.static yX5_at, Cond.code yX5_at cX5_at 2 (some .int), Cond.methodLink RX5 183 yX5_toneNow, Cond.instanceMethod yX5_toneNow, Cond.selects RX5 yX5_toneNow yX5_toneNow, Cond.code yX5_toneNow cX5_toneNow 2 (some .int), Cond.fieldLink RX5 29 "BoredPipes" "stretches" "LBoredPipes$Stretches;", Cond.fieldLink RX5 12 "BoredPipes" "pipe" "LBoredPipes$Pipe;", Cond.methodLink RX5 157 yX4_cutUp, Cond.instanceMethod yX4_cutUp, Cond.selects RX4 yX4_cutUp yX4_cutUp, Cond.initialized RX4, Cond.code yX4_cutUp cX4_cutUp 7 none, Cond.fieldLink RX4 27 "BoredPipes$Stretches" "many" "I"]
def wsX5_noted_r2 : List Cond := [Cond.fieldLink RX4 38 "BoredPipes$Pipe" "farEnd" "I", Cond.fieldLink RX4 31 "BoredPipes$Stretches" "shut" "Z", Cond.fieldLink RX4 43 "BoredPipes$Pipe" "mouth" "I", Cond.fieldLink RX4 35 "BoredPipes$Stretches" "reed" "Z", Cond.methodLink RX4 60 Lib.Math.max.name, Cond.static Lib.Math.max.name, Cond.initialized "java/lang/Math", Cond.code Lib.Math.max.name Lib.Math.max.code 2 (some .int), Cond.fieldLink RX4 11 "BoredPipes$Stretches" "lengths" "[I", Cond.fieldLink RX4 15 "BoredPipes$Stretches" "bores" "[I", Cond.fieldLink RX4 73 "BoredPipes$Pipe" "bores" "[I", Cond.fieldLink RX4 18 "BoredPipes$Stretches" "holes" "[I", Cond.fieldLink RX4 21 "BoredPipes$Stretches" "sizes" "[I", Cond.fieldLink RX4 78 "BoredPipes$Pipe" "sizes" "[I", Cond.fieldLink RX4 24 "BoredPipes$Stretches" "chimneys" "[I", Cond.fieldLink RX4 79 "BoredPipes$Pipe" "chimneys" "[I", Cond.methodLink RX4 46 yX2_wholeLength, Cond.instanceMethod yX2_wholeLength, Cond.selects RX2 yX2_wholeLength yX2_wholeLength, Cond.initialized RX2, Cond.code yX2_wholeLength cX2_wholeLength 1 (some .int), Cond.fieldLink RX2 27 "BoredPipes$Pipe" "pieces" "I", Cond.methodLink RX2 52 yX2_startOf, Cond.instanceMethod yX2_startOf]
def wsX5_noted_r3 : List Cond := [Cond.selects RX2 yX2_startOf yX2_startOf, Cond.code yX2_startOf cX2_startOf 4 (some .int), Cond.fieldLink RX2 9 "BoredPipes$Pipe" "lengths" "[I", Cond.methodLink RX4 50 yX2_pieceAt, Cond.instanceMethod yX2_pieceAt, Cond.selects RX2 yX2_pieceAt yX2_pieceAt, Cond.code yX2_pieceAt cX2_pieceAt 4 (some .int), Cond.methodLink RX4 54 yX2_startOf, Cond.methodLink RX4 57 yX2_lastHoleBefore, Cond.instanceMethod yX2_lastHoleBefore, Cond.selects RX2 yX2_lastHoleBefore yX2_lastHoleBefore, Cond.code yX2_lastHoleBefore cX2_lastHoleBefore 4 (some .int), Cond.fieldLink RX2 31 "BoredPipes$Pipe" "holes" "I", Cond.fieldLink RX2 18 "BoredPipes$Pipe" "places" "[I", Cond.methodLink RX2 56 Lib.Math.max.name, Cond.methodLink RX4 66 yX2_holeAt, Cond.instanceMethod yX2_holeAt, Cond.selects RX2 yX2_holeAt yX2_holeAt, Cond.code yX2_holeAt cX2_holeAt 3 (some .int), Cond.static yX5_put, Cond.code yX5_put cX5_put 3 none, Cond.methodLink RX5 165 yX4_findTone, Cond.instanceMethod yX4_findTone, Cond.selects RX4 yX4_findTone yX4_findTone]
def wsX5_noted_r4 : List Cond := [Cond.code yX4_findTone cX4_findTone 7 (some .int), Cond.methodLink RX4 111 yX4_worthOf, Cond.instanceMethod yX4_worthOf, Cond.selects RX4 yX4_worthOf yX4_worthOf, Cond.code yX4_worthOf cX4_worthOf 22 (some .long), Cond.constantLong RX4 80 (1048576), Cond.constant RX4 82 (65535), Cond.constantLong RX4 87 (10000), Cond.constantLong RX4 101 (25), Cond.static yX5_sineOf, Cond.code yX5_sineOf cX5_sineOf 7 (some .long), Cond.constantLong RX5 248 (32768), Cond.constantLong RX5 250 (131068), Cond.constantLong RX5 252 (1342177280), Cond.constant RX5 254 (32768), Cond.methodLink RX5 79 yX5_quotient, Cond.static yX5_quotient, Cond.code yX5_quotient cX5_quotient 4 (some .long), Cond.methodLink RX4 93 yX4_shiftFor, Cond.static yX4_shiftFor, Cond.code yX4_shiftFor cX4_shiftFor 5 (some .int), Cond.methodLink RX4 103 yX4_isTooBig, Cond.static yX4_isTooBig, Cond.code yX4_isTooBig cX4_isTooBig 2 (some .boolean)]
def wsX5_noted_r5 : List Cond := [Cond.constantLong RX4 107 (1099511627776), Cond.constantLong RX4 109 (-1099511627776), Cond.methodLink RX4 97 yX4_isOpen, Cond.instanceMethod yX4_isOpen, Cond.selects RX4 yX4_isOpen yX4_isOpen, Cond.code yX4_isOpen cX4_isOpen 4 (some .boolean), Cond.methodLink RX5 168 yX5_missOf, Cond.static yX5_missOf, Cond.code yX5_missOf cX5_missOf 2 (some .int), Cond.methodLink RX5 228 Lib.Math.abs.name, Cond.static Lib.Math.abs.name, Cond.code Lib.Math.abs.name Lib.Math.abs.code 1 (some .int)]
def wsX5_noted : List Cond := .code yX5_noted cX5_noted 3 (some .int) :: ((wsX5_noted_r1 ++ (wsX5_noted_r2 ++ (wsX5_noted_r3 ++ (wsX5_noted_r4 ++ wsX5_noted_r5)))) ++ wsX50 ++ wsX10 ++ wsX40 ++ wsX20)
def wsX5_drill : List Cond := .code yX5_drill cX5_drill 5 (some .int) :: ([.fieldLink RX5 49 "BoredPipes" "drills" "J", .constantLong RX5 186 (-1), .methodLink RX5 75 yX5_within, .static yX5_within, .initialized RX5, .code yX5_within cX5_within 3 (some .boolean), .methodLink RX5 136 yJ13_bitCount_95d88, .static yJ13_bitCount_95d88, .initialized RJ13, .code yJ13_bitCount_95d88 cJ13_bitCount_95d88 2 (some .int), .constantLong RJ13 314 (6148914691236517205), .constantLong RJ13 316 (3689348814741910323), .constantLong RJ13 318 (1085102592571150095)] ++ wsX50)
def wsX5_reach : List Cond := .code yX5_reach cX5_reach 3 (some .int) :: ([.fieldLink RX5 53 "BoredPipes" "reach" "I", .methodLink RX5 75 yX5_within, .static yX5_within, .initialized RX5, .code yX5_within cX5_within 3 (some .boolean)] ++ wsX50)
def wsX5_placeMoved_r1 : List Cond := [Cond.fieldLink RX5 12 "BoredPipes" "pipe" "LBoredPipes$Pipe;", Cond.fieldLink RX5 97 "BoredPipes$Pipe" "places" "[I", Cond.fieldLink RX5 53 "BoredPipes" "reach" "I", Cond.methodLink RX5 101 yX5_at, Cond.static yX5_at, Cond.initialized RX5, Cond.code yX5_at cX5_at 2 (some .int), Cond.methodLink RX5 83 yX5_mayBe, Cond.instanceMethod yX5_mayBe, Cond.selects RX5 yX5_mayBe yX5_mayBe, Cond.code yX5_mayBe cX5_mayBe 3 (some .boolean), Cond.methodLink RX5 71 yX2_wholeLength, Cond.instanceMethod yX2_wholeLength, Cond.selects RX2 yX2_wholeLength yX2_wholeLength, Cond.initialized RX2, Cond.code yX2_wholeLength cX2_wholeLength 1 (some .int), Cond.fieldLink RX2 27 "BoredPipes$Pipe" "pieces" "I", Cond.methodLink RX2 52 yX2_startOf, Cond.instanceMethod yX2_startOf, Cond.selects RX2 yX2_startOf yX2_startOf, Cond.code yX2_startOf cX2_startOf 4 (some .int), Cond.fieldLink RX2 9 "BoredPipes$Pipe" "lengths" "[I", Cond.methodLink RX5 75 yX5_within, Cond.static yX5_within]
def wsX5_placeMoved_r2 : List Cond := [Cond.code yX5_within cX5_within 3 (some .boolean), Cond.methodLink RX5 86 yX2_holeAt, Cond.instanceMethod yX2_holeAt, Cond.selects RX2 yX2_holeAt yX2_holeAt, Cond.code yX2_holeAt cX2_holeAt 3 (some .int), Cond.fieldLink RX2 31 "BoredPipes$Pipe" "holes" "I", Cond.fieldLink RX2 18 "BoredPipes$Pipe" "places" "[I", Cond.methodLink RX5 242 yX2_gap, Cond.instanceMethod yX2_gap, Cond.selects RX2 yX2_gap yX2_gap, Cond.code yX2_gap cX2_gap 6 (some .int)]
def wsX5_placeMoved : List Cond := .code yX5_placeMoved cX5_placeMoved 4 (some .int) :: ((wsX5_placeMoved_r1 ++ wsX5_placeMoved_r2) ++ wsX50 ++ wsX20)
def wsX5_tryMove_r1 : List Cond := [Cond.fieldLink RX5 12 "BoredPipes" "pipe" "LBoredPipes$Pipe;", Cond.fieldLink RX5 43 "BoredPipes" "best" "LBoredPipes$Move;", Cond.fieldLink RX5 236 "BoredPipes$Move" "rank" "I", Cond.methodLink RX5 105 yX2_ofHole, Cond.instanceMethod yX2_ofHole, Cond.selects RX2 yX2_ofHole yX2_ofHole, Cond.initialized RX2, Cond.code yX2_ofHole cX2_ofHole 3 (some .int), Cond.methodLink RX2 44 yX2_rowOf, Cond.instanceMethod yX2_rowOf, Cond.selects RX2 yX2_rowOf yX2_rowOf, Cond.code yX2_rowOf cX2_rowOf 2 (some (.array .int)), Cond.fieldLink RX2 18 "BoredPipes$Pipe" "places" "[I", Cond.fieldLink RX2 21 "BoredPipes$Pipe" "sizes" "[I", Cond.fieldLink RX2 24 "BoredPipes$Pipe" "chimneys" "[I", Cond.static yX5_at, Cond.initialized RX5, Cond.code yX5_at cX5_at 2 (some .int), Cond.methodLink RX5 109 yX2_changeHole, Cond.instanceMethod yX2_changeHole, Cond.selects RX2 yX2_changeHole yX2_changeHole, Cond.code yX2_changeHole cX2_changeHole 4 none, Cond.static yX5_put, Cond.code yX5_put cX5_put 3 none]
def wsX5_tryMove_r2 : List Cond := [Cond.methodLink RX5 145 yX5_rank, Cond.instanceMethod yX5_rank, Cond.selects RX5 yX5_rank yX5_rank, Cond.code yX5_rank cX5_rank 7 (some .int), Cond.fieldLink RX5 29 "BoredPipes" "stretches" "LBoredPipes$Stretches;", Cond.fieldLink RX5 36 "BoredPipes" "notes" "LBoredPipes$Notes;", Cond.fieldLink RX5 121 "BoredPipes$Notes" "many" "I", Cond.fieldLink RX5 174 "BoredPipes$Notes" "sets" "[I", Cond.fieldLink RX5 177 "BoredPipes$Notes" "whiches" "[I", Cond.fieldLink RX5 180 "BoredPipes$Notes" "wanted" "[I", Cond.methodLink RX5 233 Lib.Math.max.name, Cond.static Lib.Math.max.name, Cond.initialized "java/lang/Math", Cond.code Lib.Math.max.name Lib.Math.max.code 2 (some .int), Cond.methodLink RX5 157 yX4_cutUp, Cond.instanceMethod yX4_cutUp, Cond.selects RX4 yX4_cutUp yX4_cutUp, Cond.initialized RX4, Cond.code yX4_cutUp cX4_cutUp 7 none, Cond.fieldLink RX4 27 "BoredPipes$Stretches" "many" "I", Cond.fieldLink RX4 38 "BoredPipes$Pipe" "farEnd" "I", Cond.fieldLink RX4 31 "BoredPipes$Stretches" "shut" "Z", Cond.fieldLink RX4 43 "BoredPipes$Pipe" "mouth" "I", Cond.fieldLink RX4 35 "BoredPipes$Stretches" "reed" "Z"]
def wsX5_tryMove_r3 : List Cond := [Cond.methodLink RX4 60 Lib.Math.max.name, Cond.fieldLink RX4 11 "BoredPipes$Stretches" "lengths" "[I", Cond.fieldLink RX4 15 "BoredPipes$Stretches" "bores" "[I", Cond.fieldLink RX4 73 "BoredPipes$Pipe" "bores" "[I", Cond.fieldLink RX4 18 "BoredPipes$Stretches" "holes" "[I", Cond.fieldLink RX4 21 "BoredPipes$Stretches" "sizes" "[I", Cond.fieldLink RX4 78 "BoredPipes$Pipe" "sizes" "[I", Cond.fieldLink RX4 24 "BoredPipes$Stretches" "chimneys" "[I", Cond.fieldLink RX4 79 "BoredPipes$Pipe" "chimneys" "[I", Cond.methodLink RX4 46 yX2_wholeLength, Cond.instanceMethod yX2_wholeLength, Cond.selects RX2 yX2_wholeLength yX2_wholeLength, Cond.code yX2_wholeLength cX2_wholeLength 1 (some .int), Cond.fieldLink RX2 27 "BoredPipes$Pipe" "pieces" "I", Cond.methodLink RX2 52 yX2_startOf, Cond.instanceMethod yX2_startOf, Cond.selects RX2 yX2_startOf yX2_startOf, Cond.code yX2_startOf cX2_startOf 4 (some .int), Cond.fieldLink RX2 9 "BoredPipes$Pipe" "lengths" "[I", Cond.methodLink RX4 50 yX2_pieceAt, Cond.instanceMethod yX2_pieceAt, Cond.selects RX2 yX2_pieceAt yX2_pieceAt, Cond.code yX2_pieceAt cX2_pieceAt 4 (some .int), Cond.methodLink RX4 54 yX2_startOf]
def wsX5_tryMove_r4 : List Cond := [Cond.methodLink RX4 57 yX2_lastHoleBefore, Cond.instanceMethod yX2_lastHoleBefore, Cond.selects RX2 yX2_lastHoleBefore yX2_lastHoleBefore, Cond.code yX2_lastHoleBefore cX2_lastHoleBefore 4 (some .int), Cond.fieldLink RX2 31 "BoredPipes$Pipe" "holes" "I", Cond.methodLink RX2 56 Lib.Math.max.name, Cond.methodLink RX4 66 yX2_holeAt, Cond.instanceMethod yX2_holeAt, Cond.selects RX2 yX2_holeAt yX2_holeAt, Cond.code yX2_holeAt cX2_holeAt 3 (some .int), Cond.methodLink RX5 101 yX5_at, Cond.methodLink RX5 165 yX4_findTone, Cond.instanceMethod yX4_findTone, Cond.selects RX4 yX4_findTone yX4_findTone, Cond.code yX4_findTone cX4_findTone 7 (some .int), Cond.methodLink RX4 111 yX4_worthOf, Cond.instanceMethod yX4_worthOf, Cond.selects RX4 yX4_worthOf yX4_worthOf, Cond.code yX4_worthOf cX4_worthOf 22 (some .long), Cond.constantLong RX4 80 (1048576), Cond.constant RX4 82 (65535), Cond.constantLong RX4 87 (10000), Cond.constantLong RX4 101 (25), Cond.static yX5_sineOf]
def wsX5_tryMove_r5 : List Cond := [Cond.code yX5_sineOf cX5_sineOf 7 (some .long), Cond.constantLong RX5 248 (32768), Cond.constantLong RX5 250 (131068), Cond.constantLong RX5 252 (1342177280), Cond.constant RX5 254 (32768), Cond.methodLink RX5 79 yX5_quotient, Cond.static yX5_quotient, Cond.code yX5_quotient cX5_quotient 4 (some .long), Cond.methodLink RX4 93 yX4_shiftFor, Cond.static yX4_shiftFor, Cond.code yX4_shiftFor cX4_shiftFor 5 (some .int), Cond.methodLink RX4 103 yX4_isTooBig, Cond.static yX4_isTooBig, Cond.code yX4_isTooBig cX4_isTooBig 2 (some .boolean), Cond.constantLong RX4 107 (1099511627776), Cond.constantLong RX4 109 (-1099511627776), Cond.methodLink RX4 97 yX4_isOpen, Cond.instanceMethod yX4_isOpen, Cond.selects RX4 yX4_isOpen yX4_isOpen, Cond.code yX4_isOpen cX4_isOpen 4 (some .boolean), Cond.methodLink RX5 168 yX5_missOf, Cond.static yX5_missOf, Cond.code yX5_missOf cX5_missOf 2 (some .int), Cond.methodLink RX5 228 Lib.Math.abs.name]
def wsX5_tryMove_r6 : List Cond := [Cond.static Lib.Math.abs.name, Cond.code Lib.Math.abs.name Lib.Math.abs.code 1 (some .int), Cond.methodLink RX5 238 yX0_take, Cond.instanceMethod yX0_take, Cond.selects RX0 yX0_take yX0_take, Cond.initialized RX0, Cond.code yX0_take cX0_take 5 none, Cond.fieldLink RX0 9 "BoredPipes$Move" "rank" "I", Cond.fieldLink RX0 15 "BoredPipes$Move" "hole" "I", Cond.fieldLink RX0 18 "BoredPipes$Move" "what" "I", Cond.fieldLink RX0 21 "BoredPipes$Move" "value" "I"]
def wsX5_tryMove : List Cond := .code yX5_tryMove cX5_tryMove 6 none :: ((wsX5_tryMove_r1 ++ (wsX5_tryMove_r2 ++ (wsX5_tryMove_r3 ++ (wsX5_tryMove_r4 ++ (wsX5_tryMove_r5 ++ wsX5_tryMove_r6))))) ++ wsX50 ++ wsX00 ++ wsX20 ++ wsX10 ++ wsX40)
def wsX5_nextSize : List Cond := .code yX5_nextSize cX5_nextSize 6 (some .int) :: ([.fieldLink RX5 12 "BoredPipes" "pipe" "LBoredPipes$Pipe;", .fieldLink RX5 245 "BoredPipes$Pipe" "sizes" "[I", .fieldLink RX5 49 "BoredPipes" "drills" "J", .methodLink RX5 101 yX5_at, .static yX5_at, .initialized RX5, .code yX5_at cX5_at 2 (some .int), .methodLink RX5 75 yX5_within, .static yX5_within, .code yX5_within cX5_within 3 (some .boolean)] ++ wsX50 ++ wsX20)
def wsX5_round_r1 : List Cond := [Cond.fieldLink RX5 12 "BoredPipes" "pipe" "LBoredPipes$Pipe;", Cond.fieldLink RX5 64 "BoredPipes$Pipe" "pieces" "I", Cond.fieldLink RX5 90 "BoredPipes$Pipe" "holes" "I", Cond.fieldLink RX5 36 "BoredPipes" "notes" "LBoredPipes$Notes;", Cond.fieldLink RX5 121 "BoredPipes$Notes" "many" "I", Cond.fieldLink RX5 43 "BoredPipes" "best" "LBoredPipes$Move;", Cond.constant RX5 144 (2147483647), Cond.fieldLink RX5 201 "BoredPipes$Move" "hole" "I", Cond.fieldLink RX5 204 "BoredPipes$Move" "what" "I", Cond.fieldLink RX5 207 "BoredPipes$Move" "value" "I", Cond.fieldLink RX5 57 "BoredPipes" "rounds" "I", Cond.methodLink RX5 145 yX5_rank, Cond.instanceMethod yX5_rank, Cond.selects RX5 yX5_rank yX5_rank, Cond.initialized RX5, Cond.code yX5_rank cX5_rank 7 (some .int), Cond.fieldLink RX5 29 "BoredPipes" "stretches" "LBoredPipes$Stretches;", Cond.fieldLink RX5 174 "BoredPipes$Notes" "sets" "[I", Cond.fieldLink RX5 177 "BoredPipes$Notes" "whiches" "[I", Cond.fieldLink RX5 180 "BoredPipes$Notes" "wanted" "[I", Cond.methodLink RX5 233 Lib.Math.max.name, Cond.static Lib.Math.max.name, Cond.initialized "java/lang/Math", Cond.code Lib.Math.max.name Lib.Math.max.code 2 (some .int)]
def wsX5_round_r2 : List Cond := [Cond.methodLink RX5 157 yX4_cutUp, Cond.instanceMethod yX4_cutUp, Cond.selects RX4 yX4_cutUp yX4_cutUp, Cond.initialized RX4, Cond.code yX4_cutUp cX4_cutUp 7 none, Cond.fieldLink RX4 27 "BoredPipes$Stretches" "many" "I", Cond.fieldLink RX4 38 "BoredPipes$Pipe" "farEnd" "I", Cond.fieldLink RX4 31 "BoredPipes$Stretches" "shut" "Z", Cond.fieldLink RX4 43 "BoredPipes$Pipe" "mouth" "I", Cond.fieldLink RX4 35 "BoredPipes$Stretches" "reed" "Z", Cond.methodLink RX4 60 Lib.Math.max.name, Cond.fieldLink RX4 11 "BoredPipes$Stretches" "lengths" "[I", Cond.fieldLink RX4 15 "BoredPipes$Stretches" "bores" "[I", Cond.fieldLink RX4 73 "BoredPipes$Pipe" "bores" "[I", Cond.fieldLink RX4 18 "BoredPipes$Stretches" "holes" "[I", Cond.fieldLink RX4 21 "BoredPipes$Stretches" "sizes" "[I", Cond.fieldLink RX4 78 "BoredPipes$Pipe" "sizes" "[I", Cond.fieldLink RX4 24 "BoredPipes$Stretches" "chimneys" "[I", Cond.fieldLink RX4 79 "BoredPipes$Pipe" "chimneys" "[I", Cond.methodLink RX4 46 yX2_wholeLength, Cond.instanceMethod yX2_wholeLength, Cond.selects RX2 yX2_wholeLength yX2_wholeLength, Cond.initialized RX2, Cond.code yX2_wholeLength cX2_wholeLength 1 (some .int)]
def wsX5_round_r3 : List Cond := [Cond.fieldLink RX2 27 "BoredPipes$Pipe" "pieces" "I", Cond.methodLink RX2 52 yX2_startOf, Cond.instanceMethod yX2_startOf, Cond.selects RX2 yX2_startOf yX2_startOf, Cond.code yX2_startOf cX2_startOf 4 (some .int), Cond.fieldLink RX2 9 "BoredPipes$Pipe" "lengths" "[I", Cond.static yX5_at, Cond.code yX5_at cX5_at 2 (some .int), Cond.methodLink RX4 50 yX2_pieceAt, Cond.instanceMethod yX2_pieceAt, Cond.selects RX2 yX2_pieceAt yX2_pieceAt, Cond.code yX2_pieceAt cX2_pieceAt 4 (some .int), Cond.methodLink RX4 54 yX2_startOf, Cond.methodLink RX4 57 yX2_lastHoleBefore, Cond.instanceMethod yX2_lastHoleBefore, Cond.selects RX2 yX2_lastHoleBefore yX2_lastHoleBefore, Cond.code yX2_lastHoleBefore cX2_lastHoleBefore 4 (some .int), Cond.fieldLink RX2 31 "BoredPipes$Pipe" "holes" "I", Cond.fieldLink RX2 18 "BoredPipes$Pipe" "places" "[I", Cond.methodLink RX2 56 Lib.Math.max.name, Cond.methodLink RX4 66 yX2_holeAt, Cond.instanceMethod yX2_holeAt, Cond.selects RX2 yX2_holeAt yX2_holeAt, Cond.code yX2_holeAt cX2_holeAt 3 (some .int)]
def wsX5_round_r4 : List Cond := [Cond.static yX5_put, Cond.code yX5_put cX5_put 3 none, Cond.methodLink RX5 101 yX5_at, Cond.methodLink RX5 165 yX4_findTone, Cond.instanceMethod yX4_findTone, Cond.selects RX4 yX4_findTone yX4_findTone, Cond.code yX4_findTone cX4_findTone 7 (some .int), Cond.methodLink RX4 111 yX4_worthOf, Cond.instanceMethod yX4_worthOf, Cond.selects RX4 yX4_worthOf yX4_worthOf, Cond.code yX4_worthOf cX4_worthOf 22 (some .long), Cond.constantLong RX4 80 (1048576), Cond.constant RX4 82 (65535), Cond.constantLong RX4 87 (10000), Cond.constantLong RX4 101 (25), Cond.static yX5_sineOf, Cond.code yX5_sineOf cX5_sineOf 7 (some .long), Cond.constantLong RX5 248 (32768), Cond.constantLong RX5 250 (131068), Cond.constantLong RX5 252 (1342177280), Cond.constant RX5 254 (32768), Cond.methodLink RX5 79 yX5_quotient, Cond.static yX5_quotient, Cond.code yX5_quotient cX5_quotient 4 (some .long)]
def wsX5_round_r5 : List Cond := [Cond.methodLink RX4 93 yX4_shiftFor, Cond.static yX4_shiftFor, Cond.code yX4_shiftFor cX4_shiftFor 5 (some .int), Cond.methodLink RX4 103 yX4_isTooBig, Cond.static yX4_isTooBig, Cond.code yX4_isTooBig cX4_isTooBig 2 (some .boolean), Cond.constantLong RX4 107 (1099511627776), Cond.constantLong RX4 109 (-1099511627776), Cond.methodLink RX4 97 yX4_isOpen, Cond.instanceMethod yX4_isOpen, Cond.selects RX4 yX4_isOpen yX4_isOpen, Cond.code yX4_isOpen cX4_isOpen 4 (some .boolean), Cond.methodLink RX5 168 yX5_missOf, Cond.static yX5_missOf, Cond.code yX5_missOf cX5_missOf 2 (some .int), Cond.methodLink RX5 228 Lib.Math.abs.name, Cond.static Lib.Math.abs.name, Cond.code Lib.Math.abs.name Lib.Math.abs.code 1 (some .int), Cond.methodLink RX5 188 yX0_none, Cond.instanceMethod yX0_none, Cond.selects RX0 yX0_none yX0_none, Cond.initialized RX0, Cond.code yX0_none cX0_none 2 none, Cond.fieldLink RX0 9 "BoredPipes$Move" "rank" "I"]
def wsX5_round_r6 : List Cond := [Cond.fieldLink RX0 15 "BoredPipes$Move" "hole" "I", Cond.methodLink RX5 192 yX5_placeMoved, Cond.instanceMethod yX5_placeMoved, Cond.selects RX5 yX5_placeMoved yX5_placeMoved, Cond.code yX5_placeMoved cX5_placeMoved 4 (some .int), Cond.fieldLink RX5 97 "BoredPipes$Pipe" "places" "[I", Cond.fieldLink RX5 53 "BoredPipes" "reach" "I", Cond.methodLink RX5 83 yX5_mayBe, Cond.instanceMethod yX5_mayBe, Cond.selects RX5 yX5_mayBe yX5_mayBe, Cond.code yX5_mayBe cX5_mayBe 3 (some .boolean), Cond.methodLink RX5 71 yX2_wholeLength, Cond.methodLink RX5 75 yX5_within, Cond.static yX5_within, Cond.code yX5_within cX5_within 3 (some .boolean), Cond.methodLink RX5 86 yX2_holeAt, Cond.methodLink RX5 242 yX2_gap, Cond.instanceMethod yX2_gap, Cond.selects RX2 yX2_gap yX2_gap, Cond.code yX2_gap cX2_gap 6 (some .int), Cond.methodLink RX5 195 yX5_tryMove, Cond.instanceMethod yX5_tryMove, Cond.selects RX5 yX5_tryMove yX5_tryMove, Cond.code yX5_tryMove cX5_tryMove 6 none]
def wsX5_round_r7 : List Cond := [Cond.fieldLink RX5 236 "BoredPipes$Move" "rank" "I", Cond.methodLink RX5 105 yX2_ofHole, Cond.instanceMethod yX2_ofHole, Cond.selects RX2 yX2_ofHole yX2_ofHole, Cond.code yX2_ofHole cX2_ofHole 3 (some .int), Cond.methodLink RX2 44 yX2_rowOf, Cond.instanceMethod yX2_rowOf, Cond.selects RX2 yX2_rowOf yX2_rowOf, Cond.code yX2_rowOf cX2_rowOf 2 (some (.array .int)), Cond.fieldLink RX2 21 "BoredPipes$Pipe" "sizes" "[I", Cond.fieldLink RX2 24 "BoredPipes$Pipe" "chimneys" "[I", Cond.methodLink RX5 109 yX2_changeHole, Cond.instanceMethod yX2_changeHole, Cond.selects RX2 yX2_changeHole yX2_changeHole, Cond.code yX2_changeHole cX2_changeHole 4 none, Cond.methodLink RX5 238 yX0_take, Cond.instanceMethod yX0_take, Cond.selects RX0 yX0_take yX0_take, Cond.code yX0_take cX0_take 5 none, Cond.fieldLink RX0 18 "BoredPipes$Move" "what" "I", Cond.fieldLink RX0 21 "BoredPipes$Move" "value" "I", Cond.methodLink RX5 198 yX5_nextSize, Cond.instanceMethod yX5_nextSize, Cond.selects RX5 yX5_nextSize yX5_nextSize]
def wsX5_round_r8 : List Cond := [Cond.code yX5_nextSize cX5_nextSize 6 (some .int), Cond.fieldLink RX5 245 "BoredPipes$Pipe" "sizes" "[I", Cond.fieldLink RX5 49 "BoredPipes" "drills" "J"]
def wsX5_round : List Cond := .code yX5_round cX5_round 2 (some .int) :: ((wsX5_round_r1 ++ (wsX5_round_r2 ++ (wsX5_round_r3 ++ (wsX5_round_r4 ++ (wsX5_round_r5 ++ (wsX5_round_r6 ++ (wsX5_round_r7 ++ wsX5_round_r8))))))) ++ wsX50 ++ wsX20 ++ wsX10 ++ wsX00 ++ wsX40)
def wsX5_shelfOf : List Cond := .code yX5_shelfOf cX5_shelfOf 2 (some (.object "BoredPipes$Shelf")) :: ([.fieldLink RX5 19 "BoredPipes" "firstShelf" "LBoredPipes$Shelf;", .fieldLink RX5 23 "BoredPipes" "secondShelf" "LBoredPipes$Shelf;"] ++ wsX50)
def wsX5_keep_r1 : List Cond := [Cond.fieldLink RX5 214 "BoredPipes$Shelf" "kept" "LBoredPipes$Pipe;", Cond.fieldLink RX5 12 "BoredPipes" "pipe" "LBoredPipes$Pipe;", Cond.fieldLink RX5 220 "BoredPipes$Shelf" "used" "Z", Cond.methodLink RX5 75 yX5_within, Cond.static yX5_within, Cond.initialized RX5, Cond.code yX5_within cX5_within 3 (some .boolean), Cond.methodLink RX5 210 yX5_shelfOf, Cond.instanceMethod yX5_shelfOf, Cond.selects RX5 yX5_shelfOf yX5_shelfOf, Cond.code yX5_shelfOf cX5_shelfOf 2 (some (.object "BoredPipes$Shelf")), Cond.fieldLink RX5 19 "BoredPipes" "firstShelf" "LBoredPipes$Shelf;", Cond.fieldLink RX5 23 "BoredPipes" "secondShelf" "LBoredPipes$Shelf;", Cond.methodLink RX5 217 yX2_copy, Cond.instanceMethod yX2_copy, Cond.selects RX2 yX2_copy yX2_copy, Cond.initialized RX2, Cond.code yX2_copy cX2_copy 2 none, Cond.fieldLink RX2 9 "BoredPipes$Pipe" "lengths" "[I", Cond.fieldLink RX2 15 "BoredPipes$Pipe" "bores" "[I", Cond.fieldLink RX2 18 "BoredPipes$Pipe" "places" "[I", Cond.fieldLink RX2 21 "BoredPipes$Pipe" "sizes" "[I", Cond.fieldLink RX2 24 "BoredPipes$Pipe" "chimneys" "[I", Cond.fieldLink RX2 27 "BoredPipes$Pipe" "pieces" "I"]
def wsX5_keep_r2 : List Cond := [Cond.fieldLink RX2 31 "BoredPipes$Pipe" "holes" "I", Cond.fieldLink RX2 34 "BoredPipes$Pipe" "mouth" "I", Cond.fieldLink RX2 37 "BoredPipes$Pipe" "farEnd" "I", Cond.static yX5_copyRow, Cond.code yX5_copyRow cX5_copyRow 3 none, Cond.methodLink RX5 101 yX5_at, Cond.static yX5_at, Cond.code yX5_at cX5_at 2 (some .int), Cond.methodLink RX5 255 yX5_put, Cond.static yX5_put, Cond.code yX5_put cX5_put 3 none]
def wsX5_keep : List Cond := .code yX5_keep cX5_keep 3 (some .int) :: ((wsX5_keep_r1 ++ wsX5_keep_r2) ++ wsX30 ++ wsX50 ++ wsX20)
def wsX5_back_r1 : List Cond := [Cond.fieldLink RX5 220 "BoredPipes$Shelf" "used" "Z", Cond.fieldLink RX5 12 "BoredPipes" "pipe" "LBoredPipes$Pipe;", Cond.fieldLink RX5 214 "BoredPipes$Shelf" "kept" "LBoredPipes$Pipe;", Cond.methodLink RX5 75 yX5_within, Cond.static yX5_within, Cond.initialized RX5, Cond.code yX5_within cX5_within 3 (some .boolean), Cond.methodLink RX5 210 yX5_shelfOf, Cond.instanceMethod yX5_shelfOf, Cond.selects RX5 yX5_shelfOf yX5_shelfOf, Cond.code yX5_shelfOf cX5_shelfOf 2 (some (.object "BoredPipes$Shelf")), Cond.fieldLink RX5 19 "BoredPipes" "firstShelf" "LBoredPipes$Shelf;", Cond.fieldLink RX5 23 "BoredPipes" "secondShelf" "LBoredPipes$Shelf;", Cond.methodLink RX5 217 yX2_copy, Cond.instanceMethod yX2_copy, Cond.selects RX2 yX2_copy yX2_copy, Cond.initialized RX2, Cond.code yX2_copy cX2_copy 2 none, Cond.fieldLink RX2 9 "BoredPipes$Pipe" "lengths" "[I", Cond.fieldLink RX2 15 "BoredPipes$Pipe" "bores" "[I", Cond.fieldLink RX2 18 "BoredPipes$Pipe" "places" "[I", Cond.fieldLink RX2 21 "BoredPipes$Pipe" "sizes" "[I", Cond.fieldLink RX2 24 "BoredPipes$Pipe" "chimneys" "[I", Cond.fieldLink RX2 27 "BoredPipes$Pipe" "pieces" "I"]
def wsX5_back_r2 : List Cond := [Cond.fieldLink RX2 31 "BoredPipes$Pipe" "holes" "I", Cond.fieldLink RX2 34 "BoredPipes$Pipe" "mouth" "I", Cond.fieldLink RX2 37 "BoredPipes$Pipe" "farEnd" "I", Cond.static yX5_copyRow, Cond.code yX5_copyRow cX5_copyRow 3 none, Cond.methodLink RX5 101 yX5_at, Cond.static yX5_at, Cond.code yX5_at cX5_at 2 (some .int), Cond.methodLink RX5 255 yX5_put, Cond.static yX5_put, Cond.code yX5_put cX5_put 3 none]
def wsX5_back : List Cond := .code yX5_back cX5_back 3 (some .int) :: ((wsX5_back_r1 ++ wsX5_back_r2) ++ wsX30 ++ wsX50 ++ wsX20)
def wsX5_differs_r1 : List Cond := [Cond.fieldLink RX5 220 "BoredPipes$Shelf" "used" "Z", Cond.fieldLink RX5 12 "BoredPipes" "pipe" "LBoredPipes$Pipe;", Cond.fieldLink RX5 214 "BoredPipes$Shelf" "kept" "LBoredPipes$Pipe;", Cond.methodLink RX5 75 yX5_within, Cond.static yX5_within, Cond.initialized RX5, Cond.code yX5_within cX5_within 3 (some .boolean), Cond.methodLink RX5 210 yX5_shelfOf, Cond.instanceMethod yX5_shelfOf, Cond.selects RX5 yX5_shelfOf yX5_shelfOf, Cond.code yX5_shelfOf cX5_shelfOf 2 (some (.object "BoredPipes$Shelf")), Cond.fieldLink RX5 19 "BoredPipes" "firstShelf" "LBoredPipes$Shelf;", Cond.fieldLink RX5 23 "BoredPipes" "secondShelf" "LBoredPipes$Shelf;", Cond.methodLink RX5 224 yX2_differences, Cond.instanceMethod yX2_differences, Cond.selects RX2 yX2_differences yX2_differences, Cond.initialized RX2, Cond.code yX2_differences cX2_differences 2 (some .int), Cond.fieldLink RX2 9 "BoredPipes$Pipe" "lengths" "[I", Cond.fieldLink RX2 27 "BoredPipes$Pipe" "pieces" "I", Cond.fieldLink RX2 15 "BoredPipes$Pipe" "bores" "[I", Cond.fieldLink RX2 18 "BoredPipes$Pipe" "places" "[I", Cond.fieldLink RX2 31 "BoredPipes$Pipe" "holes" "I", Cond.fieldLink RX2 21 "BoredPipes$Pipe" "sizes" "[I"]
def wsX5_differs_r2 : List Cond := [Cond.fieldLink RX2 24 "BoredPipes$Pipe" "chimneys" "[I", Cond.fieldLink RX2 34 "BoredPipes$Pipe" "mouth" "I", Cond.fieldLink RX2 37 "BoredPipes$Pipe" "farEnd" "I", Cond.static yX5_rowDifferences, Cond.code yX5_rowDifferences cX5_rowDifferences 7 (some .int), Cond.methodLink RX5 259 Lib.Math.min.name, Cond.static Lib.Math.min.name, Cond.initialized "java/lang/Math", Cond.code Lib.Math.min.name Lib.Math.min.code 2 (some .int), Cond.methodLink RX5 233 Lib.Math.max.name, Cond.static Lib.Math.max.name, Cond.code Lib.Math.max.name Lib.Math.max.code 2 (some .int), Cond.methodLink RX5 101 yX5_at, Cond.static yX5_at, Cond.code yX5_at cX5_at 2 (some .int)]
def wsX5_differs : List Cond := .code yX5_differs cX5_differs 3 (some .int) :: ((wsX5_differs_r1 ++ wsX5_differs_r2) ++ wsX30 ++ wsX50 ++ wsX20)
def wsX6_init : List Cond := .code yX6_init cX6_init 2 none :: ([.methodLink RX6 1 objectInit, .instanceMethod objectInit, .code objectInit ⟨#[0xb1]⟩ 1 none, .arrayClass .int, .fieldLink RX6 7 "BoredPipesModel" "lengths" "[I", .fieldLink RX6 13 "BoredPipesModel" "bores" "[I", .fieldLink RX6 16 "BoredPipesModel" "bored" "[I", .fieldLink RX6 19 "BoredPipesModel" "ends" "[I", .fieldLink RX6 22 "BoredPipesModel" "opens" "[I", .fieldLink RX6 25 "BoredPipesModel" "whiches" "[I", .fieldLink RX6 28 "BoredPipesModel" "wanteds" "[I", .arrayClass .boolean, .fieldLink RX6 31 "BoredPipesModel" "drills" "[Z", .fieldLink RX6 35 "BoredPipesModel" "reach" "I", .fieldLink RX6 39 "BoredPipesModel" "shelf" "[I"] ++ wsX60)
def wsX6_in : List Cond := .code yX6_in cX6_in 6 (some .boolean) :: ([])
def wsX6_whole : List Cond := .code yX6_whole cX6_whole 3 (some .int) :: ([.fieldLink RX6 42 "BoredPipesModel" "pieces" "I", .fieldLink RX6 7 "BoredPipesModel" "lengths" "[I"] ++ wsX60)
def wsX6_add : List Cond := .code yX6_add cX6_add 3 none :: ([.fieldLink RX6 7 "BoredPipesModel" "lengths" "[I", .fieldLink RX6 42 "BoredPipesModel" "pieces" "I", .fieldLink RX6 13 "BoredPipesModel" "bores" "[I"] ++ wsX60)
def wsX6_piece : List Cond := .code yX6_piece cX6_piece 3 (some .int) :: ([.constantLong RX6 45 (400), .constantLong RX6 51 (100), .fieldLink RX6 42 "BoredPipesModel" "pieces" "I", .methodLink RX6 47 yX6_in, .static yX6_in, .initialized RX6, .code yX6_in cX6_in 6 (some .boolean), .methodLink RX6 53 yX6_add, .instanceMethod yX6_add, .selects RX6 yX6_add yX6_add, .code yX6_add cX6_add 3 none, .fieldLink RX6 7 "BoredPipesModel" "lengths" "[I", .fieldLink RX6 13 "BoredPipesModel" "bores" "[I", .methodLink RX6 57 yX6_whole, .instanceMethod yX6_whole, .selects RX6 yX6_whole yX6_whole, .code yX6_whole cX6_whole 3 (some .int)] ++ wsX60)
def wsX6_cone : List Cond := .code yX6_cone cX6_cone 6 (some .int) :: ([.constantLong RX6 45 (400), .constantLong RX6 51 (100), .constantLong RX6 61 (2), .constantLong RX6 63 (12), .fieldLink RX6 42 "BoredPipesModel" "pieces" "I", .methodLink RX6 47 yX6_in, .static yX6_in, .initialized RX6, .code yX6_in cX6_in 6 (some .boolean), .methodLink RX6 53 yX6_add, .instanceMethod yX6_add, .selects RX6 yX6_add yX6_add, .code yX6_add cX6_add 3 none, .fieldLink RX6 7 "BoredPipesModel" "lengths" "[I", .fieldLink RX6 13 "BoredPipesModel" "bores" "[I", .methodLink RX6 57 yX6_whole, .instanceMethod yX6_whole, .selects RX6 yX6_whole yX6_whole, .code yX6_whole cX6_whole 3 (some .int)] ++ wsX60)
def wsX6_fits : List Cond := .code yX6_fits cX6_fits 3 (some .boolean) :: ([.constantLong RX6 65 (60), .methodLink RX6 57 yX6_whole, .instanceMethod yX6_whole, .selects RX6 yX6_whole yX6_whole, .initialized RX6, .code yX6_whole cX6_whole 3 (some .int), .fieldLink RX6 42 "BoredPipesModel" "pieces" "I", .fieldLink RX6 7 "BoredPipesModel" "lengths" "[I", .methodLink RX6 47 yX6_in, .static yX6_in, .code yX6_in cX6_in 6 (some .boolean)] ++ wsX60)
def wsX6_holeAt : List Cond := .code yX6_holeAt cX6_holeAt 4 (some .int) :: ([.fieldLink RX6 67 "BoredPipesModel" "holes" "I", .fieldLink RX6 16 "BoredPipesModel" "bored" "[I"] ++ wsX60)
def wsX6_hole : List Cond := .code yX6_hole cX6_hole 4 (some .int) :: ([.fieldLink RX6 67 "BoredPipesModel" "holes" "I", .fieldLink RX6 16 "BoredPipesModel" "bored" "[I", .methodLink RX6 70 yX6_fits, .instanceMethod yX6_fits, .selects RX6 yX6_fits yX6_fits, .initialized RX6, .code yX6_fits cX6_fits 3 (some .boolean), .constantLong RX6 65 (60), .methodLink RX6 57 yX6_whole, .instanceMethod yX6_whole, .selects RX6 yX6_whole yX6_whole, .code yX6_whole cX6_whole 3 (some .int), .fieldLink RX6 42 "BoredPipesModel" "pieces" "I", .fieldLink RX6 7 "BoredPipesModel" "lengths" "[I", .methodLink RX6 47 yX6_in, .static yX6_in, .code yX6_in cX6_in 6 (some .boolean), .methodLink RX6 74 yX6_holeAt, .instanceMethod yX6_holeAt, .selects RX6 yX6_holeAt yX6_holeAt, .code yX6_holeAt cX6_holeAt 4 (some .int)] ++ wsX60)
def wsX6_isHole : List Cond := .code yX6_isHole cX6_isHole 2 (some .boolean) :: ([.fieldLink RX6 67 "BoredPipesModel" "holes" "I", .methodLink RX6 47 yX6_in, .static yX6_in, .initialized RX6, .code yX6_in cX6_in 6 (some .boolean)] ++ wsX60)
def wsX6_set_r1 : List Cond := [Cond.constantLong RX6 61 (2), Cond.fieldLink RX6 16 "BoredPipesModel" "bored" "[I", Cond.methodLink RX6 78 yX6_isHole, Cond.instanceMethod yX6_isHole, Cond.selects RX6 yX6_isHole yX6_isHole, Cond.initialized RX6, Cond.code yX6_isHole cX6_isHole 2 (some .boolean), Cond.fieldLink RX6 67 "BoredPipesModel" "holes" "I", Cond.methodLink RX6 47 yX6_in, Cond.static yX6_in, Cond.code yX6_in cX6_in 6 (some .boolean), Cond.methodLink RX6 70 yX6_fits, Cond.instanceMethod yX6_fits, Cond.selects RX6 yX6_fits yX6_fits, Cond.code yX6_fits cX6_fits 3 (some .boolean), Cond.constantLong RX6 65 (60), Cond.methodLink RX6 57 yX6_whole, Cond.instanceMethod yX6_whole, Cond.selects RX6 yX6_whole yX6_whole, Cond.code yX6_whole cX6_whole 3 (some .int), Cond.fieldLink RX6 42 "BoredPipesModel" "pieces" "I", Cond.fieldLink RX6 7 "BoredPipesModel" "lengths" "[I", Cond.methodLink RX6 74 yX6_holeAt, Cond.instanceMethod yX6_holeAt]
def wsX6_set_r2 : List Cond := [Cond.selects RX6 yX6_holeAt yX6_holeAt, Cond.code yX6_holeAt cX6_holeAt 4 (some .int)]
def wsX6_set : List Cond := .code yX6_set cX6_set 6 (some .int) :: ((wsX6_set_r1 ++ wsX6_set_r2) ++ wsX60)
def wsX6_end : List Cond := .code yX6_end cX6_end 4 (some .int) :: ([.fieldLink RX6 19 "BoredPipesModel" "ends" "[I", .methodLink RX6 47 yX6_in, .static yX6_in, .initialized RX6, .code yX6_in cX6_in 6 (some .boolean)] ++ wsX60)
def wsX6_clear : List Cond := .code yX6_clear cX6_clear 2 (some .int) :: ([.fieldLink RX6 42 "BoredPipesModel" "pieces" "I", .fieldLink RX6 67 "BoredPipesModel" "holes" "I", .fieldLink RX6 82 "BoredPipesModel" "notes" "I", .fieldLink RX6 19 "BoredPipesModel" "ends" "[I", .fieldLink RX6 85 "BoredPipesModel" "rounds" "I"] ++ wsX60)
def wsX6_told : List Cond := .code yX6_told cX6_told 3 (some .int) :: ([.fieldLink RX6 42 "BoredPipesModel" "pieces" "I", .fieldLink RX6 7 "BoredPipesModel" "lengths" "[I", .fieldLink RX6 13 "BoredPipesModel" "bores" "[I", .methodLink RX6 47 yX6_in, .static yX6_in, .initialized RX6, .code yX6_in cX6_in 6 (some .boolean)] ++ wsX60)
def wsX6_pieceOf : List Cond := .code yX6_pieceOf cX6_pieceOf 4 (some .int) :: ([.fieldLink RX6 7 "BoredPipesModel" "lengths" "[I"] ++ wsX60)
def wsX6_bored : List Cond := .code yX6_bored cX6_bored 5 (some .int) :: ([.constantLong RX6 88 (4), .fieldLink RX6 16 "BoredPipesModel" "bored" "[I", .fieldLink RX6 67 "BoredPipesModel" "holes" "I", .methodLink RX6 78 yX6_isHole, .instanceMethod yX6_isHole, .selects RX6 yX6_isHole yX6_isHole, .initialized RX6, .code yX6_isHole cX6_isHole 2 (some .boolean), .methodLink RX6 47 yX6_in, .static yX6_in, .code yX6_in cX6_in 6 (some .boolean), .methodLink RX6 90 yX6_pieceOf, .instanceMethod yX6_pieceOf, .selects RX6 yX6_pieceOf yX6_pieceOf, .code yX6_pieceOf cX6_pieceOf 4 (some .int), .fieldLink RX6 7 "BoredPipesModel" "lengths" "[I"] ++ wsX60)
def wsX6_drillMany : List Cond := .code yX6_drillMany cX6_drillMany 3 (some .int) :: ([.fieldLink RX6 31 "BoredPipesModel" "drills" "[Z"] ++ wsX60)
def wsX6_nextPlace : List Cond := .code yX6_nextPlace cX6_nextPlace 6 (some .int) :: ([.fieldLink RX6 42 "BoredPipesModel" "pieces" "I", .fieldLink RX6 7 "BoredPipesModel" "lengths" "[I", .fieldLink RX6 67 "BoredPipesModel" "holes" "I", .fieldLink RX6 16 "BoredPipesModel" "bored" "[I"] ++ wsX60)
def wsX6_sineOf : List Cond := .code yX6_sineOf cX6_sineOf 7 (some .long) :: ([.constant RX6 102 (32768), .constantLong RX6 103 (32768), .constantLong RX6 105 (131068), .constantLong RX6 107 (1342177280)])
def wsX6_isLarge : List Cond := .code yX6_isLarge cX6_isLarge 2 (some .boolean) :: ([.constantLong RX6 115 (1099511627776), .constantLong RX6 117 (-1099511627776)])
def wsX6_worthOf_r1 : List Cond := [Cond.fieldLink RX6 19 "BoredPipesModel" "ends" "[I", Cond.constantLong RX6 119 (1048576), Cond.constant RX6 124 (65536), Cond.fieldLink RX6 13 "BoredPipesModel" "bores" "[I", Cond.constantLong RX6 125 (10000), Cond.fieldLink RX6 16 "BoredPipesModel" "bored" "[I", Cond.constantLong RX6 131 (25), Cond.methodLink RX6 57 yX6_whole, Cond.instanceMethod yX6_whole, Cond.selects RX6 yX6_whole yX6_whole, Cond.initialized RX6, Cond.code yX6_whole cX6_whole 3 (some .int), Cond.fieldLink RX6 42 "BoredPipesModel" "pieces" "I", Cond.fieldLink RX6 7 "BoredPipesModel" "lengths" "[I", Cond.methodLink RX6 121 yX6_nextPlace, Cond.instanceMethod yX6_nextPlace, Cond.selects RX6 yX6_nextPlace yX6_nextPlace, Cond.code yX6_nextPlace cX6_nextPlace 6 (some .int), Cond.fieldLink RX6 67 "BoredPipesModel" "holes" "I", Cond.methodLink RX6 111 yX6_sineOf, Cond.static yX6_sineOf, Cond.code yX6_sineOf cX6_sineOf 7 (some .long), Cond.constant RX6 102 (32768), Cond.constantLong RX6 103 (32768)]
def wsX6_worthOf_r2 : List Cond := [Cond.constantLong RX6 105 (131068), Cond.constantLong RX6 107 (1342177280), Cond.methodLink RX6 90 yX6_pieceOf, Cond.instanceMethod yX6_pieceOf, Cond.selects RX6 yX6_pieceOf yX6_pieceOf, Cond.code yX6_pieceOf cX6_pieceOf 4 (some .int), Cond.methodLink RX6 127 yX6_isLarge, Cond.static yX6_isLarge, Cond.code yX6_isLarge cX6_isLarge 2 (some .boolean), Cond.constantLong RX6 115 (1099511627776), Cond.constantLong RX6 117 (-1099511627776), Cond.methodLink RX6 74 yX6_holeAt, Cond.instanceMethod yX6_holeAt, Cond.selects RX6 yX6_holeAt yX6_holeAt, Cond.code yX6_holeAt cX6_holeAt 4 (some .int)]
def wsX6_worthOf : List Cond := .code yX6_worthOf cX6_worthOf 23 (some .long) :: ((wsX6_worthOf_r1 ++ wsX6_worthOf_r2) ++ wsX60)
def wsX6_toneOf_r1 : List Cond := [Cond.fieldLink RX6 148 "BoredPipesModel" "toneMany" "I", Cond.fieldLink RX6 42 "BoredPipesModel" "pieces" "I", Cond.methodLink RX6 144 yX6_worthOf, Cond.instanceMethod yX6_worthOf, Cond.selects RX6 yX6_worthOf yX6_worthOf, Cond.initialized RX6, Cond.code yX6_worthOf cX6_worthOf 23 (some .long), Cond.fieldLink RX6 19 "BoredPipesModel" "ends" "[I", Cond.constantLong RX6 119 (1048576), Cond.constant RX6 124 (65536), Cond.fieldLink RX6 13 "BoredPipesModel" "bores" "[I", Cond.constantLong RX6 125 (10000), Cond.fieldLink RX6 16 "BoredPipesModel" "bored" "[I", Cond.constantLong RX6 131 (25), Cond.methodLink RX6 57 yX6_whole, Cond.instanceMethod yX6_whole, Cond.selects RX6 yX6_whole yX6_whole, Cond.code yX6_whole cX6_whole 3 (some .int), Cond.fieldLink RX6 7 "BoredPipesModel" "lengths" "[I", Cond.methodLink RX6 121 yX6_nextPlace, Cond.instanceMethod yX6_nextPlace, Cond.selects RX6 yX6_nextPlace yX6_nextPlace, Cond.code yX6_nextPlace cX6_nextPlace 6 (some .int), Cond.fieldLink RX6 67 "BoredPipesModel" "holes" "I"]
def wsX6_toneOf_r2 : List Cond := [Cond.methodLink RX6 111 yX6_sineOf, Cond.static yX6_sineOf, Cond.code yX6_sineOf cX6_sineOf 7 (some .long), Cond.constant RX6 102 (32768), Cond.constantLong RX6 103 (32768), Cond.constantLong RX6 105 (131068), Cond.constantLong RX6 107 (1342177280), Cond.methodLink RX6 90 yX6_pieceOf, Cond.instanceMethod yX6_pieceOf, Cond.selects RX6 yX6_pieceOf yX6_pieceOf, Cond.code yX6_pieceOf cX6_pieceOf 4 (some .int), Cond.methodLink RX6 127 yX6_isLarge, Cond.static yX6_isLarge, Cond.code yX6_isLarge cX6_isLarge 2 (some .boolean), Cond.constantLong RX6 115 (1099511627776), Cond.constantLong RX6 117 (-1099511627776), Cond.methodLink RX6 74 yX6_holeAt, Cond.instanceMethod yX6_holeAt, Cond.selects RX6 yX6_holeAt yX6_holeAt, Cond.code yX6_holeAt cX6_holeAt 4 (some .int)]
def wsX6_toneOf : List Cond := .code yX6_toneOf cX6_toneOf 6 (some .int) :: ((wsX6_toneOf_r1 ++ wsX6_toneOf_r2) ++ wsX60)
def wsX6_missOf_r1 : List Cond := [Cond.fieldLink RX6 22 "BoredPipesModel" "opens" "[I", Cond.fieldLink RX6 25 "BoredPipesModel" "whiches" "[I", Cond.fieldLink RX6 28 "BoredPipesModel" "wanteds" "[I", Cond.methodLink RX6 151 yX6_toneOf, Cond.instanceMethod yX6_toneOf, Cond.selects RX6 yX6_toneOf yX6_toneOf, Cond.initialized RX6, Cond.code yX6_toneOf cX6_toneOf 6 (some .int), Cond.fieldLink RX6 148 "BoredPipesModel" "toneMany" "I", Cond.fieldLink RX6 42 "BoredPipesModel" "pieces" "I", Cond.methodLink RX6 144 yX6_worthOf, Cond.instanceMethod yX6_worthOf, Cond.selects RX6 yX6_worthOf yX6_worthOf, Cond.code yX6_worthOf cX6_worthOf 23 (some .long), Cond.fieldLink RX6 19 "BoredPipesModel" "ends" "[I", Cond.constantLong RX6 119 (1048576), Cond.constant RX6 124 (65536), Cond.fieldLink RX6 13 "BoredPipesModel" "bores" "[I", Cond.constantLong RX6 125 (10000), Cond.fieldLink RX6 16 "BoredPipesModel" "bored" "[I", Cond.constantLong RX6 131 (25), Cond.methodLink RX6 57 yX6_whole, Cond.instanceMethod yX6_whole, Cond.selects RX6 yX6_whole yX6_whole]
def wsX6_missOf_r2 : List Cond := [Cond.code yX6_whole cX6_whole 3 (some .int), Cond.fieldLink RX6 7 "BoredPipesModel" "lengths" "[I", Cond.methodLink RX6 121 yX6_nextPlace, Cond.instanceMethod yX6_nextPlace, Cond.selects RX6 yX6_nextPlace yX6_nextPlace, Cond.code yX6_nextPlace cX6_nextPlace 6 (some .int), Cond.fieldLink RX6 67 "BoredPipesModel" "holes" "I", Cond.methodLink RX6 111 yX6_sineOf, Cond.static yX6_sineOf, Cond.code yX6_sineOf cX6_sineOf 7 (some .long), Cond.constant RX6 102 (32768), Cond.constantLong RX6 103 (32768), Cond.constantLong RX6 105 (131068), Cond.constantLong RX6 107 (1342177280), Cond.methodLink RX6 90 yX6_pieceOf, Cond.instanceMethod yX6_pieceOf, Cond.selects RX6 yX6_pieceOf yX6_pieceOf, Cond.code yX6_pieceOf cX6_pieceOf 4 (some .int), Cond.methodLink RX6 127 yX6_isLarge, Cond.static yX6_isLarge, Cond.code yX6_isLarge cX6_isLarge 2 (some .boolean), Cond.constantLong RX6 115 (1099511627776), Cond.constantLong RX6 117 (-1099511627776), Cond.methodLink RX6 74 yX6_holeAt]
def wsX6_missOf_r3 : List Cond := [Cond.instanceMethod yX6_holeAt, Cond.selects RX6 yX6_holeAt yX6_holeAt, Cond.code yX6_holeAt cX6_holeAt 4 (some .int)]
def wsX6_missOf : List Cond := .code yX6_missOf cX6_missOf 4 (some .int) :: ((wsX6_missOf_r1 ++ (wsX6_missOf_r2 ++ wsX6_missOf_r3)) ++ wsX60)
def wsX6_greatest_r1 : List Cond := [Cond.fieldLink RX6 82 "BoredPipesModel" "notes" "I", Cond.methodLink RX6 157 yX6_missOf, Cond.instanceMethod yX6_missOf, Cond.selects RX6 yX6_missOf yX6_missOf, Cond.initialized RX6, Cond.code yX6_missOf cX6_missOf 4 (some .int), Cond.fieldLink RX6 22 "BoredPipesModel" "opens" "[I", Cond.fieldLink RX6 25 "BoredPipesModel" "whiches" "[I", Cond.fieldLink RX6 28 "BoredPipesModel" "wanteds" "[I", Cond.methodLink RX6 151 yX6_toneOf, Cond.instanceMethod yX6_toneOf, Cond.selects RX6 yX6_toneOf yX6_toneOf, Cond.code yX6_toneOf cX6_toneOf 6 (some .int), Cond.fieldLink RX6 148 "BoredPipesModel" "toneMany" "I", Cond.fieldLink RX6 42 "BoredPipesModel" "pieces" "I", Cond.methodLink RX6 144 yX6_worthOf, Cond.instanceMethod yX6_worthOf, Cond.selects RX6 yX6_worthOf yX6_worthOf, Cond.code yX6_worthOf cX6_worthOf 23 (some .long), Cond.fieldLink RX6 19 "BoredPipesModel" "ends" "[I", Cond.constantLong RX6 119 (1048576), Cond.constant RX6 124 (65536), Cond.fieldLink RX6 13 "BoredPipesModel" "bores" "[I", Cond.constantLong RX6 125 (10000)]
def wsX6_greatest_r2 : List Cond := [Cond.fieldLink RX6 16 "BoredPipesModel" "bored" "[I", Cond.constantLong RX6 131 (25), Cond.methodLink RX6 57 yX6_whole, Cond.instanceMethod yX6_whole, Cond.selects RX6 yX6_whole yX6_whole, Cond.code yX6_whole cX6_whole 3 (some .int), Cond.fieldLink RX6 7 "BoredPipesModel" "lengths" "[I", Cond.methodLink RX6 121 yX6_nextPlace, Cond.instanceMethod yX6_nextPlace, Cond.selects RX6 yX6_nextPlace yX6_nextPlace, Cond.code yX6_nextPlace cX6_nextPlace 6 (some .int), Cond.fieldLink RX6 67 "BoredPipesModel" "holes" "I", Cond.methodLink RX6 111 yX6_sineOf, Cond.static yX6_sineOf, Cond.code yX6_sineOf cX6_sineOf 7 (some .long), Cond.constant RX6 102 (32768), Cond.constantLong RX6 103 (32768), Cond.constantLong RX6 105 (131068), Cond.constantLong RX6 107 (1342177280), Cond.methodLink RX6 90 yX6_pieceOf, Cond.instanceMethod yX6_pieceOf, Cond.selects RX6 yX6_pieceOf yX6_pieceOf, Cond.code yX6_pieceOf cX6_pieceOf 4 (some .int), Cond.methodLink RX6 127 yX6_isLarge]
def wsX6_greatest_r3 : List Cond := [Cond.static yX6_isLarge, Cond.code yX6_isLarge cX6_isLarge 2 (some .boolean), Cond.constantLong RX6 115 (1099511627776), Cond.constantLong RX6 117 (-1099511627776), Cond.methodLink RX6 74 yX6_holeAt, Cond.instanceMethod yX6_holeAt, Cond.selects RX6 yX6_holeAt yX6_holeAt, Cond.code yX6_holeAt cX6_holeAt 4 (some .int)]
def wsX6_greatest : List Cond := .code yX6_greatest cX6_greatest 4 (some .int) :: ((wsX6_greatest_r1 ++ (wsX6_greatest_r2 ++ wsX6_greatest_r3)) ++ wsX60)
def wsX6_sumOfMisses_r1 : List Cond := [Cond.fieldLink RX6 82 "BoredPipesModel" "notes" "I", Cond.methodLink RX6 157 yX6_missOf, Cond.instanceMethod yX6_missOf, Cond.selects RX6 yX6_missOf yX6_missOf, Cond.initialized RX6, Cond.code yX6_missOf cX6_missOf 4 (some .int), Cond.fieldLink RX6 22 "BoredPipesModel" "opens" "[I", Cond.fieldLink RX6 25 "BoredPipesModel" "whiches" "[I", Cond.fieldLink RX6 28 "BoredPipesModel" "wanteds" "[I", Cond.methodLink RX6 151 yX6_toneOf, Cond.instanceMethod yX6_toneOf, Cond.selects RX6 yX6_toneOf yX6_toneOf, Cond.code yX6_toneOf cX6_toneOf 6 (some .int), Cond.fieldLink RX6 148 "BoredPipesModel" "toneMany" "I", Cond.fieldLink RX6 42 "BoredPipesModel" "pieces" "I", Cond.methodLink RX6 144 yX6_worthOf, Cond.instanceMethod yX6_worthOf, Cond.selects RX6 yX6_worthOf yX6_worthOf, Cond.code yX6_worthOf cX6_worthOf 23 (some .long), Cond.fieldLink RX6 19 "BoredPipesModel" "ends" "[I", Cond.constantLong RX6 119 (1048576), Cond.constant RX6 124 (65536), Cond.fieldLink RX6 13 "BoredPipesModel" "bores" "[I", Cond.constantLong RX6 125 (10000)]
def wsX6_sumOfMisses_r2 : List Cond := [Cond.fieldLink RX6 16 "BoredPipesModel" "bored" "[I", Cond.constantLong RX6 131 (25), Cond.methodLink RX6 57 yX6_whole, Cond.instanceMethod yX6_whole, Cond.selects RX6 yX6_whole yX6_whole, Cond.code yX6_whole cX6_whole 3 (some .int), Cond.fieldLink RX6 7 "BoredPipesModel" "lengths" "[I", Cond.methodLink RX6 121 yX6_nextPlace, Cond.instanceMethod yX6_nextPlace, Cond.selects RX6 yX6_nextPlace yX6_nextPlace, Cond.code yX6_nextPlace cX6_nextPlace 6 (some .int), Cond.fieldLink RX6 67 "BoredPipesModel" "holes" "I", Cond.methodLink RX6 111 yX6_sineOf, Cond.static yX6_sineOf, Cond.code yX6_sineOf cX6_sineOf 7 (some .long), Cond.constant RX6 102 (32768), Cond.constantLong RX6 103 (32768), Cond.constantLong RX6 105 (131068), Cond.constantLong RX6 107 (1342177280), Cond.methodLink RX6 90 yX6_pieceOf, Cond.instanceMethod yX6_pieceOf, Cond.selects RX6 yX6_pieceOf yX6_pieceOf, Cond.code yX6_pieceOf cX6_pieceOf 4 (some .int), Cond.methodLink RX6 127 yX6_isLarge]
def wsX6_sumOfMisses_r3 : List Cond := [Cond.static yX6_isLarge, Cond.code yX6_isLarge cX6_isLarge 2 (some .boolean), Cond.constantLong RX6 115 (1099511627776), Cond.constantLong RX6 117 (-1099511627776), Cond.methodLink RX6 74 yX6_holeAt, Cond.instanceMethod yX6_holeAt, Cond.selects RX6 yX6_holeAt yX6_holeAt, Cond.code yX6_holeAt cX6_holeAt 4 (some .int)]
def wsX6_sumOfMisses : List Cond := .code yX6_sumOfMisses cX6_sumOfMisses 3 (some .int) :: ((wsX6_sumOfMisses_r1 ++ (wsX6_sumOfMisses_r2 ++ wsX6_sumOfMisses_r3)) ++ wsX60)
def wsX6_count_r1 : List Cond := [Cond.fieldLink RX6 42 "BoredPipesModel" "pieces" "I", Cond.fieldLink RX6 67 "BoredPipesModel" "holes" "I", Cond.fieldLink RX6 82 "BoredPipesModel" "notes" "I", Cond.fieldLink RX6 19 "BoredPipesModel" "ends" "[I", Cond.fieldLink RX6 35 "BoredPipesModel" "reach" "I", Cond.fieldLink RX6 85 "BoredPipesModel" "rounds" "I", Cond.methodLink RX6 57 yX6_whole, Cond.instanceMethod yX6_whole, Cond.selects RX6 yX6_whole yX6_whole, Cond.initialized RX6, Cond.code yX6_whole cX6_whole 3 (some .int), Cond.fieldLink RX6 7 "BoredPipesModel" "lengths" "[I", Cond.methodLink RX6 93 yX6_drillMany, Cond.instanceMethod yX6_drillMany, Cond.selects RX6 yX6_drillMany yX6_drillMany, Cond.code yX6_drillMany cX6_drillMany 3 (some .int), Cond.fieldLink RX6 31 "BoredPipesModel" "drills" "[Z", Cond.methodLink RX6 96 yX6_greatest, Cond.instanceMethod yX6_greatest, Cond.selects RX6 yX6_greatest yX6_greatest, Cond.code yX6_greatest cX6_greatest 4 (some .int), Cond.methodLink RX6 157 yX6_missOf, Cond.instanceMethod yX6_missOf, Cond.selects RX6 yX6_missOf yX6_missOf]
def wsX6_count_r2 : List Cond := [Cond.code yX6_missOf cX6_missOf 4 (some .int), Cond.fieldLink RX6 22 "BoredPipesModel" "opens" "[I", Cond.fieldLink RX6 25 "BoredPipesModel" "whiches" "[I", Cond.fieldLink RX6 28 "BoredPipesModel" "wanteds" "[I", Cond.methodLink RX6 151 yX6_toneOf, Cond.instanceMethod yX6_toneOf, Cond.selects RX6 yX6_toneOf yX6_toneOf, Cond.code yX6_toneOf cX6_toneOf 6 (some .int), Cond.fieldLink RX6 148 "BoredPipesModel" "toneMany" "I", Cond.methodLink RX6 144 yX6_worthOf, Cond.instanceMethod yX6_worthOf, Cond.selects RX6 yX6_worthOf yX6_worthOf, Cond.code yX6_worthOf cX6_worthOf 23 (some .long), Cond.constantLong RX6 119 (1048576), Cond.constant RX6 124 (65536), Cond.fieldLink RX6 13 "BoredPipesModel" "bores" "[I", Cond.constantLong RX6 125 (10000), Cond.fieldLink RX6 16 "BoredPipesModel" "bored" "[I", Cond.constantLong RX6 131 (25), Cond.methodLink RX6 121 yX6_nextPlace, Cond.instanceMethod yX6_nextPlace, Cond.selects RX6 yX6_nextPlace yX6_nextPlace, Cond.code yX6_nextPlace cX6_nextPlace 6 (some .int), Cond.methodLink RX6 111 yX6_sineOf]
def wsX6_count_r3 : List Cond := [Cond.static yX6_sineOf, Cond.code yX6_sineOf cX6_sineOf 7 (some .long), Cond.constant RX6 102 (32768), Cond.constantLong RX6 103 (32768), Cond.constantLong RX6 105 (131068), Cond.constantLong RX6 107 (1342177280), Cond.methodLink RX6 90 yX6_pieceOf, Cond.instanceMethod yX6_pieceOf, Cond.selects RX6 yX6_pieceOf yX6_pieceOf, Cond.code yX6_pieceOf cX6_pieceOf 4 (some .int), Cond.methodLink RX6 127 yX6_isLarge, Cond.static yX6_isLarge, Cond.code yX6_isLarge cX6_isLarge 2 (some .boolean), Cond.constantLong RX6 115 (1099511627776), Cond.constantLong RX6 117 (-1099511627776), Cond.methodLink RX6 74 yX6_holeAt, Cond.instanceMethod yX6_holeAt, Cond.selects RX6 yX6_holeAt yX6_holeAt, Cond.code yX6_holeAt cX6_holeAt 4 (some .int), Cond.methodLink RX6 99 yX6_sumOfMisses, Cond.instanceMethod yX6_sumOfMisses, Cond.selects RX6 yX6_sumOfMisses yX6_sumOfMisses, Cond.code yX6_sumOfMisses cX6_sumOfMisses 3 (some .int)]
def wsX6_count : List Cond := .code yX6_count cX6_count 2 (some .int) :: ((wsX6_count_r1 ++ (wsX6_count_r2 ++ wsX6_count_r3)) ++ wsX60)
def wsX6_sine : List Cond := .code yX6_sine cX6_sine 2 (some .int) :: ([.constantLong RX6 109 (65535), .methodLink RX6 47 yX6_in, .static yX6_in, .initialized RX6, .code yX6_in cX6_in 6 (some .boolean), .methodLink RX6 111 yX6_sineOf, .static yX6_sineOf, .code yX6_sineOf cX6_sineOf 7 (some .long), .constant RX6 102 (32768), .constantLong RX6 103 (32768), .constantLong RX6 105 (131068), .constantLong RX6 107 (1342177280)])
def wsX6_isSet : List Cond := .code yX6_isSet cX6_isSet 1 (some .boolean) :: ([.constantLong RX6 133 (63), .methodLink RX6 47 yX6_in, .static yX6_in, .initialized RX6, .code yX6_in cX6_in 6 (some .boolean)])
def wsX6_worth_r1 : List Cond := [Cond.constantLong RX6 135 (300), Cond.constantLong RX6 140 (-1002), Cond.fieldLink RX6 42 "BoredPipesModel" "pieces" "I", Cond.constantLong RX6 142 (-1003), Cond.methodLink RX6 47 yX6_in, Cond.static yX6_in, Cond.initialized RX6, Cond.code yX6_in cX6_in 6 (some .boolean), Cond.methodLink RX6 137 yX6_isSet, Cond.static yX6_isSet, Cond.code yX6_isSet cX6_isSet 1 (some .boolean), Cond.constantLong RX6 133 (63), Cond.methodLink RX6 144 yX6_worthOf, Cond.instanceMethod yX6_worthOf, Cond.selects RX6 yX6_worthOf yX6_worthOf, Cond.code yX6_worthOf cX6_worthOf 23 (some .long), Cond.fieldLink RX6 19 "BoredPipesModel" "ends" "[I", Cond.constantLong RX6 119 (1048576), Cond.constant RX6 124 (65536), Cond.fieldLink RX6 13 "BoredPipesModel" "bores" "[I", Cond.constantLong RX6 125 (10000), Cond.fieldLink RX6 16 "BoredPipesModel" "bored" "[I", Cond.constantLong RX6 131 (25), Cond.methodLink RX6 57 yX6_whole]
def wsX6_worth_r2 : List Cond := [Cond.instanceMethod yX6_whole, Cond.selects RX6 yX6_whole yX6_whole, Cond.code yX6_whole cX6_whole 3 (some .int), Cond.fieldLink RX6 7 "BoredPipesModel" "lengths" "[I", Cond.methodLink RX6 121 yX6_nextPlace, Cond.instanceMethod yX6_nextPlace, Cond.selects RX6 yX6_nextPlace yX6_nextPlace, Cond.code yX6_nextPlace cX6_nextPlace 6 (some .int), Cond.fieldLink RX6 67 "BoredPipesModel" "holes" "I", Cond.methodLink RX6 111 yX6_sineOf, Cond.static yX6_sineOf, Cond.code yX6_sineOf cX6_sineOf 7 (some .long), Cond.constant RX6 102 (32768), Cond.constantLong RX6 103 (32768), Cond.constantLong RX6 105 (131068), Cond.constantLong RX6 107 (1342177280), Cond.methodLink RX6 90 yX6_pieceOf, Cond.instanceMethod yX6_pieceOf, Cond.selects RX6 yX6_pieceOf yX6_pieceOf, Cond.code yX6_pieceOf cX6_pieceOf 4 (some .int), Cond.methodLink RX6 127 yX6_isLarge, Cond.static yX6_isLarge, Cond.code yX6_isLarge cX6_isLarge 2 (some .boolean), Cond.constantLong RX6 115 (1099511627776)]
def wsX6_worth_r3 : List Cond := [Cond.constantLong RX6 117 (-1099511627776), Cond.methodLink RX6 74 yX6_holeAt, Cond.instanceMethod yX6_holeAt, Cond.selects RX6 yX6_holeAt yX6_holeAt, Cond.code yX6_holeAt cX6_holeAt 4 (some .int)]
def wsX6_worth : List Cond := .code yX6_worth cX6_worth 3 (some .long) :: ((wsX6_worth_r1 ++ (wsX6_worth_r2 ++ wsX6_worth_r3)) ++ wsX60)
def wsX6_tone_r1 : List Cond := [Cond.fieldLink RX6 42 "BoredPipesModel" "pieces" "I", Cond.fieldLink RX6 148 "BoredPipesModel" "toneMany" "I", Cond.methodLink RX6 137 yX6_isSet, Cond.static yX6_isSet, Cond.initialized RX6, Cond.code yX6_isSet cX6_isSet 1 (some .boolean), Cond.constantLong RX6 133 (63), Cond.methodLink RX6 47 yX6_in, Cond.static yX6_in, Cond.code yX6_in cX6_in 6 (some .boolean), Cond.methodLink RX6 151 yX6_toneOf, Cond.instanceMethod yX6_toneOf, Cond.selects RX6 yX6_toneOf yX6_toneOf, Cond.code yX6_toneOf cX6_toneOf 6 (some .int), Cond.methodLink RX6 144 yX6_worthOf, Cond.instanceMethod yX6_worthOf, Cond.selects RX6 yX6_worthOf yX6_worthOf, Cond.code yX6_worthOf cX6_worthOf 23 (some .long), Cond.fieldLink RX6 19 "BoredPipesModel" "ends" "[I", Cond.constantLong RX6 119 (1048576), Cond.constant RX6 124 (65536), Cond.fieldLink RX6 13 "BoredPipesModel" "bores" "[I", Cond.constantLong RX6 125 (10000), Cond.fieldLink RX6 16 "BoredPipesModel" "bored" "[I"]
def wsX6_tone_r2 : List Cond := [Cond.constantLong RX6 131 (25), Cond.methodLink RX6 57 yX6_whole, Cond.instanceMethod yX6_whole, Cond.selects RX6 yX6_whole yX6_whole, Cond.code yX6_whole cX6_whole 3 (some .int), Cond.fieldLink RX6 7 "BoredPipesModel" "lengths" "[I", Cond.methodLink RX6 121 yX6_nextPlace, Cond.instanceMethod yX6_nextPlace, Cond.selects RX6 yX6_nextPlace yX6_nextPlace, Cond.code yX6_nextPlace cX6_nextPlace 6 (some .int), Cond.fieldLink RX6 67 "BoredPipesModel" "holes" "I", Cond.methodLink RX6 111 yX6_sineOf, Cond.static yX6_sineOf, Cond.code yX6_sineOf cX6_sineOf 7 (some .long), Cond.constant RX6 102 (32768), Cond.constantLong RX6 103 (32768), Cond.constantLong RX6 105 (131068), Cond.constantLong RX6 107 (1342177280), Cond.methodLink RX6 90 yX6_pieceOf, Cond.instanceMethod yX6_pieceOf, Cond.selects RX6 yX6_pieceOf yX6_pieceOf, Cond.code yX6_pieceOf cX6_pieceOf 4 (some .int), Cond.methodLink RX6 127 yX6_isLarge, Cond.static yX6_isLarge]
def wsX6_tone_r3 : List Cond := [Cond.code yX6_isLarge cX6_isLarge 2 (some .boolean), Cond.constantLong RX6 115 (1099511627776), Cond.constantLong RX6 117 (-1099511627776), Cond.methodLink RX6 74 yX6_holeAt, Cond.instanceMethod yX6_holeAt, Cond.selects RX6 yX6_holeAt yX6_holeAt, Cond.code yX6_holeAt cX6_holeAt 4 (some .int)]
def wsX6_tone : List Cond := .code yX6_tone cX6_tone 4 (some .int) :: ((wsX6_tone_r1 ++ (wsX6_tone_r2 ++ wsX6_tone_r3)) ++ wsX60)
def wsX6_nearest_r1 : List Cond := [Cond.constantLong RX6 135 (300), Cond.fieldLink RX6 42 "BoredPipesModel" "pieces" "I", Cond.fieldLink RX6 67 "BoredPipesModel" "holes" "I", Cond.methodLink RX6 47 yX6_in, Cond.static yX6_in, Cond.initialized RX6, Cond.code yX6_in cX6_in 6 (some .boolean), Cond.methodLink RX6 151 yX6_toneOf, Cond.instanceMethod yX6_toneOf, Cond.selects RX6 yX6_toneOf yX6_toneOf, Cond.code yX6_toneOf cX6_toneOf 6 (some .int), Cond.fieldLink RX6 148 "BoredPipesModel" "toneMany" "I", Cond.methodLink RX6 144 yX6_worthOf, Cond.instanceMethod yX6_worthOf, Cond.selects RX6 yX6_worthOf yX6_worthOf, Cond.code yX6_worthOf cX6_worthOf 23 (some .long), Cond.fieldLink RX6 19 "BoredPipesModel" "ends" "[I", Cond.constantLong RX6 119 (1048576), Cond.constant RX6 124 (65536), Cond.fieldLink RX6 13 "BoredPipesModel" "bores" "[I", Cond.constantLong RX6 125 (10000), Cond.fieldLink RX6 16 "BoredPipesModel" "bored" "[I", Cond.constantLong RX6 131 (25), Cond.methodLink RX6 57 yX6_whole]
def wsX6_nearest_r2 : List Cond := [Cond.instanceMethod yX6_whole, Cond.selects RX6 yX6_whole yX6_whole, Cond.code yX6_whole cX6_whole 3 (some .int), Cond.fieldLink RX6 7 "BoredPipesModel" "lengths" "[I", Cond.methodLink RX6 121 yX6_nextPlace, Cond.instanceMethod yX6_nextPlace, Cond.selects RX6 yX6_nextPlace yX6_nextPlace, Cond.code yX6_nextPlace cX6_nextPlace 6 (some .int), Cond.methodLink RX6 111 yX6_sineOf, Cond.static yX6_sineOf, Cond.code yX6_sineOf cX6_sineOf 7 (some .long), Cond.constant RX6 102 (32768), Cond.constantLong RX6 103 (32768), Cond.constantLong RX6 105 (131068), Cond.constantLong RX6 107 (1342177280), Cond.methodLink RX6 90 yX6_pieceOf, Cond.instanceMethod yX6_pieceOf, Cond.selects RX6 yX6_pieceOf yX6_pieceOf, Cond.code yX6_pieceOf cX6_pieceOf 4 (some .int), Cond.methodLink RX6 127 yX6_isLarge, Cond.static yX6_isLarge, Cond.code yX6_isLarge cX6_isLarge 2 (some .boolean), Cond.constantLong RX6 115 (1099511627776), Cond.constantLong RX6 117 (-1099511627776)]
def wsX6_nearest_r3 : List Cond := [Cond.methodLink RX6 74 yX6_holeAt, Cond.instanceMethod yX6_holeAt, Cond.selects RX6 yX6_holeAt yX6_holeAt, Cond.code yX6_holeAt cX6_holeAt 4 (some .int)]
def wsX6_nearest : List Cond := .code yX6_nearest cX6_nearest 9 (some .int) :: ((wsX6_nearest_r1 ++ (wsX6_nearest_r2 ++ wsX6_nearest_r3)) ++ wsX60)
def wsX6_note : List Cond := .code yX6_note cX6_note 4 (some .int) :: ([.constantLong RX6 155 (5), .constantLong RX6 135 (300), .fieldLink RX6 82 "BoredPipesModel" "notes" "I", .fieldLink RX6 22 "BoredPipesModel" "opens" "[I", .fieldLink RX6 25 "BoredPipesModel" "whiches" "[I", .fieldLink RX6 28 "BoredPipesModel" "wanteds" "[I", .methodLink RX6 137 yX6_isSet, .static yX6_isSet, .initialized RX6, .code yX6_isSet cX6_isSet 1 (some .boolean), .constantLong RX6 133 (63), .methodLink RX6 47 yX6_in, .static yX6_in, .code yX6_in cX6_in 6 (some .boolean)] ++ wsX60)
def wsX6_noted_r1 : List Cond := [Cond.fieldLink RX6 82 "BoredPipesModel" "notes" "I", Cond.fieldLink RX6 22 "BoredPipesModel" "opens" "[I", Cond.fieldLink RX6 25 "BoredPipesModel" "whiches" "[I", Cond.fieldLink RX6 28 "BoredPipesModel" "wanteds" "[I", Cond.methodLink RX6 47 yX6_in, Cond.static yX6_in, Cond.initialized RX6, Cond.code yX6_in cX6_in 6 (some .boolean), Cond.methodLink RX6 151 yX6_toneOf, Cond.instanceMethod yX6_toneOf, Cond.selects RX6 yX6_toneOf yX6_toneOf, Cond.code yX6_toneOf cX6_toneOf 6 (some .int), Cond.fieldLink RX6 148 "BoredPipesModel" "toneMany" "I", Cond.fieldLink RX6 42 "BoredPipesModel" "pieces" "I", Cond.methodLink RX6 144 yX6_worthOf, Cond.instanceMethod yX6_worthOf, Cond.selects RX6 yX6_worthOf yX6_worthOf, Cond.code yX6_worthOf cX6_worthOf 23 (some .long), Cond.fieldLink RX6 19 "BoredPipesModel" "ends" "[I", Cond.constantLong RX6 119 (1048576), Cond.constant RX6 124 (65536), Cond.fieldLink RX6 13 "BoredPipesModel" "bores" "[I", Cond.constantLong RX6 125 (10000), Cond.fieldLink RX6 16 "BoredPipesModel" "bored" "[I"]
def wsX6_noted_r2 : List Cond := [Cond.constantLong RX6 131 (25), Cond.methodLink RX6 57 yX6_whole, Cond.instanceMethod yX6_whole, Cond.selects RX6 yX6_whole yX6_whole, Cond.code yX6_whole cX6_whole 3 (some .int), Cond.fieldLink RX6 7 "BoredPipesModel" "lengths" "[I", Cond.methodLink RX6 121 yX6_nextPlace, Cond.instanceMethod yX6_nextPlace, Cond.selects RX6 yX6_nextPlace yX6_nextPlace, Cond.code yX6_nextPlace cX6_nextPlace 6 (some .int), Cond.fieldLink RX6 67 "BoredPipesModel" "holes" "I", Cond.methodLink RX6 111 yX6_sineOf, Cond.static yX6_sineOf, Cond.code yX6_sineOf cX6_sineOf 7 (some .long), Cond.constant RX6 102 (32768), Cond.constantLong RX6 103 (32768), Cond.constantLong RX6 105 (131068), Cond.constantLong RX6 107 (1342177280), Cond.methodLink RX6 90 yX6_pieceOf, Cond.instanceMethod yX6_pieceOf, Cond.selects RX6 yX6_pieceOf yX6_pieceOf, Cond.code yX6_pieceOf cX6_pieceOf 4 (some .int), Cond.methodLink RX6 127 yX6_isLarge, Cond.static yX6_isLarge]
def wsX6_noted_r3 : List Cond := [Cond.code yX6_isLarge cX6_isLarge 2 (some .boolean), Cond.constantLong RX6 115 (1099511627776), Cond.constantLong RX6 117 (-1099511627776), Cond.methodLink RX6 74 yX6_holeAt, Cond.instanceMethod yX6_holeAt, Cond.selects RX6 yX6_holeAt yX6_holeAt, Cond.code yX6_holeAt cX6_holeAt 4 (some .int), Cond.methodLink RX6 157 yX6_missOf, Cond.instanceMethod yX6_missOf, Cond.selects RX6 yX6_missOf yX6_missOf, Cond.code yX6_missOf cX6_missOf 4 (some .int)]
def wsX6_noted : List Cond := .code yX6_noted cX6_noted 3 (some .int) :: ((wsX6_noted_r1 ++ (wsX6_noted_r2 ++ wsX6_noted_r3)) ++ wsX60)
def wsX6_badness_r1 : List Cond := [Cond.fieldLink RX6 82 "BoredPipesModel" "notes" "I", Cond.methodLink RX6 157 yX6_missOf, Cond.instanceMethod yX6_missOf, Cond.selects RX6 yX6_missOf yX6_missOf, Cond.initialized RX6, Cond.code yX6_missOf cX6_missOf 4 (some .int), Cond.fieldLink RX6 22 "BoredPipesModel" "opens" "[I", Cond.fieldLink RX6 25 "BoredPipesModel" "whiches" "[I", Cond.fieldLink RX6 28 "BoredPipesModel" "wanteds" "[I", Cond.methodLink RX6 151 yX6_toneOf, Cond.instanceMethod yX6_toneOf, Cond.selects RX6 yX6_toneOf yX6_toneOf, Cond.code yX6_toneOf cX6_toneOf 6 (some .int), Cond.fieldLink RX6 148 "BoredPipesModel" "toneMany" "I", Cond.fieldLink RX6 42 "BoredPipesModel" "pieces" "I", Cond.methodLink RX6 144 yX6_worthOf, Cond.instanceMethod yX6_worthOf, Cond.selects RX6 yX6_worthOf yX6_worthOf, Cond.code yX6_worthOf cX6_worthOf 23 (some .long), Cond.fieldLink RX6 19 "BoredPipesModel" "ends" "[I", Cond.constantLong RX6 119 (1048576), Cond.constant RX6 124 (65536), Cond.fieldLink RX6 13 "BoredPipesModel" "bores" "[I", Cond.constantLong RX6 125 (10000)]
def wsX6_badness_r2 : List Cond := [Cond.fieldLink RX6 16 "BoredPipesModel" "bored" "[I", Cond.constantLong RX6 131 (25), Cond.methodLink RX6 57 yX6_whole, Cond.instanceMethod yX6_whole, Cond.selects RX6 yX6_whole yX6_whole, Cond.code yX6_whole cX6_whole 3 (some .int), Cond.fieldLink RX6 7 "BoredPipesModel" "lengths" "[I", Cond.methodLink RX6 121 yX6_nextPlace, Cond.instanceMethod yX6_nextPlace, Cond.selects RX6 yX6_nextPlace yX6_nextPlace, Cond.code yX6_nextPlace cX6_nextPlace 6 (some .int), Cond.fieldLink RX6 67 "BoredPipesModel" "holes" "I", Cond.methodLink RX6 111 yX6_sineOf, Cond.static yX6_sineOf, Cond.code yX6_sineOf cX6_sineOf 7 (some .long), Cond.constant RX6 102 (32768), Cond.constantLong RX6 103 (32768), Cond.constantLong RX6 105 (131068), Cond.constantLong RX6 107 (1342177280), Cond.methodLink RX6 90 yX6_pieceOf, Cond.instanceMethod yX6_pieceOf, Cond.selects RX6 yX6_pieceOf yX6_pieceOf, Cond.code yX6_pieceOf cX6_pieceOf 4 (some .int), Cond.methodLink RX6 127 yX6_isLarge]
def wsX6_badness_r3 : List Cond := [Cond.static yX6_isLarge, Cond.code yX6_isLarge cX6_isLarge 2 (some .boolean), Cond.constantLong RX6 115 (1099511627776), Cond.constantLong RX6 117 (-1099511627776), Cond.methodLink RX6 74 yX6_holeAt, Cond.instanceMethod yX6_holeAt, Cond.selects RX6 yX6_holeAt yX6_holeAt, Cond.code yX6_holeAt cX6_holeAt 4 (some .int)]
def wsX6_badness : List Cond := .code yX6_badness cX6_badness 5 (some .int) :: ((wsX6_badness_r1 ++ (wsX6_badness_r2 ++ wsX6_badness_r3)) ++ wsX60)
def wsX6_drill : List Cond := .code yX6_drill cX6_drill 3 (some .int) :: ([.constantLong RX6 65 (60), .fieldLink RX6 31 "BoredPipesModel" "drills" "[Z", .methodLink RX6 47 yX6_in, .static yX6_in, .initialized RX6, .code yX6_in cX6_in 6 (some .boolean), .methodLink RX6 93 yX6_drillMany, .instanceMethod yX6_drillMany, .selects RX6 yX6_drillMany yX6_drillMany, .code yX6_drillMany cX6_drillMany 3 (some .int)] ++ wsX60)
def wsX6_reach : List Cond := .code yX6_reach cX6_reach 3 (some .int) :: ([.constantLong RX6 51 (100), .fieldLink RX6 35 "BoredPipesModel" "reach" "I", .methodLink RX6 47 yX6_in, .static yX6_in, .initialized RX6, .code yX6_in cX6_in 6 (some .boolean)] ++ wsX60)
def wsX6_beside : List Cond := .code yX6_beside cX6_beside 6 (some .int) :: ([.fieldLink RX6 67 "BoredPipesModel" "holes" "I", .fieldLink RX6 16 "BoredPipesModel" "bored" "[I"] ++ wsX60)
def wsX6_mayPlace_r1 : List Cond := [Cond.fieldLink RX6 16 "BoredPipesModel" "bored" "[I", Cond.fieldLink RX6 35 "BoredPipesModel" "reach" "I", Cond.methodLink RX6 70 yX6_fits, Cond.instanceMethod yX6_fits, Cond.selects RX6 yX6_fits yX6_fits, Cond.initialized RX6, Cond.code yX6_fits cX6_fits 3 (some .boolean), Cond.constantLong RX6 65 (60), Cond.methodLink RX6 57 yX6_whole, Cond.instanceMethod yX6_whole, Cond.selects RX6 yX6_whole yX6_whole, Cond.code yX6_whole cX6_whole 3 (some .int), Cond.fieldLink RX6 42 "BoredPipesModel" "pieces" "I", Cond.fieldLink RX6 7 "BoredPipesModel" "lengths" "[I", Cond.methodLink RX6 47 yX6_in, Cond.static yX6_in, Cond.code yX6_in cX6_in 6 (some .boolean), Cond.methodLink RX6 74 yX6_holeAt, Cond.instanceMethod yX6_holeAt, Cond.selects RX6 yX6_holeAt yX6_holeAt, Cond.code yX6_holeAt cX6_holeAt 4 (some .int), Cond.fieldLink RX6 67 "BoredPipesModel" "holes" "I", Cond.methodLink RX6 160 yX6_beside, Cond.instanceMethod yX6_beside]
def wsX6_mayPlace_r2 : List Cond := [Cond.selects RX6 yX6_beside yX6_beside, Cond.code yX6_beside cX6_beside 6 (some .int)]
def wsX6_mayPlace : List Cond := .code yX6_mayPlace cX6_mayPlace 6 (some .boolean) :: ((wsX6_mayPlace_r1 ++ wsX6_mayPlace_r2) ++ wsX60)
def wsX6_moved_r1 : List Cond := [Cond.fieldLink RX6 16 "BoredPipesModel" "bored" "[I", Cond.constantLong RX6 65 (60), Cond.fieldLink RX6 31 "BoredPipesModel" "drills" "[Z", Cond.methodLink RX6 163 yX6_mayPlace, Cond.instanceMethod yX6_mayPlace, Cond.selects RX6 yX6_mayPlace yX6_mayPlace, Cond.initialized RX6, Cond.code yX6_mayPlace cX6_mayPlace 6 (some .boolean), Cond.fieldLink RX6 35 "BoredPipesModel" "reach" "I", Cond.methodLink RX6 70 yX6_fits, Cond.instanceMethod yX6_fits, Cond.selects RX6 yX6_fits yX6_fits, Cond.code yX6_fits cX6_fits 3 (some .boolean), Cond.methodLink RX6 57 yX6_whole, Cond.instanceMethod yX6_whole, Cond.selects RX6 yX6_whole yX6_whole, Cond.code yX6_whole cX6_whole 3 (some .int), Cond.fieldLink RX6 42 "BoredPipesModel" "pieces" "I", Cond.fieldLink RX6 7 "BoredPipesModel" "lengths" "[I", Cond.methodLink RX6 47 yX6_in, Cond.static yX6_in, Cond.code yX6_in cX6_in 6 (some .boolean), Cond.methodLink RX6 74 yX6_holeAt, Cond.instanceMethod yX6_holeAt]
def wsX6_moved_r2 : List Cond := [Cond.selects RX6 yX6_holeAt yX6_holeAt, Cond.code yX6_holeAt cX6_holeAt 4 (some .int), Cond.fieldLink RX6 67 "BoredPipesModel" "holes" "I", Cond.methodLink RX6 160 yX6_beside, Cond.instanceMethod yX6_beside, Cond.selects RX6 yX6_beside yX6_beside, Cond.code yX6_beside cX6_beside 6 (some .int)]
def wsX6_moved : List Cond := .code yX6_moved cX6_moved 6 (some .int) :: ((wsX6_moved_r1 ++ wsX6_moved_r2) ++ wsX60)
def wsX6_round_r1 : List Cond := [Cond.fieldLink RX6 42 "BoredPipesModel" "pieces" "I", Cond.fieldLink RX6 67 "BoredPipesModel" "holes" "I", Cond.fieldLink RX6 82 "BoredPipesModel" "notes" "I", Cond.fieldLink RX6 16 "BoredPipesModel" "bored" "[I", Cond.fieldLink RX6 85 "BoredPipesModel" "rounds" "I", Cond.methodLink RX6 166 yX6_badness, Cond.instanceMethod yX6_badness, Cond.selects RX6 yX6_badness yX6_badness, Cond.initialized RX6, Cond.code yX6_badness cX6_badness 5 (some .int), Cond.methodLink RX6 157 yX6_missOf, Cond.instanceMethod yX6_missOf, Cond.selects RX6 yX6_missOf yX6_missOf, Cond.code yX6_missOf cX6_missOf 4 (some .int), Cond.fieldLink RX6 22 "BoredPipesModel" "opens" "[I", Cond.fieldLink RX6 25 "BoredPipesModel" "whiches" "[I", Cond.fieldLink RX6 28 "BoredPipesModel" "wanteds" "[I", Cond.methodLink RX6 151 yX6_toneOf, Cond.instanceMethod yX6_toneOf, Cond.selects RX6 yX6_toneOf yX6_toneOf, Cond.code yX6_toneOf cX6_toneOf 6 (some .int), Cond.fieldLink RX6 148 "BoredPipesModel" "toneMany" "I", Cond.methodLink RX6 144 yX6_worthOf, Cond.instanceMethod yX6_worthOf]
def wsX6_round_r2 : List Cond := [Cond.selects RX6 yX6_worthOf yX6_worthOf, Cond.code yX6_worthOf cX6_worthOf 23 (some .long), Cond.fieldLink RX6 19 "BoredPipesModel" "ends" "[I", Cond.constantLong RX6 119 (1048576), Cond.constant RX6 124 (65536), Cond.fieldLink RX6 13 "BoredPipesModel" "bores" "[I", Cond.constantLong RX6 125 (10000), Cond.constantLong RX6 131 (25), Cond.methodLink RX6 57 yX6_whole, Cond.instanceMethod yX6_whole, Cond.selects RX6 yX6_whole yX6_whole, Cond.code yX6_whole cX6_whole 3 (some .int), Cond.fieldLink RX6 7 "BoredPipesModel" "lengths" "[I", Cond.methodLink RX6 121 yX6_nextPlace, Cond.instanceMethod yX6_nextPlace, Cond.selects RX6 yX6_nextPlace yX6_nextPlace, Cond.code yX6_nextPlace cX6_nextPlace 6 (some .int), Cond.methodLink RX6 111 yX6_sineOf, Cond.static yX6_sineOf, Cond.code yX6_sineOf cX6_sineOf 7 (some .long), Cond.constant RX6 102 (32768), Cond.constantLong RX6 103 (32768), Cond.constantLong RX6 105 (131068), Cond.constantLong RX6 107 (1342177280)]
def wsX6_round_r3 : List Cond := [Cond.methodLink RX6 90 yX6_pieceOf, Cond.instanceMethod yX6_pieceOf, Cond.selects RX6 yX6_pieceOf yX6_pieceOf, Cond.code yX6_pieceOf cX6_pieceOf 4 (some .int), Cond.methodLink RX6 127 yX6_isLarge, Cond.static yX6_isLarge, Cond.code yX6_isLarge cX6_isLarge 2 (some .boolean), Cond.constantLong RX6 115 (1099511627776), Cond.constantLong RX6 117 (-1099511627776), Cond.methodLink RX6 74 yX6_holeAt, Cond.instanceMethod yX6_holeAt, Cond.selects RX6 yX6_holeAt yX6_holeAt, Cond.code yX6_holeAt cX6_holeAt 4 (some .int), Cond.methodLink RX6 169 yX6_moved, Cond.instanceMethod yX6_moved, Cond.selects RX6 yX6_moved yX6_moved, Cond.code yX6_moved cX6_moved 6 (some .int), Cond.constantLong RX6 65 (60), Cond.fieldLink RX6 31 "BoredPipesModel" "drills" "[Z", Cond.methodLink RX6 163 yX6_mayPlace, Cond.instanceMethod yX6_mayPlace, Cond.selects RX6 yX6_mayPlace yX6_mayPlace, Cond.code yX6_mayPlace cX6_mayPlace 6 (some .boolean), Cond.fieldLink RX6 35 "BoredPipesModel" "reach" "I"]
def wsX6_round_r4 : List Cond := [Cond.methodLink RX6 70 yX6_fits, Cond.instanceMethod yX6_fits, Cond.selects RX6 yX6_fits yX6_fits, Cond.code yX6_fits cX6_fits 3 (some .boolean), Cond.methodLink RX6 47 yX6_in, Cond.static yX6_in, Cond.code yX6_in cX6_in 6 (some .boolean), Cond.methodLink RX6 160 yX6_beside, Cond.instanceMethod yX6_beside, Cond.selects RX6 yX6_beside yX6_beside, Cond.code yX6_beside cX6_beside 6 (some .int)]
def wsX6_round : List Cond := .code yX6_round cX6_round 11 (some .int) :: ((wsX6_round_r1 ++ (wsX6_round_r2 ++ (wsX6_round_r3 ++ wsX6_round_r4))) ++ wsX60)
def wsX6_keep : List Cond := .code yX6_keep cX6_keep 3 (some .int) :: ([.fieldLink RX6 39 "BoredPipesModel" "shelf" "[I", .fieldLink RX6 42 "BoredPipesModel" "pieces" "I", .fieldLink RX6 67 "BoredPipesModel" "holes" "I", .fieldLink RX6 19 "BoredPipesModel" "ends" "[I", .fieldLink RX6 7 "BoredPipesModel" "lengths" "[I", .fieldLink RX6 13 "BoredPipesModel" "bores" "[I", .fieldLink RX6 16 "BoredPipesModel" "bored" "[I", .methodLink RX6 47 yX6_in, .static yX6_in, .initialized RX6, .code yX6_in cX6_in 6 (some .boolean)] ++ wsX60)
def wsX6_back : List Cond := .code yX6_back cX6_back 3 (some .int) :: ([.fieldLink RX6 39 "BoredPipesModel" "shelf" "[I", .fieldLink RX6 42 "BoredPipesModel" "pieces" "I", .fieldLink RX6 67 "BoredPipesModel" "holes" "I", .fieldLink RX6 19 "BoredPipesModel" "ends" "[I", .fieldLink RX6 7 "BoredPipesModel" "lengths" "[I", .fieldLink RX6 13 "BoredPipesModel" "bores" "[I", .fieldLink RX6 16 "BoredPipesModel" "bored" "[I", .methodLink RX6 47 yX6_in, .static yX6_in, .initialized RX6, .code yX6_in cX6_in 6 (some .boolean)] ++ wsX60)
def wsX6_unlike : List Cond := .code yX6_unlike cX6_unlike 3 (some .int) :: ([])
def wsX6_differs : List Cond := .code yX6_differs cX6_differs 5 (some .int) :: ([.fieldLink RX6 39 "BoredPipesModel" "shelf" "[I", .fieldLink RX6 19 "BoredPipesModel" "ends" "[I", .fieldLink RX6 42 "BoredPipesModel" "pieces" "I", .fieldLink RX6 7 "BoredPipesModel" "lengths" "[I", .fieldLink RX6 13 "BoredPipesModel" "bores" "[I", .fieldLink RX6 67 "BoredPipesModel" "holes" "I", .fieldLink RX6 16 "BoredPipesModel" "bored" "[I", .methodLink RX6 47 yX6_in, .static yX6_in, .initialized RX6, .code yX6_in cX6_in 6 (some .boolean), .methodLink RX6 172 yX6_unlike, .static yX6_unlike, .code yX6_unlike cX6_unlike 3 (some .int)] ++ wsX60)
def wsJ9_abs_0f7a4 : List Cond := .code yJ9_abs_0f7a4 cJ9_abs_0f7a4 1 (some .int) :: ([])
def wsJ9_max_7cf53 : List Cond := .code yJ9_max_7cf53 cJ9_max_7cf53 2 (some .int) :: ([])
def wsJ9_min_7cf53 : List Cond := .code yJ9_min_7cf53 cJ9_min_7cf53 2 (some .int) :: ([])
def wsL_law_r1 : List Cond := [Cond.classLink RL 7 RX5, Cond.instantiable RX5 9, Cond.initialized RX5, Cond.classLink RL 10 RX6, Cond.instantiable RX6 15, Cond.initialized RX6, Cond.methodLink RL 9 yX5_init, Cond.instanceMethod yX5_init, Cond.code yX5_init cX5_init 1 none, Cond.methodLink RX5 3 objectInit, Cond.instanceMethod objectInit, Cond.code objectInit ⟨#[0xb1]⟩ 1 none, Cond.classLink RX5 9 RX2, Cond.instantiable RX2 9, Cond.initialized RX2, Cond.fieldLink RX5 12 "BoredPipes" "pipe" "LBoredPipes$Pipe;", Cond.classLink RX5 16 RX3, Cond.instantiable RX3 2, Cond.initialized RX3, Cond.fieldLink RX5 19 "BoredPipes" "firstShelf" "LBoredPipes$Shelf;", Cond.fieldLink RX5 23 "BoredPipes" "secondShelf" "LBoredPipes$Shelf;", Cond.classLink RX5 26 RX4, Cond.instantiable RX4 8, Cond.initialized RX4]
def wsL_law_r2 : List Cond := [Cond.fieldLink RX5 29 "BoredPipes" "stretches" "LBoredPipes$Stretches;", Cond.classLink RX5 33 RX1, Cond.instantiable RX1 4, Cond.initialized RX1, Cond.fieldLink RX5 36 "BoredPipes" "notes" "LBoredPipes$Notes;", Cond.classLink RX5 40 RX0, Cond.instantiable RX0 4, Cond.initialized RX0, Cond.fieldLink RX5 43 "BoredPipes" "best" "LBoredPipes$Move;", Cond.constantLong RX5 47 (2305843009213693950), Cond.fieldLink RX5 49 "BoredPipes" "drills" "J", Cond.fieldLink RX5 53 "BoredPipes" "reach" "I", Cond.fieldLink RX5 57 "BoredPipes" "rounds" "I", Cond.instanceMethod yX2_init, Cond.code yX2_init cX2_init 1 none, Cond.methodLink RX2 3 objectInit, Cond.arrayClass .int, Cond.fieldLink RX2 9 "BoredPipes$Pipe" "lengths" "[I", Cond.fieldLink RX2 15 "BoredPipes$Pipe" "bores" "[I", Cond.fieldLink RX2 18 "BoredPipes$Pipe" "places" "[I", Cond.fieldLink RX2 21 "BoredPipes$Pipe" "sizes" "[I", Cond.fieldLink RX2 24 "BoredPipes$Pipe" "chimneys" "[I", Cond.fieldLink RX2 27 "BoredPipes$Pipe" "pieces" "I", Cond.fieldLink RX2 31 "BoredPipes$Pipe" "holes" "I"]
def wsL_law_r3 : List Cond := [Cond.fieldLink RX2 34 "BoredPipes$Pipe" "mouth" "I", Cond.fieldLink RX2 37 "BoredPipes$Pipe" "farEnd" "I", Cond.instanceMethod yX3_init, Cond.code yX3_init cX3_init 1 none, Cond.methodLink RX3 1 objectInit, Cond.classLink RX3 7 RX2, Cond.fieldLink RX3 10 "BoredPipes$Shelf" "kept" "LBoredPipes$Pipe;", Cond.fieldLink RX3 16 "BoredPipes$Shelf" "used" "Z", Cond.instanceMethod yX4_init, Cond.code yX4_init cX4_init 1 none, Cond.methodLink RX4 3 objectInit, Cond.fieldLink RX4 11 "BoredPipes$Stretches" "lengths" "[I", Cond.fieldLink RX4 15 "BoredPipes$Stretches" "bores" "[I", Cond.fieldLink RX4 18 "BoredPipes$Stretches" "holes" "[I", Cond.fieldLink RX4 21 "BoredPipes$Stretches" "sizes" "[I", Cond.fieldLink RX4 24 "BoredPipes$Stretches" "chimneys" "[I", Cond.fieldLink RX4 27 "BoredPipes$Stretches" "many" "I", Cond.fieldLink RX4 31 "BoredPipes$Stretches" "shut" "Z", Cond.fieldLink RX4 35 "BoredPipes$Stretches" "reed" "Z", Cond.instanceMethod yX1_init, Cond.code yX1_init cX1_init 1 none, Cond.methodLink RX1 3 objectInit, Cond.fieldLink RX1 9 "BoredPipes$Notes" "sets" "[I", Cond.fieldLink RX1 15 "BoredPipes$Notes" "whiches" "[I"]
def wsL_law_r4 : List Cond := [Cond.fieldLink RX1 18 "BoredPipes$Notes" "wanted" "[I", Cond.fieldLink RX1 21 "BoredPipes$Notes" "many" "I", Cond.instanceMethod yX0_init, Cond.code yX0_init cX0_init 1 none, Cond.methodLink RX0 3 objectInit, Cond.fieldLink RX0 9 "BoredPipes$Move" "rank" "I", Cond.fieldLink RX0 15 "BoredPipes$Move" "hole" "I", Cond.fieldLink RX0 18 "BoredPipes$Move" "what" "I", Cond.fieldLink RX0 21 "BoredPipes$Move" "value" "I", Cond.methodLink RL 12 yX6_init, Cond.instanceMethod yX6_init, Cond.code yX6_init cX6_init 2 none, Cond.methodLink RX6 1 objectInit, Cond.fieldLink RX6 7 "BoredPipesModel" "lengths" "[I", Cond.fieldLink RX6 13 "BoredPipesModel" "bores" "[I", Cond.fieldLink RX6 16 "BoredPipesModel" "bored" "[I", Cond.fieldLink RX6 19 "BoredPipesModel" "ends" "[I", Cond.fieldLink RX6 22 "BoredPipesModel" "opens" "[I", Cond.fieldLink RX6 25 "BoredPipesModel" "whiches" "[I", Cond.fieldLink RX6 28 "BoredPipesModel" "wanteds" "[I", Cond.arrayClass .boolean, Cond.fieldLink RX6 31 "BoredPipesModel" "drills" "[Z", Cond.fieldLink RX6 35 "BoredPipesModel" "reach" "I", Cond.fieldLink RX6 39 "BoredPipesModel" "shelf" "[I"]
def wsL_law_r5 : List Cond := [Cond.methodLink RL 13 yX5_piece, Cond.instanceMethod yX5_piece, Cond.selects RX5 yX5_piece yX5_piece, Cond.code yX5_piece cX5_piece 3 (some .int), Cond.fieldLink RX5 64 "BoredPipes$Pipe" "pieces" "I", Cond.methodLink RX5 60 yX5_isPiece, Cond.static yX5_isPiece, Cond.code yX5_isPiece cX5_isPiece 2 (some .boolean), Cond.methodLink RX5 75 yX5_within, Cond.static yX5_within, Cond.code yX5_within cX5_within 3 (some .boolean), Cond.methodLink RX5 67 yX2_addPiece, Cond.instanceMethod yX2_addPiece, Cond.selects RX2 yX2_addPiece yX2_addPiece, Cond.code yX2_addPiece cX2_addPiece 3 none, Cond.static yX5_put, Cond.code yX5_put cX5_put 3 none, Cond.methodLink RX5 71 yX2_wholeLength, Cond.instanceMethod yX2_wholeLength, Cond.selects RX2 yX2_wholeLength yX2_wholeLength, Cond.code yX2_wholeLength cX2_wholeLength 1 (some .int), Cond.methodLink RX2 52 yX2_startOf, Cond.instanceMethod yX2_startOf, Cond.selects RX2 yX2_startOf yX2_startOf]
def wsL_law_r6 : List Cond := [Cond.code yX2_startOf cX2_startOf 4 (some .int), Cond.static yX5_at, Cond.code yX5_at cX5_at 2 (some .int), Cond.methodLink RL 17 yX6_piece, Cond.instanceMethod yX6_piece, Cond.selects RX6 yX6_piece yX6_piece, Cond.code yX6_piece cX6_piece 3 (some .int), Cond.constantLong RX6 45 (400), Cond.constantLong RX6 51 (100), Cond.fieldLink RX6 42 "BoredPipesModel" "pieces" "I", Cond.methodLink RX6 47 yX6_in, Cond.static yX6_in, Cond.code yX6_in cX6_in 6 (some .boolean), Cond.methodLink RX6 53 yX6_add, Cond.instanceMethod yX6_add, Cond.selects RX6 yX6_add yX6_add, Cond.code yX6_add cX6_add 3 none, Cond.methodLink RX6 57 yX6_whole, Cond.instanceMethod yX6_whole, Cond.selects RX6 yX6_whole yX6_whole, Cond.code yX6_whole cX6_whole 3 (some .int), Cond.methodLink RL 18 yX5_cone, Cond.instanceMethod yX5_cone, Cond.selects RX5 yX5_cone yX5_cone]
def wsL_law_r7 : List Cond := [Cond.code yX5_cone cX5_cone 6 (some .int), Cond.methodLink RX5 79 yX5_quotient, Cond.static yX5_quotient, Cond.code yX5_quotient cX5_quotient 4 (some .long), Cond.methodLink RL 22 yX6_cone, Cond.instanceMethod yX6_cone, Cond.selects RX6 yX6_cone yX6_cone, Cond.code yX6_cone cX6_cone 6 (some .int), Cond.constantLong RX6 61 (2), Cond.constantLong RX6 63 (12), Cond.methodLink RL 23 yX5_hole, Cond.instanceMethod yX5_hole, Cond.selects RX5 yX5_hole yX5_hole, Cond.code yX5_hole cX5_hole 4 (some .int), Cond.fieldLink RX5 90 "BoredPipes$Pipe" "holes" "I", Cond.methodLink RX5 83 yX5_mayBe, Cond.instanceMethod yX5_mayBe, Cond.selects RX5 yX5_mayBe yX5_mayBe, Cond.code yX5_mayBe cX5_mayBe 3 (some .boolean), Cond.methodLink RX5 86 yX2_holeAt, Cond.instanceMethod yX2_holeAt, Cond.selects RX2 yX2_holeAt yX2_holeAt, Cond.code yX2_holeAt cX2_holeAt 3 (some .int), Cond.methodLink RX5 93 yX2_addHole]
def wsL_law_r8 : List Cond := [Cond.instanceMethod yX2_addHole, Cond.selects RX2 yX2_addHole yX2_addHole, Cond.code yX2_addHole cX2_addHole 4 none, Cond.methodLink RL 27 yX6_hole, Cond.instanceMethod yX6_hole, Cond.selects RX6 yX6_hole yX6_hole, Cond.code yX6_hole cX6_hole 4 (some .int), Cond.fieldLink RX6 67 "BoredPipesModel" "holes" "I", Cond.methodLink RX6 70 yX6_fits, Cond.instanceMethod yX6_fits, Cond.selects RX6 yX6_fits yX6_fits, Cond.code yX6_fits cX6_fits 3 (some .boolean), Cond.constantLong RX6 65 (60), Cond.methodLink RX6 74 yX6_holeAt, Cond.instanceMethod yX6_holeAt, Cond.selects RX6 yX6_holeAt yX6_holeAt, Cond.code yX6_holeAt cX6_holeAt 4 (some .int), Cond.methodLink RL 28 yX5_set, Cond.instanceMethod yX5_set, Cond.selects RX5 yX5_set yX5_set, Cond.code yX5_set cX5_set 5 (some .int), Cond.fieldLink RX5 97 "BoredPipes$Pipe" "places" "[I", Cond.methodLink RX5 101 yX5_at, Cond.methodLink RX5 105 yX2_ofHole]
def wsL_law_r9 : List Cond := [Cond.instanceMethod yX2_ofHole, Cond.selects RX2 yX2_ofHole yX2_ofHole, Cond.code yX2_ofHole cX2_ofHole 3 (some .int), Cond.methodLink RX2 44 yX2_rowOf, Cond.instanceMethod yX2_rowOf, Cond.selects RX2 yX2_rowOf yX2_rowOf, Cond.code yX2_rowOf cX2_rowOf 2 (some (.array .int)), Cond.methodLink RX5 109 yX2_changeHole, Cond.instanceMethod yX2_changeHole, Cond.selects RX2 yX2_changeHole yX2_changeHole, Cond.code yX2_changeHole cX2_changeHole 4 none, Cond.methodLink RL 31 yX6_set, Cond.instanceMethod yX6_set, Cond.selects RX6 yX6_set yX6_set, Cond.code yX6_set cX6_set 6 (some .int), Cond.methodLink RX6 78 yX6_isHole, Cond.instanceMethod yX6_isHole, Cond.selects RX6 yX6_isHole yX6_isHole, Cond.code yX6_isHole cX6_isHole 2 (some .boolean), Cond.methodLink RL 32 yX5_end, Cond.instanceMethod yX5_end, Cond.selects RX5 yX5_end yX5_end, Cond.code yX5_end cX5_end 4 (some .int), Cond.fieldLink RX5 112 "BoredPipes$Pipe" "mouth" "I"]
def wsL_law_r10 : List Cond := [Cond.fieldLink RX5 115 "BoredPipes$Pipe" "farEnd" "I", Cond.methodLink RL 35 yX6_end, Cond.instanceMethod yX6_end, Cond.selects RX6 yX6_end yX6_end, Cond.code yX6_end cX6_end 4 (some .int), Cond.methodLink RL 36 yX5_clear, Cond.instanceMethod yX5_clear, Cond.selects RX5 yX5_clear yX5_clear, Cond.code yX5_clear cX5_clear 2 (some .int), Cond.fieldLink RX5 121 "BoredPipes$Notes" "many" "I", Cond.methodLink RX5 118 yX2_empty, Cond.instanceMethod yX2_empty, Cond.selects RX2 yX2_empty yX2_empty, Cond.code yX2_empty cX2_empty 1 none, Cond.methodLink RL 40 yX6_clear, Cond.instanceMethod yX6_clear, Cond.selects RX6 yX6_clear yX6_clear, Cond.code yX6_clear cX6_clear 2 (some .int), Cond.fieldLink RX6 82 "BoredPipesModel" "notes" "I", Cond.fieldLink RX6 85 "BoredPipesModel" "rounds" "I", Cond.methodLink RL 41 yX5_told, Cond.instanceMethod yX5_told, Cond.selects RX5 yX5_told yX5_told, Cond.code yX5_told cX5_told 3 (some .int)]
def wsL_law_r11 : List Cond := [Cond.fieldLink RX5 124 "BoredPipes$Pipe" "lengths" "[I", Cond.fieldLink RX5 127 "BoredPipes$Pipe" "bores" "[I", Cond.methodLink RL 44 yX6_told, Cond.instanceMethod yX6_told, Cond.selects RX6 yX6_told yX6_told, Cond.code yX6_told cX6_told 3 (some .int), Cond.methodLink RL 45 yX5_bored, Cond.instanceMethod yX5_bored, Cond.selects RX5 yX5_bored yX5_bored, Cond.code yX5_bored cX5_bored 3 (some .int), Cond.methodLink RX5 130 yX2_pieceAt, Cond.instanceMethod yX2_pieceAt, Cond.selects RX2 yX2_pieceAt yX2_pieceAt, Cond.code yX2_pieceAt cX2_pieceAt 4 (some .int), Cond.methodLink RX5 133 yX2_holesBefore, Cond.instanceMethod yX2_holesBefore, Cond.selects RX2 yX2_holesBefore yX2_holesBefore, Cond.code yX2_holesBefore cX2_holesBefore 4 (some .int), Cond.methodLink RL 48 yX6_bored, Cond.instanceMethod yX6_bored, Cond.selects RX6 yX6_bored yX6_bored, Cond.code yX6_bored cX6_bored 5 (some .int), Cond.constantLong RX6 88 (4), Cond.methodLink RX6 90 yX6_pieceOf]
def wsL_law_r12 : List Cond := [Cond.instanceMethod yX6_pieceOf, Cond.selects RX6 yX6_pieceOf yX6_pieceOf, Cond.code yX6_pieceOf cX6_pieceOf 4 (some .int), Cond.methodLink RL 49 yX5_count, Cond.instanceMethod yX5_count, Cond.selects RX5 yX5_count yX5_count, Cond.code yX5_count cX5_count 2 (some .int), Cond.constant RX5 144 (2147483647), Cond.methodLink RX5 136 yJ13_bitCount_95d88, Cond.static yJ13_bitCount_95d88, Cond.initialized RJ13, Cond.code yJ13_bitCount_95d88 cJ13_bitCount_95d88 2 (some .int), Cond.constantLong RJ13 314 (6148914691236517205), Cond.constantLong RJ13 316 (3689348814741910323), Cond.constantLong RJ13 318 (1085102592571150095), Cond.methodLink RX5 145 yX5_rank, Cond.instanceMethod yX5_rank, Cond.selects RX5 yX5_rank yX5_rank, Cond.code yX5_rank cX5_rank 7 (some .int), Cond.fieldLink RX5 174 "BoredPipes$Notes" "sets" "[I", Cond.fieldLink RX5 177 "BoredPipes$Notes" "whiches" "[I", Cond.fieldLink RX5 180 "BoredPipes$Notes" "wanted" "[I", Cond.methodLink RX5 233 Lib.Math.max.name, Cond.static Lib.Math.max.name]
def wsL_law_r13 : List Cond := [Cond.initialized "java/lang/Math", Cond.code Lib.Math.max.name Lib.Math.max.code 2 (some .int), Cond.methodLink RX5 157 yX4_cutUp, Cond.instanceMethod yX4_cutUp, Cond.selects RX4 yX4_cutUp yX4_cutUp, Cond.code yX4_cutUp cX4_cutUp 7 none, Cond.fieldLink RX4 38 "BoredPipes$Pipe" "farEnd" "I", Cond.fieldLink RX4 43 "BoredPipes$Pipe" "mouth" "I", Cond.methodLink RX4 60 Lib.Math.max.name, Cond.fieldLink RX4 73 "BoredPipes$Pipe" "bores" "[I", Cond.fieldLink RX4 78 "BoredPipes$Pipe" "sizes" "[I", Cond.fieldLink RX4 79 "BoredPipes$Pipe" "chimneys" "[I", Cond.methodLink RX4 46 yX2_wholeLength, Cond.methodLink RX4 50 yX2_pieceAt, Cond.methodLink RX4 54 yX2_startOf, Cond.methodLink RX4 57 yX2_lastHoleBefore, Cond.instanceMethod yX2_lastHoleBefore, Cond.selects RX2 yX2_lastHoleBefore yX2_lastHoleBefore, Cond.code yX2_lastHoleBefore cX2_lastHoleBefore 4 (some .int), Cond.methodLink RX2 56 Lib.Math.max.name, Cond.methodLink RX4 66 yX2_holeAt, Cond.methodLink RX5 165 yX4_findTone, Cond.instanceMethod yX4_findTone, Cond.selects RX4 yX4_findTone yX4_findTone]
def wsL_law_r14 : List Cond := [Cond.code yX4_findTone cX4_findTone 7 (some .int), Cond.methodLink RX4 111 yX4_worthOf, Cond.instanceMethod yX4_worthOf, Cond.selects RX4 yX4_worthOf yX4_worthOf, Cond.code yX4_worthOf cX4_worthOf 22 (some .long), Cond.constantLong RX4 80 (1048576), Cond.constant RX4 82 (65535), Cond.constantLong RX4 87 (10000), Cond.constantLong RX4 101 (25), Cond.static yX5_sineOf, Cond.code yX5_sineOf cX5_sineOf 7 (some .long), Cond.constantLong RX5 248 (32768), Cond.constantLong RX5 250 (131068), Cond.constantLong RX5 252 (1342177280), Cond.constant RX5 254 (32768), Cond.methodLink RX4 93 yX4_shiftFor, Cond.static yX4_shiftFor, Cond.code yX4_shiftFor cX4_shiftFor 5 (some .int), Cond.methodLink RX4 103 yX4_isTooBig, Cond.static yX4_isTooBig, Cond.code yX4_isTooBig cX4_isTooBig 2 (some .boolean), Cond.constantLong RX4 107 (1099511627776), Cond.constantLong RX4 109 (-1099511627776), Cond.methodLink RX4 97 yX4_isOpen]
def wsL_law_r15 : List Cond := [Cond.instanceMethod yX4_isOpen, Cond.selects RX4 yX4_isOpen yX4_isOpen, Cond.code yX4_isOpen cX4_isOpen 4 (some .boolean), Cond.methodLink RX5 168 yX5_missOf, Cond.static yX5_missOf, Cond.code yX5_missOf cX5_missOf 2 (some .int), Cond.methodLink RX5 228 Lib.Math.abs.name, Cond.static Lib.Math.abs.name, Cond.code Lib.Math.abs.name Lib.Math.abs.code 1 (some .int), Cond.methodLink RL 53 yX6_count, Cond.instanceMethod yX6_count, Cond.selects RX6 yX6_count yX6_count, Cond.code yX6_count cX6_count 2 (some .int), Cond.methodLink RX6 93 yX6_drillMany, Cond.instanceMethod yX6_drillMany, Cond.selects RX6 yX6_drillMany yX6_drillMany, Cond.code yX6_drillMany cX6_drillMany 3 (some .int), Cond.methodLink RX6 96 yX6_greatest, Cond.instanceMethod yX6_greatest, Cond.selects RX6 yX6_greatest yX6_greatest, Cond.code yX6_greatest cX6_greatest 4 (some .int), Cond.methodLink RX6 157 yX6_missOf, Cond.instanceMethod yX6_missOf, Cond.selects RX6 yX6_missOf yX6_missOf]
def wsL_law_r16 : List Cond := [Cond.code yX6_missOf cX6_missOf 4 (some .int), Cond.methodLink RX6 151 yX6_toneOf, Cond.instanceMethod yX6_toneOf, Cond.selects RX6 yX6_toneOf yX6_toneOf, Cond.code yX6_toneOf cX6_toneOf 6 (some .int), Cond.fieldLink RX6 148 "BoredPipesModel" "toneMany" "I", Cond.methodLink RX6 144 yX6_worthOf, Cond.instanceMethod yX6_worthOf, Cond.selects RX6 yX6_worthOf yX6_worthOf, Cond.code yX6_worthOf cX6_worthOf 23 (some .long), Cond.constantLong RX6 119 (1048576), Cond.constant RX6 124 (65536), Cond.constantLong RX6 125 (10000), Cond.constantLong RX6 131 (25), Cond.methodLink RX6 121 yX6_nextPlace, Cond.instanceMethod yX6_nextPlace, Cond.selects RX6 yX6_nextPlace yX6_nextPlace, Cond.code yX6_nextPlace cX6_nextPlace 6 (some .int), Cond.methodLink RX6 111 yX6_sineOf, Cond.static yX6_sineOf, Cond.code yX6_sineOf cX6_sineOf 7 (some .long), Cond.constant RX6 102 (32768), Cond.constantLong RX6 103 (32768), Cond.constantLong RX6 105 (131068)]
def wsL_law_r17 : List Cond := [Cond.constantLong RX6 107 (1342177280), Cond.methodLink RX6 127 yX6_isLarge, Cond.static yX6_isLarge, Cond.code yX6_isLarge cX6_isLarge 2 (some .boolean), Cond.constantLong RX6 115 (1099511627776), Cond.constantLong RX6 117 (-1099511627776), Cond.methodLink RX6 99 yX6_sumOfMisses, Cond.instanceMethod yX6_sumOfMisses, Cond.selects RX6 yX6_sumOfMisses yX6_sumOfMisses, Cond.code yX6_sumOfMisses cX6_sumOfMisses 3 (some .int), Cond.methodLink RL 54 yX5_sine, Cond.instanceMethod yX5_sine, Cond.selects RX5 yX5_sine yX5_sine, Cond.code yX5_sine cX5_sine 2 (some .int), Cond.constant RX5 148 (65535), Cond.methodLink RX5 149 yX5_sineOf, Cond.methodLink RL 57 yX6_sine, Cond.instanceMethod yX6_sine, Cond.selects RX6 yX6_sine yX6_sine, Cond.code yX6_sine cX6_sine 2 (some .int), Cond.constantLong RX6 109 (65535), Cond.methodLink RL 58 yX5_worth, Cond.instanceMethod yX5_worth, Cond.selects RX5 yX5_worth yX5_worth]
def wsL_law_r18 : List Cond := [Cond.code yX5_worth cX5_worth 3 (some .long), Cond.constantLong RX5 153 (-1002), Cond.constantLong RX5 155 (-1003), Cond.methodLink RX5 161 yX4_worthOf, Cond.methodLink RL 62 yX6_worth, Cond.instanceMethod yX6_worth, Cond.selects RX6 yX6_worth yX6_worth, Cond.code yX6_worth cX6_worth 3 (some .long), Cond.constantLong RX6 135 (300), Cond.constantLong RX6 140 (-1002), Cond.constantLong RX6 142 (-1003), Cond.methodLink RX6 137 yX6_isSet, Cond.static yX6_isSet, Cond.code yX6_isSet cX6_isSet 1 (some .boolean), Cond.constantLong RX6 133 (63), Cond.methodLink RL 63 yX5_tone, Cond.instanceMethod yX5_tone, Cond.selects RX5 yX5_tone yX5_tone, Cond.code yX5_tone cX5_tone 3 (some .int), Cond.methodLink RL 66 yX6_tone, Cond.instanceMethod yX6_tone, Cond.selects RX6 yX6_tone yX6_tone, Cond.code yX6_tone cX6_tone 4 (some .int), Cond.methodLink RL 67 yX5_nearest]
def wsL_law_r19 : List Cond := [Cond.instanceMethod yX5_nearest, Cond.selects RX5 yX5_nearest yX5_nearest, Cond.code yX5_nearest cX5_nearest 7 (some .int), Cond.methodLink RL 70 yX6_nearest, Cond.instanceMethod yX6_nearest, Cond.selects RX6 yX6_nearest yX6_nearest, Cond.code yX6_nearest cX6_nearest 9 (some .int), Cond.methodLink RL 71 yX5_note, Cond.instanceMethod yX5_note, Cond.selects RX5 yX5_note yX5_note, Cond.code yX5_note cX5_note 4 (some .int), Cond.methodLink RX5 171 yX1_add, Cond.instanceMethod yX1_add, Cond.selects RX1 yX1_add yX1_add, Cond.code yX1_add cX1_add 4 none, Cond.methodLink RL 74 yX6_note, Cond.instanceMethod yX6_note, Cond.selects RX6 yX6_note yX6_note, Cond.code yX6_note cX6_note 4 (some .int), Cond.constantLong RX6 155 (5), Cond.methodLink RL 75 yX5_noted, Cond.instanceMethod yX5_noted, Cond.selects RX5 yX5_noted yX5_noted, Cond.code yX5_noted cX5_noted 3 (some .int)]
def wsL_law_r20 : List Cond := [Cond.methodLink RX5 183 yX5_toneNow, Cond.instanceMethod yX5_toneNow, Cond.selects RX5 yX5_toneNow yX5_toneNow, Cond.code yX5_toneNow cX5_toneNow 2 (some .int), Cond.methodLink RL 78 yX6_noted, Cond.instanceMethod yX6_noted, Cond.selects RX6 yX6_noted yX6_noted, Cond.code yX6_noted cX6_noted 3 (some .int), Cond.methodLink RL 79 yX5_drill, Cond.instanceMethod yX5_drill, Cond.selects RX5 yX5_drill yX5_drill, Cond.code yX5_drill cX5_drill 5 (some .int), Cond.constantLong RX5 186 (-1), Cond.methodLink RL 83 yX6_drill, Cond.instanceMethod yX6_drill, Cond.selects RX6 yX6_drill yX6_drill, Cond.code yX6_drill cX6_drill 3 (some .int), Cond.methodLink RL 84 yX5_reach, Cond.instanceMethod yX5_reach, Cond.selects RX5 yX5_reach yX5_reach, Cond.code yX5_reach cX5_reach 3 (some .int), Cond.methodLink RL 87 yX6_reach, Cond.instanceMethod yX6_reach, Cond.selects RX6 yX6_reach yX6_reach]
def wsL_law_r21 : List Cond := [Cond.code yX6_reach cX6_reach 3 (some .int), Cond.methodLink RL 88 yX5_round, Cond.instanceMethod yX5_round, Cond.selects RX5 yX5_round yX5_round, Cond.code yX5_round cX5_round 2 (some .int), Cond.fieldLink RX5 201 "BoredPipes$Move" "hole" "I", Cond.fieldLink RX5 204 "BoredPipes$Move" "what" "I", Cond.fieldLink RX5 207 "BoredPipes$Move" "value" "I", Cond.methodLink RX5 188 yX0_none, Cond.instanceMethod yX0_none, Cond.selects RX0 yX0_none yX0_none, Cond.code yX0_none cX0_none 2 none, Cond.methodLink RX5 192 yX5_placeMoved, Cond.instanceMethod yX5_placeMoved, Cond.selects RX5 yX5_placeMoved yX5_placeMoved, Cond.code yX5_placeMoved cX5_placeMoved 4 (some .int), Cond.methodLink RX5 242 yX2_gap, Cond.instanceMethod yX2_gap, Cond.selects RX2 yX2_gap yX2_gap, Cond.code yX2_gap cX2_gap 6 (some .int), Cond.methodLink RX5 195 yX5_tryMove, Cond.instanceMethod yX5_tryMove, Cond.selects RX5 yX5_tryMove yX5_tryMove, Cond.code yX5_tryMove cX5_tryMove 6 none]
def wsL_law_r22 : List Cond := [Cond.fieldLink RX5 236 "BoredPipes$Move" "rank" "I", Cond.methodLink RX5 238 yX0_take, Cond.instanceMethod yX0_take, Cond.selects RX0 yX0_take yX0_take, Cond.code yX0_take cX0_take 5 none, Cond.methodLink RX5 198 yX5_nextSize, Cond.instanceMethod yX5_nextSize, Cond.selects RX5 yX5_nextSize yX5_nextSize, Cond.code yX5_nextSize cX5_nextSize 6 (some .int), Cond.fieldLink RX5 245 "BoredPipes$Pipe" "sizes" "[I", Cond.methodLink RL 91 yX6_round, Cond.instanceMethod yX6_round, Cond.selects RX6 yX6_round yX6_round, Cond.code yX6_round cX6_round 11 (some .int), Cond.methodLink RX6 166 yX6_badness, Cond.instanceMethod yX6_badness, Cond.selects RX6 yX6_badness yX6_badness, Cond.code yX6_badness cX6_badness 5 (some .int), Cond.methodLink RX6 169 yX6_moved, Cond.instanceMethod yX6_moved, Cond.selects RX6 yX6_moved yX6_moved, Cond.code yX6_moved cX6_moved 6 (some .int), Cond.methodLink RX6 163 yX6_mayPlace, Cond.instanceMethod yX6_mayPlace]
def wsL_law_r23 : List Cond := [Cond.selects RX6 yX6_mayPlace yX6_mayPlace, Cond.code yX6_mayPlace cX6_mayPlace 6 (some .boolean), Cond.methodLink RX6 160 yX6_beside, Cond.instanceMethod yX6_beside, Cond.selects RX6 yX6_beside yX6_beside, Cond.code yX6_beside cX6_beside 6 (some .int), Cond.methodLink RL 92 yX5_keep, Cond.instanceMethod yX5_keep, Cond.selects RX5 yX5_keep yX5_keep, Cond.code yX5_keep cX5_keep 3 (some .int), Cond.fieldLink RX5 214 "BoredPipes$Shelf" "kept" "LBoredPipes$Pipe;", Cond.fieldLink RX5 220 "BoredPipes$Shelf" "used" "Z", Cond.methodLink RX5 210 yX5_shelfOf, Cond.instanceMethod yX5_shelfOf, Cond.selects RX5 yX5_shelfOf yX5_shelfOf, Cond.code yX5_shelfOf cX5_shelfOf 2 (some (.object "BoredPipes$Shelf")), Cond.methodLink RX5 217 yX2_copy, Cond.instanceMethod yX2_copy, Cond.selects RX2 yX2_copy yX2_copy, Cond.code yX2_copy cX2_copy 2 none, Cond.static yX5_copyRow, Cond.code yX5_copyRow cX5_copyRow 3 none, Cond.methodLink RX5 255 yX5_put, Cond.methodLink RL 95 yX6_keep]
def wsL_law_r24 : List Cond := [Cond.instanceMethod yX6_keep, Cond.selects RX6 yX6_keep yX6_keep, Cond.code yX6_keep cX6_keep 3 (some .int), Cond.methodLink RL 96 yX5_back, Cond.instanceMethod yX5_back, Cond.selects RX5 yX5_back yX5_back, Cond.code yX5_back cX5_back 3 (some .int), Cond.methodLink RL 99 yX6_back, Cond.instanceMethod yX6_back, Cond.selects RX6 yX6_back yX6_back, Cond.code yX6_back cX6_back 3 (some .int), Cond.methodLink RL 100 yX5_differs, Cond.instanceMethod yX5_differs, Cond.selects RX5 yX5_differs yX5_differs, Cond.code yX5_differs cX5_differs 3 (some .int), Cond.methodLink RX5 224 yX2_differences, Cond.instanceMethod yX2_differences, Cond.selects RX2 yX2_differences yX2_differences, Cond.code yX2_differences cX2_differences 2 (some .int), Cond.static yX5_rowDifferences, Cond.code yX5_rowDifferences cX5_rowDifferences 7 (some .int), Cond.methodLink RX5 259 Lib.Math.min.name, Cond.static Lib.Math.min.name, Cond.code Lib.Math.min.name Lib.Math.min.code 2 (some .int)]
def wsL_law_r25 : List Cond := [Cond.methodLink RL 103 yX6_differs, Cond.instanceMethod yX6_differs, Cond.selects RX6 yX6_differs yX6_differs, Cond.code yX6_differs cX6_differs 5 (some .int), Cond.methodLink RX6 172 yX6_unlike, Cond.static yX6_unlike, Cond.code yX6_unlike cX6_unlike 3 (some .int)]
def wsL_law : List Cond := (wsL_law_r1 ++ (wsL_law_r2 ++ (wsL_law_r3 ++ (wsL_law_r4 ++ (wsL_law_r5 ++ (wsL_law_r6 ++ (wsL_law_r7 ++ (wsL_law_r8 ++ (wsL_law_r9 ++ (wsL_law_r10 ++ (wsL_law_r11 ++ (wsL_law_r12 ++ (wsL_law_r13 ++ (wsL_law_r14 ++ (wsL_law_r15 ++ (wsL_law_r16 ++ (wsL_law_r17 ++ (wsL_law_r18 ++ (wsL_law_r19 ++ (wsL_law_r20 ++ (wsL_law_r21 ++ (wsL_law_r22 ++ (wsL_law_r23 ++ (wsL_law_r24 ++ wsL_law_r25)))))))))))))))))))))))) ++ wsX50 ++ wsX60 ++ wsX20 ++ wsX30 ++ wsX40 ++ wsX10 ++ wsX00 ++ ([] : List Cond)
abbrev vwCl : List vw_C := [(RX0, TX0, 4), (RX1, TX1, 4), (RX2, TX2, 9), (RX3, TX3, 2), (RX4, TX4, 8), (RX5, TX5, 9), (RX6, TX6, 15)]
end
section
section CORE
/-- the links to private members of nest mates -/
def nwT : List (String × Nat × MethodName) := [(RX5, 11, yX2_init), (RX5, 18, yX3_init), (RX3, 9, yX2_init), (RX5, 28, yX4_init), (RX5, 35, yX1_init), (RX5, 42, yX0_init), (RX2, 40, yX5_put), (RX2, 48, yX5_at), (RX4, 69, yX5_put), (RX4, 74, yX5_at), (RX4, 83, yX5_sineOf), (RX4, 89, yX5_quotient), (RX1, 25, yX5_put), (RX2, 62, yX5_copyRow), (RX2, 66, yX5_rowDifferences)]
def NW (U : State) : Prop := ∀ (k : Nat) (q : String × Nat × MethodName), nwT[k]? = some q → va_Nw (.methodLinkNest q.1 q.2.1 q.2.2 RX5) U
theorem NW.warm {s U : State} (hW : s.WarmedH U.vm) (h : NW s) : NW U := fun k q hq => va_Nw.warmM hW (h k q hq)
theorem NW.blind {U : State} (g : JFrame) (mk : MethodId) (a : Array Value) (h : NW U) : NW (U.calling g mk a) := fun k q hq => va_Nw.same rfl rfl (h k q hq)
/-- what the tables say, for the worlds' classes, arrays of int and of boolean, and nest mates -/
def KN (D : va_G) (cI cZ : ClassId) (U : State) : Prop := va_K D vwCl [(cI, .int), (cZ, .boolean)] U ∧ NW U
theorem KN.warm {D : va_G} {cI cZ : ClassId} {s U : State} (hW : s.WarmedH U.vm) (h : KN D cI cZ s) : KN D cI cZ U := ⟨va_K.moved hW.alike h.1, h.2.warm hW⟩
theorem KN.blind {D : va_G} {cI cZ : ClassId} {U : State} (g : JFrame) (mk : MethodId) (a : Array Value) (h : KN D cI cZ U) : KN D cI cZ (U.calling g mk a) := ⟨va_K.moved (u := U) (U := U.calling g mk a) (Vm.Alike.refl U.vm) h.1, h.2.blind g mk a⟩
/-- a reader's start: a world, and the tables -/
def PR (D : va_G) (cI cZ : ClassId) (ws : va_W) (U : State) : Prop := va_P D vwCl ws U.heap ∧ KN D cI cZ U
/-- a writer's start: the addresses are apart, too -/
def PW (D : va_G) (cI cZ : ClassId) (ws : va_W) (U : State) : Prop := va_P D vwCl ws U.heap ∧ KN D cI cZ U ∧ va_D (fun _ => True) ws
theorem PR.fb {D : va_G} {cI cZ : ClassId} {ws : va_W} {As : List Value} : FrameBlind (va_Pc As (PR D cI cZ ws)) := fun a U g mk q => ⟨q.1, q.2.1, q.2.2.blind g mk a⟩
theorem PW.fb {D : va_G} {cI cZ : ClassId} {ws : va_W} {As : List Value} : FrameBlind (va_Pc As (PW D cI cZ ws)) := fun a U g mk q => ⟨q.1, q.2.1, q.2.2.1.blind g mk a, q.2.2.2⟩
theorem PR.S {D : va_G} {cI cZ : ClassId} {ws : va_W} {As : List Value} {s : State} {H : Heap} (hP : va_P D vwCl ws H) (hK : KN D cI cZ s) : PreS s H (va_Pc As (PR D cI cZ ws)) As := ⟨PR.fb, fun U hU hW => ⟨rfl, by rw [hU]; exact hP, hK.warm hW⟩⟩
theorem PW.S {D : va_G} {cI cZ : ClassId} {ws : va_W} {As : List Value} {s : State} {H : Heap} (hP : va_P D vwCl ws H) (hK : KN D cI cZ s) (hD : va_D (fun _ => True) ws) : PreS s H (va_Pc As (PW D cI cZ ws)) As := ⟨PW.fb, fun U hU hW => ⟨rfl, by rw [hU]; exact hP, hK.warm hW, hD⟩⟩
theorem PR.V {D : va_G} {cI cZ : ClassId} {wb ws : va_W} {As : List Value} {s : State} {H : Heap} {b q0 ci : Nat} {C : String} {T : u_T} {N : Nat} {fs : List Value} (hP : va_P D vwCl ws H) (hK : KN D cI cZ s) (hB : va_P D vwCl wb H) (he : wb[q0]? = some (b, .inr (ci, fs))) (hc : vwCl[ci]? = some (C, T, N)) : PreV s H C b (va_Pc (.ref b :: As) (PR D cI cZ ws)) As :=
  ⟨PR.fb, va_recv hK.1 hB hc he, fun U hU hW => ⟨rfl, by rw [hU]; exact hP, hK.warm hW⟩⟩
theorem PW.V {D : va_G} {cI cZ : ClassId} {wb ws : va_W} {As : List Value} {s : State} {H : Heap} {b q0 ci : Nat} {C : String} {T : u_T} {N : Nat} {fs : List Value} (hP : va_P D vwCl ws H) (hK : KN D cI cZ s) (hD : va_D (fun _ => True) ws) (hB : va_P D vwCl wb H) (he : wb[q0]? = some (b, .inr (ci, fs))) (hc : vwCl[ci]? = some (C, T, N)) : PreV s H C b (va_Pc (.ref b :: As) (PW D cI cZ ws)) As :=
  ⟨PW.fb, va_recv hK.1 hB hc he, fun U hU hW => ⟨rfl, by rw [hU]; exact hP, hK.warm hW, hD⟩⟩
/-- the addresses of a world -/
def ad (ws : va_W) : Nat → Prop := fun q => ∃ (k : Nat) (e : va_E), ws[k]? = some (q, e)
def nA : Nat → Prop := fun _ => False
theorem va_D.ad {A : Nat → Prop} {ws : va_W} (h : va_D A ws) : va_D (ad ws) ws := ⟨h.1, fun k q hk => ⟨k, q.2, hk⟩⟩
-- readers' ends: an answer, nothing written
def RI (r : Int32) : Array Value → State → Outcome → State → Prop := va_Qi (fun (x : Int32) (_ : Unit) => x = r) (fun _ _ => True) nA
def RJ (r : Int64) : Array Value → State → Outcome → State → Prop := va_Ql (fun (x : Int64) (_ : Unit) => x = r) (fun _ _ => True) nA
def RR (r : Nat) : Array Value → State → Outcome → State → Prop := va_Qr (fun (_ : Unit) => True) (fun _ x _ => x = r) nA
-- writers' ends
def WI {S : Type} (D : va_G) (post : Int32 → S → Prop) (w1 : S → va_W) (w0 : va_W) : Array Value → State → Outcome → State → Prop := va_Qi post (fun u t => va_P D vwCl (w1 u) t.heap) (ad w0)
def WJ {S : Type} (D : va_G) (post : Int64 → S → Prop) (w1 : S → va_W) (w0 : va_W) : Array Value → State → Outcome → State → Prop := va_Ql post (fun u t => va_P D vwCl (w1 u) t.heap) (ad w0)
def WV {S : Type} (D : va_G) (post : S → Prop) (w1 : S → va_W) (w0 : va_W) : Array Value → State → Outcome → State → Prop := va_Qv post (fun u t => va_P D vwCl (w1 u) t.heap) (ad w0)
end CORE
section PLUG
def plug : va_W → List Nat → va_W → va_W
  | ws, i :: is, x :: w => plug (ws.set i x) is w
  | ws, [], _ => ws
  | ws, _ :: _, [] => ws
theorem plug_all {G : Nat × va_E → Prop} : ∀ (is : List Nat) (w ws : va_W), is.length = w.length → (∀ (k : Nat) (q : Nat × va_E), ws[k]? = some q → k ∈ is ∨ G q) → (∀ (k : Nat) (q : Nat × va_E), w[k]? = some q → G q) → ∀ (k : Nat) (q : Nat × va_E), (plug ws is w)[k]? = some q → G q := by
  intro is
  induction is with
  | nil =>
    intro w ws _ h1 _ k q hk
    have hk : ws[k]? = some q := by cases w <;> exact hk
    rcases h1 k q hk with h | h
    · cases h
    · exact h
  | cons i is ih =>
    intro w ws hl h1 h2
    cases w with
    | nil => simp at hl
    | cons x w =>
      refine ih w (ws.set i x) (by simpa using hl) ?_ (fun k q hk => h2 (k + 1) q (by simpa using hk))
      intro k q hk
      by_cases e : i = k
      · subst e
        have hlt : i < ws.length := by
          have := (List.getElem?_eq_some_iff.mp hk).1
          simpa using this
        rw [List.getElem?_set_self hlt] at hk
        cases hk
        exact Or.inr (h2 0 x (by simp))
      · rw [List.getElem?_set_ne e] at hk
        rcases h1 k q hk with h | h
        · rcases List.mem_cons.mp h with h | h
          · exact absurd h.symm e
          · exact Or.inl h
        · exact Or.inr h
theorem plug_fst : ∀ (is : List Nat) (w ws : va_W), is.map (fun i => (ws.map Prod.fst)[i]?) = (w.map Prod.fst).map some → (plug ws is w).map Prod.fst = ws.map Prod.fst := by
  intro is
  induction is with
  | nil => intro w ws _; cases w <;> rfl
  | cons i is ih =>
    intro w ws h
    cases w with
    | nil => simp at h
    | cons x w =>
      simp only [List.map_cons, List.cons.injEq] at h
      obtain ⟨h1, h2⟩ := h
      have e : (ws.set i x).map Prod.fst = ws.map Prod.fst := by
        apply List.ext_getElem?
        intro k
        by_cases e : i = k
        · subst e
          rw [h1, List.getElem?_map]
          have hlt : i < ws.length := by
            have := (List.getElem?_eq_some_iff.mp h1).1
            simpa using this
          rw [List.getElem?_set_self hlt]; rfl
        · rw [List.getElem?_map, List.getElem?_set_ne e, List.getElem?_map]
      show (plug (ws.set i x) is w).map Prod.fst = _
      rw [ih w (ws.set i x) (by rw [e]; exact h2), e]
theorem va_D_fst {A : Nat → Prop} {ws ws' : va_W} (h : va_D A ws) (e : ws'.map Prod.fst = ws.map Prod.fst) : va_D A ws' := by
  have key : ∀ (k : Nat) (q : Nat × va_E), ws'[k]? = some q → ∃ z : Nat × va_E, ws[k]? = some z ∧ z.1 = q.1 := by
    intro k q hk
    have h1 : (ws'.map Prod.fst)[k]? = some q.1 := by rw [List.getElem?_map, hk]; rfl
    rw [e, List.getElem?_map] at h1
    cases hz : ws[k]? with
    | none => rw [hz] at h1; cases h1
    | some z => rw [hz] at h1; exact ⟨z, rfl, Option.some.inj h1⟩
  refine ⟨fun i j p q hi hj hpq => ?_, fun k q hk => ?_⟩
  · obtain ⟨z1, a1, b1⟩ := key i p hi
    obtain ⟨z2, a2, b2⟩ := key j q hj
    exact h.1 i j z1 z2 a1 a2 (by rw [b1, b2, hpq])
  · obtain ⟨z, a1, b1⟩ := key k q hk
    rw [← b1]; exact h.2 k z a1
/-- what comes back from a writer, put in its place -/
theorem va_back {A0 : Nat → Prop} {D : va_G} {ws wc w1 : va_W} {H H1 : Heap} (hP : va_P D vwCl ws H) (hD : va_D A0 ws) (isC : List Nat) (hC : isC.map (fun i => ws[i]?) = wc.map some) (ho : w1.map Prod.fst = wc.map Prod.fst)
    (hk : ∀ q : Nat, q < H.size → ¬ ad wc q → H1[q]? = H[q]?) (hP1 : va_P D vwCl w1 H1) : va_P D vwCl (plug ws isC w1) H1 ∧ va_D A0 (plug ws isC w1) := by
  have hlen : isC.length = w1.length := by
    have h1 := congrArg List.length hC
    have h2 := congrArg List.length ho
    simp at h1 h2
    omega
  refine ⟨plug_all (G := fun q => va_at D vwCl q H1) isC w1 ws hlen ?_ hP1, va_D_fst hD (plug_fst isC w1 ws ?_)⟩
  · intro k q hq
    by_cases hm : k ∈ isC
    · exact Or.inl hm
    · refine Or.inr ((hP k q hq).kept (hk q.1 (hP k q hq).lt ?_))
      rintro ⟨j, x, hj⟩
      have h1 : (isC.map (fun i => ws[i]?))[j]? = some (some (q.1, x)) := by rw [hC, List.getElem?_map, hj]; rfl
      rw [List.getElem?_map] at h1
      cases hi : isC[j]? with
      | none => rw [hi] at h1; cases h1
      | some i =>
        rw [hi] at h1
        have h2 : ws[i]? = some (q.1, x) := Option.some.inj h1
        have h3 := hD.1 i k _ _ h2 hq rfl
        exact hm (h3 ▸ List.mem_of_getElem? hi)
  · rw [ho]
    have := congrArg (List.map (Option.map Prod.fst)) hC
    simp only [List.map_map] at this ⊢
    refine Eq.trans (List.map_congr_left fun i _ => ?_) (this.trans (List.map_congr_left fun q _ => rfl))
    simp
end PLUG
section CALLS
variable {p : Program} {l : Launch} {e : Env} {R : Room} {s : State} {m : MethodId} {args : Array Value} {below : List Frame} {meth : Method} {c : Code} {H : Heap} {locs : List Loc} {cells slots : Nat} {Q : State → Prop}
variable {pc : Nat} {ls : Array Slot} {rest st0 : List Value} {a : Array Value} {A0 : Nat → Prop} {H0 : Heap} {D : va_G} {ws wc : va_W}
theorem lv_eqi {x y : Int32} (h : x = y) (k : W p l e R s m args below meth c H locs cells slots Q (F0 m pc ls (.int y :: rest))) : W p l e R s m args below meth c H locs cells slots Q (F0 m pc ls (.int x :: rest)) := by rw [h]; exact k
theorem lv_eqj {x y : Int64} (h : x = y) (k : W p l e R s m args below meth c H locs cells slots Q (F0 m pc ls (.long y :: rest))) : W p l e R s m args below meth c H locs cells slots Q (F0 m pc ls (.long x :: rest)) := by rw [h]; exact k
theorem rd_i {r : Int32} (hr : va_Run p l e R s m args below meth c H locs cells slots 0 0 (F0 m pc ls st0) rest (RI r a) nA) (hP : va_P D vwCl ws H) (hS : va_S A0 H0 H locs)
    (kk : ∀ (H1 : Heap) (locs1 : List Loc), va_P D vwCl ws H1 → va_S A0 H0 H1 locs1 → W p l e R s m args below meth c H1 locs1 cells slots Q (F0 m (pc + 3) ls (.int r :: rest))) : W p l e R s m args below meth c H locs cells slots Q (F0 m pc ls st0) := by
  refine va_calli hr hS (fun _ _ h => h.elim) (fun _ h => h.elim) (fun r' u t H1 locs1 ht hvm hw hB hz hk hS => ?_)
  cases hw
  exact kk H1 locs1 (hP.kept fun k q hq => hk q.1 (hP k q hq).lt (fun h => h)) hS
theorem rd_l {r : Int64} (hr : va_Run p l e R s m args below meth c H locs cells slots 0 0 (F0 m pc ls st0) rest (RJ r a) nA) (hP : va_P D vwCl ws H) (hS : va_S A0 H0 H locs)
    (kk : ∀ (H1 : Heap) (locs1 : List Loc), va_P D vwCl ws H1 → va_S A0 H0 H1 locs1 → W p l e R s m args below meth c H1 locs1 cells slots Q (F0 m (pc + 3) ls (.long r :: rest))) : W p l e R s m args below meth c H locs cells slots Q (F0 m pc ls st0) := by
  refine va_calll hr hS (fun _ _ h => h.elim) (fun _ h => h.elim) (fun r' u t H1 locs1 ht hvm hw hB hz hk hS => ?_)
  cases hw
  exact kk H1 locs1 (hP.kept fun k q hq => hk q.1 (hP k q hq).lt (fun h => h)) hS
theorem rd_r {r : Nat} (hr : va_Run p l e R s m args below meth c H locs cells slots 0 0 (F0 m pc ls st0) rest (RR r a) nA) (hP : va_P D vwCl ws H) (hS : va_S A0 H0 H locs)
    (kk : ∀ (H1 : Heap) (locs1 : List Loc), va_P D vwCl ws H1 → va_S A0 H0 H1 locs1 → W p l e R s m args below meth c H1 locs1 cells slots Q (F0 m (pc + 3) ls (.ref r :: rest))) : W p l e R s m args below meth c H locs cells slots Q (F0 m pc ls st0) := by
  refine va_callr hr hS (fun _ _ h => h.elim) (fun _ h => h.elim) (fun u ra t H1 locs1 ht hvm hw hB hz hk hS => ?_)
  cases hB
  exact kk H1 locs1 (hP.kept fun k q hq => hk q.1 (hP k q hq).lt (fun h => h)) hS
theorem ad_in {A0 : Nat → Prop} {ws wc : va_W} (hD : va_D A0 ws) (isC : List Nat) (hC : isC.map (fun i => ws[i]?) = wc.map some) : ∀ q, ad wc q → A0 q := by
  rintro q ⟨j, x, hj⟩
  have h1 : (isC.map (fun i => ws[i]?))[j]? = some (some (q, x)) := by rw [hC, List.getElem?_map, hj]; rfl
  rw [List.getElem?_map] at h1
  cases hi : isC[j]? with
  | none => rw [hi] at h1; cases h1
  | some i => rw [hi] at h1; exact hD.2 i (q, x) (Option.some.inj h1)
theorem wr_i {S : Type} {post : Int32 → S → Prop} {w1 : S → va_W} (hr : va_Run p l e R s m args below meth c H locs cells slots 0 0 (F0 m pc ls st0) rest (WI D post w1 wc a) (ad wc)) (hP : va_P D vwCl ws H) (hD : va_D A0 ws) (hS : va_S A0 H0 H locs) (isC : List Nat) (hC : isC.map (fun i => ws[i]?) = wc.map some) (ho : ∀ u, (w1 u).map Prod.fst = wc.map Prod.fst)
    (kk : ∀ (r : Int32) (u : S) (H1 : Heap) (locs1 : List Loc), post r u → va_P D vwCl (plug ws isC (w1 u)) H1 → va_D A0 (plug ws isC (w1 u)) → va_S A0 H0 H1 locs1 → W p l e R s m args below meth c H1 locs1 cells slots Q (F0 m (pc + 3) ls (.int r :: rest))) : W p l e R s m args below meth c H locs cells slots Q (F0 m pc ls st0) := by
  refine va_calli hr hS (fun q _ h => ad_in hD isC hC q h) (ad_in hD isC hC) (fun r u t H1 locs1 ht hvm hw hB hz hk hS => ?_)
  rw [ht] at hB
  obtain ⟨h1, h2⟩ := va_back hP hD isC hC (ho u) hk hB
  exact kk r u H1 locs1 hw h1 h2 hS
theorem wr_l {S : Type} {post : Int64 → S → Prop} {w1 : S → va_W} (hr : va_Run p l e R s m args below meth c H locs cells slots 0 0 (F0 m pc ls st0) rest (WJ D post w1 wc a) (ad wc)) (hP : va_P D vwCl ws H) (hD : va_D A0 ws) (hS : va_S A0 H0 H locs) (isC : List Nat) (hC : isC.map (fun i => ws[i]?) = wc.map some) (ho : ∀ u, (w1 u).map Prod.fst = wc.map Prod.fst)
    (kk : ∀ (r : Int64) (u : S) (H1 : Heap) (locs1 : List Loc), post r u → va_P D vwCl (plug ws isC (w1 u)) H1 → va_D A0 (plug ws isC (w1 u)) → va_S A0 H0 H1 locs1 → W p l e R s m args below meth c H1 locs1 cells slots Q (F0 m (pc + 3) ls (.long r :: rest))) : W p l e R s m args below meth c H locs cells slots Q (F0 m pc ls st0) := by
  refine va_calll hr hS (fun q _ h => ad_in hD isC hC q h) (ad_in hD isC hC) (fun r u t H1 locs1 ht hvm hw hB hz hk hS => ?_)
  rw [ht] at hB
  obtain ⟨h1, h2⟩ := va_back hP hD isC hC (ho u) hk hB
  exact kk r u H1 locs1 hw h1 h2 hS
theorem wr_v {S : Type} {post : S → Prop} {w1 : S → va_W} (hr : va_Run p l e R s m args below meth c H locs cells slots 0 0 (F0 m pc ls st0) rest (WV D post w1 wc a) (ad wc)) (hP : va_P D vwCl ws H) (hD : va_D A0 ws) (hS : va_S A0 H0 H locs) (isC : List Nat) (hC : isC.map (fun i => ws[i]?) = wc.map some) (ho : ∀ u, (w1 u).map Prod.fst = wc.map Prod.fst)
    (kk : ∀ (u : S) (H1 : Heap) (locs1 : List Loc), post u → va_P D vwCl (plug ws isC (w1 u)) H1 → va_D A0 (plug ws isC (w1 u)) → va_S A0 H0 H1 locs1 → W p l e R s m args below meth c H1 locs1 cells slots Q (F0 m (pc + 3) ls rest)) : W p l e R s m args below meth c H locs cells slots Q (F0 m pc ls st0) := by
  refine va_callv hr hS (fun q _ h => ad_in hD isC hC q h) (ad_in hD isC hC) (fun u t H1 locs1 ht hvm hw hB hz hk hS => ?_)
  rw [ht] at hB
  obtain ⟨h1, h2⟩ := va_back hP hD isC hC (ho u) hk hB
  exact kk u H1 locs1 hw h1 h2 hS
end CALLS
end
section
theorem dX0_init_0 : decode cX0_init 0 = .ok (.aload_n 0, 1) := by decide +kernel
theorem dX0_init_1 : decode cX0_init 1 = .ok (.invokespecial 3, 3) := by decide +kernel
theorem dX0_init_4 : decode cX0_init 4 = .ok (.aload_n 0, 1) := by decide +kernel
theorem dX0_init_5 : decode cX0_init 5 = .ok (.iconst 0, 1) := by decide +kernel
theorem dX0_init_6 : decode cX0_init 6 = .ok (.putfield 9, 3) := by decide +kernel
theorem dX0_init_9 : decode cX0_init 9 = .ok (.aload_n 0, 1) := by decide +kernel
theorem dX0_init_10 : decode cX0_init 10 = .ok (.iconst (-1), 1) := by decide +kernel
theorem dX0_init_11 : decode cX0_init 11 = .ok (.putfield 15, 3) := by decide +kernel
theorem dX0_init_14 : decode cX0_init 14 = .ok (.aload_n 0, 1) := by decide +kernel
theorem dX0_init_15 : decode cX0_init 15 = .ok (.iconst 0, 1) := by decide +kernel
theorem dX0_init_16 : decode cX0_init 16 = .ok (.putfield 18, 3) := by decide +kernel
theorem dX0_init_19 : decode cX0_init 19 = .ok (.aload_n 0, 1) := by decide +kernel
theorem dX0_init_20 : decode cX0_init 20 = .ok (.iconst 0, 1) := by decide +kernel
theorem dX0_init_21 : decode cX0_init 21 = .ok (.putfield 21, 3) := by decide +kernel
theorem dX0_init_24 : decode cX0_init 24 = .ok (.return_, 1) := by decide +kernel
theorem dX0_none_0 : decode cX0_none 0 = .ok (.aload_n 0, 1) := by decide +kernel
theorem dX0_none_1 : decode cX0_none 1 = .ok (.iload_n 1, 1) := by decide +kernel
theorem dX0_none_2 : decode cX0_none 2 = .ok (.putfield 9, 3) := by decide +kernel
theorem dX0_none_5 : decode cX0_none 5 = .ok (.aload_n 0, 1) := by decide +kernel
theorem dX0_none_6 : decode cX0_none 6 = .ok (.iconst (-1), 1) := by decide +kernel
theorem dX0_none_7 : decode cX0_none 7 = .ok (.putfield 15, 3) := by decide +kernel
theorem dX0_none_10 : decode cX0_none 10 = .ok (.return_, 1) := by decide +kernel
theorem dX0_take_0 : decode cX0_take 0 = .ok (.aload_n 0, 1) := by decide +kernel
theorem dX0_take_1 : decode cX0_take 1 = .ok (.iload_n 1, 1) := by decide +kernel
theorem dX0_take_2 : decode cX0_take 2 = .ok (.putfield 9, 3) := by decide +kernel
theorem dX0_take_5 : decode cX0_take 5 = .ok (.aload_n 0, 1) := by decide +kernel
theorem dX0_take_6 : decode cX0_take 6 = .ok (.iload_n 2, 1) := by decide +kernel
theorem dX0_take_7 : decode cX0_take 7 = .ok (.putfield 15, 3) := by decide +kernel
theorem dX0_take_10 : decode cX0_take 10 = .ok (.aload_n 0, 1) := by decide +kernel
theorem dX0_take_11 : decode cX0_take 11 = .ok (.iload_n 3, 1) := by decide +kernel
theorem dX0_take_12 : decode cX0_take 12 = .ok (.putfield 18, 3) := by decide +kernel
theorem dX0_take_15 : decode cX0_take 15 = .ok (.aload_n 0, 1) := by decide +kernel
theorem dX0_take_16 : decode cX0_take 16 = .ok (.iload 4, 2) := by decide +kernel
theorem dX0_take_18 : decode cX0_take 18 = .ok (.putfield 21, 3) := by decide +kernel
theorem dX0_take_21 : decode cX0_take 21 = .ok (.return_, 1) := by decide +kernel
theorem dX1_init_0 : decode cX1_init 0 = .ok (.aload_n 0, 1) := by decide +kernel
theorem dX1_init_1 : decode cX1_init 1 = .ok (.invokespecial 3, 3) := by decide +kernel
theorem dX1_init_4 : decode cX1_init 4 = .ok (.aload_n 0, 1) := by decide +kernel
theorem dX1_init_5 : decode cX1_init 5 = .ok (.bipush 6, 2) := by decide +kernel
theorem dX1_init_7 : decode cX1_init 7 = .ok (.newarray .int, 2) := by decide +kernel
theorem dX1_init_9 : decode cX1_init 9 = .ok (.putfield 9, 3) := by decide +kernel
theorem dX1_init_12 : decode cX1_init 12 = .ok (.aload_n 0, 1) := by decide +kernel
theorem dX1_init_13 : decode cX1_init 13 = .ok (.bipush 6, 2) := by decide +kernel
theorem dX1_init_15 : decode cX1_init 15 = .ok (.newarray .int, 2) := by decide +kernel
theorem dX1_init_17 : decode cX1_init 17 = .ok (.putfield 15, 3) := by decide +kernel
theorem dX1_init_20 : decode cX1_init 20 = .ok (.aload_n 0, 1) := by decide +kernel
theorem dX1_init_21 : decode cX1_init 21 = .ok (.bipush 6, 2) := by decide +kernel
theorem dX1_init_23 : decode cX1_init 23 = .ok (.newarray .int, 2) := by decide +kernel
theorem dX1_init_25 : decode cX1_init 25 = .ok (.putfield 18, 3) := by decide +kernel
theorem dX1_init_28 : decode cX1_init 28 = .ok (.aload_n 0, 1) := by decide +kernel
theorem dX1_init_29 : decode cX1_init 29 = .ok (.iconst 0, 1) := by decide +kernel
theorem dX1_init_30 : decode cX1_init 30 = .ok (.putfield 21, 3) := by decide +kernel
theorem dX1_init_33 : decode cX1_init 33 = .ok (.return_, 1) := by decide +kernel
set_option maxRecDepth 20000 in
theorem ggX1_add_X5_put : GoodIn wsX1_add wsX5_put := goodIn_r _ [7] (by decide +kernel) (by decide +kernel)
set_option maxRecDepth 20000 in
theorem gX1_add_X5_put_n25 : GoodIn wsX1_add (wsX5_put) := ggX1_add_X5_put
theorem dX1_add_0 : decode cX1_add 0 = .ok (.aload_n 0, 1) := by decide +kernel
theorem dX1_add_1 : decode cX1_add 1 = .ok (.getfield 9, 3) := by decide +kernel
theorem dX1_add_4 : decode cX1_add 4 = .ok (.aload_n 0, 1) := by decide +kernel
theorem dX1_add_5 : decode cX1_add 5 = .ok (.getfield 21, 3) := by decide +kernel
theorem dX1_add_8 : decode cX1_add 8 = .ok (.iload_n 1, 1) := by decide +kernel
theorem dX1_add_9 : decode cX1_add 9 = .ok (.invokestatic 25, 3) := by decide +kernel
theorem dX1_add_12 : decode cX1_add 12 = .ok (.aload_n 0, 1) := by decide +kernel
theorem dX1_add_13 : decode cX1_add 13 = .ok (.getfield 15, 3) := by decide +kernel
theorem dX1_add_16 : decode cX1_add 16 = .ok (.aload_n 0, 1) := by decide +kernel
theorem dX1_add_17 : decode cX1_add 17 = .ok (.getfield 21, 3) := by decide +kernel
theorem dX1_add_20 : decode cX1_add 20 = .ok (.iload_n 2, 1) := by decide +kernel
theorem dX1_add_21 : decode cX1_add 21 = .ok (.invokestatic 25, 3) := by decide +kernel
theorem dX1_add_24 : decode cX1_add 24 = .ok (.aload_n 0, 1) := by decide +kernel
theorem dX1_add_25 : decode cX1_add 25 = .ok (.getfield 18, 3) := by decide +kernel
theorem dX1_add_28 : decode cX1_add 28 = .ok (.aload_n 0, 1) := by decide +kernel
theorem dX1_add_29 : decode cX1_add 29 = .ok (.getfield 21, 3) := by decide +kernel
theorem dX1_add_32 : decode cX1_add 32 = .ok (.iload_n 3, 1) := by decide +kernel
theorem dX1_add_33 : decode cX1_add 33 = .ok (.invokestatic 25, 3) := by decide +kernel
theorem dX1_add_36 : decode cX1_add 36 = .ok (.aload_n 0, 1) := by decide +kernel
theorem dX1_add_37 : decode cX1_add 37 = .ok (.dup, 1) := by decide +kernel
theorem dX1_add_38 : decode cX1_add 38 = .ok (.getfield 21, 3) := by decide +kernel
theorem dX1_add_41 : decode cX1_add 41 = .ok (.iconst 1, 1) := by decide +kernel
theorem dX1_add_42 : decode cX1_add 42 = .ok (.iadd, 1) := by decide +kernel
theorem dX1_add_43 : decode cX1_add 43 = .ok (.putfield 21, 3) := by decide +kernel
theorem dX1_add_46 : decode cX1_add 46 = .ok (.return_, 1) := by decide +kernel
theorem dX2_init_0 : decode cX2_init 0 = .ok (.aload_n 0, 1) := by decide +kernel
theorem dX2_init_1 : decode cX2_init 1 = .ok (.invokespecial 3, 3) := by decide +kernel
theorem dX2_init_4 : decode cX2_init 4 = .ok (.aload_n 0, 1) := by decide +kernel
theorem dX2_init_5 : decode cX2_init 5 = .ok (.bipush 12, 2) := by decide +kernel
theorem dX2_init_7 : decode cX2_init 7 = .ok (.newarray .int, 2) := by decide +kernel
theorem dX2_init_9 : decode cX2_init 9 = .ok (.putfield 9, 3) := by decide +kernel
theorem dX2_init_12 : decode cX2_init 12 = .ok (.aload_n 0, 1) := by decide +kernel
theorem dX2_init_13 : decode cX2_init 13 = .ok (.bipush 12, 2) := by decide +kernel
theorem dX2_init_15 : decode cX2_init 15 = .ok (.newarray .int, 2) := by decide +kernel
theorem dX2_init_17 : decode cX2_init 17 = .ok (.putfield 15, 3) := by decide +kernel
theorem dX2_init_20 : decode cX2_init 20 = .ok (.aload_n 0, 1) := by decide +kernel
theorem dX2_init_21 : decode cX2_init 21 = .ok (.bipush 6, 2) := by decide +kernel
theorem dX2_init_23 : decode cX2_init 23 = .ok (.newarray .int, 2) := by decide +kernel
theorem dX2_init_25 : decode cX2_init 25 = .ok (.putfield 18, 3) := by decide +kernel
theorem dX2_init_28 : decode cX2_init 28 = .ok (.aload_n 0, 1) := by decide +kernel
theorem dX2_init_29 : decode cX2_init 29 = .ok (.bipush 6, 2) := by decide +kernel
theorem dX2_init_31 : decode cX2_init 31 = .ok (.newarray .int, 2) := by decide +kernel
theorem dX2_init_33 : decode cX2_init 33 = .ok (.putfield 21, 3) := by decide +kernel
theorem dX2_init_36 : decode cX2_init 36 = .ok (.aload_n 0, 1) := by decide +kernel
theorem dX2_init_37 : decode cX2_init 37 = .ok (.bipush 6, 2) := by decide +kernel
theorem dX2_init_39 : decode cX2_init 39 = .ok (.newarray .int, 2) := by decide +kernel
theorem dX2_init_41 : decode cX2_init 41 = .ok (.putfield 24, 3) := by decide +kernel
theorem dX2_init_44 : decode cX2_init 44 = .ok (.aload_n 0, 1) := by decide +kernel
theorem dX2_init_45 : decode cX2_init 45 = .ok (.iconst 0, 1) := by decide +kernel
theorem dX2_init_46 : decode cX2_init 46 = .ok (.putfield 27, 3) := by decide +kernel
theorem dX2_init_49 : decode cX2_init 49 = .ok (.aload_n 0, 1) := by decide +kernel
theorem dX2_init_50 : decode cX2_init 50 = .ok (.iconst 0, 1) := by decide +kernel
theorem dX2_init_51 : decode cX2_init 51 = .ok (.putfield 31, 3) := by decide +kernel
theorem dX2_init_54 : decode cX2_init 54 = .ok (.aload_n 0, 1) := by decide +kernel
theorem dX2_init_55 : decode cX2_init 55 = .ok (.iconst 0, 1) := by decide +kernel
theorem dX2_init_56 : decode cX2_init 56 = .ok (.putfield 34, 3) := by decide +kernel
theorem dX2_init_59 : decode cX2_init 59 = .ok (.aload_n 0, 1) := by decide +kernel
theorem dX2_init_60 : decode cX2_init 60 = .ok (.iconst 0, 1) := by decide +kernel
theorem dX2_init_61 : decode cX2_init 61 = .ok (.putfield 37, 3) := by decide +kernel
theorem dX2_init_64 : decode cX2_init 64 = .ok (.return_, 1) := by decide +kernel
theorem dX2_empty_0 : decode cX2_empty 0 = .ok (.aload_n 0, 1) := by decide +kernel
theorem dX2_empty_1 : decode cX2_empty 1 = .ok (.iconst 0, 1) := by decide +kernel
theorem dX2_empty_2 : decode cX2_empty 2 = .ok (.putfield 27, 3) := by decide +kernel
theorem dX2_empty_5 : decode cX2_empty 5 = .ok (.aload_n 0, 1) := by decide +kernel
theorem dX2_empty_6 : decode cX2_empty 6 = .ok (.iconst 0, 1) := by decide +kernel
theorem dX2_empty_7 : decode cX2_empty 7 = .ok (.putfield 31, 3) := by decide +kernel
theorem dX2_empty_10 : decode cX2_empty 10 = .ok (.aload_n 0, 1) := by decide +kernel
theorem dX2_empty_11 : decode cX2_empty 11 = .ok (.iconst 0, 1) := by decide +kernel
theorem dX2_empty_12 : decode cX2_empty 12 = .ok (.putfield 34, 3) := by decide +kernel
theorem dX2_empty_15 : decode cX2_empty 15 = .ok (.aload_n 0, 1) := by decide +kernel
theorem dX2_empty_16 : decode cX2_empty 16 = .ok (.iconst 0, 1) := by decide +kernel
theorem dX2_empty_17 : decode cX2_empty 17 = .ok (.putfield 37, 3) := by decide +kernel
theorem dX2_empty_20 : decode cX2_empty 20 = .ok (.return_, 1) := by decide +kernel
set_option maxRecDepth 20000 in
theorem ggX2_addPiece_X5_put : GoodIn wsX2_addPiece wsX5_put := goodIn_r _ [6] (by decide +kernel) (by decide +kernel)
set_option maxRecDepth 20000 in
theorem gX2_addPiece_X5_put_n40 : GoodIn wsX2_addPiece (wsX5_put) := ggX2_addPiece_X5_put
theorem dX2_addPiece_0 : decode cX2_addPiece 0 = .ok (.aload_n 0, 1) := by decide +kernel
theorem dX2_addPiece_1 : decode cX2_addPiece 1 = .ok (.getfield 9, 3) := by decide +kernel
theorem dX2_addPiece_4 : decode cX2_addPiece 4 = .ok (.aload_n 0, 1) := by decide +kernel
theorem dX2_addPiece_5 : decode cX2_addPiece 5 = .ok (.getfield 27, 3) := by decide +kernel
theorem dX2_addPiece_8 : decode cX2_addPiece 8 = .ok (.iload_n 1, 1) := by decide +kernel
theorem dX2_addPiece_9 : decode cX2_addPiece 9 = .ok (.invokestatic 40, 3) := by decide +kernel
theorem dX2_addPiece_12 : decode cX2_addPiece 12 = .ok (.aload_n 0, 1) := by decide +kernel
theorem dX2_addPiece_13 : decode cX2_addPiece 13 = .ok (.getfield 15, 3) := by decide +kernel
theorem dX2_addPiece_16 : decode cX2_addPiece 16 = .ok (.aload_n 0, 1) := by decide +kernel
theorem dX2_addPiece_17 : decode cX2_addPiece 17 = .ok (.getfield 27, 3) := by decide +kernel
theorem dX2_addPiece_20 : decode cX2_addPiece 20 = .ok (.iload_n 2, 1) := by decide +kernel
theorem dX2_addPiece_21 : decode cX2_addPiece 21 = .ok (.invokestatic 40, 3) := by decide +kernel
theorem dX2_addPiece_24 : decode cX2_addPiece 24 = .ok (.aload_n 0, 1) := by decide +kernel
theorem dX2_addPiece_25 : decode cX2_addPiece 25 = .ok (.dup, 1) := by decide +kernel
theorem dX2_addPiece_26 : decode cX2_addPiece 26 = .ok (.getfield 27, 3) := by decide +kernel
theorem dX2_addPiece_29 : decode cX2_addPiece 29 = .ok (.iconst 1, 1) := by decide +kernel
theorem dX2_addPiece_30 : decode cX2_addPiece 30 = .ok (.iadd, 1) := by decide +kernel
theorem dX2_addPiece_31 : decode cX2_addPiece 31 = .ok (.putfield 27, 3) := by decide +kernel
theorem dX2_addPiece_34 : decode cX2_addPiece 34 = .ok (.return_, 1) := by decide +kernel
set_option maxRecDepth 20000 in
theorem ggX2_addHole_X5_put : GoodIn wsX2_addHole wsX5_put := goodIn_r _ [7] (by decide +kernel) (by decide +kernel)
set_option maxRecDepth 20000 in
theorem gX2_addHole_X5_put_n40 : GoodIn wsX2_addHole (wsX5_put) := ggX2_addHole_X5_put
theorem dX2_addHole_0 : decode cX2_addHole 0 = .ok (.aload_n 0, 1) := by decide +kernel
theorem dX2_addHole_1 : decode cX2_addHole 1 = .ok (.getfield 18, 3) := by decide +kernel
theorem dX2_addHole_4 : decode cX2_addHole 4 = .ok (.aload_n 0, 1) := by decide +kernel
theorem dX2_addHole_5 : decode cX2_addHole 5 = .ok (.getfield 31, 3) := by decide +kernel
theorem dX2_addHole_8 : decode cX2_addHole 8 = .ok (.iload_n 1, 1) := by decide +kernel
theorem dX2_addHole_9 : decode cX2_addHole 9 = .ok (.invokestatic 40, 3) := by decide +kernel
theorem dX2_addHole_12 : decode cX2_addHole 12 = .ok (.aload_n 0, 1) := by decide +kernel
theorem dX2_addHole_13 : decode cX2_addHole 13 = .ok (.getfield 21, 3) := by decide +kernel
theorem dX2_addHole_16 : decode cX2_addHole 16 = .ok (.aload_n 0, 1) := by decide +kernel
theorem dX2_addHole_17 : decode cX2_addHole 17 = .ok (.getfield 31, 3) := by decide +kernel
theorem dX2_addHole_20 : decode cX2_addHole 20 = .ok (.iload_n 2, 1) := by decide +kernel
theorem dX2_addHole_21 : decode cX2_addHole 21 = .ok (.invokestatic 40, 3) := by decide +kernel
theorem dX2_addHole_24 : decode cX2_addHole 24 = .ok (.aload_n 0, 1) := by decide +kernel
theorem dX2_addHole_25 : decode cX2_addHole 25 = .ok (.getfield 24, 3) := by decide +kernel
theorem dX2_addHole_28 : decode cX2_addHole 28 = .ok (.aload_n 0, 1) := by decide +kernel
theorem dX2_addHole_29 : decode cX2_addHole 29 = .ok (.getfield 31, 3) := by decide +kernel
theorem dX2_addHole_32 : decode cX2_addHole 32 = .ok (.iload_n 3, 1) := by decide +kernel
theorem dX2_addHole_33 : decode cX2_addHole 33 = .ok (.invokestatic 40, 3) := by decide +kernel
theorem dX2_addHole_36 : decode cX2_addHole 36 = .ok (.aload_n 0, 1) := by decide +kernel
theorem dX2_addHole_37 : decode cX2_addHole 37 = .ok (.dup, 1) := by decide +kernel
theorem dX2_addHole_38 : decode cX2_addHole 38 = .ok (.getfield 31, 3) := by decide +kernel
theorem dX2_addHole_41 : decode cX2_addHole 41 = .ok (.iconst 1, 1) := by decide +kernel
theorem dX2_addHole_42 : decode cX2_addHole 42 = .ok (.iadd, 1) := by decide +kernel
theorem dX2_addHole_43 : decode cX2_addHole 43 = .ok (.putfield 31, 3) := by decide +kernel
theorem dX2_addHole_46 : decode cX2_addHole 46 = .ok (.return_, 1) := by decide +kernel
theorem dX2_rowOf_0 : decode cX2_rowOf 0 = .ok (.iload_n 1, 1) := by decide +kernel
theorem dX2_rowOf_1 : decode cX2_rowOf 1 = .ok (.ifCond .ne 10, 3) := by decide +kernel
theorem dX2_rowOf_4 : decode cX2_rowOf 4 = .ok (.aload_n 0, 1) := by decide +kernel
theorem dX2_rowOf_5 : decode cX2_rowOf 5 = .ok (.getfield 18, 3) := by decide +kernel
theorem dX2_rowOf_8 : decode cX2_rowOf 8 = .ok (.goto 19, 3) := by decide +kernel
theorem dX2_rowOf_11 : decode cX2_rowOf 11 = .ok (.iload_n 1, 1) := by decide +kernel
theorem dX2_rowOf_12 : decode cX2_rowOf 12 = .ok (.iconst 1, 1) := by decide +kernel
theorem dX2_rowOf_13 : decode cX2_rowOf 13 = .ok (.if_icmp .ne 10, 3) := by decide +kernel
theorem dX2_rowOf_16 : decode cX2_rowOf 16 = .ok (.aload_n 0, 1) := by decide +kernel
theorem dX2_rowOf_17 : decode cX2_rowOf 17 = .ok (.getfield 21, 3) := by decide +kernel
theorem dX2_rowOf_20 : decode cX2_rowOf 20 = .ok (.goto 7, 3) := by decide +kernel
theorem dX2_rowOf_23 : decode cX2_rowOf 23 = .ok (.aload_n 0, 1) := by decide +kernel
theorem dX2_rowOf_24 : decode cX2_rowOf 24 = .ok (.getfield 24, 3) := by decide +kernel
theorem dX2_rowOf_27 : decode cX2_rowOf 27 = .ok (.areturn, 1) := by decide +kernel
set_option maxRecDepth 20000 in
theorem ggX2_ofHole_X2_rowOf : GoodIn wsX2_ofHole wsX2_rowOf := goodIn_r _ [5, 6, 7, 8, 12, 13, 14, 15, 16, 17, 18, 19, 20] (by decide +kernel) (by decide +kernel)
set_option maxRecDepth 20000 in
theorem gX2_ofHole_X2_rowOf : GoodIn wsX2_ofHole (wsV RX2 44 RX2 yX2_rowOf wsX2_rowOf) := goodIn_app (goodIn_of _ (by decide +kernel)) ggX2_ofHole_X2_rowOf
set_option maxRecDepth 20000 in
theorem ggX2_ofHole_X5_at : GoodIn wsX2_ofHole wsX5_at := goodIn_r _ [11] (by decide +kernel) (by decide +kernel)
set_option maxRecDepth 20000 in
theorem gX2_ofHole_X5_at_n48 : GoodIn wsX2_ofHole (wsX5_at) := ggX2_ofHole_X5_at
theorem dX2_ofHole_0 : decode cX2_ofHole 0 = .ok (.aload_n 0, 1) := by decide +kernel
theorem dX2_ofHole_1 : decode cX2_ofHole 1 = .ok (.iload_n 2, 1) := by decide +kernel
theorem dX2_ofHole_2 : decode cX2_ofHole 2 = .ok (.invokevirtual 44, 3) := by decide +kernel
theorem dX2_ofHole_5 : decode cX2_ofHole 5 = .ok (.iload_n 1, 1) := by decide +kernel
theorem dX2_ofHole_6 : decode cX2_ofHole 6 = .ok (.invokestatic 48, 3) := by decide +kernel
theorem dX2_ofHole_9 : decode cX2_ofHole 9 = .ok (.ireturn, 1) := by decide +kernel
set_option maxRecDepth 20000 in
theorem ggX2_changeHole_X2_rowOf : GoodIn wsX2_changeHole wsX2_rowOf := goodIn_r _ [5, 6, 7, 8, 12, 13, 14, 15, 16, 17, 18, 19, 20] (by decide +kernel) (by decide +kernel)
set_option maxRecDepth 20000 in
theorem gX2_changeHole_X2_rowOf : GoodIn wsX2_changeHole (wsV RX2 44 RX2 yX2_rowOf wsX2_rowOf) := goodIn_app (goodIn_of _ (by decide +kernel)) ggX2_changeHole_X2_rowOf
set_option maxRecDepth 20000 in
theorem ggX2_changeHole_X5_put : GoodIn wsX2_changeHole wsX5_put := goodIn_r _ [11] (by decide +kernel) (by decide +kernel)
set_option maxRecDepth 20000 in
theorem gX2_changeHole_X5_put_n40 : GoodIn wsX2_changeHole (wsX5_put) := ggX2_changeHole_X5_put
theorem dX2_changeHole_0 : decode cX2_changeHole 0 = .ok (.aload_n 0, 1) := by decide +kernel
theorem dX2_changeHole_1 : decode cX2_changeHole 1 = .ok (.iload_n 2, 1) := by decide +kernel
theorem dX2_changeHole_2 : decode cX2_changeHole 2 = .ok (.invokevirtual 44, 3) := by decide +kernel
theorem dX2_changeHole_5 : decode cX2_changeHole 5 = .ok (.iload_n 1, 1) := by decide +kernel
theorem dX2_changeHole_6 : decode cX2_changeHole 6 = .ok (.iload_n 3, 1) := by decide +kernel
theorem dX2_changeHole_7 : decode cX2_changeHole 7 = .ok (.invokestatic 40, 3) := by decide +kernel
theorem dX2_changeHole_10 : decode cX2_changeHole 10 = .ok (.return_, 1) := by decide +kernel
set_option maxRecDepth 20000 in
theorem ggX2_startOf_X5_at : GoodIn wsX2_startOf wsX5_at := goodIn_r _ [4] (by decide +kernel) (by decide +kernel)
set_option maxRecDepth 20000 in
theorem gX2_startOf_X5_at_n48 : GoodIn wsX2_startOf (wsX5_at) := ggX2_startOf_X5_at
theorem dX2_startOf_0 : decode cX2_startOf 0 = .ok (.iconst 0, 1) := by decide +kernel
theorem dX2_startOf_1 : decode cX2_startOf 1 = .ok (.istore_n 2, 1) := by decide +kernel
theorem dX2_startOf_2 : decode cX2_startOf 2 = .ok (.iconst 0, 1) := by decide +kernel
theorem dX2_startOf_3 : decode cX2_startOf 3 = .ok (.istore_n 3, 1) := by decide +kernel
theorem dX2_startOf_4 : decode cX2_startOf 4 = .ok (.iload_n 3, 1) := by decide +kernel
theorem dX2_startOf_5 : decode cX2_startOf 5 = .ok (.iload_n 1, 1) := by decide +kernel
theorem dX2_startOf_6 : decode cX2_startOf 6 = .ok (.if_icmp .ge 20, 3) := by decide +kernel
theorem dX2_startOf_9 : decode cX2_startOf 9 = .ok (.iload_n 2, 1) := by decide +kernel
theorem dX2_startOf_10 : decode cX2_startOf 10 = .ok (.aload_n 0, 1) := by decide +kernel
theorem dX2_startOf_11 : decode cX2_startOf 11 = .ok (.getfield 9, 3) := by decide +kernel
theorem dX2_startOf_14 : decode cX2_startOf 14 = .ok (.iload_n 3, 1) := by decide +kernel
theorem dX2_startOf_15 : decode cX2_startOf 15 = .ok (.invokestatic 48, 3) := by decide +kernel
theorem dX2_startOf_18 : decode cX2_startOf 18 = .ok (.iadd, 1) := by decide +kernel
theorem dX2_startOf_19 : decode cX2_startOf 19 = .ok (.istore_n 2, 1) := by decide +kernel
theorem dX2_startOf_20 : decode cX2_startOf 20 = .ok (.iinc 3 1, 3) := by decide +kernel
theorem dX2_startOf_23 : decode cX2_startOf 23 = .ok (.goto (-19), 3) := by decide +kernel
theorem dX2_startOf_26 : decode cX2_startOf 26 = .ok (.iload_n 2, 1) := by decide +kernel
theorem dX2_startOf_27 : decode cX2_startOf 27 = .ok (.ireturn, 1) := by decide +kernel
set_option maxRecDepth 20000 in
theorem ggX2_wholeLength_X2_startOf : GoodIn wsX2_wholeLength wsX2_startOf := goodIn_r _ [6, 7, 8, 9, 10, 11, 12, 13, 14, 15, 16, 17, 18, 19] (by decide +kernel) (by decide +kernel)
set_option maxRecDepth 20000 in
theorem gX2_wholeLength_X2_startOf : GoodIn wsX2_wholeLength (wsV RX2 52 RX2 yX2_startOf wsX2_startOf) := goodIn_app (goodIn_of _ (by decide +kernel)) ggX2_wholeLength_X2_startOf
theorem dX2_wholeLength_0 : decode cX2_wholeLength 0 = .ok (.aload_n 0, 1) := by decide +kernel
theorem dX2_wholeLength_1 : decode cX2_wholeLength 1 = .ok (.aload_n 0, 1) := by decide +kernel
theorem dX2_wholeLength_2 : decode cX2_wholeLength 2 = .ok (.getfield 27, 3) := by decide +kernel
theorem dX2_wholeLength_5 : decode cX2_wholeLength 5 = .ok (.invokevirtual 52, 3) := by decide +kernel
theorem dX2_wholeLength_8 : decode cX2_wholeLength 8 = .ok (.ireturn, 1) := by decide +kernel
set_option maxRecDepth 20000 in
theorem ggX2_pieceAt_X5_at : GoodIn wsX2_pieceAt wsX5_at := goodIn_r _ [5] (by decide +kernel) (by decide +kernel)
set_option maxRecDepth 20000 in
theorem gX2_pieceAt_X5_at_n48 : GoodIn wsX2_pieceAt (wsX5_at) := ggX2_pieceAt_X5_at
theorem dX2_pieceAt_0 : decode cX2_pieceAt 0 = .ok (.iconst 0, 1) := by decide +kernel
theorem dX2_pieceAt_1 : decode cX2_pieceAt 1 = .ok (.istore_n 2, 1) := by decide +kernel
theorem dX2_pieceAt_2 : decode cX2_pieceAt 2 = .ok (.iconst 0, 1) := by decide +kernel
theorem dX2_pieceAt_3 : decode cX2_pieceAt 3 = .ok (.istore_n 3, 1) := by decide +kernel
theorem dX2_pieceAt_4 : decode cX2_pieceAt 4 = .ok (.iload_n 3, 1) := by decide +kernel
theorem dX2_pieceAt_5 : decode cX2_pieceAt 5 = .ok (.aload_n 0, 1) := by decide +kernel
theorem dX2_pieceAt_6 : decode cX2_pieceAt 6 = .ok (.getfield 27, 3) := by decide +kernel
theorem dX2_pieceAt_9 : decode cX2_pieceAt 9 = .ok (.if_icmp .ge 27, 3) := by decide +kernel
theorem dX2_pieceAt_12 : decode cX2_pieceAt 12 = .ok (.iload_n 2, 1) := by decide +kernel
theorem dX2_pieceAt_13 : decode cX2_pieceAt 13 = .ok (.aload_n 0, 1) := by decide +kernel
theorem dX2_pieceAt_14 : decode cX2_pieceAt 14 = .ok (.getfield 9, 3) := by decide +kernel
theorem dX2_pieceAt_17 : decode cX2_pieceAt 17 = .ok (.iload_n 3, 1) := by decide +kernel
theorem dX2_pieceAt_18 : decode cX2_pieceAt 18 = .ok (.invokestatic 48, 3) := by decide +kernel
theorem dX2_pieceAt_21 : decode cX2_pieceAt 21 = .ok (.iadd, 1) := by decide +kernel
theorem dX2_pieceAt_22 : decode cX2_pieceAt 22 = .ok (.istore_n 2, 1) := by decide +kernel
theorem dX2_pieceAt_23 : decode cX2_pieceAt 23 = .ok (.iload_n 1, 1) := by decide +kernel
theorem dX2_pieceAt_24 : decode cX2_pieceAt 24 = .ok (.iload_n 2, 1) := by decide +kernel
theorem dX2_pieceAt_25 : decode cX2_pieceAt 25 = .ok (.if_icmp .gt 5, 3) := by decide +kernel
theorem dX2_pieceAt_28 : decode cX2_pieceAt 28 = .ok (.iload_n 3, 1) := by decide +kernel
theorem dX2_pieceAt_29 : decode cX2_pieceAt 29 = .ok (.ireturn, 1) := by decide +kernel
theorem dX2_pieceAt_30 : decode cX2_pieceAt 30 = .ok (.iinc 3 1, 3) := by decide +kernel
theorem dX2_pieceAt_33 : decode cX2_pieceAt 33 = .ok (.goto (-29), 3) := by decide +kernel
theorem dX2_pieceAt_36 : decode cX2_pieceAt 36 = .ok (.iconst (-1), 1) := by decide +kernel
theorem dX2_pieceAt_37 : decode cX2_pieceAt 37 = .ok (.ireturn, 1) := by decide +kernel
set_option maxRecDepth 20000 in
theorem ggX2_holeAt_X5_at : GoodIn wsX2_holeAt wsX5_at := goodIn_r _ [5] (by decide +kernel) (by decide +kernel)
set_option maxRecDepth 20000 in
theorem gX2_holeAt_X5_at_n48 : GoodIn wsX2_holeAt (wsX5_at) := ggX2_holeAt_X5_at
theorem dX2_holeAt_0 : decode cX2_holeAt 0 = .ok (.iconst 0, 1) := by decide +kernel
theorem dX2_holeAt_1 : decode cX2_holeAt 1 = .ok (.istore_n 2, 1) := by decide +kernel
theorem dX2_holeAt_2 : decode cX2_holeAt 2 = .ok (.iload_n 2, 1) := by decide +kernel
theorem dX2_holeAt_3 : decode cX2_holeAt 3 = .ok (.aload_n 0, 1) := by decide +kernel
theorem dX2_holeAt_4 : decode cX2_holeAt 4 = .ok (.getfield 31, 3) := by decide +kernel
theorem dX2_holeAt_7 : decode cX2_holeAt 7 = .ok (.if_icmp .ge 23, 3) := by decide +kernel
theorem dX2_holeAt_10 : decode cX2_holeAt 10 = .ok (.aload_n 0, 1) := by decide +kernel
theorem dX2_holeAt_11 : decode cX2_holeAt 11 = .ok (.getfield 18, 3) := by decide +kernel
theorem dX2_holeAt_14 : decode cX2_holeAt 14 = .ok (.iload_n 2, 1) := by decide +kernel
theorem dX2_holeAt_15 : decode cX2_holeAt 15 = .ok (.invokestatic 48, 3) := by decide +kernel
theorem dX2_holeAt_18 : decode cX2_holeAt 18 = .ok (.iload_n 1, 1) := by decide +kernel
theorem dX2_holeAt_19 : decode cX2_holeAt 19 = .ok (.if_icmp .ne 5, 3) := by decide +kernel
theorem dX2_holeAt_22 : decode cX2_holeAt 22 = .ok (.iload_n 2, 1) := by decide +kernel
theorem dX2_holeAt_23 : decode cX2_holeAt 23 = .ok (.ireturn, 1) := by decide +kernel
theorem dX2_holeAt_24 : decode cX2_holeAt 24 = .ok (.iinc 2 1, 3) := by decide +kernel
theorem dX2_holeAt_27 : decode cX2_holeAt 27 = .ok (.goto (-25), 3) := by decide +kernel
theorem dX2_holeAt_30 : decode cX2_holeAt 30 = .ok (.iconst (-1), 1) := by decide +kernel
theorem dX2_holeAt_31 : decode cX2_holeAt 31 = .ok (.ireturn, 1) := by decide +kernel
set_option maxRecDepth 20000 in
theorem ggX2_holesBefore_X5_at : GoodIn wsX2_holesBefore wsX5_at := goodIn_r _ [5] (by decide +kernel) (by decide +kernel)
set_option maxRecDepth 20000 in
theorem gX2_holesBefore_X5_at_n48 : GoodIn wsX2_holesBefore (wsX5_at) := ggX2_holesBefore_X5_at
theorem dX2_holesBefore_0 : decode cX2_holesBefore 0 = .ok (.iconst 0, 1) := by decide +kernel
theorem dX2_holesBefore_1 : decode cX2_holesBefore 1 = .ok (.istore_n 2, 1) := by decide +kernel
theorem dX2_holesBefore_2 : decode cX2_holesBefore 2 = .ok (.iconst 0, 1) := by decide +kernel
theorem dX2_holesBefore_3 : decode cX2_holesBefore 3 = .ok (.istore_n 3, 1) := by decide +kernel
theorem dX2_holesBefore_4 : decode cX2_holesBefore 4 = .ok (.iload_n 3, 1) := by decide +kernel
theorem dX2_holesBefore_5 : decode cX2_holesBefore 5 = .ok (.aload_n 0, 1) := by decide +kernel
theorem dX2_holesBefore_6 : decode cX2_holesBefore 6 = .ok (.getfield 31, 3) := by decide +kernel
theorem dX2_holesBefore_9 : decode cX2_holesBefore 9 = .ok (.if_icmp .ge 24, 3) := by decide +kernel
theorem dX2_holesBefore_12 : decode cX2_holesBefore 12 = .ok (.aload_n 0, 1) := by decide +kernel
theorem dX2_holesBefore_13 : decode cX2_holesBefore 13 = .ok (.getfield 18, 3) := by decide +kernel
theorem dX2_holesBefore_16 : decode cX2_holesBefore 16 = .ok (.iload_n 3, 1) := by decide +kernel
theorem dX2_holesBefore_17 : decode cX2_holesBefore 17 = .ok (.invokestatic 48, 3) := by decide +kernel
theorem dX2_holesBefore_20 : decode cX2_holesBefore 20 = .ok (.iload_n 1, 1) := by decide +kernel
theorem dX2_holesBefore_21 : decode cX2_holesBefore 21 = .ok (.if_icmp .ge 6, 3) := by decide +kernel
theorem dX2_holesBefore_24 : decode cX2_holesBefore 24 = .ok (.iinc 2 1, 3) := by decide +kernel
theorem dX2_holesBefore_27 : decode cX2_holesBefore 27 = .ok (.iinc 3 1, 3) := by decide +kernel
theorem dX2_holesBefore_30 : decode cX2_holesBefore 30 = .ok (.goto (-26), 3) := by decide +kernel
theorem dX2_holesBefore_33 : decode cX2_holesBefore 33 = .ok (.iload_n 2, 1) := by decide +kernel
theorem dX2_holesBefore_34 : decode cX2_holesBefore 34 = .ok (.ireturn, 1) := by decide +kernel
set_option maxRecDepth 20000 in
theorem ggX2_lastHoleBefore_X5_at : GoodIn wsX2_lastHoleBefore wsX5_at := goodIn_r _ [9] (by decide +kernel) (by decide +kernel)
set_option maxRecDepth 20000 in
theorem gX2_lastHoleBefore_X5_at_n48 : GoodIn wsX2_lastHoleBefore (wsX5_at) := ggX2_lastHoleBefore_X5_at
theorem dX2_lastHoleBefore_0 : decode cX2_lastHoleBefore 0 = .ok (.iconst 0, 1) := by decide +kernel
theorem dX2_lastHoleBefore_1 : decode cX2_lastHoleBefore 1 = .ok (.istore_n 2, 1) := by decide +kernel
theorem dX2_lastHoleBefore_2 : decode cX2_lastHoleBefore 2 = .ok (.iconst 0, 1) := by decide +kernel
theorem dX2_lastHoleBefore_3 : decode cX2_lastHoleBefore 3 = .ok (.istore_n 3, 1) := by decide +kernel
theorem dX2_lastHoleBefore_4 : decode cX2_lastHoleBefore 4 = .ok (.iload_n 3, 1) := by decide +kernel
theorem dX2_lastHoleBefore_5 : decode cX2_lastHoleBefore 5 = .ok (.aload_n 0, 1) := by decide +kernel
theorem dX2_lastHoleBefore_6 : decode cX2_lastHoleBefore 6 = .ok (.getfield 31, 3) := by decide +kernel
theorem dX2_lastHoleBefore_9 : decode cX2_lastHoleBefore 9 = .ok (.if_icmp .ge 34, 3) := by decide +kernel
theorem dX2_lastHoleBefore_12 : decode cX2_lastHoleBefore 12 = .ok (.aload_n 0, 1) := by decide +kernel
theorem dX2_lastHoleBefore_13 : decode cX2_lastHoleBefore 13 = .ok (.getfield 18, 3) := by decide +kernel
theorem dX2_lastHoleBefore_16 : decode cX2_lastHoleBefore 16 = .ok (.iload_n 3, 1) := by decide +kernel
theorem dX2_lastHoleBefore_17 : decode cX2_lastHoleBefore 17 = .ok (.invokestatic 48, 3) := by decide +kernel
theorem dX2_lastHoleBefore_20 : decode cX2_lastHoleBefore 20 = .ok (.iload_n 1, 1) := by decide +kernel
theorem dX2_lastHoleBefore_21 : decode cX2_lastHoleBefore 21 = .ok (.if_icmp .ge 16, 3) := by decide +kernel
theorem dX2_lastHoleBefore_24 : decode cX2_lastHoleBefore 24 = .ok (.iload_n 2, 1) := by decide +kernel
theorem dX2_lastHoleBefore_25 : decode cX2_lastHoleBefore 25 = .ok (.aload_n 0, 1) := by decide +kernel
theorem dX2_lastHoleBefore_26 : decode cX2_lastHoleBefore 26 = .ok (.getfield 18, 3) := by decide +kernel
theorem dX2_lastHoleBefore_29 : decode cX2_lastHoleBefore 29 = .ok (.iload_n 3, 1) := by decide +kernel
theorem dX2_lastHoleBefore_30 : decode cX2_lastHoleBefore 30 = .ok (.invokestatic 48, 3) := by decide +kernel
theorem dX2_lastHoleBefore_33 : decode cX2_lastHoleBefore 33 = .ok (.invokestatic 56, 3) := by decide +kernel
theorem dX2_lastHoleBefore_36 : decode cX2_lastHoleBefore 36 = .ok (.istore_n 2, 1) := by decide +kernel
theorem dX2_lastHoleBefore_37 : decode cX2_lastHoleBefore 37 = .ok (.iinc 3 1, 3) := by decide +kernel
theorem dX2_lastHoleBefore_40 : decode cX2_lastHoleBefore 40 = .ok (.goto (-36), 3) := by decide +kernel
theorem dX2_lastHoleBefore_43 : decode cX2_lastHoleBefore 43 = .ok (.iload_n 2, 1) := by decide +kernel
theorem dX2_lastHoleBefore_44 : decode cX2_lastHoleBefore 44 = .ok (.ireturn, 1) := by decide +kernel
set_option maxRecDepth 20000 in
theorem ggX2_gap_X5_at : GoodIn wsX2_gap wsX5_at := goodIn_r _ [5] (by decide +kernel) (by decide +kernel)
set_option maxRecDepth 20000 in
theorem gX2_gap_X5_at_n48 : GoodIn wsX2_gap (wsX5_at) := ggX2_gap_X5_at
theorem dX2_gap_0 : decode cX2_gap 0 = .ok (.iconst 0, 1) := by decide +kernel
theorem dX2_gap_1 : decode cX2_gap 1 = .ok (.istore_n 3, 1) := by decide +kernel
theorem dX2_gap_2 : decode cX2_gap 2 = .ok (.iconst 0, 1) := by decide +kernel
theorem dX2_gap_3 : decode cX2_gap 3 = .ok (.istore 4, 2) := by decide +kernel
theorem dX2_gap_5 : decode cX2_gap 5 = .ok (.iload 4, 2) := by decide +kernel
theorem dX2_gap_7 : decode cX2_gap 7 = .ok (.aload_n 0, 1) := by decide +kernel
theorem dX2_gap_8 : decode cX2_gap 8 = .ok (.getfield 31, 3) := by decide +kernel
theorem dX2_gap_11 : decode cX2_gap 11 = .ok (.if_icmp .ge 49, 3) := by decide +kernel
theorem dX2_gap_14 : decode cX2_gap 14 = .ok (.aload_n 0, 1) := by decide +kernel
theorem dX2_gap_15 : decode cX2_gap 15 = .ok (.getfield 18, 3) := by decide +kernel
theorem dX2_gap_18 : decode cX2_gap 18 = .ok (.iload 4, 2) := by decide +kernel
theorem dX2_gap_20 : decode cX2_gap 20 = .ok (.invokestatic 48, 3) := by decide +kernel
theorem dX2_gap_23 : decode cX2_gap 23 = .ok (.aload_n 0, 1) := by decide +kernel
theorem dX2_gap_24 : decode cX2_gap 24 = .ok (.getfield 18, 3) := by decide +kernel
theorem dX2_gap_27 : decode cX2_gap 27 = .ok (.iload_n 1, 1) := by decide +kernel
theorem dX2_gap_28 : decode cX2_gap 28 = .ok (.invokestatic 48, 3) := by decide +kernel
theorem dX2_gap_31 : decode cX2_gap 31 = .ok (.isub, 1) := by decide +kernel
theorem dX2_gap_32 : decode cX2_gap 32 = .ok (.iload_n 2, 1) := by decide +kernel
theorem dX2_gap_33 : decode cX2_gap 33 = .ok (.imul, 1) := by decide +kernel
theorem dX2_gap_34 : decode cX2_gap 34 = .ok (.istore 5, 2) := by decide +kernel
theorem dX2_gap_36 : decode cX2_gap 36 = .ok (.iload 5, 2) := by decide +kernel
theorem dX2_gap_38 : decode cX2_gap 38 = .ok (.ifCond .le 16, 3) := by decide +kernel
theorem dX2_gap_41 : decode cX2_gap 41 = .ok (.iload_n 3, 1) := by decide +kernel
theorem dX2_gap_42 : decode cX2_gap 42 = .ok (.ifCond .eq 9, 3) := by decide +kernel
theorem dX2_gap_45 : decode cX2_gap 45 = .ok (.iload 5, 2) := by decide +kernel
theorem dX2_gap_47 : decode cX2_gap 47 = .ok (.iload_n 3, 1) := by decide +kernel
theorem dX2_gap_48 : decode cX2_gap 48 = .ok (.if_icmp .ge 6, 3) := by decide +kernel
theorem dX2_gap_51 : decode cX2_gap 51 = .ok (.iload 5, 2) := by decide +kernel
theorem dX2_gap_53 : decode cX2_gap 53 = .ok (.istore_n 3, 1) := by decide +kernel
theorem dX2_gap_54 : decode cX2_gap 54 = .ok (.iinc 4 1, 3) := by decide +kernel
theorem dX2_gap_57 : decode cX2_gap 57 = .ok (.goto (-52), 3) := by decide +kernel
theorem dX2_gap_60 : decode cX2_gap 60 = .ok (.iload_n 3, 1) := by decide +kernel
theorem dX2_gap_61 : decode cX2_gap 61 = .ok (.ireturn, 1) := by decide +kernel
set_option maxRecDepth 20000 in
theorem ggX2_copy_X5_copyRow : GoodIn wsX2_copy wsX5_copyRow := goodIn_r _ [12, 13, 14, 11, 15, 16, 17, 18] (by decide +kernel) (by decide +kernel)
set_option maxRecDepth 20000 in
theorem gX2_copy_X5_copyRow_n62 : GoodIn wsX2_copy (wsX5_copyRow) := ggX2_copy_X5_copyRow
theorem dX2_copy_0 : decode cX2_copy 0 = .ok (.aload_n 1, 1) := by decide +kernel
theorem dX2_copy_1 : decode cX2_copy 1 = .ok (.getfield 9, 3) := by decide +kernel
theorem dX2_copy_4 : decode cX2_copy 4 = .ok (.aload_n 0, 1) := by decide +kernel
theorem dX2_copy_5 : decode cX2_copy 5 = .ok (.getfield 9, 3) := by decide +kernel
theorem dX2_copy_8 : decode cX2_copy 8 = .ok (.invokestatic 62, 3) := by decide +kernel
theorem dX2_copy_11 : decode cX2_copy 11 = .ok (.aload_n 1, 1) := by decide +kernel
theorem dX2_copy_12 : decode cX2_copy 12 = .ok (.getfield 15, 3) := by decide +kernel
theorem dX2_copy_15 : decode cX2_copy 15 = .ok (.aload_n 0, 1) := by decide +kernel
theorem dX2_copy_16 : decode cX2_copy 16 = .ok (.getfield 15, 3) := by decide +kernel
theorem dX2_copy_19 : decode cX2_copy 19 = .ok (.invokestatic 62, 3) := by decide +kernel
theorem dX2_copy_22 : decode cX2_copy 22 = .ok (.aload_n 1, 1) := by decide +kernel
theorem dX2_copy_23 : decode cX2_copy 23 = .ok (.getfield 18, 3) := by decide +kernel
theorem dX2_copy_26 : decode cX2_copy 26 = .ok (.aload_n 0, 1) := by decide +kernel
theorem dX2_copy_27 : decode cX2_copy 27 = .ok (.getfield 18, 3) := by decide +kernel
theorem dX2_copy_30 : decode cX2_copy 30 = .ok (.invokestatic 62, 3) := by decide +kernel
theorem dX2_copy_33 : decode cX2_copy 33 = .ok (.aload_n 1, 1) := by decide +kernel
theorem dX2_copy_34 : decode cX2_copy 34 = .ok (.getfield 21, 3) := by decide +kernel
theorem dX2_copy_37 : decode cX2_copy 37 = .ok (.aload_n 0, 1) := by decide +kernel
theorem dX2_copy_38 : decode cX2_copy 38 = .ok (.getfield 21, 3) := by decide +kernel
theorem dX2_copy_41 : decode cX2_copy 41 = .ok (.invokestatic 62, 3) := by decide +kernel
theorem dX2_copy_44 : decode cX2_copy 44 = .ok (.aload_n 1, 1) := by decide +kernel
theorem dX2_copy_45 : decode cX2_copy 45 = .ok (.getfield 24, 3) := by decide +kernel
theorem dX2_copy_48 : decode cX2_copy 48 = .ok (.aload_n 0, 1) := by decide +kernel
theorem dX2_copy_49 : decode cX2_copy 49 = .ok (.getfield 24, 3) := by decide +kernel
theorem dX2_copy_52 : decode cX2_copy 52 = .ok (.invokestatic 62, 3) := by decide +kernel
theorem dX2_copy_55 : decode cX2_copy 55 = .ok (.aload_n 0, 1) := by decide +kernel
theorem dX2_copy_56 : decode cX2_copy 56 = .ok (.aload_n 1, 1) := by decide +kernel
theorem dX2_copy_57 : decode cX2_copy 57 = .ok (.getfield 27, 3) := by decide +kernel
theorem dX2_copy_60 : decode cX2_copy 60 = .ok (.putfield 27, 3) := by decide +kernel
theorem dX2_copy_63 : decode cX2_copy 63 = .ok (.aload_n 0, 1) := by decide +kernel
theorem dX2_copy_64 : decode cX2_copy 64 = .ok (.aload_n 1, 1) := by decide +kernel
theorem dX2_copy_65 : decode cX2_copy 65 = .ok (.getfield 31, 3) := by decide +kernel
theorem dX2_copy_68 : decode cX2_copy 68 = .ok (.putfield 31, 3) := by decide +kernel
theorem dX2_copy_71 : decode cX2_copy 71 = .ok (.aload_n 0, 1) := by decide +kernel
theorem dX2_copy_72 : decode cX2_copy 72 = .ok (.aload_n 1, 1) := by decide +kernel
theorem dX2_copy_73 : decode cX2_copy 73 = .ok (.getfield 34, 3) := by decide +kernel
theorem dX2_copy_76 : decode cX2_copy 76 = .ok (.putfield 34, 3) := by decide +kernel
theorem dX2_copy_79 : decode cX2_copy 79 = .ok (.aload_n 0, 1) := by decide +kernel
theorem dX2_copy_80 : decode cX2_copy 80 = .ok (.aload_n 1, 1) := by decide +kernel
theorem dX2_copy_81 : decode cX2_copy 81 = .ok (.getfield 37, 3) := by decide +kernel
theorem dX2_copy_84 : decode cX2_copy 84 = .ok (.putfield 37, 3) := by decide +kernel
theorem dX2_copy_87 : decode cX2_copy 87 = .ok (.return_, 1) := by decide +kernel
set_option maxRecDepth 20000 in
theorem ggX2_differences_X5_rowDifferences : GoodIn wsX2_differences wsX5_rowDifferences := goodIn_r _ [12, 13, 14, 15, 16, 17, 18, 19, 20, 21, 11, 22] (by decide +kernel) (by decide +kernel)
set_option maxRecDepth 20000 in
theorem gX2_differences_X5_rowDifferences_n66 : GoodIn wsX2_differences (wsX5_rowDifferences) := ggX2_differences_X5_rowDifferences
theorem dX2_differences_0 : decode cX2_differences 0 = .ok (.aload_n 0, 1) := by decide +kernel
theorem dX2_differences_1 : decode cX2_differences 1 = .ok (.getfield 9, 3) := by decide +kernel
theorem dX2_differences_4 : decode cX2_differences 4 = .ok (.aload_n 0, 1) := by decide +kernel
theorem dX2_differences_5 : decode cX2_differences 5 = .ok (.getfield 27, 3) := by decide +kernel
theorem dX2_differences_8 : decode cX2_differences 8 = .ok (.aload_n 1, 1) := by decide +kernel
theorem dX2_differences_9 : decode cX2_differences 9 = .ok (.getfield 9, 3) := by decide +kernel
theorem dX2_differences_12 : decode cX2_differences 12 = .ok (.aload_n 1, 1) := by decide +kernel
theorem dX2_differences_13 : decode cX2_differences 13 = .ok (.getfield 27, 3) := by decide +kernel
theorem dX2_differences_16 : decode cX2_differences 16 = .ok (.invokestatic 66, 3) := by decide +kernel
theorem dX2_differences_19 : decode cX2_differences 19 = .ok (.aload_n 0, 1) := by decide +kernel
theorem dX2_differences_20 : decode cX2_differences 20 = .ok (.getfield 15, 3) := by decide +kernel
theorem dX2_differences_23 : decode cX2_differences 23 = .ok (.aload_n 0, 1) := by decide +kernel
theorem dX2_differences_24 : decode cX2_differences 24 = .ok (.getfield 27, 3) := by decide +kernel
theorem dX2_differences_27 : decode cX2_differences 27 = .ok (.aload_n 1, 1) := by decide +kernel
theorem dX2_differences_28 : decode cX2_differences 28 = .ok (.getfield 15, 3) := by decide +kernel
theorem dX2_differences_31 : decode cX2_differences 31 = .ok (.aload_n 1, 1) := by decide +kernel
theorem dX2_differences_32 : decode cX2_differences 32 = .ok (.getfield 27, 3) := by decide +kernel
theorem dX2_differences_35 : decode cX2_differences 35 = .ok (.invokestatic 66, 3) := by decide +kernel
theorem dX2_differences_38 : decode cX2_differences 38 = .ok (.iadd, 1) := by decide +kernel
theorem dX2_differences_39 : decode cX2_differences 39 = .ok (.aload_n 0, 1) := by decide +kernel
theorem dX2_differences_40 : decode cX2_differences 40 = .ok (.getfield 18, 3) := by decide +kernel
theorem dX2_differences_43 : decode cX2_differences 43 = .ok (.aload_n 0, 1) := by decide +kernel
theorem dX2_differences_44 : decode cX2_differences 44 = .ok (.getfield 31, 3) := by decide +kernel
theorem dX2_differences_47 : decode cX2_differences 47 = .ok (.aload_n 1, 1) := by decide +kernel
theorem dX2_differences_48 : decode cX2_differences 48 = .ok (.getfield 18, 3) := by decide +kernel
theorem dX2_differences_51 : decode cX2_differences 51 = .ok (.aload_n 1, 1) := by decide +kernel
theorem dX2_differences_52 : decode cX2_differences 52 = .ok (.getfield 31, 3) := by decide +kernel
theorem dX2_differences_55 : decode cX2_differences 55 = .ok (.invokestatic 66, 3) := by decide +kernel
theorem dX2_differences_58 : decode cX2_differences 58 = .ok (.iadd, 1) := by decide +kernel
theorem dX2_differences_59 : decode cX2_differences 59 = .ok (.aload_n 0, 1) := by decide +kernel
theorem dX2_differences_60 : decode cX2_differences 60 = .ok (.getfield 21, 3) := by decide +kernel
theorem dX2_differences_63 : decode cX2_differences 63 = .ok (.aload_n 0, 1) := by decide +kernel
theorem dX2_differences_64 : decode cX2_differences 64 = .ok (.getfield 31, 3) := by decide +kernel
theorem dX2_differences_67 : decode cX2_differences 67 = .ok (.aload_n 1, 1) := by decide +kernel
theorem dX2_differences_68 : decode cX2_differences 68 = .ok (.getfield 21, 3) := by decide +kernel
theorem dX2_differences_71 : decode cX2_differences 71 = .ok (.aload_n 1, 1) := by decide +kernel
theorem dX2_differences_72 : decode cX2_differences 72 = .ok (.getfield 31, 3) := by decide +kernel
theorem dX2_differences_75 : decode cX2_differences 75 = .ok (.invokestatic 66, 3) := by decide +kernel
theorem dX2_differences_78 : decode cX2_differences 78 = .ok (.iadd, 1) := by decide +kernel
theorem dX2_differences_79 : decode cX2_differences 79 = .ok (.aload_n 0, 1) := by decide +kernel
theorem dX2_differences_80 : decode cX2_differences 80 = .ok (.getfield 24, 3) := by decide +kernel
theorem dX2_differences_83 : decode cX2_differences 83 = .ok (.aload_n 0, 1) := by decide +kernel
theorem dX2_differences_84 : decode cX2_differences 84 = .ok (.getfield 31, 3) := by decide +kernel
theorem dX2_differences_87 : decode cX2_differences 87 = .ok (.aload_n 1, 1) := by decide +kernel
theorem dX2_differences_88 : decode cX2_differences 88 = .ok (.getfield 24, 3) := by decide +kernel
theorem dX2_differences_91 : decode cX2_differences 91 = .ok (.aload_n 1, 1) := by decide +kernel
theorem dX2_differences_92 : decode cX2_differences 92 = .ok (.getfield 31, 3) := by decide +kernel
theorem dX2_differences_95 : decode cX2_differences 95 = .ok (.invokestatic 66, 3) := by decide +kernel
theorem dX2_differences_98 : decode cX2_differences 98 = .ok (.iadd, 1) := by decide +kernel
theorem dX2_differences_99 : decode cX2_differences 99 = .ok (.aload_n 0, 1) := by decide +kernel
theorem dX2_differences_100 : decode cX2_differences 100 = .ok (.getfield 34, 3) := by decide +kernel
theorem dX2_differences_103 : decode cX2_differences 103 = .ok (.aload_n 1, 1) := by decide +kernel
theorem dX2_differences_104 : decode cX2_differences 104 = .ok (.getfield 34, 3) := by decide +kernel
theorem dX2_differences_107 : decode cX2_differences 107 = .ok (.if_icmp .ne 7, 3) := by decide +kernel
theorem dX2_differences_110 : decode cX2_differences 110 = .ok (.iconst 0, 1) := by decide +kernel
theorem dX2_differences_111 : decode cX2_differences 111 = .ok (.goto 4, 3) := by decide +kernel
theorem dX2_differences_114 : decode cX2_differences 114 = .ok (.iconst 1, 1) := by decide +kernel
theorem dX2_differences_115 : decode cX2_differences 115 = .ok (.iadd, 1) := by decide +kernel
theorem dX2_differences_116 : decode cX2_differences 116 = .ok (.aload_n 0, 1) := by decide +kernel
theorem dX2_differences_117 : decode cX2_differences 117 = .ok (.getfield 37, 3) := by decide +kernel
theorem dX2_differences_120 : decode cX2_differences 120 = .ok (.aload_n 1, 1) := by decide +kernel
theorem dX2_differences_121 : decode cX2_differences 121 = .ok (.getfield 37, 3) := by decide +kernel
theorem dX2_differences_124 : decode cX2_differences 124 = .ok (.if_icmp .ne 7, 3) := by decide +kernel
theorem dX2_differences_127 : decode cX2_differences 127 = .ok (.iconst 0, 1) := by decide +kernel
theorem dX2_differences_128 : decode cX2_differences 128 = .ok (.goto 4, 3) := by decide +kernel
theorem dX2_differences_131 : decode cX2_differences 131 = .ok (.iconst 1, 1) := by decide +kernel
theorem dX2_differences_132 : decode cX2_differences 132 = .ok (.iadd, 1) := by decide +kernel
theorem dX2_differences_133 : decode cX2_differences 133 = .ok (.ireturn, 1) := by decide +kernel
set_option maxRecDepth 20000 in
theorem ggX3_init_X2_init : GoodIn wsX3_init wsX2_init := goodIn_r _ [10, 11, 2, 3, 12, 13, 14, 15, 16, 17, 18, 19, 20, 21, 22, 23, 24, 25, 26, 27, 28, 29, 30] (by decide +kernel) (by decide +kernel)
set_option maxRecDepth 20000 in
theorem gX3_init_X2_init_n9 : GoodIn wsX3_init (wsX2_init) := ggX3_init_X2_init
theorem dX3_init_0 : decode cX3_init 0 = .ok (.aload_n 0, 1) := by decide +kernel
theorem dX3_init_1 : decode cX3_init 1 = .ok (.invokespecial 1, 3) := by decide +kernel
theorem dX3_init_4 : decode cX3_init 4 = .ok (.aload_n 0, 1) := by decide +kernel
theorem dX3_init_5 : decode cX3_init 5 = .ok (.new 7, 3) := by decide +kernel
theorem dX3_init_8 : decode cX3_init 8 = .ok (.dup, 1) := by decide +kernel
theorem dX3_init_9 : decode cX3_init 9 = .ok (.invokespecial 9, 3) := by decide +kernel
theorem dX3_init_12 : decode cX3_init 12 = .ok (.putfield 10, 3) := by decide +kernel
theorem dX3_init_15 : decode cX3_init 15 = .ok (.aload_n 0, 1) := by decide +kernel
theorem dX3_init_16 : decode cX3_init 16 = .ok (.iconst 0, 1) := by decide +kernel
theorem dX3_init_17 : decode cX3_init 17 = .ok (.putfield 16, 3) := by decide +kernel
theorem dX3_init_20 : decode cX3_init 20 = .ok (.return_, 1) := by decide +kernel
theorem dX4_init_0 : decode cX4_init 0 = .ok (.aload_n 0, 1) := by decide +kernel
theorem dX4_init_1 : decode cX4_init 1 = .ok (.invokespecial 3, 3) := by decide +kernel
theorem dX4_init_4 : decode cX4_init 4 = .ok (.aload_n 0, 1) := by decide +kernel
theorem dX4_init_5 : decode cX4_init 5 = .ok (.bipush 18, 2) := by decide +kernel
theorem dX4_init_7 : decode cX4_init 7 = .ok (.newarray .int, 2) := by decide +kernel
theorem dX4_init_9 : decode cX4_init 9 = .ok (.putfield 11, 3) := by decide +kernel
theorem dX4_init_12 : decode cX4_init 12 = .ok (.aload_n 0, 1) := by decide +kernel
theorem dX4_init_13 : decode cX4_init 13 = .ok (.bipush 18, 2) := by decide +kernel
theorem dX4_init_15 : decode cX4_init 15 = .ok (.newarray .int, 2) := by decide +kernel
theorem dX4_init_17 : decode cX4_init 17 = .ok (.putfield 15, 3) := by decide +kernel
theorem dX4_init_20 : decode cX4_init 20 = .ok (.aload_n 0, 1) := by decide +kernel
theorem dX4_init_21 : decode cX4_init 21 = .ok (.bipush 18, 2) := by decide +kernel
theorem dX4_init_23 : decode cX4_init 23 = .ok (.newarray .int, 2) := by decide +kernel
theorem dX4_init_25 : decode cX4_init 25 = .ok (.putfield 18, 3) := by decide +kernel
theorem dX4_init_28 : decode cX4_init 28 = .ok (.aload_n 0, 1) := by decide +kernel
theorem dX4_init_29 : decode cX4_init 29 = .ok (.bipush 18, 2) := by decide +kernel
theorem dX4_init_31 : decode cX4_init 31 = .ok (.newarray .int, 2) := by decide +kernel
theorem dX4_init_33 : decode cX4_init 33 = .ok (.putfield 21, 3) := by decide +kernel
theorem dX4_init_36 : decode cX4_init 36 = .ok (.aload_n 0, 1) := by decide +kernel
theorem dX4_init_37 : decode cX4_init 37 = .ok (.bipush 18, 2) := by decide +kernel
theorem dX4_init_39 : decode cX4_init 39 = .ok (.newarray .int, 2) := by decide +kernel
theorem dX4_init_41 : decode cX4_init 41 = .ok (.putfield 24, 3) := by decide +kernel
theorem dX4_init_44 : decode cX4_init 44 = .ok (.aload_n 0, 1) := by decide +kernel
theorem dX4_init_45 : decode cX4_init 45 = .ok (.iconst 0, 1) := by decide +kernel
theorem dX4_init_46 : decode cX4_init 46 = .ok (.putfield 27, 3) := by decide +kernel
theorem dX4_init_49 : decode cX4_init 49 = .ok (.aload_n 0, 1) := by decide +kernel
theorem dX4_init_50 : decode cX4_init 50 = .ok (.iconst 0, 1) := by decide +kernel
theorem dX4_init_51 : decode cX4_init 51 = .ok (.putfield 31, 3) := by decide +kernel
theorem dX4_init_54 : decode cX4_init 54 = .ok (.aload_n 0, 1) := by decide +kernel
theorem dX4_init_55 : decode cX4_init 55 = .ok (.iconst 0, 1) := by decide +kernel
theorem dX4_init_56 : decode cX4_init 56 = .ok (.putfield 35, 3) := by decide +kernel
theorem dX4_init_59 : decode cX4_init 59 = .ok (.return_, 1) := by decide +kernel
set_option maxRecDepth 20000 in
theorem ggX4_cutUp_X2_wholeLength : GoodIn wsX4_cutUp wsX2_wholeLength := goodIn_r _ [22, 23, 24, 25, 26, 21, 27, 28, 29, 30, 31, 58, 59, 60, 61, 62, 63, 64, 65, 66] (by decide +kernel) (by decide +kernel)
set_option maxRecDepth 20000 in
theorem gX4_cutUp_X2_wholeLength : GoodIn wsX4_cutUp (wsV RX4 46 RX2 yX2_wholeLength wsX2_wholeLength) := goodIn_app (goodIn_of _ (by decide +kernel)) ggX4_cutUp_X2_wholeLength
set_option maxRecDepth 20000 in
theorem ggX4_cutUp_X2_pieceAt : GoodIn wsX4_cutUp wsX2_pieceAt := goodIn_r _ [35, 23, 28, 29, 30, 31, 58, 59, 60, 61, 62, 63, 64, 65, 66] (by decide +kernel) (by decide +kernel)
set_option maxRecDepth 20000 in
theorem gX4_cutUp_X2_pieceAt : GoodIn wsX4_cutUp (wsV RX4 50 RX2 yX2_pieceAt wsX2_pieceAt) := goodIn_app (goodIn_of _ (by decide +kernel)) ggX4_cutUp_X2_pieceAt
set_option maxRecDepth 20000 in
theorem ggX4_cutUp_X2_startOf : GoodIn wsX4_cutUp wsX2_startOf := goodIn_r _ [27, 28, 29, 30, 31, 58, 59, 60, 61, 62, 63, 64, 65, 66] (by decide +kernel) (by decide +kernel)
set_option maxRecDepth 20000 in
theorem gX4_cutUp_X2_startOf : GoodIn wsX4_cutUp (wsV RX4 54 RX2 yX2_startOf wsX2_startOf) := goodIn_app (goodIn_of _ (by decide +kernel)) ggX4_cutUp_X2_startOf
set_option maxRecDepth 20000 in
theorem ggX4_cutUp_X2_lastHoleBefore : GoodIn wsX4_cutUp wsX2_lastHoleBefore := goodIn_r _ [40, 41, 42, 43, 7, 8, 9, 29, 30, 31, 58, 59, 60, 61, 62, 63, 64, 65, 66] (by decide +kernel) (by decide +kernel)
set_option maxRecDepth 20000 in
theorem gX4_cutUp_X2_lastHoleBefore : GoodIn wsX4_cutUp (wsV RX4 57 RX2 yX2_lastHoleBefore wsX2_lastHoleBefore) := goodIn_app (goodIn_of _ (by decide +kernel)) ggX4_cutUp_X2_lastHoleBefore
set_option maxRecDepth 20000 in
theorem ggX4_cutUp_X2_holeAt : GoodIn wsX4_cutUp wsX2_holeAt := goodIn_r _ [47, 41, 42, 29, 30, 31, 58, 59, 60, 61, 62, 63, 64, 65, 66] (by decide +kernel) (by decide +kernel)
set_option maxRecDepth 20000 in
theorem gX4_cutUp_X2_holeAt : GoodIn wsX4_cutUp (wsV RX4 66 RX2 yX2_holeAt wsX2_holeAt) := goodIn_app (goodIn_of _ (by decide +kernel)) ggX4_cutUp_X2_holeAt
set_option maxRecDepth 20000 in
theorem ggX4_cutUp_X5_put : GoodIn wsX4_cutUp wsX5_put := goodIn_r _ [49] (by decide +kernel) (by decide +kernel)
set_option maxRecDepth 20000 in
theorem gX4_cutUp_X5_put_n69 : GoodIn wsX4_cutUp (wsX5_put) := ggX4_cutUp_X5_put
set_option maxRecDepth 20000 in
theorem ggX4_cutUp_X5_at : GoodIn wsX4_cutUp wsX5_at := goodIn_r _ [31] (by decide +kernel) (by decide +kernel)
set_option maxRecDepth 20000 in
theorem gX4_cutUp_X5_at_n74 : GoodIn wsX4_cutUp (wsX5_at) := ggX4_cutUp_X5_at
theorem dX4_cutUp_0 : decode cX4_cutUp 0 = .ok (.aload_n 0, 1) := by decide +kernel
theorem dX4_cutUp_1 : decode cX4_cutUp 1 = .ok (.iconst 0, 1) := by decide +kernel
theorem dX4_cutUp_2 : decode cX4_cutUp 2 = .ok (.putfield 27, 3) := by decide +kernel
theorem dX4_cutUp_5 : decode cX4_cutUp 5 = .ok (.aload_n 0, 1) := by decide +kernel
theorem dX4_cutUp_6 : decode cX4_cutUp 6 = .ok (.aload_n 1, 1) := by decide +kernel
theorem dX4_cutUp_7 : decode cX4_cutUp 7 = .ok (.getfield 38, 3) := by decide +kernel
theorem dX4_cutUp_10 : decode cX4_cutUp 10 = .ok (.iconst 1, 1) := by decide +kernel
theorem dX4_cutUp_11 : decode cX4_cutUp 11 = .ok (.if_icmp .ne 7, 3) := by decide +kernel
theorem dX4_cutUp_14 : decode cX4_cutUp 14 = .ok (.iconst 1, 1) := by decide +kernel
theorem dX4_cutUp_15 : decode cX4_cutUp 15 = .ok (.goto 4, 3) := by decide +kernel
theorem dX4_cutUp_18 : decode cX4_cutUp 18 = .ok (.iconst 0, 1) := by decide +kernel
theorem dX4_cutUp_19 : decode cX4_cutUp 19 = .ok (.putfield 31, 3) := by decide +kernel
theorem dX4_cutUp_22 : decode cX4_cutUp 22 = .ok (.aload_n 0, 1) := by decide +kernel
theorem dX4_cutUp_23 : decode cX4_cutUp 23 = .ok (.aload_n 1, 1) := by decide +kernel
theorem dX4_cutUp_24 : decode cX4_cutUp 24 = .ok (.getfield 43, 3) := by decide +kernel
theorem dX4_cutUp_27 : decode cX4_cutUp 27 = .ok (.iconst 1, 1) := by decide +kernel
theorem dX4_cutUp_28 : decode cX4_cutUp 28 = .ok (.if_icmp .ne 7, 3) := by decide +kernel
theorem dX4_cutUp_31 : decode cX4_cutUp 31 = .ok (.iconst 1, 1) := by decide +kernel
theorem dX4_cutUp_32 : decode cX4_cutUp 32 = .ok (.goto 4, 3) := by decide +kernel
theorem dX4_cutUp_35 : decode cX4_cutUp 35 = .ok (.iconst 0, 1) := by decide +kernel
theorem dX4_cutUp_36 : decode cX4_cutUp 36 = .ok (.putfield 35, 3) := by decide +kernel
theorem dX4_cutUp_39 : decode cX4_cutUp 39 = .ok (.aload_n 1, 1) := by decide +kernel
theorem dX4_cutUp_40 : decode cX4_cutUp 40 = .ok (.invokevirtual 46, 3) := by decide +kernel
theorem dX4_cutUp_43 : decode cX4_cutUp 43 = .ok (.istore_n 2, 1) := by decide +kernel
theorem dX4_cutUp_44 : decode cX4_cutUp 44 = .ok (.iconst 0, 1) := by decide +kernel
theorem dX4_cutUp_45 : decode cX4_cutUp 45 = .ok (.istore_n 3, 1) := by decide +kernel
theorem dX4_cutUp_46 : decode cX4_cutUp 46 = .ok (.iload_n 3, 1) := by decide +kernel
theorem dX4_cutUp_47 : decode cX4_cutUp 47 = .ok (.bipush 18, 2) := by decide +kernel
theorem dX4_cutUp_49 : decode cX4_cutUp 49 = .ok (.if_icmp .ge 130, 3) := by decide +kernel
theorem dX4_cutUp_52 : decode cX4_cutUp 52 = .ok (.iload_n 2, 1) := by decide +kernel
theorem dX4_cutUp_53 : decode cX4_cutUp 53 = .ok (.ifCond .le 126, 3) := by decide +kernel
theorem dX4_cutUp_56 : decode cX4_cutUp 56 = .ok (.aload_n 1, 1) := by decide +kernel
theorem dX4_cutUp_57 : decode cX4_cutUp 57 = .ok (.iload_n 2, 1) := by decide +kernel
theorem dX4_cutUp_58 : decode cX4_cutUp 58 = .ok (.invokevirtual 50, 3) := by decide +kernel
theorem dX4_cutUp_61 : decode cX4_cutUp 61 = .ok (.istore 4, 2) := by decide +kernel
theorem dX4_cutUp_63 : decode cX4_cutUp 63 = .ok (.aload_n 1, 1) := by decide +kernel
theorem dX4_cutUp_64 : decode cX4_cutUp 64 = .ok (.iload 4, 2) := by decide +kernel
theorem dX4_cutUp_66 : decode cX4_cutUp 66 = .ok (.invokevirtual 54, 3) := by decide +kernel
theorem dX4_cutUp_69 : decode cX4_cutUp 69 = .ok (.aload_n 1, 1) := by decide +kernel
theorem dX4_cutUp_70 : decode cX4_cutUp 70 = .ok (.iload_n 2, 1) := by decide +kernel
theorem dX4_cutUp_71 : decode cX4_cutUp 71 = .ok (.invokevirtual 57, 3) := by decide +kernel
theorem dX4_cutUp_74 : decode cX4_cutUp 74 = .ok (.invokestatic 60, 3) := by decide +kernel
theorem dX4_cutUp_77 : decode cX4_cutUp 77 = .ok (.istore 5, 2) := by decide +kernel
theorem dX4_cutUp_79 : decode cX4_cutUp 79 = .ok (.aload_n 1, 1) := by decide +kernel
theorem dX4_cutUp_80 : decode cX4_cutUp 80 = .ok (.iload 5, 2) := by decide +kernel
theorem dX4_cutUp_82 : decode cX4_cutUp 82 = .ok (.invokevirtual 66, 3) := by decide +kernel
theorem dX4_cutUp_85 : decode cX4_cutUp 85 = .ok (.istore 6, 2) := by decide +kernel
theorem dX4_cutUp_87 : decode cX4_cutUp 87 = .ok (.aload_n 0, 1) := by decide +kernel
theorem dX4_cutUp_88 : decode cX4_cutUp 88 = .ok (.getfield 11, 3) := by decide +kernel
theorem dX4_cutUp_91 : decode cX4_cutUp 91 = .ok (.iload_n 3, 1) := by decide +kernel
theorem dX4_cutUp_92 : decode cX4_cutUp 92 = .ok (.iload_n 2, 1) := by decide +kernel
theorem dX4_cutUp_93 : decode cX4_cutUp 93 = .ok (.iload 5, 2) := by decide +kernel
theorem dX4_cutUp_95 : decode cX4_cutUp 95 = .ok (.isub, 1) := by decide +kernel
theorem dX4_cutUp_96 : decode cX4_cutUp 96 = .ok (.invokestatic 69, 3) := by decide +kernel
theorem dX4_cutUp_99 : decode cX4_cutUp 99 = .ok (.aload_n 0, 1) := by decide +kernel
theorem dX4_cutUp_100 : decode cX4_cutUp 100 = .ok (.getfield 15, 3) := by decide +kernel
theorem dX4_cutUp_103 : decode cX4_cutUp 103 = .ok (.iload_n 3, 1) := by decide +kernel
theorem dX4_cutUp_104 : decode cX4_cutUp 104 = .ok (.aload_n 1, 1) := by decide +kernel
theorem dX4_cutUp_105 : decode cX4_cutUp 105 = .ok (.getfield 73, 3) := by decide +kernel
theorem dX4_cutUp_108 : decode cX4_cutUp 108 = .ok (.iload 4, 2) := by decide +kernel
theorem dX4_cutUp_110 : decode cX4_cutUp 110 = .ok (.invokestatic 74, 3) := by decide +kernel
theorem dX4_cutUp_113 : decode cX4_cutUp 113 = .ok (.invokestatic 69, 3) := by decide +kernel
theorem dX4_cutUp_116 : decode cX4_cutUp 116 = .ok (.aload_n 0, 1) := by decide +kernel
theorem dX4_cutUp_117 : decode cX4_cutUp 117 = .ok (.getfield 18, 3) := by decide +kernel
theorem dX4_cutUp_120 : decode cX4_cutUp 120 = .ok (.iload_n 3, 1) := by decide +kernel
theorem dX4_cutUp_121 : decode cX4_cutUp 121 = .ok (.iload 6, 2) := by decide +kernel
theorem dX4_cutUp_123 : decode cX4_cutUp 123 = .ok (.invokestatic 69, 3) := by decide +kernel
theorem dX4_cutUp_126 : decode cX4_cutUp 126 = .ok (.aload_n 0, 1) := by decide +kernel
theorem dX4_cutUp_127 : decode cX4_cutUp 127 = .ok (.getfield 21, 3) := by decide +kernel
theorem dX4_cutUp_130 : decode cX4_cutUp 130 = .ok (.iload_n 3, 1) := by decide +kernel
theorem dX4_cutUp_131 : decode cX4_cutUp 131 = .ok (.aload_n 1, 1) := by decide +kernel
theorem dX4_cutUp_132 : decode cX4_cutUp 132 = .ok (.getfield 78, 3) := by decide +kernel
theorem dX4_cutUp_135 : decode cX4_cutUp 135 = .ok (.iload 6, 2) := by decide +kernel
theorem dX4_cutUp_137 : decode cX4_cutUp 137 = .ok (.invokestatic 74, 3) := by decide +kernel
theorem dX4_cutUp_140 : decode cX4_cutUp 140 = .ok (.invokestatic 69, 3) := by decide +kernel
theorem dX4_cutUp_143 : decode cX4_cutUp 143 = .ok (.aload_n 0, 1) := by decide +kernel
theorem dX4_cutUp_144 : decode cX4_cutUp 144 = .ok (.getfield 24, 3) := by decide +kernel
theorem dX4_cutUp_147 : decode cX4_cutUp 147 = .ok (.iload_n 3, 1) := by decide +kernel
theorem dX4_cutUp_148 : decode cX4_cutUp 148 = .ok (.aload_n 1, 1) := by decide +kernel
theorem dX4_cutUp_149 : decode cX4_cutUp 149 = .ok (.getfield 79, 3) := by decide +kernel
theorem dX4_cutUp_152 : decode cX4_cutUp 152 = .ok (.iload 6, 2) := by decide +kernel
theorem dX4_cutUp_154 : decode cX4_cutUp 154 = .ok (.invokestatic 74, 3) := by decide +kernel
theorem dX4_cutUp_157 : decode cX4_cutUp 157 = .ok (.invokestatic 69, 3) := by decide +kernel
theorem dX4_cutUp_160 : decode cX4_cutUp 160 = .ok (.aload_n 0, 1) := by decide +kernel
theorem dX4_cutUp_161 : decode cX4_cutUp 161 = .ok (.dup, 1) := by decide +kernel
theorem dX4_cutUp_162 : decode cX4_cutUp 162 = .ok (.getfield 27, 3) := by decide +kernel
theorem dX4_cutUp_165 : decode cX4_cutUp 165 = .ok (.iconst 1, 1) := by decide +kernel
theorem dX4_cutUp_166 : decode cX4_cutUp 166 = .ok (.iadd, 1) := by decide +kernel
theorem dX4_cutUp_167 : decode cX4_cutUp 167 = .ok (.putfield 27, 3) := by decide +kernel
theorem dX4_cutUp_170 : decode cX4_cutUp 170 = .ok (.iload 5, 2) := by decide +kernel
theorem dX4_cutUp_172 : decode cX4_cutUp 172 = .ok (.istore_n 2, 1) := by decide +kernel
theorem dX4_cutUp_173 : decode cX4_cutUp 173 = .ok (.iinc 3 1, 3) := by decide +kernel
theorem dX4_cutUp_176 : decode cX4_cutUp 176 = .ok (.goto (-130), 3) := by decide +kernel
theorem dX4_cutUp_179 : decode cX4_cutUp 179 = .ok (.return_, 1) := by decide +kernel
set_option maxRecDepth 20000 in
theorem ggX4_worthOf_X5_at : GoodIn wsX4_worthOf wsX5_at := goodIn_r _ [14] (by decide +kernel) (by decide +kernel)
set_option maxRecDepth 20000 in
theorem gX4_worthOf_X5_at_n74 : GoodIn wsX4_worthOf (wsX5_at) := ggX4_worthOf_X5_at
set_option maxRecDepth 20000 in
theorem ggX4_worthOf_X5_sineOf : GoodIn wsX4_worthOf wsX5_sineOf := goodIn_r _ [16, 17, 18, 19, 20, 21, 22, 13, 23] (by decide +kernel) (by decide +kernel)
set_option maxRecDepth 20000 in
theorem gX4_worthOf_X5_sineOf_n83 : GoodIn wsX4_worthOf (wsX5_sineOf) := ggX4_worthOf_X5_sineOf
set_option maxRecDepth 20000 in
theorem ggX4_worthOf_X5_quotient : GoodIn wsX4_worthOf wsX5_quotient := goodIn_r _ [23] (by decide +kernel) (by decide +kernel)
set_option maxRecDepth 20000 in
theorem gX4_worthOf_X5_quotient_n89 : GoodIn wsX4_worthOf (wsX5_quotient) := ggX4_worthOf_X5_quotient
set_option maxRecDepth 20000 in
theorem ggX4_worthOf_X4_shiftFor : GoodIn wsX4_worthOf wsX4_shiftFor := goodIn_r _ [27, 28, 29, 26, 30, 31, 32] (by decide +kernel) (by decide +kernel)
set_option maxRecDepth 20000 in
theorem gX4_worthOf_X4_shiftFor : GoodIn wsX4_worthOf (va_wsS RX4 93 yX4_shiftFor wsX4_shiftFor) := goodIn_app (goodIn_of _ (by decide +kernel)) ggX4_worthOf_X4_shiftFor
set_option maxRecDepth 20000 in
theorem ggX4_worthOf_X4_isOpen : GoodIn wsX4_worthOf wsX4_isOpen := goodIn_r _ [36, 37, 12, 13, 14, 38, 39, 40, 41, 42, 43, 44, 45] (by decide +kernel) (by decide +kernel)
set_option maxRecDepth 20000 in
theorem gX4_worthOf_X4_isOpen : GoodIn wsX4_worthOf (wsV RX4 97 RX4 yX4_isOpen wsX4_isOpen) := goodIn_app (goodIn_of _ (by decide +kernel)) ggX4_worthOf_X4_isOpen
theorem dX4_worthOf_0 : decode cX4_worthOf 0 = .ok (.aload_n 0, 1) := by decide +kernel
theorem dX4_worthOf_1 : decode cX4_worthOf 1 = .ok (.getfield 31, 3) := by decide +kernel
theorem dX4_worthOf_4 : decode cX4_worthOf 4 = .ok (.ifCond .eq 9, 3) := by decide +kernel
theorem dX4_worthOf_7 : decode cX4_worthOf 7 = .ok (.ldc2_w 80, 3) := by decide +kernel
theorem dX4_worthOf_10 : decode cX4_worthOf 10 = .ok (.goto 4, 3) := by decide +kernel
theorem dX4_worthOf_13 : decode cX4_worthOf 13 = .ok (.lconst 0, 1) := by decide +kernel
theorem dX4_worthOf_14 : decode cX4_worthOf 14 = .ok (.lstore_n 3, 1) := by decide +kernel
theorem dX4_worthOf_15 : decode cX4_worthOf 15 = .ok (.aload_n 0, 1) := by decide +kernel
theorem dX4_worthOf_16 : decode cX4_worthOf 16 = .ok (.getfield 31, 3) := by decide +kernel
theorem dX4_worthOf_19 : decode cX4_worthOf 19 = .ok (.ifCond .eq 7, 3) := by decide +kernel
theorem dX4_worthOf_22 : decode cX4_worthOf 22 = .ok (.lconst 0, 1) := by decide +kernel
theorem dX4_worthOf_23 : decode cX4_worthOf 23 = .ok (.goto 6, 3) := by decide +kernel
theorem dX4_worthOf_26 : decode cX4_worthOf 26 = .ok (.ldc2_w 80, 3) := by decide +kernel
theorem dX4_worthOf_29 : decode cX4_worthOf 29 = .ok (.lstore 5, 2) := by decide +kernel
theorem dX4_worthOf_31 : decode cX4_worthOf 31 = .ok (.iconst 0, 1) := by decide +kernel
theorem dX4_worthOf_32 : decode cX4_worthOf 32 = .ok (.istore 7, 2) := by decide +kernel
theorem dX4_worthOf_34 : decode cX4_worthOf 34 = .ok (.iload 7, 2) := by decide +kernel
theorem dX4_worthOf_36 : decode cX4_worthOf 36 = .ok (.aload_n 0, 1) := by decide +kernel
theorem dX4_worthOf_37 : decode cX4_worthOf 37 = .ok (.getfield 27, 3) := by decide +kernel
theorem dX4_worthOf_40 : decode cX4_worthOf 40 = .ok (.if_icmp .ge 202, 3) := by decide +kernel
theorem dX4_worthOf_43 : decode cX4_worthOf 43 = .ok (.iload_n 1, 1) := by decide +kernel
theorem dX4_worthOf_44 : decode cX4_worthOf 44 = .ok (.aload_n 0, 1) := by decide +kernel
theorem dX4_worthOf_45 : decode cX4_worthOf 45 = .ok (.getfield 11, 3) := by decide +kernel
theorem dX4_worthOf_48 : decode cX4_worthOf 48 = .ok (.iload 7, 2) := by decide +kernel
theorem dX4_worthOf_50 : decode cX4_worthOf 50 = .ok (.invokestatic 74, 3) := by decide +kernel
theorem dX4_worthOf_53 : decode cX4_worthOf 53 = .ok (.imul, 1) := by decide +kernel
theorem dX4_worthOf_54 : decode cX4_worthOf 54 = .ok (.bipush 16, 2) := by decide +kernel
theorem dX4_worthOf_56 : decode cX4_worthOf 56 = .ok (.imul, 1) := by decide +kernel
theorem dX4_worthOf_57 : decode cX4_worthOf 57 = .ok (.ldc 82, 2) := by decide +kernel
theorem dX4_worthOf_59 : decode cX4_worthOf 59 = .ok (.iand, 1) := by decide +kernel
theorem dX4_worthOf_60 : decode cX4_worthOf 60 = .ok (.istore 8, 2) := by decide +kernel
theorem dX4_worthOf_62 : decode cX4_worthOf 62 = .ok (.iload 8, 2) := by decide +kernel
theorem dX4_worthOf_64 : decode cX4_worthOf 64 = .ok (.invokestatic 83, 3) := by decide +kernel
theorem dX4_worthOf_67 : decode cX4_worthOf 67 = .ok (.lstore 9, 2) := by decide +kernel
theorem dX4_worthOf_69 : decode cX4_worthOf 69 = .ok (.iload 8, 2) := by decide +kernel
theorem dX4_worthOf_71 : decode cX4_worthOf 71 = .ok (.sipush 16384, 3) := by decide +kernel
theorem dX4_worthOf_74 : decode cX4_worthOf 74 = .ok (.iadd, 1) := by decide +kernel
theorem dX4_worthOf_75 : decode cX4_worthOf 75 = .ok (.ldc 82, 2) := by decide +kernel
theorem dX4_worthOf_77 : decode cX4_worthOf 77 = .ok (.iand, 1) := by decide +kernel
theorem dX4_worthOf_78 : decode cX4_worthOf 78 = .ok (.invokestatic 83, 3) := by decide +kernel
theorem dX4_worthOf_81 : decode cX4_worthOf 81 = .ok (.lstore 11, 2) := by decide +kernel
theorem dX4_worthOf_83 : decode cX4_worthOf 83 = .ok (.aload_n 0, 1) := by decide +kernel
theorem dX4_worthOf_84 : decode cX4_worthOf 84 = .ok (.getfield 15, 3) := by decide +kernel
theorem dX4_worthOf_87 : decode cX4_worthOf 87 = .ok (.iload 7, 2) := by decide +kernel
theorem dX4_worthOf_89 : decode cX4_worthOf 89 = .ok (.invokestatic 74, 3) := by decide +kernel
theorem dX4_worthOf_92 : decode cX4_worthOf 92 = .ok (.aload_n 0, 1) := by decide +kernel
theorem dX4_worthOf_93 : decode cX4_worthOf 93 = .ok (.getfield 15, 3) := by decide +kernel
theorem dX4_worthOf_96 : decode cX4_worthOf 96 = .ok (.iload 7, 2) := by decide +kernel
theorem dX4_worthOf_98 : decode cX4_worthOf 98 = .ok (.invokestatic 74, 3) := by decide +kernel
theorem dX4_worthOf_101 : decode cX4_worthOf 101 = .ok (.imul, 1) := by decide +kernel
theorem dX4_worthOf_102 : decode cX4_worthOf 102 = .ok (.i2l, 1) := by decide +kernel
theorem dX4_worthOf_103 : decode cX4_worthOf 103 = .ok (.lstore 13, 2) := by decide +kernel
theorem dX4_worthOf_105 : decode cX4_worthOf 105 = .ok (.lload_n 3, 1) := by decide +kernel
theorem dX4_worthOf_106 : decode cX4_worthOf 106 = .ok (.lload 11, 2) := by decide +kernel
theorem dX4_worthOf_108 : decode cX4_worthOf 108 = .ok (.lmul, 1) := by decide +kernel
theorem dX4_worthOf_109 : decode cX4_worthOf 109 = .ok (.bipush 15, 2) := by decide +kernel
theorem dX4_worthOf_111 : decode cX4_worthOf 111 = .ok (.lshr, 1) := by decide +kernel
theorem dX4_worthOf_112 : decode cX4_worthOf 112 = .ok (.lload 5, 2) := by decide +kernel
theorem dX4_worthOf_114 : decode cX4_worthOf 114 = .ok (.lload 9, 2) := by decide +kernel
theorem dX4_worthOf_116 : decode cX4_worthOf 116 = .ok (.lmul, 1) := by decide +kernel
theorem dX4_worthOf_117 : decode cX4_worthOf 117 = .ok (.bipush 15, 2) := by decide +kernel
theorem dX4_worthOf_119 : decode cX4_worthOf 119 = .ok (.lshr, 1) := by decide +kernel
theorem dX4_worthOf_120 : decode cX4_worthOf 120 = .ok (.ldc2_w 87, 3) := by decide +kernel
theorem dX4_worthOf_123 : decode cX4_worthOf 123 = .ok (.lmul, 1) := by decide +kernel
theorem dX4_worthOf_124 : decode cX4_worthOf 124 = .ok (.lload 13, 2) := by decide +kernel
theorem dX4_worthOf_126 : decode cX4_worthOf 126 = .ok (.invokestatic 89, 3) := by decide +kernel
theorem dX4_worthOf_129 : decode cX4_worthOf 129 = .ok (.ladd, 1) := by decide +kernel
theorem dX4_worthOf_130 : decode cX4_worthOf 130 = .ok (.lstore 15, 2) := by decide +kernel
theorem dX4_worthOf_132 : decode cX4_worthOf 132 = .ok (.lload 5, 2) := by decide +kernel
theorem dX4_worthOf_134 : decode cX4_worthOf 134 = .ok (.lload 11, 2) := by decide +kernel
theorem dX4_worthOf_136 : decode cX4_worthOf 136 = .ok (.lmul, 1) := by decide +kernel
theorem dX4_worthOf_137 : decode cX4_worthOf 137 = .ok (.bipush 15, 2) := by decide +kernel
theorem dX4_worthOf_139 : decode cX4_worthOf 139 = .ok (.lshr, 1) := by decide +kernel
theorem dX4_worthOf_140 : decode cX4_worthOf 140 = .ok (.lload_n 3, 1) := by decide +kernel
theorem dX4_worthOf_141 : decode cX4_worthOf 141 = .ok (.lload 9, 2) := by decide +kernel
theorem dX4_worthOf_143 : decode cX4_worthOf 143 = .ok (.lmul, 1) := by decide +kernel
theorem dX4_worthOf_144 : decode cX4_worthOf 144 = .ok (.bipush 15, 2) := by decide +kernel
theorem dX4_worthOf_146 : decode cX4_worthOf 146 = .ok (.lshr, 1) := by decide +kernel
theorem dX4_worthOf_147 : decode cX4_worthOf 147 = .ok (.lload 13, 2) := by decide +kernel
theorem dX4_worthOf_149 : decode cX4_worthOf 149 = .ok (.lmul, 1) := by decide +kernel
theorem dX4_worthOf_150 : decode cX4_worthOf 150 = .ok (.ldc2_w 87, 3) := by decide +kernel
theorem dX4_worthOf_153 : decode cX4_worthOf 153 = .ok (.ldiv, 1) := by decide +kernel
theorem dX4_worthOf_154 : decode cX4_worthOf 154 = .ok (.lsub, 1) := by decide +kernel
theorem dX4_worthOf_155 : decode cX4_worthOf 155 = .ok (.lstore 17, 2) := by decide +kernel
theorem dX4_worthOf_157 : decode cX4_worthOf 157 = .ok (.lload 15, 2) := by decide +kernel
theorem dX4_worthOf_159 : decode cX4_worthOf 159 = .ok (.lload 17, 2) := by decide +kernel
theorem dX4_worthOf_161 : decode cX4_worthOf 161 = .ok (.invokestatic 93, 3) := by decide +kernel
theorem dX4_worthOf_164 : decode cX4_worthOf 164 = .ok (.istore 19, 2) := by decide +kernel
theorem dX4_worthOf_166 : decode cX4_worthOf 166 = .ok (.lload 15, 2) := by decide +kernel
theorem dX4_worthOf_168 : decode cX4_worthOf 168 = .ok (.iload 19, 2) := by decide +kernel
theorem dX4_worthOf_170 : decode cX4_worthOf 170 = .ok (.lshr, 1) := by decide +kernel
theorem dX4_worthOf_171 : decode cX4_worthOf 171 = .ok (.lstore_n 3, 1) := by decide +kernel
theorem dX4_worthOf_172 : decode cX4_worthOf 172 = .ok (.lload 17, 2) := by decide +kernel
theorem dX4_worthOf_174 : decode cX4_worthOf 174 = .ok (.iload 19, 2) := by decide +kernel
theorem dX4_worthOf_176 : decode cX4_worthOf 176 = .ok (.lshr, 1) := by decide +kernel
theorem dX4_worthOf_177 : decode cX4_worthOf 177 = .ok (.lstore 5, 2) := by decide +kernel
theorem dX4_worthOf_179 : decode cX4_worthOf 179 = .ok (.aload_n 0, 1) := by decide +kernel
theorem dX4_worthOf_180 : decode cX4_worthOf 180 = .ok (.iload 7, 2) := by decide +kernel
theorem dX4_worthOf_182 : decode cX4_worthOf 182 = .ok (.iload_n 2, 1) := by decide +kernel
theorem dX4_worthOf_183 : decode cX4_worthOf 183 = .ok (.invokevirtual 97, 3) := by decide +kernel
theorem dX4_worthOf_186 : decode cX4_worthOf 186 = .ok (.ifCond .eq 50, 3) := by decide +kernel
theorem dX4_worthOf_189 : decode cX4_worthOf 189 = .ok (.aload_n 0, 1) := by decide +kernel
theorem dX4_worthOf_190 : decode cX4_worthOf 190 = .ok (.getfield 21, 3) := by decide +kernel
theorem dX4_worthOf_193 : decode cX4_worthOf 193 = .ok (.iload 7, 2) := by decide +kernel
theorem dX4_worthOf_195 : decode cX4_worthOf 195 = .ok (.invokestatic 74, 3) := by decide +kernel
theorem dX4_worthOf_198 : decode cX4_worthOf 198 = .ok (.i2l, 1) := by decide +kernel
theorem dX4_worthOf_199 : decode cX4_worthOf 199 = .ok (.lstore 20, 2) := by decide +kernel
theorem dX4_worthOf_201 : decode cX4_worthOf 201 = .ok (.lload 5, 2) := by decide +kernel
theorem dX4_worthOf_203 : decode cX4_worthOf 203 = .ok (.lload_n 3, 1) := by decide +kernel
theorem dX4_worthOf_204 : decode cX4_worthOf 204 = .ok (.lload 20, 2) := by decide +kernel
theorem dX4_worthOf_206 : decode cX4_worthOf 206 = .ok (.lload 20, 2) := by decide +kernel
theorem dX4_worthOf_208 : decode cX4_worthOf 208 = .ok (.lmul, 1) := by decide +kernel
theorem dX4_worthOf_209 : decode cX4_worthOf 209 = .ok (.lmul, 1) := by decide +kernel
theorem dX4_worthOf_210 : decode cX4_worthOf 210 = .ok (.ldc2_w 101, 3) := by decide +kernel
theorem dX4_worthOf_213 : decode cX4_worthOf 213 = .ok (.lload 20, 2) := by decide +kernel
theorem dX4_worthOf_215 : decode cX4_worthOf 215 = .ok (.aload_n 0, 1) := by decide +kernel
theorem dX4_worthOf_216 : decode cX4_worthOf 216 = .ok (.getfield 24, 3) := by decide +kernel
theorem dX4_worthOf_219 : decode cX4_worthOf 219 = .ok (.iload 7, 2) := by decide +kernel
theorem dX4_worthOf_221 : decode cX4_worthOf 221 = .ok (.invokestatic 74, 3) := by decide +kernel
theorem dX4_worthOf_224 : decode cX4_worthOf 224 = .ok (.i2l, 1) := by decide +kernel
theorem dX4_worthOf_225 : decode cX4_worthOf 225 = .ok (.ladd, 1) := by decide +kernel
theorem dX4_worthOf_226 : decode cX4_worthOf 226 = .ok (.lmul, 1) := by decide +kernel
theorem dX4_worthOf_227 : decode cX4_worthOf 227 = .ok (.iload_n 1, 1) := by decide +kernel
theorem dX4_worthOf_228 : decode cX4_worthOf 228 = .ok (.i2l, 1) := by decide +kernel
theorem dX4_worthOf_229 : decode cX4_worthOf 229 = .ok (.lmul, 1) := by decide +kernel
theorem dX4_worthOf_230 : decode cX4_worthOf 230 = .ok (.invokestatic 89, 3) := by decide +kernel
theorem dX4_worthOf_233 : decode cX4_worthOf 233 = .ok (.ladd, 1) := by decide +kernel
theorem dX4_worthOf_234 : decode cX4_worthOf 234 = .ok (.lstore 5, 2) := by decide +kernel
theorem dX4_worthOf_236 : decode cX4_worthOf 236 = .ok (.iinc 7 1, 3) := by decide +kernel
theorem dX4_worthOf_239 : decode cX4_worthOf 239 = .ok (.goto (-205), 3) := by decide +kernel
theorem dX4_worthOf_242 : decode cX4_worthOf 242 = .ok (.aload_n 0, 1) := by decide +kernel
theorem dX4_worthOf_243 : decode cX4_worthOf 243 = .ok (.getfield 35, 3) := by decide +kernel
theorem dX4_worthOf_246 : decode cX4_worthOf 246 = .ok (.ifCond .eq 8, 3) := by decide +kernel
theorem dX4_worthOf_249 : decode cX4_worthOf 249 = .ok (.lload 5, 2) := by decide +kernel
theorem dX4_worthOf_251 : decode cX4_worthOf 251 = .ok (.goto 4, 3) := by decide +kernel
theorem dX4_worthOf_254 : decode cX4_worthOf 254 = .ok (.lload_n 3, 1) := by decide +kernel
theorem dX4_worthOf_255 : decode cX4_worthOf 255 = .ok (.lreturn, 1) := by decide +kernel
set_option maxRecDepth 20000 in
theorem ggX4_isOpen_X5_at : GoodIn wsX4_isOpen wsX5_at := goodIn_r _ [4] (by decide +kernel) (by decide +kernel)
set_option maxRecDepth 20000 in
theorem gX4_isOpen_X5_at_n74 : GoodIn wsX4_isOpen (wsX5_at) := ggX4_isOpen_X5_at
theorem dX4_isOpen_0 : decode cX4_isOpen 0 = .ok (.aload_n 0, 1) := by decide +kernel
theorem dX4_isOpen_1 : decode cX4_isOpen 1 = .ok (.getfield 18, 3) := by decide +kernel
theorem dX4_isOpen_4 : decode cX4_isOpen 4 = .ok (.iload_n 1, 1) := by decide +kernel
theorem dX4_isOpen_5 : decode cX4_isOpen 5 = .ok (.invokestatic 74, 3) := by decide +kernel
theorem dX4_isOpen_8 : decode cX4_isOpen 8 = .ok (.istore_n 3, 1) := by decide +kernel
theorem dX4_isOpen_9 : decode cX4_isOpen 9 = .ok (.iload_n 3, 1) := by decide +kernel
theorem dX4_isOpen_10 : decode cX4_isOpen 10 = .ok (.iconst (-1), 1) := by decide +kernel
theorem dX4_isOpen_11 : decode cX4_isOpen 11 = .ok (.if_icmp .eq 16, 3) := by decide +kernel
theorem dX4_isOpen_14 : decode cX4_isOpen 14 = .ok (.iload_n 2, 1) := by decide +kernel
theorem dX4_isOpen_15 : decode cX4_isOpen 15 = .ok (.iload_n 3, 1) := by decide +kernel
theorem dX4_isOpen_16 : decode cX4_isOpen 16 = .ok (.ishr, 1) := by decide +kernel
theorem dX4_isOpen_17 : decode cX4_isOpen 17 = .ok (.iconst 1, 1) := by decide +kernel
theorem dX4_isOpen_18 : decode cX4_isOpen 18 = .ok (.iand, 1) := by decide +kernel
theorem dX4_isOpen_19 : decode cX4_isOpen 19 = .ok (.iconst 1, 1) := by decide +kernel
theorem dX4_isOpen_20 : decode cX4_isOpen 20 = .ok (.if_icmp .ne 7, 3) := by decide +kernel
theorem dX4_isOpen_23 : decode cX4_isOpen 23 = .ok (.iconst 1, 1) := by decide +kernel
theorem dX4_isOpen_24 : decode cX4_isOpen 24 = .ok (.goto 4, 3) := by decide +kernel
theorem dX4_isOpen_27 : decode cX4_isOpen 27 = .ok (.iconst 0, 1) := by decide +kernel
theorem dX4_isOpen_28 : decode cX4_isOpen 28 = .ok (.ireturn, 1) := by decide +kernel
set_option maxRecDepth 20000 in
theorem ggX4_shiftFor_X4_isTooBig : GoodIn wsX4_shiftFor wsX4_isTooBig := goodIn_r _ [4, 5, 6] (by decide +kernel) (by decide +kernel)
set_option maxRecDepth 20000 in
theorem gX4_shiftFor_X4_isTooBig : GoodIn wsX4_shiftFor (va_wsS RX4 103 yX4_isTooBig wsX4_isTooBig) := goodIn_app (goodIn_of _ (by decide +kernel)) ggX4_shiftFor_X4_isTooBig
theorem dX4_shiftFor_0 : decode cX4_shiftFor 0 = .ok (.iconst 0, 1) := by decide +kernel
theorem dX4_shiftFor_1 : decode cX4_shiftFor 1 = .ok (.istore 4, 2) := by decide +kernel
theorem dX4_shiftFor_3 : decode cX4_shiftFor 3 = .ok (.iload 4, 2) := by decide +kernel
theorem dX4_shiftFor_5 : decode cX4_shiftFor 5 = .ok (.bipush 56, 2) := by decide +kernel
theorem dX4_shiftFor_7 : decode cX4_shiftFor 7 = .ok (.if_icmp .ge 29, 3) := by decide +kernel
theorem dX4_shiftFor_10 : decode cX4_shiftFor 10 = .ok (.lload_n 0, 1) := by decide +kernel
theorem dX4_shiftFor_11 : decode cX4_shiftFor 11 = .ok (.iload 4, 2) := by decide +kernel
theorem dX4_shiftFor_13 : decode cX4_shiftFor 13 = .ok (.lshr, 1) := by decide +kernel
theorem dX4_shiftFor_14 : decode cX4_shiftFor 14 = .ok (.invokestatic 103, 3) := by decide +kernel
theorem dX4_shiftFor_17 : decode cX4_shiftFor 17 = .ok (.ifCond .ne 13, 3) := by decide +kernel
theorem dX4_shiftFor_20 : decode cX4_shiftFor 20 = .ok (.lload_n 2, 1) := by decide +kernel
theorem dX4_shiftFor_21 : decode cX4_shiftFor 21 = .ok (.iload 4, 2) := by decide +kernel
theorem dX4_shiftFor_23 : decode cX4_shiftFor 23 = .ok (.lshr, 1) := by decide +kernel
theorem dX4_shiftFor_24 : decode cX4_shiftFor 24 = .ok (.invokestatic 103, 3) := by decide +kernel
theorem dX4_shiftFor_27 : decode cX4_shiftFor 27 = .ok (.ifCond .eq 9, 3) := by decide +kernel
theorem dX4_shiftFor_30 : decode cX4_shiftFor 30 = .ok (.iinc 4 8, 3) := by decide +kernel
theorem dX4_shiftFor_33 : decode cX4_shiftFor 33 = .ok (.goto (-30), 3) := by decide +kernel
theorem dX4_shiftFor_36 : decode cX4_shiftFor 36 = .ok (.iload 4, 2) := by decide +kernel
theorem dX4_shiftFor_38 : decode cX4_shiftFor 38 = .ok (.ireturn, 1) := by decide +kernel
theorem dX4_isTooBig_0 : decode cX4_isTooBig 0 = .ok (.lload_n 0, 1) := by decide +kernel
theorem dX4_isTooBig_1 : decode cX4_isTooBig 1 = .ok (.ldc2_w 107, 3) := by decide +kernel
theorem dX4_isTooBig_4 : decode cX4_isTooBig 4 = .ok (.lcmp, 1) := by decide +kernel
theorem dX4_isTooBig_5 : decode cX4_isTooBig 5 = .ok (.ifCond .ge 11, 3) := by decide +kernel
theorem dX4_isTooBig_8 : decode cX4_isTooBig 8 = .ok (.lload_n 0, 1) := by decide +kernel
theorem dX4_isTooBig_9 : decode cX4_isTooBig 9 = .ok (.ldc2_w 109, 3) := by decide +kernel
theorem dX4_isTooBig_12 : decode cX4_isTooBig 12 = .ok (.lcmp, 1) := by decide +kernel
theorem dX4_isTooBig_13 : decode cX4_isTooBig 13 = .ok (.ifCond .gt 7, 3) := by decide +kernel
theorem dX4_isTooBig_16 : decode cX4_isTooBig 16 = .ok (.iconst 1, 1) := by decide +kernel
theorem dX4_isTooBig_17 : decode cX4_isTooBig 17 = .ok (.goto 4, 3) := by decide +kernel
theorem dX4_isTooBig_20 : decode cX4_isTooBig 20 = .ok (.iconst 0, 1) := by decide +kernel
theorem dX4_isTooBig_21 : decode cX4_isTooBig 21 = .ok (.ireturn, 1) := by decide +kernel
set_option maxRecDepth 20000 in
theorem ggX4_findTone_X4_worthOf : GoodIn wsX4_findTone wsX4_worthOf := goodIn_r _ [5, 6, 7, 8, 9, 10, 11, 12, 13, 14, 15, 16, 17, 18, 19, 20, 21, 22, 23, 24, 25, 26, 27, 28, 29, 30, 4, 31, 32, 33, 34, 35, 36, 37, 38, 39, 40, 41, 42, 43, 44, 45, 46, 47, 48, 49] (by decide +kernel) (by decide +kernel)
set_option maxRecDepth 20000 in
theorem gX4_findTone_X4_worthOf : GoodIn wsX4_findTone (wsV RX4 111 RX4 yX4_worthOf wsX4_worthOf) := goodIn_app (goodIn_of _ (by decide +kernel)) ggX4_findTone_X4_worthOf
theorem dX4_findTone_0 : decode cX4_findTone 0 = .ok (.iconst 0, 1) := by decide +kernel
theorem dX4_findTone_1 : decode cX4_findTone 1 = .ok (.istore_n 3, 1) := by decide +kernel
theorem dX4_findTone_2 : decode cX4_findTone 2 = .ok (.aload_n 0, 1) := by decide +kernel
theorem dX4_findTone_3 : decode cX4_findTone 3 = .ok (.iconst 1, 1) := by decide +kernel
theorem dX4_findTone_4 : decode cX4_findTone 4 = .ok (.iload_n 1, 1) := by decide +kernel
theorem dX4_findTone_5 : decode cX4_findTone 5 = .ok (.invokevirtual 111, 3) := by decide +kernel
theorem dX4_findTone_8 : decode cX4_findTone 8 = .ok (.lconst 0, 1) := by decide +kernel
theorem dX4_findTone_9 : decode cX4_findTone 9 = .ok (.lcmp, 1) := by decide +kernel
theorem dX4_findTone_10 : decode cX4_findTone 10 = .ok (.ifCond .le 7, 3) := by decide +kernel
theorem dX4_findTone_13 : decode cX4_findTone 13 = .ok (.iconst 1, 1) := by decide +kernel
theorem dX4_findTone_14 : decode cX4_findTone 14 = .ok (.goto 4, 3) := by decide +kernel
theorem dX4_findTone_17 : decode cX4_findTone 17 = .ok (.iconst 0, 1) := by decide +kernel
theorem dX4_findTone_18 : decode cX4_findTone 18 = .ok (.istore 4, 2) := by decide +kernel
theorem dX4_findTone_20 : decode cX4_findTone 20 = .ok (.iconst 1, 1) := by decide +kernel
theorem dX4_findTone_21 : decode cX4_findTone 21 = .ok (.istore 5, 2) := by decide +kernel
theorem dX4_findTone_23 : decode cX4_findTone 23 = .ok (.iload 5, 2) := by decide +kernel
theorem dX4_findTone_25 : decode cX4_findTone 25 = .ok (.sipush 300, 3) := by decide +kernel
theorem dX4_findTone_28 : decode cX4_findTone 28 = .ok (.if_icmp .ge 52, 3) := by decide +kernel
theorem dX4_findTone_31 : decode cX4_findTone 31 = .ok (.aload_n 0, 1) := by decide +kernel
theorem dX4_findTone_32 : decode cX4_findTone 32 = .ok (.iload 5, 2) := by decide +kernel
theorem dX4_findTone_34 : decode cX4_findTone 34 = .ok (.iconst 1, 1) := by decide +kernel
theorem dX4_findTone_35 : decode cX4_findTone 35 = .ok (.iadd, 1) := by decide +kernel
theorem dX4_findTone_36 : decode cX4_findTone 36 = .ok (.iload_n 1, 1) := by decide +kernel
theorem dX4_findTone_37 : decode cX4_findTone 37 = .ok (.invokevirtual 111, 3) := by decide +kernel
theorem dX4_findTone_40 : decode cX4_findTone 40 = .ok (.lconst 0, 1) := by decide +kernel
theorem dX4_findTone_41 : decode cX4_findTone 41 = .ok (.lcmp, 1) := by decide +kernel
theorem dX4_findTone_42 : decode cX4_findTone 42 = .ok (.ifCond .le 7, 3) := by decide +kernel
theorem dX4_findTone_45 : decode cX4_findTone 45 = .ok (.iconst 1, 1) := by decide +kernel
theorem dX4_findTone_46 : decode cX4_findTone 46 = .ok (.goto 4, 3) := by decide +kernel
theorem dX4_findTone_49 : decode cX4_findTone 49 = .ok (.iconst 0, 1) := by decide +kernel
theorem dX4_findTone_50 : decode cX4_findTone 50 = .ok (.istore 6, 2) := by decide +kernel
theorem dX4_findTone_52 : decode cX4_findTone 52 = .ok (.iload 4, 2) := by decide +kernel
theorem dX4_findTone_54 : decode cX4_findTone 54 = .ok (.iload 6, 2) := by decide +kernel
theorem dX4_findTone_56 : decode cX4_findTone 56 = .ok (.if_icmp .eq 14, 3) := by decide +kernel
theorem dX4_findTone_59 : decode cX4_findTone 59 = .ok (.iload_n 3, 1) := by decide +kernel
theorem dX4_findTone_60 : decode cX4_findTone 60 = .ok (.iload_n 2, 1) := by decide +kernel
theorem dX4_findTone_61 : decode cX4_findTone 61 = .ok (.if_icmp .ne 6, 3) := by decide +kernel
theorem dX4_findTone_64 : decode cX4_findTone 64 = .ok (.iload 5, 2) := by decide +kernel
theorem dX4_findTone_66 : decode cX4_findTone 66 = .ok (.ireturn, 1) := by decide +kernel
theorem dX4_findTone_67 : decode cX4_findTone 67 = .ok (.iinc 3 1, 3) := by decide +kernel
theorem dX4_findTone_70 : decode cX4_findTone 70 = .ok (.iload 6, 2) := by decide +kernel
theorem dX4_findTone_72 : decode cX4_findTone 72 = .ok (.istore 4, 2) := by decide +kernel
theorem dX4_findTone_74 : decode cX4_findTone 74 = .ok (.iinc 5 1, 3) := by decide +kernel
theorem dX4_findTone_77 : decode cX4_findTone 77 = .ok (.goto (-54), 3) := by decide +kernel
theorem dX4_findTone_80 : decode cX4_findTone 80 = .ok (.iload_n 2, 1) := by decide +kernel
theorem dX4_findTone_81 : decode cX4_findTone 81 = .ok (.iconst (-1), 1) := by decide +kernel
theorem dX4_findTone_82 : decode cX4_findTone 82 = .ok (.if_icmp .ne 7, 3) := by decide +kernel
theorem dX4_findTone_85 : decode cX4_findTone 85 = .ok (.iload_n 3, 1) := by decide +kernel
theorem dX4_findTone_86 : decode cX4_findTone 86 = .ok (.goto 4, 3) := by decide +kernel
theorem dX4_findTone_89 : decode cX4_findTone 89 = .ok (.iconst (-1), 1) := by decide +kernel
theorem dX4_findTone_90 : decode cX4_findTone 90 = .ok (.ireturn, 1) := by decide +kernel
set_option maxRecDepth 20000 in
theorem ggX5_init_X2_init : GoodIn wsX5_init wsX2_init := goodIn_r _ [30, 31, 2, 3, 32, 33, 34, 35, 36, 37, 38, 39, 40, 41, 73, 74, 75, 76, 77, 78, 79, 80, 81] (by decide +kernel) (by decide +kernel)
set_option maxRecDepth 20000 in
theorem gX5_init_X2_init_n11 : GoodIn wsX5_init (wsX2_init) := ggX5_init_X2_init
set_option maxRecDepth 20000 in
theorem ggX5_init_X3_init : GoodIn wsX5_init wsX3_init := goodIn_r _ [43, 44, 2, 3, 45, 5, 6, 46, 47, 29, 30, 31, 32, 33, 34, 35, 36, 37, 38, 39, 40, 41, 73, 74, 75, 76, 77, 78, 79, 80, 81, 91, 92] (by decide +kernel) (by decide +kernel)
set_option maxRecDepth 20000 in
theorem gX5_init_X3_init_n18 : GoodIn wsX5_init (wsX3_init) := ggX5_init_X3_init
set_option maxRecDepth 20000 in
theorem ggX5_init_X4_init : GoodIn wsX5_init wsX4_init := goodIn_r _ [49, 50, 2, 3, 32, 51, 52, 53, 54, 55, 56, 57, 58, 93, 94, 95, 96, 97, 98, 99, 100] (by decide +kernel) (by decide +kernel)
set_option maxRecDepth 20000 in
theorem gX5_init_X4_init_n28 : GoodIn wsX5_init (wsX4_init) := ggX5_init_X4_init
set_option maxRecDepth 20000 in
theorem ggX5_init_X1_init : GoodIn wsX5_init wsX1_init := goodIn_r _ [60, 61, 2, 3, 32, 62, 63, 64, 65, 101, 102, 103, 104] (by decide +kernel) (by decide +kernel)
set_option maxRecDepth 20000 in
theorem gX5_init_X1_init_n35 : GoodIn wsX5_init (wsX1_init) := ggX5_init_X1_init
set_option maxRecDepth 20000 in
theorem ggX5_init_X0_init : GoodIn wsX5_init wsX0_init := goodIn_r _ [67, 68, 2, 3, 69, 70, 71, 72, 105, 106, 107, 108] (by decide +kernel) (by decide +kernel)
set_option maxRecDepth 20000 in
theorem gX5_init_X0_init_n42 : GoodIn wsX5_init (wsX0_init) := ggX5_init_X0_init
end
section
theorem dX5_init_0 : decode cX5_init 0 = .ok (.aload_n 0, 1) := by decide +kernel
theorem dX5_init_1 : decode cX5_init 1 = .ok (.invokespecial 3, 3) := by decide +kernel
theorem dX5_init_4 : decode cX5_init 4 = .ok (.aload_n 0, 1) := by decide +kernel
theorem dX5_init_5 : decode cX5_init 5 = .ok (.new 9, 3) := by decide +kernel
theorem dX5_init_8 : decode cX5_init 8 = .ok (.dup, 1) := by decide +kernel
theorem dX5_init_9 : decode cX5_init 9 = .ok (.invokespecial 11, 3) := by decide +kernel
theorem dX5_init_12 : decode cX5_init 12 = .ok (.putfield 12, 3) := by decide +kernel
theorem dX5_init_15 : decode cX5_init 15 = .ok (.aload_n 0, 1) := by decide +kernel
theorem dX5_init_16 : decode cX5_init 16 = .ok (.new 16, 3) := by decide +kernel
theorem dX5_init_19 : decode cX5_init 19 = .ok (.dup, 1) := by decide +kernel
theorem dX5_init_20 : decode cX5_init 20 = .ok (.invokespecial 18, 3) := by decide +kernel
theorem dX5_init_23 : decode cX5_init 23 = .ok (.putfield 19, 3) := by decide +kernel
theorem dX5_init_26 : decode cX5_init 26 = .ok (.aload_n 0, 1) := by decide +kernel
theorem dX5_init_27 : decode cX5_init 27 = .ok (.new 16, 3) := by decide +kernel
theorem dX5_init_30 : decode cX5_init 30 = .ok (.dup, 1) := by decide +kernel
theorem dX5_init_31 : decode cX5_init 31 = .ok (.invokespecial 18, 3) := by decide +kernel
theorem dX5_init_34 : decode cX5_init 34 = .ok (.putfield 23, 3) := by decide +kernel
theorem dX5_init_37 : decode cX5_init 37 = .ok (.aload_n 0, 1) := by decide +kernel
theorem dX5_init_38 : decode cX5_init 38 = .ok (.new 26, 3) := by decide +kernel
theorem dX5_init_41 : decode cX5_init 41 = .ok (.dup, 1) := by decide +kernel
theorem dX5_init_42 : decode cX5_init 42 = .ok (.invokespecial 28, 3) := by decide +kernel
theorem dX5_init_45 : decode cX5_init 45 = .ok (.putfield 29, 3) := by decide +kernel
theorem dX5_init_48 : decode cX5_init 48 = .ok (.aload_n 0, 1) := by decide +kernel
theorem dX5_init_49 : decode cX5_init 49 = .ok (.new 33, 3) := by decide +kernel
theorem dX5_init_52 : decode cX5_init 52 = .ok (.dup, 1) := by decide +kernel
theorem dX5_init_53 : decode cX5_init 53 = .ok (.invokespecial 35, 3) := by decide +kernel
theorem dX5_init_56 : decode cX5_init 56 = .ok (.putfield 36, 3) := by decide +kernel
theorem dX5_init_59 : decode cX5_init 59 = .ok (.aload_n 0, 1) := by decide +kernel
theorem dX5_init_60 : decode cX5_init 60 = .ok (.new 40, 3) := by decide +kernel
theorem dX5_init_63 : decode cX5_init 63 = .ok (.dup, 1) := by decide +kernel
theorem dX5_init_64 : decode cX5_init 64 = .ok (.invokespecial 42, 3) := by decide +kernel
theorem dX5_init_67 : decode cX5_init 67 = .ok (.putfield 43, 3) := by decide +kernel
theorem dX5_init_70 : decode cX5_init 70 = .ok (.aload_n 0, 1) := by decide +kernel
theorem dX5_init_71 : decode cX5_init 71 = .ok (.ldc2_w 47, 3) := by decide +kernel
theorem dX5_init_74 : decode cX5_init 74 = .ok (.putfield 49, 3) := by decide +kernel
theorem dX5_init_77 : decode cX5_init 77 = .ok (.aload_n 0, 1) := by decide +kernel
theorem dX5_init_78 : decode cX5_init 78 = .ok (.iconst 2, 1) := by decide +kernel
theorem dX5_init_79 : decode cX5_init 79 = .ok (.putfield 53, 3) := by decide +kernel
theorem dX5_init_82 : decode cX5_init 82 = .ok (.aload_n 0, 1) := by decide +kernel
theorem dX5_init_83 : decode cX5_init 83 = .ok (.iconst 0, 1) := by decide +kernel
theorem dX5_init_84 : decode cX5_init 84 = .ok (.putfield 57, 3) := by decide +kernel
theorem dX5_init_87 : decode cX5_init 87 = .ok (.return_, 1) := by decide +kernel
set_option maxRecDepth 20000 in
theorem ggX5_piece_X5_isPiece : GoodIn wsX5_piece wsX5_isPiece := goodIn_r _ [6, 7, 8, 5, 9] (by decide +kernel) (by decide +kernel)
set_option maxRecDepth 20000 in
theorem gX5_piece_X5_isPiece : GoodIn wsX5_piece (va_wsS RX5 60 yX5_isPiece wsX5_isPiece) := goodIn_app (goodIn_of _ (by decide +kernel)) ggX5_piece_X5_isPiece
set_option maxRecDepth 20000 in
theorem ggX5_piece_X2_addPiece : GoodIn wsX5_piece wsX2_addPiece := goodIn_r _ [14, 15, 16, 17, 18, 5, 19, 39, 40, 41, 42, 43, 44, 45, 46, 47] (by decide +kernel) (by decide +kernel)
set_option maxRecDepth 20000 in
theorem gX5_piece_X2_addPiece : GoodIn wsX5_piece (wsV RX5 67 RX2 yX2_addPiece wsX2_addPiece) := goodIn_app (goodIn_of _ (by decide +kernel)) ggX5_piece_X2_addPiece
set_option maxRecDepth 20000 in
theorem ggX5_piece_X2_wholeLength : GoodIn wsX5_piece wsX2_wholeLength := goodIn_r _ [23, 16, 24, 25, 26, 13, 27, 15, 28, 5, 29, 39, 40, 41, 42, 43, 44, 45, 46, 47] (by decide +kernel) (by decide +kernel)
set_option maxRecDepth 20000 in
theorem gX5_piece_X2_wholeLength : GoodIn wsX5_piece (wsV RX5 71 RX2 yX2_wholeLength wsX2_wholeLength) := goodIn_app (goodIn_of _ (by decide +kernel)) ggX5_piece_X2_wholeLength
theorem dX5_piece_0 : decode cX5_piece 0 = .ok (.iload_n 1, 1) := by decide +kernel
theorem dX5_piece_1 : decode cX5_piece 1 = .ok (.iload_n 2, 1) := by decide +kernel
theorem dX5_piece_2 : decode cX5_piece 2 = .ok (.invokestatic 60, 3) := by decide +kernel
theorem dX5_piece_5 : decode cX5_piece 5 = .ok (.ifCond .ne 7, 3) := by decide +kernel
theorem dX5_piece_8 : decode cX5_piece 8 = .ok (.sipush (-1002), 3) := by decide +kernel
theorem dX5_piece_11 : decode cX5_piece 11 = .ok (.ireturn, 1) := by decide +kernel
theorem dX5_piece_12 : decode cX5_piece 12 = .ok (.aload_n 0, 1) := by decide +kernel
theorem dX5_piece_13 : decode cX5_piece 13 = .ok (.getfield 12, 3) := by decide +kernel
theorem dX5_piece_16 : decode cX5_piece 16 = .ok (.getfield 64, 3) := by decide +kernel
theorem dX5_piece_19 : decode cX5_piece 19 = .ok (.bipush 12, 2) := by decide +kernel
theorem dX5_piece_21 : decode cX5_piece 21 = .ok (.if_icmp .lt 7, 3) := by decide +kernel
theorem dX5_piece_24 : decode cX5_piece 24 = .ok (.sipush (-1004), 3) := by decide +kernel
theorem dX5_piece_27 : decode cX5_piece 27 = .ok (.ireturn, 1) := by decide +kernel
theorem dX5_piece_28 : decode cX5_piece 28 = .ok (.aload_n 0, 1) := by decide +kernel
theorem dX5_piece_29 : decode cX5_piece 29 = .ok (.getfield 12, 3) := by decide +kernel
theorem dX5_piece_32 : decode cX5_piece 32 = .ok (.iload_n 1, 1) := by decide +kernel
theorem dX5_piece_33 : decode cX5_piece 33 = .ok (.iload_n 2, 1) := by decide +kernel
theorem dX5_piece_34 : decode cX5_piece 34 = .ok (.invokevirtual 67, 3) := by decide +kernel
theorem dX5_piece_37 : decode cX5_piece 37 = .ok (.aload_n 0, 1) := by decide +kernel
theorem dX5_piece_38 : decode cX5_piece 38 = .ok (.getfield 12, 3) := by decide +kernel
theorem dX5_piece_41 : decode cX5_piece 41 = .ok (.invokevirtual 71, 3) := by decide +kernel
theorem dX5_piece_44 : decode cX5_piece 44 = .ok (.ireturn, 1) := by decide +kernel
set_option maxRecDepth 20000 in
theorem ggX5_cone_X5_isPiece : GoodIn wsX5_cone wsX5_isPiece := goodIn_r _ [6, 7, 8, 5, 9] (by decide +kernel) (by decide +kernel)
set_option maxRecDepth 20000 in
theorem gX5_cone_X5_isPiece : GoodIn wsX5_cone (va_wsS RX5 60 yX5_isPiece wsX5_isPiece) := goodIn_app (goodIn_of _ (by decide +kernel)) ggX5_cone_X5_isPiece
set_option maxRecDepth 20000 in
theorem ggX5_cone_X5_within : GoodIn wsX5_cone wsX5_within := goodIn_r _ [9] (by decide +kernel) (by decide +kernel)
set_option maxRecDepth 20000 in
theorem gX5_cone_X5_within : GoodIn wsX5_cone (va_wsS RX5 75 yX5_within wsX5_within) := goodIn_app (goodIn_of _ (by decide +kernel)) ggX5_cone_X5_within
set_option maxRecDepth 20000 in
theorem ggX5_cone_X5_quotient : GoodIn wsX5_cone wsX5_quotient := goodIn_r _ [12] (by decide +kernel) (by decide +kernel)
set_option maxRecDepth 20000 in
theorem gX5_cone_X5_quotient : GoodIn wsX5_cone (va_wsS RX5 79 yX5_quotient wsX5_quotient) := goodIn_app (goodIn_of _ (by decide +kernel)) ggX5_cone_X5_quotient
set_option maxRecDepth 20000 in
theorem ggX5_cone_X2_addPiece : GoodIn wsX5_cone wsX2_addPiece := goodIn_r _ [17, 18, 19, 20, 21, 5, 22, 42, 43, 44, 45, 46, 47, 48, 49, 50] (by decide +kernel) (by decide +kernel)
set_option maxRecDepth 20000 in
theorem gX5_cone_X2_addPiece : GoodIn wsX5_cone (wsV RX5 67 RX2 yX2_addPiece wsX2_addPiece) := goodIn_app (goodIn_of _ (by decide +kernel)) ggX5_cone_X2_addPiece
set_option maxRecDepth 20000 in
theorem ggX5_cone_X2_wholeLength : GoodIn wsX5_cone wsX2_wholeLength := goodIn_r _ [26, 19, 27, 28, 29, 16, 30, 18, 31, 5, 32, 42, 43, 44, 45, 46, 47, 48, 49, 50] (by decide +kernel) (by decide +kernel)
set_option maxRecDepth 20000 in
theorem gX5_cone_X2_wholeLength : GoodIn wsX5_cone (wsV RX5 71 RX2 yX2_wholeLength wsX2_wholeLength) := goodIn_app (goodIn_of _ (by decide +kernel)) ggX5_cone_X2_wholeLength
theorem dX5_cone_0 : decode cX5_cone 0 = .ok (.iload_n 1, 1) := by decide +kernel
theorem dX5_cone_1 : decode cX5_cone 1 = .ok (.iload_n 2, 1) := by decide +kernel
theorem dX5_cone_2 : decode cX5_cone 2 = .ok (.invokestatic 60, 3) := by decide +kernel
theorem dX5_cone_5 : decode cX5_cone 5 = .ok (.ifCond .eq 22, 3) := by decide +kernel
theorem dX5_cone_8 : decode cX5_cone 8 = .ok (.iload_n 1, 1) := by decide +kernel
theorem dX5_cone_9 : decode cX5_cone 9 = .ok (.iload_n 3, 1) := by decide +kernel
theorem dX5_cone_10 : decode cX5_cone 10 = .ok (.invokestatic 60, 3) := by decide +kernel
theorem dX5_cone_13 : decode cX5_cone 13 = .ok (.ifCond .eq 14, 3) := by decide +kernel
theorem dX5_cone_16 : decode cX5_cone 16 = .ok (.iload 4, 2) := by decide +kernel
theorem dX5_cone_18 : decode cX5_cone 18 = .ok (.iconst 2, 1) := by decide +kernel
theorem dX5_cone_19 : decode cX5_cone 19 = .ok (.bipush 12, 2) := by decide +kernel
theorem dX5_cone_21 : decode cX5_cone 21 = .ok (.invokestatic 75, 3) := by decide +kernel
theorem dX5_cone_24 : decode cX5_cone 24 = .ok (.ifCond .ne 7, 3) := by decide +kernel
theorem dX5_cone_27 : decode cX5_cone 27 = .ok (.sipush (-1002), 3) := by decide +kernel
theorem dX5_cone_30 : decode cX5_cone 30 = .ok (.ireturn, 1) := by decide +kernel
theorem dX5_cone_31 : decode cX5_cone 31 = .ok (.aload_n 0, 1) := by decide +kernel
theorem dX5_cone_32 : decode cX5_cone 32 = .ok (.getfield 12, 3) := by decide +kernel
theorem dX5_cone_35 : decode cX5_cone 35 = .ok (.getfield 64, 3) := by decide +kernel
theorem dX5_cone_38 : decode cX5_cone 38 = .ok (.iload 4, 2) := by decide +kernel
theorem dX5_cone_40 : decode cX5_cone 40 = .ok (.iadd, 1) := by decide +kernel
theorem dX5_cone_41 : decode cX5_cone 41 = .ok (.bipush 12, 2) := by decide +kernel
theorem dX5_cone_43 : decode cX5_cone 43 = .ok (.if_icmp .le 7, 3) := by decide +kernel
theorem dX5_cone_46 : decode cX5_cone 46 = .ok (.sipush (-1004), 3) := by decide +kernel
theorem dX5_cone_49 : decode cX5_cone 49 = .ok (.ireturn, 1) := by decide +kernel
theorem dX5_cone_50 : decode cX5_cone 50 = .ok (.iconst 0, 1) := by decide +kernel
theorem dX5_cone_51 : decode cX5_cone 51 = .ok (.istore 5, 2) := by decide +kernel
theorem dX5_cone_53 : decode cX5_cone 53 = .ok (.iload 5, 2) := by decide +kernel
theorem dX5_cone_55 : decode cX5_cone 55 = .ok (.iload 4, 2) := by decide +kernel
theorem dX5_cone_57 : decode cX5_cone 57 = .ok (.if_icmp .ge 35, 3) := by decide +kernel
theorem dX5_cone_60 : decode cX5_cone 60 = .ok (.aload_n 0, 1) := by decide +kernel
theorem dX5_cone_61 : decode cX5_cone 61 = .ok (.getfield 12, 3) := by decide +kernel
theorem dX5_cone_64 : decode cX5_cone 64 = .ok (.iload_n 1, 1) := by decide +kernel
theorem dX5_cone_65 : decode cX5_cone 65 = .ok (.iload_n 2, 1) := by decide +kernel
theorem dX5_cone_66 : decode cX5_cone 66 = .ok (.iload_n 3, 1) := by decide +kernel
theorem dX5_cone_67 : decode cX5_cone 67 = .ok (.iload_n 2, 1) := by decide +kernel
theorem dX5_cone_68 : decode cX5_cone 68 = .ok (.isub, 1) := by decide +kernel
theorem dX5_cone_69 : decode cX5_cone 69 = .ok (.iload 5, 2) := by decide +kernel
theorem dX5_cone_71 : decode cX5_cone 71 = .ok (.imul, 1) := by decide +kernel
theorem dX5_cone_72 : decode cX5_cone 72 = .ok (.i2l, 1) := by decide +kernel
theorem dX5_cone_73 : decode cX5_cone 73 = .ok (.iload 4, 2) := by decide +kernel
theorem dX5_cone_75 : decode cX5_cone 75 = .ok (.iconst 1, 1) := by decide +kernel
theorem dX5_cone_76 : decode cX5_cone 76 = .ok (.isub, 1) := by decide +kernel
theorem dX5_cone_77 : decode cX5_cone 77 = .ok (.i2l, 1) := by decide +kernel
theorem dX5_cone_78 : decode cX5_cone 78 = .ok (.invokestatic 79, 3) := by decide +kernel
theorem dX5_cone_81 : decode cX5_cone 81 = .ok (.l2i, 1) := by decide +kernel
theorem dX5_cone_82 : decode cX5_cone 82 = .ok (.iadd, 1) := by decide +kernel
theorem dX5_cone_83 : decode cX5_cone 83 = .ok (.invokevirtual 67, 3) := by decide +kernel
theorem dX5_cone_86 : decode cX5_cone 86 = .ok (.iinc 5 1, 3) := by decide +kernel
theorem dX5_cone_89 : decode cX5_cone 89 = .ok (.goto (-36), 3) := by decide +kernel
theorem dX5_cone_92 : decode cX5_cone 92 = .ok (.aload_n 0, 1) := by decide +kernel
theorem dX5_cone_93 : decode cX5_cone 93 = .ok (.getfield 12, 3) := by decide +kernel
theorem dX5_cone_96 : decode cX5_cone 96 = .ok (.invokevirtual 71, 3) := by decide +kernel
theorem dX5_cone_99 : decode cX5_cone 99 = .ok (.ireturn, 1) := by decide +kernel
set_option maxRecDepth 20000 in
theorem ggX5_hole_X5_mayBe : GoodIn wsX5_hole wsX5_mayBe := goodIn_r _ [7, 1, 8, 9, 10, 11, 12, 13, 14, 15, 16, 17, 18, 19, 6, 20, 21, 22, 23, 38, 39, 40, 41, 42, 43, 44, 45, 46, 47, 48, 49, 50, 51, 52, 53, 54, 55] (by decide +kernel) (by decide +kernel)
set_option maxRecDepth 20000 in
theorem gX5_hole_X5_mayBe : GoodIn wsX5_hole (wsV RX5 83 RX5 yX5_mayBe wsX5_mayBe) := goodIn_app (goodIn_of _ (by decide +kernel)) ggX5_hole_X5_mayBe
set_option maxRecDepth 20000 in
theorem ggX5_hole_X2_holeAt : GoodIn wsX5_hole wsX2_holeAt := goodIn_r _ [27, 28, 29, 19, 6, 20, 47, 48, 49, 50, 51, 52, 53, 54, 55] (by decide +kernel) (by decide +kernel)
set_option maxRecDepth 20000 in
theorem gX5_hole_X2_holeAt : GoodIn wsX5_hole (wsV RX5 86 RX2 yX2_holeAt wsX2_holeAt) := goodIn_app (goodIn_of _ (by decide +kernel)) ggX5_hole_X2_holeAt
set_option maxRecDepth 20000 in
theorem ggX5_hole_X2_addHole : GoodIn wsX5_hole wsX2_addHole := goodIn_r _ [33, 29, 28, 34, 35, 36, 6, 37, 47, 48, 49, 50, 51, 52, 53, 54, 55] (by decide +kernel) (by decide +kernel)
set_option maxRecDepth 20000 in
theorem gX5_hole_X2_addHole : GoodIn wsX5_hole (wsV RX5 93 RX2 yX2_addHole wsX2_addHole) := goodIn_app (goodIn_of _ (by decide +kernel)) ggX5_hole_X2_addHole
theorem dX5_hole_0 : decode cX5_hole 0 = .ok (.aload_n 0, 1) := by decide +kernel
theorem dX5_hole_1 : decode cX5_hole 1 = .ok (.iconst 0, 1) := by decide +kernel
theorem dX5_hole_2 : decode cX5_hole 2 = .ok (.iload_n 1, 1) := by decide +kernel
theorem dX5_hole_3 : decode cX5_hole 3 = .ok (.invokevirtual 83, 3) := by decide +kernel
theorem dX5_hole_6 : decode cX5_hole 6 = .ok (.ifCond .eq 21, 3) := by decide +kernel
theorem dX5_hole_9 : decode cX5_hole 9 = .ok (.aload_n 0, 1) := by decide +kernel
theorem dX5_hole_10 : decode cX5_hole 10 = .ok (.iconst 1, 1) := by decide +kernel
theorem dX5_hole_11 : decode cX5_hole 11 = .ok (.iload_n 2, 1) := by decide +kernel
theorem dX5_hole_12 : decode cX5_hole 12 = .ok (.invokevirtual 83, 3) := by decide +kernel
theorem dX5_hole_15 : decode cX5_hole 15 = .ok (.ifCond .eq 12, 3) := by decide +kernel
theorem dX5_hole_18 : decode cX5_hole 18 = .ok (.aload_n 0, 1) := by decide +kernel
theorem dX5_hole_19 : decode cX5_hole 19 = .ok (.iconst 2, 1) := by decide +kernel
theorem dX5_hole_20 : decode cX5_hole 20 = .ok (.iload_n 3, 1) := by decide +kernel
theorem dX5_hole_21 : decode cX5_hole 21 = .ok (.invokevirtual 83, 3) := by decide +kernel
theorem dX5_hole_24 : decode cX5_hole 24 = .ok (.ifCond .ne 7, 3) := by decide +kernel
theorem dX5_hole_27 : decode cX5_hole 27 = .ok (.sipush (-1002), 3) := by decide +kernel
theorem dX5_hole_30 : decode cX5_hole 30 = .ok (.ireturn, 1) := by decide +kernel
theorem dX5_hole_31 : decode cX5_hole 31 = .ok (.aload_n 0, 1) := by decide +kernel
theorem dX5_hole_32 : decode cX5_hole 32 = .ok (.getfield 12, 3) := by decide +kernel
theorem dX5_hole_35 : decode cX5_hole 35 = .ok (.iload_n 1, 1) := by decide +kernel
theorem dX5_hole_36 : decode cX5_hole 36 = .ok (.invokevirtual 86, 3) := by decide +kernel
theorem dX5_hole_39 : decode cX5_hole 39 = .ok (.iconst (-1), 1) := by decide +kernel
theorem dX5_hole_40 : decode cX5_hole 40 = .ok (.if_icmp .eq 7, 3) := by decide +kernel
theorem dX5_hole_43 : decode cX5_hole 43 = .ok (.sipush (-1003), 3) := by decide +kernel
theorem dX5_hole_46 : decode cX5_hole 46 = .ok (.ireturn, 1) := by decide +kernel
theorem dX5_hole_47 : decode cX5_hole 47 = .ok (.aload_n 0, 1) := by decide +kernel
theorem dX5_hole_48 : decode cX5_hole 48 = .ok (.getfield 12, 3) := by decide +kernel
theorem dX5_hole_51 : decode cX5_hole 51 = .ok (.getfield 90, 3) := by decide +kernel
theorem dX5_hole_54 : decode cX5_hole 54 = .ok (.bipush 6, 2) := by decide +kernel
theorem dX5_hole_56 : decode cX5_hole 56 = .ok (.if_icmp .lt 7, 3) := by decide +kernel
theorem dX5_hole_59 : decode cX5_hole 59 = .ok (.sipush (-1004), 3) := by decide +kernel
theorem dX5_hole_62 : decode cX5_hole 62 = .ok (.ireturn, 1) := by decide +kernel
theorem dX5_hole_63 : decode cX5_hole 63 = .ok (.aload_n 0, 1) := by decide +kernel
theorem dX5_hole_64 : decode cX5_hole 64 = .ok (.getfield 12, 3) := by decide +kernel
theorem dX5_hole_67 : decode cX5_hole 67 = .ok (.iload_n 1, 1) := by decide +kernel
theorem dX5_hole_68 : decode cX5_hole 68 = .ok (.iload_n 2, 1) := by decide +kernel
theorem dX5_hole_69 : decode cX5_hole 69 = .ok (.iload_n 3, 1) := by decide +kernel
theorem dX5_hole_70 : decode cX5_hole 70 = .ok (.invokevirtual 93, 3) := by decide +kernel
theorem dX5_hole_73 : decode cX5_hole 73 = .ok (.aload_n 0, 1) := by decide +kernel
theorem dX5_hole_74 : decode cX5_hole 74 = .ok (.getfield 12, 3) := by decide +kernel
theorem dX5_hole_77 : decode cX5_hole 77 = .ok (.getfield 90, 3) := by decide +kernel
theorem dX5_hole_80 : decode cX5_hole 80 = .ok (.iconst 1, 1) := by decide +kernel
theorem dX5_hole_81 : decode cX5_hole 81 = .ok (.isub, 1) := by decide +kernel
theorem dX5_hole_82 : decode cX5_hole 82 = .ok (.ireturn, 1) := by decide +kernel
set_option maxRecDepth 20000 in
theorem ggX5_set_X5_within : GoodIn wsX5_set wsX5_within := goodIn_r _ [7] (by decide +kernel) (by decide +kernel)
set_option maxRecDepth 20000 in
theorem gX5_set_X5_within : GoodIn wsX5_set (va_wsS RX5 75 yX5_within wsX5_within) := goodIn_app (goodIn_of _ (by decide +kernel)) ggX5_set_X5_within
set_option maxRecDepth 20000 in
theorem ggX5_set_X5_mayBe : GoodIn wsX5_set wsX5_mayBe := goodIn_r _ [11, 1, 12, 13, 14, 15, 16, 17, 18, 19, 20, 21, 22, 23, 6, 24, 4, 5, 7, 48, 49, 50, 51, 52, 53, 54, 55, 56, 57, 58, 59, 60, 61, 62, 63, 64, 65] (by decide +kernel) (by decide +kernel)
set_option maxRecDepth 20000 in
theorem gX5_set_X5_mayBe : GoodIn wsX5_set (wsV RX5 83 RX5 yX5_mayBe wsX5_mayBe) := goodIn_app (goodIn_of _ (by decide +kernel)) ggX5_set_X5_mayBe
set_option maxRecDepth 20000 in
theorem ggX5_set_X5_at : GoodIn wsX5_set wsX5_at := goodIn_r _ [24] (by decide +kernel) (by decide +kernel)
set_option maxRecDepth 20000 in
theorem gX5_set_X5_at : GoodIn wsX5_set (va_wsS RX5 101 yX5_at wsX5_at) := goodIn_app (goodIn_of _ (by decide +kernel)) ggX5_set_X5_at
set_option maxRecDepth 20000 in
theorem ggX5_set_X2_holeAt : GoodIn wsX5_set wsX2_holeAt := goodIn_r _ [29, 30, 31, 23, 6, 24, 57, 58, 59, 60, 61, 62, 63, 64, 65] (by decide +kernel) (by decide +kernel)
set_option maxRecDepth 20000 in
theorem gX5_set_X2_holeAt : GoodIn wsX5_set (wsV RX5 86 RX2 yX2_holeAt wsX2_holeAt) := goodIn_app (goodIn_of _ (by decide +kernel)) ggX5_set_X2_holeAt
set_option maxRecDepth 20000 in
theorem ggX5_set_X2_ofHole : GoodIn wsX5_set wsX2_ofHole := goodIn_r _ [35, 36, 37, 38, 15, 39, 31, 40, 41, 23, 6, 24, 57, 58, 59, 60, 61, 62, 63, 64, 65] (by decide +kernel) (by decide +kernel)
set_option maxRecDepth 20000 in
theorem gX5_set_X2_ofHole : GoodIn wsX5_set (wsV RX5 105 RX2 yX2_ofHole wsX2_ofHole) := goodIn_app (goodIn_of _ (by decide +kernel)) ggX5_set_X2_ofHole
set_option maxRecDepth 20000 in
theorem ggX5_set_X2_changeHole : GoodIn wsX5_set wsX2_changeHole := goodIn_r _ [45, 36, 37, 38, 15, 39, 31, 40, 41, 46, 6, 47, 57, 58, 59, 60, 61, 62, 63, 64, 65] (by decide +kernel) (by decide +kernel)
set_option maxRecDepth 20000 in
theorem gX5_set_X2_changeHole : GoodIn wsX5_set (wsV RX5 109 RX2 yX2_changeHole wsX2_changeHole) := goodIn_app (goodIn_of _ (by decide +kernel)) ggX5_set_X2_changeHole
theorem dX5_set_0 : decode cX5_set 0 = .ok (.iload_n 1, 1) := by decide +kernel
theorem dX5_set_1 : decode cX5_set 1 = .ok (.iconst 0, 1) := by decide +kernel
theorem dX5_set_2 : decode cX5_set 2 = .ok (.aload_n 0, 1) := by decide +kernel
theorem dX5_set_3 : decode cX5_set 3 = .ok (.getfield 12, 3) := by decide +kernel
theorem dX5_set_6 : decode cX5_set 6 = .ok (.getfield 90, 3) := by decide +kernel
theorem dX5_set_9 : decode cX5_set 9 = .ok (.iconst 1, 1) := by decide +kernel
theorem dX5_set_10 : decode cX5_set 10 = .ok (.isub, 1) := by decide +kernel
theorem dX5_set_11 : decode cX5_set 11 = .ok (.invokestatic 75, 3) := by decide +kernel
theorem dX5_set_14 : decode cX5_set 14 = .ok (.ifCond .ne 7, 3) := by decide +kernel
theorem dX5_set_17 : decode cX5_set 17 = .ok (.sipush (-1001), 3) := by decide +kernel
theorem dX5_set_20 : decode cX5_set 20 = .ok (.ireturn, 1) := by decide +kernel
theorem dX5_set_21 : decode cX5_set 21 = .ok (.aload_n 0, 1) := by decide +kernel
theorem dX5_set_22 : decode cX5_set 22 = .ok (.iload_n 2, 1) := by decide +kernel
theorem dX5_set_23 : decode cX5_set 23 = .ok (.iload_n 3, 1) := by decide +kernel
theorem dX5_set_24 : decode cX5_set 24 = .ok (.invokevirtual 83, 3) := by decide +kernel
theorem dX5_set_27 : decode cX5_set 27 = .ok (.ifCond .ne 7, 3) := by decide +kernel
theorem dX5_set_30 : decode cX5_set 30 = .ok (.sipush (-1002), 3) := by decide +kernel
theorem dX5_set_33 : decode cX5_set 33 = .ok (.ireturn, 1) := by decide +kernel
theorem dX5_set_34 : decode cX5_set 34 = .ok (.iload_n 2, 1) := by decide +kernel
theorem dX5_set_35 : decode cX5_set 35 = .ok (.ifCond .ne 34, 3) := by decide +kernel
theorem dX5_set_38 : decode cX5_set 38 = .ok (.iload_n 3, 1) := by decide +kernel
theorem dX5_set_39 : decode cX5_set 39 = .ok (.aload_n 0, 1) := by decide +kernel
theorem dX5_set_40 : decode cX5_set 40 = .ok (.getfield 12, 3) := by decide +kernel
theorem dX5_set_43 : decode cX5_set 43 = .ok (.getfield 97, 3) := by decide +kernel
theorem dX5_set_46 : decode cX5_set 46 = .ok (.iload_n 1, 1) := by decide +kernel
theorem dX5_set_47 : decode cX5_set 47 = .ok (.invokestatic 101, 3) := by decide +kernel
theorem dX5_set_50 : decode cX5_set 50 = .ok (.if_icmp .eq 19, 3) := by decide +kernel
theorem dX5_set_53 : decode cX5_set 53 = .ok (.aload_n 0, 1) := by decide +kernel
theorem dX5_set_54 : decode cX5_set 54 = .ok (.getfield 12, 3) := by decide +kernel
theorem dX5_set_57 : decode cX5_set 57 = .ok (.iload_n 3, 1) := by decide +kernel
theorem dX5_set_58 : decode cX5_set 58 = .ok (.invokevirtual 86, 3) := by decide +kernel
theorem dX5_set_61 : decode cX5_set 61 = .ok (.iconst (-1), 1) := by decide +kernel
theorem dX5_set_62 : decode cX5_set 62 = .ok (.if_icmp .eq 7, 3) := by decide +kernel
theorem dX5_set_65 : decode cX5_set 65 = .ok (.sipush (-1003), 3) := by decide +kernel
theorem dX5_set_68 : decode cX5_set 68 = .ok (.ireturn, 1) := by decide +kernel
theorem dX5_set_69 : decode cX5_set 69 = .ok (.aload_n 0, 1) := by decide +kernel
theorem dX5_set_70 : decode cX5_set 70 = .ok (.getfield 12, 3) := by decide +kernel
theorem dX5_set_73 : decode cX5_set 73 = .ok (.iload_n 1, 1) := by decide +kernel
theorem dX5_set_74 : decode cX5_set 74 = .ok (.iload_n 2, 1) := by decide +kernel
theorem dX5_set_75 : decode cX5_set 75 = .ok (.invokevirtual 105, 3) := by decide +kernel
theorem dX5_set_78 : decode cX5_set 78 = .ok (.istore 4, 2) := by decide +kernel
theorem dX5_set_80 : decode cX5_set 80 = .ok (.aload_n 0, 1) := by decide +kernel
theorem dX5_set_81 : decode cX5_set 81 = .ok (.getfield 12, 3) := by decide +kernel
theorem dX5_set_84 : decode cX5_set 84 = .ok (.iload_n 1, 1) := by decide +kernel
theorem dX5_set_85 : decode cX5_set 85 = .ok (.iload_n 2, 1) := by decide +kernel
theorem dX5_set_86 : decode cX5_set 86 = .ok (.iload_n 3, 1) := by decide +kernel
theorem dX5_set_87 : decode cX5_set 87 = .ok (.invokevirtual 109, 3) := by decide +kernel
theorem dX5_set_90 : decode cX5_set 90 = .ok (.iload 4, 2) := by decide +kernel
theorem dX5_set_92 : decode cX5_set 92 = .ok (.ireturn, 1) := by decide +kernel
set_option maxRecDepth 20000 in
theorem ggX5_end_X5_within : GoodIn wsX5_end wsX5_within := goodIn_r _ [7] (by decide +kernel) (by decide +kernel)
set_option maxRecDepth 20000 in
theorem gX5_end_X5_within : GoodIn wsX5_end (va_wsS RX5 75 yX5_within wsX5_within) := goodIn_app (goodIn_of _ (by decide +kernel)) ggX5_end_X5_within
theorem dX5_end_0 : decode cX5_end 0 = .ok (.iload_n 1, 1) := by decide +kernel
theorem dX5_end_1 : decode cX5_end 1 = .ok (.iconst 0, 1) := by decide +kernel
theorem dX5_end_2 : decode cX5_end 2 = .ok (.iconst 1, 1) := by decide +kernel
theorem dX5_end_3 : decode cX5_end 3 = .ok (.invokestatic 75, 3) := by decide +kernel
theorem dX5_end_6 : decode cX5_end 6 = .ok (.ifCond .eq 12, 3) := by decide +kernel
theorem dX5_end_9 : decode cX5_end 9 = .ok (.iload_n 2, 1) := by decide +kernel
theorem dX5_end_10 : decode cX5_end 10 = .ok (.iconst 0, 1) := by decide +kernel
theorem dX5_end_11 : decode cX5_end 11 = .ok (.iconst 1, 1) := by decide +kernel
theorem dX5_end_12 : decode cX5_end 12 = .ok (.invokestatic 75, 3) := by decide +kernel
theorem dX5_end_15 : decode cX5_end 15 = .ok (.ifCond .ne 7, 3) := by decide +kernel
theorem dX5_end_18 : decode cX5_end 18 = .ok (.sipush (-1002), 3) := by decide +kernel
theorem dX5_end_21 : decode cX5_end 21 = .ok (.ireturn, 1) := by decide +kernel
theorem dX5_end_22 : decode cX5_end 22 = .ok (.iload_n 1, 1) := by decide +kernel
theorem dX5_end_23 : decode cX5_end 23 = .ok (.ifCond .ne 13, 3) := by decide +kernel
theorem dX5_end_26 : decode cX5_end 26 = .ok (.aload_n 0, 1) := by decide +kernel
theorem dX5_end_27 : decode cX5_end 27 = .ok (.getfield 12, 3) := by decide +kernel
theorem dX5_end_30 : decode cX5_end 30 = .ok (.getfield 112, 3) := by decide +kernel
theorem dX5_end_33 : decode cX5_end 33 = .ok (.goto 10, 3) := by decide +kernel
theorem dX5_end_36 : decode cX5_end 36 = .ok (.aload_n 0, 1) := by decide +kernel
theorem dX5_end_37 : decode cX5_end 37 = .ok (.getfield 12, 3) := by decide +kernel
theorem dX5_end_40 : decode cX5_end 40 = .ok (.getfield 115, 3) := by decide +kernel
theorem dX5_end_43 : decode cX5_end 43 = .ok (.istore_n 3, 1) := by decide +kernel
theorem dX5_end_44 : decode cX5_end 44 = .ok (.iload_n 1, 1) := by decide +kernel
theorem dX5_end_45 : decode cX5_end 45 = .ok (.ifCond .ne 14, 3) := by decide +kernel
theorem dX5_end_48 : decode cX5_end 48 = .ok (.aload_n 0, 1) := by decide +kernel
theorem dX5_end_49 : decode cX5_end 49 = .ok (.getfield 12, 3) := by decide +kernel
theorem dX5_end_52 : decode cX5_end 52 = .ok (.iload_n 2, 1) := by decide +kernel
theorem dX5_end_53 : decode cX5_end 53 = .ok (.putfield 112, 3) := by decide +kernel
theorem dX5_end_56 : decode cX5_end 56 = .ok (.goto 11, 3) := by decide +kernel
theorem dX5_end_59 : decode cX5_end 59 = .ok (.aload_n 0, 1) := by decide +kernel
theorem dX5_end_60 : decode cX5_end 60 = .ok (.getfield 12, 3) := by decide +kernel
theorem dX5_end_63 : decode cX5_end 63 = .ok (.iload_n 2, 1) := by decide +kernel
theorem dX5_end_64 : decode cX5_end 64 = .ok (.putfield 115, 3) := by decide +kernel
theorem dX5_end_67 : decode cX5_end 67 = .ok (.iload_n 3, 1) := by decide +kernel
theorem dX5_end_68 : decode cX5_end 68 = .ok (.ireturn, 1) := by decide +kernel
set_option maxRecDepth 20000 in
theorem ggX5_clear_X2_empty : GoodIn wsX5_clear wsX2_empty := goodIn_r _ [10, 11, 12, 13, 14, 24, 25, 26, 27, 28, 29, 30, 31, 32] (by decide +kernel) (by decide +kernel)
set_option maxRecDepth 20000 in
theorem gX5_clear_X2_empty : GoodIn wsX5_clear (wsV RX5 118 RX2 yX2_empty wsX2_empty) := goodIn_app (goodIn_of _ (by decide +kernel)) ggX5_clear_X2_empty
theorem dX5_clear_0 : decode cX5_clear 0 = .ok (.aload_n 0, 1) := by decide +kernel
theorem dX5_clear_1 : decode cX5_clear 1 = .ok (.getfield 12, 3) := by decide +kernel
theorem dX5_clear_4 : decode cX5_clear 4 = .ok (.getfield 64, 3) := by decide +kernel
theorem dX5_clear_7 : decode cX5_clear 7 = .ok (.istore_n 1, 1) := by decide +kernel
theorem dX5_clear_8 : decode cX5_clear 8 = .ok (.aload_n 0, 1) := by decide +kernel
theorem dX5_clear_9 : decode cX5_clear 9 = .ok (.getfield 12, 3) := by decide +kernel
theorem dX5_clear_12 : decode cX5_clear 12 = .ok (.invokevirtual 118, 3) := by decide +kernel
theorem dX5_clear_15 : decode cX5_clear 15 = .ok (.aload_n 0, 1) := by decide +kernel
theorem dX5_clear_16 : decode cX5_clear 16 = .ok (.getfield 36, 3) := by decide +kernel
theorem dX5_clear_19 : decode cX5_clear 19 = .ok (.iconst 0, 1) := by decide +kernel
theorem dX5_clear_20 : decode cX5_clear 20 = .ok (.putfield 121, 3) := by decide +kernel
theorem dX5_clear_23 : decode cX5_clear 23 = .ok (.aload_n 0, 1) := by decide +kernel
theorem dX5_clear_24 : decode cX5_clear 24 = .ok (.iconst 0, 1) := by decide +kernel
theorem dX5_clear_25 : decode cX5_clear 25 = .ok (.putfield 57, 3) := by decide +kernel
theorem dX5_clear_28 : decode cX5_clear 28 = .ok (.iload_n 1, 1) := by decide +kernel
theorem dX5_clear_29 : decode cX5_clear 29 = .ok (.ireturn, 1) := by decide +kernel
set_option maxRecDepth 20000 in
theorem ggX5_told_X5_within : GoodIn wsX5_told wsX5_within := goodIn_r _ [8] (by decide +kernel) (by decide +kernel)
set_option maxRecDepth 20000 in
theorem gX5_told_X5_within : GoodIn wsX5_told (va_wsS RX5 75 yX5_within wsX5_within) := goodIn_app (goodIn_of _ (by decide +kernel)) ggX5_told_X5_within
set_option maxRecDepth 20000 in
theorem ggX5_told_X5_at : GoodIn wsX5_told wsX5_at := goodIn_r _ [11] (by decide +kernel) (by decide +kernel)
set_option maxRecDepth 20000 in
theorem gX5_told_X5_at : GoodIn wsX5_told (va_wsS RX5 101 yX5_at wsX5_at) := goodIn_app (goodIn_of _ (by decide +kernel)) ggX5_told_X5_at
theorem dX5_told_0 : decode cX5_told 0 = .ok (.iload_n 1, 1) := by decide +kernel
theorem dX5_told_1 : decode cX5_told 1 = .ok (.iconst 0, 1) := by decide +kernel
theorem dX5_told_2 : decode cX5_told 2 = .ok (.aload_n 0, 1) := by decide +kernel
theorem dX5_told_3 : decode cX5_told 3 = .ok (.getfield 12, 3) := by decide +kernel
theorem dX5_told_6 : decode cX5_told 6 = .ok (.getfield 64, 3) := by decide +kernel
theorem dX5_told_9 : decode cX5_told 9 = .ok (.iconst 1, 1) := by decide +kernel
theorem dX5_told_10 : decode cX5_told 10 = .ok (.isub, 1) := by decide +kernel
theorem dX5_told_11 : decode cX5_told 11 = .ok (.invokestatic 75, 3) := by decide +kernel
theorem dX5_told_14 : decode cX5_told 14 = .ok (.ifCond .ne 7, 3) := by decide +kernel
theorem dX5_told_17 : decode cX5_told 17 = .ok (.sipush (-1001), 3) := by decide +kernel
theorem dX5_told_20 : decode cX5_told 20 = .ok (.ireturn, 1) := by decide +kernel
theorem dX5_told_21 : decode cX5_told 21 = .ok (.iload_n 2, 1) := by decide +kernel
theorem dX5_told_22 : decode cX5_told 22 = .ok (.iconst 0, 1) := by decide +kernel
theorem dX5_told_23 : decode cX5_told 23 = .ok (.iconst 1, 1) := by decide +kernel
theorem dX5_told_24 : decode cX5_told 24 = .ok (.invokestatic 75, 3) := by decide +kernel
theorem dX5_told_27 : decode cX5_told 27 = .ok (.ifCond .ne 7, 3) := by decide +kernel
theorem dX5_told_30 : decode cX5_told 30 = .ok (.sipush (-1002), 3) := by decide +kernel
theorem dX5_told_33 : decode cX5_told 33 = .ok (.ireturn, 1) := by decide +kernel
theorem dX5_told_34 : decode cX5_told 34 = .ok (.iload_n 2, 1) := by decide +kernel
theorem dX5_told_35 : decode cX5_told 35 = .ok (.ifCond .ne 17, 3) := by decide +kernel
theorem dX5_told_38 : decode cX5_told 38 = .ok (.aload_n 0, 1) := by decide +kernel
theorem dX5_told_39 : decode cX5_told 39 = .ok (.getfield 12, 3) := by decide +kernel
theorem dX5_told_42 : decode cX5_told 42 = .ok (.getfield 124, 3) := by decide +kernel
theorem dX5_told_45 : decode cX5_told 45 = .ok (.iload_n 1, 1) := by decide +kernel
theorem dX5_told_46 : decode cX5_told 46 = .ok (.invokestatic 101, 3) := by decide +kernel
theorem dX5_told_49 : decode cX5_told 49 = .ok (.goto 14, 3) := by decide +kernel
theorem dX5_told_52 : decode cX5_told 52 = .ok (.aload_n 0, 1) := by decide +kernel
theorem dX5_told_53 : decode cX5_told 53 = .ok (.getfield 12, 3) := by decide +kernel
theorem dX5_told_56 : decode cX5_told 56 = .ok (.getfield 127, 3) := by decide +kernel
theorem dX5_told_59 : decode cX5_told 59 = .ok (.iload_n 1, 1) := by decide +kernel
theorem dX5_told_60 : decode cX5_told 60 = .ok (.invokestatic 101, 3) := by decide +kernel
theorem dX5_told_63 : decode cX5_told 63 = .ok (.ireturn, 1) := by decide +kernel
set_option maxRecDepth 20000 in
theorem ggX5_bored_X5_within : GoodIn wsX5_bored wsX5_within := goodIn_r _ [7] (by decide +kernel) (by decide +kernel)
set_option maxRecDepth 20000 in
theorem gX5_bored_X5_within : GoodIn wsX5_bored (va_wsS RX5 75 yX5_within wsX5_within) := goodIn_app (goodIn_of _ (by decide +kernel)) ggX5_bored_X5_within
set_option maxRecDepth 20000 in
theorem ggX5_bored_X5_at : GoodIn wsX5_bored wsX5_at := goodIn_r _ [10] (by decide +kernel) (by decide +kernel)
set_option maxRecDepth 20000 in
theorem gX5_bored_X5_at : GoodIn wsX5_bored (va_wsS RX5 101 yX5_at wsX5_at) := goodIn_app (goodIn_of _ (by decide +kernel)) ggX5_bored_X5_at
set_option maxRecDepth 20000 in
theorem ggX5_bored_X2_pieceAt : GoodIn wsX5_bored wsX2_pieceAt := goodIn_r _ [15, 16, 17, 9, 6, 10, 43, 44, 45, 46, 47, 48, 49, 50, 51] (by decide +kernel) (by decide +kernel)
set_option maxRecDepth 20000 in
theorem gX5_bored_X2_pieceAt : GoodIn wsX5_bored (wsV RX5 130 RX2 yX2_pieceAt wsX2_pieceAt) := goodIn_app (goodIn_of _ (by decide +kernel)) ggX5_bored_X2_pieceAt
set_option maxRecDepth 20000 in
theorem ggX5_bored_X2_holesBefore : GoodIn wsX5_bored wsX2_holesBefore := goodIn_r _ [21, 22, 23, 9, 6, 10, 43, 44, 45, 46, 47, 48, 49, 50, 51] (by decide +kernel) (by decide +kernel)
set_option maxRecDepth 20000 in
theorem gX5_bored_X2_holesBefore : GoodIn wsX5_bored (wsV RX5 133 RX2 yX2_holesBefore wsX2_holesBefore) := goodIn_app (goodIn_of _ (by decide +kernel)) ggX5_bored_X2_holesBefore
set_option maxRecDepth 20000 in
theorem ggX5_bored_X2_ofHole : GoodIn wsX5_bored wsX2_ofHole := goodIn_r _ [27, 28, 29, 30, 14, 31, 23, 32, 33, 9, 6, 10, 43, 44, 45, 46, 47, 48, 49, 50, 51] (by decide +kernel) (by decide +kernel)
set_option maxRecDepth 20000 in
theorem gX5_bored_X2_ofHole : GoodIn wsX5_bored (wsV RX5 105 RX2 yX2_ofHole wsX2_ofHole) := goodIn_app (goodIn_of _ (by decide +kernel)) ggX5_bored_X2_ofHole
theorem dX5_bored_0 : decode cX5_bored 0 = .ok (.iload_n 1, 1) := by decide +kernel
theorem dX5_bored_1 : decode cX5_bored 1 = .ok (.iconst 0, 1) := by decide +kernel
theorem dX5_bored_2 : decode cX5_bored 2 = .ok (.aload_n 0, 1) := by decide +kernel
theorem dX5_bored_3 : decode cX5_bored 3 = .ok (.getfield 12, 3) := by decide +kernel
theorem dX5_bored_6 : decode cX5_bored 6 = .ok (.getfield 90, 3) := by decide +kernel
theorem dX5_bored_9 : decode cX5_bored 9 = .ok (.iconst 1, 1) := by decide +kernel
theorem dX5_bored_10 : decode cX5_bored 10 = .ok (.isub, 1) := by decide +kernel
theorem dX5_bored_11 : decode cX5_bored 11 = .ok (.invokestatic 75, 3) := by decide +kernel
theorem dX5_bored_14 : decode cX5_bored 14 = .ok (.ifCond .ne 7, 3) := by decide +kernel
theorem dX5_bored_17 : decode cX5_bored 17 = .ok (.sipush (-1001), 3) := by decide +kernel
theorem dX5_bored_20 : decode cX5_bored 20 = .ok (.ireturn, 1) := by decide +kernel
theorem dX5_bored_21 : decode cX5_bored 21 = .ok (.iload_n 2, 1) := by decide +kernel
theorem dX5_bored_22 : decode cX5_bored 22 = .ok (.iconst 0, 1) := by decide +kernel
theorem dX5_bored_23 : decode cX5_bored 23 = .ok (.iconst 4, 1) := by decide +kernel
theorem dX5_bored_24 : decode cX5_bored 24 = .ok (.invokestatic 75, 3) := by decide +kernel
theorem dX5_bored_27 : decode cX5_bored 27 = .ok (.ifCond .ne 7, 3) := by decide +kernel
theorem dX5_bored_30 : decode cX5_bored 30 = .ok (.sipush (-1002), 3) := by decide +kernel
theorem dX5_bored_33 : decode cX5_bored 33 = .ok (.ireturn, 1) := by decide +kernel
theorem dX5_bored_34 : decode cX5_bored 34 = .ok (.iload_n 2, 1) := by decide +kernel
theorem dX5_bored_35 : decode cX5_bored 35 = .ok (.iconst 3, 1) := by decide +kernel
theorem dX5_bored_36 : decode cX5_bored 36 = .ok (.if_icmp .ne 22, 3) := by decide +kernel
theorem dX5_bored_39 : decode cX5_bored 39 = .ok (.aload_n 0, 1) := by decide +kernel
theorem dX5_bored_40 : decode cX5_bored 40 = .ok (.getfield 12, 3) := by decide +kernel
theorem dX5_bored_43 : decode cX5_bored 43 = .ok (.aload_n 0, 1) := by decide +kernel
theorem dX5_bored_44 : decode cX5_bored 44 = .ok (.getfield 12, 3) := by decide +kernel
theorem dX5_bored_47 : decode cX5_bored 47 = .ok (.getfield 97, 3) := by decide +kernel
theorem dX5_bored_50 : decode cX5_bored 50 = .ok (.iload_n 1, 1) := by decide +kernel
theorem dX5_bored_51 : decode cX5_bored 51 = .ok (.invokestatic 101, 3) := by decide +kernel
theorem dX5_bored_54 : decode cX5_bored 54 = .ok (.invokevirtual 130, 3) := by decide +kernel
theorem dX5_bored_57 : decode cX5_bored 57 = .ok (.ireturn, 1) := by decide +kernel
theorem dX5_bored_58 : decode cX5_bored 58 = .ok (.iload_n 2, 1) := by decide +kernel
theorem dX5_bored_59 : decode cX5_bored 59 = .ok (.iconst 4, 1) := by decide +kernel
theorem dX5_bored_60 : decode cX5_bored 60 = .ok (.if_icmp .ne 22, 3) := by decide +kernel
theorem dX5_bored_63 : decode cX5_bored 63 = .ok (.aload_n 0, 1) := by decide +kernel
theorem dX5_bored_64 : decode cX5_bored 64 = .ok (.getfield 12, 3) := by decide +kernel
theorem dX5_bored_67 : decode cX5_bored 67 = .ok (.aload_n 0, 1) := by decide +kernel
theorem dX5_bored_68 : decode cX5_bored 68 = .ok (.getfield 12, 3) := by decide +kernel
theorem dX5_bored_71 : decode cX5_bored 71 = .ok (.getfield 97, 3) := by decide +kernel
theorem dX5_bored_74 : decode cX5_bored 74 = .ok (.iload_n 1, 1) := by decide +kernel
theorem dX5_bored_75 : decode cX5_bored 75 = .ok (.invokestatic 101, 3) := by decide +kernel
theorem dX5_bored_78 : decode cX5_bored 78 = .ok (.invokevirtual 133, 3) := by decide +kernel
theorem dX5_bored_81 : decode cX5_bored 81 = .ok (.ireturn, 1) := by decide +kernel
theorem dX5_bored_82 : decode cX5_bored 82 = .ok (.aload_n 0, 1) := by decide +kernel
theorem dX5_bored_83 : decode cX5_bored 83 = .ok (.getfield 12, 3) := by decide +kernel
theorem dX5_bored_86 : decode cX5_bored 86 = .ok (.iload_n 1, 1) := by decide +kernel
theorem dX5_bored_87 : decode cX5_bored 87 = .ok (.iload_n 2, 1) := by decide +kernel
theorem dX5_bored_88 : decode cX5_bored 88 = .ok (.invokevirtual 105, 3) := by decide +kernel
theorem dX5_bored_91 : decode cX5_bored 91 = .ok (.ireturn, 1) := by decide +kernel
set_option maxRecDepth 20000 in
theorem ggX5_count_X2_wholeLength : GoodIn wsX5_count wsX2_wholeLength := goodIn_r _ [16, 17, 18, 19, 20, 15, 21, 22, 23, 24, 25, 132, 133, 134, 135, 136, 137, 138, 139, 140] (by decide +kernel) (by decide +kernel)
set_option maxRecDepth 20000 in
theorem gX5_count_X2_wholeLength : GoodIn wsX5_count (wsV RX5 71 RX2 yX2_wholeLength wsX2_wholeLength) := goodIn_app (goodIn_of _ (by decide +kernel)) ggX5_count_X2_wholeLength
set_option maxRecDepth 20000 in
theorem ggX5_count_J13_bitCount_95d88 : GoodIn wsX5_count wsJ13_bitCount_95d88 := goodIn_r _ [29, 30, 31, 32] (by decide +kernel) (by decide +kernel)
set_option maxRecDepth 20000 in
theorem gX5_count_J13_bitCount_95d88 : GoodIn wsX5_count (va_wsS RX5 136 yJ13_bitCount_95d88 wsJ13_bitCount_95d88) := goodIn_app (goodIn_of _ (by decide +kernel)) ggX5_count_J13_bitCount_95d88
set_option maxRecDepth 20000 in
theorem ggX5_count_X5_rank : GoodIn wsX5_count wsX5_rank := goodIn_r _ [36, 37, 1, 4, 5, 38, 39, 40, 41, 42, 43, 44, 45, 46, 47, 48, 49, 50, 51, 52, 53, 54, 55, 56, 57, 58, 59, 60, 61, 62, 63, 64, 13, 14, 15, 16, 17, 18, 19, 20, 21, 22, 23, 24, 25, 65, 66, 67, 68, 69, 70, 71, 72, 73, 74, 75, 76, 77, 78, 79, 80, 81, 82, 83, 84, 85, 86, 87, 88, 89, 90, 91, 92, 93, 94, 95, 96, 97, 98, 99, 100, 101, 102, 103, 104, 105, 106, 107, 108, 109, 110, 111, 112, 113, 114, 115, 116, 117, 118, 119, 120, 121, 122, 123, 124, 125, 126, 127, 128, 129, 130, 131, 141, 142, 143, 144, 145, 146, 147, 148, 149, 150, 151, 152, 132, 133, 134, 135, 136, 137, 138, 139, 140] (by decide +kernel) (by decide +kernel)
set_option maxRecDepth 20000 in
theorem gX5_count_X5_rank : GoodIn wsX5_count (wsV RX5 145 RX5 yX5_rank wsX5_rank) := goodIn_app (goodIn_of _ (by decide +kernel)) ggX5_count_X5_rank
theorem dX5_count_0 : decode cX5_count 0 = .ok (.iload_n 1, 1) := by decide +kernel
theorem dX5_count_1 : decode cX5_count 1 = .ok (.tableswitch 147 0 10 #[59, 67, 75, 83, 91, 99, 107, 112, 120, 131, 142], 59) := by decide +kernel
theorem dX5_count_60 : decode cX5_count 60 = .ok (.aload_n 0, 1) := by decide +kernel
theorem dX5_count_61 : decode cX5_count 61 = .ok (.getfield 12, 3) := by decide +kernel
theorem dX5_count_64 : decode cX5_count 64 = .ok (.getfield 64, 3) := by decide +kernel
theorem dX5_count_67 : decode cX5_count 67 = .ok (.ireturn, 1) := by decide +kernel
theorem dX5_count_68 : decode cX5_count 68 = .ok (.aload_n 0, 1) := by decide +kernel
theorem dX5_count_69 : decode cX5_count 69 = .ok (.getfield 12, 3) := by decide +kernel
theorem dX5_count_72 : decode cX5_count 72 = .ok (.getfield 90, 3) := by decide +kernel
theorem dX5_count_75 : decode cX5_count 75 = .ok (.ireturn, 1) := by decide +kernel
theorem dX5_count_76 : decode cX5_count 76 = .ok (.aload_n 0, 1) := by decide +kernel
theorem dX5_count_77 : decode cX5_count 77 = .ok (.getfield 36, 3) := by decide +kernel
theorem dX5_count_80 : decode cX5_count 80 = .ok (.getfield 121, 3) := by decide +kernel
theorem dX5_count_83 : decode cX5_count 83 = .ok (.ireturn, 1) := by decide +kernel
theorem dX5_count_84 : decode cX5_count 84 = .ok (.aload_n 0, 1) := by decide +kernel
theorem dX5_count_85 : decode cX5_count 85 = .ok (.getfield 12, 3) := by decide +kernel
theorem dX5_count_88 : decode cX5_count 88 = .ok (.invokevirtual 71, 3) := by decide +kernel
theorem dX5_count_91 : decode cX5_count 91 = .ok (.ireturn, 1) := by decide +kernel
theorem dX5_count_92 : decode cX5_count 92 = .ok (.aload_n 0, 1) := by decide +kernel
theorem dX5_count_93 : decode cX5_count 93 = .ok (.getfield 12, 3) := by decide +kernel
theorem dX5_count_96 : decode cX5_count 96 = .ok (.getfield 112, 3) := by decide +kernel
theorem dX5_count_99 : decode cX5_count 99 = .ok (.ireturn, 1) := by decide +kernel
theorem dX5_count_100 : decode cX5_count 100 = .ok (.aload_n 0, 1) := by decide +kernel
theorem dX5_count_101 : decode cX5_count 101 = .ok (.getfield 12, 3) := by decide +kernel
theorem dX5_count_104 : decode cX5_count 104 = .ok (.getfield 115, 3) := by decide +kernel
theorem dX5_count_107 : decode cX5_count 107 = .ok (.ireturn, 1) := by decide +kernel
theorem dX5_count_108 : decode cX5_count 108 = .ok (.aload_n 0, 1) := by decide +kernel
theorem dX5_count_109 : decode cX5_count 109 = .ok (.getfield 53, 3) := by decide +kernel
theorem dX5_count_112 : decode cX5_count 112 = .ok (.ireturn, 1) := by decide +kernel
theorem dX5_count_113 : decode cX5_count 113 = .ok (.aload_n 0, 1) := by decide +kernel
theorem dX5_count_114 : decode cX5_count 114 = .ok (.getfield 49, 3) := by decide +kernel
theorem dX5_count_117 : decode cX5_count 117 = .ok (.invokestatic 136, 3) := by decide +kernel
theorem dX5_count_120 : decode cX5_count 120 = .ok (.ireturn, 1) := by decide +kernel
theorem dX5_count_121 : decode cX5_count 121 = .ok (.aload_n 0, 1) := by decide +kernel
theorem dX5_count_122 : decode cX5_count 122 = .ok (.ldc 144, 2) := by decide +kernel
theorem dX5_count_124 : decode cX5_count 124 = .ok (.invokevirtual 145, 3) := by decide +kernel
theorem dX5_count_127 : decode cX5_count 127 = .ok (.sipush 1801, 3) := by decide +kernel
theorem dX5_count_130 : decode cX5_count 130 = .ok (.idiv, 1) := by decide +kernel
theorem dX5_count_131 : decode cX5_count 131 = .ok (.ireturn, 1) := by decide +kernel
theorem dX5_count_132 : decode cX5_count 132 = .ok (.aload_n 0, 1) := by decide +kernel
theorem dX5_count_133 : decode cX5_count 133 = .ok (.ldc 144, 2) := by decide +kernel
theorem dX5_count_135 : decode cX5_count 135 = .ok (.invokevirtual 145, 3) := by decide +kernel
theorem dX5_count_138 : decode cX5_count 138 = .ok (.sipush 1801, 3) := by decide +kernel
theorem dX5_count_141 : decode cX5_count 141 = .ok (.irem, 1) := by decide +kernel
theorem dX5_count_142 : decode cX5_count 142 = .ok (.ireturn, 1) := by decide +kernel
theorem dX5_count_143 : decode cX5_count 143 = .ok (.aload_n 0, 1) := by decide +kernel
theorem dX5_count_144 : decode cX5_count 144 = .ok (.getfield 57, 3) := by decide +kernel
theorem dX5_count_147 : decode cX5_count 147 = .ok (.ireturn, 1) := by decide +kernel
theorem dX5_count_148 : decode cX5_count 148 = .ok (.sipush (-1002), 3) := by decide +kernel
theorem dX5_count_151 : decode cX5_count 151 = .ok (.ireturn, 1) := by decide +kernel
set_option maxRecDepth 20000 in
theorem ggX5_sine_X5_within : GoodIn wsX5_sine wsX5_within := goodIn_r _ [5] (by decide +kernel) (by decide +kernel)
set_option maxRecDepth 20000 in
theorem gX5_sine_X5_within : GoodIn wsX5_sine (va_wsS RX5 75 yX5_within wsX5_within) := goodIn_app (goodIn_of _ (by decide +kernel)) ggX5_sine_X5_within
set_option maxRecDepth 20000 in
theorem ggX5_sine_X5_sineOf : GoodIn wsX5_sine wsX5_sineOf := goodIn_r _ [8, 9, 10, 11, 12, 13, 14, 4, 15] (by decide +kernel) (by decide +kernel)
set_option maxRecDepth 20000 in
theorem gX5_sine_X5_sineOf : GoodIn wsX5_sine (va_wsS RX5 149 yX5_sineOf wsX5_sineOf) := goodIn_app (goodIn_of _ (by decide +kernel)) ggX5_sine_X5_sineOf
theorem dX5_sine_0 : decode cX5_sine 0 = .ok (.iload_n 1, 1) := by decide +kernel
theorem dX5_sine_1 : decode cX5_sine 1 = .ok (.iconst 0, 1) := by decide +kernel
theorem dX5_sine_2 : decode cX5_sine 2 = .ok (.ldc 148, 2) := by decide +kernel
theorem dX5_sine_4 : decode cX5_sine 4 = .ok (.invokestatic 75, 3) := by decide +kernel
theorem dX5_sine_7 : decode cX5_sine 7 = .ok (.ifCond .eq 11, 3) := by decide +kernel
theorem dX5_sine_10 : decode cX5_sine 10 = .ok (.iload_n 1, 1) := by decide +kernel
theorem dX5_sine_11 : decode cX5_sine 11 = .ok (.invokestatic 149, 3) := by decide +kernel
theorem dX5_sine_14 : decode cX5_sine 14 = .ok (.l2i, 1) := by decide +kernel
theorem dX5_sine_15 : decode cX5_sine 15 = .ok (.goto 6, 3) := by decide +kernel
theorem dX5_sine_18 : decode cX5_sine 18 = .ok (.sipush (-1002), 3) := by decide +kernel
theorem dX5_sine_21 : decode cX5_sine 21 = .ok (.ireturn, 1) := by decide +kernel
set_option maxRecDepth 20000 in
theorem ggX5_worth_X5_within : GoodIn wsX5_worth wsX5_within := goodIn_r _ [9] (by decide +kernel) (by decide +kernel)
set_option maxRecDepth 20000 in
theorem gX5_worth_X5_within : GoodIn wsX5_worth (va_wsS RX5 75 yX5_within wsX5_within) := goodIn_app (goodIn_of _ (by decide +kernel)) ggX5_worth_X5_within
set_option maxRecDepth 20000 in
theorem ggX5_worth_X4_cutUp : GoodIn wsX5_worth wsX4_cutUp := goodIn_r _ [14, 15, 16, 17, 18, 19, 20, 21, 22, 23, 24, 25, 26, 27, 28, 29, 30, 31, 32, 33, 34, 35, 36, 37, 38, 39, 40, 41, 42, 43, 8, 44, 45, 46, 47, 48, 49, 50, 51, 52, 53, 54, 55, 56, 57, 58, 59, 60, 61, 62, 110, 111, 112, 113, 114, 115, 116, 117, 101, 102, 103, 104, 105, 106, 107, 108, 109] (by decide +kernel) (by decide +kernel)
set_option maxRecDepth 20000 in
theorem gX5_worth_X4_cutUp : GoodIn wsX5_worth (wsV RX5 157 RX4 yX4_cutUp wsX4_cutUp) := goodIn_app (goodIn_of _ (by decide +kernel)) ggX5_worth_X4_cutUp
set_option maxRecDepth 20000 in
theorem ggX5_worth_X4_worthOf : GoodIn wsX5_worth wsX4_worthOf := goodIn_r _ [66, 17, 67, 15, 24, 68, 25, 69, 28, 70, 30, 19, 43, 8, 44, 71, 72, 73, 74, 75, 76, 77, 78, 79, 80, 81, 13, 82, 83, 84, 85, 86, 87, 88, 89, 90, 91, 27, 110, 111, 112, 113, 114, 115, 116, 117] (by decide +kernel) (by decide +kernel)
set_option maxRecDepth 20000 in
theorem gX5_worth_X4_worthOf : GoodIn wsX5_worth (wsV RX5 161 RX4 yX4_worthOf wsX4_worthOf) := goodIn_app (goodIn_of _ (by decide +kernel)) ggX5_worth_X4_worthOf
theorem dX5_worth_0 : decode cX5_worth 0 = .ok (.iload_n 1, 1) := by decide +kernel
theorem dX5_worth_1 : decode cX5_worth 1 = .ok (.iconst 1, 1) := by decide +kernel
theorem dX5_worth_2 : decode cX5_worth 2 = .ok (.sipush 300, 3) := by decide +kernel
theorem dX5_worth_5 : decode cX5_worth 5 = .ok (.invokestatic 75, 3) := by decide +kernel
theorem dX5_worth_8 : decode cX5_worth 8 = .ok (.ifCond .eq 13, 3) := by decide +kernel
theorem dX5_worth_11 : decode cX5_worth 11 = .ok (.iload_n 2, 1) := by decide +kernel
theorem dX5_worth_12 : decode cX5_worth 12 = .ok (.iconst 0, 1) := by decide +kernel
theorem dX5_worth_13 : decode cX5_worth 13 = .ok (.bipush 63, 2) := by decide +kernel
theorem dX5_worth_15 : decode cX5_worth 15 = .ok (.invokestatic 75, 3) := by decide +kernel
theorem dX5_worth_18 : decode cX5_worth 18 = .ok (.ifCond .ne 7, 3) := by decide +kernel
theorem dX5_worth_21 : decode cX5_worth 21 = .ok (.ldc2_w 153, 3) := by decide +kernel
theorem dX5_worth_24 : decode cX5_worth 24 = .ok (.lreturn, 1) := by decide +kernel
theorem dX5_worth_25 : decode cX5_worth 25 = .ok (.aload_n 0, 1) := by decide +kernel
theorem dX5_worth_26 : decode cX5_worth 26 = .ok (.getfield 12, 3) := by decide +kernel
theorem dX5_worth_29 : decode cX5_worth 29 = .ok (.getfield 64, 3) := by decide +kernel
theorem dX5_worth_32 : decode cX5_worth 32 = .ok (.ifCond .ne 7, 3) := by decide +kernel
theorem dX5_worth_35 : decode cX5_worth 35 = .ok (.ldc2_w 155, 3) := by decide +kernel
theorem dX5_worth_38 : decode cX5_worth 38 = .ok (.lreturn, 1) := by decide +kernel
theorem dX5_worth_39 : decode cX5_worth 39 = .ok (.aload_n 0, 1) := by decide +kernel
theorem dX5_worth_40 : decode cX5_worth 40 = .ok (.getfield 29, 3) := by decide +kernel
theorem dX5_worth_43 : decode cX5_worth 43 = .ok (.aload_n 0, 1) := by decide +kernel
theorem dX5_worth_44 : decode cX5_worth 44 = .ok (.getfield 12, 3) := by decide +kernel
theorem dX5_worth_47 : decode cX5_worth 47 = .ok (.invokevirtual 157, 3) := by decide +kernel
theorem dX5_worth_50 : decode cX5_worth 50 = .ok (.aload_n 0, 1) := by decide +kernel
theorem dX5_worth_51 : decode cX5_worth 51 = .ok (.getfield 29, 3) := by decide +kernel
theorem dX5_worth_54 : decode cX5_worth 54 = .ok (.iload_n 1, 1) := by decide +kernel
theorem dX5_worth_55 : decode cX5_worth 55 = .ok (.iload_n 2, 1) := by decide +kernel
theorem dX5_worth_56 : decode cX5_worth 56 = .ok (.invokevirtual 161, 3) := by decide +kernel
theorem dX5_worth_59 : decode cX5_worth 59 = .ok (.lreturn, 1) := by decide +kernel
set_option maxRecDepth 20000 in
theorem ggX5_tone_X5_within : GoodIn wsX5_tone wsX5_within := goodIn_r _ [7] (by decide +kernel) (by decide +kernel)
set_option maxRecDepth 20000 in
theorem gX5_tone_X5_within : GoodIn wsX5_tone (va_wsS RX5 75 yX5_within wsX5_within) := goodIn_app (goodIn_of _ (by decide +kernel)) ggX5_tone_X5_within
set_option maxRecDepth 20000 in
theorem ggX5_tone_X4_cutUp : GoodIn wsX5_tone wsX4_cutUp := goodIn_r _ [12, 13, 14, 15, 16, 17, 18, 19, 20, 21, 22, 23, 24, 25, 26, 27, 28, 29, 30, 31, 32, 33, 34, 35, 36, 37, 38, 39, 40, 41, 6, 42, 43, 44, 45, 46, 47, 48, 49, 50, 51, 52, 53, 54, 55, 56, 57, 58, 59, 60, 112, 113, 114, 115, 116, 117, 118, 119, 103, 104, 105, 106, 107, 108, 109, 110, 111] (by decide +kernel) (by decide +kernel)
set_option maxRecDepth 20000 in
theorem gX5_tone_X4_cutUp : GoodIn wsX5_tone (wsV RX5 157 RX4 yX4_cutUp wsX4_cutUp) := goodIn_app (goodIn_of _ (by decide +kernel)) ggX5_tone_X4_cutUp
set_option maxRecDepth 20000 in
theorem ggX5_tone_X4_findTone : GoodIn wsX5_tone wsX4_findTone := goodIn_r _ [64, 65, 66, 67, 11, 68, 15, 69, 13, 22, 70, 23, 71, 26, 72, 28, 17, 41, 6, 42, 73, 74, 75, 76, 77, 78, 79, 80, 81, 82, 83, 84, 85, 86, 87, 88, 89, 90, 91, 92, 93, 25, 112, 113, 114, 115, 116, 117, 118, 119] (by decide +kernel) (by decide +kernel)
set_option maxRecDepth 20000 in
theorem gX5_tone_X4_findTone : GoodIn wsX5_tone (wsV RX5 165 RX4 yX4_findTone wsX4_findTone) := goodIn_app (goodIn_of _ (by decide +kernel)) ggX5_tone_X4_findTone
theorem dX5_tone_0 : decode cX5_tone 0 = .ok (.iload_n 1, 1) := by decide +kernel
theorem dX5_tone_1 : decode cX5_tone 1 = .ok (.iconst 0, 1) := by decide +kernel
theorem dX5_tone_2 : decode cX5_tone 2 = .ok (.bipush 63, 2) := by decide +kernel
theorem dX5_tone_4 : decode cX5_tone 4 = .ok (.invokestatic 75, 3) := by decide +kernel
theorem dX5_tone_7 : decode cX5_tone 7 = .ok (.ifCond .eq 8, 3) := by decide +kernel
theorem dX5_tone_10 : decode cX5_tone 10 = .ok (.iload_n 2, 1) := by decide +kernel
theorem dX5_tone_11 : decode cX5_tone 11 = .ok (.iconst (-1), 1) := by decide +kernel
theorem dX5_tone_12 : decode cX5_tone 12 = .ok (.if_icmp .ge 7, 3) := by decide +kernel
theorem dX5_tone_15 : decode cX5_tone 15 = .ok (.sipush (-1002), 3) := by decide +kernel
theorem dX5_tone_18 : decode cX5_tone 18 = .ok (.ireturn, 1) := by decide +kernel
theorem dX5_tone_19 : decode cX5_tone 19 = .ok (.aload_n 0, 1) := by decide +kernel
theorem dX5_tone_20 : decode cX5_tone 20 = .ok (.getfield 12, 3) := by decide +kernel
theorem dX5_tone_23 : decode cX5_tone 23 = .ok (.getfield 64, 3) := by decide +kernel
theorem dX5_tone_26 : decode cX5_tone 26 = .ok (.ifCond .ne 7, 3) := by decide +kernel
theorem dX5_tone_29 : decode cX5_tone 29 = .ok (.sipush (-1003), 3) := by decide +kernel
theorem dX5_tone_32 : decode cX5_tone 32 = .ok (.ireturn, 1) := by decide +kernel
theorem dX5_tone_33 : decode cX5_tone 33 = .ok (.aload_n 0, 1) := by decide +kernel
theorem dX5_tone_34 : decode cX5_tone 34 = .ok (.getfield 29, 3) := by decide +kernel
theorem dX5_tone_37 : decode cX5_tone 37 = .ok (.aload_n 0, 1) := by decide +kernel
theorem dX5_tone_38 : decode cX5_tone 38 = .ok (.getfield 12, 3) := by decide +kernel
theorem dX5_tone_41 : decode cX5_tone 41 = .ok (.invokevirtual 157, 3) := by decide +kernel
theorem dX5_tone_44 : decode cX5_tone 44 = .ok (.aload_n 0, 1) := by decide +kernel
theorem dX5_tone_45 : decode cX5_tone 45 = .ok (.getfield 29, 3) := by decide +kernel
theorem dX5_tone_48 : decode cX5_tone 48 = .ok (.iload_n 1, 1) := by decide +kernel
theorem dX5_tone_49 : decode cX5_tone 49 = .ok (.iload_n 2, 1) := by decide +kernel
theorem dX5_tone_50 : decode cX5_tone 50 = .ok (.invokevirtual 165, 3) := by decide +kernel
theorem dX5_tone_53 : decode cX5_tone 53 = .ok (.ireturn, 1) := by decide +kernel
set_option maxRecDepth 20000 in
theorem ggX5_nearest_X5_within : GoodIn wsX5_nearest wsX5_within := goodIn_r _ [8] (by decide +kernel) (by decide +kernel)
set_option maxRecDepth 20000 in
theorem gX5_nearest_X5_within : GoodIn wsX5_nearest (va_wsS RX5 75 yX5_within wsX5_within) := goodIn_app (goodIn_of _ (by decide +kernel)) ggX5_nearest_X5_within
set_option maxRecDepth 20000 in
theorem ggX5_nearest_X4_cutUp : GoodIn wsX5_nearest wsX4_cutUp := goodIn_r _ [13, 14, 15, 16, 17, 18, 19, 20, 21, 22, 23, 24, 25, 26, 27, 28, 29, 30, 31, 32, 33, 34, 35, 36, 37, 38, 39, 40, 41, 42, 7, 43, 44, 45, 46, 47, 48, 49, 50, 51, 52, 53, 54, 55, 56, 57, 58, 59, 60, 61, 119, 120, 121, 122, 123, 124, 125, 126, 110, 111, 112, 113, 114, 115, 116, 117, 118] (by decide +kernel) (by decide +kernel)
set_option maxRecDepth 20000 in
theorem gX5_nearest_X4_cutUp : GoodIn wsX5_nearest (wsV RX5 157 RX4 yX4_cutUp wsX4_cutUp) := goodIn_app (goodIn_of _ (by decide +kernel)) ggX5_nearest_X4_cutUp
set_option maxRecDepth 20000 in
theorem ggX5_nearest_X4_findTone : GoodIn wsX5_nearest wsX4_findTone := goodIn_r _ [65, 66, 67, 68, 12, 69, 16, 70, 14, 23, 71, 24, 72, 27, 73, 29, 18, 42, 7, 43, 74, 75, 76, 77, 78, 79, 80, 81, 82, 83, 84, 85, 86, 87, 88, 89, 90, 91, 92, 93, 94, 26, 119, 120, 121, 122, 123, 124, 125, 126] (by decide +kernel) (by decide +kernel)
set_option maxRecDepth 20000 in
theorem gX5_nearest_X4_findTone : GoodIn wsX5_nearest (wsV RX5 165 RX4 yX4_findTone wsX4_findTone) := goodIn_app (goodIn_of _ (by decide +kernel)) ggX5_nearest_X4_findTone
set_option maxRecDepth 20000 in
theorem ggX5_nearest_X5_missOf : GoodIn wsX5_nearest wsX5_missOf := goodIn_r _ [97, 98, 99, 21, 100] (by decide +kernel) (by decide +kernel)
set_option maxRecDepth 20000 in
theorem gX5_nearest_X5_missOf : GoodIn wsX5_nearest (va_wsS RX5 168 yX5_missOf wsX5_missOf) := goodIn_app (goodIn_of _ (by decide +kernel)) ggX5_nearest_X5_missOf
theorem dX5_nearest_0 : decode cX5_nearest 0 = .ok (.iload_n 1, 1) := by decide +kernel
theorem dX5_nearest_1 : decode cX5_nearest 1 = .ok (.iconst 1, 1) := by decide +kernel
theorem dX5_nearest_2 : decode cX5_nearest 2 = .ok (.sipush 300, 3) := by decide +kernel
theorem dX5_nearest_5 : decode cX5_nearest 5 = .ok (.invokestatic 75, 3) := by decide +kernel
theorem dX5_nearest_8 : decode cX5_nearest 8 = .ok (.ifCond .eq 12, 3) := by decide +kernel
theorem dX5_nearest_11 : decode cX5_nearest 11 = .ok (.iload_n 2, 1) := by decide +kernel
theorem dX5_nearest_12 : decode cX5_nearest 12 = .ok (.iconst 0, 1) := by decide +kernel
theorem dX5_nearest_13 : decode cX5_nearest 13 = .ok (.iconst 1, 1) := by decide +kernel
theorem dX5_nearest_14 : decode cX5_nearest 14 = .ok (.invokestatic 75, 3) := by decide +kernel
theorem dX5_nearest_17 : decode cX5_nearest 17 = .ok (.ifCond .ne 7, 3) := by decide +kernel
theorem dX5_nearest_20 : decode cX5_nearest 20 = .ok (.sipush (-1002), 3) := by decide +kernel
theorem dX5_nearest_23 : decode cX5_nearest 23 = .ok (.ireturn, 1) := by decide +kernel
theorem dX5_nearest_24 : decode cX5_nearest 24 = .ok (.aload_n 0, 1) := by decide +kernel
theorem dX5_nearest_25 : decode cX5_nearest 25 = .ok (.getfield 12, 3) := by decide +kernel
theorem dX5_nearest_28 : decode cX5_nearest 28 = .ok (.getfield 64, 3) := by decide +kernel
theorem dX5_nearest_31 : decode cX5_nearest 31 = .ok (.ifCond .ne 7, 3) := by decide +kernel
theorem dX5_nearest_34 : decode cX5_nearest 34 = .ok (.sipush (-1003), 3) := by decide +kernel
theorem dX5_nearest_37 : decode cX5_nearest 37 = .ok (.ireturn, 1) := by decide +kernel
theorem dX5_nearest_38 : decode cX5_nearest 38 = .ok (.aload_n 0, 1) := by decide +kernel
theorem dX5_nearest_39 : decode cX5_nearest 39 = .ok (.getfield 29, 3) := by decide +kernel
theorem dX5_nearest_42 : decode cX5_nearest 42 = .ok (.aload_n 0, 1) := by decide +kernel
theorem dX5_nearest_43 : decode cX5_nearest 43 = .ok (.getfield 12, 3) := by decide +kernel
theorem dX5_nearest_46 : decode cX5_nearest 46 = .ok (.invokevirtual 157, 3) := by decide +kernel
theorem dX5_nearest_49 : decode cX5_nearest 49 = .ok (.iconst (-1), 1) := by decide +kernel
theorem dX5_nearest_50 : decode cX5_nearest 50 = .ok (.istore_n 3, 1) := by decide +kernel
theorem dX5_nearest_51 : decode cX5_nearest 51 = .ok (.iconst (-1), 1) := by decide +kernel
theorem dX5_nearest_52 : decode cX5_nearest 52 = .ok (.istore 4, 2) := by decide +kernel
theorem dX5_nearest_54 : decode cX5_nearest 54 = .ok (.iconst 0, 1) := by decide +kernel
theorem dX5_nearest_55 : decode cX5_nearest 55 = .ok (.istore 5, 2) := by decide +kernel
theorem dX5_nearest_57 : decode cX5_nearest 57 = .ok (.iload 5, 2) := by decide +kernel
theorem dX5_nearest_59 : decode cX5_nearest 59 = .ok (.iconst 1, 1) := by decide +kernel
theorem dX5_nearest_60 : decode cX5_nearest 60 = .ok (.aload_n 0, 1) := by decide +kernel
theorem dX5_nearest_61 : decode cX5_nearest 61 = .ok (.getfield 12, 3) := by decide +kernel
theorem dX5_nearest_64 : decode cX5_nearest 64 = .ok (.getfield 90, 3) := by decide +kernel
theorem dX5_nearest_67 : decode cX5_nearest 67 = .ok (.ishl, 1) := by decide +kernel
theorem dX5_nearest_68 : decode cX5_nearest 68 = .ok (.if_icmp .ge 43, 3) := by decide +kernel
theorem dX5_nearest_71 : decode cX5_nearest 71 = .ok (.aload_n 0, 1) := by decide +kernel
theorem dX5_nearest_72 : decode cX5_nearest 72 = .ok (.getfield 29, 3) := by decide +kernel
theorem dX5_nearest_75 : decode cX5_nearest 75 = .ok (.iload 5, 2) := by decide +kernel
theorem dX5_nearest_77 : decode cX5_nearest 77 = .ok (.iconst 0, 1) := by decide +kernel
theorem dX5_nearest_78 : decode cX5_nearest 78 = .ok (.invokevirtual 165, 3) := by decide +kernel
theorem dX5_nearest_81 : decode cX5_nearest 81 = .ok (.istore 6, 2) := by decide +kernel
theorem dX5_nearest_83 : decode cX5_nearest 83 = .ok (.iload 6, 2) := by decide +kernel
theorem dX5_nearest_85 : decode cX5_nearest 85 = .ok (.iload_n 1, 1) := by decide +kernel
theorem dX5_nearest_86 : decode cX5_nearest 86 = .ok (.invokestatic 168, 3) := by decide +kernel
theorem dX5_nearest_89 : decode cX5_nearest 89 = .ok (.iload 4, 2) := by decide +kernel
theorem dX5_nearest_91 : decode cX5_nearest 91 = .ok (.iload_n 1, 1) := by decide +kernel
theorem dX5_nearest_92 : decode cX5_nearest 92 = .ok (.invokestatic 168, 3) := by decide +kernel
theorem dX5_nearest_95 : decode cX5_nearest 95 = .ok (.if_icmp .ge 10, 3) := by decide +kernel
theorem dX5_nearest_98 : decode cX5_nearest 98 = .ok (.iload 5, 2) := by decide +kernel
theorem dX5_nearest_100 : decode cX5_nearest 100 = .ok (.istore_n 3, 1) := by decide +kernel
theorem dX5_nearest_101 : decode cX5_nearest 101 = .ok (.iload 6, 2) := by decide +kernel
theorem dX5_nearest_103 : decode cX5_nearest 103 = .ok (.istore 4, 2) := by decide +kernel
theorem dX5_nearest_105 : decode cX5_nearest 105 = .ok (.iinc 5 1, 3) := by decide +kernel
theorem dX5_nearest_108 : decode cX5_nearest 108 = .ok (.goto (-51), 3) := by decide +kernel
theorem dX5_nearest_111 : decode cX5_nearest 111 = .ok (.iload_n 2, 1) := by decide +kernel
theorem dX5_nearest_112 : decode cX5_nearest 112 = .ok (.ifCond .ne 7, 3) := by decide +kernel
theorem dX5_nearest_115 : decode cX5_nearest 115 = .ok (.iload_n 3, 1) := by decide +kernel
theorem dX5_nearest_116 : decode cX5_nearest 116 = .ok (.goto 5, 3) := by decide +kernel
theorem dX5_nearest_119 : decode cX5_nearest 119 = .ok (.iload 4, 2) := by decide +kernel
theorem dX5_nearest_121 : decode cX5_nearest 121 = .ok (.ireturn, 1) := by decide +kernel
set_option maxRecDepth 20000 in
theorem ggX5_note_X5_within : GoodIn wsX5_note wsX5_within := goodIn_r _ [6] (by decide +kernel) (by decide +kernel)
set_option maxRecDepth 20000 in
theorem gX5_note_X5_within : GoodIn wsX5_note (va_wsS RX5 75 yX5_within wsX5_within) := goodIn_app (goodIn_of _ (by decide +kernel)) ggX5_note_X5_within
set_option maxRecDepth 20000 in
theorem ggX5_note_X1_add : GoodIn wsX5_note wsX1_add := goodIn_r _ [11, 12, 13, 14, 15, 16, 5, 17, 27, 28, 29, 30] (by decide +kernel) (by decide +kernel)
set_option maxRecDepth 20000 in
theorem gX5_note_X1_add : GoodIn wsX5_note (wsV RX5 171 RX1 yX1_add wsX1_add) := goodIn_app (goodIn_of _ (by decide +kernel)) ggX5_note_X1_add
theorem dX5_note_0 : decode cX5_note 0 = .ok (.iload_n 1, 1) := by decide +kernel
theorem dX5_note_1 : decode cX5_note 1 = .ok (.iconst 0, 1) := by decide +kernel
theorem dX5_note_2 : decode cX5_note 2 = .ok (.bipush 63, 2) := by decide +kernel
theorem dX5_note_4 : decode cX5_note 4 = .ok (.invokestatic 75, 3) := by decide +kernel
theorem dX5_note_7 : decode cX5_note 7 = .ok (.ifCond .eq 23, 3) := by decide +kernel
theorem dX5_note_10 : decode cX5_note 10 = .ok (.iload_n 2, 1) := by decide +kernel
theorem dX5_note_11 : decode cX5_note 11 = .ok (.iconst 0, 1) := by decide +kernel
theorem dX5_note_12 : decode cX5_note 12 = .ok (.iconst 5, 1) := by decide +kernel
theorem dX5_note_13 : decode cX5_note 13 = .ok (.invokestatic 75, 3) := by decide +kernel
theorem dX5_note_16 : decode cX5_note 16 = .ok (.ifCond .eq 14, 3) := by decide +kernel
theorem dX5_note_19 : decode cX5_note 19 = .ok (.iload_n 3, 1) := by decide +kernel
theorem dX5_note_20 : decode cX5_note 20 = .ok (.iconst 1, 1) := by decide +kernel
theorem dX5_note_21 : decode cX5_note 21 = .ok (.sipush 300, 3) := by decide +kernel
theorem dX5_note_24 : decode cX5_note 24 = .ok (.invokestatic 75, 3) := by decide +kernel
theorem dX5_note_27 : decode cX5_note 27 = .ok (.ifCond .ne 7, 3) := by decide +kernel
theorem dX5_note_30 : decode cX5_note 30 = .ok (.sipush (-1002), 3) := by decide +kernel
theorem dX5_note_33 : decode cX5_note 33 = .ok (.ireturn, 1) := by decide +kernel
theorem dX5_note_34 : decode cX5_note 34 = .ok (.aload_n 0, 1) := by decide +kernel
theorem dX5_note_35 : decode cX5_note 35 = .ok (.getfield 36, 3) := by decide +kernel
theorem dX5_note_38 : decode cX5_note 38 = .ok (.getfield 121, 3) := by decide +kernel
theorem dX5_note_41 : decode cX5_note 41 = .ok (.bipush 6, 2) := by decide +kernel
theorem dX5_note_43 : decode cX5_note 43 = .ok (.if_icmp .lt 7, 3) := by decide +kernel
theorem dX5_note_46 : decode cX5_note 46 = .ok (.sipush (-1004), 3) := by decide +kernel
theorem dX5_note_49 : decode cX5_note 49 = .ok (.ireturn, 1) := by decide +kernel
theorem dX5_note_50 : decode cX5_note 50 = .ok (.aload_n 0, 1) := by decide +kernel
theorem dX5_note_51 : decode cX5_note 51 = .ok (.getfield 36, 3) := by decide +kernel
theorem dX5_note_54 : decode cX5_note 54 = .ok (.iload_n 1, 1) := by decide +kernel
theorem dX5_note_55 : decode cX5_note 55 = .ok (.iload_n 2, 1) := by decide +kernel
theorem dX5_note_56 : decode cX5_note 56 = .ok (.iload_n 3, 1) := by decide +kernel
theorem dX5_note_57 : decode cX5_note 57 = .ok (.invokevirtual 171, 3) := by decide +kernel
theorem dX5_note_60 : decode cX5_note 60 = .ok (.aload_n 0, 1) := by decide +kernel
theorem dX5_note_61 : decode cX5_note 61 = .ok (.getfield 36, 3) := by decide +kernel
theorem dX5_note_64 : decode cX5_note 64 = .ok (.getfield 121, 3) := by decide +kernel
theorem dX5_note_67 : decode cX5_note 67 = .ok (.iconst 1, 1) := by decide +kernel
theorem dX5_note_68 : decode cX5_note 68 = .ok (.isub, 1) := by decide +kernel
theorem dX5_note_69 : decode cX5_note 69 = .ok (.ireturn, 1) := by decide +kernel
set_option maxRecDepth 20000 in
theorem ggX5_noted_X5_within : GoodIn wsX5_noted wsX5_within := goodIn_r _ [9] (by decide +kernel) (by decide +kernel)
set_option maxRecDepth 20000 in
theorem gX5_noted_X5_within : GoodIn wsX5_noted (va_wsS RX5 75 yX5_within wsX5_within) := goodIn_app (goodIn_of _ (by decide +kernel)) ggX5_noted_X5_within
set_option maxRecDepth 20000 in
theorem ggX5_noted_X5_at : GoodIn wsX5_noted wsX5_at := goodIn_r _ [12] (by decide +kernel) (by decide +kernel)
set_option maxRecDepth 20000 in
theorem gX5_noted_X5_at : GoodIn wsX5_noted (va_wsS RX5 101 yX5_at wsX5_at) := goodIn_app (goodIn_of _ (by decide +kernel)) ggX5_noted_X5_at
set_option maxRecDepth 20000 in
theorem ggX5_noted_X5_toneNow : GoodIn wsX5_noted wsX5_toneNow := goodIn_r _ [16, 17, 18, 1, 3, 4, 19, 20, 21, 22, 23, 24, 25, 26, 27, 28, 29, 30, 31, 32, 33, 34, 35, 36, 37, 38, 39, 40, 41, 42, 43, 44, 45, 46, 47, 48, 49, 50, 51, 11, 8, 12, 52, 53, 54, 55, 56, 57, 58, 59, 60, 61, 62, 63, 64, 65, 66, 67, 68, 69, 10, 70, 71, 72, 73, 74, 75, 76, 77, 78, 79, 80, 81, 82, 83, 84, 85, 86, 87, 88, 89, 90, 91, 92, 93, 94, 95, 96, 97, 98, 99, 100, 101, 102, 109, 110, 111, 112, 113, 114, 115, 116, 117, 118, 119, 120, 121, 122, 123, 124, 125, 126, 127, 128, 129, 130, 131, 132, 133, 134, 135, 136, 137, 138] (by decide +kernel) (by decide +kernel)
set_option maxRecDepth 20000 in
theorem gX5_noted_X5_toneNow : GoodIn wsX5_noted (wsV RX5 183 RX5 yX5_toneNow wsX5_toneNow) := goodIn_app (goodIn_of _ (by decide +kernel)) ggX5_noted_X5_toneNow
set_option maxRecDepth 20000 in
theorem ggX5_noted_X5_missOf : GoodIn wsX5_noted wsX5_missOf := goodIn_r _ [105, 106, 107, 31, 108] (by decide +kernel) (by decide +kernel)
set_option maxRecDepth 20000 in
theorem gX5_noted_X5_missOf : GoodIn wsX5_noted (va_wsS RX5 168 yX5_missOf wsX5_missOf) := goodIn_app (goodIn_of _ (by decide +kernel)) ggX5_noted_X5_missOf
theorem dX5_noted_0 : decode cX5_noted 0 = .ok (.iload_n 1, 1) := by decide +kernel
theorem dX5_noted_1 : decode cX5_noted 1 = .ok (.iconst 0, 1) := by decide +kernel
theorem dX5_noted_2 : decode cX5_noted 2 = .ok (.aload_n 0, 1) := by decide +kernel
theorem dX5_noted_3 : decode cX5_noted 3 = .ok (.getfield 36, 3) := by decide +kernel
theorem dX5_noted_6 : decode cX5_noted 6 = .ok (.getfield 121, 3) := by decide +kernel
theorem dX5_noted_9 : decode cX5_noted 9 = .ok (.iconst 1, 1) := by decide +kernel
theorem dX5_noted_10 : decode cX5_noted 10 = .ok (.isub, 1) := by decide +kernel
theorem dX5_noted_11 : decode cX5_noted 11 = .ok (.invokestatic 75, 3) := by decide +kernel
theorem dX5_noted_14 : decode cX5_noted 14 = .ok (.ifCond .ne 7, 3) := by decide +kernel
theorem dX5_noted_17 : decode cX5_noted 17 = .ok (.sipush (-1001), 3) := by decide +kernel
theorem dX5_noted_20 : decode cX5_noted 20 = .ok (.ireturn, 1) := by decide +kernel
theorem dX5_noted_21 : decode cX5_noted 21 = .ok (.iload_n 2, 1) := by decide +kernel
theorem dX5_noted_22 : decode cX5_noted 22 = .ok (.tableswitch 96 0 4 #[34, 46, 58, 70, 76], 34) := by decide +kernel
theorem dX5_noted_56 : decode cX5_noted 56 = .ok (.aload_n 0, 1) := by decide +kernel
theorem dX5_noted_57 : decode cX5_noted 57 = .ok (.getfield 36, 3) := by decide +kernel
theorem dX5_noted_60 : decode cX5_noted 60 = .ok (.getfield 174, 3) := by decide +kernel
theorem dX5_noted_63 : decode cX5_noted 63 = .ok (.iload_n 1, 1) := by decide +kernel
theorem dX5_noted_64 : decode cX5_noted 64 = .ok (.invokestatic 101, 3) := by decide +kernel
theorem dX5_noted_67 : decode cX5_noted 67 = .ok (.ireturn, 1) := by decide +kernel
theorem dX5_noted_68 : decode cX5_noted 68 = .ok (.aload_n 0, 1) := by decide +kernel
theorem dX5_noted_69 : decode cX5_noted 69 = .ok (.getfield 36, 3) := by decide +kernel
theorem dX5_noted_72 : decode cX5_noted 72 = .ok (.getfield 177, 3) := by decide +kernel
theorem dX5_noted_75 : decode cX5_noted 75 = .ok (.iload_n 1, 1) := by decide +kernel
theorem dX5_noted_76 : decode cX5_noted 76 = .ok (.invokestatic 101, 3) := by decide +kernel
theorem dX5_noted_79 : decode cX5_noted 79 = .ok (.ireturn, 1) := by decide +kernel
theorem dX5_noted_80 : decode cX5_noted 80 = .ok (.aload_n 0, 1) := by decide +kernel
theorem dX5_noted_81 : decode cX5_noted 81 = .ok (.getfield 36, 3) := by decide +kernel
theorem dX5_noted_84 : decode cX5_noted 84 = .ok (.getfield 180, 3) := by decide +kernel
theorem dX5_noted_87 : decode cX5_noted 87 = .ok (.iload_n 1, 1) := by decide +kernel
theorem dX5_noted_88 : decode cX5_noted 88 = .ok (.invokestatic 101, 3) := by decide +kernel
theorem dX5_noted_91 : decode cX5_noted 91 = .ok (.ireturn, 1) := by decide +kernel
theorem dX5_noted_92 : decode cX5_noted 92 = .ok (.aload_n 0, 1) := by decide +kernel
theorem dX5_noted_93 : decode cX5_noted 93 = .ok (.iload_n 1, 1) := by decide +kernel
theorem dX5_noted_94 : decode cX5_noted 94 = .ok (.invokevirtual 183, 3) := by decide +kernel
theorem dX5_noted_97 : decode cX5_noted 97 = .ok (.ireturn, 1) := by decide +kernel
theorem dX5_noted_98 : decode cX5_noted 98 = .ok (.aload_n 0, 1) := by decide +kernel
theorem dX5_noted_99 : decode cX5_noted 99 = .ok (.iload_n 1, 1) := by decide +kernel
theorem dX5_noted_100 : decode cX5_noted 100 = .ok (.invokevirtual 183, 3) := by decide +kernel
theorem dX5_noted_103 : decode cX5_noted 103 = .ok (.aload_n 0, 1) := by decide +kernel
theorem dX5_noted_104 : decode cX5_noted 104 = .ok (.getfield 36, 3) := by decide +kernel
theorem dX5_noted_107 : decode cX5_noted 107 = .ok (.getfield 180, 3) := by decide +kernel
theorem dX5_noted_110 : decode cX5_noted 110 = .ok (.iload_n 1, 1) := by decide +kernel
theorem dX5_noted_111 : decode cX5_noted 111 = .ok (.invokestatic 101, 3) := by decide +kernel
theorem dX5_noted_114 : decode cX5_noted 114 = .ok (.invokestatic 168, 3) := by decide +kernel
theorem dX5_noted_117 : decode cX5_noted 117 = .ok (.ireturn, 1) := by decide +kernel
theorem dX5_noted_118 : decode cX5_noted 118 = .ok (.sipush (-1002), 3) := by decide +kernel
theorem dX5_noted_121 : decode cX5_noted 121 = .ok (.ireturn, 1) := by decide +kernel
set_option maxRecDepth 20000 in
theorem ggX5_drill_X5_within : GoodIn wsX5_drill wsX5_within := goodIn_r _ [6] (by decide +kernel) (by decide +kernel)
set_option maxRecDepth 20000 in
theorem gX5_drill_X5_within : GoodIn wsX5_drill (va_wsS RX5 75 yX5_within wsX5_within) := goodIn_app (goodIn_of _ (by decide +kernel)) ggX5_drill_X5_within
set_option maxRecDepth 20000 in
theorem ggX5_drill_J13_bitCount_95d88 : GoodIn wsX5_drill wsJ13_bitCount_95d88 := goodIn_r _ [10, 11, 12, 13] (by decide +kernel) (by decide +kernel)
set_option maxRecDepth 20000 in
theorem gX5_drill_J13_bitCount_95d88 : GoodIn wsX5_drill (va_wsS RX5 136 yJ13_bitCount_95d88 wsJ13_bitCount_95d88) := goodIn_app (goodIn_of _ (by decide +kernel)) ggX5_drill_J13_bitCount_95d88
theorem dX5_drill_0 : decode cX5_drill 0 = .ok (.iload_n 1, 1) := by decide +kernel
theorem dX5_drill_1 : decode cX5_drill 1 = .ok (.iconst 1, 1) := by decide +kernel
theorem dX5_drill_2 : decode cX5_drill 2 = .ok (.bipush 60, 2) := by decide +kernel
theorem dX5_drill_4 : decode cX5_drill 4 = .ok (.invokestatic 75, 3) := by decide +kernel
theorem dX5_drill_7 : decode cX5_drill 7 = .ok (.ifCond .ne 7, 3) := by decide +kernel
theorem dX5_drill_10 : decode cX5_drill 10 = .ok (.sipush (-1002), 3) := by decide +kernel
theorem dX5_drill_13 : decode cX5_drill 13 = .ok (.ireturn, 1) := by decide +kernel
theorem dX5_drill_14 : decode cX5_drill 14 = .ok (.lconst 1, 1) := by decide +kernel
theorem dX5_drill_15 : decode cX5_drill 15 = .ok (.iload_n 1, 1) := by decide +kernel
theorem dX5_drill_16 : decode cX5_drill 16 = .ok (.lshl, 1) := by decide +kernel
theorem dX5_drill_17 : decode cX5_drill 17 = .ok (.lstore_n 3, 1) := by decide +kernel
theorem dX5_drill_18 : decode cX5_drill 18 = .ok (.aload_n 0, 1) := by decide +kernel
theorem dX5_drill_19 : decode cX5_drill 19 = .ok (.iload_n 2, 1) := by decide +kernel
theorem dX5_drill_20 : decode cX5_drill 20 = .ok (.ifCond .eq 12, 3) := by decide +kernel
theorem dX5_drill_23 : decode cX5_drill 23 = .ok (.aload_n 0, 1) := by decide +kernel
theorem dX5_drill_24 : decode cX5_drill 24 = .ok (.getfield 49, 3) := by decide +kernel
theorem dX5_drill_27 : decode cX5_drill 27 = .ok (.lload_n 3, 1) := by decide +kernel
theorem dX5_drill_28 : decode cX5_drill 28 = .ok (.lor, 1) := by decide +kernel
theorem dX5_drill_29 : decode cX5_drill 29 = .ok (.goto 13, 3) := by decide +kernel
theorem dX5_drill_32 : decode cX5_drill 32 = .ok (.aload_n 0, 1) := by decide +kernel
theorem dX5_drill_33 : decode cX5_drill 33 = .ok (.getfield 49, 3) := by decide +kernel
theorem dX5_drill_36 : decode cX5_drill 36 = .ok (.lload_n 3, 1) := by decide +kernel
theorem dX5_drill_37 : decode cX5_drill 37 = .ok (.ldc2_w 186, 3) := by decide +kernel
theorem dX5_drill_40 : decode cX5_drill 40 = .ok (.lxor, 1) := by decide +kernel
theorem dX5_drill_41 : decode cX5_drill 41 = .ok (.land, 1) := by decide +kernel
theorem dX5_drill_42 : decode cX5_drill 42 = .ok (.putfield 49, 3) := by decide +kernel
theorem dX5_drill_45 : decode cX5_drill 45 = .ok (.aload_n 0, 1) := by decide +kernel
theorem dX5_drill_46 : decode cX5_drill 46 = .ok (.getfield 49, 3) := by decide +kernel
theorem dX5_drill_49 : decode cX5_drill 49 = .ok (.invokestatic 136, 3) := by decide +kernel
theorem dX5_drill_52 : decode cX5_drill 52 = .ok (.ireturn, 1) := by decide +kernel
set_option maxRecDepth 20000 in
theorem ggX5_reach_X5_within : GoodIn wsX5_reach wsX5_within := goodIn_r _ [5] (by decide +kernel) (by decide +kernel)
set_option maxRecDepth 20000 in
theorem gX5_reach_X5_within : GoodIn wsX5_reach (va_wsS RX5 75 yX5_within wsX5_within) := goodIn_app (goodIn_of _ (by decide +kernel)) ggX5_reach_X5_within
theorem dX5_reach_0 : decode cX5_reach 0 = .ok (.iload_n 1, 1) := by decide +kernel
theorem dX5_reach_1 : decode cX5_reach 1 = .ok (.iconst 1, 1) := by decide +kernel
theorem dX5_reach_2 : decode cX5_reach 2 = .ok (.bipush 100, 2) := by decide +kernel
theorem dX5_reach_4 : decode cX5_reach 4 = .ok (.invokestatic 75, 3) := by decide +kernel
theorem dX5_reach_7 : decode cX5_reach 7 = .ok (.ifCond .ne 7, 3) := by decide +kernel
theorem dX5_reach_10 : decode cX5_reach 10 = .ok (.sipush (-1002), 3) := by decide +kernel
theorem dX5_reach_13 : decode cX5_reach 13 = .ok (.ireturn, 1) := by decide +kernel
theorem dX5_reach_14 : decode cX5_reach 14 = .ok (.aload_n 0, 1) := by decide +kernel
theorem dX5_reach_15 : decode cX5_reach 15 = .ok (.getfield 53, 3) := by decide +kernel
theorem dX5_reach_18 : decode cX5_reach 18 = .ok (.istore_n 2, 1) := by decide +kernel
theorem dX5_reach_19 : decode cX5_reach 19 = .ok (.aload_n 0, 1) := by decide +kernel
theorem dX5_reach_20 : decode cX5_reach 20 = .ok (.iload_n 1, 1) := by decide +kernel
theorem dX5_reach_21 : decode cX5_reach 21 = .ok (.putfield 53, 3) := by decide +kernel
theorem dX5_reach_24 : decode cX5_reach 24 = .ok (.iload_n 2, 1) := by decide +kernel
theorem dX5_reach_25 : decode cX5_reach 25 = .ok (.ireturn, 1) := by decide +kernel
set_option maxRecDepth 20000 in
theorem ggX5_round_X5_rank : GoodIn wsX5_round wsX5_rank := goodIn_r _ [16, 17, 1, 4, 5, 18, 19, 20, 21, 22, 23, 24, 25, 26, 27, 28, 29, 30, 31, 32, 33, 34, 35, 36, 37, 38, 39, 40, 41, 42, 43, 44, 45, 46, 47, 48, 49, 50, 51, 52, 53, 54, 55, 15, 56, 57, 58, 59, 60, 61, 62, 63, 64, 65, 66, 67, 68, 69, 70, 71, 72, 73, 74, 75, 76, 77, 78, 79, 80, 81, 82, 83, 84, 85, 86, 87, 88, 89, 90, 91, 92, 93, 94, 95, 96, 97, 98, 99, 100, 101, 102, 103, 104, 105, 106, 107, 108, 109, 110, 111, 112, 113, 114, 172, 173, 174, 175, 176, 177, 178, 179, 180, 190, 191, 192, 193, 198, 199, 200, 201, 202, 203, 204, 205, 181, 182, 183, 184, 185, 186, 187, 188, 189] (by decide +kernel) (by decide +kernel)
set_option maxRecDepth 20000 in
theorem gX5_round_X5_rank : GoodIn wsX5_round (wsV RX5 145 RX5 yX5_rank wsX5_rank) := goodIn_app (goodIn_of _ (by decide +kernel)) ggX5_round_X5_rank
set_option maxRecDepth 20000 in
theorem ggX5_round_X0_none : GoodIn wsX5_round wsX0_none := goodIn_r _ [119, 120, 121, 194, 195, 196, 197] (by decide +kernel) (by decide +kernel)
set_option maxRecDepth 20000 in
theorem gX5_round_X0_none : GoodIn wsX5_round (wsV RX5 188 RX0 yX0_none wsX0_none) := goodIn_app (goodIn_of _ (by decide +kernel)) ggX5_round_X0_none
set_option maxRecDepth 20000 in
theorem ggX5_round_X5_placeMoved : GoodIn wsX5_round wsX5_placeMoved := goodIn_r _ [125, 1, 126, 127, 75, 55, 15, 56, 128, 129, 130, 131, 132, 45, 46, 47, 48, 49, 50, 51, 52, 53, 54, 133, 134, 135, 136, 70, 71, 72, 66, 67, 137, 138, 139, 140, 172, 173, 174, 175, 176, 177, 178, 179, 180, 181, 182, 183, 184, 185, 186, 187, 188, 189] (by decide +kernel) (by decide +kernel)
set_option maxRecDepth 20000 in
theorem gX5_round_X5_placeMoved : GoodIn wsX5_round (wsV RX5 192 RX5 yX5_placeMoved wsX5_placeMoved) := goodIn_app (goodIn_of _ (by decide +kernel)) ggX5_round_X5_placeMoved
set_option maxRecDepth 20000 in
theorem ggX5_round_X5_tryMove : GoodIn wsX5_round wsX5_tryMove := goodIn_r _ [144, 1, 6, 145, 146, 147, 148, 47, 149, 150, 151, 152, 153, 67, 154, 155, 55, 15, 56, 156, 157, 158, 159, 73, 74, 12, 13, 14, 16, 17, 4, 5, 18, 19, 20, 21, 22, 23, 24, 25, 26, 27, 28, 29, 30, 31, 32, 33, 34, 35, 36, 37, 38, 39, 40, 41, 42, 43, 44, 45, 46, 48, 49, 50, 51, 52, 53, 54, 57, 58, 59, 60, 61, 62, 63, 64, 65, 66, 68, 69, 70, 71, 72, 75, 76, 77, 78, 79, 80, 81, 82, 83, 84, 85, 86, 87, 88, 89, 90, 91, 92, 93, 94, 95, 96, 97, 98, 99, 100, 101, 102, 103, 104, 105, 106, 107, 108, 109, 110, 111, 112, 113, 114, 160, 161, 162, 118, 163, 120, 121, 164, 165, 172, 173, 174, 175, 176, 177, 178, 179, 180, 194, 195, 196, 197, 181, 182, 183, 184, 185, 186, 187, 188, 189, 190, 191, 192, 193, 198, 199, 200, 201, 202, 203, 204, 205] (by decide +kernel) (by decide +kernel)
set_option maxRecDepth 20000 in
theorem gX5_round_X5_tryMove : GoodIn wsX5_round (wsV RX5 195 RX5 yX5_tryMove wsX5_tryMove) := goodIn_app (goodIn_of _ (by decide +kernel)) ggX5_round_X5_tryMove
set_option maxRecDepth 20000 in
theorem ggX5_round_X5_nextSize : GoodIn wsX5_round wsX5_nextSize := goodIn_r _ [169, 1, 170, 171, 75, 55, 15, 56, 133, 134, 135, 172, 173, 174, 175, 176, 177, 178, 179, 180, 181, 182, 183, 184, 185, 186, 187, 188, 189] (by decide +kernel) (by decide +kernel)
set_option maxRecDepth 20000 in
theorem gX5_round_X5_nextSize : GoodIn wsX5_round (wsV RX5 198 RX5 yX5_nextSize wsX5_nextSize) := goodIn_app (goodIn_of _ (by decide +kernel)) ggX5_round_X5_nextSize
set_option maxRecDepth 20000 in
theorem ggX5_round_X2_changeHole : GoodIn wsX5_round wsX2_changeHole := goodIn_r _ [159, 150, 151, 152, 47, 153, 67, 154, 155, 73, 15, 74, 181, 182, 183, 184, 185, 186, 187, 188, 189] (by decide +kernel) (by decide +kernel)
set_option maxRecDepth 20000 in
theorem gX5_round_X2_changeHole : GoodIn wsX5_round (wsV RX5 109 RX2 yX2_changeHole wsX2_changeHole) := goodIn_app (goodIn_of _ (by decide +kernel)) ggX5_round_X2_changeHole
theorem dX5_round_0 : decode cX5_round 0 = .ok (.aload_n 0, 1) := by decide +kernel
theorem dX5_round_1 : decode cX5_round 1 = .ok (.getfield 12, 3) := by decide +kernel
theorem dX5_round_4 : decode cX5_round 4 = .ok (.getfield 64, 3) := by decide +kernel
theorem dX5_round_7 : decode cX5_round 7 = .ok (.ifCond .eq 23, 3) := by decide +kernel
theorem dX5_round_10 : decode cX5_round 10 = .ok (.aload_n 0, 1) := by decide +kernel
theorem dX5_round_11 : decode cX5_round 11 = .ok (.getfield 12, 3) := by decide +kernel
theorem dX5_round_14 : decode cX5_round 14 = .ok (.getfield 90, 3) := by decide +kernel
theorem dX5_round_17 : decode cX5_round 17 = .ok (.ifCond .eq 13, 3) := by decide +kernel
theorem dX5_round_20 : decode cX5_round 20 = .ok (.aload_n 0, 1) := by decide +kernel
theorem dX5_round_21 : decode cX5_round 21 = .ok (.getfield 36, 3) := by decide +kernel
theorem dX5_round_24 : decode cX5_round 24 = .ok (.getfield 121, 3) := by decide +kernel
theorem dX5_round_27 : decode cX5_round 27 = .ok (.ifCond .ne 7, 3) := by decide +kernel
theorem dX5_round_30 : decode cX5_round 30 = .ok (.sipush (-1003), 3) := by decide +kernel
theorem dX5_round_33 : decode cX5_round 33 = .ok (.ireturn, 1) := by decide +kernel
theorem dX5_round_34 : decode cX5_round 34 = .ok (.aload_n 0, 1) := by decide +kernel
theorem dX5_round_35 : decode cX5_round 35 = .ok (.getfield 43, 3) := by decide +kernel
theorem dX5_round_38 : decode cX5_round 38 = .ok (.aload_n 0, 1) := by decide +kernel
theorem dX5_round_39 : decode cX5_round 39 = .ok (.ldc 144, 2) := by decide +kernel
theorem dX5_round_41 : decode cX5_round 41 = .ok (.invokevirtual 145, 3) := by decide +kernel
theorem dX5_round_44 : decode cX5_round 44 = .ok (.invokevirtual 188, 3) := by decide +kernel
theorem dX5_round_47 : decode cX5_round 47 = .ok (.iconst 0, 1) := by decide +kernel
theorem dX5_round_48 : decode cX5_round 48 = .ok (.istore_n 1, 1) := by decide +kernel
theorem dX5_round_49 : decode cX5_round 49 = .ok (.iload_n 1, 1) := by decide +kernel
theorem dX5_round_50 : decode cX5_round 50 = .ok (.aload_n 0, 1) := by decide +kernel
theorem dX5_round_51 : decode cX5_round 51 = .ok (.getfield 12, 3) := by decide +kernel
theorem dX5_round_54 : decode cX5_round 54 = .ok (.getfield 90, 3) := by decide +kernel
theorem dX5_round_57 : decode cX5_round 57 = .ok (.if_icmp .ge 57, 3) := by decide +kernel
theorem dX5_round_60 : decode cX5_round 60 = .ok (.aload_n 0, 1) := by decide +kernel
theorem dX5_round_61 : decode cX5_round 61 = .ok (.iload_n 1, 1) := by decide +kernel
theorem dX5_round_62 : decode cX5_round 62 = .ok (.iconst 0, 1) := by decide +kernel
theorem dX5_round_63 : decode cX5_round 63 = .ok (.aload_n 0, 1) := by decide +kernel
theorem dX5_round_64 : decode cX5_round 64 = .ok (.iload_n 1, 1) := by decide +kernel
theorem dX5_round_65 : decode cX5_round 65 = .ok (.iconst 1, 1) := by decide +kernel
theorem dX5_round_66 : decode cX5_round 66 = .ok (.invokevirtual 192, 3) := by decide +kernel
theorem dX5_round_69 : decode cX5_round 69 = .ok (.invokevirtual 195, 3) := by decide +kernel
theorem dX5_round_72 : decode cX5_round 72 = .ok (.aload_n 0, 1) := by decide +kernel
theorem dX5_round_73 : decode cX5_round 73 = .ok (.iload_n 1, 1) := by decide +kernel
theorem dX5_round_74 : decode cX5_round 74 = .ok (.iconst 0, 1) := by decide +kernel
theorem dX5_round_75 : decode cX5_round 75 = .ok (.aload_n 0, 1) := by decide +kernel
theorem dX5_round_76 : decode cX5_round 76 = .ok (.iload_n 1, 1) := by decide +kernel
theorem dX5_round_77 : decode cX5_round 77 = .ok (.iconst (-1), 1) := by decide +kernel
theorem dX5_round_78 : decode cX5_round 78 = .ok (.invokevirtual 192, 3) := by decide +kernel
theorem dX5_round_81 : decode cX5_round 81 = .ok (.invokevirtual 195, 3) := by decide +kernel
theorem dX5_round_84 : decode cX5_round 84 = .ok (.aload_n 0, 1) := by decide +kernel
theorem dX5_round_85 : decode cX5_round 85 = .ok (.iload_n 1, 1) := by decide +kernel
theorem dX5_round_86 : decode cX5_round 86 = .ok (.iconst 1, 1) := by decide +kernel
theorem dX5_round_87 : decode cX5_round 87 = .ok (.aload_n 0, 1) := by decide +kernel
theorem dX5_round_88 : decode cX5_round 88 = .ok (.iload_n 1, 1) := by decide +kernel
theorem dX5_round_89 : decode cX5_round 89 = .ok (.iconst 1, 1) := by decide +kernel
theorem dX5_round_90 : decode cX5_round 90 = .ok (.invokevirtual 198, 3) := by decide +kernel
theorem dX5_round_93 : decode cX5_round 93 = .ok (.invokevirtual 195, 3) := by decide +kernel
theorem dX5_round_96 : decode cX5_round 96 = .ok (.aload_n 0, 1) := by decide +kernel
theorem dX5_round_97 : decode cX5_round 97 = .ok (.iload_n 1, 1) := by decide +kernel
theorem dX5_round_98 : decode cX5_round 98 = .ok (.iconst 1, 1) := by decide +kernel
theorem dX5_round_99 : decode cX5_round 99 = .ok (.aload_n 0, 1) := by decide +kernel
theorem dX5_round_100 : decode cX5_round 100 = .ok (.iload_n 1, 1) := by decide +kernel
theorem dX5_round_101 : decode cX5_round 101 = .ok (.iconst (-1), 1) := by decide +kernel
theorem dX5_round_102 : decode cX5_round 102 = .ok (.invokevirtual 198, 3) := by decide +kernel
theorem dX5_round_105 : decode cX5_round 105 = .ok (.invokevirtual 195, 3) := by decide +kernel
theorem dX5_round_108 : decode cX5_round 108 = .ok (.iinc 1 1, 3) := by decide +kernel
theorem dX5_round_111 : decode cX5_round 111 = .ok (.goto (-62), 3) := by decide +kernel
theorem dX5_round_114 : decode cX5_round 114 = .ok (.aload_n 0, 1) := by decide +kernel
theorem dX5_round_115 : decode cX5_round 115 = .ok (.getfield 43, 3) := by decide +kernel
theorem dX5_round_118 : decode cX5_round 118 = .ok (.getfield 201, 3) := by decide +kernel
theorem dX5_round_121 : decode cX5_round 121 = .ok (.iconst (-1), 1) := by decide +kernel
theorem dX5_round_122 : decode cX5_round 122 = .ok (.if_icmp .ne 5, 3) := by decide +kernel
theorem dX5_round_125 : decode cX5_round 125 = .ok (.iconst 0, 1) := by decide +kernel
theorem dX5_round_126 : decode cX5_round 126 = .ok (.ireturn, 1) := by decide +kernel
theorem dX5_round_127 : decode cX5_round 127 = .ok (.aload_n 0, 1) := by decide +kernel
theorem dX5_round_128 : decode cX5_round 128 = .ok (.getfield 12, 3) := by decide +kernel
theorem dX5_round_131 : decode cX5_round 131 = .ok (.aload_n 0, 1) := by decide +kernel
theorem dX5_round_132 : decode cX5_round 132 = .ok (.getfield 43, 3) := by decide +kernel
theorem dX5_round_135 : decode cX5_round 135 = .ok (.getfield 201, 3) := by decide +kernel
theorem dX5_round_138 : decode cX5_round 138 = .ok (.aload_n 0, 1) := by decide +kernel
theorem dX5_round_139 : decode cX5_round 139 = .ok (.getfield 43, 3) := by decide +kernel
theorem dX5_round_142 : decode cX5_round 142 = .ok (.getfield 204, 3) := by decide +kernel
theorem dX5_round_145 : decode cX5_round 145 = .ok (.aload_n 0, 1) := by decide +kernel
theorem dX5_round_146 : decode cX5_round 146 = .ok (.getfield 43, 3) := by decide +kernel
theorem dX5_round_149 : decode cX5_round 149 = .ok (.getfield 207, 3) := by decide +kernel
theorem dX5_round_152 : decode cX5_round 152 = .ok (.invokevirtual 109, 3) := by decide +kernel
theorem dX5_round_155 : decode cX5_round 155 = .ok (.aload_n 0, 1) := by decide +kernel
theorem dX5_round_156 : decode cX5_round 156 = .ok (.dup, 1) := by decide +kernel
theorem dX5_round_157 : decode cX5_round 157 = .ok (.getfield 57, 3) := by decide +kernel
theorem dX5_round_160 : decode cX5_round 160 = .ok (.iconst 1, 1) := by decide +kernel
theorem dX5_round_161 : decode cX5_round 161 = .ok (.iadd, 1) := by decide +kernel
theorem dX5_round_162 : decode cX5_round 162 = .ok (.putfield 57, 3) := by decide +kernel
theorem dX5_round_165 : decode cX5_round 165 = .ok (.iconst 1, 1) := by decide +kernel
theorem dX5_round_166 : decode cX5_round 166 = .ok (.ireturn, 1) := by decide +kernel
set_option maxRecDepth 20000 in
theorem ggX5_keep_X5_within : GoodIn wsX5_keep wsX5_within := goodIn_r _ [7] (by decide +kernel) (by decide +kernel)
set_option maxRecDepth 20000 in
theorem gX5_keep_X5_within : GoodIn wsX5_keep (va_wsS RX5 75 yX5_within wsX5_within) := goodIn_app (goodIn_of _ (by decide +kernel)) ggX5_keep_X5_within
set_option maxRecDepth 20000 in
theorem ggX5_keep_X5_shelfOf : GoodIn wsX5_keep wsX5_shelfOf := goodIn_r _ [11, 12, 13, 38, 39, 40, 41, 42, 43, 44, 45, 46] (by decide +kernel) (by decide +kernel)
set_option maxRecDepth 20000 in
theorem gX5_keep_X5_shelfOf : GoodIn wsX5_keep (wsV RX5 210 RX5 yX5_shelfOf wsX5_shelfOf) := goodIn_app (goodIn_of _ (by decide +kernel)) ggX5_keep_X5_shelfOf
set_option maxRecDepth 20000 in
theorem ggX5_keep_X2_copy : GoodIn wsX5_keep wsX2_copy := goodIn_r _ [18, 19, 20, 21, 22, 23, 24, 25, 26, 27, 28, 6, 29, 30, 31, 32, 33, 34, 35, 47, 48, 49, 50, 51, 52, 53, 54, 55] (by decide +kernel) (by decide +kernel)
set_option maxRecDepth 20000 in
theorem gX5_keep_X2_copy : GoodIn wsX5_keep (wsV RX5 217 RX2 yX2_copy wsX2_copy) := goodIn_app (goodIn_of _ (by decide +kernel)) ggX5_keep_X2_copy
theorem dX5_keep_0 : decode cX5_keep 0 = .ok (.iload_n 1, 1) := by decide +kernel
theorem dX5_keep_1 : decode cX5_keep 1 = .ok (.iconst 0, 1) := by decide +kernel
theorem dX5_keep_2 : decode cX5_keep 2 = .ok (.iconst 1, 1) := by decide +kernel
theorem dX5_keep_3 : decode cX5_keep 3 = .ok (.invokestatic 75, 3) := by decide +kernel
theorem dX5_keep_6 : decode cX5_keep 6 = .ok (.ifCond .ne 7, 3) := by decide +kernel
theorem dX5_keep_9 : decode cX5_keep 9 = .ok (.sipush (-1001), 3) := by decide +kernel
theorem dX5_keep_12 : decode cX5_keep 12 = .ok (.ireturn, 1) := by decide +kernel
theorem dX5_keep_13 : decode cX5_keep 13 = .ok (.aload_n 0, 1) := by decide +kernel
theorem dX5_keep_14 : decode cX5_keep 14 = .ok (.iload_n 1, 1) := by decide +kernel
theorem dX5_keep_15 : decode cX5_keep 15 = .ok (.invokevirtual 210, 3) := by decide +kernel
theorem dX5_keep_18 : decode cX5_keep 18 = .ok (.astore_n 2, 1) := by decide +kernel
theorem dX5_keep_19 : decode cX5_keep 19 = .ok (.aload_n 2, 1) := by decide +kernel
theorem dX5_keep_20 : decode cX5_keep 20 = .ok (.getfield 214, 3) := by decide +kernel
theorem dX5_keep_23 : decode cX5_keep 23 = .ok (.aload_n 0, 1) := by decide +kernel
theorem dX5_keep_24 : decode cX5_keep 24 = .ok (.getfield 12, 3) := by decide +kernel
theorem dX5_keep_27 : decode cX5_keep 27 = .ok (.invokevirtual 217, 3) := by decide +kernel
theorem dX5_keep_30 : decode cX5_keep 30 = .ok (.aload_n 2, 1) := by decide +kernel
theorem dX5_keep_31 : decode cX5_keep 31 = .ok (.iconst 1, 1) := by decide +kernel
theorem dX5_keep_32 : decode cX5_keep 32 = .ok (.putfield 220, 3) := by decide +kernel
theorem dX5_keep_35 : decode cX5_keep 35 = .ok (.iconst 1, 1) := by decide +kernel
theorem dX5_keep_36 : decode cX5_keep 36 = .ok (.ireturn, 1) := by decide +kernel
set_option maxRecDepth 20000 in
theorem ggX5_back_X5_within : GoodIn wsX5_back wsX5_within := goodIn_r _ [7] (by decide +kernel) (by decide +kernel)
set_option maxRecDepth 20000 in
theorem gX5_back_X5_within : GoodIn wsX5_back (va_wsS RX5 75 yX5_within wsX5_within) := goodIn_app (goodIn_of _ (by decide +kernel)) ggX5_back_X5_within
set_option maxRecDepth 20000 in
theorem ggX5_back_X5_shelfOf : GoodIn wsX5_back wsX5_shelfOf := goodIn_r _ [11, 12, 13, 38, 39, 40, 41, 42, 43, 44, 45, 46] (by decide +kernel) (by decide +kernel)
set_option maxRecDepth 20000 in
theorem gX5_back_X5_shelfOf : GoodIn wsX5_back (wsV RX5 210 RX5 yX5_shelfOf wsX5_shelfOf) := goodIn_app (goodIn_of _ (by decide +kernel)) ggX5_back_X5_shelfOf
set_option maxRecDepth 20000 in
theorem ggX5_back_X2_copy : GoodIn wsX5_back wsX2_copy := goodIn_r _ [18, 19, 20, 21, 22, 23, 24, 25, 26, 27, 28, 6, 29, 30, 31, 32, 33, 34, 35, 47, 48, 49, 50, 51, 52, 53, 54, 55] (by decide +kernel) (by decide +kernel)
set_option maxRecDepth 20000 in
theorem gX5_back_X2_copy : GoodIn wsX5_back (wsV RX5 217 RX2 yX2_copy wsX2_copy) := goodIn_app (goodIn_of _ (by decide +kernel)) ggX5_back_X2_copy
theorem dX5_back_0 : decode cX5_back 0 = .ok (.iload_n 1, 1) := by decide +kernel
theorem dX5_back_1 : decode cX5_back 1 = .ok (.iconst 0, 1) := by decide +kernel
theorem dX5_back_2 : decode cX5_back 2 = .ok (.iconst 1, 1) := by decide +kernel
theorem dX5_back_3 : decode cX5_back 3 = .ok (.invokestatic 75, 3) := by decide +kernel
theorem dX5_back_6 : decode cX5_back 6 = .ok (.ifCond .ne 7, 3) := by decide +kernel
theorem dX5_back_9 : decode cX5_back 9 = .ok (.sipush (-1001), 3) := by decide +kernel
theorem dX5_back_12 : decode cX5_back 12 = .ok (.ireturn, 1) := by decide +kernel
theorem dX5_back_13 : decode cX5_back 13 = .ok (.aload_n 0, 1) := by decide +kernel
theorem dX5_back_14 : decode cX5_back 14 = .ok (.iload_n 1, 1) := by decide +kernel
theorem dX5_back_15 : decode cX5_back 15 = .ok (.invokevirtual 210, 3) := by decide +kernel
theorem dX5_back_18 : decode cX5_back 18 = .ok (.astore_n 2, 1) := by decide +kernel
theorem dX5_back_19 : decode cX5_back 19 = .ok (.aload_n 2, 1) := by decide +kernel
theorem dX5_back_20 : decode cX5_back 20 = .ok (.getfield 220, 3) := by decide +kernel
theorem dX5_back_23 : decode cX5_back 23 = .ok (.ifCond .ne 7, 3) := by decide +kernel
theorem dX5_back_26 : decode cX5_back 26 = .ok (.sipush (-1003), 3) := by decide +kernel
theorem dX5_back_29 : decode cX5_back 29 = .ok (.ireturn, 1) := by decide +kernel
theorem dX5_back_30 : decode cX5_back 30 = .ok (.aload_n 0, 1) := by decide +kernel
theorem dX5_back_31 : decode cX5_back 31 = .ok (.getfield 12, 3) := by decide +kernel
theorem dX5_back_34 : decode cX5_back 34 = .ok (.aload_n 2, 1) := by decide +kernel
theorem dX5_back_35 : decode cX5_back 35 = .ok (.getfield 214, 3) := by decide +kernel
theorem dX5_back_38 : decode cX5_back 38 = .ok (.invokevirtual 217, 3) := by decide +kernel
theorem dX5_back_41 : decode cX5_back 41 = .ok (.iconst 1, 1) := by decide +kernel
theorem dX5_back_42 : decode cX5_back 42 = .ok (.ireturn, 1) := by decide +kernel
set_option maxRecDepth 20000 in
theorem ggX5_differs_X5_within : GoodIn wsX5_differs wsX5_within := goodIn_r _ [7] (by decide +kernel) (by decide +kernel)
set_option maxRecDepth 20000 in
theorem gX5_differs_X5_within : GoodIn wsX5_differs (va_wsS RX5 75 yX5_within wsX5_within) := goodIn_app (goodIn_of _ (by decide +kernel)) ggX5_differs_X5_within
set_option maxRecDepth 20000 in
theorem ggX5_differs_X5_shelfOf : GoodIn wsX5_differs wsX5_shelfOf := goodIn_r _ [11, 12, 13, 42, 43, 44, 45, 46, 47, 48, 49, 50] (by decide +kernel) (by decide +kernel)
set_option maxRecDepth 20000 in
theorem gX5_differs_X5_shelfOf : GoodIn wsX5_differs (wsV RX5 210 RX5 yX5_shelfOf wsX5_shelfOf) := goodIn_app (goodIn_of _ (by decide +kernel)) ggX5_differs_X5_shelfOf
set_option maxRecDepth 20000 in
theorem ggX5_differs_X2_differences : GoodIn wsX5_differs wsX2_differences := goodIn_r _ [18, 19, 20, 21, 22, 23, 24, 25, 26, 27, 28, 6, 29, 30, 31, 32, 33, 34, 35, 36, 37, 38, 39, 51, 52, 53, 54, 55, 56, 57, 58, 59] (by decide +kernel) (by decide +kernel)
set_option maxRecDepth 20000 in
theorem gX5_differs_X2_differences : GoodIn wsX5_differs (wsV RX5 224 RX2 yX2_differences wsX2_differences) := goodIn_app (goodIn_of _ (by decide +kernel)) ggX5_differs_X2_differences
theorem dX5_differs_0 : decode cX5_differs 0 = .ok (.iload_n 1, 1) := by decide +kernel
theorem dX5_differs_1 : decode cX5_differs 1 = .ok (.iconst 0, 1) := by decide +kernel
theorem dX5_differs_2 : decode cX5_differs 2 = .ok (.iconst 1, 1) := by decide +kernel
theorem dX5_differs_3 : decode cX5_differs 3 = .ok (.invokestatic 75, 3) := by decide +kernel
theorem dX5_differs_6 : decode cX5_differs 6 = .ok (.ifCond .ne 7, 3) := by decide +kernel
theorem dX5_differs_9 : decode cX5_differs 9 = .ok (.sipush (-1001), 3) := by decide +kernel
theorem dX5_differs_12 : decode cX5_differs 12 = .ok (.ireturn, 1) := by decide +kernel
theorem dX5_differs_13 : decode cX5_differs 13 = .ok (.aload_n 0, 1) := by decide +kernel
theorem dX5_differs_14 : decode cX5_differs 14 = .ok (.iload_n 1, 1) := by decide +kernel
theorem dX5_differs_15 : decode cX5_differs 15 = .ok (.invokevirtual 210, 3) := by decide +kernel
theorem dX5_differs_18 : decode cX5_differs 18 = .ok (.astore_n 2, 1) := by decide +kernel
theorem dX5_differs_19 : decode cX5_differs 19 = .ok (.aload_n 2, 1) := by decide +kernel
theorem dX5_differs_20 : decode cX5_differs 20 = .ok (.getfield 220, 3) := by decide +kernel
theorem dX5_differs_23 : decode cX5_differs 23 = .ok (.ifCond .ne 7, 3) := by decide +kernel
theorem dX5_differs_26 : decode cX5_differs 26 = .ok (.sipush (-1003), 3) := by decide +kernel
theorem dX5_differs_29 : decode cX5_differs 29 = .ok (.ireturn, 1) := by decide +kernel
theorem dX5_differs_30 : decode cX5_differs 30 = .ok (.aload_n 0, 1) := by decide +kernel
theorem dX5_differs_31 : decode cX5_differs 31 = .ok (.getfield 12, 3) := by decide +kernel
theorem dX5_differs_34 : decode cX5_differs 34 = .ok (.aload_n 2, 1) := by decide +kernel
theorem dX5_differs_35 : decode cX5_differs 35 = .ok (.getfield 214, 3) := by decide +kernel
theorem dX5_differs_38 : decode cX5_differs 38 = .ok (.invokevirtual 224, 3) := by decide +kernel
theorem dX5_differs_41 : decode cX5_differs 41 = .ok (.ireturn, 1) := by decide +kernel
theorem dX5_shelfOf_0 : decode cX5_shelfOf 0 = .ok (.iload_n 1, 1) := by decide +kernel
theorem dX5_shelfOf_1 : decode cX5_shelfOf 1 = .ok (.ifCond .ne 10, 3) := by decide +kernel
theorem dX5_shelfOf_4 : decode cX5_shelfOf 4 = .ok (.aload_n 0, 1) := by decide +kernel
theorem dX5_shelfOf_5 : decode cX5_shelfOf 5 = .ok (.getfield 19, 3) := by decide +kernel
theorem dX5_shelfOf_8 : decode cX5_shelfOf 8 = .ok (.goto 7, 3) := by decide +kernel
theorem dX5_shelfOf_11 : decode cX5_shelfOf 11 = .ok (.aload_n 0, 1) := by decide +kernel
theorem dX5_shelfOf_12 : decode cX5_shelfOf 12 = .ok (.getfield 23, 3) := by decide +kernel
theorem dX5_shelfOf_15 : decode cX5_shelfOf 15 = .ok (.areturn, 1) := by decide +kernel
theorem dX5_within_0 : decode cX5_within 0 = .ok (.iload_n 0, 1) := by decide +kernel
theorem dX5_within_1 : decode cX5_within 1 = .ok (.iload_n 1, 1) := by decide +kernel
theorem dX5_within_2 : decode cX5_within 2 = .ok (.if_icmp .lt 12, 3) := by decide +kernel
theorem dX5_within_5 : decode cX5_within 5 = .ok (.iload_n 0, 1) := by decide +kernel
theorem dX5_within_6 : decode cX5_within 6 = .ok (.iload_n 2, 1) := by decide +kernel
theorem dX5_within_7 : decode cX5_within 7 = .ok (.if_icmp .gt 7, 3) := by decide +kernel
theorem dX5_within_10 : decode cX5_within 10 = .ok (.iconst 1, 1) := by decide +kernel
theorem dX5_within_11 : decode cX5_within 11 = .ok (.goto 4, 3) := by decide +kernel
theorem dX5_within_14 : decode cX5_within 14 = .ok (.iconst 0, 1) := by decide +kernel
theorem dX5_within_15 : decode cX5_within 15 = .ok (.ireturn, 1) := by decide +kernel
set_option maxRecDepth 20000 in
theorem ggX5_isPiece_X5_within : GoodIn wsX5_isPiece wsX5_within := goodIn_r _ [4] (by decide +kernel) (by decide +kernel)
set_option maxRecDepth 20000 in
theorem gX5_isPiece_X5_within : GoodIn wsX5_isPiece (va_wsS RX5 75 yX5_within wsX5_within) := goodIn_app (goodIn_of _ (by decide +kernel)) ggX5_isPiece_X5_within
theorem dX5_isPiece_0 : decode cX5_isPiece 0 = .ok (.iload_n 0, 1) := by decide +kernel
theorem dX5_isPiece_1 : decode cX5_isPiece 1 = .ok (.iconst 1, 1) := by decide +kernel
theorem dX5_isPiece_2 : decode cX5_isPiece 2 = .ok (.sipush 400, 3) := by decide +kernel
theorem dX5_isPiece_5 : decode cX5_isPiece 5 = .ok (.invokestatic 75, 3) := by decide +kernel
theorem dX5_isPiece_8 : decode cX5_isPiece 8 = .ok (.ifCond .eq 17, 3) := by decide +kernel
theorem dX5_isPiece_11 : decode cX5_isPiece 11 = .ok (.iload_n 1, 1) := by decide +kernel
theorem dX5_isPiece_12 : decode cX5_isPiece 12 = .ok (.iconst 1, 1) := by decide +kernel
theorem dX5_isPiece_13 : decode cX5_isPiece 13 = .ok (.bipush 100, 2) := by decide +kernel
theorem dX5_isPiece_15 : decode cX5_isPiece 15 = .ok (.invokestatic 75, 3) := by decide +kernel
theorem dX5_isPiece_18 : decode cX5_isPiece 18 = .ok (.ifCond .eq 7, 3) := by decide +kernel
theorem dX5_isPiece_21 : decode cX5_isPiece 21 = .ok (.iconst 1, 1) := by decide +kernel
theorem dX5_isPiece_22 : decode cX5_isPiece 22 = .ok (.goto 4, 3) := by decide +kernel
theorem dX5_isPiece_25 : decode cX5_isPiece 25 = .ok (.iconst 0, 1) := by decide +kernel
theorem dX5_isPiece_26 : decode cX5_isPiece 26 = .ok (.ireturn, 1) := by decide +kernel
set_option maxRecDepth 20000 in
theorem ggX5_mayBe_X2_wholeLength : GoodIn wsX5_mayBe wsX2_wholeLength := goodIn_r _ [6, 7, 8, 9, 10, 5, 11, 12, 13, 14, 15, 28, 29, 30, 31, 32, 33, 34, 35, 36] (by decide +kernel) (by decide +kernel)
set_option maxRecDepth 20000 in
theorem gX5_mayBe_X2_wholeLength : GoodIn wsX5_mayBe (wsV RX5 71 RX2 yX2_wholeLength wsX2_wholeLength) := goodIn_app (goodIn_of _ (by decide +kernel)) ggX5_mayBe_X2_wholeLength
set_option maxRecDepth 20000 in
theorem ggX5_mayBe_X5_within : GoodIn wsX5_mayBe wsX5_within := goodIn_r _ [18] (by decide +kernel) (by decide +kernel)
set_option maxRecDepth 20000 in
theorem gX5_mayBe_X5_within : GoodIn wsX5_mayBe (va_wsS RX5 75 yX5_within wsX5_within) := goodIn_app (goodIn_of _ (by decide +kernel)) ggX5_mayBe_X5_within
theorem dX5_mayBe_0 : decode cX5_mayBe 0 = .ok (.iload_n 1, 1) := by decide +kernel
theorem dX5_mayBe_1 : decode cX5_mayBe 1 = .ok (.tableswitch 58 0 2 #[27, 42, 50], 27) := by decide +kernel
theorem dX5_mayBe_28 : decode cX5_mayBe 28 = .ok (.iload_n 2, 1) := by decide +kernel
theorem dX5_mayBe_29 : decode cX5_mayBe 29 = .ok (.iconst 1, 1) := by decide +kernel
theorem dX5_mayBe_30 : decode cX5_mayBe 30 = .ok (.aload_n 0, 1) := by decide +kernel
theorem dX5_mayBe_31 : decode cX5_mayBe 31 = .ok (.getfield 12, 3) := by decide +kernel
theorem dX5_mayBe_34 : decode cX5_mayBe 34 = .ok (.invokevirtual 71, 3) := by decide +kernel
theorem dX5_mayBe_37 : decode cX5_mayBe 37 = .ok (.iconst 1, 1) := by decide +kernel
theorem dX5_mayBe_38 : decode cX5_mayBe 38 = .ok (.isub, 1) := by decide +kernel
theorem dX5_mayBe_39 : decode cX5_mayBe 39 = .ok (.invokestatic 75, 3) := by decide +kernel
theorem dX5_mayBe_42 : decode cX5_mayBe 42 = .ok (.ireturn, 1) := by decide +kernel
theorem dX5_mayBe_43 : decode cX5_mayBe 43 = .ok (.iload_n 2, 1) := by decide +kernel
theorem dX5_mayBe_44 : decode cX5_mayBe 44 = .ok (.iconst 1, 1) := by decide +kernel
theorem dX5_mayBe_45 : decode cX5_mayBe 45 = .ok (.bipush 60, 2) := by decide +kernel
theorem dX5_mayBe_47 : decode cX5_mayBe 47 = .ok (.invokestatic 75, 3) := by decide +kernel
theorem dX5_mayBe_50 : decode cX5_mayBe 50 = .ok (.ireturn, 1) := by decide +kernel
theorem dX5_mayBe_51 : decode cX5_mayBe 51 = .ok (.iload_n 2, 1) := by decide +kernel
theorem dX5_mayBe_52 : decode cX5_mayBe 52 = .ok (.iconst 0, 1) := by decide +kernel
theorem dX5_mayBe_53 : decode cX5_mayBe 53 = .ok (.bipush 60, 2) := by decide +kernel
theorem dX5_mayBe_55 : decode cX5_mayBe 55 = .ok (.invokestatic 75, 3) := by decide +kernel
theorem dX5_mayBe_58 : decode cX5_mayBe 58 = .ok (.ireturn, 1) := by decide +kernel
theorem dX5_mayBe_59 : decode cX5_mayBe 59 = .ok (.iconst 0, 1) := by decide +kernel
theorem dX5_mayBe_60 : decode cX5_mayBe 60 = .ok (.ireturn, 1) := by decide +kernel
set_option maxRecDepth 20000 in
theorem ggX5_toneNow_X4_cutUp : GoodIn wsX5_toneNow wsX4_cutUp := goodIn_r _ [10, 11, 12, 13, 14, 15, 16, 17, 18, 19, 20, 21, 22, 23, 24, 25, 26, 27, 28, 29, 30, 31, 32, 33, 34, 35, 36, 37, 38, 39, 40, 41, 42, 43, 44, 45, 46, 47, 48, 49, 50, 51, 52, 53, 54, 55, 56, 57, 58, 59, 107, 108, 109, 110, 111, 112, 113, 114, 115, 116, 117, 118, 119, 120, 121, 122, 123] (by decide +kernel) (by decide +kernel)
set_option maxRecDepth 20000 in
theorem gX5_toneNow_X4_cutUp : GoodIn wsX5_toneNow (wsV RX5 157 RX4 yX4_cutUp wsX4_cutUp) := goodIn_app (goodIn_of _ (by decide +kernel)) ggX5_toneNow_X4_cutUp
set_option maxRecDepth 20000 in
theorem ggX5_toneNow_X5_at : GoodIn wsX5_toneNow wsX5_at := goodIn_r _ [41] (by decide +kernel) (by decide +kernel)
set_option maxRecDepth 20000 in
theorem gX5_toneNow_X5_at : GoodIn wsX5_toneNow (va_wsS RX5 101 yX5_at wsX5_at) := goodIn_app (goodIn_of _ (by decide +kernel)) ggX5_toneNow_X5_at
set_option maxRecDepth 20000 in
theorem ggX5_toneNow_X4_findTone : GoodIn wsX5_toneNow wsX4_findTone := goodIn_r _ [64, 65, 66, 67, 9, 68, 13, 69, 11, 20, 70, 21, 71, 24, 72, 26, 15, 39, 40, 41, 73, 74, 75, 76, 77, 78, 79, 80, 81, 82, 83, 84, 85, 86, 87, 88, 89, 90, 91, 92, 93, 23, 107, 108, 109, 110, 111, 112, 113, 114] (by decide +kernel) (by decide +kernel)
set_option maxRecDepth 20000 in
theorem gX5_toneNow_X4_findTone : GoodIn wsX5_toneNow (wsV RX5 165 RX4 yX4_findTone wsX4_findTone) := goodIn_app (goodIn_of _ (by decide +kernel)) ggX5_toneNow_X4_findTone
theorem dX5_toneNow_0 : decode cX5_toneNow 0 = .ok (.aload_n 0, 1) := by decide +kernel
theorem dX5_toneNow_1 : decode cX5_toneNow 1 = .ok (.getfield 29, 3) := by decide +kernel
theorem dX5_toneNow_4 : decode cX5_toneNow 4 = .ok (.aload_n 0, 1) := by decide +kernel
theorem dX5_toneNow_5 : decode cX5_toneNow 5 = .ok (.getfield 12, 3) := by decide +kernel
theorem dX5_toneNow_8 : decode cX5_toneNow 8 = .ok (.invokevirtual 157, 3) := by decide +kernel
theorem dX5_toneNow_11 : decode cX5_toneNow 11 = .ok (.aload_n 0, 1) := by decide +kernel
theorem dX5_toneNow_12 : decode cX5_toneNow 12 = .ok (.getfield 29, 3) := by decide +kernel
theorem dX5_toneNow_15 : decode cX5_toneNow 15 = .ok (.aload_n 0, 1) := by decide +kernel
theorem dX5_toneNow_16 : decode cX5_toneNow 16 = .ok (.getfield 36, 3) := by decide +kernel
theorem dX5_toneNow_19 : decode cX5_toneNow 19 = .ok (.getfield 174, 3) := by decide +kernel
theorem dX5_toneNow_22 : decode cX5_toneNow 22 = .ok (.iload_n 1, 1) := by decide +kernel
theorem dX5_toneNow_23 : decode cX5_toneNow 23 = .ok (.invokestatic 101, 3) := by decide +kernel
theorem dX5_toneNow_26 : decode cX5_toneNow 26 = .ok (.aload_n 0, 1) := by decide +kernel
theorem dX5_toneNow_27 : decode cX5_toneNow 27 = .ok (.getfield 36, 3) := by decide +kernel
theorem dX5_toneNow_30 : decode cX5_toneNow 30 = .ok (.getfield 177, 3) := by decide +kernel
theorem dX5_toneNow_33 : decode cX5_toneNow 33 = .ok (.iload_n 1, 1) := by decide +kernel
theorem dX5_toneNow_34 : decode cX5_toneNow 34 = .ok (.invokestatic 101, 3) := by decide +kernel
theorem dX5_toneNow_37 : decode cX5_toneNow 37 = .ok (.invokevirtual 165, 3) := by decide +kernel
theorem dX5_toneNow_40 : decode cX5_toneNow 40 = .ok (.ireturn, 1) := by decide +kernel
theorem dX5_missOf_0 : decode cX5_missOf 0 = .ok (.iload_n 0, 1) := by decide +kernel
theorem dX5_missOf_1 : decode cX5_missOf 1 = .ok (.iconst (-1), 1) := by decide +kernel
theorem dX5_missOf_2 : decode cX5_missOf 2 = .ok (.if_icmp .ne 9, 3) := by decide +kernel
theorem dX5_missOf_5 : decode cX5_missOf 5 = .ok (.sipush 300, 3) := by decide +kernel
theorem dX5_missOf_8 : decode cX5_missOf 8 = .ok (.goto 9, 3) := by decide +kernel
theorem dX5_missOf_11 : decode cX5_missOf 11 = .ok (.iload_n 0, 1) := by decide +kernel
theorem dX5_missOf_12 : decode cX5_missOf 12 = .ok (.iload_n 1, 1) := by decide +kernel
theorem dX5_missOf_13 : decode cX5_missOf 13 = .ok (.isub, 1) := by decide +kernel
theorem dX5_missOf_14 : decode cX5_missOf 14 = .ok (.invokestatic 228, 3) := by decide +kernel
theorem dX5_missOf_17 : decode cX5_missOf 17 = .ok (.ireturn, 1) := by decide +kernel
set_option maxRecDepth 20000 in
theorem ggX5_rank_X4_cutUp : GoodIn wsX5_rank wsX4_cutUp := goodIn_r _ [16, 17, 18, 19, 20, 21, 22, 9, 10, 11, 23, 24, 25, 26, 27, 28, 29, 30, 31, 32, 33, 34, 35, 36, 37, 38, 39, 40, 41, 42, 43, 44, 45, 46, 47, 48, 49, 50, 51, 52, 53, 54, 55, 56, 57, 58, 59, 60, 61, 62, 116, 117, 118, 119, 120, 121, 122, 123, 124, 125, 126, 127, 128, 129, 130, 131, 132] (by decide +kernel) (by decide +kernel)
set_option maxRecDepth 20000 in
theorem gX5_rank_X4_cutUp : GoodIn wsX5_rank (wsV RX5 157 RX4 yX4_cutUp wsX4_cutUp) := goodIn_app (goodIn_of _ (by decide +kernel)) ggX5_rank_X4_cutUp
set_option maxRecDepth 20000 in
theorem ggX5_rank_X5_at : GoodIn wsX5_rank wsX5_at := goodIn_r _ [44] (by decide +kernel) (by decide +kernel)
set_option maxRecDepth 20000 in
theorem gX5_rank_X5_at : GoodIn wsX5_rank (va_wsS RX5 101 yX5_at wsX5_at) := goodIn_app (goodIn_of _ (by decide +kernel)) ggX5_rank_X5_at
set_option maxRecDepth 20000 in
theorem ggX5_rank_X4_findTone : GoodIn wsX5_rank wsX4_findTone := goodIn_r _ [67, 68, 69, 70, 15, 71, 19, 72, 17, 23, 73, 24, 74, 27, 75, 29, 21, 42, 43, 44, 76, 77, 78, 79, 80, 81, 82, 83, 84, 85, 86, 87, 88, 89, 90, 91, 92, 93, 94, 95, 96, 26, 116, 117, 118, 119, 120, 121, 122, 123] (by decide +kernel) (by decide +kernel)
set_option maxRecDepth 20000 in
theorem gX5_rank_X4_findTone : GoodIn wsX5_rank (wsV RX5 165 RX4 yX4_findTone wsX4_findTone) := goodIn_app (goodIn_of _ (by decide +kernel)) ggX5_rank_X4_findTone
set_option maxRecDepth 20000 in
theorem ggX5_rank_X5_missOf : GoodIn wsX5_rank wsX5_missOf := goodIn_r _ [99, 100, 101, 10, 102] (by decide +kernel) (by decide +kernel)
set_option maxRecDepth 20000 in
theorem gX5_rank_X5_missOf : GoodIn wsX5_rank (va_wsS RX5 168 yX5_missOf wsX5_missOf) := goodIn_app (goodIn_of _ (by decide +kernel)) ggX5_rank_X5_missOf
theorem dX5_rank_0 : decode cX5_rank 0 = .ok (.aload_n 0, 1) := by decide +kernel
theorem dX5_rank_1 : decode cX5_rank 1 = .ok (.getfield 29, 3) := by decide +kernel
theorem dX5_rank_4 : decode cX5_rank 4 = .ok (.aload_n 0, 1) := by decide +kernel
theorem dX5_rank_5 : decode cX5_rank 5 = .ok (.getfield 12, 3) := by decide +kernel
theorem dX5_rank_8 : decode cX5_rank 8 = .ok (.invokevirtual 157, 3) := by decide +kernel
theorem dX5_rank_11 : decode cX5_rank 11 = .ok (.iconst 0, 1) := by decide +kernel
theorem dX5_rank_12 : decode cX5_rank 12 = .ok (.istore_n 2, 1) := by decide +kernel
theorem dX5_rank_13 : decode cX5_rank 13 = .ok (.iconst 0, 1) := by decide +kernel
theorem dX5_rank_14 : decode cX5_rank 14 = .ok (.istore_n 3, 1) := by decide +kernel
theorem dX5_rank_15 : decode cX5_rank 15 = .ok (.iconst 0, 1) := by decide +kernel
theorem dX5_rank_16 : decode cX5_rank 16 = .ok (.istore 4, 2) := by decide +kernel
theorem dX5_rank_18 : decode cX5_rank 18 = .ok (.iload 4, 2) := by decide +kernel
theorem dX5_rank_20 : decode cX5_rank 20 = .ok (.aload_n 0, 1) := by decide +kernel
theorem dX5_rank_21 : decode cX5_rank 21 = .ok (.getfield 36, 3) := by decide +kernel
theorem dX5_rank_24 : decode cX5_rank 24 = .ok (.getfield 121, 3) := by decide +kernel
theorem dX5_rank_27 : decode cX5_rank 27 = .ok (.if_icmp .ge 84, 3) := by decide +kernel
theorem dX5_rank_30 : decode cX5_rank 30 = .ok (.iload_n 2, 1) := by decide +kernel
theorem dX5_rank_31 : decode cX5_rank 31 = .ok (.sipush 1801, 3) := by decide +kernel
theorem dX5_rank_34 : decode cX5_rank 34 = .ok (.imul, 1) := by decide +kernel
theorem dX5_rank_35 : decode cX5_rank 35 = .ok (.iload_n 3, 1) := by decide +kernel
theorem dX5_rank_36 : decode cX5_rank 36 = .ok (.iadd, 1) := by decide +kernel
theorem dX5_rank_37 : decode cX5_rank 37 = .ok (.iload_n 1, 1) := by decide +kernel
theorem dX5_rank_38 : decode cX5_rank 38 = .ok (.if_icmp .ge 73, 3) := by decide +kernel
theorem dX5_rank_41 : decode cX5_rank 41 = .ok (.aload_n 0, 1) := by decide +kernel
theorem dX5_rank_42 : decode cX5_rank 42 = .ok (.getfield 29, 3) := by decide +kernel
theorem dX5_rank_45 : decode cX5_rank 45 = .ok (.aload_n 0, 1) := by decide +kernel
theorem dX5_rank_46 : decode cX5_rank 46 = .ok (.getfield 36, 3) := by decide +kernel
theorem dX5_rank_49 : decode cX5_rank 49 = .ok (.getfield 174, 3) := by decide +kernel
theorem dX5_rank_52 : decode cX5_rank 52 = .ok (.iload 4, 2) := by decide +kernel
theorem dX5_rank_54 : decode cX5_rank 54 = .ok (.invokestatic 101, 3) := by decide +kernel
theorem dX5_rank_57 : decode cX5_rank 57 = .ok (.aload_n 0, 1) := by decide +kernel
theorem dX5_rank_58 : decode cX5_rank 58 = .ok (.getfield 36, 3) := by decide +kernel
theorem dX5_rank_61 : decode cX5_rank 61 = .ok (.getfield 177, 3) := by decide +kernel
theorem dX5_rank_64 : decode cX5_rank 64 = .ok (.iload 4, 2) := by decide +kernel
theorem dX5_rank_66 : decode cX5_rank 66 = .ok (.invokestatic 101, 3) := by decide +kernel
theorem dX5_rank_69 : decode cX5_rank 69 = .ok (.invokevirtual 165, 3) := by decide +kernel
theorem dX5_rank_72 : decode cX5_rank 72 = .ok (.istore 5, 2) := by decide +kernel
theorem dX5_rank_74 : decode cX5_rank 74 = .ok (.iload 5, 2) := by decide +kernel
theorem dX5_rank_76 : decode cX5_rank 76 = .ok (.aload_n 0, 1) := by decide +kernel
theorem dX5_rank_77 : decode cX5_rank 77 = .ok (.getfield 36, 3) := by decide +kernel
theorem dX5_rank_80 : decode cX5_rank 80 = .ok (.getfield 180, 3) := by decide +kernel
theorem dX5_rank_83 : decode cX5_rank 83 = .ok (.iload 4, 2) := by decide +kernel
theorem dX5_rank_85 : decode cX5_rank 85 = .ok (.invokestatic 101, 3) := by decide +kernel
theorem dX5_rank_88 : decode cX5_rank 88 = .ok (.invokestatic 168, 3) := by decide +kernel
theorem dX5_rank_91 : decode cX5_rank 91 = .ok (.istore 6, 2) := by decide +kernel
theorem dX5_rank_93 : decode cX5_rank 93 = .ok (.iload_n 2, 1) := by decide +kernel
theorem dX5_rank_94 : decode cX5_rank 94 = .ok (.iload 6, 2) := by decide +kernel
theorem dX5_rank_96 : decode cX5_rank 96 = .ok (.invokestatic 233, 3) := by decide +kernel
theorem dX5_rank_99 : decode cX5_rank 99 = .ok (.istore_n 2, 1) := by decide +kernel
theorem dX5_rank_100 : decode cX5_rank 100 = .ok (.iload_n 3, 1) := by decide +kernel
theorem dX5_rank_101 : decode cX5_rank 101 = .ok (.iload 6, 2) := by decide +kernel
theorem dX5_rank_103 : decode cX5_rank 103 = .ok (.iadd, 1) := by decide +kernel
theorem dX5_rank_104 : decode cX5_rank 104 = .ok (.istore_n 3, 1) := by decide +kernel
theorem dX5_rank_105 : decode cX5_rank 105 = .ok (.iinc 4 1, 3) := by decide +kernel
theorem dX5_rank_108 : decode cX5_rank 108 = .ok (.goto (-90), 3) := by decide +kernel
theorem dX5_rank_111 : decode cX5_rank 111 = .ok (.iload_n 2, 1) := by decide +kernel
theorem dX5_rank_112 : decode cX5_rank 112 = .ok (.sipush 1801, 3) := by decide +kernel
theorem dX5_rank_115 : decode cX5_rank 115 = .ok (.imul, 1) := by decide +kernel
theorem dX5_rank_116 : decode cX5_rank 116 = .ok (.iload_n 3, 1) := by decide +kernel
theorem dX5_rank_117 : decode cX5_rank 117 = .ok (.iadd, 1) := by decide +kernel
theorem dX5_rank_118 : decode cX5_rank 118 = .ok (.ireturn, 1) := by decide +kernel
set_option maxRecDepth 20000 in
theorem ggX5_tryMove_X2_ofHole : GoodIn wsX5_tryMove wsX2_ofHole := goodIn_r _ [8, 9, 10, 11, 7, 12, 13, 14, 15, 16, 17, 18, 145, 146, 147, 148, 149, 150, 151, 152, 153] (by decide +kernel) (by decide +kernel)
set_option maxRecDepth 20000 in
theorem gX5_tryMove_X2_ofHole : GoodIn wsX5_tryMove (wsV RX5 105 RX2 yX2_ofHole wsX2_ofHole) := goodIn_app (goodIn_of _ (by decide +kernel)) ggX5_tryMove_X2_ofHole
set_option maxRecDepth 20000 in
theorem ggX5_tryMove_X2_changeHole : GoodIn wsX5_tryMove wsX2_changeHole := goodIn_r _ [22, 9, 10, 11, 7, 12, 13, 14, 15, 23, 17, 24, 145, 146, 147, 148, 149, 150, 151, 152, 153] (by decide +kernel) (by decide +kernel)
set_option maxRecDepth 20000 in
theorem gX5_tryMove_X2_changeHole : GoodIn wsX5_tryMove (wsV RX5 109 RX2 yX2_changeHole wsX2_changeHole) := goodIn_app (goodIn_of _ (by decide +kernel)) ggX5_tryMove_X2_changeHole
set_option maxRecDepth 20000 in
theorem ggX5_tryMove_X5_rank : GoodIn wsX5_tryMove wsX5_rank := goodIn_r _ [28, 29, 1, 30, 31, 32, 33, 34, 35, 36, 37, 38, 39, 40, 41, 42, 43, 44, 45, 46, 47, 48, 49, 50, 51, 52, 53, 54, 55, 56, 57, 58, 59, 60, 7, 61, 62, 63, 64, 65, 66, 67, 16, 17, 18, 68, 69, 70, 71, 72, 73, 74, 75, 76, 77, 13, 78, 79, 80, 81, 82, 23, 24, 83, 84, 85, 86, 87, 88, 89, 90, 91, 92, 93, 94, 95, 96, 97, 98, 99, 100, 101, 102, 103, 104, 105, 106, 107, 108, 109, 110, 111, 112, 113, 114, 115, 116, 117, 118, 119, 120, 121, 122, 132, 133, 134, 135, 136, 137, 138, 139, 140, 154, 155, 156, 157, 158, 159, 160, 161, 162, 163, 164, 165, 145, 146, 147, 148, 149, 150, 151, 152, 153] (by decide +kernel) (by decide +kernel)
set_option maxRecDepth 20000 in
theorem gX5_tryMove_X5_rank : GoodIn wsX5_tryMove (wsV RX5 145 RX5 yX5_rank wsX5_rank) := goodIn_app (goodIn_of _ (by decide +kernel)) ggX5_tryMove_X5_rank
set_option maxRecDepth 20000 in
theorem ggX5_tryMove_X0_take : GoodIn wsX5_tryMove wsX0_take := goodIn_r _ [127, 128, 129, 130, 131, 141, 142, 143, 144] (by decide +kernel) (by decide +kernel)
set_option maxRecDepth 20000 in
theorem gX5_tryMove_X0_take : GoodIn wsX5_tryMove (wsV RX5 238 RX0 yX0_take wsX0_take) := goodIn_app (goodIn_of _ (by decide +kernel)) ggX5_tryMove_X0_take
theorem dX5_tryMove_0 : decode cX5_tryMove 0 = .ok (.iload_n 3, 1) := by decide +kernel
theorem dX5_tryMove_1 : decode cX5_tryMove 1 = .ok (.iconst (-1), 1) := by decide +kernel
theorem dX5_tryMove_2 : decode cX5_tryMove 2 = .ok (.if_icmp .ne 4, 3) := by decide +kernel
theorem dX5_tryMove_5 : decode cX5_tryMove 5 = .ok (.return_, 1) := by decide +kernel
theorem dX5_tryMove_6 : decode cX5_tryMove 6 = .ok (.aload_n 0, 1) := by decide +kernel
theorem dX5_tryMove_7 : decode cX5_tryMove 7 = .ok (.getfield 12, 3) := by decide +kernel
theorem dX5_tryMove_10 : decode cX5_tryMove 10 = .ok (.iload_n 1, 1) := by decide +kernel
theorem dX5_tryMove_11 : decode cX5_tryMove 11 = .ok (.iload_n 2, 1) := by decide +kernel
theorem dX5_tryMove_12 : decode cX5_tryMove 12 = .ok (.invokevirtual 105, 3) := by decide +kernel
theorem dX5_tryMove_15 : decode cX5_tryMove 15 = .ok (.istore 4, 2) := by decide +kernel
theorem dX5_tryMove_17 : decode cX5_tryMove 17 = .ok (.aload_n 0, 1) := by decide +kernel
theorem dX5_tryMove_18 : decode cX5_tryMove 18 = .ok (.getfield 12, 3) := by decide +kernel
theorem dX5_tryMove_21 : decode cX5_tryMove 21 = .ok (.iload_n 1, 1) := by decide +kernel
theorem dX5_tryMove_22 : decode cX5_tryMove 22 = .ok (.iload_n 2, 1) := by decide +kernel
theorem dX5_tryMove_23 : decode cX5_tryMove 23 = .ok (.iload_n 3, 1) := by decide +kernel
theorem dX5_tryMove_24 : decode cX5_tryMove 24 = .ok (.invokevirtual 109, 3) := by decide +kernel
theorem dX5_tryMove_27 : decode cX5_tryMove 27 = .ok (.aload_n 0, 1) := by decide +kernel
theorem dX5_tryMove_28 : decode cX5_tryMove 28 = .ok (.aload_n 0, 1) := by decide +kernel
theorem dX5_tryMove_29 : decode cX5_tryMove 29 = .ok (.getfield 43, 3) := by decide +kernel
theorem dX5_tryMove_32 : decode cX5_tryMove 32 = .ok (.getfield 236, 3) := by decide +kernel
theorem dX5_tryMove_35 : decode cX5_tryMove 35 = .ok (.invokevirtual 145, 3) := by decide +kernel
theorem dX5_tryMove_38 : decode cX5_tryMove 38 = .ok (.istore 5, 2) := by decide +kernel
theorem dX5_tryMove_40 : decode cX5_tryMove 40 = .ok (.aload_n 0, 1) := by decide +kernel
theorem dX5_tryMove_41 : decode cX5_tryMove 41 = .ok (.getfield 12, 3) := by decide +kernel
theorem dX5_tryMove_44 : decode cX5_tryMove 44 = .ok (.iload_n 1, 1) := by decide +kernel
theorem dX5_tryMove_45 : decode cX5_tryMove 45 = .ok (.iload_n 2, 1) := by decide +kernel
theorem dX5_tryMove_46 : decode cX5_tryMove 46 = .ok (.iload 4, 2) := by decide +kernel
theorem dX5_tryMove_48 : decode cX5_tryMove 48 = .ok (.invokevirtual 109, 3) := by decide +kernel
theorem dX5_tryMove_51 : decode cX5_tryMove 51 = .ok (.iload 5, 2) := by decide +kernel
theorem dX5_tryMove_53 : decode cX5_tryMove 53 = .ok (.aload_n 0, 1) := by decide +kernel
theorem dX5_tryMove_54 : decode cX5_tryMove 54 = .ok (.getfield 43, 3) := by decide +kernel
theorem dX5_tryMove_57 : decode cX5_tryMove 57 = .ok (.getfield 236, 3) := by decide +kernel
theorem dX5_tryMove_60 : decode cX5_tryMove 60 = .ok (.if_icmp .ge 15, 3) := by decide +kernel
theorem dX5_tryMove_63 : decode cX5_tryMove 63 = .ok (.aload_n 0, 1) := by decide +kernel
theorem dX5_tryMove_64 : decode cX5_tryMove 64 = .ok (.getfield 43, 3) := by decide +kernel
theorem dX5_tryMove_67 : decode cX5_tryMove 67 = .ok (.iload 5, 2) := by decide +kernel
theorem dX5_tryMove_69 : decode cX5_tryMove 69 = .ok (.iload_n 1, 1) := by decide +kernel
theorem dX5_tryMove_70 : decode cX5_tryMove 70 = .ok (.iload_n 2, 1) := by decide +kernel
theorem dX5_tryMove_71 : decode cX5_tryMove 71 = .ok (.iload_n 3, 1) := by decide +kernel
theorem dX5_tryMove_72 : decode cX5_tryMove 72 = .ok (.invokevirtual 238, 3) := by decide +kernel
theorem dX5_tryMove_75 : decode cX5_tryMove 75 = .ok (.return_, 1) := by decide +kernel
set_option maxRecDepth 20000 in
theorem ggX5_placeMoved_X5_at : GoodIn wsX5_placeMoved wsX5_at := goodIn_r _ [7] (by decide +kernel) (by decide +kernel)
set_option maxRecDepth 20000 in
theorem gX5_placeMoved_X5_at : GoodIn wsX5_placeMoved (va_wsS RX5 101 yX5_at wsX5_at) := goodIn_app (goodIn_of _ (by decide +kernel)) ggX5_placeMoved_X5_at
set_option maxRecDepth 20000 in
theorem ggX5_placeMoved_X5_mayBe : GoodIn wsX5_placeMoved wsX5_mayBe := goodIn_r _ [11, 1, 12, 13, 14, 15, 16, 17, 18, 19, 20, 21, 22, 5, 6, 7, 23, 24, 25, 36, 37, 38, 39, 40, 41, 42, 43, 44, 45, 46, 47, 48, 49, 50, 51, 52, 53] (by decide +kernel) (by decide +kernel)
set_option maxRecDepth 20000 in
theorem gX5_placeMoved_X5_mayBe : GoodIn wsX5_placeMoved (wsV RX5 83 RX5 yX5_mayBe wsX5_mayBe) := goodIn_app (goodIn_of _ (by decide +kernel)) ggX5_placeMoved_X5_mayBe
set_option maxRecDepth 20000 in
theorem ggX5_placeMoved_X2_holeAt : GoodIn wsX5_placeMoved wsX2_holeAt := goodIn_r _ [29, 30, 31, 5, 6, 7, 45, 46, 47, 48, 49, 50, 51, 52, 53] (by decide +kernel) (by decide +kernel)
set_option maxRecDepth 20000 in
theorem gX5_placeMoved_X2_holeAt : GoodIn wsX5_placeMoved (wsV RX5 86 RX2 yX2_holeAt wsX2_holeAt) := goodIn_app (goodIn_of _ (by decide +kernel)) ggX5_placeMoved_X2_holeAt
set_option maxRecDepth 20000 in
theorem ggX5_placeMoved_X2_gap : GoodIn wsX5_placeMoved wsX2_gap := goodIn_r _ [35, 30, 31, 5, 6, 7, 45, 46, 47, 48, 49, 50, 51, 52, 53] (by decide +kernel) (by decide +kernel)
set_option maxRecDepth 20000 in
theorem gX5_placeMoved_X2_gap : GoodIn wsX5_placeMoved (wsV RX5 242 RX2 yX2_gap wsX2_gap) := goodIn_app (goodIn_of _ (by decide +kernel)) ggX5_placeMoved_X2_gap
theorem dX5_placeMoved_0 : decode cX5_placeMoved 0 = .ok (.aload_n 0, 1) := by decide +kernel
theorem dX5_placeMoved_1 : decode cX5_placeMoved 1 = .ok (.getfield 12, 3) := by decide +kernel
theorem dX5_placeMoved_4 : decode cX5_placeMoved 4 = .ok (.getfield 97, 3) := by decide +kernel
theorem dX5_placeMoved_7 : decode cX5_placeMoved 7 = .ok (.iload_n 1, 1) := by decide +kernel
theorem dX5_placeMoved_8 : decode cX5_placeMoved 8 = .ok (.invokestatic 101, 3) := by decide +kernel
theorem dX5_placeMoved_11 : decode cX5_placeMoved 11 = .ok (.iload_n 2, 1) := by decide +kernel
theorem dX5_placeMoved_12 : decode cX5_placeMoved 12 = .ok (.iadd, 1) := by decide +kernel
theorem dX5_placeMoved_13 : decode cX5_placeMoved 13 = .ok (.istore_n 3, 1) := by decide +kernel
theorem dX5_placeMoved_14 : decode cX5_placeMoved 14 = .ok (.aload_n 0, 1) := by decide +kernel
theorem dX5_placeMoved_15 : decode cX5_placeMoved 15 = .ok (.iconst 0, 1) := by decide +kernel
theorem dX5_placeMoved_16 : decode cX5_placeMoved 16 = .ok (.iload_n 3, 1) := by decide +kernel
theorem dX5_placeMoved_17 : decode cX5_placeMoved 17 = .ok (.invokevirtual 83, 3) := by decide +kernel
theorem dX5_placeMoved_20 : decode cX5_placeMoved 20 = .ok (.ifCond .eq 15, 3) := by decide +kernel
theorem dX5_placeMoved_23 : decode cX5_placeMoved 23 = .ok (.aload_n 0, 1) := by decide +kernel
theorem dX5_placeMoved_24 : decode cX5_placeMoved 24 = .ok (.getfield 12, 3) := by decide +kernel
theorem dX5_placeMoved_27 : decode cX5_placeMoved 27 = .ok (.iload_n 3, 1) := by decide +kernel
theorem dX5_placeMoved_28 : decode cX5_placeMoved 28 = .ok (.invokevirtual 86, 3) := by decide +kernel
theorem dX5_placeMoved_31 : decode cX5_placeMoved 31 = .ok (.iconst (-1), 1) := by decide +kernel
theorem dX5_placeMoved_32 : decode cX5_placeMoved 32 = .ok (.if_icmp .eq 5, 3) := by decide +kernel
theorem dX5_placeMoved_35 : decode cX5_placeMoved 35 = .ok (.iconst (-1), 1) := by decide +kernel
theorem dX5_placeMoved_36 : decode cX5_placeMoved 36 = .ok (.ireturn, 1) := by decide +kernel
theorem dX5_placeMoved_37 : decode cX5_placeMoved 37 = .ok (.aload_n 0, 1) := by decide +kernel
theorem dX5_placeMoved_38 : decode cX5_placeMoved 38 = .ok (.getfield 12, 3) := by decide +kernel
theorem dX5_placeMoved_41 : decode cX5_placeMoved 41 = .ok (.iload_n 1, 1) := by decide +kernel
theorem dX5_placeMoved_42 : decode cX5_placeMoved 42 = .ok (.iload_n 2, 1) := by decide +kernel
theorem dX5_placeMoved_43 : decode cX5_placeMoved 43 = .ok (.invokevirtual 242, 3) := by decide +kernel
theorem dX5_placeMoved_46 : decode cX5_placeMoved 46 = .ok (.aload_n 0, 1) := by decide +kernel
theorem dX5_placeMoved_47 : decode cX5_placeMoved 47 = .ok (.getfield 53, 3) := by decide +kernel
theorem dX5_placeMoved_50 : decode cX5_placeMoved 50 = .ok (.if_icmp .ne 7, 3) := by decide +kernel
theorem dX5_placeMoved_53 : decode cX5_placeMoved 53 = .ok (.iconst (-1), 1) := by decide +kernel
theorem dX5_placeMoved_54 : decode cX5_placeMoved 54 = .ok (.goto 4, 3) := by decide +kernel
theorem dX5_placeMoved_57 : decode cX5_placeMoved 57 = .ok (.iload_n 3, 1) := by decide +kernel
theorem dX5_placeMoved_58 : decode cX5_placeMoved 58 = .ok (.ireturn, 1) := by decide +kernel
set_option maxRecDepth 20000 in
theorem ggX5_nextSize_X5_at : GoodIn wsX5_nextSize wsX5_at := goodIn_r _ [7] (by decide +kernel) (by decide +kernel)
set_option maxRecDepth 20000 in
theorem gX5_nextSize_X5_at : GoodIn wsX5_nextSize (va_wsS RX5 101 yX5_at wsX5_at) := goodIn_app (goodIn_of _ (by decide +kernel)) ggX5_nextSize_X5_at
set_option maxRecDepth 20000 in
theorem ggX5_nextSize_X5_within : GoodIn wsX5_nextSize wsX5_within := goodIn_r _ [10] (by decide +kernel) (by decide +kernel)
set_option maxRecDepth 20000 in
theorem gX5_nextSize_X5_within : GoodIn wsX5_nextSize (va_wsS RX5 75 yX5_within wsX5_within) := goodIn_app (goodIn_of _ (by decide +kernel)) ggX5_nextSize_X5_within
theorem dX5_nextSize_0 : decode cX5_nextSize 0 = .ok (.aload_n 0, 1) := by decide +kernel
theorem dX5_nextSize_1 : decode cX5_nextSize 1 = .ok (.getfield 12, 3) := by decide +kernel
theorem dX5_nextSize_4 : decode cX5_nextSize 4 = .ok (.getfield 245, 3) := by decide +kernel
theorem dX5_nextSize_7 : decode cX5_nextSize 7 = .ok (.iload_n 1, 1) := by decide +kernel
theorem dX5_nextSize_8 : decode cX5_nextSize 8 = .ok (.invokestatic 101, 3) := by decide +kernel
theorem dX5_nextSize_11 : decode cX5_nextSize 11 = .ok (.istore_n 3, 1) := by decide +kernel
theorem dX5_nextSize_12 : decode cX5_nextSize 12 = .ok (.iconst 1, 1) := by decide +kernel
theorem dX5_nextSize_13 : decode cX5_nextSize 13 = .ok (.istore 4, 2) := by decide +kernel
theorem dX5_nextSize_15 : decode cX5_nextSize 15 = .ok (.iload 4, 2) := by decide +kernel
theorem dX5_nextSize_17 : decode cX5_nextSize 17 = .ok (.bipush 60, 2) := by decide +kernel
theorem dX5_nextSize_19 : decode cX5_nextSize 19 = .ok (.if_icmp .ge 45, 3) := by decide +kernel
theorem dX5_nextSize_22 : decode cX5_nextSize 22 = .ok (.iload_n 3, 1) := by decide +kernel
theorem dX5_nextSize_23 : decode cX5_nextSize 23 = .ok (.iload 4, 2) := by decide +kernel
theorem dX5_nextSize_25 : decode cX5_nextSize 25 = .ok (.iload_n 2, 1) := by decide +kernel
theorem dX5_nextSize_26 : decode cX5_nextSize 26 = .ok (.imul, 1) := by decide +kernel
theorem dX5_nextSize_27 : decode cX5_nextSize 27 = .ok (.iadd, 1) := by decide +kernel
theorem dX5_nextSize_28 : decode cX5_nextSize 28 = .ok (.istore 5, 2) := by decide +kernel
theorem dX5_nextSize_30 : decode cX5_nextSize 30 = .ok (.iload 5, 2) := by decide +kernel
theorem dX5_nextSize_32 : decode cX5_nextSize 32 = .ok (.iconst 1, 1) := by decide +kernel
theorem dX5_nextSize_33 : decode cX5_nextSize 33 = .ok (.bipush 60, 2) := by decide +kernel
theorem dX5_nextSize_35 : decode cX5_nextSize 35 = .ok (.invokestatic 75, 3) := by decide +kernel
theorem dX5_nextSize_38 : decode cX5_nextSize 38 = .ok (.ifCond .eq 20, 3) := by decide +kernel
theorem dX5_nextSize_41 : decode cX5_nextSize 41 = .ok (.aload_n 0, 1) := by decide +kernel
theorem dX5_nextSize_42 : decode cX5_nextSize 42 = .ok (.getfield 49, 3) := by decide +kernel
theorem dX5_nextSize_45 : decode cX5_nextSize 45 = .ok (.iload 5, 2) := by decide +kernel
theorem dX5_nextSize_47 : decode cX5_nextSize 47 = .ok (.lshr, 1) := by decide +kernel
theorem dX5_nextSize_48 : decode cX5_nextSize 48 = .ok (.lconst 1, 1) := by decide +kernel
theorem dX5_nextSize_49 : decode cX5_nextSize 49 = .ok (.land, 1) := by decide +kernel
theorem dX5_nextSize_50 : decode cX5_nextSize 50 = .ok (.lconst 1, 1) := by decide +kernel
theorem dX5_nextSize_51 : decode cX5_nextSize 51 = .ok (.lcmp, 1) := by decide +kernel
theorem dX5_nextSize_52 : decode cX5_nextSize 52 = .ok (.ifCond .ne 6, 3) := by decide +kernel
theorem dX5_nextSize_55 : decode cX5_nextSize 55 = .ok (.iload 5, 2) := by decide +kernel
theorem dX5_nextSize_57 : decode cX5_nextSize 57 = .ok (.ireturn, 1) := by decide +kernel
theorem dX5_nextSize_58 : decode cX5_nextSize 58 = .ok (.iinc 4 1, 3) := by decide +kernel
theorem dX5_nextSize_61 : decode cX5_nextSize 61 = .ok (.goto (-46), 3) := by decide +kernel
theorem dX5_nextSize_64 : decode cX5_nextSize 64 = .ok (.iconst (-1), 1) := by decide +kernel
theorem dX5_nextSize_65 : decode cX5_nextSize 65 = .ok (.ireturn, 1) := by decide +kernel
theorem dX5_quotient_0 : decode cX5_quotient 0 = .ok (.lload_n 2, 1) := by decide +kernel
theorem dX5_quotient_1 : decode cX5_quotient 1 = .ok (.lconst 0, 1) := by decide +kernel
theorem dX5_quotient_2 : decode cX5_quotient 2 = .ok (.lcmp, 1) := by decide +kernel
theorem dX5_quotient_3 : decode cX5_quotient 3 = .ok (.ifCond .ne 7, 3) := by decide +kernel
theorem dX5_quotient_6 : decode cX5_quotient 6 = .ok (.lconst 0, 1) := by decide +kernel
theorem dX5_quotient_7 : decode cX5_quotient 7 = .ok (.goto 6, 3) := by decide +kernel
theorem dX5_quotient_10 : decode cX5_quotient 10 = .ok (.lload_n 0, 1) := by decide +kernel
theorem dX5_quotient_11 : decode cX5_quotient 11 = .ok (.lload_n 2, 1) := by decide +kernel
theorem dX5_quotient_12 : decode cX5_quotient 12 = .ok (.ldiv, 1) := by decide +kernel
theorem dX5_quotient_13 : decode cX5_quotient 13 = .ok (.lreturn, 1) := by decide +kernel
set_option maxRecDepth 20000 in
theorem ggX5_sineOf_X5_quotient : GoodIn wsX5_sineOf wsX5_quotient := goodIn_r _ [8] (by decide +kernel) (by decide +kernel)
set_option maxRecDepth 20000 in
theorem gX5_sineOf_X5_quotient : GoodIn wsX5_sineOf (va_wsS RX5 79 yX5_quotient wsX5_quotient) := goodIn_app (goodIn_of _ (by decide +kernel)) ggX5_sineOf_X5_quotient
theorem dX5_sineOf_0 : decode cX5_sineOf 0 = .ok (.iload_n 0, 1) := by decide +kernel
theorem dX5_sineOf_1 : decode cX5_sineOf 1 = .ok (.sipush 32767, 3) := by decide +kernel
theorem dX5_sineOf_4 : decode cX5_sineOf 4 = .ok (.iand, 1) := by decide +kernel
theorem dX5_sineOf_5 : decode cX5_sineOf 5 = .ok (.i2l, 1) := by decide +kernel
theorem dX5_sineOf_6 : decode cX5_sineOf 6 = .ok (.lstore_n 1, 1) := by decide +kernel
theorem dX5_sineOf_7 : decode cX5_sineOf 7 = .ok (.lload_n 1, 1) := by decide +kernel
theorem dX5_sineOf_8 : decode cX5_sineOf 8 = .ok (.ldc2_w 248, 3) := by decide +kernel
theorem dX5_sineOf_11 : decode cX5_sineOf 11 = .ok (.lload_n 1, 1) := by decide +kernel
theorem dX5_sineOf_12 : decode cX5_sineOf 12 = .ok (.lsub, 1) := by decide +kernel
theorem dX5_sineOf_13 : decode cX5_sineOf 13 = .ok (.lmul, 1) := by decide +kernel
theorem dX5_sineOf_14 : decode cX5_sineOf 14 = .ok (.lstore_n 3, 1) := by decide +kernel
theorem dX5_sineOf_15 : decode cX5_sineOf 15 = .ok (.ldc2_w 250, 3) := by decide +kernel
theorem dX5_sineOf_18 : decode cX5_sineOf 18 = .ok (.lload_n 3, 1) := by decide +kernel
theorem dX5_sineOf_19 : decode cX5_sineOf 19 = .ok (.lmul, 1) := by decide +kernel
theorem dX5_sineOf_20 : decode cX5_sineOf 20 = .ok (.ldc2_w 252, 3) := by decide +kernel
theorem dX5_sineOf_23 : decode cX5_sineOf 23 = .ok (.lload_n 3, 1) := by decide +kernel
theorem dX5_sineOf_24 : decode cX5_sineOf 24 = .ok (.lsub, 1) := by decide +kernel
theorem dX5_sineOf_25 : decode cX5_sineOf 25 = .ok (.invokestatic 79, 3) := by decide +kernel
theorem dX5_sineOf_28 : decode cX5_sineOf 28 = .ok (.lstore 5, 2) := by decide +kernel
theorem dX5_sineOf_30 : decode cX5_sineOf 30 = .ok (.iload_n 0, 1) := by decide +kernel
theorem dX5_sineOf_31 : decode cX5_sineOf 31 = .ok (.ldc 254, 2) := by decide +kernel
theorem dX5_sineOf_33 : decode cX5_sineOf 33 = .ok (.iand, 1) := by decide +kernel
theorem dX5_sineOf_34 : decode cX5_sineOf 34 = .ok (.ifCond .ne 8, 3) := by decide +kernel
theorem dX5_sineOf_37 : decode cX5_sineOf 37 = .ok (.lload 5, 2) := by decide +kernel
theorem dX5_sineOf_39 : decode cX5_sineOf 39 = .ok (.goto 6, 3) := by decide +kernel
theorem dX5_sineOf_42 : decode cX5_sineOf 42 = .ok (.lload 5, 2) := by decide +kernel
theorem dX5_sineOf_44 : decode cX5_sineOf 44 = .ok (.lneg, 1) := by decide +kernel
theorem dX5_sineOf_45 : decode cX5_sineOf 45 = .ok (.lreturn, 1) := by decide +kernel
theorem dX5_at_0 : decode cX5_at 0 = .ok (.iload_n 1, 1) := by decide +kernel
theorem dX5_at_1 : decode cX5_at 1 = .ok (.ifCond .lt 15, 3) := by decide +kernel
theorem dX5_at_4 : decode cX5_at 4 = .ok (.iload_n 1, 1) := by decide +kernel
theorem dX5_at_5 : decode cX5_at 5 = .ok (.aload_n 0, 1) := by decide +kernel
theorem dX5_at_6 : decode cX5_at 6 = .ok (.arraylength, 1) := by decide +kernel
theorem dX5_at_7 : decode cX5_at 7 = .ok (.if_icmp .ge 9, 3) := by decide +kernel
theorem dX5_at_10 : decode cX5_at 10 = .ok (.aload_n 0, 1) := by decide +kernel
theorem dX5_at_11 : decode cX5_at 11 = .ok (.iload_n 1, 1) := by decide +kernel
theorem dX5_at_12 : decode cX5_at 12 = .ok (.iaload, 1) := by decide +kernel
theorem dX5_at_13 : decode cX5_at 13 = .ok (.goto 4, 3) := by decide +kernel
theorem dX5_at_16 : decode cX5_at 16 = .ok (.iconst 0, 1) := by decide +kernel
theorem dX5_at_17 : decode cX5_at 17 = .ok (.ireturn, 1) := by decide +kernel
theorem dX5_put_0 : decode cX5_put 0 = .ok (.iload_n 1, 1) := by decide +kernel
theorem dX5_put_1 : decode cX5_put 1 = .ok (.ifCond .lt 13, 3) := by decide +kernel
theorem dX5_put_4 : decode cX5_put 4 = .ok (.iload_n 1, 1) := by decide +kernel
theorem dX5_put_5 : decode cX5_put 5 = .ok (.aload_n 0, 1) := by decide +kernel
theorem dX5_put_6 : decode cX5_put 6 = .ok (.arraylength, 1) := by decide +kernel
theorem dX5_put_7 : decode cX5_put 7 = .ok (.if_icmp .ge 7, 3) := by decide +kernel
theorem dX5_put_10 : decode cX5_put 10 = .ok (.aload_n 0, 1) := by decide +kernel
theorem dX5_put_11 : decode cX5_put 11 = .ok (.iload_n 1, 1) := by decide +kernel
theorem dX5_put_12 : decode cX5_put 12 = .ok (.iload_n 2, 1) := by decide +kernel
theorem dX5_put_13 : decode cX5_put 13 = .ok (.iastore, 1) := by decide +kernel
theorem dX5_put_14 : decode cX5_put 14 = .ok (.return_, 1) := by decide +kernel
set_option maxRecDepth 20000 in
theorem ggX5_copyRow_X5_at : GoodIn wsX5_copyRow wsX5_at := goodIn_r _ [4] (by decide +kernel) (by decide +kernel)
set_option maxRecDepth 20000 in
theorem gX5_copyRow_X5_at : GoodIn wsX5_copyRow (va_wsS RX5 101 yX5_at wsX5_at) := goodIn_app (goodIn_of _ (by decide +kernel)) ggX5_copyRow_X5_at
set_option maxRecDepth 20000 in
theorem ggX5_copyRow_X5_put : GoodIn wsX5_copyRow wsX5_put := goodIn_r _ [7] (by decide +kernel) (by decide +kernel)
set_option maxRecDepth 20000 in
theorem gX5_copyRow_X5_put : GoodIn wsX5_copyRow (va_wsS RX5 255 yX5_put wsX5_put) := goodIn_app (goodIn_of _ (by decide +kernel)) ggX5_copyRow_X5_put
theorem dX5_copyRow_0 : decode cX5_copyRow 0 = .ok (.iconst 0, 1) := by decide +kernel
theorem dX5_copyRow_1 : decode cX5_copyRow 1 = .ok (.istore_n 2, 1) := by decide +kernel
theorem dX5_copyRow_2 : decode cX5_copyRow 2 = .ok (.iload_n 2, 1) := by decide +kernel
theorem dX5_copyRow_3 : decode cX5_copyRow 3 = .ok (.aload_n 0, 1) := by decide +kernel
theorem dX5_copyRow_4 : decode cX5_copyRow 4 = .ok (.arraylength, 1) := by decide +kernel
theorem dX5_copyRow_5 : decode cX5_copyRow 5 = .ok (.if_icmp .ge 19, 3) := by decide +kernel
theorem dX5_copyRow_8 : decode cX5_copyRow 8 = .ok (.aload_n 1, 1) := by decide +kernel
theorem dX5_copyRow_9 : decode cX5_copyRow 9 = .ok (.iload_n 2, 1) := by decide +kernel
theorem dX5_copyRow_10 : decode cX5_copyRow 10 = .ok (.aload_n 0, 1) := by decide +kernel
theorem dX5_copyRow_11 : decode cX5_copyRow 11 = .ok (.iload_n 2, 1) := by decide +kernel
theorem dX5_copyRow_12 : decode cX5_copyRow 12 = .ok (.invokestatic 101, 3) := by decide +kernel
theorem dX5_copyRow_15 : decode cX5_copyRow 15 = .ok (.invokestatic 255, 3) := by decide +kernel
theorem dX5_copyRow_18 : decode cX5_copyRow 18 = .ok (.iinc 2 1, 3) := by decide +kernel
theorem dX5_copyRow_21 : decode cX5_copyRow 21 = .ok (.goto (-19), 3) := by decide +kernel
theorem dX5_copyRow_24 : decode cX5_copyRow 24 = .ok (.return_, 1) := by decide +kernel
set_option maxRecDepth 20000 in
theorem ggX5_rowDifferences_X5_at : GoodIn wsX5_rowDifferences wsX5_at := goodIn_r _ [11] (by decide +kernel) (by decide +kernel)
set_option maxRecDepth 20000 in
theorem gX5_rowDifferences_X5_at : GoodIn wsX5_rowDifferences (va_wsS RX5 101 yX5_at wsX5_at) := goodIn_app (goodIn_of _ (by decide +kernel)) ggX5_rowDifferences_X5_at
theorem dX5_rowDifferences_0 : decode cX5_rowDifferences 0 = .ok (.iload_n 1, 1) := by decide +kernel
theorem dX5_rowDifferences_1 : decode cX5_rowDifferences 1 = .ok (.iload_n 3, 1) := by decide +kernel
theorem dX5_rowDifferences_2 : decode cX5_rowDifferences 2 = .ok (.invokestatic 259, 3) := by decide +kernel
theorem dX5_rowDifferences_5 : decode cX5_rowDifferences 5 = .ok (.istore 4, 2) := by decide +kernel
theorem dX5_rowDifferences_7 : decode cX5_rowDifferences 7 = .ok (.iload_n 1, 1) := by decide +kernel
theorem dX5_rowDifferences_8 : decode cX5_rowDifferences 8 = .ok (.iload_n 3, 1) := by decide +kernel
theorem dX5_rowDifferences_9 : decode cX5_rowDifferences 9 = .ok (.invokestatic 233, 3) := by decide +kernel
theorem dX5_rowDifferences_12 : decode cX5_rowDifferences 12 = .ok (.iload 4, 2) := by decide +kernel
theorem dX5_rowDifferences_14 : decode cX5_rowDifferences 14 = .ok (.isub, 1) := by decide +kernel
theorem dX5_rowDifferences_15 : decode cX5_rowDifferences 15 = .ok (.istore 5, 2) := by decide +kernel
theorem dX5_rowDifferences_17 : decode cX5_rowDifferences 17 = .ok (.iconst 0, 1) := by decide +kernel
theorem dX5_rowDifferences_18 : decode cX5_rowDifferences 18 = .ok (.istore 6, 2) := by decide +kernel
theorem dX5_rowDifferences_20 : decode cX5_rowDifferences 20 = .ok (.iload 6, 2) := by decide +kernel
theorem dX5_rowDifferences_22 : decode cX5_rowDifferences 22 = .ok (.iload 4, 2) := by decide +kernel
theorem dX5_rowDifferences_24 : decode cX5_rowDifferences 24 = .ok (.if_icmp .ge 27, 3) := by decide +kernel
theorem dX5_rowDifferences_27 : decode cX5_rowDifferences 27 = .ok (.aload_n 0, 1) := by decide +kernel
theorem dX5_rowDifferences_28 : decode cX5_rowDifferences 28 = .ok (.iload 6, 2) := by decide +kernel
theorem dX5_rowDifferences_30 : decode cX5_rowDifferences 30 = .ok (.invokestatic 101, 3) := by decide +kernel
theorem dX5_rowDifferences_33 : decode cX5_rowDifferences 33 = .ok (.aload_n 2, 1) := by decide +kernel
theorem dX5_rowDifferences_34 : decode cX5_rowDifferences 34 = .ok (.iload 6, 2) := by decide +kernel
theorem dX5_rowDifferences_36 : decode cX5_rowDifferences 36 = .ok (.invokestatic 101, 3) := by decide +kernel
theorem dX5_rowDifferences_39 : decode cX5_rowDifferences 39 = .ok (.if_icmp .eq 6, 3) := by decide +kernel
theorem dX5_rowDifferences_42 : decode cX5_rowDifferences 42 = .ok (.iinc 5 1, 3) := by decide +kernel
theorem dX5_rowDifferences_45 : decode cX5_rowDifferences 45 = .ok (.iinc 6 1, 3) := by decide +kernel
theorem dX5_rowDifferences_48 : decode cX5_rowDifferences 48 = .ok (.goto (-28), 3) := by decide +kernel
theorem dX5_rowDifferences_51 : decode cX5_rowDifferences 51 = .ok (.iload 5, 2) := by decide +kernel
theorem dX5_rowDifferences_53 : decode cX5_rowDifferences 53 = .ok (.ireturn, 1) := by decide +kernel
end
section
theorem dX6_init_0 : decode cX6_init 0 = .ok (.aload_n 0, 1) := by decide +kernel
theorem dX6_init_1 : decode cX6_init 1 = .ok (.invokespecial 1, 3) := by decide +kernel
theorem dX6_init_4 : decode cX6_init 4 = .ok (.aload_n 0, 1) := by decide +kernel
theorem dX6_init_5 : decode cX6_init 5 = .ok (.bipush 12, 2) := by decide +kernel
theorem dX6_init_7 : decode cX6_init 7 = .ok (.newarray .int, 2) := by decide +kernel
theorem dX6_init_9 : decode cX6_init 9 = .ok (.putfield 7, 3) := by decide +kernel
theorem dX6_init_12 : decode cX6_init 12 = .ok (.aload_n 0, 1) := by decide +kernel
theorem dX6_init_13 : decode cX6_init 13 = .ok (.bipush 12, 2) := by decide +kernel
theorem dX6_init_15 : decode cX6_init 15 = .ok (.newarray .int, 2) := by decide +kernel
theorem dX6_init_17 : decode cX6_init 17 = .ok (.putfield 13, 3) := by decide +kernel
theorem dX6_init_20 : decode cX6_init 20 = .ok (.aload_n 0, 1) := by decide +kernel
theorem dX6_init_21 : decode cX6_init 21 = .ok (.bipush 18, 2) := by decide +kernel
theorem dX6_init_23 : decode cX6_init 23 = .ok (.newarray .int, 2) := by decide +kernel
theorem dX6_init_25 : decode cX6_init 25 = .ok (.putfield 16, 3) := by decide +kernel
theorem dX6_init_28 : decode cX6_init 28 = .ok (.aload_n 0, 1) := by decide +kernel
theorem dX6_init_29 : decode cX6_init 29 = .ok (.iconst 2, 1) := by decide +kernel
theorem dX6_init_30 : decode cX6_init 30 = .ok (.newarray .int, 2) := by decide +kernel
theorem dX6_init_32 : decode cX6_init 32 = .ok (.putfield 19, 3) := by decide +kernel
theorem dX6_init_35 : decode cX6_init 35 = .ok (.aload_n 0, 1) := by decide +kernel
theorem dX6_init_36 : decode cX6_init 36 = .ok (.bipush 6, 2) := by decide +kernel
theorem dX6_init_38 : decode cX6_init 38 = .ok (.newarray .int, 2) := by decide +kernel
theorem dX6_init_40 : decode cX6_init 40 = .ok (.putfield 22, 3) := by decide +kernel
theorem dX6_init_43 : decode cX6_init 43 = .ok (.aload_n 0, 1) := by decide +kernel
theorem dX6_init_44 : decode cX6_init 44 = .ok (.bipush 6, 2) := by decide +kernel
theorem dX6_init_46 : decode cX6_init 46 = .ok (.newarray .int, 2) := by decide +kernel
theorem dX6_init_48 : decode cX6_init 48 = .ok (.putfield 25, 3) := by decide +kernel
theorem dX6_init_51 : decode cX6_init 51 = .ok (.aload_n 0, 1) := by decide +kernel
theorem dX6_init_52 : decode cX6_init 52 = .ok (.bipush 6, 2) := by decide +kernel
theorem dX6_init_54 : decode cX6_init 54 = .ok (.newarray .int, 2) := by decide +kernel
theorem dX6_init_56 : decode cX6_init 56 = .ok (.putfield 28, 3) := by decide +kernel
theorem dX6_init_59 : decode cX6_init 59 = .ok (.aload_n 0, 1) := by decide +kernel
theorem dX6_init_60 : decode cX6_init 60 = .ok (.bipush 61, 2) := by decide +kernel
theorem dX6_init_62 : decode cX6_init 62 = .ok (.newarray .boolean, 2) := by decide +kernel
theorem dX6_init_64 : decode cX6_init 64 = .ok (.putfield 31, 3) := by decide +kernel
theorem dX6_init_67 : decode cX6_init 67 = .ok (.aload_n 0, 1) := by decide +kernel
theorem dX6_init_68 : decode cX6_init 68 = .ok (.iconst 2, 1) := by decide +kernel
theorem dX6_init_69 : decode cX6_init 69 = .ok (.putfield 35, 3) := by decide +kernel
theorem dX6_init_72 : decode cX6_init 72 = .ok (.aload_n 0, 1) := by decide +kernel
theorem dX6_init_73 : decode cX6_init 73 = .ok (.bipush 100, 2) := by decide +kernel
theorem dX6_init_75 : decode cX6_init 75 = .ok (.newarray .int, 2) := by decide +kernel
theorem dX6_init_77 : decode cX6_init 77 = .ok (.putfield 39, 3) := by decide +kernel
theorem dX6_init_80 : decode cX6_init 80 = .ok (.iconst 1, 1) := by decide +kernel
theorem dX6_init_81 : decode cX6_init 81 = .ok (.istore_n 1, 1) := by decide +kernel
theorem dX6_init_82 : decode cX6_init 82 = .ok (.iload_n 1, 1) := by decide +kernel
theorem dX6_init_83 : decode cX6_init 83 = .ok (.bipush 61, 2) := by decide +kernel
theorem dX6_init_85 : decode cX6_init 85 = .ok (.if_icmp .ge 16, 3) := by decide +kernel
theorem dX6_init_88 : decode cX6_init 88 = .ok (.aload_n 0, 1) := by decide +kernel
theorem dX6_init_89 : decode cX6_init 89 = .ok (.getfield 31, 3) := by decide +kernel
theorem dX6_init_92 : decode cX6_init 92 = .ok (.iload_n 1, 1) := by decide +kernel
theorem dX6_init_93 : decode cX6_init 93 = .ok (.iconst 1, 1) := by decide +kernel
theorem dX6_init_94 : decode cX6_init 94 = .ok (.bastore, 1) := by decide +kernel
theorem dX6_init_95 : decode cX6_init 95 = .ok (.iinc 1 1, 3) := by decide +kernel
theorem dX6_init_98 : decode cX6_init 98 = .ok (.goto (-16), 3) := by decide +kernel
theorem dX6_init_101 : decode cX6_init 101 = .ok (.aload_n 0, 1) := by decide +kernel
theorem dX6_init_102 : decode cX6_init 102 = .ok (.getfield 39, 3) := by decide +kernel
theorem dX6_init_105 : decode cX6_init 105 = .ok (.iconst 0, 1) := by decide +kernel
theorem dX6_init_106 : decode cX6_init 106 = .ok (.iconst (-1), 1) := by decide +kernel
theorem dX6_init_107 : decode cX6_init 107 = .ok (.iastore, 1) := by decide +kernel
theorem dX6_init_108 : decode cX6_init 108 = .ok (.aload_n 0, 1) := by decide +kernel
theorem dX6_init_109 : decode cX6_init 109 = .ok (.getfield 39, 3) := by decide +kernel
theorem dX6_init_112 : decode cX6_init 112 = .ok (.bipush 50, 2) := by decide +kernel
theorem dX6_init_114 : decode cX6_init 114 = .ok (.iconst (-1), 1) := by decide +kernel
theorem dX6_init_115 : decode cX6_init 115 = .ok (.iastore, 1) := by decide +kernel
theorem dX6_init_116 : decode cX6_init 116 = .ok (.return_, 1) := by decide +kernel
theorem dX6_in_0 : decode cX6_in 0 = .ok (.lload_n 0, 1) := by decide +kernel
theorem dX6_in_1 : decode cX6_in 1 = .ok (.lload_n 2, 1) := by decide +kernel
theorem dX6_in_2 : decode cX6_in 2 = .ok (.lcmp, 1) := by decide +kernel
theorem dX6_in_3 : decode cX6_in 3 = .ok (.ifCond .lt 14, 3) := by decide +kernel
theorem dX6_in_6 : decode cX6_in 6 = .ok (.lload_n 0, 1) := by decide +kernel
theorem dX6_in_7 : decode cX6_in 7 = .ok (.lload 4, 2) := by decide +kernel
theorem dX6_in_9 : decode cX6_in 9 = .ok (.lcmp, 1) := by decide +kernel
theorem dX6_in_10 : decode cX6_in 10 = .ok (.ifCond .gt 7, 3) := by decide +kernel
theorem dX6_in_13 : decode cX6_in 13 = .ok (.iconst 1, 1) := by decide +kernel
theorem dX6_in_14 : decode cX6_in 14 = .ok (.goto 4, 3) := by decide +kernel
theorem dX6_in_17 : decode cX6_in 17 = .ok (.iconst 0, 1) := by decide +kernel
theorem dX6_in_18 : decode cX6_in 18 = .ok (.ireturn, 1) := by decide +kernel
theorem dX6_whole_0 : decode cX6_whole 0 = .ok (.iconst 0, 1) := by decide +kernel
theorem dX6_whole_1 : decode cX6_whole 1 = .ok (.istore_n 1, 1) := by decide +kernel
theorem dX6_whole_2 : decode cX6_whole 2 = .ok (.iconst 0, 1) := by decide +kernel
theorem dX6_whole_3 : decode cX6_whole 3 = .ok (.istore_n 2, 1) := by decide +kernel
theorem dX6_whole_4 : decode cX6_whole 4 = .ok (.iload_n 2, 1) := by decide +kernel
theorem dX6_whole_5 : decode cX6_whole 5 = .ok (.aload_n 0, 1) := by decide +kernel
theorem dX6_whole_6 : decode cX6_whole 6 = .ok (.getfield 42, 3) := by decide +kernel
theorem dX6_whole_9 : decode cX6_whole 9 = .ok (.if_icmp .ge 18, 3) := by decide +kernel
theorem dX6_whole_12 : decode cX6_whole 12 = .ok (.iload_n 1, 1) := by decide +kernel
theorem dX6_whole_13 : decode cX6_whole 13 = .ok (.aload_n 0, 1) := by decide +kernel
theorem dX6_whole_14 : decode cX6_whole 14 = .ok (.getfield 7, 3) := by decide +kernel
theorem dX6_whole_17 : decode cX6_whole 17 = .ok (.iload_n 2, 1) := by decide +kernel
theorem dX6_whole_18 : decode cX6_whole 18 = .ok (.iaload, 1) := by decide +kernel
theorem dX6_whole_19 : decode cX6_whole 19 = .ok (.iadd, 1) := by decide +kernel
theorem dX6_whole_20 : decode cX6_whole 20 = .ok (.istore_n 1, 1) := by decide +kernel
theorem dX6_whole_21 : decode cX6_whole 21 = .ok (.iinc 2 1, 3) := by decide +kernel
theorem dX6_whole_24 : decode cX6_whole 24 = .ok (.goto (-20), 3) := by decide +kernel
theorem dX6_whole_27 : decode cX6_whole 27 = .ok (.iload_n 1, 1) := by decide +kernel
theorem dX6_whole_28 : decode cX6_whole 28 = .ok (.ireturn, 1) := by decide +kernel
theorem dX6_add_0 : decode cX6_add 0 = .ok (.aload_n 0, 1) := by decide +kernel
theorem dX6_add_1 : decode cX6_add 1 = .ok (.getfield 7, 3) := by decide +kernel
theorem dX6_add_4 : decode cX6_add 4 = .ok (.aload_n 0, 1) := by decide +kernel
theorem dX6_add_5 : decode cX6_add 5 = .ok (.getfield 42, 3) := by decide +kernel
theorem dX6_add_8 : decode cX6_add 8 = .ok (.iload_n 1, 1) := by decide +kernel
theorem dX6_add_9 : decode cX6_add 9 = .ok (.iastore, 1) := by decide +kernel
theorem dX6_add_10 : decode cX6_add 10 = .ok (.aload_n 0, 1) := by decide +kernel
theorem dX6_add_11 : decode cX6_add 11 = .ok (.getfield 13, 3) := by decide +kernel
theorem dX6_add_14 : decode cX6_add 14 = .ok (.aload_n 0, 1) := by decide +kernel
theorem dX6_add_15 : decode cX6_add 15 = .ok (.getfield 42, 3) := by decide +kernel
theorem dX6_add_18 : decode cX6_add 18 = .ok (.iload_n 2, 1) := by decide +kernel
theorem dX6_add_19 : decode cX6_add 19 = .ok (.iastore, 1) := by decide +kernel
theorem dX6_add_20 : decode cX6_add 20 = .ok (.aload_n 0, 1) := by decide +kernel
theorem dX6_add_21 : decode cX6_add 21 = .ok (.dup, 1) := by decide +kernel
theorem dX6_add_22 : decode cX6_add 22 = .ok (.getfield 42, 3) := by decide +kernel
theorem dX6_add_25 : decode cX6_add 25 = .ok (.iconst 1, 1) := by decide +kernel
theorem dX6_add_26 : decode cX6_add 26 = .ok (.iadd, 1) := by decide +kernel
theorem dX6_add_27 : decode cX6_add 27 = .ok (.putfield 42, 3) := by decide +kernel
theorem dX6_add_30 : decode cX6_add 30 = .ok (.return_, 1) := by decide +kernel
set_option maxRecDepth 20000 in
theorem ggX6_piece_X6_in : GoodIn wsX6_piece wsX6_in := goodIn_r _ [7] (by decide +kernel) (by decide +kernel)
set_option maxRecDepth 20000 in
theorem gX6_piece_X6_in : GoodIn wsX6_piece (va_wsS RX6 47 yX6_in wsX6_in) := goodIn_app (goodIn_of _ (by decide +kernel)) ggX6_piece_X6_in
set_option maxRecDepth 20000 in
theorem ggX6_piece_X6_add : GoodIn wsX6_piece wsX6_add := goodIn_r _ [11, 12, 3, 13, 18, 19, 20, 21, 22, 23, 24, 25, 26, 27, 28, 29, 30, 31, 32] (by decide +kernel) (by decide +kernel)
set_option maxRecDepth 20000 in
theorem gX6_piece_X6_add : GoodIn wsX6_piece (wsV RX6 53 RX6 yX6_add wsX6_add) := goodIn_app (goodIn_of _ (by decide +kernel)) ggX6_piece_X6_add
set_option maxRecDepth 20000 in
theorem ggX6_piece_X6_whole : GoodIn wsX6_piece wsX6_whole := goodIn_r _ [17, 3, 12, 18, 19, 20, 21, 22, 23, 24, 25, 26, 27, 28, 29, 30, 31, 32] (by decide +kernel) (by decide +kernel)
set_option maxRecDepth 20000 in
theorem gX6_piece_X6_whole : GoodIn wsX6_piece (wsV RX6 57 RX6 yX6_whole wsX6_whole) := goodIn_app (goodIn_of _ (by decide +kernel)) ggX6_piece_X6_whole
theorem dX6_piece_0 : decode cX6_piece 0 = .ok (.iload_n 1, 1) := by decide +kernel
theorem dX6_piece_1 : decode cX6_piece 1 = .ok (.i2l, 1) := by decide +kernel
theorem dX6_piece_2 : decode cX6_piece 2 = .ok (.lconst 1, 1) := by decide +kernel
theorem dX6_piece_3 : decode cX6_piece 3 = .ok (.ldc2_w 45, 3) := by decide +kernel
theorem dX6_piece_6 : decode cX6_piece 6 = .ok (.invokestatic 47, 3) := by decide +kernel
theorem dX6_piece_9 : decode cX6_piece 9 = .ok (.ifCond .eq 15, 3) := by decide +kernel
theorem dX6_piece_12 : decode cX6_piece 12 = .ok (.iload_n 2, 1) := by decide +kernel
theorem dX6_piece_13 : decode cX6_piece 13 = .ok (.i2l, 1) := by decide +kernel
theorem dX6_piece_14 : decode cX6_piece 14 = .ok (.lconst 1, 1) := by decide +kernel
theorem dX6_piece_15 : decode cX6_piece 15 = .ok (.ldc2_w 51, 3) := by decide +kernel
theorem dX6_piece_18 : decode cX6_piece 18 = .ok (.invokestatic 47, 3) := by decide +kernel
theorem dX6_piece_21 : decode cX6_piece 21 = .ok (.ifCond .ne 7, 3) := by decide +kernel
theorem dX6_piece_24 : decode cX6_piece 24 = .ok (.sipush (-1002), 3) := by decide +kernel
theorem dX6_piece_27 : decode cX6_piece 27 = .ok (.ireturn, 1) := by decide +kernel
theorem dX6_piece_28 : decode cX6_piece 28 = .ok (.aload_n 0, 1) := by decide +kernel
theorem dX6_piece_29 : decode cX6_piece 29 = .ok (.getfield 42, 3) := by decide +kernel
theorem dX6_piece_32 : decode cX6_piece 32 = .ok (.bipush 12, 2) := by decide +kernel
theorem dX6_piece_34 : decode cX6_piece 34 = .ok (.if_icmp .ne 7, 3) := by decide +kernel
theorem dX6_piece_37 : decode cX6_piece 37 = .ok (.sipush (-1004), 3) := by decide +kernel
theorem dX6_piece_40 : decode cX6_piece 40 = .ok (.ireturn, 1) := by decide +kernel
theorem dX6_piece_41 : decode cX6_piece 41 = .ok (.aload_n 0, 1) := by decide +kernel
theorem dX6_piece_42 : decode cX6_piece 42 = .ok (.iload_n 1, 1) := by decide +kernel
theorem dX6_piece_43 : decode cX6_piece 43 = .ok (.iload_n 2, 1) := by decide +kernel
theorem dX6_piece_44 : decode cX6_piece 44 = .ok (.invokevirtual 53, 3) := by decide +kernel
theorem dX6_piece_47 : decode cX6_piece 47 = .ok (.aload_n 0, 1) := by decide +kernel
theorem dX6_piece_48 : decode cX6_piece 48 = .ok (.invokevirtual 57, 3) := by decide +kernel
theorem dX6_piece_51 : decode cX6_piece 51 = .ok (.ireturn, 1) := by decide +kernel
set_option maxRecDepth 20000 in
theorem ggX6_cone_X6_in : GoodIn wsX6_cone wsX6_in := goodIn_r _ [9] (by decide +kernel) (by decide +kernel)
set_option maxRecDepth 20000 in
theorem gX6_cone_X6_in : GoodIn wsX6_cone (va_wsS RX6 47 yX6_in wsX6_in) := goodIn_app (goodIn_of _ (by decide +kernel)) ggX6_cone_X6_in
set_option maxRecDepth 20000 in
theorem ggX6_cone_X6_add : GoodIn wsX6_cone wsX6_add := goodIn_r _ [13, 14, 5, 15, 20, 21, 22, 23, 24, 25, 26, 27, 28, 29, 30, 31, 32, 33, 34] (by decide +kernel) (by decide +kernel)
set_option maxRecDepth 20000 in
theorem gX6_cone_X6_add : GoodIn wsX6_cone (wsV RX6 53 RX6 yX6_add wsX6_add) := goodIn_app (goodIn_of _ (by decide +kernel)) ggX6_cone_X6_add
set_option maxRecDepth 20000 in
theorem ggX6_cone_X6_whole : GoodIn wsX6_cone wsX6_whole := goodIn_r _ [19, 5, 14, 20, 21, 22, 23, 24, 25, 26, 27, 28, 29, 30, 31, 32, 33, 34] (by decide +kernel) (by decide +kernel)
set_option maxRecDepth 20000 in
theorem gX6_cone_X6_whole : GoodIn wsX6_cone (wsV RX6 57 RX6 yX6_whole wsX6_whole) := goodIn_app (goodIn_of _ (by decide +kernel)) ggX6_cone_X6_whole
theorem dX6_cone_0 : decode cX6_cone 0 = .ok (.iload_n 1, 1) := by decide +kernel
theorem dX6_cone_1 : decode cX6_cone 1 = .ok (.i2l, 1) := by decide +kernel
theorem dX6_cone_2 : decode cX6_cone 2 = .ok (.lconst 1, 1) := by decide +kernel
theorem dX6_cone_3 : decode cX6_cone 3 = .ok (.ldc2_w 45, 3) := by decide +kernel
theorem dX6_cone_6 : decode cX6_cone 6 = .ok (.invokestatic 47, 3) := by decide +kernel
theorem dX6_cone_9 : decode cX6_cone 9 = .ok (.ifCond .eq 42, 3) := by decide +kernel
theorem dX6_cone_12 : decode cX6_cone 12 = .ok (.iload_n 2, 1) := by decide +kernel
theorem dX6_cone_13 : decode cX6_cone 13 = .ok (.i2l, 1) := by decide +kernel
theorem dX6_cone_14 : decode cX6_cone 14 = .ok (.lconst 1, 1) := by decide +kernel
theorem dX6_cone_15 : decode cX6_cone 15 = .ok (.ldc2_w 51, 3) := by decide +kernel
theorem dX6_cone_18 : decode cX6_cone 18 = .ok (.invokestatic 47, 3) := by decide +kernel
theorem dX6_cone_21 : decode cX6_cone 21 = .ok (.ifCond .eq 30, 3) := by decide +kernel
theorem dX6_cone_24 : decode cX6_cone 24 = .ok (.iload_n 3, 1) := by decide +kernel
theorem dX6_cone_25 : decode cX6_cone 25 = .ok (.i2l, 1) := by decide +kernel
theorem dX6_cone_26 : decode cX6_cone 26 = .ok (.lconst 1, 1) := by decide +kernel
theorem dX6_cone_27 : decode cX6_cone 27 = .ok (.ldc2_w 51, 3) := by decide +kernel
theorem dX6_cone_30 : decode cX6_cone 30 = .ok (.invokestatic 47, 3) := by decide +kernel
theorem dX6_cone_33 : decode cX6_cone 33 = .ok (.ifCond .eq 18, 3) := by decide +kernel
theorem dX6_cone_36 : decode cX6_cone 36 = .ok (.iload 4, 2) := by decide +kernel
theorem dX6_cone_38 : decode cX6_cone 38 = .ok (.i2l, 1) := by decide +kernel
theorem dX6_cone_39 : decode cX6_cone 39 = .ok (.ldc2_w 61, 3) := by decide +kernel
theorem dX6_cone_42 : decode cX6_cone 42 = .ok (.ldc2_w 63, 3) := by decide +kernel
theorem dX6_cone_45 : decode cX6_cone 45 = .ok (.invokestatic 47, 3) := by decide +kernel
theorem dX6_cone_48 : decode cX6_cone 48 = .ok (.ifCond .ne 7, 3) := by decide +kernel
theorem dX6_cone_51 : decode cX6_cone 51 = .ok (.sipush (-1002), 3) := by decide +kernel
theorem dX6_cone_54 : decode cX6_cone 54 = .ok (.ireturn, 1) := by decide +kernel
theorem dX6_cone_55 : decode cX6_cone 55 = .ok (.aload_n 0, 1) := by decide +kernel
theorem dX6_cone_56 : decode cX6_cone 56 = .ok (.getfield 42, 3) := by decide +kernel
theorem dX6_cone_59 : decode cX6_cone 59 = .ok (.iload 4, 2) := by decide +kernel
theorem dX6_cone_61 : decode cX6_cone 61 = .ok (.iadd, 1) := by decide +kernel
theorem dX6_cone_62 : decode cX6_cone 62 = .ok (.bipush 12, 2) := by decide +kernel
theorem dX6_cone_64 : decode cX6_cone 64 = .ok (.if_icmp .le 7, 3) := by decide +kernel
theorem dX6_cone_67 : decode cX6_cone 67 = .ok (.sipush (-1004), 3) := by decide +kernel
theorem dX6_cone_70 : decode cX6_cone 70 = .ok (.ireturn, 1) := by decide +kernel
theorem dX6_cone_71 : decode cX6_cone 71 = .ok (.iconst 0, 1) := by decide +kernel
theorem dX6_cone_72 : decode cX6_cone 72 = .ok (.istore 5, 2) := by decide +kernel
theorem dX6_cone_74 : decode cX6_cone 74 = .ok (.iload 5, 2) := by decide +kernel
theorem dX6_cone_76 : decode cX6_cone 76 = .ok (.iload 4, 2) := by decide +kernel
theorem dX6_cone_78 : decode cX6_cone 78 = .ok (.if_icmp .ge 27, 3) := by decide +kernel
theorem dX6_cone_81 : decode cX6_cone 81 = .ok (.aload_n 0, 1) := by decide +kernel
theorem dX6_cone_82 : decode cX6_cone 82 = .ok (.iload_n 1, 1) := by decide +kernel
theorem dX6_cone_83 : decode cX6_cone 83 = .ok (.iload_n 2, 1) := by decide +kernel
theorem dX6_cone_84 : decode cX6_cone 84 = .ok (.iload_n 3, 1) := by decide +kernel
theorem dX6_cone_85 : decode cX6_cone 85 = .ok (.iload_n 2, 1) := by decide +kernel
theorem dX6_cone_86 : decode cX6_cone 86 = .ok (.isub, 1) := by decide +kernel
theorem dX6_cone_87 : decode cX6_cone 87 = .ok (.iload 5, 2) := by decide +kernel
theorem dX6_cone_89 : decode cX6_cone 89 = .ok (.imul, 1) := by decide +kernel
theorem dX6_cone_90 : decode cX6_cone 90 = .ok (.iload 4, 2) := by decide +kernel
theorem dX6_cone_92 : decode cX6_cone 92 = .ok (.iconst 1, 1) := by decide +kernel
theorem dX6_cone_93 : decode cX6_cone 93 = .ok (.isub, 1) := by decide +kernel
theorem dX6_cone_94 : decode cX6_cone 94 = .ok (.idiv, 1) := by decide +kernel
theorem dX6_cone_95 : decode cX6_cone 95 = .ok (.iadd, 1) := by decide +kernel
theorem dX6_cone_96 : decode cX6_cone 96 = .ok (.invokevirtual 53, 3) := by decide +kernel
theorem dX6_cone_99 : decode cX6_cone 99 = .ok (.iinc 5 1, 3) := by decide +kernel
theorem dX6_cone_102 : decode cX6_cone 102 = .ok (.goto (-28), 3) := by decide +kernel
theorem dX6_cone_105 : decode cX6_cone 105 = .ok (.aload_n 0, 1) := by decide +kernel
theorem dX6_cone_106 : decode cX6_cone 106 = .ok (.invokevirtual 57, 3) := by decide +kernel
theorem dX6_cone_109 : decode cX6_cone 109 = .ok (.ireturn, 1) := by decide +kernel
set_option maxRecDepth 20000 in
theorem ggX6_fits_X6_whole : GoodIn wsX6_fits wsX6_whole := goodIn_r _ [6, 7, 8, 12, 13, 14, 15, 16, 17, 18, 19, 20, 21, 22, 23, 24, 25, 26] (by decide +kernel) (by decide +kernel)
set_option maxRecDepth 20000 in
theorem gX6_fits_X6_whole : GoodIn wsX6_fits (wsV RX6 57 RX6 yX6_whole wsX6_whole) := goodIn_app (goodIn_of _ (by decide +kernel)) ggX6_fits_X6_whole
set_option maxRecDepth 20000 in
theorem ggX6_fits_X6_in : GoodIn wsX6_fits wsX6_in := goodIn_r _ [11] (by decide +kernel) (by decide +kernel)
set_option maxRecDepth 20000 in
theorem gX6_fits_X6_in : GoodIn wsX6_fits (va_wsS RX6 47 yX6_in wsX6_in) := goodIn_app (goodIn_of _ (by decide +kernel)) ggX6_fits_X6_in
theorem dX6_fits_0 : decode cX6_fits 0 = .ok (.iload_n 1, 1) := by decide +kernel
theorem dX6_fits_1 : decode cX6_fits 1 = .ok (.ifCond .ne 19, 3) := by decide +kernel
theorem dX6_fits_4 : decode cX6_fits 4 = .ok (.iload_n 2, 1) := by decide +kernel
theorem dX6_fits_5 : decode cX6_fits 5 = .ok (.i2l, 1) := by decide +kernel
theorem dX6_fits_6 : decode cX6_fits 6 = .ok (.lconst 1, 1) := by decide +kernel
theorem dX6_fits_7 : decode cX6_fits 7 = .ok (.aload_n 0, 1) := by decide +kernel
theorem dX6_fits_8 : decode cX6_fits 8 = .ok (.invokevirtual 57, 3) := by decide +kernel
theorem dX6_fits_11 : decode cX6_fits 11 = .ok (.iconst 1, 1) := by decide +kernel
theorem dX6_fits_12 : decode cX6_fits 12 = .ok (.isub, 1) := by decide +kernel
theorem dX6_fits_13 : decode cX6_fits 13 = .ok (.i2l, 1) := by decide +kernel
theorem dX6_fits_14 : decode cX6_fits 14 = .ok (.invokestatic 47, 3) := by decide +kernel
theorem dX6_fits_17 : decode cX6_fits 17 = .ok (.goto 21, 3) := by decide +kernel
theorem dX6_fits_20 : decode cX6_fits 20 = .ok (.iload_n 2, 1) := by decide +kernel
theorem dX6_fits_21 : decode cX6_fits 21 = .ok (.i2l, 1) := by decide +kernel
theorem dX6_fits_22 : decode cX6_fits 22 = .ok (.iload_n 1, 1) := by decide +kernel
theorem dX6_fits_23 : decode cX6_fits 23 = .ok (.iconst 1, 1) := by decide +kernel
theorem dX6_fits_24 : decode cX6_fits 24 = .ok (.if_icmp .ne 7, 3) := by decide +kernel
theorem dX6_fits_27 : decode cX6_fits 27 = .ok (.lconst 1, 1) := by decide +kernel
theorem dX6_fits_28 : decode cX6_fits 28 = .ok (.goto 4, 3) := by decide +kernel
theorem dX6_fits_31 : decode cX6_fits 31 = .ok (.lconst 0, 1) := by decide +kernel
theorem dX6_fits_32 : decode cX6_fits 32 = .ok (.ldc2_w 65, 3) := by decide +kernel
theorem dX6_fits_35 : decode cX6_fits 35 = .ok (.invokestatic 47, 3) := by decide +kernel
theorem dX6_fits_38 : decode cX6_fits 38 = .ok (.ireturn, 1) := by decide +kernel
theorem dX6_holeAt_0 : decode cX6_holeAt 0 = .ok (.iconst (-1), 1) := by decide +kernel
theorem dX6_holeAt_1 : decode cX6_holeAt 1 = .ok (.istore_n 2, 1) := by decide +kernel
theorem dX6_holeAt_2 : decode cX6_holeAt 2 = .ok (.iconst 0, 1) := by decide +kernel
theorem dX6_holeAt_3 : decode cX6_holeAt 3 = .ok (.istore_n 3, 1) := by decide +kernel
theorem dX6_holeAt_4 : decode cX6_holeAt 4 = .ok (.iload_n 3, 1) := by decide +kernel
theorem dX6_holeAt_5 : decode cX6_holeAt 5 = .ok (.aload_n 0, 1) := by decide +kernel
theorem dX6_holeAt_6 : decode cX6_holeAt 6 = .ok (.getfield 67, 3) := by decide +kernel
theorem dX6_holeAt_9 : decode cX6_holeAt 9 = .ok (.if_icmp .ge 27, 3) := by decide +kernel
theorem dX6_holeAt_12 : decode cX6_holeAt 12 = .ok (.aload_n 0, 1) := by decide +kernel
theorem dX6_holeAt_13 : decode cX6_holeAt 13 = .ok (.getfield 16, 3) := by decide +kernel
theorem dX6_holeAt_16 : decode cX6_holeAt 16 = .ok (.iconst 3, 1) := by decide +kernel
theorem dX6_holeAt_17 : decode cX6_holeAt 17 = .ok (.iload_n 3, 1) := by decide +kernel
theorem dX6_holeAt_18 : decode cX6_holeAt 18 = .ok (.imul, 1) := by decide +kernel
theorem dX6_holeAt_19 : decode cX6_holeAt 19 = .ok (.iaload, 1) := by decide +kernel
theorem dX6_holeAt_20 : decode cX6_holeAt 20 = .ok (.iload_n 1, 1) := by decide +kernel
theorem dX6_holeAt_21 : decode cX6_holeAt 21 = .ok (.if_icmp .ne 7, 3) := by decide +kernel
theorem dX6_holeAt_24 : decode cX6_holeAt 24 = .ok (.iload_n 3, 1) := by decide +kernel
theorem dX6_holeAt_25 : decode cX6_holeAt 25 = .ok (.goto 4, 3) := by decide +kernel
theorem dX6_holeAt_28 : decode cX6_holeAt 28 = .ok (.iload_n 2, 1) := by decide +kernel
theorem dX6_holeAt_29 : decode cX6_holeAt 29 = .ok (.istore_n 2, 1) := by decide +kernel
theorem dX6_holeAt_30 : decode cX6_holeAt 30 = .ok (.iinc 3 1, 3) := by decide +kernel
theorem dX6_holeAt_33 : decode cX6_holeAt 33 = .ok (.goto (-29), 3) := by decide +kernel
theorem dX6_holeAt_36 : decode cX6_holeAt 36 = .ok (.iload_n 2, 1) := by decide +kernel
theorem dX6_holeAt_37 : decode cX6_holeAt 37 = .ok (.ireturn, 1) := by decide +kernel
set_option maxRecDepth 20000 in
theorem ggX6_hole_X6_fits : GoodIn wsX6_hole wsX6_fits := goodIn_r _ [7, 8, 9, 10, 11, 6, 12, 13, 14, 15, 16, 17, 22, 23, 24, 25, 26, 27, 28, 29, 30, 31, 32, 33, 34, 35, 36] (by decide +kernel) (by decide +kernel)
set_option maxRecDepth 20000 in
theorem gX6_hole_X6_fits : GoodIn wsX6_hole (wsV RX6 70 RX6 yX6_fits wsX6_fits) := goodIn_app (goodIn_of _ (by decide +kernel)) ggX6_hole_X6_fits
set_option maxRecDepth 20000 in
theorem ggX6_hole_X6_holeAt : GoodIn wsX6_hole wsX6_holeAt := goodIn_r _ [21, 1, 2, 22, 23, 24, 25, 26, 27, 28, 29, 30, 31, 32, 33, 34, 35, 36] (by decide +kernel) (by decide +kernel)
set_option maxRecDepth 20000 in
theorem gX6_hole_X6_holeAt : GoodIn wsX6_hole (wsV RX6 74 RX6 yX6_holeAt wsX6_holeAt) := goodIn_app (goodIn_of _ (by decide +kernel)) ggX6_hole_X6_holeAt
theorem dX6_hole_0 : decode cX6_hole 0 = .ok (.aload_n 0, 1) := by decide +kernel
theorem dX6_hole_1 : decode cX6_hole 1 = .ok (.iconst 0, 1) := by decide +kernel
theorem dX6_hole_2 : decode cX6_hole 2 = .ok (.iload_n 1, 1) := by decide +kernel
theorem dX6_hole_3 : decode cX6_hole 3 = .ok (.invokevirtual 70, 3) := by decide +kernel
theorem dX6_hole_6 : decode cX6_hole 6 = .ok (.ifCond .eq 21, 3) := by decide +kernel
theorem dX6_hole_9 : decode cX6_hole 9 = .ok (.aload_n 0, 1) := by decide +kernel
theorem dX6_hole_10 : decode cX6_hole 10 = .ok (.iconst 1, 1) := by decide +kernel
theorem dX6_hole_11 : decode cX6_hole 11 = .ok (.iload_n 2, 1) := by decide +kernel
theorem dX6_hole_12 : decode cX6_hole 12 = .ok (.invokevirtual 70, 3) := by decide +kernel
theorem dX6_hole_15 : decode cX6_hole 15 = .ok (.ifCond .eq 12, 3) := by decide +kernel
theorem dX6_hole_18 : decode cX6_hole 18 = .ok (.aload_n 0, 1) := by decide +kernel
theorem dX6_hole_19 : decode cX6_hole 19 = .ok (.iconst 2, 1) := by decide +kernel
theorem dX6_hole_20 : decode cX6_hole 20 = .ok (.iload_n 3, 1) := by decide +kernel
theorem dX6_hole_21 : decode cX6_hole 21 = .ok (.invokevirtual 70, 3) := by decide +kernel
theorem dX6_hole_24 : decode cX6_hole 24 = .ok (.ifCond .ne 7, 3) := by decide +kernel
theorem dX6_hole_27 : decode cX6_hole 27 = .ok (.sipush (-1002), 3) := by decide +kernel
theorem dX6_hole_30 : decode cX6_hole 30 = .ok (.ireturn, 1) := by decide +kernel
theorem dX6_hole_31 : decode cX6_hole 31 = .ok (.aload_n 0, 1) := by decide +kernel
theorem dX6_hole_32 : decode cX6_hole 32 = .ok (.iload_n 1, 1) := by decide +kernel
theorem dX6_hole_33 : decode cX6_hole 33 = .ok (.invokevirtual 74, 3) := by decide +kernel
theorem dX6_hole_36 : decode cX6_hole 36 = .ok (.ifCond .lt 7, 3) := by decide +kernel
theorem dX6_hole_39 : decode cX6_hole 39 = .ok (.sipush (-1003), 3) := by decide +kernel
theorem dX6_hole_42 : decode cX6_hole 42 = .ok (.ireturn, 1) := by decide +kernel
theorem dX6_hole_43 : decode cX6_hole 43 = .ok (.aload_n 0, 1) := by decide +kernel
theorem dX6_hole_44 : decode cX6_hole 44 = .ok (.getfield 67, 3) := by decide +kernel
theorem dX6_hole_47 : decode cX6_hole 47 = .ok (.bipush 6, 2) := by decide +kernel
theorem dX6_hole_49 : decode cX6_hole 49 = .ok (.if_icmp .ne 7, 3) := by decide +kernel
theorem dX6_hole_52 : decode cX6_hole 52 = .ok (.sipush (-1004), 3) := by decide +kernel
theorem dX6_hole_55 : decode cX6_hole 55 = .ok (.ireturn, 1) := by decide +kernel
theorem dX6_hole_56 : decode cX6_hole 56 = .ok (.aload_n 0, 1) := by decide +kernel
theorem dX6_hole_57 : decode cX6_hole 57 = .ok (.getfield 16, 3) := by decide +kernel
theorem dX6_hole_60 : decode cX6_hole 60 = .ok (.iconst 3, 1) := by decide +kernel
theorem dX6_hole_61 : decode cX6_hole 61 = .ok (.aload_n 0, 1) := by decide +kernel
theorem dX6_hole_62 : decode cX6_hole 62 = .ok (.getfield 67, 3) := by decide +kernel
theorem dX6_hole_65 : decode cX6_hole 65 = .ok (.imul, 1) := by decide +kernel
theorem dX6_hole_66 : decode cX6_hole 66 = .ok (.iload_n 1, 1) := by decide +kernel
theorem dX6_hole_67 : decode cX6_hole 67 = .ok (.iastore, 1) := by decide +kernel
theorem dX6_hole_68 : decode cX6_hole 68 = .ok (.aload_n 0, 1) := by decide +kernel
theorem dX6_hole_69 : decode cX6_hole 69 = .ok (.getfield 16, 3) := by decide +kernel
theorem dX6_hole_72 : decode cX6_hole 72 = .ok (.iconst 3, 1) := by decide +kernel
theorem dX6_hole_73 : decode cX6_hole 73 = .ok (.aload_n 0, 1) := by decide +kernel
theorem dX6_hole_74 : decode cX6_hole 74 = .ok (.getfield 67, 3) := by decide +kernel
theorem dX6_hole_77 : decode cX6_hole 77 = .ok (.imul, 1) := by decide +kernel
theorem dX6_hole_78 : decode cX6_hole 78 = .ok (.iconst 1, 1) := by decide +kernel
theorem dX6_hole_79 : decode cX6_hole 79 = .ok (.iadd, 1) := by decide +kernel
theorem dX6_hole_80 : decode cX6_hole 80 = .ok (.iload_n 2, 1) := by decide +kernel
theorem dX6_hole_81 : decode cX6_hole 81 = .ok (.iastore, 1) := by decide +kernel
theorem dX6_hole_82 : decode cX6_hole 82 = .ok (.aload_n 0, 1) := by decide +kernel
theorem dX6_hole_83 : decode cX6_hole 83 = .ok (.getfield 16, 3) := by decide +kernel
theorem dX6_hole_86 : decode cX6_hole 86 = .ok (.iconst 3, 1) := by decide +kernel
theorem dX6_hole_87 : decode cX6_hole 87 = .ok (.aload_n 0, 1) := by decide +kernel
theorem dX6_hole_88 : decode cX6_hole 88 = .ok (.getfield 67, 3) := by decide +kernel
theorem dX6_hole_91 : decode cX6_hole 91 = .ok (.imul, 1) := by decide +kernel
theorem dX6_hole_92 : decode cX6_hole 92 = .ok (.iconst 2, 1) := by decide +kernel
theorem dX6_hole_93 : decode cX6_hole 93 = .ok (.iadd, 1) := by decide +kernel
theorem dX6_hole_94 : decode cX6_hole 94 = .ok (.iload_n 3, 1) := by decide +kernel
theorem dX6_hole_95 : decode cX6_hole 95 = .ok (.iastore, 1) := by decide +kernel
theorem dX6_hole_96 : decode cX6_hole 96 = .ok (.aload_n 0, 1) := by decide +kernel
theorem dX6_hole_97 : decode cX6_hole 97 = .ok (.dup, 1) := by decide +kernel
theorem dX6_hole_98 : decode cX6_hole 98 = .ok (.getfield 67, 3) := by decide +kernel
theorem dX6_hole_101 : decode cX6_hole 101 = .ok (.iconst 1, 1) := by decide +kernel
theorem dX6_hole_102 : decode cX6_hole 102 = .ok (.iadd, 1) := by decide +kernel
theorem dX6_hole_103 : decode cX6_hole 103 = .ok (.putfield 67, 3) := by decide +kernel
theorem dX6_hole_106 : decode cX6_hole 106 = .ok (.aload_n 0, 1) := by decide +kernel
theorem dX6_hole_107 : decode cX6_hole 107 = .ok (.getfield 67, 3) := by decide +kernel
theorem dX6_hole_110 : decode cX6_hole 110 = .ok (.iconst 1, 1) := by decide +kernel
theorem dX6_hole_111 : decode cX6_hole 111 = .ok (.isub, 1) := by decide +kernel
theorem dX6_hole_112 : decode cX6_hole 112 = .ok (.ireturn, 1) := by decide +kernel
set_option maxRecDepth 20000 in
theorem ggX6_isHole_X6_in : GoodIn wsX6_isHole wsX6_in := goodIn_r _ [5] (by decide +kernel) (by decide +kernel)
set_option maxRecDepth 20000 in
theorem gX6_isHole_X6_in : GoodIn wsX6_isHole (va_wsS RX6 47 yX6_in wsX6_in) := goodIn_app (goodIn_of _ (by decide +kernel)) ggX6_isHole_X6_in
theorem dX6_isHole_0 : decode cX6_isHole 0 = .ok (.iload_n 1, 1) := by decide +kernel
theorem dX6_isHole_1 : decode cX6_isHole 1 = .ok (.i2l, 1) := by decide +kernel
theorem dX6_isHole_2 : decode cX6_isHole 2 = .ok (.lconst 0, 1) := by decide +kernel
theorem dX6_isHole_3 : decode cX6_isHole 3 = .ok (.aload_n 0, 1) := by decide +kernel
theorem dX6_isHole_4 : decode cX6_isHole 4 = .ok (.getfield 67, 3) := by decide +kernel
theorem dX6_isHole_7 : decode cX6_isHole 7 = .ok (.iconst 1, 1) := by decide +kernel
theorem dX6_isHole_8 : decode cX6_isHole 8 = .ok (.isub, 1) := by decide +kernel
theorem dX6_isHole_9 : decode cX6_isHole 9 = .ok (.i2l, 1) := by decide +kernel
theorem dX6_isHole_10 : decode cX6_isHole 10 = .ok (.invokestatic 47, 3) := by decide +kernel
theorem dX6_isHole_13 : decode cX6_isHole 13 = .ok (.ireturn, 1) := by decide +kernel
set_option maxRecDepth 20000 in
theorem ggX6_set_X6_isHole : GoodIn wsX6_set wsX6_isHole := goodIn_r _ [7, 8, 9, 10, 6, 11, 27, 28, 29, 30, 31, 32, 33, 34, 35, 36, 37, 38, 39, 40, 41] (by decide +kernel) (by decide +kernel)
set_option maxRecDepth 20000 in
theorem gX6_set_X6_isHole : GoodIn wsX6_set (wsV RX6 78 RX6 yX6_isHole wsX6_isHole) := goodIn_app (goodIn_of _ (by decide +kernel)) ggX6_set_X6_isHole
set_option maxRecDepth 20000 in
theorem ggX6_set_X6_in : GoodIn wsX6_set wsX6_in := goodIn_r _ [11] (by decide +kernel) (by decide +kernel)
set_option maxRecDepth 20000 in
theorem gX6_set_X6_in : GoodIn wsX6_set (va_wsS RX6 47 yX6_in wsX6_in) := goodIn_app (goodIn_of _ (by decide +kernel)) ggX6_set_X6_in
set_option maxRecDepth 20000 in
theorem ggX6_set_X6_fits : GoodIn wsX6_set wsX6_fits := goodIn_r _ [15, 16, 17, 18, 19, 6, 20, 21, 22, 9, 10, 11, 27, 28, 29, 30, 31, 32, 33, 34, 35, 36, 37, 38, 39, 40, 41] (by decide +kernel) (by decide +kernel)
set_option maxRecDepth 20000 in
theorem gX6_set_X6_fits : GoodIn wsX6_set (wsV RX6 70 RX6 yX6_fits wsX6_fits) := goodIn_app (goodIn_of _ (by decide +kernel)) ggX6_set_X6_fits
set_option maxRecDepth 20000 in
theorem ggX6_set_X6_holeAt : GoodIn wsX6_set wsX6_holeAt := goodIn_r _ [26, 8, 2, 27, 28, 29, 30, 31, 32, 33, 34, 35, 36, 37, 38, 39, 40, 41] (by decide +kernel) (by decide +kernel)
set_option maxRecDepth 20000 in
theorem gX6_set_X6_holeAt : GoodIn wsX6_set (wsV RX6 74 RX6 yX6_holeAt wsX6_holeAt) := goodIn_app (goodIn_of _ (by decide +kernel)) ggX6_set_X6_holeAt
theorem dX6_set_0 : decode cX6_set 0 = .ok (.aload_n 0, 1) := by decide +kernel
theorem dX6_set_1 : decode cX6_set 1 = .ok (.iload_n 1, 1) := by decide +kernel
theorem dX6_set_2 : decode cX6_set 2 = .ok (.invokevirtual 78, 3) := by decide +kernel
theorem dX6_set_5 : decode cX6_set 5 = .ok (.ifCond .ne 7, 3) := by decide +kernel
theorem dX6_set_8 : decode cX6_set 8 = .ok (.sipush (-1001), 3) := by decide +kernel
theorem dX6_set_11 : decode cX6_set 11 = .ok (.ireturn, 1) := by decide +kernel
theorem dX6_set_12 : decode cX6_set 12 = .ok (.iload_n 2, 1) := by decide +kernel
theorem dX6_set_13 : decode cX6_set 13 = .ok (.i2l, 1) := by decide +kernel
theorem dX6_set_14 : decode cX6_set 14 = .ok (.lconst 0, 1) := by decide +kernel
theorem dX6_set_15 : decode cX6_set 15 = .ok (.ldc2_w 61, 3) := by decide +kernel
theorem dX6_set_18 : decode cX6_set 18 = .ok (.invokestatic 47, 3) := by decide +kernel
theorem dX6_set_21 : decode cX6_set 21 = .ok (.ifCond .eq 12, 3) := by decide +kernel
theorem dX6_set_24 : decode cX6_set 24 = .ok (.aload_n 0, 1) := by decide +kernel
theorem dX6_set_25 : decode cX6_set 25 = .ok (.iload_n 2, 1) := by decide +kernel
theorem dX6_set_26 : decode cX6_set 26 = .ok (.iload_n 3, 1) := by decide +kernel
theorem dX6_set_27 : decode cX6_set 27 = .ok (.invokevirtual 70, 3) := by decide +kernel
theorem dX6_set_30 : decode cX6_set 30 = .ok (.ifCond .ne 7, 3) := by decide +kernel
theorem dX6_set_33 : decode cX6_set 33 = .ok (.sipush (-1002), 3) := by decide +kernel
theorem dX6_set_36 : decode cX6_set 36 = .ok (.ireturn, 1) := by decide +kernel
theorem dX6_set_37 : decode cX6_set 37 = .ok (.iload_n 2, 1) := by decide +kernel
theorem dX6_set_38 : decode cX6_set 38 = .ok (.ifCond .ne 11, 3) := by decide +kernel
theorem dX6_set_41 : decode cX6_set 41 = .ok (.aload_n 0, 1) := by decide +kernel
theorem dX6_set_42 : decode cX6_set 42 = .ok (.iload_n 3, 1) := by decide +kernel
theorem dX6_set_43 : decode cX6_set 43 = .ok (.invokevirtual 74, 3) := by decide +kernel
theorem dX6_set_46 : decode cX6_set 46 = .ok (.goto 4, 3) := by decide +kernel
theorem dX6_set_49 : decode cX6_set 49 = .ok (.iconst (-1), 1) := by decide +kernel
theorem dX6_set_50 : decode cX6_set 50 = .ok (.istore 4, 2) := by decide +kernel
theorem dX6_set_52 : decode cX6_set 52 = .ok (.iload 4, 2) := by decide +kernel
theorem dX6_set_54 : decode cX6_set 54 = .ok (.ifCond .lt 13, 3) := by decide +kernel
theorem dX6_set_57 : decode cX6_set 57 = .ok (.iload 4, 2) := by decide +kernel
theorem dX6_set_59 : decode cX6_set 59 = .ok (.iload_n 1, 1) := by decide +kernel
theorem dX6_set_60 : decode cX6_set 60 = .ok (.if_icmp .eq 7, 3) := by decide +kernel
theorem dX6_set_63 : decode cX6_set 63 = .ok (.sipush (-1003), 3) := by decide +kernel
theorem dX6_set_66 : decode cX6_set 66 = .ok (.ireturn, 1) := by decide +kernel
theorem dX6_set_67 : decode cX6_set 67 = .ok (.aload_n 0, 1) := by decide +kernel
theorem dX6_set_68 : decode cX6_set 68 = .ok (.getfield 16, 3) := by decide +kernel
theorem dX6_set_71 : decode cX6_set 71 = .ok (.iconst 3, 1) := by decide +kernel
theorem dX6_set_72 : decode cX6_set 72 = .ok (.iload_n 1, 1) := by decide +kernel
theorem dX6_set_73 : decode cX6_set 73 = .ok (.imul, 1) := by decide +kernel
theorem dX6_set_74 : decode cX6_set 74 = .ok (.iload_n 2, 1) := by decide +kernel
theorem dX6_set_75 : decode cX6_set 75 = .ok (.iadd, 1) := by decide +kernel
theorem dX6_set_76 : decode cX6_set 76 = .ok (.iaload, 1) := by decide +kernel
theorem dX6_set_77 : decode cX6_set 77 = .ok (.istore 5, 2) := by decide +kernel
theorem dX6_set_79 : decode cX6_set 79 = .ok (.aload_n 0, 1) := by decide +kernel
theorem dX6_set_80 : decode cX6_set 80 = .ok (.getfield 16, 3) := by decide +kernel
theorem dX6_set_83 : decode cX6_set 83 = .ok (.iconst 3, 1) := by decide +kernel
theorem dX6_set_84 : decode cX6_set 84 = .ok (.iload_n 1, 1) := by decide +kernel
theorem dX6_set_85 : decode cX6_set 85 = .ok (.imul, 1) := by decide +kernel
theorem dX6_set_86 : decode cX6_set 86 = .ok (.iload_n 2, 1) := by decide +kernel
theorem dX6_set_87 : decode cX6_set 87 = .ok (.iadd, 1) := by decide +kernel
theorem dX6_set_88 : decode cX6_set 88 = .ok (.iload_n 3, 1) := by decide +kernel
theorem dX6_set_89 : decode cX6_set 89 = .ok (.iastore, 1) := by decide +kernel
theorem dX6_set_90 : decode cX6_set 90 = .ok (.iload 5, 2) := by decide +kernel
theorem dX6_set_92 : decode cX6_set 92 = .ok (.ireturn, 1) := by decide +kernel
set_option maxRecDepth 20000 in
theorem ggX6_end_X6_in : GoodIn wsX6_end wsX6_in := goodIn_r _ [5] (by decide +kernel) (by decide +kernel)
set_option maxRecDepth 20000 in
theorem gX6_end_X6_in : GoodIn wsX6_end (va_wsS RX6 47 yX6_in wsX6_in) := goodIn_app (goodIn_of _ (by decide +kernel)) ggX6_end_X6_in
theorem dX6_end_0 : decode cX6_end 0 = .ok (.iload_n 1, 1) := by decide +kernel
theorem dX6_end_1 : decode cX6_end 1 = .ok (.i2l, 1) := by decide +kernel
theorem dX6_end_2 : decode cX6_end 2 = .ok (.lconst 0, 1) := by decide +kernel
theorem dX6_end_3 : decode cX6_end 3 = .ok (.lconst 1, 1) := by decide +kernel
theorem dX6_end_4 : decode cX6_end 4 = .ok (.invokestatic 47, 3) := by decide +kernel
theorem dX6_end_7 : decode cX6_end 7 = .ok (.ifCond .eq 13, 3) := by decide +kernel
theorem dX6_end_10 : decode cX6_end 10 = .ok (.iload_n 2, 1) := by decide +kernel
theorem dX6_end_11 : decode cX6_end 11 = .ok (.i2l, 1) := by decide +kernel
theorem dX6_end_12 : decode cX6_end 12 = .ok (.lconst 0, 1) := by decide +kernel
theorem dX6_end_13 : decode cX6_end 13 = .ok (.lconst 1, 1) := by decide +kernel
theorem dX6_end_14 : decode cX6_end 14 = .ok (.invokestatic 47, 3) := by decide +kernel
theorem dX6_end_17 : decode cX6_end 17 = .ok (.ifCond .ne 7, 3) := by decide +kernel
theorem dX6_end_20 : decode cX6_end 20 = .ok (.sipush (-1002), 3) := by decide +kernel
theorem dX6_end_23 : decode cX6_end 23 = .ok (.ireturn, 1) := by decide +kernel
theorem dX6_end_24 : decode cX6_end 24 = .ok (.aload_n 0, 1) := by decide +kernel
theorem dX6_end_25 : decode cX6_end 25 = .ok (.getfield 19, 3) := by decide +kernel
theorem dX6_end_28 : decode cX6_end 28 = .ok (.iload_n 1, 1) := by decide +kernel
theorem dX6_end_29 : decode cX6_end 29 = .ok (.iaload, 1) := by decide +kernel
theorem dX6_end_30 : decode cX6_end 30 = .ok (.istore_n 3, 1) := by decide +kernel
theorem dX6_end_31 : decode cX6_end 31 = .ok (.aload_n 0, 1) := by decide +kernel
theorem dX6_end_32 : decode cX6_end 32 = .ok (.getfield 19, 3) := by decide +kernel
theorem dX6_end_35 : decode cX6_end 35 = .ok (.iload_n 1, 1) := by decide +kernel
theorem dX6_end_36 : decode cX6_end 36 = .ok (.iload_n 2, 1) := by decide +kernel
theorem dX6_end_37 : decode cX6_end 37 = .ok (.iastore, 1) := by decide +kernel
theorem dX6_end_38 : decode cX6_end 38 = .ok (.iload_n 3, 1) := by decide +kernel
theorem dX6_end_39 : decode cX6_end 39 = .ok (.ireturn, 1) := by decide +kernel
theorem dX6_clear_0 : decode cX6_clear 0 = .ok (.aload_n 0, 1) := by decide +kernel
theorem dX6_clear_1 : decode cX6_clear 1 = .ok (.getfield 42, 3) := by decide +kernel
theorem dX6_clear_4 : decode cX6_clear 4 = .ok (.istore_n 1, 1) := by decide +kernel
theorem dX6_clear_5 : decode cX6_clear 5 = .ok (.aload_n 0, 1) := by decide +kernel
theorem dX6_clear_6 : decode cX6_clear 6 = .ok (.iconst 0, 1) := by decide +kernel
theorem dX6_clear_7 : decode cX6_clear 7 = .ok (.putfield 42, 3) := by decide +kernel
theorem dX6_clear_10 : decode cX6_clear 10 = .ok (.aload_n 0, 1) := by decide +kernel
theorem dX6_clear_11 : decode cX6_clear 11 = .ok (.iconst 0, 1) := by decide +kernel
theorem dX6_clear_12 : decode cX6_clear 12 = .ok (.putfield 67, 3) := by decide +kernel
theorem dX6_clear_15 : decode cX6_clear 15 = .ok (.aload_n 0, 1) := by decide +kernel
theorem dX6_clear_16 : decode cX6_clear 16 = .ok (.iconst 0, 1) := by decide +kernel
theorem dX6_clear_17 : decode cX6_clear 17 = .ok (.putfield 82, 3) := by decide +kernel
theorem dX6_clear_20 : decode cX6_clear 20 = .ok (.aload_n 0, 1) := by decide +kernel
theorem dX6_clear_21 : decode cX6_clear 21 = .ok (.getfield 19, 3) := by decide +kernel
theorem dX6_clear_24 : decode cX6_clear 24 = .ok (.iconst 0, 1) := by decide +kernel
theorem dX6_clear_25 : decode cX6_clear 25 = .ok (.iconst 0, 1) := by decide +kernel
theorem dX6_clear_26 : decode cX6_clear 26 = .ok (.iastore, 1) := by decide +kernel
theorem dX6_clear_27 : decode cX6_clear 27 = .ok (.aload_n 0, 1) := by decide +kernel
theorem dX6_clear_28 : decode cX6_clear 28 = .ok (.getfield 19, 3) := by decide +kernel
theorem dX6_clear_31 : decode cX6_clear 31 = .ok (.iconst 1, 1) := by decide +kernel
theorem dX6_clear_32 : decode cX6_clear 32 = .ok (.iconst 0, 1) := by decide +kernel
theorem dX6_clear_33 : decode cX6_clear 33 = .ok (.iastore, 1) := by decide +kernel
theorem dX6_clear_34 : decode cX6_clear 34 = .ok (.aload_n 0, 1) := by decide +kernel
theorem dX6_clear_35 : decode cX6_clear 35 = .ok (.iconst 0, 1) := by decide +kernel
theorem dX6_clear_36 : decode cX6_clear 36 = .ok (.putfield 85, 3) := by decide +kernel
theorem dX6_clear_39 : decode cX6_clear 39 = .ok (.iload_n 1, 1) := by decide +kernel
theorem dX6_clear_40 : decode cX6_clear 40 = .ok (.ireturn, 1) := by decide +kernel
set_option maxRecDepth 20000 in
theorem ggX6_told_X6_in : GoodIn wsX6_told wsX6_in := goodIn_r _ [7] (by decide +kernel) (by decide +kernel)
set_option maxRecDepth 20000 in
theorem gX6_told_X6_in : GoodIn wsX6_told (va_wsS RX6 47 yX6_in wsX6_in) := goodIn_app (goodIn_of _ (by decide +kernel)) ggX6_told_X6_in
theorem dX6_told_0 : decode cX6_told 0 = .ok (.iload_n 1, 1) := by decide +kernel
theorem dX6_told_1 : decode cX6_told 1 = .ok (.i2l, 1) := by decide +kernel
theorem dX6_told_2 : decode cX6_told 2 = .ok (.lconst 0, 1) := by decide +kernel
theorem dX6_told_3 : decode cX6_told 3 = .ok (.aload_n 0, 1) := by decide +kernel
theorem dX6_told_4 : decode cX6_told 4 = .ok (.getfield 42, 3) := by decide +kernel
theorem dX6_told_7 : decode cX6_told 7 = .ok (.iconst 1, 1) := by decide +kernel
theorem dX6_told_8 : decode cX6_told 8 = .ok (.isub, 1) := by decide +kernel
theorem dX6_told_9 : decode cX6_told 9 = .ok (.i2l, 1) := by decide +kernel
theorem dX6_told_10 : decode cX6_told 10 = .ok (.invokestatic 47, 3) := by decide +kernel
theorem dX6_told_13 : decode cX6_told 13 = .ok (.ifCond .ne 7, 3) := by decide +kernel
theorem dX6_told_16 : decode cX6_told 16 = .ok (.sipush (-1001), 3) := by decide +kernel
theorem dX6_told_19 : decode cX6_told 19 = .ok (.ireturn, 1) := by decide +kernel
theorem dX6_told_20 : decode cX6_told 20 = .ok (.iload_n 2, 1) := by decide +kernel
theorem dX6_told_21 : decode cX6_told 21 = .ok (.ifCond .ne 12, 3) := by decide +kernel
theorem dX6_told_24 : decode cX6_told 24 = .ok (.aload_n 0, 1) := by decide +kernel
theorem dX6_told_25 : decode cX6_told 25 = .ok (.getfield 7, 3) := by decide +kernel
theorem dX6_told_28 : decode cX6_told 28 = .ok (.iload_n 1, 1) := by decide +kernel
theorem dX6_told_29 : decode cX6_told 29 = .ok (.iaload, 1) := by decide +kernel
theorem dX6_told_30 : decode cX6_told 30 = .ok (.goto 20, 3) := by decide +kernel
theorem dX6_told_33 : decode cX6_told 33 = .ok (.iload_n 2, 1) := by decide +kernel
theorem dX6_told_34 : decode cX6_told 34 = .ok (.iconst 1, 1) := by decide +kernel
theorem dX6_told_35 : decode cX6_told 35 = .ok (.if_icmp .ne 12, 3) := by decide +kernel
theorem dX6_told_38 : decode cX6_told 38 = .ok (.aload_n 0, 1) := by decide +kernel
theorem dX6_told_39 : decode cX6_told 39 = .ok (.getfield 13, 3) := by decide +kernel
theorem dX6_told_42 : decode cX6_told 42 = .ok (.iload_n 1, 1) := by decide +kernel
theorem dX6_told_43 : decode cX6_told 43 = .ok (.iaload, 1) := by decide +kernel
theorem dX6_told_44 : decode cX6_told 44 = .ok (.goto 6, 3) := by decide +kernel
theorem dX6_told_47 : decode cX6_told 47 = .ok (.sipush (-1002), 3) := by decide +kernel
theorem dX6_told_50 : decode cX6_told 50 = .ok (.ireturn, 1) := by decide +kernel
theorem dX6_pieceOf_0 : decode cX6_pieceOf 0 = .ok (.iconst 0, 1) := by decide +kernel
theorem dX6_pieceOf_1 : decode cX6_pieceOf 1 = .ok (.istore_n 2, 1) := by decide +kernel
theorem dX6_pieceOf_2 : decode cX6_pieceOf 2 = .ok (.aload_n 0, 1) := by decide +kernel
theorem dX6_pieceOf_3 : decode cX6_pieceOf 3 = .ok (.getfield 7, 3) := by decide +kernel
theorem dX6_pieceOf_6 : decode cX6_pieceOf 6 = .ok (.iconst 0, 1) := by decide +kernel
theorem dX6_pieceOf_7 : decode cX6_pieceOf 7 = .ok (.iaload, 1) := by decide +kernel
theorem dX6_pieceOf_8 : decode cX6_pieceOf 8 = .ok (.istore_n 3, 1) := by decide +kernel
theorem dX6_pieceOf_9 : decode cX6_pieceOf 9 = .ok (.iload_n 1, 1) := by decide +kernel
theorem dX6_pieceOf_10 : decode cX6_pieceOf 10 = .ok (.iload_n 3, 1) := by decide +kernel
theorem dX6_pieceOf_11 : decode cX6_pieceOf 11 = .ok (.if_icmp .le 18, 3) := by decide +kernel
theorem dX6_pieceOf_14 : decode cX6_pieceOf 14 = .ok (.iinc 2 1, 3) := by decide +kernel
theorem dX6_pieceOf_17 : decode cX6_pieceOf 17 = .ok (.iload_n 3, 1) := by decide +kernel
theorem dX6_pieceOf_18 : decode cX6_pieceOf 18 = .ok (.aload_n 0, 1) := by decide +kernel
theorem dX6_pieceOf_19 : decode cX6_pieceOf 19 = .ok (.getfield 7, 3) := by decide +kernel
theorem dX6_pieceOf_22 : decode cX6_pieceOf 22 = .ok (.iload_n 2, 1) := by decide +kernel
theorem dX6_pieceOf_23 : decode cX6_pieceOf 23 = .ok (.iaload, 1) := by decide +kernel
theorem dX6_pieceOf_24 : decode cX6_pieceOf 24 = .ok (.iadd, 1) := by decide +kernel
theorem dX6_pieceOf_25 : decode cX6_pieceOf 25 = .ok (.istore_n 3, 1) := by decide +kernel
theorem dX6_pieceOf_26 : decode cX6_pieceOf 26 = .ok (.goto (-17), 3) := by decide +kernel
theorem dX6_pieceOf_29 : decode cX6_pieceOf 29 = .ok (.iload_n 2, 1) := by decide +kernel
theorem dX6_pieceOf_30 : decode cX6_pieceOf 30 = .ok (.ireturn, 1) := by decide +kernel
set_option maxRecDepth 20000 in
theorem ggX6_bored_X6_isHole : GoodIn wsX6_bored wsX6_isHole := goodIn_r _ [8, 3, 9, 10, 7, 11, 17, 18, 19, 20, 21, 22, 23, 24, 25, 26, 27, 28, 29, 30, 31] (by decide +kernel) (by decide +kernel)
set_option maxRecDepth 20000 in
theorem gX6_bored_X6_isHole : GoodIn wsX6_bored (wsV RX6 78 RX6 yX6_isHole wsX6_isHole) := goodIn_app (goodIn_of _ (by decide +kernel)) ggX6_bored_X6_isHole
set_option maxRecDepth 20000 in
theorem ggX6_bored_X6_in : GoodIn wsX6_bored wsX6_in := goodIn_r _ [11] (by decide +kernel) (by decide +kernel)
set_option maxRecDepth 20000 in
theorem gX6_bored_X6_in : GoodIn wsX6_bored (va_wsS RX6 47 yX6_in wsX6_in) := goodIn_app (goodIn_of _ (by decide +kernel)) ggX6_bored_X6_in
set_option maxRecDepth 20000 in
theorem ggX6_bored_X6_pieceOf : GoodIn wsX6_bored wsX6_pieceOf := goodIn_r _ [15, 16, 17, 18, 19, 20, 21, 22, 23, 24, 25, 26, 27, 28, 29, 30, 31] (by decide +kernel) (by decide +kernel)
set_option maxRecDepth 20000 in
theorem gX6_bored_X6_pieceOf : GoodIn wsX6_bored (wsV RX6 90 RX6 yX6_pieceOf wsX6_pieceOf) := goodIn_app (goodIn_of _ (by decide +kernel)) ggX6_bored_X6_pieceOf
theorem dX6_bored_0 : decode cX6_bored 0 = .ok (.aload_n 0, 1) := by decide +kernel
theorem dX6_bored_1 : decode cX6_bored 1 = .ok (.iload_n 1, 1) := by decide +kernel
theorem dX6_bored_2 : decode cX6_bored 2 = .ok (.invokevirtual 78, 3) := by decide +kernel
theorem dX6_bored_5 : decode cX6_bored 5 = .ok (.ifCond .ne 7, 3) := by decide +kernel
theorem dX6_bored_8 : decode cX6_bored 8 = .ok (.sipush (-1001), 3) := by decide +kernel
theorem dX6_bored_11 : decode cX6_bored 11 = .ok (.ireturn, 1) := by decide +kernel
theorem dX6_bored_12 : decode cX6_bored 12 = .ok (.iload_n 2, 1) := by decide +kernel
theorem dX6_bored_13 : decode cX6_bored 13 = .ok (.i2l, 1) := by decide +kernel
theorem dX6_bored_14 : decode cX6_bored 14 = .ok (.lconst 0, 1) := by decide +kernel
theorem dX6_bored_15 : decode cX6_bored 15 = .ok (.ldc2_w 88, 3) := by decide +kernel
theorem dX6_bored_18 : decode cX6_bored 18 = .ok (.invokestatic 47, 3) := by decide +kernel
theorem dX6_bored_21 : decode cX6_bored 21 = .ok (.ifCond .ne 7, 3) := by decide +kernel
theorem dX6_bored_24 : decode cX6_bored 24 = .ok (.sipush (-1002), 3) := by decide +kernel
theorem dX6_bored_27 : decode cX6_bored 27 = .ok (.ireturn, 1) := by decide +kernel
theorem dX6_bored_28 : decode cX6_bored 28 = .ok (.iload_n 2, 1) := by decide +kernel
theorem dX6_bored_29 : decode cX6_bored 29 = .ok (.iconst 3, 1) := by decide +kernel
theorem dX6_bored_30 : decode cX6_bored 30 = .ok (.if_icmp .ge 14, 3) := by decide +kernel
theorem dX6_bored_33 : decode cX6_bored 33 = .ok (.aload_n 0, 1) := by decide +kernel
theorem dX6_bored_34 : decode cX6_bored 34 = .ok (.getfield 16, 3) := by decide +kernel
theorem dX6_bored_37 : decode cX6_bored 37 = .ok (.iconst 3, 1) := by decide +kernel
theorem dX6_bored_38 : decode cX6_bored 38 = .ok (.iload_n 1, 1) := by decide +kernel
theorem dX6_bored_39 : decode cX6_bored 39 = .ok (.imul, 1) := by decide +kernel
theorem dX6_bored_40 : decode cX6_bored 40 = .ok (.iload_n 2, 1) := by decide +kernel
theorem dX6_bored_41 : decode cX6_bored 41 = .ok (.iadd, 1) := by decide +kernel
theorem dX6_bored_42 : decode cX6_bored 42 = .ok (.iaload, 1) := by decide +kernel
theorem dX6_bored_43 : decode cX6_bored 43 = .ok (.ireturn, 1) := by decide +kernel
theorem dX6_bored_44 : decode cX6_bored 44 = .ok (.iconst 0, 1) := by decide +kernel
theorem dX6_bored_45 : decode cX6_bored 45 = .ok (.istore_n 3, 1) := by decide +kernel
theorem dX6_bored_46 : decode cX6_bored 46 = .ok (.iconst 0, 1) := by decide +kernel
theorem dX6_bored_47 : decode cX6_bored 47 = .ok (.istore 4, 2) := by decide +kernel
theorem dX6_bored_49 : decode cX6_bored 49 = .ok (.iload 4, 2) := by decide +kernel
theorem dX6_bored_51 : decode cX6_bored 51 = .ok (.aload_n 0, 1) := by decide +kernel
theorem dX6_bored_52 : decode cX6_bored 52 = .ok (.getfield 67, 3) := by decide +kernel
theorem dX6_bored_55 : decode cX6_bored 55 = .ok (.if_icmp .ge 37, 3) := by decide +kernel
theorem dX6_bored_58 : decode cX6_bored 58 = .ok (.iload_n 3, 1) := by decide +kernel
theorem dX6_bored_59 : decode cX6_bored 59 = .ok (.aload_n 0, 1) := by decide +kernel
theorem dX6_bored_60 : decode cX6_bored 60 = .ok (.getfield 16, 3) := by decide +kernel
theorem dX6_bored_63 : decode cX6_bored 63 = .ok (.iconst 3, 1) := by decide +kernel
theorem dX6_bored_64 : decode cX6_bored 64 = .ok (.iload 4, 2) := by decide +kernel
theorem dX6_bored_66 : decode cX6_bored 66 = .ok (.imul, 1) := by decide +kernel
theorem dX6_bored_67 : decode cX6_bored 67 = .ok (.iaload, 1) := by decide +kernel
theorem dX6_bored_68 : decode cX6_bored 68 = .ok (.aload_n 0, 1) := by decide +kernel
theorem dX6_bored_69 : decode cX6_bored 69 = .ok (.getfield 16, 3) := by decide +kernel
theorem dX6_bored_72 : decode cX6_bored 72 = .ok (.iconst 3, 1) := by decide +kernel
theorem dX6_bored_73 : decode cX6_bored 73 = .ok (.iload_n 1, 1) := by decide +kernel
theorem dX6_bored_74 : decode cX6_bored 74 = .ok (.imul, 1) := by decide +kernel
theorem dX6_bored_75 : decode cX6_bored 75 = .ok (.iaload, 1) := by decide +kernel
theorem dX6_bored_76 : decode cX6_bored 76 = .ok (.if_icmp .ge 7, 3) := by decide +kernel
theorem dX6_bored_79 : decode cX6_bored 79 = .ok (.iconst 1, 1) := by decide +kernel
theorem dX6_bored_80 : decode cX6_bored 80 = .ok (.goto 4, 3) := by decide +kernel
theorem dX6_bored_83 : decode cX6_bored 83 = .ok (.iconst 0, 1) := by decide +kernel
theorem dX6_bored_84 : decode cX6_bored 84 = .ok (.iadd, 1) := by decide +kernel
theorem dX6_bored_85 : decode cX6_bored 85 = .ok (.istore_n 3, 1) := by decide +kernel
theorem dX6_bored_86 : decode cX6_bored 86 = .ok (.iinc 4 1, 3) := by decide +kernel
theorem dX6_bored_89 : decode cX6_bored 89 = .ok (.goto (-40), 3) := by decide +kernel
theorem dX6_bored_92 : decode cX6_bored 92 = .ok (.iload_n 2, 1) := by decide +kernel
theorem dX6_bored_93 : decode cX6_bored 93 = .ok (.iconst 3, 1) := by decide +kernel
theorem dX6_bored_94 : decode cX6_bored 94 = .ok (.if_icmp .ne 18, 3) := by decide +kernel
theorem dX6_bored_97 : decode cX6_bored 97 = .ok (.aload_n 0, 1) := by decide +kernel
theorem dX6_bored_98 : decode cX6_bored 98 = .ok (.aload_n 0, 1) := by decide +kernel
theorem dX6_bored_99 : decode cX6_bored 99 = .ok (.getfield 16, 3) := by decide +kernel
theorem dX6_bored_102 : decode cX6_bored 102 = .ok (.iconst 3, 1) := by decide +kernel
theorem dX6_bored_103 : decode cX6_bored 103 = .ok (.iload_n 1, 1) := by decide +kernel
theorem dX6_bored_104 : decode cX6_bored 104 = .ok (.imul, 1) := by decide +kernel
theorem dX6_bored_105 : decode cX6_bored 105 = .ok (.iaload, 1) := by decide +kernel
theorem dX6_bored_106 : decode cX6_bored 106 = .ok (.invokevirtual 90, 3) := by decide +kernel
theorem dX6_bored_109 : decode cX6_bored 109 = .ok (.goto 4, 3) := by decide +kernel
theorem dX6_bored_112 : decode cX6_bored 112 = .ok (.iload_n 3, 1) := by decide +kernel
theorem dX6_bored_113 : decode cX6_bored 113 = .ok (.ireturn, 1) := by decide +kernel
theorem dX6_drillMany_0 : decode cX6_drillMany 0 = .ok (.iconst 0, 1) := by decide +kernel
theorem dX6_drillMany_1 : decode cX6_drillMany 1 = .ok (.istore_n 1, 1) := by decide +kernel
theorem dX6_drillMany_2 : decode cX6_drillMany 2 = .ok (.iconst 1, 1) := by decide +kernel
theorem dX6_drillMany_3 : decode cX6_drillMany 3 = .ok (.istore_n 2, 1) := by decide +kernel
theorem dX6_drillMany_4 : decode cX6_drillMany 4 = .ok (.iload_n 2, 1) := by decide +kernel
theorem dX6_drillMany_5 : decode cX6_drillMany 5 = .ok (.bipush 61, 2) := by decide +kernel
theorem dX6_drillMany_7 : decode cX6_drillMany 7 = .ok (.if_icmp .ge 26, 3) := by decide +kernel
theorem dX6_drillMany_10 : decode cX6_drillMany 10 = .ok (.iload_n 1, 1) := by decide +kernel
theorem dX6_drillMany_11 : decode cX6_drillMany 11 = .ok (.aload_n 0, 1) := by decide +kernel
theorem dX6_drillMany_12 : decode cX6_drillMany 12 = .ok (.getfield 31, 3) := by decide +kernel
theorem dX6_drillMany_15 : decode cX6_drillMany 15 = .ok (.iload_n 2, 1) := by decide +kernel
theorem dX6_drillMany_16 : decode cX6_drillMany 16 = .ok (.baload, 1) := by decide +kernel
theorem dX6_drillMany_17 : decode cX6_drillMany 17 = .ok (.ifCond .eq 7, 3) := by decide +kernel
theorem dX6_drillMany_20 : decode cX6_drillMany 20 = .ok (.iconst 1, 1) := by decide +kernel
theorem dX6_drillMany_21 : decode cX6_drillMany 21 = .ok (.goto 4, 3) := by decide +kernel
theorem dX6_drillMany_24 : decode cX6_drillMany 24 = .ok (.iconst 0, 1) := by decide +kernel
theorem dX6_drillMany_25 : decode cX6_drillMany 25 = .ok (.iadd, 1) := by decide +kernel
theorem dX6_drillMany_26 : decode cX6_drillMany 26 = .ok (.istore_n 1, 1) := by decide +kernel
theorem dX6_drillMany_27 : decode cX6_drillMany 27 = .ok (.iinc 2 1, 3) := by decide +kernel
theorem dX6_drillMany_30 : decode cX6_drillMany 30 = .ok (.goto (-26), 3) := by decide +kernel
theorem dX6_drillMany_33 : decode cX6_drillMany 33 = .ok (.iload_n 1, 1) := by decide +kernel
theorem dX6_drillMany_34 : decode cX6_drillMany 34 = .ok (.ireturn, 1) := by decide +kernel
set_option maxRecDepth 20000 in
theorem ggX6_count_X6_whole : GoodIn wsX6_count wsX6_whole := goodIn_r _ [11, 1, 12, 72, 73, 74, 75, 76, 77, 78, 79, 80, 81, 82, 83, 84, 85, 86] (by decide +kernel) (by decide +kernel)
set_option maxRecDepth 20000 in
theorem gX6_count_X6_whole : GoodIn wsX6_count (wsV RX6 57 RX6 yX6_whole wsX6_whole) := goodIn_app (goodIn_of _ (by decide +kernel)) ggX6_count_X6_whole
set_option maxRecDepth 20000 in
theorem ggX6_count_X6_drillMany : GoodIn wsX6_count wsX6_drillMany := goodIn_r _ [16, 17, 72, 73, 74, 75, 76, 77, 78, 79, 80, 81, 82, 83, 84, 85, 86] (by decide +kernel) (by decide +kernel)
set_option maxRecDepth 20000 in
theorem gX6_count_X6_drillMany : GoodIn wsX6_count (wsV RX6 93 RX6 yX6_drillMany wsX6_drillMany) := goodIn_app (goodIn_of _ (by decide +kernel)) ggX6_count_X6_drillMany
set_option maxRecDepth 20000 in
theorem ggX6_count_X6_greatest : GoodIn wsX6_count wsX6_greatest := goodIn_r _ [21, 3, 22, 23, 24, 10, 25, 26, 27, 28, 29, 30, 31, 32, 33, 1, 34, 35, 36, 37, 4, 38, 39, 40, 41, 42, 43, 7, 8, 9, 11, 12, 44, 45, 46, 47, 2, 48, 49, 50, 51, 52, 53, 54, 55, 56, 57, 58, 59, 60, 61, 62, 63, 64, 65, 66, 67, 72, 73, 74, 75, 76, 77, 78, 79, 80, 81, 82, 83, 84, 85, 86] (by decide +kernel) (by decide +kernel)
set_option maxRecDepth 20000 in
theorem gX6_count_X6_greatest : GoodIn wsX6_count (wsV RX6 96 RX6 yX6_greatest wsX6_greatest) := goodIn_app (goodIn_of _ (by decide +kernel)) ggX6_count_X6_greatest
set_option maxRecDepth 20000 in
theorem ggX6_count_X6_sumOfMisses : GoodIn wsX6_count wsX6_sumOfMisses := goodIn_r _ [71, 3, 22, 23, 24, 10, 25, 26, 27, 28, 29, 30, 31, 32, 33, 1, 34, 35, 36, 37, 4, 38, 39, 40, 41, 42, 43, 7, 8, 9, 11, 12, 44, 45, 46, 47, 2, 48, 49, 50, 51, 52, 53, 54, 55, 56, 57, 58, 59, 60, 61, 62, 63, 64, 65, 66, 67, 72, 73, 74, 75, 76, 77, 78, 79, 80, 81, 82, 83, 84, 85, 86] (by decide +kernel) (by decide +kernel)
set_option maxRecDepth 20000 in
theorem gX6_count_X6_sumOfMisses : GoodIn wsX6_count (wsV RX6 99 RX6 yX6_sumOfMisses wsX6_sumOfMisses) := goodIn_app (goodIn_of _ (by decide +kernel)) ggX6_count_X6_sumOfMisses
theorem dX6_count_0 : decode cX6_count 0 = .ok (.iload_n 1, 1) := by decide +kernel
theorem dX6_count_1 : decode cX6_count 1 = .ok (.tableswitch 118 0 10 #[59, 64, 69, 74, 79, 86, 93, 98, 103, 108, 113], 59) := by decide +kernel
theorem dX6_count_60 : decode cX6_count 60 = .ok (.aload_n 0, 1) := by decide +kernel
theorem dX6_count_61 : decode cX6_count 61 = .ok (.getfield 42, 3) := by decide +kernel
theorem dX6_count_64 : decode cX6_count 64 = .ok (.ireturn, 1) := by decide +kernel
theorem dX6_count_65 : decode cX6_count 65 = .ok (.aload_n 0, 1) := by decide +kernel
theorem dX6_count_66 : decode cX6_count 66 = .ok (.getfield 67, 3) := by decide +kernel
theorem dX6_count_69 : decode cX6_count 69 = .ok (.ireturn, 1) := by decide +kernel
theorem dX6_count_70 : decode cX6_count 70 = .ok (.aload_n 0, 1) := by decide +kernel
theorem dX6_count_71 : decode cX6_count 71 = .ok (.getfield 82, 3) := by decide +kernel
theorem dX6_count_74 : decode cX6_count 74 = .ok (.ireturn, 1) := by decide +kernel
theorem dX6_count_75 : decode cX6_count 75 = .ok (.aload_n 0, 1) := by decide +kernel
theorem dX6_count_76 : decode cX6_count 76 = .ok (.invokevirtual 57, 3) := by decide +kernel
theorem dX6_count_79 : decode cX6_count 79 = .ok (.ireturn, 1) := by decide +kernel
theorem dX6_count_80 : decode cX6_count 80 = .ok (.aload_n 0, 1) := by decide +kernel
theorem dX6_count_81 : decode cX6_count 81 = .ok (.getfield 19, 3) := by decide +kernel
theorem dX6_count_84 : decode cX6_count 84 = .ok (.iconst 0, 1) := by decide +kernel
theorem dX6_count_85 : decode cX6_count 85 = .ok (.iaload, 1) := by decide +kernel
theorem dX6_count_86 : decode cX6_count 86 = .ok (.ireturn, 1) := by decide +kernel
theorem dX6_count_87 : decode cX6_count 87 = .ok (.aload_n 0, 1) := by decide +kernel
theorem dX6_count_88 : decode cX6_count 88 = .ok (.getfield 19, 3) := by decide +kernel
theorem dX6_count_91 : decode cX6_count 91 = .ok (.iconst 1, 1) := by decide +kernel
theorem dX6_count_92 : decode cX6_count 92 = .ok (.iaload, 1) := by decide +kernel
theorem dX6_count_93 : decode cX6_count 93 = .ok (.ireturn, 1) := by decide +kernel
theorem dX6_count_94 : decode cX6_count 94 = .ok (.aload_n 0, 1) := by decide +kernel
theorem dX6_count_95 : decode cX6_count 95 = .ok (.getfield 35, 3) := by decide +kernel
theorem dX6_count_98 : decode cX6_count 98 = .ok (.ireturn, 1) := by decide +kernel
theorem dX6_count_99 : decode cX6_count 99 = .ok (.aload_n 0, 1) := by decide +kernel
theorem dX6_count_100 : decode cX6_count 100 = .ok (.invokevirtual 93, 3) := by decide +kernel
theorem dX6_count_103 : decode cX6_count 103 = .ok (.ireturn, 1) := by decide +kernel
theorem dX6_count_104 : decode cX6_count 104 = .ok (.aload_n 0, 1) := by decide +kernel
theorem dX6_count_105 : decode cX6_count 105 = .ok (.invokevirtual 96, 3) := by decide +kernel
theorem dX6_count_108 : decode cX6_count 108 = .ok (.ireturn, 1) := by decide +kernel
theorem dX6_count_109 : decode cX6_count 109 = .ok (.aload_n 0, 1) := by decide +kernel
theorem dX6_count_110 : decode cX6_count 110 = .ok (.invokevirtual 99, 3) := by decide +kernel
theorem dX6_count_113 : decode cX6_count 113 = .ok (.ireturn, 1) := by decide +kernel
theorem dX6_count_114 : decode cX6_count 114 = .ok (.aload_n 0, 1) := by decide +kernel
theorem dX6_count_115 : decode cX6_count 115 = .ok (.getfield 85, 3) := by decide +kernel
theorem dX6_count_118 : decode cX6_count 118 = .ok (.ireturn, 1) := by decide +kernel
theorem dX6_count_119 : decode cX6_count 119 = .ok (.sipush (-1002), 3) := by decide +kernel
theorem dX6_count_122 : decode cX6_count 122 = .ok (.ireturn, 1) := by decide +kernel
theorem dX6_sineOf_0 : decode cX6_sineOf 0 = .ok (.iload_n 0, 1) := by decide +kernel
theorem dX6_sineOf_1 : decode cX6_sineOf 1 = .ok (.ldc 102, 2) := by decide +kernel
theorem dX6_sineOf_3 : decode cX6_sineOf 3 = .ok (.irem, 1) := by decide +kernel
theorem dX6_sineOf_4 : decode cX6_sineOf 4 = .ok (.i2l, 1) := by decide +kernel
theorem dX6_sineOf_5 : decode cX6_sineOf 5 = .ok (.lstore_n 1, 1) := by decide +kernel
theorem dX6_sineOf_6 : decode cX6_sineOf 6 = .ok (.lload_n 1, 1) := by decide +kernel
theorem dX6_sineOf_7 : decode cX6_sineOf 7 = .ok (.ldc2_w 103, 3) := by decide +kernel
theorem dX6_sineOf_10 : decode cX6_sineOf 10 = .ok (.lload_n 1, 1) := by decide +kernel
theorem dX6_sineOf_11 : decode cX6_sineOf 11 = .ok (.lsub, 1) := by decide +kernel
theorem dX6_sineOf_12 : decode cX6_sineOf 12 = .ok (.lmul, 1) := by decide +kernel
theorem dX6_sineOf_13 : decode cX6_sineOf 13 = .ok (.lstore_n 3, 1) := by decide +kernel
theorem dX6_sineOf_14 : decode cX6_sineOf 14 = .ok (.ldc2_w 105, 3) := by decide +kernel
theorem dX6_sineOf_17 : decode cX6_sineOf 17 = .ok (.lload_n 3, 1) := by decide +kernel
theorem dX6_sineOf_18 : decode cX6_sineOf 18 = .ok (.lmul, 1) := by decide +kernel
theorem dX6_sineOf_19 : decode cX6_sineOf 19 = .ok (.ldc2_w 107, 3) := by decide +kernel
theorem dX6_sineOf_22 : decode cX6_sineOf 22 = .ok (.lload_n 3, 1) := by decide +kernel
theorem dX6_sineOf_23 : decode cX6_sineOf 23 = .ok (.lsub, 1) := by decide +kernel
theorem dX6_sineOf_24 : decode cX6_sineOf 24 = .ok (.ldiv, 1) := by decide +kernel
theorem dX6_sineOf_25 : decode cX6_sineOf 25 = .ok (.lstore 5, 2) := by decide +kernel
theorem dX6_sineOf_27 : decode cX6_sineOf 27 = .ok (.iload_n 0, 1) := by decide +kernel
theorem dX6_sineOf_28 : decode cX6_sineOf 28 = .ok (.ldc 102, 2) := by decide +kernel
theorem dX6_sineOf_30 : decode cX6_sineOf 30 = .ok (.if_icmp .ge 8, 3) := by decide +kernel
theorem dX6_sineOf_33 : decode cX6_sineOf 33 = .ok (.lload 5, 2) := by decide +kernel
theorem dX6_sineOf_35 : decode cX6_sineOf 35 = .ok (.goto 6, 3) := by decide +kernel
theorem dX6_sineOf_38 : decode cX6_sineOf 38 = .ok (.lload 5, 2) := by decide +kernel
theorem dX6_sineOf_40 : decode cX6_sineOf 40 = .ok (.lneg, 1) := by decide +kernel
theorem dX6_sineOf_41 : decode cX6_sineOf 41 = .ok (.lreturn, 1) := by decide +kernel
set_option maxRecDepth 20000 in
theorem ggX6_sine_X6_in : GoodIn wsX6_sine wsX6_in := goodIn_r _ [5] (by decide +kernel) (by decide +kernel)
set_option maxRecDepth 20000 in
theorem gX6_sine_X6_in : GoodIn wsX6_sine (va_wsS RX6 47 yX6_in wsX6_in) := goodIn_app (goodIn_of _ (by decide +kernel)) ggX6_sine_X6_in
set_option maxRecDepth 20000 in
theorem ggX6_sine_X6_sineOf : GoodIn wsX6_sine wsX6_sineOf := goodIn_r _ [8, 9, 10, 11, 12] (by decide +kernel) (by decide +kernel)
set_option maxRecDepth 20000 in
theorem gX6_sine_X6_sineOf : GoodIn wsX6_sine (va_wsS RX6 111 yX6_sineOf wsX6_sineOf) := goodIn_app (goodIn_of _ (by decide +kernel)) ggX6_sine_X6_sineOf
theorem dX6_sine_0 : decode cX6_sine 0 = .ok (.iload_n 1, 1) := by decide +kernel
theorem dX6_sine_1 : decode cX6_sine 1 = .ok (.i2l, 1) := by decide +kernel
theorem dX6_sine_2 : decode cX6_sine 2 = .ok (.lconst 0, 1) := by decide +kernel
theorem dX6_sine_3 : decode cX6_sine 3 = .ok (.ldc2_w 109, 3) := by decide +kernel
theorem dX6_sine_6 : decode cX6_sine 6 = .ok (.invokestatic 47, 3) := by decide +kernel
theorem dX6_sine_9 : decode cX6_sine 9 = .ok (.ifCond .eq 11, 3) := by decide +kernel
theorem dX6_sine_12 : decode cX6_sine 12 = .ok (.iload_n 1, 1) := by decide +kernel
theorem dX6_sine_13 : decode cX6_sine 13 = .ok (.invokestatic 111, 3) := by decide +kernel
theorem dX6_sine_16 : decode cX6_sine 16 = .ok (.l2i, 1) := by decide +kernel
theorem dX6_sine_17 : decode cX6_sine 17 = .ok (.goto 6, 3) := by decide +kernel
theorem dX6_sine_20 : decode cX6_sine 20 = .ok (.sipush (-1002), 3) := by decide +kernel
theorem dX6_sine_23 : decode cX6_sine 23 = .ok (.ireturn, 1) := by decide +kernel
theorem dX6_nextPlace_0 : decode cX6_nextPlace 0 = .ok (.iconst 0, 1) := by decide +kernel
theorem dX6_nextPlace_1 : decode cX6_nextPlace 1 = .ok (.istore_n 2, 1) := by decide +kernel
theorem dX6_nextPlace_2 : decode cX6_nextPlace 2 = .ok (.iconst 0, 1) := by decide +kernel
theorem dX6_nextPlace_3 : decode cX6_nextPlace 3 = .ok (.istore_n 3, 1) := by decide +kernel
theorem dX6_nextPlace_4 : decode cX6_nextPlace 4 = .ok (.iconst 0, 1) := by decide +kernel
theorem dX6_nextPlace_5 : decode cX6_nextPlace 5 = .ok (.istore 4, 2) := by decide +kernel
theorem dX6_nextPlace_7 : decode cX6_nextPlace 7 = .ok (.iload 4, 2) := by decide +kernel
theorem dX6_nextPlace_9 : decode cX6_nextPlace 9 = .ok (.aload_n 0, 1) := by decide +kernel
theorem dX6_nextPlace_10 : decode cX6_nextPlace 10 = .ok (.getfield 42, 3) := by decide +kernel
theorem dX6_nextPlace_13 : decode cX6_nextPlace 13 = .ok (.if_icmp .ge 35, 3) := by decide +kernel
theorem dX6_nextPlace_16 : decode cX6_nextPlace 16 = .ok (.iload_n 3, 1) := by decide +kernel
theorem dX6_nextPlace_17 : decode cX6_nextPlace 17 = .ok (.aload_n 0, 1) := by decide +kernel
theorem dX6_nextPlace_18 : decode cX6_nextPlace 18 = .ok (.getfield 7, 3) := by decide +kernel
theorem dX6_nextPlace_21 : decode cX6_nextPlace 21 = .ok (.iload 4, 2) := by decide +kernel
theorem dX6_nextPlace_23 : decode cX6_nextPlace 23 = .ok (.iaload, 1) := by decide +kernel
theorem dX6_nextPlace_24 : decode cX6_nextPlace 24 = .ok (.iadd, 1) := by decide +kernel
theorem dX6_nextPlace_25 : decode cX6_nextPlace 25 = .ok (.istore_n 3, 1) := by decide +kernel
theorem dX6_nextPlace_26 : decode cX6_nextPlace 26 = .ok (.iload_n 3, 1) := by decide +kernel
theorem dX6_nextPlace_27 : decode cX6_nextPlace 27 = .ok (.iload_n 1, 1) := by decide +kernel
theorem dX6_nextPlace_28 : decode cX6_nextPlace 28 = .ok (.if_icmp .ge 12, 3) := by decide +kernel
theorem dX6_nextPlace_31 : decode cX6_nextPlace 31 = .ok (.iload_n 3, 1) := by decide +kernel
theorem dX6_nextPlace_32 : decode cX6_nextPlace 32 = .ok (.iload_n 2, 1) := by decide +kernel
theorem dX6_nextPlace_33 : decode cX6_nextPlace 33 = .ok (.if_icmp .le 7, 3) := by decide +kernel
theorem dX6_nextPlace_36 : decode cX6_nextPlace 36 = .ok (.iload_n 3, 1) := by decide +kernel
theorem dX6_nextPlace_37 : decode cX6_nextPlace 37 = .ok (.goto 4, 3) := by decide +kernel
theorem dX6_nextPlace_40 : decode cX6_nextPlace 40 = .ok (.iload_n 2, 1) := by decide +kernel
theorem dX6_nextPlace_41 : decode cX6_nextPlace 41 = .ok (.istore_n 2, 1) := by decide +kernel
theorem dX6_nextPlace_42 : decode cX6_nextPlace 42 = .ok (.iinc 4 1, 3) := by decide +kernel
theorem dX6_nextPlace_45 : decode cX6_nextPlace 45 = .ok (.goto (-38), 3) := by decide +kernel
theorem dX6_nextPlace_48 : decode cX6_nextPlace 48 = .ok (.iconst 0, 1) := by decide +kernel
theorem dX6_nextPlace_49 : decode cX6_nextPlace 49 = .ok (.istore 4, 2) := by decide +kernel
theorem dX6_nextPlace_51 : decode cX6_nextPlace 51 = .ok (.iload 4, 2) := by decide +kernel
theorem dX6_nextPlace_53 : decode cX6_nextPlace 53 = .ok (.aload_n 0, 1) := by decide +kernel
theorem dX6_nextPlace_54 : decode cX6_nextPlace 54 = .ok (.getfield 67, 3) := by decide +kernel
theorem dX6_nextPlace_57 : decode cX6_nextPlace 57 = .ok (.if_icmp .ge 39, 3) := by decide +kernel
theorem dX6_nextPlace_60 : decode cX6_nextPlace 60 = .ok (.aload_n 0, 1) := by decide +kernel
theorem dX6_nextPlace_61 : decode cX6_nextPlace 61 = .ok (.getfield 16, 3) := by decide +kernel
theorem dX6_nextPlace_64 : decode cX6_nextPlace 64 = .ok (.iconst 3, 1) := by decide +kernel
theorem dX6_nextPlace_65 : decode cX6_nextPlace 65 = .ok (.iload 4, 2) := by decide +kernel
theorem dX6_nextPlace_67 : decode cX6_nextPlace 67 = .ok (.imul, 1) := by decide +kernel
theorem dX6_nextPlace_68 : decode cX6_nextPlace 68 = .ok (.iaload, 1) := by decide +kernel
theorem dX6_nextPlace_69 : decode cX6_nextPlace 69 = .ok (.istore 5, 2) := by decide +kernel
theorem dX6_nextPlace_71 : decode cX6_nextPlace 71 = .ok (.iload 5, 2) := by decide +kernel
theorem dX6_nextPlace_73 : decode cX6_nextPlace 73 = .ok (.iload_n 1, 1) := by decide +kernel
theorem dX6_nextPlace_74 : decode cX6_nextPlace 74 = .ok (.if_icmp .ge 14, 3) := by decide +kernel
theorem dX6_nextPlace_77 : decode cX6_nextPlace 77 = .ok (.iload 5, 2) := by decide +kernel
theorem dX6_nextPlace_79 : decode cX6_nextPlace 79 = .ok (.iload_n 2, 1) := by decide +kernel
theorem dX6_nextPlace_80 : decode cX6_nextPlace 80 = .ok (.if_icmp .le 8, 3) := by decide +kernel
theorem dX6_nextPlace_83 : decode cX6_nextPlace 83 = .ok (.iload 5, 2) := by decide +kernel
theorem dX6_nextPlace_85 : decode cX6_nextPlace 85 = .ok (.goto 4, 3) := by decide +kernel
theorem dX6_nextPlace_88 : decode cX6_nextPlace 88 = .ok (.iload_n 2, 1) := by decide +kernel
theorem dX6_nextPlace_89 : decode cX6_nextPlace 89 = .ok (.istore_n 2, 1) := by decide +kernel
theorem dX6_nextPlace_90 : decode cX6_nextPlace 90 = .ok (.iinc 4 1, 3) := by decide +kernel
theorem dX6_nextPlace_93 : decode cX6_nextPlace 93 = .ok (.goto (-42), 3) := by decide +kernel
theorem dX6_nextPlace_96 : decode cX6_nextPlace 96 = .ok (.iload_n 2, 1) := by decide +kernel
theorem dX6_nextPlace_97 : decode cX6_nextPlace 97 = .ok (.ireturn, 1) := by decide +kernel
theorem dX6_isLarge_0 : decode cX6_isLarge 0 = .ok (.lload_n 0, 1) := by decide +kernel
theorem dX6_isLarge_1 : decode cX6_isLarge 1 = .ok (.ldc2_w 115, 3) := by decide +kernel
theorem dX6_isLarge_4 : decode cX6_isLarge 4 = .ok (.lcmp, 1) := by decide +kernel
theorem dX6_isLarge_5 : decode cX6_isLarge 5 = .ok (.ifCond .ge 11, 3) := by decide +kernel
theorem dX6_isLarge_8 : decode cX6_isLarge 8 = .ok (.lload_n 0, 1) := by decide +kernel
theorem dX6_isLarge_9 : decode cX6_isLarge 9 = .ok (.ldc2_w 117, 3) := by decide +kernel
theorem dX6_isLarge_12 : decode cX6_isLarge 12 = .ok (.lcmp, 1) := by decide +kernel
theorem dX6_isLarge_13 : decode cX6_isLarge 13 = .ok (.ifCond .gt 7, 3) := by decide +kernel
theorem dX6_isLarge_16 : decode cX6_isLarge 16 = .ok (.iconst 1, 1) := by decide +kernel
theorem dX6_isLarge_17 : decode cX6_isLarge 17 = .ok (.goto 4, 3) := by decide +kernel
theorem dX6_isLarge_20 : decode cX6_isLarge 20 = .ok (.iconst 0, 1) := by decide +kernel
theorem dX6_isLarge_21 : decode cX6_isLarge 21 = .ok (.ireturn, 1) := by decide +kernel
set_option maxRecDepth 20000 in
theorem ggX6_worthOf_X6_whole : GoodIn wsX6_worthOf wsX6_whole := goodIn_r _ [12, 13, 14, 40, 41, 42, 43, 44, 45, 46, 47, 48, 49, 50, 51, 52, 53, 54] (by decide +kernel) (by decide +kernel)
set_option maxRecDepth 20000 in
theorem gX6_worthOf_X6_whole : GoodIn wsX6_worthOf (wsV RX6 57 RX6 yX6_whole wsX6_whole) := goodIn_app (goodIn_of _ (by decide +kernel)) ggX6_worthOf_X6_whole
set_option maxRecDepth 20000 in
theorem ggX6_worthOf_X6_nextPlace : GoodIn wsX6_worthOf wsX6_nextPlace := goodIn_r _ [18, 13, 14, 19, 6, 40, 41, 42, 43, 44, 45, 46, 47, 48, 49, 50, 51, 52, 53, 54] (by decide +kernel) (by decide +kernel)
set_option maxRecDepth 20000 in
theorem gX6_worthOf_X6_nextPlace : GoodIn wsX6_worthOf (wsV RX6 121 RX6 yX6_nextPlace wsX6_nextPlace) := goodIn_app (goodIn_of _ (by decide +kernel)) ggX6_worthOf_X6_nextPlace
set_option maxRecDepth 20000 in
theorem ggX6_worthOf_X6_sineOf : GoodIn wsX6_worthOf wsX6_sineOf := goodIn_r _ [22, 23, 24, 25, 26] (by decide +kernel) (by decide +kernel)
set_option maxRecDepth 20000 in
theorem gX6_worthOf_X6_sineOf : GoodIn wsX6_worthOf (va_wsS RX6 111 yX6_sineOf wsX6_sineOf) := goodIn_app (goodIn_of _ (by decide +kernel)) ggX6_worthOf_X6_sineOf
set_option maxRecDepth 20000 in
theorem ggX6_worthOf_X6_pieceOf : GoodIn wsX6_worthOf wsX6_pieceOf := goodIn_r _ [30, 14, 40, 41, 42, 43, 44, 45, 46, 47, 48, 49, 50, 51, 52, 53, 54] (by decide +kernel) (by decide +kernel)
set_option maxRecDepth 20000 in
theorem gX6_worthOf_X6_pieceOf : GoodIn wsX6_worthOf (wsV RX6 90 RX6 yX6_pieceOf wsX6_pieceOf) := goodIn_app (goodIn_of _ (by decide +kernel)) ggX6_worthOf_X6_pieceOf
set_option maxRecDepth 20000 in
theorem ggX6_worthOf_X6_isLarge : GoodIn wsX6_worthOf wsX6_isLarge := goodIn_r _ [33, 34, 35] (by decide +kernel) (by decide +kernel)
set_option maxRecDepth 20000 in
theorem gX6_worthOf_X6_isLarge : GoodIn wsX6_worthOf (va_wsS RX6 127 yX6_isLarge wsX6_isLarge) := goodIn_app (goodIn_of _ (by decide +kernel)) ggX6_worthOf_X6_isLarge
set_option maxRecDepth 20000 in
theorem ggX6_worthOf_X6_holeAt : GoodIn wsX6_worthOf wsX6_holeAt := goodIn_r _ [39, 19, 6, 40, 41, 42, 43, 44, 45, 46, 47, 48, 49, 50, 51, 52, 53, 54] (by decide +kernel) (by decide +kernel)
set_option maxRecDepth 20000 in
theorem gX6_worthOf_X6_holeAt : GoodIn wsX6_worthOf (wsV RX6 74 RX6 yX6_holeAt wsX6_holeAt) := goodIn_app (goodIn_of _ (by decide +kernel)) ggX6_worthOf_X6_holeAt
theorem dX6_worthOf_0 : decode cX6_worthOf 0 = .ok (.aload_n 0, 1) := by decide +kernel
theorem dX6_worthOf_1 : decode cX6_worthOf 1 = .ok (.getfield 19, 3) := by decide +kernel
theorem dX6_worthOf_4 : decode cX6_worthOf 4 = .ok (.iconst 1, 1) := by decide +kernel
theorem dX6_worthOf_5 : decode cX6_worthOf 5 = .ok (.iaload, 1) := by decide +kernel
theorem dX6_worthOf_6 : decode cX6_worthOf 6 = .ok (.ifCond .ne 7, 3) := by decide +kernel
theorem dX6_worthOf_9 : decode cX6_worthOf 9 = .ok (.lconst 0, 1) := by decide +kernel
theorem dX6_worthOf_10 : decode cX6_worthOf 10 = .ok (.goto 6, 3) := by decide +kernel
theorem dX6_worthOf_13 : decode cX6_worthOf 13 = .ok (.ldc2_w 119, 3) := by decide +kernel
theorem dX6_worthOf_16 : decode cX6_worthOf 16 = .ok (.lstore_n 3, 1) := by decide +kernel
theorem dX6_worthOf_17 : decode cX6_worthOf 17 = .ok (.aload_n 0, 1) := by decide +kernel
theorem dX6_worthOf_18 : decode cX6_worthOf 18 = .ok (.getfield 19, 3) := by decide +kernel
theorem dX6_worthOf_21 : decode cX6_worthOf 21 = .ok (.iconst 1, 1) := by decide +kernel
theorem dX6_worthOf_22 : decode cX6_worthOf 22 = .ok (.iaload, 1) := by decide +kernel
theorem dX6_worthOf_23 : decode cX6_worthOf 23 = .ok (.ifCond .ne 9, 3) := by decide +kernel
theorem dX6_worthOf_26 : decode cX6_worthOf 26 = .ok (.ldc2_w 119, 3) := by decide +kernel
theorem dX6_worthOf_29 : decode cX6_worthOf 29 = .ok (.goto 4, 3) := by decide +kernel
theorem dX6_worthOf_32 : decode cX6_worthOf 32 = .ok (.lconst 0, 1) := by decide +kernel
theorem dX6_worthOf_33 : decode cX6_worthOf 33 = .ok (.lstore 5, 2) := by decide +kernel
theorem dX6_worthOf_35 : decode cX6_worthOf 35 = .ok (.aload_n 0, 1) := by decide +kernel
theorem dX6_worthOf_36 : decode cX6_worthOf 36 = .ok (.invokevirtual 57, 3) := by decide +kernel
theorem dX6_worthOf_39 : decode cX6_worthOf 39 = .ok (.istore 7, 2) := by decide +kernel
theorem dX6_worthOf_41 : decode cX6_worthOf 41 = .ok (.iload 7, 2) := by decide +kernel
theorem dX6_worthOf_43 : decode cX6_worthOf 43 = .ok (.ifCond .le 233, 3) := by decide +kernel
theorem dX6_worthOf_46 : decode cX6_worthOf 46 = .ok (.aload_n 0, 1) := by decide +kernel
theorem dX6_worthOf_47 : decode cX6_worthOf 47 = .ok (.iload 7, 2) := by decide +kernel
theorem dX6_worthOf_49 : decode cX6_worthOf 49 = .ok (.invokevirtual 121, 3) := by decide +kernel
theorem dX6_worthOf_52 : decode cX6_worthOf 52 = .ok (.istore 8, 2) := by decide +kernel
theorem dX6_worthOf_54 : decode cX6_worthOf 54 = .ok (.iload_n 1, 1) := by decide +kernel
theorem dX6_worthOf_55 : decode cX6_worthOf 55 = .ok (.iload 7, 2) := by decide +kernel
theorem dX6_worthOf_57 : decode cX6_worthOf 57 = .ok (.iload 8, 2) := by decide +kernel
theorem dX6_worthOf_59 : decode cX6_worthOf 59 = .ok (.isub, 1) := by decide +kernel
theorem dX6_worthOf_60 : decode cX6_worthOf 60 = .ok (.imul, 1) := by decide +kernel
theorem dX6_worthOf_61 : decode cX6_worthOf 61 = .ok (.bipush 16, 2) := by decide +kernel
theorem dX6_worthOf_63 : decode cX6_worthOf 63 = .ok (.imul, 1) := by decide +kernel
theorem dX6_worthOf_64 : decode cX6_worthOf 64 = .ok (.ldc 124, 2) := by decide +kernel
theorem dX6_worthOf_66 : decode cX6_worthOf 66 = .ok (.irem, 1) := by decide +kernel
theorem dX6_worthOf_67 : decode cX6_worthOf 67 = .ok (.istore 9, 2) := by decide +kernel
theorem dX6_worthOf_69 : decode cX6_worthOf 69 = .ok (.iload 9, 2) := by decide +kernel
theorem dX6_worthOf_71 : decode cX6_worthOf 71 = .ok (.invokestatic 111, 3) := by decide +kernel
theorem dX6_worthOf_74 : decode cX6_worthOf 74 = .ok (.lstore 10, 2) := by decide +kernel
theorem dX6_worthOf_76 : decode cX6_worthOf 76 = .ok (.iload 9, 2) := by decide +kernel
theorem dX6_worthOf_78 : decode cX6_worthOf 78 = .ok (.sipush 16384, 3) := by decide +kernel
theorem dX6_worthOf_81 : decode cX6_worthOf 81 = .ok (.iadd, 1) := by decide +kernel
theorem dX6_worthOf_82 : decode cX6_worthOf 82 = .ok (.ldc 124, 2) := by decide +kernel
theorem dX6_worthOf_84 : decode cX6_worthOf 84 = .ok (.irem, 1) := by decide +kernel
theorem dX6_worthOf_85 : decode cX6_worthOf 85 = .ok (.invokestatic 111, 3) := by decide +kernel
theorem dX6_worthOf_88 : decode cX6_worthOf 88 = .ok (.lstore 12, 2) := by decide +kernel
theorem dX6_worthOf_90 : decode cX6_worthOf 90 = .ok (.aload_n 0, 1) := by decide +kernel
theorem dX6_worthOf_91 : decode cX6_worthOf 91 = .ok (.getfield 13, 3) := by decide +kernel
theorem dX6_worthOf_94 : decode cX6_worthOf 94 = .ok (.aload_n 0, 1) := by decide +kernel
theorem dX6_worthOf_95 : decode cX6_worthOf 95 = .ok (.iload 7, 2) := by decide +kernel
theorem dX6_worthOf_97 : decode cX6_worthOf 97 = .ok (.invokevirtual 90, 3) := by decide +kernel
theorem dX6_worthOf_100 : decode cX6_worthOf 100 = .ok (.iaload, 1) := by decide +kernel
theorem dX6_worthOf_101 : decode cX6_worthOf 101 = .ok (.i2l, 1) := by decide +kernel
theorem dX6_worthOf_102 : decode cX6_worthOf 102 = .ok (.lstore 14, 2) := by decide +kernel
theorem dX6_worthOf_104 : decode cX6_worthOf 104 = .ok (.lload_n 3, 1) := by decide +kernel
theorem dX6_worthOf_105 : decode cX6_worthOf 105 = .ok (.lload 12, 2) := by decide +kernel
theorem dX6_worthOf_107 : decode cX6_worthOf 107 = .ok (.lmul, 1) := by decide +kernel
theorem dX6_worthOf_108 : decode cX6_worthOf 108 = .ok (.bipush 15, 2) := by decide +kernel
theorem dX6_worthOf_110 : decode cX6_worthOf 110 = .ok (.lshr, 1) := by decide +kernel
theorem dX6_worthOf_111 : decode cX6_worthOf 111 = .ok (.lload 5, 2) := by decide +kernel
theorem dX6_worthOf_113 : decode cX6_worthOf 113 = .ok (.lload 10, 2) := by decide +kernel
theorem dX6_worthOf_115 : decode cX6_worthOf 115 = .ok (.lmul, 1) := by decide +kernel
theorem dX6_worthOf_116 : decode cX6_worthOf 116 = .ok (.bipush 15, 2) := by decide +kernel
theorem dX6_worthOf_118 : decode cX6_worthOf 118 = .ok (.lshr, 1) := by decide +kernel
theorem dX6_worthOf_119 : decode cX6_worthOf 119 = .ok (.ldc2_w 125, 3) := by decide +kernel
theorem dX6_worthOf_122 : decode cX6_worthOf 122 = .ok (.lmul, 1) := by decide +kernel
theorem dX6_worthOf_123 : decode cX6_worthOf 123 = .ok (.lload 14, 2) := by decide +kernel
theorem dX6_worthOf_125 : decode cX6_worthOf 125 = .ok (.lload 14, 2) := by decide +kernel
theorem dX6_worthOf_127 : decode cX6_worthOf 127 = .ok (.lmul, 1) := by decide +kernel
theorem dX6_worthOf_128 : decode cX6_worthOf 128 = .ok (.ldiv, 1) := by decide +kernel
theorem dX6_worthOf_129 : decode cX6_worthOf 129 = .ok (.ladd, 1) := by decide +kernel
theorem dX6_worthOf_130 : decode cX6_worthOf 130 = .ok (.lstore 16, 2) := by decide +kernel
theorem dX6_worthOf_132 : decode cX6_worthOf 132 = .ok (.lload 5, 2) := by decide +kernel
theorem dX6_worthOf_134 : decode cX6_worthOf 134 = .ok (.lload 12, 2) := by decide +kernel
theorem dX6_worthOf_136 : decode cX6_worthOf 136 = .ok (.lmul, 1) := by decide +kernel
theorem dX6_worthOf_137 : decode cX6_worthOf 137 = .ok (.bipush 15, 2) := by decide +kernel
theorem dX6_worthOf_139 : decode cX6_worthOf 139 = .ok (.lshr, 1) := by decide +kernel
theorem dX6_worthOf_140 : decode cX6_worthOf 140 = .ok (.lload_n 3, 1) := by decide +kernel
theorem dX6_worthOf_141 : decode cX6_worthOf 141 = .ok (.lload 10, 2) := by decide +kernel
theorem dX6_worthOf_143 : decode cX6_worthOf 143 = .ok (.lmul, 1) := by decide +kernel
theorem dX6_worthOf_144 : decode cX6_worthOf 144 = .ok (.bipush 15, 2) := by decide +kernel
theorem dX6_worthOf_146 : decode cX6_worthOf 146 = .ok (.lshr, 1) := by decide +kernel
theorem dX6_worthOf_147 : decode cX6_worthOf 147 = .ok (.lload 14, 2) := by decide +kernel
theorem dX6_worthOf_149 : decode cX6_worthOf 149 = .ok (.lload 14, 2) := by decide +kernel
theorem dX6_worthOf_151 : decode cX6_worthOf 151 = .ok (.lmul, 1) := by decide +kernel
theorem dX6_worthOf_152 : decode cX6_worthOf 152 = .ok (.lmul, 1) := by decide +kernel
theorem dX6_worthOf_153 : decode cX6_worthOf 153 = .ok (.ldc2_w 125, 3) := by decide +kernel
theorem dX6_worthOf_156 : decode cX6_worthOf 156 = .ok (.ldiv, 1) := by decide +kernel
theorem dX6_worthOf_157 : decode cX6_worthOf 157 = .ok (.lsub, 1) := by decide +kernel
theorem dX6_worthOf_158 : decode cX6_worthOf 158 = .ok (.lstore 18, 2) := by decide +kernel
theorem dX6_worthOf_160 : decode cX6_worthOf 160 = .ok (.lload 16, 2) := by decide +kernel
theorem dX6_worthOf_162 : decode cX6_worthOf 162 = .ok (.lstore_n 3, 1) := by decide +kernel
theorem dX6_worthOf_163 : decode cX6_worthOf 163 = .ok (.lload 18, 2) := by decide +kernel
theorem dX6_worthOf_165 : decode cX6_worthOf 165 = .ok (.lstore 5, 2) := by decide +kernel
theorem dX6_worthOf_167 : decode cX6_worthOf 167 = .ok (.lload_n 3, 1) := by decide +kernel
theorem dX6_worthOf_168 : decode cX6_worthOf 168 = .ok (.invokestatic 127, 3) := by decide +kernel
theorem dX6_worthOf_171 : decode cX6_worthOf 171 = .ok (.ifCond .ne 11, 3) := by decide +kernel
theorem dX6_worthOf_174 : decode cX6_worthOf 174 = .ok (.lload 5, 2) := by decide +kernel
theorem dX6_worthOf_176 : decode cX6_worthOf 176 = .ok (.invokestatic 127, 3) := by decide +kernel
theorem dX6_worthOf_179 : decode cX6_worthOf 179 = .ok (.ifCond .eq 18, 3) := by decide +kernel
theorem dX6_worthOf_182 : decode cX6_worthOf 182 = .ok (.lload_n 3, 1) := by decide +kernel
theorem dX6_worthOf_183 : decode cX6_worthOf 183 = .ok (.bipush 8, 2) := by decide +kernel
theorem dX6_worthOf_185 : decode cX6_worthOf 185 = .ok (.lshr, 1) := by decide +kernel
theorem dX6_worthOf_186 : decode cX6_worthOf 186 = .ok (.lstore_n 3, 1) := by decide +kernel
theorem dX6_worthOf_187 : decode cX6_worthOf 187 = .ok (.lload 5, 2) := by decide +kernel
theorem dX6_worthOf_189 : decode cX6_worthOf 189 = .ok (.bipush 8, 2) := by decide +kernel
theorem dX6_worthOf_191 : decode cX6_worthOf 191 = .ok (.lshr, 1) := by decide +kernel
theorem dX6_worthOf_192 : decode cX6_worthOf 192 = .ok (.lstore 5, 2) := by decide +kernel
theorem dX6_worthOf_194 : decode cX6_worthOf 194 = .ok (.goto (-27), 3) := by decide +kernel
theorem dX6_worthOf_197 : decode cX6_worthOf 197 = .ok (.aload_n 0, 1) := by decide +kernel
theorem dX6_worthOf_198 : decode cX6_worthOf 198 = .ok (.iload 8, 2) := by decide +kernel
theorem dX6_worthOf_200 : decode cX6_worthOf 200 = .ok (.invokevirtual 74, 3) := by decide +kernel
theorem dX6_worthOf_203 : decode cX6_worthOf 203 = .ok (.istore 20, 2) := by decide +kernel
theorem dX6_worthOf_205 : decode cX6_worthOf 205 = .ok (.iload 20, 2) := by decide +kernel
theorem dX6_worthOf_207 : decode cX6_worthOf 207 = .ok (.ifCond .lt 62, 3) := by decide +kernel
theorem dX6_worthOf_210 : decode cX6_worthOf 210 = .ok (.iload_n 2, 1) := by decide +kernel
theorem dX6_worthOf_211 : decode cX6_worthOf 211 = .ok (.iload 20, 2) := by decide +kernel
theorem dX6_worthOf_213 : decode cX6_worthOf 213 = .ok (.ishr, 1) := by decide +kernel
theorem dX6_worthOf_214 : decode cX6_worthOf 214 = .ok (.iconst 1, 1) := by decide +kernel
theorem dX6_worthOf_215 : decode cX6_worthOf 215 = .ok (.iand, 1) := by decide +kernel
theorem dX6_worthOf_216 : decode cX6_worthOf 216 = .ok (.iconst 1, 1) := by decide +kernel
theorem dX6_worthOf_217 : decode cX6_worthOf 217 = .ok (.if_icmp .ne 52, 3) := by decide +kernel
theorem dX6_worthOf_220 : decode cX6_worthOf 220 = .ok (.aload_n 0, 1) := by decide +kernel
theorem dX6_worthOf_221 : decode cX6_worthOf 221 = .ok (.getfield 16, 3) := by decide +kernel
theorem dX6_worthOf_224 : decode cX6_worthOf 224 = .ok (.iconst 3, 1) := by decide +kernel
theorem dX6_worthOf_225 : decode cX6_worthOf 225 = .ok (.iload 20, 2) := by decide +kernel
theorem dX6_worthOf_227 : decode cX6_worthOf 227 = .ok (.imul, 1) := by decide +kernel
theorem dX6_worthOf_228 : decode cX6_worthOf 228 = .ok (.iconst 1, 1) := by decide +kernel
theorem dX6_worthOf_229 : decode cX6_worthOf 229 = .ok (.iadd, 1) := by decide +kernel
theorem dX6_worthOf_230 : decode cX6_worthOf 230 = .ok (.iaload, 1) := by decide +kernel
theorem dX6_worthOf_231 : decode cX6_worthOf 231 = .ok (.i2l, 1) := by decide +kernel
theorem dX6_worthOf_232 : decode cX6_worthOf 232 = .ok (.lstore 21, 2) := by decide +kernel
theorem dX6_worthOf_234 : decode cX6_worthOf 234 = .ok (.lload 5, 2) := by decide +kernel
theorem dX6_worthOf_236 : decode cX6_worthOf 236 = .ok (.lload_n 3, 1) := by decide +kernel
theorem dX6_worthOf_237 : decode cX6_worthOf 237 = .ok (.lload 21, 2) := by decide +kernel
theorem dX6_worthOf_239 : decode cX6_worthOf 239 = .ok (.lmul, 1) := by decide +kernel
theorem dX6_worthOf_240 : decode cX6_worthOf 240 = .ok (.lload 21, 2) := by decide +kernel
theorem dX6_worthOf_242 : decode cX6_worthOf 242 = .ok (.lmul, 1) := by decide +kernel
theorem dX6_worthOf_243 : decode cX6_worthOf 243 = .ok (.ldc2_w 131, 3) := by decide +kernel
theorem dX6_worthOf_246 : decode cX6_worthOf 246 = .ok (.lload 21, 2) := by decide +kernel
theorem dX6_worthOf_248 : decode cX6_worthOf 248 = .ok (.aload_n 0, 1) := by decide +kernel
theorem dX6_worthOf_249 : decode cX6_worthOf 249 = .ok (.getfield 16, 3) := by decide +kernel
theorem dX6_worthOf_252 : decode cX6_worthOf 252 = .ok (.iconst 3, 1) := by decide +kernel
theorem dX6_worthOf_253 : decode cX6_worthOf 253 = .ok (.iload 20, 2) := by decide +kernel
theorem dX6_worthOf_255 : decode cX6_worthOf 255 = .ok (.imul, 1) := by decide +kernel
theorem dX6_worthOf_256 : decode cX6_worthOf 256 = .ok (.iconst 2, 1) := by decide +kernel
theorem dX6_worthOf_257 : decode cX6_worthOf 257 = .ok (.iadd, 1) := by decide +kernel
theorem dX6_worthOf_258 : decode cX6_worthOf 258 = .ok (.iaload, 1) := by decide +kernel
theorem dX6_worthOf_259 : decode cX6_worthOf 259 = .ok (.i2l, 1) := by decide +kernel
theorem dX6_worthOf_260 : decode cX6_worthOf 260 = .ok (.ladd, 1) := by decide +kernel
theorem dX6_worthOf_261 : decode cX6_worthOf 261 = .ok (.lmul, 1) := by decide +kernel
theorem dX6_worthOf_262 : decode cX6_worthOf 262 = .ok (.iload_n 1, 1) := by decide +kernel
theorem dX6_worthOf_263 : decode cX6_worthOf 263 = .ok (.i2l, 1) := by decide +kernel
theorem dX6_worthOf_264 : decode cX6_worthOf 264 = .ok (.lmul, 1) := by decide +kernel
theorem dX6_worthOf_265 : decode cX6_worthOf 265 = .ok (.ldiv, 1) := by decide +kernel
theorem dX6_worthOf_266 : decode cX6_worthOf 266 = .ok (.ladd, 1) := by decide +kernel
theorem dX6_worthOf_267 : decode cX6_worthOf 267 = .ok (.lstore 5, 2) := by decide +kernel
theorem dX6_worthOf_269 : decode cX6_worthOf 269 = .ok (.iload 8, 2) := by decide +kernel
theorem dX6_worthOf_271 : decode cX6_worthOf 271 = .ok (.istore 7, 2) := by decide +kernel
theorem dX6_worthOf_273 : decode cX6_worthOf 273 = .ok (.goto (-232), 3) := by decide +kernel
theorem dX6_worthOf_276 : decode cX6_worthOf 276 = .ok (.aload_n 0, 1) := by decide +kernel
theorem dX6_worthOf_277 : decode cX6_worthOf 277 = .ok (.getfield 19, 3) := by decide +kernel
theorem dX6_worthOf_280 : decode cX6_worthOf 280 = .ok (.iconst 0, 1) := by decide +kernel
theorem dX6_worthOf_281 : decode cX6_worthOf 281 = .ok (.iaload, 1) := by decide +kernel
theorem dX6_worthOf_282 : decode cX6_worthOf 282 = .ok (.ifCond .ne 7, 3) := by decide +kernel
theorem dX6_worthOf_285 : decode cX6_worthOf 285 = .ok (.lload_n 3, 1) := by decide +kernel
theorem dX6_worthOf_286 : decode cX6_worthOf 286 = .ok (.goto 5, 3) := by decide +kernel
theorem dX6_worthOf_289 : decode cX6_worthOf 289 = .ok (.lload 5, 2) := by decide +kernel
theorem dX6_worthOf_291 : decode cX6_worthOf 291 = .ok (.lreturn, 1) := by decide +kernel
set_option maxRecDepth 20000 in
theorem ggX6_isSet_X6_in : GoodIn wsX6_isSet wsX6_in := goodIn_r _ [5] (by decide +kernel) (by decide +kernel)
set_option maxRecDepth 20000 in
theorem gX6_isSet_X6_in : GoodIn wsX6_isSet (va_wsS RX6 47 yX6_in wsX6_in) := goodIn_app (goodIn_of _ (by decide +kernel)) ggX6_isSet_X6_in
theorem dX6_isSet_0 : decode cX6_isSet 0 = .ok (.iload_n 0, 1) := by decide +kernel
theorem dX6_isSet_1 : decode cX6_isSet 1 = .ok (.i2l, 1) := by decide +kernel
theorem dX6_isSet_2 : decode cX6_isSet 2 = .ok (.lconst 0, 1) := by decide +kernel
theorem dX6_isSet_3 : decode cX6_isSet 3 = .ok (.ldc2_w 133, 3) := by decide +kernel
theorem dX6_isSet_6 : decode cX6_isSet 6 = .ok (.invokestatic 47, 3) := by decide +kernel
theorem dX6_isSet_9 : decode cX6_isSet 9 = .ok (.ireturn, 1) := by decide +kernel
set_option maxRecDepth 20000 in
theorem ggX6_worth_X6_in : GoodIn wsX6_worth wsX6_in := goodIn_r _ [8] (by decide +kernel) (by decide +kernel)
set_option maxRecDepth 20000 in
theorem gX6_worth_X6_in : GoodIn wsX6_worth (va_wsS RX6 47 yX6_in wsX6_in) := goodIn_app (goodIn_of _ (by decide +kernel)) ggX6_worth_X6_in
set_option maxRecDepth 20000 in
theorem ggX6_worth_X6_isSet : GoodIn wsX6_worth wsX6_isSet := goodIn_r _ [11, 12, 5, 6, 7, 8] (by decide +kernel) (by decide +kernel)
set_option maxRecDepth 20000 in
theorem gX6_worth_X6_isSet : GoodIn wsX6_worth (va_wsS RX6 137 yX6_isSet wsX6_isSet) := goodIn_app (goodIn_of _ (by decide +kernel)) ggX6_worth_X6_isSet
set_option maxRecDepth 20000 in
theorem ggX6_worth_X6_worthOf : GoodIn wsX6_worth wsX6_worthOf := goodIn_r _ [16, 17, 18, 19, 20, 21, 22, 23, 24, 25, 26, 7, 27, 3, 28, 29, 30, 31, 32, 33, 34, 35, 36, 37, 38, 39, 40, 41, 42, 43, 44, 45, 46, 47, 48, 49, 50, 51, 52, 53, 54, 55, 56, 57, 58, 59, 60, 61, 62, 63, 64, 65, 66, 67, 68] (by decide +kernel) (by decide +kernel)
set_option maxRecDepth 20000 in
theorem gX6_worth_X6_worthOf : GoodIn wsX6_worth (wsV RX6 144 RX6 yX6_worthOf wsX6_worthOf) := goodIn_app (goodIn_of _ (by decide +kernel)) ggX6_worth_X6_worthOf
theorem dX6_worth_0 : decode cX6_worth 0 = .ok (.iload_n 1, 1) := by decide +kernel
theorem dX6_worth_1 : decode cX6_worth 1 = .ok (.i2l, 1) := by decide +kernel
theorem dX6_worth_2 : decode cX6_worth 2 = .ok (.lconst 1, 1) := by decide +kernel
theorem dX6_worth_3 : decode cX6_worth 3 = .ok (.ldc2_w 135, 3) := by decide +kernel
theorem dX6_worth_6 : decode cX6_worth 6 = .ok (.invokestatic 47, 3) := by decide +kernel
theorem dX6_worth_9 : decode cX6_worth 9 = .ok (.ifCond .eq 10, 3) := by decide +kernel
theorem dX6_worth_12 : decode cX6_worth 12 = .ok (.iload_n 2, 1) := by decide +kernel
theorem dX6_worth_13 : decode cX6_worth 13 = .ok (.invokestatic 137, 3) := by decide +kernel
theorem dX6_worth_16 : decode cX6_worth 16 = .ok (.ifCond .ne 7, 3) := by decide +kernel
theorem dX6_worth_19 : decode cX6_worth 19 = .ok (.ldc2_w 140, 3) := by decide +kernel
theorem dX6_worth_22 : decode cX6_worth 22 = .ok (.lreturn, 1) := by decide +kernel
theorem dX6_worth_23 : decode cX6_worth 23 = .ok (.aload_n 0, 1) := by decide +kernel
theorem dX6_worth_24 : decode cX6_worth 24 = .ok (.getfield 42, 3) := by decide +kernel
theorem dX6_worth_27 : decode cX6_worth 27 = .ok (.ifCond .ne 9, 3) := by decide +kernel
theorem dX6_worth_30 : decode cX6_worth 30 = .ok (.ldc2_w 142, 3) := by decide +kernel
theorem dX6_worth_33 : decode cX6_worth 33 = .ok (.goto 9, 3) := by decide +kernel
theorem dX6_worth_36 : decode cX6_worth 36 = .ok (.aload_n 0, 1) := by decide +kernel
theorem dX6_worth_37 : decode cX6_worth 37 = .ok (.iload_n 1, 1) := by decide +kernel
theorem dX6_worth_38 : decode cX6_worth 38 = .ok (.iload_n 2, 1) := by decide +kernel
theorem dX6_worth_39 : decode cX6_worth 39 = .ok (.invokevirtual 144, 3) := by decide +kernel
theorem dX6_worth_42 : decode cX6_worth 42 = .ok (.lreturn, 1) := by decide +kernel
set_option maxRecDepth 20000 in
theorem ggX6_toneOf_X6_worthOf : GoodIn wsX6_toneOf wsX6_worthOf := goodIn_r _ [7, 8, 9, 10, 11, 12, 13, 14, 15, 16, 17, 6, 18, 2, 19, 20, 21, 22, 23, 24, 25, 26, 27, 28, 29, 30, 31, 32, 33, 34, 35, 36, 37, 38, 39, 40, 41, 42, 43, 44, 45, 46, 47, 48, 49, 50, 51, 52, 53, 54, 55, 56, 57, 58, 59] (by decide +kernel) (by decide +kernel)
set_option maxRecDepth 20000 in
theorem gX6_toneOf_X6_worthOf : GoodIn wsX6_toneOf (wsV RX6 144 RX6 yX6_worthOf wsX6_worthOf) := goodIn_app (goodIn_of _ (by decide +kernel)) ggX6_toneOf_X6_worthOf
theorem dX6_toneOf_0 : decode cX6_toneOf 0 = .ok (.aload_n 0, 1) := by decide +kernel
theorem dX6_toneOf_1 : decode cX6_toneOf 1 = .ok (.iconst 0, 1) := by decide +kernel
theorem dX6_toneOf_2 : decode cX6_toneOf 2 = .ok (.putfield 148, 3) := by decide +kernel
theorem dX6_toneOf_5 : decode cX6_toneOf 5 = .ok (.aload_n 0, 1) := by decide +kernel
theorem dX6_toneOf_6 : decode cX6_toneOf 6 = .ok (.getfield 42, 3) := by decide +kernel
theorem dX6_toneOf_9 : decode cX6_toneOf 9 = .ok (.ifCond .ne 5, 3) := by decide +kernel
theorem dX6_toneOf_12 : decode cX6_toneOf 12 = .ok (.iconst (-1), 1) := by decide +kernel
theorem dX6_toneOf_13 : decode cX6_toneOf 13 = .ok (.ireturn, 1) := by decide +kernel
theorem dX6_toneOf_14 : decode cX6_toneOf 14 = .ok (.aload_n 0, 1) := by decide +kernel
theorem dX6_toneOf_15 : decode cX6_toneOf 15 = .ok (.iconst 1, 1) := by decide +kernel
theorem dX6_toneOf_16 : decode cX6_toneOf 16 = .ok (.iload_n 1, 1) := by decide +kernel
theorem dX6_toneOf_17 : decode cX6_toneOf 17 = .ok (.invokevirtual 144, 3) := by decide +kernel
theorem dX6_toneOf_20 : decode cX6_toneOf 20 = .ok (.lconst 0, 1) := by decide +kernel
theorem dX6_toneOf_21 : decode cX6_toneOf 21 = .ok (.lcmp, 1) := by decide +kernel
theorem dX6_toneOf_22 : decode cX6_toneOf 22 = .ok (.ifCond .le 7, 3) := by decide +kernel
theorem dX6_toneOf_25 : decode cX6_toneOf 25 = .ok (.iconst 1, 1) := by decide +kernel
theorem dX6_toneOf_26 : decode cX6_toneOf 26 = .ok (.goto 4, 3) := by decide +kernel
theorem dX6_toneOf_29 : decode cX6_toneOf 29 = .ok (.iconst 0, 1) := by decide +kernel
theorem dX6_toneOf_30 : decode cX6_toneOf 30 = .ok (.istore_n 3, 1) := by decide +kernel
theorem dX6_toneOf_31 : decode cX6_toneOf 31 = .ok (.iconst 1, 1) := by decide +kernel
theorem dX6_toneOf_32 : decode cX6_toneOf 32 = .ok (.istore 4, 2) := by decide +kernel
theorem dX6_toneOf_34 : decode cX6_toneOf 34 = .ok (.iload 4, 2) := by decide +kernel
theorem dX6_toneOf_36 : decode cX6_toneOf 36 = .ok (.sipush 300, 3) := by decide +kernel
theorem dX6_toneOf_39 : decode cX6_toneOf 39 = .ok (.if_icmp .ge 60, 3) := by decide +kernel
theorem dX6_toneOf_42 : decode cX6_toneOf 42 = .ok (.aload_n 0, 1) := by decide +kernel
theorem dX6_toneOf_43 : decode cX6_toneOf 43 = .ok (.iload 4, 2) := by decide +kernel
theorem dX6_toneOf_45 : decode cX6_toneOf 45 = .ok (.iconst 1, 1) := by decide +kernel
theorem dX6_toneOf_46 : decode cX6_toneOf 46 = .ok (.iadd, 1) := by decide +kernel
theorem dX6_toneOf_47 : decode cX6_toneOf 47 = .ok (.iload_n 1, 1) := by decide +kernel
theorem dX6_toneOf_48 : decode cX6_toneOf 48 = .ok (.invokevirtual 144, 3) := by decide +kernel
theorem dX6_toneOf_51 : decode cX6_toneOf 51 = .ok (.lconst 0, 1) := by decide +kernel
theorem dX6_toneOf_52 : decode cX6_toneOf 52 = .ok (.lcmp, 1) := by decide +kernel
theorem dX6_toneOf_53 : decode cX6_toneOf 53 = .ok (.ifCond .le 7, 3) := by decide +kernel
theorem dX6_toneOf_56 : decode cX6_toneOf 56 = .ok (.iconst 1, 1) := by decide +kernel
theorem dX6_toneOf_57 : decode cX6_toneOf 57 = .ok (.goto 4, 3) := by decide +kernel
theorem dX6_toneOf_60 : decode cX6_toneOf 60 = .ok (.iconst 0, 1) := by decide +kernel
theorem dX6_toneOf_61 : decode cX6_toneOf 61 = .ok (.istore 5, 2) := by decide +kernel
theorem dX6_toneOf_63 : decode cX6_toneOf 63 = .ok (.iload_n 3, 1) := by decide +kernel
theorem dX6_toneOf_64 : decode cX6_toneOf 64 = .ok (.iload 5, 2) := by decide +kernel
theorem dX6_toneOf_66 : decode cX6_toneOf 66 = .ok (.if_icmp .eq 24, 3) := by decide +kernel
theorem dX6_toneOf_69 : decode cX6_toneOf 69 = .ok (.aload_n 0, 1) := by decide +kernel
theorem dX6_toneOf_70 : decode cX6_toneOf 70 = .ok (.getfield 148, 3) := by decide +kernel
theorem dX6_toneOf_73 : decode cX6_toneOf 73 = .ok (.iload_n 2, 1) := by decide +kernel
theorem dX6_toneOf_74 : decode cX6_toneOf 74 = .ok (.if_icmp .ne 6, 3) := by decide +kernel
theorem dX6_toneOf_77 : decode cX6_toneOf 77 = .ok (.iload 4, 2) := by decide +kernel
theorem dX6_toneOf_79 : decode cX6_toneOf 79 = .ok (.ireturn, 1) := by decide +kernel
theorem dX6_toneOf_80 : decode cX6_toneOf 80 = .ok (.aload_n 0, 1) := by decide +kernel
theorem dX6_toneOf_81 : decode cX6_toneOf 81 = .ok (.dup, 1) := by decide +kernel
theorem dX6_toneOf_82 : decode cX6_toneOf 82 = .ok (.getfield 148, 3) := by decide +kernel
theorem dX6_toneOf_85 : decode cX6_toneOf 85 = .ok (.iconst 1, 1) := by decide +kernel
theorem dX6_toneOf_86 : decode cX6_toneOf 86 = .ok (.iadd, 1) := by decide +kernel
theorem dX6_toneOf_87 : decode cX6_toneOf 87 = .ok (.putfield 148, 3) := by decide +kernel
theorem dX6_toneOf_90 : decode cX6_toneOf 90 = .ok (.iload 5, 2) := by decide +kernel
theorem dX6_toneOf_92 : decode cX6_toneOf 92 = .ok (.istore_n 3, 1) := by decide +kernel
theorem dX6_toneOf_93 : decode cX6_toneOf 93 = .ok (.iinc 4 1, 3) := by decide +kernel
theorem dX6_toneOf_96 : decode cX6_toneOf 96 = .ok (.goto (-62), 3) := by decide +kernel
theorem dX6_toneOf_99 : decode cX6_toneOf 99 = .ok (.iconst (-1), 1) := by decide +kernel
theorem dX6_toneOf_100 : decode cX6_toneOf 100 = .ok (.ireturn, 1) := by decide +kernel
set_option maxRecDepth 20000 in
theorem ggX6_tone_X6_isSet : GoodIn wsX6_tone wsX6_isSet := goodIn_r _ [6, 7, 8, 9, 5, 10] (by decide +kernel) (by decide +kernel)
set_option maxRecDepth 20000 in
theorem gX6_tone_X6_isSet : GoodIn wsX6_tone (va_wsS RX6 137 yX6_isSet wsX6_isSet) := goodIn_app (goodIn_of _ (by decide +kernel)) ggX6_tone_X6_isSet
set_option maxRecDepth 20000 in
theorem ggX6_tone_X6_toneOf : GoodIn wsX6_tone wsX6_toneOf := goodIn_r _ [14, 2, 1, 15, 16, 17, 5, 18, 19, 20, 21, 22, 23, 24, 25, 26, 27, 28, 29, 30, 31, 32, 33, 34, 35, 36, 37, 38, 39, 40, 41, 42, 43, 44, 45, 46, 47, 48, 49, 50, 51, 52, 53, 54, 55, 56, 57, 58, 59, 60, 61, 62, 63, 64, 65, 66, 67, 68, 69, 70] (by decide +kernel) (by decide +kernel)
set_option maxRecDepth 20000 in
theorem gX6_tone_X6_toneOf : GoodIn wsX6_tone (wsV RX6 151 RX6 yX6_toneOf wsX6_toneOf) := goodIn_app (goodIn_of _ (by decide +kernel)) ggX6_tone_X6_toneOf
theorem dX6_tone_0 : decode cX6_tone 0 = .ok (.iload_n 1, 1) := by decide +kernel
theorem dX6_tone_1 : decode cX6_tone 1 = .ok (.invokestatic 137, 3) := by decide +kernel
theorem dX6_tone_4 : decode cX6_tone 4 = .ok (.ifCond .eq 8, 3) := by decide +kernel
theorem dX6_tone_7 : decode cX6_tone 7 = .ok (.iload_n 2, 1) := by decide +kernel
theorem dX6_tone_8 : decode cX6_tone 8 = .ok (.iconst (-1), 1) := by decide +kernel
theorem dX6_tone_9 : decode cX6_tone 9 = .ok (.if_icmp .ge 7, 3) := by decide +kernel
theorem dX6_tone_12 : decode cX6_tone 12 = .ok (.sipush (-1002), 3) := by decide +kernel
theorem dX6_tone_15 : decode cX6_tone 15 = .ok (.ireturn, 1) := by decide +kernel
theorem dX6_tone_16 : decode cX6_tone 16 = .ok (.aload_n 0, 1) := by decide +kernel
theorem dX6_tone_17 : decode cX6_tone 17 = .ok (.getfield 42, 3) := by decide +kernel
theorem dX6_tone_20 : decode cX6_tone 20 = .ok (.ifCond .ne 7, 3) := by decide +kernel
theorem dX6_tone_23 : decode cX6_tone 23 = .ok (.sipush (-1003), 3) := by decide +kernel
theorem dX6_tone_26 : decode cX6_tone 26 = .ok (.ireturn, 1) := by decide +kernel
theorem dX6_tone_27 : decode cX6_tone 27 = .ok (.aload_n 0, 1) := by decide +kernel
theorem dX6_tone_28 : decode cX6_tone 28 = .ok (.iload_n 1, 1) := by decide +kernel
theorem dX6_tone_29 : decode cX6_tone 29 = .ok (.iload_n 2, 1) := by decide +kernel
theorem dX6_tone_30 : decode cX6_tone 30 = .ok (.invokevirtual 151, 3) := by decide +kernel
theorem dX6_tone_33 : decode cX6_tone 33 = .ok (.istore_n 3, 1) := by decide +kernel
theorem dX6_tone_34 : decode cX6_tone 34 = .ok (.iload_n 2, 1) := by decide +kernel
theorem dX6_tone_35 : decode cX6_tone 35 = .ok (.iconst (-1), 1) := by decide +kernel
theorem dX6_tone_36 : decode cX6_tone 36 = .ok (.if_icmp .ne 10, 3) := by decide +kernel
theorem dX6_tone_39 : decode cX6_tone 39 = .ok (.aload_n 0, 1) := by decide +kernel
theorem dX6_tone_40 : decode cX6_tone 40 = .ok (.getfield 148, 3) := by decide +kernel
theorem dX6_tone_43 : decode cX6_tone 43 = .ok (.goto 4, 3) := by decide +kernel
theorem dX6_tone_46 : decode cX6_tone 46 = .ok (.iload_n 3, 1) := by decide +kernel
theorem dX6_tone_47 : decode cX6_tone 47 = .ok (.ireturn, 1) := by decide +kernel
set_option maxRecDepth 20000 in
theorem ggX6_nearest_X6_in : GoodIn wsX6_nearest wsX6_in := goodIn_r _ [7] (by decide +kernel) (by decide +kernel)
set_option maxRecDepth 20000 in
theorem gX6_nearest_X6_in : GoodIn wsX6_nearest (va_wsS RX6 47 yX6_in wsX6_in) := goodIn_app (goodIn_of _ (by decide +kernel)) ggX6_nearest_X6_in
set_option maxRecDepth 20000 in
theorem ggX6_nearest_X6_toneOf : GoodIn wsX6_nearest wsX6_toneOf := goodIn_r _ [11, 12, 2, 13, 14, 15, 6, 16, 17, 18, 19, 20, 21, 22, 23, 24, 25, 26, 27, 28, 29, 30, 31, 32, 3, 33, 34, 35, 36, 37, 38, 39, 40, 41, 42, 43, 44, 45, 46, 47, 48, 49, 50, 51, 52, 53, 54, 55, 56, 57, 58, 59, 60, 61, 62, 63, 64, 65, 66, 67] (by decide +kernel) (by decide +kernel)
set_option maxRecDepth 20000 in
theorem gX6_nearest_X6_toneOf : GoodIn wsX6_nearest (wsV RX6 151 RX6 yX6_toneOf wsX6_toneOf) := goodIn_app (goodIn_of _ (by decide +kernel)) ggX6_nearest_X6_toneOf
theorem dX6_nearest_0 : decode cX6_nearest 0 = .ok (.iload_n 1, 1) := by decide +kernel
theorem dX6_nearest_1 : decode cX6_nearest 1 = .ok (.i2l, 1) := by decide +kernel
theorem dX6_nearest_2 : decode cX6_nearest 2 = .ok (.lconst 1, 1) := by decide +kernel
theorem dX6_nearest_3 : decode cX6_nearest 3 = .ok (.ldc2_w 135, 3) := by decide +kernel
theorem dX6_nearest_6 : decode cX6_nearest 6 = .ok (.invokestatic 47, 3) := by decide +kernel
theorem dX6_nearest_9 : decode cX6_nearest 9 = .ok (.ifCond .eq 13, 3) := by decide +kernel
theorem dX6_nearest_12 : decode cX6_nearest 12 = .ok (.iload_n 2, 1) := by decide +kernel
theorem dX6_nearest_13 : decode cX6_nearest 13 = .ok (.i2l, 1) := by decide +kernel
theorem dX6_nearest_14 : decode cX6_nearest 14 = .ok (.lconst 0, 1) := by decide +kernel
theorem dX6_nearest_15 : decode cX6_nearest 15 = .ok (.lconst 1, 1) := by decide +kernel
theorem dX6_nearest_16 : decode cX6_nearest 16 = .ok (.invokestatic 47, 3) := by decide +kernel
theorem dX6_nearest_19 : decode cX6_nearest 19 = .ok (.ifCond .ne 7, 3) := by decide +kernel
theorem dX6_nearest_22 : decode cX6_nearest 22 = .ok (.sipush (-1002), 3) := by decide +kernel
theorem dX6_nearest_25 : decode cX6_nearest 25 = .ok (.ireturn, 1) := by decide +kernel
theorem dX6_nearest_26 : decode cX6_nearest 26 = .ok (.aload_n 0, 1) := by decide +kernel
theorem dX6_nearest_27 : decode cX6_nearest 27 = .ok (.getfield 42, 3) := by decide +kernel
theorem dX6_nearest_30 : decode cX6_nearest 30 = .ok (.ifCond .ne 7, 3) := by decide +kernel
theorem dX6_nearest_33 : decode cX6_nearest 33 = .ok (.sipush (-1003), 3) := by decide +kernel
theorem dX6_nearest_36 : decode cX6_nearest 36 = .ok (.ireturn, 1) := by decide +kernel
theorem dX6_nearest_37 : decode cX6_nearest 37 = .ok (.iconst (-1), 1) := by decide +kernel
theorem dX6_nearest_38 : decode cX6_nearest 38 = .ok (.istore_n 3, 1) := by decide +kernel
theorem dX6_nearest_39 : decode cX6_nearest 39 = .ok (.iconst (-1), 1) := by decide +kernel
theorem dX6_nearest_40 : decode cX6_nearest 40 = .ok (.istore 4, 2) := by decide +kernel
theorem dX6_nearest_42 : decode cX6_nearest 42 = .ok (.iconst 0, 1) := by decide +kernel
theorem dX6_nearest_43 : decode cX6_nearest 43 = .ok (.istore 5, 2) := by decide +kernel
theorem dX6_nearest_45 : decode cX6_nearest 45 = .ok (.iconst 0, 1) := by decide +kernel
theorem dX6_nearest_46 : decode cX6_nearest 46 = .ok (.istore 6, 2) := by decide +kernel
theorem dX6_nearest_48 : decode cX6_nearest 48 = .ok (.iload 6, 2) := by decide +kernel
theorem dX6_nearest_50 : decode cX6_nearest 50 = .ok (.iconst 1, 1) := by decide +kernel
theorem dX6_nearest_51 : decode cX6_nearest 51 = .ok (.aload_n 0, 1) := by decide +kernel
theorem dX6_nearest_52 : decode cX6_nearest 52 = .ok (.getfield 67, 3) := by decide +kernel
theorem dX6_nearest_55 : decode cX6_nearest 55 = .ok (.ishl, 1) := by decide +kernel
theorem dX6_nearest_56 : decode cX6_nearest 56 = .ok (.if_icmp .ge 64, 3) := by decide +kernel
theorem dX6_nearest_59 : decode cX6_nearest 59 = .ok (.aload_n 0, 1) := by decide +kernel
theorem dX6_nearest_60 : decode cX6_nearest 60 = .ok (.iload 6, 2) := by decide +kernel
theorem dX6_nearest_62 : decode cX6_nearest 62 = .ok (.iconst 0, 1) := by decide +kernel
theorem dX6_nearest_63 : decode cX6_nearest 63 = .ok (.invokevirtual 151, 3) := by decide +kernel
theorem dX6_nearest_66 : decode cX6_nearest 66 = .ok (.istore 7, 2) := by decide +kernel
theorem dX6_nearest_68 : decode cX6_nearest 68 = .ok (.iload 7, 2) := by decide +kernel
theorem dX6_nearest_70 : decode cX6_nearest 70 = .ok (.iload_n 1, 1) := by decide +kernel
theorem dX6_nearest_71 : decode cX6_nearest 71 = .ok (.if_icmp .le 10, 3) := by decide +kernel
theorem dX6_nearest_74 : decode cX6_nearest 74 = .ok (.iload 7, 2) := by decide +kernel
theorem dX6_nearest_76 : decode cX6_nearest 76 = .ok (.iload_n 1, 1) := by decide +kernel
theorem dX6_nearest_77 : decode cX6_nearest 77 = .ok (.isub, 1) := by decide +kernel
theorem dX6_nearest_78 : decode cX6_nearest 78 = .ok (.goto 7, 3) := by decide +kernel
theorem dX6_nearest_81 : decode cX6_nearest 81 = .ok (.iload_n 1, 1) := by decide +kernel
theorem dX6_nearest_82 : decode cX6_nearest 82 = .ok (.iload 7, 2) := by decide +kernel
theorem dX6_nearest_84 : decode cX6_nearest 84 = .ok (.isub, 1) := by decide +kernel
theorem dX6_nearest_85 : decode cX6_nearest 85 = .ok (.istore 8, 2) := by decide +kernel
theorem dX6_nearest_87 : decode cX6_nearest 87 = .ok (.iload 7, 2) := by decide +kernel
theorem dX6_nearest_89 : decode cX6_nearest 89 = .ok (.ifCond .lt 25, 3) := by decide +kernel
theorem dX6_nearest_92 : decode cX6_nearest 92 = .ok (.iload_n 3, 1) := by decide +kernel
theorem dX6_nearest_93 : decode cX6_nearest 93 = .ok (.ifCond .lt 10, 3) := by decide +kernel
theorem dX6_nearest_96 : decode cX6_nearest 96 = .ok (.iload 8, 2) := by decide +kernel
theorem dX6_nearest_98 : decode cX6_nearest 98 = .ok (.iload 5, 2) := by decide +kernel
theorem dX6_nearest_100 : decode cX6_nearest 100 = .ok (.if_icmp .ge 14, 3) := by decide +kernel
theorem dX6_nearest_103 : decode cX6_nearest 103 = .ok (.iload 6, 2) := by decide +kernel
theorem dX6_nearest_105 : decode cX6_nearest 105 = .ok (.istore_n 3, 1) := by decide +kernel
theorem dX6_nearest_106 : decode cX6_nearest 106 = .ok (.iload 7, 2) := by decide +kernel
theorem dX6_nearest_108 : decode cX6_nearest 108 = .ok (.istore 4, 2) := by decide +kernel
theorem dX6_nearest_110 : decode cX6_nearest 110 = .ok (.iload 8, 2) := by decide +kernel
theorem dX6_nearest_112 : decode cX6_nearest 112 = .ok (.istore 5, 2) := by decide +kernel
theorem dX6_nearest_114 : decode cX6_nearest 114 = .ok (.iinc 6 1, 3) := by decide +kernel
theorem dX6_nearest_117 : decode cX6_nearest 117 = .ok (.goto (-69), 3) := by decide +kernel
theorem dX6_nearest_120 : decode cX6_nearest 120 = .ok (.iload_n 2, 1) := by decide +kernel
theorem dX6_nearest_121 : decode cX6_nearest 121 = .ok (.ifCond .ne 7, 3) := by decide +kernel
theorem dX6_nearest_124 : decode cX6_nearest 124 = .ok (.iload_n 3, 1) := by decide +kernel
theorem dX6_nearest_125 : decode cX6_nearest 125 = .ok (.goto 5, 3) := by decide +kernel
theorem dX6_nearest_128 : decode cX6_nearest 128 = .ok (.iload 4, 2) := by decide +kernel
theorem dX6_nearest_130 : decode cX6_nearest 130 = .ok (.ireturn, 1) := by decide +kernel
set_option maxRecDepth 20000 in
theorem ggX6_note_X6_isSet : GoodIn wsX6_note wsX6_isSet := goodIn_r _ [10, 11, 12, 13, 9, 14] (by decide +kernel) (by decide +kernel)
set_option maxRecDepth 20000 in
theorem gX6_note_X6_isSet : GoodIn wsX6_note (va_wsS RX6 137 yX6_isSet wsX6_isSet) := goodIn_app (goodIn_of _ (by decide +kernel)) ggX6_note_X6_isSet
set_option maxRecDepth 20000 in
theorem ggX6_note_X6_in : GoodIn wsX6_note wsX6_in := goodIn_r _ [14] (by decide +kernel) (by decide +kernel)
set_option maxRecDepth 20000 in
theorem gX6_note_X6_in : GoodIn wsX6_note (va_wsS RX6 47 yX6_in wsX6_in) := goodIn_app (goodIn_of _ (by decide +kernel)) ggX6_note_X6_in
theorem dX6_note_0 : decode cX6_note 0 = .ok (.iload_n 1, 1) := by decide +kernel
theorem dX6_note_1 : decode cX6_note 1 = .ok (.invokestatic 137, 3) := by decide +kernel
theorem dX6_note_4 : decode cX6_note 4 = .ok (.ifCond .eq 27, 3) := by decide +kernel
theorem dX6_note_7 : decode cX6_note 7 = .ok (.iload_n 2, 1) := by decide +kernel
theorem dX6_note_8 : decode cX6_note 8 = .ok (.i2l, 1) := by decide +kernel
theorem dX6_note_9 : decode cX6_note 9 = .ok (.lconst 0, 1) := by decide +kernel
theorem dX6_note_10 : decode cX6_note 10 = .ok (.ldc2_w 155, 3) := by decide +kernel
theorem dX6_note_13 : decode cX6_note 13 = .ok (.invokestatic 47, 3) := by decide +kernel
theorem dX6_note_16 : decode cX6_note 16 = .ok (.ifCond .eq 15, 3) := by decide +kernel
theorem dX6_note_19 : decode cX6_note 19 = .ok (.iload_n 3, 1) := by decide +kernel
theorem dX6_note_20 : decode cX6_note 20 = .ok (.i2l, 1) := by decide +kernel
theorem dX6_note_21 : decode cX6_note 21 = .ok (.lconst 1, 1) := by decide +kernel
theorem dX6_note_22 : decode cX6_note 22 = .ok (.ldc2_w 135, 3) := by decide +kernel
theorem dX6_note_25 : decode cX6_note 25 = .ok (.invokestatic 47, 3) := by decide +kernel
theorem dX6_note_28 : decode cX6_note 28 = .ok (.ifCond .ne 7, 3) := by decide +kernel
theorem dX6_note_31 : decode cX6_note 31 = .ok (.sipush (-1002), 3) := by decide +kernel
theorem dX6_note_34 : decode cX6_note 34 = .ok (.ireturn, 1) := by decide +kernel
theorem dX6_note_35 : decode cX6_note 35 = .ok (.aload_n 0, 1) := by decide +kernel
theorem dX6_note_36 : decode cX6_note 36 = .ok (.getfield 82, 3) := by decide +kernel
theorem dX6_note_39 : decode cX6_note 39 = .ok (.bipush 6, 2) := by decide +kernel
theorem dX6_note_41 : decode cX6_note 41 = .ok (.if_icmp .ne 7, 3) := by decide +kernel
theorem dX6_note_44 : decode cX6_note 44 = .ok (.sipush (-1004), 3) := by decide +kernel
theorem dX6_note_47 : decode cX6_note 47 = .ok (.ireturn, 1) := by decide +kernel
theorem dX6_note_48 : decode cX6_note 48 = .ok (.aload_n 0, 1) := by decide +kernel
theorem dX6_note_49 : decode cX6_note 49 = .ok (.getfield 22, 3) := by decide +kernel
theorem dX6_note_52 : decode cX6_note 52 = .ok (.aload_n 0, 1) := by decide +kernel
theorem dX6_note_53 : decode cX6_note 53 = .ok (.getfield 82, 3) := by decide +kernel
theorem dX6_note_56 : decode cX6_note 56 = .ok (.iload_n 1, 1) := by decide +kernel
theorem dX6_note_57 : decode cX6_note 57 = .ok (.iastore, 1) := by decide +kernel
theorem dX6_note_58 : decode cX6_note 58 = .ok (.aload_n 0, 1) := by decide +kernel
theorem dX6_note_59 : decode cX6_note 59 = .ok (.getfield 25, 3) := by decide +kernel
theorem dX6_note_62 : decode cX6_note 62 = .ok (.aload_n 0, 1) := by decide +kernel
theorem dX6_note_63 : decode cX6_note 63 = .ok (.getfield 82, 3) := by decide +kernel
theorem dX6_note_66 : decode cX6_note 66 = .ok (.iload_n 2, 1) := by decide +kernel
theorem dX6_note_67 : decode cX6_note 67 = .ok (.iastore, 1) := by decide +kernel
theorem dX6_note_68 : decode cX6_note 68 = .ok (.aload_n 0, 1) := by decide +kernel
theorem dX6_note_69 : decode cX6_note 69 = .ok (.getfield 28, 3) := by decide +kernel
theorem dX6_note_72 : decode cX6_note 72 = .ok (.aload_n 0, 1) := by decide +kernel
theorem dX6_note_73 : decode cX6_note 73 = .ok (.getfield 82, 3) := by decide +kernel
theorem dX6_note_76 : decode cX6_note 76 = .ok (.iload_n 3, 1) := by decide +kernel
theorem dX6_note_77 : decode cX6_note 77 = .ok (.iastore, 1) := by decide +kernel
theorem dX6_note_78 : decode cX6_note 78 = .ok (.aload_n 0, 1) := by decide +kernel
theorem dX6_note_79 : decode cX6_note 79 = .ok (.dup, 1) := by decide +kernel
theorem dX6_note_80 : decode cX6_note 80 = .ok (.getfield 82, 3) := by decide +kernel
theorem dX6_note_83 : decode cX6_note 83 = .ok (.iconst 1, 1) := by decide +kernel
theorem dX6_note_84 : decode cX6_note 84 = .ok (.iadd, 1) := by decide +kernel
theorem dX6_note_85 : decode cX6_note 85 = .ok (.putfield 82, 3) := by decide +kernel
theorem dX6_note_88 : decode cX6_note 88 = .ok (.aload_n 0, 1) := by decide +kernel
theorem dX6_note_89 : decode cX6_note 89 = .ok (.getfield 82, 3) := by decide +kernel
theorem dX6_note_92 : decode cX6_note 92 = .ok (.iconst 1, 1) := by decide +kernel
theorem dX6_note_93 : decode cX6_note 93 = .ok (.isub, 1) := by decide +kernel
theorem dX6_note_94 : decode cX6_note 94 = .ok (.ireturn, 1) := by decide +kernel
set_option maxRecDepth 20000 in
theorem ggX6_missOf_X6_toneOf : GoodIn wsX6_missOf wsX6_toneOf := goodIn_r _ [8, 9, 10, 11, 12, 13, 7, 14, 15, 16, 17, 18, 19, 20, 21, 22, 23, 24, 25, 26, 27, 28, 29, 30, 31, 32, 33, 34, 35, 36, 37, 38, 39, 40, 41, 42, 43, 44, 45, 46, 47, 48, 49, 50, 51, 52, 53, 54, 55, 56, 57, 58, 59, 60, 61, 62, 63, 64, 65, 66] (by decide +kernel) (by decide +kernel)
set_option maxRecDepth 20000 in
theorem gX6_missOf_X6_toneOf : GoodIn wsX6_missOf (wsV RX6 151 RX6 yX6_toneOf wsX6_toneOf) := goodIn_app (goodIn_of _ (by decide +kernel)) ggX6_missOf_X6_toneOf
theorem dX6_missOf_0 : decode cX6_missOf 0 = .ok (.aload_n 0, 1) := by decide +kernel
theorem dX6_missOf_1 : decode cX6_missOf 1 = .ok (.aload_n 0, 1) := by decide +kernel
theorem dX6_missOf_2 : decode cX6_missOf 2 = .ok (.getfield 22, 3) := by decide +kernel
theorem dX6_missOf_5 : decode cX6_missOf 5 = .ok (.iload_n 1, 1) := by decide +kernel
theorem dX6_missOf_6 : decode cX6_missOf 6 = .ok (.iaload, 1) := by decide +kernel
theorem dX6_missOf_7 : decode cX6_missOf 7 = .ok (.aload_n 0, 1) := by decide +kernel
theorem dX6_missOf_8 : decode cX6_missOf 8 = .ok (.getfield 25, 3) := by decide +kernel
theorem dX6_missOf_11 : decode cX6_missOf 11 = .ok (.iload_n 1, 1) := by decide +kernel
theorem dX6_missOf_12 : decode cX6_missOf 12 = .ok (.iaload, 1) := by decide +kernel
theorem dX6_missOf_13 : decode cX6_missOf 13 = .ok (.invokevirtual 151, 3) := by decide +kernel
theorem dX6_missOf_16 : decode cX6_missOf 16 = .ok (.istore_n 2, 1) := by decide +kernel
theorem dX6_missOf_17 : decode cX6_missOf 17 = .ok (.iload_n 2, 1) := by decide +kernel
theorem dX6_missOf_18 : decode cX6_missOf 18 = .ok (.aload_n 0, 1) := by decide +kernel
theorem dX6_missOf_19 : decode cX6_missOf 19 = .ok (.getfield 28, 3) := by decide +kernel
theorem dX6_missOf_22 : decode cX6_missOf 22 = .ok (.iload_n 1, 1) := by decide +kernel
theorem dX6_missOf_23 : decode cX6_missOf 23 = .ok (.iaload, 1) := by decide +kernel
theorem dX6_missOf_24 : decode cX6_missOf 24 = .ok (.isub, 1) := by decide +kernel
theorem dX6_missOf_25 : decode cX6_missOf 25 = .ok (.istore_n 3, 1) := by decide +kernel
theorem dX6_missOf_26 : decode cX6_missOf 26 = .ok (.iload_n 2, 1) := by decide +kernel
theorem dX6_missOf_27 : decode cX6_missOf 27 = .ok (.ifCond .ge 9, 3) := by decide +kernel
theorem dX6_missOf_30 : decode cX6_missOf 30 = .ok (.sipush 300, 3) := by decide +kernel
theorem dX6_missOf_33 : decode cX6_missOf 33 = .ok (.goto 13, 3) := by decide +kernel
theorem dX6_missOf_36 : decode cX6_missOf 36 = .ok (.iload_n 3, 1) := by decide +kernel
theorem dX6_missOf_37 : decode cX6_missOf 37 = .ok (.ifCond .ge 8, 3) := by decide +kernel
theorem dX6_missOf_40 : decode cX6_missOf 40 = .ok (.iload_n 3, 1) := by decide +kernel
theorem dX6_missOf_41 : decode cX6_missOf 41 = .ok (.ineg, 1) := by decide +kernel
theorem dX6_missOf_42 : decode cX6_missOf 42 = .ok (.goto 4, 3) := by decide +kernel
theorem dX6_missOf_45 : decode cX6_missOf 45 = .ok (.iload_n 3, 1) := by decide +kernel
theorem dX6_missOf_46 : decode cX6_missOf 46 = .ok (.ireturn, 1) := by decide +kernel
set_option maxRecDepth 20000 in
theorem ggX6_noted_X6_in : GoodIn wsX6_noted wsX6_in := goodIn_r _ [8] (by decide +kernel) (by decide +kernel)
set_option maxRecDepth 20000 in
theorem gX6_noted_X6_in : GoodIn wsX6_noted (va_wsS RX6 47 yX6_in wsX6_in) := goodIn_app (goodIn_of _ (by decide +kernel)) ggX6_noted_X6_in
set_option maxRecDepth 20000 in
theorem ggX6_noted_X6_toneOf : GoodIn wsX6_noted wsX6_toneOf := goodIn_r _ [12, 13, 14, 15, 16, 17, 7, 18, 19, 20, 21, 22, 23, 24, 25, 26, 27, 28, 29, 30, 31, 32, 33, 34, 35, 36, 37, 38, 39, 40, 41, 42, 43, 44, 45, 46, 47, 48, 49, 50, 51, 52, 53, 54, 55, 60, 61, 62, 63, 64, 65, 66, 67, 68, 69, 70, 71, 72, 73, 74] (by decide +kernel) (by decide +kernel)
set_option maxRecDepth 20000 in
theorem gX6_noted_X6_toneOf : GoodIn wsX6_noted (wsV RX6 151 RX6 yX6_toneOf wsX6_toneOf) := goodIn_app (goodIn_of _ (by decide +kernel)) ggX6_noted_X6_toneOf
set_option maxRecDepth 20000 in
theorem ggX6_noted_X6_missOf : GoodIn wsX6_noted wsX6_missOf := goodIn_r _ [59, 2, 3, 4, 9, 10, 11, 7, 12, 13, 14, 15, 16, 17, 18, 19, 20, 21, 22, 23, 24, 25, 26, 27, 28, 29, 30, 31, 32, 33, 34, 35, 36, 37, 38, 39, 40, 41, 42, 43, 44, 45, 46, 47, 48, 49, 50, 51, 52, 53, 54, 55, 60, 61, 62, 63, 64, 65, 66, 67, 68, 69, 70, 71, 72, 73, 74] (by decide +kernel) (by decide +kernel)
set_option maxRecDepth 20000 in
theorem gX6_noted_X6_missOf : GoodIn wsX6_noted (wsV RX6 157 RX6 yX6_missOf wsX6_missOf) := goodIn_app (goodIn_of _ (by decide +kernel)) ggX6_noted_X6_missOf
theorem dX6_noted_0 : decode cX6_noted 0 = .ok (.iload_n 1, 1) := by decide +kernel
theorem dX6_noted_1 : decode cX6_noted 1 = .ok (.i2l, 1) := by decide +kernel
theorem dX6_noted_2 : decode cX6_noted 2 = .ok (.lconst 0, 1) := by decide +kernel
theorem dX6_noted_3 : decode cX6_noted 3 = .ok (.aload_n 0, 1) := by decide +kernel
theorem dX6_noted_4 : decode cX6_noted 4 = .ok (.getfield 82, 3) := by decide +kernel
theorem dX6_noted_7 : decode cX6_noted 7 = .ok (.iconst 1, 1) := by decide +kernel
theorem dX6_noted_8 : decode cX6_noted 8 = .ok (.isub, 1) := by decide +kernel
theorem dX6_noted_9 : decode cX6_noted 9 = .ok (.i2l, 1) := by decide +kernel
theorem dX6_noted_10 : decode cX6_noted 10 = .ok (.invokestatic 47, 3) := by decide +kernel
theorem dX6_noted_13 : decode cX6_noted 13 = .ok (.ifCond .ne 7, 3) := by decide +kernel
theorem dX6_noted_16 : decode cX6_noted 16 = .ok (.sipush (-1001), 3) := by decide +kernel
theorem dX6_noted_19 : decode cX6_noted 19 = .ok (.ireturn, 1) := by decide +kernel
theorem dX6_noted_20 : decode cX6_noted 20 = .ok (.iload_n 2, 1) := by decide +kernel
theorem dX6_noted_21 : decode cX6_noted 21 = .ok (.tableswitch 79 0 4 #[35, 42, 49, 56, 73], 35) := by decide +kernel
theorem dX6_noted_56 : decode cX6_noted 56 = .ok (.aload_n 0, 1) := by decide +kernel
theorem dX6_noted_57 : decode cX6_noted 57 = .ok (.getfield 22, 3) := by decide +kernel
theorem dX6_noted_60 : decode cX6_noted 60 = .ok (.iload_n 1, 1) := by decide +kernel
theorem dX6_noted_61 : decode cX6_noted 61 = .ok (.iaload, 1) := by decide +kernel
theorem dX6_noted_62 : decode cX6_noted 62 = .ok (.ireturn, 1) := by decide +kernel
theorem dX6_noted_63 : decode cX6_noted 63 = .ok (.aload_n 0, 1) := by decide +kernel
theorem dX6_noted_64 : decode cX6_noted 64 = .ok (.getfield 25, 3) := by decide +kernel
theorem dX6_noted_67 : decode cX6_noted 67 = .ok (.iload_n 1, 1) := by decide +kernel
theorem dX6_noted_68 : decode cX6_noted 68 = .ok (.iaload, 1) := by decide +kernel
theorem dX6_noted_69 : decode cX6_noted 69 = .ok (.ireturn, 1) := by decide +kernel
theorem dX6_noted_70 : decode cX6_noted 70 = .ok (.aload_n 0, 1) := by decide +kernel
theorem dX6_noted_71 : decode cX6_noted 71 = .ok (.getfield 28, 3) := by decide +kernel
theorem dX6_noted_74 : decode cX6_noted 74 = .ok (.iload_n 1, 1) := by decide +kernel
theorem dX6_noted_75 : decode cX6_noted 75 = .ok (.iaload, 1) := by decide +kernel
theorem dX6_noted_76 : decode cX6_noted 76 = .ok (.ireturn, 1) := by decide +kernel
theorem dX6_noted_77 : decode cX6_noted 77 = .ok (.aload_n 0, 1) := by decide +kernel
theorem dX6_noted_78 : decode cX6_noted 78 = .ok (.aload_n 0, 1) := by decide +kernel
theorem dX6_noted_79 : decode cX6_noted 79 = .ok (.getfield 22, 3) := by decide +kernel
theorem dX6_noted_82 : decode cX6_noted 82 = .ok (.iload_n 1, 1) := by decide +kernel
theorem dX6_noted_83 : decode cX6_noted 83 = .ok (.iaload, 1) := by decide +kernel
theorem dX6_noted_84 : decode cX6_noted 84 = .ok (.aload_n 0, 1) := by decide +kernel
theorem dX6_noted_85 : decode cX6_noted 85 = .ok (.getfield 25, 3) := by decide +kernel
theorem dX6_noted_88 : decode cX6_noted 88 = .ok (.iload_n 1, 1) := by decide +kernel
theorem dX6_noted_89 : decode cX6_noted 89 = .ok (.iaload, 1) := by decide +kernel
theorem dX6_noted_90 : decode cX6_noted 90 = .ok (.invokevirtual 151, 3) := by decide +kernel
theorem dX6_noted_93 : decode cX6_noted 93 = .ok (.ireturn, 1) := by decide +kernel
theorem dX6_noted_94 : decode cX6_noted 94 = .ok (.aload_n 0, 1) := by decide +kernel
theorem dX6_noted_95 : decode cX6_noted 95 = .ok (.iload_n 1, 1) := by decide +kernel
theorem dX6_noted_96 : decode cX6_noted 96 = .ok (.invokevirtual 157, 3) := by decide +kernel
theorem dX6_noted_99 : decode cX6_noted 99 = .ok (.ireturn, 1) := by decide +kernel
theorem dX6_noted_100 : decode cX6_noted 100 = .ok (.sipush (-1002), 3) := by decide +kernel
theorem dX6_noted_103 : decode cX6_noted 103 = .ok (.ireturn, 1) := by decide +kernel
set_option maxRecDepth 20000 in
theorem ggX6_greatest_X6_missOf : GoodIn wsX6_greatest wsX6_missOf := goodIn_r _ [6, 7, 8, 9, 10, 11, 12, 5, 13, 14, 15, 16, 17, 18, 19, 20, 21, 22, 23, 24, 25, 26, 27, 28, 29, 30, 31, 32, 33, 34, 35, 36, 37, 38, 39, 40, 41, 42, 43, 44, 45, 46, 47, 48, 49, 50, 51, 52, 53, 54, 55, 56, 57, 58, 59, 60, 61, 62, 63, 64, 65, 66, 67, 68, 69, 70, 71] (by decide +kernel) (by decide +kernel)
set_option maxRecDepth 20000 in
theorem gX6_greatest_X6_missOf : GoodIn wsX6_greatest (wsV RX6 157 RX6 yX6_missOf wsX6_missOf) := goodIn_app (goodIn_of _ (by decide +kernel)) ggX6_greatest_X6_missOf
theorem dX6_greatest_0 : decode cX6_greatest 0 = .ok (.iconst 0, 1) := by decide +kernel
theorem dX6_greatest_1 : decode cX6_greatest 1 = .ok (.istore_n 1, 1) := by decide +kernel
theorem dX6_greatest_2 : decode cX6_greatest 2 = .ok (.iconst 0, 1) := by decide +kernel
theorem dX6_greatest_3 : decode cX6_greatest 3 = .ok (.istore_n 2, 1) := by decide +kernel
theorem dX6_greatest_4 : decode cX6_greatest 4 = .ok (.iload_n 2, 1) := by decide +kernel
theorem dX6_greatest_5 : decode cX6_greatest 5 = .ok (.aload_n 0, 1) := by decide +kernel
theorem dX6_greatest_6 : decode cX6_greatest 6 = .ok (.getfield 82, 3) := by decide +kernel
theorem dX6_greatest_9 : decode cX6_greatest 9 = .ok (.if_icmp .ge 26, 3) := by decide +kernel
theorem dX6_greatest_12 : decode cX6_greatest 12 = .ok (.aload_n 0, 1) := by decide +kernel
theorem dX6_greatest_13 : decode cX6_greatest 13 = .ok (.iload_n 2, 1) := by decide +kernel
theorem dX6_greatest_14 : decode cX6_greatest 14 = .ok (.invokevirtual 157, 3) := by decide +kernel
theorem dX6_greatest_17 : decode cX6_greatest 17 = .ok (.istore_n 3, 1) := by decide +kernel
theorem dX6_greatest_18 : decode cX6_greatest 18 = .ok (.iload_n 3, 1) := by decide +kernel
theorem dX6_greatest_19 : decode cX6_greatest 19 = .ok (.iload_n 1, 1) := by decide +kernel
theorem dX6_greatest_20 : decode cX6_greatest 20 = .ok (.if_icmp .le 7, 3) := by decide +kernel
theorem dX6_greatest_23 : decode cX6_greatest 23 = .ok (.iload_n 3, 1) := by decide +kernel
theorem dX6_greatest_24 : decode cX6_greatest 24 = .ok (.goto 4, 3) := by decide +kernel
theorem dX6_greatest_27 : decode cX6_greatest 27 = .ok (.iload_n 1, 1) := by decide +kernel
theorem dX6_greatest_28 : decode cX6_greatest 28 = .ok (.istore_n 1, 1) := by decide +kernel
theorem dX6_greatest_29 : decode cX6_greatest 29 = .ok (.iinc 2 1, 3) := by decide +kernel
theorem dX6_greatest_32 : decode cX6_greatest 32 = .ok (.goto (-28), 3) := by decide +kernel
theorem dX6_greatest_35 : decode cX6_greatest 35 = .ok (.iload_n 1, 1) := by decide +kernel
theorem dX6_greatest_36 : decode cX6_greatest 36 = .ok (.ireturn, 1) := by decide +kernel
set_option maxRecDepth 20000 in
theorem ggX6_sumOfMisses_X6_missOf : GoodIn wsX6_sumOfMisses wsX6_missOf := goodIn_r _ [6, 7, 8, 9, 10, 11, 12, 5, 13, 14, 15, 16, 17, 18, 19, 20, 21, 22, 23, 24, 25, 26, 27, 28, 29, 30, 31, 32, 33, 34, 35, 36, 37, 38, 39, 40, 41, 42, 43, 44, 45, 46, 47, 48, 49, 50, 51, 52, 53, 54, 55, 56, 57, 58, 59, 60, 61, 62, 63, 64, 65, 66, 67, 68, 69, 70, 71] (by decide +kernel) (by decide +kernel)
set_option maxRecDepth 20000 in
theorem gX6_sumOfMisses_X6_missOf : GoodIn wsX6_sumOfMisses (wsV RX6 157 RX6 yX6_missOf wsX6_missOf) := goodIn_app (goodIn_of _ (by decide +kernel)) ggX6_sumOfMisses_X6_missOf
theorem dX6_sumOfMisses_0 : decode cX6_sumOfMisses 0 = .ok (.iconst 0, 1) := by decide +kernel
theorem dX6_sumOfMisses_1 : decode cX6_sumOfMisses 1 = .ok (.istore_n 1, 1) := by decide +kernel
theorem dX6_sumOfMisses_2 : decode cX6_sumOfMisses 2 = .ok (.iconst 0, 1) := by decide +kernel
theorem dX6_sumOfMisses_3 : decode cX6_sumOfMisses 3 = .ok (.istore_n 2, 1) := by decide +kernel
theorem dX6_sumOfMisses_4 : decode cX6_sumOfMisses 4 = .ok (.iload_n 2, 1) := by decide +kernel
theorem dX6_sumOfMisses_5 : decode cX6_sumOfMisses 5 = .ok (.aload_n 0, 1) := by decide +kernel
theorem dX6_sumOfMisses_6 : decode cX6_sumOfMisses 6 = .ok (.getfield 82, 3) := by decide +kernel
theorem dX6_sumOfMisses_9 : decode cX6_sumOfMisses 9 = .ok (.if_icmp .ge 17, 3) := by decide +kernel
theorem dX6_sumOfMisses_12 : decode cX6_sumOfMisses 12 = .ok (.iload_n 1, 1) := by decide +kernel
theorem dX6_sumOfMisses_13 : decode cX6_sumOfMisses 13 = .ok (.aload_n 0, 1) := by decide +kernel
theorem dX6_sumOfMisses_14 : decode cX6_sumOfMisses 14 = .ok (.iload_n 2, 1) := by decide +kernel
theorem dX6_sumOfMisses_15 : decode cX6_sumOfMisses 15 = .ok (.invokevirtual 157, 3) := by decide +kernel
theorem dX6_sumOfMisses_18 : decode cX6_sumOfMisses 18 = .ok (.iadd, 1) := by decide +kernel
theorem dX6_sumOfMisses_19 : decode cX6_sumOfMisses 19 = .ok (.istore_n 1, 1) := by decide +kernel
theorem dX6_sumOfMisses_20 : decode cX6_sumOfMisses 20 = .ok (.iinc 2 1, 3) := by decide +kernel
theorem dX6_sumOfMisses_23 : decode cX6_sumOfMisses 23 = .ok (.goto (-19), 3) := by decide +kernel
theorem dX6_sumOfMisses_26 : decode cX6_sumOfMisses 26 = .ok (.iload_n 1, 1) := by decide +kernel
theorem dX6_sumOfMisses_27 : decode cX6_sumOfMisses 27 = .ok (.ireturn, 1) := by decide +kernel
set_option maxRecDepth 20000 in
theorem ggX6_badness_X6_missOf : GoodIn wsX6_badness wsX6_missOf := goodIn_r _ [6, 7, 8, 9, 10, 11, 12, 5, 13, 14, 15, 16, 17, 18, 19, 20, 21, 22, 23, 24, 25, 26, 27, 28, 29, 30, 31, 32, 33, 34, 35, 36, 37, 38, 39, 40, 41, 42, 43, 44, 45, 46, 47, 48, 49, 50, 51, 52, 53, 54, 55, 56, 57, 58, 59, 60, 61, 62, 63, 64, 65, 66, 67, 68, 69, 70, 71] (by decide +kernel) (by decide +kernel)
set_option maxRecDepth 20000 in
theorem gX6_badness_X6_missOf : GoodIn wsX6_badness (wsV RX6 157 RX6 yX6_missOf wsX6_missOf) := goodIn_app (goodIn_of _ (by decide +kernel)) ggX6_badness_X6_missOf
theorem dX6_badness_0 : decode cX6_badness 0 = .ok (.iconst 0, 1) := by decide +kernel
theorem dX6_badness_1 : decode cX6_badness 1 = .ok (.istore_n 1, 1) := by decide +kernel
theorem dX6_badness_2 : decode cX6_badness 2 = .ok (.iconst 0, 1) := by decide +kernel
theorem dX6_badness_3 : decode cX6_badness 3 = .ok (.istore_n 2, 1) := by decide +kernel
theorem dX6_badness_4 : decode cX6_badness 4 = .ok (.iconst 0, 1) := by decide +kernel
theorem dX6_badness_5 : decode cX6_badness 5 = .ok (.istore_n 3, 1) := by decide +kernel
theorem dX6_badness_6 : decode cX6_badness 6 = .ok (.iload_n 3, 1) := by decide +kernel
theorem dX6_badness_7 : decode cX6_badness 7 = .ok (.aload_n 0, 1) := by decide +kernel
theorem dX6_badness_8 : decode cX6_badness 8 = .ok (.getfield 82, 3) := by decide +kernel
theorem dX6_badness_11 : decode cX6_badness 11 = .ok (.if_icmp .ge 34, 3) := by decide +kernel
theorem dX6_badness_14 : decode cX6_badness 14 = .ok (.aload_n 0, 1) := by decide +kernel
theorem dX6_badness_15 : decode cX6_badness 15 = .ok (.iload_n 3, 1) := by decide +kernel
theorem dX6_badness_16 : decode cX6_badness 16 = .ok (.invokevirtual 157, 3) := by decide +kernel
theorem dX6_badness_19 : decode cX6_badness 19 = .ok (.istore 4, 2) := by decide +kernel
theorem dX6_badness_21 : decode cX6_badness 21 = .ok (.iload 4, 2) := by decide +kernel
theorem dX6_badness_23 : decode cX6_badness 23 = .ok (.iload_n 1, 1) := by decide +kernel
theorem dX6_badness_24 : decode cX6_badness 24 = .ok (.if_icmp .le 8, 3) := by decide +kernel
theorem dX6_badness_27 : decode cX6_badness 27 = .ok (.iload 4, 2) := by decide +kernel
theorem dX6_badness_29 : decode cX6_badness 29 = .ok (.goto 4, 3) := by decide +kernel
theorem dX6_badness_32 : decode cX6_badness 32 = .ok (.iload_n 1, 1) := by decide +kernel
theorem dX6_badness_33 : decode cX6_badness 33 = .ok (.istore_n 1, 1) := by decide +kernel
theorem dX6_badness_34 : decode cX6_badness 34 = .ok (.iload_n 2, 1) := by decide +kernel
theorem dX6_badness_35 : decode cX6_badness 35 = .ok (.iload 4, 2) := by decide +kernel
theorem dX6_badness_37 : decode cX6_badness 37 = .ok (.iadd, 1) := by decide +kernel
theorem dX6_badness_38 : decode cX6_badness 38 = .ok (.istore_n 2, 1) := by decide +kernel
theorem dX6_badness_39 : decode cX6_badness 39 = .ok (.iinc 3 1, 3) := by decide +kernel
theorem dX6_badness_42 : decode cX6_badness 42 = .ok (.goto (-36), 3) := by decide +kernel
theorem dX6_badness_45 : decode cX6_badness 45 = .ok (.sipush 10000, 3) := by decide +kernel
theorem dX6_badness_48 : decode cX6_badness 48 = .ok (.iload_n 1, 1) := by decide +kernel
theorem dX6_badness_49 : decode cX6_badness 49 = .ok (.imul, 1) := by decide +kernel
theorem dX6_badness_50 : decode cX6_badness 50 = .ok (.iload_n 2, 1) := by decide +kernel
theorem dX6_badness_51 : decode cX6_badness 51 = .ok (.iadd, 1) := by decide +kernel
theorem dX6_badness_52 : decode cX6_badness 52 = .ok (.ireturn, 1) := by decide +kernel
set_option maxRecDepth 20000 in
theorem ggX6_drill_X6_in : GoodIn wsX6_drill wsX6_in := goodIn_r _ [6] (by decide +kernel) (by decide +kernel)
set_option maxRecDepth 20000 in
theorem gX6_drill_X6_in : GoodIn wsX6_drill (va_wsS RX6 47 yX6_in wsX6_in) := goodIn_app (goodIn_of _ (by decide +kernel)) ggX6_drill_X6_in
set_option maxRecDepth 20000 in
theorem ggX6_drill_X6_drillMany : GoodIn wsX6_drill wsX6_drillMany := goodIn_r _ [10, 2, 11, 12, 13, 14, 15, 16, 17, 18, 19, 20, 21, 22, 23, 24, 25] (by decide +kernel) (by decide +kernel)
set_option maxRecDepth 20000 in
theorem gX6_drill_X6_drillMany : GoodIn wsX6_drill (wsV RX6 93 RX6 yX6_drillMany wsX6_drillMany) := goodIn_app (goodIn_of _ (by decide +kernel)) ggX6_drill_X6_drillMany
theorem dX6_drill_0 : decode cX6_drill 0 = .ok (.iload_n 1, 1) := by decide +kernel
theorem dX6_drill_1 : decode cX6_drill 1 = .ok (.i2l, 1) := by decide +kernel
theorem dX6_drill_2 : decode cX6_drill 2 = .ok (.lconst 1, 1) := by decide +kernel
theorem dX6_drill_3 : decode cX6_drill 3 = .ok (.ldc2_w 65, 3) := by decide +kernel
theorem dX6_drill_6 : decode cX6_drill 6 = .ok (.invokestatic 47, 3) := by decide +kernel
theorem dX6_drill_9 : decode cX6_drill 9 = .ok (.ifCond .ne 7, 3) := by decide +kernel
theorem dX6_drill_12 : decode cX6_drill 12 = .ok (.sipush (-1002), 3) := by decide +kernel
theorem dX6_drill_15 : decode cX6_drill 15 = .ok (.ireturn, 1) := by decide +kernel
theorem dX6_drill_16 : decode cX6_drill 16 = .ok (.aload_n 0, 1) := by decide +kernel
theorem dX6_drill_17 : decode cX6_drill 17 = .ok (.getfield 31, 3) := by decide +kernel
theorem dX6_drill_20 : decode cX6_drill 20 = .ok (.iload_n 1, 1) := by decide +kernel
theorem dX6_drill_21 : decode cX6_drill 21 = .ok (.iload_n 2, 1) := by decide +kernel
theorem dX6_drill_22 : decode cX6_drill 22 = .ok (.bastore, 1) := by decide +kernel
theorem dX6_drill_23 : decode cX6_drill 23 = .ok (.aload_n 0, 1) := by decide +kernel
theorem dX6_drill_24 : decode cX6_drill 24 = .ok (.invokevirtual 93, 3) := by decide +kernel
theorem dX6_drill_27 : decode cX6_drill 27 = .ok (.ireturn, 1) := by decide +kernel
set_option maxRecDepth 20000 in
theorem ggX6_reach_X6_in : GoodIn wsX6_reach wsX6_in := goodIn_r _ [6] (by decide +kernel) (by decide +kernel)
set_option maxRecDepth 20000 in
theorem gX6_reach_X6_in : GoodIn wsX6_reach (va_wsS RX6 47 yX6_in wsX6_in) := goodIn_app (goodIn_of _ (by decide +kernel)) ggX6_reach_X6_in
theorem dX6_reach_0 : decode cX6_reach 0 = .ok (.iload_n 1, 1) := by decide +kernel
theorem dX6_reach_1 : decode cX6_reach 1 = .ok (.i2l, 1) := by decide +kernel
theorem dX6_reach_2 : decode cX6_reach 2 = .ok (.lconst 1, 1) := by decide +kernel
theorem dX6_reach_3 : decode cX6_reach 3 = .ok (.ldc2_w 51, 3) := by decide +kernel
theorem dX6_reach_6 : decode cX6_reach 6 = .ok (.invokestatic 47, 3) := by decide +kernel
theorem dX6_reach_9 : decode cX6_reach 9 = .ok (.ifCond .ne 7, 3) := by decide +kernel
theorem dX6_reach_12 : decode cX6_reach 12 = .ok (.sipush (-1002), 3) := by decide +kernel
theorem dX6_reach_15 : decode cX6_reach 15 = .ok (.ireturn, 1) := by decide +kernel
theorem dX6_reach_16 : decode cX6_reach 16 = .ok (.aload_n 0, 1) := by decide +kernel
theorem dX6_reach_17 : decode cX6_reach 17 = .ok (.getfield 35, 3) := by decide +kernel
theorem dX6_reach_20 : decode cX6_reach 20 = .ok (.istore_n 2, 1) := by decide +kernel
theorem dX6_reach_21 : decode cX6_reach 21 = .ok (.aload_n 0, 1) := by decide +kernel
theorem dX6_reach_22 : decode cX6_reach 22 = .ok (.iload_n 1, 1) := by decide +kernel
theorem dX6_reach_23 : decode cX6_reach 23 = .ok (.putfield 35, 3) := by decide +kernel
theorem dX6_reach_26 : decode cX6_reach 26 = .ok (.iload_n 2, 1) := by decide +kernel
theorem dX6_reach_27 : decode cX6_reach 27 = .ok (.ireturn, 1) := by decide +kernel
theorem dX6_beside_0 : decode cX6_beside 0 = .ok (.iconst (-1), 1) := by decide +kernel
theorem dX6_beside_1 : decode cX6_beside 1 = .ok (.istore_n 3, 1) := by decide +kernel
theorem dX6_beside_2 : decode cX6_beside 2 = .ok (.iconst 0, 1) := by decide +kernel
theorem dX6_beside_3 : decode cX6_beside 3 = .ok (.istore 4, 2) := by decide +kernel
theorem dX6_beside_5 : decode cX6_beside 5 = .ok (.iload 4, 2) := by decide +kernel
theorem dX6_beside_7 : decode cX6_beside 7 = .ok (.aload_n 0, 1) := by decide +kernel
theorem dX6_beside_8 : decode cX6_beside 8 = .ok (.getfield 67, 3) := by decide +kernel
theorem dX6_beside_11 : decode cX6_beside 11 = .ok (.if_icmp .ge 67, 3) := by decide +kernel
theorem dX6_beside_14 : decode cX6_beside 14 = .ok (.aload_n 0, 1) := by decide +kernel
theorem dX6_beside_15 : decode cX6_beside 15 = .ok (.getfield 16, 3) := by decide +kernel
theorem dX6_beside_18 : decode cX6_beside 18 = .ok (.iconst 3, 1) := by decide +kernel
theorem dX6_beside_19 : decode cX6_beside 19 = .ok (.iload 4, 2) := by decide +kernel
theorem dX6_beside_21 : decode cX6_beside 21 = .ok (.imul, 1) := by decide +kernel
theorem dX6_beside_22 : decode cX6_beside 22 = .ok (.iaload, 1) := by decide +kernel
theorem dX6_beside_23 : decode cX6_beside 23 = .ok (.aload_n 0, 1) := by decide +kernel
theorem dX6_beside_24 : decode cX6_beside 24 = .ok (.getfield 16, 3) := by decide +kernel
theorem dX6_beside_27 : decode cX6_beside 27 = .ok (.iconst 3, 1) := by decide +kernel
theorem dX6_beside_28 : decode cX6_beside 28 = .ok (.iload_n 1, 1) := by decide +kernel
theorem dX6_beside_29 : decode cX6_beside 29 = .ok (.imul, 1) := by decide +kernel
theorem dX6_beside_30 : decode cX6_beside 30 = .ok (.iaload, 1) := by decide +kernel
theorem dX6_beside_31 : decode cX6_beside 31 = .ok (.isub, 1) := by decide +kernel
theorem dX6_beside_32 : decode cX6_beside 32 = .ok (.iload_n 2, 1) := by decide +kernel
theorem dX6_beside_33 : decode cX6_beside 33 = .ok (.imul, 1) := by decide +kernel
theorem dX6_beside_34 : decode cX6_beside 34 = .ok (.istore 5, 2) := by decide +kernel
theorem dX6_beside_36 : decode cX6_beside 36 = .ok (.iload 5, 2) := by decide +kernel
theorem dX6_beside_38 : decode cX6_beside 38 = .ok (.ifCond .le 34, 3) := by decide +kernel
theorem dX6_beside_41 : decode cX6_beside 41 = .ok (.iload_n 3, 1) := by decide +kernel
theorem dX6_beside_42 : decode cX6_beside 42 = .ok (.ifCond .lt 27, 3) := by decide +kernel
theorem dX6_beside_45 : decode cX6_beside 45 = .ok (.iload 5, 2) := by decide +kernel
theorem dX6_beside_47 : decode cX6_beside 47 = .ok (.aload_n 0, 1) := by decide +kernel
theorem dX6_beside_48 : decode cX6_beside 48 = .ok (.getfield 16, 3) := by decide +kernel
theorem dX6_beside_51 : decode cX6_beside 51 = .ok (.iconst 3, 1) := by decide +kernel
theorem dX6_beside_52 : decode cX6_beside 52 = .ok (.iload_n 3, 1) := by decide +kernel
theorem dX6_beside_53 : decode cX6_beside 53 = .ok (.imul, 1) := by decide +kernel
theorem dX6_beside_54 : decode cX6_beside 54 = .ok (.iaload, 1) := by decide +kernel
theorem dX6_beside_55 : decode cX6_beside 55 = .ok (.aload_n 0, 1) := by decide +kernel
theorem dX6_beside_56 : decode cX6_beside 56 = .ok (.getfield 16, 3) := by decide +kernel
theorem dX6_beside_59 : decode cX6_beside 59 = .ok (.iconst 3, 1) := by decide +kernel
theorem dX6_beside_60 : decode cX6_beside 60 = .ok (.iload_n 1, 1) := by decide +kernel
theorem dX6_beside_61 : decode cX6_beside 61 = .ok (.imul, 1) := by decide +kernel
theorem dX6_beside_62 : decode cX6_beside 62 = .ok (.iaload, 1) := by decide +kernel
theorem dX6_beside_63 : decode cX6_beside 63 = .ok (.isub, 1) := by decide +kernel
theorem dX6_beside_64 : decode cX6_beside 64 = .ok (.iload_n 2, 1) := by decide +kernel
theorem dX6_beside_65 : decode cX6_beside 65 = .ok (.imul, 1) := by decide +kernel
theorem dX6_beside_66 : decode cX6_beside 66 = .ok (.if_icmp .ge 6, 3) := by decide +kernel
theorem dX6_beside_69 : decode cX6_beside 69 = .ok (.iload 4, 2) := by decide +kernel
theorem dX6_beside_71 : decode cX6_beside 71 = .ok (.istore_n 3, 1) := by decide +kernel
theorem dX6_beside_72 : decode cX6_beside 72 = .ok (.iinc 4 1, 3) := by decide +kernel
theorem dX6_beside_75 : decode cX6_beside 75 = .ok (.goto (-70), 3) := by decide +kernel
theorem dX6_beside_78 : decode cX6_beside 78 = .ok (.iload_n 3, 1) := by decide +kernel
theorem dX6_beside_79 : decode cX6_beside 79 = .ok (.ireturn, 1) := by decide +kernel
set_option maxRecDepth 20000 in
theorem ggX6_mayPlace_X6_fits : GoodIn wsX6_mayPlace wsX6_fits := goodIn_r _ [7, 8, 9, 10, 11, 6, 12, 13, 14, 15, 16, 17, 27, 28, 29, 30, 31, 32, 33, 34, 35, 36, 37, 38, 39, 40, 41] (by decide +kernel) (by decide +kernel)
set_option maxRecDepth 20000 in
theorem gX6_mayPlace_X6_fits : GoodIn wsX6_mayPlace (wsV RX6 70 RX6 yX6_fits wsX6_fits) := goodIn_app (goodIn_of _ (by decide +kernel)) ggX6_mayPlace_X6_fits
set_option maxRecDepth 20000 in
theorem ggX6_mayPlace_X6_holeAt : GoodIn wsX6_mayPlace wsX6_holeAt := goodIn_r _ [21, 22, 1, 27, 28, 29, 30, 31, 32, 33, 34, 35, 36, 37, 38, 39, 40, 41] (by decide +kernel) (by decide +kernel)
set_option maxRecDepth 20000 in
theorem gX6_mayPlace_X6_holeAt : GoodIn wsX6_mayPlace (wsV RX6 74 RX6 yX6_holeAt wsX6_holeAt) := goodIn_app (goodIn_of _ (by decide +kernel)) ggX6_mayPlace_X6_holeAt
set_option maxRecDepth 20000 in
theorem ggX6_mayPlace_X6_beside : GoodIn wsX6_mayPlace wsX6_beside := goodIn_r _ [26, 22, 1, 27, 28, 29, 30, 31, 32, 33, 34, 35, 36, 37, 38, 39, 40, 41] (by decide +kernel) (by decide +kernel)
set_option maxRecDepth 20000 in
theorem gX6_mayPlace_X6_beside : GoodIn wsX6_mayPlace (wsV RX6 160 RX6 yX6_beside wsX6_beside) := goodIn_app (goodIn_of _ (by decide +kernel)) ggX6_mayPlace_X6_beside
theorem dX6_mayPlace_0 : decode cX6_mayPlace 0 = .ok (.aload_n 0, 1) := by decide +kernel
theorem dX6_mayPlace_1 : decode cX6_mayPlace 1 = .ok (.iconst 0, 1) := by decide +kernel
theorem dX6_mayPlace_2 : decode cX6_mayPlace 2 = .ok (.iload_n 2, 1) := by decide +kernel
theorem dX6_mayPlace_3 : decode cX6_mayPlace 3 = .ok (.invokevirtual 70, 3) := by decide +kernel
theorem dX6_mayPlace_6 : decode cX6_mayPlace 6 = .ok (.ifCond .eq 11, 3) := by decide +kernel
theorem dX6_mayPlace_9 : decode cX6_mayPlace 9 = .ok (.aload_n 0, 1) := by decide +kernel
theorem dX6_mayPlace_10 : decode cX6_mayPlace 10 = .ok (.iload_n 2, 1) := by decide +kernel
theorem dX6_mayPlace_11 : decode cX6_mayPlace 11 = .ok (.invokevirtual 74, 3) := by decide +kernel
theorem dX6_mayPlace_14 : decode cX6_mayPlace 14 = .ok (.ifCond .lt 5, 3) := by decide +kernel
theorem dX6_mayPlace_17 : decode cX6_mayPlace 17 = .ok (.iconst 0, 1) := by decide +kernel
theorem dX6_mayPlace_18 : decode cX6_mayPlace 18 = .ok (.ireturn, 1) := by decide +kernel
theorem dX6_mayPlace_19 : decode cX6_mayPlace 19 = .ok (.iload_n 2, 1) := by decide +kernel
theorem dX6_mayPlace_20 : decode cX6_mayPlace 20 = .ok (.aload_n 0, 1) := by decide +kernel
theorem dX6_mayPlace_21 : decode cX6_mayPlace 21 = .ok (.getfield 16, 3) := by decide +kernel
theorem dX6_mayPlace_24 : decode cX6_mayPlace 24 = .ok (.iconst 3, 1) := by decide +kernel
theorem dX6_mayPlace_25 : decode cX6_mayPlace 25 = .ok (.iload_n 1, 1) := by decide +kernel
theorem dX6_mayPlace_26 : decode cX6_mayPlace 26 = .ok (.imul, 1) := by decide +kernel
theorem dX6_mayPlace_27 : decode cX6_mayPlace 27 = .ok (.iaload, 1) := by decide +kernel
theorem dX6_mayPlace_28 : decode cX6_mayPlace 28 = .ok (.isub, 1) := by decide +kernel
theorem dX6_mayPlace_29 : decode cX6_mayPlace 29 = .ok (.istore_n 3, 1) := by decide +kernel
theorem dX6_mayPlace_30 : decode cX6_mayPlace 30 = .ok (.aload_n 0, 1) := by decide +kernel
theorem dX6_mayPlace_31 : decode cX6_mayPlace 31 = .ok (.iload_n 1, 1) := by decide +kernel
theorem dX6_mayPlace_32 : decode cX6_mayPlace 32 = .ok (.iload_n 3, 1) := by decide +kernel
theorem dX6_mayPlace_33 : decode cX6_mayPlace 33 = .ok (.invokevirtual 160, 3) := by decide +kernel
theorem dX6_mayPlace_36 : decode cX6_mayPlace 36 = .ok (.istore 4, 2) := by decide +kernel
theorem dX6_mayPlace_38 : decode cX6_mayPlace 38 = .ok (.iload 4, 2) := by decide +kernel
theorem dX6_mayPlace_40 : decode cX6_mayPlace 40 = .ok (.ifCond .ge 5, 3) := by decide +kernel
theorem dX6_mayPlace_43 : decode cX6_mayPlace 43 = .ok (.iconst 1, 1) := by decide +kernel
theorem dX6_mayPlace_44 : decode cX6_mayPlace 44 = .ok (.ireturn, 1) := by decide +kernel
theorem dX6_mayPlace_45 : decode cX6_mayPlace 45 = .ok (.aload_n 0, 1) := by decide +kernel
theorem dX6_mayPlace_46 : decode cX6_mayPlace 46 = .ok (.getfield 16, 3) := by decide +kernel
theorem dX6_mayPlace_49 : decode cX6_mayPlace 49 = .ok (.iconst 3, 1) := by decide +kernel
theorem dX6_mayPlace_50 : decode cX6_mayPlace 50 = .ok (.iload 4, 2) := by decide +kernel
theorem dX6_mayPlace_52 : decode cX6_mayPlace 52 = .ok (.imul, 1) := by decide +kernel
theorem dX6_mayPlace_53 : decode cX6_mayPlace 53 = .ok (.iaload, 1) := by decide +kernel
theorem dX6_mayPlace_54 : decode cX6_mayPlace 54 = .ok (.aload_n 0, 1) := by decide +kernel
theorem dX6_mayPlace_55 : decode cX6_mayPlace 55 = .ok (.getfield 16, 3) := by decide +kernel
theorem dX6_mayPlace_58 : decode cX6_mayPlace 58 = .ok (.iconst 3, 1) := by decide +kernel
theorem dX6_mayPlace_59 : decode cX6_mayPlace 59 = .ok (.iload_n 1, 1) := by decide +kernel
theorem dX6_mayPlace_60 : decode cX6_mayPlace 60 = .ok (.imul, 1) := by decide +kernel
theorem dX6_mayPlace_61 : decode cX6_mayPlace 61 = .ok (.iaload, 1) := by decide +kernel
theorem dX6_mayPlace_62 : decode cX6_mayPlace 62 = .ok (.isub, 1) := by decide +kernel
theorem dX6_mayPlace_63 : decode cX6_mayPlace 63 = .ok (.iload_n 3, 1) := by decide +kernel
theorem dX6_mayPlace_64 : decode cX6_mayPlace 64 = .ok (.imul, 1) := by decide +kernel
theorem dX6_mayPlace_65 : decode cX6_mayPlace 65 = .ok (.istore 5, 2) := by decide +kernel
theorem dX6_mayPlace_67 : decode cX6_mayPlace 67 = .ok (.iload 5, 2) := by decide +kernel
theorem dX6_mayPlace_69 : decode cX6_mayPlace 69 = .ok (.aload_n 0, 1) := by decide +kernel
theorem dX6_mayPlace_70 : decode cX6_mayPlace 70 = .ok (.getfield 35, 3) := by decide +kernel
theorem dX6_mayPlace_73 : decode cX6_mayPlace 73 = .ok (.if_icmp .lt 14, 3) := by decide +kernel
theorem dX6_mayPlace_76 : decode cX6_mayPlace 76 = .ok (.iload 5, 2) := by decide +kernel
theorem dX6_mayPlace_78 : decode cX6_mayPlace 78 = .ok (.iconst 1, 1) := by decide +kernel
theorem dX6_mayPlace_79 : decode cX6_mayPlace 79 = .ok (.isub, 1) := by decide +kernel
theorem dX6_mayPlace_80 : decode cX6_mayPlace 80 = .ok (.aload_n 0, 1) := by decide +kernel
theorem dX6_mayPlace_81 : decode cX6_mayPlace 81 = .ok (.getfield 35, 3) := by decide +kernel
theorem dX6_mayPlace_84 : decode cX6_mayPlace 84 = .ok (.if_icmp .lt 7, 3) := by decide +kernel
theorem dX6_mayPlace_87 : decode cX6_mayPlace 87 = .ok (.iconst 1, 1) := by decide +kernel
theorem dX6_mayPlace_88 : decode cX6_mayPlace 88 = .ok (.goto 4, 3) := by decide +kernel
theorem dX6_mayPlace_91 : decode cX6_mayPlace 91 = .ok (.iconst 0, 1) := by decide +kernel
theorem dX6_mayPlace_92 : decode cX6_mayPlace 92 = .ok (.ireturn, 1) := by decide +kernel
set_option maxRecDepth 20000 in
theorem ggX6_moved_X6_mayPlace : GoodIn wsX6_moved wsX6_mayPlace := goodIn_r _ [8, 1, 9, 10, 11, 12, 7, 13, 2, 14, 15, 16, 17, 18, 19, 20, 21, 22, 23, 24, 25, 26, 27, 28, 29, 30, 31, 32, 33, 34, 35, 36, 37, 38, 39, 40, 41, 42, 43, 44, 45, 46] (by decide +kernel) (by decide +kernel)
set_option maxRecDepth 20000 in
theorem gX6_moved_X6_mayPlace : GoodIn wsX6_moved (wsV RX6 163 RX6 yX6_mayPlace wsX6_mayPlace) := goodIn_app (goodIn_of _ (by decide +kernel)) ggX6_moved_X6_mayPlace
set_option maxRecDepth 20000 in
theorem ggX6_moved_X6_in : GoodIn wsX6_moved wsX6_in := goodIn_r _ [22] (by decide +kernel) (by decide +kernel)
set_option maxRecDepth 20000 in
theorem gX6_moved_X6_in : GoodIn wsX6_moved (va_wsS RX6 47 yX6_in wsX6_in) := goodIn_app (goodIn_of _ (by decide +kernel)) ggX6_moved_X6_in
theorem dX6_moved_0 : decode cX6_moved 0 = .ok (.aload_n 0, 1) := by decide +kernel
theorem dX6_moved_1 : decode cX6_moved 1 = .ok (.getfield 16, 3) := by decide +kernel
theorem dX6_moved_4 : decode cX6_moved 4 = .ok (.iconst 3, 1) := by decide +kernel
theorem dX6_moved_5 : decode cX6_moved 5 = .ok (.iload_n 1, 1) := by decide +kernel
theorem dX6_moved_6 : decode cX6_moved 6 = .ok (.imul, 1) := by decide +kernel
theorem dX6_moved_7 : decode cX6_moved 7 = .ok (.iload_n 2, 1) := by decide +kernel
theorem dX6_moved_8 : decode cX6_moved 8 = .ok (.iconst 2, 1) := by decide +kernel
theorem dX6_moved_9 : decode cX6_moved 9 = .ok (.idiv, 1) := by decide +kernel
theorem dX6_moved_10 : decode cX6_moved 10 = .ok (.iadd, 1) := by decide +kernel
theorem dX6_moved_11 : decode cX6_moved 11 = .ok (.iaload, 1) := by decide +kernel
theorem dX6_moved_12 : decode cX6_moved 12 = .ok (.istore_n 3, 1) := by decide +kernel
theorem dX6_moved_13 : decode cX6_moved 13 = .ok (.iload_n 2, 1) := by decide +kernel
theorem dX6_moved_14 : decode cX6_moved 14 = .ok (.iconst 2, 1) := by decide +kernel
theorem dX6_moved_15 : decode cX6_moved 15 = .ok (.if_icmp .ge 35, 3) := by decide +kernel
theorem dX6_moved_18 : decode cX6_moved 18 = .ok (.iload_n 2, 1) := by decide +kernel
theorem dX6_moved_19 : decode cX6_moved 19 = .ok (.ifCond .ne 9, 3) := by decide +kernel
theorem dX6_moved_22 : decode cX6_moved 22 = .ok (.iload_n 3, 1) := by decide +kernel
theorem dX6_moved_23 : decode cX6_moved 23 = .ok (.iconst 1, 1) := by decide +kernel
theorem dX6_moved_24 : decode cX6_moved 24 = .ok (.iadd, 1) := by decide +kernel
theorem dX6_moved_25 : decode cX6_moved 25 = .ok (.goto 6, 3) := by decide +kernel
theorem dX6_moved_28 : decode cX6_moved 28 = .ok (.iload_n 3, 1) := by decide +kernel
theorem dX6_moved_29 : decode cX6_moved 29 = .ok (.iconst 1, 1) := by decide +kernel
theorem dX6_moved_30 : decode cX6_moved 30 = .ok (.isub, 1) := by decide +kernel
theorem dX6_moved_31 : decode cX6_moved 31 = .ok (.istore 4, 2) := by decide +kernel
theorem dX6_moved_33 : decode cX6_moved 33 = .ok (.aload_n 0, 1) := by decide +kernel
theorem dX6_moved_34 : decode cX6_moved 34 = .ok (.iload_n 1, 1) := by decide +kernel
theorem dX6_moved_35 : decode cX6_moved 35 = .ok (.iload 4, 2) := by decide +kernel
theorem dX6_moved_37 : decode cX6_moved 37 = .ok (.invokevirtual 163, 3) := by decide +kernel
theorem dX6_moved_40 : decode cX6_moved 40 = .ok (.ifCond .eq 8, 3) := by decide +kernel
theorem dX6_moved_43 : decode cX6_moved 43 = .ok (.iload 4, 2) := by decide +kernel
theorem dX6_moved_45 : decode cX6_moved 45 = .ok (.goto 4, 3) := by decide +kernel
theorem dX6_moved_48 : decode cX6_moved 48 = .ok (.iconst (-1), 1) := by decide +kernel
theorem dX6_moved_49 : decode cX6_moved 49 = .ok (.ireturn, 1) := by decide +kernel
theorem dX6_moved_50 : decode cX6_moved 50 = .ok (.iload_n 2, 1) := by decide +kernel
theorem dX6_moved_51 : decode cX6_moved 51 = .ok (.iconst 2, 1) := by decide +kernel
theorem dX6_moved_52 : decode cX6_moved 52 = .ok (.if_icmp .ne 7, 3) := by decide +kernel
theorem dX6_moved_55 : decode cX6_moved 55 = .ok (.iconst 1, 1) := by decide +kernel
theorem dX6_moved_56 : decode cX6_moved 56 = .ok (.goto 4, 3) := by decide +kernel
theorem dX6_moved_59 : decode cX6_moved 59 = .ok (.iconst (-1), 1) := by decide +kernel
theorem dX6_moved_60 : decode cX6_moved 60 = .ok (.istore 4, 2) := by decide +kernel
theorem dX6_moved_62 : decode cX6_moved 62 = .ok (.iload_n 3, 1) := by decide +kernel
theorem dX6_moved_63 : decode cX6_moved 63 = .ok (.iload 4, 2) := by decide +kernel
theorem dX6_moved_65 : decode cX6_moved 65 = .ok (.iadd, 1) := by decide +kernel
theorem dX6_moved_66 : decode cX6_moved 66 = .ok (.istore 5, 2) := by decide +kernel
theorem dX6_moved_68 : decode cX6_moved 68 = .ok (.iload 5, 2) := by decide +kernel
theorem dX6_moved_70 : decode cX6_moved 70 = .ok (.i2l, 1) := by decide +kernel
theorem dX6_moved_71 : decode cX6_moved 71 = .ok (.lconst 1, 1) := by decide +kernel
theorem dX6_moved_72 : decode cX6_moved 72 = .ok (.ldc2_w 65, 3) := by decide +kernel
theorem dX6_moved_75 : decode cX6_moved 75 = .ok (.invokestatic 47, 3) := by decide +kernel
theorem dX6_moved_78 : decode cX6_moved 78 = .ok (.ifCond .eq 23, 3) := by decide +kernel
theorem dX6_moved_81 : decode cX6_moved 81 = .ok (.aload_n 0, 1) := by decide +kernel
theorem dX6_moved_82 : decode cX6_moved 82 = .ok (.getfield 31, 3) := by decide +kernel
theorem dX6_moved_85 : decode cX6_moved 85 = .ok (.iload 5, 2) := by decide +kernel
theorem dX6_moved_87 : decode cX6_moved 87 = .ok (.baload, 1) := by decide +kernel
theorem dX6_moved_88 : decode cX6_moved 88 = .ok (.ifCond .ne 13, 3) := by decide +kernel
theorem dX6_moved_91 : decode cX6_moved 91 = .ok (.iload 5, 2) := by decide +kernel
theorem dX6_moved_93 : decode cX6_moved 93 = .ok (.iload 4, 2) := by decide +kernel
theorem dX6_moved_95 : decode cX6_moved 95 = .ok (.iadd, 1) := by decide +kernel
theorem dX6_moved_96 : decode cX6_moved 96 = .ok (.istore 5, 2) := by decide +kernel
theorem dX6_moved_98 : decode cX6_moved 98 = .ok (.goto (-30), 3) := by decide +kernel
theorem dX6_moved_101 : decode cX6_moved 101 = .ok (.iload 5, 2) := by decide +kernel
theorem dX6_moved_103 : decode cX6_moved 103 = .ok (.i2l, 1) := by decide +kernel
theorem dX6_moved_104 : decode cX6_moved 104 = .ok (.lconst 1, 1) := by decide +kernel
theorem dX6_moved_105 : decode cX6_moved 105 = .ok (.ldc2_w 65, 3) := by decide +kernel
theorem dX6_moved_108 : decode cX6_moved 108 = .ok (.invokestatic 47, 3) := by decide +kernel
theorem dX6_moved_111 : decode cX6_moved 111 = .ok (.ifCond .eq 8, 3) := by decide +kernel
theorem dX6_moved_114 : decode cX6_moved 114 = .ok (.iload 5, 2) := by decide +kernel
theorem dX6_moved_116 : decode cX6_moved 116 = .ok (.goto 4, 3) := by decide +kernel
theorem dX6_moved_119 : decode cX6_moved 119 = .ok (.iconst (-1), 1) := by decide +kernel
theorem dX6_moved_120 : decode cX6_moved 120 = .ok (.ireturn, 1) := by decide +kernel
set_option maxRecDepth 20000 in
theorem ggX6_round_X6_badness : GoodIn wsX6_round wsX6_badness := goodIn_r _ [10, 3, 11, 12, 13, 9, 14, 15, 16, 17, 18, 19, 20, 21, 22, 1, 23, 24, 25, 26, 27, 28, 29, 30, 31, 4, 32, 33, 34, 35, 36, 37, 38, 39, 40, 41, 2, 42, 43, 44, 45, 46, 47, 48, 49, 50, 51, 52, 53, 54, 55, 56, 57, 58, 59, 60, 61, 84, 85, 86, 87, 88, 89, 90, 91, 92, 93, 94, 95, 96, 97, 98] (by decide +kernel) (by decide +kernel)
set_option maxRecDepth 20000 in
theorem gX6_round_X6_badness : GoodIn wsX6_round (wsV RX6 166 RX6 yX6_badness wsX6_badness) := goodIn_app (goodIn_of _ (by decide +kernel)) ggX6_round_X6_badness
set_option maxRecDepth 20000 in
theorem ggX6_round_X6_moved : GoodIn wsX6_round wsX6_moved := goodIn_r _ [65, 4, 66, 67, 68, 69, 70, 9, 71, 72, 73, 74, 75, 76, 33, 34, 35, 36, 1, 37, 77, 78, 79, 58, 59, 60, 61, 2, 80, 81, 82, 83, 84, 85, 86, 87, 88, 89, 90, 91, 92, 93, 94, 95, 96, 97, 98] (by decide +kernel) (by decide +kernel)
set_option maxRecDepth 20000 in
theorem gX6_round_X6_moved : GoodIn wsX6_round (wsV RX6 169 RX6 yX6_moved wsX6_moved) := goodIn_app (goodIn_of _ (by decide +kernel)) ggX6_round_X6_moved
theorem dX6_round_0 : decode cX6_round 0 = .ok (.aload_n 0, 1) := by decide +kernel
theorem dX6_round_1 : decode cX6_round 1 = .ok (.getfield 42, 3) := by decide +kernel
theorem dX6_round_4 : decode cX6_round 4 = .ok (.ifCond .eq 17, 3) := by decide +kernel
theorem dX6_round_7 : decode cX6_round 7 = .ok (.aload_n 0, 1) := by decide +kernel
theorem dX6_round_8 : decode cX6_round 8 = .ok (.getfield 67, 3) := by decide +kernel
theorem dX6_round_11 : decode cX6_round 11 = .ok (.ifCond .eq 10, 3) := by decide +kernel
theorem dX6_round_14 : decode cX6_round 14 = .ok (.aload_n 0, 1) := by decide +kernel
theorem dX6_round_15 : decode cX6_round 15 = .ok (.getfield 82, 3) := by decide +kernel
theorem dX6_round_18 : decode cX6_round 18 = .ok (.ifCond .ne 7, 3) := by decide +kernel
theorem dX6_round_21 : decode cX6_round 21 = .ok (.sipush (-1003), 3) := by decide +kernel
theorem dX6_round_24 : decode cX6_round 24 = .ok (.ireturn, 1) := by decide +kernel
theorem dX6_round_25 : decode cX6_round 25 = .ok (.aload_n 0, 1) := by decide +kernel
theorem dX6_round_26 : decode cX6_round 26 = .ok (.invokevirtual 166, 3) := by decide +kernel
theorem dX6_round_29 : decode cX6_round 29 = .ok (.istore_n 1, 1) := by decide +kernel
theorem dX6_round_30 : decode cX6_round 30 = .ok (.iconst (-1), 1) := by decide +kernel
theorem dX6_round_31 : decode cX6_round 31 = .ok (.istore_n 2, 1) := by decide +kernel
theorem dX6_round_32 : decode cX6_round 32 = .ok (.iconst 0, 1) := by decide +kernel
theorem dX6_round_33 : decode cX6_round 33 = .ok (.istore_n 3, 1) := by decide +kernel
theorem dX6_round_34 : decode cX6_round 34 = .ok (.iconst 0, 1) := by decide +kernel
theorem dX6_round_35 : decode cX6_round 35 = .ok (.istore 4, 2) := by decide +kernel
theorem dX6_round_37 : decode cX6_round 37 = .ok (.iload 4, 2) := by decide +kernel
theorem dX6_round_39 : decode cX6_round 39 = .ok (.iconst 4, 1) := by decide +kernel
theorem dX6_round_40 : decode cX6_round 40 = .ok (.aload_n 0, 1) := by decide +kernel
theorem dX6_round_41 : decode cX6_round 41 = .ok (.getfield 67, 3) := by decide +kernel
theorem dX6_round_44 : decode cX6_round 44 = .ok (.imul, 1) := by decide +kernel
theorem dX6_round_45 : decode cX6_round 45 = .ok (.if_icmp .ge 95, 3) := by decide +kernel
theorem dX6_round_48 : decode cX6_round 48 = .ok (.iload 4, 2) := by decide +kernel
theorem dX6_round_50 : decode cX6_round 50 = .ok (.iconst 4, 1) := by decide +kernel
theorem dX6_round_51 : decode cX6_round 51 = .ok (.idiv, 1) := by decide +kernel
theorem dX6_round_52 : decode cX6_round 52 = .ok (.istore 5, 2) := by decide +kernel
theorem dX6_round_54 : decode cX6_round 54 = .ok (.iload 4, 2) := by decide +kernel
theorem dX6_round_56 : decode cX6_round 56 = .ok (.iconst 4, 1) := by decide +kernel
theorem dX6_round_57 : decode cX6_round 57 = .ok (.irem, 1) := by decide +kernel
theorem dX6_round_58 : decode cX6_round 58 = .ok (.istore 6, 2) := by decide +kernel
theorem dX6_round_60 : decode cX6_round 60 = .ok (.aload_n 0, 1) := by decide +kernel
theorem dX6_round_61 : decode cX6_round 61 = .ok (.iload 5, 2) := by decide +kernel
theorem dX6_round_63 : decode cX6_round 63 = .ok (.iload 6, 2) := by decide +kernel
theorem dX6_round_65 : decode cX6_round 65 = .ok (.invokevirtual 169, 3) := by decide +kernel
theorem dX6_round_68 : decode cX6_round 68 = .ok (.istore 7, 2) := by decide +kernel
theorem dX6_round_70 : decode cX6_round 70 = .ok (.iload 7, 2) := by decide +kernel
theorem dX6_round_72 : decode cX6_round 72 = .ok (.ifCond .lt 62, 3) := by decide +kernel
theorem dX6_round_75 : decode cX6_round 75 = .ok (.iconst 3, 1) := by decide +kernel
theorem dX6_round_76 : decode cX6_round 76 = .ok (.iload 5, 2) := by decide +kernel
theorem dX6_round_78 : decode cX6_round 78 = .ok (.imul, 1) := by decide +kernel
theorem dX6_round_79 : decode cX6_round 79 = .ok (.iload 6, 2) := by decide +kernel
theorem dX6_round_81 : decode cX6_round 81 = .ok (.iconst 2, 1) := by decide +kernel
theorem dX6_round_82 : decode cX6_round 82 = .ok (.idiv, 1) := by decide +kernel
theorem dX6_round_83 : decode cX6_round 83 = .ok (.iadd, 1) := by decide +kernel
theorem dX6_round_84 : decode cX6_round 84 = .ok (.istore 8, 2) := by decide +kernel
theorem dX6_round_86 : decode cX6_round 86 = .ok (.aload_n 0, 1) := by decide +kernel
theorem dX6_round_87 : decode cX6_round 87 = .ok (.getfield 16, 3) := by decide +kernel
theorem dX6_round_90 : decode cX6_round 90 = .ok (.iload 8, 2) := by decide +kernel
theorem dX6_round_92 : decode cX6_round 92 = .ok (.iaload, 1) := by decide +kernel
theorem dX6_round_93 : decode cX6_round 93 = .ok (.istore 9, 2) := by decide +kernel
theorem dX6_round_95 : decode cX6_round 95 = .ok (.aload_n 0, 1) := by decide +kernel
theorem dX6_round_96 : decode cX6_round 96 = .ok (.getfield 16, 3) := by decide +kernel
theorem dX6_round_99 : decode cX6_round 99 = .ok (.iload 8, 2) := by decide +kernel
theorem dX6_round_101 : decode cX6_round 101 = .ok (.iload 7, 2) := by decide +kernel
theorem dX6_round_103 : decode cX6_round 103 = .ok (.iastore, 1) := by decide +kernel
theorem dX6_round_104 : decode cX6_round 104 = .ok (.aload_n 0, 1) := by decide +kernel
theorem dX6_round_105 : decode cX6_round 105 = .ok (.invokevirtual 166, 3) := by decide +kernel
theorem dX6_round_108 : decode cX6_round 108 = .ok (.istore 10, 2) := by decide +kernel
theorem dX6_round_110 : decode cX6_round 110 = .ok (.aload_n 0, 1) := by decide +kernel
theorem dX6_round_111 : decode cX6_round 111 = .ok (.getfield 16, 3) := by decide +kernel
theorem dX6_round_114 : decode cX6_round 114 = .ok (.iload 8, 2) := by decide +kernel
theorem dX6_round_116 : decode cX6_round 116 = .ok (.iload 9, 2) := by decide +kernel
theorem dX6_round_118 : decode cX6_round 118 = .ok (.iastore, 1) := by decide +kernel
theorem dX6_round_119 : decode cX6_round 119 = .ok (.iload 10, 2) := by decide +kernel
theorem dX6_round_121 : decode cX6_round 121 = .ok (.iload_n 1, 1) := by decide +kernel
theorem dX6_round_122 : decode cX6_round 122 = .ok (.if_icmp .ge 12, 3) := by decide +kernel
theorem dX6_round_125 : decode cX6_round 125 = .ok (.iload 10, 2) := by decide +kernel
theorem dX6_round_127 : decode cX6_round 127 = .ok (.istore_n 1, 1) := by decide +kernel
theorem dX6_round_128 : decode cX6_round 128 = .ok (.iload 8, 2) := by decide +kernel
theorem dX6_round_130 : decode cX6_round 130 = .ok (.istore_n 2, 1) := by decide +kernel
theorem dX6_round_131 : decode cX6_round 131 = .ok (.iload 7, 2) := by decide +kernel
theorem dX6_round_133 : decode cX6_round 133 = .ok (.istore_n 3, 1) := by decide +kernel
theorem dX6_round_134 : decode cX6_round 134 = .ok (.iinc 4 1, 3) := by decide +kernel
theorem dX6_round_137 : decode cX6_round 137 = .ok (.goto (-100), 3) := by decide +kernel
theorem dX6_round_140 : decode cX6_round 140 = .ok (.iload_n 2, 1) := by decide +kernel
theorem dX6_round_141 : decode cX6_round 141 = .ok (.ifCond .ge 5, 3) := by decide +kernel
theorem dX6_round_144 : decode cX6_round 144 = .ok (.iconst 0, 1) := by decide +kernel
theorem dX6_round_145 : decode cX6_round 145 = .ok (.ireturn, 1) := by decide +kernel
theorem dX6_round_146 : decode cX6_round 146 = .ok (.aload_n 0, 1) := by decide +kernel
theorem dX6_round_147 : decode cX6_round 147 = .ok (.getfield 16, 3) := by decide +kernel
theorem dX6_round_150 : decode cX6_round 150 = .ok (.iload_n 2, 1) := by decide +kernel
theorem dX6_round_151 : decode cX6_round 151 = .ok (.iload_n 3, 1) := by decide +kernel
theorem dX6_round_152 : decode cX6_round 152 = .ok (.iastore, 1) := by decide +kernel
theorem dX6_round_153 : decode cX6_round 153 = .ok (.aload_n 0, 1) := by decide +kernel
theorem dX6_round_154 : decode cX6_round 154 = .ok (.dup, 1) := by decide +kernel
theorem dX6_round_155 : decode cX6_round 155 = .ok (.getfield 85, 3) := by decide +kernel
theorem dX6_round_158 : decode cX6_round 158 = .ok (.iconst 1, 1) := by decide +kernel
theorem dX6_round_159 : decode cX6_round 159 = .ok (.iadd, 1) := by decide +kernel
theorem dX6_round_160 : decode cX6_round 160 = .ok (.putfield 85, 3) := by decide +kernel
theorem dX6_round_163 : decode cX6_round 163 = .ok (.iconst 1, 1) := by decide +kernel
theorem dX6_round_164 : decode cX6_round 164 = .ok (.ireturn, 1) := by decide +kernel
set_option maxRecDepth 20000 in
theorem ggX6_keep_X6_in : GoodIn wsX6_keep wsX6_in := goodIn_r _ [11] (by decide +kernel) (by decide +kernel)
set_option maxRecDepth 20000 in
theorem gX6_keep_X6_in : GoodIn wsX6_keep (va_wsS RX6 47 yX6_in wsX6_in) := goodIn_app (goodIn_of _ (by decide +kernel)) ggX6_keep_X6_in
theorem dX6_keep_0 : decode cX6_keep 0 = .ok (.iload_n 1, 1) := by decide +kernel
theorem dX6_keep_1 : decode cX6_keep 1 = .ok (.i2l, 1) := by decide +kernel
theorem dX6_keep_2 : decode cX6_keep 2 = .ok (.lconst 0, 1) := by decide +kernel
theorem dX6_keep_3 : decode cX6_keep 3 = .ok (.lconst 1, 1) := by decide +kernel
theorem dX6_keep_4 : decode cX6_keep 4 = .ok (.invokestatic 47, 3) := by decide +kernel
theorem dX6_keep_7 : decode cX6_keep 7 = .ok (.ifCond .ne 7, 3) := by decide +kernel
theorem dX6_keep_10 : decode cX6_keep 10 = .ok (.sipush (-1001), 3) := by decide +kernel
theorem dX6_keep_13 : decode cX6_keep 13 = .ok (.ireturn, 1) := by decide +kernel
theorem dX6_keep_14 : decode cX6_keep 14 = .ok (.aload_n 0, 1) := by decide +kernel
theorem dX6_keep_15 : decode cX6_keep 15 = .ok (.getfield 39, 3) := by decide +kernel
theorem dX6_keep_18 : decode cX6_keep 18 = .ok (.bipush 50, 2) := by decide +kernel
theorem dX6_keep_20 : decode cX6_keep 20 = .ok (.iload_n 1, 1) := by decide +kernel
theorem dX6_keep_21 : decode cX6_keep 21 = .ok (.imul, 1) := by decide +kernel
theorem dX6_keep_22 : decode cX6_keep 22 = .ok (.aload_n 0, 1) := by decide +kernel
theorem dX6_keep_23 : decode cX6_keep 23 = .ok (.getfield 42, 3) := by decide +kernel
theorem dX6_keep_26 : decode cX6_keep 26 = .ok (.iastore, 1) := by decide +kernel
theorem dX6_keep_27 : decode cX6_keep 27 = .ok (.aload_n 0, 1) := by decide +kernel
theorem dX6_keep_28 : decode cX6_keep 28 = .ok (.getfield 39, 3) := by decide +kernel
theorem dX6_keep_31 : decode cX6_keep 31 = .ok (.bipush 50, 2) := by decide +kernel
theorem dX6_keep_33 : decode cX6_keep 33 = .ok (.iload_n 1, 1) := by decide +kernel
theorem dX6_keep_34 : decode cX6_keep 34 = .ok (.imul, 1) := by decide +kernel
theorem dX6_keep_35 : decode cX6_keep 35 = .ok (.iconst 1, 1) := by decide +kernel
theorem dX6_keep_36 : decode cX6_keep 36 = .ok (.iadd, 1) := by decide +kernel
theorem dX6_keep_37 : decode cX6_keep 37 = .ok (.aload_n 0, 1) := by decide +kernel
theorem dX6_keep_38 : decode cX6_keep 38 = .ok (.getfield 67, 3) := by decide +kernel
theorem dX6_keep_41 : decode cX6_keep 41 = .ok (.iastore, 1) := by decide +kernel
theorem dX6_keep_42 : decode cX6_keep 42 = .ok (.aload_n 0, 1) := by decide +kernel
theorem dX6_keep_43 : decode cX6_keep 43 = .ok (.getfield 39, 3) := by decide +kernel
theorem dX6_keep_46 : decode cX6_keep 46 = .ok (.bipush 50, 2) := by decide +kernel
theorem dX6_keep_48 : decode cX6_keep 48 = .ok (.iload_n 1, 1) := by decide +kernel
theorem dX6_keep_49 : decode cX6_keep 49 = .ok (.imul, 1) := by decide +kernel
theorem dX6_keep_50 : decode cX6_keep 50 = .ok (.iconst 2, 1) := by decide +kernel
theorem dX6_keep_51 : decode cX6_keep 51 = .ok (.iadd, 1) := by decide +kernel
theorem dX6_keep_52 : decode cX6_keep 52 = .ok (.aload_n 0, 1) := by decide +kernel
theorem dX6_keep_53 : decode cX6_keep 53 = .ok (.getfield 19, 3) := by decide +kernel
theorem dX6_keep_56 : decode cX6_keep 56 = .ok (.iconst 0, 1) := by decide +kernel
theorem dX6_keep_57 : decode cX6_keep 57 = .ok (.iaload, 1) := by decide +kernel
theorem dX6_keep_58 : decode cX6_keep 58 = .ok (.iastore, 1) := by decide +kernel
theorem dX6_keep_59 : decode cX6_keep 59 = .ok (.aload_n 0, 1) := by decide +kernel
theorem dX6_keep_60 : decode cX6_keep 60 = .ok (.getfield 39, 3) := by decide +kernel
theorem dX6_keep_63 : decode cX6_keep 63 = .ok (.bipush 50, 2) := by decide +kernel
theorem dX6_keep_65 : decode cX6_keep 65 = .ok (.iload_n 1, 1) := by decide +kernel
theorem dX6_keep_66 : decode cX6_keep 66 = .ok (.imul, 1) := by decide +kernel
theorem dX6_keep_67 : decode cX6_keep 67 = .ok (.iconst 3, 1) := by decide +kernel
theorem dX6_keep_68 : decode cX6_keep 68 = .ok (.iadd, 1) := by decide +kernel
theorem dX6_keep_69 : decode cX6_keep 69 = .ok (.aload_n 0, 1) := by decide +kernel
theorem dX6_keep_70 : decode cX6_keep 70 = .ok (.getfield 19, 3) := by decide +kernel
theorem dX6_keep_73 : decode cX6_keep 73 = .ok (.iconst 1, 1) := by decide +kernel
theorem dX6_keep_74 : decode cX6_keep 74 = .ok (.iaload, 1) := by decide +kernel
theorem dX6_keep_75 : decode cX6_keep 75 = .ok (.iastore, 1) := by decide +kernel
theorem dX6_keep_76 : decode cX6_keep 76 = .ok (.iconst 0, 1) := by decide +kernel
theorem dX6_keep_77 : decode cX6_keep 77 = .ok (.istore_n 2, 1) := by decide +kernel
theorem dX6_keep_78 : decode cX6_keep 78 = .ok (.iload_n 2, 1) := by decide +kernel
theorem dX6_keep_79 : decode cX6_keep 79 = .ok (.bipush 12, 2) := by decide +kernel
theorem dX6_keep_81 : decode cX6_keep 81 = .ok (.if_icmp .ge 51, 3) := by decide +kernel
theorem dX6_keep_84 : decode cX6_keep 84 = .ok (.aload_n 0, 1) := by decide +kernel
theorem dX6_keep_85 : decode cX6_keep 85 = .ok (.getfield 39, 3) := by decide +kernel
theorem dX6_keep_88 : decode cX6_keep 88 = .ok (.bipush 50, 2) := by decide +kernel
theorem dX6_keep_90 : decode cX6_keep 90 = .ok (.iload_n 1, 1) := by decide +kernel
theorem dX6_keep_91 : decode cX6_keep 91 = .ok (.imul, 1) := by decide +kernel
theorem dX6_keep_92 : decode cX6_keep 92 = .ok (.iconst 4, 1) := by decide +kernel
theorem dX6_keep_93 : decode cX6_keep 93 = .ok (.iadd, 1) := by decide +kernel
theorem dX6_keep_94 : decode cX6_keep 94 = .ok (.iconst 2, 1) := by decide +kernel
theorem dX6_keep_95 : decode cX6_keep 95 = .ok (.iload_n 2, 1) := by decide +kernel
theorem dX6_keep_96 : decode cX6_keep 96 = .ok (.imul, 1) := by decide +kernel
theorem dX6_keep_97 : decode cX6_keep 97 = .ok (.iadd, 1) := by decide +kernel
theorem dX6_keep_98 : decode cX6_keep 98 = .ok (.aload_n 0, 1) := by decide +kernel
theorem dX6_keep_99 : decode cX6_keep 99 = .ok (.getfield 7, 3) := by decide +kernel
theorem dX6_keep_102 : decode cX6_keep 102 = .ok (.iload_n 2, 1) := by decide +kernel
theorem dX6_keep_103 : decode cX6_keep 103 = .ok (.iaload, 1) := by decide +kernel
theorem dX6_keep_104 : decode cX6_keep 104 = .ok (.iastore, 1) := by decide +kernel
theorem dX6_keep_105 : decode cX6_keep 105 = .ok (.aload_n 0, 1) := by decide +kernel
theorem dX6_keep_106 : decode cX6_keep 106 = .ok (.getfield 39, 3) := by decide +kernel
theorem dX6_keep_109 : decode cX6_keep 109 = .ok (.bipush 50, 2) := by decide +kernel
theorem dX6_keep_111 : decode cX6_keep 111 = .ok (.iload_n 1, 1) := by decide +kernel
theorem dX6_keep_112 : decode cX6_keep 112 = .ok (.imul, 1) := by decide +kernel
theorem dX6_keep_113 : decode cX6_keep 113 = .ok (.iconst 5, 1) := by decide +kernel
theorem dX6_keep_114 : decode cX6_keep 114 = .ok (.iadd, 1) := by decide +kernel
theorem dX6_keep_115 : decode cX6_keep 115 = .ok (.iconst 2, 1) := by decide +kernel
theorem dX6_keep_116 : decode cX6_keep 116 = .ok (.iload_n 2, 1) := by decide +kernel
theorem dX6_keep_117 : decode cX6_keep 117 = .ok (.imul, 1) := by decide +kernel
theorem dX6_keep_118 : decode cX6_keep 118 = .ok (.iadd, 1) := by decide +kernel
theorem dX6_keep_119 : decode cX6_keep 119 = .ok (.aload_n 0, 1) := by decide +kernel
theorem dX6_keep_120 : decode cX6_keep 120 = .ok (.getfield 13, 3) := by decide +kernel
theorem dX6_keep_123 : decode cX6_keep 123 = .ok (.iload_n 2, 1) := by decide +kernel
theorem dX6_keep_124 : decode cX6_keep 124 = .ok (.iaload, 1) := by decide +kernel
theorem dX6_keep_125 : decode cX6_keep 125 = .ok (.iastore, 1) := by decide +kernel
theorem dX6_keep_126 : decode cX6_keep 126 = .ok (.iinc 2 1, 3) := by decide +kernel
theorem dX6_keep_129 : decode cX6_keep 129 = .ok (.goto (-51), 3) := by decide +kernel
theorem dX6_keep_132 : decode cX6_keep 132 = .ok (.iconst 0, 1) := by decide +kernel
theorem dX6_keep_133 : decode cX6_keep 133 = .ok (.istore_n 2, 1) := by decide +kernel
theorem dX6_keep_134 : decode cX6_keep 134 = .ok (.iload_n 2, 1) := by decide +kernel
theorem dX6_keep_135 : decode cX6_keep 135 = .ok (.bipush 18, 2) := by decide +kernel
theorem dX6_keep_137 : decode cX6_keep 137 = .ok (.if_icmp .ge 29, 3) := by decide +kernel
theorem dX6_keep_140 : decode cX6_keep 140 = .ok (.aload_n 0, 1) := by decide +kernel
theorem dX6_keep_141 : decode cX6_keep 141 = .ok (.getfield 39, 3) := by decide +kernel
theorem dX6_keep_144 : decode cX6_keep 144 = .ok (.bipush 50, 2) := by decide +kernel
theorem dX6_keep_146 : decode cX6_keep 146 = .ok (.iload_n 1, 1) := by decide +kernel
theorem dX6_keep_147 : decode cX6_keep 147 = .ok (.imul, 1) := by decide +kernel
theorem dX6_keep_148 : decode cX6_keep 148 = .ok (.bipush 28, 2) := by decide +kernel
theorem dX6_keep_150 : decode cX6_keep 150 = .ok (.iadd, 1) := by decide +kernel
theorem dX6_keep_151 : decode cX6_keep 151 = .ok (.iload_n 2, 1) := by decide +kernel
theorem dX6_keep_152 : decode cX6_keep 152 = .ok (.iadd, 1) := by decide +kernel
theorem dX6_keep_153 : decode cX6_keep 153 = .ok (.aload_n 0, 1) := by decide +kernel
theorem dX6_keep_154 : decode cX6_keep 154 = .ok (.getfield 16, 3) := by decide +kernel
theorem dX6_keep_157 : decode cX6_keep 157 = .ok (.iload_n 2, 1) := by decide +kernel
theorem dX6_keep_158 : decode cX6_keep 158 = .ok (.iaload, 1) := by decide +kernel
theorem dX6_keep_159 : decode cX6_keep 159 = .ok (.iastore, 1) := by decide +kernel
theorem dX6_keep_160 : decode cX6_keep 160 = .ok (.iinc 2 1, 3) := by decide +kernel
theorem dX6_keep_163 : decode cX6_keep 163 = .ok (.goto (-29), 3) := by decide +kernel
theorem dX6_keep_166 : decode cX6_keep 166 = .ok (.iconst 1, 1) := by decide +kernel
theorem dX6_keep_167 : decode cX6_keep 167 = .ok (.ireturn, 1) := by decide +kernel
set_option maxRecDepth 20000 in
theorem ggX6_back_X6_in : GoodIn wsX6_back wsX6_in := goodIn_r _ [11] (by decide +kernel) (by decide +kernel)
set_option maxRecDepth 20000 in
theorem gX6_back_X6_in : GoodIn wsX6_back (va_wsS RX6 47 yX6_in wsX6_in) := goodIn_app (goodIn_of _ (by decide +kernel)) ggX6_back_X6_in
theorem dX6_back_0 : decode cX6_back 0 = .ok (.iload_n 1, 1) := by decide +kernel
theorem dX6_back_1 : decode cX6_back 1 = .ok (.i2l, 1) := by decide +kernel
theorem dX6_back_2 : decode cX6_back 2 = .ok (.lconst 0, 1) := by decide +kernel
theorem dX6_back_3 : decode cX6_back 3 = .ok (.lconst 1, 1) := by decide +kernel
theorem dX6_back_4 : decode cX6_back 4 = .ok (.invokestatic 47, 3) := by decide +kernel
theorem dX6_back_7 : decode cX6_back 7 = .ok (.ifCond .ne 7, 3) := by decide +kernel
theorem dX6_back_10 : decode cX6_back 10 = .ok (.sipush (-1001), 3) := by decide +kernel
theorem dX6_back_13 : decode cX6_back 13 = .ok (.ireturn, 1) := by decide +kernel
theorem dX6_back_14 : decode cX6_back 14 = .ok (.aload_n 0, 1) := by decide +kernel
theorem dX6_back_15 : decode cX6_back 15 = .ok (.getfield 39, 3) := by decide +kernel
theorem dX6_back_18 : decode cX6_back 18 = .ok (.bipush 50, 2) := by decide +kernel
theorem dX6_back_20 : decode cX6_back 20 = .ok (.iload_n 1, 1) := by decide +kernel
theorem dX6_back_21 : decode cX6_back 21 = .ok (.imul, 1) := by decide +kernel
theorem dX6_back_22 : decode cX6_back 22 = .ok (.iaload, 1) := by decide +kernel
theorem dX6_back_23 : decode cX6_back 23 = .ok (.ifCond .ge 7, 3) := by decide +kernel
theorem dX6_back_26 : decode cX6_back 26 = .ok (.sipush (-1003), 3) := by decide +kernel
theorem dX6_back_29 : decode cX6_back 29 = .ok (.ireturn, 1) := by decide +kernel
theorem dX6_back_30 : decode cX6_back 30 = .ok (.aload_n 0, 1) := by decide +kernel
theorem dX6_back_31 : decode cX6_back 31 = .ok (.aload_n 0, 1) := by decide +kernel
theorem dX6_back_32 : decode cX6_back 32 = .ok (.getfield 39, 3) := by decide +kernel
theorem dX6_back_35 : decode cX6_back 35 = .ok (.bipush 50, 2) := by decide +kernel
theorem dX6_back_37 : decode cX6_back 37 = .ok (.iload_n 1, 1) := by decide +kernel
theorem dX6_back_38 : decode cX6_back 38 = .ok (.imul, 1) := by decide +kernel
theorem dX6_back_39 : decode cX6_back 39 = .ok (.iaload, 1) := by decide +kernel
theorem dX6_back_40 : decode cX6_back 40 = .ok (.putfield 42, 3) := by decide +kernel
theorem dX6_back_43 : decode cX6_back 43 = .ok (.aload_n 0, 1) := by decide +kernel
theorem dX6_back_44 : decode cX6_back 44 = .ok (.aload_n 0, 1) := by decide +kernel
theorem dX6_back_45 : decode cX6_back 45 = .ok (.getfield 39, 3) := by decide +kernel
theorem dX6_back_48 : decode cX6_back 48 = .ok (.bipush 50, 2) := by decide +kernel
theorem dX6_back_50 : decode cX6_back 50 = .ok (.iload_n 1, 1) := by decide +kernel
theorem dX6_back_51 : decode cX6_back 51 = .ok (.imul, 1) := by decide +kernel
theorem dX6_back_52 : decode cX6_back 52 = .ok (.iconst 1, 1) := by decide +kernel
theorem dX6_back_53 : decode cX6_back 53 = .ok (.iadd, 1) := by decide +kernel
theorem dX6_back_54 : decode cX6_back 54 = .ok (.iaload, 1) := by decide +kernel
theorem dX6_back_55 : decode cX6_back 55 = .ok (.putfield 67, 3) := by decide +kernel
theorem dX6_back_58 : decode cX6_back 58 = .ok (.aload_n 0, 1) := by decide +kernel
theorem dX6_back_59 : decode cX6_back 59 = .ok (.getfield 19, 3) := by decide +kernel
theorem dX6_back_62 : decode cX6_back 62 = .ok (.iconst 0, 1) := by decide +kernel
theorem dX6_back_63 : decode cX6_back 63 = .ok (.aload_n 0, 1) := by decide +kernel
theorem dX6_back_64 : decode cX6_back 64 = .ok (.getfield 39, 3) := by decide +kernel
theorem dX6_back_67 : decode cX6_back 67 = .ok (.bipush 50, 2) := by decide +kernel
theorem dX6_back_69 : decode cX6_back 69 = .ok (.iload_n 1, 1) := by decide +kernel
theorem dX6_back_70 : decode cX6_back 70 = .ok (.imul, 1) := by decide +kernel
theorem dX6_back_71 : decode cX6_back 71 = .ok (.iconst 2, 1) := by decide +kernel
theorem dX6_back_72 : decode cX6_back 72 = .ok (.iadd, 1) := by decide +kernel
theorem dX6_back_73 : decode cX6_back 73 = .ok (.iaload, 1) := by decide +kernel
theorem dX6_back_74 : decode cX6_back 74 = .ok (.iastore, 1) := by decide +kernel
theorem dX6_back_75 : decode cX6_back 75 = .ok (.aload_n 0, 1) := by decide +kernel
theorem dX6_back_76 : decode cX6_back 76 = .ok (.getfield 19, 3) := by decide +kernel
theorem dX6_back_79 : decode cX6_back 79 = .ok (.iconst 1, 1) := by decide +kernel
theorem dX6_back_80 : decode cX6_back 80 = .ok (.aload_n 0, 1) := by decide +kernel
theorem dX6_back_81 : decode cX6_back 81 = .ok (.getfield 39, 3) := by decide +kernel
theorem dX6_back_84 : decode cX6_back 84 = .ok (.bipush 50, 2) := by decide +kernel
theorem dX6_back_86 : decode cX6_back 86 = .ok (.iload_n 1, 1) := by decide +kernel
theorem dX6_back_87 : decode cX6_back 87 = .ok (.imul, 1) := by decide +kernel
theorem dX6_back_88 : decode cX6_back 88 = .ok (.iconst 3, 1) := by decide +kernel
theorem dX6_back_89 : decode cX6_back 89 = .ok (.iadd, 1) := by decide +kernel
theorem dX6_back_90 : decode cX6_back 90 = .ok (.iaload, 1) := by decide +kernel
theorem dX6_back_91 : decode cX6_back 91 = .ok (.iastore, 1) := by decide +kernel
theorem dX6_back_92 : decode cX6_back 92 = .ok (.iconst 0, 1) := by decide +kernel
theorem dX6_back_93 : decode cX6_back 93 = .ok (.istore_n 2, 1) := by decide +kernel
theorem dX6_back_94 : decode cX6_back 94 = .ok (.iload_n 2, 1) := by decide +kernel
theorem dX6_back_95 : decode cX6_back 95 = .ok (.bipush 12, 2) := by decide +kernel
theorem dX6_back_97 : decode cX6_back 97 = .ok (.if_icmp .ge 51, 3) := by decide +kernel
theorem dX6_back_100 : decode cX6_back 100 = .ok (.aload_n 0, 1) := by decide +kernel
theorem dX6_back_101 : decode cX6_back 101 = .ok (.getfield 7, 3) := by decide +kernel
theorem dX6_back_104 : decode cX6_back 104 = .ok (.iload_n 2, 1) := by decide +kernel
theorem dX6_back_105 : decode cX6_back 105 = .ok (.aload_n 0, 1) := by decide +kernel
theorem dX6_back_106 : decode cX6_back 106 = .ok (.getfield 39, 3) := by decide +kernel
theorem dX6_back_109 : decode cX6_back 109 = .ok (.bipush 50, 2) := by decide +kernel
theorem dX6_back_111 : decode cX6_back 111 = .ok (.iload_n 1, 1) := by decide +kernel
theorem dX6_back_112 : decode cX6_back 112 = .ok (.imul, 1) := by decide +kernel
theorem dX6_back_113 : decode cX6_back 113 = .ok (.iconst 4, 1) := by decide +kernel
theorem dX6_back_114 : decode cX6_back 114 = .ok (.iadd, 1) := by decide +kernel
theorem dX6_back_115 : decode cX6_back 115 = .ok (.iconst 2, 1) := by decide +kernel
theorem dX6_back_116 : decode cX6_back 116 = .ok (.iload_n 2, 1) := by decide +kernel
theorem dX6_back_117 : decode cX6_back 117 = .ok (.imul, 1) := by decide +kernel
theorem dX6_back_118 : decode cX6_back 118 = .ok (.iadd, 1) := by decide +kernel
theorem dX6_back_119 : decode cX6_back 119 = .ok (.iaload, 1) := by decide +kernel
theorem dX6_back_120 : decode cX6_back 120 = .ok (.iastore, 1) := by decide +kernel
theorem dX6_back_121 : decode cX6_back 121 = .ok (.aload_n 0, 1) := by decide +kernel
theorem dX6_back_122 : decode cX6_back 122 = .ok (.getfield 13, 3) := by decide +kernel
theorem dX6_back_125 : decode cX6_back 125 = .ok (.iload_n 2, 1) := by decide +kernel
theorem dX6_back_126 : decode cX6_back 126 = .ok (.aload_n 0, 1) := by decide +kernel
theorem dX6_back_127 : decode cX6_back 127 = .ok (.getfield 39, 3) := by decide +kernel
theorem dX6_back_130 : decode cX6_back 130 = .ok (.bipush 50, 2) := by decide +kernel
theorem dX6_back_132 : decode cX6_back 132 = .ok (.iload_n 1, 1) := by decide +kernel
theorem dX6_back_133 : decode cX6_back 133 = .ok (.imul, 1) := by decide +kernel
theorem dX6_back_134 : decode cX6_back 134 = .ok (.iconst 5, 1) := by decide +kernel
theorem dX6_back_135 : decode cX6_back 135 = .ok (.iadd, 1) := by decide +kernel
theorem dX6_back_136 : decode cX6_back 136 = .ok (.iconst 2, 1) := by decide +kernel
theorem dX6_back_137 : decode cX6_back 137 = .ok (.iload_n 2, 1) := by decide +kernel
theorem dX6_back_138 : decode cX6_back 138 = .ok (.imul, 1) := by decide +kernel
theorem dX6_back_139 : decode cX6_back 139 = .ok (.iadd, 1) := by decide +kernel
theorem dX6_back_140 : decode cX6_back 140 = .ok (.iaload, 1) := by decide +kernel
theorem dX6_back_141 : decode cX6_back 141 = .ok (.iastore, 1) := by decide +kernel
theorem dX6_back_142 : decode cX6_back 142 = .ok (.iinc 2 1, 3) := by decide +kernel
theorem dX6_back_145 : decode cX6_back 145 = .ok (.goto (-51), 3) := by decide +kernel
theorem dX6_back_148 : decode cX6_back 148 = .ok (.iconst 0, 1) := by decide +kernel
theorem dX6_back_149 : decode cX6_back 149 = .ok (.istore_n 2, 1) := by decide +kernel
theorem dX6_back_150 : decode cX6_back 150 = .ok (.iload_n 2, 1) := by decide +kernel
theorem dX6_back_151 : decode cX6_back 151 = .ok (.bipush 18, 2) := by decide +kernel
theorem dX6_back_153 : decode cX6_back 153 = .ok (.if_icmp .ge 29, 3) := by decide +kernel
theorem dX6_back_156 : decode cX6_back 156 = .ok (.aload_n 0, 1) := by decide +kernel
theorem dX6_back_157 : decode cX6_back 157 = .ok (.getfield 16, 3) := by decide +kernel
theorem dX6_back_160 : decode cX6_back 160 = .ok (.iload_n 2, 1) := by decide +kernel
theorem dX6_back_161 : decode cX6_back 161 = .ok (.aload_n 0, 1) := by decide +kernel
theorem dX6_back_162 : decode cX6_back 162 = .ok (.getfield 39, 3) := by decide +kernel
theorem dX6_back_165 : decode cX6_back 165 = .ok (.bipush 50, 2) := by decide +kernel
theorem dX6_back_167 : decode cX6_back 167 = .ok (.iload_n 1, 1) := by decide +kernel
theorem dX6_back_168 : decode cX6_back 168 = .ok (.imul, 1) := by decide +kernel
theorem dX6_back_169 : decode cX6_back 169 = .ok (.bipush 28, 2) := by decide +kernel
theorem dX6_back_171 : decode cX6_back 171 = .ok (.iadd, 1) := by decide +kernel
theorem dX6_back_172 : decode cX6_back 172 = .ok (.iload_n 2, 1) := by decide +kernel
theorem dX6_back_173 : decode cX6_back 173 = .ok (.iadd, 1) := by decide +kernel
theorem dX6_back_174 : decode cX6_back 174 = .ok (.iaload, 1) := by decide +kernel
theorem dX6_back_175 : decode cX6_back 175 = .ok (.iastore, 1) := by decide +kernel
theorem dX6_back_176 : decode cX6_back 176 = .ok (.iinc 2 1, 3) := by decide +kernel
theorem dX6_back_179 : decode cX6_back 179 = .ok (.goto (-29), 3) := by decide +kernel
theorem dX6_back_182 : decode cX6_back 182 = .ok (.iconst 1, 1) := by decide +kernel
theorem dX6_back_183 : decode cX6_back 183 = .ok (.ireturn, 1) := by decide +kernel
theorem dX6_unlike_0 : decode cX6_unlike 0 = .ok (.iload_n 0, 1) := by decide +kernel
theorem dX6_unlike_1 : decode cX6_unlike 1 = .ok (.ifCond .eq 19, 3) := by decide +kernel
theorem dX6_unlike_4 : decode cX6_unlike 4 = .ok (.iload_n 1, 1) := by decide +kernel
theorem dX6_unlike_5 : decode cX6_unlike 5 = .ok (.ifCond .eq 15, 3) := by decide +kernel
theorem dX6_unlike_8 : decode cX6_unlike 8 = .ok (.iload_n 2, 1) := by decide +kernel
theorem dX6_unlike_9 : decode cX6_unlike 9 = .ok (.ifCond .eq 7, 3) := by decide +kernel
theorem dX6_unlike_12 : decode cX6_unlike 12 = .ok (.iconst 0, 1) := by decide +kernel
theorem dX6_unlike_13 : decode cX6_unlike 13 = .ok (.goto 20, 3) := by decide +kernel
theorem dX6_unlike_16 : decode cX6_unlike 16 = .ok (.iconst 1, 1) := by decide +kernel
theorem dX6_unlike_17 : decode cX6_unlike 17 = .ok (.goto 16, 3) := by decide +kernel
theorem dX6_unlike_20 : decode cX6_unlike 20 = .ok (.iload_n 0, 1) := by decide +kernel
theorem dX6_unlike_21 : decode cX6_unlike 21 = .ok (.ifCond .ne 7, 3) := by decide +kernel
theorem dX6_unlike_24 : decode cX6_unlike 24 = .ok (.iload_n 1, 1) := by decide +kernel
theorem dX6_unlike_25 : decode cX6_unlike 25 = .ok (.ifCond .eq 7, 3) := by decide +kernel
theorem dX6_unlike_28 : decode cX6_unlike 28 = .ok (.iconst 1, 1) := by decide +kernel
theorem dX6_unlike_29 : decode cX6_unlike 29 = .ok (.goto 4, 3) := by decide +kernel
theorem dX6_unlike_32 : decode cX6_unlike 32 = .ok (.iconst 0, 1) := by decide +kernel
theorem dX6_unlike_33 : decode cX6_unlike 33 = .ok (.ireturn, 1) := by decide +kernel
set_option maxRecDepth 20000 in
theorem ggX6_differs_X6_in : GoodIn wsX6_differs wsX6_in := goodIn_r _ [11] (by decide +kernel) (by decide +kernel)
set_option maxRecDepth 20000 in
theorem gX6_differs_X6_in : GoodIn wsX6_differs (va_wsS RX6 47 yX6_in wsX6_in) := goodIn_app (goodIn_of _ (by decide +kernel)) ggX6_differs_X6_in
set_option maxRecDepth 20000 in
theorem ggX6_differs_X6_unlike : GoodIn wsX6_differs wsX6_unlike := goodIn_r _ [14] (by decide +kernel) (by decide +kernel)
set_option maxRecDepth 20000 in
theorem gX6_differs_X6_unlike : GoodIn wsX6_differs (va_wsS RX6 172 yX6_unlike wsX6_unlike) := goodIn_app (goodIn_of _ (by decide +kernel)) ggX6_differs_X6_unlike
theorem dX6_differs_0 : decode cX6_differs 0 = .ok (.iload_n 1, 1) := by decide +kernel
theorem dX6_differs_1 : decode cX6_differs 1 = .ok (.i2l, 1) := by decide +kernel
theorem dX6_differs_2 : decode cX6_differs 2 = .ok (.lconst 0, 1) := by decide +kernel
theorem dX6_differs_3 : decode cX6_differs 3 = .ok (.lconst 1, 1) := by decide +kernel
theorem dX6_differs_4 : decode cX6_differs 4 = .ok (.invokestatic 47, 3) := by decide +kernel
theorem dX6_differs_7 : decode cX6_differs 7 = .ok (.ifCond .ne 7, 3) := by decide +kernel
theorem dX6_differs_10 : decode cX6_differs 10 = .ok (.sipush (-1001), 3) := by decide +kernel
theorem dX6_differs_13 : decode cX6_differs 13 = .ok (.ireturn, 1) := by decide +kernel
theorem dX6_differs_14 : decode cX6_differs 14 = .ok (.aload_n 0, 1) := by decide +kernel
theorem dX6_differs_15 : decode cX6_differs 15 = .ok (.getfield 39, 3) := by decide +kernel
theorem dX6_differs_18 : decode cX6_differs 18 = .ok (.bipush 50, 2) := by decide +kernel
theorem dX6_differs_20 : decode cX6_differs 20 = .ok (.iload_n 1, 1) := by decide +kernel
theorem dX6_differs_21 : decode cX6_differs 21 = .ok (.imul, 1) := by decide +kernel
theorem dX6_differs_22 : decode cX6_differs 22 = .ok (.iaload, 1) := by decide +kernel
theorem dX6_differs_23 : decode cX6_differs 23 = .ok (.ifCond .ge 7, 3) := by decide +kernel
theorem dX6_differs_26 : decode cX6_differs 26 = .ok (.sipush (-1003), 3) := by decide +kernel
theorem dX6_differs_29 : decode cX6_differs 29 = .ok (.ireturn, 1) := by decide +kernel
theorem dX6_differs_30 : decode cX6_differs 30 = .ok (.aload_n 0, 1) := by decide +kernel
theorem dX6_differs_31 : decode cX6_differs 31 = .ok (.getfield 19, 3) := by decide +kernel
theorem dX6_differs_34 : decode cX6_differs 34 = .ok (.iconst 0, 1) := by decide +kernel
theorem dX6_differs_35 : decode cX6_differs 35 = .ok (.iaload, 1) := by decide +kernel
theorem dX6_differs_36 : decode cX6_differs 36 = .ok (.aload_n 0, 1) := by decide +kernel
theorem dX6_differs_37 : decode cX6_differs 37 = .ok (.getfield 39, 3) := by decide +kernel
theorem dX6_differs_40 : decode cX6_differs 40 = .ok (.bipush 50, 2) := by decide +kernel
theorem dX6_differs_42 : decode cX6_differs 42 = .ok (.iload_n 1, 1) := by decide +kernel
theorem dX6_differs_43 : decode cX6_differs 43 = .ok (.imul, 1) := by decide +kernel
theorem dX6_differs_44 : decode cX6_differs 44 = .ok (.iconst 2, 1) := by decide +kernel
theorem dX6_differs_45 : decode cX6_differs 45 = .ok (.iadd, 1) := by decide +kernel
theorem dX6_differs_46 : decode cX6_differs 46 = .ok (.iaload, 1) := by decide +kernel
theorem dX6_differs_47 : decode cX6_differs 47 = .ok (.if_icmp .ne 7, 3) := by decide +kernel
theorem dX6_differs_50 : decode cX6_differs 50 = .ok (.iconst 0, 1) := by decide +kernel
theorem dX6_differs_51 : decode cX6_differs 51 = .ok (.goto 4, 3) := by decide +kernel
theorem dX6_differs_54 : decode cX6_differs 54 = .ok (.iconst 1, 1) := by decide +kernel
theorem dX6_differs_55 : decode cX6_differs 55 = .ok (.aload_n 0, 1) := by decide +kernel
theorem dX6_differs_56 : decode cX6_differs 56 = .ok (.getfield 19, 3) := by decide +kernel
theorem dX6_differs_59 : decode cX6_differs 59 = .ok (.iconst 1, 1) := by decide +kernel
theorem dX6_differs_60 : decode cX6_differs 60 = .ok (.iaload, 1) := by decide +kernel
theorem dX6_differs_61 : decode cX6_differs 61 = .ok (.aload_n 0, 1) := by decide +kernel
theorem dX6_differs_62 : decode cX6_differs 62 = .ok (.getfield 39, 3) := by decide +kernel
theorem dX6_differs_65 : decode cX6_differs 65 = .ok (.bipush 50, 2) := by decide +kernel
theorem dX6_differs_67 : decode cX6_differs 67 = .ok (.iload_n 1, 1) := by decide +kernel
theorem dX6_differs_68 : decode cX6_differs 68 = .ok (.imul, 1) := by decide +kernel
theorem dX6_differs_69 : decode cX6_differs 69 = .ok (.iconst 3, 1) := by decide +kernel
theorem dX6_differs_70 : decode cX6_differs 70 = .ok (.iadd, 1) := by decide +kernel
theorem dX6_differs_71 : decode cX6_differs 71 = .ok (.iaload, 1) := by decide +kernel
theorem dX6_differs_72 : decode cX6_differs 72 = .ok (.if_icmp .ne 7, 3) := by decide +kernel
theorem dX6_differs_75 : decode cX6_differs 75 = .ok (.iconst 0, 1) := by decide +kernel
theorem dX6_differs_76 : decode cX6_differs 76 = .ok (.goto 4, 3) := by decide +kernel
theorem dX6_differs_79 : decode cX6_differs 79 = .ok (.iconst 1, 1) := by decide +kernel
theorem dX6_differs_80 : decode cX6_differs 80 = .ok (.iadd, 1) := by decide +kernel
theorem dX6_differs_81 : decode cX6_differs 81 = .ok (.istore_n 2, 1) := by decide +kernel
theorem dX6_differs_82 : decode cX6_differs 82 = .ok (.iconst 0, 1) := by decide +kernel
theorem dX6_differs_83 : decode cX6_differs 83 = .ok (.istore_n 3, 1) := by decide +kernel
theorem dX6_differs_84 : decode cX6_differs 84 = .ok (.iload_n 3, 1) := by decide +kernel
theorem dX6_differs_85 : decode cX6_differs 85 = .ok (.bipush 12, 2) := by decide +kernel
theorem dX6_differs_87 : decode cX6_differs 87 = .ok (.if_icmp .ge 127, 3) := by decide +kernel
theorem dX6_differs_90 : decode cX6_differs 90 = .ok (.iload_n 3, 1) := by decide +kernel
theorem dX6_differs_91 : decode cX6_differs 91 = .ok (.aload_n 0, 1) := by decide +kernel
theorem dX6_differs_92 : decode cX6_differs 92 = .ok (.getfield 39, 3) := by decide +kernel
theorem dX6_differs_95 : decode cX6_differs 95 = .ok (.bipush 50, 2) := by decide +kernel
theorem dX6_differs_97 : decode cX6_differs 97 = .ok (.iload_n 1, 1) := by decide +kernel
theorem dX6_differs_98 : decode cX6_differs 98 = .ok (.imul, 1) := by decide +kernel
theorem dX6_differs_99 : decode cX6_differs 99 = .ok (.iaload, 1) := by decide +kernel
theorem dX6_differs_100 : decode cX6_differs 100 = .ok (.if_icmp .ge 7, 3) := by decide +kernel
theorem dX6_differs_103 : decode cX6_differs 103 = .ok (.iconst 1, 1) := by decide +kernel
theorem dX6_differs_104 : decode cX6_differs 104 = .ok (.goto 4, 3) := by decide +kernel
theorem dX6_differs_107 : decode cX6_differs 107 = .ok (.iconst 0, 1) := by decide +kernel
theorem dX6_differs_108 : decode cX6_differs 108 = .ok (.istore 4, 2) := by decide +kernel
theorem dX6_differs_110 : decode cX6_differs 110 = .ok (.iload_n 2, 1) := by decide +kernel
theorem dX6_differs_111 : decode cX6_differs 111 = .ok (.iload_n 3, 1) := by decide +kernel
theorem dX6_differs_112 : decode cX6_differs 112 = .ok (.aload_n 0, 1) := by decide +kernel
theorem dX6_differs_113 : decode cX6_differs 113 = .ok (.getfield 42, 3) := by decide +kernel
theorem dX6_differs_116 : decode cX6_differs 116 = .ok (.if_icmp .ge 7, 3) := by decide +kernel
theorem dX6_differs_119 : decode cX6_differs 119 = .ok (.iconst 1, 1) := by decide +kernel
theorem dX6_differs_120 : decode cX6_differs 120 = .ok (.goto 4, 3) := by decide +kernel
theorem dX6_differs_123 : decode cX6_differs 123 = .ok (.iconst 0, 1) := by decide +kernel
theorem dX6_differs_124 : decode cX6_differs 124 = .ok (.iload 4, 2) := by decide +kernel
theorem dX6_differs_126 : decode cX6_differs 126 = .ok (.aload_n 0, 1) := by decide +kernel
theorem dX6_differs_127 : decode cX6_differs 127 = .ok (.getfield 7, 3) := by decide +kernel
theorem dX6_differs_130 : decode cX6_differs 130 = .ok (.iload_n 3, 1) := by decide +kernel
theorem dX6_differs_131 : decode cX6_differs 131 = .ok (.iaload, 1) := by decide +kernel
theorem dX6_differs_132 : decode cX6_differs 132 = .ok (.aload_n 0, 1) := by decide +kernel
theorem dX6_differs_133 : decode cX6_differs 133 = .ok (.getfield 39, 3) := by decide +kernel
theorem dX6_differs_136 : decode cX6_differs 136 = .ok (.bipush 50, 2) := by decide +kernel
theorem dX6_differs_138 : decode cX6_differs 138 = .ok (.iload_n 1, 1) := by decide +kernel
theorem dX6_differs_139 : decode cX6_differs 139 = .ok (.imul, 1) := by decide +kernel
theorem dX6_differs_140 : decode cX6_differs 140 = .ok (.iconst 4, 1) := by decide +kernel
theorem dX6_differs_141 : decode cX6_differs 141 = .ok (.iadd, 1) := by decide +kernel
theorem dX6_differs_142 : decode cX6_differs 142 = .ok (.iconst 2, 1) := by decide +kernel
theorem dX6_differs_143 : decode cX6_differs 143 = .ok (.iload_n 3, 1) := by decide +kernel
theorem dX6_differs_144 : decode cX6_differs 144 = .ok (.imul, 1) := by decide +kernel
theorem dX6_differs_145 : decode cX6_differs 145 = .ok (.iadd, 1) := by decide +kernel
theorem dX6_differs_146 : decode cX6_differs 146 = .ok (.iaload, 1) := by decide +kernel
theorem dX6_differs_147 : decode cX6_differs 147 = .ok (.if_icmp .ne 7, 3) := by decide +kernel
theorem dX6_differs_150 : decode cX6_differs 150 = .ok (.iconst 1, 1) := by decide +kernel
theorem dX6_differs_151 : decode cX6_differs 151 = .ok (.goto 4, 3) := by decide +kernel
theorem dX6_differs_154 : decode cX6_differs 154 = .ok (.iconst 0, 1) := by decide +kernel
theorem dX6_differs_155 : decode cX6_differs 155 = .ok (.invokestatic 172, 3) := by decide +kernel
theorem dX6_differs_158 : decode cX6_differs 158 = .ok (.iload_n 3, 1) := by decide +kernel
theorem dX6_differs_159 : decode cX6_differs 159 = .ok (.aload_n 0, 1) := by decide +kernel
theorem dX6_differs_160 : decode cX6_differs 160 = .ok (.getfield 42, 3) := by decide +kernel
theorem dX6_differs_163 : decode cX6_differs 163 = .ok (.if_icmp .ge 7, 3) := by decide +kernel
theorem dX6_differs_166 : decode cX6_differs 166 = .ok (.iconst 1, 1) := by decide +kernel
theorem dX6_differs_167 : decode cX6_differs 167 = .ok (.goto 4, 3) := by decide +kernel
theorem dX6_differs_170 : decode cX6_differs 170 = .ok (.iconst 0, 1) := by decide +kernel
theorem dX6_differs_171 : decode cX6_differs 171 = .ok (.iload 4, 2) := by decide +kernel
theorem dX6_differs_173 : decode cX6_differs 173 = .ok (.aload_n 0, 1) := by decide +kernel
theorem dX6_differs_174 : decode cX6_differs 174 = .ok (.getfield 13, 3) := by decide +kernel
theorem dX6_differs_177 : decode cX6_differs 177 = .ok (.iload_n 3, 1) := by decide +kernel
theorem dX6_differs_178 : decode cX6_differs 178 = .ok (.iaload, 1) := by decide +kernel
theorem dX6_differs_179 : decode cX6_differs 179 = .ok (.aload_n 0, 1) := by decide +kernel
theorem dX6_differs_180 : decode cX6_differs 180 = .ok (.getfield 39, 3) := by decide +kernel
theorem dX6_differs_183 : decode cX6_differs 183 = .ok (.bipush 50, 2) := by decide +kernel
theorem dX6_differs_185 : decode cX6_differs 185 = .ok (.iload_n 1, 1) := by decide +kernel
theorem dX6_differs_186 : decode cX6_differs 186 = .ok (.imul, 1) := by decide +kernel
theorem dX6_differs_187 : decode cX6_differs 187 = .ok (.iconst 5, 1) := by decide +kernel
theorem dX6_differs_188 : decode cX6_differs 188 = .ok (.iadd, 1) := by decide +kernel
theorem dX6_differs_189 : decode cX6_differs 189 = .ok (.iconst 2, 1) := by decide +kernel
theorem dX6_differs_190 : decode cX6_differs 190 = .ok (.iload_n 3, 1) := by decide +kernel
theorem dX6_differs_191 : decode cX6_differs 191 = .ok (.imul, 1) := by decide +kernel
theorem dX6_differs_192 : decode cX6_differs 192 = .ok (.iadd, 1) := by decide +kernel
theorem dX6_differs_193 : decode cX6_differs 193 = .ok (.iaload, 1) := by decide +kernel
theorem dX6_differs_194 : decode cX6_differs 194 = .ok (.if_icmp .ne 7, 3) := by decide +kernel
theorem dX6_differs_197 : decode cX6_differs 197 = .ok (.iconst 1, 1) := by decide +kernel
theorem dX6_differs_198 : decode cX6_differs 198 = .ok (.goto 4, 3) := by decide +kernel
theorem dX6_differs_201 : decode cX6_differs 201 = .ok (.iconst 0, 1) := by decide +kernel
theorem dX6_differs_202 : decode cX6_differs 202 = .ok (.invokestatic 172, 3) := by decide +kernel
theorem dX6_differs_205 : decode cX6_differs 205 = .ok (.iadd, 1) := by decide +kernel
theorem dX6_differs_206 : decode cX6_differs 206 = .ok (.iadd, 1) := by decide +kernel
theorem dX6_differs_207 : decode cX6_differs 207 = .ok (.istore_n 2, 1) := by decide +kernel
theorem dX6_differs_208 : decode cX6_differs 208 = .ok (.iinc 3 1, 3) := by decide +kernel
theorem dX6_differs_211 : decode cX6_differs 211 = .ok (.goto (-127), 3) := by decide +kernel
theorem dX6_differs_214 : decode cX6_differs 214 = .ok (.iconst 0, 1) := by decide +kernel
theorem dX6_differs_215 : decode cX6_differs 215 = .ok (.istore_n 3, 1) := by decide +kernel
theorem dX6_differs_216 : decode cX6_differs 216 = .ok (.iload_n 3, 1) := by decide +kernel
theorem dX6_differs_217 : decode cX6_differs 217 = .ok (.bipush 18, 2) := by decide +kernel
theorem dX6_differs_219 : decode cX6_differs 219 = .ok (.if_icmp .ge 80, 3) := by decide +kernel
theorem dX6_differs_222 : decode cX6_differs 222 = .ok (.iload_n 2, 1) := by decide +kernel
theorem dX6_differs_223 : decode cX6_differs 223 = .ok (.iload_n 3, 1) := by decide +kernel
theorem dX6_differs_224 : decode cX6_differs 224 = .ok (.iconst 3, 1) := by decide +kernel
theorem dX6_differs_225 : decode cX6_differs 225 = .ok (.idiv, 1) := by decide +kernel
theorem dX6_differs_226 : decode cX6_differs 226 = .ok (.aload_n 0, 1) := by decide +kernel
theorem dX6_differs_227 : decode cX6_differs 227 = .ok (.getfield 67, 3) := by decide +kernel
theorem dX6_differs_230 : decode cX6_differs 230 = .ok (.if_icmp .ge 7, 3) := by decide +kernel
theorem dX6_differs_233 : decode cX6_differs 233 = .ok (.iconst 1, 1) := by decide +kernel
theorem dX6_differs_234 : decode cX6_differs 234 = .ok (.goto 4, 3) := by decide +kernel
theorem dX6_differs_237 : decode cX6_differs 237 = .ok (.iconst 0, 1) := by decide +kernel
theorem dX6_differs_238 : decode cX6_differs 238 = .ok (.iload_n 3, 1) := by decide +kernel
theorem dX6_differs_239 : decode cX6_differs 239 = .ok (.iconst 3, 1) := by decide +kernel
theorem dX6_differs_240 : decode cX6_differs 240 = .ok (.idiv, 1) := by decide +kernel
theorem dX6_differs_241 : decode cX6_differs 241 = .ok (.aload_n 0, 1) := by decide +kernel
theorem dX6_differs_242 : decode cX6_differs 242 = .ok (.getfield 39, 3) := by decide +kernel
theorem dX6_differs_245 : decode cX6_differs 245 = .ok (.bipush 50, 2) := by decide +kernel
theorem dX6_differs_247 : decode cX6_differs 247 = .ok (.iload_n 1, 1) := by decide +kernel
theorem dX6_differs_248 : decode cX6_differs 248 = .ok (.imul, 1) := by decide +kernel
theorem dX6_differs_249 : decode cX6_differs 249 = .ok (.iconst 1, 1) := by decide +kernel
theorem dX6_differs_250 : decode cX6_differs 250 = .ok (.iadd, 1) := by decide +kernel
theorem dX6_differs_251 : decode cX6_differs 251 = .ok (.iaload, 1) := by decide +kernel
theorem dX6_differs_252 : decode cX6_differs 252 = .ok (.if_icmp .ge 7, 3) := by decide +kernel
theorem dX6_differs_255 : decode cX6_differs 255 = .ok (.iconst 1, 1) := by decide +kernel
theorem dX6_differs_256 : decode cX6_differs 256 = .ok (.goto 4, 3) := by decide +kernel
theorem dX6_differs_259 : decode cX6_differs 259 = .ok (.iconst 0, 1) := by decide +kernel
theorem dX6_differs_260 : decode cX6_differs 260 = .ok (.aload_n 0, 1) := by decide +kernel
theorem dX6_differs_261 : decode cX6_differs 261 = .ok (.getfield 16, 3) := by decide +kernel
theorem dX6_differs_264 : decode cX6_differs 264 = .ok (.iload_n 3, 1) := by decide +kernel
theorem dX6_differs_265 : decode cX6_differs 265 = .ok (.iaload, 1) := by decide +kernel
theorem dX6_differs_266 : decode cX6_differs 266 = .ok (.aload_n 0, 1) := by decide +kernel
theorem dX6_differs_267 : decode cX6_differs 267 = .ok (.getfield 39, 3) := by decide +kernel
theorem dX6_differs_270 : decode cX6_differs 270 = .ok (.bipush 50, 2) := by decide +kernel
theorem dX6_differs_272 : decode cX6_differs 272 = .ok (.iload_n 1, 1) := by decide +kernel
theorem dX6_differs_273 : decode cX6_differs 273 = .ok (.imul, 1) := by decide +kernel
theorem dX6_differs_274 : decode cX6_differs 274 = .ok (.bipush 28, 2) := by decide +kernel
theorem dX6_differs_276 : decode cX6_differs 276 = .ok (.iadd, 1) := by decide +kernel
theorem dX6_differs_277 : decode cX6_differs 277 = .ok (.iload_n 3, 1) := by decide +kernel
theorem dX6_differs_278 : decode cX6_differs 278 = .ok (.iadd, 1) := by decide +kernel
theorem dX6_differs_279 : decode cX6_differs 279 = .ok (.iaload, 1) := by decide +kernel
theorem dX6_differs_280 : decode cX6_differs 280 = .ok (.if_icmp .ne 7, 3) := by decide +kernel
theorem dX6_differs_283 : decode cX6_differs 283 = .ok (.iconst 1, 1) := by decide +kernel
theorem dX6_differs_284 : decode cX6_differs 284 = .ok (.goto 4, 3) := by decide +kernel
theorem dX6_differs_287 : decode cX6_differs 287 = .ok (.iconst 0, 1) := by decide +kernel
theorem dX6_differs_288 : decode cX6_differs 288 = .ok (.invokestatic 172, 3) := by decide +kernel
theorem dX6_differs_291 : decode cX6_differs 291 = .ok (.iadd, 1) := by decide +kernel
theorem dX6_differs_292 : decode cX6_differs 292 = .ok (.istore_n 2, 1) := by decide +kernel
theorem dX6_differs_293 : decode cX6_differs 293 = .ok (.iinc 3 1, 3) := by decide +kernel
theorem dX6_differs_296 : decode cX6_differs 296 = .ok (.goto (-80), 3) := by decide +kernel
theorem dX6_differs_299 : decode cX6_differs 299 = .ok (.iload_n 2, 1) := by decide +kernel
theorem dX6_differs_300 : decode cX6_differs 300 = .ok (.ireturn, 1) := by decide +kernel
end
section
theorem dJ13_bitCount_95d88_0 : decode cJ13_bitCount_95d88 0 = .ok (.lload_n 0, 1) := by decide +kernel
theorem dJ13_bitCount_95d88_1 : decode cJ13_bitCount_95d88 1 = .ok (.lload_n 0, 1) := by decide +kernel
theorem dJ13_bitCount_95d88_2 : decode cJ13_bitCount_95d88 2 = .ok (.iconst 1, 1) := by decide +kernel
theorem dJ13_bitCount_95d88_3 : decode cJ13_bitCount_95d88 3 = .ok (.lushr, 1) := by decide +kernel
theorem dJ13_bitCount_95d88_4 : decode cJ13_bitCount_95d88 4 = .ok (.ldc2_w 314, 3) := by decide +kernel
theorem dJ13_bitCount_95d88_7 : decode cJ13_bitCount_95d88 7 = .ok (.land, 1) := by decide +kernel
theorem dJ13_bitCount_95d88_8 : decode cJ13_bitCount_95d88 8 = .ok (.lsub, 1) := by decide +kernel
theorem dJ13_bitCount_95d88_9 : decode cJ13_bitCount_95d88 9 = .ok (.lstore_n 0, 1) := by decide +kernel
theorem dJ13_bitCount_95d88_10 : decode cJ13_bitCount_95d88 10 = .ok (.lload_n 0, 1) := by decide +kernel
theorem dJ13_bitCount_95d88_11 : decode cJ13_bitCount_95d88 11 = .ok (.ldc2_w 316, 3) := by decide +kernel
theorem dJ13_bitCount_95d88_14 : decode cJ13_bitCount_95d88 14 = .ok (.land, 1) := by decide +kernel
theorem dJ13_bitCount_95d88_15 : decode cJ13_bitCount_95d88 15 = .ok (.lload_n 0, 1) := by decide +kernel
theorem dJ13_bitCount_95d88_16 : decode cJ13_bitCount_95d88 16 = .ok (.iconst 2, 1) := by decide +kernel
theorem dJ13_bitCount_95d88_17 : decode cJ13_bitCount_95d88 17 = .ok (.lushr, 1) := by decide +kernel
theorem dJ13_bitCount_95d88_18 : decode cJ13_bitCount_95d88 18 = .ok (.ldc2_w 316, 3) := by decide +kernel
theorem dJ13_bitCount_95d88_21 : decode cJ13_bitCount_95d88 21 = .ok (.land, 1) := by decide +kernel
theorem dJ13_bitCount_95d88_22 : decode cJ13_bitCount_95d88 22 = .ok (.ladd, 1) := by decide +kernel
theorem dJ13_bitCount_95d88_23 : decode cJ13_bitCount_95d88 23 = .ok (.lstore_n 0, 1) := by decide +kernel
theorem dJ13_bitCount_95d88_24 : decode cJ13_bitCount_95d88 24 = .ok (.lload_n 0, 1) := by decide +kernel
theorem dJ13_bitCount_95d88_25 : decode cJ13_bitCount_95d88 25 = .ok (.lload_n 0, 1) := by decide +kernel
theorem dJ13_bitCount_95d88_26 : decode cJ13_bitCount_95d88 26 = .ok (.iconst 4, 1) := by decide +kernel
theorem dJ13_bitCount_95d88_27 : decode cJ13_bitCount_95d88 27 = .ok (.lushr, 1) := by decide +kernel
theorem dJ13_bitCount_95d88_28 : decode cJ13_bitCount_95d88 28 = .ok (.ladd, 1) := by decide +kernel
theorem dJ13_bitCount_95d88_29 : decode cJ13_bitCount_95d88 29 = .ok (.ldc2_w 318, 3) := by decide +kernel
theorem dJ13_bitCount_95d88_32 : decode cJ13_bitCount_95d88 32 = .ok (.land, 1) := by decide +kernel
theorem dJ13_bitCount_95d88_33 : decode cJ13_bitCount_95d88 33 = .ok (.lstore_n 0, 1) := by decide +kernel
theorem dJ13_bitCount_95d88_34 : decode cJ13_bitCount_95d88 34 = .ok (.lload_n 0, 1) := by decide +kernel
theorem dJ13_bitCount_95d88_35 : decode cJ13_bitCount_95d88 35 = .ok (.lload_n 0, 1) := by decide +kernel
theorem dJ13_bitCount_95d88_36 : decode cJ13_bitCount_95d88 36 = .ok (.bipush 8, 2) := by decide +kernel
theorem dJ13_bitCount_95d88_38 : decode cJ13_bitCount_95d88 38 = .ok (.lushr, 1) := by decide +kernel
theorem dJ13_bitCount_95d88_39 : decode cJ13_bitCount_95d88 39 = .ok (.ladd, 1) := by decide +kernel
theorem dJ13_bitCount_95d88_40 : decode cJ13_bitCount_95d88 40 = .ok (.lstore_n 0, 1) := by decide +kernel
theorem dJ13_bitCount_95d88_41 : decode cJ13_bitCount_95d88 41 = .ok (.lload_n 0, 1) := by decide +kernel
theorem dJ13_bitCount_95d88_42 : decode cJ13_bitCount_95d88 42 = .ok (.lload_n 0, 1) := by decide +kernel
theorem dJ13_bitCount_95d88_43 : decode cJ13_bitCount_95d88 43 = .ok (.bipush 16, 2) := by decide +kernel
theorem dJ13_bitCount_95d88_45 : decode cJ13_bitCount_95d88 45 = .ok (.lushr, 1) := by decide +kernel
theorem dJ13_bitCount_95d88_46 : decode cJ13_bitCount_95d88 46 = .ok (.ladd, 1) := by decide +kernel
theorem dJ13_bitCount_95d88_47 : decode cJ13_bitCount_95d88 47 = .ok (.lstore_n 0, 1) := by decide +kernel
theorem dJ13_bitCount_95d88_48 : decode cJ13_bitCount_95d88 48 = .ok (.lload_n 0, 1) := by decide +kernel
theorem dJ13_bitCount_95d88_49 : decode cJ13_bitCount_95d88 49 = .ok (.lload_n 0, 1) := by decide +kernel
theorem dJ13_bitCount_95d88_50 : decode cJ13_bitCount_95d88 50 = .ok (.bipush 32, 2) := by decide +kernel
theorem dJ13_bitCount_95d88_52 : decode cJ13_bitCount_95d88 52 = .ok (.lushr, 1) := by decide +kernel
theorem dJ13_bitCount_95d88_53 : decode cJ13_bitCount_95d88 53 = .ok (.ladd, 1) := by decide +kernel
theorem dJ13_bitCount_95d88_54 : decode cJ13_bitCount_95d88 54 = .ok (.lstore_n 0, 1) := by decide +kernel
theorem dJ13_bitCount_95d88_55 : decode cJ13_bitCount_95d88 55 = .ok (.lload_n 0, 1) := by decide +kernel
theorem dJ13_bitCount_95d88_56 : decode cJ13_bitCount_95d88 56 = .ok (.l2i, 1) := by decide +kernel
theorem dJ13_bitCount_95d88_57 : decode cJ13_bitCount_95d88 57 = .ok (.bipush 127, 2) := by decide +kernel
theorem dJ13_bitCount_95d88_59 : decode cJ13_bitCount_95d88 59 = .ok (.iand, 1) := by decide +kernel
theorem dJ13_bitCount_95d88_60 : decode cJ13_bitCount_95d88 60 = .ok (.ireturn, 1) := by decide +kernel
theorem dJ9_abs_0f7a4_0 : decode cJ9_abs_0f7a4 0 = .ok (.iload_n 0, 1) := by decide +kernel
theorem dJ9_abs_0f7a4_1 : decode cJ9_abs_0f7a4 1 = .ok (.ifCond .ge 8, 3) := by decide +kernel
theorem dJ9_abs_0f7a4_4 : decode cJ9_abs_0f7a4 4 = .ok (.iload_n 0, 1) := by decide +kernel
theorem dJ9_abs_0f7a4_5 : decode cJ9_abs_0f7a4 5 = .ok (.ineg, 1) := by decide +kernel
theorem dJ9_abs_0f7a4_6 : decode cJ9_abs_0f7a4 6 = .ok (.goto 4, 3) := by decide +kernel
theorem dJ9_abs_0f7a4_9 : decode cJ9_abs_0f7a4 9 = .ok (.iload_n 0, 1) := by decide +kernel
theorem dJ9_abs_0f7a4_10 : decode cJ9_abs_0f7a4 10 = .ok (.ireturn, 1) := by decide +kernel
theorem dJ9_max_7cf53_0 : decode cJ9_max_7cf53 0 = .ok (.iload_n 0, 1) := by decide +kernel
theorem dJ9_max_7cf53_1 : decode cJ9_max_7cf53 1 = .ok (.iload_n 1, 1) := by decide +kernel
theorem dJ9_max_7cf53_2 : decode cJ9_max_7cf53 2 = .ok (.if_icmp .lt 7, 3) := by decide +kernel
theorem dJ9_max_7cf53_5 : decode cJ9_max_7cf53 5 = .ok (.iload_n 0, 1) := by decide +kernel
theorem dJ9_max_7cf53_6 : decode cJ9_max_7cf53 6 = .ok (.goto 4, 3) := by decide +kernel
theorem dJ9_max_7cf53_9 : decode cJ9_max_7cf53 9 = .ok (.iload_n 1, 1) := by decide +kernel
theorem dJ9_max_7cf53_10 : decode cJ9_max_7cf53 10 = .ok (.ireturn, 1) := by decide +kernel
theorem dJ9_min_7cf53_0 : decode cJ9_min_7cf53 0 = .ok (.iload_n 0, 1) := by decide +kernel
theorem dJ9_min_7cf53_1 : decode cJ9_min_7cf53 1 = .ok (.iload_n 1, 1) := by decide +kernel
theorem dJ9_min_7cf53_2 : decode cJ9_min_7cf53 2 = .ok (.if_icmp .gt 7, 3) := by decide +kernel
theorem dJ9_min_7cf53_5 : decode cJ9_min_7cf53 5 = .ok (.iload_n 0, 1) := by decide +kernel
theorem dJ9_min_7cf53_6 : decode cJ9_min_7cf53 6 = .ok (.goto 4, 3) := by decide +kernel
theorem dJ9_min_7cf53_9 : decode cJ9_min_7cf53 9 = .ok (.iload_n 1, 1) := by decide +kernel
theorem dJ9_min_7cf53_10 : decode cJ9_min_7cf53 10 = .ok (.ireturn, 1) := by decide +kernel
set_option maxRecDepth 20000 in
theorem ggL_law_X5_init : GoodIn wsL_law wsX5_init := goodIn_r _ [8, 9, 10, 11, 12, 13, 14, 15, 16, 17, 18, 19, 20, 21, 22, 23, 24, 25, 26, 27, 28, 29, 30, 31, 32, 33, 34, 35, 36, 37, 38, 39, 40, 41, 42, 43, 44, 45, 46, 47, 48, 49, 50, 51, 52, 53, 54, 55, 56, 57, 58, 59, 60, 61, 62, 63, 64, 65, 66, 67, 68, 69, 70, 71, 72, 73, 74, 75, 76, 77, 78, 79, 80, 607, 608, 609, 610, 611, 612, 613, 614, 615, 583, 584, 585, 586, 587, 588, 589, 590, 591, 616, 617, 618, 619, 620, 621, 622, 623, 624, 625, 626, 627, 628, 629, 630, 631, 632, 633] (by decide +kernel) (by decide +kernel)
set_option maxRecDepth 20000 in
theorem gL_law_X5_init : GoodIn wsL_law (wsX5_init) := ggL_law_X5_init
set_option maxRecDepth 20000 in
theorem ggL_law_X6_init : GoodIn wsL_law wsX6_init := goodIn_r _ [83, 84, 10, 11, 40, 85, 86, 87, 88, 89, 90, 91, 92, 93, 94, 95, 592, 593, 594, 595, 596, 597, 598, 599, 600, 601, 602, 603, 604, 605, 606] (by decide +kernel) (by decide +kernel)
set_option maxRecDepth 20000 in
theorem gL_law_X6_init : GoodIn wsL_law (wsX6_init) := ggL_law_X6_init
set_option maxRecDepth 20000 in
theorem ggL_law_X5_piece : GoodIn wsL_law wsX5_piece := goodIn_r _ [99, 15, 100, 101, 102, 2, 103, 104, 105, 106, 107, 108, 109, 14, 110, 41, 46, 42, 111, 112, 113, 114, 115, 116, 117, 118, 119, 120, 121, 122, 583, 584, 585, 586, 587, 588, 589, 590, 591, 607, 608, 609, 610, 611, 612, 613, 614, 615] (by decide +kernel) (by decide +kernel)
set_option maxRecDepth 20000 in
theorem gL_law_X5_piece : GoodIn wsL_law (wsV RL 13 RX5 yX5_piece wsX5_piece) := goodIn_app (goodIn_of _ (by decide +kernel)) ggL_law_X5_piece
set_option maxRecDepth 20000 in
theorem ggL_law_X6_piece : GoodIn wsL_law wsX6_piece := goodIn_r _ [126, 127, 128, 129, 130, 131, 5, 132, 133, 134, 135, 136, 85, 86, 137, 138, 139, 140, 592, 593, 594, 595, 596, 597, 598, 599, 600, 601, 602, 603, 604, 605, 606] (by decide +kernel) (by decide +kernel)
set_option maxRecDepth 20000 in
theorem gL_law_X6_piece : GoodIn wsL_law (wsV RL 17 RX6 yX6_piece wsX6_piece) := goodIn_app (goodIn_of _ (by decide +kernel)) ggL_law_X6_piece
set_option maxRecDepth 20000 in
theorem ggL_law_X5_cone : GoodIn wsL_law wsX5_cone := goodIn_r _ [144, 15, 100, 101, 102, 2, 103, 104, 105, 106, 145, 146, 147, 107, 108, 109, 14, 110, 41, 46, 42, 111, 112, 113, 114, 115, 116, 117, 118, 119, 120, 121, 122, 583, 584, 585, 586, 587, 588, 589, 590, 591, 607, 608, 609, 610, 611, 612, 613, 614, 615] (by decide +kernel) (by decide +kernel)
set_option maxRecDepth 20000 in
theorem gL_law_X5_cone : GoodIn wsL_law (wsV RL 18 RX5 yX5_cone wsX5_cone) := goodIn_app (goodIn_of _ (by decide +kernel)) ggL_law_X5_cone
set_option maxRecDepth 20000 in
theorem ggL_law_X6_cone : GoodIn wsL_law wsX6_cone := goodIn_r _ [151, 127, 128, 152, 153, 129, 130, 131, 5, 132, 133, 134, 135, 136, 85, 86, 137, 138, 139, 140, 592, 593, 594, 595, 596, 597, 598, 599, 600, 601, 602, 603, 604, 605, 606] (by decide +kernel) (by decide +kernel)
set_option maxRecDepth 20000 in
theorem gL_law_X6_cone : GoodIn wsL_law (wsV RL 22 RX6 yX6_cone wsX6_cone) := goodIn_app (goodIn_of _ (by decide +kernel)) ggL_law_X6_cone
set_option maxRecDepth 20000 in
theorem ggL_law_X5_hole : GoodIn wsL_law wsX5_hole := goodIn_r _ [157, 15, 158, 159, 160, 161, 2, 162, 113, 114, 115, 14, 116, 46, 117, 118, 119, 120, 41, 121, 122, 104, 105, 106, 163, 164, 165, 166, 47, 43, 167, 168, 169, 170, 44, 45, 111, 112, 583, 584, 585, 586, 587, 588, 589, 590, 591, 607, 608, 609, 610, 611, 612, 613, 614, 615] (by decide +kernel) (by decide +kernel)
set_option maxRecDepth 20000 in
theorem gL_law_X5_hole : GoodIn wsL_law (wsV RL 23 RX5 yX5_hole wsX5_hole) := goodIn_app (goodIn_of _ (by decide +kernel)) ggL_law_X5_hole
set_option maxRecDepth 20000 in
theorem ggL_law_X6_hole : GoodIn wsL_law wsX6_hole := goodIn_r _ [174, 175, 87, 176, 177, 178, 5, 179, 180, 137, 138, 139, 140, 129, 85, 130, 131, 132, 181, 182, 183, 184, 592, 593, 594, 595, 596, 597, 598, 599, 600, 601, 602, 603, 604, 605, 606] (by decide +kernel) (by decide +kernel)
set_option maxRecDepth 20000 in
theorem gL_law_X6_hole : GoodIn wsL_law (wsV RL 27 RX6 yX6_hole wsX6_hole) := goodIn_app (goodIn_of _ (by decide +kernel)) ggL_law_X6_hole
set_option maxRecDepth 20000 in
theorem ggL_law_X5_set : GoodIn wsL_law wsX5_set := goodIn_r _ [188, 15, 158, 189, 104, 105, 2, 106, 159, 160, 161, 162, 113, 114, 115, 14, 116, 46, 117, 118, 119, 120, 41, 121, 122, 190, 163, 164, 165, 166, 47, 43, 191, 192, 193, 194, 195, 196, 197, 198, 44, 45, 199, 200, 201, 202, 111, 112, 583, 584, 585, 586, 587, 588, 589, 590, 591, 607, 608, 609, 610, 611, 612, 613, 614, 615] (by decide +kernel) (by decide +kernel)
set_option maxRecDepth 20000 in
theorem gL_law_X5_set : GoodIn wsL_law (wsV RL 28 RX5 yX5_set wsX5_set) := goodIn_app (goodIn_of _ (by decide +kernel)) ggL_law_X5_set
set_option maxRecDepth 20000 in
theorem ggL_law_X6_set : GoodIn wsL_law wsX6_set := goodIn_r _ [206, 152, 87, 207, 208, 209, 5, 210, 175, 130, 131, 132, 176, 177, 178, 179, 180, 137, 138, 139, 140, 129, 85, 181, 182, 183, 184, 592, 593, 594, 595, 596, 597, 598, 599, 600, 601, 602, 603, 604, 605, 606] (by decide +kernel) (by decide +kernel)
set_option maxRecDepth 20000 in
theorem gL_law_X6_set : GoodIn wsL_law (wsV RL 31 RX6 yX6_set wsX6_set) := goodIn_app (goodIn_of _ (by decide +kernel)) ggL_law_X6_set
set_option maxRecDepth 20000 in
theorem ggL_law_X5_end : GoodIn wsL_law wsX5_end := goodIn_r _ [214, 15, 215, 216, 104, 105, 2, 106, 583, 584, 585, 586, 587, 588, 589, 590, 591, 607, 608, 609, 610, 611, 612, 613, 614, 615] (by decide +kernel) (by decide +kernel)
set_option maxRecDepth 20000 in
theorem gL_law_X5_end : GoodIn wsL_law (wsV RL 32 RX5 yX5_end wsX5_end) := goodIn_app (goodIn_of _ (by decide +kernel)) ggL_law_X5_end
set_option maxRecDepth 20000 in
theorem ggL_law_X6_end : GoodIn wsL_law wsX6_end := goodIn_r _ [220, 88, 130, 131, 5, 132, 592, 593, 594, 595, 596, 597, 598, 599, 600, 601, 602, 603, 604, 605, 606] (by decide +kernel) (by decide +kernel)
set_option maxRecDepth 20000 in
theorem gL_law_X6_end : GoodIn wsL_law (wsV RL 35 RX6 yX6_end wsX6_end) := goodIn_app (goodIn_of _ (by decide +kernel)) ggL_law_X6_end
set_option maxRecDepth 20000 in
theorem ggL_law_X5_clear : GoodIn wsL_law wsX5_clear := goodIn_r _ [224, 15, 100, 28, 225, 36, 226, 227, 228, 14, 229, 46, 47, 48, 49, 583, 584, 585, 586, 587, 588, 589, 590, 591, 607, 608, 609, 610, 611, 612, 613, 614, 615, 626, 627, 628, 629] (by decide +kernel) (by decide +kernel)
set_option maxRecDepth 20000 in
theorem gL_law_X5_clear : GoodIn wsL_law (wsV RL 36 RX5 yX5_clear wsX5_clear) := goodIn_app (goodIn_of _ (by decide +kernel)) ggL_law_X5_clear
set_option maxRecDepth 20000 in
theorem ggL_law_X6_clear : GoodIn wsL_law wsX6_clear := goodIn_r _ [233, 129, 175, 234, 88, 235, 592, 593, 594, 595, 596, 597, 598, 599, 600, 601, 602, 603, 604, 605, 606] (by decide +kernel) (by decide +kernel)
set_option maxRecDepth 20000 in
theorem gL_law_X6_clear : GoodIn wsL_law (wsV RL 40 RX6 yX6_clear wsX6_clear) := goodIn_app (goodIn_of _ (by decide +kernel)) ggL_law_X6_clear
set_option maxRecDepth 20000 in
theorem ggL_law_X5_told : GoodIn wsL_law wsX5_told := goodIn_r _ [239, 15, 100, 240, 241, 104, 105, 2, 106, 190, 121, 122, 583, 584, 585, 586, 587, 588, 589, 590, 591, 607, 608, 609, 610, 611, 612, 613, 614, 615] (by decide +kernel) (by decide +kernel)
set_option maxRecDepth 20000 in
theorem gL_law_X5_told : GoodIn wsL_law (wsV RL 41 RX5 yX5_told wsX5_told) := goodIn_app (goodIn_of _ (by decide +kernel)) ggL_law_X5_told
set_option maxRecDepth 20000 in
theorem ggL_law_X6_told : GoodIn wsL_law wsX6_told := goodIn_r _ [245, 129, 85, 86, 130, 131, 5, 132, 592, 593, 594, 595, 596, 597, 598, 599, 600, 601, 602, 603, 604, 605, 606] (by decide +kernel) (by decide +kernel)
set_option maxRecDepth 20000 in
theorem gL_law_X6_told : GoodIn wsL_law (wsV RL 44 RX6 yX6_told wsX6_told) := goodIn_app (goodIn_of _ (by decide +kernel)) ggL_law_X6_told
set_option maxRecDepth 20000 in
theorem ggL_law_X5_bored : GoodIn wsL_law wsX5_bored := goodIn_r _ [249, 15, 158, 189, 104, 105, 2, 106, 190, 121, 122, 250, 251, 252, 14, 253, 46, 41, 254, 255, 256, 257, 47, 43, 191, 192, 193, 194, 195, 196, 197, 198, 44, 45, 583, 584, 585, 586, 587, 588, 589, 590, 591, 607, 608, 609, 610, 611, 612, 613, 614, 615] (by decide +kernel) (by decide +kernel)
set_option maxRecDepth 20000 in
theorem gL_law_X5_bored : GoodIn wsL_law (wsV RL 45 RX5 yX5_bored wsX5_bored) := goodIn_app (goodIn_of _ (by decide +kernel)) ggL_law_X5_bored
set_option maxRecDepth 20000 in
theorem ggL_law_X6_bored : GoodIn wsL_law wsX6_bored := goodIn_r _ [261, 262, 87, 175, 207, 208, 209, 5, 210, 130, 131, 132, 263, 264, 265, 266, 85, 592, 593, 594, 595, 596, 597, 598, 599, 600, 601, 602, 603, 604, 605, 606] (by decide +kernel) (by decide +kernel)
set_option maxRecDepth 20000 in
theorem gL_law_X6_bored : GoodIn wsL_law (wsV RL 48 RX6 yX6_bored wsX6_bored) := goodIn_app (goodIn_of _ (by decide +kernel)) ggL_law_X6_bored
set_option maxRecDepth 20000 in
theorem ggL_law_X5_count : GoodIn wsL_law wsX5_count := goodIn_r _ [270, 15, 100, 158, 28, 225, 215, 216, 35, 34, 271, 36, 113, 114, 115, 14, 116, 46, 117, 118, 119, 120, 41, 121, 2, 122, 272, 273, 274, 275, 276, 277, 278, 279, 280, 281, 282, 24, 283, 284, 285, 286, 287, 288, 289, 290, 291, 292, 23, 293, 64, 294, 65, 295, 66, 296, 59, 60, 297, 61, 62, 298, 63, 299, 300, 301, 251, 252, 253, 302, 303, 304, 305, 306, 47, 43, 307, 308, 164, 165, 166, 111, 112, 190, 309, 310, 311, 312, 313, 314, 315, 316, 317, 318, 319, 320, 321, 322, 323, 324, 325, 326, 145, 146, 147, 327, 328, 329, 330, 331, 332, 333, 334, 335, 336, 337, 338, 339, 340, 341, 342, 343, 344, 583, 584, 585, 586, 587, 588, 589, 590, 591, 607, 608, 609, 610, 611, 612, 613, 614, 615, 626, 627, 628, 629, 618, 619, 620, 621, 622, 623, 624, 625] (by decide +kernel) (by decide +kernel)
set_option maxRecDepth 20000 in
theorem gL_law_X5_count : GoodIn wsL_law (wsV RL 49 RX5 yX5_count wsX5_count) := goodIn_app (goodIn_of _ (by decide +kernel)) ggL_law_X5_count
set_option maxRecDepth 20000 in
theorem ggL_law_X6_count : GoodIn wsL_law wsX6_count := goodIn_r _ [348, 129, 175, 234, 88, 94, 235, 137, 138, 139, 5, 140, 85, 349, 350, 351, 352, 93, 353, 354, 355, 356, 357, 358, 359, 360, 89, 90, 91, 361, 362, 363, 364, 365, 366, 367, 368, 369, 370, 371, 86, 372, 87, 373, 374, 375, 376, 377, 378, 379, 380, 381, 382, 383, 384, 263, 264, 265, 266, 385, 386, 387, 388, 389, 181, 182, 183, 184, 390, 391, 392, 393, 592, 593, 594, 595, 596, 597, 598, 599, 600, 601, 602, 603, 604, 605, 606] (by decide +kernel) (by decide +kernel)
set_option maxRecDepth 20000 in
theorem gL_law_X6_count : GoodIn wsL_law (wsV RL 53 RX6 yX6_count wsX6_count) := goodIn_app (goodIn_of _ (by decide +kernel)) ggL_law_X6_count
set_option maxRecDepth 20000 in
theorem ggL_law_X5_sine : GoodIn wsL_law wsX5_sine := goodIn_r _ [397, 398, 104, 105, 2, 106, 399, 321, 322, 323, 324, 325, 326, 145, 146, 147] (by decide +kernel) (by decide +kernel)
set_option maxRecDepth 20000 in
theorem gL_law_X5_sine : GoodIn wsL_law (wsV RL 54 RX5 yX5_sine wsX5_sine) := goodIn_app (goodIn_of _ (by decide +kernel)) ggL_law_X5_sine
set_option maxRecDepth 20000 in
theorem ggL_law_X6_sine : GoodIn wsL_law wsX6_sine := goodIn_r _ [403, 404, 130, 131, 5, 132, 378, 379, 380, 381, 382, 383, 384] (by decide +kernel) (by decide +kernel)
set_option maxRecDepth 20000 in
theorem gL_law_X6_sine : GoodIn wsL_law (wsV RL 57 RX6 yX6_sine wsX6_sine) := goodIn_app (goodIn_of _ (by decide +kernel)) ggL_law_X6_sine
set_option maxRecDepth 20000 in
theorem ggL_law_X5_worth : GoodIn wsL_law wsX5_worth := goodIn_r _ [408, 409, 15, 100, 410, 24, 104, 105, 2, 106, 290, 291, 292, 23, 293, 64, 294, 65, 295, 66, 296, 287, 288, 289, 59, 60, 297, 61, 62, 298, 63, 299, 300, 114, 115, 14, 116, 46, 117, 118, 119, 120, 41, 121, 122, 301, 251, 252, 253, 302, 303, 304, 305, 306, 47, 43, 307, 308, 164, 165, 166, 111, 112, 411, 314, 315, 316, 317, 318, 319, 320, 321, 322, 323, 324, 325, 326, 145, 146, 147, 327, 328, 329, 330, 331, 332, 333, 334, 335, 336, 337, 338, 583, 584, 585, 586, 587, 588, 589, 590, 591, 607, 608, 609, 610, 611, 612, 613, 614, 615, 618, 619, 620, 621, 622, 623, 624, 625] (by decide +kernel) (by decide +kernel)
set_option maxRecDepth 20000 in
theorem gL_law_X5_worth : GoodIn wsL_law (wsV RL 58 RX5 yX5_worth wsX5_worth) := goodIn_app (goodIn_of _ (by decide +kernel)) ggL_law_X5_worth
set_option maxRecDepth 20000 in
theorem ggL_law_X6_worth : GoodIn wsL_law wsX6_worth := goodIn_r _ [415, 416, 417, 129, 418, 130, 131, 5, 132, 419, 420, 421, 422, 366, 367, 368, 369, 88, 370, 371, 86, 372, 87, 373, 137, 138, 139, 140, 85, 374, 375, 376, 377, 175, 378, 379, 380, 381, 382, 383, 384, 263, 264, 265, 266, 385, 386, 387, 388, 389, 181, 182, 183, 184, 592, 593, 594, 595, 596, 597, 598, 599, 600, 601, 602, 603, 604, 605, 606] (by decide +kernel) (by decide +kernel)
set_option maxRecDepth 20000 in
theorem gL_law_X6_worth : GoodIn wsL_law (wsV RL 62 RX6 yX6_worth wsX6_worth) := goodIn_app (goodIn_of _ (by decide +kernel)) ggL_law_X6_worth
set_option maxRecDepth 20000 in
theorem ggL_law_X5_tone : GoodIn wsL_law wsX5_tone := goodIn_r _ [426, 15, 100, 24, 104, 105, 2, 106, 290, 291, 292, 23, 293, 64, 294, 65, 295, 66, 296, 287, 288, 289, 59, 60, 297, 61, 62, 298, 63, 299, 300, 114, 115, 14, 116, 46, 117, 118, 119, 120, 41, 121, 122, 301, 251, 252, 253, 302, 303, 304, 305, 306, 47, 43, 307, 308, 164, 165, 166, 111, 112, 309, 310, 311, 312, 313, 314, 315, 316, 317, 318, 319, 320, 321, 322, 323, 324, 325, 326, 145, 146, 147, 327, 328, 329, 330, 331, 332, 333, 334, 335, 336, 337, 338, 583, 584, 585, 586, 587, 588, 589, 590, 591, 607, 608, 609, 610, 611, 612, 613, 614, 615, 618, 619, 620, 621, 622, 623, 624, 625] (by decide +kernel) (by decide +kernel)
set_option maxRecDepth 20000 in
theorem gL_law_X5_tone : GoodIn wsL_law (wsV RL 63 RX5 yX5_tone wsX5_tone) := goodIn_app (goodIn_of _ (by decide +kernel)) ggL_law_X5_tone
set_option maxRecDepth 20000 in
theorem ggL_law_X6_tone : GoodIn wsL_law wsX6_tone := goodIn_r _ [430, 129, 365, 419, 420, 5, 421, 422, 130, 131, 132, 361, 362, 363, 364, 366, 367, 368, 369, 88, 370, 371, 86, 372, 87, 373, 137, 138, 139, 140, 85, 374, 375, 376, 377, 175, 378, 379, 380, 381, 382, 383, 384, 263, 264, 265, 266, 385, 386, 387, 388, 389, 181, 182, 183, 184, 592, 593, 594, 595, 596, 597, 598, 599, 600, 601, 602, 603, 604, 605, 606] (by decide +kernel) (by decide +kernel)
set_option maxRecDepth 20000 in
theorem gL_law_X6_tone : GoodIn wsL_law (wsV RL 66 RX6 yX6_tone wsX6_tone) := goodIn_app (goodIn_of _ (by decide +kernel)) ggL_law_X6_tone
set_option maxRecDepth 20000 in
theorem ggL_law_X5_nearest : GoodIn wsL_law wsX5_nearest := goodIn_r _ [434, 15, 100, 24, 158, 104, 105, 2, 106, 290, 291, 292, 23, 293, 64, 294, 65, 295, 66, 296, 287, 288, 289, 59, 60, 297, 61, 62, 298, 63, 299, 300, 114, 115, 14, 116, 46, 117, 118, 119, 120, 41, 121, 122, 301, 251, 252, 253, 302, 303, 304, 305, 306, 47, 43, 307, 308, 164, 165, 166, 111, 112, 309, 310, 311, 312, 313, 314, 315, 316, 317, 318, 319, 320, 321, 322, 323, 324, 325, 326, 145, 146, 147, 327, 328, 329, 330, 331, 332, 333, 334, 335, 336, 337, 338, 339, 340, 341, 342, 343, 344, 583, 584, 585, 586, 587, 588, 589, 590, 591, 607, 608, 609, 610, 611, 612, 613, 614, 615, 618, 619, 620, 621, 622, 623, 624, 625] (by decide +kernel) (by decide +kernel)
set_option maxRecDepth 20000 in
theorem gL_law_X5_nearest : GoodIn wsL_law (wsV RL 67 RX5 yX5_nearest wsX5_nearest) := goodIn_app (goodIn_of _ (by decide +kernel)) ggL_law_X5_nearest
set_option maxRecDepth 20000 in
theorem ggL_law_X6_nearest : GoodIn wsL_law wsX6_nearest := goodIn_r _ [438, 416, 129, 175, 130, 131, 5, 132, 361, 362, 363, 364, 365, 366, 367, 368, 369, 88, 370, 371, 86, 372, 87, 373, 137, 138, 139, 140, 85, 374, 375, 376, 377, 378, 379, 380, 381, 382, 383, 384, 263, 264, 265, 266, 385, 386, 387, 388, 389, 181, 182, 183, 184, 592, 593, 594, 595, 596, 597, 598, 599, 600, 601, 602, 603, 604, 605, 606] (by decide +kernel) (by decide +kernel)
set_option maxRecDepth 20000 in
theorem gL_law_X6_nearest : GoodIn wsL_law (wsV RL 70 RX6 yX6_nearest wsX6_nearest) := goodIn_app (goodIn_of _ (by decide +kernel)) ggL_law_X6_nearest
set_option maxRecDepth 20000 in
theorem ggL_law_X5_note : GoodIn wsL_law wsX5_note := goodIn_r _ [442, 28, 225, 104, 105, 2, 106, 443, 444, 445, 27, 446, 70, 73, 71, 72, 111, 112, 583, 584, 585, 586, 587, 588, 589, 590, 591, 626, 627, 628, 629] (by decide +kernel) (by decide +kernel)
set_option maxRecDepth 20000 in
theorem gL_law_X5_note : GoodIn wsL_law (wsV RL 71 RX5 yX5_note wsX5_note) := goodIn_app (goodIn_of _ (by decide +kernel)) ggL_law_X5_note
set_option maxRecDepth 20000 in
theorem ggL_law_X6_note : GoodIn wsL_law wsX6_note := goodIn_r _ [450, 451, 416, 234, 89, 90, 91, 419, 420, 5, 421, 422, 130, 131, 132, 592, 593, 594, 595, 596, 597, 598, 599, 600, 601, 602, 603, 604, 605, 606] (by decide +kernel) (by decide +kernel)
set_option maxRecDepth 20000 in
theorem gL_law_X6_note : GoodIn wsL_law (wsV RL 74 RX6 yX6_note wsX6_note) := goodIn_app (goodIn_of _ (by decide +kernel)) ggL_law_X6_note
set_option maxRecDepth 20000 in
theorem ggL_law_X5_noted : GoodIn wsL_law wsX5_noted := goodIn_r _ [455, 28, 225, 283, 284, 285, 104, 105, 2, 106, 190, 121, 122, 456, 457, 458, 459, 24, 15, 290, 291, 292, 23, 293, 64, 294, 65, 295, 66, 296, 287, 288, 289, 59, 60, 297, 61, 62, 298, 63, 299, 300, 114, 115, 14, 116, 46, 117, 118, 119, 120, 41, 301, 251, 252, 253, 302, 303, 304, 305, 306, 47, 43, 307, 308, 164, 165, 166, 111, 112, 309, 310, 311, 312, 313, 314, 315, 316, 317, 318, 319, 320, 321, 322, 323, 324, 325, 326, 145, 146, 147, 327, 328, 329, 330, 331, 332, 333, 334, 335, 336, 337, 338, 339, 340, 341, 342, 343, 344, 583, 584, 585, 586, 587, 588, 589, 590, 591, 626, 627, 628, 629, 618, 619, 620, 621, 622, 623, 624, 625, 607, 608, 609, 610, 611, 612, 613, 614, 615] (by decide +kernel) (by decide +kernel)
set_option maxRecDepth 20000 in
theorem gL_law_X5_noted : GoodIn wsL_law (wsV RL 75 RX5 yX5_noted wsX5_noted) := goodIn_app (goodIn_of _ (by decide +kernel)) ggL_law_X5_noted
set_option maxRecDepth 20000 in
theorem ggL_law_X6_noted : GoodIn wsL_law wsX6_noted := goodIn_r _ [463, 234, 89, 90, 91, 130, 131, 5, 132, 361, 362, 363, 364, 365, 129, 366, 367, 368, 369, 88, 370, 371, 86, 372, 87, 373, 137, 138, 139, 140, 85, 374, 375, 376, 377, 175, 378, 379, 380, 381, 382, 383, 384, 263, 264, 265, 266, 385, 386, 387, 388, 389, 181, 182, 183, 184, 357, 358, 359, 360, 592, 593, 594, 595, 596, 597, 598, 599, 600, 601, 602, 603, 604, 605, 606] (by decide +kernel) (by decide +kernel)
set_option maxRecDepth 20000 in
theorem gL_law_X6_noted : GoodIn wsL_law (wsV RL 78 RX6 yX6_noted wsX6_noted) := goodIn_app (goodIn_of _ (by decide +kernel)) ggL_law_X6_noted
set_option maxRecDepth 20000 in
theorem ggL_law_X5_drill : GoodIn wsL_law wsX5_drill := goodIn_r _ [467, 34, 468, 104, 105, 2, 106, 272, 273, 274, 275, 276, 277, 278, 583, 584, 585, 586, 587, 588, 589, 590, 591] (by decide +kernel) (by decide +kernel)
set_option maxRecDepth 20000 in
theorem gL_law_X5_drill : GoodIn wsL_law (wsV RL 79 RX5 yX5_drill wsX5_drill) := goodIn_app (goodIn_of _ (by decide +kernel)) ggL_law_X5_drill
set_option maxRecDepth 20000 in
theorem ggL_law_X6_drill : GoodIn wsL_law wsX6_drill := goodIn_r _ [472, 180, 93, 130, 131, 5, 132, 349, 350, 351, 352, 592, 593, 594, 595, 596, 597, 598, 599, 600, 601, 602, 603, 604, 605, 606] (by decide +kernel) (by decide +kernel)
set_option maxRecDepth 20000 in
theorem gL_law_X6_drill : GoodIn wsL_law (wsV RL 83 RX6 yX6_drill wsX6_drill) := goodIn_app (goodIn_of _ (by decide +kernel)) ggL_law_X6_drill
set_option maxRecDepth 20000 in
theorem ggL_law_X5_reach : GoodIn wsL_law wsX5_reach := goodIn_r _ [476, 35, 104, 105, 2, 106, 583, 584, 585, 586, 587, 588, 589, 590, 591] (by decide +kernel) (by decide +kernel)
set_option maxRecDepth 20000 in
theorem gL_law_X5_reach : GoodIn wsL_law (wsV RL 84 RX5 yX5_reach wsX5_reach) := goodIn_app (goodIn_of _ (by decide +kernel)) ggL_law_X5_reach
set_option maxRecDepth 20000 in
theorem ggL_law_X6_reach : GoodIn wsL_law wsX6_reach := goodIn_r _ [480, 128, 94, 130, 131, 5, 132, 592, 593, 594, 595, 596, 597, 598, 599, 600, 601, 602, 603, 604, 605, 606] (by decide +kernel) (by decide +kernel)
set_option maxRecDepth 20000 in
theorem gL_law_X6_reach : GoodIn wsL_law (wsV RL 87 RX6 yX6_reach wsX6_reach) := goodIn_app (goodIn_of _ (by decide +kernel)) ggL_law_X6_reach
set_option maxRecDepth 20000 in
theorem ggL_law_X5_round : GoodIn wsL_law wsX5_round := goodIn_r _ [484, 15, 100, 158, 28, 225, 32, 271, 485, 486, 487, 36, 279, 280, 281, 2, 282, 24, 283, 284, 285, 286, 287, 288, 289, 290, 291, 292, 23, 293, 64, 294, 65, 295, 66, 296, 59, 60, 297, 61, 62, 298, 63, 299, 300, 114, 115, 14, 116, 46, 117, 118, 119, 120, 41, 121, 122, 301, 251, 252, 253, 302, 303, 304, 305, 306, 47, 43, 307, 308, 164, 165, 166, 111, 112, 190, 309, 310, 311, 312, 313, 314, 315, 316, 317, 318, 319, 320, 321, 322, 323, 324, 325, 326, 145, 146, 147, 327, 328, 329, 330, 331, 332, 333, 334, 335, 336, 337, 338, 339, 340, 341, 342, 343, 344, 488, 489, 490, 31, 491, 77, 78, 492, 493, 494, 495, 189, 35, 159, 160, 161, 162, 113, 104, 105, 106, 163, 496, 497, 498, 499, 500, 501, 502, 503, 504, 191, 192, 193, 194, 195, 196, 197, 198, 44, 45, 199, 200, 201, 202, 505, 506, 507, 508, 79, 80, 509, 510, 511, 512, 513, 34, 583, 584, 585, 586, 587, 588, 589, 590, 591, 607, 608, 609, 610, 611, 612, 613, 614, 615, 626, 627, 628, 629, 630, 631, 632, 633, 618, 619, 620, 621, 622, 623, 624, 625] (by decide +kernel) (by decide +kernel)
set_option maxRecDepth 20000 in
theorem gL_law_X5_round : GoodIn wsL_law (wsV RL 88 RX5 yX5_round wsX5_round) := goodIn_app (goodIn_of _ (by decide +kernel)) ggL_law_X5_round
set_option maxRecDepth 20000 in
theorem ggL_law_X6_round : GoodIn wsL_law wsX6_round := goodIn_r _ [517, 129, 175, 234, 87, 235, 518, 519, 520, 5, 521, 357, 358, 359, 360, 89, 90, 91, 361, 362, 363, 364, 365, 366, 367, 368, 369, 88, 370, 371, 86, 372, 373, 137, 138, 139, 140, 85, 374, 375, 376, 377, 378, 379, 380, 381, 382, 383, 384, 263, 264, 265, 266, 385, 386, 387, 388, 389, 181, 182, 183, 184, 522, 523, 524, 525, 180, 93, 526, 527, 528, 529, 94, 176, 177, 178, 179, 130, 131, 132, 530, 531, 532, 533, 592, 593, 594, 595, 596, 597, 598, 599, 600, 601, 602, 603, 604, 605, 606] (by decide +kernel) (by decide +kernel)
set_option maxRecDepth 20000 in
theorem gL_law_X6_round : GoodIn wsL_law (wsV RL 91 RX6 yX6_round wsX6_round) := goodIn_app (goodIn_of _ (by decide +kernel)) ggL_law_X6_round
set_option maxRecDepth 20000 in
theorem ggL_law_X5_keep : GoodIn wsL_law wsX5_keep := goodIn_r _ [537, 538, 15, 539, 104, 105, 2, 106, 540, 541, 542, 543, 19, 20, 544, 545, 546, 14, 547, 41, 42, 43, 44, 45, 46, 47, 48, 49, 548, 549, 190, 121, 122, 550, 111, 112, 616, 617, 583, 584, 585, 586, 587, 588, 589, 590, 591, 607, 608, 609, 610, 611, 612, 613, 614, 615] (by decide +kernel) (by decide +kernel)
set_option maxRecDepth 20000 in
theorem gL_law_X5_keep : GoodIn wsL_law (wsV RL 92 RX5 yX5_keep wsX5_keep) := goodIn_app (goodIn_of _ (by decide +kernel)) ggL_law_X5_keep
set_option maxRecDepth 20000 in
theorem ggL_law_X6_keep : GoodIn wsL_law wsX6_keep := goodIn_r _ [554, 95, 129, 175, 88, 85, 86, 87, 130, 131, 5, 132, 592, 593, 594, 595, 596, 597, 598, 599, 600, 601, 602, 603, 604, 605, 606] (by decide +kernel) (by decide +kernel)
set_option maxRecDepth 20000 in
theorem gL_law_X6_keep : GoodIn wsL_law (wsV RL 95 RX6 yX6_keep wsX6_keep) := goodIn_app (goodIn_of _ (by decide +kernel)) ggL_law_X6_keep
set_option maxRecDepth 20000 in
theorem ggL_law_X5_back : GoodIn wsL_law wsX5_back := goodIn_r _ [558, 539, 15, 538, 104, 105, 2, 106, 540, 541, 542, 543, 19, 20, 544, 545, 546, 14, 547, 41, 42, 43, 44, 45, 46, 47, 48, 49, 548, 549, 190, 121, 122, 550, 111, 112, 616, 617, 583, 584, 585, 586, 587, 588, 589, 590, 591, 607, 608, 609, 610, 611, 612, 613, 614, 615] (by decide +kernel) (by decide +kernel)
set_option maxRecDepth 20000 in
theorem gL_law_X5_back : GoodIn wsL_law (wsV RL 96 RX5 yX5_back wsX5_back) := goodIn_app (goodIn_of _ (by decide +kernel)) ggL_law_X5_back
set_option maxRecDepth 20000 in
theorem ggL_law_X6_back : GoodIn wsL_law wsX6_back := goodIn_r _ [562, 95, 129, 175, 88, 85, 86, 87, 130, 131, 5, 132, 592, 593, 594, 595, 596, 597, 598, 599, 600, 601, 602, 603, 604, 605, 606] (by decide +kernel) (by decide +kernel)
set_option maxRecDepth 20000 in
theorem gL_law_X6_back : GoodIn wsL_law (wsV RL 99 RX6 yX6_back wsX6_back) := goodIn_app (goodIn_of _ (by decide +kernel)) ggL_law_X6_back
set_option maxRecDepth 20000 in
theorem ggL_law_X5_differs : GoodIn wsL_law wsX5_differs := goodIn_r _ [566, 539, 15, 538, 104, 105, 2, 106, 540, 541, 542, 543, 19, 20, 567, 568, 569, 14, 570, 41, 46, 42, 43, 47, 44, 45, 48, 49, 571, 572, 573, 574, 288, 575, 286, 287, 289, 190, 121, 122, 616, 617, 583, 584, 585, 586, 587, 588, 589, 590, 591, 607, 608, 609, 610, 611, 612, 613, 614, 615] (by decide +kernel) (by decide +kernel)
set_option maxRecDepth 20000 in
theorem gL_law_X5_differs : GoodIn wsL_law (wsV RL 100 RX5 yX5_differs wsX5_differs) := goodIn_app (goodIn_of _ (by decide +kernel)) ggL_law_X5_differs
set_option maxRecDepth 20000 in
theorem ggL_law_X6_differs : GoodIn wsL_law wsX6_differs := goodIn_r _ [579, 95, 88, 129, 85, 86, 175, 87, 130, 131, 5, 132, 580, 581, 582, 592, 593, 594, 595, 596, 597, 598, 599, 600, 601, 602, 603, 604, 605, 606] (by decide +kernel) (by decide +kernel)
set_option maxRecDepth 20000 in
theorem gL_law_X6_differs : GoodIn wsL_law (wsV RL 103 RX6 yX6_differs wsX6_differs) := goodIn_app (goodIn_of _ (by decide +kernel)) ggL_law_X6_differs
theorem dL_law_0 : decode cL_law 0 = .ok (.new 7, 3) := by decide +kernel
theorem dL_law_3 : decode cL_law 3 = .ok (.dup, 1) := by decide +kernel
theorem dL_law_4 : decode cL_law 4 = .ok (.invokespecial 9, 3) := by decide +kernel
theorem dL_law_7 : decode cL_law 7 = .ok (.astore_n 1, 1) := by decide +kernel
theorem dL_law_8 : decode cL_law 8 = .ok (.new 10, 3) := by decide +kernel
theorem dL_law_11 : decode cL_law 11 = .ok (.dup, 1) := by decide +kernel
theorem dL_law_12 : decode cL_law 12 = .ok (.invokespecial 12, 3) := by decide +kernel
theorem dL_law_15 : decode cL_law 15 = .ok (.astore_n 2, 1) := by decide +kernel
theorem dL_law_16 : decode cL_law 16 = .ok (.iconst 0, 1) := by decide +kernel
theorem dL_law_17 : decode cL_law 17 = .ok (.istore_n 3, 1) := by decide +kernel
theorem dL_law_18 : decode cL_law 18 = .ok (.iload_n 3, 1) := by decide +kernel
theorem dL_law_19 : decode cL_law 19 = .ok (.aload_n 0, 1) := by decide +kernel
theorem dL_law_20 : decode cL_law 20 = .ok (.arraylength, 1) := by decide +kernel
theorem dL_law_21 : decode cL_law 21 = .ok (.iconst 5, 1) := by decide +kernel
theorem dL_law_22 : decode cL_law 22 = .ok (.isub, 1) := by decide +kernel
theorem dL_law_23 : decode cL_law 23 = .ok (.if_icmp .gt 775, 3) := by decide +kernel
theorem dL_law_26 : decode cL_law 26 = .ok (.aload_n 0, 1) := by decide +kernel
theorem dL_law_27 : decode cL_law 27 = .ok (.iload_n 3, 1) := by decide +kernel
theorem dL_law_28 : decode cL_law 28 = .ok (.iaload, 1) := by decide +kernel
theorem dL_law_29 : decode cL_law 29 = .ok (.bipush 31, 2) := by decide +kernel
theorem dL_law_31 : decode cL_law 31 = .ok (.iand, 1) := by decide +kernel
theorem dL_law_32 : decode cL_law 32 = .ok (.tableswitch 760 0 20 #[100, 133, 186, 229, 272, 305, 318, 351, 384, 407, 430, 464, 497, 530, 573, 606, 655, 678, 691, 714, 737], 100) := by decide +kernel
theorem dL_law_132 : decode cL_law 132 = .ok (.aload_n 1, 1) := by decide +kernel
theorem dL_law_133 : decode cL_law 133 = .ok (.aload_n 0, 1) := by decide +kernel
theorem dL_law_134 : decode cL_law 134 = .ok (.iload_n 3, 1) := by decide +kernel
theorem dL_law_135 : decode cL_law 135 = .ok (.iconst 1, 1) := by decide +kernel
theorem dL_law_136 : decode cL_law 136 = .ok (.iadd, 1) := by decide +kernel
theorem dL_law_137 : decode cL_law 137 = .ok (.iaload, 1) := by decide +kernel
theorem dL_law_138 : decode cL_law 138 = .ok (.aload_n 0, 1) := by decide +kernel
theorem dL_law_139 : decode cL_law 139 = .ok (.iload_n 3, 1) := by decide +kernel
theorem dL_law_140 : decode cL_law 140 = .ok (.iconst 2, 1) := by decide +kernel
theorem dL_law_141 : decode cL_law 141 = .ok (.iadd, 1) := by decide +kernel
theorem dL_law_142 : decode cL_law 142 = .ok (.iaload, 1) := by decide +kernel
theorem dL_law_143 : decode cL_law 143 = .ok (.invokevirtual 13, 3) := by decide +kernel
theorem dL_law_146 : decode cL_law 146 = .ok (.aload_n 2, 1) := by decide +kernel
theorem dL_law_147 : decode cL_law 147 = .ok (.aload_n 0, 1) := by decide +kernel
theorem dL_law_148 : decode cL_law 148 = .ok (.iload_n 3, 1) := by decide +kernel
theorem dL_law_149 : decode cL_law 149 = .ok (.iconst 1, 1) := by decide +kernel
theorem dL_law_150 : decode cL_law 150 = .ok (.iadd, 1) := by decide +kernel
theorem dL_law_151 : decode cL_law 151 = .ok (.iaload, 1) := by decide +kernel
theorem dL_law_152 : decode cL_law 152 = .ok (.aload_n 0, 1) := by decide +kernel
theorem dL_law_153 : decode cL_law 153 = .ok (.iload_n 3, 1) := by decide +kernel
theorem dL_law_154 : decode cL_law 154 = .ok (.iconst 2, 1) := by decide +kernel
theorem dL_law_155 : decode cL_law 155 = .ok (.iadd, 1) := by decide +kernel
theorem dL_law_156 : decode cL_law 156 = .ok (.iaload, 1) := by decide +kernel
theorem dL_law_157 : decode cL_law 157 = .ok (.invokevirtual 17, 3) := by decide +kernel
theorem dL_law_160 : decode cL_law 160 = .ok (.if_icmp .eq 632, 3) := by decide +kernel
theorem dL_law_163 : decode cL_law 163 = .ok (.iconst 0, 1) := by decide +kernel
theorem dL_law_164 : decode cL_law 164 = .ok (.ireturn, 1) := by decide +kernel
theorem dL_law_165 : decode cL_law 165 = .ok (.aload_n 1, 1) := by decide +kernel
theorem dL_law_166 : decode cL_law 166 = .ok (.aload_n 0, 1) := by decide +kernel
theorem dL_law_167 : decode cL_law 167 = .ok (.iload_n 3, 1) := by decide +kernel
theorem dL_law_168 : decode cL_law 168 = .ok (.iconst 1, 1) := by decide +kernel
theorem dL_law_169 : decode cL_law 169 = .ok (.iadd, 1) := by decide +kernel
theorem dL_law_170 : decode cL_law 170 = .ok (.iaload, 1) := by decide +kernel
theorem dL_law_171 : decode cL_law 171 = .ok (.aload_n 0, 1) := by decide +kernel
theorem dL_law_172 : decode cL_law 172 = .ok (.iload_n 3, 1) := by decide +kernel
theorem dL_law_173 : decode cL_law 173 = .ok (.iconst 2, 1) := by decide +kernel
theorem dL_law_174 : decode cL_law 174 = .ok (.iadd, 1) := by decide +kernel
theorem dL_law_175 : decode cL_law 175 = .ok (.iaload, 1) := by decide +kernel
theorem dL_law_176 : decode cL_law 176 = .ok (.aload_n 0, 1) := by decide +kernel
theorem dL_law_177 : decode cL_law 177 = .ok (.iload_n 3, 1) := by decide +kernel
theorem dL_law_178 : decode cL_law 178 = .ok (.iconst 3, 1) := by decide +kernel
theorem dL_law_179 : decode cL_law 179 = .ok (.iadd, 1) := by decide +kernel
theorem dL_law_180 : decode cL_law 180 = .ok (.iaload, 1) := by decide +kernel
theorem dL_law_181 : decode cL_law 181 = .ok (.aload_n 0, 1) := by decide +kernel
theorem dL_law_182 : decode cL_law 182 = .ok (.iload_n 3, 1) := by decide +kernel
theorem dL_law_183 : decode cL_law 183 = .ok (.iconst 4, 1) := by decide +kernel
theorem dL_law_184 : decode cL_law 184 = .ok (.iadd, 1) := by decide +kernel
theorem dL_law_185 : decode cL_law 185 = .ok (.iaload, 1) := by decide +kernel
theorem dL_law_186 : decode cL_law 186 = .ok (.invokevirtual 18, 3) := by decide +kernel
theorem dL_law_189 : decode cL_law 189 = .ok (.aload_n 2, 1) := by decide +kernel
theorem dL_law_190 : decode cL_law 190 = .ok (.aload_n 0, 1) := by decide +kernel
theorem dL_law_191 : decode cL_law 191 = .ok (.iload_n 3, 1) := by decide +kernel
theorem dL_law_192 : decode cL_law 192 = .ok (.iconst 1, 1) := by decide +kernel
theorem dL_law_193 : decode cL_law 193 = .ok (.iadd, 1) := by decide +kernel
theorem dL_law_194 : decode cL_law 194 = .ok (.iaload, 1) := by decide +kernel
theorem dL_law_195 : decode cL_law 195 = .ok (.aload_n 0, 1) := by decide +kernel
theorem dL_law_196 : decode cL_law 196 = .ok (.iload_n 3, 1) := by decide +kernel
theorem dL_law_197 : decode cL_law 197 = .ok (.iconst 2, 1) := by decide +kernel
theorem dL_law_198 : decode cL_law 198 = .ok (.iadd, 1) := by decide +kernel
theorem dL_law_199 : decode cL_law 199 = .ok (.iaload, 1) := by decide +kernel
theorem dL_law_200 : decode cL_law 200 = .ok (.aload_n 0, 1) := by decide +kernel
theorem dL_law_201 : decode cL_law 201 = .ok (.iload_n 3, 1) := by decide +kernel
theorem dL_law_202 : decode cL_law 202 = .ok (.iconst 3, 1) := by decide +kernel
theorem dL_law_203 : decode cL_law 203 = .ok (.iadd, 1) := by decide +kernel
theorem dL_law_204 : decode cL_law 204 = .ok (.iaload, 1) := by decide +kernel
theorem dL_law_205 : decode cL_law 205 = .ok (.aload_n 0, 1) := by decide +kernel
theorem dL_law_206 : decode cL_law 206 = .ok (.iload_n 3, 1) := by decide +kernel
theorem dL_law_207 : decode cL_law 207 = .ok (.iconst 4, 1) := by decide +kernel
theorem dL_law_208 : decode cL_law 208 = .ok (.iadd, 1) := by decide +kernel
theorem dL_law_209 : decode cL_law 209 = .ok (.iaload, 1) := by decide +kernel
theorem dL_law_210 : decode cL_law 210 = .ok (.invokevirtual 22, 3) := by decide +kernel
theorem dL_law_213 : decode cL_law 213 = .ok (.if_icmp .eq 579, 3) := by decide +kernel
theorem dL_law_216 : decode cL_law 216 = .ok (.iconst 0, 1) := by decide +kernel
theorem dL_law_217 : decode cL_law 217 = .ok (.ireturn, 1) := by decide +kernel
theorem dL_law_218 : decode cL_law 218 = .ok (.aload_n 1, 1) := by decide +kernel
theorem dL_law_219 : decode cL_law 219 = .ok (.aload_n 0, 1) := by decide +kernel
theorem dL_law_220 : decode cL_law 220 = .ok (.iload_n 3, 1) := by decide +kernel
theorem dL_law_221 : decode cL_law 221 = .ok (.iconst 1, 1) := by decide +kernel
theorem dL_law_222 : decode cL_law 222 = .ok (.iadd, 1) := by decide +kernel
theorem dL_law_223 : decode cL_law 223 = .ok (.iaload, 1) := by decide +kernel
theorem dL_law_224 : decode cL_law 224 = .ok (.aload_n 0, 1) := by decide +kernel
theorem dL_law_225 : decode cL_law 225 = .ok (.iload_n 3, 1) := by decide +kernel
theorem dL_law_226 : decode cL_law 226 = .ok (.iconst 2, 1) := by decide +kernel
theorem dL_law_227 : decode cL_law 227 = .ok (.iadd, 1) := by decide +kernel
theorem dL_law_228 : decode cL_law 228 = .ok (.iaload, 1) := by decide +kernel
theorem dL_law_229 : decode cL_law 229 = .ok (.aload_n 0, 1) := by decide +kernel
theorem dL_law_230 : decode cL_law 230 = .ok (.iload_n 3, 1) := by decide +kernel
theorem dL_law_231 : decode cL_law 231 = .ok (.iconst 3, 1) := by decide +kernel
theorem dL_law_232 : decode cL_law 232 = .ok (.iadd, 1) := by decide +kernel
theorem dL_law_233 : decode cL_law 233 = .ok (.iaload, 1) := by decide +kernel
theorem dL_law_234 : decode cL_law 234 = .ok (.invokevirtual 23, 3) := by decide +kernel
theorem dL_law_237 : decode cL_law 237 = .ok (.aload_n 2, 1) := by decide +kernel
theorem dL_law_238 : decode cL_law 238 = .ok (.aload_n 0, 1) := by decide +kernel
theorem dL_law_239 : decode cL_law 239 = .ok (.iload_n 3, 1) := by decide +kernel
theorem dL_law_240 : decode cL_law 240 = .ok (.iconst 1, 1) := by decide +kernel
theorem dL_law_241 : decode cL_law 241 = .ok (.iadd, 1) := by decide +kernel
theorem dL_law_242 : decode cL_law 242 = .ok (.iaload, 1) := by decide +kernel
theorem dL_law_243 : decode cL_law 243 = .ok (.aload_n 0, 1) := by decide +kernel
theorem dL_law_244 : decode cL_law 244 = .ok (.iload_n 3, 1) := by decide +kernel
theorem dL_law_245 : decode cL_law 245 = .ok (.iconst 2, 1) := by decide +kernel
theorem dL_law_246 : decode cL_law 246 = .ok (.iadd, 1) := by decide +kernel
theorem dL_law_247 : decode cL_law 247 = .ok (.iaload, 1) := by decide +kernel
theorem dL_law_248 : decode cL_law 248 = .ok (.aload_n 0, 1) := by decide +kernel
theorem dL_law_249 : decode cL_law 249 = .ok (.iload_n 3, 1) := by decide +kernel
theorem dL_law_250 : decode cL_law 250 = .ok (.iconst 3, 1) := by decide +kernel
theorem dL_law_251 : decode cL_law 251 = .ok (.iadd, 1) := by decide +kernel
theorem dL_law_252 : decode cL_law 252 = .ok (.iaload, 1) := by decide +kernel
theorem dL_law_253 : decode cL_law 253 = .ok (.invokevirtual 27, 3) := by decide +kernel
theorem dL_law_256 : decode cL_law 256 = .ok (.if_icmp .eq 536, 3) := by decide +kernel
theorem dL_law_259 : decode cL_law 259 = .ok (.iconst 0, 1) := by decide +kernel
theorem dL_law_260 : decode cL_law 260 = .ok (.ireturn, 1) := by decide +kernel
theorem dL_law_261 : decode cL_law 261 = .ok (.aload_n 1, 1) := by decide +kernel
theorem dL_law_262 : decode cL_law 262 = .ok (.aload_n 0, 1) := by decide +kernel
theorem dL_law_263 : decode cL_law 263 = .ok (.iload_n 3, 1) := by decide +kernel
theorem dL_law_264 : decode cL_law 264 = .ok (.iconst 1, 1) := by decide +kernel
theorem dL_law_265 : decode cL_law 265 = .ok (.iadd, 1) := by decide +kernel
theorem dL_law_266 : decode cL_law 266 = .ok (.iaload, 1) := by decide +kernel
theorem dL_law_267 : decode cL_law 267 = .ok (.aload_n 0, 1) := by decide +kernel
theorem dL_law_268 : decode cL_law 268 = .ok (.iload_n 3, 1) := by decide +kernel
theorem dL_law_269 : decode cL_law 269 = .ok (.iconst 2, 1) := by decide +kernel
theorem dL_law_270 : decode cL_law 270 = .ok (.iadd, 1) := by decide +kernel
theorem dL_law_271 : decode cL_law 271 = .ok (.iaload, 1) := by decide +kernel
theorem dL_law_272 : decode cL_law 272 = .ok (.aload_n 0, 1) := by decide +kernel
theorem dL_law_273 : decode cL_law 273 = .ok (.iload_n 3, 1) := by decide +kernel
theorem dL_law_274 : decode cL_law 274 = .ok (.iconst 3, 1) := by decide +kernel
theorem dL_law_275 : decode cL_law 275 = .ok (.iadd, 1) := by decide +kernel
theorem dL_law_276 : decode cL_law 276 = .ok (.iaload, 1) := by decide +kernel
theorem dL_law_277 : decode cL_law 277 = .ok (.invokevirtual 28, 3) := by decide +kernel
theorem dL_law_280 : decode cL_law 280 = .ok (.aload_n 2, 1) := by decide +kernel
theorem dL_law_281 : decode cL_law 281 = .ok (.aload_n 0, 1) := by decide +kernel
theorem dL_law_282 : decode cL_law 282 = .ok (.iload_n 3, 1) := by decide +kernel
theorem dL_law_283 : decode cL_law 283 = .ok (.iconst 1, 1) := by decide +kernel
theorem dL_law_284 : decode cL_law 284 = .ok (.iadd, 1) := by decide +kernel
theorem dL_law_285 : decode cL_law 285 = .ok (.iaload, 1) := by decide +kernel
theorem dL_law_286 : decode cL_law 286 = .ok (.aload_n 0, 1) := by decide +kernel
theorem dL_law_287 : decode cL_law 287 = .ok (.iload_n 3, 1) := by decide +kernel
theorem dL_law_288 : decode cL_law 288 = .ok (.iconst 2, 1) := by decide +kernel
theorem dL_law_289 : decode cL_law 289 = .ok (.iadd, 1) := by decide +kernel
theorem dL_law_290 : decode cL_law 290 = .ok (.iaload, 1) := by decide +kernel
theorem dL_law_291 : decode cL_law 291 = .ok (.aload_n 0, 1) := by decide +kernel
theorem dL_law_292 : decode cL_law 292 = .ok (.iload_n 3, 1) := by decide +kernel
theorem dL_law_293 : decode cL_law 293 = .ok (.iconst 3, 1) := by decide +kernel
theorem dL_law_294 : decode cL_law 294 = .ok (.iadd, 1) := by decide +kernel
theorem dL_law_295 : decode cL_law 295 = .ok (.iaload, 1) := by decide +kernel
theorem dL_law_296 : decode cL_law 296 = .ok (.invokevirtual 31, 3) := by decide +kernel
theorem dL_law_299 : decode cL_law 299 = .ok (.if_icmp .eq 493, 3) := by decide +kernel
theorem dL_law_302 : decode cL_law 302 = .ok (.iconst 0, 1) := by decide +kernel
theorem dL_law_303 : decode cL_law 303 = .ok (.ireturn, 1) := by decide +kernel
theorem dL_law_304 : decode cL_law 304 = .ok (.aload_n 1, 1) := by decide +kernel
theorem dL_law_305 : decode cL_law 305 = .ok (.aload_n 0, 1) := by decide +kernel
theorem dL_law_306 : decode cL_law 306 = .ok (.iload_n 3, 1) := by decide +kernel
theorem dL_law_307 : decode cL_law 307 = .ok (.iconst 1, 1) := by decide +kernel
theorem dL_law_308 : decode cL_law 308 = .ok (.iadd, 1) := by decide +kernel
theorem dL_law_309 : decode cL_law 309 = .ok (.iaload, 1) := by decide +kernel
theorem dL_law_310 : decode cL_law 310 = .ok (.aload_n 0, 1) := by decide +kernel
theorem dL_law_311 : decode cL_law 311 = .ok (.iload_n 3, 1) := by decide +kernel
theorem dL_law_312 : decode cL_law 312 = .ok (.iconst 2, 1) := by decide +kernel
theorem dL_law_313 : decode cL_law 313 = .ok (.iadd, 1) := by decide +kernel
theorem dL_law_314 : decode cL_law 314 = .ok (.iaload, 1) := by decide +kernel
theorem dL_law_315 : decode cL_law 315 = .ok (.invokevirtual 32, 3) := by decide +kernel
theorem dL_law_318 : decode cL_law 318 = .ok (.aload_n 2, 1) := by decide +kernel
theorem dL_law_319 : decode cL_law 319 = .ok (.aload_n 0, 1) := by decide +kernel
theorem dL_law_320 : decode cL_law 320 = .ok (.iload_n 3, 1) := by decide +kernel
theorem dL_law_321 : decode cL_law 321 = .ok (.iconst 1, 1) := by decide +kernel
theorem dL_law_322 : decode cL_law 322 = .ok (.iadd, 1) := by decide +kernel
theorem dL_law_323 : decode cL_law 323 = .ok (.iaload, 1) := by decide +kernel
theorem dL_law_324 : decode cL_law 324 = .ok (.aload_n 0, 1) := by decide +kernel
theorem dL_law_325 : decode cL_law 325 = .ok (.iload_n 3, 1) := by decide +kernel
theorem dL_law_326 : decode cL_law 326 = .ok (.iconst 2, 1) := by decide +kernel
theorem dL_law_327 : decode cL_law 327 = .ok (.iadd, 1) := by decide +kernel
theorem dL_law_328 : decode cL_law 328 = .ok (.iaload, 1) := by decide +kernel
theorem dL_law_329 : decode cL_law 329 = .ok (.invokevirtual 35, 3) := by decide +kernel
theorem dL_law_332 : decode cL_law 332 = .ok (.if_icmp .eq 460, 3) := by decide +kernel
theorem dL_law_335 : decode cL_law 335 = .ok (.iconst 0, 1) := by decide +kernel
theorem dL_law_336 : decode cL_law 336 = .ok (.ireturn, 1) := by decide +kernel
theorem dL_law_337 : decode cL_law 337 = .ok (.aload_n 1, 1) := by decide +kernel
theorem dL_law_338 : decode cL_law 338 = .ok (.invokevirtual 36, 3) := by decide +kernel
theorem dL_law_341 : decode cL_law 341 = .ok (.aload_n 2, 1) := by decide +kernel
theorem dL_law_342 : decode cL_law 342 = .ok (.invokevirtual 40, 3) := by decide +kernel
theorem dL_law_345 : decode cL_law 345 = .ok (.if_icmp .eq 447, 3) := by decide +kernel
theorem dL_law_348 : decode cL_law 348 = .ok (.iconst 0, 1) := by decide +kernel
theorem dL_law_349 : decode cL_law 349 = .ok (.ireturn, 1) := by decide +kernel
theorem dL_law_350 : decode cL_law 350 = .ok (.aload_n 1, 1) := by decide +kernel
theorem dL_law_351 : decode cL_law 351 = .ok (.aload_n 0, 1) := by decide +kernel
theorem dL_law_352 : decode cL_law 352 = .ok (.iload_n 3, 1) := by decide +kernel
theorem dL_law_353 : decode cL_law 353 = .ok (.iconst 1, 1) := by decide +kernel
theorem dL_law_354 : decode cL_law 354 = .ok (.iadd, 1) := by decide +kernel
theorem dL_law_355 : decode cL_law 355 = .ok (.iaload, 1) := by decide +kernel
theorem dL_law_356 : decode cL_law 356 = .ok (.aload_n 0, 1) := by decide +kernel
theorem dL_law_357 : decode cL_law 357 = .ok (.iload_n 3, 1) := by decide +kernel
theorem dL_law_358 : decode cL_law 358 = .ok (.iconst 2, 1) := by decide +kernel
theorem dL_law_359 : decode cL_law 359 = .ok (.iadd, 1) := by decide +kernel
theorem dL_law_360 : decode cL_law 360 = .ok (.iaload, 1) := by decide +kernel
theorem dL_law_361 : decode cL_law 361 = .ok (.invokevirtual 41, 3) := by decide +kernel
theorem dL_law_364 : decode cL_law 364 = .ok (.aload_n 2, 1) := by decide +kernel
theorem dL_law_365 : decode cL_law 365 = .ok (.aload_n 0, 1) := by decide +kernel
theorem dL_law_366 : decode cL_law 366 = .ok (.iload_n 3, 1) := by decide +kernel
theorem dL_law_367 : decode cL_law 367 = .ok (.iconst 1, 1) := by decide +kernel
theorem dL_law_368 : decode cL_law 368 = .ok (.iadd, 1) := by decide +kernel
theorem dL_law_369 : decode cL_law 369 = .ok (.iaload, 1) := by decide +kernel
theorem dL_law_370 : decode cL_law 370 = .ok (.aload_n 0, 1) := by decide +kernel
theorem dL_law_371 : decode cL_law 371 = .ok (.iload_n 3, 1) := by decide +kernel
theorem dL_law_372 : decode cL_law 372 = .ok (.iconst 2, 1) := by decide +kernel
theorem dL_law_373 : decode cL_law 373 = .ok (.iadd, 1) := by decide +kernel
theorem dL_law_374 : decode cL_law 374 = .ok (.iaload, 1) := by decide +kernel
theorem dL_law_375 : decode cL_law 375 = .ok (.invokevirtual 44, 3) := by decide +kernel
theorem dL_law_378 : decode cL_law 378 = .ok (.if_icmp .eq 414, 3) := by decide +kernel
theorem dL_law_381 : decode cL_law 381 = .ok (.iconst 0, 1) := by decide +kernel
theorem dL_law_382 : decode cL_law 382 = .ok (.ireturn, 1) := by decide +kernel
theorem dL_law_383 : decode cL_law 383 = .ok (.aload_n 1, 1) := by decide +kernel
theorem dL_law_384 : decode cL_law 384 = .ok (.aload_n 0, 1) := by decide +kernel
theorem dL_law_385 : decode cL_law 385 = .ok (.iload_n 3, 1) := by decide +kernel
theorem dL_law_386 : decode cL_law 386 = .ok (.iconst 1, 1) := by decide +kernel
theorem dL_law_387 : decode cL_law 387 = .ok (.iadd, 1) := by decide +kernel
theorem dL_law_388 : decode cL_law 388 = .ok (.iaload, 1) := by decide +kernel
theorem dL_law_389 : decode cL_law 389 = .ok (.aload_n 0, 1) := by decide +kernel
theorem dL_law_390 : decode cL_law 390 = .ok (.iload_n 3, 1) := by decide +kernel
theorem dL_law_391 : decode cL_law 391 = .ok (.iconst 2, 1) := by decide +kernel
theorem dL_law_392 : decode cL_law 392 = .ok (.iadd, 1) := by decide +kernel
theorem dL_law_393 : decode cL_law 393 = .ok (.iaload, 1) := by decide +kernel
theorem dL_law_394 : decode cL_law 394 = .ok (.invokevirtual 45, 3) := by decide +kernel
theorem dL_law_397 : decode cL_law 397 = .ok (.aload_n 2, 1) := by decide +kernel
theorem dL_law_398 : decode cL_law 398 = .ok (.aload_n 0, 1) := by decide +kernel
theorem dL_law_399 : decode cL_law 399 = .ok (.iload_n 3, 1) := by decide +kernel
theorem dL_law_400 : decode cL_law 400 = .ok (.iconst 1, 1) := by decide +kernel
theorem dL_law_401 : decode cL_law 401 = .ok (.iadd, 1) := by decide +kernel
theorem dL_law_402 : decode cL_law 402 = .ok (.iaload, 1) := by decide +kernel
theorem dL_law_403 : decode cL_law 403 = .ok (.aload_n 0, 1) := by decide +kernel
theorem dL_law_404 : decode cL_law 404 = .ok (.iload_n 3, 1) := by decide +kernel
theorem dL_law_405 : decode cL_law 405 = .ok (.iconst 2, 1) := by decide +kernel
theorem dL_law_406 : decode cL_law 406 = .ok (.iadd, 1) := by decide +kernel
theorem dL_law_407 : decode cL_law 407 = .ok (.iaload, 1) := by decide +kernel
theorem dL_law_408 : decode cL_law 408 = .ok (.invokevirtual 48, 3) := by decide +kernel
theorem dL_law_411 : decode cL_law 411 = .ok (.if_icmp .eq 381, 3) := by decide +kernel
theorem dL_law_414 : decode cL_law 414 = .ok (.iconst 0, 1) := by decide +kernel
theorem dL_law_415 : decode cL_law 415 = .ok (.ireturn, 1) := by decide +kernel
theorem dL_law_416 : decode cL_law 416 = .ok (.aload_n 1, 1) := by decide +kernel
theorem dL_law_417 : decode cL_law 417 = .ok (.aload_n 0, 1) := by decide +kernel
theorem dL_law_418 : decode cL_law 418 = .ok (.iload_n 3, 1) := by decide +kernel
theorem dL_law_419 : decode cL_law 419 = .ok (.iconst 1, 1) := by decide +kernel
theorem dL_law_420 : decode cL_law 420 = .ok (.iadd, 1) := by decide +kernel
theorem dL_law_421 : decode cL_law 421 = .ok (.iaload, 1) := by decide +kernel
theorem dL_law_422 : decode cL_law 422 = .ok (.invokevirtual 49, 3) := by decide +kernel
theorem dL_law_425 : decode cL_law 425 = .ok (.aload_n 2, 1) := by decide +kernel
theorem dL_law_426 : decode cL_law 426 = .ok (.aload_n 0, 1) := by decide +kernel
theorem dL_law_427 : decode cL_law 427 = .ok (.iload_n 3, 1) := by decide +kernel
theorem dL_law_428 : decode cL_law 428 = .ok (.iconst 1, 1) := by decide +kernel
theorem dL_law_429 : decode cL_law 429 = .ok (.iadd, 1) := by decide +kernel
theorem dL_law_430 : decode cL_law 430 = .ok (.iaload, 1) := by decide +kernel
theorem dL_law_431 : decode cL_law 431 = .ok (.invokevirtual 53, 3) := by decide +kernel
theorem dL_law_434 : decode cL_law 434 = .ok (.if_icmp .eq 358, 3) := by decide +kernel
theorem dL_law_437 : decode cL_law 437 = .ok (.iconst 0, 1) := by decide +kernel
theorem dL_law_438 : decode cL_law 438 = .ok (.ireturn, 1) := by decide +kernel
theorem dL_law_439 : decode cL_law 439 = .ok (.aload_n 1, 1) := by decide +kernel
theorem dL_law_440 : decode cL_law 440 = .ok (.aload_n 0, 1) := by decide +kernel
theorem dL_law_441 : decode cL_law 441 = .ok (.iload_n 3, 1) := by decide +kernel
theorem dL_law_442 : decode cL_law 442 = .ok (.iconst 1, 1) := by decide +kernel
theorem dL_law_443 : decode cL_law 443 = .ok (.iadd, 1) := by decide +kernel
theorem dL_law_444 : decode cL_law 444 = .ok (.iaload, 1) := by decide +kernel
theorem dL_law_445 : decode cL_law 445 = .ok (.invokevirtual 54, 3) := by decide +kernel
theorem dL_law_448 : decode cL_law 448 = .ok (.aload_n 2, 1) := by decide +kernel
theorem dL_law_449 : decode cL_law 449 = .ok (.aload_n 0, 1) := by decide +kernel
theorem dL_law_450 : decode cL_law 450 = .ok (.iload_n 3, 1) := by decide +kernel
theorem dL_law_451 : decode cL_law 451 = .ok (.iconst 1, 1) := by decide +kernel
theorem dL_law_452 : decode cL_law 452 = .ok (.iadd, 1) := by decide +kernel
theorem dL_law_453 : decode cL_law 453 = .ok (.iaload, 1) := by decide +kernel
theorem dL_law_454 : decode cL_law 454 = .ok (.invokevirtual 57, 3) := by decide +kernel
theorem dL_law_457 : decode cL_law 457 = .ok (.if_icmp .eq 335, 3) := by decide +kernel
theorem dL_law_460 : decode cL_law 460 = .ok (.iconst 0, 1) := by decide +kernel
theorem dL_law_461 : decode cL_law 461 = .ok (.ireturn, 1) := by decide +kernel
theorem dL_law_462 : decode cL_law 462 = .ok (.aload_n 1, 1) := by decide +kernel
theorem dL_law_463 : decode cL_law 463 = .ok (.aload_n 0, 1) := by decide +kernel
theorem dL_law_464 : decode cL_law 464 = .ok (.iload_n 3, 1) := by decide +kernel
theorem dL_law_465 : decode cL_law 465 = .ok (.iconst 1, 1) := by decide +kernel
theorem dL_law_466 : decode cL_law 466 = .ok (.iadd, 1) := by decide +kernel
theorem dL_law_467 : decode cL_law 467 = .ok (.iaload, 1) := by decide +kernel
theorem dL_law_468 : decode cL_law 468 = .ok (.aload_n 0, 1) := by decide +kernel
theorem dL_law_469 : decode cL_law 469 = .ok (.iload_n 3, 1) := by decide +kernel
theorem dL_law_470 : decode cL_law 470 = .ok (.iconst 2, 1) := by decide +kernel
theorem dL_law_471 : decode cL_law 471 = .ok (.iadd, 1) := by decide +kernel
theorem dL_law_472 : decode cL_law 472 = .ok (.iaload, 1) := by decide +kernel
theorem dL_law_473 : decode cL_law 473 = .ok (.invokevirtual 58, 3) := by decide +kernel
theorem dL_law_476 : decode cL_law 476 = .ok (.aload_n 2, 1) := by decide +kernel
theorem dL_law_477 : decode cL_law 477 = .ok (.aload_n 0, 1) := by decide +kernel
theorem dL_law_478 : decode cL_law 478 = .ok (.iload_n 3, 1) := by decide +kernel
theorem dL_law_479 : decode cL_law 479 = .ok (.iconst 1, 1) := by decide +kernel
theorem dL_law_480 : decode cL_law 480 = .ok (.iadd, 1) := by decide +kernel
theorem dL_law_481 : decode cL_law 481 = .ok (.iaload, 1) := by decide +kernel
theorem dL_law_482 : decode cL_law 482 = .ok (.aload_n 0, 1) := by decide +kernel
theorem dL_law_483 : decode cL_law 483 = .ok (.iload_n 3, 1) := by decide +kernel
theorem dL_law_484 : decode cL_law 484 = .ok (.iconst 2, 1) := by decide +kernel
theorem dL_law_485 : decode cL_law 485 = .ok (.iadd, 1) := by decide +kernel
theorem dL_law_486 : decode cL_law 486 = .ok (.iaload, 1) := by decide +kernel
theorem dL_law_487 : decode cL_law 487 = .ok (.invokevirtual 62, 3) := by decide +kernel
theorem dL_law_490 : decode cL_law 490 = .ok (.lcmp, 1) := by decide +kernel
theorem dL_law_491 : decode cL_law 491 = .ok (.ifCond .eq 301, 3) := by decide +kernel
theorem dL_law_494 : decode cL_law 494 = .ok (.iconst 0, 1) := by decide +kernel
theorem dL_law_495 : decode cL_law 495 = .ok (.ireturn, 1) := by decide +kernel
theorem dL_law_496 : decode cL_law 496 = .ok (.aload_n 1, 1) := by decide +kernel
theorem dL_law_497 : decode cL_law 497 = .ok (.aload_n 0, 1) := by decide +kernel
theorem dL_law_498 : decode cL_law 498 = .ok (.iload_n 3, 1) := by decide +kernel
theorem dL_law_499 : decode cL_law 499 = .ok (.iconst 1, 1) := by decide +kernel
theorem dL_law_500 : decode cL_law 500 = .ok (.iadd, 1) := by decide +kernel
theorem dL_law_501 : decode cL_law 501 = .ok (.iaload, 1) := by decide +kernel
theorem dL_law_502 : decode cL_law 502 = .ok (.aload_n 0, 1) := by decide +kernel
theorem dL_law_503 : decode cL_law 503 = .ok (.iload_n 3, 1) := by decide +kernel
theorem dL_law_504 : decode cL_law 504 = .ok (.iconst 2, 1) := by decide +kernel
theorem dL_law_505 : decode cL_law 505 = .ok (.iadd, 1) := by decide +kernel
theorem dL_law_506 : decode cL_law 506 = .ok (.iaload, 1) := by decide +kernel
theorem dL_law_507 : decode cL_law 507 = .ok (.invokevirtual 63, 3) := by decide +kernel
theorem dL_law_510 : decode cL_law 510 = .ok (.aload_n 2, 1) := by decide +kernel
theorem dL_law_511 : decode cL_law 511 = .ok (.aload_n 0, 1) := by decide +kernel
theorem dL_law_512 : decode cL_law 512 = .ok (.iload_n 3, 1) := by decide +kernel
theorem dL_law_513 : decode cL_law 513 = .ok (.iconst 1, 1) := by decide +kernel
theorem dL_law_514 : decode cL_law 514 = .ok (.iadd, 1) := by decide +kernel
theorem dL_law_515 : decode cL_law 515 = .ok (.iaload, 1) := by decide +kernel
theorem dL_law_516 : decode cL_law 516 = .ok (.aload_n 0, 1) := by decide +kernel
theorem dL_law_517 : decode cL_law 517 = .ok (.iload_n 3, 1) := by decide +kernel
theorem dL_law_518 : decode cL_law 518 = .ok (.iconst 2, 1) := by decide +kernel
theorem dL_law_519 : decode cL_law 519 = .ok (.iadd, 1) := by decide +kernel
theorem dL_law_520 : decode cL_law 520 = .ok (.iaload, 1) := by decide +kernel
theorem dL_law_521 : decode cL_law 521 = .ok (.invokevirtual 66, 3) := by decide +kernel
theorem dL_law_524 : decode cL_law 524 = .ok (.if_icmp .eq 268, 3) := by decide +kernel
theorem dL_law_527 : decode cL_law 527 = .ok (.iconst 0, 1) := by decide +kernel
theorem dL_law_528 : decode cL_law 528 = .ok (.ireturn, 1) := by decide +kernel
theorem dL_law_529 : decode cL_law 529 = .ok (.aload_n 1, 1) := by decide +kernel
theorem dL_law_530 : decode cL_law 530 = .ok (.aload_n 0, 1) := by decide +kernel
theorem dL_law_531 : decode cL_law 531 = .ok (.iload_n 3, 1) := by decide +kernel
theorem dL_law_532 : decode cL_law 532 = .ok (.iconst 1, 1) := by decide +kernel
theorem dL_law_533 : decode cL_law 533 = .ok (.iadd, 1) := by decide +kernel
theorem dL_law_534 : decode cL_law 534 = .ok (.iaload, 1) := by decide +kernel
theorem dL_law_535 : decode cL_law 535 = .ok (.aload_n 0, 1) := by decide +kernel
theorem dL_law_536 : decode cL_law 536 = .ok (.iload_n 3, 1) := by decide +kernel
theorem dL_law_537 : decode cL_law 537 = .ok (.iconst 2, 1) := by decide +kernel
theorem dL_law_538 : decode cL_law 538 = .ok (.iadd, 1) := by decide +kernel
theorem dL_law_539 : decode cL_law 539 = .ok (.iaload, 1) := by decide +kernel
theorem dL_law_540 : decode cL_law 540 = .ok (.invokevirtual 67, 3) := by decide +kernel
theorem dL_law_543 : decode cL_law 543 = .ok (.aload_n 2, 1) := by decide +kernel
theorem dL_law_544 : decode cL_law 544 = .ok (.aload_n 0, 1) := by decide +kernel
theorem dL_law_545 : decode cL_law 545 = .ok (.iload_n 3, 1) := by decide +kernel
theorem dL_law_546 : decode cL_law 546 = .ok (.iconst 1, 1) := by decide +kernel
theorem dL_law_547 : decode cL_law 547 = .ok (.iadd, 1) := by decide +kernel
theorem dL_law_548 : decode cL_law 548 = .ok (.iaload, 1) := by decide +kernel
theorem dL_law_549 : decode cL_law 549 = .ok (.aload_n 0, 1) := by decide +kernel
theorem dL_law_550 : decode cL_law 550 = .ok (.iload_n 3, 1) := by decide +kernel
theorem dL_law_551 : decode cL_law 551 = .ok (.iconst 2, 1) := by decide +kernel
theorem dL_law_552 : decode cL_law 552 = .ok (.iadd, 1) := by decide +kernel
theorem dL_law_553 : decode cL_law 553 = .ok (.iaload, 1) := by decide +kernel
theorem dL_law_554 : decode cL_law 554 = .ok (.invokevirtual 70, 3) := by decide +kernel
theorem dL_law_557 : decode cL_law 557 = .ok (.if_icmp .eq 235, 3) := by decide +kernel
theorem dL_law_560 : decode cL_law 560 = .ok (.iconst 0, 1) := by decide +kernel
theorem dL_law_561 : decode cL_law 561 = .ok (.ireturn, 1) := by decide +kernel
theorem dL_law_562 : decode cL_law 562 = .ok (.aload_n 1, 1) := by decide +kernel
theorem dL_law_563 : decode cL_law 563 = .ok (.aload_n 0, 1) := by decide +kernel
theorem dL_law_564 : decode cL_law 564 = .ok (.iload_n 3, 1) := by decide +kernel
theorem dL_law_565 : decode cL_law 565 = .ok (.iconst 1, 1) := by decide +kernel
theorem dL_law_566 : decode cL_law 566 = .ok (.iadd, 1) := by decide +kernel
theorem dL_law_567 : decode cL_law 567 = .ok (.iaload, 1) := by decide +kernel
theorem dL_law_568 : decode cL_law 568 = .ok (.aload_n 0, 1) := by decide +kernel
theorem dL_law_569 : decode cL_law 569 = .ok (.iload_n 3, 1) := by decide +kernel
theorem dL_law_570 : decode cL_law 570 = .ok (.iconst 2, 1) := by decide +kernel
theorem dL_law_571 : decode cL_law 571 = .ok (.iadd, 1) := by decide +kernel
theorem dL_law_572 : decode cL_law 572 = .ok (.iaload, 1) := by decide +kernel
theorem dL_law_573 : decode cL_law 573 = .ok (.aload_n 0, 1) := by decide +kernel
theorem dL_law_574 : decode cL_law 574 = .ok (.iload_n 3, 1) := by decide +kernel
theorem dL_law_575 : decode cL_law 575 = .ok (.iconst 3, 1) := by decide +kernel
theorem dL_law_576 : decode cL_law 576 = .ok (.iadd, 1) := by decide +kernel
theorem dL_law_577 : decode cL_law 577 = .ok (.iaload, 1) := by decide +kernel
theorem dL_law_578 : decode cL_law 578 = .ok (.invokevirtual 71, 3) := by decide +kernel
theorem dL_law_581 : decode cL_law 581 = .ok (.aload_n 2, 1) := by decide +kernel
theorem dL_law_582 : decode cL_law 582 = .ok (.aload_n 0, 1) := by decide +kernel
theorem dL_law_583 : decode cL_law 583 = .ok (.iload_n 3, 1) := by decide +kernel
theorem dL_law_584 : decode cL_law 584 = .ok (.iconst 1, 1) := by decide +kernel
theorem dL_law_585 : decode cL_law 585 = .ok (.iadd, 1) := by decide +kernel
theorem dL_law_586 : decode cL_law 586 = .ok (.iaload, 1) := by decide +kernel
theorem dL_law_587 : decode cL_law 587 = .ok (.aload_n 0, 1) := by decide +kernel
theorem dL_law_588 : decode cL_law 588 = .ok (.iload_n 3, 1) := by decide +kernel
theorem dL_law_589 : decode cL_law 589 = .ok (.iconst 2, 1) := by decide +kernel
theorem dL_law_590 : decode cL_law 590 = .ok (.iadd, 1) := by decide +kernel
theorem dL_law_591 : decode cL_law 591 = .ok (.iaload, 1) := by decide +kernel
theorem dL_law_592 : decode cL_law 592 = .ok (.aload_n 0, 1) := by decide +kernel
theorem dL_law_593 : decode cL_law 593 = .ok (.iload_n 3, 1) := by decide +kernel
theorem dL_law_594 : decode cL_law 594 = .ok (.iconst 3, 1) := by decide +kernel
theorem dL_law_595 : decode cL_law 595 = .ok (.iadd, 1) := by decide +kernel
theorem dL_law_596 : decode cL_law 596 = .ok (.iaload, 1) := by decide +kernel
theorem dL_law_597 : decode cL_law 597 = .ok (.invokevirtual 74, 3) := by decide +kernel
theorem dL_law_600 : decode cL_law 600 = .ok (.if_icmp .eq 192, 3) := by decide +kernel
theorem dL_law_603 : decode cL_law 603 = .ok (.iconst 0, 1) := by decide +kernel
theorem dL_law_604 : decode cL_law 604 = .ok (.ireturn, 1) := by decide +kernel
theorem dL_law_605 : decode cL_law 605 = .ok (.aload_n 1, 1) := by decide +kernel
theorem dL_law_606 : decode cL_law 606 = .ok (.aload_n 0, 1) := by decide +kernel
theorem dL_law_607 : decode cL_law 607 = .ok (.iload_n 3, 1) := by decide +kernel
theorem dL_law_608 : decode cL_law 608 = .ok (.iconst 1, 1) := by decide +kernel
theorem dL_law_609 : decode cL_law 609 = .ok (.iadd, 1) := by decide +kernel
theorem dL_law_610 : decode cL_law 610 = .ok (.iaload, 1) := by decide +kernel
theorem dL_law_611 : decode cL_law 611 = .ok (.aload_n 0, 1) := by decide +kernel
theorem dL_law_612 : decode cL_law 612 = .ok (.iload_n 3, 1) := by decide +kernel
theorem dL_law_613 : decode cL_law 613 = .ok (.iconst 2, 1) := by decide +kernel
theorem dL_law_614 : decode cL_law 614 = .ok (.iadd, 1) := by decide +kernel
theorem dL_law_615 : decode cL_law 615 = .ok (.iaload, 1) := by decide +kernel
theorem dL_law_616 : decode cL_law 616 = .ok (.invokevirtual 75, 3) := by decide +kernel
theorem dL_law_619 : decode cL_law 619 = .ok (.aload_n 2, 1) := by decide +kernel
theorem dL_law_620 : decode cL_law 620 = .ok (.aload_n 0, 1) := by decide +kernel
theorem dL_law_621 : decode cL_law 621 = .ok (.iload_n 3, 1) := by decide +kernel
theorem dL_law_622 : decode cL_law 622 = .ok (.iconst 1, 1) := by decide +kernel
theorem dL_law_623 : decode cL_law 623 = .ok (.iadd, 1) := by decide +kernel
theorem dL_law_624 : decode cL_law 624 = .ok (.iaload, 1) := by decide +kernel
theorem dL_law_625 : decode cL_law 625 = .ok (.aload_n 0, 1) := by decide +kernel
theorem dL_law_626 : decode cL_law 626 = .ok (.iload_n 3, 1) := by decide +kernel
theorem dL_law_627 : decode cL_law 627 = .ok (.iconst 2, 1) := by decide +kernel
theorem dL_law_628 : decode cL_law 628 = .ok (.iadd, 1) := by decide +kernel
theorem dL_law_629 : decode cL_law 629 = .ok (.iaload, 1) := by decide +kernel
theorem dL_law_630 : decode cL_law 630 = .ok (.invokevirtual 78, 3) := by decide +kernel
theorem dL_law_633 : decode cL_law 633 = .ok (.if_icmp .eq 159, 3) := by decide +kernel
theorem dL_law_636 : decode cL_law 636 = .ok (.iconst 0, 1) := by decide +kernel
theorem dL_law_637 : decode cL_law 637 = .ok (.ireturn, 1) := by decide +kernel
theorem dL_law_638 : decode cL_law 638 = .ok (.aload_n 1, 1) := by decide +kernel
theorem dL_law_639 : decode cL_law 639 = .ok (.aload_n 0, 1) := by decide +kernel
theorem dL_law_640 : decode cL_law 640 = .ok (.iload_n 3, 1) := by decide +kernel
theorem dL_law_641 : decode cL_law 641 = .ok (.iconst 1, 1) := by decide +kernel
theorem dL_law_642 : decode cL_law 642 = .ok (.iadd, 1) := by decide +kernel
theorem dL_law_643 : decode cL_law 643 = .ok (.iaload, 1) := by decide +kernel
theorem dL_law_644 : decode cL_law 644 = .ok (.aload_n 0, 1) := by decide +kernel
theorem dL_law_645 : decode cL_law 645 = .ok (.iload_n 3, 1) := by decide +kernel
theorem dL_law_646 : decode cL_law 646 = .ok (.iconst 2, 1) := by decide +kernel
theorem dL_law_647 : decode cL_law 647 = .ok (.iadd, 1) := by decide +kernel
theorem dL_law_648 : decode cL_law 648 = .ok (.iaload, 1) := by decide +kernel
theorem dL_law_649 : decode cL_law 649 = .ok (.ifCond .eq 7, 3) := by decide +kernel
theorem dL_law_652 : decode cL_law 652 = .ok (.iconst 1, 1) := by decide +kernel
theorem dL_law_653 : decode cL_law 653 = .ok (.goto 4, 3) := by decide +kernel
theorem dL_law_656 : decode cL_law 656 = .ok (.iconst 0, 1) := by decide +kernel
theorem dL_law_657 : decode cL_law 657 = .ok (.invokevirtual 79, 3) := by decide +kernel
theorem dL_law_660 : decode cL_law 660 = .ok (.aload_n 2, 1) := by decide +kernel
theorem dL_law_661 : decode cL_law 661 = .ok (.aload_n 0, 1) := by decide +kernel
theorem dL_law_662 : decode cL_law 662 = .ok (.iload_n 3, 1) := by decide +kernel
theorem dL_law_663 : decode cL_law 663 = .ok (.iconst 1, 1) := by decide +kernel
theorem dL_law_664 : decode cL_law 664 = .ok (.iadd, 1) := by decide +kernel
theorem dL_law_665 : decode cL_law 665 = .ok (.iaload, 1) := by decide +kernel
theorem dL_law_666 : decode cL_law 666 = .ok (.aload_n 0, 1) := by decide +kernel
theorem dL_law_667 : decode cL_law 667 = .ok (.iload_n 3, 1) := by decide +kernel
theorem dL_law_668 : decode cL_law 668 = .ok (.iconst 2, 1) := by decide +kernel
theorem dL_law_669 : decode cL_law 669 = .ok (.iadd, 1) := by decide +kernel
theorem dL_law_670 : decode cL_law 670 = .ok (.iaload, 1) := by decide +kernel
theorem dL_law_671 : decode cL_law 671 = .ok (.ifCond .eq 7, 3) := by decide +kernel
theorem dL_law_674 : decode cL_law 674 = .ok (.iconst 1, 1) := by decide +kernel
theorem dL_law_675 : decode cL_law 675 = .ok (.goto 4, 3) := by decide +kernel
theorem dL_law_678 : decode cL_law 678 = .ok (.iconst 0, 1) := by decide +kernel
theorem dL_law_679 : decode cL_law 679 = .ok (.invokevirtual 83, 3) := by decide +kernel
theorem dL_law_682 : decode cL_law 682 = .ok (.if_icmp .eq 110, 3) := by decide +kernel
theorem dL_law_685 : decode cL_law 685 = .ok (.iconst 0, 1) := by decide +kernel
theorem dL_law_686 : decode cL_law 686 = .ok (.ireturn, 1) := by decide +kernel
theorem dL_law_687 : decode cL_law 687 = .ok (.aload_n 1, 1) := by decide +kernel
theorem dL_law_688 : decode cL_law 688 = .ok (.aload_n 0, 1) := by decide +kernel
theorem dL_law_689 : decode cL_law 689 = .ok (.iload_n 3, 1) := by decide +kernel
theorem dL_law_690 : decode cL_law 690 = .ok (.iconst 1, 1) := by decide +kernel
theorem dL_law_691 : decode cL_law 691 = .ok (.iadd, 1) := by decide +kernel
theorem dL_law_692 : decode cL_law 692 = .ok (.iaload, 1) := by decide +kernel
theorem dL_law_693 : decode cL_law 693 = .ok (.invokevirtual 84, 3) := by decide +kernel
theorem dL_law_696 : decode cL_law 696 = .ok (.aload_n 2, 1) := by decide +kernel
theorem dL_law_697 : decode cL_law 697 = .ok (.aload_n 0, 1) := by decide +kernel
theorem dL_law_698 : decode cL_law 698 = .ok (.iload_n 3, 1) := by decide +kernel
theorem dL_law_699 : decode cL_law 699 = .ok (.iconst 1, 1) := by decide +kernel
theorem dL_law_700 : decode cL_law 700 = .ok (.iadd, 1) := by decide +kernel
theorem dL_law_701 : decode cL_law 701 = .ok (.iaload, 1) := by decide +kernel
theorem dL_law_702 : decode cL_law 702 = .ok (.invokevirtual 87, 3) := by decide +kernel
theorem dL_law_705 : decode cL_law 705 = .ok (.if_icmp .eq 87, 3) := by decide +kernel
theorem dL_law_708 : decode cL_law 708 = .ok (.iconst 0, 1) := by decide +kernel
theorem dL_law_709 : decode cL_law 709 = .ok (.ireturn, 1) := by decide +kernel
theorem dL_law_710 : decode cL_law 710 = .ok (.aload_n 1, 1) := by decide +kernel
theorem dL_law_711 : decode cL_law 711 = .ok (.invokevirtual 88, 3) := by decide +kernel
theorem dL_law_714 : decode cL_law 714 = .ok (.aload_n 2, 1) := by decide +kernel
theorem dL_law_715 : decode cL_law 715 = .ok (.invokevirtual 91, 3) := by decide +kernel
theorem dL_law_718 : decode cL_law 718 = .ok (.if_icmp .eq 74, 3) := by decide +kernel
theorem dL_law_721 : decode cL_law 721 = .ok (.iconst 0, 1) := by decide +kernel
theorem dL_law_722 : decode cL_law 722 = .ok (.ireturn, 1) := by decide +kernel
theorem dL_law_723 : decode cL_law 723 = .ok (.aload_n 1, 1) := by decide +kernel
theorem dL_law_724 : decode cL_law 724 = .ok (.aload_n 0, 1) := by decide +kernel
theorem dL_law_725 : decode cL_law 725 = .ok (.iload_n 3, 1) := by decide +kernel
theorem dL_law_726 : decode cL_law 726 = .ok (.iconst 1, 1) := by decide +kernel
theorem dL_law_727 : decode cL_law 727 = .ok (.iadd, 1) := by decide +kernel
theorem dL_law_728 : decode cL_law 728 = .ok (.iaload, 1) := by decide +kernel
theorem dL_law_729 : decode cL_law 729 = .ok (.invokevirtual 92, 3) := by decide +kernel
theorem dL_law_732 : decode cL_law 732 = .ok (.aload_n 2, 1) := by decide +kernel
theorem dL_law_733 : decode cL_law 733 = .ok (.aload_n 0, 1) := by decide +kernel
theorem dL_law_734 : decode cL_law 734 = .ok (.iload_n 3, 1) := by decide +kernel
theorem dL_law_735 : decode cL_law 735 = .ok (.iconst 1, 1) := by decide +kernel
theorem dL_law_736 : decode cL_law 736 = .ok (.iadd, 1) := by decide +kernel
theorem dL_law_737 : decode cL_law 737 = .ok (.iaload, 1) := by decide +kernel
theorem dL_law_738 : decode cL_law 738 = .ok (.invokevirtual 95, 3) := by decide +kernel
theorem dL_law_741 : decode cL_law 741 = .ok (.if_icmp .eq 51, 3) := by decide +kernel
theorem dL_law_744 : decode cL_law 744 = .ok (.iconst 0, 1) := by decide +kernel
theorem dL_law_745 : decode cL_law 745 = .ok (.ireturn, 1) := by decide +kernel
theorem dL_law_746 : decode cL_law 746 = .ok (.aload_n 1, 1) := by decide +kernel
theorem dL_law_747 : decode cL_law 747 = .ok (.aload_n 0, 1) := by decide +kernel
theorem dL_law_748 : decode cL_law 748 = .ok (.iload_n 3, 1) := by decide +kernel
theorem dL_law_749 : decode cL_law 749 = .ok (.iconst 1, 1) := by decide +kernel
theorem dL_law_750 : decode cL_law 750 = .ok (.iadd, 1) := by decide +kernel
theorem dL_law_751 : decode cL_law 751 = .ok (.iaload, 1) := by decide +kernel
theorem dL_law_752 : decode cL_law 752 = .ok (.invokevirtual 96, 3) := by decide +kernel
theorem dL_law_755 : decode cL_law 755 = .ok (.aload_n 2, 1) := by decide +kernel
theorem dL_law_756 : decode cL_law 756 = .ok (.aload_n 0, 1) := by decide +kernel
theorem dL_law_757 : decode cL_law 757 = .ok (.iload_n 3, 1) := by decide +kernel
theorem dL_law_758 : decode cL_law 758 = .ok (.iconst 1, 1) := by decide +kernel
theorem dL_law_759 : decode cL_law 759 = .ok (.iadd, 1) := by decide +kernel
theorem dL_law_760 : decode cL_law 760 = .ok (.iaload, 1) := by decide +kernel
theorem dL_law_761 : decode cL_law 761 = .ok (.invokevirtual 99, 3) := by decide +kernel
theorem dL_law_764 : decode cL_law 764 = .ok (.if_icmp .eq 28, 3) := by decide +kernel
theorem dL_law_767 : decode cL_law 767 = .ok (.iconst 0, 1) := by decide +kernel
theorem dL_law_768 : decode cL_law 768 = .ok (.ireturn, 1) := by decide +kernel
theorem dL_law_769 : decode cL_law 769 = .ok (.aload_n 1, 1) := by decide +kernel
theorem dL_law_770 : decode cL_law 770 = .ok (.aload_n 0, 1) := by decide +kernel
theorem dL_law_771 : decode cL_law 771 = .ok (.iload_n 3, 1) := by decide +kernel
theorem dL_law_772 : decode cL_law 772 = .ok (.iconst 1, 1) := by decide +kernel
theorem dL_law_773 : decode cL_law 773 = .ok (.iadd, 1) := by decide +kernel
theorem dL_law_774 : decode cL_law 774 = .ok (.iaload, 1) := by decide +kernel
theorem dL_law_775 : decode cL_law 775 = .ok (.invokevirtual 100, 3) := by decide +kernel
theorem dL_law_778 : decode cL_law 778 = .ok (.aload_n 2, 1) := by decide +kernel
theorem dL_law_779 : decode cL_law 779 = .ok (.aload_n 0, 1) := by decide +kernel
theorem dL_law_780 : decode cL_law 780 = .ok (.iload_n 3, 1) := by decide +kernel
theorem dL_law_781 : decode cL_law 781 = .ok (.iconst 1, 1) := by decide +kernel
theorem dL_law_782 : decode cL_law 782 = .ok (.iadd, 1) := by decide +kernel
theorem dL_law_783 : decode cL_law 783 = .ok (.iaload, 1) := by decide +kernel
theorem dL_law_784 : decode cL_law 784 = .ok (.invokevirtual 103, 3) := by decide +kernel
theorem dL_law_787 : decode cL_law 787 = .ok (.if_icmp .eq 5, 3) := by decide +kernel
theorem dL_law_790 : decode cL_law 790 = .ok (.iconst 0, 1) := by decide +kernel
theorem dL_law_791 : decode cL_law 791 = .ok (.ireturn, 1) := by decide +kernel
theorem dL_law_792 : decode cL_law 792 = .ok (.iinc 3 5, 3) := by decide +kernel
theorem dL_law_795 : decode cL_law 795 = .ok (.goto (-777), 3) := by decide +kernel
theorem dL_law_798 : decode cL_law 798 = .ok (.iconst 1, 1) := by decide +kernel
theorem dL_law_799 : decode cL_law 799 = .ok (.ireturn, 1) := by decide +kernel
end
section
section MET
theorem met_go {l : Launch} {y : MethodName} {wsy ws' : List Cond} {rm : Room} {Pre : State → Prop} {Qc : Array Value → State → Outcome → State → Prop} {mc ms : Nat} {free : Addr → Prop} {cc : ByteArray} {maxL : Nat} {ret : Option FieldType} {av : List Value}
    (hy : plainName y.cls = true) (hw : wsy = Cond.code y cc maxL ret :: ws')
    (body : ∀ (p : Program) (e : Env) (s : State) (m : MethodId) (a : Array Value) (below : List Frame) (meth : Method) (c : Code) (Q : State → Prop), Q = MQ below Qc a s mc ms free → a = av.toArray → p.tables.exec = Jvm.exec → c.code = cc → meth.sig.returnType = ret → c.maxLocals = maxL → (∀ w ∈ wsy, w.before a s = true) → s.vm.findClass y.cls = some m.cls → meth.locks = false → meth.name = y.name → Pre s →
      ∀ ls : Array Slot, lv_has ls maxL (lv_args 0 av) → W p l e rm s m a below meth c s.heap [] 0 0 Q (F0 m 0 ls []))
    (hn : (lg_sl av).length ≤ maxL) : Met l y wsy rm (va_Pc av Pre) Qc mc ms free := by
  refine Met.ofW (cc := cc) (maxL := maxL) (ret := ret) hy hw ?_
  intro p e s m args below meth c s₁ B hml hv
  obtain ⟨rfl, hpre⟩ := hv
  have hts := atoms_spec (ws := wsy) B.pre
  have hl := lv_entry av (n := maxL) hn
  rw [lg_entry_eq]
  generalize (lg_sl av ++ List.replicate (maxL - (lg_sl av).length) Slot.unset).toArray = ls at hl ⊢
  exact body p e s m _ below meth c _ rfl rfl B.exec B.bytes B.returns hml hts (findClass_of_methodNamed B.named) B.notSynchronized (name_of_methodNamed B.named B.method).1 hpre ls hl
variable {p : Program} {l : Launch} {e : Env} {R : Room} {s : State} {m : MethodId} {a : Array Value} {below : List Frame} {meth : Method} {c : Code} {H : Heap} {locs : List Loc} {Q : State → Prop}
variable {cc : ByteArray} {pc : Nat} {ls : Array Slot} {A : Nat → Prop} {D : va_G} {w0 : va_W}
theorem ret_RI {r v : Int32} (hQ : Q = MQ below (RI r) a s 0 0 nA) (hx : p.tables.exec = Jvm.exec) (hb : c.code = cc) (hr : meth.sig.returnType = some .int) (hlk : meth.locks = false) (hS : va_S nA s.heap H locs) (hv : v = r) (hd : decode cc pc = .ok (.ireturn, 1)) : W p l e R s m a below meth c H locs 0 0 Q (F0 m pc ls [.int v]) := by
  subst hQ
  exact W.iret hx hb hr (fun t ht hW => ⟨⟨v, (), rfl, hv, trivial⟩, hS.F ht⟩) hS.2.2 hd hlk
theorem ret_RZ {r v : Int32} (hQ : Q = MQ below (RI r) a s 0 0 nA) (hx : p.tables.exec = Jvm.exec) (hb : c.code = cc) (hr : meth.sig.returnType = some .boolean) (hn : narrow .boolean (.int v) = .int v) (hlk : meth.locks = false) (hS : va_S nA s.heap H locs) (hv : v = r) (hd : decode cc pc = .ok (.ireturn, 1)) : W p l e R s m a below meth c H locs 0 0 Q (F0 m pc ls [.int v]) := by
  subst hQ
  exact W.zret hx hb hr hn (fun t ht hW => ⟨⟨v, (), rfl, hv, trivial⟩, hS.F ht⟩) hS.2.2 hd hlk
theorem ret_RJ {r v : Int64} (hQ : Q = MQ below (RJ r) a s 0 0 nA) (hx : p.tables.exec = Jvm.exec) (hb : c.code = cc) (hr : meth.sig.returnType = some .long) (hlk : meth.locks = false) (hS : va_S nA s.heap H locs) (hv : v = r) (hd : decode cc pc = .ok (.lreturn, 1)) : W p l e R s m a below meth c H locs 0 0 Q (F0 m pc ls [.long v]) := by
  subst hQ
  exact W.lret hx hb hr (fun t ht hW => ⟨⟨v, (), rfl, hv, trivial⟩, hS.F ht⟩) hS.2.2 hd hlk
theorem ret_RR {r v : Nat} {rt : FieldType} (hQ : Q = MQ below (RR r) a s 0 0 nA) (hx : p.tables.exec = Jvm.exec) (hb : c.code = cc) (hr : meth.sig.returnType = some rt) (hrt : (∃ n, rt = .object n) ∨ ∃ t, rt = .array t) (hlk : meth.locks = false) (hS : va_S nA s.heap H locs) (hv : v = r) (hd : decode cc pc = .ok (.areturn, 1)) : W p l e R s m a below meth c H locs 0 0 Q (F0 m pc ls [.ref v]) := by
  subst hQ
  exact W.aret hx hb hr hrt (Or.inr ⟨v, rfl⟩) (fun t ht hW => ⟨⟨(), v, rfl, trivial, hv⟩, hS.F ht⟩) hS.2.2 hd hlk
theorem ret_WI {S : Type} {post : Int32 → S → Prop} {w1 : S → va_W} {v : Int32} (hQ : Q = MQ below (WI D post w1 w0) a s 0 0 (ad w0)) (hx : p.tables.exec = Jvm.exec) (hb : c.code = cc) (hr : meth.sig.returnType = some .int) (hlk : meth.locks = false) (hA : A = ad w0) (u : S) (hP : va_P D vwCl (w1 u) H) (hS : va_S A s.heap H locs) (hv : post v u) (hd : decode cc pc = .ok (.ireturn, 1)) : W p l e R s m a below meth c H locs 0 0 Q (F0 m pc ls [.int v]) := by
  subst hQ; subst hA
  exact W.iret hx hb hr (fun t ht hW => ⟨⟨v, u, rfl, hv, by show va_P D vwCl (w1 u) t.heap; rw [ht]; exact hP⟩, hS.F ht⟩) hS.2.2 hd hlk
theorem ret_WJ {S : Type} {post : Int64 → S → Prop} {w1 : S → va_W} {v : Int64} (hQ : Q = MQ below (WJ D post w1 w0) a s 0 0 (ad w0)) (hx : p.tables.exec = Jvm.exec) (hb : c.code = cc) (hr : meth.sig.returnType = some .long) (hlk : meth.locks = false) (hA : A = ad w0) (u : S) (hP : va_P D vwCl (w1 u) H) (hS : va_S A s.heap H locs) (hv : post v u) (hd : decode cc pc = .ok (.lreturn, 1)) : W p l e R s m a below meth c H locs 0 0 Q (F0 m pc ls [.long v]) := by
  subst hQ; subst hA
  exact W.lret hx hb hr (fun t ht hW => ⟨⟨v, u, rfl, hv, by show va_P D vwCl (w1 u) t.heap; rw [ht]; exact hP⟩, hS.F ht⟩) hS.2.2 hd hlk
theorem ret_WV {S : Type} {post : S → Prop} {w1 : S → va_W} (hQ : Q = MQ below (WV D post w1 w0) a s 0 0 (ad w0)) (hx : p.tables.exec = Jvm.exec) (hb : c.code = cc) (hr : meth.sig.returnType = none) (hlk : meth.locks = false) (hA : A = ad w0) (u : S) (hP : va_P D vwCl (w1 u) H) (hS : va_S A s.heap H locs) (hv : post u) (hd : decode cc pc = .ok (.return_, 1)) : W p l e R s m a below meth c H locs 0 0 Q (F0 m pc ls []) := by
  subst hQ; subst hA
  exact W.vret hx hb hr (fun t ht hW => ⟨⟨u, rfl, hv, by show va_P D vwCl (w1 u) t.heap; rw [ht]; exact hP⟩, hS.F ht⟩) hS.2.2 hd hlk
end MET
section NROWS
variable {p : Program} {l : Launch} {e : Env} {R : Room} {s : State} {m : MethodId} {args : Array Value} {below : List Frame} {meth : Method} {c : Code} {H : Heap} {locs : List Loc} {cells slots : Nat} {Q : State → Prop}
variable {cc : ByteArray} {pc : Nat} {ls : Array Slot} {rest : List Value} {D : va_G} {A : Nat → Prop} {a : Nat} {cI cZ : ClassId} {ws : va_W} {H0 : Heap}
theorem lv_eqr {x y : Nat} (h : x = y) (k : W p l e R s m args below meth c H locs cells slots Q (F0 m pc ls (.ref y :: rest))) : W p l e R s m args below meth c H locs cells slots Q (F0 m pc ls (.ref x :: rest)) := by rw [h]; exact k
theorem iinc_1 (i : Nat) : nI i + Int32.ofInt 1 = nI (i + 1) := nI_1 i
theorem iinc_8 (i : Nat) : nI i + Int32.ofInt 8 = nI (i + 8) := nI_add i 8
theorem iinc_5 (i : Nat) : nI i + Int32.ofInt 5 = nI (i + 5) := nI_add i 5
theorem nn_iadd (hx : p.tables.exec = Jvm.exec) (hb : c.code = cc) (hd : decode cc pc = .ok (.iadd, 1)) {x y : Nat} {x' y' : Int32} (h1 : x' = nI x) (h2 : y' = nI y) (k : W p l e R s m args below meth c H locs cells slots Q (F0 m (pc + 1) ls (.int (nI (x + y)) :: rest))) : W p l e R s m args below meth c H locs cells slots Q (F0 m pc ls (.int y' :: .int x' :: rest)) := by
  subst h1; subst h2
  refine lv_iadd hx hb hd ?_
  rw [nI_add]; exact k
theorem nn_imul (hx : p.tables.exec = Jvm.exec) (hb : c.code = cc) (hd : decode cc pc = .ok (.imul, 1)) {x y : Nat} {x' y' : Int32} (h1 : x' = nI x) (h2 : y' = nI y) (k : W p l e R s m args below meth c H locs cells slots Q (F0 m (pc + 1) ls (.int (nI (x * y)) :: rest))) : W p l e R s m args below meth c H locs cells slots Q (F0 m pc ls (.int y' :: .int x' :: rest)) := by
  subst h1; subst h2
  refine lv_imul hx hb hd ?_
  rw [pk_mul]; exact k
theorem iald_n {k n : Nat} {f : Nat → Int32} {i : Int32} (hx : p.tables.exec = Jvm.exec) (hb : c.code = cc) (hK : va_K D vwCl [(cI, .int), (cZ, .boolean)] s) (hP : va_P D vwCl ws H) (q0 : Nat) (ha : ws[q0]? = some (a, .inl (cI, n, .inl f))) (hk : k < n) (hn : n < 2 ^ 31) (hd : decode cc pc = .ok (.iaload, 1))
    (kk : W p l e R s m args below meth c H locs cells slots Q (F0 m (pc + 1) ls (.int (f k) :: rest))) (hi : i = nI k := by rfl) : W p l e R s m args below meth c H locs cells slots Q (F0 m pc ls (.int i :: .ref a :: rest)) := by
  subst hi
  refine va_iald hx hb hK hP q0 0 ha rfl (vp_in_nI hk hn) hd ?_
  rw [nI_clamp (Nat.lt_trans hk hn)]; exact kk
theorem zald_n {k n : Nat} {f : Nat → Int32} {i : Int32} (hx : p.tables.exec = Jvm.exec) (hb : c.code = cc) (hK : va_K D vwCl [(cI, .int), (cZ, .boolean)] s) (hP : va_P D vwCl ws H) (q0 : Nat) (ha : ws[q0]? = some (a, .inl (cZ, n, .inl f))) (hk : k < n) (hn : n < 2 ^ 31) (hd : decode cc pc = .ok (.baload, 1))
    (kk : W p l e R s m args below meth c H locs cells slots Q (F0 m (pc + 1) ls (.int (f k) :: rest))) (hi : i = nI k := by rfl) : W p l e R s m args below meth c H locs cells slots Q (F0 m pc ls (.int i :: .ref a :: rest)) := by
  subst hi
  refine va_zald hx hb hK hP q0 1 ha rfl (vp_in_nI hk hn) hd ?_
  rw [nI_clamp (Nat.lt_trans hk hn)]; exact kk
theorem iast_n {k n : Nat} {f : Nat → Int32} {i x : Int32} (hx : p.tables.exec = Jvm.exec) (hb : c.code = cc) (hK : va_K D vwCl [(cI, .int), (cZ, .boolean)] s) (hP : va_P D vwCl ws H) (hD : va_D A ws) (hS : va_S A H0 H locs) (q0 : Nat) (ha : ws[q0]? = some (a, .inl (cI, n, .inl f))) (hk : k < n) (hn : n < 2 ^ 31) (hd : decode cc pc = .ok (.iastore, 1))
    (kk : ∀ (H1 : Heap) (locs1 : List Loc), va_P D vwCl (ws.set q0 (a, .inl (cI, n, .inl (upd f k x)))) H1 → va_D A (ws.set q0 (a, .inl (cI, n, .inl (upd f k x)))) → va_S A H0 H1 locs1 → W p l e R s m args below meth c H1 locs1 cells slots Q (F0 m (pc + 1) ls rest)) (hi : i = nI k := by rfl) : W p l e R s m args below meth c H locs cells slots Q (F0 m pc ls (.int x :: .int i :: .ref a :: rest)) := by
  subst hi
  refine va_iast hx hb hK hP hD hS q0 0 ha rfl (vp_in_nI hk hn) hd ?_
  rw [nI_clamp (Nat.lt_trans hk hn)]; exact kk
theorem zast_n {k n : Nat} {f : Nat → Int32} {i x : Int32} (hx : p.tables.exec = Jvm.exec) (hb : c.code = cc) (hK : va_K D vwCl [(cI, .int), (cZ, .boolean)] s) (hP : va_P D vwCl ws H) (hD : va_D A ws) (hS : va_S A H0 H locs) (q0 : Nat) (ha : ws[q0]? = some (a, .inl (cZ, n, .inl f))) (hk : k < n) (hn : n < 2 ^ 31) (hd : decode cc pc = .ok (.bastore, 1))
    (kk : ∀ (H1 : Heap) (locs1 : List Loc), va_P D vwCl (ws.set q0 (a, .inl (cZ, n, .inl (upd f k (vp_nar .boolean x))))) H1 → va_D A (ws.set q0 (a, .inl (cZ, n, .inl (upd f k (vp_nar .boolean x))))) → va_S A H0 H1 locs1 → W p l e R s m args below meth c H1 locs1 cells slots Q (F0 m (pc + 1) ls rest)) (hi : i = nI k := by rfl) : W p l e R s m args below meth c H locs cells slots Q (F0 m pc ls (.int x :: .int i :: .ref a :: rest)) := by
  subst hi
  refine va_zast hx hb hK hP hD hS q0 1 ha rfl (vp_in_nI hk hn) hd ?_
  rw [nI_clamp (Nat.lt_trans hk hn)]; exact kk
end NROWS
end
section
section FUN
theorem vpin_of {i : Int32} {n : Nat} (h1 : ¬ i < 0) (h2 : ¬ nI n ≤ i) (hn : n < 2147483648) : vp_in i n := by
  obtain ⟨j, hj, rfl⟩ := nI_of h1
  have : j < n := by
    rcases Nat.lt_or_ge j n with h | h
    · exact h
    · exact absurd (nI_le h hj) h2
  exact vp_in_nI this hn
def fAt (n : Nat) (f : Nat → Int32) (i : Int32) : Int32 := if i < 0 then 0 else if nI n ≤ i then 0 else f i.toNatClampNeg
theorem fAt_in {n k : Nat} (f : Nat → Int32) (hk : k < n) (hn : n < 2147483648) : fAt n f (nI k) = f k := by
  unfold fAt
  rw [if_neg (nI_pos (Nat.lt_trans hk hn)), if_neg (nI_ge hk hn), nI_clamp (Nat.lt_trans hk hn)]
def fPut (n : Nat) (f : Nat → Int32) (i v : Int32) : Nat → Int32 := if i < 0 then f else if nI n ≤ i then f else upd f i.toNatClampNeg v
theorem fPut_in {n k : Nat} (f : Nat → Int32) (v : Int32) (hk : k < n) (hn : n < 2147483648) : fPut n f (nI k) v = upd f k v := by
  unfold fPut
  rw [if_neg (nI_pos (Nat.lt_trans hk hn)), if_neg (nI_ge hk hn), nI_clamp (Nat.lt_trans hk hn)]
def fIn (v x y : Int32) : Int32 := if v < x then 0 else if y < v then 0 else 1
def fIsPiece (x y : Int32) : Int32 := if fIn x 1 400 = 0 then 0 else if fIn y 1 100 = 0 then 0 else 1
def fQuo (x y : Int64) : Int64 := if y = 0 then 0 else x / y
def fSX (t : Int32) : Int64 := (t &&& 32767).toInt64
def fSP (t : Int32) : Int64 := fSX t * (32768 - fSX t)
def fSV (t : Int32) : Int64 := fQuo (131068 * fSP t) (1342177280 - fSP t)
def fSine (t : Int32) : Int64 := if t &&& 32768 = 0 then fSV t else -(fSV t)
def fMiss (t w : Int32) : Int32 := if t = -1 then 300 else if 0 ≤ t - w then t - w else 0 - (t - w)
def cpyF (f g : Nat → Int32) (n : Nat) : Nat → Int32 := fun j => if j < n then f j else g j
theorem cpyF_0 (f g : Nat → Int32) : cpyF f g 0 = g := by funext j; simp [cpyF]
theorem cpyF_upd (f g : Nat → Int32) (i : Nat) : upd (cpyF f g i) i (f i) = cpyF f g (i + 1) := by
  funext j
  unfold upd cpyF
  by_cases h : j = i
  · subst h; simp
  · by_cases h2 : j < i
    · rw [if_neg h, if_pos h2, if_pos (by omega)]
    · rw [if_neg h, if_neg h2, if_neg (by omega)]
theorem fMin_eq {a b : Nat} (ha : a < 2147483648) (hb : b < 2147483648) : (if nI b < nI a then nI b else nI a) = nI (min a b) := by
  by_cases h : b < a
  · rw [if_pos (nI_lt h ha), Nat.min_eq_right (Nat.le_of_lt h)]
  · rw [if_neg (nI_nlt (Nat.le_of_not_lt h) hb), Nat.min_eq_left (Nat.le_of_not_lt h)]
def fRowD0 (na nb : Nat) : Int32 := (if nI na < nI nb then nI nb else nI na) - nI (min na nb)
def fDiff (f g : Nat → Int32) : Nat → Nat → Int32 → Int32
  | 0, _, z => z
  | r + 1, i, z => if f i = g i then fDiff f g r (i + 1) z else fDiff f g r (i + 1) (z + 1)
def fRowD (f g : Nat → Int32) (na nb : Nat) : Int32 := fDiff f g (min na nb) 0 (fRowD0 na nb)
def fSum (ln : Nat → Int32) : Nat → Nat → Int32 → Int32
  | 0, _, z => z
  | r + 1, i, z => fSum ln r (i + 1) (z + ln i)
def fPieceAt (ln : Nat → Int32) (v : Int32) : Nat → Nat → Int32 → Int32
  | 0, _, _ => -1
  | r + 1, i, z => if z + ln i < v then fPieceAt ln v r (i + 1) (z + ln i) else nI i
def fHoleAt (pl : Nat → Int32) (v : Int32) : Nat → Nat → Int32
  | 0, _ => -1
  | r + 1, i => if pl i = v then nI i else fHoleAt pl v r (i + 1)
def fBefore (pl : Nat → Int32) (v : Int32) : Nat → Nat → Int32 → Int32
  | 0, _, z => z
  | r + 1, i, z => if v ≤ pl i then fBefore pl v r (i + 1) z else fBefore pl v r (i + 1) (z + 1)
def fLast (pl : Nat → Int32) (v : Int32) : Nat → Nat → Int32 → Int32
  | 0, _, z => z
  | r + 1, i, z => if v ≤ pl i then fLast pl v r (i + 1) z else fLast pl v r (i + 1) (if z < pl i then pl i else z)
def fGapD (pl : Nat → Int32) (k : Nat) (w : Int32) (i : Nat) : Int32 := (pl i - pl k) * w
def fGap (pl : Nat → Int32) (k : Nat) (w : Int32) : Nat → Nat → Int32 → Int32
  | 0, _, z => z
  | r + 1, i, z => if fGapD pl k w i ≤ 0 then fGap pl k w r (i + 1) z else if z = 0 then fGap pl k w r (i + 1) (fGapD pl k w i) else if z ≤ fGapD pl k w i then fGap pl k w r (i + 1) z else fGap pl k w r (i + 1) (fGapD pl k w i)
def fRowOf (a b c : Nat) (v : Int32) : Nat := if v = 0 then a else if v = 1 then b else c
end FUN
end
section
abbrev rmX0_none : Room := { frames := 0, cells := 0, slots := 0, locals := 0 }
abbrev rmX0_take : Room := { frames := 0, cells := 0, slots := 0, locals := 0 }
abbrev rmX1_add : Room := { frames := 1, cells := 0, slots := 0, locals := 22 }
abbrev rmX2_empty : Room := { frames := 0, cells := 0, slots := 0, locals := 0 }
abbrev rmX2_addPiece : Room := { frames := 1, cells := 0, slots := 0, locals := 22 }
abbrev rmX2_addHole : Room := { frames := 1, cells := 0, slots := 0, locals := 22 }
abbrev rmX2_rowOf : Room := { frames := 0, cells := 0, slots := 0, locals := 0 }
abbrev rmX2_ofHole : Room := { frames := 1, cells := 0, slots := 0, locals := 21 }
abbrev rmX2_changeHole : Room := { frames := 1, cells := 0, slots := 0, locals := 22 }
abbrev rmX2_startOf : Room := { frames := 1, cells := 0, slots := 0, locals := 21 }
abbrev rmX2_wholeLength : Room := { frames := 2, cells := 0, slots := 0, locals := 44 }
abbrev rmX2_pieceAt : Room := { frames := 1, cells := 0, slots := 0, locals := 21 }
abbrev rmX2_holeAt : Room := { frames := 1, cells := 0, slots := 0, locals := 21 }
abbrev rmX2_holesBefore : Room := { frames := 1, cells := 0, slots := 0, locals := 21 }
abbrev rmX2_lastHoleBefore : Room := { frames := 1, cells := 0, slots := 0, locals := 22 }
abbrev rmX2_gap : Room := { frames := 1, cells := 0, slots := 0, locals := 21 }
abbrev rmX2_copy : Room := { frames := 2, cells := 0, slots := 0, locals := 44 }
abbrev rmX2_differences : Room := { frames := 2, cells := 0, slots := 0, locals := 48 }
abbrev rmX4_cutUp : Room := { frames := 3, cells := 0, slots := 0, locals := 64 }
abbrev rmX4_worthOf : Room := { frames := 2, cells := 0, slots := 0, locals := 49 }
abbrev rmX4_isOpen : Room := { frames := 1, cells := 0, slots := 0, locals := 21 }
abbrev rmX4_shiftFor : Room := { frames := 1, cells := 0, slots := 0, locals := 21 }
abbrev rmX4_isTooBig : Room := { frames := 0, cells := 0, slots := 0, locals := 0 }
abbrev rmX4_findTone : Room := { frames := 3, cells := 0, slots := 0, locals := 90 }
abbrev rmX5_piece : Room := { frames := 3, cells := 0, slots := 0, locals := 64 }
abbrev rmX5_cone : Room := { frames := 3, cells := 0, slots := 0, locals := 64 }
abbrev rmX5_hole : Room := { frames := 4, cells := 0, slots := 0, locals := 86 }
abbrev rmX5_set : Room := { frames := 4, cells := 0, slots := 0, locals := 86 }
abbrev rmX5_end : Room := { frames := 1, cells := 0, slots := 0, locals := 22 }
abbrev rmX5_clear : Room := { frames := 1, cells := 0, slots := 0, locals := 20 }
abbrev rmX5_told : Room := { frames := 1, cells := 0, slots := 0, locals := 22 }
abbrev rmX5_bored : Room := { frames := 2, cells := 0, slots := 0, locals := 44 }
abbrev rmX5_count : Room := { frames := 5, cells := 0, slots := 0, locals := 142 }
abbrev rmX5_sine : Room := { frames := 2, cells := 0, slots := 0, locals := 49 }
abbrev rmX5_worth : Room := { frames := 4, cells := 0, slots := 0, locals := 90 }
abbrev rmX5_tone : Room := { frames := 4, cells := 0, slots := 0, locals := 116 }
abbrev rmX5_nearest : Room := { frames := 4, cells := 0, slots := 0, locals := 116 }
abbrev rmX5_note : Room := { frames := 2, cells := 0, slots := 0, locals := 45 }
abbrev rmX5_noted : Room := { frames := 5, cells := 0, slots := 0, locals := 137 }
abbrev rmX5_drill : Room := { frames := 1, cells := 0, slots := 0, locals := 22 }
abbrev rmX5_reach : Room := { frames := 1, cells := 0, slots := 0, locals := 22 }
abbrev rmX5_round : Room := { frames := 6, cells := 0, slots := 0, locals := 167 }
abbrev rmX5_keep : Room := { frames := 3, cells := 0, slots := 0, locals := 65 }
abbrev rmX5_back : Room := { frames := 3, cells := 0, slots := 0, locals := 65 }
abbrev rmX5_differs : Room := { frames := 3, cells := 0, slots := 0, locals := 69 }
abbrev rmX5_shelfOf : Room := { frames := 0, cells := 0, slots := 0, locals := 0 }
abbrev rmX5_within : Room := { frames := 0, cells := 0, slots := 0, locals := 0 }
abbrev rmX5_isPiece : Room := { frames := 1, cells := 0, slots := 0, locals := 22 }
abbrev rmX5_mayBe : Room := { frames := 3, cells := 0, slots := 0, locals := 64 }
abbrev rmX5_toneNow : Room := { frames := 4, cells := 0, slots := 0, locals := 116 }
abbrev rmX5_missOf : Room := { frames := 1, cells := 0, slots := 0, locals := 22 }
abbrev rmX5_rank : Room := { frames := 4, cells := 0, slots := 0, locals := 116 }
abbrev rmX5_tryMove : Room := { frames := 5, cells := 0, slots := 0, locals := 142 }
abbrev rmX5_placeMoved : Room := { frames := 4, cells := 0, slots := 0, locals := 86 }
abbrev rmX5_nextSize : Room := { frames := 1, cells := 0, slots := 0, locals := 22 }
abbrev rmX5_quotient : Room := { frames := 0, cells := 0, slots := 0, locals := 0 }
abbrev rmX5_sineOf : Room := { frames := 1, cells := 0, slots := 0, locals := 23 }
abbrev rmX5_at : Room := { frames := 0, cells := 0, slots := 0, locals := 0 }
abbrev rmX5_put : Room := { frames := 0, cells := 0, slots := 0, locals := 0 }
abbrev rmX5_copyRow : Room := { frames := 1, cells := 0, slots := 0, locals := 22 }
abbrev rmX5_rowDifferences : Room := { frames := 1, cells := 0, slots := 0, locals := 22 }
abbrev rmX6_in : Room := { frames := 0, cells := 0, slots := 0, locals := 0 }
abbrev rmX6_whole : Room := { frames := 0, cells := 0, slots := 0, locals := 0 }
abbrev rmX6_add : Room := { frames := 0, cells := 0, slots := 0, locals := 0 }
abbrev rmX6_piece : Room := { frames := 1, cells := 0, slots := 0, locals := 25 }
abbrev rmX6_cone : Room := { frames := 1, cells := 0, slots := 0, locals := 25 }
abbrev rmX6_fits : Room := { frames := 1, cells := 0, slots := 0, locals := 25 }
abbrev rmX6_holeAt : Room := { frames := 0, cells := 0, slots := 0, locals := 0 }
abbrev rmX6_hole : Room := { frames := 2, cells := 0, slots := 0, locals := 47 }
abbrev rmX6_isHole : Room := { frames := 1, cells := 0, slots := 0, locals := 25 }
abbrev rmX6_set : Room := { frames := 2, cells := 0, slots := 0, locals := 47 }
abbrev rmX6_end : Room := { frames := 1, cells := 0, slots := 0, locals := 25 }
abbrev rmX6_clear : Room := { frames := 0, cells := 0, slots := 0, locals := 0 }
abbrev rmX6_told : Room := { frames := 1, cells := 0, slots := 0, locals := 25 }
abbrev rmX6_pieceOf : Room := { frames := 0, cells := 0, slots := 0, locals := 0 }
abbrev rmX6_bored : Room := { frames := 2, cells := 0, slots := 0, locals := 46 }
abbrev rmX6_drillMany : Room := { frames := 0, cells := 0, slots := 0, locals := 0 }
abbrev rmX6_count : Room := { frames := 5, cells := 0, slots := 0, locals := 139 }
abbrev rmX6_sineOf : Room := { frames := 0, cells := 0, slots := 0, locals := 0 }
abbrev rmX6_sine : Room := { frames := 1, cells := 0, slots := 0, locals := 26 }
abbrev rmX6_nextPlace : Room := { frames := 0, cells := 0, slots := 0, locals := 0 }
abbrev rmX6_isLarge : Room := { frames := 0, cells := 0, slots := 0, locals := 0 }
abbrev rmX6_worthOf : Room := { frames := 1, cells := 0, slots := 0, locals := 26 }
abbrev rmX6_isSet : Room := { frames := 1, cells := 0, slots := 0, locals := 25 }
abbrev rmX6_worth : Room := { frames := 2, cells := 0, slots := 0, locals := 68 }
abbrev rmX6_toneOf : Room := { frames := 2, cells := 0, slots := 0, locals := 68 }
abbrev rmX6_tone : Room := { frames := 3, cells := 0, slots := 0, locals := 93 }
abbrev rmX6_nearest : Room := { frames := 3, cells := 0, slots := 0, locals := 93 }
abbrev rmX6_note : Room := { frames := 2, cells := 0, slots := 0, locals := 45 }
abbrev rmX6_missOf : Room := { frames := 3, cells := 0, slots := 0, locals := 93 }
abbrev rmX6_noted : Room := { frames := 4, cells := 0, slots := 0, locals := 116 }
abbrev rmX6_greatest : Room := { frames := 4, cells := 0, slots := 0, locals := 116 }
abbrev rmX6_sumOfMisses : Room := { frames := 4, cells := 0, slots := 0, locals := 116 }
abbrev rmX6_badness : Room := { frames := 4, cells := 0, slots := 0, locals := 116 }
abbrev rmX6_drill : Room := { frames := 1, cells := 0, slots := 0, locals := 25 }
abbrev rmX6_reach : Room := { frames := 1, cells := 0, slots := 0, locals := 25 }
abbrev rmX6_beside : Room := { frames := 0, cells := 0, slots := 0, locals := 0 }
abbrev rmX6_mayPlace : Room := { frames := 2, cells := 0, slots := 0, locals := 47 }
abbrev rmX6_moved : Room := { frames := 3, cells := 0, slots := 0, locals := 72 }
abbrev rmX6_round : Room := { frames := 5, cells := 0, slots := 0, locals := 140 }
abbrev rmX6_keep : Room := { frames := 1, cells := 0, slots := 0, locals := 25 }
abbrev rmX6_back : Room := { frames := 1, cells := 0, slots := 0, locals := 25 }
abbrev rmX6_unlike : Room := { frames := 0, cells := 0, slots := 0, locals := 0 }
abbrev rmX6_differs : Room := { frames := 1, cells := 0, slots := 0, locals := 25 }
abbrev rmJ13_bitCount_95d88 : Room := { frames := 0, cells := 0, slots := 0, locals := 0 }
end
section
set_option maxHeartbeats 4000000 in
set_option maxRecDepth 100000 in
/-- at: the place, 0 outside -/
theorem c_X5_at (l : Launch) (D : va_G) (cI cZ : ClassId) (q0 : Nat) (n : Nat) (f : Nat → Int32) (i : Int32) (hn : n < 2147483648) : Met l yX5_at wsX5_at rmX5_at (va_Pc [.ref q0, .int i] (PR D cI cZ [(q0, .inl (cI, n, .inl f))])) (RI (fAt n f i)) 0 0 nA := by
  refine met_go (cc := cX5_at) (maxL := 2) (ret := (some .int)) (by decide) rfl ?_ (Nat.le_of_ble_eq_true rfl)
  intro p e s m a below meth c Q hQ _ hx hb hr hml hts hown hlk hnm hpre ls hl
  have hown : s.vm.findClass RX5 = some m.cls := hown
  obtain ⟨hP, hK⟩ := hpre
  have hN := hK.2
  have hS : va_S nA s.heap s.heap [] := va_S.rf
  have hl : lv_has ls 2 [(0, .ref q0), (1, .int i)] := hl
  refine lv_iload_n hx hb dX5_at_0 rfl (lv_at hl 1 rfl) ?_
  refine lv_if_lt (tgt := 16) hx hb dX5_at_1 (by decide) (fun c1 => ?_) (fun c1 => ?_)
  · skip
    refine lv_iconst (v := 0) hx hb dX5_at_16 (by decide) ?_
    exact ret_RI hQ hx hb hr hlk hS (show fAt n f i = 0 from (by first | with_reducible rfl | simp only [fAt, if_pos c1] | simp [fAt, if_pos c1])).symm dX5_at_17
  · skip
    refine lv_iload_n hx hb dX5_at_4 rfl (lv_at hl 1 rfl) ?_
    refine lv_aload_n hx hb dX5_at_5 rfl (lv_at hl 0 rfl) ?_
    refine va_alen hx hb hK.1 hP 0 0 (v := nI n) rfl rfl rfl dX5_at_6 ?_
    refine lv_icmp_ge (tgt := 16) hx hb dX5_at_7 (by decide) (fun c2 => ?_) (fun c2 => ?_)
    · skip
      refine lv_iconst (v := 0) hx hb dX5_at_16 (by decide) ?_
      exact ret_RI hQ hx hb hr hlk hS (show fAt n f i = 0 from (by first | with_reducible rfl | simp only [fAt, if_neg c1, if_pos c2] | simp [fAt, if_neg c1, if_pos c2])).symm dX5_at_17
    · skip
      refine lv_aload_n hx hb dX5_at_10 rfl (lv_at hl 0 rfl) ?_
      refine lv_iload_n hx hb dX5_at_11 rfl (lv_at hl 1 rfl) ?_
      refine va_iald hx hb hK.1 hP 0 0 rfl rfl (vpin_of c1 c2 hn) dX5_at_12 ?_
      refine lv_goto (tgt := 17) hx hb dX5_at_13 (by decide) ?_
      exact ret_RI hQ hx hb hr hlk hS (show fAt n f i = f i.toNatClampNeg from (by first | with_reducible rfl | simp only [fAt, if_neg c1, if_neg c2] | simp [fAt, if_neg c1, if_neg c2])).symm dX5_at_17

theorem c_X5_at_in (l : Launch) (D : va_G) (cI cZ : ClassId) (q0 n : Nat) (f : Nat → Int32) (k : Nat) (hk : k < n) (hn : n < 2147483648) : Met l yX5_at wsX5_at rmX5_at (va_Pc [.ref q0, .int (nI k)] (PR D cI cZ [(q0, .inl (cI, n, .inl f))])) (RI (f k)) 0 0 nA := by
  have h := c_X5_at l D cI cZ q0 n f (nI k) hn
  rwa [fAt_in f hk hn] at h

set_option maxHeartbeats 4000000 in
set_option maxRecDepth 100000 in
/-- put -/
theorem c_X5_put (l : Launch) (D : va_G) (cI cZ : ClassId) (q0 : Nat) (n : Nat) (f : Nat → Int32) (i : Int32) (v : Int32) (hn : n < 2147483648) : Met l yX5_put wsX5_put rmX5_put (va_Pc [.ref q0, .int i, .int v] (PW D cI cZ [(q0, .inl (cI, n, .inl f))])) (WV (S := Unit) D (fun _ => True) (fun _ => [(q0, .inl (cI, n, .inl (fPut n f i v)))]) [(q0, .inl (cI, n, .inl f))]) 0 0 (ad [(q0, .inl (cI, n, .inl f))]) := by
  refine met_go (cc := cX5_put) (maxL := 3) (ret := none) (by decide) rfl ?_ (Nat.le_of_ble_eq_true rfl)
  intro p e s m a below meth c Q hQ _ hx hb hr hml hts hown hlk hnm hpre ls hl
  have hown : s.vm.findClass RX5 = some m.cls := hown
  obtain ⟨hP, hK, hD0⟩ := hpre
  have hN := hK.2
  obtain ⟨A, hAe⟩ : ∃ A : Nat → Prop, A = ad [(q0, .inl (cI, n, .inl f))] := ⟨_, rfl⟩
  have hD : va_D A [(q0, .inl (cI, n, .inl f))] := by rw [hAe]; exact hD0.ad
  have hS : va_S A s.heap s.heap [] := va_S.rf
  have hl : lv_has ls 3 [(0, .ref q0), (1, .int i), (2, .int v)] := hl
  refine lv_iload_n hx hb dX5_put_0 rfl (lv_at hl 1 rfl) ?_
  refine lv_if_lt (tgt := 14) hx hb dX5_put_1 (by decide) (fun c1 => ?_) (fun c1 => ?_)
  · skip
    exact ret_WV hQ hx hb hr hlk hAe () (by show va_P D vwCl [(q0, .inl (cI, n, .inl (fPut n f i v)))] s.heap; rw [show fPut n f i v = f from (by first | with_reducible rfl | simp only [fPut, if_pos c1] | simp [fPut, if_pos c1])]; exact hP) hS trivial dX5_put_14
  · skip
    refine lv_iload_n hx hb dX5_put_4 rfl (lv_at hl 1 rfl) ?_
    refine lv_aload_n hx hb dX5_put_5 rfl (lv_at hl 0 rfl) ?_
    refine va_alen hx hb hK.1 hP 0 0 (v := nI n) rfl rfl rfl dX5_put_6 ?_
    refine lv_icmp_ge (tgt := 14) hx hb dX5_put_7 (by decide) (fun c2 => ?_) (fun c2 => ?_)
    · skip
      exact ret_WV hQ hx hb hr hlk hAe () (by show va_P D vwCl [(q0, .inl (cI, n, .inl (fPut n f i v)))] s.heap; rw [show fPut n f i v = f from (by first | with_reducible rfl | simp only [fPut, if_neg c1, if_pos c2] | simp [fPut, if_neg c1, if_pos c2])]; exact hP) hS trivial dX5_put_14
    · skip
      refine lv_aload_n hx hb dX5_put_10 rfl (lv_at hl 0 rfl) ?_
      refine lv_iload_n hx hb dX5_put_11 rfl (lv_at hl 1 rfl) ?_
      refine lv_iload_n hx hb dX5_put_12 rfl (lv_at hl 2 rfl) ?_
      refine va_iast hx hb hK.1 hP hD hS 0 0 rfl rfl (vpin_of c1 c2 hn) dX5_put_13 (fun H locs hP hD hS => ?_)
      have hP : va_P D vwCl [(q0, .inl (cI, n, .inl (upd f i.toNatClampNeg v)))] H := hP
      have hD : va_D A [(q0, .inl (cI, n, .inl (upd f i.toNatClampNeg v)))] := hD
      exact ret_WV hQ hx hb hr hlk hAe () (by show va_P D vwCl [(q0, .inl (cI, n, .inl (fPut n f i v)))] H; rw [show fPut n f i v = upd f i.toNatClampNeg v from (by first | with_reducible rfl | simp only [fPut, if_neg c1, if_neg c2] | simp [fPut, if_neg c1, if_neg c2])]; exact hP) hS trivial dX5_put_14

theorem c_X5_put_in (l : Launch) (D : va_G) (cI cZ : ClassId) (q0 n : Nat) (f : Nat → Int32) (k : Nat) (v : Int32) (hk : k < n) (hn : n < 2147483648) : Met l yX5_put wsX5_put rmX5_put (va_Pc [.ref q0, .int (nI k), .int v] (PW D cI cZ [(q0, .inl (cI, n, .inl f))])) (WV (S := Unit) D (fun _ => True) (fun _ => [(q0, .inl (cI, n, .inl (upd f k v)))]) [(q0, .inl (cI, n, .inl f))]) 0 0 (ad [(q0, .inl (cI, n, .inl f))]) := by
  have h := c_X5_put l D cI cZ q0 n f (nI k) v hn
  rwa [fPut_in f v hk hn] at h

set_option maxHeartbeats 4000000 in
set_option maxRecDepth 100000 in
theorem c_X5_within (l : Launch) (D : va_G) (cI cZ : ClassId) (v : Int32) (x : Int32) (y : Int32)  : Met l yX5_within wsX5_within rmX5_within (va_Pc [.int v, .int x, .int y] (PR D cI cZ [])) (RI (fIn v x y)) 0 0 nA := by
  refine met_go (cc := cX5_within) (maxL := 3) (ret := (some .boolean)) (by decide) rfl ?_ (Nat.le_of_ble_eq_true rfl)
  intro p e s m a below meth c Q hQ _ hx hb hr hml hts hown hlk hnm hpre ls hl
  have hown : s.vm.findClass RX5 = some m.cls := hown
  obtain ⟨hP, hK⟩ := hpre
  have hN := hK.2
  have hS : va_S nA s.heap s.heap [] := va_S.rf
  have hl : lv_has ls 3 [(0, .int v), (1, .int x), (2, .int y)] := hl
  refine lv_iload_n hx hb dX5_within_0 rfl (lv_at hl 0 rfl) ?_
  refine lv_iload_n hx hb dX5_within_1 rfl (lv_at hl 1 rfl) ?_
  refine lv_icmp_lt (tgt := 14) hx hb dX5_within_2 (by decide) (fun c1 => ?_) (fun c1 => ?_)
  · skip
    refine lv_iconst (v := 0) hx hb dX5_within_14 (by decide) ?_
    exact ret_RZ hQ hx hb hr rfl hlk hS (show fIn v x y = 0 from (by first | with_reducible rfl | simp only [fIn, if_pos c1] | simp [fIn, if_pos c1])).symm dX5_within_15
  · skip
    refine lv_iload_n hx hb dX5_within_5 rfl (lv_at hl 0 rfl) ?_
    refine lv_iload_n hx hb dX5_within_6 rfl (lv_at hl 2 rfl) ?_
    refine lv_icmp_gt (tgt := 14) hx hb dX5_within_7 (by decide) (fun c2 => ?_) (fun c2 => ?_)
    · skip
      refine lv_iconst (v := 0) hx hb dX5_within_14 (by decide) ?_
      exact ret_RZ hQ hx hb hr rfl hlk hS (show fIn v x y = 0 from (by first | with_reducible rfl | simp only [fIn, if_neg c1, if_pos c2] | simp [fIn, if_neg c1, if_pos c2])).symm dX5_within_15
    · skip
      refine lv_iconst (v := 1) hx hb dX5_within_10 (by decide) ?_
      refine lv_goto (tgt := 15) hx hb dX5_within_11 (by decide) ?_
      exact ret_RZ hQ hx hb hr rfl hlk hS (show fIn v x y = 1 from (by first | with_reducible rfl | simp only [fIn, if_neg c1, if_neg c2] | simp [fIn, if_neg c1, if_neg c2])).symm dX5_within_15

set_option maxHeartbeats 4000000 in
set_option maxRecDepth 100000 in
theorem c_X5_isPiece (l : Launch) (D : va_G) (cI cZ : ClassId) (x : Int32) (y : Int32)  : Met l yX5_isPiece wsX5_isPiece rmX5_isPiece (va_Pc [.int x, .int y] (PR D cI cZ [])) (RI (fIsPiece x y)) 0 0 nA := by
  refine met_go (cc := cX5_isPiece) (maxL := 2) (ret := (some .boolean)) (by decide) rfl ?_ (Nat.le_of_ble_eq_true rfl)
  intro p e s m a below meth c Q hQ _ hx hb hr hml hts hown hlk hnm hpre ls hl
  have hown : s.vm.findClass RX5 = some m.cls := hown
  obtain ⟨hP, hK⟩ := hpre
  have hN := hK.2
  have hS : va_S nA s.heap s.heap [] := va_S.rf
  have hl : lv_has ls 2 [(0, .int x), (1, .int y)] := hl
  refine lv_iload_n hx hb dX5_isPiece_0 rfl (lv_at hl 0 rfl) ?_
  refine lv_iconst (v := 1) hx hb dX5_isPiece_1 (by decide) ?_
  refine lv_sipush (v := 400) hx hb dX5_isPiece_2 (by decide) ?_
  refine rd_i (va_runS (As := [.int x, .int 1, .int 400]) (rest := []) ⟨hx, hb, hml, hown, hts⟩ (c_X5_within l D cI cZ x 1 400) (va_cwS 3 hts gX5_isPiece_X5_within rfl rfl rfl (by decide +kernel) ⟨Nat.le_of_ble_eq_true rfl, Nat.le_of_ble_eq_true rfl⟩) (PR.S (hP.sub [] rfl) hK) rfl rfl hl.1 rfl (lv_room (Nat.le_of_ble_eq_true rfl)) dX5_isPiece_5 ⟨Nat.le_of_ble_eq_true rfl, Nat.le_of_ble_eq_true rfl⟩) hP hS (fun H locs hP hS => ?_)
  refine lv_if_eq (tgt := 25) hx hb dX5_isPiece_8 (by decide) (fun c1 => ?_) (fun c1 => ?_)
  · skip
    refine lv_iconst (v := 0) hx hb dX5_isPiece_25 (by decide) ?_
    exact ret_RZ hQ hx hb hr rfl hlk hS (show fIsPiece x y = 0 from (by first | with_reducible rfl | simp only [fIsPiece, if_pos c1] | simp [fIsPiece, if_pos c1])).symm dX5_isPiece_26
  · skip
    refine lv_iload_n hx hb dX5_isPiece_11 rfl (lv_at hl 1 rfl) ?_
    refine lv_iconst (v := 1) hx hb dX5_isPiece_12 (by decide) ?_
    refine lv_bipush (v := 100) hx hb dX5_isPiece_13 (by decide) ?_
    refine rd_i (va_runS (As := [.int y, .int 1, .int 100]) (rest := []) ⟨hx, hb, hml, hown, hts⟩ (c_X5_within l D cI cZ y 1 100) (va_cwS 3 hts gX5_isPiece_X5_within rfl rfl rfl (by decide +kernel) ⟨Nat.le_of_ble_eq_true rfl, Nat.le_of_ble_eq_true rfl⟩) (PR.S (hP.sub [] rfl) hK) rfl rfl hl.1 rfl (lv_room (Nat.le_of_ble_eq_true rfl)) dX5_isPiece_15 ⟨Nat.le_of_ble_eq_true rfl, Nat.le_of_ble_eq_true rfl⟩) hP hS (fun H locs hP hS => ?_)
    refine lv_if_eq (tgt := 25) hx hb dX5_isPiece_18 (by decide) (fun c2 => ?_) (fun c2 => ?_)
    · skip
      refine lv_iconst (v := 0) hx hb dX5_isPiece_25 (by decide) ?_
      exact ret_RZ hQ hx hb hr rfl hlk hS (show fIsPiece x y = 0 from (by first | with_reducible rfl | simp only [fIsPiece, if_neg c1, if_pos c2] | simp [fIsPiece, if_neg c1, if_pos c2])).symm dX5_isPiece_26
    · skip
      refine lv_iconst (v := 1) hx hb dX5_isPiece_21 (by decide) ?_
      refine lv_goto (tgt := 26) hx hb dX5_isPiece_22 (by decide) ?_
      exact ret_RZ hQ hx hb hr rfl hlk hS (show fIsPiece x y = 1 from (by first | with_reducible rfl | simp only [fIsPiece, if_neg c1, if_neg c2] | simp [fIsPiece, if_neg c1, if_neg c2])).symm dX5_isPiece_26

set_option maxHeartbeats 4000000 in
set_option maxRecDepth 100000 in
theorem c_X5_quotient (l : Launch) (D : va_G) (cI cZ : ClassId) (x : Int64) (y : Int64)  : Met l yX5_quotient wsX5_quotient rmX5_quotient (va_Pc [.long x, .long y] (PR D cI cZ [])) (RJ (fQuo x y)) 0 0 nA := by
  refine met_go (cc := cX5_quotient) (maxL := 4) (ret := (some .long)) (by decide) rfl ?_ (Nat.le_of_ble_eq_true rfl)
  intro p e s m a below meth c Q hQ _ hx hb hr hml hts hown hlk hnm hpre ls hl
  have hown : s.vm.findClass RX5 = some m.cls := hown
  obtain ⟨hP, hK⟩ := hpre
  have hN := hK.2
  have hS : va_S nA s.heap s.heap [] := va_S.rf
  have hl : lv_has ls 4 [(0, .long x), (2, .long y)] := hl
  refine lv_lload_n hx hb dX5_quotient_0 rfl (lv_at hl 1 rfl) ?_
  refine lv_lconst (v := 0) hx hb dX5_quotient_1 (by decide) ?_
  refine W.lcmp hx hb dX5_quotient_2 ?_
  refine lv_if_ne (tgt := 10) hx hb dX5_quotient_3 (by decide) (fun c1 => ?_) (fun c1 => ?_)
  · skip
    have c1 : ¬ (y = 0) := fun h9 => c1 ((lg_cmp_eq y 0).mpr h9)
    refine lv_lload_n hx hb dX5_quotient_10 rfl (lv_at hl 0 rfl) ?_
    refine lv_lload_n hx hb dX5_quotient_11 rfl (lv_at hl 1 rfl) ?_
    refine lv_ldiv hx hb dX5_quotient_12 c1 ?_
    exact ret_RJ hQ hx hb hr hlk hS (show fQuo x y = x / y from (by first | with_reducible rfl | simp only [fQuo, if_neg c1] | simp [fQuo, if_neg c1])).symm dX5_quotient_13
  · skip
    have c1 : y = 0 := (lg_cmp_eq y 0).mp c1
    refine lv_lconst (v := 0) hx hb dX5_quotient_6 (by decide) ?_
    refine lv_goto (tgt := 13) hx hb dX5_quotient_7 (by decide) ?_
    exact ret_RJ hQ hx hb hr hlk hS (show fQuo x y = 0 from (by first | with_reducible rfl | simp only [fQuo, if_pos c1] | simp [fQuo, if_pos c1])).symm dX5_quotient_13

set_option maxHeartbeats 4000000 in
set_option maxRecDepth 100000 in
theorem c_X5_sineOf (l : Launch) (D : va_G) (cI cZ : ClassId) (t : Int32)  : Met l yX5_sineOf wsX5_sineOf rmX5_sineOf (va_Pc [.int t] (PR D cI cZ [])) (RJ (fSine t)) 0 0 nA := by
  refine met_go (cc := cX5_sineOf) (maxL := 7) (ret := (some .long)) (by decide) rfl ?_ (Nat.le_of_ble_eq_true rfl)
  intro p e s m a below meth c Q hQ _ hx hb hr hml hts hown hlk hnm hpre ls hl
  have hown : s.vm.findClass RX5 = some m.cls := hown
  obtain ⟨hP, hK⟩ := hpre
  have hN := hK.2
  have hS : va_S nA s.heap s.heap [] := va_S.rf
  have hl : lv_has ls 7 [(0, .int t)] := hl
  refine lv_iload_n hx hb dX5_sineOf_0 rfl (lv_at hl 0 rfl) ?_
  refine lv_sipush (v := 32767) hx hb dX5_sineOf_1 (by decide) ?_
  refine lv_iand hx hb dX5_sineOf_4 ?_
  refine lv_i2l hx hb dX5_sineOf_5 rfl ?_
  refine lv_eqj rfl ?_
  refine lv_lstore_n (lv' := [(1, .long (fSX t)), (0, .int t)]) hx hb dX5_sineOf_6 rfl hl (by decide) rfl (fun ls hl => ?_)
  refine lv_lload_n hx hb dX5_sineOf_7 rfl (lv_at hl 0 rfl) ?_
  refine lv_ldc2 hx hb hown (hts (.constantLong RX5 248 (32768)) (by decide +kernel)) dX5_sineOf_8 ?_
  refine lv_lload_n hx hb dX5_sineOf_11 rfl (lv_at hl 0 rfl) ?_
  refine lv_lsub hx hb dX5_sineOf_12 ?_
  refine lv_lmul hx hb dX5_sineOf_13 ?_
  refine lv_eqj rfl ?_
  refine lv_lstore_n (lv' := [(3, .long (fSP t)), (1, .long (fSX t)), (0, .int t)]) hx hb dX5_sineOf_14 rfl hl (by decide) rfl (fun ls hl => ?_)
  refine lv_ldc2 hx hb hown (hts (.constantLong RX5 250 (131068)) (by decide +kernel)) dX5_sineOf_15 ?_
  refine lv_lload_n hx hb dX5_sineOf_18 rfl (lv_at hl 0 rfl) ?_
  refine lv_lmul hx hb dX5_sineOf_19 ?_
  refine lv_ldc2 hx hb hown (hts (.constantLong RX5 252 (1342177280)) (by decide +kernel)) dX5_sineOf_20 ?_
  refine lv_lload_n hx hb dX5_sineOf_23 rfl (lv_at hl 0 rfl) ?_
  refine lv_lsub hx hb dX5_sineOf_24 ?_
  refine rd_l (va_runS (As := [.long (131068 * (fSP t)), .long (1342177280 - (fSP t))]) (rest := []) ⟨hx, hb, hml, hown, hts⟩ (c_X5_quotient l D cI cZ (131068 * (fSP t)) (1342177280 - (fSP t))) (va_cwS 2 hts gX5_sineOf_X5_quotient rfl rfl rfl (by decide +kernel) ⟨Nat.le_of_ble_eq_true rfl, Nat.le_of_ble_eq_true rfl⟩) (PR.S (hP.sub [] rfl) hK) rfl rfl hl.1 rfl (lv_room (Nat.le_of_ble_eq_true rfl)) dX5_sineOf_25 ⟨Nat.le_of_ble_eq_true rfl, Nat.le_of_ble_eq_true rfl⟩) hP hS (fun H locs hP hS => ?_)
  refine lv_eqj rfl ?_
  refine lv_lstore (lv' := [(5, .long (fSV t)), (3, .long (fSP t)), (1, .long (fSX t)), (0, .int t)]) hx hb dX5_sineOf_28 hl (by decide) rfl (fun ls hl => ?_)
  refine lv_iload_n hx hb dX5_sineOf_30 rfl (lv_at hl 3 rfl) ?_
  refine lv_ldc hx hb hown (hts (.constant RX5 254 (32768)) (by decide +kernel)) dX5_sineOf_31 ?_
  refine lv_iand hx hb dX5_sineOf_33 ?_
  refine lv_if_ne (tgt := 42) hx hb dX5_sineOf_34 (by decide) (fun c1 => ?_) (fun c1 => ?_)
  · skip
    refine lv_lload hx hb dX5_sineOf_42 (lv_at hl 0 rfl) ?_
    refine lv_lneg hx hb dX5_sineOf_44 ?_
    exact ret_RJ hQ hx hb hr hlk hS (show fSine t = -(fSV t) from (by first | with_reducible rfl | simp only [fSine, if_neg c1] | simp [fSine, if_neg c1])).symm dX5_sineOf_45
  · skip
    refine lv_lload hx hb dX5_sineOf_37 (lv_at hl 0 rfl) ?_
    refine lv_goto (tgt := 45) hx hb dX5_sineOf_39 (by decide) ?_
    exact ret_RJ hQ hx hb hr hlk hS (show fSine t = fSV t from (by first | with_reducible rfl | simp only [fSine, if_pos c1] | simp [fSine, if_pos c1])).symm dX5_sineOf_45

set_option maxHeartbeats 4000000 in
set_option maxRecDepth 100000 in
theorem c_X5_missOf (l : Launch) (D : va_G) (cI cZ : ClassId) (t : Int32) (w : Int32)  : Met l yX5_missOf wsX5_missOf rmX5_missOf (va_Pc [.int t, .int w] (PR D cI cZ [])) (RI (fMiss t w)) 0 0 nA := by
  refine met_go (cc := cX5_missOf) (maxL := 2) (ret := (some .int)) (by decide) rfl ?_ (Nat.le_of_ble_eq_true rfl)
  intro p e s m a below meth c Q hQ _ hx hb hr hml hts hown hlk hnm hpre ls hl
  have hown : s.vm.findClass RX5 = some m.cls := hown
  obtain ⟨hP, hK⟩ := hpre
  have hN := hK.2
  have hS : va_S nA s.heap s.heap [] := va_S.rf
  have hl : lv_has ls 2 [(0, .int t), (1, .int w)] := hl
  refine lv_iload_n hx hb dX5_missOf_0 rfl (lv_at hl 0 rfl) ?_
  refine lv_iconst (v := (-1)) hx hb dX5_missOf_1 (by decide) ?_
  refine lv_icmp_ne (tgt := 11) hx hb dX5_missOf_2 (by decide) (fun c1 => ?_) (fun c1 => ?_)
  · skip
    refine lv_iload_n hx hb dX5_missOf_11 rfl (lv_at hl 0 rfl) ?_
    refine lv_iload_n hx hb dX5_missOf_12 rfl (lv_at hl 1 rfl) ?_
    refine lv_isub hx hb dX5_missOf_13 ?_
    refine va_mabs hx hb (hml.trans hl.1.symm) hown (hts (.methodLink RX5 228 Lib.Math.abs.name) (by decide +kernel)) (hts (.static Lib.Math.abs.name) (by decide +kernel)) (hts (.initialized "java/lang/Math") (by decide +kernel)) (hts (.code Lib.Math.abs.name Lib.Math.abs.code 1 (some .int)) (by decide +kernel)) (Nat.le_of_ble_eq_true rfl) (Nat.le_of_ble_eq_true rfl) (Nat.le_of_ble_eq_true rfl) (Nat.le_of_ble_eq_true rfl) dX5_missOf_14 ?_
    exact ret_RI hQ hx hb hr hlk hS (show fMiss t w = if 0 ≤ (t - w) then t - w else 0 - (t - w) from (by first | with_reducible rfl | simp only [fMiss, if_neg c1] | simp [fMiss, if_neg c1])).symm dX5_missOf_17
  · skip
    refine lv_sipush (v := 300) hx hb dX5_missOf_5 (by decide) ?_
    refine lv_goto (tgt := 17) hx hb dX5_missOf_8 (by decide) ?_
    exact ret_RI hQ hx hb hr hlk hS (show fMiss t w = 300 from (by first | with_reducible rfl | simp only [fMiss, if_pos c1] | simp [fMiss, if_pos c1])).symm dX5_missOf_17

set_option maxHeartbeats 4000000 in
set_option maxRecDepth 100000 in
theorem c_X5_copyRow (l : Launch) (D : va_G) (cI cZ : ClassId) (q0 : Nat) (q1 : Nat) (n : Nat) (f : Nat → Int32) (g : Nat → Int32) (hn : n < 2147483648) : Met l yX5_copyRow wsX5_copyRow rmX5_copyRow (va_Pc [.ref q0, .ref q1] (PW D cI cZ [(q0, .inl (cI, n, .inl f)), (q1, .inl (cI, n, .inl g))])) (WV (S := Unit) D (fun _ => True) (fun _ => [(q0, .inl (cI, n, .inl f)), (q1, .inl (cI, n, .inl (cpyF f g n)))]) [(q0, .inl (cI, n, .inl f)), (q1, .inl (cI, n, .inl g))]) 0 0 (ad [(q0, .inl (cI, n, .inl f)), (q1, .inl (cI, n, .inl g))]) := by
  refine met_go (cc := cX5_copyRow) (maxL := 3) (ret := none) (by decide) rfl ?_ (Nat.le_of_ble_eq_true rfl)
  intro p e s m a below meth c Q hQ _ hx hb hr hml hts hown hlk hnm hpre ls hl
  have hown : s.vm.findClass RX5 = some m.cls := hown
  obtain ⟨hP, hK, hD0⟩ := hpre
  have hN := hK.2
  obtain ⟨A, hAe⟩ : ∃ A : Nat → Prop, A = ad [(q0, .inl (cI, n, .inl f)), (q1, .inl (cI, n, .inl g))] := ⟨_, rfl⟩
  have hD : va_D A [(q0, .inl (cI, n, .inl f)), (q1, .inl (cI, n, .inl g))] := by rw [hAe]; exact hD0.ad
  have hS : va_S A s.heap s.heap [] := va_S.rf
  have hl : lv_has ls 3 [(0, .ref q0), (1, .ref q1)] := hl
  refine lv_iconst (v := 0) hx hb dX5_copyRow_0 (by decide) ?_
  refine lv_istore_n (lv' := [(2, .int 0), (0, .ref q0), (1, .ref q1)]) hx hb dX5_copyRow_1 rfl hl (by decide) rfl (fun ls hl => ?_)
  have hP : va_P D vwCl [(q0, .inl (cI, n, .inl f)), (q1, .inl (cI, n, .inl (cpyF f g 0)))] s.heap := by rw [← (show g = cpyF f g 0 from (cpyF_0 f g).symm)]; exact hP
  have hD : va_D A [(q0, .inl (cI, n, .inl f)), (q1, .inl (cI, n, .inl (cpyF f g 0)))] := va_D_fst hD rfl
  have lp_2 : ∀ (r : Nat) (i : Nat), (i + r = n) → ∀ (H : Heap) (locs : List Loc), va_P D vwCl [(q0, .inl (cI, n, .inl f)), (q1, .inl (cI, n, .inl (cpyF f g i)))] H → va_D A [(q0, .inl (cI, n, .inl f)), (q1, .inl (cI, n, .inl (cpyF f g i)))] → va_S A s.heap H locs → ∀ (ls : Array Slot), lv_has ls 3 [(2, .int (nI i)), (0, .ref q0), (1, .ref q1)] → W p l e rmX5_copyRow s m a below meth c H locs 0 0 Q (F0 m 2 ls []) := by
    intro r
    induction r with
    | zero =>
      intro i hi H locs hP hD hS ls hl
      have hzz : n = i := by omega
      subst hzz
      refine lv_iload_n hx hb dX5_copyRow_2 rfl (lv_at hl 0 rfl) ?_
      refine lv_aload_n hx hb dX5_copyRow_3 rfl (lv_at hl 1 rfl) ?_
      refine va_alen hx hb hK.1 hP 0 0 (v := nI n) rfl rfl rfl dX5_copyRow_4 ?_
      refine lv_icmp_ge (tgt := 24) hx hb dX5_copyRow_5 (by decide) (fun c1 => ?_) (fun c1 => absurd (nI_le (Nat.le_refl _) hn) c1)
      exact ret_WV hQ hx hb hr hlk hAe () hP hS trivial dX5_copyRow_24
    | succ r ih_2 =>
      intro i hi H locs hP hD hS ls hl
      refine lv_iload_n hx hb dX5_copyRow_2 rfl (lv_at hl 0 rfl) ?_
      refine lv_aload_n hx hb dX5_copyRow_3 rfl (lv_at hl 1 rfl) ?_
      refine va_alen hx hb hK.1 hP 0 0 (v := nI n) rfl rfl rfl dX5_copyRow_4 ?_
      refine lv_icmp_ge (tgt := 24) hx hb dX5_copyRow_5 (by decide) (fun c2 => absurd c2 ((nI_ge (by omega) (by omega)))) (fun c2 => ?_)
      refine lv_aload_n hx hb dX5_copyRow_8 rfl (lv_at hl 2 rfl) ?_
      refine lv_iload_n hx hb dX5_copyRow_9 rfl (lv_at hl 0 rfl) ?_
      refine lv_aload_n hx hb dX5_copyRow_10 rfl (lv_at hl 1 rfl) ?_
      refine lv_iload_n hx hb dX5_copyRow_11 rfl (lv_at hl 0 rfl) ?_
      refine rd_i (va_runS (As := [.ref q0, .int (nI i)]) (rest := [.int (nI i), .ref q1]) ⟨hx, hb, hml, hown, hts⟩ (c_X5_at_in l D cI cZ q0 n f i (by omega) hn) (va_cwS 2 hts gX5_copyRow_X5_at rfl rfl rfl (by decide +kernel) ⟨Nat.le_of_ble_eq_true rfl, Nat.le_of_ble_eq_true rfl⟩) (PR.S (hP.sub [0] rfl) hK) rfl rfl hl.1 rfl (lv_room (Nat.le_of_ble_eq_true rfl)) dX5_copyRow_12 ⟨Nat.le_of_ble_eq_true rfl, Nat.le_of_ble_eq_true rfl⟩) hP hS (fun H locs hP hS => ?_)
      refine wr_v (va_runS (As := [.ref q1, .int (nI i), .int (f i)]) (rest := []) ⟨hx, hb, hml, hown, hts⟩ (c_X5_put_in l D cI cZ q1 n (cpyF f g i) i (f i) (by omega) hn) (va_cwS 3 hts gX5_copyRow_X5_put rfl rfl rfl (by decide +kernel) ⟨Nat.le_of_ble_eq_true rfl, Nat.le_of_ble_eq_true rfl⟩) (PW.S (hP.sub [1] rfl) hK ((hD.sub [1] (by decide) rfl).weaken (fun _ _ _ _ => trivial))) rfl rfl hl.1 rfl (lv_room (Nat.le_of_ble_eq_true rfl)) dX5_copyRow_15 ⟨Nat.le_of_ble_eq_true rfl, Nat.le_of_ble_eq_true rfl⟩) hP hD hS [1] rfl (fun _ => rfl) (fun u3 H locs hu3 hP hD hS => ?_)
      have hP : va_P D vwCl [(q0, .inl (cI, n, .inl f)), (q1, .inl (cI, n, .inl (upd (cpyF f g i) i (f i))))] H := hP
      have hD : va_D A [(q0, .inl (cI, n, .inl f)), (q1, .inl (cI, n, .inl (upd (cpyF f g i) i (f i))))] := hD
      have hP : va_P D vwCl [(q0, .inl (cI, n, .inl f)), (q1, .inl (cI, n, .inl (cpyF f g (i + 1))))] H := by rw [← (show upd (cpyF f g i) i (f i) = cpyF f g (i + 1) from cpyF_upd f g i)]; exact hP
      have hD : va_D A [(q0, .inl (cI, n, .inl f)), (q1, .inl (cI, n, .inl (cpyF f g (i + 1))))] := va_D_fst hD rfl
      refine lv_iinc (v := nI (i + 1)) (lv' := [(2, .int (nI (i + 1))), (0, .ref q0), (1, .ref q1)]) hx hb dX5_copyRow_18 hl (k := 0) rfl (iinc_1 i) (by decide) rfl (fun ls hl => ?_)
      refine lv_goto (tgt := 2) hx hb dX5_copyRow_21 (by decide) ?_
      exact ih_2 (i + 1) (by omega) _ _ hP hD hS ls (lv_sub hl [0, 1, 2] rfl)
  exact lp_2 n 0 (by omega) _ _ hP hD hS ls (lv_sub hl [0, 1, 2] rfl)

set_option maxHeartbeats 4000000 in
set_option maxRecDepth 100000 in
theorem c_X5_rowDifferences (l : Launch) (D : va_G) (cI cZ : ClassId) (q0 : Nat) (q1 : Nat) (n : Nat) (f : Nat → Int32) (g : Nat → Int32) (na : Nat) (nb : Nat) (hn : n < 2147483648) (ha : na ≤ n) (hbn : nb ≤ n) : Met l yX5_rowDifferences wsX5_rowDifferences rmX5_rowDifferences (va_Pc [.ref q0, .int (nI na), .ref q1, .int (nI nb)] (PR D cI cZ [(q0, .inl (cI, n, .inl f)), (q1, .inl (cI, n, .inl g))])) (RI (fRowD f g na nb)) 0 0 nA := by
  refine met_go (cc := cX5_rowDifferences) (maxL := 7) (ret := (some .int)) (by decide) rfl ?_ (Nat.le_of_ble_eq_true rfl)
  intro p e s m a below meth c Q hQ _ hx hb hr hml hts hown hlk hnm hpre ls hl
  have hown : s.vm.findClass RX5 = some m.cls := hown
  obtain ⟨hP, hK⟩ := hpre
  have hN := hK.2
  have hS : va_S nA s.heap s.heap [] := va_S.rf
  have hl : lv_has ls 7 [(0, .ref q0), (1, .int (nI na)), (2, .ref q1), (3, .int (nI nb))] := hl
  refine lv_iload_n hx hb dX5_rowDifferences_0 rfl (lv_at hl 1 rfl) ?_
  refine lv_iload_n hx hb dX5_rowDifferences_1 rfl (lv_at hl 3 rfl) ?_
  refine va_mmin hx hb (hml.trans hl.1.symm) hown (hts (.methodLink RX5 259 Lib.Math.min.name) (by decide +kernel)) (hts (.static Lib.Math.min.name) (by decide +kernel)) (hts (.initialized "java/lang/Math") (by decide +kernel)) (hts (.code Lib.Math.min.name Lib.Math.min.code 2 (some .int)) (by decide +kernel)) (Nat.le_of_ble_eq_true rfl) (Nat.le_of_ble_eq_true rfl) (Nat.le_of_ble_eq_true rfl) (Nat.le_of_ble_eq_true rfl) dX5_rowDifferences_2 ?_
  refine lv_eqi (fMin_eq (by omega) (by omega)) ?_
  refine lv_istore (lv' := [(4, .int (nI (min na nb))), (0, .ref q0), (1, .int (nI na)), (2, .ref q1), (3, .int (nI nb))]) hx hb dX5_rowDifferences_5 hl (by decide) rfl (fun ls hl => ?_)
  refine lv_iload_n hx hb dX5_rowDifferences_7 rfl (lv_at hl 2 rfl) ?_
  refine lv_iload_n hx hb dX5_rowDifferences_8 rfl (lv_at hl 4 rfl) ?_
  refine va_mmax hx hb (hml.trans hl.1.symm) hown (hts (.methodLink RX5 233 Lib.Math.max.name) (by decide +kernel)) (hts (.static Lib.Math.max.name) (by decide +kernel)) (hts (.initialized "java/lang/Math") (by decide +kernel)) (hts (.code Lib.Math.max.name Lib.Math.max.code 2 (some .int)) (by decide +kernel)) (Nat.le_of_ble_eq_true rfl) (Nat.le_of_ble_eq_true rfl) (Nat.le_of_ble_eq_true rfl) (Nat.le_of_ble_eq_true rfl) dX5_rowDifferences_9 ?_
  refine lv_iload hx hb dX5_rowDifferences_12 (lv_at hl 0 rfl) ?_
  refine lv_isub hx hb dX5_rowDifferences_14 ?_
  refine lv_eqi rfl ?_
  refine lv_istore (lv' := [(5, .int (fRowD0 na nb)), (4, .int (nI (min na nb))), (0, .ref q0), (1, .int (nI na)), (2, .ref q1), (3, .int (nI nb))]) hx hb dX5_rowDifferences_15 hl (by decide) rfl (fun ls hl => ?_)
  refine lv_iconst (v := 0) hx hb dX5_rowDifferences_17 (by decide) ?_
  refine lv_istore (lv' := [(6, .int 0), (5, .int (fRowD0 na nb)), (4, .int (nI (min na nb))), (0, .ref q0), (1, .int (nI na)), (2, .ref q1), (3, .int (nI nb))]) hx hb dX5_rowDifferences_18 hl (by decide) rfl (fun ls hl => ?_)
  have lp_20 : ∀ (r : Nat) (i : Nat) (z : Int32), (i + r = min na nb) → (fRowD f g na nb = fDiff f g r i z) → ∀ (H : Heap) (locs : List Loc), va_P D vwCl [(q0, .inl (cI, n, .inl f)), (q1, .inl (cI, n, .inl g))] H → va_S nA s.heap H locs → ∀ (ls : Array Slot), lv_has ls 7 [(6, .int (nI i)), (5, .int z), (4, .int (nI (min na nb))), (0, .ref q0), (1, .int (nI na)), (2, .ref q1), (3, .int (nI nb))] → W p l e rmX5_rowDifferences s m a below meth c H locs 0 0 Q (F0 m 20 ls []) := by
    intro r
    induction r with
    | zero =>
      intro i z hi hF H locs hP hS ls hl
      refine lv_iload hx hb dX5_rowDifferences_20 (lv_at hl 0 rfl) ?_
      refine lv_iload hx hb dX5_rowDifferences_22 (lv_at hl 2 rfl) ?_
      refine lv_icmp_ge (tgt := 51) hx hb dX5_rowDifferences_24 (by decide) (fun c1 => ?_) (fun c1 => absurd ((nI_le (by omega) (by omega))) c1)
      refine lv_iload hx hb dX5_rowDifferences_51 (lv_at hl 1 rfl) ?_
      exact ret_RI hQ hx hb hr hlk hS (hF.trans (by first | with_reducible rfl | simp only [fRowD, fDiff, if_pos c1] | simp [fRowD, fDiff, if_pos c1])).symm dX5_rowDifferences_53
    | succ r ih_20 =>
      intro i z hi hF H locs hP hS ls hl
      refine lv_iload hx hb dX5_rowDifferences_20 (lv_at hl 0 rfl) ?_
      refine lv_iload hx hb dX5_rowDifferences_22 (lv_at hl 2 rfl) ?_
      refine lv_icmp_ge (tgt := 51) hx hb dX5_rowDifferences_24 (by decide) (fun c2 => absurd c2 ((nI_ge (by omega) (by omega)))) (fun c2 => ?_)
      refine lv_aload_n hx hb dX5_rowDifferences_27 rfl (lv_at hl 3 rfl) ?_
      refine lv_iload hx hb dX5_rowDifferences_28 (lv_at hl 0 rfl) ?_
      refine rd_i (va_runS (As := [.ref q0, .int (nI i)]) (rest := []) ⟨hx, hb, hml, hown, hts⟩ (c_X5_at_in l D cI cZ q0 n f i (by omega) (by omega)) (va_cwS 2 hts gX5_rowDifferences_X5_at rfl rfl rfl (by decide +kernel) ⟨Nat.le_of_ble_eq_true rfl, Nat.le_of_ble_eq_true rfl⟩) (PR.S (hP.sub [0] rfl) hK) rfl rfl hl.1 rfl (lv_room (Nat.le_of_ble_eq_true rfl)) dX5_rowDifferences_30 ⟨Nat.le_of_ble_eq_true rfl, Nat.le_of_ble_eq_true rfl⟩) hP hS (fun H locs hP hS => ?_)
      refine lv_aload_n hx hb dX5_rowDifferences_33 rfl (lv_at hl 5 rfl) ?_
      refine lv_iload hx hb dX5_rowDifferences_34 (lv_at hl 0 rfl) ?_
      refine rd_i (va_runS (As := [.ref q1, .int (nI i)]) (rest := [.int (f i)]) ⟨hx, hb, hml, hown, hts⟩ (c_X5_at_in l D cI cZ q1 n g i (by omega) (by omega)) (va_cwS 2 hts gX5_rowDifferences_X5_at rfl rfl rfl (by decide +kernel) ⟨Nat.le_of_ble_eq_true rfl, Nat.le_of_ble_eq_true rfl⟩) (PR.S (hP.sub [1] rfl) hK) rfl rfl hl.1 rfl (lv_room (Nat.le_of_ble_eq_true rfl)) dX5_rowDifferences_36 ⟨Nat.le_of_ble_eq_true rfl, Nat.le_of_ble_eq_true rfl⟩) hP hS (fun H locs hP hS => ?_)
      refine lv_icmp_eq (tgt := 45) hx hb dX5_rowDifferences_39 (by decide) (fun c3 => ?_) (fun c3 => ?_)
      · skip
        refine lv_iinc (v := nI (i + 1)) (lv' := [(6, .int (nI (i + 1))), (5, .int z), (4, .int (nI (min na nb))), (0, .ref q0), (1, .int (nI na)), (2, .ref q1), (3, .int (nI nb))]) hx hb dX5_rowDifferences_45 hl (k := 0) rfl (iinc_1 i) (by decide) rfl (fun ls hl => ?_)
        refine lv_goto (tgt := 20) hx hb dX5_rowDifferences_48 (by decide) ?_
        exact ih_20 (i + 1) z (by omega) (hF.trans (by first | with_reducible rfl | simp only [fRowD, fDiff, if_neg c2, if_pos c3] | simp [fRowD, fDiff, if_neg c2, if_pos c3])) _ _ hP hS ls (lv_sub hl [0, 1, 2, 3, 4, 5, 6] rfl)
      · skip
        refine lv_iinc (v := z + 1) (lv' := [(5, .int (z + 1)), (6, .int (nI i)), (4, .int (nI (min na nb))), (0, .ref q0), (1, .int (nI na)), (2, .ref q1), (3, .int (nI nb))]) hx hb dX5_rowDifferences_42 hl (k := 1) rfl rfl (by decide) rfl (fun ls hl => ?_)
        refine lv_iinc (v := nI (i + 1)) (lv' := [(6, .int (nI (i + 1))), (5, .int (z + 1)), (4, .int (nI (min na nb))), (0, .ref q0), (1, .int (nI na)), (2, .ref q1), (3, .int (nI nb))]) hx hb dX5_rowDifferences_45 hl (k := 1) rfl (iinc_1 i) (by decide) rfl (fun ls hl => ?_)
        refine lv_goto (tgt := 20) hx hb dX5_rowDifferences_48 (by decide) ?_
        exact ih_20 (i + 1) (z + 1) (by omega) (hF.trans (by first | with_reducible rfl | simp only [fRowD, fDiff, if_neg c2, if_neg c3] | simp [fRowD, fDiff, if_neg c2, if_neg c3])) _ _ hP hS ls (lv_sub hl [0, 1, 2, 3, 4, 5, 6] rfl)
  exact lp_20 (min na nb) 0 (fRowD0 na nb) (by omega) rfl _ _ hP hS ls (lv_sub hl [0, 1, 2, 3, 4, 5, 6] rfl)
end
section
set_option maxHeartbeats 4000000 in
set_option maxRecDepth 100000 in
theorem c_X2_startOf (l : Launch) (D : va_G) (cI cZ : ClassId) (h : Nat) (h1 : Nat) (h2 : Nat) (h3 : Nat) (h4 : Nat) (h5 : Nat) (np : Nat) (nh : Nat) (mo : Int32) (fa : Int32) (ln : Nat → Int32) (k : Nat) (hk : k ≤ 12) : Met l yX2_startOf wsX2_startOf rmX2_startOf (va_Pc [.ref h, .int (nI k)] (PR D cI cZ [(h, .inr (2, [.ref h1, .ref h2, .ref h3, .ref h4, .ref h5, .int (nI np), .int (nI nh), .int mo, .int fa])), (h1, .inl (cI, 12, .inl ln))])) (RI (fSum ln k 0 0)) 0 0 nA := by
  refine met_go (cc := cX2_startOf) (maxL := 4) (ret := (some .int)) (by decide) rfl ?_ (Nat.le_of_ble_eq_true rfl)
  intro p e s m a below meth c Q hQ _ hx hb hr hml hts hown hlk hnm hpre ls hl
  have hown : s.vm.findClass RX2 = some m.cls := hown
  obtain ⟨hP, hK⟩ := hpre
  have hN := hK.2
  have hS : va_S nA s.heap s.heap [] := va_S.rf
  have hl : lv_has ls 4 [(0, .ref h), (1, .int (nI k))] := hl
  have k2 : ∀ w ∈ wsX20, w ∈ wsX2_startOf := by decide +kernel
  refine lv_iconst (v := 0) hx hb dX2_startOf_0 (by decide) ?_
  refine lv_istore_n (lv' := [(2, .int 0), (0, .ref h), (1, .int (nI k))]) hx hb dX2_startOf_1 rfl hl (by decide) rfl (fun ls hl => ?_)
  refine lv_iconst (v := 0) hx hb dX2_startOf_2 (by decide) ?_
  refine lv_istore_n (lv' := [(3, .int 0), (2, .int 0), (0, .ref h), (1, .int (nI k))]) hx hb dX2_startOf_3 rfl hl (by decide) rfl (fun ls hl => ?_)
  have lp_4 : ∀ (r : Nat) (i : Nat) (z : Int32), (i + r = k) → (fSum ln k 0 0 = fSum ln r i z) → ∀ (H : Heap) (locs : List Loc), va_P D vwCl [(h, .inr (2, [.ref h1, .ref h2, .ref h3, .ref h4, .ref h5, .int (nI np), .int (nI nh), .int mo, .int fa])), (h1, .inl (cI, 12, .inl ln))] H → va_S nA s.heap H locs → ∀ (ls : Array Slot), lv_has ls 4 [(3, .int (nI i)), (2, .int z), (0, .ref h), (1, .int (nI k))] → W p l e rmX2_startOf s m a below meth c H locs 0 0 Q (F0 m 4 ls []) := by
    intro r
    induction r with
    | zero =>
      intro i z hi hF H locs hP hS ls hl
      refine lv_iload_n hx hb dX2_startOf_4 rfl (lv_at hl 0 rfl) ?_
      refine lv_iload_n hx hb dX2_startOf_5 rfl (lv_at hl 3 rfl) ?_
      refine lv_icmp_ge (tgt := 26) hx hb dX2_startOf_6 (by decide) (fun c1 => ?_) (fun c1 => absurd ((nI_le (by omega) (by omega))) c1)
      refine lv_iload_n hx hb dX2_startOf_26 rfl (lv_at hl 1 rfl) ?_
      exact ret_RI hQ hx hb hr hlk hS (hF.trans (by first | with_reducible rfl | simp only [fSum, if_pos c1] | simp [fSum, if_pos c1])).symm dX2_startOf_27
    | succ r ih_4 =>
      intro i z hi hF H locs hP hS ls hl
      refine lv_iload_n hx hb dX2_startOf_4 rfl (lv_at hl 0 rfl) ?_
      refine lv_iload_n hx hb dX2_startOf_5 rfl (lv_at hl 3 rfl) ?_
      refine lv_icmp_ge (tgt := 26) hx hb dX2_startOf_6 (by decide) (fun c2 => absurd c2 ((nI_ge (by omega) (by omega)))) (fun c2 => ?_)
      refine lv_iload_n hx hb dX2_startOf_9 rfl (lv_at hl 1 rfl) ?_
      refine lv_aload_n hx hb dX2_startOf_10 rfl (lv_at hl 2 rfl) ?_
      refine va_get (D := D) (ci := 2) (v := .ref h1) (C := RX2) (T := TX2) (N := 9) hx hb hts k2 hown hK.1 hP 0 rfl rfl 0 (by decide) (hts (.fieldLink RX2 9 "BoredPipes$Pipe" "lengths" "[I") (by decide +kernel)) (fun _ h9 => h9) rfl dX2_startOf_11 ?_
      refine lv_iload_n hx hb dX2_startOf_14 rfl (lv_at hl 0 rfl) ?_
      refine rd_i (va_runSN (As := [.ref h1, .int (nI i)]) (rest := [.int z]) ⟨hx, hb, hml, hown, hts⟩ (c_X5_at_in l D cI cZ h1 12 ln i (by omega) (by omega)) ⟨va_cnB 2 hts gX2_startOf_X5_at_n48 rfl rfl rfl (hN 7 _ rfl) (hts (.initialized RX5) (by decide +kernel)) (by decide +kernel) ⟨Nat.le_of_ble_eq_true rfl, Nat.le_of_ble_eq_true rfl⟩, hts (.static yX5_at) (by decide +kernel), trivial⟩ (PR.S (hP.sub [1] rfl) hK) rfl rfl hl.1 rfl (lv_room (Nat.le_of_ble_eq_true rfl)) dX2_startOf_15 ⟨Nat.le_of_ble_eq_true rfl, Nat.le_of_ble_eq_true rfl⟩) hP hS (fun H locs hP hS => ?_)
      refine lv_iadd hx hb dX2_startOf_18 ?_
      refine lv_istore_n (lv' := [(2, .int (z + (ln i))), (3, .int (nI i)), (0, .ref h), (1, .int (nI k))]) hx hb dX2_startOf_19 rfl hl (by decide) rfl (fun ls hl => ?_)
      refine lv_iinc (v := nI (i + 1)) (lv' := [(3, .int (nI (i + 1))), (2, .int (z + (ln i))), (0, .ref h), (1, .int (nI k))]) hx hb dX2_startOf_20 hl (k := 1) rfl (iinc_1 i) (by decide) rfl (fun ls hl => ?_)
      refine lv_goto (tgt := 4) hx hb dX2_startOf_23 (by decide) ?_
      exact ih_4 (i + 1) (z + (ln i)) (by omega) (hF.trans (by first | with_reducible rfl | simp only [fSum, if_neg c2] | simp [fSum, if_neg c2])) _ _ hP hS ls (lv_sub hl [0, 1, 2, 3] rfl)
  exact lp_4 k 0 0 (by omega) rfl _ _ hP hS ls (lv_sub hl [0, 1, 2, 3] rfl)

set_option maxHeartbeats 4000000 in
set_option maxRecDepth 100000 in
theorem c_X2_wholeLength (l : Launch) (D : va_G) (cI cZ : ClassId) (h : Nat) (h1 : Nat) (h2 : Nat) (h3 : Nat) (h4 : Nat) (h5 : Nat) (np : Nat) (nh : Nat) (mo : Int32) (fa : Int32) (ln : Nat → Int32) (hnp : np ≤ 12) : Met l yX2_wholeLength wsX2_wholeLength rmX2_wholeLength (va_Pc [.ref h] (PR D cI cZ [(h, .inr (2, [.ref h1, .ref h2, .ref h3, .ref h4, .ref h5, .int (nI np), .int (nI nh), .int mo, .int fa])), (h1, .inl (cI, 12, .inl ln))])) (RI (fSum ln np 0 0)) 0 0 nA := by
  refine met_go (cc := cX2_wholeLength) (maxL := 1) (ret := (some .int)) (by decide) rfl ?_ (Nat.le_of_ble_eq_true rfl)
  intro p e s m a below meth c Q hQ _ hx hb hr hml hts hown hlk hnm hpre ls hl
  have hown : s.vm.findClass RX2 = some m.cls := hown
  obtain ⟨hP, hK⟩ := hpre
  have hN := hK.2
  have hS : va_S nA s.heap s.heap [] := va_S.rf
  have hl : lv_has ls 1 [(0, .ref h)] := hl
  have k2 : ∀ w ∈ wsX20, w ∈ wsX2_wholeLength := by decide +kernel
  refine lv_aload_n hx hb dX2_wholeLength_0 rfl (lv_at hl 0 rfl) ?_
  refine lv_aload_n hx hb dX2_wholeLength_1 rfl (lv_at hl 0 rfl) ?_
  refine va_get (D := D) (ci := 2) (v := .int (nI np)) (C := RX2) (T := TX2) (N := 9) hx hb hts k2 hown hK.1 hP 0 rfl rfl 5 (by decide) (hts (.fieldLink RX2 27 "BoredPipes$Pipe" "pieces" "I") (by decide +kernel)) (fun _ h9 => h9) rfl dX2_wholeLength_2 ?_
  refine rd_i (va_runV (As := [.int (nI np)]) (rest := []) ⟨hx, hb, hml, hown, hts⟩ (c_X2_startOf l D cI cZ h h1 h2 h3 h4 h5 np nh mo fa ln np (by omega)) (cwV 1 hts gX2_wholeLength_X2_startOf rfl rfl rfl (by decide +kernel) ⟨Nat.le_of_ble_eq_true rfl, Nat.le_of_ble_eq_true rfl⟩) (PR.V (hP.sub [0, 1] rfl) hK hP (q0 := 0) rfl rfl) rfl rfl hl.1 rfl (lv_room (Nat.le_of_ble_eq_true rfl)) dX2_wholeLength_5 ⟨Nat.le_of_ble_eq_true rfl, Nat.le_of_ble_eq_true rfl⟩) hP hS (fun H locs hP hS => ?_)
  exact ret_RI hQ hx hb hr hlk hS (show fSum ln np 0 0 = fSum ln np 0 0 from (by first | with_reducible rfl | simp only [] | simp [])).symm dX2_wholeLength_8

set_option maxHeartbeats 4000000 in
set_option maxRecDepth 100000 in
theorem c_X2_pieceAt (l : Launch) (D : va_G) (cI cZ : ClassId) (h : Nat) (h1 : Nat) (h2 : Nat) (h3 : Nat) (h4 : Nat) (h5 : Nat) (np : Nat) (nh : Nat) (mo : Int32) (fa : Int32) (ln : Nat → Int32) (v : Int32) (hnp : np ≤ 12) : Met l yX2_pieceAt wsX2_pieceAt rmX2_pieceAt (va_Pc [.ref h, .int v] (PR D cI cZ [(h, .inr (2, [.ref h1, .ref h2, .ref h3, .ref h4, .ref h5, .int (nI np), .int (nI nh), .int mo, .int fa])), (h1, .inl (cI, 12, .inl ln))])) (RI (fPieceAt ln v np 0 0)) 0 0 nA := by
  refine met_go (cc := cX2_pieceAt) (maxL := 4) (ret := (some .int)) (by decide) rfl ?_ (Nat.le_of_ble_eq_true rfl)
  intro p e s m a below meth c Q hQ _ hx hb hr hml hts hown hlk hnm hpre ls hl
  have hown : s.vm.findClass RX2 = some m.cls := hown
  obtain ⟨hP, hK⟩ := hpre
  have hN := hK.2
  have hS : va_S nA s.heap s.heap [] := va_S.rf
  have hl : lv_has ls 4 [(0, .ref h), (1, .int v)] := hl
  have k2 : ∀ w ∈ wsX20, w ∈ wsX2_pieceAt := by decide +kernel
  refine lv_iconst (v := 0) hx hb dX2_pieceAt_0 (by decide) ?_
  refine lv_istore_n (lv' := [(2, .int 0), (0, .ref h), (1, .int v)]) hx hb dX2_pieceAt_1 rfl hl (by decide) rfl (fun ls hl => ?_)
  refine lv_iconst (v := 0) hx hb dX2_pieceAt_2 (by decide) ?_
  refine lv_istore_n (lv' := [(3, .int 0), (2, .int 0), (0, .ref h), (1, .int v)]) hx hb dX2_pieceAt_3 rfl hl (by decide) rfl (fun ls hl => ?_)
  have lp_4 : ∀ (r : Nat) (i : Nat) (z : Int32), (i + r = np) → (fPieceAt ln v np 0 0 = fPieceAt ln v r i z) → ∀ (H : Heap) (locs : List Loc), va_P D vwCl [(h, .inr (2, [.ref h1, .ref h2, .ref h3, .ref h4, .ref h5, .int (nI np), .int (nI nh), .int mo, .int fa])), (h1, .inl (cI, 12, .inl ln))] H → va_S nA s.heap H locs → ∀ (ls : Array Slot), lv_has ls 4 [(3, .int (nI i)), (2, .int z), (0, .ref h), (1, .int v)] → W p l e rmX2_pieceAt s m a below meth c H locs 0 0 Q (F0 m 4 ls []) := by
    intro r
    induction r with
    | zero =>
      intro i z hi hF H locs hP hS ls hl
      refine lv_iload_n hx hb dX2_pieceAt_4 rfl (lv_at hl 0 rfl) ?_
      refine lv_aload_n hx hb dX2_pieceAt_5 rfl (lv_at hl 2 rfl) ?_
      refine va_get (D := D) (ci := 2) (v := .int (nI np)) (C := RX2) (T := TX2) (N := 9) hx hb hts k2 hown hK.1 hP 0 rfl rfl 5 (by decide) (hts (.fieldLink RX2 27 "BoredPipes$Pipe" "pieces" "I") (by decide +kernel)) (fun _ h9 => h9) rfl dX2_pieceAt_6 ?_
      refine lv_icmp_ge (tgt := 36) hx hb dX2_pieceAt_9 (by decide) (fun c1 => ?_) (fun c1 => absurd ((nI_le (by omega) (by omega))) c1)
      refine lv_iconst (v := (-1)) hx hb dX2_pieceAt_36 (by decide) ?_
      exact ret_RI hQ hx hb hr hlk hS (hF.trans (by first | with_reducible rfl | simp only [fPieceAt, if_pos c1] | simp [fPieceAt, if_pos c1])).symm dX2_pieceAt_37
    | succ r ih_4 =>
      intro i z hi hF H locs hP hS ls hl
      refine lv_iload_n hx hb dX2_pieceAt_4 rfl (lv_at hl 0 rfl) ?_
      refine lv_aload_n hx hb dX2_pieceAt_5 rfl (lv_at hl 2 rfl) ?_
      refine va_get (D := D) (ci := 2) (v := .int (nI np)) (C := RX2) (T := TX2) (N := 9) hx hb hts k2 hown hK.1 hP 0 rfl rfl 5 (by decide) (hts (.fieldLink RX2 27 "BoredPipes$Pipe" "pieces" "I") (by decide +kernel)) (fun _ h9 => h9) rfl dX2_pieceAt_6 ?_
      refine lv_icmp_ge (tgt := 36) hx hb dX2_pieceAt_9 (by decide) (fun c2 => absurd c2 ((nI_ge (by omega) (by omega)))) (fun c2 => ?_)
      refine lv_iload_n hx hb dX2_pieceAt_12 rfl (lv_at hl 1 rfl) ?_
      refine lv_aload_n hx hb dX2_pieceAt_13 rfl (lv_at hl 2 rfl) ?_
      refine va_get (D := D) (ci := 2) (v := .ref h1) (C := RX2) (T := TX2) (N := 9) hx hb hts k2 hown hK.1 hP 0 rfl rfl 0 (by decide) (hts (.fieldLink RX2 9 "BoredPipes$Pipe" "lengths" "[I") (by decide +kernel)) (fun _ h9 => h9) rfl dX2_pieceAt_14 ?_
      refine lv_iload_n hx hb dX2_pieceAt_17 rfl (lv_at hl 0 rfl) ?_
      refine rd_i (va_runSN (As := [.ref h1, .int (nI i)]) (rest := [.int z]) ⟨hx, hb, hml, hown, hts⟩ (c_X5_at_in l D cI cZ h1 12 ln i (by omega) (by omega)) ⟨va_cnB 2 hts gX2_pieceAt_X5_at_n48 rfl rfl rfl (hN 7 _ rfl) (hts (.initialized RX5) (by decide +kernel)) (by decide +kernel) ⟨Nat.le_of_ble_eq_true rfl, Nat.le_of_ble_eq_true rfl⟩, hts (.static yX5_at) (by decide +kernel), trivial⟩ (PR.S (hP.sub [1] rfl) hK) rfl rfl hl.1 rfl (lv_room (Nat.le_of_ble_eq_true rfl)) dX2_pieceAt_18 ⟨Nat.le_of_ble_eq_true rfl, Nat.le_of_ble_eq_true rfl⟩) hP hS (fun H locs hP hS => ?_)
      refine lv_iadd hx hb dX2_pieceAt_21 ?_
      refine lv_istore_n (lv' := [(2, .int (z + (ln i))), (3, .int (nI i)), (0, .ref h), (1, .int v)]) hx hb dX2_pieceAt_22 rfl hl (by decide) rfl (fun ls hl => ?_)
      refine lv_iload_n hx hb dX2_pieceAt_23 rfl (lv_at hl 3 rfl) ?_
      refine lv_iload_n hx hb dX2_pieceAt_24 rfl (lv_at hl 0 rfl) ?_
      refine lv_icmp_gt (tgt := 30) hx hb dX2_pieceAt_25 (by decide) (fun c3 => ?_) (fun c3 => ?_)
      · skip
        refine lv_iinc (v := nI (i + 1)) (lv' := [(3, .int (nI (i + 1))), (2, .int (z + (ln i))), (0, .ref h), (1, .int v)]) hx hb dX2_pieceAt_30 hl (k := 1) rfl (iinc_1 i) (by decide) rfl (fun ls hl => ?_)
        refine lv_goto (tgt := 4) hx hb dX2_pieceAt_33 (by decide) ?_
        exact ih_4 (i + 1) (z + (ln i)) (by omega) (hF.trans (by first | with_reducible rfl | simp only [fPieceAt, if_neg c2, if_pos c3] | simp [fPieceAt, if_neg c2, if_pos c3])) _ _ hP hS ls (lv_sub hl [0, 1, 2, 3] rfl)
      · skip
        refine lv_iload_n hx hb dX2_pieceAt_28 rfl (lv_at hl 1 rfl) ?_
        exact ret_RI hQ hx hb hr hlk hS (hF.trans (by first | with_reducible rfl | simp only [fPieceAt, if_neg c2, if_neg c3] | simp [fPieceAt, if_neg c2, if_neg c3])).symm dX2_pieceAt_29
  exact lp_4 np 0 0 (by omega) rfl _ _ hP hS ls (lv_sub hl [0, 1, 2, 3] rfl)

set_option maxHeartbeats 4000000 in
set_option maxRecDepth 100000 in
theorem c_X2_holeAt (l : Launch) (D : va_G) (cI cZ : ClassId) (h : Nat) (h1 : Nat) (h2 : Nat) (h3 : Nat) (h4 : Nat) (h5 : Nat) (np : Nat) (nh : Nat) (mo : Int32) (fa : Int32) (pl : Nat → Int32) (v : Int32) (hnh : nh ≤ 6) : Met l yX2_holeAt wsX2_holeAt rmX2_holeAt (va_Pc [.ref h, .int v] (PR D cI cZ [(h, .inr (2, [.ref h1, .ref h2, .ref h3, .ref h4, .ref h5, .int (nI np), .int (nI nh), .int mo, .int fa])), (h3, .inl (cI, 6, .inl pl))])) (RI (fHoleAt pl v nh 0)) 0 0 nA := by
  refine met_go (cc := cX2_holeAt) (maxL := 3) (ret := (some .int)) (by decide) rfl ?_ (Nat.le_of_ble_eq_true rfl)
  intro p e s m a below meth c Q hQ _ hx hb hr hml hts hown hlk hnm hpre ls hl
  have hown : s.vm.findClass RX2 = some m.cls := hown
  obtain ⟨hP, hK⟩ := hpre
  have hN := hK.2
  have hS : va_S nA s.heap s.heap [] := va_S.rf
  have hl : lv_has ls 3 [(0, .ref h), (1, .int v)] := hl
  have k2 : ∀ w ∈ wsX20, w ∈ wsX2_holeAt := by decide +kernel
  refine lv_iconst (v := 0) hx hb dX2_holeAt_0 (by decide) ?_
  refine lv_istore_n (lv' := [(2, .int 0), (0, .ref h), (1, .int v)]) hx hb dX2_holeAt_1 rfl hl (by decide) rfl (fun ls hl => ?_)
  have lp_2 : ∀ (r : Nat) (i : Nat), (i + r = nh) → (fHoleAt pl v nh 0 = fHoleAt pl v r i) → ∀ (H : Heap) (locs : List Loc), va_P D vwCl [(h, .inr (2, [.ref h1, .ref h2, .ref h3, .ref h4, .ref h5, .int (nI np), .int (nI nh), .int mo, .int fa])), (h3, .inl (cI, 6, .inl pl))] H → va_S nA s.heap H locs → ∀ (ls : Array Slot), lv_has ls 3 [(2, .int (nI i)), (0, .ref h), (1, .int v)] → W p l e rmX2_holeAt s m a below meth c H locs 0 0 Q (F0 m 2 ls []) := by
    intro r
    induction r with
    | zero =>
      intro i hi hF H locs hP hS ls hl
      refine lv_iload_n hx hb dX2_holeAt_2 rfl (lv_at hl 0 rfl) ?_
      refine lv_aload_n hx hb dX2_holeAt_3 rfl (lv_at hl 1 rfl) ?_
      refine va_get (D := D) (ci := 2) (v := .int (nI nh)) (C := RX2) (T := TX2) (N := 9) hx hb hts k2 hown hK.1 hP 0 rfl rfl 6 (by decide) (hts (.fieldLink RX2 31 "BoredPipes$Pipe" "holes" "I") (by decide +kernel)) (fun _ h9 => h9) rfl dX2_holeAt_4 ?_
      refine lv_icmp_ge (tgt := 30) hx hb dX2_holeAt_7 (by decide) (fun c1 => ?_) (fun c1 => absurd ((nI_le (by omega) (by omega))) c1)
      refine lv_iconst (v := (-1)) hx hb dX2_holeAt_30 (by decide) ?_
      exact ret_RI hQ hx hb hr hlk hS (hF.trans (by first | with_reducible rfl | simp only [fHoleAt, if_pos c1] | simp [fHoleAt, if_pos c1])).symm dX2_holeAt_31
    | succ r ih_2 =>
      intro i hi hF H locs hP hS ls hl
      refine lv_iload_n hx hb dX2_holeAt_2 rfl (lv_at hl 0 rfl) ?_
      refine lv_aload_n hx hb dX2_holeAt_3 rfl (lv_at hl 1 rfl) ?_
      refine va_get (D := D) (ci := 2) (v := .int (nI nh)) (C := RX2) (T := TX2) (N := 9) hx hb hts k2 hown hK.1 hP 0 rfl rfl 6 (by decide) (hts (.fieldLink RX2 31 "BoredPipes$Pipe" "holes" "I") (by decide +kernel)) (fun _ h9 => h9) rfl dX2_holeAt_4 ?_
      refine lv_icmp_ge (tgt := 30) hx hb dX2_holeAt_7 (by decide) (fun c2 => absurd c2 ((nI_ge (by omega) (by omega)))) (fun c2 => ?_)
      refine lv_aload_n hx hb dX2_holeAt_10 rfl (lv_at hl 1 rfl) ?_
      refine va_get (D := D) (ci := 2) (v := .ref h3) (C := RX2) (T := TX2) (N := 9) hx hb hts k2 hown hK.1 hP 0 rfl rfl 2 (by decide) (hts (.fieldLink RX2 18 "BoredPipes$Pipe" "places" "[I") (by decide +kernel)) (fun _ h9 => h9) rfl dX2_holeAt_11 ?_
      refine lv_iload_n hx hb dX2_holeAt_14 rfl (lv_at hl 0 rfl) ?_
      refine rd_i (va_runSN (As := [.ref h3, .int (nI i)]) (rest := []) ⟨hx, hb, hml, hown, hts⟩ (c_X5_at_in l D cI cZ h3 6 pl i (by omega) (by omega)) ⟨va_cnB 2 hts gX2_holeAt_X5_at_n48 rfl rfl rfl (hN 7 _ rfl) (hts (.initialized RX5) (by decide +kernel)) (by decide +kernel) ⟨Nat.le_of_ble_eq_true rfl, Nat.le_of_ble_eq_true rfl⟩, hts (.static yX5_at) (by decide +kernel), trivial⟩ (PR.S (hP.sub [1] rfl) hK) rfl rfl hl.1 rfl (lv_room (Nat.le_of_ble_eq_true rfl)) dX2_holeAt_15 ⟨Nat.le_of_ble_eq_true rfl, Nat.le_of_ble_eq_true rfl⟩) hP hS (fun H locs hP hS => ?_)
      refine lv_iload_n hx hb dX2_holeAt_18 rfl (lv_at hl 2 rfl) ?_
      refine lv_icmp_ne (tgt := 24) hx hb dX2_holeAt_19 (by decide) (fun c3 => ?_) (fun c3 => ?_)
      · skip
        refine lv_iinc (v := nI (i + 1)) (lv' := [(2, .int (nI (i + 1))), (0, .ref h), (1, .int v)]) hx hb dX2_holeAt_24 hl (k := 0) rfl (iinc_1 i) (by decide) rfl (fun ls hl => ?_)
        refine lv_goto (tgt := 2) hx hb dX2_holeAt_27 (by decide) ?_
        exact ih_2 (i + 1) (by omega) (hF.trans (by first | with_reducible rfl | simp only [fHoleAt, if_neg c2, if_neg c3] | simp [fHoleAt, if_neg c2, if_neg c3])) _ _ hP hS ls (lv_sub hl [0, 1, 2] rfl)
      · skip
        refine lv_iload_n hx hb dX2_holeAt_22 rfl (lv_at hl 0 rfl) ?_
        exact ret_RI hQ hx hb hr hlk hS (hF.trans (by first | with_reducible rfl | simp only [fHoleAt, if_neg c2, if_pos c3] | simp [fHoleAt, if_neg c2, if_pos c3])).symm dX2_holeAt_23
  exact lp_2 nh 0 (by omega) rfl _ _ hP hS ls (lv_sub hl [0, 1, 2] rfl)

set_option maxHeartbeats 4000000 in
set_option maxRecDepth 100000 in
theorem c_X2_holesBefore (l : Launch) (D : va_G) (cI cZ : ClassId) (h : Nat) (h1 : Nat) (h2 : Nat) (h3 : Nat) (h4 : Nat) (h5 : Nat) (np : Nat) (nh : Nat) (mo : Int32) (fa : Int32) (pl : Nat → Int32) (v : Int32) (hnh : nh ≤ 6) : Met l yX2_holesBefore wsX2_holesBefore rmX2_holesBefore (va_Pc [.ref h, .int v] (PR D cI cZ [(h, .inr (2, [.ref h1, .ref h2, .ref h3, .ref h4, .ref h5, .int (nI np), .int (nI nh), .int mo, .int fa])), (h3, .inl (cI, 6, .inl pl))])) (RI (fBefore pl v nh 0 0)) 0 0 nA := by
  refine met_go (cc := cX2_holesBefore) (maxL := 4) (ret := (some .int)) (by decide) rfl ?_ (Nat.le_of_ble_eq_true rfl)
  intro p e s m a below meth c Q hQ _ hx hb hr hml hts hown hlk hnm hpre ls hl
  have hown : s.vm.findClass RX2 = some m.cls := hown
  obtain ⟨hP, hK⟩ := hpre
  have hN := hK.2
  have hS : va_S nA s.heap s.heap [] := va_S.rf
  have hl : lv_has ls 4 [(0, .ref h), (1, .int v)] := hl
  have k2 : ∀ w ∈ wsX20, w ∈ wsX2_holesBefore := by decide +kernel
  refine lv_iconst (v := 0) hx hb dX2_holesBefore_0 (by decide) ?_
  refine lv_istore_n (lv' := [(2, .int 0), (0, .ref h), (1, .int v)]) hx hb dX2_holesBefore_1 rfl hl (by decide) rfl (fun ls hl => ?_)
  refine lv_iconst (v := 0) hx hb dX2_holesBefore_2 (by decide) ?_
  refine lv_istore_n (lv' := [(3, .int 0), (2, .int 0), (0, .ref h), (1, .int v)]) hx hb dX2_holesBefore_3 rfl hl (by decide) rfl (fun ls hl => ?_)
  have lp_4 : ∀ (r : Nat) (i : Nat) (z : Int32), (i + r = nh) → (fBefore pl v nh 0 0 = fBefore pl v r i z) → ∀ (H : Heap) (locs : List Loc), va_P D vwCl [(h, .inr (2, [.ref h1, .ref h2, .ref h3, .ref h4, .ref h5, .int (nI np), .int (nI nh), .int mo, .int fa])), (h3, .inl (cI, 6, .inl pl))] H → va_S nA s.heap H locs → ∀ (ls : Array Slot), lv_has ls 4 [(3, .int (nI i)), (2, .int z), (0, .ref h), (1, .int v)] → W p l e rmX2_holesBefore s m a below meth c H locs 0 0 Q (F0 m 4 ls []) := by
    intro r
    induction r with
    | zero =>
      intro i z hi hF H locs hP hS ls hl
      refine lv_iload_n hx hb dX2_holesBefore_4 rfl (lv_at hl 0 rfl) ?_
      refine lv_aload_n hx hb dX2_holesBefore_5 rfl (lv_at hl 2 rfl) ?_
      refine va_get (D := D) (ci := 2) (v := .int (nI nh)) (C := RX2) (T := TX2) (N := 9) hx hb hts k2 hown hK.1 hP 0 rfl rfl 6 (by decide) (hts (.fieldLink RX2 31 "BoredPipes$Pipe" "holes" "I") (by decide +kernel)) (fun _ h9 => h9) rfl dX2_holesBefore_6 ?_
      refine lv_icmp_ge (tgt := 33) hx hb dX2_holesBefore_9 (by decide) (fun c1 => ?_) (fun c1 => absurd ((nI_le (by omega) (by omega))) c1)
      refine lv_iload_n hx hb dX2_holesBefore_33 rfl (lv_at hl 1 rfl) ?_
      exact ret_RI hQ hx hb hr hlk hS (hF.trans (by first | with_reducible rfl | simp only [fBefore, if_pos c1] | simp [fBefore, if_pos c1])).symm dX2_holesBefore_34
    | succ r ih_4 =>
      intro i z hi hF H locs hP hS ls hl
      refine lv_iload_n hx hb dX2_holesBefore_4 rfl (lv_at hl 0 rfl) ?_
      refine lv_aload_n hx hb dX2_holesBefore_5 rfl (lv_at hl 2 rfl) ?_
      refine va_get (D := D) (ci := 2) (v := .int (nI nh)) (C := RX2) (T := TX2) (N := 9) hx hb hts k2 hown hK.1 hP 0 rfl rfl 6 (by decide) (hts (.fieldLink RX2 31 "BoredPipes$Pipe" "holes" "I") (by decide +kernel)) (fun _ h9 => h9) rfl dX2_holesBefore_6 ?_
      refine lv_icmp_ge (tgt := 33) hx hb dX2_holesBefore_9 (by decide) (fun c2 => absurd c2 ((nI_ge (by omega) (by omega)))) (fun c2 => ?_)
      refine lv_aload_n hx hb dX2_holesBefore_12 rfl (lv_at hl 2 rfl) ?_
      refine va_get (D := D) (ci := 2) (v := .ref h3) (C := RX2) (T := TX2) (N := 9) hx hb hts k2 hown hK.1 hP 0 rfl rfl 2 (by decide) (hts (.fieldLink RX2 18 "BoredPipes$Pipe" "places" "[I") (by decide +kernel)) (fun _ h9 => h9) rfl dX2_holesBefore_13 ?_
      refine lv_iload_n hx hb dX2_holesBefore_16 rfl (lv_at hl 0 rfl) ?_
      refine rd_i (va_runSN (As := [.ref h3, .int (nI i)]) (rest := []) ⟨hx, hb, hml, hown, hts⟩ (c_X5_at_in l D cI cZ h3 6 pl i (by omega) (by omega)) ⟨va_cnB 2 hts gX2_holesBefore_X5_at_n48 rfl rfl rfl (hN 7 _ rfl) (hts (.initialized RX5) (by decide +kernel)) (by decide +kernel) ⟨Nat.le_of_ble_eq_true rfl, Nat.le_of_ble_eq_true rfl⟩, hts (.static yX5_at) (by decide +kernel), trivial⟩ (PR.S (hP.sub [1] rfl) hK) rfl rfl hl.1 rfl (lv_room (Nat.le_of_ble_eq_true rfl)) dX2_holesBefore_17 ⟨Nat.le_of_ble_eq_true rfl, Nat.le_of_ble_eq_true rfl⟩) hP hS (fun H locs hP hS => ?_)
      refine lv_iload_n hx hb dX2_holesBefore_20 rfl (lv_at hl 3 rfl) ?_
      refine lv_icmp_ge (tgt := 27) hx hb dX2_holesBefore_21 (by decide) (fun c3 => ?_) (fun c3 => ?_)
      · skip
        refine lv_iinc (v := nI (i + 1)) (lv' := [(3, .int (nI (i + 1))), (2, .int z), (0, .ref h), (1, .int v)]) hx hb dX2_holesBefore_27 hl (k := 0) rfl (iinc_1 i) (by decide) rfl (fun ls hl => ?_)
        refine lv_goto (tgt := 4) hx hb dX2_holesBefore_30 (by decide) ?_
        exact ih_4 (i + 1) z (by omega) (hF.trans (by first | with_reducible rfl | simp only [fBefore, if_neg c2, if_pos c3] | simp [fBefore, if_neg c2, if_pos c3])) _ _ hP hS ls (lv_sub hl [0, 1, 2, 3] rfl)
      · skip
        refine lv_iinc (v := z + 1) (lv' := [(2, .int (z + 1)), (3, .int (nI i)), (0, .ref h), (1, .int v)]) hx hb dX2_holesBefore_24 hl (k := 1) rfl rfl (by decide) rfl (fun ls hl => ?_)
        refine lv_iinc (v := nI (i + 1)) (lv' := [(3, .int (nI (i + 1))), (2, .int (z + 1)), (0, .ref h), (1, .int v)]) hx hb dX2_holesBefore_27 hl (k := 1) rfl (iinc_1 i) (by decide) rfl (fun ls hl => ?_)
        refine lv_goto (tgt := 4) hx hb dX2_holesBefore_30 (by decide) ?_
        exact ih_4 (i + 1) (z + 1) (by omega) (hF.trans (by first | with_reducible rfl | simp only [fBefore, if_neg c2, if_neg c3] | simp [fBefore, if_neg c2, if_neg c3])) _ _ hP hS ls (lv_sub hl [0, 1, 2, 3] rfl)
  exact lp_4 nh 0 0 (by omega) rfl _ _ hP hS ls (lv_sub hl [0, 1, 2, 3] rfl)

set_option maxHeartbeats 4000000 in
set_option maxRecDepth 100000 in
theorem c_X2_lastHoleBefore (l : Launch) (D : va_G) (cI cZ : ClassId) (h : Nat) (h1 : Nat) (h2 : Nat) (h3 : Nat) (h4 : Nat) (h5 : Nat) (np : Nat) (nh : Nat) (mo : Int32) (fa : Int32) (pl : Nat → Int32) (v : Int32) (hnh : nh ≤ 6) : Met l yX2_lastHoleBefore wsX2_lastHoleBefore rmX2_lastHoleBefore (va_Pc [.ref h, .int v] (PR D cI cZ [(h, .inr (2, [.ref h1, .ref h2, .ref h3, .ref h4, .ref h5, .int (nI np), .int (nI nh), .int mo, .int fa])), (h3, .inl (cI, 6, .inl pl))])) (RI (fLast pl v nh 0 0)) 0 0 nA := by
  refine met_go (cc := cX2_lastHoleBefore) (maxL := 4) (ret := (some .int)) (by decide) rfl ?_ (Nat.le_of_ble_eq_true rfl)
  intro p e s m a below meth c Q hQ _ hx hb hr hml hts hown hlk hnm hpre ls hl
  have hown : s.vm.findClass RX2 = some m.cls := hown
  obtain ⟨hP, hK⟩ := hpre
  have hN := hK.2
  have hS : va_S nA s.heap s.heap [] := va_S.rf
  have hl : lv_has ls 4 [(0, .ref h), (1, .int v)] := hl
  have k2 : ∀ w ∈ wsX20, w ∈ wsX2_lastHoleBefore := by decide +kernel
  refine lv_iconst (v := 0) hx hb dX2_lastHoleBefore_0 (by decide) ?_
  refine lv_istore_n (lv' := [(2, .int 0), (0, .ref h), (1, .int v)]) hx hb dX2_lastHoleBefore_1 rfl hl (by decide) rfl (fun ls hl => ?_)
  refine lv_iconst (v := 0) hx hb dX2_lastHoleBefore_2 (by decide) ?_
  refine lv_istore_n (lv' := [(3, .int 0), (2, .int 0), (0, .ref h), (1, .int v)]) hx hb dX2_lastHoleBefore_3 rfl hl (by decide) rfl (fun ls hl => ?_)
  have lp_4 : ∀ (r : Nat) (i : Nat) (z : Int32), (i + r = nh) → (fLast pl v nh 0 0 = fLast pl v r i z) → ∀ (H : Heap) (locs : List Loc), va_P D vwCl [(h, .inr (2, [.ref h1, .ref h2, .ref h3, .ref h4, .ref h5, .int (nI np), .int (nI nh), .int mo, .int fa])), (h3, .inl (cI, 6, .inl pl))] H → va_S nA s.heap H locs → ∀ (ls : Array Slot), lv_has ls 4 [(3, .int (nI i)), (2, .int z), (0, .ref h), (1, .int v)] → W p l e rmX2_lastHoleBefore s m a below meth c H locs 0 0 Q (F0 m 4 ls []) := by
    intro r
    induction r with
    | zero =>
      intro i z hi hF H locs hP hS ls hl
      refine lv_iload_n hx hb dX2_lastHoleBefore_4 rfl (lv_at hl 0 rfl) ?_
      refine lv_aload_n hx hb dX2_lastHoleBefore_5 rfl (lv_at hl 2 rfl) ?_
      refine va_get (D := D) (ci := 2) (v := .int (nI nh)) (C := RX2) (T := TX2) (N := 9) hx hb hts k2 hown hK.1 hP 0 rfl rfl 6 (by decide) (hts (.fieldLink RX2 31 "BoredPipes$Pipe" "holes" "I") (by decide +kernel)) (fun _ h9 => h9) rfl dX2_lastHoleBefore_6 ?_
      refine lv_icmp_ge (tgt := 43) hx hb dX2_lastHoleBefore_9 (by decide) (fun c1 => ?_) (fun c1 => absurd ((nI_le (by omega) (by omega))) c1)
      refine lv_iload_n hx hb dX2_lastHoleBefore_43 rfl (lv_at hl 1 rfl) ?_
      exact ret_RI hQ hx hb hr hlk hS (hF.trans (by first | with_reducible rfl | simp only [fLast, if_pos c1] | simp [fLast, if_pos c1])).symm dX2_lastHoleBefore_44
    | succ r ih_4 =>
      intro i z hi hF H locs hP hS ls hl
      refine lv_iload_n hx hb dX2_lastHoleBefore_4 rfl (lv_at hl 0 rfl) ?_
      refine lv_aload_n hx hb dX2_lastHoleBefore_5 rfl (lv_at hl 2 rfl) ?_
      refine va_get (D := D) (ci := 2) (v := .int (nI nh)) (C := RX2) (T := TX2) (N := 9) hx hb hts k2 hown hK.1 hP 0 rfl rfl 6 (by decide) (hts (.fieldLink RX2 31 "BoredPipes$Pipe" "holes" "I") (by decide +kernel)) (fun _ h9 => h9) rfl dX2_lastHoleBefore_6 ?_
      refine lv_icmp_ge (tgt := 43) hx hb dX2_lastHoleBefore_9 (by decide) (fun c2 => absurd c2 ((nI_ge (by omega) (by omega)))) (fun c2 => ?_)
      refine lv_aload_n hx hb dX2_lastHoleBefore_12 rfl (lv_at hl 2 rfl) ?_
      refine va_get (D := D) (ci := 2) (v := .ref h3) (C := RX2) (T := TX2) (N := 9) hx hb hts k2 hown hK.1 hP 0 rfl rfl 2 (by decide) (hts (.fieldLink RX2 18 "BoredPipes$Pipe" "places" "[I") (by decide +kernel)) (fun _ h9 => h9) rfl dX2_lastHoleBefore_13 ?_
      refine lv_iload_n hx hb dX2_lastHoleBefore_16 rfl (lv_at hl 0 rfl) ?_
      refine rd_i (va_runSN (As := [.ref h3, .int (nI i)]) (rest := []) ⟨hx, hb, hml, hown, hts⟩ (c_X5_at_in l D cI cZ h3 6 pl i (by omega) (by omega)) ⟨va_cnB 2 hts gX2_lastHoleBefore_X5_at_n48 rfl rfl rfl (hN 7 _ rfl) (hts (.initialized RX5) (by decide +kernel)) (by decide +kernel) ⟨Nat.le_of_ble_eq_true rfl, Nat.le_of_ble_eq_true rfl⟩, hts (.static yX5_at) (by decide +kernel), trivial⟩ (PR.S (hP.sub [1] rfl) hK) rfl rfl hl.1 rfl (lv_room (Nat.le_of_ble_eq_true rfl)) dX2_lastHoleBefore_17 ⟨Nat.le_of_ble_eq_true rfl, Nat.le_of_ble_eq_true rfl⟩) hP hS (fun H locs hP hS => ?_)
      refine lv_iload_n hx hb dX2_lastHoleBefore_20 rfl (lv_at hl 3 rfl) ?_
      refine lv_icmp_ge (tgt := 37) hx hb dX2_lastHoleBefore_21 (by decide) (fun c3 => ?_) (fun c3 => ?_)
      · skip
        refine lv_iinc (v := nI (i + 1)) (lv' := [(3, .int (nI (i + 1))), (2, .int z), (0, .ref h), (1, .int v)]) hx hb dX2_lastHoleBefore_37 hl (k := 0) rfl (iinc_1 i) (by decide) rfl (fun ls hl => ?_)
        refine lv_goto (tgt := 4) hx hb dX2_lastHoleBefore_40 (by decide) ?_
        exact ih_4 (i + 1) z (by omega) (hF.trans (by first | with_reducible rfl | simp only [fLast, if_neg c2, if_pos c3] | simp [fLast, if_neg c2, if_pos c3])) _ _ hP hS ls (lv_sub hl [0, 1, 2, 3] rfl)
      · skip
        refine lv_iload_n hx hb dX2_lastHoleBefore_24 rfl (lv_at hl 1 rfl) ?_
        refine lv_aload_n hx hb dX2_lastHoleBefore_25 rfl (lv_at hl 2 rfl) ?_
        refine va_get (D := D) (ci := 2) (v := .ref h3) (C := RX2) (T := TX2) (N := 9) hx hb hts k2 hown hK.1 hP 0 rfl rfl 2 (by decide) (hts (.fieldLink RX2 18 "BoredPipes$Pipe" "places" "[I") (by decide +kernel)) (fun _ h9 => h9) rfl dX2_lastHoleBefore_26 ?_
        refine lv_iload_n hx hb dX2_lastHoleBefore_29 rfl (lv_at hl 0 rfl) ?_
        refine rd_i (va_runSN (As := [.ref h3, .int (nI i)]) (rest := [.int z]) ⟨hx, hb, hml, hown, hts⟩ (c_X5_at_in l D cI cZ h3 6 pl i (by omega) (by omega)) ⟨va_cnB 2 hts gX2_lastHoleBefore_X5_at_n48 rfl rfl rfl (hN 7 _ rfl) (hts (.initialized RX5) (by decide +kernel)) (by decide +kernel) ⟨Nat.le_of_ble_eq_true rfl, Nat.le_of_ble_eq_true rfl⟩, hts (.static yX5_at) (by decide +kernel), trivial⟩ (PR.S (hP.sub [1] rfl) hK) rfl rfl hl.1 rfl (lv_room (Nat.le_of_ble_eq_true rfl)) dX2_lastHoleBefore_30 ⟨Nat.le_of_ble_eq_true rfl, Nat.le_of_ble_eq_true rfl⟩) hP hS (fun H locs hP hS => ?_)
        refine va_mmax hx hb (hml.trans hl.1.symm) hown (hts (.methodLink RX2 56 Lib.Math.max.name) (by decide +kernel)) (hts (.static Lib.Math.max.name) (by decide +kernel)) (hts (.initialized "java/lang/Math") (by decide +kernel)) (hts (.code Lib.Math.max.name Lib.Math.max.code 2 (some .int)) (by decide +kernel)) (Nat.le_of_ble_eq_true rfl) (Nat.le_of_ble_eq_true rfl) (Nat.le_of_ble_eq_true rfl) (Nat.le_of_ble_eq_true rfl) dX2_lastHoleBefore_33 ?_
        refine lv_istore_n (lv' := [(2, .int (if z < (pl i) then pl i else z)), (3, .int (nI i)), (0, .ref h), (1, .int v)]) hx hb dX2_lastHoleBefore_36 rfl hl (by decide) rfl (fun ls hl => ?_)
        refine lv_iinc (v := nI (i + 1)) (lv' := [(3, .int (nI (i + 1))), (2, .int (if z < (pl i) then pl i else z)), (0, .ref h), (1, .int v)]) hx hb dX2_lastHoleBefore_37 hl (k := 1) rfl (iinc_1 i) (by decide) rfl (fun ls hl => ?_)
        refine lv_goto (tgt := 4) hx hb dX2_lastHoleBefore_40 (by decide) ?_
        exact ih_4 (i + 1) (if z < (pl i) then pl i else z) (by omega) (hF.trans (by first | with_reducible rfl | simp only [fLast, if_neg c2, if_neg c3] | simp [fLast, if_neg c2, if_neg c3])) _ _ hP hS ls (lv_sub hl [0, 1, 2, 3] rfl)
  exact lp_4 nh 0 0 (by omega) rfl _ _ hP hS ls (lv_sub hl [0, 1, 2, 3] rfl)

set_option maxHeartbeats 4000000 in
set_option maxRecDepth 100000 in
theorem c_X2_gap (l : Launch) (D : va_G) (cI cZ : ClassId) (h : Nat) (h1 : Nat) (h2 : Nat) (h3 : Nat) (h4 : Nat) (h5 : Nat) (np : Nat) (nh : Nat) (mo : Int32) (fa : Int32) (pl : Nat → Int32) (k : Nat) (w : Int32) (hnh : nh ≤ 6) (hk : k < 6) : Met l yX2_gap wsX2_gap rmX2_gap (va_Pc [.ref h, .int (nI k), .int w] (PR D cI cZ [(h, .inr (2, [.ref h1, .ref h2, .ref h3, .ref h4, .ref h5, .int (nI np), .int (nI nh), .int mo, .int fa])), (h3, .inl (cI, 6, .inl pl))])) (RI (fGap pl k w nh 0 0)) 0 0 nA := by
  refine met_go (cc := cX2_gap) (maxL := 6) (ret := (some .int)) (by decide) rfl ?_ (Nat.le_of_ble_eq_true rfl)
  intro p e s m a below meth c Q hQ _ hx hb hr hml hts hown hlk hnm hpre ls hl
  have hown : s.vm.findClass RX2 = some m.cls := hown
  obtain ⟨hP, hK⟩ := hpre
  have hN := hK.2
  have hS : va_S nA s.heap s.heap [] := va_S.rf
  have hl : lv_has ls 6 [(0, .ref h), (1, .int (nI k)), (2, .int w)] := hl
  have k2 : ∀ w ∈ wsX20, w ∈ wsX2_gap := by decide +kernel
  refine lv_iconst (v := 0) hx hb dX2_gap_0 (by decide) ?_
  refine lv_istore_n (lv' := [(3, .int 0), (0, .ref h), (1, .int (nI k)), (2, .int w)]) hx hb dX2_gap_1 rfl hl (by decide) rfl (fun ls hl => ?_)
  refine lv_iconst (v := 0) hx hb dX2_gap_2 (by decide) ?_
  refine lv_istore (lv' := [(4, .int 0), (3, .int 0), (0, .ref h), (1, .int (nI k)), (2, .int w)]) hx hb dX2_gap_3 hl (by decide) rfl (fun ls hl => ?_)
  have lp_5 : ∀ (r : Nat) (i : Nat) (z : Int32), (i + r = nh) → (fGap pl k w nh 0 0 = fGap pl k w r i z) → ∀ (H : Heap) (locs : List Loc), va_P D vwCl [(h, .inr (2, [.ref h1, .ref h2, .ref h3, .ref h4, .ref h5, .int (nI np), .int (nI nh), .int mo, .int fa])), (h3, .inl (cI, 6, .inl pl))] H → va_S nA s.heap H locs → ∀ (ls : Array Slot), lv_has ls 6 [(4, .int (nI i)), (3, .int z), (0, .ref h), (1, .int (nI k)), (2, .int w)] → W p l e rmX2_gap s m a below meth c H locs 0 0 Q (F0 m 5 ls []) := by
    intro r
    induction r with
    | zero =>
      intro i z hi hF H locs hP hS ls hl
      refine lv_iload hx hb dX2_gap_5 (lv_at hl 0 rfl) ?_
      refine lv_aload_n hx hb dX2_gap_7 rfl (lv_at hl 2 rfl) ?_
      refine va_get (D := D) (ci := 2) (v := .int (nI nh)) (C := RX2) (T := TX2) (N := 9) hx hb hts k2 hown hK.1 hP 0 rfl rfl 6 (by decide) (hts (.fieldLink RX2 31 "BoredPipes$Pipe" "holes" "I") (by decide +kernel)) (fun _ h9 => h9) rfl dX2_gap_8 ?_
      refine lv_icmp_ge (tgt := 60) hx hb dX2_gap_11 (by decide) (fun c1 => ?_) (fun c1 => absurd ((nI_le (by omega) (by omega))) c1)
      refine lv_iload_n hx hb dX2_gap_60 rfl (lv_at hl 1 rfl) ?_
      exact ret_RI hQ hx hb hr hlk hS (hF.trans (by first | with_reducible rfl | simp only [fGap, if_pos c1] | simp [fGap, if_pos c1])).symm dX2_gap_61
    | succ r ih_5 =>
      intro i z hi hF H locs hP hS ls hl
      refine lv_iload hx hb dX2_gap_5 (lv_at hl 0 rfl) ?_
      refine lv_aload_n hx hb dX2_gap_7 rfl (lv_at hl 2 rfl) ?_
      refine va_get (D := D) (ci := 2) (v := .int (nI nh)) (C := RX2) (T := TX2) (N := 9) hx hb hts k2 hown hK.1 hP 0 rfl rfl 6 (by decide) (hts (.fieldLink RX2 31 "BoredPipes$Pipe" "holes" "I") (by decide +kernel)) (fun _ h9 => h9) rfl dX2_gap_8 ?_
      refine lv_icmp_ge (tgt := 60) hx hb dX2_gap_11 (by decide) (fun c2 => absurd c2 ((nI_ge (by omega) (by omega)))) (fun c2 => ?_)
      refine lv_aload_n hx hb dX2_gap_14 rfl (lv_at hl 2 rfl) ?_
      refine va_get (D := D) (ci := 2) (v := .ref h3) (C := RX2) (T := TX2) (N := 9) hx hb hts k2 hown hK.1 hP 0 rfl rfl 2 (by decide) (hts (.fieldLink RX2 18 "BoredPipes$Pipe" "places" "[I") (by decide +kernel)) (fun _ h9 => h9) rfl dX2_gap_15 ?_
      refine lv_iload hx hb dX2_gap_18 (lv_at hl 0 rfl) ?_
      refine rd_i (va_runSN (As := [.ref h3, .int (nI i)]) (rest := []) ⟨hx, hb, hml, hown, hts⟩ (c_X5_at_in l D cI cZ h3 6 pl i (by omega) (by omega)) ⟨va_cnB 2 hts gX2_gap_X5_at_n48 rfl rfl rfl (hN 7 _ rfl) (hts (.initialized RX5) (by decide +kernel)) (by decide +kernel) ⟨Nat.le_of_ble_eq_true rfl, Nat.le_of_ble_eq_true rfl⟩, hts (.static yX5_at) (by decide +kernel), trivial⟩ (PR.S (hP.sub [1] rfl) hK) rfl rfl hl.1 rfl (lv_room (Nat.le_of_ble_eq_true rfl)) dX2_gap_20 ⟨Nat.le_of_ble_eq_true rfl, Nat.le_of_ble_eq_true rfl⟩) hP hS (fun H locs hP hS => ?_)
      refine lv_aload_n hx hb dX2_gap_23 rfl (lv_at hl 2 rfl) ?_
      refine va_get (D := D) (ci := 2) (v := .ref h3) (C := RX2) (T := TX2) (N := 9) hx hb hts k2 hown hK.1 hP 0 rfl rfl 2 (by decide) (hts (.fieldLink RX2 18 "BoredPipes$Pipe" "places" "[I") (by decide +kernel)) (fun _ h9 => h9) rfl dX2_gap_24 ?_
      refine lv_iload_n hx hb dX2_gap_27 rfl (lv_at hl 3 rfl) ?_
      refine rd_i (va_runSN (As := [.ref h3, .int (nI k)]) (rest := [.int (pl i)]) ⟨hx, hb, hml, hown, hts⟩ (c_X5_at_in l D cI cZ h3 6 pl k (by omega) (by omega)) ⟨va_cnB 2 hts gX2_gap_X5_at_n48 rfl rfl rfl (hN 7 _ rfl) (hts (.initialized RX5) (by decide +kernel)) (by decide +kernel) ⟨Nat.le_of_ble_eq_true rfl, Nat.le_of_ble_eq_true rfl⟩, hts (.static yX5_at) (by decide +kernel), trivial⟩ (PR.S (hP.sub [1] rfl) hK) rfl rfl hl.1 rfl (lv_room (Nat.le_of_ble_eq_true rfl)) dX2_gap_28 ⟨Nat.le_of_ble_eq_true rfl, Nat.le_of_ble_eq_true rfl⟩) hP hS (fun H locs hP hS => ?_)
      refine lv_isub hx hb dX2_gap_31 ?_
      refine lv_iload_n hx hb dX2_gap_32 rfl (lv_at hl 4 rfl) ?_
      refine lv_imul hx hb dX2_gap_33 ?_
      refine lv_eqi rfl ?_
      refine lv_istore (lv' := [(5, .int (fGapD pl k w i)), (4, .int (nI i)), (3, .int z), (0, .ref h), (1, .int (nI k)), (2, .int w)]) hx hb dX2_gap_34 hl (by decide) rfl (fun ls hl => ?_)
      refine lv_iload hx hb dX2_gap_36 (lv_at hl 0 rfl) ?_
      refine lv_if_le (tgt := 54) hx hb dX2_gap_38 (by decide) (fun c3 => ?_) (fun c3 => ?_)
      · skip
        refine lv_iinc (v := nI (i + 1)) (lv' := [(4, .int (nI (i + 1))), (5, .int (fGapD pl k w i)), (3, .int z), (0, .ref h), (1, .int (nI k)), (2, .int w)]) hx hb dX2_gap_54 hl (k := 1) rfl (iinc_1 i) (by decide) rfl (fun ls hl => ?_)
        refine lv_goto (tgt := 5) hx hb dX2_gap_57 (by decide) ?_
        exact ih_5 (i + 1) z (by omega) (hF.trans (by first | with_reducible rfl | simp only [fGap, if_neg c2, if_pos c3] | simp [fGap, if_neg c2, if_pos c3])) _ _ hP hS ls (lv_sub hl [0, 2, 3, 4, 5] rfl)
      · skip
        refine lv_iload_n hx hb dX2_gap_41 rfl (lv_at hl 2 rfl) ?_
        refine lv_if_eq (tgt := 51) hx hb dX2_gap_42 (by decide) (fun c4 => ?_) (fun c4 => ?_)
        · skip
          refine lv_iload hx hb dX2_gap_51 (lv_at hl 0 rfl) ?_
          refine lv_istore_n (lv' := [(3, .int (fGapD pl k w i)), (5, .int (fGapD pl k w i)), (4, .int (nI i)), (0, .ref h), (1, .int (nI k)), (2, .int w)]) hx hb dX2_gap_53 rfl hl (by decide) rfl (fun ls hl => ?_)
          refine lv_iinc (v := nI (i + 1)) (lv' := [(4, .int (nI (i + 1))), (3, .int (fGapD pl k w i)), (5, .int (fGapD pl k w i)), (0, .ref h), (1, .int (nI k)), (2, .int w)]) hx hb dX2_gap_54 hl (k := 2) rfl (iinc_1 i) (by decide) rfl (fun ls hl => ?_)
          refine lv_goto (tgt := 5) hx hb dX2_gap_57 (by decide) ?_
          exact ih_5 (i + 1) (fGapD pl k w i) (by omega) (hF.trans (by first | with_reducible rfl | simp only [fGap, if_neg c2, if_neg c3, if_pos c4] | simp [fGap, if_neg c2, if_neg c3, if_pos c4])) _ _ hP hS ls (lv_sub hl [0, 1, 3, 4, 5] rfl)
        · skip
          refine lv_iload hx hb dX2_gap_45 (lv_at hl 0 rfl) ?_
          refine lv_iload_n hx hb dX2_gap_47 rfl (lv_at hl 2 rfl) ?_
          refine lv_icmp_ge (tgt := 54) hx hb dX2_gap_48 (by decide) (fun c5 => ?_) (fun c5 => ?_)
          · skip
            refine lv_iinc (v := nI (i + 1)) (lv' := [(4, .int (nI (i + 1))), (5, .int (fGapD pl k w i)), (3, .int z), (0, .ref h), (1, .int (nI k)), (2, .int w)]) hx hb dX2_gap_54 hl (k := 1) rfl (iinc_1 i) (by decide) rfl (fun ls hl => ?_)
            refine lv_goto (tgt := 5) hx hb dX2_gap_57 (by decide) ?_
            exact ih_5 (i + 1) z (by omega) (hF.trans (by first | with_reducible rfl | simp only [fGap, if_neg c2, if_neg c3, if_neg c4, if_pos c5] | simp [fGap, if_neg c2, if_neg c3, if_neg c4, if_pos c5])) _ _ hP hS ls (lv_sub hl [0, 2, 3, 4, 5] rfl)
          · skip
            refine lv_iload hx hb dX2_gap_51 (lv_at hl 0 rfl) ?_
            refine lv_istore_n (lv' := [(3, .int (fGapD pl k w i)), (5, .int (fGapD pl k w i)), (4, .int (nI i)), (0, .ref h), (1, .int (nI k)), (2, .int w)]) hx hb dX2_gap_53 rfl hl (by decide) rfl (fun ls hl => ?_)
            refine lv_iinc (v := nI (i + 1)) (lv' := [(4, .int (nI (i + 1))), (3, .int (fGapD pl k w i)), (5, .int (fGapD pl k w i)), (0, .ref h), (1, .int (nI k)), (2, .int w)]) hx hb dX2_gap_54 hl (k := 2) rfl (iinc_1 i) (by decide) rfl (fun ls hl => ?_)
            refine lv_goto (tgt := 5) hx hb dX2_gap_57 (by decide) ?_
            exact ih_5 (i + 1) (fGapD pl k w i) (by omega) (hF.trans (by first | with_reducible rfl | simp only [fGap, if_neg c2, if_neg c3, if_neg c4, if_neg c5] | simp [fGap, if_neg c2, if_neg c3, if_neg c4, if_neg c5])) _ _ hP hS ls (lv_sub hl [0, 1, 3, 4, 5] rfl)
  exact lp_5 nh 0 0 (by omega) rfl _ _ hP hS ls (lv_sub hl [0, 1, 2, 3, 4] rfl)

set_option maxHeartbeats 4000000 in
set_option maxRecDepth 100000 in
theorem c_X2_rowOf (l : Launch) (D : va_G) (cI cZ : ClassId) (h : Nat) (h1 : Nat) (h2 : Nat) (h3 : Nat) (h4 : Nat) (h5 : Nat) (np : Nat) (nh : Nat) (mo : Int32) (fa : Int32) (ln : Nat → Int32) (bo : Nat → Int32) (pl : Nat → Int32) (sz : Nat → Int32) (ch : Nat → Int32) (v : Int32)  : Met l yX2_rowOf wsX2_rowOf rmX2_rowOf (va_Pc [.ref h, .int v] (PR D cI cZ [(h, .inr (2, [.ref h1, .ref h2, .ref h3, .ref h4, .ref h5, .int (nI np), .int (nI nh), .int mo, .int fa])), (h1, .inl (cI, 12, .inl ln)), (h2, .inl (cI, 12, .inl bo)), (h3, .inl (cI, 6, .inl pl)), (h4, .inl (cI, 6, .inl sz)), (h5, .inl (cI, 6, .inl ch))])) (RR (fRowOf h3 h4 h5 v)) 0 0 nA := by
  refine met_go (cc := cX2_rowOf) (maxL := 2) (ret := (some (.array .int))) (by decide) rfl ?_ (Nat.le_of_ble_eq_true rfl)
  intro p e s m a below meth c Q hQ _ hx hb hr hml hts hown hlk hnm hpre ls hl
  have hown : s.vm.findClass RX2 = some m.cls := hown
  obtain ⟨hP, hK⟩ := hpre
  have hN := hK.2
  have hS : va_S nA s.heap s.heap [] := va_S.rf
  have hl : lv_has ls 2 [(0, .ref h), (1, .int v)] := hl
  have k2 : ∀ w ∈ wsX20, w ∈ wsX2_rowOf := by decide +kernel
  refine lv_iload_n hx hb dX2_rowOf_0 rfl (lv_at hl 1 rfl) ?_
  refine lv_if_ne (tgt := 11) hx hb dX2_rowOf_1 (by decide) (fun c1 => ?_) (fun c1 => ?_)
  · skip
    refine lv_iload_n hx hb dX2_rowOf_11 rfl (lv_at hl 1 rfl) ?_
    refine lv_iconst (v := 1) hx hb dX2_rowOf_12 (by decide) ?_
    refine lv_icmp_ne (tgt := 23) hx hb dX2_rowOf_13 (by decide) (fun c2 => ?_) (fun c2 => ?_)
    · skip
      refine lv_aload_n hx hb dX2_rowOf_23 rfl (lv_at hl 0 rfl) ?_
      refine va_get (D := D) (ci := 2) (v := .ref h5) (C := RX2) (T := TX2) (N := 9) hx hb hts k2 hown hK.1 hP 0 rfl rfl 4 (by decide) (hts (.fieldLink RX2 24 "BoredPipes$Pipe" "chimneys" "[I") (by decide +kernel)) (fun _ h9 => h9) rfl dX2_rowOf_24 ?_
      exact ret_RR hQ hx hb hr (Or.inr ⟨_, rfl⟩) hlk hS (show fRowOf h3 h4 h5 v = h5 from (by first | with_reducible rfl | simp only [fRowOf, if_neg c1, if_neg c2] | simp [fRowOf, if_neg c1, if_neg c2])).symm dX2_rowOf_27
    · skip
      refine lv_aload_n hx hb dX2_rowOf_16 rfl (lv_at hl 0 rfl) ?_
      refine va_get (D := D) (ci := 2) (v := .ref h4) (C := RX2) (T := TX2) (N := 9) hx hb hts k2 hown hK.1 hP 0 rfl rfl 3 (by decide) (hts (.fieldLink RX2 21 "BoredPipes$Pipe" "sizes" "[I") (by decide +kernel)) (fun _ h9 => h9) rfl dX2_rowOf_17 ?_
      refine lv_goto (tgt := 27) hx hb dX2_rowOf_20 (by decide) ?_
      exact ret_RR hQ hx hb hr (Or.inr ⟨_, rfl⟩) hlk hS (show fRowOf h3 h4 h5 v = h4 from (by first | with_reducible rfl | simp only [fRowOf, if_neg c1, if_pos c2] | simp [fRowOf, if_neg c1, if_pos c2])).symm dX2_rowOf_27
  · skip
    refine lv_aload_n hx hb dX2_rowOf_4 rfl (lv_at hl 0 rfl) ?_
    refine va_get (D := D) (ci := 2) (v := .ref h3) (C := RX2) (T := TX2) (N := 9) hx hb hts k2 hown hK.1 hP 0 rfl rfl 2 (by decide) (hts (.fieldLink RX2 18 "BoredPipes$Pipe" "places" "[I") (by decide +kernel)) (fun _ h9 => h9) rfl dX2_rowOf_5 ?_
    refine lv_goto (tgt := 27) hx hb dX2_rowOf_8 (by decide) ?_
    exact ret_RR hQ hx hb hr (Or.inr ⟨_, rfl⟩) hlk hS (show fRowOf h3 h4 h5 v = h3 from (by first | with_reducible rfl | simp only [fRowOf, if_pos c1] | simp [fRowOf, if_pos c1])).symm dX2_rowOf_27

set_option maxHeartbeats 4000000 in
set_option maxRecDepth 100000 in
theorem c_X2_empty (l : Launch) (D : va_G) (cI cZ : ClassId) (h : Nat) (h1 : Nat) (h2 : Nat) (h3 : Nat) (h4 : Nat) (h5 : Nat) (np : Nat) (nh : Nat) (mo : Int32) (fa : Int32)  : Met l yX2_empty wsX2_empty rmX2_empty (va_Pc [.ref h] (PW D cI cZ [(h, .inr (2, [.ref h1, .ref h2, .ref h3, .ref h4, .ref h5, .int (nI np), .int (nI nh), .int mo, .int fa]))])) (WV (S := Unit) D (fun _ => True) (fun _ => [(h, .inr (2, [.ref h1, .ref h2, .ref h3, .ref h4, .ref h5, .int 0, .int 0, .int 0, .int 0]))]) [(h, .inr (2, [.ref h1, .ref h2, .ref h3, .ref h4, .ref h5, .int (nI np), .int (nI nh), .int mo, .int fa]))]) 0 0 (ad [(h, .inr (2, [.ref h1, .ref h2, .ref h3, .ref h4, .ref h5, .int (nI np), .int (nI nh), .int mo, .int fa]))]) := by
  refine met_go (cc := cX2_empty) (maxL := 1) (ret := none) (by decide) rfl ?_ (Nat.le_of_ble_eq_true rfl)
  intro p e s m a below meth c Q hQ _ hx hb hr hml hts hown hlk hnm hpre ls hl
  have hown : s.vm.findClass RX2 = some m.cls := hown
  obtain ⟨hP, hK, hD0⟩ := hpre
  have hN := hK.2
  obtain ⟨A, hAe⟩ : ∃ A : Nat → Prop, A = ad [(h, .inr (2, [.ref h1, .ref h2, .ref h3, .ref h4, .ref h5, .int (nI np), .int (nI nh), .int mo, .int fa]))] := ⟨_, rfl⟩
  have hD : va_D A [(h, .inr (2, [.ref h1, .ref h2, .ref h3, .ref h4, .ref h5, .int (nI np), .int (nI nh), .int mo, .int fa]))] := by rw [hAe]; exact hD0.ad
  have hS : va_S A s.heap s.heap [] := va_S.rf
  have hl : lv_has ls 1 [(0, .ref h)] := hl
  have k2 : ∀ w ∈ wsX20, w ∈ wsX2_empty := by decide +kernel
  refine lv_aload_n hx hb dX2_empty_0 rfl (lv_at hl 0 rfl) ?_
  refine lv_iconst (v := 0) hx hb dX2_empty_1 (by decide) ?_
  refine va_put (D := D) (ci := 2) (v := .int 0) (ty := .int) (C := RX2) (T := TX2) (N := 9) hx hb hts k2 tyX2 tyX2_ok nmX2 hown hK.1 hP hD hS 0 rfl rfl 5 (by decide) (hts (.fieldLink RX2 27 "BoredPipes$Pipe" "pieces" "I") (by decide +kernel)) (fun _ h9 => h9) rfl (by decide +kernel) rfl rfl (Nat.le_of_ble_eq_true rfl) dX2_empty_2 (fun H locs hP hD hS => ?_)
  have hP : va_P D vwCl [(h, .inr (2, [.ref h1, .ref h2, .ref h3, .ref h4, .ref h5, .int 0, .int (nI nh), .int mo, .int fa]))] H := hP
  have hD : va_D A [(h, .inr (2, [.ref h1, .ref h2, .ref h3, .ref h4, .ref h5, .int 0, .int (nI nh), .int mo, .int fa]))] := hD
  refine lv_aload_n hx hb dX2_empty_5 rfl (lv_at hl 0 rfl) ?_
  refine lv_iconst (v := 0) hx hb dX2_empty_6 (by decide) ?_
  refine va_put (D := D) (ci := 2) (v := .int 0) (ty := .int) (C := RX2) (T := TX2) (N := 9) hx hb hts k2 tyX2 tyX2_ok nmX2 hown hK.1 hP hD hS 0 rfl rfl 6 (by decide) (hts (.fieldLink RX2 31 "BoredPipes$Pipe" "holes" "I") (by decide +kernel)) (fun _ h9 => h9) rfl (by decide +kernel) rfl rfl (Nat.le_of_ble_eq_true rfl) dX2_empty_7 (fun H locs hP hD hS => ?_)
  have hP : va_P D vwCl [(h, .inr (2, [.ref h1, .ref h2, .ref h3, .ref h4, .ref h5, .int 0, .int 0, .int mo, .int fa]))] H := hP
  have hD : va_D A [(h, .inr (2, [.ref h1, .ref h2, .ref h3, .ref h4, .ref h5, .int 0, .int 0, .int mo, .int fa]))] := hD
  refine lv_aload_n hx hb dX2_empty_10 rfl (lv_at hl 0 rfl) ?_
  refine lv_iconst (v := 0) hx hb dX2_empty_11 (by decide) ?_
  refine va_put (D := D) (ci := 2) (v := .int 0) (ty := .int) (C := RX2) (T := TX2) (N := 9) hx hb hts k2 tyX2 tyX2_ok nmX2 hown hK.1 hP hD hS 0 rfl rfl 7 (by decide) (hts (.fieldLink RX2 34 "BoredPipes$Pipe" "mouth" "I") (by decide +kernel)) (fun _ h9 => h9) rfl (by decide +kernel) rfl rfl (Nat.le_of_ble_eq_true rfl) dX2_empty_12 (fun H locs hP hD hS => ?_)
  have hP : va_P D vwCl [(h, .inr (2, [.ref h1, .ref h2, .ref h3, .ref h4, .ref h5, .int 0, .int 0, .int 0, .int fa]))] H := hP
  have hD : va_D A [(h, .inr (2, [.ref h1, .ref h2, .ref h3, .ref h4, .ref h5, .int 0, .int 0, .int 0, .int fa]))] := hD
  refine lv_aload_n hx hb dX2_empty_15 rfl (lv_at hl 0 rfl) ?_
  refine lv_iconst (v := 0) hx hb dX2_empty_16 (by decide) ?_
  refine va_put (D := D) (ci := 2) (v := .int 0) (ty := .int) (C := RX2) (T := TX2) (N := 9) hx hb hts k2 tyX2 tyX2_ok nmX2 hown hK.1 hP hD hS 0 rfl rfl 8 (by decide) (hts (.fieldLink RX2 37 "BoredPipes$Pipe" "farEnd" "I") (by decide +kernel)) (fun _ h9 => h9) rfl (by decide +kernel) rfl rfl (Nat.le_of_ble_eq_true rfl) dX2_empty_17 (fun H locs hP hD hS => ?_)
  have hP : va_P D vwCl [(h, .inr (2, [.ref h1, .ref h2, .ref h3, .ref h4, .ref h5, .int 0, .int 0, .int 0, .int 0]))] H := hP
  have hD : va_D A [(h, .inr (2, [.ref h1, .ref h2, .ref h3, .ref h4, .ref h5, .int 0, .int 0, .int 0, .int 0]))] := hD
  exact ret_WV hQ hx hb hr hlk hAe () hP hS trivial dX2_empty_20

set_option maxHeartbeats 4000000 in
set_option maxRecDepth 100000 in
theorem c_X2_addPiece (l : Launch) (D : va_G) (cI cZ : ClassId) (h : Nat) (h1 : Nat) (h2 : Nat) (h3 : Nat) (h4 : Nat) (h5 : Nat) (np : Nat) (nh : Nat) (mo : Int32) (fa : Int32) (ln : Nat → Int32) (bo : Nat → Int32) (x : Int32) (y : Int32) (hnp : np < 12) : Met l yX2_addPiece wsX2_addPiece rmX2_addPiece (va_Pc [.ref h, .int x, .int y] (PW D cI cZ [(h, .inr (2, [.ref h1, .ref h2, .ref h3, .ref h4, .ref h5, .int (nI np), .int (nI nh), .int mo, .int fa])), (h1, .inl (cI, 12, .inl ln)), (h2, .inl (cI, 12, .inl bo))])) (WV (S := Unit) D (fun _ => True) (fun _ => [(h, .inr (2, [.ref h1, .ref h2, .ref h3, .ref h4, .ref h5, .int (nI (np + 1)), .int (nI nh), .int mo, .int fa])), (h1, .inl (cI, 12, .inl (upd ln np x))), (h2, .inl (cI, 12, .inl (upd bo np y)))]) [(h, .inr (2, [.ref h1, .ref h2, .ref h3, .ref h4, .ref h5, .int (nI np), .int (nI nh), .int mo, .int fa])), (h1, .inl (cI, 12, .inl ln)), (h2, .inl (cI, 12, .inl bo))]) 0 0 (ad [(h, .inr (2, [.ref h1, .ref h2, .ref h3, .ref h4, .ref h5, .int (nI np), .int (nI nh), .int mo, .int fa])), (h1, .inl (cI, 12, .inl ln)), (h2, .inl (cI, 12, .inl bo))]) := by
  refine met_go (cc := cX2_addPiece) (maxL := 3) (ret := none) (by decide) rfl ?_ (Nat.le_of_ble_eq_true rfl)
  intro p e s m a below meth c Q hQ _ hx hb hr hml hts hown hlk hnm hpre ls hl
  have hown : s.vm.findClass RX2 = some m.cls := hown
  obtain ⟨hP, hK, hD0⟩ := hpre
  have hN := hK.2
  obtain ⟨A, hAe⟩ : ∃ A : Nat → Prop, A = ad [(h, .inr (2, [.ref h1, .ref h2, .ref h3, .ref h4, .ref h5, .int (nI np), .int (nI nh), .int mo, .int fa])), (h1, .inl (cI, 12, .inl ln)), (h2, .inl (cI, 12, .inl bo))] := ⟨_, rfl⟩
  have hD : va_D A [(h, .inr (2, [.ref h1, .ref h2, .ref h3, .ref h4, .ref h5, .int (nI np), .int (nI nh), .int mo, .int fa])), (h1, .inl (cI, 12, .inl ln)), (h2, .inl (cI, 12, .inl bo))] := by rw [hAe]; exact hD0.ad
  have hS : va_S A s.heap s.heap [] := va_S.rf
  have hl : lv_has ls 3 [(0, .ref h), (1, .int x), (2, .int y)] := hl
  have k2 : ∀ w ∈ wsX20, w ∈ wsX2_addPiece := by decide +kernel
  refine lv_aload_n hx hb dX2_addPiece_0 rfl (lv_at hl 0 rfl) ?_
  refine va_get (D := D) (ci := 2) (v := .ref h1) (C := RX2) (T := TX2) (N := 9) hx hb hts k2 hown hK.1 hP 0 rfl rfl 0 (by decide) (hts (.fieldLink RX2 9 "BoredPipes$Pipe" "lengths" "[I") (by decide +kernel)) (fun _ h9 => h9) rfl dX2_addPiece_1 ?_
  refine lv_aload_n hx hb dX2_addPiece_4 rfl (lv_at hl 0 rfl) ?_
  refine va_get (D := D) (ci := 2) (v := .int (nI np)) (C := RX2) (T := TX2) (N := 9) hx hb hts k2 hown hK.1 hP 0 rfl rfl 5 (by decide) (hts (.fieldLink RX2 27 "BoredPipes$Pipe" "pieces" "I") (by decide +kernel)) (fun _ h9 => h9) rfl dX2_addPiece_5 ?_
  refine lv_iload_n hx hb dX2_addPiece_8 rfl (lv_at hl 1 rfl) ?_
  refine wr_v (va_runSN (As := [.ref h1, .int (nI np), .int x]) (rest := []) ⟨hx, hb, hml, hown, hts⟩ (c_X5_put_in l D cI cZ h1 12 ln np x (by omega) (by omega)) ⟨va_cnB 3 hts gX2_addPiece_X5_put_n40 rfl rfl rfl (hN 6 _ rfl) (hts (.initialized RX5) (by decide +kernel)) (by decide +kernel) ⟨Nat.le_of_ble_eq_true rfl, Nat.le_of_ble_eq_true rfl⟩, hts (.static yX5_put) (by decide +kernel), trivial⟩ (PW.S (hP.sub [1] rfl) hK ((hD.sub [1] (by decide) rfl).weaken (fun _ _ _ _ => trivial))) rfl rfl hl.1 rfl (lv_room (Nat.le_of_ble_eq_true rfl)) dX2_addPiece_9 ⟨Nat.le_of_ble_eq_true rfl, Nat.le_of_ble_eq_true rfl⟩) hP hD hS [1] rfl (fun _ => rfl) (fun u1 H locs hu1 hP hD hS => ?_)
  have hP : va_P D vwCl [(h, .inr (2, [.ref h1, .ref h2, .ref h3, .ref h4, .ref h5, .int (nI np), .int (nI nh), .int mo, .int fa])), (h1, .inl (cI, 12, .inl (upd ln np x))), (h2, .inl (cI, 12, .inl bo))] H := hP
  have hD : va_D A [(h, .inr (2, [.ref h1, .ref h2, .ref h3, .ref h4, .ref h5, .int (nI np), .int (nI nh), .int mo, .int fa])), (h1, .inl (cI, 12, .inl (upd ln np x))), (h2, .inl (cI, 12, .inl bo))] := hD
  refine lv_aload_n hx hb dX2_addPiece_12 rfl (lv_at hl 0 rfl) ?_
  refine va_get (D := D) (ci := 2) (v := .ref h2) (C := RX2) (T := TX2) (N := 9) hx hb hts k2 hown hK.1 hP 0 rfl rfl 1 (by decide) (hts (.fieldLink RX2 15 "BoredPipes$Pipe" "bores" "[I") (by decide +kernel)) (fun _ h9 => h9) rfl dX2_addPiece_13 ?_
  refine lv_aload_n hx hb dX2_addPiece_16 rfl (lv_at hl 0 rfl) ?_
  refine va_get (D := D) (ci := 2) (v := .int (nI np)) (C := RX2) (T := TX2) (N := 9) hx hb hts k2 hown hK.1 hP 0 rfl rfl 5 (by decide) (hts (.fieldLink RX2 27 "BoredPipes$Pipe" "pieces" "I") (by decide +kernel)) (fun _ h9 => h9) rfl dX2_addPiece_17 ?_
  refine lv_iload_n hx hb dX2_addPiece_20 rfl (lv_at hl 2 rfl) ?_
  refine wr_v (va_runSN (As := [.ref h2, .int (nI np), .int y]) (rest := []) ⟨hx, hb, hml, hown, hts⟩ (c_X5_put_in l D cI cZ h2 12 bo np y (by omega) (by omega)) ⟨va_cnB 3 hts gX2_addPiece_X5_put_n40 rfl rfl rfl (hN 6 _ rfl) (hts (.initialized RX5) (by decide +kernel)) (by decide +kernel) ⟨Nat.le_of_ble_eq_true rfl, Nat.le_of_ble_eq_true rfl⟩, hts (.static yX5_put) (by decide +kernel), trivial⟩ (PW.S (hP.sub [2] rfl) hK ((hD.sub [2] (by decide) rfl).weaken (fun _ _ _ _ => trivial))) rfl rfl hl.1 rfl (lv_room (Nat.le_of_ble_eq_true rfl)) dX2_addPiece_21 ⟨Nat.le_of_ble_eq_true rfl, Nat.le_of_ble_eq_true rfl⟩) hP hD hS [2] rfl (fun _ => rfl) (fun u2 H locs hu2 hP hD hS => ?_)
  have hP : va_P D vwCl [(h, .inr (2, [.ref h1, .ref h2, .ref h3, .ref h4, .ref h5, .int (nI np), .int (nI nh), .int mo, .int fa])), (h1, .inl (cI, 12, .inl (upd ln np x))), (h2, .inl (cI, 12, .inl (upd bo np y)))] H := hP
  have hD : va_D A [(h, .inr (2, [.ref h1, .ref h2, .ref h3, .ref h4, .ref h5, .int (nI np), .int (nI nh), .int mo, .int fa])), (h1, .inl (cI, 12, .inl (upd ln np x))), (h2, .inl (cI, 12, .inl (upd bo np y)))] := hD
  refine lv_aload_n hx hb dX2_addPiece_24 rfl (lv_at hl 0 rfl) ?_
  refine lv_dup hx hb dX2_addPiece_25 rfl ?_
  refine va_get (D := D) (ci := 2) (v := .int (nI np)) (C := RX2) (T := TX2) (N := 9) hx hb hts k2 hown hK.1 hP 0 rfl rfl 5 (by decide) (hts (.fieldLink RX2 27 "BoredPipes$Pipe" "pieces" "I") (by decide +kernel)) (fun _ h9 => h9) rfl dX2_addPiece_26 ?_
  refine lv_iconst (v := 1) hx hb dX2_addPiece_29 (by decide) ?_
  refine nn_iadd hx hb dX2_addPiece_30 (x := np) (y := 1) rfl rfl ?_
  refine va_put (D := D) (ci := 2) (v := .int (nI (np + 1))) (ty := .int) (C := RX2) (T := TX2) (N := 9) hx hb hts k2 tyX2 tyX2_ok nmX2 hown hK.1 hP hD hS 0 rfl rfl 5 (by decide) (hts (.fieldLink RX2 27 "BoredPipes$Pipe" "pieces" "I") (by decide +kernel)) (fun _ h9 => h9) rfl (by decide +kernel) rfl rfl (Nat.le_of_ble_eq_true rfl) dX2_addPiece_31 (fun H locs hP hD hS => ?_)
  have hP : va_P D vwCl [(h, .inr (2, [.ref h1, .ref h2, .ref h3, .ref h4, .ref h5, .int (nI (np + 1)), .int (nI nh), .int mo, .int fa])), (h1, .inl (cI, 12, .inl (upd ln np x))), (h2, .inl (cI, 12, .inl (upd bo np y)))] H := hP
  have hD : va_D A [(h, .inr (2, [.ref h1, .ref h2, .ref h3, .ref h4, .ref h5, .int (nI (np + 1)), .int (nI nh), .int mo, .int fa])), (h1, .inl (cI, 12, .inl (upd ln np x))), (h2, .inl (cI, 12, .inl (upd bo np y)))] := hD
  exact ret_WV hQ hx hb hr hlk hAe () hP hS trivial dX2_addPiece_34

set_option maxHeartbeats 4000000 in
set_option maxRecDepth 100000 in
theorem c_X2_addHole (l : Launch) (D : va_G) (cI cZ : ClassId) (h : Nat) (h1 : Nat) (h2 : Nat) (h3 : Nat) (h4 : Nat) (h5 : Nat) (np : Nat) (nh : Nat) (mo : Int32) (fa : Int32) (pl : Nat → Int32) (sz : Nat → Int32) (ch : Nat → Int32) (x : Int32) (y : Int32) (z : Int32) (hnh : nh < 6) : Met l yX2_addHole wsX2_addHole rmX2_addHole (va_Pc [.ref h, .int x, .int y, .int z] (PW D cI cZ [(h, .inr (2, [.ref h1, .ref h2, .ref h3, .ref h4, .ref h5, .int (nI np), .int (nI nh), .int mo, .int fa])), (h3, .inl (cI, 6, .inl pl)), (h4, .inl (cI, 6, .inl sz)), (h5, .inl (cI, 6, .inl ch))])) (WV (S := Unit) D (fun _ => True) (fun _ => [(h, .inr (2, [.ref h1, .ref h2, .ref h3, .ref h4, .ref h5, .int (nI np), .int (nI (nh + 1)), .int mo, .int fa])), (h3, .inl (cI, 6, .inl (upd pl nh x))), (h4, .inl (cI, 6, .inl (upd sz nh y))), (h5, .inl (cI, 6, .inl (upd ch nh z)))]) [(h, .inr (2, [.ref h1, .ref h2, .ref h3, .ref h4, .ref h5, .int (nI np), .int (nI nh), .int mo, .int fa])), (h3, .inl (cI, 6, .inl pl)), (h4, .inl (cI, 6, .inl sz)), (h5, .inl (cI, 6, .inl ch))]) 0 0 (ad [(h, .inr (2, [.ref h1, .ref h2, .ref h3, .ref h4, .ref h5, .int (nI np), .int (nI nh), .int mo, .int fa])), (h3, .inl (cI, 6, .inl pl)), (h4, .inl (cI, 6, .inl sz)), (h5, .inl (cI, 6, .inl ch))]) := by
  refine met_go (cc := cX2_addHole) (maxL := 4) (ret := none) (by decide) rfl ?_ (Nat.le_of_ble_eq_true rfl)
  intro p e s m a below meth c Q hQ _ hx hb hr hml hts hown hlk hnm hpre ls hl
  have hown : s.vm.findClass RX2 = some m.cls := hown
  obtain ⟨hP, hK, hD0⟩ := hpre
  have hN := hK.2
  obtain ⟨A, hAe⟩ : ∃ A : Nat → Prop, A = ad [(h, .inr (2, [.ref h1, .ref h2, .ref h3, .ref h4, .ref h5, .int (nI np), .int (nI nh), .int mo, .int fa])), (h3, .inl (cI, 6, .inl pl)), (h4, .inl (cI, 6, .inl sz)), (h5, .inl (cI, 6, .inl ch))] := ⟨_, rfl⟩
  have hD : va_D A [(h, .inr (2, [.ref h1, .ref h2, .ref h3, .ref h4, .ref h5, .int (nI np), .int (nI nh), .int mo, .int fa])), (h3, .inl (cI, 6, .inl pl)), (h4, .inl (cI, 6, .inl sz)), (h5, .inl (cI, 6, .inl ch))] := by rw [hAe]; exact hD0.ad
  have hS : va_S A s.heap s.heap [] := va_S.rf
  have hl : lv_has ls 4 [(0, .ref h), (1, .int x), (2, .int y), (3, .int z)] := hl
  have k2 : ∀ w ∈ wsX20, w ∈ wsX2_addHole := by decide +kernel
  refine lv_aload_n hx hb dX2_addHole_0 rfl (lv_at hl 0 rfl) ?_
  refine va_get (D := D) (ci := 2) (v := .ref h3) (C := RX2) (T := TX2) (N := 9) hx hb hts k2 hown hK.1 hP 0 rfl rfl 2 (by decide) (hts (.fieldLink RX2 18 "BoredPipes$Pipe" "places" "[I") (by decide +kernel)) (fun _ h9 => h9) rfl dX2_addHole_1 ?_
  refine lv_aload_n hx hb dX2_addHole_4 rfl (lv_at hl 0 rfl) ?_
  refine va_get (D := D) (ci := 2) (v := .int (nI nh)) (C := RX2) (T := TX2) (N := 9) hx hb hts k2 hown hK.1 hP 0 rfl rfl 6 (by decide) (hts (.fieldLink RX2 31 "BoredPipes$Pipe" "holes" "I") (by decide +kernel)) (fun _ h9 => h9) rfl dX2_addHole_5 ?_
  refine lv_iload_n hx hb dX2_addHole_8 rfl (lv_at hl 1 rfl) ?_
  refine wr_v (va_runSN (As := [.ref h3, .int (nI nh), .int x]) (rest := []) ⟨hx, hb, hml, hown, hts⟩ (c_X5_put_in l D cI cZ h3 6 pl nh x (by omega) (by omega)) ⟨va_cnB 3 hts gX2_addHole_X5_put_n40 rfl rfl rfl (hN 6 _ rfl) (hts (.initialized RX5) (by decide +kernel)) (by decide +kernel) ⟨Nat.le_of_ble_eq_true rfl, Nat.le_of_ble_eq_true rfl⟩, hts (.static yX5_put) (by decide +kernel), trivial⟩ (PW.S (hP.sub [1] rfl) hK ((hD.sub [1] (by decide) rfl).weaken (fun _ _ _ _ => trivial))) rfl rfl hl.1 rfl (lv_room (Nat.le_of_ble_eq_true rfl)) dX2_addHole_9 ⟨Nat.le_of_ble_eq_true rfl, Nat.le_of_ble_eq_true rfl⟩) hP hD hS [1] rfl (fun _ => rfl) (fun u1 H locs hu1 hP hD hS => ?_)
  have hP : va_P D vwCl [(h, .inr (2, [.ref h1, .ref h2, .ref h3, .ref h4, .ref h5, .int (nI np), .int (nI nh), .int mo, .int fa])), (h3, .inl (cI, 6, .inl (upd pl nh x))), (h4, .inl (cI, 6, .inl sz)), (h5, .inl (cI, 6, .inl ch))] H := hP
  have hD : va_D A [(h, .inr (2, [.ref h1, .ref h2, .ref h3, .ref h4, .ref h5, .int (nI np), .int (nI nh), .int mo, .int fa])), (h3, .inl (cI, 6, .inl (upd pl nh x))), (h4, .inl (cI, 6, .inl sz)), (h5, .inl (cI, 6, .inl ch))] := hD
  refine lv_aload_n hx hb dX2_addHole_12 rfl (lv_at hl 0 rfl) ?_
  refine va_get (D := D) (ci := 2) (v := .ref h4) (C := RX2) (T := TX2) (N := 9) hx hb hts k2 hown hK.1 hP 0 rfl rfl 3 (by decide) (hts (.fieldLink RX2 21 "BoredPipes$Pipe" "sizes" "[I") (by decide +kernel)) (fun _ h9 => h9) rfl dX2_addHole_13 ?_
  refine lv_aload_n hx hb dX2_addHole_16 rfl (lv_at hl 0 rfl) ?_
  refine va_get (D := D) (ci := 2) (v := .int (nI nh)) (C := RX2) (T := TX2) (N := 9) hx hb hts k2 hown hK.1 hP 0 rfl rfl 6 (by decide) (hts (.fieldLink RX2 31 "BoredPipes$Pipe" "holes" "I") (by decide +kernel)) (fun _ h9 => h9) rfl dX2_addHole_17 ?_
  refine lv_iload_n hx hb dX2_addHole_20 rfl (lv_at hl 2 rfl) ?_
  refine wr_v (va_runSN (As := [.ref h4, .int (nI nh), .int y]) (rest := []) ⟨hx, hb, hml, hown, hts⟩ (c_X5_put_in l D cI cZ h4 6 sz nh y (by omega) (by omega)) ⟨va_cnB 3 hts gX2_addHole_X5_put_n40 rfl rfl rfl (hN 6 _ rfl) (hts (.initialized RX5) (by decide +kernel)) (by decide +kernel) ⟨Nat.le_of_ble_eq_true rfl, Nat.le_of_ble_eq_true rfl⟩, hts (.static yX5_put) (by decide +kernel), trivial⟩ (PW.S (hP.sub [2] rfl) hK ((hD.sub [2] (by decide) rfl).weaken (fun _ _ _ _ => trivial))) rfl rfl hl.1 rfl (lv_room (Nat.le_of_ble_eq_true rfl)) dX2_addHole_21 ⟨Nat.le_of_ble_eq_true rfl, Nat.le_of_ble_eq_true rfl⟩) hP hD hS [2] rfl (fun _ => rfl) (fun u2 H locs hu2 hP hD hS => ?_)
  have hP : va_P D vwCl [(h, .inr (2, [.ref h1, .ref h2, .ref h3, .ref h4, .ref h5, .int (nI np), .int (nI nh), .int mo, .int fa])), (h3, .inl (cI, 6, .inl (upd pl nh x))), (h4, .inl (cI, 6, .inl (upd sz nh y))), (h5, .inl (cI, 6, .inl ch))] H := hP
  have hD : va_D A [(h, .inr (2, [.ref h1, .ref h2, .ref h3, .ref h4, .ref h5, .int (nI np), .int (nI nh), .int mo, .int fa])), (h3, .inl (cI, 6, .inl (upd pl nh x))), (h4, .inl (cI, 6, .inl (upd sz nh y))), (h5, .inl (cI, 6, .inl ch))] := hD
  refine lv_aload_n hx hb dX2_addHole_24 rfl (lv_at hl 0 rfl) ?_
  refine va_get (D := D) (ci := 2) (v := .ref h5) (C := RX2) (T := TX2) (N := 9) hx hb hts k2 hown hK.1 hP 0 rfl rfl 4 (by decide) (hts (.fieldLink RX2 24 "BoredPipes$Pipe" "chimneys" "[I") (by decide +kernel)) (fun _ h9 => h9) rfl dX2_addHole_25 ?_
  refine lv_aload_n hx hb dX2_addHole_28 rfl (lv_at hl 0 rfl) ?_
  refine va_get (D := D) (ci := 2) (v := .int (nI nh)) (C := RX2) (T := TX2) (N := 9) hx hb hts k2 hown hK.1 hP 0 rfl rfl 6 (by decide) (hts (.fieldLink RX2 31 "BoredPipes$Pipe" "holes" "I") (by decide +kernel)) (fun _ h9 => h9) rfl dX2_addHole_29 ?_
  refine lv_iload_n hx hb dX2_addHole_32 rfl (lv_at hl 3 rfl) ?_
  refine wr_v (va_runSN (As := [.ref h5, .int (nI nh), .int z]) (rest := []) ⟨hx, hb, hml, hown, hts⟩ (c_X5_put_in l D cI cZ h5 6 ch nh z (by omega) (by omega)) ⟨va_cnB 3 hts gX2_addHole_X5_put_n40 rfl rfl rfl (hN 6 _ rfl) (hts (.initialized RX5) (by decide +kernel)) (by decide +kernel) ⟨Nat.le_of_ble_eq_true rfl, Nat.le_of_ble_eq_true rfl⟩, hts (.static yX5_put) (by decide +kernel), trivial⟩ (PW.S (hP.sub [3] rfl) hK ((hD.sub [3] (by decide) rfl).weaken (fun _ _ _ _ => trivial))) rfl rfl hl.1 rfl (lv_room (Nat.le_of_ble_eq_true rfl)) dX2_addHole_33 ⟨Nat.le_of_ble_eq_true rfl, Nat.le_of_ble_eq_true rfl⟩) hP hD hS [3] rfl (fun _ => rfl) (fun u3 H locs hu3 hP hD hS => ?_)
  have hP : va_P D vwCl [(h, .inr (2, [.ref h1, .ref h2, .ref h3, .ref h4, .ref h5, .int (nI np), .int (nI nh), .int mo, .int fa])), (h3, .inl (cI, 6, .inl (upd pl nh x))), (h4, .inl (cI, 6, .inl (upd sz nh y))), (h5, .inl (cI, 6, .inl (upd ch nh z)))] H := hP
  have hD : va_D A [(h, .inr (2, [.ref h1, .ref h2, .ref h3, .ref h4, .ref h5, .int (nI np), .int (nI nh), .int mo, .int fa])), (h3, .inl (cI, 6, .inl (upd pl nh x))), (h4, .inl (cI, 6, .inl (upd sz nh y))), (h5, .inl (cI, 6, .inl (upd ch nh z)))] := hD
  refine lv_aload_n hx hb dX2_addHole_36 rfl (lv_at hl 0 rfl) ?_
  refine lv_dup hx hb dX2_addHole_37 rfl ?_
  refine va_get (D := D) (ci := 2) (v := .int (nI nh)) (C := RX2) (T := TX2) (N := 9) hx hb hts k2 hown hK.1 hP 0 rfl rfl 6 (by decide) (hts (.fieldLink RX2 31 "BoredPipes$Pipe" "holes" "I") (by decide +kernel)) (fun _ h9 => h9) rfl dX2_addHole_38 ?_
  refine lv_iconst (v := 1) hx hb dX2_addHole_41 (by decide) ?_
  refine nn_iadd hx hb dX2_addHole_42 (x := nh) (y := 1) rfl rfl ?_
  refine va_put (D := D) (ci := 2) (v := .int (nI (nh + 1))) (ty := .int) (C := RX2) (T := TX2) (N := 9) hx hb hts k2 tyX2 tyX2_ok nmX2 hown hK.1 hP hD hS 0 rfl rfl 6 (by decide) (hts (.fieldLink RX2 31 "BoredPipes$Pipe" "holes" "I") (by decide +kernel)) (fun _ h9 => h9) rfl (by decide +kernel) rfl rfl (Nat.le_of_ble_eq_true rfl) dX2_addHole_43 (fun H locs hP hD hS => ?_)
  have hP : va_P D vwCl [(h, .inr (2, [.ref h1, .ref h2, .ref h3, .ref h4, .ref h5, .int (nI np), .int (nI (nh + 1)), .int mo, .int fa])), (h3, .inl (cI, 6, .inl (upd pl nh x))), (h4, .inl (cI, 6, .inl (upd sz nh y))), (h5, .inl (cI, 6, .inl (upd ch nh z)))] H := hP
  have hD : va_D A [(h, .inr (2, [.ref h1, .ref h2, .ref h3, .ref h4, .ref h5, .int (nI np), .int (nI (nh + 1)), .int mo, .int fa])), (h3, .inl (cI, 6, .inl (upd pl nh x))), (h4, .inl (cI, 6, .inl (upd sz nh y))), (h5, .inl (cI, 6, .inl (upd ch nh z)))] := hD
  exact ret_WV hQ hx hb hr hlk hAe () hP hS trivial dX2_addHole_46
end
section
theorem zz_end : True := trivial
end
