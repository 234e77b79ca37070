-- ===== PART A: goes FIRST, ahead of the names: the tables' words, and 'selects' of the private methods out of them =====
/-- a private method of a class that the tables say can be made, by its rows of tables_1 -/
def lw_okq (q : MethodName × Nat) : Prop := (q.1.cls ≠ "java/lang/invoke/MethodHandle" ∧ q.1.cls ≠ "java/lang/invoke/VarHandle") ∧ Cond.instantiable q.1.cls q.2 ∈ tables_1 ∧ Cond.privateMethod q.1 ∈ tables_1 ∧ Cond.instanceMethod q.1 ∈ tables_1
theorem lw_p0 : lw_okq (⟨"NewspaperMakeup", "saveState", "()V"⟩, 7) := ⟨⟨by decide +kernel, by decide +kernel⟩, List.mem_of_getElem? (i := 14) (by decide +kernel), List.mem_of_getElem? (i := 236) (by decide +kernel), List.mem_of_getElem? (i := 237) (by decide +kernel)⟩
theorem lw_p1 : lw_okq (⟨"NewspaperMakeup", "discardOldest", "()V"⟩, 7) := ⟨⟨by decide +kernel, by decide +kernel⟩, List.mem_of_getElem? (i := 14) (by decide +kernel), List.mem_of_getElem? (i := 240) (by decide +kernel), List.mem_of_getElem? (i := 241) (by decide +kernel)⟩
theorem lw_p2 : lw_okq (⟨"NewspaperMakeup$Edition", "copyPieces", "(LNewspaperMakeup$Edition;II)V"⟩, 12) := ⟨⟨by decide +kernel, by decide +kernel⟩, List.mem_of_getElem? (i := 28) (by decide +kernel), List.mem_of_getElem? (i := 256) (by decide +kernel), List.mem_of_getElem? (i := 257) (by decide +kernel)⟩
theorem lw_p3 : lw_okq (⟨"NewspaperMakeup$Maker", "putInOrder", "(LNewspaperMakeup$Paper;)I"⟩, 2) := ⟨⟨by decide +kernel, by decide +kernel⟩, List.mem_of_getElem? (i := 167) (by decide +kernel), List.mem_of_getElem? (i := 278) (by decide +kernel), List.mem_of_getElem? (i := 279) (by decide +kernel)⟩
theorem lw_p4 : lw_okq (⟨"NewspaperMakeup$Paper", "goesAhead", "(II)Z"⟩, 11) := ⟨⟨by decide +kernel, by decide +kernel⟩, List.mem_of_getElem? (i := 22) (by decide +kernel), List.mem_of_getElem? (i := 286) (by decide +kernel), List.mem_of_getElem? (i := 287) (by decide +kernel)⟩
theorem lw_p5 : lw_okq (⟨"NewspaperMakeup$Maker", "staysInPlace", "(LNewspaperMakeup$Paper;I)Z"⟩, 2) := ⟨⟨by decide +kernel, by decide +kernel⟩, List.mem_of_getElem? (i := 167) (by decide +kernel), List.mem_of_getElem? (i := 290) (by decide +kernel), List.mem_of_getElem? (i := 291) (by decide +kernel)⟩
theorem lw_p6 : lw_okq (⟨"NewspaperMakeup$Maker", "placeAnew", "(LNewspaperMakeup$Paper;LNewspaperMakeup$Edition;I)V"⟩, 2) := ⟨⟨by decide +kernel, by decide +kernel⟩, List.mem_of_getElem? (i := 167) (by decide +kernel), List.mem_of_getElem? (i := 309) (by decide +kernel), List.mem_of_getElem? (i := 310) (by decide +kernel)⟩
theorem lw_p7 : lw_okq (⟨"NewspaperMakeup$Maker", "placeNextPiece", "(LNewspaperMakeup$Paper;LNewspaperMakeup$Edition;II)I"⟩, 2) := ⟨⟨by decide +kernel, by decide +kernel⟩, List.mem_of_getElem? (i := 167) (by decide +kernel), List.mem_of_getElem? (i := 313) (by decide +kernel), List.mem_of_getElem? (i := 314) (by decide +kernel)⟩
theorem lw_p8 : lw_okq (⟨"NewspaperMakeup$Maker", "placeInFirstGap", "(LNewspaperMakeup$Paper;LNewspaperMakeup$Edition;III)Z"⟩, 2) := ⟨⟨by decide +kernel, by decide +kernel⟩, List.mem_of_getElem? (i := 167) (by decide +kernel), List.mem_of_getElem? (i := 317) (by decide +kernel), List.mem_of_getElem? (i := 318) (by decide +kernel)⟩
theorem lw_p9 : lw_okq (⟨"NewspaperMakeup$Sheet", "startsOfRoom", "(JI)J"⟩, 4) := ⟨⟨by decide +kernel, by decide +kernel⟩, List.mem_of_getElem? (i := 173) (by decide +kernel), List.mem_of_getElem? (i := 340) (by decide +kernel), List.mem_of_getElem? (i := 341) (by decide +kernel)⟩
theorem lw_p10 : lw_okq (⟨"NewspaperMakeup", "hasEdition", "()Z"⟩, 7) := ⟨⟨by decide +kernel, by decide +kernel⟩, List.mem_of_getElem? (i := 14) (by decide +kernel), List.mem_of_getElem? (i := 379) (by decide +kernel), List.mem_of_getElem? (i := 380) (by decide +kernel)⟩
theorem lw_p11 : lw_okq (⟨"NewspaperMakeup", "isStory", "(I)Z"⟩, 7) := ⟨⟨by decide +kernel, by decide +kernel⟩, List.mem_of_getElem? (i := 14) (by decide +kernel), List.mem_of_getElem? (i := 412) (by decide +kernel), List.mem_of_getElem? (i := 413) (by decide +kernel)⟩
theorem lw_p12 : lw_okq (⟨"NewspaperMakeup", "isPage", "(I)Z"⟩, 7) := ⟨⟨by decide +kernel, by decide +kernel⟩, List.mem_of_getElem? (i := 14) (by decide +kernel), List.mem_of_getElem? (i := 502) (by decide +kernel), List.mem_of_getElem? (i := 503) (by decide +kernel)⟩
def lw_privs_1 : List (MethodName × Nat) := [(⟨"NewspaperMakeup", "saveState", "()V"⟩, 7), (⟨"NewspaperMakeup", "discardOldest", "()V"⟩, 7), (⟨"NewspaperMakeup$Edition", "copyPieces", "(LNewspaperMakeup$Edition;II)V"⟩, 12), (⟨"NewspaperMakeup$Maker", "putInOrder", "(LNewspaperMakeup$Paper;)I"⟩, 2), (⟨"NewspaperMakeup$Paper", "goesAhead", "(II)Z"⟩, 11), (⟨"NewspaperMakeup$Maker", "staysInPlace", "(LNewspaperMakeup$Paper;I)Z"⟩, 2), (⟨"NewspaperMakeup$Maker", "placeAnew", "(LNewspaperMakeup$Paper;LNewspaperMakeup$Edition;I)V"⟩, 2), (⟨"NewspaperMakeup$Maker", "placeNextPiece", "(LNewspaperMakeup$Paper;LNewspaperMakeup$Edition;II)I"⟩, 2), (⟨"NewspaperMakeup$Maker", "placeInFirstGap", "(LNewspaperMakeup$Paper;LNewspaperMakeup$Edition;III)Z"⟩, 2), (⟨"NewspaperMakeup$Sheet", "startsOfRoom", "(JI)J"⟩, 4), (⟨"NewspaperMakeup", "hasEdition", "()Z"⟩, 7), (⟨"NewspaperMakeup", "isStory", "(I)Z"⟩, 7), (⟨"NewspaperMakeup", "isPage", "(I)Z"⟩, 7)]
theorem lw_r1 : ∀ q ∈ lw_privs_1, lw_okq q := List.forall_mem_cons.mpr ⟨lw_p0, List.forall_mem_cons.mpr ⟨lw_p1, List.forall_mem_cons.mpr ⟨lw_p2, List.forall_mem_cons.mpr ⟨lw_p3, List.forall_mem_cons.mpr ⟨lw_p4, List.forall_mem_cons.mpr ⟨lw_p5, List.forall_mem_cons.mpr ⟨lw_p6, List.forall_mem_cons.mpr ⟨lw_p7, List.forall_mem_cons.mpr ⟨lw_p8, List.forall_mem_cons.mpr ⟨lw_p9, List.forall_mem_cons.mpr ⟨lw_p10, List.forall_mem_cons.mpr ⟨lw_p11, List.forall_mem_cons.mpr ⟨lw_p12, fun _ h => absurd h List.not_mem_nil⟩⟩⟩⟩⟩⟩⟩⟩⟩⟩⟩⟩⟩
def lw_privs : List (MethodName × Nat) := lw_privs_1
def lw_tbl : List Cond := k2_sels lw_privs ++ tables_1
theorem lw_privs_ok : ∀ q ∈ lw_privs, lw_okq q := lw_r1
-- ===== end of PART A; then your names; then what follows =====
-- names of NAMES.whole
/-! ===== BEGIN words of one list among another's, by their places ===== -/
theorem goodIn_r {big : List Cond} (ws : List Cond) (ps : List Nat) (hp : ws = ps.filterMap (fun i => big[i]?)) (h : ws.all goodWord = true) : GoodIn big ws := by
  intro w hw
  have h1 := List.all_eq_true.mp h w hw
  rw [hp] at hw
  obtain ⟨i, -, hi⟩ := List.mem_filterMap.mp hw
  have hm : w ∈ big := by first | exact List.mem_of_getElem? hi | exact List.getElem?_mem hi
  exact ⟨hm, good_of_word h1⟩
theorem goodIn_app {big a b : List Cond} (ha : GoodIn big a) (hb : GoodIn big b) : GoodIn big (a ++ b) := fun w h => (List.mem_append.mp h).elim (ha w) (hb w)
theorem goodIn_ca {big a b : List Cond} {c : Cond} (ha : GoodIn big (c :: a)) (hb : GoodIn big b) : GoodIn big (c :: (a ++ b)) := fun w h => (List.mem_cons.mp h).elim (fun e => ha w (List.mem_cons.mpr (Or.inl e))) (fun h => (List.mem_append.mp h).elim (fun h => ha w (List.mem_cons.mpr (Or.inr h))) (hb w))
theorem goodIn_sub {big ws : List Cond} (hm : ∀ w ∈ ws, w ∈ big) (h : ws.all goodWord = true) : GoodIn big ws := fun w hw => ⟨hm w hw, good_of_word (List.all_eq_true.mp h w hw)⟩
/-! ===== END ===== -/

/-! ===== BEGIN printed: names, fields, word lists, decode rows ===== -/
def RX0 : String := "NewspaperMakeup$Edition"
def TX0 : u_T := fun k => match k with
  | 0 => ("NewspaperMakeup$Edition", "number", "I", false)
  | 1 => ("NewspaperMakeup$Edition", "pages", "I", false)
  | 2 => ("NewspaperMakeup$Edition", "columns", "I", false)
  | 3 => ("NewspaperMakeup$Edition", "lines", "I", false)
  | 4 => ("NewspaperMakeup$Edition", "pieceCount", "[I", true)
  | 5 => ("NewspaperMakeup$Edition", "moved", "[Z", true)
  | 6 => ("NewspaperMakeup$Edition", "page", "[I", true)
  | 7 => ("NewspaperMakeup$Edition", "column", "[I", true)
  | 8 => ("NewspaperMakeup$Edition", "top", "[I", true)
  | 9 => ("NewspaperMakeup$Edition", "size", "[I", true)
  | 10 => ("NewspaperMakeup$Edition", "first", "[I", true)
  | _ => ("NewspaperMakeup$Edition", "paragraphs", "[I", true)
def tyX0 : Nat → FieldType := fun k => match k with
  | 0 => .int
  | 1 => .int
  | 2 => .int
  | 3 => .int
  | 4 => .array .int
  | 5 => .array .boolean
  | 6 => .array .int
  | 7 => .array .int
  | 8 => .array .int
  | 9 => .array .int
  | 10 => .array .int
  | _ => .array .int
abbrev wsX00 : List Cond := u_ws RX0 TX0 12
theorem nmX0 : ∀ a, a < 12 → ∀ b, b < 12 → a ≠ b → (TX0 a).2.1 ≠ (TX0 b).2.1 := by decide +kernel
theorem tyX0_ok : ∀ k, k < 12 → parseFieldDescriptor (TX0 k).2.2.1 = some (tyX0 k) := by decide +kernel
abbrev cX0_init : ByteArray := prog_2_method_1_code
def yX0_init : MethodName := ⟨RX0, "<init>", "()V"⟩
abbrev cX0_copyFrom : ByteArray := prog_2_method_2_code
def yX0_copyFrom : MethodName := ⟨RX0, "copyFrom", "(LNewspaperMakeup$Edition;)V"⟩
abbrev cX0_copyPieces : ByteArray := prog_2_method_3_code
def yX0_copyPieces : MethodName := ⟨RX0, "copyPieces", "(LNewspaperMakeup$Edition;II)V"⟩
abbrev cX0_beginFor : ByteArray := prog_2_method_4_code
def yX0_beginFor : MethodName := ⟨RX0, "beginFor", "(LNewspaperMakeup$Paper;)V"⟩
abbrev cX0_keepPieces : ByteArray := prog_2_method_5_code
def yX0_keepPieces : MethodName := ⟨RX0, "keepPieces", "(LNewspaperMakeup$Edition;I)V"⟩
abbrev cX0_addPiece : ByteArray := prog_2_method_6_code
def yX0_addPiece : MethodName := ⟨RX0, "addPiece", "(IIIIII)V"⟩
abbrev cX0_isPrinted : ByteArray := prog_2_method_7_code
def yX0_isPrinted : MethodName := ⟨RX0, "isPrinted", "(I)Z"⟩
abbrev cX0_hasPieceOn : ByteArray := prog_2_method_8_code
def yX0_hasPieceOn : MethodName := ⟨RX0, "hasPieceOn", "(II)Z"⟩
abbrev cX0_isMovedSince : ByteArray := prog_2_method_9_code
def yX0_isMovedSince : MethodName := ⟨RX0, "isMovedSince", "(LNewspaperMakeup$Edition;I)Z"⟩
abbrev cX0_printedStories : ByteArray := prog_2_method_10_code
def yX0_printedStories : MethodName := ⟨RX0, "printedStories", "()I"⟩
abbrev cX0_heldOverStories : ByteArray := prog_2_method_11_code
def yX0_heldOverStories : MethodName := ⟨RX0, "heldOverStories", "()I"⟩
abbrev cX0_movedStories : ByteArray := prog_2_method_12_code
def yX0_movedStories : MethodName := ⟨RX0, "movedStories", "()I"⟩
abbrev cX0_allPieces : ByteArray := prog_2_method_13_code
def yX0_allPieces : MethodName := ⟨RX0, "allPieces", "()I"⟩
abbrev cX0_jumpLines : ByteArray := prog_2_method_14_code
def yX0_jumpLines : MethodName := ⟨RX0, "jumpLines", "()I"⟩
abbrev cX0_freeLines : ByteArray := prog_2_method_15_code
def yX0_freeLines : MethodName := ⟨RX0, "freeLines", "()I"⟩
abbrev cX0_propertyOf : ByteArray := prog_2_method_16_code
def yX0_propertyOf : MethodName := ⟨RX0, "propertyOf", "(III)I"⟩
abbrev cX0_storyOnLine : ByteArray := prog_2_method_17_code
def yX0_storyOnLine : MethodName := ⟨RX0, "storyOnLine", "(III)I"⟩
def RX1 : String := "NewspaperMakeup$Maker"
def TX1 : u_T := fun k => match k with
  | 0 => ("NewspaperMakeup$Maker", "sheet", "LNewspaperMakeup$Sheet;", true)
  | _ => ("NewspaperMakeup$Maker", "order", "[I", true)
def tyX1 : Nat → FieldType := fun k => match k with
  | 0 => .object "NewspaperMakeup$Sheet"
  | _ => .array .int
abbrev wsX10 : List Cond := u_ws RX1 TX1 2
theorem nmX1 : ∀ a, a < 2 → ∀ b, b < 2 → a ≠ b → (TX1 a).2.1 ≠ (TX1 b).2.1 := by decide +kernel
theorem tyX1_ok : ∀ k, k < 2 → parseFieldDescriptor (TX1 k).2.2.1 = some (tyX1 k) := by decide +kernel
abbrev cX1_init : ByteArray := prog_3_method_1_code
def yX1_init : MethodName := ⟨RX1, "<init>", "()V"⟩
abbrev cX1_plan : ByteArray := prog_3_method_2_code
def yX1_plan : MethodName := ⟨RX1, "plan", "(LNewspaperMakeup$Paper;LNewspaperMakeup$Edition;)V"⟩
abbrev cX1_putInOrder : ByteArray := prog_3_method_4_code
def yX1_putInOrder : MethodName := ⟨RX1, "putInOrder", "(LNewspaperMakeup$Paper;)I"⟩
abbrev cX1_staysInPlace : ByteArray := prog_3_method_5_code
def yX1_staysInPlace : MethodName := ⟨RX1, "staysInPlace", "(LNewspaperMakeup$Paper;I)Z"⟩
abbrev cX1_placeAnew : ByteArray := prog_3_method_6_code
def yX1_placeAnew : MethodName := ⟨RX1, "placeAnew", "(LNewspaperMakeup$Paper;LNewspaperMakeup$Edition;I)V"⟩
abbrev cX1_placeNextPiece : ByteArray := prog_3_method_7_code
def yX1_placeNextPiece : MethodName := ⟨RX1, "placeNextPiece", "(LNewspaperMakeup$Paper;LNewspaperMakeup$Edition;II)I"⟩
abbrev cX1_placeInFirstGap : ByteArray := prog_3_method_8_code
def yX1_placeInFirstGap : MethodName := ⟨RX1, "placeInFirstGap", "(LNewspaperMakeup$Paper;LNewspaperMakeup$Edition;III)Z"⟩
def RX2 : String := "NewspaperMakeup$Paper"
def TX2 : u_T := fun k => match k with
  | 0 => ("NewspaperMakeup$Paper", "pages", "I", false)
  | 1 => ("NewspaperMakeup$Paper", "columns", "I", false)
  | 2 => ("NewspaperMakeup$Paper", "lines", "I", false)
  | 3 => ("NewspaperMakeup$Paper", "storyCount", "I", false)
  | 4 => ("NewspaperMakeup$Paper", "rank", "[I", true)
  | 5 => ("NewspaperMakeup$Paper", "home", "[I", true)
  | 6 => ("NewspaperMakeup$Paper", "paragraphCount", "[I", true)
  | 7 => ("NewspaperMakeup$Paper", "paragraphLines", "[I", true)
  | 8 => ("NewspaperMakeup$Paper", "alive", "[Z", true)
  | 9 => ("NewspaperMakeup$Paper", "changed", "[Z", true)
  | _ => ("NewspaperMakeup$Paper", "latest", "LNewspaperMakeup$Edition;", true)
def tyX2 : Nat → FieldType := fun k => match k with
  | 0 => .int
  | 1 => .int
  | 2 => .int
  | 3 => .int
  | 4 => .array .int
  | 5 => .array .int
  | 6 => .array .int
  | 7 => .array .int
  | 8 => .array .boolean
  | 9 => .array .boolean
  | _ => .object "NewspaperMakeup$Edition"
abbrev wsX20 : List Cond := u_ws RX2 TX2 11
theorem nmX2 : ∀ a, a < 11 → ∀ b, b < 11 → a ≠ b → (TX2 a).2.1 ≠ (TX2 b).2.1 := by decide +kernel
theorem tyX2_ok : ∀ k, k < 11 → parseFieldDescriptor (TX2 k).2.2.1 = some (tyX2 k) := by decide +kernel
abbrev cX2_init : ByteArray := prog_4_method_1_code
def yX2_init : MethodName := ⟨RX2, "<init>", "()V"⟩
abbrev cX2_copyFrom : ByteArray := prog_4_method_2_code
def yX2_copyFrom : MethodName := ⟨RX2, "copyFrom", "(LNewspaperMakeup$Paper;)V"⟩
abbrev cX2_changePages : ByteArray := prog_4_method_3_code
def yX2_changePages : MethodName := ⟨RX2, "changePages", "(III)V"⟩
abbrev cX2_highestHome : ByteArray := prog_4_method_4_code
def yX2_highestHome : MethodName := ⟨RX2, "highestHome", "()I"⟩
abbrev cX2_appendStory : ByteArray := prog_4_method_5_code
def yX2_appendStory : MethodName := ⟨RX2, "appendStory", "(II)I"⟩
abbrev cX2_appendParagraph : ByteArray := prog_4_method_6_code
def yX2_appendParagraph : MethodName := ⟨RX2, "appendParagraph", "(II)V"⟩
abbrev cX2_changeParagraph : ByteArray := prog_4_method_7_code
def yX2_changeParagraph : MethodName := ⟨RX2, "changeParagraph", "(III)V"⟩
abbrev cX2_removeParagraph : ByteArray := prog_4_method_8_code
def yX2_removeParagraph : MethodName := ⟨RX2, "removeParagraph", "(II)V"⟩
abbrev cX2_forgetChanges : ByteArray := prog_4_method_9_code
def yX2_forgetChanges : MethodName := ⟨RX2, "forgetChanges", "()V"⟩
abbrev cX2_linesOf : ByteArray := prog_4_method_10_code
def yX2_linesOf : MethodName := ⟨RX2, "linesOf", "(II)I"⟩
abbrev cX2_linesOfParagraphs : ByteArray := prog_4_method_11_code
def yX2_linesOfParagraphs : MethodName := ⟨RX2, "linesOfParagraphs", "(III)I"⟩
abbrev cX2_sizeOfPiece : ByteArray := prog_4_method_12_code
def yX2_sizeOfPiece : MethodName := ⟨RX2, "sizeOfPiece", "(III)I"⟩
abbrev cX2_aliveCount : ByteArray := prog_4_method_13_code
def yX2_aliveCount : MethodName := ⟨RX2, "aliveCount", "()I"⟩
abbrev cX2_aliveAheadOf : ByteArray := prog_4_method_14_code
def yX2_aliveAheadOf : MethodName := ⟨RX2, "aliveAheadOf", "(I)I"⟩
abbrev cX2_goesAhead : ByteArray := prog_4_method_15_code
def yX2_goesAhead : MethodName := ⟨RX2, "goesAhead", "(II)Z"⟩
def RX3 : String := "NewspaperMakeup$Sheet"
def TX3 : u_T := fun k => match k with
  | 0 => ("NewspaperMakeup$Sheet", "columns", "I", false)
  | 1 => ("NewspaperMakeup$Sheet", "lines", "I", false)
  | 2 => ("NewspaperMakeup$Sheet", "allLines", "J", false)
  | _ => ("NewspaperMakeup$Sheet", "taken", "[J", true)
def tyX3 : Nat → FieldType := fun k => match k with
  | 0 => .int
  | 1 => .int
  | 2 => .long
  | _ => .array .long
abbrev wsX30 : List Cond := u_ws RX3 TX3 4
theorem nmX3 : ∀ a, a < 4 → ∀ b, b < 4 → a ≠ b → (TX3 a).2.1 ≠ (TX3 b).2.1 := by decide +kernel
theorem tyX3_ok : ∀ k, k < 4 → parseFieldDescriptor (TX3 k).2.2.1 = some (tyX3 k) := by decide +kernel
abbrev cX3_init : ByteArray := prog_5_method_1_code
def yX3_init : MethodName := ⟨RX3, "<init>", "()V"⟩
abbrev cX3_makeBlank : ByteArray := prog_5_method_2_code
def yX3_makeBlank : MethodName := ⟨RX3, "makeBlank", "(II)V"⟩
abbrev cX3_hasPlaceFor : ByteArray := prog_5_method_3_code
def yX3_hasPlaceFor : MethodName := ⟨RX3, "hasPlaceFor", "(LNewspaperMakeup$Edition;I)Z"⟩
abbrev cX3_takeLinesOf : ByteArray := prog_5_method_4_code
def yX3_takeLinesOf : MethodName := ⟨RX3, "takeLinesOf", "(LNewspaperMakeup$Edition;I)V"⟩
abbrev cX3_firstGapOn : ByteArray := prog_5_method_5_code
def yX3_firstGapOn : MethodName := ⟨RX3, "firstGapOn", "(II)I"⟩
abbrev cX3_startsOfRoom : ByteArray := prog_5_method_7_code
def yX3_startsOfRoom : MethodName := ⟨RX3, "startsOfRoom", "(JI)J"⟩
abbrev cX3_columnOf : ByteArray := prog_5_method_8_code
def yX3_columnOf : MethodName := ⟨RX3, "columnOf", "(LNewspaperMakeup$Edition;I)I"⟩
abbrev cX3_bitsOf : ByteArray := prog_5_method_9_code
def yX3_bitsOf : MethodName := ⟨RX3, "bitsOf", "(II)J"⟩
def RX4 : String := "NewspaperMakeup$Text"
def TX4 : u_T := fun k => match k with
  | 0 => ("NewspaperMakeup$Text", "length", "I", false)
  | 1 => ("NewspaperMakeup$Text", "characters", "[I", true)
  | 2 => ("NewspaperMakeup$Text", "place", "I", false)
  | _ => ("NewspaperMakeup$Text", "wrong", "I", false)
def tyX4 : Nat → FieldType := fun k => match k with
  | 0 => .int
  | 1 => .array .int
  | 2 => .int
  | _ => .int
abbrev wsX40 : List Cond := u_ws RX4 TX4 4
theorem nmX4 : ∀ a, a < 4 → ∀ b, b < 4 → a ≠ b → (TX4 a).2.1 ≠ (TX4 b).2.1 := by decide +kernel
theorem tyX4_ok : ∀ k, k < 4 → parseFieldDescriptor (TX4 k).2.2.1 = some (tyX4 k) := by decide +kernel
abbrev cX4_init : ByteArray := prog_6_method_1_code
def yX4_init : MethodName := ⟨RX4, "<init>", "()V"⟩
def RX5 : String := "NewspaperMakeup"
def TX5 : u_T := fun k => match k with
  | 0 => ("NewspaperMakeup", "now", "LNewspaperMakeup$Paper;", true)
  | 1 => ("NewspaperMakeup", "trial", "LNewspaperMakeup$Paper;", true)
  | 2 => ("NewspaperMakeup", "saved", "[LNewspaperMakeup$Paper;", true)
  | 3 => ("NewspaperMakeup", "savedCount", "I", false)
  | 4 => ("NewspaperMakeup", "text", "LNewspaperMakeup$Text;", true)
  | 5 => ("NewspaperMakeup", "maker", "LNewspaperMakeup$Maker;", true)
  | _ => ("NewspaperMakeup", "planned", "LNewspaperMakeup$Edition;", true)
def tyX5 : Nat → FieldType := fun k => match k with
  | 0 => .object "NewspaperMakeup$Paper"
  | 1 => .object "NewspaperMakeup$Paper"
  | 2 => .array (.object "NewspaperMakeup$Paper")
  | 3 => .int
  | 4 => .object "NewspaperMakeup$Text"
  | 5 => .object "NewspaperMakeup$Maker"
  | _ => .object "NewspaperMakeup$Edition"
abbrev wsX50 : List Cond := u_ws RX5 TX5 7
theorem nmX5 : ∀ a, a < 7 → ∀ b, b < 7 → a ≠ b → (TX5 a).2.1 ≠ (TX5 b).2.1 := by decide +kernel
theorem tyX5_ok : ∀ k, k < 7 → parseFieldDescriptor (TX5 k).2.2.1 = some (tyX5 k) := by decide +kernel
abbrev cX5_init : ByteArray := prog_1_method_1_code
def yX5_init : MethodName := ⟨RX5, "<init>", "()V"⟩
abbrev cX5_setPages : ByteArray := prog_1_method_2_code
def yX5_setPages : MethodName := ⟨RX5, "setPages", "(III)I"⟩
abbrev cX5_addStory : ByteArray := prog_1_method_3_code
def yX5_addStory : MethodName := ⟨RX5, "addStory", "(III)I"⟩
abbrev cX5_setRank : ByteArray := prog_1_method_4_code
def yX5_setRank : MethodName := ⟨RX5, "setRank", "(II)I"⟩
abbrev cX5_setHome : ByteArray := prog_1_method_5_code
def yX5_setHome : MethodName := ⟨RX5, "setHome", "(II)I"⟩
abbrev cX5_addParagraph : ByteArray := prog_1_method_6_code
def yX5_addParagraph : MethodName := ⟨RX5, "addParagraph", "(II)I"⟩
abbrev cX5_setParagraph : ByteArray := prog_1_method_7_code
def yX5_setParagraph : MethodName := ⟨RX5, "setParagraph", "(III)I"⟩
abbrev cX5_kill : ByteArray := prog_1_method_8_code
def yX5_kill : MethodName := ⟨RX5, "kill", "(I)I"⟩
abbrev cX5_revive : ByteArray := prog_1_method_9_code
def yX5_revive : MethodName := ⟨RX5, "revive", "(I)I"⟩
abbrev cX5_story : ByteArray := prog_1_method_10_code
def yX5_story : MethodName := ⟨RX5, "story", "(II)I"⟩
abbrev cX5_paragraph : ByteArray := prog_1_method_11_code
def yX5_paragraph : MethodName := ⟨RX5, "paragraph", "(II)I"⟩
abbrev cX5_count : ByteArray := prog_1_method_12_code
def yX5_count : MethodName := ⟨RX5, "count", "(I)I"⟩
abbrev cX5_make : ByteArray := prog_1_method_16_code
def yX5_make : MethodName := ⟨RX5, "make", "()I"⟩
abbrev cX5_edition : ByteArray := prog_1_method_17_code
def yX5_edition : MethodName := ⟨RX5, "edition", "(I)I"⟩
abbrev cX5_pieces : ByteArray := prog_1_method_18_code
def yX5_pieces : MethodName := ⟨RX5, "pieces", "(I)I"⟩
abbrev cX5_piece : ByteArray := prog_1_method_19_code
def yX5_piece : MethodName := ⟨RX5, "piece", "(III)I"⟩
abbrev cX5_at : ByteArray := prog_1_method_20_code
def yX5_at : MethodName := ⟨RX5, "at", "(III)I"⟩
abbrev cX5_wasMoved : ByteArray := prog_1_method_22_code
def yX5_wasMoved : MethodName := ⟨RX5, "wasMoved", "(I)I"⟩
abbrev cX5_next : ByteArray := prog_1_method_23_code
def yX5_next : MethodName := ⟨RX5, "next", "(I)I"⟩
abbrev cX5_undo : ByteArray := prog_1_method_26_code
def yX5_undo : MethodName := ⟨RX5, "undo", "()I"⟩
abbrev cX5_saveState : ByteArray := prog_1_method_27_code
def yX5_saveState : MethodName := ⟨RX5, "saveState", "()V"⟩
abbrev cX5_discardOldest : ByteArray := prog_1_method_28_code
def yX5_discardOldest : MethodName := ⟨RX5, "discardOldest", "()V"⟩
abbrev cX5_isStory : ByteArray := prog_1_method_29_code
def yX5_isStory : MethodName := ⟨RX5, "isStory", "(I)Z"⟩
abbrev cX5_isPage : ByteArray := prog_1_method_30_code
def yX5_isPage : MethodName := ⟨RX5, "isPage", "(I)Z"⟩
abbrev cX5_hasEdition : ByteArray := prog_1_method_31_code
def yX5_hasEdition : MethodName := ⟨RX5, "hasEdition", "()Z"⟩
abbrev cX5_isRank : ByteArray := prog_1_method_32_code
def yX5_isRank : MethodName := ⟨RX5, "isRank", "(I)Z"⟩
abbrev cX5_isWithin : ByteArray := prog_1_method_33_code
def yX5_isWithin : MethodName := ⟨RX5, "isWithin", "(III)Z"⟩
def RX6 : String := "NewspaperMakeupModel"
def TX6 : u_T := fun k => match k with
  | _ => ("", "", "", false)
def tyX6 : Nat → FieldType := fun k => match k with
  | _ => .int
abbrev wsX60 : List Cond := u_ws RX6 TX6 0
theorem nmX6 : ∀ a, a < 0 → ∀ b, b < 0 → a ≠ b → (TX6 a).2.1 ≠ (TX6 b).2.1 := by decide +kernel
theorem tyX6_ok : ∀ k, k < 0 → parseFieldDescriptor (TX6 k).2.2.1 = some (tyX6 k) := by decide +kernel
def RJx145de : String := "java/io/Serializable"
def TJx145de : u_T := fun k => match k with
  | _ => ("", "", "", false)
def tyJx145de : Nat → FieldType := fun k => match k with
  | _ => .int
abbrev wsJx145de0 : List Cond := u_ws RJx145de TJx145de 0
theorem nmJx145de : ∀ a, a < 0 → ∀ b, b < 0 → a ≠ b → (TJx145de a).2.1 ≠ (TJx145de b).2.1 := by decide +kernel
theorem tyJx145de_ok : ∀ k, k < 0 → parseFieldDescriptor (TJx145de k).2.2.1 = some (tyJx145de k) := by decide +kernel
def RJxb160c : String := "java/lang/Comparable"
def TJxb160c : u_T := fun k => match k with
  | _ => ("", "", "", false)
def tyJxb160c : Nat → FieldType := fun k => match k with
  | _ => .int
abbrev wsJxb160c0 : List Cond := u_ws RJxb160c TJxb160c 0
theorem nmJxb160c : ∀ a, a < 0 → ∀ b, b < 0 → a ≠ b → (TJxb160c a).2.1 ≠ (TJxb160c b).2.1 := by decide +kernel
theorem tyJxb160c_ok : ∀ k, k < 0 → parseFieldDescriptor (TJxb160c k).2.2.1 = some (tyJxb160c k) := by decide +kernel
def RJ6 : String := "java/lang/Integer"
def TJ6 : u_T := fun k => match k with
  | _ => ("", "", "", false)
def tyJ6 : Nat → FieldType := fun k => match k with
  | _ => .int
abbrev wsJ60 : List Cond := u_ws RJ6 TJ6 0
theorem nmJ6 : ∀ a, a < 0 → ∀ b, b < 0 → a ≠ b → (TJ6 a).2.1 ≠ (TJ6 b).2.1 := by decide +kernel
theorem tyJ6_ok : ∀ k, k < 0 → parseFieldDescriptor (TJ6 k).2.2.1 = some (tyJ6 k) := by decide +kernel
abbrev cJ6_numberOfTrailingZeros_0f7a4 : ByteArray := prog_9_method_48_code
def yJ6_numberOfTrailingZeros_0f7a4 : MethodName := ⟨RJ6, "numberOfTrailingZeros", "(I)I"⟩
def RJ13 : String := "java/lang/Long"
def TJ13 : u_T := fun k => match k with
  | _ => ("", "", "", false)
def tyJ13 : Nat → FieldType := fun k => match k with
  | _ => .int
abbrev wsJ130 : List Cond := u_ws RJ13 TJ13 0
theorem nmJ13 : ∀ a, a < 0 → ∀ b, b < 0 → a ≠ b → (TJ13 a).2.1 ≠ (TJ13 b).2.1 := by decide +kernel
theorem tyJ13_ok : ∀ k, k < 0 → parseFieldDescriptor (TJ13 k).2.2.1 = some (tyJ13 k) := by decide +kernel
abbrev cJ13_numberOfTrailingZeros_95d88 : ByteArray := prog_10_method_49_code
def yJ13_numberOfTrailingZeros_95d88 : MethodName := ⟨RJ13, "numberOfTrailingZeros", "(J)I"⟩
def RJ9 : String := "java/lang/Math"
def TJ9 : u_T := fun k => match k with
  | _ => ("", "", "", false)
def tyJ9 : Nat → FieldType := fun k => match k with
  | _ => .int
abbrev wsJ90 : List Cond := u_ws RJ9 TJ9 0
theorem nmJ9 : ∀ a, a < 0 → ∀ b, b < 0 → a ≠ b → (TJ9 a).2.1 ≠ (TJ9 b).2.1 := by decide +kernel
theorem tyJ9_ok : ∀ k, k < 0 → parseFieldDescriptor (TJ9 k).2.2.1 = some (tyJ9 k) := by decide +kernel
abbrev cJ9_max_7cf53 : ByteArray := prog_11_method_65_code
def yJ9_max_7cf53 : MethodName := ⟨RJ9, "max", "(II)I"⟩
def RJxd2413 : String := "java/lang/Number"
def TJxd2413 : u_T := fun k => match k with
  | _ => ("", "", "", false)
def tyJxd2413 : Nat → FieldType := fun k => match k with
  | _ => .int
abbrev wsJxd24130 : List Cond := u_ws RJxd2413 TJxd2413 0
theorem nmJxd2413 : ∀ a, a < 0 → ∀ b, b < 0 → a ≠ b → (TJxd2413 a).2.1 ≠ (TJxd2413 b).2.1 := by decide +kernel
theorem tyJxd2413_ok : ∀ k, k < 0 → parseFieldDescriptor (TJxd2413 k).2.2.1 = some (tyJxd2413 k) := by decide +kernel
def RJ10 : String := "java/lang/System"
def TJ10 : u_T := fun k => match k with
  | _ => ("", "", "", false)
def tyJ10 : Nat → FieldType := fun k => match k with
  | _ => .int
abbrev wsJ100 : List Cond := u_ws RJ10 TJ10 0
theorem nmJ10 : ∀ a, a < 0 → ∀ b, b < 0 → a ≠ b → (TJ10 a).2.1 ≠ (TJ10 b).2.1 := by decide +kernel
theorem tyJ10_ok : ∀ k, k < 0 → parseFieldDescriptor (TJ10 k).2.2.1 = some (tyJ10 k) := by decide +kernel
def RJxfd54e : String := "java/lang/constant/Constable"
def TJxfd54e : u_T := fun k => match k with
  | _ => ("", "", "", false)
def tyJxfd54e : Nat → FieldType := fun k => match k with
  | _ => .int
abbrev wsJxfd54e0 : List Cond := u_ws RJxfd54e TJxfd54e 0
theorem nmJxfd54e : ∀ a, a < 0 → ∀ b, b < 0 → a ≠ b → (TJxfd54e a).2.1 ≠ (TJxfd54e b).2.1 := by decide +kernel
theorem tyJxfd54e_ok : ∀ k, k < 0 → parseFieldDescriptor (TJxfd54e k).2.2.1 = some (tyJxfd54e k) := by decide +kernel
def RJx3cf43 : String := "java/lang/constant/ConstantDesc"
def TJx3cf43 : u_T := fun k => match k with
  | _ => ("", "", "", false)
def tyJx3cf43 : Nat → FieldType := fun k => match k with
  | _ => .int
abbrev wsJx3cf430 : List Cond := u_ws RJx3cf43 TJx3cf43 0
theorem nmJx3cf43 : ∀ a, a < 0 → ∀ b, b < 0 → a ≠ b → (TJx3cf43 a).2.1 ≠ (TJx3cf43 b).2.1 := by decide +kernel
theorem tyJx3cf43_ok : ∀ k, k < 0 → parseFieldDescriptor (TJx3cf43 k).2.2.1 = some (tyJx3cf43 k) := by decide +kernel
def RJ7 : String := "java/util/Arrays"
def TJ7 : u_T := fun k => match k with
  | _ => ("", "", "", false)
def tyJ7 : Nat → FieldType := fun k => match k with
  | _ => .int
abbrev wsJ70 : List Cond := u_ws RJ7 TJ7 0
theorem nmJ7 : ∀ a, a < 0 → ∀ b, b < 0 → a ≠ b → (TJ7 a).2.1 ≠ (TJ7 b).2.1 := by decide +kernel
theorem tyJ7_ok : ∀ k, k < 0 → parseFieldDescriptor (TJ7 k).2.2.1 = some (tyJ7 k) := by decide +kernel
abbrev cJ7_fill_d0a16 : ByteArray := prog_14_method_101_code
def yJ7_fill_d0a16 : MethodName := ⟨RJ7, "fill", "([JJ)V"⟩
abbrev cJ7_fill_53178 : ByteArray := prog_14_method_103_code
def yJ7_fill_53178 : MethodName := ⟨RJ7, "fill", "([II)V"⟩
def RL : String := "NewspaperMakeupLaw"
abbrev cL_cell : ByteArray := method_2_code
def yL_cell : MethodName := ⟨RL, "cell", "([II)I"⟩
abbrev cL_low : ByteArray := method_3_code
def yL_low : MethodName := ⟨RL, "low", "(II)I"⟩
abbrev cL_tale : ByteArray := method_4_code
def yL_tale : MethodName := ⟨RL, "tale", "(LNewspaperMakeup;)J"⟩
abbrev cL_does : ByteArray := method_5_code
def yL_does : MethodName := ⟨RL, "does", "(LNewspaperMakeup;I)I"⟩
abbrev cL_law : ByteArray := code
def yL_law : MethodName := ⟨RL, "law", "([I)Z"⟩
abbrev vwCl : List vw_C := [(RX0, TX0, 12), (RX1, TX1, 2), (RX2, TX2, 11), (RX3, TX3, 4), (RX4, TX4, 4), (RX5, TX5, 7)]
