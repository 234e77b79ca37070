def WS : List Cond := lw_tbl.filter goodWord
theorem ws_good : GoodIn WS WS := fun _ h => ⟨h, good_of_word (List.mem_filter.mp h).2⟩
theorem ws_tbl : ∀ w ∈ WS, w ∈ lw_tbl := fun _ h => (List.mem_filter.mp h).1
theorem mt1 {i : Nat} {w : Cond} (h : tables_1_1[i]? = some w) (g : goodWord w = true) : w ∈ WS := List.mem_filter.mpr ⟨List.mem_append_right _ (List.mem_append_left _ (List.mem_of_getElem? h)), g⟩
theorem mn1 {i : Nat} {w : Cond} (h : tables_1_1[i]? = some w) : w ∈ lw_tbl := List.mem_append_right _ (List.mem_append_left _ (List.mem_of_getElem? h))
theorem mt2 {i : Nat} {w : Cond} (h : tables_1_2[i]? = some w) (g : goodWord w = true) : w ∈ WS := List.mem_filter.mpr ⟨List.mem_append_right _ (List.mem_append_right _ (List.mem_append_left _ (List.mem_of_getElem? h))), g⟩
theorem mn2 {i : Nat} {w : Cond} (h : tables_1_2[i]? = some w) : w ∈ lw_tbl := List.mem_append_right _ (List.mem_append_right _ (List.mem_append_left _ (List.mem_of_getElem? h)))
theorem mt3 {i : Nat} {w : Cond} (h : tables_1_3[i]? = some w) (g : goodWord w = true) : w ∈ WS := List.mem_filter.mpr ⟨List.mem_append_right _ (List.mem_append_right _ (List.mem_append_right _ (List.mem_of_getElem? h))), g⟩
theorem mn3 {i : Nat} {w : Cond} (h : tables_1_3[i]? = some w) : w ∈ lw_tbl := List.mem_append_right _ (List.mem_append_right _ (List.mem_append_right _ (List.mem_of_getElem? h)))
theorem ms {i : Nat} {q : MethodName × Nat} {w : Cond} (h : lw_privs[i]? = some q) (e : Cond.selects q.1.cls q.1 q.1 = w) (g : goodWord w = true) : w ∈ WS := List.mem_filter.mpr ⟨List.mem_append_left _ (List.mem_map.mpr ⟨q, List.mem_of_getElem? h, e⟩), g⟩
def oN (o : Nat) : String := [RX0, RX1, RX2, RX3, RX4, RX5, RX6, RL, RJ6, RJ13, RJ9, RJ7].getD o ""
abbrev mRow : Type := MethodName × ByteArray × Nat × Option FieldType × Nat
def mtab_0 : List mRow := [(yL_law, cL_law, 15, (some .boolean), 7),
  (yX0_copyFrom, cX0_copyFrom, 2, none, 0),
  (yX0_copyPieces, cX0_copyPieces, 4, none, 0),
  (yX0_beginFor, cX0_beginFor, 3, none, 0),
  (yX0_keepPieces, cX0_keepPieces, 3, none, 0),
  (yX0_addPiece, cX0_addPiece, 8, none, 0),
  (yX0_isPrinted, cX0_isPrinted, 2, (some .boolean), 0),
  (yX0_hasPieceOn, cX0_hasPieceOn, 5, (some .boolean), 0),
  (yX0_isMovedSince, cX0_isMovedSince, 5, (some .boolean), 0),
  (yX0_printedStories, cX0_printedStories, 3, (some .int), 0),
  (yX0_heldOverStories, cX0_heldOverStories, 3, (some .int), 0),
  (yX0_movedStories, cX0_movedStories, 3, (some .int), 0),
  (yX0_allPieces, cX0_allPieces, 3, (some .int), 0),
  (yX0_jumpLines, cX0_jumpLines, 1, (some .int), 0),
  (yX0_freeLines, cX0_freeLines, 5, (some .int), 0),
  (yX0_propertyOf, cX0_propertyOf, 5, (some .int), 0),
  (yX0_storyOnLine, cX0_storyOnLine, 7, (some .int), 0),
  (yX1_plan, cX1_plan, 6, none, 1),
  (yX1_putInOrder, cX1_putInOrder, 4, (some .int), 1),
  (yX1_staysInPlace, cX1_staysInPlace, 3, (some .boolean), 1),
  (yX1_placeAnew, cX1_placeAnew, 8, none, 1),
  (yX1_placeNextPiece, cX1_placeNextPiece, 9, (some .int), 1),
  (yX1_placeInFirstGap, cX1_placeInFirstGap, 11, (some .boolean), 1),
  (yX2_copyFrom, cX2_copyFrom, 2, none, 2),
  (yX2_changePages, cX2_changePages, 5, none, 2),
  (yX2_highestHome, cX2_highestHome, 3, (some .int), 2),
  (yX2_appendStory, cX2_appendStory, 4, (some .int), 2),
  (yX2_appendParagraph, cX2_appendParagraph, 4, none, 2),
  (yX2_changeParagraph, cX2_changeParagraph, 4, none, 2),
  (yX2_removeParagraph, cX2_removeParagraph, 5, none, 2),
  (yX2_forgetChanges, cX2_forgetChanges, 2, none, 2),
  (yX2_linesOf, cX2_linesOf, 3, (some .int), 2),
  (yX2_linesOfParagraphs, cX2_linesOfParagraphs, 7, (some .int), 2),
  (yX2_sizeOfPiece, cX2_sizeOfPiece, 5, (some .int), 2),
  (yX2_aliveCount, cX2_aliveCount, 3, (some .int), 2),
  (yX2_aliveAheadOf, cX2_aliveAheadOf, 4, (some .int), 2),
  (yX2_goesAhead, cX2_goesAhead, 3, (some .boolean), 2),
  (yX3_makeBlank, cX3_makeBlank, 3, none, 3),
  (yX3_hasPlaceFor, cX3_hasPlaceFor, 7, (some .boolean), 3),
  (yX3_takeLinesOf, cX3_takeLinesOf, 5, none, 3)]
def mtab_1 : List mRow := [(yX3_firstGapOn, cX3_firstGapOn, 6, (some .int), 3),
  (yX3_startsOfRoom, cX3_startsOfRoom, 7, (some .long), 3),
  (yX3_columnOf, cX3_columnOf, 2, (some .int), 3),
  (yX3_bitsOf, cX3_bitsOf, 2, (some .long), 3),
  (yX5_setPages, cX5_setPages, 4, (some .int), 5),
  (yX5_addStory, cX5_addStory, 5, (some .int), 5),
  (yX5_setRank, cX5_setRank, 4, (some .int), 5),
  (yX5_setHome, cX5_setHome, 4, (some .int), 5),
  (yX5_addParagraph, cX5_addParagraph, 3, (some .int), 5),
  (yX5_setParagraph, cX5_setParagraph, 5, (some .int), 5),
  (yX5_kill, cX5_kill, 2, (some .int), 5),
  (yX5_revive, cX5_revive, 2, (some .int), 5),
  (yX5_story, cX5_story, 3, (some .int), 5),
  (yX5_paragraph, cX5_paragraph, 3, (some .int), 5),
  (yX5_count, cX5_count, 2, (some .int), 5),
  (yX5_make, cX5_make, 1, (some .int), 5),
  (yX5_edition, cX5_edition, 2, (some .int), 5),
  (yX5_pieces, cX5_pieces, 3, (some .int), 5),
  (yX5_piece, cX5_piece, 4, (some .int), 5),
  (yX5_at, cX5_at, 5, (some .int), 5),
  (yX5_wasMoved, cX5_wasMoved, 2, (some .int), 5),
  (yX5_next, cX5_next, 2, (some .int), 5),
  (yX5_undo, cX5_undo, 1, (some .int), 5),
  (yX5_saveState, cX5_saveState, 1, none, 5),
  (yX5_discardOldest, cX5_discardOldest, 3, none, 5),
  (yX5_isStory, cX5_isStory, 2, (some .boolean), 5),
  (yX5_isPage, cX5_isPage, 2, (some .boolean), 5),
  (yX5_hasEdition, cX5_hasEdition, 1, (some .boolean), 5),
  (yX5_isRank, cX5_isRank, 1, (some .boolean), 5),
  (yX5_isWithin, cX5_isWithin, 3, (some .boolean), 5),
  (yJ6_numberOfTrailingZeros_0f7a4, cJ6_numberOfTrailingZeros_0f7a4, 2, (some .int), 8),
  (yJ13_numberOfTrailingZeros_95d88, cJ13_numberOfTrailingZeros_95d88, 3, (some .int), 9),
  (yJ9_max_7cf53, cJ9_max_7cf53, 2, (some .int), 10),
  (yJ7_fill_d0a16, cJ7_fill_d0a16, 5, none, 11),
  (yJ7_fill_53178, cJ7_fill_53178, 4, none, 11),
  (yL_low, cL_low, 2, (some .int), 7),
  (yL_tale, cL_tale, 6, (some .long), 7),
  (yL_does, cL_does, 3, (some .int), 7),
  (yL_cell, cL_cell, 2, (some .int), 7)]
def mtab : List mRow := mtab_0 ++ (mtab_1)
def mR (k : Nat) : mRow := mtab.getD k (yL_law, cL_law, 0, none, 99)
def yN (k : Nat) : MethodName := (mR k).1
def cN (k : Nat) : ByteArray := (mR k).2.1
def mL (k : Nat) : Nat := (mR k).2.2.1
def rT (k : Nat) : Option FieldType := (mR k).2.2.2.1
def oI (k : Nat) : Nat := (mR k).2.2.2.2
def okI (k : Nat) : Prop := Cond.instanceMethod (yN k) ∈ WS ∧ Cond.selects (oN (oI k)) (yN k) (yN k) ∈ WS ∧ Cond.initialized (oN (oI k)) ∈ WS ∧ Cond.code (yN k) (cN k) (mL k) (rT k) ∈ WS ∧ (yN k).cls = oN (oI k) ∧ oI k < 7
def okS (k : Nat) : Prop := Cond.static (yN k) ∈ WS ∧ Cond.initialized (oN (oI k)) ∈ WS ∧ Cond.code (yN k) (cN k) (mL k) (rT k) ∈ WS ∧ (yN k).cls = oN (oI k)
theorem okI_1 : okI 1 := ⟨mt2 (i := 11) (by decide +kernel) rfl, mt2 (i := 12) (by decide +kernel) rfl, mt1 (i := 3) (by decide +kernel) rfl, mt2 (i := 13) (by decide +kernel) rfl, by decide +kernel, by decide +kernel⟩
theorem okI_2 : okI 2 := ⟨mt2 (i := 17) (by decide +kernel) rfl, ms (i := 2) (q := (yX0_copyPieces, 12)) (by decide +kernel) rfl rfl, mt1 (i := 3) (by decide +kernel) rfl, mt2 (i := 18) (by decide +kernel) rfl, by decide +kernel, by decide +kernel⟩
theorem okI_3 : okI 3 := ⟨mt2 (i := 24) (by decide +kernel) rfl, mt2 (i := 25) (by decide +kernel) rfl, mt1 (i := 3) (by decide +kernel) rfl, mt2 (i := 26) (by decide +kernel) rfl, by decide +kernel, by decide +kernel⟩
theorem okI_4 : okI 4 := ⟨mt2 (i := 65) (by decide +kernel) rfl, mt2 (i := 66) (by decide +kernel) rfl, mt1 (i := 3) (by decide +kernel) rfl, mt2 (i := 67) (by decide +kernel) rfl, by decide +kernel, by decide +kernel⟩
theorem okI_5 : okI 5 := ⟨mt2 (i := 112) (by decide +kernel) rfl, mt2 (i := 113) (by decide +kernel) rfl, mt1 (i := 3) (by decide +kernel) rfl, mt2 (i := 114) (by decide +kernel) rfl, by decide +kernel, by decide +kernel⟩
theorem okI_6 : okI 6 := ⟨mt2 (i := 54) (by decide +kernel) rfl, mt2 (i := 55) (by decide +kernel) rfl, mt1 (i := 3) (by decide +kernel) rfl, mt2 (i := 56) (by decide +kernel) rfl, by decide +kernel, by decide +kernel⟩
theorem okI_7 : okI 7 := ⟨mt2 (i := 89) (by decide +kernel) rfl, mt2 (i := 90) (by decide +kernel) rfl, mt1 (i := 3) (by decide +kernel) rfl, mt2 (i := 91) (by decide +kernel) rfl, by decide +kernel, by decide +kernel⟩
theorem okI_8 : okI 8 := ⟨mt2 (i := 120) (by decide +kernel) rfl, mt2 (i := 121) (by decide +kernel) rfl, mt1 (i := 3) (by decide +kernel) rfl, mt2 (i := 122) (by decide +kernel) rfl, by decide +kernel, by decide +kernel⟩
theorem okI_9 : okI 9 := ⟨mt2 (i := 143) (by decide +kernel) rfl, mt2 (i := 144) (by decide +kernel) rfl, mt1 (i := 3) (by decide +kernel) rfl, mt2 (i := 145) (by decide +kernel) rfl, by decide +kernel, by decide +kernel⟩
theorem okI_10 : okI 10 := ⟨mt2 (i := 130) (by decide +kernel) rfl, mt2 (i := 131) (by decide +kernel) rfl, mt1 (i := 3) (by decide +kernel) rfl, mt2 (i := 132) (by decide +kernel) rfl, by decide +kernel, by decide +kernel⟩
theorem okI_11 : okI 11 := ⟨mt2 (i := 147) (by decide +kernel) rfl, mt2 (i := 148) (by decide +kernel) rfl, mt1 (i := 3) (by decide +kernel) rfl, mt2 (i := 149) (by decide +kernel) rfl, by decide +kernel, by decide +kernel⟩
theorem okI_12 : okI 12 := ⟨mt2 (i := 151) (by decide +kernel) rfl, mt2 (i := 152) (by decide +kernel) rfl, mt1 (i := 3) (by decide +kernel) rfl, mt2 (i := 153) (by decide +kernel) rfl, by decide +kernel, by decide +kernel⟩
theorem okI_13 : okI 13 := ⟨mt2 (i := 158) (by decide +kernel) rfl, mt2 (i := 159) (by decide +kernel) rfl, mt1 (i := 3) (by decide +kernel) rfl, mt2 (i := 160) (by decide +kernel) rfl, by decide +kernel, by decide +kernel⟩
theorem okI_14 : okI 14 := ⟨mt2 (i := 164) (by decide +kernel) rfl, mt2 (i := 165) (by decide +kernel) rfl, mt1 (i := 3) (by decide +kernel) rfl, mt2 (i := 166) (by decide +kernel) rfl, by decide +kernel, by decide +kernel⟩
theorem okI_15 : okI 15 := ⟨mt2 (i := 180) (by decide +kernel) rfl, mt2 (i := 181) (by decide +kernel) rfl, mt1 (i := 3) (by decide +kernel) rfl, mt2 (i := 182) (by decide +kernel) rfl, by decide +kernel, by decide +kernel⟩
theorem okI_16 : okI 16 := ⟨mt2 (i := 188) (by decide +kernel) rfl, mt2 (i := 189) (by decide +kernel) rfl, mt1 (i := 3) (by decide +kernel) rfl, mt2 (i := 190) (by decide +kernel) rfl, by decide +kernel, by decide +kernel⟩
theorem okI_17 : okI 17 := ⟨mt2 (i := 20) (by decide +kernel) rfl, mt2 (i := 21) (by decide +kernel) rfl, mt1 (i := 6) (by decide +kernel) rfl, mt2 (i := 22) (by decide +kernel) rfl, by decide +kernel, by decide +kernel⟩
theorem okI_18 : okI 18 := ⟨mt2 (i := 39) (by decide +kernel) rfl, ms (i := 3) (q := (yX1_putInOrder, 2)) (by decide +kernel) rfl rfl, mt1 (i := 6) (by decide +kernel) rfl, mt2 (i := 40) (by decide +kernel) rfl, by decide +kernel, by decide +kernel⟩
theorem okI_19 : okI 19 := ⟨mt2 (i := 51) (by decide +kernel) rfl, ms (i := 5) (q := (yX1_staysInPlace, 2)) (by decide +kernel) rfl rfl, mt1 (i := 6) (by decide +kernel) rfl, mt2 (i := 52) (by decide +kernel) rfl, by decide +kernel, by decide +kernel⟩
theorem okI_20 : okI 20 := ⟨mt2 (i := 70) (by decide +kernel) rfl, ms (i := 6) (q := (yX1_placeAnew, 2)) (by decide +kernel) rfl rfl, mt1 (i := 6) (by decide +kernel) rfl, mt2 (i := 71) (by decide +kernel) rfl, by decide +kernel, by decide +kernel⟩
theorem okI_21 : okI 21 := ⟨mt2 (i := 74) (by decide +kernel) rfl, ms (i := 7) (q := (yX1_placeNextPiece, 2)) (by decide +kernel) rfl rfl, mt1 (i := 6) (by decide +kernel) rfl, mt2 (i := 75) (by decide +kernel) rfl, by decide +kernel, by decide +kernel⟩
theorem okI_22 : okI 22 := ⟨mt2 (i := 78) (by decide +kernel) rfl, ms (i := 8) (q := (yX1_placeInFirstGap, 2)) (by decide +kernel) rfl rfl, mt1 (i := 6) (by decide +kernel) rfl, mt2 (i := 79) (by decide +kernel) rfl, by decide +kernel, by decide +kernel⟩
theorem okI_23 : okI 23 := ⟨mt2 (i := 4) (by decide +kernel) rfl, mt2 (i := 5) (by decide +kernel) rfl, mt1 (i := 2) (by decide +kernel) rfl, mt2 (i := 6) (by decide +kernel) rfl, by decide +kernel, by decide +kernel⟩
theorem okI_24 : okI 24 := ⟨mt3 (i := 11) (by decide +kernel) rfl, mt3 (i := 12) (by decide +kernel) rfl, mt1 (i := 2) (by decide +kernel) rfl, mt3 (i := 13) (by decide +kernel) rfl, by decide +kernel, by decide +kernel⟩
theorem okI_25 : okI 25 := ⟨mt3 (i := 6) (by decide +kernel) rfl, mt3 (i := 7) (by decide +kernel) rfl, mt1 (i := 2) (by decide +kernel) rfl, mt3 (i := 8) (by decide +kernel) rfl, by decide +kernel, by decide +kernel⟩
theorem okI_26 : okI 26 := ⟨mt3 (i := 26) (by decide +kernel) rfl, mt3 (i := 27) (by decide +kernel) rfl, mt1 (i := 2) (by decide +kernel) rfl, mt3 (i := 28) (by decide +kernel) rfl, by decide +kernel, by decide +kernel⟩
theorem okI_27 : okI 27 := ⟨mt3 (i := 30) (by decide +kernel) rfl, mt3 (i := 31) (by decide +kernel) rfl, mt1 (i := 2) (by decide +kernel) rfl, mt3 (i := 32) (by decide +kernel) rfl, by decide +kernel, by decide +kernel⟩
theorem okI_28 : okI 28 := ⟨mt3 (i := 34) (by decide +kernel) rfl, mt3 (i := 35) (by decide +kernel) rfl, mt1 (i := 2) (by decide +kernel) rfl, mt3 (i := 36) (by decide +kernel) rfl, by decide +kernel, by decide +kernel⟩
theorem okI_29 : okI 29 := ⟨mt3 (i := 54) (by decide +kernel) rfl, mt3 (i := 55) (by decide +kernel) rfl, mt1 (i := 2) (by decide +kernel) rfl, mt3 (i := 56) (by decide +kernel) rfl, by decide +kernel, by decide +kernel⟩
theorem okI_30 : okI 30 := ⟨mt2 (i := 126) (by decide +kernel) rfl, mt2 (i := 127) (by decide +kernel) rfl, mt1 (i := 2) (by decide +kernel) rfl, mt2 (i := 128) (by decide +kernel) rfl, by decide +kernel, by decide +kernel⟩
theorem okI_31 : okI 31 := ⟨mt2 (i := 220) (by decide +kernel) rfl, mt2 (i := 221) (by decide +kernel) rfl, mt1 (i := 2) (by decide +kernel) rfl, mt2 (i := 222) (by decide +kernel) rfl, by decide +kernel, by decide +kernel⟩
theorem okI_32 : okI 32 := ⟨mt2 (i := 85) (by decide +kernel) rfl, mt2 (i := 86) (by decide +kernel) rfl, mt1 (i := 2) (by decide +kernel) rfl, mt2 (i := 87) (by decide +kernel) rfl, by decide +kernel, by decide +kernel⟩
theorem okI_33 : okI 33 := ⟨mt2 (i := 81) (by decide +kernel) rfl, mt2 (i := 82) (by decide +kernel) rfl, mt1 (i := 2) (by decide +kernel) rfl, mt2 (i := 83) (by decide +kernel) rfl, by decide +kernel, by decide +kernel⟩
theorem okI_34 : okI 34 := ⟨mt1 (i := 228) (by decide +kernel) rfl, mt1 (i := 229) (by decide +kernel) rfl, mt1 (i := 2) (by decide +kernel) rfl, mt1 (i := 230) (by decide +kernel) rfl, by decide +kernel, by decide +kernel⟩
theorem okI_35 : okI 35 := ⟨mt2 (i := 42) (by decide +kernel) rfl, mt2 (i := 43) (by decide +kernel) rfl, mt1 (i := 2) (by decide +kernel) rfl, mt2 (i := 44) (by decide +kernel) rfl, by decide +kernel, by decide +kernel⟩
theorem okI_36 : okI 36 := ⟨mt2 (i := 47) (by decide +kernel) rfl, ms (i := 4) (q := (yX2_goesAhead, 11)) (by decide +kernel) rfl rfl, mt1 (i := 2) (by decide +kernel) rfl, mt2 (i := 48) (by decide +kernel) rfl, by decide +kernel, by decide +kernel⟩
theorem okI_37 : okI 37 := ⟨mt2 (i := 28) (by decide +kernel) rfl, mt2 (i := 29) (by decide +kernel) rfl, mt1 (i := 7) (by decide +kernel) rfl, mt2 (i := 30) (by decide +kernel) rfl, by decide +kernel, by decide +kernel⟩
theorem okI_38 : okI 38 := ⟨mt2 (i := 58) (by decide +kernel) rfl, mt2 (i := 59) (by decide +kernel) rfl, mt1 (i := 7) (by decide +kernel) rfl, mt2 (i := 60) (by decide +kernel) rfl, by decide +kernel, by decide +kernel⟩
theorem okI_39 : okI 39 := ⟨mt2 (i := 116) (by decide +kernel) rfl, mt2 (i := 117) (by decide +kernel) rfl, mt1 (i := 7) (by decide +kernel) rfl, mt2 (i := 118) (by decide +kernel) rfl, by decide +kernel, by decide +kernel⟩
theorem okI_40 : okI 40 := ⟨mt2 (i := 93) (by decide +kernel) rfl, mt2 (i := 94) (by decide +kernel) rfl, mt1 (i := 7) (by decide +kernel) rfl, mt2 (i := 95) (by decide +kernel) rfl, by decide +kernel, by decide +kernel⟩
theorem okI_41 : okI 41 := ⟨mt2 (i := 101) (by decide +kernel) rfl, ms (i := 9) (q := (yX3_startsOfRoom, 4)) (by decide +kernel) rfl rfl, mt1 (i := 7) (by decide +kernel) rfl, mt2 (i := 102) (by decide +kernel) rfl, by decide +kernel, by decide +kernel⟩
theorem okI_44 : okI 44 := ⟨mt3 (i := 2) (by decide +kernel) rfl, mt3 (i := 3) (by decide +kernel) rfl, mt1 (i := 1) (by decide +kernel) rfl, mt3 (i := 4) (by decide +kernel) rfl, by decide +kernel, by decide +kernel⟩
theorem okI_45 : okI 45 := ⟨mt3 (i := 15) (by decide +kernel) rfl, mt3 (i := 16) (by decide +kernel) rfl, mt1 (i := 1) (by decide +kernel) rfl, mt3 (i := 17) (by decide +kernel) rfl, by decide +kernel, by decide +kernel⟩
theorem okI_46 : okI 46 := ⟨mt3 (i := 38) (by decide +kernel) rfl, mt3 (i := 39) (by decide +kernel) rfl, mt1 (i := 1) (by decide +kernel) rfl, mt3 (i := 40) (by decide +kernel) rfl, by decide +kernel, by decide +kernel⟩
theorem okI_47 : okI 47 := ⟨mt3 (i := 42) (by decide +kernel) rfl, mt3 (i := 43) (by decide +kernel) rfl, mt1 (i := 1) (by decide +kernel) rfl, mt3 (i := 44) (by decide +kernel) rfl, by decide +kernel, by decide +kernel⟩
theorem okI_48 : okI 48 := ⟨mt3 (i := 46) (by decide +kernel) rfl, mt3 (i := 47) (by decide +kernel) rfl, mt1 (i := 1) (by decide +kernel) rfl, mt3 (i := 48) (by decide +kernel) rfl, by decide +kernel, by decide +kernel⟩
theorem okI_49 : okI 49 := ⟨mt3 (i := 50) (by decide +kernel) rfl, mt3 (i := 51) (by decide +kernel) rfl, mt1 (i := 1) (by decide +kernel) rfl, mt3 (i := 52) (by decide +kernel) rfl, by decide +kernel, by decide +kernel⟩
theorem okI_50 : okI 50 := ⟨mt3 (i := 59) (by decide +kernel) rfl, mt3 (i := 60) (by decide +kernel) rfl, mt1 (i := 1) (by decide +kernel) rfl, mt3 (i := 61) (by decide +kernel) rfl, by decide +kernel, by decide +kernel⟩
theorem okI_51 : okI 51 := ⟨mt3 (i := 63) (by decide +kernel) rfl, mt3 (i := 64) (by decide +kernel) rfl, mt1 (i := 1) (by decide +kernel) rfl, mt3 (i := 65) (by decide +kernel) rfl, by decide +kernel, by decide +kernel⟩
theorem okI_52 : okI 52 := ⟨mt2 (i := 209) (by decide +kernel) rfl, mt2 (i := 210) (by decide +kernel) rfl, mt1 (i := 1) (by decide +kernel) rfl, mt2 (i := 211) (by decide +kernel) rfl, by decide +kernel, by decide +kernel⟩
theorem okI_53 : okI 53 := ⟨mt2 (i := 216) (by decide +kernel) rfl, mt2 (i := 217) (by decide +kernel) rfl, mt1 (i := 1) (by decide +kernel) rfl, mt2 (i := 218) (by decide +kernel) rfl, by decide +kernel, by decide +kernel⟩
theorem okI_54 : okI 54 := ⟨mt1 (i := 224) (by decide +kernel) rfl, mt1 (i := 225) (by decide +kernel) rfl, mt1 (i := 1) (by decide +kernel) rfl, mt1 (i := 226) (by decide +kernel) rfl, by decide +kernel, by decide +kernel⟩
theorem okI_55 : okI 55 := ⟨mt1 (i := 232) (by decide +kernel) rfl, mt1 (i := 233) (by decide +kernel) rfl, mt1 (i := 1) (by decide +kernel) rfl, mt1 (i := 234) (by decide +kernel) rfl, by decide +kernel, by decide +kernel⟩
theorem okI_56 : okI 56 := ⟨mt2 (i := 134) (by decide +kernel) rfl, mt2 (i := 135) (by decide +kernel) rfl, mt1 (i := 1) (by decide +kernel) rfl, mt2 (i := 136) (by decide +kernel) rfl, by decide +kernel, by decide +kernel⟩
theorem okI_57 : okI 57 := ⟨mt2 (i := 168) (by decide +kernel) rfl, mt2 (i := 169) (by decide +kernel) rfl, mt1 (i := 1) (by decide +kernel) rfl, mt2 (i := 170) (by decide +kernel) rfl, by decide +kernel, by decide +kernel⟩
theorem okI_58 : okI 58 := ⟨mt2 (i := 176) (by decide +kernel) rfl, mt2 (i := 177) (by decide +kernel) rfl, mt1 (i := 1) (by decide +kernel) rfl, mt2 (i := 178) (by decide +kernel) rfl, by decide +kernel, by decide +kernel⟩
theorem okI_59 : okI 59 := ⟨mt2 (i := 184) (by decide +kernel) rfl, mt2 (i := 185) (by decide +kernel) rfl, mt1 (i := 1) (by decide +kernel) rfl, mt2 (i := 186) (by decide +kernel) rfl, by decide +kernel, by decide +kernel⟩
theorem okI_60 : okI 60 := ⟨mt2 (i := 226) (by decide +kernel) rfl, mt2 (i := 227) (by decide +kernel) rfl, mt1 (i := 1) (by decide +kernel) rfl, mt2 (i := 228) (by decide +kernel) rfl, by decide +kernel, by decide +kernel⟩
theorem okI_61 : okI 61 := ⟨mt2 (i := 192) (by decide +kernel) rfl, mt2 (i := 193) (by decide +kernel) rfl, mt1 (i := 1) (by decide +kernel) rfl, mt2 (i := 194) (by decide +kernel) rfl, by decide +kernel, by decide +kernel⟩
theorem okI_62 : okI 62 := ⟨mt2 (i := 196) (by decide +kernel) rfl, mt2 (i := 197) (by decide +kernel) rfl, mt1 (i := 1) (by decide +kernel) rfl, mt2 (i := 198) (by decide +kernel) rfl, by decide +kernel, by decide +kernel⟩
theorem okI_63 : okI 63 := ⟨mt1 (i := 237) (by decide +kernel) rfl, ms (i := 0) (q := (yX5_saveState, 7)) (by decide +kernel) rfl rfl, mt1 (i := 1) (by decide +kernel) rfl, mt1 (i := 238) (by decide +kernel) rfl, by decide +kernel, by decide +kernel⟩
theorem okI_64 : okI 64 := ⟨mt2 (i := 1) (by decide +kernel) rfl, ms (i := 1) (q := (yX5_discardOldest, 7)) (by decide +kernel) rfl rfl, mt1 (i := 1) (by decide +kernel) rfl, mt2 (i := 2) (by decide +kernel) rfl, by decide +kernel, by decide +kernel⟩
theorem okI_65 : okI 65 := ⟨mt2 (i := 173) (by decide +kernel) rfl, ms (i := 11) (q := (yX5_isStory, 7)) (by decide +kernel) rfl rfl, mt1 (i := 1) (by decide +kernel) rfl, mt2 (i := 174) (by decide +kernel) rfl, by decide +kernel, by decide +kernel⟩
theorem okI_66 : okI 66 := ⟨mt3 (i := 23) (by decide +kernel) rfl, ms (i := 12) (q := (yX5_isPage, 7)) (by decide +kernel) rfl rfl, mt1 (i := 1) (by decide +kernel) rfl, mt3 (i := 24) (by decide +kernel) rfl, by decide +kernel, by decide +kernel⟩
theorem okI_67 : okI 67 := ⟨mt2 (i := 140) (by decide +kernel) rfl, ms (i := 10) (q := (yX5_hasEdition, 7)) (by decide +kernel) rfl rfl, mt1 (i := 1) (by decide +kernel) rfl, mt2 (i := 141) (by decide +kernel) rfl, by decide +kernel, by decide +kernel⟩
theorem okS_42 : okS 42 := ⟨mt2 (i := 62) (by decide +kernel) rfl, mt1 (i := 7) (by decide +kernel) rfl, mt2 (i := 63) (by decide +kernel) rfl, by decide +kernel⟩
theorem okS_43 : okS 43 := ⟨mt2 (i := 32) (by decide +kernel) rfl, mt1 (i := 7) (by decide +kernel) rfl, mt2 (i := 33) (by decide +kernel) rfl, by decide +kernel⟩
theorem okS_68 : okS 68 := ⟨mt3 (i := 19) (by decide +kernel) rfl, mt1 (i := 1) (by decide +kernel) rfl, mt3 (i := 20) (by decide +kernel) rfl, by decide +kernel⟩
theorem okS_69 : okS 69 := ⟨mt2 (i := 97) (by decide +kernel) rfl, mt1 (i := 1) (by decide +kernel) rfl, mt2 (i := 98) (by decide +kernel) rfl, by decide +kernel⟩
theorem okS_70 : okS 70 := ⟨mt2 (i := 108) (by decide +kernel) rfl, mt1 (i := 12) (by decide +kernel) rfl, mt2 (i := 109) (by decide +kernel) rfl, by decide +kernel⟩
theorem okS_71 : okS 71 := ⟨mt2 (i := 105) (by decide +kernel) rfl, mt1 (i := 11) (by decide +kernel) rfl, mt2 (i := 106) (by decide +kernel) rfl, by decide +kernel⟩
theorem okS_72 : okS 72 := ⟨mt2 (i := 155) (by decide +kernel) rfl, mt1 (i := 8) (by decide +kernel) rfl, mt2 (i := 156) (by decide +kernel) rfl, by decide +kernel⟩
theorem okS_73 : okS 73 := ⟨mt2 (i := 35) (by decide +kernel) rfl, mt1 (i := 4) (by decide +kernel) rfl, mt2 (i := 36) (by decide +kernel) rfl, by decide +kernel⟩
theorem okS_74 : okS 74 := ⟨mt1 (i := 34) (by decide +kernel) rfl, mt1 (i := 4) (by decide +kernel) rfl, mt1 (i := 35) (by decide +kernel) rfl, by decide +kernel⟩
theorem okS_75 : okS 75 := ⟨mt2 (i := 238) (by decide +kernel) rfl, mt1 (i := 0) (by decide +kernel) rfl, mt2 (i := 239) (by decide +kernel) rfl, by decide +kernel⟩
theorem okS_76 : okS 76 := ⟨mt2 (i := 203) (by decide +kernel) rfl, mt1 (i := 0) (by decide +kernel) rfl, mt2 (i := 204) (by decide +kernel) rfl, by decide +kernel⟩
theorem okS_77 : okS 77 := ⟨mt2 (i := 235) (by decide +kernel) rfl, mt1 (i := 0) (by decide +kernel) rfl, mt2 (i := 236) (by decide +kernel) rfl, by decide +kernel⟩
theorem okS_78 : okS 78 := ⟨mt2 (i := 200) (by decide +kernel) rfl, mt1 (i := 0) (by decide +kernel) rfl, mt2 (i := 201) (by decide +kernel) rfl, by decide +kernel⟩
def LI : List Nat := [1, 2, 3, 4, 5, 6, 7, 8, 9, 10, 11, 12, 13, 14, 15, 16, 17, 18, 19, 20, 21, 22, 23, 24, 25, 26, 27, 28, 29, 30, 31, 32, 33, 34, 35, 36, 37, 38, 39, 40, 41, 44, 45, 46, 47, 48, 49, 50, 51, 52, 53, 54, 55, 56, 57, 58, 59, 60, 61, 62, 63, 64, 65, 66, 67]
theorem LI_c0 : ∀ k ∈ [1, 2, 3, 4, 5, 6, 7, 8, 9, 10, 11, 12, 13, 14, 15, 16, 17, 18, 19, 20, 21, 22, 23, 24, 25], okI k := List.forall_mem_cons.mpr ⟨okI_1, List.forall_mem_cons.mpr ⟨okI_2, List.forall_mem_cons.mpr ⟨okI_3, List.forall_mem_cons.mpr ⟨okI_4, List.forall_mem_cons.mpr ⟨okI_5, List.forall_mem_cons.mpr ⟨okI_6, List.forall_mem_cons.mpr ⟨okI_7, List.forall_mem_cons.mpr ⟨okI_8, List.forall_mem_cons.mpr ⟨okI_9, List.forall_mem_cons.mpr ⟨okI_10, List.forall_mem_cons.mpr ⟨okI_11, List.forall_mem_cons.mpr ⟨okI_12, List.forall_mem_cons.mpr ⟨okI_13, List.forall_mem_cons.mpr ⟨okI_14, List.forall_mem_cons.mpr ⟨okI_15, List.forall_mem_cons.mpr ⟨okI_16, List.forall_mem_cons.mpr ⟨okI_17, List.forall_mem_cons.mpr ⟨okI_18, List.forall_mem_cons.mpr ⟨okI_19, List.forall_mem_cons.mpr ⟨okI_20, List.forall_mem_cons.mpr ⟨okI_21, List.forall_mem_cons.mpr ⟨okI_22, List.forall_mem_cons.mpr ⟨okI_23, List.forall_mem_cons.mpr ⟨okI_24, List.forall_mem_cons.mpr ⟨okI_25, fun _ h => absurd h List.not_mem_nil⟩⟩⟩⟩⟩⟩⟩⟩⟩⟩⟩⟩⟩⟩⟩⟩⟩⟩⟩⟩⟩⟩⟩⟩⟩
theorem LI_c1 : ∀ k ∈ [26, 27, 28, 29, 30, 31, 32, 33, 34, 35, 36, 37, 38, 39, 40, 41, 44, 45, 46, 47, 48, 49, 50, 51, 52], okI k := List.forall_mem_cons.mpr ⟨okI_26, List.forall_mem_cons.mpr ⟨okI_27, List.forall_mem_cons.mpr ⟨okI_28, List.forall_mem_cons.mpr ⟨okI_29, List.forall_mem_cons.mpr ⟨okI_30, List.forall_mem_cons.mpr ⟨okI_31, List.forall_mem_cons.mpr ⟨okI_32, List.forall_mem_cons.mpr ⟨okI_33, List.forall_mem_cons.mpr ⟨okI_34, List.forall_mem_cons.mpr ⟨okI_35, List.forall_mem_cons.mpr ⟨okI_36, List.forall_mem_cons.mpr ⟨okI_37, List.forall_mem_cons.mpr ⟨okI_38, List.forall_mem_cons.mpr ⟨okI_39, List.forall_mem_cons.mpr ⟨okI_40, List.forall_mem_cons.mpr ⟨okI_41, List.forall_mem_cons.mpr ⟨okI_44, List.forall_mem_cons.mpr ⟨okI_45, List.forall_mem_cons.mpr ⟨okI_46, List.forall_mem_cons.mpr ⟨okI_47, List.forall_mem_cons.mpr ⟨okI_48, List.forall_mem_cons.mpr ⟨okI_49, List.forall_mem_cons.mpr ⟨okI_50, List.forall_mem_cons.mpr ⟨okI_51, List.forall_mem_cons.mpr ⟨okI_52, fun _ h => absurd h List.not_mem_nil⟩⟩⟩⟩⟩⟩⟩⟩⟩⟩⟩⟩⟩⟩⟩⟩⟩⟩⟩⟩⟩⟩⟩⟩⟩
theorem LI_c2 : ∀ k ∈ [53, 54, 55, 56, 57, 58, 59, 60, 61, 62, 63, 64, 65, 66, 67], okI k := List.forall_mem_cons.mpr ⟨okI_53, List.forall_mem_cons.mpr ⟨okI_54, List.forall_mem_cons.mpr ⟨okI_55, List.forall_mem_cons.mpr ⟨okI_56, List.forall_mem_cons.mpr ⟨okI_57, List.forall_mem_cons.mpr ⟨okI_58, List.forall_mem_cons.mpr ⟨okI_59, List.forall_mem_cons.mpr ⟨okI_60, List.forall_mem_cons.mpr ⟨okI_61, List.forall_mem_cons.mpr ⟨okI_62, List.forall_mem_cons.mpr ⟨okI_63, List.forall_mem_cons.mpr ⟨okI_64, List.forall_mem_cons.mpr ⟨okI_65, List.forall_mem_cons.mpr ⟨okI_66, List.forall_mem_cons.mpr ⟨okI_67, fun _ h => absurd h List.not_mem_nil⟩⟩⟩⟩⟩⟩⟩⟩⟩⟩⟩⟩⟩⟩⟩
theorem LI_ok : ∀ k ∈ LI, okI k := by
  intro k h
  have h : k ∈ [1, 2, 3, 4, 5, 6, 7, 8, 9, 10, 11, 12, 13, 14, 15, 16, 17, 18, 19, 20, 21, 22, 23, 24, 25] ++ ([26, 27, 28, 29, 30, 31, 32, 33, 34, 35, 36, 37, 38, 39, 40, 41, 44, 45, 46, 47, 48, 49, 50, 51, 52] ++ ([53, 54, 55, 56, 57, 58, 59, 60, 61, 62, 63, 64, 65, 66, 67])) := h
  rcases List.mem_append.mp h with h | h
  · exact LI_c0 k h
  rcases List.mem_append.mp h with h | h
  · exact LI_c1 k h
  exact LI_c2 k h
def LT : List Nat := [42, 43, 68, 69, 70, 71, 72, 73, 74, 75, 76, 77, 78]
theorem LT_c0 : ∀ k ∈ [42, 43, 68, 69, 70, 71, 72, 73, 74, 75, 76, 77, 78], okS k := List.forall_mem_cons.mpr ⟨okS_42, List.forall_mem_cons.mpr ⟨okS_43, List.forall_mem_cons.mpr ⟨okS_68, List.forall_mem_cons.mpr ⟨okS_69, List.forall_mem_cons.mpr ⟨okS_70, List.forall_mem_cons.mpr ⟨okS_71, List.forall_mem_cons.mpr ⟨okS_72, List.forall_mem_cons.mpr ⟨okS_73, List.forall_mem_cons.mpr ⟨okS_74, List.forall_mem_cons.mpr ⟨okS_75, List.forall_mem_cons.mpr ⟨okS_76, List.forall_mem_cons.mpr ⟨okS_77, List.forall_mem_cons.mpr ⟨okS_78, fun _ h => absurd h List.not_mem_nil⟩⟩⟩⟩⟩⟩⟩⟩⟩⟩⟩⟩⟩
theorem LT_ok : ∀ k ∈ LT, okS k := by
  intro k h
  have h : k ∈ [42, 43, 68, 69, 70, 71, 72, 73, 74, 75, 76, 77, 78] := h
  exact LT_c0 k h
def tX (c : Nat) : u_T := [TX0, TX1, TX2, TX3, TX4, TX5].getD c TX0
def okF (q : Nat × Nat × Nat × Nat) : Prop := Cond.fieldLink (oN q.1) q.2.1 (tX q.2.2.1 q.2.2.2).1 (tX q.2.2.1 q.2.2.2).2.1 (tX q.2.2.1 q.2.2.2).2.2.1 ∈ WS
theorem LF_c0 : ∀ q ∈ ([(0, 9, 0, 0), (0, 15, 0, 1), (0, 18, 0, 2), (0, 21, 0, 3), (0, 24, 0, 4), (0, 28, 0, 5), (0, 32, 0, 6), (0, 35, 0, 7), (0, 38, 0, 8), (0, 41, 0, 9), (0, 44, 0, 10), (0, 47, 0, 11), (0, 66, 2, 10), (0, 72, 2, 0), (0, 73, 2, 1), (0, 74, 2, 2), (1, 12, 1, 0), (1, 18, 1, 1), (1, 28, 2, 1), (1, 34, 2, 2), (1, 49, 2, 10), (1, 64, 0, 5), (1, 78, 2, 3), (1, 81, 2, 8), (1, 91, 2, 9)] : List (Nat × Nat × Nat × Nat)), okF q := List.forall_mem_cons.mpr ⟨mt1 (i := 36) (by decide +kernel) rfl, List.forall_mem_cons.mpr ⟨mt1 (i := 38) (by decide +kernel) rfl, List.forall_mem_cons.mpr ⟨mt1 (i := 40) (by decide +kernel) rfl, List.forall_mem_cons.mpr ⟨mt1 (i := 42) (by decide +kernel) rfl, List.forall_mem_cons.mpr ⟨mt1 (i := 44) (by decide +kernel) rfl, List.forall_mem_cons.mpr ⟨mt1 (i := 48) (by decide +kernel) rfl, List.forall_mem_cons.mpr ⟨mt1 (i := 51) (by decide +kernel) rfl, List.forall_mem_cons.mpr ⟨mt1 (i := 53) (by decide +kernel) rfl, List.forall_mem_cons.mpr ⟨mt1 (i := 55) (by decide +kernel) rfl, List.forall_mem_cons.mpr ⟨mt1 (i := 57) (by decide +kernel) rfl, List.forall_mem_cons.mpr ⟨mt1 (i := 59) (by decide +kernel) rfl, List.forall_mem_cons.mpr ⟨mt1 (i := 60) (by decide +kernel) rfl, List.forall_mem_cons.mpr ⟨mt1 (i := 120) (by decide +kernel) rfl, List.forall_mem_cons.mpr ⟨mt1 (i := 89) (by decide +kernel) rfl, List.forall_mem_cons.mpr ⟨mt1 (i := 94) (by decide +kernel) rfl, List.forall_mem_cons.mpr ⟨mt1 (i := 98) (by decide +kernel) rfl, List.forall_mem_cons.mpr ⟨mt1 (i := 192) (by decide +kernel) rfl, List.forall_mem_cons.mpr ⟨mt1 (i := 193) (by decide +kernel) rfl, List.forall_mem_cons.mpr ⟨mt1 (i := 93) (by decide +kernel) rfl, List.forall_mem_cons.mpr ⟨mt1 (i := 97) (by decide +kernel) rfl, List.forall_mem_cons.mpr ⟨mt1 (i := 119) (by decide +kernel) rfl, List.forall_mem_cons.mpr ⟨mt1 (i := 49) (by decide +kernel) rfl, List.forall_mem_cons.mpr ⟨mt1 (i := 102) (by decide +kernel) rfl, List.forall_mem_cons.mpr ⟨mt1 (i := 113) (by decide +kernel) rfl, List.forall_mem_cons.mpr ⟨mt1 (i := 116) (by decide +kernel) rfl, fun _ h => absurd h List.not_mem_nil⟩⟩⟩⟩⟩⟩⟩⟩⟩⟩⟩⟩⟩⟩⟩⟩⟩⟩⟩⟩⟩⟩⟩⟩⟩
theorem LF_c1 : ∀ q ∈ ([(1, 97, 0, 4), (1, 100, 2, 6), (1, 115, 2, 0), (1, 118, 2, 5), (2, 9, 2, 0), (2, 15, 2, 1), (2, 18, 2, 2), (2, 21, 2, 3), (2, 24, 2, 4), (2, 28, 2, 5), (2, 31, 2, 6), (2, 34, 2, 7), (2, 37, 2, 8), (2, 41, 2, 9), (2, 47, 2, 10), (3, 9, 3, 0), (3, 15, 3, 1), (3, 18, 3, 2), (3, 22, 3, 3), (3, 36, 0, 4), (3, 42, 0, 8), (3, 45, 0, 9), (3, 72, 0, 6), (3, 75, 0, 7), (4, 9, 4, 0)] : List (Nat × Nat × Nat × Nat)), okF q := List.forall_mem_cons.mpr ⟨mt1 (i := 46) (by decide +kernel) rfl, List.forall_mem_cons.mpr ⟨mt1 (i := 109) (by decide +kernel) rfl, List.forall_mem_cons.mpr ⟨mt1 (i := 90) (by decide +kernel) rfl, List.forall_mem_cons.mpr ⟨mt1 (i := 107) (by decide +kernel) rfl, List.forall_mem_cons.mpr ⟨mt1 (i := 88) (by decide +kernel) rfl, List.forall_mem_cons.mpr ⟨mt1 (i := 92) (by decide +kernel) rfl, List.forall_mem_cons.mpr ⟨mt1 (i := 96) (by decide +kernel) rfl, List.forall_mem_cons.mpr ⟨mt1 (i := 100) (by decide +kernel) rfl, List.forall_mem_cons.mpr ⟨mt1 (i := 103) (by decide +kernel) rfl, List.forall_mem_cons.mpr ⟨mt1 (i := 105) (by decide +kernel) rfl, List.forall_mem_cons.mpr ⟨mt1 (i := 108) (by decide +kernel) rfl, List.forall_mem_cons.mpr ⟨mt1 (i := 111) (by decide +kernel) rfl, List.forall_mem_cons.mpr ⟨mt1 (i := 112) (by decide +kernel) rfl, List.forall_mem_cons.mpr ⟨mt1 (i := 115) (by decide +kernel) rfl, List.forall_mem_cons.mpr ⟨mt1 (i := 118) (by decide +kernel) rfl, List.forall_mem_cons.mpr ⟨mt1 (i := 178) (by decide +kernel) rfl, List.forall_mem_cons.mpr ⟨mt1 (i := 179) (by decide +kernel) rfl, List.forall_mem_cons.mpr ⟨mt1 (i := 180) (by decide +kernel) rfl, List.forall_mem_cons.mpr ⟨mt1 (i := 181) (by decide +kernel) rfl, List.forall_mem_cons.mpr ⟨mt1 (i := 45) (by decide +kernel) rfl, List.forall_mem_cons.mpr ⟨mt1 (i := 56) (by decide +kernel) rfl, List.forall_mem_cons.mpr ⟨mt1 (i := 58) (by decide +kernel) rfl, List.forall_mem_cons.mpr ⟨mt1 (i := 52) (by decide +kernel) rfl, List.forall_mem_cons.mpr ⟨mt1 (i := 54) (by decide +kernel) rfl, List.forall_mem_cons.mpr ⟨mt1 (i := 152) (by decide +kernel) rfl, fun _ h => absurd h List.not_mem_nil⟩⟩⟩⟩⟩⟩⟩⟩⟩⟩⟩⟩⟩⟩⟩⟩⟩⟩⟩⟩⟩⟩⟩⟩⟩
theorem LF_c2 : ∀ q ∈ ([(4, 15, 4, 1), (4, 19, 4, 2), (4, 22, 4, 3), (5, 10, 5, 0), (5, 16, 5, 1), (5, 19, 5, 2), (5, 23, 5, 3), (5, 30, 5, 4), (5, 37, 5, 5), (5, 44, 5, 6), (5, 70, 2, 3), (5, 84, 2, 4), (5, 88, 2, 5), (5, 91, 2, 9), (5, 95, 2, 6), (5, 107, 2, 8), (5, 121, 2, 0), (5, 124, 2, 1), (5, 127, 2, 2), (5, 130, 2, 10), (5, 133, 0, 0), (5, 136, 4, 0), (5, 183, 0, 4), (5, 189, 0, 1), (5, 190, 0, 2)] : List (Nat × Nat × Nat × Nat)), okF q := List.forall_mem_cons.mpr ⟨mt1 (i := 154) (by decide +kernel) rfl, List.forall_mem_cons.mpr ⟨mt1 (i := 155) (by decide +kernel) rfl, List.forall_mem_cons.mpr ⟨mt1 (i := 156) (by decide +kernel) rfl, List.forall_mem_cons.mpr ⟨mt1 (i := 201) (by decide +kernel) rfl, List.forall_mem_cons.mpr ⟨mt1 (i := 202) (by decide +kernel) rfl, List.forall_mem_cons.mpr ⟨mt1 (i := 203) (by decide +kernel) rfl, List.forall_mem_cons.mpr ⟨mt1 (i := 204) (by decide +kernel) rfl, List.forall_mem_cons.mpr ⟨mt1 (i := 205) (by decide +kernel) rfl, List.forall_mem_cons.mpr ⟨mt1 (i := 206) (by decide +kernel) rfl, List.forall_mem_cons.mpr ⟨mt1 (i := 207) (by decide +kernel) rfl, List.forall_mem_cons.mpr ⟨mt1 (i := 101) (by decide +kernel) rfl, List.forall_mem_cons.mpr ⟨mt1 (i := 104) (by decide +kernel) rfl, List.forall_mem_cons.mpr ⟨mt1 (i := 106) (by decide +kernel) rfl, List.forall_mem_cons.mpr ⟨mt1 (i := 117) (by decide +kernel) rfl, List.forall_mem_cons.mpr ⟨mt1 (i := 110) (by decide +kernel) rfl, List.forall_mem_cons.mpr ⟨mt1 (i := 114) (by decide +kernel) rfl, List.forall_mem_cons.mpr ⟨mt1 (i := 91) (by decide +kernel) rfl, List.forall_mem_cons.mpr ⟨mt1 (i := 95) (by decide +kernel) rfl, List.forall_mem_cons.mpr ⟨mt1 (i := 99) (by decide +kernel) rfl, List.forall_mem_cons.mpr ⟨mt1 (i := 121) (by decide +kernel) rfl, List.forall_mem_cons.mpr ⟨mt1 (i := 37) (by decide +kernel) rfl, List.forall_mem_cons.mpr ⟨mt1 (i := 153) (by decide +kernel) rfl, List.forall_mem_cons.mpr ⟨mt1 (i := 47) (by decide +kernel) rfl, List.forall_mem_cons.mpr ⟨mt1 (i := 39) (by decide +kernel) rfl, List.forall_mem_cons.mpr ⟨mt1 (i := 41) (by decide +kernel) rfl, fun _ h => absurd h List.not_mem_nil⟩⟩⟩⟩⟩⟩⟩⟩⟩⟩⟩⟩⟩⟩⟩⟩⟩⟩⟩⟩⟩⟩⟩⟩⟩
theorem LF_c3 : ∀ q ∈ ([(5, 191, 0, 3), (5, 202, 0, 5)] : List (Nat × Nat × Nat × Nat)), okF q := List.forall_mem_cons.mpr ⟨mt1 (i := 43) (by decide +kernel) rfl, List.forall_mem_cons.mpr ⟨mt1 (i := 50) (by decide +kernel) rfl, fun _ h => absurd h List.not_mem_nil⟩⟩
def LF : List (Nat × Nat × Nat × Nat) := [(0, 9, 0, 0), (0, 15, 0, 1), (0, 18, 0, 2), (0, 21, 0, 3), (0, 24, 0, 4), (0, 28, 0, 5), (0, 32, 0, 6), (0, 35, 0, 7), (0, 38, 0, 8), (0, 41, 0, 9), (0, 44, 0, 10), (0, 47, 0, 11), (0, 66, 2, 10), (0, 72, 2, 0), (0, 73, 2, 1), (0, 74, 2, 2), (1, 12, 1, 0), (1, 18, 1, 1), (1, 28, 2, 1), (1, 34, 2, 2), (1, 49, 2, 10), (1, 64, 0, 5), (1, 78, 2, 3), (1, 81, 2, 8), (1, 91, 2, 9)] ++ ([(1, 97, 0, 4), (1, 100, 2, 6), (1, 115, 2, 0), (1, 118, 2, 5), (2, 9, 2, 0), (2, 15, 2, 1), (2, 18, 2, 2), (2, 21, 2, 3), (2, 24, 2, 4), (2, 28, 2, 5), (2, 31, 2, 6), (2, 34, 2, 7), (2, 37, 2, 8), (2, 41, 2, 9), (2, 47, 2, 10), (3, 9, 3, 0), (3, 15, 3, 1), (3, 18, 3, 2), (3, 22, 3, 3), (3, 36, 0, 4), (3, 42, 0, 8), (3, 45, 0, 9), (3, 72, 0, 6), (3, 75, 0, 7), (4, 9, 4, 0)] ++ ([(4, 15, 4, 1), (4, 19, 4, 2), (4, 22, 4, 3), (5, 10, 5, 0), (5, 16, 5, 1), (5, 19, 5, 2), (5, 23, 5, 3), (5, 30, 5, 4), (5, 37, 5, 5), (5, 44, 5, 6), (5, 70, 2, 3), (5, 84, 2, 4), (5, 88, 2, 5), (5, 91, 2, 9), (5, 95, 2, 6), (5, 107, 2, 8), (5, 121, 2, 0), (5, 124, 2, 1), (5, 127, 2, 2), (5, 130, 2, 10), (5, 133, 0, 0), (5, 136, 4, 0), (5, 183, 0, 4), (5, 189, 0, 1), (5, 190, 0, 2)] ++ ([(5, 191, 0, 3), (5, 202, 0, 5)])))
theorem LF_ok : ∀ q ∈ LF, okF q := by
  intro q h
  unfold LF at h
  rcases List.mem_append.mp h with h | h
  · exact LF_c0 q h
  rcases List.mem_append.mp h with h | h
  · exact LF_c1 q h
  rcases List.mem_append.mp h with h | h
  · exact LF_c2 q h
  exact LF_c3 q h
def okM (q : Nat × Nat × Nat) : Prop := Cond.methodLink (oN q.1) q.2.1 (yN q.2.2) ∈ WS
theorem LM_c0 : ∀ q ∈ ([(7, 12, 54), (7, 20, 52), (7, 26, 53), (7, 31, 57), (7, 36, 60), (7, 41, 58), (7, 47, 56), (7, 50, 61), (7, 62, 44), (7, 65, 55), (7, 69, 45), (7, 72, 46), (7, 75, 47), (7, 78, 48), (7, 81, 49), (7, 84, 50), (7, 87, 51), (7, 103, 62), (7, 106, 59), (0, 62, 2), (0, 75, 6), (0, 85, 12), (0, 89, 9), (1, 22, 3), (1, 37, 37)] : List (Nat × Nat × Nat)), okM q := List.forall_mem_cons.mpr ⟨mt1 (i := 223) (by decide +kernel) rfl, List.forall_mem_cons.mpr ⟨mt2 (i := 208) (by decide +kernel) rfl, List.forall_mem_cons.mpr ⟨mt2 (i := 215) (by decide +kernel) rfl, List.forall_mem_cons.mpr ⟨mt2 (i := 167) (by decide +kernel) rfl, List.forall_mem_cons.mpr ⟨mt2 (i := 225) (by decide +kernel) rfl, List.forall_mem_cons.mpr ⟨mt2 (i := 175) (by decide +kernel) rfl, List.forall_mem_cons.mpr ⟨mt2 (i := 133) (by decide +kernel) rfl, List.forall_mem_cons.mpr ⟨mt2 (i := 191) (by decide +kernel) rfl, List.forall_mem_cons.mpr ⟨mt3 (i := 1) (by decide +kernel) rfl, List.forall_mem_cons.mpr ⟨mt1 (i := 231) (by decide +kernel) rfl, List.forall_mem_cons.mpr ⟨mt3 (i := 14) (by decide +kernel) rfl, List.forall_mem_cons.mpr ⟨mt3 (i := 37) (by decide +kernel) rfl, List.forall_mem_cons.mpr ⟨mt3 (i := 41) (by decide +kernel) rfl, List.forall_mem_cons.mpr ⟨mt3 (i := 45) (by decide +kernel) rfl, List.forall_mem_cons.mpr ⟨mt3 (i := 49) (by decide +kernel) rfl, List.forall_mem_cons.mpr ⟨mt3 (i := 58) (by decide +kernel) rfl, List.forall_mem_cons.mpr ⟨mt3 (i := 62) (by decide +kernel) rfl, List.forall_mem_cons.mpr ⟨mt2 (i := 195) (by decide +kernel) rfl, List.forall_mem_cons.mpr ⟨mt2 (i := 183) (by decide +kernel) rfl, List.forall_mem_cons.mpr ⟨mt2 (i := 15) (by decide +kernel) rfl, List.forall_mem_cons.mpr ⟨mt2 (i := 123) (by decide +kernel) rfl, List.forall_mem_cons.mpr ⟨mt2 (i := 161) (by decide +kernel) rfl, List.forall_mem_cons.mpr ⟨mt2 (i := 162) (by decide +kernel) rfl, List.forall_mem_cons.mpr ⟨mt2 (i := 23) (by decide +kernel) rfl, List.forall_mem_cons.mpr ⟨mt2 (i := 27) (by decide +kernel) rfl, fun _ h => absurd h List.not_mem_nil⟩⟩⟩⟩⟩⟩⟩⟩⟩⟩⟩⟩⟩⟩⟩⟩⟩⟩⟩⟩⟩⟩⟩⟩⟩
theorem LM_c1 : ∀ q ∈ ([(1, 41, 18), (1, 45, 19), (1, 53, 4), (1, 57, 20), (1, 61, 39), (1, 68, 8), (1, 84, 35), (1, 87, 6), (1, 94, 38), (1, 103, 21), (1, 107, 22), (1, 111, 33), (1, 121, 7), (1, 125, 40), (1, 129, 5), (2, 57, 1), (2, 67, 28), (2, 71, 32), (2, 75, 36), (3, 56, 41), (5, 52, 25), (5, 56, 63), (5, 59, 24), (5, 67, 66), (5, 73, 26)] : List (Nat × Nat × Nat)), okM q := List.forall_mem_cons.mpr ⟨mt2 (i := 37) (by decide +kernel) rfl, List.forall_mem_cons.mpr ⟨mt2 (i := 49) (by decide +kernel) rfl, List.forall_mem_cons.mpr ⟨mt2 (i := 64) (by decide +kernel) rfl, List.forall_mem_cons.mpr ⟨mt2 (i := 68) (by decide +kernel) rfl, List.forall_mem_cons.mpr ⟨mt2 (i := 115) (by decide +kernel) rfl, List.forall_mem_cons.mpr ⟨mt2 (i := 119) (by decide +kernel) rfl, List.forall_mem_cons.mpr ⟨mt2 (i := 41) (by decide +kernel) rfl, List.forall_mem_cons.mpr ⟨mt2 (i := 53) (by decide +kernel) rfl, List.forall_mem_cons.mpr ⟨mt2 (i := 57) (by decide +kernel) rfl, List.forall_mem_cons.mpr ⟨mt2 (i := 72) (by decide +kernel) rfl, List.forall_mem_cons.mpr ⟨mt2 (i := 76) (by decide +kernel) rfl, List.forall_mem_cons.mpr ⟨mt2 (i := 80) (by decide +kernel) rfl, List.forall_mem_cons.mpr ⟨mt2 (i := 88) (by decide +kernel) rfl, List.forall_mem_cons.mpr ⟨mt2 (i := 92) (by decide +kernel) rfl, List.forall_mem_cons.mpr ⟨mt2 (i := 111) (by decide +kernel) rfl, List.forall_mem_cons.mpr ⟨mt2 (i := 10) (by decide +kernel) rfl, List.forall_mem_cons.mpr ⟨mt3 (i := 33) (by decide +kernel) rfl, List.forall_mem_cons.mpr ⟨mt2 (i := 84) (by decide +kernel) rfl, List.forall_mem_cons.mpr ⟨mt2 (i := 45) (by decide +kernel) rfl, List.forall_mem_cons.mpr ⟨mt2 (i := 99) (by decide +kernel) rfl, List.forall_mem_cons.mpr ⟨mt3 (i := 5) (by decide +kernel) rfl, List.forall_mem_cons.mpr ⟨mt1 (i := 235) (by decide +kernel) rfl, List.forall_mem_cons.mpr ⟨mt3 (i := 10) (by decide +kernel) rfl, List.forall_mem_cons.mpr ⟨mt3 (i := 21) (by decide +kernel) rfl, List.forall_mem_cons.mpr ⟨mt3 (i := 25) (by decide +kernel) rfl, fun _ h => absurd h List.not_mem_nil⟩⟩⟩⟩⟩⟩⟩⟩⟩⟩⟩⟩⟩⟩⟩⟩⟩⟩⟩⟩⟩⟩⟩⟩⟩
theorem LM_c2 : ∀ q ∈ ([(5, 77, 27), (5, 81, 65), (5, 98, 31), (5, 101, 29), (5, 104, 28), (5, 110, 34), (5, 113, 32), (5, 117, 35), (5, 143, 23), (5, 151, 17), (5, 155, 1), (5, 158, 30), (5, 161, 10), (5, 164, 67), (5, 168, 9), (5, 171, 11), (5, 174, 12), (5, 177, 13), (5, 180, 14), (5, 186, 15), (5, 192, 16), (5, 199, 6), (5, 205, 64), (9, 311, 70), (7, 57, 75)] : List (Nat × Nat × Nat)), okM q := List.forall_mem_cons.mpr ⟨mt3 (i := 29) (by decide +kernel) rfl, List.forall_mem_cons.mpr ⟨mt2 (i := 171) (by decide +kernel) rfl, List.forall_mem_cons.mpr ⟨mt2 (i := 219) (by decide +kernel) rfl, List.forall_mem_cons.mpr ⟨mt3 (i := 53) (by decide +kernel) rfl, List.forall_mem_cons.mpr ⟨mt3 (i := 57) (by decide +kernel) rfl, List.forall_mem_cons.mpr ⟨mt1 (i := 227) (by decide +kernel) rfl, List.forall_mem_cons.mpr ⟨mt2 (i := 212) (by decide +kernel) rfl, List.forall_mem_cons.mpr ⟨mt2 (i := 213) (by decide +kernel) rfl, List.forall_mem_cons.mpr ⟨mt2 (i := 3) (by decide +kernel) rfl, List.forall_mem_cons.mpr ⟨mt2 (i := 19) (by decide +kernel) rfl, List.forall_mem_cons.mpr ⟨mt2 (i := 124) (by decide +kernel) rfl, List.forall_mem_cons.mpr ⟨mt2 (i := 125) (by decide +kernel) rfl, List.forall_mem_cons.mpr ⟨mt2 (i := 129) (by decide +kernel) rfl, List.forall_mem_cons.mpr ⟨mt2 (i := 138) (by decide +kernel) rfl, List.forall_mem_cons.mpr ⟨mt2 (i := 142) (by decide +kernel) rfl, List.forall_mem_cons.mpr ⟨mt2 (i := 146) (by decide +kernel) rfl, List.forall_mem_cons.mpr ⟨mt2 (i := 150) (by decide +kernel) rfl, List.forall_mem_cons.mpr ⟨mt2 (i := 157) (by decide +kernel) rfl, List.forall_mem_cons.mpr ⟨mt2 (i := 163) (by decide +kernel) rfl, List.forall_mem_cons.mpr ⟨mt2 (i := 179) (by decide +kernel) rfl, List.forall_mem_cons.mpr ⟨mt2 (i := 187) (by decide +kernel) rfl, List.forall_mem_cons.mpr ⟨mt2 (i := 229) (by decide +kernel) rfl, List.forall_mem_cons.mpr ⟨mt1 (i := 239) (by decide +kernel) rfl, List.forall_mem_cons.mpr ⟨mt2 (i := 107) (by decide +kernel) rfl, List.forall_mem_cons.mpr ⟨mt2 (i := 237) (by decide +kernel) rfl, fun _ h => absurd h List.not_mem_nil⟩⟩⟩⟩⟩⟩⟩⟩⟩⟩⟩⟩⟩⟩⟩⟩⟩⟩⟩⟩⟩⟩⟩⟩⟩
theorem LM_c3 : ∀ q ∈ ([(7, 91, 78), (7, 95, 76), (7, 99, 77), (0, 50, 74), (0, 79, 72), (2, 61, 72), (3, 26, 43), (3, 30, 73), (3, 48, 42), (3, 60, 71), (5, 48, 69), (5, 63, 68)] : List (Nat × Nat × Nat)), okM q := List.forall_mem_cons.mpr ⟨mt2 (i := 199) (by decide +kernel) rfl, List.forall_mem_cons.mpr ⟨mt2 (i := 202) (by decide +kernel) rfl, List.forall_mem_cons.mpr ⟨mt2 (i := 234) (by decide +kernel) rfl, List.forall_mem_cons.mpr ⟨mt1 (i := 33) (by decide +kernel) rfl, List.forall_mem_cons.mpr ⟨mt2 (i := 154) (by decide +kernel) rfl, List.forall_mem_cons.mpr ⟨mt3 (i := 9) (by decide +kernel) rfl, List.forall_mem_cons.mpr ⟨mt2 (i := 31) (by decide +kernel) rfl, List.forall_mem_cons.mpr ⟨mt2 (i := 34) (by decide +kernel) rfl, List.forall_mem_cons.mpr ⟨mt2 (i := 61) (by decide +kernel) rfl, List.forall_mem_cons.mpr ⟨mt2 (i := 104) (by decide +kernel) rfl, List.forall_mem_cons.mpr ⟨mt2 (i := 137) (by decide +kernel) rfl, List.forall_mem_cons.mpr ⟨mt3 (i := 18) (by decide +kernel) rfl, fun _ h => absurd h List.not_mem_nil⟩⟩⟩⟩⟩⟩⟩⟩⟩⟩⟩⟩
def LM : List (Nat × Nat × Nat) := [(7, 12, 54), (7, 20, 52), (7, 26, 53), (7, 31, 57), (7, 36, 60), (7, 41, 58), (7, 47, 56), (7, 50, 61), (7, 62, 44), (7, 65, 55), (7, 69, 45), (7, 72, 46), (7, 75, 47), (7, 78, 48), (7, 81, 49), (7, 84, 50), (7, 87, 51), (7, 103, 62), (7, 106, 59), (0, 62, 2), (0, 75, 6), (0, 85, 12), (0, 89, 9), (1, 22, 3), (1, 37, 37)] ++ ([(1, 41, 18), (1, 45, 19), (1, 53, 4), (1, 57, 20), (1, 61, 39), (1, 68, 8), (1, 84, 35), (1, 87, 6), (1, 94, 38), (1, 103, 21), (1, 107, 22), (1, 111, 33), (1, 121, 7), (1, 125, 40), (1, 129, 5), (2, 57, 1), (2, 67, 28), (2, 71, 32), (2, 75, 36), (3, 56, 41), (5, 52, 25), (5, 56, 63), (5, 59, 24), (5, 67, 66), (5, 73, 26)] ++ ([(5, 77, 27), (5, 81, 65), (5, 98, 31), (5, 101, 29), (5, 104, 28), (5, 110, 34), (5, 113, 32), (5, 117, 35), (5, 143, 23), (5, 151, 17), (5, 155, 1), (5, 158, 30), (5, 161, 10), (5, 164, 67), (5, 168, 9), (5, 171, 11), (5, 174, 12), (5, 177, 13), (5, 180, 14), (5, 186, 15), (5, 192, 16), (5, 199, 6), (5, 205, 64), (9, 311, 70), (7, 57, 75)] ++ ([(7, 91, 78), (7, 95, 76), (7, 99, 77), (0, 50, 74), (0, 79, 72), (2, 61, 72), (3, 26, 43), (3, 30, 73), (3, 48, 42), (3, 60, 71), (5, 48, 69), (5, 63, 68)])))
theorem LM_ok : ∀ q ∈ LM, okM q := by
  intro q h
  unfold LM at h
  rcases List.mem_append.mp h with h | h
  · exact LM_c0 q h
  rcases List.mem_append.mp h with h | h
  · exact LM_c1 q h
  rcases List.mem_append.mp h with h | h
  · exact LM_c2 q h
  exact LM_c3 q h
def okA (q : Nat × Nat) : Prop := Cond.methodLink (oN q.1) q.2 arraycopyName ∈ WS
theorem LA_c0 : ∀ q ∈ ([(0, 56), (2, 51)] : List (Nat × Nat)), okA q := List.forall_mem_cons.mpr ⟨mt2 (i := 14) (by decide +kernel) rfl, List.forall_mem_cons.mpr ⟨mt2 (i := 7) (by decide +kernel) rfl, fun _ h => absurd h List.not_mem_nil⟩⟩
def LA : List (Nat × Nat) := [(0, 56), (2, 51)]
theorem LA_ok : ∀ q ∈ LA, okA q := by
  intro q h
  unfold LA at h
  exact LA_c0 q h
theorem wa_nat : Cond.native arraycopyName ∈ WS := mt2 (i := 9) (by decide +kernel) rfl
theorem wa_sta : Cond.static arraycopyName ∈ WS := mt2 (i := 8) (by decide +kernel) rfl
theorem wa_ini : Cond.initialized "java/lang/System" ∈ WS := mt1 (i := 9) (by decide +kernel) rfl
def LCL : List (Nat × Nat × Int64) := [(3, 70, (-1)), (7, 8, 3), (7, 10, 31), (7, 18, 37), (7, 24, 41), (7, 29, 43), (7, 34, 5), (7, 39, 47), (7, 45, 53), (7, 53, 7), (7, 55, 11)]
theorem LCL_ok : ∀ q ∈ LCL, Cond.constantLong (oN q.1) q.2.1 (q.2.2) ∈ WS := by
  intro q h
  simp only [LCL, List.mem_cons, List.not_mem_nil, or_false] at h
  rcases h with rfl | rfl | rfl | rfl | rfl | rfl | rfl | rfl | rfl | rfl | rfl
  · exact mt2 (i := 103) (by decide +kernel) rfl
  · exact mt2 (i := 205) (by decide +kernel) rfl
  · exact mt2 (i := 206) (by decide +kernel) rfl
  · exact mt2 (i := 207) (by decide +kernel) rfl
  · exact mt2 (i := 214) (by decide +kernel) rfl
  · exact mt2 (i := 223) (by decide +kernel) rfl
  · exact mt2 (i := 224) (by decide +kernel) rfl
  · exact mt2 (i := 230) (by decide +kernel) rfl
  · exact mt2 (i := 231) (by decide +kernel) rfl
  · exact mt2 (i := 232) (by decide +kernel) rfl
  · exact mt2 (i := 233) (by decide +kernel) rfl
def LCI : List (Nat × Nat × Int) := [(7, 7, 2147483647), (8, 264, 65536)]
theorem LCI_ok : ∀ q ∈ LCI, Cond.constant (oN q.1) q.2.1 (Int32.ofInt q.2.2) ∈ WS := by
  intro q h
  simp only [LCI, List.mem_cons, List.not_mem_nil, or_false] at h
  rcases h with rfl | rfl
  · exact mt3 (i := 0) (by decide +kernel) rfl
  · exact mt2 (i := 110) (by decide +kernel) rfl
theorem wn_0 : Cond.methodLinkNest "NewspaperMakeup$Sheet" 52 ⟨"NewspaperMakeup", "isWithin", "(III)Z"⟩ "NewspaperMakeup" ∈ lw_tbl := mn2 (i := 96) (by decide +kernel)
theorem wl_X0 : ∀ w ∈ wsX00, w ∈ WS := by
  intro w hw
  obtain ⟨k, hk, rfl⟩ := List.mem_map.mp hw
  have hk := List.mem_range.mp hk
  match k, hk with
  | 0, _ => exact mt1 (i := 61) (by decide +kernel) rfl
  | 1, _ => exact mt1 (i := 63) (by decide +kernel) rfl
  | 2, _ => exact mt1 (i := 65) (by decide +kernel) rfl
  | 3, _ => exact mt1 (i := 67) (by decide +kernel) rfl
  | 4, _ => exact mt1 (i := 69) (by decide +kernel) rfl
  | 5, _ => exact mt1 (i := 71) (by decide +kernel) rfl
  | 6, _ => exact mt1 (i := 73) (by decide +kernel) rfl
  | 7, _ => exact mt1 (i := 75) (by decide +kernel) rfl
  | 8, _ => exact mt1 (i := 77) (by decide +kernel) rfl
  | 9, _ => exact mt1 (i := 79) (by decide +kernel) rfl
  | 10, _ => exact mt1 (i := 81) (by decide +kernel) rfl
  | 11, _ => exact mt1 (i := 83) (by decide +kernel) rfl
  | k + 12, hk => exact absurd hk (by omega)
theorem wl_X1 : ∀ w ∈ wsX10, w ∈ WS := by
  intro w hw
  obtain ⟨k, hk, rfl⟩ := List.mem_map.mp hw
  have hk := List.mem_range.mp hk
  match k, hk with
  | 0, _ => exact mt1 (i := 194) (by decide +kernel) rfl
  | 1, _ => exact mt1 (i := 196) (by decide +kernel) rfl
  | k + 2, hk => exact absurd hk (by omega)
theorem wl_X2 : ∀ w ∈ wsX20, w ∈ WS := by
  intro w hw
  obtain ⟨k, hk, rfl⟩ := List.mem_map.mp hw
  have hk := List.mem_range.mp hk
  match k, hk with
  | 0, _ => exact mt1 (i := 122) (by decide +kernel) rfl
  | 1, _ => exact mt1 (i := 124) (by decide +kernel) rfl
  | 2, _ => exact mt1 (i := 126) (by decide +kernel) rfl
  | 3, _ => exact mt1 (i := 128) (by decide +kernel) rfl
  | 4, _ => exact mt1 (i := 130) (by decide +kernel) rfl
  | 5, _ => exact mt1 (i := 132) (by decide +kernel) rfl
  | 6, _ => exact mt1 (i := 134) (by decide +kernel) rfl
  | 7, _ => exact mt1 (i := 136) (by decide +kernel) rfl
  | 8, _ => exact mt1 (i := 138) (by decide +kernel) rfl
  | 9, _ => exact mt1 (i := 140) (by decide +kernel) rfl
  | 10, _ => exact mt1 (i := 142) (by decide +kernel) rfl
  | k + 11, hk => exact absurd hk (by omega)
theorem wl_X3 : ∀ w ∈ wsX30, w ∈ WS := by
  intro w hw
  obtain ⟨k, hk, rfl⟩ := List.mem_map.mp hw
  have hk := List.mem_range.mp hk
  match k, hk with
  | 0, _ => exact mt1 (i := 182) (by decide +kernel) rfl
  | 1, _ => exact mt1 (i := 184) (by decide +kernel) rfl
  | 2, _ => exact mt1 (i := 186) (by decide +kernel) rfl
  | 3, _ => exact mt1 (i := 188) (by decide +kernel) rfl
  | k + 4, hk => exact absurd hk (by omega)
theorem wl_X4 : ∀ w ∈ wsX40, w ∈ WS := by
  intro w hw
  obtain ⟨k, hk, rfl⟩ := List.mem_map.mp hw
  have hk := List.mem_range.mp hk
  match k, hk with
  | 0, _ => exact mt1 (i := 157) (by decide +kernel) rfl
  | 1, _ => exact mt1 (i := 159) (by decide +kernel) rfl
  | 2, _ => exact mt1 (i := 161) (by decide +kernel) rfl
  | 3, _ => exact mt1 (i := 163) (by decide +kernel) rfl
  | k + 4, hk => exact absurd hk (by omega)
theorem wl_X5 : ∀ w ∈ wsX50, w ∈ WS := by
  intro w hw
  obtain ⟨k, hk, rfl⟩ := List.mem_map.mp hw
  have hk := List.mem_range.mp hk
  match k, hk with
  | 0, _ => exact mt1 (i := 208) (by decide +kernel) rfl
  | 1, _ => exact mt1 (i := 210) (by decide +kernel) rfl
  | 2, _ => exact mt1 (i := 212) (by decide +kernel) rfl
  | 3, _ => exact mt1 (i := 214) (by decide +kernel) rfl
  | 4, _ => exact mt1 (i := 216) (by decide +kernel) rfl
  | 5, _ => exact mt1 (i := 218) (by decide +kernel) rfl
  | 6, _ => exact mt1 (i := 220) (by decide +kernel) rfl
  | k + 7, hk => exact absurd hk (by omega)
