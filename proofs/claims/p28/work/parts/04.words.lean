/-! words: what the tables say of the members that the small machine uses -/
def RC (c : Nat) : String := cond (Nat.blt c 6) (cond (Nat.blt c 3) (cond (Nat.blt c 1) (cond (Nat.beq c 0) (RX0) ("")) (cond (Nat.blt c 2) (cond (Nat.beq c 1) (RX1) ("")) (cond (Nat.beq c 2) (RX2) ("")))) (cond (Nat.blt c 4) (cond (Nat.beq c 3) (RX3) ("")) (cond (Nat.blt c 5) (cond (Nat.beq c 4) (RX4) ("")) (cond (Nat.beq c 5) (RX5) (""))))) (cond (Nat.blt c 9) (cond (Nat.blt c 7) (cond (Nat.beq c 6) (RX6) ("")) (cond (Nat.blt c 8) (cond (Nat.beq c 7) (RX7) ("")) (cond (Nat.beq c 8) (RX8) ("")))) (cond (Nat.blt c 11) (cond (Nat.blt c 10) (cond (Nat.beq c 9) (RX9) ("")) (cond (Nat.beq c 10) (RL) (""))) (cond (Nat.blt c 12) (cond (Nat.beq c 11) (RJ7) ("")) (cond (Nat.beq c 12) (RJ6) ("")))))
def TC (c : Nat) : u_T := match c with
  | 0 => TX0
  | 1 => TX1
  | 2 => TX2
  | 3 => TX3
  | 4 => TX4
  | 5 => TX5
  | 6 => TX6
  | 7 => TX7
  | 8 => TX8
  | _ => TX9
def yC (c : Nat) : Nat → FieldType := match c with
  | 0 => tyX0
  | 1 => tyX1
  | 2 => tyX2
  | 3 => tyX3
  | 4 => tyX4
  | 5 => tyX5
  | 6 => tyX6
  | 7 => tyX7
  | 8 => tyX8
  | _ => tyX9
def mnl : List MethodName := [yX0_init, yX0_search, yX0_pressesWith, yX0_allPresses, yX0_keepIfBetter, yX1_init, yX1_cellOf, yX1_at, yX1_rebuild, yX1_add, yX1_fitting, yX1_erase, yX2_init, yX2_push, yX2_forgetOldest, yX2_pop, yX3_init, yX3_isNumber, yX3_inkOf, yX3_amountOf, yX3_wearOf, yX3_renew, yX3_takeOut, yX3_wash, yX3_pressOnce, yX3_copyFrom, yX4_init, yX4_search, yX4_wordAt, yX4_tryFrom, yX4_advance, yX4_keep, yX5_init, yX5_measure, yX5_find, yX5_shortestPresses, yX5_lowestOf, yX5_codeAt, yX5_isPossible, yX5_carryOut, yX6_init, yX6_has, yX6_hasLetter, yX6_hasPart, yX6_isFull, yX6_lengthOf, yX6_letterAt, yX6_open, yX6_addLetter, yX6_takeOut, yX6_copyFrom, yX7_init, yX7_empty, yX7_colorOf, yX7_paint, yX7_addPart, yX7_takeOutStamp, yX7_takeOutWord, yX7_isWornOut, yX7_pressesLeft, yX7_takeItems, yX7_copyFrom, yX8_init, yX8_append, yX8_clearText, yX8_parse, yX8_cut, yX8_remove, yX8_drop, yX8_setColor, yX8_setLimits, yX8_clean, yX8_value, yX8_stamp, yX8_print, yX8_word, yX8_letter, yX8_press, yX8_write, yX8_writeAll, yX8_fewest, yX8_needed, yX8_order, yX8_leastCleanings, yX8_bestCut, yX8_lettersPerPress, yX8_undo, yX8_readText, yX8_nextStage, yX8_openItem, yX8_numberOf, yX8_wornOutStamps, yX8_wordsWithPlan, yX8_stampFact, yX8_wordFact, yX8_writingCost, yX8_bestPlan, yX8_hasPlan, yX8_fewestStamps, yX8_allHavePlans, yX8_pressesOfSet, yX8_pressesOf, yX8_canBeTurned, yX8_printedLetter, yX8_turnedLetter, yJ6_bitCount_0f7a4, yJ7_fill_53178, yL_cell, yL_low, yL_stateOf, yL_refused, yL_isTurn, yL_arePrints, yL_arePlans, yL_isWritten, yL_areFewest, yL_isOrder, yL_presses, yL_isBestCut, yL_parses, yL_acts, yL_append, yL_cut, yL_remove, yL_drop, yL_setColor, yL_setLimits, yL_clean, yL_value, yL_stamp, yL_print, yL_word, yL_letter, yL_press, yL_write, yL_needed, yL_order, yL_bestCut, yL_undo, yL_law]
def mbl : List ByteArray := [cX0_init, cX0_search, cX0_pressesWith, cX0_allPresses, cX0_keepIfBetter, cX1_init, cX1_cellOf, cX1_at, cX1_rebuild, cX1_add, cX1_fitting, cX1_erase, cX2_init, cX2_push, cX2_forgetOldest, cX2_pop, cX3_init, cX3_isNumber, cX3_inkOf, cX3_amountOf, cX3_wearOf, cX3_renew, cX3_takeOut, cX3_wash, cX3_pressOnce, cX3_copyFrom, cX4_init, cX4_search, cX4_wordAt, cX4_tryFrom, cX4_advance, cX4_keep, cX5_init, cX5_measure, cX5_find, cX5_shortestPresses, cX5_lowestOf, cX5_codeAt, cX5_isPossible, cX5_carryOut, cX6_init, cX6_has, cX6_hasLetter, cX6_hasPart, cX6_isFull, cX6_lengthOf, cX6_letterAt, cX6_open, cX6_addLetter, cX6_takeOut, cX6_copyFrom, cX7_init, cX7_empty, cX7_colorOf, cX7_paint, cX7_addPart, cX7_takeOutStamp, cX7_takeOutWord, cX7_isWornOut, cX7_pressesLeft, cX7_takeItems, cX7_copyFrom, cX8_init, cX8_append, cX8_clearText, cX8_parse, cX8_cut, cX8_remove, cX8_drop, cX8_setColor, cX8_setLimits, cX8_clean, cX8_value, cX8_stamp, cX8_print, cX8_word, cX8_letter, cX8_press, cX8_write, cX8_writeAll, cX8_fewest, cX8_needed, cX8_order, cX8_leastCleanings, cX8_bestCut, cX8_lettersPerPress, cX8_undo, cX8_readText, cX8_nextStage, cX8_openItem, cX8_numberOf, cX8_wornOutStamps, cX8_wordsWithPlan, cX8_stampFact, cX8_wordFact, cX8_writingCost, cX8_bestPlan, cX8_hasPlan, cX8_fewestStamps, cX8_allHavePlans, cX8_pressesOfSet, cX8_pressesOf, cX8_canBeTurned, cX8_printedLetter, cX8_turnedLetter, cJ6_bitCount_0f7a4, cJ7_fill_53178, cL_cell, cL_low, cL_stateOf, cL_refused, cL_isTurn, cL_arePrints, cL_arePlans, cL_isWritten, cL_areFewest, cL_isOrder, cL_presses, cL_isBestCut, cL_parses, cL_acts, cL_append, cL_cut, cL_remove, cL_drop, cL_setColor, cL_setLimits, cL_clean, cL_value, cL_stamp, cL_print, cL_word, cL_letter, cL_press, cL_write, cL_needed, cL_order, cL_bestCut, cL_undo, cL_law]
def mrl : List (Option FieldType) := [none, none, (some .int), (some .int), none, none, (some .int), (some .int), none, none, (some .int), none, none, none, none, none, none, (some .boolean), (some .int), (some .int), (some .int), none, none, (some .boolean), none, none, none, (some .int), (some .int), none, (some .boolean), none, none, (some .int), none, (some .int), (some .int), (some .int), (some .boolean), none, none, (some .boolean), (some .boolean), (some .boolean), (some .boolean), (some .int), (some .int), (some .boolean), (some .boolean), none, none, none, none, (some .int), none, none, none, none, (some .boolean), (some .int), none, none, none, (some .int), (some .int), (some .int), (some .int), (some .int), (some .int), (some .int), (some .int), (some .int), (some .int), (some .int), (some .int), (some .int), (some .int), (some .int), (some .int), (some .int), (some .int), (some .int), (some .int), (some .int), (some .int), (some .double), (some .int), (some .int), (some .int), (some .int), (some .int), (some .int), (some .int), (some .int), (some .int), (some .int), (some (.object "RubberStamps$Plan")), (some .boolean), (some .int), (some .boolean), (some .int), (some .int), (some .boolean), (some .int), (some .int), (some .int), none, (some .int), (some .int), (some .long), (some .boolean), (some .boolean), (some .boolean), (some .boolean), (some .boolean), (some .boolean), (some .boolean), (some .int), (some .boolean), (some .int), (some .int), (some .int), (some .int), (some .int), (some .int), (some .int), (some .int), (some .int), (some .int), (some .int), (some .int), (some .int), (some .int), (some .int), (some .int), (some .int), (some .int), (some .int), (some .int), ret]
def MN (y : Nat) : MethodName := mnl.getD y yL_law
def MB (y : Nat) : ByteArray := mbl.getD y cL_law
def MR (y : Nat) : Option FieldType := mrl.getD y none
/-- 0 an object's method, 1 a static one, 2 a constructor -/
def mki (y : Nat) : Nat := cond (Nat.blt y 116) (cond (Nat.blt y 104) (cond (Nat.blt y 88) (cond (Nat.blt y 17) (cond (Nat.blt y 10) (cond (Nat.beq y 6) (1) ((cond (List.elem y [0, 5, 12, 16, 26, 32, 40, 51, 62]) 2 0))) (cond (Nat.beq y 10) (1) ((cond (List.elem y [0, 5, 12, 16, 26, 32, 40, 51, 62]) 2 0)))) (cond (Nat.blt y 29) (cond (Nat.beq y 17) (1) ((cond (List.elem y [0, 5, 12, 16, 26, 32, 40, 51, 62]) 2 0))) (cond (Nat.blt y 36) (cond (Nat.beq y 29) (1) ((cond (List.elem y [0, 5, 12, 16, 26, 32, 40, 51, 62]) 2 0))) (cond (Nat.beq y 36) (1) ((cond (List.elem y [0, 5, 12, 16, 26, 32, 40, 51, 62]) 2 0)))))) (cond (Nat.blt y 101) (cond (Nat.blt y 89) (cond (Nat.beq y 88) (1) ((cond (List.elem y [0, 5, 12, 16, 26, 32, 40, 51, 62]) 2 0))) (cond (Nat.blt y 100) (cond (Nat.beq y 89) (1) ((cond (List.elem y [0, 5, 12, 16, 26, 32, 40, 51, 62]) 2 0))) (cond (Nat.beq y 100) (1) ((cond (List.elem y [0, 5, 12, 16, 26, 32, 40, 51, 62]) 2 0))))) (cond (Nat.blt y 102) (cond (Nat.beq y 101) (1) ((cond (List.elem y [0, 5, 12, 16, 26, 32, 40, 51, 62]) 2 0))) (cond (Nat.blt y 103) (cond (Nat.beq y 102) (1) ((cond (List.elem y [0, 5, 12, 16, 26, 32, 40, 51, 62]) 2 0))) (cond (Nat.beq y 103) (1) ((cond (List.elem y [0, 5, 12, 16, 26, 32, 40, 51, 62]) 2 0))))))) (cond (Nat.blt y 110) (cond (Nat.blt y 107) (cond (Nat.blt y 105) (cond (Nat.beq y 104) (1) ((cond (List.elem y [0, 5, 12, 16, 26, 32, 40, 51, 62]) 2 0))) (cond (Nat.blt y 106) (cond (Nat.beq y 105) (1) ((cond (List.elem y [0, 5, 12, 16, 26, 32, 40, 51, 62]) 2 0))) (cond (Nat.beq y 106) (1) ((cond (List.elem y [0, 5, 12, 16, 26, 32, 40, 51, 62]) 2 0))))) (cond (Nat.blt y 108) (cond (Nat.beq y 107) (1) ((cond (List.elem y [0, 5, 12, 16, 26, 32, 40, 51, 62]) 2 0))) (cond (Nat.blt y 109) (cond (Nat.beq y 108) (1) ((cond (List.elem y [0, 5, 12, 16, 26, 32, 40, 51, 62]) 2 0))) (cond (Nat.beq y 109) (1) ((cond (List.elem y [0, 5, 12, 16, 26, 32, 40, 51, 62]) 2 0)))))) (cond (Nat.blt y 113) (cond (Nat.blt y 111) (cond (Nat.beq y 110) (1) ((cond (List.elem y [0, 5, 12, 16, 26, 32, 40, 51, 62]) 2 0))) (cond (Nat.blt y 112) (cond (Nat.beq y 111) (1) ((cond (List.elem y [0, 5, 12, 16, 26, 32, 40, 51, 62]) 2 0))) (cond (Nat.beq y 112) (1) ((cond (List.elem y [0, 5, 12, 16, 26, 32, 40, 51, 62]) 2 0))))) (cond (Nat.blt y 114) (cond (Nat.beq y 113) (1) ((cond (List.elem y [0, 5, 12, 16, 26, 32, 40, 51, 62]) 2 0))) (cond (Nat.blt y 115) (cond (Nat.beq y 114) (1) ((cond (List.elem y [0, 5, 12, 16, 26, 32, 40, 51, 62]) 2 0))) (cond (Nat.beq y 115) (1) ((cond (List.elem y [0, 5, 12, 16, 26, 32, 40, 51, 62]) 2 0)))))))) (cond (Nat.blt y 127) (cond (Nat.blt y 121) (cond (Nat.blt y 118) (cond (Nat.blt y 117) (cond (Nat.beq y 116) (1) ((cond (List.elem y [0, 5, 12, 16, 26, 32, 40, 51, 62]) 2 0))) (cond (Nat.beq y 117) (1) ((cond (List.elem y [0, 5, 12, 16, 26, 32, 40, 51, 62]) 2 0)))) (cond (Nat.blt y 119) (cond (Nat.beq y 118) (1) ((cond (List.elem y [0, 5, 12, 16, 26, 32, 40, 51, 62]) 2 0))) (cond (Nat.blt y 120) (cond (Nat.beq y 119) (1) ((cond (List.elem y [0, 5, 12, 16, 26, 32, 40, 51, 62]) 2 0))) (cond (Nat.beq y 120) (1) ((cond (List.elem y [0, 5, 12, 16, 26, 32, 40, 51, 62]) 2 0)))))) (cond (Nat.blt y 124) (cond (Nat.blt y 122) (cond (Nat.beq y 121) (1) ((cond (List.elem y [0, 5, 12, 16, 26, 32, 40, 51, 62]) 2 0))) (cond (Nat.blt y 123) (cond (Nat.beq y 122) (1) ((cond (List.elem y [0, 5, 12, 16, 26, 32, 40, 51, 62]) 2 0))) (cond (Nat.beq y 123) (1) ((cond (List.elem y [0, 5, 12, 16, 26, 32, 40, 51, 62]) 2 0))))) (cond (Nat.blt y 125) (cond (Nat.beq y 124) (1) ((cond (List.elem y [0, 5, 12, 16, 26, 32, 40, 51, 62]) 2 0))) (cond (Nat.blt y 126) (cond (Nat.beq y 125) (1) ((cond (List.elem y [0, 5, 12, 16, 26, 32, 40, 51, 62]) 2 0))) (cond (Nat.beq y 126) (1) ((cond (List.elem y [0, 5, 12, 16, 26, 32, 40, 51, 62]) 2 0))))))) (cond (Nat.blt y 133) (cond (Nat.blt y 130) (cond (Nat.blt y 128) (cond (Nat.beq y 127) (1) ((cond (List.elem y [0, 5, 12, 16, 26, 32, 40, 51, 62]) 2 0))) (cond (Nat.blt y 129) (cond (Nat.beq y 128) (1) ((cond (List.elem y [0, 5, 12, 16, 26, 32, 40, 51, 62]) 2 0))) (cond (Nat.beq y 129) (1) ((cond (List.elem y [0, 5, 12, 16, 26, 32, 40, 51, 62]) 2 0))))) (cond (Nat.blt y 131) (cond (Nat.beq y 130) (1) ((cond (List.elem y [0, 5, 12, 16, 26, 32, 40, 51, 62]) 2 0))) (cond (Nat.blt y 132) (cond (Nat.beq y 131) (1) ((cond (List.elem y [0, 5, 12, 16, 26, 32, 40, 51, 62]) 2 0))) (cond (Nat.beq y 132) (1) ((cond (List.elem y [0, 5, 12, 16, 26, 32, 40, 51, 62]) 2 0)))))) (cond (Nat.blt y 136) (cond (Nat.blt y 134) (cond (Nat.beq y 133) (1) ((cond (List.elem y [0, 5, 12, 16, 26, 32, 40, 51, 62]) 2 0))) (cond (Nat.blt y 135) (cond (Nat.beq y 134) (1) ((cond (List.elem y [0, 5, 12, 16, 26, 32, 40, 51, 62]) 2 0))) (cond (Nat.beq y 135) (1) ((cond (List.elem y [0, 5, 12, 16, 26, 32, 40, 51, 62]) 2 0))))) (cond (Nat.blt y 137) (cond (Nat.beq y 136) (1) ((cond (List.elem y [0, 5, 12, 16, 26, 32, 40, 51, 62]) 2 0))) (cond (Nat.blt y 138) (cond (Nat.beq y 137) (1) ((cond (List.elem y [0, 5, 12, 16, 26, 32, 40, 51, 62]) 2 0))) (cond (Nat.beq y 138) (1) ((cond (List.elem y [0, 5, 12, 16, 26, 32, 40, 51, 62]) 2 0))))))))
def NW : List Cond := [.fieldLinkNest RX8 104 RX7 "words" "LRubberStamps$Rows;" "RubberStamps", .fieldLinkNest RX8 153 RX7 "limit" "I" "RubberStamps", .fieldLinkNest RX8 156 RX7 "load" "I" "RubberStamps", .fieldLinkNest RX8 159 RX7 "inks" "LRubberStamps$Inks;" "RubberStamps", .fieldLinkNest RX8 202 RX5 "presses" "I" "RubberStamps", .fieldLinkNest RX8 249 RX0 "bestWord" "I" "RubberStamps", .fieldLinkNest RX8 252 RX0 "bestFrom" "I" "RubberStamps", .fieldLinkNest RX8 255 RX0 "bestLength" "I" "RubberStamps", .fieldLinkNest RX8 258 RX0 "bestSaving" "I" "RubberStamps", .fieldLinkNest RX8 268 RX2 "count" "I" "RubberStamps", .fieldLinkNest RX8 306 RX3 "presses" "I" "RubberStamps", .fieldLinkNest RX8 307 RX3 "inkings" "I" "RubberStamps", .fieldLinkNest RX8 310 RX3 "cleanings" "I" "RubberStamps", .fieldLinkNest RX8 95 RX7 "stamps" "LRubberStamps$Rows;" "RubberStamps", .fieldLinkNest RX8 99 RX6 "count" "I" "RubberStamps", .fieldLinkNest RX0 45 RX7 "stamps" "LRubberStamps$Rows;" "RubberStamps", .fieldLinkNest RX0 66 RX7 "words" "LRubberStamps$Rows;" "RubberStamps", .fieldLinkNest RX0 69 RX6 "count" "I" "RubberStamps", .fieldLinkNest RX0 99 RX7 "inks" "LRubberStamps$Inks;" "RubberStamps", .fieldLinkNest RX1 25 RX7 "stamps" "LRubberStamps$Rows;" "RubberStamps", .fieldLinkNest RX1 31 RX6 "count" "I" "RubberStamps", .fieldLinkNest RX1 45 RX7 "words" "LRubberStamps$Rows;" "RubberStamps", .fieldLinkNest RX4 101 RX7 "load" "I" "RubberStamps", .fieldLinkNest RX4 48 RX7 "inks" "LRubberStamps$Inks;" "RubberStamps", .fieldLinkNest RX4 62 RX3 "cleanings" "I" "RubberStamps", .fieldLinkNest RX4 65 RX7 "words" "LRubberStamps$Rows;" "RubberStamps", .fieldLinkNest RX4 69 RX6 "count" "I" "RubberStamps", .fieldLinkNest RX4 90 RX7 "limit" "I" "RubberStamps", .fieldLinkNest RX5 37 RX7 "words" "LRubberStamps$Rows;" "RubberStamps", .fieldLinkNest RX5 71 RX7 "stamps" "LRubberStamps$Rows;" "RubberStamps", .fieldLinkNest RX7 41 RX6 "count" "I" "RubberStamps", .methodLinkNest RX8 107 ⟨RX6, "has", "(I)Z"⟩ "RubberStamps", .methodLinkNest RX8 116 ⟨RX6, "hasPart", "(III)Z"⟩ "RubberStamps", .methodLinkNest RX8 122 ⟨RX6, "isFull", "()Z"⟩ "RubberStamps", .methodLinkNest RX8 128 ⟨RX7, "addPart", "(III)V"⟩ "RubberStamps", .methodLinkNest RX8 134 ⟨RX7, "takeOutStamp", "(I)V"⟩ "RubberStamps", .methodLinkNest RX8 138 ⟨RX7, "takeOutWord", "(I)V"⟩ "RubberStamps", .methodLinkNest RX8 143 ⟨RX7, "colorOf", "(I)I"⟩ "RubberStamps", .methodLinkNest RX8 147 ⟨RX7, "paint", "(II)V"⟩ "RubberStamps", .methodLinkNest RX8 15 ⟨RX7, "<init>", "()V"⟩ "RubberStamps", .methodLinkNest RX8 162 ⟨RX3, "wash", "(I)Z"⟩ "RubberStamps", .methodLinkNest RX8 176 ⟨RX6, "hasLetter", "(II)Z"⟩ "RubberStamps", .methodLinkNest RX8 195 ⟨RX6, "letterAt", "(II)I"⟩ "RubberStamps", .methodLinkNest RX8 207 ⟨RX5, "codeAt", "(I)I"⟩ "RubberStamps", .methodLinkNest RX8 210 ⟨RX5, "isPossible", "(LRubberStamps$Inks;I)Z"⟩ "RubberStamps", .methodLinkNest RX8 216 ⟨RX5, "carryOut", "(LRubberStamps$Inks;II)V"⟩ "RubberStamps", .methodLinkNest RX8 223 ⟨RX7, "pressesLeft", "(LRubberStamps$Inks;)I"⟩ "RubberStamps", .methodLinkNest RX8 235 ⟨RX4, "search", "(LRubberStamps$Sheet;LRubberStamps$Fits;)I"⟩ "RubberStamps", .methodLinkNest RX8 241 ⟨RX4, "wordAt", "(I)I"⟩ "RubberStamps", .methodLinkNest RX8 246 ⟨RX0, "search", "(LRubberStamps$Sheet;I)V"⟩ "RubberStamps", .methodLinkNest RX8 25 ⟨RX2, "<init>", "()V"⟩ "RubberStamps", .methodLinkNest RX8 261 ⟨RX6, "lengthOf", "(I)I"⟩ "RubberStamps", .methodLinkNest RX8 264 ⟨RX5, "measure", "(LRubberStamps$Fits;III)I"⟩ "RubberStamps", .methodLinkNest RX8 271 ⟨RX2, "pop", "(LRubberStamps$Sheet;)V"⟩ "RubberStamps", .methodLinkNest RX8 289 ⟨RX7, "empty", "()V"⟩ "RubberStamps", .methodLinkNest RX8 300 ⟨RX6, "addLetter", "(I)Z"⟩ "RubberStamps", .methodLinkNest RX8 303 ⟨RX6, "open", "()Z"⟩ "RubberStamps", .methodLinkNest RX8 319 ⟨RX7, "isWornOut", "(LRubberStamps$Inks;I)Z"⟩ "RubberStamps", .methodLinkNest RX8 32 ⟨RX1, "<init>", "()V"⟩ "RubberStamps", .methodLinkNest RX8 322 ⟨RX3, "inkOf", "(I)I"⟩ "RubberStamps", .methodLinkNest RX8 325 ⟨RX3, "amountOf", "(I)I"⟩ "RubberStamps", .methodLinkNest RX8 328 ⟨RX3, "wearOf", "(I)I"⟩ "RubberStamps", .methodLinkNest RX8 335 ⟨RX3, "copyFrom", "(LRubberStamps$Inks;)V"⟩ "RubberStamps", .methodLinkNest RX8 339 ⟨RX5, "find", "(LRubberStamps$Sheet;LRubberStamps$Fits;II)V"⟩ "RubberStamps", .methodLinkNest RX8 39 ⟨RX5, "<init>", "()V"⟩ "RubberStamps", .methodLinkNest RX8 46 ⟨RX3, "<init>", "()V"⟩ "RubberStamps", .methodLinkNest RX8 53 ⟨RX4, "<init>", "()V"⟩ "RubberStamps", .methodLinkNest RX8 60 ⟨RX0, "<init>", "()V"⟩ "RubberStamps", .methodLinkNest RX8 85 ⟨RX2, "push", "(LRubberStamps$Sheet;)V"⟩ "RubberStamps", .methodLinkNest RX8 89 ⟨RX7, "takeItems", "(LRubberStamps$Sheet;)V"⟩ "RubberStamps", .methodLinkNest RX8 92 ⟨RX1, "rebuild", "(LRubberStamps$Sheet;)V"⟩ "RubberStamps", .methodLinkNest RX0 103 ⟨RX7, "pressesLeft", "(LRubberStamps$Inks;)I"⟩ "RubberStamps", .methodLinkNest RX0 107 ⟨RX5, "measure", "(LRubberStamps$Fits;III)I"⟩ "RubberStamps", .methodLinkNest RX0 11 ⟨RX7, "<init>", "()V"⟩ "RubberStamps", .methodLinkNest RX0 20 ⟨RX1, "<init>", "()V"⟩ "RubberStamps", .methodLinkNest RX0 27 ⟨RX5, "<init>", "()V"⟩ "RubberStamps", .methodLinkNest RX0 49 ⟨RX6, "isFull", "()Z"⟩ "RubberStamps", .methodLinkNest RX0 55 ⟨RX7, "copyFrom", "(LRubberStamps$Sheet;)V"⟩ "RubberStamps", .methodLinkNest RX0 59 ⟨RX1, "rebuild", "(LRubberStamps$Sheet;)V"⟩ "RubberStamps", .methodLinkNest RX0 72 ⟨RX6, "lengthOf", "(I)I"⟩ "RubberStamps", .methodLinkNest RX0 84 ⟨RX7, "addPart", "(III)V"⟩ "RubberStamps", .methodLinkNest RX0 88 ⟨RX1, "add", "(LRubberStamps$Sheet;I)V"⟩ "RubberStamps", .methodLinkNest RX0 92 ⟨RX7, "takeOutStamp", "(I)V"⟩ "RubberStamps", .methodLinkNest RX0 96 ⟨RX1, "erase", "(I)V"⟩ "RubberStamps", .methodLinkNest RX1 41 ⟨RX6, "lengthOf", "(I)I"⟩ "RubberStamps", .methodLinkNest RX1 52 ⟨RX8, "printedLetter", "(LRubberStamps$Rows;IIZ)I"⟩ "RubberStamps", .methodLinkNest RX1 56 ⟨RX6, "letterAt", "(II)I"⟩ "RubberStamps", .methodLinkNest RX1 60 ⟨RX8, "pressesOf", "(I)I"⟩ "RubberStamps", .methodLinkNest RX2 17 ⟨RX7, "<init>", "()V"⟩ "RubberStamps", .methodLinkNest RX2 25 ⟨RX7, "copyFrom", "(LRubberStamps$Sheet;)V"⟩ "RubberStamps", .methodLinkNest RX4 104 ⟨RX5, "carryOut", "(LRubberStamps$Inks;II)V"⟩ "RubberStamps", .methodLinkNest RX4 33 ⟨RX3, "<init>", "()V"⟩ "RubberStamps", .methodLinkNest RX4 34 ⟨RX5, "<init>", "()V"⟩ "RubberStamps", .methodLinkNest RX4 54 ⟨RX3, "copyFrom", "(LRubberStamps$Inks;)V"⟩ "RubberStamps", .methodLinkNest RX4 82 ⟨RX7, "pressesLeft", "(LRubberStamps$Inks;)I"⟩ "RubberStamps", .methodLinkNest RX4 86 ⟨RX5, "find", "(LRubberStamps$Sheet;LRubberStamps$Fits;II)V"⟩ "RubberStamps", .methodLinkNest RX4 93 ⟨RX5, "isPossible", "(LRubberStamps$Inks;I)Z"⟩ "RubberStamps", .methodLinkNest RX4 97 ⟨RX7, "colorOf", "(I)I"⟩ "RubberStamps", .methodLinkNest RX5 25 ⟨RX1, "at", "(III)I"⟩ "RubberStamps", .methodLinkNest RX5 43 ⟨RX6, "lengthOf", "(I)I"⟩ "RubberStamps", .methodLinkNest RX5 65 ⟨RX3, "isNumber", "(I)Z"⟩ "RubberStamps", .methodLinkNest RX5 74 ⟨RX3, "wearOf", "(I)I"⟩ "RubberStamps", .methodLinkNest RX5 77 ⟨RX3, "pressOnce", "(III)V"⟩ "RubberStamps", .methodLinkNest RX7 11 ⟨RX6, "<init>", "(II)V"⟩ "RubberStamps", .methodLinkNest RX7 29 ⟨RX3, "<init>", "()V"⟩ "RubberStamps", .methodLinkNest RX7 44 ⟨RX6, "open", "()Z"⟩ "RubberStamps", .methodLinkNest RX7 48 ⟨RX6, "letterAt", "(II)I"⟩ "RubberStamps", .methodLinkNest RX7 52 ⟨RX6, "addLetter", "(I)Z"⟩ "RubberStamps", .methodLinkNest RX7 56 ⟨RX3, "renew", "(I)V"⟩ "RubberStamps", .methodLinkNest RX7 60 ⟨RX6, "takeOut", "(I)V"⟩ "RubberStamps", .methodLinkNest RX7 63 ⟨RX3, "takeOut", "(I)V"⟩ "RubberStamps", .methodLinkNest RX7 70 ⟨RX3, "wearOf", "(I)I"⟩ "RubberStamps", .methodLinkNest RX7 78 ⟨RX8, "pressesOf", "(I)I"⟩ "RubberStamps", .methodLinkNest RX7 81 ⟨RX6, "copyFrom", "(LRubberStamps$Rows;)V"⟩ "RubberStamps", .methodLinkNest RX7 85 ⟨RX3, "copyFrom", "(LRubberStamps$Inks;)V"⟩ "RubberStamps", .arrayOver (.object RX7), .arrayOver (.object RX3), .arrayOver (.object RX5)]
set_option maxRecDepth 100000 in
theorem NW_in : ∀ w ∈ NW, w ∈ lw_tbl := by decide +kernel
theorem NW_ok : ∀ w ∈ NW, (w.onTables || (match w with | .arrayOver _ => true | _ => false)) = true := by decide +kernel
def COK (c : Nat) : Prop := vwCl[c]? = some (RC c, TC c, fcn c) ∧ (∀ w ∈ u_ws (RC c) (TC c) (fcn c), w ∈ wsL_law) ∧ (∀ k, k < fcn c → parseFieldDescriptor (TC c k).2.2.1 = some (yC c k)) ∧ (∀ a, a < fcn c → ∀ b, b < fcn c → a ≠ b → (TC c a).2.1 ≠ (TC c b).2.1)
theorem cok_0 : COK 0 := ⟨rfl, inlX0, tyX0_ok, nmX0⟩
theorem cok_1 : COK 1 := ⟨rfl, inlX1, tyX1_ok, nmX1⟩
theorem cok_2 : COK 2 := ⟨rfl, inlX2, tyX2_ok, nmX2⟩
theorem cok_3 : COK 3 := ⟨rfl, inlX3, tyX3_ok, nmX3⟩
theorem cok_4 : COK 4 := ⟨rfl, inlX4, tyX4_ok, nmX4⟩
theorem cok_5 : COK 5 := ⟨rfl, inlX5, tyX5_ok, nmX5⟩
theorem cok_6 : COK 6 := ⟨rfl, inlX6, tyX6_ok, nmX6⟩
theorem cok_7 : COK 7 := ⟨rfl, inlX7, tyX7_ok, nmX7⟩
theorem cok_8 : COK 8 := ⟨rfl, inlX8, tyX8_ok, nmX8⟩
theorem cokC_9 : ∀ a, a < 9 → COK a := lt_s (lt_s (lt_s (lt_s (lt_s (lt_s (lt_s (lt_s (lt_s (lt_0) (cok_0)) (cok_1)) (cok_2)) (cok_3)) (cok_4)) (cok_5)) (cok_6)) (cok_7)) (cok_8)
theorem cok : ∀ a, a < 9 → COK a := cokC_9
def FOK (o cp q : Nat) : Prop := q / 100 < 9 ∧ q % 100 < fcn (q / 100) ∧ (Cond.fieldLink (RC o) cp (TC (q / 100) (q % 100)).1 (TC (q / 100) (q % 100)).2.1 (TC (q / 100) (q % 100)).2.2.1 ∈ wsL_law ∨ Cond.fieldLinkNest (RC o) cp (TC (q / 100) (q % 100)).1 (TC (q / 100) (q % 100)).2.1 (TC (q / 100) (q % 100)).2.2.1 "RubberStamps" ∈ NW)
set_option maxRecDepth 100000 in
theorem fok_0_0 : FOK 0 12 0 := ⟨by decide, by decide, Or.inl (List.mem_of_getElem? (i := 108) rfl)⟩
set_option maxRecDepth 100000 in
theorem fok_0_1 : FOK 0 21 1 := ⟨by decide, by decide, Or.inl (List.mem_of_getElem? (i := 110) rfl)⟩
set_option maxRecDepth 100000 in
theorem fok_0_2 : FOK 0 28 2 := ⟨by decide, by decide, Or.inl (List.mem_of_getElem? (i := 112) rfl)⟩
set_option maxRecDepth 100000 in
theorem fok_0_3 : FOK 0 32 3 := ⟨by decide, by decide, Or.inl (List.mem_of_getElem? (i := 478) rfl)⟩
set_option maxRecDepth 100000 in
theorem fok_0_4 : FOK 0 36 4 := ⟨by decide, by decide, Or.inl (List.mem_of_getElem? (i := 479) rfl)⟩
set_option maxRecDepth 100000 in
theorem fok_0_5 : FOK 0 39 5 := ⟨by decide, by decide, Or.inl (List.mem_of_getElem? (i := 480) rfl)⟩
set_option maxRecDepth 100000 in
theorem fok_0_6 : FOK 0 42 6 := ⟨by decide, by decide, Or.inl (List.mem_of_getElem? (i := 481) rfl)⟩
set_option maxRecDepth 100000 in
theorem fok_0_700 : FOK 0 45 700 := ⟨by decide, by decide, Or.inr (List.mem_of_getElem? (i := 15) rfl)⟩
set_option maxRecDepth 100000 in
theorem fok_0_701 : FOK 0 66 701 := ⟨by decide, by decide, Or.inr (List.mem_of_getElem? (i := 16) rfl)⟩
set_option maxRecDepth 100000 in
theorem fok_0_604 : FOK 0 69 604 := ⟨by decide, by decide, Or.inr (List.mem_of_getElem? (i := 17) rfl)⟩
set_option maxRecDepth 100000 in
theorem fok_0_703 : FOK 0 99 703 := ⟨by decide, by decide, Or.inr (List.mem_of_getElem? (i := 18) rfl)⟩
set_option maxRecDepth 100000 in
theorem fok_1_100 : FOK 1 11 100 := ⟨by decide, by decide, Or.inl (List.mem_of_getElem? (i := 86) rfl)⟩
set_option maxRecDepth 100000 in
theorem fok_1_700 : FOK 1 25 700 := ⟨by decide, by decide, Or.inr (List.mem_of_getElem? (i := 19) rfl)⟩
set_option maxRecDepth 100000 in
theorem fok_1_604 : FOK 1 31 604 := ⟨by decide, by decide, Or.inr (List.mem_of_getElem? (i := 20) rfl)⟩
set_option maxRecDepth 100000 in
theorem fok_1_701 : FOK 1 45 701 := ⟨by decide, by decide, Or.inr (List.mem_of_getElem? (i := 21) rfl)⟩
set_option maxRecDepth 100000 in
theorem fok_2_200 : FOK 2 11 200 := ⟨by decide, by decide, Or.inl (List.mem_of_getElem? (i := 82) rfl)⟩
set_option maxRecDepth 100000 in
theorem fok_2_201 : FOK 2 18 201 := ⟨by decide, by decide, Or.inl (List.mem_of_getElem? (i := 127) rfl)⟩
set_option maxRecDepth 100000 in
theorem fok_3_300 : FOK 3 9 300 := ⟨by decide, by decide, Or.inl (List.mem_of_getElem? (i := 71) rfl)⟩
set_option maxRecDepth 100000 in
theorem fok_3_301 : FOK 3 15 301 := ⟨by decide, by decide, Or.inl (List.mem_of_getElem? (i := 72) rfl)⟩
set_option maxRecDepth 100000 in
theorem fok_3_302 : FOK 3 18 302 := ⟨by decide, by decide, Or.inl (List.mem_of_getElem? (i := 73) rfl)⟩
set_option maxRecDepth 100000 in
theorem fok_3_305 : FOK 3 37 305 := ⟨by decide, by decide, Or.inl (List.mem_of_getElem? (i := 150) rfl)⟩
set_option maxRecDepth 100000 in
theorem fok_3_304 : FOK 3 41 304 := ⟨by decide, by decide, Or.inl (List.mem_of_getElem? (i := 149) rfl)⟩
set_option maxRecDepth 100000 in
theorem fok_3_303 : FOK 3 44 303 := ⟨by decide, by decide, Or.inl (List.mem_of_getElem? (i := 148) rfl)⟩
set_option maxRecDepth 100000 in
theorem fok_4_400 : FOK 4 11 400 := ⟨by decide, by decide, Or.inl (List.mem_of_getElem? (i := 98) rfl)⟩
set_option maxRecDepth 100000 in
theorem fok_4_401 : FOK 4 19 401 := ⟨by decide, by decide, Or.inl (List.mem_of_getElem? (i := 100) rfl)⟩
set_option maxRecDepth 100000 in
theorem fok_4_402 : FOK 4 23 402 := ⟨by decide, by decide, Or.inl (List.mem_of_getElem? (i := 101) rfl)⟩
set_option maxRecDepth 100000 in
theorem fok_4_403 : FOK 4 27 403 := ⟨by decide, by decide, Or.inl (List.mem_of_getElem? (i := 102) rfl)⟩
set_option maxRecDepth 100000 in
theorem fok_4_404 : FOK 4 30 404 := ⟨by decide, by decide, Or.inl (List.mem_of_getElem? (i := 103) rfl)⟩
set_option maxRecDepth 100000 in
theorem fok_4_405 : FOK 4 41 405 := ⟨by decide, by decide, Or.inl (List.mem_of_getElem? (i := 450) rfl)⟩
set_option maxRecDepth 100000 in
theorem fok_4_406 : FOK 4 45 406 := ⟨by decide, by decide, Or.inl (List.mem_of_getElem? (i := 451) rfl)⟩
set_option maxRecDepth 100000 in
theorem fok_4_703 : FOK 4 48 703 := ⟨by decide, by decide, Or.inr (List.mem_of_getElem? (i := 23) rfl)⟩
set_option maxRecDepth 100000 in
theorem fok_4_305 : FOK 4 62 305 := ⟨by decide, by decide, Or.inr (List.mem_of_getElem? (i := 24) rfl)⟩
set_option maxRecDepth 100000 in
theorem fok_4_701 : FOK 4 65 701 := ⟨by decide, by decide, Or.inr (List.mem_of_getElem? (i := 25) rfl)⟩
set_option maxRecDepth 100000 in
theorem fok_4_604 : FOK 4 69 604 := ⟨by decide, by decide, Or.inr (List.mem_of_getElem? (i := 26) rfl)⟩
set_option maxRecDepth 100000 in
theorem fok_4_704 : FOK 4 90 704 := ⟨by decide, by decide, Or.inr (List.mem_of_getElem? (i := 27) rfl)⟩
set_option maxRecDepth 100000 in
theorem fok_4_705 : FOK 4 101 705 := ⟨by decide, by decide, Or.inr (List.mem_of_getElem? (i := 22) rfl)⟩
set_option maxRecDepth 100000 in
theorem fok_5_500 : FOK 5 9 500 := ⟨by decide, by decide, Or.inl (List.mem_of_getElem? (i := 90) rfl)⟩
set_option maxRecDepth 100000 in
theorem fok_5_501 : FOK 5 15 501 := ⟨by decide, by decide, Or.inl (List.mem_of_getElem? (i := 91) rfl)⟩
set_option maxRecDepth 100000 in
theorem fok_5_502 : FOK 5 18 502 := ⟨by decide, by decide, Or.inl (List.mem_of_getElem? (i := 92) rfl)⟩
set_option maxRecDepth 100000 in
theorem fok_5_503 : FOK 5 21 503 := ⟨by decide, by decide, Or.inl (List.mem_of_getElem? (i := 93) rfl)⟩
set_option maxRecDepth 100000 in
theorem fok_5_701 : FOK 5 37 701 := ⟨by decide, by decide, Or.inr (List.mem_of_getElem? (i := 28) rfl)⟩
set_option maxRecDepth 100000 in
theorem fok_5_700 : FOK 5 71 700 := ⟨by decide, by decide, Or.inr (List.mem_of_getElem? (i := 29) rfl)⟩
set_option maxRecDepth 100000 in
theorem fok_6_602 : FOK 6 9 602 := ⟨by decide, by decide, Or.inl (List.mem_of_getElem? (i := 60) rfl)⟩
set_option maxRecDepth 100000 in
theorem fok_6_603 : FOK 6 15 603 := ⟨by decide, by decide, Or.inl (List.mem_of_getElem? (i := 61) rfl)⟩
set_option maxRecDepth 100000 in
theorem fok_6_600 : FOK 6 24 600 := ⟨by decide, by decide, Or.inl (List.mem_of_getElem? (i := 66) rfl)⟩
set_option maxRecDepth 100000 in
theorem fok_6_601 : FOK 6 28 601 := ⟨by decide, by decide, Or.inl (List.mem_of_getElem? (i := 67) rfl)⟩
set_option maxRecDepth 100000 in
theorem fok_6_604 : FOK 6 31 604 := ⟨by decide, by decide, Or.inl (List.mem_of_getElem? (i := 143) rfl)⟩
set_option maxRecDepth 100000 in
theorem fok_7_700 : FOK 7 14 700 := ⟨by decide, by decide, Or.inl (List.mem_of_getElem? (i := 50) rfl)⟩
set_option maxRecDepth 100000 in
theorem fok_7_701 : FOK 7 20 701 := ⟨by decide, by decide, Or.inl (List.mem_of_getElem? (i := 51) rfl)⟩
set_option maxRecDepth 100000 in
theorem fok_7_702 : FOK 7 23 702 := ⟨by decide, by decide, Or.inl (List.mem_of_getElem? (i := 52) rfl)⟩
set_option maxRecDepth 100000 in
theorem fok_7_703 : FOK 7 30 703 := ⟨by decide, by decide, Or.inl (List.mem_of_getElem? (i := 54) rfl)⟩
set_option maxRecDepth 100000 in
theorem fok_7_704 : FOK 7 34 704 := ⟨by decide, by decide, Or.inl (List.mem_of_getElem? (i := 55) rfl)⟩
set_option maxRecDepth 100000 in
theorem fok_7_705 : FOK 7 38 705 := ⟨by decide, by decide, Or.inl (List.mem_of_getElem? (i := 56) rfl)⟩
set_option maxRecDepth 100000 in
theorem fok_7_604 : FOK 7 41 604 := ⟨by decide, by decide, Or.inr (List.mem_of_getElem? (i := 30) rfl)⟩
set_option maxRecDepth 100000 in
theorem fok_8_800 : FOK 8 9 800 := ⟨by decide, by decide, Or.inl (List.mem_of_getElem? (i := 14) rfl)⟩
set_option maxRecDepth 100000 in
theorem fok_8_802 : FOK 8 16 802 := ⟨by decide, by decide, Or.inl (List.mem_of_getElem? (i := 18) rfl)⟩
set_option maxRecDepth 100000 in
theorem fok_8_803 : FOK 8 20 803 := ⟨by decide, by decide, Or.inl (List.mem_of_getElem? (i := 19) rfl)⟩
set_option maxRecDepth 100000 in
theorem fok_8_804 : FOK 8 26 804 := ⟨by decide, by decide, Or.inl (List.mem_of_getElem? (i := 23) rfl)⟩
set_option maxRecDepth 100000 in
theorem fok_8_805 : FOK 8 33 805 := ⟨by decide, by decide, Or.inl (List.mem_of_getElem? (i := 27) rfl)⟩
set_option maxRecDepth 100000 in
theorem fok_8_806 : FOK 8 40 806 := ⟨by decide, by decide, Or.inl (List.mem_of_getElem? (i := 31) rfl)⟩
set_option maxRecDepth 100000 in
theorem fok_8_807 : FOK 8 47 807 := ⟨by decide, by decide, Or.inl (List.mem_of_getElem? (i := 35) rfl)⟩
set_option maxRecDepth 100000 in
theorem fok_8_808 : FOK 8 54 808 := ⟨by decide, by decide, Or.inl (List.mem_of_getElem? (i := 39) rfl)⟩
set_option maxRecDepth 100000 in
theorem fok_8_809 : FOK 8 61 809 := ⟨by decide, by decide, Or.inl (List.mem_of_getElem? (i := 43) rfl)⟩
set_option maxRecDepth 100000 in
theorem fok_8_801 : FOK 8 72 801 := ⟨by decide, by decide, Or.inl (List.mem_of_getElem? (i := 329) rfl)⟩
set_option maxRecDepth 100000 in
theorem fok_8_700 : FOK 8 95 700 := ⟨by decide, by decide, Or.inr (List.mem_of_getElem? (i := 13) rfl)⟩
set_option maxRecDepth 100000 in
theorem fok_8_604 : FOK 8 99 604 := ⟨by decide, by decide, Or.inr (List.mem_of_getElem? (i := 14) rfl)⟩
set_option maxRecDepth 100000 in
theorem fok_8_701 : FOK 8 104 701 := ⟨by decide, by decide, Or.inr (List.mem_of_getElem? (i := 0) rfl)⟩
set_option maxRecDepth 100000 in
theorem fok_8_704 : FOK 8 153 704 := ⟨by decide, by decide, Or.inr (List.mem_of_getElem? (i := 1) rfl)⟩
set_option maxRecDepth 100000 in
theorem fok_8_705 : FOK 8 156 705 := ⟨by decide, by decide, Or.inr (List.mem_of_getElem? (i := 2) rfl)⟩
set_option maxRecDepth 100000 in
theorem fok_8_703 : FOK 8 159 703 := ⟨by decide, by decide, Or.inr (List.mem_of_getElem? (i := 3) rfl)⟩
set_option maxRecDepth 100000 in
theorem fok_8_503 : FOK 8 202 503 := ⟨by decide, by decide, Or.inr (List.mem_of_getElem? (i := 4) rfl)⟩
set_option maxRecDepth 100000 in
theorem fok_8_3 : FOK 8 249 3 := ⟨by decide, by decide, Or.inr (List.mem_of_getElem? (i := 5) rfl)⟩
set_option maxRecDepth 100000 in
theorem fok_8_4 : FOK 8 252 4 := ⟨by decide, by decide, Or.inr (List.mem_of_getElem? (i := 6) rfl)⟩
set_option maxRecDepth 100000 in
theorem fok_8_5 : FOK 8 255 5 := ⟨by decide, by decide, Or.inr (List.mem_of_getElem? (i := 7) rfl)⟩
set_option maxRecDepth 100000 in
theorem fok_8_6 : FOK 8 258 6 := ⟨by decide, by decide, Or.inr (List.mem_of_getElem? (i := 8) rfl)⟩
set_option maxRecDepth 100000 in
theorem fok_8_201 : FOK 8 268 201 := ⟨by decide, by decide, Or.inr (List.mem_of_getElem? (i := 9) rfl)⟩
set_option maxRecDepth 100000 in
theorem fok_8_303 : FOK 8 306 303 := ⟨by decide, by decide, Or.inr (List.mem_of_getElem? (i := 10) rfl)⟩
set_option maxRecDepth 100000 in
theorem fok_8_304 : FOK 8 307 304 := ⟨by decide, by decide, Or.inr (List.mem_of_getElem? (i := 11) rfl)⟩
set_option maxRecDepth 100000 in
theorem fok_8_305 : FOK 8 310 305 := ⟨by decide, by decide, Or.inr (List.mem_of_getElem? (i := 12) rfl)⟩
def KOK (q : Nat) : Prop := q % 100 < fcn (q / 100) → (fk q = 0 ∧ yC (q / 100) (q % 100) = .int) ∨ (fk q = 1 ∧ defaultValue (yC (q / 100) (q % 100)) = .null ∧ ∀ a, fits (yC (q / 100) (q % 100)) (.ref a) = true ∧ fits (yC (q / 100) (q % 100)) .null = true ∧ narrow (yC (q / 100) (q % 100)) (.ref a) = .ref a ∧ narrow (yC (q / 100) (q % 100)) .null = .null) ∨ (fk q = 2 ∧ yC (q / 100) (q % 100) = .long)
theorem kok_0_0 : KOK 0 := fun _ => Or.inr (Or.inl ⟨rfl, rfl, fun _ => ⟨rfl, rfl, rfl, rfl⟩⟩)
theorem kok_0_1 : KOK 1 := fun _ => Or.inr (Or.inl ⟨rfl, rfl, fun _ => ⟨rfl, rfl, rfl, rfl⟩⟩)
theorem kok_0_2 : KOK 2 := fun _ => Or.inr (Or.inl ⟨rfl, rfl, fun _ => ⟨rfl, rfl, rfl, rfl⟩⟩)
theorem kok_0_3 : KOK 3 := fun _ => Or.inl ⟨rfl, rfl⟩
theorem kok_0_4 : KOK 4 := fun _ => Or.inl ⟨rfl, rfl⟩
theorem kok_0_5 : KOK 5 := fun _ => Or.inl ⟨rfl, rfl⟩
theorem kok_0_6 : KOK 6 := fun _ => Or.inl ⟨rfl, rfl⟩
theorem kok_1_0 : KOK 100 := fun _ => Or.inr (Or.inl ⟨rfl, rfl, fun _ => ⟨rfl, rfl, rfl, rfl⟩⟩)
theorem kok_2_0 : KOK 200 := fun _ => Or.inr (Or.inl ⟨rfl, rfl, fun _ => ⟨rfl, rfl, rfl, rfl⟩⟩)
theorem kok_2_1 : KOK 201 := fun _ => Or.inl ⟨rfl, rfl⟩
theorem kok_3_0 : KOK 300 := fun _ => Or.inr (Or.inl ⟨rfl, rfl, fun _ => ⟨rfl, rfl, rfl, rfl⟩⟩)
theorem kok_3_1 : KOK 301 := fun _ => Or.inr (Or.inl ⟨rfl, rfl, fun _ => ⟨rfl, rfl, rfl, rfl⟩⟩)
theorem kok_3_2 : KOK 302 := fun _ => Or.inr (Or.inl ⟨rfl, rfl, fun _ => ⟨rfl, rfl, rfl, rfl⟩⟩)
theorem kok_3_3 : KOK 303 := fun _ => Or.inl ⟨rfl, rfl⟩
theorem kok_3_4 : KOK 304 := fun _ => Or.inl ⟨rfl, rfl⟩
theorem kok_3_5 : KOK 305 := fun _ => Or.inl ⟨rfl, rfl⟩
theorem kok_4_0 : KOK 400 := fun _ => Or.inr (Or.inl ⟨rfl, rfl, fun _ => ⟨rfl, rfl, rfl, rfl⟩⟩)
theorem kok_4_1 : KOK 401 := fun _ => Or.inr (Or.inl ⟨rfl, rfl, fun _ => ⟨rfl, rfl, rfl, rfl⟩⟩)
theorem kok_4_2 : KOK 402 := fun _ => Or.inr (Or.inl ⟨rfl, rfl, fun _ => ⟨rfl, rfl, rfl, rfl⟩⟩)
theorem kok_4_3 : KOK 403 := fun _ => Or.inr (Or.inl ⟨rfl, rfl, fun _ => ⟨rfl, rfl, rfl, rfl⟩⟩)
theorem kok_4_4 : KOK 404 := fun _ => Or.inr (Or.inl ⟨rfl, rfl, fun _ => ⟨rfl, rfl, rfl, rfl⟩⟩)
theorem kok_4_5 : KOK 405 := fun _ => Or.inl ⟨rfl, rfl⟩
theorem kok_4_6 : KOK 406 := fun _ => Or.inl ⟨rfl, rfl⟩
theorem kok_5_0 : KOK 500 := fun _ => Or.inr (Or.inl ⟨rfl, rfl, fun _ => ⟨rfl, rfl, rfl, rfl⟩⟩)
theorem kok_5_1 : KOK 501 := fun _ => Or.inr (Or.inl ⟨rfl, rfl, fun _ => ⟨rfl, rfl, rfl, rfl⟩⟩)
theorem kok_5_2 : KOK 502 := fun _ => Or.inr (Or.inl ⟨rfl, rfl, fun _ => ⟨rfl, rfl, rfl, rfl⟩⟩)
theorem kok_5_3 : KOK 503 := fun _ => Or.inl ⟨rfl, rfl⟩
theorem kok_6_0 : KOK 600 := fun _ => Or.inl ⟨rfl, rfl⟩
theorem kok_6_1 : KOK 601 := fun _ => Or.inl ⟨rfl, rfl⟩
theorem kok_6_2 : KOK 602 := fun _ => Or.inr (Or.inl ⟨rfl, rfl, fun _ => ⟨rfl, rfl, rfl, rfl⟩⟩)
theorem kok_6_3 : KOK 603 := fun _ => Or.inr (Or.inl ⟨rfl, rfl, fun _ => ⟨rfl, rfl, rfl, rfl⟩⟩)
theorem kok_6_4 : KOK 604 := fun _ => Or.inl ⟨rfl, rfl⟩
theorem kok_7_0 : KOK 700 := fun _ => Or.inr (Or.inl ⟨rfl, rfl, fun _ => ⟨rfl, rfl, rfl, rfl⟩⟩)
theorem kok_7_1 : KOK 701 := fun _ => Or.inr (Or.inl ⟨rfl, rfl, fun _ => ⟨rfl, rfl, rfl, rfl⟩⟩)
theorem kok_7_2 : KOK 702 := fun _ => Or.inr (Or.inl ⟨rfl, rfl, fun _ => ⟨rfl, rfl, rfl, rfl⟩⟩)
theorem kok_7_3 : KOK 703 := fun _ => Or.inr (Or.inl ⟨rfl, rfl, fun _ => ⟨rfl, rfl, rfl, rfl⟩⟩)
theorem kok_7_4 : KOK 704 := fun _ => Or.inl ⟨rfl, rfl⟩
theorem kok_7_5 : KOK 705 := fun _ => Or.inl ⟨rfl, rfl⟩
theorem kok_8_0 : KOK 800 := fun _ => Or.inr (Or.inl ⟨rfl, rfl, fun _ => ⟨rfl, rfl, rfl, rfl⟩⟩)
theorem kok_8_1 : KOK 801 := fun _ => Or.inl ⟨rfl, rfl⟩
theorem kok_8_2 : KOK 802 := fun _ => Or.inr (Or.inl ⟨rfl, rfl, fun _ => ⟨rfl, rfl, rfl, rfl⟩⟩)
theorem kok_8_3 : KOK 803 := fun _ => Or.inr (Or.inl ⟨rfl, rfl, fun _ => ⟨rfl, rfl, rfl, rfl⟩⟩)
theorem kok_8_4 : KOK 804 := fun _ => Or.inr (Or.inl ⟨rfl, rfl, fun _ => ⟨rfl, rfl, rfl, rfl⟩⟩)
theorem kok_8_5 : KOK 805 := fun _ => Or.inr (Or.inl ⟨rfl, rfl, fun _ => ⟨rfl, rfl, rfl, rfl⟩⟩)
theorem kok_8_6 : KOK 806 := fun _ => Or.inr (Or.inl ⟨rfl, rfl, fun _ => ⟨rfl, rfl, rfl, rfl⟩⟩)
theorem kok_8_7 : KOK 807 := fun _ => Or.inr (Or.inl ⟨rfl, rfl, fun _ => ⟨rfl, rfl, rfl, rfl⟩⟩)
theorem kok_8_8 : KOK 808 := fun _ => Or.inr (Or.inl ⟨rfl, rfl, fun _ => ⟨rfl, rfl, rfl, rfl⟩⟩)
theorem kok_8_9 : KOK 809 := fun _ => Or.inr (Or.inl ⟨rfl, rfl, fun _ => ⟨rfl, rfl, rfl, rfl⟩⟩)
theorem kok (c s : Nat) (hc : c < 9) (hs : s < fcn c) : KOK (c * 100 + s) := by
  have h : ∀ c, c < 9 → ∀ s, s < fcn c → KOK (c * 100 + s) := lt_s (lt_s (lt_s (lt_s (lt_s (lt_s (lt_s (lt_s (lt_s (lt_0) (lt_s (lt_s (lt_s (lt_s (lt_s (lt_s (lt_s (lt_0) kok_0_0) kok_0_1) kok_0_2) kok_0_3) kok_0_4) kok_0_5) kok_0_6)) (lt_s (lt_0) kok_1_0)) (lt_s (lt_s (lt_0) kok_2_0) kok_2_1)) (lt_s (lt_s (lt_s (lt_s (lt_s (lt_s (lt_0) kok_3_0) kok_3_1) kok_3_2) kok_3_3) kok_3_4) kok_3_5)) (lt_s (lt_s (lt_s (lt_s (lt_s (lt_s (lt_s (lt_0) kok_4_0) kok_4_1) kok_4_2) kok_4_3) kok_4_4) kok_4_5) kok_4_6)) (lt_s (lt_s (lt_s (lt_s (lt_0) kok_5_0) kok_5_1) kok_5_2) kok_5_3)) (lt_s (lt_s (lt_s (lt_s (lt_s (lt_0) kok_6_0) kok_6_1) kok_6_2) kok_6_3) kok_6_4)) (lt_s (lt_s (lt_s (lt_s (lt_s (lt_s (lt_0) kok_7_0) kok_7_1) kok_7_2) kok_7_3) kok_7_4) kok_7_5)) (lt_s (lt_s (lt_s (lt_s (lt_s (lt_s (lt_s (lt_s (lt_s (lt_s (lt_0) kok_8_0) kok_8_1) kok_8_2) kok_8_3) kok_8_4) kok_8_5) kok_8_6) kok_8_7) kok_8_8) kok_8_9)
  exact h c hc s hs
def fin (q : Nat) : Bool := (TC (q / 100) (q % 100)).2.2.2
def MOK (k : Nat) : Prop := (MN k).cls = RC (mcl k) ∧ Cond.initialized (RC (mcl k)) ∈ wsL_law ∧ (parseMethodDescriptor (MN k).desc).map (fun d => d.parameters.length) = some (mar k) ∧ plainName (MN k).cls = true ∧ ((MN k).cls ≠ "java/lang/invoke/MethodHandle" ∧ (MN k).cls ≠ "java/lang/invoke/VarHandle") ∧ Cond.code (MN k) (MB k) (mml k) (MR k) ∈ wsL_law ∧ (mki k = 0 → Cond.instanceMethod (MN k) ∈ wsL_law ∧ Cond.selects (RC (mcl k)) (MN k) (MN k) ∈ wsL_law) ∧ (mki k = 1 → Cond.static (MN k) ∈ wsL_law) ∧ (mki k = 2 → Cond.instanceMethod (MN k) ∈ wsL_law ∧ (MN k).name = "<init>")
set_option maxRecDepth 100000 in
theorem mok_0 : MOK 0 := ⟨rfl, (List.mem_of_getElem? (i := 42) rfl), by decide +kernel, by decide +kernel, ⟨by decide +kernel, by decide +kernel⟩, (List.mem_of_getElem? (i := 105) rfl), fun h => absurd h (by decide), fun h => absurd h (by decide), fun _ => ⟨(List.mem_of_getElem? (i := 104) rfl), rfl⟩⟩
set_option maxRecDepth 100000 in
theorem mok_1 : MOK 1 := ⟨rfl, (List.mem_of_getElem? (i := 42) rfl), by decide +kernel, by decide +kernel, ⟨by decide +kernel, by decide +kernel⟩, (List.mem_of_getElem? (i := 477) rfl), fun _ => ⟨(List.mem_of_getElem? (i := 475) rfl), (List.mem_of_getElem? (i := 476) rfl)⟩, fun h => absurd h (by decide), fun h => absurd h (by decide)⟩
set_option maxRecDepth 100000 in
theorem mok_2 : MOK 2 := ⟨rfl, (List.mem_of_getElem? (i := 42) rfl), by decide +kernel, by decide +kernel, ⟨by decide +kernel, by decide +kernel⟩, (List.mem_of_getElem? (i := 489) rfl), fun _ => ⟨(List.mem_of_getElem? (i := 487) rfl), (List.mem_of_getElem? (i := 488) rfl)⟩, fun h => absurd h (by decide), fun h => absurd h (by decide)⟩
set_option maxRecDepth 100000 in
theorem mok_3 : MOK 3 := ⟨rfl, (List.mem_of_getElem? (i := 42) rfl), by decide +kernel, by decide +kernel, ⟨by decide +kernel, by decide +kernel⟩, (List.mem_of_getElem? (i := 485) rfl), fun _ => ⟨(List.mem_of_getElem? (i := 483) rfl), (List.mem_of_getElem? (i := 484) rfl)⟩, fun h => absurd h (by decide), fun h => absurd h (by decide)⟩
set_option maxRecDepth 100000 in
theorem mok_4 : MOK 4 := ⟨rfl, (List.mem_of_getElem? (i := 42) rfl), by decide +kernel, by decide +kernel, ⟨by decide +kernel, by decide +kernel⟩, (List.mem_of_getElem? (i := 496) rfl), fun _ => ⟨(List.mem_of_getElem? (i := 494) rfl), (List.mem_of_getElem? (i := 495) rfl)⟩, fun h => absurd h (by decide), fun h => absurd h (by decide)⟩
set_option maxRecDepth 100000 in
theorem mok_5 : MOK 5 := ⟨rfl, (List.mem_of_getElem? (i := 26) rfl), by decide +kernel, by decide +kernel, ⟨by decide +kernel, by decide +kernel⟩, (List.mem_of_getElem? (i := 84) rfl), fun h => absurd h (by decide), fun h => absurd h (by decide), fun _ => ⟨(List.mem_of_getElem? (i := 83) rfl), rfl⟩⟩
set_option maxRecDepth 100000 in
theorem mok_6 : MOK 6 := ⟨rfl, (List.mem_of_getElem? (i := 26) rfl), by decide +kernel, by decide +kernel, ⟨by decide +kernel, by decide +kernel⟩, (List.mem_of_getElem? (i := 168) rfl), fun h => absurd h (by decide), fun _ => (List.mem_of_getElem? (i := 167) rfl), fun h => absurd h (by decide)⟩
set_option maxRecDepth 100000 in
theorem mok_7 : MOK 7 := ⟨rfl, (List.mem_of_getElem? (i := 26) rfl), by decide +kernel, by decide +kernel, ⟨by decide +kernel, by decide +kernel⟩, (List.mem_of_getElem? (i := 240) rfl), fun _ => ⟨(List.mem_of_getElem? (i := 238) rfl), (List.mem_of_getElem? (i := 239) rfl)⟩, fun h => absurd h (by decide), fun h => absurd h (by decide)⟩
set_option maxRecDepth 100000 in
theorem mok_8 : MOK 8 := ⟨rfl, (List.mem_of_getElem? (i := 26) rfl), by decide +kernel, by decide +kernel, ⟨by decide +kernel, by decide +kernel⟩, (List.mem_of_getElem? (i := 153) rfl), fun _ => ⟨(List.mem_of_getElem? (i := 151) rfl), (List.mem_of_getElem? (i := 152) rfl)⟩, fun h => absurd h (by decide), fun h => absurd h (by decide)⟩
set_option maxRecDepth 100000 in
theorem mok_9 : MOK 9 := ⟨rfl, (List.mem_of_getElem? (i := 26) rfl), by decide +kernel, by decide +kernel, ⟨by decide +kernel, by decide +kernel⟩, (List.mem_of_getElem? (i := 158) rfl), fun _ => ⟨(List.mem_of_getElem? (i := 156) rfl), (List.mem_of_getElem? (i := 157) rfl)⟩, fun h => absurd h (by decide), fun h => absurd h (by decide)⟩
set_option maxRecDepth 100000 in
theorem mok_10 : MOK 10 := ⟨rfl, (List.mem_of_getElem? (i := 26) rfl), by decide +kernel, by decide +kernel, ⟨by decide +kernel, by decide +kernel⟩, (List.mem_of_getElem? (i := 171) rfl), fun h => absurd h (by decide), fun _ => (List.mem_of_getElem? (i := 170) rfl), fun h => absurd h (by decide)⟩
set_option maxRecDepth 100000 in
theorem mok_11 : MOK 11 := ⟨rfl, (List.mem_of_getElem? (i := 26) rfl), by decide +kernel, by decide +kernel, ⟨by decide +kernel, by decide +kernel⟩, (List.mem_of_getElem? (i := 492) rfl), fun _ => ⟨(List.mem_of_getElem? (i := 490) rfl), (List.mem_of_getElem? (i := 491) rfl)⟩, fun h => absurd h (by decide), fun h => absurd h (by decide)⟩
set_option maxRecDepth 100000 in
theorem mok_12 : MOK 12 := ⟨rfl, (List.mem_of_getElem? (i := 22) rfl), by decide +kernel, by decide +kernel, ⟨by decide +kernel, by decide +kernel⟩, (List.mem_of_getElem? (i := 79) rfl), fun h => absurd h (by decide), fun h => absurd h (by decide), fun _ => ⟨(List.mem_of_getElem? (i := 78) rfl), rfl⟩⟩
set_option maxRecDepth 100000 in
theorem mok_13 : MOK 13 := ⟨rfl, (List.mem_of_getElem? (i := 22) rfl), by decide +kernel, by decide +kernel, ⟨by decide +kernel, by decide +kernel⟩, (List.mem_of_getElem? (i := 345) rfl), fun _ => ⟨(List.mem_of_getElem? (i := 343) rfl), (List.mem_of_getElem? (i := 344) rfl)⟩, fun h => absurd h (by decide), fun h => absurd h (by decide)⟩
set_option maxRecDepth 100000 in
theorem mok_14 : MOK 14 := ⟨rfl, (List.mem_of_getElem? (i := 22) rfl), by decide +kernel, by decide +kernel, ⟨by decide +kernel, by decide +kernel⟩, (List.mem_of_getElem? (i := 349) rfl), fun _ => ⟨(List.mem_of_getElem? (i := 347) rfl), (List.mem_of_getElem? (i := 348) rfl)⟩, fun h => absurd h (by decide), fun h => absurd h (by decide)⟩
set_option maxRecDepth 100000 in
theorem mok_15 : MOK 15 := ⟨rfl, (List.mem_of_getElem? (i := 22) rfl), by decide +kernel, by decide +kernel, ⟨by decide +kernel, by decide +kernel⟩, (List.mem_of_getElem? (i := 126) rfl), fun _ => ⟨(List.mem_of_getElem? (i := 124) rfl), (List.mem_of_getElem? (i := 125) rfl)⟩, fun h => absurd h (by decide), fun h => absurd h (by decide)⟩
set_option maxRecDepth 100000 in
theorem mok_16 : MOK 16 := ⟨rfl, (List.mem_of_getElem? (i := 34) rfl), by decide +kernel, by decide +kernel, ⟨by decide +kernel, by decide +kernel⟩, (List.mem_of_getElem? (i := 69) rfl), fun h => absurd h (by decide), fun h => absurd h (by decide), fun _ => ⟨(List.mem_of_getElem? (i := 68) rfl), rfl⟩⟩
set_option maxRecDepth 100000 in
theorem mok_17 : MOK 17 := ⟨rfl, (List.mem_of_getElem? (i := 34) rfl), by decide +kernel, by decide +kernel, ⟨by decide +kernel, by decide +kernel⟩, (List.mem_of_getElem? (i := 219) rfl), fun h => absurd h (by decide), fun _ => (List.mem_of_getElem? (i := 218) rfl), fun h => absurd h (by decide)⟩
set_option maxRecDepth 100000 in
theorem mok_18 : MOK 18 := ⟨rfl, (List.mem_of_getElem? (i := 34) rfl), by decide +kernel, by decide +kernel, ⟨by decide +kernel, by decide +kernel⟩, (List.mem_of_getElem? (i := 257) rfl), fun _ => ⟨(List.mem_of_getElem? (i := 255) rfl), (List.mem_of_getElem? (i := 256) rfl)⟩, fun h => absurd h (by decide), fun h => absurd h (by decide)⟩
set_option maxRecDepth 100000 in
theorem mok_19 : MOK 19 := ⟨rfl, (List.mem_of_getElem? (i := 34) rfl), by decide +kernel, by decide +kernel, ⟨by decide +kernel, by decide +kernel⟩, (List.mem_of_getElem? (i := 260) rfl), fun _ => ⟨(List.mem_of_getElem? (i := 258) rfl), (List.mem_of_getElem? (i := 259) rfl)⟩, fun h => absurd h (by decide), fun h => absurd h (by decide)⟩
set_option maxRecDepth 100000 in
theorem mok_20 : MOK 20 := ⟨rfl, (List.mem_of_getElem? (i := 34) rfl), by decide +kernel, by decide +kernel, ⟨by decide +kernel, by decide +kernel⟩, (List.mem_of_getElem? (i := 216) rfl), fun _ => ⟨(List.mem_of_getElem? (i := 214) rfl), (List.mem_of_getElem? (i := 215) rfl)⟩, fun h => absurd h (by decide), fun h => absurd h (by decide)⟩
set_option maxRecDepth 100000 in
theorem mok_21 : MOK 21 := ⟨rfl, (List.mem_of_getElem? (i := 34) rfl), by decide +kernel, by decide +kernel, ⟨by decide +kernel, by decide +kernel⟩, (List.mem_of_getElem? (i := 361) rfl), fun _ => ⟨(List.mem_of_getElem? (i := 359) rfl), (List.mem_of_getElem? (i := 360) rfl)⟩, fun h => absurd h (by decide), fun h => absurd h (by decide)⟩
set_option maxRecDepth 100000 in
theorem mok_22 : MOK 22 := ⟨rfl, (List.mem_of_getElem? (i := 34) rfl), by decide +kernel, by decide +kernel, ⟨by decide +kernel, by decide +kernel⟩, (List.mem_of_getElem? (i := 377) rfl), fun _ => ⟨(List.mem_of_getElem? (i := 375) rfl), (List.mem_of_getElem? (i := 376) rfl)⟩, fun h => absurd h (by decide), fun h => absurd h (by decide)⟩
set_option maxRecDepth 100000 in
theorem mok_23 : MOK 23 := ⟨rfl, (List.mem_of_getElem? (i := 34) rfl), by decide +kernel, by decide +kernel, ⟨by decide +kernel, by decide +kernel⟩, (List.mem_of_getElem? (i := 414) rfl), fun _ => ⟨(List.mem_of_getElem? (i := 412) rfl), (List.mem_of_getElem? (i := 413) rfl)⟩, fun h => absurd h (by decide), fun h => absurd h (by decide)⟩
set_option maxRecDepth 100000 in
theorem mok_24 : MOK 24 := ⟨rfl, (List.mem_of_getElem? (i := 34) rfl), by decide +kernel, by decide +kernel, ⟨by decide +kernel, by decide +kernel⟩, (List.mem_of_getElem? (i := 314) rfl), fun _ => ⟨(List.mem_of_getElem? (i := 312) rfl), (List.mem_of_getElem? (i := 313) rfl)⟩, fun h => absurd h (by decide), fun h => absurd h (by decide)⟩
set_option maxRecDepth 100000 in
theorem mok_25 : MOK 25 := ⟨rfl, (List.mem_of_getElem? (i := 34) rfl), by decide +kernel, by decide +kernel, ⟨by decide +kernel, by decide +kernel⟩, (List.mem_of_getElem? (i := 146) rfl), fun _ => ⟨(List.mem_of_getElem? (i := 144) rfl), (List.mem_of_getElem? (i := 145) rfl)⟩, fun h => absurd h (by decide), fun h => absurd h (by decide)⟩
set_option maxRecDepth 100000 in
theorem mok_26 : MOK 26 := ⟨rfl, (List.mem_of_getElem? (i := 38) rfl), by decide +kernel, by decide +kernel, ⟨by decide +kernel, by decide +kernel⟩, (List.mem_of_getElem? (i := 95) rfl), fun h => absurd h (by decide), fun h => absurd h (by decide), fun _ => ⟨(List.mem_of_getElem? (i := 94) rfl), rfl⟩⟩
set_option maxRecDepth 100000 in
theorem mok_27 : MOK 27 := ⟨rfl, (List.mem_of_getElem? (i := 38) rfl), by decide +kernel, by decide +kernel, ⟨by decide +kernel, by decide +kernel⟩, (List.mem_of_getElem? (i := 449) rfl), fun _ => ⟨(List.mem_of_getElem? (i := 447) rfl), (List.mem_of_getElem? (i := 448) rfl)⟩, fun h => absurd h (by decide), fun h => absurd h (by decide)⟩
set_option maxRecDepth 100000 in
theorem mok_28 : MOK 28 := ⟨rfl, (List.mem_of_getElem? (i := 38) rfl), by decide +kernel, by decide +kernel, ⟨by decide +kernel, by decide +kernel⟩, (List.mem_of_getElem? (i := 467) rfl), fun _ => ⟨(List.mem_of_getElem? (i := 465) rfl), (List.mem_of_getElem? (i := 466) rfl)⟩, fun h => absurd h (by decide), fun h => absurd h (by decide)⟩
set_option maxRecDepth 100000 in
theorem mok_29 : MOK 29 := ⟨rfl, (List.mem_of_getElem? (i := 38) rfl), by decide +kernel, by decide +kernel, ⟨by decide +kernel, by decide +kernel⟩, (List.mem_of_getElem? (i := 455) rfl), fun h => absurd h (by decide), fun _ => (List.mem_of_getElem? (i := 454) rfl), fun h => absurd h (by decide)⟩
set_option maxRecDepth 100000 in
theorem mok_30 : MOK 30 := ⟨rfl, (List.mem_of_getElem? (i := 38) rfl), by decide +kernel, by decide +kernel, ⟨by decide +kernel, by decide +kernel⟩, (List.mem_of_getElem? (i := 464) rfl), fun _ => ⟨(List.mem_of_getElem? (i := 462) rfl), (List.mem_of_getElem? (i := 463) rfl)⟩, fun h => absurd h (by decide), fun h => absurd h (by decide)⟩
set_option maxRecDepth 100000 in
theorem mok_31 : MOK 31 := ⟨rfl, (List.mem_of_getElem? (i := 38) rfl), by decide +kernel, by decide +kernel, ⟨by decide +kernel, by decide +kernel⟩, (List.mem_of_getElem? (i := 459) rfl), fun _ => ⟨(List.mem_of_getElem? (i := 457) rfl), (List.mem_of_getElem? (i := 458) rfl)⟩, fun h => absurd h (by decide), fun h => absurd h (by decide)⟩
set_option maxRecDepth 100000 in
theorem mok_32 : MOK 32 := ⟨rfl, (List.mem_of_getElem? (i := 30) rfl), by decide +kernel, by decide +kernel, ⟨by decide +kernel, by decide +kernel⟩, (List.mem_of_getElem? (i := 88) rfl), fun h => absurd h (by decide), fun h => absurd h (by decide), fun _ => ⟨(List.mem_of_getElem? (i := 87) rfl), rfl⟩⟩
set_option maxRecDepth 100000 in
theorem mok_33 : MOK 33 := ⟨rfl, (List.mem_of_getElem? (i := 30) rfl), by decide +kernel, by decide +kernel, ⟨by decide +kernel, by decide +kernel⟩, (List.mem_of_getElem? (i := 236) rfl), fun _ => ⟨(List.mem_of_getElem? (i := 234) rfl), (List.mem_of_getElem? (i := 235) rfl)⟩, fun h => absurd h (by decide), fun h => absurd h (by decide)⟩
set_option maxRecDepth 100000 in
theorem mok_34 : MOK 34 := ⟨rfl, (List.mem_of_getElem? (i := 30) rfl), by decide +kernel, by decide +kernel, ⟨by decide +kernel, by decide +kernel⟩, (List.mem_of_getElem? (i := 292) rfl), fun _ => ⟨(List.mem_of_getElem? (i := 290) rfl), (List.mem_of_getElem? (i := 291) rfl)⟩, fun h => absurd h (by decide), fun h => absurd h (by decide)⟩
set_option maxRecDepth 100000 in
theorem mok_35 : MOK 35 := ⟨rfl, (List.mem_of_getElem? (i := 30) rfl), by decide +kernel, by decide +kernel, ⟨by decide +kernel, by decide +kernel⟩, (List.mem_of_getElem? (i := 298) rfl), fun _ => ⟨(List.mem_of_getElem? (i := 296) rfl), (List.mem_of_getElem? (i := 297) rfl)⟩, fun h => absurd h (by decide), fun h => absurd h (by decide)⟩
set_option maxRecDepth 100000 in
theorem mok_36 : MOK 36 := ⟨rfl, (List.mem_of_getElem? (i := 30) rfl), by decide +kernel, by decide +kernel, ⟨by decide +kernel, by decide +kernel⟩, (List.mem_of_getElem? (i := 301) rfl), fun h => absurd h (by decide), fun _ => (List.mem_of_getElem? (i := 300) rfl), fun h => absurd h (by decide)⟩
set_option maxRecDepth 100000 in
theorem mok_37 : MOK 37 := ⟨rfl, (List.mem_of_getElem? (i := 30) rfl), by decide +kernel, by decide +kernel, ⟨by decide +kernel, by decide +kernel⟩, (List.mem_of_getElem? (i := 424) rfl), fun _ => ⟨(List.mem_of_getElem? (i := 422) rfl), (List.mem_of_getElem? (i := 423) rfl)⟩, fun h => absurd h (by decide), fun h => absurd h (by decide)⟩
set_option maxRecDepth 100000 in
theorem mok_38 : MOK 38 := ⟨rfl, (List.mem_of_getElem? (i := 30) rfl), by decide +kernel, by decide +kernel, ⟨by decide +kernel, by decide +kernel⟩, (List.mem_of_getElem? (i := 304) rfl), fun _ => ⟨(List.mem_of_getElem? (i := 302) rfl), (List.mem_of_getElem? (i := 303) rfl)⟩, fun h => absurd h (by decide), fun h => absurd h (by decide)⟩
set_option maxRecDepth 100000 in
theorem mok_39 : MOK 39 := ⟨rfl, (List.mem_of_getElem? (i := 30) rfl), by decide +kernel, by decide +kernel, ⟨by decide +kernel, by decide +kernel⟩, (List.mem_of_getElem? (i := 311) rfl), fun _ => ⟨(List.mem_of_getElem? (i := 309) rfl), (List.mem_of_getElem? (i := 310) rfl)⟩, fun h => absurd h (by decide), fun h => absurd h (by decide)⟩
set_option maxRecDepth 100000 in
theorem mok_40 : MOK 40 := ⟨rfl, (List.mem_of_getElem? (i := 49) rfl), by decide +kernel, by decide +kernel, ⟨by decide +kernel, by decide +kernel⟩, (List.mem_of_getElem? (i := 58) rfl), fun h => absurd h (by decide), fun h => absurd h (by decide), fun _ => ⟨(List.mem_of_getElem? (i := 57) rfl), rfl⟩⟩
set_option maxRecDepth 100000 in
theorem mok_41 : MOK 41 := ⟨rfl, (List.mem_of_getElem? (i := 49) rfl), by decide +kernel, by decide +kernel, ⟨by decide +kernel, by decide +kernel⟩, (List.mem_of_getElem? (i := 165) rfl), fun _ => ⟨(List.mem_of_getElem? (i := 163) rfl), (List.mem_of_getElem? (i := 164) rfl)⟩, fun h => absurd h (by decide), fun h => absurd h (by decide)⟩
set_option maxRecDepth 100000 in
theorem mok_42 : MOK 42 := ⟨rfl, (List.mem_of_getElem? (i := 49) rfl), by decide +kernel, by decide +kernel, ⟨by decide +kernel, by decide +kernel⟩, (List.mem_of_getElem? (i := 180) rfl), fun _ => ⟨(List.mem_of_getElem? (i := 178) rfl), (List.mem_of_getElem? (i := 179) rfl)⟩, fun h => absurd h (by decide), fun h => absurd h (by decide)⟩
set_option maxRecDepth 100000 in
theorem mok_43 : MOK 43 := ⟨rfl, (List.mem_of_getElem? (i := 49) rfl), by decide +kernel, by decide +kernel, ⟨by decide +kernel, by decide +kernel⟩, (List.mem_of_getElem? (i := 339) rfl), fun _ => ⟨(List.mem_of_getElem? (i := 337) rfl), (List.mem_of_getElem? (i := 338) rfl)⟩, fun h => absurd h (by decide), fun h => absurd h (by decide)⟩
set_option maxRecDepth 100000 in
theorem mok_44 : MOK 44 := ⟨rfl, (List.mem_of_getElem? (i := 49) rfl), by decide +kernel, by decide +kernel, ⟨by decide +kernel, by decide +kernel⟩, (List.mem_of_getElem? (i := 342) rfl), fun _ => ⟨(List.mem_of_getElem? (i := 340) rfl), (List.mem_of_getElem? (i := 341) rfl)⟩, fun h => absurd h (by decide), fun h => absurd h (by decide)⟩
set_option maxRecDepth 100000 in
theorem mok_45 : MOK 45 := ⟨rfl, (List.mem_of_getElem? (i := 49) rfl), by decide +kernel, by decide +kernel, ⟨by decide +kernel, by decide +kernel⟩, (List.mem_of_getElem? (i := 161) rfl), fun _ => ⟨(List.mem_of_getElem? (i := 159) rfl), (List.mem_of_getElem? (i := 160) rfl)⟩, fun h => absurd h (by decide), fun h => absurd h (by decide)⟩
set_option maxRecDepth 100000 in
theorem mok_46 : MOK 46 := ⟨rfl, (List.mem_of_getElem? (i := 49) rfl), by decide +kernel, by decide +kernel, ⟨by decide +kernel, by decide +kernel⟩, (List.mem_of_getElem? (i := 176) rfl), fun _ => ⟨(List.mem_of_getElem? (i := 174) rfl), (List.mem_of_getElem? (i := 175) rfl)⟩, fun h => absurd h (by decide), fun h => absurd h (by decide)⟩
set_option maxRecDepth 100000 in
theorem mok_47 : MOK 47 := ⟨rfl, (List.mem_of_getElem? (i := 49) rfl), by decide +kernel, by decide +kernel, ⟨by decide +kernel, by decide +kernel⟩, (List.mem_of_getElem? (i := 355) rfl), fun _ => ⟨(List.mem_of_getElem? (i := 353) rfl), (List.mem_of_getElem? (i := 354) rfl)⟩, fun h => absurd h (by decide), fun h => absurd h (by decide)⟩
set_option maxRecDepth 100000 in
theorem mok_48 : MOK 48 := ⟨rfl, (List.mem_of_getElem? (i := 49) rfl), by decide +kernel, by decide +kernel, ⟨by decide +kernel, by decide +kernel⟩, (List.mem_of_getElem? (i := 358) rfl), fun _ => ⟨(List.mem_of_getElem? (i := 356) rfl), (List.mem_of_getElem? (i := 357) rfl)⟩, fun h => absurd h (by decide), fun h => absurd h (by decide)⟩
set_option maxRecDepth 100000 in
theorem mok_49 : MOK 49 := ⟨rfl, (List.mem_of_getElem? (i := 49) rfl), by decide +kernel, by decide +kernel, ⟨by decide +kernel, by decide +kernel⟩, (List.mem_of_getElem? (i := 374) rfl), fun _ => ⟨(List.mem_of_getElem? (i := 372) rfl), (List.mem_of_getElem? (i := 373) rfl)⟩, fun h => absurd h (by decide), fun h => absurd h (by decide)⟩
set_option maxRecDepth 100000 in
theorem mok_50 : MOK 50 := ⟨rfl, (List.mem_of_getElem? (i := 49) rfl), by decide +kernel, by decide +kernel, ⟨by decide +kernel, by decide +kernel⟩, (List.mem_of_getElem? (i := 141) rfl), fun _ => ⟨(List.mem_of_getElem? (i := 139) rfl), (List.mem_of_getElem? (i := 140) rfl)⟩, fun h => absurd h (by decide), fun h => absurd h (by decide)⟩
set_option maxRecDepth 100000 in
theorem mok_51 : MOK 51 := ⟨rfl, (List.mem_of_getElem? (i := 17) rfl), by decide +kernel, by decide +kernel, ⟨by decide +kernel, by decide +kernel⟩, (List.mem_of_getElem? (i := 45) rfl), fun h => absurd h (by decide), fun h => absurd h (by decide), fun _ => ⟨(List.mem_of_getElem? (i := 44) rfl), rfl⟩⟩
set_option maxRecDepth 100000 in
theorem mok_52 : MOK 52 := ⟨rfl, (List.mem_of_getElem? (i := 17) rfl), by decide +kernel, by decide +kernel, ⟨by decide +kernel, by decide +kernel⟩, (List.mem_of_getElem? (i := 558) rfl), fun _ => ⟨(List.mem_of_getElem? (i := 556) rfl), (List.mem_of_getElem? (i := 557) rfl)⟩, fun h => absurd h (by decide), fun h => absurd h (by decide)⟩
set_option maxRecDepth 100000 in
theorem mok_53 : MOK 53 := ⟨rfl, (List.mem_of_getElem? (i := 17) rfl), by decide +kernel, by decide +kernel, ⟨by decide +kernel, by decide +kernel⟩, (List.mem_of_getElem? (i := 285) rfl), fun _ => ⟨(List.mem_of_getElem? (i := 283) rfl), (List.mem_of_getElem? (i := 284) rfl)⟩, fun h => absurd h (by decide), fun h => absurd h (by decide)⟩
set_option maxRecDepth 100000 in
theorem mok_54 : MOK 54 := ⟨rfl, (List.mem_of_getElem? (i := 17) rfl), by decide +kernel, by decide +kernel, ⟨by decide +kernel, by decide +kernel⟩, (List.mem_of_getElem? (i := 397) rfl), fun _ => ⟨(List.mem_of_getElem? (i := 395) rfl), (List.mem_of_getElem? (i := 396) rfl)⟩, fun h => absurd h (by decide), fun h => absurd h (by decide)⟩
set_option maxRecDepth 100000 in
theorem mok_55 : MOK 55 := ⟨rfl, (List.mem_of_getElem? (i := 17) rfl), by decide +kernel, by decide +kernel, ⟨by decide +kernel, by decide +kernel⟩, (List.mem_of_getElem? (i := 352) rfl), fun _ => ⟨(List.mem_of_getElem? (i := 350) rfl), (List.mem_of_getElem? (i := 351) rfl)⟩, fun h => absurd h (by decide), fun h => absurd h (by decide)⟩
set_option maxRecDepth 100000 in
theorem mok_56 : MOK 56 := ⟨rfl, (List.mem_of_getElem? (i := 17) rfl), by decide +kernel, by decide +kernel, ⟨by decide +kernel, by decide +kernel⟩, (List.mem_of_getElem? (i := 371) rfl), fun _ => ⟨(List.mem_of_getElem? (i := 369) rfl), (List.mem_of_getElem? (i := 370) rfl)⟩, fun h => absurd h (by decide), fun h => absurd h (by decide)⟩
set_option maxRecDepth 100000 in
theorem mok_57 : MOK 57 := ⟨rfl, (List.mem_of_getElem? (i := 17) rfl), by decide +kernel, by decide +kernel, ⟨by decide +kernel, by decide +kernel⟩, (List.mem_of_getElem? (i := 387) rfl), fun _ => ⟨(List.mem_of_getElem? (i := 385) rfl), (List.mem_of_getElem? (i := 386) rfl)⟩, fun h => absurd h (by decide), fun h => absurd h (by decide)⟩
set_option maxRecDepth 100000 in
theorem mok_58 : MOK 58 := ⟨rfl, (List.mem_of_getElem? (i := 17) rfl), by decide +kernel, by decide +kernel, ⟨by decide +kernel, by decide +kernel⟩, (List.mem_of_getElem? (i := 213) rfl), fun _ => ⟨(List.mem_of_getElem? (i := 211) rfl), (List.mem_of_getElem? (i := 212) rfl)⟩, fun h => absurd h (by decide), fun h => absurd h (by decide)⟩
set_option maxRecDepth 100000 in
theorem mok_59 : MOK 59 := ⟨rfl, (List.mem_of_getElem? (i := 17) rfl), by decide +kernel, by decide +kernel, ⟨by decide +kernel, by decide +kernel⟩, (List.mem_of_getElem? (i := 226) rfl), fun _ => ⟨(List.mem_of_getElem? (i := 224) rfl), (List.mem_of_getElem? (i := 225) rfl)⟩, fun h => absurd h (by decide), fun h => absurd h (by decide)⟩
set_option maxRecDepth 100000 in
theorem mok_60 : MOK 60 := ⟨rfl, (List.mem_of_getElem? (i := 17) rfl), by decide +kernel, by decide +kernel, ⟨by decide +kernel, by decide +kernel⟩, (List.mem_of_getElem? (i := 134) rfl), fun _ => ⟨(List.mem_of_getElem? (i := 132) rfl), (List.mem_of_getElem? (i := 133) rfl)⟩, fun h => absurd h (by decide), fun h => absurd h (by decide)⟩
set_option maxRecDepth 100000 in
theorem mok_61 : MOK 61 := ⟨rfl, (List.mem_of_getElem? (i := 17) rfl), by decide +kernel, by decide +kernel, ⟨by decide +kernel, by decide +kernel⟩, (List.mem_of_getElem? (i := 130) rfl), fun _ => ⟨(List.mem_of_getElem? (i := 128) rfl), (List.mem_of_getElem? (i := 129) rfl)⟩, fun h => absurd h (by decide), fun h => absurd h (by decide)⟩
set_option maxRecDepth 100000 in
theorem mok_62 : MOK 62 := ⟨rfl, (List.mem_of_getElem? (i := 2) rfl), by decide +kernel, by decide +kernel, ⟨by decide +kernel, by decide +kernel⟩, (List.mem_of_getElem? (i := 9) rfl), fun h => absurd h (by decide), fun h => absurd h (by decide), fun _ => ⟨(List.mem_of_getElem? (i := 8) rfl), rfl⟩⟩
set_option maxRecDepth 100000 in
theorem mok_63 : MOK 63 := ⟨rfl, (List.mem_of_getElem? (i := 2) rfl), by decide +kernel, by decide +kernel, ⟨by decide +kernel, by decide +kernel⟩, (List.mem_of_getElem? (i := 328) rfl), fun _ => ⟨(List.mem_of_getElem? (i := 326) rfl), (List.mem_of_getElem? (i := 327) rfl)⟩, fun h => absurd h (by decide), fun h => absurd h (by decide)⟩
set_option maxRecDepth 100000 in
theorem mok_64 : MOK 64 := ⟨rfl, (List.mem_of_getElem? (i := 2) rfl), by decide +kernel, by decide +kernel, ⟨by decide +kernel, by decide +kernel⟩, (List.mem_of_getElem? (i := 543) rfl), fun _ => ⟨(List.mem_of_getElem? (i := 541) rfl), (List.mem_of_getElem? (i := 542) rfl)⟩, fun h => absurd h (by decide), fun h => absurd h (by decide)⟩
set_option maxRecDepth 100000 in
theorem mok_65 : MOK 65 := ⟨rfl, (List.mem_of_getElem? (i := 2) rfl), by decide +kernel, by decide +kernel, ⟨by decide +kernel, by decide +kernel⟩, (List.mem_of_getElem? (i := 551) rfl), fun _ => ⟨(List.mem_of_getElem? (i := 549) rfl), (List.mem_of_getElem? (i := 550) rfl)⟩, fun h => absurd h (by decide), fun h => absurd h (by decide)⟩
set_option maxRecDepth 100000 in
theorem mok_66 : MOK 66 := ⟨rfl, (List.mem_of_getElem? (i := 2) rfl), by decide +kernel, by decide +kernel, ⟨by decide +kernel, by decide +kernel⟩, (List.mem_of_getElem? (i := 336) rfl), fun _ => ⟨(List.mem_of_getElem? (i := 334) rfl), (List.mem_of_getElem? (i := 335) rfl)⟩, fun h => absurd h (by decide), fun h => absurd h (by decide)⟩
set_option maxRecDepth 100000 in
theorem mok_67 : MOK 67 := ⟨rfl, (List.mem_of_getElem? (i := 2) rfl), by decide +kernel, by decide +kernel, ⟨by decide +kernel, by decide +kernel⟩, (List.mem_of_getElem? (i := 368) rfl), fun _ => ⟨(List.mem_of_getElem? (i := 366) rfl), (List.mem_of_getElem? (i := 367) rfl)⟩, fun h => absurd h (by decide), fun h => absurd h (by decide)⟩
set_option maxRecDepth 100000 in
theorem mok_68 : MOK 68 := ⟨rfl, (List.mem_of_getElem? (i := 2) rfl), by decide +kernel, by decide +kernel, ⟨by decide +kernel, by decide +kernel⟩, (List.mem_of_getElem? (i := 384) rfl), fun _ => ⟨(List.mem_of_getElem? (i := 382) rfl), (List.mem_of_getElem? (i := 383) rfl)⟩, fun h => absurd h (by decide), fun h => absurd h (by decide)⟩
set_option maxRecDepth 100000 in
theorem mok_69 : MOK 69 := ⟨rfl, (List.mem_of_getElem? (i := 2) rfl), by decide +kernel, by decide +kernel, ⟨by decide +kernel, by decide +kernel⟩, (List.mem_of_getElem? (i := 394) rfl), fun _ => ⟨(List.mem_of_getElem? (i := 392) rfl), (List.mem_of_getElem? (i := 393) rfl)⟩, fun h => absurd h (by decide), fun h => absurd h (by decide)⟩
set_option maxRecDepth 100000 in
theorem mok_70 : MOK 70 := ⟨rfl, (List.mem_of_getElem? (i := 2) rfl), by decide +kernel, by decide +kernel, ⟨by decide +kernel, by decide +kernel⟩, (List.mem_of_getElem? (i := 404) rfl), fun _ => ⟨(List.mem_of_getElem? (i := 402) rfl), (List.mem_of_getElem? (i := 403) rfl)⟩, fun h => absurd h (by decide), fun h => absurd h (by decide)⟩
set_option maxRecDepth 100000 in
theorem mok_71 : MOK 71 := ⟨rfl, (List.mem_of_getElem? (i := 2) rfl), by decide +kernel, by decide +kernel, ⟨by decide +kernel, by decide +kernel⟩, (List.mem_of_getElem? (i := 411) rfl), fun _ => ⟨(List.mem_of_getElem? (i := 409) rfl), (List.mem_of_getElem? (i := 410) rfl)⟩, fun h => absurd h (by decide), fun h => absurd h (by decide)⟩
set_option maxRecDepth 100000 in
theorem mok_72 : MOK 72 := ⟨rfl, (List.mem_of_getElem? (i := 2) rfl), by decide +kernel, by decide +kernel, ⟨by decide +kernel, by decide +kernel⟩, (List.mem_of_getElem? (i := 200) rfl), fun _ => ⟨(List.mem_of_getElem? (i := 198) rfl), (List.mem_of_getElem? (i := 199) rfl)⟩, fun h => absurd h (by decide), fun h => absurd h (by decide)⟩
set_option maxRecDepth 100000 in
theorem mok_73 : MOK 73 := ⟨rfl, (List.mem_of_getElem? (i := 2) rfl), by decide +kernel, by decide +kernel, ⟨by decide +kernel, by decide +kernel⟩, (List.mem_of_getElem? (i := 248) rfl), fun _ => ⟨(List.mem_of_getElem? (i := 246) rfl), (List.mem_of_getElem? (i := 247) rfl)⟩, fun h => absurd h (by decide), fun h => absurd h (by decide)⟩
set_option maxRecDepth 100000 in
theorem mok_74 : MOK 74 := ⟨rfl, (List.mem_of_getElem? (i := 2) rfl), by decide +kernel, by decide +kernel, ⟨by decide +kernel, by decide +kernel⟩, (List.mem_of_getElem? (i := 270) rfl), fun _ => ⟨(List.mem_of_getElem? (i := 268) rfl), (List.mem_of_getElem? (i := 269) rfl)⟩, fun h => absurd h (by decide), fun h => absurd h (by decide)⟩
set_option maxRecDepth 100000 in
theorem mok_75 : MOK 75 := ⟨rfl, (List.mem_of_getElem? (i := 2) rfl), by decide +kernel, by decide +kernel, ⟨by decide +kernel, by decide +kernel⟩, (List.mem_of_getElem? (i := 278) rfl), fun _ => ⟨(List.mem_of_getElem? (i := 276) rfl), (List.mem_of_getElem? (i := 277) rfl)⟩, fun h => absurd h (by decide), fun h => absurd h (by decide)⟩
set_option maxRecDepth 100000 in
theorem mok_76 : MOK 76 := ⟨rfl, (List.mem_of_getElem? (i := 2) rfl), by decide +kernel, by decide +kernel, ⟨by decide +kernel, by decide +kernel⟩, (List.mem_of_getElem? (i := 321) rfl), fun _ => ⟨(List.mem_of_getElem? (i := 319) rfl), (List.mem_of_getElem? (i := 320) rfl)⟩, fun h => absurd h (by decide), fun h => absurd h (by decide)⟩
set_option maxRecDepth 100000 in
theorem mok_77 : MOK 77 := ⟨rfl, (List.mem_of_getElem? (i := 2) rfl), by decide +kernel, by decide +kernel, ⟨by decide +kernel, by decide +kernel⟩, (List.mem_of_getElem? (i := 421) rfl), fun _ => ⟨(List.mem_of_getElem? (i := 419) rfl), (List.mem_of_getElem? (i := 420) rfl)⟩, fun h => absurd h (by decide), fun h => absurd h (by decide)⟩
set_option maxRecDepth 100000 in
theorem mok_78 : MOK 78 := ⟨rfl, (List.mem_of_getElem? (i := 2) rfl), by decide +kernel, by decide +kernel, ⟨by decide +kernel, by decide +kernel⟩, (List.mem_of_getElem? (i := 431) rfl), fun _ => ⟨(List.mem_of_getElem? (i := 429) rfl), (List.mem_of_getElem? (i := 430) rfl)⟩, fun h => absurd h (by decide), fun h => absurd h (by decide)⟩
set_option maxRecDepth 100000 in
theorem mok_79 : MOK 79 := ⟨rfl, (List.mem_of_getElem? (i := 2) rfl), by decide +kernel, by decide +kernel, ⟨by decide +kernel, by decide +kernel⟩, (List.mem_of_getElem? (i := 532) rfl), fun _ => ⟨(List.mem_of_getElem? (i := 530) rfl), (List.mem_of_getElem? (i := 531) rfl)⟩, fun h => absurd h (by decide), fun h => absurd h (by decide)⟩
set_option maxRecDepth 100000 in
theorem mok_80 : MOK 80 := ⟨rfl, (List.mem_of_getElem? (i := 2) rfl), by decide +kernel, by decide +kernel, ⟨by decide +kernel, by decide +kernel⟩, (List.mem_of_getElem? (i := 503) rfl), fun _ => ⟨(List.mem_of_getElem? (i := 501) rfl), (List.mem_of_getElem? (i := 502) rfl)⟩, fun h => absurd h (by decide), fun h => absurd h (by decide)⟩
set_option maxRecDepth 100000 in
theorem mok_81 : MOK 81 := ⟨rfl, (List.mem_of_getElem? (i := 2) rfl), by decide +kernel, by decide +kernel, ⟨by decide +kernel, by decide +kernel⟩, (List.mem_of_getElem? (i := 438) rfl), fun _ => ⟨(List.mem_of_getElem? (i := 436) rfl), (List.mem_of_getElem? (i := 437) rfl)⟩, fun h => absurd h (by decide), fun h => absurd h (by decide)⟩
set_option maxRecDepth 100000 in
theorem mok_82 : MOK 82 := ⟨rfl, (List.mem_of_getElem? (i := 2) rfl), by decide +kernel, by decide +kernel, ⟨by decide +kernel, by decide +kernel⟩, (List.mem_of_getElem? (i := 446) rfl), fun _ => ⟨(List.mem_of_getElem? (i := 444) rfl), (List.mem_of_getElem? (i := 445) rfl)⟩, fun h => absurd h (by decide), fun h => absurd h (by decide)⟩
set_option maxRecDepth 100000 in
theorem mok_83 : MOK 83 := ⟨rfl, (List.mem_of_getElem? (i := 2) rfl), by decide +kernel, by decide +kernel, ⟨by decide +kernel, by decide +kernel⟩, (List.mem_of_getElem? (i := 528) rfl), fun _ => ⟨(List.mem_of_getElem? (i := 526) rfl), (List.mem_of_getElem? (i := 527) rfl)⟩, fun h => absurd h (by decide), fun h => absurd h (by decide)⟩
set_option maxRecDepth 100000 in
theorem mok_84 : MOK 84 := ⟨rfl, (List.mem_of_getElem? (i := 2) rfl), by decide +kernel, by decide +kernel, ⟨by decide +kernel, by decide +kernel⟩, (List.mem_of_getElem? (i := 474) rfl), fun _ => ⟨(List.mem_of_getElem? (i := 472) rfl), (List.mem_of_getElem? (i := 473) rfl)⟩, fun h => absurd h (by decide), fun h => absurd h (by decide)⟩
set_option maxRecDepth 100000 in
theorem mok_85 : MOK 85 := ⟨rfl, (List.mem_of_getElem? (i := 2) rfl), by decide +kernel, by decide +kernel, ⟨by decide +kernel, by decide +kernel⟩, (List.mem_of_getElem? (i := 580) rfl), fun _ => ⟨(List.mem_of_getElem? (i := 578) rfl), (List.mem_of_getElem? (i := 579) rfl)⟩, fun h => absurd h (by decide), fun h => absurd h (by decide)⟩
set_option maxRecDepth 100000 in
theorem mok_86 : MOK 86 := ⟨rfl, (List.mem_of_getElem? (i := 2) rfl), by decide +kernel, by decide +kernel, ⟨by decide +kernel, by decide +kernel⟩, (List.mem_of_getElem? (i := 121) rfl), fun _ => ⟨(List.mem_of_getElem? (i := 119) rfl), (List.mem_of_getElem? (i := 120) rfl)⟩, fun h => absurd h (by decide), fun h => absurd h (by decide)⟩
set_option maxRecDepth 100000 in
theorem mok_87 : MOK 87 := ⟨rfl, (List.mem_of_getElem? (i := 2) rfl), by decide +kernel, by decide +kernel, ⟨by decide +kernel, by decide +kernel⟩, (List.mem_of_getElem? (i := 555) rfl), fun _ => ⟨(List.mem_of_getElem? (i := 553) rfl), (List.mem_of_getElem? (i := 554) rfl)⟩, fun h => absurd h (by decide), fun h => absurd h (by decide)⟩
set_option maxRecDepth 100000 in
theorem mok_88 : MOK 88 := ⟨rfl, (List.mem_of_getElem? (i := 2) rfl), by decide +kernel, by decide +kernel, ⟨by decide +kernel, by decide +kernel⟩, (List.mem_of_getElem? (i := 561) rfl), fun h => absurd h (by decide), fun _ => (List.mem_of_getElem? (i := 560) rfl), fun h => absurd h (by decide)⟩
set_option maxRecDepth 100000 in
theorem mok_89 : MOK 89 := ⟨rfl, (List.mem_of_getElem? (i := 2) rfl), by decide +kernel, by decide +kernel, ⟨by decide +kernel, by decide +kernel⟩, (List.mem_of_getElem? (i := 564) rfl), fun h => absurd h (by decide), fun _ => (List.mem_of_getElem? (i := 563) rfl), fun h => absurd h (by decide)⟩
set_option maxRecDepth 100000 in
theorem mok_90 : MOK 90 := ⟨rfl, (List.mem_of_getElem? (i := 2) rfl), by decide +kernel, by decide +kernel, ⟨by decide +kernel, by decide +kernel⟩, (List.mem_of_getElem? (i := 206) rfl), fun _ => ⟨(List.mem_of_getElem? (i := 204) rfl), (List.mem_of_getElem? (i := 205) rfl)⟩, fun h => absurd h (by decide), fun h => absurd h (by decide)⟩
set_option maxRecDepth 100000 in
theorem mok_91 : MOK 91 := ⟨rfl, (List.mem_of_getElem? (i := 2) rfl), by decide +kernel, by decide +kernel, ⟨by decide +kernel, by decide +kernel⟩, (List.mem_of_getElem? (i := 210) rfl), fun _ => ⟨(List.mem_of_getElem? (i := 208) rfl), (List.mem_of_getElem? (i := 209) rfl)⟩, fun h => absurd h (by decide), fun h => absurd h (by decide)⟩
set_option maxRecDepth 100000 in
theorem mok_92 : MOK 92 := ⟨rfl, (List.mem_of_getElem? (i := 2) rfl), by decide +kernel, by decide +kernel, ⟨by decide +kernel, by decide +kernel⟩, (List.mem_of_getElem? (i := 223) rfl), fun _ => ⟨(List.mem_of_getElem? (i := 221) rfl), (List.mem_of_getElem? (i := 222) rfl)⟩, fun h => absurd h (by decide), fun h => absurd h (by decide)⟩
set_option maxRecDepth 100000 in
theorem mok_93 : MOK 93 := ⟨rfl, (List.mem_of_getElem? (i := 2) rfl), by decide +kernel, by decide +kernel, ⟨by decide +kernel, by decide +kernel⟩, (List.mem_of_getElem? (i := 254) rfl), fun _ => ⟨(List.mem_of_getElem? (i := 252) rfl), (List.mem_of_getElem? (i := 253) rfl)⟩, fun h => absurd h (by decide), fun h => absurd h (by decide)⟩
set_option maxRecDepth 100000 in
theorem mok_94 : MOK 94 := ⟨rfl, (List.mem_of_getElem? (i := 2) rfl), by decide +kernel, by decide +kernel, ⟨by decide +kernel, by decide +kernel⟩, (List.mem_of_getElem? (i := 282) rfl), fun _ => ⟨(List.mem_of_getElem? (i := 280) rfl), (List.mem_of_getElem? (i := 281) rfl)⟩, fun h => absurd h (by decide), fun h => absurd h (by decide)⟩
set_option maxRecDepth 100000 in
theorem mok_95 : MOK 95 := ⟨rfl, (List.mem_of_getElem? (i := 2) rfl), by decide +kernel, by decide +kernel, ⟨by decide +kernel, by decide +kernel⟩, (List.mem_of_getElem? (i := 308) rfl), fun _ => ⟨(List.mem_of_getElem? (i := 306) rfl), (List.mem_of_getElem? (i := 307) rfl)⟩, fun h => absurd h (by decide), fun h => absurd h (by decide)⟩
set_option maxRecDepth 100000 in
theorem mok_96 : MOK 96 := ⟨rfl, (List.mem_of_getElem? (i := 2) rfl), by decide +kernel, by decide +kernel, ⟨by decide +kernel, by decide +kernel⟩, (List.mem_of_getElem? (i := 289) rfl), fun _ => ⟨(List.mem_of_getElem? (i := 287) rfl), (List.mem_of_getElem? (i := 288) rfl)⟩, fun h => absurd h (by decide), fun h => absurd h (by decide)⟩
set_option maxRecDepth 100000 in
theorem mok_97 : MOK 97 := ⟨rfl, (List.mem_of_getElem? (i := 2) rfl), by decide +kernel, by decide +kernel, ⟨by decide +kernel, by decide +kernel⟩, (List.mem_of_getElem? (i := 233) rfl), fun _ => ⟨(List.mem_of_getElem? (i := 231) rfl), (List.mem_of_getElem? (i := 232) rfl)⟩, fun h => absurd h (by decide), fun h => absurd h (by decide)⟩
set_option maxRecDepth 100000 in
theorem mok_98 : MOK 98 := ⟨rfl, (List.mem_of_getElem? (i := 2) rfl), by decide +kernel, by decide +kernel, ⟨by decide +kernel, by decide +kernel⟩, (List.mem_of_getElem? (i := 507) rfl), fun _ => ⟨(List.mem_of_getElem? (i := 505) rfl), (List.mem_of_getElem? (i := 506) rfl)⟩, fun h => absurd h (by decide), fun h => absurd h (by decide)⟩
set_option maxRecDepth 100000 in
theorem mok_99 : MOK 99 := ⟨rfl, (List.mem_of_getElem? (i := 2) rfl), by decide +kernel, by decide +kernel, ⟨by decide +kernel, by decide +kernel⟩, (List.mem_of_getElem? (i := 521) rfl), fun _ => ⟨(List.mem_of_getElem? (i := 519) rfl), (List.mem_of_getElem? (i := 520) rfl)⟩, fun h => absurd h (by decide), fun h => absurd h (by decide)⟩
set_option maxRecDepth 100000 in
theorem mok_100 : MOK 100 := ⟨rfl, (List.mem_of_getElem? (i := 2) rfl), by decide +kernel, by decide +kernel, ⟨by decide +kernel, by decide +kernel⟩, (List.mem_of_getElem? (i := 510) rfl), fun h => absurd h (by decide), fun _ => (List.mem_of_getElem? (i := 509) rfl), fun h => absurd h (by decide)⟩
set_option maxRecDepth 100000 in
theorem mok_101 : MOK 101 := ⟨rfl, (List.mem_of_getElem? (i := 2) rfl), by decide +kernel, by decide +kernel, ⟨by decide +kernel, by decide +kernel⟩, (List.mem_of_getElem? (i := 229) rfl), fun h => absurd h (by decide), fun _ => (List.mem_of_getElem? (i := 228) rfl), fun h => absurd h (by decide)⟩
set_option maxRecDepth 100000 in
theorem mok_102 : MOK 102 := ⟨rfl, (List.mem_of_getElem? (i := 2) rfl), by decide +kernel, by decide +kernel, ⟨by decide +kernel, by decide +kernel⟩, (List.mem_of_getElem? (i := 263) rfl), fun h => absurd h (by decide), fun _ => (List.mem_of_getElem? (i := 262) rfl), fun h => absurd h (by decide)⟩
set_option maxRecDepth 100000 in
theorem mok_103 : MOK 103 := ⟨rfl, (List.mem_of_getElem? (i := 2) rfl), by decide +kernel, by decide +kernel, ⟨by decide +kernel, by decide +kernel⟩, (List.mem_of_getElem? (i := 173) rfl), fun h => absurd h (by decide), fun _ => (List.mem_of_getElem? (i := 172) rfl), fun h => absurd h (by decide)⟩
set_option maxRecDepth 100000 in
theorem mok_104 : MOK 104 := ⟨rfl, (List.mem_of_getElem? (i := 2) rfl), by decide +kernel, by decide +kernel, ⟨by decide +kernel, by decide +kernel⟩, (List.mem_of_getElem? (i := 183) rfl), fun h => absurd h (by decide), fun _ => (List.mem_of_getElem? (i := 182) rfl), fun h => absurd h (by decide)⟩
set_option maxRecDepth 100000 in
theorem mok_105 : MOK 105 := ⟨rfl, (List.mem_of_getElem? (i := 513) rfl), by decide +kernel, by decide +kernel, ⟨by decide +kernel, by decide +kernel⟩, (List.mem_of_getElem? (i := 514) rfl), fun h => absurd h (by decide), fun _ => (List.mem_of_getElem? (i := 512) rfl), fun h => absurd h (by decide)⟩
set_option maxRecDepth 100000 in
theorem mok_106 : MOK 106 := ⟨rfl, (List.mem_of_getElem? (i := 76) rfl), by decide +kernel, by decide +kernel, ⟨by decide +kernel, by decide +kernel⟩, (List.mem_of_getElem? (i := 77) rfl), fun h => absurd h (by decide), fun _ => (List.mem_of_getElem? (i := 75) rfl), fun h => absurd h (by decide)⟩
set_option maxRecDepth 100000 in
theorem mok_107 : MOK 107 := ⟨rfl, (List.mem_of_getElem? (i := 115) rfl), by decide +kernel, by decide +kernel, ⟨by decide +kernel, by decide +kernel⟩, (List.mem_of_getElem? (i := 535) rfl), fun h => absurd h (by decide), fun _ => (List.mem_of_getElem? (i := 534) rfl), fun h => absurd h (by decide)⟩
set_option maxRecDepth 100000 in
theorem mok_108 : MOK 108 := ⟨rfl, (List.mem_of_getElem? (i := 115) rfl), by decide +kernel, by decide +kernel, ⟨by decide +kernel, by decide +kernel⟩, (List.mem_of_getElem? (i := 546) rfl), fun h => absurd h (by decide), fun _ => (List.mem_of_getElem? (i := 545) rfl), fun h => absurd h (by decide)⟩
set_option maxRecDepth 100000 in
theorem mok_109 : MOK 109 := ⟨rfl, (List.mem_of_getElem? (i := 115) rfl), by decide +kernel, by decide +kernel, ⟨by decide +kernel, by decide +kernel⟩, (List.mem_of_getElem? (i := 190) rfl), fun h => absurd h (by decide), fun _ => (List.mem_of_getElem? (i := 189) rfl), fun h => absurd h (by decide)⟩
set_option maxRecDepth 100000 in
theorem mok_110 : MOK 110 := ⟨rfl, (List.mem_of_getElem? (i := 115) rfl), by decide +kernel, by decide +kernel, ⟨by decide +kernel, by decide +kernel⟩, (List.mem_of_getElem? (i := 187) rfl), fun h => absurd h (by decide), fun _ => (List.mem_of_getElem? (i := 186) rfl), fun h => absurd h (by decide)⟩
set_option maxRecDepth 100000 in
theorem mok_111 : MOK 111 := ⟨rfl, (List.mem_of_getElem? (i := 115) rfl), by decide +kernel, by decide +kernel, ⟨by decide +kernel, by decide +kernel⟩, (List.mem_of_getElem? (i := 573) rfl), fun h => absurd h (by decide), fun _ => (List.mem_of_getElem? (i := 572) rfl), fun h => absurd h (by decide)⟩
set_option maxRecDepth 100000 in
theorem mok_112 : MOK 112 := ⟨rfl, (List.mem_of_getElem? (i := 115) rfl), by decide +kernel, by decide +kernel, ⟨by decide +kernel, by decide +kernel⟩, (List.mem_of_getElem? (i := 570) rfl), fun h => absurd h (by decide), fun _ => (List.mem_of_getElem? (i := 569) rfl), fun h => absurd h (by decide)⟩
set_option maxRecDepth 100000 in
theorem mok_113 : MOK 113 := ⟨rfl, (List.mem_of_getElem? (i := 115) rfl), by decide +kernel, by decide +kernel, ⟨by decide +kernel, by decide +kernel⟩, (List.mem_of_getElem? (i := 576) rfl), fun h => absurd h (by decide), fun _ => (List.mem_of_getElem? (i := 575) rfl), fun h => absurd h (by decide)⟩
set_option maxRecDepth 100000 in
theorem mok_114 : MOK 114 := ⟨rfl, (List.mem_of_getElem? (i := 115) rfl), by decide +kernel, by decide +kernel, ⟨by decide +kernel, by decide +kernel⟩, (List.mem_of_getElem? (i := 583) rfl), fun h => absurd h (by decide), fun _ => (List.mem_of_getElem? (i := 582) rfl), fun h => absurd h (by decide)⟩
set_option maxRecDepth 100000 in
theorem mok_115 : MOK 115 := ⟨rfl, (List.mem_of_getElem? (i := 115) rfl), by decide +kernel, by decide +kernel, ⟨by decide +kernel, by decide +kernel⟩, (List.mem_of_getElem? (i := 499) rfl), fun h => absurd h (by decide), fun _ => (List.mem_of_getElem? (i := 498) rfl), fun h => absurd h (by decide)⟩
set_option maxRecDepth 100000 in
theorem mok_116 : MOK 116 := ⟨rfl, (List.mem_of_getElem? (i := 115) rfl), by decide +kernel, by decide +kernel, ⟨by decide +kernel, by decide +kernel⟩, (List.mem_of_getElem? (i := 524) rfl), fun h => absurd h (by decide), fun _ => (List.mem_of_getElem? (i := 523) rfl), fun h => absurd h (by decide)⟩
set_option maxRecDepth 100000 in
theorem mok_117 : MOK 117 := ⟨rfl, (List.mem_of_getElem? (i := 115) rfl), by decide +kernel, by decide +kernel, ⟨by decide +kernel, by decide +kernel⟩, (List.mem_of_getElem? (i := 589) rfl), fun h => absurd h (by decide), fun _ => (List.mem_of_getElem? (i := 588) rfl), fun h => absurd h (by decide)⟩
set_option maxRecDepth 100000 in
theorem mok_118 : MOK 118 := ⟨rfl, (List.mem_of_getElem? (i := 115) rfl), by decide +kernel, by decide +kernel, ⟨by decide +kernel, by decide +kernel⟩, (List.mem_of_getElem? (i := 586) rfl), fun h => absurd h (by decide), fun _ => (List.mem_of_getElem? (i := 585) rfl), fun h => absurd h (by decide)⟩
set_option maxRecDepth 100000 in
theorem mok_119 : MOK 119 := ⟨rfl, (List.mem_of_getElem? (i := 115) rfl), by decide +kernel, by decide +kernel, ⟨by decide +kernel, by decide +kernel⟩, (List.mem_of_getElem? (i := 539) rfl), fun h => absurd h (by decide), fun _ => (List.mem_of_getElem? (i := 538) rfl), fun h => absurd h (by decide)⟩
set_option maxRecDepth 100000 in
theorem mok_120 : MOK 120 := ⟨rfl, (List.mem_of_getElem? (i := 115) rfl), by decide +kernel, by decide +kernel, ⟨by decide +kernel, by decide +kernel⟩, (List.mem_of_getElem? (i := 567) rfl), fun h => absurd h (by decide), fun _ => (List.mem_of_getElem? (i := 566) rfl), fun h => absurd h (by decide)⟩
theorem mokC_20 : ∀ a, a < 20 → MOK a := lt_s (lt_s (lt_s (lt_s (lt_s (lt_s (lt_s (lt_s (lt_s (lt_s (lt_s (lt_s (lt_s (lt_s (lt_s (lt_s (lt_s (lt_s (lt_s (lt_s (lt_0) (mok_0)) (mok_1)) (mok_2)) (mok_3)) (mok_4)) (mok_5)) (mok_6)) (mok_7)) (mok_8)) (mok_9)) (mok_10)) (mok_11)) (mok_12)) (mok_13)) (mok_14)) (mok_15)) (mok_16)) (mok_17)) (mok_18)) (mok_19)
theorem mokC_40 : ∀ a, a < 40 → MOK a := lt_s (lt_s (lt_s (lt_s (lt_s (lt_s (lt_s (lt_s (lt_s (lt_s (lt_s (lt_s (lt_s (lt_s (lt_s (lt_s (lt_s (lt_s (lt_s (lt_s (mokC_20) (mok_20)) (mok_21)) (mok_22)) (mok_23)) (mok_24)) (mok_25)) (mok_26)) (mok_27)) (mok_28)) (mok_29)) (mok_30)) (mok_31)) (mok_32)) (mok_33)) (mok_34)) (mok_35)) (mok_36)) (mok_37)) (mok_38)) (mok_39)
theorem mokC_60 : ∀ a, a < 60 → MOK a := lt_s (lt_s (lt_s (lt_s (lt_s (lt_s (lt_s (lt_s (lt_s (lt_s (lt_s (lt_s (lt_s (lt_s (lt_s (lt_s (lt_s (lt_s (lt_s (lt_s (mokC_40) (mok_40)) (mok_41)) (mok_42)) (mok_43)) (mok_44)) (mok_45)) (mok_46)) (mok_47)) (mok_48)) (mok_49)) (mok_50)) (mok_51)) (mok_52)) (mok_53)) (mok_54)) (mok_55)) (mok_56)) (mok_57)) (mok_58)) (mok_59)
theorem mokC_80 : ∀ a, a < 80 → MOK a := lt_s (lt_s (lt_s (lt_s (lt_s (lt_s (lt_s (lt_s (lt_s (lt_s (lt_s (lt_s (lt_s (lt_s (lt_s (lt_s (lt_s (lt_s (lt_s (lt_s (mokC_60) (mok_60)) (mok_61)) (mok_62)) (mok_63)) (mok_64)) (mok_65)) (mok_66)) (mok_67)) (mok_68)) (mok_69)) (mok_70)) (mok_71)) (mok_72)) (mok_73)) (mok_74)) (mok_75)) (mok_76)) (mok_77)) (mok_78)) (mok_79)
theorem mokC_100 : ∀ a, a < 100 → MOK a := lt_s (lt_s (lt_s (lt_s (lt_s (lt_s (lt_s (lt_s (lt_s (lt_s (lt_s (lt_s (lt_s (lt_s (lt_s (lt_s (lt_s (lt_s (lt_s (lt_s (mokC_80) (mok_80)) (mok_81)) (mok_82)) (mok_83)) (mok_84)) (mok_85)) (mok_86)) (mok_87)) (mok_88)) (mok_89)) (mok_90)) (mok_91)) (mok_92)) (mok_93)) (mok_94)) (mok_95)) (mok_96)) (mok_97)) (mok_98)) (mok_99)
theorem mokC_120 : ∀ a, a < 120 → MOK a := lt_s (lt_s (lt_s (lt_s (lt_s (lt_s (lt_s (lt_s (lt_s (lt_s (lt_s (lt_s (lt_s (lt_s (lt_s (lt_s (lt_s (lt_s (lt_s (lt_s (mokC_100) (mok_100)) (mok_101)) (mok_102)) (mok_103)) (mok_104)) (mok_105)) (mok_106)) (mok_107)) (mok_108)) (mok_109)) (mok_110)) (mok_111)) (mok_112)) (mok_113)) (mok_114)) (mok_115)) (mok_116)) (mok_117)) (mok_118)) (mok_119)
theorem mokC_121 : ∀ a, a < 121 → MOK a := lt_s (mokC_120) (mok_120)
theorem mok : ∀ a, a < 121 → MOK a := mokC_121
def hhs (k : Nat) : List (Nat × Nat × Nat × Nat) := match k with
  | 121 => [(0, 6, 9, 15), (0, 6, 13, 18)]
  | 122 => [(0, 9, 12, 25), (0, 9, 17, 15), (0, 9, 22, 18)]
  | 123 => [(0, 6, 9, 25)]
  | 124 => [(0, 6, 9, 25)]
  | 125 => [(0, 7, 10, 25), (0, 7, 15, 15)]
  | 126 => [(0, 7, 10, 15)]
  | 127 => [(0, 6, 9, 25)]
  | 128 => [(0, 6, 9, 15)]
  | 129 => [(0, 7, 10, 25), (0, 7, 15, 15)]
  | 130 => [(0, 9, 12, 25)]
  | 131 => [(0, 7, 10, 25), (0, 7, 15, 15)]
  | 132 => [(0, 7, 10, 25)]
  | 133 => [(0, 7, 10, 25)]
  | 134 => [(0, 6, 9, 25), (0, 6, 13, 18)]
  | 135 => [(0, 6, 9, 25)]
  | 136 => [(0, 6, 9, 25), (0, 6, 13, 18)]
  | 137 => [(0, 7, 10, 15)]
  | 138 => [(0, 5, 8, 18)]
  | _ => []
def WOK (k : Nat) : Prop := (MN k).cls = RC (mcl k) ∧ Cond.initialized (RC (mcl k)) ∈ wsL_law ∧ (parseMethodDescriptor (MN k).desc).map (fun d => d.parameters.length) = some (mar k) ∧ plainName (MN k).cls = true ∧ ((MN k).cls ≠ "java/lang/invoke/MethodHandle" ∧ (MN k).cls ≠ "java/lang/invoke/VarHandle") ∧ Cond.codeWith (MN k) (MB k) (mml k) (MR k) (hhs k) ∈ wsL_law ∧ Cond.static (MN k) ∈ wsL_law
set_option maxRecDepth 100000 in
theorem wok_121 : WOK 121 := ⟨rfl, (List.mem_of_getElem? (i := 115) rfl), by decide +kernel, by decide +kernel, ⟨by decide +kernel, by decide +kernel⟩, (List.mem_of_getElem? (i := 324) rfl), (List.mem_of_getElem? (i := 323) rfl)⟩
set_option maxRecDepth 100000 in
theorem wok_122 : WOK 122 := ⟨rfl, (List.mem_of_getElem? (i := 115) rfl), by decide +kernel, by decide +kernel, ⟨by decide +kernel, by decide +kernel⟩, (List.mem_of_getElem? (i := 332) rfl), (List.mem_of_getElem? (i := 331) rfl)⟩
set_option maxRecDepth 100000 in
theorem wok_123 : WOK 123 := ⟨rfl, (List.mem_of_getElem? (i := 115) rfl), by decide +kernel, by decide +kernel, ⟨by decide +kernel, by decide +kernel⟩, (List.mem_of_getElem? (i := 364) rfl), (List.mem_of_getElem? (i := 363) rfl)⟩
set_option maxRecDepth 100000 in
theorem wok_124 : WOK 124 := ⟨rfl, (List.mem_of_getElem? (i := 115) rfl), by decide +kernel, by decide +kernel, ⟨by decide +kernel, by decide +kernel⟩, (List.mem_of_getElem? (i := 380) rfl), (List.mem_of_getElem? (i := 379) rfl)⟩
set_option maxRecDepth 100000 in
theorem wok_125 : WOK 125 := ⟨rfl, (List.mem_of_getElem? (i := 115) rfl), by decide +kernel, by decide +kernel, ⟨by decide +kernel, by decide +kernel⟩, (List.mem_of_getElem? (i := 390) rfl), (List.mem_of_getElem? (i := 389) rfl)⟩
set_option maxRecDepth 100000 in
theorem wok_126 : WOK 126 := ⟨rfl, (List.mem_of_getElem? (i := 115) rfl), by decide +kernel, by decide +kernel, ⟨by decide +kernel, by decide +kernel⟩, (List.mem_of_getElem? (i := 400) rfl), (List.mem_of_getElem? (i := 399) rfl)⟩
set_option maxRecDepth 100000 in
theorem wok_127 : WOK 127 := ⟨rfl, (List.mem_of_getElem? (i := 115) rfl), by decide +kernel, by decide +kernel, ⟨by decide +kernel, by decide +kernel⟩, (List.mem_of_getElem? (i := 407) rfl), (List.mem_of_getElem? (i := 406) rfl)⟩
set_option maxRecDepth 100000 in
theorem wok_128 : WOK 128 := ⟨rfl, (List.mem_of_getElem? (i := 115) rfl), by decide +kernel, by decide +kernel, ⟨by decide +kernel, by decide +kernel⟩, (List.mem_of_getElem? (i := 195) rfl), (List.mem_of_getElem? (i := 194) rfl)⟩
set_option maxRecDepth 100000 in
theorem wok_129 : WOK 129 := ⟨rfl, (List.mem_of_getElem? (i := 115) rfl), by decide +kernel, by decide +kernel, ⟨by decide +kernel, by decide +kernel⟩, (List.mem_of_getElem? (i := 243) rfl), (List.mem_of_getElem? (i := 242) rfl)⟩
set_option maxRecDepth 100000 in
theorem wok_130 : WOK 130 := ⟨rfl, (List.mem_of_getElem? (i := 115) rfl), by decide +kernel, by decide +kernel, ⟨by decide +kernel, by decide +kernel⟩, (List.mem_of_getElem? (i := 266) rfl), (List.mem_of_getElem? (i := 265) rfl)⟩
set_option maxRecDepth 100000 in
theorem wok_131 : WOK 131 := ⟨rfl, (List.mem_of_getElem? (i := 115) rfl), by decide +kernel, by decide +kernel, ⟨by decide +kernel, by decide +kernel⟩, (List.mem_of_getElem? (i := 274) rfl), (List.mem_of_getElem? (i := 273) rfl)⟩
set_option maxRecDepth 100000 in
theorem wok_132 : WOK 132 := ⟨rfl, (List.mem_of_getElem? (i := 115) rfl), by decide +kernel, by decide +kernel, ⟨by decide +kernel, by decide +kernel⟩, (List.mem_of_getElem? (i := 317) rfl), (List.mem_of_getElem? (i := 316) rfl)⟩
set_option maxRecDepth 100000 in
theorem wok_133 : WOK 133 := ⟨rfl, (List.mem_of_getElem? (i := 115) rfl), by decide +kernel, by decide +kernel, ⟨by decide +kernel, by decide +kernel⟩, (List.mem_of_getElem? (i := 417) rfl), (List.mem_of_getElem? (i := 416) rfl)⟩
set_option maxRecDepth 100000 in
theorem wok_134 : WOK 134 := ⟨rfl, (List.mem_of_getElem? (i := 115) rfl), by decide +kernel, by decide +kernel, ⟨by decide +kernel, by decide +kernel⟩, (List.mem_of_getElem? (i := 427) rfl), (List.mem_of_getElem? (i := 426) rfl)⟩
set_option maxRecDepth 100000 in
theorem wok_135 : WOK 135 := ⟨rfl, (List.mem_of_getElem? (i := 115) rfl), by decide +kernel, by decide +kernel, ⟨by decide +kernel, by decide +kernel⟩, (List.mem_of_getElem? (i := 434) rfl), (List.mem_of_getElem? (i := 433) rfl)⟩
set_option maxRecDepth 100000 in
theorem wok_136 : WOK 136 := ⟨rfl, (List.mem_of_getElem? (i := 115) rfl), by decide +kernel, by decide +kernel, ⟨by decide +kernel, by decide +kernel⟩, (List.mem_of_getElem? (i := 442) rfl), (List.mem_of_getElem? (i := 441) rfl)⟩
set_option maxRecDepth 100000 in
theorem wok_137 : WOK 137 := ⟨rfl, (List.mem_of_getElem? (i := 115) rfl), by decide +kernel, by decide +kernel, ⟨by decide +kernel, by decide +kernel⟩, (List.mem_of_getElem? (i := 470) rfl), (List.mem_of_getElem? (i := 469) rfl)⟩
set_option maxRecDepth 100000 in
theorem wok_138 : WOK 138 := ⟨rfl, (List.mem_of_getElem? (i := 115) rfl), by decide +kernel, by decide +kernel, ⟨by decide +kernel, by decide +kernel⟩, (List.mem_of_getElem? (i := 116) rfl), (List.mem_of_getElem? (i := 114) rfl)⟩
def LOK (o cp k : Nat) : Prop := Cond.methodLink (RC o) cp (MN k) ∈ wsL_law ∨ Cond.methodLinkNest (RC o) cp (MN k) "RubberStamps" ∈ NW
set_option maxRecDepth 100000 in
theorem lok_0_51 : LOK 0 11 51 := Or.inr (List.mem_of_getElem? (i := 73) rfl)
set_option maxRecDepth 100000 in
theorem lok_0_5 : LOK 0 20 5 := Or.inr (List.mem_of_getElem? (i := 74) rfl)
set_option maxRecDepth 100000 in
theorem lok_0_32 : LOK 0 27 32 := Or.inr (List.mem_of_getElem? (i := 75) rfl)
set_option maxRecDepth 100000 in
theorem lok_0_44 : LOK 0 49 44 := Or.inr (List.mem_of_getElem? (i := 76) rfl)
set_option maxRecDepth 100000 in
theorem lok_0_61 : LOK 0 55 61 := Or.inr (List.mem_of_getElem? (i := 77) rfl)
set_option maxRecDepth 100000 in
theorem lok_0_8 : LOK 0 59 8 := Or.inr (List.mem_of_getElem? (i := 78) rfl)
set_option maxRecDepth 100000 in
theorem lok_0_3 : LOK 0 62 3 := Or.inl (List.mem_of_getElem? (i := 482) rfl)
set_option maxRecDepth 100000 in
theorem lok_0_45 : LOK 0 72 45 := Or.inr (List.mem_of_getElem? (i := 79) rfl)
set_option maxRecDepth 100000 in
theorem lok_0_2 : LOK 0 76 2 := Or.inl (List.mem_of_getElem? (i := 486) rfl)
set_option maxRecDepth 100000 in
theorem lok_0_4 : LOK 0 80 4 := Or.inl (List.mem_of_getElem? (i := 493) rfl)
set_option maxRecDepth 100000 in
theorem lok_0_55 : LOK 0 84 55 := Or.inr (List.mem_of_getElem? (i := 80) rfl)
set_option maxRecDepth 100000 in
theorem lok_0_9 : LOK 0 88 9 := Or.inr (List.mem_of_getElem? (i := 81) rfl)
set_option maxRecDepth 100000 in
theorem lok_0_56 : LOK 0 92 56 := Or.inr (List.mem_of_getElem? (i := 82) rfl)
set_option maxRecDepth 100000 in
theorem lok_0_11 : LOK 0 96 11 := Or.inr (List.mem_of_getElem? (i := 83) rfl)
set_option maxRecDepth 100000 in
theorem lok_0_59 : LOK 0 103 59 := Or.inr (List.mem_of_getElem? (i := 71) rfl)
set_option maxRecDepth 100000 in
theorem lok_0_33 : LOK 0 107 33 := Or.inr (List.mem_of_getElem? (i := 72) rfl)
set_option maxRecDepth 100000 in
theorem lok_1_6 : LOK 1 15 6 := Or.inl (List.mem_of_getElem? (i := 166) rfl)
set_option maxRecDepth 100000 in
theorem lok_1_106 : LOK 1 19 106 := Or.inl (List.mem_of_getElem? (i := 154) rfl)
set_option maxRecDepth 100000 in
theorem lok_1_9 : LOK 1 37 9 := Or.inl (List.mem_of_getElem? (i := 155) rfl)
set_option maxRecDepth 100000 in
theorem lok_1_45 : LOK 1 41 45 := Or.inr (List.mem_of_getElem? (i := 84) rfl)
set_option maxRecDepth 100000 in
theorem lok_1_10 : LOK 1 48 10 := Or.inl (List.mem_of_getElem? (i := 169) rfl)
set_option maxRecDepth 100000 in
theorem lok_1_103 : LOK 1 52 103 := Or.inr (List.mem_of_getElem? (i := 85) rfl)
set_option maxRecDepth 100000 in
theorem lok_1_46 : LOK 1 56 46 := Or.inr (List.mem_of_getElem? (i := 86) rfl)
set_option maxRecDepth 100000 in
theorem lok_1_101 : LOK 1 60 101 := Or.inr (List.mem_of_getElem? (i := 87) rfl)
set_option maxRecDepth 100000 in
theorem lok_2_51 : LOK 2 17 51 := Or.inr (List.mem_of_getElem? (i := 88) rfl)
set_option maxRecDepth 100000 in
theorem lok_2_14 : LOK 2 22 14 := Or.inl (List.mem_of_getElem? (i := 346) rfl)
set_option maxRecDepth 100000 in
theorem lok_2_61 : LOK 2 25 61 := Or.inr (List.mem_of_getElem? (i := 89) rfl)
set_option maxRecDepth 100000 in
theorem lok_3_106 : LOK 3 21 106 := Or.inl (List.mem_of_getElem? (i := 74) rfl)
set_option maxRecDepth 100000 in
theorem lok_3_17 : LOK 3 27 17 := Or.inl (List.mem_of_getElem? (i := 217) rfl)
set_option maxRecDepth 100000 in
theorem lok_4_16 : LOK 4 33 16 := Or.inr (List.mem_of_getElem? (i := 91) rfl)
set_option maxRecDepth 100000 in
theorem lok_4_32 : LOK 4 34 32 := Or.inr (List.mem_of_getElem? (i := 92) rfl)
set_option maxRecDepth 100000 in
theorem lok_4_106 : LOK 4 35 106 := Or.inl (List.mem_of_getElem? (i := 452) rfl)
set_option maxRecDepth 100000 in
theorem lok_4_25 : LOK 4 54 25 := Or.inr (List.mem_of_getElem? (i := 93) rfl)
set_option maxRecDepth 100000 in
theorem lok_4_29 : LOK 4 58 29 := Or.inl (List.mem_of_getElem? (i := 453) rfl)
set_option maxRecDepth 100000 in
theorem lok_4_31 : LOK 4 74 31 := Or.inl (List.mem_of_getElem? (i := 456) rfl)
set_option maxRecDepth 100000 in
theorem lok_4_30 : LOK 4 78 30 := Or.inl (List.mem_of_getElem? (i := 461) rfl)
set_option maxRecDepth 100000 in
theorem lok_4_59 : LOK 4 82 59 := Or.inr (List.mem_of_getElem? (i := 94) rfl)
set_option maxRecDepth 100000 in
theorem lok_4_34 : LOK 4 86 34 := Or.inr (List.mem_of_getElem? (i := 95) rfl)
set_option maxRecDepth 100000 in
theorem lok_4_38 : LOK 4 93 38 := Or.inr (List.mem_of_getElem? (i := 96) rfl)
set_option maxRecDepth 100000 in
theorem lok_4_53 : LOK 4 97 53 := Or.inr (List.mem_of_getElem? (i := 97) rfl)
set_option maxRecDepth 100000 in
theorem lok_4_39 : LOK 4 104 39 := Or.inr (List.mem_of_getElem? (i := 90) rfl)
set_option maxRecDepth 100000 in
theorem lok_5_7 : LOK 5 25 7 := Or.inr (List.mem_of_getElem? (i := 98) rfl)
set_option maxRecDepth 100000 in
theorem lok_5_45 : LOK 5 43 45 := Or.inr (List.mem_of_getElem? (i := 99) rfl)
set_option maxRecDepth 100000 in
theorem lok_5_33 : LOK 5 49 33 := Or.inl (List.mem_of_getElem? (i := 293) rfl)
set_option maxRecDepth 100000 in
theorem lok_5_106 : LOK 5 53 106 := Or.inl (List.mem_of_getElem? (i := 294) rfl)
set_option maxRecDepth 100000 in
theorem lok_5_35 : LOK 5 59 35 := Or.inl (List.mem_of_getElem? (i := 295) rfl)
set_option maxRecDepth 100000 in
theorem lok_5_36 : LOK 5 62 36 := Or.inl (List.mem_of_getElem? (i := 299) rfl)
set_option maxRecDepth 100000 in
theorem lok_5_17 : LOK 5 65 17 := Or.inr (List.mem_of_getElem? (i := 100) rfl)
set_option maxRecDepth 100000 in
theorem lok_5_20 : LOK 5 74 20 := Or.inr (List.mem_of_getElem? (i := 101) rfl)
set_option maxRecDepth 100000 in
theorem lok_5_24 : LOK 5 77 24 := Or.inr (List.mem_of_getElem? (i := 102) rfl)
set_option maxRecDepth 100000 in
theorem lok_6_42 : LOK 6 34 42 := Or.inl (List.mem_of_getElem? (i := 177) rfl)
set_option maxRecDepth 100000 in
theorem lok_6_41 : LOK 6 38 41 := Or.inl (List.mem_of_getElem? (i := 162) rfl)
set_option maxRecDepth 100000 in
theorem lok_7_40 : LOK 7 11 40 := Or.inr (List.mem_of_getElem? (i := 103) rfl)
set_option maxRecDepth 100000 in
theorem lok_7_16 : LOK 7 29 16 := Or.inr (List.mem_of_getElem? (i := 104) rfl)
set_option maxRecDepth 100000 in
theorem lok_7_47 : LOK 7 44 47 := Or.inr (List.mem_of_getElem? (i := 105) rfl)
set_option maxRecDepth 100000 in
theorem lok_7_46 : LOK 7 48 46 := Or.inr (List.mem_of_getElem? (i := 106) rfl)
set_option maxRecDepth 100000 in
theorem lok_7_48 : LOK 7 52 48 := Or.inr (List.mem_of_getElem? (i := 107) rfl)
set_option maxRecDepth 100000 in
theorem lok_7_21 : LOK 7 56 21 := Or.inr (List.mem_of_getElem? (i := 108) rfl)
set_option maxRecDepth 100000 in
theorem lok_7_49 : LOK 7 60 49 := Or.inr (List.mem_of_getElem? (i := 109) rfl)
set_option maxRecDepth 100000 in
theorem lok_7_22 : LOK 7 63 22 := Or.inr (List.mem_of_getElem? (i := 110) rfl)
set_option maxRecDepth 100000 in
theorem lok_7_20 : LOK 7 70 20 := Or.inr (List.mem_of_getElem? (i := 111) rfl)
set_option maxRecDepth 100000 in
theorem lok_7_58 : LOK 7 74 58 := Or.inl (List.mem_of_getElem? (i := 227) rfl)
set_option maxRecDepth 100000 in
theorem lok_7_101 : LOK 7 78 101 := Or.inr (List.mem_of_getElem? (i := 112) rfl)
set_option maxRecDepth 100000 in
theorem lok_7_50 : LOK 7 81 50 := Or.inr (List.mem_of_getElem? (i := 113) rfl)
set_option maxRecDepth 100000 in
theorem lok_7_25 : LOK 7 85 25 := Or.inr (List.mem_of_getElem? (i := 114) rfl)
set_option maxRecDepth 100000 in
theorem lok_7_60 : LOK 7 88 60 := Or.inl (List.mem_of_getElem? (i := 131) rfl)
set_option maxRecDepth 100000 in
theorem lok_8_51 : LOK 8 15 51 := Or.inr (List.mem_of_getElem? (i := 39) rfl)
set_option maxRecDepth 100000 in
theorem lok_8_12 : LOK 8 25 12 := Or.inr (List.mem_of_getElem? (i := 50) rfl)
set_option maxRecDepth 100000 in
theorem lok_8_5 : LOK 8 32 5 := Or.inr (List.mem_of_getElem? (i := 58) rfl)
set_option maxRecDepth 100000 in
theorem lok_8_32 : LOK 8 39 32 := Or.inr (List.mem_of_getElem? (i := 64) rfl)
set_option maxRecDepth 100000 in
theorem lok_8_16 : LOK 8 46 16 := Or.inr (List.mem_of_getElem? (i := 65) rfl)
set_option maxRecDepth 100000 in
theorem lok_8_26 : LOK 8 53 26 := Or.inr (List.mem_of_getElem? (i := 66) rfl)
set_option maxRecDepth 100000 in
theorem lok_8_0 : LOK 8 60 0 := Or.inr (List.mem_of_getElem? (i := 67) rfl)
set_option maxRecDepth 100000 in
theorem lok_8_87 : LOK 8 81 87 := Or.inl (List.mem_of_getElem? (i := 552) rfl)
set_option maxRecDepth 100000 in
theorem lok_8_13 : LOK 8 85 13 := Or.inr (List.mem_of_getElem? (i := 68) rfl)
set_option maxRecDepth 100000 in
theorem lok_8_60 : LOK 8 89 60 := Or.inr (List.mem_of_getElem? (i := 69) rfl)
set_option maxRecDepth 100000 in
theorem lok_8_8 : LOK 8 92 8 := Or.inr (List.mem_of_getElem? (i := 70) rfl)
set_option maxRecDepth 100000 in
theorem lok_8_41 : LOK 8 107 41 := Or.inr (List.mem_of_getElem? (i := 31) rfl)
set_option maxRecDepth 100000 in
theorem lok_8_43 : LOK 8 116 43 := Or.inr (List.mem_of_getElem? (i := 32) rfl)
set_option maxRecDepth 100000 in
theorem lok_8_44 : LOK 8 122 44 := Or.inr (List.mem_of_getElem? (i := 33) rfl)
set_option maxRecDepth 100000 in
theorem lok_8_55 : LOK 8 128 55 := Or.inr (List.mem_of_getElem? (i := 34) rfl)
set_option maxRecDepth 100000 in
theorem lok_8_56 : LOK 8 134 56 := Or.inr (List.mem_of_getElem? (i := 35) rfl)
set_option maxRecDepth 100000 in
theorem lok_8_57 : LOK 8 138 57 := Or.inr (List.mem_of_getElem? (i := 36) rfl)
set_option maxRecDepth 100000 in
theorem lok_8_53 : LOK 8 143 53 := Or.inr (List.mem_of_getElem? (i := 37) rfl)
set_option maxRecDepth 100000 in
theorem lok_8_54 : LOK 8 147 54 := Or.inr (List.mem_of_getElem? (i := 38) rfl)
set_option maxRecDepth 100000 in
theorem lok_8_23 : LOK 8 162 23 := Or.inr (List.mem_of_getElem? (i := 40) rfl)
set_option maxRecDepth 100000 in
theorem lok_8_90 : LOK 8 167 90 := Or.inl (List.mem_of_getElem? (i := 203) rfl)
set_option maxRecDepth 100000 in
theorem lok_8_93 : LOK 8 172 93 := Or.inl (List.mem_of_getElem? (i := 251) rfl)
set_option maxRecDepth 100000 in
theorem lok_8_42 : LOK 8 176 42 := Or.inr (List.mem_of_getElem? (i := 41) rfl)
set_option maxRecDepth 100000 in
theorem lok_8_102 : LOK 8 182 102 := Or.inl (List.mem_of_getElem? (i := 261) rfl)
set_option maxRecDepth 100000 in
theorem lok_8_103 : LOK 8 186 103 := Or.inl (List.mem_of_getElem? (i := 271) rfl)
set_option maxRecDepth 100000 in
theorem lok_8_94 : LOK 8 190 94 := Or.inl (List.mem_of_getElem? (i := 279) rfl)
set_option maxRecDepth 100000 in
theorem lok_8_46 : LOK 8 195 46 := Or.inr (List.mem_of_getElem? (i := 42) rfl)
set_option maxRecDepth 100000 in
theorem lok_8_96 : LOK 8 198 96 := Or.inl (List.mem_of_getElem? (i := 286) rfl)
set_option maxRecDepth 100000 in
theorem lok_8_37 : LOK 8 207 37 := Or.inr (List.mem_of_getElem? (i := 43) rfl)
set_option maxRecDepth 100000 in
theorem lok_8_38 : LOK 8 210 38 := Or.inr (List.mem_of_getElem? (i := 44) rfl)
set_option maxRecDepth 100000 in
theorem lok_8_39 : LOK 8 216 39 := Or.inr (List.mem_of_getElem? (i := 45) rfl)
set_option maxRecDepth 100000 in
theorem lok_8_98 : LOK 8 220 98 := Or.inl (List.mem_of_getElem? (i := 504) rfl)
set_option maxRecDepth 100000 in
theorem lok_8_59 : LOK 8 223 59 := Or.inr (List.mem_of_getElem? (i := 46) rfl)
set_option maxRecDepth 100000 in
theorem lok_8_101 : LOK 8 227 101 := Or.inl (List.mem_of_getElem? (i := 439) rfl)
set_option maxRecDepth 100000 in
theorem lok_8_97 : LOK 8 230 97 := Or.inl (List.mem_of_getElem? (i := 230) rfl)
set_option maxRecDepth 100000 in
theorem lok_8_27 : LOK 8 235 27 := Or.inr (List.mem_of_getElem? (i := 47) rfl)
set_option maxRecDepth 100000 in
theorem lok_8_28 : LOK 8 241 28 := Or.inr (List.mem_of_getElem? (i := 48) rfl)
set_option maxRecDepth 100000 in
theorem lok_8_1 : LOK 8 246 1 := Or.inr (List.mem_of_getElem? (i := 49) rfl)
set_option maxRecDepth 100000 in
theorem lok_8_45 : LOK 8 261 45 := Or.inr (List.mem_of_getElem? (i := 51) rfl)
set_option maxRecDepth 100000 in
theorem lok_8_33 : LOK 8 264 33 := Or.inr (List.mem_of_getElem? (i := 52) rfl)
set_option maxRecDepth 100000 in
theorem lok_8_15 : LOK 8 271 15 := Or.inr (List.mem_of_getElem? (i := 53) rfl)
set_option maxRecDepth 100000 in
theorem lok_8_52 : LOK 8 289 52 := Or.inr (List.mem_of_getElem? (i := 54) rfl)
set_option maxRecDepth 100000 in
theorem lok_8_88 : LOK 8 292 88 := Or.inl (List.mem_of_getElem? (i := 559) rfl)
set_option maxRecDepth 100000 in
theorem lok_8_89 : LOK 8 296 89 := Or.inl (List.mem_of_getElem? (i := 562) rfl)
set_option maxRecDepth 100000 in
theorem lok_8_48 : LOK 8 300 48 := Or.inr (List.mem_of_getElem? (i := 55) rfl)
set_option maxRecDepth 100000 in
theorem lok_8_47 : LOK 8 303 47 := Or.inr (List.mem_of_getElem? (i := 56) rfl)
set_option maxRecDepth 100000 in
theorem lok_8_91 : LOK 8 313 91 := Or.inl (List.mem_of_getElem? (i := 207) rfl)
set_option maxRecDepth 100000 in
theorem lok_8_92 : LOK 8 316 92 := Or.inl (List.mem_of_getElem? (i := 220) rfl)
set_option maxRecDepth 100000 in
theorem lok_8_58 : LOK 8 319 58 := Or.inr (List.mem_of_getElem? (i := 57) rfl)
set_option maxRecDepth 100000 in
theorem lok_8_18 : LOK 8 322 18 := Or.inr (List.mem_of_getElem? (i := 59) rfl)
set_option maxRecDepth 100000 in
theorem lok_8_19 : LOK 8 325 19 := Or.inr (List.mem_of_getElem? (i := 60) rfl)
set_option maxRecDepth 100000 in
theorem lok_8_20 : LOK 8 328 20 := Or.inr (List.mem_of_getElem? (i := 61) rfl)
set_option maxRecDepth 100000 in
theorem lok_8_95 : LOK 8 331 95 := Or.inl (List.mem_of_getElem? (i := 305) rfl)
set_option maxRecDepth 100000 in
theorem lok_8_25 : LOK 8 335 25 := Or.inr (List.mem_of_getElem? (i := 62) rfl)
set_option maxRecDepth 100000 in
theorem lok_8_34 : LOK 8 339 34 := Or.inr (List.mem_of_getElem? (i := 63) rfl)
set_option maxRecDepth 100000 in
theorem lok_8_100 : LOK 8 343 100 := Or.inl (List.mem_of_getElem? (i := 508) rfl)
set_option maxRecDepth 100000 in
theorem lok_8_105 : LOK 8 346 105 := Or.inl (List.mem_of_getElem? (i := 511) rfl)
set_option maxRecDepth 100000 in
theorem lok_8_99 : LOK 8 351 99 := Or.inl (List.mem_of_getElem? (i := 518) rfl)
set_option maxRecDepth 100000 in
theorem lok_8_104 : LOK 8 354 104 := Or.inl (List.mem_of_getElem? (i := 181) rfl)
set_option maxRecDepth 100000 in
theorem lok_10_63 : LOK 10 9 63 := Or.inl (List.mem_of_getElem? (i := 325) rfl)
set_option maxRecDepth 100000 in
theorem lok_10_66 : LOK 10 21 66 := Or.inl (List.mem_of_getElem? (i := 333) rfl)
set_option maxRecDepth 100000 in
theorem lok_10_67 : LOK 10 28 67 := Or.inl (List.mem_of_getElem? (i := 365) rfl)
set_option maxRecDepth 100000 in
theorem lok_10_68 : LOK 10 31 68 := Or.inl (List.mem_of_getElem? (i := 381) rfl)
set_option maxRecDepth 100000 in
theorem lok_10_69 : LOK 10 34 69 := Or.inl (List.mem_of_getElem? (i := 391) rfl)
set_option maxRecDepth 100000 in
theorem lok_10_70 : LOK 10 38 70 := Or.inl (List.mem_of_getElem? (i := 401) rfl)
set_option maxRecDepth 100000 in
theorem lok_10_71 : LOK 10 41 71 := Or.inl (List.mem_of_getElem? (i := 408) rfl)
set_option maxRecDepth 100000 in
theorem lok_10_72 : LOK 10 44 72 := Or.inl (List.mem_of_getElem? (i := 197) rfl)
set_option maxRecDepth 100000 in
theorem lok_10_73 : LOK 10 47 73 := Or.inl (List.mem_of_getElem? (i := 245) rfl)
set_option maxRecDepth 100000 in
theorem lok_10_74 : LOK 10 50 74 := Or.inl (List.mem_of_getElem? (i := 267) rfl)
set_option maxRecDepth 100000 in
theorem lok_10_75 : LOK 10 54 75 := Or.inl (List.mem_of_getElem? (i := 275) rfl)
set_option maxRecDepth 100000 in
theorem lok_10_76 : LOK 10 57 76 := Or.inl (List.mem_of_getElem? (i := 318) rfl)
set_option maxRecDepth 100000 in
theorem lok_10_77 : LOK 10 60 77 := Or.inl (List.mem_of_getElem? (i := 418) rfl)
set_option maxRecDepth 100000 in
theorem lok_10_78 : LOK 10 63 78 := Or.inl (List.mem_of_getElem? (i := 428) rfl)
set_option maxRecDepth 100000 in
theorem lok_10_81 : LOK 10 66 81 := Or.inl (List.mem_of_getElem? (i := 435) rfl)
set_option maxRecDepth 100000 in
theorem lok_10_82 : LOK 10 69 82 := Or.inl (List.mem_of_getElem? (i := 443) rfl)
set_option maxRecDepth 100000 in
theorem lok_10_84 : LOK 10 72 84 := Or.inl (List.mem_of_getElem? (i := 471) rfl)
set_option maxRecDepth 100000 in
theorem lok_10_86 : LOK 10 75 86 := Or.inl (List.mem_of_getElem? (i := 118) rfl)
set_option maxRecDepth 100000 in
theorem lok_10_128 : LOK 10 83 128 := Or.inl (List.mem_of_getElem? (i := 193) rfl)
set_option maxRecDepth 100000 in
theorem lok_10_129 : LOK 10 88 129 := Or.inl (List.mem_of_getElem? (i := 241) rfl)
set_option maxRecDepth 100000 in
theorem lok_10_130 : LOK 10 91 130 := Or.inl (List.mem_of_getElem? (i := 264) rfl)
set_option maxRecDepth 100000 in
theorem lok_10_131 : LOK 10 94 131 := Or.inl (List.mem_of_getElem? (i := 272) rfl)
set_option maxRecDepth 100000 in
theorem lok_10_132 : LOK 10 96 132 := Or.inl (List.mem_of_getElem? (i := 315) rfl)
set_option maxRecDepth 100000 in
theorem lok_10_109 : LOK 10 98 109 := Or.inl (List.mem_of_getElem? (i := 188) rfl)
set_option maxRecDepth 100000 in
theorem lok_10_121 : LOK 10 102 121 := Or.inl (List.mem_of_getElem? (i := 322) rfl)
set_option maxRecDepth 100000 in
theorem lok_10_122 : LOK 10 104 122 := Or.inl (List.mem_of_getElem? (i := 330) rfl)
set_option maxRecDepth 100000 in
theorem lok_10_123 : LOK 10 107 123 := Or.inl (List.mem_of_getElem? (i := 362) rfl)
set_option maxRecDepth 100000 in
theorem lok_10_124 : LOK 10 109 124 := Or.inl (List.mem_of_getElem? (i := 378) rfl)
set_option maxRecDepth 100000 in
theorem lok_10_125 : LOK 10 111 125 := Or.inl (List.mem_of_getElem? (i := 388) rfl)
set_option maxRecDepth 100000 in
theorem lok_10_126 : LOK 10 113 126 := Or.inl (List.mem_of_getElem? (i := 398) rfl)
set_option maxRecDepth 100000 in
theorem lok_10_127 : LOK 10 115 127 := Or.inl (List.mem_of_getElem? (i := 405) rfl)
set_option maxRecDepth 100000 in
theorem lok_10_133 : LOK 10 117 133 := Or.inl (List.mem_of_getElem? (i := 415) rfl)
set_option maxRecDepth 100000 in
theorem lok_10_134 : LOK 10 119 134 := Or.inl (List.mem_of_getElem? (i := 425) rfl)
set_option maxRecDepth 100000 in
theorem lok_10_135 : LOK 10 121 135 := Or.inl (List.mem_of_getElem? (i := 432) rfl)
set_option maxRecDepth 100000 in
theorem lok_10_136 : LOK 10 123 136 := Or.inl (List.mem_of_getElem? (i := 440) rfl)
set_option maxRecDepth 100000 in
theorem lok_10_137 : LOK 10 125 137 := Or.inl (List.mem_of_getElem? (i := 468) rfl)
set_option maxRecDepth 100000 in
theorem lok_10_111 : LOK 10 127 111 := Or.inl (List.mem_of_getElem? (i := 571) rfl)
set_option maxRecDepth 100000 in
theorem lok_10_85 : LOK 10 131 85 := Or.inl (List.mem_of_getElem? (i := 577) rfl)
set_option maxRecDepth 100000 in
theorem lok_10_138 : LOK 10 135 138 := Or.inl (List.mem_of_getElem? (i := 113) rfl)
set_option maxRecDepth 100000 in
theorem lok_10_80 : LOK 10 138 80 := Or.inl (List.mem_of_getElem? (i := 500) rfl)
set_option maxRecDepth 100000 in
theorem lok_10_83 : LOK 10 141 83 := Or.inl (List.mem_of_getElem? (i := 525) rfl)
set_option maxRecDepth 100000 in
theorem lok_10_79 : LOK 10 144 79 := Or.inl (List.mem_of_getElem? (i := 529) rfl)
set_option maxRecDepth 100000 in
theorem lok_10_117 : LOK 10 147 117 := Or.inl (List.mem_of_getElem? (i := 587) rfl)
set_option maxRecDepth 100000 in
theorem lok_10_64 : LOK 10 150 64 := Or.inl (List.mem_of_getElem? (i := 540) rfl)
set_option maxRecDepth 100000 in
theorem lok_10_108 : LOK 10 153 108 := Or.inl (List.mem_of_getElem? (i := 544) rfl)
set_option maxRecDepth 100000 in
theorem lok_10_65 : LOK 10 156 65 := Or.inl (List.mem_of_getElem? (i := 548) rfl)
set_option maxRecDepth 100000 in
theorem lok_10_62 : LOK 10 159 62 := Or.inl (List.mem_of_getElem? (i := 7) rfl)
set_option maxRecDepth 100000 in
theorem lok_10_110 : LOK 10 160 110 := Or.inl (List.mem_of_getElem? (i := 185) rfl)
set_option maxRecDepth 100000 in
theorem lok_10_115 : LOK 10 164 115 := Or.inl (List.mem_of_getElem? (i := 497) rfl)
set_option maxRecDepth 100000 in
theorem lok_10_116 : LOK 10 167 116 := Or.inl (List.mem_of_getElem? (i := 522) rfl)
set_option maxRecDepth 100000 in
theorem lok_10_107 : LOK 10 170 107 := Or.inl (List.mem_of_getElem? (i := 533) rfl)
set_option maxRecDepth 100000 in
theorem lok_10_119 : LOK 10 174 119 := Or.inl (List.mem_of_getElem? (i := 537) rfl)
set_option maxRecDepth 100000 in
theorem lok_10_120 : LOK 10 178 120 := Or.inl (List.mem_of_getElem? (i := 565) rfl)
set_option maxRecDepth 100000 in
theorem lok_10_112 : LOK 10 181 112 := Or.inl (List.mem_of_getElem? (i := 568) rfl)
set_option maxRecDepth 100000 in
theorem lok_10_113 : LOK 10 184 113 := Or.inl (List.mem_of_getElem? (i := 574) rfl)
set_option maxRecDepth 100000 in
theorem lok_10_114 : LOK 10 187 114 := Or.inl (List.mem_of_getElem? (i := 581) rfl)
set_option maxRecDepth 100000 in
theorem lok_10_118 : LOK 10 191 118 := Or.inl (List.mem_of_getElem? (i := 584) rfl)
def AOK (o cp k : Nat) : Prop := (k = 900 → Cond.methodLink (RC o) cp objectInit ∈ wsL_law) ∧ (k = 901 → Cond.methodLink (RC o) cp Lib.Math.min.name ∈ wsL_law) ∧ (k = 902 → Cond.methodLink (RC o) cp arraycopyName ∈ wsL_law)
set_option maxRecDepth 100000 in
theorem aok_0_900 : AOK 0 3 900 := by unfold AOK; decide +kernel
set_option maxRecDepth 100000 in
theorem aok_1_900 : AOK 1 3 900 := by unfold AOK; decide +kernel
set_option maxRecDepth 100000 in
theorem aok_2_900 : AOK 2 3 900 := by unfold AOK; decide +kernel
set_option maxRecDepth 100000 in
theorem aok_3_900 : AOK 3 3 900 := by unfold AOK; decide +kernel
set_option maxRecDepth 100000 in
theorem aok_3_902 : AOK 3 31 902 := by unfold AOK; decide +kernel
set_option maxRecDepth 100000 in
theorem aok_4_900 : AOK 4 3 900 := by unfold AOK; decide +kernel
set_option maxRecDepth 100000 in
theorem aok_4_902 : AOK 4 108 902 := by unfold AOK; decide +kernel
set_option maxRecDepth 100000 in
theorem aok_5_900 : AOK 5 3 900 := by unfold AOK; decide +kernel
set_option maxRecDepth 100000 in
theorem aok_5_901 : AOK 5 31 901 := by unfold AOK; decide +kernel
set_option maxRecDepth 100000 in
theorem aok_6_900 : AOK 6 3 900 := by unfold AOK; decide +kernel
set_option maxRecDepth 100000 in
theorem aok_6_901 : AOK 6 18 901 := by unfold AOK; decide +kernel
set_option maxRecDepth 100000 in
theorem aok_6_902 : AOK 6 42 902 := by unfold AOK; decide +kernel
set_option maxRecDepth 100000 in
theorem aok_7_900 : AOK 7 3 900 := by unfold AOK; decide +kernel
set_option maxRecDepth 100000 in
theorem aok_7_902 : AOK 7 64 902 := by unfold AOK; decide +kernel
set_option maxRecDepth 100000 in
theorem aok_8_900 : AOK 8 3 900 := by unfold AOK; decide +kernel
set_option maxRecDepth 100000 in
theorem lib_in : Cond.instanceMethod objectInit ∈ wsL_law ∧ Cond.code objectInit ⟨#[0xb1]⟩ 1 none ∈ wsL_law ∧ Cond.static Lib.Math.min.name ∈ wsL_law ∧ Cond.initialized "java/lang/Math" ∈ wsL_law ∧ Cond.code Lib.Math.min.name Lib.Math.min.code 2 (some .int) ∈ wsL_law ∧ Cond.native arraycopyName ∈ wsL_law ∧ Cond.static arraycopyName ∈ wsL_law ∧ Cond.initialized "java/lang/System" ∈ wsL_law ∧ Cond.arrayClass .int ∈ wsL_law := by decide +kernel
def NOK (o cp c : Nat) : Prop := Cond.classLink (RC o) cp (RC c) ∈ wsL_law ∧ Cond.instantiable (RC c) (fcn c) ∈ wsL_law ∧ Cond.initialized (RC c) ∈ wsL_law
set_option maxRecDepth 100000 in
theorem nok_0_7 : NOK 0 9 7 := by unfold NOK; decide +kernel
set_option maxRecDepth 100000 in
theorem nok_0_1 : NOK 0 18 1 := by unfold NOK; decide +kernel
set_option maxRecDepth 100000 in
theorem nok_0_5 : NOK 0 25 5 := by unfold NOK; decide +kernel
set_option maxRecDepth 100000 in
theorem nok_2_7 : NOK 2 9 7 := by unfold NOK; decide +kernel
set_option maxRecDepth 100000 in
theorem nok_4_3 : NOK 4 9 3 := by unfold NOK; decide +kernel
set_option maxRecDepth 100000 in
theorem nok_4_5 : NOK 4 17 5 := by unfold NOK; decide +kernel
set_option maxRecDepth 100000 in
theorem nok_7_6 : NOK 7 9 6 := by unfold NOK; decide +kernel
set_option maxRecDepth 100000 in
theorem nok_7_3 : NOK 7 27 3 := by unfold NOK; decide +kernel
set_option maxRecDepth 100000 in
theorem nok_8_7 : NOK 8 13 7 := by unfold NOK; decide +kernel
set_option maxRecDepth 100000 in
theorem nok_8_2 : NOK 8 23 2 := by unfold NOK; decide +kernel
set_option maxRecDepth 100000 in
theorem nok_8_1 : NOK 8 30 1 := by unfold NOK; decide +kernel
set_option maxRecDepth 100000 in
theorem nok_8_5 : NOK 8 37 5 := by unfold NOK; decide +kernel
set_option maxRecDepth 100000 in
theorem nok_8_3 : NOK 8 44 3 := by unfold NOK; decide +kernel
set_option maxRecDepth 100000 in
theorem nok_8_4 : NOK 8 51 4 := by unfold NOK; decide +kernel
set_option maxRecDepth 100000 in
theorem nok_8_0 : NOK 8 58 0 := by unfold NOK; decide +kernel
set_option maxRecDepth 100000 in
theorem nok_10_8 : NOK 10 10 8 := by unfold NOK; decide +kernel
def BOK (o cp t : Nat) : Prop := Cond.classLink (RC o) cp (RC (el3 t - 1)) ∈ wsL_law
set_option maxRecDepth 100000 in
theorem bok_2_13 : BOK 2 9 13 := by unfold BOK; decide +kernel
set_option maxRecDepth 100000 in
theorem bok_4_14 : BOK 4 9 14 := by unfold BOK; decide +kernel
set_option maxRecDepth 100000 in
theorem bok_4_15 : BOK 4 17 15 := by unfold BOK; decide +kernel
def VOK (o cp v : Nat) : Prop := Cond.constant (RC o) cp (Int32.ofInt (v : Int)) ∈ wsL_law
def UOK (o cp v : Nat) : Prop := Cond.constantLong (RC o) cp (Int64.ofInt (v : Int)) ∈ wsL_law
set_option maxRecDepth 100000 in
theorem vok_10_916318735 : VOK 10 7 916318735 := by unfold VOK; decide +kernel
set_option maxRecDepth 100000 in
theorem vok_10_2147483647 : VOK 10 8 2147483647 := by unfold VOK; decide +kernel
set_option maxRecDepth 100000 in
theorem vok_10_4289967295 : VOK 10 17 4289967295 := by unfold VOK; decide +kernel
set_option maxRecDepth 100000 in
theorem vok_10_4289967294 : VOK 10 20 4289967294 := by unfold VOK; decide +kernel
set_option maxRecDepth 100000 in
theorem vok_10_4289967293 : VOK 10 27 4289967293 := by unfold VOK; decide +kernel
set_option maxRecDepth 100000 in
theorem vok_10_107 : UOK 10 79 107 := by unfold UOK; decide +kernel
set_option maxRecDepth 100000 in
theorem vok_10_31 : UOK 10 81 31 := by unfold UOK; decide +kernel
set_option maxRecDepth 100000 in
theorem vok_10_1000000 : VOK 10 177 1000000 := by unfold VOK; decide +kernel
set_option maxRecDepth 100000 in
theorem vok_12_1431655765 : VOK 12 265 1431655765 := by unfold VOK; decide +kernel
set_option maxRecDepth 100000 in
theorem vok_12_858993459 : VOK 12 266 858993459 := by unfold VOK; decide +kernel
set_option maxRecDepth 100000 in
theorem vok_12_252645135 : VOK 12 267 252645135 := by unfold VOK; decide +kernel
set_option maxRecDepth 100000 in
theorem st_in : Cond.fieldLink RX8 357 "RubberStamps" "TURNED" "[I" ∈ wsL_law := by decide +kernel
