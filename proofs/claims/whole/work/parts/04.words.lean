/-! words: what the tables say of the members that the small machine uses -/
def RC (c : Nat) : String := cond (Nat.blt c 6) (cond (Nat.blt c 3) (cond (Nat.blt c 1) (cond (Nat.beq c 0) (RX0) ("")) (cond (Nat.blt c 2) (cond (Nat.beq c 1) (RX1) ("")) (cond (Nat.beq c 2) (RX2) ("")))) (cond (Nat.blt c 4) (cond (Nat.beq c 3) (RX3) ("")) (cond (Nat.blt c 5) (cond (Nat.beq c 4) (RX4) ("")) (cond (Nat.beq c 5) (RX5) (""))))) (cond (Nat.blt c 9) (cond (Nat.blt c 7) (cond (Nat.beq c 6) (RX6) ("")) (cond (Nat.blt c 8) (cond (Nat.beq c 7) (RX7) ("")) (cond (Nat.beq c 8) (RX8) ("")))) (cond (Nat.blt c 11) (cond (Nat.blt c 10) (cond (Nat.beq c 9) (RX9) ("")) (cond (Nat.beq c 10) (RL) (""))) (cond (Nat.blt c 12) (cond (Nat.beq c 11) (RJ7) ("")) (cond (Nat.beq c 12) (RJ6) ("")))))
def TC (c : Nat) : u_T := match c with
  | 0 => TX0
  | 1 => TX1
  | 2 => TX2
  | 3 => TX3
  | 4 => TX4
  | 5 => TX5
  | 6 => TX6
  | 7 => TX7
  | 8 => TX8
  | _ => TX9
def yC (c : Nat) : Nat → FieldType := match c with
  | 0 => tyX0
  | 1 => tyX1
  | 2 => tyX2
  | 3 => tyX3
  | 4 => tyX4
  | 5 => tyX5
  | 6 => tyX6
  | 7 => tyX7
  | 8 => tyX8
  | _ => tyX9
def mnl : List MethodName := [yX0_init, yX0_search, yX0_pressesWith, yX0_allPresses, yX0_keepIfBetter, yX1_init, yX1_cellOf, yX1_at, yX1_rebuild, yX1_add, yX1_fitting, yX1_erase, yX2_init, yX2_push, yX2_forgetOldest, yX2_pop, yX3_init, yX3_isNumber, yX3_inkOf, yX3_amountOf, yX3_wearOf, yX3_renew, yX3_takeOut, yX3_wash, yX3_pressOnce, yX3_copyFrom, yX4_init, yX4_search, yX4_wordAt, yX4_tryFrom, yX4_advance, yX4_keep, yX5_init, yX5_measure, yX5_find, yX5_shortestPresses, yX5_lowestOf, yX5_codeAt, yX5_isPossible, yX5_carryOut, yX6_init, yX6_has, yX6_hasLetter, yX6_hasPart, yX6_isFull, yX6_lengthOf, yX6_letterAt, yX6_open, yX6_addLetter, yX6_takeOut, yX6_copyFrom, yX7_init, yX7_empty, yX7_colorOf, yX7_paint, yX7_addPart, yX7_takeOutStamp, yX7_takeOutWord, yX7_isWornOut, yX7_pressesLeft, yX7_takeItems, yX7_copyFrom, yX8_init, yX8_append, yX8_clearText, yX8_parse, yX8_cut, yX8_remove, yX8_drop, yX8_setColor, yX8_setLimits, yX8_clean, yX8_value, yX8_stamp, yX8_print, yX8_word, yX8_letter, yX8_press, yX8_write, yX8_writeAll, yX8_fewest, yX8_needed, yX8_order, yX8_leastCleanings, yX8_bestCut, yX8_lettersPerPress, yX8_undo, yX8_digest, yX8_mixStamp, yX8_mixWord, yX8_mixLetters, yX8_readText, yX8_nextStage, yX8_openItem, yX8_numberOf, yX8_wornOutStamps, yX8_wordsWithPlan, yX8_stampFact, yX8_wordFact, yX8_writingCost, yX8_bestPlan, yX8_hasPlan, yX8_fewestStamps, yX8_allHavePlans, yX8_pressesOfSet, yX8_pressesOf, yX8_canBeTurned, yX8_printedLetter, yX8_turnedLetter, yX9_init, yX9_thrown, yX9_refused, yX9_in, yX9_saves, yX9_undo, yX9_keeps, yX9_takesBack, yX9_isStamp, yX9_isWord, yX9_stampAt, yX9_wordAt, yX9_isWorn, yX9_turned, yX9_canTurn, yX9_printed, yX9_counts, yX9_append, yX9_clearText, yX9_isAt, yX9_takesLetters, yX9_takesItem, yX9_clears, yX9_parse, yX9_comes, yX9_isPart, yX9_cut, yX9_remove, yX9_drop, yX9_setColor, yX9_setLimits, yX9_clean, yX9_fits, yX9_fresh, yX9_presses, yX9_plans, yX9_canWrite, yX9_carries, yX9_wornOut, yX9_withPlan, yX9_tellValue, yX9_value, yX9_tellStamp, yX9_stamp, yX9_print, yX9_needs, yX9_tellWord, yX9_word, yX9_letter, yX9_press, yX9_write, yX9_writeAll, yX9_bits, yX9_allWith, yX9_smallest, yX9_fewest, yX9_needed, yX9_lays, yX9_picks, yX9_isUsed, yX9_orders, yX9_order, yX9_leastCleanings, yX9_allPresses, yX9_part, yX9_bestCut, yX9_lettersPerPress, yX9_mix, yX9_mixWord, yX9_digest, yJ6_bitCount_0f7a4, yJ7_fill_53178, yL_append, yL_cut, yL_remove, yL_drop, yL_setColor, yL_setLimits, yL_clean, yL_value, yL_stamp, yL_print, yL_word, yL_letter, yL_press, yL_write, yL_needed, yL_order, yL_bestCut, yL_undo, yL_law]
def mbl : List ByteArray := [cX0_init, cX0_search, cX0_pressesWith, cX0_allPresses, cX0_keepIfBetter, cX1_init, cX1_cellOf, cX1_at, cX1_rebuild, cX1_add, cX1_fitting, cX1_erase, cX2_init, cX2_push, cX2_forgetOldest, cX2_pop, cX3_init, cX3_isNumber, cX3_inkOf, cX3_amountOf, cX3_wearOf, cX3_renew, cX3_takeOut, cX3_wash, cX3_pressOnce, cX3_copyFrom, cX4_init, cX4_search, cX4_wordAt, cX4_tryFrom, cX4_advance, cX4_keep, cX5_init, cX5_measure, cX5_find, cX5_shortestPresses, cX5_lowestOf, cX5_codeAt, cX5_isPossible, cX5_carryOut, cX6_init, cX6_has, cX6_hasLetter, cX6_hasPart, cX6_isFull, cX6_lengthOf, cX6_letterAt, cX6_open, cX6_addLetter, cX6_takeOut, cX6_copyFrom, cX7_init, cX7_empty, cX7_colorOf, cX7_paint, cX7_addPart, cX7_takeOutStamp, cX7_takeOutWord, cX7_isWornOut, cX7_pressesLeft, cX7_takeItems, cX7_copyFrom, cX8_init, cX8_append, cX8_clearText, cX8_parse, cX8_cut, cX8_remove, cX8_drop, cX8_setColor, cX8_setLimits, cX8_clean, cX8_value, cX8_stamp, cX8_print, cX8_word, cX8_letter, cX8_press, cX8_write, cX8_writeAll, cX8_fewest, cX8_needed, cX8_order, cX8_leastCleanings, cX8_bestCut, cX8_lettersPerPress, cX8_undo, cX8_digest, cX8_mixStamp, cX8_mixWord, cX8_mixLetters, cX8_readText, cX8_nextStage, cX8_openItem, cX8_numberOf, cX8_wornOutStamps, cX8_wordsWithPlan, cX8_stampFact, cX8_wordFact, cX8_writingCost, cX8_bestPlan, cX8_hasPlan, cX8_fewestStamps, cX8_allHavePlans, cX8_pressesOfSet, cX8_pressesOf, cX8_canBeTurned, cX8_printedLetter, cX8_turnedLetter, cX9_init, cX9_thrown, cX9_refused, cX9_in, cX9_saves, cX9_undo, cX9_keeps, cX9_takesBack, cX9_isStamp, cX9_isWord, cX9_stampAt, cX9_wordAt, cX9_isWorn, cX9_turned, cX9_canTurn, cX9_printed, cX9_counts, cX9_append, cX9_clearText, cX9_isAt, cX9_takesLetters, cX9_takesItem, cX9_clears, cX9_parse, cX9_comes, cX9_isPart, cX9_cut, cX9_remove, cX9_drop, cX9_setColor, cX9_setLimits, cX9_clean, cX9_fits, cX9_fresh, cX9_presses, cX9_plans, cX9_canWrite, cX9_carries, cX9_wornOut, cX9_withPlan, cX9_tellValue, cX9_value, cX9_tellStamp, cX9_stamp, cX9_print, cX9_needs, cX9_tellWord, cX9_word, cX9_letter, cX9_press, cX9_write, cX9_writeAll, cX9_bits, cX9_allWith, cX9_smallest, cX9_fewest, cX9_needed, cX9_lays, cX9_picks, cX9_isUsed, cX9_orders, cX9_order, cX9_leastCleanings, cX9_allPresses, cX9_part, cX9_bestCut, cX9_lettersPerPress, cX9_mix, cX9_mixWord, cX9_digest, cJ6_bitCount_0f7a4, cJ7_fill_53178, cL_append, cL_cut, cL_remove, cL_drop, cL_setColor, cL_setLimits, cL_clean, cL_value, cL_stamp, cL_print, cL_word, cL_letter, cL_press, cL_write, cL_needed, cL_order, cL_bestCut, cL_undo, cL_law]
def mrl : List (Option FieldType) := [none, none, (some .int), (some .int), none, none, (some .int), (some .int), none, none, (some .int), none, none, none, none, none, none, (some .boolean), (some .int), (some .int), (some .int), none, none, (some .boolean), none, none, none, (some .int), (some .int), none, (some .boolean), none, none, (some .int), none, (some .int), (some .int), (some .int), (some .boolean), none, none, (some .boolean), (some .boolean), (some .boolean), (some .boolean), (some .int), (some .int), (some .boolean), (some .boolean), none, none, none, none, (some .int), none, none, none, none, (some .boolean), (some .int), none, none, none, (some .int), (some .int), (some .int), (some .int), (some .int), (some .int), (some .int), (some .int), (some .int), (some .int), (some .int), (some .int), (some .int), (some .int), (some .int), (some .int), (some .int), (some .int), (some .int), (some .int), (some .int), (some .int), (some .double), (some .int), (some .long), (some .long), (some .long), (some .long), (some .int), (some .int), (some .int), (some .int), (some .int), (some .int), (some .int), (some .int), (some .int), (some (.object "RubberStamps$Plan")), (some .boolean), (some .int), (some .boolean), (some .int), (some .int), (some .boolean), (some .int), (some .int), none, (some .int), (some .boolean), (some .boolean), none, (some .int), none, none, (some .boolean), (some .boolean), (some .int), (some .int), (some .boolean), (some .int), (some .boolean), (some .int), (some .boolean), (some .int), (some .int), (some .boolean), (some .boolean), (some .boolean), none, (some .int), (some .int), (some .boolean), (some .int), (some .int), (some .int), (some .int), (some .int), (some .int), (some .boolean), (some .int), (some .int), (some .boolean), (some .boolean), none, (some .int), (some .int), (some .int), (some .int), (some .int), (some .int), (some .int), (some .int), (some .int), (some .int), (some .int), (some .int), (some .int), (some .int), (some .int), (some .boolean), (some .int), (some .int), (some .int), none, none, (some .boolean), (some .boolean), (some .int), (some .int), (some .int), (some .int), (some .int), (some .double), none, none, (some .long), (some .int), none, (some .int), (some .int), (some .int), (some .int), (some .int), (some .int), (some .int), (some .int), (some .int), (some .int), (some .int), (some .int), (some .int), (some .int), (some .int), (some .int), (some .int), (some .int), ret]
def MN (y : Nat) : MethodName := mnl.getD y yL_law
def MB (y : Nat) : ByteArray := mbl.getD y cL_law
def MR (y : Nat) : Option FieldType := mrl.getD y none
/-- 0 an object's method, 1 a static one, 2 a constructor -/
def mki (y : Nat) : Nat := cond (Nat.blt y 180) (cond (Nat.blt y 105) (cond (Nat.blt y 36) (cond (Nat.blt y 17) (cond (Nat.blt y 10) (cond (Nat.beq y 6) (1) ((cond (List.elem y [0, 5, 12, 16, 26, 32, 40, 51, 62, 109]) 2 0))) (cond (Nat.beq y 10) (1) ((cond (List.elem y [0, 5, 12, 16, 26, 32, 40, 51, 62, 109]) 2 0)))) (cond (Nat.blt y 29) (cond (Nat.beq y 17) (1) ((cond (List.elem y [0, 5, 12, 16, 26, 32, 40, 51, 62, 109]) 2 0))) (cond (Nat.beq y 29) (1) ((cond (List.elem y [0, 5, 12, 16, 26, 32, 40, 51, 62, 109]) 2 0))))) (cond (Nat.blt y 92) (cond (Nat.blt y 90) (cond (Nat.beq y 36) (1) ((cond (List.elem y [0, 5, 12, 16, 26, 32, 40, 51, 62, 109]) 2 0))) (cond (Nat.beq y 90) (1) ((cond (List.elem y [0, 5, 12, 16, 26, 32, 40, 51, 62, 109]) 2 0)))) (cond (Nat.blt y 93) (cond (Nat.beq y 92) (1) ((cond (List.elem y [0, 5, 12, 16, 26, 32, 40, 51, 62, 109]) 2 0))) (cond (Nat.blt y 104) (cond (Nat.beq y 93) (1) ((cond (List.elem y [0, 5, 12, 16, 26, 32, 40, 51, 62, 109]) 2 0))) (cond (Nat.beq y 104) (1) ((cond (List.elem y [0, 5, 12, 16, 26, 32, 40, 51, 62, 109]) 2 0))))))) (cond (Nat.blt y 119) (cond (Nat.blt y 107) (cond (Nat.blt y 106) (cond (Nat.beq y 105) (1) ((cond (List.elem y [0, 5, 12, 16, 26, 32, 40, 51, 62, 109]) 2 0))) (cond (Nat.beq y 106) (1) ((cond (List.elem y [0, 5, 12, 16, 26, 32, 40, 51, 62, 109]) 2 0)))) (cond (Nat.blt y 108) (cond (Nat.beq y 107) (1) ((cond (List.elem y [0, 5, 12, 16, 26, 32, 40, 51, 62, 109]) 2 0))) (cond (Nat.blt y 112) (cond (Nat.beq y 108) (1) ((cond (List.elem y [0, 5, 12, 16, 26, 32, 40, 51, 62, 109]) 2 0))) (cond (Nat.beq y 112) (1) ((cond (List.elem y [0, 5, 12, 16, 26, 32, 40, 51, 62, 109]) 2 0)))))) (cond (Nat.blt y 122) (cond (Nat.blt y 120) (cond (Nat.beq y 119) (1) ((cond (List.elem y [0, 5, 12, 16, 26, 32, 40, 51, 62, 109]) 2 0))) (cond (Nat.beq y 120) (1) ((cond (List.elem y [0, 5, 12, 16, 26, 32, 40, 51, 62, 109]) 2 0)))) (cond (Nat.blt y 161) (cond (Nat.beq y 122) (1) ((cond (List.elem y [0, 5, 12, 16, 26, 32, 40, 51, 62, 109]) 2 0))) (cond (Nat.blt y 179) (cond (Nat.beq y 161) (1) ((cond (List.elem y [0, 5, 12, 16, 26, 32, 40, 51, 62, 109]) 2 0))) (cond (Nat.beq y 179) (1) ((cond (List.elem y [0, 5, 12, 16, 26, 32, 40, 51, 62, 109]) 2 0)))))))) (cond (Nat.blt y 189) (cond (Nat.blt y 184) (cond (Nat.blt y 182) (cond (Nat.blt y 181) (cond (Nat.beq y 180) (1) ((cond (List.elem y [0, 5, 12, 16, 26, 32, 40, 51, 62, 109]) 2 0))) (cond (Nat.beq y 181) (1) ((cond (List.elem y [0, 5, 12, 16, 26, 32, 40, 51, 62, 109]) 2 0)))) (cond (Nat.blt y 183) (cond (Nat.beq y 182) (1) ((cond (List.elem y [0, 5, 12, 16, 26, 32, 40, 51, 62, 109]) 2 0))) (cond (Nat.beq y 183) (1) ((cond (List.elem y [0, 5, 12, 16, 26, 32, 40, 51, 62, 109]) 2 0))))) (cond (Nat.blt y 186) (cond (Nat.blt y 185) (cond (Nat.beq y 184) (1) ((cond (List.elem y [0, 5, 12, 16, 26, 32, 40, 51, 62, 109]) 2 0))) (cond (Nat.beq y 185) (1) ((cond (List.elem y [0, 5, 12, 16, 26, 32, 40, 51, 62, 109]) 2 0)))) (cond (Nat.blt y 187) (cond (Nat.beq y 186) (1) ((cond (List.elem y [0, 5, 12, 16, 26, 32, 40, 51, 62, 109]) 2 0))) (cond (Nat.blt y 188) (cond (Nat.beq y 187) (1) ((cond (List.elem y [0, 5, 12, 16, 26, 32, 40, 51, 62, 109]) 2 0))) (cond (Nat.beq y 188) (1) ((cond (List.elem y [0, 5, 12, 16, 26, 32, 40, 51, 62, 109]) 2 0))))))) (cond (Nat.blt y 194) (cond (Nat.blt y 191) (cond (Nat.blt y 190) (cond (Nat.beq y 189) (1) ((cond (List.elem y [0, 5, 12, 16, 26, 32, 40, 51, 62, 109]) 2 0))) (cond (Nat.beq y 190) (1) ((cond (List.elem y [0, 5, 12, 16, 26, 32, 40, 51, 62, 109]) 2 0)))) (cond (Nat.blt y 192) (cond (Nat.beq y 191) (1) ((cond (List.elem y [0, 5, 12, 16, 26, 32, 40, 51, 62, 109]) 2 0))) (cond (Nat.blt y 193) (cond (Nat.beq y 192) (1) ((cond (List.elem y [0, 5, 12, 16, 26, 32, 40, 51, 62, 109]) 2 0))) (cond (Nat.beq y 193) (1) ((cond (List.elem y [0, 5, 12, 16, 26, 32, 40, 51, 62, 109]) 2 0)))))) (cond (Nat.blt y 196) (cond (Nat.blt y 195) (cond (Nat.beq y 194) (1) ((cond (List.elem y [0, 5, 12, 16, 26, 32, 40, 51, 62, 109]) 2 0))) (cond (Nat.beq y 195) (1) ((cond (List.elem y [0, 5, 12, 16, 26, 32, 40, 51, 62, 109]) 2 0)))) (cond (Nat.blt y 197) (cond (Nat.beq y 196) (1) ((cond (List.elem y [0, 5, 12, 16, 26, 32, 40, 51, 62, 109]) 2 0))) (cond (Nat.blt y 198) (cond (Nat.beq y 197) (1) ((cond (List.elem y [0, 5, 12, 16, 26, 32, 40, 51, 62, 109]) 2 0))) (cond (Nat.beq y 198) (1) ((cond (List.elem y [0, 5, 12, 16, 26, 32, 40, 51, 62, 109]) 2 0))))))))
def NW : List Cond := [.fieldLinkNest RX8 104 RX7 "words" "LRubberStamps$Rows;" "RubberStamps", .fieldLinkNest RX8 153 RX7 "limit" "I" "RubberStamps", .fieldLinkNest RX8 156 RX7 "load" "I" "RubberStamps", .fieldLinkNest RX8 159 RX7 "inks" "LRubberStamps$Inks;" "RubberStamps", .fieldLinkNest RX8 202 RX5 "presses" "I" "RubberStamps", .fieldLinkNest RX8 249 RX0 "bestWord" "I" "RubberStamps", .fieldLinkNest RX8 252 RX0 "bestFrom" "I" "RubberStamps", .fieldLinkNest RX8 255 RX0 "bestLength" "I" "RubberStamps", .fieldLinkNest RX8 258 RX0 "bestSaving" "I" "RubberStamps", .fieldLinkNest RX8 268 RX2 "count" "I" "RubberStamps", .fieldLinkNest RX8 306 RX3 "presses" "I" "RubberStamps", .fieldLinkNest RX8 307 RX3 "inkings" "I" "RubberStamps", .fieldLinkNest RX8 310 RX3 "cleanings" "I" "RubberStamps", .fieldLinkNest RX8 95 RX7 "stamps" "LRubberStamps$Rows;" "RubberStamps", .fieldLinkNest RX8 99 RX6 "count" "I" "RubberStamps", .fieldLinkNest RX0 45 RX7 "stamps" "LRubberStamps$Rows;" "RubberStamps", .fieldLinkNest RX0 66 RX7 "words" "LRubberStamps$Rows;" "RubberStamps", .fieldLinkNest RX0 69 RX6 "count" "I" "RubberStamps", .fieldLinkNest RX0 99 RX7 "inks" "LRubberStamps$Inks;" "RubberStamps", .fieldLinkNest RX1 25 RX7 "stamps" "LRubberStamps$Rows;" "RubberStamps", .fieldLinkNest RX1 31 RX6 "count" "I" "RubberStamps", .fieldLinkNest RX1 45 RX7 "words" "LRubberStamps$Rows;" "RubberStamps", .fieldLinkNest RX4 101 RX7 "load" "I" "RubberStamps", .fieldLinkNest RX4 48 RX7 "inks" "LRubberStamps$Inks;" "RubberStamps", .fieldLinkNest RX4 62 RX3 "cleanings" "I" "RubberStamps", .fieldLinkNest RX4 65 RX7 "words" "LRubberStamps$Rows;" "RubberStamps", .fieldLinkNest RX4 69 RX6 "count" "I" "RubberStamps", .fieldLinkNest RX4 90 RX7 "limit" "I" "RubberStamps", .fieldLinkNest RX5 37 RX7 "words" "LRubberStamps$Rows;" "RubberStamps", .fieldLinkNest RX5 71 RX7 "stamps" "LRubberStamps$Rows;" "RubberStamps", .fieldLinkNest RX7 41 RX6 "count" "I" "RubberStamps", .methodLinkNest RX8 107 ⟨RX6, "has", "(I)Z"⟩ "RubberStamps", .methodLinkNest RX8 116 ⟨RX6, "hasPart", "(III)Z"⟩ "RubberStamps", .methodLinkNest RX8 122 ⟨RX6, "isFull", "()Z"⟩ "RubberStamps", .methodLinkNest RX8 128 ⟨RX7, "addPart", "(III)V"⟩ "RubberStamps", .methodLinkNest RX8 134 ⟨RX7, "takeOutStamp", "(I)V"⟩ "RubberStamps", .methodLinkNest RX8 138 ⟨RX7, "takeOutWord", "(I)V"⟩ "RubberStamps", .methodLinkNest RX8 143 ⟨RX7, "colorOf", "(I)I"⟩ "RubberStamps", .methodLinkNest RX8 147 ⟨RX7, "paint", "(II)V"⟩ "RubberStamps", .methodLinkNest RX8 15 ⟨RX7, "<init>", "()V"⟩ "RubberStamps", .methodLinkNest RX8 162 ⟨RX3, "wash", "(I)Z"⟩ "RubberStamps", .methodLinkNest RX8 176 ⟨RX6, "hasLetter", "(II)Z"⟩ "RubberStamps", .methodLinkNest RX8 195 ⟨RX6, "letterAt", "(II)I"⟩ "RubberStamps", .methodLinkNest RX8 207 ⟨RX5, "codeAt", "(I)I"⟩ "RubberStamps", .methodLinkNest RX8 210 ⟨RX5, "isPossible", "(LRubberStamps$Inks;I)Z"⟩ "RubberStamps", .methodLinkNest RX8 216 ⟨RX5, "carryOut", "(LRubberStamps$Inks;II)V"⟩ "RubberStamps", .methodLinkNest RX8 223 ⟨RX7, "pressesLeft", "(LRubberStamps$Inks;)I"⟩ "RubberStamps", .methodLinkNest RX8 235 ⟨RX4, "search", "(LRubberStamps$Sheet;LRubberStamps$Fits;)I"⟩ "RubberStamps", .methodLinkNest RX8 241 ⟨RX4, "wordAt", "(I)I"⟩ "RubberStamps", .methodLinkNest RX8 246 ⟨RX0, "search", "(LRubberStamps$Sheet;I)V"⟩ "RubberStamps", .methodLinkNest RX8 25 ⟨RX2, "<init>", "()V"⟩ "RubberStamps", .methodLinkNest RX8 261 ⟨RX6, "lengthOf", "(I)I"⟩ "RubberStamps", .methodLinkNest RX8 264 ⟨RX5, "measure", "(LRubberStamps$Fits;III)I"⟩ "RubberStamps", .methodLinkNest RX8 271 ⟨RX2, "pop", "(LRubberStamps$Sheet;)V"⟩ "RubberStamps", .methodLinkNest RX8 289 ⟨RX7, "empty", "()V"⟩ "RubberStamps", .methodLinkNest RX8 300 ⟨RX6, "addLetter", "(I)Z"⟩ "RubberStamps", .methodLinkNest RX8 303 ⟨RX6, "open", "()Z"⟩ "RubberStamps", .methodLinkNest RX8 319 ⟨RX7, "isWornOut", "(LRubberStamps$Inks;I)Z"⟩ "RubberStamps", .methodLinkNest RX8 32 ⟨RX1, "<init>", "()V"⟩ "RubberStamps", .methodLinkNest RX8 322 ⟨RX3, "inkOf", "(I)I"⟩ "RubberStamps", .methodLinkNest RX8 325 ⟨RX3, "amountOf", "(I)I"⟩ "RubberStamps", .methodLinkNest RX8 328 ⟨RX3, "wearOf", "(I)I"⟩ "RubberStamps", .methodLinkNest RX8 335 ⟨RX3, "copyFrom", "(LRubberStamps$Inks;)V"⟩ "RubberStamps", .methodLinkNest RX8 339 ⟨RX5, "find", "(LRubberStamps$Sheet;LRubberStamps$Fits;II)V"⟩ "RubberStamps", .methodLinkNest RX8 39 ⟨RX5, "<init>", "()V"⟩ "RubberStamps", .methodLinkNest RX8 46 ⟨RX3, "<init>", "()V"⟩ "RubberStamps", .methodLinkNest RX8 53 ⟨RX4, "<init>", "()V"⟩ "RubberStamps", .methodLinkNest RX8 60 ⟨RX0, "<init>", "()V"⟩ "RubberStamps", .methodLinkNest RX8 85 ⟨RX2, "push", "(LRubberStamps$Sheet;)V"⟩ "RubberStamps", .methodLinkNest RX8 89 ⟨RX7, "takeItems", "(LRubberStamps$Sheet;)V"⟩ "RubberStamps", .methodLinkNest RX8 92 ⟨RX1, "rebuild", "(LRubberStamps$Sheet;)V"⟩ "RubberStamps", .methodLinkNest RX0 103 ⟨RX7, "pressesLeft", "(LRubberStamps$Inks;)I"⟩ "RubberStamps", .methodLinkNest RX0 107 ⟨RX5, "measure", "(LRubberStamps$Fits;III)I"⟩ "RubberStamps", .methodLinkNest RX0 11 ⟨RX7, "<init>", "()V"⟩ "RubberStamps", .methodLinkNest RX0 20 ⟨RX1, "<init>", "()V"⟩ "RubberStamps", .methodLinkNest RX0 27 ⟨RX5, "<init>", "()V"⟩ "RubberStamps", .methodLinkNest RX0 49 ⟨RX6, "isFull", "()Z"⟩ "RubberStamps", .methodLinkNest RX0 55 ⟨RX7, "copyFrom", "(LRubberStamps$Sheet;)V"⟩ "RubberStamps", .methodLinkNest RX0 59 ⟨RX1, "rebuild", "(LRubberStamps$Sheet;)V"⟩ "RubberStamps", .methodLinkNest RX0 72 ⟨RX6, "lengthOf", "(I)I"⟩ "RubberStamps", .methodLinkNest RX0 84 ⟨RX7, "addPart", "(III)V"⟩ "RubberStamps", .methodLinkNest RX0 88 ⟨RX1, "add", "(LRubberStamps$Sheet;I)V"⟩ "RubberStamps", .methodLinkNest RX0 92 ⟨RX7, "takeOutStamp", "(I)V"⟩ "RubberStamps", .methodLinkNest RX0 96 ⟨RX1, "erase", "(I)V"⟩ "RubberStamps", .methodLinkNest RX1 41 ⟨RX6, "lengthOf", "(I)I"⟩ "RubberStamps", .methodLinkNest RX1 52 ⟨RX8, "printedLetter", "(LRubberStamps$Rows;IIZ)I"⟩ "RubberStamps", .methodLinkNest RX1 56 ⟨RX6, "letterAt", "(II)I"⟩ "RubberStamps", .methodLinkNest RX1 60 ⟨RX8, "pressesOf", "(I)I"⟩ "RubberStamps", .methodLinkNest RX2 17 ⟨RX7, "<init>", "()V"⟩ "RubberStamps", .methodLinkNest RX2 25 ⟨RX7, "copyFrom", "(LRubberStamps$Sheet;)V"⟩ "RubberStamps", .methodLinkNest RX4 104 ⟨RX5, "carryOut", "(LRubberStamps$Inks;II)V"⟩ "RubberStamps", .methodLinkNest RX4 33 ⟨RX3, "<init>", "()V"⟩ "RubberStamps", .methodLinkNest RX4 34 ⟨RX5, "<init>", "()V"⟩ "RubberStamps", .methodLinkNest RX4 54 ⟨RX3, "copyFrom", "(LRubberStamps$Inks;)V"⟩ "RubberStamps", .methodLinkNest RX4 82 ⟨RX7, "pressesLeft", "(LRubberStamps$Inks;)I"⟩ "RubberStamps", .methodLinkNest RX4 86 ⟨RX5, "find", "(LRubberStamps$Sheet;LRubberStamps$Fits;II)V"⟩ "RubberStamps", .methodLinkNest RX4 93 ⟨RX5, "isPossible", "(LRubberStamps$Inks;I)Z"⟩ "RubberStamps", .methodLinkNest RX4 97 ⟨RX7, "colorOf", "(I)I"⟩ "RubberStamps", .methodLinkNest RX5 25 ⟨RX1, "at", "(III)I"⟩ "RubberStamps", .methodLinkNest RX5 43 ⟨RX6, "lengthOf", "(I)I"⟩ "RubberStamps", .methodLinkNest RX5 65 ⟨RX3, "isNumber", "(I)Z"⟩ "RubberStamps", .methodLinkNest RX5 74 ⟨RX3, "wearOf", "(I)I"⟩ "RubberStamps", .methodLinkNest RX5 77 ⟨RX3, "pressOnce", "(III)V"⟩ "RubberStamps", .methodLinkNest RX7 11 ⟨RX6, "<init>", "(II)V"⟩ "RubberStamps", .methodLinkNest RX7 29 ⟨RX3, "<init>", "()V"⟩ "RubberStamps", .methodLinkNest RX7 44 ⟨RX6, "open", "()Z"⟩ "RubberStamps", .methodLinkNest RX7 48 ⟨RX6, "letterAt", "(II)I"⟩ "RubberStamps", .methodLinkNest RX7 52 ⟨RX6, "addLetter", "(I)Z"⟩ "RubberStamps", .methodLinkNest RX7 56 ⟨RX3, "renew", "(I)V"⟩ "RubberStamps", .methodLinkNest RX7 60 ⟨RX6, "takeOut", "(I)V"⟩ "RubberStamps", .methodLinkNest RX7 63 ⟨RX3, "takeOut", "(I)V"⟩ "RubberStamps", .methodLinkNest RX7 70 ⟨RX3, "wearOf", "(I)I"⟩ "RubberStamps", .methodLinkNest RX7 78 ⟨RX8, "pressesOf", "(I)I"⟩ "RubberStamps", .methodLinkNest RX7 81 ⟨RX6, "copyFrom", "(LRubberStamps$Rows;)V"⟩ "RubberStamps", .methodLinkNest RX7 85 ⟨RX3, "copyFrom", "(LRubberStamps$Inks;)V"⟩ "RubberStamps", .arrayOver (.object RX7), .arrayOver (.object RX3), .arrayOver (.object RX5)]
set_option maxRecDepth 100000 in
theorem NW_in : ∀ w ∈ NW, w ∈ lw_tbl := by decide +kernel
theorem NW_ok : ∀ w ∈ NW, (w.onTables || (match w with | .arrayOver _ => true | _ => false)) = true := by decide +kernel
def COK (c : Nat) : Prop := vwCl[c]? = some (RC c, TC c, fcn c) ∧ (∀ w ∈ u_ws (RC c) (TC c) (fcn c), w ∈ wsL_law) ∧ (∀ k, k < fcn c → parseFieldDescriptor (TC c k).2.2.1 = some (yC c k)) ∧ (∀ a, a < fcn c → ∀ b, b < fcn c → a ≠ b → (TC c a).2.1 ≠ (TC c b).2.1)
theorem cok_0 : COK 0 := ⟨rfl, inlX0, tyX0_ok, nmX0⟩
theorem cok_1 : COK 1 := ⟨rfl, inlX1, tyX1_ok, nmX1⟩
theorem cok_2 : COK 2 := ⟨rfl, inlX2, tyX2_ok, nmX2⟩
theorem cok_3 : COK 3 := ⟨rfl, inlX3, tyX3_ok, nmX3⟩
theorem cok_4 : COK 4 := ⟨rfl, inlX4, tyX4_ok, nmX4⟩
theorem cok_5 : COK 5 := ⟨rfl, inlX5, tyX5_ok, nmX5⟩
theorem cok_6 : COK 6 := ⟨rfl, inlX6, tyX6_ok, nmX6⟩
theorem cok_7 : COK 7 := ⟨rfl, inlX7, tyX7_ok, nmX7⟩
theorem cok_8 : COK 8 := ⟨rfl, inlX8, tyX8_ok, nmX8⟩
theorem cok_9 : COK 9 := ⟨rfl, inlX9, tyX9_ok, nmX9⟩
theorem cokC_10 : ∀ a, a < 10 → COK a := lt_s (lt_s (lt_s (lt_s (lt_s (lt_s (lt_s (lt_s (lt_s (lt_s (lt_0) (cok_0)) (cok_1)) (cok_2)) (cok_3)) (cok_4)) (cok_5)) (cok_6)) (cok_7)) (cok_8)) (cok_9)
theorem cok : ∀ a, a < 10 → COK a := cokC_10
def FOK (o cp q : Nat) : Prop := q / 100 < 10 ∧ q % 100 < fcn (q / 100) ∧ (Cond.fieldLink (RC o) cp (TC (q / 100) (q % 100)).1 (TC (q / 100) (q % 100)).2.1 (TC (q / 100) (q % 100)).2.2.1 ∈ wsL_law ∨ Cond.fieldLinkNest (RC o) cp (TC (q / 100) (q % 100)).1 (TC (q / 100) (q % 100)).2.1 (TC (q / 100) (q % 100)).2.2.1 "RubberStamps" ∈ NW)
set_option maxRecDepth 100000 in
theorem fok_0_0 : FOK 0 12 0 := ⟨by decide, by decide, Or.inl (List.mem_of_getElem? (i := 108) rfl)⟩
set_option maxRecDepth 100000 in
theorem fok_0_1 : FOK 0 21 1 := ⟨by decide, by decide, Or.inl (List.mem_of_getElem? (i := 110) rfl)⟩
set_option maxRecDepth 100000 in
theorem fok_0_2 : FOK 0 28 2 := ⟨by decide, by decide, Or.inl (List.mem_of_getElem? (i := 112) rfl)⟩
set_option maxRecDepth 100000 in
theorem fok_0_3 : FOK 0 32 3 := ⟨by decide, by decide, Or.inl (List.mem_of_getElem? (i := 771) rfl)⟩
set_option maxRecDepth 100000 in
theorem fok_0_4 : FOK 0 36 4 := ⟨by decide, by decide, Or.inl (List.mem_of_getElem? (i := 772) rfl)⟩
set_option maxRecDepth 100000 in
theorem fok_0_5 : FOK 0 39 5 := ⟨by decide, by decide, Or.inl (List.mem_of_getElem? (i := 773) rfl)⟩
set_option maxRecDepth 100000 in
theorem fok_0_6 : FOK 0 42 6 := ⟨by decide, by decide, Or.inl (List.mem_of_getElem? (i := 774) rfl)⟩
set_option maxRecDepth 100000 in
theorem fok_0_700 : FOK 0 45 700 := ⟨by decide, by decide, Or.inr (List.mem_of_getElem? (i := 15) rfl)⟩
set_option maxRecDepth 100000 in
theorem fok_0_701 : FOK 0 66 701 := ⟨by decide, by decide, Or.inr (List.mem_of_getElem? (i := 16) rfl)⟩
set_option maxRecDepth 100000 in
theorem fok_0_604 : FOK 0 69 604 := ⟨by decide, by decide, Or.inr (List.mem_of_getElem? (i := 17) rfl)⟩
set_option maxRecDepth 100000 in
theorem fok_0_703 : FOK 0 99 703 := ⟨by decide, by decide, Or.inr (List.mem_of_getElem? (i := 18) rfl)⟩
set_option maxRecDepth 100000 in
theorem fok_1_100 : FOK 1 11 100 := ⟨by decide, by decide, Or.inl (List.mem_of_getElem? (i := 86) rfl)⟩
set_option maxRecDepth 100000 in
theorem fok_1_700 : FOK 1 25 700 := ⟨by decide, by decide, Or.inr (List.mem_of_getElem? (i := 19) rfl)⟩
set_option maxRecDepth 100000 in
theorem fok_1_604 : FOK 1 31 604 := ⟨by decide, by decide, Or.inr (List.mem_of_getElem? (i := 20) rfl)⟩
set_option maxRecDepth 100000 in
theorem fok_1_701 : FOK 1 45 701 := ⟨by decide, by decide, Or.inr (List.mem_of_getElem? (i := 21) rfl)⟩
set_option maxRecDepth 100000 in
theorem fok_2_200 : FOK 2 11 200 := ⟨by decide, by decide, Or.inl (List.mem_of_getElem? (i := 82) rfl)⟩
set_option maxRecDepth 100000 in
theorem fok_2_201 : FOK 2 18 201 := ⟨by decide, by decide, Or.inl (List.mem_of_getElem? (i := 205) rfl)⟩
set_option maxRecDepth 100000 in
theorem fok_3_300 : FOK 3 9 300 := ⟨by decide, by decide, Or.inl (List.mem_of_getElem? (i := 71) rfl)⟩
set_option maxRecDepth 100000 in
theorem fok_3_301 : FOK 3 15 301 := ⟨by decide, by decide, Or.inl (List.mem_of_getElem? (i := 72) rfl)⟩
set_option maxRecDepth 100000 in
theorem fok_3_302 : FOK 3 18 302 := ⟨by decide, by decide, Or.inl (List.mem_of_getElem? (i := 73) rfl)⟩
set_option maxRecDepth 100000 in
theorem fok_3_305 : FOK 3 37 305 := ⟨by decide, by decide, Or.inl (List.mem_of_getElem? (i := 231) rfl)⟩
set_option maxRecDepth 100000 in
theorem fok_3_304 : FOK 3 41 304 := ⟨by decide, by decide, Or.inl (List.mem_of_getElem? (i := 230) rfl)⟩
set_option maxRecDepth 100000 in
theorem fok_3_303 : FOK 3 44 303 := ⟨by decide, by decide, Or.inl (List.mem_of_getElem? (i := 229) rfl)⟩
set_option maxRecDepth 100000 in
theorem fok_4_400 : FOK 4 11 400 := ⟨by decide, by decide, Or.inl (List.mem_of_getElem? (i := 98) rfl)⟩
set_option maxRecDepth 100000 in
theorem fok_4_401 : FOK 4 19 401 := ⟨by decide, by decide, Or.inl (List.mem_of_getElem? (i := 100) rfl)⟩
set_option maxRecDepth 100000 in
theorem fok_4_402 : FOK 4 23 402 := ⟨by decide, by decide, Or.inl (List.mem_of_getElem? (i := 101) rfl)⟩
set_option maxRecDepth 100000 in
theorem fok_4_403 : FOK 4 27 403 := ⟨by decide, by decide, Or.inl (List.mem_of_getElem? (i := 102) rfl)⟩
set_option maxRecDepth 100000 in
theorem fok_4_404 : FOK 4 30 404 := ⟨by decide, by decide, Or.inl (List.mem_of_getElem? (i := 103) rfl)⟩
set_option maxRecDepth 100000 in
theorem fok_4_405 : FOK 4 41 405 := ⟨by decide, by decide, Or.inl (List.mem_of_getElem? (i := 714) rfl)⟩
set_option maxRecDepth 100000 in
theorem fok_4_406 : FOK 4 45 406 := ⟨by decide, by decide, Or.inl (List.mem_of_getElem? (i := 715) rfl)⟩
set_option maxRecDepth 100000 in
theorem fok_4_703 : FOK 4 48 703 := ⟨by decide, by decide, Or.inr (List.mem_of_getElem? (i := 23) rfl)⟩
set_option maxRecDepth 100000 in
theorem fok_4_305 : FOK 4 62 305 := ⟨by decide, by decide, Or.inr (List.mem_of_getElem? (i := 24) rfl)⟩
set_option maxRecDepth 100000 in
theorem fok_4_701 : FOK 4 65 701 := ⟨by decide, by decide, Or.inr (List.mem_of_getElem? (i := 25) rfl)⟩
set_option maxRecDepth 100000 in
theorem fok_4_604 : FOK 4 69 604 := ⟨by decide, by decide, Or.inr (List.mem_of_getElem? (i := 26) rfl)⟩
set_option maxRecDepth 100000 in
theorem fok_4_704 : FOK 4 90 704 := ⟨by decide, by decide, Or.inr (List.mem_of_getElem? (i := 27) rfl)⟩
set_option maxRecDepth 100000 in
theorem fok_4_705 : FOK 4 101 705 := ⟨by decide, by decide, Or.inr (List.mem_of_getElem? (i := 22) rfl)⟩
set_option maxRecDepth 100000 in
theorem fok_5_500 : FOK 5 9 500 := ⟨by decide, by decide, Or.inl (List.mem_of_getElem? (i := 90) rfl)⟩
set_option maxRecDepth 100000 in
theorem fok_5_501 : FOK 5 15 501 := ⟨by decide, by decide, Or.inl (List.mem_of_getElem? (i := 91) rfl)⟩
set_option maxRecDepth 100000 in
theorem fok_5_502 : FOK 5 18 502 := ⟨by decide, by decide, Or.inl (List.mem_of_getElem? (i := 92) rfl)⟩
set_option maxRecDepth 100000 in
theorem fok_5_503 : FOK 5 21 503 := ⟨by decide, by decide, Or.inl (List.mem_of_getElem? (i := 93) rfl)⟩
set_option maxRecDepth 100000 in
theorem fok_5_701 : FOK 5 37 701 := ⟨by decide, by decide, Or.inr (List.mem_of_getElem? (i := 28) rfl)⟩
set_option maxRecDepth 100000 in
theorem fok_5_700 : FOK 5 71 700 := ⟨by decide, by decide, Or.inr (List.mem_of_getElem? (i := 29) rfl)⟩
set_option maxRecDepth 100000 in
theorem fok_6_602 : FOK 6 9 602 := ⟨by decide, by decide, Or.inl (List.mem_of_getElem? (i := 60) rfl)⟩
set_option maxRecDepth 100000 in
theorem fok_6_603 : FOK 6 15 603 := ⟨by decide, by decide, Or.inl (List.mem_of_getElem? (i := 61) rfl)⟩
set_option maxRecDepth 100000 in
theorem fok_6_600 : FOK 6 24 600 := ⟨by decide, by decide, Or.inl (List.mem_of_getElem? (i := 66) rfl)⟩
set_option maxRecDepth 100000 in
theorem fok_6_601 : FOK 6 28 601 := ⟨by decide, by decide, Or.inl (List.mem_of_getElem? (i := 67) rfl)⟩
set_option maxRecDepth 100000 in
theorem fok_6_604 : FOK 6 31 604 := ⟨by decide, by decide, Or.inl (List.mem_of_getElem? (i := 188) rfl)⟩
set_option maxRecDepth 100000 in
theorem fok_7_700 : FOK 7 14 700 := ⟨by decide, by decide, Or.inl (List.mem_of_getElem? (i := 50) rfl)⟩
set_option maxRecDepth 100000 in
theorem fok_7_701 : FOK 7 20 701 := ⟨by decide, by decide, Or.inl (List.mem_of_getElem? (i := 51) rfl)⟩
set_option maxRecDepth 100000 in
theorem fok_7_702 : FOK 7 23 702 := ⟨by decide, by decide, Or.inl (List.mem_of_getElem? (i := 52) rfl)⟩
set_option maxRecDepth 100000 in
theorem fok_7_703 : FOK 7 30 703 := ⟨by decide, by decide, Or.inl (List.mem_of_getElem? (i := 54) rfl)⟩
set_option maxRecDepth 100000 in
theorem fok_7_704 : FOK 7 34 704 := ⟨by decide, by decide, Or.inl (List.mem_of_getElem? (i := 55) rfl)⟩
set_option maxRecDepth 100000 in
theorem fok_7_705 : FOK 7 38 705 := ⟨by decide, by decide, Or.inl (List.mem_of_getElem? (i := 56) rfl)⟩
set_option maxRecDepth 100000 in
theorem fok_7_604 : FOK 7 41 604 := ⟨by decide, by decide, Or.inr (List.mem_of_getElem? (i := 30) rfl)⟩
set_option maxRecDepth 100000 in
theorem fok_8_800 : FOK 8 9 800 := ⟨by decide, by decide, Or.inl (List.mem_of_getElem? (i := 14) rfl)⟩
set_option maxRecDepth 100000 in
theorem fok_8_802 : FOK 8 16 802 := ⟨by decide, by decide, Or.inl (List.mem_of_getElem? (i := 18) rfl)⟩
set_option maxRecDepth 100000 in
theorem fok_8_803 : FOK 8 20 803 := ⟨by decide, by decide, Or.inl (List.mem_of_getElem? (i := 19) rfl)⟩
set_option maxRecDepth 100000 in
theorem fok_8_804 : FOK 8 26 804 := ⟨by decide, by decide, Or.inl (List.mem_of_getElem? (i := 23) rfl)⟩
set_option maxRecDepth 100000 in
theorem fok_8_805 : FOK 8 33 805 := ⟨by decide, by decide, Or.inl (List.mem_of_getElem? (i := 27) rfl)⟩
set_option maxRecDepth 100000 in
theorem fok_8_806 : FOK 8 40 806 := ⟨by decide, by decide, Or.inl (List.mem_of_getElem? (i := 31) rfl)⟩
set_option maxRecDepth 100000 in
theorem fok_8_807 : FOK 8 47 807 := ⟨by decide, by decide, Or.inl (List.mem_of_getElem? (i := 35) rfl)⟩
set_option maxRecDepth 100000 in
theorem fok_8_808 : FOK 8 54 808 := ⟨by decide, by decide, Or.inl (List.mem_of_getElem? (i := 39) rfl)⟩
set_option maxRecDepth 100000 in
theorem fok_8_809 : FOK 8 61 809 := ⟨by decide, by decide, Or.inl (List.mem_of_getElem? (i := 43) rfl)⟩
set_option maxRecDepth 100000 in
theorem fok_8_801 : FOK 8 72 801 := ⟨by decide, by decide, Or.inl (List.mem_of_getElem? (i := 142) rfl)⟩
set_option maxRecDepth 100000 in
theorem fok_8_700 : FOK 8 95 700 := ⟨by decide, by decide, Or.inr (List.mem_of_getElem? (i := 13) rfl)⟩
set_option maxRecDepth 100000 in
theorem fok_8_604 : FOK 8 99 604 := ⟨by decide, by decide, Or.inr (List.mem_of_getElem? (i := 14) rfl)⟩
set_option maxRecDepth 100000 in
theorem fok_8_701 : FOK 8 104 701 := ⟨by decide, by decide, Or.inr (List.mem_of_getElem? (i := 0) rfl)⟩
set_option maxRecDepth 100000 in
theorem fok_8_704 : FOK 8 153 704 := ⟨by decide, by decide, Or.inr (List.mem_of_getElem? (i := 1) rfl)⟩
set_option maxRecDepth 100000 in
theorem fok_8_705 : FOK 8 156 705 := ⟨by decide, by decide, Or.inr (List.mem_of_getElem? (i := 2) rfl)⟩
set_option maxRecDepth 100000 in
theorem fok_8_703 : FOK 8 159 703 := ⟨by decide, by decide, Or.inr (List.mem_of_getElem? (i := 3) rfl)⟩
set_option maxRecDepth 100000 in
theorem fok_8_503 : FOK 8 202 503 := ⟨by decide, by decide, Or.inr (List.mem_of_getElem? (i := 4) rfl)⟩
set_option maxRecDepth 100000 in
theorem fok_8_3 : FOK 8 249 3 := ⟨by decide, by decide, Or.inr (List.mem_of_getElem? (i := 5) rfl)⟩
set_option maxRecDepth 100000 in
theorem fok_8_4 : FOK 8 252 4 := ⟨by decide, by decide, Or.inr (List.mem_of_getElem? (i := 6) rfl)⟩
set_option maxRecDepth 100000 in
theorem fok_8_5 : FOK 8 255 5 := ⟨by decide, by decide, Or.inr (List.mem_of_getElem? (i := 7) rfl)⟩
set_option maxRecDepth 100000 in
theorem fok_8_6 : FOK 8 258 6 := ⟨by decide, by decide, Or.inr (List.mem_of_getElem? (i := 8) rfl)⟩
set_option maxRecDepth 100000 in
theorem fok_8_201 : FOK 8 268 201 := ⟨by decide, by decide, Or.inr (List.mem_of_getElem? (i := 9) rfl)⟩
set_option maxRecDepth 100000 in
theorem fok_8_303 : FOK 8 306 303 := ⟨by decide, by decide, Or.inr (List.mem_of_getElem? (i := 10) rfl)⟩
set_option maxRecDepth 100000 in
theorem fok_8_304 : FOK 8 307 304 := ⟨by decide, by decide, Or.inr (List.mem_of_getElem? (i := 11) rfl)⟩
set_option maxRecDepth 100000 in
theorem fok_8_305 : FOK 8 310 305 := ⟨by decide, by decide, Or.inr (List.mem_of_getElem? (i := 12) rfl)⟩
set_option maxRecDepth 100000 in
theorem fok_9_900 : FOK 9 7 900 := ⟨by decide, by decide, Or.inl (List.mem_of_getElem? (i := 117) rfl)⟩
set_option maxRecDepth 100000 in
theorem fok_9_901 : FOK 9 13 901 := ⟨by decide, by decide, Or.inl (List.mem_of_getElem? (i := 118) rfl)⟩
set_option maxRecDepth 100000 in
theorem fok_9_902 : FOK 9 16 902 := ⟨by decide, by decide, Or.inl (List.mem_of_getElem? (i := 119) rfl)⟩
set_option maxRecDepth 100000 in
theorem fok_9_903 : FOK 9 19 903 := ⟨by decide, by decide, Or.inl (List.mem_of_getElem? (i := 120) rfl)⟩
set_option maxRecDepth 100000 in
theorem fok_9_906 : FOK 9 22 906 := ⟨by decide, by decide, Or.inl (List.mem_of_getElem? (i := 121) rfl)⟩
set_option maxRecDepth 100000 in
theorem fok_9_909 : FOK 9 25 909 := ⟨by decide, by decide, Or.inl (List.mem_of_getElem? (i := 122) rfl)⟩
set_option maxRecDepth 100000 in
theorem fok_9_910 : FOK 9 28 910 := ⟨by decide, by decide, Or.inl (List.mem_of_getElem? (i := 123) rfl)⟩
set_option maxRecDepth 100000 in
theorem fok_9_912 : FOK 9 31 912 := ⟨by decide, by decide, Or.inl (List.mem_of_getElem? (i := 124) rfl)⟩
set_option maxRecDepth 100000 in
theorem fok_9_913 : FOK 9 34 913 := ⟨by decide, by decide, Or.inl (List.mem_of_getElem? (i := 125) rfl)⟩
set_option maxRecDepth 100000 in
theorem fok_9_914 : FOK 9 37 914 := ⟨by decide, by decide, Or.inl (List.mem_of_getElem? (i := 126) rfl)⟩
set_option maxRecDepth 100000 in
theorem fok_9_916 : FOK 9 40 916 := ⟨by decide, by decide, Or.inl (List.mem_of_getElem? (i := 127) rfl)⟩
set_option maxRecDepth 100000 in
theorem fok_9_905 : FOK 9 43 905 := ⟨by decide, by decide, Or.inl (List.mem_of_getElem? (i := 155) rfl)⟩
set_option maxRecDepth 100000 in
theorem fok_9_904 : FOK 9 47 904 := ⟨by decide, by decide, Or.inl (List.mem_of_getElem? (i := 298) rfl)⟩
set_option maxRecDepth 100000 in
theorem fok_9_907 : FOK 9 72 907 := ⟨by decide, by decide, Or.inl (List.mem_of_getElem? (i := 147) rfl)⟩
set_option maxRecDepth 100000 in
theorem fok_9_908 : FOK 9 75 908 := ⟨by decide, by decide, Or.inl (List.mem_of_getElem? (i := 263) rfl)⟩
set_option maxRecDepth 100000 in
theorem fok_9_911 : FOK 9 128 911 := ⟨by decide, by decide, Or.inl (List.mem_of_getElem? (i := 598) rfl)⟩
set_option maxRecDepth 100000 in
theorem fok_9_915 : FOK 9 176 915 := ⟨by decide, by decide, Or.inl (List.mem_of_getElem? (i := 740) rfl)⟩
set_option maxRecDepth 100000 in
theorem fok_9_917 : FOK 9 199 917 := ⟨by decide, by decide, Or.inl (List.mem_of_getElem? (i := 846) rfl)⟩
def KOK (q : Nat) : Prop := q % 100 < fcn (q / 100) → (fk q = 0 ∧ yC (q / 100) (q % 100) = .int) ∨ (fk q = 1 ∧ defaultValue (yC (q / 100) (q % 100)) = .null ∧ ∀ a, fits (yC (q / 100) (q % 100)) (.ref a) = true ∧ fits (yC (q / 100) (q % 100)) .null = true ∧ narrow (yC (q / 100) (q % 100)) (.ref a) = .ref a ∧ narrow (yC (q / 100) (q % 100)) .null = .null) ∨ (fk q = 2 ∧ yC (q / 100) (q % 100) = .long)
theorem kok_0_0 : KOK 0 := fun _ => Or.inr (Or.inl ⟨rfl, rfl, fun _ => ⟨rfl, rfl, rfl, rfl⟩⟩)
theorem kok_0_1 : KOK 1 := fun _ => Or.inr (Or.inl ⟨rfl, rfl, fun _ => ⟨rfl, rfl, rfl, rfl⟩⟩)
theorem kok_0_2 : KOK 2 := fun _ => Or.inr (Or.inl ⟨rfl, rfl, fun _ => ⟨rfl, rfl, rfl, rfl⟩⟩)
theorem kok_0_3 : KOK 3 := fun _ => Or.inl ⟨rfl, rfl⟩
theorem kok_0_4 : KOK 4 := fun _ => Or.inl ⟨rfl, rfl⟩
theorem kok_0_5 : KOK 5 := fun _ => Or.inl ⟨rfl, rfl⟩
theorem kok_0_6 : KOK 6 := fun _ => Or.inl ⟨rfl, rfl⟩
theorem kok_1_0 : KOK 100 := fun _ => Or.inr (Or.inl ⟨rfl, rfl, fun _ => ⟨rfl, rfl, rfl, rfl⟩⟩)
theorem kok_2_0 : KOK 200 := fun _ => Or.inr (Or.inl ⟨rfl, rfl, fun _ => ⟨rfl, rfl, rfl, rfl⟩⟩)
theorem kok_2_1 : KOK 201 := fun _ => Or.inl ⟨rfl, rfl⟩
theorem kok_3_0 : KOK 300 := fun _ => Or.inr (Or.inl ⟨rfl, rfl, fun _ => ⟨rfl, rfl, rfl, rfl⟩⟩)
theorem kok_3_1 : KOK 301 := fun _ => Or.inr (Or.inl ⟨rfl, rfl, fun _ => ⟨rfl, rfl, rfl, rfl⟩⟩)
theorem kok_3_2 : KOK 302 := fun _ => Or.inr (Or.inl ⟨rfl, rfl, fun _ => ⟨rfl, rfl, rfl, rfl⟩⟩)
theorem kok_3_3 : KOK 303 := fun _ => Or.inl ⟨rfl, rfl⟩
theorem kok_3_4 : KOK 304 := fun _ => Or.inl ⟨rfl, rfl⟩
theorem kok_3_5 : KOK 305 := fun _ => Or.inl ⟨rfl, rfl⟩
theorem kok_4_0 : KOK 400 := fun _ => Or.inr (Or.inl ⟨rfl, rfl, fun _ => ⟨rfl, rfl, rfl, rfl⟩⟩)
theorem kok_4_1 : KOK 401 := fun _ => Or.inr (Or.inl ⟨rfl, rfl, fun _ => ⟨rfl, rfl, rfl, rfl⟩⟩)
theorem kok_4_2 : KOK 402 := fun _ => Or.inr (Or.inl ⟨rfl, rfl, fun _ => ⟨rfl, rfl, rfl, rfl⟩⟩)
theorem kok_4_3 : KOK 403 := fun _ => Or.inr (Or.inl ⟨rfl, rfl, fun _ => ⟨rfl, rfl, rfl, rfl⟩⟩)
theorem kok_4_4 : KOK 404 := fun _ => Or.inr (Or.inl ⟨rfl, rfl, fun _ => ⟨rfl, rfl, rfl, rfl⟩⟩)
theorem kok_4_5 : KOK 405 := fun _ => Or.inl ⟨rfl, rfl⟩
theorem kok_4_6 : KOK 406 := fun _ => Or.inl ⟨rfl, rfl⟩
theorem kok_5_0 : KOK 500 := fun _ => Or.inr (Or.inl ⟨rfl, rfl, fun _ => ⟨rfl, rfl, rfl, rfl⟩⟩)
theorem kok_5_1 : KOK 501 := fun _ => Or.inr (Or.inl ⟨rfl, rfl, fun _ => ⟨rfl, rfl, rfl, rfl⟩⟩)
theorem kok_5_2 : KOK 502 := fun _ => Or.inr (Or.inl ⟨rfl, rfl, fun _ => ⟨rfl, rfl, rfl, rfl⟩⟩)
theorem kok_5_3 : KOK 503 := fun _ => Or.inl ⟨rfl, rfl⟩
theorem kok_6_0 : KOK 600 := fun _ => Or.inl ⟨rfl, rfl⟩
theorem kok_6_1 : KOK 601 := fun _ => Or.inl ⟨rfl, rfl⟩
theorem kok_6_2 : KOK 602 := fun _ => Or.inr (Or.inl ⟨rfl, rfl, fun _ => ⟨rfl, rfl, rfl, rfl⟩⟩)
theorem kok_6_3 : KOK 603 := fun _ => Or.inr (Or.inl ⟨rfl, rfl, fun _ => ⟨rfl, rfl, rfl, rfl⟩⟩)
theorem kok_6_4 : KOK 604 := fun _ => Or.inl ⟨rfl, rfl⟩
theorem kok_7_0 : KOK 700 := fun _ => Or.inr (Or.inl ⟨rfl, rfl, fun _ => ⟨rfl, rfl, rfl, rfl⟩⟩)
theorem kok_7_1 : KOK 701 := fun _ => Or.inr (Or.inl ⟨rfl, rfl, fun _ => ⟨rfl, rfl, rfl, rfl⟩⟩)
theorem kok_7_2 : KOK 702 := fun _ => Or.inr (Or.inl ⟨rfl, rfl, fun _ => ⟨rfl, rfl, rfl, rfl⟩⟩)
theorem kok_7_3 : KOK 703 := fun _ => Or.inr (Or.inl ⟨rfl, rfl, fun _ => ⟨rfl, rfl, rfl, rfl⟩⟩)
theorem kok_7_4 : KOK 704 := fun _ => Or.inl ⟨rfl, rfl⟩
theorem kok_7_5 : KOK 705 := fun _ => Or.inl ⟨rfl, rfl⟩
theorem kok_8_0 : KOK 800 := fun _ => Or.inr (Or.inl ⟨rfl, rfl, fun _ => ⟨rfl, rfl, rfl, rfl⟩⟩)
theorem kok_8_1 : KOK 801 := fun _ => Or.inl ⟨rfl, rfl⟩
theorem kok_8_2 : KOK 802 := fun _ => Or.inr (Or.inl ⟨rfl, rfl, fun _ => ⟨rfl, rfl, rfl, rfl⟩⟩)
theorem kok_8_3 : KOK 803 := fun _ => Or.inr (Or.inl ⟨rfl, rfl, fun _ => ⟨rfl, rfl, rfl, rfl⟩⟩)
theorem kok_8_4 : KOK 804 := fun _ => Or.inr (Or.inl ⟨rfl, rfl, fun _ => ⟨rfl, rfl, rfl, rfl⟩⟩)
theorem kok_8_5 : KOK 805 := fun _ => Or.inr (Or.inl ⟨rfl, rfl, fun _ => ⟨rfl, rfl, rfl, rfl⟩⟩)
theorem kok_8_6 : KOK 806 := fun _ => Or.inr (Or.inl ⟨rfl, rfl, fun _ => ⟨rfl, rfl, rfl, rfl⟩⟩)
theorem kok_8_7 : KOK 807 := fun _ => Or.inr (Or.inl ⟨rfl, rfl, fun _ => ⟨rfl, rfl, rfl, rfl⟩⟩)
theorem kok_8_8 : KOK 808 := fun _ => Or.inr (Or.inl ⟨rfl, rfl, fun _ => ⟨rfl, rfl, rfl, rfl⟩⟩)
theorem kok_8_9 : KOK 809 := fun _ => Or.inr (Or.inl ⟨rfl, rfl, fun _ => ⟨rfl, rfl, rfl, rfl⟩⟩)
theorem kok_9_0 : KOK 900 := fun _ => Or.inr (Or.inl ⟨rfl, rfl, fun _ => ⟨rfl, rfl, rfl, rfl⟩⟩)
theorem kok_9_1 : KOK 901 := fun _ => Or.inr (Or.inl ⟨rfl, rfl, fun _ => ⟨rfl, rfl, rfl, rfl⟩⟩)
theorem kok_9_2 : KOK 902 := fun _ => Or.inr (Or.inl ⟨rfl, rfl, fun _ => ⟨rfl, rfl, rfl, rfl⟩⟩)
theorem kok_9_3 : KOK 903 := fun _ => Or.inr (Or.inl ⟨rfl, rfl, fun _ => ⟨rfl, rfl, rfl, rfl⟩⟩)
theorem kok_9_4 : KOK 904 := fun _ => Or.inl ⟨rfl, rfl⟩
theorem kok_9_5 : KOK 905 := fun _ => Or.inl ⟨rfl, rfl⟩
theorem kok_9_6 : KOK 906 := fun _ => Or.inr (Or.inl ⟨rfl, rfl, fun _ => ⟨rfl, rfl, rfl, rfl⟩⟩)
theorem kok_9_7 : KOK 907 := fun _ => Or.inl ⟨rfl, rfl⟩
theorem kok_9_8 : KOK 908 := fun _ => Or.inl ⟨rfl, rfl⟩
theorem kok_9_9 : KOK 909 := fun _ => Or.inr (Or.inl ⟨rfl, rfl, fun _ => ⟨rfl, rfl, rfl, rfl⟩⟩)
theorem kok_9_10 : KOK 910 := fun _ => Or.inr (Or.inl ⟨rfl, rfl, fun _ => ⟨rfl, rfl, rfl, rfl⟩⟩)
theorem kok_9_11 : KOK 911 := fun _ => Or.inl ⟨rfl, rfl⟩
theorem kok_9_12 : KOK 912 := fun _ => Or.inr (Or.inl ⟨rfl, rfl, fun _ => ⟨rfl, rfl, rfl, rfl⟩⟩)
theorem kok_9_13 : KOK 913 := fun _ => Or.inr (Or.inl ⟨rfl, rfl, fun _ => ⟨rfl, rfl, rfl, rfl⟩⟩)
theorem kok_9_14 : KOK 914 := fun _ => Or.inr (Or.inl ⟨rfl, rfl, fun _ => ⟨rfl, rfl, rfl, rfl⟩⟩)
theorem kok_9_15 : KOK 915 := fun _ => Or.inl ⟨rfl, rfl⟩
theorem kok_9_16 : KOK 916 := fun _ => Or.inr (Or.inl ⟨rfl, rfl, fun _ => ⟨rfl, rfl, rfl, rfl⟩⟩)
theorem kok_9_17 : KOK 917 := fun _ => Or.inr (Or.inr ⟨rfl, rfl⟩)
theorem kok (c s : Nat) (hc : c < 10) (hs : s < fcn c) : KOK (c * 100 + s) := by
  have h : ∀ c, c < 10 → ∀ s, s < fcn c → KOK (c * 100 + s) := lt_s (lt_s (lt_s (lt_s (lt_s (lt_s (lt_s (lt_s (lt_s (lt_s (lt_0) (lt_s (lt_s (lt_s (lt_s (lt_s (lt_s (lt_s (lt_0) kok_0_0) kok_0_1) kok_0_2) kok_0_3) kok_0_4) kok_0_5) kok_0_6)) (lt_s (lt_0) kok_1_0)) (lt_s (lt_s (lt_0) kok_2_0) kok_2_1)) (lt_s (lt_s (lt_s (lt_s (lt_s (lt_s (lt_0) kok_3_0) kok_3_1) kok_3_2) kok_3_3) kok_3_4) kok_3_5)) (lt_s (lt_s (lt_s (lt_s (lt_s (lt_s (lt_s (lt_0) kok_4_0) kok_4_1) kok_4_2) kok_4_3) kok_4_4) kok_4_5) kok_4_6)) (lt_s (lt_s (lt_s (lt_s (lt_0) kok_5_0) kok_5_1) kok_5_2) kok_5_3)) (lt_s (lt_s (lt_s (lt_s (lt_s (lt_0) kok_6_0) kok_6_1) kok_6_2) kok_6_3) kok_6_4)) (lt_s (lt_s (lt_s (lt_s (lt_s (lt_s (lt_0) kok_7_0) kok_7_1) kok_7_2) kok_7_3) kok_7_4) kok_7_5)) (lt_s (lt_s (lt_s (lt_s (lt_s (lt_s (lt_s (lt_s (lt_s (lt_s (lt_0) kok_8_0) kok_8_1) kok_8_2) kok_8_3) kok_8_4) kok_8_5) kok_8_6) kok_8_7) kok_8_8) kok_8_9)) (lt_s (lt_s (lt_s (lt_s (lt_s (lt_s (lt_s (lt_s (lt_s (lt_s (lt_s (lt_s (lt_s (lt_s (lt_s (lt_s (lt_s (lt_s (lt_0) kok_9_0) kok_9_1) kok_9_2) kok_9_3) kok_9_4) kok_9_5) kok_9_6) kok_9_7) kok_9_8) kok_9_9) kok_9_10) kok_9_11) kok_9_12) kok_9_13) kok_9_14) kok_9_15) kok_9_16) kok_9_17)
  exact h c hc s hs
def fin (q : Nat) : Bool := (TC (q / 100) (q % 100)).2.2.2
def MOK (k : Nat) : Prop := (MN k).cls = RC (mcl k) ∧ Cond.initialized (RC (mcl k)) ∈ wsL_law ∧ (parseMethodDescriptor (MN k).desc).map (fun d => d.parameters.length) = some (mar k) ∧ plainName (MN k).cls = true ∧ ((MN k).cls ≠ "java/lang/invoke/MethodHandle" ∧ (MN k).cls ≠ "java/lang/invoke/VarHandle") ∧ Cond.code (MN k) (MB k) (mml k) (MR k) ∈ wsL_law ∧ (mki k = 0 → Cond.instanceMethod (MN k) ∈ wsL_law ∧ Cond.selects (RC (mcl k)) (MN k) (MN k) ∈ wsL_law) ∧ (mki k = 1 → Cond.static (MN k) ∈ wsL_law) ∧ (mki k = 2 → Cond.instanceMethod (MN k) ∈ wsL_law ∧ (MN k).name = "<init>")
set_option maxRecDepth 100000 in
theorem mok_0 : MOK 0 := ⟨rfl, (List.mem_of_getElem? (i := 42) rfl), by decide +kernel, by decide +kernel, ⟨by decide +kernel, by decide +kernel⟩, (List.mem_of_getElem? (i := 105) rfl), fun h => absurd h (by decide), fun h => absurd h (by decide), fun _ => ⟨(List.mem_of_getElem? (i := 104) rfl), rfl⟩⟩
set_option maxRecDepth 100000 in
theorem mok_1 : MOK 1 := ⟨rfl, (List.mem_of_getElem? (i := 42) rfl), by decide +kernel, by decide +kernel, ⟨by decide +kernel, by decide +kernel⟩, (List.mem_of_getElem? (i := 770) rfl), fun _ => ⟨(List.mem_of_getElem? (i := 768) rfl), (List.mem_of_getElem? (i := 769) rfl)⟩, fun h => absurd h (by decide), fun h => absurd h (by decide)⟩
set_option maxRecDepth 100000 in
theorem mok_2 : MOK 2 := ⟨rfl, (List.mem_of_getElem? (i := 42) rfl), by decide +kernel, by decide +kernel, ⟨by decide +kernel, by decide +kernel⟩, (List.mem_of_getElem? (i := 782) rfl), fun _ => ⟨(List.mem_of_getElem? (i := 780) rfl), (List.mem_of_getElem? (i := 781) rfl)⟩, fun h => absurd h (by decide), fun h => absurd h (by decide)⟩
set_option maxRecDepth 100000 in
theorem mok_3 : MOK 3 := ⟨rfl, (List.mem_of_getElem? (i := 42) rfl), by decide +kernel, by decide +kernel, ⟨by decide +kernel, by decide +kernel⟩, (List.mem_of_getElem? (i := 778) rfl), fun _ => ⟨(List.mem_of_getElem? (i := 776) rfl), (List.mem_of_getElem? (i := 777) rfl)⟩, fun h => absurd h (by decide), fun h => absurd h (by decide)⟩
set_option maxRecDepth 100000 in
theorem mok_4 : MOK 4 := ⟨rfl, (List.mem_of_getElem? (i := 42) rfl), by decide +kernel, by decide +kernel, ⟨by decide +kernel, by decide +kernel⟩, (List.mem_of_getElem? (i := 789) rfl), fun _ => ⟨(List.mem_of_getElem? (i := 787) rfl), (List.mem_of_getElem? (i := 788) rfl)⟩, fun h => absurd h (by decide), fun h => absurd h (by decide)⟩
set_option maxRecDepth 100000 in
theorem mok_5 : MOK 5 := ⟨rfl, (List.mem_of_getElem? (i := 26) rfl), by decide +kernel, by decide +kernel, ⟨by decide +kernel, by decide +kernel⟩, (List.mem_of_getElem? (i := 84) rfl), fun h => absurd h (by decide), fun h => absurd h (by decide), fun _ => ⟨(List.mem_of_getElem? (i := 83) rfl), rfl⟩⟩
set_option maxRecDepth 100000 in
theorem mok_6 : MOK 6 := ⟨rfl, (List.mem_of_getElem? (i := 26) rfl), by decide +kernel, by decide +kernel, ⟨by decide +kernel, by decide +kernel⟩, (List.mem_of_getElem? (i := 242) rfl), fun h => absurd h (by decide), fun _ => (List.mem_of_getElem? (i := 241) rfl), fun h => absurd h (by decide)⟩
set_option maxRecDepth 100000 in
theorem mok_7 : MOK 7 := ⟨rfl, (List.mem_of_getElem? (i := 26) rfl), by decide +kernel, by decide +kernel, ⟨by decide +kernel, by decide +kernel⟩, (List.mem_of_getElem? (i := 458) rfl), fun _ => ⟨(List.mem_of_getElem? (i := 456) rfl), (List.mem_of_getElem? (i := 457) rfl)⟩, fun h => absurd h (by decide), fun h => absurd h (by decide)⟩
set_option maxRecDepth 100000 in
theorem mok_8 : MOK 8 := ⟨rfl, (List.mem_of_getElem? (i := 26) rfl), by decide +kernel, by decide +kernel, ⟨by decide +kernel, by decide +kernel⟩, (List.mem_of_getElem? (i := 234) rfl), fun _ => ⟨(List.mem_of_getElem? (i := 232) rfl), (List.mem_of_getElem? (i := 233) rfl)⟩, fun h => absurd h (by decide), fun h => absurd h (by decide)⟩
set_option maxRecDepth 100000 in
theorem mok_9 : MOK 9 := ⟨rfl, (List.mem_of_getElem? (i := 26) rfl), by decide +kernel, by decide +kernel, ⟨by decide +kernel, by decide +kernel⟩, (List.mem_of_getElem? (i := 239) rfl), fun _ => ⟨(List.mem_of_getElem? (i := 237) rfl), (List.mem_of_getElem? (i := 238) rfl)⟩, fun h => absurd h (by decide), fun h => absurd h (by decide)⟩
set_option maxRecDepth 100000 in
theorem mok_10 : MOK 10 := ⟨rfl, (List.mem_of_getElem? (i := 26) rfl), by decide +kernel, by decide +kernel, ⟨by decide +kernel, by decide +kernel⟩, (List.mem_of_getElem? (i := 245) rfl), fun h => absurd h (by decide), fun _ => (List.mem_of_getElem? (i := 244) rfl), fun h => absurd h (by decide)⟩
set_option maxRecDepth 100000 in
theorem mok_11 : MOK 11 := ⟨rfl, (List.mem_of_getElem? (i := 26) rfl), by decide +kernel, by decide +kernel, ⟨by decide +kernel, by decide +kernel⟩, (List.mem_of_getElem? (i := 785) rfl), fun _ => ⟨(List.mem_of_getElem? (i := 783) rfl), (List.mem_of_getElem? (i := 784) rfl)⟩, fun h => absurd h (by decide), fun h => absurd h (by decide)⟩
set_option maxRecDepth 100000 in
theorem mok_12 : MOK 12 := ⟨rfl, (List.mem_of_getElem? (i := 22) rfl), by decide +kernel, by decide +kernel, ⟨by decide +kernel, by decide +kernel⟩, (List.mem_of_getElem? (i := 79) rfl), fun h => absurd h (by decide), fun h => absurd h (by decide), fun _ => ⟨(List.mem_of_getElem? (i := 78) rfl), rfl⟩⟩
set_option maxRecDepth 100000 in
theorem mok_13 : MOK 13 := ⟨rfl, (List.mem_of_getElem? (i := 22) rfl), by decide +kernel, by decide +kernel, ⟨by decide +kernel, by decide +kernel⟩, (List.mem_of_getElem? (i := 204) rfl), fun _ => ⟨(List.mem_of_getElem? (i := 202) rfl), (List.mem_of_getElem? (i := 203) rfl)⟩, fun h => absurd h (by decide), fun h => absurd h (by decide)⟩
set_option maxRecDepth 100000 in
theorem mok_14 : MOK 14 := ⟨rfl, (List.mem_of_getElem? (i := 22) rfl), by decide +kernel, by decide +kernel, ⟨by decide +kernel, by decide +kernel⟩, (List.mem_of_getElem? (i := 209) rfl), fun _ => ⟨(List.mem_of_getElem? (i := 207) rfl), (List.mem_of_getElem? (i := 208) rfl)⟩, fun h => absurd h (by decide), fun h => absurd h (by decide)⟩
set_option maxRecDepth 100000 in
theorem mok_15 : MOK 15 := ⟨rfl, (List.mem_of_getElem? (i := 22) rfl), by decide +kernel, by decide +kernel, ⟨by decide +kernel, by decide +kernel⟩, (List.mem_of_getElem? (i := 819) rfl), fun _ => ⟨(List.mem_of_getElem? (i := 817) rfl), (List.mem_of_getElem? (i := 818) rfl)⟩, fun h => absurd h (by decide), fun h => absurd h (by decide)⟩
set_option maxRecDepth 100000 in
theorem mok_16 : MOK 16 := ⟨rfl, (List.mem_of_getElem? (i := 34) rfl), by decide +kernel, by decide +kernel, ⟨by decide +kernel, by decide +kernel⟩, (List.mem_of_getElem? (i := 69) rfl), fun h => absurd h (by decide), fun h => absurd h (by decide), fun _ => ⟨(List.mem_of_getElem? (i := 68) rfl), rfl⟩⟩
set_option maxRecDepth 100000 in
theorem mok_17 : MOK 17 := ⟨rfl, (List.mem_of_getElem? (i := 34) rfl), by decide +kernel, by decide +kernel, ⟨by decide +kernel, by decide +kernel⟩, (List.mem_of_getElem? (i := 323) rfl), fun h => absurd h (by decide), fun _ => (List.mem_of_getElem? (i := 322) rfl), fun h => absurd h (by decide)⟩
set_option maxRecDepth 100000 in
theorem mok_18 : MOK 18 := ⟨rfl, (List.mem_of_getElem? (i := 34) rfl), by decide +kernel, by decide +kernel, ⟨by decide +kernel, by decide +kernel⟩, (List.mem_of_getElem? (i := 519) rfl), fun _ => ⟨(List.mem_of_getElem? (i := 517) rfl), (List.mem_of_getElem? (i := 518) rfl)⟩, fun h => absurd h (by decide), fun h => absurd h (by decide)⟩
set_option maxRecDepth 100000 in
theorem mok_19 : MOK 19 := ⟨rfl, (List.mem_of_getElem? (i := 34) rfl), by decide +kernel, by decide +kernel, ⟨by decide +kernel, by decide +kernel⟩, (List.mem_of_getElem? (i := 522) rfl), fun _ => ⟨(List.mem_of_getElem? (i := 520) rfl), (List.mem_of_getElem? (i := 521) rfl)⟩, fun h => absurd h (by decide), fun h => absurd h (by decide)⟩
set_option maxRecDepth 100000 in
theorem mok_20 : MOK 20 := ⟨rfl, (List.mem_of_getElem? (i := 34) rfl), by decide +kernel, by decide +kernel, ⟨by decide +kernel, by decide +kernel⟩, (List.mem_of_getElem? (i := 437) rfl), fun _ => ⟨(List.mem_of_getElem? (i := 435) rfl), (List.mem_of_getElem? (i := 436) rfl)⟩, fun h => absurd h (by decide), fun h => absurd h (by decide)⟩
set_option maxRecDepth 100000 in
theorem mok_21 : MOK 21 := ⟨rfl, (List.mem_of_getElem? (i := 34) rfl), by decide +kernel, by decide +kernel, ⟨by decide +kernel, by decide +kernel⟩, (List.mem_of_getElem? (i := 320) rfl), fun _ => ⟨(List.mem_of_getElem? (i := 318) rfl), (List.mem_of_getElem? (i := 319) rfl)⟩, fun h => absurd h (by decide), fun h => absurd h (by decide)⟩
set_option maxRecDepth 100000 in
theorem mok_22 : MOK 22 := ⟨rfl, (List.mem_of_getElem? (i := 34) rfl), by decide +kernel, by decide +kernel, ⟨by decide +kernel, by decide +kernel⟩, (List.mem_of_getElem? (i := 355) rfl), fun _ => ⟨(List.mem_of_getElem? (i := 353) rfl), (List.mem_of_getElem? (i := 354) rfl)⟩, fun h => absurd h (by decide), fun h => absurd h (by decide)⟩
set_option maxRecDepth 100000 in
theorem mok_23 : MOK 23 := ⟨rfl, (List.mem_of_getElem? (i := 34) rfl), by decide +kernel, by decide +kernel, ⟨by decide +kernel, by decide +kernel⟩, (List.mem_of_getElem? (i := 412) rfl), fun _ => ⟨(List.mem_of_getElem? (i := 410) rfl), (List.mem_of_getElem? (i := 411) rfl)⟩, fun h => absurd h (by decide), fun h => absurd h (by decide)⟩
set_option maxRecDepth 100000 in
theorem mok_24 : MOK 24 := ⟨rfl, (List.mem_of_getElem? (i := 34) rfl), by decide +kernel, by decide +kernel, ⟨by decide +kernel, by decide +kernel⟩, (List.mem_of_getElem? (i := 585) rfl), fun _ => ⟨(List.mem_of_getElem? (i := 583) rfl), (List.mem_of_getElem? (i := 584) rfl)⟩, fun h => absurd h (by decide), fun h => absurd h (by decide)⟩
set_option maxRecDepth 100000 in
theorem mok_25 : MOK 25 := ⟨rfl, (List.mem_of_getElem? (i := 34) rfl), by decide +kernel, by decide +kernel, ⟨by decide +kernel, by decide +kernel⟩, (List.mem_of_getElem? (i := 227) rfl), fun _ => ⟨(List.mem_of_getElem? (i := 225) rfl), (List.mem_of_getElem? (i := 226) rfl)⟩, fun h => absurd h (by decide), fun h => absurd h (by decide)⟩
set_option maxRecDepth 100000 in
theorem mok_26 : MOK 26 := ⟨rfl, (List.mem_of_getElem? (i := 38) rfl), by decide +kernel, by decide +kernel, ⟨by decide +kernel, by decide +kernel⟩, (List.mem_of_getElem? (i := 95) rfl), fun h => absurd h (by decide), fun h => absurd h (by decide), fun _ => ⟨(List.mem_of_getElem? (i := 94) rfl), rfl⟩⟩
set_option maxRecDepth 100000 in
theorem mok_27 : MOK 27 := ⟨rfl, (List.mem_of_getElem? (i := 38) rfl), by decide +kernel, by decide +kernel, ⟨by decide +kernel, by decide +kernel⟩, (List.mem_of_getElem? (i := 713) rfl), fun _ => ⟨(List.mem_of_getElem? (i := 711) rfl), (List.mem_of_getElem? (i := 712) rfl)⟩, fun h => absurd h (by decide), fun h => absurd h (by decide)⟩
set_option maxRecDepth 100000 in
theorem mok_28 : MOK 28 := ⟨rfl, (List.mem_of_getElem? (i := 38) rfl), by decide +kernel, by decide +kernel, ⟨by decide +kernel, by decide +kernel⟩, (List.mem_of_getElem? (i := 731) rfl), fun _ => ⟨(List.mem_of_getElem? (i := 729) rfl), (List.mem_of_getElem? (i := 730) rfl)⟩, fun h => absurd h (by decide), fun h => absurd h (by decide)⟩
set_option maxRecDepth 100000 in
theorem mok_29 : MOK 29 := ⟨rfl, (List.mem_of_getElem? (i := 38) rfl), by decide +kernel, by decide +kernel, ⟨by decide +kernel, by decide +kernel⟩, (List.mem_of_getElem? (i := 719) rfl), fun h => absurd h (by decide), fun _ => (List.mem_of_getElem? (i := 718) rfl), fun h => absurd h (by decide)⟩
set_option maxRecDepth 100000 in
theorem mok_30 : MOK 30 := ⟨rfl, (List.mem_of_getElem? (i := 38) rfl), by decide +kernel, by decide +kernel, ⟨by decide +kernel, by decide +kernel⟩, (List.mem_of_getElem? (i := 728) rfl), fun _ => ⟨(List.mem_of_getElem? (i := 726) rfl), (List.mem_of_getElem? (i := 727) rfl)⟩, fun h => absurd h (by decide), fun h => absurd h (by decide)⟩
set_option maxRecDepth 100000 in
theorem mok_31 : MOK 31 := ⟨rfl, (List.mem_of_getElem? (i := 38) rfl), by decide +kernel, by decide +kernel, ⟨by decide +kernel, by decide +kernel⟩, (List.mem_of_getElem? (i := 723) rfl), fun _ => ⟨(List.mem_of_getElem? (i := 721) rfl), (List.mem_of_getElem? (i := 722) rfl)⟩, fun h => absurd h (by decide), fun h => absurd h (by decide)⟩
set_option maxRecDepth 100000 in
theorem mok_32 : MOK 32 := ⟨rfl, (List.mem_of_getElem? (i := 30) rfl), by decide +kernel, by decide +kernel, ⟨by decide +kernel, by decide +kernel⟩, (List.mem_of_getElem? (i := 88) rfl), fun h => absurd h (by decide), fun h => absurd h (by decide), fun _ => ⟨(List.mem_of_getElem? (i := 87) rfl), rfl⟩⟩
set_option maxRecDepth 100000 in
theorem mok_33 : MOK 33 := ⟨rfl, (List.mem_of_getElem? (i := 30) rfl), by decide +kernel, by decide +kernel, ⟨by decide +kernel, by decide +kernel⟩, (List.mem_of_getElem? (i := 454) rfl), fun _ => ⟨(List.mem_of_getElem? (i := 452) rfl), (List.mem_of_getElem? (i := 453) rfl)⟩, fun h => absurd h (by decide), fun h => absurd h (by decide)⟩
set_option maxRecDepth 100000 in
theorem mok_34 : MOK 34 := ⟨rfl, (List.mem_of_getElem? (i := 30) rfl), by decide +kernel, by decide +kernel, ⟨by decide +kernel, by decide +kernel⟩, (List.mem_of_getElem? (i := 563) rfl), fun _ => ⟨(List.mem_of_getElem? (i := 561) rfl), (List.mem_of_getElem? (i := 562) rfl)⟩, fun h => absurd h (by decide), fun h => absurd h (by decide)⟩
set_option maxRecDepth 100000 in
theorem mok_35 : MOK 35 := ⟨rfl, (List.mem_of_getElem? (i := 30) rfl), by decide +kernel, by decide +kernel, ⟨by decide +kernel, by decide +kernel⟩, (List.mem_of_getElem? (i := 569) rfl), fun _ => ⟨(List.mem_of_getElem? (i := 567) rfl), (List.mem_of_getElem? (i := 568) rfl)⟩, fun h => absurd h (by decide), fun h => absurd h (by decide)⟩
set_option maxRecDepth 100000 in
theorem mok_36 : MOK 36 := ⟨rfl, (List.mem_of_getElem? (i := 30) rfl), by decide +kernel, by decide +kernel, ⟨by decide +kernel, by decide +kernel⟩, (List.mem_of_getElem? (i := 572) rfl), fun h => absurd h (by decide), fun _ => (List.mem_of_getElem? (i := 571) rfl), fun h => absurd h (by decide)⟩
set_option maxRecDepth 100000 in
theorem mok_37 : MOK 37 := ⟨rfl, (List.mem_of_getElem? (i := 30) rfl), by decide +kernel, by decide +kernel, ⟨by decide +kernel, by decide +kernel⟩, (List.mem_of_getElem? (i := 631) rfl), fun _ => ⟨(List.mem_of_getElem? (i := 629) rfl), (List.mem_of_getElem? (i := 630) rfl)⟩, fun h => absurd h (by decide), fun h => absurd h (by decide)⟩
set_option maxRecDepth 100000 in
theorem mok_38 : MOK 38 := ⟨rfl, (List.mem_of_getElem? (i := 30) rfl), by decide +kernel, by decide +kernel, ⟨by decide +kernel, by decide +kernel⟩, (List.mem_of_getElem? (i := 575) rfl), fun _ => ⟨(List.mem_of_getElem? (i := 573) rfl), (List.mem_of_getElem? (i := 574) rfl)⟩, fun h => absurd h (by decide), fun h => absurd h (by decide)⟩
set_option maxRecDepth 100000 in
theorem mok_39 : MOK 39 := ⟨rfl, (List.mem_of_getElem? (i := 30) rfl), by decide +kernel, by decide +kernel, ⟨by decide +kernel, by decide +kernel⟩, (List.mem_of_getElem? (i := 582) rfl), fun _ => ⟨(List.mem_of_getElem? (i := 580) rfl), (List.mem_of_getElem? (i := 581) rfl)⟩, fun h => absurd h (by decide), fun h => absurd h (by decide)⟩
set_option maxRecDepth 100000 in
theorem mok_40 : MOK 40 := ⟨rfl, (List.mem_of_getElem? (i := 49) rfl), by decide +kernel, by decide +kernel, ⟨by decide +kernel, by decide +kernel⟩, (List.mem_of_getElem? (i := 58) rfl), fun h => absurd h (by decide), fun h => absurd h (by decide), fun _ => ⟨(List.mem_of_getElem? (i := 57) rfl), rfl⟩⟩
set_option maxRecDepth 100000 in
theorem mok_41 : MOK 41 := ⟨rfl, (List.mem_of_getElem? (i := 49) rfl), by decide +kernel, by decide +kernel, ⟨by decide +kernel, by decide +kernel⟩, (List.mem_of_getElem? (i := 198) rfl), fun _ => ⟨(List.mem_of_getElem? (i := 196) rfl), (List.mem_of_getElem? (i := 197) rfl)⟩, fun h => absurd h (by decide), fun h => absurd h (by decide)⟩
set_option maxRecDepth 100000 in
theorem mok_42 : MOK 42 := ⟨rfl, (List.mem_of_getElem? (i := 49) rfl), by decide +kernel, by decide +kernel, ⟨by decide +kernel, by decide +kernel⟩, (List.mem_of_getElem? (i := 254) rfl), fun _ => ⟨(List.mem_of_getElem? (i := 252) rfl), (List.mem_of_getElem? (i := 253) rfl)⟩, fun h => absurd h (by decide), fun h => absurd h (by decide)⟩
set_option maxRecDepth 100000 in
theorem mok_43 : MOK 43 := ⟨rfl, (List.mem_of_getElem? (i := 49) rfl), by decide +kernel, by decide +kernel, ⟨by decide +kernel, by decide +kernel⟩, (List.mem_of_getElem? (i := 311) rfl), fun _ => ⟨(List.mem_of_getElem? (i := 309) rfl), (List.mem_of_getElem? (i := 310) rfl)⟩, fun h => absurd h (by decide), fun h => absurd h (by decide)⟩
set_option maxRecDepth 100000 in
theorem mok_44 : MOK 44 := ⟨rfl, (List.mem_of_getElem? (i := 49) rfl), by decide +kernel, by decide +kernel, ⟨by decide +kernel, by decide +kernel⟩, (List.mem_of_getElem? (i := 314) rfl), fun _ => ⟨(List.mem_of_getElem? (i := 312) rfl), (List.mem_of_getElem? (i := 313) rfl)⟩, fun h => absurd h (by decide), fun h => absurd h (by decide)⟩
set_option maxRecDepth 100000 in
theorem mok_45 : MOK 45 := ⟨rfl, (List.mem_of_getElem? (i := 49) rfl), by decide +kernel, by decide +kernel, ⟨by decide +kernel, by decide +kernel⟩, (List.mem_of_getElem? (i := 194) rfl), fun _ => ⟨(List.mem_of_getElem? (i := 192) rfl), (List.mem_of_getElem? (i := 193) rfl)⟩, fun h => absurd h (by decide), fun h => absurd h (by decide)⟩
set_option maxRecDepth 100000 in
theorem mok_46 : MOK 46 := ⟨rfl, (List.mem_of_getElem? (i := 49) rfl), by decide +kernel, by decide +kernel, ⟨by decide +kernel, by decide +kernel⟩, (List.mem_of_getElem? (i := 250) rfl), fun _ => ⟨(List.mem_of_getElem? (i := 248) rfl), (List.mem_of_getElem? (i := 249) rfl)⟩, fun h => absurd h (by decide), fun h => absurd h (by decide)⟩
set_option maxRecDepth 100000 in
theorem mok_47 : MOK 47 := ⟨rfl, (List.mem_of_getElem? (i := 49) rfl), by decide +kernel, by decide +kernel, ⟨by decide +kernel, by decide +kernel⟩, (List.mem_of_getElem? (i := 187) rfl), fun _ => ⟨(List.mem_of_getElem? (i := 185) rfl), (List.mem_of_getElem? (i := 186) rfl)⟩, fun h => absurd h (by decide), fun h => absurd h (by decide)⟩
set_option maxRecDepth 100000 in
theorem mok_48 : MOK 48 := ⟨rfl, (List.mem_of_getElem? (i := 49) rfl), by decide +kernel, by decide +kernel, ⟨by decide +kernel, by decide +kernel⟩, (List.mem_of_getElem? (i := 201) rfl), fun _ => ⟨(List.mem_of_getElem? (i := 199) rfl), (List.mem_of_getElem? (i := 200) rfl)⟩, fun h => absurd h (by decide), fun h => absurd h (by decide)⟩
set_option maxRecDepth 100000 in
theorem mok_49 : MOK 49 := ⟨rfl, (List.mem_of_getElem? (i := 49) rfl), by decide +kernel, by decide +kernel, ⟨by decide +kernel, by decide +kernel⟩, (List.mem_of_getElem? (i := 352) rfl), fun _ => ⟨(List.mem_of_getElem? (i := 350) rfl), (List.mem_of_getElem? (i := 351) rfl)⟩, fun h => absurd h (by decide), fun h => absurd h (by decide)⟩
set_option maxRecDepth 100000 in
theorem mok_50 : MOK 50 := ⟨rfl, (List.mem_of_getElem? (i := 49) rfl), by decide +kernel, by decide +kernel, ⟨by decide +kernel, by decide +kernel⟩, (List.mem_of_getElem? (i := 223) rfl), fun _ => ⟨(List.mem_of_getElem? (i := 221) rfl), (List.mem_of_getElem? (i := 222) rfl)⟩, fun h => absurd h (by decide), fun h => absurd h (by decide)⟩
set_option maxRecDepth 100000 in
theorem mok_51 : MOK 51 := ⟨rfl, (List.mem_of_getElem? (i := 17) rfl), by decide +kernel, by decide +kernel, ⟨by decide +kernel, by decide +kernel⟩, (List.mem_of_getElem? (i := 45) rfl), fun h => absurd h (by decide), fun h => absurd h (by decide), fun _ => ⟨(List.mem_of_getElem? (i := 44) rfl), rfl⟩⟩
set_option maxRecDepth 100000 in
theorem mok_52 : MOK 52 := ⟨rfl, (List.mem_of_getElem? (i := 17) rfl), by decide +kernel, by decide +kernel, ⟨by decide +kernel, by decide +kernel⟩, (List.mem_of_getElem? (i := 178) rfl), fun _ => ⟨(List.mem_of_getElem? (i := 176) rfl), (List.mem_of_getElem? (i := 177) rfl)⟩, fun h => absurd h (by decide), fun h => absurd h (by decide)⟩
set_option maxRecDepth 100000 in
theorem mok_53 : MOK 53 := ⟨rfl, (List.mem_of_getElem? (i := 17) rfl), by decide +kernel, by decide +kernel, ⟨by decide +kernel, by decide +kernel⟩, (List.mem_of_getElem? (i := 387) rfl), fun _ => ⟨(List.mem_of_getElem? (i := 385) rfl), (List.mem_of_getElem? (i := 386) rfl)⟩, fun h => absurd h (by decide), fun h => absurd h (by decide)⟩
set_option maxRecDepth 100000 in
theorem mok_54 : MOK 54 := ⟨rfl, (List.mem_of_getElem? (i := 17) rfl), by decide +kernel, by decide +kernel, ⟨by decide +kernel, by decide +kernel⟩, (List.mem_of_getElem? (i := 191) rfl), fun _ => ⟨(List.mem_of_getElem? (i := 189) rfl), (List.mem_of_getElem? (i := 190) rfl)⟩, fun h => absurd h (by decide), fun h => absurd h (by decide)⟩
set_option maxRecDepth 100000 in
theorem mok_55 : MOK 55 := ⟨rfl, (List.mem_of_getElem? (i := 17) rfl), by decide +kernel, by decide +kernel, ⟨by decide +kernel, by decide +kernel⟩, (List.mem_of_getElem? (i := 317) rfl), fun _ => ⟨(List.mem_of_getElem? (i := 315) rfl), (List.mem_of_getElem? (i := 316) rfl)⟩, fun h => absurd h (by decide), fun h => absurd h (by decide)⟩
set_option maxRecDepth 100000 in
theorem mok_56 : MOK 56 := ⟨rfl, (List.mem_of_getElem? (i := 17) rfl), by decide +kernel, by decide +kernel, ⟨by decide +kernel, by decide +kernel⟩, (List.mem_of_getElem? (i := 349) rfl), fun _ => ⟨(List.mem_of_getElem? (i := 347) rfl), (List.mem_of_getElem? (i := 348) rfl)⟩, fun h => absurd h (by decide), fun h => absurd h (by decide)⟩
set_option maxRecDepth 100000 in
theorem mok_57 : MOK 57 := ⟨rfl, (List.mem_of_getElem? (i := 17) rfl), by decide +kernel, by decide +kernel, ⟨by decide +kernel, by decide +kernel⟩, (List.mem_of_getElem? (i := 373) rfl), fun _ => ⟨(List.mem_of_getElem? (i := 371) rfl), (List.mem_of_getElem? (i := 372) rfl)⟩, fun h => absurd h (by decide), fun h => absurd h (by decide)⟩
set_option maxRecDepth 100000 in
theorem mok_58 : MOK 58 := ⟨rfl, (List.mem_of_getElem? (i := 17) rfl), by decide +kernel, by decide +kernel, ⟨by decide +kernel, by decide +kernel⟩, (List.mem_of_getElem? (i := 434) rfl), fun _ => ⟨(List.mem_of_getElem? (i := 432) rfl), (List.mem_of_getElem? (i := 433) rfl)⟩, fun h => absurd h (by decide), fun h => absurd h (by decide)⟩
set_option maxRecDepth 100000 in
theorem mok_59 : MOK 59 := ⟨rfl, (List.mem_of_getElem? (i := 17) rfl), by decide +kernel, by decide +kernel, ⟨by decide +kernel, by decide +kernel⟩, (List.mem_of_getElem? (i := 444) rfl), fun _ => ⟨(List.mem_of_getElem? (i := 442) rfl), (List.mem_of_getElem? (i := 443) rfl)⟩, fun h => absurd h (by decide), fun h => absurd h (by decide)⟩
set_option maxRecDepth 100000 in
theorem mok_60 : MOK 60 := ⟨rfl, (List.mem_of_getElem? (i := 17) rfl), by decide +kernel, by decide +kernel, ⟨by decide +kernel, by decide +kernel⟩, (List.mem_of_getElem? (i := 216) rfl), fun _ => ⟨(List.mem_of_getElem? (i := 214) rfl), (List.mem_of_getElem? (i := 215) rfl)⟩, fun h => absurd h (by decide), fun h => absurd h (by decide)⟩
set_option maxRecDepth 100000 in
theorem mok_61 : MOK 61 := ⟨rfl, (List.mem_of_getElem? (i := 17) rfl), by decide +kernel, by decide +kernel, ⟨by decide +kernel, by decide +kernel⟩, (List.mem_of_getElem? (i := 212) rfl), fun _ => ⟨(List.mem_of_getElem? (i := 210) rfl), (List.mem_of_getElem? (i := 211) rfl)⟩, fun h => absurd h (by decide), fun h => absurd h (by decide)⟩
set_option maxRecDepth 100000 in
theorem mok_62 : MOK 62 := ⟨rfl, (List.mem_of_getElem? (i := 2) rfl), by decide +kernel, by decide +kernel, ⟨by decide +kernel, by decide +kernel⟩, (List.mem_of_getElem? (i := 9) rfl), fun h => absurd h (by decide), fun h => absurd h (by decide), fun _ => ⟨(List.mem_of_getElem? (i := 8) rfl), rfl⟩⟩
set_option maxRecDepth 100000 in
theorem mok_63 : MOK 63 := ⟨rfl, (List.mem_of_getElem? (i := 2) rfl), by decide +kernel, by decide +kernel, ⟨by decide +kernel, by decide +kernel⟩, (List.mem_of_getElem? (i := 137) rfl), fun _ => ⟨(List.mem_of_getElem? (i := 135) rfl), (List.mem_of_getElem? (i := 136) rfl)⟩, fun h => absurd h (by decide), fun h => absurd h (by decide)⟩
set_option maxRecDepth 100000 in
theorem mok_64 : MOK 64 := ⟨rfl, (List.mem_of_getElem? (i := 2) rfl), by decide +kernel, by decide +kernel, ⟨by decide +kernel, by decide +kernel⟩, (List.mem_of_getElem? (i := 163) rfl), fun _ => ⟨(List.mem_of_getElem? (i := 161) rfl), (List.mem_of_getElem? (i := 162) rfl)⟩, fun h => absurd h (by decide), fun h => absurd h (by decide)⟩
set_option maxRecDepth 100000 in
theorem mok_65 : MOK 65 := ⟨rfl, (List.mem_of_getElem? (i := 2) rfl), by decide +kernel, by decide +kernel, ⟨by decide +kernel, by decide +kernel⟩, (List.mem_of_getElem? (i := 171) rfl), fun _ => ⟨(List.mem_of_getElem? (i := 169) rfl), (List.mem_of_getElem? (i := 170) rfl)⟩, fun h => absurd h (by decide), fun h => absurd h (by decide)⟩
set_option maxRecDepth 100000 in
theorem mok_66 : MOK 66 := ⟨rfl, (List.mem_of_getElem? (i := 2) rfl), by decide +kernel, by decide +kernel, ⟨by decide +kernel, by decide +kernel⟩, (List.mem_of_getElem? (i := 306) rfl), fun _ => ⟨(List.mem_of_getElem? (i := 304) rfl), (List.mem_of_getElem? (i := 305) rfl)⟩, fun h => absurd h (by decide), fun h => absurd h (by decide)⟩
set_option maxRecDepth 100000 in
theorem mok_67 : MOK 67 := ⟨rfl, (List.mem_of_getElem? (i := 2) rfl), by decide +kernel, by decide +kernel, ⟨by decide +kernel, by decide +kernel⟩, (List.mem_of_getElem? (i := 346) rfl), fun _ => ⟨(List.mem_of_getElem? (i := 344) rfl), (List.mem_of_getElem? (i := 345) rfl)⟩, fun h => absurd h (by decide), fun h => absurd h (by decide)⟩
set_option maxRecDepth 100000 in
theorem mok_68 : MOK 68 := ⟨rfl, (List.mem_of_getElem? (i := 2) rfl), by decide +kernel, by decide +kernel, ⟨by decide +kernel, by decide +kernel⟩, (List.mem_of_getElem? (i := 370) rfl), fun _ => ⟨(List.mem_of_getElem? (i := 368) rfl), (List.mem_of_getElem? (i := 369) rfl)⟩, fun h => absurd h (by decide), fun h => absurd h (by decide)⟩
set_option maxRecDepth 100000 in
theorem mok_69 : MOK 69 := ⟨rfl, (List.mem_of_getElem? (i := 2) rfl), by decide +kernel, by decide +kernel, ⟨by decide +kernel, by decide +kernel⟩, (List.mem_of_getElem? (i := 384) rfl), fun _ => ⟨(List.mem_of_getElem? (i := 382) rfl), (List.mem_of_getElem? (i := 383) rfl)⟩, fun h => absurd h (by decide), fun h => absurd h (by decide)⟩
set_option maxRecDepth 100000 in
theorem mok_70 : MOK 70 := ⟨rfl, (List.mem_of_getElem? (i := 2) rfl), by decide +kernel, by decide +kernel, ⟨by decide +kernel, by decide +kernel⟩, (List.mem_of_getElem? (i := 398) rfl), fun _ => ⟨(List.mem_of_getElem? (i := 396) rfl), (List.mem_of_getElem? (i := 397) rfl)⟩, fun h => absurd h (by decide), fun h => absurd h (by decide)⟩
set_option maxRecDepth 100000 in
theorem mok_71 : MOK 71 := ⟨rfl, (List.mem_of_getElem? (i := 2) rfl), by decide +kernel, by decide +kernel, ⟨by decide +kernel, by decide +kernel⟩, (List.mem_of_getElem? (i := 409) rfl), fun _ => ⟨(List.mem_of_getElem? (i := 407) rfl), (List.mem_of_getElem? (i := 408) rfl)⟩, fun h => absurd h (by decide), fun h => absurd h (by decide)⟩
set_option maxRecDepth 100000 in
theorem mok_72 : MOK 72 := ⟨rfl, (List.mem_of_getElem? (i := 2) rfl), by decide +kernel, by decide +kernel, ⟨by decide +kernel, by decide +kernel⟩, (List.mem_of_getElem? (i := 423) rfl), fun _ => ⟨(List.mem_of_getElem? (i := 421) rfl), (List.mem_of_getElem? (i := 422) rfl)⟩, fun h => absurd h (by decide), fun h => absurd h (by decide)⟩
set_option maxRecDepth 100000 in
theorem mok_73 : MOK 73 := ⟨rfl, (List.mem_of_getElem? (i := 2) rfl), by decide +kernel, by decide +kernel, ⟨by decide +kernel, by decide +kernel⟩, (List.mem_of_getElem? (i := 512) rfl), fun _ => ⟨(List.mem_of_getElem? (i := 510) rfl), (List.mem_of_getElem? (i := 511) rfl)⟩, fun h => absurd h (by decide), fun h => absurd h (by decide)⟩
set_option maxRecDepth 100000 in
theorem mok_74 : MOK 74 := ⟨rfl, (List.mem_of_getElem? (i := 2) rfl), by decide +kernel, by decide +kernel, ⟨by decide +kernel, by decide +kernel⟩, (List.mem_of_getElem? (i := 540) rfl), fun _ => ⟨(List.mem_of_getElem? (i := 538) rfl), (List.mem_of_getElem? (i := 539) rfl)⟩, fun h => absurd h (by decide), fun h => absurd h (by decide)⟩
set_option maxRecDepth 100000 in
theorem mok_75 : MOK 75 := ⟨rfl, (List.mem_of_getElem? (i := 2) rfl), by decide +kernel, by decide +kernel, ⟨by decide +kernel, by decide +kernel⟩, (List.mem_of_getElem? (i := 552) rfl), fun _ => ⟨(List.mem_of_getElem? (i := 550) rfl), (List.mem_of_getElem? (i := 551) rfl)⟩, fun h => absurd h (by decide), fun h => absurd h (by decide)⟩
set_option maxRecDepth 100000 in
theorem mok_76 : MOK 76 := ⟨rfl, (List.mem_of_getElem? (i := 2) rfl), by decide +kernel, by decide +kernel, ⟨by decide +kernel, by decide +kernel⟩, (List.mem_of_getElem? (i := 617) rfl), fun _ => ⟨(List.mem_of_getElem? (i := 615) rfl), (List.mem_of_getElem? (i := 616) rfl)⟩, fun h => absurd h (by decide), fun h => absurd h (by decide)⟩
set_option maxRecDepth 100000 in
theorem mok_77 : MOK 77 := ⟨rfl, (List.mem_of_getElem? (i := 2) rfl), by decide +kernel, by decide +kernel, ⟨by decide +kernel, by decide +kernel⟩, (List.mem_of_getElem? (i := 628) rfl), fun _ => ⟨(List.mem_of_getElem? (i := 626) rfl), (List.mem_of_getElem? (i := 627) rfl)⟩, fun h => absurd h (by decide), fun h => absurd h (by decide)⟩
set_option maxRecDepth 100000 in
theorem mok_78 : MOK 78 := ⟨rfl, (List.mem_of_getElem? (i := 2) rfl), by decide +kernel, by decide +kernel, ⟨by decide +kernel, by decide +kernel⟩, (List.mem_of_getElem? (i := 642) rfl), fun _ => ⟨(List.mem_of_getElem? (i := 640) rfl), (List.mem_of_getElem? (i := 641) rfl)⟩, fun h => absurd h (by decide), fun h => absurd h (by decide)⟩
set_option maxRecDepth 100000 in
theorem mok_79 : MOK 79 := ⟨rfl, (List.mem_of_getElem? (i := 2) rfl), by decide +kernel, by decide +kernel, ⟨by decide +kernel, by decide +kernel⟩, (List.mem_of_getElem? (i := 650) rfl), fun _ => ⟨(List.mem_of_getElem? (i := 648) rfl), (List.mem_of_getElem? (i := 649) rfl)⟩, fun h => absurd h (by decide), fun h => absurd h (by decide)⟩
set_option maxRecDepth 100000 in
theorem mok_80 : MOK 80 := ⟨rfl, (List.mem_of_getElem? (i := 2) rfl), by decide +kernel, by decide +kernel, ⟨by decide +kernel, by decide +kernel⟩, (List.mem_of_getElem? (i := 658) rfl), fun _ => ⟨(List.mem_of_getElem? (i := 656) rfl), (List.mem_of_getElem? (i := 657) rfl)⟩, fun h => absurd h (by decide), fun h => absurd h (by decide)⟩
set_option maxRecDepth 100000 in
theorem mok_81 : MOK 81 := ⟨rfl, (List.mem_of_getElem? (i := 2) rfl), by decide +kernel, by decide +kernel, ⟨by decide +kernel, by decide +kernel⟩, (List.mem_of_getElem? (i := 699) rfl), fun _ => ⟨(List.mem_of_getElem? (i := 697) rfl), (List.mem_of_getElem? (i := 698) rfl)⟩, fun h => absurd h (by decide), fun h => absurd h (by decide)⟩
set_option maxRecDepth 100000 in
theorem mok_82 : MOK 82 := ⟨rfl, (List.mem_of_getElem? (i := 2) rfl), by decide +kernel, by decide +kernel, ⟨by decide +kernel, by decide +kernel⟩, (List.mem_of_getElem? (i := 710) rfl), fun _ => ⟨(List.mem_of_getElem? (i := 708) rfl), (List.mem_of_getElem? (i := 709) rfl)⟩, fun h => absurd h (by decide), fun h => absurd h (by decide)⟩
set_option maxRecDepth 100000 in
theorem mok_83 : MOK 83 := ⟨rfl, (List.mem_of_getElem? (i := 2) rfl), by decide +kernel, by decide +kernel, ⟨by decide +kernel, by decide +kernel⟩, (List.mem_of_getElem? (i := 756) rfl), fun _ => ⟨(List.mem_of_getElem? (i := 754) rfl), (List.mem_of_getElem? (i := 755) rfl)⟩, fun h => absurd h (by decide), fun h => absurd h (by decide)⟩
set_option maxRecDepth 100000 in
theorem mok_84 : MOK 84 := ⟨rfl, (List.mem_of_getElem? (i := 2) rfl), by decide +kernel, by decide +kernel, ⟨by decide +kernel, by decide +kernel⟩, (List.mem_of_getElem? (i := 767) rfl), fun _ => ⟨(List.mem_of_getElem? (i := 765) rfl), (List.mem_of_getElem? (i := 766) rfl)⟩, fun h => absurd h (by decide), fun h => absurd h (by decide)⟩
set_option maxRecDepth 100000 in
theorem mok_85 : MOK 85 := ⟨rfl, (List.mem_of_getElem? (i := 2) rfl), by decide +kernel, by decide +kernel, ⟨by decide +kernel, by decide +kernel⟩, (List.mem_of_getElem? (i := 805) rfl), fun _ => ⟨(List.mem_of_getElem? (i := 803) rfl), (List.mem_of_getElem? (i := 804) rfl)⟩, fun h => absurd h (by decide), fun h => absurd h (by decide)⟩
set_option maxRecDepth 100000 in
theorem mok_86 : MOK 86 := ⟨rfl, (List.mem_of_getElem? (i := 2) rfl), by decide +kernel, by decide +kernel, ⟨by decide +kernel, by decide +kernel⟩, (List.mem_of_getElem? (i := 816) rfl), fun _ => ⟨(List.mem_of_getElem? (i := 814) rfl), (List.mem_of_getElem? (i := 815) rfl)⟩, fun h => absurd h (by decide), fun h => absurd h (by decide)⟩
set_option maxRecDepth 100000 in
theorem mok_87 : MOK 87 := ⟨rfl, (List.mem_of_getElem? (i := 2) rfl), by decide +kernel, by decide +kernel, ⟨by decide +kernel, by decide +kernel⟩, (List.mem_of_getElem? (i := 827) rfl), fun _ => ⟨(List.mem_of_getElem? (i := 825) rfl), (List.mem_of_getElem? (i := 826) rfl)⟩, fun h => absurd h (by decide), fun h => absurd h (by decide)⟩
set_option maxRecDepth 100000 in
theorem mok_88 : MOK 88 := ⟨rfl, (List.mem_of_getElem? (i := 2) rfl), by decide +kernel, by decide +kernel, ⟨by decide +kernel, by decide +kernel⟩, (List.mem_of_getElem? (i := 833) rfl), fun _ => ⟨(List.mem_of_getElem? (i := 831) rfl), (List.mem_of_getElem? (i := 832) rfl)⟩, fun h => absurd h (by decide), fun h => absurd h (by decide)⟩
set_option maxRecDepth 100000 in
theorem mok_89 : MOK 89 := ⟨rfl, (List.mem_of_getElem? (i := 2) rfl), by decide +kernel, by decide +kernel, ⟨by decide +kernel, by decide +kernel⟩, (List.mem_of_getElem? (i := 840) rfl), fun _ => ⟨(List.mem_of_getElem? (i := 838) rfl), (List.mem_of_getElem? (i := 839) rfl)⟩, fun h => absurd h (by decide), fun h => absurd h (by decide)⟩
set_option maxRecDepth 100000 in
theorem mok_90 : MOK 90 := ⟨rfl, (List.mem_of_getElem? (i := 2) rfl), by decide +kernel, by decide +kernel, ⟨by decide +kernel, by decide +kernel⟩, (List.mem_of_getElem? (i := 836) rfl), fun h => absurd h (by decide), fun _ => (List.mem_of_getElem? (i := 835) rfl), fun h => absurd h (by decide)⟩
set_option maxRecDepth 100000 in
theorem mok_91 : MOK 91 := ⟨rfl, (List.mem_of_getElem? (i := 2) rfl), by decide +kernel, by decide +kernel, ⟨by decide +kernel, by decide +kernel⟩, (List.mem_of_getElem? (i := 175) rfl), fun _ => ⟨(List.mem_of_getElem? (i := 173) rfl), (List.mem_of_getElem? (i := 174) rfl)⟩, fun h => absurd h (by decide), fun h => absurd h (by decide)⟩
set_option maxRecDepth 100000 in
theorem mok_92 : MOK 92 := ⟨rfl, (List.mem_of_getElem? (i := 2) rfl), by decide +kernel, by decide +kernel, ⟨by decide +kernel, by decide +kernel⟩, (List.mem_of_getElem? (i := 181) rfl), fun h => absurd h (by decide), fun _ => (List.mem_of_getElem? (i := 180) rfl), fun h => absurd h (by decide)⟩
set_option maxRecDepth 100000 in
theorem mok_93 : MOK 93 := ⟨rfl, (List.mem_of_getElem? (i := 2) rfl), by decide +kernel, by decide +kernel, ⟨by decide +kernel, by decide +kernel⟩, (List.mem_of_getElem? (i := 184) rfl), fun h => absurd h (by decide), fun _ => (List.mem_of_getElem? (i := 183) rfl), fun h => absurd h (by decide)⟩
set_option maxRecDepth 100000 in
theorem mok_94 : MOK 94 := ⟨rfl, (List.mem_of_getElem? (i := 2) rfl), by decide +kernel, by decide +kernel, ⟨by decide +kernel, by decide +kernel⟩, (List.mem_of_getElem? (i := 427) rfl), fun _ => ⟨(List.mem_of_getElem? (i := 425) rfl), (List.mem_of_getElem? (i := 426) rfl)⟩, fun h => absurd h (by decide), fun h => absurd h (by decide)⟩
set_option maxRecDepth 100000 in
theorem mok_95 : MOK 95 := ⟨rfl, (List.mem_of_getElem? (i := 2) rfl), by decide +kernel, by decide +kernel, ⟨by decide +kernel, by decide +kernel⟩, (List.mem_of_getElem? (i := 431) rfl), fun _ => ⟨(List.mem_of_getElem? (i := 429) rfl), (List.mem_of_getElem? (i := 430) rfl)⟩, fun h => absurd h (by decide), fun h => absurd h (by decide)⟩
set_option maxRecDepth 100000 in
theorem mok_96 : MOK 96 := ⟨rfl, (List.mem_of_getElem? (i := 2) rfl), by decide +kernel, by decide +kernel, ⟨by decide +kernel, by decide +kernel⟩, (List.mem_of_getElem? (i := 441) rfl), fun _ => ⟨(List.mem_of_getElem? (i := 439) rfl), (List.mem_of_getElem? (i := 440) rfl)⟩, fun h => absurd h (by decide), fun h => absurd h (by decide)⟩
set_option maxRecDepth 100000 in
theorem mok_97 : MOK 97 := ⟨rfl, (List.mem_of_getElem? (i := 2) rfl), by decide +kernel, by decide +kernel, ⟨by decide +kernel, by decide +kernel⟩, (List.mem_of_getElem? (i := 516) rfl), fun _ => ⟨(List.mem_of_getElem? (i := 514) rfl), (List.mem_of_getElem? (i := 515) rfl)⟩, fun h => absurd h (by decide), fun h => absurd h (by decide)⟩
set_option maxRecDepth 100000 in
theorem mok_98 : MOK 98 := ⟨rfl, (List.mem_of_getElem? (i := 2) rfl), by decide +kernel, by decide +kernel, ⟨by decide +kernel, by decide +kernel⟩, (List.mem_of_getElem? (i := 556) rfl), fun _ => ⟨(List.mem_of_getElem? (i := 554) rfl), (List.mem_of_getElem? (i := 555) rfl)⟩, fun h => absurd h (by decide), fun h => absurd h (by decide)⟩
set_option maxRecDepth 100000 in
theorem mok_99 : MOK 99 := ⟨rfl, (List.mem_of_getElem? (i := 2) rfl), by decide +kernel, by decide +kernel, ⟨by decide +kernel, by decide +kernel⟩, (List.mem_of_getElem? (i := 579) rfl), fun _ => ⟨(List.mem_of_getElem? (i := 577) rfl), (List.mem_of_getElem? (i := 578) rfl)⟩, fun h => absurd h (by decide), fun h => absurd h (by decide)⟩
set_option maxRecDepth 100000 in
theorem mok_100 : MOK 100 := ⟨rfl, (List.mem_of_getElem? (i := 2) rfl), by decide +kernel, by decide +kernel, ⟨by decide +kernel, by decide +kernel⟩, (List.mem_of_getElem? (i := 560) rfl), fun _ => ⟨(List.mem_of_getElem? (i := 558) rfl), (List.mem_of_getElem? (i := 559) rfl)⟩, fun h => absurd h (by decide), fun h => absurd h (by decide)⟩
set_option maxRecDepth 100000 in
theorem mok_101 : MOK 101 := ⟨rfl, (List.mem_of_getElem? (i := 2) rfl), by decide +kernel, by decide +kernel, ⟨by decide +kernel, by decide +kernel⟩, (List.mem_of_getElem? (i := 451) rfl), fun _ => ⟨(List.mem_of_getElem? (i := 449) rfl), (List.mem_of_getElem? (i := 450) rfl)⟩, fun h => absurd h (by decide), fun h => absurd h (by decide)⟩
set_option maxRecDepth 100000 in
theorem mok_102 : MOK 102 := ⟨rfl, (List.mem_of_getElem? (i := 2) rfl), by decide +kernel, by decide +kernel, ⟨by decide +kernel, by decide +kernel⟩, (List.mem_of_getElem? (i := 662) rfl), fun _ => ⟨(List.mem_of_getElem? (i := 660) rfl), (List.mem_of_getElem? (i := 661) rfl)⟩, fun h => absurd h (by decide), fun h => absurd h (by decide)⟩
set_option maxRecDepth 100000 in
theorem mok_103 : MOK 103 := ⟨rfl, (List.mem_of_getElem? (i := 2) rfl), by decide +kernel, by decide +kernel, ⟨by decide +kernel, by decide +kernel⟩, (List.mem_of_getElem? (i := 677) rfl), fun _ => ⟨(List.mem_of_getElem? (i := 675) rfl), (List.mem_of_getElem? (i := 676) rfl)⟩, fun h => absurd h (by decide), fun h => absurd h (by decide)⟩
set_option maxRecDepth 100000 in
theorem mok_104 : MOK 104 := ⟨rfl, (List.mem_of_getElem? (i := 2) rfl), by decide +kernel, by decide +kernel, ⟨by decide +kernel, by decide +kernel⟩, (List.mem_of_getElem? (i := 665) rfl), fun h => absurd h (by decide), fun _ => (List.mem_of_getElem? (i := 664) rfl), fun h => absurd h (by decide)⟩
set_option maxRecDepth 100000 in
theorem mok_105 : MOK 105 := ⟨rfl, (List.mem_of_getElem? (i := 2) rfl), by decide +kernel, by decide +kernel, ⟨by decide +kernel, by decide +kernel⟩, (List.mem_of_getElem? (i := 447) rfl), fun h => absurd h (by decide), fun _ => (List.mem_of_getElem? (i := 446) rfl), fun h => absurd h (by decide)⟩
set_option maxRecDepth 100000 in
theorem mok_106 : MOK 106 := ⟨rfl, (List.mem_of_getElem? (i := 2) rfl), by decide +kernel, by decide +kernel, ⟨by decide +kernel, by decide +kernel⟩, (List.mem_of_getElem? (i := 525) rfl), fun h => absurd h (by decide), fun _ => (List.mem_of_getElem? (i := 524) rfl), fun h => absurd h (by decide)⟩
set_option maxRecDepth 100000 in
theorem mok_107 : MOK 107 := ⟨rfl, (List.mem_of_getElem? (i := 2) rfl), by decide +kernel, by decide +kernel, ⟨by decide +kernel, by decide +kernel⟩, (List.mem_of_getElem? (i := 247) rfl), fun h => absurd h (by decide), fun _ => (List.mem_of_getElem? (i := 246) rfl), fun h => absurd h (by decide)⟩
set_option maxRecDepth 100000 in
theorem mok_108 : MOK 108 := ⟨rfl, (List.mem_of_getElem? (i := 2) rfl), by decide +kernel, by decide +kernel, ⟨by decide +kernel, by decide +kernel⟩, (List.mem_of_getElem? (i := 257) rfl), fun h => absurd h (by decide), fun _ => (List.mem_of_getElem? (i := 256) rfl), fun h => absurd h (by decide)⟩
set_option maxRecDepth 100000 in
theorem mok_109 : MOK 109 := ⟨rfl, (List.mem_of_getElem? (i := 5) rfl), by decide +kernel, by decide +kernel, ⟨by decide +kernel, by decide +kernel⟩, (List.mem_of_getElem? (i := 115) rfl), fun h => absurd h (by decide), fun h => absurd h (by decide), fun _ => ⟨(List.mem_of_getElem? (i := 114) rfl), rfl⟩⟩
set_option maxRecDepth 100000 in
theorem mok_110 : MOK 110 := ⟨rfl, (List.mem_of_getElem? (i := 5) rfl), by decide +kernel, by decide +kernel, ⟨by decide +kernel, by decide +kernel⟩, (List.mem_of_getElem? (i := 159) rfl), fun _ => ⟨(List.mem_of_getElem? (i := 157) rfl), (List.mem_of_getElem? (i := 158) rfl)⟩, fun h => absurd h (by decide), fun h => absurd h (by decide)⟩
set_option maxRecDepth 100000 in
theorem mok_111 : MOK 111 := ⟨rfl, (List.mem_of_getElem? (i := 5) rfl), by decide +kernel, by decide +kernel, ⟨by decide +kernel, by decide +kernel⟩, (List.mem_of_getElem? (i := 154) rfl), fun _ => ⟨(List.mem_of_getElem? (i := 152) rfl), (List.mem_of_getElem? (i := 153) rfl)⟩, fun h => absurd h (by decide), fun h => absurd h (by decide)⟩
set_option maxRecDepth 100000 in
theorem mok_112 : MOK 112 := ⟨rfl, (List.mem_of_getElem? (i := 5) rfl), by decide +kernel, by decide +kernel, ⟨by decide +kernel, by decide +kernel⟩, (List.mem_of_getElem? (i := 150) rfl), fun h => absurd h (by decide), fun _ => (List.mem_of_getElem? (i := 149) rfl), fun h => absurd h (by decide)⟩
set_option maxRecDepth 100000 in
theorem mok_113 : MOK 113 := ⟨rfl, (List.mem_of_getElem? (i := 5) rfl), by decide +kernel, by decide +kernel, ⟨by decide +kernel, by decide +kernel⟩, (List.mem_of_getElem? (i := 297) rfl), fun _ => ⟨(List.mem_of_getElem? (i := 295) rfl), (List.mem_of_getElem? (i := 296) rfl)⟩, fun h => absurd h (by decide), fun h => absurd h (by decide)⟩
set_option maxRecDepth 100000 in
theorem mok_114 : MOK 114 := ⟨rfl, (List.mem_of_getElem? (i := 5) rfl), by decide +kernel, by decide +kernel, ⟨by decide +kernel, by decide +kernel⟩, (List.mem_of_getElem? (i := 823) rfl), fun _ => ⟨(List.mem_of_getElem? (i := 821) rfl), (List.mem_of_getElem? (i := 822) rfl)⟩, fun h => absurd h (by decide), fun h => absurd h (by decide)⟩
set_option maxRecDepth 100000 in
theorem mok_115 : MOK 115 := ⟨rfl, (List.mem_of_getElem? (i := 5) rfl), by decide +kernel, by decide +kernel, ⟨by decide +kernel, by decide +kernel⟩, (List.mem_of_getElem? (i := 267) rfl), fun _ => ⟨(List.mem_of_getElem? (i := 265) rfl), (List.mem_of_getElem? (i := 266) rfl)⟩, fun h => absurd h (by decide), fun h => absurd h (by decide)⟩
set_option maxRecDepth 100000 in
theorem mok_116 : MOK 116 := ⟨rfl, (List.mem_of_getElem? (i := 5) rfl), by decide +kernel, by decide +kernel, ⟨by decide +kernel, by decide +kernel⟩, (List.mem_of_getElem? (i := 293) rfl), fun _ => ⟨(List.mem_of_getElem? (i := 291) rfl), (List.mem_of_getElem? (i := 292) rfl)⟩, fun h => absurd h (by decide), fun h => absurd h (by decide)⟩
set_option maxRecDepth 100000 in
theorem mok_117 : MOK 117 := ⟨rfl, (List.mem_of_getElem? (i := 5) rfl), by decide +kernel, by decide +kernel, ⟨by decide +kernel, by decide +kernel⟩, (List.mem_of_getElem? (i := 363) rfl), fun _ => ⟨(List.mem_of_getElem? (i := 361) rfl), (List.mem_of_getElem? (i := 362) rfl)⟩, fun h => absurd h (by decide), fun h => absurd h (by decide)⟩
set_option maxRecDepth 100000 in
theorem mok_118 : MOK 118 := ⟨rfl, (List.mem_of_getElem? (i := 5) rfl), by decide +kernel, by decide +kernel, ⟨by decide +kernel, by decide +kernel⟩, (List.mem_of_getElem? (i := 331) rfl), fun _ => ⟨(List.mem_of_getElem? (i := 329) rfl), (List.mem_of_getElem? (i := 330) rfl)⟩, fun h => absurd h (by decide), fun h => absurd h (by decide)⟩
set_option maxRecDepth 100000 in
theorem mok_119 : MOK 119 := ⟨rfl, (List.mem_of_getElem? (i := 5) rfl), by decide +kernel, by decide +kernel, ⟨by decide +kernel, by decide +kernel⟩, (List.mem_of_getElem? (i := 278) rfl), fun h => absurd h (by decide), fun _ => (List.mem_of_getElem? (i := 277) rfl), fun h => absurd h (by decide)⟩
set_option maxRecDepth 100000 in
theorem mok_120 : MOK 120 := ⟨rfl, (List.mem_of_getElem? (i := 5) rfl), by decide +kernel, by decide +kernel, ⟨by decide +kernel, by decide +kernel⟩, (List.mem_of_getElem? (i := 289) rfl), fun h => absurd h (by decide), fun _ => (List.mem_of_getElem? (i := 288) rfl), fun h => absurd h (by decide)⟩
set_option maxRecDepth 100000 in
theorem mok_121 : MOK 121 := ⟨rfl, (List.mem_of_getElem? (i := 5) rfl), by decide +kernel, by decide +kernel, ⟨by decide +kernel, by decide +kernel⟩, (List.mem_of_getElem? (i := 474) rfl), fun _ => ⟨(List.mem_of_getElem? (i := 472) rfl), (List.mem_of_getElem? (i := 473) rfl)⟩, fun h => absurd h (by decide), fun h => absurd h (by decide)⟩
set_option maxRecDepth 100000 in
theorem mok_122 : MOK 122 := ⟨rfl, (List.mem_of_getElem? (i := 5) rfl), by decide +kernel, by decide +kernel, ⟨by decide +kernel, by decide +kernel⟩, (List.mem_of_getElem? (i := 497) rfl), fun h => absurd h (by decide), fun _ => (List.mem_of_getElem? (i := 496) rfl), fun h => absurd h (by decide)⟩
set_option maxRecDepth 100000 in
theorem mok_123 : MOK 123 := ⟨rfl, (List.mem_of_getElem? (i := 5) rfl), by decide +kernel, by decide +kernel, ⟨by decide +kernel, by decide +kernel⟩, (List.mem_of_getElem? (i := 505) rfl), fun _ => ⟨(List.mem_of_getElem? (i := 503) rfl), (List.mem_of_getElem? (i := 504) rfl)⟩, fun h => absurd h (by decide), fun h => absurd h (by decide)⟩
set_option maxRecDepth 100000 in
theorem mok_124 : MOK 124 := ⟨rfl, (List.mem_of_getElem? (i := 5) rfl), by decide +kernel, by decide +kernel, ⟨by decide +kernel, by decide +kernel⟩, (List.mem_of_getElem? (i := 494) rfl), fun _ => ⟨(List.mem_of_getElem? (i := 492) rfl), (List.mem_of_getElem? (i := 493) rfl)⟩, fun h => absurd h (by decide), fun h => absurd h (by decide)⟩
set_option maxRecDepth 100000 in
theorem mok_125 : MOK 125 := ⟨rfl, (List.mem_of_getElem? (i := 5) rfl), by decide +kernel, by decide +kernel, ⟨by decide +kernel, by decide +kernel⟩, (List.mem_of_getElem? (i := 501) rfl), fun _ => ⟨(List.mem_of_getElem? (i := 499) rfl), (List.mem_of_getElem? (i := 500) rfl)⟩, fun h => absurd h (by decide), fun h => absurd h (by decide)⟩
set_option maxRecDepth 100000 in
theorem mok_126 : MOK 126 := ⟨rfl, (List.mem_of_getElem? (i := 5) rfl), by decide +kernel, by decide +kernel, ⟨by decide +kernel, by decide +kernel⟩, (List.mem_of_getElem? (i := 146) rfl), fun _ => ⟨(List.mem_of_getElem? (i := 144) rfl), (List.mem_of_getElem? (i := 145) rfl)⟩, fun h => absurd h (by decide), fun h => absurd h (by decide)⟩
set_option maxRecDepth 100000 in
theorem mok_127 : MOK 127 := ⟨rfl, (List.mem_of_getElem? (i := 5) rfl), by decide +kernel, by decide +kernel, ⟨by decide +kernel, by decide +kernel⟩, (List.mem_of_getElem? (i := 167) rfl), fun _ => ⟨(List.mem_of_getElem? (i := 165) rfl), (List.mem_of_getElem? (i := 166) rfl)⟩, fun h => absurd h (by decide), fun h => absurd h (by decide)⟩
set_option maxRecDepth 100000 in
theorem mok_128 : MOK 128 := ⟨rfl, (List.mem_of_getElem? (i := 5) rfl), by decide +kernel, by decide +kernel, ⟨by decide +kernel, by decide +kernel⟩, (List.mem_of_getElem? (i := 275) rfl), fun _ => ⟨(List.mem_of_getElem? (i := 273) rfl), (List.mem_of_getElem? (i := 274) rfl)⟩, fun h => absurd h (by decide), fun h => absurd h (by decide)⟩
set_option maxRecDepth 100000 in
theorem mok_129 : MOK 129 := ⟨rfl, (List.mem_of_getElem? (i := 5) rfl), by decide +kernel, by decide +kernel, ⟨by decide +kernel, by decide +kernel⟩, (List.mem_of_getElem? (i := 286) rfl), fun _ => ⟨(List.mem_of_getElem? (i := 284) rfl), (List.mem_of_getElem? (i := 285) rfl)⟩, fun h => absurd h (by decide), fun h => absurd h (by decide)⟩
set_option maxRecDepth 100000 in
theorem mok_130 : MOK 130 := ⟨rfl, (List.mem_of_getElem? (i := 5) rfl), by decide +kernel, by decide +kernel, ⟨by decide +kernel, by decide +kernel⟩, (List.mem_of_getElem? (i := 271) rfl), fun _ => ⟨(List.mem_of_getElem? (i := 269) rfl), (List.mem_of_getElem? (i := 270) rfl)⟩, fun h => absurd h (by decide), fun h => absurd h (by decide)⟩
set_option maxRecDepth 100000 in
theorem mok_131 : MOK 131 := ⟨rfl, (List.mem_of_getElem? (i := 5) rfl), by decide +kernel, by decide +kernel, ⟨by decide +kernel, by decide +kernel⟩, (List.mem_of_getElem? (i := 282) rfl), fun _ => ⟨(List.mem_of_getElem? (i := 280) rfl), (List.mem_of_getElem? (i := 281) rfl)⟩, fun h => absurd h (by decide), fun h => absurd h (by decide)⟩
set_option maxRecDepth 100000 in
theorem mok_132 : MOK 132 := ⟨rfl, (List.mem_of_getElem? (i := 5) rfl), by decide +kernel, by decide +kernel, ⟨by decide +kernel, by decide +kernel⟩, (List.mem_of_getElem? (i := 262) rfl), fun _ => ⟨(List.mem_of_getElem? (i := 260) rfl), (List.mem_of_getElem? (i := 261) rfl)⟩, fun h => absurd h (by decide), fun h => absurd h (by decide)⟩
set_option maxRecDepth 100000 in
theorem mok_133 : MOK 133 := ⟨rfl, (List.mem_of_getElem? (i := 5) rfl), by decide +kernel, by decide +kernel, ⟨by decide +kernel, by decide +kernel⟩, (List.mem_of_getElem? (i := 339) rfl), fun _ => ⟨(List.mem_of_getElem? (i := 337) rfl), (List.mem_of_getElem? (i := 338) rfl)⟩, fun h => absurd h (by decide), fun h => absurd h (by decide)⟩
set_option maxRecDepth 100000 in
theorem mok_134 : MOK 134 := ⟨rfl, (List.mem_of_getElem? (i := 5) rfl), by decide +kernel, by decide +kernel, ⟨by decide +kernel, by decide +kernel⟩, (List.mem_of_getElem? (i := 335) rfl), fun _ => ⟨(List.mem_of_getElem? (i := 333) rfl), (List.mem_of_getElem? (i := 334) rfl)⟩, fun h => absurd h (by decide), fun h => absurd h (by decide)⟩
set_option maxRecDepth 100000 in
theorem mok_135 : MOK 135 := ⟨rfl, (List.mem_of_getElem? (i := 5) rfl), by decide +kernel, by decide +kernel, ⟨by decide +kernel, by decide +kernel⟩, (List.mem_of_getElem? (i := 327) rfl), fun _ => ⟨(List.mem_of_getElem? (i := 325) rfl), (List.mem_of_getElem? (i := 326) rfl)⟩, fun h => absurd h (by decide), fun h => absurd h (by decide)⟩
set_option maxRecDepth 100000 in
theorem mok_136 : MOK 136 := ⟨rfl, (List.mem_of_getElem? (i := 5) rfl), by decide +kernel, by decide +kernel, ⟨by decide +kernel, by decide +kernel⟩, (List.mem_of_getElem? (i := 359) rfl), fun _ => ⟨(List.mem_of_getElem? (i := 357) rfl), (List.mem_of_getElem? (i := 358) rfl)⟩, fun h => absurd h (by decide), fun h => absurd h (by decide)⟩
set_option maxRecDepth 100000 in
theorem mok_137 : MOK 137 := ⟨rfl, (List.mem_of_getElem? (i := 5) rfl), by decide +kernel, by decide +kernel, ⟨by decide +kernel, by decide +kernel⟩, (List.mem_of_getElem? (i := 377) rfl), fun _ => ⟨(List.mem_of_getElem? (i := 375) rfl), (List.mem_of_getElem? (i := 376) rfl)⟩, fun h => absurd h (by decide), fun h => absurd h (by decide)⟩
set_option maxRecDepth 100000 in
theorem mok_138 : MOK 138 := ⟨rfl, (List.mem_of_getElem? (i := 5) rfl), by decide +kernel, by decide +kernel, ⟨by decide +kernel, by decide +kernel⟩, (List.mem_of_getElem? (i := 391) rfl), fun _ => ⟨(List.mem_of_getElem? (i := 389) rfl), (List.mem_of_getElem? (i := 390) rfl)⟩, fun h => absurd h (by decide), fun h => absurd h (by decide)⟩
set_option maxRecDepth 100000 in
theorem mok_139 : MOK 139 := ⟨rfl, (List.mem_of_getElem? (i := 5) rfl), by decide +kernel, by decide +kernel, ⟨by decide +kernel, by decide +kernel⟩, (List.mem_of_getElem? (i := 402) rfl), fun _ => ⟨(List.mem_of_getElem? (i := 400) rfl), (List.mem_of_getElem? (i := 401) rfl)⟩, fun h => absurd h (by decide), fun h => absurd h (by decide)⟩
set_option maxRecDepth 100000 in
theorem mok_140 : MOK 140 := ⟨rfl, (List.mem_of_getElem? (i := 5) rfl), by decide +kernel, by decide +kernel, ⟨by decide +kernel, by decide +kernel⟩, (List.mem_of_getElem? (i := 416) rfl), fun _ => ⟨(List.mem_of_getElem? (i := 414) rfl), (List.mem_of_getElem? (i := 415) rfl)⟩, fun h => absurd h (by decide), fun h => absurd h (by decide)⟩
set_option maxRecDepth 100000 in
theorem mok_141 : MOK 141 := ⟨rfl, (List.mem_of_getElem? (i := 5) rfl), by decide +kernel, by decide +kernel, ⟨by decide +kernel, by decide +kernel⟩, (List.mem_of_getElem? (i := 490) rfl), fun _ => ⟨(List.mem_of_getElem? (i := 488) rfl), (List.mem_of_getElem? (i := 489) rfl)⟩, fun h => absurd h (by decide), fun h => absurd h (by decide)⟩
set_option maxRecDepth 100000 in
theorem mok_142 : MOK 142 := ⟨rfl, (List.mem_of_getElem? (i := 5) rfl), by decide +kernel, by decide +kernel, ⟨by decide +kernel, by decide +kernel⟩, (List.mem_of_getElem? (i := 482) rfl), fun _ => ⟨(List.mem_of_getElem? (i := 480) rfl), (List.mem_of_getElem? (i := 481) rfl)⟩, fun h => absurd h (by decide), fun h => absurd h (by decide)⟩
set_option maxRecDepth 100000 in
theorem mok_143 : MOK 143 := ⟨rfl, (List.mem_of_getElem? (i := 5) rfl), by decide +kernel, by decide +kernel, ⟨by decide +kernel, by decide +kernel⟩, (List.mem_of_getElem? (i := 486) rfl), fun _ => ⟨(List.mem_of_getElem? (i := 484) rfl), (List.mem_of_getElem? (i := 485) rfl)⟩, fun h => absurd h (by decide), fun h => absurd h (by decide)⟩
set_option maxRecDepth 100000 in
theorem mok_144 : MOK 144 := ⟨rfl, (List.mem_of_getElem? (i := 5) rfl), by decide +kernel, by decide +kernel, ⟨by decide +kernel, by decide +kernel⟩, (List.mem_of_getElem? (i := 602) rfl), fun _ => ⟨(List.mem_of_getElem? (i := 600) rfl), (List.mem_of_getElem? (i := 601) rfl)⟩, fun h => absurd h (by decide), fun h => absurd h (by decide)⟩
set_option maxRecDepth 100000 in
theorem mok_145 : MOK 145 := ⟨rfl, (List.mem_of_getElem? (i := 5) rfl), by decide +kernel, by decide +kernel, ⟨by decide +kernel, by decide +kernel⟩, (List.mem_of_getElem? (i := 597) rfl), fun _ => ⟨(List.mem_of_getElem? (i := 595) rfl), (List.mem_of_getElem? (i := 596) rfl)⟩, fun h => absurd h (by decide), fun h => absurd h (by decide)⟩
set_option maxRecDepth 100000 in
theorem mok_146 : MOK 146 := ⟨rfl, (List.mem_of_getElem? (i := 5) rfl), by decide +kernel, by decide +kernel, ⟨by decide +kernel, by decide +kernel⟩, (List.mem_of_getElem? (i := 610) rfl), fun _ => ⟨(List.mem_of_getElem? (i := 608) rfl), (List.mem_of_getElem? (i := 609) rfl)⟩, fun h => absurd h (by decide), fun h => absurd h (by decide)⟩
set_option maxRecDepth 100000 in
theorem mok_147 : MOK 147 := ⟨rfl, (List.mem_of_getElem? (i := 5) rfl), by decide +kernel, by decide +kernel, ⟨by decide +kernel, by decide +kernel⟩, (List.mem_of_getElem? (i := 470) rfl), fun _ => ⟨(List.mem_of_getElem? (i := 468) rfl), (List.mem_of_getElem? (i := 469) rfl)⟩, fun h => absurd h (by decide), fun h => absurd h (by decide)⟩
set_option maxRecDepth 100000 in
theorem mok_148 : MOK 148 := ⟨rfl, (List.mem_of_getElem? (i := 5) rfl), by decide +kernel, by decide +kernel, ⟨by decide +kernel, by decide +kernel⟩, (List.mem_of_getElem? (i := 478) rfl), fun _ => ⟨(List.mem_of_getElem? (i := 476) rfl), (List.mem_of_getElem? (i := 477) rfl)⟩, fun h => absurd h (by decide), fun h => absurd h (by decide)⟩
set_option maxRecDepth 100000 in
theorem mok_149 : MOK 149 := ⟨rfl, (List.mem_of_getElem? (i := 5) rfl), by decide +kernel, by decide +kernel, ⟨by decide +kernel, by decide +kernel⟩, (List.mem_of_getElem? (i := 466) rfl), fun _ => ⟨(List.mem_of_getElem? (i := 464) rfl), (List.mem_of_getElem? (i := 465) rfl)⟩, fun h => absurd h (by decide), fun h => absurd h (by decide)⟩
set_option maxRecDepth 100000 in
theorem mok_150 : MOK 150 := ⟨rfl, (List.mem_of_getElem? (i := 5) rfl), by decide +kernel, by decide +kernel, ⟨by decide +kernel, by decide +kernel⟩, (List.mem_of_getElem? (i := 462) rfl), fun _ => ⟨(List.mem_of_getElem? (i := 460) rfl), (List.mem_of_getElem? (i := 461) rfl)⟩, fun h => absurd h (by decide), fun h => absurd h (by decide)⟩
set_option maxRecDepth 100000 in
theorem mok_151 : MOK 151 := ⟨rfl, (List.mem_of_getElem? (i := 5) rfl), by decide +kernel, by decide +kernel, ⟨by decide +kernel, by decide +kernel⟩, (List.mem_of_getElem? (i := 533) rfl), fun _ => ⟨(List.mem_of_getElem? (i := 531) rfl), (List.mem_of_getElem? (i := 532) rfl)⟩, fun h => absurd h (by decide), fun h => absurd h (by decide)⟩
set_option maxRecDepth 100000 in
theorem mok_152 : MOK 152 := ⟨rfl, (List.mem_of_getElem? (i := 5) rfl), by decide +kernel, by decide +kernel, ⟨by decide +kernel, by decide +kernel⟩, (List.mem_of_getElem? (i := 529) rfl), fun _ => ⟨(List.mem_of_getElem? (i := 527) rfl), (List.mem_of_getElem? (i := 528) rfl)⟩, fun h => absurd h (by decide), fun h => absurd h (by decide)⟩
set_option maxRecDepth 100000 in
theorem mok_153 : MOK 153 := ⟨rfl, (List.mem_of_getElem? (i := 5) rfl), by decide +kernel, by decide +kernel, ⟨by decide +kernel, by decide +kernel⟩, (List.mem_of_getElem? (i := 545) rfl), fun _ => ⟨(List.mem_of_getElem? (i := 543) rfl), (List.mem_of_getElem? (i := 544) rfl)⟩, fun h => absurd h (by decide), fun h => absurd h (by decide)⟩
set_option maxRecDepth 100000 in
theorem mok_154 : MOK 154 := ⟨rfl, (List.mem_of_getElem? (i := 5) rfl), by decide +kernel, by decide +kernel, ⟨by decide +kernel, by decide +kernel⟩, (List.mem_of_getElem? (i := 606) rfl), fun _ => ⟨(List.mem_of_getElem? (i := 604) rfl), (List.mem_of_getElem? (i := 605) rfl)⟩, fun h => absurd h (by decide), fun h => absurd h (by decide)⟩
set_option maxRecDepth 100000 in
theorem mok_155 : MOK 155 := ⟨rfl, (List.mem_of_getElem? (i := 5) rfl), by decide +kernel, by decide +kernel, ⟨by decide +kernel, by decide +kernel⟩, (List.mem_of_getElem? (i := 593) rfl), fun _ => ⟨(List.mem_of_getElem? (i := 591) rfl), (List.mem_of_getElem? (i := 592) rfl)⟩, fun h => absurd h (by decide), fun h => absurd h (by decide)⟩
set_option maxRecDepth 100000 in
theorem mok_156 : MOK 156 := ⟨rfl, (List.mem_of_getElem? (i := 5) rfl), by decide +kernel, by decide +kernel, ⟨by decide +kernel, by decide +kernel⟩, (List.mem_of_getElem? (i := 589) rfl), fun _ => ⟨(List.mem_of_getElem? (i := 587) rfl), (List.mem_of_getElem? (i := 588) rfl)⟩, fun h => absurd h (by decide), fun h => absurd h (by decide)⟩
set_option maxRecDepth 100000 in
theorem mok_157 : MOK 157 := ⟨rfl, (List.mem_of_getElem? (i := 5) rfl), by decide +kernel, by decide +kernel, ⟨by decide +kernel, by decide +kernel⟩, (List.mem_of_getElem? (i := 621) rfl), fun _ => ⟨(List.mem_of_getElem? (i := 619) rfl), (List.mem_of_getElem? (i := 620) rfl)⟩, fun h => absurd h (by decide), fun h => absurd h (by decide)⟩
set_option maxRecDepth 100000 in
theorem mok_158 : MOK 158 := ⟨rfl, (List.mem_of_getElem? (i := 5) rfl), by decide +kernel, by decide +kernel, ⟨by decide +kernel, by decide +kernel⟩, (List.mem_of_getElem? (i := 635) rfl), fun _ => ⟨(List.mem_of_getElem? (i := 633) rfl), (List.mem_of_getElem? (i := 634) rfl)⟩, fun h => absurd h (by decide), fun h => absurd h (by decide)⟩
set_option maxRecDepth 100000 in
theorem mok_159 : MOK 159 := ⟨rfl, (List.mem_of_getElem? (i := 5) rfl), by decide +kernel, by decide +kernel, ⟨by decide +kernel, by decide +kernel⟩, (List.mem_of_getElem? (i := 646) rfl), fun _ => ⟨(List.mem_of_getElem? (i := 644) rfl), (List.mem_of_getElem? (i := 645) rfl)⟩, fun h => absurd h (by decide), fun h => absurd h (by decide)⟩
set_option maxRecDepth 100000 in
theorem mok_160 : MOK 160 := ⟨rfl, (List.mem_of_getElem? (i := 5) rfl), by decide +kernel, by decide +kernel, ⟨by decide +kernel, by decide +kernel⟩, (List.mem_of_getElem? (i := 654) rfl), fun _ => ⟨(List.mem_of_getElem? (i := 652) rfl), (List.mem_of_getElem? (i := 653) rfl)⟩, fun h => absurd h (by decide), fun h => absurd h (by decide)⟩
set_option maxRecDepth 100000 in
theorem mok_161 : MOK 161 := ⟨rfl, (List.mem_of_getElem? (i := 5) rfl), by decide +kernel, by decide +kernel, ⟨by decide +kernel, by decide +kernel⟩, (List.mem_of_getElem? (i := 692) rfl), fun h => absurd h (by decide), fun _ => (List.mem_of_getElem? (i := 691) rfl), fun h => absurd h (by decide)⟩
set_option maxRecDepth 100000 in
theorem mok_162 : MOK 162 := ⟨rfl, (List.mem_of_getElem? (i := 5) rfl), by decide +kernel, by decide +kernel, ⟨by decide +kernel, by decide +kernel⟩, (List.mem_of_getElem? (i := 689) rfl), fun _ => ⟨(List.mem_of_getElem? (i := 687) rfl), (List.mem_of_getElem? (i := 688) rfl)⟩, fun h => absurd h (by decide), fun h => absurd h (by decide)⟩
set_option maxRecDepth 100000 in
theorem mok_163 : MOK 163 := ⟨rfl, (List.mem_of_getElem? (i := 5) rfl), by decide +kernel, by decide +kernel, ⟨by decide +kernel, by decide +kernel⟩, (List.mem_of_getElem? (i := 685) rfl), fun _ => ⟨(List.mem_of_getElem? (i := 683) rfl), (List.mem_of_getElem? (i := 684) rfl)⟩, fun h => absurd h (by decide), fun h => absurd h (by decide)⟩
set_option maxRecDepth 100000 in
theorem mok_164 : MOK 164 := ⟨rfl, (List.mem_of_getElem? (i := 5) rfl), by decide +kernel, by decide +kernel, ⟨by decide +kernel, by decide +kernel⟩, (List.mem_of_getElem? (i := 681) rfl), fun _ => ⟨(List.mem_of_getElem? (i := 679) rfl), (List.mem_of_getElem? (i := 680) rfl)⟩, fun h => absurd h (by decide), fun h => absurd h (by decide)⟩
set_option maxRecDepth 100000 in
theorem mok_165 : MOK 165 := ⟨rfl, (List.mem_of_getElem? (i := 5) rfl), by decide +kernel, by decide +kernel, ⟨by decide +kernel, by decide +kernel⟩, (List.mem_of_getElem? (i := 703) rfl), fun _ => ⟨(List.mem_of_getElem? (i := 701) rfl), (List.mem_of_getElem? (i := 702) rfl)⟩, fun h => absurd h (by decide), fun h => absurd h (by decide)⟩
set_option maxRecDepth 100000 in
theorem mok_166 : MOK 166 := ⟨rfl, (List.mem_of_getElem? (i := 5) rfl), by decide +kernel, by decide +kernel, ⟨by decide +kernel, by decide +kernel⟩, (List.mem_of_getElem? (i := 744) rfl), fun _ => ⟨(List.mem_of_getElem? (i := 742) rfl), (List.mem_of_getElem? (i := 743) rfl)⟩, fun h => absurd h (by decide), fun h => absurd h (by decide)⟩
set_option maxRecDepth 100000 in
theorem mok_167 : MOK 167 := ⟨rfl, (List.mem_of_getElem? (i := 5) rfl), by decide +kernel, by decide +kernel, ⟨by decide +kernel, by decide +kernel⟩, (List.mem_of_getElem? (i := 748) rfl), fun _ => ⟨(List.mem_of_getElem? (i := 746) rfl), (List.mem_of_getElem? (i := 747) rfl)⟩, fun h => absurd h (by decide), fun h => absurd h (by decide)⟩
set_option maxRecDepth 100000 in
theorem mok_168 : MOK 168 := ⟨rfl, (List.mem_of_getElem? (i := 5) rfl), by decide +kernel, by decide +kernel, ⟨by decide +kernel, by decide +kernel⟩, (List.mem_of_getElem? (i := 752) rfl), fun _ => ⟨(List.mem_of_getElem? (i := 750) rfl), (List.mem_of_getElem? (i := 751) rfl)⟩, fun h => absurd h (by decide), fun h => absurd h (by decide)⟩
set_option maxRecDepth 100000 in
theorem mok_169 : MOK 169 := ⟨rfl, (List.mem_of_getElem? (i := 5) rfl), by decide +kernel, by decide +kernel, ⟨by decide +kernel, by decide +kernel⟩, (List.mem_of_getElem? (i := 739) rfl), fun _ => ⟨(List.mem_of_getElem? (i := 737) rfl), (List.mem_of_getElem? (i := 738) rfl)⟩, fun h => absurd h (by decide), fun h => absurd h (by decide)⟩
set_option maxRecDepth 100000 in
theorem mok_170 : MOK 170 := ⟨rfl, (List.mem_of_getElem? (i := 5) rfl), by decide +kernel, by decide +kernel, ⟨by decide +kernel, by decide +kernel⟩, (List.mem_of_getElem? (i := 735) rfl), fun _ => ⟨(List.mem_of_getElem? (i := 733) rfl), (List.mem_of_getElem? (i := 734) rfl)⟩, fun h => absurd h (by decide), fun h => absurd h (by decide)⟩
set_option maxRecDepth 100000 in
theorem mok_171 : MOK 171 := ⟨rfl, (List.mem_of_getElem? (i := 5) rfl), by decide +kernel, by decide +kernel, ⟨by decide +kernel, by decide +kernel⟩, (List.mem_of_getElem? (i := 760) rfl), fun _ => ⟨(List.mem_of_getElem? (i := 758) rfl), (List.mem_of_getElem? (i := 759) rfl)⟩, fun h => absurd h (by decide), fun h => absurd h (by decide)⟩
set_option maxRecDepth 100000 in
theorem mok_172 : MOK 172 := ⟨rfl, (List.mem_of_getElem? (i := 5) rfl), by decide +kernel, by decide +kernel, ⟨by decide +kernel, by decide +kernel⟩, (List.mem_of_getElem? (i := 801) rfl), fun _ => ⟨(List.mem_of_getElem? (i := 799) rfl), (List.mem_of_getElem? (i := 800) rfl)⟩, fun h => absurd h (by decide), fun h => absurd h (by decide)⟩
set_option maxRecDepth 100000 in
theorem mok_173 : MOK 173 := ⟨rfl, (List.mem_of_getElem? (i := 5) rfl), by decide +kernel, by decide +kernel, ⟨by decide +kernel, by decide +kernel⟩, (List.mem_of_getElem? (i := 797) rfl), fun _ => ⟨(List.mem_of_getElem? (i := 795) rfl), (List.mem_of_getElem? (i := 796) rfl)⟩, fun h => absurd h (by decide), fun h => absurd h (by decide)⟩
set_option maxRecDepth 100000 in
theorem mok_174 : MOK 174 := ⟨rfl, (List.mem_of_getElem? (i := 5) rfl), by decide +kernel, by decide +kernel, ⟨by decide +kernel, by decide +kernel⟩, (List.mem_of_getElem? (i := 793) rfl), fun _ => ⟨(List.mem_of_getElem? (i := 791) rfl), (List.mem_of_getElem? (i := 792) rfl)⟩, fun h => absurd h (by decide), fun h => absurd h (by decide)⟩
set_option maxRecDepth 100000 in
theorem mok_175 : MOK 175 := ⟨rfl, (List.mem_of_getElem? (i := 5) rfl), by decide +kernel, by decide +kernel, ⟨by decide +kernel, by decide +kernel⟩, (List.mem_of_getElem? (i := 809) rfl), fun _ => ⟨(List.mem_of_getElem? (i := 807) rfl), (List.mem_of_getElem? (i := 808) rfl)⟩, fun h => absurd h (by decide), fun h => absurd h (by decide)⟩
set_option maxRecDepth 100000 in
theorem mok_176 : MOK 176 := ⟨rfl, (List.mem_of_getElem? (i := 5) rfl), by decide +kernel, by decide +kernel, ⟨by decide +kernel, by decide +kernel⟩, (List.mem_of_getElem? (i := 850) rfl), fun _ => ⟨(List.mem_of_getElem? (i := 848) rfl), (List.mem_of_getElem? (i := 849) rfl)⟩, fun h => absurd h (by decide), fun h => absurd h (by decide)⟩
set_option maxRecDepth 100000 in
theorem mok_177 : MOK 177 := ⟨rfl, (List.mem_of_getElem? (i := 5) rfl), by decide +kernel, by decide +kernel, ⟨by decide +kernel, by decide +kernel⟩, (List.mem_of_getElem? (i := 855) rfl), fun _ => ⟨(List.mem_of_getElem? (i := 853) rfl), (List.mem_of_getElem? (i := 854) rfl)⟩, fun h => absurd h (by decide), fun h => absurd h (by decide)⟩
set_option maxRecDepth 100000 in
theorem mok_178 : MOK 178 := ⟨rfl, (List.mem_of_getElem? (i := 5) rfl), by decide +kernel, by decide +kernel, ⟨by decide +kernel, by decide +kernel⟩, (List.mem_of_getElem? (i := 844) rfl), fun _ => ⟨(List.mem_of_getElem? (i := 842) rfl), (List.mem_of_getElem? (i := 843) rfl)⟩, fun h => absurd h (by decide), fun h => absurd h (by decide)⟩
set_option maxRecDepth 100000 in
theorem mok_179 : MOK 179 := ⟨rfl, (List.mem_of_getElem? (i := 669) rfl), by decide +kernel, by decide +kernel, ⟨by decide +kernel, by decide +kernel⟩, (List.mem_of_getElem? (i := 670) rfl), fun h => absurd h (by decide), fun _ => (List.mem_of_getElem? (i := 668) rfl), fun h => absurd h (by decide)⟩
set_option maxRecDepth 100000 in
theorem mok_180 : MOK 180 := ⟨rfl, (List.mem_of_getElem? (i := 76) rfl), by decide +kernel, by decide +kernel, ⟨by decide +kernel, by decide +kernel⟩, (List.mem_of_getElem? (i := 77) rfl), fun h => absurd h (by decide), fun _ => (List.mem_of_getElem? (i := 75) rfl), fun h => absurd h (by decide)⟩
theorem mokC_20 : ∀ a, a < 20 → MOK a := lt_s (lt_s (lt_s (lt_s (lt_s (lt_s (lt_s (lt_s (lt_s (lt_s (lt_s (lt_s (lt_s (lt_s (lt_s (lt_s (lt_s (lt_s (lt_s (lt_s (lt_0) (mok_0)) (mok_1)) (mok_2)) (mok_3)) (mok_4)) (mok_5)) (mok_6)) (mok_7)) (mok_8)) (mok_9)) (mok_10)) (mok_11)) (mok_12)) (mok_13)) (mok_14)) (mok_15)) (mok_16)) (mok_17)) (mok_18)) (mok_19)
theorem mokC_40 : ∀ a, a < 40 → MOK a := lt_s (lt_s (lt_s (lt_s (lt_s (lt_s (lt_s (lt_s (lt_s (lt_s (lt_s (lt_s (lt_s (lt_s (lt_s (lt_s (lt_s (lt_s (lt_s (lt_s (mokC_20) (mok_20)) (mok_21)) (mok_22)) (mok_23)) (mok_24)) (mok_25)) (mok_26)) (mok_27)) (mok_28)) (mok_29)) (mok_30)) (mok_31)) (mok_32)) (mok_33)) (mok_34)) (mok_35)) (mok_36)) (mok_37)) (mok_38)) (mok_39)
theorem mokC_60 : ∀ a, a < 60 → MOK a := lt_s (lt_s (lt_s (lt_s (lt_s (lt_s (lt_s (lt_s (lt_s (lt_s (lt_s (lt_s (lt_s (lt_s (lt_s (lt_s (lt_s (lt_s (lt_s (lt_s (mokC_40) (mok_40)) (mok_41)) (mok_42)) (mok_43)) (mok_44)) (mok_45)) (mok_46)) (mok_47)) (mok_48)) (mok_49)) (mok_50)) (mok_51)) (mok_52)) (mok_53)) (mok_54)) (mok_55)) (mok_56)) (mok_57)) (mok_58)) (mok_59)
theorem mokC_80 : ∀ a, a < 80 → MOK a := lt_s (lt_s (lt_s (lt_s (lt_s (lt_s (lt_s (lt_s (lt_s (lt_s (lt_s (lt_s (lt_s (lt_s (lt_s (lt_s (lt_s (lt_s (lt_s (lt_s (mokC_60) (mok_60)) (mok_61)) (mok_62)) (mok_63)) (mok_64)) (mok_65)) (mok_66)) (mok_67)) (mok_68)) (mok_69)) (mok_70)) (mok_71)) (mok_72)) (mok_73)) (mok_74)) (mok_75)) (mok_76)) (mok_77)) (mok_78)) (mok_79)
theorem mokC_100 : ∀ a, a < 100 → MOK a := lt_s (lt_s (lt_s (lt_s (lt_s (lt_s (lt_s (lt_s (lt_s (lt_s (lt_s (lt_s (lt_s (lt_s (lt_s (lt_s (lt_s (lt_s (lt_s (lt_s (mokC_80) (mok_80)) (mok_81)) (mok_82)) (mok_83)) (mok_84)) (mok_85)) (mok_86)) (mok_87)) (mok_88)) (mok_89)) (mok_90)) (mok_91)) (mok_92)) (mok_93)) (mok_94)) (mok_95)) (mok_96)) (mok_97)) (mok_98)) (mok_99)
theorem mokC_120 : ∀ a, a < 120 → MOK a := lt_s (lt_s (lt_s (lt_s (lt_s (lt_s (lt_s (lt_s (lt_s (lt_s (lt_s (lt_s (lt_s (lt_s (lt_s (lt_s (lt_s (lt_s (lt_s (lt_s (mokC_100) (mok_100)) (mok_101)) (mok_102)) (mok_103)) (mok_104)) (mok_105)) (mok_106)) (mok_107)) (mok_108)) (mok_109)) (mok_110)) (mok_111)) (mok_112)) (mok_113)) (mok_114)) (mok_115)) (mok_116)) (mok_117)) (mok_118)) (mok_119)
theorem mokC_140 : ∀ a, a < 140 → MOK a := lt_s (lt_s (lt_s (lt_s (lt_s (lt_s (lt_s (lt_s (lt_s (lt_s (lt_s (lt_s (lt_s (lt_s (lt_s (lt_s (lt_s (lt_s (lt_s (lt_s (mokC_120) (mok_120)) (mok_121)) (mok_122)) (mok_123)) (mok_124)) (mok_125)) (mok_126)) (mok_127)) (mok_128)) (mok_129)) (mok_130)) (mok_131)) (mok_132)) (mok_133)) (mok_134)) (mok_135)) (mok_136)) (mok_137)) (mok_138)) (mok_139)
theorem mokC_160 : ∀ a, a < 160 → MOK a := lt_s (lt_s (lt_s (lt_s (lt_s (lt_s (lt_s (lt_s (lt_s (lt_s (lt_s (lt_s (lt_s (lt_s (lt_s (lt_s (lt_s (lt_s (lt_s (lt_s (mokC_140) (mok_140)) (mok_141)) (mok_142)) (mok_143)) (mok_144)) (mok_145)) (mok_146)) (mok_147)) (mok_148)) (mok_149)) (mok_150)) (mok_151)) (mok_152)) (mok_153)) (mok_154)) (mok_155)) (mok_156)) (mok_157)) (mok_158)) (mok_159)
theorem mokC_180 : ∀ a, a < 180 → MOK a := lt_s (lt_s (lt_s (lt_s (lt_s (lt_s (lt_s (lt_s (lt_s (lt_s (lt_s (lt_s (lt_s (lt_s (lt_s (lt_s (lt_s (lt_s (lt_s (lt_s (mokC_160) (mok_160)) (mok_161)) (mok_162)) (mok_163)) (mok_164)) (mok_165)) (mok_166)) (mok_167)) (mok_168)) (mok_169)) (mok_170)) (mok_171)) (mok_172)) (mok_173)) (mok_174)) (mok_175)) (mok_176)) (mok_177)) (mok_178)) (mok_179)
theorem mokC_181 : ∀ a, a < 181 → MOK a := lt_s (mokC_180) (mok_180)
theorem mok : ∀ a, a < 181 → MOK a := mokC_181
def hhs (k : Nat) : List (Nat × Nat × Nat × Nat) := match k with
  | 181 => [(0, 9, 12, 13), (0, 9, 15, 15)]
  | 182 => [(0, 12, 15, 21), (0, 12, 19, 13), (0, 12, 23, 15)]
  | 183 => [(0, 9, 12, 21)]
  | 184 => [(0, 9, 12, 21)]
  | 185 => [(0, 10, 13, 21), (0, 10, 17, 13)]
  | 186 => [(0, 10, 13, 13)]
  | 187 => [(0, 9, 12, 21)]
  | 188 => [(0, 9, 12, 13)]
  | 189 => [(0, 10, 13, 21), (0, 10, 17, 13)]
  | 190 => [(0, 12, 15, 21)]
  | 191 => [(0, 10, 13, 21), (0, 10, 17, 13)]
  | 192 => [(0, 10, 13, 21)]
  | 193 => [(0, 10, 13, 21)]
  | 194 => [(0, 9, 12, 21), (0, 9, 15, 15)]
  | 195 => [(0, 9, 12, 21)]
  | 196 => [(0, 9, 12, 21), (0, 9, 15, 15)]
  | 197 => [(0, 10, 13, 13)]
  | 198 => [(0, 8, 11, 15)]
  | _ => []
def WOK (k : Nat) : Prop := (MN k).cls = RC (mcl k) ∧ Cond.initialized (RC (mcl k)) ∈ wsL_law ∧ (parseMethodDescriptor (MN k).desc).map (fun d => d.parameters.length) = some (mar k) ∧ plainName (MN k).cls = true ∧ ((MN k).cls ≠ "java/lang/invoke/MethodHandle" ∧ (MN k).cls ≠ "java/lang/invoke/VarHandle") ∧ Cond.codeWith (MN k) (MB k) (mml k) (MR k) (hhs k) ∈ wsL_law ∧ Cond.static (MN k) ∈ wsL_law
set_option maxRecDepth 100000 in
theorem wok_181 : WOK 181 := ⟨rfl, (List.mem_of_getElem? (i := 130) rfl), by decide +kernel, by decide +kernel, ⟨by decide +kernel, by decide +kernel⟩, (List.mem_of_getElem? (i := 131) rfl), (List.mem_of_getElem? (i := 129) rfl)⟩
set_option maxRecDepth 100000 in
theorem wok_182 : WOK 182 := ⟨rfl, (List.mem_of_getElem? (i := 130) rfl), by decide +kernel, by decide +kernel, ⟨by decide +kernel, by decide +kernel⟩, (List.mem_of_getElem? (i := 301) rfl), (List.mem_of_getElem? (i := 300) rfl)⟩
set_option maxRecDepth 100000 in
theorem wok_183 : WOK 183 := ⟨rfl, (List.mem_of_getElem? (i := 130) rfl), by decide +kernel, by decide +kernel, ⟨by decide +kernel, by decide +kernel⟩, (List.mem_of_getElem? (i := 342) rfl), (List.mem_of_getElem? (i := 341) rfl)⟩
set_option maxRecDepth 100000 in
theorem wok_184 : WOK 184 := ⟨rfl, (List.mem_of_getElem? (i := 130) rfl), by decide +kernel, by decide +kernel, ⟨by decide +kernel, by decide +kernel⟩, (List.mem_of_getElem? (i := 366) rfl), (List.mem_of_getElem? (i := 365) rfl)⟩
set_option maxRecDepth 100000 in
theorem wok_185 : WOK 185 := ⟨rfl, (List.mem_of_getElem? (i := 130) rfl), by decide +kernel, by decide +kernel, ⟨by decide +kernel, by decide +kernel⟩, (List.mem_of_getElem? (i := 380) rfl), (List.mem_of_getElem? (i := 379) rfl)⟩
set_option maxRecDepth 100000 in
theorem wok_186 : WOK 186 := ⟨rfl, (List.mem_of_getElem? (i := 130) rfl), by decide +kernel, by decide +kernel, ⟨by decide +kernel, by decide +kernel⟩, (List.mem_of_getElem? (i := 394) rfl), (List.mem_of_getElem? (i := 393) rfl)⟩
set_option maxRecDepth 100000 in
theorem wok_187 : WOK 187 := ⟨rfl, (List.mem_of_getElem? (i := 130) rfl), by decide +kernel, by decide +kernel, ⟨by decide +kernel, by decide +kernel⟩, (List.mem_of_getElem? (i := 405) rfl), (List.mem_of_getElem? (i := 404) rfl)⟩
set_option maxRecDepth 100000 in
theorem wok_188 : WOK 188 := ⟨rfl, (List.mem_of_getElem? (i := 130) rfl), by decide +kernel, by decide +kernel, ⟨by decide +kernel, by decide +kernel⟩, (List.mem_of_getElem? (i := 419) rfl), (List.mem_of_getElem? (i := 418) rfl)⟩
set_option maxRecDepth 100000 in
theorem wok_189 : WOK 189 := ⟨rfl, (List.mem_of_getElem? (i := 130) rfl), by decide +kernel, by decide +kernel, ⟨by decide +kernel, by decide +kernel⟩, (List.mem_of_getElem? (i := 508) rfl), (List.mem_of_getElem? (i := 507) rfl)⟩
set_option maxRecDepth 100000 in
theorem wok_190 : WOK 190 := ⟨rfl, (List.mem_of_getElem? (i := 130) rfl), by decide +kernel, by decide +kernel, ⟨by decide +kernel, by decide +kernel⟩, (List.mem_of_getElem? (i := 536) rfl), (List.mem_of_getElem? (i := 535) rfl)⟩
set_option maxRecDepth 100000 in
theorem wok_191 : WOK 191 := ⟨rfl, (List.mem_of_getElem? (i := 130) rfl), by decide +kernel, by decide +kernel, ⟨by decide +kernel, by decide +kernel⟩, (List.mem_of_getElem? (i := 548) rfl), (List.mem_of_getElem? (i := 547) rfl)⟩
set_option maxRecDepth 100000 in
theorem wok_192 : WOK 192 := ⟨rfl, (List.mem_of_getElem? (i := 130) rfl), by decide +kernel, by decide +kernel, ⟨by decide +kernel, by decide +kernel⟩, (List.mem_of_getElem? (i := 613) rfl), (List.mem_of_getElem? (i := 612) rfl)⟩
set_option maxRecDepth 100000 in
theorem wok_193 : WOK 193 := ⟨rfl, (List.mem_of_getElem? (i := 130) rfl), by decide +kernel, by decide +kernel, ⟨by decide +kernel, by decide +kernel⟩, (List.mem_of_getElem? (i := 624) rfl), (List.mem_of_getElem? (i := 623) rfl)⟩
set_option maxRecDepth 100000 in
theorem wok_194 : WOK 194 := ⟨rfl, (List.mem_of_getElem? (i := 130) rfl), by decide +kernel, by decide +kernel, ⟨by decide +kernel, by decide +kernel⟩, (List.mem_of_getElem? (i := 638) rfl), (List.mem_of_getElem? (i := 637) rfl)⟩
set_option maxRecDepth 100000 in
theorem wok_195 : WOK 195 := ⟨rfl, (List.mem_of_getElem? (i := 130) rfl), by decide +kernel, by decide +kernel, ⟨by decide +kernel, by decide +kernel⟩, (List.mem_of_getElem? (i := 695) rfl), (List.mem_of_getElem? (i := 694) rfl)⟩
set_option maxRecDepth 100000 in
theorem wok_196 : WOK 196 := ⟨rfl, (List.mem_of_getElem? (i := 130) rfl), by decide +kernel, by decide +kernel, ⟨by decide +kernel, by decide +kernel⟩, (List.mem_of_getElem? (i := 706) rfl), (List.mem_of_getElem? (i := 705) rfl)⟩
set_option maxRecDepth 100000 in
theorem wok_197 : WOK 197 := ⟨rfl, (List.mem_of_getElem? (i := 130) rfl), by decide +kernel, by decide +kernel, ⟨by decide +kernel, by decide +kernel⟩, (List.mem_of_getElem? (i := 763) rfl), (List.mem_of_getElem? (i := 762) rfl)⟩
set_option maxRecDepth 100000 in
theorem wok_198 : WOK 198 := ⟨rfl, (List.mem_of_getElem? (i := 130) rfl), by decide +kernel, by decide +kernel, ⟨by decide +kernel, by decide +kernel⟩, (List.mem_of_getElem? (i := 812) rfl), (List.mem_of_getElem? (i := 811) rfl)⟩
def LOK (o cp k : Nat) : Prop := Cond.methodLink (RC o) cp (MN k) ∈ wsL_law ∨ Cond.methodLinkNest (RC o) cp (MN k) "RubberStamps" ∈ NW
set_option maxRecDepth 100000 in
theorem lok_0_51 : LOK 0 11 51 := Or.inr (List.mem_of_getElem? (i := 73) rfl)
set_option maxRecDepth 100000 in
theorem lok_0_5 : LOK 0 20 5 := Or.inr (List.mem_of_getElem? (i := 74) rfl)
set_option maxRecDepth 100000 in
theorem lok_0_32 : LOK 0 27 32 := Or.inr (List.mem_of_getElem? (i := 75) rfl)
set_option maxRecDepth 100000 in
theorem lok_0_44 : LOK 0 49 44 := Or.inr (List.mem_of_getElem? (i := 76) rfl)
set_option maxRecDepth 100000 in
theorem lok_0_61 : LOK 0 55 61 := Or.inr (List.mem_of_getElem? (i := 77) rfl)
set_option maxRecDepth 100000 in
theorem lok_0_8 : LOK 0 59 8 := Or.inr (List.mem_of_getElem? (i := 78) rfl)
set_option maxRecDepth 100000 in
theorem lok_0_3 : LOK 0 62 3 := Or.inl (List.mem_of_getElem? (i := 775) rfl)
set_option maxRecDepth 100000 in
theorem lok_0_45 : LOK 0 72 45 := Or.inr (List.mem_of_getElem? (i := 79) rfl)
set_option maxRecDepth 100000 in
theorem lok_0_2 : LOK 0 76 2 := Or.inl (List.mem_of_getElem? (i := 779) rfl)
set_option maxRecDepth 100000 in
theorem lok_0_4 : LOK 0 80 4 := Or.inl (List.mem_of_getElem? (i := 786) rfl)
set_option maxRecDepth 100000 in
theorem lok_0_55 : LOK 0 84 55 := Or.inr (List.mem_of_getElem? (i := 80) rfl)
set_option maxRecDepth 100000 in
theorem lok_0_9 : LOK 0 88 9 := Or.inr (List.mem_of_getElem? (i := 81) rfl)
set_option maxRecDepth 100000 in
theorem lok_0_56 : LOK 0 92 56 := Or.inr (List.mem_of_getElem? (i := 82) rfl)
set_option maxRecDepth 100000 in
theorem lok_0_11 : LOK 0 96 11 := Or.inr (List.mem_of_getElem? (i := 83) rfl)
set_option maxRecDepth 100000 in
theorem lok_0_59 : LOK 0 103 59 := Or.inr (List.mem_of_getElem? (i := 71) rfl)
set_option maxRecDepth 100000 in
theorem lok_0_33 : LOK 0 107 33 := Or.inr (List.mem_of_getElem? (i := 72) rfl)
set_option maxRecDepth 100000 in
theorem lok_1_6 : LOK 1 15 6 := Or.inl (List.mem_of_getElem? (i := 240) rfl)
set_option maxRecDepth 100000 in
theorem lok_1_180 : LOK 1 19 180 := Or.inl (List.mem_of_getElem? (i := 235) rfl)
set_option maxRecDepth 100000 in
theorem lok_1_9 : LOK 1 37 9 := Or.inl (List.mem_of_getElem? (i := 236) rfl)
set_option maxRecDepth 100000 in
theorem lok_1_45 : LOK 1 41 45 := Or.inr (List.mem_of_getElem? (i := 84) rfl)
set_option maxRecDepth 100000 in
theorem lok_1_10 : LOK 1 48 10 := Or.inl (List.mem_of_getElem? (i := 243) rfl)
set_option maxRecDepth 100000 in
theorem lok_1_107 : LOK 1 52 107 := Or.inr (List.mem_of_getElem? (i := 85) rfl)
set_option maxRecDepth 100000 in
theorem lok_1_46 : LOK 1 56 46 := Or.inr (List.mem_of_getElem? (i := 86) rfl)
set_option maxRecDepth 100000 in
theorem lok_1_105 : LOK 1 60 105 := Or.inr (List.mem_of_getElem? (i := 87) rfl)
set_option maxRecDepth 100000 in
theorem lok_2_51 : LOK 2 17 51 := Or.inr (List.mem_of_getElem? (i := 88) rfl)
set_option maxRecDepth 100000 in
theorem lok_2_14 : LOK 2 22 14 := Or.inl (List.mem_of_getElem? (i := 206) rfl)
set_option maxRecDepth 100000 in
theorem lok_2_61 : LOK 2 25 61 := Or.inr (List.mem_of_getElem? (i := 89) rfl)
set_option maxRecDepth 100000 in
theorem lok_3_180 : LOK 3 21 180 := Or.inl (List.mem_of_getElem? (i := 74) rfl)
set_option maxRecDepth 100000 in
theorem lok_3_17 : LOK 3 27 17 := Or.inl (List.mem_of_getElem? (i := 321) rfl)
set_option maxRecDepth 100000 in
theorem lok_4_16 : LOK 4 33 16 := Or.inr (List.mem_of_getElem? (i := 91) rfl)
set_option maxRecDepth 100000 in
theorem lok_4_32 : LOK 4 34 32 := Or.inr (List.mem_of_getElem? (i := 92) rfl)
set_option maxRecDepth 100000 in
theorem lok_4_180 : LOK 4 35 180 := Or.inl (List.mem_of_getElem? (i := 716) rfl)
set_option maxRecDepth 100000 in
theorem lok_4_25 : LOK 4 54 25 := Or.inr (List.mem_of_getElem? (i := 93) rfl)
set_option maxRecDepth 100000 in
theorem lok_4_29 : LOK 4 58 29 := Or.inl (List.mem_of_getElem? (i := 717) rfl)
set_option maxRecDepth 100000 in
theorem lok_4_31 : LOK 4 74 31 := Or.inl (List.mem_of_getElem? (i := 720) rfl)
set_option maxRecDepth 100000 in
theorem lok_4_30 : LOK 4 78 30 := Or.inl (List.mem_of_getElem? (i := 725) rfl)
set_option maxRecDepth 100000 in
theorem lok_4_59 : LOK 4 82 59 := Or.inr (List.mem_of_getElem? (i := 94) rfl)
set_option maxRecDepth 100000 in
theorem lok_4_34 : LOK 4 86 34 := Or.inr (List.mem_of_getElem? (i := 95) rfl)
set_option maxRecDepth 100000 in
theorem lok_4_38 : LOK 4 93 38 := Or.inr (List.mem_of_getElem? (i := 96) rfl)
set_option maxRecDepth 100000 in
theorem lok_4_53 : LOK 4 97 53 := Or.inr (List.mem_of_getElem? (i := 97) rfl)
set_option maxRecDepth 100000 in
theorem lok_4_39 : LOK 4 104 39 := Or.inr (List.mem_of_getElem? (i := 90) rfl)
set_option maxRecDepth 100000 in
theorem lok_5_7 : LOK 5 25 7 := Or.inr (List.mem_of_getElem? (i := 98) rfl)
set_option maxRecDepth 100000 in
theorem lok_5_45 : LOK 5 43 45 := Or.inr (List.mem_of_getElem? (i := 99) rfl)
set_option maxRecDepth 100000 in
theorem lok_5_33 : LOK 5 49 33 := Or.inl (List.mem_of_getElem? (i := 564) rfl)
set_option maxRecDepth 100000 in
theorem lok_5_180 : LOK 5 53 180 := Or.inl (List.mem_of_getElem? (i := 565) rfl)
set_option maxRecDepth 100000 in
theorem lok_5_35 : LOK 5 59 35 := Or.inl (List.mem_of_getElem? (i := 566) rfl)
set_option maxRecDepth 100000 in
theorem lok_5_36 : LOK 5 62 36 := Or.inl (List.mem_of_getElem? (i := 570) rfl)
set_option maxRecDepth 100000 in
theorem lok_5_17 : LOK 5 65 17 := Or.inr (List.mem_of_getElem? (i := 100) rfl)
set_option maxRecDepth 100000 in
theorem lok_5_20 : LOK 5 74 20 := Or.inr (List.mem_of_getElem? (i := 101) rfl)
set_option maxRecDepth 100000 in
theorem lok_5_24 : LOK 5 77 24 := Or.inr (List.mem_of_getElem? (i := 102) rfl)
set_option maxRecDepth 100000 in
theorem lok_6_42 : LOK 6 34 42 := Or.inl (List.mem_of_getElem? (i := 251) rfl)
set_option maxRecDepth 100000 in
theorem lok_6_41 : LOK 6 38 41 := Or.inl (List.mem_of_getElem? (i := 195) rfl)
set_option maxRecDepth 100000 in
theorem lok_7_40 : LOK 7 11 40 := Or.inr (List.mem_of_getElem? (i := 103) rfl)
set_option maxRecDepth 100000 in
theorem lok_7_16 : LOK 7 29 16 := Or.inr (List.mem_of_getElem? (i := 104) rfl)
set_option maxRecDepth 100000 in
theorem lok_7_47 : LOK 7 44 47 := Or.inr (List.mem_of_getElem? (i := 105) rfl)
set_option maxRecDepth 100000 in
theorem lok_7_46 : LOK 7 48 46 := Or.inr (List.mem_of_getElem? (i := 106) rfl)
set_option maxRecDepth 100000 in
theorem lok_7_48 : LOK 7 52 48 := Or.inr (List.mem_of_getElem? (i := 107) rfl)
set_option maxRecDepth 100000 in
theorem lok_7_21 : LOK 7 56 21 := Or.inr (List.mem_of_getElem? (i := 108) rfl)
set_option maxRecDepth 100000 in
theorem lok_7_49 : LOK 7 60 49 := Or.inr (List.mem_of_getElem? (i := 109) rfl)
set_option maxRecDepth 100000 in
theorem lok_7_22 : LOK 7 63 22 := Or.inr (List.mem_of_getElem? (i := 110) rfl)
set_option maxRecDepth 100000 in
theorem lok_7_20 : LOK 7 70 20 := Or.inr (List.mem_of_getElem? (i := 111) rfl)
set_option maxRecDepth 100000 in
theorem lok_7_58 : LOK 7 74 58 := Or.inl (List.mem_of_getElem? (i := 445) rfl)
set_option maxRecDepth 100000 in
theorem lok_7_105 : LOK 7 78 105 := Or.inr (List.mem_of_getElem? (i := 112) rfl)
set_option maxRecDepth 100000 in
theorem lok_7_50 : LOK 7 81 50 := Or.inr (List.mem_of_getElem? (i := 113) rfl)
set_option maxRecDepth 100000 in
theorem lok_7_25 : LOK 7 85 25 := Or.inr (List.mem_of_getElem? (i := 114) rfl)
set_option maxRecDepth 100000 in
theorem lok_7_60 : LOK 7 88 60 := Or.inl (List.mem_of_getElem? (i := 213) rfl)
set_option maxRecDepth 100000 in
theorem lok_8_51 : LOK 8 15 51 := Or.inr (List.mem_of_getElem? (i := 39) rfl)
set_option maxRecDepth 100000 in
theorem lok_8_12 : LOK 8 25 12 := Or.inr (List.mem_of_getElem? (i := 50) rfl)
set_option maxRecDepth 100000 in
theorem lok_8_5 : LOK 8 32 5 := Or.inr (List.mem_of_getElem? (i := 58) rfl)
set_option maxRecDepth 100000 in
theorem lok_8_32 : LOK 8 39 32 := Or.inr (List.mem_of_getElem? (i := 64) rfl)
set_option maxRecDepth 100000 in
theorem lok_8_16 : LOK 8 46 16 := Or.inr (List.mem_of_getElem? (i := 65) rfl)
set_option maxRecDepth 100000 in
theorem lok_8_26 : LOK 8 53 26 := Or.inr (List.mem_of_getElem? (i := 66) rfl)
set_option maxRecDepth 100000 in
theorem lok_8_0 : LOK 8 60 0 := Or.inr (List.mem_of_getElem? (i := 67) rfl)
set_option maxRecDepth 100000 in
theorem lok_8_91 : LOK 8 81 91 := Or.inl (List.mem_of_getElem? (i := 172) rfl)
set_option maxRecDepth 100000 in
theorem lok_8_13 : LOK 8 85 13 := Or.inr (List.mem_of_getElem? (i := 68) rfl)
set_option maxRecDepth 100000 in
theorem lok_8_60 : LOK 8 89 60 := Or.inr (List.mem_of_getElem? (i := 69) rfl)
set_option maxRecDepth 100000 in
theorem lok_8_8 : LOK 8 92 8 := Or.inr (List.mem_of_getElem? (i := 70) rfl)
set_option maxRecDepth 100000 in
theorem lok_8_41 : LOK 8 107 41 := Or.inr (List.mem_of_getElem? (i := 31) rfl)
set_option maxRecDepth 100000 in
theorem lok_8_43 : LOK 8 116 43 := Or.inr (List.mem_of_getElem? (i := 32) rfl)
set_option maxRecDepth 100000 in
theorem lok_8_44 : LOK 8 122 44 := Or.inr (List.mem_of_getElem? (i := 33) rfl)
set_option maxRecDepth 100000 in
theorem lok_8_55 : LOK 8 128 55 := Or.inr (List.mem_of_getElem? (i := 34) rfl)
set_option maxRecDepth 100000 in
theorem lok_8_56 : LOK 8 134 56 := Or.inr (List.mem_of_getElem? (i := 35) rfl)
set_option maxRecDepth 100000 in
theorem lok_8_57 : LOK 8 138 57 := Or.inr (List.mem_of_getElem? (i := 36) rfl)
set_option maxRecDepth 100000 in
theorem lok_8_53 : LOK 8 143 53 := Or.inr (List.mem_of_getElem? (i := 37) rfl)
set_option maxRecDepth 100000 in
theorem lok_8_54 : LOK 8 147 54 := Or.inr (List.mem_of_getElem? (i := 38) rfl)
set_option maxRecDepth 100000 in
theorem lok_8_23 : LOK 8 162 23 := Or.inr (List.mem_of_getElem? (i := 40) rfl)
set_option maxRecDepth 100000 in
theorem lok_8_94 : LOK 8 167 94 := Or.inl (List.mem_of_getElem? (i := 424) rfl)
set_option maxRecDepth 100000 in
theorem lok_8_97 : LOK 8 172 97 := Or.inl (List.mem_of_getElem? (i := 513) rfl)
set_option maxRecDepth 100000 in
theorem lok_8_42 : LOK 8 176 42 := Or.inr (List.mem_of_getElem? (i := 41) rfl)
set_option maxRecDepth 100000 in
theorem lok_8_106 : LOK 8 182 106 := Or.inl (List.mem_of_getElem? (i := 523) rfl)
set_option maxRecDepth 100000 in
theorem lok_8_107 : LOK 8 186 107 := Or.inl (List.mem_of_getElem? (i := 541) rfl)
set_option maxRecDepth 100000 in
theorem lok_8_98 : LOK 8 190 98 := Or.inl (List.mem_of_getElem? (i := 553) rfl)
set_option maxRecDepth 100000 in
theorem lok_8_46 : LOK 8 195 46 := Or.inr (List.mem_of_getElem? (i := 42) rfl)
set_option maxRecDepth 100000 in
theorem lok_8_100 : LOK 8 198 100 := Or.inl (List.mem_of_getElem? (i := 557) rfl)
set_option maxRecDepth 100000 in
theorem lok_8_37 : LOK 8 207 37 := Or.inr (List.mem_of_getElem? (i := 43) rfl)
set_option maxRecDepth 100000 in
theorem lok_8_38 : LOK 8 210 38 := Or.inr (List.mem_of_getElem? (i := 44) rfl)
set_option maxRecDepth 100000 in
theorem lok_8_39 : LOK 8 216 39 := Or.inr (List.mem_of_getElem? (i := 45) rfl)
set_option maxRecDepth 100000 in
theorem lok_8_102 : LOK 8 220 102 := Or.inl (List.mem_of_getElem? (i := 659) rfl)
set_option maxRecDepth 100000 in
theorem lok_8_59 : LOK 8 223 59 := Or.inr (List.mem_of_getElem? (i := 46) rfl)
set_option maxRecDepth 100000 in
theorem lok_8_105 : LOK 8 227 105 := Or.inl (List.mem_of_getElem? (i := 666) rfl)
set_option maxRecDepth 100000 in
theorem lok_8_101 : LOK 8 230 101 := Or.inl (List.mem_of_getElem? (i := 448) rfl)
set_option maxRecDepth 100000 in
theorem lok_8_27 : LOK 8 235 27 := Or.inr (List.mem_of_getElem? (i := 47) rfl)
set_option maxRecDepth 100000 in
theorem lok_8_28 : LOK 8 241 28 := Or.inr (List.mem_of_getElem? (i := 48) rfl)
set_option maxRecDepth 100000 in
theorem lok_8_1 : LOK 8 246 1 := Or.inr (List.mem_of_getElem? (i := 49) rfl)
set_option maxRecDepth 100000 in
theorem lok_8_45 : LOK 8 261 45 := Or.inr (List.mem_of_getElem? (i := 51) rfl)
set_option maxRecDepth 100000 in
theorem lok_8_33 : LOK 8 264 33 := Or.inr (List.mem_of_getElem? (i := 52) rfl)
set_option maxRecDepth 100000 in
theorem lok_8_15 : LOK 8 271 15 := Or.inr (List.mem_of_getElem? (i := 53) rfl)
set_option maxRecDepth 100000 in
theorem lok_8_88 : LOK 8 278 88 := Or.inl (List.mem_of_getElem? (i := 830) rfl)
set_option maxRecDepth 100000 in
theorem lok_8_89 : LOK 8 282 89 := Or.inl (List.mem_of_getElem? (i := 837) rfl)
set_option maxRecDepth 100000 in
theorem lok_8_90 : LOK 8 285 90 := Or.inl (List.mem_of_getElem? (i := 834) rfl)
set_option maxRecDepth 100000 in
theorem lok_8_52 : LOK 8 289 52 := Or.inr (List.mem_of_getElem? (i := 54) rfl)
set_option maxRecDepth 100000 in
theorem lok_8_92 : LOK 8 292 92 := Or.inl (List.mem_of_getElem? (i := 179) rfl)
set_option maxRecDepth 100000 in
theorem lok_8_93 : LOK 8 296 93 := Or.inl (List.mem_of_getElem? (i := 182) rfl)
set_option maxRecDepth 100000 in
theorem lok_8_48 : LOK 8 300 48 := Or.inr (List.mem_of_getElem? (i := 55) rfl)
set_option maxRecDepth 100000 in
theorem lok_8_47 : LOK 8 303 47 := Or.inr (List.mem_of_getElem? (i := 56) rfl)
set_option maxRecDepth 100000 in
theorem lok_8_95 : LOK 8 313 95 := Or.inl (List.mem_of_getElem? (i := 428) rfl)
set_option maxRecDepth 100000 in
theorem lok_8_96 : LOK 8 316 96 := Or.inl (List.mem_of_getElem? (i := 438) rfl)
set_option maxRecDepth 100000 in
theorem lok_8_58 : LOK 8 319 58 := Or.inr (List.mem_of_getElem? (i := 57) rfl)
set_option maxRecDepth 100000 in
theorem lok_8_18 : LOK 8 322 18 := Or.inr (List.mem_of_getElem? (i := 59) rfl)
set_option maxRecDepth 100000 in
theorem lok_8_19 : LOK 8 325 19 := Or.inr (List.mem_of_getElem? (i := 60) rfl)
set_option maxRecDepth 100000 in
theorem lok_8_20 : LOK 8 328 20 := Or.inr (List.mem_of_getElem? (i := 61) rfl)
set_option maxRecDepth 100000 in
theorem lok_8_99 : LOK 8 331 99 := Or.inl (List.mem_of_getElem? (i := 576) rfl)
set_option maxRecDepth 100000 in
theorem lok_8_25 : LOK 8 335 25 := Or.inr (List.mem_of_getElem? (i := 62) rfl)
set_option maxRecDepth 100000 in
theorem lok_8_34 : LOK 8 339 34 := Or.inr (List.mem_of_getElem? (i := 63) rfl)
set_option maxRecDepth 100000 in
theorem lok_8_104 : LOK 8 343 104 := Or.inl (List.mem_of_getElem? (i := 663) rfl)
set_option maxRecDepth 100000 in
theorem lok_8_179 : LOK 8 346 179 := Or.inl (List.mem_of_getElem? (i := 667) rfl)
set_option maxRecDepth 100000 in
theorem lok_8_103 : LOK 8 351 103 := Or.inl (List.mem_of_getElem? (i := 674) rfl)
set_option maxRecDepth 100000 in
theorem lok_8_108 : LOK 8 354 108 := Or.inl (List.mem_of_getElem? (i := 255) rfl)
set_option maxRecDepth 100000 in
theorem lok_9_111 : LOK 9 50 111 := Or.inl (List.mem_of_getElem? (i := 151) rfl)
set_option maxRecDepth 100000 in
theorem lok_9_112 : LOK 9 54 112 := Or.inl (List.mem_of_getElem? (i := 148) rfl)
set_option maxRecDepth 100000 in
theorem lok_9_119 : LOK 9 58 119 := Or.inl (List.mem_of_getElem? (i := 276) rfl)
set_option maxRecDepth 100000 in
theorem lok_9_122 : LOK 9 62 122 := Or.inl (List.mem_of_getElem? (i := 495) rfl)
set_option maxRecDepth 100000 in
theorem lok_9_123 : LOK 9 65 123 := Or.inl (List.mem_of_getElem? (i := 502) rfl)
set_option maxRecDepth 100000 in
theorem lok_9_124 : LOK 9 68 124 := Or.inl (List.mem_of_getElem? (i := 491) rfl)
set_option maxRecDepth 100000 in
theorem lok_9_128 : LOK 9 78 128 := Or.inl (List.mem_of_getElem? (i := 272) rfl)
set_option maxRecDepth 100000 in
theorem lok_9_131 : LOK 9 82 131 := Or.inl (List.mem_of_getElem? (i := 279) rfl)
set_option maxRecDepth 100000 in
theorem lok_9_129 : LOK 9 86 129 := Or.inl (List.mem_of_getElem? (i := 283) rfl)
set_option maxRecDepth 100000 in
theorem lok_9_120 : LOK 9 89 120 := Or.inl (List.mem_of_getElem? (i := 287) rfl)
set_option maxRecDepth 100000 in
theorem lok_9_115 : LOK 9 92 115 := Or.inl (List.mem_of_getElem? (i := 264) rfl)
set_option maxRecDepth 100000 in
theorem lok_9_130 : LOK 9 95 130 := Or.inl (List.mem_of_getElem? (i := 268) rfl)
set_option maxRecDepth 100000 in
theorem lok_9_116 : LOK 9 99 116 := Or.inl (List.mem_of_getElem? (i := 290) rfl)
set_option maxRecDepth 100000 in
theorem lok_9_113 : LOK 9 102 113 := Or.inl (List.mem_of_getElem? (i := 294) rfl)
set_option maxRecDepth 100000 in
theorem lok_9_118 : LOK 9 105 118 := Or.inl (List.mem_of_getElem? (i := 328) rfl)
set_option maxRecDepth 100000 in
theorem lok_9_134 : LOK 9 108 134 := Or.inl (List.mem_of_getElem? (i := 332) rfl)
set_option maxRecDepth 100000 in
theorem lok_9_133 : LOK 9 111 133 := Or.inl (List.mem_of_getElem? (i := 336) rfl)
set_option maxRecDepth 100000 in
theorem lok_9_117 : LOK 9 115 117 := Or.inl (List.mem_of_getElem? (i := 360) rfl)
set_option maxRecDepth 100000 in
theorem lok_9_121 : LOK 9 118 121 := Or.inl (List.mem_of_getElem? (i := 471) rfl)
set_option maxRecDepth 100000 in
theorem lok_9_141 : LOK 9 121 141 := Or.inl (List.mem_of_getElem? (i := 487) rfl)
set_option maxRecDepth 100000 in
theorem lok_9_125 : LOK 9 125 125 := Or.inl (List.mem_of_getElem? (i := 498) rfl)
set_option maxRecDepth 100000 in
theorem lok_9_143 : LOK 9 131 143 := Or.inl (List.mem_of_getElem? (i := 483) rfl)
set_option maxRecDepth 100000 in
theorem lok_9_142 : LOK 9 135 142 := Or.inl (List.mem_of_getElem? (i := 479) rfl)
set_option maxRecDepth 100000 in
theorem lok_9_144 : LOK 9 139 144 := Or.inl (List.mem_of_getElem? (i := 599) rfl)
set_option maxRecDepth 100000 in
theorem lok_9_147 : LOK 9 142 147 := Or.inl (List.mem_of_getElem? (i := 467) rfl)
set_option maxRecDepth 100000 in
theorem lok_9_148 : LOK 9 145 148 := Or.inl (List.mem_of_getElem? (i := 475) rfl)
set_option maxRecDepth 100000 in
theorem lok_9_149 : LOK 9 148 149 := Or.inl (List.mem_of_getElem? (i := 463) rfl)
set_option maxRecDepth 100000 in
theorem lok_9_151 : LOK 9 151 151 := Or.inl (List.mem_of_getElem? (i := 530) rfl)
set_option maxRecDepth 100000 in
theorem lok_9_145 : LOK 9 154 145 := Or.inl (List.mem_of_getElem? (i := 594) rfl)
set_option maxRecDepth 100000 in
theorem lok_9_146 : LOK 9 157 146 := Or.inl (List.mem_of_getElem? (i := 607) rfl)
set_option maxRecDepth 100000 in
theorem lok_9_154 : LOK 9 160 154 := Or.inl (List.mem_of_getElem? (i := 603) rfl)
set_option maxRecDepth 100000 in
theorem lok_9_155 : LOK 9 164 155 := Or.inl (List.mem_of_getElem? (i := 590) rfl)
set_option maxRecDepth 100000 in
theorem lok_9_162 : LOK 9 167 162 := Or.inl (List.mem_of_getElem? (i := 686) rfl)
set_option maxRecDepth 100000 in
theorem lok_9_161 : LOK 9 170 161 := Or.inl (List.mem_of_getElem? (i := 690) rfl)
set_option maxRecDepth 100000 in
theorem lok_9_163 : LOK 9 173 163 := Or.inl (List.mem_of_getElem? (i := 682) rfl)
set_option maxRecDepth 100000 in
theorem lok_9_166 : LOK 9 179 166 := Or.inl (List.mem_of_getElem? (i := 741) rfl)
set_option maxRecDepth 100000 in
theorem lok_9_167 : LOK 9 182 167 := Or.inl (List.mem_of_getElem? (i := 745) rfl)
set_option maxRecDepth 100000 in
theorem lok_9_168 : LOK 9 185 168 := Or.inl (List.mem_of_getElem? (i := 749) rfl)
set_option maxRecDepth 100000 in
theorem lok_9_169 : LOK 9 188 169 := Or.inl (List.mem_of_getElem? (i := 736) rfl)
set_option maxRecDepth 100000 in
theorem lok_9_172 : LOK 9 191 172 := Or.inl (List.mem_of_getElem? (i := 798) rfl)
set_option maxRecDepth 100000 in
theorem lok_9_173 : LOK 9 194 173 := Or.inl (List.mem_of_getElem? (i := 794) rfl)
set_option maxRecDepth 100000 in
theorem lok_9_176 : LOK 9 203 176 := Or.inl (List.mem_of_getElem? (i := 847) rfl)
set_option maxRecDepth 100000 in
theorem lok_9_177 : LOK 9 208 177 := Or.inl (List.mem_of_getElem? (i := 852) rfl)
set_option maxRecDepth 100000 in
theorem lok_10_63 : LOK 10 7 63 := Or.inl (List.mem_of_getElem? (i := 134) rfl)
set_option maxRecDepth 100000 in
theorem lok_10_66 : LOK 10 17 66 := Or.inl (List.mem_of_getElem? (i := 303) rfl)
set_option maxRecDepth 100000 in
theorem lok_10_67 : LOK 10 23 67 := Or.inl (List.mem_of_getElem? (i := 343) rfl)
set_option maxRecDepth 100000 in
theorem lok_10_68 : LOK 10 26 68 := Or.inl (List.mem_of_getElem? (i := 367) rfl)
set_option maxRecDepth 100000 in
theorem lok_10_69 : LOK 10 29 69 := Or.inl (List.mem_of_getElem? (i := 381) rfl)
set_option maxRecDepth 100000 in
theorem lok_10_70 : LOK 10 33 70 := Or.inl (List.mem_of_getElem? (i := 395) rfl)
set_option maxRecDepth 100000 in
theorem lok_10_71 : LOK 10 36 71 := Or.inl (List.mem_of_getElem? (i := 406) rfl)
set_option maxRecDepth 100000 in
theorem lok_10_72 : LOK 10 39 72 := Or.inl (List.mem_of_getElem? (i := 420) rfl)
set_option maxRecDepth 100000 in
theorem lok_10_73 : LOK 10 42 73 := Or.inl (List.mem_of_getElem? (i := 509) rfl)
set_option maxRecDepth 100000 in
theorem lok_10_74 : LOK 10 45 74 := Or.inl (List.mem_of_getElem? (i := 537) rfl)
set_option maxRecDepth 100000 in
theorem lok_10_75 : LOK 10 49 75 := Or.inl (List.mem_of_getElem? (i := 549) rfl)
set_option maxRecDepth 100000 in
theorem lok_10_76 : LOK 10 52 76 := Or.inl (List.mem_of_getElem? (i := 614) rfl)
set_option maxRecDepth 100000 in
theorem lok_10_77 : LOK 10 55 77 := Or.inl (List.mem_of_getElem? (i := 625) rfl)
set_option maxRecDepth 100000 in
theorem lok_10_78 : LOK 10 58 78 := Or.inl (List.mem_of_getElem? (i := 639) rfl)
set_option maxRecDepth 100000 in
theorem lok_10_81 : LOK 10 61 81 := Or.inl (List.mem_of_getElem? (i := 696) rfl)
set_option maxRecDepth 100000 in
theorem lok_10_82 : LOK 10 64 82 := Or.inl (List.mem_of_getElem? (i := 707) rfl)
set_option maxRecDepth 100000 in
theorem lok_10_84 : LOK 10 67 84 := Or.inl (List.mem_of_getElem? (i := 764) rfl)
set_option maxRecDepth 100000 in
theorem lok_10_86 : LOK 10 70 86 := Or.inl (List.mem_of_getElem? (i := 813) rfl)
set_option maxRecDepth 100000 in
theorem lok_10_62 : LOK 10 74 62 := Or.inl (List.mem_of_getElem? (i := 7) rfl)
set_option maxRecDepth 100000 in
theorem lok_10_109 : LOK 10 77 109 := Or.inl (List.mem_of_getElem? (i := 113) rfl)
set_option maxRecDepth 100000 in
theorem lok_10_181 : LOK 10 78 181 := Or.inl (List.mem_of_getElem? (i := 128) rfl)
set_option maxRecDepth 100000 in
theorem lok_10_126 : LOK 10 83 126 := Or.inl (List.mem_of_getElem? (i := 143) rfl)
set_option maxRecDepth 100000 in
theorem lok_10_110 : LOK 10 84 110 := Or.inl (List.mem_of_getElem? (i := 156) rfl)
set_option maxRecDepth 100000 in
theorem lok_10_64 : LOK 10 87 64 := Or.inl (List.mem_of_getElem? (i := 160) rfl)
set_option maxRecDepth 100000 in
theorem lok_10_127 : LOK 10 90 127 := Or.inl (List.mem_of_getElem? (i := 164) rfl)
set_option maxRecDepth 100000 in
theorem lok_10_65 : LOK 10 91 65 := Or.inl (List.mem_of_getElem? (i := 168) rfl)
set_option maxRecDepth 100000 in
theorem lok_10_132 : LOK 10 94 132 := Or.inl (List.mem_of_getElem? (i := 259) rfl)
set_option maxRecDepth 100000 in
theorem lok_10_182 : LOK 10 95 182 := Or.inl (List.mem_of_getElem? (i := 299) rfl)
set_option maxRecDepth 100000 in
theorem lok_10_135 : LOK 10 98 135 := Or.inl (List.mem_of_getElem? (i := 324) rfl)
set_option maxRecDepth 100000 in
theorem lok_10_183 : LOK 10 99 183 := Or.inl (List.mem_of_getElem? (i := 340) rfl)
set_option maxRecDepth 100000 in
theorem lok_10_136 : LOK 10 101 136 := Or.inl (List.mem_of_getElem? (i := 356) rfl)
set_option maxRecDepth 100000 in
theorem lok_10_184 : LOK 10 102 184 := Or.inl (List.mem_of_getElem? (i := 364) rfl)
set_option maxRecDepth 100000 in
theorem lok_10_137 : LOK 10 104 137 := Or.inl (List.mem_of_getElem? (i := 374) rfl)
set_option maxRecDepth 100000 in
theorem lok_10_185 : LOK 10 105 185 := Or.inl (List.mem_of_getElem? (i := 378) rfl)
set_option maxRecDepth 100000 in
theorem lok_10_138 : LOK 10 108 138 := Or.inl (List.mem_of_getElem? (i := 388) rfl)
set_option maxRecDepth 100000 in
theorem lok_10_186 : LOK 10 109 186 := Or.inl (List.mem_of_getElem? (i := 392) rfl)
set_option maxRecDepth 100000 in
theorem lok_10_139 : LOK 10 111 139 := Or.inl (List.mem_of_getElem? (i := 399) rfl)
set_option maxRecDepth 100000 in
theorem lok_10_187 : LOK 10 112 187 := Or.inl (List.mem_of_getElem? (i := 403) rfl)
set_option maxRecDepth 100000 in
theorem lok_10_140 : LOK 10 114 140 := Or.inl (List.mem_of_getElem? (i := 413) rfl)
set_option maxRecDepth 100000 in
theorem lok_10_188 : LOK 10 115 188 := Or.inl (List.mem_of_getElem? (i := 417) rfl)
set_option maxRecDepth 100000 in
theorem lok_10_150 : LOK 10 117 150 := Or.inl (List.mem_of_getElem? (i := 459) rfl)
set_option maxRecDepth 100000 in
theorem lok_10_189 : LOK 10 118 189 := Or.inl (List.mem_of_getElem? (i := 506) rfl)
set_option maxRecDepth 100000 in
theorem lok_10_152 : LOK 10 120 152 := Or.inl (List.mem_of_getElem? (i := 526) rfl)
set_option maxRecDepth 100000 in
theorem lok_10_190 : LOK 10 121 190 := Or.inl (List.mem_of_getElem? (i := 534) rfl)
set_option maxRecDepth 100000 in
theorem lok_10_153 : LOK 10 124 153 := Or.inl (List.mem_of_getElem? (i := 542) rfl)
set_option maxRecDepth 100000 in
theorem lok_10_191 : LOK 10 125 191 := Or.inl (List.mem_of_getElem? (i := 546) rfl)
set_option maxRecDepth 100000 in
theorem lok_10_156 : LOK 10 127 156 := Or.inl (List.mem_of_getElem? (i := 586) rfl)
set_option maxRecDepth 100000 in
theorem lok_10_192 : LOK 10 128 192 := Or.inl (List.mem_of_getElem? (i := 611) rfl)
set_option maxRecDepth 100000 in
theorem lok_10_157 : LOK 10 130 157 := Or.inl (List.mem_of_getElem? (i := 618) rfl)
set_option maxRecDepth 100000 in
theorem lok_10_193 : LOK 10 131 193 := Or.inl (List.mem_of_getElem? (i := 622) rfl)
set_option maxRecDepth 100000 in
theorem lok_10_158 : LOK 10 133 158 := Or.inl (List.mem_of_getElem? (i := 632) rfl)
set_option maxRecDepth 100000 in
theorem lok_10_194 : LOK 10 134 194 := Or.inl (List.mem_of_getElem? (i := 636) rfl)
set_option maxRecDepth 100000 in
theorem lok_10_159 : LOK 10 136 159 := Or.inl (List.mem_of_getElem? (i := 643) rfl)
set_option maxRecDepth 100000 in
theorem lok_10_79 : LOK 10 137 79 := Or.inl (List.mem_of_getElem? (i := 647) rfl)
set_option maxRecDepth 100000 in
theorem lok_10_160 : LOK 10 140 160 := Or.inl (List.mem_of_getElem? (i := 651) rfl)
set_option maxRecDepth 100000 in
theorem lok_10_80 : LOK 10 141 80 := Or.inl (List.mem_of_getElem? (i := 655) rfl)
set_option maxRecDepth 100000 in
theorem lok_10_164 : LOK 10 144 164 := Or.inl (List.mem_of_getElem? (i := 678) rfl)
set_option maxRecDepth 100000 in
theorem lok_10_195 : LOK 10 145 195 := Or.inl (List.mem_of_getElem? (i := 693) rfl)
set_option maxRecDepth 100000 in
theorem lok_10_165 : LOK 10 147 165 := Or.inl (List.mem_of_getElem? (i := 700) rfl)
set_option maxRecDepth 100000 in
theorem lok_10_196 : LOK 10 148 196 := Or.inl (List.mem_of_getElem? (i := 704) rfl)
set_option maxRecDepth 100000 in
theorem lok_10_170 : LOK 10 150 170 := Or.inl (List.mem_of_getElem? (i := 732) rfl)
set_option maxRecDepth 100000 in
theorem lok_10_83 : LOK 10 151 83 := Or.inl (List.mem_of_getElem? (i := 753) rfl)
set_option maxRecDepth 100000 in
theorem lok_10_171 : LOK 10 154 171 := Or.inl (List.mem_of_getElem? (i := 757) rfl)
set_option maxRecDepth 100000 in
theorem lok_10_197 : LOK 10 155 197 := Or.inl (List.mem_of_getElem? (i := 761) rfl)
set_option maxRecDepth 100000 in
theorem lok_10_174 : LOK 10 157 174 := Or.inl (List.mem_of_getElem? (i := 790) rfl)
set_option maxRecDepth 100000 in
theorem lok_10_85 : LOK 10 158 85 := Or.inl (List.mem_of_getElem? (i := 802) rfl)
set_option maxRecDepth 100000 in
theorem lok_10_175 : LOK 10 162 175 := Or.inl (List.mem_of_getElem? (i := 806) rfl)
set_option maxRecDepth 100000 in
theorem lok_10_198 : LOK 10 163 198 := Or.inl (List.mem_of_getElem? (i := 810) rfl)
set_option maxRecDepth 100000 in
theorem lok_10_114 : LOK 10 166 114 := Or.inl (List.mem_of_getElem? (i := 820) rfl)
set_option maxRecDepth 100000 in
theorem lok_10_87 : LOK 10 167 87 := Or.inl (List.mem_of_getElem? (i := 824) rfl)
set_option maxRecDepth 100000 in
theorem lok_10_178 : LOK 10 171 178 := Or.inl (List.mem_of_getElem? (i := 841) rfl)
def AOK (o cp k : Nat) : Prop := (k = 900 → Cond.methodLink (RC o) cp objectInit ∈ wsL_law) ∧ (k = 901 → Cond.methodLink (RC o) cp Lib.Math.min.name ∈ wsL_law) ∧ (k = 902 → Cond.methodLink (RC o) cp arraycopyName ∈ wsL_law)
set_option maxRecDepth 100000 in
theorem aok_0_900 : AOK 0 3 900 := by unfold AOK; decide +kernel
set_option maxRecDepth 100000 in
theorem aok_1_900 : AOK 1 3 900 := by unfold AOK; decide +kernel
set_option maxRecDepth 100000 in
theorem aok_2_900 : AOK 2 3 900 := by unfold AOK; decide +kernel
set_option maxRecDepth 100000 in
theorem aok_3_900 : AOK 3 3 900 := by unfold AOK; decide +kernel
set_option maxRecDepth 100000 in
theorem aok_3_902 : AOK 3 31 902 := by unfold AOK; decide +kernel
set_option maxRecDepth 100000 in
theorem aok_4_900 : AOK 4 3 900 := by unfold AOK; decide +kernel
set_option maxRecDepth 100000 in
theorem aok_4_902 : AOK 4 108 902 := by unfold AOK; decide +kernel
set_option maxRecDepth 100000 in
theorem aok_5_900 : AOK 5 3 900 := by unfold AOK; decide +kernel
set_option maxRecDepth 100000 in
theorem aok_5_901 : AOK 5 31 901 := by unfold AOK; decide +kernel
set_option maxRecDepth 100000 in
theorem aok_6_900 : AOK 6 3 900 := by unfold AOK; decide +kernel
set_option maxRecDepth 100000 in
theorem aok_6_901 : AOK 6 18 901 := by unfold AOK; decide +kernel
set_option maxRecDepth 100000 in
theorem aok_6_902 : AOK 6 42 902 := by unfold AOK; decide +kernel
set_option maxRecDepth 100000 in
theorem aok_7_900 : AOK 7 3 900 := by unfold AOK; decide +kernel
set_option maxRecDepth 100000 in
theorem aok_7_902 : AOK 7 64 902 := by unfold AOK; decide +kernel
set_option maxRecDepth 100000 in
theorem aok_8_900 : AOK 8 3 900 := by unfold AOK; decide +kernel
set_option maxRecDepth 100000 in
theorem aok_9_900 : AOK 9 1 900 := by unfold AOK; decide +kernel
set_option maxRecDepth 100000 in
theorem lib_in : Cond.instanceMethod objectInit ∈ wsL_law ∧ Cond.code objectInit ⟨#[0xb1]⟩ 1 none ∈ wsL_law ∧ Cond.static Lib.Math.min.name ∈ wsL_law ∧ Cond.initialized "java/lang/Math" ∈ wsL_law ∧ Cond.code Lib.Math.min.name Lib.Math.min.code 2 (some .int) ∈ wsL_law ∧ Cond.native arraycopyName ∈ wsL_law ∧ Cond.static arraycopyName ∈ wsL_law ∧ Cond.initialized "java/lang/System" ∈ wsL_law ∧ Cond.arrayClass .int ∈ wsL_law ∧ Cond.arrayClass .long ∈ wsL_law := by decide +kernel
def NOK (o cp c : Nat) : Prop := Cond.classLink (RC o) cp (RC c) ∈ wsL_law ∧ Cond.instantiable (RC c) (fcn c) ∈ wsL_law ∧ Cond.initialized (RC c) ∈ wsL_law
set_option maxRecDepth 100000 in
theorem nok_0_7 : NOK 0 9 7 := by unfold NOK; decide +kernel
set_option maxRecDepth 100000 in
theorem nok_0_1 : NOK 0 18 1 := by unfold NOK; decide +kernel
set_option maxRecDepth 100000 in
theorem nok_0_5 : NOK 0 25 5 := by unfold NOK; decide +kernel
set_option maxRecDepth 100000 in
theorem nok_2_7 : NOK 2 9 7 := by unfold NOK; decide +kernel
set_option maxRecDepth 100000 in
theorem nok_4_3 : NOK 4 9 3 := by unfold NOK; decide +kernel
set_option maxRecDepth 100000 in
theorem nok_4_5 : NOK 4 17 5 := by unfold NOK; decide +kernel
set_option maxRecDepth 100000 in
theorem nok_7_6 : NOK 7 9 6 := by unfold NOK; decide +kernel
set_option maxRecDepth 100000 in
theorem nok_7_3 : NOK 7 27 3 := by unfold NOK; decide +kernel
set_option maxRecDepth 100000 in
theorem nok_8_7 : NOK 8 13 7 := by unfold NOK; decide +kernel
set_option maxRecDepth 100000 in
theorem nok_8_2 : NOK 8 23 2 := by unfold NOK; decide +kernel
set_option maxRecDepth 100000 in
theorem nok_8_1 : NOK 8 30 1 := by unfold NOK; decide +kernel
set_option maxRecDepth 100000 in
theorem nok_8_5 : NOK 8 37 5 := by unfold NOK; decide +kernel
set_option maxRecDepth 100000 in
theorem nok_8_3 : NOK 8 44 3 := by unfold NOK; decide +kernel
set_option maxRecDepth 100000 in
theorem nok_8_4 : NOK 8 51 4 := by unfold NOK; decide +kernel
set_option maxRecDepth 100000 in
theorem nok_8_0 : NOK 8 58 0 := by unfold NOK; decide +kernel
set_option maxRecDepth 100000 in
theorem nok_10_8 : NOK 10 8 8 := by unfold NOK; decide +kernel
set_option maxRecDepth 100000 in
theorem nok_10_9 : NOK 10 75 9 := by unfold NOK; decide +kernel
def BOK (o cp t : Nat) : Prop := Cond.classLink (RC o) cp (RC (el3 t - 1)) ∈ wsL_law
set_option maxRecDepth 100000 in
theorem bok_2_13 : BOK 2 9 13 := by unfold BOK; decide +kernel
set_option maxRecDepth 100000 in
theorem bok_4_14 : BOK 4 9 14 := by unfold BOK; decide +kernel
set_option maxRecDepth 100000 in
theorem bok_4_15 : BOK 4 17 15 := by unfold BOK; decide +kernel
def VOK (o cp v : Nat) : Prop := Cond.constant (RC o) cp (Int32.ofInt (v : Int)) ∈ wsL_law
def UOK (o cp v : Nat) : Prop := Cond.constantLong (RC o) cp (Int64.ofInt (v : Int)) ∈ wsL_law
set_option maxRecDepth 100000 in
theorem vok_8_105059 : UOK 8 274 105059 := by unfold UOK; decide +kernel
set_option maxRecDepth 100000 in
theorem vok_8_31 : UOK 8 276 31 := by unfold UOK; decide +kernel
set_option maxRecDepth 100000 in
theorem vok_9_31 : UOK 9 197 31 := by unfold UOK; decide +kernel
set_option maxRecDepth 100000 in
theorem vok_9_3389 : UOK 9 206 3389 := by unfold UOK; decide +kernel
set_option maxRecDepth 100000 in
theorem vok_12_1431655765 : VOK 12 265 1431655765 := by unfold VOK; decide +kernel
set_option maxRecDepth 100000 in
theorem vok_12_858993459 : VOK 12 266 858993459 := by unfold VOK; decide +kernel
set_option maxRecDepth 100000 in
theorem vok_12_252645135 : VOK 12 267 252645135 := by unfold VOK; decide +kernel
set_option maxRecDepth 100000 in
theorem st_in : Cond.fieldLink RX8 357 "RubberStamps" "TURNED" "[I" ∈ wsL_law := by decide +kernel
