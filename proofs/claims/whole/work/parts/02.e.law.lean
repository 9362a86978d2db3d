abbrev cL_give : ByteArray := method_3_code
def yL_give : MethodName := ⟨RL, "give", "(LQuarterboard;I[J)I"⟩
abbrev cL_place : ByteArray := method_4_code
def yL_place : MethodName := ⟨RL, "place", "(LQuarterboard;I[J)I"⟩
abbrev cL_pieceAt : ByteArray := method_5_code
def yL_pieceAt : MethodName := ⟨RL, "pieceAt", "(LQuarterboard;I[J)I"⟩
abbrev cL_onLine : ByteArray := method_6_code
def yL_onLine : MethodName := ⟨RL, "onLine", "(LQuarterboard;I[J)I"⟩
abbrev cL_shared : ByteArray := method_7_code
def yL_shared : MethodName := ⟨RL, "shared", "(LQuarterboard;I[J)I"⟩
abbrev cL_winning : ByteArray := method_8_code
def yL_winning : MethodName := ⟨RL, "winning", "(LQuarterboard;I[J)I"⟩
abbrev cL_safe : ByteArray := method_9_code
def yL_safe : MethodName := ⟨RL, "safe", "(LQuarterboard;[J)I"⟩
abbrev cL_worth : ByteArray := method_10_code
def yL_worth : MethodName := ⟨RL, "worth", "(LQuarterboard;I[J)I"⟩
abbrev cL_best : ByteArray := method_11_code
def yL_best : MethodName := ⟨RL, "best", "(LQuarterboard;I[J)I"⟩
abbrev cL_isAlike : ByteArray := method_12_code
def yL_isAlike : MethodName := ⟨RL, "isAlike", "(LQuarterboard;[J)I"⟩
abbrev cL_law : ByteArray := code
def yL_law : MethodName := ⟨RL, "law", "([I)Z"⟩
def wsL_give : List Cond := .codeWith yL_give cL_give 4 (some .int) [(0, 9, 12, 13), (0, 9, 15, 15)] :: ([.classLink RL 13 "java/lang/IndexOutOfBoundsException", .classLink RL 15 "java/lang/IllegalStateException", .methodLink RL 7 yX0_give, .instanceMethod yX0_give, .selects RX0 yX0_give yX0_give, .initialized RX0, .code yX0_give cX0_give 2 (some .int), .classLink RX0 46 "java/lang/IndexOutOfBoundsException", .initialized "java/lang/IndexOutOfBoundsException", .classLink RX0 53 "java/lang/IllegalStateException", .initialized "java/lang/IllegalStateException", .fieldLink RX0 29 "Quarterboard" "stage" "I", .fieldLink RX0 35 "Quarterboard" "used" "I", .fieldLink RX0 9 "Quarterboard" "held" "I", .fieldLink RX0 32 "Quarterboard" "player" "I", .methodLink RX0 42 yX0_isNumber, .static yX0_isNumber, .code yX0_isNumber cX0_isNumber 1 (some .boolean), .methodLink RX0 58 yX0_has, .static yX0_has, .code yX0_has cX0_has 2 (some .boolean)] ++ wsX00 ++ (vx_atS RX0 50 "java/lang/IndexOutOfBoundsException" ["java/lang/RuntimeException", "java/lang/Exception"]).filter goodWord ++ (vx_atS RX0 57 "java/lang/IllegalStateException" ["java/lang/RuntimeException", "java/lang/Exception"]).filter goodWord)
def wsL_place_r1 : List Cond := [Cond.classLink RL 13 "java/lang/IndexOutOfBoundsException", Cond.classLink RL 15 "java/lang/IllegalStateException", Cond.methodLink RL 17 yX0_place, Cond.instanceMethod yX0_place, Cond.selects RX0 yX0_place yX0_place, Cond.initialized RX0, Cond.code yX0_place cX0_place 3 (some .int), Cond.classLink RX0 46 "java/lang/IndexOutOfBoundsException", Cond.initialized "java/lang/IndexOutOfBoundsException", Cond.classLink RX0 53 "java/lang/IllegalStateException", Cond.initialized "java/lang/IllegalStateException", Cond.fieldLink RX0 29 "Quarterboard" "stage" "I", Cond.fieldLink RX0 16 "Quarterboard" "filled" "I", Cond.fieldLink RX0 9 "Quarterboard" "held" "I", Cond.fieldLink RX0 32 "Quarterboard" "player" "I", Cond.fieldLink RX0 13 "Quarterboard" "victor" "I", Cond.constant RX0 78 (65535), Cond.methodLink RX0 42 yX0_isNumber, Cond.static yX0_isNumber, Cond.code yX0_isNumber cX0_isNumber 1 (some .boolean), Cond.methodLink RX0 58 yX0_has, Cond.static yX0_has, Cond.code yX0_has cX0_has 2 (some .boolean), Cond.methodLink RX0 70 yX0_put]
def wsL_place_r2 : List Cond := [Cond.instanceMethod yX0_put, Cond.selects RX0 yX0_put yX0_put, Cond.code yX0_put cX0_put 3 none, Cond.fieldLink RX0 35 "Quarterboard" "used" "I", Cond.fieldLink RX0 38 "Quarterboard" "digits" "J", Cond.methodLink RX0 147 yX0_atFirstSquare, Cond.static yX0_atFirstSquare, Cond.code yX0_atFirstSquare cX0_atFirstSquare 1 (some .long), Cond.constantLong RX0 141 (2), Cond.constantLong RX0 143 (4), Cond.constantLong RX0 145 (8), Cond.methodLink RX0 74 yX0_wonLines, Cond.instanceMethod yX0_wonLines, Cond.selects RX0 yX0_wonLines yX0_wonLines, Cond.code yX0_wonLines cX0_wonLines 4 (some .int), Cond.fieldLink RX0 83 "Quarterboard" "LINES" "[I", Cond.methodLink RX0 87 yX0_lines, Cond.instanceMethod yX0_lines, Cond.selects RX0 yX0_lines yX0_lines, Cond.code yX0_lines cX0_lines 1 (some .int), Cond.fieldLink RX0 25 "Quarterboard" "withBlocks" "Z", Cond.methodLink RX0 92 yX0_inCommon, Cond.instanceMethod yX0_inCommon, Cond.selects RX0 yX0_inCommon yX0_inCommon]
def wsL_place_r3 : List Cond := [Cond.code yX0_inCommon cX0_inCommon 6 (some .int), Cond.methodLink RX0 79 yX0_withOne, Cond.static yX0_withOne, Cond.code yX0_withOne cX0_withOne 3 (some .int)]
def wsL_place : List Cond := .codeWith yL_place cL_place 4 (some .int) [(0, 9, 12, 13), (0, 9, 15, 15)] :: ((wsL_place_r1 ++ (wsL_place_r2 ++ wsL_place_r3)) ++ wsX00 ++ (vx_atS RX0 50 "java/lang/IndexOutOfBoundsException" ["java/lang/RuntimeException", "java/lang/Exception"]).filter goodWord ++ (vx_atS RX0 57 "java/lang/IllegalStateException" ["java/lang/RuntimeException", "java/lang/Exception"]).filter goodWord)
def wsL_pieceAt : List Cond := .codeWith yL_pieceAt cL_pieceAt 4 (some .int) [(0, 9, 12, 13)] :: ([.classLink RL 13 "java/lang/IndexOutOfBoundsException", .methodLink RL 20 yX0_pieceAt, .instanceMethod yX0_pieceAt, .selects RX0 yX0_pieceAt yX0_pieceAt, .initialized RX0, .code yX0_pieceAt cX0_pieceAt 4 (some .int), .classLink RX0 46 "java/lang/IndexOutOfBoundsException", .initialized "java/lang/IndexOutOfBoundsException", .fieldLink RX0 16 "Quarterboard" "filled" "I", .fieldLink RX0 38 "Quarterboard" "digits" "J", .methodLink RX0 42 yX0_isNumber, .static yX0_isNumber, .code yX0_isNumber cX0_isNumber 1 (some .boolean), .methodLink RX0 58 yX0_has, .static yX0_has, .code yX0_has cX0_has 2 (some .boolean), .methodLink RX0 79 yX0_withOne, .static yX0_withOne, .code yX0_withOne cX0_withOne 3 (some .int), .constant RX0 78 (65535)] ++ wsX00 ++ (vx_atS RX0 50 "java/lang/IndexOutOfBoundsException" ["java/lang/RuntimeException", "java/lang/Exception"]).filter goodWord)
def wsL_onLine : List Cond := .codeWith yL_onLine cL_onLine 4 (some .int) [(0, 9, 12, 13)] :: ([.classLink RL 13 "java/lang/IndexOutOfBoundsException", .methodLink RL 23 yX0_onLine, .instanceMethod yX0_onLine, .selects RX0 yX0_onLine yX0_onLine, .initialized RX0, .code yX0_onLine cX0_onLine 2 (some .int), .classLink RX0 46 "java/lang/IndexOutOfBoundsException", .initialized "java/lang/IndexOutOfBoundsException", .fieldLink RX0 83 "Quarterboard" "LINES" "[I", .fieldLink RX0 16 "Quarterboard" "filled" "I", .methodLink RX0 87 yX0_lines, .instanceMethod yX0_lines, .selects RX0 yX0_lines yX0_lines, .code yX0_lines cX0_lines 1 (some .int), .fieldLink RX0 25 "Quarterboard" "withBlocks" "Z", .methodLink RX0 19 yJ6_bitCount_0f7a4, .static yJ6_bitCount_0f7a4, .initialized RJ6, .code yJ6_bitCount_0f7a4 cJ6_bitCount_0f7a4 1 (some .int), .constant RJ6 265 (1431655765), .constant RJ6 266 (858993459), .constant RJ6 267 (252645135)] ++ wsX00 ++ (vx_atS RX0 50 "java/lang/IndexOutOfBoundsException" ["java/lang/RuntimeException", "java/lang/Exception"]).filter goodWord)
def wsL_shared : List Cond := .codeWith yL_shared cL_shared 4 (some .int) [(0, 9, 12, 13)] :: ([.classLink RL 13 "java/lang/IndexOutOfBoundsException", .methodLink RL 26 yX0_shared, .instanceMethod yX0_shared, .selects RX0 yX0_shared yX0_shared, .initialized RX0, .code yX0_shared cX0_shared 2 (some .int), .classLink RX0 46 "java/lang/IndexOutOfBoundsException", .initialized "java/lang/IndexOutOfBoundsException", .fieldLink RX0 83 "Quarterboard" "LINES" "[I", .methodLink RX0 87 yX0_lines, .instanceMethod yX0_lines, .selects RX0 yX0_lines yX0_lines, .code yX0_lines cX0_lines 1 (some .int), .fieldLink RX0 25 "Quarterboard" "withBlocks" "Z", .methodLink RX0 92 yX0_inCommon, .instanceMethod yX0_inCommon, .selects RX0 yX0_inCommon yX0_inCommon, .code yX0_inCommon cX0_inCommon 6 (some .int), .fieldLink RX0 16 "Quarterboard" "filled" "I", .fieldLink RX0 38 "Quarterboard" "digits" "J", .methodLink RX0 79 yX0_withOne, .static yX0_withOne, .code yX0_withOne cX0_withOne 3 (some .int), .constant RX0 78 (65535)] ++ wsX00 ++ (vx_atS RX0 50 "java/lang/IndexOutOfBoundsException" ["java/lang/RuntimeException", "java/lang/Exception"]).filter goodWord)
def wsL_winning_r1 : List Cond := [Cond.classLink RL 13 "java/lang/IndexOutOfBoundsException", Cond.classLink RL 15 "java/lang/IllegalStateException", Cond.methodLink RL 29 yX0_winning, Cond.instanceMethod yX0_winning, Cond.selects RX0 yX0_winning yX0_winning, Cond.initialized RX0, Cond.code yX0_winning cX0_winning 2 (some .int), Cond.classLink RX0 46 "java/lang/IndexOutOfBoundsException", Cond.initialized "java/lang/IndexOutOfBoundsException", Cond.classLink RX0 53 "java/lang/IllegalStateException", Cond.initialized "java/lang/IllegalStateException", Cond.fieldLink RX0 29 "Quarterboard" "stage" "I", Cond.fieldLink RX0 35 "Quarterboard" "used" "I", Cond.methodLink RX0 42 yX0_isNumber, Cond.static yX0_isNumber, Cond.code yX0_isNumber cX0_isNumber 1 (some .boolean), Cond.methodLink RX0 58 yX0_has, Cond.static yX0_has, Cond.code yX0_has cX0_has 2 (some .boolean), Cond.methodLink RX0 97 yX0_winningSquares, Cond.instanceMethod yX0_winningSquares, Cond.selects RX0 yX0_winningSquares yX0_winningSquares, Cond.code yX0_winningSquares cX0_winningSquares 6 (some .int), Cond.fieldLink RX0 83 "Quarterboard" "LINES" "[I"]
def wsL_winning_r2 : List Cond := [Cond.fieldLink RX0 16 "Quarterboard" "filled" "I", Cond.methodLink RX0 155 yX0_ownDigits, Cond.static yX0_ownDigits, Cond.code yX0_ownDigits cX0_ownDigits 1 (some .int), Cond.methodLink RX0 87 yX0_lines, Cond.instanceMethod yX0_lines, Cond.selects RX0 yX0_lines yX0_lines, Cond.code yX0_lines cX0_lines 1 (some .int), Cond.fieldLink RX0 25 "Quarterboard" "withBlocks" "Z", Cond.methodLink RX0 158 yX0_lacksOne, Cond.instanceMethod yX0_lacksOne, Cond.selects RX0 yX0_lacksOne yX0_lacksOne, Cond.code yX0_lacksOne cX0_lacksOne 3 (some .boolean), Cond.methodLink RX0 92 yX0_inCommon, Cond.instanceMethod yX0_inCommon, Cond.selects RX0 yX0_inCommon yX0_inCommon, Cond.code yX0_inCommon cX0_inCommon 6 (some .int), Cond.fieldLink RX0 38 "Quarterboard" "digits" "J", Cond.methodLink RX0 79 yX0_withOne, Cond.static yX0_withOne, Cond.code yX0_withOne cX0_withOne 3 (some .int), Cond.constant RX0 78 (65535)]
def wsL_winning : List Cond := .codeWith yL_winning cL_winning 4 (some .int) [(0, 9, 12, 13), (0, 9, 15, 15)] :: ((wsL_winning_r1 ++ wsL_winning_r2) ++ wsX00 ++ (vx_atS RX0 50 "java/lang/IndexOutOfBoundsException" ["java/lang/RuntimeException", "java/lang/Exception"]).filter goodWord ++ (vx_atS RX0 57 "java/lang/IllegalStateException" ["java/lang/RuntimeException", "java/lang/Exception"]).filter goodWord)
def wsL_safe_r1 : List Cond := [Cond.classLink RL 15 "java/lang/IllegalStateException", Cond.methodLink RL 32 yX0_safe, Cond.instanceMethod yX0_safe, Cond.selects RX0 yX0_safe yX0_safe, Cond.initialized RX0, Cond.code yX0_safe cX0_safe 1 (some .int), Cond.classLink RX0 53 "java/lang/IllegalStateException", Cond.initialized "java/lang/IllegalStateException", Cond.fieldLink RX0 29 "Quarterboard" "stage" "I", Cond.methodLink RX0 100 yX0_safePieces, Cond.instanceMethod yX0_safePieces, Cond.selects RX0 yX0_safePieces yX0_safePieces, Cond.code yX0_safePieces cX0_safePieces 4 (some .int), Cond.fieldLink RX0 35 "Quarterboard" "used" "I", Cond.methodLink RX0 161 yX0_winningDigits, Cond.instanceMethod yX0_winningDigits, Cond.selects RX0 yX0_winningDigits yX0_winningDigits, Cond.code yX0_winningDigits cX0_winningDigits 4 (some .int), Cond.fieldLink RX0 83 "Quarterboard" "LINES" "[I", Cond.methodLink RX0 87 yX0_lines, Cond.instanceMethod yX0_lines, Cond.selects RX0 yX0_lines yX0_lines, Cond.code yX0_lines cX0_lines 1 (some .int), Cond.fieldLink RX0 25 "Quarterboard" "withBlocks" "Z"]
def wsL_safe_r2 : List Cond := [Cond.methodLink RX0 158 yX0_lacksOne, Cond.instanceMethod yX0_lacksOne, Cond.selects RX0 yX0_lacksOne yX0_lacksOne, Cond.code yX0_lacksOne cX0_lacksOne 3 (some .boolean), Cond.fieldLink RX0 16 "Quarterboard" "filled" "I", Cond.methodLink RX0 92 yX0_inCommon, Cond.instanceMethod yX0_inCommon, Cond.selects RX0 yX0_inCommon yX0_inCommon, Cond.code yX0_inCommon cX0_inCommon 6 (some .int), Cond.fieldLink RX0 38 "Quarterboard" "digits" "J", Cond.methodLink RX0 79 yX0_withOne, Cond.static yX0_withOne, Cond.code yX0_withOne cX0_withOne 3 (some .int), Cond.constant RX0 78 (65535), Cond.methodLink RX0 58 yX0_has, Cond.static yX0_has, Cond.code yX0_has cX0_has 2 (some .boolean), Cond.methodLink RX0 155 yX0_ownDigits, Cond.static yX0_ownDigits, Cond.code yX0_ownDigits cX0_ownDigits 1 (some .int)]
def wsL_safe : List Cond := .codeWith yL_safe cL_safe 3 (some .int) [(0, 8, 11, 15)] :: ((wsL_safe_r1 ++ wsL_safe_r2) ++ wsX00 ++ (vx_atS RX0 57 "java/lang/IllegalStateException" ["java/lang/RuntimeException", "java/lang/Exception"]).filter goodWord)
def wsL_worth_r1 : List Cond := [Cond.classLink RL 39 "java/lang/IllegalArgumentException", Cond.classLink RL 15 "java/lang/IllegalStateException", Cond.methodLink RL 36 yX0_worth, Cond.instanceMethod yX0_worth, Cond.selects RX0 yX0_worth yX0_worth, Cond.initialized RX0, Cond.code yX0_worth cX0_worth 2 (some .int), Cond.classLink RX0 103 "java/lang/IllegalArgumentException", Cond.initialized "java/lang/IllegalArgumentException", Cond.classLink RX0 53 "java/lang/IllegalStateException", Cond.initialized "java/lang/IllegalStateException", Cond.fieldLink RX0 29 "Quarterboard" "stage" "I", Cond.fieldLink RX0 9 "Quarterboard" "held" "I", Cond.methodLink RX0 108 yX0_canLookAhead, Cond.instanceMethod yX0_canLookAhead, Cond.selects RX0 yX0_canLookAhead yX0_canLookAhead, Cond.code yX0_canLookAhead cX0_canLookAhead 3 (some .boolean), Cond.fieldLink RX0 16 "Quarterboard" "filled" "I", Cond.methodLink RX0 19 yJ6_bitCount_0f7a4, Cond.static yJ6_bitCount_0f7a4, Cond.initialized RJ6, Cond.code yJ6_bitCount_0f7a4 cJ6_bitCount_0f7a4 1 (some .int), Cond.constant RJ6 265 (1431655765), Cond.constant RJ6 266 (858993459)]
def wsL_worth_r2 : List Cond := [Cond.constant RJ6 267 (252645135), Cond.methodLink RX0 113 yX0_worthToGive, Cond.instanceMethod yX0_worthToGive, Cond.selects RX0 yX0_worthToGive yX0_worthToGive, Cond.code yX0_worthToGive cX0_worthToGive 2 (some .int), Cond.methodLink RX0 170 yX0_giverWins, Cond.instanceMethod yX0_giverWins, Cond.selects RX0 yX0_giverWins yX0_giverWins, Cond.code yX0_giverWins cX0_giverWins 4 (some .boolean), Cond.methodLink RX0 100 yX0_safePieces, Cond.instanceMethod yX0_safePieces, Cond.selects RX0 yX0_safePieces yX0_safePieces, Cond.code yX0_safePieces cX0_safePieces 4 (some .int), Cond.fieldLink RX0 35 "Quarterboard" "used" "I", Cond.methodLink RX0 161 yX0_winningDigits, Cond.instanceMethod yX0_winningDigits, Cond.selects RX0 yX0_winningDigits yX0_winningDigits, Cond.code yX0_winningDigits cX0_winningDigits 4 (some .int), Cond.fieldLink RX0 83 "Quarterboard" "LINES" "[I", Cond.methodLink RX0 87 yX0_lines, Cond.instanceMethod yX0_lines, Cond.selects RX0 yX0_lines yX0_lines, Cond.code yX0_lines cX0_lines 1 (some .int), Cond.fieldLink RX0 25 "Quarterboard" "withBlocks" "Z"]
def wsL_worth_r3 : List Cond := [Cond.methodLink RX0 158 yX0_lacksOne, Cond.instanceMethod yX0_lacksOne, Cond.selects RX0 yX0_lacksOne yX0_lacksOne, Cond.code yX0_lacksOne cX0_lacksOne 3 (some .boolean), Cond.methodLink RX0 92 yX0_inCommon, Cond.instanceMethod yX0_inCommon, Cond.selects RX0 yX0_inCommon yX0_inCommon, Cond.code yX0_inCommon cX0_inCommon 6 (some .int), Cond.fieldLink RX0 38 "Quarterboard" "digits" "J", Cond.methodLink RX0 79 yX0_withOne, Cond.static yX0_withOne, Cond.code yX0_withOne cX0_withOne 3 (some .int), Cond.constant RX0 78 (65535), Cond.methodLink RX0 58 yX0_has, Cond.static yX0_has, Cond.code yX0_has cX0_has 2 (some .boolean), Cond.methodLink RX0 155 yX0_ownDigits, Cond.static yX0_ownDigits, Cond.code yX0_ownDigits cX0_ownDigits 1 (some .int), Cond.methodLink RX0 179 yX0_placerLoses, Cond.instanceMethod yX0_placerLoses, Cond.selects RX0 yX0_placerLoses yX0_placerLoses, Cond.code yX0_giverLoses cX0_giverLoses 4 (some .boolean), Cond.methodLink RX0 176 yX0_placerWinsLater]
def wsL_worth_r4 : List Cond := [Cond.instanceMethod yX0_placerWinsLater, Cond.selects RX0 yX0_placerWinsLater yX0_placerWinsLater, Cond.code yX0_placerLoses cX0_placerLoses 5 (some .boolean), Cond.methodLink RX0 70 yX0_put, Cond.instanceMethod yX0_put, Cond.selects RX0 yX0_put yX0_put, Cond.code yX0_put cX0_put 3 none, Cond.methodLink RX0 147 yX0_atFirstSquare, Cond.static yX0_atFirstSquare, Cond.code yX0_atFirstSquare cX0_atFirstSquare 1 (some .long), Cond.constantLong RX0 141 (2), Cond.constantLong RX0 143 (4), Cond.constantLong RX0 145 (8), Cond.methodLink RX0 173 yX0_giverLoses, Cond.instanceMethod yX0_giverLoses, Cond.selects RX0 yX0_giverLoses yX0_giverLoses, Cond.methodLink RX0 167 yX0_lift, Cond.instanceMethod yX0_lift, Cond.selects RX0 yX0_lift yX0_lift, Cond.code yX0_lift cX0_lift 3 none, Cond.constantLong RX0 151 (281479271743489), Cond.constantLong RX0 153 (-1), Cond.code yX0_placerWinsLater cX0_placerWinsLater 5 (some .boolean), Cond.methodLink RX0 116 yX0_worthToPlace]
def wsL_worth_r5 : List Cond := [Cond.instanceMethod yX0_worthToPlace, Cond.selects RX0 yX0_worthToPlace yX0_worthToPlace, Cond.code yX0_worthToPlace cX0_worthToPlace 3 (some .int), Cond.methodLink RX0 97 yX0_winningSquares, Cond.instanceMethod yX0_winningSquares, Cond.selects RX0 yX0_winningSquares yX0_winningSquares, Cond.code yX0_winningSquares cX0_winningSquares 6 (some .int)]
def wsL_worth : List Cond := .codeWith yL_worth cL_worth 4 (some .int) [(0, 9, 12, 39), (0, 9, 15, 15)] :: ((wsL_worth_r1 ++ (wsL_worth_r2 ++ (wsL_worth_r3 ++ (wsL_worth_r4 ++ wsL_worth_r5)))) ++ wsX00 ++ (vx_atS RX0 107 "java/lang/IllegalArgumentException" ["java/lang/RuntimeException", "java/lang/Exception"]).filter goodWord ++ (vx_atS RX0 57 "java/lang/IllegalStateException" ["java/lang/RuntimeException", "java/lang/Exception"]).filter goodWord)
def wsL_best_r1 : List Cond := [Cond.classLink RL 39 "java/lang/IllegalArgumentException", Cond.classLink RL 15 "java/lang/IllegalStateException", Cond.methodLink RL 41 yX0_best, Cond.instanceMethod yX0_best, Cond.selects RX0 yX0_best yX0_best, Cond.initialized RX0, Cond.code yX0_best cX0_best 2 (some .int), Cond.classLink RX0 103 "java/lang/IllegalArgumentException", Cond.initialized "java/lang/IllegalArgumentException", Cond.classLink RX0 53 "java/lang/IllegalStateException", Cond.initialized "java/lang/IllegalStateException", Cond.fieldLink RX0 29 "Quarterboard" "stage" "I", Cond.methodLink RX0 108 yX0_canLookAhead, Cond.instanceMethod yX0_canLookAhead, Cond.selects RX0 yX0_canLookAhead yX0_canLookAhead, Cond.code yX0_canLookAhead cX0_canLookAhead 3 (some .boolean), Cond.fieldLink RX0 16 "Quarterboard" "filled" "I", Cond.methodLink RX0 19 yJ6_bitCount_0f7a4, Cond.static yJ6_bitCount_0f7a4, Cond.initialized RJ6, Cond.code yJ6_bitCount_0f7a4 cJ6_bitCount_0f7a4 1 (some .int), Cond.constant RJ6 265 (1431655765), Cond.constant RJ6 266 (858993459), Cond.constant RJ6 267 (252645135)]
def wsL_best_r2 : List Cond := [Cond.methodLink RX0 120 yX0_bestPiece, Cond.instanceMethod yX0_bestPiece, Cond.selects RX0 yX0_bestPiece yX0_bestPiece, Cond.code yX0_bestPiece cX0_bestPiece 4 (some .int), Cond.fieldLink RX0 35 "Quarterboard" "used" "I", Cond.methodLink RX0 113 yX0_worthToGive, Cond.instanceMethod yX0_worthToGive, Cond.selects RX0 yX0_worthToGive yX0_worthToGive, Cond.code yX0_worthToGive cX0_worthToGive 2 (some .int), Cond.methodLink RX0 170 yX0_giverWins, Cond.instanceMethod yX0_giverWins, Cond.selects RX0 yX0_giverWins yX0_giverWins, Cond.code yX0_giverWins cX0_giverWins 4 (some .boolean), Cond.methodLink RX0 100 yX0_safePieces, Cond.instanceMethod yX0_safePieces, Cond.selects RX0 yX0_safePieces yX0_safePieces, Cond.code yX0_safePieces cX0_safePieces 4 (some .int), Cond.methodLink RX0 161 yX0_winningDigits, Cond.instanceMethod yX0_winningDigits, Cond.selects RX0 yX0_winningDigits yX0_winningDigits, Cond.code yX0_winningDigits cX0_winningDigits 4 (some .int), Cond.fieldLink RX0 83 "Quarterboard" "LINES" "[I", Cond.methodLink RX0 87 yX0_lines, Cond.instanceMethod yX0_lines]
def wsL_best_r3 : List Cond := [Cond.selects RX0 yX0_lines yX0_lines, Cond.code yX0_lines cX0_lines 1 (some .int), Cond.fieldLink RX0 25 "Quarterboard" "withBlocks" "Z", Cond.methodLink RX0 158 yX0_lacksOne, Cond.instanceMethod yX0_lacksOne, Cond.selects RX0 yX0_lacksOne yX0_lacksOne, Cond.code yX0_lacksOne cX0_lacksOne 3 (some .boolean), Cond.methodLink RX0 92 yX0_inCommon, Cond.instanceMethod yX0_inCommon, Cond.selects RX0 yX0_inCommon yX0_inCommon, Cond.code yX0_inCommon cX0_inCommon 6 (some .int), Cond.fieldLink RX0 38 "Quarterboard" "digits" "J", Cond.methodLink RX0 79 yX0_withOne, Cond.static yX0_withOne, Cond.code yX0_withOne cX0_withOne 3 (some .int), Cond.constant RX0 78 (65535), Cond.methodLink RX0 58 yX0_has, Cond.static yX0_has, Cond.code yX0_has cX0_has 2 (some .boolean), Cond.methodLink RX0 155 yX0_ownDigits, Cond.static yX0_ownDigits, Cond.code yX0_ownDigits cX0_ownDigits 1 (some .int), Cond.methodLink RX0 179 yX0_placerLoses, Cond.instanceMethod yX0_placerLoses]
def wsL_best_r4 : List Cond := [Cond.selects RX0 yX0_placerLoses yX0_placerLoses, Cond.code yX0_giverLoses cX0_giverLoses 4 (some .boolean), Cond.methodLink RX0 176 yX0_placerWinsLater, Cond.instanceMethod yX0_placerWinsLater, Cond.selects RX0 yX0_placerWinsLater yX0_placerWinsLater, Cond.code yX0_placerLoses cX0_placerLoses 5 (some .boolean), Cond.methodLink RX0 70 yX0_put, Cond.instanceMethod yX0_put, Cond.selects RX0 yX0_put yX0_put, Cond.code yX0_put cX0_put 3 none, Cond.methodLink RX0 147 yX0_atFirstSquare, Cond.static yX0_atFirstSquare, Cond.code yX0_atFirstSquare cX0_atFirstSquare 1 (some .long), Cond.constantLong RX0 141 (2), Cond.constantLong RX0 143 (4), Cond.constantLong RX0 145 (8), Cond.methodLink RX0 173 yX0_giverLoses, Cond.instanceMethod yX0_giverLoses, Cond.selects RX0 yX0_giverLoses yX0_giverLoses, Cond.methodLink RX0 167 yX0_lift, Cond.instanceMethod yX0_lift, Cond.selects RX0 yX0_lift yX0_lift, Cond.code yX0_lift cX0_lift 3 none, Cond.constantLong RX0 151 (281479271743489)]
def wsL_best_r5 : List Cond := [Cond.constantLong RX0 153 (-1), Cond.code yX0_placerWinsLater cX0_placerWinsLater 5 (some .boolean), Cond.methodLink RX0 116 yX0_worthToPlace, Cond.instanceMethod yX0_worthToPlace, Cond.selects RX0 yX0_worthToPlace yX0_worthToPlace, Cond.code yX0_worthToPlace cX0_worthToPlace 3 (some .int), Cond.methodLink RX0 97 yX0_winningSquares, Cond.instanceMethod yX0_winningSquares, Cond.selects RX0 yX0_winningSquares yX0_winningSquares, Cond.code yX0_winningSquares cX0_winningSquares 6 (some .int), Cond.methodLink RX0 123 yX0_bestSquare, Cond.instanceMethod yX0_bestSquare, Cond.selects RX0 yX0_bestSquare yX0_bestSquare, Cond.code yX0_bestSquare cX0_bestSquare 4 (some .int), Cond.fieldLink RX0 9 "Quarterboard" "held" "I", Cond.methodLink RX0 164 yX0_worthAfterPlacing, Cond.instanceMethod yX0_worthAfterPlacing, Cond.selects RX0 yX0_worthAfterPlacing yX0_worthAfterPlacing, Cond.code yX0_worthAfterPlacing cX0_worthAfterPlacing 4 (some .int)]
def wsL_best : List Cond := .codeWith yL_best cL_best 4 (some .int) [(0, 9, 12, 39), (0, 9, 15, 15)] :: ((wsL_best_r1 ++ (wsL_best_r2 ++ (wsL_best_r3 ++ (wsL_best_r4 ++ wsL_best_r5)))) ++ wsX00 ++ (vx_atS RX0 107 "java/lang/IllegalArgumentException" ["java/lang/RuntimeException", "java/lang/Exception"]).filter goodWord ++ (vx_atS RX0 57 "java/lang/IllegalStateException" ["java/lang/RuntimeException", "java/lang/Exception"]).filter goodWord)
def wsL_isAlike_r1 : List Cond := [Cond.classLink RL 15 "java/lang/IllegalStateException", Cond.methodLink RL 44 yX0_isAlike, Cond.instanceMethod yX0_isAlike, Cond.selects RX0 yX0_isAlike yX0_isAlike, Cond.initialized RX0, Cond.code yX0_isAlike cX0_isAlike 2 (some .boolean), Cond.classLink RX0 53 "java/lang/IllegalStateException", Cond.initialized "java/lang/IllegalStateException", Cond.fieldLink RX0 126 "Quarterboard" "hasKept" "Z", Cond.fieldLink RX0 129 "Quarterboard" "keptFilled" "I", Cond.fieldLink RX0 132 "Quarterboard" "keptDigits" "J", Cond.methodLink RX0 137 yX0_waysOfMarks, Cond.instanceMethod yX0_waysOfMarks, Cond.selects RX0 yX0_waysOfMarks yX0_waysOfMarks, Cond.code yX0_waysOfMarks cX0_waysOfMarks 12 (some .int), Cond.fieldLink RX0 16 "Quarterboard" "filled" "I", Cond.fieldLink RX0 38 "Quarterboard" "digits" "J", Cond.methodLink RX0 185 yX0_turned, Cond.static yX0_turned, Cond.code yX0_turned cX0_turned 6 (some .long), Cond.constantLong RX0 151 (281479271743489), Cond.methodLink RX0 182 yX0_turnedSquare, Cond.static yX0_turnedSquare, Cond.code yX0_turnedSquare cX0_turnedSquare 5 (some .int)]
def wsL_isAlike_r2 : List Cond := [Cond.methodLink RX0 189 yX0_levelled, Cond.static yX0_levelled, Cond.code yX0_levelled cX0_levelled 7 (some .long), Cond.methodLink RX0 79 yX0_withOne, Cond.static yX0_withOne, Cond.code yX0_withOne cX0_withOne 3 (some .int), Cond.constant RX0 78 (65535), Cond.methodLink RX0 192 yX0_equalMarks, Cond.static yX0_equalMarks, Cond.code yX0_equalMarks cX0_equalMarks 6 (some .int)]
def wsL_isAlike : List Cond := .codeWith yL_isAlike cL_isAlike 3 (some .int) [(0, 15, 18, 15)] :: ((wsL_isAlike_r1 ++ wsL_isAlike_r2) ++ wsX00 ++ (vx_atS RX0 57 "java/lang/IllegalStateException" ["java/lang/RuntimeException", "java/lang/Exception"]).filter goodWord)
def wsL_law0_r1 : List Cond := [Cond.classLink RL 8 RX0, Cond.instantiable RX0 11, Cond.initialized RX0, Cond.classLink RL 49 RX1, Cond.instantiable RX1 17, Cond.initialized RX1, Cond.arrayClass .long, Cond.methodLink RL 48 yX0_init, Cond.instanceMethod yX0_init, Cond.code yX0_init cX0_init 1 none, Cond.methodLink RX0 1 objectInit, Cond.instanceMethod objectInit, Cond.code objectInit ⟨#[0xb1]⟩ 1 none, Cond.fieldLink RX0 9 "Quarterboard" "held" "I", Cond.fieldLink RX0 13 "Quarterboard" "victor" "I", Cond.methodLink RL 51 yX1_init, Cond.instanceMethod yX1_init, Cond.code yX1_init cX1_init 2 none, Cond.methodLink RX1 1 objectInit, Cond.arrayClass .int, Cond.fieldLink RX1 7 "QuarterboardModel" "piece" "[I", Cond.arrayClass .boolean, Cond.fieldLink RX1 13 "QuarterboardModel" "isOn" "[Z", Cond.fieldLink RX1 17 "QuarterboardModel" "hand" "I"]
def wsL_law0_r2 : List Cond := [Cond.fieldLink RX1 21 "QuarterboardModel" "phase" "I", Cond.fieldLink RX1 24 "QuarterboardModel" "winner" "I", Cond.fieldLink RX1 27 "QuarterboardModel" "kept" "[I", Cond.fieldLink RX1 30 "QuarterboardModel" "kind" "[I", Cond.fieldLink RX1 33 "QuarterboardModel" "left" "[I", Cond.fieldLink RX1 36 "QuarterboardModel" "choice" "[I", Cond.fieldLink RX1 39 "QuarterboardModel" "best" "[I", Cond.fieldLink RX1 42 "QuarterboardModel" "given" "[I", Cond.fieldLink RX1 45 "QuarterboardModel" "marks" "[I", Cond.methodLink RL 52 yX0_begin, Cond.instanceMethod yX0_begin, Cond.selects RX0 yX0_begin yX0_begin, Cond.code yX0_begin cX0_begin 3 (some .int), Cond.fieldLink RX0 16 "Quarterboard" "filled" "I", Cond.fieldLink RX0 25 "Quarterboard" "withBlocks" "Z", Cond.fieldLink RX0 29 "Quarterboard" "stage" "I", Cond.fieldLink RX0 32 "Quarterboard" "player" "I", Cond.fieldLink RX0 35 "Quarterboard" "used" "I", Cond.fieldLink RX0 38 "Quarterboard" "digits" "J", Cond.methodLink RX0 19 yJ6_bitCount_0f7a4, Cond.static yJ6_bitCount_0f7a4, Cond.initialized RJ6, Cond.code yJ6_bitCount_0f7a4 cJ6_bitCount_0f7a4 1 (some .int), Cond.constant RJ6 265 (1431655765)]
def wsL_law0_r3 : List Cond := [Cond.constant RJ6 266 (858993459), Cond.constant RJ6 267 (252645135), Cond.methodLink RL 56 yX1_begin, Cond.instanceMethod yX1_begin, Cond.selects RX1 yX1_begin yX1_begin, Cond.code yX1_begin cX1_begin 4 (some .int), Cond.fieldLink RX1 48 "QuarterboardModel" "thrown" "I", Cond.fieldLink RX1 70 "QuarterboardModel" "placed" "I", Cond.fieldLink RX1 51 "QuarterboardModel" "hasBlocks" "Z", Cond.fieldLink RX1 73 "QuarterboardModel" "onTurn" "I", Cond.methodLink RL 57 yL_give, Cond.static yL_give, Cond.initialized RL, Cond.codeWith yL_give cL_give 4 (some .int) [(0, 9, 12, 13), (0, 9, 15, 15)], Cond.classLink RL 13 "java/lang/IndexOutOfBoundsException", Cond.classLink RL 15 "java/lang/IllegalStateException", Cond.methodLink RL 7 yX0_give, Cond.instanceMethod yX0_give, Cond.selects RX0 yX0_give yX0_give, Cond.code yX0_give cX0_give 2 (some .int), Cond.classLink RX0 46 "java/lang/IndexOutOfBoundsException", Cond.initialized "java/lang/IndexOutOfBoundsException", Cond.classLink RX0 53 "java/lang/IllegalStateException", Cond.initialized "java/lang/IllegalStateException"]
def wsL_law0_r4 : List Cond := [Cond.methodLink RX0 42 yX0_isNumber, Cond.static yX0_isNumber, Cond.code yX0_isNumber cX0_isNumber 1 (some .boolean), Cond.methodLink RX0 58 yX0_has, Cond.static yX0_has, Cond.code yX0_has cX0_has 2 (some .boolean), Cond.methodLink RL 62 yX1_give, Cond.instanceMethod yX1_give, Cond.selects RX1 yX1_give yX1_give, Cond.code yX1_give cX1_give 2 (some .int), Cond.methodLink RX1 76 yX1_isIn, Cond.static yX1_isIn, Cond.code yX1_isIn cX1_isIn 2 (some .boolean), Cond.methodLink RX1 80 yX1_fails, Cond.instanceMethod yX1_fails, Cond.selects RX1 yX1_fails yX1_fails, Cond.code yX1_fails cX1_fails 2 (some .boolean), Cond.methodLink RL 63 yX1_thrown, Cond.instanceMethod yX1_thrown, Cond.selects RX1 yX1_thrown yX1_thrown, Cond.code yX1_thrown cX1_thrown 1 (some .int), Cond.methodLink RL 66 yL_place, Cond.static yL_place, Cond.codeWith yL_place cL_place 4 (some .int) [(0, 9, 12, 13), (0, 9, 15, 15)]]
def wsL_law0_r5 : List Cond := [Cond.methodLink RL 17 yX0_place, Cond.instanceMethod yX0_place, Cond.selects RX0 yX0_place yX0_place, Cond.code yX0_place cX0_place 3 (some .int), Cond.constant RX0 78 (65535), Cond.methodLink RX0 70 yX0_put, Cond.instanceMethod yX0_put, Cond.selects RX0 yX0_put yX0_put, Cond.code yX0_put cX0_put 3 none, Cond.methodLink RX0 147 yX0_atFirstSquare, Cond.static yX0_atFirstSquare, Cond.code yX0_atFirstSquare cX0_atFirstSquare 1 (some .long), Cond.constantLong RX0 141 (2), Cond.constantLong RX0 143 (4), Cond.constantLong RX0 145 (8), Cond.methodLink RX0 74 yX0_wonLines, Cond.instanceMethod yX0_wonLines, Cond.selects RX0 yX0_wonLines yX0_wonLines, Cond.code yX0_wonLines cX0_wonLines 4 (some .int), Cond.fieldLink RX0 83 "Quarterboard" "LINES" "[I", Cond.methodLink RX0 87 yX0_lines, Cond.instanceMethod yX0_lines, Cond.selects RX0 yX0_lines yX0_lines, Cond.code yX0_lines cX0_lines 1 (some .int)]
def wsL_law0_r6 : List Cond := [Cond.methodLink RX0 92 yX0_inCommon, Cond.instanceMethod yX0_inCommon, Cond.selects RX0 yX0_inCommon yX0_inCommon, Cond.code yX0_inCommon cX0_inCommon 6 (some .int), Cond.methodLink RX0 79 yX0_withOne, Cond.static yX0_withOne, Cond.code yX0_withOne cX0_withOne 3 (some .int), Cond.methodLink RL 68 yX1_place, Cond.instanceMethod yX1_place, Cond.selects RX1 yX1_place yX1_place, Cond.code yX1_place cX1_place 3 (some .int), Cond.methodLink RX1 84 yX1_puts, Cond.instanceMethod yX1_puts, Cond.selects RX1 yX1_puts yX1_puts, Cond.code yX1_puts cX1_puts 3 none, Cond.methodLink RX1 88 yX1_won, Cond.instanceMethod yX1_won, Cond.selects RX1 yX1_won yX1_won, Cond.code yX1_won cX1_won 6 (some .int), Cond.methodLink RX1 59 yX1_many, Cond.instanceMethod yX1_many, Cond.selects RX1 yX1_many yX1_many, Cond.code yX1_many cX1_many 1 (some .int), Cond.methodLink RX1 55 yX1_square]
def wsL_law0_r7 : List Cond := [Cond.static yX1_square, Cond.code yX1_square cX1_square 3 (some .int), Cond.methodLink RX1 63 yX1_full, Cond.instanceMethod yX1_full, Cond.selects RX1 yX1_full yX1_full, Cond.code yX1_full cX1_full 4 (some .int), Cond.methodLink RX1 67 yX1_common, Cond.instanceMethod yX1_common, Cond.selects RX1 yX1_common yX1_common, Cond.code yX1_common cX1_common 5 (some .int), Cond.methodLink RL 69 yX0_phase, Cond.instanceMethod yX0_phase, Cond.selects RX0 yX0_phase yX0_phase, Cond.code yX0_phase cX0_phase 1 (some .int), Cond.methodLink RL 72 yX1_phase, Cond.instanceMethod yX1_phase, Cond.selects RX1 yX1_phase yX1_phase, Cond.code yX1_phase cX1_phase 1 (some .int), Cond.methodLink RX1 91 yX1_tells, Cond.instanceMethod yX1_tells, Cond.selects RX1 yX1_tells yX1_tells, Cond.code yX1_tells cX1_tells 2 (some .int), Cond.methodLink RL 73 yX0_onTurn, Cond.instanceMethod yX0_onTurn]
def wsL_law0_r8 : List Cond := [Cond.selects RX0 yX0_onTurn yX0_onTurn, Cond.code yX0_onTurn cX0_onTurn 1 (some .int), Cond.methodLink RL 76 yX1_onTurn, Cond.instanceMethod yX1_onTurn, Cond.selects RX1 yX1_onTurn yX1_onTurn, Cond.code yX1_onTurn cX1_onTurn 1 (some .int), Cond.methodLink RL 77 yX0_hand, Cond.instanceMethod yX0_hand, Cond.selects RX0 yX0_hand yX0_hand, Cond.code yX0_hand cX0_hand 1 (some .int), Cond.methodLink RL 80 yX1_hand, Cond.instanceMethod yX1_hand, Cond.selects RX1 yX1_hand yX1_hand, Cond.code yX1_hand cX1_hand 1 (some .int), Cond.methodLink RL 81 yL_pieceAt, Cond.static yL_pieceAt, Cond.codeWith yL_pieceAt cL_pieceAt 4 (some .int) [(0, 9, 12, 13)], Cond.methodLink RL 20 yX0_pieceAt, Cond.instanceMethod yX0_pieceAt, Cond.selects RX0 yX0_pieceAt yX0_pieceAt, Cond.code yX0_pieceAt cX0_pieceAt 4 (some .int), Cond.methodLink RL 83 yX1_pieceAt, Cond.instanceMethod yX1_pieceAt, Cond.selects RX1 yX1_pieceAt yX1_pieceAt]
def wsL_law0_r9 : List Cond := [Cond.code yX1_pieceAt cX1_pieceAt 2 (some .int), Cond.methodLink RL 84 yX0_placed, Cond.instanceMethod yX0_placed, Cond.selects RX0 yX0_placed yX0_placed, Cond.code yX0_placed cX0_placed 1 (some .int), Cond.methodLink RL 87 yX1_placed, Cond.instanceMethod yX1_placed, Cond.selects RX1 yX1_placed yX1_placed, Cond.code yX1_placed cX1_placed 1 (some .int), Cond.methodLink RL 88 yX0_winner, Cond.instanceMethod yX0_winner, Cond.selects RX0 yX0_winner yX0_winner, Cond.code yX0_winner cX0_winner 1 (some .int), Cond.methodLink RL 91 yX1_winner, Cond.instanceMethod yX1_winner, Cond.selects RX1 yX1_winner yX1_winner, Cond.code yX1_winner cX1_winner 1 (some .int), Cond.methodLink RL 92 yX0_lines, Cond.methodLink RL 95 yX1_lines, Cond.instanceMethod yX1_lines, Cond.selects RX1 yX1_lines yX1_lines, Cond.code yX1_lines cX1_lines 1 (some .int), Cond.methodLink RL 96 yL_onLine, Cond.static yL_onLine]
def wsL_law0_r10 : List Cond := [Cond.codeWith yL_onLine cL_onLine 4 (some .int) [(0, 9, 12, 13)], Cond.methodLink RL 23 yX0_onLine, Cond.instanceMethod yX0_onLine, Cond.selects RX0 yX0_onLine yX0_onLine, Cond.code yX0_onLine cX0_onLine 2 (some .int), Cond.methodLink RL 98 yX1_onLine, Cond.instanceMethod yX1_onLine, Cond.selects RX1 yX1_onLine yX1_onLine, Cond.code yX1_onLine cX1_onLine 2 (some .int), Cond.methodLink RL 99 yL_shared, Cond.static yL_shared, Cond.codeWith yL_shared cL_shared 4 (some .int) [(0, 9, 12, 13)], Cond.methodLink RL 26 yX0_shared, Cond.instanceMethod yX0_shared, Cond.selects RX0 yX0_shared yX0_shared, Cond.code yX0_shared cX0_shared 2 (some .int), Cond.methodLink RL 101 yX1_shared, Cond.instanceMethod yX1_shared, Cond.selects RX1 yX1_shared yX1_shared, Cond.code yX1_shared cX1_shared 2 (some .int), Cond.methodLink RL 102 yL_winning, Cond.static yL_winning, Cond.codeWith yL_winning cL_winning 4 (some .int) [(0, 9, 12, 13), (0, 9, 15, 15)], Cond.methodLink RL 29 yX0_winning]
def wsL_law0_r11 : List Cond := [Cond.instanceMethod yX0_winning, Cond.selects RX0 yX0_winning yX0_winning, Cond.code yX0_winning cX0_winning 2 (some .int), Cond.methodLink RX0 97 yX0_winningSquares, Cond.instanceMethod yX0_winningSquares, Cond.selects RX0 yX0_winningSquares yX0_winningSquares, Cond.code yX0_winningSquares cX0_winningSquares 6 (some .int), Cond.methodLink RX0 155 yX0_ownDigits, Cond.static yX0_ownDigits, Cond.code yX0_ownDigits cX0_ownDigits 1 (some .int), Cond.methodLink RX0 158 yX0_lacksOne, Cond.instanceMethod yX0_lacksOne, Cond.selects RX0 yX0_lacksOne yX0_lacksOne, Cond.code yX0_lacksOne cX0_lacksOne 3 (some .boolean), Cond.methodLink RL 104 yX1_winning, Cond.instanceMethod yX1_winning, Cond.selects RX1 yX1_winning yX1_winning, Cond.code yX1_winning cX1_winning 2 (some .int), Cond.methodLink RX1 101 yX1_winners, Cond.instanceMethod yX1_winners, Cond.selects RX1 yX1_winners yX1_winners, Cond.code yX1_winners cX1_winners 4 (some .int), Cond.methodLink RX1 98 yX1_wins, Cond.instanceMethod yX1_wins]
def wsL_law0_r12 : List Cond := [Cond.selects RX1 yX1_wins yX1_wins, Cond.code yX1_wins cX1_wins 4 (some .boolean), Cond.methodLink RX1 94 yX1_takes, Cond.instanceMethod yX1_takes, Cond.selects RX1 yX1_takes yX1_takes, Cond.code yX1_takes cX1_takes 2 none, Cond.methodLink RL 105 yL_safe, Cond.static yL_safe, Cond.codeWith yL_safe cL_safe 3 (some .int) [(0, 8, 11, 15)], Cond.methodLink RL 32 yX0_safe, Cond.instanceMethod yX0_safe, Cond.selects RX0 yX0_safe yX0_safe, Cond.code yX0_safe cX0_safe 1 (some .int), Cond.methodLink RX0 100 yX0_safePieces, Cond.instanceMethod yX0_safePieces, Cond.selects RX0 yX0_safePieces yX0_safePieces, Cond.code yX0_safePieces cX0_safePieces 4 (some .int), Cond.methodLink RX0 161 yX0_winningDigits, Cond.instanceMethod yX0_winningDigits, Cond.selects RX0 yX0_winningDigits yX0_winningDigits, Cond.code yX0_winningDigits cX0_winningDigits 4 (some .int), Cond.methodLink RL 108 yX1_safe, Cond.instanceMethod yX1_safe, Cond.selects RX1 yX1_safe yX1_safe]
def wsL_law0_r13 : List Cond := [Cond.code yX1_safe cX1_safe 3 (some .int), Cond.methodLink RL 109 yL_worth, Cond.static yL_worth, Cond.codeWith yL_worth cL_worth 4 (some .int) [(0, 9, 12, 39), (0, 9, 15, 15)], Cond.classLink RL 39 "java/lang/IllegalArgumentException", Cond.methodLink RL 36 yX0_worth, Cond.instanceMethod yX0_worth, Cond.selects RX0 yX0_worth yX0_worth, Cond.code yX0_worth cX0_worth 2 (some .int), Cond.classLink RX0 103 "java/lang/IllegalArgumentException", Cond.initialized "java/lang/IllegalArgumentException", Cond.methodLink RX0 108 yX0_canLookAhead, Cond.instanceMethod yX0_canLookAhead, Cond.selects RX0 yX0_canLookAhead yX0_canLookAhead, Cond.code yX0_canLookAhead cX0_canLookAhead 3 (some .boolean), Cond.methodLink RX0 113 yX0_worthToGive, Cond.instanceMethod yX0_worthToGive, Cond.selects RX0 yX0_worthToGive yX0_worthToGive, Cond.code yX0_worthToGive cX0_worthToGive 2 (some .int), Cond.methodLink RX0 170 yX0_giverWins, Cond.instanceMethod yX0_giverWins, Cond.selects RX0 yX0_giverWins yX0_giverWins, Cond.code yX0_giverWins cX0_giverWins 4 (some .boolean), Cond.methodLink RX0 179 yX0_placerLoses]
def wsL_law0_r14 : List Cond := [Cond.instanceMethod yX0_placerLoses, Cond.selects RX0 yX0_placerLoses yX0_placerLoses, Cond.code yX0_giverLoses cX0_giverLoses 4 (some .boolean), Cond.methodLink RX0 176 yX0_placerWinsLater, Cond.instanceMethod yX0_placerWinsLater, Cond.selects RX0 yX0_placerWinsLater yX0_placerWinsLater, Cond.code yX0_placerLoses cX0_placerLoses 5 (some .boolean), Cond.methodLink RX0 173 yX0_giverLoses, Cond.instanceMethod yX0_giverLoses, Cond.selects RX0 yX0_giverLoses yX0_giverLoses, Cond.methodLink RX0 167 yX0_lift, Cond.instanceMethod yX0_lift, Cond.selects RX0 yX0_lift yX0_lift, Cond.code yX0_lift cX0_lift 3 none, Cond.constantLong RX0 151 (281479271743489), Cond.constantLong RX0 153 (-1), Cond.code yX0_placerWinsLater cX0_placerWinsLater 5 (some .boolean), Cond.methodLink RX0 116 yX0_worthToPlace, Cond.instanceMethod yX0_worthToPlace, Cond.selects RX0 yX0_worthToPlace yX0_worthToPlace, Cond.code yX0_worthToPlace cX0_worthToPlace 3 (some .int), Cond.methodLink RL 111 yX1_worth, Cond.instanceMethod yX1_worth, Cond.selects RX1 yX1_worth yX1_worth]
def wsL_law0_r15 : List Cond := [Cond.code yX1_worth cX1_worth 2 (some .int), Cond.methodLink RX1 111 yX1_cannot, Cond.instanceMethod yX1_cannot, Cond.selects RX1 yX1_cannot yX1_cannot, Cond.code yX1_cannot cX1_cannot 4 (some .boolean), Cond.methodLink RX1 114 yX1_looks, Cond.instanceMethod yX1_looks, Cond.selects RX1 yX1_looks yX1_looks, Cond.code yX1_looks cX1_looks 8 (some .int), Cond.methodLink RX1 104 yX1_enters, Cond.instanceMethod yX1_enters, Cond.selects RX1 yX1_enters yX1_enters, Cond.code yX1_enters cX1_enters 5 none, Cond.methodLink RX1 108 yX1_tries, Cond.instanceMethod yX1_tries, Cond.selects RX1 yX1_tries yX1_tries, Cond.code yX1_tries cX1_tries 4 (some .int), Cond.methodLink RL 112 yL_best, Cond.static yL_best, Cond.codeWith yL_best cL_best 4 (some .int) [(0, 9, 12, 39), (0, 9, 15, 15)], Cond.methodLink RL 41 yX0_best, Cond.instanceMethod yX0_best, Cond.selects RX0 yX0_best yX0_best, Cond.code yX0_best cX0_best 2 (some .int)]
def wsL_law0_r16 : List Cond := [Cond.methodLink RX0 120 yX0_bestPiece, Cond.instanceMethod yX0_bestPiece, Cond.selects RX0 yX0_bestPiece yX0_bestPiece, Cond.code yX0_bestPiece cX0_bestPiece 4 (some .int), Cond.methodLink RX0 123 yX0_bestSquare, Cond.instanceMethod yX0_bestSquare, Cond.selects RX0 yX0_bestSquare yX0_bestSquare, Cond.code yX0_bestSquare cX0_bestSquare 4 (some .int), Cond.methodLink RX0 164 yX0_worthAfterPlacing, Cond.instanceMethod yX0_worthAfterPlacing, Cond.selects RX0 yX0_worthAfterPlacing yX0_worthAfterPlacing, Cond.code yX0_worthAfterPlacing cX0_worthAfterPlacing 4 (some .int), Cond.methodLink RL 114 yX1_best, Cond.instanceMethod yX1_best, Cond.selects RX1 yX1_best yX1_best, Cond.code yX1_best cX1_best 4 (some .int), Cond.methodLink RX1 118 yX1_behind, Cond.instanceMethod yX1_behind, Cond.selects RX1 yX1_behind yX1_behind, Cond.code yX1_behind cX1_behind 4 (some .int), Cond.methodLink RL 115 yX0_keep, Cond.instanceMethod yX0_keep, Cond.selects RX0 yX0_keep yX0_keep, Cond.code yX0_keep cX0_keep 1 (some .int)]
def wsL_law0_r17 : List Cond := [Cond.fieldLink RX0 126 "Quarterboard" "hasKept" "Z", Cond.fieldLink RX0 129 "Quarterboard" "keptFilled" "I", Cond.fieldLink RX0 132 "Quarterboard" "keptDigits" "J", Cond.methodLink RL 118 yX1_keep, Cond.instanceMethod yX1_keep, Cond.selects RX1 yX1_keep yX1_keep, Cond.code yX1_keep cX1_keep 2 (some .int), Cond.fieldLink RX1 121 "QuarterboardModel" "isKept" "Z", Cond.methodLink RL 119 yL_isAlike, Cond.static yL_isAlike, Cond.codeWith yL_isAlike cL_isAlike 3 (some .int) [(0, 15, 18, 15)], Cond.methodLink RL 44 yX0_isAlike, Cond.instanceMethod yX0_isAlike, Cond.selects RX0 yX0_isAlike yX0_isAlike, Cond.code yX0_isAlike cX0_isAlike 2 (some .boolean), Cond.methodLink RX0 137 yX0_waysOfMarks, Cond.instanceMethod yX0_waysOfMarks, Cond.selects RX0 yX0_waysOfMarks yX0_waysOfMarks, Cond.code yX0_waysOfMarks cX0_waysOfMarks 12 (some .int), Cond.methodLink RX0 185 yX0_turned, Cond.static yX0_turned, Cond.code yX0_turned cX0_turned 6 (some .long), Cond.methodLink RX0 182 yX0_turnedSquare, Cond.static yX0_turnedSquare]
def wsL_law0_r18 : List Cond := [Cond.code yX0_turnedSquare cX0_turnedSquare 5 (some .int), Cond.methodLink RX0 189 yX0_levelled, Cond.static yX0_levelled, Cond.code yX0_levelled cX0_levelled 7 (some .long), Cond.methodLink RX0 192 yX0_equalMarks, Cond.static yX0_equalMarks, Cond.code yX0_equalMarks cX0_equalMarks 6 (some .int), Cond.methodLink RL 121 yX1_isAlike, Cond.instanceMethod yX1_isAlike, Cond.selects RX1 yX1_isAlike yX1_isAlike, Cond.code yX1_isAlike cX1_isAlike 1 (some .boolean), Cond.methodLink RX1 133 yX1_ways, Cond.instanceMethod yX1_ways, Cond.selects RX1 yX1_ways yX1_ways, Cond.code yX1_ways cX1_ways 8 (some .int), Cond.methodLink RX1 124 yX1_renames, Cond.instanceMethod yX1_renames, Cond.selects RX1 yX1_renames yX1_renames, Cond.code yX1_renames cX1_renames 4 (some .boolean), Cond.methodLink RX1 127 yX1_turned, Cond.static yX1_turned, Cond.code yX1_turned cX1_turned 6 (some .int), Cond.methodLink RX1 130 yX1_renamed, Cond.instanceMethod yX1_renamed]
def wsL_law0_r19 : List Cond := [Cond.selects RX1 yX1_renamed yX1_renamed, Cond.code yX1_renamed cX1_renamed 5 (some .int), Cond.methodLink RL 122 yX0_symmetries, Cond.instanceMethod yX0_symmetries, Cond.selects RX0 yX0_symmetries yX0_symmetries, Cond.code yX0_symmetries cX0_symmetries 3 (some .int), Cond.methodLink RL 125 yX1_symmetries, Cond.instanceMethod yX1_symmetries, Cond.selects RX1 yX1_symmetries yX1_symmetries, Cond.code yX1_symmetries cX1_symmetries 1 (some .int)]
def wsL_law0 : List Cond := (wsL_law0_r1 ++ (wsL_law0_r2 ++ (wsL_law0_r3 ++ (wsL_law0_r4 ++ (wsL_law0_r5 ++ (wsL_law0_r6 ++ (wsL_law0_r7 ++ (wsL_law0_r8 ++ (wsL_law0_r9 ++ (wsL_law0_r10 ++ (wsL_law0_r11 ++ (wsL_law0_r12 ++ (wsL_law0_r13 ++ (wsL_law0_r14 ++ (wsL_law0_r15 ++ (wsL_law0_r16 ++ (wsL_law0_r17 ++ (wsL_law0_r18 ++ wsL_law0_r19)))))))))))))))))) ++ wsX00 ++ wsX10 ++ ([] : List Cond)
def wsL_law : List Cond := wsL_law0 ++ (vx_atS RX0 50 "java/lang/IndexOutOfBoundsException" ["java/lang/RuntimeException", "java/lang/Exception"]).filter goodWord ++ (vx_atS RX0 57 "java/lang/IllegalStateException" ["java/lang/RuntimeException", "java/lang/Exception"]).filter goodWord ++ (vx_atS RX0 107 "java/lang/IllegalArgumentException" ["java/lang/RuntimeException", "java/lang/Exception"]).filter goodWord
set_option maxRecDepth 20000 in
theorem wsL_law0_r1_in : ∀ w ∈ wsL_law0_r1, w ∈ lw_tbl := fun w h => (goodIn_p wsL_law0_r1 [52, 55, 429] (by decide +kernel) (by decide +kernel) w h).1
set_option maxRecDepth 20000 in
theorem wsL_law0_r2_in : ∀ w ∈ wsL_law0_r2, w ∈ lw_tbl := fun w h => (goodIn_p wsL_law0_r2 [93, 96] (by decide +kernel) (by decide +kernel) w h).1
set_option maxRecDepth 20000 in
theorem wsL_law0_r3_in : ∀ w ∈ wsL_law0_r3, w ∈ lw_tbl := fun w h => (goodIn_p wsL_law0_r3 [492, 163] (by decide +kernel) (by decide +kernel) w h).1
set_option maxRecDepth 20000 in
theorem wsL_law0_r4_in : ∀ w ∈ wsL_law0_r4, w ∈ lw_tbl := fun w h => (goodIn_p wsL_law0_r4 [166, 253, 496, 499, 503, 488] (by decide +kernel) (by decide +kernel) w h).1
set_option maxRecDepth 20000 in
theorem wsL_law0_r5_in : ∀ w ∈ wsL_law0_r5, w ∈ lw_tbl := fun w h => (goodIn_p wsL_law0_r5 [261, 268, 271, 278, 123] (by decide +kernel) (by decide +kernel) w h).1
set_option maxRecDepth 20000 in
theorem wsL_law0_r6_in : ∀ w ∈ wsL_law0_r6, w ∈ lw_tbl := fun w h => (goodIn_p wsL_law0_r6 [283, 150, 507, 511, 515, 519] (by decide +kernel) (by decide +kernel) w h).1
set_option maxRecDepth 20000 in
theorem wsL_law0_r7_in : ∀ w ∈ wsL_law0_r7, w ∈ lw_tbl := fun w h => (goodIn_p wsL_law0_r7 [522, 526, 530, 103, 534, 538] (by decide +kernel) (by decide +kernel) w h).1
set_option maxRecDepth 20000 in
theorem wsL_law0_r8_in : ∀ w ∈ wsL_law0_r8, w ∈ lw_tbl := fun w h => (goodIn_p wsL_law0_r8 [107, 542, 111, 546, 290] (by decide +kernel) (by decide +kernel) w h).1
set_option maxRecDepth 20000 in
theorem wsL_law0_r9_in : ∀ w ∈ wsL_law0_r9, w ∈ lw_tbl := fun w h => (goodIn_p wsL_law0_r9 [550, 115, 554, 119, 558, 562] (by decide +kernel) (by decide +kernel) w h).1
set_option maxRecDepth 20000 in
theorem wsL_law0_r10_in : ∀ w ∈ wsL_law0_r10, w ∈ lw_tbl := fun w h => (goodIn_p wsL_law0_r10 [297, 566, 305, 570] (by decide +kernel) (by decide +kernel) w h).1
set_option maxRecDepth 20000 in
theorem wsL_law0_r11_in : ∀ w ∈ wsL_law0_r11, w ∈ lw_tbl := fun w h => (goodIn_p wsL_law0_r11 [312, 317, 320, 324, 574, 578] (by decide +kernel) (by decide +kernel) w h).1
set_option maxRecDepth 20000 in
theorem wsL_law0_r12_in : ∀ w ∈ wsL_law0_r12, w ∈ lw_tbl := fun w h => (goodIn_p wsL_law0_r12 [582, 586, 331, 335, 339] (by decide +kernel) (by decide +kernel) w h).1
set_option maxRecDepth 20000 in
theorem wsL_law0_r13_in : ∀ w ∈ wsL_law0_r13, w ∈ lw_tbl := fun w h => (goodIn_p wsL_law0_r13 [590, 347, 367, 372, 376] (by decide +kernel) (by decide +kernel) w h).1
set_option maxRecDepth 20000 in
theorem wsL_law0_r14_in : ∀ w ∈ wsL_law0_r14, w ∈ lw_tbl := fun w h => (goodIn_p wsL_law0_r14 [384, 380, 392, 388, 397] (by decide +kernel) (by decide +kernel) w h).1
set_option maxRecDepth 20000 in
theorem wsL_law0_r15_in : ∀ w ∈ wsL_law0_r15, w ∈ lw_tbl := fun w h => (goodIn_p wsL_law0_r15 [594, 598, 602, 606, 610, 404] (by decide +kernel) (by decide +kernel) w h).1
set_option maxRecDepth 20000 in
theorem wsL_law0_r16_in : ∀ w ∈ wsL_law0_r16, w ∈ lw_tbl := fun w h => (goodIn_p wsL_law0_r16 [408, 412, 416, 614, 618, 129] (by decide +kernel) (by decide +kernel) w h).1
set_option maxRecDepth 20000 in
theorem wsL_law0_r17_in : ∀ w ∈ wsL_law0_r17, w ∈ lw_tbl := fun w h => (goodIn_p wsL_law0_r17 [622, 423, 137, 140] (by decide +kernel) (by decide +kernel) w h).1
set_option maxRecDepth 20000 in
theorem wsL_law0_r18_in : ∀ w ∈ wsL_law0_r18, w ∈ lw_tbl := fun w h => (goodIn_p wsL_law0_r18 [144, 147, 154, 626, 630, 634, 637] (by decide +kernel) (by decide +kernel) w h).1
set_option maxRecDepth 20000 in
theorem wsL_law0_r19_in : ∀ w ∈ wsL_law0_r19, w ∈ lw_tbl := fun w h => (goodIn_p wsL_law0_r19 [641, 133, 645] (by decide +kernel) (by decide +kernel) w h).1
theorem wsL_law_t0 : ∀ w ∈ wsX00, w ∈ lw_tbl := by decide +kernel
theorem wsL_law_t1 : ∀ w ∈ wsX10, w ∈ lw_tbl := by decide +kernel
theorem wsL_law_in0 : ∀ w ∈ wsL_law0, w ∈ lw_tbl := fun w h => (List.mem_append.mp h).elim (fun h => (List.mem_append.mp h).elim (fun h => (List.mem_append.mp h).elim (fun h => (List.mem_append.mp h).elim (fun h => wsL_law0_r1_in w h) (fun h => (List.mem_append.mp h).elim (fun h => wsL_law0_r2_in w h) (fun h => (List.mem_append.mp h).elim (fun h => wsL_law0_r3_in w h) (fun h => (List.mem_append.mp h).elim (fun h => wsL_law0_r4_in w h) (fun h => (List.mem_append.mp h).elim (fun h => wsL_law0_r5_in w h) (fun h => (List.mem_append.mp h).elim (fun h => wsL_law0_r6_in w h) (fun h => (List.mem_append.mp h).elim (fun h => wsL_law0_r7_in w h) (fun h => (List.mem_append.mp h).elim (fun h => wsL_law0_r8_in w h) (fun h => (List.mem_append.mp h).elim (fun h => wsL_law0_r9_in w h) (fun h => (List.mem_append.mp h).elim (fun h => wsL_law0_r10_in w h) (fun h => (List.mem_append.mp h).elim (fun h => wsL_law0_r11_in w h) (fun h => (List.mem_append.mp h).elim (fun h => wsL_law0_r12_in w h) (fun h => (List.mem_append.mp h).elim (fun h => wsL_law0_r13_in w h) (fun h => (List.mem_append.mp h).elim (fun h => wsL_law0_r14_in w h) (fun h => (List.mem_append.mp h).elim (fun h => wsL_law0_r15_in w h) (fun h => (List.mem_append.mp h).elim (fun h => wsL_law0_r16_in w h) (fun h => (List.mem_append.mp h).elim (fun h => wsL_law0_r17_in w h) (fun h => (List.mem_append.mp h).elim (fun h => wsL_law0_r18_in w h) (fun h => wsL_law0_r19_in w h))))))))))))))))))) (fun h => wsL_law_t0 w h)) (fun h => wsL_law_t1 w h)) (fun h => nomatch h)
theorem wsL_law_x0 : ∀ w ∈ (vx_atS RX0 50 "java/lang/IndexOutOfBoundsException" ["java/lang/RuntimeException", "java/lang/Exception"]).filter goodWord, w ∈ lw_tbl := by decide +kernel
theorem wsL_law_x1 : ∀ w ∈ (vx_atS RX0 57 "java/lang/IllegalStateException" ["java/lang/RuntimeException", "java/lang/Exception"]).filter goodWord, w ∈ lw_tbl := by decide +kernel
theorem wsL_law_x2 : ∀ w ∈ (vx_atS RX0 107 "java/lang/IllegalArgumentException" ["java/lang/RuntimeException", "java/lang/Exception"]).filter goodWord, w ∈ lw_tbl := by decide +kernel
theorem wsL_law_in : ∀ w ∈ wsL_law, w ∈ lw_tbl := fun w h => (List.mem_append.mp h).elim (fun h => (List.mem_append.mp h).elim (fun h => (List.mem_append.mp h).elim (fun h => wsL_law_in0 w h) (fun h => wsL_law_x0 w h)) (fun h => wsL_law_x1 w h)) (fun h => wsL_law_x2 w h)
theorem inlX0 : ∀ w ∈ wsX00, w ∈ wsL_law := fun _ h => List.mem_append_left _ (List.mem_append_left _ (List.mem_append_left _ (List.mem_append_left _ (List.mem_append_left _ (List.mem_append_right _ h)))))
theorem inX0 : ∀ w ∈ wsX00, w ∈ lw_tbl := fun w h => wsL_law_in w (inlX0 w h)
theorem inlX1 : ∀ w ∈ wsX10, w ∈ wsL_law := fun _ h => List.mem_append_left _ (List.mem_append_left _ (List.mem_append_left _ (List.mem_append_left _ (List.mem_append_right _ h))))
theorem inX1 : ∀ w ∈ wsX10, w ∈ lw_tbl := fun w h => wsL_law_in w (inlX1 w h)
theorem inJ6 : ∀ w ∈ wsJ60, w ∈ lw_tbl := by decide +kernel
theorem inJ0 : ∀ w ∈ wsJ00, w ∈ lw_tbl := by decide +kernel
set_option maxRecDepth 20000 in
theorem ggL_give_X0_give : GoodIn wsL_give wsX0_give := goodIn_ca (goodIn_ca (goodIn_r _ [7, 8, 9, 10, 11, 12, 13, 14, 15, 16, 17, 6, 18, 19, 20, 21, 22, 23, 24, 25, 26, 27, 28, 29, 30, 31, 32] (by decide +kernel) (by decide +kernel)) (goodIn_sub (fun _ h => List.mem_cons_of_mem _ (List.mem_append_left _ (List.mem_append_right _ h))) (by decide +kernel))) (goodIn_sub (fun _ h => List.mem_cons_of_mem _ (List.mem_append_right _ h)) (by decide +kernel))
set_option maxRecDepth 20000 in
theorem gL_give_X0_give : GoodIn wsL_give (wsV RL 7 RX0 yX0_give wsX0_give) := goodIn_app (goodIn_of _ (by decide +kernel)) ggL_give_X0_give
theorem dL_give_0 : decode cL_give 0 = .ok (.aload_n 2, 1) := by decide +kernel
theorem dL_give_1 : decode cL_give 1 = .ok (.iconst 0, 1) := by decide +kernel
theorem dL_give_2 : decode cL_give 2 = .ok (.aload_n 0, 1) := by decide +kernel
theorem dL_give_3 : decode cL_give 3 = .ok (.iload_n 1, 1) := by decide +kernel
theorem dL_give_4 : decode cL_give 4 = .ok (.invokevirtual 7, 3) := by decide +kernel
theorem dL_give_7 : decode cL_give 7 = .ok (.i2l, 1) := by decide +kernel
theorem dL_give_8 : decode cL_give 8 = .ok (.lastore, 1) := by decide +kernel
theorem dL_give_9 : decode cL_give 9 = .ok (.goto 9, 3) := by decide +kernel
theorem dL_give_12 : decode cL_give 12 = .ok (.astore_n 3, 1) := by decide +kernel
theorem dL_give_13 : decode cL_give 13 = .ok (.iconst 1, 1) := by decide +kernel
theorem dL_give_14 : decode cL_give 14 = .ok (.ireturn, 1) := by decide +kernel
theorem dL_give_15 : decode cL_give 15 = .ok (.astore_n 3, 1) := by decide +kernel
theorem dL_give_16 : decode cL_give 16 = .ok (.iconst 2, 1) := by decide +kernel
theorem dL_give_17 : decode cL_give 17 = .ok (.ireturn, 1) := by decide +kernel
theorem dL_give_18 : decode cL_give 18 = .ok (.iconst 0, 1) := by decide +kernel
theorem dL_give_19 : decode cL_give 19 = .ok (.ireturn, 1) := by decide +kernel
set_option maxRecDepth 20000 in
theorem ggL_place_X0_place : GoodIn wsL_place wsX0_place := goodIn_ca (goodIn_ca (goodIn_r _ [7, 8, 9, 10, 11, 12, 13, 14, 15, 16, 17, 18, 19, 6, 20, 21, 22, 23, 24, 25, 26, 27, 28, 29, 30, 31, 32, 33, 34, 35, 36, 37, 38, 39, 40, 41, 42, 43, 44, 45, 46, 47, 48, 49, 50, 51, 52, 53, 54, 55, 56, 57, 58, 59, 60, 61, 62, 63] (by decide +kernel) (by decide +kernel)) (goodIn_sub (fun _ h => List.mem_cons_of_mem _ (List.mem_append_left _ (List.mem_append_right _ h))) (by decide +kernel))) (goodIn_sub (fun _ h => List.mem_cons_of_mem _ (List.mem_append_right _ h)) (by decide +kernel))
set_option maxRecDepth 20000 in
theorem gL_place_X0_place : GoodIn wsL_place (wsV RL 17 RX0 yX0_place wsX0_place) := goodIn_app (goodIn_of _ (by decide +kernel)) ggL_place_X0_place
theorem dL_place_0 : decode cL_place 0 = .ok (.aload_n 2, 1) := by decide +kernel
theorem dL_place_1 : decode cL_place 1 = .ok (.iconst 0, 1) := by decide +kernel
theorem dL_place_2 : decode cL_place 2 = .ok (.aload_n 0, 1) := by decide +kernel
theorem dL_place_3 : decode cL_place 3 = .ok (.iload_n 1, 1) := by decide +kernel
theorem dL_place_4 : decode cL_place 4 = .ok (.invokevirtual 17, 3) := by decide +kernel
theorem dL_place_7 : decode cL_place 7 = .ok (.i2l, 1) := by decide +kernel
theorem dL_place_8 : decode cL_place 8 = .ok (.lastore, 1) := by decide +kernel
theorem dL_place_9 : decode cL_place 9 = .ok (.goto 9, 3) := by decide +kernel
theorem dL_place_12 : decode cL_place 12 = .ok (.astore_n 3, 1) := by decide +kernel
theorem dL_place_13 : decode cL_place 13 = .ok (.iconst 1, 1) := by decide +kernel
theorem dL_place_14 : decode cL_place 14 = .ok (.ireturn, 1) := by decide +kernel
theorem dL_place_15 : decode cL_place 15 = .ok (.astore_n 3, 1) := by decide +kernel
theorem dL_place_16 : decode cL_place 16 = .ok (.iconst 2, 1) := by decide +kernel
theorem dL_place_17 : decode cL_place 17 = .ok (.ireturn, 1) := by decide +kernel
theorem dL_place_18 : decode cL_place 18 = .ok (.iconst 0, 1) := by decide +kernel
theorem dL_place_19 : decode cL_place 19 = .ok (.ireturn, 1) := by decide +kernel
set_option maxRecDepth 20000 in
theorem ggL_pieceAt_X0_pieceAt : GoodIn wsL_pieceAt wsX0_pieceAt := goodIn_ca (goodIn_r _ [6, 7, 8, 9, 10, 11, 12, 5, 13, 14, 15, 16, 17, 18, 19, 20, 21, 22, 23, 24, 25, 26, 27, 28, 29, 30, 31] (by decide +kernel) (by decide +kernel)) (goodIn_sub (fun _ h => List.mem_cons_of_mem _ (List.mem_append_right _ h)) (by decide +kernel))
set_option maxRecDepth 20000 in
theorem gL_pieceAt_X0_pieceAt : GoodIn wsL_pieceAt (wsV RL 20 RX0 yX0_pieceAt wsX0_pieceAt) := goodIn_app (goodIn_of _ (by decide +kernel)) ggL_pieceAt_X0_pieceAt
theorem dL_pieceAt_0 : decode cL_pieceAt 0 = .ok (.aload_n 2, 1) := by decide +kernel
theorem dL_pieceAt_1 : decode cL_pieceAt 1 = .ok (.iconst 0, 1) := by decide +kernel
theorem dL_pieceAt_2 : decode cL_pieceAt 2 = .ok (.aload_n 0, 1) := by decide +kernel
theorem dL_pieceAt_3 : decode cL_pieceAt 3 = .ok (.iload_n 1, 1) := by decide +kernel
theorem dL_pieceAt_4 : decode cL_pieceAt 4 = .ok (.invokevirtual 20, 3) := by decide +kernel
theorem dL_pieceAt_7 : decode cL_pieceAt 7 = .ok (.i2l, 1) := by decide +kernel
theorem dL_pieceAt_8 : decode cL_pieceAt 8 = .ok (.lastore, 1) := by decide +kernel
theorem dL_pieceAt_9 : decode cL_pieceAt 9 = .ok (.goto 6, 3) := by decide +kernel
theorem dL_pieceAt_12 : decode cL_pieceAt 12 = .ok (.astore_n 3, 1) := by decide +kernel
theorem dL_pieceAt_13 : decode cL_pieceAt 13 = .ok (.iconst 1, 1) := by decide +kernel
theorem dL_pieceAt_14 : decode cL_pieceAt 14 = .ok (.ireturn, 1) := by decide +kernel
theorem dL_pieceAt_15 : decode cL_pieceAt 15 = .ok (.iconst 0, 1) := by decide +kernel
theorem dL_pieceAt_16 : decode cL_pieceAt 16 = .ok (.ireturn, 1) := by decide +kernel
set_option maxRecDepth 20000 in
theorem ggL_onLine_X0_onLine : GoodIn wsL_onLine wsX0_onLine := goodIn_ca (goodIn_r _ [6, 7, 8, 9, 10, 11, 12, 13, 5, 14, 15, 16, 17, 18, 19, 20, 21, 22, 23, 24, 25, 26, 27, 28, 29, 30, 31, 32, 33] (by decide +kernel) (by decide +kernel)) (goodIn_sub (fun _ h => List.mem_cons_of_mem _ (List.mem_append_right _ h)) (by decide +kernel))
set_option maxRecDepth 20000 in
theorem gL_onLine_X0_onLine : GoodIn wsL_onLine (wsV RL 23 RX0 yX0_onLine wsX0_onLine) := goodIn_app (goodIn_of _ (by decide +kernel)) ggL_onLine_X0_onLine
theorem dL_onLine_0 : decode cL_onLine 0 = .ok (.aload_n 2, 1) := by decide +kernel
theorem dL_onLine_1 : decode cL_onLine 1 = .ok (.iconst 0, 1) := by decide +kernel
theorem dL_onLine_2 : decode cL_onLine 2 = .ok (.aload_n 0, 1) := by decide +kernel
theorem dL_onLine_3 : decode cL_onLine 3 = .ok (.iload_n 1, 1) := by decide +kernel
theorem dL_onLine_4 : decode cL_onLine 4 = .ok (.invokevirtual 23, 3) := by decide +kernel
theorem dL_onLine_7 : decode cL_onLine 7 = .ok (.i2l, 1) := by decide +kernel
theorem dL_onLine_8 : decode cL_onLine 8 = .ok (.lastore, 1) := by decide +kernel
theorem dL_onLine_9 : decode cL_onLine 9 = .ok (.goto 6, 3) := by decide +kernel
theorem dL_onLine_12 : decode cL_onLine 12 = .ok (.astore_n 3, 1) := by decide +kernel
theorem dL_onLine_13 : decode cL_onLine 13 = .ok (.iconst 1, 1) := by decide +kernel
theorem dL_onLine_14 : decode cL_onLine 14 = .ok (.ireturn, 1) := by decide +kernel
theorem dL_onLine_15 : decode cL_onLine 15 = .ok (.iconst 0, 1) := by decide +kernel
theorem dL_onLine_16 : decode cL_onLine 16 = .ok (.ireturn, 1) := by decide +kernel
set_option maxRecDepth 20000 in
theorem ggL_shared_X0_shared : GoodIn wsL_shared wsX0_shared := goodIn_ca (goodIn_r _ [6, 7, 8, 9, 10, 11, 12, 5, 13, 14, 15, 16, 17, 18, 19, 20, 21, 22, 23, 24, 25, 26, 27, 28, 29, 30, 31, 32, 33, 34, 35] (by decide +kernel) (by decide +kernel)) (goodIn_sub (fun _ h => List.mem_cons_of_mem _ (List.mem_append_right _ h)) (by decide +kernel))
set_option maxRecDepth 20000 in
theorem gL_shared_X0_shared : GoodIn wsL_shared (wsV RL 26 RX0 yX0_shared wsX0_shared) := goodIn_app (goodIn_of _ (by decide +kernel)) ggL_shared_X0_shared
theorem dL_shared_0 : decode cL_shared 0 = .ok (.aload_n 2, 1) := by decide +kernel
theorem dL_shared_1 : decode cL_shared 1 = .ok (.iconst 0, 1) := by decide +kernel
theorem dL_shared_2 : decode cL_shared 2 = .ok (.aload_n 0, 1) := by decide +kernel
theorem dL_shared_3 : decode cL_shared 3 = .ok (.iload_n 1, 1) := by decide +kernel
theorem dL_shared_4 : decode cL_shared 4 = .ok (.invokevirtual 26, 3) := by decide +kernel
theorem dL_shared_7 : decode cL_shared 7 = .ok (.i2l, 1) := by decide +kernel
theorem dL_shared_8 : decode cL_shared 8 = .ok (.lastore, 1) := by decide +kernel
theorem dL_shared_9 : decode cL_shared 9 = .ok (.goto 6, 3) := by decide +kernel
theorem dL_shared_12 : decode cL_shared 12 = .ok (.astore_n 3, 1) := by decide +kernel
theorem dL_shared_13 : decode cL_shared 13 = .ok (.iconst 1, 1) := by decide +kernel
theorem dL_shared_14 : decode cL_shared 14 = .ok (.ireturn, 1) := by decide +kernel
theorem dL_shared_15 : decode cL_shared 15 = .ok (.iconst 0, 1) := by decide +kernel
theorem dL_shared_16 : decode cL_shared 16 = .ok (.ireturn, 1) := by decide +kernel
set_option maxRecDepth 20000 in
theorem ggL_winning_X0_winning : GoodIn wsL_winning wsX0_winning := goodIn_ca (goodIn_ca (goodIn_r _ [7, 8, 9, 10, 11, 12, 13, 14, 15, 6, 16, 17, 18, 19, 20, 21, 22, 23, 24, 25, 26, 27, 28, 29, 30, 31, 32, 33, 34, 35, 36, 37, 38, 39, 40, 41, 42, 43, 44, 45, 46, 47, 48, 49, 50, 51, 52, 53, 54, 55, 56, 57] (by decide +kernel) (by decide +kernel)) (goodIn_sub (fun _ h => List.mem_cons_of_mem _ (List.mem_append_left _ (List.mem_append_right _ h))) (by decide +kernel))) (goodIn_sub (fun _ h => List.mem_cons_of_mem _ (List.mem_append_right _ h)) (by decide +kernel))
set_option maxRecDepth 20000 in
theorem gL_winning_X0_winning : GoodIn wsL_winning (wsV RL 29 RX0 yX0_winning wsX0_winning) := goodIn_app (goodIn_of _ (by decide +kernel)) ggL_winning_X0_winning
theorem dL_winning_0 : decode cL_winning 0 = .ok (.aload_n 2, 1) := by decide +kernel
theorem dL_winning_1 : decode cL_winning 1 = .ok (.iconst 0, 1) := by decide +kernel
theorem dL_winning_2 : decode cL_winning 2 = .ok (.aload_n 0, 1) := by decide +kernel
theorem dL_winning_3 : decode cL_winning 3 = .ok (.iload_n 1, 1) := by decide +kernel
theorem dL_winning_4 : decode cL_winning 4 = .ok (.invokevirtual 29, 3) := by decide +kernel
theorem dL_winning_7 : decode cL_winning 7 = .ok (.i2l, 1) := by decide +kernel
theorem dL_winning_8 : decode cL_winning 8 = .ok (.lastore, 1) := by decide +kernel
theorem dL_winning_9 : decode cL_winning 9 = .ok (.goto 9, 3) := by decide +kernel
theorem dL_winning_12 : decode cL_winning 12 = .ok (.astore_n 3, 1) := by decide +kernel
theorem dL_winning_13 : decode cL_winning 13 = .ok (.iconst 1, 1) := by decide +kernel
theorem dL_winning_14 : decode cL_winning 14 = .ok (.ireturn, 1) := by decide +kernel
theorem dL_winning_15 : decode cL_winning 15 = .ok (.astore_n 3, 1) := by decide +kernel
theorem dL_winning_16 : decode cL_winning 16 = .ok (.iconst 2, 1) := by decide +kernel
theorem dL_winning_17 : decode cL_winning 17 = .ok (.ireturn, 1) := by decide +kernel
theorem dL_winning_18 : decode cL_winning 18 = .ok (.iconst 0, 1) := by decide +kernel
theorem dL_winning_19 : decode cL_winning 19 = .ok (.ireturn, 1) := by decide +kernel
set_option maxRecDepth 20000 in
theorem ggL_safe_X0_safe : GoodIn wsL_safe wsX0_safe := goodIn_ca (goodIn_r _ [6, 7, 8, 9, 10, 11, 12, 5, 13, 14, 15, 16, 17, 18, 19, 20, 21, 22, 23, 24, 25, 26, 27, 28, 29, 30, 31, 32, 33, 34, 35, 36, 37, 38, 39, 40, 41, 42, 43, 44, 45, 46, 47, 48, 49, 50, 51, 52, 53, 54, 55] (by decide +kernel) (by decide +kernel)) (goodIn_sub (fun _ h => List.mem_cons_of_mem _ (List.mem_append_right _ h)) (by decide +kernel))
set_option maxRecDepth 20000 in
theorem gL_safe_X0_safe : GoodIn wsL_safe (wsV RL 32 RX0 yX0_safe wsX0_safe) := goodIn_app (goodIn_of _ (by decide +kernel)) ggL_safe_X0_safe
theorem dL_safe_0 : decode cL_safe 0 = .ok (.aload_n 1, 1) := by decide +kernel
theorem dL_safe_1 : decode cL_safe 1 = .ok (.iconst 0, 1) := by decide +kernel
theorem dL_safe_2 : decode cL_safe 2 = .ok (.aload_n 0, 1) := by decide +kernel
theorem dL_safe_3 : decode cL_safe 3 = .ok (.invokevirtual 32, 3) := by decide +kernel
theorem dL_safe_6 : decode cL_safe 6 = .ok (.i2l, 1) := by decide +kernel
theorem dL_safe_7 : decode cL_safe 7 = .ok (.lastore, 1) := by decide +kernel
theorem dL_safe_8 : decode cL_safe 8 = .ok (.goto 6, 3) := by decide +kernel
theorem dL_safe_11 : decode cL_safe 11 = .ok (.astore_n 2, 1) := by decide +kernel
theorem dL_safe_12 : decode cL_safe 12 = .ok (.iconst 1, 1) := by decide +kernel
theorem dL_safe_13 : decode cL_safe 13 = .ok (.ireturn, 1) := by decide +kernel
theorem dL_safe_14 : decode cL_safe 14 = .ok (.iconst 0, 1) := by decide +kernel
theorem dL_safe_15 : decode cL_safe 15 = .ok (.ireturn, 1) := by decide +kernel
set_option maxRecDepth 20000 in
theorem ggL_worth_X0_worth : GoodIn wsL_worth wsX0_worth := goodIn_ca (goodIn_ca (goodIn_r _ [7, 8, 9, 10, 11, 12, 13, 14, 15, 16, 6, 17, 18, 19, 20, 21, 22, 23, 24, 25, 26, 27, 28, 29, 30, 31, 32, 33, 34, 35, 36, 37, 38, 39, 40, 41, 42, 43, 44, 45, 46, 47, 48, 49, 50, 51, 52, 53, 54, 55, 56, 57, 58, 59, 60, 61, 62, 63, 64, 65, 66, 67, 68, 69, 70, 71, 72, 73, 74, 75, 76, 77, 78, 79, 80, 81, 82, 83, 84, 85, 86, 87, 88, 89, 90, 91, 92, 93, 94, 95, 96, 97, 98, 99, 100, 101, 102, 103, 104, 105, 106, 107, 108, 109, 110, 111, 112, 113, 114] (by decide +kernel) (by decide +kernel)) (goodIn_sub (fun _ h => List.mem_cons_of_mem _ (List.mem_append_left _ (List.mem_append_right _ h))) (by decide +kernel))) (goodIn_sub (fun _ h => List.mem_cons_of_mem _ (List.mem_append_right _ h)) (by decide +kernel))
set_option maxRecDepth 20000 in
theorem gL_worth_X0_worth : GoodIn wsL_worth (wsV RL 36 RX0 yX0_worth wsX0_worth) := goodIn_app (goodIn_of _ (by decide +kernel)) ggL_worth_X0_worth
theorem dL_worth_0 : decode cL_worth 0 = .ok (.aload_n 2, 1) := by decide +kernel
theorem dL_worth_1 : decode cL_worth 1 = .ok (.iconst 0, 1) := by decide +kernel
theorem dL_worth_2 : decode cL_worth 2 = .ok (.aload_n 0, 1) := by decide +kernel
theorem dL_worth_3 : decode cL_worth 3 = .ok (.iload_n 1, 1) := by decide +kernel
theorem dL_worth_4 : decode cL_worth 4 = .ok (.invokevirtual 36, 3) := by decide +kernel
theorem dL_worth_7 : decode cL_worth 7 = .ok (.i2l, 1) := by decide +kernel
theorem dL_worth_8 : decode cL_worth 8 = .ok (.lastore, 1) := by decide +kernel
theorem dL_worth_9 : decode cL_worth 9 = .ok (.goto 9, 3) := by decide +kernel
theorem dL_worth_12 : decode cL_worth 12 = .ok (.astore_n 3, 1) := by decide +kernel
theorem dL_worth_13 : decode cL_worth 13 = .ok (.iconst 1, 1) := by decide +kernel
theorem dL_worth_14 : decode cL_worth 14 = .ok (.ireturn, 1) := by decide +kernel
theorem dL_worth_15 : decode cL_worth 15 = .ok (.astore_n 3, 1) := by decide +kernel
theorem dL_worth_16 : decode cL_worth 16 = .ok (.iconst 2, 1) := by decide +kernel
theorem dL_worth_17 : decode cL_worth 17 = .ok (.ireturn, 1) := by decide +kernel
theorem dL_worth_18 : decode cL_worth 18 = .ok (.iconst 0, 1) := by decide +kernel
theorem dL_worth_19 : decode cL_worth 19 = .ok (.ireturn, 1) := by decide +kernel
set_option maxRecDepth 20000 in
theorem ggL_best_X0_best : GoodIn wsL_best wsX0_best := goodIn_ca (goodIn_ca (goodIn_r _ [7, 8, 9, 10, 11, 12, 13, 14, 15, 6, 16, 17, 18, 19, 20, 21, 22, 23, 24, 25, 26, 27, 28, 29, 30, 31, 32, 33, 34, 35, 36, 37, 38, 39, 40, 41, 42, 43, 44, 45, 46, 47, 48, 49, 50, 51, 52, 53, 54, 55, 56, 57, 58, 59, 60, 61, 62, 63, 64, 65, 66, 67, 68, 69, 70, 71, 72, 73, 74, 75, 76, 77, 78, 79, 80, 81, 82, 83, 84, 85, 86, 87, 88, 89, 90, 91, 92, 93, 94, 95, 96, 97, 98, 99, 100, 101, 102, 103, 104, 105, 106, 107, 108, 109, 110, 111, 112, 113, 114, 115, 116, 117, 118, 119, 120, 121, 122, 123, 124, 125, 126] (by decide +kernel) (by decide +kernel)) (goodIn_sub (fun _ h => List.mem_cons_of_mem _ (List.mem_append_left _ (List.mem_append_right _ h))) (by decide +kernel))) (goodIn_sub (fun _ h => List.mem_cons_of_mem _ (List.mem_append_right _ h)) (by decide +kernel))
set_option maxRecDepth 20000 in
theorem gL_best_X0_best : GoodIn wsL_best (wsV RL 41 RX0 yX0_best wsX0_best) := goodIn_app (goodIn_of _ (by decide +kernel)) ggL_best_X0_best
theorem dL_best_0 : decode cL_best 0 = .ok (.aload_n 2, 1) := by decide +kernel
theorem dL_best_1 : decode cL_best 1 = .ok (.iconst 0, 1) := by decide +kernel
theorem dL_best_2 : decode cL_best 2 = .ok (.aload_n 0, 1) := by decide +kernel
theorem dL_best_3 : decode cL_best 3 = .ok (.iload_n 1, 1) := by decide +kernel
theorem dL_best_4 : decode cL_best 4 = .ok (.invokevirtual 41, 3) := by decide +kernel
theorem dL_best_7 : decode cL_best 7 = .ok (.i2l, 1) := by decide +kernel
theorem dL_best_8 : decode cL_best 8 = .ok (.lastore, 1) := by decide +kernel
theorem dL_best_9 : decode cL_best 9 = .ok (.goto 9, 3) := by decide +kernel
theorem dL_best_12 : decode cL_best 12 = .ok (.astore_n 3, 1) := by decide +kernel
theorem dL_best_13 : decode cL_best 13 = .ok (.iconst 1, 1) := by decide +kernel
theorem dL_best_14 : decode cL_best 14 = .ok (.ireturn, 1) := by decide +kernel
theorem dL_best_15 : decode cL_best 15 = .ok (.astore_n 3, 1) := by decide +kernel
theorem dL_best_16 : decode cL_best 16 = .ok (.iconst 2, 1) := by decide +kernel
theorem dL_best_17 : decode cL_best 17 = .ok (.ireturn, 1) := by decide +kernel
theorem dL_best_18 : decode cL_best 18 = .ok (.iconst 0, 1) := by decide +kernel
theorem dL_best_19 : decode cL_best 19 = .ok (.ireturn, 1) := by decide +kernel
set_option maxRecDepth 20000 in
theorem ggL_isAlike_X0_isAlike : GoodIn wsL_isAlike wsX0_isAlike := goodIn_ca (goodIn_r _ [6, 7, 8, 9, 10, 11, 12, 13, 14, 5, 15, 16, 17, 18, 19, 20, 21, 22, 23, 24, 25, 26, 27, 28, 29, 30, 31, 32, 33, 34, 35, 36, 37, 38, 39, 40, 41, 42, 43, 44, 45] (by decide +kernel) (by decide +kernel)) (goodIn_sub (fun _ h => List.mem_cons_of_mem _ (List.mem_append_right _ h)) (by decide +kernel))
set_option maxRecDepth 20000 in
theorem gL_isAlike_X0_isAlike : GoodIn wsL_isAlike (wsV RL 44 RX0 yX0_isAlike wsX0_isAlike) := goodIn_app (goodIn_of _ (by decide +kernel)) ggL_isAlike_X0_isAlike
theorem dL_isAlike_0 : decode cL_isAlike 0 = .ok (.aload_n 1, 1) := by decide +kernel
theorem dL_isAlike_1 : decode cL_isAlike 1 = .ok (.iconst 0, 1) := by decide +kernel
theorem dL_isAlike_2 : decode cL_isAlike 2 = .ok (.aload_n 0, 1) := by decide +kernel
theorem dL_isAlike_3 : decode cL_isAlike 3 = .ok (.invokevirtual 44, 3) := by decide +kernel
theorem dL_isAlike_6 : decode cL_isAlike 6 = .ok (.ifCond .eq 7, 3) := by decide +kernel
theorem dL_isAlike_9 : decode cL_isAlike 9 = .ok (.lconst 1, 1) := by decide +kernel
theorem dL_isAlike_10 : decode cL_isAlike 10 = .ok (.goto 4, 3) := by decide +kernel
theorem dL_isAlike_13 : decode cL_isAlike 13 = .ok (.lconst 0, 1) := by decide +kernel
theorem dL_isAlike_14 : decode cL_isAlike 14 = .ok (.lastore, 1) := by decide +kernel
theorem dL_isAlike_15 : decode cL_isAlike 15 = .ok (.goto 6, 3) := by decide +kernel
theorem dL_isAlike_18 : decode cL_isAlike 18 = .ok (.astore_n 2, 1) := by decide +kernel
theorem dL_isAlike_19 : decode cL_isAlike 19 = .ok (.iconst 1, 1) := by decide +kernel
theorem dL_isAlike_20 : decode cL_isAlike 20 = .ok (.ireturn, 1) := by decide +kernel
theorem dL_isAlike_21 : decode cL_isAlike 21 = .ok (.iconst 0, 1) := by decide +kernel
theorem dL_isAlike_22 : decode cL_isAlike 22 = .ok (.ireturn, 1) := by decide +kernel
set_option maxRecDepth 20000 in
theorem ggL_law_X0_init : GoodIn wsL_law wsX0_init := goodIn_r _ [9, 10, 11, 12, 13, 14, 442, 443, 444, 445, 446, 447, 448, 449, 450, 451, 452] (by decide +kernel) (by decide +kernel)
set_option maxRecDepth 20000 in
theorem gL_law_X0_init : GoodIn wsL_law (wsX0_init) := ggL_law_X0_init
set_option maxRecDepth 20000 in
theorem ggL_law_X1_init : GoodIn wsL_law wsX1_init := goodIn_r _ [17, 18, 11, 12, 19, 20, 21, 22, 23, 24, 25, 26, 27, 28, 29, 30, 31, 32, 453, 454, 455, 456, 457, 458, 459, 460, 461, 462, 463, 464, 465, 466, 467, 468, 469] (by decide +kernel) (by decide +kernel)
set_option maxRecDepth 20000 in
theorem gL_law_X1_init : GoodIn wsL_law (wsX1_init) := ggL_law_X1_init
set_option maxRecDepth 20000 in
theorem ggL_law_X0_begin : GoodIn wsL_law wsX0_begin := goodIn_r _ [36, 37, 38, 39, 40, 13, 14, 41, 42, 43, 44, 45, 46, 47, 48, 49, 442, 443, 444, 445, 446, 447, 448, 449, 450, 451, 452] (by decide +kernel) (by decide +kernel)
set_option maxRecDepth 20000 in
theorem gL_law_X0_begin : GoodIn wsL_law (wsV RL 52 RX0 yX0_begin wsX0_begin) := goodIn_app (goodIn_of _ (by decide +kernel)) ggL_law_X0_begin
set_option maxRecDepth 20000 in
theorem ggL_law_X1_begin : GoodIn wsL_law wsX1_begin := goodIn_r _ [53, 54, 55, 56, 20, 22, 23, 24, 57, 25, 453, 454, 455, 456, 457, 458, 459, 460, 461, 462, 463, 464, 465, 466, 467, 468, 469] (by decide +kernel) (by decide +kernel)
set_option maxRecDepth 20000 in
theorem gL_law_X1_begin : GoodIn wsL_law (wsV RL 56 RX1 yX1_begin wsX1_begin) := goodIn_app (goodIn_of _ (by decide +kernel)) ggL_law_X1_begin
set_option maxRecDepth 20000 in
theorem ggL_law_L_give : GoodIn wsL_law wsL_give := goodIn_ca (goodIn_ca (goodIn_r _ [61, 62, 63, 64, 65, 66, 2, 67, 68, 69, 70, 71, 39, 41, 13, 40, 72, 73, 74, 75, 76, 77, 442, 443, 444, 445, 446, 447, 448, 449, 450, 451, 452] (by decide +kernel) (by decide +kernel)) (goodIn_sub (fun _ h => List.mem_append_left _ (List.mem_append_left _ (List.mem_append_right _ h))) (by decide +kernel))) (goodIn_sub (fun _ h => List.mem_append_left _ (List.mem_append_right _ h)) (by decide +kernel))
set_option maxRecDepth 20000 in
theorem gL_law_L_give : GoodIn wsL_law (va_wsS RL 57 yL_give wsL_give) := goodIn_app (goodIn_of _ (by decide +kernel)) ggL_law_L_give
set_option maxRecDepth 20000 in
theorem ggL_law_X1_give : GoodIn wsL_law wsX1_give := goodIn_r _ [81, 24, 22, 23, 57, 82, 83, 5, 84, 85, 86, 87, 88, 54, 453, 454, 455, 456, 457, 458, 459, 460, 461, 462, 463, 464, 465, 466, 467, 468, 469] (by decide +kernel) (by decide +kernel)
set_option maxRecDepth 20000 in
theorem gL_law_X1_give : GoodIn wsL_law (wsV RL 62 RX1 yX1_give wsX1_give) := goodIn_app (goodIn_of _ (by decide +kernel)) ggL_law_X1_give
set_option maxRecDepth 20000 in
theorem ggL_law_X1_thrown : GoodIn wsL_law wsX1_thrown := goodIn_r _ [92, 54, 453, 454, 455, 456, 457, 458, 459, 460, 461, 462, 463, 464, 465, 466, 467, 468, 469] (by decide +kernel) (by decide +kernel)
set_option maxRecDepth 20000 in
theorem gL_law_X1_thrown : GoodIn wsL_law (wsV RL 63 RX1 yX1_thrown wsX1_thrown) := goodIn_app (goodIn_of _ (by decide +kernel)) ggL_law_X1_thrown
set_option maxRecDepth 20000 in
theorem ggL_law_L_place : GoodIn wsL_law wsL_place := goodIn_ca (goodIn_ca (goodIn_r _ [95, 62, 63, 96, 97, 98, 2, 99, 68, 69, 70, 71, 39, 37, 13, 40, 14, 100, 72, 73, 74, 75, 76, 77, 101, 102, 103, 104, 41, 42, 105, 106, 107, 108, 109, 110, 111, 112, 113, 114, 115, 116, 117, 118, 119, 38, 120, 121, 122, 123, 124, 125, 126, 442, 443, 444, 445, 446, 447, 448, 449, 450, 451, 452] (by decide +kernel) (by decide +kernel)) (goodIn_sub (fun _ h => List.mem_append_left _ (List.mem_append_left _ (List.mem_append_right _ h))) (by decide +kernel))) (goodIn_sub (fun _ h => List.mem_append_left _ (List.mem_append_right _ h)) (by decide +kernel))
set_option maxRecDepth 20000 in
theorem gL_law_L_place : GoodIn wsL_law (va_wsS RL 66 yL_place wsL_place) := goodIn_app (goodIn_of _ (by decide +kernel)) ggL_law_L_place
set_option maxRecDepth 20000 in
theorem ggL_law_X1_place : GoodIn wsL_law wsX1_place := goodIn_r _ [130, 24, 20, 23, 57, 55, 25, 82, 83, 5, 84, 85, 86, 87, 88, 54, 131, 132, 133, 134, 22, 135, 136, 137, 138, 139, 140, 141, 142, 56, 143, 144, 145, 146, 147, 148, 149, 150, 151, 152, 153, 453, 454, 455, 456, 457, 458, 459, 460, 461, 462, 463, 464, 465, 466, 467, 468, 469] (by decide +kernel) (by decide +kernel)
set_option maxRecDepth 20000 in
theorem gL_law_X1_place : GoodIn wsL_law (wsV RL 68 RX1 yX1_place wsX1_place) := goodIn_app (goodIn_of _ (by decide +kernel)) ggL_law_X1_place
set_option maxRecDepth 20000 in
theorem ggL_law_X0_phase : GoodIn wsL_law wsX0_phase := goodIn_r _ [157, 39, 442, 443, 444, 445, 446, 447, 448, 449, 450, 451, 452] (by decide +kernel) (by decide +kernel)
set_option maxRecDepth 20000 in
theorem gL_law_X0_phase : GoodIn wsL_law (wsV RL 69 RX0 yX0_phase wsX0_phase) := goodIn_app (goodIn_of _ (by decide +kernel)) ggL_law_X0_phase
set_option maxRecDepth 20000 in
theorem ggL_law_X1_phase : GoodIn wsL_law wsX1_phase := goodIn_r _ [161, 24, 162, 163, 164, 5, 165, 54, 453, 454, 455, 456, 457, 458, 459, 460, 461, 462, 463, 464, 465, 466, 467, 468, 469] (by decide +kernel) (by decide +kernel)
set_option maxRecDepth 20000 in
theorem gL_law_X1_phase : GoodIn wsL_law (wsV RL 72 RX1 yX1_phase wsX1_phase) := goodIn_app (goodIn_of _ (by decide +kernel)) ggL_law_X1_phase
set_option maxRecDepth 20000 in
theorem ggL_law_X0_onTurn : GoodIn wsL_law wsX0_onTurn := goodIn_r _ [169, 40, 442, 443, 444, 445, 446, 447, 448, 449, 450, 451, 452] (by decide +kernel) (by decide +kernel)
set_option maxRecDepth 20000 in
theorem gL_law_X0_onTurn : GoodIn wsL_law (wsV RL 73 RX0 yX0_onTurn wsX0_onTurn) := goodIn_app (goodIn_of _ (by decide +kernel)) ggL_law_X0_onTurn
set_option maxRecDepth 20000 in
theorem ggL_law_X1_onTurn : GoodIn wsL_law wsX1_onTurn := goodIn_r _ [173, 57, 162, 163, 164, 5, 165, 54, 453, 454, 455, 456, 457, 458, 459, 460, 461, 462, 463, 464, 465, 466, 467, 468, 469] (by decide +kernel) (by decide +kernel)
set_option maxRecDepth 20000 in
theorem gL_law_X1_onTurn : GoodIn wsL_law (wsV RL 76 RX1 yX1_onTurn wsX1_onTurn) := goodIn_app (goodIn_of _ (by decide +kernel)) ggL_law_X1_onTurn
set_option maxRecDepth 20000 in
theorem ggL_law_X0_hand : GoodIn wsL_law wsX0_hand := goodIn_r _ [177, 13, 442, 443, 444, 445, 446, 447, 448, 449, 450, 451, 452] (by decide +kernel) (by decide +kernel)
set_option maxRecDepth 20000 in
theorem gL_law_X0_hand : GoodIn wsL_law (wsV RL 77 RX0 yX0_hand wsX0_hand) := goodIn_app (goodIn_of _ (by decide +kernel)) ggL_law_X0_hand
set_option maxRecDepth 20000 in
theorem ggL_law_X1_hand : GoodIn wsL_law wsX1_hand := goodIn_r _ [181, 23, 162, 163, 164, 5, 165, 54, 453, 454, 455, 456, 457, 458, 459, 460, 461, 462, 463, 464, 465, 466, 467, 468, 469] (by decide +kernel) (by decide +kernel)
set_option maxRecDepth 20000 in
theorem gL_law_X1_hand : GoodIn wsL_law (wsV RL 80 RX1 yX1_hand wsX1_hand) := goodIn_app (goodIn_of _ (by decide +kernel)) ggL_law_X1_hand
set_option maxRecDepth 20000 in
theorem ggL_law_L_pieceAt : GoodIn wsL_law wsL_pieceAt := goodIn_ca (goodIn_r _ [184, 62, 185, 186, 187, 2, 188, 68, 69, 37, 42, 72, 73, 74, 75, 76, 77, 124, 125, 126, 100, 442, 443, 444, 445, 446, 447, 448, 449, 450, 451, 452] (by decide +kernel) (by decide +kernel)) (goodIn_sub (fun _ h => List.mem_append_left _ (List.mem_append_left _ (List.mem_append_right _ h))) (by decide +kernel))
set_option maxRecDepth 20000 in
theorem gL_law_L_pieceAt : GoodIn wsL_law (va_wsS RL 81 yL_pieceAt wsL_pieceAt) := goodIn_app (goodIn_of _ (by decide +kernel)) ggL_law_L_pieceAt
set_option maxRecDepth 20000 in
theorem ggL_law_X1_pieceAt : GoodIn wsL_law wsX1_pieceAt := goodIn_r _ [192, 20, 82, 83, 5, 84, 85, 86, 87, 88, 54, 453, 454, 455, 456, 457, 458, 459, 460, 461, 462, 463, 464, 465, 466, 467, 468, 469] (by decide +kernel) (by decide +kernel)
set_option maxRecDepth 20000 in
theorem gL_law_X1_pieceAt : GoodIn wsL_law (wsV RL 83 RX1 yX1_pieceAt wsX1_pieceAt) := goodIn_app (goodIn_of _ (by decide +kernel)) ggL_law_X1_pieceAt
set_option maxRecDepth 20000 in
theorem ggL_law_X0_placed : GoodIn wsL_law wsX0_placed := goodIn_r _ [196, 37, 43, 44, 45, 46, 47, 48, 49, 442, 443, 444, 445, 446, 447, 448, 449, 450, 451, 452] (by decide +kernel) (by decide +kernel)
set_option maxRecDepth 20000 in
theorem gL_law_X0_placed : GoodIn wsL_law (wsV RL 84 RX0 yX0_placed wsX0_placed) := goodIn_app (goodIn_of _ (by decide +kernel)) ggL_law_X0_placed
set_option maxRecDepth 20000 in
theorem ggL_law_X1_placed : GoodIn wsL_law wsX1_placed := goodIn_r _ [200, 55, 162, 163, 164, 5, 165, 54, 453, 454, 455, 456, 457, 458, 459, 460, 461, 462, 463, 464, 465, 466, 467, 468, 469] (by decide +kernel) (by decide +kernel)
set_option maxRecDepth 20000 in
theorem gL_law_X1_placed : GoodIn wsL_law (wsV RL 87 RX1 yX1_placed wsX1_placed) := goodIn_app (goodIn_of _ (by decide +kernel)) ggL_law_X1_placed
set_option maxRecDepth 20000 in
theorem ggL_law_X0_winner : GoodIn wsL_law wsX0_winner := goodIn_r _ [204, 14, 442, 443, 444, 445, 446, 447, 448, 449, 450, 451, 452] (by decide +kernel) (by decide +kernel)
set_option maxRecDepth 20000 in
theorem gL_law_X0_winner : GoodIn wsL_law (wsV RL 88 RX0 yX0_winner wsX0_winner) := goodIn_app (goodIn_of _ (by decide +kernel)) ggL_law_X0_winner
set_option maxRecDepth 20000 in
theorem ggL_law_X1_winner : GoodIn wsL_law wsX1_winner := goodIn_r _ [208, 25, 162, 163, 164, 5, 165, 54, 453, 454, 455, 456, 457, 458, 459, 460, 461, 462, 463, 464, 465, 466, 467, 468, 469] (by decide +kernel) (by decide +kernel)
set_option maxRecDepth 20000 in
theorem gL_law_X1_winner : GoodIn wsL_law (wsV RL 91 RX1 yX1_winner wsX1_winner) := goodIn_app (goodIn_of _ (by decide +kernel)) ggL_law_X1_winner
set_option maxRecDepth 20000 in
theorem ggL_law_X0_lines : GoodIn wsL_law wsX0_lines := goodIn_r _ [119, 38, 115, 442, 443, 444, 445, 446, 447, 448, 449, 450, 451, 452] (by decide +kernel) (by decide +kernel)
set_option maxRecDepth 20000 in
theorem gL_law_X0_lines : GoodIn wsL_law (wsV RL 92 RX0 yX0_lines wsX0_lines) := goodIn_app (goodIn_of _ (by decide +kernel)) ggL_law_X0_lines
set_option maxRecDepth 20000 in
theorem ggL_law_X1_lines : GoodIn wsL_law wsX1_lines := goodIn_r _ [213, 139, 140, 141, 5, 142, 56, 162, 163, 164, 165, 54, 453, 454, 455, 456, 457, 458, 459, 460, 461, 462, 463, 464, 465, 466, 467, 468, 469] (by decide +kernel) (by decide +kernel)
set_option maxRecDepth 20000 in
theorem gL_law_X1_lines : GoodIn wsL_law (wsV RL 95 RX1 yX1_lines wsX1_lines) := goodIn_app (goodIn_of _ (by decide +kernel)) ggL_law_X1_lines
set_option maxRecDepth 20000 in
theorem ggL_law_L_onLine : GoodIn wsL_law wsL_onLine := goodIn_ca (goodIn_r _ [216, 62, 217, 218, 219, 2, 220, 68, 69, 115, 37, 116, 117, 118, 119, 38, 43, 44, 45, 46, 47, 48, 49, 442, 443, 444, 445, 446, 447, 448, 449, 450, 451, 452] (by decide +kernel) (by decide +kernel)) (goodIn_sub (fun _ h => List.mem_append_left _ (List.mem_append_left _ (List.mem_append_right _ h))) (by decide +kernel))
set_option maxRecDepth 20000 in
theorem gL_law_L_onLine : GoodIn wsL_law (va_wsS RL 96 yL_onLine wsL_onLine) := goodIn_app (goodIn_of _ (by decide +kernel)) ggL_law_L_onLine
set_option maxRecDepth 20000 in
theorem ggL_law_X1_onLine : GoodIn wsL_law wsX1_onLine := goodIn_r _ [224, 139, 140, 141, 5, 142, 56, 82, 83, 84, 85, 86, 87, 88, 54, 146, 147, 148, 149, 20, 143, 144, 145, 453, 454, 455, 456, 457, 458, 459, 460, 461, 462, 463, 464, 465, 466, 467, 468, 469] (by decide +kernel) (by decide +kernel)
set_option maxRecDepth 20000 in
theorem gL_law_X1_onLine : GoodIn wsL_law (wsV RL 98 RX1 yX1_onLine wsX1_onLine) := goodIn_app (goodIn_of _ (by decide +kernel)) ggL_law_X1_onLine
set_option maxRecDepth 20000 in
theorem ggL_law_L_shared : GoodIn wsL_law wsL_shared := goodIn_ca (goodIn_r _ [227, 62, 228, 229, 230, 2, 231, 68, 69, 115, 116, 117, 118, 119, 38, 120, 121, 122, 123, 37, 42, 124, 125, 126, 100, 442, 443, 444, 445, 446, 447, 448, 449, 450, 451, 452] (by decide +kernel) (by decide +kernel)) (goodIn_sub (fun _ h => List.mem_append_left _ (List.mem_append_left _ (List.mem_append_right _ h))) (by decide +kernel))
set_option maxRecDepth 20000 in
theorem gL_law_L_shared : GoodIn wsL_law (va_wsS RL 99 yL_shared wsL_shared) := goodIn_app (goodIn_of _ (by decide +kernel)) ggL_law_L_shared
set_option maxRecDepth 20000 in
theorem ggL_law_X1_shared : GoodIn wsL_law wsX1_shared := goodIn_r _ [235, 139, 140, 141, 5, 142, 56, 82, 83, 84, 85, 86, 87, 88, 54, 150, 151, 152, 153, 20, 143, 144, 145, 453, 454, 455, 456, 457, 458, 459, 460, 461, 462, 463, 464, 465, 466, 467, 468, 469] (by decide +kernel) (by decide +kernel)
set_option maxRecDepth 20000 in
theorem gL_law_X1_shared : GoodIn wsL_law (wsV RL 101 RX1 yX1_shared wsX1_shared) := goodIn_app (goodIn_of _ (by decide +kernel)) ggL_law_X1_shared
set_option maxRecDepth 20000 in
theorem ggL_law_L_winning : GoodIn wsL_law wsL_winning := goodIn_ca (goodIn_ca (goodIn_r _ [238, 62, 63, 239, 240, 241, 2, 242, 68, 69, 70, 71, 39, 41, 72, 73, 74, 75, 76, 77, 243, 244, 245, 246, 115, 37, 247, 248, 249, 116, 117, 118, 119, 38, 250, 251, 252, 253, 120, 121, 122, 123, 42, 124, 125, 126, 100, 442, 443, 444, 445, 446, 447, 448, 449, 450, 451, 452] (by decide +kernel) (by decide +kernel)) (goodIn_sub (fun _ h => List.mem_append_left _ (List.mem_append_left _ (List.mem_append_right _ h))) (by decide +kernel))) (goodIn_sub (fun _ h => List.mem_append_left _ (List.mem_append_right _ h)) (by decide +kernel))
set_option maxRecDepth 20000 in
theorem gL_law_L_winning : GoodIn wsL_law (va_wsS RL 102 yL_winning wsL_winning) := goodIn_app (goodIn_of _ (by decide +kernel)) ggL_law_L_winning
set_option maxRecDepth 20000 in
theorem ggL_law_X1_winning : GoodIn wsL_law wsX1_winning := goodIn_r _ [257, 22, 24, 82, 83, 5, 84, 85, 86, 87, 88, 54, 258, 259, 260, 261, 262, 263, 264, 265, 20, 131, 132, 133, 134, 55, 135, 136, 137, 138, 139, 140, 141, 142, 56, 143, 144, 145, 146, 147, 148, 149, 150, 151, 152, 153, 266, 267, 268, 269, 453, 454, 455, 456, 457, 458, 459, 460, 461, 462, 463, 464, 465, 466, 467, 468, 469] (by decide +kernel) (by decide +kernel)
set_option maxRecDepth 20000 in
theorem gL_law_X1_winning : GoodIn wsL_law (wsV RL 104 RX1 yX1_winning wsX1_winning) := goodIn_app (goodIn_of _ (by decide +kernel)) ggL_law_X1_winning
set_option maxRecDepth 20000 in
theorem ggL_law_L_safe : GoodIn wsL_law wsL_safe := goodIn_ca (goodIn_r _ [272, 63, 273, 274, 275, 2, 276, 70, 71, 39, 277, 278, 279, 280, 41, 281, 282, 283, 284, 115, 116, 117, 118, 119, 38, 250, 251, 252, 253, 37, 120, 121, 122, 123, 42, 124, 125, 126, 100, 75, 76, 77, 247, 248, 249, 442, 443, 444, 445, 446, 447, 448, 449, 450, 451, 452] (by decide +kernel) (by decide +kernel)) (goodIn_sub (fun _ h => List.mem_append_left _ (List.mem_append_right _ h)) (by decide +kernel))
set_option maxRecDepth 20000 in
theorem gL_law_L_safe : GoodIn wsL_law (va_wsS RL 105 yL_safe wsL_safe) := goodIn_app (goodIn_of _ (by decide +kernel)) ggL_law_L_safe
set_option maxRecDepth 20000 in
theorem ggL_law_X1_safe : GoodIn wsL_law wsX1_safe := goodIn_r _ [288, 24, 22, 85, 86, 87, 5, 88, 54, 258, 259, 260, 261, 262, 263, 264, 265, 20, 131, 132, 133, 134, 55, 135, 136, 137, 138, 139, 140, 141, 142, 56, 143, 144, 145, 146, 147, 148, 149, 150, 151, 152, 153, 266, 267, 268, 269, 453, 454, 455, 456, 457, 458, 459, 460, 461, 462, 463, 464, 465, 466, 467, 468, 469] (by decide +kernel) (by decide +kernel)
set_option maxRecDepth 20000 in
theorem gL_law_X1_safe : GoodIn wsL_law (wsV RL 108 RX1 yX1_safe wsX1_safe) := goodIn_app (goodIn_of _ (by decide +kernel)) ggL_law_X1_safe
set_option maxRecDepth 20000 in
theorem ggL_law_L_worth : GoodIn wsL_law wsL_worth := goodIn_ca (goodIn_ca (goodIn_r _ [291, 292, 63, 293, 294, 295, 2, 296, 297, 298, 70, 71, 39, 13, 299, 300, 301, 302, 37, 43, 44, 45, 46, 47, 48, 49, 303, 304, 305, 306, 307, 308, 309, 310, 277, 278, 279, 280, 41, 281, 282, 283, 284, 115, 116, 117, 118, 119, 38, 250, 251, 252, 253, 120, 121, 122, 123, 42, 124, 125, 126, 100, 75, 76, 77, 247, 248, 249, 311, 312, 313, 314, 315, 316, 317, 318, 101, 102, 103, 104, 105, 106, 107, 108, 109, 110, 319, 320, 321, 322, 323, 324, 325, 326, 327, 328, 329, 330, 331, 332, 243, 244, 245, 246, 442, 443, 444, 445, 446, 447, 448, 449, 450, 451, 452] (by decide +kernel) (by decide +kernel)) (goodIn_sub (fun _ h => List.mem_append_right _ h) (by decide +kernel))) (goodIn_sub (fun _ h => List.mem_append_left _ (List.mem_append_right _ h)) (by decide +kernel))
set_option maxRecDepth 20000 in
theorem gL_law_L_worth : GoodIn wsL_law (va_wsS RL 109 yL_worth wsL_worth) := goodIn_app (goodIn_of _ (by decide +kernel)) ggL_law_L_worth
set_option maxRecDepth 20000 in
theorem ggL_law_X1_worth : GoodIn wsL_law wsX1_worth := goodIn_r _ [336, 24, 23, 337, 338, 339, 5, 340, 55, 85, 86, 87, 88, 54, 341, 342, 343, 344, 29, 30, 27, 28, 345, 346, 347, 348, 31, 266, 267, 268, 269, 22, 20, 349, 350, 351, 352, 131, 132, 133, 134, 135, 136, 137, 138, 139, 140, 141, 142, 56, 143, 144, 145, 146, 147, 148, 149, 150, 151, 152, 153, 453, 454, 455, 456, 457, 458, 459, 460, 461, 462, 463, 464, 465, 466, 467, 468, 469] (by decide +kernel) (by decide +kernel)
set_option maxRecDepth 20000 in
theorem gL_law_X1_worth : GoodIn wsL_law (wsV RL 111 RX1 yX1_worth wsX1_worth) := goodIn_app (goodIn_of _ (by decide +kernel)) ggL_law_X1_worth
set_option maxRecDepth 20000 in
theorem ggL_law_L_best : GoodIn wsL_law wsL_best := goodIn_ca (goodIn_ca (goodIn_r _ [355, 292, 63, 356, 357, 358, 2, 359, 297, 298, 70, 71, 39, 299, 300, 301, 302, 37, 43, 44, 45, 46, 47, 48, 49, 360, 361, 362, 363, 41, 303, 304, 305, 306, 307, 308, 309, 310, 277, 278, 279, 280, 281, 282, 283, 284, 115, 116, 117, 118, 119, 38, 250, 251, 252, 253, 120, 121, 122, 123, 42, 124, 125, 126, 100, 75, 76, 77, 247, 248, 249, 311, 312, 313, 314, 315, 316, 317, 318, 101, 102, 103, 104, 105, 106, 107, 108, 109, 110, 319, 320, 321, 322, 323, 324, 325, 326, 327, 328, 329, 330, 331, 332, 243, 244, 245, 246, 364, 365, 366, 367, 13, 368, 369, 370, 371, 442, 443, 444, 445, 446, 447, 448, 449, 450, 451, 452] (by decide +kernel) (by decide +kernel)) (goodIn_sub (fun _ h => List.mem_append_right _ h) (by decide +kernel))) (goodIn_sub (fun _ h => List.mem_append_left _ (List.mem_append_right _ h)) (by decide +kernel))
set_option maxRecDepth 20000 in
theorem gL_law_L_best : GoodIn wsL_law (va_wsS RL 112 yL_best wsL_best) := goodIn_app (goodIn_of _ (by decide +kernel)) ggL_law_L_best
set_option maxRecDepth 20000 in
theorem ggL_law_X1_best : GoodIn wsL_law wsX1_best := goodIn_r _ [375, 24, 23, 337, 338, 339, 5, 340, 55, 85, 86, 87, 88, 54, 341, 342, 343, 344, 29, 30, 27, 28, 345, 346, 347, 348, 31, 266, 267, 268, 269, 22, 20, 349, 350, 351, 352, 131, 132, 133, 134, 135, 136, 137, 138, 139, 140, 141, 142, 56, 143, 144, 145, 146, 147, 148, 149, 150, 151, 152, 153, 376, 377, 378, 379, 453, 454, 455, 456, 457, 458, 459, 460, 461, 462, 463, 464, 465, 466, 467, 468, 469] (by decide +kernel) (by decide +kernel)
set_option maxRecDepth 20000 in
theorem gL_law_X1_best : GoodIn wsL_law (wsV RL 114 RX1 yX1_best wsX1_best) := goodIn_app (goodIn_of _ (by decide +kernel)) ggL_law_X1_best
set_option maxRecDepth 20000 in
theorem ggL_law_X0_keep : GoodIn wsL_law wsX0_keep := goodIn_r _ [383, 384, 37, 385, 42, 386, 43, 44, 45, 46, 47, 48, 49, 442, 443, 444, 445, 446, 447, 448, 449, 450, 451, 452] (by decide +kernel) (by decide +kernel)
set_option maxRecDepth 20000 in
theorem gL_law_X0_keep : GoodIn wsL_law (wsV RL 115 RX0 yX0_keep wsX0_keep) := goodIn_app (goodIn_of _ (by decide +kernel)) ggL_law_X0_keep
set_option maxRecDepth 20000 in
theorem ggL_law_X1_keep : GoodIn wsL_law wsX1_keep := goodIn_r _ [390, 54, 391, 26, 20, 55, 453, 454, 455, 456, 457, 458, 459, 460, 461, 462, 463, 464, 465, 466, 467, 468, 469] (by decide +kernel) (by decide +kernel)
set_option maxRecDepth 20000 in
theorem gL_law_X1_keep : GoodIn wsL_law (wsV RL 118 RX1 yX1_keep wsX1_keep) := goodIn_app (goodIn_of _ (by decide +kernel)) ggL_law_X1_keep
set_option maxRecDepth 20000 in
theorem ggL_law_L_isAlike : GoodIn wsL_law wsL_isAlike := goodIn_ca (goodIn_r _ [394, 63, 395, 396, 397, 2, 398, 70, 71, 384, 385, 386, 399, 400, 401, 402, 37, 42, 403, 404, 405, 326, 406, 407, 408, 409, 410, 411, 124, 125, 126, 100, 412, 413, 414, 442, 443, 444, 445, 446, 447, 448, 449, 450, 451, 452] (by decide +kernel) (by decide +kernel)) (goodIn_sub (fun _ h => List.mem_append_left _ (List.mem_append_right _ h)) (by decide +kernel))
set_option maxRecDepth 20000 in
theorem gL_law_L_isAlike : GoodIn wsL_law (va_wsS RL 119 yL_isAlike wsL_isAlike) := goodIn_app (goodIn_of _ (by decide +kernel)) ggL_law_L_isAlike
set_option maxRecDepth 20000 in
theorem ggL_law_X1_isAlike : GoodIn wsL_law wsX1_isAlike := goodIn_r _ [418, 391, 26, 85, 86, 87, 5, 88, 54, 419, 420, 421, 422, 20, 423, 424, 425, 426, 32, 427, 428, 429, 430, 431, 432, 433, 453, 454, 455, 456, 457, 458, 459, 460, 461, 462, 463, 464, 465, 466, 467, 468, 469] (by decide +kernel) (by decide +kernel)
set_option maxRecDepth 20000 in
theorem gL_law_X1_isAlike : GoodIn wsL_law (wsV RL 121 RX1 yX1_isAlike wsX1_isAlike) := goodIn_app (goodIn_of _ (by decide +kernel)) ggL_law_X1_isAlike
set_option maxRecDepth 20000 in
theorem ggL_law_X0_symmetries : GoodIn wsL_law wsX0_symmetries := goodIn_r _ [437, 37, 42, 399, 400, 401, 2, 402, 403, 404, 405, 326, 406, 407, 408, 409, 410, 411, 124, 125, 126, 100, 412, 413, 414, 442, 443, 444, 445, 446, 447, 448, 449, 450, 451, 452] (by decide +kernel) (by decide +kernel)
set_option maxRecDepth 20000 in
theorem gL_law_X0_symmetries : GoodIn wsL_law (wsV RL 122 RX0 yX0_symmetries wsX0_symmetries) := goodIn_app (goodIn_of _ (by decide +kernel)) ggL_law_X0_symmetries
set_option maxRecDepth 20000 in
theorem ggL_law_X1_symmetries : GoodIn wsL_law wsX1_symmetries := goodIn_r _ [441, 20, 419, 420, 421, 5, 422, 423, 424, 425, 426, 32, 427, 428, 429, 430, 431, 432, 433, 162, 163, 164, 165, 54, 453, 454, 455, 456, 457, 458, 459, 460, 461, 462, 463, 464, 465, 466, 467, 468, 469] (by decide +kernel) (by decide +kernel)
set_option maxRecDepth 20000 in
theorem gL_law_X1_symmetries : GoodIn wsL_law (wsV RL 125 RX1 yX1_symmetries wsX1_symmetries) := goodIn_app (goodIn_of _ (by decide +kernel)) ggL_law_X1_symmetries
theorem dL_law_0 : decode cL_law 0 = .ok (.new 8, 3) := by decide +kernel
theorem dL_law_3 : decode cL_law 3 = .ok (.dup, 1) := by decide +kernel
theorem dL_law_4 : decode cL_law 4 = .ok (.invokespecial 48, 3) := by decide +kernel
theorem dL_law_7 : decode cL_law 7 = .ok (.astore_n 1, 1) := by decide +kernel
theorem dL_law_8 : decode cL_law 8 = .ok (.new 49, 3) := by decide +kernel
theorem dL_law_11 : decode cL_law 11 = .ok (.dup, 1) := by decide +kernel
theorem dL_law_12 : decode cL_law 12 = .ok (.invokespecial 51, 3) := by decide +kernel
theorem dL_law_15 : decode cL_law 15 = .ok (.astore_n 2, 1) := by decide +kernel
theorem dL_law_16 : decode cL_law 16 = .ok (.iconst 1, 1) := by decide +kernel
theorem dL_law_17 : decode cL_law 17 = .ok (.newarray .long, 2) := by decide +kernel
theorem dL_law_19 : decode cL_law 19 = .ok (.astore_n 3, 1) := by decide +kernel
theorem dL_law_20 : decode cL_law 20 = .ok (.iconst 0, 1) := by decide +kernel
theorem dL_law_21 : decode cL_law 21 = .ok (.istore 4, 2) := by decide +kernel
theorem dL_law_23 : decode cL_law 23 = .ok (.iload 4, 2) := by decide +kernel
theorem dL_law_25 : decode cL_law 25 = .ok (.aload_n 0, 1) := by decide +kernel
theorem dL_law_26 : decode cL_law 26 = .ok (.arraylength, 1) := by decide +kernel
theorem dL_law_27 : decode cL_law 27 = .ok (.iconst 2, 1) := by decide +kernel
theorem dL_law_28 : decode cL_law 28 = .ok (.isub, 1) := by decide +kernel
theorem dL_law_29 : decode cL_law 29 = .ok (.if_icmp .gt 793, 3) := by decide +kernel
theorem dL_law_32 : decode cL_law 32 = .ok (.aload_n 0, 1) := by decide +kernel
theorem dL_law_33 : decode cL_law 33 = .ok (.iload 4, 2) := by decide +kernel
theorem dL_law_35 : decode cL_law 35 = .ok (.iaload, 1) := by decide +kernel
theorem dL_law_36 : decode cL_law 36 = .ok (.bipush 31, 2) := by decide +kernel
theorem dL_law_38 : decode cL_law 38 = .ok (.iand, 1) := by decide +kernel
theorem dL_law_39 : decode cL_law 39 = .ok (.tableswitch 777 0 18 #[89, 130, 186, 242, 255, 268, 281, 337, 350, 363, 376, 432, 488, 544, 588, 644, 700, 713, 764], 89) := by decide +kernel
theorem dL_law_128 : decode cL_law 128 = .ok (.aload_n 1, 1) := by decide +kernel
theorem dL_law_129 : decode cL_law 129 = .ok (.aload_n 0, 1) := by decide +kernel
theorem dL_law_130 : decode cL_law 130 = .ok (.iload 4, 2) := by decide +kernel
theorem dL_law_132 : decode cL_law 132 = .ok (.iconst 1, 1) := by decide +kernel
theorem dL_law_133 : decode cL_law 133 = .ok (.iadd, 1) := by decide +kernel
theorem dL_law_134 : decode cL_law 134 = .ok (.iaload, 1) := by decide +kernel
theorem dL_law_135 : decode cL_law 135 = .ok (.ifCond .eq 7, 3) := by decide +kernel
theorem dL_law_138 : decode cL_law 138 = .ok (.iconst 1, 1) := by decide +kernel
theorem dL_law_139 : decode cL_law 139 = .ok (.goto 4, 3) := by decide +kernel
theorem dL_law_142 : decode cL_law 142 = .ok (.iconst 0, 1) := by decide +kernel
theorem dL_law_143 : decode cL_law 143 = .ok (.invokevirtual 52, 3) := by decide +kernel
theorem dL_law_146 : decode cL_law 146 = .ok (.aload_n 2, 1) := by decide +kernel
theorem dL_law_147 : decode cL_law 147 = .ok (.aload_n 0, 1) := by decide +kernel
theorem dL_law_148 : decode cL_law 148 = .ok (.iload 4, 2) := by decide +kernel
theorem dL_law_150 : decode cL_law 150 = .ok (.iconst 1, 1) := by decide +kernel
theorem dL_law_151 : decode cL_law 151 = .ok (.iadd, 1) := by decide +kernel
theorem dL_law_152 : decode cL_law 152 = .ok (.iaload, 1) := by decide +kernel
theorem dL_law_153 : decode cL_law 153 = .ok (.ifCond .eq 7, 3) := by decide +kernel
theorem dL_law_156 : decode cL_law 156 = .ok (.iconst 1, 1) := by decide +kernel
theorem dL_law_157 : decode cL_law 157 = .ok (.goto 4, 3) := by decide +kernel
theorem dL_law_160 : decode cL_law 160 = .ok (.iconst 0, 1) := by decide +kernel
theorem dL_law_161 : decode cL_law 161 = .ok (.invokevirtual 56, 3) := by decide +kernel
theorem dL_law_164 : decode cL_law 164 = .ok (.if_icmp .eq 652, 3) := by decide +kernel
theorem dL_law_167 : decode cL_law 167 = .ok (.iconst 0, 1) := by decide +kernel
theorem dL_law_168 : decode cL_law 168 = .ok (.ireturn, 1) := by decide +kernel
theorem dL_law_169 : decode cL_law 169 = .ok (.aload_n 1, 1) := by decide +kernel
theorem dL_law_170 : decode cL_law 170 = .ok (.aload_n 0, 1) := by decide +kernel
theorem dL_law_171 : decode cL_law 171 = .ok (.iload 4, 2) := by decide +kernel
theorem dL_law_173 : decode cL_law 173 = .ok (.iconst 1, 1) := by decide +kernel
theorem dL_law_174 : decode cL_law 174 = .ok (.iadd, 1) := by decide +kernel
theorem dL_law_175 : decode cL_law 175 = .ok (.iaload, 1) := by decide +kernel
theorem dL_law_176 : decode cL_law 176 = .ok (.aload_n 3, 1) := by decide +kernel
theorem dL_law_177 : decode cL_law 177 = .ok (.invokestatic 57, 3) := by decide +kernel
theorem dL_law_180 : decode cL_law 180 = .ok (.istore 5, 2) := by decide +kernel
theorem dL_law_182 : decode cL_law 182 = .ok (.aload_n 2, 1) := by decide +kernel
theorem dL_law_183 : decode cL_law 183 = .ok (.aload_n 0, 1) := by decide +kernel
theorem dL_law_184 : decode cL_law 184 = .ok (.iload 4, 2) := by decide +kernel
theorem dL_law_186 : decode cL_law 186 = .ok (.iconst 1, 1) := by decide +kernel
theorem dL_law_187 : decode cL_law 187 = .ok (.iadd, 1) := by decide +kernel
theorem dL_law_188 : decode cL_law 188 = .ok (.iaload, 1) := by decide +kernel
theorem dL_law_189 : decode cL_law 189 = .ok (.invokevirtual 62, 3) := by decide +kernel
theorem dL_law_192 : decode cL_law 192 = .ok (.istore 6, 2) := by decide +kernel
theorem dL_law_194 : decode cL_law 194 = .ok (.aload_n 2, 1) := by decide +kernel
theorem dL_law_195 : decode cL_law 195 = .ok (.invokevirtual 63, 3) := by decide +kernel
theorem dL_law_198 : decode cL_law 198 = .ok (.iload 5, 2) := by decide +kernel
theorem dL_law_200 : decode cL_law 200 = .ok (.if_icmp .eq 5, 3) := by decide +kernel
theorem dL_law_203 : decode cL_law 203 = .ok (.iconst 0, 1) := by decide +kernel
theorem dL_law_204 : decode cL_law 204 = .ok (.ireturn, 1) := by decide +kernel
theorem dL_law_205 : decode cL_law 205 = .ok (.iload 5, 2) := by decide +kernel
theorem dL_law_207 : decode cL_law 207 = .ok (.ifCond .ne 15, 3) := by decide +kernel
theorem dL_law_210 : decode cL_law 210 = .ok (.aload_n 3, 1) := by decide +kernel
theorem dL_law_211 : decode cL_law 211 = .ok (.iconst 0, 1) := by decide +kernel
theorem dL_law_212 : decode cL_law 212 = .ok (.laload, 1) := by decide +kernel
theorem dL_law_213 : decode cL_law 213 = .ok (.iload 6, 2) := by decide +kernel
theorem dL_law_215 : decode cL_law 215 = .ok (.i2l, 1) := by decide +kernel
theorem dL_law_216 : decode cL_law 216 = .ok (.lcmp, 1) := by decide +kernel
theorem dL_law_217 : decode cL_law 217 = .ok (.ifCond .eq 5, 3) := by decide +kernel
theorem dL_law_220 : decode cL_law 220 = .ok (.iconst 0, 1) := by decide +kernel
theorem dL_law_221 : decode cL_law 221 = .ok (.ireturn, 1) := by decide +kernel
theorem dL_law_222 : decode cL_law 222 = .ok (.goto 594, 3) := by decide +kernel
theorem dL_law_225 : decode cL_law 225 = .ok (.aload_n 1, 1) := by decide +kernel
theorem dL_law_226 : decode cL_law 226 = .ok (.aload_n 0, 1) := by decide +kernel
theorem dL_law_227 : decode cL_law 227 = .ok (.iload 4, 2) := by decide +kernel
theorem dL_law_229 : decode cL_law 229 = .ok (.iconst 1, 1) := by decide +kernel
theorem dL_law_230 : decode cL_law 230 = .ok (.iadd, 1) := by decide +kernel
theorem dL_law_231 : decode cL_law 231 = .ok (.iaload, 1) := by decide +kernel
theorem dL_law_232 : decode cL_law 232 = .ok (.aload_n 3, 1) := by decide +kernel
theorem dL_law_233 : decode cL_law 233 = .ok (.invokestatic 66, 3) := by decide +kernel
theorem dL_law_236 : decode cL_law 236 = .ok (.istore 5, 2) := by decide +kernel
theorem dL_law_238 : decode cL_law 238 = .ok (.aload_n 2, 1) := by decide +kernel
theorem dL_law_239 : decode cL_law 239 = .ok (.aload_n 0, 1) := by decide +kernel
theorem dL_law_240 : decode cL_law 240 = .ok (.iload 4, 2) := by decide +kernel
theorem dL_law_242 : decode cL_law 242 = .ok (.iconst 1, 1) := by decide +kernel
theorem dL_law_243 : decode cL_law 243 = .ok (.iadd, 1) := by decide +kernel
theorem dL_law_244 : decode cL_law 244 = .ok (.iaload, 1) := by decide +kernel
theorem dL_law_245 : decode cL_law 245 = .ok (.invokevirtual 68, 3) := by decide +kernel
theorem dL_law_248 : decode cL_law 248 = .ok (.istore 6, 2) := by decide +kernel
theorem dL_law_250 : decode cL_law 250 = .ok (.aload_n 2, 1) := by decide +kernel
theorem dL_law_251 : decode cL_law 251 = .ok (.invokevirtual 63, 3) := by decide +kernel
theorem dL_law_254 : decode cL_law 254 = .ok (.iload 5, 2) := by decide +kernel
theorem dL_law_256 : decode cL_law 256 = .ok (.if_icmp .eq 5, 3) := by decide +kernel
theorem dL_law_259 : decode cL_law 259 = .ok (.iconst 0, 1) := by decide +kernel
theorem dL_law_260 : decode cL_law 260 = .ok (.ireturn, 1) := by decide +kernel
theorem dL_law_261 : decode cL_law 261 = .ok (.iload 5, 2) := by decide +kernel
theorem dL_law_263 : decode cL_law 263 = .ok (.ifCond .ne 15, 3) := by decide +kernel
theorem dL_law_266 : decode cL_law 266 = .ok (.aload_n 3, 1) := by decide +kernel
theorem dL_law_267 : decode cL_law 267 = .ok (.iconst 0, 1) := by decide +kernel
theorem dL_law_268 : decode cL_law 268 = .ok (.laload, 1) := by decide +kernel
theorem dL_law_269 : decode cL_law 269 = .ok (.iload 6, 2) := by decide +kernel
theorem dL_law_271 : decode cL_law 271 = .ok (.i2l, 1) := by decide +kernel
theorem dL_law_272 : decode cL_law 272 = .ok (.lcmp, 1) := by decide +kernel
theorem dL_law_273 : decode cL_law 273 = .ok (.ifCond .eq 5, 3) := by decide +kernel
theorem dL_law_276 : decode cL_law 276 = .ok (.iconst 0, 1) := by decide +kernel
theorem dL_law_277 : decode cL_law 277 = .ok (.ireturn, 1) := by decide +kernel
theorem dL_law_278 : decode cL_law 278 = .ok (.goto 538, 3) := by decide +kernel
theorem dL_law_281 : decode cL_law 281 = .ok (.aload_n 1, 1) := by decide +kernel
theorem dL_law_282 : decode cL_law 282 = .ok (.invokevirtual 69, 3) := by decide +kernel
theorem dL_law_285 : decode cL_law 285 = .ok (.aload_n 2, 1) := by decide +kernel
theorem dL_law_286 : decode cL_law 286 = .ok (.invokevirtual 72, 3) := by decide +kernel
theorem dL_law_289 : decode cL_law 289 = .ok (.if_icmp .eq 527, 3) := by decide +kernel
theorem dL_law_292 : decode cL_law 292 = .ok (.iconst 0, 1) := by decide +kernel
theorem dL_law_293 : decode cL_law 293 = .ok (.ireturn, 1) := by decide +kernel
theorem dL_law_294 : decode cL_law 294 = .ok (.aload_n 1, 1) := by decide +kernel
theorem dL_law_295 : decode cL_law 295 = .ok (.invokevirtual 73, 3) := by decide +kernel
theorem dL_law_298 : decode cL_law 298 = .ok (.aload_n 2, 1) := by decide +kernel
theorem dL_law_299 : decode cL_law 299 = .ok (.invokevirtual 76, 3) := by decide +kernel
theorem dL_law_302 : decode cL_law 302 = .ok (.if_icmp .eq 514, 3) := by decide +kernel
theorem dL_law_305 : decode cL_law 305 = .ok (.iconst 0, 1) := by decide +kernel
theorem dL_law_306 : decode cL_law 306 = .ok (.ireturn, 1) := by decide +kernel
theorem dL_law_307 : decode cL_law 307 = .ok (.aload_n 1, 1) := by decide +kernel
theorem dL_law_308 : decode cL_law 308 = .ok (.invokevirtual 77, 3) := by decide +kernel
theorem dL_law_311 : decode cL_law 311 = .ok (.aload_n 2, 1) := by decide +kernel
theorem dL_law_312 : decode cL_law 312 = .ok (.invokevirtual 80, 3) := by decide +kernel
theorem dL_law_315 : decode cL_law 315 = .ok (.if_icmp .eq 501, 3) := by decide +kernel
theorem dL_law_318 : decode cL_law 318 = .ok (.iconst 0, 1) := by decide +kernel
theorem dL_law_319 : decode cL_law 319 = .ok (.ireturn, 1) := by decide +kernel
theorem dL_law_320 : decode cL_law 320 = .ok (.aload_n 1, 1) := by decide +kernel
theorem dL_law_321 : decode cL_law 321 = .ok (.aload_n 0, 1) := by decide +kernel
theorem dL_law_322 : decode cL_law 322 = .ok (.iload 4, 2) := by decide +kernel
theorem dL_law_324 : decode cL_law 324 = .ok (.iconst 1, 1) := by decide +kernel
theorem dL_law_325 : decode cL_law 325 = .ok (.iadd, 1) := by decide +kernel
theorem dL_law_326 : decode cL_law 326 = .ok (.iaload, 1) := by decide +kernel
theorem dL_law_327 : decode cL_law 327 = .ok (.aload_n 3, 1) := by decide +kernel
theorem dL_law_328 : decode cL_law 328 = .ok (.invokestatic 81, 3) := by decide +kernel
theorem dL_law_331 : decode cL_law 331 = .ok (.istore 5, 2) := by decide +kernel
theorem dL_law_333 : decode cL_law 333 = .ok (.aload_n 2, 1) := by decide +kernel
theorem dL_law_334 : decode cL_law 334 = .ok (.aload_n 0, 1) := by decide +kernel
theorem dL_law_335 : decode cL_law 335 = .ok (.iload 4, 2) := by decide +kernel
theorem dL_law_337 : decode cL_law 337 = .ok (.iconst 1, 1) := by decide +kernel
theorem dL_law_338 : decode cL_law 338 = .ok (.iadd, 1) := by decide +kernel
theorem dL_law_339 : decode cL_law 339 = .ok (.iaload, 1) := by decide +kernel
theorem dL_law_340 : decode cL_law 340 = .ok (.invokevirtual 83, 3) := by decide +kernel
theorem dL_law_343 : decode cL_law 343 = .ok (.istore 6, 2) := by decide +kernel
theorem dL_law_345 : decode cL_law 345 = .ok (.aload_n 2, 1) := by decide +kernel
theorem dL_law_346 : decode cL_law 346 = .ok (.invokevirtual 63, 3) := by decide +kernel
theorem dL_law_349 : decode cL_law 349 = .ok (.iload 5, 2) := by decide +kernel
theorem dL_law_351 : decode cL_law 351 = .ok (.if_icmp .eq 5, 3) := by decide +kernel
theorem dL_law_354 : decode cL_law 354 = .ok (.iconst 0, 1) := by decide +kernel
theorem dL_law_355 : decode cL_law 355 = .ok (.ireturn, 1) := by decide +kernel
theorem dL_law_356 : decode cL_law 356 = .ok (.iload 5, 2) := by decide +kernel
theorem dL_law_358 : decode cL_law 358 = .ok (.ifCond .ne 15, 3) := by decide +kernel
theorem dL_law_361 : decode cL_law 361 = .ok (.aload_n 3, 1) := by decide +kernel
theorem dL_law_362 : decode cL_law 362 = .ok (.iconst 0, 1) := by decide +kernel
theorem dL_law_363 : decode cL_law 363 = .ok (.laload, 1) := by decide +kernel
theorem dL_law_364 : decode cL_law 364 = .ok (.iload 6, 2) := by decide +kernel
theorem dL_law_366 : decode cL_law 366 = .ok (.i2l, 1) := by decide +kernel
theorem dL_law_367 : decode cL_law 367 = .ok (.lcmp, 1) := by decide +kernel
theorem dL_law_368 : decode cL_law 368 = .ok (.ifCond .eq 5, 3) := by decide +kernel
theorem dL_law_371 : decode cL_law 371 = .ok (.iconst 0, 1) := by decide +kernel
theorem dL_law_372 : decode cL_law 372 = .ok (.ireturn, 1) := by decide +kernel
theorem dL_law_373 : decode cL_law 373 = .ok (.goto 443, 3) := by decide +kernel
theorem dL_law_376 : decode cL_law 376 = .ok (.aload_n 1, 1) := by decide +kernel
theorem dL_law_377 : decode cL_law 377 = .ok (.invokevirtual 84, 3) := by decide +kernel
theorem dL_law_380 : decode cL_law 380 = .ok (.aload_n 2, 1) := by decide +kernel
theorem dL_law_381 : decode cL_law 381 = .ok (.invokevirtual 87, 3) := by decide +kernel
theorem dL_law_384 : decode cL_law 384 = .ok (.if_icmp .eq 432, 3) := by decide +kernel
theorem dL_law_387 : decode cL_law 387 = .ok (.iconst 0, 1) := by decide +kernel
theorem dL_law_388 : decode cL_law 388 = .ok (.ireturn, 1) := by decide +kernel
theorem dL_law_389 : decode cL_law 389 = .ok (.aload_n 1, 1) := by decide +kernel
theorem dL_law_390 : decode cL_law 390 = .ok (.invokevirtual 88, 3) := by decide +kernel
theorem dL_law_393 : decode cL_law 393 = .ok (.aload_n 2, 1) := by decide +kernel
theorem dL_law_394 : decode cL_law 394 = .ok (.invokevirtual 91, 3) := by decide +kernel
theorem dL_law_397 : decode cL_law 397 = .ok (.if_icmp .eq 419, 3) := by decide +kernel
theorem dL_law_400 : decode cL_law 400 = .ok (.iconst 0, 1) := by decide +kernel
theorem dL_law_401 : decode cL_law 401 = .ok (.ireturn, 1) := by decide +kernel
theorem dL_law_402 : decode cL_law 402 = .ok (.aload_n 1, 1) := by decide +kernel
theorem dL_law_403 : decode cL_law 403 = .ok (.invokevirtual 92, 3) := by decide +kernel
theorem dL_law_406 : decode cL_law 406 = .ok (.aload_n 2, 1) := by decide +kernel
theorem dL_law_407 : decode cL_law 407 = .ok (.invokevirtual 95, 3) := by decide +kernel
theorem dL_law_410 : decode cL_law 410 = .ok (.if_icmp .eq 406, 3) := by decide +kernel
theorem dL_law_413 : decode cL_law 413 = .ok (.iconst 0, 1) := by decide +kernel
theorem dL_law_414 : decode cL_law 414 = .ok (.ireturn, 1) := by decide +kernel
theorem dL_law_415 : decode cL_law 415 = .ok (.aload_n 1, 1) := by decide +kernel
theorem dL_law_416 : decode cL_law 416 = .ok (.aload_n 0, 1) := by decide +kernel
theorem dL_law_417 : decode cL_law 417 = .ok (.iload 4, 2) := by decide +kernel
theorem dL_law_419 : decode cL_law 419 = .ok (.iconst 1, 1) := by decide +kernel
theorem dL_law_420 : decode cL_law 420 = .ok (.iadd, 1) := by decide +kernel
theorem dL_law_421 : decode cL_law 421 = .ok (.iaload, 1) := by decide +kernel
theorem dL_law_422 : decode cL_law 422 = .ok (.aload_n 3, 1) := by decide +kernel
theorem dL_law_423 : decode cL_law 423 = .ok (.invokestatic 96, 3) := by decide +kernel
theorem dL_law_426 : decode cL_law 426 = .ok (.istore 5, 2) := by decide +kernel
theorem dL_law_428 : decode cL_law 428 = .ok (.aload_n 2, 1) := by decide +kernel
theorem dL_law_429 : decode cL_law 429 = .ok (.aload_n 0, 1) := by decide +kernel
theorem dL_law_430 : decode cL_law 430 = .ok (.iload 4, 2) := by decide +kernel
theorem dL_law_432 : decode cL_law 432 = .ok (.iconst 1, 1) := by decide +kernel
theorem dL_law_433 : decode cL_law 433 = .ok (.iadd, 1) := by decide +kernel
theorem dL_law_434 : decode cL_law 434 = .ok (.iaload, 1) := by decide +kernel
theorem dL_law_435 : decode cL_law 435 = .ok (.invokevirtual 98, 3) := by decide +kernel
theorem dL_law_438 : decode cL_law 438 = .ok (.istore 6, 2) := by decide +kernel
theorem dL_law_440 : decode cL_law 440 = .ok (.aload_n 2, 1) := by decide +kernel
theorem dL_law_441 : decode cL_law 441 = .ok (.invokevirtual 63, 3) := by decide +kernel
theorem dL_law_444 : decode cL_law 444 = .ok (.iload 5, 2) := by decide +kernel
theorem dL_law_446 : decode cL_law 446 = .ok (.if_icmp .eq 5, 3) := by decide +kernel
theorem dL_law_449 : decode cL_law 449 = .ok (.iconst 0, 1) := by decide +kernel
theorem dL_law_450 : decode cL_law 450 = .ok (.ireturn, 1) := by decide +kernel
theorem dL_law_451 : decode cL_law 451 = .ok (.iload 5, 2) := by decide +kernel
theorem dL_law_453 : decode cL_law 453 = .ok (.ifCond .ne 15, 3) := by decide +kernel
theorem dL_law_456 : decode cL_law 456 = .ok (.aload_n 3, 1) := by decide +kernel
theorem dL_law_457 : decode cL_law 457 = .ok (.iconst 0, 1) := by decide +kernel
theorem dL_law_458 : decode cL_law 458 = .ok (.laload, 1) := by decide +kernel
theorem dL_law_459 : decode cL_law 459 = .ok (.iload 6, 2) := by decide +kernel
theorem dL_law_461 : decode cL_law 461 = .ok (.i2l, 1) := by decide +kernel
theorem dL_law_462 : decode cL_law 462 = .ok (.lcmp, 1) := by decide +kernel
theorem dL_law_463 : decode cL_law 463 = .ok (.ifCond .eq 5, 3) := by decide +kernel
theorem dL_law_466 : decode cL_law 466 = .ok (.iconst 0, 1) := by decide +kernel
theorem dL_law_467 : decode cL_law 467 = .ok (.ireturn, 1) := by decide +kernel
theorem dL_law_468 : decode cL_law 468 = .ok (.goto 348, 3) := by decide +kernel
theorem dL_law_471 : decode cL_law 471 = .ok (.aload_n 1, 1) := by decide +kernel
theorem dL_law_472 : decode cL_law 472 = .ok (.aload_n 0, 1) := by decide +kernel
theorem dL_law_473 : decode cL_law 473 = .ok (.iload 4, 2) := by decide +kernel
theorem dL_law_475 : decode cL_law 475 = .ok (.iconst 1, 1) := by decide +kernel
theorem dL_law_476 : decode cL_law 476 = .ok (.iadd, 1) := by decide +kernel
theorem dL_law_477 : decode cL_law 477 = .ok (.iaload, 1) := by decide +kernel
theorem dL_law_478 : decode cL_law 478 = .ok (.aload_n 3, 1) := by decide +kernel
theorem dL_law_479 : decode cL_law 479 = .ok (.invokestatic 99, 3) := by decide +kernel
theorem dL_law_482 : decode cL_law 482 = .ok (.istore 5, 2) := by decide +kernel
theorem dL_law_484 : decode cL_law 484 = .ok (.aload_n 2, 1) := by decide +kernel
theorem dL_law_485 : decode cL_law 485 = .ok (.aload_n 0, 1) := by decide +kernel
theorem dL_law_486 : decode cL_law 486 = .ok (.iload 4, 2) := by decide +kernel
theorem dL_law_488 : decode cL_law 488 = .ok (.iconst 1, 1) := by decide +kernel
theorem dL_law_489 : decode cL_law 489 = .ok (.iadd, 1) := by decide +kernel
theorem dL_law_490 : decode cL_law 490 = .ok (.iaload, 1) := by decide +kernel
theorem dL_law_491 : decode cL_law 491 = .ok (.invokevirtual 101, 3) := by decide +kernel
theorem dL_law_494 : decode cL_law 494 = .ok (.istore 6, 2) := by decide +kernel
theorem dL_law_496 : decode cL_law 496 = .ok (.aload_n 2, 1) := by decide +kernel
theorem dL_law_497 : decode cL_law 497 = .ok (.invokevirtual 63, 3) := by decide +kernel
theorem dL_law_500 : decode cL_law 500 = .ok (.iload 5, 2) := by decide +kernel
theorem dL_law_502 : decode cL_law 502 = .ok (.if_icmp .eq 5, 3) := by decide +kernel
theorem dL_law_505 : decode cL_law 505 = .ok (.iconst 0, 1) := by decide +kernel
theorem dL_law_506 : decode cL_law 506 = .ok (.ireturn, 1) := by decide +kernel
theorem dL_law_507 : decode cL_law 507 = .ok (.iload 5, 2) := by decide +kernel
theorem dL_law_509 : decode cL_law 509 = .ok (.ifCond .ne 15, 3) := by decide +kernel
theorem dL_law_512 : decode cL_law 512 = .ok (.aload_n 3, 1) := by decide +kernel
theorem dL_law_513 : decode cL_law 513 = .ok (.iconst 0, 1) := by decide +kernel
theorem dL_law_514 : decode cL_law 514 = .ok (.laload, 1) := by decide +kernel
theorem dL_law_515 : decode cL_law 515 = .ok (.iload 6, 2) := by decide +kernel
theorem dL_law_517 : decode cL_law 517 = .ok (.i2l, 1) := by decide +kernel
theorem dL_law_518 : decode cL_law 518 = .ok (.lcmp, 1) := by decide +kernel
theorem dL_law_519 : decode cL_law 519 = .ok (.ifCond .eq 5, 3) := by decide +kernel
theorem dL_law_522 : decode cL_law 522 = .ok (.iconst 0, 1) := by decide +kernel
theorem dL_law_523 : decode cL_law 523 = .ok (.ireturn, 1) := by decide +kernel
theorem dL_law_524 : decode cL_law 524 = .ok (.goto 292, 3) := by decide +kernel
theorem dL_law_527 : decode cL_law 527 = .ok (.aload_n 1, 1) := by decide +kernel
theorem dL_law_528 : decode cL_law 528 = .ok (.aload_n 0, 1) := by decide +kernel
theorem dL_law_529 : decode cL_law 529 = .ok (.iload 4, 2) := by decide +kernel
theorem dL_law_531 : decode cL_law 531 = .ok (.iconst 1, 1) := by decide +kernel
theorem dL_law_532 : decode cL_law 532 = .ok (.iadd, 1) := by decide +kernel
theorem dL_law_533 : decode cL_law 533 = .ok (.iaload, 1) := by decide +kernel
theorem dL_law_534 : decode cL_law 534 = .ok (.aload_n 3, 1) := by decide +kernel
theorem dL_law_535 : decode cL_law 535 = .ok (.invokestatic 102, 3) := by decide +kernel
theorem dL_law_538 : decode cL_law 538 = .ok (.istore 5, 2) := by decide +kernel
theorem dL_law_540 : decode cL_law 540 = .ok (.aload_n 2, 1) := by decide +kernel
theorem dL_law_541 : decode cL_law 541 = .ok (.aload_n 0, 1) := by decide +kernel
theorem dL_law_542 : decode cL_law 542 = .ok (.iload 4, 2) := by decide +kernel
theorem dL_law_544 : decode cL_law 544 = .ok (.iconst 1, 1) := by decide +kernel
theorem dL_law_545 : decode cL_law 545 = .ok (.iadd, 1) := by decide +kernel
theorem dL_law_546 : decode cL_law 546 = .ok (.iaload, 1) := by decide +kernel
theorem dL_law_547 : decode cL_law 547 = .ok (.invokevirtual 104, 3) := by decide +kernel
theorem dL_law_550 : decode cL_law 550 = .ok (.istore 6, 2) := by decide +kernel
theorem dL_law_552 : decode cL_law 552 = .ok (.aload_n 2, 1) := by decide +kernel
theorem dL_law_553 : decode cL_law 553 = .ok (.invokevirtual 63, 3) := by decide +kernel
theorem dL_law_556 : decode cL_law 556 = .ok (.iload 5, 2) := by decide +kernel
theorem dL_law_558 : decode cL_law 558 = .ok (.if_icmp .eq 5, 3) := by decide +kernel
theorem dL_law_561 : decode cL_law 561 = .ok (.iconst 0, 1) := by decide +kernel
theorem dL_law_562 : decode cL_law 562 = .ok (.ireturn, 1) := by decide +kernel
theorem dL_law_563 : decode cL_law 563 = .ok (.iload 5, 2) := by decide +kernel
theorem dL_law_565 : decode cL_law 565 = .ok (.ifCond .ne 15, 3) := by decide +kernel
theorem dL_law_568 : decode cL_law 568 = .ok (.aload_n 3, 1) := by decide +kernel
theorem dL_law_569 : decode cL_law 569 = .ok (.iconst 0, 1) := by decide +kernel
theorem dL_law_570 : decode cL_law 570 = .ok (.laload, 1) := by decide +kernel
theorem dL_law_571 : decode cL_law 571 = .ok (.iload 6, 2) := by decide +kernel
theorem dL_law_573 : decode cL_law 573 = .ok (.i2l, 1) := by decide +kernel
theorem dL_law_574 : decode cL_law 574 = .ok (.lcmp, 1) := by decide +kernel
theorem dL_law_575 : decode cL_law 575 = .ok (.ifCond .eq 5, 3) := by decide +kernel
theorem dL_law_578 : decode cL_law 578 = .ok (.iconst 0, 1) := by decide +kernel
theorem dL_law_579 : decode cL_law 579 = .ok (.ireturn, 1) := by decide +kernel
theorem dL_law_580 : decode cL_law 580 = .ok (.goto 236, 3) := by decide +kernel
theorem dL_law_583 : decode cL_law 583 = .ok (.aload_n 1, 1) := by decide +kernel
theorem dL_law_584 : decode cL_law 584 = .ok (.aload_n 3, 1) := by decide +kernel
theorem dL_law_585 : decode cL_law 585 = .ok (.invokestatic 105, 3) := by decide +kernel
theorem dL_law_588 : decode cL_law 588 = .ok (.istore 5, 2) := by decide +kernel
theorem dL_law_590 : decode cL_law 590 = .ok (.aload_n 2, 1) := by decide +kernel
theorem dL_law_591 : decode cL_law 591 = .ok (.invokevirtual 108, 3) := by decide +kernel
theorem dL_law_594 : decode cL_law 594 = .ok (.istore 6, 2) := by decide +kernel
theorem dL_law_596 : decode cL_law 596 = .ok (.aload_n 2, 1) := by decide +kernel
theorem dL_law_597 : decode cL_law 597 = .ok (.invokevirtual 63, 3) := by decide +kernel
theorem dL_law_600 : decode cL_law 600 = .ok (.iload 5, 2) := by decide +kernel
theorem dL_law_602 : decode cL_law 602 = .ok (.if_icmp .eq 5, 3) := by decide +kernel
theorem dL_law_605 : decode cL_law 605 = .ok (.iconst 0, 1) := by decide +kernel
theorem dL_law_606 : decode cL_law 606 = .ok (.ireturn, 1) := by decide +kernel
theorem dL_law_607 : decode cL_law 607 = .ok (.iload 5, 2) := by decide +kernel
theorem dL_law_609 : decode cL_law 609 = .ok (.ifCond .ne 15, 3) := by decide +kernel
theorem dL_law_612 : decode cL_law 612 = .ok (.aload_n 3, 1) := by decide +kernel
theorem dL_law_613 : decode cL_law 613 = .ok (.iconst 0, 1) := by decide +kernel
theorem dL_law_614 : decode cL_law 614 = .ok (.laload, 1) := by decide +kernel
theorem dL_law_615 : decode cL_law 615 = .ok (.iload 6, 2) := by decide +kernel
theorem dL_law_617 : decode cL_law 617 = .ok (.i2l, 1) := by decide +kernel
theorem dL_law_618 : decode cL_law 618 = .ok (.lcmp, 1) := by decide +kernel
theorem dL_law_619 : decode cL_law 619 = .ok (.ifCond .eq 5, 3) := by decide +kernel
theorem dL_law_622 : decode cL_law 622 = .ok (.iconst 0, 1) := by decide +kernel
theorem dL_law_623 : decode cL_law 623 = .ok (.ireturn, 1) := by decide +kernel
theorem dL_law_624 : decode cL_law 624 = .ok (.goto 192, 3) := by decide +kernel
theorem dL_law_627 : decode cL_law 627 = .ok (.aload_n 1, 1) := by decide +kernel
theorem dL_law_628 : decode cL_law 628 = .ok (.aload_n 0, 1) := by decide +kernel
theorem dL_law_629 : decode cL_law 629 = .ok (.iload 4, 2) := by decide +kernel
theorem dL_law_631 : decode cL_law 631 = .ok (.iconst 1, 1) := by decide +kernel
theorem dL_law_632 : decode cL_law 632 = .ok (.iadd, 1) := by decide +kernel
theorem dL_law_633 : decode cL_law 633 = .ok (.iaload, 1) := by decide +kernel
theorem dL_law_634 : decode cL_law 634 = .ok (.aload_n 3, 1) := by decide +kernel
theorem dL_law_635 : decode cL_law 635 = .ok (.invokestatic 109, 3) := by decide +kernel
theorem dL_law_638 : decode cL_law 638 = .ok (.istore 5, 2) := by decide +kernel
theorem dL_law_640 : decode cL_law 640 = .ok (.aload_n 2, 1) := by decide +kernel
theorem dL_law_641 : decode cL_law 641 = .ok (.aload_n 0, 1) := by decide +kernel
theorem dL_law_642 : decode cL_law 642 = .ok (.iload 4, 2) := by decide +kernel
theorem dL_law_644 : decode cL_law 644 = .ok (.iconst 1, 1) := by decide +kernel
theorem dL_law_645 : decode cL_law 645 = .ok (.iadd, 1) := by decide +kernel
theorem dL_law_646 : decode cL_law 646 = .ok (.iaload, 1) := by decide +kernel
theorem dL_law_647 : decode cL_law 647 = .ok (.invokevirtual 111, 3) := by decide +kernel
theorem dL_law_650 : decode cL_law 650 = .ok (.istore 6, 2) := by decide +kernel
theorem dL_law_652 : decode cL_law 652 = .ok (.aload_n 2, 1) := by decide +kernel
theorem dL_law_653 : decode cL_law 653 = .ok (.invokevirtual 63, 3) := by decide +kernel
theorem dL_law_656 : decode cL_law 656 = .ok (.iload 5, 2) := by decide +kernel
theorem dL_law_658 : decode cL_law 658 = .ok (.if_icmp .eq 5, 3) := by decide +kernel
theorem dL_law_661 : decode cL_law 661 = .ok (.iconst 0, 1) := by decide +kernel
theorem dL_law_662 : decode cL_law 662 = .ok (.ireturn, 1) := by decide +kernel
theorem dL_law_663 : decode cL_law 663 = .ok (.iload 5, 2) := by decide +kernel
theorem dL_law_665 : decode cL_law 665 = .ok (.ifCond .ne 15, 3) := by decide +kernel
theorem dL_law_668 : decode cL_law 668 = .ok (.aload_n 3, 1) := by decide +kernel
theorem dL_law_669 : decode cL_law 669 = .ok (.iconst 0, 1) := by decide +kernel
theorem dL_law_670 : decode cL_law 670 = .ok (.laload, 1) := by decide +kernel
theorem dL_law_671 : decode cL_law 671 = .ok (.iload 6, 2) := by decide +kernel
theorem dL_law_673 : decode cL_law 673 = .ok (.i2l, 1) := by decide +kernel
theorem dL_law_674 : decode cL_law 674 = .ok (.lcmp, 1) := by decide +kernel
theorem dL_law_675 : decode cL_law 675 = .ok (.ifCond .eq 5, 3) := by decide +kernel
theorem dL_law_678 : decode cL_law 678 = .ok (.iconst 0, 1) := by decide +kernel
theorem dL_law_679 : decode cL_law 679 = .ok (.ireturn, 1) := by decide +kernel
theorem dL_law_680 : decode cL_law 680 = .ok (.goto 136, 3) := by decide +kernel
theorem dL_law_683 : decode cL_law 683 = .ok (.aload_n 1, 1) := by decide +kernel
theorem dL_law_684 : decode cL_law 684 = .ok (.aload_n 0, 1) := by decide +kernel
theorem dL_law_685 : decode cL_law 685 = .ok (.iload 4, 2) := by decide +kernel
theorem dL_law_687 : decode cL_law 687 = .ok (.iconst 1, 1) := by decide +kernel
theorem dL_law_688 : decode cL_law 688 = .ok (.iadd, 1) := by decide +kernel
theorem dL_law_689 : decode cL_law 689 = .ok (.iaload, 1) := by decide +kernel
theorem dL_law_690 : decode cL_law 690 = .ok (.aload_n 3, 1) := by decide +kernel
theorem dL_law_691 : decode cL_law 691 = .ok (.invokestatic 112, 3) := by decide +kernel
theorem dL_law_694 : decode cL_law 694 = .ok (.istore 5, 2) := by decide +kernel
theorem dL_law_696 : decode cL_law 696 = .ok (.aload_n 2, 1) := by decide +kernel
theorem dL_law_697 : decode cL_law 697 = .ok (.aload_n 0, 1) := by decide +kernel
theorem dL_law_698 : decode cL_law 698 = .ok (.iload 4, 2) := by decide +kernel
theorem dL_law_700 : decode cL_law 700 = .ok (.iconst 1, 1) := by decide +kernel
theorem dL_law_701 : decode cL_law 701 = .ok (.iadd, 1) := by decide +kernel
theorem dL_law_702 : decode cL_law 702 = .ok (.iaload, 1) := by decide +kernel
theorem dL_law_703 : decode cL_law 703 = .ok (.invokevirtual 114, 3) := by decide +kernel
theorem dL_law_706 : decode cL_law 706 = .ok (.istore 6, 2) := by decide +kernel
theorem dL_law_708 : decode cL_law 708 = .ok (.aload_n 2, 1) := by decide +kernel
theorem dL_law_709 : decode cL_law 709 = .ok (.invokevirtual 63, 3) := by decide +kernel
theorem dL_law_712 : decode cL_law 712 = .ok (.iload 5, 2) := by decide +kernel
theorem dL_law_714 : decode cL_law 714 = .ok (.if_icmp .eq 5, 3) := by decide +kernel
theorem dL_law_717 : decode cL_law 717 = .ok (.iconst 0, 1) := by decide +kernel
theorem dL_law_718 : decode cL_law 718 = .ok (.ireturn, 1) := by decide +kernel
theorem dL_law_719 : decode cL_law 719 = .ok (.iload 5, 2) := by decide +kernel
theorem dL_law_721 : decode cL_law 721 = .ok (.ifCond .ne 15, 3) := by decide +kernel
theorem dL_law_724 : decode cL_law 724 = .ok (.aload_n 3, 1) := by decide +kernel
theorem dL_law_725 : decode cL_law 725 = .ok (.iconst 0, 1) := by decide +kernel
theorem dL_law_726 : decode cL_law 726 = .ok (.laload, 1) := by decide +kernel
theorem dL_law_727 : decode cL_law 727 = .ok (.iload 6, 2) := by decide +kernel
theorem dL_law_729 : decode cL_law 729 = .ok (.i2l, 1) := by decide +kernel
theorem dL_law_730 : decode cL_law 730 = .ok (.lcmp, 1) := by decide +kernel
theorem dL_law_731 : decode cL_law 731 = .ok (.ifCond .eq 5, 3) := by decide +kernel
theorem dL_law_734 : decode cL_law 734 = .ok (.iconst 0, 1) := by decide +kernel
theorem dL_law_735 : decode cL_law 735 = .ok (.ireturn, 1) := by decide +kernel
theorem dL_law_736 : decode cL_law 736 = .ok (.goto 80, 3) := by decide +kernel
theorem dL_law_739 : decode cL_law 739 = .ok (.aload_n 1, 1) := by decide +kernel
theorem dL_law_740 : decode cL_law 740 = .ok (.invokevirtual 115, 3) := by decide +kernel
theorem dL_law_743 : decode cL_law 743 = .ok (.aload_n 2, 1) := by decide +kernel
theorem dL_law_744 : decode cL_law 744 = .ok (.invokevirtual 118, 3) := by decide +kernel
theorem dL_law_747 : decode cL_law 747 = .ok (.if_icmp .eq 69, 3) := by decide +kernel
theorem dL_law_750 : decode cL_law 750 = .ok (.iconst 0, 1) := by decide +kernel
theorem dL_law_751 : decode cL_law 751 = .ok (.ireturn, 1) := by decide +kernel
theorem dL_law_752 : decode cL_law 752 = .ok (.aload_n 1, 1) := by decide +kernel
theorem dL_law_753 : decode cL_law 753 = .ok (.aload_n 3, 1) := by decide +kernel
theorem dL_law_754 : decode cL_law 754 = .ok (.invokestatic 119, 3) := by decide +kernel
theorem dL_law_757 : decode cL_law 757 = .ok (.istore 5, 2) := by decide +kernel
theorem dL_law_759 : decode cL_law 759 = .ok (.aload_n 2, 1) := by decide +kernel
theorem dL_law_760 : decode cL_law 760 = .ok (.invokevirtual 121, 3) := by decide +kernel
theorem dL_law_763 : decode cL_law 763 = .ok (.istore 6, 2) := by decide +kernel
theorem dL_law_765 : decode cL_law 765 = .ok (.aload_n 2, 1) := by decide +kernel
theorem dL_law_766 : decode cL_law 766 = .ok (.invokevirtual 63, 3) := by decide +kernel
theorem dL_law_769 : decode cL_law 769 = .ok (.iload 5, 2) := by decide +kernel
theorem dL_law_771 : decode cL_law 771 = .ok (.if_icmp .eq 5, 3) := by decide +kernel
theorem dL_law_774 : decode cL_law 774 = .ok (.iconst 0, 1) := by decide +kernel
theorem dL_law_775 : decode cL_law 775 = .ok (.ireturn, 1) := by decide +kernel
theorem dL_law_776 : decode cL_law 776 = .ok (.iload 5, 2) := by decide +kernel
theorem dL_law_778 : decode cL_law 778 = .ok (.ifCond .ne 22, 3) := by decide +kernel
theorem dL_law_781 : decode cL_law 781 = .ok (.aload_n 3, 1) := by decide +kernel
theorem dL_law_782 : decode cL_law 782 = .ok (.iconst 0, 1) := by decide +kernel
theorem dL_law_783 : decode cL_law 783 = .ok (.laload, 1) := by decide +kernel
theorem dL_law_784 : decode cL_law 784 = .ok (.iload 6, 2) := by decide +kernel
theorem dL_law_786 : decode cL_law 786 = .ok (.ifCond .eq 7, 3) := by decide +kernel
theorem dL_law_789 : decode cL_law 789 = .ok (.lconst 1, 1) := by decide +kernel
theorem dL_law_790 : decode cL_law 790 = .ok (.goto 4, 3) := by decide +kernel
theorem dL_law_793 : decode cL_law 793 = .ok (.lconst 0, 1) := by decide +kernel
theorem dL_law_794 : decode cL_law 794 = .ok (.lcmp, 1) := by decide +kernel
theorem dL_law_795 : decode cL_law 795 = .ok (.ifCond .eq 5, 3) := by decide +kernel
theorem dL_law_798 : decode cL_law 798 = .ok (.iconst 0, 1) := by decide +kernel
theorem dL_law_799 : decode cL_law 799 = .ok (.ireturn, 1) := by decide +kernel
theorem dL_law_800 : decode cL_law 800 = .ok (.goto 16, 3) := by decide +kernel
theorem dL_law_803 : decode cL_law 803 = .ok (.aload_n 1, 1) := by decide +kernel
theorem dL_law_804 : decode cL_law 804 = .ok (.invokevirtual 122, 3) := by decide +kernel
theorem dL_law_807 : decode cL_law 807 = .ok (.aload_n 2, 1) := by decide +kernel
theorem dL_law_808 : decode cL_law 808 = .ok (.invokevirtual 125, 3) := by decide +kernel
theorem dL_law_811 : decode cL_law 811 = .ok (.if_icmp .eq 5, 3) := by decide +kernel
theorem dL_law_814 : decode cL_law 814 = .ok (.iconst 0, 1) := by decide +kernel
theorem dL_law_815 : decode cL_law 815 = .ok (.ireturn, 1) := by decide +kernel
theorem dL_law_816 : decode cL_law 816 = .ok (.iinc 4 2, 3) := by decide +kernel
theorem dL_law_819 : decode cL_law 819 = .ok (.goto (-796), 3) := by decide +kernel
theorem dL_law_822 : decode cL_law 822 = .ok (.iconst 1, 1) := by decide +kernel
theorem dL_law_823 : decode cL_law 823 = .ok (.ireturn, 1) := by decide +kernel
