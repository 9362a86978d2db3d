abbrev cL_part : ByteArray := method_2_code
def yL_part : MethodName := ⟨RL, "part", "([III)I"⟩
abbrev cL_does : ByteArray := method_3_code
def yL_does : MethodName := ⟨RL, "does", "(LQuarterboard;ZI)I"⟩
abbrev cL_asks : ByteArray := method_4_code
def yL_asks : MethodName := ⟨RL, "asks", "(LQuarterboard;II)I"⟩
abbrev cL_alike : ByteArray := method_5_code
def yL_alike : MethodName := ⟨RL, "alike", "(LQuarterboard;)I"⟩
abbrev cL_square : ByteArray := method_6_code
def yL_square : MethodName := ⟨RL, "square", "(II)I"⟩
abbrev cL_shared : ByteArray := method_7_code
def yL_shared : MethodName := ⟨RL, "shared", "([II)I"⟩
abbrev cL_full : ByteArray := method_8_code
def yL_full : MethodName := ⟨RL, "full", "([II)I"⟩
abbrev cL_won : ByteArray := method_9_code
def yL_won : MethodName := ⟨RL, "won", "([II)I"⟩
abbrev cL_isOn : ByteArray := method_10_code
def yL_isOn : MethodName := ⟨RL, "isOn", "([II)Z"⟩
abbrev cL_winning : ByteArray := method_11_code
def yL_winning : MethodName := ⟨RL, "winning", "([III)I"⟩
abbrev cL_safe : ByteArray := method_12_code
def yL_safe : MethodName := ⟨RL, "safe", "([II)I"⟩
abbrev cL_lowest : ByteArray := method_13_code
def yL_lowest : MethodName := ⟨RL, "lowest", "(I)I"⟩
abbrev cL_isBoard : ByteArray := method_14_code
def yL_isBoard : MethodName := ⟨RL, "isBoard", "(LQuarterboard;[I[I)Z"⟩
abbrev cL_isSafe : ByteArray := method_15_code
def yL_isSafe : MethodName := ⟨RL, "isSafe", "(LQuarterboard;[I[I)Z"⟩
abbrev cL_isWorth : ByteArray := method_16_code
def yL_isWorth : MethodName := ⟨RL, "isWorth", "(LQuarterboard;[I[I)Z"⟩
abbrev cL_isGiven : ByteArray := method_17_code
def yL_isGiven : MethodName := ⟨RL, "isGiven", "(LQuarterboard;[I[II)Z"⟩
abbrev cL_isPlaced : ByteArray := method_18_code
def yL_isPlaced : MethodName := ⟨RL, "isPlaced", "(LQuarterboard;[I[II)Z"⟩
abbrev cL_isPlayed : ByteArray := method_19_code
def yL_isPlayed : MethodName := ⟨RL, "isPlayed", "(LQuarterboard;[I[IIZ)Z"⟩
abbrev cL_isBegun : ByteArray := method_20_code
def yL_isBegun : MethodName := ⟨RL, "isBegun", "(LQuarterboard;[I[IZ)Z"⟩
abbrev cL_law : ByteArray := code
def yL_law : MethodName := ⟨RL, "law", "([I)Z"⟩
def wsL_part : List Cond := .code yL_part cL_part 4 (some .int) :: ([.constant RL 7 (2147483647)])
def wsL_does_r1 : List Cond := [Cond.classLink RL 17 "java/lang/IndexOutOfBoundsException", Cond.classLink RL 19 "java/lang/IllegalStateException", Cond.methodLink RL 8 yX0_give, Cond.instanceMethod yX0_give, Cond.selects RX0 yX0_give yX0_give, Cond.initialized RX0, Cond.code yX0_give cX0_give 2 (some .int), Cond.classLink RX0 46 "java/lang/IndexOutOfBoundsException", Cond.initialized "java/lang/IndexOutOfBoundsException", Cond.classLink RX0 53 "java/lang/IllegalStateException", Cond.initialized "java/lang/IllegalStateException", Cond.fieldLink RX0 29 "Quarterboard" "stage" "I", Cond.fieldLink RX0 35 "Quarterboard" "used" "I", Cond.fieldLink RX0 9 "Quarterboard" "held" "I", Cond.fieldLink RX0 32 "Quarterboard" "player" "I", Cond.methodLink RX0 42 yX0_isNumber, Cond.static yX0_isNumber, Cond.code yX0_isNumber cX0_isNumber 1 (some .boolean), Cond.methodLink RX0 58 yX0_has, Cond.static yX0_has, Cond.code yX0_has cX0_has 2 (some .boolean), Cond.methodLink RL 14 yX0_place, Cond.instanceMethod yX0_place, Cond.selects RX0 yX0_place yX0_place]
def wsL_does_r2 : List Cond := [Cond.code yX0_place cX0_place 3 (some .int), Cond.fieldLink RX0 16 "Quarterboard" "filled" "I", Cond.fieldLink RX0 13 "Quarterboard" "victor" "I", Cond.constant RX0 78 (65535), Cond.methodLink RX0 70 yX0_put, Cond.instanceMethod yX0_put, Cond.selects RX0 yX0_put yX0_put, Cond.code yX0_put cX0_put 3 none, Cond.fieldLink RX0 38 "Quarterboard" "digits" "J", Cond.methodLink RX0 147 yX0_atFirstSquare, Cond.static yX0_atFirstSquare, Cond.code yX0_atFirstSquare cX0_atFirstSquare 1 (some .long), Cond.constantLong RX0 141 (2), Cond.constantLong RX0 143 (4), Cond.constantLong RX0 145 (8), Cond.methodLink RX0 74 yX0_wonLines, Cond.instanceMethod yX0_wonLines, Cond.selects RX0 yX0_wonLines yX0_wonLines, Cond.code yX0_wonLines cX0_wonLines 4 (some .int), Cond.fieldLink RX0 83 "Quarterboard" "LINES" "[I", Cond.methodLink RX0 87 yX0_lines, Cond.instanceMethod yX0_lines, Cond.selects RX0 yX0_lines yX0_lines, Cond.code yX0_lines cX0_lines 1 (some .int)]
def wsL_does_r3 : List Cond := [Cond.fieldLink RX0 25 "Quarterboard" "withBlocks" "Z", Cond.methodLink RX0 92 yX0_inCommon, Cond.instanceMethod yX0_inCommon, Cond.selects RX0 yX0_inCommon yX0_inCommon, Cond.code yX0_inCommon cX0_inCommon 6 (some .int), Cond.methodLink RX0 79 yX0_withOne, Cond.static yX0_withOne, Cond.code yX0_withOne cX0_withOne 3 (some .int)]
def wsL_does : List Cond := .codeWith yL_does cL_does 4 (some .int) [(0, 17, 18, 17), (0, 17, 22, 19)] :: ((wsL_does_r1 ++ (wsL_does_r2 ++ wsL_does_r3)) ++ wsX00 ++ (vx_atS RX0 50 "java/lang/IndexOutOfBoundsException" ["java/lang/RuntimeException", "java/lang/Exception"]).filter goodWord ++ (vx_atS RX0 57 "java/lang/IllegalStateException" ["java/lang/RuntimeException", "java/lang/Exception"]).filter goodWord)
def wsL_asks_r1 : List Cond := [Cond.classLink RL 17 "java/lang/IndexOutOfBoundsException", Cond.classLink RL 43 "java/lang/IllegalArgumentException", Cond.classLink RL 19 "java/lang/IllegalStateException", Cond.methodLink RL 21 yX0_pieceAt, Cond.instanceMethod yX0_pieceAt, Cond.selects RX0 yX0_pieceAt yX0_pieceAt, Cond.initialized RX0, Cond.code yX0_pieceAt cX0_pieceAt 4 (some .int), Cond.classLink RX0 46 "java/lang/IndexOutOfBoundsException", Cond.initialized "java/lang/IndexOutOfBoundsException", Cond.fieldLink RX0 16 "Quarterboard" "filled" "I", Cond.fieldLink RX0 38 "Quarterboard" "digits" "J", Cond.methodLink RX0 42 yX0_isNumber, Cond.static yX0_isNumber, Cond.code yX0_isNumber cX0_isNumber 1 (some .boolean), Cond.methodLink RX0 58 yX0_has, Cond.static yX0_has, Cond.code yX0_has cX0_has 2 (some .boolean), Cond.methodLink RX0 79 yX0_withOne, Cond.static yX0_withOne, Cond.code yX0_withOne cX0_withOne 3 (some .int), Cond.constant RX0 78 (65535), Cond.methodLink RL 24 yX0_onLine, Cond.instanceMethod yX0_onLine]
def wsL_asks_r2 : List Cond := [Cond.selects RX0 yX0_onLine yX0_onLine, Cond.code yX0_onLine cX0_onLine 2 (some .int), Cond.fieldLink RX0 83 "Quarterboard" "LINES" "[I", Cond.methodLink RX0 87 yX0_lines, Cond.instanceMethod yX0_lines, Cond.selects RX0 yX0_lines yX0_lines, Cond.code yX0_lines cX0_lines 1 (some .int), Cond.fieldLink RX0 25 "Quarterboard" "withBlocks" "Z", Cond.methodLink RX0 19 yJ6_bitCount_0f7a4, Cond.static yJ6_bitCount_0f7a4, Cond.initialized RJ6, Cond.code yJ6_bitCount_0f7a4 cJ6_bitCount_0f7a4 1 (some .int), Cond.constant RJ6 265 (1431655765), Cond.constant RJ6 266 (858993459), Cond.constant RJ6 267 (252645135), Cond.methodLink RL 27 yX0_shared, Cond.instanceMethod yX0_shared, Cond.selects RX0 yX0_shared yX0_shared, Cond.code yX0_shared cX0_shared 2 (some .int), Cond.methodLink RX0 92 yX0_inCommon, Cond.instanceMethod yX0_inCommon, Cond.selects RX0 yX0_inCommon yX0_inCommon, Cond.code yX0_inCommon cX0_inCommon 6 (some .int), Cond.methodLink RL 30 yX0_winning]
def wsL_asks_r3 : List Cond := [Cond.instanceMethod yX0_winning, Cond.selects RX0 yX0_winning yX0_winning, Cond.code yX0_winning cX0_winning 2 (some .int), Cond.classLink RX0 53 "java/lang/IllegalStateException", Cond.initialized "java/lang/IllegalStateException", Cond.fieldLink RX0 29 "Quarterboard" "stage" "I", Cond.fieldLink RX0 35 "Quarterboard" "used" "I", Cond.methodLink RX0 97 yX0_winningSquares, Cond.instanceMethod yX0_winningSquares, Cond.selects RX0 yX0_winningSquares yX0_winningSquares, Cond.code yX0_winningSquares cX0_winningSquares 6 (some .int), Cond.methodLink RX0 155 yX0_ownDigits, Cond.static yX0_ownDigits, Cond.code yX0_ownDigits cX0_ownDigits 1 (some .int), Cond.methodLink RX0 158 yX0_lacksOne, Cond.instanceMethod yX0_lacksOne, Cond.selects RX0 yX0_lacksOne yX0_lacksOne, Cond.code yX0_lacksOne cX0_lacksOne 3 (some .boolean), Cond.methodLink RL 33 yX0_safe, Cond.instanceMethod yX0_safe, Cond.selects RX0 yX0_safe yX0_safe, Cond.code yX0_safe cX0_safe 1 (some .int), Cond.methodLink RX0 100 yX0_safePieces, Cond.instanceMethod yX0_safePieces]
def wsL_asks_r4 : List Cond := [Cond.selects RX0 yX0_safePieces yX0_safePieces, Cond.code yX0_safePieces cX0_safePieces 4 (some .int), Cond.methodLink RX0 161 yX0_winningDigits, Cond.instanceMethod yX0_winningDigits, Cond.selects RX0 yX0_winningDigits yX0_winningDigits, Cond.code yX0_winningDigits cX0_winningDigits 4 (some .int), Cond.methodLink RL 37 yX0_worth, Cond.instanceMethod yX0_worth, Cond.selects RX0 yX0_worth yX0_worth, Cond.code yX0_worth cX0_worth 2 (some .int), Cond.classLink RX0 103 "java/lang/IllegalArgumentException", Cond.initialized "java/lang/IllegalArgumentException", Cond.fieldLink RX0 9 "Quarterboard" "held" "I", Cond.methodLink RX0 108 yX0_canLookAhead, Cond.instanceMethod yX0_canLookAhead, Cond.selects RX0 yX0_canLookAhead yX0_canLookAhead, Cond.code yX0_canLookAhead cX0_canLookAhead 3 (some .boolean), Cond.methodLink RX0 113 yX0_worthToGive, Cond.instanceMethod yX0_worthToGive, Cond.selects RX0 yX0_worthToGive yX0_worthToGive, Cond.code yX0_worthToGive cX0_worthToGive 2 (some .int), Cond.methodLink RX0 170 yX0_giverWins, Cond.instanceMethod yX0_giverWins, Cond.selects RX0 yX0_giverWins yX0_giverWins]
def wsL_asks_r5 : List Cond := [Cond.code yX0_giverWins cX0_giverWins 4 (some .boolean), Cond.methodLink RX0 179 yX0_placerLoses, Cond.instanceMethod yX0_placerLoses, Cond.selects RX0 yX0_placerLoses yX0_placerLoses, Cond.code yX0_giverLoses cX0_giverLoses 4 (some .boolean), Cond.methodLink RX0 176 yX0_placerWinsLater, Cond.instanceMethod yX0_placerWinsLater, Cond.selects RX0 yX0_placerWinsLater yX0_placerWinsLater, Cond.code yX0_placerLoses cX0_placerLoses 5 (some .boolean), Cond.methodLink RX0 70 yX0_put, Cond.instanceMethod yX0_put, Cond.selects RX0 yX0_put yX0_put, Cond.code yX0_put cX0_put 3 none, Cond.methodLink RX0 147 yX0_atFirstSquare, Cond.static yX0_atFirstSquare, Cond.code yX0_atFirstSquare cX0_atFirstSquare 1 (some .long), Cond.constantLong RX0 141 (2), Cond.constantLong RX0 143 (4), Cond.constantLong RX0 145 (8), Cond.methodLink RX0 173 yX0_giverLoses, Cond.instanceMethod yX0_giverLoses, Cond.selects RX0 yX0_giverLoses yX0_giverLoses, Cond.methodLink RX0 167 yX0_lift, Cond.instanceMethod yX0_lift]
def wsL_asks_r6 : List Cond := [Cond.selects RX0 yX0_lift yX0_lift, Cond.code yX0_lift cX0_lift 3 none, Cond.constantLong RX0 151 (281479271743489), Cond.constantLong RX0 153 (-1), Cond.code yX0_placerWinsLater cX0_placerWinsLater 5 (some .boolean), Cond.methodLink RX0 116 yX0_worthToPlace, Cond.instanceMethod yX0_worthToPlace, Cond.selects RX0 yX0_worthToPlace yX0_worthToPlace, Cond.code yX0_worthToPlace cX0_worthToPlace 3 (some .int), Cond.methodLink RL 40 yX0_best, Cond.instanceMethod yX0_best, Cond.selects RX0 yX0_best yX0_best, Cond.code yX0_best cX0_best 2 (some .int), Cond.methodLink RX0 120 yX0_bestPiece, Cond.instanceMethod yX0_bestPiece, Cond.selects RX0 yX0_bestPiece yX0_bestPiece, Cond.code yX0_bestPiece cX0_bestPiece 4 (some .int), Cond.methodLink RX0 123 yX0_bestSquare, Cond.instanceMethod yX0_bestSquare, Cond.selects RX0 yX0_bestSquare yX0_bestSquare, Cond.code yX0_bestSquare cX0_bestSquare 4 (some .int), Cond.methodLink RX0 164 yX0_worthAfterPlacing, Cond.instanceMethod yX0_worthAfterPlacing, Cond.selects RX0 yX0_worthAfterPlacing yX0_worthAfterPlacing]
def wsL_asks_r7 : List Cond := [Cond.code yX0_worthAfterPlacing cX0_worthAfterPlacing 4 (some .int)]
def wsL_asks : List Cond := .codeWith yL_asks cL_asks 4 (some .int) [(0, 81, 82, 17), (0, 81, 86, 43), (0, 81, 90, 19)] :: ((wsL_asks_r1 ++ (wsL_asks_r2 ++ (wsL_asks_r3 ++ (wsL_asks_r4 ++ (wsL_asks_r5 ++ (wsL_asks_r6 ++ wsL_asks_r7)))))) ++ wsX00 ++ (vx_atS RX0 50 "java/lang/IndexOutOfBoundsException" ["java/lang/RuntimeException", "java/lang/Exception"]).filter goodWord ++ (vx_atS RX0 57 "java/lang/IllegalStateException" ["java/lang/RuntimeException", "java/lang/Exception"]).filter goodWord ++ (vx_atS RX0 107 "java/lang/IllegalArgumentException" ["java/lang/RuntimeException", "java/lang/Exception"]).filter goodWord)
def wsL_alike_r1 : List Cond := [Cond.classLink RL 19 "java/lang/IllegalStateException", Cond.methodLink RL 45 yX0_isAlike, Cond.instanceMethod yX0_isAlike, Cond.selects RX0 yX0_isAlike yX0_isAlike, Cond.initialized RX0, Cond.code yX0_isAlike cX0_isAlike 2 (some .boolean), Cond.classLink RX0 53 "java/lang/IllegalStateException", Cond.initialized "java/lang/IllegalStateException", Cond.fieldLink RX0 126 "Quarterboard" "hasKept" "Z", Cond.fieldLink RX0 129 "Quarterboard" "keptFilled" "I", Cond.fieldLink RX0 132 "Quarterboard" "keptDigits" "J", Cond.methodLink RX0 137 yX0_waysOfMarks, Cond.instanceMethod yX0_waysOfMarks, Cond.selects RX0 yX0_waysOfMarks yX0_waysOfMarks, Cond.code yX0_waysOfMarks cX0_waysOfMarks 12 (some .int), Cond.fieldLink RX0 16 "Quarterboard" "filled" "I", Cond.fieldLink RX0 38 "Quarterboard" "digits" "J", Cond.methodLink RX0 185 yX0_turned, Cond.static yX0_turned, Cond.code yX0_turned cX0_turned 6 (some .long), Cond.constantLong RX0 151 (281479271743489), Cond.methodLink RX0 182 yX0_turnedSquare, Cond.static yX0_turnedSquare, Cond.code yX0_turnedSquare cX0_turnedSquare 5 (some .int)]
def wsL_alike_r2 : List Cond := [Cond.methodLink RX0 189 yX0_levelled, Cond.static yX0_levelled, Cond.code yX0_levelled cX0_levelled 7 (some .long), Cond.methodLink RX0 79 yX0_withOne, Cond.static yX0_withOne, Cond.code yX0_withOne cX0_withOne 3 (some .int), Cond.constant RX0 78 (65535), Cond.methodLink RX0 192 yX0_equalMarks, Cond.static yX0_equalMarks, Cond.code yX0_equalMarks cX0_equalMarks 6 (some .int)]
def wsL_alike : List Cond := .codeWith yL_alike cL_alike 2 (some .int) [(0, 12, 13, 19)] :: ((wsL_alike_r1 ++ wsL_alike_r2) ++ wsX00 ++ (vx_atS RX0 57 "java/lang/IllegalStateException" ["java/lang/RuntimeException", "java/lang/Exception"]).filter goodWord)
def wsL_square : List Cond := .code yL_square cL_square 2 (some .int) :: ([])
def wsL_shared : List Cond := .code yL_shared cL_shared 6 (some .int) :: ([.methodLink RL 49 yL_square, .static yL_square, .initialized RL, .code yL_square cL_square 2 (some .int)])
def wsL_full : List Cond := .code yL_full cL_full 4 (some .int) :: ([.methodLink RL 49 yL_square, .static yL_square, .initialized RL, .code yL_square cL_square 2 (some .int)])
def wsL_won : List Cond := .code yL_won cL_won 4 (some .int) :: ([.methodLink RL 55 yL_full, .static yL_full, .initialized RL, .code yL_full cL_full 4 (some .int), .methodLink RL 49 yL_square, .static yL_square, .code yL_square cL_square 2 (some .int), .methodLink RL 59 yL_shared, .static yL_shared, .code yL_shared cL_shared 6 (some .int)])
def wsL_isOn : List Cond := .code yL_isOn cL_isOn 4 (some .boolean) :: ([])
def wsL_winning : List Cond := .code yL_winning cL_winning 5 (some .int) :: ([.methodLink RL 61 yL_won, .static yL_won, .initialized RL, .code yL_won cL_won 4 (some .int), .methodLink RL 55 yL_full, .static yL_full, .code yL_full cL_full 4 (some .int), .methodLink RL 49 yL_square, .static yL_square, .code yL_square cL_square 2 (some .int), .methodLink RL 59 yL_shared, .static yL_shared, .code yL_shared cL_shared 6 (some .int)])
def wsL_safe : List Cond := .code yL_safe cL_safe 4 (some .int) :: ([.methodLink RL 64 yL_isOn, .static yL_isOn, .initialized RL, .code yL_isOn cL_isOn 4 (some .boolean), .methodLink RL 68 yL_winning, .static yL_winning, .code yL_winning cL_winning 5 (some .int), .methodLink RL 61 yL_won, .static yL_won, .code yL_won cL_won 4 (some .int), .methodLink RL 55 yL_full, .static yL_full, .code yL_full cL_full 4 (some .int), .methodLink RL 49 yL_square, .static yL_square, .code yL_square cL_square 2 (some .int), .methodLink RL 59 yL_shared, .static yL_shared, .code yL_shared cL_shared 6 (some .int)])
def wsL_lowest : List Cond := .code yL_lowest cL_lowest 2 (some .int) :: ([])
def wsL_isBoard_r1 : List Cond := [Cond.methodLink RL 71 yX0_lines, Cond.instanceMethod yX0_lines, Cond.selects RX0 yX0_lines yX0_lines, Cond.initialized RX0, Cond.code yX0_lines cX0_lines 1 (some .int), Cond.fieldLink RX0 25 "Quarterboard" "withBlocks" "Z", Cond.fieldLink RX0 83 "Quarterboard" "LINES" "[I", Cond.methodLink RL 74 yX0_phase, Cond.instanceMethod yX0_phase, Cond.selects RX0 yX0_phase yX0_phase, Cond.code yX0_phase cX0_phase 1 (some .int), Cond.fieldLink RX0 29 "Quarterboard" "stage" "I", Cond.methodLink RL 77 yX0_onTurn, Cond.instanceMethod yX0_onTurn, Cond.selects RX0 yX0_onTurn yX0_onTurn, Cond.code yX0_onTurn cX0_onTurn 1 (some .int), Cond.fieldLink RX0 32 "Quarterboard" "player" "I", Cond.methodLink RL 80 yX0_hand, Cond.instanceMethod yX0_hand, Cond.selects RX0 yX0_hand yX0_hand, Cond.code yX0_hand cX0_hand 1 (some .int), Cond.fieldLink RX0 9 "Quarterboard" "held" "I", Cond.methodLink RL 83 yX0_placed, Cond.instanceMethod yX0_placed]
def wsL_isBoard_r2 : List Cond := [Cond.selects RX0 yX0_placed yX0_placed, Cond.code yX0_placed cX0_placed 1 (some .int), Cond.fieldLink RX0 16 "Quarterboard" "filled" "I", Cond.methodLink RX0 19 yJ6_bitCount_0f7a4, Cond.static yJ6_bitCount_0f7a4, Cond.initialized RJ6, Cond.code yJ6_bitCount_0f7a4 cJ6_bitCount_0f7a4 1 (some .int), Cond.constant RJ6 265 (1431655765), Cond.constant RJ6 266 (858993459), Cond.constant RJ6 267 (252645135), Cond.methodLink RL 86 yX0_winner, Cond.instanceMethod yX0_winner, Cond.selects RX0 yX0_winner yX0_winner, Cond.code yX0_winner cX0_winner 1 (some .int), Cond.fieldLink RX0 13 "Quarterboard" "victor" "I", Cond.methodLink RL 21 yX0_pieceAt, Cond.instanceMethod yX0_pieceAt, Cond.selects RX0 yX0_pieceAt yX0_pieceAt, Cond.code yX0_pieceAt cX0_pieceAt 4 (some .int), Cond.classLink RX0 46 "java/lang/IndexOutOfBoundsException", Cond.initialized "java/lang/IndexOutOfBoundsException", Cond.fieldLink RX0 38 "Quarterboard" "digits" "J", Cond.methodLink RX0 42 yX0_isNumber, Cond.static yX0_isNumber]
def wsL_isBoard_r3 : List Cond := [Cond.code yX0_isNumber cX0_isNumber 1 (some .boolean), Cond.methodLink RX0 58 yX0_has, Cond.static yX0_has, Cond.code yX0_has cX0_has 2 (some .boolean), Cond.methodLink RX0 79 yX0_withOne, Cond.static yX0_withOne, Cond.code yX0_withOne cX0_withOne 3 (some .int), Cond.constant RX0 78 (65535), Cond.methodLink RL 24 yX0_onLine, Cond.instanceMethod yX0_onLine, Cond.selects RX0 yX0_onLine yX0_onLine, Cond.code yX0_onLine cX0_onLine 2 (some .int), Cond.methodLink RX0 87 yX0_lines, Cond.methodLink RL 55 yL_full, Cond.static yL_full, Cond.initialized RL, Cond.code yL_full cL_full 4 (some .int), Cond.methodLink RL 49 yL_square, Cond.static yL_square, Cond.code yL_square cL_square 2 (some .int), Cond.methodLink RL 27 yX0_shared, Cond.instanceMethod yX0_shared, Cond.selects RX0 yX0_shared yX0_shared, Cond.code yX0_shared cX0_shared 2 (some .int)]
def wsL_isBoard_r4 : List Cond := [Cond.methodLink RX0 92 yX0_inCommon, Cond.instanceMethod yX0_inCommon, Cond.selects RX0 yX0_inCommon yX0_inCommon, Cond.code yX0_inCommon cX0_inCommon 6 (some .int), Cond.methodLink RL 59 yL_shared, Cond.static yL_shared, Cond.code yL_shared cL_shared 6 (some .int), Cond.methodLink RL 89 yL_asks, Cond.static yL_asks, Cond.codeWith yL_asks cL_asks 4 (some .int) [(0, 81, 82, 17), (0, 81, 86, 43), (0, 81, 90, 19)], Cond.classLink RL 17 "java/lang/IndexOutOfBoundsException", Cond.classLink RL 43 "java/lang/IllegalArgumentException", Cond.classLink RL 19 "java/lang/IllegalStateException", Cond.methodLink RL 30 yX0_winning, Cond.instanceMethod yX0_winning, Cond.selects RX0 yX0_winning yX0_winning, Cond.code yX0_winning cX0_winning 2 (some .int), Cond.classLink RX0 53 "java/lang/IllegalStateException", Cond.initialized "java/lang/IllegalStateException", Cond.fieldLink RX0 35 "Quarterboard" "used" "I", Cond.methodLink RX0 97 yX0_winningSquares, Cond.instanceMethod yX0_winningSquares, Cond.selects RX0 yX0_winningSquares yX0_winningSquares, Cond.code yX0_winningSquares cX0_winningSquares 6 (some .int)]
def wsL_isBoard_r5 : List Cond := [Cond.methodLink RX0 155 yX0_ownDigits, Cond.static yX0_ownDigits, Cond.code yX0_ownDigits cX0_ownDigits 1 (some .int), Cond.methodLink RX0 158 yX0_lacksOne, Cond.instanceMethod yX0_lacksOne, Cond.selects RX0 yX0_lacksOne yX0_lacksOne, Cond.code yX0_lacksOne cX0_lacksOne 3 (some .boolean), Cond.methodLink RL 33 yX0_safe, Cond.instanceMethod yX0_safe, Cond.selects RX0 yX0_safe yX0_safe, Cond.code yX0_safe cX0_safe 1 (some .int), Cond.methodLink RX0 100 yX0_safePieces, Cond.instanceMethod yX0_safePieces, Cond.selects RX0 yX0_safePieces yX0_safePieces, Cond.code yX0_safePieces cX0_safePieces 4 (some .int), Cond.methodLink RX0 161 yX0_winningDigits, Cond.instanceMethod yX0_winningDigits, Cond.selects RX0 yX0_winningDigits yX0_winningDigits, Cond.code yX0_winningDigits cX0_winningDigits 4 (some .int), Cond.methodLink RL 37 yX0_worth, Cond.instanceMethod yX0_worth, Cond.selects RX0 yX0_worth yX0_worth, Cond.code yX0_worth cX0_worth 2 (some .int), Cond.classLink RX0 103 "java/lang/IllegalArgumentException"]
def wsL_isBoard_r6 : List Cond := [Cond.initialized "java/lang/IllegalArgumentException", Cond.methodLink RX0 108 yX0_canLookAhead, Cond.instanceMethod yX0_canLookAhead, Cond.selects RX0 yX0_canLookAhead yX0_canLookAhead, Cond.code yX0_canLookAhead cX0_canLookAhead 3 (some .boolean), Cond.methodLink RX0 113 yX0_worthToGive, Cond.instanceMethod yX0_worthToGive, Cond.selects RX0 yX0_worthToGive yX0_worthToGive, Cond.code yX0_worthToGive cX0_worthToGive 2 (some .int), Cond.methodLink RX0 170 yX0_giverWins, Cond.instanceMethod yX0_giverWins, Cond.selects RX0 yX0_giverWins yX0_giverWins, Cond.code yX0_giverWins cX0_giverWins 4 (some .boolean), Cond.methodLink RX0 179 yX0_placerLoses, Cond.instanceMethod yX0_placerLoses, Cond.selects RX0 yX0_placerLoses yX0_placerLoses, Cond.code yX0_giverLoses cX0_giverLoses 4 (some .boolean), Cond.methodLink RX0 176 yX0_placerWinsLater, Cond.instanceMethod yX0_placerWinsLater, Cond.selects RX0 yX0_placerWinsLater yX0_placerWinsLater, Cond.code yX0_placerLoses cX0_placerLoses 5 (some .boolean), Cond.methodLink RX0 70 yX0_put, Cond.instanceMethod yX0_put, Cond.selects RX0 yX0_put yX0_put]
def wsL_isBoard_r7 : List Cond := [Cond.code yX0_put cX0_put 3 none, Cond.methodLink RX0 147 yX0_atFirstSquare, Cond.static yX0_atFirstSquare, Cond.code yX0_atFirstSquare cX0_atFirstSquare 1 (some .long), Cond.constantLong RX0 141 (2), Cond.constantLong RX0 143 (4), Cond.constantLong RX0 145 (8), Cond.methodLink RX0 173 yX0_giverLoses, Cond.instanceMethod yX0_giverLoses, Cond.selects RX0 yX0_giverLoses yX0_giverLoses, Cond.methodLink RX0 167 yX0_lift, Cond.instanceMethod yX0_lift, Cond.selects RX0 yX0_lift yX0_lift, Cond.code yX0_lift cX0_lift 3 none, Cond.constantLong RX0 151 (281479271743489), Cond.constantLong RX0 153 (-1), Cond.code yX0_placerWinsLater cX0_placerWinsLater 5 (some .boolean), Cond.methodLink RX0 116 yX0_worthToPlace, Cond.instanceMethod yX0_worthToPlace, Cond.selects RX0 yX0_worthToPlace yX0_worthToPlace, Cond.code yX0_worthToPlace cX0_worthToPlace 3 (some .int), Cond.methodLink RL 40 yX0_best, Cond.instanceMethod yX0_best, Cond.selects RX0 yX0_best yX0_best]
def wsL_isBoard_r8 : List Cond := [Cond.code yX0_best cX0_best 2 (some .int), Cond.methodLink RX0 120 yX0_bestPiece, Cond.instanceMethod yX0_bestPiece, Cond.selects RX0 yX0_bestPiece yX0_bestPiece, Cond.code yX0_bestPiece cX0_bestPiece 4 (some .int), Cond.methodLink RX0 123 yX0_bestSquare, Cond.instanceMethod yX0_bestSquare, Cond.selects RX0 yX0_bestSquare yX0_bestSquare, Cond.code yX0_bestSquare cX0_bestSquare 4 (some .int), Cond.methodLink RX0 164 yX0_worthAfterPlacing, Cond.instanceMethod yX0_worthAfterPlacing, Cond.selects RX0 yX0_worthAfterPlacing yX0_worthAfterPlacing, Cond.code yX0_worthAfterPlacing cX0_worthAfterPlacing 4 (some .int)]
def wsL_isBoard : List Cond := .code yL_isBoard cL_isBoard 5 (some .boolean) :: ((wsL_isBoard_r1 ++ (wsL_isBoard_r2 ++ (wsL_isBoard_r3 ++ (wsL_isBoard_r4 ++ (wsL_isBoard_r5 ++ (wsL_isBoard_r6 ++ (wsL_isBoard_r7 ++ wsL_isBoard_r8))))))) ++ wsX00 ++ (vx_atS RX0 50 "java/lang/IndexOutOfBoundsException" ["java/lang/RuntimeException", "java/lang/Exception"]).filter goodWord ++ (vx_atS RX0 57 "java/lang/IllegalStateException" ["java/lang/RuntimeException", "java/lang/Exception"]).filter goodWord ++ (vx_atS RX0 107 "java/lang/IllegalArgumentException" ["java/lang/RuntimeException", "java/lang/Exception"]).filter goodWord)
def wsL_isSafe_r1 : List Cond := [Cond.methodLink RL 89 yL_asks, Cond.static yL_asks, Cond.initialized RL, Cond.codeWith yL_asks cL_asks 4 (some .int) [(0, 81, 82, 17), (0, 81, 86, 43), (0, 81, 90, 19)], Cond.classLink RL 17 "java/lang/IndexOutOfBoundsException", Cond.classLink RL 43 "java/lang/IllegalArgumentException", Cond.classLink RL 19 "java/lang/IllegalStateException", Cond.methodLink RL 21 yX0_pieceAt, Cond.instanceMethod yX0_pieceAt, Cond.selects RX0 yX0_pieceAt yX0_pieceAt, Cond.initialized RX0, Cond.code yX0_pieceAt cX0_pieceAt 4 (some .int), Cond.classLink RX0 46 "java/lang/IndexOutOfBoundsException", Cond.initialized "java/lang/IndexOutOfBoundsException", Cond.fieldLink RX0 16 "Quarterboard" "filled" "I", Cond.fieldLink RX0 38 "Quarterboard" "digits" "J", Cond.methodLink RX0 42 yX0_isNumber, Cond.static yX0_isNumber, Cond.code yX0_isNumber cX0_isNumber 1 (some .boolean), Cond.methodLink RX0 58 yX0_has, Cond.static yX0_has, Cond.code yX0_has cX0_has 2 (some .boolean), Cond.methodLink RX0 79 yX0_withOne, Cond.static yX0_withOne]
def wsL_isSafe_r2 : List Cond := [Cond.code yX0_withOne cX0_withOne 3 (some .int), Cond.constant RX0 78 (65535), Cond.methodLink RL 24 yX0_onLine, Cond.instanceMethod yX0_onLine, Cond.selects RX0 yX0_onLine yX0_onLine, Cond.code yX0_onLine cX0_onLine 2 (some .int), Cond.fieldLink RX0 83 "Quarterboard" "LINES" "[I", Cond.methodLink RX0 87 yX0_lines, Cond.instanceMethod yX0_lines, Cond.selects RX0 yX0_lines yX0_lines, Cond.code yX0_lines cX0_lines 1 (some .int), Cond.fieldLink RX0 25 "Quarterboard" "withBlocks" "Z", Cond.methodLink RX0 19 yJ6_bitCount_0f7a4, Cond.static yJ6_bitCount_0f7a4, Cond.initialized RJ6, Cond.code yJ6_bitCount_0f7a4 cJ6_bitCount_0f7a4 1 (some .int), Cond.constant RJ6 265 (1431655765), Cond.constant RJ6 266 (858993459), Cond.constant RJ6 267 (252645135), Cond.methodLink RL 27 yX0_shared, Cond.instanceMethod yX0_shared, Cond.selects RX0 yX0_shared yX0_shared, Cond.code yX0_shared cX0_shared 2 (some .int), Cond.methodLink RX0 92 yX0_inCommon]
def wsL_isSafe_r3 : List Cond := [Cond.instanceMethod yX0_inCommon, Cond.selects RX0 yX0_inCommon yX0_inCommon, Cond.code yX0_inCommon cX0_inCommon 6 (some .int), Cond.methodLink RL 30 yX0_winning, Cond.instanceMethod yX0_winning, Cond.selects RX0 yX0_winning yX0_winning, Cond.code yX0_winning cX0_winning 2 (some .int), Cond.classLink RX0 53 "java/lang/IllegalStateException", Cond.initialized "java/lang/IllegalStateException", Cond.fieldLink RX0 29 "Quarterboard" "stage" "I", Cond.fieldLink RX0 35 "Quarterboard" "used" "I", Cond.methodLink RX0 97 yX0_winningSquares, Cond.instanceMethod yX0_winningSquares, Cond.selects RX0 yX0_winningSquares yX0_winningSquares, Cond.code yX0_winningSquares cX0_winningSquares 6 (some .int), Cond.methodLink RX0 155 yX0_ownDigits, Cond.static yX0_ownDigits, Cond.code yX0_ownDigits cX0_ownDigits 1 (some .int), Cond.methodLink RX0 158 yX0_lacksOne, Cond.instanceMethod yX0_lacksOne, Cond.selects RX0 yX0_lacksOne yX0_lacksOne, Cond.code yX0_lacksOne cX0_lacksOne 3 (some .boolean), Cond.methodLink RL 33 yX0_safe, Cond.instanceMethod yX0_safe]
def wsL_isSafe_r4 : List Cond := [Cond.selects RX0 yX0_safe yX0_safe, Cond.code yX0_safe cX0_safe 1 (some .int), Cond.methodLink RX0 100 yX0_safePieces, Cond.instanceMethod yX0_safePieces, Cond.selects RX0 yX0_safePieces yX0_safePieces, Cond.code yX0_safePieces cX0_safePieces 4 (some .int), Cond.methodLink RX0 161 yX0_winningDigits, Cond.instanceMethod yX0_winningDigits, Cond.selects RX0 yX0_winningDigits yX0_winningDigits, Cond.code yX0_winningDigits cX0_winningDigits 4 (some .int), Cond.methodLink RL 37 yX0_worth, Cond.instanceMethod yX0_worth, Cond.selects RX0 yX0_worth yX0_worth, Cond.code yX0_worth cX0_worth 2 (some .int), Cond.classLink RX0 103 "java/lang/IllegalArgumentException", Cond.initialized "java/lang/IllegalArgumentException", Cond.fieldLink RX0 9 "Quarterboard" "held" "I", Cond.methodLink RX0 108 yX0_canLookAhead, Cond.instanceMethod yX0_canLookAhead, Cond.selects RX0 yX0_canLookAhead yX0_canLookAhead, Cond.code yX0_canLookAhead cX0_canLookAhead 3 (some .boolean), Cond.methodLink RX0 113 yX0_worthToGive, Cond.instanceMethod yX0_worthToGive, Cond.selects RX0 yX0_worthToGive yX0_worthToGive]
def wsL_isSafe_r5 : List Cond := [Cond.code yX0_worthToGive cX0_worthToGive 2 (some .int), Cond.methodLink RX0 170 yX0_giverWins, Cond.instanceMethod yX0_giverWins, Cond.selects RX0 yX0_giverWins yX0_giverWins, Cond.code yX0_giverWins cX0_giverWins 4 (some .boolean), Cond.methodLink RX0 179 yX0_placerLoses, Cond.instanceMethod yX0_placerLoses, Cond.selects RX0 yX0_placerLoses yX0_placerLoses, Cond.code yX0_giverLoses cX0_giverLoses 4 (some .boolean), Cond.methodLink RX0 176 yX0_placerWinsLater, Cond.instanceMethod yX0_placerWinsLater, Cond.selects RX0 yX0_placerWinsLater yX0_placerWinsLater, Cond.code yX0_placerLoses cX0_placerLoses 5 (some .boolean), Cond.methodLink RX0 70 yX0_put, Cond.instanceMethod yX0_put, Cond.selects RX0 yX0_put yX0_put, Cond.code yX0_put cX0_put 3 none, Cond.methodLink RX0 147 yX0_atFirstSquare, Cond.static yX0_atFirstSquare, Cond.code yX0_atFirstSquare cX0_atFirstSquare 1 (some .long), Cond.constantLong RX0 141 (2), Cond.constantLong RX0 143 (4), Cond.constantLong RX0 145 (8), Cond.methodLink RX0 173 yX0_giverLoses]
def wsL_isSafe_r6 : List Cond := [Cond.instanceMethod yX0_giverLoses, Cond.selects RX0 yX0_giverLoses yX0_giverLoses, Cond.methodLink RX0 167 yX0_lift, Cond.instanceMethod yX0_lift, Cond.selects RX0 yX0_lift yX0_lift, Cond.code yX0_lift cX0_lift 3 none, Cond.constantLong RX0 151 (281479271743489), Cond.constantLong RX0 153 (-1), Cond.code yX0_placerWinsLater cX0_placerWinsLater 5 (some .boolean), Cond.methodLink RX0 116 yX0_worthToPlace, Cond.instanceMethod yX0_worthToPlace, Cond.selects RX0 yX0_worthToPlace yX0_worthToPlace, Cond.code yX0_worthToPlace cX0_worthToPlace 3 (some .int), Cond.methodLink RL 40 yX0_best, Cond.instanceMethod yX0_best, Cond.selects RX0 yX0_best yX0_best, Cond.code yX0_best cX0_best 2 (some .int), Cond.methodLink RX0 120 yX0_bestPiece, Cond.instanceMethod yX0_bestPiece, Cond.selects RX0 yX0_bestPiece yX0_bestPiece, Cond.code yX0_bestPiece cX0_bestPiece 4 (some .int), Cond.methodLink RX0 123 yX0_bestSquare, Cond.instanceMethod yX0_bestSquare, Cond.selects RX0 yX0_bestSquare yX0_bestSquare]
def wsL_isSafe_r7 : List Cond := [Cond.code yX0_bestSquare cX0_bestSquare 4 (some .int), Cond.methodLink RX0 164 yX0_worthAfterPlacing, Cond.instanceMethod yX0_worthAfterPlacing, Cond.selects RX0 yX0_worthAfterPlacing yX0_worthAfterPlacing, Cond.code yX0_worthAfterPlacing cX0_worthAfterPlacing 4 (some .int), Cond.methodLink RL 64 yL_isOn, Cond.static yL_isOn, Cond.code yL_isOn cL_isOn 4 (some .boolean), Cond.methodLink RL 68 yL_winning, Cond.static yL_winning, Cond.code yL_winning cL_winning 5 (some .int), Cond.methodLink RL 61 yL_won, Cond.static yL_won, Cond.code yL_won cL_won 4 (some .int), Cond.methodLink RL 55 yL_full, Cond.static yL_full, Cond.code yL_full cL_full 4 (some .int), Cond.methodLink RL 49 yL_square, Cond.static yL_square, Cond.code yL_square cL_square 2 (some .int), Cond.methodLink RL 59 yL_shared, Cond.static yL_shared, Cond.code yL_shared cL_shared 6 (some .int), Cond.methodLink RL 93 yL_safe]
def wsL_isSafe_r8 : List Cond := [Cond.static yL_safe, Cond.code yL_safe cL_safe 4 (some .int)]
def wsL_isSafe : List Cond := .code yL_isSafe cL_isSafe 5 (some .boolean) :: ((wsL_isSafe_r1 ++ (wsL_isSafe_r2 ++ (wsL_isSafe_r3 ++ (wsL_isSafe_r4 ++ (wsL_isSafe_r5 ++ (wsL_isSafe_r6 ++ (wsL_isSafe_r7 ++ wsL_isSafe_r8))))))) ++ wsX00 ++ (vx_atS RX0 50 "java/lang/IndexOutOfBoundsException" ["java/lang/RuntimeException", "java/lang/Exception"]).filter goodWord ++ (vx_atS RX0 57 "java/lang/IllegalStateException" ["java/lang/RuntimeException", "java/lang/Exception"]).filter goodWord ++ (vx_atS RX0 107 "java/lang/IllegalArgumentException" ["java/lang/RuntimeException", "java/lang/Exception"]).filter goodWord)
def wsL_isWorth_r1 : List Cond := [Cond.methodLink RL 89 yL_asks, Cond.static yL_asks, Cond.initialized RL, Cond.codeWith yL_asks cL_asks 4 (some .int) [(0, 81, 82, 17), (0, 81, 86, 43), (0, 81, 90, 19)], Cond.classLink RL 17 "java/lang/IndexOutOfBoundsException", Cond.classLink RL 43 "java/lang/IllegalArgumentException", Cond.classLink RL 19 "java/lang/IllegalStateException", Cond.methodLink RL 21 yX0_pieceAt, Cond.instanceMethod yX0_pieceAt, Cond.selects RX0 yX0_pieceAt yX0_pieceAt, Cond.initialized RX0, Cond.code yX0_pieceAt cX0_pieceAt 4 (some .int), Cond.classLink RX0 46 "java/lang/IndexOutOfBoundsException", Cond.initialized "java/lang/IndexOutOfBoundsException", Cond.fieldLink RX0 16 "Quarterboard" "filled" "I", Cond.fieldLink RX0 38 "Quarterboard" "digits" "J", Cond.methodLink RX0 42 yX0_isNumber, Cond.static yX0_isNumber, Cond.code yX0_isNumber cX0_isNumber 1 (some .boolean), Cond.methodLink RX0 58 yX0_has, Cond.static yX0_has, Cond.code yX0_has cX0_has 2 (some .boolean), Cond.methodLink RX0 79 yX0_withOne, Cond.static yX0_withOne]
def wsL_isWorth_r2 : List Cond := [Cond.code yX0_withOne cX0_withOne 3 (some .int), Cond.constant RX0 78 (65535), Cond.methodLink RL 24 yX0_onLine, Cond.instanceMethod yX0_onLine, Cond.selects RX0 yX0_onLine yX0_onLine, Cond.code yX0_onLine cX0_onLine 2 (some .int), Cond.fieldLink RX0 83 "Quarterboard" "LINES" "[I", Cond.methodLink RX0 87 yX0_lines, Cond.instanceMethod yX0_lines, Cond.selects RX0 yX0_lines yX0_lines, Cond.code yX0_lines cX0_lines 1 (some .int), Cond.fieldLink RX0 25 "Quarterboard" "withBlocks" "Z", Cond.methodLink RX0 19 yJ6_bitCount_0f7a4, Cond.static yJ6_bitCount_0f7a4, Cond.initialized RJ6, Cond.code yJ6_bitCount_0f7a4 cJ6_bitCount_0f7a4 1 (some .int), Cond.constant RJ6 265 (1431655765), Cond.constant RJ6 266 (858993459), Cond.constant RJ6 267 (252645135), Cond.methodLink RL 27 yX0_shared, Cond.instanceMethod yX0_shared, Cond.selects RX0 yX0_shared yX0_shared, Cond.code yX0_shared cX0_shared 2 (some .int), Cond.methodLink RX0 92 yX0_inCommon]
def wsL_isWorth_r3 : List Cond := [Cond.instanceMethod yX0_inCommon, Cond.selects RX0 yX0_inCommon yX0_inCommon, Cond.code yX0_inCommon cX0_inCommon 6 (some .int), Cond.methodLink RL 30 yX0_winning, Cond.instanceMethod yX0_winning, Cond.selects RX0 yX0_winning yX0_winning, Cond.code yX0_winning cX0_winning 2 (some .int), Cond.classLink RX0 53 "java/lang/IllegalStateException", Cond.initialized "java/lang/IllegalStateException", Cond.fieldLink RX0 29 "Quarterboard" "stage" "I", Cond.fieldLink RX0 35 "Quarterboard" "used" "I", Cond.methodLink RX0 97 yX0_winningSquares, Cond.instanceMethod yX0_winningSquares, Cond.selects RX0 yX0_winningSquares yX0_winningSquares, Cond.code yX0_winningSquares cX0_winningSquares 6 (some .int), Cond.methodLink RX0 155 yX0_ownDigits, Cond.static yX0_ownDigits, Cond.code yX0_ownDigits cX0_ownDigits 1 (some .int), Cond.methodLink RX0 158 yX0_lacksOne, Cond.instanceMethod yX0_lacksOne, Cond.selects RX0 yX0_lacksOne yX0_lacksOne, Cond.code yX0_lacksOne cX0_lacksOne 3 (some .boolean), Cond.methodLink RL 33 yX0_safe, Cond.instanceMethod yX0_safe]
def wsL_isWorth_r4 : List Cond := [Cond.selects RX0 yX0_safe yX0_safe, Cond.code yX0_safe cX0_safe 1 (some .int), Cond.methodLink RX0 100 yX0_safePieces, Cond.instanceMethod yX0_safePieces, Cond.selects RX0 yX0_safePieces yX0_safePieces, Cond.code yX0_safePieces cX0_safePieces 4 (some .int), Cond.methodLink RX0 161 yX0_winningDigits, Cond.instanceMethod yX0_winningDigits, Cond.selects RX0 yX0_winningDigits yX0_winningDigits, Cond.code yX0_winningDigits cX0_winningDigits 4 (some .int), Cond.methodLink RL 37 yX0_worth, Cond.instanceMethod yX0_worth, Cond.selects RX0 yX0_worth yX0_worth, Cond.code yX0_worth cX0_worth 2 (some .int), Cond.classLink RX0 103 "java/lang/IllegalArgumentException", Cond.initialized "java/lang/IllegalArgumentException", Cond.fieldLink RX0 9 "Quarterboard" "held" "I", Cond.methodLink RX0 108 yX0_canLookAhead, Cond.instanceMethod yX0_canLookAhead, Cond.selects RX0 yX0_canLookAhead yX0_canLookAhead, Cond.code yX0_canLookAhead cX0_canLookAhead 3 (some .boolean), Cond.methodLink RX0 113 yX0_worthToGive, Cond.instanceMethod yX0_worthToGive, Cond.selects RX0 yX0_worthToGive yX0_worthToGive]
def wsL_isWorth_r5 : List Cond := [Cond.code yX0_worthToGive cX0_worthToGive 2 (some .int), Cond.methodLink RX0 170 yX0_giverWins, Cond.instanceMethod yX0_giverWins, Cond.selects RX0 yX0_giverWins yX0_giverWins, Cond.code yX0_giverWins cX0_giverWins 4 (some .boolean), Cond.methodLink RX0 179 yX0_placerLoses, Cond.instanceMethod yX0_placerLoses, Cond.selects RX0 yX0_placerLoses yX0_placerLoses, Cond.code yX0_giverLoses cX0_giverLoses 4 (some .boolean), Cond.methodLink RX0 176 yX0_placerWinsLater, Cond.instanceMethod yX0_placerWinsLater, Cond.selects RX0 yX0_placerWinsLater yX0_placerWinsLater, Cond.code yX0_placerLoses cX0_placerLoses 5 (some .boolean), Cond.methodLink RX0 70 yX0_put, Cond.instanceMethod yX0_put, Cond.selects RX0 yX0_put yX0_put, Cond.code yX0_put cX0_put 3 none, Cond.methodLink RX0 147 yX0_atFirstSquare, Cond.static yX0_atFirstSquare, Cond.code yX0_atFirstSquare cX0_atFirstSquare 1 (some .long), Cond.constantLong RX0 141 (2), Cond.constantLong RX0 143 (4), Cond.constantLong RX0 145 (8), Cond.methodLink RX0 173 yX0_giverLoses]
def wsL_isWorth_r6 : List Cond := [Cond.instanceMethod yX0_giverLoses, Cond.selects RX0 yX0_giverLoses yX0_giverLoses, Cond.methodLink RX0 167 yX0_lift, Cond.instanceMethod yX0_lift, Cond.selects RX0 yX0_lift yX0_lift, Cond.code yX0_lift cX0_lift 3 none, Cond.constantLong RX0 151 (281479271743489), Cond.constantLong RX0 153 (-1), Cond.code yX0_placerWinsLater cX0_placerWinsLater 5 (some .boolean), Cond.methodLink RX0 116 yX0_worthToPlace, Cond.instanceMethod yX0_worthToPlace, Cond.selects RX0 yX0_worthToPlace yX0_worthToPlace, Cond.code yX0_worthToPlace cX0_worthToPlace 3 (some .int), Cond.methodLink RL 40 yX0_best, Cond.instanceMethod yX0_best, Cond.selects RX0 yX0_best yX0_best, Cond.code yX0_best cX0_best 2 (some .int), Cond.methodLink RX0 120 yX0_bestPiece, Cond.instanceMethod yX0_bestPiece, Cond.selects RX0 yX0_bestPiece yX0_bestPiece, Cond.code yX0_bestPiece cX0_bestPiece 4 (some .int), Cond.methodLink RX0 123 yX0_bestSquare, Cond.instanceMethod yX0_bestSquare, Cond.selects RX0 yX0_bestSquare yX0_bestSquare]
def wsL_isWorth_r7 : List Cond := [Cond.code yX0_bestSquare cX0_bestSquare 4 (some .int), Cond.methodLink RX0 164 yX0_worthAfterPlacing, Cond.instanceMethod yX0_worthAfterPlacing, Cond.selects RX0 yX0_worthAfterPlacing yX0_worthAfterPlacing, Cond.code yX0_worthAfterPlacing cX0_worthAfterPlacing 4 (some .int), Cond.methodLink RL 93 yL_safe, Cond.static yL_safe, Cond.code yL_safe cL_safe 4 (some .int), Cond.methodLink RL 64 yL_isOn, Cond.static yL_isOn, Cond.code yL_isOn cL_isOn 4 (some .boolean), Cond.methodLink RL 68 yL_winning, Cond.static yL_winning, Cond.code yL_winning cL_winning 5 (some .int), Cond.methodLink RL 61 yL_won, Cond.static yL_won, Cond.code yL_won cL_won 4 (some .int), Cond.methodLink RL 55 yL_full, Cond.static yL_full, Cond.code yL_full cL_full 4 (some .int), Cond.methodLink RL 49 yL_square, Cond.static yL_square, Cond.code yL_square cL_square 2 (some .int), Cond.methodLink RL 59 yL_shared]
def wsL_isWorth_r8 : List Cond := [Cond.static yL_shared, Cond.code yL_shared cL_shared 6 (some .int), Cond.methodLink RL 95 yL_lowest, Cond.static yL_lowest, Cond.code yL_lowest cL_lowest 2 (some .int)]
def wsL_isWorth : List Cond := .code yL_isWorth cL_isWorth 10 (some .boolean) :: ((wsL_isWorth_r1 ++ (wsL_isWorth_r2 ++ (wsL_isWorth_r3 ++ (wsL_isWorth_r4 ++ (wsL_isWorth_r5 ++ (wsL_isWorth_r6 ++ (wsL_isWorth_r7 ++ wsL_isWorth_r8))))))) ++ wsX00 ++ (vx_atS RX0 50 "java/lang/IndexOutOfBoundsException" ["java/lang/RuntimeException", "java/lang/Exception"]).filter goodWord ++ (vx_atS RX0 57 "java/lang/IllegalStateException" ["java/lang/RuntimeException", "java/lang/Exception"]).filter goodWord ++ (vx_atS RX0 107 "java/lang/IllegalArgumentException" ["java/lang/RuntimeException", "java/lang/Exception"]).filter goodWord)
def wsL_isGiven_r1 : List Cond := [Cond.methodLink RL 64 yL_isOn, Cond.static yL_isOn, Cond.initialized RL, Cond.code yL_isOn cL_isOn 4 (some .boolean), Cond.methodLink RL 98 yL_does, Cond.static yL_does, Cond.codeWith yL_does cL_does 4 (some .int) [(0, 17, 18, 17), (0, 17, 22, 19)], Cond.classLink RL 17 "java/lang/IndexOutOfBoundsException", Cond.classLink RL 19 "java/lang/IllegalStateException", Cond.methodLink RL 8 yX0_give, Cond.instanceMethod yX0_give, Cond.selects RX0 yX0_give yX0_give, Cond.initialized RX0, Cond.code yX0_give cX0_give 2 (some .int), Cond.classLink RX0 46 "java/lang/IndexOutOfBoundsException", Cond.initialized "java/lang/IndexOutOfBoundsException", Cond.classLink RX0 53 "java/lang/IllegalStateException", Cond.initialized "java/lang/IllegalStateException", Cond.fieldLink RX0 29 "Quarterboard" "stage" "I", Cond.fieldLink RX0 35 "Quarterboard" "used" "I", Cond.fieldLink RX0 9 "Quarterboard" "held" "I", Cond.fieldLink RX0 32 "Quarterboard" "player" "I", Cond.methodLink RX0 42 yX0_isNumber, Cond.static yX0_isNumber]
def wsL_isGiven_r2 : List Cond := [Cond.code yX0_isNumber cX0_isNumber 1 (some .boolean), Cond.methodLink RX0 58 yX0_has, Cond.static yX0_has, Cond.code yX0_has cX0_has 2 (some .boolean), Cond.methodLink RL 14 yX0_place, Cond.instanceMethod yX0_place, Cond.selects RX0 yX0_place yX0_place, Cond.code yX0_place cX0_place 3 (some .int), Cond.fieldLink RX0 16 "Quarterboard" "filled" "I", Cond.fieldLink RX0 13 "Quarterboard" "victor" "I", Cond.constant RX0 78 (65535), Cond.methodLink RX0 70 yX0_put, Cond.instanceMethod yX0_put, Cond.selects RX0 yX0_put yX0_put, Cond.code yX0_put cX0_put 3 none, Cond.fieldLink RX0 38 "Quarterboard" "digits" "J", Cond.methodLink RX0 147 yX0_atFirstSquare, Cond.static yX0_atFirstSquare, Cond.code yX0_atFirstSquare cX0_atFirstSquare 1 (some .long), Cond.constantLong RX0 141 (2), Cond.constantLong RX0 143 (4), Cond.constantLong RX0 145 (8), Cond.methodLink RX0 74 yX0_wonLines, Cond.instanceMethod yX0_wonLines]
def wsL_isGiven_r3 : List Cond := [Cond.selects RX0 yX0_wonLines yX0_wonLines, Cond.code yX0_wonLines cX0_wonLines 4 (some .int), Cond.fieldLink RX0 83 "Quarterboard" "LINES" "[I", Cond.methodLink RX0 87 yX0_lines, Cond.instanceMethod yX0_lines, Cond.selects RX0 yX0_lines yX0_lines, Cond.code yX0_lines cX0_lines 1 (some .int), Cond.fieldLink RX0 25 "Quarterboard" "withBlocks" "Z", Cond.methodLink RX0 92 yX0_inCommon, Cond.instanceMethod yX0_inCommon, Cond.selects RX0 yX0_inCommon yX0_inCommon, Cond.code yX0_inCommon cX0_inCommon 6 (some .int), Cond.methodLink RX0 79 yX0_withOne, Cond.static yX0_withOne, Cond.code yX0_withOne cX0_withOne 3 (some .int)]
def wsL_isGiven : List Cond := .code yL_isGiven cL_isGiven 5 (some .boolean) :: ((wsL_isGiven_r1 ++ (wsL_isGiven_r2 ++ wsL_isGiven_r3)) ++ wsX00 ++ (vx_atS RX0 50 "java/lang/IndexOutOfBoundsException" ["java/lang/RuntimeException", "java/lang/Exception"]).filter goodWord ++ (vx_atS RX0 57 "java/lang/IllegalStateException" ["java/lang/RuntimeException", "java/lang/Exception"]).filter goodWord)
def wsL_isPlaced_r1 : List Cond := [Cond.methodLink RL 98 yL_does, Cond.static yL_does, Cond.initialized RL, Cond.codeWith yL_does cL_does 4 (some .int) [(0, 17, 18, 17), (0, 17, 22, 19)], Cond.classLink RL 17 "java/lang/IndexOutOfBoundsException", Cond.classLink RL 19 "java/lang/IllegalStateException", Cond.methodLink RL 8 yX0_give, Cond.instanceMethod yX0_give, Cond.selects RX0 yX0_give yX0_give, Cond.initialized RX0, Cond.code yX0_give cX0_give 2 (some .int), Cond.classLink RX0 46 "java/lang/IndexOutOfBoundsException", Cond.initialized "java/lang/IndexOutOfBoundsException", Cond.classLink RX0 53 "java/lang/IllegalStateException", Cond.initialized "java/lang/IllegalStateException", Cond.fieldLink RX0 29 "Quarterboard" "stage" "I", Cond.fieldLink RX0 35 "Quarterboard" "used" "I", Cond.fieldLink RX0 9 "Quarterboard" "held" "I", Cond.fieldLink RX0 32 "Quarterboard" "player" "I", Cond.methodLink RX0 42 yX0_isNumber, Cond.static yX0_isNumber, Cond.code yX0_isNumber cX0_isNumber 1 (some .boolean), Cond.methodLink RX0 58 yX0_has, Cond.static yX0_has]
def wsL_isPlaced_r2 : List Cond := [Cond.code yX0_has cX0_has 2 (some .boolean), Cond.methodLink RL 14 yX0_place, Cond.instanceMethod yX0_place, Cond.selects RX0 yX0_place yX0_place, Cond.code yX0_place cX0_place 3 (some .int), Cond.fieldLink RX0 16 "Quarterboard" "filled" "I", Cond.fieldLink RX0 13 "Quarterboard" "victor" "I", Cond.constant RX0 78 (65535), Cond.methodLink RX0 70 yX0_put, Cond.instanceMethod yX0_put, Cond.selects RX0 yX0_put yX0_put, Cond.code yX0_put cX0_put 3 none, Cond.fieldLink RX0 38 "Quarterboard" "digits" "J", Cond.methodLink RX0 147 yX0_atFirstSquare, Cond.static yX0_atFirstSquare, Cond.code yX0_atFirstSquare cX0_atFirstSquare 1 (some .long), Cond.constantLong RX0 141 (2), Cond.constantLong RX0 143 (4), Cond.constantLong RX0 145 (8), Cond.methodLink RX0 74 yX0_wonLines, Cond.instanceMethod yX0_wonLines, Cond.selects RX0 yX0_wonLines yX0_wonLines, Cond.code yX0_wonLines cX0_wonLines 4 (some .int), Cond.fieldLink RX0 83 "Quarterboard" "LINES" "[I"]
def wsL_isPlaced_r3 : List Cond := [Cond.methodLink RX0 87 yX0_lines, Cond.instanceMethod yX0_lines, Cond.selects RX0 yX0_lines yX0_lines, Cond.code yX0_lines cX0_lines 1 (some .int), Cond.fieldLink RX0 25 "Quarterboard" "withBlocks" "Z", Cond.methodLink RX0 92 yX0_inCommon, Cond.instanceMethod yX0_inCommon, Cond.selects RX0 yX0_inCommon yX0_inCommon, Cond.code yX0_inCommon cX0_inCommon 6 (some .int), Cond.methodLink RX0 79 yX0_withOne, Cond.static yX0_withOne, Cond.code yX0_withOne cX0_withOne 3 (some .int), Cond.methodLink RL 61 yL_won, Cond.static yL_won, Cond.code yL_won cL_won 4 (some .int), Cond.methodLink RL 55 yL_full, Cond.static yL_full, Cond.code yL_full cL_full 4 (some .int), Cond.methodLink RL 49 yL_square, Cond.static yL_square, Cond.code yL_square cL_square 2 (some .int), Cond.methodLink RL 59 yL_shared, Cond.static yL_shared, Cond.code yL_shared cL_shared 6 (some .int)]
def wsL_isPlaced : List Cond := .code yL_isPlaced cL_isPlaced 5 (some .boolean) :: ((wsL_isPlaced_r1 ++ (wsL_isPlaced_r2 ++ wsL_isPlaced_r3)) ++ wsX00 ++ (vx_atS RX0 50 "java/lang/IndexOutOfBoundsException" ["java/lang/RuntimeException", "java/lang/Exception"]).filter goodWord ++ (vx_atS RX0 57 "java/lang/IllegalStateException" ["java/lang/RuntimeException", "java/lang/Exception"]).filter goodWord)
def wsL_isPlayed_r1 : List Cond := [Cond.methodLink RL 93 yL_safe, Cond.static yL_safe, Cond.initialized RL, Cond.code yL_safe cL_safe 4 (some .int), Cond.methodLink RL 64 yL_isOn, Cond.static yL_isOn, Cond.code yL_isOn cL_isOn 4 (some .boolean), Cond.methodLink RL 68 yL_winning, Cond.static yL_winning, Cond.code yL_winning cL_winning 5 (some .int), Cond.methodLink RL 61 yL_won, Cond.static yL_won, Cond.code yL_won cL_won 4 (some .int), Cond.methodLink RL 55 yL_full, Cond.static yL_full, Cond.code yL_full cL_full 4 (some .int), Cond.methodLink RL 49 yL_square, Cond.static yL_square, Cond.code yL_square cL_square 2 (some .int), Cond.methodLink RL 59 yL_shared, Cond.static yL_shared, Cond.code yL_shared cL_shared 6 (some .int), Cond.methodLink RL 102 yL_isGiven, Cond.static yL_isGiven]
def wsL_isPlayed_r2 : List Cond := [Cond.code yL_isGiven cL_isGiven 5 (some .boolean), Cond.methodLink RL 98 yL_does, Cond.static yL_does, Cond.codeWith yL_does cL_does 4 (some .int) [(0, 17, 18, 17), (0, 17, 22, 19)], Cond.classLink RL 17 "java/lang/IndexOutOfBoundsException", Cond.classLink RL 19 "java/lang/IllegalStateException", Cond.methodLink RL 8 yX0_give, Cond.instanceMethod yX0_give, Cond.selects RX0 yX0_give yX0_give, Cond.initialized RX0, Cond.code yX0_give cX0_give 2 (some .int), Cond.classLink RX0 46 "java/lang/IndexOutOfBoundsException", Cond.initialized "java/lang/IndexOutOfBoundsException", Cond.classLink RX0 53 "java/lang/IllegalStateException", Cond.initialized "java/lang/IllegalStateException", Cond.fieldLink RX0 29 "Quarterboard" "stage" "I", Cond.fieldLink RX0 35 "Quarterboard" "used" "I", Cond.fieldLink RX0 9 "Quarterboard" "held" "I", Cond.fieldLink RX0 32 "Quarterboard" "player" "I", Cond.methodLink RX0 42 yX0_isNumber, Cond.static yX0_isNumber, Cond.code yX0_isNumber cX0_isNumber 1 (some .boolean), Cond.methodLink RX0 58 yX0_has, Cond.static yX0_has]
def wsL_isPlayed_r3 : List Cond := [Cond.code yX0_has cX0_has 2 (some .boolean), Cond.methodLink RL 14 yX0_place, Cond.instanceMethod yX0_place, Cond.selects RX0 yX0_place yX0_place, Cond.code yX0_place cX0_place 3 (some .int), Cond.fieldLink RX0 16 "Quarterboard" "filled" "I", Cond.fieldLink RX0 13 "Quarterboard" "victor" "I", Cond.constant RX0 78 (65535), Cond.methodLink RX0 70 yX0_put, Cond.instanceMethod yX0_put, Cond.selects RX0 yX0_put yX0_put, Cond.code yX0_put cX0_put 3 none, Cond.fieldLink RX0 38 "Quarterboard" "digits" "J", Cond.methodLink RX0 147 yX0_atFirstSquare, Cond.static yX0_atFirstSquare, Cond.code yX0_atFirstSquare cX0_atFirstSquare 1 (some .long), Cond.constantLong RX0 141 (2), Cond.constantLong RX0 143 (4), Cond.constantLong RX0 145 (8), Cond.methodLink RX0 74 yX0_wonLines, Cond.instanceMethod yX0_wonLines, Cond.selects RX0 yX0_wonLines yX0_wonLines, Cond.code yX0_wonLines cX0_wonLines 4 (some .int), Cond.fieldLink RX0 83 "Quarterboard" "LINES" "[I"]
def wsL_isPlayed_r4 : List Cond := [Cond.methodLink RX0 87 yX0_lines, Cond.instanceMethod yX0_lines, Cond.selects RX0 yX0_lines yX0_lines, Cond.code yX0_lines cX0_lines 1 (some .int), Cond.fieldLink RX0 25 "Quarterboard" "withBlocks" "Z", Cond.methodLink RX0 92 yX0_inCommon, Cond.instanceMethod yX0_inCommon, Cond.selects RX0 yX0_inCommon yX0_inCommon, Cond.code yX0_inCommon cX0_inCommon 6 (some .int), Cond.methodLink RX0 79 yX0_withOne, Cond.static yX0_withOne, Cond.code yX0_withOne cX0_withOne 3 (some .int), Cond.methodLink RL 106 yL_isPlaced, Cond.static yL_isPlaced, Cond.code yL_isPlaced cL_isPlaced 5 (some .boolean), Cond.methodLink RL 86 yX0_winner, Cond.instanceMethod yX0_winner, Cond.selects RX0 yX0_winner yX0_winner, Cond.code yX0_winner cX0_winner 1 (some .int)]
def wsL_isPlayed : List Cond := .code yL_isPlayed cL_isPlayed 7 (some .boolean) :: ((wsL_isPlayed_r1 ++ (wsL_isPlayed_r2 ++ (wsL_isPlayed_r3 ++ wsL_isPlayed_r4))) ++ wsX00 ++ (vx_atS RX0 50 "java/lang/IndexOutOfBoundsException" ["java/lang/RuntimeException", "java/lang/Exception"]).filter goodWord ++ (vx_atS RX0 57 "java/lang/IllegalStateException" ["java/lang/RuntimeException", "java/lang/Exception"]).filter goodWord)
def wsL_isBegun_r1 : List Cond := [Cond.methodLink RL 109 yX0_begin, Cond.instanceMethod yX0_begin, Cond.selects RX0 yX0_begin yX0_begin, Cond.initialized RX0, Cond.code yX0_begin cX0_begin 3 (some .int), Cond.fieldLink RX0 16 "Quarterboard" "filled" "I", Cond.fieldLink RX0 25 "Quarterboard" "withBlocks" "Z", Cond.fieldLink RX0 29 "Quarterboard" "stage" "I", Cond.fieldLink RX0 32 "Quarterboard" "player" "I", Cond.fieldLink RX0 9 "Quarterboard" "held" "I", Cond.fieldLink RX0 13 "Quarterboard" "victor" "I", Cond.fieldLink RX0 35 "Quarterboard" "used" "I", Cond.fieldLink RX0 38 "Quarterboard" "digits" "J", Cond.methodLink RX0 19 yJ6_bitCount_0f7a4, Cond.static yJ6_bitCount_0f7a4, Cond.initialized RJ6, Cond.code yJ6_bitCount_0f7a4 cJ6_bitCount_0f7a4 1 (some .int), Cond.constant RJ6 265 (1431655765), Cond.constant RJ6 266 (858993459), Cond.constant RJ6 267 (252645135), Cond.methodLink RL 113 yX0_symmetries, Cond.instanceMethod yX0_symmetries, Cond.selects RX0 yX0_symmetries yX0_symmetries, Cond.code yX0_symmetries cX0_symmetries 3 (some .int)]
def wsL_isBegun_r2 : List Cond := [Cond.methodLink RX0 137 yX0_waysOfMarks, Cond.instanceMethod yX0_waysOfMarks, Cond.selects RX0 yX0_waysOfMarks yX0_waysOfMarks, Cond.code yX0_waysOfMarks cX0_waysOfMarks 12 (some .int), Cond.methodLink RX0 185 yX0_turned, Cond.static yX0_turned, Cond.code yX0_turned cX0_turned 6 (some .long), Cond.constantLong RX0 151 (281479271743489), Cond.methodLink RX0 182 yX0_turnedSquare, Cond.static yX0_turnedSquare, Cond.code yX0_turnedSquare cX0_turnedSquare 5 (some .int), Cond.methodLink RX0 189 yX0_levelled, Cond.static yX0_levelled, Cond.code yX0_levelled cX0_levelled 7 (some .long), Cond.methodLink RX0 79 yX0_withOne, Cond.static yX0_withOne, Cond.code yX0_withOne cX0_withOne 3 (some .int), Cond.constant RX0 78 (65535), Cond.methodLink RX0 192 yX0_equalMarks, Cond.static yX0_equalMarks, Cond.code yX0_equalMarks cX0_equalMarks 6 (some .int)]
def wsL_isBegun : List Cond := .code yL_isBegun cL_isBegun 6 (some .boolean) :: ((wsL_isBegun_r1 ++ wsL_isBegun_r2) ++ wsX00)
def wsL_law0_r1 : List Cond := [Cond.classLink RL 9 RX0, Cond.instantiable RX0 11, Cond.initialized RX0, Cond.arrayClass .int, Cond.constant RL 125 (65535), Cond.methodLink RL 116 yX0_init, Cond.instanceMethod yX0_init, Cond.code yX0_init cX0_init 1 none, Cond.methodLink RX0 1 objectInit, Cond.instanceMethod objectInit, Cond.code objectInit ⟨#[0xb1]⟩ 1 none, Cond.fieldLink RX0 9 "Quarterboard" "held" "I", Cond.fieldLink RX0 13 "Quarterboard" "victor" "I", Cond.methodLink RL 117 yL_isBoard, Cond.static yL_isBoard, Cond.initialized RL, Cond.code yL_isBoard cL_isBoard 5 (some .boolean), Cond.methodLink RL 71 yX0_lines, Cond.instanceMethod yX0_lines, Cond.selects RX0 yX0_lines yX0_lines, Cond.code yX0_lines cX0_lines 1 (some .int), Cond.fieldLink RX0 25 "Quarterboard" "withBlocks" "Z", Cond.fieldLink RX0 83 "Quarterboard" "LINES" "[I", Cond.methodLink RL 74 yX0_phase]
def wsL_law0_r2 : List Cond := [Cond.instanceMethod yX0_phase, Cond.selects RX0 yX0_phase yX0_phase, Cond.code yX0_phase cX0_phase 1 (some .int), Cond.fieldLink RX0 29 "Quarterboard" "stage" "I", Cond.methodLink RL 77 yX0_onTurn, Cond.instanceMethod yX0_onTurn, Cond.selects RX0 yX0_onTurn yX0_onTurn, Cond.code yX0_onTurn cX0_onTurn 1 (some .int), Cond.fieldLink RX0 32 "Quarterboard" "player" "I", Cond.methodLink RL 80 yX0_hand, Cond.instanceMethod yX0_hand, Cond.selects RX0 yX0_hand yX0_hand, Cond.code yX0_hand cX0_hand 1 (some .int), Cond.methodLink RL 83 yX0_placed, Cond.instanceMethod yX0_placed, Cond.selects RX0 yX0_placed yX0_placed, Cond.code yX0_placed cX0_placed 1 (some .int), Cond.fieldLink RX0 16 "Quarterboard" "filled" "I", Cond.methodLink RX0 19 yJ6_bitCount_0f7a4, Cond.static yJ6_bitCount_0f7a4, Cond.initialized RJ6, Cond.code yJ6_bitCount_0f7a4 cJ6_bitCount_0f7a4 1 (some .int), Cond.constant RJ6 265 (1431655765), Cond.constant RJ6 266 (858993459)]
def wsL_law0_r3 : List Cond := [Cond.constant RJ6 267 (252645135), Cond.methodLink RL 86 yX0_winner, Cond.instanceMethod yX0_winner, Cond.selects RX0 yX0_winner yX0_winner, Cond.code yX0_winner cX0_winner 1 (some .int), Cond.methodLink RL 21 yX0_pieceAt, Cond.instanceMethod yX0_pieceAt, Cond.selects RX0 yX0_pieceAt yX0_pieceAt, Cond.code yX0_pieceAt cX0_pieceAt 4 (some .int), Cond.classLink RX0 46 "java/lang/IndexOutOfBoundsException", Cond.initialized "java/lang/IndexOutOfBoundsException", Cond.fieldLink RX0 38 "Quarterboard" "digits" "J", Cond.methodLink RX0 42 yX0_isNumber, Cond.static yX0_isNumber, Cond.code yX0_isNumber cX0_isNumber 1 (some .boolean), Cond.methodLink RX0 58 yX0_has, Cond.static yX0_has, Cond.code yX0_has cX0_has 2 (some .boolean), Cond.methodLink RX0 79 yX0_withOne, Cond.static yX0_withOne, Cond.code yX0_withOne cX0_withOne 3 (some .int), Cond.constant RX0 78 (65535), Cond.methodLink RL 24 yX0_onLine, Cond.instanceMethod yX0_onLine]
def wsL_law0_r4 : List Cond := [Cond.selects RX0 yX0_onLine yX0_onLine, Cond.code yX0_onLine cX0_onLine 2 (some .int), Cond.methodLink RX0 87 yX0_lines, Cond.methodLink RL 55 yL_full, Cond.static yL_full, Cond.code yL_full cL_full 4 (some .int), Cond.methodLink RL 49 yL_square, Cond.static yL_square, Cond.code yL_square cL_square 2 (some .int), Cond.methodLink RL 27 yX0_shared, Cond.instanceMethod yX0_shared, Cond.selects RX0 yX0_shared yX0_shared, Cond.code yX0_shared cX0_shared 2 (some .int), Cond.methodLink RX0 92 yX0_inCommon, Cond.instanceMethod yX0_inCommon, Cond.selects RX0 yX0_inCommon yX0_inCommon, Cond.code yX0_inCommon cX0_inCommon 6 (some .int), Cond.methodLink RL 59 yL_shared, Cond.static yL_shared, Cond.code yL_shared cL_shared 6 (some .int), Cond.methodLink RL 89 yL_asks, Cond.static yL_asks, Cond.codeWith yL_asks cL_asks 4 (some .int) [(0, 81, 82, 17), (0, 81, 86, 43), (0, 81, 90, 19)], Cond.classLink RL 17 "java/lang/IndexOutOfBoundsException"]
def wsL_law0_r5 : List Cond := [Cond.classLink RL 43 "java/lang/IllegalArgumentException", Cond.classLink RL 19 "java/lang/IllegalStateException", Cond.methodLink RL 30 yX0_winning, Cond.instanceMethod yX0_winning, Cond.selects RX0 yX0_winning yX0_winning, Cond.code yX0_winning cX0_winning 2 (some .int), Cond.classLink RX0 53 "java/lang/IllegalStateException", Cond.initialized "java/lang/IllegalStateException", Cond.fieldLink RX0 35 "Quarterboard" "used" "I", Cond.methodLink RX0 97 yX0_winningSquares, Cond.instanceMethod yX0_winningSquares, Cond.selects RX0 yX0_winningSquares yX0_winningSquares, Cond.code yX0_winningSquares cX0_winningSquares 6 (some .int), Cond.methodLink RX0 155 yX0_ownDigits, Cond.static yX0_ownDigits, Cond.code yX0_ownDigits cX0_ownDigits 1 (some .int), Cond.methodLink RX0 158 yX0_lacksOne, Cond.instanceMethod yX0_lacksOne, Cond.selects RX0 yX0_lacksOne yX0_lacksOne, Cond.code yX0_lacksOne cX0_lacksOne 3 (some .boolean), Cond.methodLink RL 33 yX0_safe, Cond.instanceMethod yX0_safe, Cond.selects RX0 yX0_safe yX0_safe, Cond.code yX0_safe cX0_safe 1 (some .int)]
def wsL_law0_r6 : List Cond := [Cond.methodLink RX0 100 yX0_safePieces, Cond.instanceMethod yX0_safePieces, Cond.selects RX0 yX0_safePieces yX0_safePieces, Cond.code yX0_safePieces cX0_safePieces 4 (some .int), Cond.methodLink RX0 161 yX0_winningDigits, Cond.instanceMethod yX0_winningDigits, Cond.selects RX0 yX0_winningDigits yX0_winningDigits, Cond.code yX0_winningDigits cX0_winningDigits 4 (some .int), Cond.methodLink RL 37 yX0_worth, Cond.instanceMethod yX0_worth, Cond.selects RX0 yX0_worth yX0_worth, Cond.code yX0_worth cX0_worth 2 (some .int), Cond.classLink RX0 103 "java/lang/IllegalArgumentException", Cond.initialized "java/lang/IllegalArgumentException", Cond.methodLink RX0 108 yX0_canLookAhead, Cond.instanceMethod yX0_canLookAhead, Cond.selects RX0 yX0_canLookAhead yX0_canLookAhead, Cond.code yX0_canLookAhead cX0_canLookAhead 3 (some .boolean), Cond.methodLink RX0 113 yX0_worthToGive, Cond.instanceMethod yX0_worthToGive, Cond.selects RX0 yX0_worthToGive yX0_worthToGive, Cond.code yX0_worthToGive cX0_worthToGive 2 (some .int), Cond.methodLink RX0 170 yX0_giverWins, Cond.instanceMethod yX0_giverWins]
def wsL_law0_r7 : List Cond := [Cond.selects RX0 yX0_giverWins yX0_giverWins, Cond.code yX0_giverWins cX0_giverWins 4 (some .boolean), Cond.methodLink RX0 179 yX0_placerLoses, Cond.instanceMethod yX0_placerLoses, Cond.selects RX0 yX0_placerLoses yX0_placerLoses, Cond.code yX0_giverLoses cX0_giverLoses 4 (some .boolean), Cond.methodLink RX0 176 yX0_placerWinsLater, Cond.instanceMethod yX0_placerWinsLater, Cond.selects RX0 yX0_placerWinsLater yX0_placerWinsLater, Cond.code yX0_placerLoses cX0_placerLoses 5 (some .boolean), Cond.methodLink RX0 70 yX0_put, Cond.instanceMethod yX0_put, Cond.selects RX0 yX0_put yX0_put, Cond.code yX0_put cX0_put 3 none, Cond.methodLink RX0 147 yX0_atFirstSquare, Cond.static yX0_atFirstSquare, Cond.code yX0_atFirstSquare cX0_atFirstSquare 1 (some .long), Cond.constantLong RX0 141 (2), Cond.constantLong RX0 143 (4), Cond.constantLong RX0 145 (8), Cond.methodLink RX0 173 yX0_giverLoses, Cond.instanceMethod yX0_giverLoses, Cond.selects RX0 yX0_giverLoses yX0_giverLoses, Cond.methodLink RX0 167 yX0_lift]
def wsL_law0_r8 : List Cond := [Cond.instanceMethod yX0_lift, Cond.selects RX0 yX0_lift yX0_lift, Cond.code yX0_lift cX0_lift 3 none, Cond.constantLong RX0 151 (281479271743489), Cond.constantLong RX0 153 (-1), Cond.code yX0_placerWinsLater cX0_placerWinsLater 5 (some .boolean), Cond.methodLink RX0 116 yX0_worthToPlace, Cond.instanceMethod yX0_worthToPlace, Cond.selects RX0 yX0_worthToPlace yX0_worthToPlace, Cond.code yX0_worthToPlace cX0_worthToPlace 3 (some .int), Cond.methodLink RL 40 yX0_best, Cond.instanceMethod yX0_best, Cond.selects RX0 yX0_best yX0_best, Cond.code yX0_best cX0_best 2 (some .int), Cond.methodLink RX0 120 yX0_bestPiece, Cond.instanceMethod yX0_bestPiece, Cond.selects RX0 yX0_bestPiece yX0_bestPiece, Cond.code yX0_bestPiece cX0_bestPiece 4 (some .int), Cond.methodLink RX0 123 yX0_bestSquare, Cond.instanceMethod yX0_bestSquare, Cond.selects RX0 yX0_bestSquare yX0_bestSquare, Cond.code yX0_bestSquare cX0_bestSquare 4 (some .int), Cond.methodLink RX0 164 yX0_worthAfterPlacing, Cond.instanceMethod yX0_worthAfterPlacing]
def wsL_law0_r9 : List Cond := [Cond.selects RX0 yX0_worthAfterPlacing yX0_worthAfterPlacing, Cond.code yX0_worthAfterPlacing cX0_worthAfterPlacing 4 (some .int), Cond.methodLink RL 121 yL_alike, Cond.static yL_alike, Cond.codeWith yL_alike cL_alike 2 (some .int) [(0, 12, 13, 19)], Cond.methodLink RL 45 yX0_isAlike, Cond.instanceMethod yX0_isAlike, Cond.selects RX0 yX0_isAlike yX0_isAlike, Cond.code yX0_isAlike cX0_isAlike 2 (some .boolean), Cond.fieldLink RX0 126 "Quarterboard" "hasKept" "Z", Cond.fieldLink RX0 129 "Quarterboard" "keptFilled" "I", Cond.fieldLink RX0 132 "Quarterboard" "keptDigits" "J", Cond.methodLink RX0 137 yX0_waysOfMarks, Cond.instanceMethod yX0_waysOfMarks, Cond.selects RX0 yX0_waysOfMarks yX0_waysOfMarks, Cond.code yX0_waysOfMarks cX0_waysOfMarks 12 (some .int), Cond.methodLink RX0 185 yX0_turned, Cond.static yX0_turned, Cond.code yX0_turned cX0_turned 6 (some .long), Cond.methodLink RX0 182 yX0_turnedSquare, Cond.static yX0_turnedSquare, Cond.code yX0_turnedSquare cX0_turnedSquare 5 (some .int), Cond.methodLink RX0 189 yX0_levelled, Cond.static yX0_levelled]
def wsL_law0_r10 : List Cond := [Cond.code yX0_levelled cX0_levelled 7 (some .long), Cond.methodLink RX0 192 yX0_equalMarks, Cond.static yX0_equalMarks, Cond.code yX0_equalMarks cX0_equalMarks 6 (some .int), Cond.methodLink RL 126 yL_part, Cond.static yL_part, Cond.code yL_part cL_part 4 (some .int), Cond.constant RL 7 (2147483647), Cond.methodLink RL 129 yL_isBegun, Cond.static yL_isBegun, Cond.code yL_isBegun cL_isBegun 6 (some .boolean), Cond.methodLink RL 109 yX0_begin, Cond.instanceMethod yX0_begin, Cond.selects RX0 yX0_begin yX0_begin, Cond.code yX0_begin cX0_begin 3 (some .int), Cond.methodLink RL 113 yX0_symmetries, Cond.instanceMethod yX0_symmetries, Cond.selects RX0 yX0_symmetries yX0_symmetries, Cond.code yX0_symmetries cX0_symmetries 3 (some .int), Cond.methodLink RL 133 yX0_keep, Cond.instanceMethod yX0_keep, Cond.selects RX0 yX0_keep yX0_keep, Cond.code yX0_keep cX0_keep 1 (some .int), Cond.methodLink RL 102 yL_isGiven]
def wsL_law0_r11 : List Cond := [Cond.static yL_isGiven, Cond.code yL_isGiven cL_isGiven 5 (some .boolean), Cond.methodLink RL 64 yL_isOn, Cond.static yL_isOn, Cond.code yL_isOn cL_isOn 4 (some .boolean), Cond.methodLink RL 98 yL_does, Cond.static yL_does, Cond.codeWith yL_does cL_does 4 (some .int) [(0, 17, 18, 17), (0, 17, 22, 19)], Cond.methodLink RL 8 yX0_give, Cond.instanceMethod yX0_give, Cond.selects RX0 yX0_give yX0_give, Cond.code yX0_give cX0_give 2 (some .int), Cond.methodLink RL 14 yX0_place, Cond.instanceMethod yX0_place, Cond.selects RX0 yX0_place yX0_place, Cond.code yX0_place cX0_place 3 (some .int), Cond.methodLink RX0 74 yX0_wonLines, Cond.instanceMethod yX0_wonLines, Cond.selects RX0 yX0_wonLines yX0_wonLines, Cond.code yX0_wonLines cX0_wonLines 4 (some .int), Cond.methodLink RL 106 yL_isPlaced, Cond.static yL_isPlaced, Cond.code yL_isPlaced cL_isPlaced 5 (some .boolean), Cond.methodLink RL 61 yL_won]
def wsL_law0_r12 : List Cond := [Cond.static yL_won, Cond.code yL_won cL_won 4 (some .int), Cond.methodLink RL 136 yL_isPlayed, Cond.static yL_isPlayed, Cond.code yL_isPlayed cL_isPlayed 7 (some .boolean), Cond.methodLink RL 93 yL_safe, Cond.static yL_safe, Cond.code yL_safe cL_safe 4 (some .int), Cond.methodLink RL 68 yL_winning, Cond.static yL_winning, Cond.code yL_winning cL_winning 5 (some .int), Cond.methodLink RL 140 yL_isSafe, Cond.static yL_isSafe, Cond.code yL_isSafe cL_isSafe 5 (some .boolean), Cond.methodLink RL 143 yL_isWorth, Cond.static yL_isWorth, Cond.code yL_isWorth cL_isWorth 10 (some .boolean), Cond.methodLink RL 95 yL_lowest, Cond.static yL_lowest, Cond.code yL_lowest cL_lowest 2 (some .int)]
def wsL_law0 : List Cond := (wsL_law0_r1 ++ (wsL_law0_r2 ++ (wsL_law0_r3 ++ (wsL_law0_r4 ++ (wsL_law0_r5 ++ (wsL_law0_r6 ++ (wsL_law0_r7 ++ (wsL_law0_r8 ++ (wsL_law0_r9 ++ (wsL_law0_r10 ++ (wsL_law0_r11 ++ wsL_law0_r12))))))))))) ++ wsX00 ++ ([] : List Cond)
def wsL_law : List Cond := wsL_law0 ++ (vx_atS RX0 50 "java/lang/IndexOutOfBoundsException" ["java/lang/RuntimeException", "java/lang/Exception"]).filter goodWord ++ (vx_atS RX0 57 "java/lang/IllegalStateException" ["java/lang/RuntimeException", "java/lang/Exception"]).filter goodWord ++ (vx_atS RX0 107 "java/lang/IllegalArgumentException" ["java/lang/RuntimeException", "java/lang/Exception"]).filter goodWord
set_option maxRecDepth 20000 in
theorem wsL_law0_r1_in : ∀ w ∈ wsL_law0_r1, w ∈ lw_tbl := fun w h => (goodIn_p wsL_law0_r1 [33, 36, 366, 154] (by decide +kernel) (by decide +kernel) w h).1
set_option maxRecDepth 20000 in
theorem wsL_law0_r2_in : ∀ w ∈ wsL_law0_r2, w ∈ lw_tbl := fun w h => (goodIn_p wsL_law0_r2 [371, 375, 379, 383, 181] (by decide +kernel) (by decide +kernel) w h).1
set_option maxRecDepth 20000 in
theorem wsL_law0_r3_in : ∀ w ∈ wsL_law0_r3, w ∈ lw_tbl := fun w h => (goodIn_p wsL_law0_r3 [387, 267, 221, 171, 167] (by decide +kernel) (by decide +kernel) w h).1
set_option maxRecDepth 20000 in
theorem wsL_law0_r4_in : ∀ w ∈ wsL_law0_r4, w ∈ lw_tbl := fun w h => (goodIn_p wsL_law0_r4 [271, 390, 393, 276, 164, 396] (by decide +kernel) (by decide +kernel) w h).1
set_option maxRecDepth 20000 in
theorem wsL_law0_r5_in : ∀ w ∈ wsL_law0_r5, w ∈ lw_tbl := fun w h => (goodIn_p wsL_law0_r5 [280, 285, 174, 160, 74] (by decide +kernel) (by decide +kernel) w h).1
set_option maxRecDepth 20000 in
theorem wsL_law0_r6_in : ∀ w ∈ wsL_law0_r6, w ∈ lw_tbl := fun w h => (goodIn_p wsL_law0_r6 [146, 150, 289, 309, 314] (by decide +kernel) (by decide +kernel) w h).1
set_option maxRecDepth 20000 in
theorem wsL_law0_r7_in : ∀ w ∈ wsL_law0_r7, w ∈ lw_tbl := fun w h => (goodIn_p wsL_law0_r7 [318, 326, 322, 249, 252] (by decide +kernel) (by decide +kernel) w h).1
set_option maxRecDepth 20000 in
theorem wsL_law0_r8_in : ∀ w ∈ wsL_law0_r8, w ∈ lw_tbl := fun w h => (goodIn_p wsL_law0_r8 [334, 330, 339, 343, 347, 351] (by decide +kernel) (by decide +kernel) w h).1
set_option maxRecDepth 20000 in
theorem wsL_law0_r9_in : ∀ w ∈ wsL_law0_r9, w ∈ lw_tbl := fun w h => (goodIn_p wsL_law0_r9 [355, 362, 192, 195, 199] (by decide +kernel) (by decide +kernel) w h).1
set_option maxRecDepth 20000 in
theorem wsL_law0_r10_in : ∀ w ∈ wsL_law0_r10, w ∈ lw_tbl := fun w h => (goodIn_p wsL_law0_r10 [202, 205, 208, 429, 433, 188, 178] (by decide +kernel) (by decide +kernel) w h).1
set_option maxRecDepth 20000 in
theorem wsL_law0_r11_in : ∀ w ∈ wsL_law0_r11, w ∈ lw_tbl := fun w h => (goodIn_p wsL_law0_r11 [420, 402, 218, 242, 259, 423] (by decide +kernel) (by decide +kernel) w h).1
set_option maxRecDepth 20000 in
theorem wsL_law0_r12_in : ∀ w ∈ wsL_law0_r12, w ∈ lw_tbl := fun w h => (goodIn_p wsL_law0_r12 [408, 426, 411, 405, 399, 414, 417] (by decide +kernel) (by decide +kernel) w h).1
theorem wsL_law_t0 : ∀ w ∈ wsX00, w ∈ lw_tbl := by decide +kernel
theorem wsL_law_in0 : ∀ w ∈ wsL_law0, w ∈ lw_tbl := fun w h => (List.mem_append.mp h).elim (fun h => (List.mem_append.mp h).elim (fun h => (List.mem_append.mp h).elim (fun h => wsL_law0_r1_in w h) (fun h => (List.mem_append.mp h).elim (fun h => wsL_law0_r2_in w h) (fun h => (List.mem_append.mp h).elim (fun h => wsL_law0_r3_in w h) (fun h => (List.mem_append.mp h).elim (fun h => wsL_law0_r4_in w h) (fun h => (List.mem_append.mp h).elim (fun h => wsL_law0_r5_in w h) (fun h => (List.mem_append.mp h).elim (fun h => wsL_law0_r6_in w h) (fun h => (List.mem_append.mp h).elim (fun h => wsL_law0_r7_in w h) (fun h => (List.mem_append.mp h).elim (fun h => wsL_law0_r8_in w h) (fun h => (List.mem_append.mp h).elim (fun h => wsL_law0_r9_in w h) (fun h => (List.mem_append.mp h).elim (fun h => wsL_law0_r10_in w h) (fun h => (List.mem_append.mp h).elim (fun h => wsL_law0_r11_in w h) (fun h => wsL_law0_r12_in w h)))))))))))) (fun h => wsL_law_t0 w h)) (fun h => nomatch h)
theorem wsL_law_x0 : ∀ w ∈ (vx_atS RX0 50 "java/lang/IndexOutOfBoundsException" ["java/lang/RuntimeException", "java/lang/Exception"]).filter goodWord, w ∈ lw_tbl := by decide +kernel
theorem wsL_law_x1 : ∀ w ∈ (vx_atS RX0 57 "java/lang/IllegalStateException" ["java/lang/RuntimeException", "java/lang/Exception"]).filter goodWord, w ∈ lw_tbl := by decide +kernel
theorem wsL_law_x2 : ∀ w ∈ (vx_atS RX0 107 "java/lang/IllegalArgumentException" ["java/lang/RuntimeException", "java/lang/Exception"]).filter goodWord, w ∈ lw_tbl := by decide +kernel
theorem wsL_law_in : ∀ w ∈ wsL_law, w ∈ lw_tbl := fun w h => (List.mem_append.mp h).elim (fun h => (List.mem_append.mp h).elim (fun h => (List.mem_append.mp h).elim (fun h => wsL_law_in0 w h) (fun h => wsL_law_x0 w h)) (fun h => wsL_law_x1 w h)) (fun h => wsL_law_x2 w h)
theorem inlX0 : ∀ w ∈ wsX00, w ∈ wsL_law := fun _ h => List.mem_append_left _ (List.mem_append_left _ (List.mem_append_left _ (List.mem_append_left _ (List.mem_append_right _ h))))
theorem inX0 : ∀ w ∈ wsX00, w ∈ lw_tbl := fun w h => wsL_law_in w (inlX0 w h)
theorem inX1 : ∀ w ∈ wsX10, w ∈ lw_tbl := by decide +kernel
theorem inJ6 : ∀ w ∈ wsJ60, w ∈ lw_tbl := by decide +kernel
theorem inJ0 : ∀ w ∈ wsJ00, w ∈ lw_tbl := by decide +kernel
theorem dL_part_0 : decode cL_part 0 = .ok (.iload_n 1, 1) := by decide +kernel
theorem dL_part_1 : decode cL_part 1 = .ok (.aload_n 0, 1) := by decide +kernel
theorem dL_part_2 : decode cL_part 2 = .ok (.arraylength, 1) := by decide +kernel
theorem dL_part_3 : decode cL_part 3 = .ok (.if_icmp .ge 9, 3) := by decide +kernel
theorem dL_part_6 : decode cL_part 6 = .ok (.aload_n 0, 1) := by decide +kernel
theorem dL_part_7 : decode cL_part 7 = .ok (.iload_n 1, 1) := by decide +kernel
theorem dL_part_8 : decode cL_part 8 = .ok (.iaload, 1) := by decide +kernel
theorem dL_part_9 : decode cL_part 9 = .ok (.goto 15, 3) := by decide +kernel
theorem dL_part_12 : decode cL_part 12 = .ok (.sipush 229, 3) := by decide +kernel
theorem dL_part_15 : decode cL_part 15 = .ok (.iload_n 1, 1) := by decide +kernel
theorem dL_part_16 : decode cL_part 16 = .ok (.imul, 1) := by decide +kernel
theorem dL_part_17 : decode cL_part 17 = .ok (.bipush 107, 2) := by decide +kernel
theorem dL_part_19 : decode cL_part 19 = .ok (.iload_n 1, 1) := by decide +kernel
theorem dL_part_20 : decode cL_part 20 = .ok (.imul, 1) := by decide +kernel
theorem dL_part_21 : decode cL_part 21 = .ok (.iload_n 1, 1) := by decide +kernel
theorem dL_part_22 : decode cL_part 22 = .ok (.imul, 1) := by decide +kernel
theorem dL_part_23 : decode cL_part 23 = .ok (.iadd, 1) := by decide +kernel
theorem dL_part_24 : decode cL_part 24 = .ok (.istore_n 3, 1) := by decide +kernel
theorem dL_part_25 : decode cL_part 25 = .ok (.iload_n 3, 1) := by decide +kernel
theorem dL_part_26 : decode cL_part 26 = .ok (.ldc 7, 2) := by decide +kernel
theorem dL_part_28 : decode cL_part 28 = .ok (.iand, 1) := by decide +kernel
theorem dL_part_29 : decode cL_part 29 = .ok (.iload_n 2, 1) := by decide +kernel
theorem dL_part_30 : decode cL_part 30 = .ok (.irem, 1) := by decide +kernel
theorem dL_part_31 : decode cL_part 31 = .ok (.ireturn, 1) := by decide +kernel
set_option maxRecDepth 20000 in
theorem ggL_does_X0_give : GoodIn wsL_does wsX0_give := goodIn_ca (goodIn_ca (goodIn_r _ [7, 8, 9, 10, 11, 12, 13, 14, 15, 16, 17, 6, 18, 19, 20, 21, 57, 58, 59, 60, 61, 62, 63, 64, 65, 66, 67] (by decide +kernel) (by decide +kernel)) (goodIn_sub (fun _ h => List.mem_cons_of_mem _ (List.mem_append_left _ (List.mem_append_right _ h))) (by decide +kernel))) (goodIn_sub (fun _ h => List.mem_cons_of_mem _ (List.mem_append_right _ h)) (by decide +kernel))
set_option maxRecDepth 20000 in
theorem gL_does_X0_give : GoodIn wsL_does (wsV RL 8 RX0 yX0_give wsX0_give) := goodIn_app (goodIn_of _ (by decide +kernel)) ggL_does_X0_give
set_option maxRecDepth 20000 in
theorem ggL_does_X0_place : GoodIn wsL_does wsX0_place := goodIn_ca (goodIn_ca (goodIn_r _ [25, 8, 9, 10, 11, 12, 26, 14, 15, 27, 28, 16, 17, 6, 18, 19, 20, 21, 29, 30, 31, 32, 13, 33, 34, 35, 36, 37, 38, 39, 40, 41, 42, 43, 44, 45, 46, 47, 48, 49, 50, 51, 52, 53, 54, 55, 56, 57, 58, 59, 60, 61, 62, 63, 64, 65, 66, 67] (by decide +kernel) (by decide +kernel)) (goodIn_sub (fun _ h => List.mem_cons_of_mem _ (List.mem_append_left _ (List.mem_append_right _ h))) (by decide +kernel))) (goodIn_sub (fun _ h => List.mem_cons_of_mem _ (List.mem_append_right _ h)) (by decide +kernel))
set_option maxRecDepth 20000 in
theorem gL_does_X0_place : GoodIn wsL_does (wsV RL 14 RX0 yX0_place wsX0_place) := goodIn_app (goodIn_of _ (by decide +kernel)) ggL_does_X0_place
theorem dL_does_0 : decode cL_does 0 = .ok (.iload_n 1, 1) := by decide +kernel
theorem dL_does_1 : decode cL_does 1 = .ok (.ifCond .eq 11, 3) := by decide +kernel
theorem dL_does_4 : decode cL_does 4 = .ok (.aload_n 0, 1) := by decide +kernel
theorem dL_does_5 : decode cL_does 5 = .ok (.iload_n 2, 1) := by decide +kernel
theorem dL_does_6 : decode cL_does 6 = .ok (.invokevirtual 8, 3) := by decide +kernel
theorem dL_does_9 : decode cL_does 9 = .ok (.goto 8, 3) := by decide +kernel
theorem dL_does_12 : decode cL_does 12 = .ok (.aload_n 0, 1) := by decide +kernel
theorem dL_does_13 : decode cL_does 13 = .ok (.iload_n 2, 1) := by decide +kernel
theorem dL_does_14 : decode cL_does 14 = .ok (.invokevirtual 14, 3) := by decide +kernel
theorem dL_does_17 : decode cL_does 17 = .ok (.ireturn, 1) := by decide +kernel
theorem dL_does_18 : decode cL_does 18 = .ok (.astore_n 3, 1) := by decide +kernel
theorem dL_does_19 : decode cL_does 19 = .ok (.bipush (-30), 2) := by decide +kernel
theorem dL_does_21 : decode cL_does 21 = .ok (.ireturn, 1) := by decide +kernel
theorem dL_does_22 : decode cL_does 22 = .ok (.astore_n 3, 1) := by decide +kernel
theorem dL_does_23 : decode cL_does 23 = .ok (.bipush (-10), 2) := by decide +kernel
theorem dL_does_25 : decode cL_does 25 = .ok (.ireturn, 1) := by decide +kernel
set_option maxRecDepth 20000 in
theorem ggL_asks_X0_pieceAt : GoodIn wsL_asks wsX0_pieceAt := goodIn_ca (goodIn_r _ [8, 9, 10, 11, 12, 13, 14, 7, 15, 16, 17, 18, 19, 20, 21, 22, 146, 147, 148, 149, 150, 151, 152, 153, 154, 155, 156] (by decide +kernel) (by decide +kernel)) (goodIn_sub (fun _ h => List.mem_cons_of_mem _ (List.mem_append_left _ (List.mem_append_left _ (List.mem_append_right _ h)))) (by decide +kernel))
set_option maxRecDepth 20000 in
theorem gL_asks_X0_pieceAt : GoodIn wsL_asks (wsV RL 21 RX0 yX0_pieceAt wsX0_pieceAt) := goodIn_app (goodIn_of _ (by decide +kernel)) ggL_asks_X0_pieceAt
set_option maxRecDepth 20000 in
theorem ggL_asks_X0_onLine : GoodIn wsL_asks wsX0_onLine := goodIn_ca (goodIn_r _ [26, 9, 10, 27, 11, 28, 29, 30, 7, 31, 32, 33, 34, 35, 36, 37, 38, 39, 146, 147, 148, 149, 150, 151, 152, 153, 154, 155, 156] (by decide +kernel) (by decide +kernel)) (goodIn_sub (fun _ h => List.mem_cons_of_mem _ (List.mem_append_left _ (List.mem_append_left _ (List.mem_append_right _ h)))) (by decide +kernel))
set_option maxRecDepth 20000 in
theorem gL_asks_X0_onLine : GoodIn wsL_asks (wsV RL 24 RX0 yX0_onLine wsX0_onLine) := goodIn_app (goodIn_of _ (by decide +kernel)) ggL_asks_X0_onLine
set_option maxRecDepth 20000 in
theorem ggL_asks_X0_shared : GoodIn wsL_asks wsX0_shared := goodIn_ca (goodIn_r _ [43, 9, 10, 27, 28, 29, 30, 7, 31, 32, 44, 45, 46, 47, 11, 12, 19, 20, 21, 22, 146, 147, 148, 149, 150, 151, 152, 153, 154, 155, 156] (by decide +kernel) (by decide +kernel)) (goodIn_sub (fun _ h => List.mem_cons_of_mem _ (List.mem_append_left _ (List.mem_append_left _ (List.mem_append_right _ h)))) (by decide +kernel))
set_option maxRecDepth 20000 in
theorem gL_asks_X0_shared : GoodIn wsL_asks (wsV RL 27 RX0 yX0_shared wsX0_shared) := goodIn_app (goodIn_of _ (by decide +kernel)) ggL_asks_X0_shared
set_option maxRecDepth 20000 in
theorem ggL_asks_X0_winning : GoodIn wsL_asks wsX0_winning := goodIn_ca (goodIn_ca (goodIn_r _ [51, 9, 10, 52, 53, 54, 55, 13, 14, 7, 15, 16, 17, 18, 56, 57, 58, 59, 27, 11, 60, 61, 62, 28, 29, 30, 31, 32, 63, 64, 65, 66, 44, 45, 46, 47, 12, 19, 20, 21, 22, 146, 147, 148, 149, 150, 151, 152, 153, 154, 155, 156] (by decide +kernel) (by decide +kernel)) (goodIn_sub (fun _ h => List.mem_cons_of_mem _ (List.mem_append_left _ (List.mem_append_left _ (List.mem_append_right _ h)))) (by decide +kernel))) (goodIn_sub (fun _ h => List.mem_cons_of_mem _ (List.mem_append_left _ (List.mem_append_right _ h))) (by decide +kernel))
set_option maxRecDepth 20000 in
theorem gL_asks_X0_winning : GoodIn wsL_asks (wsV RL 30 RX0 yX0_winning wsX0_winning) := goodIn_app (goodIn_of _ (by decide +kernel)) ggL_asks_X0_winning
set_option maxRecDepth 20000 in
theorem ggL_asks_X0_safe : GoodIn wsL_asks wsX0_safe := goodIn_ca (goodIn_r _ [70, 52, 53, 54, 71, 72, 73, 7, 74, 55, 75, 76, 77, 78, 27, 28, 29, 30, 31, 32, 63, 64, 65, 66, 11, 44, 45, 46, 47, 12, 19, 20, 21, 22, 16, 17, 18, 60, 61, 62, 146, 147, 148, 149, 150, 151, 152, 153, 154, 155, 156] (by decide +kernel) (by decide +kernel)) (goodIn_sub (fun _ h => List.mem_cons_of_mem _ (List.mem_append_left _ (List.mem_append_right _ h))) (by decide +kernel))
set_option maxRecDepth 20000 in
theorem gL_asks_X0_safe : GoodIn wsL_asks (wsV RL 33 RX0 yX0_safe wsX0_safe) := goodIn_app (goodIn_of _ (by decide +kernel)) ggL_asks_X0_safe
set_option maxRecDepth 20000 in
theorem ggL_asks_X0_worth : GoodIn wsL_asks wsX0_worth := goodIn_ca (goodIn_ca (goodIn_r _ [82, 83, 84, 52, 53, 54, 85, 86, 87, 88, 7, 89, 11, 33, 34, 35, 36, 37, 38, 39, 90, 91, 92, 93, 94, 95, 96, 97, 71, 72, 73, 74, 55, 75, 76, 77, 78, 27, 28, 29, 30, 31, 32, 63, 64, 65, 66, 44, 45, 46, 47, 12, 19, 20, 21, 22, 16, 17, 18, 60, 61, 62, 98, 99, 100, 101, 102, 103, 104, 105, 106, 107, 108, 109, 110, 111, 112, 113, 114, 115, 116, 117, 118, 119, 120, 121, 122, 123, 124, 125, 126, 127, 128, 129, 56, 57, 58, 59, 146, 147, 148, 149, 150, 151, 152, 153, 154, 155, 156] (by decide +kernel) (by decide +kernel)) (goodIn_sub (fun _ h => List.mem_cons_of_mem _ (List.mem_append_right _ h)) (by decide +kernel))) (goodIn_sub (fun _ h => List.mem_cons_of_mem _ (List.mem_append_left _ (List.mem_append_right _ h))) (by decide +kernel))
set_option maxRecDepth 20000 in
theorem gL_asks_X0_worth : GoodIn wsL_asks (wsV RL 37 RX0 yX0_worth wsX0_worth) := goodIn_app (goodIn_of _ (by decide +kernel)) ggL_asks_X0_worth
set_option maxRecDepth 20000 in
theorem ggL_asks_X0_best : GoodIn wsL_asks wsX0_best := goodIn_ca (goodIn_ca (goodIn_r _ [133, 83, 84, 52, 53, 54, 86, 87, 88, 7, 89, 11, 33, 34, 35, 36, 37, 38, 39, 134, 135, 136, 137, 55, 90, 91, 92, 93, 94, 95, 96, 97, 71, 72, 73, 74, 75, 76, 77, 78, 27, 28, 29, 30, 31, 32, 63, 64, 65, 66, 44, 45, 46, 47, 12, 19, 20, 21, 22, 16, 17, 18, 60, 61, 62, 98, 99, 100, 101, 102, 103, 104, 105, 106, 107, 108, 109, 110, 111, 112, 113, 114, 115, 116, 117, 118, 119, 120, 121, 122, 123, 124, 125, 126, 127, 128, 129, 56, 57, 58, 59, 138, 139, 140, 141, 85, 142, 143, 144, 145, 146, 147, 148, 149, 150, 151, 152, 153, 154, 155, 156] (by decide +kernel) (by decide +kernel)) (goodIn_sub (fun _ h => List.mem_cons_of_mem _ (List.mem_append_right _ h)) (by decide +kernel))) (goodIn_sub (fun _ h => List.mem_cons_of_mem _ (List.mem_append_left _ (List.mem_append_right _ h))) (by decide +kernel))
set_option maxRecDepth 20000 in
theorem gL_asks_X0_best : GoodIn wsL_asks (wsV RL 40 RX0 yX0_best wsX0_best) := goodIn_app (goodIn_of _ (by decide +kernel)) ggL_asks_X0_best
theorem dL_asks_0 : decode cL_asks 0 = .ok (.iload_n 1, 1) := by decide +kernel
theorem dL_asks_1 : decode cL_asks 1 = .ok (.ifCond .ne 11, 3) := by decide +kernel
theorem dL_asks_4 : decode cL_asks 4 = .ok (.aload_n 0, 1) := by decide +kernel
theorem dL_asks_5 : decode cL_asks 5 = .ok (.iload_n 2, 1) := by decide +kernel
theorem dL_asks_6 : decode cL_asks 6 = .ok (.invokevirtual 21, 3) := by decide +kernel
theorem dL_asks_9 : decode cL_asks 9 = .ok (.goto 72, 3) := by decide +kernel
theorem dL_asks_12 : decode cL_asks 12 = .ok (.iload_n 1, 1) := by decide +kernel
theorem dL_asks_13 : decode cL_asks 13 = .ok (.iconst 1, 1) := by decide +kernel
theorem dL_asks_14 : decode cL_asks 14 = .ok (.if_icmp .ne 11, 3) := by decide +kernel
theorem dL_asks_17 : decode cL_asks 17 = .ok (.aload_n 0, 1) := by decide +kernel
theorem dL_asks_18 : decode cL_asks 18 = .ok (.iload_n 2, 1) := by decide +kernel
theorem dL_asks_19 : decode cL_asks 19 = .ok (.invokevirtual 24, 3) := by decide +kernel
theorem dL_asks_22 : decode cL_asks 22 = .ok (.goto 59, 3) := by decide +kernel
theorem dL_asks_25 : decode cL_asks 25 = .ok (.iload_n 1, 1) := by decide +kernel
theorem dL_asks_26 : decode cL_asks 26 = .ok (.iconst 2, 1) := by decide +kernel
theorem dL_asks_27 : decode cL_asks 27 = .ok (.if_icmp .ne 11, 3) := by decide +kernel
theorem dL_asks_30 : decode cL_asks 30 = .ok (.aload_n 0, 1) := by decide +kernel
theorem dL_asks_31 : decode cL_asks 31 = .ok (.iload_n 2, 1) := by decide +kernel
theorem dL_asks_32 : decode cL_asks 32 = .ok (.invokevirtual 27, 3) := by decide +kernel
theorem dL_asks_35 : decode cL_asks 35 = .ok (.goto 46, 3) := by decide +kernel
theorem dL_asks_38 : decode cL_asks 38 = .ok (.iload_n 1, 1) := by decide +kernel
theorem dL_asks_39 : decode cL_asks 39 = .ok (.iconst 3, 1) := by decide +kernel
theorem dL_asks_40 : decode cL_asks 40 = .ok (.if_icmp .ne 11, 3) := by decide +kernel
theorem dL_asks_43 : decode cL_asks 43 = .ok (.aload_n 0, 1) := by decide +kernel
theorem dL_asks_44 : decode cL_asks 44 = .ok (.iload_n 2, 1) := by decide +kernel
theorem dL_asks_45 : decode cL_asks 45 = .ok (.invokevirtual 30, 3) := by decide +kernel
theorem dL_asks_48 : decode cL_asks 48 = .ok (.goto 33, 3) := by decide +kernel
theorem dL_asks_51 : decode cL_asks 51 = .ok (.iload_n 1, 1) := by decide +kernel
theorem dL_asks_52 : decode cL_asks 52 = .ok (.iconst 4, 1) := by decide +kernel
theorem dL_asks_53 : decode cL_asks 53 = .ok (.if_icmp .ne 10, 3) := by decide +kernel
theorem dL_asks_56 : decode cL_asks 56 = .ok (.aload_n 0, 1) := by decide +kernel
theorem dL_asks_57 : decode cL_asks 57 = .ok (.invokevirtual 33, 3) := by decide +kernel
theorem dL_asks_60 : decode cL_asks 60 = .ok (.goto 21, 3) := by decide +kernel
theorem dL_asks_63 : decode cL_asks 63 = .ok (.iload_n 1, 1) := by decide +kernel
theorem dL_asks_64 : decode cL_asks 64 = .ok (.iconst 5, 1) := by decide +kernel
theorem dL_asks_65 : decode cL_asks 65 = .ok (.if_icmp .ne 11, 3) := by decide +kernel
theorem dL_asks_68 : decode cL_asks 68 = .ok (.aload_n 0, 1) := by decide +kernel
theorem dL_asks_69 : decode cL_asks 69 = .ok (.iload_n 2, 1) := by decide +kernel
theorem dL_asks_70 : decode cL_asks 70 = .ok (.invokevirtual 37, 3) := by decide +kernel
theorem dL_asks_73 : decode cL_asks 73 = .ok (.goto 8, 3) := by decide +kernel
theorem dL_asks_76 : decode cL_asks 76 = .ok (.aload_n 0, 1) := by decide +kernel
theorem dL_asks_77 : decode cL_asks 77 = .ok (.iload_n 2, 1) := by decide +kernel
theorem dL_asks_78 : decode cL_asks 78 = .ok (.invokevirtual 40, 3) := by decide +kernel
theorem dL_asks_81 : decode cL_asks 81 = .ok (.ireturn, 1) := by decide +kernel
theorem dL_asks_82 : decode cL_asks 82 = .ok (.astore_n 3, 1) := by decide +kernel
theorem dL_asks_83 : decode cL_asks 83 = .ok (.bipush (-30), 2) := by decide +kernel
theorem dL_asks_85 : decode cL_asks 85 = .ok (.ireturn, 1) := by decide +kernel
theorem dL_asks_86 : decode cL_asks 86 = .ok (.astore_n 3, 1) := by decide +kernel
theorem dL_asks_87 : decode cL_asks 87 = .ok (.bipush (-20), 2) := by decide +kernel
theorem dL_asks_89 : decode cL_asks 89 = .ok (.ireturn, 1) := by decide +kernel
theorem dL_asks_90 : decode cL_asks 90 = .ok (.astore_n 3, 1) := by decide +kernel
theorem dL_asks_91 : decode cL_asks 91 = .ok (.bipush (-10), 2) := by decide +kernel
theorem dL_asks_93 : decode cL_asks 93 = .ok (.ireturn, 1) := by decide +kernel
set_option maxRecDepth 20000 in
theorem ggL_alike_X0_isAlike : GoodIn wsL_alike wsX0_isAlike := goodIn_ca (goodIn_r _ [6, 7, 8, 9, 10, 11, 12, 13, 14, 5, 15, 16, 17, 18, 19, 20, 21, 22, 23, 24, 25, 26, 27, 28, 29, 30, 31, 32, 33, 34, 35, 36, 37, 38, 39, 40, 41, 42, 43, 44, 45] (by decide +kernel) (by decide +kernel)) (goodIn_sub (fun _ h => List.mem_cons_of_mem _ (List.mem_append_right _ h)) (by decide +kernel))
set_option maxRecDepth 20000 in
theorem gL_alike_X0_isAlike : GoodIn wsL_alike (wsV RL 45 RX0 yX0_isAlike wsX0_isAlike) := goodIn_app (goodIn_of _ (by decide +kernel)) ggL_alike_X0_isAlike
theorem dL_alike_0 : decode cL_alike 0 = .ok (.aload_n 0, 1) := by decide +kernel
theorem dL_alike_1 : decode cL_alike 1 = .ok (.invokevirtual 45, 3) := by decide +kernel
theorem dL_alike_4 : decode cL_alike 4 = .ok (.ifCond .eq 7, 3) := by decide +kernel
theorem dL_alike_7 : decode cL_alike 7 = .ok (.iconst 1, 1) := by decide +kernel
theorem dL_alike_8 : decode cL_alike 8 = .ok (.goto 4, 3) := by decide +kernel
theorem dL_alike_11 : decode cL_alike 11 = .ok (.iconst 0, 1) := by decide +kernel
theorem dL_alike_12 : decode cL_alike 12 = .ok (.ireturn, 1) := by decide +kernel
theorem dL_alike_13 : decode cL_alike 13 = .ok (.astore_n 1, 1) := by decide +kernel
theorem dL_alike_14 : decode cL_alike 14 = .ok (.bipush (-10), 2) := by decide +kernel
theorem dL_alike_16 : decode cL_alike 16 = .ok (.ireturn, 1) := by decide +kernel
theorem dL_square_0 : decode cL_square 0 = .ok (.iload_n 0, 1) := by decide +kernel
theorem dL_square_1 : decode cL_square 1 = .ok (.bipush 9, 2) := by decide +kernel
theorem dL_square_3 : decode cL_square 3 = .ok (.if_icmp .le 29, 3) := by decide +kernel
theorem dL_square_6 : decode cL_square 6 = .ok (.iload_n 0, 1) := by decide +kernel
theorem dL_square_7 : decode cL_square 7 = .ok (.bipush 10, 2) := by decide +kernel
theorem dL_square_9 : decode cL_square 9 = .ok (.isub, 1) := by decide +kernel
theorem dL_square_10 : decode cL_square 10 = .ok (.iconst 3, 1) := by decide +kernel
theorem dL_square_11 : decode cL_square 11 = .ok (.idiv, 1) := by decide +kernel
theorem dL_square_12 : decode cL_square 12 = .ok (.iconst 4, 1) := by decide +kernel
theorem dL_square_13 : decode cL_square 13 = .ok (.imul, 1) := by decide +kernel
theorem dL_square_14 : decode cL_square 14 = .ok (.iload_n 0, 1) := by decide +kernel
theorem dL_square_15 : decode cL_square 15 = .ok (.bipush 10, 2) := by decide +kernel
theorem dL_square_17 : decode cL_square 17 = .ok (.isub, 1) := by decide +kernel
theorem dL_square_18 : decode cL_square 18 = .ok (.iconst 3, 1) := by decide +kernel
theorem dL_square_19 : decode cL_square 19 = .ok (.irem, 1) := by decide +kernel
theorem dL_square_20 : decode cL_square 20 = .ok (.iadd, 1) := by decide +kernel
theorem dL_square_21 : decode cL_square 21 = .ok (.iload_n 1, 1) := by decide +kernel
theorem dL_square_22 : decode cL_square 22 = .ok (.iconst 2, 1) := by decide +kernel
theorem dL_square_23 : decode cL_square 23 = .ok (.irem, 1) := by decide +kernel
theorem dL_square_24 : decode cL_square 24 = .ok (.iadd, 1) := by decide +kernel
theorem dL_square_25 : decode cL_square 25 = .ok (.iconst 4, 1) := by decide +kernel
theorem dL_square_26 : decode cL_square 26 = .ok (.iload_n 1, 1) := by decide +kernel
theorem dL_square_27 : decode cL_square 27 = .ok (.iconst 2, 1) := by decide +kernel
theorem dL_square_28 : decode cL_square 28 = .ok (.idiv, 1) := by decide +kernel
theorem dL_square_29 : decode cL_square 29 = .ok (.imul, 1) := by decide +kernel
theorem dL_square_30 : decode cL_square 30 = .ok (.iadd, 1) := by decide +kernel
theorem dL_square_31 : decode cL_square 31 = .ok (.ireturn, 1) := by decide +kernel
theorem dL_square_32 : decode cL_square 32 = .ok (.iload_n 0, 1) := by decide +kernel
theorem dL_square_33 : decode cL_square 33 = .ok (.bipush 9, 2) := by decide +kernel
theorem dL_square_35 : decode cL_square 35 = .ok (.if_icmp .ne 11, 3) := by decide +kernel
theorem dL_square_38 : decode cL_square 38 = .ok (.iconst 3, 1) := by decide +kernel
theorem dL_square_39 : decode cL_square 39 = .ok (.iload_n 1, 1) := by decide +kernel
theorem dL_square_40 : decode cL_square 40 = .ok (.iconst 1, 1) := by decide +kernel
theorem dL_square_41 : decode cL_square 41 = .ok (.iadd, 1) := by decide +kernel
theorem dL_square_42 : decode cL_square 42 = .ok (.imul, 1) := by decide +kernel
theorem dL_square_43 : decode cL_square 43 = .ok (.goto 35, 3) := by decide +kernel
theorem dL_square_46 : decode cL_square 46 = .ok (.iload_n 0, 1) := by decide +kernel
theorem dL_square_47 : decode cL_square 47 = .ok (.bipush 8, 2) := by decide +kernel
theorem dL_square_49 : decode cL_square 49 = .ok (.if_icmp .ne 9, 3) := by decide +kernel
theorem dL_square_52 : decode cL_square 52 = .ok (.iconst 5, 1) := by decide +kernel
theorem dL_square_53 : decode cL_square 53 = .ok (.iload_n 1, 1) := by decide +kernel
theorem dL_square_54 : decode cL_square 54 = .ok (.imul, 1) := by decide +kernel
theorem dL_square_55 : decode cL_square 55 = .ok (.goto 23, 3) := by decide +kernel
theorem dL_square_58 : decode cL_square 58 = .ok (.iload_n 0, 1) := by decide +kernel
theorem dL_square_59 : decode cL_square 59 = .ok (.iconst 3, 1) := by decide +kernel
theorem dL_square_60 : decode cL_square 60 = .ok (.if_icmp .le 13, 3) := by decide +kernel
theorem dL_square_63 : decode cL_square 63 = .ok (.iload_n 0, 1) := by decide +kernel
theorem dL_square_64 : decode cL_square 64 = .ok (.iconst 4, 1) := by decide +kernel
theorem dL_square_65 : decode cL_square 65 = .ok (.isub, 1) := by decide +kernel
theorem dL_square_66 : decode cL_square 66 = .ok (.iconst 4, 1) := by decide +kernel
theorem dL_square_67 : decode cL_square 67 = .ok (.iload_n 1, 1) := by decide +kernel
theorem dL_square_68 : decode cL_square 68 = .ok (.imul, 1) := by decide +kernel
theorem dL_square_69 : decode cL_square 69 = .ok (.iadd, 1) := by decide +kernel
theorem dL_square_70 : decode cL_square 70 = .ok (.goto 8, 3) := by decide +kernel
theorem dL_square_73 : decode cL_square 73 = .ok (.iconst 4, 1) := by decide +kernel
theorem dL_square_74 : decode cL_square 74 = .ok (.iload_n 0, 1) := by decide +kernel
theorem dL_square_75 : decode cL_square 75 = .ok (.imul, 1) := by decide +kernel
theorem dL_square_76 : decode cL_square 76 = .ok (.iload_n 1, 1) := by decide +kernel
theorem dL_square_77 : decode cL_square 77 = .ok (.iadd, 1) := by decide +kernel
theorem dL_square_78 : decode cL_square 78 = .ok (.ireturn, 1) := by decide +kernel
set_option maxRecDepth 20000 in
theorem ggL_shared_L_square : GoodIn wsL_shared wsL_square := goodIn_r _ [4] (by decide +kernel) (by decide +kernel)
set_option maxRecDepth 20000 in
theorem gL_shared_L_square : GoodIn wsL_shared (va_wsS RL 49 yL_square wsL_square) := goodIn_app (goodIn_of _ (by decide +kernel)) ggL_shared_L_square
theorem dL_shared_0 : decode cL_shared 0 = .ok (.bipush 15, 2) := by decide +kernel
theorem dL_shared_2 : decode cL_shared 2 = .ok (.istore_n 2, 1) := by decide +kernel
theorem dL_shared_3 : decode cL_shared 3 = .ok (.bipush 15, 2) := by decide +kernel
theorem dL_shared_5 : decode cL_shared 5 = .ok (.istore_n 3, 1) := by decide +kernel
theorem dL_shared_6 : decode cL_shared 6 = .ok (.iconst 0, 1) := by decide +kernel
theorem dL_shared_7 : decode cL_shared 7 = .ok (.istore 4, 2) := by decide +kernel
theorem dL_shared_9 : decode cL_shared 9 = .ok (.iload 4, 2) := by decide +kernel
theorem dL_shared_11 : decode cL_shared 11 = .ok (.iconst 4, 1) := by decide +kernel
theorem dL_shared_12 : decode cL_shared 12 = .ok (.if_icmp .ge 52, 3) := by decide +kernel
theorem dL_shared_15 : decode cL_shared 15 = .ok (.aload_n 0, 1) := by decide +kernel
theorem dL_shared_16 : decode cL_shared 16 = .ok (.iload_n 1, 1) := by decide +kernel
theorem dL_shared_17 : decode cL_shared 17 = .ok (.iload 4, 2) := by decide +kernel
theorem dL_shared_19 : decode cL_shared 19 = .ok (.invokestatic 49, 3) := by decide +kernel
theorem dL_shared_22 : decode cL_shared 22 = .ok (.iaload, 1) := by decide +kernel
theorem dL_shared_23 : decode cL_shared 23 = .ok (.istore 5, 2) := by decide +kernel
theorem dL_shared_25 : decode cL_shared 25 = .ok (.iload_n 2, 1) := by decide +kernel
theorem dL_shared_26 : decode cL_shared 26 = .ok (.iload 5, 2) := by decide +kernel
theorem dL_shared_28 : decode cL_shared 28 = .ok (.ifCond .ge 8, 3) := by decide +kernel
theorem dL_shared_31 : decode cL_shared 31 = .ok (.bipush 15, 2) := by decide +kernel
theorem dL_shared_33 : decode cL_shared 33 = .ok (.goto 5, 3) := by decide +kernel
theorem dL_shared_36 : decode cL_shared 36 = .ok (.iload 5, 2) := by decide +kernel
theorem dL_shared_38 : decode cL_shared 38 = .ok (.iand, 1) := by decide +kernel
theorem dL_shared_39 : decode cL_shared 39 = .ok (.istore_n 2, 1) := by decide +kernel
theorem dL_shared_40 : decode cL_shared 40 = .ok (.iload_n 3, 1) := by decide +kernel
theorem dL_shared_41 : decode cL_shared 41 = .ok (.iload 5, 2) := by decide +kernel
theorem dL_shared_43 : decode cL_shared 43 = .ok (.ifCond .ge 8, 3) := by decide +kernel
theorem dL_shared_46 : decode cL_shared 46 = .ok (.bipush 15, 2) := by decide +kernel
theorem dL_shared_48 : decode cL_shared 48 = .ok (.goto 8, 3) := by decide +kernel
theorem dL_shared_51 : decode cL_shared 51 = .ok (.bipush 15, 2) := by decide +kernel
theorem dL_shared_53 : decode cL_shared 53 = .ok (.iload 5, 2) := by decide +kernel
theorem dL_shared_55 : decode cL_shared 55 = .ok (.isub, 1) := by decide +kernel
theorem dL_shared_56 : decode cL_shared 56 = .ok (.iand, 1) := by decide +kernel
theorem dL_shared_57 : decode cL_shared 57 = .ok (.istore_n 3, 1) := by decide +kernel
theorem dL_shared_58 : decode cL_shared 58 = .ok (.iinc 4 1, 3) := by decide +kernel
theorem dL_shared_61 : decode cL_shared 61 = .ok (.goto (-52), 3) := by decide +kernel
theorem dL_shared_64 : decode cL_shared 64 = .ok (.iload_n 2, 1) := by decide +kernel
theorem dL_shared_65 : decode cL_shared 65 = .ok (.bipush 16, 2) := by decide +kernel
theorem dL_shared_67 : decode cL_shared 67 = .ok (.iload_n 3, 1) := by decide +kernel
theorem dL_shared_68 : decode cL_shared 68 = .ok (.imul, 1) := by decide +kernel
theorem dL_shared_69 : decode cL_shared 69 = .ok (.iadd, 1) := by decide +kernel
theorem dL_shared_70 : decode cL_shared 70 = .ok (.ireturn, 1) := by decide +kernel
set_option maxRecDepth 20000 in
theorem ggL_full_L_square : GoodIn wsL_full wsL_square := goodIn_r _ [4] (by decide +kernel) (by decide +kernel)
set_option maxRecDepth 20000 in
theorem gL_full_L_square : GoodIn wsL_full (va_wsS RL 49 yL_square wsL_square) := goodIn_app (goodIn_of _ (by decide +kernel)) ggL_full_L_square
theorem dL_full_0 : decode cL_full 0 = .ok (.iconst 0, 1) := by decide +kernel
theorem dL_full_1 : decode cL_full 1 = .ok (.istore_n 2, 1) := by decide +kernel
theorem dL_full_2 : decode cL_full 2 = .ok (.iconst 0, 1) := by decide +kernel
theorem dL_full_3 : decode cL_full 3 = .ok (.istore_n 3, 1) := by decide +kernel
theorem dL_full_4 : decode cL_full 4 = .ok (.iload_n 3, 1) := by decide +kernel
theorem dL_full_5 : decode cL_full 5 = .ok (.iconst 4, 1) := by decide +kernel
theorem dL_full_6 : decode cL_full 6 = .ok (.if_icmp .ge 27, 3) := by decide +kernel
theorem dL_full_9 : decode cL_full 9 = .ok (.iload_n 2, 1) := by decide +kernel
theorem dL_full_10 : decode cL_full 10 = .ok (.aload_n 0, 1) := by decide +kernel
theorem dL_full_11 : decode cL_full 11 = .ok (.iload_n 1, 1) := by decide +kernel
theorem dL_full_12 : decode cL_full 12 = .ok (.iload_n 3, 1) := by decide +kernel
theorem dL_full_13 : decode cL_full 13 = .ok (.invokestatic 49, 3) := by decide +kernel
theorem dL_full_16 : decode cL_full 16 = .ok (.iaload, 1) := by decide +kernel
theorem dL_full_17 : decode cL_full 17 = .ok (.ifCond .ge 7, 3) := by decide +kernel
theorem dL_full_20 : decode cL_full 20 = .ok (.iconst 0, 1) := by decide +kernel
theorem dL_full_21 : decode cL_full 21 = .ok (.goto 4, 3) := by decide +kernel
theorem dL_full_24 : decode cL_full 24 = .ok (.iconst 1, 1) := by decide +kernel
theorem dL_full_25 : decode cL_full 25 = .ok (.iadd, 1) := by decide +kernel
theorem dL_full_26 : decode cL_full 26 = .ok (.istore_n 2, 1) := by decide +kernel
theorem dL_full_27 : decode cL_full 27 = .ok (.iinc 3 1, 3) := by decide +kernel
theorem dL_full_30 : decode cL_full 30 = .ok (.goto (-26), 3) := by decide +kernel
theorem dL_full_33 : decode cL_full 33 = .ok (.iload_n 2, 1) := by decide +kernel
theorem dL_full_34 : decode cL_full 34 = .ok (.ireturn, 1) := by decide +kernel
set_option maxRecDepth 20000 in
theorem ggL_won_L_full : GoodIn wsL_won wsL_full := goodIn_r _ [4, 5, 6, 3, 7] (by decide +kernel) (by decide +kernel)
set_option maxRecDepth 20000 in
theorem gL_won_L_full : GoodIn wsL_won (va_wsS RL 55 yL_full wsL_full) := goodIn_app (goodIn_of _ (by decide +kernel)) ggL_won_L_full
set_option maxRecDepth 20000 in
theorem ggL_won_L_shared : GoodIn wsL_won wsL_shared := goodIn_r _ [10, 5, 6, 3, 7] (by decide +kernel) (by decide +kernel)
set_option maxRecDepth 20000 in
theorem gL_won_L_shared : GoodIn wsL_won (va_wsS RL 59 yL_shared wsL_shared) := goodIn_app (goodIn_of _ (by decide +kernel)) ggL_won_L_shared
theorem dL_won_0 : decode cL_won 0 = .ok (.iconst 0, 1) := by decide +kernel
theorem dL_won_1 : decode cL_won 1 = .ok (.istore_n 2, 1) := by decide +kernel
theorem dL_won_2 : decode cL_won 2 = .ok (.iconst 0, 1) := by decide +kernel
theorem dL_won_3 : decode cL_won 3 = .ok (.istore_n 3, 1) := by decide +kernel
theorem dL_won_4 : decode cL_won 4 = .ok (.iload_n 3, 1) := by decide +kernel
theorem dL_won_5 : decode cL_won 5 = .ok (.iload_n 1, 1) := by decide +kernel
theorem dL_won_6 : decode cL_won 6 = .ok (.if_icmp .ge 34, 3) := by decide +kernel
theorem dL_won_9 : decode cL_won 9 = .ok (.iload_n 2, 1) := by decide +kernel
theorem dL_won_10 : decode cL_won 10 = .ok (.aload_n 0, 1) := by decide +kernel
theorem dL_won_11 : decode cL_won 11 = .ok (.iload_n 3, 1) := by decide +kernel
theorem dL_won_12 : decode cL_won 12 = .ok (.invokestatic 55, 3) := by decide +kernel
theorem dL_won_15 : decode cL_won 15 = .ok (.iconst 4, 1) := by decide +kernel
theorem dL_won_16 : decode cL_won 16 = .ok (.if_icmp .ne 15, 3) := by decide +kernel
theorem dL_won_19 : decode cL_won 19 = .ok (.aload_n 0, 1) := by decide +kernel
theorem dL_won_20 : decode cL_won 20 = .ok (.iload_n 3, 1) := by decide +kernel
theorem dL_won_21 : decode cL_won 21 = .ok (.invokestatic 59, 3) := by decide +kernel
theorem dL_won_24 : decode cL_won 24 = .ok (.ifCond .le 7, 3) := by decide +kernel
theorem dL_won_27 : decode cL_won 27 = .ok (.iconst 1, 1) := by decide +kernel
theorem dL_won_28 : decode cL_won 28 = .ok (.goto 4, 3) := by decide +kernel
theorem dL_won_31 : decode cL_won 31 = .ok (.iconst 0, 1) := by decide +kernel
theorem dL_won_32 : decode cL_won 32 = .ok (.iadd, 1) := by decide +kernel
theorem dL_won_33 : decode cL_won 33 = .ok (.istore_n 2, 1) := by decide +kernel
theorem dL_won_34 : decode cL_won 34 = .ok (.iinc 3 1, 3) := by decide +kernel
theorem dL_won_37 : decode cL_won 37 = .ok (.goto (-33), 3) := by decide +kernel
theorem dL_won_40 : decode cL_won 40 = .ok (.iload_n 2, 1) := by decide +kernel
theorem dL_won_41 : decode cL_won 41 = .ok (.ireturn, 1) := by decide +kernel
theorem dL_isOn_0 : decode cL_isOn 0 = .ok (.iconst 0, 1) := by decide +kernel
theorem dL_isOn_1 : decode cL_isOn 1 = .ok (.istore_n 2, 1) := by decide +kernel
theorem dL_isOn_2 : decode cL_isOn 2 = .ok (.iconst 0, 1) := by decide +kernel
theorem dL_isOn_3 : decode cL_isOn 3 = .ok (.istore_n 3, 1) := by decide +kernel
theorem dL_isOn_4 : decode cL_isOn 4 = .ok (.iload_n 3, 1) := by decide +kernel
theorem dL_isOn_5 : decode cL_isOn 5 = .ok (.bipush 16, 2) := by decide +kernel
theorem dL_isOn_7 : decode cL_isOn 7 = .ok (.if_icmp .ge 26, 3) := by decide +kernel
theorem dL_isOn_10 : decode cL_isOn 10 = .ok (.iload_n 2, 1) := by decide +kernel
theorem dL_isOn_11 : decode cL_isOn 11 = .ok (.ifCond .ne 10, 3) := by decide +kernel
theorem dL_isOn_14 : decode cL_isOn 14 = .ok (.aload_n 0, 1) := by decide +kernel
theorem dL_isOn_15 : decode cL_isOn 15 = .ok (.iload_n 3, 1) := by decide +kernel
theorem dL_isOn_16 : decode cL_isOn 16 = .ok (.iaload, 1) := by decide +kernel
theorem dL_isOn_17 : decode cL_isOn 17 = .ok (.iload_n 1, 1) := by decide +kernel
theorem dL_isOn_18 : decode cL_isOn 18 = .ok (.if_icmp .ne 7, 3) := by decide +kernel
theorem dL_isOn_21 : decode cL_isOn 21 = .ok (.iconst 1, 1) := by decide +kernel
theorem dL_isOn_22 : decode cL_isOn 22 = .ok (.goto 4, 3) := by decide +kernel
theorem dL_isOn_25 : decode cL_isOn 25 = .ok (.iconst 0, 1) := by decide +kernel
theorem dL_isOn_26 : decode cL_isOn 26 = .ok (.istore_n 2, 1) := by decide +kernel
theorem dL_isOn_27 : decode cL_isOn 27 = .ok (.iinc 3 1, 3) := by decide +kernel
theorem dL_isOn_30 : decode cL_isOn 30 = .ok (.goto (-26), 3) := by decide +kernel
theorem dL_isOn_33 : decode cL_isOn 33 = .ok (.iload_n 2, 1) := by decide +kernel
theorem dL_isOn_34 : decode cL_isOn 34 = .ok (.ireturn, 1) := by decide +kernel
set_option maxRecDepth 20000 in
theorem ggL_winning_L_won : GoodIn wsL_winning wsL_won := goodIn_r _ [4, 5, 6, 3, 7, 8, 9, 10, 11, 12, 13] (by decide +kernel) (by decide +kernel)
set_option maxRecDepth 20000 in
theorem gL_winning_L_won : GoodIn wsL_winning (va_wsS RL 61 yL_won wsL_won) := goodIn_app (goodIn_of _ (by decide +kernel)) ggL_winning_L_won
theorem dL_winning_0 : decode cL_winning 0 = .ok (.iconst 0, 1) := by decide +kernel
theorem dL_winning_1 : decode cL_winning 1 = .ok (.istore_n 3, 1) := by decide +kernel
theorem dL_winning_2 : decode cL_winning 2 = .ok (.iconst 0, 1) := by decide +kernel
theorem dL_winning_3 : decode cL_winning 3 = .ok (.istore 4, 2) := by decide +kernel
theorem dL_winning_5 : decode cL_winning 5 = .ok (.iload 4, 2) := by decide +kernel
theorem dL_winning_7 : decode cL_winning 7 = .ok (.bipush 16, 2) := by decide +kernel
theorem dL_winning_9 : decode cL_winning 9 = .ok (.if_icmp .ge 45, 3) := by decide +kernel
theorem dL_winning_12 : decode cL_winning 12 = .ok (.aload_n 0, 1) := by decide +kernel
theorem dL_winning_13 : decode cL_winning 13 = .ok (.iload 4, 2) := by decide +kernel
theorem dL_winning_15 : decode cL_winning 15 = .ok (.iaload, 1) := by decide +kernel
theorem dL_winning_16 : decode cL_winning 16 = .ok (.ifCond .ge 32, 3) := by decide +kernel
theorem dL_winning_19 : decode cL_winning 19 = .ok (.aload_n 0, 1) := by decide +kernel
theorem dL_winning_20 : decode cL_winning 20 = .ok (.iload 4, 2) := by decide +kernel
theorem dL_winning_22 : decode cL_winning 22 = .ok (.iload_n 2, 1) := by decide +kernel
theorem dL_winning_23 : decode cL_winning 23 = .ok (.iastore, 1) := by decide +kernel
theorem dL_winning_24 : decode cL_winning 24 = .ok (.iload_n 3, 1) := by decide +kernel
theorem dL_winning_25 : decode cL_winning 25 = .ok (.aload_n 0, 1) := by decide +kernel
theorem dL_winning_26 : decode cL_winning 26 = .ok (.iload_n 1, 1) := by decide +kernel
theorem dL_winning_27 : decode cL_winning 27 = .ok (.invokestatic 61, 3) := by decide +kernel
theorem dL_winning_30 : decode cL_winning 30 = .ok (.ifCond .le 10, 3) := by decide +kernel
theorem dL_winning_33 : decode cL_winning 33 = .ok (.iconst 1, 1) := by decide +kernel
theorem dL_winning_34 : decode cL_winning 34 = .ok (.iload 4, 2) := by decide +kernel
theorem dL_winning_36 : decode cL_winning 36 = .ok (.ishl, 1) := by decide +kernel
theorem dL_winning_37 : decode cL_winning 37 = .ok (.goto 4, 3) := by decide +kernel
theorem dL_winning_40 : decode cL_winning 40 = .ok (.iconst 0, 1) := by decide +kernel
theorem dL_winning_41 : decode cL_winning 41 = .ok (.ior, 1) := by decide +kernel
theorem dL_winning_42 : decode cL_winning 42 = .ok (.istore_n 3, 1) := by decide +kernel
theorem dL_winning_43 : decode cL_winning 43 = .ok (.aload_n 0, 1) := by decide +kernel
theorem dL_winning_44 : decode cL_winning 44 = .ok (.iload 4, 2) := by decide +kernel
theorem dL_winning_46 : decode cL_winning 46 = .ok (.iconst (-1), 1) := by decide +kernel
theorem dL_winning_47 : decode cL_winning 47 = .ok (.iastore, 1) := by decide +kernel
theorem dL_winning_48 : decode cL_winning 48 = .ok (.iinc 4 1, 3) := by decide +kernel
theorem dL_winning_51 : decode cL_winning 51 = .ok (.goto (-46), 3) := by decide +kernel
theorem dL_winning_54 : decode cL_winning 54 = .ok (.iload_n 3, 1) := by decide +kernel
theorem dL_winning_55 : decode cL_winning 55 = .ok (.ireturn, 1) := by decide +kernel
set_option maxRecDepth 20000 in
theorem ggL_safe_L_isOn : GoodIn wsL_safe wsL_isOn := goodIn_r _ [4] (by decide +kernel) (by decide +kernel)
set_option maxRecDepth 20000 in
theorem gL_safe_L_isOn : GoodIn wsL_safe (va_wsS RL 64 yL_isOn wsL_isOn) := goodIn_app (goodIn_of _ (by decide +kernel)) ggL_safe_L_isOn
set_option maxRecDepth 20000 in
theorem ggL_safe_L_winning : GoodIn wsL_safe wsL_winning := goodIn_r _ [7, 8, 9, 3, 10, 11, 12, 13, 14, 15, 16, 17, 18, 19] (by decide +kernel) (by decide +kernel)
set_option maxRecDepth 20000 in
theorem gL_safe_L_winning : GoodIn wsL_safe (va_wsS RL 68 yL_winning wsL_winning) := goodIn_app (goodIn_of _ (by decide +kernel)) ggL_safe_L_winning
theorem dL_safe_0 : decode cL_safe 0 = .ok (.iconst 0, 1) := by decide +kernel
theorem dL_safe_1 : decode cL_safe 1 = .ok (.istore_n 2, 1) := by decide +kernel
theorem dL_safe_2 : decode cL_safe 2 = .ok (.iconst 0, 1) := by decide +kernel
theorem dL_safe_3 : decode cL_safe 3 = .ok (.istore_n 3, 1) := by decide +kernel
theorem dL_safe_4 : decode cL_safe 4 = .ok (.iload_n 3, 1) := by decide +kernel
theorem dL_safe_5 : decode cL_safe 5 = .ok (.bipush 16, 2) := by decide +kernel
theorem dL_safe_7 : decode cL_safe 7 = .ok (.if_icmp .ge 36, 3) := by decide +kernel
theorem dL_safe_10 : decode cL_safe 10 = .ok (.iload_n 2, 1) := by decide +kernel
theorem dL_safe_11 : decode cL_safe 11 = .ok (.aload_n 0, 1) := by decide +kernel
theorem dL_safe_12 : decode cL_safe 12 = .ok (.iload_n 3, 1) := by decide +kernel
theorem dL_safe_13 : decode cL_safe 13 = .ok (.invokestatic 64, 3) := by decide +kernel
theorem dL_safe_16 : decode cL_safe 16 = .ok (.ifCond .ne 18, 3) := by decide +kernel
theorem dL_safe_19 : decode cL_safe 19 = .ok (.aload_n 0, 1) := by decide +kernel
theorem dL_safe_20 : decode cL_safe 20 = .ok (.iload_n 1, 1) := by decide +kernel
theorem dL_safe_21 : decode cL_safe 21 = .ok (.iload_n 3, 1) := by decide +kernel
theorem dL_safe_22 : decode cL_safe 22 = .ok (.invokestatic 68, 3) := by decide +kernel
theorem dL_safe_25 : decode cL_safe 25 = .ok (.ifCond .ne 9, 3) := by decide +kernel
theorem dL_safe_28 : decode cL_safe 28 = .ok (.iconst 1, 1) := by decide +kernel
theorem dL_safe_29 : decode cL_safe 29 = .ok (.iload_n 3, 1) := by decide +kernel
theorem dL_safe_30 : decode cL_safe 30 = .ok (.ishl, 1) := by decide +kernel
theorem dL_safe_31 : decode cL_safe 31 = .ok (.goto 4, 3) := by decide +kernel
theorem dL_safe_34 : decode cL_safe 34 = .ok (.iconst 0, 1) := by decide +kernel
theorem dL_safe_35 : decode cL_safe 35 = .ok (.ior, 1) := by decide +kernel
theorem dL_safe_36 : decode cL_safe 36 = .ok (.istore_n 2, 1) := by decide +kernel
theorem dL_safe_37 : decode cL_safe 37 = .ok (.iinc 3 1, 3) := by decide +kernel
theorem dL_safe_40 : decode cL_safe 40 = .ok (.goto (-36), 3) := by decide +kernel
theorem dL_safe_43 : decode cL_safe 43 = .ok (.iload_n 2, 1) := by decide +kernel
theorem dL_safe_44 : decode cL_safe 44 = .ok (.ireturn, 1) := by decide +kernel
theorem dL_lowest_0 : decode cL_lowest 0 = .ok (.iconst 0, 1) := by decide +kernel
theorem dL_lowest_1 : decode cL_lowest 1 = .ok (.istore_n 1, 1) := by decide +kernel
theorem dL_lowest_2 : decode cL_lowest 2 = .ok (.iload_n 1, 1) := by decide +kernel
theorem dL_lowest_3 : decode cL_lowest 3 = .ok (.bipush 16, 2) := by decide +kernel
theorem dL_lowest_5 : decode cL_lowest 5 = .ok (.if_icmp .ge 17, 3) := by decide +kernel
theorem dL_lowest_8 : decode cL_lowest 8 = .ok (.iload_n 0, 1) := by decide +kernel
theorem dL_lowest_9 : decode cL_lowest 9 = .ok (.iload_n 1, 1) := by decide +kernel
theorem dL_lowest_10 : decode cL_lowest 10 = .ok (.ishr, 1) := by decide +kernel
theorem dL_lowest_11 : decode cL_lowest 11 = .ok (.iconst 1, 1) := by decide +kernel
theorem dL_lowest_12 : decode cL_lowest 12 = .ok (.iand, 1) := by decide +kernel
theorem dL_lowest_13 : decode cL_lowest 13 = .ok (.ifCond .ne 9, 3) := by decide +kernel
theorem dL_lowest_16 : decode cL_lowest 16 = .ok (.iinc 1 1, 3) := by decide +kernel
theorem dL_lowest_19 : decode cL_lowest 19 = .ok (.goto (-17), 3) := by decide +kernel
theorem dL_lowest_22 : decode cL_lowest 22 = .ok (.iload_n 1, 1) := by decide +kernel
theorem dL_lowest_23 : decode cL_lowest 23 = .ok (.ireturn, 1) := by decide +kernel
set_option maxRecDepth 20000 in
theorem ggL_isBoard_X0_lines : GoodIn wsL_isBoard wsX0_lines := goodIn_r _ [5, 6, 7, 182, 183, 184, 185, 186, 187, 188, 189, 190, 191, 192] (by decide +kernel) (by decide +kernel)
set_option maxRecDepth 20000 in
theorem gL_isBoard_X0_lines : GoodIn wsL_isBoard (wsV RL 71 RX0 yX0_lines wsX0_lines) := goodIn_app (goodIn_of _ (by decide +kernel)) ggL_isBoard_X0_lines
set_option maxRecDepth 20000 in
theorem ggL_isBoard_X0_phase : GoodIn wsL_isBoard wsX0_phase := goodIn_r _ [11, 12, 182, 183, 184, 185, 186, 187, 188, 189, 190, 191, 192] (by decide +kernel) (by decide +kernel)
set_option maxRecDepth 20000 in
theorem gL_isBoard_X0_phase : GoodIn wsL_isBoard (wsV RL 74 RX0 yX0_phase wsX0_phase) := goodIn_app (goodIn_of _ (by decide +kernel)) ggL_isBoard_X0_phase
set_option maxRecDepth 20000 in
theorem ggL_isBoard_X0_onTurn : GoodIn wsL_isBoard wsX0_onTurn := goodIn_r _ [16, 17, 182, 183, 184, 185, 186, 187, 188, 189, 190, 191, 192] (by decide +kernel) (by decide +kernel)
set_option maxRecDepth 20000 in
theorem gL_isBoard_X0_onTurn : GoodIn wsL_isBoard (wsV RL 77 RX0 yX0_onTurn wsX0_onTurn) := goodIn_app (goodIn_of _ (by decide +kernel)) ggL_isBoard_X0_onTurn
set_option maxRecDepth 20000 in
theorem ggL_isBoard_X0_hand : GoodIn wsL_isBoard wsX0_hand := goodIn_r _ [21, 22, 182, 183, 184, 185, 186, 187, 188, 189, 190, 191, 192] (by decide +kernel) (by decide +kernel)
set_option maxRecDepth 20000 in
theorem gL_isBoard_X0_hand : GoodIn wsL_isBoard (wsV RL 80 RX0 yX0_hand wsX0_hand) := goodIn_app (goodIn_of _ (by decide +kernel)) ggL_isBoard_X0_hand
set_option maxRecDepth 20000 in
theorem ggL_isBoard_X0_placed : GoodIn wsL_isBoard wsX0_placed := goodIn_r _ [26, 27, 28, 29, 30, 31, 32, 33, 34, 182, 183, 184, 185, 186, 187, 188, 189, 190, 191, 192] (by decide +kernel) (by decide +kernel)
set_option maxRecDepth 20000 in
theorem gL_isBoard_X0_placed : GoodIn wsL_isBoard (wsV RL 83 RX0 yX0_placed wsX0_placed) := goodIn_app (goodIn_of _ (by decide +kernel)) ggL_isBoard_X0_placed
set_option maxRecDepth 20000 in
theorem ggL_isBoard_X0_winner : GoodIn wsL_isBoard wsX0_winner := goodIn_r _ [38, 39, 182, 183, 184, 185, 186, 187, 188, 189, 190, 191, 192] (by decide +kernel) (by decide +kernel)
set_option maxRecDepth 20000 in
theorem gL_isBoard_X0_winner : GoodIn wsL_isBoard (wsV RL 86 RX0 yX0_winner wsX0_winner) := goodIn_app (goodIn_of _ (by decide +kernel)) ggL_isBoard_X0_winner
set_option maxRecDepth 20000 in
theorem ggL_isBoard_X0_pieceAt : GoodIn wsL_isBoard wsX0_pieceAt := goodIn_ca (goodIn_r _ [43, 44, 45, 27, 46, 47, 48, 4, 49, 50, 51, 52, 53, 54, 55, 56, 182, 183, 184, 185, 186, 187, 188, 189, 190, 191, 192] (by decide +kernel) (by decide +kernel)) (goodIn_sub (fun _ h => List.mem_cons_of_mem _ (List.mem_append_left _ (List.mem_append_left _ (List.mem_append_right _ h)))) (by decide +kernel))
set_option maxRecDepth 20000 in
theorem gL_isBoard_X0_pieceAt : GoodIn wsL_isBoard (wsV RL 21 RX0 yX0_pieceAt wsX0_pieceAt) := goodIn_app (goodIn_of _ (by decide +kernel)) ggL_isBoard_X0_pieceAt
set_option maxRecDepth 20000 in
theorem ggL_isBoard_X0_onLine : GoodIn wsL_isBoard wsX0_onLine := goodIn_ca (goodIn_r _ [60, 44, 45, 7, 27, 61, 2, 3, 4, 5, 6, 28, 29, 30, 31, 32, 33, 34, 182, 183, 184, 185, 186, 187, 188, 189, 190, 191, 192] (by decide +kernel) (by decide +kernel)) (goodIn_sub (fun _ h => List.mem_cons_of_mem _ (List.mem_append_left _ (List.mem_append_left _ (List.mem_append_right _ h)))) (by decide +kernel))
set_option maxRecDepth 20000 in
theorem gL_isBoard_X0_onLine : GoodIn wsL_isBoard (wsV RL 24 RX0 yX0_onLine wsX0_onLine) := goodIn_app (goodIn_of _ (by decide +kernel)) ggL_isBoard_X0_onLine
set_option maxRecDepth 20000 in
theorem ggL_isBoard_L_full : GoodIn wsL_isBoard wsL_full := goodIn_r _ [65, 66, 67, 64, 68] (by decide +kernel) (by decide +kernel)
set_option maxRecDepth 20000 in
theorem gL_isBoard_L_full : GoodIn wsL_isBoard (va_wsS RL 55 yL_full wsL_full) := goodIn_app (goodIn_of _ (by decide +kernel)) ggL_isBoard_L_full
set_option maxRecDepth 20000 in
theorem ggL_isBoard_X0_shared : GoodIn wsL_isBoard wsX0_shared := goodIn_ca (goodIn_r _ [72, 44, 45, 7, 61, 2, 3, 4, 5, 6, 73, 74, 75, 76, 27, 46, 53, 54, 55, 56, 182, 183, 184, 185, 186, 187, 188, 189, 190, 191, 192] (by decide +kernel) (by decide +kernel)) (goodIn_sub (fun _ h => List.mem_cons_of_mem _ (List.mem_append_left _ (List.mem_append_left _ (List.mem_append_right _ h)))) (by decide +kernel))
set_option maxRecDepth 20000 in
theorem gL_isBoard_X0_shared : GoodIn wsL_isBoard (wsV RL 27 RX0 yX0_shared wsX0_shared) := goodIn_app (goodIn_of _ (by decide +kernel)) ggL_isBoard_X0_shared
set_option maxRecDepth 20000 in
theorem ggL_isBoard_L_shared : GoodIn wsL_isBoard wsL_shared := goodIn_r _ [79, 66, 67, 64, 68] (by decide +kernel) (by decide +kernel)
set_option maxRecDepth 20000 in
theorem gL_isBoard_L_shared : GoodIn wsL_isBoard (va_wsS RL 59 yL_shared wsL_shared) := goodIn_app (goodIn_of _ (by decide +kernel)) ggL_isBoard_L_shared
set_option maxRecDepth 20000 in
theorem ggL_isBoard_L_asks : GoodIn wsL_isBoard wsL_asks := goodIn_ca (goodIn_ca (goodIn_ca (goodIn_r _ [82, 83, 84, 85, 40, 41, 42, 4, 43, 44, 45, 27, 46, 47, 48, 49, 50, 51, 52, 53, 54, 55, 56, 57, 58, 59, 60, 7, 61, 2, 3, 5, 6, 28, 29, 30, 31, 32, 33, 34, 69, 70, 71, 72, 73, 74, 75, 76, 86, 87, 88, 89, 90, 91, 12, 92, 93, 94, 95, 96, 97, 98, 99, 100, 101, 102, 103, 104, 105, 106, 107, 108, 109, 110, 111, 112, 113, 114, 115, 116, 117, 118, 119, 120, 121, 22, 122, 123, 124, 125, 126, 127, 128, 129, 130, 131, 132, 133, 134, 135, 136, 137, 138, 139, 140, 141, 142, 143, 144, 145, 146, 147, 148, 149, 150, 151, 152, 153, 154, 155, 156, 157, 158, 159, 160, 161, 162, 163, 164, 165, 166, 167, 168, 169, 170, 171, 172, 173, 174, 175, 176, 177, 178, 179, 180, 181, 182, 183, 184, 185, 186, 187, 188, 189, 190, 191, 192] (by decide +kernel) (by decide +kernel)) (goodIn_sub (fun _ h => List.mem_cons_of_mem _ (List.mem_append_left _ (List.mem_append_left _ (List.mem_append_right _ h)))) (by decide +kernel))) (goodIn_sub (fun _ h => List.mem_cons_of_mem _ (List.mem_append_left _ (List.mem_append_right _ h))) (by decide +kernel))) (goodIn_sub (fun _ h => List.mem_cons_of_mem _ (List.mem_append_right _ h)) (by decide +kernel))
set_option maxRecDepth 20000 in
theorem gL_isBoard_L_asks : GoodIn wsL_isBoard (va_wsS RL 89 yL_asks wsL_asks) := goodIn_app (goodIn_of _ (by decide +kernel)) ggL_isBoard_L_asks
theorem dL_isBoard_0 : decode cL_isBoard 0 = .ok (.aload_n 0, 1) := by decide +kernel
theorem dL_isBoard_1 : decode cL_isBoard 1 = .ok (.invokevirtual 71, 3) := by decide +kernel
theorem dL_isBoard_4 : decode cL_isBoard 4 = .ok (.aload_n 2, 1) := by decide +kernel
theorem dL_isBoard_5 : decode cL_isBoard 5 = .ok (.iconst 0, 1) := by decide +kernel
theorem dL_isBoard_6 : decode cL_isBoard 6 = .ok (.iaload, 1) := by decide +kernel
theorem dL_isBoard_7 : decode cL_isBoard 7 = .ok (.if_icmp .ne 57, 3) := by decide +kernel
theorem dL_isBoard_10 : decode cL_isBoard 10 = .ok (.aload_n 0, 1) := by decide +kernel
theorem dL_isBoard_11 : decode cL_isBoard 11 = .ok (.invokevirtual 74, 3) := by decide +kernel
theorem dL_isBoard_14 : decode cL_isBoard 14 = .ok (.aload_n 2, 1) := by decide +kernel
theorem dL_isBoard_15 : decode cL_isBoard 15 = .ok (.iconst 1, 1) := by decide +kernel
theorem dL_isBoard_16 : decode cL_isBoard 16 = .ok (.iaload, 1) := by decide +kernel
theorem dL_isBoard_17 : decode cL_isBoard 17 = .ok (.if_icmp .ne 47, 3) := by decide +kernel
theorem dL_isBoard_20 : decode cL_isBoard 20 = .ok (.aload_n 0, 1) := by decide +kernel
theorem dL_isBoard_21 : decode cL_isBoard 21 = .ok (.invokevirtual 77, 3) := by decide +kernel
theorem dL_isBoard_24 : decode cL_isBoard 24 = .ok (.aload_n 2, 1) := by decide +kernel
theorem dL_isBoard_25 : decode cL_isBoard 25 = .ok (.iconst 2, 1) := by decide +kernel
theorem dL_isBoard_26 : decode cL_isBoard 26 = .ok (.iaload, 1) := by decide +kernel
theorem dL_isBoard_27 : decode cL_isBoard 27 = .ok (.if_icmp .ne 37, 3) := by decide +kernel
theorem dL_isBoard_30 : decode cL_isBoard 30 = .ok (.aload_n 0, 1) := by decide +kernel
theorem dL_isBoard_31 : decode cL_isBoard 31 = .ok (.invokevirtual 80, 3) := by decide +kernel
theorem dL_isBoard_34 : decode cL_isBoard 34 = .ok (.aload_n 2, 1) := by decide +kernel
theorem dL_isBoard_35 : decode cL_isBoard 35 = .ok (.iconst 3, 1) := by decide +kernel
theorem dL_isBoard_36 : decode cL_isBoard 36 = .ok (.iaload, 1) := by decide +kernel
theorem dL_isBoard_37 : decode cL_isBoard 37 = .ok (.if_icmp .ne 27, 3) := by decide +kernel
theorem dL_isBoard_40 : decode cL_isBoard 40 = .ok (.aload_n 0, 1) := by decide +kernel
theorem dL_isBoard_41 : decode cL_isBoard 41 = .ok (.invokevirtual 83, 3) := by decide +kernel
theorem dL_isBoard_44 : decode cL_isBoard 44 = .ok (.aload_n 2, 1) := by decide +kernel
theorem dL_isBoard_45 : decode cL_isBoard 45 = .ok (.iconst 4, 1) := by decide +kernel
theorem dL_isBoard_46 : decode cL_isBoard 46 = .ok (.iaload, 1) := by decide +kernel
theorem dL_isBoard_47 : decode cL_isBoard 47 = .ok (.if_icmp .ne 17, 3) := by decide +kernel
theorem dL_isBoard_50 : decode cL_isBoard 50 = .ok (.aload_n 0, 1) := by decide +kernel
theorem dL_isBoard_51 : decode cL_isBoard 51 = .ok (.invokevirtual 86, 3) := by decide +kernel
theorem dL_isBoard_54 : decode cL_isBoard 54 = .ok (.aload_n 2, 1) := by decide +kernel
theorem dL_isBoard_55 : decode cL_isBoard 55 = .ok (.iconst 5, 1) := by decide +kernel
theorem dL_isBoard_56 : decode cL_isBoard 56 = .ok (.iaload, 1) := by decide +kernel
theorem dL_isBoard_57 : decode cL_isBoard 57 = .ok (.if_icmp .ne 7, 3) := by decide +kernel
theorem dL_isBoard_60 : decode cL_isBoard 60 = .ok (.iconst 1, 1) := by decide +kernel
theorem dL_isBoard_61 : decode cL_isBoard 61 = .ok (.goto 4, 3) := by decide +kernel
theorem dL_isBoard_64 : decode cL_isBoard 64 = .ok (.iconst 0, 1) := by decide +kernel
theorem dL_isBoard_65 : decode cL_isBoard 65 = .ok (.istore_n 3, 1) := by decide +kernel
theorem dL_isBoard_66 : decode cL_isBoard 66 = .ok (.iconst 0, 1) := by decide +kernel
theorem dL_isBoard_67 : decode cL_isBoard 67 = .ok (.istore 4, 2) := by decide +kernel
theorem dL_isBoard_69 : decode cL_isBoard 69 = .ok (.iload 4, 2) := by decide +kernel
theorem dL_isBoard_71 : decode cL_isBoard 71 = .ok (.bipush 16, 2) := by decide +kernel
theorem dL_isBoard_73 : decode cL_isBoard 73 = .ok (.if_icmp .ge 32, 3) := by decide +kernel
theorem dL_isBoard_76 : decode cL_isBoard 76 = .ok (.iload_n 3, 1) := by decide +kernel
theorem dL_isBoard_77 : decode cL_isBoard 77 = .ok (.ifCond .eq 28, 3) := by decide +kernel
theorem dL_isBoard_80 : decode cL_isBoard 80 = .ok (.aload_n 0, 1) := by decide +kernel
theorem dL_isBoard_81 : decode cL_isBoard 81 = .ok (.iload 4, 2) := by decide +kernel
theorem dL_isBoard_83 : decode cL_isBoard 83 = .ok (.invokevirtual 21, 3) := by decide +kernel
theorem dL_isBoard_86 : decode cL_isBoard 86 = .ok (.aload_n 1, 1) := by decide +kernel
theorem dL_isBoard_87 : decode cL_isBoard 87 = .ok (.iload 4, 2) := by decide +kernel
theorem dL_isBoard_89 : decode cL_isBoard 89 = .ok (.iaload, 1) := by decide +kernel
theorem dL_isBoard_90 : decode cL_isBoard 90 = .ok (.if_icmp .ne 7, 3) := by decide +kernel
theorem dL_isBoard_93 : decode cL_isBoard 93 = .ok (.iconst 1, 1) := by decide +kernel
theorem dL_isBoard_94 : decode cL_isBoard 94 = .ok (.goto 4, 3) := by decide +kernel
theorem dL_isBoard_97 : decode cL_isBoard 97 = .ok (.iconst 0, 1) := by decide +kernel
theorem dL_isBoard_98 : decode cL_isBoard 98 = .ok (.istore_n 3, 1) := by decide +kernel
theorem dL_isBoard_99 : decode cL_isBoard 99 = .ok (.iinc 4 1, 3) := by decide +kernel
theorem dL_isBoard_102 : decode cL_isBoard 102 = .ok (.goto (-33), 3) := by decide +kernel
theorem dL_isBoard_105 : decode cL_isBoard 105 = .ok (.iconst 0, 1) := by decide +kernel
theorem dL_isBoard_106 : decode cL_isBoard 106 = .ok (.istore 4, 2) := by decide +kernel
theorem dL_isBoard_108 : decode cL_isBoard 108 = .ok (.iload 4, 2) := by decide +kernel
theorem dL_isBoard_110 : decode cL_isBoard 110 = .ok (.aload_n 2, 1) := by decide +kernel
theorem dL_isBoard_111 : decode cL_isBoard 111 = .ok (.iconst 0, 1) := by decide +kernel
theorem dL_isBoard_112 : decode cL_isBoard 112 = .ok (.iaload, 1) := by decide +kernel
theorem dL_isBoard_113 : decode cL_isBoard 113 = .ok (.if_icmp .ge 49, 3) := by decide +kernel
theorem dL_isBoard_116 : decode cL_isBoard 116 = .ok (.iload_n 3, 1) := by decide +kernel
theorem dL_isBoard_117 : decode cL_isBoard 117 = .ok (.ifCond .eq 45, 3) := by decide +kernel
theorem dL_isBoard_120 : decode cL_isBoard 120 = .ok (.aload_n 0, 1) := by decide +kernel
theorem dL_isBoard_121 : decode cL_isBoard 121 = .ok (.iload 4, 2) := by decide +kernel
theorem dL_isBoard_123 : decode cL_isBoard 123 = .ok (.invokevirtual 24, 3) := by decide +kernel
theorem dL_isBoard_126 : decode cL_isBoard 126 = .ok (.aload_n 1, 1) := by decide +kernel
theorem dL_isBoard_127 : decode cL_isBoard 127 = .ok (.iload 4, 2) := by decide +kernel
theorem dL_isBoard_129 : decode cL_isBoard 129 = .ok (.invokestatic 55, 3) := by decide +kernel
theorem dL_isBoard_132 : decode cL_isBoard 132 = .ok (.if_icmp .ne 22, 3) := by decide +kernel
theorem dL_isBoard_135 : decode cL_isBoard 135 = .ok (.aload_n 0, 1) := by decide +kernel
theorem dL_isBoard_136 : decode cL_isBoard 136 = .ok (.iload 4, 2) := by decide +kernel
theorem dL_isBoard_138 : decode cL_isBoard 138 = .ok (.invokevirtual 27, 3) := by decide +kernel
theorem dL_isBoard_141 : decode cL_isBoard 141 = .ok (.aload_n 1, 1) := by decide +kernel
theorem dL_isBoard_142 : decode cL_isBoard 142 = .ok (.iload 4, 2) := by decide +kernel
theorem dL_isBoard_144 : decode cL_isBoard 144 = .ok (.invokestatic 59, 3) := by decide +kernel
theorem dL_isBoard_147 : decode cL_isBoard 147 = .ok (.if_icmp .ne 7, 3) := by decide +kernel
theorem dL_isBoard_150 : decode cL_isBoard 150 = .ok (.iconst 1, 1) := by decide +kernel
theorem dL_isBoard_151 : decode cL_isBoard 151 = .ok (.goto 4, 3) := by decide +kernel
theorem dL_isBoard_154 : decode cL_isBoard 154 = .ok (.iconst 0, 1) := by decide +kernel
theorem dL_isBoard_155 : decode cL_isBoard 155 = .ok (.istore_n 3, 1) := by decide +kernel
theorem dL_isBoard_156 : decode cL_isBoard 156 = .ok (.iinc 4 1, 3) := by decide +kernel
theorem dL_isBoard_159 : decode cL_isBoard 159 = .ok (.goto (-51), 3) := by decide +kernel
theorem dL_isBoard_162 : decode cL_isBoard 162 = .ok (.iload_n 3, 1) := by decide +kernel
theorem dL_isBoard_163 : decode cL_isBoard 163 = .ok (.ifCond .eq 43, 3) := by decide +kernel
theorem dL_isBoard_166 : decode cL_isBoard 166 = .ok (.aload_n 0, 1) := by decide +kernel
theorem dL_isBoard_167 : decode cL_isBoard 167 = .ok (.iconst 1, 1) := by decide +kernel
theorem dL_isBoard_168 : decode cL_isBoard 168 = .ok (.aload_n 2, 1) := by decide +kernel
theorem dL_isBoard_169 : decode cL_isBoard 169 = .ok (.iconst 0, 1) := by decide +kernel
theorem dL_isBoard_170 : decode cL_isBoard 170 = .ok (.iaload, 1) := by decide +kernel
theorem dL_isBoard_171 : decode cL_isBoard 171 = .ok (.invokestatic 89, 3) := by decide +kernel
theorem dL_isBoard_174 : decode cL_isBoard 174 = .ok (.bipush (-30), 2) := by decide +kernel
theorem dL_isBoard_176 : decode cL_isBoard 176 = .ok (.if_icmp .ne 30, 3) := by decide +kernel
theorem dL_isBoard_179 : decode cL_isBoard 179 = .ok (.aload_n 0, 1) := by decide +kernel
theorem dL_isBoard_180 : decode cL_isBoard 180 = .ok (.iconst 2, 1) := by decide +kernel
theorem dL_isBoard_181 : decode cL_isBoard 181 = .ok (.iconst (-1), 1) := by decide +kernel
theorem dL_isBoard_182 : decode cL_isBoard 182 = .ok (.invokestatic 89, 3) := by decide +kernel
theorem dL_isBoard_185 : decode cL_isBoard 185 = .ok (.bipush (-30), 2) := by decide +kernel
theorem dL_isBoard_187 : decode cL_isBoard 187 = .ok (.if_icmp .ne 19, 3) := by decide +kernel
theorem dL_isBoard_190 : decode cL_isBoard 190 = .ok (.aload_n 0, 1) := by decide +kernel
theorem dL_isBoard_191 : decode cL_isBoard 191 = .ok (.iconst 0, 1) := by decide +kernel
theorem dL_isBoard_192 : decode cL_isBoard 192 = .ok (.bipush 16, 2) := by decide +kernel
theorem dL_isBoard_194 : decode cL_isBoard 194 = .ok (.invokestatic 89, 3) := by decide +kernel
theorem dL_isBoard_197 : decode cL_isBoard 197 = .ok (.bipush (-30), 2) := by decide +kernel
theorem dL_isBoard_199 : decode cL_isBoard 199 = .ok (.if_icmp .ne 7, 3) := by decide +kernel
theorem dL_isBoard_202 : decode cL_isBoard 202 = .ok (.iconst 1, 1) := by decide +kernel
theorem dL_isBoard_203 : decode cL_isBoard 203 = .ok (.goto 4, 3) := by decide +kernel
theorem dL_isBoard_206 : decode cL_isBoard 206 = .ok (.iconst 0, 1) := by decide +kernel
theorem dL_isBoard_207 : decode cL_isBoard 207 = .ok (.ireturn, 1) := by decide +kernel
set_option maxRecDepth 20000 in
theorem ggL_isSafe_L_asks : GoodIn wsL_isSafe wsL_asks := goodIn_ca (goodIn_ca (goodIn_ca (goodIn_r _ [4, 5, 6, 7, 8, 9, 10, 11, 12, 13, 14, 15, 16, 17, 18, 19, 20, 21, 22, 23, 24, 25, 26, 27, 28, 29, 30, 31, 32, 33, 34, 35, 36, 37, 38, 39, 40, 41, 42, 43, 44, 45, 46, 47, 48, 49, 50, 51, 52, 53, 54, 55, 56, 57, 58, 59, 60, 61, 62, 63, 64, 65, 66, 67, 68, 69, 70, 71, 72, 73, 74, 75, 76, 77, 78, 79, 80, 81, 82, 83, 84, 85, 86, 87, 88, 89, 90, 91, 92, 93, 94, 95, 96, 97, 98, 99, 100, 101, 102, 103, 104, 105, 106, 107, 108, 109, 110, 111, 112, 113, 114, 115, 116, 117, 118, 119, 120, 121, 122, 123, 124, 125, 126, 127, 128, 129, 130, 131, 132, 133, 134, 135, 136, 137, 138, 139, 140, 141, 142, 143, 144, 145, 146, 147, 148, 149, 171, 172, 173, 174, 175, 176, 177, 178, 179, 180, 181] (by decide +kernel) (by decide +kernel)) (goodIn_sub (fun _ h => List.mem_cons_of_mem _ (List.mem_append_left _ (List.mem_append_left _ (List.mem_append_right _ h)))) (by decide +kernel))) (goodIn_sub (fun _ h => List.mem_cons_of_mem _ (List.mem_append_left _ (List.mem_append_right _ h))) (by decide +kernel))) (goodIn_sub (fun _ h => List.mem_cons_of_mem _ (List.mem_append_right _ h)) (by decide +kernel))
set_option maxRecDepth 20000 in
theorem gL_isSafe_L_asks : GoodIn wsL_isSafe (va_wsS RL 89 yL_asks wsL_asks) := goodIn_app (goodIn_of _ (by decide +kernel)) ggL_isSafe_L_asks
set_option maxRecDepth 20000 in
theorem ggL_isSafe_L_isOn : GoodIn wsL_isSafe wsL_isOn := goodIn_r _ [152] (by decide +kernel) (by decide +kernel)
set_option maxRecDepth 20000 in
theorem gL_isSafe_L_isOn : GoodIn wsL_isSafe (va_wsS RL 64 yL_isOn wsL_isOn) := goodIn_app (goodIn_of _ (by decide +kernel)) ggL_isSafe_L_isOn
set_option maxRecDepth 20000 in
theorem ggL_isSafe_L_winning : GoodIn wsL_isSafe wsL_winning := goodIn_r _ [155, 156, 157, 3, 158, 159, 160, 161, 162, 163, 164, 165, 166, 167] (by decide +kernel) (by decide +kernel)
set_option maxRecDepth 20000 in
theorem gL_isSafe_L_winning : GoodIn wsL_isSafe (va_wsS RL 68 yL_winning wsL_winning) := goodIn_app (goodIn_of _ (by decide +kernel)) ggL_isSafe_L_winning
set_option maxRecDepth 20000 in
theorem ggL_isSafe_L_safe : GoodIn wsL_isSafe wsL_safe := goodIn_r _ [170, 150, 151, 3, 152, 153, 154, 155, 156, 157, 158, 159, 160, 161, 162, 163, 164, 165, 166, 167] (by decide +kernel) (by decide +kernel)
set_option maxRecDepth 20000 in
theorem gL_isSafe_L_safe : GoodIn wsL_isSafe (va_wsS RL 93 yL_safe wsL_safe) := goodIn_app (goodIn_of _ (by decide +kernel)) ggL_isSafe_L_safe
theorem dL_isSafe_0 : decode cL_isSafe 0 = .ok (.iconst 1, 1) := by decide +kernel
theorem dL_isSafe_1 : decode cL_isSafe 1 = .ok (.istore_n 3, 1) := by decide +kernel
theorem dL_isSafe_2 : decode cL_isSafe 2 = .ok (.iconst 0, 1) := by decide +kernel
theorem dL_isSafe_3 : decode cL_isSafe 3 = .ok (.istore 4, 2) := by decide +kernel
theorem dL_isSafe_5 : decode cL_isSafe 5 = .ok (.iload 4, 2) := by decide +kernel
theorem dL_isSafe_7 : decode cL_isSafe 7 = .ok (.bipush 16, 2) := by decide +kernel
theorem dL_isSafe_9 : decode cL_isSafe 9 = .ok (.if_icmp .ge 59, 3) := by decide +kernel
theorem dL_isSafe_12 : decode cL_isSafe 12 = .ok (.iload_n 3, 1) := by decide +kernel
theorem dL_isSafe_13 : decode cL_isSafe 13 = .ok (.ifCond .eq 55, 3) := by decide +kernel
theorem dL_isSafe_16 : decode cL_isSafe 16 = .ok (.aload_n 0, 1) := by decide +kernel
theorem dL_isSafe_17 : decode cL_isSafe 17 = .ok (.iconst 3, 1) := by decide +kernel
theorem dL_isSafe_18 : decode cL_isSafe 18 = .ok (.iload 4, 2) := by decide +kernel
theorem dL_isSafe_20 : decode cL_isSafe 20 = .ok (.invokestatic 89, 3) := by decide +kernel
theorem dL_isSafe_23 : decode cL_isSafe 23 = .ok (.aload_n 2, 1) := by decide +kernel
theorem dL_isSafe_24 : decode cL_isSafe 24 = .ok (.iconst 1, 1) := by decide +kernel
theorem dL_isSafe_25 : decode cL_isSafe 25 = .ok (.iaload, 1) := by decide +kernel
theorem dL_isSafe_26 : decode cL_isSafe 26 = .ok (.iconst 2, 1) := by decide +kernel
theorem dL_isSafe_27 : decode cL_isSafe 27 = .ok (.if_icmp .eq 12, 3) := by decide +kernel
theorem dL_isSafe_30 : decode cL_isSafe 30 = .ok (.aload_n 1, 1) := by decide +kernel
theorem dL_isSafe_31 : decode cL_isSafe 31 = .ok (.iload 4, 2) := by decide +kernel
theorem dL_isSafe_33 : decode cL_isSafe 33 = .ok (.invokestatic 64, 3) := by decide +kernel
theorem dL_isSafe_36 : decode cL_isSafe 36 = .ok (.ifCond .eq 8, 3) := by decide +kernel
theorem dL_isSafe_39 : decode cL_isSafe 39 = .ok (.bipush (-10), 2) := by decide +kernel
theorem dL_isSafe_41 : decode cL_isSafe 41 = .ok (.goto 12, 3) := by decide +kernel
theorem dL_isSafe_44 : decode cL_isSafe 44 = .ok (.aload_n 1, 1) := by decide +kernel
theorem dL_isSafe_45 : decode cL_isSafe 45 = .ok (.aload_n 2, 1) := by decide +kernel
theorem dL_isSafe_46 : decode cL_isSafe 46 = .ok (.iconst 0, 1) := by decide +kernel
theorem dL_isSafe_47 : decode cL_isSafe 47 = .ok (.iaload, 1) := by decide +kernel
theorem dL_isSafe_48 : decode cL_isSafe 48 = .ok (.iload 4, 2) := by decide +kernel
theorem dL_isSafe_50 : decode cL_isSafe 50 = .ok (.invokestatic 68, 3) := by decide +kernel
theorem dL_isSafe_53 : decode cL_isSafe 53 = .ok (.if_icmp .ne 7, 3) := by decide +kernel
theorem dL_isSafe_56 : decode cL_isSafe 56 = .ok (.iconst 1, 1) := by decide +kernel
theorem dL_isSafe_57 : decode cL_isSafe 57 = .ok (.goto 4, 3) := by decide +kernel
theorem dL_isSafe_60 : decode cL_isSafe 60 = .ok (.iconst 0, 1) := by decide +kernel
theorem dL_isSafe_61 : decode cL_isSafe 61 = .ok (.istore_n 3, 1) := by decide +kernel
theorem dL_isSafe_62 : decode cL_isSafe 62 = .ok (.iinc 4 1, 3) := by decide +kernel
theorem dL_isSafe_65 : decode cL_isSafe 65 = .ok (.goto (-60), 3) := by decide +kernel
theorem dL_isSafe_68 : decode cL_isSafe 68 = .ok (.iload_n 3, 1) := by decide +kernel
theorem dL_isSafe_69 : decode cL_isSafe 69 = .ok (.ifCond .eq 46, 3) := by decide +kernel
theorem dL_isSafe_72 : decode cL_isSafe 72 = .ok (.aload_n 0, 1) := by decide +kernel
theorem dL_isSafe_73 : decode cL_isSafe 73 = .ok (.iconst 3, 1) := by decide +kernel
theorem dL_isSafe_74 : decode cL_isSafe 74 = .ok (.bipush 16, 2) := by decide +kernel
theorem dL_isSafe_76 : decode cL_isSafe 76 = .ok (.invokestatic 89, 3) := by decide +kernel
theorem dL_isSafe_79 : decode cL_isSafe 79 = .ok (.bipush (-30), 2) := by decide +kernel
theorem dL_isSafe_81 : decode cL_isSafe 81 = .ok (.if_icmp .ne 34, 3) := by decide +kernel
theorem dL_isSafe_84 : decode cL_isSafe 84 = .ok (.aload_n 0, 1) := by decide +kernel
theorem dL_isSafe_85 : decode cL_isSafe 85 = .ok (.iconst 4, 1) := by decide +kernel
theorem dL_isSafe_86 : decode cL_isSafe 86 = .ok (.iconst 0, 1) := by decide +kernel
theorem dL_isSafe_87 : decode cL_isSafe 87 = .ok (.invokestatic 89, 3) := by decide +kernel
theorem dL_isSafe_90 : decode cL_isSafe 90 = .ok (.aload_n 2, 1) := by decide +kernel
theorem dL_isSafe_91 : decode cL_isSafe 91 = .ok (.iconst 1, 1) := by decide +kernel
theorem dL_isSafe_92 : decode cL_isSafe 92 = .ok (.iaload, 1) := by decide +kernel
theorem dL_isSafe_93 : decode cL_isSafe 93 = .ok (.ifCond .eq 8, 3) := by decide +kernel
theorem dL_isSafe_96 : decode cL_isSafe 96 = .ok (.bipush (-10), 2) := by decide +kernel
theorem dL_isSafe_98 : decode cL_isSafe 98 = .ok (.goto 10, 3) := by decide +kernel
theorem dL_isSafe_101 : decode cL_isSafe 101 = .ok (.aload_n 1, 1) := by decide +kernel
theorem dL_isSafe_102 : decode cL_isSafe 102 = .ok (.aload_n 2, 1) := by decide +kernel
theorem dL_isSafe_103 : decode cL_isSafe 103 = .ok (.iconst 0, 1) := by decide +kernel
theorem dL_isSafe_104 : decode cL_isSafe 104 = .ok (.iaload, 1) := by decide +kernel
theorem dL_isSafe_105 : decode cL_isSafe 105 = .ok (.invokestatic 93, 3) := by decide +kernel
theorem dL_isSafe_108 : decode cL_isSafe 108 = .ok (.if_icmp .ne 7, 3) := by decide +kernel
theorem dL_isSafe_111 : decode cL_isSafe 111 = .ok (.iconst 1, 1) := by decide +kernel
theorem dL_isSafe_112 : decode cL_isSafe 112 = .ok (.goto 4, 3) := by decide +kernel
theorem dL_isSafe_115 : decode cL_isSafe 115 = .ok (.iconst 0, 1) := by decide +kernel
theorem dL_isSafe_116 : decode cL_isSafe 116 = .ok (.ireturn, 1) := by decide +kernel
set_option maxRecDepth 20000 in
theorem ggL_isWorth_L_asks : GoodIn wsL_isWorth wsL_asks := goodIn_ca (goodIn_ca (goodIn_ca (goodIn_r _ [4, 5, 6, 7, 8, 9, 10, 11, 12, 13, 14, 15, 16, 17, 18, 19, 20, 21, 22, 23, 24, 25, 26, 27, 28, 29, 30, 31, 32, 33, 34, 35, 36, 37, 38, 39, 40, 41, 42, 43, 44, 45, 46, 47, 48, 49, 50, 51, 52, 53, 54, 55, 56, 57, 58, 59, 60, 61, 62, 63, 64, 65, 66, 67, 68, 69, 70, 71, 72, 73, 74, 75, 76, 77, 78, 79, 80, 81, 82, 83, 84, 85, 86, 87, 88, 89, 90, 91, 92, 93, 94, 95, 96, 97, 98, 99, 100, 101, 102, 103, 104, 105, 106, 107, 108, 109, 110, 111, 112, 113, 114, 115, 116, 117, 118, 119, 120, 121, 122, 123, 124, 125, 126, 127, 128, 129, 130, 131, 132, 133, 134, 135, 136, 137, 138, 139, 140, 141, 142, 143, 144, 145, 146, 147, 148, 149, 174, 175, 176, 177, 178, 179, 180, 181, 182, 183, 184] (by decide +kernel) (by decide +kernel)) (goodIn_sub (fun _ h => List.mem_cons_of_mem _ (List.mem_append_left _ (List.mem_append_left _ (List.mem_append_right _ h)))) (by decide +kernel))) (goodIn_sub (fun _ h => List.mem_cons_of_mem _ (List.mem_append_left _ (List.mem_append_right _ h))) (by decide +kernel))) (goodIn_sub (fun _ h => List.mem_cons_of_mem _ (List.mem_append_right _ h)) (by decide +kernel))
set_option maxRecDepth 20000 in
theorem gL_isWorth_L_asks : GoodIn wsL_isWorth (va_wsS RL 89 yL_asks wsL_asks) := goodIn_app (goodIn_of _ (by decide +kernel)) ggL_isWorth_L_asks
set_option maxRecDepth 20000 in
theorem ggL_isWorth_L_safe : GoodIn wsL_isWorth wsL_safe := goodIn_r _ [152, 153, 154, 3, 155, 156, 157, 158, 159, 160, 161, 162, 163, 164, 165, 166, 167, 168, 169, 170] (by decide +kernel) (by decide +kernel)
set_option maxRecDepth 20000 in
theorem gL_isWorth_L_safe : GoodIn wsL_isWorth (va_wsS RL 93 yL_safe wsL_safe) := goodIn_app (goodIn_of _ (by decide +kernel)) ggL_isWorth_L_safe
set_option maxRecDepth 20000 in
theorem ggL_isWorth_L_isOn : GoodIn wsL_isWorth wsL_isOn := goodIn_r _ [155] (by decide +kernel) (by decide +kernel)
set_option maxRecDepth 20000 in
theorem gL_isWorth_L_isOn : GoodIn wsL_isWorth (va_wsS RL 64 yL_isOn wsL_isOn) := goodIn_app (goodIn_of _ (by decide +kernel)) ggL_isWorth_L_isOn
set_option maxRecDepth 20000 in
theorem ggL_isWorth_L_lowest : GoodIn wsL_isWorth wsL_lowest := goodIn_r _ [173] (by decide +kernel) (by decide +kernel)
set_option maxRecDepth 20000 in
theorem gL_isWorth_L_lowest : GoodIn wsL_isWorth (va_wsS RL 95 yL_lowest wsL_lowest) := goodIn_app (goodIn_of _ (by decide +kernel)) ggL_isWorth_L_lowest
set_option maxRecDepth 20000 in
theorem ggL_isWorth_L_winning : GoodIn wsL_isWorth wsL_winning := goodIn_r _ [158, 159, 160, 3, 161, 162, 163, 164, 165, 166, 167, 168, 169, 170] (by decide +kernel) (by decide +kernel)
set_option maxRecDepth 20000 in
theorem gL_isWorth_L_winning : GoodIn wsL_isWorth (va_wsS RL 68 yL_winning wsL_winning) := goodIn_app (goodIn_of _ (by decide +kernel)) ggL_isWorth_L_winning
theorem dL_isWorth_0 : decode cL_isWorth 0 = .ok (.aload_n 0, 1) := by decide +kernel
theorem dL_isWorth_1 : decode cL_isWorth 1 = .ok (.iconst 5, 1) := by decide +kernel
theorem dL_isWorth_2 : decode cL_isWorth 2 = .ok (.iconst 1, 1) := by decide +kernel
theorem dL_isWorth_3 : decode cL_isWorth 3 = .ok (.invokestatic 89, 3) := by decide +kernel
theorem dL_isWorth_6 : decode cL_isWorth 6 = .ok (.istore_n 3, 1) := by decide +kernel
theorem dL_isWorth_7 : decode cL_isWorth 7 = .ok (.aload_n 0, 1) := by decide +kernel
theorem dL_isWorth_8 : decode cL_isWorth 8 = .ok (.iconst 5, 1) := by decide +kernel
theorem dL_isWorth_9 : decode cL_isWorth 9 = .ok (.iconst 2, 1) := by decide +kernel
theorem dL_isWorth_10 : decode cL_isWorth 10 = .ok (.invokestatic 89, 3) := by decide +kernel
theorem dL_isWorth_13 : decode cL_isWorth 13 = .ok (.istore 4, 2) := by decide +kernel
theorem dL_isWorth_15 : decode cL_isWorth 15 = .ok (.aload_n 2, 1) := by decide +kernel
theorem dL_isWorth_16 : decode cL_isWorth 16 = .ok (.iconst 1, 1) := by decide +kernel
theorem dL_isWorth_17 : decode cL_isWorth 17 = .ok (.iaload, 1) := by decide +kernel
theorem dL_isWorth_18 : decode cL_isWorth 18 = .ok (.iconst 2, 1) := by decide +kernel
theorem dL_isWorth_19 : decode cL_isWorth 19 = .ok (.if_icmp .ne 45, 3) := by decide +kernel
theorem dL_isWorth_22 : decode cL_isWorth 22 = .ok (.iload_n 3, 1) := by decide +kernel
theorem dL_isWorth_23 : decode cL_isWorth 23 = .ok (.bipush (-10), 2) := by decide +kernel
theorem dL_isWorth_25 : decode cL_isWorth 25 = .ok (.if_icmp .ne 37, 3) := by decide +kernel
theorem dL_isWorth_28 : decode cL_isWorth 28 = .ok (.iload 4, 2) := by decide +kernel
theorem dL_isWorth_30 : decode cL_isWorth 30 = .ok (.bipush (-10), 2) := by decide +kernel
theorem dL_isWorth_32 : decode cL_isWorth 32 = .ok (.if_icmp .ne 30, 3) := by decide +kernel
theorem dL_isWorth_35 : decode cL_isWorth 35 = .ok (.aload_n 0, 1) := by decide +kernel
theorem dL_isWorth_36 : decode cL_isWorth 36 = .ok (.bipush 6, 2) := by decide +kernel
theorem dL_isWorth_38 : decode cL_isWorth 38 = .ok (.iconst 1, 1) := by decide +kernel
theorem dL_isWorth_39 : decode cL_isWorth 39 = .ok (.invokestatic 89, 3) := by decide +kernel
theorem dL_isWorth_42 : decode cL_isWorth 42 = .ok (.bipush (-10), 2) := by decide +kernel
theorem dL_isWorth_44 : decode cL_isWorth 44 = .ok (.if_icmp .ne 18, 3) := by decide +kernel
theorem dL_isWorth_47 : decode cL_isWorth 47 = .ok (.aload_n 0, 1) := by decide +kernel
theorem dL_isWorth_48 : decode cL_isWorth 48 = .ok (.iconst 5, 1) := by decide +kernel
theorem dL_isWorth_49 : decode cL_isWorth 49 = .ok (.iconst 0, 1) := by decide +kernel
theorem dL_isWorth_50 : decode cL_isWorth 50 = .ok (.invokestatic 89, 3) := by decide +kernel
theorem dL_isWorth_53 : decode cL_isWorth 53 = .ok (.bipush (-20), 2) := by decide +kernel
theorem dL_isWorth_55 : decode cL_isWorth 55 = .ok (.if_icmp .ne 7, 3) := by decide +kernel
theorem dL_isWorth_58 : decode cL_isWorth 58 = .ok (.iconst 1, 1) := by decide +kernel
theorem dL_isWorth_59 : decode cL_isWorth 59 = .ok (.goto 4, 3) := by decide +kernel
theorem dL_isWorth_62 : decode cL_isWorth 62 = .ok (.iconst 0, 1) := by decide +kernel
theorem dL_isWorth_63 : decode cL_isWorth 63 = .ok (.ireturn, 1) := by decide +kernel
theorem dL_isWorth_64 : decode cL_isWorth 64 = .ok (.iload_n 3, 1) := by decide +kernel
theorem dL_isWorth_65 : decode cL_isWorth 65 = .ok (.ifCond .eq 9, 3) := by decide +kernel
theorem dL_isWorth_68 : decode cL_isWorth 68 = .ok (.iload 4, 2) := by decide +kernel
theorem dL_isWorth_70 : decode cL_isWorth 70 = .ok (.iload_n 3, 1) := by decide +kernel
theorem dL_isWorth_71 : decode cL_isWorth 71 = .ok (.if_icmp .ne 69, 3) := by decide +kernel
theorem dL_isWorth_74 : decode cL_isWorth 74 = .ok (.aload_n 0, 1) := by decide +kernel
theorem dL_isWorth_75 : decode cL_isWorth 75 = .ok (.iconst 5, 1) := by decide +kernel
theorem dL_isWorth_76 : decode cL_isWorth 76 = .ok (.iconst 5, 1) := by decide +kernel
theorem dL_isWorth_77 : decode cL_isWorth 77 = .ok (.invokestatic 89, 3) := by decide +kernel
theorem dL_isWorth_80 : decode cL_isWorth 80 = .ok (.bipush (-20), 2) := by decide +kernel
theorem dL_isWorth_82 : decode cL_isWorth 82 = .ok (.if_icmp .ne 58, 3) := by decide +kernel
theorem dL_isWorth_85 : decode cL_isWorth 85 = .ok (.aload_n 0, 1) := by decide +kernel
theorem dL_isWorth_86 : decode cL_isWorth 86 = .ok (.bipush 6, 2) := by decide +kernel
theorem dL_isWorth_88 : decode cL_isWorth 88 = .ok (.iconst 0, 1) := by decide +kernel
theorem dL_isWorth_89 : decode cL_isWorth 89 = .ok (.invokestatic 89, 3) := by decide +kernel
theorem dL_isWorth_92 : decode cL_isWorth 92 = .ok (.bipush (-20), 2) := by decide +kernel
theorem dL_isWorth_94 : decode cL_isWorth 94 = .ok (.if_icmp .ne 46, 3) := by decide +kernel
theorem dL_isWorth_97 : decode cL_isWorth 97 = .ok (.aload_n 2, 1) := by decide +kernel
theorem dL_isWorth_98 : decode cL_isWorth 98 = .ok (.iconst 4, 1) := by decide +kernel
theorem dL_isWorth_99 : decode cL_isWorth 99 = .ok (.iaload, 1) := by decide +kernel
theorem dL_isWorth_100 : decode cL_isWorth 100 = .ok (.bipush 7, 2) := by decide +kernel
theorem dL_isWorth_102 : decode cL_isWorth 102 = .ok (.if_icmp .gt 14, 3) := by decide +kernel
theorem dL_isWorth_105 : decode cL_isWorth 105 = .ok (.aload_n 0, 1) := by decide +kernel
theorem dL_isWorth_106 : decode cL_isWorth 106 = .ok (.iconst 5, 1) := by decide +kernel
theorem dL_isWorth_107 : decode cL_isWorth 107 = .ok (.iconst 3, 1) := by decide +kernel
theorem dL_isWorth_108 : decode cL_isWorth 108 = .ok (.invokestatic 89, 3) := by decide +kernel
theorem dL_isWorth_111 : decode cL_isWorth 111 = .ok (.bipush (-10), 2) := by decide +kernel
theorem dL_isWorth_113 : decode cL_isWorth 113 = .ok (.if_icmp .ne 27, 3) := by decide +kernel
theorem dL_isWorth_116 : decode cL_isWorth 116 = .ok (.aload_n 2, 1) := by decide +kernel
theorem dL_isWorth_117 : decode cL_isWorth 117 = .ok (.iconst 4, 1) := by decide +kernel
theorem dL_isWorth_118 : decode cL_isWorth 118 = .ok (.iaload, 1) := by decide +kernel
theorem dL_isWorth_119 : decode cL_isWorth 119 = .ok (.bipush 9, 2) := by decide +kernel
theorem dL_isWorth_121 : decode cL_isWorth 121 = .ok (.if_icmp .gt 15, 3) := by decide +kernel
theorem dL_isWorth_124 : decode cL_isWorth 124 = .ok (.aload_n 0, 1) := by decide +kernel
theorem dL_isWorth_125 : decode cL_isWorth 125 = .ok (.bipush 6, 2) := by decide +kernel
theorem dL_isWorth_127 : decode cL_isWorth 127 = .ok (.iconst 4, 1) := by decide +kernel
theorem dL_isWorth_128 : decode cL_isWorth 128 = .ok (.invokestatic 89, 3) := by decide +kernel
theorem dL_isWorth_131 : decode cL_isWorth 131 = .ok (.bipush (-10), 2) := by decide +kernel
theorem dL_isWorth_133 : decode cL_isWorth 133 = .ok (.if_icmp .ne 7, 3) := by decide +kernel
theorem dL_isWorth_136 : decode cL_isWorth 136 = .ok (.iconst 1, 1) := by decide +kernel
theorem dL_isWorth_137 : decode cL_isWorth 137 = .ok (.goto 4, 3) := by decide +kernel
theorem dL_isWorth_140 : decode cL_isWorth 140 = .ok (.iconst 0, 1) := by decide +kernel
theorem dL_isWorth_141 : decode cL_isWorth 141 = .ok (.istore 5, 2) := by decide +kernel
theorem dL_isWorth_143 : decode cL_isWorth 143 = .ok (.aload_n 2, 1) := by decide +kernel
theorem dL_isWorth_144 : decode cL_isWorth 144 = .ok (.iconst 1, 1) := by decide +kernel
theorem dL_isWorth_145 : decode cL_isWorth 145 = .ok (.iaload, 1) := by decide +kernel
theorem dL_isWorth_146 : decode cL_isWorth 146 = .ok (.ifCond .ne 86, 3) := by decide +kernel
theorem dL_isWorth_149 : decode cL_isWorth 149 = .ok (.aload_n 1, 1) := by decide +kernel
theorem dL_isWorth_150 : decode cL_isWorth 150 = .ok (.aload_n 2, 1) := by decide +kernel
theorem dL_isWorth_151 : decode cL_isWorth 151 = .ok (.iconst 0, 1) := by decide +kernel
theorem dL_isWorth_152 : decode cL_isWorth 152 = .ok (.iaload, 1) := by decide +kernel
theorem dL_isWorth_153 : decode cL_isWorth 153 = .ok (.invokestatic 93, 3) := by decide +kernel
theorem dL_isWorth_156 : decode cL_isWorth 156 = .ok (.istore 6, 2) := by decide +kernel
theorem dL_isWorth_158 : decode cL_isWorth 158 = .ok (.iconst 0, 1) := by decide +kernel
theorem dL_isWorth_159 : decode cL_isWorth 159 = .ok (.istore 7, 2) := by decide +kernel
theorem dL_isWorth_161 : decode cL_isWorth 161 = .ok (.aload_n 1, 1) := by decide +kernel
theorem dL_isWorth_162 : decode cL_isWorth 162 = .ok (.iload 7, 2) := by decide +kernel
theorem dL_isWorth_164 : decode cL_isWorth 164 = .ok (.invokestatic 64, 3) := by decide +kernel
theorem dL_isWorth_167 : decode cL_isWorth 167 = .ok (.ifCond .eq 9, 3) := by decide +kernel
theorem dL_isWorth_170 : decode cL_isWorth 170 = .ok (.iinc 7 1, 3) := by decide +kernel
theorem dL_isWorth_173 : decode cL_isWorth 173 = .ok (.goto (-12), 3) := by decide +kernel
theorem dL_isWorth_176 : decode cL_isWorth 176 = .ok (.iload 5, 2) := by decide +kernel
theorem dL_isWorth_178 : decode cL_isWorth 178 = .ok (.ifCond .eq 52, 3) := by decide +kernel
theorem dL_isWorth_181 : decode cL_isWorth 181 = .ok (.iload_n 3, 1) := by decide +kernel
theorem dL_isWorth_182 : decode cL_isWorth 182 = .ok (.iload 6, 2) := by decide +kernel
theorem dL_isWorth_184 : decode cL_isWorth 184 = .ok (.ifCond .ne 7, 3) := by decide +kernel
theorem dL_isWorth_187 : decode cL_isWorth 187 = .ok (.iconst (-1), 1) := by decide +kernel
theorem dL_isWorth_188 : decode cL_isWorth 188 = .ok (.goto 4, 3) := by decide +kernel
theorem dL_isWorth_191 : decode cL_isWorth 191 = .ok (.iconst 0, 1) := by decide +kernel
theorem dL_isWorth_192 : decode cL_isWorth 192 = .ok (.if_icmp .ne 38, 3) := by decide +kernel
theorem dL_isWorth_195 : decode cL_isWorth 195 = .ok (.aload_n 0, 1) := by decide +kernel
theorem dL_isWorth_196 : decode cL_isWorth 196 = .ok (.bipush 6, 2) := by decide +kernel
theorem dL_isWorth_198 : decode cL_isWorth 198 = .ok (.iconst 1, 1) := by decide +kernel
theorem dL_isWorth_199 : decode cL_isWorth 199 = .ok (.invokestatic 89, 3) := by decide +kernel
theorem dL_isWorth_202 : decode cL_isWorth 202 = .ok (.iload 6, 2) := by decide +kernel
theorem dL_isWorth_204 : decode cL_isWorth 204 = .ok (.ifCond .ne 8, 3) := by decide +kernel
theorem dL_isWorth_207 : decode cL_isWorth 207 = .ok (.iload 7, 2) := by decide +kernel
theorem dL_isWorth_209 : decode cL_isWorth 209 = .ok (.goto 8, 3) := by decide +kernel
theorem dL_isWorth_212 : decode cL_isWorth 212 = .ok (.iload 6, 2) := by decide +kernel
theorem dL_isWorth_214 : decode cL_isWorth 214 = .ok (.invokestatic 95, 3) := by decide +kernel
theorem dL_isWorth_217 : decode cL_isWorth 217 = .ok (.if_icmp .ne 13, 3) := by decide +kernel
theorem dL_isWorth_220 : decode cL_isWorth 220 = .ok (.iload 4, 2) := by decide +kernel
theorem dL_isWorth_222 : decode cL_isWorth 222 = .ok (.iload_n 3, 1) := by decide +kernel
theorem dL_isWorth_223 : decode cL_isWorth 223 = .ok (.if_icmp .lt 7, 3) := by decide +kernel
theorem dL_isWorth_226 : decode cL_isWorth 226 = .ok (.iconst 1, 1) := by decide +kernel
theorem dL_isWorth_227 : decode cL_isWorth 227 = .ok (.goto 4, 3) := by decide +kernel
theorem dL_isWorth_230 : decode cL_isWorth 230 = .ok (.iconst 0, 1) := by decide +kernel
theorem dL_isWorth_231 : decode cL_isWorth 231 = .ok (.ireturn, 1) := by decide +kernel
theorem dL_isWorth_232 : decode cL_isWorth 232 = .ok (.aload_n 1, 1) := by decide +kernel
theorem dL_isWorth_233 : decode cL_isWorth 233 = .ok (.aload_n 2, 1) := by decide +kernel
theorem dL_isWorth_234 : decode cL_isWorth 234 = .ok (.iconst 0, 1) := by decide +kernel
theorem dL_isWorth_235 : decode cL_isWorth 235 = .ok (.iaload, 1) := by decide +kernel
theorem dL_isWorth_236 : decode cL_isWorth 236 = .ok (.aload_n 2, 1) := by decide +kernel
theorem dL_isWorth_237 : decode cL_isWorth 237 = .ok (.iconst 3, 1) := by decide +kernel
theorem dL_isWorth_238 : decode cL_isWorth 238 = .ok (.iaload, 1) := by decide +kernel
theorem dL_isWorth_239 : decode cL_isWorth 239 = .ok (.invokestatic 68, 3) := by decide +kernel
theorem dL_isWorth_242 : decode cL_isWorth 242 = .ok (.istore 6, 2) := by decide +kernel
theorem dL_isWorth_244 : decode cL_isWorth 244 = .ok (.iconst 0, 1) := by decide +kernel
theorem dL_isWorth_245 : decode cL_isWorth 245 = .ok (.istore 7, 2) := by decide +kernel
theorem dL_isWorth_247 : decode cL_isWorth 247 = .ok (.iconst 0, 1) := by decide +kernel
theorem dL_isWorth_248 : decode cL_isWorth 248 = .ok (.istore 8, 2) := by decide +kernel
theorem dL_isWorth_250 : decode cL_isWorth 250 = .ok (.iconst 0, 1) := by decide +kernel
theorem dL_isWorth_251 : decode cL_isWorth 251 = .ok (.istore 9, 2) := by decide +kernel
theorem dL_isWorth_253 : decode cL_isWorth 253 = .ok (.iload 9, 2) := by decide +kernel
theorem dL_isWorth_255 : decode cL_isWorth 255 = .ok (.bipush 16, 2) := by decide +kernel
theorem dL_isWorth_257 : decode cL_isWorth 257 = .ok (.if_icmp .ge 68, 3) := by decide +kernel
theorem dL_isWorth_260 : decode cL_isWorth 260 = .ok (.aload_n 1, 1) := by decide +kernel
theorem dL_isWorth_261 : decode cL_isWorth 261 = .ok (.iload 9, 2) := by decide +kernel
theorem dL_isWorth_263 : decode cL_isWorth 263 = .ok (.iaload, 1) := by decide +kernel
theorem dL_isWorth_264 : decode cL_isWorth 264 = .ok (.ifCond .ge 55, 3) := by decide +kernel
theorem dL_isWorth_267 : decode cL_isWorth 267 = .ok (.aload_n 1, 1) := by decide +kernel
theorem dL_isWorth_268 : decode cL_isWorth 268 = .ok (.iload 9, 2) := by decide +kernel
theorem dL_isWorth_270 : decode cL_isWorth 270 = .ok (.aload_n 2, 1) := by decide +kernel
theorem dL_isWorth_271 : decode cL_isWorth 271 = .ok (.iconst 3, 1) := by decide +kernel
theorem dL_isWorth_272 : decode cL_isWorth 272 = .ok (.iaload, 1) := by decide +kernel
theorem dL_isWorth_273 : decode cL_isWorth 273 = .ok (.iastore, 1) := by decide +kernel
theorem dL_isWorth_274 : decode cL_isWorth 274 = .ok (.iload 8, 2) := by decide +kernel
theorem dL_isWorth_276 : decode cL_isWorth 276 = .ok (.iconst 1, 1) := by decide +kernel
theorem dL_isWorth_277 : decode cL_isWorth 277 = .ok (.iload 9, 2) := by decide +kernel
theorem dL_isWorth_279 : decode cL_isWorth 279 = .ok (.ishl, 1) := by decide +kernel
theorem dL_isWorth_280 : decode cL_isWorth 280 = .ok (.ior, 1) := by decide +kernel
theorem dL_isWorth_281 : decode cL_isWorth 281 = .ok (.istore 8, 2) := by decide +kernel
theorem dL_isWorth_283 : decode cL_isWorth 283 = .ok (.iload 7, 2) := by decide +kernel
theorem dL_isWorth_285 : decode cL_isWorth 285 = .ok (.aload_n 2, 1) := by decide +kernel
theorem dL_isWorth_286 : decode cL_isWorth 286 = .ok (.iconst 4, 1) := by decide +kernel
theorem dL_isWorth_287 : decode cL_isWorth 287 = .ok (.iaload, 1) := by decide +kernel
theorem dL_isWorth_288 : decode cL_isWorth 288 = .ok (.bipush 15, 2) := by decide +kernel
theorem dL_isWorth_290 : decode cL_isWorth 290 = .ok (.if_icmp .eq 13, 3) := by decide +kernel
theorem dL_isWorth_293 : decode cL_isWorth 293 = .ok (.aload_n 1, 1) := by decide +kernel
theorem dL_isWorth_294 : decode cL_isWorth 294 = .ok (.aload_n 2, 1) := by decide +kernel
theorem dL_isWorth_295 : decode cL_isWorth 295 = .ok (.iconst 0, 1) := by decide +kernel
theorem dL_isWorth_296 : decode cL_isWorth 296 = .ok (.iaload, 1) := by decide +kernel
theorem dL_isWorth_297 : decode cL_isWorth 297 = .ok (.invokestatic 93, 3) := by decide +kernel
theorem dL_isWorth_300 : decode cL_isWorth 300 = .ok (.ifCond .eq 10, 3) := by decide +kernel
theorem dL_isWorth_303 : decode cL_isWorth 303 = .ok (.iconst 1, 1) := by decide +kernel
theorem dL_isWorth_304 : decode cL_isWorth 304 = .ok (.iload 9, 2) := by decide +kernel
theorem dL_isWorth_306 : decode cL_isWorth 306 = .ok (.ishl, 1) := by decide +kernel
theorem dL_isWorth_307 : decode cL_isWorth 307 = .ok (.goto 4, 3) := by decide +kernel
theorem dL_isWorth_310 : decode cL_isWorth 310 = .ok (.iconst 0, 1) := by decide +kernel
theorem dL_isWorth_311 : decode cL_isWorth 311 = .ok (.ior, 1) := by decide +kernel
theorem dL_isWorth_312 : decode cL_isWorth 312 = .ok (.istore 7, 2) := by decide +kernel
theorem dL_isWorth_314 : decode cL_isWorth 314 = .ok (.aload_n 1, 1) := by decide +kernel
theorem dL_isWorth_315 : decode cL_isWorth 315 = .ok (.iload 9, 2) := by decide +kernel
theorem dL_isWorth_317 : decode cL_isWorth 317 = .ok (.iconst (-1), 1) := by decide +kernel
theorem dL_isWorth_318 : decode cL_isWorth 318 = .ok (.iastore, 1) := by decide +kernel
theorem dL_isWorth_319 : decode cL_isWorth 319 = .ok (.iinc 9 1, 3) := by decide +kernel
theorem dL_isWorth_322 : decode cL_isWorth 322 = .ok (.goto (-69), 3) := by decide +kernel
theorem dL_isWorth_325 : decode cL_isWorth 325 = .ok (.iload 6, 2) := by decide +kernel
theorem dL_isWorth_327 : decode cL_isWorth 327 = .ok (.ifCond .eq 7, 3) := by decide +kernel
theorem dL_isWorth_330 : decode cL_isWorth 330 = .ok (.iconst 1, 1) := by decide +kernel
theorem dL_isWorth_331 : decode cL_isWorth 331 = .ok (.goto 13, 3) := by decide +kernel
theorem dL_isWorth_334 : decode cL_isWorth 334 = .ok (.iload 7, 2) := by decide +kernel
theorem dL_isWorth_336 : decode cL_isWorth 336 = .ok (.ifCond .eq 7, 3) := by decide +kernel
theorem dL_isWorth_339 : decode cL_isWorth 339 = .ok (.iconst 0, 1) := by decide +kernel
theorem dL_isWorth_340 : decode cL_isWorth 340 = .ok (.goto 4, 3) := by decide +kernel
theorem dL_isWorth_343 : decode cL_isWorth 343 = .ok (.iconst (-1), 1) := by decide +kernel
theorem dL_isWorth_344 : decode cL_isWorth 344 = .ok (.istore 9, 2) := by decide +kernel
theorem dL_isWorth_346 : decode cL_isWorth 346 = .ok (.iload 5, 2) := by decide +kernel
theorem dL_isWorth_348 : decode cL_isWorth 348 = .ok (.ifCond .eq 89, 3) := by decide +kernel
theorem dL_isWorth_351 : decode cL_isWorth 351 = .ok (.iload_n 3, 1) := by decide +kernel
theorem dL_isWorth_352 : decode cL_isWorth 352 = .ok (.iload 6, 2) := by decide +kernel
theorem dL_isWorth_354 : decode cL_isWorth 354 = .ok (.ifCond .ne 7, 3) := by decide +kernel
theorem dL_isWorth_357 : decode cL_isWorth 357 = .ok (.iconst 0, 1) := by decide +kernel
theorem dL_isWorth_358 : decode cL_isWorth 358 = .ok (.goto 4, 3) := by decide +kernel
theorem dL_isWorth_361 : decode cL_isWorth 361 = .ok (.iconst 1, 1) := by decide +kernel
theorem dL_isWorth_362 : decode cL_isWorth 362 = .ok (.if_icmp .ne 75, 3) := by decide +kernel
theorem dL_isWorth_365 : decode cL_isWorth 365 = .ok (.iload 4, 2) := by decide +kernel
theorem dL_isWorth_367 : decode cL_isWorth 367 = .ok (.iload 9, 2) := by decide +kernel
theorem dL_isWorth_369 : decode cL_isWorth 369 = .ok (.if_icmp .ne 68, 3) := by decide +kernel
theorem dL_isWorth_372 : decode cL_isWorth 372 = .ok (.aload_n 0, 1) := by decide +kernel
theorem dL_isWorth_373 : decode cL_isWorth 373 = .ok (.bipush 6, 2) := by decide +kernel
theorem dL_isWorth_375 : decode cL_isWorth 375 = .ok (.iconst 1, 1) := by decide +kernel
theorem dL_isWorth_376 : decode cL_isWorth 376 = .ok (.invokestatic 89, 3) := by decide +kernel
theorem dL_isWorth_379 : decode cL_isWorth 379 = .ok (.iload 6, 2) := by decide +kernel
theorem dL_isWorth_381 : decode cL_isWorth 381 = .ok (.ifCond .ne 8, 3) := by decide +kernel
theorem dL_isWorth_384 : decode cL_isWorth 384 = .ok (.iload 8, 2) := by decide +kernel
theorem dL_isWorth_386 : decode cL_isWorth 386 = .ok (.goto 5, 3) := by decide +kernel
theorem dL_isWorth_389 : decode cL_isWorth 389 = .ok (.iload 6, 2) := by decide +kernel
theorem dL_isWorth_391 : decode cL_isWorth 391 = .ok (.invokestatic 95, 3) := by decide +kernel
theorem dL_isWorth_394 : decode cL_isWorth 394 = .ok (.if_icmp .ne 43, 3) := by decide +kernel
theorem dL_isWorth_397 : decode cL_isWorth 397 = .ok (.aload_n 0, 1) := by decide +kernel
theorem dL_isWorth_398 : decode cL_isWorth 398 = .ok (.bipush 6, 2) := by decide +kernel
theorem dL_isWorth_400 : decode cL_isWorth 400 = .ok (.iconst 2, 1) := by decide +kernel
theorem dL_isWorth_401 : decode cL_isWorth 401 = .ok (.invokestatic 89, 3) := by decide +kernel
theorem dL_isWorth_404 : decode cL_isWorth 404 = .ok (.iload 9, 2) := by decide +kernel
theorem dL_isWorth_406 : decode cL_isWorth 406 = .ok (.iconst 1, 1) := by decide +kernel
theorem dL_isWorth_407 : decode cL_isWorth 407 = .ok (.if_icmp .ne 8, 3) := by decide +kernel
theorem dL_isWorth_410 : decode cL_isWorth 410 = .ok (.iload 6, 2) := by decide +kernel
theorem dL_isWorth_412 : decode cL_isWorth 412 = .ok (.goto 15, 3) := by decide +kernel
theorem dL_isWorth_415 : decode cL_isWorth 415 = .ok (.iload 9, 2) := by decide +kernel
theorem dL_isWorth_417 : decode cL_isWorth 417 = .ok (.ifCond .ne 8, 3) := by decide +kernel
theorem dL_isWorth_420 : decode cL_isWorth 420 = .ok (.iload 7, 2) := by decide +kernel
theorem dL_isWorth_422 : decode cL_isWorth 422 = .ok (.goto 5, 3) := by decide +kernel
theorem dL_isWorth_425 : decode cL_isWorth 425 = .ok (.iload 8, 2) := by decide +kernel
theorem dL_isWorth_427 : decode cL_isWorth 427 = .ok (.invokestatic 95, 3) := by decide +kernel
theorem dL_isWorth_430 : decode cL_isWorth 430 = .ok (.if_icmp .ne 7, 3) := by decide +kernel
theorem dL_isWorth_433 : decode cL_isWorth 433 = .ok (.iconst 1, 1) := by decide +kernel
theorem dL_isWorth_434 : decode cL_isWorth 434 = .ok (.goto 4, 3) := by decide +kernel
theorem dL_isWorth_437 : decode cL_isWorth 437 = .ok (.iconst 0, 1) := by decide +kernel
theorem dL_isWorth_438 : decode cL_isWorth 438 = .ok (.ireturn, 1) := by decide +kernel
set_option maxRecDepth 20000 in
theorem ggL_isGiven_L_isOn : GoodIn wsL_isGiven wsL_isOn := goodIn_r _ [4] (by decide +kernel) (by decide +kernel)
set_option maxRecDepth 20000 in
theorem gL_isGiven_L_isOn : GoodIn wsL_isGiven (va_wsS RL 64 yL_isOn wsL_isOn) := goodIn_app (goodIn_of _ (by decide +kernel)) ggL_isGiven_L_isOn
set_option maxRecDepth 20000 in
theorem ggL_isGiven_L_does : GoodIn wsL_isGiven wsL_does := goodIn_ca (goodIn_ca (goodIn_r _ [7, 8, 9, 10, 11, 12, 13, 14, 15, 16, 17, 18, 19, 20, 21, 22, 23, 24, 25, 26, 27, 28, 29, 30, 31, 32, 33, 34, 35, 36, 37, 38, 39, 40, 41, 42, 43, 44, 45, 46, 47, 48, 49, 50, 51, 52, 53, 54, 55, 56, 57, 58, 59, 60, 61, 62, 63, 64, 65, 66, 67, 68, 69, 70, 71, 72, 73, 74] (by decide +kernel) (by decide +kernel)) (goodIn_sub (fun _ h => List.mem_cons_of_mem _ (List.mem_append_left _ (List.mem_append_right _ h))) (by decide +kernel))) (goodIn_sub (fun _ h => List.mem_cons_of_mem _ (List.mem_append_right _ h)) (by decide +kernel))
set_option maxRecDepth 20000 in
theorem gL_isGiven_L_does : GoodIn wsL_isGiven (va_wsS RL 98 yL_does wsL_does) := goodIn_app (goodIn_of _ (by decide +kernel)) ggL_isGiven_L_does
theorem dL_isGiven_0 : decode cL_isGiven 0 = .ok (.iload_n 3, 1) := by decide +kernel
theorem dL_isGiven_1 : decode cL_isGiven 1 = .ok (.bipush 15, 2) := by decide +kernel
theorem dL_isGiven_3 : decode cL_isGiven 3 = .ok (.if_icmp .le 8, 3) := by decide +kernel
theorem dL_isGiven_6 : decode cL_isGiven 6 = .ok (.bipush (-30), 2) := by decide +kernel
theorem dL_isGiven_8 : decode cL_isGiven 8 = .ok (.goto 27, 3) := by decide +kernel
theorem dL_isGiven_11 : decode cL_isGiven 11 = .ok (.aload_n 2, 1) := by decide +kernel
theorem dL_isGiven_12 : decode cL_isGiven 12 = .ok (.iconst 1, 1) := by decide +kernel
theorem dL_isGiven_13 : decode cL_isGiven 13 = .ok (.iaload, 1) := by decide +kernel
theorem dL_isGiven_14 : decode cL_isGiven 14 = .ok (.ifCond .ne 11, 3) := by decide +kernel
theorem dL_isGiven_17 : decode cL_isGiven 17 = .ok (.aload_n 1, 1) := by decide +kernel
theorem dL_isGiven_18 : decode cL_isGiven 18 = .ok (.iload_n 3, 1) := by decide +kernel
theorem dL_isGiven_19 : decode cL_isGiven 19 = .ok (.invokestatic 64, 3) := by decide +kernel
theorem dL_isGiven_22 : decode cL_isGiven 22 = .ok (.ifCond .eq 8, 3) := by decide +kernel
theorem dL_isGiven_25 : decode cL_isGiven 25 = .ok (.bipush (-10), 2) := by decide +kernel
theorem dL_isGiven_27 : decode cL_isGiven 27 = .ok (.goto 8, 3) := by decide +kernel
theorem dL_isGiven_30 : decode cL_isGiven 30 = .ok (.iconst 1, 1) := by decide +kernel
theorem dL_isGiven_31 : decode cL_isGiven 31 = .ok (.aload_n 2, 1) := by decide +kernel
theorem dL_isGiven_32 : decode cL_isGiven 32 = .ok (.iconst 2, 1) := by decide +kernel
theorem dL_isGiven_33 : decode cL_isGiven 33 = .ok (.iaload, 1) := by decide +kernel
theorem dL_isGiven_34 : decode cL_isGiven 34 = .ok (.isub, 1) := by decide +kernel
theorem dL_isGiven_35 : decode cL_isGiven 35 = .ok (.istore 4, 2) := by decide +kernel
theorem dL_isGiven_37 : decode cL_isGiven 37 = .ok (.iload 4, 2) := by decide +kernel
theorem dL_isGiven_39 : decode cL_isGiven 39 = .ok (.ifCond .lt 16, 3) := by decide +kernel
theorem dL_isGiven_42 : decode cL_isGiven 42 = .ok (.aload_n 2, 1) := by decide +kernel
theorem dL_isGiven_43 : decode cL_isGiven 43 = .ok (.iconst 1, 1) := by decide +kernel
theorem dL_isGiven_44 : decode cL_isGiven 44 = .ok (.iconst 1, 1) := by decide +kernel
theorem dL_isGiven_45 : decode cL_isGiven 45 = .ok (.iastore, 1) := by decide +kernel
theorem dL_isGiven_46 : decode cL_isGiven 46 = .ok (.aload_n 2, 1) := by decide +kernel
theorem dL_isGiven_47 : decode cL_isGiven 47 = .ok (.iconst 2, 1) := by decide +kernel
theorem dL_isGiven_48 : decode cL_isGiven 48 = .ok (.iload 4, 2) := by decide +kernel
theorem dL_isGiven_50 : decode cL_isGiven 50 = .ok (.iastore, 1) := by decide +kernel
theorem dL_isGiven_51 : decode cL_isGiven 51 = .ok (.aload_n 2, 1) := by decide +kernel
theorem dL_isGiven_52 : decode cL_isGiven 52 = .ok (.iconst 3, 1) := by decide +kernel
theorem dL_isGiven_53 : decode cL_isGiven 53 = .ok (.iload_n 3, 1) := by decide +kernel
theorem dL_isGiven_54 : decode cL_isGiven 54 = .ok (.iastore, 1) := by decide +kernel
theorem dL_isGiven_55 : decode cL_isGiven 55 = .ok (.aload_n 0, 1) := by decide +kernel
theorem dL_isGiven_56 : decode cL_isGiven 56 = .ok (.iconst 1, 1) := by decide +kernel
theorem dL_isGiven_57 : decode cL_isGiven 57 = .ok (.iload_n 3, 1) := by decide +kernel
theorem dL_isGiven_58 : decode cL_isGiven 58 = .ok (.invokestatic 98, 3) := by decide +kernel
theorem dL_isGiven_61 : decode cL_isGiven 61 = .ok (.iload 4, 2) := by decide +kernel
theorem dL_isGiven_63 : decode cL_isGiven 63 = .ok (.if_icmp .ne 7, 3) := by decide +kernel
theorem dL_isGiven_66 : decode cL_isGiven 66 = .ok (.iconst 1, 1) := by decide +kernel
theorem dL_isGiven_67 : decode cL_isGiven 67 = .ok (.goto 4, 3) := by decide +kernel
theorem dL_isGiven_70 : decode cL_isGiven 70 = .ok (.iconst 0, 1) := by decide +kernel
theorem dL_isGiven_71 : decode cL_isGiven 71 = .ok (.ireturn, 1) := by decide +kernel
set_option maxRecDepth 20000 in
theorem ggL_isPlaced_L_does : GoodIn wsL_isPlaced wsL_does := goodIn_ca (goodIn_ca (goodIn_r _ [4, 5, 6, 7, 8, 9, 10, 11, 12, 13, 14, 15, 16, 17, 18, 19, 20, 21, 22, 23, 24, 25, 26, 27, 28, 29, 30, 31, 32, 33, 34, 35, 36, 37, 38, 39, 40, 41, 42, 43, 44, 45, 46, 47, 48, 49, 50, 51, 52, 53, 54, 55, 56, 57, 58, 59, 60, 73, 74, 75, 76, 77, 78, 79, 80, 81, 82, 83] (by decide +kernel) (by decide +kernel)) (goodIn_sub (fun _ h => List.mem_cons_of_mem _ (List.mem_append_left _ (List.mem_append_right _ h))) (by decide +kernel))) (goodIn_sub (fun _ h => List.mem_cons_of_mem _ (List.mem_append_right _ h)) (by decide +kernel))
set_option maxRecDepth 20000 in
theorem gL_isPlaced_L_does : GoodIn wsL_isPlaced (va_wsS RL 98 yL_does wsL_does) := goodIn_app (goodIn_of _ (by decide +kernel)) ggL_isPlaced_L_does
set_option maxRecDepth 20000 in
theorem ggL_isPlaced_L_won : GoodIn wsL_isPlaced wsL_won := goodIn_r _ [63, 64, 65, 3, 66, 67, 68, 69, 70, 71, 72] (by decide +kernel) (by decide +kernel)
set_option maxRecDepth 20000 in
theorem gL_isPlaced_L_won : GoodIn wsL_isPlaced (va_wsS RL 61 yL_won wsL_won) := goodIn_app (goodIn_of _ (by decide +kernel)) ggL_isPlaced_L_won
theorem dL_isPlaced_0 : decode cL_isPlaced 0 = .ok (.iload_n 3, 1) := by decide +kernel
theorem dL_isPlaced_1 : decode cL_isPlaced 1 = .ok (.bipush 15, 2) := by decide +kernel
theorem dL_isPlaced_3 : decode cL_isPlaced 3 = .ok (.if_icmp .gt 16, 3) := by decide +kernel
theorem dL_isPlaced_6 : decode cL_isPlaced 6 = .ok (.aload_n 2, 1) := by decide +kernel
theorem dL_isPlaced_7 : decode cL_isPlaced 7 = .ok (.iconst 1, 1) := by decide +kernel
theorem dL_isPlaced_8 : decode cL_isPlaced 8 = .ok (.iaload, 1) := by decide +kernel
theorem dL_isPlaced_9 : decode cL_isPlaced 9 = .ok (.iconst 1, 1) := by decide +kernel
theorem dL_isPlaced_10 : decode cL_isPlaced 10 = .ok (.if_icmp .ne 9, 3) := by decide +kernel
theorem dL_isPlaced_13 : decode cL_isPlaced 13 = .ok (.aload_n 1, 1) := by decide +kernel
theorem dL_isPlaced_14 : decode cL_isPlaced 14 = .ok (.iload_n 3, 1) := by decide +kernel
theorem dL_isPlaced_15 : decode cL_isPlaced 15 = .ok (.iaload, 1) := by decide +kernel
theorem dL_isPlaced_16 : decode cL_isPlaced 16 = .ok (.ifCond .lt 31, 3) := by decide +kernel
theorem dL_isPlaced_19 : decode cL_isPlaced 19 = .ok (.aload_n 0, 1) := by decide +kernel
theorem dL_isPlaced_20 : decode cL_isPlaced 20 = .ok (.iconst 0, 1) := by decide +kernel
theorem dL_isPlaced_21 : decode cL_isPlaced 21 = .ok (.iload_n 3, 1) := by decide +kernel
theorem dL_isPlaced_22 : decode cL_isPlaced 22 = .ok (.invokestatic 98, 3) := by decide +kernel
theorem dL_isPlaced_25 : decode cL_isPlaced 25 = .ok (.iload_n 3, 1) := by decide +kernel
theorem dL_isPlaced_26 : decode cL_isPlaced 26 = .ok (.bipush 15, 2) := by decide +kernel
theorem dL_isPlaced_28 : decode cL_isPlaced 28 = .ok (.if_icmp .le 8, 3) := by decide +kernel
theorem dL_isPlaced_31 : decode cL_isPlaced 31 = .ok (.bipush (-30), 2) := by decide +kernel
theorem dL_isPlaced_33 : decode cL_isPlaced 33 = .ok (.goto 5, 3) := by decide +kernel
theorem dL_isPlaced_36 : decode cL_isPlaced 36 = .ok (.bipush (-10), 2) := by decide +kernel
theorem dL_isPlaced_38 : decode cL_isPlaced 38 = .ok (.if_icmp .ne 7, 3) := by decide +kernel
theorem dL_isPlaced_41 : decode cL_isPlaced 41 = .ok (.iconst 1, 1) := by decide +kernel
theorem dL_isPlaced_42 : decode cL_isPlaced 42 = .ok (.goto 4, 3) := by decide +kernel
theorem dL_isPlaced_45 : decode cL_isPlaced 45 = .ok (.iconst 0, 1) := by decide +kernel
theorem dL_isPlaced_46 : decode cL_isPlaced 46 = .ok (.ireturn, 1) := by decide +kernel
theorem dL_isPlaced_47 : decode cL_isPlaced 47 = .ok (.aload_n 1, 1) := by decide +kernel
theorem dL_isPlaced_48 : decode cL_isPlaced 48 = .ok (.iload_n 3, 1) := by decide +kernel
theorem dL_isPlaced_49 : decode cL_isPlaced 49 = .ok (.aload_n 2, 1) := by decide +kernel
theorem dL_isPlaced_50 : decode cL_isPlaced 50 = .ok (.iconst 3, 1) := by decide +kernel
theorem dL_isPlaced_51 : decode cL_isPlaced 51 = .ok (.iaload, 1) := by decide +kernel
theorem dL_isPlaced_52 : decode cL_isPlaced 52 = .ok (.iastore, 1) := by decide +kernel
theorem dL_isPlaced_53 : decode cL_isPlaced 53 = .ok (.aload_n 2, 1) := by decide +kernel
theorem dL_isPlaced_54 : decode cL_isPlaced 54 = .ok (.iconst 3, 1) := by decide +kernel
theorem dL_isPlaced_55 : decode cL_isPlaced 55 = .ok (.iconst (-1), 1) := by decide +kernel
theorem dL_isPlaced_56 : decode cL_isPlaced 56 = .ok (.iastore, 1) := by decide +kernel
theorem dL_isPlaced_57 : decode cL_isPlaced 57 = .ok (.aload_n 2, 1) := by decide +kernel
theorem dL_isPlaced_58 : decode cL_isPlaced 58 = .ok (.iconst 4, 1) := by decide +kernel
theorem dL_isPlaced_59 : decode cL_isPlaced 59 = .ok (.dup2, 1) := by decide +kernel
theorem dL_isPlaced_60 : decode cL_isPlaced 60 = .ok (.iaload, 1) := by decide +kernel
theorem dL_isPlaced_61 : decode cL_isPlaced 61 = .ok (.iconst 1, 1) := by decide +kernel
theorem dL_isPlaced_62 : decode cL_isPlaced 62 = .ok (.iadd, 1) := by decide +kernel
theorem dL_isPlaced_63 : decode cL_isPlaced 63 = .ok (.iastore, 1) := by decide +kernel
theorem dL_isPlaced_64 : decode cL_isPlaced 64 = .ok (.aload_n 1, 1) := by decide +kernel
theorem dL_isPlaced_65 : decode cL_isPlaced 65 = .ok (.aload_n 2, 1) := by decide +kernel
theorem dL_isPlaced_66 : decode cL_isPlaced 66 = .ok (.iconst 0, 1) := by decide +kernel
theorem dL_isPlaced_67 : decode cL_isPlaced 67 = .ok (.iaload, 1) := by decide +kernel
theorem dL_isPlaced_68 : decode cL_isPlaced 68 = .ok (.invokestatic 61, 3) := by decide +kernel
theorem dL_isPlaced_71 : decode cL_isPlaced 71 = .ok (.istore 4, 2) := by decide +kernel
theorem dL_isPlaced_73 : decode cL_isPlaced 73 = .ok (.aload_n 2, 1) := by decide +kernel
theorem dL_isPlaced_74 : decode cL_isPlaced 74 = .ok (.iconst 5, 1) := by decide +kernel
theorem dL_isPlaced_75 : decode cL_isPlaced 75 = .ok (.iload 4, 2) := by decide +kernel
theorem dL_isPlaced_77 : decode cL_isPlaced 77 = .ok (.ifCond .le 9, 3) := by decide +kernel
theorem dL_isPlaced_80 : decode cL_isPlaced 80 = .ok (.aload_n 2, 1) := by decide +kernel
theorem dL_isPlaced_81 : decode cL_isPlaced 81 = .ok (.iconst 2, 1) := by decide +kernel
theorem dL_isPlaced_82 : decode cL_isPlaced 82 = .ok (.iaload, 1) := by decide +kernel
theorem dL_isPlaced_83 : decode cL_isPlaced 83 = .ok (.goto 16, 3) := by decide +kernel
theorem dL_isPlaced_86 : decode cL_isPlaced 86 = .ok (.aload_n 2, 1) := by decide +kernel
theorem dL_isPlaced_87 : decode cL_isPlaced 87 = .ok (.iconst 4, 1) := by decide +kernel
theorem dL_isPlaced_88 : decode cL_isPlaced 88 = .ok (.iaload, 1) := by decide +kernel
theorem dL_isPlaced_89 : decode cL_isPlaced 89 = .ok (.bipush 16, 2) := by decide +kernel
theorem dL_isPlaced_91 : decode cL_isPlaced 91 = .ok (.if_icmp .ne 7, 3) := by decide +kernel
theorem dL_isPlaced_94 : decode cL_isPlaced 94 = .ok (.iconst 2, 1) := by decide +kernel
theorem dL_isPlaced_95 : decode cL_isPlaced 95 = .ok (.goto 4, 3) := by decide +kernel
theorem dL_isPlaced_98 : decode cL_isPlaced 98 = .ok (.iconst (-1), 1) := by decide +kernel
theorem dL_isPlaced_99 : decode cL_isPlaced 99 = .ok (.iastore, 1) := by decide +kernel
theorem dL_isPlaced_100 : decode cL_isPlaced 100 = .ok (.aload_n 2, 1) := by decide +kernel
theorem dL_isPlaced_101 : decode cL_isPlaced 101 = .ok (.iconst 1, 1) := by decide +kernel
theorem dL_isPlaced_102 : decode cL_isPlaced 102 = .ok (.aload_n 2, 1) := by decide +kernel
theorem dL_isPlaced_103 : decode cL_isPlaced 103 = .ok (.iconst 5, 1) := by decide +kernel
theorem dL_isPlaced_104 : decode cL_isPlaced 104 = .ok (.iaload, 1) := by decide +kernel
theorem dL_isPlaced_105 : decode cL_isPlaced 105 = .ok (.ifCond .ge 7, 3) := by decide +kernel
theorem dL_isPlaced_108 : decode cL_isPlaced 108 = .ok (.iconst 0, 1) := by decide +kernel
theorem dL_isPlaced_109 : decode cL_isPlaced 109 = .ok (.goto 4, 3) := by decide +kernel
theorem dL_isPlaced_112 : decode cL_isPlaced 112 = .ok (.iconst 2, 1) := by decide +kernel
theorem dL_isPlaced_113 : decode cL_isPlaced 113 = .ok (.iastore, 1) := by decide +kernel
theorem dL_isPlaced_114 : decode cL_isPlaced 114 = .ok (.aload_n 0, 1) := by decide +kernel
theorem dL_isPlaced_115 : decode cL_isPlaced 115 = .ok (.iconst 0, 1) := by decide +kernel
theorem dL_isPlaced_116 : decode cL_isPlaced 116 = .ok (.iload_n 3, 1) := by decide +kernel
theorem dL_isPlaced_117 : decode cL_isPlaced 117 = .ok (.invokestatic 98, 3) := by decide +kernel
theorem dL_isPlaced_120 : decode cL_isPlaced 120 = .ok (.iload 4, 2) := by decide +kernel
theorem dL_isPlaced_122 : decode cL_isPlaced 122 = .ok (.if_icmp .ne 7, 3) := by decide +kernel
theorem dL_isPlaced_125 : decode cL_isPlaced 125 = .ok (.iconst 1, 1) := by decide +kernel
theorem dL_isPlaced_126 : decode cL_isPlaced 126 = .ok (.goto 4, 3) := by decide +kernel
theorem dL_isPlaced_129 : decode cL_isPlaced 129 = .ok (.iconst 0, 1) := by decide +kernel
theorem dL_isPlaced_130 : decode cL_isPlaced 130 = .ok (.ireturn, 1) := by decide +kernel
set_option maxRecDepth 20000 in
theorem ggL_isPlayed_L_safe : GoodIn wsL_isPlayed wsL_safe := goodIn_r _ [4, 5, 6, 3, 7, 8, 9, 10, 11, 12, 13, 14, 15, 16, 17, 18, 19, 20, 21, 22] (by decide +kernel) (by decide +kernel)
set_option maxRecDepth 20000 in
theorem gL_isPlayed_L_safe : GoodIn wsL_isPlayed (va_wsS RL 93 yL_safe wsL_safe) := goodIn_app (goodIn_of _ (by decide +kernel)) ggL_isPlayed_L_safe
set_option maxRecDepth 20000 in
theorem ggL_isPlayed_L_isOn : GoodIn wsL_isPlayed wsL_isOn := goodIn_r _ [7] (by decide +kernel) (by decide +kernel)
set_option maxRecDepth 20000 in
theorem gL_isPlayed_L_isOn : GoodIn wsL_isPlayed (va_wsS RL 64 yL_isOn wsL_isOn) := goodIn_app (goodIn_of _ (by decide +kernel)) ggL_isPlayed_L_isOn
set_option maxRecDepth 20000 in
theorem ggL_isPlayed_L_isGiven : GoodIn wsL_isPlayed wsL_isGiven := goodIn_ca (goodIn_ca (goodIn_r _ [25, 5, 6, 3, 7, 26, 27, 28, 29, 30, 31, 32, 33, 34, 35, 36, 37, 38, 39, 40, 41, 42, 43, 44, 45, 46, 47, 48, 49, 50, 51, 52, 53, 54, 55, 56, 57, 58, 59, 60, 61, 62, 63, 64, 65, 66, 67, 68, 69, 70, 71, 72, 73, 74, 75, 76, 77, 78, 79, 80, 81, 82, 83, 84, 92, 93, 94, 95, 96, 97, 98, 99, 100, 101, 102] (by decide +kernel) (by decide +kernel)) (goodIn_sub (fun _ h => List.mem_cons_of_mem _ (List.mem_append_left _ (List.mem_append_right _ h))) (by decide +kernel))) (goodIn_sub (fun _ h => List.mem_cons_of_mem _ (List.mem_append_right _ h)) (by decide +kernel))
set_option maxRecDepth 20000 in
theorem gL_isPlayed_L_isGiven : GoodIn wsL_isPlayed (va_wsS RL 102 yL_isGiven wsL_isGiven) := goodIn_app (goodIn_of _ (by decide +kernel)) ggL_isPlayed_L_isGiven
set_option maxRecDepth 20000 in
theorem ggL_isPlayed_L_isPlaced : GoodIn wsL_isPlayed wsL_isPlaced := goodIn_ca (goodIn_ca (goodIn_r _ [87, 26, 27, 3, 28, 29, 30, 31, 32, 33, 34, 35, 36, 37, 38, 39, 40, 41, 42, 43, 44, 45, 46, 47, 48, 49, 50, 51, 52, 53, 54, 55, 56, 57, 58, 59, 60, 61, 62, 63, 64, 65, 66, 67, 68, 69, 70, 71, 72, 73, 74, 75, 76, 77, 78, 79, 80, 81, 82, 83, 84, 11, 12, 13, 14, 15, 16, 17, 18, 19, 20, 21, 22, 92, 93, 94, 95, 96, 97, 98, 99, 100, 101, 102] (by decide +kernel) (by decide +kernel)) (goodIn_sub (fun _ h => List.mem_cons_of_mem _ (List.mem_append_left _ (List.mem_append_right _ h))) (by decide +kernel))) (goodIn_sub (fun _ h => List.mem_cons_of_mem _ (List.mem_append_right _ h)) (by decide +kernel))
set_option maxRecDepth 20000 in
theorem gL_isPlayed_L_isPlaced : GoodIn wsL_isPlayed (va_wsS RL 106 yL_isPlaced wsL_isPlaced) := goodIn_app (goodIn_of _ (by decide +kernel)) ggL_isPlayed_L_isPlaced
set_option maxRecDepth 20000 in
theorem ggL_isPlayed_X0_winner : GoodIn wsL_isPlayed wsX0_winner := goodIn_r _ [91, 55, 92, 93, 94, 95, 96, 97, 98, 99, 100, 101, 102] (by decide +kernel) (by decide +kernel)
set_option maxRecDepth 20000 in
theorem gL_isPlayed_X0_winner : GoodIn wsL_isPlayed (wsV RL 86 RX0 yX0_winner wsX0_winner) := goodIn_app (goodIn_of _ (by decide +kernel)) ggL_isPlayed_X0_winner
theorem dL_isPlayed_0 : decode cL_isPlayed 0 = .ok (.aload_n 2, 1) := by decide +kernel
theorem dL_isPlayed_1 : decode cL_isPlayed 1 = .ok (.iconst 1, 1) := by decide +kernel
theorem dL_isPlayed_2 : decode cL_isPlayed 2 = .ok (.iaload, 1) := by decide +kernel
theorem dL_isPlayed_3 : decode cL_isPlayed 3 = .ok (.ifCond .ne 68, 3) := by decide +kernel
theorem dL_isPlayed_6 : decode cL_isPlayed 6 = .ok (.aload_n 1, 1) := by decide +kernel
theorem dL_isPlayed_7 : decode cL_isPlayed 7 = .ok (.aload_n 2, 1) := by decide +kernel
theorem dL_isPlayed_8 : decode cL_isPlayed 8 = .ok (.iconst 0, 1) := by decide +kernel
theorem dL_isPlayed_9 : decode cL_isPlayed 9 = .ok (.iaload, 1) := by decide +kernel
theorem dL_isPlayed_10 : decode cL_isPlayed 10 = .ok (.invokestatic 93, 3) := by decide +kernel
theorem dL_isPlayed_13 : decode cL_isPlayed 13 = .ok (.istore 5, 2) := by decide +kernel
theorem dL_isPlayed_15 : decode cL_isPlayed 15 = .ok (.iload_n 3, 1) := by decide +kernel
theorem dL_isPlayed_16 : decode cL_isPlayed 16 = .ok (.bipush 16, 2) := by decide +kernel
theorem dL_isPlayed_18 : decode cL_isPlayed 18 = .ok (.irem, 1) := by decide +kernel
theorem dL_isPlayed_19 : decode cL_isPlayed 19 = .ok (.istore 6, 2) := by decide +kernel
theorem dL_isPlayed_21 : decode cL_isPlayed 21 = .ok (.aload_n 1, 1) := by decide +kernel
theorem dL_isPlayed_22 : decode cL_isPlayed 22 = .ok (.iload 6, 2) := by decide +kernel
theorem dL_isPlayed_24 : decode cL_isPlayed 24 = .ok (.invokestatic 64, 3) := by decide +kernel
theorem dL_isPlayed_27 : decode cL_isPlayed 27 = .ok (.ifCond .ne 23, 3) := by decide +kernel
theorem dL_isPlayed_30 : decode cL_isPlayed 30 = .ok (.iload 4, 2) := by decide +kernel
theorem dL_isPlayed_32 : decode cL_isPlayed 32 = .ok (.ifCond .eq 30, 3) := by decide +kernel
theorem dL_isPlayed_35 : decode cL_isPlayed 35 = .ok (.iload 5, 2) := by decide +kernel
theorem dL_isPlayed_37 : decode cL_isPlayed 37 = .ok (.ifCond .eq 25, 3) := by decide +kernel
theorem dL_isPlayed_40 : decode cL_isPlayed 40 = .ok (.iload 5, 2) := by decide +kernel
theorem dL_isPlayed_42 : decode cL_isPlayed 42 = .ok (.iload 6, 2) := by decide +kernel
theorem dL_isPlayed_44 : decode cL_isPlayed 44 = .ok (.ishr, 1) := by decide +kernel
theorem dL_isPlayed_45 : decode cL_isPlayed 45 = .ok (.iconst 1, 1) := by decide +kernel
theorem dL_isPlayed_46 : decode cL_isPlayed 46 = .ok (.iand, 1) := by decide +kernel
theorem dL_isPlayed_47 : decode cL_isPlayed 47 = .ok (.ifCond .ne 15, 3) := by decide +kernel
theorem dL_isPlayed_50 : decode cL_isPlayed 50 = .ok (.iload 6, 2) := by decide +kernel
theorem dL_isPlayed_52 : decode cL_isPlayed 52 = .ok (.iconst 1, 1) := by decide +kernel
theorem dL_isPlayed_53 : decode cL_isPlayed 53 = .ok (.iadd, 1) := by decide +kernel
theorem dL_isPlayed_54 : decode cL_isPlayed 54 = .ok (.bipush 16, 2) := by decide +kernel
theorem dL_isPlayed_56 : decode cL_isPlayed 56 = .ok (.irem, 1) := by decide +kernel
theorem dL_isPlayed_57 : decode cL_isPlayed 57 = .ok (.istore 6, 2) := by decide +kernel
theorem dL_isPlayed_59 : decode cL_isPlayed 59 = .ok (.goto (-38), 3) := by decide +kernel
theorem dL_isPlayed_62 : decode cL_isPlayed 62 = .ok (.aload_n 0, 1) := by decide +kernel
theorem dL_isPlayed_63 : decode cL_isPlayed 63 = .ok (.aload_n 1, 1) := by decide +kernel
theorem dL_isPlayed_64 : decode cL_isPlayed 64 = .ok (.aload_n 2, 1) := by decide +kernel
theorem dL_isPlayed_65 : decode cL_isPlayed 65 = .ok (.iload 6, 2) := by decide +kernel
theorem dL_isPlayed_67 : decode cL_isPlayed 67 = .ok (.invokestatic 102, 3) := by decide +kernel
theorem dL_isPlayed_70 : decode cL_isPlayed 70 = .ok (.ireturn, 1) := by decide +kernel
theorem dL_isPlayed_71 : decode cL_isPlayed 71 = .ok (.aload_n 2, 1) := by decide +kernel
theorem dL_isPlayed_72 : decode cL_isPlayed 72 = .ok (.iconst 1, 1) := by decide +kernel
theorem dL_isPlayed_73 : decode cL_isPlayed 73 = .ok (.iaload, 1) := by decide +kernel
theorem dL_isPlayed_74 : decode cL_isPlayed 74 = .ok (.iconst 1, 1) := by decide +kernel
theorem dL_isPlayed_75 : decode cL_isPlayed 75 = .ok (.if_icmp .ne 37, 3) := by decide +kernel
theorem dL_isPlayed_78 : decode cL_isPlayed 78 = .ok (.iload_n 3, 1) := by decide +kernel
theorem dL_isPlayed_79 : decode cL_isPlayed 79 = .ok (.bipush 16, 2) := by decide +kernel
theorem dL_isPlayed_81 : decode cL_isPlayed 81 = .ok (.irem, 1) := by decide +kernel
theorem dL_isPlayed_82 : decode cL_isPlayed 82 = .ok (.istore 5, 2) := by decide +kernel
theorem dL_isPlayed_84 : decode cL_isPlayed 84 = .ok (.aload_n 1, 1) := by decide +kernel
theorem dL_isPlayed_85 : decode cL_isPlayed 85 = .ok (.iload 5, 2) := by decide +kernel
theorem dL_isPlayed_87 : decode cL_isPlayed 87 = .ok (.iaload, 1) := by decide +kernel
theorem dL_isPlayed_88 : decode cL_isPlayed 88 = .ok (.ifCond .lt 15, 3) := by decide +kernel
theorem dL_isPlayed_91 : decode cL_isPlayed 91 = .ok (.iload 5, 2) := by decide +kernel
theorem dL_isPlayed_93 : decode cL_isPlayed 93 = .ok (.iconst 1, 1) := by decide +kernel
theorem dL_isPlayed_94 : decode cL_isPlayed 94 = .ok (.iadd, 1) := by decide +kernel
theorem dL_isPlayed_95 : decode cL_isPlayed 95 = .ok (.bipush 16, 2) := by decide +kernel
theorem dL_isPlayed_97 : decode cL_isPlayed 97 = .ok (.irem, 1) := by decide +kernel
theorem dL_isPlayed_98 : decode cL_isPlayed 98 = .ok (.istore 5, 2) := by decide +kernel
theorem dL_isPlayed_100 : decode cL_isPlayed 100 = .ok (.goto (-16), 3) := by decide +kernel
theorem dL_isPlayed_103 : decode cL_isPlayed 103 = .ok (.aload_n 0, 1) := by decide +kernel
theorem dL_isPlayed_104 : decode cL_isPlayed 104 = .ok (.aload_n 1, 1) := by decide +kernel
theorem dL_isPlayed_105 : decode cL_isPlayed 105 = .ok (.aload_n 2, 1) := by decide +kernel
theorem dL_isPlayed_106 : decode cL_isPlayed 106 = .ok (.iload 5, 2) := by decide +kernel
theorem dL_isPlayed_108 : decode cL_isPlayed 108 = .ok (.invokestatic 106, 3) := by decide +kernel
theorem dL_isPlayed_111 : decode cL_isPlayed 111 = .ok (.ireturn, 1) := by decide +kernel
theorem dL_isPlayed_112 : decode cL_isPlayed 112 = .ok (.aload_n 0, 1) := by decide +kernel
theorem dL_isPlayed_113 : decode cL_isPlayed 113 = .ok (.invokevirtual 86, 3) := by decide +kernel
theorem dL_isPlayed_116 : decode cL_isPlayed 116 = .ok (.ifCond .lt 7, 3) := by decide +kernel
theorem dL_isPlayed_119 : decode cL_isPlayed 119 = .ok (.iconst 1, 1) := by decide +kernel
theorem dL_isPlayed_120 : decode cL_isPlayed 120 = .ok (.goto 4, 3) := by decide +kernel
theorem dL_isPlayed_123 : decode cL_isPlayed 123 = .ok (.iconst 0, 1) := by decide +kernel
theorem dL_isPlayed_124 : decode cL_isPlayed 124 = .ok (.ireturn, 1) := by decide +kernel
set_option maxRecDepth 20000 in
theorem ggL_isBegun_X0_begin : GoodIn wsL_isBegun wsX0_begin := goodIn_r _ [5, 6, 7, 8, 9, 10, 11, 12, 13, 14, 15, 16, 17, 18, 19, 20, 46, 47, 48, 49, 50, 51, 52, 53, 54, 55, 56] (by decide +kernel) (by decide +kernel)
set_option maxRecDepth 20000 in
theorem gL_isBegun_X0_begin : GoodIn wsL_isBegun (wsV RL 109 RX0 yX0_begin wsX0_begin) := goodIn_app (goodIn_of _ (by decide +kernel)) ggL_isBegun_X0_begin
set_option maxRecDepth 20000 in
theorem ggL_isBegun_X0_symmetries : GoodIn wsL_isBegun wsX0_symmetries := goodIn_r _ [24, 6, 13, 25, 26, 27, 4, 28, 29, 30, 31, 32, 33, 34, 35, 36, 37, 38, 39, 40, 41, 42, 43, 44, 45, 46, 47, 48, 49, 50, 51, 52, 53, 54, 55, 56] (by decide +kernel) (by decide +kernel)
set_option maxRecDepth 20000 in
theorem gL_isBegun_X0_symmetries : GoodIn wsL_isBegun (wsV RL 113 RX0 yX0_symmetries wsX0_symmetries) := goodIn_app (goodIn_of _ (by decide +kernel)) ggL_isBegun_X0_symmetries
theorem dL_isBegun_0 : decode cL_isBegun 0 = .ok (.aload_n 2, 1) := by decide +kernel
theorem dL_isBegun_1 : decode cL_isBegun 1 = .ok (.iconst 4, 1) := by decide +kernel
theorem dL_isBegun_2 : decode cL_isBegun 2 = .ok (.iaload, 1) := by decide +kernel
theorem dL_isBegun_3 : decode cL_isBegun 3 = .ok (.istore 4, 2) := by decide +kernel
theorem dL_isBegun_5 : decode cL_isBegun 5 = .ok (.iconst 0, 1) := by decide +kernel
theorem dL_isBegun_6 : decode cL_isBegun 6 = .ok (.istore 5, 2) := by decide +kernel
theorem dL_isBegun_8 : decode cL_isBegun 8 = .ok (.iload 5, 2) := by decide +kernel
theorem dL_isBegun_10 : decode cL_isBegun 10 = .ok (.bipush 16, 2) := by decide +kernel
theorem dL_isBegun_12 : decode cL_isBegun 12 = .ok (.if_icmp .ge 14, 3) := by decide +kernel
theorem dL_isBegun_15 : decode cL_isBegun 15 = .ok (.aload_n 1, 1) := by decide +kernel
theorem dL_isBegun_16 : decode cL_isBegun 16 = .ok (.iload 5, 2) := by decide +kernel
theorem dL_isBegun_18 : decode cL_isBegun 18 = .ok (.iconst (-1), 1) := by decide +kernel
theorem dL_isBegun_19 : decode cL_isBegun 19 = .ok (.iastore, 1) := by decide +kernel
theorem dL_isBegun_20 : decode cL_isBegun 20 = .ok (.iinc 5 1, 3) := by decide +kernel
theorem dL_isBegun_23 : decode cL_isBegun 23 = .ok (.goto (-15), 3) := by decide +kernel
theorem dL_isBegun_26 : decode cL_isBegun 26 = .ok (.aload_n 2, 1) := by decide +kernel
theorem dL_isBegun_27 : decode cL_isBegun 27 = .ok (.iconst 0, 1) := by decide +kernel
theorem dL_isBegun_28 : decode cL_isBegun 28 = .ok (.iload_n 3, 1) := by decide +kernel
theorem dL_isBegun_29 : decode cL_isBegun 29 = .ok (.ifCond .eq 8, 3) := by decide +kernel
theorem dL_isBegun_32 : decode cL_isBegun 32 = .ok (.bipush 19, 2) := by decide +kernel
theorem dL_isBegun_34 : decode cL_isBegun 34 = .ok (.goto 5, 3) := by decide +kernel
theorem dL_isBegun_37 : decode cL_isBegun 37 = .ok (.bipush 10, 2) := by decide +kernel
theorem dL_isBegun_39 : decode cL_isBegun 39 = .ok (.iastore, 1) := by decide +kernel
theorem dL_isBegun_40 : decode cL_isBegun 40 = .ok (.aload_n 2, 1) := by decide +kernel
theorem dL_isBegun_41 : decode cL_isBegun 41 = .ok (.iconst 1, 1) := by decide +kernel
theorem dL_isBegun_42 : decode cL_isBegun 42 = .ok (.iconst 0, 1) := by decide +kernel
theorem dL_isBegun_43 : decode cL_isBegun 43 = .ok (.iastore, 1) := by decide +kernel
theorem dL_isBegun_44 : decode cL_isBegun 44 = .ok (.aload_n 2, 1) := by decide +kernel
theorem dL_isBegun_45 : decode cL_isBegun 45 = .ok (.iconst 2, 1) := by decide +kernel
theorem dL_isBegun_46 : decode cL_isBegun 46 = .ok (.iconst 0, 1) := by decide +kernel
theorem dL_isBegun_47 : decode cL_isBegun 47 = .ok (.iastore, 1) := by decide +kernel
theorem dL_isBegun_48 : decode cL_isBegun 48 = .ok (.aload_n 2, 1) := by decide +kernel
theorem dL_isBegun_49 : decode cL_isBegun 49 = .ok (.iconst 3, 1) := by decide +kernel
theorem dL_isBegun_50 : decode cL_isBegun 50 = .ok (.iconst (-1), 1) := by decide +kernel
theorem dL_isBegun_51 : decode cL_isBegun 51 = .ok (.iastore, 1) := by decide +kernel
theorem dL_isBegun_52 : decode cL_isBegun 52 = .ok (.aload_n 2, 1) := by decide +kernel
theorem dL_isBegun_53 : decode cL_isBegun 53 = .ok (.iconst 4, 1) := by decide +kernel
theorem dL_isBegun_54 : decode cL_isBegun 54 = .ok (.iconst 0, 1) := by decide +kernel
theorem dL_isBegun_55 : decode cL_isBegun 55 = .ok (.iastore, 1) := by decide +kernel
theorem dL_isBegun_56 : decode cL_isBegun 56 = .ok (.aload_n 2, 1) := by decide +kernel
theorem dL_isBegun_57 : decode cL_isBegun 57 = .ok (.iconst 5, 1) := by decide +kernel
theorem dL_isBegun_58 : decode cL_isBegun 58 = .ok (.iconst (-1), 1) := by decide +kernel
theorem dL_isBegun_59 : decode cL_isBegun 59 = .ok (.iastore, 1) := by decide +kernel
theorem dL_isBegun_60 : decode cL_isBegun 60 = .ok (.aload_n 0, 1) := by decide +kernel
theorem dL_isBegun_61 : decode cL_isBegun 61 = .ok (.iload_n 3, 1) := by decide +kernel
theorem dL_isBegun_62 : decode cL_isBegun 62 = .ok (.invokevirtual 109, 3) := by decide +kernel
theorem dL_isBegun_65 : decode cL_isBegun 65 = .ok (.iload 4, 2) := by decide +kernel
theorem dL_isBegun_67 : decode cL_isBegun 67 = .ok (.if_icmp .ne 17, 3) := by decide +kernel
theorem dL_isBegun_70 : decode cL_isBegun 70 = .ok (.aload_n 0, 1) := by decide +kernel
theorem dL_isBegun_71 : decode cL_isBegun 71 = .ok (.invokevirtual 113, 3) := by decide +kernel
theorem dL_isBegun_74 : decode cL_isBegun 74 = .ok (.sipush 3072, 3) := by decide +kernel
theorem dL_isBegun_77 : decode cL_isBegun 77 = .ok (.if_icmp .ne 7, 3) := by decide +kernel
theorem dL_isBegun_80 : decode cL_isBegun 80 = .ok (.iconst 1, 1) := by decide +kernel
theorem dL_isBegun_81 : decode cL_isBegun 81 = .ok (.goto 4, 3) := by decide +kernel
theorem dL_isBegun_84 : decode cL_isBegun 84 = .ok (.iconst 0, 1) := by decide +kernel
theorem dL_isBegun_85 : decode cL_isBegun 85 = .ok (.ireturn, 1) := by decide +kernel
set_option maxRecDepth 20000 in
theorem ggL_law_X0_init : GoodIn wsL_law wsX0_init := goodIn_r _ [7, 8, 9, 10, 11, 12, 284, 285, 286, 287, 288, 289, 290, 291, 292, 293, 294] (by decide +kernel) (by decide +kernel)
set_option maxRecDepth 20000 in
theorem gL_law_X0_init : GoodIn wsL_law (wsX0_init) := ggL_law_X0_init
set_option maxRecDepth 20000 in
theorem ggL_law_L_isBoard : GoodIn wsL_law wsL_isBoard := goodIn_ca (goodIn_ca (goodIn_ca (goodIn_r _ [16, 17, 18, 19, 2, 20, 21, 22, 23, 24, 25, 26, 27, 28, 29, 30, 31, 32, 33, 34, 35, 36, 11, 37, 38, 39, 40, 41, 42, 43, 44, 45, 46, 47, 48, 49, 50, 51, 52, 12, 53, 54, 55, 56, 57, 58, 59, 60, 61, 62, 63, 64, 65, 66, 67, 68, 69, 70, 71, 72, 73, 74, 75, 76, 15, 77, 78, 79, 80, 81, 82, 83, 84, 85, 86, 87, 88, 89, 90, 91, 92, 93, 94, 95, 96, 97, 98, 99, 100, 101, 102, 103, 104, 105, 106, 107, 108, 109, 110, 111, 112, 113, 114, 115, 116, 117, 118, 119, 120, 121, 122, 123, 124, 125, 126, 127, 128, 129, 130, 131, 132, 133, 134, 135, 136, 137, 138, 139, 140, 141, 142, 143, 144, 145, 146, 147, 148, 149, 150, 151, 152, 153, 154, 155, 156, 157, 158, 159, 160, 161, 162, 163, 164, 165, 166, 167, 168, 169, 170, 171, 172, 173, 174, 175, 176, 177, 178, 179, 180, 181, 182, 183, 184, 185, 186, 187, 188, 189, 190, 191, 192, 193, 284, 285, 286, 287, 288, 289, 290, 291, 292, 293, 294] (by decide +kernel) (by decide +kernel)) (goodIn_sub (fun _ h => List.mem_append_left _ (List.mem_append_left _ (List.mem_append_right _ h))) (by decide +kernel))) (goodIn_sub (fun _ h => List.mem_append_left _ (List.mem_append_right _ h)) (by decide +kernel))) (goodIn_sub (fun _ h => List.mem_append_right _ h) (by decide +kernel))
set_option maxRecDepth 20000 in
theorem gL_law_L_isBoard : GoodIn wsL_law (va_wsS RL 117 yL_isBoard wsL_isBoard) := goodIn_app (goodIn_of _ (by decide +kernel)) ggL_law_L_isBoard
set_option maxRecDepth 20000 in
theorem ggL_law_L_alike : GoodIn wsL_law wsL_alike := goodIn_ca (goodIn_r _ [196, 97, 197, 198, 199, 2, 200, 102, 103, 201, 202, 203, 204, 205, 206, 207, 41, 59, 208, 209, 210, 171, 211, 212, 213, 214, 215, 216, 66, 67, 68, 69, 217, 218, 219, 284, 285, 286, 287, 288, 289, 290, 291, 292, 293, 294] (by decide +kernel) (by decide +kernel)) (goodIn_sub (fun _ h => List.mem_append_left _ (List.mem_append_right _ h)) (by decide +kernel))
set_option maxRecDepth 20000 in
theorem gL_law_L_alike : GoodIn wsL_law (va_wsS RL 121 yL_alike wsL_alike) := goodIn_app (goodIn_of _ (by decide +kernel)) ggL_law_L_alike
set_option maxRecDepth 20000 in
theorem ggL_law_X0_safe : GoodIn wsL_law wsX0_safe := goodIn_ca (goodIn_r _ [119, 102, 103, 27, 120, 121, 122, 2, 123, 104, 124, 125, 126, 127, 22, 74, 18, 19, 20, 21, 112, 113, 114, 115, 41, 85, 86, 87, 88, 59, 66, 67, 68, 69, 63, 64, 65, 109, 110, 111, 284, 285, 286, 287, 288, 289, 290, 291, 292, 293, 294] (by decide +kernel) (by decide +kernel)) (goodIn_sub (fun _ h => List.mem_append_left _ (List.mem_append_right _ h)) (by decide +kernel))
set_option maxRecDepth 20000 in
theorem gL_law_X0_safe : GoodIn wsL_law (wsV RL 33 RX0 yX0_safe wsX0_safe) := goodIn_app (goodIn_of _ (by decide +kernel)) ggL_law_X0_safe
set_option maxRecDepth 20000 in
theorem ggL_law_L_part : GoodIn wsL_law wsL_part := goodIn_r _ [222, 223] (by decide +kernel) (by decide +kernel)
set_option maxRecDepth 20000 in
theorem gL_law_L_part : GoodIn wsL_law (va_wsS RL 126 yL_part wsL_part) := goodIn_app (goodIn_of _ (by decide +kernel)) ggL_law_L_part
set_option maxRecDepth 20000 in
theorem ggL_law_L_isBegun : GoodIn wsL_law wsL_isBegun := goodIn_r _ [226, 227, 228, 229, 2, 230, 41, 21, 27, 32, 11, 12, 104, 59, 42, 43, 44, 45, 46, 47, 48, 231, 232, 233, 234, 204, 205, 206, 207, 208, 209, 210, 171, 211, 212, 213, 214, 215, 216, 66, 67, 68, 69, 217, 218, 219, 284, 285, 286, 287, 288, 289, 290, 291, 292, 293, 294] (by decide +kernel) (by decide +kernel)
set_option maxRecDepth 20000 in
theorem gL_law_L_isBegun : GoodIn wsL_law (va_wsS RL 129 yL_isBegun wsL_isBegun) := goodIn_app (goodIn_of _ (by decide +kernel)) ggL_law_L_isBegun
set_option maxRecDepth 20000 in
theorem ggL_law_X0_keep : GoodIn wsL_law wsX0_keep := goodIn_r _ [238, 201, 41, 202, 59, 203, 42, 43, 44, 45, 46, 47, 48, 284, 285, 286, 287, 288, 289, 290, 291, 292, 293, 294] (by decide +kernel) (by decide +kernel)
set_option maxRecDepth 20000 in
theorem gL_law_X0_keep : GoodIn wsL_law (wsV RL 133 RX0 yX0_keep wsX0_keep) := goodIn_app (goodIn_of _ (by decide +kernel)) ggL_law_X0_keep
set_option maxRecDepth 20000 in
theorem ggL_law_L_isGiven : GoodIn wsL_law wsL_isGiven := goodIn_ca (goodIn_ca (goodIn_r _ [241, 242, 243, 15, 244, 245, 246, 247, 95, 97, 248, 249, 250, 2, 251, 57, 58, 102, 103, 27, 104, 11, 32, 60, 61, 62, 63, 64, 65, 252, 253, 254, 255, 41, 12, 69, 154, 155, 156, 157, 59, 158, 159, 160, 161, 162, 163, 256, 257, 258, 259, 22, 74, 18, 19, 20, 21, 85, 86, 87, 88, 66, 67, 68, 284, 285, 286, 287, 288, 289, 290, 291, 292, 293, 294] (by decide +kernel) (by decide +kernel)) (goodIn_sub (fun _ h => List.mem_append_left _ (List.mem_append_left _ (List.mem_append_right _ h))) (by decide +kernel))) (goodIn_sub (fun _ h => List.mem_append_left _ (List.mem_append_right _ h)) (by decide +kernel))
set_option maxRecDepth 20000 in
theorem gL_law_L_isGiven : GoodIn wsL_law (va_wsS RL 102 yL_isGiven wsL_isGiven) := goodIn_app (goodIn_of _ (by decide +kernel)) ggL_law_L_isGiven
set_option maxRecDepth 20000 in
theorem ggL_law_L_isPlaced : GoodIn wsL_law wsL_isPlaced := goodIn_ca (goodIn_ca (goodIn_r _ [262, 245, 246, 15, 247, 95, 97, 248, 249, 250, 2, 251, 57, 58, 102, 103, 27, 104, 11, 32, 60, 61, 62, 63, 64, 65, 252, 253, 254, 255, 41, 12, 69, 154, 155, 156, 157, 59, 158, 159, 160, 161, 162, 163, 256, 257, 258, 259, 22, 74, 18, 19, 20, 21, 85, 86, 87, 88, 66, 67, 68, 263, 264, 265, 75, 76, 77, 78, 79, 80, 89, 90, 91, 284, 285, 286, 287, 288, 289, 290, 291, 292, 293, 294] (by decide +kernel) (by decide +kernel)) (goodIn_sub (fun _ h => List.mem_append_left _ (List.mem_append_left _ (List.mem_append_right _ h))) (by decide +kernel))) (goodIn_sub (fun _ h => List.mem_append_left _ (List.mem_append_right _ h)) (by decide +kernel))
set_option maxRecDepth 20000 in
theorem gL_law_L_isPlaced : GoodIn wsL_law (va_wsS RL 106 yL_isPlaced wsL_isPlaced) := goodIn_app (goodIn_of _ (by decide +kernel)) ggL_law_L_isPlaced
set_option maxRecDepth 20000 in
theorem ggL_law_L_isPlayed : GoodIn wsL_law wsL_isPlayed := goodIn_ca (goodIn_ca (goodIn_r _ [268, 269, 270, 15, 271, 242, 243, 244, 272, 273, 274, 263, 264, 265, 75, 76, 77, 78, 79, 80, 89, 90, 91, 239, 240, 241, 245, 246, 247, 95, 97, 248, 249, 250, 2, 251, 57, 58, 102, 103, 27, 104, 11, 32, 60, 61, 62, 63, 64, 65, 252, 253, 254, 255, 41, 12, 69, 154, 155, 156, 157, 59, 158, 159, 160, 161, 162, 163, 256, 257, 258, 259, 22, 74, 18, 19, 20, 21, 85, 86, 87, 88, 66, 67, 68, 260, 261, 262, 49, 50, 51, 52, 284, 285, 286, 287, 288, 289, 290, 291, 292, 293, 294] (by decide +kernel) (by decide +kernel)) (goodIn_sub (fun _ h => List.mem_append_left _ (List.mem_append_left _ (List.mem_append_right _ h))) (by decide +kernel))) (goodIn_sub (fun _ h => List.mem_append_left _ (List.mem_append_right _ h)) (by decide +kernel))
set_option maxRecDepth 20000 in
theorem gL_law_L_isPlayed : GoodIn wsL_law (va_wsS RL 136 yL_isPlayed wsL_isPlayed) := goodIn_app (goodIn_of _ (by decide +kernel)) ggL_law_L_isPlayed
set_option maxRecDepth 20000 in
theorem ggL_law_L_isSafe : GoodIn wsL_law wsL_isSafe := goodIn_ca (goodIn_ca (goodIn_ca (goodIn_r _ [277, 92, 93, 15, 94, 95, 96, 97, 53, 54, 55, 2, 56, 57, 58, 41, 59, 60, 61, 62, 63, 64, 65, 66, 67, 68, 69, 70, 71, 72, 73, 22, 74, 18, 19, 20, 21, 42, 43, 44, 45, 46, 47, 48, 81, 82, 83, 84, 85, 86, 87, 88, 98, 99, 100, 101, 102, 103, 27, 104, 105, 106, 107, 108, 109, 110, 111, 112, 113, 114, 115, 116, 117, 118, 119, 120, 121, 122, 123, 124, 125, 126, 127, 128, 129, 130, 131, 132, 133, 11, 134, 135, 136, 137, 138, 139, 140, 141, 142, 143, 144, 145, 146, 147, 148, 149, 150, 151, 152, 153, 154, 155, 156, 157, 158, 159, 160, 161, 162, 163, 164, 165, 166, 167, 168, 169, 170, 171, 172, 173, 174, 175, 176, 177, 178, 179, 180, 181, 182, 183, 184, 185, 186, 187, 188, 189, 190, 191, 192, 193, 242, 243, 244, 272, 273, 274, 263, 264, 265, 75, 76, 77, 78, 79, 80, 89, 90, 91, 269, 270, 271, 284, 285, 286, 287, 288, 289, 290, 291, 292, 293, 294] (by decide +kernel) (by decide +kernel)) (goodIn_sub (fun _ h => List.mem_append_left _ (List.mem_append_left _ (List.mem_append_right _ h))) (by decide +kernel))) (goodIn_sub (fun _ h => List.mem_append_left _ (List.mem_append_right _ h)) (by decide +kernel))) (goodIn_sub (fun _ h => List.mem_append_right _ h) (by decide +kernel))
set_option maxRecDepth 20000 in
theorem gL_law_L_isSafe : GoodIn wsL_law (va_wsS RL 140 yL_isSafe wsL_isSafe) := goodIn_app (goodIn_of _ (by decide +kernel)) ggL_law_L_isSafe
set_option maxRecDepth 20000 in
theorem ggL_law_L_isWorth : GoodIn wsL_law wsL_isWorth := goodIn_ca (goodIn_ca (goodIn_ca (goodIn_r _ [280, 92, 93, 15, 94, 95, 96, 97, 53, 54, 55, 2, 56, 57, 58, 41, 59, 60, 61, 62, 63, 64, 65, 66, 67, 68, 69, 70, 71, 72, 73, 22, 74, 18, 19, 20, 21, 42, 43, 44, 45, 46, 47, 48, 81, 82, 83, 84, 85, 86, 87, 88, 98, 99, 100, 101, 102, 103, 27, 104, 105, 106, 107, 108, 109, 110, 111, 112, 113, 114, 115, 116, 117, 118, 119, 120, 121, 122, 123, 124, 125, 126, 127, 128, 129, 130, 131, 132, 133, 11, 134, 135, 136, 137, 138, 139, 140, 141, 142, 143, 144, 145, 146, 147, 148, 149, 150, 151, 152, 153, 154, 155, 156, 157, 158, 159, 160, 161, 162, 163, 164, 165, 166, 167, 168, 169, 170, 171, 172, 173, 174, 175, 176, 177, 178, 179, 180, 181, 182, 183, 184, 185, 186, 187, 188, 189, 190, 191, 192, 193, 269, 270, 271, 242, 243, 244, 272, 273, 274, 263, 264, 265, 75, 76, 77, 78, 79, 80, 89, 90, 91, 281, 282, 283, 284, 285, 286, 287, 288, 289, 290, 291, 292, 293, 294] (by decide +kernel) (by decide +kernel)) (goodIn_sub (fun _ h => List.mem_append_left _ (List.mem_append_left _ (List.mem_append_right _ h))) (by decide +kernel))) (goodIn_sub (fun _ h => List.mem_append_left _ (List.mem_append_right _ h)) (by decide +kernel))) (goodIn_sub (fun _ h => List.mem_append_right _ h) (by decide +kernel))
set_option maxRecDepth 20000 in
theorem gL_law_L_isWorth : GoodIn wsL_law (va_wsS RL 143 yL_isWorth wsL_isWorth) := goodIn_app (goodIn_of _ (by decide +kernel)) ggL_law_L_isWorth
set_option maxRecDepth 20000 in
theorem ggL_law_L_does : GoodIn wsL_law wsL_does := goodIn_ca (goodIn_ca (goodIn_r _ [247, 95, 97, 248, 249, 250, 2, 251, 57, 58, 102, 103, 27, 104, 11, 32, 60, 61, 62, 63, 64, 65, 252, 253, 254, 255, 41, 12, 69, 154, 155, 156, 157, 59, 158, 159, 160, 161, 162, 163, 256, 257, 258, 259, 22, 74, 18, 19, 20, 21, 85, 86, 87, 88, 66, 67, 68, 284, 285, 286, 287, 288, 289, 290, 291, 292, 293, 294] (by decide +kernel) (by decide +kernel)) (goodIn_sub (fun _ h => List.mem_append_left _ (List.mem_append_left _ (List.mem_append_right _ h))) (by decide +kernel))) (goodIn_sub (fun _ h => List.mem_append_left _ (List.mem_append_right _ h)) (by decide +kernel))
set_option maxRecDepth 20000 in
theorem gL_law_L_does : GoodIn wsL_law (va_wsS RL 98 yL_does wsL_does) := goodIn_app (goodIn_of _ (by decide +kernel)) ggL_law_L_does
set_option maxRecDepth 20000 in
theorem ggL_law_L_asks : GoodIn wsL_law wsL_asks := goodIn_ca (goodIn_ca (goodIn_ca (goodIn_r _ [94, 95, 96, 97, 53, 54, 55, 2, 56, 57, 58, 41, 59, 60, 61, 62, 63, 64, 65, 66, 67, 68, 69, 70, 71, 72, 73, 22, 74, 18, 19, 20, 21, 42, 43, 44, 45, 46, 47, 48, 81, 82, 83, 84, 85, 86, 87, 88, 98, 99, 100, 101, 102, 103, 27, 104, 105, 106, 107, 108, 109, 110, 111, 112, 113, 114, 115, 116, 117, 118, 119, 120, 121, 122, 123, 124, 125, 126, 127, 128, 129, 130, 131, 132, 133, 11, 134, 135, 136, 137, 138, 139, 140, 141, 142, 143, 144, 145, 146, 147, 148, 149, 150, 151, 152, 153, 154, 155, 156, 157, 158, 159, 160, 161, 162, 163, 164, 165, 166, 167, 168, 169, 170, 171, 172, 173, 174, 175, 176, 177, 178, 179, 180, 181, 182, 183, 184, 185, 186, 187, 188, 189, 190, 191, 192, 193, 284, 285, 286, 287, 288, 289, 290, 291, 292, 293, 294] (by decide +kernel) (by decide +kernel)) (goodIn_sub (fun _ h => List.mem_append_left _ (List.mem_append_left _ (List.mem_append_right _ h))) (by decide +kernel))) (goodIn_sub (fun _ h => List.mem_append_left _ (List.mem_append_right _ h)) (by decide +kernel))) (goodIn_sub (fun _ h => List.mem_append_right _ h) (by decide +kernel))
set_option maxRecDepth 20000 in
theorem gL_law_L_asks : GoodIn wsL_law (va_wsS RL 89 yL_asks wsL_asks) := goodIn_app (goodIn_of _ (by decide +kernel)) ggL_law_L_asks
set_option maxRecDepth 20000 in
theorem ggL_law_X0_symmetries : GoodIn wsL_law wsX0_symmetries := goodIn_r _ [234, 41, 59, 204, 205, 206, 2, 207, 208, 209, 210, 171, 211, 212, 213, 214, 215, 216, 66, 67, 68, 69, 217, 218, 219, 284, 285, 286, 287, 288, 289, 290, 291, 292, 293, 294] (by decide +kernel) (by decide +kernel)
set_option maxRecDepth 20000 in
theorem gL_law_X0_symmetries : GoodIn wsL_law (wsV RL 113 RX0 yX0_symmetries wsX0_symmetries) := goodIn_app (goodIn_of _ (by decide +kernel)) ggL_law_X0_symmetries
theorem dL_law_0 : decode cL_law 0 = .ok (.new 9, 3) := by decide +kernel
theorem dL_law_3 : decode cL_law 3 = .ok (.dup, 1) := by decide +kernel
theorem dL_law_4 : decode cL_law 4 = .ok (.invokespecial 116, 3) := by decide +kernel
theorem dL_law_7 : decode cL_law 7 = .ok (.astore_n 1, 1) := by decide +kernel
theorem dL_law_8 : decode cL_law 8 = .ok (.bipush 16, 2) := by decide +kernel
theorem dL_law_10 : decode cL_law 10 = .ok (.newarray .int, 2) := by decide +kernel
theorem dL_law_12 : decode cL_law 12 = .ok (.astore_n 2, 1) := by decide +kernel
theorem dL_law_13 : decode cL_law 13 = .ok (.bipush 6, 2) := by decide +kernel
theorem dL_law_15 : decode cL_law 15 = .ok (.newarray .int, 2) := by decide +kernel
theorem dL_law_17 : decode cL_law 17 = .ok (.astore_n 3, 1) := by decide +kernel
theorem dL_law_18 : decode cL_law 18 = .ok (.iconst 0, 1) := by decide +kernel
theorem dL_law_19 : decode cL_law 19 = .ok (.istore 4, 2) := by decide +kernel
theorem dL_law_21 : decode cL_law 21 = .ok (.iload 4, 2) := by decide +kernel
theorem dL_law_23 : decode cL_law 23 = .ok (.bipush 16, 2) := by decide +kernel
theorem dL_law_25 : decode cL_law 25 = .ok (.if_icmp .ge 14, 3) := by decide +kernel
theorem dL_law_28 : decode cL_law 28 = .ok (.aload_n 2, 1) := by decide +kernel
theorem dL_law_29 : decode cL_law 29 = .ok (.iload 4, 2) := by decide +kernel
theorem dL_law_31 : decode cL_law 31 = .ok (.iconst (-1), 1) := by decide +kernel
theorem dL_law_32 : decode cL_law 32 = .ok (.iastore, 1) := by decide +kernel
theorem dL_law_33 : decode cL_law 33 = .ok (.iinc 4 1, 3) := by decide +kernel
theorem dL_law_36 : decode cL_law 36 = .ok (.goto (-15), 3) := by decide +kernel
theorem dL_law_39 : decode cL_law 39 = .ok (.aload_n 3, 1) := by decide +kernel
theorem dL_law_40 : decode cL_law 40 = .ok (.iconst 0, 1) := by decide +kernel
theorem dL_law_41 : decode cL_law 41 = .ok (.bipush 10, 2) := by decide +kernel
theorem dL_law_43 : decode cL_law 43 = .ok (.iastore, 1) := by decide +kernel
theorem dL_law_44 : decode cL_law 44 = .ok (.aload_n 3, 1) := by decide +kernel
theorem dL_law_45 : decode cL_law 45 = .ok (.iconst 3, 1) := by decide +kernel
theorem dL_law_46 : decode cL_law 46 = .ok (.iconst (-1), 1) := by decide +kernel
theorem dL_law_47 : decode cL_law 47 = .ok (.iastore, 1) := by decide +kernel
theorem dL_law_48 : decode cL_law 48 = .ok (.aload_n 3, 1) := by decide +kernel
theorem dL_law_49 : decode cL_law 49 = .ok (.iconst 5, 1) := by decide +kernel
theorem dL_law_50 : decode cL_law 50 = .ok (.iconst (-1), 1) := by decide +kernel
theorem dL_law_51 : decode cL_law 51 = .ok (.iastore, 1) := by decide +kernel
theorem dL_law_52 : decode cL_law 52 = .ok (.aload_n 1, 1) := by decide +kernel
theorem dL_law_53 : decode cL_law 53 = .ok (.aload_n 2, 1) := by decide +kernel
theorem dL_law_54 : decode cL_law 54 = .ok (.aload_n 3, 1) := by decide +kernel
theorem dL_law_55 : decode cL_law 55 = .ok (.invokestatic 117, 3) := by decide +kernel
theorem dL_law_58 : decode cL_law 58 = .ok (.ifCond .eq 25, 3) := by decide +kernel
theorem dL_law_61 : decode cL_law 61 = .ok (.aload_n 1, 1) := by decide +kernel
theorem dL_law_62 : decode cL_law 62 = .ok (.invokestatic 121, 3) := by decide +kernel
theorem dL_law_65 : decode cL_law 65 = .ok (.bipush (-10), 2) := by decide +kernel
theorem dL_law_67 : decode cL_law 67 = .ok (.if_icmp .ne 16, 3) := by decide +kernel
theorem dL_law_70 : decode cL_law 70 = .ok (.aload_n 1, 1) := by decide +kernel
theorem dL_law_71 : decode cL_law 71 = .ok (.invokevirtual 33, 3) := by decide +kernel
theorem dL_law_74 : decode cL_law 74 = .ok (.ldc 125, 2) := by decide +kernel
theorem dL_law_76 : decode cL_law 76 = .ok (.if_icmp .ne 7, 3) := by decide +kernel
theorem dL_law_79 : decode cL_law 79 = .ok (.iconst 1, 1) := by decide +kernel
theorem dL_law_80 : decode cL_law 80 = .ok (.goto 4, 3) := by decide +kernel
theorem dL_law_83 : decode cL_law 83 = .ok (.iconst 0, 1) := by decide +kernel
theorem dL_law_84 : decode cL_law 84 = .ok (.istore 4, 2) := by decide +kernel
theorem dL_law_86 : decode cL_law 86 = .ok (.iconst 0, 1) := by decide +kernel
theorem dL_law_87 : decode cL_law 87 = .ok (.istore 5, 2) := by decide +kernel
theorem dL_law_89 : decode cL_law 89 = .ok (.iload 5, 2) := by decide +kernel
theorem dL_law_91 : decode cL_law 91 = .ok (.bipush 56, 2) := by decide +kernel
theorem dL_law_93 : decode cL_law 93 = .ok (.if_icmp .ge 259, 3) := by decide +kernel
theorem dL_law_96 : decode cL_law 96 = .ok (.iload 4, 2) := by decide +kernel
theorem dL_law_98 : decode cL_law 98 = .ok (.ifCond .eq 254, 3) := by decide +kernel
theorem dL_law_101 : decode cL_law 101 = .ok (.aload_n 0, 1) := by decide +kernel
theorem dL_law_102 : decode cL_law 102 = .ok (.iconst 3, 1) := by decide +kernel
theorem dL_law_103 : decode cL_law 103 = .ok (.iload 5, 2) := by decide +kernel
theorem dL_law_105 : decode cL_law 105 = .ok (.imul, 1) := by decide +kernel
theorem dL_law_106 : decode cL_law 106 = .ok (.bipush 16, 2) := by decide +kernel
theorem dL_law_108 : decode cL_law 108 = .ok (.invokestatic 126, 3) := by decide +kernel
theorem dL_law_111 : decode cL_law 111 = .ok (.istore 6, 2) := by decide +kernel
theorem dL_law_113 : decode cL_law 113 = .ok (.aload_n 0, 1) := by decide +kernel
theorem dL_law_114 : decode cL_law 114 = .ok (.iconst 3, 1) := by decide +kernel
theorem dL_law_115 : decode cL_law 115 = .ok (.iload 5, 2) := by decide +kernel
theorem dL_law_117 : decode cL_law 117 = .ok (.imul, 1) := by decide +kernel
theorem dL_law_118 : decode cL_law 118 = .ok (.iconst 1, 1) := by decide +kernel
theorem dL_law_119 : decode cL_law 119 = .ok (.iadd, 1) := by decide +kernel
theorem dL_law_120 : decode cL_law 120 = .ok (.sipush 4000, 3) := by decide +kernel
theorem dL_law_123 : decode cL_law 123 = .ok (.invokestatic 126, 3) := by decide +kernel
theorem dL_law_126 : decode cL_law 126 = .ok (.istore 7, 2) := by decide +kernel
theorem dL_law_128 : decode cL_law 128 = .ok (.aload_n 0, 1) := by decide +kernel
theorem dL_law_129 : decode cL_law 129 = .ok (.iconst 3, 1) := by decide +kernel
theorem dL_law_130 : decode cL_law 130 = .ok (.iload 5, 2) := by decide +kernel
theorem dL_law_132 : decode cL_law 132 = .ok (.imul, 1) := by decide +kernel
theorem dL_law_133 : decode cL_law 133 = .ok (.iconst 2, 1) := by decide +kernel
theorem dL_law_134 : decode cL_law 134 = .ok (.iadd, 1) := by decide +kernel
theorem dL_law_135 : decode cL_law 135 = .ok (.sipush 5000, 3) := by decide +kernel
theorem dL_law_138 : decode cL_law 138 = .ok (.invokestatic 126, 3) := by decide +kernel
theorem dL_law_141 : decode cL_law 141 = .ok (.istore 8, 2) := by decide +kernel
theorem dL_law_143 : decode cL_law 143 = .ok (.iload 6, 2) := by decide +kernel
theorem dL_law_145 : decode cL_law 145 = .ok (.bipush 15, 2) := by decide +kernel
theorem dL_law_147 : decode cL_law 147 = .ok (.if_icmp .eq 17, 3) := by decide +kernel
theorem dL_law_150 : decode cL_law 150 = .ok (.iload 6, 2) := by decide +kernel
theorem dL_law_152 : decode cL_law 152 = .ok (.bipush 14, 2) := by decide +kernel
theorem dL_law_154 : decode cL_law 154 = .ok (.if_icmp .ne 33, 3) := by decide +kernel
theorem dL_law_157 : decode cL_law 157 = .ok (.aload_n 3, 1) := by decide +kernel
theorem dL_law_158 : decode cL_law 158 = .ok (.iconst 1, 1) := by decide +kernel
theorem dL_law_159 : decode cL_law 159 = .ok (.iaload, 1) := by decide +kernel
theorem dL_law_160 : decode cL_law 160 = .ok (.iconst 2, 1) := by decide +kernel
theorem dL_law_161 : decode cL_law 161 = .ok (.if_icmp .ne 26, 3) := by decide +kernel
theorem dL_law_164 : decode cL_law 164 = .ok (.aload_n 1, 1) := by decide +kernel
theorem dL_law_165 : decode cL_law 165 = .ok (.aload_n 2, 1) := by decide +kernel
theorem dL_law_166 : decode cL_law 166 = .ok (.aload_n 3, 1) := by decide +kernel
theorem dL_law_167 : decode cL_law 167 = .ok (.iload 7, 2) := by decide +kernel
theorem dL_law_169 : decode cL_law 169 = .ok (.iconst 2, 1) := by decide +kernel
theorem dL_law_170 : decode cL_law 170 = .ok (.irem, 1) := by decide +kernel
theorem dL_law_171 : decode cL_law 171 = .ok (.ifCond .ne 7, 3) := by decide +kernel
theorem dL_law_174 : decode cL_law 174 = .ok (.iconst 1, 1) := by decide +kernel
theorem dL_law_175 : decode cL_law 175 = .ok (.goto 4, 3) := by decide +kernel
theorem dL_law_178 : decode cL_law 178 = .ok (.iconst 0, 1) := by decide +kernel
theorem dL_law_179 : decode cL_law 179 = .ok (.invokestatic 129, 3) := by decide +kernel
theorem dL_law_182 : decode cL_law 182 = .ok (.istore 4, 2) := by decide +kernel
theorem dL_law_184 : decode cL_law 184 = .ok (.goto 105, 3) := by decide +kernel
theorem dL_law_187 : decode cL_law 187 = .ok (.iload 6, 2) := by decide +kernel
theorem dL_law_189 : decode cL_law 189 = .ok (.bipush 14, 2) := by decide +kernel
theorem dL_law_191 : decode cL_law 191 = .ok (.if_icmp .ne 31, 3) := by decide +kernel
theorem dL_law_194 : decode cL_law 194 = .ok (.aload_n 1, 1) := by decide +kernel
theorem dL_law_195 : decode cL_law 195 = .ok (.invokevirtual 133, 3) := by decide +kernel
theorem dL_law_198 : decode cL_law 198 = .ok (.aload_n 3, 1) := by decide +kernel
theorem dL_law_199 : decode cL_law 199 = .ok (.iconst 4, 1) := by decide +kernel
theorem dL_law_200 : decode cL_law 200 = .ok (.iaload, 1) := by decide +kernel
theorem dL_law_201 : decode cL_law 201 = .ok (.if_icmp .ne 15, 3) := by decide +kernel
theorem dL_law_204 : decode cL_law 204 = .ok (.aload_n 1, 1) := by decide +kernel
theorem dL_law_205 : decode cL_law 205 = .ok (.invokestatic 121, 3) := by decide +kernel
theorem dL_law_208 : decode cL_law 208 = .ok (.iconst 1, 1) := by decide +kernel
theorem dL_law_209 : decode cL_law 209 = .ok (.if_icmp .ne 7, 3) := by decide +kernel
theorem dL_law_212 : decode cL_law 212 = .ok (.iconst 1, 1) := by decide +kernel
theorem dL_law_213 : decode cL_law 213 = .ok (.goto 4, 3) := by decide +kernel
theorem dL_law_216 : decode cL_law 216 = .ok (.iconst 0, 1) := by decide +kernel
theorem dL_law_217 : decode cL_law 217 = .ok (.istore 4, 2) := by decide +kernel
theorem dL_law_219 : decode cL_law 219 = .ok (.goto 70, 3) := by decide +kernel
theorem dL_law_222 : decode cL_law 222 = .ok (.iload 6, 2) := by decide +kernel
theorem dL_law_224 : decode cL_law 224 = .ok (.iconst 2, 1) := by decide +kernel
theorem dL_law_225 : decode cL_law 225 = .ok (.if_icmp .ge 19, 3) := by decide +kernel
theorem dL_law_228 : decode cL_law 228 = .ok (.aload_n 1, 1) := by decide +kernel
theorem dL_law_229 : decode cL_law 229 = .ok (.aload_n 2, 1) := by decide +kernel
theorem dL_law_230 : decode cL_law 230 = .ok (.aload_n 3, 1) := by decide +kernel
theorem dL_law_231 : decode cL_law 231 = .ok (.iload 7, 2) := by decide +kernel
theorem dL_law_233 : decode cL_law 233 = .ok (.bipush 17, 2) := by decide +kernel
theorem dL_law_235 : decode cL_law 235 = .ok (.irem, 1) := by decide +kernel
theorem dL_law_236 : decode cL_law 236 = .ok (.invokestatic 102, 3) := by decide +kernel
theorem dL_law_239 : decode cL_law 239 = .ok (.istore 4, 2) := by decide +kernel
theorem dL_law_241 : decode cL_law 241 = .ok (.goto 48, 3) := by decide +kernel
theorem dL_law_244 : decode cL_law 244 = .ok (.iload 6, 2) := by decide +kernel
theorem dL_law_246 : decode cL_law 246 = .ok (.iconst 4, 1) := by decide +kernel
theorem dL_law_247 : decode cL_law 247 = .ok (.if_icmp .ge 19, 3) := by decide +kernel
theorem dL_law_250 : decode cL_law 250 = .ok (.aload_n 1, 1) := by decide +kernel
theorem dL_law_251 : decode cL_law 251 = .ok (.aload_n 2, 1) := by decide +kernel
theorem dL_law_252 : decode cL_law 252 = .ok (.aload_n 3, 1) := by decide +kernel
theorem dL_law_253 : decode cL_law 253 = .ok (.iload 7, 2) := by decide +kernel
theorem dL_law_255 : decode cL_law 255 = .ok (.bipush 17, 2) := by decide +kernel
theorem dL_law_257 : decode cL_law 257 = .ok (.irem, 1) := by decide +kernel
theorem dL_law_258 : decode cL_law 258 = .ok (.invokestatic 106, 3) := by decide +kernel
theorem dL_law_261 : decode cL_law 261 = .ok (.istore 4, 2) := by decide +kernel
theorem dL_law_263 : decode cL_law 263 = .ok (.goto 26, 3) := by decide +kernel
theorem dL_law_266 : decode cL_law 266 = .ok (.aload_n 1, 1) := by decide +kernel
theorem dL_law_267 : decode cL_law 267 = .ok (.aload_n 2, 1) := by decide +kernel
theorem dL_law_268 : decode cL_law 268 = .ok (.aload_n 3, 1) := by decide +kernel
theorem dL_law_269 : decode cL_law 269 = .ok (.iload 7, 2) := by decide +kernel
theorem dL_law_271 : decode cL_law 271 = .ok (.iload 8, 2) := by decide +kernel
theorem dL_law_273 : decode cL_law 273 = .ok (.bipush 8, 2) := by decide +kernel
theorem dL_law_275 : decode cL_law 275 = .ok (.irem, 1) := by decide +kernel
theorem dL_law_276 : decode cL_law 276 = .ok (.ifCond .le 7, 3) := by decide +kernel
theorem dL_law_279 : decode cL_law 279 = .ok (.iconst 1, 1) := by decide +kernel
theorem dL_law_280 : decode cL_law 280 = .ok (.goto 4, 3) := by decide +kernel
theorem dL_law_283 : decode cL_law 283 = .ok (.iconst 0, 1) := by decide +kernel
theorem dL_law_284 : decode cL_law 284 = .ok (.invokestatic 136, 3) := by decide +kernel
theorem dL_law_287 : decode cL_law 287 = .ok (.istore 4, 2) := by decide +kernel
theorem dL_law_289 : decode cL_law 289 = .ok (.iload 4, 2) := by decide +kernel
theorem dL_law_291 : decode cL_law 291 = .ok (.ifCond .eq 52, 3) := by decide +kernel
theorem dL_law_294 : decode cL_law 294 = .ok (.aload_n 1, 1) := by decide +kernel
theorem dL_law_295 : decode cL_law 295 = .ok (.aload_n 2, 1) := by decide +kernel
theorem dL_law_296 : decode cL_law 296 = .ok (.aload_n 3, 1) := by decide +kernel
theorem dL_law_297 : decode cL_law 297 = .ok (.invokestatic 117, 3) := by decide +kernel
theorem dL_law_300 : decode cL_law 300 = .ok (.ifCond .eq 43, 3) := by decide +kernel
theorem dL_law_303 : decode cL_law 303 = .ok (.aload_n 1, 1) := by decide +kernel
theorem dL_law_304 : decode cL_law 304 = .ok (.aload_n 2, 1) := by decide +kernel
theorem dL_law_305 : decode cL_law 305 = .ok (.aload_n 3, 1) := by decide +kernel
theorem dL_law_306 : decode cL_law 306 = .ok (.invokestatic 140, 3) := by decide +kernel
theorem dL_law_309 : decode cL_law 309 = .ok (.ifCond .eq 34, 3) := by decide +kernel
theorem dL_law_312 : decode cL_law 312 = .ok (.iload 5, 2) := by decide +kernel
theorem dL_law_314 : decode cL_law 314 = .ok (.bipush 7, 2) := by decide +kernel
theorem dL_law_316 : decode cL_law 316 = .ok (.irem, 1) := by decide +kernel
theorem dL_law_317 : decode cL_law 317 = .ok (.bipush 6, 2) := by decide +kernel
theorem dL_law_319 : decode cL_law 319 = .ok (.if_icmp .ge 11, 3) := by decide +kernel
theorem dL_law_322 : decode cL_law 322 = .ok (.aload_n 3, 1) := by decide +kernel
theorem dL_law_323 : decode cL_law 323 = .ok (.iconst 4, 1) := by decide +kernel
theorem dL_law_324 : decode cL_law 324 = .ok (.iaload, 1) := by decide +kernel
theorem dL_law_325 : decode cL_law 325 = .ok (.bipush 10, 2) := by decide +kernel
theorem dL_law_327 : decode cL_law 327 = .ok (.if_icmp .lt 12, 3) := by decide +kernel
theorem dL_law_330 : decode cL_law 330 = .ok (.aload_n 1, 1) := by decide +kernel
theorem dL_law_331 : decode cL_law 331 = .ok (.aload_n 2, 1) := by decide +kernel
theorem dL_law_332 : decode cL_law 332 = .ok (.aload_n 3, 1) := by decide +kernel
theorem dL_law_333 : decode cL_law 333 = .ok (.invokestatic 143, 3) := by decide +kernel
theorem dL_law_336 : decode cL_law 336 = .ok (.ifCond .eq 7, 3) := by decide +kernel
theorem dL_law_339 : decode cL_law 339 = .ok (.iconst 1, 1) := by decide +kernel
theorem dL_law_340 : decode cL_law 340 = .ok (.goto 4, 3) := by decide +kernel
theorem dL_law_343 : decode cL_law 343 = .ok (.iconst 0, 1) := by decide +kernel
theorem dL_law_344 : decode cL_law 344 = .ok (.istore 4, 2) := by decide +kernel
theorem dL_law_346 : decode cL_law 346 = .ok (.iinc 5 1, 3) := by decide +kernel
theorem dL_law_349 : decode cL_law 349 = .ok (.goto (-260), 3) := by decide +kernel
theorem dL_law_352 : decode cL_law 352 = .ok (.iload 4, 2) := by decide +kernel
theorem dL_law_354 : decode cL_law 354 = .ok (.ifCond .eq 77, 3) := by decide +kernel
theorem dL_law_357 : decode cL_law 357 = .ok (.aload_n 1, 1) := by decide +kernel
theorem dL_law_358 : decode cL_law 358 = .ok (.iconst 1, 1) := by decide +kernel
theorem dL_law_359 : decode cL_law 359 = .ok (.iconst (-1), 1) := by decide +kernel
theorem dL_law_360 : decode cL_law 360 = .ok (.invokestatic 98, 3) := by decide +kernel
theorem dL_law_363 : decode cL_law 363 = .ok (.bipush (-30), 2) := by decide +kernel
theorem dL_law_365 : decode cL_law 365 = .ok (.if_icmp .ne 66, 3) := by decide +kernel
theorem dL_law_368 : decode cL_law 368 = .ok (.aload_n 1, 1) := by decide +kernel
theorem dL_law_369 : decode cL_law 369 = .ok (.iconst 0, 1) := by decide +kernel
theorem dL_law_370 : decode cL_law 370 = .ok (.iconst (-1), 1) := by decide +kernel
theorem dL_law_371 : decode cL_law 371 = .ok (.invokestatic 98, 3) := by decide +kernel
theorem dL_law_374 : decode cL_law 374 = .ok (.bipush (-30), 2) := by decide +kernel
theorem dL_law_376 : decode cL_law 376 = .ok (.if_icmp .ne 55, 3) := by decide +kernel
theorem dL_law_379 : decode cL_law 379 = .ok (.aload_n 1, 1) := by decide +kernel
theorem dL_law_380 : decode cL_law 380 = .ok (.iconst 3, 1) := by decide +kernel
theorem dL_law_381 : decode cL_law 381 = .ok (.iconst (-1), 1) := by decide +kernel
theorem dL_law_382 : decode cL_law 382 = .ok (.invokestatic 89, 3) := by decide +kernel
theorem dL_law_385 : decode cL_law 385 = .ok (.bipush (-30), 2) := by decide +kernel
theorem dL_law_387 : decode cL_law 387 = .ok (.if_icmp .ne 44, 3) := by decide +kernel
theorem dL_law_390 : decode cL_law 390 = .ok (.aload_n 1, 1) := by decide +kernel
theorem dL_law_391 : decode cL_law 391 = .ok (.iconst 1, 1) := by decide +kernel
theorem dL_law_392 : decode cL_law 392 = .ok (.bipush 19, 2) := by decide +kernel
theorem dL_law_394 : decode cL_law 394 = .ok (.invokestatic 89, 3) := by decide +kernel
theorem dL_law_397 : decode cL_law 397 = .ok (.bipush (-30), 2) := by decide +kernel
theorem dL_law_399 : decode cL_law 399 = .ok (.if_icmp .ne 32, 3) := by decide +kernel
theorem dL_law_402 : decode cL_law 402 = .ok (.aload_n 1, 1) := by decide +kernel
theorem dL_law_403 : decode cL_law 403 = .ok (.invokevirtual 113, 3) := by decide +kernel
theorem dL_law_406 : decode cL_law 406 = .ok (.ifCond .le 25, 3) := by decide +kernel
theorem dL_law_409 : decode cL_law 409 = .ok (.aload_n 1, 1) := by decide +kernel
theorem dL_law_410 : decode cL_law 410 = .ok (.invokevirtual 133, 3) := by decide +kernel
theorem dL_law_413 : decode cL_law 413 = .ok (.aload_n 3, 1) := by decide +kernel
theorem dL_law_414 : decode cL_law 414 = .ok (.iconst 4, 1) := by decide +kernel
theorem dL_law_415 : decode cL_law 415 = .ok (.iaload, 1) := by decide +kernel
theorem dL_law_416 : decode cL_law 416 = .ok (.if_icmp .ne 15, 3) := by decide +kernel
theorem dL_law_419 : decode cL_law 419 = .ok (.aload_n 1, 1) := by decide +kernel
theorem dL_law_420 : decode cL_law 420 = .ok (.invokestatic 121, 3) := by decide +kernel
theorem dL_law_423 : decode cL_law 423 = .ok (.iconst 1, 1) := by decide +kernel
theorem dL_law_424 : decode cL_law 424 = .ok (.if_icmp .ne 7, 3) := by decide +kernel
theorem dL_law_427 : decode cL_law 427 = .ok (.iconst 1, 1) := by decide +kernel
theorem dL_law_428 : decode cL_law 428 = .ok (.goto 4, 3) := by decide +kernel
theorem dL_law_431 : decode cL_law 431 = .ok (.iconst 0, 1) := by decide +kernel
theorem dL_law_432 : decode cL_law 432 = .ok (.ireturn, 1) := by decide +kernel
