/-! each method's code stands in the tables -/
set_option maxRecDepth 100000 in
theorem zc_X0_init : lw_tbl[374]? = some (Cond.code yX0_init cX0_init 1 (none)) := rfl
set_option maxRecDepth 100000 in
theorem zc_X0_clear : lw_tbl[431]? = some (Cond.code yX0_clear cX0_clear 1 (none)) := rfl
set_option maxRecDepth 100000 in
theorem zc_X0_writeNumber : lw_tbl[435]? = some (Cond.code yX0_writeNumber cX0_writeNumber 3 (none)) := rfl
set_option maxRecDepth 100000 in
theorem zc_X0_isPlace : lw_tbl[442]? = some (Cond.code yX0_isPlace cX0_isPlace 1 (some .boolean)) := rfl
set_option maxRecDepth 100000 in
theorem zc_X0_begin : lw_tbl[439]? = some (Cond.code yX0_begin cX0_begin 2 (none)) := rfl
set_option maxRecDepth 100000 in
theorem zc_X0_finish : lw_tbl[453]? = some (Cond.code yX0_finish cX0_finish 2 (none)) := rfl
set_option maxRecDepth 100000 in
theorem zc_X0_add : lw_tbl[449]? = some (Cond.code yX0_add cX0_add 3 (none)) := rfl
set_option maxRecDepth 100000 in
theorem zc_X0_settle : lw_tbl[807]? = some (Cond.code yX0_settle cX0_settle 3 (none)) := rfl
set_option maxRecDepth 100000 in
theorem zc_X0_lets : lw_tbl[924]? = some (Cond.code yX0_lets cX0_lets 3 (some .boolean)) := rfl
set_option maxRecDepth 100000 in
theorem zc_X0_coins : lw_tbl[950]? = some (Cond.code yX0_coins cX0_coins 5 (some .int)) := rfl
set_option maxRecDepth 100000 in
theorem zc_X0_putsAhead : lw_tbl[965]? = some (Cond.code yX0_putsAhead cX0_putsAhead 9 (some .boolean)) := rfl
set_option maxRecDepth 100000 in
theorem zc_X0_work : lw_tbl[928]? = some (Cond.code yX0_work cX0_work 10 (some .long)) := rfl
set_option maxRecDepth 100000 in
theorem zc_X0_isSide : lw_tbl[817]? = some (Cond.code yX0_isSide cX0_isSide 1 (some .boolean)) := rfl
set_option maxRecDepth 100000 in
theorem zc_X0_oneIf : lw_tbl[936]? = some (Cond.code yX0_oneIf cX0_oneIf 1 (some .long)) := rfl
set_option maxRecDepth 100000 in
theorem zc_X0_isError : lw_tbl[939]? = some (Cond.code yX0_isError cX0_isError 5 (some .boolean)) := rfl
set_option maxRecDepth 100000 in
theorem zc_X0_join : lw_tbl[946]? = some (Cond.code yX0_join cX0_join 5 (some .long)) := rfl
set_option maxRecDepth 100000 in
theorem zc_X1_init : lw_tbl[213]? = some (Cond.code yX1_init cX1_init 3 (none)) := rfl
set_option maxRecDepth 100000 in
theorem zc_X1_fact : lw_tbl[933]? = some (Cond.code yX1_fact cX1_fact 4 (some .int)) := rfl
set_option maxRecDepth 100000 in
theorem zc_X2_init : lw_tbl[295]? = some (Cond.code yX2_init cX2_init 2 (none)) := rfl
set_option maxRecDepth 100000 in
theorem zc_X2_begin : lw_tbl[1009]? = some (Cond.code yX2_begin cX2_begin 1 (none)) := rfl
set_option maxRecDepth 100000 in
theorem zc_X2_isAskedOn : lw_tbl[1021]? = some (Cond.code yX2_isAskedOn cX2_isAskedOn 2 (some .boolean)) := rfl
set_option maxRecDepth 100000 in
theorem zc_X2_failsAt : lw_tbl[1046]? = some (Cond.code yX2_failsAt cX2_failsAt 2 (some .boolean)) := rfl
set_option maxRecDepth 100000 in
theorem zc_X2_lookedAt : lw_tbl[1072]? = some (Cond.code yX2_lookedAt cX2_lookedAt 2 (none)) := rfl
set_option maxRecDepth 100000 in
theorem zc_X2_stateAt : lw_tbl[1097]? = some (Cond.code yX2_stateAt cX2_stateAt 2 (some .int)) := rfl
set_option maxRecDepth 100000 in
theorem zc_X2_lateness : lw_tbl[1088]? = some (Cond.code yX2_lateness cX2_lateness 2 (some .int)) := rfl
set_option maxRecDepth 100000 in
theorem zc_X2_keepNight : lw_tbl[1080]? = some (Cond.code yX2_keepNight cX2_keepNight 2 (none)) := rfl
set_option maxRecDepth 100000 in
theorem zc_X3_init : lw_tbl[551]? = some (Cond.code yX3_init cX3_init 3 (none)) := rfl
set_option maxRecDepth 100000 in
theorem zc_X3_read : lw_tbl[682]? = some (Cond.code yX3_read cX3_read 4 (none)) := rfl
set_option maxRecDepth 100000 in
theorem zc_X3_take : lw_tbl[779]? = some (Cond.code yX3_take cX3_take 2 (none)) := rfl
set_option maxRecDepth 100000 in
theorem zc_X3_fail : lw_tbl[787]? = some (Cond.code yX3_fail cX3_fail 2 (none)) := rfl
set_option maxRecDepth 100000 in
theorem zc_X3_takeWord : lw_tbl[783]? = some (Cond.code yX3_takeWord cX3_takeWord 2 (none)) := rfl
set_option maxRecDepth 100000 in
theorem zc_X3_takeNumber : lw_tbl[796]? = some (Cond.code yX3_takeNumber cX3_takeNumber 2 (none)) := rfl
set_option maxRecDepth 100000 in
theorem zc_X3_mostOfWord : lw_tbl[800]? = some (Cond.code yX3_mostOfWord cX3_mostOfWord 1 (some .int)) := rfl
set_option maxRecDepth 100000 in
theorem zc_X3_takeSemicolon : lw_tbl[861]? = some (Cond.code yX3_takeSemicolon cX3_takeSemicolon 2 (none)) := rfl
set_option maxRecDepth 100000 in
theorem zc_X3_beginExpression : lw_tbl[791]? = some (Cond.code yX3_beginExpression cX3_beginExpression 1 (none)) := rfl
set_option maxRecDepth 100000 in
theorem zc_X3_canBegin : lw_tbl[814]? = some (Cond.code yX3_canBegin cX3_canBegin 1 (some .boolean)) := rfl
set_option maxRecDepth 100000 in
theorem zc_X3_takeSide : lw_tbl[811]? = some (Cond.code yX3_takeSide cX3_takeSide 2 (none)) := rfl
set_option maxRecDepth 100000 in
theorem zc_X3_isTooMuch : lw_tbl[821]? = some (Cond.code yX3_isTooMuch cX3_isTooMuch 2 (some .boolean)) := rfl
set_option maxRecDepth 100000 in
theorem zc_X3_takeSign : lw_tbl[835]? = some (Cond.code yX3_takeSign cX3_takeSign 3 (none)) := rfl
set_option maxRecDepth 100000 in
theorem zc_X3_takeEndOfSide : lw_tbl[842]? = some (Cond.code yX3_takeEndOfSide cX3_takeEndOfSide 2 (none)) := rfl
set_option maxRecDepth 100000 in
theorem zc_X3_bondOf : lw_tbl[838]? = some (Cond.code yX3_bondOf cX3_bondOf 1 (some .int)) := rfl
set_option maxRecDepth 100000 in
theorem zc_X3_bondOfWaiting : lw_tbl[849]? = some (Cond.code yX3_bondOfWaiting cX3_bondOfWaiting 1 (some .int)) := rfl
set_option maxRecDepth 100000 in
theorem zc_X3_putOff : lw_tbl[826]? = some (Cond.code yX3_putOff cX3_putOff 2 (none)) := rfl
set_option maxRecDepth 100000 in
theorem zc_X3_writeWaiting : lw_tbl[846]? = some (Cond.code yX3_writeWaiting cX3_writeWaiting 3 (none)) := rfl
set_option maxRecDepth 100000 in
theorem zc_X4_init : lw_tbl[131]? = some (Cond.code yX4_init cX4_init 2 (none)) := rfl
set_option maxRecDepth 100000 in
theorem zc_X4_has : lw_tbl[879]? = some (Cond.code yX4_has cX4_has 2 (some .boolean)) := rfl
set_option maxRecDepth 100000 in
theorem zc_X4_hasWay : lw_tbl[892]? = some (Cond.code yX4_hasWay cX4_hasWay 2 (some .boolean)) := rfl
set_option maxRecDepth 100000 in
theorem zc_X7_hoursTo : lw_tbl[900]? = some (Cond.code yX7_hoursTo cX7_hoursTo 6 (some .int)) := rfl
set_option maxRecDepth 100000 in
theorem zc_X4_latestKnown : lw_tbl[1181]? = some (Cond.code yX4_latestKnown cX4_latestKnown 6 (some .int)) := rfl
set_option maxRecDepth 100000 in
theorem zc_X4_forgetGiven : lw_tbl[1001]? = some (Cond.code yX4_forgetGiven cX4_forgetGiven 2 (none)) := rfl
set_option maxRecDepth 100000 in
theorem zc_X4_beginDay : lw_tbl[1017]? = some (Cond.code yX4_beginDay cX4_beginDay 2 (none)) := rfl
set_option maxRecDepth 100000 in
theorem zc_X5_init : lw_tbl[458]? = some (Cond.code yX5_init cX5_init 5 (none)) := rfl
set_option maxRecDepth 100000 in
theorem zc_X5_prepare : lw_tbl[981]? = some (Cond.code yX5_prepare cX5_prepare 6 (none)) := rfl
set_option maxRecDepth 100000 in
theorem zc_X5_putInOrder : lw_tbl[988]? = some (Cond.code yX5_putInOrder cX5_putInOrder 5 (none)) := rfl
set_option maxRecDepth 100000 in
theorem zc_X5_keepRecord : lw_tbl[993]? = some (Cond.code yX5_keepRecord cX5_keepRecord 3 (none)) := rfl
set_option maxRecDepth 100000 in
theorem zc_X5_isBetterThan : lw_tbl[1149]? = some (Cond.code yX5_isBetterThan cX5_isBetterThan 4 (some .boolean)) := rfl
set_option maxRecDepth 100000 in
theorem zc_X5_isStillBelow : lw_tbl[1153]? = some (Cond.code yX5_isStillBelow cX5_isStillBelow 3 (some .boolean)) := rfl
set_option maxRecDepth 100000 in
theorem zc_X5_begin : lw_tbl[997]? = some (Cond.code yX5_begin cX5_begin 2 (none)) := rfl
set_option maxRecDepth 100000 in
theorem zc_X5_finish : lw_tbl[1084]? = some (Cond.code yX5_finish cX5_finish 3 (none)) := rfl
set_option maxRecDepth 100000 in
theorem zc_X5_charge : lw_tbl[1033]? = some (Cond.code yX5_charge cX5_charge 3 (none)) := rfl
set_option maxRecDepth 100000 in
theorem zc_X5_passDay : lw_tbl[1013]? = some (Cond.code yX5_passDay cX5_passDay 3 (none)) := rfl
set_option maxRecDepth 100000 in
theorem zc_X5_ask : lw_tbl[1029]? = some (Cond.code yX5_ask cX5_ask 6 (none)) := rfl
set_option maxRecDepth 100000 in
theorem zc_X5_farthestFor : lw_tbl[1037]? = some (Cond.code yX5_farthestFor cX5_farthestFor 6 (some (.object RX7))) := rfl
set_option maxRecDepth 100000 in
theorem zc_X5_farthestHouse : lw_tbl[1050]? = some (Cond.code yX5_farthestHouse cX5_farthestHouse 6 (some (.object RX7))) := rfl
set_option maxRecDepth 100000 in
theorem zc_X5_lodgersAt : lw_tbl[1054]? = some (Cond.code yX5_lodgersAt cX5_lodgersAt 4 (some .int)) := rfl
set_option maxRecDepth 100000 in
theorem zc_X5_travel : lw_tbl[1058]? = some (Cond.code yX5_travel cX5_travel 5 (none)) := rfl
set_option maxRecDepth 100000 in
theorem zc_X5_passGate : lw_tbl[1068]? = some (Cond.code yX5_passGate cX5_passGate 2 (none)) := rfl
set_option maxRecDepth 100000 in
theorem zc_X5_spendNight : lw_tbl[1076]? = some (Cond.code yX5_spendNight cX5_spendNight 3 (none)) := rfl
set_option maxRecDepth 100000 in
theorem zc_X6_init : lw_tbl[505]? = some (Cond.code yX6_init cX6_init 3 (none)) := rfl
set_option maxRecDepth 100000 in
theorem zc_X6_open : lw_tbl[1117]? = some (Cond.code yX6_open cX6_open 6 (none)) := rfl
set_option maxRecDepth 100000 in
theorem zc_X6_allow : lw_tbl[1122]? = some (Cond.code yX6_allow cX6_allow 4 (none)) := rfl
set_option maxRecDepth 100000 in
theorem zc_X6_goThrough : lw_tbl[1127]? = some (Cond.code yX6_goThrough cX6_goThrough 4 (some .boolean)) := rfl
set_option maxRecDepth 100000 in
theorem zc_X6_isWithinBounds : lw_tbl[1131]? = some (Cond.code yX6_isWithinBounds cX6_isWithinBounds 4 (some .boolean)) := rfl
set_option maxRecDepth 100000 in
theorem zc_X6_begin : lw_tbl[1137]? = some (Cond.code yX6_begin cX6_begin 2 (none)) := rfl
set_option maxRecDepth 100000 in
theorem zc_X6_stepRow : lw_tbl[1161]? = some (Cond.code yX6_stepRow cX6_stepRow 2 (none)) := rfl
set_option maxRecDepth 100000 in
theorem zc_X6_keepRow : lw_tbl[1157]? = some (Cond.code yX6_keepRow cX6_keepRow 2 (none)) := rfl
set_option maxRecDepth 100000 in
theorem zc_X6_isMoved : lw_tbl[1145]? = some (Cond.code yX6_isMoved cX6_isMoved 2 (some .boolean)) := rfl
set_option maxRecDepth 100000 in
theorem zc_X6_weightOfMoved : lw_tbl[1142]? = some (Cond.code yX6_weightOfMoved cX6_weightOfMoved 4 (some .int)) := rfl
set_option maxRecDepth 100000 in
theorem zc_X6_takeBest : lw_tbl[1165]? = some (Cond.code yX6_takeBest cX6_takeBest 3 (none)) := rfl
set_option maxRecDepth 100000 in
theorem zc_X7_init : lw_tbl[137]? = some (Cond.code yX7_init cX7_init 2 (none)) := rfl
set_option maxRecDepth 100000 in
theorem zc_X7_isShutOn : lw_tbl[1042]? = some (Cond.code yX7_isShutOn cX7_isShutOn 2 (some .boolean)) := rfl
set_option maxRecDepth 100000 in
theorem zc_X7_forgetGiven : lw_tbl[1005]? = some (Cond.code yX7_forgetGiven cX7_forgetGiven 1 (none)) := rfl
set_option maxRecDepth 100000 in
theorem zc_X7_giveBearers : lw_tbl[1062]? = some (Cond.code yX7_giveBearers cX7_giveBearers 3 (some .int)) := rfl
set_option maxRecDepth 100000 in
theorem zc_X8_init : lw_tbl[557]? = some (Cond.code yX8_init cX8_init 2 (none)) := rfl
set_option maxRecDepth 100000 in
theorem zc_X8_begin : lw_tbl[687]? = some (Cond.code yX8_begin cX8_begin 2 (none)) := rfl
set_option maxRecDepth 100000 in
theorem zc_X8_step : lw_tbl[692]? = some (Cond.code yX8_step cX8_step 2 (none)) := rfl
set_option maxRecDepth 100000 in
theorem zc_X8_signAt : lw_tbl[696]? = some (Cond.code yX8_signAt cX8_signAt 2 (some .int)) := rfl
set_option maxRecDepth 100000 in
theorem zc_X8_isBlank : lw_tbl[699]? = some (Cond.code yX8_isBlank cX8_isBlank 1 (some .boolean)) := rfl
set_option maxRecDepth 100000 in
theorem zc_X8_isLetter : lw_tbl[702]? = some (Cond.code yX8_isLetter cX8_isLetter 1 (some .boolean)) := rfl
set_option maxRecDepth 100000 in
theorem zc_X8_isDigit : lw_tbl[762]? = some (Cond.code yX8_isDigit cX8_isDigit 1 (some .boolean)) := rfl
set_option maxRecDepth 100000 in
theorem zc_X8_stepOverWord : lw_tbl[706]? = some (Cond.code yX8_stepOverWord cX8_stepOverWord 2 (none)) := rfl
set_option maxRecDepth 100000 in
theorem zc_X8_wordBetween : lw_tbl[710]? = some (Cond.code yX8_wordBetween cX8_wordBetween 8 (some .int)) := rfl
set_option maxRecDepth 100000 in
theorem zc_X8_stepOverNumber : lw_tbl[766]? = some (Cond.code yX8_stepOverNumber cX8_stepOverNumber 2 (none)) := rfl
set_option maxRecDepth 100000 in
theorem zc_X8_kindOfSign : lw_tbl[771]? = some (Cond.code yX8_kindOfSign cX8_kindOfSign 2 (some .int)) := rfl
set_option maxRecDepth 100000 in
theorem zc_X8_joinsNext : lw_tbl[775]? = some (Cond.code yX8_joinsNext cX8_joinsNext 2 (some .boolean)) := rfl
set_option maxRecDepth 100000 in
theorem zc_X9_init : lw_tbl[123]? = some (Cond.code yX9_init cX9_init 2 (none)) := rfl
set_option maxRecDepth 100000 in
theorem zc_X9_feed : lw_tbl[670]? = some (Cond.code yX9_feed cX9_feed 6 (some .int)) := rfl
set_option maxRecDepth 100000 in
theorem zc_X9_edicts : lw_tbl[678]? = some (Cond.code yX9_edicts cX9_edicts 3 (some .int)) := rfl
set_option maxRecDepth 100000 in
theorem zc_X9_fault : lw_tbl[866]? = some (Cond.code yX9_fault cX9_fault 2 (some .int)) := rfl
set_option maxRecDepth 100000 in
theorem zc_X9_year : lw_tbl[870]? = some (Cond.code yX9_year cX9_year 2 (some .boolean)) := rfl
set_option maxRecDepth 100000 in
theorem zc_X9_station : lw_tbl[875]? = some (Cond.code yX9_station cX9_station 8 (some .int)) := rfl
set_option maxRecDepth 100000 in
theorem zc_X9_height : lw_tbl[888]? = some (Cond.code yX9_height cX9_height 7 (some .boolean)) := rfl
set_option maxRecDepth 100000 in
theorem zc_X9_between : lw_tbl[896]? = some (Cond.code yX9_between cX9_between 3 (some .int)) := rfl
set_option maxRecDepth 100000 in
theorem zc_X9_lord : lw_tbl[904]? = some (Cond.code yX9_lord cX9_lord 8 (some .int)) := rfl
set_option maxRecDepth 100000 in
theorem zc_X9_papers : lw_tbl[908]? = some (Cond.code yX9_papers cX9_papers 4 (some .boolean)) := rfl
set_option maxRecDepth 100000 in
theorem zc_X9_window : lw_tbl[916]? = some (Cond.code yX9_window cX9_window 5 (some .boolean)) := rfl
set_option maxRecDepth 100000 in
theorem zc_X9_wants : lw_tbl[920]? = some (Cond.code yX9_wants cX9_wants 4 (some .int)) := rfl
set_option maxRecDepth 100000 in
theorem zc_X9_ahead : lw_tbl[961]? = some (Cond.code yX9_ahead cX9_ahead 3 (some .int)) := rfl
set_option maxRecDepth 100000 in
theorem zc_X9_set : lw_tbl[969]? = some (Cond.code yX9_set cX9_set 3 (some .boolean)) := rfl
set_option maxRecDepth 100000 in
theorem zc_X9_judge : lw_tbl[973]? = some (Cond.code yX9_judge cX9_judge 2 (some .int)) := rfl
set_option maxRecDepth 100000 in
theorem zc_X9_night : lw_tbl[1093]? = some (Cond.code yX9_night cX9_night 5 (some .int)) := rfl
set_option maxRecDepth 100000 in
theorem zc_X9_end : lw_tbl[1101]? = some (Cond.code yX9_end cX9_end 4 (some .int)) := rfl
set_option maxRecDepth 100000 in
theorem zc_X9_given : lw_tbl[1105]? = some (Cond.code yX9_given cX9_given 3 (some .int)) := rfl
set_option maxRecDepth 100000 in
theorem zc_X9_plan : lw_tbl[1109]? = some (Cond.code yX9_plan cX9_plan 1 (some .int)) := rfl
set_option maxRecDepth 100000 in
theorem zc_X9_anew : lw_tbl[1169]? = some (Cond.code yX9_anew cX9_anew 2 (some .int)) := rfl
set_option maxRecDepth 100000 in
theorem zc_X9_row : lw_tbl[1173]? = some (Cond.code yX9_row cX9_row 2 (some .int)) := rfl
set_option maxRecDepth 100000 in
theorem zc_X9_known : lw_tbl[1177]? = some (Cond.code yX9_known cX9_known 7 (some .int)) := rfl
set_option maxRecDepth 100000 in
theorem zc_X9_count : lw_tbl[1188]? = some (Cond.code yX9_count cX9_count 2 (some .int)) := rfl
set_option maxRecDepth 100000 in
theorem zc_X9_within : lw_tbl[803]? = some (Cond.code yX9_within cX9_within 3 (some .boolean)) := rfl
set_option maxRecDepth 100000 in
theorem zc_X9_hasLord : lw_tbl[912]? = some (Cond.code yX9_hasLord cX9_hasLord 2 (some .boolean)) := rfl
set_option maxRecDepth 100000 in
theorem zc_X9_putNumber : lw_tbl[674]? = some (Cond.code yX9_putNumber cX9_putNumber 3 (none)) := rfl
set_option maxRecDepth 100000 in
theorem zc_X9_runRowAtHand : lw_tbl[977]? = some (Cond.code yX9_runRowAtHand cX9_runRowAtHand 2 (none)) := rfl
set_option maxRecDepth 100000 in
theorem zc_X9_openSearch : lw_tbl[1113]? = some (Cond.code yX9_openSearch cX9_openSearch 3 (none)) := rfl
set_option maxRecDepth 100000 in
theorem zc_X10_init : lw_tbl[1284]? = some (Cond.code yX10_init cX10_init 1 (none)) := rfl
set_option maxRecDepth 100000 in
theorem zc_X10_thrown : lw_tbl[1551]? = some (Cond.code yX10_thrown cX10_thrown 1 (some .int)) := rfl
set_option maxRecDepth 100000 in
theorem zc_X10_feed : lw_tbl[1555]? = some (Cond.code yX10_feed cX10_feed 8 (some .int)) := rfl
set_option maxRecDepth 100000 in
theorem zc_X10_year : lw_tbl[1559]? = some (Cond.code yX10_year cX10_year 2 (some .boolean)) := rfl
set_option maxRecDepth 100000 in
theorem zc_X10_isStation : lw_tbl[1567]? = some (Cond.code yX10_isStation cX10_isStation 2 (some .boolean)) := rfl
set_option maxRecDepth 100000 in
theorem zc_X10_isIn : lw_tbl[1570]? = some (Cond.code yX10_isIn cX10_isIn 3 (some .boolean)) := rfl
set_option maxRecDepth 100000 in
theorem zc_X10_station : lw_tbl[1563]? = some (Cond.code yX10_station cX10_station 7 (some .int)) := rfl
set_option maxRecDepth 100000 in
theorem zc_X10_height : lw_tbl[1574]? = some (Cond.code yX10_height cX10_height 6 (some .boolean)) := rfl
set_option maxRecDepth 100000 in
theorem zc_X10_far : lw_tbl[1582]? = some (Cond.code yX10_far cX10_far 6 (some .int)) := rfl
set_option maxRecDepth 100000 in
theorem zc_X10_between : lw_tbl[1578]? = some (Cond.code yX10_between cX10_between 3 (some .int)) := rfl
set_option maxRecDepth 100000 in
theorem zc_X10_isLord : lw_tbl[1594]? = some (Cond.code yX10_isLord cX10_isLord 2 (some .boolean)) := rfl
set_option maxRecDepth 100000 in
theorem zc_X10_lord : lw_tbl[1586]? = some (Cond.code yX10_lord cX10_lord 7 (some .int)) := rfl
set_option maxRecDepth 100000 in
theorem zc_X10_papers : lw_tbl[1590]? = some (Cond.code yX10_papers cX10_papers 4 (some .boolean)) := rfl
set_option maxRecDepth 100000 in
theorem zc_X10_window : lw_tbl[1598]? = some (Cond.code yX10_window cX10_window 5 (some .boolean)) := rfl
set_option maxRecDepth 100000 in
theorem zc_X10_wrong : lw_tbl[1635]? = some (Cond.code yX10_wrong cX10_wrong 2 (some .boolean)) := rfl
set_option maxRecDepth 100000 in
theorem zc_X10_wordAt : lw_tbl[1614]? = some (Cond.code yX10_wordAt cX10_wordAt 8 (some .int)) := rfl
set_option maxRecDepth 100000 in
theorem zc_X10_isSmall : lw_tbl[1610]? = some (Cond.code yX10_isSmall cX10_isSmall 2 (some .boolean)) := rfl
set_option maxRecDepth 100000 in
theorem zc_X10_isDigit : lw_tbl[1618]? = some (Cond.code yX10_isDigit cX10_isDigit 2 (some .boolean)) := rfl
set_option maxRecDepth 100000 in
theorem zc_X10_isAt : lw_tbl[1627]? = some (Cond.code yX10_isAt cX10_isAt 3 (some .boolean)) := rfl
set_option maxRecDepth 100000 in
theorem zc_X10_signOf : lw_tbl[1623]? = some (Cond.code yX10_signOf cX10_signOf 2 (some .int)) := rfl
set_option maxRecDepth 100000 in
theorem zc_X10_take : lw_tbl[1606]? = some (Cond.code yX10_take cX10_take 2 (none)) := rfl
set_option maxRecDepth 100000 in
theorem zc_X10_isSign : lw_tbl[1651]? = some (Cond.code yX10_isSign cX10_isSign 2 (some .boolean)) := rfl
set_option maxRecDepth 100000 in
theorem zc_X10_weight : lw_tbl[1678]? = some (Cond.code yX10_weight cX10_weight 1 (some .int)) := rfl
set_option maxRecDepth 100000 in
theorem zc_X10_grown : lw_tbl[1663]? = some (Cond.code yX10_grown cX10_grown 4 (some .int)) := rfl
set_option maxRecDepth 100000 in
theorem zc_X10_done : lw_tbl[1667]? = some (Cond.code yX10_done cX10_done 2 (none)) := rfl
set_option maxRecDepth 100000 in
theorem zc_X10_drop : lw_tbl[1686]? = some (Cond.code yX10_drop cX10_drop 1 (some .int)) := rfl
set_option maxRecDepth 100000 in
theorem zc_X10_bind : lw_tbl[1682]? = some (Cond.code yX10_bind cX10_bind 3 (none)) := rfl
set_option maxRecDepth 100000 in
theorem zc_X10_waitFor : lw_tbl[1655]? = some (Cond.code yX10_waitFor cX10_waitFor 3 (none)) := rfl
set_option maxRecDepth 100000 in
theorem zc_X10_ofOne : lw_tbl[1659]? = some (Cond.code yX10_ofOne cX10_ofOne 3 (some .boolean)) := rfl
set_option maxRecDepth 100000 in
theorem zc_X10_valueRead : lw_tbl[1647]? = some (Cond.code yX10_valueRead cX10_valueRead 4 (some .boolean)) := rfl
set_option maxRecDepth 100000 in
theorem zc_X10_signNow : lw_tbl[1671]? = some (Cond.code yX10_signNow cX10_signNow 1 (some .int)) := rfl
set_option maxRecDepth 100000 in
theorem zc_X10_joins : lw_tbl[1675]? = some (Cond.code yX10_joins cX10_joins 4 (some .boolean)) := rfl
set_option maxRecDepth 100000 in
theorem zc_X10_expression : lw_tbl[1643]? = some (Cond.code yX10_expression cX10_expression 3 (some .boolean)) := rfl
set_option maxRecDepth 100000 in
theorem zc_X10_begins : lw_tbl[1690]? = some (Cond.code yX10_begins cX10_begins 1 (some .boolean)) := rfl
set_option maxRecDepth 100000 in
theorem zc_X10_numberRead : lw_tbl[1639]? = some (Cond.code yX10_numberRead cX10_numberRead 4 (some .boolean)) := rfl
set_option maxRecDepth 100000 in
theorem zc_X10_line : lw_tbl[1631]? = some (Cond.code yX10_line cX10_line 3 (some .boolean)) := rfl
set_option maxRecDepth 100000 in
theorem zc_X10_plain : lw_tbl[1289]? = some (Cond.code yX10_plain cX10_plain 2 (none)) := rfl
set_option maxRecDepth 100000 in
theorem zc_X10_keep : lw_tbl[1293]? = some (Cond.code yX10_keep cX10_keep 2 (none)) := rfl
set_option maxRecDepth 100000 in
theorem zc_X10_edicts : lw_tbl[1602]? = some (Cond.code yX10_edicts cX10_edicts 3 (some .int)) := rfl
set_option maxRecDepth 100000 in
theorem zc_X10_fault : lw_tbl[1694]? = some (Cond.code yX10_fault cX10_fault 2 (some .int)) := rfl
set_option maxRecDepth 100000 in
theorem zc_X10_truth : lw_tbl[1713]? = some (Cond.code yX10_truth cX10_truth 1 (some .long)) := rfl
set_option maxRecDepth 100000 in
theorem zc_X10_big : lw_tbl[1724]? = some (Cond.code yX10_big cX10_big 2 (some .long)) := rfl
set_option maxRecDepth 100000 in
theorem zc_X10_bounded : lw_tbl[1721]? = some (Cond.code yX10_bounded cX10_bounded 3 (some .long)) := rfl
set_option maxRecDepth 100000 in
theorem zc_X10_made : lw_tbl[1717]? = some (Cond.code yX10_made cX10_made 6 (some .long)) := rfl
set_option maxRecDepth 100000 in
theorem zc_X10_nameValue : lw_tbl[1710]? = some (Cond.code yX10_nameValue cX10_nameValue 4 (some .int)) := rfl
set_option maxRecDepth 100000 in
theorem zc_X10_valueOf : lw_tbl[1706]? = some (Cond.code yX10_valueOf cX10_valueOf 9 (some .long)) := rfl
set_option maxRecDepth 100000 in
theorem zc_X10_within : lw_tbl[1732]? = some (Cond.code yX10_within cX10_within 2 (some .int)) := rfl
set_option maxRecDepth 100000 in
theorem zc_X10_attends : lw_tbl[1702]? = some (Cond.code yX10_attends cX10_attends 2 (some .boolean)) := rfl
set_option maxRecDepth 100000 in
theorem zc_X10_bearersOf : lw_tbl[1729]? = some (Cond.code yX10_bearersOf cX10_bearersOf 2 (some .int)) := rfl
set_option maxRecDepth 100000 in
theorem zc_X10_roomOf : lw_tbl[1737]? = some (Cond.code yX10_roomOf cX10_roomOf 2 (some .int)) := rfl
set_option maxRecDepth 100000 in
theorem zc_X10_fineOf : lw_tbl[1742]? = some (Cond.code yX10_fineOf cX10_fineOf 3 (some .int)) := rfl
set_option maxRecDepth 100000 in
theorem zc_X10_wants : lw_tbl[1698]? = some (Cond.code yX10_wants cX10_wants 4 (some .int)) := rfl
set_option maxRecDepth 100000 in
theorem zc_X10_isAhead : lw_tbl[1750]? = some (Cond.code yX10_isAhead cX10_isAhead 8 (some .boolean)) := rfl
set_option maxRecDepth 100000 in
theorem zc_X10_ahead : lw_tbl[1746]? = some (Cond.code yX10_ahead cX10_ahead 3 (some .int)) := rfl
set_option maxRecDepth 100000 in
theorem zc_X10_prepare : lw_tbl[1766]? = some (Cond.code yX10_prepare cX10_prepare 3 (none)) := rfl
set_option maxRecDepth 100000 in
theorem zc_X10_isShut : lw_tbl[1782]? = some (Cond.code yX10_isShut cX10_isShut 3 (some .boolean)) := rfl
set_option maxRecDepth 100000 in
theorem zc_X10_fails : lw_tbl[1786]? = some (Cond.code yX10_fails cX10_fails 3 (some .boolean)) := rfl
set_option maxRecDepth 100000 in
theorem zc_X10_lodges : lw_tbl[1790]? = some (Cond.code yX10_lodges cX10_lodges 5 (some .boolean)) := rfl
set_option maxRecDepth 100000 in
theorem zc_X10_looksAlong : lw_tbl[1778]? = some (Cond.code yX10_looksAlong cX10_looksAlong 6 (none)) := rfl
set_option maxRecDepth 100000 in
theorem zc_X10_goesOn : lw_tbl[1794]? = some (Cond.code yX10_goesOn cX10_goesOn 6 (none)) := rfl
set_option maxRecDepth 100000 in
theorem zc_X10_asks : lw_tbl[1774]? = some (Cond.code yX10_asks cX10_asks 3 (none)) := rfl
set_option maxRecDepth 100000 in
theorem zc_X10_runIt : lw_tbl[1770]? = some (Cond.code yX10_runIt cX10_runIt 4 (none)) := rfl
set_option maxRecDepth 100000 in
theorem zc_X10_lateOf : lw_tbl[1806]? = some (Cond.code yX10_lateOf cX10_lateOf 3 (some .int)) := rfl
set_option maxRecDepth 100000 in
theorem zc_X10_atHand : lw_tbl[1762]? = some (Cond.code yX10_atHand cX10_atHand 2 (none)) := rfl
set_option maxRecDepth 100000 in
theorem zc_X10_allYields : lw_tbl[1798]? = some (Cond.code yX10_allYields cX10_allYields 3 (some .int)) := rfl
set_option maxRecDepth 100000 in
theorem zc_X10_allCosts : lw_tbl[1802]? = some (Cond.code yX10_allCosts cX10_allCosts 3 (some .int)) := rfl
set_option maxRecDepth 100000 in
theorem zc_X10_set : lw_tbl[1754]? = some (Cond.code yX10_set cX10_set 3 (some .boolean)) := rfl
set_option maxRecDepth 100000 in
theorem zc_X10_judge : lw_tbl[1758]? = some (Cond.code yX10_judge cX10_judge 5 (some .int)) := rfl
set_option maxRecDepth 100000 in
theorem zc_X10_night : lw_tbl[1810]? = some (Cond.code yX10_night cX10_night 4 (some .int)) := rfl
set_option maxRecDepth 100000 in
theorem zc_X10_end : lw_tbl[1814]? = some (Cond.code yX10_end cX10_end 4 (some .int)) := rfl
set_option maxRecDepth 100000 in
theorem zc_X10_given : lw_tbl[1818]? = some (Cond.code yX10_given cX10_given 3 (some .int)) := rfl
set_option maxRecDepth 100000 in
theorem zc_X10_search : lw_tbl[1826]? = some (Cond.code yX10_search cX10_search 18 (some .int)) := rfl
set_option maxRecDepth 100000 in
theorem zc_X10_plan : lw_tbl[1822]? = some (Cond.code yX10_plan cX10_plan 2 (some .int)) := rfl
set_option maxRecDepth 100000 in
theorem zc_X10_anew : lw_tbl[1830]? = some (Cond.code yX10_anew cX10_anew 4 (some .int)) := rfl
set_option maxRecDepth 100000 in
theorem zc_X10_row : lw_tbl[1834]? = some (Cond.code yX10_row cX10_row 2 (some .int)) := rfl
set_option maxRecDepth 100000 in
theorem zc_X10_known : lw_tbl[1838]? = some (Cond.code yX10_known cX10_known 8 (some .int)) := rfl
set_option maxRecDepth 100000 in
theorem zc_X10_throwsOut : lw_tbl[1846]? = some (Cond.code yX10_throwsOut cX10_throwsOut 2 (some .int)) := rfl
set_option maxRecDepth 100000 in
theorem zc_X10_look : lw_tbl[1842]? = some (Cond.code yX10_look cX10_look 3 (some .int)) := rfl
set_option maxRecDepth 100000 in
theorem zc_X10_count : lw_tbl[1850]? = some (Cond.code yX10_count cX10_count 2 (some .int)) := rfl
set_option maxRecDepth 100000 in
theorem zc_X3_isCompared : lw_tbl[857]? = some (Cond.code yX3_isCompared cX3_isCompared 1 (some .boolean)) := rfl
set_option maxRecDepth 100000 in
theorem zc_X3_noteCompared : lw_tbl[830]? = some (Cond.code yX3_noteCompared cX3_noteCompared 2 (none)) := rfl
set_option maxRecDepth 100000 in
theorem zc_X4_stationOf : lw_tbl[883]? = some (Cond.code yX4_stationOf cX4_stationOf 2 (some (.object RX7))) := rfl
set_option maxRecDepth 100000 in
theorem zc_X7_isCity : lw_tbl[1025]? = some (Cond.code yX7_isCity cX7_isCity 1 (some .boolean)) := rfl
set_option maxRecDepth 100000 in
theorem zc_J9_abs_067f4 : lw_tbl[942]? = some (Cond.code yJ9_abs_067f4 cJ9_abs_067f4 2 (some .long)) := rfl
set_option maxRecDepth 100000 in
theorem zc_J9_max_7cf53 : lw_tbl[852]? = some (Cond.code yJ9_max_7cf53 cJ9_max_7cf53 2 (some .int)) := rfl
set_option maxRecDepth 100000 in
theorem zc_J9_max_f86c9 : lw_tbl[957]? = some (Cond.code yJ9_max_f86c9 cJ9_max_f86c9 4 (some .long)) := rfl
set_option maxRecDepth 100000 in
theorem zc_J9_min_7cf53 : lw_tbl[445]? = some (Cond.code yJ9_min_7cf53 cJ9_min_7cf53 2 (some .int)) := rfl
set_option maxRecDepth 100000 in
theorem zc_J9_min_f86c9 : lw_tbl[954]? = some (Cond.code yJ9_min_f86c9 cJ9_min_f86c9 4 (some .long)) := rfl
def zmc_0 : List (MethodName × ByteArray × Nat × Option FieldType) := [(yX0_init, cX0_init, 1, none), (yX0_clear, cX0_clear, 1, none), (yX0_writeNumber, cX0_writeNumber, 3, none), (yX0_isPlace, cX0_isPlace, 1, some .boolean), (yX0_begin, cX0_begin, 2, none), (yX0_finish, cX0_finish, 2, none), (yX0_add, cX0_add, 3, none), (yX0_settle, cX0_settle, 3, none), (yX0_lets, cX0_lets, 3, some .boolean), (yX0_coins, cX0_coins, 5, some .int), (yX0_putsAhead, cX0_putsAhead, 9, some .boolean), (yX0_work, cX0_work, 10, some .long), (yX0_isSide, cX0_isSide, 1, some .boolean), (yX0_oneIf, cX0_oneIf, 1, some .long), (yX0_isError, cX0_isError, 5, some .boolean), (yX0_join, cX0_join, 5, some .long), (yX1_init, cX1_init, 3, none), (yX1_fact, cX1_fact, 4, some .int), (yX2_init, cX2_init, 2, none), (yX2_begin, cX2_begin, 1, none), (yX2_isAskedOn, cX2_isAskedOn, 2, some .boolean), (yX2_failsAt, cX2_failsAt, 2, some .boolean), (yX2_lookedAt, cX2_lookedAt, 2, none), (yX2_stateAt, cX2_stateAt, 2, some .int), (yX2_lateness, cX2_lateness, 2, some .int), (yX2_keepNight, cX2_keepNight, 2, none), (yX3_init, cX3_init, 3, none), (yX3_read, cX3_read, 4, none), (yX3_take, cX3_take, 2, none), (yX3_fail, cX3_fail, 2, none), (yX3_takeWord, cX3_takeWord, 2, none), (yX3_takeNumber, cX3_takeNumber, 2, none), (yX3_mostOfWord, cX3_mostOfWord, 1, some .int), (yX3_takeSemicolon, cX3_takeSemicolon, 2, none), (yX3_beginExpression, cX3_beginExpression, 1, none)]
theorem zmc_0_ok : ∀ q ∈ zmc_0, Cond.code q.1 q.2.1 q.2.2.1 q.2.2.2 ∈ lw_tbl := List.forall_mem_cons.mpr ⟨List.mem_of_getElem? zc_X0_init, List.forall_mem_cons.mpr ⟨List.mem_of_getElem? zc_X0_clear, List.forall_mem_cons.mpr ⟨List.mem_of_getElem? zc_X0_writeNumber, List.forall_mem_cons.mpr ⟨List.mem_of_getElem? zc_X0_isPlace, List.forall_mem_cons.mpr ⟨List.mem_of_getElem? zc_X0_begin, List.forall_mem_cons.mpr ⟨List.mem_of_getElem? zc_X0_finish, List.forall_mem_cons.mpr ⟨List.mem_of_getElem? zc_X0_add, List.forall_mem_cons.mpr ⟨List.mem_of_getElem? zc_X0_settle, List.forall_mem_cons.mpr ⟨List.mem_of_getElem? zc_X0_lets, List.forall_mem_cons.mpr ⟨List.mem_of_getElem? zc_X0_coins, List.forall_mem_cons.mpr ⟨List.mem_of_getElem? zc_X0_putsAhead, List.forall_mem_cons.mpr ⟨List.mem_of_getElem? zc_X0_work, List.forall_mem_cons.mpr ⟨List.mem_of_getElem? zc_X0_isSide, List.forall_mem_cons.mpr ⟨List.mem_of_getElem? zc_X0_oneIf, List.forall_mem_cons.mpr ⟨List.mem_of_getElem? zc_X0_isError, List.forall_mem_cons.mpr ⟨List.mem_of_getElem? zc_X0_join, List.forall_mem_cons.mpr ⟨List.mem_of_getElem? zc_X1_init, List.forall_mem_cons.mpr ⟨List.mem_of_getElem? zc_X1_fact, List.forall_mem_cons.mpr ⟨List.mem_of_getElem? zc_X2_init, List.forall_mem_cons.mpr ⟨List.mem_of_getElem? zc_X2_begin, List.forall_mem_cons.mpr ⟨List.mem_of_getElem? zc_X2_isAskedOn, List.forall_mem_cons.mpr ⟨List.mem_of_getElem? zc_X2_failsAt, List.forall_mem_cons.mpr ⟨List.mem_of_getElem? zc_X2_lookedAt, List.forall_mem_cons.mpr ⟨List.mem_of_getElem? zc_X2_stateAt, List.forall_mem_cons.mpr ⟨List.mem_of_getElem? zc_X2_lateness, List.forall_mem_cons.mpr ⟨List.mem_of_getElem? zc_X2_keepNight, List.forall_mem_cons.mpr ⟨List.mem_of_getElem? zc_X3_init, List.forall_mem_cons.mpr ⟨List.mem_of_getElem? zc_X3_read, List.forall_mem_cons.mpr ⟨List.mem_of_getElem? zc_X3_take, List.forall_mem_cons.mpr ⟨List.mem_of_getElem? zc_X3_fail, List.forall_mem_cons.mpr ⟨List.mem_of_getElem? zc_X3_takeWord, List.forall_mem_cons.mpr ⟨List.mem_of_getElem? zc_X3_takeNumber, List.forall_mem_cons.mpr ⟨List.mem_of_getElem? zc_X3_mostOfWord, List.forall_mem_cons.mpr ⟨List.mem_of_getElem? zc_X3_takeSemicolon, List.forall_mem_cons.mpr ⟨List.mem_of_getElem? zc_X3_beginExpression, fun _ h => absurd h List.not_mem_nil⟩⟩⟩⟩⟩⟩⟩⟩⟩⟩⟩⟩⟩⟩⟩⟩⟩⟩⟩⟩⟩⟩⟩⟩⟩⟩⟩⟩⟩⟩⟩⟩⟩⟩⟩
def zmc_1 : List (MethodName × ByteArray × Nat × Option FieldType) := [(yX3_canBegin, cX3_canBegin, 1, some .boolean), (yX3_takeSide, cX3_takeSide, 2, none), (yX3_isTooMuch, cX3_isTooMuch, 2, some .boolean), (yX3_takeSign, cX3_takeSign, 3, none), (yX3_takeEndOfSide, cX3_takeEndOfSide, 2, none), (yX3_bondOf, cX3_bondOf, 1, some .int), (yX3_bondOfWaiting, cX3_bondOfWaiting, 1, some .int), (yX3_putOff, cX3_putOff, 2, none), (yX3_writeWaiting, cX3_writeWaiting, 3, none), (yX4_init, cX4_init, 2, none), (yX4_has, cX4_has, 2, some .boolean), (yX4_hasWay, cX4_hasWay, 2, some .boolean), (yX7_hoursTo, cX7_hoursTo, 6, some .int), (yX4_latestKnown, cX4_latestKnown, 6, some .int), (yX4_forgetGiven, cX4_forgetGiven, 2, none), (yX4_beginDay, cX4_beginDay, 2, none), (yX5_init, cX5_init, 5, none), (yX5_prepare, cX5_prepare, 6, none), (yX5_putInOrder, cX5_putInOrder, 5, none), (yX5_keepRecord, cX5_keepRecord, 3, none), (yX5_isBetterThan, cX5_isBetterThan, 4, some .boolean), (yX5_isStillBelow, cX5_isStillBelow, 3, some .boolean), (yX5_begin, cX5_begin, 2, none), (yX5_finish, cX5_finish, 3, none), (yX5_charge, cX5_charge, 3, none), (yX5_passDay, cX5_passDay, 3, none), (yX5_ask, cX5_ask, 6, none), (yX5_farthestFor, cX5_farthestFor, 6, some (.object RX7)), (yX5_farthestHouse, cX5_farthestHouse, 6, some (.object RX7)), (yX5_lodgersAt, cX5_lodgersAt, 4, some .int), (yX5_travel, cX5_travel, 5, none), (yX5_passGate, cX5_passGate, 2, none), (yX5_spendNight, cX5_spendNight, 3, none), (yX6_init, cX6_init, 3, none), (yX6_open, cX6_open, 6, none)]
theorem zmc_1_ok : ∀ q ∈ zmc_1, Cond.code q.1 q.2.1 q.2.2.1 q.2.2.2 ∈ lw_tbl := List.forall_mem_cons.mpr ⟨List.mem_of_getElem? zc_X3_canBegin, List.forall_mem_cons.mpr ⟨List.mem_of_getElem? zc_X3_takeSide, List.forall_mem_cons.mpr ⟨List.mem_of_getElem? zc_X3_isTooMuch, List.forall_mem_cons.mpr ⟨List.mem_of_getElem? zc_X3_takeSign, List.forall_mem_cons.mpr ⟨List.mem_of_getElem? zc_X3_takeEndOfSide, List.forall_mem_cons.mpr ⟨List.mem_of_getElem? zc_X3_bondOf, List.forall_mem_cons.mpr ⟨List.mem_of_getElem? zc_X3_bondOfWaiting, List.forall_mem_cons.mpr ⟨List.mem_of_getElem? zc_X3_putOff, List.forall_mem_cons.mpr ⟨List.mem_of_getElem? zc_X3_writeWaiting, List.forall_mem_cons.mpr ⟨List.mem_of_getElem? zc_X4_init, List.forall_mem_cons.mpr ⟨List.mem_of_getElem? zc_X4_has, List.forall_mem_cons.mpr ⟨List.mem_of_getElem? zc_X4_hasWay, List.forall_mem_cons.mpr ⟨List.mem_of_getElem? zc_X7_hoursTo, List.forall_mem_cons.mpr ⟨List.mem_of_getElem? zc_X4_latestKnown, List.forall_mem_cons.mpr ⟨List.mem_of_getElem? zc_X4_forgetGiven, List.forall_mem_cons.mpr ⟨List.mem_of_getElem? zc_X4_beginDay, List.forall_mem_cons.mpr ⟨List.mem_of_getElem? zc_X5_init, List.forall_mem_cons.mpr ⟨List.mem_of_getElem? zc_X5_prepare, List.forall_mem_cons.mpr ⟨List.mem_of_getElem? zc_X5_putInOrder, List.forall_mem_cons.mpr ⟨List.mem_of_getElem? zc_X5_keepRecord, List.forall_mem_cons.mpr ⟨List.mem_of_getElem? zc_X5_isBetterThan, List.forall_mem_cons.mpr ⟨List.mem_of_getElem? zc_X5_isStillBelow, List.forall_mem_cons.mpr ⟨List.mem_of_getElem? zc_X5_begin, List.forall_mem_cons.mpr ⟨List.mem_of_getElem? zc_X5_finish, List.forall_mem_cons.mpr ⟨List.mem_of_getElem? zc_X5_charge, List.forall_mem_cons.mpr ⟨List.mem_of_getElem? zc_X5_passDay, List.forall_mem_cons.mpr ⟨List.mem_of_getElem? zc_X5_ask, List.forall_mem_cons.mpr ⟨List.mem_of_getElem? zc_X5_farthestFor, List.forall_mem_cons.mpr ⟨List.mem_of_getElem? zc_X5_farthestHouse, List.forall_mem_cons.mpr ⟨List.mem_of_getElem? zc_X5_lodgersAt, List.forall_mem_cons.mpr ⟨List.mem_of_getElem? zc_X5_travel, List.forall_mem_cons.mpr ⟨List.mem_of_getElem? zc_X5_passGate, List.forall_mem_cons.mpr ⟨List.mem_of_getElem? zc_X5_spendNight, List.forall_mem_cons.mpr ⟨List.mem_of_getElem? zc_X6_init, List.forall_mem_cons.mpr ⟨List.mem_of_getElem? zc_X6_open, fun _ h => absurd h List.not_mem_nil⟩⟩⟩⟩⟩⟩⟩⟩⟩⟩⟩⟩⟩⟩⟩⟩⟩⟩⟩⟩⟩⟩⟩⟩⟩⟩⟩⟩⟩⟩⟩⟩⟩⟩⟩
def zmc_2 : List (MethodName × ByteArray × Nat × Option FieldType) := [(yX6_allow, cX6_allow, 4, none), (yX6_goThrough, cX6_goThrough, 4, some .boolean), (yX6_isWithinBounds, cX6_isWithinBounds, 4, some .boolean), (yX6_begin, cX6_begin, 2, none), (yX6_stepRow, cX6_stepRow, 2, none), (yX6_keepRow, cX6_keepRow, 2, none), (yX6_isMoved, cX6_isMoved, 2, some .boolean), (yX6_weightOfMoved, cX6_weightOfMoved, 4, some .int), (yX6_takeBest, cX6_takeBest, 3, none), (yX7_init, cX7_init, 2, none), (yX7_isShutOn, cX7_isShutOn, 2, some .boolean), (yX7_forgetGiven, cX7_forgetGiven, 1, none), (yX7_giveBearers, cX7_giveBearers, 3, some .int), (yX8_init, cX8_init, 2, none), (yX8_begin, cX8_begin, 2, none), (yX8_step, cX8_step, 2, none), (yX8_signAt, cX8_signAt, 2, some .int), (yX8_isBlank, cX8_isBlank, 1, some .boolean), (yX8_isLetter, cX8_isLetter, 1, some .boolean), (yX8_isDigit, cX8_isDigit, 1, some .boolean), (yX8_stepOverWord, cX8_stepOverWord, 2, none), (yX8_wordBetween, cX8_wordBetween, 8, some .int), (yX8_stepOverNumber, cX8_stepOverNumber, 2, none), (yX8_kindOfSign, cX8_kindOfSign, 2, some .int), (yX8_joinsNext, cX8_joinsNext, 2, some .boolean), (yX9_init, cX9_init, 2, none), (yX9_feed, cX9_feed, 6, some .int), (yX9_edicts, cX9_edicts, 3, some .int), (yX9_fault, cX9_fault, 2, some .int), (yX9_year, cX9_year, 2, some .boolean), (yX9_station, cX9_station, 8, some .int), (yX9_height, cX9_height, 7, some .boolean), (yX9_between, cX9_between, 3, some .int), (yX9_lord, cX9_lord, 8, some .int), (yX9_papers, cX9_papers, 4, some .boolean)]
theorem zmc_2_ok : ∀ q ∈ zmc_2, Cond.code q.1 q.2.1 q.2.2.1 q.2.2.2 ∈ lw_tbl := List.forall_mem_cons.mpr ⟨List.mem_of_getElem? zc_X6_allow, List.forall_mem_cons.mpr ⟨List.mem_of_getElem? zc_X6_goThrough, List.forall_mem_cons.mpr ⟨List.mem_of_getElem? zc_X6_isWithinBounds, List.forall_mem_cons.mpr ⟨List.mem_of_getElem? zc_X6_begin, List.forall_mem_cons.mpr ⟨List.mem_of_getElem? zc_X6_stepRow, List.forall_mem_cons.mpr ⟨List.mem_of_getElem? zc_X6_keepRow, List.forall_mem_cons.mpr ⟨List.mem_of_getElem? zc_X6_isMoved, List.forall_mem_cons.mpr ⟨List.mem_of_getElem? zc_X6_weightOfMoved, List.forall_mem_cons.mpr ⟨List.mem_of_getElem? zc_X6_takeBest, List.forall_mem_cons.mpr ⟨List.mem_of_getElem? zc_X7_init, List.forall_mem_cons.mpr ⟨List.mem_of_getElem? zc_X7_isShutOn, List.forall_mem_cons.mpr ⟨List.mem_of_getElem? zc_X7_forgetGiven, List.forall_mem_cons.mpr ⟨List.mem_of_getElem? zc_X7_giveBearers, List.forall_mem_cons.mpr ⟨List.mem_of_getElem? zc_X8_init, List.forall_mem_cons.mpr ⟨List.mem_of_getElem? zc_X8_begin, List.forall_mem_cons.mpr ⟨List.mem_of_getElem? zc_X8_step, List.forall_mem_cons.mpr ⟨List.mem_of_getElem? zc_X8_signAt, List.forall_mem_cons.mpr ⟨List.mem_of_getElem? zc_X8_isBlank, List.forall_mem_cons.mpr ⟨List.mem_of_getElem? zc_X8_isLetter, List.forall_mem_cons.mpr ⟨List.mem_of_getElem? zc_X8_isDigit, List.forall_mem_cons.mpr ⟨List.mem_of_getElem? zc_X8_stepOverWord, List.forall_mem_cons.mpr ⟨List.mem_of_getElem? zc_X8_wordBetween, List.forall_mem_cons.mpr ⟨List.mem_of_getElem? zc_X8_stepOverNumber, List.forall_mem_cons.mpr ⟨List.mem_of_getElem? zc_X8_kindOfSign, List.forall_mem_cons.mpr ⟨List.mem_of_getElem? zc_X8_joinsNext, List.forall_mem_cons.mpr ⟨List.mem_of_getElem? zc_X9_init, List.forall_mem_cons.mpr ⟨List.mem_of_getElem? zc_X9_feed, List.forall_mem_cons.mpr ⟨List.mem_of_getElem? zc_X9_edicts, List.forall_mem_cons.mpr ⟨List.mem_of_getElem? zc_X9_fault, List.forall_mem_cons.mpr ⟨List.mem_of_getElem? zc_X9_year, List.forall_mem_cons.mpr ⟨List.mem_of_getElem? zc_X9_station, List.forall_mem_cons.mpr ⟨List.mem_of_getElem? zc_X9_height, List.forall_mem_cons.mpr ⟨List.mem_of_getElem? zc_X9_between, List.forall_mem_cons.mpr ⟨List.mem_of_getElem? zc_X9_lord, List.forall_mem_cons.mpr ⟨List.mem_of_getElem? zc_X9_papers, fun _ h => absurd h List.not_mem_nil⟩⟩⟩⟩⟩⟩⟩⟩⟩⟩⟩⟩⟩⟩⟩⟩⟩⟩⟩⟩⟩⟩⟩⟩⟩⟩⟩⟩⟩⟩⟩⟩⟩⟩⟩
def zmc_3 : List (MethodName × ByteArray × Nat × Option FieldType) := [(yX9_window, cX9_window, 5, some .boolean), (yX9_wants, cX9_wants, 4, some .int), (yX9_ahead, cX9_ahead, 3, some .int), (yX9_set, cX9_set, 3, some .boolean), (yX9_judge, cX9_judge, 2, some .int), (yX9_night, cX9_night, 5, some .int), (yX9_end, cX9_end, 4, some .int), (yX9_given, cX9_given, 3, some .int), (yX9_plan, cX9_plan, 1, some .int), (yX9_anew, cX9_anew, 2, some .int), (yX9_row, cX9_row, 2, some .int), (yX9_known, cX9_known, 7, some .int), (yX9_count, cX9_count, 2, some .int), (yX9_within, cX9_within, 3, some .boolean), (yX9_hasLord, cX9_hasLord, 2, some .boolean), (yX9_putNumber, cX9_putNumber, 3, none), (yX9_runRowAtHand, cX9_runRowAtHand, 2, none), (yX9_openSearch, cX9_openSearch, 3, none), (yX10_init, cX10_init, 1, none), (yX10_thrown, cX10_thrown, 1, some .int), (yX10_feed, cX10_feed, 8, some .int), (yX10_year, cX10_year, 2, some .boolean), (yX10_isStation, cX10_isStation, 2, some .boolean), (yX10_isIn, cX10_isIn, 3, some .boolean), (yX10_station, cX10_station, 7, some .int), (yX10_height, cX10_height, 6, some .boolean), (yX10_far, cX10_far, 6, some .int), (yX10_between, cX10_between, 3, some .int), (yX10_isLord, cX10_isLord, 2, some .boolean), (yX10_lord, cX10_lord, 7, some .int), (yX10_papers, cX10_papers, 4, some .boolean), (yX10_window, cX10_window, 5, some .boolean), (yX10_wrong, cX10_wrong, 2, some .boolean), (yX10_wordAt, cX10_wordAt, 8, some .int), (yX10_isSmall, cX10_isSmall, 2, some .boolean)]
theorem zmc_3_ok : ∀ q ∈ zmc_3, Cond.code q.1 q.2.1 q.2.2.1 q.2.2.2 ∈ lw_tbl := List.forall_mem_cons.mpr ⟨List.mem_of_getElem? zc_X9_window, List.forall_mem_cons.mpr ⟨List.mem_of_getElem? zc_X9_wants, List.forall_mem_cons.mpr ⟨List.mem_of_getElem? zc_X9_ahead, List.forall_mem_cons.mpr ⟨List.mem_of_getElem? zc_X9_set, List.forall_mem_cons.mpr ⟨List.mem_of_getElem? zc_X9_judge, List.forall_mem_cons.mpr ⟨List.mem_of_getElem? zc_X9_night, List.forall_mem_cons.mpr ⟨List.mem_of_getElem? zc_X9_end, List.forall_mem_cons.mpr ⟨List.mem_of_getElem? zc_X9_given, List.forall_mem_cons.mpr ⟨List.mem_of_getElem? zc_X9_plan, List.forall_mem_cons.mpr ⟨List.mem_of_getElem? zc_X9_anew, List.forall_mem_cons.mpr ⟨List.mem_of_getElem? zc_X9_row, List.forall_mem_cons.mpr ⟨List.mem_of_getElem? zc_X9_known, List.forall_mem_cons.mpr ⟨List.mem_of_getElem? zc_X9_count, List.forall_mem_cons.mpr ⟨List.mem_of_getElem? zc_X9_within, List.forall_mem_cons.mpr ⟨List.mem_of_getElem? zc_X9_hasLord, List.forall_mem_cons.mpr ⟨List.mem_of_getElem? zc_X9_putNumber, List.forall_mem_cons.mpr ⟨List.mem_of_getElem? zc_X9_runRowAtHand, List.forall_mem_cons.mpr ⟨List.mem_of_getElem? zc_X9_openSearch, List.forall_mem_cons.mpr ⟨List.mem_of_getElem? zc_X10_init, List.forall_mem_cons.mpr ⟨List.mem_of_getElem? zc_X10_thrown, List.forall_mem_cons.mpr ⟨List.mem_of_getElem? zc_X10_feed, List.forall_mem_cons.mpr ⟨List.mem_of_getElem? zc_X10_year, List.forall_mem_cons.mpr ⟨List.mem_of_getElem? zc_X10_isStation, List.forall_mem_cons.mpr ⟨List.mem_of_getElem? zc_X10_isIn, List.forall_mem_cons.mpr ⟨List.mem_of_getElem? zc_X10_station, List.forall_mem_cons.mpr ⟨List.mem_of_getElem? zc_X10_height, List.forall_mem_cons.mpr ⟨List.mem_of_getElem? zc_X10_far, List.forall_mem_cons.mpr ⟨List.mem_of_getElem? zc_X10_between, List.forall_mem_cons.mpr ⟨List.mem_of_getElem? zc_X10_isLord, List.forall_mem_cons.mpr ⟨List.mem_of_getElem? zc_X10_lord, List.forall_mem_cons.mpr ⟨List.mem_of_getElem? zc_X10_papers, List.forall_mem_cons.mpr ⟨List.mem_of_getElem? zc_X10_window, List.forall_mem_cons.mpr ⟨List.mem_of_getElem? zc_X10_wrong, List.forall_mem_cons.mpr ⟨List.mem_of_getElem? zc_X10_wordAt, List.forall_mem_cons.mpr ⟨List.mem_of_getElem? zc_X10_isSmall, fun _ h => absurd h List.not_mem_nil⟩⟩⟩⟩⟩⟩⟩⟩⟩⟩⟩⟩⟩⟩⟩⟩⟩⟩⟩⟩⟩⟩⟩⟩⟩⟩⟩⟩⟩⟩⟩⟩⟩⟩⟩
def zmc_4 : List (MethodName × ByteArray × Nat × Option FieldType) := [(yX10_isDigit, cX10_isDigit, 2, some .boolean), (yX10_isAt, cX10_isAt, 3, some .boolean), (yX10_signOf, cX10_signOf, 2, some .int), (yX10_take, cX10_take, 2, none), (yX10_isSign, cX10_isSign, 2, some .boolean), (yX10_weight, cX10_weight, 1, some .int), (yX10_grown, cX10_grown, 4, some .int), (yX10_done, cX10_done, 2, none), (yX10_drop, cX10_drop, 1, some .int), (yX10_bind, cX10_bind, 3, none), (yX10_waitFor, cX10_waitFor, 3, none), (yX10_ofOne, cX10_ofOne, 3, some .boolean), (yX10_valueRead, cX10_valueRead, 4, some .boolean), (yX10_signNow, cX10_signNow, 1, some .int), (yX10_joins, cX10_joins, 4, some .boolean), (yX10_expression, cX10_expression, 3, some .boolean), (yX10_begins, cX10_begins, 1, some .boolean), (yX10_numberRead, cX10_numberRead, 4, some .boolean), (yX10_line, cX10_line, 3, some .boolean), (yX10_plain, cX10_plain, 2, none), (yX10_keep, cX10_keep, 2, none), (yX10_edicts, cX10_edicts, 3, some .int), (yX10_fault, cX10_fault, 2, some .int), (yX10_truth, cX10_truth, 1, some .long), (yX10_big, cX10_big, 2, some .long), (yX10_bounded, cX10_bounded, 3, some .long), (yX10_made, cX10_made, 6, some .long), (yX10_nameValue, cX10_nameValue, 4, some .int), (yX10_valueOf, cX10_valueOf, 9, some .long), (yX10_within, cX10_within, 2, some .int), (yX10_attends, cX10_attends, 2, some .boolean), (yX10_bearersOf, cX10_bearersOf, 2, some .int), (yX10_roomOf, cX10_roomOf, 2, some .int), (yX10_fineOf, cX10_fineOf, 3, some .int), (yX10_wants, cX10_wants, 4, some .int)]
theorem zmc_4_ok : ∀ q ∈ zmc_4, Cond.code q.1 q.2.1 q.2.2.1 q.2.2.2 ∈ lw_tbl := List.forall_mem_cons.mpr ⟨List.mem_of_getElem? zc_X10_isDigit, List.forall_mem_cons.mpr ⟨List.mem_of_getElem? zc_X10_isAt, List.forall_mem_cons.mpr ⟨List.mem_of_getElem? zc_X10_signOf, List.forall_mem_cons.mpr ⟨List.mem_of_getElem? zc_X10_take, List.forall_mem_cons.mpr ⟨List.mem_of_getElem? zc_X10_isSign, List.forall_mem_cons.mpr ⟨List.mem_of_getElem? zc_X10_weight, List.forall_mem_cons.mpr ⟨List.mem_of_getElem? zc_X10_grown, List.forall_mem_cons.mpr ⟨List.mem_of_getElem? zc_X10_done, List.forall_mem_cons.mpr ⟨List.mem_of_getElem? zc_X10_drop, List.forall_mem_cons.mpr ⟨List.mem_of_getElem? zc_X10_bind, List.forall_mem_cons.mpr ⟨List.mem_of_getElem? zc_X10_waitFor, List.forall_mem_cons.mpr ⟨List.mem_of_getElem? zc_X10_ofOne, List.forall_mem_cons.mpr ⟨List.mem_of_getElem? zc_X10_valueRead, List.forall_mem_cons.mpr ⟨List.mem_of_getElem? zc_X10_signNow, List.forall_mem_cons.mpr ⟨List.mem_of_getElem? zc_X10_joins, List.forall_mem_cons.mpr ⟨List.mem_of_getElem? zc_X10_expression, List.forall_mem_cons.mpr ⟨List.mem_of_getElem? zc_X10_begins, List.forall_mem_cons.mpr ⟨List.mem_of_getElem? zc_X10_numberRead, List.forall_mem_cons.mpr ⟨List.mem_of_getElem? zc_X10_line, List.forall_mem_cons.mpr ⟨List.mem_of_getElem? zc_X10_plain, List.forall_mem_cons.mpr ⟨List.mem_of_getElem? zc_X10_keep, List.forall_mem_cons.mpr ⟨List.mem_of_getElem? zc_X10_edicts, List.forall_mem_cons.mpr ⟨List.mem_of_getElem? zc_X10_fault, List.forall_mem_cons.mpr ⟨List.mem_of_getElem? zc_X10_truth, List.forall_mem_cons.mpr ⟨List.mem_of_getElem? zc_X10_big, List.forall_mem_cons.mpr ⟨List.mem_of_getElem? zc_X10_bounded, List.forall_mem_cons.mpr ⟨List.mem_of_getElem? zc_X10_made, List.forall_mem_cons.mpr ⟨List.mem_of_getElem? zc_X10_nameValue, List.forall_mem_cons.mpr ⟨List.mem_of_getElem? zc_X10_valueOf, List.forall_mem_cons.mpr ⟨List.mem_of_getElem? zc_X10_within, List.forall_mem_cons.mpr ⟨List.mem_of_getElem? zc_X10_attends, List.forall_mem_cons.mpr ⟨List.mem_of_getElem? zc_X10_bearersOf, List.forall_mem_cons.mpr ⟨List.mem_of_getElem? zc_X10_roomOf, List.forall_mem_cons.mpr ⟨List.mem_of_getElem? zc_X10_fineOf, List.forall_mem_cons.mpr ⟨List.mem_of_getElem? zc_X10_wants, fun _ h => absurd h List.not_mem_nil⟩⟩⟩⟩⟩⟩⟩⟩⟩⟩⟩⟩⟩⟩⟩⟩⟩⟩⟩⟩⟩⟩⟩⟩⟩⟩⟩⟩⟩⟩⟩⟩⟩⟩⟩
def zmc_5 : List (MethodName × ByteArray × Nat × Option FieldType) := [(yX10_isAhead, cX10_isAhead, 8, some .boolean), (yX10_ahead, cX10_ahead, 3, some .int), (yX10_prepare, cX10_prepare, 3, none), (yX10_isShut, cX10_isShut, 3, some .boolean), (yX10_fails, cX10_fails, 3, some .boolean), (yX10_lodges, cX10_lodges, 5, some .boolean), (yX10_looksAlong, cX10_looksAlong, 6, none), (yX10_goesOn, cX10_goesOn, 6, none), (yX10_asks, cX10_asks, 3, none), (yX10_runIt, cX10_runIt, 4, none), (yX10_lateOf, cX10_lateOf, 3, some .int), (yX10_atHand, cX10_atHand, 2, none), (yX10_allYields, cX10_allYields, 3, some .int), (yX10_allCosts, cX10_allCosts, 3, some .int), (yX10_set, cX10_set, 3, some .boolean), (yX10_judge, cX10_judge, 5, some .int), (yX10_night, cX10_night, 4, some .int), (yX10_end, cX10_end, 4, some .int), (yX10_given, cX10_given, 3, some .int), (yX10_search, cX10_search, 18, some .int), (yX10_plan, cX10_plan, 2, some .int), (yX10_anew, cX10_anew, 4, some .int), (yX10_row, cX10_row, 2, some .int), (yX10_known, cX10_known, 8, some .int), (yX10_throwsOut, cX10_throwsOut, 2, some .int), (yX10_look, cX10_look, 3, some .int), (yX10_count, cX10_count, 2, some .int), (yX3_isCompared, cX3_isCompared, 1, some .boolean), (yX3_noteCompared, cX3_noteCompared, 2, none), (yX4_stationOf, cX4_stationOf, 2, some (.object RX7)), (yX7_isCity, cX7_isCity, 1, some .boolean), (yJ9_abs_067f4, cJ9_abs_067f4, 2, some .long), (yJ9_max_7cf53, cJ9_max_7cf53, 2, some .int), (yJ9_max_f86c9, cJ9_max_f86c9, 4, some .long), (yJ9_min_7cf53, cJ9_min_7cf53, 2, some .int)]
theorem zmc_5_ok : ∀ q ∈ zmc_5, Cond.code q.1 q.2.1 q.2.2.1 q.2.2.2 ∈ lw_tbl := List.forall_mem_cons.mpr ⟨List.mem_of_getElem? zc_X10_isAhead, List.forall_mem_cons.mpr ⟨List.mem_of_getElem? zc_X10_ahead, List.forall_mem_cons.mpr ⟨List.mem_of_getElem? zc_X10_prepare, List.forall_mem_cons.mpr ⟨List.mem_of_getElem? zc_X10_isShut, List.forall_mem_cons.mpr ⟨List.mem_of_getElem? zc_X10_fails, List.forall_mem_cons.mpr ⟨List.mem_of_getElem? zc_X10_lodges, List.forall_mem_cons.mpr ⟨List.mem_of_getElem? zc_X10_looksAlong, List.forall_mem_cons.mpr ⟨List.mem_of_getElem? zc_X10_goesOn, List.forall_mem_cons.mpr ⟨List.mem_of_getElem? zc_X10_asks, List.forall_mem_cons.mpr ⟨List.mem_of_getElem? zc_X10_runIt, List.forall_mem_cons.mpr ⟨List.mem_of_getElem? zc_X10_lateOf, List.forall_mem_cons.mpr ⟨List.mem_of_getElem? zc_X10_atHand, List.forall_mem_cons.mpr ⟨List.mem_of_getElem? zc_X10_allYields, List.forall_mem_cons.mpr ⟨List.mem_of_getElem? zc_X10_allCosts, List.forall_mem_cons.mpr ⟨List.mem_of_getElem? zc_X10_set, List.forall_mem_cons.mpr ⟨List.mem_of_getElem? zc_X10_judge, List.forall_mem_cons.mpr ⟨List.mem_of_getElem? zc_X10_night, List.forall_mem_cons.mpr ⟨List.mem_of_getElem? zc_X10_end, List.forall_mem_cons.mpr ⟨List.mem_of_getElem? zc_X10_given, List.forall_mem_cons.mpr ⟨List.mem_of_getElem? zc_X10_search, List.forall_mem_cons.mpr ⟨List.mem_of_getElem? zc_X10_plan, List.forall_mem_cons.mpr ⟨List.mem_of_getElem? zc_X10_anew, List.forall_mem_cons.mpr ⟨List.mem_of_getElem? zc_X10_row, List.forall_mem_cons.mpr ⟨List.mem_of_getElem? zc_X10_known, List.forall_mem_cons.mpr ⟨List.mem_of_getElem? zc_X10_throwsOut, List.forall_mem_cons.mpr ⟨List.mem_of_getElem? zc_X10_look, List.forall_mem_cons.mpr ⟨List.mem_of_getElem? zc_X10_count, List.forall_mem_cons.mpr ⟨List.mem_of_getElem? zc_X3_isCompared, List.forall_mem_cons.mpr ⟨List.mem_of_getElem? zc_X3_noteCompared, List.forall_mem_cons.mpr ⟨List.mem_of_getElem? zc_X4_stationOf, List.forall_mem_cons.mpr ⟨List.mem_of_getElem? zc_X7_isCity, List.forall_mem_cons.mpr ⟨List.mem_of_getElem? zc_J9_abs_067f4, List.forall_mem_cons.mpr ⟨List.mem_of_getElem? zc_J9_max_7cf53, List.forall_mem_cons.mpr ⟨List.mem_of_getElem? zc_J9_max_f86c9, List.forall_mem_cons.mpr ⟨List.mem_of_getElem? zc_J9_min_7cf53, fun _ h => absurd h List.not_mem_nil⟩⟩⟩⟩⟩⟩⟩⟩⟩⟩⟩⟩⟩⟩⟩⟩⟩⟩⟩⟩⟩⟩⟩⟩⟩⟩⟩⟩⟩⟩⟩⟩⟩⟩⟩
def zmc_6 : List (MethodName × ByteArray × Nat × Option FieldType) := [(yJ9_min_f86c9, cJ9_min_f86c9, 4, some .long)]
theorem zmc_6_ok : ∀ q ∈ zmc_6, Cond.code q.1 q.2.1 q.2.2.1 q.2.2.2 ∈ lw_tbl := List.forall_mem_cons.mpr ⟨List.mem_of_getElem? zc_J9_min_f86c9, fun _ h => absurd h List.not_mem_nil⟩
def zmc : List (MethodName × ByteArray × Nat × Option FieldType) := zmc_0 ++ (zmc_1 ++ (zmc_2 ++ (zmc_3 ++ (zmc_4 ++ (zmc_5 ++ (zmc_6))))))
theorem zmc_ok : ∀ q ∈ zmc, Cond.code q.1 q.2.1 q.2.2.1 q.2.2.2 ∈ lw_tbl := List.forall_mem_append.mpr ⟨zmc_0_ok, List.forall_mem_append.mpr ⟨zmc_1_ok, List.forall_mem_append.mpr ⟨zmc_2_ok, List.forall_mem_append.mpr ⟨zmc_3_ok, List.forall_mem_append.mpr ⟨zmc_4_ok, List.forall_mem_append.mpr ⟨zmc_5_ok, zmc_6_ok⟩⟩⟩⟩⟩⟩
