def zent (M pc : Nat) : Option zE := (zits.getD M []).find? fun q => Nat.beq q.1 pc
def zgood (M : Nat) : Prop := ∀ q ∈ zits.getD M [], decode (zmi M).2.1 q.1 = .ok (q.2.1, q.2.2.1) ∧ zvl M q = true
theorem zgo_0 : zgood 0 := fun q hq => ⟨zd_X0_init q hq, zw_X0_init q hq⟩
theorem zgo_1 : zgood 1 := fun q hq => ⟨zd_X0_clear q hq, zw_X0_clear q hq⟩
theorem zgo_2 : zgood 2 := fun q hq => ⟨zd_X0_writeNumber q hq, zw_X0_writeNumber q hq⟩
theorem zgo_3 : zgood 3 := fun q hq => ⟨zd_X0_isPlace q hq, zw_X0_isPlace q hq⟩
theorem zgo_4 : zgood 4 := fun q hq => ⟨zd_X0_begin q hq, zw_X0_begin q hq⟩
theorem zgo_5 : zgood 5 := fun q hq => ⟨zd_X0_finish q hq, zw_X0_finish q hq⟩
theorem zgo_6 : zgood 6 := fun q hq => ⟨zd_X0_add q hq, zw_X0_add q hq⟩
theorem zgo_7 : zgood 7 := fun q hq => ⟨zd_X0_settle q hq, zw_X0_settle q hq⟩
theorem zgo_8 : zgood 8 := fun q hq => ⟨zd_X0_lets q hq, zw_X0_lets q hq⟩
theorem zgo_9 : zgood 9 := fun q hq => ⟨zd_X0_coins q hq, zw_X0_coins q hq⟩
theorem zgo_10 : zgood 10 := fun q hq => ⟨zd_X0_putsAhead q hq, zw_X0_putsAhead q hq⟩
theorem zgo_11 : zgood 11 := fun q hq => ⟨zd_X0_work q hq, zw_X0_work q hq⟩
theorem zgo_12 : zgood 12 := fun q hq => ⟨zd_X0_isSide q hq, zw_X0_isSide q hq⟩
theorem zgo_13 : zgood 13 := fun q hq => ⟨zd_X0_oneIf q hq, zw_X0_oneIf q hq⟩
theorem zgo_14 : zgood 14 := fun q hq => ⟨zd_X0_isError q hq, zw_X0_isError q hq⟩
theorem zgo_15 : zgood 15 := fun q hq => ⟨zd_X0_join q hq, zw_X0_join q hq⟩
theorem zgo_16 : zgood 16 := fun q hq => ⟨zd_X1_init q hq, zw_X1_init q hq⟩
theorem zgo_17 : zgood 17 := fun q hq => ⟨zd_X1_fact q hq, zw_X1_fact q hq⟩
theorem zgo_18 : zgood 18 := fun q hq => ⟨zd_X2_init q hq, zw_X2_init q hq⟩
theorem zgo_19 : zgood 19 := fun q hq => ⟨zd_X2_begin q hq, zw_X2_begin q hq⟩
theorem zgo_20 : zgood 20 := fun q hq => ⟨zd_X2_isAskedOn q hq, zw_X2_isAskedOn q hq⟩
theorem zgo_21 : zgood 21 := fun q hq => ⟨zd_X2_failsAt q hq, zw_X2_failsAt q hq⟩
theorem zgo_22 : zgood 22 := fun q hq => ⟨zd_X2_lookedAt q hq, zw_X2_lookedAt q hq⟩
theorem zgo_23 : zgood 23 := fun q hq => ⟨zd_X2_stateAt q hq, zw_X2_stateAt q hq⟩
theorem zgo_24 : zgood 24 := fun q hq => ⟨zd_X2_lateness q hq, zw_X2_lateness q hq⟩
theorem zgo_25 : zgood 25 := fun q hq => ⟨zd_X2_keepNight q hq, zw_X2_keepNight q hq⟩
theorem zgo_26 : zgood 26 := fun q hq => ⟨zd_X3_init q hq, zw_X3_init q hq⟩
theorem zgo_27 : zgood 27 := fun q hq => ⟨zd_X3_read q hq, zw_X3_read q hq⟩
theorem zgo_28 : zgood 28 := fun q hq => ⟨zd_X3_take q hq, zw_X3_take q hq⟩
theorem zgo_29 : zgood 29 := fun q hq => ⟨zd_X3_fail q hq, zw_X3_fail q hq⟩
theorem zgo_30 : zgood 30 := fun q hq => ⟨zd_X3_takeWord q hq, zw_X3_takeWord q hq⟩
theorem zgo_31 : zgood 31 := fun q hq => ⟨zd_X3_takeNumber q hq, zw_X3_takeNumber q hq⟩
theorem zgo_32 : zgood 32 := fun q hq => ⟨zd_X3_mostOfWord q hq, zw_X3_mostOfWord q hq⟩
theorem zgo_33 : zgood 33 := fun q hq => ⟨zd_X3_takeSemicolon q hq, zw_X3_takeSemicolon q hq⟩
theorem zgo_34 : zgood 34 := fun q hq => ⟨zd_X3_beginExpression q hq, zw_X3_beginExpression q hq⟩
theorem zgo_35 : zgood 35 := fun q hq => ⟨zd_X3_canBegin q hq, zw_X3_canBegin q hq⟩
theorem zgo_36 : zgood 36 := fun q hq => ⟨zd_X3_takeSide q hq, zw_X3_takeSide q hq⟩
theorem zgo_37 : zgood 37 := fun q hq => ⟨zd_X3_isTooMuch q hq, zw_X3_isTooMuch q hq⟩
theorem zgo_38 : zgood 38 := fun q hq => ⟨zd_X3_takeSign q hq, zw_X3_takeSign q hq⟩
theorem zgo_39 : zgood 39 := fun q hq => ⟨zd_X3_takeEndOfSide q hq, zw_X3_takeEndOfSide q hq⟩
theorem zgo_40 : zgood 40 := fun q hq => ⟨zd_X3_bondOf q hq, zw_X3_bondOf q hq⟩
theorem zgo_41 : zgood 41 := fun q hq => ⟨zd_X3_bondOfWaiting q hq, zw_X3_bondOfWaiting q hq⟩
theorem zgo_42 : zgood 42 := fun q hq => ⟨zd_X3_putOff q hq, zw_X3_putOff q hq⟩
theorem zgo_43 : zgood 43 := fun q hq => ⟨zd_X3_writeWaiting q hq, zw_X3_writeWaiting q hq⟩
theorem zgo_44 : zgood 44 := fun q hq => ⟨zd_X4_init q hq, zw_X4_init q hq⟩
theorem zgo_45 : zgood 45 := fun q hq => ⟨zd_X4_has q hq, zw_X4_has q hq⟩
theorem zgo_46 : zgood 46 := fun q hq => ⟨zd_X4_hasWay q hq, zw_X4_hasWay q hq⟩
theorem zgo_47 : zgood 47 := fun q hq => ⟨zd_X7_hoursTo q hq, zw_X7_hoursTo q hq⟩
theorem zgo_48 : zgood 48 := fun q hq => ⟨zd_X4_latestKnown q hq, zw_X4_latestKnown q hq⟩
theorem zgo_49 : zgood 49 := fun q hq => ⟨zd_X4_forgetGiven q hq, zw_X4_forgetGiven q hq⟩
theorem zgo_50 : zgood 50 := fun q hq => ⟨zd_X4_beginDay q hq, zw_X4_beginDay q hq⟩
theorem zgo_51 : zgood 51 := fun q hq => ⟨zd_X5_init q hq, zw_X5_init q hq⟩
theorem zgo_52 : zgood 52 := fun q hq => ⟨zd_X5_prepare q hq, zw_X5_prepare q hq⟩
theorem zgo_53 : zgood 53 := fun q hq => ⟨zd_X5_putInOrder q hq, zw_X5_putInOrder q hq⟩
theorem zgo_54 : zgood 54 := fun q hq => ⟨zd_X5_keepRecord q hq, zw_X5_keepRecord q hq⟩
theorem zgo_55 : zgood 55 := fun q hq => ⟨zd_X5_isBetterThan q hq, zw_X5_isBetterThan q hq⟩
theorem zgo_56 : zgood 56 := fun q hq => ⟨zd_X5_isStillBelow q hq, zw_X5_isStillBelow q hq⟩
theorem zgo_57 : zgood 57 := fun q hq => ⟨zd_X5_begin q hq, zw_X5_begin q hq⟩
theorem zgo_58 : zgood 58 := fun q hq => ⟨zd_X5_finish q hq, zw_X5_finish q hq⟩
theorem zgo_59 : zgood 59 := fun q hq => ⟨zd_X5_charge q hq, zw_X5_charge q hq⟩
theorem zgo_60 : zgood 60 := fun q hq => ⟨zd_X5_passDay q hq, zw_X5_passDay q hq⟩
theorem zgo_61 : zgood 61 := fun q hq => ⟨zd_X5_ask q hq, zw_X5_ask q hq⟩
theorem zgo_62 : zgood 62 := fun q hq => ⟨zd_X5_farthestFor q hq, zw_X5_farthestFor q hq⟩
theorem zgo_63 : zgood 63 := fun q hq => ⟨zd_X5_farthestHouse q hq, zw_X5_farthestHouse q hq⟩
theorem zgo_64 : zgood 64 := fun q hq => ⟨zd_X5_lodgersAt q hq, zw_X5_lodgersAt q hq⟩
theorem zgo_65 : zgood 65 := fun q hq => ⟨zd_X5_travel q hq, zw_X5_travel q hq⟩
theorem zgo_66 : zgood 66 := fun q hq => ⟨zd_X5_passGate q hq, zw_X5_passGate q hq⟩
theorem zgo_67 : zgood 67 := fun q hq => ⟨zd_X5_spendNight q hq, zw_X5_spendNight q hq⟩
theorem zgo_68 : zgood 68 := fun q hq => ⟨zd_X6_init q hq, zw_X6_init q hq⟩
theorem zgo_69 : zgood 69 := fun q hq => ⟨zd_X6_open q hq, zw_X6_open q hq⟩
theorem zgo_70 : zgood 70 := fun q hq => ⟨zd_X6_allow q hq, zw_X6_allow q hq⟩
theorem zgo_71 : zgood 71 := fun q hq => ⟨zd_X6_goThrough q hq, zw_X6_goThrough q hq⟩
theorem zgo_72 : zgood 72 := fun q hq => ⟨zd_X6_isWithinBounds q hq, zw_X6_isWithinBounds q hq⟩
theorem zgo_73 : zgood 73 := fun q hq => ⟨zd_X6_begin q hq, zw_X6_begin q hq⟩
theorem zgo_74 : zgood 74 := fun q hq => ⟨zd_X6_stepRow q hq, zw_X6_stepRow q hq⟩
theorem zgo_75 : zgood 75 := fun q hq => ⟨zd_X6_keepRow q hq, zw_X6_keepRow q hq⟩
theorem zgo_76 : zgood 76 := fun q hq => ⟨zd_X6_isMoved q hq, zw_X6_isMoved q hq⟩
theorem zgo_77 : zgood 77 := fun q hq => ⟨zd_X6_weightOfMoved q hq, zw_X6_weightOfMoved q hq⟩
theorem zgo_78 : zgood 78 := fun q hq => ⟨zd_X6_takeBest q hq, zw_X6_takeBest q hq⟩
theorem zgo_79 : zgood 79 := fun q hq => ⟨zd_X7_init q hq, zw_X7_init q hq⟩
theorem zgo_80 : zgood 80 := fun q hq => ⟨zd_X7_isShutOn q hq, zw_X7_isShutOn q hq⟩
theorem zgo_81 : zgood 81 := fun q hq => ⟨zd_X7_forgetGiven q hq, zw_X7_forgetGiven q hq⟩
theorem zgo_82 : zgood 82 := fun q hq => ⟨zd_X7_giveBearers q hq, zw_X7_giveBearers q hq⟩
theorem zgo_83 : zgood 83 := fun q hq => ⟨zd_X8_init q hq, zw_X8_init q hq⟩
theorem zgo_84 : zgood 84 := fun q hq => ⟨zd_X8_begin q hq, zw_X8_begin q hq⟩
theorem zgo_85 : zgood 85 := fun q hq => ⟨zd_X8_step q hq, zw_X8_step q hq⟩
theorem zgo_86 : zgood 86 := fun q hq => ⟨zd_X8_signAt q hq, zw_X8_signAt q hq⟩
theorem zgo_87 : zgood 87 := fun q hq => ⟨zd_X8_isBlank q hq, zw_X8_isBlank q hq⟩
theorem zgo_88 : zgood 88 := fun q hq => ⟨zd_X8_isLetter q hq, zw_X8_isLetter q hq⟩
theorem zgo_89 : zgood 89 := fun q hq => ⟨zd_X8_isDigit q hq, zw_X8_isDigit q hq⟩
theorem zgo_90 : zgood 90 := fun q hq => ⟨zd_X8_stepOverWord q hq, zw_X8_stepOverWord q hq⟩
theorem zgo_91 : zgood 91 := fun q hq => ⟨zd_X8_wordBetween q hq, zw_X8_wordBetween q hq⟩
theorem zgo_92 : zgood 92 := fun q hq => ⟨zd_X8_stepOverNumber q hq, zw_X8_stepOverNumber q hq⟩
theorem zgo_93 : zgood 93 := fun q hq => ⟨zd_X8_kindOfSign q hq, zw_X8_kindOfSign q hq⟩
theorem zgo_94 : zgood 94 := fun q hq => ⟨zd_X8_joinsNext q hq, zw_X8_joinsNext q hq⟩
theorem zgo_95 : zgood 95 := fun q hq => ⟨zd_X9_init q hq, zw_X9_init q hq⟩
theorem zgo_96 : zgood 96 := fun q hq => ⟨zd_X9_feed q hq, zw_X9_feed q hq⟩
theorem zgo_97 : zgood 97 := fun q hq => ⟨zd_X9_edicts q hq, zw_X9_edicts q hq⟩
theorem zgo_98 : zgood 98 := fun q hq => ⟨zd_X9_fault q hq, zw_X9_fault q hq⟩
theorem zgo_99 : zgood 99 := fun q hq => ⟨zd_X9_year q hq, zw_X9_year q hq⟩
theorem zgo_100 : zgood 100 := fun q hq => ⟨zd_X9_station q hq, zw_X9_station q hq⟩
theorem zgo_101 : zgood 101 := fun q hq => ⟨zd_X9_height q hq, zw_X9_height q hq⟩
theorem zgo_102 : zgood 102 := fun q hq => ⟨zd_X9_between q hq, zw_X9_between q hq⟩
theorem zgo_103 : zgood 103 := fun q hq => ⟨zd_X9_lord q hq, zw_X9_lord q hq⟩
theorem zgo_104 : zgood 104 := fun q hq => ⟨zd_X9_papers q hq, zw_X9_papers q hq⟩
theorem zgo_105 : zgood 105 := fun q hq => ⟨zd_X9_window q hq, zw_X9_window q hq⟩
theorem zgo_106 : zgood 106 := fun q hq => ⟨zd_X9_wants q hq, zw_X9_wants q hq⟩
theorem zgo_107 : zgood 107 := fun q hq => ⟨zd_X9_ahead q hq, zw_X9_ahead q hq⟩
theorem zgo_108 : zgood 108 := fun q hq => ⟨zd_X9_set q hq, zw_X9_set q hq⟩
theorem zgo_109 : zgood 109 := fun q hq => ⟨zd_X9_judge q hq, zw_X9_judge q hq⟩
theorem zgo_110 : zgood 110 := fun q hq => ⟨zd_X9_night q hq, zw_X9_night q hq⟩
theorem zgo_111 : zgood 111 := fun q hq => ⟨zd_X9_end q hq, zw_X9_end q hq⟩
theorem zgo_112 : zgood 112 := fun q hq => ⟨zd_X9_given q hq, zw_X9_given q hq⟩
theorem zgo_113 : zgood 113 := fun q hq => ⟨zd_X9_plan q hq, zw_X9_plan q hq⟩
theorem zgo_114 : zgood 114 := fun q hq => ⟨zd_X9_anew q hq, zw_X9_anew q hq⟩
theorem zgo_115 : zgood 115 := fun q hq => ⟨zd_X9_row q hq, zw_X9_row q hq⟩
theorem zgo_116 : zgood 116 := fun q hq => ⟨zd_X9_known q hq, zw_X9_known q hq⟩
theorem zgo_117 : zgood 117 := fun q hq => ⟨zd_X9_count q hq, zw_X9_count q hq⟩
theorem zgo_118 : zgood 118 := fun q hq => ⟨zd_X9_within q hq, zw_X9_within q hq⟩
theorem zgo_119 : zgood 119 := fun q hq => ⟨zd_X9_hasLord q hq, zw_X9_hasLord q hq⟩
theorem zgo_120 : zgood 120 := fun q hq => ⟨zd_X9_putNumber q hq, zw_X9_putNumber q hq⟩
theorem zgo_121 : zgood 121 := fun q hq => ⟨zd_X9_runRowAtHand q hq, zw_X9_runRowAtHand q hq⟩
theorem zgo_122 : zgood 122 := fun q hq => ⟨zd_X9_openSearch q hq, zw_X9_openSearch q hq⟩
theorem zgo_123 : zgood 123 := fun q hq => ⟨zd_X10_init q hq, zw_X10_init q hq⟩
theorem zgo_124 : zgood 124 := fun q hq => ⟨zd_X10_thrown q hq, zw_X10_thrown q hq⟩
theorem zgo_125 : zgood 125 := fun q hq => ⟨zd_X10_feed q hq, zw_X10_feed q hq⟩
theorem zgo_126 : zgood 126 := fun q hq => ⟨zd_X10_year q hq, zw_X10_year q hq⟩
theorem zgo_127 : zgood 127 := fun q hq => ⟨zd_X10_isStation q hq, zw_X10_isStation q hq⟩
theorem zgo_128 : zgood 128 := fun q hq => ⟨zd_X10_isIn q hq, zw_X10_isIn q hq⟩
theorem zgo_129 : zgood 129 := fun q hq => ⟨zd_X10_station q hq, zw_X10_station q hq⟩
theorem zgo_130 : zgood 130 := fun q hq => ⟨zd_X10_height q hq, zw_X10_height q hq⟩
theorem zgo_131 : zgood 131 := fun q hq => ⟨zd_X10_far q hq, zw_X10_far q hq⟩
theorem zgo_132 : zgood 132 := fun q hq => ⟨zd_X10_between q hq, zw_X10_between q hq⟩
theorem zgo_133 : zgood 133 := fun q hq => ⟨zd_X10_isLord q hq, zw_X10_isLord q hq⟩
theorem zgo_134 : zgood 134 := fun q hq => ⟨zd_X10_lord q hq, zw_X10_lord q hq⟩
theorem zgo_135 : zgood 135 := fun q hq => ⟨zd_X10_papers q hq, zw_X10_papers q hq⟩
theorem zgo_136 : zgood 136 := fun q hq => ⟨zd_X10_window q hq, zw_X10_window q hq⟩
theorem zgo_137 : zgood 137 := fun q hq => ⟨zd_X10_wrong q hq, zw_X10_wrong q hq⟩
theorem zgo_138 : zgood 138 := fun q hq => ⟨zd_X10_wordAt q hq, zw_X10_wordAt q hq⟩
theorem zgo_139 : zgood 139 := fun q hq => ⟨zd_X10_isSmall q hq, zw_X10_isSmall q hq⟩
theorem zgo_140 : zgood 140 := fun q hq => ⟨zd_X10_isDigit q hq, zw_X10_isDigit q hq⟩
theorem zgo_141 : zgood 141 := fun q hq => ⟨zd_X10_isAt q hq, zw_X10_isAt q hq⟩
theorem zgo_142 : zgood 142 := fun q hq => ⟨zd_X10_signOf q hq, zw_X10_signOf q hq⟩
theorem zgo_143 : zgood 143 := fun q hq => ⟨zd_X10_take q hq, zw_X10_take q hq⟩
theorem zgo_144 : zgood 144 := fun q hq => ⟨zd_X10_isSign q hq, zw_X10_isSign q hq⟩
theorem zgo_145 : zgood 145 := fun q hq => ⟨zd_X10_weight q hq, zw_X10_weight q hq⟩
theorem zgo_146 : zgood 146 := fun q hq => ⟨zd_X10_grown q hq, zw_X10_grown q hq⟩
theorem zgo_147 : zgood 147 := fun q hq => ⟨zd_X10_done q hq, zw_X10_done q hq⟩
theorem zgo_148 : zgood 148 := fun q hq => ⟨zd_X10_drop q hq, zw_X10_drop q hq⟩
theorem zgo_149 : zgood 149 := fun q hq => ⟨zd_X10_bind q hq, zw_X10_bind q hq⟩
theorem zgo_150 : zgood 150 := fun q hq => ⟨zd_X10_waitFor q hq, zw_X10_waitFor q hq⟩
theorem zgo_151 : zgood 151 := fun q hq => ⟨zd_X10_ofOne q hq, zw_X10_ofOne q hq⟩
theorem zgo_152 : zgood 152 := fun q hq => ⟨zd_X10_valueRead q hq, zw_X10_valueRead q hq⟩
theorem zgo_153 : zgood 153 := fun q hq => ⟨zd_X10_signNow q hq, zw_X10_signNow q hq⟩
theorem zgo_154 : zgood 154 := fun q hq => ⟨zd_X10_joins q hq, zw_X10_joins q hq⟩
theorem zgo_155 : zgood 155 := fun q hq => ⟨zd_X10_expression q hq, zw_X10_expression q hq⟩
theorem zgo_156 : zgood 156 := fun q hq => ⟨zd_X10_begins q hq, zw_X10_begins q hq⟩
theorem zgo_157 : zgood 157 := fun q hq => ⟨zd_X10_numberRead q hq, zw_X10_numberRead q hq⟩
theorem zgo_158 : zgood 158 := fun q hq => ⟨zd_X10_line q hq, zw_X10_line q hq⟩
theorem zgo_159 : zgood 159 := fun q hq => ⟨zd_X10_plain q hq, zw_X10_plain q hq⟩
theorem zgo_160 : zgood 160 := fun q hq => ⟨zd_X10_keep q hq, zw_X10_keep q hq⟩
theorem zgo_161 : zgood 161 := fun q hq => ⟨zd_X10_edicts q hq, zw_X10_edicts q hq⟩
theorem zgo_162 : zgood 162 := fun q hq => ⟨zd_X10_fault q hq, zw_X10_fault q hq⟩
theorem zgo_163 : zgood 163 := fun q hq => ⟨zd_X10_truth q hq, zw_X10_truth q hq⟩
theorem zgo_164 : zgood 164 := fun q hq => ⟨zd_X10_big q hq, zw_X10_big q hq⟩
theorem zgo_165 : zgood 165 := fun q hq => ⟨zd_X10_bounded q hq, zw_X10_bounded q hq⟩
theorem zgo_166 : zgood 166 := fun q hq => ⟨zd_X10_made q hq, zw_X10_made q hq⟩
theorem zgo_167 : zgood 167 := fun q hq => ⟨zd_X10_nameValue q hq, zw_X10_nameValue q hq⟩
theorem zgo_168 : zgood 168 := fun q hq => ⟨zd_X10_valueOf q hq, zw_X10_valueOf q hq⟩
theorem zgo_169 : zgood 169 := fun q hq => ⟨zd_X10_within q hq, zw_X10_within q hq⟩
theorem zgo_170 : zgood 170 := fun q hq => ⟨zd_X10_attends q hq, zw_X10_attends q hq⟩
theorem zgo_171 : zgood 171 := fun q hq => ⟨zd_X10_bearersOf q hq, zw_X10_bearersOf q hq⟩
theorem zgo_172 : zgood 172 := fun q hq => ⟨zd_X10_roomOf q hq, zw_X10_roomOf q hq⟩
theorem zgo_173 : zgood 173 := fun q hq => ⟨zd_X10_fineOf q hq, zw_X10_fineOf q hq⟩
theorem zgo_174 : zgood 174 := fun q hq => ⟨zd_X10_wants q hq, zw_X10_wants q hq⟩
theorem zgo_175 : zgood 175 := fun q hq => ⟨zd_X10_isAhead q hq, zw_X10_isAhead q hq⟩
theorem zgo_176 : zgood 176 := fun q hq => ⟨zd_X10_ahead q hq, zw_X10_ahead q hq⟩
theorem zgo_177 : zgood 177 := fun q hq => ⟨zd_X10_prepare q hq, zw_X10_prepare q hq⟩
theorem zgo_178 : zgood 178 := fun q hq => ⟨zd_X10_isShut q hq, zw_X10_isShut q hq⟩
theorem zgo_179 : zgood 179 := fun q hq => ⟨zd_X10_fails q hq, zw_X10_fails q hq⟩
theorem zgo_180 : zgood 180 := fun q hq => ⟨zd_X10_lodges q hq, zw_X10_lodges q hq⟩
theorem zgo_181 : zgood 181 := fun q hq => ⟨zd_X10_looksAlong q hq, zw_X10_looksAlong q hq⟩
theorem zgo_182 : zgood 182 := fun q hq => ⟨zd_X10_goesOn q hq, zw_X10_goesOn q hq⟩
theorem zgo_183 : zgood 183 := fun q hq => ⟨zd_X10_asks q hq, zw_X10_asks q hq⟩
theorem zgo_184 : zgood 184 := fun q hq => ⟨zd_X10_runIt q hq, zw_X10_runIt q hq⟩
theorem zgo_185 : zgood 185 := fun q hq => ⟨zd_X10_lateOf q hq, zw_X10_lateOf q hq⟩
theorem zgo_186 : zgood 186 := fun q hq => ⟨zd_X10_atHand q hq, zw_X10_atHand q hq⟩
theorem zgo_187 : zgood 187 := fun q hq => ⟨zd_X10_allYields q hq, zw_X10_allYields q hq⟩
theorem zgo_188 : zgood 188 := fun q hq => ⟨zd_X10_allCosts q hq, zw_X10_allCosts q hq⟩
theorem zgo_189 : zgood 189 := fun q hq => ⟨zd_X10_set q hq, zw_X10_set q hq⟩
theorem zgo_190 : zgood 190 := fun q hq => ⟨zd_X10_judge q hq, zw_X10_judge q hq⟩
theorem zgo_191 : zgood 191 := fun q hq => ⟨zd_X10_night q hq, zw_X10_night q hq⟩
theorem zgo_192 : zgood 192 := fun q hq => ⟨zd_X10_end q hq, zw_X10_end q hq⟩
theorem zgo_193 : zgood 193 := fun q hq => ⟨zd_X10_given q hq, zw_X10_given q hq⟩
theorem zgo_194 : zgood 194 := fun q hq => ⟨zd_X10_search q hq, zw_X10_search q hq⟩
theorem zgo_195 : zgood 195 := fun q hq => ⟨zd_X10_plan q hq, zw_X10_plan q hq⟩
theorem zgo_196 : zgood 196 := fun q hq => ⟨zd_X10_anew q hq, zw_X10_anew q hq⟩
theorem zgo_197 : zgood 197 := fun q hq => ⟨zd_X10_row q hq, zw_X10_row q hq⟩
theorem zgo_198 : zgood 198 := fun q hq => ⟨zd_X10_known q hq, zw_X10_known q hq⟩
theorem zgo_199 : zgood 199 := fun q hq => ⟨zd_X10_throwsOut q hq, zw_X10_throwsOut q hq⟩
theorem zgo_200 : zgood 200 := fun q hq => ⟨zd_X10_look q hq, zw_X10_look q hq⟩
theorem zgo_201 : zgood 201 := fun q hq => ⟨zd_X10_count q hq, zw_X10_count q hq⟩
theorem zgo_202 : zgood 202 := fun q hq => ⟨zd_X3_isCompared q hq, zw_X3_isCompared q hq⟩
theorem zgo_203 : zgood 203 := fun q hq => ⟨zd_X3_noteCompared q hq, zw_X3_noteCompared q hq⟩
theorem zgo_204 : zgood 204 := fun q hq => ⟨zd_X4_stationOf q hq, zw_X4_stationOf q hq⟩
theorem zgo_205 : zgood 205 := fun q hq => ⟨zd_X7_isCity q hq, zw_X7_isCity q hq⟩
theorem zgo_206 : zgood 206 := fun q hq => ⟨zd_J9_abs_067f4 q hq, zw_J9_abs_067f4 q hq⟩
theorem zgo_207 : zgood 207 := fun q hq => ⟨zd_J9_max_7cf53 q hq, zw_J9_max_7cf53 q hq⟩
theorem zgo_208 : zgood 208 := fun q hq => ⟨zd_J9_max_f86c9 q hq, zw_J9_max_f86c9 q hq⟩
theorem zgo_209 : zgood 209 := fun q hq => ⟨zd_J9_min_7cf53 q hq, zw_J9_min_7cf53 q hq⟩
theorem zgo_210 : zgood 210 := fun q hq => ⟨zd_J9_min_f86c9 q hq, zw_J9_min_f86c9 q hq⟩
theorem zgo_211 : zgood 211 := fun q hq => ⟨zd_L_law q hq, zw_L_law q hq⟩
theorem zgp_0 : ∀ i, i < 53 → zgood (0 + i) := by
  intro i h
  match i, h with
  | 0, _ => exact zgo_0
  | 1, _ => exact zgo_1
  | 2, _ => exact zgo_2
  | 3, _ => exact zgo_3
  | 4, _ => exact zgo_4
  | 5, _ => exact zgo_5
  | 6, _ => exact zgo_6
  | 7, _ => exact zgo_7
  | 8, _ => exact zgo_8
  | 9, _ => exact zgo_9
  | 10, _ => exact zgo_10
  | 11, _ => exact zgo_11
  | 12, _ => exact zgo_12
  | 13, _ => exact zgo_13
  | 14, _ => exact zgo_14
  | 15, _ => exact zgo_15
  | 16, _ => exact zgo_16
  | 17, _ => exact zgo_17
  | 18, _ => exact zgo_18
  | 19, _ => exact zgo_19
  | 20, _ => exact zgo_20
  | 21, _ => exact zgo_21
  | 22, _ => exact zgo_22
  | 23, _ => exact zgo_23
  | 24, _ => exact zgo_24
  | 25, _ => exact zgo_25
  | 26, _ => exact zgo_26
  | 27, _ => exact zgo_27
  | 28, _ => exact zgo_28
  | 29, _ => exact zgo_29
  | 30, _ => exact zgo_30
  | 31, _ => exact zgo_31
  | 32, _ => exact zgo_32
  | 33, _ => exact zgo_33
  | 34, _ => exact zgo_34
  | 35, _ => exact zgo_35
  | 36, _ => exact zgo_36
  | 37, _ => exact zgo_37
  | 38, _ => exact zgo_38
  | 39, _ => exact zgo_39
  | 40, _ => exact zgo_40
  | 41, _ => exact zgo_41
  | 42, _ => exact zgo_42
  | 43, _ => exact zgo_43
  | 44, _ => exact zgo_44
  | 45, _ => exact zgo_45
  | 46, _ => exact zgo_46
  | 47, _ => exact zgo_47
  | 48, _ => exact zgo_48
  | 49, _ => exact zgo_49
  | 50, _ => exact zgo_50
  | 51, _ => exact zgo_51
  | 52, _ => exact zgo_52
  | n + 53, h => exact absurd h (by omega)
theorem zgp_53 : ∀ i, i < 53 → zgood (53 + i) := by
  intro i h
  match i, h with
  | 0, _ => exact zgo_53
  | 1, _ => exact zgo_54
  | 2, _ => exact zgo_55
  | 3, _ => exact zgo_56
  | 4, _ => exact zgo_57
  | 5, _ => exact zgo_58
  | 6, _ => exact zgo_59
  | 7, _ => exact zgo_60
  | 8, _ => exact zgo_61
  | 9, _ => exact zgo_62
  | 10, _ => exact zgo_63
  | 11, _ => exact zgo_64
  | 12, _ => exact zgo_65
  | 13, _ => exact zgo_66
  | 14, _ => exact zgo_67
  | 15, _ => exact zgo_68
  | 16, _ => exact zgo_69
  | 17, _ => exact zgo_70
  | 18, _ => exact zgo_71
  | 19, _ => exact zgo_72
  | 20, _ => exact zgo_73
  | 21, _ => exact zgo_74
  | 22, _ => exact zgo_75
  | 23, _ => exact zgo_76
  | 24, _ => exact zgo_77
  | 25, _ => exact zgo_78
  | 26, _ => exact zgo_79
  | 27, _ => exact zgo_80
  | 28, _ => exact zgo_81
  | 29, _ => exact zgo_82
  | 30, _ => exact zgo_83
  | 31, _ => exact zgo_84
  | 32, _ => exact zgo_85
  | 33, _ => exact zgo_86
  | 34, _ => exact zgo_87
  | 35, _ => exact zgo_88
  | 36, _ => exact zgo_89
  | 37, _ => exact zgo_90
  | 38, _ => exact zgo_91
  | 39, _ => exact zgo_92
  | 40, _ => exact zgo_93
  | 41, _ => exact zgo_94
  | 42, _ => exact zgo_95
  | 43, _ => exact zgo_96
  | 44, _ => exact zgo_97
  | 45, _ => exact zgo_98
  | 46, _ => exact zgo_99
  | 47, _ => exact zgo_100
  | 48, _ => exact zgo_101
  | 49, _ => exact zgo_102
  | 50, _ => exact zgo_103
  | 51, _ => exact zgo_104
  | 52, _ => exact zgo_105
  | n + 53, h => exact absurd h (by omega)
theorem zgp_106 : ∀ i, i < 53 → zgood (106 + i) := by
  intro i h
  match i, h with
  | 0, _ => exact zgo_106
  | 1, _ => exact zgo_107
  | 2, _ => exact zgo_108
  | 3, _ => exact zgo_109
  | 4, _ => exact zgo_110
  | 5, _ => exact zgo_111
  | 6, _ => exact zgo_112
  | 7, _ => exact zgo_113
  | 8, _ => exact zgo_114
  | 9, _ => exact zgo_115
  | 10, _ => exact zgo_116
  | 11, _ => exact zgo_117
  | 12, _ => exact zgo_118
  | 13, _ => exact zgo_119
  | 14, _ => exact zgo_120
  | 15, _ => exact zgo_121
  | 16, _ => exact zgo_122
  | 17, _ => exact zgo_123
  | 18, _ => exact zgo_124
  | 19, _ => exact zgo_125
  | 20, _ => exact zgo_126
  | 21, _ => exact zgo_127
  | 22, _ => exact zgo_128
  | 23, _ => exact zgo_129
  | 24, _ => exact zgo_130
  | 25, _ => exact zgo_131
  | 26, _ => exact zgo_132
  | 27, _ => exact zgo_133
  | 28, _ => exact zgo_134
  | 29, _ => exact zgo_135
  | 30, _ => exact zgo_136
  | 31, _ => exact zgo_137
  | 32, _ => exact zgo_138
  | 33, _ => exact zgo_139
  | 34, _ => exact zgo_140
  | 35, _ => exact zgo_141
  | 36, _ => exact zgo_142
  | 37, _ => exact zgo_143
  | 38, _ => exact zgo_144
  | 39, _ => exact zgo_145
  | 40, _ => exact zgo_146
  | 41, _ => exact zgo_147
  | 42, _ => exact zgo_148
  | 43, _ => exact zgo_149
  | 44, _ => exact zgo_150
  | 45, _ => exact zgo_151
  | 46, _ => exact zgo_152
  | 47, _ => exact zgo_153
  | 48, _ => exact zgo_154
  | 49, _ => exact zgo_155
  | 50, _ => exact zgo_156
  | 51, _ => exact zgo_157
  | 52, _ => exact zgo_158
  | n + 53, h => exact absurd h (by omega)
theorem zgp_159 : ∀ i, i < 53 → zgood (159 + i) := by
  intro i h
  match i, h with
  | 0, _ => exact zgo_159
  | 1, _ => exact zgo_160
  | 2, _ => exact zgo_161
  | 3, _ => exact zgo_162
  | 4, _ => exact zgo_163
  | 5, _ => exact zgo_164
  | 6, _ => exact zgo_165
  | 7, _ => exact zgo_166
  | 8, _ => exact zgo_167
  | 9, _ => exact zgo_168
  | 10, _ => exact zgo_169
  | 11, _ => exact zgo_170
  | 12, _ => exact zgo_171
  | 13, _ => exact zgo_172
  | 14, _ => exact zgo_173
  | 15, _ => exact zgo_174
  | 16, _ => exact zgo_175
  | 17, _ => exact zgo_176
  | 18, _ => exact zgo_177
  | 19, _ => exact zgo_178
  | 20, _ => exact zgo_179
  | 21, _ => exact zgo_180
  | 22, _ => exact zgo_181
  | 23, _ => exact zgo_182
  | 24, _ => exact zgo_183
  | 25, _ => exact zgo_184
  | 26, _ => exact zgo_185
  | 27, _ => exact zgo_186
  | 28, _ => exact zgo_187
  | 29, _ => exact zgo_188
  | 30, _ => exact zgo_189
  | 31, _ => exact zgo_190
  | 32, _ => exact zgo_191
  | 33, _ => exact zgo_192
  | 34, _ => exact zgo_193
  | 35, _ => exact zgo_194
  | 36, _ => exact zgo_195
  | 37, _ => exact zgo_196
  | 38, _ => exact zgo_197
  | 39, _ => exact zgo_198
  | 40, _ => exact zgo_199
  | 41, _ => exact zgo_200
  | 42, _ => exact zgo_201
  | 43, _ => exact zgo_202
  | 44, _ => exact zgo_203
  | 45, _ => exact zgo_204
  | 46, _ => exact zgo_205
  | 47, _ => exact zgo_206
  | 48, _ => exact zgo_207
  | 49, _ => exact zgo_208
  | 50, _ => exact zgo_209
  | 51, _ => exact zgo_210
  | 52, _ => exact zgo_211
  | n + 53, h => exact absurd h (by omega)
theorem zall (M : Nat) (h : M < 212) : zgood M := by
  by_cases h0 : M < 53
  · have := zgp_0 (M - 0) (by omega)
    rwa [show 0 + (M - 0) = M by omega] at this
  by_cases h53 : M < 106
  · have := zgp_53 (M - 53) (by omega)
    rwa [show 53 + (M - 53) = M by omega] at this
  by_cases h106 : M < 159
  · have := zgp_106 (M - 106) (by omega)
    rwa [show 106 + (M - 106) = M by omega] at this
  by_cases h159 : M < 212
  · have := zgp_159 (M - 159) (by omega)
    rwa [show 159 + (M - 159) = M by omega] at this
  omega
theorem zent_ok {M pc : Nat} {q : zE} (hM : M < 212) (h : zent M pc = some q) : q.1 = pc ∧ decode (zmi M).2.1 pc = .ok (q.2.1, q.2.2.1) ∧ zvl M q = true := by
  have h1 := List.mem_of_find?_eq_some h
  have h2 := List.find?_some h
  have h2 : q.1 = pc := Nat.eq_of_beq_eq_true h2
  obtain ⟨a, b⟩ := zall M hM q h1
  exact ⟨h2, by rw [← h2]; exact a, b⟩
