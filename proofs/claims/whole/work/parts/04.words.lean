/-! Part 04: the words, by their places; small steps of the pure functions -/
theorem w_0 : Cond.selects RX1 yX1_measureLetter yX1_measureLetter ∈ lw_tbl := List.mem_of_getElem? (i := 0) (by decide +kernel)
theorem w_1 : Cond.selects RX6 yX6_refuse yX6_refuse ∈ lw_tbl := List.mem_of_getElem? (i := 1) (by decide +kernel)
theorem w_2 : Cond.selects RX6 yX6_measureAnew yX6_measureAnew ∈ lw_tbl := List.mem_of_getElem? (i := 2) (by decide +kernel)
theorem w_3 : Cond.selects RX6 yX6_refuseFar yX6_refuseFar ∈ lw_tbl := List.mem_of_getElem? (i := 3) (by decide +kernel)
theorem w_4 : Cond.selects RX0 yX0_isOnTable yX0_isOnTable ∈ lw_tbl := List.mem_of_getElem? (i := 4) (by decide +kernel)
theorem w_5 : Cond.selects RX0 yX0_isAtLeg yX0_isAtLeg ∈ lw_tbl := List.mem_of_getElem? (i := 5) (by decide +kernel)
theorem w_6 : Cond.selects RX5 yX5_areCrossings yX5_areCrossings ∈ lw_tbl := List.mem_of_getElem? (i := 6) (by decide +kernel)
theorem w_7 : Cond.selects RX3 yX3_gather yX3_gather ∈ lw_tbl := List.mem_of_getElem? (i := 7) (by decide +kernel)
theorem w_8 : Cond.selects RX3 yX3_endOf yX3_endOf ∈ lw_tbl := List.mem_of_getElem? (i := 8) (by decide +kernel)
theorem w_9 : Cond.selects RX3 yX3_layAt yX3_layAt ∈ lw_tbl := List.mem_of_getElem? (i := 9) (by decide +kernel)
theorem w_10 : Cond.selects RX3 yX3_isFirstSoFar yX3_isFirstSoFar ∈ lw_tbl := List.mem_of_getElem? (i := 10) (by decide +kernel)
theorem w_11 : Cond.selects RX3 yX3_lacks yX3_lacks ∈ lw_tbl := List.mem_of_getElem? (i := 11) (by decide +kernel)
theorem w_12 : Cond.selects RX3 yX3_throughTails yX3_throughTails ∈ lw_tbl := List.mem_of_getElem? (i := 12) (by decide +kernel)
theorem w_13 : Cond.selects RX3 yX3_countRing yX3_countRing ∈ lw_tbl := List.mem_of_getElem? (i := 13) (by decide +kernel)
theorem w_14 : Cond.selects RX3 yX3_standsForAll yX3_standsForAll ∈ lw_tbl := List.mem_of_getElem? (i := 14) (by decide +kernel)
theorem w_15 : Cond.selects RX3 yX3_isBefore yX3_isBefore ∈ lw_tbl := List.mem_of_getElem? (i := 15) (by decide +kernel)
theorem w_16 : Cond.selects RX4 yX4_keepIfNearer yX4_keepIfNearer ∈ lw_tbl := List.mem_of_getElem? (i := 16) (by decide +kernel)
theorem w_18 : Cond.selects RX7 yX7_refuse yX7_refuse ∈ lw_tbl := List.mem_of_getElem? (i := 18) (by decide +kernel)
theorem w_19 : Cond.selects RX7 yX7_takes yX7_takes ∈ lw_tbl := List.mem_of_getElem? (i := 19) (by decide +kernel)
theorem w_20 : Cond.selects RX7 yX7_lays yX7_lays ∈ lw_tbl := List.mem_of_getElem? (i := 20) (by decide +kernel)
theorem w_21 : Cond.selects RX7 yX7_adds yX7_adds ∈ lw_tbl := List.mem_of_getElem? (i := 21) (by decide +kernel)
theorem w_22 : Cond.selects RX7 yX7_along yX7_along ∈ lw_tbl := List.mem_of_getElem? (i := 22) (by decide +kernel)
theorem w_23 : Cond.selects RX7 yX7_isClosed yX7_isClosed ∈ lw_tbl := List.mem_of_getElem? (i := 23) (by decide +kernel)
theorem w_24 : Cond.selects RX7 yX7_isSame yX7_isSame ∈ lw_tbl := List.mem_of_getElem? (i := 24) (by decide +kernel)
theorem w_25 : Cond.selects RX7 yX7_gapOf yX7_gapOf ∈ lw_tbl := List.mem_of_getElem? (i := 25) (by decide +kernel)
theorem w_26 : Cond.selects RX7 yX7_offOf yX7_offOf ∈ lw_tbl := List.mem_of_getElem? (i := 26) (by decide +kernel)
theorem w_27 : Cond.selects RX7 yX7_isOn yX7_isOn ∈ lw_tbl := List.mem_of_getElem? (i := 27) (by decide +kernel)
theorem w_28 : Cond.selects RX7 yX7_touchOf yX7_touchOf ∈ lw_tbl := List.mem_of_getElem? (i := 28) (by decide +kernel)
theorem w_29 : Cond.selects RX7 yX7_isCrossed yX7_isCrossed ∈ lw_tbl := List.mem_of_getElem? (i := 29) (by decide +kernel)
theorem w_30 : Cond.selects RX7 yX7_isLying yX7_isLying ∈ lw_tbl := List.mem_of_getElem? (i := 30) (by decide +kernel)
theorem w_31 : Cond.selects RX7 yX7_ringsOf yX7_ringsOf ∈ lw_tbl := List.mem_of_getElem? (i := 31) (by decide +kernel)
theorem w_32 : Cond.selects RX7 yX7_begins yX7_begins ∈ lw_tbl := List.mem_of_getElem? (i := 32) (by decide +kernel)
theorem w_33 : Cond.selects RX7 yX7_goesOn yX7_goesOn ∈ lw_tbl := List.mem_of_getElem? (i := 33) (by decide +kernel)
theorem w_34 : Cond.selects RX7 yX7_rings yX7_rings ∈ lw_tbl := List.mem_of_getElem? (i := 34) (by decide +kernel)
theorem w_35 : Cond.selects RX7 yX7_isFirst yX7_isFirst ∈ lw_tbl := List.mem_of_getElem? (i := 35) (by decide +kernel)
theorem w_36 : Cond.selects RX7 yX7_nears yX7_nears ∈ lw_tbl := List.mem_of_getElem? (i := 36) (by decide +kernel)
theorem w_37 : Cond.selects RX7 yX7_becomes yX7_becomes ∈ lw_tbl := List.mem_of_getElem? (i := 37) (by decide +kernel)
theorem w_39 : Cond.initialized RX6 ∈ lw_tbl := List.mem_of_getElem? (i := 39) (by decide +kernel)
theorem w_40 : Cond.initialized RX0 ∈ lw_tbl := List.mem_of_getElem? (i := 40) (by decide +kernel)
theorem w_41 : Cond.initialized RX1 ∈ lw_tbl := List.mem_of_getElem? (i := 41) (by decide +kernel)
theorem w_42 : Cond.initialized RX5 ∈ lw_tbl := List.mem_of_getElem? (i := 42) (by decide +kernel)
theorem w_43 : Cond.initialized RX3 ∈ lw_tbl := List.mem_of_getElem? (i := 43) (by decide +kernel)
theorem w_44 : Cond.initialized RX4 ∈ lw_tbl := List.mem_of_getElem? (i := 44) (by decide +kernel)
theorem w_45 : Cond.initialized RJ6 ∈ lw_tbl := List.mem_of_getElem? (i := 45) (by decide +kernel)
theorem w_46 : Cond.initialized RX2 ∈ lw_tbl := List.mem_of_getElem? (i := 46) (by decide +kernel)
theorem w_47 : Cond.initialized RX7 ∈ lw_tbl := List.mem_of_getElem? (i := 47) (by decide +kernel)
theorem w_48 : Cond.initialized RJ9 ∈ lw_tbl := List.mem_of_getElem? (i := 48) (by decide +kernel)
theorem w_49 : Cond.initialized RJ7 ∈ lw_tbl := List.mem_of_getElem? (i := 49) (by decide +kernel)
theorem w_66 : Cond.methodLinkNest RX0 33 yX6_copyAll RX6 ∈ lw_tbl := List.mem_of_getElem? (i := 66) (by decide +kernel)
theorem w_67 : Cond.static yX6_copyAll ∈ lw_tbl := List.mem_of_getElem? (i := 67) (by decide +kernel)
theorem w_68 : Cond.code yX6_copyAll cX6_copyAll 3 none ∈ lw_tbl := List.mem_of_getElem? (i := 68) (by decide +kernel)
theorem w_69 : Cond.methodLink RX6 82 yX6_at ∈ lw_tbl := List.mem_of_getElem? (i := 69) (by decide +kernel)
theorem w_70 : Cond.static yX6_at ∈ lw_tbl := List.mem_of_getElem? (i := 70) (by decide +kernel)
theorem w_71 : Cond.code yX6_at cX6_at 2 (some .int) ∈ lw_tbl := List.mem_of_getElem? (i := 71) (by decide +kernel)
theorem w_74 : Cond.fieldLink RX0 9 "TrackBox$Layout" "many" "[I" ∈ lw_tbl := List.mem_of_getElem? (i := 74) (by decide +kernel)
theorem w_75 : Cond.fieldLink RX4 29 "TrackBox$Layout" "many" "[I" ∈ lw_tbl := List.mem_of_getElem? (i := 75) (by decide +kernel)
theorem w_76 : Cond.fieldLink RX6 96 "TrackBox$Layout" "many" "[I" ∈ lw_tbl := List.mem_of_getElem? (i := 76) (by decide +kernel)
theorem w_77 : Cond.fieldLink RX0 15 "TrackBox$Layout" "sizes" "[I" ∈ lw_tbl := List.mem_of_getElem? (i := 77) (by decide +kernel)
theorem w_78 : Cond.fieldLink RX6 63 "TrackBox$Layout" "sizes" "[I" ∈ lw_tbl := List.mem_of_getElem? (i := 78) (by decide +kernel)
theorem w_79 : Cond.fieldLink RX0 18 "TrackBox$Layout" "letters" "[I" ∈ lw_tbl := List.mem_of_getElem? (i := 79) (by decide +kernel)
theorem w_80 : Cond.fieldLink RX6 102 "TrackBox$Layout" "letters" "[I" ∈ lw_tbl := List.mem_of_getElem? (i := 80) (by decide +kernel)
theorem w_81 : Cond.fieldLink RX0 40 "TrackBox$Layout" "pieces" "I" ∈ lw_tbl := List.mem_of_getElem? (i := 81) (by decide +kernel)
theorem w_82 : Cond.fieldLink RX6 93 "TrackBox$Layout" "pieces" "I" ∈ lw_tbl := List.mem_of_getElem? (i := 82) (by decide +kernel)
theorem w_83 : Cond.fieldLink RX0 21 "TrackBox$Layout" "sides" "[I" ∈ lw_tbl := List.mem_of_getElem? (i := 83) (by decide +kernel)
theorem w_84 : Cond.fieldLink RX6 156 "TrackBox$Layout" "sides" "[I" ∈ lw_tbl := List.mem_of_getElem? (i := 84) (by decide +kernel)
theorem w_85 : Cond.fieldLink RX0 24 "TrackBox$Layout" "legX" "[I" ∈ lw_tbl := List.mem_of_getElem? (i := 85) (by decide +kernel)
theorem w_86 : Cond.fieldLink RX6 162 "TrackBox$Layout" "legX" "[I" ∈ lw_tbl := List.mem_of_getElem? (i := 86) (by decide +kernel)
theorem w_87 : Cond.fieldLink RX0 27 "TrackBox$Layout" "legY" "[I" ∈ lw_tbl := List.mem_of_getElem? (i := 87) (by decide +kernel)
theorem w_88 : Cond.fieldLink RX6 165 "TrackBox$Layout" "legY" "[I" ∈ lw_tbl := List.mem_of_getElem? (i := 88) (by decide +kernel)
theorem w_89 : Cond.fieldLink RX0 48 "TrackBox$Layout" "legs" "I" ∈ lw_tbl := List.mem_of_getElem? (i := 89) (by decide +kernel)
theorem w_90 : Cond.fieldLink RX6 159 "TrackBox$Layout" "legs" "I" ∈ lw_tbl := List.mem_of_getElem? (i := 90) (by decide +kernel)
theorem w_115 : Cond.fieldLink RX1 9 "TrackBox$Moves" "steps" "[J" ∈ lw_tbl := List.mem_of_getElem? (i := 115) (by decide +kernel)
theorem w_126 : Cond.fieldLink RX5 22 "TrackBox$Walk" "moves" "LTrackBox$Moves;" ∈ lw_tbl := List.mem_of_getElem? (i := 126) (by decide +kernel)
theorem w_127 : Cond.fieldLink RX5 9 "TrackBox$Walk" "places" "[J" ∈ lw_tbl := List.mem_of_getElem? (i := 127) (by decide +kernel)
theorem w_128 : Cond.fieldLink RX6 114 "TrackBox$Walk" "places" "[J" ∈ lw_tbl := List.mem_of_getElem? (i := 128) (by decide +kernel)
theorem w_129 : Cond.fieldLink RX0 77 "TrackBox$Walk" "places" "[J" ∈ lw_tbl := List.mem_of_getElem? (i := 129) (by decide +kernel)
theorem w_130 : Cond.fieldLink RX5 15 "TrackBox$Walk" "directions" "[I" ∈ lw_tbl := List.mem_of_getElem? (i := 130) (by decide +kernel)
theorem w_131 : Cond.fieldLink RX6 111 "TrackBox$Walk" "directions" "[I" ∈ lw_tbl := List.mem_of_getElem? (i := 131) (by decide +kernel)
theorem w_132 : Cond.fieldLink RX5 19 "TrackBox$Walk" "laid" "[I" ∈ lw_tbl := List.mem_of_getElem? (i := 132) (by decide +kernel)
theorem w_133 : Cond.fieldLink RX5 48 "TrackBox$Walk" "last" "I" ∈ lw_tbl := List.mem_of_getElem? (i := 133) (by decide +kernel)
theorem w_134 : Cond.fieldLink RX0 72 "TrackBox$Walk" "last" "I" ∈ lw_tbl := List.mem_of_getElem? (i := 134) (by decide +kernel)
theorem w_152 : Cond.fieldLink RX3 28 "TrackBox$RingSearch" "layout" "LTrackBox$Layout;" ∈ lw_tbl := List.mem_of_getElem? (i := 152) (by decide +kernel)
theorem w_153 : Cond.fieldLink RX3 32 "TrackBox$RingSearch" "moves" "LTrackBox$Moves;" ∈ lw_tbl := List.mem_of_getElem? (i := 153) (by decide +kernel)
theorem w_154 : Cond.fieldLink RX3 36 "TrackBox$RingSearch" "walk" "LTrackBox$Walk;" ∈ lw_tbl := List.mem_of_getElem? (i := 154) (by decide +kernel)
theorem w_155 : Cond.fieldLink RX3 11 "TrackBox$RingSearch" "ends" "[J" ∈ lw_tbl := List.mem_of_getElem? (i := 155) (by decide +kernel)
theorem w_156 : Cond.fieldLink RX3 15 "TrackBox$RingSearch" "nextTail" "[I" ∈ lw_tbl := List.mem_of_getElem? (i := 156) (by decide +kernel)
theorem w_157 : Cond.fieldLink RX3 19 "TrackBox$RingSearch" "firstTail" "[I" ∈ lw_tbl := List.mem_of_getElem? (i := 157) (by decide +kernel)
theorem w_158 : Cond.fieldLink RX3 40 "TrackBox$RingSearch" "gathered" "Z" ∈ lw_tbl := List.mem_of_getElem? (i := 158) (by decide +kernel)
theorem w_159 : Cond.fieldLink RX3 22 "TrackBox$RingSearch" "letters" "[I" ∈ lw_tbl := List.mem_of_getElem? (i := 159) (by decide +kernel)
theorem w_160 : Cond.fieldLink RX6 184 "TrackBox$RingSearch" "letters" "[I" ∈ lw_tbl := List.mem_of_getElem? (i := 160) (by decide +kernel)
theorem w_161 : Cond.fieldLink RX3 25 "TrackBox$RingSearch" "gains" "[I" ∈ lw_tbl := List.mem_of_getElem? (i := 161) (by decide +kernel)
theorem w_162 : Cond.fieldLink RX6 185 "TrackBox$RingSearch" "gains" "[I" ∈ lw_tbl := List.mem_of_getElem? (i := 162) (by decide +kernel)
theorem w_163 : Cond.fieldLink RX3 47 "TrackBox$RingSearch" "found" "I" ∈ lw_tbl := List.mem_of_getElem? (i := 163) (by decide +kernel)
theorem w_164 : Cond.fieldLink RX6 181 "TrackBox$RingSearch" "found" "I" ∈ lw_tbl := List.mem_of_getElem? (i := 164) (by decide +kernel)
theorem w_192 : Cond.fieldLink RX4 21 "TrackBox$Trial" "layout" "LTrackBox$Layout;" ∈ lw_tbl := List.mem_of_getElem? (i := 192) (by decide +kernel)
theorem w_193 : Cond.fieldLink RX4 25 "TrackBox$Trial" "moves" "LTrackBox$Moves;" ∈ lw_tbl := List.mem_of_getElem? (i := 193) (by decide +kernel)
theorem w_194 : Cond.fieldLink RX4 9 "TrackBox$Trial" "left" "[I" ∈ lw_tbl := List.mem_of_getElem? (i := 194) (by decide +kernel)
theorem w_195 : Cond.fieldLink RX4 15 "TrackBox$Trial" "letters" "[I" ∈ lw_tbl := List.mem_of_getElem? (i := 195) (by decide +kernel)
theorem w_196 : Cond.fieldLink RX4 18 "TrackBox$Trial" "best" "[I" ∈ lw_tbl := List.mem_of_getElem? (i := 196) (by decide +kernel)
theorem w_197 : Cond.fieldLink RX6 192 "TrackBox$Trial" "best" "[I" ∈ lw_tbl := List.mem_of_getElem? (i := 197) (by decide +kernel)
theorem w_198 : Cond.fieldLink RX4 38 "TrackBox$Trial" "found" "Z" ∈ lw_tbl := List.mem_of_getElem? (i := 198) (by decide +kernel)
theorem w_199 : Cond.fieldLink RX4 92 "TrackBox$Trial" "bestWhole" "J" ∈ lw_tbl := List.mem_of_getElem? (i := 199) (by decide +kernel)
theorem w_200 : Cond.fieldLink RX4 96 "TrackBox$Trial" "bestRoot" "J" ∈ lw_tbl := List.mem_of_getElem? (i := 200) (by decide +kernel)
theorem w_218 : Cond.methodLink RX6 66 yX1_measure ∈ lw_tbl := List.mem_of_getElem? (i := 218) (by decide +kernel)
theorem w_219 : Cond.instanceMethod yX1_measure ∈ lw_tbl := List.mem_of_getElem? (i := 219) (by decide +kernel)
theorem w_220 : Cond.selects RX1 yX1_measure yX1_measure ∈ lw_tbl := List.mem_of_getElem? (i := 220) (by decide +kernel)
theorem w_221 : Cond.code yX1_measure cX1_measure 3 none ∈ lw_tbl := List.mem_of_getElem? (i := 221) (by decide +kernel)
theorem w_222 : Cond.fieldLinkNest RX1 19 "TrackBox" "TURN_OF" "[I" RX6 ∈ lw_tbl := List.mem_of_getElem? (i := 222) (by decide +kernel)
theorem w_224 : Cond.methodLinkNest RX1 23 yX6_at RX6 ∈ lw_tbl := List.mem_of_getElem? (i := 224) (by decide +kernel)
theorem w_225 : Cond.fieldLinkNest RX1 27 "TrackBox" "KIND_OF" "[I" RX6 ∈ lw_tbl := List.mem_of_getElem? (i := 225) (by decide +kernel)
theorem w_227 : Cond.methodLink RX1 30 yX1_measureLetter ∈ lw_tbl := List.mem_of_getElem? (i := 227) (by decide +kernel)
theorem w_229 : Cond.instanceMethod yX1_measureLetter ∈ lw_tbl := List.mem_of_getElem? (i := 229) (by decide +kernel)
theorem w_230 : Cond.code yX1_measureLetter cX1_measureLetter 15 none ∈ lw_tbl := List.mem_of_getElem? (i := 230) (by decide +kernel)
theorem w_231 : Cond.methodLink RX1 34 yJ6_compare_7cf53 ∈ lw_tbl := List.mem_of_getElem? (i := 231) (by decide +kernel)
theorem w_232 : Cond.static yJ6_compare_7cf53 ∈ lw_tbl := List.mem_of_getElem? (i := 232) (by decide +kernel)
theorem w_233 : Cond.code yJ6_compare_7cf53 cJ6_compare_7cf53 2 (some .int) ∈ lw_tbl := List.mem_of_getElem? (i := 233) (by decide +kernel)
theorem w_234 : Cond.methodLink RX1 40 yX2_place ∈ lw_tbl := List.mem_of_getElem? (i := 234) (by decide +kernel)
theorem w_235 : Cond.static yX2_place ∈ lw_tbl := List.mem_of_getElem? (i := 235) (by decide +kernel)
theorem w_236 : Cond.code yX2_place cX2_place 8 (some .long) ∈ lw_tbl := List.mem_of_getElem? (i := 236) (by decide +kernel)
theorem w_237 : Cond.methodLinkNest RX1 46 yX6_putPlace RX6 ∈ lw_tbl := List.mem_of_getElem? (i := 237) (by decide +kernel)
theorem w_238 : Cond.static yX6_putPlace ∈ lw_tbl := List.mem_of_getElem? (i := 238) (by decide +kernel)
theorem w_239 : Cond.code yX6_putPlace cX6_putPlace 4 none ∈ lw_tbl := List.mem_of_getElem? (i := 239) (by decide +kernel)
theorem w_240 : Cond.fieldLink RX6 10 "TrackBox" "now" "LTrackBox$Layout;" ∈ lw_tbl := List.mem_of_getElem? (i := 240) (by decide +kernel)
theorem w_241 : Cond.fieldLink RX6 16 "TrackBox" "then" "LTrackBox$Layout;" ∈ lw_tbl := List.mem_of_getElem? (i := 241) (by decide +kernel)
theorem w_242 : Cond.fieldLink RX6 205 "TrackBox" "taken" "Z" ∈ lw_tbl := List.mem_of_getElem? (i := 242) (by decide +kernel)
theorem w_243 : Cond.fieldLink RX6 22 "TrackBox" "moves" "LTrackBox$Moves;" ∈ lw_tbl := List.mem_of_getElem? (i := 243) (by decide +kernel)
theorem w_244 : Cond.fieldLink RX6 31 "TrackBox" "walk" "LTrackBox$Walk;" ∈ lw_tbl := List.mem_of_getElem? (i := 244) (by decide +kernel)
theorem w_245 : Cond.fieldLink RX6 40 "TrackBox" "search" "LTrackBox$RingSearch;" ∈ lw_tbl := List.mem_of_getElem? (i := 245) (by decide +kernel)
theorem w_246 : Cond.fieldLink RX6 49 "TrackBox" "trial" "LTrackBox$Trial;" ∈ lw_tbl := List.mem_of_getElem? (i := 246) (by decide +kernel)
theorem w_247 : Cond.fieldLink RX6 53 "TrackBox" "tape" "[I" ∈ lw_tbl := List.mem_of_getElem? (i := 247) (by decide +kernel)
theorem w_248 : Cond.fieldLink RX6 74 "TrackBox" "fed" "I" ∈ lw_tbl := List.mem_of_getElem? (i := 248) (by decide +kernel)
theorem w_249 : Cond.fieldLink RX6 57 "TrackBox" "turns" "[I" ∈ lw_tbl := List.mem_of_getElem? (i := 249) (by decide +kernel)
theorem w_250 : Cond.fieldLink RX6 195 "TrackBox" "turnsTold" "I" ∈ lw_tbl := List.mem_of_getElem? (i := 250) (by decide +kernel)
theorem w_251 : Cond.fieldLink RX6 60 "TrackBox" "refused" "[I" ∈ lw_tbl := List.mem_of_getElem? (i := 251) (by decide +kernel)
theorem w_281 : Cond.methodLink RX6 70 yX6_refuse ∈ lw_tbl := List.mem_of_getElem? (i := 281) (by decide +kernel)
theorem w_283 : Cond.instanceMethod yX6_refuse ∈ lw_tbl := List.mem_of_getElem? (i := 283) (by decide +kernel)
theorem w_284 : Cond.code yX6_refuse cX6_refuse 2 (some .int) ∈ lw_tbl := List.mem_of_getElem? (i := 284) (by decide +kernel)
theorem w_285 : Cond.methodLink RX6 78 yX6_put ∈ lw_tbl := List.mem_of_getElem? (i := 285) (by decide +kernel)
theorem w_286 : Cond.static yX6_put ∈ lw_tbl := List.mem_of_getElem? (i := 286) (by decide +kernel)
theorem w_287 : Cond.code yX6_put cX6_put 3 none ∈ lw_tbl := List.mem_of_getElem? (i := 287) (by decide +kernel)
theorem w_292 : Cond.methodLink RX6 86 yX6_letterOf ∈ lw_tbl := List.mem_of_getElem? (i := 292) (by decide +kernel)
theorem w_293 : Cond.static yX6_letterOf ∈ lw_tbl := List.mem_of_getElem? (i := 293) (by decide +kernel)
theorem w_294 : Cond.code yX6_letterOf cX6_letterOf 2 (some .int) ∈ lw_tbl := List.mem_of_getElem? (i := 294) (by decide +kernel)
theorem w_295 : Cond.fieldLink RX6 215 "TrackBox" "SIGNS" "[I" ∈ lw_tbl := List.mem_of_getElem? (i := 295) (by decide +kernel)
theorem w_297 : Cond.methodLink RX6 89 yX0_becomes ∈ lw_tbl := List.mem_of_getElem? (i := 297) (by decide +kernel)
theorem w_298 : Cond.instanceMethod yX0_becomes ∈ lw_tbl := List.mem_of_getElem? (i := 298) (by decide +kernel)
theorem w_299 : Cond.selects RX0 yX0_becomes yX0_becomes ∈ lw_tbl := List.mem_of_getElem? (i := 299) (by decide +kernel)
theorem w_300 : Cond.code yX0_becomes cX0_becomes 4 none ∈ lw_tbl := List.mem_of_getElem? (i := 300) (by decide +kernel)
theorem w_301 : Cond.methodLinkNest RX0 51 yX6_at RX6 ∈ lw_tbl := List.mem_of_getElem? (i := 301) (by decide +kernel)
theorem w_302 : Cond.methodLinkNest RX0 55 yX6_put RX6 ∈ lw_tbl := List.mem_of_getElem? (i := 302) (by decide +kernel)
theorem w_311 : Cond.methodLink RX6 99 yX6_measureAnew ∈ lw_tbl := List.mem_of_getElem? (i := 311) (by decide +kernel)
theorem w_313 : Cond.instanceMethod yX6_measureAnew ∈ lw_tbl := List.mem_of_getElem? (i := 313) (by decide +kernel)
theorem w_314 : Cond.code yX6_measureAnew cX6_measureAnew 1 none ∈ lw_tbl := List.mem_of_getElem? (i := 314) (by decide +kernel)
theorem w_315 : Cond.methodLink RX6 212 yX3_forget ∈ lw_tbl := List.mem_of_getElem? (i := 315) (by decide +kernel)
theorem w_316 : Cond.instanceMethod yX3_forget ∈ lw_tbl := List.mem_of_getElem? (i := 316) (by decide +kernel)
theorem w_317 : Cond.selects RX3 yX3_forget yX3_forget ∈ lw_tbl := List.mem_of_getElem? (i := 317) (by decide +kernel)
theorem w_318 : Cond.code yX3_forget cX3_forget 1 none ∈ lw_tbl := List.mem_of_getElem? (i := 318) (by decide +kernel)
theorem w_327 : Cond.methodLink RX6 105 yX6_refuseFar ∈ lw_tbl := List.mem_of_getElem? (i := 327) (by decide +kernel)
theorem w_329 : Cond.instanceMethod yX6_refuseFar ∈ lw_tbl := List.mem_of_getElem? (i := 329) (by decide +kernel)
theorem w_330 : Cond.code yX6_refuseFar cX6_refuseFar 2 (some .int) ∈ lw_tbl := List.mem_of_getElem? (i := 330) (by decide +kernel)
theorem w_331 : Cond.constant RX6 176 (1000000000) ∈ lw_tbl := List.mem_of_getElem? (i := 331) (by decide +kernel)
theorem w_332 : Cond.methodLink RX6 108 yX5_follow ∈ lw_tbl := List.mem_of_getElem? (i := 332) (by decide +kernel)
theorem w_333 : Cond.instanceMethod yX5_follow ∈ lw_tbl := List.mem_of_getElem? (i := 333) (by decide +kernel)
theorem w_334 : Cond.selects RX5 yX5_follow yX5_follow ∈ lw_tbl := List.mem_of_getElem? (i := 334) (by decide +kernel)
theorem w_335 : Cond.code yX5_follow cX5_follow 8 none ∈ lw_tbl := List.mem_of_getElem? (i := 335) (by decide +kernel)
theorem w_336 : Cond.methodLinkNest RX5 26 yX6_at RX6 ∈ lw_tbl := List.mem_of_getElem? (i := 336) (by decide +kernel)
theorem w_337 : Cond.methodLink RX5 30 yX1_step ∈ lw_tbl := List.mem_of_getElem? (i := 337) (by decide +kernel)
theorem w_338 : Cond.instanceMethod yX1_step ∈ lw_tbl := List.mem_of_getElem? (i := 338) (by decide +kernel)
theorem w_339 : Cond.selects RX1 yX1_step yX1_step ∈ lw_tbl := List.mem_of_getElem? (i := 339) (by decide +kernel)
theorem w_340 : Cond.code yX1_step cX1_step 3 (some .long) ∈ lw_tbl := List.mem_of_getElem? (i := 340) (by decide +kernel)
theorem w_341 : Cond.methodLinkNest RX1 15 yX6_placeAt RX6 ∈ lw_tbl := List.mem_of_getElem? (i := 341) (by decide +kernel)
theorem w_342 : Cond.static yX6_placeAt ∈ lw_tbl := List.mem_of_getElem? (i := 342) (by decide +kernel)
theorem w_343 : Cond.code yX6_placeAt cX6_placeAt 2 (some .long) ∈ lw_tbl := List.mem_of_getElem? (i := 343) (by decide +kernel)
theorem w_344 : Cond.methodLink RX5 36 yX1_turned ∈ lw_tbl := List.mem_of_getElem? (i := 344) (by decide +kernel)
theorem w_345 : Cond.static yX1_turned ∈ lw_tbl := List.mem_of_getElem? (i := 345) (by decide +kernel)
theorem w_346 : Cond.code yX1_turned cX1_turned 2 (some .int) ∈ lw_tbl := List.mem_of_getElem? (i := 346) (by decide +kernel)
theorem w_347 : Cond.methodLinkNest RX5 40 yX6_put RX6 ∈ lw_tbl := List.mem_of_getElem? (i := 347) (by decide +kernel)
theorem w_348 : Cond.methodLinkNest RX5 44 yX6_putPlace RX6 ∈ lw_tbl := List.mem_of_getElem? (i := 348) (by decide +kernel)
theorem w_349 : Cond.methodLink RX6 118 yX6_placeAt ∈ lw_tbl := List.mem_of_getElem? (i := 349) (by decide +kernel)
theorem w_350 : Cond.methodLink RX6 122 yX2_part ∈ lw_tbl := List.mem_of_getElem? (i := 350) (by decide +kernel)
theorem w_351 : Cond.static yX2_part ∈ lw_tbl := List.mem_of_getElem? (i := 351) (by decide +kernel)
theorem w_352 : Cond.code yX2_part cX2_part 6 (some .int) ∈ lw_tbl := List.mem_of_getElem? (i := 352) (by decide +kernel)
theorem w_357 : Cond.methodLink RX6 128 yX5_isClosed ∈ lw_tbl := List.mem_of_getElem? (i := 357) (by decide +kernel)
theorem w_358 : Cond.instanceMethod yX5_isClosed ∈ lw_tbl := List.mem_of_getElem? (i := 358) (by decide +kernel)
theorem w_359 : Cond.selects RX5 yX5_isClosed yX5_isClosed ∈ lw_tbl := List.mem_of_getElem? (i := 359) (by decide +kernel)
theorem w_360 : Cond.code yX5_isClosed cX5_isClosed 1 (some .boolean) ∈ lw_tbl := List.mem_of_getElem? (i := 360) (by decide +kernel)
theorem w_361 : Cond.methodLink RX5 56 yX5_end ∈ lw_tbl := List.mem_of_getElem? (i := 361) (by decide +kernel)
theorem w_362 : Cond.instanceMethod yX5_end ∈ lw_tbl := List.mem_of_getElem? (i := 362) (by decide +kernel)
theorem w_363 : Cond.selects RX5 yX5_end yX5_end ∈ lw_tbl := List.mem_of_getElem? (i := 363) (by decide +kernel)
theorem w_364 : Cond.code yX5_end cX5_end 1 (some .long) ∈ lw_tbl := List.mem_of_getElem? (i := 364) (by decide +kernel)
theorem w_365 : Cond.methodLinkNest RX5 52 yX6_placeAt RX6 ∈ lw_tbl := List.mem_of_getElem? (i := 365) (by decide +kernel)
theorem w_366 : Cond.methodLink RX6 132 yX6_yes ∈ lw_tbl := List.mem_of_getElem? (i := 366) (by decide +kernel)
theorem w_367 : Cond.static yX6_yes ∈ lw_tbl := List.mem_of_getElem? (i := 367) (by decide +kernel)
theorem w_368 : Cond.code yX6_yes cX6_yes 1 (some .int) ∈ lw_tbl := List.mem_of_getElem? (i := 368) (by decide +kernel)
theorem w_373 : Cond.methodLink RX6 136 yX0_lacking ∈ lw_tbl := List.mem_of_getElem? (i := 373) (by decide +kernel)
theorem w_374 : Cond.instanceMethod yX0_lacking ∈ lw_tbl := List.mem_of_getElem? (i := 374) (by decide +kernel)
theorem w_375 : Cond.selects RX0 yX0_lacking yX0_lacking ∈ lw_tbl := List.mem_of_getElem? (i := 375) (by decide +kernel)
theorem w_376 : Cond.code yX0_lacking cX0_lacking 5 (some .int) ∈ lw_tbl := List.mem_of_getElem? (i := 376) (by decide +kernel)
theorem w_377 : Cond.methodLink RX0 62 yX0_taken ∈ lw_tbl := List.mem_of_getElem? (i := 377) (by decide +kernel)
theorem w_378 : Cond.static yX0_taken ∈ lw_tbl := List.mem_of_getElem? (i := 378) (by decide +kernel)
theorem w_379 : Cond.code yX0_taken cX0_taken 5 (some .int) ∈ lw_tbl := List.mem_of_getElem? (i := 379) (by decide +kernel)
theorem w_380 : Cond.fieldLinkNest RX0 59 "TrackBox" "KIND_OF" "[I" RX6 ∈ lw_tbl := List.mem_of_getElem? (i := 380) (by decide +kernel)
theorem w_381 : Cond.methodLink RX0 66 Lib.Math.max.name ∈ lw_tbl := List.mem_of_getElem? (i := 381) (by decide +kernel)
theorem w_382 : Cond.static Lib.Math.max.name ∈ lw_tbl := List.mem_of_getElem? (i := 382) (by decide +kernel)
theorem w_383 : Cond.code Lib.Math.max.name Lib.Math.max.code 2 (some .int) ∈ lw_tbl := List.mem_of_getElem? (i := 383) (by decide +kernel)
theorem w_388 : Cond.constant RX6 139 (-1000000) ∈ lw_tbl := List.mem_of_getElem? (i := 388) (by decide +kernel)
theorem w_389 : Cond.constant RX6 140 (1000000) ∈ lw_tbl := List.mem_of_getElem? (i := 389) (by decide +kernel)
theorem w_390 : Cond.methodLink RX6 141 yX2_signOf ∈ lw_tbl := List.mem_of_getElem? (i := 390) (by decide +kernel)
theorem w_391 : Cond.static yX2_signOf ∈ lw_tbl := List.mem_of_getElem? (i := 391) (by decide +kernel)
theorem w_392 : Cond.code yX2_signOf cX2_signOf 5 (some .int) ∈ lw_tbl := List.mem_of_getElem? (i := 392) (by decide +kernel)
theorem w_393 : Cond.constantLong RX2 7 (2) ∈ lw_tbl := List.mem_of_getElem? (i := 393) (by decide +kernel)
theorem w_398 : Cond.methodLink RX6 145 yX5_end ∈ lw_tbl := List.mem_of_getElem? (i := 398) (by decide +kernel)
theorem w_399 : Cond.methodLink RX6 149 yX2_squareWhole ∈ lw_tbl := List.mem_of_getElem? (i := 399) (by decide +kernel)
theorem w_400 : Cond.static yX2_squareWhole ∈ lw_tbl := List.mem_of_getElem? (i := 400) (by decide +kernel)
theorem w_401 : Cond.code yX2_squareWhole cX2_squareWhole 10 (some .long) ∈ lw_tbl := List.mem_of_getElem? (i := 401) (by decide +kernel)
theorem w_402 : Cond.methodLink RX2 9 yX2_part ∈ lw_tbl := List.mem_of_getElem? (i := 402) (by decide +kernel)
theorem w_403 : Cond.methodLink RX6 153 yX2_squareRoot ∈ lw_tbl := List.mem_of_getElem? (i := 403) (by decide +kernel)
theorem w_404 : Cond.static yX2_squareRoot ∈ lw_tbl := List.mem_of_getElem? (i := 404) (by decide +kernel)
theorem w_405 : Cond.code yX2_squareRoot cX2_squareRoot 6 (some .long) ∈ lw_tbl := List.mem_of_getElem? (i := 405) (by decide +kernel)
theorem w_422 : Cond.methodLink RX6 168 yX0_firstOff ∈ lw_tbl := List.mem_of_getElem? (i := 422) (by decide +kernel)
theorem w_423 : Cond.instanceMethod yX0_firstOff ∈ lw_tbl := List.mem_of_getElem? (i := 423) (by decide +kernel)
theorem w_424 : Cond.selects RX0 yX0_firstOff yX0_firstOff ∈ lw_tbl := List.mem_of_getElem? (i := 424) (by decide +kernel)
theorem w_425 : Cond.code yX0_firstOff cX0_firstOff 5 (some .int) ∈ lw_tbl := List.mem_of_getElem? (i := 425) (by decide +kernel)
theorem w_426 : Cond.methodLinkNest RX0 81 yX6_placeAt RX6 ∈ lw_tbl := List.mem_of_getElem? (i := 426) (by decide +kernel)
theorem w_427 : Cond.methodLink RX0 85 yX0_isOnTable ∈ lw_tbl := List.mem_of_getElem? (i := 427) (by decide +kernel)
theorem w_429 : Cond.instanceMethod yX0_isOnTable ∈ lw_tbl := List.mem_of_getElem? (i := 429) (by decide +kernel)
theorem w_430 : Cond.code yX0_isOnTable cX0_isOnTable 7 (some .boolean) ∈ lw_tbl := List.mem_of_getElem? (i := 430) (by decide +kernel)
theorem w_431 : Cond.methodLink RX0 92 yX2_part ∈ lw_tbl := List.mem_of_getElem? (i := 431) (by decide +kernel)
theorem w_432 : Cond.methodLink RX0 98 yX2_signOf ∈ lw_tbl := List.mem_of_getElem? (i := 432) (by decide +kernel)
theorem w_433 : Cond.methodLink RX0 89 yX0_isAtLeg ∈ lw_tbl := List.mem_of_getElem? (i := 433) (by decide +kernel)
theorem w_435 : Cond.instanceMethod yX0_isAtLeg ∈ lw_tbl := List.mem_of_getElem? (i := 435) (by decide +kernel)
theorem w_436 : Cond.code yX0_isAtLeg cX0_isAtLeg 4 (some .boolean) ∈ lw_tbl := List.mem_of_getElem? (i := 436) (by decide +kernel)
theorem w_437 : Cond.methodLink RX0 102 yX2_place ∈ lw_tbl := List.mem_of_getElem? (i := 437) (by decide +kernel)
theorem w_442 : Cond.methodLink RX6 172 yX5_firstTouch ∈ lw_tbl := List.mem_of_getElem? (i := 442) (by decide +kernel)
theorem w_443 : Cond.instanceMethod yX5_firstTouch ∈ lw_tbl := List.mem_of_getElem? (i := 443) (by decide +kernel)
theorem w_444 : Cond.selects RX5 yX5_firstTouch yX5_firstTouch ∈ lw_tbl := List.mem_of_getElem? (i := 444) (by decide +kernel)
theorem w_445 : Cond.code yX5_firstTouch cX5_firstTouch 6 (some .int) ∈ lw_tbl := List.mem_of_getElem? (i := 445) (by decide +kernel)
theorem w_446 : Cond.methodLink RX5 60 yX5_isClosed ∈ lw_tbl := List.mem_of_getElem? (i := 446) (by decide +kernel)
theorem w_447 : Cond.methodLink RX5 64 yX5_areCrossings ∈ lw_tbl := List.mem_of_getElem? (i := 447) (by decide +kernel)
theorem w_449 : Cond.instanceMethod yX5_areCrossings ∈ lw_tbl := List.mem_of_getElem? (i := 449) (by decide +kernel)
theorem w_450 : Cond.code yX5_areCrossings cX5_areCrossings 3 (some .boolean) ∈ lw_tbl := List.mem_of_getElem? (i := 450) (by decide +kernel)
theorem w_459 : Cond.methodLink RX6 177 yX3_through ∈ lw_tbl := List.mem_of_getElem? (i := 459) (by decide +kernel)
theorem w_460 : Cond.instanceMethod yX3_through ∈ lw_tbl := List.mem_of_getElem? (i := 460) (by decide +kernel)
theorem w_461 : Cond.selects RX3 yX3_through yX3_through ∈ lw_tbl := List.mem_of_getElem? (i := 461) (by decide +kernel)
theorem w_462 : Cond.code yX3_through cX3_through 7 none ∈ lw_tbl := List.mem_of_getElem? (i := 462) (by decide +kernel)
theorem w_463 : Cond.methodLink RX3 44 yX3_gather ∈ lw_tbl := List.mem_of_getElem? (i := 463) (by decide +kernel)
theorem w_465 : Cond.instanceMethod yX3_gather ∈ lw_tbl := List.mem_of_getElem? (i := 465) (by decide +kernel)
theorem w_466 : Cond.code yX3_gather cX3_gather 6 none ∈ lw_tbl := List.mem_of_getElem? (i := 466) (by decide +kernel)
theorem w_467 : Cond.methodLink RX3 51 yJ7_fill_53178 ∈ lw_tbl := List.mem_of_getElem? (i := 467) (by decide +kernel)
theorem w_468 : Cond.static yJ7_fill_53178 ∈ lw_tbl := List.mem_of_getElem? (i := 468) (by decide +kernel)
theorem w_469 : Cond.code yJ7_fill_53178 cJ7_fill_53178 4 none ∈ lw_tbl := List.mem_of_getElem? (i := 469) (by decide +kernel)
theorem w_470 : Cond.fieldLinkNest RX3 121 "TrackBox" "MIRROR_OF" "[I" RX6 ∈ lw_tbl := List.mem_of_getElem? (i := 470) (by decide +kernel)
theorem w_472 : Cond.methodLinkNest RX3 81 yX6_at RX6 ∈ lw_tbl := List.mem_of_getElem? (i := 472) (by decide +kernel)
theorem w_473 : Cond.methodLinkNest RX3 114 yX6_put RX6 ∈ lw_tbl := List.mem_of_getElem? (i := 473) (by decide +kernel)
theorem w_474 : Cond.methodLink RX3 73 yX3_endOf ∈ lw_tbl := List.mem_of_getElem? (i := 474) (by decide +kernel)
theorem w_476 : Cond.instanceMethod yX3_endOf ∈ lw_tbl := List.mem_of_getElem? (i := 476) (by decide +kernel)
theorem w_477 : Cond.code yX3_endOf cX3_endOf 8 (some .long) ∈ lw_tbl := List.mem_of_getElem? (i := 477) (by decide +kernel)
theorem w_478 : Cond.methodLink RX3 132 yX1_step ∈ lw_tbl := List.mem_of_getElem? (i := 478) (by decide +kernel)
theorem w_479 : Cond.methodLink RX3 137 yX1_turned ∈ lw_tbl := List.mem_of_getElem? (i := 479) (by decide +kernel)
theorem w_480 : Cond.constantLong RX3 141 (8) ∈ lw_tbl := List.mem_of_getElem? (i := 480) (by decide +kernel)
theorem w_481 : Cond.methodLink RX3 77 yX3_slotOf ∈ lw_tbl := List.mem_of_getElem? (i := 481) (by decide +kernel)
theorem w_482 : Cond.static yX3_slotOf ∈ lw_tbl := List.mem_of_getElem? (i := 482) (by decide +kernel)
theorem w_483 : Cond.code yX3_slotOf cX3_slotOf 4 (some .int) ∈ lw_tbl := List.mem_of_getElem? (i := 483) (by decide +kernel)
theorem w_484 : Cond.constantLong RX3 143 (2654435761) ∈ lw_tbl := List.mem_of_getElem? (i := 484) (by decide +kernel)
theorem w_485 : Cond.methodLinkNest RX3 128 yX6_putPlace RX6 ∈ lw_tbl := List.mem_of_getElem? (i := 485) (by decide +kernel)
theorem w_486 : Cond.methodLink RX3 57 yX3_layAt ∈ lw_tbl := List.mem_of_getElem? (i := 486) (by decide +kernel)
theorem w_488 : Cond.instanceMethod yX3_layAt ∈ lw_tbl := List.mem_of_getElem? (i := 488) (by decide +kernel)
theorem w_489 : Cond.code yX3_layAt cX3_layAt 6 none ∈ lw_tbl := List.mem_of_getElem? (i := 489) (by decide +kernel)
theorem w_490 : Cond.methodLink RX3 61 yX3_isFirstSoFar ∈ lw_tbl := List.mem_of_getElem? (i := 490) (by decide +kernel)
theorem w_492 : Cond.instanceMethod yX3_isFirstSoFar ∈ lw_tbl := List.mem_of_getElem? (i := 492) (by decide +kernel)
theorem w_493 : Cond.code yX3_isFirstSoFar cX3_isFirstSoFar 5 (some .boolean) ∈ lw_tbl := List.mem_of_getElem? (i := 493) (by decide +kernel)
theorem w_494 : Cond.methodLink RX3 65 yX3_lacks ∈ lw_tbl := List.mem_of_getElem? (i := 494) (by decide +kernel)
theorem w_496 : Cond.instanceMethod yX3_lacks ∈ lw_tbl := List.mem_of_getElem? (i := 496) (by decide +kernel)
theorem w_497 : Cond.code yX3_lacks cX3_lacks 4 (some .int) ∈ lw_tbl := List.mem_of_getElem? (i := 497) (by decide +kernel)
theorem w_498 : Cond.methodLink RX3 118 yX0_lacking ∈ lw_tbl := List.mem_of_getElem? (i := 498) (by decide +kernel)
theorem w_499 : Cond.methodLink RX3 69 yX3_throughTails ∈ lw_tbl := List.mem_of_getElem? (i := 499) (by decide +kernel)
theorem w_501 : Cond.instanceMethod yX3_throughTails ∈ lw_tbl := List.mem_of_getElem? (i := 501) (by decide +kernel)
theorem w_502 : Cond.code yX3_throughTails cX3_throughTails 10 none ∈ lw_tbl := List.mem_of_getElem? (i := 502) (by decide +kernel)
theorem w_503 : Cond.methodLinkNest RX3 85 yX6_placeAt RX6 ∈ lw_tbl := List.mem_of_getElem? (i := 503) (by decide +kernel)
theorem w_504 : Cond.methodLink RX3 89 yX3_countRing ∈ lw_tbl := List.mem_of_getElem? (i := 504) (by decide +kernel)
theorem w_506 : Cond.instanceMethod yX3_countRing ∈ lw_tbl := List.mem_of_getElem? (i := 506) (by decide +kernel)
theorem w_507 : Cond.code yX3_countRing cX3_countRing 5 none ∈ lw_tbl := List.mem_of_getElem? (i := 507) (by decide +kernel)
theorem w_508 : Cond.methodLink RX3 93 yX3_standsForAll ∈ lw_tbl := List.mem_of_getElem? (i := 508) (by decide +kernel)
theorem w_510 : Cond.instanceMethod yX3_standsForAll ∈ lw_tbl := List.mem_of_getElem? (i := 510) (by decide +kernel)
theorem w_511 : Cond.code yX3_standsForAll cX3_standsForAll 3 (some .boolean) ∈ lw_tbl := List.mem_of_getElem? (i := 511) (by decide +kernel)
theorem w_512 : Cond.methodLink RX3 124 yX3_isBefore ∈ lw_tbl := List.mem_of_getElem? (i := 512) (by decide +kernel)
theorem w_514 : Cond.instanceMethod yX3_isBefore ∈ lw_tbl := List.mem_of_getElem? (i := 514) (by decide +kernel)
theorem w_515 : Cond.code yX3_isBefore cX3_isBefore 9 (some .boolean) ∈ lw_tbl := List.mem_of_getElem? (i := 515) (by decide +kernel)
theorem w_516 : Cond.methodLink RX3 96 yX5_follow ∈ lw_tbl := List.mem_of_getElem? (i := 516) (by decide +kernel)
theorem w_517 : Cond.methodLink RX3 101 yX0_firstOff ∈ lw_tbl := List.mem_of_getElem? (i := 517) (by decide +kernel)
theorem w_518 : Cond.methodLink RX3 107 yX5_firstTouch ∈ lw_tbl := List.mem_of_getElem? (i := 518) (by decide +kernel)
theorem w_519 : Cond.methodLink RX3 111 yX0_lackedKind ∈ lw_tbl := List.mem_of_getElem? (i := 519) (by decide +kernel)
theorem w_520 : Cond.instanceMethod yX0_lackedKind ∈ lw_tbl := List.mem_of_getElem? (i := 520) (by decide +kernel)
theorem w_521 : Cond.selects RX0 yX0_lackedKind yX0_lackedKind ∈ lw_tbl := List.mem_of_getElem? (i := 521) (by decide +kernel)
theorem w_522 : Cond.code yX0_lackedKind cX0_lackedKind 4 (some .int) ∈ lw_tbl := List.mem_of_getElem? (i := 522) (by decide +kernel)
theorem w_539 : Cond.methodLink RX6 188 yX4_findsNearest ∈ lw_tbl := List.mem_of_getElem? (i := 539) (by decide +kernel)
theorem w_540 : Cond.instanceMethod yX4_findsNearest ∈ lw_tbl := List.mem_of_getElem? (i := 540) (by decide +kernel)
theorem w_541 : Cond.selects RX4 yX4_findsNearest yX4_findsNearest ∈ lw_tbl := List.mem_of_getElem? (i := 541) (by decide +kernel)
theorem w_542 : Cond.code yX4_findsNearest cX4_findsNearest 2 (some .boolean) ∈ lw_tbl := List.mem_of_getElem? (i := 542) (by decide +kernel)
theorem w_543 : Cond.methodLinkNest RX4 34 yX6_copyAll RX6 ∈ lw_tbl := List.mem_of_getElem? (i := 543) (by decide +kernel)
theorem w_544 : Cond.methodLink RX4 42 Lib.Math.min.name ∈ lw_tbl := List.mem_of_getElem? (i := 544) (by decide +kernel)
theorem w_545 : Cond.static Lib.Math.min.name ∈ lw_tbl := List.mem_of_getElem? (i := 545) (by decide +kernel)
theorem w_546 : Cond.code Lib.Math.min.name Lib.Math.min.code 2 (some .int) ∈ lw_tbl := List.mem_of_getElem? (i := 546) (by decide +kernel)
theorem w_547 : Cond.methodLink RX4 48 yX4_layNear ∈ lw_tbl := List.mem_of_getElem? (i := 547) (by decide +kernel)
theorem w_548 : Cond.static yX4_layNear ∈ lw_tbl := List.mem_of_getElem? (i := 548) (by decide +kernel)
theorem w_549 : Cond.code yX4_layNear cX4_layNear 14 none ∈ lw_tbl := List.mem_of_getElem? (i := 549) (by decide +kernel)
theorem w_550 : Cond.fieldLinkNest RX4 60 "TrackBox" "KIND_OF" "[I" RX6 ∈ lw_tbl := List.mem_of_getElem? (i := 550) (by decide +kernel)
theorem w_551 : Cond.methodLinkNest RX4 52 yX6_at RX6 ∈ lw_tbl := List.mem_of_getElem? (i := 551) (by decide +kernel)
theorem w_552 : Cond.fieldLinkNest RX4 63 "TrackBox" "TURN_OF" "[I" RX6 ∈ lw_tbl := List.mem_of_getElem? (i := 552) (by decide +kernel)
theorem w_553 : Cond.methodLink RX4 66 yX1_step ∈ lw_tbl := List.mem_of_getElem? (i := 553) (by decide +kernel)
theorem w_554 : Cond.methodLink RX4 72 yX1_turned ∈ lw_tbl := List.mem_of_getElem? (i := 554) (by decide +kernel)
theorem w_555 : Cond.methodLinkNest RX4 75 yX6_put RX6 ∈ lw_tbl := List.mem_of_getElem? (i := 555) (by decide +kernel)
theorem w_556 : Cond.methodLink RX4 79 yX4_keepIfNearer ∈ lw_tbl := List.mem_of_getElem? (i := 556) (by decide +kernel)
theorem w_558 : Cond.instanceMethod yX4_keepIfNearer ∈ lw_tbl := List.mem_of_getElem? (i := 558) (by decide +kernel)
theorem w_559 : Cond.code yX4_keepIfNearer cX4_keepIfNearer 7 none ∈ lw_tbl := List.mem_of_getElem? (i := 559) (by decide +kernel)
theorem w_560 : Cond.methodLink RX4 83 yX2_squareWhole ∈ lw_tbl := List.mem_of_getElem? (i := 560) (by decide +kernel)
theorem w_561 : Cond.methodLink RX4 89 yX2_squareRoot ∈ lw_tbl := List.mem_of_getElem? (i := 561) (by decide +kernel)
theorem w_562 : Cond.methodLink RX4 99 yX2_signOf ∈ lw_tbl := List.mem_of_getElem? (i := 562) (by decide +kernel)
theorem w_571 : Cond.methodLink RX6 198 yX4_rowsOf ∈ lw_tbl := List.mem_of_getElem? (i := 571) (by decide +kernel)
theorem w_572 : Cond.instanceMethod yX4_rowsOf ∈ lw_tbl := List.mem_of_getElem? (i := 572) (by decide +kernel)
theorem w_573 : Cond.selects RX4 yX4_rowsOf yX4_rowsOf ∈ lw_tbl := List.mem_of_getElem? (i := 573) (by decide +kernel)
theorem w_574 : Cond.code yX4_rowsOf cX4_rowsOf 5 (some .int) ∈ lw_tbl := List.mem_of_getElem? (i := 574) (by decide +kernel)
theorem w_575 : Cond.methodLink RX4 56 yX4_layTurns ∈ lw_tbl := List.mem_of_getElem? (i := 575) (by decide +kernel)
theorem w_576 : Cond.static yX4_layTurns ∈ lw_tbl := List.mem_of_getElem? (i := 576) (by decide +kernel)
theorem w_577 : Cond.code yX4_layTurns cX4_layTurns 12 (some .int) ∈ lw_tbl := List.mem_of_getElem? (i := 577) (by decide +kernel)
theorem w_582 : Cond.methodLink RX6 201 yX0_copy ∈ lw_tbl := List.mem_of_getElem? (i := 582) (by decide +kernel)
theorem w_583 : Cond.instanceMethod yX0_copy ∈ lw_tbl := List.mem_of_getElem? (i := 583) (by decide +kernel)
theorem w_584 : Cond.selects RX0 yX0_copy yX0_copy ∈ lw_tbl := List.mem_of_getElem? (i := 584) (by decide +kernel)
theorem w_585 : Cond.code yX0_copy cX0_copy 2 none ∈ lw_tbl := List.mem_of_getElem? (i := 585) (by decide +kernel)
theorem w_586 : Cond.methodLink RX0 44 yX0_becomes ∈ lw_tbl := List.mem_of_getElem? (i := 586) (by decide +kernel)
theorem w_595 : Cond.methodLink RX6 209 yX0_inBox ∈ lw_tbl := List.mem_of_getElem? (i := 595) (by decide +kernel)
theorem w_596 : Cond.instanceMethod yX0_inBox ∈ lw_tbl := List.mem_of_getElem? (i := 596) (by decide +kernel)
theorem w_597 : Cond.selects RX0 yX0_inBox yX0_inBox ∈ lw_tbl := List.mem_of_getElem? (i := 597) (by decide +kernel)
theorem w_598 : Cond.code yX0_inBox cX0_inBox 3 (some .int) ∈ lw_tbl := List.mem_of_getElem? (i := 598) (by decide +kernel)
theorem w_609 : Cond.fieldLink RX7 7 "TrackBoxModel" "refusals" "[I" ∈ lw_tbl := List.mem_of_getElem? (i := 609) (by decide +kernel)
theorem w_610 : Cond.fieldLink RX7 13 "TrackBoxModel" "s" "[I" ∈ lw_tbl := List.mem_of_getElem? (i := 610) (by decide +kernel)
theorem w_611 : Cond.fieldLink RX7 16 "TrackBoxModel" "image" "[I" ∈ lw_tbl := List.mem_of_getElem? (i := 611) (by decide +kernel)
theorem w_612 : Cond.fieldLink RX7 188 "TrackBoxModel" "isImage" "Z" ∈ lw_tbl := List.mem_of_getElem? (i := 612) (by decide +kernel)
theorem w_613 : Cond.fieldLink RX7 19 "TrackBoxModel" "tape" "[I" ∈ lw_tbl := List.mem_of_getElem? (i := 613) (by decide +kernel)
theorem w_614 : Cond.fieldLink RX7 48 "TrackBoxModel" "taped" "I" ∈ lw_tbl := List.mem_of_getElem? (i := 614) (by decide +kernel)
theorem w_615 : Cond.fieldLink RX7 22 "TrackBoxModel" "joint" "[I" ∈ lw_tbl := List.mem_of_getElem? (i := 615) (by decide +kernel)
theorem w_616 : Cond.fieldLink RX7 25 "TrackBoxModel" "tried" "[I" ∈ lw_tbl := List.mem_of_getElem? (i := 616) (by decide +kernel)
theorem w_617 : Cond.fieldLink RX7 84 "TrackBoxModel" "triedMany" "I" ∈ lw_tbl := List.mem_of_getElem? (i := 617) (by decide +kernel)
theorem w_618 : Cond.fieldLink RX7 65 "TrackBoxModel" "whole" "I" ∈ lw_tbl := List.mem_of_getElem? (i := 618) (by decide +kernel)
theorem w_619 : Cond.fieldLink RX7 68 "TrackBoxModel" "root" "I" ∈ lw_tbl := List.mem_of_getElem? (i := 619) (by decide +kernel)
theorem w_620 : Cond.fieldLink RX7 28 "TrackBoxModel" "left" "[I" ∈ lw_tbl := List.mem_of_getElem? (i := 620) (by decide +kernel)
theorem w_621 : Cond.fieldLink RX7 31 "TrackBoxModel" "turns" "[I" ∈ lw_tbl := List.mem_of_getElem? (i := 621) (by decide +kernel)
theorem w_622 : Cond.fieldLink RX7 34 "TrackBoxModel" "found" "[I" ∈ lw_tbl := List.mem_of_getElem? (i := 622) (by decide +kernel)
theorem w_623 : Cond.fieldLink RX7 37 "TrackBoxModel" "best" "[I" ∈ lw_tbl := List.mem_of_getElem? (i := 623) (by decide +kernel)
theorem w_624 : Cond.fieldLink RX7 159 "TrackBoxModel" "ringMany" "I" ∈ lw_tbl := List.mem_of_getElem? (i := 624) (by decide +kernel)
theorem w_625 : Cond.fieldLink RX7 162 "TrackBoxModel" "wanted" "I" ∈ lw_tbl := List.mem_of_getElem? (i := 625) (by decide +kernel)
theorem w_626 : Cond.fieldLink RX7 176 "TrackBoxModel" "nearFound" "I" ∈ lw_tbl := List.mem_of_getElem? (i := 626) (by decide +kernel)
theorem w_627 : Cond.fieldLink RX7 142 "TrackBoxModel" "photoMany" "I" ∈ lw_tbl := List.mem_of_getElem? (i := 627) (by decide +kernel)
theorem w_628 : Cond.fieldLink RX7 179 "TrackBoxModel" "nearWhole" "I" ∈ lw_tbl := List.mem_of_getElem? (i := 628) (by decide +kernel)
theorem w_629 : Cond.fieldLink RX7 182 "TrackBoxModel" "nearRoot" "I" ∈ lw_tbl := List.mem_of_getElem? (i := 629) (by decide +kernel)
theorem w_630 : Cond.fieldLink RX7 185 "TrackBoxModel" "turned" "I" ∈ lw_tbl := List.mem_of_getElem? (i := 630) (by decide +kernel)
theorem w_631 : Cond.fieldLink RX7 156 "TrackBoxModel" "mustLie" "Z" ∈ lw_tbl := List.mem_of_getElem? (i := 631) (by decide +kernel)
theorem w_632 : Cond.fieldLink RX7 145 "TrackBoxModel" "isFound" "Z" ∈ lw_tbl := List.mem_of_getElem? (i := 632) (by decide +kernel)
theorem w_686 : Cond.methodLink RX7 44 yX7_refuse ∈ lw_tbl := List.mem_of_getElem? (i := 686) (by decide +kernel)
theorem w_688 : Cond.instanceMethod yX7_refuse ∈ lw_tbl := List.mem_of_getElem? (i := 688) (by decide +kernel)
theorem w_689 : Cond.code yX7_refuse cX7_refuse 2 (some .int) ∈ lw_tbl := List.mem_of_getElem? (i := 689) (by decide +kernel)
theorem w_690 : Cond.constantLong RX7 52 (255) ∈ lw_tbl := List.mem_of_getElem? (i := 690) (by decide +kernel)
theorem w_695 : Cond.methodLink RX7 54 yX7_layingOf ∈ lw_tbl := List.mem_of_getElem? (i := 695) (by decide +kernel)
theorem w_696 : Cond.static yX7_layingOf ∈ lw_tbl := List.mem_of_getElem? (i := 696) (by decide +kernel)
theorem w_697 : Cond.code yX7_layingOf cX7_layingOf 1 (some .int) ∈ lw_tbl := List.mem_of_getElem? (i := 697) (by decide +kernel)
theorem w_702 : Cond.methodLink RX7 57 yX7_isIn ∈ lw_tbl := List.mem_of_getElem? (i := 702) (by decide +kernel)
theorem w_703 : Cond.static yX7_isIn ∈ lw_tbl := List.mem_of_getElem? (i := 703) (by decide +kernel)
theorem w_704 : Cond.code yX7_isIn cX7_isIn 2 (some .boolean) ∈ lw_tbl := List.mem_of_getElem? (i := 704) (by decide +kernel)
theorem w_705 : Cond.methodLink RX7 61 yX7_within ∈ lw_tbl := List.mem_of_getElem? (i := 705) (by decide +kernel)
theorem w_706 : Cond.static yX7_within ∈ lw_tbl := List.mem_of_getElem? (i := 706) (by decide +kernel)
theorem w_707 : Cond.code yX7_within cX7_within 3 (some .int) ∈ lw_tbl := List.mem_of_getElem? (i := 707) (by decide +kernel)
theorem w_720 : Cond.constant RX7 91 (1000000000) ∈ lw_tbl := List.mem_of_getElem? (i := 720) (by decide +kernel)
theorem w_721 : Cond.methodLink RX7 92 yX7_takes ∈ lw_tbl := List.mem_of_getElem? (i := 721) (by decide +kernel)
theorem w_723 : Cond.instanceMethod yX7_takes ∈ lw_tbl := List.mem_of_getElem? (i := 723) (by decide +kernel)
theorem w_724 : Cond.code yX7_takes cX7_takes 2 none ∈ lw_tbl := List.mem_of_getElem? (i := 724) (by decide +kernel)
theorem w_725 : Cond.methodLink RX7 87 yX7_lays ∈ lw_tbl := List.mem_of_getElem? (i := 725) (by decide +kernel)
theorem w_727 : Cond.instanceMethod yX7_lays ∈ lw_tbl := List.mem_of_getElem? (i := 727) (by decide +kernel)
theorem w_728 : Cond.code yX7_lays cX7_lays 8 none ∈ lw_tbl := List.mem_of_getElem? (i := 728) (by decide +kernel)
theorem w_729 : Cond.methodLink RX7 75 yX7_kindOf ∈ lw_tbl := List.mem_of_getElem? (i := 729) (by decide +kernel)
theorem w_730 : Cond.static yX7_kindOf ∈ lw_tbl := List.mem_of_getElem? (i := 730) (by decide +kernel)
theorem w_731 : Cond.code yX7_kindOf cX7_kindOf 1 (some .int) ∈ lw_tbl := List.mem_of_getElem? (i := 731) (by decide +kernel)
theorem w_732 : Cond.methodLink RX7 78 yX7_turnOf ∈ lw_tbl := List.mem_of_getElem? (i := 732) (by decide +kernel)
theorem w_733 : Cond.static yX7_turnOf ∈ lw_tbl := List.mem_of_getElem? (i := 733) (by decide +kernel)
theorem w_734 : Cond.code yX7_turnOf cX7_turnOf 1 (some .int) ∈ lw_tbl := List.mem_of_getElem? (i := 734) (by decide +kernel)
theorem w_735 : Cond.methodLink RX7 81 yX7_adds ∈ lw_tbl := List.mem_of_getElem? (i := 735) (by decide +kernel)
theorem w_737 : Cond.instanceMethod yX7_adds ∈ lw_tbl := List.mem_of_getElem? (i := 737) (by decide +kernel)
theorem w_738 : Cond.code yX7_adds cX7_adds 5 none ∈ lw_tbl := List.mem_of_getElem? (i := 738) (by decide +kernel)
theorem w_739 : Cond.methodLink RX7 71 yX7_along ∈ lw_tbl := List.mem_of_getElem? (i := 739) (by decide +kernel)
theorem w_741 : Cond.instanceMethod yX7_along ∈ lw_tbl := List.mem_of_getElem? (i := 741) (by decide +kernel)
theorem w_742 : Cond.code yX7_along cX7_along 4 none ∈ lw_tbl := List.mem_of_getElem? (i := 742) (by decide +kernel)
theorem w_747 : Cond.methodLink RX7 98 yX7_isClosed ∈ lw_tbl := List.mem_of_getElem? (i := 747) (by decide +kernel)
theorem w_749 : Cond.instanceMethod yX7_isClosed ∈ lw_tbl := List.mem_of_getElem? (i := 749) (by decide +kernel)
theorem w_750 : Cond.code yX7_isClosed cX7_isClosed 1 (some .boolean) ∈ lw_tbl := List.mem_of_getElem? (i := 750) (by decide +kernel)
theorem w_751 : Cond.methodLink RX7 95 yX7_isSame ∈ lw_tbl := List.mem_of_getElem? (i := 751) (by decide +kernel)
theorem w_753 : Cond.instanceMethod yX7_isSame ∈ lw_tbl := List.mem_of_getElem? (i := 753) (by decide +kernel)
theorem w_754 : Cond.code yX7_isSame cX7_isSame 4 (some .boolean) ∈ lw_tbl := List.mem_of_getElem? (i := 754) (by decide +kernel)
theorem w_763 : Cond.methodLink RX7 106 yX7_isPart ∈ lw_tbl := List.mem_of_getElem? (i := 763) (by decide +kernel)
theorem w_764 : Cond.static yX7_isPart ∈ lw_tbl := List.mem_of_getElem? (i := 764) (by decide +kernel)
theorem w_765 : Cond.code yX7_isPart cX7_isPart 1 (some .boolean) ∈ lw_tbl := List.mem_of_getElem? (i := 765) (by decide +kernel)
theorem w_766 : Cond.constant RX7 104 (-1000000) ∈ lw_tbl := List.mem_of_getElem? (i := 766) (by decide +kernel)
theorem w_767 : Cond.constant RX7 105 (1000000) ∈ lw_tbl := List.mem_of_getElem? (i := 767) (by decide +kernel)
theorem w_768 : Cond.methodLink RX7 110 yX7_signOf ∈ lw_tbl := List.mem_of_getElem? (i := 768) (by decide +kernel)
theorem w_769 : Cond.static yX7_signOf ∈ lw_tbl := List.mem_of_getElem? (i := 769) (by decide +kernel)
theorem w_770 : Cond.code yX7_signOf cX7_signOf 5 (some .int) ∈ lw_tbl := List.mem_of_getElem? (i := 770) (by decide +kernel)
theorem w_771 : Cond.constantLong RX7 102 (2) ∈ lw_tbl := List.mem_of_getElem? (i := 771) (by decide +kernel)
theorem w_776 : Cond.methodLink RX7 114 yX7_gapOf ∈ lw_tbl := List.mem_of_getElem? (i := 776) (by decide +kernel)
theorem w_778 : Cond.instanceMethod yX7_gapOf ∈ lw_tbl := List.mem_of_getElem? (i := 778) (by decide +kernel)
theorem w_779 : Cond.code yX7_gapOf cX7_gapOf 7 (some .int) ∈ lw_tbl := List.mem_of_getElem? (i := 779) (by decide +kernel)
theorem w_796 : Cond.methodLink RX7 123 yX7_offOf ∈ lw_tbl := List.mem_of_getElem? (i := 796) (by decide +kernel)
theorem w_798 : Cond.instanceMethod yX7_offOf ∈ lw_tbl := List.mem_of_getElem? (i := 798) (by decide +kernel)
theorem w_799 : Cond.code yX7_offOf cX7_offOf 2 (some .int) ∈ lw_tbl := List.mem_of_getElem? (i := 799) (by decide +kernel)
theorem w_800 : Cond.methodLink RX7 117 yX7_isOn ∈ lw_tbl := List.mem_of_getElem? (i := 800) (by decide +kernel)
theorem w_802 : Cond.instanceMethod yX7_isOn ∈ lw_tbl := List.mem_of_getElem? (i := 802) (by decide +kernel)
theorem w_803 : Cond.code yX7_isOn cX7_isOn 4 (some .boolean) ∈ lw_tbl := List.mem_of_getElem? (i := 803) (by decide +kernel)
theorem w_808 : Cond.methodLink RX7 127 yX7_touchOf ∈ lw_tbl := List.mem_of_getElem? (i := 808) (by decide +kernel)
theorem w_810 : Cond.instanceMethod yX7_touchOf ∈ lw_tbl := List.mem_of_getElem? (i := 810) (by decide +kernel)
theorem w_811 : Cond.code yX7_touchOf cX7_touchOf 4 (some .int) ∈ lw_tbl := List.mem_of_getElem? (i := 811) (by decide +kernel)
theorem w_812 : Cond.methodLink RX7 120 yX7_isCrossed ∈ lw_tbl := List.mem_of_getElem? (i := 812) (by decide +kernel)
theorem w_814 : Cond.instanceMethod yX7_isCrossed ∈ lw_tbl := List.mem_of_getElem? (i := 814) (by decide +kernel)
theorem w_815 : Cond.code yX7_isCrossed cX7_isCrossed 2 (some .boolean) ∈ lw_tbl := List.mem_of_getElem? (i := 815) (by decide +kernel)
theorem w_820 : Cond.methodLink RX7 130 yX7_isLying ∈ lw_tbl := List.mem_of_getElem? (i := 820) (by decide +kernel)
theorem w_822 : Cond.instanceMethod yX7_isLying ∈ lw_tbl := List.mem_of_getElem? (i := 822) (by decide +kernel)
theorem w_823 : Cond.code yX7_isLying cX7_isLying 1 (some .boolean) ∈ lw_tbl := List.mem_of_getElem? (i := 823) (by decide +kernel)
theorem w_828 : Cond.methodLink RX7 168 yX7_ringsOf ∈ lw_tbl := List.mem_of_getElem? (i := 828) (by decide +kernel)
theorem w_830 : Cond.instanceMethod yX7_ringsOf ∈ lw_tbl := List.mem_of_getElem? (i := 830) (by decide +kernel)
theorem w_831 : Cond.code yX7_ringsOf cX7_ringsOf 5 (some .int) ∈ lw_tbl := List.mem_of_getElem? (i := 831) (by decide +kernel)
theorem w_832 : Cond.methodLink RX7 165 yX7_begins ∈ lw_tbl := List.mem_of_getElem? (i := 832) (by decide +kernel)
theorem w_834 : Cond.instanceMethod yX7_begins ∈ lw_tbl := List.mem_of_getElem? (i := 834) (by decide +kernel)
theorem w_835 : Cond.code yX7_begins cX7_begins 3 none ∈ lw_tbl := List.mem_of_getElem? (i := 835) (by decide +kernel)
theorem w_836 : Cond.methodLink RX7 149 yX7_goesOn ∈ lw_tbl := List.mem_of_getElem? (i := 836) (by decide +kernel)
theorem w_838 : Cond.instanceMethod yX7_goesOn ∈ lw_tbl := List.mem_of_getElem? (i := 838) (by decide +kernel)
theorem w_839 : Cond.code yX7_goesOn cX7_goesOn 5 none ∈ lw_tbl := List.mem_of_getElem? (i := 839) (by decide +kernel)
theorem w_840 : Cond.methodLink RX7 136 yX7_rings ∈ lw_tbl := List.mem_of_getElem? (i := 840) (by decide +kernel)
theorem w_842 : Cond.instanceMethod yX7_rings ∈ lw_tbl := List.mem_of_getElem? (i := 842) (by decide +kernel)
theorem w_843 : Cond.code yX7_rings cX7_rings 2 none ∈ lw_tbl := List.mem_of_getElem? (i := 843) (by decide +kernel)
theorem w_844 : Cond.methodLink RX7 153 yX7_isFirst ∈ lw_tbl := List.mem_of_getElem? (i := 844) (by decide +kernel)
theorem w_846 : Cond.instanceMethod yX7_isFirst ∈ lw_tbl := List.mem_of_getElem? (i := 846) (by decide +kernel)
theorem w_847 : Cond.code yX7_isFirst cX7_isFirst 7 (some .boolean) ∈ lw_tbl := List.mem_of_getElem? (i := 847) (by decide +kernel)
theorem w_848 : Cond.methodLink RX7 133 yX7_mirrored ∈ lw_tbl := List.mem_of_getElem? (i := 848) (by decide +kernel)
theorem w_849 : Cond.static yX7_mirrored ∈ lw_tbl := List.mem_of_getElem? (i := 849) (by decide +kernel)
theorem w_850 : Cond.code yX7_mirrored cX7_mirrored 1 (some .int) ∈ lw_tbl := List.mem_of_getElem? (i := 850) (by decide +kernel)
theorem w_851 : Cond.methodLink RX7 139 yX7_nears ∈ lw_tbl := List.mem_of_getElem? (i := 851) (by decide +kernel)
theorem w_853 : Cond.instanceMethod yX7_nears ∈ lw_tbl := List.mem_of_getElem? (i := 853) (by decide +kernel)
theorem w_854 : Cond.code yX7_nears cX7_nears 2 none ∈ lw_tbl := List.mem_of_getElem? (i := 854) (by decide +kernel)
theorem w_859 : Cond.methodLink RX7 172 yX7_becomes ∈ lw_tbl := List.mem_of_getElem? (i := 859) (by decide +kernel)
theorem w_861 : Cond.instanceMethod yX7_becomes ∈ lw_tbl := List.mem_of_getElem? (i := 861) (by decide +kernel)
theorem w_862 : Cond.code yX7_becomes cX7_becomes 4 none ∈ lw_tbl := List.mem_of_getElem? (i := 862) (by decide +kernel)
theorem hy_J6_compare_7cf53 : yJ6_compare_7cf53.cls ≠ "java/lang/invoke/MethodHandle" ∧ yJ6_compare_7cf53.cls ≠ "java/lang/invoke/VarHandle" ∧ (parseMethodDescriptor yJ6_compare_7cf53.desc).map (fun d => d.parameters.length) = some 2 := by decide +kernel
theorem hy_J7_fill_53178 : yJ7_fill_53178.cls ≠ "java/lang/invoke/MethodHandle" ∧ yJ7_fill_53178.cls ≠ "java/lang/invoke/VarHandle" ∧ (parseMethodDescriptor yJ7_fill_53178.desc).map (fun d => d.parameters.length) = some 2 := by decide +kernel
theorem hy_X0_becomes : yX0_becomes.cls ≠ "java/lang/invoke/MethodHandle" ∧ yX0_becomes.cls ≠ "java/lang/invoke/VarHandle" ∧ (parseMethodDescriptor yX0_becomes.desc).map (fun d => d.parameters.length) = some 2 := by decide +kernel
theorem hy_X0_copy : yX0_copy.cls ≠ "java/lang/invoke/MethodHandle" ∧ yX0_copy.cls ≠ "java/lang/invoke/VarHandle" ∧ (parseMethodDescriptor yX0_copy.desc).map (fun d => d.parameters.length) = some 1 := by decide +kernel
theorem hy_X0_firstOff : yX0_firstOff.cls ≠ "java/lang/invoke/MethodHandle" ∧ yX0_firstOff.cls ≠ "java/lang/invoke/VarHandle" ∧ (parseMethodDescriptor yX0_firstOff.desc).map (fun d => d.parameters.length) = some 1 := by decide +kernel
theorem hy_X0_inBox : yX0_inBox.cls ≠ "java/lang/invoke/MethodHandle" ∧ yX0_inBox.cls ≠ "java/lang/invoke/VarHandle" ∧ (parseMethodDescriptor yX0_inBox.desc).map (fun d => d.parameters.length) = some 0 := by decide +kernel
theorem hy_X0_isAtLeg : yX0_isAtLeg.cls ≠ "java/lang/invoke/MethodHandle" ∧ yX0_isAtLeg.cls ≠ "java/lang/invoke/VarHandle" ∧ (parseMethodDescriptor yX0_isAtLeg.desc).map (fun d => d.parameters.length) = some 1 := by decide +kernel
theorem hy_X0_isOnTable : yX0_isOnTable.cls ≠ "java/lang/invoke/MethodHandle" ∧ yX0_isOnTable.cls ≠ "java/lang/invoke/VarHandle" ∧ (parseMethodDescriptor yX0_isOnTable.desc).map (fun d => d.parameters.length) = some 1 := by decide +kernel
theorem hy_X0_lackedKind : yX0_lackedKind.cls ≠ "java/lang/invoke/MethodHandle" ∧ yX0_lackedKind.cls ≠ "java/lang/invoke/VarHandle" ∧ (parseMethodDescriptor yX0_lackedKind.desc).map (fun d => d.parameters.length) = some 2 := by decide +kernel
theorem hy_X0_lacking : yX0_lacking.cls ≠ "java/lang/invoke/MethodHandle" ∧ yX0_lacking.cls ≠ "java/lang/invoke/VarHandle" ∧ (parseMethodDescriptor yX0_lacking.desc).map (fun d => d.parameters.length) = some 2 := by decide +kernel
theorem hy_X0_taken : yX0_taken.cls ≠ "java/lang/invoke/MethodHandle" ∧ yX0_taken.cls ≠ "java/lang/invoke/VarHandle" ∧ (parseMethodDescriptor yX0_taken.desc).map (fun d => d.parameters.length) = some 3 := by decide +kernel
theorem hy_X1_measure : yX1_measure.cls ≠ "java/lang/invoke/MethodHandle" ∧ yX1_measure.cls ≠ "java/lang/invoke/VarHandle" ∧ (parseMethodDescriptor yX1_measure.desc).map (fun d => d.parameters.length) = some 1 := by decide +kernel
theorem hy_X1_measureLetter : yX1_measureLetter.cls ≠ "java/lang/invoke/MethodHandle" ∧ yX1_measureLetter.cls ≠ "java/lang/invoke/VarHandle" ∧ (parseMethodDescriptor yX1_measureLetter.desc).map (fun d => d.parameters.length) = some 3 := by decide +kernel
theorem hy_X1_step : yX1_step.cls ≠ "java/lang/invoke/MethodHandle" ∧ yX1_step.cls ≠ "java/lang/invoke/VarHandle" ∧ (parseMethodDescriptor yX1_step.desc).map (fun d => d.parameters.length) = some 2 := by decide +kernel
theorem hy_X1_turned : yX1_turned.cls ≠ "java/lang/invoke/MethodHandle" ∧ yX1_turned.cls ≠ "java/lang/invoke/VarHandle" ∧ (parseMethodDescriptor yX1_turned.desc).map (fun d => d.parameters.length) = some 2 := by decide +kernel
theorem hy_X2_part : yX2_part.cls ≠ "java/lang/invoke/MethodHandle" ∧ yX2_part.cls ≠ "java/lang/invoke/VarHandle" ∧ (parseMethodDescriptor yX2_part.desc).map (fun d => d.parameters.length) = some 2 := by decide +kernel
theorem hy_X2_place : yX2_place.cls ≠ "java/lang/invoke/MethodHandle" ∧ yX2_place.cls ≠ "java/lang/invoke/VarHandle" ∧ (parseMethodDescriptor yX2_place.desc).map (fun d => d.parameters.length) = some 4 := by decide +kernel
theorem hy_X2_signOf : yX2_signOf.cls ≠ "java/lang/invoke/MethodHandle" ∧ yX2_signOf.cls ≠ "java/lang/invoke/VarHandle" ∧ (parseMethodDescriptor yX2_signOf.desc).map (fun d => d.parameters.length) = some 2 := by decide +kernel
theorem hy_X2_squareRoot : yX2_squareRoot.cls ≠ "java/lang/invoke/MethodHandle" ∧ yX2_squareRoot.cls ≠ "java/lang/invoke/VarHandle" ∧ (parseMethodDescriptor yX2_squareRoot.desc).map (fun d => d.parameters.length) = some 1 := by decide +kernel
theorem hy_X2_squareWhole : yX2_squareWhole.cls ≠ "java/lang/invoke/MethodHandle" ∧ yX2_squareWhole.cls ≠ "java/lang/invoke/VarHandle" ∧ (parseMethodDescriptor yX2_squareWhole.desc).map (fun d => d.parameters.length) = some 1 := by decide +kernel
theorem hy_X3_countRing : yX3_countRing.cls ≠ "java/lang/invoke/MethodHandle" ∧ yX3_countRing.cls ≠ "java/lang/invoke/VarHandle" ∧ (parseMethodDescriptor yX3_countRing.desc).map (fun d => d.parameters.length) = some 3 := by decide +kernel
theorem hy_X3_endOf : yX3_endOf.cls ≠ "java/lang/invoke/MethodHandle" ∧ yX3_endOf.cls ≠ "java/lang/invoke/VarHandle" ∧ (parseMethodDescriptor yX3_endOf.desc).map (fun d => d.parameters.length) = some 2 := by decide +kernel
theorem hy_X3_forget : yX3_forget.cls ≠ "java/lang/invoke/MethodHandle" ∧ yX3_forget.cls ≠ "java/lang/invoke/VarHandle" ∧ (parseMethodDescriptor yX3_forget.desc).map (fun d => d.parameters.length) = some 0 := by decide +kernel
theorem hy_X3_gather : yX3_gather.cls ≠ "java/lang/invoke/MethodHandle" ∧ yX3_gather.cls ≠ "java/lang/invoke/VarHandle" ∧ (parseMethodDescriptor yX3_gather.desc).map (fun d => d.parameters.length) = some 0 := by decide +kernel
theorem hy_X3_isBefore : yX3_isBefore.cls ≠ "java/lang/invoke/MethodHandle" ∧ yX3_isBefore.cls ≠ "java/lang/invoke/VarHandle" ∧ (parseMethodDescriptor yX3_isBefore.desc).map (fun d => d.parameters.length) = some 4 := by decide +kernel
theorem hy_X3_isFirstSoFar : yX3_isFirstSoFar.cls ≠ "java/lang/invoke/MethodHandle" ∧ yX3_isFirstSoFar.cls ≠ "java/lang/invoke/VarHandle" ∧ (parseMethodDescriptor yX3_isFirstSoFar.desc).map (fun d => d.parameters.length) = some 1 := by decide +kernel
theorem hy_X3_lacks : yX3_lacks.cls ≠ "java/lang/invoke/MethodHandle" ∧ yX3_lacks.cls ≠ "java/lang/invoke/VarHandle" ∧ (parseMethodDescriptor yX3_lacks.desc).map (fun d => d.parameters.length) = some 2 := by decide +kernel
theorem hy_X3_layAt : yX3_layAt.cls ≠ "java/lang/invoke/MethodHandle" ∧ yX3_layAt.cls ≠ "java/lang/invoke/VarHandle" ∧ (parseMethodDescriptor yX3_layAt.desc).map (fun d => d.parameters.length) = some 3 := by decide +kernel
theorem hy_X3_slotOf : yX3_slotOf.cls ≠ "java/lang/invoke/MethodHandle" ∧ yX3_slotOf.cls ≠ "java/lang/invoke/VarHandle" ∧ (parseMethodDescriptor yX3_slotOf.desc).map (fun d => d.parameters.length) = some 1 := by decide +kernel
theorem hy_X3_standsForAll : yX3_standsForAll.cls ≠ "java/lang/invoke/MethodHandle" ∧ yX3_standsForAll.cls ≠ "java/lang/invoke/VarHandle" ∧ (parseMethodDescriptor yX3_standsForAll.desc).map (fun d => d.parameters.length) = some 1 := by decide +kernel
theorem hy_X3_through : yX3_through.cls ≠ "java/lang/invoke/MethodHandle" ∧ yX3_through.cls ≠ "java/lang/invoke/VarHandle" ∧ (parseMethodDescriptor yX3_through.desc).map (fun d => d.parameters.length) = some 4 := by decide +kernel
theorem hy_X3_throughTails : yX3_throughTails.cls ≠ "java/lang/invoke/MethodHandle" ∧ yX3_throughTails.cls ≠ "java/lang/invoke/VarHandle" ∧ (parseMethodDescriptor yX3_throughTails.desc).map (fun d => d.parameters.length) = some 4 := by decide +kernel
theorem hy_X4_findsNearest : yX4_findsNearest.cls ≠ "java/lang/invoke/MethodHandle" ∧ yX4_findsNearest.cls ≠ "java/lang/invoke/VarHandle" ∧ (parseMethodDescriptor yX4_findsNearest.desc).map (fun d => d.parameters.length) = some 1 := by decide +kernel
theorem hy_X4_keepIfNearer : yX4_keepIfNearer.cls ≠ "java/lang/invoke/MethodHandle" ∧ yX4_keepIfNearer.cls ≠ "java/lang/invoke/VarHandle" ∧ (parseMethodDescriptor yX4_keepIfNearer.desc).map (fun d => d.parameters.length) = some 1 := by decide +kernel
theorem hy_X4_layNear : yX4_layNear.cls ≠ "java/lang/invoke/MethodHandle" ∧ yX4_layNear.cls ≠ "java/lang/invoke/VarHandle" ∧ (parseMethodDescriptor yX4_layNear.desc).map (fun d => d.parameters.length) = some 6 := by decide +kernel
theorem hy_X4_layTurns : yX4_layTurns.cls ≠ "java/lang/invoke/MethodHandle" ∧ yX4_layTurns.cls ≠ "java/lang/invoke/VarHandle" ∧ (parseMethodDescriptor yX4_layTurns.desc).map (fun d => d.parameters.length) = some 6 := by decide +kernel
theorem hy_X4_rowsOf : yX4_rowsOf.cls ≠ "java/lang/invoke/MethodHandle" ∧ yX4_rowsOf.cls ≠ "java/lang/invoke/VarHandle" ∧ (parseMethodDescriptor yX4_rowsOf.desc).map (fun d => d.parameters.length) = some 2 := by decide +kernel
theorem hy_X5_areCrossings : yX5_areCrossings.cls ≠ "java/lang/invoke/MethodHandle" ∧ yX5_areCrossings.cls ≠ "java/lang/invoke/VarHandle" ∧ (parseMethodDescriptor yX5_areCrossings.desc).map (fun d => d.parameters.length) = some 2 := by decide +kernel
theorem hy_X5_end : yX5_end.cls ≠ "java/lang/invoke/MethodHandle" ∧ yX5_end.cls ≠ "java/lang/invoke/VarHandle" ∧ (parseMethodDescriptor yX5_end.desc).map (fun d => d.parameters.length) = some 0 := by decide +kernel
theorem hy_X5_firstTouch : yX5_firstTouch.cls ≠ "java/lang/invoke/MethodHandle" ∧ yX5_firstTouch.cls ≠ "java/lang/invoke/VarHandle" ∧ (parseMethodDescriptor yX5_firstTouch.desc).map (fun d => d.parameters.length) = some 0 := by decide +kernel
theorem hy_X5_follow : yX5_follow.cls ≠ "java/lang/invoke/MethodHandle" ∧ yX5_follow.cls ≠ "java/lang/invoke/VarHandle" ∧ (parseMethodDescriptor yX5_follow.desc).map (fun d => d.parameters.length) = some 2 := by decide +kernel
theorem hy_X5_isClosed : yX5_isClosed.cls ≠ "java/lang/invoke/MethodHandle" ∧ yX5_isClosed.cls ≠ "java/lang/invoke/VarHandle" ∧ (parseMethodDescriptor yX5_isClosed.desc).map (fun d => d.parameters.length) = some 0 := by decide +kernel
theorem hy_X6_at : yX6_at.cls ≠ "java/lang/invoke/MethodHandle" ∧ yX6_at.cls ≠ "java/lang/invoke/VarHandle" ∧ (parseMethodDescriptor yX6_at.desc).map (fun d => d.parameters.length) = some 2 := by decide +kernel
theorem hy_X6_copyAll : yX6_copyAll.cls ≠ "java/lang/invoke/MethodHandle" ∧ yX6_copyAll.cls ≠ "java/lang/invoke/VarHandle" ∧ (parseMethodDescriptor yX6_copyAll.desc).map (fun d => d.parameters.length) = some 2 := by decide +kernel
theorem hy_X6_letterOf : yX6_letterOf.cls ≠ "java/lang/invoke/MethodHandle" ∧ yX6_letterOf.cls ≠ "java/lang/invoke/VarHandle" ∧ (parseMethodDescriptor yX6_letterOf.desc).map (fun d => d.parameters.length) = some 1 := by decide +kernel
theorem hy_X6_measureAnew : yX6_measureAnew.cls ≠ "java/lang/invoke/MethodHandle" ∧ yX6_measureAnew.cls ≠ "java/lang/invoke/VarHandle" ∧ (parseMethodDescriptor yX6_measureAnew.desc).map (fun d => d.parameters.length) = some 0 := by decide +kernel
theorem hy_X6_placeAt : yX6_placeAt.cls ≠ "java/lang/invoke/MethodHandle" ∧ yX6_placeAt.cls ≠ "java/lang/invoke/VarHandle" ∧ (parseMethodDescriptor yX6_placeAt.desc).map (fun d => d.parameters.length) = some 2 := by decide +kernel
theorem hy_X6_put : yX6_put.cls ≠ "java/lang/invoke/MethodHandle" ∧ yX6_put.cls ≠ "java/lang/invoke/VarHandle" ∧ (parseMethodDescriptor yX6_put.desc).map (fun d => d.parameters.length) = some 3 := by decide +kernel
theorem hy_X6_putPlace : yX6_putPlace.cls ≠ "java/lang/invoke/MethodHandle" ∧ yX6_putPlace.cls ≠ "java/lang/invoke/VarHandle" ∧ (parseMethodDescriptor yX6_putPlace.desc).map (fun d => d.parameters.length) = some 3 := by decide +kernel
theorem hy_X6_refuse : yX6_refuse.cls ≠ "java/lang/invoke/MethodHandle" ∧ yX6_refuse.cls ≠ "java/lang/invoke/VarHandle" ∧ (parseMethodDescriptor yX6_refuse.desc).map (fun d => d.parameters.length) = some 1 := by decide +kernel
theorem hy_X6_refuseFar : yX6_refuseFar.cls ≠ "java/lang/invoke/MethodHandle" ∧ yX6_refuseFar.cls ≠ "java/lang/invoke/VarHandle" ∧ (parseMethodDescriptor yX6_refuseFar.desc).map (fun d => d.parameters.length) = some 1 := by decide +kernel
theorem hy_X6_yes : yX6_yes.cls ≠ "java/lang/invoke/MethodHandle" ∧ yX6_yes.cls ≠ "java/lang/invoke/VarHandle" ∧ (parseMethodDescriptor yX6_yes.desc).map (fun d => d.parameters.length) = some 1 := by decide +kernel
theorem hy_X7_adds : yX7_adds.cls ≠ "java/lang/invoke/MethodHandle" ∧ yX7_adds.cls ≠ "java/lang/invoke/VarHandle" ∧ (parseMethodDescriptor yX7_adds.desc).map (fun d => d.parameters.length) = some 4 := by decide +kernel
theorem hy_X7_along : yX7_along.cls ≠ "java/lang/invoke/MethodHandle" ∧ yX7_along.cls ≠ "java/lang/invoke/VarHandle" ∧ (parseMethodDescriptor yX7_along.desc).map (fun d => d.parameters.length) = some 3 := by decide +kernel
theorem hy_X7_becomes : yX7_becomes.cls ≠ "java/lang/invoke/MethodHandle" ∧ yX7_becomes.cls ≠ "java/lang/invoke/VarHandle" ∧ (parseMethodDescriptor yX7_becomes.desc).map (fun d => d.parameters.length) = some 2 := by decide +kernel
theorem hy_X7_begins : yX7_begins.cls ≠ "java/lang/invoke/MethodHandle" ∧ yX7_begins.cls ≠ "java/lang/invoke/VarHandle" ∧ (parseMethodDescriptor yX7_begins.desc).map (fun d => d.parameters.length) = some 1 := by decide +kernel
theorem hy_X7_gapOf : yX7_gapOf.cls ≠ "java/lang/invoke/MethodHandle" ∧ yX7_gapOf.cls ≠ "java/lang/invoke/VarHandle" ∧ (parseMethodDescriptor yX7_gapOf.desc).map (fun d => d.parameters.length) = some 1 := by decide +kernel
theorem hy_X7_goesOn : yX7_goesOn.cls ≠ "java/lang/invoke/MethodHandle" ∧ yX7_goesOn.cls ≠ "java/lang/invoke/VarHandle" ∧ (parseMethodDescriptor yX7_goesOn.desc).map (fun d => d.parameters.length) = some 2 := by decide +kernel
theorem hy_X7_isClosed : yX7_isClosed.cls ≠ "java/lang/invoke/MethodHandle" ∧ yX7_isClosed.cls ≠ "java/lang/invoke/VarHandle" ∧ (parseMethodDescriptor yX7_isClosed.desc).map (fun d => d.parameters.length) = some 0 := by decide +kernel
theorem hy_X7_isCrossed : yX7_isCrossed.cls ≠ "java/lang/invoke/MethodHandle" ∧ yX7_isCrossed.cls ≠ "java/lang/invoke/VarHandle" ∧ (parseMethodDescriptor yX7_isCrossed.desc).map (fun d => d.parameters.length) = some 1 := by decide +kernel
theorem hy_X7_isFirst : yX7_isFirst.cls ≠ "java/lang/invoke/MethodHandle" ∧ yX7_isFirst.cls ≠ "java/lang/invoke/VarHandle" ∧ (parseMethodDescriptor yX7_isFirst.desc).map (fun d => d.parameters.length) = some 1 := by decide +kernel
theorem hy_X7_isIn : yX7_isIn.cls ≠ "java/lang/invoke/MethodHandle" ∧ yX7_isIn.cls ≠ "java/lang/invoke/VarHandle" ∧ (parseMethodDescriptor yX7_isIn.desc).map (fun d => d.parameters.length) = some 2 := by decide +kernel
theorem hy_X7_isLying : yX7_isLying.cls ≠ "java/lang/invoke/MethodHandle" ∧ yX7_isLying.cls ≠ "java/lang/invoke/VarHandle" ∧ (parseMethodDescriptor yX7_isLying.desc).map (fun d => d.parameters.length) = some 0 := by decide +kernel
theorem hy_X7_isOn : yX7_isOn.cls ≠ "java/lang/invoke/MethodHandle" ∧ yX7_isOn.cls ≠ "java/lang/invoke/VarHandle" ∧ (parseMethodDescriptor yX7_isOn.desc).map (fun d => d.parameters.length) = some 1 := by decide +kernel
theorem hy_X7_isPart : yX7_isPart.cls ≠ "java/lang/invoke/MethodHandle" ∧ yX7_isPart.cls ≠ "java/lang/invoke/VarHandle" ∧ (parseMethodDescriptor yX7_isPart.desc).map (fun d => d.parameters.length) = some 1 := by decide +kernel
theorem hy_X7_isSame : yX7_isSame.cls ≠ "java/lang/invoke/MethodHandle" ∧ yX7_isSame.cls ≠ "java/lang/invoke/VarHandle" ∧ (parseMethodDescriptor yX7_isSame.desc).map (fun d => d.parameters.length) = some 2 := by decide +kernel
theorem hy_X7_kindOf : yX7_kindOf.cls ≠ "java/lang/invoke/MethodHandle" ∧ yX7_kindOf.cls ≠ "java/lang/invoke/VarHandle" ∧ (parseMethodDescriptor yX7_kindOf.desc).map (fun d => d.parameters.length) = some 1 := by decide +kernel
theorem hy_X7_layingOf : yX7_layingOf.cls ≠ "java/lang/invoke/MethodHandle" ∧ yX7_layingOf.cls ≠ "java/lang/invoke/VarHandle" ∧ (parseMethodDescriptor yX7_layingOf.desc).map (fun d => d.parameters.length) = some 1 := by decide +kernel
theorem hy_X7_lays : yX7_lays.cls ≠ "java/lang/invoke/MethodHandle" ∧ yX7_lays.cls ≠ "java/lang/invoke/VarHandle" ∧ (parseMethodDescriptor yX7_lays.desc).map (fun d => d.parameters.length) = some 1 := by decide +kernel
theorem hy_X7_mirrored : yX7_mirrored.cls ≠ "java/lang/invoke/MethodHandle" ∧ yX7_mirrored.cls ≠ "java/lang/invoke/VarHandle" ∧ (parseMethodDescriptor yX7_mirrored.desc).map (fun d => d.parameters.length) = some 1 := by decide +kernel
theorem hy_X7_nears : yX7_nears.cls ≠ "java/lang/invoke/MethodHandle" ∧ yX7_nears.cls ≠ "java/lang/invoke/VarHandle" ∧ (parseMethodDescriptor yX7_nears.desc).map (fun d => d.parameters.length) = some 0 := by decide +kernel
theorem hy_X7_offOf : yX7_offOf.cls ≠ "java/lang/invoke/MethodHandle" ∧ yX7_offOf.cls ≠ "java/lang/invoke/VarHandle" ∧ (parseMethodDescriptor yX7_offOf.desc).map (fun d => d.parameters.length) = some 0 := by decide +kernel
theorem hy_X7_refuse : yX7_refuse.cls ≠ "java/lang/invoke/MethodHandle" ∧ yX7_refuse.cls ≠ "java/lang/invoke/VarHandle" ∧ (parseMethodDescriptor yX7_refuse.desc).map (fun d => d.parameters.length) = some 1 := by decide +kernel
theorem hy_X7_rings : yX7_rings.cls ≠ "java/lang/invoke/MethodHandle" ∧ yX7_rings.cls ≠ "java/lang/invoke/VarHandle" ∧ (parseMethodDescriptor yX7_rings.desc).map (fun d => d.parameters.length) = some 0 := by decide +kernel
theorem hy_X7_ringsOf : yX7_ringsOf.cls ≠ "java/lang/invoke/MethodHandle" ∧ yX7_ringsOf.cls ≠ "java/lang/invoke/VarHandle" ∧ (parseMethodDescriptor yX7_ringsOf.desc).map (fun d => d.parameters.length) = some 3 := by decide +kernel
theorem hy_X7_signOf : yX7_signOf.cls ≠ "java/lang/invoke/MethodHandle" ∧ yX7_signOf.cls ≠ "java/lang/invoke/VarHandle" ∧ (parseMethodDescriptor yX7_signOf.desc).map (fun d => d.parameters.length) = some 2 := by decide +kernel
theorem hy_X7_takes : yX7_takes.cls ≠ "java/lang/invoke/MethodHandle" ∧ yX7_takes.cls ≠ "java/lang/invoke/VarHandle" ∧ (parseMethodDescriptor yX7_takes.desc).map (fun d => d.parameters.length) = some 0 := by decide +kernel
theorem hy_X7_touchOf : yX7_touchOf.cls ≠ "java/lang/invoke/MethodHandle" ∧ yX7_touchOf.cls ≠ "java/lang/invoke/VarHandle" ∧ (parseMethodDescriptor yX7_touchOf.desc).map (fun d => d.parameters.length) = some 0 := by decide +kernel
theorem hy_X7_turnOf : yX7_turnOf.cls ≠ "java/lang/invoke/MethodHandle" ∧ yX7_turnOf.cls ≠ "java/lang/invoke/VarHandle" ∧ (parseMethodDescriptor yX7_turnOf.desc).map (fun d => d.parameters.length) = some 1 := by decide +kernel
theorem hy_X7_within : yX7_within.cls ≠ "java/lang/invoke/MethodHandle" ∧ yX7_within.cls ≠ "java/lang/invoke/VarHandle" ∧ (parseMethodDescriptor yX7_within.desc).map (fun d => d.parameters.length) = some 3 := by decide +kernel
theorem in_X0 : ∀ w ∈ u_ws RX0 TX0 8, w ∈ lw_tbl ∧ okw w = true := by decide +kernel
theorem in_X1 : ∀ w ∈ u_ws RX1 TX1 1, w ∈ lw_tbl ∧ okw w = true := by decide +kernel
theorem in_X3 : ∀ w ∈ u_ws RX3 TX3 10, w ∈ lw_tbl ∧ okw w = true := by decide +kernel
theorem in_X4 : ∀ w ∈ u_ws RX4 TX4 8, w ∈ lw_tbl ∧ okw w = true := by decide +kernel
theorem in_X5 : ∀ w ∈ u_ws RX5 TX5 5, w ∈ lw_tbl ∧ okw w = true := by decide +kernel
theorem in_X6 : ∀ w ∈ u_ws RX6 TX6 12, w ∈ lw_tbl ∧ okw w = true := by decide +kernel
theorem in_X7 : ∀ w ∈ u_ws RX7 TX7 24, w ∈ lw_tbl ∧ okw w = true := by decide +kernel
def nm {α β : Type} (v : α) (k : α → β) : β := k v
theorem nm_ex {α β : Type} {v : α} {k : α → β} {y : β} (h : nm v k = y) : ∃ x, x = v ∧ k x = y := ⟨v, rfl, h⟩
def bd {α β : Type} (o : Option α) (k : α → Option β) : Option β := match o with
  | none => none
  | some a => k a
theorem bd_ex {α β : Type} {o : Option α} {k : α → Option β} {y : β} (h : bd o k = some y) : ∃ a, o = some a ∧ k a = some y := by
  cases o with
  | none => cases h
  | some a => exact ⟨a, rfl, h⟩
def bd2 {α β : Type} (o : Option (α × Mem)) (k : α → Mem → Option β) : Option β := match o with
  | none => none
  | some (a, m) => k a m
theorem bd2_ex {α β : Type} {o : Option (α × Mem)} {k : α → Mem → Option β} {y : β} (h : bd2 o k = some y) : ∃ a m, o = some (a, m) ∧ k a m = some y := by
  cases o with
  | none => cases h
  | some a => exact ⟨a.1, a.2, rfl, h⟩
def ck {β : Type} (c : Prop) [Decidable c] (o : Option β) : Option β := if c then o else none
theorem ck_ex {β : Type} {c : Prop} [Decidable c] {o : Option β} {y : β} (h : ck c o = some y) : c ∧ o = some y := by
  unfold ck at h
  split at h
  · exact ⟨by assumption, h⟩
  · cases h
theorem it_t {β : Type} {c : Prop} [Decidable c] {a b y : β} (hc : c) (h : (if c then a else b) = y) : a = y := by rwa [if_pos hc] at h
theorem it_f {β : Type} {c : Prop} [Decidable c] {a b y : β} (hc : ¬ c) (h : (if c then a else b) = y) : b = y := by rwa [if_neg hc] at h
theorem ltn {k B nc : Nat} (h : B ≤ nc) (hk : Nat.ble (k + 1) B = true) : k < nc := Nat.lt_of_lt_of_le (Nat.le_of_ble_eq_true hk) h
abbrev zb (x : Int32) : Prop := x = 0 ∨ x = 1
theorem zb_n {x : Int32} (h : zb x) : narrow .boolean (.int x) = .int x := by rcases h with rfl | rfl <;> rfl
theorem zb_f {x : Int32} (h : zb x) : fits .boolean (.int x) = true := by rcases h with rfl | rfl <;> rfl
theorem fitR_s {d n : Nat} (h : n ≤ 21) : fitR (rmd (d + 1)) d n := ⟨Nat.le_refl _, by show 8 + (n + 11) + 40 * d ≤ 40 * (d + 1); omega⟩
theorem sw_out {x : Int32} {lo hi : Int} (h : ∀ v : Int, lo ≤ v → v ≤ hi → x.toInt = v → False) : x.toInt < lo ∨ hi < x.toInt := by
  by_cases h1 : x.toInt < lo
  · exact Or.inl h1
  · by_cases h2 : hi < x.toInt
    · exact Or.inr h2
    · exact (h _ (by omega) (by omega) rfl).elim
theorem room21 (d : Nat) : 21 ≤ (rmd (d + 1)).locals := by show 21 ≤ 40 * (d + 1); omega
def imax (x y : Int32) : Int32 := if x < y then y else x
def imin (x y : Int32) : Int32 := if y < x then y else x
section ROWE
variable {p : Program} {l : Launch} {e : Env} {R : Room} {s : State} {m : MethodId} {args : Array Value} {below : List Frame} {meth : Method} {c : Code} {cc : ByteArray} {nL : Nat} {own : String} {A : Nat → Prop} {ad : Nat → Nat} {D : va_G} {cI cJ : ClassId} {sh : Nat → Shp} {nc : Nat} {kc ks : Nat} {Q : State → Prop}
variable {M M' : Mem} {pc : Nat} {ls : List (Nat × Value)} {st : List Value}
theorem r_top {x v : Int32} (h : x = v) (k : AW p l e R s m args below meth c nL A ad D cI cJ sh nc kc ks Q M pc ls (.int x :: st)) : AW p l e R s m args below meth c nL A ad D cI cJ sh nc kc ks Q M pc ls (.int v :: st) := h ▸ k
theorem r_topl {x v : Int64} (h : x = v) (k : AW p l e R s m args below meth c nL A ad D cI cJ sh nc kc ks Q M pc ls (.long x :: st)) : AW p l e R s m args below meth c nL A ad D cI cJ sh nc kc ks Q M pc ls (.long v :: st) := h ▸ k
theorem r_mem {M2 : Mem} (h : M2 = M) (k : AW p l e R s m args below meth c nL A ad D cI cJ sh nc kc ks Q M2 pc ls st) : AW p l e R s m args below meth c nL A ad D cI cJ sh nc kc ks Q M pc ls st := h ▸ k
theorem r_iretE (X : Cx p s m meth c cc nL own A ad D cI cJ) {x r : Int32} (hr : meth.sig.returnType = some .int) (hd : decode cc pc = .ok (.ireturn, 1)) (h : some (x, M) = some (r, M')) : AW p l e R s m args below meth c nL A ad D cI cJ sh nc kc ks (MQ below (Qq A ad D cI cJ sh nc (some (.int r)) M') args s kc ks A) M pc ls [.int x] := by
  cases h
  exact r_iret X hr hd
theorem r_zretE (X : Cx p s m meth c cc nL own A ad D cI cJ) {x r : Int32} (hr : meth.sig.returnType = some .boolean) (hn : narrow .boolean (.int x) = .int x) (hd : decode cc pc = .ok (.ireturn, 1)) (h : some (x, M) = some (r, M')) : AW p l e R s m args below meth c nL A ad D cI cJ sh nc kc ks (MQ below (Qq A ad D cI cJ sh nc (some (.int r)) M') args s kc ks A) M pc ls [.int x] := by
  cases h
  exact r_zret X hr hn hd
theorem r_lretE (X : Cx p s m meth c cc nL own A ad D cI cJ) {x r : Int64} (hr : meth.sig.returnType = some .long) (hd : decode cc pc = .ok (.lreturn, 1)) (h : some (x, M) = some (r, M')) : AW p l e R s m args below meth c nL A ad D cI cJ sh nc kc ks (MQ below (Qq A ad D cI cJ sh nc (some (.long r)) M') args s kc ks A) M pc ls [.long x] := by
  cases h
  exact r_lret X hr hd
theorem r_vretE (X : Cx p s m meth c cc nL own A ad D cI cJ) (hr : meth.sig.returnType = none) (hd : decode cc pc = .ok (.return_, 1)) (h : some M = some M') : AW p l e R s m args below meth c nL A ad D cI cJ sh nc kc ks (MQ below (Qq A ad D cI cJ sh nc none M') args s kc ks A) M pc ls [] := by
  cases h
  exact r_vret X hr hd
theorem r_max (X : Cx p s m meth c cc nL own A ad D cI cJ) {x y : Int32} {ix : Nat} (hf : 1 ≤ R.frames) (hR : 21 ≤ R.locals) (hk : kc ≤ R.cells ∧ ks ≤ R.slots) (hw : Cond.methodLink own ix Lib.Math.max.name ∈ lw_tbl) (hs : Cond.static Lib.Math.max.name ∈ lw_tbl) (hi : Cond.initialized "java/lang/Math" ∈ lw_tbl) (hc : Cond.code Lib.Math.max.name Lib.Math.max.code 2 (some .int) ∈ lw_tbl) (hW : (st.map Value.category).sum ≤ 8) (hd : decode cc pc = .ok (.invokestatic ix, 3)) (k : AW p l e R s m args below meth c nL A ad D cI cJ sh nc kc ks Q M (pc + 3) ls (.int (imax x y) :: st)) : AW p l e R s m args below meth c nL A ad D cI cJ sh nc kc ks Q M pc ls (.int y :: .int x :: st) := by
  intro H locs lsA hD hS hl
  have e : ((st.map (cv ad)).map fun v => v.category) = st.map Value.category := by
    rw [List.map_map]
    apply List.map_congr_left
    intro v _
    exact cv_cat ad v
  exact va_mmax X.1 X.2.1 (X.2.2.1.trans hl.1.symm) X.2.2.2.1 (X.2.2.2.2.1.1 _ hw rfl args) (X.2.2.2.2.1.1 _ hs rfl args) (X.2.2.2.2.1.1 _ hi rfl args) (X.2.2.2.2.1.1 _ hc rfl args) hf (by rw [e]; omega) hk.1 hk.2 hd (k H locs lsA hD hS hl)
theorem r_min (X : Cx p s m meth c cc nL own A ad D cI cJ) {x y : Int32} {ix : Nat} (hf : 1 ≤ R.frames) (hR : 21 ≤ R.locals) (hk : kc ≤ R.cells ∧ ks ≤ R.slots) (hw : Cond.methodLink own ix Lib.Math.min.name ∈ lw_tbl) (hs : Cond.static Lib.Math.min.name ∈ lw_tbl) (hi : Cond.initialized "java/lang/Math" ∈ lw_tbl) (hc : Cond.code Lib.Math.min.name Lib.Math.min.code 2 (some .int) ∈ lw_tbl) (hW : (st.map Value.category).sum ≤ 8) (hd : decode cc pc = .ok (.invokestatic ix, 3)) (k : AW p l e R s m args below meth c nL A ad D cI cJ sh nc kc ks Q M (pc + 3) ls (.int (imin x y) :: st)) : AW p l e R s m args below meth c nL A ad D cI cJ sh nc kc ks Q M pc ls (.int y :: .int x :: st) := by
  intro H locs lsA hD hS hl
  have e : ((st.map (cv ad)).map fun v => v.category) = st.map Value.category := by
    rw [List.map_map]
    apply List.map_congr_left
    intro v _
    exact cv_cat ad v
  exact va_mmin X.1 X.2.1 (X.2.2.1.trans hl.1.symm) X.2.2.2.1 (X.2.2.2.2.1.1 _ hw rfl args) (X.2.2.2.2.1.1 _ hs rfl args) (X.2.2.2.2.1.1 _ hi rfl args) (X.2.2.2.2.1.1 _ hc rfl args) hf (by rw [e]; omega) hk.1 hk.2 hd (k H locs lsA hD hS hl)
end ROWE
