/-! printed by wip/gen/build.py out of the decode rows: do not edit by hand -/
theorem wd_0 : Cond.selects RX1 yX1_roundAt yX1_roundAt ∈ tw := tw_mem (i := 0) (by decide +kernel) (by decide +kernel)
theorem wd_1 : Cond.selects RX4 yX4_addBank yX4_addBank ∈ tw := tw_mem (i := 1) (by decide +kernel) (by decide +kernel)
theorem wd_2 : Cond.selects RX4 yX4_refuse yX4_refuse ∈ tw := tw_mem (i := 2) (by decide +kernel) (by decide +kernel)
theorem wd_3 : Cond.selects RX4 yX4_settle yX4_settle ∈ tw := tw_mem (i := 3) (by decide +kernel) (by decide +kernel)
theorem wd_4 : Cond.selects RX4 yX4_setWeight yX4_setWeight ∈ tw := tw_mem (i := 4) (by decide +kernel) (by decide +kernel)
theorem wd_5 : Cond.selects RX4 yX4_joinBanks yX4_joinBanks ∈ tw := tw_mem (i := 5) (by decide +kernel) (by decide +kernel)
theorem wd_6 : Cond.selects RX4 yX4_areThere yX4_areThere ∈ tw := tw_mem (i := 6) (by decide +kernel) (by decide +kernel)
theorem wd_7 : Cond.selects RX4 yX4_cutRope yX4_cutRope ∈ tw := tw_mem (i := 7) (by decide +kernel) (by decide +kernel)
theorem wd_8 : Cond.selects RX4 yX4_turnRound yX4_turnRound ∈ tw := tw_mem (i := 8) (by decide +kernel) (by decide +kernel)
theorem wd_9 : Cond.selects RX4 yX4_raisePart yX4_raisePart ∈ tw := tw_mem (i := 9) (by decide +kernel) (by decide +kernel)
theorem wd_10 : Cond.selects RX1 yX1_partsAheadOf yX1_partsAheadOf ∈ tw := tw_mem (i := 10) (by decide +kernel) (by decide +kernel)
theorem wd_11 : Cond.selects RX1 yX1_ranksAhead yX1_ranksAhead ∈ tw := tw_mem (i := 11) (by decide +kernel) (by decide +kernel)
theorem wd_12 : Cond.selects RX3 yX3_takeCommand yX3_takeCommand ∈ tw := tw_mem (i := 12) (by decide +kernel) (by decide +kernel)
theorem wd_13 : Cond.selects RX3 yX3_takeNumber yX3_takeNumber ∈ tw := tw_mem (i := 13) (by decide +kernel) (by decide +kernel)
theorem wd_14 : Cond.selects RX4 yX4_carryOut yX4_carryOut ∈ tw := tw_mem (i := 14) (by decide +kernel) (by decide +kernel)
theorem wd_15 : Cond.selects RX1 yX1_leavesOverEachRope yX1_leavesOverEachRope ∈ tw := tw_mem (i := 15) (by decide +kernel) (by decide +kernel)
theorem wd_16 : Cond.selects RX5 yX5_refuse yX5_refuse ∈ tw := tw_mem (i := 16) (by decide +kernel) (by decide +kernel)
theorem wd_17 : Cond.selects RX5 yX5_change yX5_change ∈ tw := tw_mem (i := 17) (by decide +kernel) (by decide +kernel)
theorem wd_18 : Cond.selects RX5 yX5_remember yX5_remember ∈ tw := tw_mem (i := 18) (by decide +kernel) (by decide +kernel)
theorem wd_19 : Cond.selects RX5 yX5_emptyRound yX5_emptyRound ∈ tw := tw_mem (i := 19) (by decide +kernel) (by decide +kernel)
theorem wd_20 : Cond.selects RX5 yX5_size yX5_size ∈ tw := tw_mem (i := 20) (by decide +kernel) (by decide +kernel)
theorem wd_21 : Cond.selects RX5 yX5_setSize yX5_setSize ∈ tw := tw_mem (i := 21) (by decide +kernel) (by decide +kernel)
theorem wd_22 : Cond.selects RX5 yX5_setPlace yX5_setPlace ∈ tw := tw_mem (i := 22) (by decide +kernel) (by decide +kernel)
theorem wd_23 : Cond.selects RX5 yX5_isBank yX5_isBank ∈ tw := tw_mem (i := 23) (by decide +kernel) (by decide +kernel)
theorem wd_24 : Cond.selects RX5 yX5_weight yX5_weight ∈ tw := tw_mem (i := 24) (by decide +kernel) (by decide +kernel)
theorem wd_25 : Cond.selects RX5 yX5_areOne yX5_areOne ∈ tw := tw_mem (i := 25) (by decide +kernel) (by decide +kernel)
theorem wd_26 : Cond.selects RX5 yX5_roundOf yX5_roundOf ∈ tw := tw_mem (i := 26) (by decide +kernel) (by decide +kernel)
theorem wd_27 : Cond.selects RX5 yX5_firstIn yX5_firstIn ∈ tw := tw_mem (i := 27) (by decide +kernel) (by decide +kernel)
theorem wd_28 : Cond.selects RX5 yX5_place yX5_place ∈ tw := tw_mem (i := 28) (by decide +kernel) (by decide +kernel)
theorem wd_29 : Cond.selects RX5 yX5_root yX5_root ∈ tw := tw_mem (i := 29) (by decide +kernel) (by decide +kernel)
theorem wd_30 : Cond.selects RX5 yX5_putIn yX5_putIn ∈ tw := tw_mem (i := 30) (by decide +kernel) (by decide +kernel)
theorem wd_31 : Cond.selects RX5 yX5_turnTo yX5_turnTo ∈ tw := tw_mem (i := 31) (by decide +kernel) (by decide +kernel)
theorem wd_32 : Cond.selects RX5 yX5_banksOf yX5_banksOf ∈ tw := tw_mem (i := 32) (by decide +kernel) (by decide +kernel)
theorem wd_33 : Cond.selects RX5 yX5_isTied yX5_isTied ∈ tw := tw_mem (i := 33) (by decide +kernel) (by decide +kernel)
theorem wd_34 : Cond.selects RX5 yX5_lower yX5_lower ∈ tw := tw_mem (i := 34) (by decide +kernel) (by decide +kernel)
theorem wd_35 : Cond.selects RX5 yX5_first yX5_first ∈ tw := tw_mem (i := 35) (by decide +kernel) (by decide +kernel)
theorem wd_36 : Cond.selects RX5 yX5_last yX5_last ∈ tw := tw_mem (i := 36) (by decide +kernel) (by decide +kernel)
theorem wd_37 : Cond.selects RX5 yX5_risen yX5_risen ∈ tw := tw_mem (i := 37) (by decide +kernel) (by decide +kernel)
theorem wd_38 : Cond.selects RX5 yX5_depth yX5_depth ∈ tw := tw_mem (i := 38) (by decide +kernel) (by decide +kernel)
theorem wd_39 : Cond.selects RX5 yX5_below yX5_below ∈ tw := tw_mem (i := 39) (by decide +kernel) (by decide +kernel)
theorem wd_40 : Cond.selects RX5 yX5_ropes yX5_ropes ∈ tw := tw_mem (i := 40) (by decide +kernel) (by decide +kernel)
theorem wd_41 : Cond.selects RX5 yX5_above yX5_above ∈ tw := tw_mem (i := 41) (by decide +kernel) (by decide +kernel)
theorem wd_42 : Cond.selects RX5 yX5_countBelow yX5_countBelow ∈ tw := tw_mem (i := 42) (by decide +kernel) (by decide +kernel)
theorem wd_43 : Cond.selects RX5 yX5_sumBelow yX5_sumBelow ∈ tw := tw_mem (i := 43) (by decide +kernel) (by decide +kernel)
theorem wd_44 : Cond.selects RX5 yX5_greatestDepth yX5_greatestDepth ∈ tw := tw_mem (i := 44) (by decide +kernel) (by decide +kernel)
theorem wd_45 : Cond.selects RX5 yX5_heaviest yX5_heaviest ∈ tw := tw_mem (i := 45) (by decide +kernel) (by decide +kernel)
theorem wd_46 : Cond.selects RX5 yX5_meeting yX5_meeting ∈ tw := tw_mem (i := 46) (by decide +kernel) (by decide +kernel)
theorem wd_47 : Cond.selects RX5 yX5_climb yX5_climb ∈ tw := tw_mem (i := 47) (by decide +kernel) (by decide +kernel)
theorem wd_48 : Cond.selects RX5 yX5_heaviestLeft yX5_heaviestLeft ∈ tw := tw_mem (i := 48) (by decide +kernel) (by decide +kernel)
theorem wd_49 : Cond.selects RX5 yX5_isAhead yX5_isAhead ∈ tw := tw_mem (i := 49) (by decide +kernel) (by decide +kernel)
theorem wd_50 : Cond.selects RX5 yX5_writeNumber yX5_writeNumber ∈ tw := tw_mem (i := 50) (by decide +kernel) (by decide +kernel)
theorem wd_51 : Cond.selects RX5 yX5_write yX5_write ∈ tw := tw_mem (i := 51) (by decide +kernel) (by decide +kernel)
theorem wd_52 : Cond.selects RX5 yX5_countCommands yX5_countCommands ∈ tw := tw_mem (i := 52) (by decide +kernel) (by decide +kernel)
theorem wd_53 : Cond.selects RX5 yX5_readCommand yX5_readCommand ∈ tw := tw_mem (i := 53) (by decide +kernel) (by decide +kernel)
theorem wd_54 : Cond.selects RX5 yX5_readNumber yX5_readNumber ∈ tw := tw_mem (i := 54) (by decide +kernel) (by decide +kernel)
theorem wd_55 : Cond.selects RX5 yX5_sees yX5_sees ∈ tw := tw_mem (i := 55) (by decide +kernel) (by decide +kernel)
theorem wd_56 : Cond.selects RX5 yX5_readBehind yX5_readBehind ∈ tw := tw_mem (i := 56) (by decide +kernel) (by decide +kernel)
theorem wd_57 : Cond.selects RX5 yX5_must yX5_must ∈ tw := tw_mem (i := 57) (by decide +kernel) (by decide +kernel)
theorem wd_58 : Cond.selects RX5 yX5_readRise yX5_readRise ∈ tw := tw_mem (i := 58) (by decide +kernel) (by decide +kernel)
theorem wd_59 : Cond.selects RX5 yX5_carryOut yX5_carryOut ∈ tw := tw_mem (i := 59) (by decide +kernel) (by decide +kernel)
theorem wd_60 : Cond.selects RX5 yX5_parts yX5_parts ∈ tw := tw_mem (i := 60) (by decide +kernel) (by decide +kernel)
theorem wd_61 : Cond.selects RX5 yX5_allWeights yX5_allWeights ∈ tw := tw_mem (i := 61) (by decide +kernel) (by decide +kernel)
theorem wd_62 : Cond.selects RX5 yX5_allPlaces yX5_allPlaces ∈ tw := tw_mem (i := 62) (by decide +kernel) (by decide +kernel)
theorem wd_63 : Cond.selects RX5 yX5_deepest yX5_deepest ∈ tw := tw_mem (i := 63) (by decide +kernel) (by decide +kernel)
theorem wd_65 : Cond.initialized RX4 ∈ tw := tw_mem (i := 65) (by decide +kernel) (by decide +kernel)
theorem wd_66 : Cond.initialized RX1 ∈ tw := tw_mem (i := 66) (by decide +kernel) (by decide +kernel)
theorem wd_67 : Cond.initialized RX2 ∈ tw := tw_mem (i := 67) (by decide +kernel) (by decide +kernel)
theorem wd_68 : Cond.initialized RX0 ∈ tw := tw_mem (i := 68) (by decide +kernel) (by decide +kernel)
theorem wd_69 : Cond.initialized RX3 ∈ tw := tw_mem (i := 69) (by decide +kernel) (by decide +kernel)
theorem wd_70 : Cond.initialized RX5 ∈ tw := tw_mem (i := 70) (by decide +kernel) (by decide +kernel)
theorem wd_71 : Cond.initialized RJ9 ∈ tw := tw_mem (i := 71) (by decide +kernel) (by decide +kernel)
theorem wd_72 : Cond.initialized RJ6 ∈ tw := tw_mem (i := 72) (by decide +kernel) (by decide +kernel)
theorem wd_78 : Cond.initialized RJxf58ca ∈ tw := tw_mem (i := 78) (by decide +kernel) (by decide +kernel)
theorem wd_99 : Cond.fieldLink RX2 9 "FerryRounds$Row" "numbers" "[I" ∈ tw := tw_mem (i := 99) (by decide +kernel) (by decide +kernel)
theorem wd_100 : Cond.fieldLink RX2 15 "FerryRounds$Row" "length" "I" ∈ tw := tw_mem (i := 100) (by decide +kernel) (by decide +kernel)
theorem wd_108 : Cond.fieldLink RX1 14 "FerryRounds$River" "weights" "LFerryRounds$Row;" ∈ tw := tw_mem (i := 108) (by decide +kernel) (by decide +kernel)
theorem wd_109 : Cond.fieldLink RX1 20 "FerryRounds$River" "ropes" "LFerryRounds$Row;" ∈ tw := tw_mem (i := 109) (by decide +kernel) (by decide +kernel)
theorem wd_110 : Cond.fieldLink RX1 23 "FerryRounds$River" "rounds" "[LFerryRounds$Row;" ∈ tw := tw_mem (i := 110) (by decide +kernel) (by decide +kernel)
theorem wd_111 : Cond.fieldLink RX1 27 "FerryRounds$River" "noRound" "LFerryRounds$Row;" ∈ tw := tw_mem (i := 111) (by decide +kernel) (by decide +kernel)
theorem wd_112 : Cond.fieldLink RX1 38 "FerryRounds$River" "joins" "I" ∈ tw := tw_mem (i := 112) (by decide +kernel) (by decide +kernel)
theorem wd_113 : Cond.fieldLink RX1 42 "FerryRounds$River" "cuts" "I" ∈ tw := tw_mem (i := 113) (by decide +kernel) (by decide +kernel)
theorem wd_114 : Cond.fieldLink RX1 45 "FerryRounds$River" "turns" "I" ∈ tw := tw_mem (i := 114) (by decide +kernel) (by decide +kernel)
theorem wd_139 : Cond.fieldLink RX0 13 "FerryRounds$Past" "states" "[LFerryRounds$River;" ∈ tw := tw_mem (i := 139) (by decide +kernel) (by decide +kernel)
theorem wd_140 : Cond.fieldLink RX0 22 "FerryRounds$Past" "next" "I" ∈ tw := tw_mem (i := 140) (by decide +kernel) (by decide +kernel)
theorem wd_141 : Cond.fieldLink RX0 18 "FerryRounds$Past" "count" "I" ∈ tw := tw_mem (i := 141) (by decide +kernel) (by decide +kernel)
theorem wd_159 : Cond.fieldLink RX3 14 "FerryRounds$Script" "kinds" "LFerryRounds$Row;" ∈ tw := tw_mem (i := 159) (by decide +kernel) (by decide +kernel)
theorem wd_160 : Cond.fieldLink RX3 20 "FerryRounds$Script" "firsts" "LFerryRounds$Row;" ∈ tw := tw_mem (i := 160) (by decide +kernel) (by decide +kernel)
theorem wd_161 : Cond.fieldLink RX3 23 "FerryRounds$Script" "seconds" "LFerryRounds$Row;" ∈ tw := tw_mem (i := 161) (by decide +kernel) (by decide +kernel)
theorem wd_162 : Cond.fieldLink RX3 37 "FerryRounds$Script" "at" "I" ∈ tw := tw_mem (i := 162) (by decide +kernel) (by decide +kernel)
theorem wd_163 : Cond.fieldLink RX3 52 "FerryRounds$Script" "number" "I" ∈ tw := tw_mem (i := 163) (by decide +kernel) (by decide +kernel)
theorem wd_175 : Cond.fieldLink RX4 12 "FerryRounds" "river" "LFerryRounds$River;" ∈ tw := tw_mem (i := 175) (by decide +kernel) (by decide +kernel)
theorem wd_176 : Cond.fieldLink RX4 16 "FerryRounds" "snapshot" "LFerryRounds$River;" ∈ tw := tw_mem (i := 176) (by decide +kernel) (by decide +kernel)
theorem wd_177 : Cond.fieldLink RX4 22 "FerryRounds" "past" "LFerryRounds$Past;" ∈ tw := tw_mem (i := 177) (by decide +kernel) (by decide +kernel)
theorem wd_178 : Cond.fieldLink RX4 31 "FerryRounds" "line" "LFerryRounds$Row;" ∈ tw := tw_mem (i := 178) (by decide +kernel) (by decide +kernel)
theorem wd_179 : Cond.fieldLink RX4 35 "FerryRounds" "text" "LFerryRounds$Row;" ∈ tw := tw_mem (i := 179) (by decide +kernel) (by decide +kernel)
theorem wd_180 : Cond.fieldLink RX4 41 "FerryRounds" "script" "LFerryRounds$Script;" ∈ tw := tw_mem (i := 180) (by decide +kernel) (by decide +kernel)
theorem wd_181 : Cond.fieldLink RX4 250 "FerryRounds" "isSaved" "Z" ∈ tw := tw_mem (i := 181) (by decide +kernel) (by decide +kernel)
theorem wd_182 : Cond.fieldLink RX4 196 "FerryRounds" "reason" "I" ∈ tw := tw_mem (i := 182) (by decide +kernel) (by decide +kernel)
theorem wd_183 : Cond.fieldLink RX4 199 "FerryRounds" "reasonDetail" "I" ∈ tw := tw_mem (i := 183) (by decide +kernel) (by decide +kernel)
theorem wd_184 : Cond.fieldLink RX4 202 "FerryRounds" "reasonCommand" "I" ∈ tw := tw_mem (i := 184) (by decide +kernel) (by decide +kernel)
theorem wd_185 : Cond.fieldLink RX4 45 "FerryRounds" "commandNow" "I" ∈ tw := tw_mem (i := 185) (by decide +kernel) (by decide +kernel)
theorem wd_213 : Cond.methodLink RX4 49 yX0_note ∈ tw := tw_mem (i := 213) (by decide +kernel) (by decide +kernel)
theorem wd_214 : Cond.instanceMethod yX0_note ∈ tw := tw_mem (i := 214) (by decide +kernel) (by decide +kernel)
theorem wd_215 : Cond.selects RX0 yX0_note yX0_note ∈ tw := tw_mem (i := 215) (by decide +kernel) (by decide +kernel)
theorem wd_216 : Cond.code yX0_note cX0_note 3 none ∈ tw := tw_mem (i := 216) (by decide +kernel) (by decide +kernel)
theorem wd_217 : Cond.methodLink RX0 25 yX1_copyFrom ∈ tw := tw_mem (i := 217) (by decide +kernel) (by decide +kernel)
theorem wd_218 : Cond.instanceMethod yX1_copyFrom ∈ tw := tw_mem (i := 218) (by decide +kernel) (by decide +kernel)
theorem wd_219 : Cond.selects RX1 yX1_copyFrom yX1_copyFrom ∈ tw := tw_mem (i := 219) (by decide +kernel) (by decide +kernel)
theorem wd_220 : Cond.code yX1_copyFrom cX1_copyFrom 3 none ∈ tw := tw_mem (i := 220) (by decide +kernel) (by decide +kernel)
theorem wd_221 : Cond.methodLink RX1 30 yX2_copyFrom ∈ tw := tw_mem (i := 221) (by decide +kernel) (by decide +kernel)
theorem wd_222 : Cond.instanceMethod yX2_copyFrom ∈ tw := tw_mem (i := 222) (by decide +kernel) (by decide +kernel)
theorem wd_223 : Cond.selects RX2 yX2_copyFrom yX2_copyFrom ∈ tw := tw_mem (i := 223) (by decide +kernel) (by decide +kernel)
theorem wd_224 : Cond.code yX2_copyFrom cX2_copyFrom 3 none ∈ tw := tw_mem (i := 224) (by decide +kernel) (by decide +kernel)
theorem wd_225 : Cond.methodLink RX2 23 yX2_get ∈ tw := tw_mem (i := 225) (by decide +kernel) (by decide +kernel)
theorem wd_226 : Cond.instanceMethod yX2_get ∈ tw := tw_mem (i := 226) (by decide +kernel) (by decide +kernel)
theorem wd_227 : Cond.selects RX2 yX2_get yX2_get ∈ tw := tw_mem (i := 227) (by decide +kernel) (by decide +kernel)
theorem wd_228 : Cond.code yX2_get cX2_get 2 (some .int) ∈ tw := tw_mem (i := 228) (by decide +kernel) (by decide +kernel)
theorem wd_229 : Cond.methodLink RX2 19 yX2_add ∈ tw := tw_mem (i := 229) (by decide +kernel) (by decide +kernel)
theorem wd_230 : Cond.instanceMethod yX2_add ∈ tw := tw_mem (i := 230) (by decide +kernel) (by decide +kernel)
theorem wd_231 : Cond.selects RX2 yX2_add yX2_add ∈ tw := tw_mem (i := 231) (by decide +kernel) (by decide +kernel)
theorem wd_232 : Cond.code yX2_add cX2_add 2 none ∈ tw := tw_mem (i := 232) (by decide +kernel) (by decide +kernel)
theorem wd_233 : Cond.methodLink RX1 34 yX1_roundAt ∈ tw := tw_mem (i := 233) (by decide +kernel) (by decide +kernel)
theorem wd_235 : Cond.instanceMethod yX1_roundAt ∈ tw := tw_mem (i := 235) (by decide +kernel) (by decide +kernel)
theorem wd_236 : Cond.code yX1_roundAt cX1_roundAt 3 (some (.object "FerryRounds$Row")) ∈ tw := tw_mem (i := 236) (by decide +kernel) (by decide +kernel)
theorem wd_237 : Cond.methodLink RX4 53 yX4_addBank ∈ tw := tw_mem (i := 237) (by decide +kernel) (by decide +kernel)
theorem wd_239 : Cond.instanceMethod yX4_addBank ∈ tw := tw_mem (i := 239) (by decide +kernel) (by decide +kernel)
theorem wd_240 : Cond.code yX4_addBank cX4_addBank 2 (some .int) ∈ tw := tw_mem (i := 240) (by decide +kernel) (by decide +kernel)
theorem wd_241 : Cond.methodLink RX4 205 yX1_banks ∈ tw := tw_mem (i := 241) (by decide +kernel) (by decide +kernel)
theorem wd_242 : Cond.instanceMethod yX1_banks ∈ tw := tw_mem (i := 242) (by decide +kernel) (by decide +kernel)
theorem wd_243 : Cond.selects RX1 yX1_banks yX1_banks ∈ tw := tw_mem (i := 243) (by decide +kernel) (by decide +kernel)
theorem wd_244 : Cond.code yX1_banks cX1_banks 1 (some .int) ∈ tw := tw_mem (i := 244) (by decide +kernel) (by decide +kernel)
theorem wd_245 : Cond.methodLink RX1 48 yX2_length ∈ tw := tw_mem (i := 245) (by decide +kernel) (by decide +kernel)
theorem wd_246 : Cond.instanceMethod yX2_length ∈ tw := tw_mem (i := 246) (by decide +kernel) (by decide +kernel)
theorem wd_247 : Cond.selects RX2 yX2_length yX2_length ∈ tw := tw_mem (i := 247) (by decide +kernel) (by decide +kernel)
theorem wd_248 : Cond.code yX2_length cX2_length 1 (some .int) ∈ tw := tw_mem (i := 248) (by decide +kernel) (by decide +kernel)
theorem wd_249 : Cond.methodLink RX4 257 yX4_refuse ∈ tw := tw_mem (i := 249) (by decide +kernel) (by decide +kernel)
theorem wd_251 : Cond.instanceMethod yX4_refuse ∈ tw := tw_mem (i := 251) (by decide +kernel) (by decide +kernel)
theorem wd_252 : Cond.code yX4_refuse cX4_refuse 3 (some .int) ∈ tw := tw_mem (i := 252) (by decide +kernel) (by decide +kernel)
theorem wd_253 : Cond.methodLink RX4 260 yX1_addBankOf ∈ tw := tw_mem (i := 253) (by decide +kernel) (by decide +kernel)
theorem wd_254 : Cond.instanceMethod yX1_addBankOf ∈ tw := tw_mem (i := 254) (by decide +kernel) (by decide +kernel)
theorem wd_255 : Cond.selects RX1 yX1_addBankOf yX1_addBankOf ∈ tw := tw_mem (i := 255) (by decide +kernel) (by decide +kernel)
theorem wd_256 : Cond.code yX1_addBankOf cX1_addBankOf 3 (some .int) ∈ tw := tw_mem (i := 256) (by decide +kernel) (by decide +kernel)
theorem wd_257 : Cond.methodLink RX1 71 yX2_add ∈ tw := tw_mem (i := 257) (by decide +kernel) (by decide +kernel)
theorem wd_258 : Cond.methodLink RX4 57 yX4_settle ∈ tw := tw_mem (i := 258) (by decide +kernel) (by decide +kernel)
theorem wd_260 : Cond.instanceMethod yX4_settle ∈ tw := tw_mem (i := 260) (by decide +kernel) (by decide +kernel)
theorem wd_261 : Cond.code yX4_settle cX4_settle 2 (some .int) ∈ tw := tw_mem (i := 261) (by decide +kernel) (by decide +kernel)
theorem wd_262 : Cond.methodLink RX4 289 yX0_confirm ∈ tw := tw_mem (i := 262) (by decide +kernel) (by decide +kernel)
theorem wd_263 : Cond.instanceMethod yX0_confirm ∈ tw := tw_mem (i := 263) (by decide +kernel) (by decide +kernel)
theorem wd_264 : Cond.selects RX0 yX0_confirm yX0_confirm ∈ tw := tw_mem (i := 264) (by decide +kernel) (by decide +kernel)
theorem wd_265 : Cond.code yX0_confirm cX0_confirm 1 none ∈ tw := tw_mem (i := 265) (by decide +kernel) (by decide +kernel)
theorem wd_266 : Cond.methodLink RX0 29 Lib.Math.min.name ∈ tw := tw_mem (i := 266) (by decide +kernel) (by decide +kernel)
theorem wd_267 : Cond.static Lib.Math.min.name ∈ tw := tw_mem (i := 267) (by decide +kernel) (by decide +kernel)
theorem wd_268 : Cond.code Lib.Math.min.name Lib.Math.min.code 2 (some .int) ∈ tw := tw_mem (i := 268) (by decide +kernel) (by decide +kernel)
theorem wd_273 : Cond.methodLink RX4 60 yX4_setWeight ∈ tw := tw_mem (i := 273) (by decide +kernel) (by decide +kernel)
theorem wd_275 : Cond.instanceMethod yX4_setWeight ∈ tw := tw_mem (i := 275) (by decide +kernel) (by decide +kernel)
theorem wd_276 : Cond.code yX4_setWeight cX4_setWeight 4 (some .int) ∈ tw := tw_mem (i := 276) (by decide +kernel) (by decide +kernel)
theorem wd_277 : Cond.methodLink RX4 89 yX1_has ∈ tw := tw_mem (i := 277) (by decide +kernel) (by decide +kernel)
theorem wd_278 : Cond.instanceMethod yX1_has ∈ tw := tw_mem (i := 278) (by decide +kernel) (by decide +kernel)
theorem wd_279 : Cond.selects RX1 yX1_has yX1_has ∈ tw := tw_mem (i := 279) (by decide +kernel) (by decide +kernel)
theorem wd_280 : Cond.code yX1_has cX1_has 2 (some .boolean) ∈ tw := tw_mem (i := 280) (by decide +kernel) (by decide +kernel)
theorem wd_281 : Cond.methodLink RX4 93 yX1_weightOf ∈ tw := tw_mem (i := 281) (by decide +kernel) (by decide +kernel)
theorem wd_282 : Cond.instanceMethod yX1_weightOf ∈ tw := tw_mem (i := 282) (by decide +kernel) (by decide +kernel)
theorem wd_283 : Cond.selects RX1 yX1_weightOf yX1_weightOf ∈ tw := tw_mem (i := 283) (by decide +kernel) (by decide +kernel)
theorem wd_284 : Cond.code yX1_weightOf cX1_weightOf 2 (some .int) ∈ tw := tw_mem (i := 284) (by decide +kernel) (by decide +kernel)
theorem wd_285 : Cond.methodLink RX1 52 yX2_get ∈ tw := tw_mem (i := 285) (by decide +kernel) (by decide +kernel)
theorem wd_286 : Cond.methodLink RX4 263 yX1_putWeight ∈ tw := tw_mem (i := 286) (by decide +kernel) (by decide +kernel)
theorem wd_287 : Cond.instanceMethod yX1_putWeight ∈ tw := tw_mem (i := 287) (by decide +kernel) (by decide +kernel)
theorem wd_288 : Cond.selects RX1 yX1_putWeight yX1_putWeight ∈ tw := tw_mem (i := 288) (by decide +kernel) (by decide +kernel)
theorem wd_289 : Cond.code yX1_putWeight cX1_putWeight 3 none ∈ tw := tw_mem (i := 289) (by decide +kernel) (by decide +kernel)
theorem wd_290 : Cond.methodLink RX1 74 yX2_put ∈ tw := tw_mem (i := 290) (by decide +kernel) (by decide +kernel)
theorem wd_291 : Cond.instanceMethod yX2_put ∈ tw := tw_mem (i := 291) (by decide +kernel) (by decide +kernel)
theorem wd_292 : Cond.selects RX2 yX2_put yX2_put ∈ tw := tw_mem (i := 292) (by decide +kernel) (by decide +kernel)
theorem wd_293 : Cond.code yX2_put cX2_put 3 none ∈ tw := tw_mem (i := 293) (by decide +kernel) (by decide +kernel)
theorem wd_298 : Cond.methodLink RX4 64 yX4_joinBanks ∈ tw := tw_mem (i := 298) (by decide +kernel) (by decide +kernel)
theorem wd_300 : Cond.instanceMethod yX4_joinBanks ∈ tw := tw_mem (i := 300) (by decide +kernel) (by decide +kernel)
theorem wd_301 : Cond.code yX4_joinBanks cX4_joinBanks 3 (some .int) ∈ tw := tw_mem (i := 301) (by decide +kernel) (by decide +kernel)
theorem wd_302 : Cond.methodLink RX4 76 yX4_areThere ∈ tw := tw_mem (i := 302) (by decide +kernel) (by decide +kernel)
theorem wd_304 : Cond.instanceMethod yX4_areThere ∈ tw := tw_mem (i := 304) (by decide +kernel) (by decide +kernel)
theorem wd_305 : Cond.code yX4_areThere cX4_areThere 3 (some .boolean) ∈ tw := tw_mem (i := 305) (by decide +kernel) (by decide +kernel)
theorem wd_306 : Cond.methodLink RX4 80 yX1_isOnePart ∈ tw := tw_mem (i := 306) (by decide +kernel) (by decide +kernel)
theorem wd_307 : Cond.instanceMethod yX1_isOnePart ∈ tw := tw_mem (i := 307) (by decide +kernel) (by decide +kernel)
theorem wd_308 : Cond.selects RX1 yX1_isOnePart yX1_isOnePart ∈ tw := tw_mem (i := 308) (by decide +kernel) (by decide +kernel)
theorem wd_309 : Cond.code yX1_isOnePart cX1_isOnePart 3 (some .boolean) ∈ tw := tw_mem (i := 309) (by decide +kernel) (by decide +kernel)
theorem wd_310 : Cond.methodLink RX1 87 yX1_roundOf ∈ tw := tw_mem (i := 310) (by decide +kernel) (by decide +kernel)
theorem wd_311 : Cond.instanceMethod yX1_roundOf ∈ tw := tw_mem (i := 311) (by decide +kernel) (by decide +kernel)
theorem wd_312 : Cond.selects RX1 yX1_roundOf yX1_roundOf ∈ tw := tw_mem (i := 312) (by decide +kernel) (by decide +kernel)
theorem wd_313 : Cond.code yX1_roundOf cX1_roundOf 2 (some (.object "FerryRounds$Row")) ∈ tw := tw_mem (i := 313) (by decide +kernel) (by decide +kernel)
theorem wd_314 : Cond.methodLink RX1 109 yX1_rootOf ∈ tw := tw_mem (i := 314) (by decide +kernel) (by decide +kernel)
theorem wd_315 : Cond.instanceMethod yX1_rootOf ∈ tw := tw_mem (i := 315) (by decide +kernel) (by decide +kernel)
theorem wd_316 : Cond.selects RX1 yX1_rootOf yX1_rootOf ∈ tw := tw_mem (i := 316) (by decide +kernel) (by decide +kernel)
theorem wd_317 : Cond.code yX1_rootOf cX1_rootOf 3 (some .int) ∈ tw := tw_mem (i := 317) (by decide +kernel) (by decide +kernel)
theorem wd_318 : Cond.methodLink RX1 90 yX2_firstOf ∈ tw := tw_mem (i := 318) (by decide +kernel) (by decide +kernel)
theorem wd_319 : Cond.instanceMethod yX2_firstOf ∈ tw := tw_mem (i := 319) (by decide +kernel) (by decide +kernel)
theorem wd_320 : Cond.selects RX2 yX2_firstOf yX2_firstOf ∈ tw := tw_mem (i := 320) (by decide +kernel) (by decide +kernel)
theorem wd_321 : Cond.code yX2_firstOf cX2_firstOf 3 (some .int) ∈ tw := tw_mem (i := 321) (by decide +kernel) (by decide +kernel)
theorem wd_322 : Cond.methodLink RX4 96 yX1_rootOf ∈ tw := tw_mem (i := 322) (by decide +kernel) (by decide +kernel)
theorem wd_323 : Cond.methodLink RX4 267 yX1_turnTo ∈ tw := tw_mem (i := 323) (by decide +kernel) (by decide +kernel)
theorem wd_324 : Cond.instanceMethod yX1_turnTo ∈ tw := tw_mem (i := 324) (by decide +kernel) (by decide +kernel)
theorem wd_325 : Cond.selects RX1 yX1_turnTo yX1_turnTo ∈ tw := tw_mem (i := 325) (by decide +kernel) (by decide +kernel)
theorem wd_326 : Cond.code yX1_turnTo cX1_turnTo 5 none ∈ tw := tw_mem (i := 326) (by decide +kernel) (by decide +kernel)
theorem wd_327 : Cond.methodLink RX1 93 yX2_addPlaces ∈ tw := tw_mem (i := 327) (by decide +kernel) (by decide +kernel)
theorem wd_328 : Cond.instanceMethod yX2_addPlaces ∈ tw := tw_mem (i := 328) (by decide +kernel) (by decide +kernel)
theorem wd_329 : Cond.selects RX2 yX2_addPlaces yX2_addPlaces ∈ tw := tw_mem (i := 329) (by decide +kernel) (by decide +kernel)
theorem wd_330 : Cond.code yX2_addPlaces cX2_addPlaces 5 none ∈ tw := tw_mem (i := 330) (by decide +kernel) (by decide +kernel)
theorem wd_331 : Cond.methodLink RX1 97 yX2_clear ∈ tw := tw_mem (i := 331) (by decide +kernel) (by decide +kernel)
theorem wd_332 : Cond.instanceMethod yX2_clear ∈ tw := tw_mem (i := 332) (by decide +kernel) (by decide +kernel)
theorem wd_333 : Cond.selects RX2 yX2_clear yX2_clear ∈ tw := tw_mem (i := 333) (by decide +kernel) (by decide +kernel)
theorem wd_334 : Cond.code yX2_clear cX2_clear 1 none ∈ tw := tw_mem (i := 334) (by decide +kernel) (by decide +kernel)
theorem wd_335 : Cond.methodLink RX4 270 yX1_tie ∈ tw := tw_mem (i := 335) (by decide +kernel) (by decide +kernel)
theorem wd_336 : Cond.instanceMethod yX1_tie ∈ tw := tw_mem (i := 336) (by decide +kernel) (by decide +kernel)
theorem wd_337 : Cond.selects RX1 yX1_tie yX1_tie ∈ tw := tw_mem (i := 337) (by decide +kernel) (by decide +kernel)
theorem wd_338 : Cond.code yX1_tie cX1_tie 6 none ∈ tw := tw_mem (i := 338) (by decide +kernel) (by decide +kernel)
theorem wd_339 : Cond.methodLink RX1 100 yX2_shorten ∈ tw := tw_mem (i := 339) (by decide +kernel) (by decide +kernel)
theorem wd_340 : Cond.instanceMethod yX2_shorten ∈ tw := tw_mem (i := 340) (by decide +kernel) (by decide +kernel)
theorem wd_341 : Cond.selects RX2 yX2_shorten yX2_shorten ∈ tw := tw_mem (i := 341) (by decide +kernel) (by decide +kernel)
theorem wd_342 : Cond.code yX2_shorten cX2_shorten 2 none ∈ tw := tw_mem (i := 342) (by decide +kernel) (by decide +kernel)
theorem wd_343 : Cond.methodLink RX1 63 yX1_ropesOf ∈ tw := tw_mem (i := 343) (by decide +kernel) (by decide +kernel)
theorem wd_344 : Cond.instanceMethod yX1_ropesOf ∈ tw := tw_mem (i := 344) (by decide +kernel) (by decide +kernel)
theorem wd_345 : Cond.selects RX1 yX1_ropesOf yX1_ropesOf ∈ tw := tw_mem (i := 345) (by decide +kernel) (by decide +kernel)
theorem wd_346 : Cond.code yX1_ropesOf cX1_ropesOf 2 (some .int) ∈ tw := tw_mem (i := 346) (by decide +kernel) (by decide +kernel)
theorem wd_347 : Cond.methodLink RX1 59 yX1_has ∈ tw := tw_mem (i := 347) (by decide +kernel) (by decide +kernel)
theorem wd_349 : Cond.static yX4_bit ∈ tw := tw_mem (i := 349) (by decide +kernel) (by decide +kernel)
theorem wd_350 : Cond.code yX4_bit cX4_bit 1 (some .int) ∈ tw := tw_mem (i := 350) (by decide +kernel) (by decide +kernel)
theorem wd_351 : Cond.methodLink RX4 135 yX1_banksWith ∈ tw := tw_mem (i := 351) (by decide +kernel) (by decide +kernel)
theorem wd_352 : Cond.instanceMethod yX1_banksWith ∈ tw := tw_mem (i := 352) (by decide +kernel) (by decide +kernel)
theorem wd_353 : Cond.selects RX1 yX1_banksWith yX1_banksWith ∈ tw := tw_mem (i := 353) (by decide +kernel) (by decide +kernel)
theorem wd_354 : Cond.code yX1_banksWith cX1_banksWith 2 (some .int) ∈ tw := tw_mem (i := 354) (by decide +kernel) (by decide +kernel)
theorem wd_355 : Cond.methodLink RX1 115 yX2_setOfAll ∈ tw := tw_mem (i := 355) (by decide +kernel) (by decide +kernel)
theorem wd_356 : Cond.instanceMethod yX2_setOfAll ∈ tw := tw_mem (i := 356) (by decide +kernel) (by decide +kernel)
theorem wd_357 : Cond.selects RX2 yX2_setOfAll yX2_setOfAll ∈ tw := tw_mem (i := 357) (by decide +kernel) (by decide +kernel)
theorem wd_358 : Cond.code yX2_setOfAll cX2_setOfAll 1 (some .int) ∈ tw := tw_mem (i := 358) (by decide +kernel) (by decide +kernel)
theorem wd_359 : Cond.methodLink RX2 34 yX2_setOf ∈ tw := tw_mem (i := 359) (by decide +kernel) (by decide +kernel)
theorem wd_360 : Cond.instanceMethod yX2_setOf ∈ tw := tw_mem (i := 360) (by decide +kernel) (by decide +kernel)
theorem wd_361 : Cond.selects RX2 yX2_setOf yX2_setOf ∈ tw := tw_mem (i := 361) (by decide +kernel) (by decide +kernel)
theorem wd_362 : Cond.code yX2_setOf cX2_setOf 5 (some .int) ∈ tw := tw_mem (i := 362) (by decide +kernel) (by decide +kernel)
theorem wd_364 : Cond.methodLink RX4 115 yJ6_bitCount_0f7a4 ∈ tw := tw_mem (i := 364) (by decide +kernel) (by decide +kernel)
theorem wd_365 : Cond.static yJ6_bitCount_0f7a4 ∈ tw := tw_mem (i := 365) (by decide +kernel) (by decide +kernel)
theorem wd_366 : Cond.code yJ6_bitCount_0f7a4 cJ6_bitCount_0f7a4 1 (some .int) ∈ tw := tw_mem (i := 366) (by decide +kernel) (by decide +kernel)
theorem wd_367 : Cond.constant RJ6 265 (1431655765) ∈ tw := tw_mem (i := 367) (by decide +kernel) (by decide +kernel)
theorem wd_368 : Cond.constant RJ6 266 (858993459) ∈ tw := tw_mem (i := 368) (by decide +kernel) (by decide +kernel)
theorem wd_369 : Cond.constant RJ6 267 (252645135) ∈ tw := tw_mem (i := 369) (by decide +kernel) (by decide +kernel)
theorem wd_374 : Cond.methodLink RX4 67 yX4_cutRope ∈ tw := tw_mem (i := 374) (by decide +kernel) (by decide +kernel)
theorem wd_376 : Cond.instanceMethod yX4_cutRope ∈ tw := tw_mem (i := 376) (by decide +kernel) (by decide +kernel)
theorem wd_377 : Cond.code yX4_cutRope cX4_cutRope 4 (some .int) ∈ tw := tw_mem (i := 377) (by decide +kernel) (by decide +kernel)
theorem wd_378 : Cond.methodLink RX4 148 yX1_isTied ∈ tw := tw_mem (i := 378) (by decide +kernel) (by decide +kernel)
theorem wd_379 : Cond.instanceMethod yX1_isTied ∈ tw := tw_mem (i := 379) (by decide +kernel) (by decide +kernel)
theorem wd_380 : Cond.selects RX1 yX1_isTied yX1_isTied ∈ tw := tw_mem (i := 380) (by decide +kernel) (by decide +kernel)
theorem wd_381 : Cond.code yX1_isTied cX1_isTied 3 (some .boolean) ∈ tw := tw_mem (i := 381) (by decide +kernel) (by decide +kernel)
theorem wd_382 : Cond.methodLink RX4 160 yX1_lowerOf ∈ tw := tw_mem (i := 382) (by decide +kernel) (by decide +kernel)
theorem wd_383 : Cond.instanceMethod yX1_lowerOf ∈ tw := tw_mem (i := 383) (by decide +kernel) (by decide +kernel)
theorem wd_384 : Cond.selects RX1 yX1_lowerOf yX1_lowerOf ∈ tw := tw_mem (i := 384) (by decide +kernel) (by decide +kernel)
theorem wd_385 : Cond.code yX1_lowerOf cX1_lowerOf 4 (some .int) ∈ tw := tw_mem (i := 385) (by decide +kernel) (by decide +kernel)
theorem wd_386 : Cond.methodLink RX4 273 yX1_untie ∈ tw := tw_mem (i := 386) (by decide +kernel) (by decide +kernel)
theorem wd_387 : Cond.instanceMethod yX1_untie ∈ tw := tw_mem (i := 387) (by decide +kernel) (by decide +kernel)
theorem wd_388 : Cond.selects RX1 yX1_untie yX1_untie ∈ tw := tw_mem (i := 388) (by decide +kernel) (by decide +kernel)
theorem wd_389 : Cond.code yX1_untie cX1_untie 6 none ∈ tw := tw_mem (i := 389) (by decide +kernel) (by decide +kernel)
theorem wd_390 : Cond.methodLink RX1 103 yX2_lastOf ∈ tw := tw_mem (i := 390) (by decide +kernel) (by decide +kernel)
theorem wd_391 : Cond.instanceMethod yX2_lastOf ∈ tw := tw_mem (i := 391) (by decide +kernel) (by decide +kernel)
theorem wd_392 : Cond.selects RX2 yX2_lastOf yX2_lastOf ∈ tw := tw_mem (i := 392) (by decide +kernel) (by decide +kernel)
theorem wd_393 : Cond.code yX2_lastOf cX2_lastOf 3 (some .int) ∈ tw := tw_mem (i := 393) (by decide +kernel) (by decide +kernel)
theorem wd_394 : Cond.methodLink RX1 106 yX2_dropPlaces ∈ tw := tw_mem (i := 394) (by decide +kernel) (by decide +kernel)
theorem wd_395 : Cond.instanceMethod yX2_dropPlaces ∈ tw := tw_mem (i := 395) (by decide +kernel) (by decide +kernel)
theorem wd_396 : Cond.selects RX2 yX2_dropPlaces yX2_dropPlaces ∈ tw := tw_mem (i := 396) (by decide +kernel) (by decide +kernel)
theorem wd_397 : Cond.code yX2_dropPlaces cX2_dropPlaces 5 none ∈ tw := tw_mem (i := 397) (by decide +kernel) (by decide +kernel)
theorem wd_398 : Cond.methodLink RX2 27 yX2_put ∈ tw := tw_mem (i := 398) (by decide +kernel) (by decide +kernel)
theorem wd_399 : Cond.methodLink RX2 31 yX2_shorten ∈ tw := tw_mem (i := 399) (by decide +kernel) (by decide +kernel)
theorem wd_404 : Cond.methodLink RX4 70 yX4_turnRound ∈ tw := tw_mem (i := 404) (by decide +kernel) (by decide +kernel)
theorem wd_406 : Cond.instanceMethod yX4_turnRound ∈ tw := tw_mem (i := 406) (by decide +kernel) (by decide +kernel)
theorem wd_407 : Cond.code yX4_turnRound cX4_turnRound 3 (some .int) ∈ tw := tw_mem (i := 407) (by decide +kernel) (by decide +kernel)
theorem wd_408 : Cond.methodLink RX4 276 yX1_countTurn ∈ tw := tw_mem (i := 408) (by decide +kernel) (by decide +kernel)
theorem wd_409 : Cond.instanceMethod yX1_countTurn ∈ tw := tw_mem (i := 409) (by decide +kernel) (by decide +kernel)
theorem wd_410 : Cond.selects RX1 yX1_countTurn yX1_countTurn ∈ tw := tw_mem (i := 410) (by decide +kernel) (by decide +kernel)
theorem wd_411 : Cond.code yX1_countTurn cX1_countTurn 1 none ∈ tw := tw_mem (i := 411) (by decide +kernel) (by decide +kernel)
theorem wd_416 : Cond.methodLink RX4 73 yX4_raisePart ∈ tw := tw_mem (i := 416) (by decide +kernel) (by decide +kernel)
theorem wd_418 : Cond.instanceMethod yX4_raisePart ∈ tw := tw_mem (i := 418) (by decide +kernel) (by decide +kernel)
theorem wd_419 : Cond.code yX4_raisePart cX4_raisePart 5 (some .int) ∈ tw := tw_mem (i := 419) (by decide +kernel) (by decide +kernel)
theorem wd_420 : Cond.methodLink RX4 279 yX1_raiseAll ∈ tw := tw_mem (i := 420) (by decide +kernel) (by decide +kernel)
theorem wd_421 : Cond.instanceMethod yX1_raiseAll ∈ tw := tw_mem (i := 421) (by decide +kernel) (by decide +kernel)
theorem wd_422 : Cond.selects RX1 yX1_raiseAll yX1_raiseAll ∈ tw := tw_mem (i := 422) (by decide +kernel) (by decide +kernel)
theorem wd_423 : Cond.code yX1_raiseAll cX1_raiseAll 7 (some .int) ∈ tw := tw_mem (i := 423) (by decide +kernel) (by decide +kernel)
theorem wd_424 : Cond.methodLink RX1 78 Lib.Math.min.name ∈ tw := tw_mem (i := 424) (by decide +kernel) (by decide +kernel)
theorem wd_425 : Cond.methodLink RX1 84 Lib.Math.max.name ∈ tw := tw_mem (i := 425) (by decide +kernel) (by decide +kernel)
theorem wd_426 : Cond.static Lib.Math.max.name ∈ tw := tw_mem (i := 426) (by decide +kernel) (by decide +kernel)
theorem wd_427 : Cond.code Lib.Math.max.name Lib.Math.max.code 2 (some .int) ∈ tw := tw_mem (i := 427) (by decide +kernel) (by decide +kernel)
theorem wd_436 : Cond.methodLink RX4 83 yX1_reached ∈ tw := tw_mem (i := 436) (by decide +kernel) (by decide +kernel)
theorem wd_437 : Cond.instanceMethod yX1_reached ∈ tw := tw_mem (i := 437) (by decide +kernel) (by decide +kernel)
theorem wd_438 : Cond.selects RX1 yX1_reached yX1_reached ∈ tw := tw_mem (i := 438) (by decide +kernel) (by decide +kernel)
theorem wd_439 : Cond.code yX1_reached cX1_reached 8 (some .int) ∈ tw := tw_mem (i := 439) (by decide +kernel) (by decide +kernel)
theorem wd_441 : Cond.static yX4_lowestIn ∈ tw := tw_mem (i := 441) (by decide +kernel) (by decide +kernel)
theorem wd_442 : Cond.code yX4_lowestIn cX4_lowestIn 1 (some .int) ∈ tw := tw_mem (i := 442) (by decide +kernel) (by decide +kernel)
theorem wd_443 : Cond.methodLink RX4 86 yX4_bit ∈ tw := tw_mem (i := 443) (by decide +kernel) (by decide +kernel)
theorem wd_448 : Cond.methodLink RX4 99 yX1_depthOf ∈ tw := tw_mem (i := 448) (by decide +kernel) (by decide +kernel)
theorem wd_449 : Cond.instanceMethod yX1_depthOf ∈ tw := tw_mem (i := 449) (by decide +kernel) (by decide +kernel)
theorem wd_450 : Cond.selects RX1 yX1_depthOf yX1_depthOf ∈ tw := tw_mem (i := 450) (by decide +kernel) (by decide +kernel)
theorem wd_451 : Cond.code yX1_depthOf cX1_depthOf 2 (some .int) ∈ tw := tw_mem (i := 451) (by decide +kernel) (by decide +kernel)
theorem wd_452 : Cond.methodLink RX1 121 yX1_aboveOf ∈ tw := tw_mem (i := 452) (by decide +kernel) (by decide +kernel)
theorem wd_453 : Cond.instanceMethod yX1_aboveOf ∈ tw := tw_mem (i := 453) (by decide +kernel) (by decide +kernel)
theorem wd_454 : Cond.selects RX1 yX1_aboveOf yX1_aboveOf ∈ tw := tw_mem (i := 454) (by decide +kernel) (by decide +kernel)
theorem wd_455 : Cond.code yX1_aboveOf cX1_aboveOf 5 (some .int) ∈ tw := tw_mem (i := 455) (by decide +kernel) (by decide +kernel)
theorem wd_456 : Cond.methodLink RX1 118 yX2_setOf ∈ tw := tw_mem (i := 456) (by decide +kernel) (by decide +kernel)
theorem wd_457 : Cond.methodLink RX1 66 yJ6_bitCount_0f7a4 ∈ tw := tw_mem (i := 457) (by decide +kernel) (by decide +kernel)
theorem wd_458 : Cond.methodLink RX4 102 yX1_roundOf ∈ tw := tw_mem (i := 458) (by decide +kernel) (by decide +kernel)
theorem wd_459 : Cond.methodLink RX4 106 yX2_firstOf ∈ tw := tw_mem (i := 459) (by decide +kernel) (by decide +kernel)
theorem wd_460 : Cond.methodLink RX4 109 yX2_lastOf ∈ tw := tw_mem (i := 460) (by decide +kernel) (by decide +kernel)
theorem wd_461 : Cond.methodLink RX4 112 yX1_ropesOf ∈ tw := tw_mem (i := 461) (by decide +kernel) (by decide +kernel)
theorem wd_462 : Cond.methodLink RX4 120 yX1_justAbove ∈ tw := tw_mem (i := 462) (by decide +kernel) (by decide +kernel)
theorem wd_463 : Cond.instanceMethod yX1_justAbove ∈ tw := tw_mem (i := 463) (by decide +kernel) (by decide +kernel)
theorem wd_464 : Cond.selects RX1 yX1_justAbove yX1_justAbove ∈ tw := tw_mem (i := 464) (by decide +kernel) (by decide +kernel)
theorem wd_465 : Cond.code yX1_justAbove cX1_justAbove 4 (some .int) ∈ tw := tw_mem (i := 465) (by decide +kernel) (by decide +kernel)
theorem wd_466 : Cond.methodLink RX4 123 yX1_belowOf ∈ tw := tw_mem (i := 466) (by decide +kernel) (by decide +kernel)
theorem wd_467 : Cond.instanceMethod yX1_belowOf ∈ tw := tw_mem (i := 467) (by decide +kernel) (by decide +kernel)
theorem wd_468 : Cond.selects RX1 yX1_belowOf yX1_belowOf ∈ tw := tw_mem (i := 468) (by decide +kernel) (by decide +kernel)
theorem wd_469 : Cond.code yX1_belowOf cX1_belowOf 3 (some .int) ∈ tw := tw_mem (i := 469) (by decide +kernel) (by decide +kernel)
theorem wd_470 : Cond.methodLink RX4 126 yX1_weightOfAll ∈ tw := tw_mem (i := 470) (by decide +kernel) (by decide +kernel)
theorem wd_471 : Cond.instanceMethod yX1_weightOfAll ∈ tw := tw_mem (i := 471) (by decide +kernel) (by decide +kernel)
theorem wd_472 : Cond.selects RX1 yX1_weightOfAll yX1_weightOfAll ∈ tw := tw_mem (i := 472) (by decide +kernel) (by decide +kernel)
theorem wd_473 : Cond.code yX1_weightOfAll cX1_weightOfAll 4 (some .int) ∈ tw := tw_mem (i := 473) (by decide +kernel) (by decide +kernel)
theorem wd_478 : Cond.methodLink RX4 129 yX1_reachedBelow ∈ tw := tw_mem (i := 478) (by decide +kernel) (by decide +kernel)
theorem wd_479 : Cond.instanceMethod yX1_reachedBelow ∈ tw := tw_mem (i := 479) (by decide +kernel) (by decide +kernel)
theorem wd_480 : Cond.selects RX1 yX1_reachedBelow yX1_reachedBelow ∈ tw := tw_mem (i := 480) (by decide +kernel) (by decide +kernel)
theorem wd_481 : Cond.code yX1_reachedBelow cX1_reachedBelow 3 (some .int) ∈ tw := tw_mem (i := 481) (by decide +kernel) (by decide +kernel)
theorem wd_482 : Cond.methodLink RX1 136 yX1_reached ∈ tw := tw_mem (i := 482) (by decide +kernel) (by decide +kernel)
theorem wd_487 : Cond.methodLink RX4 132 yX2_get ∈ tw := tw_mem (i := 487) (by decide +kernel) (by decide +kernel)
theorem wd_492 : Cond.methodLink RX4 138 yX2_length ∈ tw := tw_mem (i := 492) (by decide +kernel) (by decide +kernel)
theorem wd_493 : Cond.methodLink RX4 142 yX1_greatestDepth ∈ tw := tw_mem (i := 493) (by decide +kernel) (by decide +kernel)
theorem wd_494 : Cond.instanceMethod yX1_greatestDepth ∈ tw := tw_mem (i := 494) (by decide +kernel) (by decide +kernel)
theorem wd_495 : Cond.selects RX1 yX1_greatestDepth yX1_greatestDepth ∈ tw := tw_mem (i := 495) (by decide +kernel) (by decide +kernel)
theorem wd_496 : Cond.code yX1_greatestDepth cX1_greatestDepth 4 (some .int) ∈ tw := tw_mem (i := 496) (by decide +kernel) (by decide +kernel)
theorem wd_497 : Cond.methodLink RX1 127 yX1_depthOf ∈ tw := tw_mem (i := 497) (by decide +kernel) (by decide +kernel)
theorem wd_498 : Cond.methodLink RX4 145 yX1_heaviestWith ∈ tw := tw_mem (i := 498) (by decide +kernel) (by decide +kernel)
theorem wd_499 : Cond.instanceMethod yX1_heaviestWith ∈ tw := tw_mem (i := 499) (by decide +kernel) (by decide +kernel)
theorem wd_500 : Cond.selects RX1 yX1_heaviestWith yX1_heaviestWith ∈ tw := tw_mem (i := 500) (by decide +kernel) (by decide +kernel)
theorem wd_501 : Cond.code yX1_heaviestWith cX1_heaviestWith 5 (some .int) ∈ tw := tw_mem (i := 501) (by decide +kernel) (by decide +kernel)
theorem wd_502 : Cond.methodLink RX1 130 yX1_weightOf ∈ tw := tw_mem (i := 502) (by decide +kernel) (by decide +kernel)
theorem wd_511 : Cond.methodLink RX4 151 yX1_aboveOf ∈ tw := tw_mem (i := 511) (by decide +kernel) (by decide +kernel)
theorem wd_516 : Cond.methodLink RX4 154 yX1_meetingOf ∈ tw := tw_mem (i := 516) (by decide +kernel) (by decide +kernel)
theorem wd_517 : Cond.instanceMethod yX1_meetingOf ∈ tw := tw_mem (i := 517) (by decide +kernel) (by decide +kernel)
theorem wd_518 : Cond.selects RX1 yX1_meetingOf yX1_meetingOf ∈ tw := tw_mem (i := 518) (by decide +kernel) (by decide +kernel)
theorem wd_519 : Cond.code yX1_meetingOf cX1_meetingOf 6 (some .int) ∈ tw := tw_mem (i := 519) (by decide +kernel) (by decide +kernel)
theorem wd_524 : Cond.methodLink RX4 157 yX1_stepsAbove ∈ tw := tw_mem (i := 524) (by decide +kernel) (by decide +kernel)
theorem wd_525 : Cond.instanceMethod yX1_stepsAbove ∈ tw := tw_mem (i := 525) (by decide +kernel) (by decide +kernel)
theorem wd_526 : Cond.selects RX1 yX1_stepsAbove yX1_stepsAbove ∈ tw := tw_mem (i := 526) (by decide +kernel) (by decide +kernel)
theorem wd_527 : Cond.code yX1_stepsAbove cX1_stepsAbove 5 (some .int) ∈ tw := tw_mem (i := 527) (by decide +kernel) (by decide +kernel)
theorem wd_528 : Cond.methodLink RX1 124 yX1_justAbove ∈ tw := tw_mem (i := 528) (by decide +kernel) (by decide +kernel)
theorem wd_537 : Cond.methodLink RX4 163 Lib.Math.abs.name ∈ tw := tw_mem (i := 537) (by decide +kernel) (by decide +kernel)
theorem wd_538 : Cond.static Lib.Math.abs.name ∈ tw := tw_mem (i := 538) (by decide +kernel) (by decide +kernel)
theorem wd_539 : Cond.code Lib.Math.abs.name Lib.Math.abs.code 1 (some .int) ∈ tw := tw_mem (i := 539) (by decide +kernel) (by decide +kernel)
theorem wd_544 : Cond.methodLink RX4 168 yX1_middleWith ∈ tw := tw_mem (i := 544) (by decide +kernel) (by decide +kernel)
theorem wd_545 : Cond.instanceMethod yX1_middleWith ∈ tw := tw_mem (i := 545) (by decide +kernel) (by decide +kernel)
theorem wd_546 : Cond.selects RX1 yX1_middleWith yX1_middleWith ∈ tw := tw_mem (i := 546) (by decide +kernel) (by decide +kernel)
theorem wd_547 : Cond.code yX1_middleWith cX1_middleWith 7 (some .int) ∈ tw := tw_mem (i := 547) (by decide +kernel) (by decide +kernel)
theorem wd_548 : Cond.methodLink RX1 146 yX1_banksWith ∈ tw := tw_mem (i := 548) (by decide +kernel) (by decide +kernel)
theorem wd_549 : Cond.methodLink RX1 149 yX1_heaviestLeftWithout ∈ tw := tw_mem (i := 549) (by decide +kernel) (by decide +kernel)
theorem wd_550 : Cond.instanceMethod yX1_heaviestLeftWithout ∈ tw := tw_mem (i := 550) (by decide +kernel) (by decide +kernel)
theorem wd_551 : Cond.selects RX1 yX1_heaviestLeftWithout yX1_heaviestLeftWithout ∈ tw := tw_mem (i := 551) (by decide +kernel) (by decide +kernel)
theorem wd_552 : Cond.code yX1_heaviestLeftWithout cX1_heaviestLeftWithout 4 (some .int) ∈ tw := tw_mem (i := 552) (by decide +kernel) (by decide +kernel)
theorem wd_553 : Cond.methodLink RX1 139 yX1_isTied ∈ tw := tw_mem (i := 553) (by decide +kernel) (by decide +kernel)
theorem wd_554 : Cond.methodLink RX1 143 yX1_weightOfAll ∈ tw := tw_mem (i := 554) (by decide +kernel) (by decide +kernel)
theorem wd_559 : Cond.methodLink RX4 171 yX1_rootRanked ∈ tw := tw_mem (i := 559) (by decide +kernel) (by decide +kernel)
theorem wd_560 : Cond.instanceMethod yX1_rootRanked ∈ tw := tw_mem (i := 560) (by decide +kernel) (by decide +kernel)
theorem wd_561 : Cond.selects RX1 yX1_rootRanked yX1_rootRanked ∈ tw := tw_mem (i := 561) (by decide +kernel) (by decide +kernel)
theorem wd_562 : Cond.code yX1_rootRanked cX1_rootRanked 3 (some .int) ∈ tw := tw_mem (i := 562) (by decide +kernel) (by decide +kernel)
theorem wd_563 : Cond.methodLink RX1 112 yX1_isRoot ∈ tw := tw_mem (i := 563) (by decide +kernel) (by decide +kernel)
theorem wd_564 : Cond.instanceMethod yX1_isRoot ∈ tw := tw_mem (i := 564) (by decide +kernel) (by decide +kernel)
theorem wd_565 : Cond.selects RX1 yX1_isRoot yX1_isRoot ∈ tw := tw_mem (i := 565) (by decide +kernel) (by decide +kernel)
theorem wd_566 : Cond.code yX1_isRoot cX1_isRoot 2 (some .boolean) ∈ tw := tw_mem (i := 566) (by decide +kernel) (by decide +kernel)
theorem wd_567 : Cond.methodLink RX1 152 yX1_partsAheadOf ∈ tw := tw_mem (i := 567) (by decide +kernel) (by decide +kernel)
theorem wd_569 : Cond.instanceMethod yX1_partsAheadOf ∈ tw := tw_mem (i := 569) (by decide +kernel) (by decide +kernel)
theorem wd_570 : Cond.code yX1_partsAheadOf cX1_partsAheadOf 4 (some .int) ∈ tw := tw_mem (i := 570) (by decide +kernel) (by decide +kernel)
theorem wd_571 : Cond.methodLink RX1 155 yX1_ranksAhead ∈ tw := tw_mem (i := 571) (by decide +kernel) (by decide +kernel)
theorem wd_573 : Cond.instanceMethod yX1_ranksAhead ∈ tw := tw_mem (i := 573) (by decide +kernel) (by decide +kernel)
theorem wd_574 : Cond.code yX1_ranksAhead cX1_ranksAhead 7 (some .boolean) ∈ tw := tw_mem (i := 574) (by decide +kernel) (by decide +kernel)
theorem wd_579 : Cond.methodLink RX4 174 yX2_clear ∈ tw := tw_mem (i := 579) (by decide +kernel) (by decide +kernel)
theorem wd_580 : Cond.methodLink RX4 177 yX2_addDigits ∈ tw := tw_mem (i := 580) (by decide +kernel) (by decide +kernel)
theorem wd_581 : Cond.instanceMethod yX2_addDigits ∈ tw := tw_mem (i := 581) (by decide +kernel) (by decide +kernel)
theorem wd_582 : Cond.selects RX2 yX2_addDigits yX2_addDigits ∈ tw := tw_mem (i := 582) (by decide +kernel) (by decide +kernel)
theorem wd_583 : Cond.code yX2_addDigits cX2_addDigits 2 none ∈ tw := tw_mem (i := 583) (by decide +kernel) (by decide +kernel)
theorem wd_584 : Cond.methodLink RX4 180 yX2_add ∈ tw := tw_mem (i := 584) (by decide +kernel) (by decide +kernel)
theorem wd_601 : Cond.methodLink RX4 183 yX3_faultIn ∈ tw := tw_mem (i := 601) (by decide +kernel) (by decide +kernel)
theorem wd_602 : Cond.instanceMethod yX3_faultIn ∈ tw := tw_mem (i := 602) (by decide +kernel) (by decide +kernel)
theorem wd_603 : Cond.selects RX3 yX3_faultIn yX3_faultIn ∈ tw := tw_mem (i := 603) (by decide +kernel) (by decide +kernel)
theorem wd_604 : Cond.code yX3_faultIn cX3_faultIn 3 (some .int) ∈ tw := tw_mem (i := 604) (by decide +kernel) (by decide +kernel)
theorem wd_605 : Cond.methodLink RX3 34 yX2_clear ∈ tw := tw_mem (i := 605) (by decide +kernel) (by decide +kernel)
theorem wd_606 : Cond.methodLink RX3 41 yX3_takeCommand ∈ tw := tw_mem (i := 606) (by decide +kernel) (by decide +kernel)
theorem wd_608 : Cond.instanceMethod yX3_takeCommand ∈ tw := tw_mem (i := 608) (by decide +kernel) (by decide +kernel)
theorem wd_609 : Cond.code yX3_takeCommand cX3_takeCommand 6 (some .boolean) ∈ tw := tw_mem (i := 609) (by decide +kernel) (by decide +kernel)
theorem wd_610 : Cond.methodLink RX3 30 yX2_get ∈ tw := tw_mem (i := 610) (by decide +kernel) (by decide +kernel)
theorem wd_611 : Cond.methodLink RX3 45 yX3_isKind ∈ tw := tw_mem (i := 611) (by decide +kernel) (by decide +kernel)
theorem wd_612 : Cond.static yX3_isKind ∈ tw := tw_mem (i := 612) (by decide +kernel) (by decide +kernel)
theorem wd_613 : Cond.code yX3_isKind cX3_isKind 1 (some .boolean) ∈ tw := tw_mem (i := 613) (by decide +kernel) (by decide +kernel)
theorem wd_614 : Cond.methodLink RX3 49 yX3_takeNumber ∈ tw := tw_mem (i := 614) (by decide +kernel) (by decide +kernel)
theorem wd_616 : Cond.instanceMethod yX3_takeNumber ∈ tw := tw_mem (i := 616) (by decide +kernel) (by decide +kernel)
theorem wd_617 : Cond.code yX3_takeNumber cX3_takeNumber 2 (some .boolean) ∈ tw := tw_mem (i := 617) (by decide +kernel) (by decide +kernel)
theorem wd_618 : Cond.methodLink RX3 62 yX3_isDigit ∈ tw := tw_mem (i := 618) (by decide +kernel) (by decide +kernel)
theorem wd_619 : Cond.static yX3_isDigit ∈ tw := tw_mem (i := 619) (by decide +kernel) (by decide +kernel)
theorem wd_620 : Cond.code yX3_isDigit cX3_isDigit 1 (some .boolean) ∈ tw := tw_mem (i := 620) (by decide +kernel) (by decide +kernel)
theorem wd_621 : Cond.methodLink RX3 55 yX3_fits ∈ tw := tw_mem (i := 621) (by decide +kernel) (by decide +kernel)
theorem wd_622 : Cond.static yX3_fits ∈ tw := tw_mem (i := 622) (by decide +kernel) (by decide +kernel)
theorem wd_623 : Cond.code yX3_fits cX3_fits 2 (some .boolean) ∈ tw := tw_mem (i := 623) (by decide +kernel) (by decide +kernel)
theorem wd_624 : Cond.methodLink RX3 59 yX2_add ∈ tw := tw_mem (i := 624) (by decide +kernel) (by decide +kernel)
theorem wd_625 : Cond.methodLink RX3 26 yX2_length ∈ tw := tw_mem (i := 625) (by decide +kernel) (by decide +kernel)
theorem wd_626 : Cond.methodLink RX4 187 yX3_commands ∈ tw := tw_mem (i := 626) (by decide +kernel) (by decide +kernel)
theorem wd_627 : Cond.instanceMethod yX3_commands ∈ tw := tw_mem (i := 627) (by decide +kernel) (by decide +kernel)
theorem wd_628 : Cond.selects RX3 yX3_commands yX3_commands ∈ tw := tw_mem (i := 628) (by decide +kernel) (by decide +kernel)
theorem wd_629 : Cond.code yX3_commands cX3_commands 1 (some .int) ∈ tw := tw_mem (i := 629) (by decide +kernel) (by decide +kernel)
theorem wd_630 : Cond.methodLink RX4 190 yX4_carryOut ∈ tw := tw_mem (i := 630) (by decide +kernel) (by decide +kernel)
theorem wd_632 : Cond.instanceMethod yX4_carryOut ∈ tw := tw_mem (i := 632) (by decide +kernel) (by decide +kernel)
theorem wd_633 : Cond.code yX4_carryOut cX4_carryOut 4 (some .int) ∈ tw := tw_mem (i := 633) (by decide +kernel) (by decide +kernel)
theorem wd_634 : Cond.methodLink RX4 282 yX3_firstOf ∈ tw := tw_mem (i := 634) (by decide +kernel) (by decide +kernel)
theorem wd_635 : Cond.instanceMethod yX3_firstOf ∈ tw := tw_mem (i := 635) (by decide +kernel) (by decide +kernel)
theorem wd_636 : Cond.selects RX3 yX3_firstOf yX3_firstOf ∈ tw := tw_mem (i := 636) (by decide +kernel) (by decide +kernel)
theorem wd_637 : Cond.code yX3_firstOf cX3_firstOf 2 (some .int) ∈ tw := tw_mem (i := 637) (by decide +kernel) (by decide +kernel)
theorem wd_638 : Cond.methodLink RX4 283 yX3_secondOf ∈ tw := tw_mem (i := 638) (by decide +kernel) (by decide +kernel)
theorem wd_639 : Cond.instanceMethod yX3_secondOf ∈ tw := tw_mem (i := 639) (by decide +kernel) (by decide +kernel)
theorem wd_640 : Cond.selects RX3 yX3_secondOf yX3_secondOf ∈ tw := tw_mem (i := 640) (by decide +kernel) (by decide +kernel)
theorem wd_641 : Cond.code yX3_secondOf cX3_secondOf 2 (some .int) ∈ tw := tw_mem (i := 641) (by decide +kernel) (by decide +kernel)
theorem wd_642 : Cond.methodLink RX4 286 yX3_kindOf ∈ tw := tw_mem (i := 642) (by decide +kernel) (by decide +kernel)
theorem wd_643 : Cond.instanceMethod yX3_kindOf ∈ tw := tw_mem (i := 643) (by decide +kernel) (by decide +kernel)
theorem wd_644 : Cond.selects RX3 yX3_kindOf yX3_kindOf ∈ tw := tw_mem (i := 644) (by decide +kernel) (by decide +kernel)
theorem wd_645 : Cond.code yX3_kindOf cX3_kindOf 2 (some .int) ∈ tw := tw_mem (i := 645) (by decide +kernel) (by decide +kernel)
theorem wd_646 : Cond.methodLink RX4 193 yX0_takeBack ∈ tw := tw_mem (i := 646) (by decide +kernel) (by decide +kernel)
theorem wd_647 : Cond.instanceMethod yX0_takeBack ∈ tw := tw_mem (i := 647) (by decide +kernel) (by decide +kernel)
theorem wd_648 : Cond.selects RX0 yX0_takeBack yX0_takeBack ∈ tw := tw_mem (i := 648) (by decide +kernel) (by decide +kernel)
theorem wd_649 : Cond.code yX0_takeBack cX0_takeBack 2 none ∈ tw := tw_mem (i := 649) (by decide +kernel) (by decide +kernel)
theorem wd_658 : Cond.methodLink RX4 208 yX1_ropes ∈ tw := tw_mem (i := 658) (by decide +kernel) (by decide +kernel)
theorem wd_659 : Cond.instanceMethod yX1_ropes ∈ tw := tw_mem (i := 659) (by decide +kernel) (by decide +kernel)
theorem wd_660 : Cond.selects RX1 yX1_ropes yX1_ropes ∈ tw := tw_mem (i := 660) (by decide +kernel) (by decide +kernel)
theorem wd_661 : Cond.code yX1_ropes cX1_ropes 3 (some .int) ∈ tw := tw_mem (i := 661) (by decide +kernel) (by decide +kernel)
theorem wd_662 : Cond.methodLink RX4 211 yX1_parts ∈ tw := tw_mem (i := 662) (by decide +kernel) (by decide +kernel)
theorem wd_663 : Cond.instanceMethod yX1_parts ∈ tw := tw_mem (i := 663) (by decide +kernel) (by decide +kernel)
theorem wd_664 : Cond.selects RX1 yX1_parts yX1_parts ∈ tw := tw_mem (i := 664) (by decide +kernel) (by decide +kernel)
theorem wd_665 : Cond.code yX1_parts cX1_parts 3 (some .int) ∈ tw := tw_mem (i := 665) (by decide +kernel) (by decide +kernel)
theorem wd_666 : Cond.methodLink RX4 214 yX1_allBanks ∈ tw := tw_mem (i := 666) (by decide +kernel) (by decide +kernel)
theorem wd_667 : Cond.instanceMethod yX1_allBanks ∈ tw := tw_mem (i := 667) (by decide +kernel) (by decide +kernel)
theorem wd_668 : Cond.selects RX1 yX1_allBanks yX1_allBanks ∈ tw := tw_mem (i := 668) (by decide +kernel) (by decide +kernel)
theorem wd_669 : Cond.code yX1_allBanks cX1_allBanks 1 (some .int) ∈ tw := tw_mem (i := 669) (by decide +kernel) (by decide +kernel)
theorem wd_670 : Cond.methodLink RX4 217 yX1_places ∈ tw := tw_mem (i := 670) (by decide +kernel) (by decide +kernel)
theorem wd_671 : Cond.instanceMethod yX1_places ∈ tw := tw_mem (i := 671) (by decide +kernel) (by decide +kernel)
theorem wd_672 : Cond.selects RX1 yX1_places yX1_places ∈ tw := tw_mem (i := 672) (by decide +kernel) (by decide +kernel)
theorem wd_673 : Cond.code yX1_places cX1_places 3 (some .int) ∈ tw := tw_mem (i := 673) (by decide +kernel) (by decide +kernel)
theorem wd_674 : Cond.methodLink RX4 220 yX1_joinsSoFar ∈ tw := tw_mem (i := 674) (by decide +kernel) (by decide +kernel)
theorem wd_675 : Cond.instanceMethod yX1_joinsSoFar ∈ tw := tw_mem (i := 675) (by decide +kernel) (by decide +kernel)
theorem wd_676 : Cond.selects RX1 yX1_joinsSoFar yX1_joinsSoFar ∈ tw := tw_mem (i := 676) (by decide +kernel) (by decide +kernel)
theorem wd_677 : Cond.code yX1_joinsSoFar cX1_joinsSoFar 1 (some .int) ∈ tw := tw_mem (i := 677) (by decide +kernel) (by decide +kernel)
theorem wd_678 : Cond.methodLink RX4 223 yX1_cutsSoFar ∈ tw := tw_mem (i := 678) (by decide +kernel) (by decide +kernel)
theorem wd_679 : Cond.instanceMethod yX1_cutsSoFar ∈ tw := tw_mem (i := 679) (by decide +kernel) (by decide +kernel)
theorem wd_680 : Cond.selects RX1 yX1_cutsSoFar yX1_cutsSoFar ∈ tw := tw_mem (i := 680) (by decide +kernel) (by decide +kernel)
theorem wd_681 : Cond.code yX1_cutsSoFar cX1_cutsSoFar 1 (some .int) ∈ tw := tw_mem (i := 681) (by decide +kernel) (by decide +kernel)
theorem wd_682 : Cond.methodLink RX4 226 yX1_turnsSoFar ∈ tw := tw_mem (i := 682) (by decide +kernel) (by decide +kernel)
theorem wd_683 : Cond.instanceMethod yX1_turnsSoFar ∈ tw := tw_mem (i := 683) (by decide +kernel) (by decide +kernel)
theorem wd_684 : Cond.selects RX1 yX1_turnsSoFar yX1_turnsSoFar ∈ tw := tw_mem (i := 684) (by decide +kernel) (by decide +kernel)
theorem wd_685 : Cond.code yX1_turnsSoFar cX1_turnsSoFar 1 (some .int) ∈ tw := tw_mem (i := 685) (by decide +kernel) (by decide +kernel)
theorem wd_686 : Cond.methodLink RX4 229 yX0_count ∈ tw := tw_mem (i := 686) (by decide +kernel) (by decide +kernel)
theorem wd_687 : Cond.instanceMethod yX0_count ∈ tw := tw_mem (i := 687) (by decide +kernel) (by decide +kernel)
theorem wd_688 : Cond.selects RX0 yX0_count yX0_count ∈ tw := tw_mem (i := 688) (by decide +kernel) (by decide +kernel)
theorem wd_689 : Cond.code yX0_count cX0_count 1 (some .int) ∈ tw := tw_mem (i := 689) (by decide +kernel) (by decide +kernel)
theorem wd_694 : Cond.methodLink RX4 232 yX1_isSound ∈ tw := tw_mem (i := 694) (by decide +kernel) (by decide +kernel)
theorem wd_695 : Cond.instanceMethod yX1_isSound ∈ tw := tw_mem (i := 695) (by decide +kernel) (by decide +kernel)
theorem wd_696 : Cond.selects RX1 yX1_isSound yX1_isSound ∈ tw := tw_mem (i := 696) (by decide +kernel) (by decide +kernel)
theorem wd_697 : Cond.code yX1_isSound cX1_isSound 2 (some .boolean) ∈ tw := tw_mem (i := 697) (by decide +kernel) (by decide +kernel)
theorem wd_698 : Cond.methodLink RX1 158 yX1_belowOf ∈ tw := tw_mem (i := 698) (by decide +kernel) (by decide +kernel)
theorem wd_699 : Cond.methodLink RX1 161 yX1_reachedBelow ∈ tw := tw_mem (i := 699) (by decide +kernel) (by decide +kernel)
theorem wd_700 : Cond.methodLink RX1 164 yX1_leavesOverEachRope ∈ tw := tw_mem (i := 700) (by decide +kernel) (by decide +kernel)
theorem wd_702 : Cond.instanceMethod yX1_leavesOverEachRope ∈ tw := tw_mem (i := 702) (by decide +kernel) (by decide +kernel)
theorem wd_703 : Cond.code yX1_leavesOverEachRope cX1_leavesOverEachRope 6 (some .boolean) ∈ tw := tw_mem (i := 703) (by decide +kernel) (by decide +kernel)
theorem wd_708 : Cond.methodLink RX4 236 yX1_sumOfDepths ∈ tw := tw_mem (i := 708) (by decide +kernel) (by decide +kernel)
theorem wd_709 : Cond.instanceMethod yX1_sumOfDepths ∈ tw := tw_mem (i := 709) (by decide +kernel) (by decide +kernel)
theorem wd_710 : Cond.selects RX1 yX1_sumOfDepths yX1_sumOfDepths ∈ tw := tw_mem (i := 710) (by decide +kernel) (by decide +kernel)
theorem wd_711 : Cond.code yX1_sumOfDepths cX1_sumOfDepths 3 (some .int) ∈ tw := tw_mem (i := 711) (by decide +kernel) (by decide +kernel)
theorem wd_712 : Cond.methodLink RX4 239 yX4_bitsOf ∈ tw := tw_mem (i := 712) (by decide +kernel) (by decide +kernel)
theorem wd_713 : Cond.static yX4_bitsOf ∈ tw := tw_mem (i := 713) (by decide +kernel) (by decide +kernel)
theorem wd_714 : Cond.code yX4_bitsOf cX4_bitsOf 4 (some .int) ∈ tw := tw_mem (i := 714) (by decide +kernel) (by decide +kernel)
theorem wd_715 : Cond.constantFloat RX4 292 (1258291200) ∈ tw := tw_mem (i := 715) (by decide +kernel) (by decide +kernel)
theorem wd_720 : Cond.methodLink RX4 243 yX0_goBack ∈ tw := tw_mem (i := 720) (by decide +kernel) (by decide +kernel)
theorem wd_721 : Cond.instanceMethod yX0_goBack ∈ tw := tw_mem (i := 721) (by decide +kernel) (by decide +kernel)
theorem wd_722 : Cond.selects RX0 yX0_goBack yX0_goBack ∈ tw := tw_mem (i := 722) (by decide +kernel) (by decide +kernel)
theorem wd_723 : Cond.code yX0_goBack cX0_goBack 2 (some .boolean) ∈ tw := tw_mem (i := 723) (by decide +kernel) (by decide +kernel)
theorem wd_724 : Cond.methodLink RX0 35 yX0_takeBack ∈ tw := tw_mem (i := 724) (by decide +kernel) (by decide +kernel)
theorem wd_729 : Cond.methodLink RX4 247 yX1_copyFrom ∈ tw := tw_mem (i := 729) (by decide +kernel) (by decide +kernel)
theorem wd_734 : Cond.methodLink RX4 254 yX0_forget ∈ tw := tw_mem (i := 734) (by decide +kernel) (by decide +kernel)
theorem wd_735 : Cond.instanceMethod yX0_forget ∈ tw := tw_mem (i := 735) (by decide +kernel) (by decide +kernel)
theorem wd_736 : Cond.selects RX0 yX0_forget yX0_forget ∈ tw := tw_mem (i := 736) (by decide +kernel) (by decide +kernel)
theorem wd_737 : Cond.code yX0_forget cX0_forget 1 none ∈ tw := tw_mem (i := 737) (by decide +kernel) (by decide +kernel)
theorem wd_746 : Cond.fieldLink RX5 9 "FerryRoundsModel" "now" "[I" ∈ tw := tw_mem (i := 746) (by decide +kernel) (by decide +kernel)
theorem wd_747 : Cond.fieldLink RX5 13 "FerryRoundsModel" "saved" "[I" ∈ tw := tw_mem (i := 747) (by decide +kernel) (by decide +kernel)
theorem wd_748 : Cond.fieldLink RX5 16 "FerryRoundsModel" "before" "[I" ∈ tw := tw_mem (i := 748) (by decide +kernel) (by decide +kernel)
theorem wd_749 : Cond.fieldLink RX5 21 "FerryRoundsModel" "history" "[[I" ∈ tw := tw_mem (i := 749) (by decide +kernel) (by decide +kernel)
theorem wd_750 : Cond.fieldLink RX5 51 "FerryRoundsModel" "kept" "I" ∈ tw := tw_mem (i := 750) (by decide +kernel) (by decide +kernel)
theorem wd_751 : Cond.fieldLink RX5 38 "FerryRoundsModel" "reason" "I" ∈ tw := tw_mem (i := 751) (by decide +kernel) (by decide +kernel)
theorem wd_752 : Cond.fieldLink RX5 41 "FerryRoundsModel" "detail" "I" ∈ tw := tw_mem (i := 752) (by decide +kernel) (by decide +kernel)
theorem wd_753 : Cond.fieldLink RX5 24 "FerryRoundsModel" "inText" "I" ∈ tw := tw_mem (i := 753) (by decide +kernel) (by decide +kernel)
theorem wd_754 : Cond.fieldLink RX5 48 "FerryRoundsModel" "command" "I" ∈ tw := tw_mem (i := 754) (by decide +kernel) (by decide +kernel)
theorem wd_755 : Cond.fieldLink RX5 272 "FerryRoundsModel" "isSaved" "Z" ∈ tw := tw_mem (i := 755) (by decide +kernel) (by decide +kernel)
theorem wd_756 : Cond.fieldLink RX5 44 "FerryRoundsModel" "isInText" "Z" ∈ tw := tw_mem (i := 756) (by decide +kernel) (by decide +kernel)
theorem wd_757 : Cond.fieldLink RX5 28 "FerryRoundsModel" "made" "[I" ∈ tw := tw_mem (i := 757) (by decide +kernel) (by decide +kernel)
theorem wd_758 : Cond.fieldLink RX5 31 "FerryRoundsModel" "line" "[C" ∈ tw := tw_mem (i := 758) (by decide +kernel) (by decide +kernel)
theorem wd_759 : Cond.fieldLink RX5 177 "FerryRoundsModel" "written" "I" ∈ tw := tw_mem (i := 759) (by decide +kernel) (by decide +kernel)
theorem wd_760 : Cond.fieldLink RX5 35 "FerryRoundsModel" "text" "[I" ∈ tw := tw_mem (i := 760) (by decide +kernel) (by decide +kernel)
theorem wd_761 : Cond.fieldLink RX5 187 "FerryRoundsModel" "length" "I" ∈ tw := tw_mem (i := 761) (by decide +kernel) (by decide +kernel)
theorem wd_762 : Cond.fieldLink RX5 193 "FerryRoundsModel" "at" "I" ∈ tw := tw_mem (i := 762) (by decide +kernel) (by decide +kernel)
theorem wd_763 : Cond.fieldLink RX5 218 "FerryRoundsModel" "toldOne" "I" ∈ tw := tw_mem (i := 763) (by decide +kernel) (by decide +kernel)
theorem wd_764 : Cond.fieldLink RX5 205 "FerryRoundsModel" "toldTwo" "I" ∈ tw := tw_mem (i := 764) (by decide +kernel) (by decide +kernel)
theorem wd_765 : Cond.fieldLink RX5 208 "FerryRoundsModel" "told" "I" ∈ tw := tw_mem (i := 765) (by decide +kernel) (by decide +kernel)
theorem wd_766 : Cond.fieldLink RX5 190 "FerryRoundsModel" "isWrong" "Z" ∈ tw := tw_mem (i := 766) (by decide +kernel) (by decide +kernel)
theorem wd_812 : Cond.instanceMethod yX5_bank ∈ tw := tw_mem (i := 812) (by decide +kernel) (by decide +kernel)
theorem wd_813 : Cond.selects RX5 yX5_bank yX5_bank ∈ tw := tw_mem (i := 813) (by decide +kernel) (by decide +kernel)
theorem wd_814 : Cond.code yX5_bank cX5_bank 4 (some .int) ∈ tw := tw_mem (i := 814) (by decide +kernel) (by decide +kernel)
theorem wd_815 : Cond.methodLink RX5 62 yX5_isBetween ∈ tw := tw_mem (i := 815) (by decide +kernel) (by decide +kernel)
theorem wd_816 : Cond.static yX5_isBetween ∈ tw := tw_mem (i := 816) (by decide +kernel) (by decide +kernel)
theorem wd_817 : Cond.code yX5_isBetween cX5_isBetween 3 (some .boolean) ∈ tw := tw_mem (i := 817) (by decide +kernel) (by decide +kernel)
theorem wd_818 : Cond.methodLink RX5 80 yX5_refuse ∈ tw := tw_mem (i := 818) (by decide +kernel) (by decide +kernel)
theorem wd_820 : Cond.instanceMethod yX5_refuse ∈ tw := tw_mem (i := 820) (by decide +kernel) (by decide +kernel)
theorem wd_821 : Cond.code yX5_refuse cX5_refuse 4 (some .boolean) ∈ tw := tw_mem (i := 821) (by decide +kernel) (by decide +kernel)
theorem wd_822 : Cond.methodLink RX5 84 yX5_change ∈ tw := tw_mem (i := 822) (by decide +kernel) (by decide +kernel)
theorem wd_824 : Cond.instanceMethod yX5_change ∈ tw := tw_mem (i := 824) (by decide +kernel) (by decide +kernel)
theorem wd_825 : Cond.code yX5_change cX5_change 1 none ∈ tw := tw_mem (i := 825) (by decide +kernel) (by decide +kernel)
theorem wd_826 : Cond.methodLink RX5 58 yX5_remember ∈ tw := tw_mem (i := 826) (by decide +kernel) (by decide +kernel)
theorem wd_828 : Cond.instanceMethod yX5_remember ∈ tw := tw_mem (i := 828) (by decide +kernel) (by decide +kernel)
theorem wd_829 : Cond.code yX5_remember cX5_remember 3 none ∈ tw := tw_mem (i := 829) (by decide +kernel) (by decide +kernel)
theorem wd_830 : Cond.methodLink RX5 54 yX5_copyRow ∈ tw := tw_mem (i := 830) (by decide +kernel) (by decide +kernel)
theorem wd_831 : Cond.static yX5_copyRow ∈ tw := tw_mem (i := 831) (by decide +kernel) (by decide +kernel)
theorem wd_832 : Cond.code yX5_copyRow cX5_copyRow 3 none ∈ tw := tw_mem (i := 832) (by decide +kernel) (by decide +kernel)
theorem wd_833 : Cond.methodLink RX5 87 yX5_emptyRound ∈ tw := tw_mem (i := 833) (by decide +kernel) (by decide +kernel)
theorem wd_835 : Cond.instanceMethod yX5_emptyRound ∈ tw := tw_mem (i := 835) (by decide +kernel) (by decide +kernel)
theorem wd_836 : Cond.code yX5_emptyRound cX5_emptyRound 2 (some .int) ∈ tw := tw_mem (i := 836) (by decide +kernel) (by decide +kernel)
theorem wd_837 : Cond.methodLink RX5 66 yX5_size ∈ tw := tw_mem (i := 837) (by decide +kernel) (by decide +kernel)
theorem wd_839 : Cond.instanceMethod yX5_size ∈ tw := tw_mem (i := 839) (by decide +kernel) (by decide +kernel)
theorem wd_840 : Cond.code yX5_size cX5_size 2 (some .int) ∈ tw := tw_mem (i := 840) (by decide +kernel) (by decide +kernel)
theorem wd_841 : Cond.methodLink RX5 91 yX5_setSize ∈ tw := tw_mem (i := 841) (by decide +kernel) (by decide +kernel)
theorem wd_843 : Cond.instanceMethod yX5_setSize ∈ tw := tw_mem (i := 843) (by decide +kernel) (by decide +kernel)
theorem wd_844 : Cond.code yX5_setSize cX5_setSize 3 none ∈ tw := tw_mem (i := 844) (by decide +kernel) (by decide +kernel)
theorem wd_845 : Cond.methodLink RX5 95 yX5_setPlace ∈ tw := tw_mem (i := 845) (by decide +kernel) (by decide +kernel)
theorem wd_847 : Cond.instanceMethod yX5_setPlace ∈ tw := tw_mem (i := 847) (by decide +kernel) (by decide +kernel)
theorem wd_848 : Cond.code yX5_setPlace cX5_setPlace 4 none ∈ tw := tw_mem (i := 848) (by decide +kernel) (by decide +kernel)
theorem wd_850 : Cond.instanceMethod yX5_weigh ∈ tw := tw_mem (i := 850) (by decide +kernel) (by decide +kernel)
theorem wd_851 : Cond.selects RX5 yX5_weigh yX5_weigh ∈ tw := tw_mem (i := 851) (by decide +kernel) (by decide +kernel)
theorem wd_852 : Cond.code yX5_weigh cX5_weigh 4 (some .int) ∈ tw := tw_mem (i := 852) (by decide +kernel) (by decide +kernel)
theorem wd_853 : Cond.methodLink RX5 99 yX5_isBank ∈ tw := tw_mem (i := 853) (by decide +kernel) (by decide +kernel)
theorem wd_855 : Cond.instanceMethod yX5_isBank ∈ tw := tw_mem (i := 855) (by decide +kernel) (by decide +kernel)
theorem wd_856 : Cond.code yX5_isBank cX5_isBank 2 (some .boolean) ∈ tw := tw_mem (i := 856) (by decide +kernel) (by decide +kernel)
theorem wd_857 : Cond.methodLink RX5 103 yX5_weight ∈ tw := tw_mem (i := 857) (by decide +kernel) (by decide +kernel)
theorem wd_859 : Cond.instanceMethod yX5_weight ∈ tw := tw_mem (i := 859) (by decide +kernel) (by decide +kernel)
theorem wd_860 : Cond.code yX5_weight cX5_weight 2 (some .int) ∈ tw := tw_mem (i := 860) (by decide +kernel) (by decide +kernel)
theorem wd_862 : Cond.instanceMethod yX5_join ∈ tw := tw_mem (i := 862) (by decide +kernel) (by decide +kernel)
theorem wd_863 : Cond.selects RX5 yX5_join yX5_join ∈ tw := tw_mem (i := 863) (by decide +kernel) (by decide +kernel)
theorem wd_864 : Cond.code yX5_join cX5_join 3 (some .int) ∈ tw := tw_mem (i := 864) (by decide +kernel) (by decide +kernel)
theorem wd_865 : Cond.methodLink RX5 110 yX5_areOne ∈ tw := tw_mem (i := 865) (by decide +kernel) (by decide +kernel)
theorem wd_867 : Cond.instanceMethod yX5_areOne ∈ tw := tw_mem (i := 867) (by decide +kernel) (by decide +kernel)
theorem wd_868 : Cond.code yX5_areOne cX5_areOne 3 (some .boolean) ∈ tw := tw_mem (i := 868) (by decide +kernel) (by decide +kernel)
theorem wd_869 : Cond.methodLink RX5 77 yX5_roundOf ∈ tw := tw_mem (i := 869) (by decide +kernel) (by decide +kernel)
theorem wd_871 : Cond.instanceMethod yX5_roundOf ∈ tw := tw_mem (i := 871) (by decide +kernel) (by decide +kernel)
theorem wd_872 : Cond.code yX5_roundOf cX5_roundOf 3 (some .int) ∈ tw := tw_mem (i := 872) (by decide +kernel) (by decide +kernel)
theorem wd_873 : Cond.methodLink RX5 74 yX5_firstIn ∈ tw := tw_mem (i := 873) (by decide +kernel) (by decide +kernel)
theorem wd_875 : Cond.instanceMethod yX5_firstIn ∈ tw := tw_mem (i := 875) (by decide +kernel) (by decide +kernel)
theorem wd_876 : Cond.code yX5_firstIn cX5_firstIn 4 (some .int) ∈ tw := tw_mem (i := 876) (by decide +kernel) (by decide +kernel)
theorem wd_877 : Cond.methodLink RX5 70 yX5_place ∈ tw := tw_mem (i := 877) (by decide +kernel) (by decide +kernel)
theorem wd_879 : Cond.instanceMethod yX5_place ∈ tw := tw_mem (i := 879) (by decide +kernel) (by decide +kernel)
theorem wd_880 : Cond.code yX5_place cX5_place 3 (some .int) ∈ tw := tw_mem (i := 880) (by decide +kernel) (by decide +kernel)
theorem wd_881 : Cond.methodLink RX5 114 yX5_root ∈ tw := tw_mem (i := 881) (by decide +kernel) (by decide +kernel)
theorem wd_883 : Cond.instanceMethod yX5_root ∈ tw := tw_mem (i := 883) (by decide +kernel) (by decide +kernel)
theorem wd_884 : Cond.code yX5_root cX5_root 2 (some .int) ∈ tw := tw_mem (i := 884) (by decide +kernel) (by decide +kernel)
theorem wd_885 : Cond.methodLink RX5 117 yX5_putIn ∈ tw := tw_mem (i := 885) (by decide +kernel) (by decide +kernel)
theorem wd_887 : Cond.instanceMethod yX5_putIn ∈ tw := tw_mem (i := 887) (by decide +kernel) (by decide +kernel)
theorem wd_888 : Cond.code yX5_putIn cX5_putIn 8 none ∈ tw := tw_mem (i := 888) (by decide +kernel) (by decide +kernel)
theorem wd_889 : Cond.methodLink RX5 106 yX5_turnTo ∈ tw := tw_mem (i := 889) (by decide +kernel) (by decide +kernel)
theorem wd_891 : Cond.instanceMethod yX5_turnTo ∈ tw := tw_mem (i := 891) (by decide +kernel) (by decide +kernel)
theorem wd_892 : Cond.code yX5_turnTo cX5_turnTo 6 none ∈ tw := tw_mem (i := 892) (by decide +kernel) (by decide +kernel)
theorem wd_893 : Cond.methodLink RX5 120 yX5_banksOf ∈ tw := tw_mem (i := 893) (by decide +kernel) (by decide +kernel)
theorem wd_895 : Cond.instanceMethod yX5_banksOf ∈ tw := tw_mem (i := 895) (by decide +kernel) (by decide +kernel)
theorem wd_896 : Cond.code yX5_banksOf cX5_banksOf 2 (some .int) ∈ tw := tw_mem (i := 896) (by decide +kernel) (by decide +kernel)
theorem wd_898 : Cond.instanceMethod yX5_cut ∈ tw := tw_mem (i := 898) (by decide +kernel) (by decide +kernel)
theorem wd_899 : Cond.selects RX5 yX5_cut yX5_cut ∈ tw := tw_mem (i := 899) (by decide +kernel) (by decide +kernel)
theorem wd_900 : Cond.code yX5_cut cX5_cut 10 (some .int) ∈ tw := tw_mem (i := 900) (by decide +kernel) (by decide +kernel)
theorem wd_901 : Cond.methodLink RX5 126 yX5_isTied ∈ tw := tw_mem (i := 901) (by decide +kernel) (by decide +kernel)
theorem wd_903 : Cond.instanceMethod yX5_isTied ∈ tw := tw_mem (i := 903) (by decide +kernel) (by decide +kernel)
theorem wd_904 : Cond.code yX5_isTied cX5_isTied 5 (some .boolean) ∈ tw := tw_mem (i := 904) (by decide +kernel) (by decide +kernel)
theorem wd_905 : Cond.methodLink RX5 129 yX5_lower ∈ tw := tw_mem (i := 905) (by decide +kernel) (by decide +kernel)
theorem wd_907 : Cond.instanceMethod yX5_lower ∈ tw := tw_mem (i := 907) (by decide +kernel) (by decide +kernel)
theorem wd_908 : Cond.code yX5_lower cX5_lower 3 (some .int) ∈ tw := tw_mem (i := 908) (by decide +kernel) (by decide +kernel)
theorem wd_909 : Cond.methodLink RX5 123 yX5_first ∈ tw := tw_mem (i := 909) (by decide +kernel) (by decide +kernel)
theorem wd_911 : Cond.instanceMethod yX5_first ∈ tw := tw_mem (i := 911) (by decide +kernel) (by decide +kernel)
theorem wd_912 : Cond.code yX5_first cX5_first 2 (some .int) ∈ tw := tw_mem (i := 912) (by decide +kernel) (by decide +kernel)
theorem wd_913 : Cond.methodLink RX5 132 yX5_last ∈ tw := tw_mem (i := 913) (by decide +kernel) (by decide +kernel)
theorem wd_915 : Cond.instanceMethod yX5_last ∈ tw := tw_mem (i := 915) (by decide +kernel) (by decide +kernel)
theorem wd_916 : Cond.code yX5_last cX5_last 4 (some .int) ∈ tw := tw_mem (i := 916) (by decide +kernel) (by decide +kernel)
theorem wd_918 : Cond.instanceMethod yX5_turn ∈ tw := tw_mem (i := 918) (by decide +kernel) (by decide +kernel)
theorem wd_919 : Cond.selects RX5 yX5_turn yX5_turn ∈ tw := tw_mem (i := 919) (by decide +kernel) (by decide +kernel)
theorem wd_920 : Cond.code yX5_turn cX5_turn 3 (some .int) ∈ tw := tw_mem (i := 920) (by decide +kernel) (by decide +kernel)
theorem wd_922 : Cond.instanceMethod yX5_rise ∈ tw := tw_mem (i := 922) (by decide +kernel) (by decide +kernel)
theorem wd_923 : Cond.selects RX5 yX5_rise yX5_rise ∈ tw := tw_mem (i := 923) (by decide +kernel) (by decide +kernel)
theorem wd_924 : Cond.code yX5_rise cX5_rise 5 (some .int) ∈ tw := tw_mem (i := 924) (by decide +kernel) (by decide +kernel)
theorem wd_925 : Cond.methodLink RX5 135 yX5_risen ∈ tw := tw_mem (i := 925) (by decide +kernel) (by decide +kernel)
theorem wd_927 : Cond.instanceMethod yX5_risen ∈ tw := tw_mem (i := 927) (by decide +kernel) (by decide +kernel)
theorem wd_928 : Cond.code yX5_risen cX5_risen 4 (some .int) ∈ tw := tw_mem (i := 928) (by decide +kernel) (by decide +kernel)
theorem wd_930 : Cond.instanceMethod yX5_areJoined ∈ tw := tw_mem (i := 930) (by decide +kernel) (by decide +kernel)
theorem wd_931 : Cond.selects RX5 yX5_areJoined yX5_areJoined ∈ tw := tw_mem (i := 931) (by decide +kernel) (by decide +kernel)
theorem wd_932 : Cond.code yX5_areJoined cX5_areJoined 3 (some .int) ∈ tw := tw_mem (i := 932) (by decide +kernel) (by decide +kernel)
theorem wd_937 : Cond.methodLink RX5 141 yX5_areJoined ∈ tw := tw_mem (i := 937) (by decide +kernel) (by decide +kernel)
theorem wd_942 : Cond.methodLink RX5 144 yX5_depth ∈ tw := tw_mem (i := 942) (by decide +kernel) (by decide +kernel)
theorem wd_944 : Cond.instanceMethod yX5_depth ∈ tw := tw_mem (i := 944) (by decide +kernel) (by decide +kernel)
theorem wd_945 : Cond.code yX5_depth cX5_depth 4 (some .int) ∈ tw := tw_mem (i := 945) (by decide +kernel) (by decide +kernel)
theorem wd_946 : Cond.methodLink RX5 138 yX5_below ∈ tw := tw_mem (i := 946) (by decide +kernel) (by decide +kernel)
theorem wd_948 : Cond.instanceMethod yX5_below ∈ tw := tw_mem (i := 948) (by decide +kernel) (by decide +kernel)
theorem wd_949 : Cond.code yX5_below cX5_below 3 (some .boolean) ∈ tw := tw_mem (i := 949) (by decide +kernel) (by decide +kernel)
theorem wd_950 : Cond.methodLink RX5 147 yX5_ropes ∈ tw := tw_mem (i := 950) (by decide +kernel) (by decide +kernel)
theorem wd_952 : Cond.instanceMethod yX5_ropes ∈ tw := tw_mem (i := 952) (by decide +kernel) (by decide +kernel)
theorem wd_953 : Cond.code yX5_ropes cX5_ropes 4 (some .int) ∈ tw := tw_mem (i := 953) (by decide +kernel) (by decide +kernel)
theorem wd_954 : Cond.methodLink RX5 150 yX5_above ∈ tw := tw_mem (i := 954) (by decide +kernel) (by decide +kernel)
theorem wd_956 : Cond.instanceMethod yX5_above ∈ tw := tw_mem (i := 956) (by decide +kernel) (by decide +kernel)
theorem wd_957 : Cond.code yX5_above cX5_above 3 (some .int) ∈ tw := tw_mem (i := 957) (by decide +kernel) (by decide +kernel)
theorem wd_958 : Cond.methodLink RX5 153 yX5_countBelow ∈ tw := tw_mem (i := 958) (by decide +kernel) (by decide +kernel)
theorem wd_960 : Cond.instanceMethod yX5_countBelow ∈ tw := tw_mem (i := 960) (by decide +kernel) (by decide +kernel)
theorem wd_961 : Cond.code yX5_countBelow cX5_countBelow 4 (some .int) ∈ tw := tw_mem (i := 961) (by decide +kernel) (by decide +kernel)
theorem wd_962 : Cond.methodLink RX5 156 yX5_sumBelow ∈ tw := tw_mem (i := 962) (by decide +kernel) (by decide +kernel)
theorem wd_964 : Cond.instanceMethod yX5_sumBelow ∈ tw := tw_mem (i := 964) (by decide +kernel) (by decide +kernel)
theorem wd_965 : Cond.code yX5_sumBelow cX5_sumBelow 4 (some .int) ∈ tw := tw_mem (i := 965) (by decide +kernel) (by decide +kernel)
theorem wd_978 : Cond.methodLink RX5 159 yX5_greatestDepth ∈ tw := tw_mem (i := 978) (by decide +kernel) (by decide +kernel)
theorem wd_980 : Cond.instanceMethod yX5_greatestDepth ∈ tw := tw_mem (i := 980) (by decide +kernel) (by decide +kernel)
theorem wd_981 : Cond.code yX5_greatestDepth cX5_greatestDepth 5 (some .int) ∈ tw := tw_mem (i := 981) (by decide +kernel) (by decide +kernel)
theorem wd_982 : Cond.methodLink RX5 162 yX5_heaviest ∈ tw := tw_mem (i := 982) (by decide +kernel) (by decide +kernel)
theorem wd_984 : Cond.instanceMethod yX5_heaviest ∈ tw := tw_mem (i := 984) (by decide +kernel) (by decide +kernel)
theorem wd_985 : Cond.code yX5_heaviest cX5_heaviest 4 (some .int) ∈ tw := tw_mem (i := 985) (by decide +kernel) (by decide +kernel)
theorem wd_998 : Cond.methodLink RX5 165 yX5_meeting ∈ tw := tw_mem (i := 998) (by decide +kernel) (by decide +kernel)
theorem wd_1000 : Cond.instanceMethod yX5_meeting ∈ tw := tw_mem (i := 1000) (by decide +kernel) (by decide +kernel)
theorem wd_1001 : Cond.code yX5_meeting cX5_meeting 4 (some .int) ∈ tw := tw_mem (i := 1001) (by decide +kernel) (by decide +kernel)
theorem wd_1006 : Cond.methodLink RX5 168 yX5_climb ∈ tw := tw_mem (i := 1006) (by decide +kernel) (by decide +kernel)
theorem wd_1008 : Cond.instanceMethod yX5_climb ∈ tw := tw_mem (i := 1008) (by decide +kernel) (by decide +kernel)
theorem wd_1009 : Cond.code yX5_climb cX5_climb 5 (some .int) ∈ tw := tw_mem (i := 1009) (by decide +kernel) (by decide +kernel)
theorem wd_1022 : Cond.methodLink RX5 171 yX5_heaviestLeft ∈ tw := tw_mem (i := 1022) (by decide +kernel) (by decide +kernel)
theorem wd_1024 : Cond.instanceMethod yX5_heaviestLeft ∈ tw := tw_mem (i := 1024) (by decide +kernel) (by decide +kernel)
theorem wd_1025 : Cond.code yX5_heaviestLeft cX5_heaviestLeft 5 (some .int) ∈ tw := tw_mem (i := 1025) (by decide +kernel) (by decide +kernel)
theorem wd_1030 : Cond.methodLink RX5 174 yX5_isAhead ∈ tw := tw_mem (i := 1030) (by decide +kernel) (by decide +kernel)
theorem wd_1032 : Cond.instanceMethod yX5_isAhead ∈ tw := tw_mem (i := 1032) (by decide +kernel) (by decide +kernel)
theorem wd_1033 : Cond.code yX5_isAhead cX5_isAhead 5 (some .boolean) ∈ tw := tw_mem (i := 1033) (by decide +kernel) (by decide +kernel)
theorem wd_1038 : Cond.methodLink RX5 180 yX5_writeNumber ∈ tw := tw_mem (i := 1038) (by decide +kernel) (by decide +kernel)
theorem wd_1040 : Cond.instanceMethod yX5_writeNumber ∈ tw := tw_mem (i := 1040) (by decide +kernel) (by decide +kernel)
theorem wd_1041 : Cond.code yX5_writeNumber cX5_writeNumber 2 none ∈ tw := tw_mem (i := 1041) (by decide +kernel) (by decide +kernel)
theorem wd_1042 : Cond.methodLink RX5 183 yX5_write ∈ tw := tw_mem (i := 1042) (by decide +kernel) (by decide +kernel)
theorem wd_1044 : Cond.instanceMethod yX5_write ∈ tw := tw_mem (i := 1044) (by decide +kernel) (by decide +kernel)
theorem wd_1045 : Cond.code yX5_write cX5_write 2 none ∈ tw := tw_mem (i := 1045) (by decide +kernel) (by decide +kernel)
theorem wd_1062 : Cond.methodLink RX5 248 yX5_countCommands ∈ tw := tw_mem (i := 1062) (by decide +kernel) (by decide +kernel)
theorem wd_1064 : Cond.instanceMethod yX5_countCommands ∈ tw := tw_mem (i := 1064) (by decide +kernel) (by decide +kernel)
theorem wd_1065 : Cond.code yX5_countCommands cX5_countCommands 2 (some .int) ∈ tw := tw_mem (i := 1065) (by decide +kernel) (by decide +kernel)
theorem wd_1066 : Cond.methodLink RX5 227 yX5_readCommand ∈ tw := tw_mem (i := 1066) (by decide +kernel) (by decide +kernel)
theorem wd_1068 : Cond.instanceMethod yX5_readCommand ∈ tw := tw_mem (i := 1068) (by decide +kernel) (by decide +kernel)
theorem wd_1069 : Cond.code yX5_readCommand cX5_readCommand 1 none ∈ tw := tw_mem (i := 1069) (by decide +kernel) (by decide +kernel)
theorem wd_1153 : Cond.methodLink RX5 202 yX5_readNumber ∈ tw := tw_mem (i := 1153) (by decide +kernel) (by decide +kernel)
theorem wd_1155 : Cond.instanceMethod yX5_readNumber ∈ tw := tw_mem (i := 1155) (by decide +kernel) (by decide +kernel)
theorem wd_1156 : Cond.code yX5_readNumber cX5_readNumber 3 (some .int) ∈ tw := tw_mem (i := 1156) (by decide +kernel) (by decide +kernel)
theorem wd_1157 : Cond.methodLink RX5 196 yX5_sees ∈ tw := tw_mem (i := 1157) (by decide +kernel) (by decide +kernel)
theorem wd_1159 : Cond.instanceMethod yX5_sees ∈ tw := tw_mem (i := 1159) (by decide +kernel) (by decide +kernel)
theorem wd_1160 : Cond.code yX5_sees cX5_sees 3 (some .boolean) ∈ tw := tw_mem (i := 1160) (by decide +kernel) (by decide +kernel)
theorem wd_1161 : Cond.methodLink RX5 221 yX5_readBehind ∈ tw := tw_mem (i := 1161) (by decide +kernel) (by decide +kernel)
theorem wd_1163 : Cond.instanceMethod yX5_readBehind ∈ tw := tw_mem (i := 1163) (by decide +kernel) (by decide +kernel)
theorem wd_1164 : Cond.code yX5_readBehind cX5_readBehind 2 none ∈ tw := tw_mem (i := 1164) (by decide +kernel) (by decide +kernel)
theorem wd_1165 : Cond.methodLink RX5 199 yX5_must ∈ tw := tw_mem (i := 1165) (by decide +kernel) (by decide +kernel)
theorem wd_1167 : Cond.instanceMethod yX5_must ∈ tw := tw_mem (i := 1167) (by decide +kernel) (by decide +kernel)
theorem wd_1168 : Cond.code yX5_must cX5_must 2 none ∈ tw := tw_mem (i := 1168) (by decide +kernel) (by decide +kernel)
theorem wd_1169 : Cond.methodLink RX5 224 yX5_readRise ∈ tw := tw_mem (i := 1169) (by decide +kernel) (by decide +kernel)
theorem wd_1171 : Cond.instanceMethod yX5_readRise ∈ tw := tw_mem (i := 1171) (by decide +kernel) (by decide +kernel)
theorem wd_1172 : Cond.code yX5_readRise cX5_readRise 3 none ∈ tw := tw_mem (i := 1172) (by decide +kernel) (by decide +kernel)
theorem wd_1173 : Cond.methodLink RX5 251 yX5_carryOut ∈ tw := tw_mem (i := 1173) (by decide +kernel) (by decide +kernel)
theorem wd_1175 : Cond.instanceMethod yX5_carryOut ∈ tw := tw_mem (i := 1175) (by decide +kernel) (by decide +kernel)
theorem wd_1176 : Cond.code yX5_carryOut cX5_carryOut 1 (some .int) ∈ tw := tw_mem (i := 1176) (by decide +kernel) (by decide +kernel)
theorem wd_1177 : Cond.methodLink RX5 230 yX5_bank ∈ tw := tw_mem (i := 1177) (by decide +kernel) (by decide +kernel)
theorem wd_1178 : Cond.methodLink RX5 233 yX5_weigh ∈ tw := tw_mem (i := 1178) (by decide +kernel) (by decide +kernel)
theorem wd_1179 : Cond.methodLink RX5 236 yX5_join ∈ tw := tw_mem (i := 1179) (by decide +kernel) (by decide +kernel)
theorem wd_1180 : Cond.methodLink RX5 239 yX5_cut ∈ tw := tw_mem (i := 1180) (by decide +kernel) (by decide +kernel)
theorem wd_1181 : Cond.methodLink RX5 242 yX5_turn ∈ tw := tw_mem (i := 1181) (by decide +kernel) (by decide +kernel)
theorem wd_1182 : Cond.methodLink RX5 245 yX5_rise ∈ tw := tw_mem (i := 1182) (by decide +kernel) (by decide +kernel)
theorem wd_1192 : Cond.methodLink RX5 254 yX5_parts ∈ tw := tw_mem (i := 1192) (by decide +kernel) (by decide +kernel)
theorem wd_1194 : Cond.instanceMethod yX5_parts ∈ tw := tw_mem (i := 1194) (by decide +kernel) (by decide +kernel)
theorem wd_1195 : Cond.code yX5_parts cX5_parts 3 (some .int) ∈ tw := tw_mem (i := 1195) (by decide +kernel) (by decide +kernel)
theorem wd_1196 : Cond.methodLink RX5 257 yX5_allWeights ∈ tw := tw_mem (i := 1196) (by decide +kernel) (by decide +kernel)
theorem wd_1198 : Cond.instanceMethod yX5_allWeights ∈ tw := tw_mem (i := 1198) (by decide +kernel) (by decide +kernel)
theorem wd_1199 : Cond.code yX5_allWeights cX5_allWeights 3 (some .int) ∈ tw := tw_mem (i := 1199) (by decide +kernel) (by decide +kernel)
theorem wd_1200 : Cond.methodLink RX5 260 yX5_allPlaces ∈ tw := tw_mem (i := 1200) (by decide +kernel) (by decide +kernel)
theorem wd_1202 : Cond.instanceMethod yX5_allPlaces ∈ tw := tw_mem (i := 1202) (by decide +kernel) (by decide +kernel)
theorem wd_1203 : Cond.code yX5_allPlaces cX5_allPlaces 3 (some .int) ∈ tw := tw_mem (i := 1203) (by decide +kernel) (by decide +kernel)
theorem wd_1204 : Cond.methodLink RX5 263 yX5_deepest ∈ tw := tw_mem (i := 1204) (by decide +kernel) (by decide +kernel)
theorem wd_1206 : Cond.instanceMethod yX5_deepest ∈ tw := tw_mem (i := 1206) (by decide +kernel) (by decide +kernel)
theorem wd_1207 : Cond.code yX5_deepest cX5_deepest 4 (some .int) ∈ tw := tw_mem (i := 1207) (by decide +kernel) (by decide +kernel)
theorem wd_1216 : Cond.methodLink RX5 266 yJxf58ca_floatToIntBits_5c35a ∈ tw := tw_mem (i := 1216) (by decide +kernel) (by decide +kernel)
theorem wd_1217 : Cond.static yJxf58ca_floatToIntBits_5c35a ∈ tw := tw_mem (i := 1217) (by decide +kernel) (by decide +kernel)
theorem wd_1218 : Cond.code yJxf58ca_floatToIntBits_5c35a cJxf58ca_floatToIntBits_5c35a 1 (some .int) ∈ tw := tw_mem (i := 1218) (by decide +kernel) (by decide +kernel)
theorem wd_1219 : Cond.methodLink RJxf58ca 59 yJxf58ca_isNaN_12338 ∈ tw := tw_mem (i := 1219) (by decide +kernel) (by decide +kernel)
theorem wd_1220 : Cond.static yJxf58ca_isNaN_12338 ∈ tw := tw_mem (i := 1220) (by decide +kernel) (by decide +kernel)
theorem wd_1221 : Cond.code yJxf58ca_isNaN_12338 cJxf58ca_isNaN_12338 1 (some .boolean) ∈ tw := tw_mem (i := 1221) (by decide +kernel) (by decide +kernel)
theorem wd_1222 : Cond.methodLink RJxf58ca 74 ⟨"java/lang/Float", "floatToRawIntBits", "(F)I"⟩ ∈ tw := tw_mem (i := 1222) (by decide +kernel) (by decide +kernel)
theorem wd_1223 : Cond.static ⟨"java/lang/Float", "floatToRawIntBits", "(F)I"⟩ ∈ tw := tw_mem (i := 1223) (by decide +kernel) (by decide +kernel)
theorem wd_1224 : Cond.native ⟨"java/lang/Float", "floatToRawIntBits", "(F)I"⟩ ∈ tw := tw_mem (i := 1224) (by decide +kernel) (by decide +kernel)
theorem wd_1225 : Cond.constant RJxf58ca 77 (2143289344) ∈ tw := tw_mem (i := 1225) (by decide +kernel) (by decide +kernel)
set_option maxRecDepth 100000 in
theorem kw_X2_23 {R : Room} {s : State} {args : Array Value} (hts : ∀ w ∈ tw, w.before args s = true) (hR : 0 + 1 ≤ R.frames ∧ 8 + (2 + 11) + 40 * 0 ≤ R.locals) : CallW R s args RX2 RX2 23 yX2_get cX2_get 2 (some .int) (wsm yX2_get cX2_get 2 (some .int)) (rmd 0) 0 0 1 := kwV 1 wd_228 wd_225 wd_226 wd_227 wd_67 (by decide +kernel) hts hR
set_option maxRecDepth 100000 in
theorem kw_X2_19 {R : Room} {s : State} {args : Array Value} (hts : ∀ w ∈ tw, w.before args s = true) (hR : 0 + 1 ≤ R.frames ∧ 8 + (2 + 11) + 40 * 0 ≤ R.locals) : CallW R s args RX2 RX2 19 yX2_add cX2_add 2 none (wsm yX2_add cX2_add 2 none) (rmd 0) 0 0 1 := kwV 1 wd_232 wd_229 wd_230 wd_231 wd_67 (by decide +kernel) hts hR
set_option maxRecDepth 100000 in
theorem kw_X1_30 {R : Room} {s : State} {args : Array Value} (hts : ∀ w ∈ tw, w.before args s = true) (hR : 1 + 1 ≤ R.frames ∧ 8 + (3 + 11) + 40 * 1 ≤ R.locals) : CallW R s args RX1 RX2 30 yX2_copyFrom cX2_copyFrom 3 none (wsm yX2_copyFrom cX2_copyFrom 3 none) (rmd 1) 0 0 1 := kwV 1 wd_224 wd_221 wd_222 wd_223 wd_67 (by decide +kernel) hts hR
set_option maxRecDepth 100000 in
theorem kw_X1_34 {R : Room} {s : State} {args : Array Value} (hts : ∀ w ∈ tw, w.before args s = true) (hR : 0 + 1 ≤ R.frames ∧ 8 + (3 + 11) + 40 * 0 ≤ R.locals) : CallW R s args RX1 RX1 34 yX1_roundAt cX1_roundAt 3 (some (.object "FerryRounds$Row")) (wsm yX1_roundAt cX1_roundAt 3 (some (.object "FerryRounds$Row"))) (rmd 0) 0 0 1 := kwV 1 wd_236 wd_233 wd_235 wd_0 wd_66 (by decide +kernel) hts hR
set_option maxRecDepth 100000 in
theorem kw_X0_25 {R : Room} {s : State} {args : Array Value} (hts : ∀ w ∈ tw, w.before args s = true) (hR : 2 + 1 ≤ R.frames ∧ 8 + (3 + 11) + 40 * 2 ≤ R.locals) : CallW R s args RX0 RX1 25 yX1_copyFrom cX1_copyFrom 3 none (wsm yX1_copyFrom cX1_copyFrom 3 none) (rmd 2) 0 0 1 := kwV 1 wd_220 wd_217 wd_218 wd_219 wd_66 (by decide +kernel) hts hR
set_option maxRecDepth 100000 in
theorem kw_X0_35 {R : Room} {s : State} {args : Array Value} (hts : ∀ w ∈ tw, w.before args s = true) (hR : 3 + 1 ≤ R.frames ∧ 8 + (2 + 11) + 40 * 3 ≤ R.locals) : CallW R s args RX0 RX0 35 yX0_takeBack cX0_takeBack 2 none (wsm yX0_takeBack cX0_takeBack 2 none) (rmd 3) 0 0 1 := kwV 1 wd_649 wd_724 wd_647 wd_648 wd_68 (by decide +kernel) hts hR
set_option maxRecDepth 100000 in
theorem kw_X1_90 {R : Room} {s : State} {args : Array Value} (hts : ∀ w ∈ tw, w.before args s = true) (hR : 0 + 1 ≤ R.frames ∧ 8 + (3 + 11) + 40 * 0 ≤ R.locals) : CallW R s args RX1 RX2 90 yX2_firstOf cX2_firstOf 3 (some .int) (wsm yX2_firstOf cX2_firstOf 3 (some .int)) (rmd 0) 0 0 1 := kwV 1 wd_321 wd_318 wd_319 wd_320 wd_67 (by decide +kernel) hts hR
set_option maxRecDepth 100000 in
theorem kw_X1_109 {R : Room} {s : State} {args : Array Value} (hts : ∀ w ∈ tw, w.before args s = true) (hR : 1 + 1 ≤ R.frames ∧ 8 + (3 + 11) + 40 * 1 ≤ R.locals) : CallW R s args RX1 RX1 109 yX1_rootOf cX1_rootOf 3 (some .int) (wsm yX1_rootOf cX1_rootOf 3 (some .int)) (rmd 1) 0 0 1 := kwV 1 wd_317 wd_314 wd_315 wd_316 wd_66 (by decide +kernel) hts hR
set_option maxRecDepth 100000 in
theorem kw_X2_38 {R : Room} {s : State} {args : Array Value} (hl : va_Nw (.methodLinkNest RX2 38 yX4_bit RX4) s) (hts : ∀ w ∈ tw, w.before args s = true) (hR : 0 + 1 ≤ R.frames ∧ 8 + (1 + 11) + 40 * 0 ≤ R.locals) : va_CN R s args RX2 38 yX4_bit RX4 cX4_bit 1 (some .int) (wsm yX4_bit cX4_bit 1 (some .int)) (rmd 0) 0 0 1 ∧ (Cond.static yX4_bit).before args s = true ∧ True := kwN 1 wd_350 wd_349 wd_65 (by decide +kernel) hl hts hR
set_option maxRecDepth 100000 in
theorem kw_X1_87 {R : Room} {s : State} {args : Array Value} (hts : ∀ w ∈ tw, w.before args s = true) (hR : 2 + 1 ≤ R.frames ∧ 8 + (2 + 11) + 40 * 2 ≤ R.locals) : CallW R s args RX1 RX1 87 yX1_roundOf cX1_roundOf 2 (some (.object "FerryRounds$Row")) (wsm yX1_roundOf cX1_roundOf 2 (some (.object "FerryRounds$Row"))) (rmd 2) 0 0 1 := kwV 1 wd_313 wd_310 wd_311 wd_312 wd_66 (by decide +kernel) hts hR
set_option maxRecDepth 100000 in
theorem kw_X1_118 {R : Room} {s : State} {args : Array Value} (hts : ∀ w ∈ tw, w.before args s = true) (hR : 1 + 1 ≤ R.frames ∧ 8 + (5 + 11) + 40 * 1 ≤ R.locals) : CallW R s args RX1 RX2 118 yX2_setOf cX2_setOf 5 (some .int) (wsm yX2_setOf cX2_setOf 5 (some .int)) (rmd 1) 0 0 2 := kwV 2 wd_362 wd_456 wd_360 wd_361 wd_67 (by decide +kernel) hts hR
set_option maxRecDepth 100000 in
theorem kw_X1_103 {R : Room} {s : State} {args : Array Value} (hts : ∀ w ∈ tw, w.before args s = true) (hR : 1 + 1 ≤ R.frames ∧ 8 + (3 + 11) + 40 * 1 ≤ R.locals) : CallW R s args RX1 RX2 103 yX2_lastOf cX2_lastOf 3 (some .int) (wsm yX2_lastOf cX2_lastOf 3 (some .int)) (rmd 1) 0 0 1 := kwV 1 wd_393 wd_390 wd_391 wd_392 wd_67 (by decide +kernel) hts hR
set_option maxRecDepth 100000 in
theorem kw_X1_48 {R : Room} {s : State} {args : Array Value} (hts : ∀ w ∈ tw, w.before args s = true) (hR : 0 + 1 ≤ R.frames ∧ 8 + (1 + 11) + 40 * 0 ≤ R.locals) : CallW R s args RX1 RX2 48 yX2_length cX2_length 1 (some .int) (wsm yX2_length cX2_length 1 (some .int)) (rmd 0) 0 0 0 := kwV 0 wd_248 wd_245 wd_246 wd_247 wd_67 (by decide +kernel) hts hR
set_option maxRecDepth 100000 in
theorem kw_X1_71 {R : Room} {s : State} {args : Array Value} (hts : ∀ w ∈ tw, w.before args s = true) (hR : 0 + 1 ≤ R.frames ∧ 8 + (2 + 11) + 40 * 0 ≤ R.locals) : CallW R s args RX1 RX2 71 yX2_add cX2_add 2 none (wsm yX2_add cX2_add 2 none) (rmd 0) 0 0 1 := kwV 1 wd_232 wd_257 wd_230 wd_231 wd_67 (by decide +kernel) hts hR
set_option maxRecDepth 100000 in
theorem kw_X2_34 {R : Room} {s : State} {args : Array Value} (hts : ∀ w ∈ tw, w.before args s = true) (hR : 1 + 1 ≤ R.frames ∧ 8 + (5 + 11) + 40 * 1 ≤ R.locals) : CallW R s args RX2 RX2 34 yX2_setOf cX2_setOf 5 (some .int) (wsm yX2_setOf cX2_setOf 5 (some .int)) (rmd 1) 0 0 2 := kwV 2 wd_362 wd_359 wd_360 wd_361 wd_67 (by decide +kernel) hts hR
set_option maxRecDepth 100000 in
theorem kw_X1_115 {R : Room} {s : State} {args : Array Value} (hts : ∀ w ∈ tw, w.before args s = true) (hR : 2 + 1 ≤ R.frames ∧ 8 + (1 + 11) + 40 * 2 ≤ R.locals) : CallW R s args RX1 RX2 115 yX2_setOfAll cX2_setOfAll 1 (some .int) (wsm yX2_setOfAll cX2_setOfAll 1 (some .int)) (rmd 2) 0 0 0 := kwV 0 wd_358 wd_355 wd_356 wd_357 wd_67 (by decide +kernel) hts hR
set_option maxRecDepth 100000 in
theorem kw_X1_121 {R : Room} {s : State} {args : Array Value} (hts : ∀ w ∈ tw, w.before args s = true) (hR : 3 + 1 ≤ R.frames ∧ 8 + (5 + 11) + 40 * 3 ≤ R.locals) : CallW R s args RX1 RX1 121 yX1_aboveOf cX1_aboveOf 5 (some .int) (wsm yX1_aboveOf cX1_aboveOf 5 (some .int)) (rmd 3) 0 0 1 := kwV 1 wd_455 wd_452 wd_453 wd_454 wd_66 (by decide +kernel) hts hR
set_option maxRecDepth 100000 in
theorem kw_X1_66 {R : Room} {s : State} {args : Array Value} (hts : ∀ w ∈ tw, w.before args s = true) (hR : 0 + 1 ≤ R.frames ∧ 8 + (1 + 11) + 40 * 0 ≤ R.locals) : CallB R s args RX1 66 yJ6_bitCount_0f7a4 cJ6_bitCount_0f7a4 1 (some .int) (wsm yJ6_bitCount_0f7a4 cJ6_bitCount_0f7a4 1 (some .int)) (rmd 0) 0 0 1 ∧ (Cond.static yJ6_bitCount_0f7a4).before args s = true := kwS 1 wd_366 wd_457 wd_365 wd_72 (by decide +kernel) hts hR
set_option maxRecDepth 100000 in
theorem kw_X1_56 {R : Room} {s : State} {args : Array Value} (hl : va_Nw (.methodLinkNest RX1 56 yX4_bit RX4) s) (hts : ∀ w ∈ tw, w.before args s = true) (hR : 0 + 1 ≤ R.frames ∧ 8 + (1 + 11) + 40 * 0 ≤ R.locals) : va_CN R s args RX1 56 yX4_bit RX4 cX4_bit 1 (some .int) (wsm yX4_bit cX4_bit 1 (some .int)) (rmd 0) 0 0 1 ∧ (Cond.static yX4_bit).before args s = true ∧ True := kwN 1 wd_350 wd_349 wd_65 (by decide +kernel) hl hts hR
set_option maxRecDepth 100000 in
theorem kw_X1_127 {R : Room} {s : State} {args : Array Value} (hts : ∀ w ∈ tw, w.before args s = true) (hR : 4 + 1 ≤ R.frames ∧ 8 + (2 + 11) + 40 * 4 ≤ R.locals) : CallW R s args RX1 RX1 127 yX1_depthOf cX1_depthOf 2 (some .int) (wsm yX1_depthOf cX1_depthOf 2 (some .int)) (rmd 4) 0 0 1 := kwV 1 wd_451 wd_497 wd_449 wd_450 wd_66 (by decide +kernel) hts hR
set_option maxRecDepth 100000 in
theorem kw_X1_59 {R : Room} {s : State} {args : Array Value} (hts : ∀ w ∈ tw, w.before args s = true) (hR : 1 + 1 ≤ R.frames ∧ 8 + (2 + 11) + 40 * 1 ≤ R.locals) : CallW R s args RX1 RX1 59 yX1_has cX1_has 2 (some .boolean) (wsm yX1_has cX1_has 2 (some .boolean)) (rmd 1) 0 0 1 := kwV 1 wd_280 wd_347 wd_278 wd_279 wd_66 (by decide +kernel) hts hR
set_option maxRecDepth 100000 in
theorem kw_X1_52 {R : Room} {s : State} {args : Array Value} (hts : ∀ w ∈ tw, w.before args s = true) (hR : 0 + 1 ≤ R.frames ∧ 8 + (2 + 11) + 40 * 0 ≤ R.locals) : CallW R s args RX1 RX2 52 yX2_get cX2_get 2 (some .int) (wsm yX2_get cX2_get 2 (some .int)) (rmd 0) 0 0 1 := kwV 1 wd_228 wd_285 wd_226 wd_227 wd_67 (by decide +kernel) hts hR
set_option maxRecDepth 100000 in
theorem kw_X1_63 {R : Room} {s : State} {args : Array Value} (hts : ∀ w ∈ tw, w.before args s = true) (hR : 2 + 1 ≤ R.frames ∧ 8 + (2 + 11) + 40 * 2 ≤ R.locals) : CallW R s args RX1 RX1 63 yX1_ropesOf cX1_ropesOf 2 (some .int) (wsm yX1_ropesOf cX1_ropesOf 2 (some .int)) (rmd 2) 0 0 1 := kwV 1 wd_346 wd_343 wd_344 wd_345 wd_66 (by decide +kernel) hts hR
set_option maxRecDepth 100000 in
theorem kw_X4_115 {R : Room} {s : State} {args : Array Value} (hts : ∀ w ∈ tw, w.before args s = true) (hR : 0 + 1 ≤ R.frames ∧ 8 + (1 + 11) + 40 * 0 ≤ R.locals) : CallB R s args RX4 115 yJ6_bitCount_0f7a4 cJ6_bitCount_0f7a4 1 (some .int) (wsm yJ6_bitCount_0f7a4 cJ6_bitCount_0f7a4 1 (some .int)) (rmd 0) 0 0 1 ∧ (Cond.static yJ6_bitCount_0f7a4).before args s = true := kwS 1 wd_366 wd_364 wd_365 wd_72 (by decide +kernel) hts hR
set_option maxRecDepth 100000 in
theorem kw_X1_133 {R : Room} {s : State} {args : Array Value} (hl : va_Nw (.methodLinkNest RX1 133 yX4_lowestIn RX4) s) (hts : ∀ w ∈ tw, w.before args s = true) (hR : 1 + 1 ≤ R.frames ∧ 8 + (1 + 11) + 40 * 1 ≤ R.locals) : va_CN R s args RX1 133 yX4_lowestIn RX4 cX4_lowestIn 1 (some .int) (wsm yX4_lowestIn cX4_lowestIn 1 (some .int)) (rmd 1) 0 0 1 ∧ (Cond.static yX4_lowestIn).before args s = true ∧ True := kwN 1 wd_442 wd_441 wd_65 (by decide +kernel) hl hts hR
set_option maxRecDepth 100000 in
theorem kw_X1_139 {R : Room} {s : State} {args : Array Value} (hts : ∀ w ∈ tw, w.before args s = true) (hR : 3 + 1 ≤ R.frames ∧ 8 + (3 + 11) + 40 * 3 ≤ R.locals) : CallW R s args RX1 RX1 139 yX1_isTied cX1_isTied 3 (some .boolean) (wsm yX1_isTied cX1_isTied 3 (some .boolean)) (rmd 3) 0 0 2 := kwV 2 wd_381 wd_553 wd_379 wd_380 wd_66 (by decide +kernel) hts hR
set_option maxRecDepth 100000 in
theorem kw_X1_136 {R : Room} {s : State} {args : Array Value} (hts : ∀ w ∈ tw, w.before args s = true) (hR : 3 + 1 ≤ R.frames ∧ 8 + (8 + 11) + 40 * 3 ≤ R.locals) : CallW R s args RX1 RX1 136 yX1_reached cX1_reached 8 (some .int) (wsm yX1_reached cX1_reached 8 (some .int)) (rmd 3) 0 0 2 := kwV 2 wd_439 wd_482 wd_437 wd_438 wd_66 (by decide +kernel) hts hR
set_option maxRecDepth 100000 in
theorem kw_X1_143 {R : Room} {s : State} {args : Array Value} (hts : ∀ w ∈ tw, w.before args s = true) (hR : 1 + 1 ≤ R.frames ∧ 8 + (4 + 11) + 40 * 1 ≤ R.locals) : CallW R s args RX1 RX1 143 yX1_weightOfAll cX1_weightOfAll 4 (some .int) (wsm yX1_weightOfAll cX1_weightOfAll 4 (some .int)) (rmd 1) 0 0 1 := kwV 1 wd_473 wd_554 wd_471 wd_472 wd_66 (by decide +kernel) hts hR
set_option maxRecDepth 100000 in
theorem kw_X1_130 {R : Room} {s : State} {args : Array Value} (hts : ∀ w ∈ tw, w.before args s = true) (hR : 1 + 1 ≤ R.frames ∧ 8 + (2 + 11) + 40 * 1 ≤ R.locals) : CallW R s args RX1 RX1 130 yX1_weightOf cX1_weightOf 2 (some .int) (wsm yX1_weightOf cX1_weightOf 2 (some .int)) (rmd 1) 0 0 1 := kwV 1 wd_284 wd_502 wd_282 wd_283 wd_66 (by decide +kernel) hts hR
set_option maxRecDepth 100000 in
theorem kw_X1_146 {R : Room} {s : State} {args : Array Value} (hts : ∀ w ∈ tw, w.before args s = true) (hR : 3 + 1 ≤ R.frames ∧ 8 + (2 + 11) + 40 * 3 ≤ R.locals) : CallW R s args RX1 RX1 146 yX1_banksWith cX1_banksWith 2 (some .int) (wsm yX1_banksWith cX1_banksWith 2 (some .int)) (rmd 3) 0 0 1 := kwV 1 wd_354 wd_548 wd_352 wd_353 wd_66 (by decide +kernel) hts hR
set_option maxRecDepth 100000 in
theorem kw_X1_158 {R : Room} {s : State} {args : Array Value} (hts : ∀ w ∈ tw, w.before args s = true) (hR : 3 + 1 ≤ R.frames ∧ 8 + (3 + 11) + 40 * 3 ≤ R.locals) : CallW R s args RX1 RX1 158 yX1_belowOf cX1_belowOf 3 (some .int) (wsm yX1_belowOf cX1_belowOf 3 (some .int)) (rmd 3) 0 0 1 := kwV 1 wd_469 wd_698 wd_467 wd_468 wd_66 (by decide +kernel) hts hR
set_option maxRecDepth 100000 in
theorem kw_X1_161 {R : Room} {s : State} {args : Array Value} (hts : ∀ w ∈ tw, w.before args s = true) (hR : 4 + 1 ≤ R.frames ∧ 8 + (3 + 11) + 40 * 4 ≤ R.locals) : CallW R s args RX1 RX1 161 yX1_reachedBelow cX1_reachedBelow 3 (some .int) (wsm yX1_reachedBelow cX1_reachedBelow 3 (some .int)) (rmd 4) 0 0 1 := kwV 1 wd_481 wd_699 wd_479 wd_480 wd_66 (by decide +kernel) hts hR
set_option maxRecDepth 100000 in
theorem kw_X1_164 {R : Room} {s : State} {args : Array Value} (hts : ∀ w ∈ tw, w.before args s = true) (hR : 3 + 1 ≤ R.frames ∧ 8 + (6 + 11) + 40 * 3 ≤ R.locals) : CallW R s args RX1 RX1 164 yX1_leavesOverEachRope cX1_leavesOverEachRope 6 (some .boolean) (wsm yX1_leavesOverEachRope cX1_leavesOverEachRope 6 (some .boolean)) (rmd 3) 0 0 1 := kwV 1 wd_703 wd_700 wd_702 wd_15 wd_66 (by decide +kernel) hts hR
set_option maxRecDepth 100000 in
theorem kw_X1_149 {R : Room} {s : State} {args : Array Value} (hts : ∀ w ∈ tw, w.before args s = true) (hR : 4 + 1 ≤ R.frames ∧ 8 + (4 + 11) + 40 * 4 ≤ R.locals) : CallW R s args RX1 RX1 149 yX1_heaviestLeftWithout cX1_heaviestLeftWithout 4 (some .int) (wsm yX1_heaviestLeftWithout cX1_heaviestLeftWithout 4 (some .int)) (rmd 4) 0 0 1 := kwV 1 wd_552 wd_549 wd_550 wd_551 wd_66 (by decide +kernel) hts hR
set_option maxRecDepth 100000 in
theorem kw_X1_112 {R : Room} {s : State} {args : Array Value} (hts : ∀ w ∈ tw, w.before args s = true) (hR : 1 + 1 ≤ R.frames ∧ 8 + (2 + 11) + 40 * 1 ≤ R.locals) : CallW R s args RX1 RX1 112 yX1_isRoot cX1_isRoot 2 (some .boolean) (wsm yX1_isRoot cX1_isRoot 2 (some .boolean)) (rmd 1) 0 0 1 := kwV 1 wd_566 wd_563 wd_564 wd_565 wd_66 (by decide +kernel) hts hR
set_option maxRecDepth 100000 in
theorem kw_X1_155 {R : Room} {s : State} {args : Array Value} (hts : ∀ w ∈ tw, w.before args s = true) (hR : 3 + 1 ≤ R.frames ∧ 8 + (7 + 11) + 40 * 3 ≤ R.locals) : CallW R s args RX1 RX1 155 yX1_ranksAhead cX1_ranksAhead 7 (some .boolean) (wsm yX1_ranksAhead cX1_ranksAhead 7 (some .boolean)) (rmd 3) 0 0 2 := kwV 2 wd_574 wd_571 wd_573 wd_11 wd_66 (by decide +kernel) hts hR
set_option maxRecDepth 100000 in
theorem kw_X1_74 {R : Room} {s : State} {args : Array Value} (hts : ∀ w ∈ tw, w.before args s = true) (hR : 0 + 1 ≤ R.frames ∧ 8 + (3 + 11) + 40 * 0 ≤ R.locals) : CallW R s args RX1 RX2 74 yX2_put cX2_put 3 none (wsm yX2_put cX2_put 3 none) (rmd 0) 0 0 2 := kwV 2 wd_293 wd_290 wd_291 wd_292 wd_67 (by decide +kernel) hts hR
set_option maxRecDepth 100000 in
theorem kw_X1_152 {R : Room} {s : State} {args : Array Value} (hts : ∀ w ∈ tw, w.before args s = true) (hR : 4 + 1 ≤ R.frames ∧ 8 + (4 + 11) + 40 * 4 ≤ R.locals) : CallW R s args RX1 RX1 152 yX1_partsAheadOf cX1_partsAheadOf 4 (some .int) (wsm yX1_partsAheadOf cX1_partsAheadOf 4 (some .int)) (rmd 4) 0 0 1 := kwV 1 wd_570 wd_567 wd_569 wd_10 wd_66 (by decide +kernel) hts hR
set_option maxRecDepth 100000 in
theorem kw_X1_124 {R : Room} {s : State} {args : Array Value} (hts : ∀ w ∈ tw, w.before args s = true) (hR : 3 + 1 ≤ R.frames ∧ 8 + (4 + 11) + 40 * 3 ≤ R.locals) : CallW R s args RX1 RX1 124 yX1_justAbove cX1_justAbove 4 (some .int) (wsm yX1_justAbove cX1_justAbove 4 (some .int)) (rmd 3) 0 0 1 := kwV 1 wd_465 wd_528 wd_463 wd_464 wd_66 (by decide +kernel) hts hR
set_option maxRecDepth 100000 in
theorem kw_X1_93 {R : Room} {s : State} {args : Array Value} (hts : ∀ w ∈ tw, w.before args s = true) (hR : 1 + 1 ≤ R.frames ∧ 8 + (5 + 11) + 40 * 1 ≤ R.locals) : CallW R s args RX1 RX2 93 yX2_addPlaces cX2_addPlaces 5 none (wsm yX2_addPlaces cX2_addPlaces 5 none) (rmd 1) 0 0 3 := kwV 3 wd_330 wd_327 wd_328 wd_329 wd_67 (by decide +kernel) hts hR
set_option maxRecDepth 100000 in
theorem kw_X1_100 {R : Room} {s : State} {args : Array Value} (hts : ∀ w ∈ tw, w.before args s = true) (hR : 0 + 1 ≤ R.frames ∧ 8 + (2 + 11) + 40 * 0 ≤ R.locals) : CallW R s args RX1 RX2 100 yX2_shorten cX2_shorten 2 none (wsm yX2_shorten cX2_shorten 2 none) (rmd 0) 0 0 1 := kwV 1 wd_342 wd_339 wd_340 wd_341 wd_67 (by decide +kernel) hts hR
set_option maxRecDepth 100000 in
theorem kw_X1_97 {R : Room} {s : State} {args : Array Value} (hts : ∀ w ∈ tw, w.before args s = true) (hR : 0 + 1 ≤ R.frames ∧ 8 + (1 + 11) + 40 * 0 ≤ R.locals) : CallW R s args RX1 RX2 97 yX2_clear cX2_clear 1 none (wsm yX2_clear cX2_clear 1 none) (rmd 0) 0 0 0 := kwV 0 wd_334 wd_331 wd_332 wd_333 wd_67 (by decide +kernel) hts hR
set_option maxRecDepth 100000 in
theorem kw_X2_31 {R : Room} {s : State} {args : Array Value} (hts : ∀ w ∈ tw, w.before args s = true) (hR : 0 + 1 ≤ R.frames ∧ 8 + (2 + 11) + 40 * 0 ≤ R.locals) : CallW R s args RX2 RX2 31 yX2_shorten cX2_shorten 2 none (wsm yX2_shorten cX2_shorten 2 none) (rmd 0) 0 0 1 := kwV 1 wd_342 wd_399 wd_340 wd_341 wd_67 (by decide +kernel) hts hR
set_option maxRecDepth 100000 in
theorem kw_X2_27 {R : Room} {s : State} {args : Array Value} (hts : ∀ w ∈ tw, w.before args s = true) (hR : 0 + 1 ≤ R.frames ∧ 8 + (3 + 11) + 40 * 0 ≤ R.locals) : CallW R s args RX2 RX2 27 yX2_put cX2_put 3 none (wsm yX2_put cX2_put 3 none) (rmd 0) 0 0 2 := kwV 2 wd_293 wd_398 wd_291 wd_292 wd_67 (by decide +kernel) hts hR
set_option maxRecDepth 100000 in
theorem kw_X1_106 {R : Room} {s : State} {args : Array Value} (hts : ∀ w ∈ tw, w.before args s = true) (hR : 1 + 1 ≤ R.frames ∧ 8 + (5 + 11) + 40 * 1 ≤ R.locals) : CallW R s args RX1 RX2 106 yX2_dropPlaces cX2_dropPlaces 5 none (wsm yX2_dropPlaces cX2_dropPlaces 5 none) (rmd 1) 0 0 2 := kwV 2 wd_397 wd_394 wd_395 wd_396 wd_67 (by decide +kernel) hts hR
set_option maxRecDepth 100000 in
theorem kw_X3_26 {R : Room} {s : State} {args : Array Value} (hts : ∀ w ∈ tw, w.before args s = true) (hR : 0 + 1 ≤ R.frames ∧ 8 + (1 + 11) + 40 * 0 ≤ R.locals) : CallW R s args RX3 RX2 26 yX2_length cX2_length 1 (some .int) (wsm yX2_length cX2_length 1 (some .int)) (rmd 0) 0 0 0 := kwV 0 wd_248 wd_625 wd_246 wd_247 wd_67 (by decide +kernel) hts hR
set_option maxRecDepth 100000 in
theorem kw_X3_30 {R : Room} {s : State} {args : Array Value} (hts : ∀ w ∈ tw, w.before args s = true) (hR : 0 + 1 ≤ R.frames ∧ 8 + (2 + 11) + 40 * 0 ≤ R.locals) : CallW R s args RX3 RX2 30 yX2_get cX2_get 2 (some .int) (wsm yX2_get cX2_get 2 (some .int)) (rmd 0) 0 0 1 := kwV 1 wd_228 wd_610 wd_226 wd_227 wd_67 (by decide +kernel) hts hR
set_option maxRecDepth 100000 in
theorem kw_X3_62 {R : Room} {s : State} {args : Array Value} (hts : ∀ w ∈ tw, w.before args s = true) (hR : 0 + 1 ≤ R.frames ∧ 8 + (1 + 11) + 40 * 0 ≤ R.locals) : CallB R s args RX3 62 yX3_isDigit cX3_isDigit 1 (some .boolean) (wsm yX3_isDigit cX3_isDigit 1 (some .boolean)) (rmd 0) 0 0 1 ∧ (Cond.static yX3_isDigit).before args s = true := kwS 1 wd_620 wd_618 wd_619 wd_69 (by decide +kernel) hts hR
set_option maxRecDepth 100000 in
theorem kw_X3_45 {R : Room} {s : State} {args : Array Value} (hts : ∀ w ∈ tw, w.before args s = true) (hR : 0 + 1 ≤ R.frames ∧ 8 + (1 + 11) + 40 * 0 ≤ R.locals) : CallB R s args RX3 45 yX3_isKind cX3_isKind 1 (some .boolean) (wsm yX3_isKind cX3_isKind 1 (some .boolean)) (rmd 0) 0 0 1 ∧ (Cond.static yX3_isKind).before args s = true := kwS 1 wd_613 wd_611 wd_612 wd_69 (by decide +kernel) hts hR
set_option maxRecDepth 100000 in
theorem kw_X3_49 {R : Room} {s : State} {args : Array Value} (hts : ∀ w ∈ tw, w.before args s = true) (hR : 1 + 1 ≤ R.frames ∧ 8 + (2 + 11) + 40 * 1 ≤ R.locals) : CallW R s args RX3 RX3 49 yX3_takeNumber cX3_takeNumber 2 (some .boolean) (wsm yX3_takeNumber cX3_takeNumber 2 (some .boolean)) (rmd 1) 0 0 1 := kwV 1 wd_617 wd_614 wd_616 wd_13 wd_69 (by decide +kernel) hts hR
set_option maxRecDepth 100000 in
theorem kw_X3_59 {R : Room} {s : State} {args : Array Value} (hts : ∀ w ∈ tw, w.before args s = true) (hR : 0 + 1 ≤ R.frames ∧ 8 + (2 + 11) + 40 * 0 ≤ R.locals) : CallW R s args RX3 RX2 59 yX2_add cX2_add 2 none (wsm yX2_add cX2_add 2 none) (rmd 0) 0 0 1 := kwV 1 wd_232 wd_624 wd_230 wd_231 wd_67 (by decide +kernel) hts hR
set_option maxRecDepth 100000 in
theorem kw_X3_55 {R : Room} {s : State} {args : Array Value} (hts : ∀ w ∈ tw, w.before args s = true) (hR : 0 + 1 ≤ R.frames ∧ 8 + (2 + 11) + 40 * 0 ≤ R.locals) : CallB R s args RX3 55 yX3_fits cX3_fits 2 (some .boolean) (wsm yX3_fits cX3_fits 2 (some .boolean)) (rmd 0) 0 0 2 ∧ (Cond.static yX3_fits).before args s = true := kwS 2 wd_623 wd_621 wd_622 wd_69 (by decide +kernel) hts hR
set_option maxRecDepth 100000 in
theorem kw_X3_34 {R : Room} {s : State} {args : Array Value} (hts : ∀ w ∈ tw, w.before args s = true) (hR : 0 + 1 ≤ R.frames ∧ 8 + (1 + 11) + 40 * 0 ≤ R.locals) : CallW R s args RX3 RX2 34 yX2_clear cX2_clear 1 none (wsm yX2_clear cX2_clear 1 none) (rmd 0) 0 0 0 := kwV 0 wd_334 wd_605 wd_332 wd_333 wd_67 (by decide +kernel) hts hR
set_option maxRecDepth 100000 in
theorem kw_X3_41 {R : Room} {s : State} {args : Array Value} (hts : ∀ w ∈ tw, w.before args s = true) (hR : 2 + 1 ≤ R.frames ∧ 8 + (6 + 11) + 40 * 2 ≤ R.locals) : CallW R s args RX3 RX3 41 yX3_takeCommand cX3_takeCommand 6 (some .boolean) (wsm yX3_takeCommand cX3_takeCommand 6 (some .boolean)) (rmd 2) 0 0 1 := kwV 1 wd_609 wd_606 wd_608 wd_12 wd_69 (by decide +kernel) hts hR
set_option maxRecDepth 100000 in
theorem kw_X4_205 {R : Room} {s : State} {args : Array Value} (hts : ∀ w ∈ tw, w.before args s = true) (hR : 1 + 1 ≤ R.frames ∧ 8 + (1 + 11) + 40 * 1 ≤ R.locals) : CallW R s args RX4 RX1 205 yX1_banks cX1_banks 1 (some .int) (wsm yX1_banks cX1_banks 1 (some .int)) (rmd 1) 0 0 0 := kwV 0 wd_244 wd_241 wd_242 wd_243 wd_66 (by decide +kernel) hts hR
set_option maxRecDepth 100000 in
theorem kw_X4_208 {R : Room} {s : State} {args : Array Value} (hts : ∀ w ∈ tw, w.before args s = true) (hR : 1 + 1 ≤ R.frames ∧ 8 + (3 + 11) + 40 * 1 ≤ R.locals) : CallW R s args RX4 RX1 208 yX1_ropes cX1_ropes 3 (some .int) (wsm yX1_ropes cX1_ropes 3 (some .int)) (rmd 1) 0 0 0 := kwV 0 wd_661 wd_658 wd_659 wd_660 wd_66 (by decide +kernel) hts hR
set_option maxRecDepth 100000 in
theorem kw_X4_211 {R : Room} {s : State} {args : Array Value} (hts : ∀ w ∈ tw, w.before args s = true) (hR : 2 + 1 ≤ R.frames ∧ 8 + (3 + 11) + 40 * 2 ≤ R.locals) : CallW R s args RX4 RX1 211 yX1_parts cX1_parts 3 (some .int) (wsm yX1_parts cX1_parts 3 (some .int)) (rmd 2) 0 0 0 := kwV 0 wd_665 wd_662 wd_663 wd_664 wd_66 (by decide +kernel) hts hR
set_option maxRecDepth 100000 in
theorem kw_X4_214 {R : Room} {s : State} {args : Array Value} (hts : ∀ w ∈ tw, w.before args s = true) (hR : 1 + 1 ≤ R.frames ∧ 8 + (1 + 11) + 40 * 1 ≤ R.locals) : CallW R s args RX4 RX1 214 yX1_allBanks cX1_allBanks 1 (some .int) (wsm yX1_allBanks cX1_allBanks 1 (some .int)) (rmd 1) 0 0 0 := kwV 0 wd_669 wd_666 wd_667 wd_668 wd_66 (by decide +kernel) hts hR
set_option maxRecDepth 100000 in
theorem kw_X4_126 {R : Room} {s : State} {args : Array Value} (hts : ∀ w ∈ tw, w.before args s = true) (hR : 1 + 1 ≤ R.frames ∧ 8 + (4 + 11) + 40 * 1 ≤ R.locals) : CallW R s args RX4 RX1 126 yX1_weightOfAll cX1_weightOfAll 4 (some .int) (wsm yX1_weightOfAll cX1_weightOfAll 4 (some .int)) (rmd 1) 0 0 1 := kwV 1 wd_473 wd_470 wd_471 wd_472 wd_66 (by decide +kernel) hts hR
set_option maxRecDepth 100000 in
theorem kw_X4_217 {R : Room} {s : State} {args : Array Value} (hts : ∀ w ∈ tw, w.before args s = true) (hR : 1 + 1 ≤ R.frames ∧ 8 + (3 + 11) + 40 * 1 ≤ R.locals) : CallW R s args RX4 RX1 217 yX1_places cX1_places 3 (some .int) (wsm yX1_places cX1_places 3 (some .int)) (rmd 1) 0 0 0 := kwV 0 wd_673 wd_670 wd_671 wd_672 wd_66 (by decide +kernel) hts hR
set_option maxRecDepth 100000 in
theorem kw_X4_220 {R : Room} {s : State} {args : Array Value} (hts : ∀ w ∈ tw, w.before args s = true) (hR : 0 + 1 ≤ R.frames ∧ 8 + (1 + 11) + 40 * 0 ≤ R.locals) : CallW R s args RX4 RX1 220 yX1_joinsSoFar cX1_joinsSoFar 1 (some .int) (wsm yX1_joinsSoFar cX1_joinsSoFar 1 (some .int)) (rmd 0) 0 0 0 := kwV 0 wd_677 wd_674 wd_675 wd_676 wd_66 (by decide +kernel) hts hR
set_option maxRecDepth 100000 in
theorem kw_X4_223 {R : Room} {s : State} {args : Array Value} (hts : ∀ w ∈ tw, w.before args s = true) (hR : 0 + 1 ≤ R.frames ∧ 8 + (1 + 11) + 40 * 0 ≤ R.locals) : CallW R s args RX4 RX1 223 yX1_cutsSoFar cX1_cutsSoFar 1 (some .int) (wsm yX1_cutsSoFar cX1_cutsSoFar 1 (some .int)) (rmd 0) 0 0 0 := kwV 0 wd_681 wd_678 wd_679 wd_680 wd_66 (by decide +kernel) hts hR
set_option maxRecDepth 100000 in
theorem kw_X4_226 {R : Room} {s : State} {args : Array Value} (hts : ∀ w ∈ tw, w.before args s = true) (hR : 0 + 1 ≤ R.frames ∧ 8 + (1 + 11) + 40 * 0 ≤ R.locals) : CallW R s args RX4 RX1 226 yX1_turnsSoFar cX1_turnsSoFar 1 (some .int) (wsm yX1_turnsSoFar cX1_turnsSoFar 1 (some .int)) (rmd 0) 0 0 0 := kwV 0 wd_685 wd_682 wd_683 wd_684 wd_66 (by decide +kernel) hts hR
set_option maxRecDepth 100000 in
theorem kw_X4_142 {R : Room} {s : State} {args : Array Value} (hts : ∀ w ∈ tw, w.before args s = true) (hR : 5 + 1 ≤ R.frames ∧ 8 + (4 + 11) + 40 * 5 ≤ R.locals) : CallW R s args RX4 RX1 142 yX1_greatestDepth cX1_greatestDepth 4 (some .int) (wsm yX1_greatestDepth cX1_greatestDepth 4 (some .int)) (rmd 5) 0 0 1 := kwV 1 wd_496 wd_493 wd_494 wd_495 wd_66 (by decide +kernel) hts hR
set_option maxRecDepth 100000 in
theorem kw_X4_138 {R : Room} {s : State} {args : Array Value} (hts : ∀ w ∈ tw, w.before args s = true) (hR : 0 + 1 ≤ R.frames ∧ 8 + (1 + 11) + 40 * 0 ≤ R.locals) : CallW R s args RX4 RX2 138 yX2_length cX2_length 1 (some .int) (wsm yX2_length cX2_length 1 (some .int)) (rmd 0) 0 0 0 := kwV 0 wd_248 wd_492 wd_246 wd_247 wd_67 (by decide +kernel) hts hR
set_option maxRecDepth 100000 in
theorem kw_X4_229 {R : Room} {s : State} {args : Array Value} (hts : ∀ w ∈ tw, w.before args s = true) (hR : 0 + 1 ≤ R.frames ∧ 8 + (1 + 11) + 40 * 0 ≤ R.locals) : CallW R s args RX4 RX0 229 yX0_count cX0_count 1 (some .int) (wsm yX0_count cX0_count 1 (some .int)) (rmd 0) 0 0 0 := kwV 0 wd_689 wd_686 wd_687 wd_688 wd_68 (by decide +kernel) hts hR
set_option maxRecDepth 100000 in
theorem kw_X4_260 {R : Room} {s : State} {args : Array Value} (hts : ∀ w ∈ tw, w.before args s = true) (hR : 1 + 1 ≤ R.frames ∧ 8 + (3 + 11) + 40 * 1 ≤ R.locals) : CallW R s args RX4 RX1 260 yX1_addBankOf cX1_addBankOf 3 (some .int) (wsm yX1_addBankOf cX1_addBankOf 3 (some .int)) (rmd 1) 0 0 1 := kwV 1 wd_256 wd_253 wd_254 wd_255 wd_66 (by decide +kernel) hts hR
set_option maxRecDepth 100000 in
theorem kw_X4_257 {R : Room} {s : State} {args : Array Value} (hts : ∀ w ∈ tw, w.before args s = true) (hR : 0 + 1 ≤ R.frames ∧ 8 + (3 + 11) + 40 * 0 ≤ R.locals) : CallW R s args RX4 RX4 257 yX4_refuse cX4_refuse 3 (some .int) (wsm yX4_refuse cX4_refuse 3 (some .int)) (rmd 0) 0 0 2 := kwV 2 wd_252 wd_249 wd_251 wd_2 wd_65 (by decide +kernel) hts hR
set_option maxRecDepth 100000 in
theorem kw_X4_180 {R : Room} {s : State} {args : Array Value} (hts : ∀ w ∈ tw, w.before args s = true) (hR : 0 + 1 ≤ R.frames ∧ 8 + (2 + 11) + 40 * 0 ≤ R.locals) : CallW R s args RX4 RX2 180 yX2_add cX2_add 2 none (wsm yX2_add cX2_add 2 none) (rmd 0) 0 0 1 := kwV 1 wd_232 wd_584 wd_230 wd_231 wd_67 (by decide +kernel) hts hR
set_option maxRecDepth 100000 in
theorem kw_X4_89 {R : Room} {s : State} {args : Array Value} (hts : ∀ w ∈ tw, w.before args s = true) (hR : 1 + 1 ≤ R.frames ∧ 8 + (2 + 11) + 40 * 1 ≤ R.locals) : CallW R s args RX4 RX1 89 yX1_has cX1_has 2 (some .boolean) (wsm yX1_has cX1_has 2 (some .boolean)) (rmd 1) 0 0 1 := kwV 1 wd_280 wd_277 wd_278 wd_279 wd_66 (by decide +kernel) hts hR
set_option maxRecDepth 100000 in
theorem kw_X4_76 {R : Room} {s : State} {args : Array Value} (hts : ∀ w ∈ tw, w.before args s = true) (hR : 2 + 1 ≤ R.frames ∧ 8 + (3 + 11) + 40 * 2 ≤ R.locals) : CallW R s args RX4 RX4 76 yX4_areThere cX4_areThere 3 (some .boolean) (wsm yX4_areThere cX4_areThere 3 (some .boolean)) (rmd 2) 0 0 2 := kwV 2 wd_305 wd_302 wd_304 wd_6 wd_65 (by decide +kernel) hts hR
set_option maxRecDepth 100000 in
theorem kw_X4_80 {R : Room} {s : State} {args : Array Value} (hts : ∀ w ∈ tw, w.before args s = true) (hR : 3 + 1 ≤ R.frames ∧ 8 + (3 + 11) + 40 * 3 ≤ R.locals) : CallW R s args RX4 RX1 80 yX1_isOnePart cX1_isOnePart 3 (some .boolean) (wsm yX1_isOnePart cX1_isOnePart 3 (some .boolean)) (rmd 3) 0 0 2 := kwV 2 wd_309 wd_306 wd_307 wd_308 wd_66 (by decide +kernel) hts hR
set_option maxRecDepth 100000 in
theorem kw_X4_83 {R : Room} {s : State} {args : Array Value} (hts : ∀ w ∈ tw, w.before args s = true) (hR : 3 + 1 ≤ R.frames ∧ 8 + (8 + 11) + 40 * 3 ≤ R.locals) : CallW R s args RX4 RX1 83 yX1_reached cX1_reached 8 (some .int) (wsm yX1_reached cX1_reached 8 (some .int)) (rmd 3) 0 0 2 := kwV 2 wd_439 wd_436 wd_437 wd_438 wd_66 (by decide +kernel) hts hR
set_option maxRecDepth 100000 in
theorem kw_X4_86 {R : Room} {s : State} {args : Array Value} (hts : ∀ w ∈ tw, w.before args s = true) (hR : 0 + 1 ≤ R.frames ∧ 8 + (1 + 11) + 40 * 0 ≤ R.locals) : CallB R s args RX4 86 yX4_bit cX4_bit 1 (some .int) (wsm yX4_bit cX4_bit 1 (some .int)) (rmd 0) 0 0 1 ∧ (Cond.static yX4_bit).before args s = true := kwS 1 wd_350 wd_443 wd_349 wd_65 (by decide +kernel) hts hR
set_option maxRecDepth 100000 in
theorem kw_X4_289 {R : Room} {s : State} {args : Array Value} (hts : ∀ w ∈ tw, w.before args s = true) (hR : 1 + 1 ≤ R.frames ∧ 8 + (1 + 11) + 40 * 1 ≤ R.locals) : CallW R s args RX4 RX0 289 yX0_confirm cX0_confirm 1 none (wsm yX0_confirm cX0_confirm 1 none) (rmd 1) 0 0 0 := kwV 0 wd_265 wd_262 wd_263 wd_264 wd_68 (by decide +kernel) hts hR
set_option maxRecDepth 100000 in
theorem kw_X4_49 {R : Room} {s : State} {args : Array Value} (hts : ∀ w ∈ tw, w.before args s = true) (hR : 3 + 1 ≤ R.frames ∧ 8 + (3 + 11) + 40 * 3 ≤ R.locals) : CallW R s args RX4 RX0 49 yX0_note cX0_note 3 none (wsm yX0_note cX0_note 3 none) (rmd 3) 0 0 1 := kwV 1 wd_216 wd_213 wd_214 wd_215 wd_68 (by decide +kernel) hts hR
set_option maxRecDepth 100000 in
theorem kw_X4_53 {R : Room} {s : State} {args : Array Value} (hts : ∀ w ∈ tw, w.before args s = true) (hR : 2 + 1 ≤ R.frames ∧ 8 + (2 + 11) + 40 * 2 ≤ R.locals) : CallW R s args RX4 RX4 53 yX4_addBank cX4_addBank 2 (some .int) (wsm yX4_addBank cX4_addBank 2 (some .int)) (rmd 2) 0 0 1 := kwV 1 wd_240 wd_237 wd_239 wd_1 wd_65 (by decide +kernel) hts hR
set_option maxRecDepth 100000 in
theorem kw_X4_57 {R : Room} {s : State} {args : Array Value} (hts : ∀ w ∈ tw, w.before args s = true) (hR : 2 + 1 ≤ R.frames ∧ 8 + (2 + 11) + 40 * 2 ≤ R.locals) : CallW R s args RX4 RX4 57 yX4_settle cX4_settle 2 (some .int) (wsm yX4_settle cX4_settle 2 (some .int)) (rmd 2) 0 0 1 := kwV 1 wd_261 wd_258 wd_260 wd_3 wd_65 (by decide +kernel) hts hR
set_option maxRecDepth 100000 in
theorem kw_X4_93 {R : Room} {s : State} {args : Array Value} (hts : ∀ w ∈ tw, w.before args s = true) (hR : 1 + 1 ≤ R.frames ∧ 8 + (2 + 11) + 40 * 1 ≤ R.locals) : CallW R s args RX4 RX1 93 yX1_weightOf cX1_weightOf 2 (some .int) (wsm yX1_weightOf cX1_weightOf 2 (some .int)) (rmd 1) 0 0 1 := kwV 1 wd_284 wd_281 wd_282 wd_283 wd_66 (by decide +kernel) hts hR
set_option maxRecDepth 100000 in
theorem kw_X4_96 {R : Room} {s : State} {args : Array Value} (hts : ∀ w ∈ tw, w.before args s = true) (hR : 1 + 1 ≤ R.frames ∧ 8 + (3 + 11) + 40 * 1 ≤ R.locals) : CallW R s args RX4 RX1 96 yX1_rootOf cX1_rootOf 3 (some .int) (wsm yX1_rootOf cX1_rootOf 3 (some .int)) (rmd 1) 0 0 1 := kwV 1 wd_317 wd_322 wd_315 wd_316 wd_66 (by decide +kernel) hts hR
set_option maxRecDepth 100000 in
theorem kw_X4_99 {R : Room} {s : State} {args : Array Value} (hts : ∀ w ∈ tw, w.before args s = true) (hR : 4 + 1 ≤ R.frames ∧ 8 + (2 + 11) + 40 * 4 ≤ R.locals) : CallW R s args RX4 RX1 99 yX1_depthOf cX1_depthOf 2 (some .int) (wsm yX1_depthOf cX1_depthOf 2 (some .int)) (rmd 4) 0 0 1 := kwV 1 wd_451 wd_448 wd_449 wd_450 wd_66 (by decide +kernel) hts hR
set_option maxRecDepth 100000 in
theorem kw_X4_102 {R : Room} {s : State} {args : Array Value} (hts : ∀ w ∈ tw, w.before args s = true) (hR : 2 + 1 ≤ R.frames ∧ 8 + (2 + 11) + 40 * 2 ≤ R.locals) : CallW R s args RX4 RX1 102 yX1_roundOf cX1_roundOf 2 (some (.object "FerryRounds$Row")) (wsm yX1_roundOf cX1_roundOf 2 (some (.object "FerryRounds$Row"))) (rmd 2) 0 0 1 := kwV 1 wd_313 wd_458 wd_311 wd_312 wd_66 (by decide +kernel) hts hR
set_option maxRecDepth 100000 in
theorem kw_X4_106 {R : Room} {s : State} {args : Array Value} (hts : ∀ w ∈ tw, w.before args s = true) (hR : 0 + 1 ≤ R.frames ∧ 8 + (3 + 11) + 40 * 0 ≤ R.locals) : CallW R s args RX4 RX2 106 yX2_firstOf cX2_firstOf 3 (some .int) (wsm yX2_firstOf cX2_firstOf 3 (some .int)) (rmd 0) 0 0 1 := kwV 1 wd_321 wd_459 wd_319 wd_320 wd_67 (by decide +kernel) hts hR
set_option maxRecDepth 100000 in
theorem kw_X4_109 {R : Room} {s : State} {args : Array Value} (hts : ∀ w ∈ tw, w.before args s = true) (hR : 1 + 1 ≤ R.frames ∧ 8 + (3 + 11) + 40 * 1 ≤ R.locals) : CallW R s args RX4 RX2 109 yX2_lastOf cX2_lastOf 3 (some .int) (wsm yX2_lastOf cX2_lastOf 3 (some .int)) (rmd 1) 0 0 1 := kwV 1 wd_393 wd_460 wd_391 wd_392 wd_67 (by decide +kernel) hts hR
set_option maxRecDepth 100000 in
theorem kw_X4_112 {R : Room} {s : State} {args : Array Value} (hts : ∀ w ∈ tw, w.before args s = true) (hR : 2 + 1 ≤ R.frames ∧ 8 + (2 + 11) + 40 * 2 ≤ R.locals) : CallW R s args RX4 RX1 112 yX1_ropesOf cX1_ropesOf 2 (some .int) (wsm yX1_ropesOf cX1_ropesOf 2 (some .int)) (rmd 2) 0 0 1 := kwV 1 wd_346 wd_461 wd_344 wd_345 wd_66 (by decide +kernel) hts hR
set_option maxRecDepth 100000 in
theorem kw_X4_120 {R : Room} {s : State} {args : Array Value} (hts : ∀ w ∈ tw, w.before args s = true) (hR : 3 + 1 ≤ R.frames ∧ 8 + (4 + 11) + 40 * 3 ≤ R.locals) : CallW R s args RX4 RX1 120 yX1_justAbove cX1_justAbove 4 (some .int) (wsm yX1_justAbove cX1_justAbove 4 (some .int)) (rmd 3) 0 0 1 := kwV 1 wd_465 wd_462 wd_463 wd_464 wd_66 (by decide +kernel) hts hR
set_option maxRecDepth 100000 in
theorem kw_X4_123 {R : Room} {s : State} {args : Array Value} (hts : ∀ w ∈ tw, w.before args s = true) (hR : 3 + 1 ≤ R.frames ∧ 8 + (3 + 11) + 40 * 3 ≤ R.locals) : CallW R s args RX4 RX1 123 yX1_belowOf cX1_belowOf 3 (some .int) (wsm yX1_belowOf cX1_belowOf 3 (some .int)) (rmd 3) 0 0 1 := kwV 1 wd_469 wd_466 wd_467 wd_468 wd_66 (by decide +kernel) hts hR
set_option maxRecDepth 100000 in
theorem kw_X4_129 {R : Room} {s : State} {args : Array Value} (hts : ∀ w ∈ tw, w.before args s = true) (hR : 4 + 1 ≤ R.frames ∧ 8 + (3 + 11) + 40 * 4 ≤ R.locals) : CallW R s args RX4 RX1 129 yX1_reachedBelow cX1_reachedBelow 3 (some .int) (wsm yX1_reachedBelow cX1_reachedBelow 3 (some .int)) (rmd 4) 0 0 1 := kwV 1 wd_481 wd_478 wd_479 wd_480 wd_66 (by decide +kernel) hts hR
set_option maxRecDepth 100000 in
theorem kw_X4_148 {R : Room} {s : State} {args : Array Value} (hts : ∀ w ∈ tw, w.before args s = true) (hR : 3 + 1 ≤ R.frames ∧ 8 + (3 + 11) + 40 * 3 ≤ R.locals) : CallW R s args RX4 RX1 148 yX1_isTied cX1_isTied 3 (some .boolean) (wsm yX1_isTied cX1_isTied 3 (some .boolean)) (rmd 3) 0 0 2 := kwV 2 wd_381 wd_378 wd_379 wd_380 wd_66 (by decide +kernel) hts hR
set_option maxRecDepth 100000 in
theorem kw_X4_160 {R : Room} {s : State} {args : Array Value} (hts : ∀ w ∈ tw, w.before args s = true) (hR : 3 + 1 ≤ R.frames ∧ 8 + (4 + 11) + 40 * 3 ≤ R.locals) : CallW R s args RX4 RX1 160 yX1_lowerOf cX1_lowerOf 4 (some .int) (wsm yX1_lowerOf cX1_lowerOf 4 (some .int)) (rmd 3) 0 0 2 := kwV 2 wd_385 wd_382 wd_383 wd_384 wd_66 (by decide +kernel) hts hR
set_option maxRecDepth 100000 in
theorem kw_X4_273 {R : Room} {s : State} {args : Array Value} (hts : ∀ w ∈ tw, w.before args s = true) (hR : 3 + 1 ≤ R.frames ∧ 8 + (6 + 11) + 40 * 3 ≤ R.locals) : CallW R s args RX4 RX1 273 yX1_untie cX1_untie 6 none (wsm yX1_untie cX1_untie 6 none) (rmd 3) 0 0 2 := kwV 2 wd_389 wd_386 wd_387 wd_388 wd_66 (by decide +kernel) hts hR
set_option maxRecDepth 100000 in
theorem kw_X4_267 {R : Room} {s : State} {args : Array Value} (hts : ∀ w ∈ tw, w.before args s = true) (hR : 3 + 1 ≤ R.frames ∧ 8 + (5 + 11) + 40 * 3 ≤ R.locals) : CallW R s args RX4 RX1 267 yX1_turnTo cX1_turnTo 5 none (wsm yX1_turnTo cX1_turnTo 5 none) (rmd 3) 0 0 1 := kwV 1 wd_326 wd_323 wd_324 wd_325 wd_66 (by decide +kernel) hts hR
set_option maxRecDepth 100000 in
theorem kw_X4_270 {R : Room} {s : State} {args : Array Value} (hts : ∀ w ∈ tw, w.before args s = true) (hR : 3 + 1 ≤ R.frames ∧ 8 + (6 + 11) + 40 * 3 ≤ R.locals) : CallW R s args RX4 RX1 270 yX1_tie cX1_tie 6 none (wsm yX1_tie cX1_tie 6 none) (rmd 3) 0 0 2 := kwV 2 wd_338 wd_335 wd_336 wd_337 wd_66 (by decide +kernel) hts hR
set_option maxRecDepth 100000 in
theorem kw_X4_135 {R : Room} {s : State} {args : Array Value} (hts : ∀ w ∈ tw, w.before args s = true) (hR : 3 + 1 ≤ R.frames ∧ 8 + (2 + 11) + 40 * 3 ≤ R.locals) : CallW R s args RX4 RX1 135 yX1_banksWith cX1_banksWith 2 (some .int) (wsm yX1_banksWith cX1_banksWith 2 (some .int)) (rmd 3) 0 0 1 := kwV 1 wd_354 wd_351 wd_352 wd_353 wd_66 (by decide +kernel) hts hR
set_option maxRecDepth 100000 in
theorem kw_X4_279 {R : Room} {s : State} {args : Array Value} (hts : ∀ w ∈ tw, w.before args s = true) (hR : 1 + 1 ≤ R.frames ∧ 8 + (7 + 11) + 40 * 1 ≤ R.locals) : CallW R s args RX4 RX1 279 yX1_raiseAll cX1_raiseAll 7 (some .int) (wsm yX1_raiseAll cX1_raiseAll 7 (some .int)) (rmd 1) 0 0 2 := kwV 2 wd_423 wd_420 wd_421 wd_422 wd_66 (by decide +kernel) hts hR
set_option maxRecDepth 100000 in
theorem kw_X4_263 {R : Room} {s : State} {args : Array Value} (hts : ∀ w ∈ tw, w.before args s = true) (hR : 1 + 1 ≤ R.frames ∧ 8 + (3 + 11) + 40 * 1 ≤ R.locals) : CallW R s args RX4 RX1 263 yX1_putWeight cX1_putWeight 3 none (wsm yX1_putWeight cX1_putWeight 3 none) (rmd 1) 0 0 2 := kwV 2 wd_289 wd_286 wd_287 wd_288 wd_66 (by decide +kernel) hts hR
set_option maxRecDepth 100000 in
theorem kw_X4_276 {R : Room} {s : State} {args : Array Value} (hts : ∀ w ∈ tw, w.before args s = true) (hR : 0 + 1 ≤ R.frames ∧ 8 + (1 + 11) + 40 * 0 ≤ R.locals) : CallW R s args RX4 RX1 276 yX1_countTurn cX1_countTurn 1 none (wsm yX1_countTurn cX1_countTurn 1 none) (rmd 0) 0 0 0 := kwV 0 wd_411 wd_408 wd_409 wd_410 wd_66 (by decide +kernel) hts hR
set_option maxRecDepth 100000 in
theorem kw_X4_282 {R : Room} {s : State} {args : Array Value} (hts : ∀ w ∈ tw, w.before args s = true) (hR : 1 + 1 ≤ R.frames ∧ 8 + (2 + 11) + 40 * 1 ≤ R.locals) : CallW R s args RX4 RX3 282 yX3_firstOf cX3_firstOf 2 (some .int) (wsm yX3_firstOf cX3_firstOf 2 (some .int)) (rmd 1) 0 0 1 := kwV 1 wd_637 wd_634 wd_635 wd_636 wd_69 (by decide +kernel) hts hR
set_option maxRecDepth 100000 in
theorem kw_X4_283 {R : Room} {s : State} {args : Array Value} (hts : ∀ w ∈ tw, w.before args s = true) (hR : 1 + 1 ≤ R.frames ∧ 8 + (2 + 11) + 40 * 1 ≤ R.locals) : CallW R s args RX4 RX3 283 yX3_secondOf cX3_secondOf 2 (some .int) (wsm yX3_secondOf cX3_secondOf 2 (some .int)) (rmd 1) 0 0 1 := kwV 1 wd_641 wd_638 wd_639 wd_640 wd_69 (by decide +kernel) hts hR
set_option maxRecDepth 100000 in
theorem kw_X4_286 {R : Room} {s : State} {args : Array Value} (hts : ∀ w ∈ tw, w.before args s = true) (hR : 1 + 1 ≤ R.frames ∧ 8 + (2 + 11) + 40 * 1 ≤ R.locals) : CallW R s args RX4 RX3 286 yX3_kindOf cX3_kindOf 2 (some .int) (wsm yX3_kindOf cX3_kindOf 2 (some .int)) (rmd 1) 0 0 1 := kwV 1 wd_645 wd_642 wd_643 wd_644 wd_69 (by decide +kernel) hts hR
set_option maxRecDepth 100000 in
theorem kw_X4_67 {R : Room} {s : State} {args : Array Value} (hts : ∀ w ∈ tw, w.before args s = true) (hR : 4 + 1 ≤ R.frames ∧ 8 + (4 + 11) + 40 * 4 ≤ R.locals) : CallW R s args RX4 RX4 67 yX4_cutRope cX4_cutRope 4 (some .int) (wsm yX4_cutRope cX4_cutRope 4 (some .int)) (rmd 4) 0 0 2 := kwV 2 wd_377 wd_374 wd_376 wd_7 wd_65 (by decide +kernel) hts hR
set_option maxRecDepth 100000 in
theorem kw_X4_64 {R : Room} {s : State} {args : Array Value} (hts : ∀ w ∈ tw, w.before args s = true) (hR : 4 + 1 ≤ R.frames ∧ 8 + (3 + 11) + 40 * 4 ≤ R.locals) : CallW R s args RX4 RX4 64 yX4_joinBanks cX4_joinBanks 3 (some .int) (wsm yX4_joinBanks cX4_joinBanks 3 (some .int)) (rmd 4) 0 0 2 := kwV 2 wd_301 wd_298 wd_300 wd_5 wd_65 (by decide +kernel) hts hR
set_option maxRecDepth 100000 in
theorem kw_X4_70 {R : Room} {s : State} {args : Array Value} (hts : ∀ w ∈ tw, w.before args s = true) (hR : 4 + 1 ≤ R.frames ∧ 8 + (3 + 11) + 40 * 4 ≤ R.locals) : CallW R s args RX4 RX4 70 yX4_turnRound cX4_turnRound 3 (some .int) (wsm yX4_turnRound cX4_turnRound 3 (some .int)) (rmd 4) 0 0 1 := kwV 1 wd_407 wd_404 wd_406 wd_8 wd_65 (by decide +kernel) hts hR
set_option maxRecDepth 100000 in
theorem kw_X4_73 {R : Room} {s : State} {args : Array Value} (hts : ∀ w ∈ tw, w.before args s = true) (hR : 4 + 1 ≤ R.frames ∧ 8 + (5 + 11) + 40 * 4 ≤ R.locals) : CallW R s args RX4 RX4 73 yX4_raisePart cX4_raisePart 5 (some .int) (wsm yX4_raisePart cX4_raisePart 5 (some .int)) (rmd 4) 0 0 2 := kwV 2 wd_419 wd_416 wd_418 wd_9 wd_65 (by decide +kernel) hts hR
set_option maxRecDepth 100000 in
theorem kw_X4_60 {R : Room} {s : State} {args : Array Value} (hts : ∀ w ∈ tw, w.before args s = true) (hR : 2 + 1 ≤ R.frames ∧ 8 + (4 + 11) + 40 * 2 ≤ R.locals) : CallW R s args RX4 RX4 60 yX4_setWeight cX4_setWeight 4 (some .int) (wsm yX4_setWeight cX4_setWeight 4 (some .int)) (rmd 2) 0 0 2 := kwV 2 wd_276 wd_273 wd_275 wd_4 wd_65 (by decide +kernel) hts hR
set_option maxRecDepth 100000 in
theorem kw_X4_174 {R : Room} {s : State} {args : Array Value} (hts : ∀ w ∈ tw, w.before args s = true) (hR : 0 + 1 ≤ R.frames ∧ 8 + (1 + 11) + 40 * 0 ≤ R.locals) : CallW R s args RX4 RX2 174 yX2_clear cX2_clear 1 none (wsm yX2_clear cX2_clear 1 none) (rmd 0) 0 0 0 := kwV 0 wd_334 wd_579 wd_332 wd_333 wd_67 (by decide +kernel) hts hR
set_option maxRecDepth 100000 in
theorem kw_X4_177 {R : Room} {s : State} {args : Array Value} (hts : ∀ w ∈ tw, w.before args s = true) (hR : 1 + 1 ≤ R.frames ∧ 8 + (2 + 11) + 40 * 1 ≤ R.locals) : CallW R s args RX4 RX2 177 yX2_addDigits cX2_addDigits 2 none (wsm yX2_addDigits cX2_addDigits 2 none) (rmd 1) 0 0 1 := kwV 1 wd_583 wd_580 wd_581 wd_582 wd_67 (by decide +kernel) hts hR
set_option maxRecDepth 100000 in
theorem kw_X4_132 {R : Room} {s : State} {args : Array Value} (hts : ∀ w ∈ tw, w.before args s = true) (hR : 0 + 1 ≤ R.frames ∧ 8 + (2 + 11) + 40 * 0 ≤ R.locals) : CallW R s args RX4 RX2 132 yX2_get cX2_get 2 (some .int) (wsm yX2_get cX2_get 2 (some .int)) (rmd 0) 0 0 1 := kwV 1 wd_228 wd_487 wd_226 wd_227 wd_67 (by decide +kernel) hts hR
set_option maxRecDepth 100000 in
theorem kw_X4_151 {R : Room} {s : State} {args : Array Value} (hts : ∀ w ∈ tw, w.before args s = true) (hR : 3 + 1 ≤ R.frames ∧ 8 + (5 + 11) + 40 * 3 ≤ R.locals) : CallW R s args RX4 RX1 151 yX1_aboveOf cX1_aboveOf 5 (some .int) (wsm yX1_aboveOf cX1_aboveOf 5 (some .int)) (rmd 3) 0 0 1 := kwV 1 wd_455 wd_511 wd_453 wd_454 wd_66 (by decide +kernel) hts hR
set_option maxRecDepth 100000 in
theorem kw_X4_232 {R : Room} {s : State} {args : Array Value} (hts : ∀ w ∈ tw, w.before args s = true) (hR : 5 + 1 ≤ R.frames ∧ 8 + (2 + 11) + 40 * 5 ≤ R.locals) : CallW R s args RX4 RX1 232 yX1_isSound cX1_isSound 2 (some .boolean) (wsm yX1_isSound cX1_isSound 2 (some .boolean)) (rmd 5) 0 0 0 := kwV 0 wd_697 wd_694 wd_695 wd_696 wd_66 (by decide +kernel) hts hR
set_option maxRecDepth 100000 in
theorem kw_X4_236 {R : Room} {s : State} {args : Array Value} (hts : ∀ w ∈ tw, w.before args s = true) (hR : 5 + 1 ≤ R.frames ∧ 8 + (3 + 11) + 40 * 5 ≤ R.locals) : CallW R s args RX4 RX1 236 yX1_sumOfDepths cX1_sumOfDepths 3 (some .int) (wsm yX1_sumOfDepths cX1_sumOfDepths 3 (some .int)) (rmd 5) 0 0 0 := kwV 0 wd_711 wd_708 wd_709 wd_710 wd_66 (by decide +kernel) hts hR
set_option maxRecDepth 100000 in
theorem kw_X4_239 {R : Room} {s : State} {args : Array Value} (hts : ∀ w ∈ tw, w.before args s = true) (hR : 0 + 1 ≤ R.frames ∧ 8 + (4 + 11) + 40 * 0 ≤ R.locals) : CallB R s args RX4 239 yX4_bitsOf cX4_bitsOf 4 (some .int) (wsm yX4_bitsOf cX4_bitsOf 4 (some .int)) (rmd 0) 0 0 1 ∧ (Cond.static yX4_bitsOf).before args s = true := kwS 1 wd_714 wd_712 wd_713 wd_65 (by decide +kernel) hts hR
set_option maxRecDepth 100000 in
theorem kw_X4_154 {R : Room} {s : State} {args : Array Value} (hts : ∀ w ∈ tw, w.before args s = true) (hR : 5 + 1 ≤ R.frames ∧ 8 + (6 + 11) + 40 * 5 ≤ R.locals) : CallW R s args RX4 RX1 154 yX1_meetingOf cX1_meetingOf 6 (some .int) (wsm yX1_meetingOf cX1_meetingOf 6 (some .int)) (rmd 5) 0 0 2 := kwV 2 wd_519 wd_516 wd_517 wd_518 wd_66 (by decide +kernel) hts hR
set_option maxRecDepth 100000 in
theorem kw_X4_168 {R : Room} {s : State} {args : Array Value} (hts : ∀ w ∈ tw, w.before args s = true) (hR : 5 + 1 ≤ R.frames ∧ 8 + (7 + 11) + 40 * 5 ≤ R.locals) : CallW R s args RX4 RX1 168 yX1_middleWith cX1_middleWith 7 (some .int) (wsm yX1_middleWith cX1_middleWith 7 (some .int)) (rmd 5) 0 0 1 := kwV 1 wd_547 wd_544 wd_545 wd_546 wd_66 (by decide +kernel) hts hR
set_option maxRecDepth 100000 in
theorem kw_X4_145 {R : Room} {s : State} {args : Array Value} (hts : ∀ w ∈ tw, w.before args s = true) (hR : 3 + 1 ≤ R.frames ∧ 8 + (5 + 11) + 40 * 3 ≤ R.locals) : CallW R s args RX4 RX1 145 yX1_heaviestWith cX1_heaviestWith 5 (some .int) (wsm yX1_heaviestWith cX1_heaviestWith 5 (some .int)) (rmd 3) 0 0 1 := kwV 1 wd_501 wd_498 wd_499 wd_500 wd_66 (by decide +kernel) hts hR
set_option maxRecDepth 100000 in
theorem kw_X4_171 {R : Room} {s : State} {args : Array Value} (hts : ∀ w ∈ tw, w.before args s = true) (hR : 5 + 1 ≤ R.frames ∧ 8 + (3 + 11) + 40 * 5 ≤ R.locals) : CallW R s args RX4 RX1 171 yX1_rootRanked cX1_rootRanked 3 (some .int) (wsm yX1_rootRanked cX1_rootRanked 3 (some .int)) (rmd 5) 0 0 1 := kwV 1 wd_562 wd_559 wd_560 wd_561 wd_66 (by decide +kernel) hts hR
set_option maxRecDepth 100000 in
theorem kw_X4_183 {R : Room} {s : State} {args : Array Value} (hts : ∀ w ∈ tw, w.before args s = true) (hR : 3 + 1 ≤ R.frames ∧ 8 + (3 + 11) + 40 * 3 ≤ R.locals) : CallW R s args RX4 RX3 183 yX3_faultIn cX3_faultIn 3 (some .int) (wsm yX3_faultIn cX3_faultIn 3 (some .int)) (rmd 3) 0 0 1 := kwV 1 wd_604 wd_601 wd_602 wd_603 wd_69 (by decide +kernel) hts hR
set_option maxRecDepth 100000 in
theorem kw_X4_187 {R : Room} {s : State} {args : Array Value} (hts : ∀ w ∈ tw, w.before args s = true) (hR : 1 + 1 ≤ R.frames ∧ 8 + (1 + 11) + 40 * 1 ≤ R.locals) : CallW R s args RX4 RX3 187 yX3_commands cX3_commands 1 (some .int) (wsm yX3_commands cX3_commands 1 (some .int)) (rmd 1) 0 0 0 := kwV 0 wd_629 wd_626 wd_627 wd_628 wd_69 (by decide +kernel) hts hR
set_option maxRecDepth 100000 in
theorem kw_X4_193 {R : Room} {s : State} {args : Array Value} (hts : ∀ w ∈ tw, w.before args s = true) (hR : 3 + 1 ≤ R.frames ∧ 8 + (2 + 11) + 40 * 3 ≤ R.locals) : CallW R s args RX4 RX0 193 yX0_takeBack cX0_takeBack 2 none (wsm yX0_takeBack cX0_takeBack 2 none) (rmd 3) 0 0 1 := kwV 1 wd_649 wd_646 wd_647 wd_648 wd_68 (by decide +kernel) hts hR
set_option maxRecDepth 100000 in
theorem kw_X4_190 {R : Room} {s : State} {args : Array Value} (hts : ∀ w ∈ tw, w.before args s = true) (hR : 5 + 1 ≤ R.frames ∧ 8 + (4 + 11) + 40 * 5 ≤ R.locals) : CallW R s args RX4 RX4 190 yX4_carryOut cX4_carryOut 4 (some .int) (wsm yX4_carryOut cX4_carryOut 4 (some .int)) (rmd 5) 0 0 1 := kwV 1 wd_633 wd_630 wd_632 wd_14 wd_65 (by decide +kernel) hts hR
set_option maxRecDepth 100000 in
theorem kw_X4_247 {R : Room} {s : State} {args : Array Value} (hts : ∀ w ∈ tw, w.before args s = true) (hR : 2 + 1 ≤ R.frames ∧ 8 + (3 + 11) + 40 * 2 ≤ R.locals) : CallW R s args RX4 RX1 247 yX1_copyFrom cX1_copyFrom 3 none (wsm yX1_copyFrom cX1_copyFrom 3 none) (rmd 2) 0 0 1 := kwV 1 wd_220 wd_729 wd_218 wd_219 wd_66 (by decide +kernel) hts hR
set_option maxRecDepth 100000 in
theorem kw_X4_254 {R : Room} {s : State} {args : Array Value} (hts : ∀ w ∈ tw, w.before args s = true) (hR : 0 + 1 ≤ R.frames ∧ 8 + (1 + 11) + 40 * 0 ≤ R.locals) : CallW R s args RX4 RX0 254 yX0_forget cX0_forget 1 none (wsm yX0_forget cX0_forget 1 none) (rmd 0) 0 0 0 := kwV 0 wd_737 wd_734 wd_735 wd_736 wd_68 (by decide +kernel) hts hR
set_option maxRecDepth 100000 in
theorem kw_X4_243 {R : Room} {s : State} {args : Array Value} (hts : ∀ w ∈ tw, w.before args s = true) (hR : 4 + 1 ≤ R.frames ∧ 8 + (2 + 11) + 40 * 4 ≤ R.locals) : CallW R s args RX4 RX0 243 yX0_goBack cX0_goBack 2 (some .boolean) (wsm yX0_goBack cX0_goBack 2 (some .boolean)) (rmd 4) 0 0 1 := kwV 1 wd_723 wd_720 wd_721 wd_722 wd_68 (by decide +kernel) hts hR
set_option maxRecDepth 100000 in
theorem kw_X4_157 {R : Room} {s : State} {args : Array Value} (hts : ∀ w ∈ tw, w.before args s = true) (hR : 4 + 1 ≤ R.frames ∧ 8 + (5 + 11) + 40 * 4 ≤ R.locals) : CallW R s args RX4 RX1 157 yX1_stepsAbove cX1_stepsAbove 5 (some .int) (wsm yX1_stepsAbove cX1_stepsAbove 5 (some .int)) (rmd 4) 0 0 2 := kwV 2 wd_527 wd_524 wd_525 wd_526 wd_66 (by decide +kernel) hts hR
set_option maxRecDepth 100000 in
theorem kw_X5_66 {R : Room} {s : State} {args : Array Value} (hts : ∀ w ∈ tw, w.before args s = true) (hR : 0 + 1 ≤ R.frames ∧ 8 + (2 + 11) + 40 * 0 ≤ R.locals) : CallW R s args RX5 RX5 66 yX5_size cX5_size 2 (some .int) (wsm yX5_size cX5_size 2 (some .int)) (rmd 0) 0 0 1 := kwV 1 wd_840 wd_837 wd_839 wd_20 wd_70 (by decide +kernel) hts hR
set_option maxRecDepth 100000 in
theorem kw_X5_70 {R : Room} {s : State} {args : Array Value} (hts : ∀ w ∈ tw, w.before args s = true) (hR : 0 + 1 ≤ R.frames ∧ 8 + (3 + 11) + 40 * 0 ≤ R.locals) : CallW R s args RX5 RX5 70 yX5_place cX5_place 3 (some .int) (wsm yX5_place cX5_place 3 (some .int)) (rmd 0) 0 0 2 := kwV 2 wd_880 wd_877 wd_879 wd_28 wd_70 (by decide +kernel) hts hR
set_option maxRecDepth 100000 in
theorem kw_X5_74 {R : Room} {s : State} {args : Array Value} (hts : ∀ w ∈ tw, w.before args s = true) (hR : 1 + 1 ≤ R.frames ∧ 8 + (4 + 11) + 40 * 1 ≤ R.locals) : CallW R s args RX5 RX5 74 yX5_firstIn cX5_firstIn 4 (some .int) (wsm yX5_firstIn cX5_firstIn 4 (some .int)) (rmd 1) 0 0 2 := kwV 2 wd_876 wd_873 wd_875 wd_27 wd_70 (by decide +kernel) hts hR
set_option maxRecDepth 100000 in
theorem kw_X5_77 {R : Room} {s : State} {args : Array Value} (hts : ∀ w ∈ tw, w.before args s = true) (hR : 2 + 1 ≤ R.frames ∧ 8 + (3 + 11) + 40 * 2 ≤ R.locals) : CallW R s args RX5 RX5 77 yX5_roundOf cX5_roundOf 3 (some .int) (wsm yX5_roundOf cX5_roundOf 3 (some .int)) (rmd 2) 0 0 1 := kwV 1 wd_872 wd_869 wd_871 wd_26 wd_70 (by decide +kernel) hts hR
set_option maxRecDepth 100000 in
theorem kw_X5_123 {R : Room} {s : State} {args : Array Value} (hts : ∀ w ∈ tw, w.before args s = true) (hR : 3 + 1 ≤ R.frames ∧ 8 + (2 + 11) + 40 * 3 ≤ R.locals) : CallW R s args RX5 RX5 123 yX5_first cX5_first 2 (some .int) (wsm yX5_first cX5_first 2 (some .int)) (rmd 3) 0 0 1 := kwV 1 wd_912 wd_909 wd_911 wd_35 wd_70 (by decide +kernel) hts hR
set_option maxRecDepth 100000 in
theorem kw_X5_103 {R : Room} {s : State} {args : Array Value} (hts : ∀ w ∈ tw, w.before args s = true) (hR : 0 + 1 ≤ R.frames ∧ 8 + (2 + 11) + 40 * 0 ≤ R.locals) : CallW R s args RX5 RX5 103 yX5_weight cX5_weight 2 (some .int) (wsm yX5_weight cX5_weight 2 (some .int)) (rmd 0) 0 0 1 := kwV 1 wd_860 wd_857 wd_859 wd_24 wd_70 (by decide +kernel) hts hR
set_option maxRecDepth 100000 in
theorem kw_X5_110 {R : Room} {s : State} {args : Array Value} (hts : ∀ w ∈ tw, w.before args s = true) (hR : 3 + 1 ≤ R.frames ∧ 8 + (3 + 11) + 40 * 3 ≤ R.locals) : CallW R s args RX5 RX5 110 yX5_areOne cX5_areOne 3 (some .boolean) (wsm yX5_areOne cX5_areOne 3 (some .boolean)) (rmd 3) 0 0 2 := kwV 2 wd_868 wd_865 wd_867 wd_25 wd_70 (by decide +kernel) hts hR
set_option maxRecDepth 100000 in
theorem kw_X5_132 {R : Room} {s : State} {args : Array Value} (hts : ∀ w ∈ tw, w.before args s = true) (hR : 3 + 1 ≤ R.frames ∧ 8 + (4 + 11) + 40 * 3 ≤ R.locals) : CallW R s args RX5 RX5 132 yX5_last cX5_last 4 (some .int) (wsm yX5_last cX5_last 4 (some .int)) (rmd 3) 0 0 1 := kwV 1 wd_916 wd_913 wd_915 wd_36 wd_70 (by decide +kernel) hts hR
set_option maxRecDepth 100000 in
theorem kw_X5_138 {R : Room} {s : State} {args : Array Value} (hts : ∀ w ∈ tw, w.before args s = true) (hR : 4 + 1 ≤ R.frames ∧ 8 + (3 + 11) + 40 * 4 ≤ R.locals) : CallW R s args RX5 RX5 138 yX5_below cX5_below 3 (some .boolean) (wsm yX5_below cX5_below 3 (some .boolean)) (rmd 4) 0 0 2 := kwV 2 wd_949 wd_946 wd_948 wd_39 wd_70 (by decide +kernel) hts hR
set_option maxRecDepth 100000 in
theorem kw_X5_144 {R : Room} {s : State} {args : Array Value} (hts : ∀ w ∈ tw, w.before args s = true) (hR : 5 + 1 ≤ R.frames ∧ 8 + (4 + 11) + 40 * 5 ≤ R.locals) : CallW R s args RX5 RX5 144 yX5_depth cX5_depth 4 (some .int) (wsm yX5_depth cX5_depth 4 (some .int)) (rmd 5) 0 0 1 := kwV 1 wd_945 wd_942 wd_944 wd_38 wd_70 (by decide +kernel) hts hR
set_option maxRecDepth 100000 in
theorem kw_X5_159 {R : Room} {s : State} {args : Array Value} (hts : ∀ w ∈ tw, w.before args s = true) (hR : 6 + 1 ≤ R.frames ∧ 8 + (5 + 11) + 40 * 6 ≤ R.locals) : CallW R s args RX5 RX5 159 yX5_greatestDepth cX5_greatestDepth 5 (some .int) (wsm yX5_greatestDepth cX5_greatestDepth 5 (some .int)) (rmd 6) 0 0 1 := kwV 1 wd_981 wd_978 wd_980 wd_44 wd_70 (by decide +kernel) hts hR
set_option maxRecDepth 100000 in
theorem kw_X5_254 {R : Room} {s : State} {args : Array Value} (hts : ∀ w ∈ tw, w.before args s = true) (hR : 1 + 1 ≤ R.frames ∧ 8 + (3 + 11) + 40 * 1 ≤ R.locals) : CallW R s args RX5 RX5 254 yX5_parts cX5_parts 3 (some .int) (wsm yX5_parts cX5_parts 3 (some .int)) (rmd 1) 0 0 0 := kwV 0 wd_1195 wd_1192 wd_1194 wd_60 wd_70 (by decide +kernel) hts hR
set_option maxRecDepth 100000 in
theorem kw_X5_257 {R : Room} {s : State} {args : Array Value} (hts : ∀ w ∈ tw, w.before args s = true) (hR : 1 + 1 ≤ R.frames ∧ 8 + (3 + 11) + 40 * 1 ≤ R.locals) : CallW R s args RX5 RX5 257 yX5_allWeights cX5_allWeights 3 (some .int) (wsm yX5_allWeights cX5_allWeights 3 (some .int)) (rmd 1) 0 0 0 := kwV 0 wd_1199 wd_1196 wd_1198 wd_61 wd_70 (by decide +kernel) hts hR
set_option maxRecDepth 100000 in
theorem kw_X5_260 {R : Room} {s : State} {args : Array Value} (hts : ∀ w ∈ tw, w.before args s = true) (hR : 1 + 1 ≤ R.frames ∧ 8 + (3 + 11) + 40 * 1 ≤ R.locals) : CallW R s args RX5 RX5 260 yX5_allPlaces cX5_allPlaces 3 (some .int) (wsm yX5_allPlaces cX5_allPlaces 3 (some .int)) (rmd 1) 0 0 0 := kwV 0 wd_1203 wd_1200 wd_1202 wd_62 wd_70 (by decide +kernel) hts hR
set_option maxRecDepth 100000 in
theorem kw_X5_263 {R : Room} {s : State} {args : Array Value} (hts : ∀ w ∈ tw, w.before args s = true) (hR : 7 + 1 ≤ R.frames ∧ 8 + (4 + 11) + 40 * 7 ≤ R.locals) : CallW R s args RX5 RX5 263 yX5_deepest cX5_deepest 4 (some .int) (wsm yX5_deepest cX5_deepest 4 (some .int)) (rmd 7) 0 0 0 := kwV 0 wd_1207 wd_1204 wd_1206 wd_63 wd_70 (by decide +kernel) hts hR
set_option maxRecDepth 100000 in
theorem kw_X5_62 {R : Room} {s : State} {args : Array Value} (hts : ∀ w ∈ tw, w.before args s = true) (hR : 0 + 1 ≤ R.frames ∧ 8 + (3 + 11) + 40 * 0 ≤ R.locals) : CallB R s args RX5 62 yX5_isBetween cX5_isBetween 3 (some .boolean) (wsm yX5_isBetween cX5_isBetween 3 (some .boolean)) (rmd 0) 0 0 3 ∧ (Cond.static yX5_isBetween).before args s = true := kwS 3 wd_817 wd_815 wd_816 wd_70 (by decide +kernel) hts hR
set_option maxRecDepth 100000 in
theorem kw_X5_99 {R : Room} {s : State} {args : Array Value} (hts : ∀ w ∈ tw, w.before args s = true) (hR : 1 + 1 ≤ R.frames ∧ 8 + (2 + 11) + 40 * 1 ≤ R.locals) : CallW R s args RX5 RX5 99 yX5_isBank cX5_isBank 2 (some .boolean) (wsm yX5_isBank cX5_isBank 2 (some .boolean)) (rmd 1) 0 0 1 := kwV 1 wd_856 wd_853 wd_855 wd_23 wd_70 (by decide +kernel) hts hR
set_option maxRecDepth 100000 in
theorem kw_X5_141 {R : Room} {s : State} {args : Array Value} (hts : ∀ w ∈ tw, w.before args s = true) (hR : 4 + 1 ≤ R.frames ∧ 8 + (3 + 11) + 40 * 4 ≤ R.locals) : CallW R s args RX5 RX5 141 yX5_areJoined cX5_areJoined 3 (some .int) (wsm yX5_areJoined cX5_areJoined 3 (some .int)) (rmd 4) 0 0 2 := kwV 2 wd_932 wd_937 wd_930 wd_931 wd_70 (by decide +kernel) hts hR
set_option maxRecDepth 100000 in
theorem kw_X5_54 {R : Room} {s : State} {args : Array Value} (hts : ∀ w ∈ tw, w.before args s = true) (hR : 0 + 1 ≤ R.frames ∧ 8 + (3 + 11) + 40 * 0 ≤ R.locals) : CallB R s args RX5 54 yX5_copyRow cX5_copyRow 3 none (wsm yX5_copyRow cX5_copyRow 3 none) (rmd 0) 0 0 2 ∧ (Cond.static yX5_copyRow).before args s = true := kwS 2 wd_832 wd_830 wd_831 wd_70 (by decide +kernel) hts hR
set_option maxRecDepth 100000 in
theorem kw_X5_58 {R : Room} {s : State} {args : Array Value} (hts : ∀ w ∈ tw, w.before args s = true) (hR : 1 + 1 ≤ R.frames ∧ 8 + (3 + 11) + 40 * 1 ≤ R.locals) : CallW R s args RX5 RX5 58 yX5_remember cX5_remember 3 none (wsm yX5_remember cX5_remember 3 none) (rmd 1) 0 0 1 := kwV 1 wd_829 wd_826 wd_828 wd_18 wd_70 (by decide +kernel) hts hR
set_option maxRecDepth 100000 in
theorem kw_X5_80 {R : Room} {s : State} {args : Array Value} (hts : ∀ w ∈ tw, w.before args s = true) (hR : 0 + 1 ≤ R.frames ∧ 8 + (4 + 11) + 40 * 0 ≤ R.locals) : CallW R s args RX5 RX5 80 yX5_refuse cX5_refuse 4 (some .boolean) (wsm yX5_refuse cX5_refuse 4 (some .boolean)) (rmd 0) 0 0 3 := kwV 3 wd_821 wd_818 wd_820 wd_16 wd_70 (by decide +kernel) hts hR
set_option maxRecDepth 100000 in
theorem kw_X5_84 {R : Room} {s : State} {args : Array Value} (hts : ∀ w ∈ tw, w.before args s = true) (hR : 2 + 1 ≤ R.frames ∧ 8 + (1 + 11) + 40 * 2 ≤ R.locals) : CallW R s args RX5 RX5 84 yX5_change cX5_change 1 none (wsm yX5_change cX5_change 1 none) (rmd 2) 0 0 0 := kwV 0 wd_825 wd_822 wd_824 wd_17 wd_70 (by decide +kernel) hts hR
set_option maxRecDepth 100000 in
theorem kw_X5_87 {R : Room} {s : State} {args : Array Value} (hts : ∀ w ∈ tw, w.before args s = true) (hR : 1 + 1 ≤ R.frames ∧ 8 + (2 + 11) + 40 * 1 ≤ R.locals) : CallW R s args RX5 RX5 87 yX5_emptyRound cX5_emptyRound 2 (some .int) (wsm yX5_emptyRound cX5_emptyRound 2 (some .int)) (rmd 1) 0 0 0 := kwV 0 wd_836 wd_833 wd_835 wd_19 wd_70 (by decide +kernel) hts hR
set_option maxRecDepth 100000 in
theorem kw_X5_91 {R : Room} {s : State} {args : Array Value} (hts : ∀ w ∈ tw, w.before args s = true) (hR : 0 + 1 ≤ R.frames ∧ 8 + (3 + 11) + 40 * 0 ≤ R.locals) : CallW R s args RX5 RX5 91 yX5_setSize cX5_setSize 3 none (wsm yX5_setSize cX5_setSize 3 none) (rmd 0) 0 0 2 := kwV 2 wd_844 wd_841 wd_843 wd_21 wd_70 (by decide +kernel) hts hR
set_option maxRecDepth 100000 in
theorem kw_X5_95 {R : Room} {s : State} {args : Array Value} (hts : ∀ w ∈ tw, w.before args s = true) (hR : 0 + 1 ≤ R.frames ∧ 8 + (4 + 11) + 40 * 0 ≤ R.locals) : CallW R s args RX5 RX5 95 yX5_setPlace cX5_setPlace 4 none (wsm yX5_setPlace cX5_setPlace 4 none) (rmd 0) 0 0 3 := kwV 3 wd_848 wd_845 wd_847 wd_22 wd_70 (by decide +kernel) hts hR
set_option maxRecDepth 100000 in
theorem kw_X5_126 {R : Room} {s : State} {args : Array Value} (hts : ∀ w ∈ tw, w.before args s = true) (hR : 3 + 1 ≤ R.frames ∧ 8 + (5 + 11) + 40 * 3 ≤ R.locals) : CallW R s args RX5 RX5 126 yX5_isTied cX5_isTied 5 (some .boolean) (wsm yX5_isTied cX5_isTied 5 (some .boolean)) (rmd 3) 0 0 2 := kwV 2 wd_904 wd_901 wd_903 wd_33 wd_70 (by decide +kernel) hts hR
set_option maxRecDepth 100000 in
theorem kw_X5_114 {R : Room} {s : State} {args : Array Value} (hts : ∀ w ∈ tw, w.before args s = true) (hR : 3 + 1 ≤ R.frames ∧ 8 + (2 + 11) + 40 * 3 ≤ R.locals) : CallW R s args RX5 RX5 114 yX5_root cX5_root 2 (some .int) (wsm yX5_root cX5_root 2 (some .int)) (rmd 3) 0 0 1 := kwV 1 wd_884 wd_881 wd_883 wd_29 wd_70 (by decide +kernel) hts hR
set_option maxRecDepth 100000 in
theorem kw_X5_147 {R : Room} {s : State} {args : Array Value} (hts : ∀ w ∈ tw, w.before args s = true) (hR : 4 + 1 ≤ R.frames ∧ 8 + (4 + 11) + 40 * 4 ≤ R.locals) : CallW R s args RX5 RX5 147 yX5_ropes cX5_ropes 4 (some .int) (wsm yX5_ropes cX5_ropes 4 (some .int)) (rmd 4) 0 0 1 := kwV 1 wd_953 wd_950 wd_952 wd_40 wd_70 (by decide +kernel) hts hR
set_option maxRecDepth 100000 in
theorem kw_X5_150 {R : Room} {s : State} {args : Array Value} (hts : ∀ w ∈ tw, w.before args s = true) (hR : 4 + 1 ≤ R.frames ∧ 8 + (3 + 11) + 40 * 4 ≤ R.locals) : CallW R s args RX5 RX5 150 yX5_above cX5_above 3 (some .int) (wsm yX5_above cX5_above 3 (some .int)) (rmd 4) 0 0 1 := kwV 1 wd_957 wd_954 wd_956 wd_41 wd_70 (by decide +kernel) hts hR
set_option maxRecDepth 100000 in
theorem kw_X5_153 {R : Room} {s : State} {args : Array Value} (hts : ∀ w ∈ tw, w.before args s = true) (hR : 5 + 1 ≤ R.frames ∧ 8 + (4 + 11) + 40 * 5 ≤ R.locals) : CallW R s args RX5 RX5 153 yX5_countBelow cX5_countBelow 4 (some .int) (wsm yX5_countBelow cX5_countBelow 4 (some .int)) (rmd 5) 0 0 1 := kwV 1 wd_961 wd_958 wd_960 wd_42 wd_70 (by decide +kernel) hts hR
set_option maxRecDepth 100000 in
theorem kw_X5_156 {R : Room} {s : State} {args : Array Value} (hts : ∀ w ∈ tw, w.before args s = true) (hR : 5 + 1 ≤ R.frames ∧ 8 + (4 + 11) + 40 * 5 ≤ R.locals) : CallW R s args RX5 RX5 156 yX5_sumBelow cX5_sumBelow 4 (some .int) (wsm yX5_sumBelow cX5_sumBelow 4 (some .int)) (rmd 5) 0 0 1 := kwV 1 wd_965 wd_962 wd_964 wd_43 wd_70 (by decide +kernel) hts hR
set_option maxRecDepth 100000 in
theorem kw_X5_129 {R : Room} {s : State} {args : Array Value} (hts : ∀ w ∈ tw, w.before args s = true) (hR : 4 + 1 ≤ R.frames ∧ 8 + (3 + 11) + 40 * 4 ≤ R.locals) : CallW R s args RX5 RX5 129 yX5_lower cX5_lower 3 (some .int) (wsm yX5_lower cX5_lower 3 (some .int)) (rmd 4) 0 0 2 := kwV 2 wd_908 wd_905 wd_907 wd_34 wd_70 (by decide +kernel) hts hR
set_option maxRecDepth 100000 in
theorem kw_X5_106 {R : Room} {s : State} {args : Array Value} (hts : ∀ w ∈ tw, w.before args s = true) (hR : 3 + 1 ≤ R.frames ∧ 8 + (6 + 11) + 40 * 3 ≤ R.locals) : CallW R s args RX5 RX5 106 yX5_turnTo cX5_turnTo 6 none (wsm yX5_turnTo cX5_turnTo 6 none) (rmd 3) 0 0 1 := kwV 1 wd_892 wd_889 wd_891 wd_31 wd_70 (by decide +kernel) hts hR
set_option maxRecDepth 100000 in
theorem kw_X5_117 {R : Room} {s : State} {args : Array Value} (hts : ∀ w ∈ tw, w.before args s = true) (hR : 4 + 1 ≤ R.frames ∧ 8 + (8 + 11) + 40 * 4 ≤ R.locals) : CallW R s args RX5 RX5 117 yX5_putIn cX5_putIn 8 none (wsm yX5_putIn cX5_putIn 8 none) (rmd 4) 0 0 2 := kwV 2 wd_888 wd_885 wd_887 wd_30 wd_70 (by decide +kernel) hts hR
set_option maxRecDepth 100000 in
theorem kw_X5_120 {R : Room} {s : State} {args : Array Value} (hts : ∀ w ∈ tw, w.before args s = true) (hR : 1 + 1 ≤ R.frames ∧ 8 + (2 + 11) + 40 * 1 ≤ R.locals) : CallW R s args RX5 RX5 120 yX5_banksOf cX5_banksOf 2 (some .int) (wsm yX5_banksOf cX5_banksOf 2 (some .int)) (rmd 1) 0 0 1 := kwV 1 wd_896 wd_893 wd_895 wd_32 wd_70 (by decide +kernel) hts hR
set_option maxRecDepth 100000 in
theorem kw_X5_135 {R : Room} {s : State} {args : Array Value} (hts : ∀ w ∈ tw, w.before args s = true) (hR : 1 + 1 ≤ R.frames ∧ 8 + (4 + 11) + 40 * 1 ≤ R.locals) : CallW R s args RX5 RX5 135 yX5_risen cX5_risen 4 (some .int) (wsm yX5_risen cX5_risen 4 (some .int)) (rmd 1) 0 0 2 := kwV 2 wd_928 wd_925 wd_927 wd_37 wd_70 (by decide +kernel) hts hR
set_option maxRecDepth 100000 in
theorem kw_X5_230 {R : Room} {s : State} {args : Array Value} (hts : ∀ w ∈ tw, w.before args s = true) (hR : 3 + 1 ≤ R.frames ∧ 8 + (4 + 11) + 40 * 3 ≤ R.locals) : CallW R s args RX5 RX5 230 yX5_bank cX5_bank 4 (some .int) (wsm yX5_bank cX5_bank 4 (some .int)) (rmd 3) 0 0 1 := kwV 1 wd_814 wd_1177 wd_812 wd_813 wd_70 (by decide +kernel) hts hR
set_option maxRecDepth 100000 in
theorem kw_X5_239 {R : Room} {s : State} {args : Array Value} (hts : ∀ w ∈ tw, w.before args s = true) (hR : 5 + 1 ≤ R.frames ∧ 8 + (10 + 11) + 40 * 5 ≤ R.locals) : CallW R s args RX5 RX5 239 yX5_cut cX5_cut 10 (some .int) (wsm yX5_cut cX5_cut 10 (some .int)) (rmd 5) 0 0 2 := kwV 2 wd_900 wd_1180 wd_898 wd_899 wd_70 (by decide +kernel) hts hR
set_option maxRecDepth 100000 in
theorem kw_X5_236 {R : Room} {s : State} {args : Array Value} (hts : ∀ w ∈ tw, w.before args s = true) (hR : 5 + 1 ≤ R.frames ∧ 8 + (3 + 11) + 40 * 5 ≤ R.locals) : CallW R s args RX5 RX5 236 yX5_join cX5_join 3 (some .int) (wsm yX5_join cX5_join 3 (some .int)) (rmd 5) 0 0 2 := kwV 2 wd_864 wd_1179 wd_862 wd_863 wd_70 (by decide +kernel) hts hR
set_option maxRecDepth 100000 in
theorem kw_X5_242 {R : Room} {s : State} {args : Array Value} (hts : ∀ w ∈ tw, w.before args s = true) (hR : 4 + 1 ≤ R.frames ∧ 8 + (3 + 11) + 40 * 4 ≤ R.locals) : CallW R s args RX5 RX5 242 yX5_turn cX5_turn 3 (some .int) (wsm yX5_turn cX5_turn 3 (some .int)) (rmd 4) 0 0 1 := kwV 1 wd_920 wd_1181 wd_918 wd_919 wd_70 (by decide +kernel) hts hR
set_option maxRecDepth 100000 in
theorem kw_X5_233 {R : Room} {s : State} {args : Array Value} (hts : ∀ w ∈ tw, w.before args s = true) (hR : 3 + 1 ≤ R.frames ∧ 8 + (4 + 11) + 40 * 3 ≤ R.locals) : CallW R s args RX5 RX5 233 yX5_weigh cX5_weigh 4 (some .int) (wsm yX5_weigh cX5_weigh 4 (some .int)) (rmd 3) 0 0 2 := kwV 2 wd_852 wd_1178 wd_850 wd_851 wd_70 (by decide +kernel) hts hR
set_option maxRecDepth 100000 in
theorem kw_X5_245 {R : Room} {s : State} {args : Array Value} (hts : ∀ w ∈ tw, w.before args s = true) (hR : 4 + 1 ≤ R.frames ∧ 8 + (5 + 11) + 40 * 4 ≤ R.locals) : CallW R s args RX5 RX5 245 yX5_rise cX5_rise 5 (some .int) (wsm yX5_rise cX5_rise 5 (some .int)) (rmd 4) 0 0 2 := kwV 2 wd_924 wd_1182 wd_922 wd_923 wd_70 (by decide +kernel) hts hR
set_option maxRecDepth 100000 in
theorem kw_X5_196 {R : Room} {s : State} {args : Array Value} (hts : ∀ w ∈ tw, w.before args s = true) (hR : 1 + 1 ≤ R.frames ∧ 8 + (3 + 11) + 40 * 1 ≤ R.locals) : CallW R s args RX5 RX5 196 yX5_sees cX5_sees 3 (some .boolean) (wsm yX5_sees cX5_sees 3 (some .boolean)) (rmd 1) 0 0 2 := kwV 2 wd_1160 wd_1157 wd_1159 wd_55 wd_70 (by decide +kernel) hts hR
set_option maxRecDepth 100000 in
theorem kw_X5_199 {R : Room} {s : State} {args : Array Value} (hts : ∀ w ∈ tw, w.before args s = true) (hR : 2 + 1 ≤ R.frames ∧ 8 + (2 + 11) + 40 * 2 ≤ R.locals) : CallW R s args RX5 RX5 199 yX5_must cX5_must 2 none (wsm yX5_must cX5_must 2 none) (rmd 2) 0 0 1 := kwV 1 wd_1168 wd_1165 wd_1167 wd_57 wd_70 (by decide +kernel) hts hR
set_option maxRecDepth 100000 in
theorem kw_X5_202 {R : Room} {s : State} {args : Array Value} (hts : ∀ w ∈ tw, w.before args s = true) (hR : 2 + 1 ≤ R.frames ∧ 8 + (3 + 11) + 40 * 2 ≤ R.locals) : CallW R s args RX5 RX5 202 yX5_readNumber cX5_readNumber 3 (some .int) (wsm yX5_readNumber cX5_readNumber 3 (some .int)) (rmd 2) 0 0 0 := kwV 0 wd_1156 wd_1153 wd_1155 wd_54 wd_70 (by decide +kernel) hts hR
set_option maxRecDepth 100000 in
theorem kw_X5_221 {R : Room} {s : State} {args : Array Value} (hts : ∀ w ∈ tw, w.before args s = true) (hR : 3 + 1 ≤ R.frames ∧ 8 + (2 + 11) + 40 * 3 ≤ R.locals) : CallW R s args RX5 RX5 221 yX5_readBehind cX5_readBehind 2 none (wsm yX5_readBehind cX5_readBehind 2 none) (rmd 3) 0 0 1 := kwV 1 wd_1164 wd_1161 wd_1163 wd_56 wd_70 (by decide +kernel) hts hR
set_option maxRecDepth 100000 in
theorem kw_X5_224 {R : Room} {s : State} {args : Array Value} (hts : ∀ w ∈ tw, w.before args s = true) (hR : 3 + 1 ≤ R.frames ∧ 8 + (3 + 11) + 40 * 3 ≤ R.locals) : CallW R s args RX5 RX5 224 yX5_readRise cX5_readRise 3 none (wsm yX5_readRise cX5_readRise 3 none) (rmd 3) 0 0 0 := kwV 0 wd_1172 wd_1169 wd_1171 wd_58 wd_70 (by decide +kernel) hts hR
set_option maxRecDepth 100000 in
theorem kw_X5_227 {R : Room} {s : State} {args : Array Value} (hts : ∀ w ∈ tw, w.before args s = true) (hR : 4 + 1 ≤ R.frames ∧ 8 + (1 + 11) + 40 * 4 ≤ R.locals) : CallW R s args RX5 RX5 227 yX5_readCommand cX5_readCommand 1 none (wsm yX5_readCommand cX5_readCommand 1 none) (rmd 4) 0 0 0 := kwV 0 wd_1069 wd_1066 wd_1068 wd_53 wd_70 (by decide +kernel) hts hR
set_option maxRecDepth 100000 in
theorem kw_X5_183 {R : Room} {s : State} {args : Array Value} (hts : ∀ w ∈ tw, w.before args s = true) (hR : 0 + 1 ≤ R.frames ∧ 8 + (2 + 11) + 40 * 0 ≤ R.locals) : CallW R s args RX5 RX5 183 yX5_write cX5_write 2 none (wsm yX5_write cX5_write 2 none) (rmd 0) 0 0 1 := kwV 1 wd_1045 wd_1042 wd_1044 wd_51 wd_70 (by decide +kernel) hts hR
set_option maxRecDepth 100000 in
theorem kw_X5_180_rec {R : Room} {s : State} {args : Array Value} (hts : ∀ w ∈ tw, w.before args s = true) (hR : 1 + 1 ≤ R.frames ∧ 8 + (2 + 11) + 40 * 1 ≤ R.locals) : CallW R s args RX5 RX5 180 yX5_writeNumber cX5_writeNumber 2 none (wsm yX5_writeNumber cX5_writeNumber 2 none) (rmd 1) 0 0 1 := kwV 1 wd_1041 wd_1038 wd_1040 wd_50 wd_70 (by decide +kernel) hts hR
set_option maxRecDepth 100000 in
theorem kw_X5_180 {R : Room} {s : State} {args : Array Value} (hts : ∀ w ∈ tw, w.before args s = true) (hR : 2 + 1 ≤ R.frames ∧ 8 + (2 + 11) + 40 * 2 ≤ R.locals) : CallW R s args RX5 RX5 180 yX5_writeNumber cX5_writeNumber 2 none (wsm yX5_writeNumber cX5_writeNumber 2 none) (rmd 2) 0 0 1 := kwV 1 wd_1041 wd_1038 wd_1040 wd_50 wd_70 (by decide +kernel) hts hR
set_option maxRecDepth 100000 in
theorem kw_Jxf58ca_59 {R : Room} {s : State} {args : Array Value} (hts : ∀ w ∈ tw, w.before args s = true) (hR : 0 + 1 ≤ R.frames ∧ 8 + (1 + 11) + 40 * 0 ≤ R.locals) : CallB R s args RJxf58ca 59 yJxf58ca_isNaN_12338 cJxf58ca_isNaN_12338 1 (some .boolean) (wsm yJxf58ca_isNaN_12338 cJxf58ca_isNaN_12338 1 (some .boolean)) (rmd 0) 0 0 1 ∧ (Cond.static yJxf58ca_isNaN_12338).before args s = true := kwS 1 wd_1221 wd_1219 wd_1220 wd_78 (by decide +kernel) hts hR
set_option maxRecDepth 100000 in
theorem kw_X5_266 {R : Room} {s : State} {args : Array Value} (hts : ∀ w ∈ tw, w.before args s = true) (hR : 1 + 1 ≤ R.frames ∧ 8 + (1 + 11) + 40 * 1 ≤ R.locals) : CallB R s args RX5 266 yJxf58ca_floatToIntBits_5c35a cJxf58ca_floatToIntBits_5c35a 1 (some .int) (wsm yJxf58ca_floatToIntBits_5c35a cJxf58ca_floatToIntBits_5c35a 1 (some .int)) (rmd 1) 0 0 1 ∧ (Cond.static yJxf58ca_floatToIntBits_5c35a).before args s = true := kwS 1 wd_1218 wd_1216 wd_1217 wd_78 (by decide +kernel) hts hR
set_option maxRecDepth 100000 in
theorem kw_X5_165 {R : Room} {s : State} {args : Array Value} (hts : ∀ w ∈ tw, w.before args s = true) (hR : 5 + 1 ≤ R.frames ∧ 8 + (4 + 11) + 40 * 5 ≤ R.locals) : CallW R s args RX5 RX5 165 yX5_meeting cX5_meeting 4 (some .int) (wsm yX5_meeting cX5_meeting 4 (some .int)) (rmd 5) 0 0 2 := kwV 2 wd_1001 wd_998 wd_1000 wd_46 wd_70 (by decide +kernel) hts hR
set_option maxRecDepth 100000 in
theorem kw_X5_171 {R : Room} {s : State} {args : Array Value} (hts : ∀ w ∈ tw, w.before args s = true) (hR : 6 + 1 ≤ R.frames ∧ 8 + (5 + 11) + 40 * 6 ≤ R.locals) : CallW R s args RX5 RX5 171 yX5_heaviestLeft cX5_heaviestLeft 5 (some .int) (wsm yX5_heaviestLeft cX5_heaviestLeft 5 (some .int)) (rmd 6) 0 0 1 := kwV 1 wd_1025 wd_1022 wd_1024 wd_48 wd_70 (by decide +kernel) hts hR
set_option maxRecDepth 100000 in
theorem kw_X5_162 {R : Room} {s : State} {args : Array Value} (hts : ∀ w ∈ tw, w.before args s = true) (hR : 1 + 1 ≤ R.frames ∧ 8 + (4 + 11) + 40 * 1 ≤ R.locals) : CallW R s args RX5 RX5 162 yX5_heaviest cX5_heaviest 4 (some .int) (wsm yX5_heaviest cX5_heaviest 4 (some .int)) (rmd 1) 0 0 1 := kwV 1 wd_985 wd_982 wd_984 wd_45 wd_70 (by decide +kernel) hts hR
set_option maxRecDepth 100000 in
theorem kw_X5_174 {R : Room} {s : State} {args : Array Value} (hts : ∀ w ∈ tw, w.before args s = true) (hR : 6 + 1 ≤ R.frames ∧ 8 + (5 + 11) + 40 * 6 ≤ R.locals) : CallW R s args RX5 RX5 174 yX5_isAhead cX5_isAhead 5 (some .boolean) (wsm yX5_isAhead cX5_isAhead 5 (some .boolean)) (rmd 6) 0 0 2 := kwV 2 wd_1033 wd_1030 wd_1032 wd_49 wd_70 (by decide +kernel) hts hR
set_option maxRecDepth 100000 in
theorem kw_X5_248 {R : Room} {s : State} {args : Array Value} (hts : ∀ w ∈ tw, w.before args s = true) (hR : 5 + 1 ≤ R.frames ∧ 8 + (2 + 11) + 40 * 5 ≤ R.locals) : CallW R s args RX5 RX5 248 yX5_countCommands cX5_countCommands 2 (some .int) (wsm yX5_countCommands cX5_countCommands 2 (some .int)) (rmd 5) 0 0 0 := kwV 0 wd_1065 wd_1062 wd_1064 wd_52 wd_70 (by decide +kernel) hts hR
set_option maxRecDepth 100000 in
theorem kw_X5_251 {R : Room} {s : State} {args : Array Value} (hts : ∀ w ∈ tw, w.before args s = true) (hR : 6 + 1 ≤ R.frames ∧ 8 + (1 + 11) + 40 * 6 ≤ R.locals) : CallW R s args RX5 RX5 251 yX5_carryOut cX5_carryOut 1 (some .int) (wsm yX5_carryOut cX5_carryOut 1 (some .int)) (rmd 6) 0 0 0 := kwV 0 wd_1176 wd_1173 wd_1175 wd_59 wd_70 (by decide +kernel) hts hR
set_option maxRecDepth 100000 in
theorem kw_X5_168 {R : Room} {s : State} {args : Array Value} (hts : ∀ w ∈ tw, w.before args s = true) (hR : 5 + 1 ≤ R.frames ∧ 8 + (5 + 11) + 40 * 5 ≤ R.locals) : CallW R s args RX5 RX5 168 yX5_climb cX5_climb 5 (some .int) (wsm yX5_climb cX5_climb 5 (some .int)) (rmd 5) 0 0 2 := kwV 2 wd_1009 wd_1006 wd_1008 wd_47 wd_70 (by decide +kernel) hts hR
theorem pf_0_2 {p : Program} {l : Launch} {e : Env} {R : Room} {s : State} {m : MethodId} {args : Array Value} {below : List Frame} {meth : Method} {c : Code} {H : Heap} {locs : List Loc} {cells slots : Nat} {Q : State → Prop} {G : va_G} {Λ : Lay} {μ μ1 : Mem} {cc : ByteArray} {pc nL : Nat} {ls : Array Slot} {rest : List Value} {a : Nat} {A : Nat → Prop} {H0 : Heap} {v : Int32} (hOK : LayOK Λ) (hF : CallFix p m c cc nL s args tw RX0) (hKK : KK G Λ s) (hW : Wd G Λ μ H) (hS : va_S A H0 H locs) (hA : ∀ q, inL Λ q → A q) (hk : inK Λ a 0) (hμ : μ1 = stI μ a 2 v) (hdg : decode cc pc = .ok (.putfield 18, 3))
    (kk : ∀ (H : Heap) (locs : List Loc), Wd G Λ μ1 H → va_S A H0 H locs → W p l e R s m args below meth c H locs cells slots Q (F0 m (pc + 3) ls rest)) : W p l e R s m args below meth c H locs cells slots Q (F0 m pc ls (.int v :: .ref a :: rest)) :=
  g_put hOK hF hKK hW hS hA hk.1 (k := 2) (enc_0 hk.2) rfl twX0 tyX0 tyX0_ok nmX0 (Nat.le_of_ble_eq_true rfl) wd_141 rfl (ty := .int) (by decide +kernel) (vp_nar_int _) rfl (Nat.le_of_ble_eq_true rfl) (by rw [hμ]; exact enc_stI ((enc_0 hk.2).trans (by simp [mI, stI]))) hdg kk
theorem gf_0_2 {p : Program} {l : Launch} {e : Env} {R : Room} {s : State} {m : MethodId} {args : Array Value} {below : List Frame} {meth : Method} {c : Code} {H : Heap} {locs : List Loc} {cells slots : Nat} {Q : State → Prop} {G : va_G} {Λ : Lay} {μ : Mem} {cc : ByteArray} {pc nL : Nat} {ls : Array Slot} {rest : List Value} {a : Nat} (hF : CallFix p m c cc nL s args tw RX0) (hKK : KK G Λ s) (hW : Wd G Λ μ H) (hk : inK Λ a 0) (hdg : decode cc pc = .ok (.getfield 18, 3))
    (kk : W p l e R s m args below meth c H locs cells slots Q (F0 m (pc + 3) ls (.int (mI μ a 2) :: rest))) : W p l e R s m args below meth c H locs cells slots Q (F0 m pc ls (.ref a :: rest)) :=
  g_get hF hKK hW hk.1 (k := 2) (enc_0 hk.2) rfl twX0 (Nat.le_of_ble_eq_true rfl) wd_141 rfl hdg kk
theorem pf_0_1 {p : Program} {l : Launch} {e : Env} {R : Room} {s : State} {m : MethodId} {args : Array Value} {below : List Frame} {meth : Method} {c : Code} {H : Heap} {locs : List Loc} {cells slots : Nat} {Q : State → Prop} {G : va_G} {Λ : Lay} {μ μ1 : Mem} {cc : ByteArray} {pc nL : Nat} {ls : Array Slot} {rest : List Value} {a : Nat} {A : Nat → Prop} {H0 : Heap} {v : Int32} (hOK : LayOK Λ) (hF : CallFix p m c cc nL s args tw RX0) (hKK : KK G Λ s) (hW : Wd G Λ μ H) (hS : va_S A H0 H locs) (hA : ∀ q, inL Λ q → A q) (hk : inK Λ a 0) (hμ : μ1 = stI μ a 1 v) (hdg : decode cc pc = .ok (.putfield 22, 3))
    (kk : ∀ (H : Heap) (locs : List Loc), Wd G Λ μ1 H → va_S A H0 H locs → W p l e R s m args below meth c H locs cells slots Q (F0 m (pc + 3) ls rest)) : W p l e R s m args below meth c H locs cells slots Q (F0 m pc ls (.int v :: .ref a :: rest)) :=
  g_put hOK hF hKK hW hS hA hk.1 (k := 1) (enc_0 hk.2) rfl twX0 tyX0 tyX0_ok nmX0 (Nat.le_of_ble_eq_true rfl) wd_140 rfl (ty := .int) (by decide +kernel) (vp_nar_int _) rfl (Nat.le_of_ble_eq_true rfl) (by rw [hμ]; exact enc_stI ((enc_0 hk.2).trans (by simp [mI, stI]))) hdg kk
theorem gf_0_1 {p : Program} {l : Launch} {e : Env} {R : Room} {s : State} {m : MethodId} {args : Array Value} {below : List Frame} {meth : Method} {c : Code} {H : Heap} {locs : List Loc} {cells slots : Nat} {Q : State → Prop} {G : va_G} {Λ : Lay} {μ : Mem} {cc : ByteArray} {pc nL : Nat} {ls : Array Slot} {rest : List Value} {a : Nat} (hF : CallFix p m c cc nL s args tw RX0) (hKK : KK G Λ s) (hW : Wd G Λ μ H) (hk : inK Λ a 0) (hdg : decode cc pc = .ok (.getfield 22, 3))
    (kk : W p l e R s m args below meth c H locs cells slots Q (F0 m (pc + 3) ls (.int (mI μ a 1) :: rest))) : W p l e R s m args below meth c H locs cells slots Q (F0 m pc ls (.ref a :: rest)) :=
  g_get hF hKK hW hk.1 (k := 1) (enc_0 hk.2) rfl twX0 (Nat.le_of_ble_eq_true rfl) wd_140 rfl hdg kk
theorem gf_1_3 {p : Program} {l : Launch} {e : Env} {R : Room} {s : State} {m : MethodId} {args : Array Value} {below : List Frame} {meth : Method} {c : Code} {H : Heap} {locs : List Loc} {cells slots : Nat} {Q : State → Prop} {G : va_G} {Λ : Lay} {μ : Mem} {cc : ByteArray} {pc nL : Nat} {ls : Array Slot} {rest : List Value} {a : Nat} (hF : CallFix p m c cc nL s args tw RX1) (hKK : KK G Λ s) (hW : Wd G Λ μ H) (hk : inK Λ a 1) (hdg : decode cc pc = .ok (.getfield 27, 3))
    (kk : W p l e R s m args below meth c H locs cells slots Q (F0 m (pc + 3) ls (.ref (lyR Λ a 3) :: rest))) : W p l e R s m args below meth c H locs cells slots Q (F0 m pc ls (.ref a :: rest)) :=
  g_get hF hKK hW hk.1 (k := 3) (enc_1 hk.2) rfl twX1 (Nat.le_of_ble_eq_true rfl) wd_111 rfl hdg kk
theorem gf_1_2 {p : Program} {l : Launch} {e : Env} {R : Room} {s : State} {m : MethodId} {args : Array Value} {below : List Frame} {meth : Method} {c : Code} {H : Heap} {locs : List Loc} {cells slots : Nat} {Q : State → Prop} {G : va_G} {Λ : Lay} {μ : Mem} {cc : ByteArray} {pc nL : Nat} {ls : Array Slot} {rest : List Value} {a : Nat} (hF : CallFix p m c cc nL s args tw RX1) (hKK : KK G Λ s) (hW : Wd G Λ μ H) (hk : inK Λ a 1) (hdg : decode cc pc = .ok (.getfield 23, 3))
    (kk : W p l e R s m args below meth c H locs cells slots Q (F0 m (pc + 3) ls (.ref (lyR Λ a 2) :: rest))) : W p l e R s m args below meth c H locs cells slots Q (F0 m pc ls (.ref a :: rest)) :=
  g_get hF hKK hW hk.1 (k := 2) (enc_1 hk.2) rfl twX1 (Nat.le_of_ble_eq_true rfl) wd_110 rfl hdg kk
theorem pf_2_1 {p : Program} {l : Launch} {e : Env} {R : Room} {s : State} {m : MethodId} {args : Array Value} {below : List Frame} {meth : Method} {c : Code} {H : Heap} {locs : List Loc} {cells slots : Nat} {Q : State → Prop} {G : va_G} {Λ : Lay} {μ μ1 : Mem} {cc : ByteArray} {pc nL : Nat} {ls : Array Slot} {rest : List Value} {a : Nat} {A : Nat → Prop} {H0 : Heap} {v : Int32} (hOK : LayOK Λ) (hF : CallFix p m c cc nL s args tw RX2) (hKK : KK G Λ s) (hW : Wd G Λ μ H) (hS : va_S A H0 H locs) (hA : ∀ q, inL Λ q → A q) (hk : inK Λ a 2) (hμ : μ1 = stI μ a 1 v) (hdg : decode cc pc = .ok (.putfield 15, 3))
    (kk : ∀ (H : Heap) (locs : List Loc), Wd G Λ μ1 H → va_S A H0 H locs → W p l e R s m args below meth c H locs cells slots Q (F0 m (pc + 3) ls rest)) : W p l e R s m args below meth c H locs cells slots Q (F0 m pc ls (.int v :: .ref a :: rest)) :=
  g_put hOK hF hKK hW hS hA hk.1 (k := 1) (enc_2 hk.2) rfl twX2 tyX2 tyX2_ok nmX2 (Nat.le_of_ble_eq_true rfl) wd_100 rfl (ty := .int) (by decide +kernel) (vp_nar_int _) rfl (Nat.le_of_ble_eq_true rfl) (by rw [hμ]; exact enc_stI ((enc_2 hk.2).trans (by simp [mI, stI]))) hdg kk
theorem gf_2_1 {p : Program} {l : Launch} {e : Env} {R : Room} {s : State} {m : MethodId} {args : Array Value} {below : List Frame} {meth : Method} {c : Code} {H : Heap} {locs : List Loc} {cells slots : Nat} {Q : State → Prop} {G : va_G} {Λ : Lay} {μ : Mem} {cc : ByteArray} {pc nL : Nat} {ls : Array Slot} {rest : List Value} {a : Nat} (hF : CallFix p m c cc nL s args tw RX2) (hKK : KK G Λ s) (hW : Wd G Λ μ H) (hk : inK Λ a 2) (hdg : decode cc pc = .ok (.getfield 15, 3))
    (kk : W p l e R s m args below meth c H locs cells slots Q (F0 m (pc + 3) ls (.int (mI μ a 1) :: rest))) : W p l e R s m args below meth c H locs cells slots Q (F0 m pc ls (.ref a :: rest)) :=
  g_get hF hKK hW hk.1 (k := 1) (enc_2 hk.2) rfl twX2 (Nat.le_of_ble_eq_true rfl) wd_100 rfl hdg kk
theorem gf_2_0 {p : Program} {l : Launch} {e : Env} {R : Room} {s : State} {m : MethodId} {args : Array Value} {below : List Frame} {meth : Method} {c : Code} {H : Heap} {locs : List Loc} {cells slots : Nat} {Q : State → Prop} {G : va_G} {Λ : Lay} {μ : Mem} {cc : ByteArray} {pc nL : Nat} {ls : Array Slot} {rest : List Value} {a : Nat} (hF : CallFix p m c cc nL s args tw RX2) (hKK : KK G Λ s) (hW : Wd G Λ μ H) (hk : inK Λ a 2) (hdg : decode cc pc = .ok (.getfield 9, 3))
    (kk : W p l e R s m args below meth c H locs cells slots Q (F0 m (pc + 3) ls (.ref (lyR Λ a 0) :: rest))) : W p l e R s m args below meth c H locs cells slots Q (F0 m pc ls (.ref a :: rest)) :=
  g_get hF hKK hW hk.1 (k := 0) (enc_2 hk.2) rfl twX2 (Nat.le_of_ble_eq_true rfl) wd_99 rfl hdg kk
theorem pf_1_6 {p : Program} {l : Launch} {e : Env} {R : Room} {s : State} {m : MethodId} {args : Array Value} {below : List Frame} {meth : Method} {c : Code} {H : Heap} {locs : List Loc} {cells slots : Nat} {Q : State → Prop} {G : va_G} {Λ : Lay} {μ μ1 : Mem} {cc : ByteArray} {pc nL : Nat} {ls : Array Slot} {rest : List Value} {a : Nat} {A : Nat → Prop} {H0 : Heap} {v : Int32} (hOK : LayOK Λ) (hF : CallFix p m c cc nL s args tw RX1) (hKK : KK G Λ s) (hW : Wd G Λ μ H) (hS : va_S A H0 H locs) (hA : ∀ q, inL Λ q → A q) (hk : inK Λ a 1) (hμ : μ1 = stI μ a 6 v) (hdg : decode cc pc = .ok (.putfield 45, 3))
    (kk : ∀ (H : Heap) (locs : List Loc), Wd G Λ μ1 H → va_S A H0 H locs → W p l e R s m args below meth c H locs cells slots Q (F0 m (pc + 3) ls rest)) : W p l e R s m args below meth c H locs cells slots Q (F0 m pc ls (.int v :: .ref a :: rest)) :=
  g_put hOK hF hKK hW hS hA hk.1 (k := 6) (enc_1 hk.2) rfl twX1 tyX1 tyX1_ok nmX1 (Nat.le_of_ble_eq_true rfl) wd_114 rfl (ty := .int) (by decide +kernel) (vp_nar_int _) rfl (Nat.le_of_ble_eq_true rfl) (by rw [hμ]; exact enc_stI ((enc_1 hk.2).trans (by simp [mI, stI]))) hdg kk
theorem gf_1_6 {p : Program} {l : Launch} {e : Env} {R : Room} {s : State} {m : MethodId} {args : Array Value} {below : List Frame} {meth : Method} {c : Code} {H : Heap} {locs : List Loc} {cells slots : Nat} {Q : State → Prop} {G : va_G} {Λ : Lay} {μ : Mem} {cc : ByteArray} {pc nL : Nat} {ls : Array Slot} {rest : List Value} {a : Nat} (hF : CallFix p m c cc nL s args tw RX1) (hKK : KK G Λ s) (hW : Wd G Λ μ H) (hk : inK Λ a 1) (hdg : decode cc pc = .ok (.getfield 45, 3))
    (kk : W p l e R s m args below meth c H locs cells slots Q (F0 m (pc + 3) ls (.int (mI μ a 6) :: rest))) : W p l e R s m args below meth c H locs cells slots Q (F0 m pc ls (.ref a :: rest)) :=
  g_get hF hKK hW hk.1 (k := 6) (enc_1 hk.2) rfl twX1 (Nat.le_of_ble_eq_true rfl) wd_114 rfl hdg kk
theorem pf_1_5 {p : Program} {l : Launch} {e : Env} {R : Room} {s : State} {m : MethodId} {args : Array Value} {below : List Frame} {meth : Method} {c : Code} {H : Heap} {locs : List Loc} {cells slots : Nat} {Q : State → Prop} {G : va_G} {Λ : Lay} {μ μ1 : Mem} {cc : ByteArray} {pc nL : Nat} {ls : Array Slot} {rest : List Value} {a : Nat} {A : Nat → Prop} {H0 : Heap} {v : Int32} (hOK : LayOK Λ) (hF : CallFix p m c cc nL s args tw RX1) (hKK : KK G Λ s) (hW : Wd G Λ μ H) (hS : va_S A H0 H locs) (hA : ∀ q, inL Λ q → A q) (hk : inK Λ a 1) (hμ : μ1 = stI μ a 5 v) (hdg : decode cc pc = .ok (.putfield 42, 3))
    (kk : ∀ (H : Heap) (locs : List Loc), Wd G Λ μ1 H → va_S A H0 H locs → W p l e R s m args below meth c H locs cells slots Q (F0 m (pc + 3) ls rest)) : W p l e R s m args below meth c H locs cells slots Q (F0 m pc ls (.int v :: .ref a :: rest)) :=
  g_put hOK hF hKK hW hS hA hk.1 (k := 5) (enc_1 hk.2) rfl twX1 tyX1 tyX1_ok nmX1 (Nat.le_of_ble_eq_true rfl) wd_113 rfl (ty := .int) (by decide +kernel) (vp_nar_int _) rfl (Nat.le_of_ble_eq_true rfl) (by rw [hμ]; exact enc_stI ((enc_1 hk.2).trans (by simp [mI, stI]))) hdg kk
theorem gf_1_5 {p : Program} {l : Launch} {e : Env} {R : Room} {s : State} {m : MethodId} {args : Array Value} {below : List Frame} {meth : Method} {c : Code} {H : Heap} {locs : List Loc} {cells slots : Nat} {Q : State → Prop} {G : va_G} {Λ : Lay} {μ : Mem} {cc : ByteArray} {pc nL : Nat} {ls : Array Slot} {rest : List Value} {a : Nat} (hF : CallFix p m c cc nL s args tw RX1) (hKK : KK G Λ s) (hW : Wd G Λ μ H) (hk : inK Λ a 1) (hdg : decode cc pc = .ok (.getfield 42, 3))
    (kk : W p l e R s m args below meth c H locs cells slots Q (F0 m (pc + 3) ls (.int (mI μ a 5) :: rest))) : W p l e R s m args below meth c H locs cells slots Q (F0 m pc ls (.ref a :: rest)) :=
  g_get hF hKK hW hk.1 (k := 5) (enc_1 hk.2) rfl twX1 (Nat.le_of_ble_eq_true rfl) wd_113 rfl hdg kk
theorem pf_1_4 {p : Program} {l : Launch} {e : Env} {R : Room} {s : State} {m : MethodId} {args : Array Value} {below : List Frame} {meth : Method} {c : Code} {H : Heap} {locs : List Loc} {cells slots : Nat} {Q : State → Prop} {G : va_G} {Λ : Lay} {μ μ1 : Mem} {cc : ByteArray} {pc nL : Nat} {ls : Array Slot} {rest : List Value} {a : Nat} {A : Nat → Prop} {H0 : Heap} {v : Int32} (hOK : LayOK Λ) (hF : CallFix p m c cc nL s args tw RX1) (hKK : KK G Λ s) (hW : Wd G Λ μ H) (hS : va_S A H0 H locs) (hA : ∀ q, inL Λ q → A q) (hk : inK Λ a 1) (hμ : μ1 = stI μ a 4 v) (hdg : decode cc pc = .ok (.putfield 38, 3))
    (kk : ∀ (H : Heap) (locs : List Loc), Wd G Λ μ1 H → va_S A H0 H locs → W p l e R s m args below meth c H locs cells slots Q (F0 m (pc + 3) ls rest)) : W p l e R s m args below meth c H locs cells slots Q (F0 m pc ls (.int v :: .ref a :: rest)) :=
  g_put hOK hF hKK hW hS hA hk.1 (k := 4) (enc_1 hk.2) rfl twX1 tyX1 tyX1_ok nmX1 (Nat.le_of_ble_eq_true rfl) wd_112 rfl (ty := .int) (by decide +kernel) (vp_nar_int _) rfl (Nat.le_of_ble_eq_true rfl) (by rw [hμ]; exact enc_stI ((enc_1 hk.2).trans (by simp [mI, stI]))) hdg kk
theorem gf_1_4 {p : Program} {l : Launch} {e : Env} {R : Room} {s : State} {m : MethodId} {args : Array Value} {below : List Frame} {meth : Method} {c : Code} {H : Heap} {locs : List Loc} {cells slots : Nat} {Q : State → Prop} {G : va_G} {Λ : Lay} {μ : Mem} {cc : ByteArray} {pc nL : Nat} {ls : Array Slot} {rest : List Value} {a : Nat} (hF : CallFix p m c cc nL s args tw RX1) (hKK : KK G Λ s) (hW : Wd G Λ μ H) (hk : inK Λ a 1) (hdg : decode cc pc = .ok (.getfield 38, 3))
    (kk : W p l e R s m args below meth c H locs cells slots Q (F0 m (pc + 3) ls (.int (mI μ a 4) :: rest))) : W p l e R s m args below meth c H locs cells slots Q (F0 m pc ls (.ref a :: rest)) :=
  g_get hF hKK hW hk.1 (k := 4) (enc_1 hk.2) rfl twX1 (Nat.le_of_ble_eq_true rfl) wd_112 rfl hdg kk
theorem gf_1_1 {p : Program} {l : Launch} {e : Env} {R : Room} {s : State} {m : MethodId} {args : Array Value} {below : List Frame} {meth : Method} {c : Code} {H : Heap} {locs : List Loc} {cells slots : Nat} {Q : State → Prop} {G : va_G} {Λ : Lay} {μ : Mem} {cc : ByteArray} {pc nL : Nat} {ls : Array Slot} {rest : List Value} {a : Nat} (hF : CallFix p m c cc nL s args tw RX1) (hKK : KK G Λ s) (hW : Wd G Λ μ H) (hk : inK Λ a 1) (hdg : decode cc pc = .ok (.getfield 20, 3))
    (kk : W p l e R s m args below meth c H locs cells slots Q (F0 m (pc + 3) ls (.ref (lyR Λ a 1) :: rest))) : W p l e R s m args below meth c H locs cells slots Q (F0 m pc ls (.ref a :: rest)) :=
  g_get hF hKK hW hk.1 (k := 1) (enc_1 hk.2) rfl twX1 (Nat.le_of_ble_eq_true rfl) wd_109 rfl hdg kk
theorem gf_1_0 {p : Program} {l : Launch} {e : Env} {R : Room} {s : State} {m : MethodId} {args : Array Value} {below : List Frame} {meth : Method} {c : Code} {H : Heap} {locs : List Loc} {cells slots : Nat} {Q : State → Prop} {G : va_G} {Λ : Lay} {μ : Mem} {cc : ByteArray} {pc nL : Nat} {ls : Array Slot} {rest : List Value} {a : Nat} (hF : CallFix p m c cc nL s args tw RX1) (hKK : KK G Λ s) (hW : Wd G Λ μ H) (hk : inK Λ a 1) (hdg : decode cc pc = .ok (.getfield 14, 3))
    (kk : W p l e R s m args below meth c H locs cells slots Q (F0 m (pc + 3) ls (.ref (lyR Λ a 0) :: rest))) : W p l e R s m args below meth c H locs cells slots Q (F0 m pc ls (.ref a :: rest)) :=
  g_get hF hKK hW hk.1 (k := 0) (enc_1 hk.2) rfl twX1 (Nat.le_of_ble_eq_true rfl) wd_108 rfl hdg kk
theorem gf_0_0 {p : Program} {l : Launch} {e : Env} {R : Room} {s : State} {m : MethodId} {args : Array Value} {below : List Frame} {meth : Method} {c : Code} {H : Heap} {locs : List Loc} {cells slots : Nat} {Q : State → Prop} {G : va_G} {Λ : Lay} {μ : Mem} {cc : ByteArray} {pc nL : Nat} {ls : Array Slot} {rest : List Value} {a : Nat} (hF : CallFix p m c cc nL s args tw RX0) (hKK : KK G Λ s) (hW : Wd G Λ μ H) (hk : inK Λ a 0) (hdg : decode cc pc = .ok (.getfield 13, 3))
    (kk : W p l e R s m args below meth c H locs cells slots Q (F0 m (pc + 3) ls (.ref (lyR Λ a 0) :: rest))) : W p l e R s m args below meth c H locs cells slots Q (F0 m pc ls (.ref a :: rest)) :=
  g_get hF hKK hW hk.1 (k := 0) (enc_0 hk.2) rfl twX0 (Nat.le_of_ble_eq_true rfl) wd_139 rfl hdg kk
theorem gf_3_0 {p : Program} {l : Launch} {e : Env} {R : Room} {s : State} {m : MethodId} {args : Array Value} {below : List Frame} {meth : Method} {c : Code} {H : Heap} {locs : List Loc} {cells slots : Nat} {Q : State → Prop} {G : va_G} {Λ : Lay} {μ : Mem} {cc : ByteArray} {pc nL : Nat} {ls : Array Slot} {rest : List Value} {a : Nat} (hF : CallFix p m c cc nL s args tw RX3) (hKK : KK G Λ s) (hW : Wd G Λ μ H) (hk : inK Λ a 3) (hdg : decode cc pc = .ok (.getfield 14, 3))
    (kk : W p l e R s m args below meth c H locs cells slots Q (F0 m (pc + 3) ls (.ref (lyR Λ a 0) :: rest))) : W p l e R s m args below meth c H locs cells slots Q (F0 m pc ls (.ref a :: rest)) :=
  g_get hF hKK hW hk.1 (k := 0) (enc_3 hk.2) rfl twX3 (Nat.le_of_ble_eq_true rfl) wd_159 rfl hdg kk
theorem pf_3_3 {p : Program} {l : Launch} {e : Env} {R : Room} {s : State} {m : MethodId} {args : Array Value} {below : List Frame} {meth : Method} {c : Code} {H : Heap} {locs : List Loc} {cells slots : Nat} {Q : State → Prop} {G : va_G} {Λ : Lay} {μ μ1 : Mem} {cc : ByteArray} {pc nL : Nat} {ls : Array Slot} {rest : List Value} {a : Nat} {A : Nat → Prop} {H0 : Heap} {v : Int32} (hOK : LayOK Λ) (hF : CallFix p m c cc nL s args tw RX3) (hKK : KK G Λ s) (hW : Wd G Λ μ H) (hS : va_S A H0 H locs) (hA : ∀ q, inL Λ q → A q) (hk : inK Λ a 3) (hμ : μ1 = stI μ a 3 v) (hdg : decode cc pc = .ok (.putfield 37, 3))
    (kk : ∀ (H : Heap) (locs : List Loc), Wd G Λ μ1 H → va_S A H0 H locs → W p l e R s m args below meth c H locs cells slots Q (F0 m (pc + 3) ls rest)) : W p l e R s m args below meth c H locs cells slots Q (F0 m pc ls (.int v :: .ref a :: rest)) :=
  g_put hOK hF hKK hW hS hA hk.1 (k := 3) (enc_3 hk.2) rfl twX3 tyX3 tyX3_ok nmX3 (Nat.le_of_ble_eq_true rfl) wd_162 rfl (ty := .int) (by decide +kernel) (vp_nar_int _) rfl (Nat.le_of_ble_eq_true rfl) (by rw [hμ]; exact enc_stI ((enc_3 hk.2).trans (by simp [mI, stI]))) hdg kk
theorem gf_3_3 {p : Program} {l : Launch} {e : Env} {R : Room} {s : State} {m : MethodId} {args : Array Value} {below : List Frame} {meth : Method} {c : Code} {H : Heap} {locs : List Loc} {cells slots : Nat} {Q : State → Prop} {G : va_G} {Λ : Lay} {μ : Mem} {cc : ByteArray} {pc nL : Nat} {ls : Array Slot} {rest : List Value} {a : Nat} (hF : CallFix p m c cc nL s args tw RX3) (hKK : KK G Λ s) (hW : Wd G Λ μ H) (hk : inK Λ a 3) (hdg : decode cc pc = .ok (.getfield 37, 3))
    (kk : W p l e R s m args below meth c H locs cells slots Q (F0 m (pc + 3) ls (.int (mI μ a 3) :: rest))) : W p l e R s m args below meth c H locs cells slots Q (F0 m pc ls (.ref a :: rest)) :=
  g_get hF hKK hW hk.1 (k := 3) (enc_3 hk.2) rfl twX3 (Nat.le_of_ble_eq_true rfl) wd_162 rfl hdg kk
theorem pf_3_4 {p : Program} {l : Launch} {e : Env} {R : Room} {s : State} {m : MethodId} {args : Array Value} {below : List Frame} {meth : Method} {c : Code} {H : Heap} {locs : List Loc} {cells slots : Nat} {Q : State → Prop} {G : va_G} {Λ : Lay} {μ μ1 : Mem} {cc : ByteArray} {pc nL : Nat} {ls : Array Slot} {rest : List Value} {a : Nat} {A : Nat → Prop} {H0 : Heap} {v : Int32} (hOK : LayOK Λ) (hF : CallFix p m c cc nL s args tw RX3) (hKK : KK G Λ s) (hW : Wd G Λ μ H) (hS : va_S A H0 H locs) (hA : ∀ q, inL Λ q → A q) (hk : inK Λ a 3) (hμ : μ1 = stI μ a 4 v) (hdg : decode cc pc = .ok (.putfield 52, 3))
    (kk : ∀ (H : Heap) (locs : List Loc), Wd G Λ μ1 H → va_S A H0 H locs → W p l e R s m args below meth c H locs cells slots Q (F0 m (pc + 3) ls rest)) : W p l e R s m args below meth c H locs cells slots Q (F0 m pc ls (.int v :: .ref a :: rest)) :=
  g_put hOK hF hKK hW hS hA hk.1 (k := 4) (enc_3 hk.2) rfl twX3 tyX3 tyX3_ok nmX3 (Nat.le_of_ble_eq_true rfl) wd_163 rfl (ty := .int) (by decide +kernel) (vp_nar_int _) rfl (Nat.le_of_ble_eq_true rfl) (by rw [hμ]; exact enc_stI ((enc_3 hk.2).trans (by simp [mI, stI]))) hdg kk
theorem gf_3_4 {p : Program} {l : Launch} {e : Env} {R : Room} {s : State} {m : MethodId} {args : Array Value} {below : List Frame} {meth : Method} {c : Code} {H : Heap} {locs : List Loc} {cells slots : Nat} {Q : State → Prop} {G : va_G} {Λ : Lay} {μ : Mem} {cc : ByteArray} {pc nL : Nat} {ls : Array Slot} {rest : List Value} {a : Nat} (hF : CallFix p m c cc nL s args tw RX3) (hKK : KK G Λ s) (hW : Wd G Λ μ H) (hk : inK Λ a 3) (hdg : decode cc pc = .ok (.getfield 52, 3))
    (kk : W p l e R s m args below meth c H locs cells slots Q (F0 m (pc + 3) ls (.int (mI μ a 4) :: rest))) : W p l e R s m args below meth c H locs cells slots Q (F0 m pc ls (.ref a :: rest)) :=
  g_get hF hKK hW hk.1 (k := 4) (enc_3 hk.2) rfl twX3 (Nat.le_of_ble_eq_true rfl) wd_163 rfl hdg kk
theorem gf_3_2 {p : Program} {l : Launch} {e : Env} {R : Room} {s : State} {m : MethodId} {args : Array Value} {below : List Frame} {meth : Method} {c : Code} {H : Heap} {locs : List Loc} {cells slots : Nat} {Q : State → Prop} {G : va_G} {Λ : Lay} {μ : Mem} {cc : ByteArray} {pc nL : Nat} {ls : Array Slot} {rest : List Value} {a : Nat} (hF : CallFix p m c cc nL s args tw RX3) (hKK : KK G Λ s) (hW : Wd G Λ μ H) (hk : inK Λ a 3) (hdg : decode cc pc = .ok (.getfield 23, 3))
    (kk : W p l e R s m args below meth c H locs cells slots Q (F0 m (pc + 3) ls (.ref (lyR Λ a 2) :: rest))) : W p l e R s m args below meth c H locs cells slots Q (F0 m pc ls (.ref a :: rest)) :=
  g_get hF hKK hW hk.1 (k := 2) (enc_3 hk.2) rfl twX3 (Nat.le_of_ble_eq_true rfl) wd_161 rfl hdg kk
theorem gf_3_1 {p : Program} {l : Launch} {e : Env} {R : Room} {s : State} {m : MethodId} {args : Array Value} {below : List Frame} {meth : Method} {c : Code} {H : Heap} {locs : List Loc} {cells slots : Nat} {Q : State → Prop} {G : va_G} {Λ : Lay} {μ : Mem} {cc : ByteArray} {pc nL : Nat} {ls : Array Slot} {rest : List Value} {a : Nat} (hF : CallFix p m c cc nL s args tw RX3) (hKK : KK G Λ s) (hW : Wd G Λ μ H) (hk : inK Λ a 3) (hdg : decode cc pc = .ok (.getfield 20, 3))
    (kk : W p l e R s m args below meth c H locs cells slots Q (F0 m (pc + 3) ls (.ref (lyR Λ a 1) :: rest))) : W p l e R s m args below meth c H locs cells slots Q (F0 m pc ls (.ref a :: rest)) :=
  g_get hF hKK hW hk.1 (k := 1) (enc_3 hk.2) rfl twX3 (Nat.le_of_ble_eq_true rfl) wd_160 rfl hdg kk
theorem gf_4_0 {p : Program} {l : Launch} {e : Env} {R : Room} {s : State} {m : MethodId} {args : Array Value} {below : List Frame} {meth : Method} {c : Code} {H : Heap} {locs : List Loc} {cells slots : Nat} {Q : State → Prop} {G : va_G} {Λ : Lay} {μ : Mem} {cc : ByteArray} {pc nL : Nat} {ls : Array Slot} {rest : List Value} {a : Nat} (hF : CallFix p m c cc nL s args tw RX4) (hKK : KK G Λ s) (hW : Wd G Λ μ H) (hk : inK Λ a 4) (hdg : decode cc pc = .ok (.getfield 12, 3))
    (kk : W p l e R s m args below meth c H locs cells slots Q (F0 m (pc + 3) ls (.ref (lyR Λ a 0) :: rest))) : W p l e R s m args below meth c H locs cells slots Q (F0 m pc ls (.ref a :: rest)) :=
  g_get hF hKK hW hk.1 (k := 0) (enc_4 hk.2) rfl twX4 (Nat.le_of_ble_eq_true rfl) wd_175 rfl hdg kk
theorem gf_4_4 {p : Program} {l : Launch} {e : Env} {R : Room} {s : State} {m : MethodId} {args : Array Value} {below : List Frame} {meth : Method} {c : Code} {H : Heap} {locs : List Loc} {cells slots : Nat} {Q : State → Prop} {G : va_G} {Λ : Lay} {μ : Mem} {cc : ByteArray} {pc nL : Nat} {ls : Array Slot} {rest : List Value} {a : Nat} (hF : CallFix p m c cc nL s args tw RX4) (hKK : KK G Λ s) (hW : Wd G Λ μ H) (hk : inK Λ a 4) (hdg : decode cc pc = .ok (.getfield 35, 3))
    (kk : W p l e R s m args below meth c H locs cells slots Q (F0 m (pc + 3) ls (.ref (lyR Λ a 4) :: rest))) : W p l e R s m args below meth c H locs cells slots Q (F0 m pc ls (.ref a :: rest)) :=
  g_get hF hKK hW hk.1 (k := 4) (enc_4 hk.2) rfl twX4 (Nat.le_of_ble_eq_true rfl) wd_179 rfl hdg kk
theorem gf_4_2 {p : Program} {l : Launch} {e : Env} {R : Room} {s : State} {m : MethodId} {args : Array Value} {below : List Frame} {meth : Method} {c : Code} {H : Heap} {locs : List Loc} {cells slots : Nat} {Q : State → Prop} {G : va_G} {Λ : Lay} {μ : Mem} {cc : ByteArray} {pc nL : Nat} {ls : Array Slot} {rest : List Value} {a : Nat} (hF : CallFix p m c cc nL s args tw RX4) (hKK : KK G Λ s) (hW : Wd G Λ μ H) (hk : inK Λ a 4) (hdg : decode cc pc = .ok (.getfield 22, 3))
    (kk : W p l e R s m args below meth c H locs cells slots Q (F0 m (pc + 3) ls (.ref (lyR Λ a 2) :: rest))) : W p l e R s m args below meth c H locs cells slots Q (F0 m pc ls (.ref a :: rest)) :=
  g_get hF hKK hW hk.1 (k := 2) (enc_4 hk.2) rfl twX4 (Nat.le_of_ble_eq_true rfl) wd_177 rfl hdg kk
theorem pf_4_9 {p : Program} {l : Launch} {e : Env} {R : Room} {s : State} {m : MethodId} {args : Array Value} {below : List Frame} {meth : Method} {c : Code} {H : Heap} {locs : List Loc} {cells slots : Nat} {Q : State → Prop} {G : va_G} {Λ : Lay} {μ μ1 : Mem} {cc : ByteArray} {pc nL : Nat} {ls : Array Slot} {rest : List Value} {a : Nat} {A : Nat → Prop} {H0 : Heap} {v : Int32} (hOK : LayOK Λ) (hF : CallFix p m c cc nL s args tw RX4) (hKK : KK G Λ s) (hW : Wd G Λ μ H) (hS : va_S A H0 H locs) (hA : ∀ q, inL Λ q → A q) (hk : inK Λ a 4) (hμ : μ1 = stI μ a 9 v) (hdg : decode cc pc = .ok (.putfield 202, 3))
    (kk : ∀ (H : Heap) (locs : List Loc), Wd G Λ μ1 H → va_S A H0 H locs → W p l e R s m args below meth c H locs cells slots Q (F0 m (pc + 3) ls rest)) : W p l e R s m args below meth c H locs cells slots Q (F0 m pc ls (.int v :: .ref a :: rest)) :=
  g_put hOK hF hKK hW hS hA hk.1 (k := 9) (enc_4 hk.2) rfl twX4 tyX4 tyX4_ok nmX4 (Nat.le_of_ble_eq_true rfl) wd_184 rfl (ty := .int) (by decide +kernel) (vp_nar_int _) rfl (Nat.le_of_ble_eq_true rfl) (by rw [hμ]; exact enc_stI ((enc_4 hk.2).trans (by simp [mI, stI]))) hdg kk
theorem gf_4_10 {p : Program} {l : Launch} {e : Env} {R : Room} {s : State} {m : MethodId} {args : Array Value} {below : List Frame} {meth : Method} {c : Code} {H : Heap} {locs : List Loc} {cells slots : Nat} {Q : State → Prop} {G : va_G} {Λ : Lay} {μ : Mem} {cc : ByteArray} {pc nL : Nat} {ls : Array Slot} {rest : List Value} {a : Nat} (hF : CallFix p m c cc nL s args tw RX4) (hKK : KK G Λ s) (hW : Wd G Λ μ H) (hk : inK Λ a 4) (hdg : decode cc pc = .ok (.getfield 45, 3))
    (kk : W p l e R s m args below meth c H locs cells slots Q (F0 m (pc + 3) ls (.int (mI μ a 10) :: rest))) : W p l e R s m args below meth c H locs cells slots Q (F0 m pc ls (.ref a :: rest)) :=
  g_get hF hKK hW hk.1 (k := 10) (enc_4 hk.2) rfl twX4 (Nat.le_of_ble_eq_true rfl) wd_185 rfl hdg kk
theorem pf_4_8 {p : Program} {l : Launch} {e : Env} {R : Room} {s : State} {m : MethodId} {args : Array Value} {below : List Frame} {meth : Method} {c : Code} {H : Heap} {locs : List Loc} {cells slots : Nat} {Q : State → Prop} {G : va_G} {Λ : Lay} {μ μ1 : Mem} {cc : ByteArray} {pc nL : Nat} {ls : Array Slot} {rest : List Value} {a : Nat} {A : Nat → Prop} {H0 : Heap} {v : Int32} (hOK : LayOK Λ) (hF : CallFix p m c cc nL s args tw RX4) (hKK : KK G Λ s) (hW : Wd G Λ μ H) (hS : va_S A H0 H locs) (hA : ∀ q, inL Λ q → A q) (hk : inK Λ a 4) (hμ : μ1 = stI μ a 8 v) (hdg : decode cc pc = .ok (.putfield 199, 3))
    (kk : ∀ (H : Heap) (locs : List Loc), Wd G Λ μ1 H → va_S A H0 H locs → W p l e R s m args below meth c H locs cells slots Q (F0 m (pc + 3) ls rest)) : W p l e R s m args below meth c H locs cells slots Q (F0 m pc ls (.int v :: .ref a :: rest)) :=
  g_put hOK hF hKK hW hS hA hk.1 (k := 8) (enc_4 hk.2) rfl twX4 tyX4 tyX4_ok nmX4 (Nat.le_of_ble_eq_true rfl) wd_183 rfl (ty := .int) (by decide +kernel) (vp_nar_int _) rfl (Nat.le_of_ble_eq_true rfl) (by rw [hμ]; exact enc_stI ((enc_4 hk.2).trans (by simp [mI, stI]))) hdg kk
theorem pf_4_7 {p : Program} {l : Launch} {e : Env} {R : Room} {s : State} {m : MethodId} {args : Array Value} {below : List Frame} {meth : Method} {c : Code} {H : Heap} {locs : List Loc} {cells slots : Nat} {Q : State → Prop} {G : va_G} {Λ : Lay} {μ μ1 : Mem} {cc : ByteArray} {pc nL : Nat} {ls : Array Slot} {rest : List Value} {a : Nat} {A : Nat → Prop} {H0 : Heap} {v : Int32} (hOK : LayOK Λ) (hF : CallFix p m c cc nL s args tw RX4) (hKK : KK G Λ s) (hW : Wd G Λ μ H) (hS : va_S A H0 H locs) (hA : ∀ q, inL Λ q → A q) (hk : inK Λ a 4) (hμ : μ1 = stI μ a 7 v) (hdg : decode cc pc = .ok (.putfield 196, 3))
    (kk : ∀ (H : Heap) (locs : List Loc), Wd G Λ μ1 H → va_S A H0 H locs → W p l e R s m args below meth c H locs cells slots Q (F0 m (pc + 3) ls rest)) : W p l e R s m args below meth c H locs cells slots Q (F0 m pc ls (.int v :: .ref a :: rest)) :=
  g_put hOK hF hKK hW hS hA hk.1 (k := 7) (enc_4 hk.2) rfl twX4 tyX4 tyX4_ok nmX4 (Nat.le_of_ble_eq_true rfl) wd_182 rfl (ty := .int) (by decide +kernel) (vp_nar_int _) rfl (Nat.le_of_ble_eq_true rfl) (by rw [hμ]; exact enc_stI ((enc_4 hk.2).trans (by simp [mI, stI]))) hdg kk
theorem gf_4_5 {p : Program} {l : Launch} {e : Env} {R : Room} {s : State} {m : MethodId} {args : Array Value} {below : List Frame} {meth : Method} {c : Code} {H : Heap} {locs : List Loc} {cells slots : Nat} {Q : State → Prop} {G : va_G} {Λ : Lay} {μ : Mem} {cc : ByteArray} {pc nL : Nat} {ls : Array Slot} {rest : List Value} {a : Nat} (hF : CallFix p m c cc nL s args tw RX4) (hKK : KK G Λ s) (hW : Wd G Λ μ H) (hk : inK Λ a 4) (hdg : decode cc pc = .ok (.getfield 41, 3))
    (kk : W p l e R s m args below meth c H locs cells slots Q (F0 m (pc + 3) ls (.ref (lyR Λ a 5) :: rest))) : W p l e R s m args below meth c H locs cells slots Q (F0 m pc ls (.ref a :: rest)) :=
  g_get hF hKK hW hk.1 (k := 5) (enc_4 hk.2) rfl twX4 (Nat.le_of_ble_eq_true rfl) wd_180 rfl hdg kk
theorem gf_4_3 {p : Program} {l : Launch} {e : Env} {R : Room} {s : State} {m : MethodId} {args : Array Value} {below : List Frame} {meth : Method} {c : Code} {H : Heap} {locs : List Loc} {cells slots : Nat} {Q : State → Prop} {G : va_G} {Λ : Lay} {μ : Mem} {cc : ByteArray} {pc nL : Nat} {ls : Array Slot} {rest : List Value} {a : Nat} (hF : CallFix p m c cc nL s args tw RX4) (hKK : KK G Λ s) (hW : Wd G Λ μ H) (hk : inK Λ a 4) (hdg : decode cc pc = .ok (.getfield 31, 3))
    (kk : W p l e R s m args below meth c H locs cells slots Q (F0 m (pc + 3) ls (.ref (lyR Λ a 3) :: rest))) : W p l e R s m args below meth c H locs cells slots Q (F0 m pc ls (.ref a :: rest)) :=
  g_get hF hKK hW hk.1 (k := 3) (enc_4 hk.2) rfl twX4 (Nat.le_of_ble_eq_true rfl) wd_178 rfl hdg kk
theorem pf_4_10 {p : Program} {l : Launch} {e : Env} {R : Room} {s : State} {m : MethodId} {args : Array Value} {below : List Frame} {meth : Method} {c : Code} {H : Heap} {locs : List Loc} {cells slots : Nat} {Q : State → Prop} {G : va_G} {Λ : Lay} {μ μ1 : Mem} {cc : ByteArray} {pc nL : Nat} {ls : Array Slot} {rest : List Value} {a : Nat} {A : Nat → Prop} {H0 : Heap} {v : Int32} (hOK : LayOK Λ) (hF : CallFix p m c cc nL s args tw RX4) (hKK : KK G Λ s) (hW : Wd G Λ μ H) (hS : va_S A H0 H locs) (hA : ∀ q, inL Λ q → A q) (hk : inK Λ a 4) (hμ : μ1 = stI μ a 10 v) (hdg : decode cc pc = .ok (.putfield 45, 3))
    (kk : ∀ (H : Heap) (locs : List Loc), Wd G Λ μ1 H → va_S A H0 H locs → W p l e R s m args below meth c H locs cells slots Q (F0 m (pc + 3) ls rest)) : W p l e R s m args below meth c H locs cells slots Q (F0 m pc ls (.int v :: .ref a :: rest)) :=
  g_put hOK hF hKK hW hS hA hk.1 (k := 10) (enc_4 hk.2) rfl twX4 tyX4 tyX4_ok nmX4 (Nat.le_of_ble_eq_true rfl) wd_185 rfl (ty := .int) (by decide +kernel) (vp_nar_int _) rfl (Nat.le_of_ble_eq_true rfl) (by rw [hμ]; exact enc_stI ((enc_4 hk.2).trans (by simp [mI, stI]))) hdg kk
theorem gf_4_7 {p : Program} {l : Launch} {e : Env} {R : Room} {s : State} {m : MethodId} {args : Array Value} {below : List Frame} {meth : Method} {c : Code} {H : Heap} {locs : List Loc} {cells slots : Nat} {Q : State → Prop} {G : va_G} {Λ : Lay} {μ : Mem} {cc : ByteArray} {pc nL : Nat} {ls : Array Slot} {rest : List Value} {a : Nat} (hF : CallFix p m c cc nL s args tw RX4) (hKK : KK G Λ s) (hW : Wd G Λ μ H) (hk : inK Λ a 4) (hdg : decode cc pc = .ok (.getfield 196, 3))
    (kk : W p l e R s m args below meth c H locs cells slots Q (F0 m (pc + 3) ls (.int (mI μ a 7) :: rest))) : W p l e R s m args below meth c H locs cells slots Q (F0 m pc ls (.ref a :: rest)) :=
  g_get hF hKK hW hk.1 (k := 7) (enc_4 hk.2) rfl twX4 (Nat.le_of_ble_eq_true rfl) wd_182 rfl hdg kk
theorem gf_4_8 {p : Program} {l : Launch} {e : Env} {R : Room} {s : State} {m : MethodId} {args : Array Value} {below : List Frame} {meth : Method} {c : Code} {H : Heap} {locs : List Loc} {cells slots : Nat} {Q : State → Prop} {G : va_G} {Λ : Lay} {μ : Mem} {cc : ByteArray} {pc nL : Nat} {ls : Array Slot} {rest : List Value} {a : Nat} (hF : CallFix p m c cc nL s args tw RX4) (hKK : KK G Λ s) (hW : Wd G Λ μ H) (hk : inK Λ a 4) (hdg : decode cc pc = .ok (.getfield 199, 3))
    (kk : W p l e R s m args below meth c H locs cells slots Q (F0 m (pc + 3) ls (.int (mI μ a 8) :: rest))) : W p l e R s m args below meth c H locs cells slots Q (F0 m pc ls (.ref a :: rest)) :=
  g_get hF hKK hW hk.1 (k := 8) (enc_4 hk.2) rfl twX4 (Nat.le_of_ble_eq_true rfl) wd_183 rfl hdg kk
theorem gf_4_9 {p : Program} {l : Launch} {e : Env} {R : Room} {s : State} {m : MethodId} {args : Array Value} {below : List Frame} {meth : Method} {c : Code} {H : Heap} {locs : List Loc} {cells slots : Nat} {Q : State → Prop} {G : va_G} {Λ : Lay} {μ : Mem} {cc : ByteArray} {pc nL : Nat} {ls : Array Slot} {rest : List Value} {a : Nat} (hF : CallFix p m c cc nL s args tw RX4) (hKK : KK G Λ s) (hW : Wd G Λ μ H) (hk : inK Λ a 4) (hdg : decode cc pc = .ok (.getfield 202, 3))
    (kk : W p l e R s m args below meth c H locs cells slots Q (F0 m (pc + 3) ls (.int (mI μ a 9) :: rest))) : W p l e R s m args below meth c H locs cells slots Q (F0 m pc ls (.ref a :: rest)) :=
  g_get hF hKK hW hk.1 (k := 9) (enc_4 hk.2) rfl twX4 (Nat.le_of_ble_eq_true rfl) wd_184 rfl hdg kk
theorem gf_4_1 {p : Program} {l : Launch} {e : Env} {R : Room} {s : State} {m : MethodId} {args : Array Value} {below : List Frame} {meth : Method} {c : Code} {H : Heap} {locs : List Loc} {cells slots : Nat} {Q : State → Prop} {G : va_G} {Λ : Lay} {μ : Mem} {cc : ByteArray} {pc nL : Nat} {ls : Array Slot} {rest : List Value} {a : Nat} (hF : CallFix p m c cc nL s args tw RX4) (hKK : KK G Λ s) (hW : Wd G Λ μ H) (hk : inK Λ a 4) (hdg : decode cc pc = .ok (.getfield 16, 3))
    (kk : W p l e R s m args below meth c H locs cells slots Q (F0 m (pc + 3) ls (.ref (lyR Λ a 1) :: rest))) : W p l e R s m args below meth c H locs cells slots Q (F0 m pc ls (.ref a :: rest)) :=
  g_get hF hKK hW hk.1 (k := 1) (enc_4 hk.2) rfl twX4 (Nat.le_of_ble_eq_true rfl) wd_176 rfl hdg kk
theorem gf_4_6 {p : Program} {l : Launch} {e : Env} {R : Room} {s : State} {m : MethodId} {args : Array Value} {below : List Frame} {meth : Method} {c : Code} {H : Heap} {locs : List Loc} {cells slots : Nat} {Q : State → Prop} {G : va_G} {Λ : Lay} {μ : Mem} {cc : ByteArray} {pc nL : Nat} {ls : Array Slot} {rest : List Value} {a : Nat} (hF : CallFix p m c cc nL s args tw RX4) (hKK : KK G Λ s) (hW : Wd G Λ μ H) (hk : inK Λ a 4) (hdg : decode cc pc = .ok (.getfield 250, 3))
    (kk : W p l e R s m args below meth c H locs cells slots Q (F0 m (pc + 3) ls (.int (mI μ a 6) :: rest))) : W p l e R s m args below meth c H locs cells slots Q (F0 m pc ls (.ref a :: rest)) :=
  g_get hF hKK hW hk.1 (k := 6) (enc_4 hk.2) rfl twX4 (Nat.le_of_ble_eq_true rfl) wd_181 rfl hdg kk
theorem pf_4_6 {p : Program} {l : Launch} {e : Env} {R : Room} {s : State} {m : MethodId} {args : Array Value} {below : List Frame} {meth : Method} {c : Code} {H : Heap} {locs : List Loc} {cells slots : Nat} {Q : State → Prop} {G : va_G} {Λ : Lay} {μ μ1 : Mem} {cc : ByteArray} {pc nL : Nat} {ls : Array Slot} {rest : List Value} {a : Nat} {A : Nat → Prop} {H0 : Heap} {v : Int32} (hbv : isB v) (hOK : LayOK Λ) (hF : CallFix p m c cc nL s args tw RX4) (hKK : KK G Λ s) (hW : Wd G Λ μ H) (hS : va_S A H0 H locs) (hA : ∀ q, inL Λ q → A q) (hk : inK Λ a 4) (hμ : μ1 = stI μ a 6 v) (hdg : decode cc pc = .ok (.putfield 250, 3))
    (kk : ∀ (H : Heap) (locs : List Loc), Wd G Λ μ1 H → va_S A H0 H locs → W p l e R s m args below meth c H locs cells slots Q (F0 m (pc + 3) ls rest)) : W p l e R s m args below meth c H locs cells slots Q (F0 m pc ls (.int v :: .ref a :: rest)) :=
  g_put hOK hF hKK hW hS hA hk.1 (k := 6) (enc_4 hk.2) rfl twX4 tyX4 tyX4_ok nmX4 (Nat.le_of_ble_eq_true rfl) wd_181 rfl (ty := .boolean) (by decide +kernel) (isB_nar hbv) (by rcases hbv with rfl | rfl <;> decide) (Nat.le_of_ble_eq_true rfl) (by rw [hμ]; exact enc_stI ((enc_4 hk.2).trans (by simp [mI, stI]))) hdg kk
theorem gf_5_0 {p : Program} {l : Launch} {e : Env} {R : Room} {s : State} {m : MethodId} {args : Array Value} {below : List Frame} {meth : Method} {c : Code} {H : Heap} {locs : List Loc} {cells slots : Nat} {Q : State → Prop} {G : va_G} {Λ : Lay} {μ : Mem} {cc : ByteArray} {pc nL : Nat} {ls : Array Slot} {rest : List Value} {a : Nat} (hF : CallFix p m c cc nL s args tw RX5) (hKK : KK G Λ s) (hW : Wd G Λ μ H) (hk : inK Λ a 5) (hdg : decode cc pc = .ok (.getfield 9, 3))
    (kk : W p l e R s m args below meth c H locs cells slots Q (F0 m (pc + 3) ls (.ref (lyR Λ a 0) :: rest))) : W p l e R s m args below meth c H locs cells slots Q (F0 m pc ls (.ref a :: rest)) :=
  g_get hF hKK hW hk.1 (k := 0) (enc_5 hk.2) rfl twX5 (Nat.le_of_ble_eq_true rfl) wd_746 rfl hdg kk
theorem gf_5_15 {p : Program} {l : Launch} {e : Env} {R : Room} {s : State} {m : MethodId} {args : Array Value} {below : List Frame} {meth : Method} {c : Code} {H : Heap} {locs : List Loc} {cells slots : Nat} {Q : State → Prop} {G : va_G} {Λ : Lay} {μ : Mem} {cc : ByteArray} {pc nL : Nat} {ls : Array Slot} {rest : List Value} {a : Nat} (hF : CallFix p m c cc nL s args tw RX5) (hKK : KK G Λ s) (hW : Wd G Λ μ H) (hk : inK Λ a 5) (hdg : decode cc pc = .ok (.getfield 187, 3))
    (kk : W p l e R s m args below meth c H locs cells slots Q (F0 m (pc + 3) ls (.int (mI μ a 15) :: rest))) : W p l e R s m args below meth c H locs cells slots Q (F0 m pc ls (.ref a :: rest)) :=
  g_get hF hKK hW hk.1 (k := 15) (enc_5 hk.2) rfl twX5 (Nat.le_of_ble_eq_true rfl) wd_761 rfl hdg kk
theorem gf_5_4 {p : Program} {l : Launch} {e : Env} {R : Room} {s : State} {m : MethodId} {args : Array Value} {below : List Frame} {meth : Method} {c : Code} {H : Heap} {locs : List Loc} {cells slots : Nat} {Q : State → Prop} {G : va_G} {Λ : Lay} {μ : Mem} {cc : ByteArray} {pc nL : Nat} {ls : Array Slot} {rest : List Value} {a : Nat} (hF : CallFix p m c cc nL s args tw RX5) (hKK : KK G Λ s) (hW : Wd G Λ μ H) (hk : inK Λ a 5) (hdg : decode cc pc = .ok (.getfield 51, 3))
    (kk : W p l e R s m args below meth c H locs cells slots Q (F0 m (pc + 3) ls (.int (mI μ a 4) :: rest))) : W p l e R s m args below meth c H locs cells slots Q (F0 m pc ls (.ref a :: rest)) :=
  g_get hF hKK hW hk.1 (k := 4) (enc_5 hk.2) rfl twX5 (Nat.le_of_ble_eq_true rfl) wd_750 rfl hdg kk
theorem pf_5_15 {p : Program} {l : Launch} {e : Env} {R : Room} {s : State} {m : MethodId} {args : Array Value} {below : List Frame} {meth : Method} {c : Code} {H : Heap} {locs : List Loc} {cells slots : Nat} {Q : State → Prop} {G : va_G} {Λ : Lay} {μ μ1 : Mem} {cc : ByteArray} {pc nL : Nat} {ls : Array Slot} {rest : List Value} {a : Nat} {A : Nat → Prop} {H0 : Heap} {v : Int32} (hOK : LayOK Λ) (hF : CallFix p m c cc nL s args tw RX5) (hKK : KK G Λ s) (hW : Wd G Λ μ H) (hS : va_S A H0 H locs) (hA : ∀ q, inL Λ q → A q) (hk : inK Λ a 5) (hμ : μ1 = stI μ a 15 v) (hdg : decode cc pc = .ok (.putfield 187, 3))
    (kk : ∀ (H : Heap) (locs : List Loc), Wd G Λ μ1 H → va_S A H0 H locs → W p l e R s m args below meth c H locs cells slots Q (F0 m (pc + 3) ls rest)) : W p l e R s m args below meth c H locs cells slots Q (F0 m pc ls (.int v :: .ref a :: rest)) :=
  g_put hOK hF hKK hW hS hA hk.1 (k := 15) (enc_5 hk.2) rfl twX5 tyX5 tyX5_ok nmX5 (Nat.le_of_ble_eq_true rfl) wd_761 rfl (ty := .int) (by decide +kernel) (vp_nar_int _) rfl (Nat.le_of_ble_eq_true rfl) (by rw [hμ]; exact enc_stI ((enc_5 hk.2).trans (by simp [mI, stI]))) hdg kk
theorem gf_5_14 {p : Program} {l : Launch} {e : Env} {R : Room} {s : State} {m : MethodId} {args : Array Value} {below : List Frame} {meth : Method} {c : Code} {H : Heap} {locs : List Loc} {cells slots : Nat} {Q : State → Prop} {G : va_G} {Λ : Lay} {μ : Mem} {cc : ByteArray} {pc nL : Nat} {ls : Array Slot} {rest : List Value} {a : Nat} (hF : CallFix p m c cc nL s args tw RX5) (hKK : KK G Λ s) (hW : Wd G Λ μ H) (hk : inK Λ a 5) (hdg : decode cc pc = .ok (.getfield 35, 3))
    (kk : W p l e R s m args below meth c H locs cells slots Q (F0 m (pc + 3) ls (.ref (lyR Λ a 14) :: rest))) : W p l e R s m args below meth c H locs cells slots Q (F0 m pc ls (.ref a :: rest)) :=
  g_get hF hKK hW hk.1 (k := 14) (enc_5 hk.2) rfl twX5 (Nat.le_of_ble_eq_true rfl) wd_760 rfl hdg kk
theorem pf_5_4 {p : Program} {l : Launch} {e : Env} {R : Room} {s : State} {m : MethodId} {args : Array Value} {below : List Frame} {meth : Method} {c : Code} {H : Heap} {locs : List Loc} {cells slots : Nat} {Q : State → Prop} {G : va_G} {Λ : Lay} {μ μ1 : Mem} {cc : ByteArray} {pc nL : Nat} {ls : Array Slot} {rest : List Value} {a : Nat} {A : Nat → Prop} {H0 : Heap} {v : Int32} (hOK : LayOK Λ) (hF : CallFix p m c cc nL s args tw RX5) (hKK : KK G Λ s) (hW : Wd G Λ μ H) (hS : va_S A H0 H locs) (hA : ∀ q, inL Λ q → A q) (hk : inK Λ a 5) (hμ : μ1 = stI μ a 4 v) (hdg : decode cc pc = .ok (.putfield 51, 3))
    (kk : ∀ (H : Heap) (locs : List Loc), Wd G Λ μ1 H → va_S A H0 H locs → W p l e R s m args below meth c H locs cells slots Q (F0 m (pc + 3) ls rest)) : W p l e R s m args below meth c H locs cells slots Q (F0 m pc ls (.int v :: .ref a :: rest)) :=
  g_put hOK hF hKK hW hS hA hk.1 (k := 4) (enc_5 hk.2) rfl twX5 tyX5 tyX5_ok nmX5 (Nat.le_of_ble_eq_true rfl) wd_750 rfl (ty := .int) (by decide +kernel) (vp_nar_int _) rfl (Nat.le_of_ble_eq_true rfl) (by rw [hμ]; exact enc_stI ((enc_5 hk.2).trans (by simp [mI, stI]))) hdg kk
theorem gf_5_3 {p : Program} {l : Launch} {e : Env} {R : Room} {s : State} {m : MethodId} {args : Array Value} {below : List Frame} {meth : Method} {c : Code} {H : Heap} {locs : List Loc} {cells slots : Nat} {Q : State → Prop} {G : va_G} {Λ : Lay} {μ : Mem} {cc : ByteArray} {pc nL : Nat} {ls : Array Slot} {rest : List Value} {a : Nat} (hF : CallFix p m c cc nL s args tw RX5) (hKK : KK G Λ s) (hW : Wd G Λ μ H) (hk : inK Λ a 5) (hdg : decode cc pc = .ok (.getfield 21, 3))
    (kk : W p l e R s m args below meth c H locs cells slots Q (F0 m (pc + 3) ls (.ref (lyR Λ a 3) :: rest))) : W p l e R s m args below meth c H locs cells slots Q (F0 m pc ls (.ref a :: rest)) :=
  g_get hF hKK hW hk.1 (k := 3) (enc_5 hk.2) rfl twX5 (Nat.le_of_ble_eq_true rfl) wd_749 rfl hdg kk
theorem gf_5_10 {p : Program} {l : Launch} {e : Env} {R : Room} {s : State} {m : MethodId} {args : Array Value} {below : List Frame} {meth : Method} {c : Code} {H : Heap} {locs : List Loc} {cells slots : Nat} {Q : State → Prop} {G : va_G} {Λ : Lay} {μ : Mem} {cc : ByteArray} {pc nL : Nat} {ls : Array Slot} {rest : List Value} {a : Nat} (hF : CallFix p m c cc nL s args tw RX5) (hKK : KK G Λ s) (hW : Wd G Λ μ H) (hk : inK Λ a 5) (hdg : decode cc pc = .ok (.getfield 44, 3))
    (kk : W p l e R s m args below meth c H locs cells slots Q (F0 m (pc + 3) ls (.int (mI μ a 10) :: rest))) : W p l e R s m args below meth c H locs cells slots Q (F0 m pc ls (.ref a :: rest)) :=
  g_get hF hKK hW hk.1 (k := 10) (enc_5 hk.2) rfl twX5 (Nat.le_of_ble_eq_true rfl) wd_756 rfl hdg kk
theorem pf_5_7 {p : Program} {l : Launch} {e : Env} {R : Room} {s : State} {m : MethodId} {args : Array Value} {below : List Frame} {meth : Method} {c : Code} {H : Heap} {locs : List Loc} {cells slots : Nat} {Q : State → Prop} {G : va_G} {Λ : Lay} {μ μ1 : Mem} {cc : ByteArray} {pc nL : Nat} {ls : Array Slot} {rest : List Value} {a : Nat} {A : Nat → Prop} {H0 : Heap} {v : Int32} (hOK : LayOK Λ) (hF : CallFix p m c cc nL s args tw RX5) (hKK : KK G Λ s) (hW : Wd G Λ μ H) (hS : va_S A H0 H locs) (hA : ∀ q, inL Λ q → A q) (hk : inK Λ a 5) (hμ : μ1 = stI μ a 7 v) (hdg : decode cc pc = .ok (.putfield 24, 3))
    (kk : ∀ (H : Heap) (locs : List Loc), Wd G Λ μ1 H → va_S A H0 H locs → W p l e R s m args below meth c H locs cells slots Q (F0 m (pc + 3) ls rest)) : W p l e R s m args below meth c H locs cells slots Q (F0 m pc ls (.int v :: .ref a :: rest)) :=
  g_put hOK hF hKK hW hS hA hk.1 (k := 7) (enc_5 hk.2) rfl twX5 tyX5 tyX5_ok nmX5 (Nat.le_of_ble_eq_true rfl) wd_753 rfl (ty := .int) (by decide +kernel) (vp_nar_int _) rfl (Nat.le_of_ble_eq_true rfl) (by rw [hμ]; exact enc_stI ((enc_5 hk.2).trans (by simp [mI, stI]))) hdg kk
theorem gf_5_8 {p : Program} {l : Launch} {e : Env} {R : Room} {s : State} {m : MethodId} {args : Array Value} {below : List Frame} {meth : Method} {c : Code} {H : Heap} {locs : List Loc} {cells slots : Nat} {Q : State → Prop} {G : va_G} {Λ : Lay} {μ : Mem} {cc : ByteArray} {pc nL : Nat} {ls : Array Slot} {rest : List Value} {a : Nat} (hF : CallFix p m c cc nL s args tw RX5) (hKK : KK G Λ s) (hW : Wd G Λ μ H) (hk : inK Λ a 5) (hdg : decode cc pc = .ok (.getfield 48, 3))
    (kk : W p l e R s m args below meth c H locs cells slots Q (F0 m (pc + 3) ls (.int (mI μ a 8) :: rest))) : W p l e R s m args below meth c H locs cells slots Q (F0 m pc ls (.ref a :: rest)) :=
  g_get hF hKK hW hk.1 (k := 8) (enc_5 hk.2) rfl twX5 (Nat.le_of_ble_eq_true rfl) wd_754 rfl hdg kk
theorem pf_5_6 {p : Program} {l : Launch} {e : Env} {R : Room} {s : State} {m : MethodId} {args : Array Value} {below : List Frame} {meth : Method} {c : Code} {H : Heap} {locs : List Loc} {cells slots : Nat} {Q : State → Prop} {G : va_G} {Λ : Lay} {μ μ1 : Mem} {cc : ByteArray} {pc nL : Nat} {ls : Array Slot} {rest : List Value} {a : Nat} {A : Nat → Prop} {H0 : Heap} {v : Int32} (hOK : LayOK Λ) (hF : CallFix p m c cc nL s args tw RX5) (hKK : KK G Λ s) (hW : Wd G Λ μ H) (hS : va_S A H0 H locs) (hA : ∀ q, inL Λ q → A q) (hk : inK Λ a 5) (hμ : μ1 = stI μ a 6 v) (hdg : decode cc pc = .ok (.putfield 41, 3))
    (kk : ∀ (H : Heap) (locs : List Loc), Wd G Λ μ1 H → va_S A H0 H locs → W p l e R s m args below meth c H locs cells slots Q (F0 m (pc + 3) ls rest)) : W p l e R s m args below meth c H locs cells slots Q (F0 m pc ls (.int v :: .ref a :: rest)) :=
  g_put hOK hF hKK hW hS hA hk.1 (k := 6) (enc_5 hk.2) rfl twX5 tyX5 tyX5_ok nmX5 (Nat.le_of_ble_eq_true rfl) wd_752 rfl (ty := .int) (by decide +kernel) (vp_nar_int _) rfl (Nat.le_of_ble_eq_true rfl) (by rw [hμ]; exact enc_stI ((enc_5 hk.2).trans (by simp [mI, stI]))) hdg kk
theorem pf_5_5 {p : Program} {l : Launch} {e : Env} {R : Room} {s : State} {m : MethodId} {args : Array Value} {below : List Frame} {meth : Method} {c : Code} {H : Heap} {locs : List Loc} {cells slots : Nat} {Q : State → Prop} {G : va_G} {Λ : Lay} {μ μ1 : Mem} {cc : ByteArray} {pc nL : Nat} {ls : Array Slot} {rest : List Value} {a : Nat} {A : Nat → Prop} {H0 : Heap} {v : Int32} (hOK : LayOK Λ) (hF : CallFix p m c cc nL s args tw RX5) (hKK : KK G Λ s) (hW : Wd G Λ μ H) (hS : va_S A H0 H locs) (hA : ∀ q, inL Λ q → A q) (hk : inK Λ a 5) (hμ : μ1 = stI μ a 5 v) (hdg : decode cc pc = .ok (.putfield 38, 3))
    (kk : ∀ (H : Heap) (locs : List Loc), Wd G Λ μ1 H → va_S A H0 H locs → W p l e R s m args below meth c H locs cells slots Q (F0 m (pc + 3) ls rest)) : W p l e R s m args below meth c H locs cells slots Q (F0 m pc ls (.int v :: .ref a :: rest)) :=
  g_put hOK hF hKK hW hS hA hk.1 (k := 5) (enc_5 hk.2) rfl twX5 tyX5 tyX5_ok nmX5 (Nat.le_of_ble_eq_true rfl) wd_751 rfl (ty := .int) (by decide +kernel) (vp_nar_int _) rfl (Nat.le_of_ble_eq_true rfl) (by rw [hμ]; exact enc_stI ((enc_5 hk.2).trans (by simp [mI, stI]))) hdg kk
theorem gf_5_11 {p : Program} {l : Launch} {e : Env} {R : Room} {s : State} {m : MethodId} {args : Array Value} {below : List Frame} {meth : Method} {c : Code} {H : Heap} {locs : List Loc} {cells slots : Nat} {Q : State → Prop} {G : va_G} {Λ : Lay} {μ : Mem} {cc : ByteArray} {pc nL : Nat} {ls : Array Slot} {rest : List Value} {a : Nat} (hF : CallFix p m c cc nL s args tw RX5) (hKK : KK G Λ s) (hW : Wd G Λ μ H) (hk : inK Λ a 5) (hdg : decode cc pc = .ok (.getfield 28, 3))
    (kk : W p l e R s m args below meth c H locs cells slots Q (F0 m (pc + 3) ls (.ref (lyR Λ a 11) :: rest))) : W p l e R s m args below meth c H locs cells slots Q (F0 m pc ls (.ref a :: rest)) :=
  g_get hF hKK hW hk.1 (k := 11) (enc_5 hk.2) rfl twX5 (Nat.le_of_ble_eq_true rfl) wd_757 rfl hdg kk
theorem gf_5_17 {p : Program} {l : Launch} {e : Env} {R : Room} {s : State} {m : MethodId} {args : Array Value} {below : List Frame} {meth : Method} {c : Code} {H : Heap} {locs : List Loc} {cells slots : Nat} {Q : State → Prop} {G : va_G} {Λ : Lay} {μ : Mem} {cc : ByteArray} {pc nL : Nat} {ls : Array Slot} {rest : List Value} {a : Nat} (hF : CallFix p m c cc nL s args tw RX5) (hKK : KK G Λ s) (hW : Wd G Λ μ H) (hk : inK Λ a 5) (hdg : decode cc pc = .ok (.getfield 218, 3))
    (kk : W p l e R s m args below meth c H locs cells slots Q (F0 m (pc + 3) ls (.int (mI μ a 17) :: rest))) : W p l e R s m args below meth c H locs cells slots Q (F0 m pc ls (.ref a :: rest)) :=
  g_get hF hKK hW hk.1 (k := 17) (enc_5 hk.2) rfl twX5 (Nat.le_of_ble_eq_true rfl) wd_763 rfl hdg kk
theorem gf_5_18 {p : Program} {l : Launch} {e : Env} {R : Room} {s : State} {m : MethodId} {args : Array Value} {below : List Frame} {meth : Method} {c : Code} {H : Heap} {locs : List Loc} {cells slots : Nat} {Q : State → Prop} {G : va_G} {Λ : Lay} {μ : Mem} {cc : ByteArray} {pc nL : Nat} {ls : Array Slot} {rest : List Value} {a : Nat} (hF : CallFix p m c cc nL s args tw RX5) (hKK : KK G Λ s) (hW : Wd G Λ μ H) (hk : inK Λ a 5) (hdg : decode cc pc = .ok (.getfield 205, 3))
    (kk : W p l e R s m args below meth c H locs cells slots Q (F0 m (pc + 3) ls (.int (mI μ a 18) :: rest))) : W p l e R s m args below meth c H locs cells slots Q (F0 m pc ls (.ref a :: rest)) :=
  g_get hF hKK hW hk.1 (k := 18) (enc_5 hk.2) rfl twX5 (Nat.le_of_ble_eq_true rfl) wd_764 rfl hdg kk
theorem gf_5_19 {p : Program} {l : Launch} {e : Env} {R : Room} {s : State} {m : MethodId} {args : Array Value} {below : List Frame} {meth : Method} {c : Code} {H : Heap} {locs : List Loc} {cells slots : Nat} {Q : State → Prop} {G : va_G} {Λ : Lay} {μ : Mem} {cc : ByteArray} {pc nL : Nat} {ls : Array Slot} {rest : List Value} {a : Nat} (hF : CallFix p m c cc nL s args tw RX5) (hKK : KK G Λ s) (hW : Wd G Λ μ H) (hk : inK Λ a 5) (hdg : decode cc pc = .ok (.getfield 208, 3))
    (kk : W p l e R s m args below meth c H locs cells slots Q (F0 m (pc + 3) ls (.int (mI μ a 19) :: rest))) : W p l e R s m args below meth c H locs cells slots Q (F0 m pc ls (.ref a :: rest)) :=
  g_get hF hKK hW hk.1 (k := 19) (enc_5 hk.2) rfl twX5 (Nat.le_of_ble_eq_true rfl) wd_765 rfl hdg kk
theorem gf_5_16 {p : Program} {l : Launch} {e : Env} {R : Room} {s : State} {m : MethodId} {args : Array Value} {below : List Frame} {meth : Method} {c : Code} {H : Heap} {locs : List Loc} {cells slots : Nat} {Q : State → Prop} {G : va_G} {Λ : Lay} {μ : Mem} {cc : ByteArray} {pc nL : Nat} {ls : Array Slot} {rest : List Value} {a : Nat} (hF : CallFix p m c cc nL s args tw RX5) (hKK : KK G Λ s) (hW : Wd G Λ μ H) (hk : inK Λ a 5) (hdg : decode cc pc = .ok (.getfield 193, 3))
    (kk : W p l e R s m args below meth c H locs cells slots Q (F0 m (pc + 3) ls (.int (mI μ a 16) :: rest))) : W p l e R s m args below meth c H locs cells slots Q (F0 m pc ls (.ref a :: rest)) :=
  g_get hF hKK hW hk.1 (k := 16) (enc_5 hk.2) rfl twX5 (Nat.le_of_ble_eq_true rfl) wd_762 rfl hdg kk
theorem gf_5_20 {p : Program} {l : Launch} {e : Env} {R : Room} {s : State} {m : MethodId} {args : Array Value} {below : List Frame} {meth : Method} {c : Code} {H : Heap} {locs : List Loc} {cells slots : Nat} {Q : State → Prop} {G : va_G} {Λ : Lay} {μ : Mem} {cc : ByteArray} {pc nL : Nat} {ls : Array Slot} {rest : List Value} {a : Nat} (hF : CallFix p m c cc nL s args tw RX5) (hKK : KK G Λ s) (hW : Wd G Λ μ H) (hk : inK Λ a 5) (hdg : decode cc pc = .ok (.getfield 190, 3))
    (kk : W p l e R s m args below meth c H locs cells slots Q (F0 m (pc + 3) ls (.int (mI μ a 20) :: rest))) : W p l e R s m args below meth c H locs cells slots Q (F0 m pc ls (.ref a :: rest)) :=
  g_get hF hKK hW hk.1 (k := 20) (enc_5 hk.2) rfl twX5 (Nat.le_of_ble_eq_true rfl) wd_766 rfl hdg kk
theorem pf_5_16 {p : Program} {l : Launch} {e : Env} {R : Room} {s : State} {m : MethodId} {args : Array Value} {below : List Frame} {meth : Method} {c : Code} {H : Heap} {locs : List Loc} {cells slots : Nat} {Q : State → Prop} {G : va_G} {Λ : Lay} {μ μ1 : Mem} {cc : ByteArray} {pc nL : Nat} {ls : Array Slot} {rest : List Value} {a : Nat} {A : Nat → Prop} {H0 : Heap} {v : Int32} (hOK : LayOK Λ) (hF : CallFix p m c cc nL s args tw RX5) (hKK : KK G Λ s) (hW : Wd G Λ μ H) (hS : va_S A H0 H locs) (hA : ∀ q, inL Λ q → A q) (hk : inK Λ a 5) (hμ : μ1 = stI μ a 16 v) (hdg : decode cc pc = .ok (.putfield 193, 3))
    (kk : ∀ (H : Heap) (locs : List Loc), Wd G Λ μ1 H → va_S A H0 H locs → W p l e R s m args below meth c H locs cells slots Q (F0 m (pc + 3) ls rest)) : W p l e R s m args below meth c H locs cells slots Q (F0 m pc ls (.int v :: .ref a :: rest)) :=
  g_put hOK hF hKK hW hS hA hk.1 (k := 16) (enc_5 hk.2) rfl twX5 tyX5 tyX5_ok nmX5 (Nat.le_of_ble_eq_true rfl) wd_762 rfl (ty := .int) (by decide +kernel) (vp_nar_int _) rfl (Nat.le_of_ble_eq_true rfl) (by rw [hμ]; exact enc_stI ((enc_5 hk.2).trans (by simp [mI, stI]))) hdg kk
theorem pf_5_20 {p : Program} {l : Launch} {e : Env} {R : Room} {s : State} {m : MethodId} {args : Array Value} {below : List Frame} {meth : Method} {c : Code} {H : Heap} {locs : List Loc} {cells slots : Nat} {Q : State → Prop} {G : va_G} {Λ : Lay} {μ μ1 : Mem} {cc : ByteArray} {pc nL : Nat} {ls : Array Slot} {rest : List Value} {a : Nat} {A : Nat → Prop} {H0 : Heap} {v : Int32} (hbv : isB v) (hOK : LayOK Λ) (hF : CallFix p m c cc nL s args tw RX5) (hKK : KK G Λ s) (hW : Wd G Λ μ H) (hS : va_S A H0 H locs) (hA : ∀ q, inL Λ q → A q) (hk : inK Λ a 5) (hμ : μ1 = stI μ a 20 v) (hdg : decode cc pc = .ok (.putfield 190, 3))
    (kk : ∀ (H : Heap) (locs : List Loc), Wd G Λ μ1 H → va_S A H0 H locs → W p l e R s m args below meth c H locs cells slots Q (F0 m (pc + 3) ls rest)) : W p l e R s m args below meth c H locs cells slots Q (F0 m pc ls (.int v :: .ref a :: rest)) :=
  g_put hOK hF hKK hW hS hA hk.1 (k := 20) (enc_5 hk.2) rfl twX5 tyX5 tyX5_ok nmX5 (Nat.le_of_ble_eq_true rfl) wd_766 rfl (ty := .boolean) (by decide +kernel) (isB_nar hbv) (by rcases hbv with rfl | rfl <;> decide) (Nat.le_of_ble_eq_true rfl) (by rw [hμ]; exact enc_stI ((enc_5 hk.2).trans (by simp [mI, stI]))) hdg kk
theorem pf_5_18 {p : Program} {l : Launch} {e : Env} {R : Room} {s : State} {m : MethodId} {args : Array Value} {below : List Frame} {meth : Method} {c : Code} {H : Heap} {locs : List Loc} {cells slots : Nat} {Q : State → Prop} {G : va_G} {Λ : Lay} {μ μ1 : Mem} {cc : ByteArray} {pc nL : Nat} {ls : Array Slot} {rest : List Value} {a : Nat} {A : Nat → Prop} {H0 : Heap} {v : Int32} (hOK : LayOK Λ) (hF : CallFix p m c cc nL s args tw RX5) (hKK : KK G Λ s) (hW : Wd G Λ μ H) (hS : va_S A H0 H locs) (hA : ∀ q, inL Λ q → A q) (hk : inK Λ a 5) (hμ : μ1 = stI μ a 18 v) (hdg : decode cc pc = .ok (.putfield 205, 3))
    (kk : ∀ (H : Heap) (locs : List Loc), Wd G Λ μ1 H → va_S A H0 H locs → W p l e R s m args below meth c H locs cells slots Q (F0 m (pc + 3) ls rest)) : W p l e R s m args below meth c H locs cells slots Q (F0 m pc ls (.int v :: .ref a :: rest)) :=
  g_put hOK hF hKK hW hS hA hk.1 (k := 18) (enc_5 hk.2) rfl twX5 tyX5 tyX5_ok nmX5 (Nat.le_of_ble_eq_true rfl) wd_764 rfl (ty := .int) (by decide +kernel) (vp_nar_int _) rfl (Nat.le_of_ble_eq_true rfl) (by rw [hμ]; exact enc_stI ((enc_5 hk.2).trans (by simp [mI, stI]))) hdg kk
theorem pf_5_17 {p : Program} {l : Launch} {e : Env} {R : Room} {s : State} {m : MethodId} {args : Array Value} {below : List Frame} {meth : Method} {c : Code} {H : Heap} {locs : List Loc} {cells slots : Nat} {Q : State → Prop} {G : va_G} {Λ : Lay} {μ μ1 : Mem} {cc : ByteArray} {pc nL : Nat} {ls : Array Slot} {rest : List Value} {a : Nat} {A : Nat → Prop} {H0 : Heap} {v : Int32} (hOK : LayOK Λ) (hF : CallFix p m c cc nL s args tw RX5) (hKK : KK G Λ s) (hW : Wd G Λ μ H) (hS : va_S A H0 H locs) (hA : ∀ q, inL Λ q → A q) (hk : inK Λ a 5) (hμ : μ1 = stI μ a 17 v) (hdg : decode cc pc = .ok (.putfield 218, 3))
    (kk : ∀ (H : Heap) (locs : List Loc), Wd G Λ μ1 H → va_S A H0 H locs → W p l e R s m args below meth c H locs cells slots Q (F0 m (pc + 3) ls rest)) : W p l e R s m args below meth c H locs cells slots Q (F0 m pc ls (.int v :: .ref a :: rest)) :=
  g_put hOK hF hKK hW hS hA hk.1 (k := 17) (enc_5 hk.2) rfl twX5 tyX5 tyX5_ok nmX5 (Nat.le_of_ble_eq_true rfl) wd_763 rfl (ty := .int) (by decide +kernel) (vp_nar_int _) rfl (Nat.le_of_ble_eq_true rfl) (by rw [hμ]; exact enc_stI ((enc_5 hk.2).trans (by simp [mI, stI]))) hdg kk
theorem pf_5_19 {p : Program} {l : Launch} {e : Env} {R : Room} {s : State} {m : MethodId} {args : Array Value} {below : List Frame} {meth : Method} {c : Code} {H : Heap} {locs : List Loc} {cells slots : Nat} {Q : State → Prop} {G : va_G} {Λ : Lay} {μ μ1 : Mem} {cc : ByteArray} {pc nL : Nat} {ls : Array Slot} {rest : List Value} {a : Nat} {A : Nat → Prop} {H0 : Heap} {v : Int32} (hOK : LayOK Λ) (hF : CallFix p m c cc nL s args tw RX5) (hKK : KK G Λ s) (hW : Wd G Λ μ H) (hS : va_S A H0 H locs) (hA : ∀ q, inL Λ q → A q) (hk : inK Λ a 5) (hμ : μ1 = stI μ a 19 v) (hdg : decode cc pc = .ok (.putfield 208, 3))
    (kk : ∀ (H : Heap) (locs : List Loc), Wd G Λ μ1 H → va_S A H0 H locs → W p l e R s m args below meth c H locs cells slots Q (F0 m (pc + 3) ls rest)) : W p l e R s m args below meth c H locs cells slots Q (F0 m pc ls (.int v :: .ref a :: rest)) :=
  g_put hOK hF hKK hW hS hA hk.1 (k := 19) (enc_5 hk.2) rfl twX5 tyX5 tyX5_ok nmX5 (Nat.le_of_ble_eq_true rfl) wd_765 rfl (ty := .int) (by decide +kernel) (vp_nar_int _) rfl (Nat.le_of_ble_eq_true rfl) (by rw [hμ]; exact enc_stI ((enc_5 hk.2).trans (by simp [mI, stI]))) hdg kk
theorem pf_5_13 {p : Program} {l : Launch} {e : Env} {R : Room} {s : State} {m : MethodId} {args : Array Value} {below : List Frame} {meth : Method} {c : Code} {H : Heap} {locs : List Loc} {cells slots : Nat} {Q : State → Prop} {G : va_G} {Λ : Lay} {μ μ1 : Mem} {cc : ByteArray} {pc nL : Nat} {ls : Array Slot} {rest : List Value} {a : Nat} {A : Nat → Prop} {H0 : Heap} {v : Int32} (hOK : LayOK Λ) (hF : CallFix p m c cc nL s args tw RX5) (hKK : KK G Λ s) (hW : Wd G Λ μ H) (hS : va_S A H0 H locs) (hA : ∀ q, inL Λ q → A q) (hk : inK Λ a 5) (hμ : μ1 = stI μ a 13 v) (hdg : decode cc pc = .ok (.putfield 177, 3))
    (kk : ∀ (H : Heap) (locs : List Loc), Wd G Λ μ1 H → va_S A H0 H locs → W p l e R s m args below meth c H locs cells slots Q (F0 m (pc + 3) ls rest)) : W p l e R s m args below meth c H locs cells slots Q (F0 m pc ls (.int v :: .ref a :: rest)) :=
  g_put hOK hF hKK hW hS hA hk.1 (k := 13) (enc_5 hk.2) rfl twX5 tyX5 tyX5_ok nmX5 (Nat.le_of_ble_eq_true rfl) wd_759 rfl (ty := .int) (by decide +kernel) (vp_nar_int _) rfl (Nat.le_of_ble_eq_true rfl) (by rw [hμ]; exact enc_stI ((enc_5 hk.2).trans (by simp [mI, stI]))) hdg kk
theorem gf_5_13 {p : Program} {l : Launch} {e : Env} {R : Room} {s : State} {m : MethodId} {args : Array Value} {below : List Frame} {meth : Method} {c : Code} {H : Heap} {locs : List Loc} {cells slots : Nat} {Q : State → Prop} {G : va_G} {Λ : Lay} {μ : Mem} {cc : ByteArray} {pc nL : Nat} {ls : Array Slot} {rest : List Value} {a : Nat} (hF : CallFix p m c cc nL s args tw RX5) (hKK : KK G Λ s) (hW : Wd G Λ μ H) (hk : inK Λ a 5) (hdg : decode cc pc = .ok (.getfield 177, 3))
    (kk : W p l e R s m args below meth c H locs cells slots Q (F0 m (pc + 3) ls (.int (mI μ a 13) :: rest))) : W p l e R s m args below meth c H locs cells slots Q (F0 m pc ls (.ref a :: rest)) :=
  g_get hF hKK hW hk.1 (k := 13) (enc_5 hk.2) rfl twX5 (Nat.le_of_ble_eq_true rfl) wd_759 rfl hdg kk
theorem gf_5_12 {p : Program} {l : Launch} {e : Env} {R : Room} {s : State} {m : MethodId} {args : Array Value} {below : List Frame} {meth : Method} {c : Code} {H : Heap} {locs : List Loc} {cells slots : Nat} {Q : State → Prop} {G : va_G} {Λ : Lay} {μ : Mem} {cc : ByteArray} {pc nL : Nat} {ls : Array Slot} {rest : List Value} {a : Nat} (hF : CallFix p m c cc nL s args tw RX5) (hKK : KK G Λ s) (hW : Wd G Λ μ H) (hk : inK Λ a 5) (hdg : decode cc pc = .ok (.getfield 31, 3))
    (kk : W p l e R s m args below meth c H locs cells slots Q (F0 m (pc + 3) ls (.ref (lyR Λ a 12) :: rest))) : W p l e R s m args below meth c H locs cells slots Q (F0 m pc ls (.ref a :: rest)) :=
  g_get hF hKK hW hk.1 (k := 12) (enc_5 hk.2) rfl twX5 (Nat.le_of_ble_eq_true rfl) wd_758 rfl hdg kk
theorem gf_5_2 {p : Program} {l : Launch} {e : Env} {R : Room} {s : State} {m : MethodId} {args : Array Value} {below : List Frame} {meth : Method} {c : Code} {H : Heap} {locs : List Loc} {cells slots : Nat} {Q : State → Prop} {G : va_G} {Λ : Lay} {μ : Mem} {cc : ByteArray} {pc nL : Nat} {ls : Array Slot} {rest : List Value} {a : Nat} (hF : CallFix p m c cc nL s args tw RX5) (hKK : KK G Λ s) (hW : Wd G Λ μ H) (hk : inK Λ a 5) (hdg : decode cc pc = .ok (.getfield 16, 3))
    (kk : W p l e R s m args below meth c H locs cells slots Q (F0 m (pc + 3) ls (.ref (lyR Λ a 2) :: rest))) : W p l e R s m args below meth c H locs cells slots Q (F0 m pc ls (.ref a :: rest)) :=
  g_get hF hKK hW hk.1 (k := 2) (enc_5 hk.2) rfl twX5 (Nat.le_of_ble_eq_true rfl) wd_748 rfl hdg kk
theorem pf_5_10 {p : Program} {l : Launch} {e : Env} {R : Room} {s : State} {m : MethodId} {args : Array Value} {below : List Frame} {meth : Method} {c : Code} {H : Heap} {locs : List Loc} {cells slots : Nat} {Q : State → Prop} {G : va_G} {Λ : Lay} {μ μ1 : Mem} {cc : ByteArray} {pc nL : Nat} {ls : Array Slot} {rest : List Value} {a : Nat} {A : Nat → Prop} {H0 : Heap} {v : Int32} (hbv : isB v) (hOK : LayOK Λ) (hF : CallFix p m c cc nL s args tw RX5) (hKK : KK G Λ s) (hW : Wd G Λ μ H) (hS : va_S A H0 H locs) (hA : ∀ q, inL Λ q → A q) (hk : inK Λ a 5) (hμ : μ1 = stI μ a 10 v) (hdg : decode cc pc = .ok (.putfield 44, 3))
    (kk : ∀ (H : Heap) (locs : List Loc), Wd G Λ μ1 H → va_S A H0 H locs → W p l e R s m args below meth c H locs cells slots Q (F0 m (pc + 3) ls rest)) : W p l e R s m args below meth c H locs cells slots Q (F0 m pc ls (.int v :: .ref a :: rest)) :=
  g_put hOK hF hKK hW hS hA hk.1 (k := 10) (enc_5 hk.2) rfl twX5 tyX5 tyX5_ok nmX5 (Nat.le_of_ble_eq_true rfl) wd_756 rfl (ty := .boolean) (by decide +kernel) (isB_nar hbv) (by rcases hbv with rfl | rfl <;> decide) (Nat.le_of_ble_eq_true rfl) (by rw [hμ]; exact enc_stI ((enc_5 hk.2).trans (by simp [mI, stI]))) hdg kk
theorem pf_5_8 {p : Program} {l : Launch} {e : Env} {R : Room} {s : State} {m : MethodId} {args : Array Value} {below : List Frame} {meth : Method} {c : Code} {H : Heap} {locs : List Loc} {cells slots : Nat} {Q : State → Prop} {G : va_G} {Λ : Lay} {μ μ1 : Mem} {cc : ByteArray} {pc nL : Nat} {ls : Array Slot} {rest : List Value} {a : Nat} {A : Nat → Prop} {H0 : Heap} {v : Int32} (hOK : LayOK Λ) (hF : CallFix p m c cc nL s args tw RX5) (hKK : KK G Λ s) (hW : Wd G Λ μ H) (hS : va_S A H0 H locs) (hA : ∀ q, inL Λ q → A q) (hk : inK Λ a 5) (hμ : μ1 = stI μ a 8 v) (hdg : decode cc pc = .ok (.putfield 48, 3))
    (kk : ∀ (H : Heap) (locs : List Loc), Wd G Λ μ1 H → va_S A H0 H locs → W p l e R s m args below meth c H locs cells slots Q (F0 m (pc + 3) ls rest)) : W p l e R s m args below meth c H locs cells slots Q (F0 m pc ls (.int v :: .ref a :: rest)) :=
  g_put hOK hF hKK hW hS hA hk.1 (k := 8) (enc_5 hk.2) rfl twX5 tyX5 tyX5_ok nmX5 (Nat.le_of_ble_eq_true rfl) wd_754 rfl (ty := .int) (by decide +kernel) (vp_nar_int _) rfl (Nat.le_of_ble_eq_true rfl) (by rw [hμ]; exact enc_stI ((enc_5 hk.2).trans (by simp [mI, stI]))) hdg kk
theorem gf_5_7 {p : Program} {l : Launch} {e : Env} {R : Room} {s : State} {m : MethodId} {args : Array Value} {below : List Frame} {meth : Method} {c : Code} {H : Heap} {locs : List Loc} {cells slots : Nat} {Q : State → Prop} {G : va_G} {Λ : Lay} {μ : Mem} {cc : ByteArray} {pc nL : Nat} {ls : Array Slot} {rest : List Value} {a : Nat} (hF : CallFix p m c cc nL s args tw RX5) (hKK : KK G Λ s) (hW : Wd G Λ μ H) (hk : inK Λ a 5) (hdg : decode cc pc = .ok (.getfield 24, 3))
    (kk : W p l e R s m args below meth c H locs cells slots Q (F0 m (pc + 3) ls (.int (mI μ a 7) :: rest))) : W p l e R s m args below meth c H locs cells slots Q (F0 m pc ls (.ref a :: rest)) :=
  g_get hF hKK hW hk.1 (k := 7) (enc_5 hk.2) rfl twX5 (Nat.le_of_ble_eq_true rfl) wd_753 rfl hdg kk
theorem gf_5_6 {p : Program} {l : Launch} {e : Env} {R : Room} {s : State} {m : MethodId} {args : Array Value} {below : List Frame} {meth : Method} {c : Code} {H : Heap} {locs : List Loc} {cells slots : Nat} {Q : State → Prop} {G : va_G} {Λ : Lay} {μ : Mem} {cc : ByteArray} {pc nL : Nat} {ls : Array Slot} {rest : List Value} {a : Nat} (hF : CallFix p m c cc nL s args tw RX5) (hKK : KK G Λ s) (hW : Wd G Λ μ H) (hk : inK Λ a 5) (hdg : decode cc pc = .ok (.getfield 41, 3))
    (kk : W p l e R s m args below meth c H locs cells slots Q (F0 m (pc + 3) ls (.int (mI μ a 6) :: rest))) : W p l e R s m args below meth c H locs cells slots Q (F0 m pc ls (.ref a :: rest)) :=
  g_get hF hKK hW hk.1 (k := 6) (enc_5 hk.2) rfl twX5 (Nat.le_of_ble_eq_true rfl) wd_752 rfl hdg kk
theorem gf_5_5 {p : Program} {l : Launch} {e : Env} {R : Room} {s : State} {m : MethodId} {args : Array Value} {below : List Frame} {meth : Method} {c : Code} {H : Heap} {locs : List Loc} {cells slots : Nat} {Q : State → Prop} {G : va_G} {Λ : Lay} {μ : Mem} {cc : ByteArray} {pc nL : Nat} {ls : Array Slot} {rest : List Value} {a : Nat} (hF : CallFix p m c cc nL s args tw RX5) (hKK : KK G Λ s) (hW : Wd G Λ μ H) (hk : inK Λ a 5) (hdg : decode cc pc = .ok (.getfield 38, 3))
    (kk : W p l e R s m args below meth c H locs cells slots Q (F0 m (pc + 3) ls (.int (mI μ a 5) :: rest))) : W p l e R s m args below meth c H locs cells slots Q (F0 m pc ls (.ref a :: rest)) :=
  g_get hF hKK hW hk.1 (k := 5) (enc_5 hk.2) rfl twX5 (Nat.le_of_ble_eq_true rfl) wd_751 rfl hdg kk
theorem gf_5_1 {p : Program} {l : Launch} {e : Env} {R : Room} {s : State} {m : MethodId} {args : Array Value} {below : List Frame} {meth : Method} {c : Code} {H : Heap} {locs : List Loc} {cells slots : Nat} {Q : State → Prop} {G : va_G} {Λ : Lay} {μ : Mem} {cc : ByteArray} {pc nL : Nat} {ls : Array Slot} {rest : List Value} {a : Nat} (hF : CallFix p m c cc nL s args tw RX5) (hKK : KK G Λ s) (hW : Wd G Λ μ H) (hk : inK Λ a 5) (hdg : decode cc pc = .ok (.getfield 13, 3))
    (kk : W p l e R s m args below meth c H locs cells slots Q (F0 m (pc + 3) ls (.ref (lyR Λ a 1) :: rest))) : W p l e R s m args below meth c H locs cells slots Q (F0 m pc ls (.ref a :: rest)) :=
  g_get hF hKK hW hk.1 (k := 1) (enc_5 hk.2) rfl twX5 (Nat.le_of_ble_eq_true rfl) wd_747 rfl hdg kk
theorem gf_5_9 {p : Program} {l : Launch} {e : Env} {R : Room} {s : State} {m : MethodId} {args : Array Value} {below : List Frame} {meth : Method} {c : Code} {H : Heap} {locs : List Loc} {cells slots : Nat} {Q : State → Prop} {G : va_G} {Λ : Lay} {μ : Mem} {cc : ByteArray} {pc nL : Nat} {ls : Array Slot} {rest : List Value} {a : Nat} (hF : CallFix p m c cc nL s args tw RX5) (hKK : KK G Λ s) (hW : Wd G Λ μ H) (hk : inK Λ a 5) (hdg : decode cc pc = .ok (.getfield 272, 3))
    (kk : W p l e R s m args below meth c H locs cells slots Q (F0 m (pc + 3) ls (.int (mI μ a 9) :: rest))) : W p l e R s m args below meth c H locs cells slots Q (F0 m pc ls (.ref a :: rest)) :=
  g_get hF hKK hW hk.1 (k := 9) (enc_5 hk.2) rfl twX5 (Nat.le_of_ble_eq_true rfl) wd_755 rfl hdg kk
theorem pf_5_9 {p : Program} {l : Launch} {e : Env} {R : Room} {s : State} {m : MethodId} {args : Array Value} {below : List Frame} {meth : Method} {c : Code} {H : Heap} {locs : List Loc} {cells slots : Nat} {Q : State → Prop} {G : va_G} {Λ : Lay} {μ μ1 : Mem} {cc : ByteArray} {pc nL : Nat} {ls : Array Slot} {rest : List Value} {a : Nat} {A : Nat → Prop} {H0 : Heap} {v : Int32} (hbv : isB v) (hOK : LayOK Λ) (hF : CallFix p m c cc nL s args tw RX5) (hKK : KK G Λ s) (hW : Wd G Λ μ H) (hS : va_S A H0 H locs) (hA : ∀ q, inL Λ q → A q) (hk : inK Λ a 5) (hμ : μ1 = stI μ a 9 v) (hdg : decode cc pc = .ok (.putfield 272, 3))
    (kk : ∀ (H : Heap) (locs : List Loc), Wd G Λ μ1 H → va_S A H0 H locs → W p l e R s m args below meth c H locs cells slots Q (F0 m (pc + 3) ls rest)) : W p l e R s m args below meth c H locs cells slots Q (F0 m pc ls (.int v :: .ref a :: rest)) :=
  g_put hOK hF hKK hW hS hA hk.1 (k := 9) (enc_5 hk.2) rfl twX5 tyX5 tyX5_ok nmX5 (Nat.le_of_ble_eq_true rfl) wd_755 rfl (ty := .boolean) (by decide +kernel) (isB_nar hbv) (by rcases hbv with rfl | rfl <;> decide) (Nat.le_of_ble_eq_true rfl) (by rw [hμ]; exact enc_stI ((enc_5 hk.2).trans (by simp [mI, stI]))) hdg kk
