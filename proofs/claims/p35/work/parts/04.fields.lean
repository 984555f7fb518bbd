/-! printed by wip/gen35/build.py out of the decode rows: do not edit by hand -/
theorem wd_0 : Cond.selects RX1 yX1_roundAt yX1_roundAt ∈ tw := tw_mem (i := 0) (by decide +kernel) (by decide +kernel)
theorem wd_1 : Cond.selects RX4 yX4_addBank yX4_addBank ∈ tw := tw_mem (i := 1) (by decide +kernel) (by decide +kernel)
theorem wd_2 : Cond.selects RX4 yX4_refuse yX4_refuse ∈ tw := tw_mem (i := 2) (by decide +kernel) (by decide +kernel)
theorem wd_3 : Cond.selects RX4 yX4_settle yX4_settle ∈ tw := tw_mem (i := 3) (by decide +kernel) (by decide +kernel)
theorem wd_4 : Cond.selects RX4 yX4_joinBanks yX4_joinBanks ∈ tw := tw_mem (i := 4) (by decide +kernel) (by decide +kernel)
theorem wd_5 : Cond.selects RX4 yX4_areThere yX4_areThere ∈ tw := tw_mem (i := 5) (by decide +kernel) (by decide +kernel)
theorem wd_6 : Cond.selects RX4 yX4_cutRope yX4_cutRope ∈ tw := tw_mem (i := 6) (by decide +kernel) (by decide +kernel)
theorem wd_7 : Cond.selects RX4 yX4_turnRound yX4_turnRound ∈ tw := tw_mem (i := 7) (by decide +kernel) (by decide +kernel)
theorem wd_8 : Cond.selects RX4 yX4_raisePart yX4_raisePart ∈ tw := tw_mem (i := 8) (by decide +kernel) (by decide +kernel)
theorem wd_9 : Cond.selects RX3 yX3_takeCommand yX3_takeCommand ∈ tw := tw_mem (i := 9) (by decide +kernel) (by decide +kernel)
theorem wd_10 : Cond.selects RX3 yX3_takeNumber yX3_takeNumber ∈ tw := tw_mem (i := 10) (by decide +kernel) (by decide +kernel)
theorem wd_11 : Cond.selects RX4 yX4_carryOut yX4_carryOut ∈ tw := tw_mem (i := 11) (by decide +kernel) (by decide +kernel)
theorem wd_12 : Cond.selects RX4 yX4_setWeight yX4_setWeight ∈ tw := tw_mem (i := 12) (by decide +kernel) (by decide +kernel)
theorem wd_13 : Cond.selects RX1 yX1_partsAheadOf yX1_partsAheadOf ∈ tw := tw_mem (i := 13) (by decide +kernel) (by decide +kernel)
theorem wd_14 : Cond.selects RX1 yX1_ranksAhead yX1_ranksAhead ∈ tw := tw_mem (i := 14) (by decide +kernel) (by decide +kernel)
theorem wd_15 : Cond.selects RX1 yX1_leavesOverEachRope yX1_leavesOverEachRope ∈ tw := tw_mem (i := 15) (by decide +kernel) (by decide +kernel)
theorem wd_16 : Cond.initialized RL ∈ tw := tw_mem (i := 16) (by decide +kernel) (by decide +kernel)
theorem wd_17 : Cond.initialized RX4 ∈ tw := tw_mem (i := 17) (by decide +kernel) (by decide +kernel)
theorem wd_18 : Cond.initialized RX1 ∈ tw := tw_mem (i := 18) (by decide +kernel) (by decide +kernel)
theorem wd_19 : Cond.initialized RX2 ∈ tw := tw_mem (i := 19) (by decide +kernel) (by decide +kernel)
theorem wd_20 : Cond.initialized RX0 ∈ tw := tw_mem (i := 20) (by decide +kernel) (by decide +kernel)
theorem wd_21 : Cond.initialized RX3 ∈ tw := tw_mem (i := 21) (by decide +kernel) (by decide +kernel)
theorem wd_22 : Cond.initialized RJ9 ∈ tw := tw_mem (i := 22) (by decide +kernel) (by decide +kernel)
theorem wd_23 : Cond.initialized RJ6 ∈ tw := tw_mem (i := 23) (by decide +kernel) (by decide +kernel)
theorem wd_24 : Cond.initialized RJ0 ∈ tw := tw_mem (i := 24) (by decide +kernel) (by decide +kernel)
theorem wd_25 : Cond.initialized RJ1 ∈ tw := tw_mem (i := 25) (by decide +kernel) (by decide +kernel)
theorem wd_26 : Cond.initialized RJ3 ∈ tw := tw_mem (i := 26) (by decide +kernel) (by decide +kernel)
theorem wd_28 : Cond.initialized RJxf58ca ∈ tw := tw_mem (i := 28) (by decide +kernel) (by decide +kernel)
theorem wd_49 : Cond.fieldLink RX2 9 "FerryRounds$Row" "numbers" "[I" ∈ tw := tw_mem (i := 49) (by decide +kernel) (by decide +kernel)
theorem wd_50 : Cond.fieldLink RX2 15 "FerryRounds$Row" "length" "I" ∈ tw := tw_mem (i := 50) (by decide +kernel) (by decide +kernel)
theorem wd_58 : Cond.fieldLink RX1 14 "FerryRounds$River" "weights" "LFerryRounds$Row;" ∈ tw := tw_mem (i := 58) (by decide +kernel) (by decide +kernel)
theorem wd_59 : Cond.fieldLink RX1 20 "FerryRounds$River" "ropes" "LFerryRounds$Row;" ∈ tw := tw_mem (i := 59) (by decide +kernel) (by decide +kernel)
theorem wd_60 : Cond.fieldLink RX1 23 "FerryRounds$River" "rounds" "[LFerryRounds$Row;" ∈ tw := tw_mem (i := 60) (by decide +kernel) (by decide +kernel)
theorem wd_61 : Cond.fieldLink RX1 27 "FerryRounds$River" "noRound" "LFerryRounds$Row;" ∈ tw := tw_mem (i := 61) (by decide +kernel) (by decide +kernel)
theorem wd_62 : Cond.fieldLink RX1 38 "FerryRounds$River" "joins" "I" ∈ tw := tw_mem (i := 62) (by decide +kernel) (by decide +kernel)
theorem wd_63 : Cond.fieldLink RX1 42 "FerryRounds$River" "cuts" "I" ∈ tw := tw_mem (i := 63) (by decide +kernel) (by decide +kernel)
theorem wd_64 : Cond.fieldLink RX1 45 "FerryRounds$River" "turns" "I" ∈ tw := tw_mem (i := 64) (by decide +kernel) (by decide +kernel)
theorem wd_89 : Cond.fieldLink RX0 13 "FerryRounds$Past" "states" "[LFerryRounds$River;" ∈ tw := tw_mem (i := 89) (by decide +kernel) (by decide +kernel)
theorem wd_90 : Cond.fieldLink RX0 22 "FerryRounds$Past" "next" "I" ∈ tw := tw_mem (i := 90) (by decide +kernel) (by decide +kernel)
theorem wd_91 : Cond.fieldLink RX0 18 "FerryRounds$Past" "count" "I" ∈ tw := tw_mem (i := 91) (by decide +kernel) (by decide +kernel)
theorem wd_109 : Cond.fieldLink RX3 14 "FerryRounds$Script" "kinds" "LFerryRounds$Row;" ∈ tw := tw_mem (i := 109) (by decide +kernel) (by decide +kernel)
theorem wd_110 : Cond.fieldLink RX3 20 "FerryRounds$Script" "firsts" "LFerryRounds$Row;" ∈ tw := tw_mem (i := 110) (by decide +kernel) (by decide +kernel)
theorem wd_111 : Cond.fieldLink RX3 23 "FerryRounds$Script" "seconds" "LFerryRounds$Row;" ∈ tw := tw_mem (i := 111) (by decide +kernel) (by decide +kernel)
theorem wd_112 : Cond.fieldLink RX3 37 "FerryRounds$Script" "at" "I" ∈ tw := tw_mem (i := 112) (by decide +kernel) (by decide +kernel)
theorem wd_113 : Cond.fieldLink RX3 52 "FerryRounds$Script" "number" "I" ∈ tw := tw_mem (i := 113) (by decide +kernel) (by decide +kernel)
theorem wd_125 : Cond.fieldLink RX4 12 "FerryRounds" "river" "LFerryRounds$River;" ∈ tw := tw_mem (i := 125) (by decide +kernel) (by decide +kernel)
theorem wd_126 : Cond.fieldLink RX4 16 "FerryRounds" "snapshot" "LFerryRounds$River;" ∈ tw := tw_mem (i := 126) (by decide +kernel) (by decide +kernel)
theorem wd_127 : Cond.fieldLink RX4 22 "FerryRounds" "past" "LFerryRounds$Past;" ∈ tw := tw_mem (i := 127) (by decide +kernel) (by decide +kernel)
theorem wd_129 : Cond.fieldLink RX4 35 "FerryRounds" "text" "LFerryRounds$Row;" ∈ tw := tw_mem (i := 129) (by decide +kernel) (by decide +kernel)
theorem wd_130 : Cond.fieldLink RX4 41 "FerryRounds" "script" "LFerryRounds$Script;" ∈ tw := tw_mem (i := 130) (by decide +kernel) (by decide +kernel)
theorem wd_131 : Cond.fieldLink RX4 250 "FerryRounds" "isSaved" "Z" ∈ tw := tw_mem (i := 131) (by decide +kernel) (by decide +kernel)
theorem wd_132 : Cond.fieldLink RX4 196 "FerryRounds" "reason" "I" ∈ tw := tw_mem (i := 132) (by decide +kernel) (by decide +kernel)
theorem wd_133 : Cond.fieldLink RX4 199 "FerryRounds" "reasonDetail" "I" ∈ tw := tw_mem (i := 133) (by decide +kernel) (by decide +kernel)
theorem wd_134 : Cond.fieldLink RX4 202 "FerryRounds" "reasonCommand" "I" ∈ tw := tw_mem (i := 134) (by decide +kernel) (by decide +kernel)
theorem wd_135 : Cond.fieldLink RX4 45 "FerryRounds" "commandNow" "I" ∈ tw := tw_mem (i := 135) (by decide +kernel) (by decide +kernel)
theorem wd_159 : Cond.methodLink RL 24 yX4_bank ∈ tw := tw_mem (i := 159) (by decide +kernel) (by decide +kernel)
theorem wd_160 : Cond.instanceMethod yX4_bank ∈ tw := tw_mem (i := 160) (by decide +kernel) (by decide +kernel)
theorem wd_161 : Cond.selects RX4 yX4_bank yX4_bank ∈ tw := tw_mem (i := 161) (by decide +kernel) (by decide +kernel)
theorem wd_162 : Cond.code yX4_bank cX4_bank 2 (some .int) ∈ tw := tw_mem (i := 162) (by decide +kernel) (by decide +kernel)
theorem wd_163 : Cond.methodLink RX4 49 yX0_note ∈ tw := tw_mem (i := 163) (by decide +kernel) (by decide +kernel)
theorem wd_164 : Cond.instanceMethod yX0_note ∈ tw := tw_mem (i := 164) (by decide +kernel) (by decide +kernel)
theorem wd_165 : Cond.selects RX0 yX0_note yX0_note ∈ tw := tw_mem (i := 165) (by decide +kernel) (by decide +kernel)
theorem wd_166 : Cond.code yX0_note cX0_note 3 none ∈ tw := tw_mem (i := 166) (by decide +kernel) (by decide +kernel)
theorem wd_167 : Cond.methodLink RX0 25 yX1_copyFrom ∈ tw := tw_mem (i := 167) (by decide +kernel) (by decide +kernel)
theorem wd_168 : Cond.instanceMethod yX1_copyFrom ∈ tw := tw_mem (i := 168) (by decide +kernel) (by decide +kernel)
theorem wd_169 : Cond.selects RX1 yX1_copyFrom yX1_copyFrom ∈ tw := tw_mem (i := 169) (by decide +kernel) (by decide +kernel)
theorem wd_170 : Cond.code yX1_copyFrom cX1_copyFrom 3 none ∈ tw := tw_mem (i := 170) (by decide +kernel) (by decide +kernel)
theorem wd_171 : Cond.methodLink RX1 30 yX2_copyFrom ∈ tw := tw_mem (i := 171) (by decide +kernel) (by decide +kernel)
theorem wd_172 : Cond.instanceMethod yX2_copyFrom ∈ tw := tw_mem (i := 172) (by decide +kernel) (by decide +kernel)
theorem wd_173 : Cond.selects RX2 yX2_copyFrom yX2_copyFrom ∈ tw := tw_mem (i := 173) (by decide +kernel) (by decide +kernel)
theorem wd_174 : Cond.code yX2_copyFrom cX2_copyFrom 3 none ∈ tw := tw_mem (i := 174) (by decide +kernel) (by decide +kernel)
theorem wd_175 : Cond.methodLink RX2 23 yX2_get ∈ tw := tw_mem (i := 175) (by decide +kernel) (by decide +kernel)
theorem wd_176 : Cond.instanceMethod yX2_get ∈ tw := tw_mem (i := 176) (by decide +kernel) (by decide +kernel)
theorem wd_177 : Cond.selects RX2 yX2_get yX2_get ∈ tw := tw_mem (i := 177) (by decide +kernel) (by decide +kernel)
theorem wd_178 : Cond.code yX2_get cX2_get 2 (some .int) ∈ tw := tw_mem (i := 178) (by decide +kernel) (by decide +kernel)
theorem wd_179 : Cond.methodLink RX2 19 yX2_add ∈ tw := tw_mem (i := 179) (by decide +kernel) (by decide +kernel)
theorem wd_180 : Cond.instanceMethod yX2_add ∈ tw := tw_mem (i := 180) (by decide +kernel) (by decide +kernel)
theorem wd_181 : Cond.selects RX2 yX2_add yX2_add ∈ tw := tw_mem (i := 181) (by decide +kernel) (by decide +kernel)
theorem wd_182 : Cond.code yX2_add cX2_add 2 none ∈ tw := tw_mem (i := 182) (by decide +kernel) (by decide +kernel)
theorem wd_183 : Cond.methodLink RX1 34 yX1_roundAt ∈ tw := tw_mem (i := 183) (by decide +kernel) (by decide +kernel)
theorem wd_185 : Cond.instanceMethod yX1_roundAt ∈ tw := tw_mem (i := 185) (by decide +kernel) (by decide +kernel)
theorem wd_186 : Cond.code yX1_roundAt cX1_roundAt 3 (some (.object "FerryRounds$Row")) ∈ tw := tw_mem (i := 186) (by decide +kernel) (by decide +kernel)
theorem wd_187 : Cond.methodLink RX4 53 yX4_addBank ∈ tw := tw_mem (i := 187) (by decide +kernel) (by decide +kernel)
theorem wd_189 : Cond.instanceMethod yX4_addBank ∈ tw := tw_mem (i := 189) (by decide +kernel) (by decide +kernel)
theorem wd_190 : Cond.code yX4_addBank cX4_addBank 2 (some .int) ∈ tw := tw_mem (i := 190) (by decide +kernel) (by decide +kernel)
theorem wd_191 : Cond.methodLink RX4 205 yX1_banks ∈ tw := tw_mem (i := 191) (by decide +kernel) (by decide +kernel)
theorem wd_192 : Cond.instanceMethod yX1_banks ∈ tw := tw_mem (i := 192) (by decide +kernel) (by decide +kernel)
theorem wd_193 : Cond.selects RX1 yX1_banks yX1_banks ∈ tw := tw_mem (i := 193) (by decide +kernel) (by decide +kernel)
theorem wd_194 : Cond.code yX1_banks cX1_banks 1 (some .int) ∈ tw := tw_mem (i := 194) (by decide +kernel) (by decide +kernel)
theorem wd_195 : Cond.methodLink RX1 48 yX2_length ∈ tw := tw_mem (i := 195) (by decide +kernel) (by decide +kernel)
theorem wd_196 : Cond.instanceMethod yX2_length ∈ tw := tw_mem (i := 196) (by decide +kernel) (by decide +kernel)
theorem wd_197 : Cond.selects RX2 yX2_length yX2_length ∈ tw := tw_mem (i := 197) (by decide +kernel) (by decide +kernel)
theorem wd_198 : Cond.code yX2_length cX2_length 1 (some .int) ∈ tw := tw_mem (i := 198) (by decide +kernel) (by decide +kernel)
theorem wd_199 : Cond.methodLink RX4 257 yX4_refuse ∈ tw := tw_mem (i := 199) (by decide +kernel) (by decide +kernel)
theorem wd_201 : Cond.instanceMethod yX4_refuse ∈ tw := tw_mem (i := 201) (by decide +kernel) (by decide +kernel)
theorem wd_202 : Cond.code yX4_refuse cX4_refuse 3 (some .int) ∈ tw := tw_mem (i := 202) (by decide +kernel) (by decide +kernel)
theorem wd_203 : Cond.methodLink RX4 260 yX1_addBankOf ∈ tw := tw_mem (i := 203) (by decide +kernel) (by decide +kernel)
theorem wd_204 : Cond.instanceMethod yX1_addBankOf ∈ tw := tw_mem (i := 204) (by decide +kernel) (by decide +kernel)
theorem wd_205 : Cond.selects RX1 yX1_addBankOf yX1_addBankOf ∈ tw := tw_mem (i := 205) (by decide +kernel) (by decide +kernel)
theorem wd_206 : Cond.code yX1_addBankOf cX1_addBankOf 3 (some .int) ∈ tw := tw_mem (i := 206) (by decide +kernel) (by decide +kernel)
theorem wd_207 : Cond.methodLink RX1 71 yX2_add ∈ tw := tw_mem (i := 207) (by decide +kernel) (by decide +kernel)
theorem wd_208 : Cond.methodLink RX4 57 yX4_settle ∈ tw := tw_mem (i := 208) (by decide +kernel) (by decide +kernel)
theorem wd_210 : Cond.instanceMethod yX4_settle ∈ tw := tw_mem (i := 210) (by decide +kernel) (by decide +kernel)
theorem wd_211 : Cond.code yX4_settle cX4_settle 2 (some .int) ∈ tw := tw_mem (i := 211) (by decide +kernel) (by decide +kernel)
theorem wd_212 : Cond.methodLink RX4 289 yX0_confirm ∈ tw := tw_mem (i := 212) (by decide +kernel) (by decide +kernel)
theorem wd_213 : Cond.instanceMethod yX0_confirm ∈ tw := tw_mem (i := 213) (by decide +kernel) (by decide +kernel)
theorem wd_214 : Cond.selects RX0 yX0_confirm yX0_confirm ∈ tw := tw_mem (i := 214) (by decide +kernel) (by decide +kernel)
theorem wd_215 : Cond.code yX0_confirm cX0_confirm 1 none ∈ tw := tw_mem (i := 215) (by decide +kernel) (by decide +kernel)
theorem wd_216 : Cond.methodLink RX0 29 Lib.Math.min.name ∈ tw := tw_mem (i := 216) (by decide +kernel) (by decide +kernel)
theorem wd_217 : Cond.static Lib.Math.min.name ∈ tw := tw_mem (i := 217) (by decide +kernel) (by decide +kernel)
theorem wd_218 : Cond.code Lib.Math.min.name Lib.Math.min.code 2 (some .int) ∈ tw := tw_mem (i := 218) (by decide +kernel) (by decide +kernel)
theorem wd_219 : Cond.methodLink RL 27 yX4_join ∈ tw := tw_mem (i := 219) (by decide +kernel) (by decide +kernel)
theorem wd_220 : Cond.instanceMethod yX4_join ∈ tw := tw_mem (i := 220) (by decide +kernel) (by decide +kernel)
theorem wd_221 : Cond.selects RX4 yX4_join yX4_join ∈ tw := tw_mem (i := 221) (by decide +kernel) (by decide +kernel)
theorem wd_222 : Cond.code yX4_join cX4_join 3 (some .int) ∈ tw := tw_mem (i := 222) (by decide +kernel) (by decide +kernel)
theorem wd_223 : Cond.methodLink RX4 64 yX4_joinBanks ∈ tw := tw_mem (i := 223) (by decide +kernel) (by decide +kernel)
theorem wd_225 : Cond.instanceMethod yX4_joinBanks ∈ tw := tw_mem (i := 225) (by decide +kernel) (by decide +kernel)
theorem wd_226 : Cond.code yX4_joinBanks cX4_joinBanks 3 (some .int) ∈ tw := tw_mem (i := 226) (by decide +kernel) (by decide +kernel)
theorem wd_227 : Cond.methodLink RX4 76 yX4_areThere ∈ tw := tw_mem (i := 227) (by decide +kernel) (by decide +kernel)
theorem wd_229 : Cond.instanceMethod yX4_areThere ∈ tw := tw_mem (i := 229) (by decide +kernel) (by decide +kernel)
theorem wd_230 : Cond.code yX4_areThere cX4_areThere 3 (some .boolean) ∈ tw := tw_mem (i := 230) (by decide +kernel) (by decide +kernel)
theorem wd_231 : Cond.methodLink RX4 89 yX1_has ∈ tw := tw_mem (i := 231) (by decide +kernel) (by decide +kernel)
theorem wd_232 : Cond.instanceMethod yX1_has ∈ tw := tw_mem (i := 232) (by decide +kernel) (by decide +kernel)
theorem wd_233 : Cond.selects RX1 yX1_has yX1_has ∈ tw := tw_mem (i := 233) (by decide +kernel) (by decide +kernel)
theorem wd_234 : Cond.code yX1_has cX1_has 2 (some .boolean) ∈ tw := tw_mem (i := 234) (by decide +kernel) (by decide +kernel)
theorem wd_235 : Cond.methodLink RX4 80 yX1_isOnePart ∈ tw := tw_mem (i := 235) (by decide +kernel) (by decide +kernel)
theorem wd_236 : Cond.instanceMethod yX1_isOnePart ∈ tw := tw_mem (i := 236) (by decide +kernel) (by decide +kernel)
theorem wd_237 : Cond.selects RX1 yX1_isOnePart yX1_isOnePart ∈ tw := tw_mem (i := 237) (by decide +kernel) (by decide +kernel)
theorem wd_238 : Cond.code yX1_isOnePart cX1_isOnePart 3 (some .boolean) ∈ tw := tw_mem (i := 238) (by decide +kernel) (by decide +kernel)
theorem wd_239 : Cond.methodLink RX1 87 yX1_roundOf ∈ tw := tw_mem (i := 239) (by decide +kernel) (by decide +kernel)
theorem wd_240 : Cond.instanceMethod yX1_roundOf ∈ tw := tw_mem (i := 240) (by decide +kernel) (by decide +kernel)
theorem wd_241 : Cond.selects RX1 yX1_roundOf yX1_roundOf ∈ tw := tw_mem (i := 241) (by decide +kernel) (by decide +kernel)
theorem wd_242 : Cond.code yX1_roundOf cX1_roundOf 2 (some (.object "FerryRounds$Row")) ∈ tw := tw_mem (i := 242) (by decide +kernel) (by decide +kernel)
theorem wd_243 : Cond.methodLink RX1 109 yX1_rootOf ∈ tw := tw_mem (i := 243) (by decide +kernel) (by decide +kernel)
theorem wd_244 : Cond.instanceMethod yX1_rootOf ∈ tw := tw_mem (i := 244) (by decide +kernel) (by decide +kernel)
theorem wd_245 : Cond.selects RX1 yX1_rootOf yX1_rootOf ∈ tw := tw_mem (i := 245) (by decide +kernel) (by decide +kernel)
theorem wd_246 : Cond.code yX1_rootOf cX1_rootOf 3 (some .int) ∈ tw := tw_mem (i := 246) (by decide +kernel) (by decide +kernel)
theorem wd_247 : Cond.methodLink RX1 90 yX2_firstOf ∈ tw := tw_mem (i := 247) (by decide +kernel) (by decide +kernel)
theorem wd_248 : Cond.instanceMethod yX2_firstOf ∈ tw := tw_mem (i := 248) (by decide +kernel) (by decide +kernel)
theorem wd_249 : Cond.selects RX2 yX2_firstOf yX2_firstOf ∈ tw := tw_mem (i := 249) (by decide +kernel) (by decide +kernel)
theorem wd_250 : Cond.code yX2_firstOf cX2_firstOf 3 (some .int) ∈ tw := tw_mem (i := 250) (by decide +kernel) (by decide +kernel)
theorem wd_251 : Cond.methodLink RX4 96 yX1_rootOf ∈ tw := tw_mem (i := 251) (by decide +kernel) (by decide +kernel)
theorem wd_252 : Cond.methodLink RX4 267 yX1_turnTo ∈ tw := tw_mem (i := 252) (by decide +kernel) (by decide +kernel)
theorem wd_253 : Cond.instanceMethod yX1_turnTo ∈ tw := tw_mem (i := 253) (by decide +kernel) (by decide +kernel)
theorem wd_254 : Cond.selects RX1 yX1_turnTo yX1_turnTo ∈ tw := tw_mem (i := 254) (by decide +kernel) (by decide +kernel)
theorem wd_255 : Cond.code yX1_turnTo cX1_turnTo 5 none ∈ tw := tw_mem (i := 255) (by decide +kernel) (by decide +kernel)
theorem wd_256 : Cond.methodLink RX1 93 yX2_addPlaces ∈ tw := tw_mem (i := 256) (by decide +kernel) (by decide +kernel)
theorem wd_257 : Cond.instanceMethod yX2_addPlaces ∈ tw := tw_mem (i := 257) (by decide +kernel) (by decide +kernel)
theorem wd_258 : Cond.selects RX2 yX2_addPlaces yX2_addPlaces ∈ tw := tw_mem (i := 258) (by decide +kernel) (by decide +kernel)
theorem wd_259 : Cond.code yX2_addPlaces cX2_addPlaces 5 none ∈ tw := tw_mem (i := 259) (by decide +kernel) (by decide +kernel)
theorem wd_260 : Cond.methodLink RX1 97 yX2_clear ∈ tw := tw_mem (i := 260) (by decide +kernel) (by decide +kernel)
theorem wd_261 : Cond.instanceMethod yX2_clear ∈ tw := tw_mem (i := 261) (by decide +kernel) (by decide +kernel)
theorem wd_262 : Cond.selects RX2 yX2_clear yX2_clear ∈ tw := tw_mem (i := 262) (by decide +kernel) (by decide +kernel)
theorem wd_263 : Cond.code yX2_clear cX2_clear 1 none ∈ tw := tw_mem (i := 263) (by decide +kernel) (by decide +kernel)
theorem wd_264 : Cond.methodLink RX4 270 yX1_tie ∈ tw := tw_mem (i := 264) (by decide +kernel) (by decide +kernel)
theorem wd_265 : Cond.instanceMethod yX1_tie ∈ tw := tw_mem (i := 265) (by decide +kernel) (by decide +kernel)
theorem wd_266 : Cond.selects RX1 yX1_tie yX1_tie ∈ tw := tw_mem (i := 266) (by decide +kernel) (by decide +kernel)
theorem wd_267 : Cond.code yX1_tie cX1_tie 6 none ∈ tw := tw_mem (i := 267) (by decide +kernel) (by decide +kernel)
theorem wd_268 : Cond.methodLink RX1 100 yX2_shorten ∈ tw := tw_mem (i := 268) (by decide +kernel) (by decide +kernel)
theorem wd_269 : Cond.instanceMethod yX2_shorten ∈ tw := tw_mem (i := 269) (by decide +kernel) (by decide +kernel)
theorem wd_270 : Cond.selects RX2 yX2_shorten yX2_shorten ∈ tw := tw_mem (i := 270) (by decide +kernel) (by decide +kernel)
theorem wd_271 : Cond.code yX2_shorten cX2_shorten 2 none ∈ tw := tw_mem (i := 271) (by decide +kernel) (by decide +kernel)
theorem wd_272 : Cond.methodLink RX1 63 yX1_ropesOf ∈ tw := tw_mem (i := 272) (by decide +kernel) (by decide +kernel)
theorem wd_273 : Cond.instanceMethod yX1_ropesOf ∈ tw := tw_mem (i := 273) (by decide +kernel) (by decide +kernel)
theorem wd_274 : Cond.selects RX1 yX1_ropesOf yX1_ropesOf ∈ tw := tw_mem (i := 274) (by decide +kernel) (by decide +kernel)
theorem wd_275 : Cond.code yX1_ropesOf cX1_ropesOf 2 (some .int) ∈ tw := tw_mem (i := 275) (by decide +kernel) (by decide +kernel)
theorem wd_276 : Cond.methodLink RX1 59 yX1_has ∈ tw := tw_mem (i := 276) (by decide +kernel) (by decide +kernel)
theorem wd_277 : Cond.methodLink RX1 52 yX2_get ∈ tw := tw_mem (i := 277) (by decide +kernel) (by decide +kernel)
theorem wd_279 : Cond.static yX4_bit ∈ tw := tw_mem (i := 279) (by decide +kernel) (by decide +kernel)
theorem wd_280 : Cond.code yX4_bit cX4_bit 1 (some .int) ∈ tw := tw_mem (i := 280) (by decide +kernel) (by decide +kernel)
theorem wd_281 : Cond.methodLink RX1 74 yX2_put ∈ tw := tw_mem (i := 281) (by decide +kernel) (by decide +kernel)
theorem wd_282 : Cond.instanceMethod yX2_put ∈ tw := tw_mem (i := 282) (by decide +kernel) (by decide +kernel)
theorem wd_283 : Cond.selects RX2 yX2_put yX2_put ∈ tw := tw_mem (i := 283) (by decide +kernel) (by decide +kernel)
theorem wd_284 : Cond.code yX2_put cX2_put 3 none ∈ tw := tw_mem (i := 284) (by decide +kernel) (by decide +kernel)
theorem wd_285 : Cond.methodLink RX4 135 yX1_banksWith ∈ tw := tw_mem (i := 285) (by decide +kernel) (by decide +kernel)
theorem wd_286 : Cond.instanceMethod yX1_banksWith ∈ tw := tw_mem (i := 286) (by decide +kernel) (by decide +kernel)
theorem wd_287 : Cond.selects RX1 yX1_banksWith yX1_banksWith ∈ tw := tw_mem (i := 287) (by decide +kernel) (by decide +kernel)
theorem wd_288 : Cond.code yX1_banksWith cX1_banksWith 2 (some .int) ∈ tw := tw_mem (i := 288) (by decide +kernel) (by decide +kernel)
theorem wd_289 : Cond.methodLink RX1 115 yX2_setOfAll ∈ tw := tw_mem (i := 289) (by decide +kernel) (by decide +kernel)
theorem wd_290 : Cond.instanceMethod yX2_setOfAll ∈ tw := tw_mem (i := 290) (by decide +kernel) (by decide +kernel)
theorem wd_291 : Cond.selects RX2 yX2_setOfAll yX2_setOfAll ∈ tw := tw_mem (i := 291) (by decide +kernel) (by decide +kernel)
theorem wd_292 : Cond.code yX2_setOfAll cX2_setOfAll 1 (some .int) ∈ tw := tw_mem (i := 292) (by decide +kernel) (by decide +kernel)
theorem wd_293 : Cond.methodLink RX2 34 yX2_setOf ∈ tw := tw_mem (i := 293) (by decide +kernel) (by decide +kernel)
theorem wd_294 : Cond.instanceMethod yX2_setOf ∈ tw := tw_mem (i := 294) (by decide +kernel) (by decide +kernel)
theorem wd_295 : Cond.selects RX2 yX2_setOf yX2_setOf ∈ tw := tw_mem (i := 295) (by decide +kernel) (by decide +kernel)
theorem wd_296 : Cond.code yX2_setOf cX2_setOf 5 (some .int) ∈ tw := tw_mem (i := 296) (by decide +kernel) (by decide +kernel)
theorem wd_298 : Cond.methodLink RX4 115 yJ6_bitCount_0f7a4 ∈ tw := tw_mem (i := 298) (by decide +kernel) (by decide +kernel)
theorem wd_299 : Cond.static yJ6_bitCount_0f7a4 ∈ tw := tw_mem (i := 299) (by decide +kernel) (by decide +kernel)
theorem wd_300 : Cond.code yJ6_bitCount_0f7a4 cJ6_bitCount_0f7a4 1 (some .int) ∈ tw := tw_mem (i := 300) (by decide +kernel) (by decide +kernel)
theorem wd_301 : Cond.constant RJ6 265 (1431655765) ∈ tw := tw_mem (i := 301) (by decide +kernel) (by decide +kernel)
theorem wd_302 : Cond.constant RJ6 266 (858993459) ∈ tw := tw_mem (i := 302) (by decide +kernel) (by decide +kernel)
theorem wd_303 : Cond.constant RJ6 267 (252645135) ∈ tw := tw_mem (i := 303) (by decide +kernel) (by decide +kernel)
theorem wd_304 : Cond.methodLink RL 31 yX4_cut ∈ tw := tw_mem (i := 304) (by decide +kernel) (by decide +kernel)
theorem wd_305 : Cond.instanceMethod yX4_cut ∈ tw := tw_mem (i := 305) (by decide +kernel) (by decide +kernel)
theorem wd_306 : Cond.selects RX4 yX4_cut yX4_cut ∈ tw := tw_mem (i := 306) (by decide +kernel) (by decide +kernel)
theorem wd_307 : Cond.code yX4_cut cX4_cut 3 (some .int) ∈ tw := tw_mem (i := 307) (by decide +kernel) (by decide +kernel)
theorem wd_308 : Cond.methodLink RX4 67 yX4_cutRope ∈ tw := tw_mem (i := 308) (by decide +kernel) (by decide +kernel)
theorem wd_310 : Cond.instanceMethod yX4_cutRope ∈ tw := tw_mem (i := 310) (by decide +kernel) (by decide +kernel)
theorem wd_311 : Cond.code yX4_cutRope cX4_cutRope 4 (some .int) ∈ tw := tw_mem (i := 311) (by decide +kernel) (by decide +kernel)
theorem wd_312 : Cond.methodLink RX4 148 yX1_isTied ∈ tw := tw_mem (i := 312) (by decide +kernel) (by decide +kernel)
theorem wd_313 : Cond.instanceMethod yX1_isTied ∈ tw := tw_mem (i := 313) (by decide +kernel) (by decide +kernel)
theorem wd_314 : Cond.selects RX1 yX1_isTied yX1_isTied ∈ tw := tw_mem (i := 314) (by decide +kernel) (by decide +kernel)
theorem wd_315 : Cond.code yX1_isTied cX1_isTied 3 (some .boolean) ∈ tw := tw_mem (i := 315) (by decide +kernel) (by decide +kernel)
theorem wd_316 : Cond.methodLink RX4 160 yX1_lowerOf ∈ tw := tw_mem (i := 316) (by decide +kernel) (by decide +kernel)
theorem wd_317 : Cond.instanceMethod yX1_lowerOf ∈ tw := tw_mem (i := 317) (by decide +kernel) (by decide +kernel)
theorem wd_318 : Cond.selects RX1 yX1_lowerOf yX1_lowerOf ∈ tw := tw_mem (i := 318) (by decide +kernel) (by decide +kernel)
theorem wd_319 : Cond.code yX1_lowerOf cX1_lowerOf 4 (some .int) ∈ tw := tw_mem (i := 319) (by decide +kernel) (by decide +kernel)
theorem wd_320 : Cond.methodLink RX4 273 yX1_untie ∈ tw := tw_mem (i := 320) (by decide +kernel) (by decide +kernel)
theorem wd_321 : Cond.instanceMethod yX1_untie ∈ tw := tw_mem (i := 321) (by decide +kernel) (by decide +kernel)
theorem wd_322 : Cond.selects RX1 yX1_untie yX1_untie ∈ tw := tw_mem (i := 322) (by decide +kernel) (by decide +kernel)
theorem wd_323 : Cond.code yX1_untie cX1_untie 6 none ∈ tw := tw_mem (i := 323) (by decide +kernel) (by decide +kernel)
theorem wd_324 : Cond.methodLink RX1 103 yX2_lastOf ∈ tw := tw_mem (i := 324) (by decide +kernel) (by decide +kernel)
theorem wd_325 : Cond.instanceMethod yX2_lastOf ∈ tw := tw_mem (i := 325) (by decide +kernel) (by decide +kernel)
theorem wd_326 : Cond.selects RX2 yX2_lastOf yX2_lastOf ∈ tw := tw_mem (i := 326) (by decide +kernel) (by decide +kernel)
theorem wd_327 : Cond.code yX2_lastOf cX2_lastOf 3 (some .int) ∈ tw := tw_mem (i := 327) (by decide +kernel) (by decide +kernel)
theorem wd_328 : Cond.methodLink RX1 106 yX2_dropPlaces ∈ tw := tw_mem (i := 328) (by decide +kernel) (by decide +kernel)
theorem wd_329 : Cond.instanceMethod yX2_dropPlaces ∈ tw := tw_mem (i := 329) (by decide +kernel) (by decide +kernel)
theorem wd_330 : Cond.selects RX2 yX2_dropPlaces yX2_dropPlaces ∈ tw := tw_mem (i := 330) (by decide +kernel) (by decide +kernel)
theorem wd_331 : Cond.code yX2_dropPlaces cX2_dropPlaces 5 none ∈ tw := tw_mem (i := 331) (by decide +kernel) (by decide +kernel)
theorem wd_332 : Cond.methodLink RX2 27 yX2_put ∈ tw := tw_mem (i := 332) (by decide +kernel) (by decide +kernel)
theorem wd_333 : Cond.methodLink RX2 31 yX2_shorten ∈ tw := tw_mem (i := 333) (by decide +kernel) (by decide +kernel)
theorem wd_334 : Cond.methodLink RL 37 yX4_turn ∈ tw := tw_mem (i := 334) (by decide +kernel) (by decide +kernel)
theorem wd_335 : Cond.instanceMethod yX4_turn ∈ tw := tw_mem (i := 335) (by decide +kernel) (by decide +kernel)
theorem wd_336 : Cond.selects RX4 yX4_turn yX4_turn ∈ tw := tw_mem (i := 336) (by decide +kernel) (by decide +kernel)
theorem wd_337 : Cond.code yX4_turn cX4_turn 2 (some .int) ∈ tw := tw_mem (i := 337) (by decide +kernel) (by decide +kernel)
theorem wd_338 : Cond.methodLink RX4 70 yX4_turnRound ∈ tw := tw_mem (i := 338) (by decide +kernel) (by decide +kernel)
theorem wd_340 : Cond.instanceMethod yX4_turnRound ∈ tw := tw_mem (i := 340) (by decide +kernel) (by decide +kernel)
theorem wd_341 : Cond.code yX4_turnRound cX4_turnRound 3 (some .int) ∈ tw := tw_mem (i := 341) (by decide +kernel) (by decide +kernel)
theorem wd_342 : Cond.methodLink RX4 276 yX1_countTurn ∈ tw := tw_mem (i := 342) (by decide +kernel) (by decide +kernel)
theorem wd_343 : Cond.instanceMethod yX1_countTurn ∈ tw := tw_mem (i := 343) (by decide +kernel) (by decide +kernel)
theorem wd_344 : Cond.selects RX1 yX1_countTurn yX1_countTurn ∈ tw := tw_mem (i := 344) (by decide +kernel) (by decide +kernel)
theorem wd_345 : Cond.code yX1_countTurn cX1_countTurn 1 none ∈ tw := tw_mem (i := 345) (by decide +kernel) (by decide +kernel)
theorem wd_346 : Cond.methodLink RL 43 yX4_rise ∈ tw := tw_mem (i := 346) (by decide +kernel) (by decide +kernel)
theorem wd_347 : Cond.instanceMethod yX4_rise ∈ tw := tw_mem (i := 347) (by decide +kernel) (by decide +kernel)
theorem wd_348 : Cond.selects RX4 yX4_rise yX4_rise ∈ tw := tw_mem (i := 348) (by decide +kernel) (by decide +kernel)
theorem wd_349 : Cond.code yX4_rise cX4_rise 3 (some .int) ∈ tw := tw_mem (i := 349) (by decide +kernel) (by decide +kernel)
theorem wd_350 : Cond.methodLink RX4 73 yX4_raisePart ∈ tw := tw_mem (i := 350) (by decide +kernel) (by decide +kernel)
theorem wd_352 : Cond.instanceMethod yX4_raisePart ∈ tw := tw_mem (i := 352) (by decide +kernel) (by decide +kernel)
theorem wd_353 : Cond.code yX4_raisePart cX4_raisePart 5 (some .int) ∈ tw := tw_mem (i := 353) (by decide +kernel) (by decide +kernel)
theorem wd_354 : Cond.methodLink RX4 279 yX1_raiseAll ∈ tw := tw_mem (i := 354) (by decide +kernel) (by decide +kernel)
theorem wd_355 : Cond.instanceMethod yX1_raiseAll ∈ tw := tw_mem (i := 355) (by decide +kernel) (by decide +kernel)
theorem wd_356 : Cond.selects RX1 yX1_raiseAll yX1_raiseAll ∈ tw := tw_mem (i := 356) (by decide +kernel) (by decide +kernel)
theorem wd_357 : Cond.code yX1_raiseAll cX1_raiseAll 7 (some .int) ∈ tw := tw_mem (i := 357) (by decide +kernel) (by decide +kernel)
theorem wd_358 : Cond.methodLink RX1 78 Lib.Math.min.name ∈ tw := tw_mem (i := 358) (by decide +kernel) (by decide +kernel)
theorem wd_359 : Cond.methodLink RX1 84 Lib.Math.max.name ∈ tw := tw_mem (i := 359) (by decide +kernel) (by decide +kernel)
theorem wd_360 : Cond.static Lib.Math.max.name ∈ tw := tw_mem (i := 360) (by decide +kernel) (by decide +kernel)
theorem wd_361 : Cond.code Lib.Math.max.name Lib.Math.max.code 2 (some .int) ∈ tw := tw_mem (i := 361) (by decide +kernel) (by decide +kernel)
theorem wd_362 : Cond.methodLink RL 56 yX4_read ∈ tw := tw_mem (i := 362) (by decide +kernel) (by decide +kernel)
theorem wd_363 : Cond.instanceMethod yX4_read ∈ tw := tw_mem (i := 363) (by decide +kernel) (by decide +kernel)
theorem wd_364 : Cond.selects RX4 yX4_read yX4_read ∈ tw := tw_mem (i := 364) (by decide +kernel) (by decide +kernel)
theorem wd_365 : Cond.code yX4_read cX4_read 5 (some .int) ∈ tw := tw_mem (i := 365) (by decide +kernel) (by decide +kernel)
theorem wd_366 : Cond.methodLink RX4 183 yX3_faultIn ∈ tw := tw_mem (i := 366) (by decide +kernel) (by decide +kernel)
theorem wd_367 : Cond.instanceMethod yX3_faultIn ∈ tw := tw_mem (i := 367) (by decide +kernel) (by decide +kernel)
theorem wd_368 : Cond.selects RX3 yX3_faultIn yX3_faultIn ∈ tw := tw_mem (i := 368) (by decide +kernel) (by decide +kernel)
theorem wd_369 : Cond.code yX3_faultIn cX3_faultIn 3 (some .int) ∈ tw := tw_mem (i := 369) (by decide +kernel) (by decide +kernel)
theorem wd_370 : Cond.methodLink RX3 34 yX2_clear ∈ tw := tw_mem (i := 370) (by decide +kernel) (by decide +kernel)
theorem wd_371 : Cond.methodLink RX3 41 yX3_takeCommand ∈ tw := tw_mem (i := 371) (by decide +kernel) (by decide +kernel)
theorem wd_373 : Cond.instanceMethod yX3_takeCommand ∈ tw := tw_mem (i := 373) (by decide +kernel) (by decide +kernel)
theorem wd_374 : Cond.code yX3_takeCommand cX3_takeCommand 6 (some .boolean) ∈ tw := tw_mem (i := 374) (by decide +kernel) (by decide +kernel)
theorem wd_375 : Cond.methodLink RX3 30 yX2_get ∈ tw := tw_mem (i := 375) (by decide +kernel) (by decide +kernel)
theorem wd_376 : Cond.methodLink RX3 45 yX3_isKind ∈ tw := tw_mem (i := 376) (by decide +kernel) (by decide +kernel)
theorem wd_377 : Cond.static yX3_isKind ∈ tw := tw_mem (i := 377) (by decide +kernel) (by decide +kernel)
theorem wd_378 : Cond.code yX3_isKind cX3_isKind 1 (some .boolean) ∈ tw := tw_mem (i := 378) (by decide +kernel) (by decide +kernel)
theorem wd_379 : Cond.methodLink RX3 49 yX3_takeNumber ∈ tw := tw_mem (i := 379) (by decide +kernel) (by decide +kernel)
theorem wd_381 : Cond.instanceMethod yX3_takeNumber ∈ tw := tw_mem (i := 381) (by decide +kernel) (by decide +kernel)
theorem wd_382 : Cond.code yX3_takeNumber cX3_takeNumber 2 (some .boolean) ∈ tw := tw_mem (i := 382) (by decide +kernel) (by decide +kernel)
theorem wd_383 : Cond.methodLink RX3 62 yX3_isDigit ∈ tw := tw_mem (i := 383) (by decide +kernel) (by decide +kernel)
theorem wd_384 : Cond.static yX3_isDigit ∈ tw := tw_mem (i := 384) (by decide +kernel) (by decide +kernel)
theorem wd_385 : Cond.code yX3_isDigit cX3_isDigit 1 (some .boolean) ∈ tw := tw_mem (i := 385) (by decide +kernel) (by decide +kernel)
theorem wd_386 : Cond.methodLink RX3 55 yX3_fits ∈ tw := tw_mem (i := 386) (by decide +kernel) (by decide +kernel)
theorem wd_387 : Cond.static yX3_fits ∈ tw := tw_mem (i := 387) (by decide +kernel) (by decide +kernel)
theorem wd_388 : Cond.code yX3_fits cX3_fits 2 (some .boolean) ∈ tw := tw_mem (i := 388) (by decide +kernel) (by decide +kernel)
theorem wd_389 : Cond.methodLink RX3 59 yX2_add ∈ tw := tw_mem (i := 389) (by decide +kernel) (by decide +kernel)
theorem wd_390 : Cond.methodLink RX3 26 yX2_length ∈ tw := tw_mem (i := 390) (by decide +kernel) (by decide +kernel)
theorem wd_391 : Cond.methodLink RX4 174 yX2_clear ∈ tw := tw_mem (i := 391) (by decide +kernel) (by decide +kernel)
theorem wd_392 : Cond.methodLink RX4 187 yX3_commands ∈ tw := tw_mem (i := 392) (by decide +kernel) (by decide +kernel)
theorem wd_393 : Cond.instanceMethod yX3_commands ∈ tw := tw_mem (i := 393) (by decide +kernel) (by decide +kernel)
theorem wd_394 : Cond.selects RX3 yX3_commands yX3_commands ∈ tw := tw_mem (i := 394) (by decide +kernel) (by decide +kernel)
theorem wd_395 : Cond.code yX3_commands cX3_commands 1 (some .int) ∈ tw := tw_mem (i := 395) (by decide +kernel) (by decide +kernel)
theorem wd_396 : Cond.methodLink RX4 190 yX4_carryOut ∈ tw := tw_mem (i := 396) (by decide +kernel) (by decide +kernel)
theorem wd_398 : Cond.instanceMethod yX4_carryOut ∈ tw := tw_mem (i := 398) (by decide +kernel) (by decide +kernel)
theorem wd_399 : Cond.code yX4_carryOut cX4_carryOut 4 (some .int) ∈ tw := tw_mem (i := 399) (by decide +kernel) (by decide +kernel)
theorem wd_400 : Cond.methodLink RX4 282 yX3_firstOf ∈ tw := tw_mem (i := 400) (by decide +kernel) (by decide +kernel)
theorem wd_401 : Cond.instanceMethod yX3_firstOf ∈ tw := tw_mem (i := 401) (by decide +kernel) (by decide +kernel)
theorem wd_402 : Cond.selects RX3 yX3_firstOf yX3_firstOf ∈ tw := tw_mem (i := 402) (by decide +kernel) (by decide +kernel)
theorem wd_403 : Cond.code yX3_firstOf cX3_firstOf 2 (some .int) ∈ tw := tw_mem (i := 403) (by decide +kernel) (by decide +kernel)
theorem wd_404 : Cond.methodLink RX4 283 yX3_secondOf ∈ tw := tw_mem (i := 404) (by decide +kernel) (by decide +kernel)
theorem wd_405 : Cond.instanceMethod yX3_secondOf ∈ tw := tw_mem (i := 405) (by decide +kernel) (by decide +kernel)
theorem wd_406 : Cond.selects RX3 yX3_secondOf yX3_secondOf ∈ tw := tw_mem (i := 406) (by decide +kernel) (by decide +kernel)
theorem wd_407 : Cond.code yX3_secondOf cX3_secondOf 2 (some .int) ∈ tw := tw_mem (i := 407) (by decide +kernel) (by decide +kernel)
theorem wd_408 : Cond.methodLink RX4 286 yX3_kindOf ∈ tw := tw_mem (i := 408) (by decide +kernel) (by decide +kernel)
theorem wd_409 : Cond.instanceMethod yX3_kindOf ∈ tw := tw_mem (i := 409) (by decide +kernel) (by decide +kernel)
theorem wd_410 : Cond.selects RX3 yX3_kindOf yX3_kindOf ∈ tw := tw_mem (i := 410) (by decide +kernel) (by decide +kernel)
theorem wd_411 : Cond.code yX3_kindOf cX3_kindOf 2 (some .int) ∈ tw := tw_mem (i := 411) (by decide +kernel) (by decide +kernel)
theorem wd_412 : Cond.methodLink RX4 60 yX4_setWeight ∈ tw := tw_mem (i := 412) (by decide +kernel) (by decide +kernel)
theorem wd_414 : Cond.instanceMethod yX4_setWeight ∈ tw := tw_mem (i := 414) (by decide +kernel) (by decide +kernel)
theorem wd_415 : Cond.code yX4_setWeight cX4_setWeight 4 (some .int) ∈ tw := tw_mem (i := 415) (by decide +kernel) (by decide +kernel)
theorem wd_416 : Cond.methodLink RX4 93 yX1_weightOf ∈ tw := tw_mem (i := 416) (by decide +kernel) (by decide +kernel)
theorem wd_417 : Cond.instanceMethod yX1_weightOf ∈ tw := tw_mem (i := 417) (by decide +kernel) (by decide +kernel)
theorem wd_418 : Cond.selects RX1 yX1_weightOf yX1_weightOf ∈ tw := tw_mem (i := 418) (by decide +kernel) (by decide +kernel)
theorem wd_419 : Cond.code yX1_weightOf cX1_weightOf 2 (some .int) ∈ tw := tw_mem (i := 419) (by decide +kernel) (by decide +kernel)
theorem wd_420 : Cond.methodLink RX4 263 yX1_putWeight ∈ tw := tw_mem (i := 420) (by decide +kernel) (by decide +kernel)
theorem wd_421 : Cond.instanceMethod yX1_putWeight ∈ tw := tw_mem (i := 421) (by decide +kernel) (by decide +kernel)
theorem wd_422 : Cond.selects RX1 yX1_putWeight yX1_putWeight ∈ tw := tw_mem (i := 422) (by decide +kernel) (by decide +kernel)
theorem wd_423 : Cond.code yX1_putWeight cX1_putWeight 3 none ∈ tw := tw_mem (i := 423) (by decide +kernel) (by decide +kernel)
theorem wd_424 : Cond.methodLink RX4 193 yX0_takeBack ∈ tw := tw_mem (i := 424) (by decide +kernel) (by decide +kernel)
theorem wd_425 : Cond.instanceMethod yX0_takeBack ∈ tw := tw_mem (i := 425) (by decide +kernel) (by decide +kernel)
theorem wd_426 : Cond.selects RX0 yX0_takeBack yX0_takeBack ∈ tw := tw_mem (i := 426) (by decide +kernel) (by decide +kernel)
theorem wd_427 : Cond.code yX0_takeBack cX0_takeBack 2 none ∈ tw := tw_mem (i := 427) (by decide +kernel) (by decide +kernel)
theorem wd_428 : Cond.methodLink RL 65 yX4_undo ∈ tw := tw_mem (i := 428) (by decide +kernel) (by decide +kernel)
theorem wd_429 : Cond.instanceMethod yX4_undo ∈ tw := tw_mem (i := 429) (by decide +kernel) (by decide +kernel)
theorem wd_430 : Cond.selects RX4 yX4_undo yX4_undo ∈ tw := tw_mem (i := 430) (by decide +kernel) (by decide +kernel)
theorem wd_431 : Cond.code yX4_undo cX4_undo 1 (some .int) ∈ tw := tw_mem (i := 431) (by decide +kernel) (by decide +kernel)
theorem wd_432 : Cond.methodLink RX4 243 yX0_goBack ∈ tw := tw_mem (i := 432) (by decide +kernel) (by decide +kernel)
theorem wd_433 : Cond.instanceMethod yX0_goBack ∈ tw := tw_mem (i := 433) (by decide +kernel) (by decide +kernel)
theorem wd_434 : Cond.selects RX0 yX0_goBack yX0_goBack ∈ tw := tw_mem (i := 434) (by decide +kernel) (by decide +kernel)
theorem wd_435 : Cond.code yX0_goBack cX0_goBack 2 (some .boolean) ∈ tw := tw_mem (i := 435) (by decide +kernel) (by decide +kernel)
theorem wd_436 : Cond.methodLink RX0 35 yX0_takeBack ∈ tw := tw_mem (i := 436) (by decide +kernel) (by decide +kernel)
theorem wd_437 : Cond.methodLink RX4 229 yX0_count ∈ tw := tw_mem (i := 437) (by decide +kernel) (by decide +kernel)
theorem wd_438 : Cond.instanceMethod yX0_count ∈ tw := tw_mem (i := 438) (by decide +kernel) (by decide +kernel)
theorem wd_439 : Cond.selects RX0 yX0_count yX0_count ∈ tw := tw_mem (i := 439) (by decide +kernel) (by decide +kernel)
theorem wd_440 : Cond.code yX0_count cX0_count 1 (some .int) ∈ tw := tw_mem (i := 440) (by decide +kernel) (by decide +kernel)
theorem wd_441 : Cond.methodLink RL 59 yX4_save ∈ tw := tw_mem (i := 441) (by decide +kernel) (by decide +kernel)
theorem wd_442 : Cond.instanceMethod yX4_save ∈ tw := tw_mem (i := 442) (by decide +kernel) (by decide +kernel)
theorem wd_443 : Cond.selects RX4 yX4_save yX4_save ∈ tw := tw_mem (i := 443) (by decide +kernel) (by decide +kernel)
theorem wd_444 : Cond.code yX4_save cX4_save 1 (some .int) ∈ tw := tw_mem (i := 444) (by decide +kernel) (by decide +kernel)
theorem wd_445 : Cond.methodLink RX4 247 yX1_copyFrom ∈ tw := tw_mem (i := 445) (by decide +kernel) (by decide +kernel)
theorem wd_446 : Cond.methodLink RL 62 yX4_restore ∈ tw := tw_mem (i := 446) (by decide +kernel) (by decide +kernel)
theorem wd_447 : Cond.instanceMethod yX4_restore ∈ tw := tw_mem (i := 447) (by decide +kernel) (by decide +kernel)
theorem wd_448 : Cond.selects RX4 yX4_restore yX4_restore ∈ tw := tw_mem (i := 448) (by decide +kernel) (by decide +kernel)
theorem wd_449 : Cond.code yX4_restore cX4_restore 1 (some .int) ∈ tw := tw_mem (i := 449) (by decide +kernel) (by decide +kernel)
theorem wd_450 : Cond.methodLink RX4 254 yX0_forget ∈ tw := tw_mem (i := 450) (by decide +kernel) (by decide +kernel)
theorem wd_451 : Cond.instanceMethod yX0_forget ∈ tw := tw_mem (i := 451) (by decide +kernel) (by decide +kernel)
theorem wd_452 : Cond.selects RX0 yX0_forget yX0_forget ∈ tw := tw_mem (i := 452) (by decide +kernel) (by decide +kernel)
theorem wd_453 : Cond.code yX0_forget cX0_forget 1 none ∈ tw := tw_mem (i := 453) (by decide +kernel) (by decide +kernel)
theorem wd_454 : Cond.methodLink RL 164 yL_cell ∈ tw := tw_mem (i := 454) (by decide +kernel) (by decide +kernel)
theorem wd_455 : Cond.static yL_cell ∈ tw := tw_mem (i := 455) (by decide +kernel) (by decide +kernel)
theorem wd_456 : Cond.code yL_cell cL_cell 2 (some .int) ∈ tw := tw_mem (i := 456) (by decide +kernel) (by decide +kernel)
theorem wd_457 : Cond.constant RL 7 (65535) ∈ tw := tw_mem (i := 457) (by decide +kernel) (by decide +kernel)
theorem wd_458 : Cond.methodLink RL 52 yL_write ∈ tw := tw_mem (i := 458) (by decide +kernel) (by decide +kernel)
theorem wd_459 : Cond.static yL_write ∈ tw := tw_mem (i := 459) (by decide +kernel) (by decide +kernel)
theorem wd_460 : Cond.code yL_write cL_write 3 (some (.object "FerryRounds")) ∈ tw := tw_mem (i := 460) (by decide +kernel) (by decide +kernel)
theorem wd_461 : Cond.methodLink RL 8 yJ0_length_8abf5 ∈ tw := tw_mem (i := 461) (by decide +kernel) (by decide +kernel)
theorem wd_462 : Cond.instanceMethod yJ0_length_8abf5 ∈ tw := tw_mem (i := 462) (by decide +kernel) (by decide +kernel)
theorem wd_463 : Cond.selects RJ0 yJ0_length_8abf5 yJ0_length_8abf5 ∈ tw := tw_mem (i := 463) (by decide +kernel) (by decide +kernel)
theorem wd_464 : Cond.code yJ0_length_8abf5 cJ0_length_8abf5 1 (some .int) ∈ tw := tw_mem (i := 464) (by decide +kernel) (by decide +kernel)
theorem wd_465 : Cond.methodLink RJ0 335 yJ0_coder_7d493 ∈ tw := tw_mem (i := 465) (by decide +kernel) (by decide +kernel)
theorem wd_466 : Cond.instanceMethod yJ0_coder_7d493 ∈ tw := tw_mem (i := 466) (by decide +kernel) (by decide +kernel)
theorem wd_467 : Cond.selects RJ0 yJ0_coder_7d493 yJ0_coder_7d493 ∈ tw := tw_mem (i := 467) (by decide +kernel) (by decide +kernel)
theorem wd_468 : Cond.code yJ0_coder_7d493 cJ0_coder_7d493 1 (some .byte) ∈ tw := tw_mem (i := 468) (by decide +kernel) (by decide +kernel)
theorem wd_469 : Cond.fieldLink RJ0 38 "java/lang/String" "COMPACT_STRINGS" "Z" ∈ tw := tw_mem (i := 469) (by decide +kernel) (by decide +kernel)
theorem wd_471 : Cond.methodLink RL 14 yJ0_charAt_5068e ∈ tw := tw_mem (i := 471) (by decide +kernel) (by decide +kernel)
theorem wd_472 : Cond.instanceMethod yJ0_charAt_5068e ∈ tw := tw_mem (i := 472) (by decide +kernel) (by decide +kernel)
theorem wd_473 : Cond.selects RJ0 yJ0_charAt_5068e yJ0_charAt_5068e ∈ tw := tw_mem (i := 473) (by decide +kernel) (by decide +kernel)
theorem wd_474 : Cond.code yJ0_charAt_5068e cJ0_charAt_5068e 2 (some .char) ∈ tw := tw_mem (i := 474) (by decide +kernel) (by decide +kernel)
theorem wd_475 : Cond.methodLink RJ0 492 yJ0_isLatin1_aae02 ∈ tw := tw_mem (i := 475) (by decide +kernel) (by decide +kernel)
theorem wd_476 : Cond.instanceMethod yJ0_isLatin1_aae02 ∈ tw := tw_mem (i := 476) (by decide +kernel) (by decide +kernel)
theorem wd_477 : Cond.selects RJ0 yJ0_isLatin1_aae02 yJ0_isLatin1_aae02 ∈ tw := tw_mem (i := 477) (by decide +kernel) (by decide +kernel)
theorem wd_478 : Cond.code yJ0_isLatin1_aae02 cJ0_isLatin1_aae02 1 (some .boolean) ∈ tw := tw_mem (i := 478) (by decide +kernel) (by decide +kernel)
theorem wd_479 : Cond.methodLink RJ0 495 yJ1_charAt_3b067 ∈ tw := tw_mem (i := 479) (by decide +kernel) (by decide +kernel)
theorem wd_480 : Cond.static yJ1_charAt_3b067 ∈ tw := tw_mem (i := 480) (by decide +kernel) (by decide +kernel)
theorem wd_481 : Cond.code yJ1_charAt_3b067 cJ1_charAt_3b067 2 (some .char) ∈ tw := tw_mem (i := 481) (by decide +kernel) (by decide +kernel)
theorem wd_482 : Cond.methodLink RJ1 9 yJ0_checkIndex_df160 ∈ tw := tw_mem (i := 482) (by decide +kernel) (by decide +kernel)
theorem wd_483 : Cond.static yJ0_checkIndex_df160 ∈ tw := tw_mem (i := 483) (by decide +kernel) (by decide +kernel)
theorem wd_484 : Cond.code yJ0_checkIndex_df160 cJ0_checkIndex_df160 2 none ∈ tw := tw_mem (i := 484) (by decide +kernel) (by decide +kernel)
theorem wd_485 : Cond.fieldLink RJ0 1053 "jdk/internal/util/Preconditions" "SIOOBE_FORMATTER" "Ljava/util/function/BiFunction;" ∈ tw := tw_mem (i := 485) (by decide +kernel) (by decide +kernel)
theorem wd_487 : Cond.methodLink RJ0 1059 yJ3_checkIndex_8e157 ∈ tw := tw_mem (i := 487) (by decide +kernel) (by decide +kernel)
theorem wd_488 : Cond.static yJ3_checkIndex_8e157 ∈ tw := tw_mem (i := 488) (by decide +kernel) (by decide +kernel)
theorem wd_489 : Cond.code yJ3_checkIndex_8e157 cJ3_checkIndex_8e157 3 (some .int) ∈ tw := tw_mem (i := 489) (by decide +kernel) (by decide +kernel)
theorem wd_509 : Cond.methodLink RL 18 yX4_append ∈ tw := tw_mem (i := 509) (by decide +kernel) (by decide +kernel)
theorem wd_510 : Cond.instanceMethod yX4_append ∈ tw := tw_mem (i := 510) (by decide +kernel) (by decide +kernel)
theorem wd_511 : Cond.selects RX4 yX4_append yX4_append ∈ tw := tw_mem (i := 511) (by decide +kernel) (by decide +kernel)
theorem wd_512 : Cond.code yX4_append cX4_append 2 (some .int) ∈ tw := tw_mem (i := 512) (by decide +kernel) (by decide +kernel)
theorem wd_513 : Cond.methodLink RX4 138 yX2_length ∈ tw := tw_mem (i := 513) (by decide +kernel) (by decide +kernel)
theorem wd_514 : Cond.methodLink RX4 180 yX2_add ∈ tw := tw_mem (i := 514) (by decide +kernel) (by decide +kernel)
theorem wd_515 : Cond.methodLink RL 168 yL_act ∈ tw := tw_mem (i := 515) (by decide +kernel) (by decide +kernel)
theorem wd_516 : Cond.static yL_act ∈ tw := tw_mem (i := 516) (by decide +kernel) (by decide +kernel)
theorem wd_517 : Cond.code yL_act cL_act 6 (some .int) ∈ tw := tw_mem (i := 517) (by decide +kernel) (by decide +kernel)
theorem wd_518 : Cond.methodLink RL 34 yX4_bankOf ∈ tw := tw_mem (i := 518) (by decide +kernel) (by decide +kernel)
theorem wd_519 : Cond.instanceMethod yX4_bankOf ∈ tw := tw_mem (i := 519) (by decide +kernel) (by decide +kernel)
theorem wd_520 : Cond.selects RX4 yX4_bankOf yX4_bankOf ∈ tw := tw_mem (i := 520) (by decide +kernel) (by decide +kernel)
theorem wd_521 : Cond.code yX4_bankOf cX4_bankOf 3 (some .int) ∈ tw := tw_mem (i := 521) (by decide +kernel) (by decide +kernel)
theorem wd_522 : Cond.methodLink RX4 99 yX1_depthOf ∈ tw := tw_mem (i := 522) (by decide +kernel) (by decide +kernel)
theorem wd_523 : Cond.instanceMethod yX1_depthOf ∈ tw := tw_mem (i := 523) (by decide +kernel) (by decide +kernel)
theorem wd_524 : Cond.selects RX1 yX1_depthOf yX1_depthOf ∈ tw := tw_mem (i := 524) (by decide +kernel) (by decide +kernel)
theorem wd_525 : Cond.code yX1_depthOf cX1_depthOf 2 (some .int) ∈ tw := tw_mem (i := 525) (by decide +kernel) (by decide +kernel)
theorem wd_526 : Cond.methodLink RX1 121 yX1_aboveOf ∈ tw := tw_mem (i := 526) (by decide +kernel) (by decide +kernel)
theorem wd_527 : Cond.instanceMethod yX1_aboveOf ∈ tw := tw_mem (i := 527) (by decide +kernel) (by decide +kernel)
theorem wd_528 : Cond.selects RX1 yX1_aboveOf yX1_aboveOf ∈ tw := tw_mem (i := 528) (by decide +kernel) (by decide +kernel)
theorem wd_529 : Cond.code yX1_aboveOf cX1_aboveOf 5 (some .int) ∈ tw := tw_mem (i := 529) (by decide +kernel) (by decide +kernel)
theorem wd_530 : Cond.methodLink RX1 118 yX2_setOf ∈ tw := tw_mem (i := 530) (by decide +kernel) (by decide +kernel)
theorem wd_531 : Cond.methodLink RX1 66 yJ6_bitCount_0f7a4 ∈ tw := tw_mem (i := 531) (by decide +kernel) (by decide +kernel)
theorem wd_532 : Cond.methodLink RX4 102 yX1_roundOf ∈ tw := tw_mem (i := 532) (by decide +kernel) (by decide +kernel)
theorem wd_533 : Cond.methodLink RX4 106 yX2_firstOf ∈ tw := tw_mem (i := 533) (by decide +kernel) (by decide +kernel)
theorem wd_534 : Cond.methodLink RX4 109 yX2_lastOf ∈ tw := tw_mem (i := 534) (by decide +kernel) (by decide +kernel)
theorem wd_535 : Cond.methodLink RX4 112 yX1_ropesOf ∈ tw := tw_mem (i := 535) (by decide +kernel) (by decide +kernel)
theorem wd_536 : Cond.methodLink RX4 120 yX1_justAbove ∈ tw := tw_mem (i := 536) (by decide +kernel) (by decide +kernel)
theorem wd_537 : Cond.instanceMethod yX1_justAbove ∈ tw := tw_mem (i := 537) (by decide +kernel) (by decide +kernel)
theorem wd_538 : Cond.selects RX1 yX1_justAbove yX1_justAbove ∈ tw := tw_mem (i := 538) (by decide +kernel) (by decide +kernel)
theorem wd_539 : Cond.code yX1_justAbove cX1_justAbove 4 (some .int) ∈ tw := tw_mem (i := 539) (by decide +kernel) (by decide +kernel)
theorem wd_540 : Cond.methodLink RX4 123 yX1_belowOf ∈ tw := tw_mem (i := 540) (by decide +kernel) (by decide +kernel)
theorem wd_541 : Cond.instanceMethod yX1_belowOf ∈ tw := tw_mem (i := 541) (by decide +kernel) (by decide +kernel)
theorem wd_542 : Cond.selects RX1 yX1_belowOf yX1_belowOf ∈ tw := tw_mem (i := 542) (by decide +kernel) (by decide +kernel)
theorem wd_543 : Cond.code yX1_belowOf cX1_belowOf 3 (some .int) ∈ tw := tw_mem (i := 543) (by decide +kernel) (by decide +kernel)
theorem wd_544 : Cond.methodLink RX4 126 yX1_weightOfAll ∈ tw := tw_mem (i := 544) (by decide +kernel) (by decide +kernel)
theorem wd_545 : Cond.instanceMethod yX1_weightOfAll ∈ tw := tw_mem (i := 545) (by decide +kernel) (by decide +kernel)
theorem wd_546 : Cond.selects RX1 yX1_weightOfAll yX1_weightOfAll ∈ tw := tw_mem (i := 546) (by decide +kernel) (by decide +kernel)
theorem wd_547 : Cond.code yX1_weightOfAll cX1_weightOfAll 4 (some .int) ∈ tw := tw_mem (i := 547) (by decide +kernel) (by decide +kernel)
theorem wd_548 : Cond.methodLink RL 40 yX4_weigh ∈ tw := tw_mem (i := 548) (by decide +kernel) (by decide +kernel)
theorem wd_549 : Cond.instanceMethod yX4_weigh ∈ tw := tw_mem (i := 549) (by decide +kernel) (by decide +kernel)
theorem wd_550 : Cond.selects RX4 yX4_weigh yX4_weigh ∈ tw := tw_mem (i := 550) (by decide +kernel) (by decide +kernel)
theorem wd_551 : Cond.code yX4_weigh cX4_weigh 3 (some .int) ∈ tw := tw_mem (i := 551) (by decide +kernel) (by decide +kernel)
theorem wd_552 : Cond.fieldLink RL 46 "FerryRoundsLaw" "TEXTS" "[Ljava/lang/String;" ∈ tw := tw_mem (i := 552) (by decide +kernel) (by decide +kernel)
theorem wd_554 : Cond.methodLink RL 156 yL_digest ∈ tw := tw_mem (i := 554) (by decide +kernel) (by decide +kernel)
theorem wd_555 : Cond.static yL_digest ∈ tw := tw_mem (i := 555) (by decide +kernel) (by decide +kernel)
theorem wd_556 : Cond.code yL_digest cL_digest 5 (some .long) ∈ tw := tw_mem (i := 556) (by decide +kernel) (by decide +kernel)
theorem wd_557 : Cond.constantLong RL 68 (7) ∈ tw := tw_mem (i := 557) (by decide +kernel) (by decide +kernel)
theorem wd_558 : Cond.constantLong RL 70 (31) ∈ tw := tw_mem (i := 558) (by decide +kernel) (by decide +kernel)
theorem wd_559 : Cond.methodLink RL 72 yX4_account ∈ tw := tw_mem (i := 559) (by decide +kernel) (by decide +kernel)
theorem wd_560 : Cond.instanceMethod yX4_account ∈ tw := tw_mem (i := 560) (by decide +kernel) (by decide +kernel)
theorem wd_561 : Cond.selects RX4 yX4_account yX4_account ∈ tw := tw_mem (i := 561) (by decide +kernel) (by decide +kernel)
theorem wd_562 : Cond.code yX4_account cX4_account 2 (some .int) ∈ tw := tw_mem (i := 562) (by decide +kernel) (by decide +kernel)
theorem wd_563 : Cond.methodLink RX4 208 yX1_ropes ∈ tw := tw_mem (i := 563) (by decide +kernel) (by decide +kernel)
theorem wd_564 : Cond.instanceMethod yX1_ropes ∈ tw := tw_mem (i := 564) (by decide +kernel) (by decide +kernel)
theorem wd_565 : Cond.selects RX1 yX1_ropes yX1_ropes ∈ tw := tw_mem (i := 565) (by decide +kernel) (by decide +kernel)
theorem wd_566 : Cond.code yX1_ropes cX1_ropes 3 (some .int) ∈ tw := tw_mem (i := 566) (by decide +kernel) (by decide +kernel)
theorem wd_567 : Cond.methodLink RX4 211 yX1_parts ∈ tw := tw_mem (i := 567) (by decide +kernel) (by decide +kernel)
theorem wd_568 : Cond.instanceMethod yX1_parts ∈ tw := tw_mem (i := 568) (by decide +kernel) (by decide +kernel)
theorem wd_569 : Cond.selects RX1 yX1_parts yX1_parts ∈ tw := tw_mem (i := 569) (by decide +kernel) (by decide +kernel)
theorem wd_570 : Cond.code yX1_parts cX1_parts 3 (some .int) ∈ tw := tw_mem (i := 570) (by decide +kernel) (by decide +kernel)
theorem wd_571 : Cond.methodLink RX1 112 yX1_isRoot ∈ tw := tw_mem (i := 571) (by decide +kernel) (by decide +kernel)
theorem wd_572 : Cond.instanceMethod yX1_isRoot ∈ tw := tw_mem (i := 572) (by decide +kernel) (by decide +kernel)
theorem wd_573 : Cond.selects RX1 yX1_isRoot yX1_isRoot ∈ tw := tw_mem (i := 573) (by decide +kernel) (by decide +kernel)
theorem wd_574 : Cond.code yX1_isRoot cX1_isRoot 2 (some .boolean) ∈ tw := tw_mem (i := 574) (by decide +kernel) (by decide +kernel)
theorem wd_575 : Cond.methodLink RX4 214 yX1_allBanks ∈ tw := tw_mem (i := 575) (by decide +kernel) (by decide +kernel)
theorem wd_576 : Cond.instanceMethod yX1_allBanks ∈ tw := tw_mem (i := 576) (by decide +kernel) (by decide +kernel)
theorem wd_577 : Cond.selects RX1 yX1_allBanks yX1_allBanks ∈ tw := tw_mem (i := 577) (by decide +kernel) (by decide +kernel)
theorem wd_578 : Cond.code yX1_allBanks cX1_allBanks 1 (some .int) ∈ tw := tw_mem (i := 578) (by decide +kernel) (by decide +kernel)
theorem wd_579 : Cond.methodLink RX4 217 yX1_places ∈ tw := tw_mem (i := 579) (by decide +kernel) (by decide +kernel)
theorem wd_580 : Cond.instanceMethod yX1_places ∈ tw := tw_mem (i := 580) (by decide +kernel) (by decide +kernel)
theorem wd_581 : Cond.selects RX1 yX1_places yX1_places ∈ tw := tw_mem (i := 581) (by decide +kernel) (by decide +kernel)
theorem wd_582 : Cond.code yX1_places cX1_places 3 (some .int) ∈ tw := tw_mem (i := 582) (by decide +kernel) (by decide +kernel)
theorem wd_583 : Cond.methodLink RX4 220 yX1_joinsSoFar ∈ tw := tw_mem (i := 583) (by decide +kernel) (by decide +kernel)
theorem wd_584 : Cond.instanceMethod yX1_joinsSoFar ∈ tw := tw_mem (i := 584) (by decide +kernel) (by decide +kernel)
theorem wd_585 : Cond.selects RX1 yX1_joinsSoFar yX1_joinsSoFar ∈ tw := tw_mem (i := 585) (by decide +kernel) (by decide +kernel)
theorem wd_586 : Cond.code yX1_joinsSoFar cX1_joinsSoFar 1 (some .int) ∈ tw := tw_mem (i := 586) (by decide +kernel) (by decide +kernel)
theorem wd_587 : Cond.methodLink RX4 223 yX1_cutsSoFar ∈ tw := tw_mem (i := 587) (by decide +kernel) (by decide +kernel)
theorem wd_588 : Cond.instanceMethod yX1_cutsSoFar ∈ tw := tw_mem (i := 588) (by decide +kernel) (by decide +kernel)
theorem wd_589 : Cond.selects RX1 yX1_cutsSoFar yX1_cutsSoFar ∈ tw := tw_mem (i := 589) (by decide +kernel) (by decide +kernel)
theorem wd_590 : Cond.code yX1_cutsSoFar cX1_cutsSoFar 1 (some .int) ∈ tw := tw_mem (i := 590) (by decide +kernel) (by decide +kernel)
theorem wd_591 : Cond.methodLink RX4 226 yX1_turnsSoFar ∈ tw := tw_mem (i := 591) (by decide +kernel) (by decide +kernel)
theorem wd_592 : Cond.instanceMethod yX1_turnsSoFar ∈ tw := tw_mem (i := 592) (by decide +kernel) (by decide +kernel)
theorem wd_593 : Cond.selects RX1 yX1_turnsSoFar yX1_turnsSoFar ∈ tw := tw_mem (i := 593) (by decide +kernel) (by decide +kernel)
theorem wd_594 : Cond.code yX1_turnsSoFar cX1_turnsSoFar 1 (some .int) ∈ tw := tw_mem (i := 594) (by decide +kernel) (by decide +kernel)
theorem wd_595 : Cond.methodLink RX4 142 yX1_greatestDepth ∈ tw := tw_mem (i := 595) (by decide +kernel) (by decide +kernel)
theorem wd_596 : Cond.instanceMethod yX1_greatestDepth ∈ tw := tw_mem (i := 596) (by decide +kernel) (by decide +kernel)
theorem wd_597 : Cond.selects RX1 yX1_greatestDepth yX1_greatestDepth ∈ tw := tw_mem (i := 597) (by decide +kernel) (by decide +kernel)
theorem wd_598 : Cond.code yX1_greatestDepth cX1_greatestDepth 4 (some .int) ∈ tw := tw_mem (i := 598) (by decide +kernel) (by decide +kernel)
theorem wd_599 : Cond.methodLink RX1 127 yX1_depthOf ∈ tw := tw_mem (i := 599) (by decide +kernel) (by decide +kernel)
theorem wd_600 : Cond.methodLink RL 75 yX4_partOf ∈ tw := tw_mem (i := 600) (by decide +kernel) (by decide +kernel)
theorem wd_601 : Cond.instanceMethod yX4_partOf ∈ tw := tw_mem (i := 601) (by decide +kernel) (by decide +kernel)
theorem wd_602 : Cond.selects RX4 yX4_partOf yX4_partOf ∈ tw := tw_mem (i := 602) (by decide +kernel) (by decide +kernel)
theorem wd_603 : Cond.code yX4_partOf cX4_partOf 3 (some .int) ∈ tw := tw_mem (i := 603) (by decide +kernel) (by decide +kernel)
theorem wd_604 : Cond.methodLink RX4 145 yX1_heaviestWith ∈ tw := tw_mem (i := 604) (by decide +kernel) (by decide +kernel)
theorem wd_605 : Cond.instanceMethod yX1_heaviestWith ∈ tw := tw_mem (i := 605) (by decide +kernel) (by decide +kernel)
theorem wd_606 : Cond.selects RX1 yX1_heaviestWith yX1_heaviestWith ∈ tw := tw_mem (i := 606) (by decide +kernel) (by decide +kernel)
theorem wd_607 : Cond.code yX1_heaviestWith cX1_heaviestWith 5 (some .int) ∈ tw := tw_mem (i := 607) (by decide +kernel) (by decide +kernel)
theorem wd_608 : Cond.methodLink RX1 130 yX1_weightOf ∈ tw := tw_mem (i := 608) (by decide +kernel) (by decide +kernel)
theorem wd_609 : Cond.methodLink RL 78 yX4_inRound ∈ tw := tw_mem (i := 609) (by decide +kernel) (by decide +kernel)
theorem wd_610 : Cond.instanceMethod yX4_inRound ∈ tw := tw_mem (i := 610) (by decide +kernel) (by decide +kernel)
theorem wd_611 : Cond.selects RX4 yX4_inRound yX4_inRound ∈ tw := tw_mem (i := 611) (by decide +kernel) (by decide +kernel)
theorem wd_612 : Cond.code yX4_inRound cX4_inRound 3 (some .int) ∈ tw := tw_mem (i := 612) (by decide +kernel) (by decide +kernel)
theorem wd_613 : Cond.methodLink RX4 132 yX2_get ∈ tw := tw_mem (i := 613) (by decide +kernel) (by decide +kernel)
theorem wd_614 : Cond.methodLink RL 131 yL_areParts ∈ tw := tw_mem (i := 614) (by decide +kernel) (by decide +kernel)
theorem wd_615 : Cond.static yL_areParts ∈ tw := tw_mem (i := 615) (by decide +kernel) (by decide +kernel)
theorem wd_616 : Cond.code yL_areParts cL_areParts 8 (some .boolean) ∈ tw := tw_mem (i := 616) (by decide +kernel) (by decide +kernel)
theorem wd_617 : Cond.methodLink RL 118 yX4_ranked ∈ tw := tw_mem (i := 617) (by decide +kernel) (by decide +kernel)
theorem wd_618 : Cond.instanceMethod yX4_ranked ∈ tw := tw_mem (i := 618) (by decide +kernel) (by decide +kernel)
theorem wd_619 : Cond.selects RX4 yX4_ranked yX4_ranked ∈ tw := tw_mem (i := 619) (by decide +kernel) (by decide +kernel)
theorem wd_620 : Cond.code yX4_ranked cX4_ranked 2 (some .int) ∈ tw := tw_mem (i := 620) (by decide +kernel) (by decide +kernel)
theorem wd_621 : Cond.methodLink RX4 171 yX1_rootRanked ∈ tw := tw_mem (i := 621) (by decide +kernel) (by decide +kernel)
theorem wd_622 : Cond.instanceMethod yX1_rootRanked ∈ tw := tw_mem (i := 622) (by decide +kernel) (by decide +kernel)
theorem wd_623 : Cond.selects RX1 yX1_rootRanked yX1_rootRanked ∈ tw := tw_mem (i := 623) (by decide +kernel) (by decide +kernel)
theorem wd_624 : Cond.code yX1_rootRanked cX1_rootRanked 3 (some .int) ∈ tw := tw_mem (i := 624) (by decide +kernel) (by decide +kernel)
theorem wd_625 : Cond.methodLink RX1 152 yX1_partsAheadOf ∈ tw := tw_mem (i := 625) (by decide +kernel) (by decide +kernel)
theorem wd_627 : Cond.instanceMethod yX1_partsAheadOf ∈ tw := tw_mem (i := 627) (by decide +kernel) (by decide +kernel)
theorem wd_628 : Cond.code yX1_partsAheadOf cX1_partsAheadOf 4 (some .int) ∈ tw := tw_mem (i := 628) (by decide +kernel) (by decide +kernel)
theorem wd_629 : Cond.methodLink RX1 155 yX1_ranksAhead ∈ tw := tw_mem (i := 629) (by decide +kernel) (by decide +kernel)
theorem wd_631 : Cond.instanceMethod yX1_ranksAhead ∈ tw := tw_mem (i := 631) (by decide +kernel) (by decide +kernel)
theorem wd_632 : Cond.code yX1_ranksAhead cX1_ranksAhead 7 (some .boolean) ∈ tw := tw_mem (i := 632) (by decide +kernel) (by decide +kernel)
theorem wd_633 : Cond.methodLink RX1 143 yX1_weightOfAll ∈ tw := tw_mem (i := 633) (by decide +kernel) (by decide +kernel)
theorem wd_634 : Cond.methodLink RL 121 yL_isRound ∈ tw := tw_mem (i := 634) (by decide +kernel) (by decide +kernel)
theorem wd_635 : Cond.static yL_isRound ∈ tw := tw_mem (i := 635) (by decide +kernel) (by decide +kernel)
theorem wd_636 : Cond.code yL_isRound cL_isRound 9 (some .boolean) ∈ tw := tw_mem (i := 636) (by decide +kernel) (by decide +kernel)
theorem wd_637 : Cond.methodLink RL 81 yX4_isRope ∈ tw := tw_mem (i := 637) (by decide +kernel) (by decide +kernel)
theorem wd_638 : Cond.instanceMethod yX4_isRope ∈ tw := tw_mem (i := 638) (by decide +kernel) (by decide +kernel)
theorem wd_639 : Cond.selects RX4 yX4_isRope yX4_isRope ∈ tw := tw_mem (i := 639) (by decide +kernel) (by decide +kernel)
theorem wd_640 : Cond.code yX4_isRope cX4_isRope 3 (some .int) ∈ tw := tw_mem (i := 640) (by decide +kernel) (by decide +kernel)
theorem wd_641 : Cond.methodLink RL 125 yL_isAhead ∈ tw := tw_mem (i := 641) (by decide +kernel) (by decide +kernel)
theorem wd_642 : Cond.static yL_isAhead ∈ tw := tw_mem (i := 642) (by decide +kernel) (by decide +kernel)
theorem wd_643 : Cond.code yL_isAhead cL_isAhead 5 (some .boolean) ∈ tw := tw_mem (i := 643) (by decide +kernel) (by decide +kernel)
theorem wd_644 : Cond.methodLink RL 128 yX4_middle ∈ tw := tw_mem (i := 644) (by decide +kernel) (by decide +kernel)
theorem wd_645 : Cond.instanceMethod yX4_middle ∈ tw := tw_mem (i := 645) (by decide +kernel) (by decide +kernel)
theorem wd_646 : Cond.selects RX4 yX4_middle yX4_middle ∈ tw := tw_mem (i := 646) (by decide +kernel) (by decide +kernel)
theorem wd_647 : Cond.code yX4_middle cX4_middle 2 (some .int) ∈ tw := tw_mem (i := 647) (by decide +kernel) (by decide +kernel)
theorem wd_648 : Cond.methodLink RX4 168 yX1_middleWith ∈ tw := tw_mem (i := 648) (by decide +kernel) (by decide +kernel)
theorem wd_649 : Cond.instanceMethod yX1_middleWith ∈ tw := tw_mem (i := 649) (by decide +kernel) (by decide +kernel)
theorem wd_650 : Cond.selects RX1 yX1_middleWith yX1_middleWith ∈ tw := tw_mem (i := 650) (by decide +kernel) (by decide +kernel)
theorem wd_651 : Cond.code yX1_middleWith cX1_middleWith 7 (some .int) ∈ tw := tw_mem (i := 651) (by decide +kernel) (by decide +kernel)
theorem wd_652 : Cond.methodLink RX1 146 yX1_banksWith ∈ tw := tw_mem (i := 652) (by decide +kernel) (by decide +kernel)
theorem wd_653 : Cond.methodLink RX1 149 yX1_heaviestLeftWithout ∈ tw := tw_mem (i := 653) (by decide +kernel) (by decide +kernel)
theorem wd_654 : Cond.instanceMethod yX1_heaviestLeftWithout ∈ tw := tw_mem (i := 654) (by decide +kernel) (by decide +kernel)
theorem wd_655 : Cond.selects RX1 yX1_heaviestLeftWithout yX1_heaviestLeftWithout ∈ tw := tw_mem (i := 655) (by decide +kernel) (by decide +kernel)
theorem wd_656 : Cond.code yX1_heaviestLeftWithout cX1_heaviestLeftWithout 4 (some .int) ∈ tw := tw_mem (i := 656) (by decide +kernel) (by decide +kernel)
theorem wd_657 : Cond.methodLink RX1 139 yX1_isTied ∈ tw := tw_mem (i := 657) (by decide +kernel) (by decide +kernel)
theorem wd_658 : Cond.methodLink RX1 136 yX1_reached ∈ tw := tw_mem (i := 658) (by decide +kernel) (by decide +kernel)
theorem wd_659 : Cond.instanceMethod yX1_reached ∈ tw := tw_mem (i := 659) (by decide +kernel) (by decide +kernel)
theorem wd_660 : Cond.selects RX1 yX1_reached yX1_reached ∈ tw := tw_mem (i := 660) (by decide +kernel) (by decide +kernel)
theorem wd_661 : Cond.code yX1_reached cX1_reached 8 (some .int) ∈ tw := tw_mem (i := 661) (by decide +kernel) (by decide +kernel)
theorem wd_663 : Cond.static yX4_lowestIn ∈ tw := tw_mem (i := 663) (by decide +kernel) (by decide +kernel)
theorem wd_664 : Cond.code yX4_lowestIn cX4_lowestIn 1 (some .int) ∈ tw := tw_mem (i := 664) (by decide +kernel) (by decide +kernel)
theorem wd_665 : Cond.arrayClass .boolean ∈ tw := tw_mem (i := 665) (by decide +kernel) (by decide +kernel)
theorem wd_666 : Cond.methodLink RL 172 yL_isFit ∈ tw := tw_mem (i := 666) (by decide +kernel) (by decide +kernel)
theorem wd_667 : Cond.static yL_isFit ∈ tw := tw_mem (i := 667) (by decide +kernel) (by decide +kernel)
theorem wd_668 : Cond.code yL_isFit cL_isFit 6 (some .boolean) ∈ tw := tw_mem (i := 668) (by decide +kernel) (by decide +kernel)
theorem wd_669 : Cond.methodLink RL 135 yX4_isWell ∈ tw := tw_mem (i := 669) (by decide +kernel) (by decide +kernel)
theorem wd_670 : Cond.instanceMethod yX4_isWell ∈ tw := tw_mem (i := 670) (by decide +kernel) (by decide +kernel)
theorem wd_671 : Cond.selects RX4 yX4_isWell yX4_isWell ∈ tw := tw_mem (i := 671) (by decide +kernel) (by decide +kernel)
theorem wd_672 : Cond.code yX4_isWell cX4_isWell 1 (some .int) ∈ tw := tw_mem (i := 672) (by decide +kernel) (by decide +kernel)
theorem wd_673 : Cond.methodLink RX4 232 yX1_isSound ∈ tw := tw_mem (i := 673) (by decide +kernel) (by decide +kernel)
theorem wd_674 : Cond.instanceMethod yX1_isSound ∈ tw := tw_mem (i := 674) (by decide +kernel) (by decide +kernel)
theorem wd_675 : Cond.selects RX1 yX1_isSound yX1_isSound ∈ tw := tw_mem (i := 675) (by decide +kernel) (by decide +kernel)
theorem wd_676 : Cond.code yX1_isSound cX1_isSound 2 (some .boolean) ∈ tw := tw_mem (i := 676) (by decide +kernel) (by decide +kernel)
theorem wd_677 : Cond.methodLink RX1 158 yX1_belowOf ∈ tw := tw_mem (i := 677) (by decide +kernel) (by decide +kernel)
theorem wd_678 : Cond.methodLink RX1 161 yX1_reachedBelow ∈ tw := tw_mem (i := 678) (by decide +kernel) (by decide +kernel)
theorem wd_679 : Cond.instanceMethod yX1_reachedBelow ∈ tw := tw_mem (i := 679) (by decide +kernel) (by decide +kernel)
theorem wd_680 : Cond.selects RX1 yX1_reachedBelow yX1_reachedBelow ∈ tw := tw_mem (i := 680) (by decide +kernel) (by decide +kernel)
theorem wd_681 : Cond.code yX1_reachedBelow cX1_reachedBelow 3 (some .int) ∈ tw := tw_mem (i := 681) (by decide +kernel) (by decide +kernel)
theorem wd_682 : Cond.methodLink RX1 164 yX1_leavesOverEachRope ∈ tw := tw_mem (i := 682) (by decide +kernel) (by decide +kernel)
theorem wd_684 : Cond.instanceMethod yX1_leavesOverEachRope ∈ tw := tw_mem (i := 684) (by decide +kernel) (by decide +kernel)
theorem wd_685 : Cond.code yX1_leavesOverEachRope cX1_leavesOverEachRope 6 (some .boolean) ∈ tw := tw_mem (i := 685) (by decide +kernel) (by decide +kernel)
theorem wd_686 : Cond.methodLink RL 138 Lib.Math.max.name ∈ tw := tw_mem (i := 686) (by decide +kernel) (by decide +kernel)
theorem wd_687 : Cond.methodLink RL 141 yL_isBank ∈ tw := tw_mem (i := 687) (by decide +kernel) (by decide +kernel)
theorem wd_688 : Cond.static yL_isBank ∈ tw := tw_mem (i := 688) (by decide +kernel) (by decide +kernel)
theorem wd_689 : Cond.code yL_isBank cL_isBank 11 (some .boolean) ∈ tw := tw_mem (i := 689) (by decide +kernel) (by decide +kernel)
theorem wd_690 : Cond.methodLink RL 84 yX4_isBelow ∈ tw := tw_mem (i := 690) (by decide +kernel) (by decide +kernel)
theorem wd_691 : Cond.instanceMethod yX4_isBelow ∈ tw := tw_mem (i := 691) (by decide +kernel) (by decide +kernel)
theorem wd_692 : Cond.selects RX4 yX4_isBelow yX4_isBelow ∈ tw := tw_mem (i := 692) (by decide +kernel) (by decide +kernel)
theorem wd_693 : Cond.code yX4_isBelow cX4_isBelow 3 (some .int) ∈ tw := tw_mem (i := 693) (by decide +kernel) (by decide +kernel)
theorem wd_694 : Cond.methodLink RX4 151 yX1_aboveOf ∈ tw := tw_mem (i := 694) (by decide +kernel) (by decide +kernel)
theorem wd_695 : Cond.methodLink RX4 86 yX4_bit ∈ tw := tw_mem (i := 695) (by decide +kernel) (by decide +kernel)
theorem wd_696 : Cond.methodLink RL 87 yX4_belowAgain ∈ tw := tw_mem (i := 696) (by decide +kernel) (by decide +kernel)
theorem wd_697 : Cond.instanceMethod yX4_belowAgain ∈ tw := tw_mem (i := 697) (by decide +kernel) (by decide +kernel)
theorem wd_698 : Cond.selects RX4 yX4_belowAgain yX4_belowAgain ∈ tw := tw_mem (i := 698) (by decide +kernel) (by decide +kernel)
theorem wd_699 : Cond.code yX4_belowAgain cX4_belowAgain 2 (some .int) ∈ tw := tw_mem (i := 699) (by decide +kernel) (by decide +kernel)
theorem wd_700 : Cond.methodLink RX4 129 yX1_reachedBelow ∈ tw := tw_mem (i := 700) (by decide +kernel) (by decide +kernel)
theorem wd_701 : Cond.methodLink RL 144 yL_isPair ∈ tw := tw_mem (i := 701) (by decide +kernel) (by decide +kernel)
theorem wd_702 : Cond.static yL_isPair ∈ tw := tw_mem (i := 702) (by decide +kernel) (by decide +kernel)
theorem wd_703 : Cond.code yL_isPair cL_isPair 8 (some .boolean) ∈ tw := tw_mem (i := 703) (by decide +kernel) (by decide +kernel)
theorem wd_704 : Cond.methodLink RL 90 yX4_areJoined ∈ tw := tw_mem (i := 704) (by decide +kernel) (by decide +kernel)
theorem wd_705 : Cond.instanceMethod yX4_areJoined ∈ tw := tw_mem (i := 705) (by decide +kernel) (by decide +kernel)
theorem wd_706 : Cond.selects RX4 yX4_areJoined yX4_areJoined ∈ tw := tw_mem (i := 706) (by decide +kernel) (by decide +kernel)
theorem wd_707 : Cond.code yX4_areJoined cX4_areJoined 3 (some .int) ∈ tw := tw_mem (i := 707) (by decide +kernel) (by decide +kernel)
theorem wd_708 : Cond.methodLink RL 93 yX4_meet ∈ tw := tw_mem (i := 708) (by decide +kernel) (by decide +kernel)
theorem wd_709 : Cond.instanceMethod yX4_meet ∈ tw := tw_mem (i := 709) (by decide +kernel) (by decide +kernel)
theorem wd_710 : Cond.selects RX4 yX4_meet yX4_meet ∈ tw := tw_mem (i := 710) (by decide +kernel) (by decide +kernel)
theorem wd_711 : Cond.code yX4_meet cX4_meet 3 (some .int) ∈ tw := tw_mem (i := 711) (by decide +kernel) (by decide +kernel)
theorem wd_712 : Cond.methodLink RX4 154 yX1_meetingOf ∈ tw := tw_mem (i := 712) (by decide +kernel) (by decide +kernel)
theorem wd_713 : Cond.instanceMethod yX1_meetingOf ∈ tw := tw_mem (i := 713) (by decide +kernel) (by decide +kernel)
theorem wd_714 : Cond.selects RX1 yX1_meetingOf yX1_meetingOf ∈ tw := tw_mem (i := 714) (by decide +kernel) (by decide +kernel)
theorem wd_715 : Cond.code yX1_meetingOf cX1_meetingOf 6 (some .int) ∈ tw := tw_mem (i := 715) (by decide +kernel) (by decide +kernel)
theorem wd_716 : Cond.methodLink RL 96 yX4_way ∈ tw := tw_mem (i := 716) (by decide +kernel) (by decide +kernel)
theorem wd_717 : Cond.instanceMethod yX4_way ∈ tw := tw_mem (i := 717) (by decide +kernel) (by decide +kernel)
theorem wd_718 : Cond.selects RX4 yX4_way yX4_way ∈ tw := tw_mem (i := 718) (by decide +kernel) (by decide +kernel)
theorem wd_719 : Cond.code yX4_way cX4_way 7 (some .int) ∈ tw := tw_mem (i := 719) (by decide +kernel) (by decide +kernel)
theorem wd_720 : Cond.methodLink RX4 157 yX1_stepsAbove ∈ tw := tw_mem (i := 720) (by decide +kernel) (by decide +kernel)
theorem wd_721 : Cond.instanceMethod yX1_stepsAbove ∈ tw := tw_mem (i := 721) (by decide +kernel) (by decide +kernel)
theorem wd_722 : Cond.selects RX1 yX1_stepsAbove yX1_stepsAbove ∈ tw := tw_mem (i := 722) (by decide +kernel) (by decide +kernel)
theorem wd_723 : Cond.code yX1_stepsAbove cX1_stepsAbove 5 (some .int) ∈ tw := tw_mem (i := 723) (by decide +kernel) (by decide +kernel)
theorem wd_724 : Cond.methodLink RX1 124 yX1_justAbove ∈ tw := tw_mem (i := 724) (by decide +kernel) (by decide +kernel)
theorem wd_725 : Cond.methodLink RL 100 yX4_areJoinedAgain ∈ tw := tw_mem (i := 725) (by decide +kernel) (by decide +kernel)
theorem wd_726 : Cond.instanceMethod yX4_areJoinedAgain ∈ tw := tw_mem (i := 726) (by decide +kernel) (by decide +kernel)
theorem wd_727 : Cond.selects RX4 yX4_areJoinedAgain yX4_areJoinedAgain ∈ tw := tw_mem (i := 727) (by decide +kernel) (by decide +kernel)
theorem wd_728 : Cond.code yX4_areJoinedAgain cX4_areJoinedAgain 3 (some .int) ∈ tw := tw_mem (i := 728) (by decide +kernel) (by decide +kernel)
theorem wd_729 : Cond.methodLink RX4 83 yX1_reached ∈ tw := tw_mem (i := 729) (by decide +kernel) (by decide +kernel)
theorem wd_730 : Cond.methodLink RL 103 yX4_would ∈ tw := tw_mem (i := 730) (by decide +kernel) (by decide +kernel)
theorem wd_731 : Cond.instanceMethod yX4_would ∈ tw := tw_mem (i := 731) (by decide +kernel) (by decide +kernel)
theorem wd_732 : Cond.selects RX4 yX4_would yX4_would ∈ tw := tw_mem (i := 732) (by decide +kernel) (by decide +kernel)
theorem wd_733 : Cond.code yX4_would cX4_would 3 (some .int) ∈ tw := tw_mem (i := 733) (by decide +kernel) (by decide +kernel)
theorem wd_734 : Cond.methodLink RL 106 yL_isDiffering ∈ tw := tw_mem (i := 734) (by decide +kernel) (by decide +kernel)
theorem wd_735 : Cond.static yL_isDiffering ∈ tw := tw_mem (i := 735) (by decide +kernel) (by decide +kernel)
theorem wd_736 : Cond.code yL_isDiffering cL_isDiffering 4 (some .boolean) ∈ tw := tw_mem (i := 736) (by decide +kernel) (by decide +kernel)
theorem wd_737 : Cond.methodLink RL 110 yX4_wouldDiffer ∈ tw := tw_mem (i := 737) (by decide +kernel) (by decide +kernel)
theorem wd_738 : Cond.instanceMethod yX4_wouldDiffer ∈ tw := tw_mem (i := 738) (by decide +kernel) (by decide +kernel)
theorem wd_739 : Cond.selects RX4 yX4_wouldDiffer yX4_wouldDiffer ∈ tw := tw_mem (i := 739) (by decide +kernel) (by decide +kernel)
theorem wd_740 : Cond.code yX4_wouldDiffer cX4_wouldDiffer 5 (some .int) ∈ tw := tw_mem (i := 740) (by decide +kernel) (by decide +kernel)
theorem wd_741 : Cond.methodLink RX4 163 Lib.Math.abs.name ∈ tw := tw_mem (i := 741) (by decide +kernel) (by decide +kernel)
theorem wd_742 : Cond.static Lib.Math.abs.name ∈ tw := tw_mem (i := 742) (by decide +kernel) (by decide +kernel)
theorem wd_743 : Cond.code Lib.Math.abs.name Lib.Math.abs.code 1 (some .int) ∈ tw := tw_mem (i := 743) (by decide +kernel) (by decide +kernel)
theorem wd_744 : Cond.methodLink RL 113 Lib.Math.abs.name ∈ tw := tw_mem (i := 744) (by decide +kernel) (by decide +kernel)
theorem wd_745 : Cond.methodLink RL 147 yX4_mean ∈ tw := tw_mem (i := 745) (by decide +kernel) (by decide +kernel)
theorem wd_746 : Cond.instanceMethod yX4_mean ∈ tw := tw_mem (i := 746) (by decide +kernel) (by decide +kernel)
theorem wd_747 : Cond.selects RX4 yX4_mean yX4_mean ∈ tw := tw_mem (i := 747) (by decide +kernel) (by decide +kernel)
theorem wd_748 : Cond.code yX4_mean cX4_mean 2 (some .int) ∈ tw := tw_mem (i := 748) (by decide +kernel) (by decide +kernel)
theorem wd_749 : Cond.methodLink RX4 236 yX1_sumOfDepths ∈ tw := tw_mem (i := 749) (by decide +kernel) (by decide +kernel)
theorem wd_750 : Cond.instanceMethod yX1_sumOfDepths ∈ tw := tw_mem (i := 750) (by decide +kernel) (by decide +kernel)
theorem wd_751 : Cond.selects RX1 yX1_sumOfDepths yX1_sumOfDepths ∈ tw := tw_mem (i := 751) (by decide +kernel) (by decide +kernel)
theorem wd_752 : Cond.code yX1_sumOfDepths cX1_sumOfDepths 3 (some .int) ∈ tw := tw_mem (i := 752) (by decide +kernel) (by decide +kernel)
theorem wd_753 : Cond.methodLink RX4 239 yX4_bitsOf ∈ tw := tw_mem (i := 753) (by decide +kernel) (by decide +kernel)
theorem wd_754 : Cond.static yX4_bitsOf ∈ tw := tw_mem (i := 754) (by decide +kernel) (by decide +kernel)
theorem wd_755 : Cond.code yX4_bitsOf cX4_bitsOf 4 (some .int) ∈ tw := tw_mem (i := 755) (by decide +kernel) (by decide +kernel)
theorem wd_756 : Cond.constantFloat RX4 292 (1258291200) ∈ tw := tw_mem (i := 756) (by decide +kernel) (by decide +kernel)
theorem wd_757 : Cond.methodLink RL 150 yJxf58ca_floatToIntBits_5c35a ∈ tw := tw_mem (i := 757) (by decide +kernel) (by decide +kernel)
theorem wd_758 : Cond.static yJxf58ca_floatToIntBits_5c35a ∈ tw := tw_mem (i := 758) (by decide +kernel) (by decide +kernel)
theorem wd_759 : Cond.code yJxf58ca_floatToIntBits_5c35a cJxf58ca_floatToIntBits_5c35a 1 (some .int) ∈ tw := tw_mem (i := 759) (by decide +kernel) (by decide +kernel)
theorem wd_760 : Cond.methodLink RJxf58ca 59 yJxf58ca_isNaN_12338 ∈ tw := tw_mem (i := 760) (by decide +kernel) (by decide +kernel)
theorem wd_761 : Cond.static yJxf58ca_isNaN_12338 ∈ tw := tw_mem (i := 761) (by decide +kernel) (by decide +kernel)
theorem wd_762 : Cond.code yJxf58ca_isNaN_12338 cJxf58ca_isNaN_12338 1 (some .boolean) ∈ tw := tw_mem (i := 762) (by decide +kernel) (by decide +kernel)
theorem wd_763 : Cond.methodLink RJxf58ca 74 ⟨"java/lang/Float", "floatToRawIntBits", "(F)I"⟩ ∈ tw := tw_mem (i := 763) (by decide +kernel) (by decide +kernel)
theorem wd_764 : Cond.static ⟨"java/lang/Float", "floatToRawIntBits", "(F)I"⟩ ∈ tw := tw_mem (i := 764) (by decide +kernel) (by decide +kernel)
theorem wd_765 : Cond.native ⟨"java/lang/Float", "floatToRawIntBits", "(F)I"⟩ ∈ tw := tw_mem (i := 765) (by decide +kernel) (by decide +kernel)
theorem wd_766 : Cond.constant RJxf58ca 77 (2143289344) ∈ tw := tw_mem (i := 766) (by decide +kernel) (by decide +kernel)
theorem wd_767 : Cond.methodLink RL 175 yL_isTiedAgain ∈ tw := tw_mem (i := 767) (by decide +kernel) (by decide +kernel)
theorem wd_768 : Cond.static yL_isTiedAgain ∈ tw := tw_mem (i := 768) (by decide +kernel) (by decide +kernel)
theorem wd_769 : Cond.code yL_isTiedAgain cL_isTiedAgain 9 (some .boolean) ∈ tw := tw_mem (i := 769) (by decide +kernel) (by decide +kernel)
theorem wd_770 : Cond.methodLink RL 160 yX4_refusal ∈ tw := tw_mem (i := 770) (by decide +kernel) (by decide +kernel)
theorem wd_771 : Cond.instanceMethod yX4_refusal ∈ tw := tw_mem (i := 771) (by decide +kernel) (by decide +kernel)
theorem wd_772 : Cond.selects RX4 yX4_refusal yX4_refusal ∈ tw := tw_mem (i := 772) (by decide +kernel) (by decide +kernel)
theorem wd_773 : Cond.code yX4_refusal cX4_refusal 2 (some .int) ∈ tw := tw_mem (i := 773) (by decide +kernel) (by decide +kernel)
theorem wd_774 : Cond.fieldLink RJ0 9 "java/lang/String" "value" "[B" ∈ tw := tw_mem (i := 774) (by decide +kernel) (by decide +kernel)
theorem wd_775 : Cond.fieldLink RJ0 15 "java/lang/String" "coder" "B" ∈ tw := tw_mem (i := 775) (by decide +kernel) (by decide +kernel)
set_option maxRecDepth 100000 in
theorem kw_X2_23 {R : Room} {s : State} {args : Array Value} (hts : ∀ w ∈ tw, w.before args s = true) (hR : 0 + 1 ≤ R.frames ∧ 8 + (2 + 11) + 40 * 0 ≤ R.locals) : CallW R s args RX2 RX2 23 yX2_get cX2_get 2 (some .int) (wsm yX2_get cX2_get 2 (some .int)) (rmd 0) 0 0 1 := kwV 1 wd_178 wd_175 wd_176 wd_177 wd_19 (by decide +kernel) hts hR
set_option maxRecDepth 100000 in
theorem kw_X2_19 {R : Room} {s : State} {args : Array Value} (hts : ∀ w ∈ tw, w.before args s = true) (hR : 0 + 1 ≤ R.frames ∧ 8 + (2 + 11) + 40 * 0 ≤ R.locals) : CallW R s args RX2 RX2 19 yX2_add cX2_add 2 none (wsm yX2_add cX2_add 2 none) (rmd 0) 0 0 1 := kwV 1 wd_182 wd_179 wd_180 wd_181 wd_19 (by decide +kernel) hts hR
set_option maxRecDepth 100000 in
theorem kw_X1_30 {R : Room} {s : State} {args : Array Value} (hts : ∀ w ∈ tw, w.before args s = true) (hR : 1 + 1 ≤ R.frames ∧ 8 + (3 + 11) + 40 * 1 ≤ R.locals) : CallW R s args RX1 RX2 30 yX2_copyFrom cX2_copyFrom 3 none (wsm yX2_copyFrom cX2_copyFrom 3 none) (rmd 1) 0 0 1 := kwV 1 wd_174 wd_171 wd_172 wd_173 wd_19 (by decide +kernel) hts hR
set_option maxRecDepth 100000 in
theorem kw_X1_34 {R : Room} {s : State} {args : Array Value} (hts : ∀ w ∈ tw, w.before args s = true) (hR : 0 + 1 ≤ R.frames ∧ 8 + (3 + 11) + 40 * 0 ≤ R.locals) : CallW R s args RX1 RX1 34 yX1_roundAt cX1_roundAt 3 (some (.object "FerryRounds$Row")) (wsm yX1_roundAt cX1_roundAt 3 (some (.object "FerryRounds$Row"))) (rmd 0) 0 0 1 := kwV 1 wd_186 wd_183 wd_185 wd_0 wd_18 (by decide +kernel) hts hR
set_option maxRecDepth 100000 in
theorem kw_X0_25 {R : Room} {s : State} {args : Array Value} (hts : ∀ w ∈ tw, w.before args s = true) (hR : 2 + 1 ≤ R.frames ∧ 8 + (3 + 11) + 40 * 2 ≤ R.locals) : CallW R s args RX0 RX1 25 yX1_copyFrom cX1_copyFrom 3 none (wsm yX1_copyFrom cX1_copyFrom 3 none) (rmd 2) 0 0 1 := kwV 1 wd_170 wd_167 wd_168 wd_169 wd_18 (by decide +kernel) hts hR
set_option maxRecDepth 100000 in
theorem kw_X0_35 {R : Room} {s : State} {args : Array Value} (hts : ∀ w ∈ tw, w.before args s = true) (hR : 3 + 1 ≤ R.frames ∧ 8 + (2 + 11) + 40 * 3 ≤ R.locals) : CallW R s args RX0 RX0 35 yX0_takeBack cX0_takeBack 2 none (wsm yX0_takeBack cX0_takeBack 2 none) (rmd 3) 0 0 1 := kwV 1 wd_427 wd_436 wd_425 wd_426 wd_20 (by decide +kernel) hts hR
set_option maxRecDepth 100000 in
theorem kw_X1_90 {R : Room} {s : State} {args : Array Value} (hts : ∀ w ∈ tw, w.before args s = true) (hR : 0 + 1 ≤ R.frames ∧ 8 + (3 + 11) + 40 * 0 ≤ R.locals) : CallW R s args RX1 RX2 90 yX2_firstOf cX2_firstOf 3 (some .int) (wsm yX2_firstOf cX2_firstOf 3 (some .int)) (rmd 0) 0 0 1 := kwV 1 wd_250 wd_247 wd_248 wd_249 wd_19 (by decide +kernel) hts hR
set_option maxRecDepth 100000 in
theorem kw_X1_109 {R : Room} {s : State} {args : Array Value} (hts : ∀ w ∈ tw, w.before args s = true) (hR : 1 + 1 ≤ R.frames ∧ 8 + (3 + 11) + 40 * 1 ≤ R.locals) : CallW R s args RX1 RX1 109 yX1_rootOf cX1_rootOf 3 (some .int) (wsm yX1_rootOf cX1_rootOf 3 (some .int)) (rmd 1) 0 0 1 := kwV 1 wd_246 wd_243 wd_244 wd_245 wd_18 (by decide +kernel) hts hR
set_option maxRecDepth 100000 in
theorem kw_X2_38 {R : Room} {s : State} {args : Array Value} (hl : va_Nw (.methodLinkNest RX2 38 yX4_bit RX4) s) (hts : ∀ w ∈ tw, w.before args s = true) (hR : 0 + 1 ≤ R.frames ∧ 8 + (1 + 11) + 40 * 0 ≤ R.locals) : va_CN R s args RX2 38 yX4_bit RX4 cX4_bit 1 (some .int) (wsm yX4_bit cX4_bit 1 (some .int)) (rmd 0) 0 0 1 ∧ (Cond.static yX4_bit).before args s = true ∧ True := kwN 1 wd_280 wd_279 wd_17 (by decide +kernel) hl hts hR
set_option maxRecDepth 100000 in
theorem kw_X1_87 {R : Room} {s : State} {args : Array Value} (hts : ∀ w ∈ tw, w.before args s = true) (hR : 2 + 1 ≤ R.frames ∧ 8 + (2 + 11) + 40 * 2 ≤ R.locals) : CallW R s args RX1 RX1 87 yX1_roundOf cX1_roundOf 2 (some (.object "FerryRounds$Row")) (wsm yX1_roundOf cX1_roundOf 2 (some (.object "FerryRounds$Row"))) (rmd 2) 0 0 1 := kwV 1 wd_242 wd_239 wd_240 wd_241 wd_18 (by decide +kernel) hts hR
set_option maxRecDepth 100000 in
theorem kw_X1_118 {R : Room} {s : State} {args : Array Value} (hts : ∀ w ∈ tw, w.before args s = true) (hR : 1 + 1 ≤ R.frames ∧ 8 + (5 + 11) + 40 * 1 ≤ R.locals) : CallW R s args RX1 RX2 118 yX2_setOf cX2_setOf 5 (some .int) (wsm yX2_setOf cX2_setOf 5 (some .int)) (rmd 1) 0 0 2 := kwV 2 wd_296 wd_530 wd_294 wd_295 wd_19 (by decide +kernel) hts hR
set_option maxRecDepth 100000 in
theorem kw_X1_103 {R : Room} {s : State} {args : Array Value} (hts : ∀ w ∈ tw, w.before args s = true) (hR : 1 + 1 ≤ R.frames ∧ 8 + (3 + 11) + 40 * 1 ≤ R.locals) : CallW R s args RX1 RX2 103 yX2_lastOf cX2_lastOf 3 (some .int) (wsm yX2_lastOf cX2_lastOf 3 (some .int)) (rmd 1) 0 0 1 := kwV 1 wd_327 wd_324 wd_325 wd_326 wd_19 (by decide +kernel) hts hR
set_option maxRecDepth 100000 in
theorem kw_X1_48 {R : Room} {s : State} {args : Array Value} (hts : ∀ w ∈ tw, w.before args s = true) (hR : 0 + 1 ≤ R.frames ∧ 8 + (1 + 11) + 40 * 0 ≤ R.locals) : CallW R s args RX1 RX2 48 yX2_length cX2_length 1 (some .int) (wsm yX2_length cX2_length 1 (some .int)) (rmd 0) 0 0 0 := kwV 0 wd_198 wd_195 wd_196 wd_197 wd_19 (by decide +kernel) hts hR
set_option maxRecDepth 100000 in
theorem kw_X1_71 {R : Room} {s : State} {args : Array Value} (hts : ∀ w ∈ tw, w.before args s = true) (hR : 0 + 1 ≤ R.frames ∧ 8 + (2 + 11) + 40 * 0 ≤ R.locals) : CallW R s args RX1 RX2 71 yX2_add cX2_add 2 none (wsm yX2_add cX2_add 2 none) (rmd 0) 0 0 1 := kwV 1 wd_182 wd_207 wd_180 wd_181 wd_19 (by decide +kernel) hts hR
set_option maxRecDepth 100000 in
theorem kw_X2_34 {R : Room} {s : State} {args : Array Value} (hts : ∀ w ∈ tw, w.before args s = true) (hR : 1 + 1 ≤ R.frames ∧ 8 + (5 + 11) + 40 * 1 ≤ R.locals) : CallW R s args RX2 RX2 34 yX2_setOf cX2_setOf 5 (some .int) (wsm yX2_setOf cX2_setOf 5 (some .int)) (rmd 1) 0 0 2 := kwV 2 wd_296 wd_293 wd_294 wd_295 wd_19 (by decide +kernel) hts hR
set_option maxRecDepth 100000 in
theorem kw_X1_115 {R : Room} {s : State} {args : Array Value} (hts : ∀ w ∈ tw, w.before args s = true) (hR : 2 + 1 ≤ R.frames ∧ 8 + (1 + 11) + 40 * 2 ≤ R.locals) : CallW R s args RX1 RX2 115 yX2_setOfAll cX2_setOfAll 1 (some .int) (wsm yX2_setOfAll cX2_setOfAll 1 (some .int)) (rmd 2) 0 0 0 := kwV 0 wd_292 wd_289 wd_290 wd_291 wd_19 (by decide +kernel) hts hR
set_option maxRecDepth 100000 in
theorem kw_X1_121 {R : Room} {s : State} {args : Array Value} (hts : ∀ w ∈ tw, w.before args s = true) (hR : 3 + 1 ≤ R.frames ∧ 8 + (5 + 11) + 40 * 3 ≤ R.locals) : CallW R s args RX1 RX1 121 yX1_aboveOf cX1_aboveOf 5 (some .int) (wsm yX1_aboveOf cX1_aboveOf 5 (some .int)) (rmd 3) 0 0 1 := kwV 1 wd_529 wd_526 wd_527 wd_528 wd_18 (by decide +kernel) hts hR
set_option maxRecDepth 100000 in
theorem kw_X1_66 {R : Room} {s : State} {args : Array Value} (hts : ∀ w ∈ tw, w.before args s = true) (hR : 0 + 1 ≤ R.frames ∧ 8 + (1 + 11) + 40 * 0 ≤ R.locals) : CallB R s args RX1 66 yJ6_bitCount_0f7a4 cJ6_bitCount_0f7a4 1 (some .int) (wsm yJ6_bitCount_0f7a4 cJ6_bitCount_0f7a4 1 (some .int)) (rmd 0) 0 0 1 ∧ (Cond.static yJ6_bitCount_0f7a4).before args s = true := kwS 1 wd_300 wd_531 wd_299 wd_23 (by decide +kernel) hts hR
set_option maxRecDepth 100000 in
theorem kw_X1_56 {R : Room} {s : State} {args : Array Value} (hl : va_Nw (.methodLinkNest RX1 56 yX4_bit RX4) s) (hts : ∀ w ∈ tw, w.before args s = true) (hR : 0 + 1 ≤ R.frames ∧ 8 + (1 + 11) + 40 * 0 ≤ R.locals) : va_CN R s args RX1 56 yX4_bit RX4 cX4_bit 1 (some .int) (wsm yX4_bit cX4_bit 1 (some .int)) (rmd 0) 0 0 1 ∧ (Cond.static yX4_bit).before args s = true ∧ True := kwN 1 wd_280 wd_279 wd_17 (by decide +kernel) hl hts hR
set_option maxRecDepth 100000 in
theorem kw_X1_127 {R : Room} {s : State} {args : Array Value} (hts : ∀ w ∈ tw, w.before args s = true) (hR : 4 + 1 ≤ R.frames ∧ 8 + (2 + 11) + 40 * 4 ≤ R.locals) : CallW R s args RX1 RX1 127 yX1_depthOf cX1_depthOf 2 (some .int) (wsm yX1_depthOf cX1_depthOf 2 (some .int)) (rmd 4) 0 0 1 := kwV 1 wd_525 wd_599 wd_523 wd_524 wd_18 (by decide +kernel) hts hR
set_option maxRecDepth 100000 in
theorem kw_X1_59 {R : Room} {s : State} {args : Array Value} (hts : ∀ w ∈ tw, w.before args s = true) (hR : 1 + 1 ≤ R.frames ∧ 8 + (2 + 11) + 40 * 1 ≤ R.locals) : CallW R s args RX1 RX1 59 yX1_has cX1_has 2 (some .boolean) (wsm yX1_has cX1_has 2 (some .boolean)) (rmd 1) 0 0 1 := kwV 1 wd_234 wd_276 wd_232 wd_233 wd_18 (by decide +kernel) hts hR
set_option maxRecDepth 100000 in
theorem kw_X1_52 {R : Room} {s : State} {args : Array Value} (hts : ∀ w ∈ tw, w.before args s = true) (hR : 0 + 1 ≤ R.frames ∧ 8 + (2 + 11) + 40 * 0 ≤ R.locals) : CallW R s args RX1 RX2 52 yX2_get cX2_get 2 (some .int) (wsm yX2_get cX2_get 2 (some .int)) (rmd 0) 0 0 1 := kwV 1 wd_178 wd_277 wd_176 wd_177 wd_19 (by decide +kernel) hts hR
set_option maxRecDepth 100000 in
theorem kw_X1_63 {R : Room} {s : State} {args : Array Value} (hts : ∀ w ∈ tw, w.before args s = true) (hR : 2 + 1 ≤ R.frames ∧ 8 + (2 + 11) + 40 * 2 ≤ R.locals) : CallW R s args RX1 RX1 63 yX1_ropesOf cX1_ropesOf 2 (some .int) (wsm yX1_ropesOf cX1_ropesOf 2 (some .int)) (rmd 2) 0 0 1 := kwV 1 wd_275 wd_272 wd_273 wd_274 wd_18 (by decide +kernel) hts hR
set_option maxRecDepth 100000 in
theorem kw_X4_115 {R : Room} {s : State} {args : Array Value} (hts : ∀ w ∈ tw, w.before args s = true) (hR : 0 + 1 ≤ R.frames ∧ 8 + (1 + 11) + 40 * 0 ≤ R.locals) : CallB R s args RX4 115 yJ6_bitCount_0f7a4 cJ6_bitCount_0f7a4 1 (some .int) (wsm yJ6_bitCount_0f7a4 cJ6_bitCount_0f7a4 1 (some .int)) (rmd 0) 0 0 1 ∧ (Cond.static yJ6_bitCount_0f7a4).before args s = true := kwS 1 wd_300 wd_298 wd_299 wd_23 (by decide +kernel) hts hR
set_option maxRecDepth 100000 in
theorem kw_X1_133 {R : Room} {s : State} {args : Array Value} (hl : va_Nw (.methodLinkNest RX1 133 yX4_lowestIn RX4) s) (hts : ∀ w ∈ tw, w.before args s = true) (hR : 1 + 1 ≤ R.frames ∧ 8 + (1 + 11) + 40 * 1 ≤ R.locals) : va_CN R s args RX1 133 yX4_lowestIn RX4 cX4_lowestIn 1 (some .int) (wsm yX4_lowestIn cX4_lowestIn 1 (some .int)) (rmd 1) 0 0 1 ∧ (Cond.static yX4_lowestIn).before args s = true ∧ True := kwN 1 wd_664 wd_663 wd_17 (by decide +kernel) hl hts hR
set_option maxRecDepth 100000 in
theorem kw_X1_139 {R : Room} {s : State} {args : Array Value} (hts : ∀ w ∈ tw, w.before args s = true) (hR : 3 + 1 ≤ R.frames ∧ 8 + (3 + 11) + 40 * 3 ≤ R.locals) : CallW R s args RX1 RX1 139 yX1_isTied cX1_isTied 3 (some .boolean) (wsm yX1_isTied cX1_isTied 3 (some .boolean)) (rmd 3) 0 0 2 := kwV 2 wd_315 wd_657 wd_313 wd_314 wd_18 (by decide +kernel) hts hR
set_option maxRecDepth 100000 in
theorem kw_X1_136 {R : Room} {s : State} {args : Array Value} (hts : ∀ w ∈ tw, w.before args s = true) (hR : 3 + 1 ≤ R.frames ∧ 8 + (8 + 11) + 40 * 3 ≤ R.locals) : CallW R s args RX1 RX1 136 yX1_reached cX1_reached 8 (some .int) (wsm yX1_reached cX1_reached 8 (some .int)) (rmd 3) 0 0 2 := kwV 2 wd_661 wd_658 wd_659 wd_660 wd_18 (by decide +kernel) hts hR
set_option maxRecDepth 100000 in
theorem kw_X1_143 {R : Room} {s : State} {args : Array Value} (hts : ∀ w ∈ tw, w.before args s = true) (hR : 1 + 1 ≤ R.frames ∧ 8 + (4 + 11) + 40 * 1 ≤ R.locals) : CallW R s args RX1 RX1 143 yX1_weightOfAll cX1_weightOfAll 4 (some .int) (wsm yX1_weightOfAll cX1_weightOfAll 4 (some .int)) (rmd 1) 0 0 1 := kwV 1 wd_547 wd_633 wd_545 wd_546 wd_18 (by decide +kernel) hts hR
set_option maxRecDepth 100000 in
theorem kw_X1_130 {R : Room} {s : State} {args : Array Value} (hts : ∀ w ∈ tw, w.before args s = true) (hR : 1 + 1 ≤ R.frames ∧ 8 + (2 + 11) + 40 * 1 ≤ R.locals) : CallW R s args RX1 RX1 130 yX1_weightOf cX1_weightOf 2 (some .int) (wsm yX1_weightOf cX1_weightOf 2 (some .int)) (rmd 1) 0 0 1 := kwV 1 wd_419 wd_608 wd_417 wd_418 wd_18 (by decide +kernel) hts hR
set_option maxRecDepth 100000 in
theorem kw_X1_146 {R : Room} {s : State} {args : Array Value} (hts : ∀ w ∈ tw, w.before args s = true) (hR : 3 + 1 ≤ R.frames ∧ 8 + (2 + 11) + 40 * 3 ≤ R.locals) : CallW R s args RX1 RX1 146 yX1_banksWith cX1_banksWith 2 (some .int) (wsm yX1_banksWith cX1_banksWith 2 (some .int)) (rmd 3) 0 0 1 := kwV 1 wd_288 wd_652 wd_286 wd_287 wd_18 (by decide +kernel) hts hR
set_option maxRecDepth 100000 in
theorem kw_X1_158 {R : Room} {s : State} {args : Array Value} (hts : ∀ w ∈ tw, w.before args s = true) (hR : 3 + 1 ≤ R.frames ∧ 8 + (3 + 11) + 40 * 3 ≤ R.locals) : CallW R s args RX1 RX1 158 yX1_belowOf cX1_belowOf 3 (some .int) (wsm yX1_belowOf cX1_belowOf 3 (some .int)) (rmd 3) 0 0 1 := kwV 1 wd_543 wd_677 wd_541 wd_542 wd_18 (by decide +kernel) hts hR
set_option maxRecDepth 100000 in
theorem kw_X1_161 {R : Room} {s : State} {args : Array Value} (hts : ∀ w ∈ tw, w.before args s = true) (hR : 4 + 1 ≤ R.frames ∧ 8 + (3 + 11) + 40 * 4 ≤ R.locals) : CallW R s args RX1 RX1 161 yX1_reachedBelow cX1_reachedBelow 3 (some .int) (wsm yX1_reachedBelow cX1_reachedBelow 3 (some .int)) (rmd 4) 0 0 1 := kwV 1 wd_681 wd_678 wd_679 wd_680 wd_18 (by decide +kernel) hts hR
set_option maxRecDepth 100000 in
theorem kw_X1_164 {R : Room} {s : State} {args : Array Value} (hts : ∀ w ∈ tw, w.before args s = true) (hR : 3 + 1 ≤ R.frames ∧ 8 + (6 + 11) + 40 * 3 ≤ R.locals) : CallW R s args RX1 RX1 164 yX1_leavesOverEachRope cX1_leavesOverEachRope 6 (some .boolean) (wsm yX1_leavesOverEachRope cX1_leavesOverEachRope 6 (some .boolean)) (rmd 3) 0 0 1 := kwV 1 wd_685 wd_682 wd_684 wd_15 wd_18 (by decide +kernel) hts hR
set_option maxRecDepth 100000 in
theorem kw_X1_149 {R : Room} {s : State} {args : Array Value} (hts : ∀ w ∈ tw, w.before args s = true) (hR : 4 + 1 ≤ R.frames ∧ 8 + (4 + 11) + 40 * 4 ≤ R.locals) : CallW R s args RX1 RX1 149 yX1_heaviestLeftWithout cX1_heaviestLeftWithout 4 (some .int) (wsm yX1_heaviestLeftWithout cX1_heaviestLeftWithout 4 (some .int)) (rmd 4) 0 0 1 := kwV 1 wd_656 wd_653 wd_654 wd_655 wd_18 (by decide +kernel) hts hR
set_option maxRecDepth 100000 in
theorem kw_X1_112 {R : Room} {s : State} {args : Array Value} (hts : ∀ w ∈ tw, w.before args s = true) (hR : 1 + 1 ≤ R.frames ∧ 8 + (2 + 11) + 40 * 1 ≤ R.locals) : CallW R s args RX1 RX1 112 yX1_isRoot cX1_isRoot 2 (some .boolean) (wsm yX1_isRoot cX1_isRoot 2 (some .boolean)) (rmd 1) 0 0 1 := kwV 1 wd_574 wd_571 wd_572 wd_573 wd_18 (by decide +kernel) hts hR
set_option maxRecDepth 100000 in
theorem kw_X1_155 {R : Room} {s : State} {args : Array Value} (hts : ∀ w ∈ tw, w.before args s = true) (hR : 3 + 1 ≤ R.frames ∧ 8 + (7 + 11) + 40 * 3 ≤ R.locals) : CallW R s args RX1 RX1 155 yX1_ranksAhead cX1_ranksAhead 7 (some .boolean) (wsm yX1_ranksAhead cX1_ranksAhead 7 (some .boolean)) (rmd 3) 0 0 2 := kwV 2 wd_632 wd_629 wd_631 wd_14 wd_18 (by decide +kernel) hts hR
set_option maxRecDepth 100000 in
theorem kw_X1_74 {R : Room} {s : State} {args : Array Value} (hts : ∀ w ∈ tw, w.before args s = true) (hR : 0 + 1 ≤ R.frames ∧ 8 + (3 + 11) + 40 * 0 ≤ R.locals) : CallW R s args RX1 RX2 74 yX2_put cX2_put 3 none (wsm yX2_put cX2_put 3 none) (rmd 0) 0 0 2 := kwV 2 wd_284 wd_281 wd_282 wd_283 wd_19 (by decide +kernel) hts hR
set_option maxRecDepth 100000 in
theorem kw_X1_152 {R : Room} {s : State} {args : Array Value} (hts : ∀ w ∈ tw, w.before args s = true) (hR : 4 + 1 ≤ R.frames ∧ 8 + (4 + 11) + 40 * 4 ≤ R.locals) : CallW R s args RX1 RX1 152 yX1_partsAheadOf cX1_partsAheadOf 4 (some .int) (wsm yX1_partsAheadOf cX1_partsAheadOf 4 (some .int)) (rmd 4) 0 0 1 := kwV 1 wd_628 wd_625 wd_627 wd_13 wd_18 (by decide +kernel) hts hR
set_option maxRecDepth 100000 in
theorem kw_X1_124 {R : Room} {s : State} {args : Array Value} (hts : ∀ w ∈ tw, w.before args s = true) (hR : 3 + 1 ≤ R.frames ∧ 8 + (4 + 11) + 40 * 3 ≤ R.locals) : CallW R s args RX1 RX1 124 yX1_justAbove cX1_justAbove 4 (some .int) (wsm yX1_justAbove cX1_justAbove 4 (some .int)) (rmd 3) 0 0 1 := kwV 1 wd_539 wd_724 wd_537 wd_538 wd_18 (by decide +kernel) hts hR
set_option maxRecDepth 100000 in
theorem kw_X1_93 {R : Room} {s : State} {args : Array Value} (hts : ∀ w ∈ tw, w.before args s = true) (hR : 1 + 1 ≤ R.frames ∧ 8 + (5 + 11) + 40 * 1 ≤ R.locals) : CallW R s args RX1 RX2 93 yX2_addPlaces cX2_addPlaces 5 none (wsm yX2_addPlaces cX2_addPlaces 5 none) (rmd 1) 0 0 3 := kwV 3 wd_259 wd_256 wd_257 wd_258 wd_19 (by decide +kernel) hts hR
set_option maxRecDepth 100000 in
theorem kw_X1_100 {R : Room} {s : State} {args : Array Value} (hts : ∀ w ∈ tw, w.before args s = true) (hR : 0 + 1 ≤ R.frames ∧ 8 + (2 + 11) + 40 * 0 ≤ R.locals) : CallW R s args RX1 RX2 100 yX2_shorten cX2_shorten 2 none (wsm yX2_shorten cX2_shorten 2 none) (rmd 0) 0 0 1 := kwV 1 wd_271 wd_268 wd_269 wd_270 wd_19 (by decide +kernel) hts hR
set_option maxRecDepth 100000 in
theorem kw_X1_97 {R : Room} {s : State} {args : Array Value} (hts : ∀ w ∈ tw, w.before args s = true) (hR : 0 + 1 ≤ R.frames ∧ 8 + (1 + 11) + 40 * 0 ≤ R.locals) : CallW R s args RX1 RX2 97 yX2_clear cX2_clear 1 none (wsm yX2_clear cX2_clear 1 none) (rmd 0) 0 0 0 := kwV 0 wd_263 wd_260 wd_261 wd_262 wd_19 (by decide +kernel) hts hR
set_option maxRecDepth 100000 in
theorem kw_X2_31 {R : Room} {s : State} {args : Array Value} (hts : ∀ w ∈ tw, w.before args s = true) (hR : 0 + 1 ≤ R.frames ∧ 8 + (2 + 11) + 40 * 0 ≤ R.locals) : CallW R s args RX2 RX2 31 yX2_shorten cX2_shorten 2 none (wsm yX2_shorten cX2_shorten 2 none) (rmd 0) 0 0 1 := kwV 1 wd_271 wd_333 wd_269 wd_270 wd_19 (by decide +kernel) hts hR
set_option maxRecDepth 100000 in
theorem kw_X2_27 {R : Room} {s : State} {args : Array Value} (hts : ∀ w ∈ tw, w.before args s = true) (hR : 0 + 1 ≤ R.frames ∧ 8 + (3 + 11) + 40 * 0 ≤ R.locals) : CallW R s args RX2 RX2 27 yX2_put cX2_put 3 none (wsm yX2_put cX2_put 3 none) (rmd 0) 0 0 2 := kwV 2 wd_284 wd_332 wd_282 wd_283 wd_19 (by decide +kernel) hts hR
set_option maxRecDepth 100000 in
theorem kw_X1_106 {R : Room} {s : State} {args : Array Value} (hts : ∀ w ∈ tw, w.before args s = true) (hR : 1 + 1 ≤ R.frames ∧ 8 + (5 + 11) + 40 * 1 ≤ R.locals) : CallW R s args RX1 RX2 106 yX2_dropPlaces cX2_dropPlaces 5 none (wsm yX2_dropPlaces cX2_dropPlaces 5 none) (rmd 1) 0 0 2 := kwV 2 wd_331 wd_328 wd_329 wd_330 wd_19 (by decide +kernel) hts hR
set_option maxRecDepth 100000 in
theorem kw_X3_26 {R : Room} {s : State} {args : Array Value} (hts : ∀ w ∈ tw, w.before args s = true) (hR : 0 + 1 ≤ R.frames ∧ 8 + (1 + 11) + 40 * 0 ≤ R.locals) : CallW R s args RX3 RX2 26 yX2_length cX2_length 1 (some .int) (wsm yX2_length cX2_length 1 (some .int)) (rmd 0) 0 0 0 := kwV 0 wd_198 wd_390 wd_196 wd_197 wd_19 (by decide +kernel) hts hR
set_option maxRecDepth 100000 in
theorem kw_X3_30 {R : Room} {s : State} {args : Array Value} (hts : ∀ w ∈ tw, w.before args s = true) (hR : 0 + 1 ≤ R.frames ∧ 8 + (2 + 11) + 40 * 0 ≤ R.locals) : CallW R s args RX3 RX2 30 yX2_get cX2_get 2 (some .int) (wsm yX2_get cX2_get 2 (some .int)) (rmd 0) 0 0 1 := kwV 1 wd_178 wd_375 wd_176 wd_177 wd_19 (by decide +kernel) hts hR
set_option maxRecDepth 100000 in
theorem kw_X3_62 {R : Room} {s : State} {args : Array Value} (hts : ∀ w ∈ tw, w.before args s = true) (hR : 0 + 1 ≤ R.frames ∧ 8 + (1 + 11) + 40 * 0 ≤ R.locals) : CallB R s args RX3 62 yX3_isDigit cX3_isDigit 1 (some .boolean) (wsm yX3_isDigit cX3_isDigit 1 (some .boolean)) (rmd 0) 0 0 1 ∧ (Cond.static yX3_isDigit).before args s = true := kwS 1 wd_385 wd_383 wd_384 wd_21 (by decide +kernel) hts hR
set_option maxRecDepth 100000 in
theorem kw_X3_45 {R : Room} {s : State} {args : Array Value} (hts : ∀ w ∈ tw, w.before args s = true) (hR : 0 + 1 ≤ R.frames ∧ 8 + (1 + 11) + 40 * 0 ≤ R.locals) : CallB R s args RX3 45 yX3_isKind cX3_isKind 1 (some .boolean) (wsm yX3_isKind cX3_isKind 1 (some .boolean)) (rmd 0) 0 0 1 ∧ (Cond.static yX3_isKind).before args s = true := kwS 1 wd_378 wd_376 wd_377 wd_21 (by decide +kernel) hts hR
set_option maxRecDepth 100000 in
theorem kw_X3_49 {R : Room} {s : State} {args : Array Value} (hts : ∀ w ∈ tw, w.before args s = true) (hR : 1 + 1 ≤ R.frames ∧ 8 + (2 + 11) + 40 * 1 ≤ R.locals) : CallW R s args RX3 RX3 49 yX3_takeNumber cX3_takeNumber 2 (some .boolean) (wsm yX3_takeNumber cX3_takeNumber 2 (some .boolean)) (rmd 1) 0 0 1 := kwV 1 wd_382 wd_379 wd_381 wd_10 wd_21 (by decide +kernel) hts hR
set_option maxRecDepth 100000 in
theorem kw_X3_59 {R : Room} {s : State} {args : Array Value} (hts : ∀ w ∈ tw, w.before args s = true) (hR : 0 + 1 ≤ R.frames ∧ 8 + (2 + 11) + 40 * 0 ≤ R.locals) : CallW R s args RX3 RX2 59 yX2_add cX2_add 2 none (wsm yX2_add cX2_add 2 none) (rmd 0) 0 0 1 := kwV 1 wd_182 wd_389 wd_180 wd_181 wd_19 (by decide +kernel) hts hR
set_option maxRecDepth 100000 in
theorem kw_X3_55 {R : Room} {s : State} {args : Array Value} (hts : ∀ w ∈ tw, w.before args s = true) (hR : 0 + 1 ≤ R.frames ∧ 8 + (2 + 11) + 40 * 0 ≤ R.locals) : CallB R s args RX3 55 yX3_fits cX3_fits 2 (some .boolean) (wsm yX3_fits cX3_fits 2 (some .boolean)) (rmd 0) 0 0 2 ∧ (Cond.static yX3_fits).before args s = true := kwS 2 wd_388 wd_386 wd_387 wd_21 (by decide +kernel) hts hR
set_option maxRecDepth 100000 in
theorem kw_X3_34 {R : Room} {s : State} {args : Array Value} (hts : ∀ w ∈ tw, w.before args s = true) (hR : 0 + 1 ≤ R.frames ∧ 8 + (1 + 11) + 40 * 0 ≤ R.locals) : CallW R s args RX3 RX2 34 yX2_clear cX2_clear 1 none (wsm yX2_clear cX2_clear 1 none) (rmd 0) 0 0 0 := kwV 0 wd_263 wd_370 wd_261 wd_262 wd_19 (by decide +kernel) hts hR
set_option maxRecDepth 100000 in
theorem kw_X3_41 {R : Room} {s : State} {args : Array Value} (hts : ∀ w ∈ tw, w.before args s = true) (hR : 2 + 1 ≤ R.frames ∧ 8 + (6 + 11) + 40 * 2 ≤ R.locals) : CallW R s args RX3 RX3 41 yX3_takeCommand cX3_takeCommand 6 (some .boolean) (wsm yX3_takeCommand cX3_takeCommand 6 (some .boolean)) (rmd 2) 0 0 1 := kwV 1 wd_374 wd_371 wd_373 wd_9 wd_21 (by decide +kernel) hts hR
set_option maxRecDepth 100000 in
theorem kw_X4_205 {R : Room} {s : State} {args : Array Value} (hts : ∀ w ∈ tw, w.before args s = true) (hR : 1 + 1 ≤ R.frames ∧ 8 + (1 + 11) + 40 * 1 ≤ R.locals) : CallW R s args RX4 RX1 205 yX1_banks cX1_banks 1 (some .int) (wsm yX1_banks cX1_banks 1 (some .int)) (rmd 1) 0 0 0 := kwV 0 wd_194 wd_191 wd_192 wd_193 wd_18 (by decide +kernel) hts hR
set_option maxRecDepth 100000 in
theorem kw_X4_208 {R : Room} {s : State} {args : Array Value} (hts : ∀ w ∈ tw, w.before args s = true) (hR : 1 + 1 ≤ R.frames ∧ 8 + (3 + 11) + 40 * 1 ≤ R.locals) : CallW R s args RX4 RX1 208 yX1_ropes cX1_ropes 3 (some .int) (wsm yX1_ropes cX1_ropes 3 (some .int)) (rmd 1) 0 0 0 := kwV 0 wd_566 wd_563 wd_564 wd_565 wd_18 (by decide +kernel) hts hR
set_option maxRecDepth 100000 in
theorem kw_X4_211 {R : Room} {s : State} {args : Array Value} (hts : ∀ w ∈ tw, w.before args s = true) (hR : 2 + 1 ≤ R.frames ∧ 8 + (3 + 11) + 40 * 2 ≤ R.locals) : CallW R s args RX4 RX1 211 yX1_parts cX1_parts 3 (some .int) (wsm yX1_parts cX1_parts 3 (some .int)) (rmd 2) 0 0 0 := kwV 0 wd_570 wd_567 wd_568 wd_569 wd_18 (by decide +kernel) hts hR
set_option maxRecDepth 100000 in
theorem kw_X4_214 {R : Room} {s : State} {args : Array Value} (hts : ∀ w ∈ tw, w.before args s = true) (hR : 1 + 1 ≤ R.frames ∧ 8 + (1 + 11) + 40 * 1 ≤ R.locals) : CallW R s args RX4 RX1 214 yX1_allBanks cX1_allBanks 1 (some .int) (wsm yX1_allBanks cX1_allBanks 1 (some .int)) (rmd 1) 0 0 0 := kwV 0 wd_578 wd_575 wd_576 wd_577 wd_18 (by decide +kernel) hts hR
set_option maxRecDepth 100000 in
theorem kw_X4_126 {R : Room} {s : State} {args : Array Value} (hts : ∀ w ∈ tw, w.before args s = true) (hR : 1 + 1 ≤ R.frames ∧ 8 + (4 + 11) + 40 * 1 ≤ R.locals) : CallW R s args RX4 RX1 126 yX1_weightOfAll cX1_weightOfAll 4 (some .int) (wsm yX1_weightOfAll cX1_weightOfAll 4 (some .int)) (rmd 1) 0 0 1 := kwV 1 wd_547 wd_544 wd_545 wd_546 wd_18 (by decide +kernel) hts hR
set_option maxRecDepth 100000 in
theorem kw_X4_217 {R : Room} {s : State} {args : Array Value} (hts : ∀ w ∈ tw, w.before args s = true) (hR : 1 + 1 ≤ R.frames ∧ 8 + (3 + 11) + 40 * 1 ≤ R.locals) : CallW R s args RX4 RX1 217 yX1_places cX1_places 3 (some .int) (wsm yX1_places cX1_places 3 (some .int)) (rmd 1) 0 0 0 := kwV 0 wd_582 wd_579 wd_580 wd_581 wd_18 (by decide +kernel) hts hR
set_option maxRecDepth 100000 in
theorem kw_X4_220 {R : Room} {s : State} {args : Array Value} (hts : ∀ w ∈ tw, w.before args s = true) (hR : 0 + 1 ≤ R.frames ∧ 8 + (1 + 11) + 40 * 0 ≤ R.locals) : CallW R s args RX4 RX1 220 yX1_joinsSoFar cX1_joinsSoFar 1 (some .int) (wsm yX1_joinsSoFar cX1_joinsSoFar 1 (some .int)) (rmd 0) 0 0 0 := kwV 0 wd_586 wd_583 wd_584 wd_585 wd_18 (by decide +kernel) hts hR
set_option maxRecDepth 100000 in
theorem kw_X4_223 {R : Room} {s : State} {args : Array Value} (hts : ∀ w ∈ tw, w.before args s = true) (hR : 0 + 1 ≤ R.frames ∧ 8 + (1 + 11) + 40 * 0 ≤ R.locals) : CallW R s args RX4 RX1 223 yX1_cutsSoFar cX1_cutsSoFar 1 (some .int) (wsm yX1_cutsSoFar cX1_cutsSoFar 1 (some .int)) (rmd 0) 0 0 0 := kwV 0 wd_590 wd_587 wd_588 wd_589 wd_18 (by decide +kernel) hts hR
set_option maxRecDepth 100000 in
theorem kw_X4_226 {R : Room} {s : State} {args : Array Value} (hts : ∀ w ∈ tw, w.before args s = true) (hR : 0 + 1 ≤ R.frames ∧ 8 + (1 + 11) + 40 * 0 ≤ R.locals) : CallW R s args RX4 RX1 226 yX1_turnsSoFar cX1_turnsSoFar 1 (some .int) (wsm yX1_turnsSoFar cX1_turnsSoFar 1 (some .int)) (rmd 0) 0 0 0 := kwV 0 wd_594 wd_591 wd_592 wd_593 wd_18 (by decide +kernel) hts hR
set_option maxRecDepth 100000 in
theorem kw_X4_142 {R : Room} {s : State} {args : Array Value} (hts : ∀ w ∈ tw, w.before args s = true) (hR : 5 + 1 ≤ R.frames ∧ 8 + (4 + 11) + 40 * 5 ≤ R.locals) : CallW R s args RX4 RX1 142 yX1_greatestDepth cX1_greatestDepth 4 (some .int) (wsm yX1_greatestDepth cX1_greatestDepth 4 (some .int)) (rmd 5) 0 0 1 := kwV 1 wd_598 wd_595 wd_596 wd_597 wd_18 (by decide +kernel) hts hR
set_option maxRecDepth 100000 in
theorem kw_X4_138 {R : Room} {s : State} {args : Array Value} (hts : ∀ w ∈ tw, w.before args s = true) (hR : 0 + 1 ≤ R.frames ∧ 8 + (1 + 11) + 40 * 0 ≤ R.locals) : CallW R s args RX4 RX2 138 yX2_length cX2_length 1 (some .int) (wsm yX2_length cX2_length 1 (some .int)) (rmd 0) 0 0 0 := kwV 0 wd_198 wd_513 wd_196 wd_197 wd_19 (by decide +kernel) hts hR
set_option maxRecDepth 100000 in
theorem kw_X4_229 {R : Room} {s : State} {args : Array Value} (hts : ∀ w ∈ tw, w.before args s = true) (hR : 0 + 1 ≤ R.frames ∧ 8 + (1 + 11) + 40 * 0 ≤ R.locals) : CallW R s args RX4 RX0 229 yX0_count cX0_count 1 (some .int) (wsm yX0_count cX0_count 1 (some .int)) (rmd 0) 0 0 0 := kwV 0 wd_440 wd_437 wd_438 wd_439 wd_20 (by decide +kernel) hts hR
set_option maxRecDepth 100000 in
theorem kw_X4_260 {R : Room} {s : State} {args : Array Value} (hts : ∀ w ∈ tw, w.before args s = true) (hR : 1 + 1 ≤ R.frames ∧ 8 + (3 + 11) + 40 * 1 ≤ R.locals) : CallW R s args RX4 RX1 260 yX1_addBankOf cX1_addBankOf 3 (some .int) (wsm yX1_addBankOf cX1_addBankOf 3 (some .int)) (rmd 1) 0 0 1 := kwV 1 wd_206 wd_203 wd_204 wd_205 wd_18 (by decide +kernel) hts hR
set_option maxRecDepth 100000 in
theorem kw_X4_257 {R : Room} {s : State} {args : Array Value} (hts : ∀ w ∈ tw, w.before args s = true) (hR : 0 + 1 ≤ R.frames ∧ 8 + (3 + 11) + 40 * 0 ≤ R.locals) : CallW R s args RX4 RX4 257 yX4_refuse cX4_refuse 3 (some .int) (wsm yX4_refuse cX4_refuse 3 (some .int)) (rmd 0) 0 0 2 := kwV 2 wd_202 wd_199 wd_201 wd_2 wd_17 (by decide +kernel) hts hR
set_option maxRecDepth 100000 in
theorem kw_X4_180 {R : Room} {s : State} {args : Array Value} (hts : ∀ w ∈ tw, w.before args s = true) (hR : 0 + 1 ≤ R.frames ∧ 8 + (2 + 11) + 40 * 0 ≤ R.locals) : CallW R s args RX4 RX2 180 yX2_add cX2_add 2 none (wsm yX2_add cX2_add 2 none) (rmd 0) 0 0 1 := kwV 1 wd_182 wd_514 wd_180 wd_181 wd_19 (by decide +kernel) hts hR
set_option maxRecDepth 100000 in
theorem kw_X4_89 {R : Room} {s : State} {args : Array Value} (hts : ∀ w ∈ tw, w.before args s = true) (hR : 1 + 1 ≤ R.frames ∧ 8 + (2 + 11) + 40 * 1 ≤ R.locals) : CallW R s args RX4 RX1 89 yX1_has cX1_has 2 (some .boolean) (wsm yX1_has cX1_has 2 (some .boolean)) (rmd 1) 0 0 1 := kwV 1 wd_234 wd_231 wd_232 wd_233 wd_18 (by decide +kernel) hts hR
set_option maxRecDepth 100000 in
theorem kw_X4_76 {R : Room} {s : State} {args : Array Value} (hts : ∀ w ∈ tw, w.before args s = true) (hR : 2 + 1 ≤ R.frames ∧ 8 + (3 + 11) + 40 * 2 ≤ R.locals) : CallW R s args RX4 RX4 76 yX4_areThere cX4_areThere 3 (some .boolean) (wsm yX4_areThere cX4_areThere 3 (some .boolean)) (rmd 2) 0 0 2 := kwV 2 wd_230 wd_227 wd_229 wd_5 wd_17 (by decide +kernel) hts hR
set_option maxRecDepth 100000 in
theorem kw_X4_80 {R : Room} {s : State} {args : Array Value} (hts : ∀ w ∈ tw, w.before args s = true) (hR : 3 + 1 ≤ R.frames ∧ 8 + (3 + 11) + 40 * 3 ≤ R.locals) : CallW R s args RX4 RX1 80 yX1_isOnePart cX1_isOnePart 3 (some .boolean) (wsm yX1_isOnePart cX1_isOnePart 3 (some .boolean)) (rmd 3) 0 0 2 := kwV 2 wd_238 wd_235 wd_236 wd_237 wd_18 (by decide +kernel) hts hR
set_option maxRecDepth 100000 in
theorem kw_X4_83 {R : Room} {s : State} {args : Array Value} (hts : ∀ w ∈ tw, w.before args s = true) (hR : 3 + 1 ≤ R.frames ∧ 8 + (8 + 11) + 40 * 3 ≤ R.locals) : CallW R s args RX4 RX1 83 yX1_reached cX1_reached 8 (some .int) (wsm yX1_reached cX1_reached 8 (some .int)) (rmd 3) 0 0 2 := kwV 2 wd_661 wd_729 wd_659 wd_660 wd_18 (by decide +kernel) hts hR
set_option maxRecDepth 100000 in
theorem kw_X4_86 {R : Room} {s : State} {args : Array Value} (hts : ∀ w ∈ tw, w.before args s = true) (hR : 0 + 1 ≤ R.frames ∧ 8 + (1 + 11) + 40 * 0 ≤ R.locals) : CallB R s args RX4 86 yX4_bit cX4_bit 1 (some .int) (wsm yX4_bit cX4_bit 1 (some .int)) (rmd 0) 0 0 1 ∧ (Cond.static yX4_bit).before args s = true := kwS 1 wd_280 wd_695 wd_279 wd_17 (by decide +kernel) hts hR
set_option maxRecDepth 100000 in
theorem kw_X4_289 {R : Room} {s : State} {args : Array Value} (hts : ∀ w ∈ tw, w.before args s = true) (hR : 1 + 1 ≤ R.frames ∧ 8 + (1 + 11) + 40 * 1 ≤ R.locals) : CallW R s args RX4 RX0 289 yX0_confirm cX0_confirm 1 none (wsm yX0_confirm cX0_confirm 1 none) (rmd 1) 0 0 0 := kwV 0 wd_215 wd_212 wd_213 wd_214 wd_20 (by decide +kernel) hts hR
set_option maxRecDepth 100000 in
theorem kw_X4_49 {R : Room} {s : State} {args : Array Value} (hts : ∀ w ∈ tw, w.before args s = true) (hR : 3 + 1 ≤ R.frames ∧ 8 + (3 + 11) + 40 * 3 ≤ R.locals) : CallW R s args RX4 RX0 49 yX0_note cX0_note 3 none (wsm yX0_note cX0_note 3 none) (rmd 3) 0 0 1 := kwV 1 wd_166 wd_163 wd_164 wd_165 wd_20 (by decide +kernel) hts hR
set_option maxRecDepth 100000 in
theorem kw_X4_53 {R : Room} {s : State} {args : Array Value} (hts : ∀ w ∈ tw, w.before args s = true) (hR : 2 + 1 ≤ R.frames ∧ 8 + (2 + 11) + 40 * 2 ≤ R.locals) : CallW R s args RX4 RX4 53 yX4_addBank cX4_addBank 2 (some .int) (wsm yX4_addBank cX4_addBank 2 (some .int)) (rmd 2) 0 0 1 := kwV 1 wd_190 wd_187 wd_189 wd_1 wd_17 (by decide +kernel) hts hR
set_option maxRecDepth 100000 in
theorem kw_X4_57 {R : Room} {s : State} {args : Array Value} (hts : ∀ w ∈ tw, w.before args s = true) (hR : 2 + 1 ≤ R.frames ∧ 8 + (2 + 11) + 40 * 2 ≤ R.locals) : CallW R s args RX4 RX4 57 yX4_settle cX4_settle 2 (some .int) (wsm yX4_settle cX4_settle 2 (some .int)) (rmd 2) 0 0 1 := kwV 1 wd_211 wd_208 wd_210 wd_3 wd_17 (by decide +kernel) hts hR
set_option maxRecDepth 100000 in
theorem kw_X4_93 {R : Room} {s : State} {args : Array Value} (hts : ∀ w ∈ tw, w.before args s = true) (hR : 1 + 1 ≤ R.frames ∧ 8 + (2 + 11) + 40 * 1 ≤ R.locals) : CallW R s args RX4 RX1 93 yX1_weightOf cX1_weightOf 2 (some .int) (wsm yX1_weightOf cX1_weightOf 2 (some .int)) (rmd 1) 0 0 1 := kwV 1 wd_419 wd_416 wd_417 wd_418 wd_18 (by decide +kernel) hts hR
set_option maxRecDepth 100000 in
theorem kw_X4_96 {R : Room} {s : State} {args : Array Value} (hts : ∀ w ∈ tw, w.before args s = true) (hR : 1 + 1 ≤ R.frames ∧ 8 + (3 + 11) + 40 * 1 ≤ R.locals) : CallW R s args RX4 RX1 96 yX1_rootOf cX1_rootOf 3 (some .int) (wsm yX1_rootOf cX1_rootOf 3 (some .int)) (rmd 1) 0 0 1 := kwV 1 wd_246 wd_251 wd_244 wd_245 wd_18 (by decide +kernel) hts hR
set_option maxRecDepth 100000 in
theorem kw_X4_99 {R : Room} {s : State} {args : Array Value} (hts : ∀ w ∈ tw, w.before args s = true) (hR : 4 + 1 ≤ R.frames ∧ 8 + (2 + 11) + 40 * 4 ≤ R.locals) : CallW R s args RX4 RX1 99 yX1_depthOf cX1_depthOf 2 (some .int) (wsm yX1_depthOf cX1_depthOf 2 (some .int)) (rmd 4) 0 0 1 := kwV 1 wd_525 wd_522 wd_523 wd_524 wd_18 (by decide +kernel) hts hR
set_option maxRecDepth 100000 in
theorem kw_X4_102 {R : Room} {s : State} {args : Array Value} (hts : ∀ w ∈ tw, w.before args s = true) (hR : 2 + 1 ≤ R.frames ∧ 8 + (2 + 11) + 40 * 2 ≤ R.locals) : CallW R s args RX4 RX1 102 yX1_roundOf cX1_roundOf 2 (some (.object "FerryRounds$Row")) (wsm yX1_roundOf cX1_roundOf 2 (some (.object "FerryRounds$Row"))) (rmd 2) 0 0 1 := kwV 1 wd_242 wd_532 wd_240 wd_241 wd_18 (by decide +kernel) hts hR
set_option maxRecDepth 100000 in
theorem kw_X4_106 {R : Room} {s : State} {args : Array Value} (hts : ∀ w ∈ tw, w.before args s = true) (hR : 0 + 1 ≤ R.frames ∧ 8 + (3 + 11) + 40 * 0 ≤ R.locals) : CallW R s args RX4 RX2 106 yX2_firstOf cX2_firstOf 3 (some .int) (wsm yX2_firstOf cX2_firstOf 3 (some .int)) (rmd 0) 0 0 1 := kwV 1 wd_250 wd_533 wd_248 wd_249 wd_19 (by decide +kernel) hts hR
set_option maxRecDepth 100000 in
theorem kw_X4_109 {R : Room} {s : State} {args : Array Value} (hts : ∀ w ∈ tw, w.before args s = true) (hR : 1 + 1 ≤ R.frames ∧ 8 + (3 + 11) + 40 * 1 ≤ R.locals) : CallW R s args RX4 RX2 109 yX2_lastOf cX2_lastOf 3 (some .int) (wsm yX2_lastOf cX2_lastOf 3 (some .int)) (rmd 1) 0 0 1 := kwV 1 wd_327 wd_534 wd_325 wd_326 wd_19 (by decide +kernel) hts hR
set_option maxRecDepth 100000 in
theorem kw_X4_112 {R : Room} {s : State} {args : Array Value} (hts : ∀ w ∈ tw, w.before args s = true) (hR : 2 + 1 ≤ R.frames ∧ 8 + (2 + 11) + 40 * 2 ≤ R.locals) : CallW R s args RX4 RX1 112 yX1_ropesOf cX1_ropesOf 2 (some .int) (wsm yX1_ropesOf cX1_ropesOf 2 (some .int)) (rmd 2) 0 0 1 := kwV 1 wd_275 wd_535 wd_273 wd_274 wd_18 (by decide +kernel) hts hR
set_option maxRecDepth 100000 in
theorem kw_X4_120 {R : Room} {s : State} {args : Array Value} (hts : ∀ w ∈ tw, w.before args s = true) (hR : 3 + 1 ≤ R.frames ∧ 8 + (4 + 11) + 40 * 3 ≤ R.locals) : CallW R s args RX4 RX1 120 yX1_justAbove cX1_justAbove 4 (some .int) (wsm yX1_justAbove cX1_justAbove 4 (some .int)) (rmd 3) 0 0 1 := kwV 1 wd_539 wd_536 wd_537 wd_538 wd_18 (by decide +kernel) hts hR
set_option maxRecDepth 100000 in
theorem kw_X4_123 {R : Room} {s : State} {args : Array Value} (hts : ∀ w ∈ tw, w.before args s = true) (hR : 3 + 1 ≤ R.frames ∧ 8 + (3 + 11) + 40 * 3 ≤ R.locals) : CallW R s args RX4 RX1 123 yX1_belowOf cX1_belowOf 3 (some .int) (wsm yX1_belowOf cX1_belowOf 3 (some .int)) (rmd 3) 0 0 1 := kwV 1 wd_543 wd_540 wd_541 wd_542 wd_18 (by decide +kernel) hts hR
set_option maxRecDepth 100000 in
theorem kw_X4_129 {R : Room} {s : State} {args : Array Value} (hts : ∀ w ∈ tw, w.before args s = true) (hR : 4 + 1 ≤ R.frames ∧ 8 + (3 + 11) + 40 * 4 ≤ R.locals) : CallW R s args RX4 RX1 129 yX1_reachedBelow cX1_reachedBelow 3 (some .int) (wsm yX1_reachedBelow cX1_reachedBelow 3 (some .int)) (rmd 4) 0 0 1 := kwV 1 wd_681 wd_700 wd_679 wd_680 wd_18 (by decide +kernel) hts hR
set_option maxRecDepth 100000 in
theorem kw_X4_148 {R : Room} {s : State} {args : Array Value} (hts : ∀ w ∈ tw, w.before args s = true) (hR : 3 + 1 ≤ R.frames ∧ 8 + (3 + 11) + 40 * 3 ≤ R.locals) : CallW R s args RX4 RX1 148 yX1_isTied cX1_isTied 3 (some .boolean) (wsm yX1_isTied cX1_isTied 3 (some .boolean)) (rmd 3) 0 0 2 := kwV 2 wd_315 wd_312 wd_313 wd_314 wd_18 (by decide +kernel) hts hR
set_option maxRecDepth 100000 in
theorem kw_X4_160 {R : Room} {s : State} {args : Array Value} (hts : ∀ w ∈ tw, w.before args s = true) (hR : 3 + 1 ≤ R.frames ∧ 8 + (4 + 11) + 40 * 3 ≤ R.locals) : CallW R s args RX4 RX1 160 yX1_lowerOf cX1_lowerOf 4 (some .int) (wsm yX1_lowerOf cX1_lowerOf 4 (some .int)) (rmd 3) 0 0 2 := kwV 2 wd_319 wd_316 wd_317 wd_318 wd_18 (by decide +kernel) hts hR
set_option maxRecDepth 100000 in
theorem kw_X4_273 {R : Room} {s : State} {args : Array Value} (hts : ∀ w ∈ tw, w.before args s = true) (hR : 3 + 1 ≤ R.frames ∧ 8 + (6 + 11) + 40 * 3 ≤ R.locals) : CallW R s args RX4 RX1 273 yX1_untie cX1_untie 6 none (wsm yX1_untie cX1_untie 6 none) (rmd 3) 0 0 2 := kwV 2 wd_323 wd_320 wd_321 wd_322 wd_18 (by decide +kernel) hts hR
set_option maxRecDepth 100000 in
theorem kw_X4_267 {R : Room} {s : State} {args : Array Value} (hts : ∀ w ∈ tw, w.before args s = true) (hR : 3 + 1 ≤ R.frames ∧ 8 + (5 + 11) + 40 * 3 ≤ R.locals) : CallW R s args RX4 RX1 267 yX1_turnTo cX1_turnTo 5 none (wsm yX1_turnTo cX1_turnTo 5 none) (rmd 3) 0 0 1 := kwV 1 wd_255 wd_252 wd_253 wd_254 wd_18 (by decide +kernel) hts hR
set_option maxRecDepth 100000 in
theorem kw_X4_270 {R : Room} {s : State} {args : Array Value} (hts : ∀ w ∈ tw, w.before args s = true) (hR : 3 + 1 ≤ R.frames ∧ 8 + (6 + 11) + 40 * 3 ≤ R.locals) : CallW R s args RX4 RX1 270 yX1_tie cX1_tie 6 none (wsm yX1_tie cX1_tie 6 none) (rmd 3) 0 0 2 := kwV 2 wd_267 wd_264 wd_265 wd_266 wd_18 (by decide +kernel) hts hR
set_option maxRecDepth 100000 in
theorem kw_X4_135 {R : Room} {s : State} {args : Array Value} (hts : ∀ w ∈ tw, w.before args s = true) (hR : 3 + 1 ≤ R.frames ∧ 8 + (2 + 11) + 40 * 3 ≤ R.locals) : CallW R s args RX4 RX1 135 yX1_banksWith cX1_banksWith 2 (some .int) (wsm yX1_banksWith cX1_banksWith 2 (some .int)) (rmd 3) 0 0 1 := kwV 1 wd_288 wd_285 wd_286 wd_287 wd_18 (by decide +kernel) hts hR
set_option maxRecDepth 100000 in
theorem kw_X4_279 {R : Room} {s : State} {args : Array Value} (hts : ∀ w ∈ tw, w.before args s = true) (hR : 1 + 1 ≤ R.frames ∧ 8 + (7 + 11) + 40 * 1 ≤ R.locals) : CallW R s args RX4 RX1 279 yX1_raiseAll cX1_raiseAll 7 (some .int) (wsm yX1_raiseAll cX1_raiseAll 7 (some .int)) (rmd 1) 0 0 2 := kwV 2 wd_357 wd_354 wd_355 wd_356 wd_18 (by decide +kernel) hts hR
set_option maxRecDepth 100000 in
theorem kw_X4_263 {R : Room} {s : State} {args : Array Value} (hts : ∀ w ∈ tw, w.before args s = true) (hR : 1 + 1 ≤ R.frames ∧ 8 + (3 + 11) + 40 * 1 ≤ R.locals) : CallW R s args RX4 RX1 263 yX1_putWeight cX1_putWeight 3 none (wsm yX1_putWeight cX1_putWeight 3 none) (rmd 1) 0 0 2 := kwV 2 wd_423 wd_420 wd_421 wd_422 wd_18 (by decide +kernel) hts hR
set_option maxRecDepth 100000 in
theorem kw_X4_276 {R : Room} {s : State} {args : Array Value} (hts : ∀ w ∈ tw, w.before args s = true) (hR : 0 + 1 ≤ R.frames ∧ 8 + (1 + 11) + 40 * 0 ≤ R.locals) : CallW R s args RX4 RX1 276 yX1_countTurn cX1_countTurn 1 none (wsm yX1_countTurn cX1_countTurn 1 none) (rmd 0) 0 0 0 := kwV 0 wd_345 wd_342 wd_343 wd_344 wd_18 (by decide +kernel) hts hR
set_option maxRecDepth 100000 in
theorem kw_X4_282 {R : Room} {s : State} {args : Array Value} (hts : ∀ w ∈ tw, w.before args s = true) (hR : 1 + 1 ≤ R.frames ∧ 8 + (2 + 11) + 40 * 1 ≤ R.locals) : CallW R s args RX4 RX3 282 yX3_firstOf cX3_firstOf 2 (some .int) (wsm yX3_firstOf cX3_firstOf 2 (some .int)) (rmd 1) 0 0 1 := kwV 1 wd_403 wd_400 wd_401 wd_402 wd_21 (by decide +kernel) hts hR
set_option maxRecDepth 100000 in
theorem kw_X4_283 {R : Room} {s : State} {args : Array Value} (hts : ∀ w ∈ tw, w.before args s = true) (hR : 1 + 1 ≤ R.frames ∧ 8 + (2 + 11) + 40 * 1 ≤ R.locals) : CallW R s args RX4 RX3 283 yX3_secondOf cX3_secondOf 2 (some .int) (wsm yX3_secondOf cX3_secondOf 2 (some .int)) (rmd 1) 0 0 1 := kwV 1 wd_407 wd_404 wd_405 wd_406 wd_21 (by decide +kernel) hts hR
set_option maxRecDepth 100000 in
theorem kw_X4_286 {R : Room} {s : State} {args : Array Value} (hts : ∀ w ∈ tw, w.before args s = true) (hR : 1 + 1 ≤ R.frames ∧ 8 + (2 + 11) + 40 * 1 ≤ R.locals) : CallW R s args RX4 RX3 286 yX3_kindOf cX3_kindOf 2 (some .int) (wsm yX3_kindOf cX3_kindOf 2 (some .int)) (rmd 1) 0 0 1 := kwV 1 wd_411 wd_408 wd_409 wd_410 wd_21 (by decide +kernel) hts hR
set_option maxRecDepth 100000 in
theorem kw_X4_67 {R : Room} {s : State} {args : Array Value} (hts : ∀ w ∈ tw, w.before args s = true) (hR : 4 + 1 ≤ R.frames ∧ 8 + (4 + 11) + 40 * 4 ≤ R.locals) : CallW R s args RX4 RX4 67 yX4_cutRope cX4_cutRope 4 (some .int) (wsm yX4_cutRope cX4_cutRope 4 (some .int)) (rmd 4) 0 0 2 := kwV 2 wd_311 wd_308 wd_310 wd_6 wd_17 (by decide +kernel) hts hR
set_option maxRecDepth 100000 in
theorem kw_X4_64 {R : Room} {s : State} {args : Array Value} (hts : ∀ w ∈ tw, w.before args s = true) (hR : 4 + 1 ≤ R.frames ∧ 8 + (3 + 11) + 40 * 4 ≤ R.locals) : CallW R s args RX4 RX4 64 yX4_joinBanks cX4_joinBanks 3 (some .int) (wsm yX4_joinBanks cX4_joinBanks 3 (some .int)) (rmd 4) 0 0 2 := kwV 2 wd_226 wd_223 wd_225 wd_4 wd_17 (by decide +kernel) hts hR
set_option maxRecDepth 100000 in
theorem kw_X4_70 {R : Room} {s : State} {args : Array Value} (hts : ∀ w ∈ tw, w.before args s = true) (hR : 4 + 1 ≤ R.frames ∧ 8 + (3 + 11) + 40 * 4 ≤ R.locals) : CallW R s args RX4 RX4 70 yX4_turnRound cX4_turnRound 3 (some .int) (wsm yX4_turnRound cX4_turnRound 3 (some .int)) (rmd 4) 0 0 1 := kwV 1 wd_341 wd_338 wd_340 wd_7 wd_17 (by decide +kernel) hts hR
set_option maxRecDepth 100000 in
theorem kw_X4_73 {R : Room} {s : State} {args : Array Value} (hts : ∀ w ∈ tw, w.before args s = true) (hR : 4 + 1 ≤ R.frames ∧ 8 + (5 + 11) + 40 * 4 ≤ R.locals) : CallW R s args RX4 RX4 73 yX4_raisePart cX4_raisePart 5 (some .int) (wsm yX4_raisePart cX4_raisePart 5 (some .int)) (rmd 4) 0 0 2 := kwV 2 wd_353 wd_350 wd_352 wd_8 wd_17 (by decide +kernel) hts hR
set_option maxRecDepth 100000 in
theorem kw_X4_60 {R : Room} {s : State} {args : Array Value} (hts : ∀ w ∈ tw, w.before args s = true) (hR : 2 + 1 ≤ R.frames ∧ 8 + (4 + 11) + 40 * 2 ≤ R.locals) : CallW R s args RX4 RX4 60 yX4_setWeight cX4_setWeight 4 (some .int) (wsm yX4_setWeight cX4_setWeight 4 (some .int)) (rmd 2) 0 0 2 := kwV 2 wd_415 wd_412 wd_414 wd_12 wd_17 (by decide +kernel) hts hR
set_option maxRecDepth 100000 in
theorem kw_X4_132 {R : Room} {s : State} {args : Array Value} (hts : ∀ w ∈ tw, w.before args s = true) (hR : 0 + 1 ≤ R.frames ∧ 8 + (2 + 11) + 40 * 0 ≤ R.locals) : CallW R s args RX4 RX2 132 yX2_get cX2_get 2 (some .int) (wsm yX2_get cX2_get 2 (some .int)) (rmd 0) 0 0 1 := kwV 1 wd_178 wd_613 wd_176 wd_177 wd_19 (by decide +kernel) hts hR
set_option maxRecDepth 100000 in
theorem kw_X4_151 {R : Room} {s : State} {args : Array Value} (hts : ∀ w ∈ tw, w.before args s = true) (hR : 3 + 1 ≤ R.frames ∧ 8 + (5 + 11) + 40 * 3 ≤ R.locals) : CallW R s args RX4 RX1 151 yX1_aboveOf cX1_aboveOf 5 (some .int) (wsm yX1_aboveOf cX1_aboveOf 5 (some .int)) (rmd 3) 0 0 1 := kwV 1 wd_529 wd_694 wd_527 wd_528 wd_18 (by decide +kernel) hts hR
set_option maxRecDepth 100000 in
theorem kw_X4_232 {R : Room} {s : State} {args : Array Value} (hts : ∀ w ∈ tw, w.before args s = true) (hR : 5 + 1 ≤ R.frames ∧ 8 + (2 + 11) + 40 * 5 ≤ R.locals) : CallW R s args RX4 RX1 232 yX1_isSound cX1_isSound 2 (some .boolean) (wsm yX1_isSound cX1_isSound 2 (some .boolean)) (rmd 5) 0 0 0 := kwV 0 wd_676 wd_673 wd_674 wd_675 wd_18 (by decide +kernel) hts hR
set_option maxRecDepth 100000 in
theorem kw_X4_236 {R : Room} {s : State} {args : Array Value} (hts : ∀ w ∈ tw, w.before args s = true) (hR : 5 + 1 ≤ R.frames ∧ 8 + (3 + 11) + 40 * 5 ≤ R.locals) : CallW R s args RX4 RX1 236 yX1_sumOfDepths cX1_sumOfDepths 3 (some .int) (wsm yX1_sumOfDepths cX1_sumOfDepths 3 (some .int)) (rmd 5) 0 0 0 := kwV 0 wd_752 wd_749 wd_750 wd_751 wd_18 (by decide +kernel) hts hR
set_option maxRecDepth 100000 in
theorem kw_X4_239 {R : Room} {s : State} {args : Array Value} (hts : ∀ w ∈ tw, w.before args s = true) (hR : 0 + 1 ≤ R.frames ∧ 8 + (4 + 11) + 40 * 0 ≤ R.locals) : CallB R s args RX4 239 yX4_bitsOf cX4_bitsOf 4 (some .int) (wsm yX4_bitsOf cX4_bitsOf 4 (some .int)) (rmd 0) 0 0 1 ∧ (Cond.static yX4_bitsOf).before args s = true := kwS 1 wd_755 wd_753 wd_754 wd_17 (by decide +kernel) hts hR
set_option maxRecDepth 100000 in
theorem kw_X4_154 {R : Room} {s : State} {args : Array Value} (hts : ∀ w ∈ tw, w.before args s = true) (hR : 5 + 1 ≤ R.frames ∧ 8 + (6 + 11) + 40 * 5 ≤ R.locals) : CallW R s args RX4 RX1 154 yX1_meetingOf cX1_meetingOf 6 (some .int) (wsm yX1_meetingOf cX1_meetingOf 6 (some .int)) (rmd 5) 0 0 2 := kwV 2 wd_715 wd_712 wd_713 wd_714 wd_18 (by decide +kernel) hts hR
set_option maxRecDepth 100000 in
theorem kw_X4_168 {R : Room} {s : State} {args : Array Value} (hts : ∀ w ∈ tw, w.before args s = true) (hR : 5 + 1 ≤ R.frames ∧ 8 + (7 + 11) + 40 * 5 ≤ R.locals) : CallW R s args RX4 RX1 168 yX1_middleWith cX1_middleWith 7 (some .int) (wsm yX1_middleWith cX1_middleWith 7 (some .int)) (rmd 5) 0 0 1 := kwV 1 wd_651 wd_648 wd_649 wd_650 wd_18 (by decide +kernel) hts hR
set_option maxRecDepth 100000 in
theorem kw_X4_145 {R : Room} {s : State} {args : Array Value} (hts : ∀ w ∈ tw, w.before args s = true) (hR : 3 + 1 ≤ R.frames ∧ 8 + (5 + 11) + 40 * 3 ≤ R.locals) : CallW R s args RX4 RX1 145 yX1_heaviestWith cX1_heaviestWith 5 (some .int) (wsm yX1_heaviestWith cX1_heaviestWith 5 (some .int)) (rmd 3) 0 0 1 := kwV 1 wd_607 wd_604 wd_605 wd_606 wd_18 (by decide +kernel) hts hR
set_option maxRecDepth 100000 in
theorem kw_X4_171 {R : Room} {s : State} {args : Array Value} (hts : ∀ w ∈ tw, w.before args s = true) (hR : 5 + 1 ≤ R.frames ∧ 8 + (3 + 11) + 40 * 5 ≤ R.locals) : CallW R s args RX4 RX1 171 yX1_rootRanked cX1_rootRanked 3 (some .int) (wsm yX1_rootRanked cX1_rootRanked 3 (some .int)) (rmd 5) 0 0 1 := kwV 1 wd_624 wd_621 wd_622 wd_623 wd_18 (by decide +kernel) hts hR
set_option maxRecDepth 100000 in
theorem kw_X4_183 {R : Room} {s : State} {args : Array Value} (hts : ∀ w ∈ tw, w.before args s = true) (hR : 3 + 1 ≤ R.frames ∧ 8 + (3 + 11) + 40 * 3 ≤ R.locals) : CallW R s args RX4 RX3 183 yX3_faultIn cX3_faultIn 3 (some .int) (wsm yX3_faultIn cX3_faultIn 3 (some .int)) (rmd 3) 0 0 1 := kwV 1 wd_369 wd_366 wd_367 wd_368 wd_21 (by decide +kernel) hts hR
set_option maxRecDepth 100000 in
theorem kw_X4_174 {R : Room} {s : State} {args : Array Value} (hts : ∀ w ∈ tw, w.before args s = true) (hR : 0 + 1 ≤ R.frames ∧ 8 + (1 + 11) + 40 * 0 ≤ R.locals) : CallW R s args RX4 RX2 174 yX2_clear cX2_clear 1 none (wsm yX2_clear cX2_clear 1 none) (rmd 0) 0 0 0 := kwV 0 wd_263 wd_391 wd_261 wd_262 wd_19 (by decide +kernel) hts hR
set_option maxRecDepth 100000 in
theorem kw_X4_187 {R : Room} {s : State} {args : Array Value} (hts : ∀ w ∈ tw, w.before args s = true) (hR : 1 + 1 ≤ R.frames ∧ 8 + (1 + 11) + 40 * 1 ≤ R.locals) : CallW R s args RX4 RX3 187 yX3_commands cX3_commands 1 (some .int) (wsm yX3_commands cX3_commands 1 (some .int)) (rmd 1) 0 0 0 := kwV 0 wd_395 wd_392 wd_393 wd_394 wd_21 (by decide +kernel) hts hR
set_option maxRecDepth 100000 in
theorem kw_X4_193 {R : Room} {s : State} {args : Array Value} (hts : ∀ w ∈ tw, w.before args s = true) (hR : 3 + 1 ≤ R.frames ∧ 8 + (2 + 11) + 40 * 3 ≤ R.locals) : CallW R s args RX4 RX0 193 yX0_takeBack cX0_takeBack 2 none (wsm yX0_takeBack cX0_takeBack 2 none) (rmd 3) 0 0 1 := kwV 1 wd_427 wd_424 wd_425 wd_426 wd_20 (by decide +kernel) hts hR
set_option maxRecDepth 100000 in
theorem kw_X4_190 {R : Room} {s : State} {args : Array Value} (hts : ∀ w ∈ tw, w.before args s = true) (hR : 5 + 1 ≤ R.frames ∧ 8 + (4 + 11) + 40 * 5 ≤ R.locals) : CallW R s args RX4 RX4 190 yX4_carryOut cX4_carryOut 4 (some .int) (wsm yX4_carryOut cX4_carryOut 4 (some .int)) (rmd 5) 0 0 1 := kwV 1 wd_399 wd_396 wd_398 wd_11 wd_17 (by decide +kernel) hts hR
set_option maxRecDepth 100000 in
theorem kw_X4_247 {R : Room} {s : State} {args : Array Value} (hts : ∀ w ∈ tw, w.before args s = true) (hR : 2 + 1 ≤ R.frames ∧ 8 + (3 + 11) + 40 * 2 ≤ R.locals) : CallW R s args RX4 RX1 247 yX1_copyFrom cX1_copyFrom 3 none (wsm yX1_copyFrom cX1_copyFrom 3 none) (rmd 2) 0 0 1 := kwV 1 wd_170 wd_445 wd_168 wd_169 wd_18 (by decide +kernel) hts hR
set_option maxRecDepth 100000 in
theorem kw_X4_254 {R : Room} {s : State} {args : Array Value} (hts : ∀ w ∈ tw, w.before args s = true) (hR : 0 + 1 ≤ R.frames ∧ 8 + (1 + 11) + 40 * 0 ≤ R.locals) : CallW R s args RX4 RX0 254 yX0_forget cX0_forget 1 none (wsm yX0_forget cX0_forget 1 none) (rmd 0) 0 0 0 := kwV 0 wd_453 wd_450 wd_451 wd_452 wd_20 (by decide +kernel) hts hR
set_option maxRecDepth 100000 in
theorem kw_X4_243 {R : Room} {s : State} {args : Array Value} (hts : ∀ w ∈ tw, w.before args s = true) (hR : 4 + 1 ≤ R.frames ∧ 8 + (2 + 11) + 40 * 4 ≤ R.locals) : CallW R s args RX4 RX0 243 yX0_goBack cX0_goBack 2 (some .boolean) (wsm yX0_goBack cX0_goBack 2 (some .boolean)) (rmd 4) 0 0 1 := kwV 1 wd_435 wd_432 wd_433 wd_434 wd_20 (by decide +kernel) hts hR
set_option maxRecDepth 100000 in
theorem kw_X4_157 {R : Room} {s : State} {args : Array Value} (hts : ∀ w ∈ tw, w.before args s = true) (hR : 4 + 1 ≤ R.frames ∧ 8 + (5 + 11) + 40 * 4 ≤ R.locals) : CallW R s args RX4 RX1 157 yX1_stepsAbove cX1_stepsAbove 5 (some .int) (wsm yX1_stepsAbove cX1_stepsAbove 5 (some .int)) (rmd 4) 0 0 2 := kwV 2 wd_723 wd_720 wd_721 wd_722 wd_18 (by decide +kernel) hts hR
set_option maxRecDepth 100000 in
theorem kw_Jxf58ca_59 {R : Room} {s : State} {args : Array Value} (hts : ∀ w ∈ tw, w.before args s = true) (hR : 0 + 1 ≤ R.frames ∧ 8 + (1 + 11) + 40 * 0 ≤ R.locals) : CallB R s args RJxf58ca 59 yJxf58ca_isNaN_12338 cJxf58ca_isNaN_12338 1 (some .boolean) (wsm yJxf58ca_isNaN_12338 cJxf58ca_isNaN_12338 1 (some .boolean)) (rmd 0) 0 0 1 ∧ (Cond.static yJxf58ca_isNaN_12338).before args s = true := kwS 1 wd_762 wd_760 wd_761 wd_28 (by decide +kernel) hts hR
set_option maxRecDepth 100000 in
theorem kw_L_84 {R : Room} {s : State} {args : Array Value} (hts : ∀ w ∈ tw, w.before args s = true) (hR : 4 + 1 ≤ R.frames ∧ 8 + (3 + 11) + 40 * 4 ≤ R.locals) : CallW R s args RL RX4 84 yX4_isBelow cX4_isBelow 3 (some .int) (wsm yX4_isBelow cX4_isBelow 3 (some .int)) (rmd 4) 0 0 2 := kwV 2 wd_693 wd_690 wd_691 wd_692 wd_17 (by decide +kernel) hts hR
set_option maxRecDepth 100000 in
theorem kw_L_110 {R : Room} {s : State} {args : Array Value} (hts : ∀ w ∈ tw, w.before args s = true) (hR : 4 + 1 ≤ R.frames ∧ 8 + (5 + 11) + 40 * 4 ≤ R.locals) : CallW R s args RL RX4 110 yX4_wouldDiffer cX4_wouldDiffer 5 (some .int) (wsm yX4_wouldDiffer cX4_wouldDiffer 5 (some .int)) (rmd 4) 0 0 2 := kwV 2 wd_740 wd_737 wd_738 wd_739 wd_17 (by decide +kernel) hts hR
set_option maxRecDepth 100000 in
theorem kw_L_75 {R : Room} {s : State} {args : Array Value} (hts : ∀ w ∈ tw, w.before args s = true) (hR : 6 + 1 ≤ R.frames ∧ 8 + (3 + 11) + 40 * 6 ≤ R.locals) : CallW R s args RL RX4 75 yX4_partOf cX4_partOf 3 (some .int) (wsm yX4_partOf cX4_partOf 3 (some .int)) (rmd 6) 0 0 2 := kwV 2 wd_603 wd_600 wd_601 wd_602 wd_17 (by decide +kernel) hts hR
set_option maxRecDepth 100000 in
theorem kw_L_34 {R : Room} {s : State} {args : Array Value} (hts : ∀ w ∈ tw, w.before args s = true) (hR : 5 + 1 ≤ R.frames ∧ 8 + (3 + 11) + 40 * 5 ≤ R.locals) : CallW R s args RL RX4 34 yX4_bankOf cX4_bankOf 3 (some .int) (wsm yX4_bankOf cX4_bankOf 3 (some .int)) (rmd 5) 0 0 2 := kwV 2 wd_521 wd_518 wd_519 wd_520 wd_17 (by decide +kernel) hts hR
set_option maxRecDepth 100000 in
theorem kw_L_72 {R : Room} {s : State} {args : Array Value} (hts : ∀ w ∈ tw, w.before args s = true) (hR : 6 + 1 ≤ R.frames ∧ 8 + (2 + 11) + 40 * 6 ≤ R.locals) : CallW R s args RL RX4 72 yX4_account cX4_account 2 (some .int) (wsm yX4_account cX4_account 2 (some .int)) (rmd 6) 0 0 1 := kwV 1 wd_562 wd_559 wd_560 wd_561 wd_17 (by decide +kernel) hts hR
set_option maxRecDepth 100000 in
theorem kw_L_78 {R : Room} {s : State} {args : Array Value} (hts : ∀ w ∈ tw, w.before args s = true) (hR : 3 + 1 ≤ R.frames ∧ 8 + (3 + 11) + 40 * 3 ≤ R.locals) : CallW R s args RL RX4 78 yX4_inRound cX4_inRound 3 (some .int) (wsm yX4_inRound cX4_inRound 3 (some .int)) (rmd 3) 0 0 2 := kwV 2 wd_612 wd_609 wd_610 wd_611 wd_17 (by decide +kernel) hts hR
set_option maxRecDepth 100000 in
theorem kw_L_87 {R : Room} {s : State} {args : Array Value} (hts : ∀ w ∈ tw, w.before args s = true) (hR : 5 + 1 ≤ R.frames ∧ 8 + (2 + 11) + 40 * 5 ≤ R.locals) : CallW R s args RL RX4 87 yX4_belowAgain cX4_belowAgain 2 (some .int) (wsm yX4_belowAgain cX4_belowAgain 2 (some .int)) (rmd 5) 0 0 1 := kwV 1 wd_699 wd_696 wd_697 wd_698 wd_17 (by decide +kernel) hts hR
set_option maxRecDepth 100000 in
theorem kw_L_81 {R : Room} {s : State} {args : Array Value} (hts : ∀ w ∈ tw, w.before args s = true) (hR : 4 + 1 ≤ R.frames ∧ 8 + (3 + 11) + 40 * 4 ≤ R.locals) : CallW R s args RL RX4 81 yX4_isRope cX4_isRope 3 (some .int) (wsm yX4_isRope cX4_isRope 3 (some .int)) (rmd 4) 0 0 2 := kwV 2 wd_640 wd_637 wd_638 wd_639 wd_17 (by decide +kernel) hts hR
set_option maxRecDepth 100000 in
theorem kw_L_90 {R : Room} {s : State} {args : Array Value} (hts : ∀ w ∈ tw, w.before args s = true) (hR : 4 + 1 ≤ R.frames ∧ 8 + (3 + 11) + 40 * 4 ≤ R.locals) : CallW R s args RL RX4 90 yX4_areJoined cX4_areJoined 3 (some .int) (wsm yX4_areJoined cX4_areJoined 3 (some .int)) (rmd 4) 0 0 2 := kwV 2 wd_707 wd_704 wd_705 wd_706 wd_17 (by decide +kernel) hts hR
set_option maxRecDepth 100000 in
theorem kw_L_93 {R : Room} {s : State} {args : Array Value} (hts : ∀ w ∈ tw, w.before args s = true) (hR : 6 + 1 ≤ R.frames ∧ 8 + (3 + 11) + 40 * 6 ≤ R.locals) : CallW R s args RL RX4 93 yX4_meet cX4_meet 3 (some .int) (wsm yX4_meet cX4_meet 3 (some .int)) (rmd 6) 0 0 2 := kwV 2 wd_711 wd_708 wd_709 wd_710 wd_17 (by decide +kernel) hts hR
set_option maxRecDepth 100000 in
theorem kw_L_96 {R : Room} {s : State} {args : Array Value} (hts : ∀ w ∈ tw, w.before args s = true) (hR : 6 + 1 ≤ R.frames ∧ 8 + (7 + 11) + 40 * 6 ≤ R.locals) : CallW R s args RL RX4 96 yX4_way cX4_way 7 (some .int) (wsm yX4_way cX4_way 7 (some .int)) (rmd 6) 0 0 3 := kwV 3 wd_719 wd_716 wd_717 wd_718 wd_17 (by decide +kernel) hts hR
set_option maxRecDepth 100000 in
theorem kw_L_100 {R : Room} {s : State} {args : Array Value} (hts : ∀ w ∈ tw, w.before args s = true) (hR : 4 + 1 ≤ R.frames ∧ 8 + (3 + 11) + 40 * 4 ≤ R.locals) : CallW R s args RL RX4 100 yX4_areJoinedAgain cX4_areJoinedAgain 3 (some .int) (wsm yX4_areJoinedAgain cX4_areJoinedAgain 3 (some .int)) (rmd 4) 0 0 2 := kwV 2 wd_728 wd_725 wd_726 wd_727 wd_17 (by decide +kernel) hts hR
set_option maxRecDepth 100000 in
theorem kw_L_106 {R : Room} {s : State} {args : Array Value} (hts : ∀ w ∈ tw, w.before args s = true) (hR : 7 + 1 ≤ R.frames ∧ 8 + (4 + 11) + 40 * 7 ≤ R.locals) : CallB R s args RL 106 yL_isDiffering cL_isDiffering 4 (some .boolean) (wsm yL_isDiffering cL_isDiffering 4 (some .boolean)) (rmd 7) 0 0 3 ∧ (Cond.static yL_isDiffering).before args s = true := kwS 3 wd_736 wd_734 wd_735 wd_16 (by decide +kernel) hts hR
set_option maxRecDepth 100000 in
theorem kw_L_103 {R : Room} {s : State} {args : Array Value} (hts : ∀ w ∈ tw, w.before args s = true) (hR : 4 + 1 ≤ R.frames ∧ 8 + (3 + 11) + 40 * 4 ≤ R.locals) : CallW R s args RL RX4 103 yX4_would cX4_would 3 (some .int) (wsm yX4_would cX4_would 3 (some .int)) (rmd 4) 0 0 2 := kwV 2 wd_733 wd_730 wd_731 wd_732 wd_17 (by decide +kernel) hts hR
set_option maxRecDepth 100000 in
theorem kw_L_118 {R : Room} {s : State} {args : Array Value} (hts : ∀ w ∈ tw, w.before args s = true) (hR : 6 + 1 ≤ R.frames ∧ 8 + (2 + 11) + 40 * 6 ≤ R.locals) : CallW R s args RL RX4 118 yX4_ranked cX4_ranked 2 (some .int) (wsm yX4_ranked cX4_ranked 2 (some .int)) (rmd 6) 0 0 1 := kwV 1 wd_620 wd_617 wd_618 wd_619 wd_17 (by decide +kernel) hts hR
set_option maxRecDepth 100000 in
theorem kw_L_128 {R : Room} {s : State} {args : Array Value} (hts : ∀ w ∈ tw, w.before args s = true) (hR : 6 + 1 ≤ R.frames ∧ 8 + (2 + 11) + 40 * 6 ≤ R.locals) : CallW R s args RL RX4 128 yX4_middle cX4_middle 2 (some .int) (wsm yX4_middle cX4_middle 2 (some .int)) (rmd 6) 0 0 1 := kwV 1 wd_647 wd_644 wd_645 wd_646 wd_17 (by decide +kernel) hts hR
set_option maxRecDepth 100000 in
theorem kw_L_125 {R : Room} {s : State} {args : Array Value} (hts : ∀ w ∈ tw, w.before args s = true) (hR : 7 + 1 ≤ R.frames ∧ 8 + (5 + 11) + 40 * 7 ≤ R.locals) : CallB R s args RL 125 yL_isAhead cL_isAhead 5 (some .boolean) (wsm yL_isAhead cL_isAhead 5 (some .boolean)) (rmd 7) 0 0 3 ∧ (Cond.static yL_isAhead).before args s = true := kwS 3 wd_643 wd_641 wd_642 wd_16 (by decide +kernel) hts hR
set_option maxRecDepth 100000 in
theorem kw_L_121 {R : Room} {s : State} {args : Array Value} (hts : ∀ w ∈ tw, w.before args s = true) (hR : 7 + 1 ≤ R.frames ∧ 8 + (9 + 11) + 40 * 7 ≤ R.locals) : CallB R s args RL 121 yL_isRound cL_isRound 9 (some .boolean) (wsm yL_isRound cL_isRound 9 (some .boolean)) (nrm 7 1 144) 1 144 2 ∧ (Cond.static yL_isRound).before args s = true := kwA 2 wd_636 wd_634 wd_635 wd_16 (by decide +kernel) hts hR
set_option maxRecDepth 100000 in
theorem kw_L_147 {R : Room} {s : State} {args : Array Value} (hts : ∀ w ∈ tw, w.before args s = true) (hR : 6 + 1 ≤ R.frames ∧ 8 + (2 + 11) + 40 * 6 ≤ R.locals) : CallW R s args RL RX4 147 yX4_mean cX4_mean 2 (some .int) (wsm yX4_mean cX4_mean 2 (some .int)) (rmd 6) 0 0 0 := kwV 0 wd_748 wd_745 wd_746 wd_747 wd_17 (by decide +kernel) hts hR
set_option maxRecDepth 100000 in
theorem kw_L_150 {R : Room} {s : State} {args : Array Value} (hts : ∀ w ∈ tw, w.before args s = true) (hR : 1 + 1 ≤ R.frames ∧ 8 + (1 + 11) + 40 * 1 ≤ R.locals) : CallB R s args RL 150 yJxf58ca_floatToIntBits_5c35a cJxf58ca_floatToIntBits_5c35a 1 (some .int) (wsm yJxf58ca_floatToIntBits_5c35a cJxf58ca_floatToIntBits_5c35a 1 (some .int)) (rmd 1) 0 0 1 ∧ (Cond.static yJxf58ca_floatToIntBits_5c35a).before args s = true := kwS 1 wd_759 wd_757 wd_758 wd_28 (by decide +kernel) hts hR
set_option maxRecDepth 100000 in
theorem kw_L_141 {R : Room} {s : State} {args : Array Value} (hts : ∀ w ∈ tw, w.before args s = true) (hR : 7 + 1 ≤ R.frames ∧ 8 + (11 + 11) + 40 * 7 ≤ R.locals) : CallB R s args RL 141 yL_isBank cL_isBank 11 (some .boolean) (wsm yL_isBank cL_isBank 11 (some .boolean)) (rmd 7) 0 0 2 ∧ (Cond.static yL_isBank).before args s = true := kwS 2 wd_689 wd_687 wd_688 wd_16 (by decide +kernel) hts hR
set_option maxRecDepth 100000 in
theorem kw_L_144 {R : Room} {s : State} {args : Array Value} (hts : ∀ w ∈ tw, w.before args s = true) (hR : 8 + 1 ≤ R.frames ∧ 8 + (8 + 11) + 40 * 8 ≤ R.locals) : CallB R s args RL 144 yL_isPair cL_isPair 8 (some .boolean) (wsm yL_isPair cL_isPair 8 (some .boolean)) (rmd 8) 0 0 3 ∧ (Cond.static yL_isPair).before args s = true := kwS 3 wd_703 wd_701 wd_702 wd_16 (by decide +kernel) hts hR
set_option maxRecDepth 100000 in
theorem kw_L_135 {R : Room} {s : State} {args : Array Value} (hts : ∀ w ∈ tw, w.before args s = true) (hR : 6 + 1 ≤ R.frames ∧ 8 + (1 + 11) + 40 * 6 ≤ R.locals) : CallW R s args RL RX4 135 yX4_isWell cX4_isWell 1 (some .int) (wsm yX4_isWell cX4_isWell 1 (some .int)) (rmd 6) 0 0 0 := kwV 0 wd_672 wd_669 wd_670 wd_671 wd_17 (by decide +kernel) hts hR
set_option maxRecDepth 100000 in
theorem kw_L_131 {R : Room} {s : State} {args : Array Value} (hts : ∀ w ∈ tw, w.before args s = true) (hR : 8 + 1 ≤ R.frames ∧ 8 + (8 + 11) + 40 * 8 ≤ R.locals) : CallB R s args RL 131 yL_areParts cL_areParts 8 (some .boolean) (wsm yL_areParts cL_areParts 8 (some .boolean)) (nrm 8 12 1728) 12 1728 1 ∧ (Cond.static yL_areParts).before args s = true := kwA 1 wd_616 wd_614 wd_615 wd_16 (by decide +kernel) hts hR
set_option maxRecDepth 100000 in
theorem kw_L_156 {R : Room} {s : State} {args : Array Value} (hts : ∀ w ∈ tw, w.before args s = true) (hR : 7 + 1 ≤ R.frames ∧ 8 + (5 + 11) + 40 * 7 ≤ R.locals) : CallB R s args RL 156 yL_digest cL_digest 5 (some .long) (wsm yL_digest cL_digest 5 (some .long)) (rmd 7) 0 0 1 ∧ (Cond.static yL_digest).before args s = true := kwS 1 wd_556 wd_554 wd_555 wd_16 (by decide +kernel) hts hR
set_option maxRecDepth 100000 in
theorem kw_L_31 {R : Room} {s : State} {args : Array Value} (hts : ∀ w ∈ tw, w.before args s = true) (hR : 5 + 1 ≤ R.frames ∧ 8 + (3 + 11) + 40 * 5 ≤ R.locals) : CallW R s args RL RX4 31 yX4_cut cX4_cut 3 (some .int) (wsm yX4_cut cX4_cut 3 (some .int)) (rmd 5) 0 0 2 := kwV 2 wd_307 wd_304 wd_305 wd_306 wd_17 (by decide +kernel) hts hR
set_option maxRecDepth 100000 in
theorem kw_L_65 {R : Room} {s : State} {args : Array Value} (hts : ∀ w ∈ tw, w.before args s = true) (hR : 5 + 1 ≤ R.frames ∧ 8 + (1 + 11) + 40 * 5 ≤ R.locals) : CallW R s args RL RX4 65 yX4_undo cX4_undo 1 (some .int) (wsm yX4_undo cX4_undo 1 (some .int)) (rmd 5) 0 0 0 := kwV 0 wd_431 wd_428 wd_429 wd_430 wd_17 (by decide +kernel) hts hR
set_option maxRecDepth 100000 in
theorem kw_L_27 {R : Room} {s : State} {args : Array Value} (hts : ∀ w ∈ tw, w.before args s = true) (hR : 5 + 1 ≤ R.frames ∧ 8 + (3 + 11) + 40 * 5 ≤ R.locals) : CallW R s args RL RX4 27 yX4_join cX4_join 3 (some .int) (wsm yX4_join cX4_join 3 (some .int)) (rmd 5) 0 0 2 := kwV 2 wd_222 wd_219 wd_220 wd_221 wd_17 (by decide +kernel) hts hR
set_option maxRecDepth 100000 in
theorem kw_L_160 {R : Room} {s : State} {args : Array Value} (hts : ∀ w ∈ tw, w.before args s = true) (hR : 0 + 1 ≤ R.frames ∧ 8 + (2 + 11) + 40 * 0 ≤ R.locals) : CallW R s args RL RX4 160 yX4_refusal cX4_refusal 2 (some .int) (wsm yX4_refusal cX4_refusal 2 (some .int)) (rmd 0) 0 0 1 := kwV 1 wd_773 wd_770 wd_771 wd_772 wd_17 (by decide +kernel) hts hR
set_option maxRecDepth 100000 in
theorem kw_L_24 {R : Room} {s : State} {args : Array Value} (hts : ∀ w ∈ tw, w.before args s = true) (hR : 4 + 1 ≤ R.frames ∧ 8 + (2 + 11) + 40 * 4 ≤ R.locals) : CallW R s args RL RX4 24 yX4_bank cX4_bank 2 (some .int) (wsm yX4_bank cX4_bank 2 (some .int)) (rmd 4) 0 0 1 := kwV 1 wd_162 wd_159 wd_160 wd_161 wd_17 (by decide +kernel) hts hR
set_option maxRecDepth 100000 in
theorem kw_L_37 {R : Room} {s : State} {args : Array Value} (hts : ∀ w ∈ tw, w.before args s = true) (hR : 5 + 1 ≤ R.frames ∧ 8 + (2 + 11) + 40 * 5 ≤ R.locals) : CallW R s args RL RX4 37 yX4_turn cX4_turn 2 (some .int) (wsm yX4_turn cX4_turn 2 (some .int)) (rmd 5) 0 0 1 := kwV 1 wd_337 wd_334 wd_335 wd_336 wd_17 (by decide +kernel) hts hR
set_option maxRecDepth 100000 in
theorem kw_L_40 {R : Room} {s : State} {args : Array Value} (hts : ∀ w ∈ tw, w.before args s = true) (hR : 4 + 1 ≤ R.frames ∧ 8 + (3 + 11) + 40 * 4 ≤ R.locals) : CallW R s args RL RX4 40 yX4_weigh cX4_weigh 3 (some .int) (wsm yX4_weigh cX4_weigh 3 (some .int)) (rmd 4) 0 0 2 := kwV 2 wd_551 wd_548 wd_549 wd_550 wd_17 (by decide +kernel) hts hR
set_option maxRecDepth 100000 in
theorem kw_L_43 {R : Room} {s : State} {args : Array Value} (hts : ∀ w ∈ tw, w.before args s = true) (hR : 5 + 1 ≤ R.frames ∧ 8 + (3 + 11) + 40 * 5 ≤ R.locals) : CallW R s args RL RX4 43 yX4_rise cX4_rise 3 (some .int) (wsm yX4_rise cX4_rise 3 (some .int)) (rmd 5) 0 0 2 := kwV 2 wd_349 wd_346 wd_347 wd_348 wd_17 (by decide +kernel) hts hR
set_option maxRecDepth 100000 in
theorem kw_L_56 {R : Room} {s : State} {args : Array Value} (hts : ∀ w ∈ tw, w.before args s = true) (hR : 6 + 1 ≤ R.frames ∧ 8 + (5 + 11) + 40 * 6 ≤ R.locals) : CallW R s args RL RX4 56 yX4_read cX4_read 5 (some .int) (wsm yX4_read cX4_read 5 (some .int)) (rmd 6) 0 0 0 := kwV 0 wd_365 wd_362 wd_363 wd_364 wd_17 (by decide +kernel) hts hR
set_option maxRecDepth 100000 in
theorem kw_L_62 {R : Room} {s : State} {args : Array Value} (hts : ∀ w ∈ tw, w.before args s = true) (hR : 3 + 1 ≤ R.frames ∧ 8 + (1 + 11) + 40 * 3 ≤ R.locals) : CallW R s args RL RX4 62 yX4_restore cX4_restore 1 (some .int) (wsm yX4_restore cX4_restore 1 (some .int)) (rmd 3) 0 0 0 := kwV 0 wd_449 wd_446 wd_447 wd_448 wd_17 (by decide +kernel) hts hR
set_option maxRecDepth 100000 in
theorem kw_L_59 {R : Room} {s : State} {args : Array Value} (hts : ∀ w ∈ tw, w.before args s = true) (hR : 3 + 1 ≤ R.frames ∧ 8 + (1 + 11) + 40 * 3 ≤ R.locals) : CallW R s args RL RX4 59 yX4_save cX4_save 1 (some .int) (wsm yX4_save cX4_save 1 (some .int)) (rmd 3) 0 0 0 := kwV 0 wd_444 wd_441 wd_442 wd_443 wd_17 (by decide +kernel) hts hR
set_option maxRecDepth 100000 in
theorem kw_L_168 {R : Room} {s : State} {args : Array Value} (hts : ∀ w ∈ tw, w.before args s = true) (hR : 7 + 1 ≤ R.frames ∧ 8 + (6 + 11) + 40 * 7 ≤ R.locals) : CallB R s args RL 168 yL_act cL_act 6 (some .int) (wsm yL_act cL_act 6 (some .int)) (rmd 7) 0 0 2 ∧ (Cond.static yL_act).before args s = true := kwS 2 wd_517 wd_515 wd_516 wd_16 (by decide +kernel) hts hR
set_option maxRecDepth 100000 in
theorem kw_L_172 {R : Room} {s : State} {args : Array Value} (hts : ∀ w ∈ tw, w.before args s = true) (hR : 9 + 1 ≤ R.frames ∧ 8 + (6 + 11) + 40 * 9 ≤ R.locals) : CallB R s args RL 172 yL_isFit cL_isFit 6 (some .boolean) (wsm yL_isFit cL_isFit 6 (some .boolean)) (nrm 9 12 1728) 12 1728 1 ∧ (Cond.static yL_isFit).before args s = true := kwA 1 wd_668 wd_666 wd_667 wd_16 (by decide +kernel) hts hR
set_option maxRecDepth 100000 in
theorem kw_L_175 {R : Room} {s : State} {args : Array Value} (hts : ∀ w ∈ tw, w.before args s = true) (hR : 9 + 1 ≤ R.frames ∧ 8 + (9 + 11) + 40 * 9 ≤ R.locals) : CallB R s args RL 175 yL_isTiedAgain cL_isTiedAgain 9 (some .boolean) (wsm yL_isTiedAgain cL_isTiedAgain 9 (some .boolean)) (nrm 9 12 1728) 12 1728 3 ∧ (Cond.static yL_isTiedAgain).before args s = true := kwA 3 wd_769 wd_767 wd_768 wd_16 (by decide +kernel) hts hR
set_option maxRecDepth 100000 in
theorem kw_L_18 {R : Room} {s : State} {args : Array Value} (hts : ∀ w ∈ tw, w.before args s = true) (hR : 1 + 1 ≤ R.frames ∧ 8 + (2 + 11) + 40 * 1 ≤ R.locals) : CallW R s args RL RX4 18 yX4_append cX4_append 2 (some .int) (wsm yX4_append cX4_append 2 (some .int)) (rmd 1) 0 0 1 := kwV 1 wd_512 wd_509 wd_510 wd_511 wd_17 (by decide +kernel) hts hR
theorem pf_0_2 {p : Program} {l : Launch} {e : Env} {R : Room} {s : State} {m : MethodId} {args : Array Value} {below : List Frame} {meth : Method} {c : Code} {H : Heap} {locs : List Loc} {cells slots : Nat} {Q : State → Prop} {G : va_G} {Λ : Lay} {μ μ1 : Mem} {cc : ByteArray} {pc nL : Nat} {ls : Array Slot} {rest : List Value} {a : Nat} {A : Nat → Prop} {H0 : Heap} {v : Int32} (hOK : LayOK Λ) (hF : CallFix p m c cc nL s args tw RX0) (hKK : KK G Λ s) (hW : Wd G Λ μ H) (hS : va_S A H0 H locs) (hA : ∀ q, inL Λ q → A q) (hk : inK Λ a 0) (hμ : μ1 = stI μ a 2 v) (hdg : decode cc pc = .ok (.putfield 18, 3))
    (kk : ∀ (H : Heap) (locs : List Loc), Wd G Λ μ1 H → va_S A H0 H locs → W p l e R s m args below meth c H locs cells slots Q (F0 m (pc + 3) ls rest)) : W p l e R s m args below meth c H locs cells slots Q (F0 m pc ls (.int v :: .ref a :: rest)) :=
  g_put hOK hF hKK hW hS hA hk.1 (k := 2) (enc_0 hk.2) rfl twX0 tyX0 tyX0_ok nmX0 (Nat.le_of_ble_eq_true rfl) wd_91 rfl (ty := .int) (by decide +kernel) (vp_nar_int _) rfl (Nat.le_of_ble_eq_true rfl) (by rw [hμ]; exact enc_stI ((enc_0 hk.2).trans (by simp [mI, stI]))) hdg kk
theorem gf_0_2 {p : Program} {l : Launch} {e : Env} {R : Room} {s : State} {m : MethodId} {args : Array Value} {below : List Frame} {meth : Method} {c : Code} {H : Heap} {locs : List Loc} {cells slots : Nat} {Q : State → Prop} {G : va_G} {Λ : Lay} {μ : Mem} {cc : ByteArray} {pc nL : Nat} {ls : Array Slot} {rest : List Value} {a : Nat} (hF : CallFix p m c cc nL s args tw RX0) (hKK : KK G Λ s) (hW : Wd G Λ μ H) (hk : inK Λ a 0) (hdg : decode cc pc = .ok (.getfield 18, 3))
    (kk : W p l e R s m args below meth c H locs cells slots Q (F0 m (pc + 3) ls (.int (mI μ a 2) :: rest))) : W p l e R s m args below meth c H locs cells slots Q (F0 m pc ls (.ref a :: rest)) :=
  g_get hF hKK hW hk.1 (k := 2) (enc_0 hk.2) rfl twX0 (Nat.le_of_ble_eq_true rfl) wd_91 rfl hdg kk
theorem pf_0_1 {p : Program} {l : Launch} {e : Env} {R : Room} {s : State} {m : MethodId} {args : Array Value} {below : List Frame} {meth : Method} {c : Code} {H : Heap} {locs : List Loc} {cells slots : Nat} {Q : State → Prop} {G : va_G} {Λ : Lay} {μ μ1 : Mem} {cc : ByteArray} {pc nL : Nat} {ls : Array Slot} {rest : List Value} {a : Nat} {A : Nat → Prop} {H0 : Heap} {v : Int32} (hOK : LayOK Λ) (hF : CallFix p m c cc nL s args tw RX0) (hKK : KK G Λ s) (hW : Wd G Λ μ H) (hS : va_S A H0 H locs) (hA : ∀ q, inL Λ q → A q) (hk : inK Λ a 0) (hμ : μ1 = stI μ a 1 v) (hdg : decode cc pc = .ok (.putfield 22, 3))
    (kk : ∀ (H : Heap) (locs : List Loc), Wd G Λ μ1 H → va_S A H0 H locs → W p l e R s m args below meth c H locs cells slots Q (F0 m (pc + 3) ls rest)) : W p l e R s m args below meth c H locs cells slots Q (F0 m pc ls (.int v :: .ref a :: rest)) :=
  g_put hOK hF hKK hW hS hA hk.1 (k := 1) (enc_0 hk.2) rfl twX0 tyX0 tyX0_ok nmX0 (Nat.le_of_ble_eq_true rfl) wd_90 rfl (ty := .int) (by decide +kernel) (vp_nar_int _) rfl (Nat.le_of_ble_eq_true rfl) (by rw [hμ]; exact enc_stI ((enc_0 hk.2).trans (by simp [mI, stI]))) hdg kk
theorem gf_0_1 {p : Program} {l : Launch} {e : Env} {R : Room} {s : State} {m : MethodId} {args : Array Value} {below : List Frame} {meth : Method} {c : Code} {H : Heap} {locs : List Loc} {cells slots : Nat} {Q : State → Prop} {G : va_G} {Λ : Lay} {μ : Mem} {cc : ByteArray} {pc nL : Nat} {ls : Array Slot} {rest : List Value} {a : Nat} (hF : CallFix p m c cc nL s args tw RX0) (hKK : KK G Λ s) (hW : Wd G Λ μ H) (hk : inK Λ a 0) (hdg : decode cc pc = .ok (.getfield 22, 3))
    (kk : W p l e R s m args below meth c H locs cells slots Q (F0 m (pc + 3) ls (.int (mI μ a 1) :: rest))) : W p l e R s m args below meth c H locs cells slots Q (F0 m pc ls (.ref a :: rest)) :=
  g_get hF hKK hW hk.1 (k := 1) (enc_0 hk.2) rfl twX0 (Nat.le_of_ble_eq_true rfl) wd_90 rfl hdg kk
theorem gf_1_3 {p : Program} {l : Launch} {e : Env} {R : Room} {s : State} {m : MethodId} {args : Array Value} {below : List Frame} {meth : Method} {c : Code} {H : Heap} {locs : List Loc} {cells slots : Nat} {Q : State → Prop} {G : va_G} {Λ : Lay} {μ : Mem} {cc : ByteArray} {pc nL : Nat} {ls : Array Slot} {rest : List Value} {a : Nat} (hF : CallFix p m c cc nL s args tw RX1) (hKK : KK G Λ s) (hW : Wd G Λ μ H) (hk : inK Λ a 1) (hdg : decode cc pc = .ok (.getfield 27, 3))
    (kk : W p l e R s m args below meth c H locs cells slots Q (F0 m (pc + 3) ls (.ref (lyR Λ a 3) :: rest))) : W p l e R s m args below meth c H locs cells slots Q (F0 m pc ls (.ref a :: rest)) :=
  g_get hF hKK hW hk.1 (k := 3) (enc_1 hk.2) rfl twX1 (Nat.le_of_ble_eq_true rfl) wd_61 rfl hdg kk
theorem gf_1_2 {p : Program} {l : Launch} {e : Env} {R : Room} {s : State} {m : MethodId} {args : Array Value} {below : List Frame} {meth : Method} {c : Code} {H : Heap} {locs : List Loc} {cells slots : Nat} {Q : State → Prop} {G : va_G} {Λ : Lay} {μ : Mem} {cc : ByteArray} {pc nL : Nat} {ls : Array Slot} {rest : List Value} {a : Nat} (hF : CallFix p m c cc nL s args tw RX1) (hKK : KK G Λ s) (hW : Wd G Λ μ H) (hk : inK Λ a 1) (hdg : decode cc pc = .ok (.getfield 23, 3))
    (kk : W p l e R s m args below meth c H locs cells slots Q (F0 m (pc + 3) ls (.ref (lyR Λ a 2) :: rest))) : W p l e R s m args below meth c H locs cells slots Q (F0 m pc ls (.ref a :: rest)) :=
  g_get hF hKK hW hk.1 (k := 2) (enc_1 hk.2) rfl twX1 (Nat.le_of_ble_eq_true rfl) wd_60 rfl hdg kk
theorem pf_2_1 {p : Program} {l : Launch} {e : Env} {R : Room} {s : State} {m : MethodId} {args : Array Value} {below : List Frame} {meth : Method} {c : Code} {H : Heap} {locs : List Loc} {cells slots : Nat} {Q : State → Prop} {G : va_G} {Λ : Lay} {μ μ1 : Mem} {cc : ByteArray} {pc nL : Nat} {ls : Array Slot} {rest : List Value} {a : Nat} {A : Nat → Prop} {H0 : Heap} {v : Int32} (hOK : LayOK Λ) (hF : CallFix p m c cc nL s args tw RX2) (hKK : KK G Λ s) (hW : Wd G Λ μ H) (hS : va_S A H0 H locs) (hA : ∀ q, inL Λ q → A q) (hk : inK Λ a 2) (hμ : μ1 = stI μ a 1 v) (hdg : decode cc pc = .ok (.putfield 15, 3))
    (kk : ∀ (H : Heap) (locs : List Loc), Wd G Λ μ1 H → va_S A H0 H locs → W p l e R s m args below meth c H locs cells slots Q (F0 m (pc + 3) ls rest)) : W p l e R s m args below meth c H locs cells slots Q (F0 m pc ls (.int v :: .ref a :: rest)) :=
  g_put hOK hF hKK hW hS hA hk.1 (k := 1) (enc_2 hk.2) rfl twX2 tyX2 tyX2_ok nmX2 (Nat.le_of_ble_eq_true rfl) wd_50 rfl (ty := .int) (by decide +kernel) (vp_nar_int _) rfl (Nat.le_of_ble_eq_true rfl) (by rw [hμ]; exact enc_stI ((enc_2 hk.2).trans (by simp [mI, stI]))) hdg kk
theorem gf_2_1 {p : Program} {l : Launch} {e : Env} {R : Room} {s : State} {m : MethodId} {args : Array Value} {below : List Frame} {meth : Method} {c : Code} {H : Heap} {locs : List Loc} {cells slots : Nat} {Q : State → Prop} {G : va_G} {Λ : Lay} {μ : Mem} {cc : ByteArray} {pc nL : Nat} {ls : Array Slot} {rest : List Value} {a : Nat} (hF : CallFix p m c cc nL s args tw RX2) (hKK : KK G Λ s) (hW : Wd G Λ μ H) (hk : inK Λ a 2) (hdg : decode cc pc = .ok (.getfield 15, 3))
    (kk : W p l e R s m args below meth c H locs cells slots Q (F0 m (pc + 3) ls (.int (mI μ a 1) :: rest))) : W p l e R s m args below meth c H locs cells slots Q (F0 m pc ls (.ref a :: rest)) :=
  g_get hF hKK hW hk.1 (k := 1) (enc_2 hk.2) rfl twX2 (Nat.le_of_ble_eq_true rfl) wd_50 rfl hdg kk
theorem gf_2_0 {p : Program} {l : Launch} {e : Env} {R : Room} {s : State} {m : MethodId} {args : Array Value} {below : List Frame} {meth : Method} {c : Code} {H : Heap} {locs : List Loc} {cells slots : Nat} {Q : State → Prop} {G : va_G} {Λ : Lay} {μ : Mem} {cc : ByteArray} {pc nL : Nat} {ls : Array Slot} {rest : List Value} {a : Nat} (hF : CallFix p m c cc nL s args tw RX2) (hKK : KK G Λ s) (hW : Wd G Λ μ H) (hk : inK Λ a 2) (hdg : decode cc pc = .ok (.getfield 9, 3))
    (kk : W p l e R s m args below meth c H locs cells slots Q (F0 m (pc + 3) ls (.ref (lyR Λ a 0) :: rest))) : W p l e R s m args below meth c H locs cells slots Q (F0 m pc ls (.ref a :: rest)) :=
  g_get hF hKK hW hk.1 (k := 0) (enc_2 hk.2) rfl twX2 (Nat.le_of_ble_eq_true rfl) wd_49 rfl hdg kk
theorem pf_1_6 {p : Program} {l : Launch} {e : Env} {R : Room} {s : State} {m : MethodId} {args : Array Value} {below : List Frame} {meth : Method} {c : Code} {H : Heap} {locs : List Loc} {cells slots : Nat} {Q : State → Prop} {G : va_G} {Λ : Lay} {μ μ1 : Mem} {cc : ByteArray} {pc nL : Nat} {ls : Array Slot} {rest : List Value} {a : Nat} {A : Nat → Prop} {H0 : Heap} {v : Int32} (hOK : LayOK Λ) (hF : CallFix p m c cc nL s args tw RX1) (hKK : KK G Λ s) (hW : Wd G Λ μ H) (hS : va_S A H0 H locs) (hA : ∀ q, inL Λ q → A q) (hk : inK Λ a 1) (hμ : μ1 = stI μ a 6 v) (hdg : decode cc pc = .ok (.putfield 45, 3))
    (kk : ∀ (H : Heap) (locs : List Loc), Wd G Λ μ1 H → va_S A H0 H locs → W p l e R s m args below meth c H locs cells slots Q (F0 m (pc + 3) ls rest)) : W p l e R s m args below meth c H locs cells slots Q (F0 m pc ls (.int v :: .ref a :: rest)) :=
  g_put hOK hF hKK hW hS hA hk.1 (k := 6) (enc_1 hk.2) rfl twX1 tyX1 tyX1_ok nmX1 (Nat.le_of_ble_eq_true rfl) wd_64 rfl (ty := .int) (by decide +kernel) (vp_nar_int _) rfl (Nat.le_of_ble_eq_true rfl) (by rw [hμ]; exact enc_stI ((enc_1 hk.2).trans (by simp [mI, stI]))) hdg kk
theorem gf_1_6 {p : Program} {l : Launch} {e : Env} {R : Room} {s : State} {m : MethodId} {args : Array Value} {below : List Frame} {meth : Method} {c : Code} {H : Heap} {locs : List Loc} {cells slots : Nat} {Q : State → Prop} {G : va_G} {Λ : Lay} {μ : Mem} {cc : ByteArray} {pc nL : Nat} {ls : Array Slot} {rest : List Value} {a : Nat} (hF : CallFix p m c cc nL s args tw RX1) (hKK : KK G Λ s) (hW : Wd G Λ μ H) (hk : inK Λ a 1) (hdg : decode cc pc = .ok (.getfield 45, 3))
    (kk : W p l e R s m args below meth c H locs cells slots Q (F0 m (pc + 3) ls (.int (mI μ a 6) :: rest))) : W p l e R s m args below meth c H locs cells slots Q (F0 m pc ls (.ref a :: rest)) :=
  g_get hF hKK hW hk.1 (k := 6) (enc_1 hk.2) rfl twX1 (Nat.le_of_ble_eq_true rfl) wd_64 rfl hdg kk
theorem pf_1_5 {p : Program} {l : Launch} {e : Env} {R : Room} {s : State} {m : MethodId} {args : Array Value} {below : List Frame} {meth : Method} {c : Code} {H : Heap} {locs : List Loc} {cells slots : Nat} {Q : State → Prop} {G : va_G} {Λ : Lay} {μ μ1 : Mem} {cc : ByteArray} {pc nL : Nat} {ls : Array Slot} {rest : List Value} {a : Nat} {A : Nat → Prop} {H0 : Heap} {v : Int32} (hOK : LayOK Λ) (hF : CallFix p m c cc nL s args tw RX1) (hKK : KK G Λ s) (hW : Wd G Λ μ H) (hS : va_S A H0 H locs) (hA : ∀ q, inL Λ q → A q) (hk : inK Λ a 1) (hμ : μ1 = stI μ a 5 v) (hdg : decode cc pc = .ok (.putfield 42, 3))
    (kk : ∀ (H : Heap) (locs : List Loc), Wd G Λ μ1 H → va_S A H0 H locs → W p l e R s m args below meth c H locs cells slots Q (F0 m (pc + 3) ls rest)) : W p l e R s m args below meth c H locs cells slots Q (F0 m pc ls (.int v :: .ref a :: rest)) :=
  g_put hOK hF hKK hW hS hA hk.1 (k := 5) (enc_1 hk.2) rfl twX1 tyX1 tyX1_ok nmX1 (Nat.le_of_ble_eq_true rfl) wd_63 rfl (ty := .int) (by decide +kernel) (vp_nar_int _) rfl (Nat.le_of_ble_eq_true rfl) (by rw [hμ]; exact enc_stI ((enc_1 hk.2).trans (by simp [mI, stI]))) hdg kk
theorem gf_1_5 {p : Program} {l : Launch} {e : Env} {R : Room} {s : State} {m : MethodId} {args : Array Value} {below : List Frame} {meth : Method} {c : Code} {H : Heap} {locs : List Loc} {cells slots : Nat} {Q : State → Prop} {G : va_G} {Λ : Lay} {μ : Mem} {cc : ByteArray} {pc nL : Nat} {ls : Array Slot} {rest : List Value} {a : Nat} (hF : CallFix p m c cc nL s args tw RX1) (hKK : KK G Λ s) (hW : Wd G Λ μ H) (hk : inK Λ a 1) (hdg : decode cc pc = .ok (.getfield 42, 3))
    (kk : W p l e R s m args below meth c H locs cells slots Q (F0 m (pc + 3) ls (.int (mI μ a 5) :: rest))) : W p l e R s m args below meth c H locs cells slots Q (F0 m pc ls (.ref a :: rest)) :=
  g_get hF hKK hW hk.1 (k := 5) (enc_1 hk.2) rfl twX1 (Nat.le_of_ble_eq_true rfl) wd_63 rfl hdg kk
theorem pf_1_4 {p : Program} {l : Launch} {e : Env} {R : Room} {s : State} {m : MethodId} {args : Array Value} {below : List Frame} {meth : Method} {c : Code} {H : Heap} {locs : List Loc} {cells slots : Nat} {Q : State → Prop} {G : va_G} {Λ : Lay} {μ μ1 : Mem} {cc : ByteArray} {pc nL : Nat} {ls : Array Slot} {rest : List Value} {a : Nat} {A : Nat → Prop} {H0 : Heap} {v : Int32} (hOK : LayOK Λ) (hF : CallFix p m c cc nL s args tw RX1) (hKK : KK G Λ s) (hW : Wd G Λ μ H) (hS : va_S A H0 H locs) (hA : ∀ q, inL Λ q → A q) (hk : inK Λ a 1) (hμ : μ1 = stI μ a 4 v) (hdg : decode cc pc = .ok (.putfield 38, 3))
    (kk : ∀ (H : Heap) (locs : List Loc), Wd G Λ μ1 H → va_S A H0 H locs → W p l e R s m args below meth c H locs cells slots Q (F0 m (pc + 3) ls rest)) : W p l e R s m args below meth c H locs cells slots Q (F0 m pc ls (.int v :: .ref a :: rest)) :=
  g_put hOK hF hKK hW hS hA hk.1 (k := 4) (enc_1 hk.2) rfl twX1 tyX1 tyX1_ok nmX1 (Nat.le_of_ble_eq_true rfl) wd_62 rfl (ty := .int) (by decide +kernel) (vp_nar_int _) rfl (Nat.le_of_ble_eq_true rfl) (by rw [hμ]; exact enc_stI ((enc_1 hk.2).trans (by simp [mI, stI]))) hdg kk
theorem gf_1_4 {p : Program} {l : Launch} {e : Env} {R : Room} {s : State} {m : MethodId} {args : Array Value} {below : List Frame} {meth : Method} {c : Code} {H : Heap} {locs : List Loc} {cells slots : Nat} {Q : State → Prop} {G : va_G} {Λ : Lay} {μ : Mem} {cc : ByteArray} {pc nL : Nat} {ls : Array Slot} {rest : List Value} {a : Nat} (hF : CallFix p m c cc nL s args tw RX1) (hKK : KK G Λ s) (hW : Wd G Λ μ H) (hk : inK Λ a 1) (hdg : decode cc pc = .ok (.getfield 38, 3))
    (kk : W p l e R s m args below meth c H locs cells slots Q (F0 m (pc + 3) ls (.int (mI μ a 4) :: rest))) : W p l e R s m args below meth c H locs cells slots Q (F0 m pc ls (.ref a :: rest)) :=
  g_get hF hKK hW hk.1 (k := 4) (enc_1 hk.2) rfl twX1 (Nat.le_of_ble_eq_true rfl) wd_62 rfl hdg kk
theorem gf_1_1 {p : Program} {l : Launch} {e : Env} {R : Room} {s : State} {m : MethodId} {args : Array Value} {below : List Frame} {meth : Method} {c : Code} {H : Heap} {locs : List Loc} {cells slots : Nat} {Q : State → Prop} {G : va_G} {Λ : Lay} {μ : Mem} {cc : ByteArray} {pc nL : Nat} {ls : Array Slot} {rest : List Value} {a : Nat} (hF : CallFix p m c cc nL s args tw RX1) (hKK : KK G Λ s) (hW : Wd G Λ μ H) (hk : inK Λ a 1) (hdg : decode cc pc = .ok (.getfield 20, 3))
    (kk : W p l e R s m args below meth c H locs cells slots Q (F0 m (pc + 3) ls (.ref (lyR Λ a 1) :: rest))) : W p l e R s m args below meth c H locs cells slots Q (F0 m pc ls (.ref a :: rest)) :=
  g_get hF hKK hW hk.1 (k := 1) (enc_1 hk.2) rfl twX1 (Nat.le_of_ble_eq_true rfl) wd_59 rfl hdg kk
theorem gf_1_0 {p : Program} {l : Launch} {e : Env} {R : Room} {s : State} {m : MethodId} {args : Array Value} {below : List Frame} {meth : Method} {c : Code} {H : Heap} {locs : List Loc} {cells slots : Nat} {Q : State → Prop} {G : va_G} {Λ : Lay} {μ : Mem} {cc : ByteArray} {pc nL : Nat} {ls : Array Slot} {rest : List Value} {a : Nat} (hF : CallFix p m c cc nL s args tw RX1) (hKK : KK G Λ s) (hW : Wd G Λ μ H) (hk : inK Λ a 1) (hdg : decode cc pc = .ok (.getfield 14, 3))
    (kk : W p l e R s m args below meth c H locs cells slots Q (F0 m (pc + 3) ls (.ref (lyR Λ a 0) :: rest))) : W p l e R s m args below meth c H locs cells slots Q (F0 m pc ls (.ref a :: rest)) :=
  g_get hF hKK hW hk.1 (k := 0) (enc_1 hk.2) rfl twX1 (Nat.le_of_ble_eq_true rfl) wd_58 rfl hdg kk
theorem gf_0_0 {p : Program} {l : Launch} {e : Env} {R : Room} {s : State} {m : MethodId} {args : Array Value} {below : List Frame} {meth : Method} {c : Code} {H : Heap} {locs : List Loc} {cells slots : Nat} {Q : State → Prop} {G : va_G} {Λ : Lay} {μ : Mem} {cc : ByteArray} {pc nL : Nat} {ls : Array Slot} {rest : List Value} {a : Nat} (hF : CallFix p m c cc nL s args tw RX0) (hKK : KK G Λ s) (hW : Wd G Λ μ H) (hk : inK Λ a 0) (hdg : decode cc pc = .ok (.getfield 13, 3))
    (kk : W p l e R s m args below meth c H locs cells slots Q (F0 m (pc + 3) ls (.ref (lyR Λ a 0) :: rest))) : W p l e R s m args below meth c H locs cells slots Q (F0 m pc ls (.ref a :: rest)) :=
  g_get hF hKK hW hk.1 (k := 0) (enc_0 hk.2) rfl twX0 (Nat.le_of_ble_eq_true rfl) wd_89 rfl hdg kk
theorem gf_3_0 {p : Program} {l : Launch} {e : Env} {R : Room} {s : State} {m : MethodId} {args : Array Value} {below : List Frame} {meth : Method} {c : Code} {H : Heap} {locs : List Loc} {cells slots : Nat} {Q : State → Prop} {G : va_G} {Λ : Lay} {μ : Mem} {cc : ByteArray} {pc nL : Nat} {ls : Array Slot} {rest : List Value} {a : Nat} (hF : CallFix p m c cc nL s args tw RX3) (hKK : KK G Λ s) (hW : Wd G Λ μ H) (hk : inK Λ a 3) (hdg : decode cc pc = .ok (.getfield 14, 3))
    (kk : W p l e R s m args below meth c H locs cells slots Q (F0 m (pc + 3) ls (.ref (lyR Λ a 0) :: rest))) : W p l e R s m args below meth c H locs cells slots Q (F0 m pc ls (.ref a :: rest)) :=
  g_get hF hKK hW hk.1 (k := 0) (enc_3 hk.2) rfl twX3 (Nat.le_of_ble_eq_true rfl) wd_109 rfl hdg kk
theorem pf_3_3 {p : Program} {l : Launch} {e : Env} {R : Room} {s : State} {m : MethodId} {args : Array Value} {below : List Frame} {meth : Method} {c : Code} {H : Heap} {locs : List Loc} {cells slots : Nat} {Q : State → Prop} {G : va_G} {Λ : Lay} {μ μ1 : Mem} {cc : ByteArray} {pc nL : Nat} {ls : Array Slot} {rest : List Value} {a : Nat} {A : Nat → Prop} {H0 : Heap} {v : Int32} (hOK : LayOK Λ) (hF : CallFix p m c cc nL s args tw RX3) (hKK : KK G Λ s) (hW : Wd G Λ μ H) (hS : va_S A H0 H locs) (hA : ∀ q, inL Λ q → A q) (hk : inK Λ a 3) (hμ : μ1 = stI μ a 3 v) (hdg : decode cc pc = .ok (.putfield 37, 3))
    (kk : ∀ (H : Heap) (locs : List Loc), Wd G Λ μ1 H → va_S A H0 H locs → W p l e R s m args below meth c H locs cells slots Q (F0 m (pc + 3) ls rest)) : W p l e R s m args below meth c H locs cells slots Q (F0 m pc ls (.int v :: .ref a :: rest)) :=
  g_put hOK hF hKK hW hS hA hk.1 (k := 3) (enc_3 hk.2) rfl twX3 tyX3 tyX3_ok nmX3 (Nat.le_of_ble_eq_true rfl) wd_112 rfl (ty := .int) (by decide +kernel) (vp_nar_int _) rfl (Nat.le_of_ble_eq_true rfl) (by rw [hμ]; exact enc_stI ((enc_3 hk.2).trans (by simp [mI, stI]))) hdg kk
theorem gf_3_3 {p : Program} {l : Launch} {e : Env} {R : Room} {s : State} {m : MethodId} {args : Array Value} {below : List Frame} {meth : Method} {c : Code} {H : Heap} {locs : List Loc} {cells slots : Nat} {Q : State → Prop} {G : va_G} {Λ : Lay} {μ : Mem} {cc : ByteArray} {pc nL : Nat} {ls : Array Slot} {rest : List Value} {a : Nat} (hF : CallFix p m c cc nL s args tw RX3) (hKK : KK G Λ s) (hW : Wd G Λ μ H) (hk : inK Λ a 3) (hdg : decode cc pc = .ok (.getfield 37, 3))
    (kk : W p l e R s m args below meth c H locs cells slots Q (F0 m (pc + 3) ls (.int (mI μ a 3) :: rest))) : W p l e R s m args below meth c H locs cells slots Q (F0 m pc ls (.ref a :: rest)) :=
  g_get hF hKK hW hk.1 (k := 3) (enc_3 hk.2) rfl twX3 (Nat.le_of_ble_eq_true rfl) wd_112 rfl hdg kk
theorem pf_3_4 {p : Program} {l : Launch} {e : Env} {R : Room} {s : State} {m : MethodId} {args : Array Value} {below : List Frame} {meth : Method} {c : Code} {H : Heap} {locs : List Loc} {cells slots : Nat} {Q : State → Prop} {G : va_G} {Λ : Lay} {μ μ1 : Mem} {cc : ByteArray} {pc nL : Nat} {ls : Array Slot} {rest : List Value} {a : Nat} {A : Nat → Prop} {H0 : Heap} {v : Int32} (hOK : LayOK Λ) (hF : CallFix p m c cc nL s args tw RX3) (hKK : KK G Λ s) (hW : Wd G Λ μ H) (hS : va_S A H0 H locs) (hA : ∀ q, inL Λ q → A q) (hk : inK Λ a 3) (hμ : μ1 = stI μ a 4 v) (hdg : decode cc pc = .ok (.putfield 52, 3))
    (kk : ∀ (H : Heap) (locs : List Loc), Wd G Λ μ1 H → va_S A H0 H locs → W p l e R s m args below meth c H locs cells slots Q (F0 m (pc + 3) ls rest)) : W p l e R s m args below meth c H locs cells slots Q (F0 m pc ls (.int v :: .ref a :: rest)) :=
  g_put hOK hF hKK hW hS hA hk.1 (k := 4) (enc_3 hk.2) rfl twX3 tyX3 tyX3_ok nmX3 (Nat.le_of_ble_eq_true rfl) wd_113 rfl (ty := .int) (by decide +kernel) (vp_nar_int _) rfl (Nat.le_of_ble_eq_true rfl) (by rw [hμ]; exact enc_stI ((enc_3 hk.2).trans (by simp [mI, stI]))) hdg kk
theorem gf_3_4 {p : Program} {l : Launch} {e : Env} {R : Room} {s : State} {m : MethodId} {args : Array Value} {below : List Frame} {meth : Method} {c : Code} {H : Heap} {locs : List Loc} {cells slots : Nat} {Q : State → Prop} {G : va_G} {Λ : Lay} {μ : Mem} {cc : ByteArray} {pc nL : Nat} {ls : Array Slot} {rest : List Value} {a : Nat} (hF : CallFix p m c cc nL s args tw RX3) (hKK : KK G Λ s) (hW : Wd G Λ μ H) (hk : inK Λ a 3) (hdg : decode cc pc = .ok (.getfield 52, 3))
    (kk : W p l e R s m args below meth c H locs cells slots Q (F0 m (pc + 3) ls (.int (mI μ a 4) :: rest))) : W p l e R s m args below meth c H locs cells slots Q (F0 m pc ls (.ref a :: rest)) :=
  g_get hF hKK hW hk.1 (k := 4) (enc_3 hk.2) rfl twX3 (Nat.le_of_ble_eq_true rfl) wd_113 rfl hdg kk
theorem gf_3_2 {p : Program} {l : Launch} {e : Env} {R : Room} {s : State} {m : MethodId} {args : Array Value} {below : List Frame} {meth : Method} {c : Code} {H : Heap} {locs : List Loc} {cells slots : Nat} {Q : State → Prop} {G : va_G} {Λ : Lay} {μ : Mem} {cc : ByteArray} {pc nL : Nat} {ls : Array Slot} {rest : List Value} {a : Nat} (hF : CallFix p m c cc nL s args tw RX3) (hKK : KK G Λ s) (hW : Wd G Λ μ H) (hk : inK Λ a 3) (hdg : decode cc pc = .ok (.getfield 23, 3))
    (kk : W p l e R s m args below meth c H locs cells slots Q (F0 m (pc + 3) ls (.ref (lyR Λ a 2) :: rest))) : W p l e R s m args below meth c H locs cells slots Q (F0 m pc ls (.ref a :: rest)) :=
  g_get hF hKK hW hk.1 (k := 2) (enc_3 hk.2) rfl twX3 (Nat.le_of_ble_eq_true rfl) wd_111 rfl hdg kk
theorem gf_3_1 {p : Program} {l : Launch} {e : Env} {R : Room} {s : State} {m : MethodId} {args : Array Value} {below : List Frame} {meth : Method} {c : Code} {H : Heap} {locs : List Loc} {cells slots : Nat} {Q : State → Prop} {G : va_G} {Λ : Lay} {μ : Mem} {cc : ByteArray} {pc nL : Nat} {ls : Array Slot} {rest : List Value} {a : Nat} (hF : CallFix p m c cc nL s args tw RX3) (hKK : KK G Λ s) (hW : Wd G Λ μ H) (hk : inK Λ a 3) (hdg : decode cc pc = .ok (.getfield 20, 3))
    (kk : W p l e R s m args below meth c H locs cells slots Q (F0 m (pc + 3) ls (.ref (lyR Λ a 1) :: rest))) : W p l e R s m args below meth c H locs cells slots Q (F0 m pc ls (.ref a :: rest)) :=
  g_get hF hKK hW hk.1 (k := 1) (enc_3 hk.2) rfl twX3 (Nat.le_of_ble_eq_true rfl) wd_110 rfl hdg kk
theorem gf_4_0 {p : Program} {l : Launch} {e : Env} {R : Room} {s : State} {m : MethodId} {args : Array Value} {below : List Frame} {meth : Method} {c : Code} {H : Heap} {locs : List Loc} {cells slots : Nat} {Q : State → Prop} {G : va_G} {Λ : Lay} {μ : Mem} {cc : ByteArray} {pc nL : Nat} {ls : Array Slot} {rest : List Value} {a : Nat} (hF : CallFix p m c cc nL s args tw RX4) (hKK : KK G Λ s) (hW : Wd G Λ μ H) (hk : inK Λ a 4) (hdg : decode cc pc = .ok (.getfield 12, 3))
    (kk : W p l e R s m args below meth c H locs cells slots Q (F0 m (pc + 3) ls (.ref (lyR Λ a 0) :: rest))) : W p l e R s m args below meth c H locs cells slots Q (F0 m pc ls (.ref a :: rest)) :=
  g_get hF hKK hW hk.1 (k := 0) (enc_4 hk.2) rfl twX4 (Nat.le_of_ble_eq_true rfl) wd_125 rfl hdg kk
theorem gf_4_4 {p : Program} {l : Launch} {e : Env} {R : Room} {s : State} {m : MethodId} {args : Array Value} {below : List Frame} {meth : Method} {c : Code} {H : Heap} {locs : List Loc} {cells slots : Nat} {Q : State → Prop} {G : va_G} {Λ : Lay} {μ : Mem} {cc : ByteArray} {pc nL : Nat} {ls : Array Slot} {rest : List Value} {a : Nat} (hF : CallFix p m c cc nL s args tw RX4) (hKK : KK G Λ s) (hW : Wd G Λ μ H) (hk : inK Λ a 4) (hdg : decode cc pc = .ok (.getfield 35, 3))
    (kk : W p l e R s m args below meth c H locs cells slots Q (F0 m (pc + 3) ls (.ref (lyR Λ a 4) :: rest))) : W p l e R s m args below meth c H locs cells slots Q (F0 m pc ls (.ref a :: rest)) :=
  g_get hF hKK hW hk.1 (k := 4) (enc_4 hk.2) rfl twX4 (Nat.le_of_ble_eq_true rfl) wd_129 rfl hdg kk
theorem gf_4_2 {p : Program} {l : Launch} {e : Env} {R : Room} {s : State} {m : MethodId} {args : Array Value} {below : List Frame} {meth : Method} {c : Code} {H : Heap} {locs : List Loc} {cells slots : Nat} {Q : State → Prop} {G : va_G} {Λ : Lay} {μ : Mem} {cc : ByteArray} {pc nL : Nat} {ls : Array Slot} {rest : List Value} {a : Nat} (hF : CallFix p m c cc nL s args tw RX4) (hKK : KK G Λ s) (hW : Wd G Λ μ H) (hk : inK Λ a 4) (hdg : decode cc pc = .ok (.getfield 22, 3))
    (kk : W p l e R s m args below meth c H locs cells slots Q (F0 m (pc + 3) ls (.ref (lyR Λ a 2) :: rest))) : W p l e R s m args below meth c H locs cells slots Q (F0 m pc ls (.ref a :: rest)) :=
  g_get hF hKK hW hk.1 (k := 2) (enc_4 hk.2) rfl twX4 (Nat.le_of_ble_eq_true rfl) wd_127 rfl hdg kk
theorem pf_4_9 {p : Program} {l : Launch} {e : Env} {R : Room} {s : State} {m : MethodId} {args : Array Value} {below : List Frame} {meth : Method} {c : Code} {H : Heap} {locs : List Loc} {cells slots : Nat} {Q : State → Prop} {G : va_G} {Λ : Lay} {μ μ1 : Mem} {cc : ByteArray} {pc nL : Nat} {ls : Array Slot} {rest : List Value} {a : Nat} {A : Nat → Prop} {H0 : Heap} {v : Int32} (hOK : LayOK Λ) (hF : CallFix p m c cc nL s args tw RX4) (hKK : KK G Λ s) (hW : Wd G Λ μ H) (hS : va_S A H0 H locs) (hA : ∀ q, inL Λ q → A q) (hk : inK Λ a 4) (hμ : μ1 = stI μ a 9 v) (hdg : decode cc pc = .ok (.putfield 202, 3))
    (kk : ∀ (H : Heap) (locs : List Loc), Wd G Λ μ1 H → va_S A H0 H locs → W p l e R s m args below meth c H locs cells slots Q (F0 m (pc + 3) ls rest)) : W p l e R s m args below meth c H locs cells slots Q (F0 m pc ls (.int v :: .ref a :: rest)) :=
  g_put hOK hF hKK hW hS hA hk.1 (k := 9) (enc_4 hk.2) rfl twX4 tyX4 tyX4_ok nmX4 (Nat.le_of_ble_eq_true rfl) wd_134 rfl (ty := .int) (by decide +kernel) (vp_nar_int _) rfl (Nat.le_of_ble_eq_true rfl) (by rw [hμ]; exact enc_stI ((enc_4 hk.2).trans (by simp [mI, stI]))) hdg kk
theorem gf_4_10 {p : Program} {l : Launch} {e : Env} {R : Room} {s : State} {m : MethodId} {args : Array Value} {below : List Frame} {meth : Method} {c : Code} {H : Heap} {locs : List Loc} {cells slots : Nat} {Q : State → Prop} {G : va_G} {Λ : Lay} {μ : Mem} {cc : ByteArray} {pc nL : Nat} {ls : Array Slot} {rest : List Value} {a : Nat} (hF : CallFix p m c cc nL s args tw RX4) (hKK : KK G Λ s) (hW : Wd G Λ μ H) (hk : inK Λ a 4) (hdg : decode cc pc = .ok (.getfield 45, 3))
    (kk : W p l e R s m args below meth c H locs cells slots Q (F0 m (pc + 3) ls (.int (mI μ a 10) :: rest))) : W p l e R s m args below meth c H locs cells slots Q (F0 m pc ls (.ref a :: rest)) :=
  g_get hF hKK hW hk.1 (k := 10) (enc_4 hk.2) rfl twX4 (Nat.le_of_ble_eq_true rfl) wd_135 rfl hdg kk
theorem pf_4_8 {p : Program} {l : Launch} {e : Env} {R : Room} {s : State} {m : MethodId} {args : Array Value} {below : List Frame} {meth : Method} {c : Code} {H : Heap} {locs : List Loc} {cells slots : Nat} {Q : State → Prop} {G : va_G} {Λ : Lay} {μ μ1 : Mem} {cc : ByteArray} {pc nL : Nat} {ls : Array Slot} {rest : List Value} {a : Nat} {A : Nat → Prop} {H0 : Heap} {v : Int32} (hOK : LayOK Λ) (hF : CallFix p m c cc nL s args tw RX4) (hKK : KK G Λ s) (hW : Wd G Λ μ H) (hS : va_S A H0 H locs) (hA : ∀ q, inL Λ q → A q) (hk : inK Λ a 4) (hμ : μ1 = stI μ a 8 v) (hdg : decode cc pc = .ok (.putfield 199, 3))
    (kk : ∀ (H : Heap) (locs : List Loc), Wd G Λ μ1 H → va_S A H0 H locs → W p l e R s m args below meth c H locs cells slots Q (F0 m (pc + 3) ls rest)) : W p l e R s m args below meth c H locs cells slots Q (F0 m pc ls (.int v :: .ref a :: rest)) :=
  g_put hOK hF hKK hW hS hA hk.1 (k := 8) (enc_4 hk.2) rfl twX4 tyX4 tyX4_ok nmX4 (Nat.le_of_ble_eq_true rfl) wd_133 rfl (ty := .int) (by decide +kernel) (vp_nar_int _) rfl (Nat.le_of_ble_eq_true rfl) (by rw [hμ]; exact enc_stI ((enc_4 hk.2).trans (by simp [mI, stI]))) hdg kk
theorem pf_4_7 {p : Program} {l : Launch} {e : Env} {R : Room} {s : State} {m : MethodId} {args : Array Value} {below : List Frame} {meth : Method} {c : Code} {H : Heap} {locs : List Loc} {cells slots : Nat} {Q : State → Prop} {G : va_G} {Λ : Lay} {μ μ1 : Mem} {cc : ByteArray} {pc nL : Nat} {ls : Array Slot} {rest : List Value} {a : Nat} {A : Nat → Prop} {H0 : Heap} {v : Int32} (hOK : LayOK Λ) (hF : CallFix p m c cc nL s args tw RX4) (hKK : KK G Λ s) (hW : Wd G Λ μ H) (hS : va_S A H0 H locs) (hA : ∀ q, inL Λ q → A q) (hk : inK Λ a 4) (hμ : μ1 = stI μ a 7 v) (hdg : decode cc pc = .ok (.putfield 196, 3))
    (kk : ∀ (H : Heap) (locs : List Loc), Wd G Λ μ1 H → va_S A H0 H locs → W p l e R s m args below meth c H locs cells slots Q (F0 m (pc + 3) ls rest)) : W p l e R s m args below meth c H locs cells slots Q (F0 m pc ls (.int v :: .ref a :: rest)) :=
  g_put hOK hF hKK hW hS hA hk.1 (k := 7) (enc_4 hk.2) rfl twX4 tyX4 tyX4_ok nmX4 (Nat.le_of_ble_eq_true rfl) wd_132 rfl (ty := .int) (by decide +kernel) (vp_nar_int _) rfl (Nat.le_of_ble_eq_true rfl) (by rw [hμ]; exact enc_stI ((enc_4 hk.2).trans (by simp [mI, stI]))) hdg kk
theorem gf_4_5 {p : Program} {l : Launch} {e : Env} {R : Room} {s : State} {m : MethodId} {args : Array Value} {below : List Frame} {meth : Method} {c : Code} {H : Heap} {locs : List Loc} {cells slots : Nat} {Q : State → Prop} {G : va_G} {Λ : Lay} {μ : Mem} {cc : ByteArray} {pc nL : Nat} {ls : Array Slot} {rest : List Value} {a : Nat} (hF : CallFix p m c cc nL s args tw RX4) (hKK : KK G Λ s) (hW : Wd G Λ μ H) (hk : inK Λ a 4) (hdg : decode cc pc = .ok (.getfield 41, 3))
    (kk : W p l e R s m args below meth c H locs cells slots Q (F0 m (pc + 3) ls (.ref (lyR Λ a 5) :: rest))) : W p l e R s m args below meth c H locs cells slots Q (F0 m pc ls (.ref a :: rest)) :=
  g_get hF hKK hW hk.1 (k := 5) (enc_4 hk.2) rfl twX4 (Nat.le_of_ble_eq_true rfl) wd_130 rfl hdg kk
theorem pf_4_10 {p : Program} {l : Launch} {e : Env} {R : Room} {s : State} {m : MethodId} {args : Array Value} {below : List Frame} {meth : Method} {c : Code} {H : Heap} {locs : List Loc} {cells slots : Nat} {Q : State → Prop} {G : va_G} {Λ : Lay} {μ μ1 : Mem} {cc : ByteArray} {pc nL : Nat} {ls : Array Slot} {rest : List Value} {a : Nat} {A : Nat → Prop} {H0 : Heap} {v : Int32} (hOK : LayOK Λ) (hF : CallFix p m c cc nL s args tw RX4) (hKK : KK G Λ s) (hW : Wd G Λ μ H) (hS : va_S A H0 H locs) (hA : ∀ q, inL Λ q → A q) (hk : inK Λ a 4) (hμ : μ1 = stI μ a 10 v) (hdg : decode cc pc = .ok (.putfield 45, 3))
    (kk : ∀ (H : Heap) (locs : List Loc), Wd G Λ μ1 H → va_S A H0 H locs → W p l e R s m args below meth c H locs cells slots Q (F0 m (pc + 3) ls rest)) : W p l e R s m args below meth c H locs cells slots Q (F0 m pc ls (.int v :: .ref a :: rest)) :=
  g_put hOK hF hKK hW hS hA hk.1 (k := 10) (enc_4 hk.2) rfl twX4 tyX4 tyX4_ok nmX4 (Nat.le_of_ble_eq_true rfl) wd_135 rfl (ty := .int) (by decide +kernel) (vp_nar_int _) rfl (Nat.le_of_ble_eq_true rfl) (by rw [hμ]; exact enc_stI ((enc_4 hk.2).trans (by simp [mI, stI]))) hdg kk
theorem gf_4_7 {p : Program} {l : Launch} {e : Env} {R : Room} {s : State} {m : MethodId} {args : Array Value} {below : List Frame} {meth : Method} {c : Code} {H : Heap} {locs : List Loc} {cells slots : Nat} {Q : State → Prop} {G : va_G} {Λ : Lay} {μ : Mem} {cc : ByteArray} {pc nL : Nat} {ls : Array Slot} {rest : List Value} {a : Nat} (hF : CallFix p m c cc nL s args tw RX4) (hKK : KK G Λ s) (hW : Wd G Λ μ H) (hk : inK Λ a 4) (hdg : decode cc pc = .ok (.getfield 196, 3))
    (kk : W p l e R s m args below meth c H locs cells slots Q (F0 m (pc + 3) ls (.int (mI μ a 7) :: rest))) : W p l e R s m args below meth c H locs cells slots Q (F0 m pc ls (.ref a :: rest)) :=
  g_get hF hKK hW hk.1 (k := 7) (enc_4 hk.2) rfl twX4 (Nat.le_of_ble_eq_true rfl) wd_132 rfl hdg kk
theorem gf_4_8 {p : Program} {l : Launch} {e : Env} {R : Room} {s : State} {m : MethodId} {args : Array Value} {below : List Frame} {meth : Method} {c : Code} {H : Heap} {locs : List Loc} {cells slots : Nat} {Q : State → Prop} {G : va_G} {Λ : Lay} {μ : Mem} {cc : ByteArray} {pc nL : Nat} {ls : Array Slot} {rest : List Value} {a : Nat} (hF : CallFix p m c cc nL s args tw RX4) (hKK : KK G Λ s) (hW : Wd G Λ μ H) (hk : inK Λ a 4) (hdg : decode cc pc = .ok (.getfield 199, 3))
    (kk : W p l e R s m args below meth c H locs cells slots Q (F0 m (pc + 3) ls (.int (mI μ a 8) :: rest))) : W p l e R s m args below meth c H locs cells slots Q (F0 m pc ls (.ref a :: rest)) :=
  g_get hF hKK hW hk.1 (k := 8) (enc_4 hk.2) rfl twX4 (Nat.le_of_ble_eq_true rfl) wd_133 rfl hdg kk
theorem gf_4_9 {p : Program} {l : Launch} {e : Env} {R : Room} {s : State} {m : MethodId} {args : Array Value} {below : List Frame} {meth : Method} {c : Code} {H : Heap} {locs : List Loc} {cells slots : Nat} {Q : State → Prop} {G : va_G} {Λ : Lay} {μ : Mem} {cc : ByteArray} {pc nL : Nat} {ls : Array Slot} {rest : List Value} {a : Nat} (hF : CallFix p m c cc nL s args tw RX4) (hKK : KK G Λ s) (hW : Wd G Λ μ H) (hk : inK Λ a 4) (hdg : decode cc pc = .ok (.getfield 202, 3))
    (kk : W p l e R s m args below meth c H locs cells slots Q (F0 m (pc + 3) ls (.int (mI μ a 9) :: rest))) : W p l e R s m args below meth c H locs cells slots Q (F0 m pc ls (.ref a :: rest)) :=
  g_get hF hKK hW hk.1 (k := 9) (enc_4 hk.2) rfl twX4 (Nat.le_of_ble_eq_true rfl) wd_134 rfl hdg kk
theorem gf_4_1 {p : Program} {l : Launch} {e : Env} {R : Room} {s : State} {m : MethodId} {args : Array Value} {below : List Frame} {meth : Method} {c : Code} {H : Heap} {locs : List Loc} {cells slots : Nat} {Q : State → Prop} {G : va_G} {Λ : Lay} {μ : Mem} {cc : ByteArray} {pc nL : Nat} {ls : Array Slot} {rest : List Value} {a : Nat} (hF : CallFix p m c cc nL s args tw RX4) (hKK : KK G Λ s) (hW : Wd G Λ μ H) (hk : inK Λ a 4) (hdg : decode cc pc = .ok (.getfield 16, 3))
    (kk : W p l e R s m args below meth c H locs cells slots Q (F0 m (pc + 3) ls (.ref (lyR Λ a 1) :: rest))) : W p l e R s m args below meth c H locs cells slots Q (F0 m pc ls (.ref a :: rest)) :=
  g_get hF hKK hW hk.1 (k := 1) (enc_4 hk.2) rfl twX4 (Nat.le_of_ble_eq_true rfl) wd_126 rfl hdg kk
theorem gf_4_6 {p : Program} {l : Launch} {e : Env} {R : Room} {s : State} {m : MethodId} {args : Array Value} {below : List Frame} {meth : Method} {c : Code} {H : Heap} {locs : List Loc} {cells slots : Nat} {Q : State → Prop} {G : va_G} {Λ : Lay} {μ : Mem} {cc : ByteArray} {pc nL : Nat} {ls : Array Slot} {rest : List Value} {a : Nat} (hF : CallFix p m c cc nL s args tw RX4) (hKK : KK G Λ s) (hW : Wd G Λ μ H) (hk : inK Λ a 4) (hdg : decode cc pc = .ok (.getfield 250, 3))
    (kk : W p l e R s m args below meth c H locs cells slots Q (F0 m (pc + 3) ls (.int (mI μ a 6) :: rest))) : W p l e R s m args below meth c H locs cells slots Q (F0 m pc ls (.ref a :: rest)) :=
  g_get hF hKK hW hk.1 (k := 6) (enc_4 hk.2) rfl twX4 (Nat.le_of_ble_eq_true rfl) wd_131 rfl hdg kk
theorem pf_4_6 {p : Program} {l : Launch} {e : Env} {R : Room} {s : State} {m : MethodId} {args : Array Value} {below : List Frame} {meth : Method} {c : Code} {H : Heap} {locs : List Loc} {cells slots : Nat} {Q : State → Prop} {G : va_G} {Λ : Lay} {μ μ1 : Mem} {cc : ByteArray} {pc nL : Nat} {ls : Array Slot} {rest : List Value} {a : Nat} {A : Nat → Prop} {H0 : Heap} {v : Int32} (hbv : isB v) (hOK : LayOK Λ) (hF : CallFix p m c cc nL s args tw RX4) (hKK : KK G Λ s) (hW : Wd G Λ μ H) (hS : va_S A H0 H locs) (hA : ∀ q, inL Λ q → A q) (hk : inK Λ a 4) (hμ : μ1 = stI μ a 6 v) (hdg : decode cc pc = .ok (.putfield 250, 3))
    (kk : ∀ (H : Heap) (locs : List Loc), Wd G Λ μ1 H → va_S A H0 H locs → W p l e R s m args below meth c H locs cells slots Q (F0 m (pc + 3) ls rest)) : W p l e R s m args below meth c H locs cells slots Q (F0 m pc ls (.int v :: .ref a :: rest)) :=
  g_put hOK hF hKK hW hS hA hk.1 (k := 6) (enc_4 hk.2) rfl twX4 tyX4 tyX4_ok nmX4 (Nat.le_of_ble_eq_true rfl) wd_131 rfl (ty := .boolean) (by decide +kernel) (isB_nar hbv) (by rcases hbv with rfl | rfl <;> decide) (Nat.le_of_ble_eq_true rfl) (by rw [hμ]; exact enc_stI ((enc_4 hk.2).trans (by simp [mI, stI]))) hdg kk
