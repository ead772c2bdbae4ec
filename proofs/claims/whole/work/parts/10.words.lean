theorem bg_1 : Cond.initialized "DirtyCardHeap" ∈ BG := bg_t (List.mem_of_getElem? (i := 1) (by decide +kernel)) rfl
theorem bg_2 : Cond.initialized "DirtyCardHeap$Row" ∈ BG := bg_t (List.mem_of_getElem? (i := 2) (by decide +kernel)) rfl
theorem bg_3 : Cond.initialized "DirtyCardHeap$OldPart" ∈ BG := bg_t (List.mem_of_getElem? (i := 3) (by decide +kernel)) rfl
theorem bg_4 : Cond.initialized "DirtyCardHeapModel" ∈ BG := bg_t (List.mem_of_getElem? (i := 4) (by decide +kernel)) rfl
theorem bg_5 : Cond.initialized "java/lang/Math" ∈ BG := bg_t (List.mem_of_getElem? (i := 5) (by decide +kernel)) rfl
theorem bg_6 : Cond.initialized "DirtyCardHeap$Thing" ∈ BG := bg_t (List.mem_of_getElem? (i := 6) (by decide +kernel)) rfl
theorem bg_24 : Cond.fieldLink "DirtyCardHeap$Row" 9 "DirtyCardHeap$Row" "things" "[LDirtyCardHeap$Thing;" ∈ BG := bg_t (List.mem_of_getElem? (i := 24) (by decide +kernel)) rfl
theorem bg_25 : Cond.fieldLink "DirtyCardHeap" 167 "DirtyCardHeap$Row" "things" "[LDirtyCardHeap$Thing;" ∈ BG := bg_t (List.mem_of_getElem? (i := 25) (by decide +kernel)) rfl
theorem bg_26 : Cond.fieldLink "DirtyCardHeap$Row" 15 "DirtyCardHeap$Row" "count" "I" ∈ BG := bg_t (List.mem_of_getElem? (i := 26) (by decide +kernel)) rfl
theorem bg_27 : Cond.fieldLink "DirtyCardHeap" 164 "DirtyCardHeap$Row" "count" "I" ∈ BG := bg_t (List.mem_of_getElem? (i := 27) (by decide +kernel)) rfl
theorem bg_40 : Cond.fieldLink "DirtyCardHeap$OldPart" 11 "DirtyCardHeap$OldPart" "cells" "[LDirtyCardHeap$Thing;" ∈ BG := bg_t (List.mem_of_getElem? (i := 40) (by decide +kernel)) rfl
theorem bg_41 : Cond.fieldLink "DirtyCardHeap" 197 "DirtyCardHeap$OldPart" "cells" "[LDirtyCardHeap$Thing;" ∈ BG := bg_t (List.mem_of_getElem? (i := 41) (by decide +kernel)) rfl
theorem bg_45 : Cond.fieldLink "DirtyCardHeap" 11 "DirtyCardHeap" "roots" "[LDirtyCardHeap$Thing;" ∈ BG := bg_t (List.mem_of_getElem? (i := 45) (by decide +kernel)) rfl
theorem bg_46 : Cond.fieldLink "DirtyCardHeap" 20 "DirtyCardHeap" "young" "LDirtyCardHeap$Row;" ∈ BG := bg_t (List.mem_of_getElem? (i := 46) (by decide +kernel)) rfl
theorem bg_47 : Cond.fieldLink "DirtyCardHeap" 27 "DirtyCardHeap" "old" "LDirtyCardHeap$OldPart;" ∈ BG := bg_t (List.mem_of_getElem? (i := 47) (by decide +kernel)) rfl
theorem bg_48 : Cond.fieldLink "DirtyCardHeap" 31 "DirtyCardHeap" "reached" "LDirtyCardHeap$Row;" ∈ BG := bg_t (List.mem_of_getElem? (i := 48) (by decide +kernel)) rfl
theorem bg_49 : Cond.fieldLink "DirtyCardHeap" 34 "DirtyCardHeap" "dirty" "I" ∈ BG := bg_t (List.mem_of_getElem? (i := 49) (by decide +kernel)) rfl
theorem bg_50 : Cond.fieldLink "DirtyCardHeap" 38 "DirtyCardHeap" "noted" "I" ∈ BG := bg_t (List.mem_of_getElem? (i := 50) (by decide +kernel)) rfl
theorem bg_51 : Cond.fieldLink "DirtyCardHeap" 41 "DirtyCardHeap" "currentPhase" "I" ∈ BG := bg_t (List.mem_of_getElem? (i := 51) (by decide +kernel)) rfl
theorem bg_52 : Cond.fieldLink "DirtyCardHeap" 44 "DirtyCardHeap" "sweepAddress" "I" ∈ BG := bg_t (List.mem_of_getElem? (i := 52) (by decide +kernel)) rfl
theorem bg_74 : Cond.methodLink "DirtyCardHeap" 47 y_H_isRoot ∈ BG := bg_t (List.mem_of_getElem? (i := 74) (by decide +kernel)) rfl
theorem bg_75 : Cond.static y_H_isRoot ∈ BG := bg_t (List.mem_of_getElem? (i := 75) (by decide +kernel)) rfl
theorem bg_81 : Cond.methodLink "DirtyCardHeap" 141 y_R_cellsTaken ∈ BG := bg_t (List.mem_of_getElem? (i := 81) (by decide +kernel)) rfl
theorem bg_82 : Cond.instanceMethod y_R_cellsTaken ∈ BG := bg_t (List.mem_of_getElem? (i := 82) (by decide +kernel)) rfl
theorem bg_83 : Cond.selects "DirtyCardHeap$Row" y_R_cellsTaken y_R_cellsTaken ∈ BG := bg_t (List.mem_of_getElem? (i := 83) (by decide +kernel)) rfl
theorem bg_85 : Cond.methodLink "DirtyCardHeap$Row" 27 y_T_size ∈ BG := bg_t (List.mem_of_getElem? (i := 85) (by decide +kernel)) rfl
theorem bg_86 : Cond.instanceMethod y_T_size ∈ BG := bg_t (List.mem_of_getElem? (i := 86) (by decide +kernel)) rfl
theorem bg_87 : Cond.selects "DirtyCardHeap$Thing" y_T_size y_T_size ∈ BG := bg_t (List.mem_of_getElem? (i := 87) (by decide +kernel)) rfl
theorem bg_89 : Cond.methodLink "DirtyCardHeap" 54 y_H_collectYoung ∈ BG := bg_t (List.mem_of_getElem? (i := 89) (by decide +kernel)) rfl
theorem bg_91 : Cond.instanceMethod y_H_collectYoung ∈ BG := bg_t (List.mem_of_getElem? (i := 91) (by decide +kernel)) rfl
theorem bg_93 : Cond.methodLink "DirtyCardHeap" 158 y_H_reachYoung ∈ BG := bg_t (List.mem_of_getElem? (i := 93) (by decide +kernel)) rfl
theorem bg_95 : Cond.instanceMethod y_H_reachYoung ∈ BG := bg_t (List.mem_of_getElem? (i := 95) (by decide +kernel)) rfl
theorem bg_97 : Cond.methodLink "DirtyCardHeap" 92 y_T_isYoung ∈ BG := bg_t (List.mem_of_getElem? (i := 97) (by decide +kernel)) rfl
theorem bg_98 : Cond.instanceMethod y_T_isYoung ∈ BG := bg_t (List.mem_of_getElem? (i := 98) (by decide +kernel)) rfl
theorem bg_99 : Cond.selects "DirtyCardHeap$Thing" y_T_isYoung y_T_isYoung ∈ BG := bg_t (List.mem_of_getElem? (i := 99) (by decide +kernel)) rfl
theorem bg_101 : Cond.methodLink "DirtyCardHeap" 185 y_R_reach ∈ BG := bg_t (List.mem_of_getElem? (i := 101) (by decide +kernel)) rfl
theorem bg_102 : Cond.instanceMethod y_R_reach ∈ BG := bg_t (List.mem_of_getElem? (i := 102) (by decide +kernel)) rfl
theorem bg_103 : Cond.selects "DirtyCardHeap$Row" y_R_reach y_R_reach ∈ BG := bg_t (List.mem_of_getElem? (i := 103) (by decide +kernel)) rfl
theorem bg_105 : Cond.methodLink "DirtyCardHeap$Row" 23 y_R_add ∈ BG := bg_t (List.mem_of_getElem? (i := 105) (by decide +kernel)) rfl
theorem bg_106 : Cond.instanceMethod y_R_add ∈ BG := bg_t (List.mem_of_getElem? (i := 106) (by decide +kernel)) rfl
theorem bg_107 : Cond.selects "DirtyCardHeap$Row" y_R_add y_R_add ∈ BG := bg_t (List.mem_of_getElem? (i := 107) (by decide +kernel)) rfl
theorem bg_109 : Cond.methodLink "DirtyCardHeap" 188 Lib.Math.min.name ∈ BG := bg_t (List.mem_of_getElem? (i := 109) (by decide +kernel)) rfl
theorem bg_110 : Cond.static Lib.Math.min.name ∈ BG := bg_t (List.mem_of_getElem? (i := 110) (by decide +kernel)) rfl
theorem bg_111 : Cond.code Lib.Math.min.name Lib.Math.min.code 2 (some .int) ∈ BG := bg_t (List.mem_of_getElem? (i := 111) (by decide +kernel)) rfl
theorem bg_112 : Cond.methodLink "DirtyCardHeap" 194 y_H_placeAsOld ∈ BG := bg_t (List.mem_of_getElem? (i := 112) (by decide +kernel)) rfl
theorem bg_114 : Cond.instanceMethod y_H_placeAsOld ∈ BG := bg_t (List.mem_of_getElem? (i := 114) (by decide +kernel)) rfl
theorem bg_116 : Cond.methodLink "DirtyCardHeap" 124 y_T_size ∈ BG := bg_t (List.mem_of_getElem? (i := 116) (by decide +kernel)) rfl
theorem bg_117 : Cond.methodLink "DirtyCardHeap" 148 y_O_findPlace ∈ BG := bg_t (List.mem_of_getElem? (i := 117) (by decide +kernel)) rfl
theorem bg_118 : Cond.instanceMethod y_O_findPlace ∈ BG := bg_t (List.mem_of_getElem? (i := 118) (by decide +kernel)) rfl
theorem bg_119 : Cond.selects "DirtyCardHeap$OldPart" y_O_findPlace y_O_findPlace ∈ BG := bg_t (List.mem_of_getElem? (i := 119) (by decide +kernel)) rfl
theorem bg_121 : Cond.methodLink "DirtyCardHeap" 151 y_O_putAt ∈ BG := bg_t (List.mem_of_getElem? (i := 121) (by decide +kernel)) rfl
theorem bg_122 : Cond.instanceMethod y_O_putAt ∈ BG := bg_t (List.mem_of_getElem? (i := 122) (by decide +kernel)) rfl
theorem bg_123 : Cond.selects "DirtyCardHeap$OldPart" y_O_putAt y_O_putAt ∈ BG := bg_t (List.mem_of_getElem? (i := 123) (by decide +kernel)) rfl
theorem bg_125 : Cond.methodLink "DirtyCardHeap$OldPart" 21 y_T_size ∈ BG := bg_t (List.mem_of_getElem? (i := 125) (by decide +kernel)) rfl
theorem bg_126 : Cond.methodLink "DirtyCardHeap$OldPart" 25 y_O_fill ∈ BG := bg_t (List.mem_of_getElem? (i := 126) (by decide +kernel)) rfl
theorem bg_128 : Cond.instanceMethod y_O_fill ∈ BG := bg_t (List.mem_of_getElem? (i := 128) (by decide +kernel)) rfl
theorem bg_130 : Cond.methodLink "DirtyCardHeap$OldPart" 29 Lib.Math.max.name ∈ BG := bg_t (List.mem_of_getElem? (i := 130) (by decide +kernel)) rfl
theorem bg_131 : Cond.static Lib.Math.max.name ∈ BG := bg_t (List.mem_of_getElem? (i := 131) (by decide +kernel)) rfl
theorem bg_132 : Cond.code Lib.Math.max.name Lib.Math.max.code 2 (some .int) ∈ BG := bg_t (List.mem_of_getElem? (i := 132) (by decide +kernel)) rfl
theorem bg_133 : Cond.methodLink "DirtyCardHeap" 155 y_T_cardsUnder ∈ BG := bg_t (List.mem_of_getElem? (i := 133) (by decide +kernel)) rfl
theorem bg_134 : Cond.instanceMethod y_T_cardsUnder ∈ BG := bg_t (List.mem_of_getElem? (i := 134) (by decide +kernel)) rfl
theorem bg_135 : Cond.selects "DirtyCardHeap$Thing" y_T_cardsUnder y_T_cardsUnder ∈ BG := bg_t (List.mem_of_getElem? (i := 135) (by decide +kernel)) rfl
theorem bg_138 : Cond.static y_H_cardOf ∈ BG := bg_t (List.mem_of_getElem? (i := 138) (by decide +kernel)) rfl
theorem bg_140 : Cond.methodLink "DirtyCardHeap" 161 y_H_reachFromCards ∈ BG := bg_t (List.mem_of_getElem? (i := 140) (by decide +kernel)) rfl
theorem bg_142 : Cond.instanceMethod y_H_reachFromCards ∈ BG := bg_t (List.mem_of_getElem? (i := 142) (by decide +kernel)) rfl
theorem bg_144 : Cond.methodLink "DirtyCardHeap" 81 y_H_cardOf ∈ BG := bg_t (List.mem_of_getElem? (i := 144) (by decide +kernel)) rfl
theorem bg_145 : Cond.methodLink "DirtyCardHeap" 202 y_O_referenceIn ∈ BG := bg_t (List.mem_of_getElem? (i := 145) (by decide +kernel)) rfl
theorem bg_146 : Cond.instanceMethod y_O_referenceIn ∈ BG := bg_t (List.mem_of_getElem? (i := 146) (by decide +kernel)) rfl
theorem bg_147 : Cond.selects "DirtyCardHeap$OldPart" y_O_referenceIn y_O_referenceIn ∈ BG := bg_t (List.mem_of_getElem? (i := 147) (by decide +kernel)) rfl
theorem bg_149 : Cond.methodLink "DirtyCardHeap$OldPart" 43 y_T_hasField ∈ BG := bg_t (List.mem_of_getElem? (i := 149) (by decide +kernel)) rfl
theorem bg_150 : Cond.instanceMethod y_T_hasField ∈ BG := bg_t (List.mem_of_getElem? (i := 150) (by decide +kernel)) rfl
theorem bg_151 : Cond.selects "DirtyCardHeap$Thing" y_T_hasField y_T_hasField ∈ BG := bg_t (List.mem_of_getElem? (i := 151) (by decide +kernel)) rfl
theorem bg_153 : Cond.methodLink "DirtyCardHeap" 170 y_H_reachFields ∈ BG := bg_t (List.mem_of_getElem? (i := 153) (by decide +kernel)) rfl
theorem bg_155 : Cond.instanceMethod y_H_reachFields ∈ BG := bg_t (List.mem_of_getElem? (i := 155) (by decide +kernel)) rfl
theorem bg_157 : Cond.methodLink "DirtyCardHeap" 173 y_H_dropUnreachedYoung ∈ BG := bg_t (List.mem_of_getElem? (i := 157) (by decide +kernel)) rfl
theorem bg_159 : Cond.instanceMethod y_H_dropUnreachedYoung ∈ BG := bg_t (List.mem_of_getElem? (i := 159) (by decide +kernel)) rfl
theorem bg_161 : Cond.methodLink "DirtyCardHeap" 135 y_T_becomeGone ∈ BG := bg_t (List.mem_of_getElem? (i := 161) (by decide +kernel)) rfl
theorem bg_162 : Cond.instanceMethod y_T_becomeGone ∈ BG := bg_t (List.mem_of_getElem? (i := 162) (by decide +kernel)) rfl
theorem bg_163 : Cond.selects "DirtyCardHeap$Thing" y_T_becomeGone y_T_becomeGone ∈ BG := bg_t (List.mem_of_getElem? (i := 163) (by decide +kernel)) rfl
theorem bg_165 : Cond.methodLink "DirtyCardHeap" 176 y_H_renewYoungOrder ∈ BG := bg_t (List.mem_of_getElem? (i := 165) (by decide +kernel)) rfl
theorem bg_167 : Cond.instanceMethod y_H_renewYoungOrder ∈ BG := bg_t (List.mem_of_getElem? (i := 167) (by decide +kernel)) rfl
theorem bg_169 : Cond.methodLink "DirtyCardHeap" 205 y_R_empty ∈ BG := bg_t (List.mem_of_getElem? (i := 169) (by decide +kernel)) rfl
theorem bg_170 : Cond.instanceMethod y_R_empty ∈ BG := bg_t (List.mem_of_getElem? (i := 170) (by decide +kernel)) rfl
theorem bg_171 : Cond.selects "DirtyCardHeap$Row" y_R_empty y_R_empty ∈ BG := bg_t (List.mem_of_getElem? (i := 171) (by decide +kernel)) rfl
theorem bg_173 : Cond.methodLink "DirtyCardHeap" 64 y_R_add ∈ BG := bg_t (List.mem_of_getElem? (i := 173) (by decide +kernel)) rfl
theorem bg_174 : Cond.methodLink "DirtyCardHeap" 179 y_R_letGo ∈ BG := bg_t (List.mem_of_getElem? (i := 174) (by decide +kernel)) rfl
theorem bg_175 : Cond.instanceMethod y_R_letGo ∈ BG := bg_t (List.mem_of_getElem? (i := 175) (by decide +kernel)) rfl
theorem bg_176 : Cond.selects "DirtyCardHeap$Row" y_R_letGo y_R_letGo ∈ BG := bg_t (List.mem_of_getElem? (i := 176) (by decide +kernel)) rfl
theorem bg_178 : Cond.methodLink "DirtyCardHeap" 182 y_H_cleanCards ∈ BG := bg_t (List.mem_of_getElem? (i := 178) (by decide +kernel)) rfl
theorem bg_180 : Cond.instanceMethod y_H_cleanCards ∈ BG := bg_t (List.mem_of_getElem? (i := 180) (by decide +kernel)) rfl
theorem bg_182 : Cond.methodLink "DirtyCardHeap" 208 y_O_cardsReferringToYoung ∈ BG := bg_t (List.mem_of_getElem? (i := 182) (by decide +kernel)) rfl
theorem bg_183 : Cond.instanceMethod y_O_cardsReferringToYoung ∈ BG := bg_t (List.mem_of_getElem? (i := 183) (by decide +kernel)) rfl
theorem bg_184 : Cond.selects "DirtyCardHeap$OldPart" y_O_cardsReferringToYoung y_O_cardsReferringToYoung ∈ BG := bg_t (List.mem_of_getElem? (i := 184) (by decide +kernel)) rfl
theorem bg_186 : Cond.methodLink "DirtyCardHeap$OldPart" 50 y_O_referenceIn ∈ BG := bg_t (List.mem_of_getElem? (i := 186) (by decide +kernel)) rfl
theorem bg_187 : Cond.methodLink "DirtyCardHeap$OldPart" 53 y_T_isYoung ∈ BG := bg_t (List.mem_of_getElem? (i := 187) (by decide +kernel)) rfl
theorem bg_189 : Cond.methodLink "DirtyCardHeap" 58 y_H_collectAll ∈ BG := bg_t (List.mem_of_getElem? (i := 189) (by decide +kernel)) rfl
theorem bg_191 : Cond.instanceMethod y_H_collectAll ∈ BG := bg_t (List.mem_of_getElem? (i := 191) (by decide +kernel)) rfl
theorem bg_193 : Cond.methodLink "DirtyCardHeap" 211 y_H_findReachable ∈ BG := bg_t (List.mem_of_getElem? (i := 193) (by decide +kernel)) rfl
theorem bg_195 : Cond.instanceMethod y_H_findReachable ∈ BG := bg_t (List.mem_of_getElem? (i := 195) (by decide +kernel)) rfl
theorem bg_197 : Cond.methodLink "DirtyCardHeap" 214 y_O_slideReached ∈ BG := bg_t (List.mem_of_getElem? (i := 197) (by decide +kernel)) rfl
theorem bg_198 : Cond.instanceMethod y_O_slideReached ∈ BG := bg_t (List.mem_of_getElem? (i := 198) (by decide +kernel)) rfl
theorem bg_199 : Cond.selects "DirtyCardHeap$OldPart" y_O_slideReached y_O_slideReached ∈ BG := bg_t (List.mem_of_getElem? (i := 199) (by decide +kernel)) rfl
theorem bg_201 : Cond.methodLink "DirtyCardHeap$OldPart" 35 y_O_thingAt ∈ BG := bg_t (List.mem_of_getElem? (i := 201) (by decide +kernel)) rfl
theorem bg_202 : Cond.instanceMethod y_O_thingAt ∈ BG := bg_t (List.mem_of_getElem? (i := 202) (by decide +kernel)) rfl
theorem bg_203 : Cond.selects "DirtyCardHeap$OldPart" y_O_thingAt y_O_thingAt ∈ BG := bg_t (List.mem_of_getElem? (i := 203) (by decide +kernel)) rfl
theorem bg_205 : Cond.methodLink "DirtyCardHeap$OldPart" 64 y_O_takeOut ∈ BG := bg_t (List.mem_of_getElem? (i := 205) (by decide +kernel)) rfl
theorem bg_206 : Cond.instanceMethod y_O_takeOut ∈ BG := bg_t (List.mem_of_getElem? (i := 206) (by decide +kernel)) rfl
theorem bg_207 : Cond.selects "DirtyCardHeap$OldPart" y_O_takeOut y_O_takeOut ∈ BG := bg_t (List.mem_of_getElem? (i := 207) (by decide +kernel)) rfl
theorem bg_209 : Cond.methodLink "DirtyCardHeap$OldPart" 71 y_O_putAt ∈ BG := bg_t (List.mem_of_getElem? (i := 209) (by decide +kernel)) rfl
theorem bg_210 : Cond.methodLink "DirtyCardHeap$OldPart" 75 y_T_becomeGone ∈ BG := bg_t (List.mem_of_getElem? (i := 210) (by decide +kernel)) rfl
theorem bg_211 : Cond.methodLink "DirtyCardHeap" 121 y_O_unmarkAll ∈ BG := bg_t (List.mem_of_getElem? (i := 211) (by decide +kernel)) rfl
theorem bg_212 : Cond.instanceMethod y_O_unmarkAll ∈ BG := bg_t (List.mem_of_getElem? (i := 212) (by decide +kernel)) rfl
theorem bg_213 : Cond.selects "DirtyCardHeap$OldPart" y_O_unmarkAll y_O_unmarkAll ∈ BG := bg_t (List.mem_of_getElem? (i := 213) (by decide +kernel)) rfl
theorem bg_215 : Cond.methodLink "DirtyCardHeap" 217 y_H_keepReachedYoung ∈ BG := bg_t (List.mem_of_getElem? (i := 215) (by decide +kernel)) rfl
theorem bg_217 : Cond.instanceMethod y_H_keepReachedYoung ∈ BG := bg_t (List.mem_of_getElem? (i := 217) (by decide +kernel)) rfl
theorem bg_219 : Cond.methodLink "DirtyCardHeap" 220 y_H_placeYoungInOrder ∈ BG := bg_t (List.mem_of_getElem? (i := 219) (by decide +kernel)) rfl
theorem bg_221 : Cond.instanceMethod y_H_placeYoungInOrder ∈ BG := bg_t (List.mem_of_getElem? (i := 221) (by decide +kernel)) rfl
theorem bg_230 : Cond.fieldLink "DirtyCardHeap" 89 "DirtyCardHeap$Thing" "payload" "I" ∈ BG := bg_t (List.mem_of_getElem? (i := 230) (by decide +kernel)) rfl
theorem bg_231 : Cond.fieldLink "DirtyCardHeap$Thing" 13 "DirtyCardHeap$Thing" "fields" "[LDirtyCardHeap$Thing;" ∈ BG := bg_t (List.mem_of_getElem? (i := 231) (by decide +kernel)) rfl
theorem bg_232 : Cond.fieldLink "DirtyCardHeap" 71 "DirtyCardHeap$Thing" "fields" "[LDirtyCardHeap$Thing;" ∈ BG := bg_t (List.mem_of_getElem? (i := 232) (by decide +kernel)) rfl
theorem bg_233 : Cond.fieldLink "DirtyCardHeap$OldPart" 47 "DirtyCardHeap$Thing" "fields" "[LDirtyCardHeap$Thing;" ∈ BG := bg_t (List.mem_of_getElem? (i := 233) (by decide +kernel)) rfl
theorem bg_235 : Cond.fieldLink "DirtyCardHeap" 95 "DirtyCardHeap$Thing" "age" "I" ∈ BG := bg_t (List.mem_of_getElem? (i := 235) (by decide +kernel)) rfl
theorem bg_236 : Cond.fieldLink "DirtyCardHeap$Thing" 20 "DirtyCardHeap$Thing" "address" "I" ∈ BG := bg_t (List.mem_of_getElem? (i := 236) (by decide +kernel)) rfl
theorem bg_237 : Cond.fieldLink "DirtyCardHeap$OldPart" 17 "DirtyCardHeap$Thing" "address" "I" ∈ BG := bg_t (List.mem_of_getElem? (i := 237) (by decide +kernel)) rfl
theorem bg_238 : Cond.fieldLink "DirtyCardHeap" 78 "DirtyCardHeap$Thing" "address" "I" ∈ BG := bg_t (List.mem_of_getElem? (i := 238) (by decide +kernel)) rfl
theorem bg_239 : Cond.fieldLink "DirtyCardHeap$OldPart" 61 "DirtyCardHeap$Thing" "marked" "Z" ∈ BG := bg_t (List.mem_of_getElem? (i := 239) (by decide +kernel)) rfl
theorem bg_240 : Cond.fieldLink "DirtyCardHeap" 127 "DirtyCardHeap$Thing" "marked" "Z" ∈ BG := bg_t (List.mem_of_getElem? (i := 240) (by decide +kernel)) rfl
theorem bg_241 : Cond.fieldLink "DirtyCardHeap$OldPart" 39 "DirtyCardHeap$Thing" "grey" "Z" ∈ BG := bg_t (List.mem_of_getElem? (i := 241) (by decide +kernel)) rfl
theorem bg_242 : Cond.fieldLink "DirtyCardHeap" 145 "DirtyCardHeap$Thing" "grey" "Z" ∈ BG := bg_t (List.mem_of_getElem? (i := 242) (by decide +kernel)) rfl
theorem bg_243 : Cond.fieldLink "DirtyCardHeap$Row" 19 "DirtyCardHeap$Thing" "reached" "Z" ∈ BG := bg_t (List.mem_of_getElem? (i := 243) (by decide +kernel)) rfl
theorem bg_244 : Cond.fieldLink "DirtyCardHeap$OldPart" 68 "DirtyCardHeap$Thing" "reached" "Z" ∈ BG := bg_t (List.mem_of_getElem? (i := 244) (by decide +kernel)) rfl
theorem bg_245 : Cond.fieldLink "DirtyCardHeap" 200 "DirtyCardHeap$Thing" "reached" "Z" ∈ BG := bg_t (List.mem_of_getElem? (i := 245) (by decide +kernel)) rfl
theorem bg_273 : Cond.methodLink "DirtyCardHeap" 68 y_T_hasField ∈ BG := bg_t (List.mem_of_getElem? (i := 273) (by decide +kernel)) rfl
theorem bg_278 : Cond.methodLink "DirtyCardHeap" 74 y_T_isOld ∈ BG := bg_t (List.mem_of_getElem? (i := 278) (by decide +kernel)) rfl
theorem bg_279 : Cond.instanceMethod y_T_isOld ∈ BG := bg_t (List.mem_of_getElem? (i := 279) (by decide +kernel)) rfl
theorem bg_280 : Cond.selects "DirtyCardHeap$Thing" y_T_isOld y_T_isOld ∈ BG := bg_t (List.mem_of_getElem? (i := 280) (by decide +kernel)) rfl
theorem bg_286 : Cond.methodLink "DirtyCardHeap" 85 y_H_thingOf ∈ BG := bg_t (List.mem_of_getElem? (i := 286) (by decide +kernel)) rfl
theorem bg_288 : Cond.instanceMethod y_H_thingOf ∈ BG := bg_t (List.mem_of_getElem? (i := 288) (by decide +kernel)) rfl
theorem bg_310 : Cond.methodLink "DirtyCardHeap" 98 y_H_shadeFromRoots ∈ BG := bg_t (List.mem_of_getElem? (i := 310) (by decide +kernel)) rfl
theorem bg_312 : Cond.instanceMethod y_H_shadeFromRoots ∈ BG := bg_t (List.mem_of_getElem? (i := 312) (by decide +kernel)) rfl
theorem bg_314 : Cond.methodLink "DirtyCardHeap" 223 y_H_shade ∈ BG := bg_t (List.mem_of_getElem? (i := 314) (by decide +kernel)) rfl
theorem bg_315 : Cond.static y_H_shade ∈ BG := bg_t (List.mem_of_getElem? (i := 315) (by decide +kernel)) rfl
theorem bg_321 : Cond.methodLink "DirtyCardHeap" 101 y_O_firstGrey ∈ BG := bg_t (List.mem_of_getElem? (i := 321) (by decide +kernel)) rfl
theorem bg_322 : Cond.instanceMethod y_O_firstGrey ∈ BG := bg_t (List.mem_of_getElem? (i := 322) (by decide +kernel)) rfl
theorem bg_323 : Cond.selects "DirtyCardHeap$OldPart" y_O_firstGrey y_O_firstGrey ∈ BG := bg_t (List.mem_of_getElem? (i := 323) (by decide +kernel)) rfl
theorem bg_325 : Cond.methodLink "DirtyCardHeap" 105 y_H_scan ∈ BG := bg_t (List.mem_of_getElem? (i := 325) (by decide +kernel)) rfl
theorem bg_326 : Cond.static y_H_scan ∈ BG := bg_t (List.mem_of_getElem? (i := 326) (by decide +kernel)) rfl
theorem bg_328 : Cond.methodLink "DirtyCardHeap" 226 y_H_shadeFields ∈ BG := bg_t (List.mem_of_getElem? (i := 328) (by decide +kernel)) rfl
theorem bg_329 : Cond.static y_H_shadeFields ∈ BG := bg_t (List.mem_of_getElem? (i := 329) (by decide +kernel)) rfl
theorem bg_335 : Cond.methodLink "DirtyCardHeap" 109 y_O_greyMarkedOn ∈ BG := bg_t (List.mem_of_getElem? (i := 335) (by decide +kernel)) rfl
theorem bg_336 : Cond.instanceMethod y_O_greyMarkedOn ∈ BG := bg_t (List.mem_of_getElem? (i := 336) (by decide +kernel)) rfl
theorem bg_337 : Cond.selects "DirtyCardHeap$OldPart" y_O_greyMarkedOn y_O_greyMarkedOn ∈ BG := bg_t (List.mem_of_getElem? (i := 337) (by decide +kernel)) rfl
theorem bg_343 : Cond.methodLink "DirtyCardHeap" 112 y_H_shadeFromYoung ∈ BG := bg_t (List.mem_of_getElem? (i := 343) (by decide +kernel)) rfl
theorem bg_345 : Cond.instanceMethod y_H_shadeFromYoung ∈ BG := bg_t (List.mem_of_getElem? (i := 345) (by decide +kernel)) rfl
theorem bg_347 : Cond.methodLink "DirtyCardHeap" 115 y_H_scanAllGrey ∈ BG := bg_t (List.mem_of_getElem? (i := 347) (by decide +kernel)) rfl
theorem bg_349 : Cond.instanceMethod y_H_scanAllGrey ∈ BG := bg_t (List.mem_of_getElem? (i := 349) (by decide +kernel)) rfl
theorem bg_355 : Cond.methodLink "DirtyCardHeap" 118 y_O_firstFrom ∈ BG := bg_t (List.mem_of_getElem? (i := 355) (by decide +kernel)) rfl
theorem bg_356 : Cond.instanceMethod y_O_firstFrom ∈ BG := bg_t (List.mem_of_getElem? (i := 356) (by decide +kernel)) rfl
theorem bg_357 : Cond.selects "DirtyCardHeap$OldPart" y_O_firstFrom y_O_firstFrom ∈ BG := bg_t (List.mem_of_getElem? (i := 357) (by decide +kernel)) rfl
theorem bg_359 : Cond.methodLink "DirtyCardHeap" 131 y_O_takeOut ∈ BG := bg_t (List.mem_of_getElem? (i := 359) (by decide +kernel)) rfl
theorem bg_368 : Cond.methodLink "DirtyCardHeap" 138 y_O_cellsTaken ∈ BG := bg_t (List.mem_of_getElem? (i := 368) (by decide +kernel)) rfl
theorem bg_369 : Cond.instanceMethod y_O_cellsTaken ∈ BG := bg_t (List.mem_of_getElem? (i := 369) (by decide +kernel)) rfl
theorem bg_370 : Cond.selects "DirtyCardHeap$OldPart" y_O_cellsTaken y_O_cellsTaken ∈ BG := bg_t (List.mem_of_getElem? (i := 370) (by decide +kernel)) rfl
theorem bg_384 : Cond.methodLink "DirtyCardHeap" 142 y_O_thingAt ∈ BG := bg_t (List.mem_of_getElem? (i := 384) (by decide +kernel)) rfl
theorem bg_391 : Cond.fieldLink "DirtyCardHeapModel" 7 "DirtyCardHeapModel" "kind" "[I" ∈ BG := bg_t (List.mem_of_getElem? (i := 391) (by decide +kernel)) rfl
theorem bg_392 : Cond.fieldLink "DirtyCardHeapModel" 13 "DirtyCardHeapModel" "payloads" "[I" ∈ BG := bg_t (List.mem_of_getElem? (i := 392) (by decide +kernel)) rfl
theorem bg_393 : Cond.fieldLink "DirtyCardHeapModel" 16 "DirtyCardHeapModel" "fields" "[I" ∈ BG := bg_t (List.mem_of_getElem? (i := 393) (by decide +kernel)) rfl
theorem bg_394 : Cond.fieldLink "DirtyCardHeapModel" 19 "DirtyCardHeapModel" "ref" "[I" ∈ BG := bg_t (List.mem_of_getElem? (i := 394) (by decide +kernel)) rfl
theorem bg_395 : Cond.fieldLink "DirtyCardHeapModel" 22 "DirtyCardHeapModel" "ages" "[I" ∈ BG := bg_t (List.mem_of_getElem? (i := 395) (by decide +kernel)) rfl
theorem bg_396 : Cond.fieldLink "DirtyCardHeapModel" 25 "DirtyCardHeapModel" "at" "[I" ∈ BG := bg_t (List.mem_of_getElem? (i := 396) (by decide +kernel)) rfl
theorem bg_397 : Cond.fieldLink "DirtyCardHeapModel" 28 "DirtyCardHeapModel" "marks" "[Z" ∈ BG := bg_t (List.mem_of_getElem? (i := 397) (by decide +kernel)) rfl
theorem bg_398 : Cond.fieldLink "DirtyCardHeapModel" 32 "DirtyCardHeapModel" "grey" "[Z" ∈ BG := bg_t (List.mem_of_getElem? (i := 398) (by decide +kernel)) rfl
theorem bg_399 : Cond.fieldLink "DirtyCardHeapModel" 35 "DirtyCardHeapModel" "root" "[I" ∈ BG := bg_t (List.mem_of_getElem? (i := 399) (by decide +kernel)) rfl
theorem bg_400 : Cond.fieldLink "DirtyCardHeapModel" 38 "DirtyCardHeapModel" "dirty" "[Z" ∈ BG := bg_t (List.mem_of_getElem? (i := 400) (by decide +kernel)) rfl
theorem bg_401 : Cond.fieldLink "DirtyCardHeapModel" 41 "DirtyCardHeapModel" "noted" "[Z" ∈ BG := bg_t (List.mem_of_getElem? (i := 401) (by decide +kernel)) rfl
theorem bg_402 : Cond.fieldLink "DirtyCardHeapModel" 81 "DirtyCardHeapModel" "phase" "I" ∈ BG := bg_t (List.mem_of_getElem? (i := 402) (by decide +kernel)) rfl
theorem bg_403 : Cond.fieldLink "DirtyCardHeapModel" 143 "DirtyCardHeapModel" "swept" "I" ∈ BG := bg_t (List.mem_of_getElem? (i := 403) (by decide +kernel)) rfl
theorem bg_404 : Cond.fieldLink "DirtyCardHeapModel" 101 "DirtyCardHeapModel" "youngs" "I" ∈ BG := bg_t (List.mem_of_getElem? (i := 404) (by decide +kernel)) rfl
theorem bg_405 : Cond.fieldLink "DirtyCardHeapModel" 44 "DirtyCardHeapModel" "order" "[I" ∈ BG := bg_t (List.mem_of_getElem? (i := 405) (by decide +kernel)) rfl
theorem bg_406 : Cond.fieldLink "DirtyCardHeapModel" 70 "DirtyCardHeapModel" "reached" "I" ∈ BG := bg_t (List.mem_of_getElem? (i := 406) (by decide +kernel)) rfl
theorem bg_407 : Cond.fieldLink "DirtyCardHeapModel" 47 "DirtyCardHeapModel" "row" "[I" ∈ BG := bg_t (List.mem_of_getElem? (i := 407) (by decide +kernel)) rfl
theorem bg_408 : Cond.fieldLink "DirtyCardHeapModel" 50 "DirtyCardHeapModel" "met" "[Z" ∈ BG := bg_t (List.mem_of_getElem? (i := 408) (by decide +kernel)) rfl
theorem bg_409 : Cond.fieldLink "DirtyCardHeapModel" 53 "DirtyCardHeapModel" "wasOld" "[Z" ∈ BG := bg_t (List.mem_of_getElem? (i := 409) (by decide +kernel)) rfl
theorem bg_410 : Cond.fieldLink "DirtyCardHeapModel" 56 "DirtyCardHeapModel" "wasDirty" "[Z" ∈ BG := bg_t (List.mem_of_getElem? (i := 410) (by decide +kernel)) rfl
theorem bg_411 : Cond.fieldLink "DirtyCardHeapModel" 59 "DirtyCardHeapModel" "wasAt" "[I" ∈ BG := bg_t (List.mem_of_getElem? (i := 411) (by decide +kernel)) rfl
theorem bg_412 : Cond.fieldLink "DirtyCardHeapModel" 66 "DirtyCardHeapModel" "grown" "I" ∈ BG := bg_t (List.mem_of_getElem? (i := 412) (by decide +kernel)) rfl
theorem bg_464 : Cond.methodLink "DirtyCardHeapModel" 113 y_M_collectFull ∈ BG := bg_t (List.mem_of_getElem? (i := 464) (by decide +kernel)) rfl
theorem bg_466 : Cond.instanceMethod y_M_collectFull ∈ BG := bg_t (List.mem_of_getElem? (i := 466) (by decide +kernel)) rfl
theorem bg_468 : Cond.methodLink "DirtyCardHeapModel" 92 y_M_prepare ∈ BG := bg_t (List.mem_of_getElem? (i := 468) (by decide +kernel)) rfl
theorem bg_470 : Cond.instanceMethod y_M_prepare ∈ BG := bg_t (List.mem_of_getElem? (i := 470) (by decide +kernel)) rfl
theorem bg_472 : Cond.methodLink "DirtyCardHeapModel" 107 y_M_meetAll ∈ BG := bg_t (List.mem_of_getElem? (i := 472) (by decide +kernel)) rfl
theorem bg_474 : Cond.instanceMethod y_M_meetAll ∈ BG := bg_t (List.mem_of_getElem? (i := 474) (by decide +kernel)) rfl
theorem bg_476 : Cond.methodLink "DirtyCardHeapModel" 98 y_M_remove ∈ BG := bg_t (List.mem_of_getElem? (i := 476) (by decide +kernel)) rfl
theorem bg_478 : Cond.instanceMethod y_M_remove ∈ BG := bg_t (List.mem_of_getElem? (i := 478) (by decide +kernel)) rfl
theorem bg_480 : Cond.methodLink "DirtyCardHeapModel" 110 y_M_slide ∈ BG := bg_t (List.mem_of_getElem? (i := 480) (by decide +kernel)) rfl
theorem bg_482 : Cond.instanceMethod y_M_slide ∈ BG := bg_t (List.mem_of_getElem? (i := 482) (by decide +kernel)) rfl
theorem bg_484 : Cond.methodLink "DirtyCardHeapModel" 73 y_M_place ∈ BG := bg_t (List.mem_of_getElem? (i := 484) (by decide +kernel)) rfl
theorem bg_486 : Cond.instanceMethod y_M_place ∈ BG := bg_t (List.mem_of_getElem? (i := 486) (by decide +kernel)) rfl
theorem bg_488 : Cond.methodLink "DirtyCardHeapModel" 62 y_M_isFree ∈ BG := bg_t (List.mem_of_getElem? (i := 488) (by decide +kernel)) rfl
theorem bg_490 : Cond.instanceMethod y_M_isFree ∈ BG := bg_t (List.mem_of_getElem? (i := 490) (by decide +kernel)) rfl
theorem bg_492 : Cond.methodLink "DirtyCardHeapModel" 77 y_M_becomeOld ∈ BG := bg_t (List.mem_of_getElem? (i := 492) (by decide +kernel)) rfl
theorem bg_494 : Cond.instanceMethod y_M_becomeOld ∈ BG := bg_t (List.mem_of_getElem? (i := 494) (by decide +kernel)) rfl
theorem bg_496 : Cond.methodLink "DirtyCardHeapModel" 104 y_M_showsYoung ∈ BG := bg_t (List.mem_of_getElem? (i := 496) (by decide +kernel)) rfl
theorem bg_498 : Cond.instanceMethod y_M_showsYoung ∈ BG := bg_t (List.mem_of_getElem? (i := 498) (by decide +kernel)) rfl
theorem bg_500 : Cond.methodLink "DirtyCardHeapModel" 116 y_M_collectYoung ∈ BG := bg_t (List.mem_of_getElem? (i := 500) (by decide +kernel)) rfl
theorem bg_502 : Cond.instanceMethod y_M_collectYoung ∈ BG := bg_t (List.mem_of_getElem? (i := 502) (by decide +kernel)) rfl
theorem bg_504 : Cond.methodLink "DirtyCardHeapModel" 88 y_M_reach ∈ BG := bg_t (List.mem_of_getElem? (i := 504) (by decide +kernel)) rfl
theorem bg_506 : Cond.instanceMethod y_M_reach ∈ BG := bg_t (List.mem_of_getElem? (i := 506) (by decide +kernel)) rfl
theorem bg_508 : Cond.methodLink "DirtyCardHeapModel" 84 y_M_lies ∈ BG := bg_t (List.mem_of_getElem? (i := 508) (by decide +kernel)) rfl
theorem bg_510 : Cond.instanceMethod y_M_lies ∈ BG := bg_t (List.mem_of_getElem? (i := 510) (by decide +kernel)) rfl
theorem bg_512 : Cond.methodLink "DirtyCardHeapModel" 95 y_M_reachFrom ∈ BG := bg_t (List.mem_of_getElem? (i := 512) (by decide +kernel)) rfl
theorem bg_514 : Cond.instanceMethod y_M_reachFrom ∈ BG := bg_t (List.mem_of_getElem? (i := 514) (by decide +kernel)) rfl
theorem bg_520 : Cond.methodLink "DirtyCardHeapModel" 119 y_M_isRoot ∈ BG := bg_t (List.mem_of_getElem? (i := 520) (by decide +kernel)) rfl
theorem bg_521 : Cond.static y_M_isRoot ∈ BG := bg_t (List.mem_of_getElem? (i := 521) (by decide +kernel)) rfl
theorem bg_527 : Cond.methodLink "DirtyCardHeapModel" 146 y_M_cells ∈ BG := bg_t (List.mem_of_getElem? (i := 527) (by decide +kernel)) rfl
theorem bg_529 : Cond.instanceMethod y_M_cells ∈ BG := bg_t (List.mem_of_getElem? (i := 529) (by decide +kernel)) rfl
theorem bg_543 : Cond.methodLink "DirtyCardHeapModel" 126 y_M_check ∈ BG := bg_t (List.mem_of_getElem? (i := 543) (by decide +kernel)) rfl
theorem bg_545 : Cond.instanceMethod y_M_check ∈ BG := bg_t (List.mem_of_getElem? (i := 545) (by decide +kernel)) rfl
theorem bg_571 : Cond.methodLink "DirtyCardHeapModel" 130 y_M_shade ∈ BG := bg_t (List.mem_of_getElem? (i := 571) (by decide +kernel)) rfl
theorem bg_573 : Cond.instanceMethod y_M_shade ∈ BG := bg_t (List.mem_of_getElem? (i := 573) (by decide +kernel)) rfl
theorem bg_579 : Cond.methodLink "DirtyCardHeapModel" 133 y_M_next ∈ BG := bg_t (List.mem_of_getElem? (i := 579) (by decide +kernel)) rfl
theorem bg_581 : Cond.instanceMethod y_M_next ∈ BG := bg_t (List.mem_of_getElem? (i := 581) (by decide +kernel)) rfl
theorem bg_583 : Cond.methodLink "DirtyCardHeapModel" 137 y_M_scan ∈ BG := bg_t (List.mem_of_getElem? (i := 583) (by decide +kernel)) rfl
theorem bg_585 : Cond.instanceMethod y_M_scan ∈ BG := bg_t (List.mem_of_getElem? (i := 585) (by decide +kernel)) rfl
theorem bg_591 : Cond.methodLink "DirtyCardHeapModel" 140 y_M_regrey ∈ BG := bg_t (List.mem_of_getElem? (i := 591) (by decide +kernel)) rfl
theorem bg_593 : Cond.instanceMethod y_M_regrey ∈ BG := bg_t (List.mem_of_getElem? (i := 593) (by decide +kernel)) rfl
theorem bp_1 : Cond.selects "DirtyCardHeap" y_H_collectYoung y_H_collectYoung ∈ BG := bg_p (List.mem_map.mpr ⟨lw_privs[1]'(by decide), List.getElem_mem _, rfl⟩) rfl
theorem bp_2 : Cond.selects "DirtyCardHeap" y_H_reachYoung y_H_reachYoung ∈ BG := bg_p (List.mem_map.mpr ⟨lw_privs[2]'(by decide), List.getElem_mem _, rfl⟩) rfl
theorem bp_3 : Cond.selects "DirtyCardHeap" y_H_placeAsOld y_H_placeAsOld ∈ BG := bg_p (List.mem_map.mpr ⟨lw_privs[3]'(by decide), List.getElem_mem _, rfl⟩) rfl
theorem bp_4 : Cond.selects "DirtyCardHeap$OldPart" y_O_fill y_O_fill ∈ BG := bg_p (List.mem_map.mpr ⟨lw_privs[4]'(by decide), List.getElem_mem _, rfl⟩) rfl
theorem bp_5 : Cond.selects "DirtyCardHeap" y_H_reachFromCards y_H_reachFromCards ∈ BG := bg_p (List.mem_map.mpr ⟨lw_privs[5]'(by decide), List.getElem_mem _, rfl⟩) rfl
theorem bp_6 : Cond.selects "DirtyCardHeap" y_H_reachFields y_H_reachFields ∈ BG := bg_p (List.mem_map.mpr ⟨lw_privs[6]'(by decide), List.getElem_mem _, rfl⟩) rfl
theorem bp_7 : Cond.selects "DirtyCardHeap" y_H_dropUnreachedYoung y_H_dropUnreachedYoung ∈ BG := bg_p (List.mem_map.mpr ⟨lw_privs[7]'(by decide), List.getElem_mem _, rfl⟩) rfl
theorem bp_8 : Cond.selects "DirtyCardHeap" y_H_renewYoungOrder y_H_renewYoungOrder ∈ BG := bg_p (List.mem_map.mpr ⟨lw_privs[8]'(by decide), List.getElem_mem _, rfl⟩) rfl
theorem bp_9 : Cond.selects "DirtyCardHeap" y_H_cleanCards y_H_cleanCards ∈ BG := bg_p (List.mem_map.mpr ⟨lw_privs[9]'(by decide), List.getElem_mem _, rfl⟩) rfl
theorem bp_10 : Cond.selects "DirtyCardHeap" y_H_collectAll y_H_collectAll ∈ BG := bg_p (List.mem_map.mpr ⟨lw_privs[10]'(by decide), List.getElem_mem _, rfl⟩) rfl
theorem bp_11 : Cond.selects "DirtyCardHeap" y_H_findReachable y_H_findReachable ∈ BG := bg_p (List.mem_map.mpr ⟨lw_privs[11]'(by decide), List.getElem_mem _, rfl⟩) rfl
theorem bp_12 : Cond.selects "DirtyCardHeap" y_H_keepReachedYoung y_H_keepReachedYoung ∈ BG := bg_p (List.mem_map.mpr ⟨lw_privs[12]'(by decide), List.getElem_mem _, rfl⟩) rfl
theorem bp_13 : Cond.selects "DirtyCardHeap" y_H_placeYoungInOrder y_H_placeYoungInOrder ∈ BG := bg_p (List.mem_map.mpr ⟨lw_privs[13]'(by decide), List.getElem_mem _, rfl⟩) rfl
theorem bp_14 : Cond.selects "DirtyCardHeap" y_H_thingOf y_H_thingOf ∈ BG := bg_p (List.mem_map.mpr ⟨lw_privs[14]'(by decide), List.getElem_mem _, rfl⟩) rfl
theorem bp_15 : Cond.selects "DirtyCardHeap" y_H_shadeFromRoots y_H_shadeFromRoots ∈ BG := bg_p (List.mem_map.mpr ⟨lw_privs[15]'(by decide), List.getElem_mem _, rfl⟩) rfl
theorem bp_16 : Cond.selects "DirtyCardHeap" y_H_shadeFromYoung y_H_shadeFromYoung ∈ BG := bg_p (List.mem_map.mpr ⟨lw_privs[16]'(by decide), List.getElem_mem _, rfl⟩) rfl
theorem bp_17 : Cond.selects "DirtyCardHeap" y_H_scanAllGrey y_H_scanAllGrey ∈ BG := bg_p (List.mem_map.mpr ⟨lw_privs[17]'(by decide), List.getElem_mem _, rfl⟩) rfl
theorem bp_18 : Cond.selects "DirtyCardHeapModel" y_M_collectFull y_M_collectFull ∈ BG := bg_p (List.mem_map.mpr ⟨lw_privs[18]'(by decide), List.getElem_mem _, rfl⟩) rfl
theorem bp_19 : Cond.selects "DirtyCardHeapModel" y_M_prepare y_M_prepare ∈ BG := bg_p (List.mem_map.mpr ⟨lw_privs[19]'(by decide), List.getElem_mem _, rfl⟩) rfl
theorem bp_20 : Cond.selects "DirtyCardHeapModel" y_M_meetAll y_M_meetAll ∈ BG := bg_p (List.mem_map.mpr ⟨lw_privs[20]'(by decide), List.getElem_mem _, rfl⟩) rfl
theorem bp_21 : Cond.selects "DirtyCardHeapModel" y_M_remove y_M_remove ∈ BG := bg_p (List.mem_map.mpr ⟨lw_privs[21]'(by decide), List.getElem_mem _, rfl⟩) rfl
theorem bp_22 : Cond.selects "DirtyCardHeapModel" y_M_slide y_M_slide ∈ BG := bg_p (List.mem_map.mpr ⟨lw_privs[22]'(by decide), List.getElem_mem _, rfl⟩) rfl
theorem bp_23 : Cond.selects "DirtyCardHeapModel" y_M_place y_M_place ∈ BG := bg_p (List.mem_map.mpr ⟨lw_privs[23]'(by decide), List.getElem_mem _, rfl⟩) rfl
theorem bp_24 : Cond.selects "DirtyCardHeapModel" y_M_isFree y_M_isFree ∈ BG := bg_p (List.mem_map.mpr ⟨lw_privs[24]'(by decide), List.getElem_mem _, rfl⟩) rfl
theorem bp_25 : Cond.selects "DirtyCardHeapModel" y_M_becomeOld y_M_becomeOld ∈ BG := bg_p (List.mem_map.mpr ⟨lw_privs[25]'(by decide), List.getElem_mem _, rfl⟩) rfl
theorem bp_26 : Cond.selects "DirtyCardHeapModel" y_M_showsYoung y_M_showsYoung ∈ BG := bg_p (List.mem_map.mpr ⟨lw_privs[26]'(by decide), List.getElem_mem _, rfl⟩) rfl
theorem bp_27 : Cond.selects "DirtyCardHeapModel" y_M_collectYoung y_M_collectYoung ∈ BG := bg_p (List.mem_map.mpr ⟨lw_privs[27]'(by decide), List.getElem_mem _, rfl⟩) rfl
theorem bp_28 : Cond.selects "DirtyCardHeapModel" y_M_reach y_M_reach ∈ BG := bg_p (List.mem_map.mpr ⟨lw_privs[28]'(by decide), List.getElem_mem _, rfl⟩) rfl
theorem bp_29 : Cond.selects "DirtyCardHeapModel" y_M_lies y_M_lies ∈ BG := bg_p (List.mem_map.mpr ⟨lw_privs[29]'(by decide), List.getElem_mem _, rfl⟩) rfl
theorem bp_30 : Cond.selects "DirtyCardHeapModel" y_M_reachFrom y_M_reachFrom ∈ BG := bg_p (List.mem_map.mpr ⟨lw_privs[30]'(by decide), List.getElem_mem _, rfl⟩) rfl
theorem bp_31 : Cond.selects "DirtyCardHeapModel" y_M_cells y_M_cells ∈ BG := bg_p (List.mem_map.mpr ⟨lw_privs[31]'(by decide), List.getElem_mem _, rfl⟩) rfl
theorem bp_32 : Cond.selects "DirtyCardHeapModel" y_M_check y_M_check ∈ BG := bg_p (List.mem_map.mpr ⟨lw_privs[32]'(by decide), List.getElem_mem _, rfl⟩) rfl
theorem bp_33 : Cond.selects "DirtyCardHeapModel" y_M_shade y_M_shade ∈ BG := bg_p (List.mem_map.mpr ⟨lw_privs[33]'(by decide), List.getElem_mem _, rfl⟩) rfl
theorem bp_34 : Cond.selects "DirtyCardHeapModel" y_M_next y_M_next ∈ BG := bg_p (List.mem_map.mpr ⟨lw_privs[34]'(by decide), List.getElem_mem _, rfl⟩) rfl
theorem bp_35 : Cond.selects "DirtyCardHeapModel" y_M_scan y_M_scan ∈ BG := bg_p (List.mem_map.mpr ⟨lw_privs[35]'(by decide), List.getElem_mem _, rfl⟩) rfl
theorem bp_36 : Cond.selects "DirtyCardHeapModel" y_M_regrey y_M_regrey ∈ BG := bg_p (List.mem_map.mpr ⟨lw_privs[36]'(by decide), List.getElem_mem _, rfl⟩) rfl
