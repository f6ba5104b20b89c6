-- words, constants and the topology of single cells, each by a row
theorem wd_2 : Cond.initialized RX5 ∈ WA := List.mem_of_getElem? (i := 2) (by decide +kernel)
theorem wd_5 : Cond.initialized RX6 ∈ WA := List.mem_of_getElem? (i := 5) (by decide +kernel)
theorem wd_14 : Cond.initialized RX2 ∈ WA := List.mem_of_getElem? (i := 14) (by decide +kernel)
theorem wd_15 : Cond.fieldLink RX5 12 "FrameCollapse" "frame" "LFrameCollapse$Frame;" ∈ WA := List.mem_of_getElem? (i := 15) (by decide +kernel)
theorem wd_16 : Cond.fieldLink RX5 16 "FrameCollapse" "images" "[LFrameCollapse$Frame;" ∈ WA := List.mem_of_getElem? (i := 16) (by decide +kernel)
theorem wd_19 : Cond.initialized RX0 ∈ WA := List.mem_of_getElem? (i := 19) (by decide +kernel)
theorem wd_20 : Cond.fieldLink RX5 23 "FrameCollapse" "balance" "LFrameCollapse$Balance;" ∈ WA := List.mem_of_getElem? (i := 20) (by decide +kernel)
theorem wd_21 : Cond.fieldLink RX5 31 "FrameCollapse" "mechanisms" "LFrameCollapse$Mechanisms;" ∈ WA := List.mem_of_getElem? (i := 21) (by decide +kernel)
theorem wd_22 : Cond.fieldLink RX5 38 "FrameCollapse" "motions" "LFrameCollapse$Motions;" ∈ WA := List.mem_of_getElem? (i := 22) (by decide +kernel)
theorem wd_25 : Cond.initialized RX1 ∈ WA := List.mem_of_getElem? (i := 25) (by decide +kernel)
theorem wd_26 : Cond.fieldLink RX5 42 "FrameCollapse" "answer" "LFrameCollapse$Fraction;" ∈ WA := List.mem_of_getElem? (i := 26) (by decide +kernel)
theorem wd_32 : Cond.fieldLink RX2 9 "FrameCollapse$Frame" "x" "[I" ∈ WA := List.mem_of_getElem? (i := 32) (by decide +kernel)
theorem wd_33 : Cond.fieldLink RX2 15 "FrameCollapse$Frame" "y" "[I" ∈ WA := List.mem_of_getElem? (i := 33) (by decide +kernel)
theorem wd_34 : Cond.fieldLink RX2 18 "FrameCollapse$Frame" "kind" "[I" ∈ WA := List.mem_of_getElem? (i := 34) (by decide +kernel)
theorem wd_35 : Cond.fieldLink RX2 21 "FrameCollapse$Frame" "first" "[I" ∈ WA := List.mem_of_getElem? (i := 35) (by decide +kernel)
theorem wd_36 : Cond.fieldLink RX2 24 "FrameCollapse$Frame" "second" "[I" ∈ WA := List.mem_of_getElem? (i := 36) (by decide +kernel)
theorem wd_37 : Cond.fieldLink RX2 27 "FrameCollapse$Frame" "strength" "[I" ∈ WA := List.mem_of_getElem? (i := 37) (by decide +kernel)
theorem wd_39 : Cond.fieldLink RX2 32 "FrameCollapse$Frame" "loads" "[[I" ∈ WA := List.mem_of_getElem? (i := 39) (by decide +kernel)
theorem wd_46 : Cond.initialized RX3 ∈ WA := List.mem_of_getElem? (i := 46) (by decide +kernel)
theorem wd_47 : Cond.fieldLink RX0 12 "FrameCollapse$Balance" "mechanisms" "LFrameCollapse$Mechanisms;" ∈ WA := List.mem_of_getElem? (i := 47) (by decide +kernel)
theorem wd_48 : Cond.fieldLink RX0 18 "FrameCollapse$Balance" "strength" "[I" ∈ WA := List.mem_of_getElem? (i := 48) (by decide +kernel)
theorem wd_51 : Cond.fieldLink RX0 24 "FrameCollapse$Balance" "work" "[[J" ∈ WA := List.mem_of_getElem? (i := 51) (by decide +kernel)
theorem wd_52 : Cond.fieldLink RX0 27 "FrameCollapse$Balance" "strain" "[J" ∈ WA := List.mem_of_getElem? (i := 52) (by decide +kernel)
theorem wd_54 : Cond.fieldLink RX0 34 "FrameCollapse$Balance" "greatest" "LFrameCollapse$Fraction;" ∈ WA := List.mem_of_getElem? (i := 54) (by decide +kernel)
theorem wd_55 : Cond.fieldLink RX0 38 "FrameCollapse$Balance" "least" "LFrameCollapse$Fraction;" ∈ WA := List.mem_of_getElem? (i := 55) (by decide +kernel)
theorem wd_56 : Cond.fieldLink RX0 41 "FrameCollapse$Balance" "candidate" "LFrameCollapse$Fraction;" ∈ WA := List.mem_of_getElem? (i := 56) (by decide +kernel)
theorem wd_57 : Cond.fieldLink RX0 44 "FrameCollapse$Balance" "now" "LFrameCollapse$Fraction;" ∈ WA := List.mem_of_getElem? (i := 57) (by decide +kernel)
theorem wd_64 : Cond.initialized RX4 ∈ WA := List.mem_of_getElem? (i := 64) (by decide +kernel)
theorem wd_65 : Cond.fieldLink RX3 12 "FrameCollapse$Mechanisms" "motions" "LFrameCollapse$Motions;" ∈ WA := List.mem_of_getElem? (i := 65) (by decide +kernel)
theorem wd_66 : Cond.fieldLink RX3 18 "FrameCollapse$Mechanisms" "sets" "[I" ∈ WA := List.mem_of_getElem? (i := 66) (by decide +kernel)
theorem wd_68 : Cond.fieldLink RX3 24 "FrameCollapse$Mechanisms" "motionOf" "[[J" ∈ WA := List.mem_of_getElem? (i := 68) (by decide +kernel)
theorem wd_74 : Cond.fieldLink RX4 13 "FrameCollapse$Motions" "rows" "[[J" ∈ WA := List.mem_of_getElem? (i := 74) (by decide +kernel)
theorem wd_75 : Cond.fieldLink RX4 16 "FrameCollapse$Motions" "group" "[I" ∈ WA := List.mem_of_getElem? (i := 75) (by decide +kernel)
theorem wd_77 : Cond.fieldLink RX4 22 "FrameCollapse$Motions" "shiftOf" "[[I" ∈ WA := List.mem_of_getElem? (i := 77) (by decide +kernel)
theorem wd_82 : Cond.fieldLink RX1 7 "FrameCollapse$Fraction" "bottom" "J" ∈ WA := List.mem_of_getElem? (i := 82) (by decide +kernel)
theorem wd_88 : Cond.fieldLink RX6 7 "FrameCollapseModel" "x" "[I" ∈ WA := List.mem_of_getElem? (i := 88) (by decide +kernel)
theorem wd_89 : Cond.fieldLink RX6 13 "FrameCollapseModel" "y" "[I" ∈ WA := List.mem_of_getElem? (i := 89) (by decide +kernel)
theorem wd_90 : Cond.fieldLink RX6 16 "FrameCollapseModel" "kind" "[I" ∈ WA := List.mem_of_getElem? (i := 90) (by decide +kernel)
theorem wd_91 : Cond.fieldLink RX6 19 "FrameCollapseModel" "first" "[I" ∈ WA := List.mem_of_getElem? (i := 91) (by decide +kernel)
theorem wd_92 : Cond.fieldLink RX6 22 "FrameCollapseModel" "second" "[I" ∈ WA := List.mem_of_getElem? (i := 92) (by decide +kernel)
theorem wd_93 : Cond.fieldLink RX6 25 "FrameCollapseModel" "strength" "[I" ∈ WA := List.mem_of_getElem? (i := 93) (by decide +kernel)
theorem wd_94 : Cond.fieldLink RX6 28 "FrameCollapseModel" "loads" "[I" ∈ WA := List.mem_of_getElem? (i := 94) (by decide +kernel)
theorem wd_95 : Cond.fieldLink RX6 31 "FrameCollapseModel" "isOld" "Z" ∈ WA := List.mem_of_getElem? (i := 95) (by decide +kernel)
theorem wd_96 : Cond.fieldLink RX6 35 "FrameCollapseModel" "group" "[I" ∈ WA := List.mem_of_getElem? (i := 96) (by decide +kernel)
theorem wd_97 : Cond.fieldLink RX6 38 "FrameCollapseModel" "number" "[I" ∈ WA := List.mem_of_getElem? (i := 97) (by decide +kernel)
theorem wd_98 : Cond.fieldLink RX6 41 "FrameCollapseModel" "row" "[J" ∈ WA := List.mem_of_getElem? (i := 98) (by decide +kernel)
theorem wd_99 : Cond.fieldLink RX6 45 "FrameCollapseModel" "stair" "[J" ∈ WA := List.mem_of_getElem? (i := 99) (by decide +kernel)
theorem wd_100 : Cond.fieldLink RX6 48 "FrameCollapseModel" "pivot" "[I" ∈ WA := List.mem_of_getElem? (i := 100) (by decide +kernel)
theorem wd_101 : Cond.fieldLink RX6 51 "FrameCollapseModel" "set" "[I" ∈ WA := List.mem_of_getElem? (i := 101) (by decide +kernel)
theorem wd_102 : Cond.fieldLink RX6 54 "FrameCollapseModel" "motion" "[J" ∈ WA := List.mem_of_getElem? (i := 102) (by decide +kernel)
theorem wd_104 : Cond.fieldLink RX6 57 "FrameCollapseModel" "isSeen" "[Z" ∈ WA := List.mem_of_getElem? (i := 104) (by decide +kernel)
theorem wd_105 : Cond.fieldLink RX6 61 "FrameCollapseModel" "tried" "[I" ∈ WA := List.mem_of_getElem? (i := 105) (by decide +kernel)
theorem wd_106 : Cond.fieldLink RX6 64 "FrameCollapseModel" "way" "[J" ∈ WA := List.mem_of_getElem? (i := 106) (by decide +kernel)
theorem wd_107 : Cond.fieldLink RX6 67 "FrameCollapseModel" "twist" "[J" ∈ WA := List.mem_of_getElem? (i := 107) (by decide +kernel)
theorem wd_108 : Cond.fieldLink RX6 70 "FrameCollapseModel" "work" "[J" ∈ WA := List.mem_of_getElem? (i := 108) (by decide +kernel)
theorem wd_109 : Cond.fieldLink RX6 73 "FrameCollapseModel" "rule" "[J" ∈ WA := List.mem_of_getElem? (i := 109) (by decide +kernel)
theorem wd_110 : Cond.fieldLink RX6 76 "FrameCollapseModel" "left" "[J" ∈ WA := List.mem_of_getElem? (i := 110) (by decide +kernel)
theorem wd_111 : Cond.fieldLink RX6 79 "FrameCollapseModel" "told" "[I" ∈ WA := List.mem_of_getElem? (i := 111) (by decide +kernel)
theorem wd_112 : Cond.fieldLink RX6 82 "FrameCollapseModel" "changed" "I" ∈ WA := List.mem_of_getElem? (i := 112) (by decide +kernel)
theorem wd_113 : Cond.fieldLink RX6 86 "FrameCollapseModel" "times" "[J" ∈ WA := List.mem_of_getElem? (i := 113) (by decide +kernel)
theorem wd_114 : Cond.fieldLink RX6 89 "FrameCollapseModel" "free" "[I" ∈ WA := List.mem_of_getElem? (i := 114) (by decide +kernel)
theorem wd_115 : Cond.fieldLink RX6 92 "FrameCollapseModel" "turn" "[J" ∈ WA := List.mem_of_getElem? (i := 115) (by decide +kernel)
theorem wd_116 : Cond.fieldLink RX6 95 "FrameCollapseModel" "value" "[J" ∈ WA := List.mem_of_getElem? (i := 116) (by decide +kernel)
theorem wd_117 : Cond.fieldLink RX6 98 "FrameCollapseModel" "sideUp" "[J" ∈ WA := List.mem_of_getElem? (i := 117) (by decide +kernel)
theorem wd_118 : Cond.fieldLink RX6 101 "FrameCollapseModel" "sideLow" "[J" ∈ WA := List.mem_of_getElem? (i := 118) (by decide +kernel)
theorem wd_119 : Cond.fieldLink RX6 104 "FrameCollapseModel" "isFound" "[Z" ∈ WA := List.mem_of_getElem? (i := 119) (by decide +kernel)
theorem wd_120 : Cond.fieldLink RX6 107 "FrameCollapseModel" "limit" "[I" ∈ WA := List.mem_of_getElem? (i := 120) (by decide +kernel)
theorem wd_121 : Cond.fieldLink RX6 110 "FrameCollapseModel" "foundUp" "[J" ∈ WA := List.mem_of_getElem? (i := 121) (by decide +kernel)
theorem wd_122 : Cond.fieldLink RX6 113 "FrameCollapseModel" "foundLow" "[J" ∈ WA := List.mem_of_getElem? (i := 122) (by decide +kernel)
theorem wd_123 : Cond.fieldLink RX6 116 "FrameCollapseModel" "mostUp" "[J" ∈ WA := List.mem_of_getElem? (i := 123) (by decide +kernel)
theorem wd_124 : Cond.fieldLink RX6 119 "FrameCollapseModel" "mostLow" "[J" ∈ WA := List.mem_of_getElem? (i := 124) (by decide +kernel)
theorem wd_125 : Cond.fieldLink RX6 122 "FrameCollapseModel" "leastUp" "[J" ∈ WA := List.mem_of_getElem? (i := 125) (by decide +kernel)
theorem wd_126 : Cond.fieldLink RX6 125 "FrameCollapseModel" "leastLow" "[J" ∈ WA := List.mem_of_getElem? (i := 126) (by decide +kernel)
theorem wd_127 : Cond.fieldLink RX6 128 "FrameCollapseModel" "image" "[I" ∈ WA := List.mem_of_getElem? (i := 127) (by decide +kernel)
theorem wd_128 : Cond.fieldLink RX6 131 "FrameCollapseModel" "isKept" "[Z" ∈ WA := List.mem_of_getElem? (i := 128) (by decide +kernel)
theorem wd_133 : Cond.methodLink RX5 46 yX5_within ∈ WA := List.mem_of_getElem? (i := 133) (by decide +kernel)
theorem wd_134 : Cond.static yX5_within ∈ WA := List.mem_of_getElem? (i := 134) (by decide +kernel)
theorem wd_135 : Cond.code yX5_within cX5_within 3 (some .boolean) ∈ WA := List.mem_of_getElem? (i := 135) (by decide +kernel)
theorem wd_136 : Cond.methodLink RX5 50 yX2_nodeAt ∈ WA := List.mem_of_getElem? (i := 136) (by decide +kernel)
theorem wd_137 : Cond.instanceMethod yX2_nodeAt ∈ WA := List.mem_of_getElem? (i := 137) (by decide +kernel)
theorem wd_138 : Cond.selects RX2 yX2_nodeAt yX2_nodeAt ∈ WA := List.mem_of_getElem? (i := 138) (by decide +kernel)
theorem wd_139 : Cond.code yX2_nodeAt cX2_nodeAt 4 (some .boolean) ∈ WA := List.mem_of_getElem? (i := 139) (by decide +kernel)
theorem wd_140 : Cond.fieldLink RX2 35 "FrameCollapse$Frame" "nodes" "I" ∈ WA := List.mem_of_getElem? (i := 140) (by decide +kernel)
theorem wd_141 : Cond.methodLink RX5 58 yX5_forgetShape ∈ WA := List.mem_of_getElem? (i := 141) (by decide +kernel)
theorem wd_142 : Cond.instanceMethod yX5_forgetShape ∈ WA := List.mem_of_getElem? (i := 142) (by decide +kernel)
theorem wd_143 : Cond.selects RX5 yX5_forgetShape yX5_forgetShape ∈ WA := List.mem_of_getElem? (i := 143) (by decide +kernel)
theorem wd_144 : Cond.code yX5_forgetShape cX5_forgetShape 1 none ∈ WA := List.mem_of_getElem? (i := 144) (by decide +kernel)
theorem wd_145 : Cond.fieldLink RX5 238 "FrameCollapse" "shapeKnown" "Z" ∈ WA := List.mem_of_getElem? (i := 145) (by decide +kernel)
theorem wd_146 : Cond.fieldLink RX5 95 "FrameCollapse" "balanceKnown" "Z" ∈ WA := List.mem_of_getElem? (i := 146) (by decide +kernel)
theorem wd_147 : Cond.methodLink RX5 61 yX2_addNode ∈ WA := List.mem_of_getElem? (i := 147) (by decide +kernel)
theorem wd_148 : Cond.instanceMethod yX2_addNode ∈ WA := List.mem_of_getElem? (i := 148) (by decide +kernel)
theorem wd_149 : Cond.selects RX2 yX2_addNode yX2_addNode ∈ WA := List.mem_of_getElem? (i := 149) (by decide +kernel)
theorem wd_150 : Cond.code yX2_addNode cX2_addNode 4 (some .int) ∈ WA := List.mem_of_getElem? (i := 150) (by decide +kernel)
theorem wd_155 : Cond.fieldLink RX6 134 "FrameCollapseModel" "nodes" "I" ∈ WA := List.mem_of_getElem? (i := 155) (by decide +kernel)
theorem wd_156 : Cond.methodLink RX6 137 yX6_in ∈ WA := List.mem_of_getElem? (i := 156) (by decide +kernel)
theorem wd_157 : Cond.static yX6_in ∈ WA := List.mem_of_getElem? (i := 157) (by decide +kernel)
theorem wd_158 : Cond.code yX6_in cX6_in 3 (some .boolean) ∈ WA := List.mem_of_getElem? (i := 158) (by decide +kernel)
theorem wd_159 : Cond.methodLink RX6 144 yX6_forget ∈ WA := List.mem_of_getElem? (i := 159) (by decide +kernel)
theorem wd_160 : Cond.instanceMethod yX6_forget ∈ WA := List.mem_of_getElem? (i := 160) (by decide +kernel)
theorem wd_161 : Cond.selects RX6 yX6_forget yX6_forget ∈ WA := List.mem_of_getElem? (i := 161) (by decide +kernel)
theorem wd_162 : Cond.code yX6_forget cX6_forget 2 none ∈ WA := List.mem_of_getElem? (i := 162) (by decide +kernel)
theorem wd_167 : Cond.methodLink RX5 65 yX5_isNode ∈ WA := List.mem_of_getElem? (i := 167) (by decide +kernel)
theorem wd_168 : Cond.instanceMethod yX5_isNode ∈ WA := List.mem_of_getElem? (i := 168) (by decide +kernel)
theorem wd_169 : Cond.selects RX5 yX5_isNode yX5_isNode ∈ WA := List.mem_of_getElem? (i := 169) (by decide +kernel)
theorem wd_170 : Cond.code yX5_isNode cX5_isNode 2 (some .boolean) ∈ WA := List.mem_of_getElem? (i := 170) (by decide +kernel)
theorem wd_175 : Cond.methodLink RX6 147 yX6_isNode ∈ WA := List.mem_of_getElem? (i := 175) (by decide +kernel)
theorem wd_176 : Cond.instanceMethod yX6_isNode ∈ WA := List.mem_of_getElem? (i := 176) (by decide +kernel)
theorem wd_177 : Cond.selects RX6 yX6_isNode yX6_isNode ∈ WA := List.mem_of_getElem? (i := 177) (by decide +kernel)
theorem wd_178 : Cond.code yX6_isNode cX6_isNode 2 (some .boolean) ∈ WA := List.mem_of_getElem? (i := 178) (by decide +kernel)
theorem wd_183 : Cond.methodLink RX5 73 yX2_canJoin ∈ WA := List.mem_of_getElem? (i := 183) (by decide +kernel)
theorem wd_184 : Cond.instanceMethod yX2_canJoin ∈ WA := List.mem_of_getElem? (i := 184) (by decide +kernel)
theorem wd_185 : Cond.selects RX2 yX2_canJoin yX2_canJoin ∈ WA := List.mem_of_getElem? (i := 185) (by decide +kernel)
theorem wd_186 : Cond.code yX2_canJoin cX2_canJoin 5 (some .boolean) ∈ WA := List.mem_of_getElem? (i := 186) (by decide +kernel)
theorem wd_187 : Cond.methodLink RX5 76 yX2_barBetween ∈ WA := List.mem_of_getElem? (i := 187) (by decide +kernel)
theorem wd_188 : Cond.instanceMethod yX2_barBetween ∈ WA := List.mem_of_getElem? (i := 188) (by decide +kernel)
theorem wd_189 : Cond.selects RX2 yX2_barBetween yX2_barBetween ∈ WA := List.mem_of_getElem? (i := 189) (by decide +kernel)
theorem wd_190 : Cond.code yX2_barBetween cX2_barBetween 4 (some .boolean) ∈ WA := List.mem_of_getElem? (i := 190) (by decide +kernel)
theorem wd_191 : Cond.fieldLink RX2 39 "FrameCollapse$Frame" "bars" "I" ∈ WA := List.mem_of_getElem? (i := 191) (by decide +kernel)
theorem wd_192 : Cond.methodLink RX5 82 yX2_addBar ∈ WA := List.mem_of_getElem? (i := 192) (by decide +kernel)
theorem wd_193 : Cond.instanceMethod yX2_addBar ∈ WA := List.mem_of_getElem? (i := 193) (by decide +kernel)
theorem wd_194 : Cond.selects RX2 yX2_addBar yX2_addBar ∈ WA := List.mem_of_getElem? (i := 194) (by decide +kernel)
theorem wd_195 : Cond.code yX2_addBar cX2_addBar 4 (some .int) ∈ WA := List.mem_of_getElem? (i := 195) (by decide +kernel)
theorem wd_200 : Cond.fieldLink RX6 141 "FrameCollapseModel" "bars" "I" ∈ WA := List.mem_of_getElem? (i := 200) (by decide +kernel)
theorem wd_205 : Cond.methodLink RX5 85 yX5_isBar ∈ WA := List.mem_of_getElem? (i := 205) (by decide +kernel)
theorem wd_206 : Cond.instanceMethod yX5_isBar ∈ WA := List.mem_of_getElem? (i := 206) (by decide +kernel)
theorem wd_207 : Cond.selects RX5 yX5_isBar yX5_isBar ∈ WA := List.mem_of_getElem? (i := 207) (by decide +kernel)
theorem wd_208 : Cond.code yX5_isBar cX5_isBar 2 (some .boolean) ∈ WA := List.mem_of_getElem? (i := 208) (by decide +kernel)
theorem wd_209 : Cond.methodLink RX5 88 yX2_removeBar ∈ WA := List.mem_of_getElem? (i := 209) (by decide +kernel)
theorem wd_210 : Cond.instanceMethod yX2_removeBar ∈ WA := List.mem_of_getElem? (i := 210) (by decide +kernel)
theorem wd_211 : Cond.selects RX2 yX2_removeBar yX2_removeBar ∈ WA := List.mem_of_getElem? (i := 211) (by decide +kernel)
theorem wd_212 : Cond.code yX2_removeBar cX2_removeBar 3 (some .int) ∈ WA := List.mem_of_getElem? (i := 212) (by decide +kernel)
theorem wd_217 : Cond.methodLink RX6 151 yX6_isBar ∈ WA := List.mem_of_getElem? (i := 217) (by decide +kernel)
theorem wd_218 : Cond.instanceMethod yX6_isBar ∈ WA := List.mem_of_getElem? (i := 218) (by decide +kernel)
theorem wd_219 : Cond.selects RX6 yX6_isBar yX6_isBar ∈ WA := List.mem_of_getElem? (i := 219) (by decide +kernel)
theorem wd_220 : Cond.code yX6_isBar cX6_isBar 2 (some .boolean) ∈ WA := List.mem_of_getElem? (i := 220) (by decide +kernel)
theorem wd_233 : Cond.methodLink RX5 103 yX2_loadedNodes ∈ WA := List.mem_of_getElem? (i := 233) (by decide +kernel)
theorem wd_234 : Cond.instanceMethod yX2_loadedNodes ∈ WA := List.mem_of_getElem? (i := 234) (by decide +kernel)
theorem wd_235 : Cond.selects RX2 yX2_loadedNodes yX2_loadedNodes ∈ WA := List.mem_of_getElem? (i := 235) (by decide +kernel)
theorem wd_236 : Cond.code yX2_loadedNodes cX2_loadedNodes 4 (some .int) ∈ WA := List.mem_of_getElem? (i := 236) (by decide +kernel)
theorem wd_253 : Cond.methodLink RX5 118 yX2_length ∈ WA := List.mem_of_getElem? (i := 253) (by decide +kernel)
theorem wd_254 : Cond.instanceMethod yX2_length ∈ WA := List.mem_of_getElem? (i := 254) (by decide +kernel)
theorem wd_255 : Cond.selects RX2 yX2_length yX2_length ∈ WA := List.mem_of_getElem? (i := 255) (by decide +kernel)
theorem wd_256 : Cond.code yX2_length cX2_length 2 (some .int) ∈ WA := List.mem_of_getElem? (i := 256) (by decide +kernel)
theorem wd_257 : Cond.methodLink RX5 121 yX2_isVertical ∈ WA := List.mem_of_getElem? (i := 257) (by decide +kernel)
theorem wd_258 : Cond.instanceMethod yX2_isVertical ∈ WA := List.mem_of_getElem? (i := 258) (by decide +kernel)
theorem wd_259 : Cond.selects RX2 yX2_isVertical yX2_isVertical ∈ WA := List.mem_of_getElem? (i := 259) (by decide +kernel)
theorem wd_260 : Cond.code yX2_isVertical cX2_isVertical 2 (some .boolean) ∈ WA := List.mem_of_getElem? (i := 260) (by decide +kernel)
theorem wd_265 : Cond.methodLink RX6 154 yX6_length ∈ WA := List.mem_of_getElem? (i := 265) (by decide +kernel)
theorem wd_266 : Cond.instanceMethod yX6_length ∈ WA := List.mem_of_getElem? (i := 266) (by decide +kernel)
theorem wd_267 : Cond.selects RX6 yX6_length yX6_length ∈ WA := List.mem_of_getElem? (i := 267) (by decide +kernel)
theorem wd_268 : Cond.code yX6_length cX6_length 2 (some .int) ∈ WA := List.mem_of_getElem? (i := 268) (by decide +kernel)
theorem wd_269 : Cond.methodLink RX6 158 yX6_lies ∈ WA := List.mem_of_getElem? (i := 269) (by decide +kernel)
theorem wd_270 : Cond.instanceMethod yX6_lies ∈ WA := List.mem_of_getElem? (i := 270) (by decide +kernel)
theorem wd_271 : Cond.selects RX6 yX6_lies yX6_lies ∈ WA := List.mem_of_getElem? (i := 271) (by decide +kernel)
theorem wd_272 : Cond.code yX6_lies cX6_lies 2 (some .boolean) ∈ WA := List.mem_of_getElem? (i := 272) (by decide +kernel)
theorem wd_277 : Cond.fieldLink RX5 143 "FrameCollapse" "keptImages" "I" ∈ WA := List.mem_of_getElem? (i := 277) (by decide +kernel)
theorem wd_278 : Cond.methodLink RX5 124 yX5_refresh ∈ WA := List.mem_of_getElem? (i := 278) (by decide +kernel)
theorem wd_279 : Cond.instanceMethod yX5_refresh ∈ WA := List.mem_of_getElem? (i := 279) (by decide +kernel)
theorem wd_280 : Cond.selects RX5 yX5_refresh yX5_refresh ∈ WA := List.mem_of_getElem? (i := 280) (by decide +kernel)
theorem wd_281 : Cond.code yX5_refresh cX5_refresh 1 none ∈ WA := List.mem_of_getElem? (i := 281) (by decide +kernel)
theorem wd_282 : Cond.methodLink RX5 241 yX4_span ∈ WA := List.mem_of_getElem? (i := 282) (by decide +kernel)
theorem wd_283 : Cond.instanceMethod yX4_span ∈ WA := List.mem_of_getElem? (i := 283) (by decide +kernel)
theorem wd_284 : Cond.selects RX4 yX4_span yX4_span ∈ WA := List.mem_of_getElem? (i := 284) (by decide +kernel)
theorem wd_285 : Cond.code yX4_span cX4_span 3 none ∈ WA := List.mem_of_getElem? (i := 285) (by decide +kernel)
theorem wd_286 : Cond.fieldLink RX4 25 "FrameCollapse$Motions" "size" "I" ∈ WA := List.mem_of_getElem? (i := 286) (by decide +kernel)
theorem wd_287 : Cond.fieldLink RX4 35 "FrameCollapse$Motions" "shifts" "I" ∈ WA := List.mem_of_getElem? (i := 287) (by decide +kernel)
theorem wd_288 : Cond.fieldLink RX4 32 "FrameCollapse$Motions" "ends" "I" ∈ WA := List.mem_of_getElem? (i := 288) (by decide +kernel)
theorem wd_289 : Cond.methodLink RX4 43 yX4_addShifts ∈ WA := List.mem_of_getElem? (i := 289) (by decide +kernel)
theorem wd_290 : Cond.instanceMethod yX4_addShifts ∈ WA := List.mem_of_getElem? (i := 290) (by decide +kernel)
theorem wd_291 : Cond.selects RX4 yX4_addShifts yX4_addShifts ∈ WA := List.mem_of_getElem? (i := 291) (by decide +kernel)
theorem wd_292 : Cond.code yX4_addShifts cX4_addShifts 6 none ∈ WA := List.mem_of_getElem? (i := 292) (by decide +kernel)
theorem wd_293 : Cond.methodLink RX4 58 yX4_joinGroups ∈ WA := List.mem_of_getElem? (i := 293) (by decide +kernel)
theorem wd_294 : Cond.instanceMethod yX4_joinGroups ∈ WA := List.mem_of_getElem? (i := 294) (by decide +kernel)
theorem wd_295 : Cond.selects RX4 yX4_joinGroups yX4_joinGroups ∈ WA := List.mem_of_getElem? (i := 295) (by decide +kernel)
theorem wd_296 : Cond.code yX4_joinGroups cX4_joinGroups 7 none ∈ WA := List.mem_of_getElem? (i := 296) (by decide +kernel)
theorem wd_297 : Cond.methodLink RX4 78 yX2_isVertical ∈ WA := List.mem_of_getElem? (i := 297) (by decide +kernel)
theorem wd_298 : Cond.methodLink RX4 61 yJ7_fill_53178 ∈ WA := List.mem_of_getElem? (i := 298) (by decide +kernel)
theorem wd_299 : Cond.static yJ7_fill_53178 ∈ WA := List.mem_of_getElem? (i := 299) (by decide +kernel)
theorem wd_300 : Cond.initialized RJ7 ∈ WA := List.mem_of_getElem? (i := 300) (by decide +kernel)
theorem wd_301 : Cond.code yJ7_fill_53178 cJ7_fill_53178 4 none ∈ WA := List.mem_of_getElem? (i := 301) (by decide +kernel)
theorem wd_302 : Cond.methodLink RX4 70 yX4_groupShifts ∈ WA := List.mem_of_getElem? (i := 302) (by decide +kernel)
theorem wd_303 : Cond.instanceMethod yX4_groupShifts ∈ WA := List.mem_of_getElem? (i := 303) (by decide +kernel)
theorem wd_304 : Cond.selects RX4 yX4_groupShifts yX4_groupShifts ∈ WA := List.mem_of_getElem? (i := 304) (by decide +kernel)
theorem wd_305 : Cond.code yX4_groupShifts cX4_groupShifts 6 (some .boolean) ∈ WA := List.mem_of_getElem? (i := 305) (by decide +kernel)
theorem wd_306 : Cond.methodLink RX4 88 yX2_shifts ∈ WA := List.mem_of_getElem? (i := 306) (by decide +kernel)
theorem wd_307 : Cond.instanceMethod yX2_shifts ∈ WA := List.mem_of_getElem? (i := 307) (by decide +kernel)
theorem wd_308 : Cond.selects RX2 yX2_shifts yX2_shifts ∈ WA := List.mem_of_getElem? (i := 308) (by decide +kernel)
theorem wd_309 : Cond.code yX2_shifts cX2_shifts 3 (some .boolean) ∈ WA := List.mem_of_getElem? (i := 309) (by decide +kernel)
theorem wd_310 : Cond.methodLink RX4 74 yX4_addShift ∈ WA := List.mem_of_getElem? (i := 310) (by decide +kernel)
theorem wd_311 : Cond.instanceMethod yX4_addShift ∈ WA := List.mem_of_getElem? (i := 311) (by decide +kernel)
theorem wd_312 : Cond.selects RX4 yX4_addShift yX4_addShift ∈ WA := List.mem_of_getElem? (i := 312) (by decide +kernel)
theorem wd_313 : Cond.code yX4_addShift cX4_addShift 10 none ∈ WA := List.mem_of_getElem? (i := 313) (by decide +kernel)
theorem wd_314 : Cond.constantLong RX4 94 (12) ∈ WA := List.mem_of_getElem? (i := 314) (by decide +kernel)
theorem wd_315 : Cond.methodLink RX4 91 yJ7_fill_d0a16 ∈ WA := List.mem_of_getElem? (i := 315) (by decide +kernel)
theorem wd_316 : Cond.static yJ7_fill_d0a16 ∈ WA := List.mem_of_getElem? (i := 316) (by decide +kernel)
theorem wd_317 : Cond.code yJ7_fill_d0a16 cJ7_fill_d0a16 5 none ∈ WA := List.mem_of_getElem? (i := 317) (by decide +kernel)
theorem wd_318 : Cond.methodLink RX4 96 yX2_length ∈ WA := List.mem_of_getElem? (i := 318) (by decide +kernel)
theorem wd_319 : Cond.methodLink RX4 47 yX4_addTurns ∈ WA := List.mem_of_getElem? (i := 319) (by decide +kernel)
theorem wd_320 : Cond.instanceMethod yX4_addTurns ∈ WA := List.mem_of_getElem? (i := 320) (by decide +kernel)
theorem wd_321 : Cond.selects RX4 yX4_addTurns yX4_addTurns ∈ WA := List.mem_of_getElem? (i := 321) (by decide +kernel)
theorem wd_322 : Cond.code yX4_addTurns cX4_addTurns 5 none ∈ WA := List.mem_of_getElem? (i := 322) (by decide +kernel)
theorem wd_323 : Cond.methodLink RX4 100 yX2_turns ∈ WA := List.mem_of_getElem? (i := 323) (by decide +kernel)
theorem wd_324 : Cond.instanceMethod yX2_turns ∈ WA := List.mem_of_getElem? (i := 324) (by decide +kernel)
theorem wd_325 : Cond.selects RX2 yX2_turns yX2_turns ∈ WA := List.mem_of_getElem? (i := 325) (by decide +kernel)
theorem wd_326 : Cond.code yX2_turns cX2_turns 2 (some .boolean) ∈ WA := List.mem_of_getElem? (i := 326) (by decide +kernel)
theorem wd_327 : Cond.methodLink RX4 51 yX4_simplify ∈ WA := List.mem_of_getElem? (i := 327) (by decide +kernel)
theorem wd_328 : Cond.instanceMethod yX4_simplify ∈ WA := List.mem_of_getElem? (i := 328) (by decide +kernel)
theorem wd_329 : Cond.selects RX4 yX4_simplify yX4_simplify ∈ WA := List.mem_of_getElem? (i := 329) (by decide +kernel)
theorem wd_330 : Cond.code yX4_simplify cX4_simplify 6 none ∈ WA := List.mem_of_getElem? (i := 330) (by decide +kernel)
theorem wd_331 : Cond.methodLink RX4 115 yX4_width ∈ WA := List.mem_of_getElem? (i := 331) (by decide +kernel)
theorem wd_332 : Cond.instanceMethod yX4_width ∈ WA := List.mem_of_getElem? (i := 332) (by decide +kernel)
theorem wd_333 : Cond.selects RX4 yX4_width yX4_width ∈ WA := List.mem_of_getElem? (i := 333) (by decide +kernel)
theorem wd_334 : Cond.code yX4_width cX4_width 1 (some .int) ∈ WA := List.mem_of_getElem? (i := 334) (by decide +kernel)
theorem wd_335 : Cond.static yX5_gcd ∈ WA := List.mem_of_getElem? (i := 335) (by decide +kernel)
theorem wd_336 : Cond.code yX5_gcd cX5_gcd 11 (some .long) ∈ WA := List.mem_of_getElem? (i := 336) (by decide +kernel)
theorem wd_337 : Cond.methodLink RX5 258 Lib.MathLoose.abs_long.x ∈ WA := List.mem_of_getElem? (i := 337) (by decide +kernel)
theorem wd_338 : Cond.static Lib.MathLoose.abs_long.x ∈ WA := List.mem_of_getElem? (i := 338) (by decide +kernel)
theorem wd_339 : Cond.initialized "java/lang/Math" ∈ WA := List.mem_of_getElem? (i := 339) (by decide +kernel)
theorem wd_340 : Cond.code Lib.MathLoose.abs_long.x Lib.MathLoose.abs_long.code 2 (some .long) ∈ WA := List.mem_of_getElem? (i := 340) (by decide +kernel)
theorem wd_341 : Cond.methodLink RX4 55 yX4_reduceRows ∈ WA := List.mem_of_getElem? (i := 341) (by decide +kernel)
theorem wd_342 : Cond.instanceMethod yX4_reduceRows ∈ WA := List.mem_of_getElem? (i := 342) (by decide +kernel)
theorem wd_343 : Cond.selects RX4 yX4_reduceRows yX4_reduceRows ∈ WA := List.mem_of_getElem? (i := 343) (by decide +kernel)
theorem wd_344 : Cond.code yX4_reduceRows cX4_reduceRows 4 none ∈ WA := List.mem_of_getElem? (i := 344) (by decide +kernel)
theorem wd_345 : Cond.fieldLink RX4 29 "FrameCollapse$Motions" "rank" "I" ∈ WA := List.mem_of_getElem? (i := 345) (by decide +kernel)
theorem wd_346 : Cond.methodLink RX4 103 yX4_rowWith ∈ WA := List.mem_of_getElem? (i := 346) (by decide +kernel)
theorem wd_347 : Cond.instanceMethod yX4_rowWith ∈ WA := List.mem_of_getElem? (i := 347) (by decide +kernel)
theorem wd_348 : Cond.selects RX4 yX4_rowWith yX4_rowWith ∈ WA := List.mem_of_getElem? (i := 348) (by decide +kernel)
theorem wd_349 : Cond.code yX4_rowWith cX4_rowWith 5 (some .int) ∈ WA := List.mem_of_getElem? (i := 349) (by decide +kernel)
theorem wd_350 : Cond.methodLink RX4 107 yX4_swapRows ∈ WA := List.mem_of_getElem? (i := 350) (by decide +kernel)
theorem wd_351 : Cond.instanceMethod yX4_swapRows ∈ WA := List.mem_of_getElem? (i := 351) (by decide +kernel)
theorem wd_352 : Cond.selects RX4 yX4_swapRows yX4_swapRows ∈ WA := List.mem_of_getElem? (i := 352) (by decide +kernel)
theorem wd_353 : Cond.code yX4_swapRows cX4_swapRows 7 none ∈ WA := List.mem_of_getElem? (i := 353) (by decide +kernel)
theorem wd_354 : Cond.methodLink RX4 111 yX4_cancel ∈ WA := List.mem_of_getElem? (i := 354) (by decide +kernel)
theorem wd_355 : Cond.instanceMethod yX4_cancel ∈ WA := List.mem_of_getElem? (i := 355) (by decide +kernel)
theorem wd_356 : Cond.selects RX4 yX4_cancel yX4_cancel ∈ WA := List.mem_of_getElem? (i := 356) (by decide +kernel)
theorem wd_357 : Cond.code yX4_cancel cX4_cancel 13 none ∈ WA := List.mem_of_getElem? (i := 357) (by decide +kernel)
theorem wd_358 : Cond.methodLink RX5 244 yX3_find ∈ WA := List.mem_of_getElem? (i := 358) (by decide +kernel)
theorem wd_359 : Cond.instanceMethod yX3_find ∈ WA := List.mem_of_getElem? (i := 359) (by decide +kernel)
theorem wd_360 : Cond.selects RX3 yX3_find yX3_find ∈ WA := List.mem_of_getElem? (i := 360) (by decide +kernel)
theorem wd_361 : Cond.code yX3_find cX3_find 1 none ∈ WA := List.mem_of_getElem? (i := 361) (by decide +kernel)
theorem wd_362 : Cond.fieldLink RX3 27 "FrameCollapse$Mechanisms" "found" "I" ∈ WA := List.mem_of_getElem? (i := 362) (by decide +kernel)
theorem wd_363 : Cond.methodLink RX3 31 yX4_looseness ∈ WA := List.mem_of_getElem? (i := 363) (by decide +kernel)
theorem wd_364 : Cond.instanceMethod yX4_looseness ∈ WA := List.mem_of_getElem? (i := 364) (by decide +kernel)
theorem wd_365 : Cond.selects RX4 yX4_looseness yX4_looseness ∈ WA := List.mem_of_getElem? (i := 365) (by decide +kernel)
theorem wd_366 : Cond.code yX4_looseness cX4_looseness 1 (some .int) ∈ WA := List.mem_of_getElem? (i := 366) (by decide +kernel)
theorem wd_367 : Cond.methodLink RX3 41 yX3_search ∈ WA := List.mem_of_getElem? (i := 367) (by decide +kernel)
theorem wd_368 : Cond.instanceMethod yX3_search ∈ WA := List.mem_of_getElem? (i := 368) (by decide +kernel)
theorem wd_369 : Cond.selects RX3 yX3_search yX3_search ∈ WA := List.mem_of_getElem? (i := 369) (by decide +kernel)
theorem wd_370 : Cond.code yX3_search cX3_search 8 none ∈ WA := List.mem_of_getElem? (i := 370) (by decide +kernel)
theorem wd_371 : Cond.methodLink RX3 48 yX3_keep ∈ WA := List.mem_of_getElem? (i := 371) (by decide +kernel)
theorem wd_372 : Cond.instanceMethod yX3_keep ∈ WA := List.mem_of_getElem? (i := 372) (by decide +kernel)
theorem wd_373 : Cond.selects RX3 yX3_keep yX3_keep ∈ WA := List.mem_of_getElem? (i := 373) (by decide +kernel)
theorem wd_374 : Cond.code yX3_keep cX3_keep 8 none ∈ WA := List.mem_of_getElem? (i := 374) (by decide +kernel)
theorem wd_375 : Cond.methodLink RX3 64 yJ6_numberOfTrailingZeros_0f7a4 ∈ WA := List.mem_of_getElem? (i := 375) (by decide +kernel)
theorem wd_376 : Cond.static yJ6_numberOfTrailingZeros_0f7a4 ∈ WA := List.mem_of_getElem? (i := 376) (by decide +kernel)
theorem wd_377 : Cond.initialized RJ6 ∈ WA := List.mem_of_getElem? (i := 377) (by decide +kernel)
theorem wd_378 : Cond.code yJ6_numberOfTrailingZeros_0f7a4 cJ6_numberOfTrailingZeros_0f7a4 2 (some .int) ∈ WA := List.mem_of_getElem? (i := 378) (by decide +kernel)
theorem wd_379 : Cond.constant RJ6 264 (65536) ∈ WA := List.mem_of_getElem? (i := 379) (by decide +kernel)
theorem wd_380 : Cond.methodLink RX3 70 yX4_width ∈ WA := List.mem_of_getElem? (i := 380) (by decide +kernel)
theorem wd_381 : Cond.methodLink RX3 52 yX4_rowWith ∈ WA := List.mem_of_getElem? (i := 381) (by decide +kernel)
theorem wd_382 : Cond.methodLink RX3 56 yX4_cancel ∈ WA := List.mem_of_getElem? (i := 382) (by decide +kernel)
theorem wd_383 : Cond.methodLink RX3 60 yX3_allTwist ∈ WA := List.mem_of_getElem? (i := 383) (by decide +kernel)
theorem wd_384 : Cond.instanceMethod yX3_allTwist ∈ WA := List.mem_of_getElem? (i := 384) (by decide +kernel)
theorem wd_385 : Cond.selects RX3 yX3_allTwist yX3_allTwist ∈ WA := List.mem_of_getElem? (i := 385) (by decide +kernel)
theorem wd_386 : Cond.code yX3_allTwist cX3_allTwist 5 (some .boolean) ∈ WA := List.mem_of_getElem? (i := 386) (by decide +kernel)
theorem wd_387 : Cond.methodLink RX5 247 yX0_weigh ∈ WA := List.mem_of_getElem? (i := 387) (by decide +kernel)
theorem wd_388 : Cond.instanceMethod yX0_weigh ∈ WA := List.mem_of_getElem? (i := 388) (by decide +kernel)
theorem wd_389 : Cond.selects RX0 yX0_weigh yX0_weigh ∈ WA := List.mem_of_getElem? (i := 389) (by decide +kernel)
theorem wd_390 : Cond.code yX0_weigh cX0_weigh 4 none ∈ WA := List.mem_of_getElem? (i := 390) (by decide +kernel)
theorem wd_391 : Cond.fieldLink RX0 53 "FrameCollapse$Balance" "bars" "I" ∈ WA := List.mem_of_getElem? (i := 391) (by decide +kernel)
theorem wd_392 : Cond.methodLink RX0 55 arraycopyName ∈ WA := List.mem_of_getElem? (i := 392) (by decide +kernel)
theorem wd_393 : Cond.native arraycopyName ∈ WA := List.mem_of_getElem? (i := 393) (by decide +kernel)
theorem wd_394 : Cond.static arraycopyName ∈ WA := List.mem_of_getElem? (i := 394) (by decide +kernel)
theorem wd_395 : Cond.initialized "java/lang/System" ∈ WA := List.mem_of_getElem? (i := 395) (by decide +kernel)
theorem wd_396 : Cond.methodLink RX0 64 yX3_bend ∈ WA := List.mem_of_getElem? (i := 396) (by decide +kernel)
theorem wd_397 : Cond.instanceMethod yX3_bend ∈ WA := List.mem_of_getElem? (i := 397) (by decide +kernel)
theorem wd_398 : Cond.selects RX3 yX3_bend yX3_bend ∈ WA := List.mem_of_getElem? (i := 398) (by decide +kernel)
theorem wd_399 : Cond.code yX3_bend cX3_bend 3 (some .long) ∈ WA := List.mem_of_getElem? (i := 399) (by decide +kernel)
theorem wd_400 : Cond.methodLink RX3 73 Lib.MathLoose.abs_long.x ∈ WA := List.mem_of_getElem? (i := 400) (by decide +kernel)
theorem wd_401 : Cond.methodLink RX0 68 yX3_workOf ∈ WA := List.mem_of_getElem? (i := 401) (by decide +kernel)
theorem wd_402 : Cond.instanceMethod yX3_workOf ∈ WA := List.mem_of_getElem? (i := 402) (by decide +kernel)
theorem wd_403 : Cond.selects RX3 yX3_workOf yX3_workOf ∈ WA := List.mem_of_getElem? (i := 403) (by decide +kernel)
theorem wd_404 : Cond.code yX3_workOf cX3_workOf 10 (some .long) ∈ WA := List.mem_of_getElem? (i := 404) (by decide +kernel)
theorem wd_405 : Cond.methodLink RX5 127 yX5_isLoose ∈ WA := List.mem_of_getElem? (i := 405) (by decide +kernel)
theorem wd_406 : Cond.instanceMethod yX5_isLoose ∈ WA := List.mem_of_getElem? (i := 406) (by decide +kernel)
theorem wd_407 : Cond.selects RX5 yX5_isLoose yX5_isLoose ∈ WA := List.mem_of_getElem? (i := 407) (by decide +kernel)
theorem wd_408 : Cond.code yX5_isLoose cX5_isLoose 1 (some .boolean) ∈ WA := List.mem_of_getElem? (i := 408) (by decide +kernel)
theorem wd_409 : Cond.methodLink RX5 250 yX4_looseness ∈ WA := List.mem_of_getElem? (i := 409) (by decide +kernel)
theorem wd_410 : Cond.methodLink RX5 136 yX5_selfStressCount ∈ WA := List.mem_of_getElem? (i := 410) (by decide +kernel)
theorem wd_411 : Cond.instanceMethod yX5_selfStressCount ∈ WA := List.mem_of_getElem? (i := 411) (by decide +kernel)
theorem wd_412 : Cond.selects RX5 yX5_selfStressCount yX5_selfStressCount ∈ WA := List.mem_of_getElem? (i := 412) (by decide +kernel)
theorem wd_413 : Cond.code yX5_selfStressCount cX5_selfStressCount 1 (some .int) ∈ WA := List.mem_of_getElem? (i := 413) (by decide +kernel)
theorem wd_414 : Cond.methodLink RX5 253 yX2_freedoms ∈ WA := List.mem_of_getElem? (i := 414) (by decide +kernel)
theorem wd_415 : Cond.instanceMethod yX2_freedoms ∈ WA := List.mem_of_getElem? (i := 415) (by decide +kernel)
theorem wd_416 : Cond.selects RX2 yX2_freedoms yX2_freedoms ∈ WA := List.mem_of_getElem? (i := 416) (by decide +kernel)
theorem wd_417 : Cond.code yX2_freedoms cX2_freedoms 3 (some .int) ∈ WA := List.mem_of_getElem? (i := 417) (by decide +kernel)
theorem wd_418 : Cond.methodLink RX2 52 yX2_shifts ∈ WA := List.mem_of_getElem? (i := 418) (by decide +kernel)
theorem wd_419 : Cond.methodLink RX2 56 yX2_turns ∈ WA := List.mem_of_getElem? (i := 419) (by decide +kernel)
theorem wd_424 : Cond.fieldLink RX6 165 "FrameCollapseModel" "motions" "I" ∈ WA := List.mem_of_getElem? (i := 424) (by decide +kernel)
theorem wd_425 : Cond.fieldLink RX6 196 "FrameCollapseModel" "many" "I" ∈ WA := List.mem_of_getElem? (i := 425) (by decide +kernel)
theorem wd_426 : Cond.methodLink RX6 307 yX6_isLoose ∈ WA := List.mem_of_getElem? (i := 426) (by decide +kernel)
theorem wd_427 : Cond.instanceMethod yX6_isLoose ∈ WA := List.mem_of_getElem? (i := 427) (by decide +kernel)
theorem wd_428 : Cond.selects RX6 yX6_isLoose yX6_isLoose ∈ WA := List.mem_of_getElem? (i := 428) (by decide +kernel)
theorem wd_429 : Cond.code yX6_isLoose cX6_isLoose 1 (some .boolean) ∈ WA := List.mem_of_getElem? (i := 429) (by decide +kernel)
theorem wd_430 : Cond.fieldLink RX6 183 "FrameCollapseModel" "rank" "I" ∈ WA := List.mem_of_getElem? (i := 430) (by decide +kernel)
theorem wd_431 : Cond.methodLink RX6 202 yX6_layNumbers ∈ WA := List.mem_of_getElem? (i := 431) (by decide +kernel)
theorem wd_432 : Cond.instanceMethod yX6_layNumbers ∈ WA := List.mem_of_getElem? (i := 432) (by decide +kernel)
theorem wd_433 : Cond.selects RX6 yX6_layNumbers yX6_layNumbers ∈ WA := List.mem_of_getElem? (i := 433) (by decide +kernel)
theorem wd_434 : Cond.code yX6_layNumbers cX6_layNumbers 6 none ∈ WA := List.mem_of_getElem? (i := 434) (by decide +kernel)
theorem wd_435 : Cond.methodLink RX6 161 yX6_join ∈ WA := List.mem_of_getElem? (i := 435) (by decide +kernel)
theorem wd_436 : Cond.instanceMethod yX6_join ∈ WA := List.mem_of_getElem? (i := 436) (by decide +kernel)
theorem wd_437 : Cond.selects RX6 yX6_join yX6_join ∈ WA := List.mem_of_getElem? (i := 437) (by decide +kernel)
theorem wd_438 : Cond.code yX6_join cX6_join 7 none ∈ WA := List.mem_of_getElem? (i := 438) (by decide +kernel)
theorem wd_439 : Cond.methodLink RX6 168 yX6_isHeld ∈ WA := List.mem_of_getElem? (i := 439) (by decide +kernel)
theorem wd_440 : Cond.instanceMethod yX6_isHeld ∈ WA := List.mem_of_getElem? (i := 440) (by decide +kernel)
theorem wd_441 : Cond.selects RX6 yX6_isHeld yX6_isHeld ∈ WA := List.mem_of_getElem? (i := 441) (by decide +kernel)
theorem wd_442 : Cond.code yX6_isHeld cX6_isHeld 3 (some .boolean) ∈ WA := List.mem_of_getElem? (i := 442) (by decide +kernel)
theorem wd_443 : Cond.methodLink RX6 205 yX6_layRows ∈ WA := List.mem_of_getElem? (i := 443) (by decide +kernel)
theorem wd_444 : Cond.instanceMethod yX6_layRows ∈ WA := List.mem_of_getElem? (i := 444) (by decide +kernel)
theorem wd_445 : Cond.selects RX6 yX6_layRows yX6_layRows ∈ WA := List.mem_of_getElem? (i := 445) (by decide +kernel)
theorem wd_446 : Cond.code yX6_layRows cX6_layRows 3 none ∈ WA := List.mem_of_getElem? (i := 446) (by decide +kernel)
theorem wd_447 : Cond.methodLink RX6 172 yX6_addTo ∈ WA := List.mem_of_getElem? (i := 447) (by decide +kernel)
theorem wd_448 : Cond.instanceMethod yX6_addTo ∈ WA := List.mem_of_getElem? (i := 448) (by decide +kernel)
theorem wd_449 : Cond.selects RX6 yX6_addTo yX6_addTo ∈ WA := List.mem_of_getElem? (i := 449) (by decide +kernel)
theorem wd_450 : Cond.code yX6_addTo cX6_addTo 6 none ∈ WA := List.mem_of_getElem? (i := 450) (by decide +kernel)
theorem wd_451 : Cond.methodLink RX6 208 yX6_layRank ∈ WA := List.mem_of_getElem? (i := 451) (by decide +kernel)
theorem wd_452 : Cond.instanceMethod yX6_layRank ∈ WA := List.mem_of_getElem? (i := 452) (by decide +kernel)
theorem wd_453 : Cond.selects RX6 yX6_layRank yX6_layRank ∈ WA := List.mem_of_getElem? (i := 453) (by decide +kernel)
theorem wd_454 : Cond.code yX6_layRank cX6_layRank 2 none ∈ WA := List.mem_of_getElem? (i := 454) (by decide +kernel)
theorem wd_455 : Cond.methodLink RX6 186 yX6_isPut ∈ WA := List.mem_of_getElem? (i := 455) (by decide +kernel)
theorem wd_456 : Cond.instanceMethod yX6_isPut ∈ WA := List.mem_of_getElem? (i := 456) (by decide +kernel)
theorem wd_457 : Cond.selects RX6 yX6_isPut yX6_isPut ∈ WA := List.mem_of_getElem? (i := 457) (by decide +kernel)
theorem wd_458 : Cond.code yX6_isPut cX6_isPut 10 (some .boolean) ∈ WA := List.mem_of_getElem? (i := 458) (by decide +kernel)
theorem wd_459 : Cond.methodLink RX6 176 yX6_shorten ∈ WA := List.mem_of_getElem? (i := 459) (by decide +kernel)
theorem wd_460 : Cond.instanceMethod yX6_shorten ∈ WA := List.mem_of_getElem? (i := 460) (by decide +kernel)
theorem wd_461 : Cond.selects RX6 yX6_shorten yX6_shorten ∈ WA := List.mem_of_getElem? (i := 461) (by decide +kernel)
theorem wd_462 : Cond.code yX6_shorten cX6_shorten 5 none ∈ WA := List.mem_of_getElem? (i := 462) (by decide +kernel)
theorem wd_463 : Cond.methodLink RX6 179 yX6_common ∈ WA := List.mem_of_getElem? (i := 463) (by decide +kernel)
theorem wd_464 : Cond.static yX6_common ∈ WA := List.mem_of_getElem? (i := 464) (by decide +kernel)
theorem wd_465 : Cond.code yX6_common cX6_common 11 (some .long) ∈ WA := List.mem_of_getElem? (i := 465) (by decide +kernel)
theorem wd_466 : Cond.methodLink RX6 211 yX6_layMechanisms ∈ WA := List.mem_of_getElem? (i := 466) (by decide +kernel)
theorem wd_467 : Cond.instanceMethod yX6_layMechanisms ∈ WA := List.mem_of_getElem? (i := 467) (by decide +kernel)
theorem wd_468 : Cond.selects RX6 yX6_layMechanisms yX6_layMechanisms ∈ WA := List.mem_of_getElem? (i := 468) (by decide +kernel)
theorem wd_469 : Cond.code yX6_layMechanisms cX6_layMechanisms 4 none ∈ WA := List.mem_of_getElem? (i := 469) (by decide +kernel)
theorem wd_470 : Cond.methodLink RX6 199 yX6_keepWay ∈ WA := List.mem_of_getElem? (i := 470) (by decide +kernel)
theorem wd_471 : Cond.instanceMethod yX6_keepWay ∈ WA := List.mem_of_getElem? (i := 471) (by decide +kernel)
theorem wd_472 : Cond.selects RX6 yX6_keepWay yX6_keepWay ∈ WA := List.mem_of_getElem? (i := 472) (by decide +kernel)
theorem wd_473 : Cond.code yX6_keepWay cX6_keepWay 5 none ∈ WA := List.mem_of_getElem? (i := 473) (by decide +kernel)
theorem wd_474 : Cond.methodLink RX6 189 yX6_layWay ∈ WA := List.mem_of_getElem? (i := 474) (by decide +kernel)
theorem wd_475 : Cond.instanceMethod yX6_layWay ∈ WA := List.mem_of_getElem? (i := 475) (by decide +kernel)
theorem wd_476 : Cond.selects RX6 yX6_layWay yX6_layWay ∈ WA := List.mem_of_getElem? (i := 476) (by decide +kernel)
theorem wd_477 : Cond.code yX6_layWay cX6_layWay 11 none ∈ WA := List.mem_of_getElem? (i := 477) (by decide +kernel)
theorem wd_478 : Cond.methodLink RX6 192 yX6_twistBy ∈ WA := List.mem_of_getElem? (i := 478) (by decide +kernel)
theorem wd_479 : Cond.instanceMethod yX6_twistBy ∈ WA := List.mem_of_getElem? (i := 479) (by decide +kernel)
theorem wd_480 : Cond.selects RX6 yX6_twistBy yX6_twistBy ∈ WA := List.mem_of_getElem? (i := 480) (by decide +kernel)
theorem wd_481 : Cond.code yX6_twistBy cX6_twistBy 7 (some .long) ∈ WA := List.mem_of_getElem? (i := 481) (by decide +kernel)
theorem wd_482 : Cond.methodLink RX6 313 yX6_restful ∈ WA := List.mem_of_getElem? (i := 482) (by decide +kernel)
theorem wd_483 : Cond.instanceMethod yX6_restful ∈ WA := List.mem_of_getElem? (i := 483) (by decide +kernel)
theorem wd_484 : Cond.selects RX6 yX6_restful yX6_restful ∈ WA := List.mem_of_getElem? (i := 484) (by decide +kernel)
theorem wd_485 : Cond.code yX6_restful cX6_restful 3 (some .int) ∈ WA := List.mem_of_getElem? (i := 485) (by decide +kernel)
theorem wd_490 : Cond.methodLink RX5 146 yX5_isMechanism ∈ WA := List.mem_of_getElem? (i := 490) (by decide +kernel)
theorem wd_491 : Cond.instanceMethod yX5_isMechanism ∈ WA := List.mem_of_getElem? (i := 491) (by decide +kernel)
theorem wd_492 : Cond.selects RX5 yX5_isMechanism yX5_isMechanism ∈ WA := List.mem_of_getElem? (i := 492) (by decide +kernel)
theorem wd_493 : Cond.code yX5_isMechanism cX5_isMechanism 2 (some .boolean) ∈ WA := List.mem_of_getElem? (i := 493) (by decide +kernel)
theorem wd_502 : Cond.constantLong RX5 152 (-4000000000000000002) ∈ WA := List.mem_of_getElem? (i := 502) (by decide +kernel)
theorem wd_503 : Cond.constantLong RX5 154 (-4000000000000000003) ∈ WA := List.mem_of_getElem? (i := 503) (by decide +kernel)
theorem wd_504 : Cond.constantLong RX5 159 (-4000000000000000001) ∈ WA := List.mem_of_getElem? (i := 504) (by decide +kernel)
theorem wd_505 : Cond.methodLink RX5 156 yX5_isEnd ∈ WA := List.mem_of_getElem? (i := 505) (by decide +kernel)
theorem wd_506 : Cond.instanceMethod yX5_isEnd ∈ WA := List.mem_of_getElem? (i := 506) (by decide +kernel)
theorem wd_507 : Cond.selects RX5 yX5_isEnd yX5_isEnd ∈ WA := List.mem_of_getElem? (i := 507) (by decide +kernel)
theorem wd_508 : Cond.code yX5_isEnd cX5_isEnd 2 (some .boolean) ∈ WA := List.mem_of_getElem? (i := 508) (by decide +kernel)
theorem wd_509 : Cond.methodLink RX5 161 yX3_twistOf ∈ WA := List.mem_of_getElem? (i := 509) (by decide +kernel)
theorem wd_510 : Cond.instanceMethod yX3_twistOf ∈ WA := List.mem_of_getElem? (i := 510) (by decide +kernel)
theorem wd_511 : Cond.selects RX3 yX3_twistOf yX3_twistOf ∈ WA := List.mem_of_getElem? (i := 511) (by decide +kernel)
theorem wd_512 : Cond.code yX3_twistOf cX3_twistOf 3 (some .long) ∈ WA := List.mem_of_getElem? (i := 512) (by decide +kernel)
theorem wd_513 : Cond.methodLink RX5 165 yX3_lowestTwist ∈ WA := List.mem_of_getElem? (i := 513) (by decide +kernel)
theorem wd_514 : Cond.instanceMethod yX3_lowestTwist ∈ WA := List.mem_of_getElem? (i := 514) (by decide +kernel)
theorem wd_515 : Cond.selects RX3 yX3_lowestTwist yX3_lowestTwist ∈ WA := List.mem_of_getElem? (i := 515) (by decide +kernel)
theorem wd_516 : Cond.code yX3_lowestTwist cX3_lowestTwist 3 (some .long) ∈ WA := List.mem_of_getElem? (i := 516) (by decide +kernel)
theorem wd_517 : Cond.methodLink RX5 169 yX1_put ∈ WA := List.mem_of_getElem? (i := 517) (by decide +kernel)
theorem wd_518 : Cond.instanceMethod yX1_put ∈ WA := List.mem_of_getElem? (i := 518) (by decide +kernel)
theorem wd_519 : Cond.selects RX1 yX1_put yX1_put ∈ WA := List.mem_of_getElem? (i := 519) (by decide +kernel)
theorem wd_520 : Cond.code yX1_put cX1_put 5 none ∈ WA := List.mem_of_getElem? (i := 520) (by decide +kernel)
theorem wd_521 : Cond.fieldLink RX1 13 "FrameCollapse$Fraction" "top" "J" ∈ WA := List.mem_of_getElem? (i := 521) (by decide +kernel)
theorem wd_522 : Cond.methodLink RX5 173 yX1_lowestTerm ∈ WA := List.mem_of_getElem? (i := 522) (by decide +kernel)
theorem wd_523 : Cond.instanceMethod yX1_lowestTerm ∈ WA := List.mem_of_getElem? (i := 523) (by decide +kernel)
theorem wd_524 : Cond.selects RX1 yX1_lowestTerm yX1_lowestTerm ∈ WA := List.mem_of_getElem? (i := 524) (by decide +kernel)
theorem wd_525 : Cond.code yX1_lowestTerm cX1_lowestTerm 2 (some .long) ∈ WA := List.mem_of_getElem? (i := 525) (by decide +kernel)
theorem wd_526 : Cond.methodLink RX1 22 yX1_reduce ∈ WA := List.mem_of_getElem? (i := 526) (by decide +kernel)
theorem wd_527 : Cond.instanceMethod yX1_reduce ∈ WA := List.mem_of_getElem? (i := 527) (by decide +kernel)
theorem wd_528 : Cond.selects RX1 yX1_reduce yX1_reduce ∈ WA := List.mem_of_getElem? (i := 528) (by decide +kernel)
theorem wd_529 : Cond.code yX1_reduce cX1_reduce 3 none ∈ WA := List.mem_of_getElem? (i := 529) (by decide +kernel)
theorem wd_534 : Cond.constantLong RX6 317 (-4000000000000000002) ∈ WA := List.mem_of_getElem? (i := 534) (by decide +kernel)
theorem wd_535 : Cond.constantLong RX6 319 (-4000000000000000003) ∈ WA := List.mem_of_getElem? (i := 535) (by decide +kernel)
theorem wd_536 : Cond.constantLong RX6 324 (-4000000000000000001) ∈ WA := List.mem_of_getElem? (i := 536) (by decide +kernel)
theorem wd_537 : Cond.methodLink RX6 321 yX6_isEnd ∈ WA := List.mem_of_getElem? (i := 537) (by decide +kernel)
theorem wd_538 : Cond.instanceMethod yX6_isEnd ∈ WA := List.mem_of_getElem? (i := 538) (by decide +kernel)
theorem wd_539 : Cond.selects RX6 yX6_isEnd yX6_isEnd ∈ WA := List.mem_of_getElem? (i := 539) (by decide +kernel)
theorem wd_540 : Cond.code yX6_isEnd cX6_isEnd 2 (some .boolean) ∈ WA := List.mem_of_getElem? (i := 540) (by decide +kernel)
theorem wd_541 : Cond.methodLink RX6 326 yX6_layOne ∈ WA := List.mem_of_getElem? (i := 541) (by decide +kernel)
theorem wd_542 : Cond.instanceMethod yX6_layOne ∈ WA := List.mem_of_getElem? (i := 542) (by decide +kernel)
theorem wd_543 : Cond.selects RX6 yX6_layOne yX6_layOne ∈ WA := List.mem_of_getElem? (i := 543) (by decide +kernel)
theorem wd_544 : Cond.code yX6_layOne cX6_layOne 4 none ∈ WA := List.mem_of_getElem? (i := 544) (by decide +kernel)
theorem wd_545 : Cond.fieldLink RX6 214 "FrameCollapseModel" "strain" "J" ∈ WA := List.mem_of_getElem? (i := 545) (by decide +kernel)
theorem wd_546 : Cond.constantLong RX6 218 (12) ∈ WA := List.mem_of_getElem? (i := 546) (by decide +kernel)
theorem wd_547 : Cond.methodLink RX6 220 yX6_goes ∈ WA := List.mem_of_getElem? (i := 547) (by decide +kernel)
theorem wd_548 : Cond.instanceMethod yX6_goes ∈ WA := List.mem_of_getElem? (i := 548) (by decide +kernel)
theorem wd_549 : Cond.selects RX6 yX6_goes yX6_goes ∈ WA := List.mem_of_getElem? (i := 549) (by decide +kernel)
theorem wd_550 : Cond.code yX6_goes cX6_goes 5 (some .long) ∈ WA := List.mem_of_getElem? (i := 550) (by decide +kernel)
theorem wd_551 : Cond.methodLink RX6 300 yX6_part ∈ WA := List.mem_of_getElem? (i := 551) (by decide +kernel)
theorem wd_552 : Cond.static yX6_part ∈ WA := List.mem_of_getElem? (i := 552) (by decide +kernel)
theorem wd_553 : Cond.code yX6_part cX6_part 7 (some .long) ∈ WA := List.mem_of_getElem? (i := 553) (by decide +kernel)
theorem wd_558 : Cond.constantLong RX5 182 (-4000000000000000005) ∈ WA := List.mem_of_getElem? (i := 558) (by decide +kernel)
theorem wd_559 : Cond.methodLink RX5 176 yX5_isFactored ∈ WA := List.mem_of_getElem? (i := 559) (by decide +kernel)
theorem wd_560 : Cond.static yX5_isFactored ∈ WA := List.mem_of_getElem? (i := 560) (by decide +kernel)
theorem wd_561 : Cond.code yX5_isFactored cX5_isFactored 1 (some .boolean) ∈ WA := List.mem_of_getElem? (i := 561) (by decide +kernel)
theorem wd_562 : Cond.methodLink RX5 179 yX0_findBounds ∈ WA := List.mem_of_getElem? (i := 562) (by decide +kernel)
theorem wd_563 : Cond.instanceMethod yX0_findBounds ∈ WA := List.mem_of_getElem? (i := 563) (by decide +kernel)
theorem wd_564 : Cond.selects RX0 yX0_findBounds yX0_findBounds ∈ WA := List.mem_of_getElem? (i := 564) (by decide +kernel)
theorem wd_565 : Cond.code yX0_findBounds cX0_findBounds 7 (some .boolean) ∈ WA := List.mem_of_getElem? (i := 565) (by decide +kernel)
theorem wd_566 : Cond.methodLink RX0 80 Lib.MathLoose.abs_long.x ∈ WA := List.mem_of_getElem? (i := 566) (by decide +kernel)
theorem wd_567 : Cond.methodLink RX0 86 yX1_put ∈ WA := List.mem_of_getElem? (i := 567) (by decide +kernel)
theorem wd_568 : Cond.methodLink RX5 184 yX0_extreme ∈ WA := List.mem_of_getElem? (i := 568) (by decide +kernel)
theorem wd_569 : Cond.instanceMethod yX0_extreme ∈ WA := List.mem_of_getElem? (i := 569) (by decide +kernel)
theorem wd_570 : Cond.selects RX0 yX0_extreme yX0_extreme ∈ WA := List.mem_of_getElem? (i := 570) (by decide +kernel)
theorem wd_571 : Cond.code yX0_extreme cX0_extreme 2 (some .long) ∈ WA := List.mem_of_getElem? (i := 571) (by decide +kernel)
theorem wd_572 : Cond.methodLink RX0 72 yX0_limit ∈ WA := List.mem_of_getElem? (i := 572) (by decide +kernel)
theorem wd_573 : Cond.instanceMethod yX0_limit ∈ WA := List.mem_of_getElem? (i := 573) (by decide +kernel)
theorem wd_574 : Cond.selects RX0 yX0_limit yX0_limit ∈ WA := List.mem_of_getElem? (i := 574) (by decide +kernel)
theorem wd_575 : Cond.code yX0_limit cX0_limit 2 (some (.object "FrameCollapse$Fraction")) ∈ WA := List.mem_of_getElem? (i := 575) (by decide +kernel)
theorem wd_576 : Cond.methodLink RX0 76 yX1_lowestTerm ∈ WA := List.mem_of_getElem? (i := 576) (by decide +kernel)
theorem wd_581 : Cond.constantLong RX6 332 (-4000000000000000005) ∈ WA := List.mem_of_getElem? (i := 581) (by decide +kernel)
theorem wd_582 : Cond.methodLink RX6 329 yX6_isCase ∈ WA := List.mem_of_getElem? (i := 582) (by decide +kernel)
theorem wd_583 : Cond.static yX6_isCase ∈ WA := List.mem_of_getElem? (i := 583) (by decide +kernel)
theorem wd_584 : Cond.code yX6_isCase cX6_isCase 1 (some .boolean) ∈ WA := List.mem_of_getElem? (i := 584) (by decide +kernel)
theorem wd_589 : Cond.methodLink RX5 187 yX0_range ∈ WA := List.mem_of_getElem? (i := 589) (by decide +kernel)
theorem wd_590 : Cond.instanceMethod yX0_range ∈ WA := List.mem_of_getElem? (i := 590) (by decide +kernel)
theorem wd_591 : Cond.selects RX0 yX0_range yX0_range ∈ WA := List.mem_of_getElem? (i := 591) (by decide +kernel)
theorem wd_592 : Cond.code yX0_range cX0_range 12 (some .int) ∈ WA := List.mem_of_getElem? (i := 592) (by decide +kernel)
theorem wd_593 : Cond.methodLink RX0 90 yX0_lower ∈ WA := List.mem_of_getElem? (i := 593) (by decide +kernel)
theorem wd_594 : Cond.instanceMethod yX0_lower ∈ WA := List.mem_of_getElem? (i := 594) (by decide +kernel)
theorem wd_595 : Cond.selects RX0 yX0_lower yX0_lower ∈ WA := List.mem_of_getElem? (i := 595) (by decide +kernel)
theorem wd_596 : Cond.code yX0_lower cX0_lower 6 none ∈ WA := List.mem_of_getElem? (i := 596) (by decide +kernel)
theorem wd_597 : Cond.methodLink RX0 97 yX1_isBelow ∈ WA := List.mem_of_getElem? (i := 597) (by decide +kernel)
theorem wd_598 : Cond.instanceMethod yX1_isBelow ∈ WA := List.mem_of_getElem? (i := 598) (by decide +kernel)
theorem wd_599 : Cond.selects RX1 yX1_isBelow yX1_isBelow ∈ WA := List.mem_of_getElem? (i := 599) (by decide +kernel)
theorem wd_600 : Cond.code yX1_isBelow cX1_isBelow 19 (some .boolean) ∈ WA := List.mem_of_getElem? (i := 600) (by decide +kernel)
theorem wd_601 : Cond.methodLink RX1 25 yJ9_floorDiv_f86c9 ∈ WA := List.mem_of_getElem? (i := 601) (by decide +kernel)
theorem wd_602 : Cond.static yJ9_floorDiv_f86c9 ∈ WA := List.mem_of_getElem? (i := 602) (by decide +kernel)
theorem wd_603 : Cond.initialized RJ9 ∈ WA := List.mem_of_getElem? (i := 603) (by decide +kernel)
theorem wd_604 : Cond.code yJ9_floorDiv_f86c9 cJ9_floorDiv_f86c9 6 (some .long) ∈ WA := List.mem_of_getElem? (i := 604) (by decide +kernel)
theorem wd_605 : Cond.methodLink RX0 101 yX1_copyFrom ∈ WA := List.mem_of_getElem? (i := 605) (by decide +kernel)
theorem wd_606 : Cond.instanceMethod yX1_copyFrom ∈ WA := List.mem_of_getElem? (i := 606) (by decide +kernel)
theorem wd_607 : Cond.selects RX1 yX1_copyFrom yX1_copyFrom ∈ WA := List.mem_of_getElem? (i := 607) (by decide +kernel)
theorem wd_608 : Cond.code yX1_copyFrom cX1_copyFrom 2 none ∈ WA := List.mem_of_getElem? (i := 608) (by decide +kernel)
theorem wd_609 : Cond.methodLink RX0 94 yX0_raise ∈ WA := List.mem_of_getElem? (i := 609) (by decide +kernel)
theorem wd_610 : Cond.instanceMethod yX0_raise ∈ WA := List.mem_of_getElem? (i := 610) (by decide +kernel)
theorem wd_611 : Cond.selects RX0 yX0_raise yX0_raise ∈ WA := List.mem_of_getElem? (i := 611) (by decide +kernel)
theorem wd_612 : Cond.code yX0_raise cX0_raise 6 none ∈ WA := List.mem_of_getElem? (i := 612) (by decide +kernel)
theorem wd_617 : Cond.methodLink RX6 310 yX6_limitOf ∈ WA := List.mem_of_getElem? (i := 617) (by decide +kernel)
theorem wd_618 : Cond.instanceMethod yX6_limitOf ∈ WA := List.mem_of_getElem? (i := 618) (by decide +kernel)
theorem wd_619 : Cond.selects RX6 yX6_limitOf yX6_limitOf ∈ WA := List.mem_of_getElem? (i := 619) (by decide +kernel)
theorem wd_620 : Cond.code yX6_limitOf cX6_limitOf 3 (some .int) ∈ WA := List.mem_of_getElem? (i := 620) (by decide +kernel)
theorem wd_621 : Cond.methodLink RX6 304 yX6_lookFor ∈ WA := List.mem_of_getElem? (i := 621) (by decide +kernel)
theorem wd_622 : Cond.instanceMethod yX6_lookFor ∈ WA := List.mem_of_getElem? (i := 622) (by decide +kernel)
theorem wd_623 : Cond.selects RX6 yX6_lookFor yX6_lookFor ∈ WA := List.mem_of_getElem? (i := 623) (by decide +kernel)
theorem wd_624 : Cond.code yX6_lookFor cX6_lookFor 8 (some .int) ∈ WA := List.mem_of_getElem? (i := 624) (by decide +kernel)
theorem wd_625 : Cond.fieldLink RX6 230 "FrameCollapseModel" "base" "J" ∈ WA := List.mem_of_getElem? (i := 625) (by decide +kernel)
theorem wd_626 : Cond.constantLong RX6 290 (-12) ∈ WA := List.mem_of_getElem? (i := 626) (by decide +kernel)
theorem wd_627 : Cond.methodLink RX6 283 yX6_layRules ∈ WA := List.mem_of_getElem? (i := 627) (by decide +kernel)
theorem wd_628 : Cond.instanceMethod yX6_layRules ∈ WA := List.mem_of_getElem? (i := 628) (by decide +kernel)
theorem wd_629 : Cond.selects RX6 yX6_layRules yX6_layRules ∈ WA := List.mem_of_getElem? (i := 629) (by decide +kernel)
theorem wd_630 : Cond.code yX6_layRules cX6_layRules 4 none ∈ WA := List.mem_of_getElem? (i := 630) (by decide +kernel)
theorem wd_631 : Cond.methodLink RX6 286 yX6_isBorne ∈ WA := List.mem_of_getElem? (i := 631) (by decide +kernel)
theorem wd_632 : Cond.instanceMethod yX6_isBorne ∈ WA := List.mem_of_getElem? (i := 632) (by decide +kernel)
theorem wd_633 : Cond.selects RX6 yX6_isBorne yX6_isBorne ∈ WA := List.mem_of_getElem? (i := 633) (by decide +kernel)
theorem wd_634 : Cond.code yX6_isBorne cX6_isBorne 11 (some .boolean) ∈ WA := List.mem_of_getElem? (i := 634) (by decide +kernel)
theorem wd_635 : Cond.methodLink RX6 263 yX6_take ∈ WA := List.mem_of_getElem? (i := 635) (by decide +kernel)
theorem wd_636 : Cond.instanceMethod yX6_take ∈ WA := List.mem_of_getElem? (i := 636) (by decide +kernel)
theorem wd_637 : Cond.selects RX6 yX6_take yX6_take ∈ WA := List.mem_of_getElem? (i := 637) (by decide +kernel)
theorem wd_638 : Cond.code yX6_take cX6_take 9 none ∈ WA := List.mem_of_getElem? (i := 638) (by decide +kernel)
theorem wd_639 : Cond.fieldLink RX6 240 "FrameCollapseModel" "by" "J" ∈ WA := List.mem_of_getElem? (i := 639) (by decide +kernel)
theorem wd_640 : Cond.methodLink RX6 267 yX6_bits ∈ WA := List.mem_of_getElem? (i := 640) (by decide +kernel)
theorem wd_641 : Cond.static yX6_bits ∈ WA := List.mem_of_getElem? (i := 641) (by decide +kernel)
theorem wd_642 : Cond.code yX6_bits cX6_bits 3 (some .int) ∈ WA := List.mem_of_getElem? (i := 642) (by decide +kernel)
theorem wd_643 : Cond.methodLink RX6 270 yX6_isSolved ∈ WA := List.mem_of_getElem? (i := 643) (by decide +kernel)
theorem wd_644 : Cond.instanceMethod yX6_isSolved ∈ WA := List.mem_of_getElem? (i := 644) (by decide +kernel)
theorem wd_645 : Cond.selects RX6 yX6_isSolved yX6_isSolved ∈ WA := List.mem_of_getElem? (i := 645) (by decide +kernel)
theorem wd_646 : Cond.code yX6_isSolved cX6_isSolved 5 (some .boolean) ∈ WA := List.mem_of_getElem? (i := 646) (by decide +kernel)
theorem wd_647 : Cond.methodLink RX6 233 yX6_swap ∈ WA := List.mem_of_getElem? (i := 647) (by decide +kernel)
theorem wd_648 : Cond.instanceMethod yX6_swap ∈ WA := List.mem_of_getElem? (i := 648) (by decide +kernel)
theorem wd_649 : Cond.selects RX6 yX6_swap yX6_swap ∈ WA := List.mem_of_getElem? (i := 649) (by decide +kernel)
theorem wd_650 : Cond.code yX6_swap cX6_swap 6 none ∈ WA := List.mem_of_getElem? (i := 650) (by decide +kernel)
theorem wd_651 : Cond.methodLink RX6 237 yX6_clear ∈ WA := List.mem_of_getElem? (i := 651) (by decide +kernel)
theorem wd_652 : Cond.instanceMethod yX6_clear ∈ WA := List.mem_of_getElem? (i := 652) (by decide +kernel)
theorem wd_653 : Cond.selects RX6 yX6_clear yX6_clear ∈ WA := List.mem_of_getElem? (i := 653) (by decide +kernel)
theorem wd_654 : Cond.code yX6_clear cX6_clear 9 none ∈ WA := List.mem_of_getElem? (i := 654) (by decide +kernel)
theorem wd_655 : Cond.methodLink RX6 273 yX6_begin ∈ WA := List.mem_of_getElem? (i := 655) (by decide +kernel)
theorem wd_656 : Cond.instanceMethod yX6_begin ∈ WA := List.mem_of_getElem? (i := 656) (by decide +kernel)
theorem wd_657 : Cond.selects RX6 yX6_begin yX6_begin ∈ WA := List.mem_of_getElem? (i := 657) (by decide +kernel)
theorem wd_658 : Cond.code yX6_begin cX6_begin 5 none ∈ WA := List.mem_of_getElem? (i := 658) (by decide +kernel)
theorem wd_659 : Cond.fieldLink RX6 243 "FrameCollapseModel" "columns" "I" ∈ WA := List.mem_of_getElem? (i := 659) (by decide +kernel)
theorem wd_660 : Cond.fieldLink RX6 246 "FrameCollapseModel" "frees" "I" ∈ WA := List.mem_of_getElem? (i := 660) (by decide +kernel)
theorem wd_661 : Cond.fieldLink RX6 249 "FrameCollapseModel" "signs" "I" ∈ WA := List.mem_of_getElem? (i := 661) (by decide +kernel)
theorem wd_662 : Cond.fieldLink RX6 252 "FrameCollapseModel" "step" "I" ∈ WA := List.mem_of_getElem? (i := 662) (by decide +kernel)
theorem wd_663 : Cond.methodLink RX6 255 yX6_strengthOf ∈ WA := List.mem_of_getElem? (i := 663) (by decide +kernel)
theorem wd_664 : Cond.instanceMethod yX6_strengthOf ∈ WA := List.mem_of_getElem? (i := 664) (by decide +kernel)
theorem wd_665 : Cond.selects RX6 yX6_strengthOf yX6_strengthOf ∈ WA := List.mem_of_getElem? (i := 665) (by decide +kernel)
theorem wd_666 : Cond.code yX6_strengthOf cX6_strengthOf 2 (some .long) ∈ WA := List.mem_of_getElem? (i := 666) (by decide +kernel)
theorem wd_667 : Cond.fieldLink RX6 227 "FrameCollapseModel" "changedTo" "I" ∈ WA := List.mem_of_getElem? (i := 667) (by decide +kernel)
theorem wd_668 : Cond.methodLink RX6 276 yX6_isWithin ∈ WA := List.mem_of_getElem? (i := 668) (by decide +kernel)
theorem wd_669 : Cond.instanceMethod yX6_isWithin ∈ WA := List.mem_of_getElem? (i := 669) (by decide +kernel)
theorem wd_670 : Cond.selects RX6 yX6_isWithin yX6_isWithin ∈ WA := List.mem_of_getElem? (i := 670) (by decide +kernel)
theorem wd_671 : Cond.code yX6_isWithin cX6_isWithin 4 (some .boolean) ∈ WA := List.mem_of_getElem? (i := 671) (by decide +kernel)
theorem wd_672 : Cond.methodLink RX6 280 yX6_isNext ∈ WA := List.mem_of_getElem? (i := 672) (by decide +kernel)
theorem wd_673 : Cond.instanceMethod yX6_isNext ∈ WA := List.mem_of_getElem? (i := 673) (by decide +kernel)
theorem wd_674 : Cond.selects RX6 yX6_isNext yX6_isNext ∈ WA := List.mem_of_getElem? (i := 674) (by decide +kernel)
theorem wd_675 : Cond.code yX6_isNext cX6_isNext 3 (some .boolean) ∈ WA := List.mem_of_getElem? (i := 675) (by decide +kernel)
theorem wd_676 : Cond.constantLong RX6 259 (2) ∈ WA := List.mem_of_getElem? (i := 676) (by decide +kernel)
theorem wd_677 : Cond.constantLong RX6 261 (-2) ∈ WA := List.mem_of_getElem? (i := 677) (by decide +kernel)
theorem wd_678 : Cond.methodLink RX6 292 yX6_takeSide ∈ WA := List.mem_of_getElem? (i := 678) (by decide +kernel)
theorem wd_679 : Cond.instanceMethod yX6_takeSide ∈ WA := List.mem_of_getElem? (i := 679) (by decide +kernel)
theorem wd_680 : Cond.selects RX6 yX6_takeSide yX6_takeSide ∈ WA := List.mem_of_getElem? (i := 680) (by decide +kernel)
theorem wd_681 : Cond.code yX6_takeSide cX6_takeSide 8 none ∈ WA := List.mem_of_getElem? (i := 681) (by decide +kernel)
theorem wd_682 : Cond.methodLink RX6 296 yX6_compare ∈ WA := List.mem_of_getElem? (i := 682) (by decide +kernel)
theorem wd_683 : Cond.static yX6_compare ∈ WA := List.mem_of_getElem? (i := 683) (by decide +kernel)
theorem wd_684 : Cond.code yX6_compare cX6_compare 26 (some .int) ∈ WA := List.mem_of_getElem? (i := 684) (by decide +kernel)
theorem wd_685 : Cond.methodLink RX6 224 yX6_floor ∈ WA := List.mem_of_getElem? (i := 685) (by decide +kernel)
theorem wd_686 : Cond.static yX6_floor ∈ WA := List.mem_of_getElem? (i := 686) (by decide +kernel)
theorem wd_687 : Cond.code yX6_floor cX6_floor 6 (some .long) ∈ WA := List.mem_of_getElem? (i := 687) (by decide +kernel)
theorem wd_692 : Cond.constantLong RX5 194 (-4000000000000000000) ∈ WA := List.mem_of_getElem? (i := 692) (by decide +kernel)
theorem wd_693 : Cond.methodLink RX5 190 yX5_limitError ∈ WA := List.mem_of_getElem? (i := 693) (by decide +kernel)
theorem wd_694 : Cond.instanceMethod yX5_limitError ∈ WA := List.mem_of_getElem? (i := 694) (by decide +kernel)
theorem wd_695 : Cond.selects RX5 yX5_limitError yX5_limitError ∈ WA := List.mem_of_getElem? (i := 695) (by decide +kernel)
theorem wd_696 : Cond.code yX5_limitError cX5_limitError 3 (some .int) ∈ WA := List.mem_of_getElem? (i := 696) (by decide +kernel)
theorem wd_697 : Cond.methodLink RX5 196 yX0_limit ∈ WA := List.mem_of_getElem? (i := 697) (by decide +kernel)
theorem wd_702 : Cond.constantLong RX6 337 (-4000000000000000000) ∈ WA := List.mem_of_getElem? (i := 702) (by decide +kernel)
theorem wd_703 : Cond.methodLink RX6 334 yX6_refusal ∈ WA := List.mem_of_getElem? (i := 703) (by decide +kernel)
theorem wd_704 : Cond.instanceMethod yX6_refusal ∈ WA := List.mem_of_getElem? (i := 704) (by decide +kernel)
theorem wd_705 : Cond.selects RX6 yX6_refusal yX6_refusal ∈ WA := List.mem_of_getElem? (i := 705) (by decide +kernel)
theorem wd_706 : Cond.code yX6_refusal cX6_refusal 2 (some .int) ∈ WA := List.mem_of_getElem? (i := 706) (by decide +kernel)
theorem wd_711 : Cond.methodLink RX5 200 yX1_asFloat ∈ WA := List.mem_of_getElem? (i := 711) (by decide +kernel)
theorem wd_712 : Cond.instanceMethod yX1_asFloat ∈ WA := List.mem_of_getElem? (i := 712) (by decide +kernel)
theorem wd_713 : Cond.selects RX1 yX1_asFloat yX1_asFloat ∈ WA := List.mem_of_getElem? (i := 713) (by decide +kernel)
theorem wd_714 : Cond.code yX1_asFloat cX1_asFloat 1 (some .float) ∈ WA := List.mem_of_getElem? (i := 714) (by decide +kernel)
theorem wd_715 : Cond.methodLink RX5 204 yX5_bitsOf ∈ WA := List.mem_of_getElem? (i := 715) (by decide +kernel)
theorem wd_716 : Cond.static yX5_bitsOf ∈ WA := List.mem_of_getElem? (i := 716) (by decide +kernel)
theorem wd_717 : Cond.code yX5_bitsOf cX5_bitsOf 4 (some .int) ∈ WA := List.mem_of_getElem? (i := 717) (by decide +kernel)
theorem wd_718 : Cond.constantFloat RX5 256 (1258291200) ∈ WA := List.mem_of_getElem? (i := 718) (by decide +kernel)
theorem wd_719 : Cond.constant RX5 257 (-2147483648) ∈ WA := List.mem_of_getElem? (i := 719) (by decide +kernel)
theorem wd_724 : Cond.methodLink RX6 339 yJxf58ca_floatToIntBits_5c35a ∈ WA := List.mem_of_getElem? (i := 724) (by decide +kernel)
theorem wd_725 : Cond.static yJxf58ca_floatToIntBits_5c35a ∈ WA := List.mem_of_getElem? (i := 725) (by decide +kernel)
theorem wd_726 : Cond.initialized RJxf58ca ∈ WA := List.mem_of_getElem? (i := 726) (by decide +kernel)
theorem wd_727 : Cond.code yJxf58ca_floatToIntBits_5c35a cJxf58ca_floatToIntBits_5c35a 1 (some .int) ∈ WA := List.mem_of_getElem? (i := 727) (by decide +kernel)
theorem wd_732 : Cond.constant RJxf58ca 77 (2143289344) ∈ WA := List.mem_of_getElem? (i := 732) (by decide +kernel)
theorem wd_733 : Cond.methodLink RJxf58ca 59 yJxf58ca_isNaN_12338 ∈ WA := List.mem_of_getElem? (i := 733) (by decide +kernel)
theorem wd_734 : Cond.static yJxf58ca_isNaN_12338 ∈ WA := List.mem_of_getElem? (i := 734) (by decide +kernel)
theorem wd_735 : Cond.code yJxf58ca_isNaN_12338 cJxf58ca_isNaN_12338 1 (some .boolean) ∈ WA := List.mem_of_getElem? (i := 735) (by decide +kernel)
theorem wd_740 : Cond.methodLink RX5 208 yX0_carries ∈ WA := List.mem_of_getElem? (i := 740) (by decide +kernel)
theorem wd_741 : Cond.instanceMethod yX0_carries ∈ WA := List.mem_of_getElem? (i := 741) (by decide +kernel)
theorem wd_742 : Cond.selects RX0 yX0_carries yX0_carries ∈ WA := List.mem_of_getElem? (i := 742) (by decide +kernel)
theorem wd_743 : Cond.code yX0_carries cX0_carries 7 (some .boolean) ∈ WA := List.mem_of_getElem? (i := 743) (by decide +kernel)
theorem wd_752 : Cond.methodLink RX5 211 yX0_takeLimitLoads ∈ WA := List.mem_of_getElem? (i := 752) (by decide +kernel)
theorem wd_753 : Cond.instanceMethod yX0_takeLimitLoads ∈ WA := List.mem_of_getElem? (i := 753) (by decide +kernel)
theorem wd_754 : Cond.selects RX0 yX0_takeLimitLoads yX0_takeLimitLoads ∈ WA := List.mem_of_getElem? (i := 754) (by decide +kernel)
theorem wd_755 : Cond.code yX0_takeLimitLoads cX0_takeLimitLoads 3 none ∈ WA := List.mem_of_getElem? (i := 755) (by decide +kernel)
theorem wd_756 : Cond.fieldLink RX0 105 "FrameCollapse$Balance" "limitCase" "I" ∈ WA := List.mem_of_getElem? (i := 756) (by decide +kernel)
theorem wd_757 : Cond.fieldLink RX0 108 "FrameCollapse$Balance" "limitOne" "J" ∈ WA := List.mem_of_getElem? (i := 757) (by decide +kernel)
theorem wd_758 : Cond.fieldLink RX0 112 "FrameCollapse$Balance" "limitUnit" "J" ∈ WA := List.mem_of_getElem? (i := 758) (by decide +kernel)
theorem wd_759 : Cond.methodLink RX5 215 yX0_findMoments ∈ WA := List.mem_of_getElem? (i := 759) (by decide +kernel)
theorem wd_760 : Cond.instanceMethod yX0_findMoments ∈ WA := List.mem_of_getElem? (i := 760) (by decide +kernel)
theorem wd_761 : Cond.selects RX0 yX0_findMoments yX0_findMoments ∈ WA := List.mem_of_getElem? (i := 761) (by decide +kernel)
theorem wd_762 : Cond.code yX0_findMoments cX0_findMoments 12 none ∈ WA := List.mem_of_getElem? (i := 762) (by decide +kernel)
theorem wd_763 : Cond.methodLink RX0 115 yX3_twistOf ∈ WA := List.mem_of_getElem? (i := 763) (by decide +kernel)
theorem wd_764 : Cond.methodLink RX0 118 yX0_limitWork ∈ WA := List.mem_of_getElem? (i := 764) (by decide +kernel)
theorem wd_765 : Cond.instanceMethod yX0_limitWork ∈ WA := List.mem_of_getElem? (i := 765) (by decide +kernel)
theorem wd_766 : Cond.selects RX0 yX0_limitWork yX0_limitWork ∈ WA := List.mem_of_getElem? (i := 766) (by decide +kernel)
theorem wd_767 : Cond.code yX0_limitWork cX0_limitWork 2 (some .long) ∈ WA := List.mem_of_getElem? (i := 767) (by decide +kernel)
theorem wd_772 : Cond.methodLink RX6 352 yX6_layMoments ∈ WA := List.mem_of_getElem? (i := 772) (by decide +kernel)
theorem wd_773 : Cond.instanceMethod yX6_layMoments ∈ WA := List.mem_of_getElem? (i := 773) (by decide +kernel)
theorem wd_774 : Cond.selects RX6 yX6_layMoments yX6_layMoments ∈ WA := List.mem_of_getElem? (i := 774) (by decide +kernel)
theorem wd_775 : Cond.code yX6_layMoments cX6_layMoments 10 none ∈ WA := List.mem_of_getElem? (i := 775) (by decide +kernel)
theorem wd_776 : Cond.methodLink RX6 348 yX6_takeMoments ∈ WA := List.mem_of_getElem? (i := 776) (by decide +kernel)
theorem wd_777 : Cond.instanceMethod yX6_takeMoments ∈ WA := List.mem_of_getElem? (i := 777) (by decide +kernel)
theorem wd_778 : Cond.selects RX6 yX6_takeMoments yX6_takeMoments ∈ WA := List.mem_of_getElem? (i := 778) (by decide +kernel)
theorem wd_779 : Cond.code yX6_takeMoments cX6_takeMoments 5 none ∈ WA := List.mem_of_getElem? (i := 779) (by decide +kernel)
theorem wd_780 : Cond.methodLink RX6 345 yX6_takeMoment ∈ WA := List.mem_of_getElem? (i := 780) (by decide +kernel)
theorem wd_781 : Cond.instanceMethod yX6_takeMoment ∈ WA := List.mem_of_getElem? (i := 781) (by decide +kernel)
theorem wd_782 : Cond.selects RX6 yX6_takeMoment yX6_takeMoment ∈ WA := List.mem_of_getElem? (i := 782) (by decide +kernel)
theorem wd_783 : Cond.code yX6_takeMoment cX6_takeMoment 11 none ∈ WA := List.mem_of_getElem? (i := 783) (by decide +kernel)
theorem wd_788 : Cond.methodLink RX5 219 yX0_yieldingEnds ∈ WA := List.mem_of_getElem? (i := 788) (by decide +kernel)
theorem wd_789 : Cond.instanceMethod yX0_yieldingEnds ∈ WA := List.mem_of_getElem? (i := 789) (by decide +kernel)
theorem wd_790 : Cond.selects RX0 yX0_yieldingEnds yX0_yieldingEnds ∈ WA := List.mem_of_getElem? (i := 790) (by decide +kernel)
theorem wd_791 : Cond.code yX0_yieldingEnds cX0_yieldingEnds 4 (some .int) ∈ WA := List.mem_of_getElem? (i := 791) (by decide +kernel)
theorem wd_792 : Cond.methodLink RX0 121 yX0_findMoments ∈ WA := List.mem_of_getElem? (i := 792) (by decide +kernel)
theorem wd_793 : Cond.methodLink RX0 125 yX1_isWhole ∈ WA := List.mem_of_getElem? (i := 793) (by decide +kernel)
theorem wd_794 : Cond.instanceMethod yX1_isWhole ∈ WA := List.mem_of_getElem? (i := 794) (by decide +kernel)
theorem wd_795 : Cond.selects RX1 yX1_isWhole yX1_isWhole ∈ WA := List.mem_of_getElem? (i := 795) (by decide +kernel)
theorem wd_796 : Cond.code yX1_isWhole cX1_isWhole 2 (some .boolean) ∈ WA := List.mem_of_getElem? (i := 796) (by decide +kernel)
theorem wd_805 : Cond.methodLink RX5 222 yX0_criticalCount ∈ WA := List.mem_of_getElem? (i := 805) (by decide +kernel)
theorem wd_806 : Cond.instanceMethod yX0_criticalCount ∈ WA := List.mem_of_getElem? (i := 806) (by decide +kernel)
theorem wd_807 : Cond.selects RX0 yX0_criticalCount yX0_criticalCount ∈ WA := List.mem_of_getElem? (i := 807) (by decide +kernel)
theorem wd_808 : Cond.code yX0_criticalCount cX0_criticalCount 3 (some .int) ∈ WA := List.mem_of_getElem? (i := 808) (by decide +kernel)
theorem wd_809 : Cond.methodLink RX0 129 yX0_isCritical ∈ WA := List.mem_of_getElem? (i := 809) (by decide +kernel)
theorem wd_810 : Cond.instanceMethod yX0_isCritical ∈ WA := List.mem_of_getElem? (i := 810) (by decide +kernel)
theorem wd_811 : Cond.selects RX0 yX0_isCritical yX0_isCritical ∈ WA := List.mem_of_getElem? (i := 811) (by decide +kernel)
theorem wd_812 : Cond.code yX0_isCritical cX0_isCritical 2 (some .boolean) ∈ WA := List.mem_of_getElem? (i := 812) (by decide +kernel)
theorem wd_813 : Cond.methodLink RX5 225 yX0_lowestCritical ∈ WA := List.mem_of_getElem? (i := 813) (by decide +kernel)
theorem wd_814 : Cond.instanceMethod yX0_lowestCritical ∈ WA := List.mem_of_getElem? (i := 814) (by decide +kernel)
theorem wd_815 : Cond.selects RX0 yX0_lowestCritical yX0_lowestCritical ∈ WA := List.mem_of_getElem? (i := 815) (by decide +kernel)
theorem wd_816 : Cond.code yX0_lowestCritical cX0_lowestCritical 2 (some .int) ∈ WA := List.mem_of_getElem? (i := 816) (by decide +kernel)
theorem wd_825 : Cond.methodLink RX5 228 yX0_spareStrength ∈ WA := List.mem_of_getElem? (i := 825) (by decide +kernel)
theorem wd_826 : Cond.instanceMethod yX0_spareStrength ∈ WA := List.mem_of_getElem? (i := 826) (by decide +kernel)
theorem wd_827 : Cond.selects RX0 yX0_spareStrength yX0_spareStrength ∈ WA := List.mem_of_getElem? (i := 827) (by decide +kernel)
theorem wd_828 : Cond.code yX0_spareStrength cX0_spareStrength 4 (some .int) ∈ WA := List.mem_of_getElem? (i := 828) (by decide +kernel)
theorem wd_829 : Cond.methodLink RX0 132 yX0_range ∈ WA := List.mem_of_getElem? (i := 829) (by decide +kernel)
theorem wd_830 : Cond.methodLink RX0 136 yX1_isSame ∈ WA := List.mem_of_getElem? (i := 830) (by decide +kernel)
theorem wd_831 : Cond.instanceMethod yX1_isSame ∈ WA := List.mem_of_getElem? (i := 831) (by decide +kernel)
theorem wd_832 : Cond.selects RX1 yX1_isSame yX1_isSame ∈ WA := List.mem_of_getElem? (i := 832) (by decide +kernel)
theorem wd_833 : Cond.code yX1_isSame cX1_isSame 2 (some .boolean) ∈ WA := List.mem_of_getElem? (i := 833) (by decide +kernel)
theorem wd_834 : Cond.methodLink RX1 30 yX1_isBelow ∈ WA := List.mem_of_getElem? (i := 834) (by decide +kernel)
theorem wd_843 : Cond.methodLink RX5 231 yX0_weakestBar ∈ WA := List.mem_of_getElem? (i := 843) (by decide +kernel)
theorem wd_844 : Cond.instanceMethod yX0_weakestBar ∈ WA := List.mem_of_getElem? (i := 844) (by decide +kernel)
theorem wd_845 : Cond.selects RX0 yX0_weakestBar yX0_weakestBar ∈ WA := List.mem_of_getElem? (i := 845) (by decide +kernel)
theorem wd_846 : Cond.code yX0_weakestBar cX0_weakestBar 4 (some .int) ∈ WA := List.mem_of_getElem? (i := 846) (by decide +kernel)
theorem wd_855 : Cond.methodLink RX5 234 yX2_copyFrom ∈ WA := List.mem_of_getElem? (i := 855) (by decide +kernel)
theorem wd_856 : Cond.instanceMethod yX2_copyFrom ∈ WA := List.mem_of_getElem? (i := 856) (by decide +kernel)
theorem wd_857 : Cond.selects RX2 yX2_copyFrom yX2_copyFrom ∈ WA := List.mem_of_getElem? (i := 857) (by decide +kernel)
theorem wd_858 : Cond.code yX2_copyFrom cX2_copyFrom 3 none ∈ WA := List.mem_of_getElem? (i := 858) (by decide +kernel)
theorem wd_859 : Cond.methodLink RX2 42 arraycopyName ∈ WA := List.mem_of_getElem? (i := 859) (by decide +kernel)
theorem ic_m1 : Int32.ofInt (-1) = (-1 : Int32) := by decide
theorem ic_0 : Int32.ofInt (0) = (0 : Int32) := by decide
theorem ic_1 : Int32.ofInt (1) = (1 : Int32) := by decide
theorem ic_2 : Int32.ofInt (2) = (2 : Int32) := by decide
theorem ic_3 : Int32.ofInt (3) = (3 : Int32) := by decide
theorem ic_4 : Int32.ofInt (4) = (4 : Int32) := by decide
theorem ic_5 : Int32.ofInt (5) = (5 : Int32) := by decide
theorem bp_m99 : (Int8.ofInt (-99)).toInt32 = (-99 : Int32) := by decide
theorem bp_m6 : (Int8.ofInt (-6)).toInt32 = (-6 : Int32) := by decide
theorem bp_m5 : (Int8.ofInt (-5)).toInt32 = (-5 : Int32) := by decide
theorem bp_m4 : (Int8.ofInt (-4)).toInt32 = (-4 : Int32) := by decide
theorem bp_m3 : (Int8.ofInt (-3)).toInt32 = (-3 : Int32) := by decide
theorem bp_m2 : (Int8.ofInt (-2)).toInt32 = (-2 : Int32) := by decide
theorem bp_6 : (Int8.ofInt (6)).toInt32 = (6 : Int32) := by decide
theorem bp_7 : (Int8.ofInt (7)).toInt32 = (7 : Int32) := by decide
theorem bp_8 : (Int8.ofInt (8)).toInt32 = (8 : Int32) := by decide
theorem bp_9 : (Int8.ofInt (9)).toInt32 = (9 : Int32) := by decide
theorem bp_12 : (Int8.ofInt (12)).toInt32 = (12 : Int32) := by decide
theorem bp_13 : (Int8.ofInt (13)).toInt32 = (13 : Int32) := by decide
theorem bp_14 : (Int8.ofInt (14)).toInt32 = (14 : Int32) := by decide
theorem bp_15 : (Int8.ofInt (15)).toInt32 = (15 : Int32) := by decide
theorem bp_16 : (Int8.ofInt (16)).toInt32 = (16 : Int32) := by decide
theorem bp_21 : (Int8.ofInt (21)).toInt32 = (21 : Int32) := by decide
theorem bp_22 : (Int8.ofInt (22)).toInt32 = (22 : Int32) := by decide
theorem bp_23 : (Int8.ofInt (23)).toInt32 = (23 : Int32) := by decide
theorem bp_32 : (Int8.ofInt (32)).toInt32 = (32 : Int32) := by decide
theorem bp_39 : (Int8.ofInt (39)).toInt32 = (39 : Int32) := by decide
theorem bp_42 : (Int8.ofInt (42)).toInt32 = (42 : Int32) := by decide
theorem bp_78 : (Int8.ofInt (78)).toInt32 = (78 : Int32) := by decide
theorem bp_81 : (Int8.ofInt (81)).toInt32 = (81 : Int32) := by decide
theorem bp_82 : (Int8.ofInt (82)).toInt32 = (82 : Int32) := by decide
theorem bp_83 : (Int8.ofInt (83)).toInt32 = (83 : Int32) := by decide
theorem bp_99 : (Int8.ofInt (99)).toInt32 = (99 : Int32) := by decide
theorem bp_100 : (Int8.ofInt (100)).toInt32 = (100 : Int32) := by decide
theorem bp_126 : (Int8.ofInt (126)).toInt32 = (126 : Int32) := by decide
theorem bp_127 : (Int8.ofInt (127)).toInt32 = (127 : Int32) := by decide
theorem sp_180 : (Int16.ofInt (180)).toInt32 = (180 : Int32) := by decide
theorem sp_200 : (Int16.ofInt (200)).toInt32 = (200 : Int32) := by decide
theorem sp_252 : (Int16.ofInt (252)).toInt32 = (252 : Int32) := by decide
theorem sp_256 : (Int16.ofInt (256)).toInt32 = (256 : Int32) := by decide
theorem sp_924 : (Int16.ofInt (924)).toInt32 = (924 : Int32) := by decide
theorem sp_4096 : (Int16.ofInt (4096)).toInt32 = (4096 : Int32) := by decide
theorem sp_20000 : (Int16.ofInt (20000)).toInt32 = (20000 : Int32) := by decide
theorem lc_0 : Int64.ofNat ((0 : Fin 2) : Nat) = (0 : Int64) := by decide
theorem lc_1 : Int64.ofNat ((1 : Fin 2) : Nat) = (1 : Int64) := by decide
theorem tg_0 : tg 0 = 0 := by decide
theorem ln_0 : ln 0 = 5 := by decide
theorem tg_1 : tg 1 = 4 := by decide
theorem ln_1 : ln 1 = 2 := by decide
theorem tg_2 : tg 2 = 0 := by decide
theorem ln_2 : ln 2 = 2 := by decide
theorem tg_5 : tg 5 = 0 := by decide
theorem ln_5 : ln 5 = 4 := by decide
theorem tg_6 : tg 6 = 0 := by decide
theorem ln_6 : ln 6 = 3 := by decide
theorem tg_7 : tg 7 = 0 := by decide
theorem ln_7 : ln 7 = 0 := by decide
theorem tg_8 : tg 8 = 0 := by decide
theorem ln_8 : ln 8 = 1 := by decide
theorem tg_9 : tg 9 = 0 := by decide
theorem ln_9 : ln 9 = 1 := by decide
theorem tg_10 : tg 10 = 0 := by decide
theorem ln_10 : ln 10 = 1 := by decide
theorem tg_11 : tg 11 = 0 := by decide
theorem ln_11 : ln 11 = 1 := by decide
theorem tg_12 : tg 12 = 0 := by decide
theorem ln_12 : ln 12 = 1 := by decide
theorem tg_13 : tg 13 = 5 := by decide
theorem ln_13 : ln 13 = 6 := by decide
theorem tg_16 : tg 16 = 6 := by decide
theorem ln_16 : ln 16 = 78 := by decide
theorem tg_17 : tg 17 = 5 := by decide
theorem ln_17 : ln 17 = 2 := by decide
theorem tg_18 : tg 18 = 6 := by decide
theorem ln_18 : ln 18 = 924 := by decide
theorem tg_19 : tg 19 = 6 := by decide
theorem ln_19 : ln 19 = 3 := by decide
theorem tg_20 : tg 20 = 1 := by decide
theorem ln_20 : ln 20 = 7 := by decide
theorem tg_21 : tg 21 = 1 := by decide
theorem ln_21 : ln 21 = 7 := by decide
theorem tg_22 : tg 22 = 1 := by decide
theorem ln_22 : ln 22 = 7 := by decide
theorem tg_23 : tg 23 = 1 := by decide
theorem ln_23 : ln 23 = 6 := by decide
theorem tg_24 : tg 24 = 1 := by decide
theorem ln_24 : ln 24 = 6 := by decide
theorem tg_25 : tg 25 = 1 := by decide
theorem ln_25 : ln 25 = 6 := by decide
theorem tg_56 : tg 56 = 1 := by decide
theorem ln_56 : ln 56 = 7 := by decide
theorem tg_59 : tg 59 = 1 := by decide
theorem ln_59 : ln 59 = 924 := by decide
theorem tg_60 : tg 60 = 1 := by decide
theorem ln_60 : ln 60 = 6 := by decide
theorem tg_61 : tg 61 = 2 := by decide
theorem ln_61 : ln 61 = 924 := by decide
theorem tg_1067 : tg 1067 = 0 := by decide
theorem ln_1067 : ln 1067 = 6 := by decide
theorem tg_1068 : tg 1068 = 1 := by decide
theorem ln_1068 : ln 1068 = 7 := by decide
theorem tg_1069 : tg 1069 = 1 := by decide
theorem ln_1069 : ln 1069 = 7 := by decide
theorem tg_1070 : tg 1070 = 1 := by decide
theorem ln_1070 : ln 1070 = 7 := by decide
theorem tg_1071 : tg 1071 = 1 := by decide
theorem ln_1071 : ln 1071 = 6 := by decide
theorem tg_1072 : tg 1072 = 1 := by decide
theorem ln_1072 : ln 1072 = 6 := by decide
theorem tg_1073 : tg 1073 = 1 := by decide
theorem ln_1073 : ln 1073 = 6 := by decide
theorem tg_1074 : tg 1074 = 1 := by decide
theorem ln_1074 : ln 1074 = 42 := by decide
theorem tg_1075 : tg 1075 = 1 := by decide
theorem ln_1075 : ln 1075 = 14 := by decide
theorem tg_1076 : tg 1076 = 1 := by decide
theorem ln_1076 : ln 1076 = 21 := by decide
theorem tg_1077 : tg 1077 = 2 := by decide
theorem ln_1077 : ln 1077 = 252 := by decide
theorem tg_1078 : tg 1078 = 2 := by decide
theorem ln_1078 : ln 1078 = 252 := by decide
theorem tg_1079 : tg 1079 = 1 := by decide
theorem ln_1079 : ln 1079 = 12 := by decide
theorem tg_1080 : tg 1080 = 1 := by decide
theorem ln_1080 : ln 1080 = 924 := by decide
theorem tg_1081 : tg 1081 = 2 := by decide
theorem ln_1081 : ln 1081 = 11088 := by decide
theorem tg_1082 : tg 1082 = 3 := by decide
theorem ln_1082 : ln 1082 = 4096 := by decide
theorem tg_1083 : tg 1083 = 1 := by decide
theorem ln_1083 : ln 1083 = 13 := by decide
theorem tg_1084 : tg 1084 = 2 := by decide
theorem ln_1084 : ln 1084 = 21 := by decide
theorem tg_1085 : tg 1085 = 2 := by decide
theorem ln_1085 : ln 1085 = 12 := by decide
theorem tg_1086 : tg 1086 = 2 := by decide
theorem ln_1086 : ln 1086 = 3 := by decide
theorem tg_1087 : tg 1087 = 2 := by decide
theorem ln_1087 : ln 1087 = 180 := by decide
theorem tg_1088 : tg 1088 = 2 := by decide
theorem ln_1088 : ln 1088 = 180 := by decide
theorem tg_1089 : tg 1089 = 1 := by decide
theorem ln_1089 : ln 1089 = 15 := by decide
theorem tg_1090 : tg 1090 = 2 := by decide
theorem ln_1090 : ln 1090 = 3 := by decide
theorem tg_1091 : tg 1091 = 1 := by decide
theorem ln_1091 : ln 1091 = 12 := by decide
theorem tg_1092 : tg 1092 = 2 := by decide
theorem ln_1092 : ln 1092 = 180 := by decide
theorem tg_1093 : tg 1093 = 2 := by decide
theorem ln_1093 : ln 1093 = 15 := by decide
theorem tg_1094 : tg 1094 = 2 := by decide
theorem ln_1094 : ln 1094 = 2 := by decide
theorem tg_1095 : tg 1095 = 2 := by decide
theorem ln_1095 : ln 1095 = 2 := by decide
theorem tg_1096 : tg 1096 = 3 := by decide
theorem ln_1096 : ln 1096 = 3 := by decide
theorem tg_1097 : tg 1097 = 1 := by decide
theorem ln_1097 : ln 1097 = 3 := by decide
theorem tg_1098 : tg 1098 = 2 := by decide
theorem ln_1098 : ln 1098 = 6 := by decide
theorem tg_1099 : tg 1099 = 2 := by decide
theorem ln_1099 : ln 1099 = 6 := by decide
theorem tg_1100 : tg 1100 = 2 := by decide
theorem ln_1100 : ln 1100 = 12 := by decide
theorem tg_1101 : tg 1101 = 2 := by decide
theorem ln_1101 : ln 1101 = 12 := by decide
theorem tg_1102 : tg 1102 = 2 := by decide
theorem ln_1102 : ln 1102 = 12 := by decide
theorem tg_1103 : tg 1103 = 2 := by decide
theorem ln_1103 : ln 1103 = 12 := by decide
theorem tg_1104 : tg 1104 = 1 := by decide
theorem ln_1104 : ln 1104 = 166 := by decide
theorem tg_1105 : tg 1105 = 3 := by decide
theorem ln_1105 : ln 1105 = 2 := by decide
theorem rf_0_0 : rf 0 0 = 2 := by decide +kernel
theorem rf_0_1 : rf 0 1 = 1 := by decide +kernel
theorem rf_0_2 : rf 0 2 = 5 := by decide +kernel
theorem rf_0_3 : rf 0 3 = 6 := by decide +kernel
theorem rf_0_4 : rf 0 4 = 7 := by decide +kernel
theorem rf_0_5 : rf 0 5 = 8 := by decide +kernel
theorem rf_2_2 : rf 2 2 = 20 := by decide +kernel
theorem rf_2_3 : rf 2 3 = 21 := by decide +kernel
theorem rf_2_4 : rf 2 4 = 22 := by decide +kernel
theorem rf_2_5 : rf 2 5 = 23 := by decide +kernel
theorem rf_2_6 : rf 2 6 = 24 := by decide +kernel
theorem rf_2_7 : rf 2 7 = 25 := by decide +kernel
theorem rf_2_8 : rf 2 8 = 13 := by decide +kernel
theorem rf_5_0 : rf 5 0 = 16 := by decide +kernel
theorem rf_5_1 : rf 5 1 = 56 := by decide +kernel
theorem rf_5_2 : rf 5 2 = 17 := by decide +kernel
theorem rf_6_0 : rf 6 0 = 5 := by decide +kernel
theorem rf_6_1 : rf 6 1 = 59 := by decide +kernel
theorem rf_6_2 : rf 6 2 = 18 := by decide +kernel
theorem rf_7_0 : rf 7 0 = 6 := by decide +kernel
theorem rf_7_1 : rf 7 1 = 60 := by decide +kernel
theorem rf_7_3 : rf 7 3 = 19 := by decide +kernel
theorem rf_7_4 : rf 7 4 = 61 := by decide +kernel
theorem rf_7_5 : rf 7 5 = 9 := by decide +kernel
theorem rf_7_6 : rf 7 6 = 10 := by decide +kernel
theorem rf_7_7 : rf 7 7 = 11 := by decide +kernel
theorem rf_7_8 : rf 7 8 = 12 := by decide +kernel
theorem rf_1067_1 : rf 1067 1 = 1068 := by decide +kernel
theorem rf_1067_2 : rf 1067 2 = 1069 := by decide +kernel
theorem rf_1067_3 : rf 1067 3 = 1070 := by decide +kernel
theorem rf_1067_5 : rf 1067 5 = 1071 := by decide +kernel
theorem rf_1067_6 : rf 1067 6 = 1072 := by decide +kernel
theorem rf_1067_7 : rf 1067 7 = 1073 := by decide +kernel
theorem rf_1067_8 : rf 1067 8 = 1074 := by decide +kernel
theorem rf_1067_12 : rf 1067 12 = 1075 := by decide +kernel
theorem rf_1067_13 : rf 1067 13 = 1076 := by decide +kernel
theorem rf_1067_14 : rf 1067 14 = 1077 := by decide +kernel
theorem rf_1067_15 : rf 1067 15 = 1078 := by decide +kernel
theorem rf_1067_16 : rf 1067 16 = 1079 := by decide +kernel
theorem rf_1067_18 : rf 1067 18 = 1080 := by decide +kernel
theorem rf_1067_19 : rf 1067 19 = 1081 := by decide +kernel
theorem rf_1067_20 : rf 1067 20 = 1082 := by decide +kernel
theorem rf_1067_21 : rf 1067 21 = 1083 := by decide +kernel
theorem rf_1067_22 : rf 1067 22 = 1084 := by decide +kernel
theorem rf_1067_23 : rf 1067 23 = 1085 := by decide +kernel
theorem rf_1067_24 : rf 1067 24 = 1086 := by decide +kernel
theorem rf_1067_26 : rf 1067 26 = 1087 := by decide +kernel
theorem rf_1067_27 : rf 1067 27 = 1088 := by decide +kernel
theorem rf_1067_28 : rf 1067 28 = 1089 := by decide +kernel
theorem rf_1067_32 : rf 1067 32 = 1090 := by decide +kernel
theorem rf_1067_35 : rf 1067 35 = 1091 := by decide +kernel
theorem rf_1067_37 : rf 1067 37 = 1092 := by decide +kernel
theorem rf_1067_38 : rf 1067 38 = 1093 := by decide +kernel
theorem rf_1067_41 : rf 1067 41 = 1094 := by decide +kernel
theorem rf_1067_42 : rf 1067 42 = 1095 := by decide +kernel
theorem rf_1067_43 : rf 1067 43 = 1096 := by decide +kernel
theorem rf_1067_44 : rf 1067 44 = 1097 := by decide +kernel
theorem rf_1067_45 : rf 1067 45 = 1098 := by decide +kernel
theorem rf_1067_46 : rf 1067 46 = 1099 := by decide +kernel
theorem rf_1067_47 : rf 1067 47 = 1100 := by decide +kernel
theorem rf_1067_48 : rf 1067 48 = 1101 := by decide +kernel
theorem rf_1067_49 : rf 1067 49 = 1102 := by decide +kernel
theorem rf_1067_50 : rf 1067 50 = 1103 := by decide +kernel
theorem rf_1067_51 : rf 1067 51 = 1104 := by decide +kernel
theorem rf_1067_52 : rf 1067 52 = 1105 := by decide +kernel
theorem ft_0_0 : ft 0 0 = 2 := by decide +kernel
theorem ft_0_1 : ft 0 1 = 2 := by decide +kernel
theorem ft_0_2 : ft 0 2 = 0 := by decide +kernel
theorem ft_0_3 : ft 0 3 = 2 := by decide +kernel
theorem ft_0_4 : ft 0 4 = 2 := by decide +kernel
theorem ft_0_5 : ft 0 5 = 2 := by decide +kernel
theorem ft_0_6 : ft 0 6 = 2 := by decide +kernel
theorem ft_0_7 : ft 0 7 = 2 := by decide +kernel
theorem ft_0_8 : ft 0 8 = 2 := by decide +kernel
theorem ft_0_9 : ft 0 9 = 0 := by decide +kernel
theorem ft_0_10 : ft 0 10 = 1 := by decide +kernel
theorem ft_0_11 : ft 0 11 = 1 := by decide +kernel
theorem ft_1_0 : ft 1 0 = 1 := by decide +kernel
theorem ft_1_1 : ft 1 1 = 1 := by decide +kernel
theorem ft_2_0 : ft 2 0 = 0 := by decide +kernel
theorem ft_2_1 : ft 2 1 = 0 := by decide +kernel
theorem ft_2_2 : ft 2 2 = 2 := by decide +kernel
theorem ft_2_3 : ft 2 3 = 2 := by decide +kernel
theorem ft_2_4 : ft 2 4 = 2 := by decide +kernel
theorem ft_2_5 : ft 2 5 = 2 := by decide +kernel
theorem ft_2_6 : ft 2 6 = 2 := by decide +kernel
theorem ft_2_7 : ft 2 7 = 2 := by decide +kernel
theorem ft_2_8 : ft 2 8 = 2 := by decide +kernel
theorem ft_3_0 : ft 3 0 = 2 := by decide +kernel
theorem ft_3_1 : ft 3 1 = 2 := by decide +kernel
theorem ft_3_2 : ft 3 2 = 2 := by decide +kernel
theorem ft_3_3 : ft 3 3 = 0 := by decide +kernel
theorem ft_4_0 : ft 4 0 = 2 := by decide +kernel
theorem ft_4_1 : ft 4 1 = 2 := by decide +kernel
theorem ft_4_2 : ft 4 2 = 2 := by decide +kernel
theorem ft_4_3 : ft 4 3 = 0 := by decide +kernel
theorem ft_4_4 : ft 4 4 = 0 := by decide +kernel
theorem ft_4_5 : ft 4 5 = 0 := by decide +kernel
theorem ft_4_6 : ft 4 6 = 0 := by decide +kernel
theorem ft_5_0 : ft 5 0 = 2 := by decide +kernel
theorem ft_5_1 : ft 5 1 = 2 := by decide +kernel
theorem ft_5_2 : ft 5 2 = 2 := by decide +kernel
theorem ft_5_3 : ft 5 3 = 2 := by decide +kernel
theorem ft_5_4 : ft 5 4 = 2 := by decide +kernel
theorem ft_5_5 : ft 5 5 = 2 := by decide +kernel
theorem ft_5_6 : ft 5 6 = 0 := by decide +kernel
theorem ft_5_7 : ft 5 7 = 0 := by decide +kernel
theorem ft_5_8 : ft 5 8 = 0 := by decide +kernel
theorem ft_6_0 : ft 6 0 = 0 := by decide +kernel
theorem ft_6_1 : ft 6 1 = 2 := by decide +kernel
theorem ft_6_2 : ft 6 2 = 2 := by decide +kernel
theorem ft_6_3 : ft 6 3 = 2 := by decide +kernel
theorem ft_6_4 : ft 6 4 = 0 := by decide +kernel
theorem ft_6_5 : ft 6 5 = 2 := by decide +kernel
theorem ft_6_6 : ft 6 6 = 2 := by decide +kernel
theorem ft_6_7 : ft 6 7 = 2 := by decide +kernel
theorem ft_6_8 : ft 6 8 = 2 := by decide +kernel
theorem ft_6_9 : ft 6 9 = 0 := by decide +kernel
theorem ft_6_10 : ft 6 10 = 0 := by decide +kernel
theorem ft_6_11 : ft 6 11 = 0 := by decide +kernel
theorem ft_6_12 : ft 6 12 = 2 := by decide +kernel
theorem ft_6_13 : ft 6 13 = 2 := by decide +kernel
theorem ft_6_14 : ft 6 14 = 2 := by decide +kernel
theorem ft_6_15 : ft 6 15 = 2 := by decide +kernel
theorem ft_6_16 : ft 6 16 = 2 := by decide +kernel
theorem ft_6_17 : ft 6 17 = 0 := by decide +kernel
theorem ft_6_18 : ft 6 18 = 2 := by decide +kernel
theorem ft_6_19 : ft 6 19 = 2 := by decide +kernel
theorem ft_6_20 : ft 6 20 = 2 := by decide +kernel
theorem ft_6_21 : ft 6 21 = 2 := by decide +kernel
theorem ft_6_22 : ft 6 22 = 2 := by decide +kernel
theorem ft_6_23 : ft 6 23 = 2 := by decide +kernel
theorem ft_6_24 : ft 6 24 = 2 := by decide +kernel
theorem ft_6_25 : ft 6 25 = 1 := by decide +kernel
theorem ft_6_26 : ft 6 26 = 2 := by decide +kernel
theorem ft_6_27 : ft 6 27 = 2 := by decide +kernel
theorem ft_6_28 : ft 6 28 = 2 := by decide +kernel
theorem ft_6_29 : ft 6 29 = 1 := by decide +kernel
theorem ft_6_30 : ft 6 30 = 0 := by decide +kernel
theorem ft_6_31 : ft 6 31 = 0 := by decide +kernel
theorem ft_6_32 : ft 6 32 = 2 := by decide +kernel
theorem ft_6_33 : ft 6 33 = 1 := by decide +kernel
theorem ft_6_34 : ft 6 34 = 0 := by decide +kernel
theorem ft_6_35 : ft 6 35 = 2 := by decide +kernel
theorem ft_6_36 : ft 6 36 = 0 := by decide +kernel
theorem ft_6_37 : ft 6 37 = 2 := by decide +kernel
theorem ft_6_38 : ft 6 38 = 2 := by decide +kernel
theorem ft_6_39 : ft 6 39 = 0 := by decide +kernel
theorem ft_6_40 : ft 6 40 = 0 := by decide +kernel
theorem ft_6_41 : ft 6 41 = 2 := by decide +kernel
theorem ft_6_42 : ft 6 42 = 2 := by decide +kernel
theorem ft_6_43 : ft 6 43 = 2 := by decide +kernel
theorem ft_6_44 : ft 6 44 = 2 := by decide +kernel
theorem ft_6_45 : ft 6 45 = 2 := by decide +kernel
theorem ft_6_46 : ft 6 46 = 2 := by decide +kernel
theorem ft_6_47 : ft 6 47 = 2 := by decide +kernel
theorem ft_6_48 : ft 6 48 = 2 := by decide +kernel
theorem ft_6_49 : ft 6 49 = 2 := by decide +kernel
theorem ft_6_50 : ft 6 50 = 2 := by decide +kernel
theorem ft_6_51 : ft 6 51 = 2 := by decide +kernel
theorem ft_6_52 : ft 6 52 = 2 := by decide +kernel
