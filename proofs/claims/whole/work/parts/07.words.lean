theorem mt_122 : Cond.laysFinal RX0 "WordsLent$Counted" "days" "[I" ∈ mm_tb := mm_tb_in (List.mem_of_getElem? (i := 122) (by decide +kernel)) rfl
theorem mt_124 : Cond.laysFinal RX0 "WordsLent$Counted" "whichWords" "[I" ∈ mm_tb := mm_tb_in (List.mem_of_getElem? (i := 124) (by decide +kernel)) rfl
theorem mt_126 : Cond.laysFinal RX0 "WordsLent$Counted" "lefts" "[I" ∈ mm_tb := mm_tb_in (List.mem_of_getElem? (i := 126) (by decide +kernel)) rfl
theorem mt_128 : Cond.lays RX0 "WordsLent$Counted" "held" "I" ∈ mm_tb := mm_tb_in (List.mem_of_getElem? (i := 128) (by decide +kernel)) rfl
theorem mt_215 : Cond.lays RX1 "WordsLent$Course" "words" "I" ∈ mm_tb := mm_tb_in (List.mem_of_getElem? (i := 215) (by decide +kernel)) rfl
theorem mt_217 : Cond.laysFinal RX1 "WordsLent$Course" "state" "[I" ∈ mm_tb := mm_tb_in (List.mem_of_getElem? (i := 217) (by decide +kernel)) rfl
theorem mt_219 : Cond.laysFinal RX1 "WordsLent$Course" "left" "[I" ∈ mm_tb := mm_tb_in (List.mem_of_getElem? (i := 219) (by decide +kernel)) rfl
theorem mt_221 : Cond.laysFinal RX1 "WordsLent$Course" "said" "[I" ∈ mm_tb := mm_tb_in (List.mem_of_getElem? (i := 221) (by decide +kernel)) rfl
theorem mt_223 : Cond.laysFinal RX1 "WordsLent$Course" "occasions" "[I" ∈ mm_tb := mm_tb_in (List.mem_of_getElem? (i := 223) (by decide +kernel)) rfl
theorem mt_225 : Cond.lays RX1 "WordsLent$Course" "dead" "I" ∈ mm_tb := mm_tb_in (List.mem_of_getElem? (i := 225) (by decide +kernel)) rfl
theorem mt_227 : Cond.laysFinal RX1 "WordsLent$Course" "echoing" "[I" ∈ mm_tb := mm_tb_in (List.mem_of_getElem? (i := 227) (by decide +kernel)) rfl
theorem mt_229 : Cond.laysFinal RX1 "WordsLent$Course" "dying" "[I" ∈ mm_tb := mm_tb_in (List.mem_of_getElem? (i := 229) (by decide +kernel)) rfl
theorem mt_231 : Cond.laysFinal RX1 "WordsLent$Course" "firstMeeting" "[I" ∈ mm_tb := mm_tb_in (List.mem_of_getElem? (i := 231) (by decide +kernel)) rfl
theorem mt_233 : Cond.laysFinal RX1 "WordsLent$Course" "nextMeeting" "[I" ∈ mm_tb := mm_tb_in (List.mem_of_getElem? (i := 233) (by decide +kernel)) rfl
theorem mt_235 : Cond.laysFinal RX1 "WordsLent$Course" "states" "[I" ∈ mm_tb := mm_tb_in (List.mem_of_getElem? (i := 235) (by decide +kernel)) rfl
theorem mt_237 : Cond.laysFinal RX1 "WordsLent$Course" "lefts" "[I" ∈ mm_tb := mm_tb_in (List.mem_of_getElem? (i := 237) (by decide +kernel)) rfl
theorem mt_239 : Cond.laysFinal RX1 "WordsLent$Course" "saids" "[I" ∈ mm_tb := mm_tb_in (List.mem_of_getElem? (i := 239) (by decide +kernel)) rfl
theorem mt_241 : Cond.laysFinal RX1 "WordsLent$Course" "owesTo" "[I" ∈ mm_tb := mm_tb_in (List.mem_of_getElem? (i := 241) (by decide +kernel)) rfl
theorem mt_103 : Cond.laysFinal RX2 "WordsLent$Echoes" "days" "[I" ∈ mm_tb := mm_tb_in (List.mem_of_getElem? (i := 103) (by decide +kernel)) rfl
theorem mt_105 : Cond.laysFinal RX2 "WordsLent$Echoes" "speakers" "[I" ∈ mm_tb := mm_tb_in (List.mem_of_getElem? (i := 105) (by decide +kernel)) rfl
theorem mt_107 : Cond.lays RX2 "WordsLent$Echoes" "held" "I" ∈ mm_tb := mm_tb_in (List.mem_of_getElem? (i := 107) (by decide +kernel)) rfl
theorem mt_276 : Cond.laysFinal RX3 "WordsLent$Sheet" "items" "[I" ∈ mm_tb := mm_tb_in (List.mem_of_getElem? (i := 276) (by decide +kernel)) rfl
theorem mt_278 : Cond.lays RX3 "WordsLent$Sheet" "form" "I" ∈ mm_tb := mm_tb_in (List.mem_of_getElem? (i := 278) (by decide +kernel)) rfl
theorem mt_280 : Cond.lays RX3 "WordsLent$Sheet" "size" "I" ∈ mm_tb := mm_tb_in (List.mem_of_getElem? (i := 280) (by decide +kernel)) rfl
theorem mt_254 : Cond.laysFinal RX4 "WordsLent$Text" "kind" "I" ∈ mm_tb := mm_tb_in (List.mem_of_getElem? (i := 254) (by decide +kernel)) rfl
theorem mt_256 : Cond.laysFinal RX4 "WordsLent$Text" "span" "I" ∈ mm_tb := mm_tb_in (List.mem_of_getElem? (i := 256) (by decide +kernel)) rfl
theorem mt_258 : Cond.laysFinal RX4 "WordsLent$Text" "meanings" "[I" ∈ mm_tb := mm_tb_in (List.mem_of_getElem? (i := 258) (by decide +kernel)) rfl
theorem mt_260 : Cond.lays RX4 "WordsLent$Text" "length" "I" ∈ mm_tb := mm_tb_in (List.mem_of_getElem? (i := 260) (by decide +kernel)) rfl
theorem mt_262 : Cond.lays RX4 "WordsLent$Text" "firstWrong" "I" ∈ mm_tb := mm_tb_in (List.mem_of_getElem? (i := 262) (by decide +kernel)) rfl
theorem mt_172 : Cond.lays RX5 "WordsLent$Told" "people" "I" ∈ mm_tb := mm_tb_in (List.mem_of_getElem? (i := 172) (by decide +kernel)) rfl
theorem mt_174 : Cond.laysFinal RX5 "WordsLent$Told" "sorts" "[I" ∈ mm_tb := mm_tb_in (List.mem_of_getElem? (i := 174) (by decide +kernel)) rfl
theorem mt_176 : Cond.laysFinal RX5 "WordsLent$Told" "dies" "[I" ∈ mm_tb := mm_tb_in (List.mem_of_getElem? (i := 176) (by decide +kernel)) rfl
theorem mt_178 : Cond.lays RX5 "WordsLent$Told" "words" "I" ∈ mm_tb := mm_tb_in (List.mem_of_getElem? (i := 178) (by decide +kernel)) rfl
theorem mt_180 : Cond.laysFinal RX5 "WordsLent$Told" "lenders" "[I" ∈ mm_tb := mm_tb_in (List.mem_of_getElem? (i := 180) (by decide +kernel)) rfl
theorem mt_182 : Cond.laysFinal RX5 "WordsLent$Told" "debtors" "[I" ∈ mm_tb := mm_tb_in (List.mem_of_getElem? (i := 182) (by decide +kernel)) rfl
theorem mt_184 : Cond.laysFinal RX5 "WordsLent$Told" "uses" "[I" ∈ mm_tb := mm_tb_in (List.mem_of_getElem? (i := 184) (by decide +kernel)) rfl
theorem mt_186 : Cond.lays RX5 "WordsLent$Told" "meetings" "I" ∈ mm_tb := mm_tb_in (List.mem_of_getElem? (i := 186) (by decide +kernel)) rfl
theorem mt_188 : Cond.laysFinal RX5 "WordsLent$Told" "days" "[I" ∈ mm_tb := mm_tb_in (List.mem_of_getElem? (i := 188) (by decide +kernel)) rfl
theorem mt_190 : Cond.laysFinal RX5 "WordsLent$Told" "firsts" "[I" ∈ mm_tb := mm_tb_in (List.mem_of_getElem? (i := 190) (by decide +kernel)) rfl
theorem mt_192 : Cond.laysFinal RX5 "WordsLent$Told" "others" "[I" ∈ mm_tb := mm_tb_in (List.mem_of_getElem? (i := 192) (by decide +kernel)) rfl
theorem mt_296 : Cond.laysFinal RX6 "WordsLent" "texts" "[LWordsLent$Text;" ∈ mm_tb := mm_tb_in (List.mem_of_getElem? (i := 296) (by decide +kernel)) rfl
theorem mt_298 : Cond.laysFinal RX6 "WordsLent" "echoes" "LWordsLent$Echoes;" ∈ mm_tb := mm_tb_in (List.mem_of_getElem? (i := 298) (by decide +kernel)) rfl
theorem mt_300 : Cond.laysFinal RX6 "WordsLent" "counted" "LWordsLent$Counted;" ∈ mm_tb := mm_tb_in (List.mem_of_getElem? (i := 300) (by decide +kernel)) rfl
theorem mt_302 : Cond.laysFinal RX6 "WordsLent" "sheets" "[LWordsLent$Sheet;" ∈ mm_tb := mm_tb_in (List.mem_of_getElem? (i := 302) (by decide +kernel)) rfl
theorem mt_304 : Cond.laysFinal RX6 "WordsLent" "told" "LWordsLent$Told;" ∈ mm_tb := mm_tb_in (List.mem_of_getElem? (i := 304) (by decide +kernel)) rfl
theorem mt_306 : Cond.laysFinal RX6 "WordsLent" "course" "LWordsLent$Course;" ∈ mm_tb := mm_tb_in (List.mem_of_getElem? (i := 306) (by decide +kernel)) rfl
theorem mt_308 : Cond.laysFinal RX6 "WordsLent" "trial" "LWordsLent$Told;" ∈ mm_tb := mm_tb_in (List.mem_of_getElem? (i := 308) (by decide +kernel)) rfl
theorem mt_310 : Cond.laysFinal RX6 "WordsLent" "tried" "LWordsLent$Course;" ∈ mm_tb := mm_tb_in (List.mem_of_getElem? (i := 310) (by decide +kernel)) rfl
theorem mt_312 : Cond.laysFinal RX6 "WordsLent" "alike" "[I" ∈ mm_tb := mm_tb_in (List.mem_of_getElem? (i := 312) (by decide +kernel)) rfl
theorem mt_314 : Cond.laysFinal RX6 "WordsLent" "paidBy" "[I" ∈ mm_tb := mm_tb_in (List.mem_of_getElem? (i := 314) (by decide +kernel)) rfl
theorem mt_316 : Cond.lays RX6 "WordsLent" "courseIsKnown" "Z" ∈ mm_tb := mm_tb_in (List.mem_of_getElem? (i := 316) (by decide +kernel)) rfl
theorem mt_318 : Cond.lays RX6 "WordsLent" "oddsAreKnown" "Z" ∈ mm_tb := mm_tb_in (List.mem_of_getElem? (i := 318) (by decide +kernel)) rfl
theorem mt_320 : Cond.lays RX6 "WordsLent" "latestFinding" "I" ∈ mm_tb := mm_tb_in (List.mem_of_getElem? (i := 320) (by decide +kernel)) rfl
theorem mt_808 : Cond.laysFinal RX7 "WordsLentModel" "forms" "[I" ∈ mm_tb := mm_tb_in (List.mem_of_getElem? (i := 808) (by decide +kernel)) rfl
theorem mt_810 : Cond.laysFinal RX7 "WordsLentModel" "sizes" "[I" ∈ mm_tb := mm_tb_in (List.mem_of_getElem? (i := 810) (by decide +kernel)) rfl
theorem mt_812 : Cond.laysFinal RX7 "WordsLentModel" "items" "[I" ∈ mm_tb := mm_tb_in (List.mem_of_getElem? (i := 812) (by decide +kernel)) rfl
theorem mt_814 : Cond.laysFinal RX7 "WordsLentModel" "moved" "[I" ∈ mm_tb := mm_tb_in (List.mem_of_getElem? (i := 814) (by decide +kernel)) rfl
theorem mt_816 : Cond.lays RX7 "WordsLentModel" "latest" "I" ∈ mm_tb := mm_tb_in (List.mem_of_getElem? (i := 816) (by decide +kernel)) rfl
theorem mt_818 : Cond.laysFinal RX7 "WordsLentModel" "bytes" "[I" ∈ mm_tb := mm_tb_in (List.mem_of_getElem? (i := 818) (by decide +kernel)) rfl
theorem mt_820 : Cond.laysFinal RX7 "WordsLentModel" "typed" "[I" ∈ mm_tb := mm_tb_in (List.mem_of_getElem? (i := 820) (by decide +kernel)) rfl
theorem mt_822 : Cond.lays RX7 "WordsLentModel" "people" "I" ∈ mm_tb := mm_tb_in (List.mem_of_getElem? (i := 822) (by decide +kernel)) rfl
theorem mt_824 : Cond.laysFinal RX7 "WordsLentModel" "person" "[I" ∈ mm_tb := mm_tb_in (List.mem_of_getElem? (i := 824) (by decide +kernel)) rfl
theorem mt_826 : Cond.lays RX7 "WordsLentModel" "words" "I" ∈ mm_tb := mm_tb_in (List.mem_of_getElem? (i := 826) (by decide +kernel)) rfl
theorem mt_828 : Cond.laysFinal RX7 "WordsLentModel" "word" "[I" ∈ mm_tb := mm_tb_in (List.mem_of_getElem? (i := 828) (by decide +kernel)) rfl
theorem mt_830 : Cond.lays RX7 "WordsLentModel" "meetings" "I" ∈ mm_tb := mm_tb_in (List.mem_of_getElem? (i := 830) (by decide +kernel)) rfl
theorem mt_832 : Cond.laysFinal RX7 "WordsLentModel" "meeting" "[I" ∈ mm_tb := mm_tb_in (List.mem_of_getElem? (i := 832) (by decide +kernel)) rfl
theorem mt_834 : Cond.lays RX7 "WordsLentModel" "echoes" "I" ∈ mm_tb := mm_tb_in (List.mem_of_getElem? (i := 834) (by decide +kernel)) rfl
theorem mt_836 : Cond.laysFinal RX7 "WordsLentModel" "echo" "[I" ∈ mm_tb := mm_tb_in (List.mem_of_getElem? (i := 836) (by decide +kernel)) rfl
theorem mt_838 : Cond.lays RX7 "WordsLentModel" "gone" "I" ∈ mm_tb := mm_tb_in (List.mem_of_getElem? (i := 838) (by decide +kernel)) rfl
theorem mt_840 : Cond.lays RX7 "WordsLentModel" "oddDay" "I" ∈ mm_tb := mm_tb_in (List.mem_of_getElem? (i := 840) (by decide +kernel)) rfl
theorem mt_842 : Cond.lays RX7 "WordsLentModel" "oddOne" "I" ∈ mm_tb := mm_tb_in (List.mem_of_getElem? (i := 842) (by decide +kernel)) rfl
theorem mt_844 : Cond.lays RX7 "WordsLentModel" "oddOther" "I" ∈ mm_tb := mm_tb_in (List.mem_of_getElem? (i := 844) (by decide +kernel)) rfl
theorem mt_846 : Cond.laysFinal RX7 "WordsLentModel" "state" "[I" ∈ mm_tb := mm_tb_in (List.mem_of_getElem? (i := 846) (by decide +kernel)) rfl
theorem mt_848 : Cond.laysFinal RX7 "WordsLentModel" "uses" "[I" ∈ mm_tb := mm_tb_in (List.mem_of_getElem? (i := 848) (by decide +kernel)) rfl
theorem mt_850 : Cond.laysFinal RX7 "WordsLentModel" "said" "[I" ∈ mm_tb := mm_tb_in (List.mem_of_getElem? (i := 850) (by decide +kernel)) rfl
theorem mt_852 : Cond.laysFinal RX7 "WordsLentModel" "chances" "[I" ∈ mm_tb := mm_tb_in (List.mem_of_getElem? (i := 852) (by decide +kernel)) rfl
theorem mt_854 : Cond.laysFinal RX7 "WordsLentModel" "stateBy" "[I" ∈ mm_tb := mm_tb_in (List.mem_of_getElem? (i := 854) (by decide +kernel)) rfl
theorem mt_856 : Cond.laysFinal RX7 "WordsLentModel" "usesBy" "[I" ∈ mm_tb := mm_tb_in (List.mem_of_getElem? (i := 856) (by decide +kernel)) rfl
theorem mt_858 : Cond.laysFinal RX7 "WordsLentModel" "saidBy" "[I" ∈ mm_tb := mm_tb_in (List.mem_of_getElem? (i := 858) (by decide +kernel)) rfl
theorem mt_860 : Cond.laysFinal RX7 "WordsLentModel" "owes" "[I" ∈ mm_tb := mm_tb_in (List.mem_of_getElem? (i := 860) (by decide +kernel)) rfl
theorem mt_862 : Cond.lays RX7 "WordsLentModel" "tallies" "I" ∈ mm_tb := mm_tb_in (List.mem_of_getElem? (i := 862) (by decide +kernel)) rfl
theorem mt_864 : Cond.laysFinal RX7 "WordsLentModel" "tally" "[I" ∈ mm_tb := mm_tb_in (List.mem_of_getElem? (i := 864) (by decide +kernel)) rfl
theorem mt_866 : Cond.laysFinal RX7 "WordsLentModel" "lefts" "[I" ∈ mm_tb := mm_tb_in (List.mem_of_getElem? (i := 866) (by decide +kernel)) rfl
theorem mt_868 : Cond.lays RX7 "WordsLentModel" "drawn" "I" ∈ mm_tb := mm_tb_in (List.mem_of_getElem? (i := 868) (by decide +kernel)) rfl
theorem mt_96 : Cond.fieldLink RX2 9 "WordsLent$Echoes" "days" "[I" ∈ mm_tb := mm_tb_in (List.mem_of_getElem? (i := 96) (by decide +kernel)) rfl
theorem mt_97 : Cond.fieldLinkNest RX1 106 "WordsLent$Echoes" "days" "[I" "WordsLent" ∈ lw_tbl := List.mem_of_getElem? (i := 97) (by decide +kernel)
theorem mt_98 : Cond.fieldLink RX2 15 "WordsLent$Echoes" "speakers" "[I" ∈ mm_tb := mm_tb_in (List.mem_of_getElem? (i := 98) (by decide +kernel)) rfl
theorem mt_99 : Cond.fieldLinkNest RX1 109 "WordsLent$Echoes" "speakers" "[I" "WordsLent" ∈ lw_tbl := List.mem_of_getElem? (i := 99) (by decide +kernel)
theorem mt_100 : Cond.fieldLink RX2 22 "WordsLent$Echoes" "held" "I" ∈ mm_tb := mm_tb_in (List.mem_of_getElem? (i := 100) (by decide +kernel)) rfl
theorem mt_101 : Cond.fieldLinkNest RX1 101 "WordsLent$Echoes" "held" "I" "WordsLent" ∈ lw_tbl := List.mem_of_getElem? (i := 101) (by decide +kernel)
theorem mt_102 : Cond.fieldLinkNest RX6 134 "WordsLent$Echoes" "held" "I" "WordsLent" ∈ lw_tbl := List.mem_of_getElem? (i := 102) (by decide +kernel)
theorem mt_117 : Cond.fieldLink RX0 9 "WordsLent$Counted" "days" "[I" ∈ mm_tb := mm_tb_in (List.mem_of_getElem? (i := 117) (by decide +kernel)) rfl
theorem mt_118 : Cond.fieldLink RX0 15 "WordsLent$Counted" "whichWords" "[I" ∈ mm_tb := mm_tb_in (List.mem_of_getElem? (i := 118) (by decide +kernel)) rfl
theorem mt_119 : Cond.fieldLink RX0 18 "WordsLent$Counted" "lefts" "[I" ∈ mm_tb := mm_tb_in (List.mem_of_getElem? (i := 119) (by decide +kernel)) rfl
theorem mt_120 : Cond.fieldLink RX0 21 "WordsLent$Counted" "held" "I" ∈ mm_tb := mm_tb_in (List.mem_of_getElem? (i := 120) (by decide +kernel)) rfl
theorem mt_121 : Cond.fieldLinkNest RX6 212 "WordsLent$Counted" "held" "I" "WordsLent" ∈ lw_tbl := List.mem_of_getElem? (i := 121) (by decide +kernel)
theorem mt_139 : Cond.fieldLink RX5 48 "WordsLent$Told" "people" "I" ∈ mm_tb := mm_tb_in (List.mem_of_getElem? (i := 139) (by decide +kernel)) rfl
theorem mt_140 : Cond.fieldLinkNest RX1 79 "WordsLent$Told" "people" "I" "WordsLent" ∈ lw_tbl := List.mem_of_getElem? (i := 140) (by decide +kernel)
theorem mt_141 : Cond.fieldLinkNest RX6 90 "WordsLent$Told" "people" "I" "WordsLent" ∈ lw_tbl := List.mem_of_getElem? (i := 141) (by decide +kernel)
theorem mt_142 : Cond.fieldLink RX5 9 "WordsLent$Told" "sorts" "[I" ∈ mm_tb := mm_tb_in (List.mem_of_getElem? (i := 142) (by decide +kernel)) rfl
theorem mt_143 : Cond.fieldLinkNest RX1 119 "WordsLent$Told" "sorts" "[I" "WordsLent" ∈ lw_tbl := List.mem_of_getElem? (i := 143) (by decide +kernel)
theorem mt_144 : Cond.fieldLinkNest RX6 94 "WordsLent$Told" "sorts" "[I" "WordsLent" ∈ lw_tbl := List.mem_of_getElem? (i := 144) (by decide +kernel)
theorem mt_145 : Cond.fieldLink RX5 15 "WordsLent$Told" "dies" "[I" ∈ mm_tb := mm_tb_in (List.mem_of_getElem? (i := 145) (by decide +kernel)) rfl
theorem mt_146 : Cond.fieldLinkNest RX1 112 "WordsLent$Told" "dies" "[I" "WordsLent" ∈ lw_tbl := List.mem_of_getElem? (i := 146) (by decide +kernel)
theorem mt_147 : Cond.fieldLinkNest RX6 97 "WordsLent$Told" "dies" "[I" "WordsLent" ∈ lw_tbl := List.mem_of_getElem? (i := 147) (by decide +kernel)
theorem mt_148 : Cond.fieldLinkNest RX1 84 "WordsLent$Told" "words" "I" "WordsLent" ∈ lw_tbl := List.mem_of_getElem? (i := 148) (by decide +kernel)
theorem mt_149 : Cond.fieldLink RX5 55 "WordsLent$Told" "words" "I" ∈ mm_tb := mm_tb_in (List.mem_of_getElem? (i := 149) (by decide +kernel)) rfl
theorem mt_150 : Cond.fieldLinkNest RX6 100 "WordsLent$Told" "words" "I" "WordsLent" ∈ lw_tbl := List.mem_of_getElem? (i := 150) (by decide +kernel)
theorem mt_151 : Cond.fieldLink RX5 18 "WordsLent$Told" "lenders" "[I" ∈ mm_tb := mm_tb_in (List.mem_of_getElem? (i := 151) (by decide +kernel)) rfl
theorem mt_152 : Cond.fieldLinkNest RX1 85 "WordsLent$Told" "lenders" "[I" "WordsLent" ∈ lw_tbl := List.mem_of_getElem? (i := 152) (by decide +kernel)
theorem mt_153 : Cond.fieldLinkNest RX6 103 "WordsLent$Told" "lenders" "[I" "WordsLent" ∈ lw_tbl := List.mem_of_getElem? (i := 153) (by decide +kernel)
theorem mt_154 : Cond.fieldLink RX5 21 "WordsLent$Told" "debtors" "[I" ∈ mm_tb := mm_tb_in (List.mem_of_getElem? (i := 154) (by decide +kernel)) rfl
theorem mt_155 : Cond.fieldLinkNest RX1 88 "WordsLent$Told" "debtors" "[I" "WordsLent" ∈ lw_tbl := List.mem_of_getElem? (i := 155) (by decide +kernel)
theorem mt_156 : Cond.fieldLinkNest RX6 106 "WordsLent$Told" "debtors" "[I" "WordsLent" ∈ lw_tbl := List.mem_of_getElem? (i := 156) (by decide +kernel)
theorem mt_157 : Cond.fieldLink RX5 24 "WordsLent$Told" "uses" "[I" ∈ mm_tb := mm_tb_in (List.mem_of_getElem? (i := 157) (by decide +kernel)) rfl
theorem mt_158 : Cond.fieldLinkNest RX1 95 "WordsLent$Told" "uses" "[I" "WordsLent" ∈ lw_tbl := List.mem_of_getElem? (i := 158) (by decide +kernel)
theorem mt_159 : Cond.fieldLinkNest RX6 109 "WordsLent$Told" "uses" "[I" "WordsLent" ∈ lw_tbl := List.mem_of_getElem? (i := 159) (by decide +kernel)
theorem mt_160 : Cond.fieldLink RX5 58 "WordsLent$Told" "meetings" "I" ∈ mm_tb := mm_tb_in (List.mem_of_getElem? (i := 160) (by decide +kernel)) rfl
theorem mt_161 : Cond.fieldLinkNest RX1 115 "WordsLent$Told" "meetings" "I" "WordsLent" ∈ lw_tbl := List.mem_of_getElem? (i := 161) (by decide +kernel)
theorem mt_162 : Cond.fieldLinkNest RX6 112 "WordsLent$Told" "meetings" "I" "WordsLent" ∈ lw_tbl := List.mem_of_getElem? (i := 162) (by decide +kernel)
theorem mt_163 : Cond.fieldLink RX5 27 "WordsLent$Told" "days" "[I" ∈ mm_tb := mm_tb_in (List.mem_of_getElem? (i := 163) (by decide +kernel)) rfl
theorem mt_164 : Cond.fieldLinkNest RX1 118 "WordsLent$Told" "days" "[I" "WordsLent" ∈ lw_tbl := List.mem_of_getElem? (i := 164) (by decide +kernel)
theorem mt_165 : Cond.fieldLinkNest RX6 115 "WordsLent$Told" "days" "[I" "WordsLent" ∈ lw_tbl := List.mem_of_getElem? (i := 165) (by decide +kernel)
theorem mt_166 : Cond.fieldLink RX5 30 "WordsLent$Told" "firsts" "[I" ∈ mm_tb := mm_tb_in (List.mem_of_getElem? (i := 166) (by decide +kernel)) rfl
theorem mt_167 : Cond.fieldLinkNest RX1 128 "WordsLent$Told" "firsts" "[I" "WordsLent" ∈ lw_tbl := List.mem_of_getElem? (i := 167) (by decide +kernel)
theorem mt_168 : Cond.fieldLinkNest RX6 118 "WordsLent$Told" "firsts" "[I" "WordsLent" ∈ lw_tbl := List.mem_of_getElem? (i := 168) (by decide +kernel)
theorem mt_169 : Cond.fieldLink RX5 33 "WordsLent$Told" "others" "[I" ∈ mm_tb := mm_tb_in (List.mem_of_getElem? (i := 169) (by decide +kernel)) rfl
theorem mt_170 : Cond.fieldLinkNest RX1 131 "WordsLent$Told" "others" "[I" "WordsLent" ∈ lw_tbl := List.mem_of_getElem? (i := 170) (by decide +kernel)
theorem mt_171 : Cond.fieldLinkNest RX6 121 "WordsLent$Told" "others" "[I" "WordsLent" ∈ lw_tbl := List.mem_of_getElem? (i := 171) (by decide +kernel)
theorem mt_201 : Cond.fieldLink RX1 69 "WordsLent$Course" "words" "I" ∈ mm_tb := mm_tb_in (List.mem_of_getElem? (i := 201) (by decide +kernel)) rfl
theorem mt_202 : Cond.fieldLink RX1 9 "WordsLent$Course" "state" "[I" ∈ mm_tb := mm_tb_in (List.mem_of_getElem? (i := 202) (by decide +kernel)) rfl
theorem mt_203 : Cond.fieldLink RX1 15 "WordsLent$Course" "left" "[I" ∈ mm_tb := mm_tb_in (List.mem_of_getElem? (i := 203) (by decide +kernel)) rfl
theorem mt_204 : Cond.fieldLink RX1 18 "WordsLent$Course" "said" "[I" ∈ mm_tb := mm_tb_in (List.mem_of_getElem? (i := 204) (by decide +kernel)) rfl
theorem mt_205 : Cond.fieldLink RX1 21 "WordsLent$Course" "occasions" "[I" ∈ mm_tb := mm_tb_in (List.mem_of_getElem? (i := 205) (by decide +kernel)) rfl
theorem mt_206 : Cond.fieldLink RX1 98 "WordsLent$Course" "dead" "I" ∈ mm_tb := mm_tb_in (List.mem_of_getElem? (i := 206) (by decide +kernel)) rfl
theorem mt_207 : Cond.fieldLink RX1 24 "WordsLent$Course" "echoing" "[I" ∈ mm_tb := mm_tb_in (List.mem_of_getElem? (i := 207) (by decide +kernel)) rfl
theorem mt_208 : Cond.fieldLink RX1 27 "WordsLent$Course" "dying" "[I" ∈ mm_tb := mm_tb_in (List.mem_of_getElem? (i := 208) (by decide +kernel)) rfl
theorem mt_209 : Cond.fieldLink RX1 30 "WordsLent$Course" "firstMeeting" "[I" ∈ mm_tb := mm_tb_in (List.mem_of_getElem? (i := 209) (by decide +kernel)) rfl
theorem mt_210 : Cond.fieldLink RX1 33 "WordsLent$Course" "nextMeeting" "[I" ∈ mm_tb := mm_tb_in (List.mem_of_getElem? (i := 210) (by decide +kernel)) rfl
theorem mt_211 : Cond.fieldLink RX1 36 "WordsLent$Course" "states" "[I" ∈ mm_tb := mm_tb_in (List.mem_of_getElem? (i := 211) (by decide +kernel)) rfl
theorem mt_212 : Cond.fieldLink RX1 39 "WordsLent$Course" "lefts" "[I" ∈ mm_tb := mm_tb_in (List.mem_of_getElem? (i := 212) (by decide +kernel)) rfl
theorem mt_213 : Cond.fieldLink RX1 42 "WordsLent$Course" "saids" "[I" ∈ mm_tb := mm_tb_in (List.mem_of_getElem? (i := 213) (by decide +kernel)) rfl
theorem mt_214 : Cond.fieldLink RX1 45 "WordsLent$Course" "owesTo" "[I" ∈ mm_tb := mm_tb_in (List.mem_of_getElem? (i := 214) (by decide +kernel)) rfl
theorem mt_249 : Cond.fieldLink RX4 15 "WordsLent$Text" "kind" "I" ∈ mm_tb := mm_tb_in (List.mem_of_getElem? (i := 249) (by decide +kernel)) rfl
theorem mt_250 : Cond.fieldLink RX4 18 "WordsLent$Text" "span" "I" ∈ mm_tb := mm_tb_in (List.mem_of_getElem? (i := 250) (by decide +kernel)) rfl
theorem mt_251 : Cond.fieldLink RX4 21 "WordsLent$Text" "meanings" "[I" ∈ mm_tb := mm_tb_in (List.mem_of_getElem? (i := 251) (by decide +kernel)) rfl
theorem mt_252 : Cond.fieldLink RX4 25 "WordsLent$Text" "length" "I" ∈ mm_tb := mm_tb_in (List.mem_of_getElem? (i := 252) (by decide +kernel)) rfl
theorem mt_253 : Cond.fieldLink RX4 9 "WordsLent$Text" "firstWrong" "I" ∈ mm_tb := mm_tb_in (List.mem_of_getElem? (i := 253) (by decide +kernel)) rfl
theorem mt_270 : Cond.fieldLink RX3 9 "WordsLent$Sheet" "items" "[I" ∈ mm_tb := mm_tb_in (List.mem_of_getElem? (i := 270) (by decide +kernel)) rfl
theorem mt_271 : Cond.fieldLinkNest RX6 146 "WordsLent$Sheet" "items" "[I" "WordsLent" ∈ lw_tbl := List.mem_of_getElem? (i := 271) (by decide +kernel)
theorem mt_272 : Cond.fieldLink RX3 15 "WordsLent$Sheet" "form" "I" ∈ mm_tb := mm_tb_in (List.mem_of_getElem? (i := 272) (by decide +kernel)) rfl
theorem mt_273 : Cond.fieldLinkNest RX6 248 "WordsLent$Sheet" "form" "I" "WordsLent" ∈ lw_tbl := List.mem_of_getElem? (i := 273) (by decide +kernel)
theorem mt_274 : Cond.fieldLink RX3 19 "WordsLent$Sheet" "size" "I" ∈ mm_tb := mm_tb_in (List.mem_of_getElem? (i := 274) (by decide +kernel)) rfl
theorem mt_275 : Cond.fieldLinkNest RX6 144 "WordsLent$Sheet" "size" "I" "WordsLent" ∈ lw_tbl := List.mem_of_getElem? (i := 275) (by decide +kernel)
theorem mt_283 : Cond.fieldLink RX6 11 "WordsLent" "texts" "[LWordsLent$Text;" ∈ mm_tb := mm_tb_in (List.mem_of_getElem? (i := 283) (by decide +kernel)) rfl
theorem mt_284 : Cond.fieldLink RX6 18 "WordsLent" "echoes" "LWordsLent$Echoes;" ∈ mm_tb := mm_tb_in (List.mem_of_getElem? (i := 284) (by decide +kernel)) rfl
theorem mt_285 : Cond.fieldLink RX6 25 "WordsLent" "counted" "LWordsLent$Counted;" ∈ mm_tb := mm_tb_in (List.mem_of_getElem? (i := 285) (by decide +kernel)) rfl
theorem mt_286 : Cond.fieldLink RX6 31 "WordsLent" "sheets" "[LWordsLent$Sheet;" ∈ mm_tb := mm_tb_in (List.mem_of_getElem? (i := 286) (by decide +kernel)) rfl
theorem mt_287 : Cond.fieldLink RX6 38 "WordsLent" "told" "LWordsLent$Told;" ∈ mm_tb := mm_tb_in (List.mem_of_getElem? (i := 287) (by decide +kernel)) rfl
theorem mt_288 : Cond.fieldLink RX6 45 "WordsLent" "course" "LWordsLent$Course;" ∈ mm_tb := mm_tb_in (List.mem_of_getElem? (i := 288) (by decide +kernel)) rfl
theorem mt_289 : Cond.fieldLink RX6 49 "WordsLent" "trial" "LWordsLent$Told;" ∈ mm_tb := mm_tb_in (List.mem_of_getElem? (i := 289) (by decide +kernel)) rfl
theorem mt_290 : Cond.fieldLink RX6 52 "WordsLent" "tried" "LWordsLent$Course;" ∈ mm_tb := mm_tb_in (List.mem_of_getElem? (i := 290) (by decide +kernel)) rfl
theorem mt_291 : Cond.fieldLink RX6 55 "WordsLent" "alike" "[I" ∈ mm_tb := mm_tb_in (List.mem_of_getElem? (i := 291) (by decide +kernel)) rfl
theorem mt_292 : Cond.fieldLink RX6 59 "WordsLent" "paidBy" "[I" ∈ mm_tb := mm_tb_in (List.mem_of_getElem? (i := 292) (by decide +kernel)) rfl
theorem mt_293 : Cond.fieldLink RX6 356 "WordsLent" "courseIsKnown" "Z" ∈ mm_tb := mm_tb_in (List.mem_of_getElem? (i := 293) (by decide +kernel)) rfl
theorem mt_294 : Cond.fieldLink RX6 360 "WordsLent" "oddsAreKnown" "Z" ∈ mm_tb := mm_tb_in (List.mem_of_getElem? (i := 294) (by decide +kernel)) rfl
theorem mt_295 : Cond.fieldLink RX6 265 "WordsLent" "latestFinding" "I" ∈ mm_tb := mm_tb_in (List.mem_of_getElem? (i := 295) (by decide +kernel)) rfl
theorem mt_613 : Cond.constant RJ6 265 (1431655765 : Int32) ∈ mm_tb := mm_tb_in (List.mem_of_getElem? (i := 613) (by decide +kernel)) rfl
theorem mt_614 : Cond.constant RJ6 266 (858993459 : Int32) ∈ mm_tb := mm_tb_in (List.mem_of_getElem? (i := 614) (by decide +kernel)) rfl
theorem mt_615 : Cond.constant RJ6 267 (252645135 : Int32) ∈ mm_tb := mm_tb_in (List.mem_of_getElem? (i := 615) (by decide +kernel)) rfl
theorem mt_667 : Cond.constantLong RX6 225 (-9223372036854775806 : Int64) ∈ mm_tb := mm_tb_in (List.mem_of_getElem? (i := 667) (by decide +kernel)) rfl
theorem mt_686 : Cond.constant RX5 69 (1103515245 : Int32) ∈ mm_tb := mm_tb_in (List.mem_of_getElem? (i := 686) (by decide +kernel)) rfl
theorem mt_715 : Cond.constant RX6 247 (-2147483648 : Int32) ∈ mm_tb := mm_tb_in (List.mem_of_getElem? (i := 715) (by decide +kernel)) rfl
theorem mt_738 : Cond.constantLong RX6 268 (17 : Int64) ∈ mm_tb := mm_tb_in (List.mem_of_getElem? (i := 738) (by decide +kernel)) rfl
theorem mt_739 : Cond.constantLong RX6 270 (31 : Int64) ∈ mm_tb := mm_tb_in (List.mem_of_getElem? (i := 739) (by decide +kernel)) rfl
theorem mt_748 : Cond.fieldLink RX6 315 "WordsLent" "DIGEST_DAYS" "[I" ∈ mm_tb := mm_tb_in (List.mem_of_getElem? (i := 748) (by decide +kernel)) rfl
theorem mt_777 : Cond.fieldLink RX7 7 "WordsLentModel" "forms" "[I" ∈ mm_tb := mm_tb_in (List.mem_of_getElem? (i := 777) (by decide +kernel)) rfl
theorem mt_778 : Cond.fieldLink RX7 13 "WordsLentModel" "sizes" "[I" ∈ mm_tb := mm_tb_in (List.mem_of_getElem? (i := 778) (by decide +kernel)) rfl
theorem mt_779 : Cond.fieldLink RX7 16 "WordsLentModel" "items" "[I" ∈ mm_tb := mm_tb_in (List.mem_of_getElem? (i := 779) (by decide +kernel)) rfl
theorem mt_780 : Cond.fieldLink RX7 19 "WordsLentModel" "moved" "[I" ∈ mm_tb := mm_tb_in (List.mem_of_getElem? (i := 780) (by decide +kernel)) rfl
theorem mt_781 : Cond.fieldLink RX7 80 "WordsLentModel" "latest" "I" ∈ mm_tb := mm_tb_in (List.mem_of_getElem? (i := 781) (by decide +kernel)) rfl
theorem mt_782 : Cond.fieldLink RX7 22 "WordsLentModel" "bytes" "[I" ∈ mm_tb := mm_tb_in (List.mem_of_getElem? (i := 782) (by decide +kernel)) rfl
theorem mt_783 : Cond.fieldLink RX7 25 "WordsLentModel" "typed" "[I" ∈ mm_tb := mm_tb_in (List.mem_of_getElem? (i := 783) (by decide +kernel)) rfl
theorem mt_784 : Cond.fieldLink RX7 116 "WordsLentModel" "people" "I" ∈ mm_tb := mm_tb_in (List.mem_of_getElem? (i := 784) (by decide +kernel)) rfl
theorem mt_785 : Cond.fieldLink RX7 28 "WordsLentModel" "person" "[I" ∈ mm_tb := mm_tb_in (List.mem_of_getElem? (i := 785) (by decide +kernel)) rfl
theorem mt_786 : Cond.fieldLink RX7 125 "WordsLentModel" "words" "I" ∈ mm_tb := mm_tb_in (List.mem_of_getElem? (i := 786) (by decide +kernel)) rfl
theorem mt_787 : Cond.fieldLink RX7 31 "WordsLentModel" "word" "[I" ∈ mm_tb := mm_tb_in (List.mem_of_getElem? (i := 787) (by decide +kernel)) rfl
theorem mt_788 : Cond.fieldLink RX7 131 "WordsLentModel" "meetings" "I" ∈ mm_tb := mm_tb_in (List.mem_of_getElem? (i := 788) (by decide +kernel)) rfl
theorem mt_789 : Cond.fieldLink RX7 34 "WordsLentModel" "meeting" "[I" ∈ mm_tb := mm_tb_in (List.mem_of_getElem? (i := 789) (by decide +kernel)) rfl
theorem mt_790 : Cond.fieldLink RX7 171 "WordsLentModel" "echoes" "I" ∈ mm_tb := mm_tb_in (List.mem_of_getElem? (i := 790) (by decide +kernel)) rfl
theorem mt_791 : Cond.fieldLink RX7 37 "WordsLentModel" "echo" "[I" ∈ mm_tb := mm_tb_in (List.mem_of_getElem? (i := 791) (by decide +kernel)) rfl
theorem mt_792 : Cond.fieldLink RX7 176 "WordsLentModel" "gone" "I" ∈ mm_tb := mm_tb_in (List.mem_of_getElem? (i := 792) (by decide +kernel)) rfl
theorem mt_793 : Cond.fieldLink RX7 70 "WordsLentModel" "oddDay" "I" ∈ mm_tb := mm_tb_in (List.mem_of_getElem? (i := 793) (by decide +kernel)) rfl
theorem mt_794 : Cond.fieldLink RX7 205 "WordsLentModel" "oddOne" "I" ∈ mm_tb := mm_tb_in (List.mem_of_getElem? (i := 794) (by decide +kernel)) rfl
theorem mt_795 : Cond.fieldLink RX7 208 "WordsLentModel" "oddOther" "I" ∈ mm_tb := mm_tb_in (List.mem_of_getElem? (i := 795) (by decide +kernel)) rfl
theorem mt_796 : Cond.fieldLink RX7 40 "WordsLentModel" "state" "[I" ∈ mm_tb := mm_tb_in (List.mem_of_getElem? (i := 796) (by decide +kernel)) rfl
theorem mt_797 : Cond.fieldLink RX7 43 "WordsLentModel" "uses" "[I" ∈ mm_tb := mm_tb_in (List.mem_of_getElem? (i := 797) (by decide +kernel)) rfl
theorem mt_798 : Cond.fieldLink RX7 46 "WordsLentModel" "said" "[I" ∈ mm_tb := mm_tb_in (List.mem_of_getElem? (i := 798) (by decide +kernel)) rfl
theorem mt_799 : Cond.fieldLink RX7 49 "WordsLentModel" "chances" "[I" ∈ mm_tb := mm_tb_in (List.mem_of_getElem? (i := 799) (by decide +kernel)) rfl
theorem mt_800 : Cond.fieldLink RX7 52 "WordsLentModel" "stateBy" "[I" ∈ mm_tb := mm_tb_in (List.mem_of_getElem? (i := 800) (by decide +kernel)) rfl
theorem mt_801 : Cond.fieldLink RX7 55 "WordsLentModel" "usesBy" "[I" ∈ mm_tb := mm_tb_in (List.mem_of_getElem? (i := 801) (by decide +kernel)) rfl
theorem mt_802 : Cond.fieldLink RX7 58 "WordsLentModel" "saidBy" "[I" ∈ mm_tb := mm_tb_in (List.mem_of_getElem? (i := 802) (by decide +kernel)) rfl
theorem mt_803 : Cond.fieldLink RX7 61 "WordsLentModel" "owes" "[I" ∈ mm_tb := mm_tb_in (List.mem_of_getElem? (i := 803) (by decide +kernel)) rfl
theorem mt_804 : Cond.fieldLink RX7 279 "WordsLentModel" "tallies" "I" ∈ mm_tb := mm_tb_in (List.mem_of_getElem? (i := 804) (by decide +kernel)) rfl
theorem mt_805 : Cond.fieldLink RX7 64 "WordsLentModel" "tally" "[I" ∈ mm_tb := mm_tb_in (List.mem_of_getElem? (i := 805) (by decide +kernel)) rfl
theorem mt_806 : Cond.fieldLink RX7 67 "WordsLentModel" "lefts" "[I" ∈ mm_tb := mm_tb_in (List.mem_of_getElem? (i := 806) (by decide +kernel)) rfl
theorem mt_807 : Cond.fieldLink RX7 316 "WordsLentModel" "drawn" "I" ∈ mm_tb := mm_tb_in (List.mem_of_getElem? (i := 807) (by decide +kernel)) rfl
theorem mt_878 : Cond.constantLong RX7 83 (3 : Int64) ∈ mm_tb := mm_tb_in (List.mem_of_getElem? (i := 878) (by decide +kernel)) rfl
theorem mt_882 : Cond.constantLong RX7 89 (2 : Int64) ∈ mm_tb := mm_tb_in (List.mem_of_getElem? (i := 882) (by decide +kernel)) rfl
theorem mt_906 : Cond.constant RX7 103 (-2147483648 : Int32) ∈ mm_tb := mm_tb_in (List.mem_of_getElem? (i := 906) (by decide +kernel)) rfl
theorem mt_918 : Cond.constantLong RX7 107 (255 : Int64) ∈ mm_tb := mm_tb_in (List.mem_of_getElem? (i := 918) (by decide +kernel)) rfl
theorem mt_945 : Cond.constantLong RX7 109 (97 : Int64) ∈ mm_tb := mm_tb_in (List.mem_of_getElem? (i := 945) (by decide +kernel)) rfl
theorem mt_946 : Cond.constantLong RX7 111 (120 : Int64) ∈ mm_tb := mm_tb_in (List.mem_of_getElem? (i := 946) (by decide +kernel)) rfl
theorem mt_987 : Cond.constantLong RX7 161 (11 : Int64) ∈ mm_tb := mm_tb_in (List.mem_of_getElem? (i := 987) (by decide +kernel)) rfl
theorem mt_999 : Cond.constantLong RX7 150 (23 : Int64) ∈ mm_tb := mm_tb_in (List.mem_of_getElem? (i := 999) (by decide +kernel)) rfl
theorem mt_1000 : Cond.constantLong RX7 169 (7 : Int64) ∈ mm_tb := mm_tb_in (List.mem_of_getElem? (i := 1000) (by decide +kernel)) rfl
theorem mt_1155 : Cond.constantLong RX7 272 (-1 : Int64) ∈ mm_tb := mm_tb_in (List.mem_of_getElem? (i := 1155) (by decide +kernel)) rfl
theorem mt_1168 : Cond.constantLong RX7 277 (9 : Int64) ∈ mm_tb := mm_tb_in (List.mem_of_getElem? (i := 1168) (by decide +kernel)) rfl
theorem mt_1217 : Cond.constantLong RX7 305 (16 : Int64) ∈ mm_tb := mm_tb_in (List.mem_of_getElem? (i := 1217) (by decide +kernel)) rfl
theorem mt_1228 : Cond.constantLong RX7 74 (-9223372036854775808 : Int64) ∈ mm_tb := mm_tb_in (List.mem_of_getElem? (i := 1228) (by decide +kernel)) rfl
theorem mt_1233 : Cond.constantLong RX7 322 (12 : Int64) ∈ mm_tb := mm_tb_in (List.mem_of_getElem? (i := 1233) (by decide +kernel)) rfl
theorem mt_1242 : Cond.constant RX7 315 (1103515245 : Int32) ∈ mm_tb := mm_tb_in (List.mem_of_getElem? (i := 1242) (by decide +kernel)) rfl
theorem mt_1255 : Cond.constantLong RX7 333 (17 : Int64) ∈ mm_tb := mm_tb_in (List.mem_of_getElem? (i := 1255) (by decide +kernel)) rfl
theorem mt_1256 : Cond.constantLong RX7 327 (31 : Int64) ∈ mm_tb := mm_tb_in (List.mem_of_getElem? (i := 1256) (by decide +kernel)) rfl
theorem mt_329 : Cond.code yX6_isOutside cX6_isOutside 2 (some .boolean) ∈ mm_tb := mm_tb_in (List.mem_of_getElem? (i := 329) (by decide +kernel)) rfl
theorem mt_69 : Cond.initialized RX6 ∈ mm_tb := mm_tb_in (List.mem_of_getElem? (i := 69) (by decide +kernel)) rfl
theorem mt_328 : Cond.static yX6_isOutside ∈ mm_tb := mm_tb_in (List.mem_of_getElem? (i := 328) (by decide +kernel)) rfl
theorem mt_327 : Cond.methodLink RX6 66 yX6_isOutside ∈ mm_tb := mm_tb_in (List.mem_of_getElem? (i := 327) (by decide +kernel)) rfl
theorem mt_333 : Cond.code yX4_isFull cX4_isFull 1 (some .boolean) ∈ mm_tb := mm_tb_in (List.mem_of_getElem? (i := 333) (by decide +kernel)) rfl
theorem mt_74 : Cond.initialized RX4 ∈ mm_tb := mm_tb_in (List.mem_of_getElem? (i := 74) (by decide +kernel)) rfl
theorem mt_330 : Cond.methodLink RX6 70 yX4_isFull ∈ mm_tb := mm_tb_in (List.mem_of_getElem? (i := 330) (by decide +kernel)) rfl
theorem mt_331 : Cond.instanceMethod yX4_isFull ∈ mm_tb := mm_tb_in (List.mem_of_getElem? (i := 331) (by decide +kernel)) rfl
theorem mt_332 : Cond.selects RX4 yX4_isFull yX4_isFull ∈ mm_tb := mm_tb_in (List.mem_of_getElem? (i := 332) (by decide +kernel)) rfl
theorem mt_337 : Cond.code yX4_append cX4_append 2 none ∈ mm_tb := mm_tb_in (List.mem_of_getElem? (i := 337) (by decide +kernel)) rfl
theorem mt_334 : Cond.methodLink RX6 74 yX4_append ∈ mm_tb := mm_tb_in (List.mem_of_getElem? (i := 334) (by decide +kernel)) rfl
theorem mt_335 : Cond.instanceMethod yX4_append ∈ mm_tb := mm_tb_in (List.mem_of_getElem? (i := 335) (by decide +kernel)) rfl
theorem mt_336 : Cond.selects RX4 yX4_append yX4_append ∈ mm_tb := mm_tb_in (List.mem_of_getElem? (i := 336) (by decide +kernel)) rfl
theorem mt_338 : Cond.methodLink RX4 28 yX4_isFull ∈ mm_tb := mm_tb_in (List.mem_of_getElem? (i := 338) (by decide +kernel)) rfl
theorem mt_342 : Cond.code yX4_meaning cX4_meaning 3 (some .int) ∈ mm_tb := mm_tb_in (List.mem_of_getElem? (i := 342) (by decide +kernel)) rfl
theorem mt_339 : Cond.methodLink RX4 32 yX4_meaning ∈ mm_tb := mm_tb_in (List.mem_of_getElem? (i := 339) (by decide +kernel)) rfl
theorem mt_341 : Cond.instanceMethod yX4_meaning ∈ mm_tb := mm_tb_in (List.mem_of_getElem? (i := 341) (by decide +kernel)) rfl
theorem mt_0 : Cond.selects RX4 yX4_meaning yX4_meaning ∈ mm_tb := mm_tb_in (List.mem_of_getElem? (i := 0) (by decide +kernel)) rfl
theorem mt_345 : Cond.code yX4_sortOf cX4_sortOf 1 (some .int) ∈ mm_tb := mm_tb_in (List.mem_of_getElem? (i := 345) (by decide +kernel)) rfl
theorem mt_344 : Cond.static yX4_sortOf ∈ mm_tb := mm_tb_in (List.mem_of_getElem? (i := 344) (by decide +kernel)) rfl
theorem mt_343 : Cond.methodLink RX4 44 yX4_sortOf ∈ mm_tb := mm_tb_in (List.mem_of_getElem? (i := 343) (by decide +kernel)) rfl
theorem mt_348 : Cond.code yX4_within cX4_within 4 (some .int) ∈ mm_tb := mm_tb_in (List.mem_of_getElem? (i := 348) (by decide +kernel)) rfl
theorem mt_347 : Cond.static yX4_within ∈ mm_tb := mm_tb_in (List.mem_of_getElem? (i := 347) (by decide +kernel)) rfl
theorem mt_346 : Cond.methodLink RX4 48 yX4_within ∈ mm_tb := mm_tb_in (List.mem_of_getElem? (i := 346) (by decide +kernel)) rfl
theorem mt_352 : Cond.code yX6_tellAgain cX6_tellAgain 2 none ∈ mm_tb := mm_tb_in (List.mem_of_getElem? (i := 352) (by decide +kernel)) rfl
theorem mt_349 : Cond.methodLink RX6 77 yX6_tellAgain ∈ mm_tb := mm_tb_in (List.mem_of_getElem? (i := 349) (by decide +kernel)) rfl
theorem mt_351 : Cond.instanceMethod yX6_tellAgain ∈ mm_tb := mm_tb_in (List.mem_of_getElem? (i := 351) (by decide +kernel)) rfl
theorem mt_1 : Cond.selects RX6 yX6_tellAgain yX6_tellAgain ∈ mm_tb := mm_tb_in (List.mem_of_getElem? (i := 1) (by decide +kernel)) rfl
theorem mt_356 : Cond.code yX5_readPeople cX5_readPeople 3 none ∈ mm_tb := mm_tb_in (List.mem_of_getElem? (i := 356) (by decide +kernel)) rfl
theorem mt_72 : Cond.initialized RX5 ∈ mm_tb := mm_tb_in (List.mem_of_getElem? (i := 72) (by decide +kernel)) rfl
theorem mt_353 : Cond.methodLink RX6 346 yX5_readPeople ∈ mm_tb := mm_tb_in (List.mem_of_getElem? (i := 353) (by decide +kernel)) rfl
theorem mt_354 : Cond.instanceMethod yX5_readPeople ∈ mm_tb := mm_tb_in (List.mem_of_getElem? (i := 354) (by decide +kernel)) rfl
theorem mt_355 : Cond.selects RX5 yX5_readPeople yX5_readPeople ∈ mm_tb := mm_tb_in (List.mem_of_getElem? (i := 355) (by decide +kernel)) rfl
theorem mt_360 : Cond.code yX4_things cX4_things 1 (some .int) ∈ mm_tb := mm_tb_in (List.mem_of_getElem? (i := 360) (by decide +kernel)) rfl
theorem mt_357 : Cond.methodLink RX5 36 yX4_things ∈ mm_tb := mm_tb_in (List.mem_of_getElem? (i := 357) (by decide +kernel)) rfl
theorem mt_358 : Cond.instanceMethod yX4_things ∈ mm_tb := mm_tb_in (List.mem_of_getElem? (i := 358) (by decide +kernel)) rfl
theorem mt_359 : Cond.selects RX4 yX4_things yX4_things ∈ mm_tb := mm_tb_in (List.mem_of_getElem? (i := 359) (by decide +kernel)) rfl
theorem mt_364 : Cond.code yX4_faultPlace cX4_faultPlace 1 (some .int) ∈ mm_tb := mm_tb_in (List.mem_of_getElem? (i := 364) (by decide +kernel)) rfl
theorem mt_361 : Cond.methodLink RX4 36 yX4_faultPlace ∈ mm_tb := mm_tb_in (List.mem_of_getElem? (i := 361) (by decide +kernel)) rfl
theorem mt_362 : Cond.instanceMethod yX4_faultPlace ∈ mm_tb := mm_tb_in (List.mem_of_getElem? (i := 362) (by decide +kernel)) rfl
theorem mt_363 : Cond.selects RX4 yX4_faultPlace yX4_faultPlace ∈ mm_tb := mm_tb_in (List.mem_of_getElem? (i := 363) (by decide +kernel)) rfl
theorem mt_365 : Cond.methodLink RX5 42 Lib.Math.min.name ∈ mm_tb := mm_tb_in (List.mem_of_getElem? (i := 365) (by decide +kernel)) rfl
theorem mt_371 : Cond.code yX4_valueOf cX4_valueOf 4 (some .int) ∈ mm_tb := mm_tb_in (List.mem_of_getElem? (i := 371) (by decide +kernel)) rfl
theorem mt_368 : Cond.methodLink RX5 52 yX4_valueOf ∈ mm_tb := mm_tb_in (List.mem_of_getElem? (i := 368) (by decide +kernel)) rfl
theorem mt_369 : Cond.instanceMethod yX4_valueOf ∈ mm_tb := mm_tb_in (List.mem_of_getElem? (i := 369) (by decide +kernel)) rfl
theorem mt_370 : Cond.selects RX4 yX4_valueOf yX4_valueOf ∈ mm_tb := mm_tb_in (List.mem_of_getElem? (i := 370) (by decide +kernel)) rfl
theorem mt_372 : Cond.methodLinkNest RX4 40 yX6_isOutside "WordsLent" ∈ lw_tbl := List.mem_of_getElem? (i := 372) (by decide +kernel)
theorem mt_376 : Cond.code yX5_readWords cX5_readWords 3 none ∈ mm_tb := mm_tb_in (List.mem_of_getElem? (i := 376) (by decide +kernel)) rfl
theorem mt_373 : Cond.methodLink RX6 350 yX5_readWords ∈ mm_tb := mm_tb_in (List.mem_of_getElem? (i := 373) (by decide +kernel)) rfl
theorem mt_374 : Cond.instanceMethod yX5_readWords ∈ mm_tb := mm_tb_in (List.mem_of_getElem? (i := 374) (by decide +kernel)) rfl
theorem mt_375 : Cond.selects RX5 yX5_readWords yX5_readWords ∈ mm_tb := mm_tb_in (List.mem_of_getElem? (i := 375) (by decide +kernel)) rfl
theorem mt_380 : Cond.code yX5_readMeetings cX5_readMeetings 4 none ∈ mm_tb := mm_tb_in (List.mem_of_getElem? (i := 380) (by decide +kernel)) rfl
theorem mt_377 : Cond.methodLink RX6 353 yX5_readMeetings ∈ mm_tb := mm_tb_in (List.mem_of_getElem? (i := 377) (by decide +kernel)) rfl
theorem mt_378 : Cond.instanceMethod yX5_readMeetings ∈ mm_tb := mm_tb_in (List.mem_of_getElem? (i := 378) (by decide +kernel)) rfl
theorem mt_379 : Cond.selects RX5 yX5_readMeetings yX5_readMeetings ∈ mm_tb := mm_tb_in (List.mem_of_getElem? (i := 379) (by decide +kernel)) rfl
theorem mt_384 : Cond.code yX5_addMeeting cX5_addMeeting 4 none ∈ mm_tb := mm_tb_in (List.mem_of_getElem? (i := 384) (by decide +kernel)) rfl
theorem mt_381 : Cond.methodLink RX5 61 yX5_addMeeting ∈ mm_tb := mm_tb_in (List.mem_of_getElem? (i := 381) (by decide +kernel)) rfl
theorem mt_382 : Cond.instanceMethod yX5_addMeeting ∈ mm_tb := mm_tb_in (List.mem_of_getElem? (i := 382) (by decide +kernel)) rfl
theorem mt_383 : Cond.selects RX5 yX5_addMeeting yX5_addMeeting ∈ mm_tb := mm_tb_in (List.mem_of_getElem? (i := 383) (by decide +kernel)) rfl
theorem mt_388 : Cond.code yX6_courseChanged cX6_courseChanged 1 none ∈ mm_tb := mm_tb_in (List.mem_of_getElem? (i := 388) (by decide +kernel)) rfl
theorem mt_385 : Cond.methodLink RX6 131 yX6_courseChanged ∈ mm_tb := mm_tb_in (List.mem_of_getElem? (i := 385) (by decide +kernel)) rfl
theorem mt_387 : Cond.instanceMethod yX6_courseChanged ∈ mm_tb := mm_tb_in (List.mem_of_getElem? (i := 387) (by decide +kernel)) rfl
theorem mt_2 : Cond.selects RX6 yX6_courseChanged yX6_courseChanged ∈ mm_tb := mm_tb_in (List.mem_of_getElem? (i := 2) (by decide +kernel)) rfl
theorem mt_392 : Cond.code yX4_size cX4_size 1 (some .int) ∈ mm_tb := mm_tb_in (List.mem_of_getElem? (i := 392) (by decide +kernel)) rfl
theorem mt_389 : Cond.methodLink RX6 80 yX4_size ∈ mm_tb := mm_tb_in (List.mem_of_getElem? (i := 389) (by decide +kernel)) rfl
theorem mt_390 : Cond.instanceMethod yX4_size ∈ mm_tb := mm_tb_in (List.mem_of_getElem? (i := 390) (by decide +kernel)) rfl
theorem mt_391 : Cond.selects RX4 yX4_size yX4_size ∈ mm_tb := mm_tb_in (List.mem_of_getElem? (i := 391) (by decide +kernel)) rfl
theorem mt_400 : Cond.code yX4_cutTo cX4_cutTo 2 none ∈ mm_tb := mm_tb_in (List.mem_of_getElem? (i := 400) (by decide +kernel)) rfl
theorem mt_397 : Cond.methodLink RX6 84 yX4_cutTo ∈ mm_tb := mm_tb_in (List.mem_of_getElem? (i := 397) (by decide +kernel)) rfl
theorem mt_398 : Cond.instanceMethod yX4_cutTo ∈ mm_tb := mm_tb_in (List.mem_of_getElem? (i := 398) (by decide +kernel)) rfl
theorem mt_399 : Cond.selects RX4 yX4_cutTo yX4_cutTo ∈ mm_tb := mm_tb_in (List.mem_of_getElem? (i := 399) (by decide +kernel)) rfl
theorem mt_409 : Cond.methodLink RX6 87 yX4_faultPlace ∈ mm_tb := mm_tb_in (List.mem_of_getElem? (i := 409) (by decide +kernel)) rfl
theorem mt_428 : Cond.code yX2_mayBe cX2_mayBe 2 (some .boolean) ∈ mm_tb := mm_tb_in (List.mem_of_getElem? (i := 428) (by decide +kernel)) rfl
theorem mt_70 : Cond.initialized RX2 ∈ mm_tb := mm_tb_in (List.mem_of_getElem? (i := 70) (by decide +kernel)) rfl
theorem mt_427 : Cond.static yX2_mayBe ∈ mm_tb := mm_tb_in (List.mem_of_getElem? (i := 427) (by decide +kernel)) rfl
theorem mt_426 : Cond.methodLink RX6 124 yX2_mayBe ∈ mm_tb := mm_tb_in (List.mem_of_getElem? (i := 426) (by decide +kernel)) rfl
theorem mt_429 : Cond.methodLinkNest RX2 18 yX6_isOutside "WordsLent" ∈ lw_tbl := List.mem_of_getElem? (i := 429) (by decide +kernel)
theorem mt_433 : Cond.code yX2_isFull cX2_isFull 1 (some .boolean) ∈ mm_tb := mm_tb_in (List.mem_of_getElem? (i := 433) (by decide +kernel)) rfl
theorem mt_430 : Cond.methodLink RX6 127 yX2_isFull ∈ mm_tb := mm_tb_in (List.mem_of_getElem? (i := 430) (by decide +kernel)) rfl
theorem mt_431 : Cond.instanceMethod yX2_isFull ∈ mm_tb := mm_tb_in (List.mem_of_getElem? (i := 431) (by decide +kernel)) rfl
theorem mt_432 : Cond.selects RX2 yX2_isFull yX2_isFull ∈ mm_tb := mm_tb_in (List.mem_of_getElem? (i := 432) (by decide +kernel)) rfl
theorem mt_437 : Cond.code yX2_append cX2_append 3 none ∈ mm_tb := mm_tb_in (List.mem_of_getElem? (i := 437) (by decide +kernel)) rfl
theorem mt_434 : Cond.methodLink RX6 128 yX2_append ∈ mm_tb := mm_tb_in (List.mem_of_getElem? (i := 434) (by decide +kernel)) rfl
theorem mt_435 : Cond.instanceMethod yX2_append ∈ mm_tb := mm_tb_in (List.mem_of_getElem? (i := 435) (by decide +kernel)) rfl
theorem mt_436 : Cond.selects RX2 yX2_append yX2_append ∈ mm_tb := mm_tb_in (List.mem_of_getElem? (i := 436) (by decide +kernel)) rfl
theorem mt_438 : Cond.methodLink RX2 26 yX2_isFull ∈ mm_tb := mm_tb_in (List.mem_of_getElem? (i := 438) (by decide +kernel)) rfl
theorem mt_450 : Cond.code yX3_isLost cX3_isLost 1 (some .boolean) ∈ mm_tb := mm_tb_in (List.mem_of_getElem? (i := 450) (by decide +kernel)) rfl
theorem mt_75 : Cond.initialized RX3 ∈ mm_tb := mm_tb_in (List.mem_of_getElem? (i := 75) (by decide +kernel)) rfl
theorem mt_447 : Cond.methodLink RX6 137 yX3_isLost ∈ mm_tb := mm_tb_in (List.mem_of_getElem? (i := 447) (by decide +kernel)) rfl
theorem mt_448 : Cond.instanceMethod yX3_isLost ∈ mm_tb := mm_tb_in (List.mem_of_getElem? (i := 448) (by decide +kernel)) rfl
theorem mt_449 : Cond.selects RX3 yX3_isLost yX3_isLost ∈ mm_tb := mm_tb_in (List.mem_of_getElem? (i := 449) (by decide +kernel)) rfl
theorem mt_454 : Cond.code yX6_finding cX6_finding 2 (some .int) ∈ mm_tb := mm_tb_in (List.mem_of_getElem? (i := 454) (by decide +kernel)) rfl
theorem mt_451 : Cond.methodLink RX6 140 yX6_finding ∈ mm_tb := mm_tb_in (List.mem_of_getElem? (i := 451) (by decide +kernel)) rfl
theorem mt_453 : Cond.instanceMethod yX6_finding ∈ mm_tb := mm_tb_in (List.mem_of_getElem? (i := 453) (by decide +kernel)) rfl
theorem mt_3 : Cond.selects RX6 yX6_finding yX6_finding ∈ mm_tb := mm_tb_in (List.mem_of_getElem? (i := 3) (by decide +kernel)) rfl
theorem mt_462 : Cond.code yX6_learnCourse cX6_learnCourse 1 none ∈ mm_tb := mm_tb_in (List.mem_of_getElem? (i := 462) (by decide +kernel)) rfl
theorem mt_459 : Cond.methodLink RX6 149 yX6_learnCourse ∈ mm_tb := mm_tb_in (List.mem_of_getElem? (i := 459) (by decide +kernel)) rfl
theorem mt_461 : Cond.instanceMethod yX6_learnCourse ∈ mm_tb := mm_tb_in (List.mem_of_getElem? (i := 461) (by decide +kernel)) rfl
theorem mt_4 : Cond.selects RX6 yX6_learnCourse yX6_learnCourse ∈ mm_tb := mm_tb_in (List.mem_of_getElem? (i := 4) (by decide +kernel)) rfl
theorem mt_466 : Cond.code yX2_all cX2_all 1 (some .int) ∈ mm_tb := mm_tb_in (List.mem_of_getElem? (i := 466) (by decide +kernel)) rfl
theorem mt_463 : Cond.methodLink RX6 185 yX2_all ∈ mm_tb := mm_tb_in (List.mem_of_getElem? (i := 463) (by decide +kernel)) rfl
theorem mt_464 : Cond.instanceMethod yX2_all ∈ mm_tb := mm_tb_in (List.mem_of_getElem? (i := 464) (by decide +kernel)) rfl
theorem mt_465 : Cond.selects RX2 yX2_all yX2_all ∈ mm_tb := mm_tb_in (List.mem_of_getElem? (i := 465) (by decide +kernel)) rfl
theorem mt_470 : Cond.code yX1_run cX1_run 5 none ∈ mm_tb := mm_tb_in (List.mem_of_getElem? (i := 470) (by decide +kernel)) rfl
theorem mt_73 : Cond.initialized RX1 ∈ mm_tb := mm_tb_in (List.mem_of_getElem? (i := 73) (by decide +kernel)) rfl
theorem mt_467 : Cond.methodLink RX6 188 yX1_run ∈ mm_tb := mm_tb_in (List.mem_of_getElem? (i := 467) (by decide +kernel)) rfl
theorem mt_468 : Cond.instanceMethod yX1_run ∈ mm_tb := mm_tb_in (List.mem_of_getElem? (i := 468) (by decide +kernel)) rfl
theorem mt_469 : Cond.selects RX1 yX1_run yX1_run ∈ mm_tb := mm_tb_in (List.mem_of_getElem? (i := 469) (by decide +kernel)) rfl
theorem mt_474 : Cond.code yX1_beginWords cX1_beginWords 3 none ∈ mm_tb := mm_tb_in (List.mem_of_getElem? (i := 474) (by decide +kernel)) rfl
theorem mt_471 : Cond.methodLink RX1 48 yX1_beginWords ∈ mm_tb := mm_tb_in (List.mem_of_getElem? (i := 471) (by decide +kernel)) rfl
theorem mt_473 : Cond.instanceMethod yX1_beginWords ∈ mm_tb := mm_tb_in (List.mem_of_getElem? (i := 473) (by decide +kernel)) rfl
theorem mt_5 : Cond.selects RX1 yX1_beginWords yX1_beginWords ∈ mm_tb := mm_tb_in (List.mem_of_getElem? (i := 5) (by decide +kernel)) rfl
theorem mt_478 : Cond.code yX5_areTwo cX5_areTwo 3 (some .boolean) ∈ mm_tb := mm_tb_in (List.mem_of_getElem? (i := 478) (by decide +kernel)) rfl
theorem mt_475 : Cond.methodLink RX1 91 yX5_areTwo ∈ mm_tb := mm_tb_in (List.mem_of_getElem? (i := 475) (by decide +kernel)) rfl
theorem mt_476 : Cond.instanceMethod yX5_areTwo ∈ mm_tb := mm_tb_in (List.mem_of_getElem? (i := 476) (by decide +kernel)) rfl
theorem mt_477 : Cond.selects RX5 yX5_areTwo yX5_areTwo ∈ mm_tb := mm_tb_in (List.mem_of_getElem? (i := 477) (by decide +kernel)) rfl
theorem mt_482 : Cond.code yX1_beginPeople cX1_beginPeople 3 none ∈ mm_tb := mm_tb_in (List.mem_of_getElem? (i := 482) (by decide +kernel)) rfl
theorem mt_479 : Cond.methodLink RX1 52 yX1_beginPeople ∈ mm_tb := mm_tb_in (List.mem_of_getElem? (i := 479) (by decide +kernel)) rfl
theorem mt_481 : Cond.instanceMethod yX1_beginPeople ∈ mm_tb := mm_tb_in (List.mem_of_getElem? (i := 481) (by decide +kernel)) rfl
theorem mt_6 : Cond.selects RX1 yX1_beginPeople yX1_beginPeople ∈ mm_tb := mm_tb_in (List.mem_of_getElem? (i := 6) (by decide +kernel)) rfl
theorem mt_486 : Cond.code yX1_beginDays cX1_beginDays 5 none ∈ mm_tb := mm_tb_in (List.mem_of_getElem? (i := 486) (by decide +kernel)) rfl
theorem mt_483 : Cond.methodLink RX1 55 yX1_beginDays ∈ mm_tb := mm_tb_in (List.mem_of_getElem? (i := 483) (by decide +kernel)) rfl
theorem mt_485 : Cond.instanceMethod yX1_beginDays ∈ mm_tb := mm_tb_in (List.mem_of_getElem? (i := 485) (by decide +kernel)) rfl
theorem mt_7 : Cond.selects RX1 yX1_beginDays yX1_beginDays ∈ mm_tb := mm_tb_in (List.mem_of_getElem? (i := 7) (by decide +kernel)) rfl
theorem mt_490 : Cond.code yX1_growDebts cX1_growDebts 4 none ∈ mm_tb := mm_tb_in (List.mem_of_getElem? (i := 490) (by decide +kernel)) rfl
theorem mt_487 : Cond.methodLink RX1 59 yX1_growDebts ∈ mm_tb := mm_tb_in (List.mem_of_getElem? (i := 487) (by decide +kernel)) rfl
theorem mt_489 : Cond.instanceMethod yX1_growDebts ∈ mm_tb := mm_tb_in (List.mem_of_getElem? (i := 489) (by decide +kernel)) rfl
theorem mt_8 : Cond.selects RX1 yX1_growDebts yX1_growDebts ∈ mm_tb := mm_tb_in (List.mem_of_getElem? (i := 8) (by decide +kernel)) rfl
theorem mt_491 : Cond.methodLink RX1 122 Lib.Math.min.name ∈ mm_tb := mm_tb_in (List.mem_of_getElem? (i := 491) (by decide +kernel)) rfl
theorem mt_495 : Cond.code yX1_holdMeetings cX1_holdMeetings 7 none ∈ mm_tb := mm_tb_in (List.mem_of_getElem? (i := 495) (by decide +kernel)) rfl
theorem mt_492 : Cond.methodLink RX1 62 yX1_holdMeetings ∈ mm_tb := mm_tb_in (List.mem_of_getElem? (i := 492) (by decide +kernel)) rfl
theorem mt_494 : Cond.instanceMethod yX1_holdMeetings ∈ mm_tb := mm_tb_in (List.mem_of_getElem? (i := 494) (by decide +kernel)) rfl
theorem mt_9 : Cond.selects RX1 yX1_holdMeetings yX1_holdMeetings ∈ mm_tb := mm_tb_in (List.mem_of_getElem? (i := 9) (by decide +kernel)) rfl
theorem mt_499 : Cond.code yX1_leastOpen cX1_leastOpen 5 (some .int) ∈ mm_tb := mm_tb_in (List.mem_of_getElem? (i := 499) (by decide +kernel)) rfl
theorem mt_496 : Cond.methodLink RX1 134 yX1_leastOpen ∈ mm_tb := mm_tb_in (List.mem_of_getElem? (i := 496) (by decide +kernel)) rfl
theorem mt_498 : Cond.instanceMethod yX1_leastOpen ∈ mm_tb := mm_tb_in (List.mem_of_getElem? (i := 498) (by decide +kernel)) rfl
theorem mt_10 : Cond.selects RX1 yX1_leastOpen yX1_leastOpen ∈ mm_tb := mm_tb_in (List.mem_of_getElem? (i := 10) (by decide +kernel)) rfl
theorem mt_503 : Cond.code yX1_speak cX1_speak 5 none ∈ mm_tb := mm_tb_in (List.mem_of_getElem? (i := 503) (by decide +kernel)) rfl
theorem mt_500 : Cond.methodLink RX1 138 yX1_speak ∈ mm_tb := mm_tb_in (List.mem_of_getElem? (i := 500) (by decide +kernel)) rfl
theorem mt_502 : Cond.instanceMethod yX1_speak ∈ mm_tb := mm_tb_in (List.mem_of_getElem? (i := 502) (by decide +kernel)) rfl
theorem mt_11 : Cond.selects RX1 yX1_speak yX1_speak ∈ mm_tb := mm_tb_in (List.mem_of_getElem? (i := 11) (by decide +kernel)) rfl
theorem mt_507 : Cond.code yX1_bury cX1_bury 4 none ∈ mm_tb := mm_tb_in (List.mem_of_getElem? (i := 507) (by decide +kernel)) rfl
theorem mt_504 : Cond.methodLink RX1 66 yX1_bury ∈ mm_tb := mm_tb_in (List.mem_of_getElem? (i := 504) (by decide +kernel)) rfl
theorem mt_506 : Cond.instanceMethod yX1_bury ∈ mm_tb := mm_tb_in (List.mem_of_getElem? (i := 506) (by decide +kernel)) rfl
theorem mt_12 : Cond.selects RX1 yX1_bury yX1_bury ∈ mm_tb := mm_tb_in (List.mem_of_getElem? (i := 12) (by decide +kernel)) rfl
theorem mt_508 : Cond.methodLink RX1 73 arraycopyName ∈ mm_tb := mm_tb_in (List.mem_of_getElem? (i := 508) (by decide +kernel)) rfl
theorem mt_514 : Cond.code yX1_stateBehind cX1_stateBehind 3 (some .int) ∈ mm_tb := mm_tb_in (List.mem_of_getElem? (i := 514) (by decide +kernel)) rfl
theorem mt_511 : Cond.methodLink RX6 152 yX1_stateBehind ∈ mm_tb := mm_tb_in (List.mem_of_getElem? (i := 511) (by decide +kernel)) rfl
theorem mt_512 : Cond.instanceMethod yX1_stateBehind ∈ mm_tb := mm_tb_in (List.mem_of_getElem? (i := 512) (by decide +kernel)) rfl
theorem mt_513 : Cond.selects RX1 yX1_stateBehind yX1_stateBehind ∈ mm_tb := mm_tb_in (List.mem_of_getElem? (i := 513) (by decide +kernel)) rfl
theorem mt_515 : Cond.methodLinkNest RX1 142 yX6_isOutside "WordsLent" ∈ lw_tbl := List.mem_of_getElem? (i := 515) (by decide +kernel)
theorem mt_519 : Cond.code yX1_leftBehind cX1_leftBehind 3 (some .int) ∈ mm_tb := mm_tb_in (List.mem_of_getElem? (i := 519) (by decide +kernel)) rfl
theorem mt_516 : Cond.methodLink RX6 156 yX1_leftBehind ∈ mm_tb := mm_tb_in (List.mem_of_getElem? (i := 516) (by decide +kernel)) rfl
theorem mt_517 : Cond.instanceMethod yX1_leftBehind ∈ mm_tb := mm_tb_in (List.mem_of_getElem? (i := 517) (by decide +kernel)) rfl
theorem mt_518 : Cond.selects RX1 yX1_leftBehind yX1_leftBehind ∈ mm_tb := mm_tb_in (List.mem_of_getElem? (i := 518) (by decide +kernel)) rfl
theorem mt_527 : Cond.code yX1_openUses cX1_openUses 6 (some .int) ∈ mm_tb := mm_tb_in (List.mem_of_getElem? (i := 527) (by decide +kernel)) rfl
theorem mt_524 : Cond.methodLink RX6 159 yX1_openUses ∈ mm_tb := mm_tb_in (List.mem_of_getElem? (i := 524) (by decide +kernel)) rfl
theorem mt_525 : Cond.instanceMethod yX1_openUses ∈ mm_tb := mm_tb_in (List.mem_of_getElem? (i := 525) (by decide +kernel)) rfl
theorem mt_526 : Cond.selects RX1 yX1_openUses yX1_openUses ∈ mm_tb := mm_tb_in (List.mem_of_getElem? (i := 526) (by decide +kernel)) rfl
theorem mt_528 : Cond.methodLink RX1 145 yX1_stateBehind ∈ mm_tb := mm_tb_in (List.mem_of_getElem? (i := 528) (by decide +kernel)) rfl
theorem mt_529 : Cond.methodLink RX1 148 yX1_leftBehind ∈ mm_tb := mm_tb_in (List.mem_of_getElem? (i := 529) (by decide +kernel)) rfl
theorem mt_533 : Cond.code yX1_saidBehind cX1_saidBehind 3 (some .int) ∈ mm_tb := mm_tb_in (List.mem_of_getElem? (i := 533) (by decide +kernel)) rfl
theorem mt_530 : Cond.methodLink RX6 163 yX1_saidBehind ∈ mm_tb := mm_tb_in (List.mem_of_getElem? (i := 530) (by decide +kernel)) rfl
theorem mt_531 : Cond.instanceMethod yX1_saidBehind ∈ mm_tb := mm_tb_in (List.mem_of_getElem? (i := 531) (by decide +kernel)) rfl
theorem mt_532 : Cond.selects RX1 yX1_saidBehind yX1_saidBehind ∈ mm_tb := mm_tb_in (List.mem_of_getElem? (i := 532) (by decide +kernel)) rfl
theorem mt_541 : Cond.code yX1_owesNothing cX1_owesNothing 4 (some .boolean) ∈ mm_tb := mm_tb_in (List.mem_of_getElem? (i := 541) (by decide +kernel)) rfl
theorem mt_538 : Cond.methodLink RX6 166 yX1_owesNothing ∈ mm_tb := mm_tb_in (List.mem_of_getElem? (i := 538) (by decide +kernel)) rfl
theorem mt_539 : Cond.instanceMethod yX1_owesNothing ∈ mm_tb := mm_tb_in (List.mem_of_getElem? (i := 539) (by decide +kernel)) rfl
theorem mt_540 : Cond.selects RX1 yX1_owesNothing yX1_owesNothing ∈ mm_tb := mm_tb_in (List.mem_of_getElem? (i := 540) (by decide +kernel)) rfl
theorem mt_542 : Cond.methodLink RX1 151 yX1_openUses ∈ mm_tb := mm_tb_in (List.mem_of_getElem? (i := 542) (by decide +kernel)) rfl
theorem mt_546 : Cond.code yX1_hasLost cX1_hasLost 5 (some .boolean) ∈ mm_tb := mm_tb_in (List.mem_of_getElem? (i := 546) (by decide +kernel)) rfl
theorem mt_543 : Cond.methodLink RX1 155 yX1_hasLost ∈ mm_tb := mm_tb_in (List.mem_of_getElem? (i := 543) (by decide +kernel)) rfl
theorem mt_544 : Cond.instanceMethod yX1_hasLost ∈ mm_tb := mm_tb_in (List.mem_of_getElem? (i := 544) (by decide +kernel)) rfl
theorem mt_545 : Cond.selects RX1 yX1_hasLost yX1_hasLost ∈ mm_tb := mm_tb_in (List.mem_of_getElem? (i := 545) (by decide +kernel)) rfl
theorem mt_558 : Cond.code yX1_followDebts cX1_followDebts 4 none ∈ mm_tb := mm_tb_in (List.mem_of_getElem? (i := 558) (by decide +kernel)) rfl
theorem mt_555 : Cond.methodLink RX6 170 yX1_followDebts ∈ mm_tb := mm_tb_in (List.mem_of_getElem? (i := 555) (by decide +kernel)) rfl
theorem mt_556 : Cond.instanceMethod yX1_followDebts ∈ mm_tb := mm_tb_in (List.mem_of_getElem? (i := 556) (by decide +kernel)) rfl
theorem mt_557 : Cond.selects RX1 yX1_followDebts yX1_followDebts ∈ mm_tb := mm_tb_in (List.mem_of_getElem? (i := 557) (by decide +kernel)) rfl
theorem mt_562 : Cond.code yX1_stepsAround cX1_stepsAround 4 (some .int) ∈ mm_tb := mm_tb_in (List.mem_of_getElem? (i := 562) (by decide +kernel)) rfl
theorem mt_559 : Cond.methodLink RX6 174 yX1_stepsAround ∈ mm_tb := mm_tb_in (List.mem_of_getElem? (i := 559) (by decide +kernel)) rfl
theorem mt_560 : Cond.instanceMethod yX1_stepsAround ∈ mm_tb := mm_tb_in (List.mem_of_getElem? (i := 560) (by decide +kernel)) rfl
theorem mt_561 : Cond.selects RX1 yX1_stepsAround yX1_stepsAround ∈ mm_tb := mm_tb_in (List.mem_of_getElem? (i := 561) (by decide +kernel)) rfl
theorem mt_566 : Cond.code yX1_oneDebtOn cX1_oneDebtOn 4 (some .int) ∈ mm_tb := mm_tb_in (List.mem_of_getElem? (i := 566) (by decide +kernel)) rfl
theorem mt_563 : Cond.methodLink RX1 159 yX1_oneDebtOn ∈ mm_tb := mm_tb_in (List.mem_of_getElem? (i := 563) (by decide +kernel)) rfl
theorem mt_565 : Cond.instanceMethod yX1_oneDebtOn ∈ mm_tb := mm_tb_in (List.mem_of_getElem? (i := 565) (by decide +kernel)) rfl
theorem mt_13 : Cond.selects RX1 yX1_oneDebtOn yX1_oneDebtOn ∈ mm_tb := mm_tb_in (List.mem_of_getElem? (i := 13) (by decide +kernel)) rfl
theorem mt_578 : Cond.code yX5_becomeLike cX5_becomeLike 2 none ∈ mm_tb := mm_tb_in (List.mem_of_getElem? (i := 578) (by decide +kernel)) rfl
theorem mt_575 : Cond.methodLink RX6 177 yX5_becomeLike ∈ mm_tb := mm_tb_in (List.mem_of_getElem? (i := 575) (by decide +kernel)) rfl
theorem mt_576 : Cond.instanceMethod yX5_becomeLike ∈ mm_tb := mm_tb_in (List.mem_of_getElem? (i := 576) (by decide +kernel)) rfl
theorem mt_577 : Cond.selects RX5 yX5_becomeLike yX5_becomeLike ∈ mm_tb := mm_tb_in (List.mem_of_getElem? (i := 577) (by decide +kernel)) rfl
theorem mt_579 : Cond.methodLink RX5 70 arraycopyName ∈ mm_tb := mm_tb_in (List.mem_of_getElem? (i := 579) (by decide +kernel)) rfl
theorem mt_580 : Cond.methodLink RX6 181 yX5_addMeeting ∈ mm_tb := mm_tb_in (List.mem_of_getElem? (i := 580) (by decide +kernel)) rfl
theorem mt_584 : Cond.code yX1_openOrLostUses cX1_openOrLostUses 4 (some .int) ∈ mm_tb := mm_tb_in (List.mem_of_getElem? (i := 584) (by decide +kernel)) rfl
theorem mt_581 : Cond.methodLink RX6 192 yX1_openOrLostUses ∈ mm_tb := mm_tb_in (List.mem_of_getElem? (i := 581) (by decide +kernel)) rfl
theorem mt_582 : Cond.instanceMethod yX1_openOrLostUses ∈ mm_tb := mm_tb_in (List.mem_of_getElem? (i := 582) (by decide +kernel)) rfl
theorem mt_583 : Cond.selects RX1 yX1_openOrLostUses yX1_openOrLostUses ∈ mm_tb := mm_tb_in (List.mem_of_getElem? (i := 583) (by decide +kernel)) rfl
theorem mt_589 : Cond.methodLink RX6 195 yX1_hasLost ∈ mm_tb := mm_tb_in (List.mem_of_getElem? (i := 589) (by decide +kernel)) rfl
theorem mt_597 : Cond.code yX1_wordsThatAre cX1_wordsThatAre 4 (some .int) ∈ mm_tb := mm_tb_in (List.mem_of_getElem? (i := 597) (by decide +kernel)) rfl
theorem mt_594 : Cond.methodLink RX6 198 yX1_wordsThatAre ∈ mm_tb := mm_tb_in (List.mem_of_getElem? (i := 594) (by decide +kernel)) rfl
theorem mt_595 : Cond.instanceMethod yX1_wordsThatAre ∈ mm_tb := mm_tb_in (List.mem_of_getElem? (i := 595) (by decide +kernel)) rfl
theorem mt_596 : Cond.selects RX1 yX1_wordsThatAre yX1_wordsThatAre ∈ mm_tb := mm_tb_in (List.mem_of_getElem? (i := 596) (by decide +kernel)) rfl
theorem mt_605 : Cond.code yX6_sparedEchoes cX6_sparedEchoes 3 (some .int) ∈ mm_tb := mm_tb_in (List.mem_of_getElem? (i := 605) (by decide +kernel)) rfl
theorem mt_602 : Cond.methodLink RX6 201 yX6_sparedEchoes ∈ mm_tb := mm_tb_in (List.mem_of_getElem? (i := 602) (by decide +kernel)) rfl
theorem mt_604 : Cond.instanceMethod yX6_sparedEchoes ∈ mm_tb := mm_tb_in (List.mem_of_getElem? (i := 604) (by decide +kernel)) rfl
theorem mt_14 : Cond.selects RX6 yX6_sparedEchoes yX6_sparedEchoes ∈ mm_tb := mm_tb_in (List.mem_of_getElem? (i := 14) (by decide +kernel)) rfl
theorem mt_609 : Cond.code yX6_losesNothingWithout cX6_losesNothingWithout 2 (some .boolean) ∈ mm_tb := mm_tb_in (List.mem_of_getElem? (i := 609) (by decide +kernel)) rfl
theorem mt_606 : Cond.methodLink RX6 363 yX6_losesNothingWithout ∈ mm_tb := mm_tb_in (List.mem_of_getElem? (i := 606) (by decide +kernel)) rfl
theorem mt_608 : Cond.instanceMethod yX6_losesNothingWithout ∈ mm_tb := mm_tb_in (List.mem_of_getElem? (i := 608) (by decide +kernel)) rfl
theorem mt_15 : Cond.selects RX6 yX6_losesNothingWithout yX6_losesNothingWithout ∈ mm_tb := mm_tb_in (List.mem_of_getElem? (i := 15) (by decide +kernel)) rfl
theorem mt_612 : Cond.code yJ6_bitCount_0f7a4 cJ6_bitCount_0f7a4 1 (some .int) ∈ mm_tb := mm_tb_in (List.mem_of_getElem? (i := 612) (by decide +kernel)) rfl
theorem mt_79 : Cond.initialized RJ6 ∈ mm_tb := mm_tb_in (List.mem_of_getElem? (i := 79) (by decide +kernel)) rfl
theorem mt_611 : Cond.static yJ6_bitCount_0f7a4 ∈ mm_tb := mm_tb_in (List.mem_of_getElem? (i := 611) (by decide +kernel)) rfl
theorem mt_610 : Cond.methodLink RX6 204 yJ6_bitCount_0f7a4 ∈ mm_tb := mm_tb_in (List.mem_of_getElem? (i := 610) (by decide +kernel)) rfl
theorem mt_618 : Cond.code yX6_lowestBit cX6_lowestBit 2 (some .int) ∈ mm_tb := mm_tb_in (List.mem_of_getElem? (i := 618) (by decide +kernel)) rfl
theorem mt_617 : Cond.static yX6_lowestBit ∈ mm_tb := mm_tb_in (List.mem_of_getElem? (i := 617) (by decide +kernel)) rfl
theorem mt_616 : Cond.methodLink RX6 209 yX6_lowestBit ∈ mm_tb := mm_tb_in (List.mem_of_getElem? (i := 616) (by decide +kernel)) rfl
theorem mt_626 : Cond.code yX0_append cX0_append 4 none ∈ mm_tb := mm_tb_in (List.mem_of_getElem? (i := 626) (by decide +kernel)) rfl
theorem mt_71 : Cond.initialized RX0 ∈ mm_tb := mm_tb_in (List.mem_of_getElem? (i := 71) (by decide +kernel)) rfl
theorem mt_623 : Cond.methodLink RX6 213 yX0_append ∈ mm_tb := mm_tb_in (List.mem_of_getElem? (i := 623) (by decide +kernel)) rfl
theorem mt_624 : Cond.instanceMethod yX0_append ∈ mm_tb := mm_tb_in (List.mem_of_getElem? (i := 624) (by decide +kernel)) rfl
theorem mt_625 : Cond.selects RX0 yX0_append yX0_append ∈ mm_tb := mm_tb_in (List.mem_of_getElem? (i := 625) (by decide +kernel)) rfl
theorem mt_638 : Cond.code yX0_comesOut cX0_comesOut 3 (some .boolean) ∈ mm_tb := mm_tb_in (List.mem_of_getElem? (i := 638) (by decide +kernel)) rfl
theorem mt_635 : Cond.methodLink RX6 215 yX0_comesOut ∈ mm_tb := mm_tb_in (List.mem_of_getElem? (i := 635) (by decide +kernel)) rfl
theorem mt_636 : Cond.instanceMethod yX0_comesOut ∈ mm_tb := mm_tb_in (List.mem_of_getElem? (i := 636) (by decide +kernel)) rfl
theorem mt_637 : Cond.selects RX0 yX0_comesOut yX0_comesOut ∈ mm_tb := mm_tb_in (List.mem_of_getElem? (i := 637) (by decide +kernel)) rfl
theorem mt_639 : Cond.methodLink RX0 25 yX1_leftBehind ∈ mm_tb := mm_tb_in (List.mem_of_getElem? (i := 639) (by decide +kernel)) rfl
theorem mt_655 : Cond.code yX6_sortByWhatIsLeft cX6_sortByWhatIsLeft 5 none ∈ mm_tb := mm_tb_in (List.mem_of_getElem? (i := 655) (by decide +kernel)) rfl
theorem mt_652 : Cond.methodLink RX6 219 yX6_sortByWhatIsLeft ∈ mm_tb := mm_tb_in (List.mem_of_getElem? (i := 652) (by decide +kernel)) rfl
theorem mt_654 : Cond.instanceMethod yX6_sortByWhatIsLeft ∈ mm_tb := mm_tb_in (List.mem_of_getElem? (i := 654) (by decide +kernel)) rfl
theorem mt_16 : Cond.selects RX6 yX6_sortByWhatIsLeft yX6_sortByWhatIsLeft ∈ mm_tb := mm_tb_in (List.mem_of_getElem? (i := 16) (by decide +kernel)) rfl
theorem mt_659 : Cond.code yX6_mostAlike cX6_mostAlike 4 (some .int) ∈ mm_tb := mm_tb_in (List.mem_of_getElem? (i := 659) (by decide +kernel)) rfl
theorem mt_656 : Cond.methodLink RX6 222 yX6_mostAlike ∈ mm_tb := mm_tb_in (List.mem_of_getElem? (i := 656) (by decide +kernel)) rfl
theorem mt_658 : Cond.instanceMethod yX6_mostAlike ∈ mm_tb := mm_tb_in (List.mem_of_getElem? (i := 658) (by decide +kernel)) rfl
theorem mt_17 : Cond.selects RX6 yX6_mostAlike yX6_mostAlike ∈ mm_tb := mm_tb_in (List.mem_of_getElem? (i := 17) (by decide +kernel)) rfl
theorem mt_660 : Cond.methodLink RX6 367 Lib.Math.max.name ∈ mm_tb := mm_tb_in (List.mem_of_getElem? (i := 660) (by decide +kernel)) rfl
theorem mt_671 : Cond.code yX6_learnOdds cX6_learnOdds 4 none ∈ mm_tb := mm_tb_in (List.mem_of_getElem? (i := 671) (by decide +kernel)) rfl
theorem mt_668 : Cond.methodLink RX6 227 yX6_learnOdds ∈ mm_tb := mm_tb_in (List.mem_of_getElem? (i := 668) (by decide +kernel)) rfl
theorem mt_670 : Cond.instanceMethod yX6_learnOdds ∈ mm_tb := mm_tb_in (List.mem_of_getElem? (i := 670) (by decide +kernel)) rfl
theorem mt_18 : Cond.selects RX6 yX6_learnOdds yX6_learnOdds ∈ mm_tb := mm_tb_in (List.mem_of_getElem? (i := 18) (by decide +kernel)) rfl
theorem mt_674 : Cond.code yX6_power cX6_power 6 (some .long) ∈ mm_tb := mm_tb_in (List.mem_of_getElem? (i := 674) (by decide +kernel)) rfl
theorem mt_673 : Cond.static yX6_power ∈ mm_tb := mm_tb_in (List.mem_of_getElem? (i := 673) (by decide +kernel)) rfl
theorem mt_672 : Cond.methodLink RX6 230 yX6_power ∈ mm_tb := mm_tb_in (List.mem_of_getElem? (i := 672) (by decide +kernel)) rfl
theorem mt_682 : Cond.code yX5_drawMeetings cX5_drawMeetings 7 none ∈ mm_tb := mm_tb_in (List.mem_of_getElem? (i := 682) (by decide +kernel)) rfl
theorem mt_679 : Cond.methodLink RX6 234 yX5_drawMeetings ∈ mm_tb := mm_tb_in (List.mem_of_getElem? (i := 679) (by decide +kernel)) rfl
theorem mt_680 : Cond.instanceMethod yX5_drawMeetings ∈ mm_tb := mm_tb_in (List.mem_of_getElem? (i := 680) (by decide +kernel)) rfl
theorem mt_681 : Cond.selects RX5 yX5_drawMeetings yX5_drawMeetings ∈ mm_tb := mm_tb_in (List.mem_of_getElem? (i := 681) (by decide +kernel)) rfl
theorem mt_685 : Cond.code yX5_nextSeed cX5_nextSeed 1 (some .int) ∈ mm_tb := mm_tb_in (List.mem_of_getElem? (i := 685) (by decide +kernel)) rfl
theorem mt_684 : Cond.static yX5_nextSeed ∈ mm_tb := mm_tb_in (List.mem_of_getElem? (i := 684) (by decide +kernel)) rfl
theorem mt_683 : Cond.methodLink RX5 65 yX5_nextSeed ∈ mm_tb := mm_tb_in (List.mem_of_getElem? (i := 683) (by decide +kernel)) rfl
theorem mt_694 : Cond.code yX3_begin cX3_begin 4 none ∈ mm_tb := mm_tb_in (List.mem_of_getElem? (i := 694) (by decide +kernel)) rfl
theorem mt_691 : Cond.methodLink RX6 237 yX3_begin ∈ mm_tb := mm_tb_in (List.mem_of_getElem? (i := 691) (by decide +kernel)) rfl
theorem mt_692 : Cond.instanceMethod yX3_begin ∈ mm_tb := mm_tb_in (List.mem_of_getElem? (i := 692) (by decide +kernel)) rfl
theorem mt_693 : Cond.selects RX3 yX3_begin yX3_begin ∈ mm_tb := mm_tb_in (List.mem_of_getElem? (i := 693) (by decide +kernel)) rfl
theorem mt_705 : Cond.code yX6_whatIsAmiss cX6_whatIsAmiss 3 (some .int) ∈ mm_tb := mm_tb_in (List.mem_of_getElem? (i := 705) (by decide +kernel)) rfl
theorem mt_704 : Cond.static yX6_whatIsAmiss ∈ mm_tb := mm_tb_in (List.mem_of_getElem? (i := 704) (by decide +kernel)) rfl
theorem mt_703 : Cond.methodLink RX6 240 yX6_whatIsAmiss ∈ mm_tb := mm_tb_in (List.mem_of_getElem? (i := 703) (by decide +kernel)) rfl
theorem mt_709 : Cond.code yX3_put cX3_put 3 none ∈ mm_tb := mm_tb_in (List.mem_of_getElem? (i := 709) (by decide +kernel)) rfl
theorem mt_706 : Cond.methodLink RX6 244 yX3_put ∈ mm_tb := mm_tb_in (List.mem_of_getElem? (i := 706) (by decide +kernel)) rfl
theorem mt_707 : Cond.instanceMethod yX3_put ∈ mm_tb := mm_tb_in (List.mem_of_getElem? (i := 707) (by decide +kernel)) rfl
theorem mt_708 : Cond.selects RX3 yX3_put yX3_put ∈ mm_tb := mm_tb_in (List.mem_of_getElem? (i := 708) (by decide +kernel)) rfl
theorem mt_710 : Cond.methodLinkNest RX3 22 yX6_isOutside "WordsLent" ∈ lw_tbl := List.mem_of_getElem? (i := 710) (by decide +kernel)
theorem mt_723 : Cond.code yX3_hasItems cX3_hasItems 3 (some .boolean) ∈ mm_tb := mm_tb_in (List.mem_of_getElem? (i := 723) (by decide +kernel)) rfl
theorem mt_720 : Cond.methodLink RX6 251 yX3_hasItems ∈ mm_tb := mm_tb_in (List.mem_of_getElem? (i := 720) (by decide +kernel)) rfl
theorem mt_721 : Cond.instanceMethod yX3_hasItems ∈ mm_tb := mm_tb_in (List.mem_of_getElem? (i := 721) (by decide +kernel)) rfl
theorem mt_722 : Cond.selects RX3 yX3_hasItems yX3_hasItems ∈ mm_tb := mm_tb_in (List.mem_of_getElem? (i := 722) (by decide +kernel)) rfl
theorem mt_724 : Cond.methodLink RX6 254 arraycopyName ∈ mm_tb := mm_tb_in (List.mem_of_getElem? (i := 724) (by decide +kernel)) rfl
theorem mt_729 : Cond.methodLink RX6 260 Lib.Math.min.name ∈ mm_tb := mm_tb_in (List.mem_of_getElem? (i := 729) (by decide +kernel)) rfl
theorem mt_733 : Cond.code yX6_count cX6_count 2 (some .int) ∈ mm_tb := mm_tb_in (List.mem_of_getElem? (i := 733) (by decide +kernel)) rfl
theorem mt_740 : Cond.methodLink RX6 272 yX6_count ∈ mm_tb := mm_tb_in (List.mem_of_getElem? (i := 740) (by decide +kernel)) rfl
theorem mt_731 : Cond.instanceMethod yX6_count ∈ mm_tb := mm_tb_in (List.mem_of_getElem? (i := 731) (by decide +kernel)) rfl
theorem mt_732 : Cond.selects RX6 yX6_count yX6_count ∈ mm_tb := mm_tb_in (List.mem_of_getElem? (i := 732) (by decide +kernel)) rfl
theorem mt_408 : Cond.code yX6_fault cX6_fault 2 (some .int) ∈ mm_tb := mm_tb_in (List.mem_of_getElem? (i := 408) (by decide +kernel)) rfl
theorem mt_741 : Cond.methodLink RX6 275 yX6_fault ∈ mm_tb := mm_tb_in (List.mem_of_getElem? (i := 741) (by decide +kernel)) rfl
theorem mt_406 : Cond.instanceMethod yX6_fault ∈ mm_tb := mm_tb_in (List.mem_of_getElem? (i := 406) (by decide +kernel)) rfl
theorem mt_407 : Cond.selects RX6 yX6_fault yX6_fault ∈ mm_tb := mm_tb_in (List.mem_of_getElem? (i := 407) (by decide +kernel)) rfl
theorem mt_421 : Cond.code yX6_meeting cX6_meeting 3 (some .int) ∈ mm_tb := mm_tb_in (List.mem_of_getElem? (i := 421) (by decide +kernel)) rfl
theorem mt_742 : Cond.methodLink RX6 278 yX6_meeting ∈ mm_tb := mm_tb_in (List.mem_of_getElem? (i := 742) (by decide +kernel)) rfl
theorem mt_419 : Cond.instanceMethod yX6_meeting ∈ mm_tb := mm_tb_in (List.mem_of_getElem? (i := 419) (by decide +kernel)) rfl
theorem mt_420 : Cond.selects RX6 yX6_meeting yX6_meeting ∈ mm_tb := mm_tb_in (List.mem_of_getElem? (i := 420) (by decide +kernel)) rfl
theorem mt_746 : Cond.code yX6_digestWord cX6_digestWord 10 (some .long) ∈ mm_tb := mm_tb_in (List.mem_of_getElem? (i := 746) (by decide +kernel)) rfl
theorem mt_743 : Cond.methodLink RX6 281 yX6_digestWord ∈ mm_tb := mm_tb_in (List.mem_of_getElem? (i := 743) (by decide +kernel)) rfl
theorem mt_745 : Cond.instanceMethod yX6_digestWord ∈ mm_tb := mm_tb_in (List.mem_of_getElem? (i := 745) (by decide +kernel)) rfl
theorem mt_19 : Cond.selects RX6 yX6_digestWord yX6_digestWord ∈ mm_tb := mm_tb_in (List.mem_of_getElem? (i := 19) (by decide +kernel)) rfl
theorem mt_417 : Cond.code yX6_word cX6_word 3 (some .int) ∈ mm_tb := mm_tb_in (List.mem_of_getElem? (i := 417) (by decide +kernel)) rfl
theorem mt_747 : Cond.methodLink RX6 312 yX6_word ∈ mm_tb := mm_tb_in (List.mem_of_getElem? (i := 747) (by decide +kernel)) rfl
theorem mt_415 : Cond.instanceMethod yX6_word ∈ mm_tb := mm_tb_in (List.mem_of_getElem? (i := 415) (by decide +kernel)) rfl
theorem mt_416 : Cond.selects RX6 yX6_word yX6_word ∈ mm_tb := mm_tb_in (List.mem_of_getElem? (i := 416) (by decide +kernel)) rfl
theorem mt_458 : Cond.code yX6_stands cX6_stands 4 (some .int) ∈ mm_tb := mm_tb_in (List.mem_of_getElem? (i := 458) (by decide +kernel)) rfl
theorem mt_750 : Cond.methodLink RX6 318 yX6_stands ∈ mm_tb := mm_tb_in (List.mem_of_getElem? (i := 750) (by decide +kernel)) rfl
theorem mt_456 : Cond.instanceMethod yX6_stands ∈ mm_tb := mm_tb_in (List.mem_of_getElem? (i := 456) (by decide +kernel)) rfl
theorem mt_457 : Cond.selects RX6 yX6_stands yX6_stands ∈ mm_tb := mm_tb_in (List.mem_of_getElem? (i := 457) (by decide +kernel)) rfl
theorem mt_647 : Cond.code yX6_lent cX6_lent 4 (some .int) ∈ mm_tb := mm_tb_in (List.mem_of_getElem? (i := 647) (by decide +kernel)) rfl
theorem mt_751 : Cond.methodLink RX6 321 yX6_lent ∈ mm_tb := mm_tb_in (List.mem_of_getElem? (i := 751) (by decide +kernel)) rfl
theorem mt_645 : Cond.instanceMethod yX6_lent ∈ mm_tb := mm_tb_in (List.mem_of_getElem? (i := 645) (by decide +kernel)) rfl
theorem mt_646 : Cond.selects RX6 yX6_lent yX6_lent ∈ mm_tb := mm_tb_in (List.mem_of_getElem? (i := 646) (by decide +kernel)) rfl
theorem mt_651 : Cond.code yX6_ask cX6_ask 6 (some .int) ∈ mm_tb := mm_tb_in (List.mem_of_getElem? (i := 651) (by decide +kernel)) rfl
theorem mt_752 : Cond.methodLink RX6 324 yX6_ask ∈ mm_tb := mm_tb_in (List.mem_of_getElem? (i := 752) (by decide +kernel)) rfl
theorem mt_649 : Cond.instanceMethod yX6_ask ∈ mm_tb := mm_tb_in (List.mem_of_getElem? (i := 649) (by decide +kernel)) rfl
theorem mt_650 : Cond.selects RX6 yX6_ask yX6_ask ∈ mm_tb := mm_tb_in (List.mem_of_getElem? (i := 650) (by decide +kernel)) rfl
theorem mt_666 : Cond.code yX6_chance cX6_chance 10 (some .long) ∈ mm_tb := mm_tb_in (List.mem_of_getElem? (i := 666) (by decide +kernel)) rfl
theorem mt_753 : Cond.methodLink RX6 327 yX6_chance ∈ mm_tb := mm_tb_in (List.mem_of_getElem? (i := 753) (by decide +kernel)) rfl
theorem mt_664 : Cond.instanceMethod yX6_chance ∈ mm_tb := mm_tb_in (List.mem_of_getElem? (i := 664) (by decide +kernel)) rfl
theorem mt_665 : Cond.selects RX6 yX6_chance yX6_chance ∈ mm_tb := mm_tb_in (List.mem_of_getElem? (i := 665) (by decide +kernel)) rfl
theorem mt_757 : Cond.code yX6_digestPerson cX6_digestPerson 7 (some .long) ∈ mm_tb := mm_tb_in (List.mem_of_getElem? (i := 757) (by decide +kernel)) rfl
theorem mt_754 : Cond.methodLink RX6 284 yX6_digestPerson ∈ mm_tb := mm_tb_in (List.mem_of_getElem? (i := 754) (by decide +kernel)) rfl
theorem mt_756 : Cond.instanceMethod yX6_digestPerson ∈ mm_tb := mm_tb_in (List.mem_of_getElem? (i := 756) (by decide +kernel)) rfl
theorem mt_20 : Cond.selects RX6 yX6_digestPerson yX6_digestPerson ∈ mm_tb := mm_tb_in (List.mem_of_getElem? (i := 20) (by decide +kernel)) rfl
theorem mt_413 : Cond.code yX6_person cX6_person 3 (some .int) ∈ mm_tb := mm_tb_in (List.mem_of_getElem? (i := 413) (by decide +kernel)) rfl
theorem mt_758 : Cond.methodLink RX6 331 yX6_person ∈ mm_tb := mm_tb_in (List.mem_of_getElem? (i := 758) (by decide +kernel)) rfl
theorem mt_411 : Cond.instanceMethod yX6_person ∈ mm_tb := mm_tb_in (List.mem_of_getElem? (i := 411) (by decide +kernel)) rfl
theorem mt_412 : Cond.selects RX6 yX6_person yX6_person ∈ mm_tb := mm_tb_in (List.mem_of_getElem? (i := 412) (by decide +kernel)) rfl
theorem mt_523 : Cond.code yX6_at cX6_at 4 (some .int) ∈ mm_tb := mm_tb_in (List.mem_of_getElem? (i := 523) (by decide +kernel)) rfl
theorem mt_759 : Cond.methodLink RX6 334 yX6_at ∈ mm_tb := mm_tb_in (List.mem_of_getElem? (i := 759) (by decide +kernel)) rfl
theorem mt_521 : Cond.instanceMethod yX6_at ∈ mm_tb := mm_tb_in (List.mem_of_getElem? (i := 521) (by decide +kernel)) rfl
theorem mt_522 : Cond.selects RX6 yX6_at yX6_at ∈ mm_tb := mm_tb_in (List.mem_of_getElem? (i := 522) (by decide +kernel)) rfl
theorem mt_537 : Cond.code yX6_clear cX6_clear 3 (some .int) ∈ mm_tb := mm_tb_in (List.mem_of_getElem? (i := 537) (by decide +kernel)) rfl
theorem mt_760 : Cond.methodLink RX6 337 yX6_clear ∈ mm_tb := mm_tb_in (List.mem_of_getElem? (i := 760) (by decide +kernel)) rfl
theorem mt_535 : Cond.instanceMethod yX6_clear ∈ mm_tb := mm_tb_in (List.mem_of_getElem? (i := 535) (by decide +kernel)) rfl
theorem mt_536 : Cond.selects RX6 yX6_clear yX6_clear ∈ mm_tb := mm_tb_in (List.mem_of_getElem? (i := 536) (by decide +kernel)) rfl
theorem mt_588 : Cond.code yX6_live cX6_live 3 (some .int) ∈ mm_tb := mm_tb_in (List.mem_of_getElem? (i := 588) (by decide +kernel)) rfl
theorem mt_761 : Cond.methodLink RX6 340 yX6_live ∈ mm_tb := mm_tb_in (List.mem_of_getElem? (i := 761) (by decide +kernel)) rfl
theorem mt_586 : Cond.instanceMethod yX6_live ∈ mm_tb := mm_tb_in (List.mem_of_getElem? (i := 586) (by decide +kernel)) rfl
theorem mt_587 : Cond.selects RX6 yX6_live yX6_live ∈ mm_tb := mm_tb_in (List.mem_of_getElem? (i := 587) (by decide +kernel)) rfl
theorem mt_643 : Cond.code yX6_sort cX6_sort 4 (some .int) ∈ mm_tb := mm_tb_in (List.mem_of_getElem? (i := 643) (by decide +kernel)) rfl
theorem mt_762 : Cond.methodLink RX6 343 yX6_sort ∈ mm_tb := mm_tb_in (List.mem_of_getElem? (i := 762) (by decide +kernel)) rfl
theorem mt_641 : Cond.instanceMethod yX6_sort ∈ mm_tb := mm_tb_in (List.mem_of_getElem? (i := 641) (by decide +kernel)) rfl
theorem mt_642 : Cond.selects RX6 yX6_sort yX6_sort ∈ mm_tb := mm_tb_in (List.mem_of_getElem? (i := 642) (by decide +kernel)) rfl
theorem mt_550 : Cond.code yX6_bank cX6_bank 6 (some .int) ∈ mm_tb := mm_tb_in (List.mem_of_getElem? (i := 550) (by decide +kernel)) rfl
theorem mt_763 : Cond.methodLink RX6 287 yX6_bank ∈ mm_tb := mm_tb_in (List.mem_of_getElem? (i := 763) (by decide +kernel)) rfl
theorem mt_548 : Cond.instanceMethod yX6_bank ∈ mm_tb := mm_tb_in (List.mem_of_getElem? (i := 548) (by decide +kernel)) rfl
theorem mt_549 : Cond.selects RX6 yX6_bank yX6_bank ∈ mm_tb := mm_tb_in (List.mem_of_getElem? (i := 549) (by decide +kernel)) rfl
theorem mt_554 : Cond.code yX6_ring cX6_ring 7 (some .int) ∈ mm_tb := mm_tb_in (List.mem_of_getElem? (i := 554) (by decide +kernel)) rfl
theorem mt_764 : Cond.methodLink RX6 290 yX6_ring ∈ mm_tb := mm_tb_in (List.mem_of_getElem? (i := 764) (by decide +kernel)) rfl
theorem mt_552 : Cond.instanceMethod yX6_ring ∈ mm_tb := mm_tb_in (List.mem_of_getElem? (i := 552) (by decide +kernel)) rfl
theorem mt_553 : Cond.selects RX6 yX6_ring yX6_ring ∈ mm_tb := mm_tb_in (List.mem_of_getElem? (i := 553) (by decide +kernel)) rfl
theorem mt_570 : Cond.code yX6_silent cX6_silent 3 (some .int) ∈ mm_tb := mm_tb_in (List.mem_of_getElem? (i := 570) (by decide +kernel)) rfl
theorem mt_765 : Cond.methodLink RX6 293 yX6_silent ∈ mm_tb := mm_tb_in (List.mem_of_getElem? (i := 765) (by decide +kernel)) rfl
theorem mt_568 : Cond.instanceMethod yX6_silent ∈ mm_tb := mm_tb_in (List.mem_of_getElem? (i := 568) (by decide +kernel)) rfl
theorem mt_569 : Cond.selects RX6 yX6_silent yX6_silent ∈ mm_tb := mm_tb_in (List.mem_of_getElem? (i := 569) (by decide +kernel)) rfl
theorem mt_574 : Cond.code yX6_meet cX6_meet 9 (some .int) ∈ mm_tb := mm_tb_in (List.mem_of_getElem? (i := 574) (by decide +kernel)) rfl
theorem mt_766 : Cond.methodLink RX6 296 yX6_meet ∈ mm_tb := mm_tb_in (List.mem_of_getElem? (i := 766) (by decide +kernel)) rfl
theorem mt_572 : Cond.instanceMethod yX6_meet ∈ mm_tb := mm_tb_in (List.mem_of_getElem? (i := 572) (by decide +kernel)) rfl
theorem mt_573 : Cond.selects RX6 yX6_meet yX6_meet ∈ mm_tb := mm_tb_in (List.mem_of_getElem? (i := 573) (by decide +kernel)) rfl
theorem mt_593 : Cond.code yX6_voice cX6_voice 6 (some .int) ∈ mm_tb := mm_tb_in (List.mem_of_getElem? (i := 593) (by decide +kernel)) rfl
theorem mt_767 : Cond.methodLink RX6 299 yX6_voice ∈ mm_tb := mm_tb_in (List.mem_of_getElem? (i := 767) (by decide +kernel)) rfl
theorem mt_591 : Cond.instanceMethod yX6_voice ∈ mm_tb := mm_tb_in (List.mem_of_getElem? (i := 591) (by decide +kernel)) rfl
theorem mt_592 : Cond.selects RX6 yX6_voice yX6_voice ∈ mm_tb := mm_tb_in (List.mem_of_getElem? (i := 592) (by decide +kernel)) rfl
theorem mt_601 : Cond.code yX6_spare cX6_spare 3 (some .int) ∈ mm_tb := mm_tb_in (List.mem_of_getElem? (i := 601) (by decide +kernel)) rfl
theorem mt_768 : Cond.methodLink RX6 302 yX6_spare ∈ mm_tb := mm_tb_in (List.mem_of_getElem? (i := 768) (by decide +kernel)) rfl
theorem mt_599 : Cond.instanceMethod yX6_spare ∈ mm_tb := mm_tb_in (List.mem_of_getElem? (i := 599) (by decide +kernel)) rfl
theorem mt_600 : Cond.selects RX6 yX6_spare yX6_spare ∈ mm_tb := mm_tb_in (List.mem_of_getElem? (i := 600) (by decide +kernel)) rfl
theorem mt_634 : Cond.code yX6_never cX6_never 3 (some .int) ∈ mm_tb := mm_tb_in (List.mem_of_getElem? (i := 634) (by decide +kernel)) rfl
theorem mt_769 : Cond.methodLink RX6 305 yX6_never ∈ mm_tb := mm_tb_in (List.mem_of_getElem? (i := 769) (by decide +kernel)) rfl
theorem mt_632 : Cond.instanceMethod yX6_never ∈ mm_tb := mm_tb_in (List.mem_of_getElem? (i := 632) (by decide +kernel)) rfl
theorem mt_633 : Cond.selects RX6 yX6_never yX6_never ∈ mm_tb := mm_tb_in (List.mem_of_getElem? (i := 633) (by decide +kernel)) rfl
theorem mt_678 : Cond.code yX6_lives cX6_lives 4 (some .int) ∈ mm_tb := mm_tb_in (List.mem_of_getElem? (i := 678) (by decide +kernel)) rfl
theorem mt_770 : Cond.methodLink RX6 308 yX6_lives ∈ mm_tb := mm_tb_in (List.mem_of_getElem? (i := 770) (by decide +kernel)) rfl
theorem mt_676 : Cond.instanceMethod yX6_lives ∈ mm_tb := mm_tb_in (List.mem_of_getElem? (i := 676) (by decide +kernel)) rfl
theorem mt_677 : Cond.selects RX6 yX6_lives yX6_lives ∈ mm_tb := mm_tb_in (List.mem_of_getElem? (i := 677) (by decide +kernel)) rfl
theorem mt_877 : Cond.code yX7_isSheet cX7_isSheet 1 (some .boolean) ∈ mm_tb := mm_tb_in (List.mem_of_getElem? (i := 877) (by decide +kernel)) rfl
theorem mt_76 : Cond.initialized RX7 ∈ mm_tb := mm_tb_in (List.mem_of_getElem? (i := 76) (by decide +kernel)) rfl
theorem mt_876 : Cond.static yX7_isSheet ∈ mm_tb := mm_tb_in (List.mem_of_getElem? (i := 876) (by decide +kernel)) rfl
theorem mt_875 : Cond.methodLink RX7 85 yX7_isSheet ∈ mm_tb := mm_tb_in (List.mem_of_getElem? (i := 875) (by decide +kernel)) rfl
theorem mt_881 : Cond.code yX7_in cX7_in 6 (some .boolean) ∈ mm_tb := mm_tb_in (List.mem_of_getElem? (i := 881) (by decide +kernel)) rfl
theorem mt_880 : Cond.static yX7_in ∈ mm_tb := mm_tb_in (List.mem_of_getElem? (i := 880) (by decide +kernel)) rfl
theorem mt_879 : Cond.methodLink RX7 76 yX7_in ∈ mm_tb := mm_tb_in (List.mem_of_getElem? (i := 879) (by decide +kernel)) rfl
theorem mt_886 : Cond.code yX7_finds cX7_finds 2 (some .int) ∈ mm_tb := mm_tb_in (List.mem_of_getElem? (i := 886) (by decide +kernel)) rfl
theorem mt_883 : Cond.methodLink RX7 91 yX7_finds ∈ mm_tb := mm_tb_in (List.mem_of_getElem? (i := 883) (by decide +kernel)) rfl
theorem mt_885 : Cond.instanceMethod yX7_finds ∈ mm_tb := mm_tb_in (List.mem_of_getElem? (i := 885) (by decide +kernel)) rfl
theorem mt_21 : Cond.selects RX7 yX7_finds yX7_finds ∈ mm_tb := mm_tb_in (List.mem_of_getElem? (i := 21) (by decide +kernel)) rfl
theorem mt_898 : Cond.code yX7_lacks cX7_lacks 4 (some .int) ∈ mm_tb := mm_tb_in (List.mem_of_getElem? (i := 898) (by decide +kernel)) rfl
theorem mt_895 : Cond.methodLink RX7 95 yX7_lacks ∈ mm_tb := mm_tb_in (List.mem_of_getElem? (i := 895) (by decide +kernel)) rfl
theorem mt_897 : Cond.instanceMethod yX7_lacks ∈ mm_tb := mm_tb_in (List.mem_of_getElem? (i := 897) (by decide +kernel)) rfl
theorem mt_22 : Cond.selects RX7 yX7_lacks yX7_lacks ∈ mm_tb := mm_tb_in (List.mem_of_getElem? (i := 22) (by decide +kernel)) rfl
theorem mt_901 : Cond.code yX7_cut cX7_cut 2 (some .int) ∈ mm_tb := mm_tb_in (List.mem_of_getElem? (i := 901) (by decide +kernel)) rfl
theorem mt_900 : Cond.static yX7_cut ∈ mm_tb := mm_tb_in (List.mem_of_getElem? (i := 900) (by decide +kernel)) rfl
theorem mt_899 : Cond.methodLink RX7 99 yX7_cut ∈ mm_tb := mm_tb_in (List.mem_of_getElem? (i := 899) (by decide +kernel)) rfl
theorem mt_917 : Cond.code yX7_isText cX7_isText 1 (some .boolean) ∈ mm_tb := mm_tb_in (List.mem_of_getElem? (i := 917) (by decide +kernel)) rfl
theorem mt_916 : Cond.static yX7_isText ∈ mm_tb := mm_tb_in (List.mem_of_getElem? (i := 916) (by decide +kernel)) rfl
theorem mt_915 : Cond.methodLink RX7 104 yX7_isText ∈ mm_tb := mm_tb_in (List.mem_of_getElem? (i := 915) (by decide +kernel)) rfl
theorem mt_934 : Cond.code yX7_readsText cX7_readsText 2 (some .int) ∈ mm_tb := mm_tb_in (List.mem_of_getElem? (i := 934) (by decide +kernel)) rfl
theorem mt_931 : Cond.methodLink RX7 147 yX7_readsText ∈ mm_tb := mm_tb_in (List.mem_of_getElem? (i := 931) (by decide +kernel)) rfl
theorem mt_933 : Cond.instanceMethod yX7_readsText ∈ mm_tb := mm_tb_in (List.mem_of_getElem? (i := 933) (by decide +kernel)) rfl
theorem mt_23 : Cond.selects RX7 yX7_readsText yX7_readsText ∈ mm_tb := mm_tb_in (List.mem_of_getElem? (i := 23) (by decide +kernel)) rfl
theorem mt_938 : Cond.code yX7_readsPeople cX7_readsPeople 5 (some .int) ∈ mm_tb := mm_tb_in (List.mem_of_getElem? (i := 938) (by decide +kernel)) rfl
theorem mt_935 : Cond.methodLink RX7 137 yX7_readsPeople ∈ mm_tb := mm_tb_in (List.mem_of_getElem? (i := 935) (by decide +kernel)) rfl
theorem mt_937 : Cond.instanceMethod yX7_readsPeople ∈ mm_tb := mm_tb_in (List.mem_of_getElem? (i := 937) (by decide +kernel)) rfl
theorem mt_24 : Cond.selects RX7 yX7_readsPeople yX7_readsPeople ∈ mm_tb := mm_tb_in (List.mem_of_getElem? (i := 24) (by decide +kernel)) rfl
theorem mt_941 : Cond.code yX7_personOf cX7_personOf 2 (some .int) ∈ mm_tb := mm_tb_in (List.mem_of_getElem? (i := 941) (by decide +kernel)) rfl
theorem mt_940 : Cond.static yX7_personOf ∈ mm_tb := mm_tb_in (List.mem_of_getElem? (i := 940) (by decide +kernel)) rfl
theorem mt_939 : Cond.methodLink RX7 119 yX7_personOf ∈ mm_tb := mm_tb_in (List.mem_of_getElem? (i := 939) (by decide +kernel)) rfl
theorem mt_944 : Cond.code yX7_dayOf cX7_dayOf 1 (some .int) ∈ mm_tb := mm_tb_in (List.mem_of_getElem? (i := 944) (by decide +kernel)) rfl
theorem mt_943 : Cond.static yX7_dayOf ∈ mm_tb := mm_tb_in (List.mem_of_getElem? (i := 943) (by decide +kernel)) rfl
theorem mt_942 : Cond.methodLink RX7 113 yX7_dayOf ∈ mm_tb := mm_tb_in (List.mem_of_getElem? (i := 942) (by decide +kernel)) rfl
theorem mt_950 : Cond.code yX7_readsWords cX7_readsWords 5 (some .int) ∈ mm_tb := mm_tb_in (List.mem_of_getElem? (i := 950) (by decide +kernel)) rfl
theorem mt_947 : Cond.methodLink RX7 141 yX7_readsWords ∈ mm_tb := mm_tb_in (List.mem_of_getElem? (i := 947) (by decide +kernel)) rfl
theorem mt_949 : Cond.instanceMethod yX7_readsWords ∈ mm_tb := mm_tb_in (List.mem_of_getElem? (i := 949) (by decide +kernel)) rfl
theorem mt_25 : Cond.selects RX7 yX7_readsWords yX7_readsWords ∈ mm_tb := mm_tb_in (List.mem_of_getElem? (i := 25) (by decide +kernel)) rfl
theorem mt_953 : Cond.code yX7_wordOf cX7_wordOf 2 (some .int) ∈ mm_tb := mm_tb_in (List.mem_of_getElem? (i := 953) (by decide +kernel)) rfl
theorem mt_952 : Cond.static yX7_wordOf ∈ mm_tb := mm_tb_in (List.mem_of_getElem? (i := 952) (by decide +kernel)) rfl
theorem mt_951 : Cond.methodLink RX7 128 yX7_wordOf ∈ mm_tb := mm_tb_in (List.mem_of_getElem? (i := 951) (by decide +kernel)) rfl
theorem mt_956 : Cond.code yX7_figureOf cX7_figureOf 3 (some .int) ∈ mm_tb := mm_tb_in (List.mem_of_getElem? (i := 956) (by decide +kernel)) rfl
theorem mt_955 : Cond.static yX7_figureOf ∈ mm_tb := mm_tb_in (List.mem_of_getElem? (i := 955) (by decide +kernel)) rfl
theorem mt_954 : Cond.methodLink RX7 122 yX7_figureOf ∈ mm_tb := mm_tb_in (List.mem_of_getElem? (i := 954) (by decide +kernel)) rfl
theorem mt_960 : Cond.code yX7_readsMeetings cX7_readsMeetings 5 (some .int) ∈ mm_tb := mm_tb_in (List.mem_of_getElem? (i := 960) (by decide +kernel)) rfl
theorem mt_957 : Cond.methodLink RX7 144 yX7_readsMeetings ∈ mm_tb := mm_tb_in (List.mem_of_getElem? (i := 957) (by decide +kernel)) rfl
theorem mt_959 : Cond.instanceMethod yX7_readsMeetings ∈ mm_tb := mm_tb_in (List.mem_of_getElem? (i := 959) (by decide +kernel)) rfl
theorem mt_26 : Cond.selects RX7 yX7_readsMeetings yX7_readsMeetings ∈ mm_tb := mm_tb_in (List.mem_of_getElem? (i := 26) (by decide +kernel)) rfl
theorem mt_963 : Cond.code yX7_meetingOf cX7_meetingOf 2 (some .int) ∈ mm_tb := mm_tb_in (List.mem_of_getElem? (i := 963) (by decide +kernel)) rfl
theorem mt_962 : Cond.static yX7_meetingOf ∈ mm_tb := mm_tb_in (List.mem_of_getElem? (i := 962) (by decide +kernel)) rfl
theorem mt_961 : Cond.methodLink RX7 134 yX7_meetingOf ∈ mm_tb := mm_tb_in (List.mem_of_getElem? (i := 961) (by decide +kernel)) rfl
theorem mt_971 : Cond.code yX7_isPerson cX7_isPerson 2 (some .boolean) ∈ mm_tb := mm_tb_in (List.mem_of_getElem? (i := 971) (by decide +kernel)) rfl
theorem mt_968 : Cond.methodLink RX7 152 yX7_isPerson ∈ mm_tb := mm_tb_in (List.mem_of_getElem? (i := 968) (by decide +kernel)) rfl
theorem mt_970 : Cond.instanceMethod yX7_isPerson ∈ mm_tb := mm_tb_in (List.mem_of_getElem? (i := 970) (by decide +kernel)) rfl
theorem mt_27 : Cond.selects RX7 yX7_isPerson yX7_isPerson ∈ mm_tb := mm_tb_in (List.mem_of_getElem? (i := 27) (by decide +kernel)) rfl
theorem mt_974 : Cond.code yX7_isTwo cX7_isTwo 1 (some .boolean) ∈ mm_tb := mm_tb_in (List.mem_of_getElem? (i := 974) (by decide +kernel)) rfl
theorem mt_973 : Cond.static yX7_isTwo ∈ mm_tb := mm_tb_in (List.mem_of_getElem? (i := 973) (by decide +kernel)) rfl
theorem mt_972 : Cond.methodLink RX7 155 yX7_isTwo ∈ mm_tb := mm_tb_in (List.mem_of_getElem? (i := 972) (by decide +kernel)) rfl
theorem mt_982 : Cond.code yX7_isWord cX7_isWord 2 (some .boolean) ∈ mm_tb := mm_tb_in (List.mem_of_getElem? (i := 982) (by decide +kernel)) rfl
theorem mt_979 : Cond.methodLink RX7 158 yX7_isWord ∈ mm_tb := mm_tb_in (List.mem_of_getElem? (i := 979) (by decide +kernel)) rfl
theorem mt_981 : Cond.instanceMethod yX7_isWord ∈ mm_tb := mm_tb_in (List.mem_of_getElem? (i := 981) (by decide +kernel)) rfl
theorem mt_28 : Cond.selects RX7 yX7_isWord yX7_isWord ∈ mm_tb := mm_tb_in (List.mem_of_getElem? (i := 28) (by decide +kernel)) rfl
theorem mt_991 : Cond.code yX7_meetingBy cX7_meetingBy 3 (some .int) ∈ mm_tb := mm_tb_in (List.mem_of_getElem? (i := 991) (by decide +kernel)) rfl
theorem mt_988 : Cond.methodLink RX7 163 yX7_meetingBy ∈ mm_tb := mm_tb_in (List.mem_of_getElem? (i := 988) (by decide +kernel)) rfl
theorem mt_990 : Cond.instanceMethod yX7_meetingBy ∈ mm_tb := mm_tb_in (List.mem_of_getElem? (i := 990) (by decide +kernel)) rfl
theorem mt_29 : Cond.selects RX7 yX7_meetingBy yX7_meetingBy ∈ mm_tb := mm_tb_in (List.mem_of_getElem? (i := 29) (by decide +kernel)) rfl
theorem mt_998 : Cond.code yX7_isDay cX7_isDay 1 (some .boolean) ∈ mm_tb := mm_tb_in (List.mem_of_getElem? (i := 998) (by decide +kernel)) rfl
theorem mt_997 : Cond.static yX7_isDay ∈ mm_tb := mm_tb_in (List.mem_of_getElem? (i := 997) (by decide +kernel)) rfl
theorem mt_996 : Cond.methodLink RX7 166 yX7_isDay ∈ mm_tb := mm_tb_in (List.mem_of_getElem? (i := 996) (by decide +kernel)) rfl
theorem mt_995 : Cond.code yX7_echo cX7_echo 3 (some .int) ∈ mm_tb := mm_tb_in (List.mem_of_getElem? (i := 995) (by decide +kernel)) rfl
theorem mt_1009 : Cond.methodLink RX7 174 yX7_echo ∈ mm_tb := mm_tb_in (List.mem_of_getElem? (i := 1009) (by decide +kernel)) rfl
theorem mt_993 : Cond.instanceMethod yX7_echo ∈ mm_tb := mm_tb_in (List.mem_of_getElem? (i := 993) (by decide +kernel)) rfl
theorem mt_994 : Cond.selects RX7 yX7_echo yX7_echo ∈ mm_tb := mm_tb_in (List.mem_of_getElem? (i := 994) (by decide +kernel)) rfl
theorem mt_1017 : Cond.code yX7_find cX7_find 1 none ∈ mm_tb := mm_tb_in (List.mem_of_getElem? (i := 1017) (by decide +kernel)) rfl
theorem mt_1014 : Cond.methodLink RX7 221 yX7_find ∈ mm_tb := mm_tb_in (List.mem_of_getElem? (i := 1014) (by decide +kernel)) rfl
theorem mt_1016 : Cond.instanceMethod yX7_find ∈ mm_tb := mm_tb_in (List.mem_of_getElem? (i := 1016) (by decide +kernel)) rfl
theorem mt_30 : Cond.selects RX7 yX7_find yX7_find ∈ mm_tb := mm_tb_in (List.mem_of_getElem? (i := 30) (by decide +kernel)) rfl
theorem mt_1021 : Cond.code yX7_runs cX7_runs 3 none ∈ mm_tb := mm_tb_in (List.mem_of_getElem? (i := 1021) (by decide +kernel)) rfl
theorem mt_1018 : Cond.methodLink RX7 218 yX7_runs ∈ mm_tb := mm_tb_in (List.mem_of_getElem? (i := 1018) (by decide +kernel)) rfl
theorem mt_1020 : Cond.instanceMethod yX7_runs ∈ mm_tb := mm_tb_in (List.mem_of_getElem? (i := 1020) (by decide +kernel)) rfl
theorem mt_31 : Cond.selects RX7 yX7_runs yX7_runs ∈ mm_tb := mm_tb_in (List.mem_of_getElem? (i := 31) (by decide +kernel)) rfl
theorem mt_1025 : Cond.code yX7_passes cX7_passes 3 none ∈ mm_tb := mm_tb_in (List.mem_of_getElem? (i := 1025) (by decide +kernel)) rfl
theorem mt_1022 : Cond.methodLink RX7 215 yX7_passes ∈ mm_tb := mm_tb_in (List.mem_of_getElem? (i := 1022) (by decide +kernel)) rfl
theorem mt_1024 : Cond.instanceMethod yX7_passes ∈ mm_tb := mm_tb_in (List.mem_of_getElem? (i := 1024) (by decide +kernel)) rfl
theorem mt_32 : Cond.selects RX7 yX7_passes yX7_passes ∈ mm_tb := mm_tb_in (List.mem_of_getElem? (i := 32) (by decide +kernel)) rfl
theorem mt_1029 : Cond.code yX7_grows cX7_grows 2 none ∈ mm_tb := mm_tb_in (List.mem_of_getElem? (i := 1029) (by decide +kernel)) rfl
theorem mt_1026 : Cond.methodLink RX7 199 yX7_grows ∈ mm_tb := mm_tb_in (List.mem_of_getElem? (i := 1026) (by decide +kernel)) rfl
theorem mt_1028 : Cond.instanceMethod yX7_grows ∈ mm_tb := mm_tb_in (List.mem_of_getElem? (i := 1028) (by decide +kernel)) rfl
theorem mt_33 : Cond.selects RX7 yX7_grows yX7_grows ∈ mm_tb := mm_tb_in (List.mem_of_getElem? (i := 33) (by decide +kernel)) rfl
theorem mt_1032 : Cond.code yX7_lesser cX7_lesser 2 (some .int) ∈ mm_tb := mm_tb_in (List.mem_of_getElem? (i := 1032) (by decide +kernel)) rfl
theorem mt_1031 : Cond.static yX7_lesser ∈ mm_tb := mm_tb_in (List.mem_of_getElem? (i := 1031) (by decide +kernel)) rfl
theorem mt_1030 : Cond.methodLink RX7 183 yX7_lesser ∈ mm_tb := mm_tb_in (List.mem_of_getElem? (i := 1030) (by decide +kernel)) rfl
theorem mt_1036 : Cond.code yX7_talk cX7_talk 4 none ∈ mm_tb := mm_tb_in (List.mem_of_getElem? (i := 1036) (by decide +kernel)) rfl
theorem mt_1033 : Cond.methodLink RX7 202 yX7_talk ∈ mm_tb := mm_tb_in (List.mem_of_getElem? (i := 1033) (by decide +kernel)) rfl
theorem mt_1035 : Cond.instanceMethod yX7_talk ∈ mm_tb := mm_tb_in (List.mem_of_getElem? (i := 1035) (by decide +kernel)) rfl
theorem mt_34 : Cond.selects RX7 yX7_talk yX7_talk ∈ mm_tb := mm_tb_in (List.mem_of_getElem? (i := 34) (by decide +kernel)) rfl
theorem mt_1040 : Cond.code yX7_isDead cX7_isDead 3 (some .boolean) ∈ mm_tb := mm_tb_in (List.mem_of_getElem? (i := 1040) (by decide +kernel)) rfl
theorem mt_1037 : Cond.methodLink RX7 192 yX7_isDead ∈ mm_tb := mm_tb_in (List.mem_of_getElem? (i := 1037) (by decide +kernel)) rfl
theorem mt_1039 : Cond.instanceMethod yX7_isDead ∈ mm_tb := mm_tb_in (List.mem_of_getElem? (i := 1039) (by decide +kernel)) rfl
theorem mt_35 : Cond.selects RX7 yX7_isDead yX7_isDead ∈ mm_tb := mm_tb_in (List.mem_of_getElem? (i := 35) (by decide +kernel)) rfl
theorem mt_1044 : Cond.code yX7_says cX7_says 6 none ∈ mm_tb := mm_tb_in (List.mem_of_getElem? (i := 1044) (by decide +kernel)) rfl
theorem mt_1041 : Cond.methodLink RX7 195 yX7_says ∈ mm_tb := mm_tb_in (List.mem_of_getElem? (i := 1041) (by decide +kernel)) rfl
theorem mt_1043 : Cond.instanceMethod yX7_says ∈ mm_tb := mm_tb_in (List.mem_of_getElem? (i := 1043) (by decide +kernel)) rfl
theorem mt_36 : Cond.selects RX7 yX7_says yX7_says ∈ mm_tb := mm_tb_in (List.mem_of_getElem? (i := 36) (by decide +kernel)) rfl
theorem mt_1048 : Cond.code yX7_isEcho cX7_isEcho 5 (some .boolean) ∈ mm_tb := mm_tb_in (List.mem_of_getElem? (i := 1048) (by decide +kernel)) rfl
theorem mt_1045 : Cond.methodLink RX7 186 yX7_isEcho ∈ mm_tb := mm_tb_in (List.mem_of_getElem? (i := 1045) (by decide +kernel)) rfl
theorem mt_1047 : Cond.instanceMethod yX7_isEcho ∈ mm_tb := mm_tb_in (List.mem_of_getElem? (i := 1047) (by decide +kernel)) rfl
theorem mt_37 : Cond.selects RX7 yX7_isEcho yX7_isEcho ∈ mm_tb := mm_tb_in (List.mem_of_getElem? (i := 37) (by decide +kernel)) rfl
theorem mt_1051 : Cond.code yX7_isIn cX7_isIn 2 (some .boolean) ∈ mm_tb := mm_tb_in (List.mem_of_getElem? (i := 1051) (by decide +kernel)) rfl
theorem mt_1050 : Cond.static yX7_isIn ∈ mm_tb := mm_tb_in (List.mem_of_getElem? (i := 1050) (by decide +kernel)) rfl
theorem mt_1049 : Cond.methodLink RX7 179 yX7_isIn ∈ mm_tb := mm_tb_in (List.mem_of_getElem? (i := 1049) (by decide +kernel)) rfl
theorem mt_1054 : Cond.code yX7_greater cX7_greater 2 (some .int) ∈ mm_tb := mm_tb_in (List.mem_of_getElem? (i := 1054) (by decide +kernel)) rfl
theorem mt_1053 : Cond.static yX7_greater ∈ mm_tb := mm_tb_in (List.mem_of_getElem? (i := 1053) (by decide +kernel)) rfl
theorem mt_1052 : Cond.methodLink RX7 189 yX7_greater ∈ mm_tb := mm_tb_in (List.mem_of_getElem? (i := 1052) (by decide +kernel)) rfl
theorem mt_1058 : Cond.code yX7_dies cX7_dies 5 none ∈ mm_tb := mm_tb_in (List.mem_of_getElem? (i := 1058) (by decide +kernel)) rfl
theorem mt_1055 : Cond.methodLink RX7 211 yX7_dies ∈ mm_tb := mm_tb_in (List.mem_of_getElem? (i := 1055) (by decide +kernel)) rfl
theorem mt_1057 : Cond.instanceMethod yX7_dies ∈ mm_tb := mm_tb_in (List.mem_of_getElem? (i := 1057) (by decide +kernel)) rfl
theorem mt_38 : Cond.selects RX7 yX7_dies yX7_dies ∈ mm_tb := mm_tb_in (List.mem_of_getElem? (i := 38) (by decide +kernel)) rfl
theorem mt_1062 : Cond.code yX7_standsBy cX7_standsBy 4 (some .int) ∈ mm_tb := mm_tb_in (List.mem_of_getElem? (i := 1062) (by decide +kernel)) rfl
theorem mt_1059 : Cond.methodLink RX7 224 yX7_standsBy ∈ mm_tb := mm_tb_in (List.mem_of_getElem? (i := 1059) (by decide +kernel)) rfl
theorem mt_1061 : Cond.instanceMethod yX7_standsBy ∈ mm_tb := mm_tb_in (List.mem_of_getElem? (i := 1061) (by decide +kernel)) rfl
theorem mt_39 : Cond.selects RX7 yX7_standsBy yX7_standsBy ∈ mm_tb := mm_tb_in (List.mem_of_getElem? (i := 39) (by decide +kernel)) rfl
theorem mt_1070 : Cond.code yX7_atOf cX7_atOf 4 (some .int) ∈ mm_tb := mm_tb_in (List.mem_of_getElem? (i := 1070) (by decide +kernel)) rfl
theorem mt_1067 : Cond.methodLink RX7 230 yX7_atOf ∈ mm_tb := mm_tb_in (List.mem_of_getElem? (i := 1067) (by decide +kernel)) rfl
theorem mt_1069 : Cond.instanceMethod yX7_atOf ∈ mm_tb := mm_tb_in (List.mem_of_getElem? (i := 1069) (by decide +kernel)) rfl
theorem mt_40 : Cond.selects RX7 yX7_atOf yX7_atOf ∈ mm_tb := mm_tb_in (List.mem_of_getElem? (i := 40) (by decide +kernel)) rfl
theorem mt_1074 : Cond.code yX7_openOf cX7_openOf 6 (some .int) ∈ mm_tb := mm_tb_in (List.mem_of_getElem? (i := 1074) (by decide +kernel)) rfl
theorem mt_1071 : Cond.methodLink RX7 227 yX7_openOf ∈ mm_tb := mm_tb_in (List.mem_of_getElem? (i := 1071) (by decide +kernel)) rfl
theorem mt_1073 : Cond.instanceMethod yX7_openOf ∈ mm_tb := mm_tb_in (List.mem_of_getElem? (i := 1073) (by decide +kernel)) rfl
theorem mt_41 : Cond.selects RX7 yX7_openOf yX7_openOf ∈ mm_tb := mm_tb_in (List.mem_of_getElem? (i := 41) (by decide +kernel)) rfl
theorem mt_1082 : Cond.code yX7_clearOf cX7_clearOf 4 (some .int) ∈ mm_tb := mm_tb_in (List.mem_of_getElem? (i := 1082) (by decide +kernel)) rfl
theorem mt_1079 : Cond.methodLink RX7 236 yX7_clearOf ∈ mm_tb := mm_tb_in (List.mem_of_getElem? (i := 1079) (by decide +kernel)) rfl
theorem mt_1081 : Cond.instanceMethod yX7_clearOf ∈ mm_tb := mm_tb_in (List.mem_of_getElem? (i := 1081) (by decide +kernel)) rfl
theorem mt_42 : Cond.selects RX7 yX7_clearOf yX7_clearOf ∈ mm_tb := mm_tb_in (List.mem_of_getElem? (i := 42) (by decide +kernel)) rfl
theorem mt_1086 : Cond.code yX7_isLost cX7_isLost 5 (some .boolean) ∈ mm_tb := mm_tb_in (List.mem_of_getElem? (i := 1086) (by decide +kernel)) rfl
theorem mt_1083 : Cond.methodLink RX7 233 yX7_isLost ∈ mm_tb := mm_tb_in (List.mem_of_getElem? (i := 1083) (by decide +kernel)) rfl
theorem mt_1085 : Cond.instanceMethod yX7_isLost ∈ mm_tb := mm_tb_in (List.mem_of_getElem? (i := 1085) (by decide +kernel)) rfl
theorem mt_43 : Cond.selects RX7 yX7_isLost yX7_isLost ∈ mm_tb := mm_tb_in (List.mem_of_getElem? (i := 43) (by decide +kernel)) rfl
theorem mt_1094 : Cond.code yX7_bankOf cX7_bankOf 6 (some .int) ∈ mm_tb := mm_tb_in (List.mem_of_getElem? (i := 1094) (by decide +kernel)) rfl
theorem mt_1091 : Cond.methodLink RX7 239 yX7_bankOf ∈ mm_tb := mm_tb_in (List.mem_of_getElem? (i := 1091) (by decide +kernel)) rfl
theorem mt_1093 : Cond.instanceMethod yX7_bankOf ∈ mm_tb := mm_tb_in (List.mem_of_getElem? (i := 1093) (by decide +kernel)) rfl
theorem mt_44 : Cond.selects RX7 yX7_bankOf yX7_bankOf ∈ mm_tb := mm_tb_in (List.mem_of_getElem? (i := 44) (by decide +kernel)) rfl
theorem mt_1102 : Cond.code yX7_ringOf cX7_ringOf 7 (some .int) ∈ mm_tb := mm_tb_in (List.mem_of_getElem? (i := 1102) (by decide +kernel)) rfl
theorem mt_1099 : Cond.methodLink RX7 248 yX7_ringOf ∈ mm_tb := mm_tb_in (List.mem_of_getElem? (i := 1099) (by decide +kernel)) rfl
theorem mt_1101 : Cond.instanceMethod yX7_ringOf ∈ mm_tb := mm_tb_in (List.mem_of_getElem? (i := 1101) (by decide +kernel)) rfl
theorem mt_45 : Cond.selects RX7 yX7_ringOf yX7_ringOf ∈ mm_tb := mm_tb_in (List.mem_of_getElem? (i := 45) (by decide +kernel)) rfl
theorem mt_1106 : Cond.code yX7_debts cX7_debts 3 none ∈ mm_tb := mm_tb_in (List.mem_of_getElem? (i := 1106) (by decide +kernel)) rfl
theorem mt_1103 : Cond.methodLink RX7 242 yX7_debts ∈ mm_tb := mm_tb_in (List.mem_of_getElem? (i := 1103) (by decide +kernel)) rfl
theorem mt_1105 : Cond.instanceMethod yX7_debts ∈ mm_tb := mm_tb_in (List.mem_of_getElem? (i := 1105) (by decide +kernel)) rfl
theorem mt_46 : Cond.selects RX7 yX7_debts yX7_debts ∈ mm_tb := mm_tb_in (List.mem_of_getElem? (i := 46) (by decide +kernel)) rfl
theorem mt_1110 : Cond.code yX7_ringWith cX7_ringWith 6 (some .int) ∈ mm_tb := mm_tb_in (List.mem_of_getElem? (i := 1110) (by decide +kernel)) rfl
theorem mt_1107 : Cond.methodLink RX7 245 yX7_ringWith ∈ mm_tb := mm_tb_in (List.mem_of_getElem? (i := 1107) (by decide +kernel)) rfl
theorem mt_1109 : Cond.instanceMethod yX7_ringWith ∈ mm_tb := mm_tb_in (List.mem_of_getElem? (i := 1109) (by decide +kernel)) rfl
theorem mt_47 : Cond.selects RX7 yX7_ringWith yX7_ringWith ∈ mm_tb := mm_tb_in (List.mem_of_getElem? (i := 47) (by decide +kernel)) rfl
theorem mt_1118 : Cond.code yX7_silentNow cX7_silentNow 3 (some .int) ∈ mm_tb := mm_tb_in (List.mem_of_getElem? (i := 1118) (by decide +kernel)) rfl
theorem mt_1115 : Cond.methodLink RX7 251 yX7_silentNow ∈ mm_tb := mm_tb_in (List.mem_of_getElem? (i := 1115) (by decide +kernel)) rfl
theorem mt_1117 : Cond.instanceMethod yX7_silentNow ∈ mm_tb := mm_tb_in (List.mem_of_getElem? (i := 1117) (by decide +kernel)) rfl
theorem mt_48 : Cond.selects RX7 yX7_silentNow yX7_silentNow ∈ mm_tb := mm_tb_in (List.mem_of_getElem? (i := 48) (by decide +kernel)) rfl
theorem mt_1126 : Cond.code yX7_meetOf cX7_meetOf 7 (some .int) ∈ mm_tb := mm_tb_in (List.mem_of_getElem? (i := 1126) (by decide +kernel)) rfl
theorem mt_1123 : Cond.methodLink RX7 257 yX7_meetOf ∈ mm_tb := mm_tb_in (List.mem_of_getElem? (i := 1123) (by decide +kernel)) rfl
theorem mt_1125 : Cond.instanceMethod yX7_meetOf ∈ mm_tb := mm_tb_in (List.mem_of_getElem? (i := 1125) (by decide +kernel)) rfl
theorem mt_49 : Cond.selects RX7 yX7_meetOf yX7_meetOf ∈ mm_tb := mm_tb_in (List.mem_of_getElem? (i := 49) (by decide +kernel)) rfl
theorem mt_1130 : Cond.code yX7_owedYet cX7_owedYet 3 (some .int) ∈ mm_tb := mm_tb_in (List.mem_of_getElem? (i := 1130) (by decide +kernel)) rfl
theorem mt_1127 : Cond.methodLink RX7 254 yX7_owedYet ∈ mm_tb := mm_tb_in (List.mem_of_getElem? (i := 1127) (by decide +kernel)) rfl
theorem mt_1129 : Cond.instanceMethod yX7_owedYet ∈ mm_tb := mm_tb_in (List.mem_of_getElem? (i := 1129) (by decide +kernel)) rfl
theorem mt_50 : Cond.selects RX7 yX7_owedYet yX7_owedYet ∈ mm_tb := mm_tb_in (List.mem_of_getElem? (i := 50) (by decide +kernel)) rfl
theorem mt_1138 : Cond.code yX7_liveOf cX7_liveOf 5 (some .int) ∈ mm_tb := mm_tb_in (List.mem_of_getElem? (i := 1138) (by decide +kernel)) rfl
theorem mt_1135 : Cond.methodLink RX7 260 yX7_liveOf ∈ mm_tb := mm_tb_in (List.mem_of_getElem? (i := 1135) (by decide +kernel)) rfl
theorem mt_1137 : Cond.instanceMethod yX7_liveOf ∈ mm_tb := mm_tb_in (List.mem_of_getElem? (i := 1137) (by decide +kernel)) rfl
theorem mt_51 : Cond.selects RX7 yX7_liveOf yX7_liveOf ∈ mm_tb := mm_tb_in (List.mem_of_getElem? (i := 51) (by decide +kernel)) rfl
theorem mt_1146 : Cond.code yX7_voiceBy cX7_voiceBy 7 (some .int) ∈ mm_tb := mm_tb_in (List.mem_of_getElem? (i := 1146) (by decide +kernel)) rfl
theorem mt_1143 : Cond.methodLink RX7 266 yX7_voiceBy ∈ mm_tb := mm_tb_in (List.mem_of_getElem? (i := 1143) (by decide +kernel)) rfl
theorem mt_1145 : Cond.instanceMethod yX7_voiceBy ∈ mm_tb := mm_tb_in (List.mem_of_getElem? (i := 1145) (by decide +kernel)) rfl
theorem mt_52 : Cond.selects RX7 yX7_voiceBy yX7_voiceBy ∈ mm_tb := mm_tb_in (List.mem_of_getElem? (i := 52) (by decide +kernel)) rfl
theorem mt_1150 : Cond.code yX7_many cX7_many 4 (some .int) ∈ mm_tb := mm_tb_in (List.mem_of_getElem? (i := 1150) (by decide +kernel)) rfl
theorem mt_1147 : Cond.methodLink RX7 263 yX7_many ∈ mm_tb := mm_tb_in (List.mem_of_getElem? (i := 1147) (by decide +kernel)) rfl
theorem mt_1149 : Cond.instanceMethod yX7_many ∈ mm_tb := mm_tb_in (List.mem_of_getElem? (i := 1149) (by decide +kernel)) rfl
theorem mt_53 : Cond.selects RX7 yX7_many yX7_many ∈ mm_tb := mm_tb_in (List.mem_of_getElem? (i := 53) (by decide +kernel)) rfl
theorem mt_1159 : Cond.code yX7_spareBy cX7_spareBy 4 (some .int) ∈ mm_tb := mm_tb_in (List.mem_of_getElem? (i := 1159) (by decide +kernel)) rfl
theorem mt_1156 : Cond.methodLink RX7 274 yX7_spareBy ∈ mm_tb := mm_tb_in (List.mem_of_getElem? (i := 1156) (by decide +kernel)) rfl
theorem mt_1158 : Cond.instanceMethod yX7_spareBy ∈ mm_tb := mm_tb_in (List.mem_of_getElem? (i := 1158) (by decide +kernel)) rfl
theorem mt_54 : Cond.selects RX7 yX7_spareBy yX7_spareBy ∈ mm_tb := mm_tb_in (List.mem_of_getElem? (i := 54) (by decide +kernel)) rfl
theorem mt_1163 : Cond.code yX7_isSpared cX7_isSpared 2 (some .boolean) ∈ mm_tb := mm_tb_in (List.mem_of_getElem? (i := 1163) (by decide +kernel)) rfl
theorem mt_1160 : Cond.methodLink RX7 269 yX7_isSpared ∈ mm_tb := mm_tb_in (List.mem_of_getElem? (i := 1160) (by decide +kernel)) rfl
theorem mt_1162 : Cond.instanceMethod yX7_isSpared ∈ mm_tb := mm_tb_in (List.mem_of_getElem? (i := 1162) (by decide +kernel)) rfl
theorem mt_55 : Cond.selects RX7 yX7_isSpared yX7_isSpared ∈ mm_tb := mm_tb_in (List.mem_of_getElem? (i := 55) (by decide +kernel)) rfl
theorem mt_1180 : Cond.code yX7_neverNow cX7_neverNow 3 (some .int) ∈ mm_tb := mm_tb_in (List.mem_of_getElem? (i := 1180) (by decide +kernel)) rfl
theorem mt_1177 : Cond.methodLink RX7 286 yX7_neverNow ∈ mm_tb := mm_tb_in (List.mem_of_getElem? (i := 1177) (by decide +kernel)) rfl
theorem mt_1179 : Cond.instanceMethod yX7_neverNow ∈ mm_tb := mm_tb_in (List.mem_of_getElem? (i := 1179) (by decide +kernel)) rfl
theorem mt_56 : Cond.selects RX7 yX7_neverNow yX7_neverNow ∈ mm_tb := mm_tb_in (List.mem_of_getElem? (i := 56) (by decide +kernel)) rfl
theorem mt_1184 : Cond.code yX7_isCounted cX7_isCounted 4 (some .boolean) ∈ mm_tb := mm_tb_in (List.mem_of_getElem? (i := 1184) (by decide +kernel)) rfl
theorem mt_1181 : Cond.methodLink RX7 282 yX7_isCounted ∈ mm_tb := mm_tb_in (List.mem_of_getElem? (i := 1181) (by decide +kernel)) rfl
theorem mt_1183 : Cond.instanceMethod yX7_isCounted ∈ mm_tb := mm_tb_in (List.mem_of_getElem? (i := 1183) (by decide +kernel)) rfl
theorem mt_57 : Cond.selects RX7 yX7_isCounted yX7_isCounted ∈ mm_tb := mm_tb_in (List.mem_of_getElem? (i := 57) (by decide +kernel)) rfl
theorem mt_1192 : Cond.code yX7_sortOf cX7_sortOf 5 (some .int) ∈ mm_tb := mm_tb_in (List.mem_of_getElem? (i := 1192) (by decide +kernel)) rfl
theorem mt_1189 : Cond.methodLink RX7 289 yX7_sortOf ∈ mm_tb := mm_tb_in (List.mem_of_getElem? (i := 1189) (by decide +kernel)) rfl
theorem mt_1191 : Cond.instanceMethod yX7_sortOf ∈ mm_tb := mm_tb_in (List.mem_of_getElem? (i := 1191) (by decide +kernel)) rfl
theorem mt_58 : Cond.selects RX7 yX7_sortOf yX7_sortOf ∈ mm_tb := mm_tb_in (List.mem_of_getElem? (i := 58) (by decide +kernel)) rfl
theorem mt_1200 : Cond.code yX7_lentOf cX7_lentOf 6 (some .int) ∈ mm_tb := mm_tb_in (List.mem_of_getElem? (i := 1200) (by decide +kernel)) rfl
theorem mt_1197 : Cond.methodLink RX7 292 yX7_lentOf ∈ mm_tb := mm_tb_in (List.mem_of_getElem? (i := 1197) (by decide +kernel)) rfl
theorem mt_1199 : Cond.instanceMethod yX7_lentOf ∈ mm_tb := mm_tb_in (List.mem_of_getElem? (i := 1199) (by decide +kernel)) rfl
theorem mt_59 : Cond.selects RX7 yX7_lentOf yX7_lentOf ∈ mm_tb := mm_tb_in (List.mem_of_getElem? (i := 59) (by decide +kernel)) rfl
theorem mt_1208 : Cond.code yX7_askOf cX7_askOf 5 (some .int) ∈ mm_tb := mm_tb_in (List.mem_of_getElem? (i := 1208) (by decide +kernel)) rfl
theorem mt_1205 : Cond.methodLink RX7 298 yX7_askOf ∈ mm_tb := mm_tb_in (List.mem_of_getElem? (i := 1205) (by decide +kernel)) rfl
theorem mt_1207 : Cond.instanceMethod yX7_askOf ∈ mm_tb := mm_tb_in (List.mem_of_getElem? (i := 1207) (by decide +kernel)) rfl
theorem mt_60 : Cond.selects RX7 yX7_askOf yX7_askOf ∈ mm_tb := mm_tb_in (List.mem_of_getElem? (i := 60) (by decide +kernel)) rfl
theorem mt_1212 : Cond.code yX7_alike cX7_alike 7 (some .int) ∈ mm_tb := mm_tb_in (List.mem_of_getElem? (i := 1212) (by decide +kernel)) rfl
theorem mt_1209 : Cond.methodLink RX7 295 yX7_alike ∈ mm_tb := mm_tb_in (List.mem_of_getElem? (i := 1209) (by decide +kernel)) rfl
theorem mt_1211 : Cond.instanceMethod yX7_alike ∈ mm_tb := mm_tb_in (List.mem_of_getElem? (i := 1211) (by decide +kernel)) rfl
theorem mt_61 : Cond.selects RX7 yX7_alike yX7_alike ∈ mm_tb := mm_tb_in (List.mem_of_getElem? (i := 61) (by decide +kernel)) rfl
theorem mt_1221 : Cond.code yX7_chanceOf cX7_chanceOf 10 (some .long) ∈ mm_tb := mm_tb_in (List.mem_of_getElem? (i := 1221) (by decide +kernel)) rfl
theorem mt_1218 : Cond.methodLink RX7 307 yX7_chanceOf ∈ mm_tb := mm_tb_in (List.mem_of_getElem? (i := 1218) (by decide +kernel)) rfl
theorem mt_1220 : Cond.instanceMethod yX7_chanceOf ∈ mm_tb := mm_tb_in (List.mem_of_getElem? (i := 1220) (by decide +kernel)) rfl
theorem mt_62 : Cond.selects RX7 yX7_chanceOf yX7_chanceOf ∈ mm_tb := mm_tb_in (List.mem_of_getElem? (i := 62) (by decide +kernel)) rfl
theorem mt_1224 : Cond.code yX7_part cX7_part 11 (some .long) ∈ mm_tb := mm_tb_in (List.mem_of_getElem? (i := 1224) (by decide +kernel)) rfl
theorem mt_1223 : Cond.static yX7_part ∈ mm_tb := mm_tb_in (List.mem_of_getElem? (i := 1223) (by decide +kernel)) rfl
theorem mt_1222 : Cond.methodLink RX7 301 yX7_part ∈ mm_tb := mm_tb_in (List.mem_of_getElem? (i := 1222) (by decide +kernel)) rfl
theorem mt_1227 : Cond.code yX7_no cX7_no 1 (some .long) ∈ mm_tb := mm_tb_in (List.mem_of_getElem? (i := 1227) (by decide +kernel)) rfl
theorem mt_1226 : Cond.static yX7_no ∈ mm_tb := mm_tb_in (List.mem_of_getElem? (i := 1226) (by decide +kernel)) rfl
theorem mt_1225 : Cond.methodLink RX7 311 yX7_no ∈ mm_tb := mm_tb_in (List.mem_of_getElem? (i := 1225) (by decide +kernel)) rfl
theorem mt_1237 : Cond.code yX7_livesOf cX7_livesOf 5 (some .int) ∈ mm_tb := mm_tb_in (List.mem_of_getElem? (i := 1237) (by decide +kernel)) rfl
theorem mt_1234 : Cond.methodLink RX7 324 yX7_livesOf ∈ mm_tb := mm_tb_in (List.mem_of_getElem? (i := 1234) (by decide +kernel)) rfl
theorem mt_1236 : Cond.instanceMethod yX7_livesOf ∈ mm_tb := mm_tb_in (List.mem_of_getElem? (i := 1236) (by decide +kernel)) rfl
theorem mt_63 : Cond.selects RX7 yX7_livesOf yX7_livesOf ∈ mm_tb := mm_tb_in (List.mem_of_getElem? (i := 63) (by decide +kernel)) rfl
theorem mt_1241 : Cond.code yX7_lot cX7_lot 2 (some .int) ∈ mm_tb := mm_tb_in (List.mem_of_getElem? (i := 1241) (by decide +kernel)) rfl
theorem mt_1238 : Cond.methodLink RX7 319 yX7_lot ∈ mm_tb := mm_tb_in (List.mem_of_getElem? (i := 1238) (by decide +kernel)) rfl
theorem mt_1240 : Cond.instanceMethod yX7_lot ∈ mm_tb := mm_tb_in (List.mem_of_getElem? (i := 1240) (by decide +kernel)) rfl
theorem mt_64 : Cond.selects RX7 yX7_lot yX7_lot ∈ mm_tb := mm_tb_in (List.mem_of_getElem? (i := 64) (by decide +kernel)) rfl
theorem mt_1250 : Cond.code yX7_count cX7_count 2 (some .int) ∈ mm_tb := mm_tb_in (List.mem_of_getElem? (i := 1250) (by decide +kernel)) rfl
theorem mt_1257 : Cond.methodLink RX7 335 yX7_count ∈ mm_tb := mm_tb_in (List.mem_of_getElem? (i := 1257) (by decide +kernel)) rfl
theorem mt_1248 : Cond.instanceMethod yX7_count ∈ mm_tb := mm_tb_in (List.mem_of_getElem? (i := 1248) (by decide +kernel)) rfl
theorem mt_1249 : Cond.selects RX7 yX7_count yX7_count ∈ mm_tb := mm_tb_in (List.mem_of_getElem? (i := 1249) (by decide +kernel)) rfl
theorem mt_1261 : Cond.code yX7_tellsWord cX7_tellsWord 7 (some .long) ∈ mm_tb := mm_tb_in (List.mem_of_getElem? (i := 1261) (by decide +kernel)) rfl
theorem mt_1258 : Cond.methodLink RX7 338 yX7_tellsWord ∈ mm_tb := mm_tb_in (List.mem_of_getElem? (i := 1258) (by decide +kernel)) rfl
theorem mt_1260 : Cond.instanceMethod yX7_tellsWord ∈ mm_tb := mm_tb_in (List.mem_of_getElem? (i := 1260) (by decide +kernel)) rfl
theorem mt_65 : Cond.selects RX7 yX7_tellsWord yX7_tellsWord ∈ mm_tb := mm_tb_in (List.mem_of_getElem? (i := 65) (by decide +kernel)) rfl
theorem mt_1265 : Cond.code yX7_tellsDay cX7_tellsDay 5 (some .long) ∈ mm_tb := mm_tb_in (List.mem_of_getElem? (i := 1265) (by decide +kernel)) rfl
theorem mt_1262 : Cond.methodLink RX7 329 yX7_tellsDay ∈ mm_tb := mm_tb_in (List.mem_of_getElem? (i := 1262) (by decide +kernel)) rfl
theorem mt_1264 : Cond.instanceMethod yX7_tellsDay ∈ mm_tb := mm_tb_in (List.mem_of_getElem? (i := 1264) (by decide +kernel)) rfl
theorem mt_66 : Cond.selects RX7 yX7_tellsDay yX7_tellsDay ∈ mm_tb := mm_tb_in (List.mem_of_getElem? (i := 66) (by decide +kernel)) rfl
theorem mt_1269 : Cond.code yX7_tellsPerson cX7_tellsPerson 7 (some .long) ∈ mm_tb := mm_tb_in (List.mem_of_getElem? (i := 1269) (by decide +kernel)) rfl
theorem mt_1266 : Cond.methodLink RX7 342 yX7_tellsPerson ∈ mm_tb := mm_tb_in (List.mem_of_getElem? (i := 1266) (by decide +kernel)) rfl
theorem mt_1268 : Cond.instanceMethod yX7_tellsPerson ∈ mm_tb := mm_tb_in (List.mem_of_getElem? (i := 1268) (by decide +kernel)) rfl
theorem mt_67 : Cond.selects RX7 yX7_tellsPerson yX7_tellsPerson ∈ mm_tb := mm_tb_in (List.mem_of_getElem? (i := 67) (by decide +kernel)) rfl
theorem mt_661 : Cond.static Lib.Math.max.name ∈ mm_tb := mm_tb_in (List.mem_of_getElem? (i := 661) (by decide +kernel)) rfl
theorem mt_662 : Cond.code Lib.Math.max.name Lib.Math.max.code 2 (some .int) ∈ mm_tb := mm_tb_in (List.mem_of_getElem? (i := 662) (by decide +kernel)) rfl
theorem mt_366 : Cond.static Lib.Math.min.name ∈ mm_tb := mm_tb_in (List.mem_of_getElem? (i := 366) (by decide +kernel)) rfl
theorem mt_367 : Cond.code Lib.Math.min.name Lib.Math.min.code 2 (some .int) ∈ mm_tb := mm_tb_in (List.mem_of_getElem? (i := 367) (by decide +kernel)) rfl
theorem mt_77 : Cond.initialized "java/lang/Math" ∈ mm_tb := mm_tb_in (List.mem_of_getElem? (i := 77) (by decide +kernel)) rfl
theorem mt_510 : Cond.native arraycopyName ∈ mm_tb := mm_tb_in (List.mem_of_getElem? (i := 510) (by decide +kernel)) rfl
theorem mt_509 : Cond.static arraycopyName ∈ mm_tb := mm_tb_in (List.mem_of_getElem? (i := 509) (by decide +kernel)) rfl
theorem mt_78 : Cond.initialized "java/lang/System" ∈ mm_tb := mm_tb_in (List.mem_of_getElem? (i := 78) (by decide +kernel)) rfl
