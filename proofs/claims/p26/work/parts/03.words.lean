/-! the words that the walks use, each by its place in the tables -/
theorem qp1 : Cond.selects RX8 yX8_numberOf yX8_numberOf ∈ BG := bg_p 1 (by decide +kernel) (by decide +kernel)
theorem qp2 : Cond.selects RX8 yX8_minuteProperty yX8_minuteProperty ∈ BG := bg_p 2 (by decide +kernel) (by decide +kernel)
theorem qp3 : Cond.selects RX8 yX8_exceedanceProperty yX8_exceedanceProperty ∈ BG := bg_p 3 (by decide +kernel) (by decide +kernel)
theorem qp4 : Cond.selects RX8 yX8_complaintProperty yX8_complaintProperty ∈ BG := bg_p 4 (by decide +kernel) (by decide +kernel)
theorem qp5 : Cond.selects RX0 yX0_begin yX0_begin ∈ BG := bg_p 5 (by decide +kernel) (by decide +kernel)
theorem qp6 : Cond.selects RX0 yX0_extend yX0_extend ∈ BG := bg_p 6 (by decide +kernel) (by decide +kernel)
theorem qp7 : Cond.selects RX0 yX0_markOwners yX0_markOwners ∈ BG := bg_p 7 (by decide +kernel) (by decide +kernel)
theorem qp8 : Cond.selects RX3 yX3_putInOrder yX3_putInOrder ∈ BG := bg_p 8 (by decide +kernel) (by decide +kernel)
theorem qp9 : Cond.selects RX3 yX3_bestFor yX3_bestFor ∈ BG := bg_p 9 (by decide +kernel) (by decide +kernel)
theorem qp10 : Cond.selects RX7 yX7_exceedancesWithLimit yX7_exceedancesWithLimit ∈ BG := bg_p 10 (by decide +kernel) (by decide +kernel)
theorem qp11 : Cond.selects RX7 yX7_isAboveWithLimit yX7_isAboveWithLimit ∈ BG := bg_p 11 (by decide +kernel) (by decide +kernel)
theorem qp12 : Cond.selects RX8 yX8_readAgain yX8_readAgain ∈ BG := bg_p 12 (by decide +kernel) (by decide +kernel)
theorem q0 : Cond.initialized RL ∈ BG := bg_t 0 (by decide +kernel) (by decide +kernel)
theorem q1 : Cond.initialized RX8 ∈ BG := bg_t 1 (by decide +kernel) (by decide +kernel)
theorem q2 : Cond.initialized RX5 ∈ BG := bg_t 2 (by decide +kernel) (by decide +kernel)
theorem q3 : Cond.initialized RX1 ∈ BG := bg_t 3 (by decide +kernel) (by decide +kernel)
theorem q5 : Cond.initialized RX7 ∈ BG := bg_t 5 (by decide +kernel) (by decide +kernel)
theorem q6 : Cond.initialized RX4 ∈ BG := bg_t 6 (by decide +kernel) (by decide +kernel)
theorem q7 : Cond.initialized RX0 ∈ BG := bg_t 7 (by decide +kernel) (by decide +kernel)
theorem q8 : Cond.initialized RX3 ∈ BG := bg_t 8 (by decide +kernel) (by decide +kernel)
theorem q9 : Cond.initialized RX2 ∈ BG := bg_t 9 (by decide +kernel) (by decide +kernel)
theorem q15 : Cond.initialized "java/lang/Math" ∈ BG := bg_t 15 (by decide +kernel) (by decide +kernel)
theorem q17 : Cond.initialized "java/lang/System" ∈ BG := bg_t 17 (by decide +kernel) (by decide +kernel)
theorem q41 : Cond.fieldLink RX5 9 "NoisePost$State" "levels" "[I" ∈ BG := bg_t 41 (by decide +kernel) (by decide +kernel)
theorem q42 : Cond.fieldLink RX4 33 "NoisePost$State" "levels" "[I" ∈ BG := bg_t 42 (by decide +kernel) (by decide +kernel)
theorem q43 : Cond.fieldLink RX8 106 "NoisePost$State" "levels" "[I" ∈ BG := bg_t 43 (by decide +kernel) (by decide +kernel)
theorem q44 : Cond.fieldLink RX5 15 "NoisePost$State" "winds" "[I" ∈ BG := bg_t 44 (by decide +kernel) (by decide +kernel)
theorem q45 : Cond.fieldLink RX4 40 "NoisePost$State" "winds" "[I" ∈ BG := bg_t 45 (by decide +kernel) (by decide +kernel)
theorem q46 : Cond.fieldLink RX8 109 "NoisePost$State" "winds" "[I" ∈ BG := bg_t 46 (by decide +kernel) (by decide +kernel)
theorem q47 : Cond.fieldLink RX5 26 "NoisePost$State" "settings" "[I" ∈ BG := bg_t 47 (by decide +kernel) (by decide +kernel)
theorem q48 : Cond.fieldLink RX8 71 "NoisePost$State" "settings" "[I" ∈ BG := bg_t 48 (by decide +kernel) (by decide +kernel)
theorem q49 : Cond.fieldLink RX5 29 "NoisePost$State" "complaintMinutes" "[I" ∈ BG := bg_t 49 (by decide +kernel) (by decide +kernel)
theorem q50 : Cond.fieldLink RX3 40 "NoisePost$State" "complaintMinutes" "[I" ∈ BG := bg_t 50 (by decide +kernel) (by decide +kernel)
theorem q51 : Cond.fieldLink RX8 326 "NoisePost$State" "complaintMinutes" "[I" ∈ BG := bg_t 51 (by decide +kernel) (by decide +kernel)
theorem q52 : Cond.fieldLink RX4 25 "NoisePost$State" "minutes" "I" ∈ BG := bg_t 52 (by decide +kernel) (by decide +kernel)
theorem q53 : Cond.fieldLink RX5 32 "NoisePost$State" "minutes" "I" ∈ BG := bg_t 53 (by decide +kernel) (by decide +kernel)
theorem q54 : Cond.fieldLink RX8 86 "NoisePost$State" "minutes" "I" ∈ BG := bg_t 54 (by decide +kernel) (by decide +kernel)
theorem q55 : Cond.fieldLink RX3 21 "NoisePost$State" "complaints" "I" ∈ BG := bg_t 55 (by decide +kernel) (by decide +kernel)
theorem q56 : Cond.fieldLink RX5 36 "NoisePost$State" "complaints" "I" ∈ BG := bg_t 56 (by decide +kernel) (by decide +kernel)
theorem q57 : Cond.fieldLink RX8 129 "NoisePost$State" "complaints" "I" ∈ BG := bg_t 57 (by decide +kernel) (by decide +kernel)
theorem q58 : Cond.laysFinal RX5 "NoisePost$State" "levels" "[I" ∈ BG := bg_t 58 (by decide +kernel) (by decide +kernel)
theorem q60 : Cond.laysFinal RX5 "NoisePost$State" "winds" "[I" ∈ BG := bg_t 60 (by decide +kernel) (by decide +kernel)
theorem q62 : Cond.laysFinal RX5 "NoisePost$State" "settings" "[I" ∈ BG := bg_t 62 (by decide +kernel) (by decide +kernel)
theorem q64 : Cond.laysFinal RX5 "NoisePost$State" "complaintMinutes" "[I" ∈ BG := bg_t 64 (by decide +kernel) (by decide +kernel)
theorem q66 : Cond.lays RX5 "NoisePost$State" "minutes" "I" ∈ BG := bg_t 66 (by decide +kernel) (by decide +kernel)
theorem q68 : Cond.lays RX5 "NoisePost$State" "complaints" "I" ∈ BG := bg_t 68 (by decide +kernel) (by decide +kernel)
theorem q71 : Cond.arrayClass .int ∈ BG := bg_t 71 (by decide +kernel) (by decide +kernel)
theorem q81 : Cond.fieldLink RX1 11 "NoisePost$History" "ring" "[LNoisePost$State;" ∈ BG := bg_t 81 (by decide +kernel) (by decide +kernel)
theorem q82 : Cond.fieldLink RX1 18 "NoisePost$History" "next" "I" ∈ BG := bg_t 82 (by decide +kernel) (by decide +kernel)
theorem q83 : Cond.fieldLink RX1 26 "NoisePost$History" "kept" "I" ∈ BG := bg_t 83 (by decide +kernel) (by decide +kernel)
theorem q84 : Cond.fieldLink RX8 185 "NoisePost$History" "kept" "I" ∈ BG := bg_t 84 (by decide +kernel) (by decide +kernel)
theorem q85 : Cond.laysFinal RX1 "NoisePost$History" "ring" "[LNoisePost$State;" ∈ BG := bg_t 85 (by decide +kernel) (by decide +kernel)
theorem q87 : Cond.lays RX1 "NoisePost$History" "next" "I" ∈ BG := bg_t 87 (by decide +kernel) (by decide +kernel)
theorem q89 : Cond.lays RX1 "NoisePost$History" "kept" "I" ∈ BG := bg_t 89 (by decide +kernel) (by decide +kernel)
theorem q103 : Cond.laysFinal RX6 "NoisePost$Text" "codes" "[I" ∈ BG := bg_t 103 (by decide +kernel) (by decide +kernel)
theorem q105 : Cond.lays RX6 "NoisePost$Text" "length" "I" ∈ BG := bg_t 105 (by decide +kernel) (by decide +kernel)
theorem q107 : Cond.laysFinal RX6 "NoisePost$Text" "levels" "[I" ∈ BG := bg_t 107 (by decide +kernel) (by decide +kernel)
theorem q109 : Cond.laysFinal RX6 "NoisePost$Text" "winds" "[I" ∈ BG := bg_t 109 (by decide +kernel) (by decide +kernel)
theorem q111 : Cond.laysFinal RX6 "NoisePost$Text" "times" "[I" ∈ BG := bg_t 111 (by decide +kernel) (by decide +kernel)
theorem q113 : Cond.lays RX6 "NoisePost$Text" "parts" "I" ∈ BG := bg_t 113 (by decide +kernel) (by decide +kernel)
theorem q115 : Cond.laysFinal RX6 "NoisePost$Text" "numbers" "[I" ∈ BG := bg_t 115 (by decide +kernel) (by decide +kernel)
theorem q117 : Cond.lays RX6 "NoisePost$Text" "field" "I" ∈ BG := bg_t 117 (by decide +kernel) (by decide +kernel)
theorem q135 : Cond.fieldLink RX4 9 "NoisePost$Minutes" "fast" "[I" ∈ BG := bg_t 135 (by decide +kernel) (by decide +kernel)
theorem q136 : Cond.fieldLink RX2 25 "NoisePost$Minutes" "fast" "[I" ∈ BG := bg_t 136 (by decide +kernel) (by decide +kernel)
theorem q137 : Cond.fieldLink RX0 53 "NoisePost$Minutes" "fast" "[I" ∈ BG := bg_t 137 (by decide +kernel) (by decide +kernel)
theorem q138 : Cond.fieldLink RX8 288 "NoisePost$Minutes" "fast" "[I" ∈ BG := bg_t 138 (by decide +kernel) (by decide +kernel)
theorem q139 : Cond.fieldLink RX4 15 "NoisePost$Minutes" "slow" "[I" ∈ BG := bg_t 139 (by decide +kernel) (by decide +kernel)
theorem q140 : Cond.fieldLink RX0 46 "NoisePost$Minutes" "slow" "[I" ∈ BG := bg_t 140 (by decide +kernel) (by decide +kernel)
theorem q141 : Cond.fieldLink RX7 118 "NoisePost$Minutes" "slow" "[I" ∈ BG := bg_t 141 (by decide +kernel) (by decide +kernel)
theorem q142 : Cond.fieldLink RX8 291 "NoisePost$Minutes" "slow" "[I" ∈ BG := bg_t 142 (by decide +kernel) (by decide +kernel)
theorem q143 : Cond.fieldLink RX4 18 "NoisePost$Minutes" "why" "[I" ∈ BG := bg_t 143 (by decide +kernel) (by decide +kernel)
theorem q144 : Cond.fieldLink RX0 39 "NoisePost$Minutes" "why" "[I" ∈ BG := bg_t 144 (by decide +kernel) (by decide +kernel)
theorem q145 : Cond.fieldLink RX8 302 "NoisePost$Minutes" "why" "[I" ∈ BG := bg_t 145 (by decide +kernel) (by decide +kernel)
theorem q146 : Cond.fieldLink RX4 30 "NoisePost$Minutes" "told" "I" ∈ BG := bg_t 146 (by decide +kernel) (by decide +kernel)
theorem q147 : Cond.fieldLink RX0 34 "NoisePost$Minutes" "told" "I" ∈ BG := bg_t 147 (by decide +kernel) (by decide +kernel)
theorem q148 : Cond.fieldLink RX2 15 "NoisePost$Minutes" "told" "I" ∈ BG := bg_t 148 (by decide +kernel) (by decide +kernel)
theorem q149 : Cond.fieldLink RX7 69 "NoisePost$Minutes" "told" "I" ∈ BG := bg_t 149 (by decide +kernel) (by decide +kernel)
theorem q150 : Cond.fieldLink RX4 51 "NoisePost$Minutes" "counted" "I" ∈ BG := bg_t 150 (by decide +kernel) (by decide +kernel)
theorem q151 : Cond.fieldLink RX7 73 "NoisePost$Minutes" "counted" "I" ∈ BG := bg_t 151 (by decide +kernel) (by decide +kernel)
theorem q152 : Cond.fieldLink RX8 217 "NoisePost$Minutes" "counted" "I" ∈ BG := bg_t 152 (by decide +kernel) (by decide +kernel)
theorem q153 : Cond.fieldLink RX4 54 "NoisePost$Minutes" "resting" "I" ∈ BG := bg_t 153 (by decide +kernel) (by decide +kernel)
theorem q154 : Cond.fieldLink RX7 76 "NoisePost$Minutes" "resting" "I" ∈ BG := bg_t 154 (by decide +kernel) (by decide +kernel)
theorem q155 : Cond.fieldLink RX4 57 "NoisePost$Minutes" "above" "I" ∈ BG := bg_t 155 (by decide +kernel) (by decide +kernel)
theorem q156 : Cond.fieldLink RX7 79 "NoisePost$Minutes" "above" "I" ∈ BG := bg_t 156 (by decide +kernel) (by decide +kernel)
theorem q157 : Cond.fieldLink RX4 21 "NoisePost$Minutes" "lastWindy" "I" ∈ BG := bg_t 157 (by decide +kernel) (by decide +kernel)
theorem q158 : Cond.laysFinal RX4 "NoisePost$Minutes" "fast" "[I" ∈ BG := bg_t 158 (by decide +kernel) (by decide +kernel)
theorem q160 : Cond.laysFinal RX4 "NoisePost$Minutes" "slow" "[I" ∈ BG := bg_t 160 (by decide +kernel) (by decide +kernel)
theorem q162 : Cond.laysFinal RX4 "NoisePost$Minutes" "why" "[I" ∈ BG := bg_t 162 (by decide +kernel) (by decide +kernel)
theorem q164 : Cond.lays RX4 "NoisePost$Minutes" "told" "I" ∈ BG := bg_t 164 (by decide +kernel) (by decide +kernel)
theorem q166 : Cond.lays RX4 "NoisePost$Minutes" "counted" "I" ∈ BG := bg_t 166 (by decide +kernel) (by decide +kernel)
theorem q168 : Cond.lays RX4 "NoisePost$Minutes" "resting" "I" ∈ BG := bg_t 168 (by decide +kernel) (by decide +kernel)
theorem q170 : Cond.lays RX4 "NoisePost$Minutes" "above" "I" ∈ BG := bg_t 170 (by decide +kernel) (by decide +kernel)
theorem q172 : Cond.lays RX4 "NoisePost$Minutes" "lastWindy" "I" ∈ BG := bg_t 172 (by decide +kernel) (by decide +kernel)
theorem q181 : Cond.fieldLink RX0 9 "NoisePost$Exceedances" "begins" "[I" ∈ BG := bg_t 181 (by decide +kernel) (by decide +kernel)
theorem q182 : Cond.fieldLink RX3 47 "NoisePost$Exceedances" "begins" "[I" ∈ BG := bg_t 182 (by decide +kernel) (by decide +kernel)
theorem q183 : Cond.fieldLink RX8 308 "NoisePost$Exceedances" "begins" "[I" ∈ BG := bg_t 183 (by decide +kernel) (by decide +kernel)
theorem q184 : Cond.fieldLink RX0 15 "NoisePost$Exceedances" "ends" "[I" ∈ BG := bg_t 184 (by decide +kernel) (by decide +kernel)
theorem q185 : Cond.fieldLink RX3 50 "NoisePost$Exceedances" "ends" "[I" ∈ BG := bg_t 185 (by decide +kernel) (by decide +kernel)
theorem q186 : Cond.fieldLink RX8 311 "NoisePost$Exceedances" "ends" "[I" ∈ BG := bg_t 186 (by decide +kernel) (by decide +kernel)
theorem q187 : Cond.fieldLink RX0 18 "NoisePost$Exceedances" "aboves" "[I" ∈ BG := bg_t 187 (by decide +kernel) (by decide +kernel)
theorem q188 : Cond.fieldLink RX8 314 "NoisePost$Exceedances" "aboves" "[I" ∈ BG := bg_t 188 (by decide +kernel) (by decide +kernel)
theorem q189 : Cond.fieldLink RX0 21 "NoisePost$Exceedances" "peaks" "[I" ∈ BG := bg_t 189 (by decide +kernel) (by decide +kernel)
theorem q190 : Cond.fieldLink RX3 53 "NoisePost$Exceedances" "peaks" "[I" ∈ BG := bg_t 190 (by decide +kernel) (by decide +kernel)
theorem q191 : Cond.fieldLink RX8 317 "NoisePost$Exceedances" "peaks" "[I" ∈ BG := bg_t 191 (by decide +kernel) (by decide +kernel)
theorem q192 : Cond.fieldLink RX0 24 "NoisePost$Exceedances" "weights" "[I" ∈ BG := bg_t 192 (by decide +kernel) (by decide +kernel)
theorem q193 : Cond.fieldLink RX8 320 "NoisePost$Exceedances" "weights" "[I" ∈ BG := bg_t 193 (by decide +kernel) (by decide +kernel)
theorem q194 : Cond.fieldLink RX0 27 "NoisePost$Exceedances" "ownerOf" "[I" ∈ BG := bg_t 194 (by decide +kernel) (by decide +kernel)
theorem q195 : Cond.fieldLink RX8 305 "NoisePost$Exceedances" "ownerOf" "[I" ∈ BG := bg_t 195 (by decide +kernel) (by decide +kernel)
theorem q196 : Cond.fieldLink RX0 30 "NoisePost$Exceedances" "found" "I" ∈ BG := bg_t 196 (by decide +kernel) (by decide +kernel)
theorem q197 : Cond.fieldLink RX3 31 "NoisePost$Exceedances" "found" "I" ∈ BG := bg_t 197 (by decide +kernel) (by decide +kernel)
theorem q198 : Cond.fieldLink RX8 116 "NoisePost$Exceedances" "found" "I" ∈ BG := bg_t 198 (by decide +kernel) (by decide +kernel)
theorem q199 : Cond.fieldLink RX7 82 "NoisePost$Exceedances" "found" "I" ∈ BG := bg_t 199 (by decide +kernel) (by decide +kernel)
theorem q200 : Cond.fieldLink RX0 60 "NoisePost$Exceedances" "goesOn" "Z" ∈ BG := bg_t 200 (by decide +kernel) (by decide +kernel)
theorem q201 : Cond.fieldLink RX7 98 "NoisePost$Exceedances" "goesOn" "Z" ∈ BG := bg_t 201 (by decide +kernel) (by decide +kernel)
theorem q202 : Cond.laysFinal RX0 "NoisePost$Exceedances" "begins" "[I" ∈ BG := bg_t 202 (by decide +kernel) (by decide +kernel)
theorem q204 : Cond.laysFinal RX0 "NoisePost$Exceedances" "ends" "[I" ∈ BG := bg_t 204 (by decide +kernel) (by decide +kernel)
theorem q206 : Cond.laysFinal RX0 "NoisePost$Exceedances" "aboves" "[I" ∈ BG := bg_t 206 (by decide +kernel) (by decide +kernel)
theorem q208 : Cond.laysFinal RX0 "NoisePost$Exceedances" "peaks" "[I" ∈ BG := bg_t 208 (by decide +kernel) (by decide +kernel)
theorem q210 : Cond.laysFinal RX0 "NoisePost$Exceedances" "weights" "[I" ∈ BG := bg_t 210 (by decide +kernel) (by decide +kernel)
theorem q212 : Cond.laysFinal RX0 "NoisePost$Exceedances" "ownerOf" "[I" ∈ BG := bg_t 212 (by decide +kernel) (by decide +kernel)
theorem q214 : Cond.lays RX0 "NoisePost$Exceedances" "found" "I" ∈ BG := bg_t 214 (by decide +kernel) (by decide +kernel)
theorem q216 : Cond.lays RX0 "NoisePost$Exceedances" "goesOn" "Z" ∈ BG := bg_t 216 (by decide +kernel) (by decide +kernel)
theorem q225 : Cond.fieldLink RX3 9 "NoisePost$Matches" "exceedanceOf" "[I" ∈ BG := bg_t 225 (by decide +kernel) (by decide +kernel)
theorem q226 : Cond.fieldLink RX8 146 "NoisePost$Matches" "exceedanceOf" "[I" ∈ BG := bg_t 226 (by decide +kernel) (by decide +kernel)
theorem q227 : Cond.fieldLink RX3 15 "NoisePost$Matches" "complaintOf" "[I" ∈ BG := bg_t 227 (by decide +kernel) (by decide +kernel)
theorem q228 : Cond.fieldLink RX8 323 "NoisePost$Matches" "complaintOf" "[I" ∈ BG := bg_t 228 (by decide +kernel) (by decide +kernel)
theorem q229 : Cond.fieldLink RX3 18 "NoisePost$Matches" "order" "[I" ∈ BG := bg_t 229 (by decide +kernel) (by decide +kernel)
theorem q230 : Cond.fieldLink RX3 27 "NoisePost$Matches" "complaints" "I" ∈ BG := bg_t 230 (by decide +kernel) (by decide +kernel)
theorem q231 : Cond.fieldLink RX7 85 "NoisePost$Matches" "complaints" "I" ∈ BG := bg_t 231 (by decide +kernel) (by decide +kernel)
theorem q232 : Cond.fieldLink RX3 28 "NoisePost$Matches" "matched" "I" ∈ BG := bg_t 232 (by decide +kernel) (by decide +kernel)
theorem q233 : Cond.fieldLink RX7 88 "NoisePost$Matches" "matched" "I" ∈ BG := bg_t 233 (by decide +kernel) (by decide +kernel)
theorem q234 : Cond.laysFinal RX3 "NoisePost$Matches" "exceedanceOf" "[I" ∈ BG := bg_t 234 (by decide +kernel) (by decide +kernel)
theorem q236 : Cond.laysFinal RX3 "NoisePost$Matches" "complaintOf" "[I" ∈ BG := bg_t 236 (by decide +kernel) (by decide +kernel)
theorem q238 : Cond.laysFinal RX3 "NoisePost$Matches" "order" "[I" ∈ BG := bg_t 238 (by decide +kernel) (by decide +kernel)
theorem q240 : Cond.lays RX3 "NoisePost$Matches" "complaints" "I" ∈ BG := bg_t 240 (by decide +kernel) (by decide +kernel)
theorem q242 : Cond.lays RX3 "NoisePost$Matches" "matched" "I" ∈ BG := bg_t 242 (by decide +kernel) (by decide +kernel)
theorem q245 : Cond.fieldLink RX7 18 "NoisePost$View" "settings" "[I" ∈ BG := bg_t 245 (by decide +kernel) (by decide +kernel)
theorem q246 : Cond.fieldLink RX8 235 "NoisePost$View" "settings" "[I" ∈ BG := bg_t 246 (by decide +kernel) (by decide +kernel)
theorem q247 : Cond.fieldLink RX7 26 "NoisePost$View" "minutes" "LNoisePost$Minutes;" ∈ BG := bg_t 247 (by decide +kernel) (by decide +kernel)
theorem q248 : Cond.fieldLink RX8 214 "NoisePost$View" "minutes" "LNoisePost$Minutes;" ∈ BG := bg_t 248 (by decide +kernel) (by decide +kernel)
theorem q249 : Cond.fieldLink RX7 33 "NoisePost$View" "exceedances" "LNoisePost$Exceedances;" ∈ BG := bg_t 249 (by decide +kernel) (by decide +kernel)
theorem q250 : Cond.fieldLink RX8 112 "NoisePost$View" "exceedances" "LNoisePost$Exceedances;" ∈ BG := bg_t 250 (by decide +kernel) (by decide +kernel)
theorem q251 : Cond.fieldLink RX7 40 "NoisePost$View" "matches" "LNoisePost$Matches;" ∈ BG := bg_t 251 (by decide +kernel) (by decide +kernel)
theorem q252 : Cond.fieldLink RX8 142 "NoisePost$View" "matches" "LNoisePost$Matches;" ∈ BG := bg_t 252 (by decide +kernel) (by decide +kernel)
theorem q253 : Cond.laysFinal RX7 "NoisePost$View" "settings" "[I" ∈ BG := bg_t 253 (by decide +kernel) (by decide +kernel)
theorem q255 : Cond.laysFinal RX7 "NoisePost$View" "minutes" "LNoisePost$Minutes;" ∈ BG := bg_t 255 (by decide +kernel) (by decide +kernel)
theorem q257 : Cond.laysFinal RX7 "NoisePost$View" "exceedances" "LNoisePost$Exceedances;" ∈ BG := bg_t 257 (by decide +kernel) (by decide +kernel)
theorem q259 : Cond.laysFinal RX7 "NoisePost$View" "matches" "LNoisePost$Matches;" ∈ BG := bg_t 259 (by decide +kernel) (by decide +kernel)
theorem q268 : Cond.fieldLink RX2 9 "NoisePost$LevelCounts" "reached" "[I" ∈ BG := bg_t 268 (by decide +kernel) (by decide +kernel)
theorem q269 : Cond.fieldLink RX8 209 "NoisePost$LevelCounts" "reached" "[I" ∈ BG := bg_t 269 (by decide +kernel) (by decide +kernel)
theorem q270 : Cond.laysFinal RX2 "NoisePost$LevelCounts" "reached" "[I" ∈ BG := bg_t 270 (by decide +kernel) (by decide +kernel)
theorem q273 : Cond.fieldLink RX8 10 "NoisePost" "state" "LNoisePost$State;" ∈ BG := bg_t 273 (by decide +kernel) (by decide +kernel)
theorem q274 : Cond.fieldLink RX8 19 "NoisePost" "history" "LNoisePost$History;" ∈ BG := bg_t 274 (by decide +kernel) (by decide +kernel)
theorem q276 : Cond.fieldLink RX8 33 "NoisePost" "now" "LNoisePost$View;" ∈ BG := bg_t 276 (by decide +kernel) (by decide +kernel)
theorem q277 : Cond.fieldLink RX8 37 "NoisePost" "tried" "LNoisePost$View;" ∈ BG := bg_t 277 (by decide +kernel) (by decide +kernel)
theorem q278 : Cond.fieldLink RX8 43 "NoisePost" "levelCounts" "LNoisePost$LevelCounts;" ∈ BG := bg_t 278 (by decide +kernel) (by decide +kernel)
theorem q279 : Cond.laysFinal RX8 "NoisePost" "state" "LNoisePost$State;" ∈ BG := bg_t 279 (by decide +kernel) (by decide +kernel)
theorem q281 : Cond.laysFinal RX8 "NoisePost" "history" "LNoisePost$History;" ∈ BG := bg_t 281 (by decide +kernel) (by decide +kernel)
theorem q283 : Cond.laysFinal RX8 "NoisePost" "text" "LNoisePost$Text;" ∈ BG := bg_t 283 (by decide +kernel) (by decide +kernel)
theorem q285 : Cond.laysFinal RX8 "NoisePost" "now" "LNoisePost$View;" ∈ BG := bg_t 285 (by decide +kernel) (by decide +kernel)
theorem q287 : Cond.laysFinal RX8 "NoisePost" "tried" "LNoisePost$View;" ∈ BG := bg_t 287 (by decide +kernel) (by decide +kernel)
theorem q289 : Cond.laysFinal RX8 "NoisePost" "levelCounts" "LNoisePost$LevelCounts;" ∈ BG := bg_t 289 (by decide +kernel) (by decide +kernel)
theorem q292 : Cond.methodLink RL 52 yX8_count ∈ BG := bg_t 292 (by decide +kernel) (by decide +kernel)
theorem q293 : Cond.instanceMethod yX8_count ∈ BG := bg_t 293 (by decide +kernel) (by decide +kernel)
theorem q294 : Cond.selects RX8 yX8_count yX8_count ∈ BG := bg_t 294 (by decide +kernel) (by decide +kernel)
theorem q295 : Cond.code yX8_count cX8_count 2 (some .int) ∈ BG := bg_t 295 (by decide +kernel) (by decide +kernel)
theorem q364 : Cond.methodLink RX8 225 yX8_numberOf ∈ BG := bg_t 364 (by decide +kernel) (by decide +kernel)
theorem q366 : Cond.instanceMethod yX8_numberOf ∈ BG := bg_t 366 (by decide +kernel) (by decide +kernel)
theorem q367 : Cond.code yX8_numberOf cX8_numberOf 2 (some .int) ∈ BG := bg_t 367 (by decide +kernel) (by decide +kernel)
theorem q368 : Cond.methodLink RX8 239 yX7_numberOf ∈ BG := bg_t 368 (by decide +kernel) (by decide +kernel)
theorem q369 : Cond.instanceMethod yX7_numberOf ∈ BG := bg_t 369 (by decide +kernel) (by decide +kernel)
theorem q370 : Cond.selects RX7 yX7_numberOf yX7_numberOf ∈ BG := bg_t 370 (by decide +kernel) (by decide +kernel)
theorem q371 : Cond.code yX7_numberOf cX7_numberOf 2 (some .int) ∈ BG := bg_t 371 (by decide +kernel) (by decide +kernel)
theorem q372 : Cond.methodLink RX7 91 yX0_weightOfAll ∈ BG := bg_t 372 (by decide +kernel) (by decide +kernel)
theorem q373 : Cond.instanceMethod yX0_weightOfAll ∈ BG := bg_t 373 (by decide +kernel) (by decide +kernel)
theorem q374 : Cond.selects RX0 yX0_weightOfAll yX0_weightOfAll ∈ BG := bg_t 374 (by decide +kernel) (by decide +kernel)
theorem q375 : Cond.code yX0_weightOfAll cX0_weightOfAll 3 (some .int) ∈ BG := bg_t 375 (by decide +kernel) (by decide +kernel)
theorem q376 : Cond.methodLink RX7 95 yX0_heaviest ∈ BG := bg_t 376 (by decide +kernel) (by decide +kernel)
theorem q377 : Cond.instanceMethod yX0_heaviest ∈ BG := bg_t 377 (by decide +kernel) (by decide +kernel)
theorem q378 : Cond.selects RX0 yX0_heaviest yX0_heaviest ∈ BG := bg_t 378 (by decide +kernel) (by decide +kernel)
theorem q379 : Cond.code yX0_heaviest cX0_heaviest 3 (some .int) ∈ BG := bg_t 379 (by decide +kernel) (by decide +kernel)
theorem q384 : Cond.methodLink RL 59 yL_at ∈ BG := bg_t 384 (by decide +kernel) (by decide +kernel)
theorem q385 : Cond.static yL_at ∈ BG := bg_t 385 (by decide +kernel) (by decide +kernel)
theorem q386 : Cond.code yL_at cL_at 2 (some .int) ∈ BG := bg_t 386 (by decide +kernel) (by decide +kernel)
theorem q390 : Cond.methodLink RL 33 yL_lay ∈ BG := bg_t 390 (by decide +kernel) (by decide +kernel)
theorem q391 : Cond.static yL_lay ∈ BG := bg_t 391 (by decide +kernel) (by decide +kernel)
theorem q392 : Cond.code yL_lay cL_lay 16 none ∈ BG := bg_t 392 (by decide +kernel) (by decide +kernel)
theorem q393 : Cond.methodLink RL 8 yL_limit ∈ BG := bg_t 393 (by decide +kernel) (by decide +kernel)
theorem q394 : Cond.static yL_limit ∈ BG := bg_t 394 (by decide +kernel) (by decide +kernel)
theorem q395 : Cond.code yL_limit cL_limit 2 (some .int) ∈ BG := bg_t 395 (by decide +kernel) (by decide +kernel)
theorem q396 : Cond.methodLink RL 14 yL_rest ∈ BG := bg_t 396 (by decide +kernel) (by decide +kernel)
theorem q397 : Cond.static yL_rest ∈ BG := bg_t 397 (by decide +kernel) (by decide +kernel)
theorem q398 : Cond.code yL_rest cL_rest 3 (some .boolean) ∈ BG := bg_t 398 (by decide +kernel) (by decide +kernel)
theorem q399 : Cond.methodLink RL 22 yL_match ∈ BG := bg_t 399 (by decide +kernel) (by decide +kernel)
theorem q400 : Cond.static yL_match ∈ BG := bg_t 400 (by decide +kernel) (by decide +kernel)
theorem q401 : Cond.code yL_match cL_match 15 none ∈ BG := bg_t 401 (by decide +kernel) (by decide +kernel)
theorem q402 : Cond.methodLink RL 18 yL_part ∈ BG := bg_t 402 (by decide +kernel) (by decide +kernel)
theorem q403 : Cond.static yL_part ∈ BG := bg_t 403 (by decide +kernel) (by decide +kernel)
theorem q404 : Cond.code yL_part cL_part 11 (some .int) ∈ BG := bg_t 404 (by decide +kernel) (by decide +kernel)
theorem q405 : Cond.methodLink RL 36 yX8_minute ∈ BG := bg_t 405 (by decide +kernel) (by decide +kernel)
theorem q406 : Cond.instanceMethod yX8_minute ∈ BG := bg_t 406 (by decide +kernel) (by decide +kernel)
theorem q407 : Cond.selects RX8 yX8_minute yX8_minute ∈ BG := bg_t 407 (by decide +kernel) (by decide +kernel)
theorem q408 : Cond.code yX8_minute cX8_minute 3 (some .int) ∈ BG := bg_t 408 (by decide +kernel) (by decide +kernel)
theorem q409 : Cond.methodLink RX8 99 yX5_hasMinute ∈ BG := bg_t 409 (by decide +kernel) (by decide +kernel)
theorem q410 : Cond.instanceMethod yX5_hasMinute ∈ BG := bg_t 410 (by decide +kernel) (by decide +kernel)
theorem q411 : Cond.selects RX5 yX5_hasMinute yX5_hasMinute ∈ BG := bg_t 411 (by decide +kernel) (by decide +kernel)
theorem q412 : Cond.code yX5_hasMinute cX5_hasMinute 2 (some .boolean) ∈ BG := bg_t 412 (by decide +kernel) (by decide +kernel)
theorem q429 : Cond.methodLink RX8 195 yX8_minuteProperty ∈ BG := bg_t 429 (by decide +kernel) (by decide +kernel)
theorem q431 : Cond.instanceMethod yX8_minuteProperty ∈ BG := bg_t 431 (by decide +kernel) (by decide +kernel)
theorem q432 : Cond.code yX8_minuteProperty cX8_minuteProperty 3 (some .int) ∈ BG := bg_t 432 (by decide +kernel) (by decide +kernel)
theorem q433 : Cond.methodLink RX8 294 yX8_limitAt ∈ BG := bg_t 433 (by decide +kernel) (by decide +kernel)
theorem q434 : Cond.static yX8_limitAt ∈ BG := bg_t 434 (by decide +kernel) (by decide +kernel)
theorem q435 : Cond.code yX8_limitAt cX8_limitAt 2 (some .int) ∈ BG := bg_t 435 (by decide +kernel) (by decide +kernel)
theorem q436 : Cond.methodLink RX8 298 yX8_isRest ∈ BG := bg_t 436 (by decide +kernel) (by decide +kernel)
theorem q437 : Cond.static yX8_isRest ∈ BG := bg_t 437 (by decide +kernel) (by decide +kernel)
theorem q438 : Cond.code yX8_isRest cX8_isRest 2 (some .boolean) ∈ BG := bg_t 438 (by decide +kernel) (by decide +kernel)
theorem q439 : Cond.methodLink RX8 329 yJ9_floorMod_7cf53 ∈ BG := bg_t 439 (by decide +kernel) (by decide +kernel)
theorem q440 : Cond.static yJ9_floorMod_7cf53 ∈ BG := bg_t 440 (by decide +kernel) (by decide +kernel)
theorem q441 : Cond.code yJ9_floorMod_7cf53 cJ9_floorMod_7cf53 3 (some .int) ∈ BG := bg_t 441 (by decide +kernel) (by decide +kernel)
theorem q442 : Cond.methodLink RL 26 yL_number ∈ BG := bg_t 442 (by decide +kernel) (by decide +kernel)
theorem q443 : Cond.static yL_number ∈ BG := bg_t 443 (by decide +kernel) (by decide +kernel)
theorem q444 : Cond.code yL_number cL_number 4 (some .int) ∈ BG := bg_t 444 (by decide +kernel) (by decide +kernel)
theorem q445 : Cond.methodLink RL 42 yX8_exceedance ∈ BG := bg_t 445 (by decide +kernel) (by decide +kernel)
theorem q446 : Cond.instanceMethod yX8_exceedance ∈ BG := bg_t 446 (by decide +kernel) (by decide +kernel)
theorem q447 : Cond.selects RX8 yX8_exceedance yX8_exceedance ∈ BG := bg_t 447 (by decide +kernel) (by decide +kernel)
theorem q448 : Cond.code yX8_exceedance cX8_exceedance 3 (some .int) ∈ BG := bg_t 448 (by decide +kernel) (by decide +kernel)
theorem q450 : Cond.methodLink RX8 201 yX8_exceedanceProperty ∈ BG := bg_t 450 (by decide +kernel) (by decide +kernel)
theorem q452 : Cond.instanceMethod yX8_exceedanceProperty ∈ BG := bg_t 452 (by decide +kernel) (by decide +kernel)
theorem q453 : Cond.code yX8_exceedanceProperty cX8_exceedanceProperty 3 (some .int) ∈ BG := bg_t 453 (by decide +kernel) (by decide +kernel)
theorem q454 : Cond.methodLink RL 45 yX8_complaint ∈ BG := bg_t 454 (by decide +kernel) (by decide +kernel)
theorem q455 : Cond.instanceMethod yX8_complaint ∈ BG := bg_t 455 (by decide +kernel) (by decide +kernel)
theorem q456 : Cond.selects RX8 yX8_complaint yX8_complaint ∈ BG := bg_t 456 (by decide +kernel) (by decide +kernel)
theorem q457 : Cond.code yX8_complaint cX8_complaint 3 (some .int) ∈ BG := bg_t 457 (by decide +kernel) (by decide +kernel)
theorem q458 : Cond.methodLink RX8 137 yX5_hasComplaint ∈ BG := bg_t 458 (by decide +kernel) (by decide +kernel)
theorem q459 : Cond.instanceMethod yX5_hasComplaint ∈ BG := bg_t 459 (by decide +kernel) (by decide +kernel)
theorem q460 : Cond.selects RX5 yX5_hasComplaint yX5_hasComplaint ∈ BG := bg_t 460 (by decide +kernel) (by decide +kernel)
theorem q461 : Cond.code yX5_hasComplaint cX5_hasComplaint 2 (some .boolean) ∈ BG := bg_t 461 (by decide +kernel) (by decide +kernel)
theorem q463 : Cond.methodLink RX8 204 yX8_complaintProperty ∈ BG := bg_t 463 (by decide +kernel) (by decide +kernel)
theorem q465 : Cond.instanceMethod yX8_complaintProperty ∈ BG := bg_t 465 (by decide +kernel) (by decide +kernel)
theorem q466 : Cond.code yX8_complaintProperty cX8_complaintProperty 3 (some .int) ∈ BG := bg_t 466 (by decide +kernel) (by decide +kernel)
theorem q467 : Cond.methodLink RL 48 yX8_setting ∈ BG := bg_t 467 (by decide +kernel) (by decide +kernel)
theorem q468 : Cond.instanceMethod yX8_setting ∈ BG := bg_t 468 (by decide +kernel) (by decide +kernel)
theorem q469 : Cond.selects RX8 yX8_setting yX8_setting ∈ BG := bg_t 469 (by decide +kernel) (by decide +kernel)
theorem q470 : Cond.code yX8_setting cX8_setting 2 (some .int) ∈ BG := bg_t 470 (by decide +kernel) (by decide +kernel)
theorem q471 : Cond.methodLink RX8 47 yX8_isSetting ∈ BG := bg_t 471 (by decide +kernel) (by decide +kernel)
theorem q472 : Cond.static yX8_isSetting ∈ BG := bg_t 472 (by decide +kernel) (by decide +kernel)
theorem q473 : Cond.code yX8_isSetting cX8_isSetting 1 (some .boolean) ∈ BG := bg_t 473 (by decide +kernel) (by decide +kernel)
theorem q475 : Cond.methodLink RL 55 yL_counted ∈ BG := bg_t 475 (by decide +kernel) (by decide +kernel)
theorem q476 : Cond.static yL_counted ∈ BG := bg_t 476 (by decide +kernel) (by decide +kernel)
theorem q477 : Cond.code yL_counted cL_counted 13 (some .int) ∈ BG := bg_t 477 (by decide +kernel) (by decide +kernel)
theorem q478 : Cond.methodLink RL 29 yL_exceedances ∈ BG := bg_t 478 (by decide +kernel) (by decide +kernel)
theorem q479 : Cond.static yL_exceedances ∈ BG := bg_t 479 (by decide +kernel) (by decide +kernel)
theorem q480 : Cond.code yL_exceedances cL_exceedances 4 (some .int) ∈ BG := bg_t 480 (by decide +kernel) (by decide +kernel)
theorem q481 : Cond.methodLink RL 62 yX8_levelCount ∈ BG := bg_t 481 (by decide +kernel) (by decide +kernel)
theorem q482 : Cond.instanceMethod yX8_levelCount ∈ BG := bg_t 482 (by decide +kernel) (by decide +kernel)
theorem q483 : Cond.selects RX8 yX8_levelCount yX8_levelCount ∈ BG := bg_t 483 (by decide +kernel) (by decide +kernel)
theorem q484 : Cond.code yX8_levelCount cX8_levelCount 2 (some .int) ∈ BG := bg_t 484 (by decide +kernel) (by decide +kernel)
theorem q485 : Cond.methodLink RX8 78 yX8_isLevel ∈ BG := bg_t 485 (by decide +kernel) (by decide +kernel)
theorem q486 : Cond.static yX8_isLevel ∈ BG := bg_t 486 (by decide +kernel) (by decide +kernel)
theorem q487 : Cond.code yX8_isLevel cX8_isLevel 1 (some .boolean) ∈ BG := bg_t 487 (by decide +kernel) (by decide +kernel)
theorem q489 : Cond.methodLink RL 65 yX8_percentLevel ∈ BG := bg_t 489 (by decide +kernel) (by decide +kernel)
theorem q490 : Cond.instanceMethod yX8_percentLevel ∈ BG := bg_t 490 (by decide +kernel) (by decide +kernel)
theorem q491 : Cond.selects RX8 yX8_percentLevel yX8_percentLevel ∈ BG := bg_t 491 (by decide +kernel) (by decide +kernel)
theorem q492 : Cond.code yX8_percentLevel cX8_percentLevel 2 (some .int) ∈ BG := bg_t 492 (by decide +kernel) (by decide +kernel)
theorem q494 : Cond.methodLink RX8 222 yX2_levelOfPercent ∈ BG := bg_t 494 (by decide +kernel) (by decide +kernel)
theorem q495 : Cond.instanceMethod yX2_levelOfPercent ∈ BG := bg_t 495 (by decide +kernel) (by decide +kernel)
theorem q496 : Cond.selects RX2 yX2_levelOfPercent yX2_levelOfPercent ∈ BG := bg_t 496 (by decide +kernel) (by decide +kernel)
theorem q497 : Cond.code yX2_levelOfPercent cX2_levelOfPercent 4 (some .int) ∈ BG := bg_t 497 (by decide +kernel) (by decide +kernel)
theorem q498 : Cond.methodLink RL 68 yX8_share ∈ BG := bg_t 498 (by decide +kernel) (by decide +kernel)
theorem q499 : Cond.instanceMethod yX8_share ∈ BG := bg_t 499 (by decide +kernel) (by decide +kernel)
theorem q500 : Cond.selects RX8 yX8_share yX8_share ∈ BG := bg_t 500 (by decide +kernel) (by decide +kernel)
theorem q501 : Cond.code yX8_share cX8_share 1 (some .double) ∈ BG := bg_t 501 (by decide +kernel) (by decide +kernel)
theorem q502 : Cond.methodLink RX8 248 yX4_shareAbove ∈ BG := bg_t 502 (by decide +kernel) (by decide +kernel)
theorem q503 : Cond.instanceMethod yX4_shareAbove ∈ BG := bg_t 503 (by decide +kernel) (by decide +kernel)
theorem q504 : Cond.selects RX4 yX4_shareAbove yX4_shareAbove ∈ BG := bg_t 504 (by decide +kernel) (by decide +kernel)
theorem q505 : Cond.code yX4_shareAbove cX4_shareAbove 1 (some .double) ∈ BG := bg_t 505 (by decide +kernel) (by decide +kernel)
theorem q509 : Cond.methodLink RL 72 yL_value ∈ BG := bg_t 509 (by decide +kernel) (by decide +kernel)
theorem q510 : Cond.static yL_value ∈ BG := bg_t 510 (by decide +kernel) (by decide +kernel)
theorem q511 : Cond.code yL_value cL_value 2 (some .int) ∈ BG := bg_t 511 (by decide +kernel) (by decide +kernel)
theorem q512 : Cond.methodLink RL 75 yX8_ifSet ∈ BG := bg_t 512 (by decide +kernel) (by decide +kernel)
theorem q513 : Cond.instanceMethod yX8_ifSet ∈ BG := bg_t 513 (by decide +kernel) (by decide +kernel)
theorem q514 : Cond.selects RX8 yX8_ifSet yX8_ifSet ∈ BG := bg_t 514 (by decide +kernel) (by decide +kernel)
theorem q515 : Cond.code yX8_ifSet cX8_ifSet 4 (some .int) ∈ BG := bg_t 515 (by decide +kernel) (by decide +kernel)
theorem q516 : Cond.methodLink RX8 58 yX8_fitsSetting ∈ BG := bg_t 516 (by decide +kernel) (by decide +kernel)
theorem q517 : Cond.static yX8_fitsSetting ∈ BG := bg_t 517 (by decide +kernel) (by decide +kernel)
theorem q518 : Cond.code yX8_fitsSetting cX8_fitsSetting 2 (some .boolean) ∈ BG := bg_t 518 (by decide +kernel) (by decide +kernel)
theorem q519 : Cond.fieldLink RX8 282 "NoisePost" "SETTING_LEAST" "[I" ∈ BG := bg_t 519 (by decide +kernel) (by decide +kernel)
theorem q521 : Cond.fieldLink RX8 285 "NoisePost" "SETTING_MOST" "[I" ∈ BG := bg_t 521 (by decide +kernel) (by decide +kernel)
theorem q524 : Cond.methodLink RX8 231 yX7_takeSettings ∈ BG := bg_t 524 (by decide +kernel) (by decide +kernel)
theorem q525 : Cond.instanceMethod yX7_takeSettings ∈ BG := bg_t 525 (by decide +kernel) (by decide +kernel)
theorem q526 : Cond.selects RX7 yX7_takeSettings yX7_takeSettings ∈ BG := bg_t 526 (by decide +kernel) (by decide +kernel)
theorem q527 : Cond.code yX7_takeSettings cX7_takeSettings 2 none ∈ BG := bg_t 527 (by decide +kernel) (by decide +kernel)
theorem q528 : Cond.methodLink RX7 44 arraycopyName ∈ BG := bg_t 528 (by decide +kernel) (by decide +kernel)
theorem q529 : Cond.static arraycopyName ∈ BG := bg_t 529 (by decide +kernel) (by decide +kernel)
theorem q530 : Cond.native arraycopyName ∈ BG := bg_t 530 (by decide +kernel) (by decide +kernel)
theorem q531 : Cond.methodLink RX8 236 yX7_look ∈ BG := bg_t 531 (by decide +kernel) (by decide +kernel)
theorem q532 : Cond.instanceMethod yX7_look ∈ BG := bg_t 532 (by decide +kernel) (by decide +kernel)
theorem q533 : Cond.selects RX7 yX7_look yX7_look ∈ BG := bg_t 533 (by decide +kernel) (by decide +kernel)
theorem q534 : Cond.code yX7_look cX7_look 2 none ∈ BG := bg_t 534 (by decide +kernel) (by decide +kernel)
theorem q535 : Cond.methodLink RX7 50 yX4_moveArms ∈ BG := bg_t 535 (by decide +kernel) (by decide +kernel)
theorem q536 : Cond.instanceMethod yX4_moveArms ∈ BG := bg_t 536 (by decide +kernel) (by decide +kernel)
theorem q537 : Cond.selects RX4 yX4_moveArms yX4_moveArms ∈ BG := bg_t 537 (by decide +kernel) (by decide +kernel)
theorem q538 : Cond.code yX4_moveArms cX4_moveArms 6 none ∈ BG := bg_t 538 (by decide +kernel) (by decide +kernel)
theorem q540 : Cond.static yX8_moved ∈ BG := bg_t 540 (by decide +kernel) (by decide +kernel)
theorem q541 : Cond.code yX8_moved cX8_moved 3 (some .int) ∈ BG := bg_t 541 (by decide +kernel) (by decide +kernel)
theorem q542 : Cond.methodLink RX7 54 yX4_judge ∈ BG := bg_t 542 (by decide +kernel) (by decide +kernel)
theorem q543 : Cond.instanceMethod yX4_judge ∈ BG := bg_t 543 (by decide +kernel) (by decide +kernel)
theorem q544 : Cond.selects RX4 yX4_judge yX4_judge ∈ BG := bg_t 544 (by decide +kernel) (by decide +kernel)
theorem q545 : Cond.code yX4_judge cX4_judge 5 none ∈ BG := bg_t 545 (by decide +kernel) (by decide +kernel)
theorem q546 : Cond.methodLink RX4 43 yX4_isSoonAfterWind ∈ BG := bg_t 546 (by decide +kernel) (by decide +kernel)
theorem q547 : Cond.instanceMethod yX4_isSoonAfterWind ∈ BG := bg_t 547 (by decide +kernel) (by decide +kernel)
theorem q548 : Cond.selects RX4 yX4_isSoonAfterWind yX4_isSoonAfterWind ∈ BG := bg_t 548 (by decide +kernel) (by decide +kernel)
theorem q549 : Cond.code yX4_isSoonAfterWind cX4_isSoonAfterWind 3 (some .boolean) ∈ BG := bg_t 549 (by decide +kernel) (by decide +kernel)
theorem q551 : Cond.methodLink RX7 57 yX4_tally ∈ BG := bg_t 551 (by decide +kernel) (by decide +kernel)
theorem q552 : Cond.instanceMethod yX4_tally ∈ BG := bg_t 552 (by decide +kernel) (by decide +kernel)
theorem q553 : Cond.selects RX4 yX4_tally yX4_tally ∈ BG := bg_t 553 (by decide +kernel) (by decide +kernel)
theorem q554 : Cond.code yX4_tally cX4_tally 3 none ∈ BG := bg_t 554 (by decide +kernel) (by decide +kernel)
theorem q555 : Cond.methodLink RX4 60 yX4_isCounted ∈ BG := bg_t 555 (by decide +kernel) (by decide +kernel)
theorem q556 : Cond.instanceMethod yX4_isCounted ∈ BG := bg_t 556 (by decide +kernel) (by decide +kernel)
theorem q557 : Cond.selects RX4 yX4_isCounted yX4_isCounted ∈ BG := bg_t 557 (by decide +kernel) (by decide +kernel)
theorem q558 : Cond.code yX4_isCounted cX4_isCounted 2 (some .boolean) ∈ BG := bg_t 558 (by decide +kernel) (by decide +kernel)
theorem q560 : Cond.methodLink RX7 61 yX0_find ∈ BG := bg_t 560 (by decide +kernel) (by decide +kernel)
theorem q561 : Cond.instanceMethod yX0_find ∈ BG := bg_t 561 (by decide +kernel) (by decide +kernel)
theorem q562 : Cond.selects RX0 yX0_find yX0_find ∈ BG := bg_t 562 (by decide +kernel) (by decide +kernel)
theorem q563 : Cond.code yX0_find cX0_find 7 none ∈ BG := bg_t 563 (by decide +kernel) (by decide +kernel)
theorem q564 : Cond.methodLink RX0 42 yX0_begin ∈ BG := bg_t 564 (by decide +kernel) (by decide +kernel)
theorem q566 : Cond.instanceMethod yX0_begin ∈ BG := bg_t 566 (by decide +kernel) (by decide +kernel)
theorem q567 : Cond.code yX0_begin cX0_begin 2 none ∈ BG := bg_t 567 (by decide +kernel) (by decide +kernel)
theorem q569 : Cond.methodLink RX0 56 yX0_extend ∈ BG := bg_t 569 (by decide +kernel) (by decide +kernel)
theorem q571 : Cond.instanceMethod yX0_extend ∈ BG := bg_t 571 (by decide +kernel) (by decide +kernel)
theorem q572 : Cond.code yX0_extend cX0_extend 5 none ∈ BG := bg_t 572 (by decide +kernel) (by decide +kernel)
theorem q573 : Cond.methodLink RX0 67 Lib.Math.max.name ∈ BG := bg_t 573 (by decide +kernel) (by decide +kernel)
theorem q574 : Cond.static Lib.Math.max.name ∈ BG := bg_t 574 (by decide +kernel) (by decide +kernel)
theorem q575 : Cond.code Lib.Math.max.name Lib.Math.max.code 2 (some .int) ∈ BG := bg_t 575 (by decide +kernel) (by decide +kernel)
theorem q576 : Cond.methodLink RX0 64 yX0_markOwners ∈ BG := bg_t 576 (by decide +kernel) (by decide +kernel)
theorem q578 : Cond.instanceMethod yX0_markOwners ∈ BG := bg_t 578 (by decide +kernel) (by decide +kernel)
theorem q579 : Cond.code yX0_markOwners cX0_markOwners 3 none ∈ BG := bg_t 579 (by decide +kernel) (by decide +kernel)
theorem q580 : Cond.methodLink RX7 65 yX3_match ∈ BG := bg_t 580 (by decide +kernel) (by decide +kernel)
theorem q581 : Cond.instanceMethod yX3_match ∈ BG := bg_t 581 (by decide +kernel) (by decide +kernel)
theorem q582 : Cond.selects RX3 yX3_match yX3_match ∈ BG := bg_t 582 (by decide +kernel) (by decide +kernel)
theorem q583 : Cond.code yX3_match cX3_match 8 none ∈ BG := bg_t 583 (by decide +kernel) (by decide +kernel)
theorem q584 : Cond.methodLink RX3 36 yX3_putInOrder ∈ BG := bg_t 584 (by decide +kernel) (by decide +kernel)
theorem q586 : Cond.instanceMethod yX3_putInOrder ∈ BG := bg_t 586 (by decide +kernel) (by decide +kernel)
theorem q587 : Cond.code yX3_putInOrder cX3_putInOrder 5 none ∈ BG := bg_t 587 (by decide +kernel) (by decide +kernel)
theorem q588 : Cond.methodLink RX3 43 yX3_bestFor ∈ BG := bg_t 588 (by decide +kernel) (by decide +kernel)
theorem q590 : Cond.instanceMethod yX3_bestFor ∈ BG := bg_t 590 (by decide +kernel) (by decide +kernel)
theorem q591 : Cond.code yX3_bestFor cX3_bestFor 8 (some .int) ∈ BG := bg_t 591 (by decide +kernel) (by decide +kernel)
theorem q592 : Cond.methodLink RL 79 yX8_leastLimit ∈ BG := bg_t 592 (by decide +kernel) (by decide +kernel)
theorem q593 : Cond.instanceMethod yX8_leastLimit ∈ BG := bg_t 593 (by decide +kernel) (by decide +kernel)
theorem q594 : Cond.selects RX8 yX8_leastLimit yX8_leastLimit ∈ BG := bg_t 594 (by decide +kernel) (by decide +kernel)
theorem q595 : Cond.code yX8_leastLimit cX8_leastLimit 2 (some .int) ∈ BG := bg_t 595 (by decide +kernel) (by decide +kernel)
theorem q597 : Cond.methodLink RX8 242 yX7_leastLimitFor ∈ BG := bg_t 597 (by decide +kernel) (by decide +kernel)
theorem q598 : Cond.instanceMethod yX7_leastLimitFor ∈ BG := bg_t 598 (by decide +kernel) (by decide +kernel)
theorem q599 : Cond.selects RX7 yX7_leastLimitFor yX7_leastLimitFor ∈ BG := bg_t 599 (by decide +kernel) (by decide +kernel)
theorem q600 : Cond.code yX7_leastLimitFor cX7_leastLimitFor 3 (some .int) ∈ BG := bg_t 600 (by decide +kernel) (by decide +kernel)
theorem q601 : Cond.methodLink RX7 102 yX7_exceedancesWithLimit ∈ BG := bg_t 601 (by decide +kernel) (by decide +kernel)
theorem q603 : Cond.instanceMethod yX7_exceedancesWithLimit ∈ BG := bg_t 603 (by decide +kernel) (by decide +kernel)
theorem q604 : Cond.code yX7_exceedancesWithLimit cX7_exceedancesWithLimit 6 (some .int) ∈ BG := bg_t 604 (by decide +kernel) (by decide +kernel)
theorem q605 : Cond.methodLink RX7 106 yX7_isAboveWithLimit ∈ BG := bg_t 605 (by decide +kernel) (by decide +kernel)
theorem q607 : Cond.instanceMethod yX7_isAboveWithLimit ∈ BG := bg_t 607 (by decide +kernel) (by decide +kernel)
theorem q608 : Cond.code yX7_isAboveWithLimit cX7_isAboveWithLimit 4 (some .boolean) ∈ BG := bg_t 608 (by decide +kernel) (by decide +kernel)
theorem q609 : Cond.methodLink RX7 110 yX4_isCounted ∈ BG := bg_t 609 (by decide +kernel) (by decide +kernel)
theorem q611 : Cond.methodLink RL 82 yX8_aboveIn ∈ BG := bg_t 611 (by decide +kernel) (by decide +kernel)
theorem q612 : Cond.instanceMethod yX8_aboveIn ∈ BG := bg_t 612 (by decide +kernel) (by decide +kernel)
theorem q613 : Cond.selects RX8 yX8_aboveIn yX8_aboveIn ∈ BG := bg_t 613 (by decide +kernel) (by decide +kernel)
theorem q614 : Cond.code yX8_aboveIn cX8_aboveIn 2 (some .int) ∈ BG := bg_t 614 (by decide +kernel) (by decide +kernel)
theorem q615 : Cond.methodLink RX8 245 yX7_minutesUntilAbove ∈ BG := bg_t 615 (by decide +kernel) (by decide +kernel)
theorem q616 : Cond.instanceMethod yX7_minutesUntilAbove ∈ BG := bg_t 616 (by decide +kernel) (by decide +kernel)
theorem q617 : Cond.selects RX7 yX7_minutesUntilAbove yX7_minutesUntilAbove ∈ BG := bg_t 617 (by decide +kernel) (by decide +kernel)
theorem q618 : Cond.code yX7_minutesUntilAbove cX7_minutesUntilAbove 6 (some .int) ∈ BG := bg_t 618 (by decide +kernel) (by decide +kernel)
theorem q619 : Cond.methodLink RX7 121 yX4_lastSlowPlace ∈ BG := bg_t 619 (by decide +kernel) (by decide +kernel)
theorem q620 : Cond.instanceMethod yX4_lastSlowPlace ∈ BG := bg_t 620 (by decide +kernel) (by decide +kernel)
theorem q621 : Cond.selects RX4 yX4_lastSlowPlace yX4_lastSlowPlace ∈ BG := bg_t 621 (by decide +kernel) (by decide +kernel)
theorem q622 : Cond.code yX4_lastSlowPlace cX4_lastSlowPlace 1 (some .int) ∈ BG := bg_t 622 (by decide +kernel) (by decide +kernel)
theorem q624 : Cond.methodLink RX7 128 yX4_isSoonAfterWind ∈ BG := bg_t 624 (by decide +kernel) (by decide +kernel)
theorem q629 : Cond.methodLink RL 85 yX8_tell ∈ BG := bg_t 629 (by decide +kernel) (by decide +kernel)
theorem q630 : Cond.instanceMethod yX8_tell ∈ BG := bg_t 630 (by decide +kernel) (by decide +kernel)
theorem q631 : Cond.selects RX8 yX8_tell yX8_tell ∈ BG := bg_t 631 (by decide +kernel) (by decide +kernel)
theorem q632 : Cond.code yX8_tell cX8_tell 4 (some .int) ∈ BG := bg_t 632 (by decide +kernel) (by decide +kernel)
theorem q633 : Cond.methodLink RX8 81 yX8_isWind ∈ BG := bg_t 633 (by decide +kernel) (by decide +kernel)
theorem q634 : Cond.static yX8_isWind ∈ BG := bg_t 634 (by decide +kernel) (by decide +kernel)
theorem q635 : Cond.code yX8_isWind cX8_isWind 1 (some .boolean) ∈ BG := bg_t 635 (by decide +kernel) (by decide +kernel)
theorem q653 : Cond.methodLink RX8 67 yX1_keep ∈ BG := bg_t 653 (by decide +kernel) (by decide +kernel)
theorem q654 : Cond.instanceMethod yX1_keep ∈ BG := bg_t 654 (by decide +kernel) (by decide +kernel)
theorem q655 : Cond.selects RX1 yX1_keep yX1_keep ∈ BG := bg_t 655 (by decide +kernel) (by decide +kernel)
theorem q656 : Cond.code yX1_keep cX1_keep 2 none ∈ BG := bg_t 656 (by decide +kernel) (by decide +kernel)
theorem q657 : Cond.methodLink RX1 22 yX5_takeOver ∈ BG := bg_t 657 (by decide +kernel) (by decide +kernel)
theorem q658 : Cond.instanceMethod yX5_takeOver ∈ BG := bg_t 658 (by decide +kernel) (by decide +kernel)
theorem q659 : Cond.selects RX5 yX5_takeOver yX5_takeOver ∈ BG := bg_t 659 (by decide +kernel) (by decide +kernel)
theorem q660 : Cond.code yX5_takeOver cX5_takeOver 2 none ∈ BG := bg_t 660 (by decide +kernel) (by decide +kernel)
theorem q661 : Cond.methodLink RX5 45 arraycopyName ∈ BG := bg_t 661 (by decide +kernel) (by decide +kernel)
theorem q662 : Cond.methodLink RX1 29 Lib.Math.min.name ∈ BG := bg_t 662 (by decide +kernel) (by decide +kernel)
theorem q663 : Cond.static Lib.Math.min.name ∈ BG := bg_t 663 (by decide +kernel) (by decide +kernel)
theorem q664 : Cond.code Lib.Math.min.name Lib.Math.min.code 2 (some .int) ∈ BG := bg_t 664 (by decide +kernel) (by decide +kernel)
theorem q665 : Cond.methodLink RX8 95 yX5_addMinutes ∈ BG := bg_t 665 (by decide +kernel) (by decide +kernel)
theorem q666 : Cond.instanceMethod yX5_addMinutes ∈ BG := bg_t 666 (by decide +kernel) (by decide +kernel)
theorem q667 : Cond.selects RX5 yX5_addMinutes yX5_addMinutes ∈ BG := bg_t 667 (by decide +kernel) (by decide +kernel)
theorem q668 : Cond.code yX5_addMinutes cX5_addMinutes 5 none ∈ BG := bg_t 668 (by decide +kernel) (by decide +kernel)
theorem q669 : Cond.methodLink RX8 75 yX8_readAgain ∈ BG := bg_t 669 (by decide +kernel) (by decide +kernel)
theorem q671 : Cond.instanceMethod yX8_readAgain ∈ BG := bg_t 671 (by decide +kernel) (by decide +kernel)
theorem q672 : Cond.code yX8_readAgain cX8_readAgain 1 none ∈ BG := bg_t 672 (by decide +kernel) (by decide +kernel)
theorem q673 : Cond.methodLink RX8 278 yX2_tally ∈ BG := bg_t 673 (by decide +kernel) (by decide +kernel)
theorem q674 : Cond.instanceMethod yX2_tally ∈ BG := bg_t 674 (by decide +kernel) (by decide +kernel)
theorem q675 : Cond.selects RX2 yX2_tally yX2_tally ∈ BG := bg_t 675 (by decide +kernel) (by decide +kernel)
theorem q676 : Cond.code yX2_tally cX2_tally 3 none ∈ BG := bg_t 676 (by decide +kernel) (by decide +kernel)
theorem q677 : Cond.methodLink RX2 21 yX4_isCounted ∈ BG := bg_t 677 (by decide +kernel) (by decide +kernel)
theorem q678 : Cond.methodLink RX2 28 yX2_highestReached ∈ BG := bg_t 678 (by decide +kernel) (by decide +kernel)
theorem q679 : Cond.static yX2_highestReached ∈ BG := bg_t 679 (by decide +kernel) (by decide +kernel)
theorem q680 : Cond.code yX2_highestReached cX2_highestReached 1 (some .int) ∈ BG := bg_t 680 (by decide +kernel) (by decide +kernel)
theorem q681 : Cond.methodLink RX2 32 Lib.Math.min.name ∈ BG := bg_t 681 (by decide +kernel) (by decide +kernel)
theorem q682 : Cond.methodLink RX2 38 Lib.Math.max.name ∈ BG := bg_t 682 (by decide +kernel) (by decide +kernel)
theorem q683 : Cond.methodLink RL 88 yX8_correct ∈ BG := bg_t 683 (by decide +kernel) (by decide +kernel)
theorem q684 : Cond.instanceMethod yX8_correct ∈ BG := bg_t 684 (by decide +kernel) (by decide +kernel)
theorem q685 : Cond.selects RX8 yX8_correct yX8_correct ∈ BG := bg_t 685 (by decide +kernel) (by decide +kernel)
theorem q686 : Cond.code yX8_correct cX8_correct 4 (some .int) ∈ BG := bg_t 686 (by decide +kernel) (by decide +kernel)
theorem q688 : Cond.methodLink RL 91 yX8_forget ∈ BG := bg_t 688 (by decide +kernel) (by decide +kernel)
theorem q689 : Cond.instanceMethod yX8_forget ∈ BG := bg_t 689 (by decide +kernel) (by decide +kernel)
theorem q690 : Cond.selects RX8 yX8_forget yX8_forget ∈ BG := bg_t 690 (by decide +kernel) (by decide +kernel)
theorem q691 : Cond.code yX8_forget cX8_forget 2 (some .int) ∈ BG := bg_t 691 (by decide +kernel) (by decide +kernel)
theorem q693 : Cond.methodLink RX8 123 yX5_dropMinutes ∈ BG := bg_t 693 (by decide +kernel) (by decide +kernel)
theorem q694 : Cond.instanceMethod yX5_dropMinutes ∈ BG := bg_t 694 (by decide +kernel) (by decide +kernel)
theorem q695 : Cond.selects RX5 yX5_dropMinutes yX5_dropMinutes ∈ BG := bg_t 695 (by decide +kernel) (by decide +kernel)
theorem q696 : Cond.code yX5_dropMinutes cX5_dropMinutes 4 none ∈ BG := bg_t 696 (by decide +kernel) (by decide +kernel)
theorem q697 : Cond.methodLink RX5 39 Lib.Math.max.name ∈ BG := bg_t 697 (by decide +kernel) (by decide +kernel)
theorem q698 : Cond.methodLink RL 94 yX8_complain ∈ BG := bg_t 698 (by decide +kernel) (by decide +kernel)
theorem q699 : Cond.instanceMethod yX8_complain ∈ BG := bg_t 699 (by decide +kernel) (by decide +kernel)
theorem q700 : Cond.selects RX8 yX8_complain yX8_complain ∈ BG := bg_t 700 (by decide +kernel) (by decide +kernel)
theorem q701 : Cond.code yX8_complain cX8_complain 3 (some .int) ∈ BG := bg_t 701 (by decide +kernel) (by decide +kernel)
theorem q704 : Cond.methodLink RX8 134 yX5_addComplaint ∈ BG := bg_t 704 (by decide +kernel) (by decide +kernel)
theorem q705 : Cond.instanceMethod yX5_addComplaint ∈ BG := bg_t 705 (by decide +kernel) (by decide +kernel)
theorem q706 : Cond.selects RX5 yX5_addComplaint yX5_addComplaint ∈ BG := bg_t 706 (by decide +kernel) (by decide +kernel)
theorem q707 : Cond.code yX5_addComplaint cX5_addComplaint 2 none ∈ BG := bg_t 707 (by decide +kernel) (by decide +kernel)
theorem q708 : Cond.methodLink RL 97 yX8_withdraw ∈ BG := bg_t 708 (by decide +kernel) (by decide +kernel)
theorem q709 : Cond.instanceMethod yX8_withdraw ∈ BG := bg_t 709 (by decide +kernel) (by decide +kernel)
theorem q710 : Cond.selects RX8 yX8_withdraw yX8_withdraw ∈ BG := bg_t 710 (by decide +kernel) (by decide +kernel)
theorem q711 : Cond.code yX8_withdraw cX8_withdraw 3 (some .int) ∈ BG := bg_t 711 (by decide +kernel) (by decide +kernel)
theorem q712 : Cond.methodLink RX8 151 yX5_dropComplaint ∈ BG := bg_t 712 (by decide +kernel) (by decide +kernel)
theorem q713 : Cond.instanceMethod yX5_dropComplaint ∈ BG := bg_t 713 (by decide +kernel) (by decide +kernel)
theorem q714 : Cond.selects RX5 yX5_dropComplaint yX5_dropComplaint ∈ BG := bg_t 714 (by decide +kernel) (by decide +kernel)
theorem q715 : Cond.code yX5_dropComplaint cX5_dropComplaint 3 none ∈ BG := bg_t 715 (by decide +kernel) (by decide +kernel)
theorem q716 : Cond.methodLink RL 100 yX8_set ∈ BG := bg_t 716 (by decide +kernel) (by decide +kernel)
theorem q717 : Cond.instanceMethod yX8_set ∈ BG := bg_t 717 (by decide +kernel) (by decide +kernel)
theorem q718 : Cond.selects RX8 yX8_set yX8_set ∈ BG := bg_t 718 (by decide +kernel) (by decide +kernel)
theorem q719 : Cond.code yX8_set cX8_set 4 (some .int) ∈ BG := bg_t 719 (by decide +kernel) (by decide +kernel)
theorem iX0 : ∀ x ∈ u_ws RX0 TX0 8, x ∈ BG := by
  intro x hx
  obtain ⟨k, hk, rfl⟩ := List.mem_map.mp hx
  have hk := List.mem_range.mp hk
  rcases (show k = 0 ∨ k = 1 ∨ k = 2 ∨ k = 3 ∨ k = 4 ∨ k = 5 ∨ k = 6 ∨ k = 7 by omega) with rfl | rfl | rfl | rfl | rfl | rfl | rfl | rfl
  · exact q202
  · exact q204
  · exact q206
  · exact q208
  · exact q210
  · exact q212
  · exact q214
  · exact q216
theorem iX1 : ∀ x ∈ u_ws RX1 TX1 3, x ∈ BG := by
  intro x hx
  obtain ⟨k, hk, rfl⟩ := List.mem_map.mp hx
  have hk := List.mem_range.mp hk
  rcases (show k = 0 ∨ k = 1 ∨ k = 2 by omega) with rfl | rfl | rfl
  · exact q85
  · exact q87
  · exact q89
theorem iX2 : ∀ x ∈ u_ws RX2 TX2 1, x ∈ BG := by
  intro x hx
  obtain ⟨k, hk, rfl⟩ := List.mem_map.mp hx
  have hk := List.mem_range.mp hk
  rcases (show k = 0 by omega) with rfl
  · exact q270
theorem iX3 : ∀ x ∈ u_ws RX3 TX3 5, x ∈ BG := by
  intro x hx
  obtain ⟨k, hk, rfl⟩ := List.mem_map.mp hx
  have hk := List.mem_range.mp hk
  rcases (show k = 0 ∨ k = 1 ∨ k = 2 ∨ k = 3 ∨ k = 4 by omega) with rfl | rfl | rfl | rfl | rfl
  · exact q234
  · exact q236
  · exact q238
  · exact q240
  · exact q242
theorem iX4 : ∀ x ∈ u_ws RX4 TX4 8, x ∈ BG := by
  intro x hx
  obtain ⟨k, hk, rfl⟩ := List.mem_map.mp hx
  have hk := List.mem_range.mp hk
  rcases (show k = 0 ∨ k = 1 ∨ k = 2 ∨ k = 3 ∨ k = 4 ∨ k = 5 ∨ k = 6 ∨ k = 7 by omega) with rfl | rfl | rfl | rfl | rfl | rfl | rfl | rfl
  · exact q158
  · exact q160
  · exact q162
  · exact q164
  · exact q166
  · exact q168
  · exact q170
  · exact q172
theorem iX5 : ∀ x ∈ u_ws RX5 TX5 6, x ∈ BG := by
  intro x hx
  obtain ⟨k, hk, rfl⟩ := List.mem_map.mp hx
  have hk := List.mem_range.mp hk
  rcases (show k = 0 ∨ k = 1 ∨ k = 2 ∨ k = 3 ∨ k = 4 ∨ k = 5 by omega) with rfl | rfl | rfl | rfl | rfl | rfl
  · exact q58
  · exact q60
  · exact q62
  · exact q64
  · exact q66
  · exact q68
theorem iX6 : ∀ x ∈ u_ws RX6 TX6 8, x ∈ BG := by
  intro x hx
  obtain ⟨k, hk, rfl⟩ := List.mem_map.mp hx
  have hk := List.mem_range.mp hk
  rcases (show k = 0 ∨ k = 1 ∨ k = 2 ∨ k = 3 ∨ k = 4 ∨ k = 5 ∨ k = 6 ∨ k = 7 by omega) with rfl | rfl | rfl | rfl | rfl | rfl | rfl | rfl
  · exact q103
  · exact q105
  · exact q107
  · exact q109
  · exact q111
  · exact q113
  · exact q115
  · exact q117
theorem iX7 : ∀ x ∈ u_ws RX7 TX7 4, x ∈ BG := by
  intro x hx
  obtain ⟨k, hk, rfl⟩ := List.mem_map.mp hx
  have hk := List.mem_range.mp hk
  rcases (show k = 0 ∨ k = 1 ∨ k = 2 ∨ k = 3 by omega) with rfl | rfl | rfl | rfl
  · exact q253
  · exact q255
  · exact q257
  · exact q259
theorem iX8 : ∀ x ∈ u_ws RX8 TX8 6, x ∈ BG := by
  intro x hx
  obtain ⟨k, hk, rfl⟩ := List.mem_map.mp hx
  have hk := List.mem_range.mp hk
  rcases (show k = 0 ∨ k = 1 ∨ k = 2 ∨ k = 3 ∨ k = 4 ∨ k = 5 by omega) with rfl | rfl | rfl | rfl | rfl | rfl
  · exact q279
  · exact q281
  · exact q283
  · exact q285
  · exact q287
  · exact q289
theorem nw0 : Cond.methodLinkNest RX8 25 yX6_init RX8 ∈ NWL := List.mem_of_getElem? (i := 0) rfl
theorem nw1 : Cond.methodLinkNest RX8 32 yX7_init RX8 ∈ NWL := List.mem_of_getElem? (i := 1) rfl
theorem nw2 : Cond.methodLinkNest RX8 42 yX2_init RX8 ∈ NWL := List.mem_of_getElem? (i := 2) rfl
theorem nw3 : Cond.methodLinkNest RX8 9 yX5_init RX8 ∈ NWL := List.mem_of_getElem? (i := 3) rfl
theorem nw4 : Cond.methodLinkNest RX0 49 yX8_limitAt RX8 ∈ NWL := List.mem_of_getElem? (i := 4) rfl
theorem nw5 : Cond.methodLinkNest RX1 17 yX5_init RX8 ∈ NWL := List.mem_of_getElem? (i := 5) rfl
theorem nw6 : Cond.methodLinkNest RX4 36 yX8_moved RX8 ∈ NWL := List.mem_of_getElem? (i := 6) rfl
theorem nw7 : Cond.methodLinkNest RX4 47 yX8_limitAt RX8 ∈ NWL := List.mem_of_getElem? (i := 7) rfl
theorem nw8 : Cond.methodLinkNest RX4 64 yX8_isRest RX8 ∈ NWL := List.mem_of_getElem? (i := 8) rfl
theorem nw9 : Cond.methodLinkNest RX7 114 yX8_isRest RX8 ∈ NWL := List.mem_of_getElem? (i := 9) rfl
theorem nw10 : Cond.methodLinkNest RX7 124 yX8_moved RX8 ∈ NWL := List.mem_of_getElem? (i := 10) rfl
theorem nw11 : Cond.methodLinkNest RX7 131 yX8_limitAt RX8 ∈ NWL := List.mem_of_getElem? (i := 11) rfl
theorem nw12 : Cond.methodLinkNest RX7 25 yX4_init RX8 ∈ NWL := List.mem_of_getElem? (i := 12) rfl
theorem nw13 : Cond.methodLinkNest RX7 32 yX0_init RX8 ∈ NWL := List.mem_of_getElem? (i := 13) rfl
theorem nw14 : Cond.methodLinkNest RX7 39 yX3_init RX8 ∈ NWL := List.mem_of_getElem? (i := 14) rfl
theorem nw15 : Cond.fieldLinkNest RX5 18 RX8 (SNm 2) "[I" RX8 ∈ NWL := List.mem_of_getElem? (i := 15) rfl
theorem nw16 : Cond.fieldLinkNest RX7 9 RX8 (SNm 2) "[I" RX8 ∈ NWL := List.mem_of_getElem? (i := 16) rfl
theorem hd_X0_begin : yX0_begin.cls = RX0 ∧ yX0_begin.cls ≠ "java/lang/invoke/MethodHandle" ∧ yX0_begin.cls ≠ "java/lang/invoke/VarHandle" ∧ (parseMethodDescriptor yX0_begin.desc).map (fun d => d.parameters.length) = some 1 := by decide +kernel
theorem hd_J9_floorMod_7cf53 : yJ9_floorMod_7cf53.cls ≠ "java/lang/invoke/MethodHandle" ∧ yJ9_floorMod_7cf53.cls ≠ "java/lang/invoke/VarHandle" ∧ (parseMethodDescriptor yJ9_floorMod_7cf53.desc).map (fun d => d.parameters.length) = some 2 := by decide +kernel
theorem hd_X8_isRest : yX8_isRest.cls ≠ "java/lang/invoke/MethodHandle" ∧ yX8_isRest.cls ≠ "java/lang/invoke/VarHandle" ∧ (parseMethodDescriptor yX8_isRest.desc).map (fun d => d.parameters.length) = some 2 := by decide +kernel
theorem hd_X8_limitAt : yX8_limitAt.cls ≠ "java/lang/invoke/MethodHandle" ∧ yX8_limitAt.cls ≠ "java/lang/invoke/VarHandle" ∧ (parseMethodDescriptor yX8_limitAt.desc).map (fun d => d.parameters.length) = some 2 := by decide +kernel
theorem hd_X0_extend : yX0_extend.cls = RX0 ∧ yX0_extend.cls ≠ "java/lang/invoke/MethodHandle" ∧ yX0_extend.cls ≠ "java/lang/invoke/VarHandle" ∧ (parseMethodDescriptor yX0_extend.desc).map (fun d => d.parameters.length) = some 3 := by decide +kernel
theorem hd_X0_markOwners : yX0_markOwners.cls = RX0 ∧ yX0_markOwners.cls ≠ "java/lang/invoke/MethodHandle" ∧ yX0_markOwners.cls ≠ "java/lang/invoke/VarHandle" ∧ (parseMethodDescriptor yX0_markOwners.desc).map (fun d => d.parameters.length) = some 0 := by decide +kernel
theorem hd_X0_find : yX0_find.cls = RX0 ∧ yX0_find.cls ≠ "java/lang/invoke/MethodHandle" ∧ yX0_find.cls ≠ "java/lang/invoke/VarHandle" ∧ (parseMethodDescriptor yX0_find.desc).map (fun d => d.parameters.length) = some 2 := by decide +kernel
theorem hd_X0_weightOfAll : yX0_weightOfAll.cls = RX0 ∧ yX0_weightOfAll.cls ≠ "java/lang/invoke/MethodHandle" ∧ yX0_weightOfAll.cls ≠ "java/lang/invoke/VarHandle" ∧ (parseMethodDescriptor yX0_weightOfAll.desc).map (fun d => d.parameters.length) = some 0 := by decide +kernel
theorem hd_X0_heaviest : yX0_heaviest.cls = RX0 ∧ yX0_heaviest.cls ≠ "java/lang/invoke/MethodHandle" ∧ yX0_heaviest.cls ≠ "java/lang/invoke/VarHandle" ∧ (parseMethodDescriptor yX0_heaviest.desc).map (fun d => d.parameters.length) = some 0 := by decide +kernel
theorem hd_X5_takeOver : yX5_takeOver.cls = RX5 ∧ yX5_takeOver.cls ≠ "java/lang/invoke/MethodHandle" ∧ yX5_takeOver.cls ≠ "java/lang/invoke/VarHandle" ∧ (parseMethodDescriptor yX5_takeOver.desc).map (fun d => d.parameters.length) = some 1 := by decide +kernel
theorem hd_X1_keep : yX1_keep.cls = RX1 ∧ yX1_keep.cls ≠ "java/lang/invoke/MethodHandle" ∧ yX1_keep.cls ≠ "java/lang/invoke/VarHandle" ∧ (parseMethodDescriptor yX1_keep.desc).map (fun d => d.parameters.length) = some 1 := by decide +kernel
theorem hd_X4_isCounted : yX4_isCounted.cls = RX4 ∧ yX4_isCounted.cls ≠ "java/lang/invoke/MethodHandle" ∧ yX4_isCounted.cls ≠ "java/lang/invoke/VarHandle" ∧ (parseMethodDescriptor yX4_isCounted.desc).map (fun d => d.parameters.length) = some 1 := by decide +kernel
theorem hd_X2_highestReached : yX2_highestReached.cls ≠ "java/lang/invoke/MethodHandle" ∧ yX2_highestReached.cls ≠ "java/lang/invoke/VarHandle" ∧ (parseMethodDescriptor yX2_highestReached.desc).map (fun d => d.parameters.length) = some 1 := by decide +kernel
theorem hd_X2_tally : yX2_tally.cls = RX2 ∧ yX2_tally.cls ≠ "java/lang/invoke/MethodHandle" ∧ yX2_tally.cls ≠ "java/lang/invoke/VarHandle" ∧ (parseMethodDescriptor yX2_tally.desc).map (fun d => d.parameters.length) = some 1 := by decide +kernel
theorem hd_X2_levelOfPercent : yX2_levelOfPercent.cls = RX2 ∧ yX2_levelOfPercent.cls ≠ "java/lang/invoke/MethodHandle" ∧ yX2_levelOfPercent.cls ≠ "java/lang/invoke/VarHandle" ∧ (parseMethodDescriptor yX2_levelOfPercent.desc).map (fun d => d.parameters.length) = some 2 := by decide +kernel
theorem hd_X3_putInOrder : yX3_putInOrder.cls = RX3 ∧ yX3_putInOrder.cls ≠ "java/lang/invoke/MethodHandle" ∧ yX3_putInOrder.cls ≠ "java/lang/invoke/VarHandle" ∧ (parseMethodDescriptor yX3_putInOrder.desc).map (fun d => d.parameters.length) = some 1 := by decide +kernel
theorem hd_X3_bestFor : yX3_bestFor.cls = RX3 ∧ yX3_bestFor.cls ≠ "java/lang/invoke/MethodHandle" ∧ yX3_bestFor.cls ≠ "java/lang/invoke/VarHandle" ∧ (parseMethodDescriptor yX3_bestFor.desc).map (fun d => d.parameters.length) = some 3 := by decide +kernel
theorem hd_X3_match : yX3_match.cls = RX3 ∧ yX3_match.cls ≠ "java/lang/invoke/MethodHandle" ∧ yX3_match.cls ≠ "java/lang/invoke/VarHandle" ∧ (parseMethodDescriptor yX3_match.desc).map (fun d => d.parameters.length) = some 3 := by decide +kernel
theorem hd_X8_moved : yX8_moved.cls ≠ "java/lang/invoke/MethodHandle" ∧ yX8_moved.cls ≠ "java/lang/invoke/VarHandle" ∧ (parseMethodDescriptor yX8_moved.desc).map (fun d => d.parameters.length) = some 3 := by decide +kernel
theorem hd_X4_moveArms : yX4_moveArms.cls = RX4 ∧ yX4_moveArms.cls ≠ "java/lang/invoke/MethodHandle" ∧ yX4_moveArms.cls ≠ "java/lang/invoke/VarHandle" ∧ (parseMethodDescriptor yX4_moveArms.desc).map (fun d => d.parameters.length) = some 2 := by decide +kernel
theorem hd_X4_isSoonAfterWind : yX4_isSoonAfterWind.cls = RX4 ∧ yX4_isSoonAfterWind.cls ≠ "java/lang/invoke/MethodHandle" ∧ yX4_isSoonAfterWind.cls ≠ "java/lang/invoke/VarHandle" ∧ (parseMethodDescriptor yX4_isSoonAfterWind.desc).map (fun d => d.parameters.length) = some 2 := by decide +kernel
theorem hd_X4_judge : yX4_judge.cls = RX4 ∧ yX4_judge.cls ≠ "java/lang/invoke/MethodHandle" ∧ yX4_judge.cls ≠ "java/lang/invoke/VarHandle" ∧ (parseMethodDescriptor yX4_judge.desc).map (fun d => d.parameters.length) = some 2 := by decide +kernel
theorem hd_X4_tally : yX4_tally.cls = RX4 ∧ yX4_tally.cls ≠ "java/lang/invoke/MethodHandle" ∧ yX4_tally.cls ≠ "java/lang/invoke/VarHandle" ∧ (parseMethodDescriptor yX4_tally.desc).map (fun d => d.parameters.length) = some 1 := by decide +kernel
theorem hd_X4_lastSlowPlace : yX4_lastSlowPlace.cls = RX4 ∧ yX4_lastSlowPlace.cls ≠ "java/lang/invoke/MethodHandle" ∧ yX4_lastSlowPlace.cls ≠ "java/lang/invoke/VarHandle" ∧ (parseMethodDescriptor yX4_lastSlowPlace.desc).map (fun d => d.parameters.length) = some 0 := by decide +kernel
theorem hd_X4_shareAbove : yX4_shareAbove.cls = RX4 ∧ yX4_shareAbove.cls ≠ "java/lang/invoke/MethodHandle" ∧ yX4_shareAbove.cls ≠ "java/lang/invoke/VarHandle" ∧ (parseMethodDescriptor yX4_shareAbove.desc).map (fun d => d.parameters.length) = some 0 := by decide +kernel
theorem hd_X5_hasMinute : yX5_hasMinute.cls = RX5 ∧ yX5_hasMinute.cls ≠ "java/lang/invoke/MethodHandle" ∧ yX5_hasMinute.cls ≠ "java/lang/invoke/VarHandle" ∧ (parseMethodDescriptor yX5_hasMinute.desc).map (fun d => d.parameters.length) = some 1 := by decide +kernel
theorem hd_X5_hasComplaint : yX5_hasComplaint.cls = RX5 ∧ yX5_hasComplaint.cls ≠ "java/lang/invoke/MethodHandle" ∧ yX5_hasComplaint.cls ≠ "java/lang/invoke/VarHandle" ∧ (parseMethodDescriptor yX5_hasComplaint.desc).map (fun d => d.parameters.length) = some 1 := by decide +kernel
theorem hd_X5_addMinutes : yX5_addMinutes.cls = RX5 ∧ yX5_addMinutes.cls ≠ "java/lang/invoke/MethodHandle" ∧ yX5_addMinutes.cls ≠ "java/lang/invoke/VarHandle" ∧ (parseMethodDescriptor yX5_addMinutes.desc).map (fun d => d.parameters.length) = some 3 := by decide +kernel
theorem hd_X5_dropMinutes : yX5_dropMinutes.cls = RX5 ∧ yX5_dropMinutes.cls ≠ "java/lang/invoke/MethodHandle" ∧ yX5_dropMinutes.cls ≠ "java/lang/invoke/VarHandle" ∧ (parseMethodDescriptor yX5_dropMinutes.desc).map (fun d => d.parameters.length) = some 1 := by decide +kernel
theorem hd_X5_addComplaint : yX5_addComplaint.cls = RX5 ∧ yX5_addComplaint.cls ≠ "java/lang/invoke/MethodHandle" ∧ yX5_addComplaint.cls ≠ "java/lang/invoke/VarHandle" ∧ (parseMethodDescriptor yX5_addComplaint.desc).map (fun d => d.parameters.length) = some 1 := by decide +kernel
theorem hd_X5_dropComplaint : yX5_dropComplaint.cls = RX5 ∧ yX5_dropComplaint.cls ≠ "java/lang/invoke/MethodHandle" ∧ yX5_dropComplaint.cls ≠ "java/lang/invoke/VarHandle" ∧ (parseMethodDescriptor yX5_dropComplaint.desc).map (fun d => d.parameters.length) = some 1 := by decide +kernel
theorem hd_X7_takeSettings : yX7_takeSettings.cls = RX7 ∧ yX7_takeSettings.cls ≠ "java/lang/invoke/MethodHandle" ∧ yX7_takeSettings.cls ≠ "java/lang/invoke/VarHandle" ∧ (parseMethodDescriptor yX7_takeSettings.desc).map (fun d => d.parameters.length) = some 1 := by decide +kernel
theorem hd_X7_look : yX7_look.cls = RX7 ∧ yX7_look.cls ≠ "java/lang/invoke/MethodHandle" ∧ yX7_look.cls ≠ "java/lang/invoke/VarHandle" ∧ (parseMethodDescriptor yX7_look.desc).map (fun d => d.parameters.length) = some 1 := by decide +kernel
theorem hd_X7_numberOf : yX7_numberOf.cls = RX7 ∧ yX7_numberOf.cls ≠ "java/lang/invoke/MethodHandle" ∧ yX7_numberOf.cls ≠ "java/lang/invoke/VarHandle" ∧ (parseMethodDescriptor yX7_numberOf.desc).map (fun d => d.parameters.length) = some 1 := by decide +kernel
theorem hd_X7_isAboveWithLimit : yX7_isAboveWithLimit.cls = RX7 ∧ yX7_isAboveWithLimit.cls ≠ "java/lang/invoke/MethodHandle" ∧ yX7_isAboveWithLimit.cls ≠ "java/lang/invoke/VarHandle" ∧ (parseMethodDescriptor yX7_isAboveWithLimit.desc).map (fun d => d.parameters.length) = some 2 := by decide +kernel
theorem hd_X7_exceedancesWithLimit : yX7_exceedancesWithLimit.cls = RX7 ∧ yX7_exceedancesWithLimit.cls ≠ "java/lang/invoke/MethodHandle" ∧ yX7_exceedancesWithLimit.cls ≠ "java/lang/invoke/VarHandle" ∧ (parseMethodDescriptor yX7_exceedancesWithLimit.desc).map (fun d => d.parameters.length) = some 1 := by decide +kernel
theorem hd_X7_leastLimitFor : yX7_leastLimitFor.cls = RX7 ∧ yX7_leastLimitFor.cls ≠ "java/lang/invoke/MethodHandle" ∧ yX7_leastLimitFor.cls ≠ "java/lang/invoke/VarHandle" ∧ (parseMethodDescriptor yX7_leastLimitFor.desc).map (fun d => d.parameters.length) = some 1 := by decide +kernel
theorem hd_X7_minutesUntilAbove : yX7_minutesUntilAbove.cls = RX7 ∧ yX7_minutesUntilAbove.cls ≠ "java/lang/invoke/MethodHandle" ∧ yX7_minutesUntilAbove.cls ≠ "java/lang/invoke/VarHandle" ∧ (parseMethodDescriptor yX7_minutesUntilAbove.desc).map (fun d => d.parameters.length) = some 1 := by decide +kernel
theorem hd_X8_isSetting : yX8_isSetting.cls ≠ "java/lang/invoke/MethodHandle" ∧ yX8_isSetting.cls ≠ "java/lang/invoke/VarHandle" ∧ (parseMethodDescriptor yX8_isSetting.desc).map (fun d => d.parameters.length) = some 1 := by decide +kernel
theorem hd_X8_fitsSetting : yX8_fitsSetting.cls ≠ "java/lang/invoke/MethodHandle" ∧ yX8_fitsSetting.cls ≠ "java/lang/invoke/VarHandle" ∧ (parseMethodDescriptor yX8_fitsSetting.desc).map (fun d => d.parameters.length) = some 2 := by decide +kernel
theorem hd_X8_readAgain : yX8_readAgain.cls = RX8 ∧ yX8_readAgain.cls ≠ "java/lang/invoke/MethodHandle" ∧ yX8_readAgain.cls ≠ "java/lang/invoke/VarHandle" ∧ (parseMethodDescriptor yX8_readAgain.desc).map (fun d => d.parameters.length) = some 0 := by decide +kernel
theorem hd_X8_set : yX8_set.cls = RX8 ∧ yX8_set.cls ≠ "java/lang/invoke/MethodHandle" ∧ yX8_set.cls ≠ "java/lang/invoke/VarHandle" ∧ (parseMethodDescriptor yX8_set.desc).map (fun d => d.parameters.length) = some 2 := by decide +kernel
theorem hd_X8_isLevel : yX8_isLevel.cls ≠ "java/lang/invoke/MethodHandle" ∧ yX8_isLevel.cls ≠ "java/lang/invoke/VarHandle" ∧ (parseMethodDescriptor yX8_isLevel.desc).map (fun d => d.parameters.length) = some 1 := by decide +kernel
theorem hd_X8_isWind : yX8_isWind.cls ≠ "java/lang/invoke/MethodHandle" ∧ yX8_isWind.cls ≠ "java/lang/invoke/VarHandle" ∧ (parseMethodDescriptor yX8_isWind.desc).map (fun d => d.parameters.length) = some 1 := by decide +kernel
theorem hd_X8_tell : yX8_tell.cls = RX8 ∧ yX8_tell.cls ≠ "java/lang/invoke/MethodHandle" ∧ yX8_tell.cls ≠ "java/lang/invoke/VarHandle" ∧ (parseMethodDescriptor yX8_tell.desc).map (fun d => d.parameters.length) = some 3 := by decide +kernel
theorem hd_X8_correct : yX8_correct.cls = RX8 ∧ yX8_correct.cls ≠ "java/lang/invoke/MethodHandle" ∧ yX8_correct.cls ≠ "java/lang/invoke/VarHandle" ∧ (parseMethodDescriptor yX8_correct.desc).map (fun d => d.parameters.length) = some 3 := by decide +kernel
theorem hd_X8_forget : yX8_forget.cls = RX8 ∧ yX8_forget.cls ≠ "java/lang/invoke/MethodHandle" ∧ yX8_forget.cls ≠ "java/lang/invoke/VarHandle" ∧ (parseMethodDescriptor yX8_forget.desc).map (fun d => d.parameters.length) = some 1 := by decide +kernel
theorem hd_X8_complain : yX8_complain.cls = RX8 ∧ yX8_complain.cls ≠ "java/lang/invoke/MethodHandle" ∧ yX8_complain.cls ≠ "java/lang/invoke/VarHandle" ∧ (parseMethodDescriptor yX8_complain.desc).map (fun d => d.parameters.length) = some 1 := by decide +kernel
theorem hd_X8_withdraw : yX8_withdraw.cls = RX8 ∧ yX8_withdraw.cls ≠ "java/lang/invoke/MethodHandle" ∧ yX8_withdraw.cls ≠ "java/lang/invoke/VarHandle" ∧ (parseMethodDescriptor yX8_withdraw.desc).map (fun d => d.parameters.length) = some 1 := by decide +kernel
theorem hd_X8_minuteProperty : yX8_minuteProperty.cls = RX8 ∧ yX8_minuteProperty.cls ≠ "java/lang/invoke/MethodHandle" ∧ yX8_minuteProperty.cls ≠ "java/lang/invoke/VarHandle" ∧ (parseMethodDescriptor yX8_minuteProperty.desc).map (fun d => d.parameters.length) = some 2 := by decide +kernel
theorem hd_X8_minute : yX8_minute.cls = RX8 ∧ yX8_minute.cls ≠ "java/lang/invoke/MethodHandle" ∧ yX8_minute.cls ≠ "java/lang/invoke/VarHandle" ∧ (parseMethodDescriptor yX8_minute.desc).map (fun d => d.parameters.length) = some 2 := by decide +kernel
theorem hd_X8_exceedanceProperty : yX8_exceedanceProperty.cls = RX8 ∧ yX8_exceedanceProperty.cls ≠ "java/lang/invoke/MethodHandle" ∧ yX8_exceedanceProperty.cls ≠ "java/lang/invoke/VarHandle" ∧ (parseMethodDescriptor yX8_exceedanceProperty.desc).map (fun d => d.parameters.length) = some 2 := by decide +kernel
theorem hd_X8_exceedance : yX8_exceedance.cls = RX8 ∧ yX8_exceedance.cls ≠ "java/lang/invoke/MethodHandle" ∧ yX8_exceedance.cls ≠ "java/lang/invoke/VarHandle" ∧ (parseMethodDescriptor yX8_exceedance.desc).map (fun d => d.parameters.length) = some 2 := by decide +kernel
theorem hd_X8_complaintProperty : yX8_complaintProperty.cls = RX8 ∧ yX8_complaintProperty.cls ≠ "java/lang/invoke/MethodHandle" ∧ yX8_complaintProperty.cls ≠ "java/lang/invoke/VarHandle" ∧ (parseMethodDescriptor yX8_complaintProperty.desc).map (fun d => d.parameters.length) = some 2 := by decide +kernel
theorem hd_X8_complaint : yX8_complaint.cls = RX8 ∧ yX8_complaint.cls ≠ "java/lang/invoke/MethodHandle" ∧ yX8_complaint.cls ≠ "java/lang/invoke/VarHandle" ∧ (parseMethodDescriptor yX8_complaint.desc).map (fun d => d.parameters.length) = some 2 := by decide +kernel
theorem hd_X8_levelCount : yX8_levelCount.cls = RX8 ∧ yX8_levelCount.cls ≠ "java/lang/invoke/MethodHandle" ∧ yX8_levelCount.cls ≠ "java/lang/invoke/VarHandle" ∧ (parseMethodDescriptor yX8_levelCount.desc).map (fun d => d.parameters.length) = some 1 := by decide +kernel
theorem hd_X8_percentLevel : yX8_percentLevel.cls = RX8 ∧ yX8_percentLevel.cls ≠ "java/lang/invoke/MethodHandle" ∧ yX8_percentLevel.cls ≠ "java/lang/invoke/VarHandle" ∧ (parseMethodDescriptor yX8_percentLevel.desc).map (fun d => d.parameters.length) = some 1 := by decide +kernel
theorem hd_X8_numberOf : yX8_numberOf.cls = RX8 ∧ yX8_numberOf.cls ≠ "java/lang/invoke/MethodHandle" ∧ yX8_numberOf.cls ≠ "java/lang/invoke/VarHandle" ∧ (parseMethodDescriptor yX8_numberOf.desc).map (fun d => d.parameters.length) = some 1 := by decide +kernel
theorem hd_X8_count : yX8_count.cls = RX8 ∧ yX8_count.cls ≠ "java/lang/invoke/MethodHandle" ∧ yX8_count.cls ≠ "java/lang/invoke/VarHandle" ∧ (parseMethodDescriptor yX8_count.desc).map (fun d => d.parameters.length) = some 1 := by decide +kernel
theorem hd_X8_setting : yX8_setting.cls = RX8 ∧ yX8_setting.cls ≠ "java/lang/invoke/MethodHandle" ∧ yX8_setting.cls ≠ "java/lang/invoke/VarHandle" ∧ (parseMethodDescriptor yX8_setting.desc).map (fun d => d.parameters.length) = some 1 := by decide +kernel
theorem hd_X8_ifSet : yX8_ifSet.cls = RX8 ∧ yX8_ifSet.cls ≠ "java/lang/invoke/MethodHandle" ∧ yX8_ifSet.cls ≠ "java/lang/invoke/VarHandle" ∧ (parseMethodDescriptor yX8_ifSet.desc).map (fun d => d.parameters.length) = some 3 := by decide +kernel
theorem hd_X8_leastLimit : yX8_leastLimit.cls = RX8 ∧ yX8_leastLimit.cls ≠ "java/lang/invoke/MethodHandle" ∧ yX8_leastLimit.cls ≠ "java/lang/invoke/VarHandle" ∧ (parseMethodDescriptor yX8_leastLimit.desc).map (fun d => d.parameters.length) = some 1 := by decide +kernel
theorem hd_X8_aboveIn : yX8_aboveIn.cls = RX8 ∧ yX8_aboveIn.cls ≠ "java/lang/invoke/MethodHandle" ∧ yX8_aboveIn.cls ≠ "java/lang/invoke/VarHandle" ∧ (parseMethodDescriptor yX8_aboveIn.desc).map (fun d => d.parameters.length) = some 1 := by decide +kernel
theorem hd_X8_share : yX8_share.cls = RX8 ∧ yX8_share.cls ≠ "java/lang/invoke/MethodHandle" ∧ yX8_share.cls ≠ "java/lang/invoke/VarHandle" ∧ (parseMethodDescriptor yX8_share.desc).map (fun d => d.parameters.length) = some 0 := by decide +kernel
theorem hd_L_at : yL_at.cls ≠ "java/lang/invoke/MethodHandle" ∧ yL_at.cls ≠ "java/lang/invoke/VarHandle" ∧ (parseMethodDescriptor yL_at.desc).map (fun d => d.parameters.length) = some 2 := by decide +kernel
theorem hd_L_rest : yL_rest.cls ≠ "java/lang/invoke/MethodHandle" ∧ yL_rest.cls ≠ "java/lang/invoke/VarHandle" ∧ (parseMethodDescriptor yL_rest.desc).map (fun d => d.parameters.length) = some 2 := by decide +kernel
theorem hd_L_limit : yL_limit.cls ≠ "java/lang/invoke/MethodHandle" ∧ yL_limit.cls ≠ "java/lang/invoke/VarHandle" ∧ (parseMethodDescriptor yL_limit.desc).map (fun d => d.parameters.length) = some 2 := by decide +kernel
theorem hd_L_lay : yL_lay.cls ≠ "java/lang/invoke/MethodHandle" ∧ yL_lay.cls ≠ "java/lang/invoke/VarHandle" ∧ (parseMethodDescriptor yL_lay.desc).map (fun d => d.parameters.length) = some 8 := by decide +kernel
theorem hd_L_exceedances : yL_exceedances.cls ≠ "java/lang/invoke/MethodHandle" ∧ yL_exceedances.cls ≠ "java/lang/invoke/VarHandle" ∧ (parseMethodDescriptor yL_exceedances.desc).map (fun d => d.parameters.length) = some 2 := by decide +kernel
theorem hd_L_part : yL_part.cls ≠ "java/lang/invoke/MethodHandle" ∧ yL_part.cls ≠ "java/lang/invoke/VarHandle" ∧ (parseMethodDescriptor yL_part.desc).map (fun d => d.parameters.length) = some 8 := by decide +kernel
theorem hd_L_match : yL_match.cls ≠ "java/lang/invoke/MethodHandle" ∧ yL_match.cls ≠ "java/lang/invoke/VarHandle" ∧ (parseMethodDescriptor yL_match.desc).map (fun d => d.parameters.length) = some 8 := by decide +kernel
theorem hd_L_number : yL_number.cls ≠ "java/lang/invoke/MethodHandle" ∧ yL_number.cls ≠ "java/lang/invoke/VarHandle" ∧ (parseMethodDescriptor yL_number.desc).map (fun d => d.parameters.length) = some 2 := by decide +kernel
theorem hd_L_counted : yL_counted.cls ≠ "java/lang/invoke/MethodHandle" ∧ yL_counted.cls ≠ "java/lang/invoke/VarHandle" ∧ (parseMethodDescriptor yL_counted.desc).map (fun d => d.parameters.length) = some 8 := by decide +kernel
theorem hd_L_value : yL_value.cls ≠ "java/lang/invoke/MethodHandle" ∧ yL_value.cls ≠ "java/lang/invoke/VarHandle" ∧ (parseMethodDescriptor yL_value.desc).map (fun d => d.parameters.length) = some 2 := by decide +kernel
theorem hd_L_told : yL_told.cls ≠ "java/lang/invoke/MethodHandle" ∧ yL_told.cls ≠ "java/lang/invoke/VarHandle" ∧ (parseMethodDescriptor yL_told.desc).map (fun d => d.parameters.length) = some 7 := by decide +kernel
theorem hd_L_ahead : yL_ahead.cls ≠ "java/lang/invoke/MethodHandle" ∧ yL_ahead.cls ≠ "java/lang/invoke/VarHandle" ∧ (parseMethodDescriptor yL_ahead.desc).map (fun d => d.parameters.length) = some 8 := by decide +kernel
theorem hd_L_act : yL_act.cls ≠ "java/lang/invoke/MethodHandle" ∧ yL_act.cls ≠ "java/lang/invoke/VarHandle" ∧ (parseMethodDescriptor yL_act.desc).map (fun d => d.parameters.length) = some 9 := by decide +kernel
