/-! the words that the walks use, each by its place in the tables -/
theorem qp0 : Cond.selects RX6 yX6_beginPart yX6_beginPart ∈ BG := bg_p 0 (by decide +kernel) (by decide +kernel)
theorem qp1 : Cond.selects RX6 yX6_beginNumber yX6_beginNumber ∈ BG := bg_p 1 (by decide +kernel) (by decide +kernel)
theorem qp2 : Cond.selects RX6 yX6_takes yX6_takes ∈ BG := bg_p 2 (by decide +kernel) (by decide +kernel)
theorem qp3 : Cond.selects RX6 yX6_takesDigit yX6_takesDigit ∈ BG := bg_p 3 (by decide +kernel) (by decide +kernel)
theorem qp4 : Cond.selects RX6 yX6_numberIsWhole yX6_numberIsWhole ∈ BG := bg_p 4 (by decide +kernel) (by decide +kernel)
theorem qp5 : Cond.selects RX6 yX6_endPart yX6_endPart ∈ BG := bg_p 5 (by decide +kernel) (by decide +kernel)
theorem qp6 : Cond.selects RX8 yX8_numberOf yX8_numberOf ∈ BG := bg_p 6 (by decide +kernel) (by decide +kernel)
theorem qp7 : Cond.selects RX8 yX8_withMinutes yX8_withMinutes ∈ BG := bg_p 7 (by decide +kernel) (by decide +kernel)
theorem qp8 : Cond.selects RX8 yX8_minuteProperty yX8_minuteProperty ∈ BG := bg_p 8 (by decide +kernel) (by decide +kernel)
theorem qp9 : Cond.selects RX8 yX8_withExceedances yX8_withExceedances ∈ BG := bg_p 9 (by decide +kernel) (by decide +kernel)
theorem qp10 : Cond.selects RX8 yX8_exceedanceProperty yX8_exceedanceProperty ∈ BG := bg_p 10 (by decide +kernel) (by decide +kernel)
theorem qp11 : Cond.selects RX8 yX8_withComplaints yX8_withComplaints ∈ BG := bg_p 11 (by decide +kernel) (by decide +kernel)
theorem qp12 : Cond.selects RX8 yX8_complaintProperty yX8_complaintProperty ∈ BG := bg_p 12 (by decide +kernel) (by decide +kernel)
theorem qp13 : Cond.selects RX8 yX8_withLevels yX8_withLevels ∈ BG := bg_p 13 (by decide +kernel) (by decide +kernel)
theorem qp14 : Cond.selects RX7 yX7_exceedancesWithLimit yX7_exceedancesWithLimit ∈ BG := bg_p 14 (by decide +kernel) (by decide +kernel)
theorem qp15 : Cond.selects RX7 yX7_isAboveWithLimit yX7_isAboveWithLimit ∈ BG := bg_p 15 (by decide +kernel) (by decide +kernel)
theorem qp16 : Cond.selects RX8 yX8_withBuffer yX8_withBuffer ∈ BG := bg_p 16 (by decide +kernel) (by decide +kernel)
theorem qp18 : Cond.selects RX8 yX8_readAgain yX8_readAgain ∈ BG := bg_p 18 (by decide +kernel) (by decide +kernel)
theorem qp19 : Cond.selects RX0 yX0_begin yX0_begin ∈ BG := bg_p 19 (by decide +kernel) (by decide +kernel)
theorem qp20 : Cond.selects RX0 yX0_extend yX0_extend ∈ BG := bg_p 20 (by decide +kernel) (by decide +kernel)
theorem qp21 : Cond.selects RX0 yX0_markOwners yX0_markOwners ∈ BG := bg_p 21 (by decide +kernel) (by decide +kernel)
theorem qp22 : Cond.selects RX3 yX3_putInOrder yX3_putInOrder ∈ BG := bg_p 22 (by decide +kernel) (by decide +kernel)
theorem qp23 : Cond.selects RX3 yX3_bestFor yX3_bestFor ∈ BG := bg_p 23 (by decide +kernel) (by decide +kernel)
theorem qp24 : Cond.selects RX9 yX9_save yX9_save ∈ BG := bg_p 24 (by decide +kernel) (by decide +kernel)
theorem qp25 : Cond.selects RX9 yX9_of yX9_of ∈ BG := bg_p 25 (by decide +kernel) (by decide +kernel)
theorem qp26 : Cond.selects RX9 yX9_bring yX9_bring ∈ BG := bg_p 26 (by decide +kernel) (by decide +kernel)
theorem qp27 : Cond.selects RX9 yX9_isMinute yX9_isMinute ∈ BG := bg_p 27 (by decide +kernel) (by decide +kernel)
theorem qp28 : Cond.selects RX9 yX9_lay yX9_lay ∈ BG := bg_p 28 (by decide +kernel) (by decide +kernel)
theorem qp29 : Cond.selects RX9 yX9_layArms yX9_layArms ∈ BG := bg_p 29 (by decide +kernel) (by decide +kernel)
theorem qp30 : Cond.selects RX9 yX9_layExceedances yX9_layExceedances ∈ BG := bg_p 30 (by decide +kernel) (by decide +kernel)
theorem qp31 : Cond.selects RX9 yX9_whyNot yX9_whyNot ∈ BG := bg_p 31 (by decide +kernel) (by decide +kernel)
theorem qp32 : Cond.selects RX9 yX9_limitOf yX9_limitOf ∈ BG := bg_p 32 (by decide +kernel) (by decide +kernel)
theorem qp33 : Cond.selects RX9 yX9_isRest yX9_isRest ∈ BG := bg_p 33 (by decide +kernel) (by decide +kernel)
theorem qp34 : Cond.selects RX9 yX9_addMinute yX9_addMinute ∈ BG := bg_p 34 (by decide +kernel) (by decide +kernel)
theorem qp35 : Cond.selects RX9 yX9_isComplaint yX9_isComplaint ∈ BG := bg_p 35 (by decide +kernel) (by decide +kernel)
theorem qp36 : Cond.selects RX9 yX9_layAll yX9_layAll ∈ BG := bg_p 36 (by decide +kernel) (by decide +kernel)
theorem qp37 : Cond.selects RX9 yX9_layMatches yX9_layMatches ∈ BG := bg_p 37 (by decide +kernel) (by decide +kernel)
theorem qp38 : Cond.selects RX9 yX9_matchFor yX9_matchFor ∈ BG := bg_p 38 (by decide +kernel) (by decide +kernel)
theorem qp39 : Cond.selects RX9 yX9_readText yX9_readText ∈ BG := bg_p 39 (by decide +kernel) (by decide +kernel)
theorem qp40 : Cond.selects RX9 yX9_beginPart yX9_beginPart ∈ BG := bg_p 40 (by decide +kernel) (by decide +kernel)
theorem qp41 : Cond.selects RX9 yX9_takes yX9_takes ∈ BG := bg_p 41 (by decide +kernel) (by decide +kernel)
theorem qp42 : Cond.selects RX9 yX9_takesDigit yX9_takesDigit ∈ BG := bg_p 42 (by decide +kernel) (by decide +kernel)
theorem qp43 : Cond.selects RX9 yX9_goTo yX9_goTo ∈ BG := bg_p 43 (by decide +kernel) (by decide +kernel)
theorem qp44 : Cond.selects RX9 yX9_isPartOver yX9_isPartOver ∈ BG := bg_p 44 (by decide +kernel) (by decide +kernel)
theorem qp45 : Cond.selects RX9 yX9_minuteNow yX9_minuteNow ∈ BG := bg_p 45 (by decide +kernel) (by decide +kernel)
theorem qp46 : Cond.selects RX9 yX9_exceedanceNow yX9_exceedanceNow ∈ BG := bg_p 46 (by decide +kernel) (by decide +kernel)
theorem qp47 : Cond.selects RX9 yX9_countFrom yX9_countFrom ∈ BG := bg_p 47 (by decide +kernel) (by decide +kernel)
theorem qp48 : Cond.selects RX9 yX9_percentNow yX9_percentNow ∈ BG := bg_p 48 (by decide +kernel) (by decide +kernel)
theorem qp49 : Cond.selects RX9 yX9_counted yX9_counted ∈ BG := bg_p 49 (by decide +kernel) (by decide +kernel)
theorem qp50 : Cond.selects RX9 yX9_minutesBy yX9_minutesBy ∈ BG := bg_p 50 (by decide +kernel) (by decide +kernel)
theorem qp51 : Cond.selects RX9 yX9_restMany yX9_restMany ∈ BG := bg_p 51 (by decide +kernel) (by decide +kernel)
theorem qp52 : Cond.selects RX9 yX9_matchedMany yX9_matchedMany ∈ BG := bg_p 52 (by decide +kernel) (by decide +kernel)
theorem qp53 : Cond.selects RX9 yX9_weights yX9_weights ∈ BG := bg_p 53 (by decide +kernel) (by decide +kernel)
theorem qp54 : Cond.selects RX9 yX9_heaviest yX9_heaviest ∈ BG := bg_p 54 (by decide +kernel) (by decide +kernel)
theorem qp55 : Cond.selects RX9 yX9_withSetting yX9_withSetting ∈ BG := bg_p 55 (by decide +kernel) (by decide +kernel)
theorem qp56 : Cond.selects RX9 yX9_leastNow yX9_leastNow ∈ BG := bg_p 56 (by decide +kernel) (by decide +kernel)
theorem qp57 : Cond.selects RX9 yX9_aboveNow yX9_aboveNow ∈ BG := bg_p 57 (by decide +kernel) (by decide +kernel)
theorem qp58 : Cond.selects RX9 yX9_shareNow yX9_shareNow ∈ BG := bg_p 58 (by decide +kernel) (by decide +kernel)
theorem qp59 : Cond.selects RX9 yX9_mixAll yX9_mixAll ∈ BG := bg_p 59 (by decide +kernel) (by decide +kernel)
theorem qp60 : Cond.selects RX9 yX9_mix yX9_mix ∈ BG := bg_p 60 (by decide +kernel) (by decide +kernel)
theorem q1 : Cond.initialized RX8 ∈ BG := bg_t 1 (by decide +kernel) (by decide +kernel)
theorem q2 : Cond.initialized RX5 ∈ BG := bg_t 2 (by decide +kernel) (by decide +kernel)
theorem q3 : Cond.initialized RX1 ∈ BG := bg_t 3 (by decide +kernel) (by decide +kernel)
theorem q4 : Cond.initialized RX6 ∈ BG := bg_t 4 (by decide +kernel) (by decide +kernel)
theorem q5 : Cond.initialized RX7 ∈ BG := bg_t 5 (by decide +kernel) (by decide +kernel)
theorem q6 : Cond.initialized RX4 ∈ BG := bg_t 6 (by decide +kernel) (by decide +kernel)
theorem q7 : Cond.initialized RX0 ∈ BG := bg_t 7 (by decide +kernel) (by decide +kernel)
theorem q8 : Cond.initialized RX3 ∈ BG := bg_t 8 (by decide +kernel) (by decide +kernel)
theorem q9 : Cond.initialized RX2 ∈ BG := bg_t 9 (by decide +kernel) (by decide +kernel)
theorem q10 : Cond.initialized RX9 ∈ BG := bg_t 10 (by decide +kernel) (by decide +kernel)
theorem q14 : Cond.initialized "java/lang/IndexOutOfBoundsException" ∈ BG := bg_t 14 (by decide +kernel) (by decide +kernel)
theorem q15 : Cond.initialized "java/lang/IllegalArgumentException" ∈ BG := bg_t 15 (by decide +kernel) (by decide +kernel)
theorem q16 : Cond.initialized "java/lang/System" ∈ BG := bg_t 16 (by decide +kernel) (by decide +kernel)
theorem q17 : Cond.initialized "java/lang/Math" ∈ BG := bg_t 17 (by decide +kernel) (by decide +kernel)
theorem q18 : Cond.initialized "java/lang/IllegalStateException" ∈ BG := bg_t 18 (by decide +kernel) (by decide +kernel)
theorem q19 : Cond.initialized RJxe99ae ∈ BG := bg_t 19 (by decide +kernel) (by decide +kernel)
theorem q43 : Cond.fieldLink RX5 9 "NoisePost$State" "levels" "[I" ∈ BG := bg_t 43 (by decide +kernel) (by decide +kernel)
theorem q44 : Cond.fieldLink RX4 33 "NoisePost$State" "levels" "[I" ∈ BG := bg_t 44 (by decide +kernel) (by decide +kernel)
theorem q45 : Cond.fieldLink RX8 106 "NoisePost$State" "levels" "[I" ∈ BG := bg_t 45 (by decide +kernel) (by decide +kernel)
theorem q46 : Cond.fieldLink RX5 15 "NoisePost$State" "winds" "[I" ∈ BG := bg_t 46 (by decide +kernel) (by decide +kernel)
theorem q47 : Cond.fieldLink RX4 40 "NoisePost$State" "winds" "[I" ∈ BG := bg_t 47 (by decide +kernel) (by decide +kernel)
theorem q48 : Cond.fieldLink RX8 109 "NoisePost$State" "winds" "[I" ∈ BG := bg_t 48 (by decide +kernel) (by decide +kernel)
theorem q49 : Cond.fieldLink RX5 26 "NoisePost$State" "settings" "[I" ∈ BG := bg_t 49 (by decide +kernel) (by decide +kernel)
theorem q50 : Cond.fieldLink RX8 71 "NoisePost$State" "settings" "[I" ∈ BG := bg_t 50 (by decide +kernel) (by decide +kernel)
theorem q51 : Cond.fieldLink RX5 29 "NoisePost$State" "complaintMinutes" "[I" ∈ BG := bg_t 51 (by decide +kernel) (by decide +kernel)
theorem q52 : Cond.fieldLink RX3 40 "NoisePost$State" "complaintMinutes" "[I" ∈ BG := bg_t 52 (by decide +kernel) (by decide +kernel)
theorem q53 : Cond.fieldLink RX8 326 "NoisePost$State" "complaintMinutes" "[I" ∈ BG := bg_t 53 (by decide +kernel) (by decide +kernel)
theorem q54 : Cond.fieldLink RX4 25 "NoisePost$State" "minutes" "I" ∈ BG := bg_t 54 (by decide +kernel) (by decide +kernel)
theorem q55 : Cond.fieldLink RX5 32 "NoisePost$State" "minutes" "I" ∈ BG := bg_t 55 (by decide +kernel) (by decide +kernel)
theorem q56 : Cond.fieldLink RX8 86 "NoisePost$State" "minutes" "I" ∈ BG := bg_t 56 (by decide +kernel) (by decide +kernel)
theorem q57 : Cond.fieldLink RX3 21 "NoisePost$State" "complaints" "I" ∈ BG := bg_t 57 (by decide +kernel) (by decide +kernel)
theorem q58 : Cond.fieldLink RX5 36 "NoisePost$State" "complaints" "I" ∈ BG := bg_t 58 (by decide +kernel) (by decide +kernel)
theorem q59 : Cond.fieldLink RX8 129 "NoisePost$State" "complaints" "I" ∈ BG := bg_t 59 (by decide +kernel) (by decide +kernel)
theorem q60 : Cond.laysFinal RX5 "NoisePost$State" "levels" "[I" ∈ BG := bg_t 60 (by decide +kernel) (by decide +kernel)
theorem q62 : Cond.laysFinal RX5 "NoisePost$State" "winds" "[I" ∈ BG := bg_t 62 (by decide +kernel) (by decide +kernel)
theorem q64 : Cond.laysFinal RX5 "NoisePost$State" "settings" "[I" ∈ BG := bg_t 64 (by decide +kernel) (by decide +kernel)
theorem q66 : Cond.laysFinal RX5 "NoisePost$State" "complaintMinutes" "[I" ∈ BG := bg_t 66 (by decide +kernel) (by decide +kernel)
theorem q68 : Cond.lays RX5 "NoisePost$State" "minutes" "I" ∈ BG := bg_t 68 (by decide +kernel) (by decide +kernel)
theorem q70 : Cond.lays RX5 "NoisePost$State" "complaints" "I" ∈ BG := bg_t 70 (by decide +kernel) (by decide +kernel)
theorem q83 : Cond.fieldLink RX1 11 "NoisePost$History" "ring" "[LNoisePost$State;" ∈ BG := bg_t 83 (by decide +kernel) (by decide +kernel)
theorem q84 : Cond.fieldLink RX1 18 "NoisePost$History" "next" "I" ∈ BG := bg_t 84 (by decide +kernel) (by decide +kernel)
theorem q85 : Cond.fieldLink RX1 26 "NoisePost$History" "kept" "I" ∈ BG := bg_t 85 (by decide +kernel) (by decide +kernel)
theorem q86 : Cond.fieldLink RX8 185 "NoisePost$History" "kept" "I" ∈ BG := bg_t 86 (by decide +kernel) (by decide +kernel)
theorem q87 : Cond.laysFinal RX1 "NoisePost$History" "ring" "[LNoisePost$State;" ∈ BG := bg_t 87 (by decide +kernel) (by decide +kernel)
theorem q89 : Cond.lays RX1 "NoisePost$History" "next" "I" ∈ BG := bg_t 89 (by decide +kernel) (by decide +kernel)
theorem q91 : Cond.lays RX1 "NoisePost$History" "kept" "I" ∈ BG := bg_t 91 (by decide +kernel) (by decide +kernel)
theorem q100 : Cond.fieldLink RX6 9 "NoisePost$Text" "codes" "[I" ∈ BG := bg_t 100 (by decide +kernel) (by decide +kernel)
theorem q101 : Cond.fieldLink RX8 336 "NoisePost$Text" "codes" "[I" ∈ BG := bg_t 101 (by decide +kernel) (by decide +kernel)
theorem q102 : Cond.fieldLink RX6 27 "NoisePost$Text" "length" "I" ∈ BG := bg_t 102 (by decide +kernel) (by decide +kernel)
theorem q103 : Cond.fieldLink RX8 156 "NoisePost$Text" "length" "I" ∈ BG := bg_t 103 (by decide +kernel) (by decide +kernel)
theorem q104 : Cond.fieldLink RX6 15 "NoisePost$Text" "levels" "[I" ∈ BG := bg_t 104 (by decide +kernel) (by decide +kernel)
theorem q105 : Cond.fieldLink RX8 180 "NoisePost$Text" "levels" "[I" ∈ BG := bg_t 105 (by decide +kernel) (by decide +kernel)
theorem q106 : Cond.fieldLink RX6 18 "NoisePost$Text" "winds" "[I" ∈ BG := bg_t 106 (by decide +kernel) (by decide +kernel)
theorem q107 : Cond.fieldLink RX8 181 "NoisePost$Text" "winds" "[I" ∈ BG := bg_t 107 (by decide +kernel) (by decide +kernel)
theorem q108 : Cond.fieldLink RX6 21 "NoisePost$Text" "times" "[I" ∈ BG := bg_t 108 (by decide +kernel) (by decide +kernel)
theorem q109 : Cond.fieldLink RX8 182 "NoisePost$Text" "times" "[I" ∈ BG := bg_t 109 (by decide +kernel) (by decide +kernel)
theorem q110 : Cond.fieldLink RX6 31 "NoisePost$Text" "parts" "I" ∈ BG := bg_t 110 (by decide +kernel) (by decide +kernel)
theorem q111 : Cond.fieldLink RX8 177 "NoisePost$Text" "parts" "I" ∈ BG := bg_t 111 (by decide +kernel) (by decide +kernel)
theorem q112 : Cond.fieldLink RX6 24 "NoisePost$Text" "numbers" "[I" ∈ BG := bg_t 112 (by decide +kernel) (by decide +kernel)
theorem q113 : Cond.fieldLink RX6 55 "NoisePost$Text" "field" "I" ∈ BG := bg_t 113 (by decide +kernel) (by decide +kernel)
theorem q114 : Cond.laysFinal RX6 "NoisePost$Text" "codes" "[I" ∈ BG := bg_t 114 (by decide +kernel) (by decide +kernel)
theorem q116 : Cond.lays RX6 "NoisePost$Text" "length" "I" ∈ BG := bg_t 116 (by decide +kernel) (by decide +kernel)
theorem q118 : Cond.laysFinal RX6 "NoisePost$Text" "levels" "[I" ∈ BG := bg_t 118 (by decide +kernel) (by decide +kernel)
theorem q120 : Cond.laysFinal RX6 "NoisePost$Text" "winds" "[I" ∈ BG := bg_t 120 (by decide +kernel) (by decide +kernel)
theorem q122 : Cond.laysFinal RX6 "NoisePost$Text" "times" "[I" ∈ BG := bg_t 122 (by decide +kernel) (by decide +kernel)
theorem q124 : Cond.lays RX6 "NoisePost$Text" "parts" "I" ∈ BG := bg_t 124 (by decide +kernel) (by decide +kernel)
theorem q126 : Cond.laysFinal RX6 "NoisePost$Text" "numbers" "[I" ∈ BG := bg_t 126 (by decide +kernel) (by decide +kernel)
theorem q128 : Cond.lays RX6 "NoisePost$Text" "field" "I" ∈ BG := bg_t 128 (by decide +kernel) (by decide +kernel)
theorem q146 : Cond.fieldLink RX4 9 "NoisePost$Minutes" "fast" "[I" ∈ BG := bg_t 146 (by decide +kernel) (by decide +kernel)
theorem q147 : Cond.fieldLink RX2 25 "NoisePost$Minutes" "fast" "[I" ∈ BG := bg_t 147 (by decide +kernel) (by decide +kernel)
theorem q148 : Cond.fieldLink RX0 53 "NoisePost$Minutes" "fast" "[I" ∈ BG := bg_t 148 (by decide +kernel) (by decide +kernel)
theorem q149 : Cond.fieldLink RX8 288 "NoisePost$Minutes" "fast" "[I" ∈ BG := bg_t 149 (by decide +kernel) (by decide +kernel)
theorem q150 : Cond.fieldLink RX4 15 "NoisePost$Minutes" "slow" "[I" ∈ BG := bg_t 150 (by decide +kernel) (by decide +kernel)
theorem q151 : Cond.fieldLink RX0 46 "NoisePost$Minutes" "slow" "[I" ∈ BG := bg_t 151 (by decide +kernel) (by decide +kernel)
theorem q152 : Cond.fieldLink RX7 118 "NoisePost$Minutes" "slow" "[I" ∈ BG := bg_t 152 (by decide +kernel) (by decide +kernel)
theorem q153 : Cond.fieldLink RX8 291 "NoisePost$Minutes" "slow" "[I" ∈ BG := bg_t 153 (by decide +kernel) (by decide +kernel)
theorem q154 : Cond.fieldLink RX4 18 "NoisePost$Minutes" "why" "[I" ∈ BG := bg_t 154 (by decide +kernel) (by decide +kernel)
theorem q155 : Cond.fieldLink RX0 39 "NoisePost$Minutes" "why" "[I" ∈ BG := bg_t 155 (by decide +kernel) (by decide +kernel)
theorem q156 : Cond.fieldLink RX8 302 "NoisePost$Minutes" "why" "[I" ∈ BG := bg_t 156 (by decide +kernel) (by decide +kernel)
theorem q157 : Cond.fieldLink RX4 30 "NoisePost$Minutes" "told" "I" ∈ BG := bg_t 157 (by decide +kernel) (by decide +kernel)
theorem q158 : Cond.fieldLink RX0 34 "NoisePost$Minutes" "told" "I" ∈ BG := bg_t 158 (by decide +kernel) (by decide +kernel)
theorem q159 : Cond.fieldLink RX2 15 "NoisePost$Minutes" "told" "I" ∈ BG := bg_t 159 (by decide +kernel) (by decide +kernel)
theorem q160 : Cond.fieldLink RX7 69 "NoisePost$Minutes" "told" "I" ∈ BG := bg_t 160 (by decide +kernel) (by decide +kernel)
theorem q161 : Cond.fieldLink RX4 51 "NoisePost$Minutes" "counted" "I" ∈ BG := bg_t 161 (by decide +kernel) (by decide +kernel)
theorem q162 : Cond.fieldLink RX7 73 "NoisePost$Minutes" "counted" "I" ∈ BG := bg_t 162 (by decide +kernel) (by decide +kernel)
theorem q163 : Cond.fieldLink RX8 217 "NoisePost$Minutes" "counted" "I" ∈ BG := bg_t 163 (by decide +kernel) (by decide +kernel)
theorem q164 : Cond.fieldLink RX4 54 "NoisePost$Minutes" "resting" "I" ∈ BG := bg_t 164 (by decide +kernel) (by decide +kernel)
theorem q165 : Cond.fieldLink RX7 76 "NoisePost$Minutes" "resting" "I" ∈ BG := bg_t 165 (by decide +kernel) (by decide +kernel)
theorem q166 : Cond.fieldLink RX4 57 "NoisePost$Minutes" "above" "I" ∈ BG := bg_t 166 (by decide +kernel) (by decide +kernel)
theorem q167 : Cond.fieldLink RX7 79 "NoisePost$Minutes" "above" "I" ∈ BG := bg_t 167 (by decide +kernel) (by decide +kernel)
theorem q168 : Cond.fieldLink RX4 21 "NoisePost$Minutes" "lastWindy" "I" ∈ BG := bg_t 168 (by decide +kernel) (by decide +kernel)
theorem q169 : Cond.laysFinal RX4 "NoisePost$Minutes" "fast" "[I" ∈ BG := bg_t 169 (by decide +kernel) (by decide +kernel)
theorem q171 : Cond.laysFinal RX4 "NoisePost$Minutes" "slow" "[I" ∈ BG := bg_t 171 (by decide +kernel) (by decide +kernel)
theorem q173 : Cond.laysFinal RX4 "NoisePost$Minutes" "why" "[I" ∈ BG := bg_t 173 (by decide +kernel) (by decide +kernel)
theorem q175 : Cond.lays RX4 "NoisePost$Minutes" "told" "I" ∈ BG := bg_t 175 (by decide +kernel) (by decide +kernel)
theorem q177 : Cond.lays RX4 "NoisePost$Minutes" "counted" "I" ∈ BG := bg_t 177 (by decide +kernel) (by decide +kernel)
theorem q179 : Cond.lays RX4 "NoisePost$Minutes" "resting" "I" ∈ BG := bg_t 179 (by decide +kernel) (by decide +kernel)
theorem q181 : Cond.lays RX4 "NoisePost$Minutes" "above" "I" ∈ BG := bg_t 181 (by decide +kernel) (by decide +kernel)
theorem q183 : Cond.lays RX4 "NoisePost$Minutes" "lastWindy" "I" ∈ BG := bg_t 183 (by decide +kernel) (by decide +kernel)
theorem q192 : Cond.fieldLink RX0 9 "NoisePost$Exceedances" "begins" "[I" ∈ BG := bg_t 192 (by decide +kernel) (by decide +kernel)
theorem q193 : Cond.fieldLink RX3 47 "NoisePost$Exceedances" "begins" "[I" ∈ BG := bg_t 193 (by decide +kernel) (by decide +kernel)
theorem q194 : Cond.fieldLink RX8 308 "NoisePost$Exceedances" "begins" "[I" ∈ BG := bg_t 194 (by decide +kernel) (by decide +kernel)
theorem q195 : Cond.fieldLink RX0 15 "NoisePost$Exceedances" "ends" "[I" ∈ BG := bg_t 195 (by decide +kernel) (by decide +kernel)
theorem q196 : Cond.fieldLink RX3 50 "NoisePost$Exceedances" "ends" "[I" ∈ BG := bg_t 196 (by decide +kernel) (by decide +kernel)
theorem q197 : Cond.fieldLink RX8 311 "NoisePost$Exceedances" "ends" "[I" ∈ BG := bg_t 197 (by decide +kernel) (by decide +kernel)
theorem q198 : Cond.fieldLink RX0 18 "NoisePost$Exceedances" "aboves" "[I" ∈ BG := bg_t 198 (by decide +kernel) (by decide +kernel)
theorem q199 : Cond.fieldLink RX8 314 "NoisePost$Exceedances" "aboves" "[I" ∈ BG := bg_t 199 (by decide +kernel) (by decide +kernel)
theorem q200 : Cond.fieldLink RX0 21 "NoisePost$Exceedances" "peaks" "[I" ∈ BG := bg_t 200 (by decide +kernel) (by decide +kernel)
theorem q201 : Cond.fieldLink RX3 53 "NoisePost$Exceedances" "peaks" "[I" ∈ BG := bg_t 201 (by decide +kernel) (by decide +kernel)
theorem q202 : Cond.fieldLink RX8 317 "NoisePost$Exceedances" "peaks" "[I" ∈ BG := bg_t 202 (by decide +kernel) (by decide +kernel)
theorem q203 : Cond.fieldLink RX0 24 "NoisePost$Exceedances" "weights" "[I" ∈ BG := bg_t 203 (by decide +kernel) (by decide +kernel)
theorem q204 : Cond.fieldLink RX8 320 "NoisePost$Exceedances" "weights" "[I" ∈ BG := bg_t 204 (by decide +kernel) (by decide +kernel)
theorem q205 : Cond.fieldLink RX0 27 "NoisePost$Exceedances" "ownerOf" "[I" ∈ BG := bg_t 205 (by decide +kernel) (by decide +kernel)
theorem q206 : Cond.fieldLink RX8 305 "NoisePost$Exceedances" "ownerOf" "[I" ∈ BG := bg_t 206 (by decide +kernel) (by decide +kernel)
theorem q207 : Cond.fieldLink RX0 30 "NoisePost$Exceedances" "found" "I" ∈ BG := bg_t 207 (by decide +kernel) (by decide +kernel)
theorem q208 : Cond.fieldLink RX3 31 "NoisePost$Exceedances" "found" "I" ∈ BG := bg_t 208 (by decide +kernel) (by decide +kernel)
theorem q209 : Cond.fieldLink RX8 116 "NoisePost$Exceedances" "found" "I" ∈ BG := bg_t 209 (by decide +kernel) (by decide +kernel)
theorem q210 : Cond.fieldLink RX7 82 "NoisePost$Exceedances" "found" "I" ∈ BG := bg_t 210 (by decide +kernel) (by decide +kernel)
theorem q211 : Cond.fieldLink RX0 60 "NoisePost$Exceedances" "goesOn" "Z" ∈ BG := bg_t 211 (by decide +kernel) (by decide +kernel)
theorem q212 : Cond.fieldLink RX7 98 "NoisePost$Exceedances" "goesOn" "Z" ∈ BG := bg_t 212 (by decide +kernel) (by decide +kernel)
theorem q213 : Cond.laysFinal RX0 "NoisePost$Exceedances" "begins" "[I" ∈ BG := bg_t 213 (by decide +kernel) (by decide +kernel)
theorem q215 : Cond.laysFinal RX0 "NoisePost$Exceedances" "ends" "[I" ∈ BG := bg_t 215 (by decide +kernel) (by decide +kernel)
theorem q217 : Cond.laysFinal RX0 "NoisePost$Exceedances" "aboves" "[I" ∈ BG := bg_t 217 (by decide +kernel) (by decide +kernel)
theorem q219 : Cond.laysFinal RX0 "NoisePost$Exceedances" "peaks" "[I" ∈ BG := bg_t 219 (by decide +kernel) (by decide +kernel)
theorem q221 : Cond.laysFinal RX0 "NoisePost$Exceedances" "weights" "[I" ∈ BG := bg_t 221 (by decide +kernel) (by decide +kernel)
theorem q223 : Cond.laysFinal RX0 "NoisePost$Exceedances" "ownerOf" "[I" ∈ BG := bg_t 223 (by decide +kernel) (by decide +kernel)
theorem q225 : Cond.lays RX0 "NoisePost$Exceedances" "found" "I" ∈ BG := bg_t 225 (by decide +kernel) (by decide +kernel)
theorem q227 : Cond.lays RX0 "NoisePost$Exceedances" "goesOn" "Z" ∈ BG := bg_t 227 (by decide +kernel) (by decide +kernel)
theorem q236 : Cond.fieldLink RX3 9 "NoisePost$Matches" "exceedanceOf" "[I" ∈ BG := bg_t 236 (by decide +kernel) (by decide +kernel)
theorem q237 : Cond.fieldLink RX8 146 "NoisePost$Matches" "exceedanceOf" "[I" ∈ BG := bg_t 237 (by decide +kernel) (by decide +kernel)
theorem q238 : Cond.fieldLink RX3 15 "NoisePost$Matches" "complaintOf" "[I" ∈ BG := bg_t 238 (by decide +kernel) (by decide +kernel)
theorem q239 : Cond.fieldLink RX8 323 "NoisePost$Matches" "complaintOf" "[I" ∈ BG := bg_t 239 (by decide +kernel) (by decide +kernel)
theorem q240 : Cond.fieldLink RX3 18 "NoisePost$Matches" "order" "[I" ∈ BG := bg_t 240 (by decide +kernel) (by decide +kernel)
theorem q241 : Cond.fieldLink RX3 27 "NoisePost$Matches" "complaints" "I" ∈ BG := bg_t 241 (by decide +kernel) (by decide +kernel)
theorem q242 : Cond.fieldLink RX7 85 "NoisePost$Matches" "complaints" "I" ∈ BG := bg_t 242 (by decide +kernel) (by decide +kernel)
theorem q243 : Cond.fieldLink RX3 28 "NoisePost$Matches" "matched" "I" ∈ BG := bg_t 243 (by decide +kernel) (by decide +kernel)
theorem q244 : Cond.fieldLink RX7 88 "NoisePost$Matches" "matched" "I" ∈ BG := bg_t 244 (by decide +kernel) (by decide +kernel)
theorem q245 : Cond.laysFinal RX3 "NoisePost$Matches" "exceedanceOf" "[I" ∈ BG := bg_t 245 (by decide +kernel) (by decide +kernel)
theorem q247 : Cond.laysFinal RX3 "NoisePost$Matches" "complaintOf" "[I" ∈ BG := bg_t 247 (by decide +kernel) (by decide +kernel)
theorem q249 : Cond.laysFinal RX3 "NoisePost$Matches" "order" "[I" ∈ BG := bg_t 249 (by decide +kernel) (by decide +kernel)
theorem q251 : Cond.lays RX3 "NoisePost$Matches" "complaints" "I" ∈ BG := bg_t 251 (by decide +kernel) (by decide +kernel)
theorem q253 : Cond.lays RX3 "NoisePost$Matches" "matched" "I" ∈ BG := bg_t 253 (by decide +kernel) (by decide +kernel)
theorem q256 : Cond.fieldLink RX7 18 "NoisePost$View" "settings" "[I" ∈ BG := bg_t 256 (by decide +kernel) (by decide +kernel)
theorem q257 : Cond.fieldLink RX8 235 "NoisePost$View" "settings" "[I" ∈ BG := bg_t 257 (by decide +kernel) (by decide +kernel)
theorem q258 : Cond.fieldLink RX7 26 "NoisePost$View" "minutes" "LNoisePost$Minutes;" ∈ BG := bg_t 258 (by decide +kernel) (by decide +kernel)
theorem q259 : Cond.fieldLink RX8 214 "NoisePost$View" "minutes" "LNoisePost$Minutes;" ∈ BG := bg_t 259 (by decide +kernel) (by decide +kernel)
theorem q260 : Cond.fieldLink RX7 33 "NoisePost$View" "exceedances" "LNoisePost$Exceedances;" ∈ BG := bg_t 260 (by decide +kernel) (by decide +kernel)
theorem q261 : Cond.fieldLink RX8 112 "NoisePost$View" "exceedances" "LNoisePost$Exceedances;" ∈ BG := bg_t 261 (by decide +kernel) (by decide +kernel)
theorem q262 : Cond.fieldLink RX7 40 "NoisePost$View" "matches" "LNoisePost$Matches;" ∈ BG := bg_t 262 (by decide +kernel) (by decide +kernel)
theorem q263 : Cond.fieldLink RX8 142 "NoisePost$View" "matches" "LNoisePost$Matches;" ∈ BG := bg_t 263 (by decide +kernel) (by decide +kernel)
theorem q264 : Cond.laysFinal RX7 "NoisePost$View" "settings" "[I" ∈ BG := bg_t 264 (by decide +kernel) (by decide +kernel)
theorem q266 : Cond.laysFinal RX7 "NoisePost$View" "minutes" "LNoisePost$Minutes;" ∈ BG := bg_t 266 (by decide +kernel) (by decide +kernel)
theorem q268 : Cond.laysFinal RX7 "NoisePost$View" "exceedances" "LNoisePost$Exceedances;" ∈ BG := bg_t 268 (by decide +kernel) (by decide +kernel)
theorem q270 : Cond.laysFinal RX7 "NoisePost$View" "matches" "LNoisePost$Matches;" ∈ BG := bg_t 270 (by decide +kernel) (by decide +kernel)
theorem q279 : Cond.fieldLink RX2 9 "NoisePost$LevelCounts" "reached" "[I" ∈ BG := bg_t 279 (by decide +kernel) (by decide +kernel)
theorem q280 : Cond.fieldLink RX8 209 "NoisePost$LevelCounts" "reached" "[I" ∈ BG := bg_t 280 (by decide +kernel) (by decide +kernel)
theorem q281 : Cond.laysFinal RX2 "NoisePost$LevelCounts" "reached" "[I" ∈ BG := bg_t 281 (by decide +kernel) (by decide +kernel)
theorem q284 : Cond.fieldLink RX8 10 "NoisePost" "state" "LNoisePost$State;" ∈ BG := bg_t 284 (by decide +kernel) (by decide +kernel)
theorem q285 : Cond.fieldLink RX8 19 "NoisePost" "history" "LNoisePost$History;" ∈ BG := bg_t 285 (by decide +kernel) (by decide +kernel)
theorem q286 : Cond.fieldLink RX8 26 "NoisePost" "text" "LNoisePost$Text;" ∈ BG := bg_t 286 (by decide +kernel) (by decide +kernel)
theorem q287 : Cond.fieldLink RX8 33 "NoisePost" "now" "LNoisePost$View;" ∈ BG := bg_t 287 (by decide +kernel) (by decide +kernel)
theorem q288 : Cond.fieldLink RX8 37 "NoisePost" "tried" "LNoisePost$View;" ∈ BG := bg_t 288 (by decide +kernel) (by decide +kernel)
theorem q289 : Cond.fieldLink RX8 43 "NoisePost" "levelCounts" "LNoisePost$LevelCounts;" ∈ BG := bg_t 289 (by decide +kernel) (by decide +kernel)
theorem q290 : Cond.laysFinal RX8 "NoisePost" "state" "LNoisePost$State;" ∈ BG := bg_t 290 (by decide +kernel) (by decide +kernel)
theorem q292 : Cond.laysFinal RX8 "NoisePost" "history" "LNoisePost$History;" ∈ BG := bg_t 292 (by decide +kernel) (by decide +kernel)
theorem q294 : Cond.laysFinal RX8 "NoisePost" "text" "LNoisePost$Text;" ∈ BG := bg_t 294 (by decide +kernel) (by decide +kernel)
theorem q296 : Cond.laysFinal RX8 "NoisePost" "now" "LNoisePost$View;" ∈ BG := bg_t 296 (by decide +kernel) (by decide +kernel)
theorem q298 : Cond.laysFinal RX8 "NoisePost" "tried" "LNoisePost$View;" ∈ BG := bg_t 298 (by decide +kernel) (by decide +kernel)
theorem q300 : Cond.laysFinal RX8 "NoisePost" "levelCounts" "LNoisePost$LevelCounts;" ∈ BG := bg_t 300 (by decide +kernel) (by decide +kernel)
theorem q311 : Cond.methodLink RX8 164 yX6_read ∈ BG := bg_t 311 (by decide +kernel) (by decide +kernel)
theorem q312 : Cond.instanceMethod yX6_read ∈ BG := bg_t 312 (by decide +kernel) (by decide +kernel)
theorem q313 : Cond.selects RX6 yX6_read yX6_read ∈ BG := bg_t 313 (by decide +kernel) (by decide +kernel)
theorem q314 : Cond.code yX6_read cX6_read 2 (some .int) ∈ BG := bg_t 314 (by decide +kernel) (by decide +kernel)
theorem q315 : Cond.methodLink RX6 34 yX6_beginPart ∈ BG := bg_t 315 (by decide +kernel) (by decide +kernel)
theorem q317 : Cond.instanceMethod yX6_beginPart ∈ BG := bg_t 317 (by decide +kernel) (by decide +kernel)
theorem q318 : Cond.code yX6_beginPart cX6_beginPart 1 none ∈ BG := bg_t 318 (by decide +kernel) (by decide +kernel)
theorem q319 : Cond.methodLink RX6 58 yX6_beginNumber ∈ BG := bg_t 319 (by decide +kernel) (by decide +kernel)
theorem q321 : Cond.instanceMethod yX6_beginNumber ∈ BG := bg_t 321 (by decide +kernel) (by decide +kernel)
theorem q322 : Cond.code yX6_beginNumber cX6_beginNumber 2 none ∈ BG := bg_t 322 (by decide +kernel) (by decide +kernel)
theorem q323 : Cond.methodLink RX6 37 yX6_takes ∈ BG := bg_t 323 (by decide +kernel) (by decide +kernel)
theorem q325 : Cond.instanceMethod yX6_takes ∈ BG := bg_t 325 (by decide +kernel) (by decide +kernel)
theorem q326 : Cond.code yX6_takes cX6_takes 2 (some .boolean) ∈ BG := bg_t 326 (by decide +kernel) (by decide +kernel)
theorem q327 : Cond.methodLink RX6 52 yX6_takesDigit ∈ BG := bg_t 327 (by decide +kernel) (by decide +kernel)
theorem q329 : Cond.instanceMethod yX6_takesDigit ∈ BG := bg_t 329 (by decide +kernel) (by decide +kernel)
theorem q330 : Cond.code yX6_takesDigit cX6_takesDigit 4 (some .boolean) ∈ BG := bg_t 330 (by decide +kernel) (by decide +kernel)
theorem q335 : Cond.methodLink RX6 45 yX6_numberIsWhole ∈ BG := bg_t 335 (by decide +kernel) (by decide +kernel)
theorem q337 : Cond.instanceMethod yX6_numberIsWhole ∈ BG := bg_t 337 (by decide +kernel) (by decide +kernel)
theorem q338 : Cond.code yX6_numberIsWhole cX6_numberIsWhole 1 (some .boolean) ∈ BG := bg_t 338 (by decide +kernel) (by decide +kernel)
theorem q339 : Cond.methodLink RX6 49 yX6_endPart ∈ BG := bg_t 339 (by decide +kernel) (by decide +kernel)
theorem q341 : Cond.instanceMethod yX6_endPart ∈ BG := bg_t 341 (by decide +kernel) (by decide +kernel)
theorem q342 : Cond.code yX6_endPart cX6_endPart 1 none ∈ BG := bg_t 342 (by decide +kernel) (by decide +kernel)
theorem q347 : Cond.methodLink RX8 248 yX4_shareAbove ∈ BG := bg_t 347 (by decide +kernel) (by decide +kernel)
theorem q348 : Cond.instanceMethod yX4_shareAbove ∈ BG := bg_t 348 (by decide +kernel) (by decide +kernel)
theorem q349 : Cond.selects RX4 yX4_shareAbove yX4_shareAbove ∈ BG := bg_t 349 (by decide +kernel) (by decide +kernel)
theorem q350 : Cond.code yX4_shareAbove cX4_shareAbove 1 (some .double) ∈ BG := bg_t 350 (by decide +kernel) (by decide +kernel)
theorem q355 : Cond.constantLong RX8 252 (2161) ∈ BG := bg_t 355 (by decide +kernel) (by decide +kernel)
theorem q356 : Cond.methodLink RX8 225 yX8_numberOf ∈ BG := bg_t 356 (by decide +kernel) (by decide +kernel)
theorem q358 : Cond.instanceMethod yX8_numberOf ∈ BG := bg_t 358 (by decide +kernel) (by decide +kernel)
theorem q359 : Cond.code yX8_numberOf cX8_numberOf 2 (some .int) ∈ BG := bg_t 359 (by decide +kernel) (by decide +kernel)
theorem q360 : Cond.methodLink RX8 239 yX7_numberOf ∈ BG := bg_t 360 (by decide +kernel) (by decide +kernel)
theorem q361 : Cond.instanceMethod yX7_numberOf ∈ BG := bg_t 361 (by decide +kernel) (by decide +kernel)
theorem q362 : Cond.selects RX7 yX7_numberOf yX7_numberOf ∈ BG := bg_t 362 (by decide +kernel) (by decide +kernel)
theorem q363 : Cond.code yX7_numberOf cX7_numberOf 2 (some .int) ∈ BG := bg_t 363 (by decide +kernel) (by decide +kernel)
theorem q364 : Cond.methodLink RX7 91 yX0_weightOfAll ∈ BG := bg_t 364 (by decide +kernel) (by decide +kernel)
theorem q365 : Cond.instanceMethod yX0_weightOfAll ∈ BG := bg_t 365 (by decide +kernel) (by decide +kernel)
theorem q366 : Cond.selects RX0 yX0_weightOfAll yX0_weightOfAll ∈ BG := bg_t 366 (by decide +kernel) (by decide +kernel)
theorem q367 : Cond.code yX0_weightOfAll cX0_weightOfAll 3 (some .int) ∈ BG := bg_t 367 (by decide +kernel) (by decide +kernel)
theorem q368 : Cond.methodLink RX7 95 yX0_heaviest ∈ BG := bg_t 368 (by decide +kernel) (by decide +kernel)
theorem q369 : Cond.instanceMethod yX0_heaviest ∈ BG := bg_t 369 (by decide +kernel) (by decide +kernel)
theorem q370 : Cond.selects RX0 yX0_heaviest yX0_heaviest ∈ BG := bg_t 370 (by decide +kernel) (by decide +kernel)
theorem q371 : Cond.code yX0_heaviest cX0_heaviest 3 (some .int) ∈ BG := bg_t 371 (by decide +kernel) (by decide +kernel)
theorem q372 : Cond.methodLink RX8 254 yX8_mixed ∈ BG := bg_t 372 (by decide +kernel) (by decide +kernel)
theorem q373 : Cond.static yX8_mixed ∈ BG := bg_t 373 (by decide +kernel) (by decide +kernel)
theorem q374 : Cond.code yX8_mixed cX8_mixed 4 (some .long) ∈ BG := bg_t 374 (by decide +kernel) (by decide +kernel)
theorem q375 : Cond.constantLong RX8 334 (31) ∈ BG := bg_t 375 (by decide +kernel) (by decide +kernel)
theorem q376 : Cond.methodLink RX8 258 yX8_withMinutes ∈ BG := bg_t 376 (by decide +kernel) (by decide +kernel)
theorem q378 : Cond.instanceMethod yX8_withMinutes ∈ BG := bg_t 378 (by decide +kernel) (by decide +kernel)
theorem q379 : Cond.code yX8_withMinutes cX8_withMinutes 5 (some .long) ∈ BG := bg_t 379 (by decide +kernel) (by decide +kernel)
theorem q380 : Cond.methodLink RX8 195 yX8_minuteProperty ∈ BG := bg_t 380 (by decide +kernel) (by decide +kernel)
theorem q382 : Cond.instanceMethod yX8_minuteProperty ∈ BG := bg_t 382 (by decide +kernel) (by decide +kernel)
theorem q383 : Cond.code yX8_minuteProperty cX8_minuteProperty 3 (some .int) ∈ BG := bg_t 383 (by decide +kernel) (by decide +kernel)
theorem q384 : Cond.methodLink RX8 294 yX8_limitAt ∈ BG := bg_t 384 (by decide +kernel) (by decide +kernel)
theorem q385 : Cond.static yX8_limitAt ∈ BG := bg_t 385 (by decide +kernel) (by decide +kernel)
theorem q386 : Cond.code yX8_limitAt cX8_limitAt 2 (some .int) ∈ BG := bg_t 386 (by decide +kernel) (by decide +kernel)
theorem q387 : Cond.methodLink RX8 298 yX8_isRest ∈ BG := bg_t 387 (by decide +kernel) (by decide +kernel)
theorem q388 : Cond.static yX8_isRest ∈ BG := bg_t 388 (by decide +kernel) (by decide +kernel)
theorem q389 : Cond.code yX8_isRest cX8_isRest 2 (some .boolean) ∈ BG := bg_t 389 (by decide +kernel) (by decide +kernel)
theorem q390 : Cond.methodLink RX8 329 yJ9_floorMod_7cf53 ∈ BG := bg_t 390 (by decide +kernel) (by decide +kernel)
theorem q391 : Cond.static yJ9_floorMod_7cf53 ∈ BG := bg_t 391 (by decide +kernel) (by decide +kernel)
theorem q392 : Cond.code yJ9_floorMod_7cf53 cJ9_floorMod_7cf53 3 (some .int) ∈ BG := bg_t 392 (by decide +kernel) (by decide +kernel)
theorem q393 : Cond.methodLink RX8 262 yX8_withExceedances ∈ BG := bg_t 393 (by decide +kernel) (by decide +kernel)
theorem q395 : Cond.instanceMethod yX8_withExceedances ∈ BG := bg_t 395 (by decide +kernel) (by decide +kernel)
theorem q396 : Cond.code yX8_withExceedances cX8_withExceedances 5 (some .long) ∈ BG := bg_t 396 (by decide +kernel) (by decide +kernel)
theorem q397 : Cond.methodLink RX8 201 yX8_exceedanceProperty ∈ BG := bg_t 397 (by decide +kernel) (by decide +kernel)
theorem q399 : Cond.instanceMethod yX8_exceedanceProperty ∈ BG := bg_t 399 (by decide +kernel) (by decide +kernel)
theorem q400 : Cond.code yX8_exceedanceProperty cX8_exceedanceProperty 3 (some .int) ∈ BG := bg_t 400 (by decide +kernel) (by decide +kernel)
theorem q401 : Cond.methodLink RX8 265 yX8_withComplaints ∈ BG := bg_t 401 (by decide +kernel) (by decide +kernel)
theorem q403 : Cond.instanceMethod yX8_withComplaints ∈ BG := bg_t 403 (by decide +kernel) (by decide +kernel)
theorem q404 : Cond.code yX8_withComplaints cX8_withComplaints 4 (some .long) ∈ BG := bg_t 404 (by decide +kernel) (by decide +kernel)
theorem q405 : Cond.methodLink RX8 204 yX8_complaintProperty ∈ BG := bg_t 405 (by decide +kernel) (by decide +kernel)
theorem q407 : Cond.instanceMethod yX8_complaintProperty ∈ BG := bg_t 407 (by decide +kernel) (by decide +kernel)
theorem q408 : Cond.code yX8_complaintProperty cX8_complaintProperty 3 (some .int) ∈ BG := bg_t 408 (by decide +kernel) (by decide +kernel)
theorem q409 : Cond.methodLink RX8 268 yX8_withLevels ∈ BG := bg_t 409 (by decide +kernel) (by decide +kernel)
theorem q411 : Cond.instanceMethod yX8_withLevels ∈ BG := bg_t 411 (by decide +kernel) (by decide +kernel)
theorem q412 : Cond.code yX8_withLevels cX8_withLevels 4 (some .long) ∈ BG := bg_t 412 (by decide +kernel) (by decide +kernel)
theorem q413 : Cond.methodLink RX8 222 yX2_levelOfPercent ∈ BG := bg_t 413 (by decide +kernel) (by decide +kernel)
theorem q414 : Cond.instanceMethod yX2_levelOfPercent ∈ BG := bg_t 414 (by decide +kernel) (by decide +kernel)
theorem q415 : Cond.selects RX2 yX2_levelOfPercent yX2_levelOfPercent ∈ BG := bg_t 415 (by decide +kernel) (by decide +kernel)
theorem q416 : Cond.code yX2_levelOfPercent cX2_levelOfPercent 4 (some .int) ∈ BG := bg_t 416 (by decide +kernel) (by decide +kernel)
theorem q417 : Cond.methodLink RX8 242 yX7_leastLimitFor ∈ BG := bg_t 417 (by decide +kernel) (by decide +kernel)
theorem q418 : Cond.instanceMethod yX7_leastLimitFor ∈ BG := bg_t 418 (by decide +kernel) (by decide +kernel)
theorem q419 : Cond.selects RX7 yX7_leastLimitFor yX7_leastLimitFor ∈ BG := bg_t 419 (by decide +kernel) (by decide +kernel)
theorem q420 : Cond.code yX7_leastLimitFor cX7_leastLimitFor 3 (some .int) ∈ BG := bg_t 420 (by decide +kernel) (by decide +kernel)
theorem q421 : Cond.methodLink RX7 102 yX7_exceedancesWithLimit ∈ BG := bg_t 421 (by decide +kernel) (by decide +kernel)
theorem q423 : Cond.instanceMethod yX7_exceedancesWithLimit ∈ BG := bg_t 423 (by decide +kernel) (by decide +kernel)
theorem q424 : Cond.code yX7_exceedancesWithLimit cX7_exceedancesWithLimit 6 (some .int) ∈ BG := bg_t 424 (by decide +kernel) (by decide +kernel)
theorem q425 : Cond.methodLink RX7 106 yX7_isAboveWithLimit ∈ BG := bg_t 425 (by decide +kernel) (by decide +kernel)
theorem q427 : Cond.instanceMethod yX7_isAboveWithLimit ∈ BG := bg_t 427 (by decide +kernel) (by decide +kernel)
theorem q428 : Cond.code yX7_isAboveWithLimit cX7_isAboveWithLimit 4 (some .boolean) ∈ BG := bg_t 428 (by decide +kernel) (by decide +kernel)
theorem q429 : Cond.methodLink RX7 110 yX4_isCounted ∈ BG := bg_t 429 (by decide +kernel) (by decide +kernel)
theorem q430 : Cond.instanceMethod yX4_isCounted ∈ BG := bg_t 430 (by decide +kernel) (by decide +kernel)
theorem q431 : Cond.selects RX4 yX4_isCounted yX4_isCounted ∈ BG := bg_t 431 (by decide +kernel) (by decide +kernel)
theorem q432 : Cond.code yX4_isCounted cX4_isCounted 2 (some .boolean) ∈ BG := bg_t 432 (by decide +kernel) (by decide +kernel)
theorem q434 : Cond.methodLink RX8 245 yX7_minutesUntilAbove ∈ BG := bg_t 434 (by decide +kernel) (by decide +kernel)
theorem q435 : Cond.instanceMethod yX7_minutesUntilAbove ∈ BG := bg_t 435 (by decide +kernel) (by decide +kernel)
theorem q436 : Cond.selects RX7 yX7_minutesUntilAbove yX7_minutesUntilAbove ∈ BG := bg_t 436 (by decide +kernel) (by decide +kernel)
theorem q437 : Cond.code yX7_minutesUntilAbove cX7_minutesUntilAbove 6 (some .int) ∈ BG := bg_t 437 (by decide +kernel) (by decide +kernel)
theorem q438 : Cond.methodLink RX7 121 yX4_lastSlowPlace ∈ BG := bg_t 438 (by decide +kernel) (by decide +kernel)
theorem q439 : Cond.instanceMethod yX4_lastSlowPlace ∈ BG := bg_t 439 (by decide +kernel) (by decide +kernel)
theorem q440 : Cond.selects RX4 yX4_lastSlowPlace yX4_lastSlowPlace ∈ BG := bg_t 440 (by decide +kernel) (by decide +kernel)
theorem q441 : Cond.code yX4_lastSlowPlace cX4_lastSlowPlace 1 (some .int) ∈ BG := bg_t 441 (by decide +kernel) (by decide +kernel)
theorem q443 : Cond.static yX8_moved ∈ BG := bg_t 443 (by decide +kernel) (by decide +kernel)
theorem q444 : Cond.code yX8_moved cX8_moved 3 (some .int) ∈ BG := bg_t 444 (by decide +kernel) (by decide +kernel)
theorem q445 : Cond.methodLink RX7 128 yX4_isSoonAfterWind ∈ BG := bg_t 445 (by decide +kernel) (by decide +kernel)
theorem q446 : Cond.instanceMethod yX4_isSoonAfterWind ∈ BG := bg_t 446 (by decide +kernel) (by decide +kernel)
theorem q447 : Cond.selects RX4 yX4_isSoonAfterWind yX4_isSoonAfterWind ∈ BG := bg_t 447 (by decide +kernel) (by decide +kernel)
theorem q448 : Cond.code yX4_isSoonAfterWind cX4_isSoonAfterWind 3 (some .boolean) ∈ BG := bg_t 448 (by decide +kernel) (by decide +kernel)
theorem q450 : Cond.methodLink RX8 271 yX8_bitsOf ∈ BG := bg_t 450 (by decide +kernel) (by decide +kernel)
theorem q451 : Cond.static yX8_bitsOf ∈ BG := bg_t 451 (by decide +kernel) (by decide +kernel)
theorem q452 : Cond.code yX8_bitsOf cX8_bitsOf 8 (some .long) ∈ BG := bg_t 452 (by decide +kernel) (by decide +kernel)
theorem q453 : Cond.constantLong RX8 339 (1023) ∈ BG := bg_t 453 (by decide +kernel) (by decide +kernel)
theorem q454 : Cond.constantDouble RX8 341 (4611686018427387904 : UInt64) ∈ BG := bg_t 454 (by decide +kernel) (by decide +kernel)
theorem q455 : Cond.constantDouble RX8 343 (4841369599423283200 : UInt64) ∈ BG := bg_t 455 (by decide +kernel) (by decide +kernel)
theorem q456 : Cond.methodLink RX8 275 yX8_withBuffer ∈ BG := bg_t 456 (by decide +kernel) (by decide +kernel)
theorem q458 : Cond.instanceMethod yX8_withBuffer ∈ BG := bg_t 458 (by decide +kernel) (by decide +kernel)
theorem q459 : Cond.code yX8_withBuffer cX8_withBuffer 4 (some .long) ∈ BG := bg_t 459 (by decide +kernel) (by decide +kernel)
theorem q469 : Cond.methodLink RX8 47 yX8_isSetting ∈ BG := bg_t 469 (by decide +kernel) (by decide +kernel)
theorem q470 : Cond.static yX8_isSetting ∈ BG := bg_t 470 (by decide +kernel) (by decide +kernel)
theorem q471 : Cond.code yX8_isSetting cX8_isSetting 1 (some .boolean) ∈ BG := bg_t 471 (by decide +kernel) (by decide +kernel)
theorem q472 : Cond.classLink RX8 51 "java/lang/IndexOutOfBoundsException" ∈ BG := bg_t 472 (by decide +kernel) (by decide +kernel)
theorem q540 : Cond.methodLink RX8 58 yX8_fitsSetting ∈ BG := bg_t 540 (by decide +kernel) (by decide +kernel)
theorem q541 : Cond.static yX8_fitsSetting ∈ BG := bg_t 541 (by decide +kernel) (by decide +kernel)
theorem q542 : Cond.code yX8_fitsSetting cX8_fitsSetting 2 (some .boolean) ∈ BG := bg_t 542 (by decide +kernel) (by decide +kernel)
theorem q543 : Cond.fieldLink RX8 282 "NoisePost" "SETTING_LEAST" "[I" ∈ BG := bg_t 543 (by decide +kernel) (by decide +kernel)
theorem q545 : Cond.fieldLink RX8 285 "NoisePost" "SETTING_MOST" "[I" ∈ BG := bg_t 545 (by decide +kernel) (by decide +kernel)
theorem q547 : Cond.classLink RX8 62 "java/lang/IllegalArgumentException" ∈ BG := bg_t 547 (by decide +kernel) (by decide +kernel)
theorem q563 : Cond.methodLink RX8 67 yX1_keep ∈ BG := bg_t 563 (by decide +kernel) (by decide +kernel)
theorem q564 : Cond.instanceMethod yX1_keep ∈ BG := bg_t 564 (by decide +kernel) (by decide +kernel)
theorem q565 : Cond.selects RX1 yX1_keep yX1_keep ∈ BG := bg_t 565 (by decide +kernel) (by decide +kernel)
theorem q566 : Cond.code yX1_keep cX1_keep 2 none ∈ BG := bg_t 566 (by decide +kernel) (by decide +kernel)
theorem q567 : Cond.methodLink RX1 22 yX5_takeOver ∈ BG := bg_t 567 (by decide +kernel) (by decide +kernel)
theorem q568 : Cond.instanceMethod yX5_takeOver ∈ BG := bg_t 568 (by decide +kernel) (by decide +kernel)
theorem q569 : Cond.selects RX5 yX5_takeOver yX5_takeOver ∈ BG := bg_t 569 (by decide +kernel) (by decide +kernel)
theorem q570 : Cond.code yX5_takeOver cX5_takeOver 2 none ∈ BG := bg_t 570 (by decide +kernel) (by decide +kernel)
theorem q571 : Cond.methodLink RX5 45 arraycopyName ∈ BG := bg_t 571 (by decide +kernel) (by decide +kernel)
theorem q572 : Cond.static arraycopyName ∈ BG := bg_t 572 (by decide +kernel) (by decide +kernel)
theorem q573 : Cond.native arraycopyName ∈ BG := bg_t 573 (by decide +kernel) (by decide +kernel)
theorem q574 : Cond.methodLink RX1 29 Lib.Math.min.name ∈ BG := bg_t 574 (by decide +kernel) (by decide +kernel)
theorem q575 : Cond.static Lib.Math.min.name ∈ BG := bg_t 575 (by decide +kernel) (by decide +kernel)
theorem q576 : Cond.code Lib.Math.min.name Lib.Math.min.code 2 (some .int) ∈ BG := bg_t 576 (by decide +kernel) (by decide +kernel)
theorem q577 : Cond.methodLink RX8 75 yX8_readAgain ∈ BG := bg_t 577 (by decide +kernel) (by decide +kernel)
theorem q579 : Cond.instanceMethod yX8_readAgain ∈ BG := bg_t 579 (by decide +kernel) (by decide +kernel)
theorem q580 : Cond.code yX8_readAgain cX8_readAgain 1 none ∈ BG := bg_t 580 (by decide +kernel) (by decide +kernel)
theorem q581 : Cond.methodLink RX8 231 yX7_takeSettings ∈ BG := bg_t 581 (by decide +kernel) (by decide +kernel)
theorem q582 : Cond.instanceMethod yX7_takeSettings ∈ BG := bg_t 582 (by decide +kernel) (by decide +kernel)
theorem q583 : Cond.selects RX7 yX7_takeSettings yX7_takeSettings ∈ BG := bg_t 583 (by decide +kernel) (by decide +kernel)
theorem q584 : Cond.code yX7_takeSettings cX7_takeSettings 2 none ∈ BG := bg_t 584 (by decide +kernel) (by decide +kernel)
theorem q585 : Cond.methodLink RX7 44 arraycopyName ∈ BG := bg_t 585 (by decide +kernel) (by decide +kernel)
theorem q586 : Cond.methodLink RX8 236 yX7_look ∈ BG := bg_t 586 (by decide +kernel) (by decide +kernel)
theorem q587 : Cond.instanceMethod yX7_look ∈ BG := bg_t 587 (by decide +kernel) (by decide +kernel)
theorem q588 : Cond.selects RX7 yX7_look yX7_look ∈ BG := bg_t 588 (by decide +kernel) (by decide +kernel)
theorem q589 : Cond.code yX7_look cX7_look 2 none ∈ BG := bg_t 589 (by decide +kernel) (by decide +kernel)
theorem q590 : Cond.methodLink RX7 50 yX4_moveArms ∈ BG := bg_t 590 (by decide +kernel) (by decide +kernel)
theorem q591 : Cond.instanceMethod yX4_moveArms ∈ BG := bg_t 591 (by decide +kernel) (by decide +kernel)
theorem q592 : Cond.selects RX4 yX4_moveArms yX4_moveArms ∈ BG := bg_t 592 (by decide +kernel) (by decide +kernel)
theorem q593 : Cond.code yX4_moveArms cX4_moveArms 6 none ∈ BG := bg_t 593 (by decide +kernel) (by decide +kernel)
theorem q595 : Cond.methodLink RX7 54 yX4_judge ∈ BG := bg_t 595 (by decide +kernel) (by decide +kernel)
theorem q596 : Cond.instanceMethod yX4_judge ∈ BG := bg_t 596 (by decide +kernel) (by decide +kernel)
theorem q597 : Cond.selects RX4 yX4_judge yX4_judge ∈ BG := bg_t 597 (by decide +kernel) (by decide +kernel)
theorem q598 : Cond.code yX4_judge cX4_judge 5 none ∈ BG := bg_t 598 (by decide +kernel) (by decide +kernel)
theorem q599 : Cond.methodLink RX4 43 yX4_isSoonAfterWind ∈ BG := bg_t 599 (by decide +kernel) (by decide +kernel)
theorem q601 : Cond.methodLink RX7 57 yX4_tally ∈ BG := bg_t 601 (by decide +kernel) (by decide +kernel)
theorem q602 : Cond.instanceMethod yX4_tally ∈ BG := bg_t 602 (by decide +kernel) (by decide +kernel)
theorem q603 : Cond.selects RX4 yX4_tally yX4_tally ∈ BG := bg_t 603 (by decide +kernel) (by decide +kernel)
theorem q604 : Cond.code yX4_tally cX4_tally 3 none ∈ BG := bg_t 604 (by decide +kernel) (by decide +kernel)
theorem q605 : Cond.methodLink RX4 60 yX4_isCounted ∈ BG := bg_t 605 (by decide +kernel) (by decide +kernel)
theorem q607 : Cond.methodLink RX7 61 yX0_find ∈ BG := bg_t 607 (by decide +kernel) (by decide +kernel)
theorem q608 : Cond.instanceMethod yX0_find ∈ BG := bg_t 608 (by decide +kernel) (by decide +kernel)
theorem q609 : Cond.selects RX0 yX0_find yX0_find ∈ BG := bg_t 609 (by decide +kernel) (by decide +kernel)
theorem q610 : Cond.code yX0_find cX0_find 7 none ∈ BG := bg_t 610 (by decide +kernel) (by decide +kernel)
theorem q611 : Cond.methodLink RX0 42 yX0_begin ∈ BG := bg_t 611 (by decide +kernel) (by decide +kernel)
theorem q613 : Cond.instanceMethod yX0_begin ∈ BG := bg_t 613 (by decide +kernel) (by decide +kernel)
theorem q614 : Cond.code yX0_begin cX0_begin 2 none ∈ BG := bg_t 614 (by decide +kernel) (by decide +kernel)
theorem q616 : Cond.methodLink RX0 56 yX0_extend ∈ BG := bg_t 616 (by decide +kernel) (by decide +kernel)
theorem q618 : Cond.instanceMethod yX0_extend ∈ BG := bg_t 618 (by decide +kernel) (by decide +kernel)
theorem q619 : Cond.code yX0_extend cX0_extend 5 none ∈ BG := bg_t 619 (by decide +kernel) (by decide +kernel)
theorem q620 : Cond.methodLink RX0 67 Lib.Math.max.name ∈ BG := bg_t 620 (by decide +kernel) (by decide +kernel)
theorem q621 : Cond.static Lib.Math.max.name ∈ BG := bg_t 621 (by decide +kernel) (by decide +kernel)
theorem q622 : Cond.code Lib.Math.max.name Lib.Math.max.code 2 (some .int) ∈ BG := bg_t 622 (by decide +kernel) (by decide +kernel)
theorem q623 : Cond.methodLink RX0 64 yX0_markOwners ∈ BG := bg_t 623 (by decide +kernel) (by decide +kernel)
theorem q625 : Cond.instanceMethod yX0_markOwners ∈ BG := bg_t 625 (by decide +kernel) (by decide +kernel)
theorem q626 : Cond.code yX0_markOwners cX0_markOwners 3 none ∈ BG := bg_t 626 (by decide +kernel) (by decide +kernel)
theorem q627 : Cond.methodLink RX7 65 yX3_match ∈ BG := bg_t 627 (by decide +kernel) (by decide +kernel)
theorem q628 : Cond.instanceMethod yX3_match ∈ BG := bg_t 628 (by decide +kernel) (by decide +kernel)
theorem q629 : Cond.selects RX3 yX3_match yX3_match ∈ BG := bg_t 629 (by decide +kernel) (by decide +kernel)
theorem q630 : Cond.code yX3_match cX3_match 8 none ∈ BG := bg_t 630 (by decide +kernel) (by decide +kernel)
theorem q631 : Cond.methodLink RX3 36 yX3_putInOrder ∈ BG := bg_t 631 (by decide +kernel) (by decide +kernel)
theorem q633 : Cond.instanceMethod yX3_putInOrder ∈ BG := bg_t 633 (by decide +kernel) (by decide +kernel)
theorem q634 : Cond.code yX3_putInOrder cX3_putInOrder 5 none ∈ BG := bg_t 634 (by decide +kernel) (by decide +kernel)
theorem q635 : Cond.methodLink RX3 43 yX3_bestFor ∈ BG := bg_t 635 (by decide +kernel) (by decide +kernel)
theorem q637 : Cond.instanceMethod yX3_bestFor ∈ BG := bg_t 637 (by decide +kernel) (by decide +kernel)
theorem q638 : Cond.code yX3_bestFor cX3_bestFor 8 (some .int) ∈ BG := bg_t 638 (by decide +kernel) (by decide +kernel)
theorem q639 : Cond.methodLink RX8 278 yX2_tally ∈ BG := bg_t 639 (by decide +kernel) (by decide +kernel)
theorem q640 : Cond.instanceMethod yX2_tally ∈ BG := bg_t 640 (by decide +kernel) (by decide +kernel)
theorem q641 : Cond.selects RX2 yX2_tally yX2_tally ∈ BG := bg_t 641 (by decide +kernel) (by decide +kernel)
theorem q642 : Cond.code yX2_tally cX2_tally 3 none ∈ BG := bg_t 642 (by decide +kernel) (by decide +kernel)
theorem q643 : Cond.methodLink RX2 21 yX4_isCounted ∈ BG := bg_t 643 (by decide +kernel) (by decide +kernel)
theorem q644 : Cond.methodLink RX2 28 yX2_highestReached ∈ BG := bg_t 644 (by decide +kernel) (by decide +kernel)
theorem q645 : Cond.static yX2_highestReached ∈ BG := bg_t 645 (by decide +kernel) (by decide +kernel)
theorem q646 : Cond.code yX2_highestReached cX2_highestReached 1 (some .int) ∈ BG := bg_t 646 (by decide +kernel) (by decide +kernel)
theorem q647 : Cond.methodLink RX2 32 Lib.Math.min.name ∈ BG := bg_t 647 (by decide +kernel) (by decide +kernel)
theorem q648 : Cond.methodLink RX2 38 Lib.Math.max.name ∈ BG := bg_t 648 (by decide +kernel) (by decide +kernel)
theorem q657 : Cond.methodLink RX8 78 yX8_isLevel ∈ BG := bg_t 657 (by decide +kernel) (by decide +kernel)
theorem q658 : Cond.static yX8_isLevel ∈ BG := bg_t 658 (by decide +kernel) (by decide +kernel)
theorem q659 : Cond.code yX8_isLevel cX8_isLevel 1 (some .boolean) ∈ BG := bg_t 659 (by decide +kernel) (by decide +kernel)
theorem q660 : Cond.methodLink RX8 81 yX8_isWind ∈ BG := bg_t 660 (by decide +kernel) (by decide +kernel)
theorem q661 : Cond.static yX8_isWind ∈ BG := bg_t 661 (by decide +kernel) (by decide +kernel)
theorem q662 : Cond.code yX8_isWind cX8_isWind 1 (some .boolean) ∈ BG := bg_t 662 (by decide +kernel) (by decide +kernel)
theorem q664 : Cond.classLink RX8 90 "java/lang/IllegalStateException" ∈ BG := bg_t 664 (by decide +kernel) (by decide +kernel)
theorem q680 : Cond.methodLink RX8 95 yX5_addMinutes ∈ BG := bg_t 680 (by decide +kernel) (by decide +kernel)
theorem q681 : Cond.instanceMethod yX5_addMinutes ∈ BG := bg_t 681 (by decide +kernel) (by decide +kernel)
theorem q682 : Cond.selects RX5 yX5_addMinutes yX5_addMinutes ∈ BG := bg_t 682 (by decide +kernel) (by decide +kernel)
theorem q683 : Cond.code yX5_addMinutes cX5_addMinutes 5 none ∈ BG := bg_t 683 (by decide +kernel) (by decide +kernel)
theorem q691 : Cond.methodLink RX8 99 yX5_hasMinute ∈ BG := bg_t 691 (by decide +kernel) (by decide +kernel)
theorem q692 : Cond.instanceMethod yX5_hasMinute ∈ BG := bg_t 692 (by decide +kernel) (by decide +kernel)
theorem q693 : Cond.selects RX5 yX5_hasMinute yX5_hasMinute ∈ BG := bg_t 693 (by decide +kernel) (by decide +kernel)
theorem q694 : Cond.code yX5_hasMinute cX5_hasMinute 2 (some .boolean) ∈ BG := bg_t 694 (by decide +kernel) (by decide +kernel)
theorem q705 : Cond.methodLink RX8 123 yX5_dropMinutes ∈ BG := bg_t 705 (by decide +kernel) (by decide +kernel)
theorem q706 : Cond.instanceMethod yX5_dropMinutes ∈ BG := bg_t 706 (by decide +kernel) (by decide +kernel)
theorem q707 : Cond.selects RX5 yX5_dropMinutes yX5_dropMinutes ∈ BG := bg_t 707 (by decide +kernel) (by decide +kernel)
theorem q708 : Cond.code yX5_dropMinutes cX5_dropMinutes 4 none ∈ BG := bg_t 708 (by decide +kernel) (by decide +kernel)
theorem q709 : Cond.methodLink RX5 39 Lib.Math.max.name ∈ BG := bg_t 709 (by decide +kernel) (by decide +kernel)
theorem q719 : Cond.methodLink RX8 134 yX5_addComplaint ∈ BG := bg_t 719 (by decide +kernel) (by decide +kernel)
theorem q720 : Cond.instanceMethod yX5_addComplaint ∈ BG := bg_t 720 (by decide +kernel) (by decide +kernel)
theorem q721 : Cond.selects RX5 yX5_addComplaint yX5_addComplaint ∈ BG := bg_t 721 (by decide +kernel) (by decide +kernel)
theorem q722 : Cond.code yX5_addComplaint cX5_addComplaint 2 none ∈ BG := bg_t 722 (by decide +kernel) (by decide +kernel)
theorem q730 : Cond.methodLink RX8 137 yX5_hasComplaint ∈ BG := bg_t 730 (by decide +kernel) (by decide +kernel)
theorem q731 : Cond.instanceMethod yX5_hasComplaint ∈ BG := bg_t 731 (by decide +kernel) (by decide +kernel)
theorem q732 : Cond.selects RX5 yX5_hasComplaint yX5_hasComplaint ∈ BG := bg_t 732 (by decide +kernel) (by decide +kernel)
theorem q733 : Cond.code yX5_hasComplaint cX5_hasComplaint 2 (some .boolean) ∈ BG := bg_t 733 (by decide +kernel) (by decide +kernel)
theorem q735 : Cond.methodLink RX8 151 yX5_dropComplaint ∈ BG := bg_t 735 (by decide +kernel) (by decide +kernel)
theorem q736 : Cond.instanceMethod yX5_dropComplaint ∈ BG := bg_t 736 (by decide +kernel) (by decide +kernel)
theorem q737 : Cond.selects RX5 yX5_dropComplaint yX5_dropComplaint ∈ BG := bg_t 737 (by decide +kernel) (by decide +kernel)
theorem q738 : Cond.code yX5_dropComplaint cX5_dropComplaint 3 none ∈ BG := bg_t 738 (by decide +kernel) (by decide +kernel)
theorem q748 : Cond.methodLink RX8 161 yX6_addCode ∈ BG := bg_t 748 (by decide +kernel) (by decide +kernel)
theorem q749 : Cond.instanceMethod yX6_addCode ∈ BG := bg_t 749 (by decide +kernel) (by decide +kernel)
theorem q750 : Cond.selects RX6 yX6_addCode yX6_addCode ∈ BG := bg_t 750 (by decide +kernel) (by decide +kernel)
theorem q751 : Cond.code yX6_addCode cX6_addCode 2 none ∈ BG := bg_t 751 (by decide +kernel) (by decide +kernel)
theorem q759 : Cond.methodLink RX8 168 yX6_isWhole ∈ BG := bg_t 759 (by decide +kernel) (by decide +kernel)
theorem q760 : Cond.instanceMethod yX6_isWhole ∈ BG := bg_t 760 (by decide +kernel) (by decide +kernel)
theorem q761 : Cond.selects RX6 yX6_isWhole yX6_isWhole ∈ BG := bg_t 761 (by decide +kernel) (by decide +kernel)
theorem q762 : Cond.code yX6_isWhole cX6_isWhole 1 (some .boolean) ∈ BG := bg_t 762 (by decide +kernel) (by decide +kernel)
theorem q763 : Cond.methodLink RX6 41 yX6_read ∈ BG := bg_t 763 (by decide +kernel) (by decide +kernel)
theorem q765 : Cond.methodLink RX8 174 yX6_minutesInParts ∈ BG := bg_t 765 (by decide +kernel) (by decide +kernel)
theorem q766 : Cond.instanceMethod yX6_minutesInParts ∈ BG := bg_t 766 (by decide +kernel) (by decide +kernel)
theorem q767 : Cond.selects RX6 yX6_minutesInParts yX6_minutesInParts ∈ BG := bg_t 767 (by decide +kernel) (by decide +kernel)
theorem q768 : Cond.code yX6_minutesInParts cX6_minutesInParts 3 (some .int) ∈ BG := bg_t 768 (by decide +kernel) (by decide +kernel)
theorem q777 : Cond.methodLink RX8 190 yX1_giveBack ∈ BG := bg_t 777 (by decide +kernel) (by decide +kernel)
theorem q778 : Cond.instanceMethod yX1_giveBack ∈ BG := bg_t 778 (by decide +kernel) (by decide +kernel)
theorem q779 : Cond.selects RX1 yX1_giveBack yX1_giveBack ∈ BG := bg_t 779 (by decide +kernel) (by decide +kernel)
theorem q780 : Cond.code yX1_giveBack cX1_giveBack 2 none ∈ BG := bg_t 780 (by decide +kernel) (by decide +kernel)
theorem q863 : Cond.fieldLink RX9 61 "NoisePostModel" "thrown" "I" ∈ BG := bg_t 863 (by decide +kernel) (by decide +kernel)
theorem q864 : Cond.fieldLink RX9 7 "NoisePostModel" "z" "[I" ∈ BG := bg_t 864 (by decide +kernel) (by decide +kernel)
theorem q865 : Cond.fieldLink RX9 112 "NoisePostModel" "saves" "I" ∈ BG := bg_t 865 (by decide +kernel) (by decide +kernel)
theorem q866 : Cond.fieldLink RX9 13 "NoisePostModel" "saved" "[I" ∈ BG := bg_t 866 (by decide +kernel) (by decide +kernel)
theorem q867 : Cond.fieldLink RX9 141 "NoisePostModel" "length" "I" ∈ BG := bg_t 867 (by decide +kernel) (by decide +kernel)
theorem q868 : Cond.fieldLink RX9 16 "NoisePostModel" "text" "[I" ∈ BG := bg_t 868 (by decide +kernel) (by decide +kernel)
theorem q869 : Cond.fieldLink RX9 80 "NoisePostModel" "many" "I" ∈ BG := bg_t 869 (by decide +kernel) (by decide +kernel)
theorem q870 : Cond.fieldLink RX9 19 "NoisePostModel" "level" "[I" ∈ BG := bg_t 870 (by decide +kernel) (by decide +kernel)
theorem q871 : Cond.fieldLink RX9 22 "NoisePostModel" "wind" "[I" ∈ BG := bg_t 871 (by decide +kernel) (by decide +kernel)
theorem q872 : Cond.fieldLink RX9 25 "NoisePostModel" "fast" "[I" ∈ BG := bg_t 872 (by decide +kernel) (by decide +kernel)
theorem q873 : Cond.fieldLink RX9 28 "NoisePostModel" "slow" "[I" ∈ BG := bg_t 873 (by decide +kernel) (by decide +kernel)
theorem q874 : Cond.fieldLink RX9 31 "NoisePostModel" "why" "[I" ∈ BG := bg_t 874 (by decide +kernel) (by decide +kernel)
theorem q875 : Cond.fieldLink RX9 34 "NoisePostModel" "partOf" "[I" ∈ BG := bg_t 875 (by decide +kernel) (by decide +kernel)
theorem q876 : Cond.fieldLink RX9 83 "NoisePostModel" "exceedances" "I" ∈ BG := bg_t 876 (by decide +kernel) (by decide +kernel)
theorem q877 : Cond.fieldLink RX9 37 "NoisePostModel" "first" "[I" ∈ BG := bg_t 877 (by decide +kernel) (by decide +kernel)
theorem q878 : Cond.fieldLink RX9 40 "NoisePostModel" "last" "[I" ∈ BG := bg_t 878 (by decide +kernel) (by decide +kernel)
theorem q879 : Cond.fieldLink RX9 43 "NoisePostModel" "above" "[I" ∈ BG := bg_t 879 (by decide +kernel) (by decide +kernel)
theorem q880 : Cond.fieldLink RX9 46 "NoisePostModel" "peak" "[I" ∈ BG := bg_t 880 (by decide +kernel) (by decide +kernel)
theorem q881 : Cond.fieldLink RX9 49 "NoisePostModel" "weight" "[I" ∈ BG := bg_t 881 (by decide +kernel) (by decide +kernel)
theorem q882 : Cond.fieldLink RX9 86 "NoisePostModel" "goesOn" "Z" ∈ BG := bg_t 882 (by decide +kernel) (by decide +kernel)
theorem q883 : Cond.fieldLink RX9 52 "NoisePostModel" "matched" "[I" ∈ BG := bg_t 883 (by decide +kernel) (by decide +kernel)
theorem q884 : Cond.fieldLink RX9 55 "NoisePostModel" "complaintOf" "[I" ∈ BG := bg_t 884 (by decide +kernel) (by decide +kernel)
theorem q885 : Cond.fieldLink RX9 144 "NoisePostModel" "which" "I" ∈ BG := bg_t 885 (by decide +kernel) (by decide +kernel)
theorem q886 : Cond.fieldLink RX9 147 "NoisePostModel" "digits" "I" ∈ BG := bg_t 886 (by decide +kernel) (by decide +kernel)
theorem q887 : Cond.fieldLink RX9 150 "NoisePostModel" "parts" "I" ∈ BG := bg_t 887 (by decide +kernel) (by decide +kernel)
theorem q888 : Cond.fieldLink RX9 164 "NoisePostModel" "told" "I" ∈ BG := bg_t 888 (by decide +kernel) (by decide +kernel)
theorem q889 : Cond.fieldLink RX9 58 "NoisePostModel" "read" "[I" ∈ BG := bg_t 889 (by decide +kernel) (by decide +kernel)
theorem q890 : Cond.fieldLink RX9 224 "NoisePostModel" "h" "J" ∈ BG := bg_t 890 (by decide +kernel) (by decide +kernel)
theorem q891 : Cond.lays RX9 "NoisePostModel" "thrown" "I" ∈ BG := bg_t 891 (by decide +kernel) (by decide +kernel)
theorem q893 : Cond.laysFinal RX9 "NoisePostModel" "z" "[I" ∈ BG := bg_t 893 (by decide +kernel) (by decide +kernel)
theorem q895 : Cond.lays RX9 "NoisePostModel" "saves" "I" ∈ BG := bg_t 895 (by decide +kernel) (by decide +kernel)
theorem q897 : Cond.laysFinal RX9 "NoisePostModel" "saved" "[I" ∈ BG := bg_t 897 (by decide +kernel) (by decide +kernel)
theorem q899 : Cond.lays RX9 "NoisePostModel" "length" "I" ∈ BG := bg_t 899 (by decide +kernel) (by decide +kernel)
theorem q901 : Cond.laysFinal RX9 "NoisePostModel" "text" "[I" ∈ BG := bg_t 901 (by decide +kernel) (by decide +kernel)
theorem q903 : Cond.lays RX9 "NoisePostModel" "many" "I" ∈ BG := bg_t 903 (by decide +kernel) (by decide +kernel)
theorem q905 : Cond.laysFinal RX9 "NoisePostModel" "level" "[I" ∈ BG := bg_t 905 (by decide +kernel) (by decide +kernel)
theorem q907 : Cond.laysFinal RX9 "NoisePostModel" "wind" "[I" ∈ BG := bg_t 907 (by decide +kernel) (by decide +kernel)
theorem q909 : Cond.laysFinal RX9 "NoisePostModel" "fast" "[I" ∈ BG := bg_t 909 (by decide +kernel) (by decide +kernel)
theorem q911 : Cond.laysFinal RX9 "NoisePostModel" "slow" "[I" ∈ BG := bg_t 911 (by decide +kernel) (by decide +kernel)
theorem q913 : Cond.laysFinal RX9 "NoisePostModel" "why" "[I" ∈ BG := bg_t 913 (by decide +kernel) (by decide +kernel)
theorem q915 : Cond.laysFinal RX9 "NoisePostModel" "partOf" "[I" ∈ BG := bg_t 915 (by decide +kernel) (by decide +kernel)
theorem q917 : Cond.lays RX9 "NoisePostModel" "exceedances" "I" ∈ BG := bg_t 917 (by decide +kernel) (by decide +kernel)
theorem q919 : Cond.laysFinal RX9 "NoisePostModel" "first" "[I" ∈ BG := bg_t 919 (by decide +kernel) (by decide +kernel)
theorem q921 : Cond.laysFinal RX9 "NoisePostModel" "last" "[I" ∈ BG := bg_t 921 (by decide +kernel) (by decide +kernel)
theorem q923 : Cond.laysFinal RX9 "NoisePostModel" "above" "[I" ∈ BG := bg_t 923 (by decide +kernel) (by decide +kernel)
theorem q925 : Cond.laysFinal RX9 "NoisePostModel" "peak" "[I" ∈ BG := bg_t 925 (by decide +kernel) (by decide +kernel)
theorem q927 : Cond.laysFinal RX9 "NoisePostModel" "weight" "[I" ∈ BG := bg_t 927 (by decide +kernel) (by decide +kernel)
theorem q929 : Cond.lays RX9 "NoisePostModel" "goesOn" "Z" ∈ BG := bg_t 929 (by decide +kernel) (by decide +kernel)
theorem q931 : Cond.laysFinal RX9 "NoisePostModel" "matched" "[I" ∈ BG := bg_t 931 (by decide +kernel) (by decide +kernel)
theorem q933 : Cond.laysFinal RX9 "NoisePostModel" "complaintOf" "[I" ∈ BG := bg_t 933 (by decide +kernel) (by decide +kernel)
theorem q935 : Cond.lays RX9 "NoisePostModel" "which" "I" ∈ BG := bg_t 935 (by decide +kernel) (by decide +kernel)
theorem q937 : Cond.lays RX9 "NoisePostModel" "digits" "I" ∈ BG := bg_t 937 (by decide +kernel) (by decide +kernel)
theorem q939 : Cond.lays RX9 "NoisePostModel" "parts" "I" ∈ BG := bg_t 939 (by decide +kernel) (by decide +kernel)
theorem q941 : Cond.lays RX9 "NoisePostModel" "told" "I" ∈ BG := bg_t 941 (by decide +kernel) (by decide +kernel)
theorem q943 : Cond.laysFinal RX9 "NoisePostModel" "read" "[I" ∈ BG := bg_t 943 (by decide +kernel) (by decide +kernel)
theorem q945 : Cond.lays RX9 "NoisePostModel" "h" "J" ∈ BG := bg_t 945 (by decide +kernel) (by decide +kernel)
theorem q960 : Cond.methodLink RX9 115 yX9_isSetting ∈ BG := bg_t 960 (by decide +kernel) (by decide +kernel)
theorem q961 : Cond.static yX9_isSetting ∈ BG := bg_t 961 (by decide +kernel) (by decide +kernel)
theorem q962 : Cond.code yX9_isSetting cX9_isSetting 1 (some .boolean) ∈ BG := bg_t 962 (by decide +kernel) (by decide +kernel)
theorem q963 : Cond.methodLink RX9 65 yX9_within ∈ BG := bg_t 963 (by decide +kernel) (by decide +kernel)
theorem q964 : Cond.static yX9_within ∈ BG := bg_t 964 (by decide +kernel) (by decide +kernel)
theorem q965 : Cond.code yX9_within cX9_within 3 (some .boolean) ∈ BG := bg_t 965 (by decide +kernel) (by decide +kernel)
theorem q966 : Cond.methodLink RX9 118 yX9_isValue ∈ BG := bg_t 966 (by decide +kernel) (by decide +kernel)
theorem q967 : Cond.static yX9_isValue ∈ BG := bg_t 967 (by decide +kernel) (by decide +kernel)
theorem q968 : Cond.code yX9_isValue cX9_isValue 2 (some .boolean) ∈ BG := bg_t 968 (by decide +kernel) (by decide +kernel)
theorem q969 : Cond.methodLink RX9 122 yX9_save ∈ BG := bg_t 969 (by decide +kernel) (by decide +kernel)
theorem q971 : Cond.instanceMethod yX9_save ∈ BG := bg_t 971 (by decide +kernel) (by decide +kernel)
theorem q972 : Cond.code yX9_save cX9_save 2 none ∈ BG := bg_t 972 (by decide +kernel) (by decide +kernel)
theorem q973 : Cond.methodLink RX9 69 yX9_of ∈ BG := bg_t 973 (by decide +kernel) (by decide +kernel)
theorem q975 : Cond.instanceMethod yX9_of ∈ BG := bg_t 975 (by decide +kernel) (by decide +kernel)
theorem q976 : Cond.code yX9_of cX9_of 2 (some .int) ∈ BG := bg_t 976 (by decide +kernel) (by decide +kernel)
theorem q981 : Cond.methodLink RX9 125 yX9_isTold ∈ BG := bg_t 981 (by decide +kernel) (by decide +kernel)
theorem q982 : Cond.static yX9_isTold ∈ BG := bg_t 982 (by decide +kernel) (by decide +kernel)
theorem q983 : Cond.code yX9_isTold cX9_isTold 2 (some .boolean) ∈ BG := bg_t 983 (by decide +kernel) (by decide +kernel)
theorem q984 : Cond.methodLink RX9 128 yX9_bring ∈ BG := bg_t 984 (by decide +kernel) (by decide +kernel)
theorem q986 : Cond.instanceMethod yX9_bring ∈ BG := bg_t 986 (by decide +kernel) (by decide +kernel)
theorem q987 : Cond.code yX9_bring cX9_bring 5 none ∈ BG := bg_t 987 (by decide +kernel) (by decide +kernel)
theorem q992 : Cond.methodLink RX9 132 yX9_isMinute ∈ BG := bg_t 992 (by decide +kernel) (by decide +kernel)
theorem q994 : Cond.instanceMethod yX9_isMinute ∈ BG := bg_t 994 (by decide +kernel) (by decide +kernel)
theorem q995 : Cond.code yX9_isMinute cX9_isMinute 2 (some .boolean) ∈ BG := bg_t 995 (by decide +kernel) (by decide +kernel)
theorem q996 : Cond.methodLink RX9 106 yX9_lay ∈ BG := bg_t 996 (by decide +kernel) (by decide +kernel)
theorem q998 : Cond.instanceMethod yX9_lay ∈ BG := bg_t 998 (by decide +kernel) (by decide +kernel)
theorem q999 : Cond.code yX9_lay cX9_lay 5 none ∈ BG := bg_t 999 (by decide +kernel) (by decide +kernel)
theorem q1000 : Cond.methodLink RX9 97 yX9_layArms ∈ BG := bg_t 1000 (by decide +kernel) (by decide +kernel)
theorem q1002 : Cond.instanceMethod yX9_layArms ∈ BG := bg_t 1002 (by decide +kernel) (by decide +kernel)
theorem q1003 : Cond.code yX9_layArms cX9_layArms 4 none ∈ BG := bg_t 1003 (by decide +kernel) (by decide +kernel)
theorem q1004 : Cond.methodLink RX9 100 yX9_layExceedances ∈ BG := bg_t 1004 (by decide +kernel) (by decide +kernel)
theorem q1006 : Cond.instanceMethod yX9_layExceedances ∈ BG := bg_t 1006 (by decide +kernel) (by decide +kernel)
theorem q1007 : Cond.code yX9_layExceedances cX9_layExceedances 3 none ∈ BG := bg_t 1007 (by decide +kernel) (by decide +kernel)
theorem q1008 : Cond.methodLink RX9 90 yX9_whyNot ∈ BG := bg_t 1008 (by decide +kernel) (by decide +kernel)
theorem q1010 : Cond.instanceMethod yX9_whyNot ∈ BG := bg_t 1010 (by decide +kernel) (by decide +kernel)
theorem q1011 : Cond.code yX9_whyNot cX9_whyNot 3 (some .int) ∈ BG := bg_t 1011 (by decide +kernel) (by decide +kernel)
theorem q1012 : Cond.methodLink RX9 77 yX9_limitOf ∈ BG := bg_t 1012 (by decide +kernel) (by decide +kernel)
theorem q1014 : Cond.instanceMethod yX9_limitOf ∈ BG := bg_t 1014 (by decide +kernel) (by decide +kernel)
theorem q1015 : Cond.code yX9_limitOf cX9_limitOf 2 (some .int) ∈ BG := bg_t 1015 (by decide +kernel) (by decide +kernel)
theorem q1016 : Cond.methodLink RX9 73 yX9_isRest ∈ BG := bg_t 1016 (by decide +kernel) (by decide +kernel)
theorem q1018 : Cond.instanceMethod yX9_isRest ∈ BG := bg_t 1018 (by decide +kernel) (by decide +kernel)
theorem q1019 : Cond.code yX9_isRest cX9_isRest 2 (some .boolean) ∈ BG := bg_t 1019 (by decide +kernel) (by decide +kernel)
theorem q1020 : Cond.methodLink RX9 93 yX9_addMinute ∈ BG := bg_t 1020 (by decide +kernel) (by decide +kernel)
theorem q1022 : Cond.instanceMethod yX9_addMinute ∈ BG := bg_t 1022 (by decide +kernel) (by decide +kernel)
theorem q1023 : Cond.code yX9_addMinute cX9_addMinute 3 none ∈ BG := bg_t 1023 (by decide +kernel) (by decide +kernel)
theorem q1036 : Cond.methodLink RX9 135 yX9_isComplaint ∈ BG := bg_t 1036 (by decide +kernel) (by decide +kernel)
theorem q1038 : Cond.instanceMethod yX9_isComplaint ∈ BG := bg_t 1038 (by decide +kernel) (by decide +kernel)
theorem q1039 : Cond.code yX9_isComplaint cX9_isComplaint 2 (some .boolean) ∈ BG := bg_t 1039 (by decide +kernel) (by decide +kernel)
theorem q1040 : Cond.methodLink RX9 138 yX9_layAll ∈ BG := bg_t 1040 (by decide +kernel) (by decide +kernel)
theorem q1042 : Cond.instanceMethod yX9_layAll ∈ BG := bg_t 1042 (by decide +kernel) (by decide +kernel)
theorem q1043 : Cond.code yX9_layAll cX9_layAll 1 none ∈ BG := bg_t 1043 (by decide +kernel) (by decide +kernel)
theorem q1044 : Cond.methodLink RX9 109 yX9_layMatches ∈ BG := bg_t 1044 (by decide +kernel) (by decide +kernel)
theorem q1046 : Cond.instanceMethod yX9_layMatches ∈ BG := bg_t 1046 (by decide +kernel) (by decide +kernel)
theorem q1047 : Cond.code yX9_layMatches cX9_layMatches 3 none ∈ BG := bg_t 1047 (by decide +kernel) (by decide +kernel)
theorem q1048 : Cond.methodLink RX9 103 yX9_matchFor ∈ BG := bg_t 1048 (by decide +kernel) (by decide +kernel)
theorem q1050 : Cond.instanceMethod yX9_matchFor ∈ BG := bg_t 1050 (by decide +kernel) (by decide +kernel)
theorem q1051 : Cond.code yX9_matchFor cX9_matchFor 5 (some .int) ∈ BG := bg_t 1051 (by decide +kernel) (by decide +kernel)
theorem q1064 : Cond.methodLink RX9 173 yX9_readText ∈ BG := bg_t 1064 (by decide +kernel) (by decide +kernel)
theorem q1066 : Cond.instanceMethod yX9_readText ∈ BG := bg_t 1066 (by decide +kernel) (by decide +kernel)
theorem q1067 : Cond.code yX9_readText cX9_readText 2 (some .int) ∈ BG := bg_t 1067 (by decide +kernel) (by decide +kernel)
theorem q1068 : Cond.methodLink RX9 167 yX9_beginPart ∈ BG := bg_t 1068 (by decide +kernel) (by decide +kernel)
theorem q1070 : Cond.instanceMethod yX9_beginPart ∈ BG := bg_t 1070 (by decide +kernel) (by decide +kernel)
theorem q1071 : Cond.code yX9_beginPart cX9_beginPart 1 none ∈ BG := bg_t 1071 (by decide +kernel) (by decide +kernel)
theorem q1072 : Cond.methodLink RX9 170 yX9_takes ∈ BG := bg_t 1072 (by decide +kernel) (by decide +kernel)
theorem q1074 : Cond.instanceMethod yX9_takes ∈ BG := bg_t 1074 (by decide +kernel) (by decide +kernel)
theorem q1075 : Cond.code yX9_takes cX9_takes 3 (some .boolean) ∈ BG := bg_t 1075 (by decide +kernel) (by decide +kernel)
theorem q1076 : Cond.methodLink RX9 153 yX9_takesDigit ∈ BG := bg_t 1076 (by decide +kernel) (by decide +kernel)
theorem q1078 : Cond.instanceMethod yX9_takesDigit ∈ BG := bg_t 1078 (by decide +kernel) (by decide +kernel)
theorem q1079 : Cond.code yX9_takesDigit cX9_takesDigit 6 (some .boolean) ∈ BG := bg_t 1079 (by decide +kernel) (by decide +kernel)
theorem q1080 : Cond.methodLink RX9 156 yX9_goTo ∈ BG := bg_t 1080 (by decide +kernel) (by decide +kernel)
theorem q1082 : Cond.instanceMethod yX9_goTo ∈ BG := bg_t 1082 (by decide +kernel) (by decide +kernel)
theorem q1083 : Cond.code yX9_goTo cX9_goTo 2 none ∈ BG := bg_t 1083 (by decide +kernel) (by decide +kernel)
theorem q1084 : Cond.methodLink RX9 160 yX9_isPartOver ∈ BG := bg_t 1084 (by decide +kernel) (by decide +kernel)
theorem q1086 : Cond.instanceMethod yX9_isPartOver ∈ BG := bg_t 1086 (by decide +kernel) (by decide +kernel)
theorem q1087 : Cond.code yX9_isPartOver cX9_isPartOver 1 (some .boolean) ∈ BG := bg_t 1087 (by decide +kernel) (by decide +kernel)
theorem q1096 : Cond.methodLink RX9 177 yX9_minuteNow ∈ BG := bg_t 1096 (by decide +kernel) (by decide +kernel)
theorem q1098 : Cond.instanceMethod yX9_minuteNow ∈ BG := bg_t 1098 (by decide +kernel) (by decide +kernel)
theorem q1099 : Cond.code yX9_minuteNow cX9_minuteNow 3 (some .int) ∈ BG := bg_t 1099 (by decide +kernel) (by decide +kernel)
theorem q1104 : Cond.methodLink RX9 181 yX9_exceedanceNow ∈ BG := bg_t 1104 (by decide +kernel) (by decide +kernel)
theorem q1106 : Cond.instanceMethod yX9_exceedanceNow ∈ BG := bg_t 1106 (by decide +kernel) (by decide +kernel)
theorem q1107 : Cond.code yX9_exceedanceNow cX9_exceedanceNow 3 (some .int) ∈ BG := bg_t 1107 (by decide +kernel) (by decide +kernel)
theorem q1116 : Cond.methodLink RX9 184 yX9_countFrom ∈ BG := bg_t 1116 (by decide +kernel) (by decide +kernel)
theorem q1118 : Cond.instanceMethod yX9_countFrom ∈ BG := bg_t 1118 (by decide +kernel) (by decide +kernel)
theorem q1119 : Cond.code yX9_countFrom cX9_countFrom 4 (some .int) ∈ BG := bg_t 1119 (by decide +kernel) (by decide +kernel)
theorem q1124 : Cond.methodLink RX9 187 yX9_percentNow ∈ BG := bg_t 1124 (by decide +kernel) (by decide +kernel)
theorem q1126 : Cond.instanceMethod yX9_percentNow ∈ BG := bg_t 1126 (by decide +kernel) (by decide +kernel)
theorem q1127 : Cond.code yX9_percentNow cX9_percentNow 4 (some .int) ∈ BG := bg_t 1127 (by decide +kernel) (by decide +kernel)
theorem q1132 : Cond.methodLink RX9 205 yX9_counted ∈ BG := bg_t 1132 (by decide +kernel) (by decide +kernel)
theorem q1134 : Cond.instanceMethod yX9_counted ∈ BG := bg_t 1134 (by decide +kernel) (by decide +kernel)
theorem q1135 : Cond.code yX9_counted cX9_counted 2 (some .int) ∈ BG := bg_t 1135 (by decide +kernel) (by decide +kernel)
theorem q1136 : Cond.methodLink RX9 190 yX9_minutesBy ∈ BG := bg_t 1136 (by decide +kernel) (by decide +kernel)
theorem q1138 : Cond.instanceMethod yX9_minutesBy ∈ BG := bg_t 1138 (by decide +kernel) (by decide +kernel)
theorem q1139 : Cond.code yX9_minutesBy cX9_minutesBy 5 (some .int) ∈ BG := bg_t 1139 (by decide +kernel) (by decide +kernel)
theorem q1140 : Cond.methodLink RX9 193 yX9_restMany ∈ BG := bg_t 1140 (by decide +kernel) (by decide +kernel)
theorem q1142 : Cond.instanceMethod yX9_restMany ∈ BG := bg_t 1142 (by decide +kernel) (by decide +kernel)
theorem q1143 : Cond.code yX9_restMany cX9_restMany 3 (some .int) ∈ BG := bg_t 1143 (by decide +kernel) (by decide +kernel)
theorem q1144 : Cond.methodLink RX9 196 yX9_matchedMany ∈ BG := bg_t 1144 (by decide +kernel) (by decide +kernel)
theorem q1146 : Cond.instanceMethod yX9_matchedMany ∈ BG := bg_t 1146 (by decide +kernel) (by decide +kernel)
theorem q1147 : Cond.code yX9_matchedMany cX9_matchedMany 3 (some .int) ∈ BG := bg_t 1147 (by decide +kernel) (by decide +kernel)
theorem q1148 : Cond.methodLink RX9 199 yX9_weights ∈ BG := bg_t 1148 (by decide +kernel) (by decide +kernel)
theorem q1150 : Cond.instanceMethod yX9_weights ∈ BG := bg_t 1150 (by decide +kernel) (by decide +kernel)
theorem q1151 : Cond.code yX9_weights cX9_weights 3 (some .int) ∈ BG := bg_t 1151 (by decide +kernel) (by decide +kernel)
theorem q1152 : Cond.methodLink RX9 202 yX9_heaviest ∈ BG := bg_t 1152 (by decide +kernel) (by decide +kernel)
theorem q1154 : Cond.instanceMethod yX9_heaviest ∈ BG := bg_t 1154 (by decide +kernel) (by decide +kernel)
theorem q1155 : Cond.code yX9_heaviest cX9_heaviest 3 (some .int) ∈ BG := bg_t 1155 (by decide +kernel) (by decide +kernel)
theorem q1164 : Cond.methodLink RX9 208 yX9_withSetting ∈ BG := bg_t 1164 (by decide +kernel) (by decide +kernel)
theorem q1166 : Cond.instanceMethod yX9_withSetting ∈ BG := bg_t 1166 (by decide +kernel) (by decide +kernel)
theorem q1167 : Cond.code yX9_withSetting cX9_withSetting 6 (some .int) ∈ BG := bg_t 1167 (by decide +kernel) (by decide +kernel)
theorem q1172 : Cond.methodLink RX9 212 yX9_leastNow ∈ BG := bg_t 1172 (by decide +kernel) (by decide +kernel)
theorem q1174 : Cond.instanceMethod yX9_leastNow ∈ BG := bg_t 1174 (by decide +kernel) (by decide +kernel)
theorem q1175 : Cond.code yX9_leastNow cX9_leastNow 5 (some .int) ∈ BG := bg_t 1175 (by decide +kernel) (by decide +kernel)
theorem q1180 : Cond.methodLink RX9 215 yX9_aboveNow ∈ BG := bg_t 1180 (by decide +kernel) (by decide +kernel)
theorem q1182 : Cond.instanceMethod yX9_aboveNow ∈ BG := bg_t 1182 (by decide +kernel) (by decide +kernel)
theorem q1183 : Cond.code yX9_aboveNow cX9_aboveNow 3 (some .int) ∈ BG := bg_t 1183 (by decide +kernel) (by decide +kernel)
theorem q1188 : Cond.methodLink RX9 218 yX9_shareNow ∈ BG := bg_t 1188 (by decide +kernel) (by decide +kernel)
theorem q1190 : Cond.instanceMethod yX9_shareNow ∈ BG := bg_t 1190 (by decide +kernel) (by decide +kernel)
theorem q1191 : Cond.code yX9_shareNow cX9_shareNow 2 (some .double) ∈ BG := bg_t 1191 (by decide +kernel) (by decide +kernel)
theorem q1196 : Cond.constantLong RX9 232 (2161) ∈ BG := bg_t 1196 (by decide +kernel) (by decide +kernel)
theorem q1197 : Cond.methodLink RX9 234 yX9_mixAll ∈ BG := bg_t 1197 (by decide +kernel) (by decide +kernel)
theorem q1199 : Cond.instanceMethod yX9_mixAll ∈ BG := bg_t 1199 (by decide +kernel) (by decide +kernel)
theorem q1200 : Cond.code yX9_mixAll cX9_mixAll 2 none ∈ BG := bg_t 1200 (by decide +kernel) (by decide +kernel)
theorem q1201 : Cond.methodLink RX9 228 yX9_mix ∈ BG := bg_t 1201 (by decide +kernel) (by decide +kernel)
theorem q1203 : Cond.instanceMethod yX9_mix ∈ BG := bg_t 1203 (by decide +kernel) (by decide +kernel)
theorem q1204 : Cond.code yX9_mix cX9_mix 3 none ∈ BG := bg_t 1204 (by decide +kernel) (by decide +kernel)
theorem q1205 : Cond.constantLong RX9 222 (31) ∈ BG := bg_t 1205 (by decide +kernel) (by decide +kernel)
theorem q1206 : Cond.methodLink RX9 237 yJxe99ae_doubleToLongBits_ccdee ∈ BG := bg_t 1206 (by decide +kernel) (by decide +kernel)
theorem q1207 : Cond.static yJxe99ae_doubleToLongBits_ccdee ∈ BG := bg_t 1207 (by decide +kernel) (by decide +kernel)
theorem q1208 : Cond.code yJxe99ae_doubleToLongBits_ccdee cJxe99ae_doubleToLongBits_ccdee 2 (some .long) ∈ BG := bg_t 1208 (by decide +kernel) (by decide +kernel)
theorem q1209 : Cond.methodLink RJxe99ae 122 yJxe99ae_isNaN_b9ae7 ∈ BG := bg_t 1209 (by decide +kernel) (by decide +kernel)
theorem q1210 : Cond.static yJxe99ae_isNaN_b9ae7 ∈ BG := bg_t 1210 (by decide +kernel) (by decide +kernel)
theorem q1211 : Cond.code yJxe99ae_isNaN_b9ae7 cJxe99ae_isNaN_b9ae7 2 (some .boolean) ∈ BG := bg_t 1211 (by decide +kernel) (by decide +kernel)
theorem q1212 : Cond.methodLink RJxe99ae 134 ⟨"java/lang/Double", "doubleToRawLongBits", "(D)J"⟩ ∈ BG := bg_t 1212 (by decide +kernel) (by decide +kernel)
theorem q1213 : Cond.static ⟨"java/lang/Double", "doubleToRawLongBits", "(D)J"⟩ ∈ BG := bg_t 1213 (by decide +kernel) (by decide +kernel)
theorem q1214 : Cond.native ⟨"java/lang/Double", "doubleToRawLongBits", "(D)J"⟩ ∈ BG := bg_t 1214 (by decide +kernel) (by decide +kernel)
theorem q1215 : Cond.constantLong RJxe99ae 137 (9221120237041090560) ∈ BG := bg_t 1215 (by decide +kernel) (by decide +kernel)
theorem iX0 : ∀ x ∈ u_ws RX0 TX0 8, x ∈ BG := by
  intro x hx
  obtain ⟨k, hk, rfl⟩ := List.mem_map.mp hx
  have hk := List.mem_range.mp hk
  rcases (show k = 0 ∨ k = 1 ∨ k = 2 ∨ k = 3 ∨ k = 4 ∨ k = 5 ∨ k = 6 ∨ k = 7 by omega) with rfl | rfl | rfl | rfl | rfl | rfl | rfl | rfl
  · exact q213
  · exact q215
  · exact q217
  · exact q219
  · exact q221
  · exact q223
  · exact q225
  · exact q227
theorem iX1 : ∀ x ∈ u_ws RX1 TX1 3, x ∈ BG := by
  intro x hx
  obtain ⟨k, hk, rfl⟩ := List.mem_map.mp hx
  have hk := List.mem_range.mp hk
  rcases (show k = 0 ∨ k = 1 ∨ k = 2 by omega) with rfl | rfl | rfl
  · exact q87
  · exact q89
  · exact q91
theorem iX2 : ∀ x ∈ u_ws RX2 TX2 1, x ∈ BG := by
  intro x hx
  obtain ⟨k, hk, rfl⟩ := List.mem_map.mp hx
  have hk := List.mem_range.mp hk
  rcases (show k = 0 by omega) with rfl
  · exact q281
theorem iX3 : ∀ x ∈ u_ws RX3 TX3 5, x ∈ BG := by
  intro x hx
  obtain ⟨k, hk, rfl⟩ := List.mem_map.mp hx
  have hk := List.mem_range.mp hk
  rcases (show k = 0 ∨ k = 1 ∨ k = 2 ∨ k = 3 ∨ k = 4 by omega) with rfl | rfl | rfl | rfl | rfl
  · exact q245
  · exact q247
  · exact q249
  · exact q251
  · exact q253
theorem iX4 : ∀ x ∈ u_ws RX4 TX4 8, x ∈ BG := by
  intro x hx
  obtain ⟨k, hk, rfl⟩ := List.mem_map.mp hx
  have hk := List.mem_range.mp hk
  rcases (show k = 0 ∨ k = 1 ∨ k = 2 ∨ k = 3 ∨ k = 4 ∨ k = 5 ∨ k = 6 ∨ k = 7 by omega) with rfl | rfl | rfl | rfl | rfl | rfl | rfl | rfl
  · exact q169
  · exact q171
  · exact q173
  · exact q175
  · exact q177
  · exact q179
  · exact q181
  · exact q183
theorem iX5 : ∀ x ∈ u_ws RX5 TX5 6, x ∈ BG := by
  intro x hx
  obtain ⟨k, hk, rfl⟩ := List.mem_map.mp hx
  have hk := List.mem_range.mp hk
  rcases (show k = 0 ∨ k = 1 ∨ k = 2 ∨ k = 3 ∨ k = 4 ∨ k = 5 by omega) with rfl | rfl | rfl | rfl | rfl | rfl
  · exact q60
  · exact q62
  · exact q64
  · exact q66
  · exact q68
  · exact q70
theorem iX6 : ∀ x ∈ u_ws RX6 TX6 8, x ∈ BG := by
  intro x hx
  obtain ⟨k, hk, rfl⟩ := List.mem_map.mp hx
  have hk := List.mem_range.mp hk
  rcases (show k = 0 ∨ k = 1 ∨ k = 2 ∨ k = 3 ∨ k = 4 ∨ k = 5 ∨ k = 6 ∨ k = 7 by omega) with rfl | rfl | rfl | rfl | rfl | rfl | rfl | rfl
  · exact q114
  · exact q116
  · exact q118
  · exact q120
  · exact q122
  · exact q124
  · exact q126
  · exact q128
theorem iX7 : ∀ x ∈ u_ws RX7 TX7 4, x ∈ BG := by
  intro x hx
  obtain ⟨k, hk, rfl⟩ := List.mem_map.mp hx
  have hk := List.mem_range.mp hk
  rcases (show k = 0 ∨ k = 1 ∨ k = 2 ∨ k = 3 by omega) with rfl | rfl | rfl | rfl
  · exact q264
  · exact q266
  · exact q268
  · exact q270
theorem iX8 : ∀ x ∈ u_ws RX8 TX8 6, x ∈ BG := by
  intro x hx
  obtain ⟨k, hk, rfl⟩ := List.mem_map.mp hx
  have hk := List.mem_range.mp hk
  rcases (show k = 0 ∨ k = 1 ∨ k = 2 ∨ k = 3 ∨ k = 4 ∨ k = 5 by omega) with rfl | rfl | rfl | rfl | rfl | rfl
  · exact q290
  · exact q292
  · exact q294
  · exact q296
  · exact q298
  · exact q300
theorem iX9 : ∀ x ∈ u_ws RX9 TX9 28, x ∈ BG := by
  intro x hx
  obtain ⟨k, hk, rfl⟩ := List.mem_map.mp hx
  have hk := List.mem_range.mp hk
  rcases (show k = 0 ∨ k = 1 ∨ k = 2 ∨ k = 3 ∨ k = 4 ∨ k = 5 ∨ k = 6 ∨ k = 7 ∨ k = 8 ∨ k = 9 ∨ k = 10 ∨ k = 11 ∨ k = 12 ∨ k = 13 ∨ k = 14 ∨ k = 15 ∨ k = 16 ∨ k = 17 ∨ k = 18 ∨ k = 19 ∨ k = 20 ∨ k = 21 ∨ k = 22 ∨ k = 23 ∨ k = 24 ∨ k = 25 ∨ k = 26 ∨ k = 27 by omega) with rfl | rfl | rfl | rfl | rfl | rfl | rfl | rfl | rfl | rfl | rfl | rfl | rfl | rfl | rfl | rfl | rfl | rfl | rfl | rfl | rfl | rfl | rfl | rfl | rfl | rfl | rfl | rfl
  · exact q891
  · exact q893
  · exact q895
  · exact q897
  · exact q899
  · exact q901
  · exact q903
  · exact q905
  · exact q907
  · exact q909
  · exact q911
  · exact q913
  · exact q915
  · exact q917
  · exact q919
  · exact q921
  · exact q923
  · exact q925
  · exact q927
  · exact q929
  · exact q931
  · exact q933
  · exact q935
  · exact q937
  · exact q939
  · exact q941
  · exact q943
  · exact q945
theorem nw0 : Cond.methodLinkNest RX8 25 yX6_init RX8 ∈ NWL := List.mem_of_getElem? (i := 0) rfl
theorem nw1 : Cond.methodLinkNest RX8 32 yX7_init RX8 ∈ NWL := List.mem_of_getElem? (i := 1) rfl
theorem nw2 : Cond.methodLinkNest RX8 42 yX2_init RX8 ∈ NWL := List.mem_of_getElem? (i := 2) rfl
theorem nw3 : Cond.methodLinkNest RX8 9 yX5_init RX8 ∈ NWL := List.mem_of_getElem? (i := 3) rfl
theorem nw4 : Cond.methodLinkNest RX0 49 yX8_limitAt RX8 ∈ NWL := List.mem_of_getElem? (i := 4) rfl
theorem nw5 : Cond.methodLinkNest RX1 17 yX5_init RX8 ∈ NWL := List.mem_of_getElem? (i := 5) rfl
theorem nw6 : Cond.methodLinkNest RX4 36 yX8_moved RX8 ∈ NWL := List.mem_of_getElem? (i := 6) rfl
theorem nw7 : Cond.methodLinkNest RX4 47 yX8_limitAt RX8 ∈ NWL := List.mem_of_getElem? (i := 7) rfl
theorem nw8 : Cond.methodLinkNest RX4 64 yX8_isRest RX8 ∈ NWL := List.mem_of_getElem? (i := 8) rfl
theorem nw9 : Cond.methodLinkNest RX7 114 yX8_isRest RX8 ∈ NWL := List.mem_of_getElem? (i := 9) rfl
theorem nw10 : Cond.methodLinkNest RX7 124 yX8_moved RX8 ∈ NWL := List.mem_of_getElem? (i := 10) rfl
theorem nw11 : Cond.methodLinkNest RX7 131 yX8_limitAt RX8 ∈ NWL := List.mem_of_getElem? (i := 11) rfl
theorem nw12 : Cond.methodLinkNest RX7 25 yX4_init RX8 ∈ NWL := List.mem_of_getElem? (i := 12) rfl
theorem nw13 : Cond.methodLinkNest RX7 32 yX0_init RX8 ∈ NWL := List.mem_of_getElem? (i := 13) rfl
theorem nw14 : Cond.methodLinkNest RX7 39 yX3_init RX8 ∈ NWL := List.mem_of_getElem? (i := 14) rfl
theorem nw15 : Cond.fieldLinkNest RX5 18 RX8 (SNm 2) "[I" RX8 ∈ NWL := List.mem_of_getElem? (i := 15) rfl
theorem nw16 : Cond.fieldLinkNest RX6 62 RX8 (SNm 3) "[I" RX8 ∈ NWL := List.mem_of_getElem? (i := 16) rfl
theorem nw17 : Cond.fieldLinkNest RX6 65 RX8 (SNm 4) "[I" RX8 ∈ NWL := List.mem_of_getElem? (i := 17) rfl
theorem nw18 : Cond.fieldLinkNest RX7 9 RX8 (SNm 2) "[I" RX8 ∈ NWL := List.mem_of_getElem? (i := 18) rfl
theorem hd_X0_begin : yX0_begin.cls = RX0 ∧ yX0_begin.cls ≠ "java/lang/invoke/MethodHandle" ∧ yX0_begin.cls ≠ "java/lang/invoke/VarHandle" ∧ (parseMethodDescriptor yX0_begin.desc).map (fun d => d.parameters.length) = some 1 := by decide +kernel
theorem hd_J9_floorMod_7cf53 : yJ9_floorMod_7cf53.cls ≠ "java/lang/invoke/MethodHandle" ∧ yJ9_floorMod_7cf53.cls ≠ "java/lang/invoke/VarHandle" ∧ (parseMethodDescriptor yJ9_floorMod_7cf53.desc).map (fun d => d.parameters.length) = some 2 := by decide +kernel
theorem hd_X8_isRest : yX8_isRest.cls ≠ "java/lang/invoke/MethodHandle" ∧ yX8_isRest.cls ≠ "java/lang/invoke/VarHandle" ∧ (parseMethodDescriptor yX8_isRest.desc).map (fun d => d.parameters.length) = some 2 := by decide +kernel
theorem hd_X8_limitAt : yX8_limitAt.cls ≠ "java/lang/invoke/MethodHandle" ∧ yX8_limitAt.cls ≠ "java/lang/invoke/VarHandle" ∧ (parseMethodDescriptor yX8_limitAt.desc).map (fun d => d.parameters.length) = some 2 := by decide +kernel
theorem hd_X0_extend : yX0_extend.cls = RX0 ∧ yX0_extend.cls ≠ "java/lang/invoke/MethodHandle" ∧ yX0_extend.cls ≠ "java/lang/invoke/VarHandle" ∧ (parseMethodDescriptor yX0_extend.desc).map (fun d => d.parameters.length) = some 3 := by decide +kernel
theorem hd_X0_markOwners : yX0_markOwners.cls = RX0 ∧ yX0_markOwners.cls ≠ "java/lang/invoke/MethodHandle" ∧ yX0_markOwners.cls ≠ "java/lang/invoke/VarHandle" ∧ (parseMethodDescriptor yX0_markOwners.desc).map (fun d => d.parameters.length) = some 0 := by decide +kernel
theorem hd_X0_find : yX0_find.cls = RX0 ∧ yX0_find.cls ≠ "java/lang/invoke/MethodHandle" ∧ yX0_find.cls ≠ "java/lang/invoke/VarHandle" ∧ (parseMethodDescriptor yX0_find.desc).map (fun d => d.parameters.length) = some 2 := by decide +kernel
theorem hd_X0_weightOfAll : yX0_weightOfAll.cls = RX0 ∧ yX0_weightOfAll.cls ≠ "java/lang/invoke/MethodHandle" ∧ yX0_weightOfAll.cls ≠ "java/lang/invoke/VarHandle" ∧ (parseMethodDescriptor yX0_weightOfAll.desc).map (fun d => d.parameters.length) = some 0 := by decide +kernel
theorem hd_X0_heaviest : yX0_heaviest.cls = RX0 ∧ yX0_heaviest.cls ≠ "java/lang/invoke/MethodHandle" ∧ yX0_heaviest.cls ≠ "java/lang/invoke/VarHandle" ∧ (parseMethodDescriptor yX0_heaviest.desc).map (fun d => d.parameters.length) = some 0 := by decide +kernel
theorem hd_X5_takeOver : yX5_takeOver.cls = RX5 ∧ yX5_takeOver.cls ≠ "java/lang/invoke/MethodHandle" ∧ yX5_takeOver.cls ≠ "java/lang/invoke/VarHandle" ∧ (parseMethodDescriptor yX5_takeOver.desc).map (fun d => d.parameters.length) = some 1 := by decide +kernel
theorem hd_X1_keep : yX1_keep.cls = RX1 ∧ yX1_keep.cls ≠ "java/lang/invoke/MethodHandle" ∧ yX1_keep.cls ≠ "java/lang/invoke/VarHandle" ∧ (parseMethodDescriptor yX1_keep.desc).map (fun d => d.parameters.length) = some 1 := by decide +kernel
theorem hd_X1_giveBack : yX1_giveBack.cls = RX1 ∧ yX1_giveBack.cls ≠ "java/lang/invoke/MethodHandle" ∧ yX1_giveBack.cls ≠ "java/lang/invoke/VarHandle" ∧ (parseMethodDescriptor yX1_giveBack.desc).map (fun d => d.parameters.length) = some 1 := by decide +kernel
theorem hd_X4_isCounted : yX4_isCounted.cls = RX4 ∧ yX4_isCounted.cls ≠ "java/lang/invoke/MethodHandle" ∧ yX4_isCounted.cls ≠ "java/lang/invoke/VarHandle" ∧ (parseMethodDescriptor yX4_isCounted.desc).map (fun d => d.parameters.length) = some 1 := by decide +kernel
theorem hd_X2_highestReached : yX2_highestReached.cls ≠ "java/lang/invoke/MethodHandle" ∧ yX2_highestReached.cls ≠ "java/lang/invoke/VarHandle" ∧ (parseMethodDescriptor yX2_highestReached.desc).map (fun d => d.parameters.length) = some 1 := by decide +kernel
theorem hd_X2_tally : yX2_tally.cls = RX2 ∧ yX2_tally.cls ≠ "java/lang/invoke/MethodHandle" ∧ yX2_tally.cls ≠ "java/lang/invoke/VarHandle" ∧ (parseMethodDescriptor yX2_tally.desc).map (fun d => d.parameters.length) = some 1 := by decide +kernel
theorem hd_X2_levelOfPercent : yX2_levelOfPercent.cls = RX2 ∧ yX2_levelOfPercent.cls ≠ "java/lang/invoke/MethodHandle" ∧ yX2_levelOfPercent.cls ≠ "java/lang/invoke/VarHandle" ∧ (parseMethodDescriptor yX2_levelOfPercent.desc).map (fun d => d.parameters.length) = some 2 := by decide +kernel
theorem hd_X3_putInOrder : yX3_putInOrder.cls = RX3 ∧ yX3_putInOrder.cls ≠ "java/lang/invoke/MethodHandle" ∧ yX3_putInOrder.cls ≠ "java/lang/invoke/VarHandle" ∧ (parseMethodDescriptor yX3_putInOrder.desc).map (fun d => d.parameters.length) = some 1 := by decide +kernel
theorem hd_X3_bestFor : yX3_bestFor.cls = RX3 ∧ yX3_bestFor.cls ≠ "java/lang/invoke/MethodHandle" ∧ yX3_bestFor.cls ≠ "java/lang/invoke/VarHandle" ∧ (parseMethodDescriptor yX3_bestFor.desc).map (fun d => d.parameters.length) = some 3 := by decide +kernel
theorem hd_X3_match : yX3_match.cls = RX3 ∧ yX3_match.cls ≠ "java/lang/invoke/MethodHandle" ∧ yX3_match.cls ≠ "java/lang/invoke/VarHandle" ∧ (parseMethodDescriptor yX3_match.desc).map (fun d => d.parameters.length) = some 3 := by decide +kernel
theorem hd_X8_moved : yX8_moved.cls ≠ "java/lang/invoke/MethodHandle" ∧ yX8_moved.cls ≠ "java/lang/invoke/VarHandle" ∧ (parseMethodDescriptor yX8_moved.desc).map (fun d => d.parameters.length) = some 3 := by decide +kernel
theorem hd_X4_moveArms : yX4_moveArms.cls = RX4 ∧ yX4_moveArms.cls ≠ "java/lang/invoke/MethodHandle" ∧ yX4_moveArms.cls ≠ "java/lang/invoke/VarHandle" ∧ (parseMethodDescriptor yX4_moveArms.desc).map (fun d => d.parameters.length) = some 2 := by decide +kernel
theorem hd_X4_isSoonAfterWind : yX4_isSoonAfterWind.cls = RX4 ∧ yX4_isSoonAfterWind.cls ≠ "java/lang/invoke/MethodHandle" ∧ yX4_isSoonAfterWind.cls ≠ "java/lang/invoke/VarHandle" ∧ (parseMethodDescriptor yX4_isSoonAfterWind.desc).map (fun d => d.parameters.length) = some 2 := by decide +kernel
theorem hd_X4_judge : yX4_judge.cls = RX4 ∧ yX4_judge.cls ≠ "java/lang/invoke/MethodHandle" ∧ yX4_judge.cls ≠ "java/lang/invoke/VarHandle" ∧ (parseMethodDescriptor yX4_judge.desc).map (fun d => d.parameters.length) = some 2 := by decide +kernel
theorem hd_X4_tally : yX4_tally.cls = RX4 ∧ yX4_tally.cls ≠ "java/lang/invoke/MethodHandle" ∧ yX4_tally.cls ≠ "java/lang/invoke/VarHandle" ∧ (parseMethodDescriptor yX4_tally.desc).map (fun d => d.parameters.length) = some 1 := by decide +kernel
theorem hd_X4_lastSlowPlace : yX4_lastSlowPlace.cls = RX4 ∧ yX4_lastSlowPlace.cls ≠ "java/lang/invoke/MethodHandle" ∧ yX4_lastSlowPlace.cls ≠ "java/lang/invoke/VarHandle" ∧ (parseMethodDescriptor yX4_lastSlowPlace.desc).map (fun d => d.parameters.length) = some 0 := by decide +kernel
theorem hd_X4_shareAbove : yX4_shareAbove.cls = RX4 ∧ yX4_shareAbove.cls ≠ "java/lang/invoke/MethodHandle" ∧ yX4_shareAbove.cls ≠ "java/lang/invoke/VarHandle" ∧ (parseMethodDescriptor yX4_shareAbove.desc).map (fun d => d.parameters.length) = some 0 := by decide +kernel
theorem hd_X5_hasMinute : yX5_hasMinute.cls = RX5 ∧ yX5_hasMinute.cls ≠ "java/lang/invoke/MethodHandle" ∧ yX5_hasMinute.cls ≠ "java/lang/invoke/VarHandle" ∧ (parseMethodDescriptor yX5_hasMinute.desc).map (fun d => d.parameters.length) = some 1 := by decide +kernel
theorem hd_X5_hasComplaint : yX5_hasComplaint.cls = RX5 ∧ yX5_hasComplaint.cls ≠ "java/lang/invoke/MethodHandle" ∧ yX5_hasComplaint.cls ≠ "java/lang/invoke/VarHandle" ∧ (parseMethodDescriptor yX5_hasComplaint.desc).map (fun d => d.parameters.length) = some 1 := by decide +kernel
theorem hd_X5_addMinutes : yX5_addMinutes.cls = RX5 ∧ yX5_addMinutes.cls ≠ "java/lang/invoke/MethodHandle" ∧ yX5_addMinutes.cls ≠ "java/lang/invoke/VarHandle" ∧ (parseMethodDescriptor yX5_addMinutes.desc).map (fun d => d.parameters.length) = some 3 := by decide +kernel
theorem hd_X5_dropMinutes : yX5_dropMinutes.cls = RX5 ∧ yX5_dropMinutes.cls ≠ "java/lang/invoke/MethodHandle" ∧ yX5_dropMinutes.cls ≠ "java/lang/invoke/VarHandle" ∧ (parseMethodDescriptor yX5_dropMinutes.desc).map (fun d => d.parameters.length) = some 1 := by decide +kernel
theorem hd_X5_addComplaint : yX5_addComplaint.cls = RX5 ∧ yX5_addComplaint.cls ≠ "java/lang/invoke/MethodHandle" ∧ yX5_addComplaint.cls ≠ "java/lang/invoke/VarHandle" ∧ (parseMethodDescriptor yX5_addComplaint.desc).map (fun d => d.parameters.length) = some 1 := by decide +kernel
theorem hd_X5_dropComplaint : yX5_dropComplaint.cls = RX5 ∧ yX5_dropComplaint.cls ≠ "java/lang/invoke/MethodHandle" ∧ yX5_dropComplaint.cls ≠ "java/lang/invoke/VarHandle" ∧ (parseMethodDescriptor yX5_dropComplaint.desc).map (fun d => d.parameters.length) = some 1 := by decide +kernel
theorem hd_X6_addCode : yX6_addCode.cls = RX6 ∧ yX6_addCode.cls ≠ "java/lang/invoke/MethodHandle" ∧ yX6_addCode.cls ≠ "java/lang/invoke/VarHandle" ∧ (parseMethodDescriptor yX6_addCode.desc).map (fun d => d.parameters.length) = some 1 := by decide +kernel
theorem hd_X6_beginNumber : yX6_beginNumber.cls = RX6 ∧ yX6_beginNumber.cls ≠ "java/lang/invoke/MethodHandle" ∧ yX6_beginNumber.cls ≠ "java/lang/invoke/VarHandle" ∧ (parseMethodDescriptor yX6_beginNumber.desc).map (fun d => d.parameters.length) = some 1 := by decide +kernel
theorem hd_X6_beginPart : yX6_beginPart.cls = RX6 ∧ yX6_beginPart.cls ≠ "java/lang/invoke/MethodHandle" ∧ yX6_beginPart.cls ≠ "java/lang/invoke/VarHandle" ∧ (parseMethodDescriptor yX6_beginPart.desc).map (fun d => d.parameters.length) = some 0 := by decide +kernel
theorem hd_X6_takesDigit : yX6_takesDigit.cls = RX6 ∧ yX6_takesDigit.cls ≠ "java/lang/invoke/MethodHandle" ∧ yX6_takesDigit.cls ≠ "java/lang/invoke/VarHandle" ∧ (parseMethodDescriptor yX6_takesDigit.desc).map (fun d => d.parameters.length) = some 1 := by decide +kernel
theorem hd_X6_numberIsWhole : yX6_numberIsWhole.cls = RX6 ∧ yX6_numberIsWhole.cls ≠ "java/lang/invoke/MethodHandle" ∧ yX6_numberIsWhole.cls ≠ "java/lang/invoke/VarHandle" ∧ (parseMethodDescriptor yX6_numberIsWhole.desc).map (fun d => d.parameters.length) = some 0 := by decide +kernel
theorem hd_X6_endPart : yX6_endPart.cls = RX6 ∧ yX6_endPart.cls ≠ "java/lang/invoke/MethodHandle" ∧ yX6_endPart.cls ≠ "java/lang/invoke/VarHandle" ∧ (parseMethodDescriptor yX6_endPart.desc).map (fun d => d.parameters.length) = some 0 := by decide +kernel
theorem hd_X6_takes : yX6_takes.cls = RX6 ∧ yX6_takes.cls ≠ "java/lang/invoke/MethodHandle" ∧ yX6_takes.cls ≠ "java/lang/invoke/VarHandle" ∧ (parseMethodDescriptor yX6_takes.desc).map (fun d => d.parameters.length) = some 1 := by decide +kernel
theorem hd_X6_read : yX6_read.cls = RX6 ∧ yX6_read.cls ≠ "java/lang/invoke/MethodHandle" ∧ yX6_read.cls ≠ "java/lang/invoke/VarHandle" ∧ (parseMethodDescriptor yX6_read.desc).map (fun d => d.parameters.length) = some 0 := by decide +kernel
theorem hd_X6_isWhole : yX6_isWhole.cls = RX6 ∧ yX6_isWhole.cls ≠ "java/lang/invoke/MethodHandle" ∧ yX6_isWhole.cls ≠ "java/lang/invoke/VarHandle" ∧ (parseMethodDescriptor yX6_isWhole.desc).map (fun d => d.parameters.length) = some 0 := by decide +kernel
theorem hd_X6_minutesInParts : yX6_minutesInParts.cls = RX6 ∧ yX6_minutesInParts.cls ≠ "java/lang/invoke/MethodHandle" ∧ yX6_minutesInParts.cls ≠ "java/lang/invoke/VarHandle" ∧ (parseMethodDescriptor yX6_minutesInParts.desc).map (fun d => d.parameters.length) = some 0 := by decide +kernel
theorem hd_X7_takeSettings : yX7_takeSettings.cls = RX7 ∧ yX7_takeSettings.cls ≠ "java/lang/invoke/MethodHandle" ∧ yX7_takeSettings.cls ≠ "java/lang/invoke/VarHandle" ∧ (parseMethodDescriptor yX7_takeSettings.desc).map (fun d => d.parameters.length) = some 1 := by decide +kernel
theorem hd_X7_look : yX7_look.cls = RX7 ∧ yX7_look.cls ≠ "java/lang/invoke/MethodHandle" ∧ yX7_look.cls ≠ "java/lang/invoke/VarHandle" ∧ (parseMethodDescriptor yX7_look.desc).map (fun d => d.parameters.length) = some 1 := by decide +kernel
theorem hd_X7_numberOf : yX7_numberOf.cls = RX7 ∧ yX7_numberOf.cls ≠ "java/lang/invoke/MethodHandle" ∧ yX7_numberOf.cls ≠ "java/lang/invoke/VarHandle" ∧ (parseMethodDescriptor yX7_numberOf.desc).map (fun d => d.parameters.length) = some 1 := by decide +kernel
theorem hd_X7_isAboveWithLimit : yX7_isAboveWithLimit.cls = RX7 ∧ yX7_isAboveWithLimit.cls ≠ "java/lang/invoke/MethodHandle" ∧ yX7_isAboveWithLimit.cls ≠ "java/lang/invoke/VarHandle" ∧ (parseMethodDescriptor yX7_isAboveWithLimit.desc).map (fun d => d.parameters.length) = some 2 := by decide +kernel
theorem hd_X7_exceedancesWithLimit : yX7_exceedancesWithLimit.cls = RX7 ∧ yX7_exceedancesWithLimit.cls ≠ "java/lang/invoke/MethodHandle" ∧ yX7_exceedancesWithLimit.cls ≠ "java/lang/invoke/VarHandle" ∧ (parseMethodDescriptor yX7_exceedancesWithLimit.desc).map (fun d => d.parameters.length) = some 1 := by decide +kernel
theorem hd_X7_leastLimitFor : yX7_leastLimitFor.cls = RX7 ∧ yX7_leastLimitFor.cls ≠ "java/lang/invoke/MethodHandle" ∧ yX7_leastLimitFor.cls ≠ "java/lang/invoke/VarHandle" ∧ (parseMethodDescriptor yX7_leastLimitFor.desc).map (fun d => d.parameters.length) = some 1 := by decide +kernel
theorem hd_X7_minutesUntilAbove : yX7_minutesUntilAbove.cls = RX7 ∧ yX7_minutesUntilAbove.cls ≠ "java/lang/invoke/MethodHandle" ∧ yX7_minutesUntilAbove.cls ≠ "java/lang/invoke/VarHandle" ∧ (parseMethodDescriptor yX7_minutesUntilAbove.desc).map (fun d => d.parameters.length) = some 1 := by decide +kernel
theorem hd_X8_isSetting : yX8_isSetting.cls ≠ "java/lang/invoke/MethodHandle" ∧ yX8_isSetting.cls ≠ "java/lang/invoke/VarHandle" ∧ (parseMethodDescriptor yX8_isSetting.desc).map (fun d => d.parameters.length) = some 1 := by decide +kernel
theorem hd_X8_fitsSetting : yX8_fitsSetting.cls ≠ "java/lang/invoke/MethodHandle" ∧ yX8_fitsSetting.cls ≠ "java/lang/invoke/VarHandle" ∧ (parseMethodDescriptor yX8_fitsSetting.desc).map (fun d => d.parameters.length) = some 2 := by decide +kernel
theorem hd_X8_readAgain : yX8_readAgain.cls = RX8 ∧ yX8_readAgain.cls ≠ "java/lang/invoke/MethodHandle" ∧ yX8_readAgain.cls ≠ "java/lang/invoke/VarHandle" ∧ (parseMethodDescriptor yX8_readAgain.desc).map (fun d => d.parameters.length) = some 0 := by decide +kernel
theorem hd_X8_set : yX8_set.cls = RX8 ∧ yX8_set.cls ≠ "java/lang/invoke/MethodHandle" ∧ yX8_set.cls ≠ "java/lang/invoke/VarHandle" ∧ (parseMethodDescriptor yX8_set.desc).map (fun d => d.parameters.length) = some 2 := by decide +kernel
theorem hd_X8_isLevel : yX8_isLevel.cls ≠ "java/lang/invoke/MethodHandle" ∧ yX8_isLevel.cls ≠ "java/lang/invoke/VarHandle" ∧ (parseMethodDescriptor yX8_isLevel.desc).map (fun d => d.parameters.length) = some 1 := by decide +kernel
theorem hd_X8_isWind : yX8_isWind.cls ≠ "java/lang/invoke/MethodHandle" ∧ yX8_isWind.cls ≠ "java/lang/invoke/VarHandle" ∧ (parseMethodDescriptor yX8_isWind.desc).map (fun d => d.parameters.length) = some 1 := by decide +kernel
theorem hd_X8_tell : yX8_tell.cls = RX8 ∧ yX8_tell.cls ≠ "java/lang/invoke/MethodHandle" ∧ yX8_tell.cls ≠ "java/lang/invoke/VarHandle" ∧ (parseMethodDescriptor yX8_tell.desc).map (fun d => d.parameters.length) = some 3 := by decide +kernel
theorem hd_X8_correct : yX8_correct.cls = RX8 ∧ yX8_correct.cls ≠ "java/lang/invoke/MethodHandle" ∧ yX8_correct.cls ≠ "java/lang/invoke/VarHandle" ∧ (parseMethodDescriptor yX8_correct.desc).map (fun d => d.parameters.length) = some 3 := by decide +kernel
theorem hd_X8_forget : yX8_forget.cls = RX8 ∧ yX8_forget.cls ≠ "java/lang/invoke/MethodHandle" ∧ yX8_forget.cls ≠ "java/lang/invoke/VarHandle" ∧ (parseMethodDescriptor yX8_forget.desc).map (fun d => d.parameters.length) = some 1 := by decide +kernel
theorem hd_X8_complain : yX8_complain.cls = RX8 ∧ yX8_complain.cls ≠ "java/lang/invoke/MethodHandle" ∧ yX8_complain.cls ≠ "java/lang/invoke/VarHandle" ∧ (parseMethodDescriptor yX8_complain.desc).map (fun d => d.parameters.length) = some 1 := by decide +kernel
theorem hd_X8_withdraw : yX8_withdraw.cls = RX8 ∧ yX8_withdraw.cls ≠ "java/lang/invoke/MethodHandle" ∧ yX8_withdraw.cls ≠ "java/lang/invoke/VarHandle" ∧ (parseMethodDescriptor yX8_withdraw.desc).map (fun d => d.parameters.length) = some 1 := by decide +kernel
theorem hd_X8_append : yX8_append.cls = RX8 ∧ yX8_append.cls ≠ "java/lang/invoke/MethodHandle" ∧ yX8_append.cls ≠ "java/lang/invoke/VarHandle" ∧ (parseMethodDescriptor yX8_append.desc).map (fun d => d.parameters.length) = some 1 := by decide +kernel
theorem hd_X8_clearBuffer : yX8_clearBuffer.cls = RX8 ∧ yX8_clearBuffer.cls ≠ "java/lang/invoke/MethodHandle" ∧ yX8_clearBuffer.cls ≠ "java/lang/invoke/VarHandle" ∧ (parseMethodDescriptor yX8_clearBuffer.desc).map (fun d => d.parameters.length) = some 0 := by decide +kernel
theorem hd_X8_firstError : yX8_firstError.cls = RX8 ∧ yX8_firstError.cls ≠ "java/lang/invoke/MethodHandle" ∧ yX8_firstError.cls ≠ "java/lang/invoke/VarHandle" ∧ (parseMethodDescriptor yX8_firstError.desc).map (fun d => d.parameters.length) = some 0 := by decide +kernel
theorem hd_X8_load : yX8_load.cls = RX8 ∧ yX8_load.cls ≠ "java/lang/invoke/MethodHandle" ∧ yX8_load.cls ≠ "java/lang/invoke/VarHandle" ∧ (parseMethodDescriptor yX8_load.desc).map (fun d => d.parameters.length) = some 0 := by decide +kernel
theorem hd_X8_undo : yX8_undo.cls = RX8 ∧ yX8_undo.cls ≠ "java/lang/invoke/MethodHandle" ∧ yX8_undo.cls ≠ "java/lang/invoke/VarHandle" ∧ (parseMethodDescriptor yX8_undo.desc).map (fun d => d.parameters.length) = some 0 := by decide +kernel
theorem hd_X8_minuteProperty : yX8_minuteProperty.cls = RX8 ∧ yX8_minuteProperty.cls ≠ "java/lang/invoke/MethodHandle" ∧ yX8_minuteProperty.cls ≠ "java/lang/invoke/VarHandle" ∧ (parseMethodDescriptor yX8_minuteProperty.desc).map (fun d => d.parameters.length) = some 2 := by decide +kernel
theorem hd_X8_minute : yX8_minute.cls = RX8 ∧ yX8_minute.cls ≠ "java/lang/invoke/MethodHandle" ∧ yX8_minute.cls ≠ "java/lang/invoke/VarHandle" ∧ (parseMethodDescriptor yX8_minute.desc).map (fun d => d.parameters.length) = some 2 := by decide +kernel
theorem hd_X8_exceedanceProperty : yX8_exceedanceProperty.cls = RX8 ∧ yX8_exceedanceProperty.cls ≠ "java/lang/invoke/MethodHandle" ∧ yX8_exceedanceProperty.cls ≠ "java/lang/invoke/VarHandle" ∧ (parseMethodDescriptor yX8_exceedanceProperty.desc).map (fun d => d.parameters.length) = some 2 := by decide +kernel
theorem hd_X8_exceedance : yX8_exceedance.cls = RX8 ∧ yX8_exceedance.cls ≠ "java/lang/invoke/MethodHandle" ∧ yX8_exceedance.cls ≠ "java/lang/invoke/VarHandle" ∧ (parseMethodDescriptor yX8_exceedance.desc).map (fun d => d.parameters.length) = some 2 := by decide +kernel
theorem hd_X8_complaintProperty : yX8_complaintProperty.cls = RX8 ∧ yX8_complaintProperty.cls ≠ "java/lang/invoke/MethodHandle" ∧ yX8_complaintProperty.cls ≠ "java/lang/invoke/VarHandle" ∧ (parseMethodDescriptor yX8_complaintProperty.desc).map (fun d => d.parameters.length) = some 2 := by decide +kernel
theorem hd_X8_complaint : yX8_complaint.cls = RX8 ∧ yX8_complaint.cls ≠ "java/lang/invoke/MethodHandle" ∧ yX8_complaint.cls ≠ "java/lang/invoke/VarHandle" ∧ (parseMethodDescriptor yX8_complaint.desc).map (fun d => d.parameters.length) = some 2 := by decide +kernel
theorem hd_X8_levelCount : yX8_levelCount.cls = RX8 ∧ yX8_levelCount.cls ≠ "java/lang/invoke/MethodHandle" ∧ yX8_levelCount.cls ≠ "java/lang/invoke/VarHandle" ∧ (parseMethodDescriptor yX8_levelCount.desc).map (fun d => d.parameters.length) = some 1 := by decide +kernel
theorem hd_X8_percentLevel : yX8_percentLevel.cls = RX8 ∧ yX8_percentLevel.cls ≠ "java/lang/invoke/MethodHandle" ∧ yX8_percentLevel.cls ≠ "java/lang/invoke/VarHandle" ∧ (parseMethodDescriptor yX8_percentLevel.desc).map (fun d => d.parameters.length) = some 1 := by decide +kernel
theorem hd_X8_numberOf : yX8_numberOf.cls = RX8 ∧ yX8_numberOf.cls ≠ "java/lang/invoke/MethodHandle" ∧ yX8_numberOf.cls ≠ "java/lang/invoke/VarHandle" ∧ (parseMethodDescriptor yX8_numberOf.desc).map (fun d => d.parameters.length) = some 1 := by decide +kernel
theorem hd_X8_count : yX8_count.cls = RX8 ∧ yX8_count.cls ≠ "java/lang/invoke/MethodHandle" ∧ yX8_count.cls ≠ "java/lang/invoke/VarHandle" ∧ (parseMethodDescriptor yX8_count.desc).map (fun d => d.parameters.length) = some 1 := by decide +kernel
theorem hd_X8_setting : yX8_setting.cls = RX8 ∧ yX8_setting.cls ≠ "java/lang/invoke/MethodHandle" ∧ yX8_setting.cls ≠ "java/lang/invoke/VarHandle" ∧ (parseMethodDescriptor yX8_setting.desc).map (fun d => d.parameters.length) = some 1 := by decide +kernel
theorem hd_X8_ifSet : yX8_ifSet.cls = RX8 ∧ yX8_ifSet.cls ≠ "java/lang/invoke/MethodHandle" ∧ yX8_ifSet.cls ≠ "java/lang/invoke/VarHandle" ∧ (parseMethodDescriptor yX8_ifSet.desc).map (fun d => d.parameters.length) = some 3 := by decide +kernel
theorem hd_X8_leastLimit : yX8_leastLimit.cls = RX8 ∧ yX8_leastLimit.cls ≠ "java/lang/invoke/MethodHandle" ∧ yX8_leastLimit.cls ≠ "java/lang/invoke/VarHandle" ∧ (parseMethodDescriptor yX8_leastLimit.desc).map (fun d => d.parameters.length) = some 1 := by decide +kernel
theorem hd_X8_aboveIn : yX8_aboveIn.cls = RX8 ∧ yX8_aboveIn.cls ≠ "java/lang/invoke/MethodHandle" ∧ yX8_aboveIn.cls ≠ "java/lang/invoke/VarHandle" ∧ (parseMethodDescriptor yX8_aboveIn.desc).map (fun d => d.parameters.length) = some 1 := by decide +kernel
theorem hd_X8_share : yX8_share.cls = RX8 ∧ yX8_share.cls ≠ "java/lang/invoke/MethodHandle" ∧ yX8_share.cls ≠ "java/lang/invoke/VarHandle" ∧ (parseMethodDescriptor yX8_share.desc).map (fun d => d.parameters.length) = some 0 := by decide +kernel
theorem hd_X8_mixed : yX8_mixed.cls ≠ "java/lang/invoke/MethodHandle" ∧ yX8_mixed.cls ≠ "java/lang/invoke/VarHandle" ∧ (parseMethodDescriptor yX8_mixed.desc).map (fun d => d.parameters.length) = some 2 := by decide +kernel
theorem hd_X8_withMinutes : yX8_withMinutes.cls = RX8 ∧ yX8_withMinutes.cls ≠ "java/lang/invoke/MethodHandle" ∧ yX8_withMinutes.cls ≠ "java/lang/invoke/VarHandle" ∧ (parseMethodDescriptor yX8_withMinutes.desc).map (fun d => d.parameters.length) = some 1 := by decide +kernel
theorem hd_X8_withExceedances : yX8_withExceedances.cls = RX8 ∧ yX8_withExceedances.cls ≠ "java/lang/invoke/MethodHandle" ∧ yX8_withExceedances.cls ≠ "java/lang/invoke/VarHandle" ∧ (parseMethodDescriptor yX8_withExceedances.desc).map (fun d => d.parameters.length) = some 1 := by decide +kernel
theorem hd_X8_withComplaints : yX8_withComplaints.cls = RX8 ∧ yX8_withComplaints.cls ≠ "java/lang/invoke/MethodHandle" ∧ yX8_withComplaints.cls ≠ "java/lang/invoke/VarHandle" ∧ (parseMethodDescriptor yX8_withComplaints.desc).map (fun d => d.parameters.length) = some 1 := by decide +kernel
theorem hd_X8_withLevels : yX8_withLevels.cls = RX8 ∧ yX8_withLevels.cls ≠ "java/lang/invoke/MethodHandle" ∧ yX8_withLevels.cls ≠ "java/lang/invoke/VarHandle" ∧ (parseMethodDescriptor yX8_withLevels.desc).map (fun d => d.parameters.length) = some 1 := by decide +kernel
theorem hd_X8_bitsOf : yX8_bitsOf.cls ≠ "java/lang/invoke/MethodHandle" ∧ yX8_bitsOf.cls ≠ "java/lang/invoke/VarHandle" ∧ (parseMethodDescriptor yX8_bitsOf.desc).map (fun d => d.parameters.length) = some 1 := by decide +kernel
theorem hd_X8_withBuffer : yX8_withBuffer.cls = RX8 ∧ yX8_withBuffer.cls ≠ "java/lang/invoke/MethodHandle" ∧ yX8_withBuffer.cls ≠ "java/lang/invoke/VarHandle" ∧ (parseMethodDescriptor yX8_withBuffer.desc).map (fun d => d.parameters.length) = some 1 := by decide +kernel
theorem hd_X8_digest : yX8_digest.cls = RX8 ∧ yX8_digest.cls ≠ "java/lang/invoke/MethodHandle" ∧ yX8_digest.cls ≠ "java/lang/invoke/VarHandle" ∧ (parseMethodDescriptor yX8_digest.desc).map (fun d => d.parameters.length) = some 0 := by decide +kernel
theorem hd_X9_thrown : yX9_thrown.cls = RX9 ∧ yX9_thrown.cls ≠ "java/lang/invoke/MethodHandle" ∧ yX9_thrown.cls ≠ "java/lang/invoke/VarHandle" ∧ (parseMethodDescriptor yX9_thrown.desc).map (fun d => d.parameters.length) = some 0 := by decide +kernel
theorem hd_X9_within : yX9_within.cls ≠ "java/lang/invoke/MethodHandle" ∧ yX9_within.cls ≠ "java/lang/invoke/VarHandle" ∧ (parseMethodDescriptor yX9_within.desc).map (fun d => d.parameters.length) = some 3 := by decide +kernel
theorem hd_X9_of : yX9_of.cls = RX9 ∧ yX9_of.cls ≠ "java/lang/invoke/MethodHandle" ∧ yX9_of.cls ≠ "java/lang/invoke/VarHandle" ∧ (parseMethodDescriptor yX9_of.desc).map (fun d => d.parameters.length) = some 1 := by decide +kernel
theorem hd_X9_isMinute : yX9_isMinute.cls = RX9 ∧ yX9_isMinute.cls ≠ "java/lang/invoke/MethodHandle" ∧ yX9_isMinute.cls ≠ "java/lang/invoke/VarHandle" ∧ (parseMethodDescriptor yX9_isMinute.desc).map (fun d => d.parameters.length) = some 1 := by decide +kernel
theorem hd_X9_isRest : yX9_isRest.cls = RX9 ∧ yX9_isRest.cls ≠ "java/lang/invoke/MethodHandle" ∧ yX9_isRest.cls ≠ "java/lang/invoke/VarHandle" ∧ (parseMethodDescriptor yX9_isRest.desc).map (fun d => d.parameters.length) = some 1 := by decide +kernel
theorem hd_X9_limitOf : yX9_limitOf.cls = RX9 ∧ yX9_limitOf.cls ≠ "java/lang/invoke/MethodHandle" ∧ yX9_limitOf.cls ≠ "java/lang/invoke/VarHandle" ∧ (parseMethodDescriptor yX9_limitOf.desc).map (fun d => d.parameters.length) = some 1 := by decide +kernel
theorem hd_X9_whyNot : yX9_whyNot.cls = RX9 ∧ yX9_whyNot.cls ≠ "java/lang/invoke/MethodHandle" ∧ yX9_whyNot.cls ≠ "java/lang/invoke/VarHandle" ∧ (parseMethodDescriptor yX9_whyNot.desc).map (fun d => d.parameters.length) = some 1 := by decide +kernel
theorem hd_X9_layArms : yX9_layArms.cls = RX9 ∧ yX9_layArms.cls ≠ "java/lang/invoke/MethodHandle" ∧ yX9_layArms.cls ≠ "java/lang/invoke/VarHandle" ∧ (parseMethodDescriptor yX9_layArms.desc).map (fun d => d.parameters.length) = some 0 := by decide +kernel
theorem hd_X9_addMinute : yX9_addMinute.cls = RX9 ∧ yX9_addMinute.cls ≠ "java/lang/invoke/MethodHandle" ∧ yX9_addMinute.cls ≠ "java/lang/invoke/VarHandle" ∧ (parseMethodDescriptor yX9_addMinute.desc).map (fun d => d.parameters.length) = some 2 := by decide +kernel
theorem hd_X9_layExceedances : yX9_layExceedances.cls = RX9 ∧ yX9_layExceedances.cls ≠ "java/lang/invoke/MethodHandle" ∧ yX9_layExceedances.cls ≠ "java/lang/invoke/VarHandle" ∧ (parseMethodDescriptor yX9_layExceedances.desc).map (fun d => d.parameters.length) = some 0 := by decide +kernel
theorem hd_X9_lay : yX9_lay.cls = RX9 ∧ yX9_lay.cls ≠ "java/lang/invoke/MethodHandle" ∧ yX9_lay.cls ≠ "java/lang/invoke/VarHandle" ∧ (parseMethodDescriptor yX9_lay.desc).map (fun d => d.parameters.length) = some 2 := by decide +kernel
theorem hd_X9_matchFor : yX9_matchFor.cls = RX9 ∧ yX9_matchFor.cls ≠ "java/lang/invoke/MethodHandle" ∧ yX9_matchFor.cls ≠ "java/lang/invoke/VarHandle" ∧ (parseMethodDescriptor yX9_matchFor.desc).map (fun d => d.parameters.length) = some 1 := by decide +kernel
theorem hd_X9_layMatches : yX9_layMatches.cls = RX9 ∧ yX9_layMatches.cls ≠ "java/lang/invoke/MethodHandle" ∧ yX9_layMatches.cls ≠ "java/lang/invoke/VarHandle" ∧ (parseMethodDescriptor yX9_layMatches.desc).map (fun d => d.parameters.length) = some 0 := by decide +kernel
theorem hd_X9_layAll : yX9_layAll.cls = RX9 ∧ yX9_layAll.cls ≠ "java/lang/invoke/MethodHandle" ∧ yX9_layAll.cls ≠ "java/lang/invoke/VarHandle" ∧ (parseMethodDescriptor yX9_layAll.desc).map (fun d => d.parameters.length) = some 0 := by decide +kernel
theorem hd_X9_save : yX9_save.cls = RX9 ∧ yX9_save.cls ≠ "java/lang/invoke/MethodHandle" ∧ yX9_save.cls ≠ "java/lang/invoke/VarHandle" ∧ (parseMethodDescriptor yX9_save.desc).map (fun d => d.parameters.length) = some 0 := by decide +kernel
theorem hd_X9_undo : yX9_undo.cls = RX9 ∧ yX9_undo.cls ≠ "java/lang/invoke/MethodHandle" ∧ yX9_undo.cls ≠ "java/lang/invoke/VarHandle" ∧ (parseMethodDescriptor yX9_undo.desc).map (fun d => d.parameters.length) = some 0 := by decide +kernel
theorem hd_X9_isSetting : yX9_isSetting.cls ≠ "java/lang/invoke/MethodHandle" ∧ yX9_isSetting.cls ≠ "java/lang/invoke/VarHandle" ∧ (parseMethodDescriptor yX9_isSetting.desc).map (fun d => d.parameters.length) = some 1 := by decide +kernel
theorem hd_X9_isValue : yX9_isValue.cls ≠ "java/lang/invoke/MethodHandle" ∧ yX9_isValue.cls ≠ "java/lang/invoke/VarHandle" ∧ (parseMethodDescriptor yX9_isValue.desc).map (fun d => d.parameters.length) = some 2 := by decide +kernel
theorem hd_X9_set : yX9_set.cls = RX9 ∧ yX9_set.cls ≠ "java/lang/invoke/MethodHandle" ∧ yX9_set.cls ≠ "java/lang/invoke/VarHandle" ∧ (parseMethodDescriptor yX9_set.desc).map (fun d => d.parameters.length) = some 2 := by decide +kernel
theorem hd_X9_isTold : yX9_isTold.cls ≠ "java/lang/invoke/MethodHandle" ∧ yX9_isTold.cls ≠ "java/lang/invoke/VarHandle" ∧ (parseMethodDescriptor yX9_isTold.desc).map (fun d => d.parameters.length) = some 2 := by decide +kernel
theorem hd_X9_bring : yX9_bring.cls = RX9 ∧ yX9_bring.cls ≠ "java/lang/invoke/MethodHandle" ∧ yX9_bring.cls ≠ "java/lang/invoke/VarHandle" ∧ (parseMethodDescriptor yX9_bring.desc).map (fun d => d.parameters.length) = some 3 := by decide +kernel
theorem hd_X9_tell : yX9_tell.cls = RX9 ∧ yX9_tell.cls ≠ "java/lang/invoke/MethodHandle" ∧ yX9_tell.cls ≠ "java/lang/invoke/VarHandle" ∧ (parseMethodDescriptor yX9_tell.desc).map (fun d => d.parameters.length) = some 3 := by decide +kernel
theorem hd_X9_correct : yX9_correct.cls = RX9 ∧ yX9_correct.cls ≠ "java/lang/invoke/MethodHandle" ∧ yX9_correct.cls ≠ "java/lang/invoke/VarHandle" ∧ (parseMethodDescriptor yX9_correct.desc).map (fun d => d.parameters.length) = some 3 := by decide +kernel
theorem hd_X9_forget : yX9_forget.cls = RX9 ∧ yX9_forget.cls ≠ "java/lang/invoke/MethodHandle" ∧ yX9_forget.cls ≠ "java/lang/invoke/VarHandle" ∧ (parseMethodDescriptor yX9_forget.desc).map (fun d => d.parameters.length) = some 1 := by decide +kernel
theorem hd_X9_complain : yX9_complain.cls = RX9 ∧ yX9_complain.cls ≠ "java/lang/invoke/MethodHandle" ∧ yX9_complain.cls ≠ "java/lang/invoke/VarHandle" ∧ (parseMethodDescriptor yX9_complain.desc).map (fun d => d.parameters.length) = some 1 := by decide +kernel
theorem hd_X9_isComplaint : yX9_isComplaint.cls = RX9 ∧ yX9_isComplaint.cls ≠ "java/lang/invoke/MethodHandle" ∧ yX9_isComplaint.cls ≠ "java/lang/invoke/VarHandle" ∧ (parseMethodDescriptor yX9_isComplaint.desc).map (fun d => d.parameters.length) = some 1 := by decide +kernel
theorem hd_X9_withdraw : yX9_withdraw.cls = RX9 ∧ yX9_withdraw.cls ≠ "java/lang/invoke/MethodHandle" ∧ yX9_withdraw.cls ≠ "java/lang/invoke/VarHandle" ∧ (parseMethodDescriptor yX9_withdraw.desc).map (fun d => d.parameters.length) = some 1 := by decide +kernel
theorem hd_X9_append : yX9_append.cls = RX9 ∧ yX9_append.cls ≠ "java/lang/invoke/MethodHandle" ∧ yX9_append.cls ≠ "java/lang/invoke/VarHandle" ∧ (parseMethodDescriptor yX9_append.desc).map (fun d => d.parameters.length) = some 1 := by decide +kernel
theorem hd_X9_clearBuffer : yX9_clearBuffer.cls = RX9 ∧ yX9_clearBuffer.cls ≠ "java/lang/invoke/MethodHandle" ∧ yX9_clearBuffer.cls ≠ "java/lang/invoke/VarHandle" ∧ (parseMethodDescriptor yX9_clearBuffer.desc).map (fun d => d.parameters.length) = some 0 := by decide +kernel
theorem hd_X9_beginPart : yX9_beginPart.cls = RX9 ∧ yX9_beginPart.cls ≠ "java/lang/invoke/MethodHandle" ∧ yX9_beginPart.cls ≠ "java/lang/invoke/VarHandle" ∧ (parseMethodDescriptor yX9_beginPart.desc).map (fun d => d.parameters.length) = some 0 := by decide +kernel
theorem hd_X9_takesDigit : yX9_takesDigit.cls = RX9 ∧ yX9_takesDigit.cls ≠ "java/lang/invoke/MethodHandle" ∧ yX9_takesDigit.cls ≠ "java/lang/invoke/VarHandle" ∧ (parseMethodDescriptor yX9_takesDigit.desc).map (fun d => d.parameters.length) = some 1 := by decide +kernel
theorem hd_X9_isPartOver : yX9_isPartOver.cls = RX9 ∧ yX9_isPartOver.cls ≠ "java/lang/invoke/MethodHandle" ∧ yX9_isPartOver.cls ≠ "java/lang/invoke/VarHandle" ∧ (parseMethodDescriptor yX9_isPartOver.desc).map (fun d => d.parameters.length) = some 0 := by decide +kernel
theorem hd_X9_goTo : yX9_goTo.cls = RX9 ∧ yX9_goTo.cls ≠ "java/lang/invoke/MethodHandle" ∧ yX9_goTo.cls ≠ "java/lang/invoke/VarHandle" ∧ (parseMethodDescriptor yX9_goTo.desc).map (fun d => d.parameters.length) = some 1 := by decide +kernel
theorem hd_X9_takes : yX9_takes.cls = RX9 ∧ yX9_takes.cls ≠ "java/lang/invoke/MethodHandle" ∧ yX9_takes.cls ≠ "java/lang/invoke/VarHandle" ∧ (parseMethodDescriptor yX9_takes.desc).map (fun d => d.parameters.length) = some 1 := by decide +kernel
theorem hd_X9_readText : yX9_readText.cls = RX9 ∧ yX9_readText.cls ≠ "java/lang/invoke/MethodHandle" ∧ yX9_readText.cls ≠ "java/lang/invoke/VarHandle" ∧ (parseMethodDescriptor yX9_readText.desc).map (fun d => d.parameters.length) = some 0 := by decide +kernel
theorem hd_X9_firstError : yX9_firstError.cls = RX9 ∧ yX9_firstError.cls ≠ "java/lang/invoke/MethodHandle" ∧ yX9_firstError.cls ≠ "java/lang/invoke/VarHandle" ∧ (parseMethodDescriptor yX9_firstError.desc).map (fun d => d.parameters.length) = some 0 := by decide +kernel
theorem hd_X9_load : yX9_load.cls = RX9 ∧ yX9_load.cls ≠ "java/lang/invoke/MethodHandle" ∧ yX9_load.cls ≠ "java/lang/invoke/VarHandle" ∧ (parseMethodDescriptor yX9_load.desc).map (fun d => d.parameters.length) = some 0 := by decide +kernel
theorem hd_X9_minuteNow : yX9_minuteNow.cls = RX9 ∧ yX9_minuteNow.cls ≠ "java/lang/invoke/MethodHandle" ∧ yX9_minuteNow.cls ≠ "java/lang/invoke/VarHandle" ∧ (parseMethodDescriptor yX9_minuteNow.desc).map (fun d => d.parameters.length) = some 2 := by decide +kernel
theorem hd_X9_minute : yX9_minute.cls = RX9 ∧ yX9_minute.cls ≠ "java/lang/invoke/MethodHandle" ∧ yX9_minute.cls ≠ "java/lang/invoke/VarHandle" ∧ (parseMethodDescriptor yX9_minute.desc).map (fun d => d.parameters.length) = some 2 := by decide +kernel
theorem hd_X9_exceedanceNow : yX9_exceedanceNow.cls = RX9 ∧ yX9_exceedanceNow.cls ≠ "java/lang/invoke/MethodHandle" ∧ yX9_exceedanceNow.cls ≠ "java/lang/invoke/VarHandle" ∧ (parseMethodDescriptor yX9_exceedanceNow.desc).map (fun d => d.parameters.length) = some 2 := by decide +kernel
theorem hd_X9_exceedance : yX9_exceedance.cls = RX9 ∧ yX9_exceedance.cls ≠ "java/lang/invoke/MethodHandle" ∧ yX9_exceedance.cls ≠ "java/lang/invoke/VarHandle" ∧ (parseMethodDescriptor yX9_exceedance.desc).map (fun d => d.parameters.length) = some 2 := by decide +kernel
theorem hd_X9_complaint : yX9_complaint.cls = RX9 ∧ yX9_complaint.cls ≠ "java/lang/invoke/MethodHandle" ∧ yX9_complaint.cls ≠ "java/lang/invoke/VarHandle" ∧ (parseMethodDescriptor yX9_complaint.desc).map (fun d => d.parameters.length) = some 2 := by decide +kernel
theorem hd_X9_countFrom : yX9_countFrom.cls = RX9 ∧ yX9_countFrom.cls ≠ "java/lang/invoke/MethodHandle" ∧ yX9_countFrom.cls ≠ "java/lang/invoke/VarHandle" ∧ (parseMethodDescriptor yX9_countFrom.desc).map (fun d => d.parameters.length) = some 1 := by decide +kernel
theorem hd_X9_levelCount : yX9_levelCount.cls = RX9 ∧ yX9_levelCount.cls ≠ "java/lang/invoke/MethodHandle" ∧ yX9_levelCount.cls ≠ "java/lang/invoke/VarHandle" ∧ (parseMethodDescriptor yX9_levelCount.desc).map (fun d => d.parameters.length) = some 1 := by decide +kernel
theorem hd_X9_percentNow : yX9_percentNow.cls = RX9 ∧ yX9_percentNow.cls ≠ "java/lang/invoke/MethodHandle" ∧ yX9_percentNow.cls ≠ "java/lang/invoke/VarHandle" ∧ (parseMethodDescriptor yX9_percentNow.desc).map (fun d => d.parameters.length) = some 1 := by decide +kernel
theorem hd_X9_percentLevel : yX9_percentLevel.cls = RX9 ∧ yX9_percentLevel.cls ≠ "java/lang/invoke/MethodHandle" ∧ yX9_percentLevel.cls ≠ "java/lang/invoke/VarHandle" ∧ (parseMethodDescriptor yX9_percentLevel.desc).map (fun d => d.parameters.length) = some 1 := by decide +kernel
theorem hd_X9_minutesBy : yX9_minutesBy.cls = RX9 ∧ yX9_minutesBy.cls ≠ "java/lang/invoke/MethodHandle" ∧ yX9_minutesBy.cls ≠ "java/lang/invoke/VarHandle" ∧ (parseMethodDescriptor yX9_minutesBy.desc).map (fun d => d.parameters.length) = some 2 := by decide +kernel
theorem hd_X9_restMany : yX9_restMany.cls = RX9 ∧ yX9_restMany.cls ≠ "java/lang/invoke/MethodHandle" ∧ yX9_restMany.cls ≠ "java/lang/invoke/VarHandle" ∧ (parseMethodDescriptor yX9_restMany.desc).map (fun d => d.parameters.length) = some 0 := by decide +kernel
theorem hd_X9_matchedMany : yX9_matchedMany.cls = RX9 ∧ yX9_matchedMany.cls ≠ "java/lang/invoke/MethodHandle" ∧ yX9_matchedMany.cls ≠ "java/lang/invoke/VarHandle" ∧ (parseMethodDescriptor yX9_matchedMany.desc).map (fun d => d.parameters.length) = some 0 := by decide +kernel
theorem hd_X9_weights : yX9_weights.cls = RX9 ∧ yX9_weights.cls ≠ "java/lang/invoke/MethodHandle" ∧ yX9_weights.cls ≠ "java/lang/invoke/VarHandle" ∧ (parseMethodDescriptor yX9_weights.desc).map (fun d => d.parameters.length) = some 0 := by decide +kernel
theorem hd_X9_heaviest : yX9_heaviest.cls = RX9 ∧ yX9_heaviest.cls ≠ "java/lang/invoke/MethodHandle" ∧ yX9_heaviest.cls ≠ "java/lang/invoke/VarHandle" ∧ (parseMethodDescriptor yX9_heaviest.desc).map (fun d => d.parameters.length) = some 0 := by decide +kernel
theorem hd_X9_counted : yX9_counted.cls = RX9 ∧ yX9_counted.cls ≠ "java/lang/invoke/MethodHandle" ∧ yX9_counted.cls ≠ "java/lang/invoke/VarHandle" ∧ (parseMethodDescriptor yX9_counted.desc).map (fun d => d.parameters.length) = some 1 := by decide +kernel
theorem hd_X9_count : yX9_count.cls = RX9 ∧ yX9_count.cls ≠ "java/lang/invoke/MethodHandle" ∧ yX9_count.cls ≠ "java/lang/invoke/VarHandle" ∧ (parseMethodDescriptor yX9_count.desc).map (fun d => d.parameters.length) = some 1 := by decide +kernel
theorem hd_X9_setting : yX9_setting.cls = RX9 ∧ yX9_setting.cls ≠ "java/lang/invoke/MethodHandle" ∧ yX9_setting.cls ≠ "java/lang/invoke/VarHandle" ∧ (parseMethodDescriptor yX9_setting.desc).map (fun d => d.parameters.length) = some 1 := by decide +kernel
theorem hd_X9_withSetting : yX9_withSetting.cls = RX9 ∧ yX9_withSetting.cls ≠ "java/lang/invoke/MethodHandle" ∧ yX9_withSetting.cls ≠ "java/lang/invoke/VarHandle" ∧ (parseMethodDescriptor yX9_withSetting.desc).map (fun d => d.parameters.length) = some 3 := by decide +kernel
theorem hd_X9_ifSet : yX9_ifSet.cls = RX9 ∧ yX9_ifSet.cls ≠ "java/lang/invoke/MethodHandle" ∧ yX9_ifSet.cls ≠ "java/lang/invoke/VarHandle" ∧ (parseMethodDescriptor yX9_ifSet.desc).map (fun d => d.parameters.length) = some 3 := by decide +kernel
theorem hd_X9_leastNow : yX9_leastNow.cls = RX9 ∧ yX9_leastNow.cls ≠ "java/lang/invoke/MethodHandle" ∧ yX9_leastNow.cls ≠ "java/lang/invoke/VarHandle" ∧ (parseMethodDescriptor yX9_leastNow.desc).map (fun d => d.parameters.length) = some 1 := by decide +kernel
theorem hd_X9_leastLimit : yX9_leastLimit.cls = RX9 ∧ yX9_leastLimit.cls ≠ "java/lang/invoke/MethodHandle" ∧ yX9_leastLimit.cls ≠ "java/lang/invoke/VarHandle" ∧ (parseMethodDescriptor yX9_leastLimit.desc).map (fun d => d.parameters.length) = some 1 := by decide +kernel
theorem hd_X9_aboveNow : yX9_aboveNow.cls = RX9 ∧ yX9_aboveNow.cls ≠ "java/lang/invoke/MethodHandle" ∧ yX9_aboveNow.cls ≠ "java/lang/invoke/VarHandle" ∧ (parseMethodDescriptor yX9_aboveNow.desc).map (fun d => d.parameters.length) = some 1 := by decide +kernel
theorem hd_X9_aboveIn : yX9_aboveIn.cls = RX9 ∧ yX9_aboveIn.cls ≠ "java/lang/invoke/MethodHandle" ∧ yX9_aboveIn.cls ≠ "java/lang/invoke/VarHandle" ∧ (parseMethodDescriptor yX9_aboveIn.desc).map (fun d => d.parameters.length) = some 1 := by decide +kernel
theorem hd_X9_shareNow : yX9_shareNow.cls = RX9 ∧ yX9_shareNow.cls ≠ "java/lang/invoke/MethodHandle" ∧ yX9_shareNow.cls ≠ "java/lang/invoke/VarHandle" ∧ (parseMethodDescriptor yX9_shareNow.desc).map (fun d => d.parameters.length) = some 0 := by decide +kernel
theorem hd_X9_share : yX9_share.cls = RX9 ∧ yX9_share.cls ≠ "java/lang/invoke/MethodHandle" ∧ yX9_share.cls ≠ "java/lang/invoke/VarHandle" ∧ (parseMethodDescriptor yX9_share.desc).map (fun d => d.parameters.length) = some 0 := by decide +kernel
theorem hd_X9_mix : yX9_mix.cls = RX9 ∧ yX9_mix.cls ≠ "java/lang/invoke/MethodHandle" ∧ yX9_mix.cls ≠ "java/lang/invoke/VarHandle" ∧ (parseMethodDescriptor yX9_mix.desc).map (fun d => d.parameters.length) = some 1 := by decide +kernel
theorem hd_X9_mixAll : yX9_mixAll.cls = RX9 ∧ yX9_mixAll.cls ≠ "java/lang/invoke/MethodHandle" ∧ yX9_mixAll.cls ≠ "java/lang/invoke/VarHandle" ∧ (parseMethodDescriptor yX9_mixAll.desc).map (fun d => d.parameters.length) = some 0 := by decide +kernel
theorem hd_Jxe99ae_isNaN_b9ae7 : yJxe99ae_isNaN_b9ae7.cls ≠ "java/lang/invoke/MethodHandle" ∧ yJxe99ae_isNaN_b9ae7.cls ≠ "java/lang/invoke/VarHandle" ∧ (parseMethodDescriptor yJxe99ae_isNaN_b9ae7.desc).map (fun d => d.parameters.length) = some 1 := by decide +kernel
theorem hd_Jxe99ae_doubleToLongBits_ccdee : yJxe99ae_doubleToLongBits_ccdee.cls ≠ "java/lang/invoke/MethodHandle" ∧ yJxe99ae_doubleToLongBits_ccdee.cls ≠ "java/lang/invoke/VarHandle" ∧ (parseMethodDescriptor yJxe99ae_doubleToLongBits_ccdee.desc).map (fun d => d.parameters.length) = some 1 := by decide +kernel
theorem hd_X9_digest : yX9_digest.cls = RX9 ∧ yX9_digest.cls ≠ "java/lang/invoke/MethodHandle" ∧ yX9_digest.cls ≠ "java/lang/invoke/VarHandle" ∧ (parseMethodDescriptor yX9_digest.desc).map (fun d => d.parameters.length) = some 0 := by decide +kernel
