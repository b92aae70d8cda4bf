theorem lmL_15 : (Cond.methodLink RL 15 yX11_init : Cond) ∈ BG := bg_t1 (i := 24) (by decide +kernel) rfl
theorem lmX11_1 : (Cond.methodLink RX11 1 ⟨"java/lang/Object", "<init>", "()V"⟩ : Cond) ∈ BG := bg_t1 (i := 27) (by decide +kernel) rfl
theorem lmX9_3 : (Cond.methodLink RX9 3 ⟨"java/lang/Object", "<init>", "()V"⟩ : Cond) ∈ BG := bg_t1 (i := 35) (by decide +kernel) rfl
theorem lfX9_9 : (Cond.fieldLink RX9 9 "LooseEnds$Tape" "bytes" "[I" : Cond) ∈ BG := bg_t1 (i := 36) (by decide +kernel) rfl
theorem lfX11_110 : (Cond.fieldLink RX11 110 "LooseEnds$Tape" "length" "I" : Cond) ∈ BG := bg_t1 (i := 37) (by decide +kernel) rfl
theorem lfX9_15 : (Cond.fieldLink RX9 15 "LooseEnds$Tape" "length" "I" : Cond) ∈ BG := bg_t1 (i := 38) (by decide +kernel) rfl
theorem lfX3_23 : (Cond.fieldLink RX3 23 "LooseEnds$Tape" "at" "I" : Cond) ∈ BG := bg_t1 (i := 39) (by decide +kernel) rfl
theorem lfX6_25 : (Cond.fieldLink RX6 25 "LooseEnds$Tape" "at" "I" : Cond) ∈ BG := bg_t1 (i := 40) (by decide +kernel) rfl
theorem lfX9_19 : (Cond.fieldLink RX9 19 "LooseEnds$Tape" "at" "I" : Cond) ∈ BG := bg_t1 (i := 41) (by decide +kernel) rfl
theorem lmX5_3 : (Cond.methodLink RX5 3 ⟨"java/lang/Object", "<init>", "()V"⟩ : Cond) ∈ BG := bg_t1 (i := 55) (by decide +kernel) rfl
theorem lfX5_21 : (Cond.fieldLink RX5 21 "LooseEnds$Mill" "ends" "I" : Cond) ∈ BG := bg_t1 (i := 56) (by decide +kernel) rfl
theorem lfX6_35 : (Cond.fieldLink RX6 35 "LooseEnds$Mill" "ends" "I" : Cond) ∈ BG := bg_t1 (i := 57) (by decide +kernel) rfl
theorem lfX8_46 : (Cond.fieldLink RX8 46 "LooseEnds$Mill" "ends" "I" : Cond) ∈ BG := bg_t1 (i := 58) (by decide +kernel) rfl
theorem lfX7_65 : (Cond.fieldLink RX7 65 "LooseEnds$Mill" "ends" "I" : Cond) ∈ BG := bg_t1 (i := 59) (by decide +kernel) rfl
theorem lfX11_143 : (Cond.fieldLink RX11 143 "LooseEnds$Mill" "ends" "I" : Cond) ∈ BG := bg_t1 (i := 60) (by decide +kernel) rfl
theorem lfX10_106 : (Cond.fieldLink RX10 106 "LooseEnds$Mill" "ends" "I" : Cond) ∈ BG := bg_t1 (i := 61) (by decide +kernel) rfl
theorem lfX2_40 : (Cond.fieldLink RX2 40 "LooseEnds$Mill" "pass" "I" : Cond) ∈ BG := bg_t1 (i := 62) (by decide +kernel) rfl
theorem lfX5_25 : (Cond.fieldLink RX5 25 "LooseEnds$Mill" "pass" "I" : Cond) ∈ BG := bg_t1 (i := 63) (by decide +kernel) rfl
theorem lfX6_70 : (Cond.fieldLink RX6 70 "LooseEnds$Mill" "pass" "I" : Cond) ∈ BG := bg_t1 (i := 64) (by decide +kernel) rfl
theorem lfX11_159 : (Cond.fieldLink RX11 159 "LooseEnds$Mill" "pass" "I" : Cond) ∈ BG := bg_t1 (i := 65) (by decide +kernel) rfl
theorem lfX5_28 : (Cond.fieldLink RX5 28 "LooseEnds$Mill" "fade" "I" : Cond) ∈ BG := bg_t1 (i := 66) (by decide +kernel) rfl
theorem lfX10_81 : (Cond.fieldLink RX10 81 "LooseEnds$Mill" "fade" "I" : Cond) ∈ BG := bg_t1 (i := 67) (by decide +kernel) rfl
theorem lfX6_73 : (Cond.fieldLink RX6 73 "LooseEnds$Mill" "fade" "I" : Cond) ∈ BG := bg_t1 (i := 68) (by decide +kernel) rfl
theorem lfX11_162 : (Cond.fieldLink RX11 162 "LooseEnds$Mill" "fade" "I" : Cond) ∈ BG := bg_t1 (i := 69) (by decide +kernel) rfl
theorem lfX0_165 : (Cond.fieldLink RX0 165 "LooseEnds$Mill" "fade" "I" : Cond) ∈ BG := bg_t1 (i := 70) (by decide +kernel) rfl
theorem lfX10_64 : (Cond.fieldLink RX10 64 "LooseEnds$Mill" "girls" "I" : Cond) ∈ BG := bg_t1 (i := 71) (by decide +kernel) rfl
theorem lfX5_31 : (Cond.fieldLink RX5 31 "LooseEnds$Mill" "girls" "I" : Cond) ∈ BG := bg_t1 (i := 72) (by decide +kernel) rfl
theorem lfX6_76 : (Cond.fieldLink RX6 76 "LooseEnds$Mill" "girls" "I" : Cond) ∈ BG := bg_t1 (i := 73) (by decide +kernel) rfl
theorem lfX11_165 : (Cond.fieldLink RX11 165 "LooseEnds$Mill" "girls" "I" : Cond) ∈ BG := bg_t1 (i := 74) (by decide +kernel) rfl
theorem lfX5_34 : (Cond.fieldLink RX5 34 "LooseEnds$Mill" "coins" "I" : Cond) ∈ BG := bg_t1 (i := 75) (by decide +kernel) rfl
theorem lfX8_60 : (Cond.fieldLink RX8 60 "LooseEnds$Mill" "coins" "I" : Cond) ∈ BG := bg_t1 (i := 76) (by decide +kernel) rfl
theorem lfX6_79 : (Cond.fieldLink RX6 79 "LooseEnds$Mill" "coins" "I" : Cond) ∈ BG := bg_t1 (i := 77) (by decide +kernel) rfl
theorem lfX5_9 : (Cond.fieldLink RX5 9 "LooseEnds$Mill" "colours" "[I" : Cond) ∈ BG := bg_t1 (i := 78) (by decide +kernel) rfl
theorem lfX7_34 : (Cond.fieldLink RX7 34 "LooseEnds$Mill" "colours" "[I" : Cond) ∈ BG := bg_t1 (i := 79) (by decide +kernel) rfl
theorem lfX8_52 : (Cond.fieldLink RX8 52 "LooseEnds$Mill" "colours" "[I" : Cond) ∈ BG := bg_t1 (i := 80) (by decide +kernel) rfl
theorem lfX6_86 : (Cond.fieldLink RX6 86 "LooseEnds$Mill" "colours" "[I" : Cond) ∈ BG := bg_t1 (i := 81) (by decide +kernel) rfl
theorem lfX5_15 : (Cond.fieldLink RX5 15 "LooseEnds$Mill" "plies" "[I" : Cond) ∈ BG := bg_t1 (i := 82) (by decide +kernel) rfl
theorem lfX10_35 : (Cond.fieldLink RX10 35 "LooseEnds$Mill" "plies" "[I" : Cond) ∈ BG := bg_t1 (i := 83) (by decide +kernel) rfl
theorem lfX7_45 : (Cond.fieldLink RX7 45 "LooseEnds$Mill" "plies" "[I" : Cond) ∈ BG := bg_t1 (i := 84) (by decide +kernel) rfl
theorem lfX1_52 : (Cond.fieldLink RX1 52 "LooseEnds$Mill" "plies" "[I" : Cond) ∈ BG := bg_t1 (i := 85) (by decide +kernel) rfl
theorem lfX6_89 : (Cond.fieldLink RX6 89 "LooseEnds$Mill" "plies" "[I" : Cond) ∈ BG := bg_t1 (i := 86) (by decide +kernel) rfl
theorem lfX11_185 : (Cond.fieldLink RX11 185 "LooseEnds$Mill" "plies" "[I" : Cond) ∈ BG := bg_t1 (i := 87) (by decide +kernel) rfl
theorem lfX5_18 : (Cond.fieldLink RX5 18 "LooseEnds$Mill" "lengths" "[I" : Cond) ∈ BG := bg_t1 (i := 88) (by decide +kernel) rfl
theorem lfX7_48 : (Cond.fieldLink RX7 48 "LooseEnds$Mill" "lengths" "[I" : Cond) ∈ BG := bg_t1 (i := 89) (by decide +kernel) rfl
theorem lfX8_53 : (Cond.fieldLink RX8 53 "LooseEnds$Mill" "lengths" "[I" : Cond) ∈ BG := bg_t1 (i := 90) (by decide +kernel) rfl
theorem lfX6_92 : (Cond.fieldLink RX6 92 "LooseEnds$Mill" "lengths" "[I" : Cond) ∈ BG := bg_t1 (i := 91) (by decide +kernel) rfl
theorem lmX11_25 : (Cond.methodLink RX11 25 yX6_init : Cond) ∈ BG := bg_t1 (i := 111) (by decide +kernel) rfl
theorem lmX6_3 : (Cond.methodLink RX6 3 ⟨"java/lang/Object", "<init>", "()V"⟩ : Cond) ∈ BG := bg_t1 (i := 114) (by decide +kernel) rfl
theorem lfX6_18 : (Cond.fieldLink RX6 18 "LooseEnds$MillReader" "tape" "LLooseEnds$Tape;" : Cond) ∈ BG := bg_t1 (i := 117) (by decide +kernel) rfl
theorem lfX6_12 : (Cond.fieldLink RX6 12 "LooseEnds$MillReader" "draft" "LLooseEnds$Mill;" : Cond) ∈ BG := bg_t1 (i := 118) (by decide +kernel) rfl
theorem lfX11_128 : (Cond.fieldLink RX11 128 "LooseEnds$MillReader" "draft" "LLooseEnds$Mill;" : Cond) ∈ BG := bg_t1 (i := 119) (by decide +kernel) rfl
theorem lmX11_34 : (Cond.methodLink RX11 34 yX3_init : Cond) ∈ BG := bg_t1 (i := 127) (by decide +kernel) rfl
theorem lmX3_3 : (Cond.methodLink RX3 3 ⟨"java/lang/Object", "<init>", "()V"⟩ : Cond) ∈ BG := bg_t1 (i := 130) (by decide +kernel) rfl
theorem lfX3_15 : (Cond.fieldLink RX3 15 "LooseEnds$LawReader" "tape" "LLooseEnds$Tape;" : Cond) ∈ BG := bg_t1 (i := 131) (by decide +kernel) rfl
theorem lfX3_9 : (Cond.fieldLink RX3 9 "LooseEnds$LawReader" "steps" "[I" : Cond) ∈ BG := bg_t1 (i := 132) (by decide +kernel) rfl
theorem lfX11_147 : (Cond.fieldLink RX11 147 "LooseEnds$LawReader" "steps" "[I" : Cond) ∈ BG := bg_t1 (i := 133) (by decide +kernel) rfl
theorem lfX3_19 : (Cond.fieldLink RX3 19 "LooseEnds$LawReader" "size" "I" : Cond) ∈ BG := bg_t1 (i := 134) (by decide +kernel) rfl
theorem lfX11_150 : (Cond.fieldLink RX11 150 "LooseEnds$LawReader" "size" "I" : Cond) ∈ BG := bg_t1 (i := 135) (by decide +kernel) rfl
theorem lmX11_41 : (Cond.methodLink RX11 41 yX2_init : Cond) ∈ BG := bg_t1 (i := 145) (by decide +kernel) rfl
theorem lmX2_3 : (Cond.methodLink RX2 3 ⟨"java/lang/Object", "<init>", "()V"⟩ : Cond) ∈ BG := bg_t1 (i := 148) (by decide +kernel) rfl
theorem lfX2_27 : (Cond.fieldLink RX2 27 "LooseEnds$Judge" "mill" "LLooseEnds$Mill;" : Cond) ∈ BG := bg_t1 (i := 151) (by decide +kernel) rfl
theorem lfX2_11 : (Cond.fieldLink RX2 11 "LooseEnds$Judge" "laws" "[[I" : Cond) ∈ BG := bg_t1 (i := 152) (by decide +kernel) rfl
theorem lfX2_16 : (Cond.fieldLink RX2 16 "LooseEnds$Judge" "letters" "[I" : Cond) ∈ BG := bg_t1 (i := 153) (by decide +kernel) rfl
theorem lfX2_20 : (Cond.fieldLink RX2 20 "LooseEnds$Judge" "stack" "[I" : Cond) ∈ BG := bg_t1 (i := 154) (by decide +kernel) rfl
theorem lfX2_31 : (Cond.fieldLink RX2 31 "LooseEnds$Judge" "size" "I" : Cond) ∈ BG := bg_t1 (i := 155) (by decide +kernel) rfl
theorem lfX11_146 : (Cond.fieldLink RX11 146 "LooseEnds$Judge" "size" "I" : Cond) ∈ BG := bg_t1 (i := 156) (by decide +kernel) rfl
theorem lfX2_23 : (Cond.fieldLink RX2 23 "LooseEnds$Judge" "holding" "I" : Cond) ∈ BG := bg_t1 (i := 157) (by decide +kernel) rfl
theorem lfX11_200 : (Cond.fieldLink RX11 200 "LooseEnds$Judge" "holding" "I" : Cond) ∈ BG := bg_t1 (i := 158) (by decide +kernel) rfl
theorem lmX8_3 : (Cond.methodLink RX8 3 ⟨"java/lang/Object", "<init>", "()V"⟩ : Cond) ∈ BG := bg_t1 (i := 177) (by decide +kernel) rfl
theorem lfX8_9 : (Cond.fieldLink RX8 9 "LooseEnds$State" "colours" "[I" : Cond) ∈ BG := bg_t1 (i := 178) (by decide +kernel) rfl
theorem lfX10_23 : (Cond.fieldLink RX10 23 "LooseEnds$State" "colours" "[I" : Cond) ∈ BG := bg_t1 (i := 179) (by decide +kernel) rfl
theorem lfX1_30 : (Cond.fieldLink RX1 30 "LooseEnds$State" "colours" "[I" : Cond) ∈ BG := bg_t1 (i := 180) (by decide +kernel) rfl
theorem lfX11_182 : (Cond.fieldLink RX11 182 "LooseEnds$State" "colours" "[I" : Cond) ∈ BG := bg_t1 (i := 181) (by decide +kernel) rfl
theorem lfX8_15 : (Cond.fieldLink RX8 15 "LooseEnds$State" "lengths" "[I" : Cond) ∈ BG := bg_t1 (i := 182) (by decide +kernel) rfl
theorem lfX10_40 : (Cond.fieldLink RX10 40 "LooseEnds$State" "lengths" "[I" : Cond) ∈ BG := bg_t1 (i := 183) (by decide +kernel) rfl
theorem lfX1_57 : (Cond.fieldLink RX1 57 "LooseEnds$State" "lengths" "[I" : Cond) ∈ BG := bg_t1 (i := 184) (by decide +kernel) rfl
theorem lfX11_188 : (Cond.fieldLink RX11 188 "LooseEnds$State" "lengths" "[I" : Cond) ∈ BG := bg_t1 (i := 185) (by decide +kernel) rfl
theorem lfX8_18 : (Cond.fieldLink RX8 18 "LooseEnds$State" "behind" "[I" : Cond) ∈ BG := bg_t1 (i := 186) (by decide +kernel) rfl
theorem lfX11_194 : (Cond.fieldLink RX11 194 "LooseEnds$State" "behind" "[I" : Cond) ∈ BG := bg_t1 (i := 187) (by decide +kernel) rfl
theorem lfX0_173 : (Cond.fieldLink RX0 173 "LooseEnds$State" "behind" "[I" : Cond) ∈ BG := bg_t1 (i := 188) (by decide +kernel) rfl
theorem lfX8_21 : (Cond.fieldLink RX8 21 "LooseEnds$State" "ahead" "[I" : Cond) ∈ BG := bg_t1 (i := 189) (by decide +kernel) rfl
theorem lfX0_88 : (Cond.fieldLink RX0 88 "LooseEnds$State" "ahead" "[I" : Cond) ∈ BG := bg_t1 (i := 190) (by decide +kernel) rfl
theorem lfX11_197 : (Cond.fieldLink RX11 197 "LooseEnds$State" "ahead" "[I" : Cond) ∈ BG := bg_t1 (i := 191) (by decide +kernel) rfl
theorem lfX0_49 : (Cond.fieldLink RX0 49 "LooseEnds$State" "ends" "I" : Cond) ∈ BG := bg_t1 (i := 192) (by decide +kernel) rfl
theorem lfX8_51 : (Cond.fieldLink RX8 51 "LooseEnds$State" "ends" "I" : Cond) ∈ BG := bg_t1 (i := 193) (by decide +kernel) rfl
theorem lfX1_44 : (Cond.fieldLink RX1 44 "LooseEnds$State" "ends" "I" : Cond) ∈ BG := bg_t1 (i := 194) (by decide +kernel) rfl
theorem lfX8_30 : (Cond.fieldLink RX8 30 "LooseEnds$State" "sold" "I" : Cond) ∈ BG := bg_t1 (i := 195) (by decide +kernel) rfl
theorem lfX11_240 : (Cond.fieldLink RX11 240 "LooseEnds$State" "sold" "I" : Cond) ∈ BG := bg_t1 (i := 196) (by decide +kernel) rfl
theorem lfX8_34 : (Cond.fieldLink RX8 34 "LooseEnds$State" "tries" "I" : Cond) ∈ BG := bg_t1 (i := 197) (by decide +kernel) rfl
theorem lfX10_61 : (Cond.fieldLink RX10 61 "LooseEnds$State" "tries" "I" : Cond) ∈ BG := bg_t1 (i := 198) (by decide +kernel) rfl
theorem lfX4_60 : (Cond.fieldLink RX4 60 "LooseEnds$State" "tries" "I" : Cond) ∈ BG := bg_t1 (i := 199) (by decide +kernel) rfl
theorem lfX11_374 : (Cond.fieldLink RX11 374 "LooseEnds$State" "tries" "I" : Cond) ∈ BG := bg_t1 (i := 200) (by decide +kernel) rfl
theorem lfX8_37 : (Cond.fieldLink RX8 37 "LooseEnds$State" "made" "I" : Cond) ∈ BG := bg_t1 (i := 201) (by decide +kernel) rfl
theorem lfX10_78 : (Cond.fieldLink RX10 78 "LooseEnds$State" "made" "I" : Cond) ∈ BG := bg_t1 (i := 202) (by decide +kernel) rfl
theorem lfX4_63 : (Cond.fieldLink RX4 63 "LooseEnds$State" "made" "I" : Cond) ∈ BG := bg_t1 (i := 203) (by decide +kernel) rfl
theorem lfX8_40 : (Cond.fieldLink RX8 40 "LooseEnds$State" "coins" "I" : Cond) ∈ BG := bg_t1 (i := 204) (by decide +kernel) rfl
theorem lfX10_99 : (Cond.fieldLink RX10 99 "LooseEnds$State" "coins" "I" : Cond) ∈ BG := bg_t1 (i := 205) (by decide +kernel) rfl
theorem lfX4_66 : (Cond.fieldLink RX4 66 "LooseEnds$State" "coins" "I" : Cond) ∈ BG := bg_t1 (i := 206) (by decide +kernel) rfl
theorem lfX11_168 : (Cond.fieldLink RX11 168 "LooseEnds$State" "coins" "I" : Cond) ∈ BG := bg_t1 (i := 207) (by decide +kernel) rfl
theorem lfX10_43 : (Cond.fieldLink RX10 43 "LooseEnds$State" "day" "I" : Cond) ∈ BG := bg_t1 (i := 208) (by decide +kernel) rfl
theorem lfX8_43 : (Cond.fieldLink RX8 43 "LooseEnds$State" "day" "I" : Cond) ∈ BG := bg_t1 (i := 209) (by decide +kernel) rfl
theorem lfX1_60 : (Cond.fieldLink RX1 60 "LooseEnds$State" "day" "I" : Cond) ∈ BG := bg_t1 (i := 210) (by decide +kernel) rfl
theorem lfX4_53 : (Cond.fieldLink RX4 53 "LooseEnds$State" "day" "I" : Cond) ∈ BG := bg_t1 (i := 211) (by decide +kernel) rfl
theorem lfX11_249 : (Cond.fieldLink RX11 249 "LooseEnds$State" "day" "I" : Cond) ∈ BG := bg_t1 (i := 212) (by decide +kernel) rfl
theorem lmX4_5 : (Cond.methodLink RX4 5 ⟨"java/lang/Object", "<init>", "()V"⟩ : Cond) ∈ BG := bg_t1 (i := 239) (by decide +kernel) rfl
theorem lfX4_13 : (Cond.fieldLink RX4 13 "LooseEnds$Memory" "acts" "[I" : Cond) ∈ BG := bg_t2 (i := 0) (by decide +kernel) rfl
theorem lfX4_17 : (Cond.fieldLink RX4 17 "LooseEnds$Memory" "logged" "[I" : Cond) ∈ BG := bg_t2 (i := 1) (by decide +kernel) rfl
theorem lfX4_20 : (Cond.fieldLink RX4 20 "LooseEnds$Memory" "imaged" "[I" : Cond) ∈ BG := bg_t2 (i := 2) (by decide +kernel) rfl
theorem lfX4_23 : (Cond.fieldLink RX4 23 "LooseEnds$Memory" "imagedLog" "[I" : Cond) ∈ BG := bg_t2 (i := 3) (by decide +kernel) rfl
theorem lfX4_33 : (Cond.fieldLink RX4 33 "LooseEnds$Memory" "hasImage" "Z" : Cond) ∈ BG := bg_t2 (i := 4) (by decide +kernel) rfl
theorem lfX4_30 : (Cond.fieldLink RX4 30 "LooseEnds$Memory" "next" "I" : Cond) ∈ BG := bg_t2 (i := 5) (by decide +kernel) rfl
theorem lfX4_26 : (Cond.fieldLink RX4 26 "LooseEnds$Memory" "size" "I" : Cond) ∈ BG := bg_t2 (i := 6) (by decide +kernel) rfl
theorem lfX11_267 : (Cond.fieldLink RX11 267 "LooseEnds$Memory" "size" "I" : Cond) ∈ BG := bg_t2 (i := 7) (by decide +kernel) rfl
theorem lmX11_64 : (Cond.methodLink RX11 64 yX10_init : Cond) ∈ BG := bg_t2 (i := 25) (by decide +kernel) rfl
theorem lmX10_3 : (Cond.methodLink RX10 3 ⟨"java/lang/Object", "<init>", "()V"⟩ : Cond) ∈ BG := bg_t2 (i := 28) (by decide +kernel) rfl
theorem lfX10_9 : (Cond.fieldLink RX10 9 "LooseEnds$Works" "mill" "LLooseEnds$Mill;" : Cond) ∈ BG := bg_t2 (i := 29) (by decide +kernel) rfl
theorem lfX10_15 : (Cond.fieldLink RX10 15 "LooseEnds$Works" "judge" "LLooseEnds$Judge;" : Cond) ∈ BG := bg_t2 (i := 30) (by decide +kernel) rfl
theorem lfX10_19 : (Cond.fieldLink RX10 19 "LooseEnds$Works" "memory" "LLooseEnds$Memory;" : Cond) ∈ BG := bg_t2 (i := 31) (by decide +kernel) rfl
theorem lfX10_130 : (Cond.fieldLink RX10 130 "LooseEnds$Works" "seed" "J" : Cond) ∈ BG := bg_t2 (i := 32) (by decide +kernel) rfl
theorem lfX11_255 : (Cond.fieldLink RX11 255 "LooseEnds$Works" "seed" "J" : Cond) ∈ BG := bg_t2 (i := 33) (by decide +kernel) rfl
theorem lmX11_73 : (Cond.methodLink RX11 73 yX0_init : Cond) ∈ BG := bg_t2 (i := 45) (by decide +kernel) rfl
theorem lmX0_3 : (Cond.methodLink RX0 3 ⟨"java/lang/Object", "<init>", "()V"⟩ : Cond) ∈ BG := bg_t2 (i := 48) (by decide +kernel) rfl
theorem lfX0_34 : (Cond.fieldLink RX0 34 "LooseEnds$Advice" "mill" "LLooseEnds$Mill;" : Cond) ∈ BG := bg_t2 (i := 51) (by decide +kernel) rfl
theorem lfX0_38 : (Cond.fieldLink RX0 38 "LooseEnds$Advice" "works" "LLooseEnds$Works;" : Cond) ∈ BG := bg_t2 (i := 52) (by decide +kernel) rfl
theorem lfX0_42 : (Cond.fieldLink RX0 42 "LooseEnds$Advice" "now" "LLooseEnds$State;" : Cond) ∈ BG := bg_t2 (i := 53) (by decide +kernel) rfl
theorem lfX0_12 : (Cond.fieldLink RX0 12 "LooseEnds$Advice" "trial" "LLooseEnds$State;" : Cond) ∈ BG := bg_t2 (i := 54) (by decide +kernel) rfl
theorem lfX0_18 : (Cond.fieldLink RX0 18 "LooseEnds$Advice" "partners" "[I" : Cond) ∈ BG := bg_t2 (i := 55) (by decide +kernel) rfl
theorem lfX0_22 : (Cond.fieldLink RX0 22 "LooseEnds$Advice" "openFrom" "[I" : Cond) ∈ BG := bg_t2 (i := 56) (by decide +kernel) rfl
theorem lfX0_25 : (Cond.fieldLink RX0 25 "LooseEnds$Advice" "rows" "[I" : Cond) ∈ BG := bg_t2 (i := 57) (by decide +kernel) rfl
theorem lfX0_28 : (Cond.fieldLink RX0 28 "LooseEnds$Advice" "fills" "[I" : Cond) ∈ BG := bg_t2 (i := 58) (by decide +kernel) rfl
theorem lfX0_31 : (Cond.fieldLink RX0 31 "LooseEnds$Advice" "bundles" "[I" : Cond) ∈ BG := bg_t2 (i := 59) (by decide +kernel) rfl
theorem lfX0_77 : (Cond.fieldLink RX0 77 "LooseEnds$Advice" "mostJoined" "I" : Cond) ∈ BG := bg_t2 (i := 60) (by decide +kernel) rfl
theorem lfX0_70 : (Cond.fieldLink RX0 70 "LooseEnds$Advice" "best" "I" : Cond) ∈ BG := bg_t2 (i := 61) (by decide +kernel) rfl
theorem lfX11_288 : (Cond.fieldLink RX11 288 "LooseEnds$Advice" "best" "I" : Cond) ∈ BG := bg_t2 (i := 62) (by decide +kernel) rfl
theorem lfX0_91 : (Cond.fieldLink RX0 91 "LooseEnds$Advice" "bestRow" "I" : Cond) ∈ BG := bg_t2 (i := 63) (by decide +kernel) rfl
theorem lfX11_285 : (Cond.fieldLink RX11 285 "LooseEnds$Advice" "bestRow" "I" : Cond) ∈ BG := bg_t2 (i := 64) (by decide +kernel) rfl
theorem lmX11_82 : (Cond.methodLink RX11 82 yX7_init : Cond) ∈ BG := bg_t2 (i := 92) (by decide +kernel) rfl
theorem lmX7_3 : (Cond.methodLink RX7 3 ⟨"java/lang/Object", "<init>", "()V"⟩ : Cond) ∈ BG := bg_t2 (i := 95) (by decide +kernel) rfl
theorem lfX7_22 : (Cond.fieldLink RX7 22 "LooseEnds$Sightings" "mill" "LLooseEnds$Mill;" : Cond) ∈ BG := bg_t2 (i := 96) (by decide +kernel) rfl
theorem lfX7_26 : (Cond.fieldLink RX7 26 "LooseEnds$Sightings" "judge" "LLooseEnds$Judge;" : Cond) ∈ BG := bg_t2 (i := 97) (by decide +kernel) rfl
theorem lfX7_11 : (Cond.fieldLink RX7 11 "LooseEnds$Sightings" "ones" "[I" : Cond) ∈ BG := bg_t2 (i := 98) (by decide +kernel) rfl
theorem lfX7_15 : (Cond.fieldLink RX7 15 "LooseEnds$Sightings" "others" "[I" : Cond) ∈ BG := bg_t2 (i := 99) (by decide +kernel) rfl
theorem lfX7_18 : (Cond.fieldLink RX7 18 "LooseEnds$Sightings" "went" "[Z" : Cond) ∈ BG := bg_t2 (i := 100) (by decide +kernel) rfl
theorem lfX7_30 : (Cond.fieldLink RX7 30 "LooseEnds$Sightings" "size" "I" : Cond) ∈ BG := bg_t2 (i := 101) (by decide +kernel) rfl
theorem lfX11_140 : (Cond.fieldLink RX11 140 "LooseEnds$Sightings" "size" "I" : Cond) ∈ BG := bg_t2 (i := 102) (by decide +kernel) rfl
theorem lmX11_91 : (Cond.methodLink RX11 91 yX1_init : Cond) ∈ BG := bg_t2 (i := 119) (by decide +kernel) rfl
theorem lmX1_3 : (Cond.methodLink RX1 3 ⟨"java/lang/Object", "<init>", "()V"⟩ : Cond) ∈ BG := bg_t2 (i := 122) (by decide +kernel) rfl
theorem lfX1_18 : (Cond.fieldLink RX1 18 "LooseEnds$Duel" "mill" "LLooseEnds$Mill;" : Cond) ∈ BG := bg_t2 (i := 123) (by decide +kernel) rfl
theorem lfX1_22 : (Cond.fieldLink RX1 22 "LooseEnds$Duel" "judge" "LLooseEnds$Judge;" : Cond) ∈ BG := bg_t2 (i := 124) (by decide +kernel) rfl
theorem lfX1_26 : (Cond.fieldLink RX1 26 "LooseEnds$Duel" "now" "LLooseEnds$State;" : Cond) ∈ BG := bg_t2 (i := 125) (by decide +kernel) rfl
theorem lfX1_11 : (Cond.fieldLink RX1 11 "LooseEnds$Duel" "mine" "[I" : Cond) ∈ BG := bg_t2 (i := 126) (by decide +kernel) rfl
theorem lfX1_15 : (Cond.fieldLink RX1 15 "LooseEnds$Duel" "theirs" "[I" : Cond) ∈ BG := bg_t2 (i := 127) (by decide +kernel) rfl
theorem lfX11_10 : (Cond.fieldLink RX11 10 "LooseEnds" "tape" "LLooseEnds$Tape;" : Cond) ∈ BG := bg_t2 (i := 139) (by decide +kernel) rfl
theorem lfX11_19 : (Cond.fieldLink RX11 19 "LooseEnds" "mill" "LLooseEnds$Mill;" : Cond) ∈ BG := bg_t2 (i := 140) (by decide +kernel) rfl
theorem lfX11_28 : (Cond.fieldLink RX11 28 "LooseEnds" "millReader" "LLooseEnds$MillReader;" : Cond) ∈ BG := bg_t2 (i := 141) (by decide +kernel) rfl
theorem lfX11_35 : (Cond.fieldLink RX11 35 "LooseEnds" "lawReader" "LLooseEnds$LawReader;" : Cond) ∈ BG := bg_t2 (i := 142) (by decide +kernel) rfl
theorem lfX11_44 : (Cond.fieldLink RX11 44 "LooseEnds" "judge" "LLooseEnds$Judge;" : Cond) ∈ BG := bg_t2 (i := 143) (by decide +kernel) rfl
theorem lfX11_51 : (Cond.fieldLink RX11 51 "LooseEnds" "now" "LLooseEnds$State;" : Cond) ∈ BG := bg_t2 (i := 144) (by decide +kernel) rfl
theorem lfX11_58 : (Cond.fieldLink RX11 58 "LooseEnds" "memory" "LLooseEnds$Memory;" : Cond) ∈ BG := bg_t2 (i := 145) (by decide +kernel) rfl
theorem lfX11_67 : (Cond.fieldLink RX11 67 "LooseEnds" "works" "LLooseEnds$Works;" : Cond) ∈ BG := bg_t2 (i := 146) (by decide +kernel) rfl
theorem lfX11_76 : (Cond.fieldLink RX11 76 "LooseEnds" "advice" "LLooseEnds$Advice;" : Cond) ∈ BG := bg_t2 (i := 147) (by decide +kernel) rfl
theorem lfX11_85 : (Cond.fieldLink RX11 85 "LooseEnds" "sightings" "LLooseEnds$Sightings;" : Cond) ∈ BG := bg_t2 (i := 148) (by decide +kernel) rfl
theorem lfX11_94 : (Cond.fieldLink RX11 94 "LooseEnds" "duel" "LLooseEnds$Duel;" : Cond) ∈ BG := bg_t2 (i := 149) (by decide +kernel) rfl
theorem lfX11_98 : (Cond.fieldLink RX11 98 "LooseEnds" "refused" "[I" : Cond) ∈ BG := bg_t2 (i := 150) (by decide +kernel) rfl
theorem lfX11_102 : (Cond.fieldLink RX11 102 "LooseEnds" "waking" "I" : Cond) ∈ BG := bg_t2 (i := 151) (by decide +kernel) rfl
theorem lmL_19 : (Cond.methodLink RL 19 yX11_feed : Cond) ∈ BG := bg_t2 (i := 179) (by decide +kernel) rfl
theorem lmX11_106 : (Cond.methodLink RX11 106 yX9_bytesIn : Cond) ∈ BG := bg_t2 (i := 183) (by decide +kernel) rfl
theorem lmX11_113 : (Cond.methodLink RX11 113 yX9_put : Cond) ∈ BG := bg_t2 (i := 186) (by decide +kernel) rfl
theorem lmL_24 : (Cond.methodLink RL 24 yX11_end : Cond) ∈ BG := bg_t2 (i := 190) (by decide +kernel) rfl
theorem lmL_29 : (Cond.methodLink RL 29 yX11_fault : Cond) ∈ BG := bg_t2 (i := 194) (by decide +kernel) rfl
theorem lmX11_117 : (Cond.methodLink RX11 117 yX6_read : Cond) ∈ BG := bg_t2 (i := 198) (by decide +kernel) rfl
theorem lmX6_22 : (Cond.methodLink RX6 22 yX5_clear : Cond) ∈ BG := bg_t2 (i := 202) (by decide +kernel) rfl
theorem lmX6_31 : (Cond.methodLink RX6 31 yX9_sign : Cond) ∈ BG := bg_t2 (i := 206) (by decide +kernel) rfl
theorem lmX6_38 : (Cond.methodLink RX6 38 yX5_addEnd : Cond) ∈ BG := bg_t2 (i := 210) (by decide +kernel) rfl
theorem lmX6_41 : (Cond.methodLink RX6 41 yX6_readItems : Cond) ∈ BG := bg_t2 (i := 214) (by decide +kernel) rfl
theorem lfX6_48 : (Cond.fieldLink RX6 48 "LooseEnds$MillReader" "LEAST" "[I" : Cond) ∈ BG := bg_t2 (i := 218) (by decide +kernel) rfl
theorem lmX6_52 : (Cond.methodLink RX6 52 yX6_itemOf : Cond) ∈ BG := bg_t2 (i := 220) (by decide +kernel) rfl
theorem lmX6_56 : (Cond.methodLink RX6 56 yX6_readNumber : Cond) ∈ BG := bg_t2 (i := 223) (by decide +kernel) rfl
theorem lmX6_59 : (Cond.methodLink RX6 59 yX9_number : Cond) ∈ BG := bg_t2 (i := 227) (by decide +kernel) rfl
theorem lmX9_22 : (Cond.methodLink RX9 22 yX9_sign : Cond) ∈ BG := bg_t2 (i := 231) (by decide +kernel) rfl
theorem lmX9_26 : (Cond.methodLink RX9 26 yX9_isDigit : Cond) ∈ BG := bg_t2 (i := 232) (by decide +kernel) rfl
theorem lfX6_63 : (Cond.fieldLink RX6 63 "LooseEnds$MillReader" "MOST" "[I" : Cond) ∈ BG := bg_t2 (i := 235) (by decide +kernel) rfl
theorem lmX6_66 : (Cond.methodLink RX6 66 yX6_write : Cond) ∈ BG := bg_t2 (i := 237) (by decide +kernel) rfl
theorem lmX6_82 : (Cond.methodLink RX6 82 yX6_writeOfEnd : Cond) ∈ BG := bg_t3 (i := 1) (by decide +kernel) rfl
theorem lmX6_45 : (Cond.methodLink RX6 45 yX9_take : Cond) ∈ BG := bg_t3 (i := 5) (by decide +kernel) rfl
theorem lmX11_121 : (Cond.methodLink RX11 121 yX3_read : Cond) ∈ BG := bg_t3 (i := 9) (by decide +kernel) rfl
theorem lmX3_28 : (Cond.methodLink RX3 28 yX3_readClause : Cond) ∈ BG := bg_t3 (i := 13) (by decide +kernel) rfl
theorem lmX3_36 : (Cond.methodLink RX3 36 yX9_take : Cond) ∈ BG := bg_t3 (i := 17) (by decide +kernel) rfl
theorem lmX3_32 : (Cond.methodLink RX3 32 yX9_sign : Cond) ∈ BG := bg_t3 (i := 18) (by decide +kernel) rfl
theorem lmX3_40 : (Cond.methodLink RX3 40 yX3_readSum : Cond) ∈ BG := bg_t3 (i := 19) (by decide +kernel) rfl
theorem lmX3_69 : (Cond.methodLink RX3 69 yX3_readTerm : Cond) ∈ BG := bg_t3 (i := 23) (by decide +kernel) rfl
theorem lmX3_72 : (Cond.methodLink RX3 72 yX3_readAtom : Cond) ∈ BG := bg_t3 (i := 27) (by decide +kernel) rfl
theorem lmX3_75 : (Cond.methodLink RX3 75 yX9_isDigit : Cond) ∈ BG := bg_t3 (i := 31) (by decide +kernel) rfl
theorem lmX3_78 : (Cond.methodLink RX3 78 yX3_readNumber : Cond) ∈ BG := bg_t3 (i := 32) (by decide +kernel) rfl
theorem lmX3_85 : (Cond.methodLink RX3 85 yX9_number : Cond) ∈ BG := bg_t3 (i := 36) (by decide +kernel) rfl
theorem lmX3_52 : (Cond.methodLink RX3 52 yX3_write : Cond) ∈ BG := bg_t3 (i := 37) (by decide +kernel) rfl
theorem lmX3_81 : (Cond.methodLink RX3 81 yX3_letterOf : Cond) ∈ BG := bg_t3 (i := 41) (by decide +kernel) rfl
theorem lmX3_43 : (Cond.methodLink RX3 43 yX3_isComparison : Cond) ∈ BG := bg_t3 (i := 44) (by decide +kernel) rfl
theorem lmX3_46 : (Cond.methodLink RX3 46 yX3_readConditioned : Cond) ∈ BG := bg_t3 (i := 47) (by decide +kernel) rfl
theorem lmX3_56 : (Cond.methodLink RX3 56 yX3_readCondition : Cond) ∈ BG := bg_t3 (i := 51) (by decide +kernel) rfl
theorem lmX3_60 : (Cond.methodLink RX3 60 yX3_readTruth : Cond) ∈ BG := bg_t3 (i := 55) (by decide +kernel) rfl
theorem lmX3_63 : (Cond.methodLink RX3 63 yX3_readComparison : Cond) ∈ BG := bg_t3 (i := 59) (by decide +kernel) rfl
theorem lmX3_66 : (Cond.methodLink RX3 66 yX3_readUnit : Cond) ∈ BG := bg_t3 (i := 63) (by decide +kernel) rfl
theorem lmL_34 : (Cond.methodLink RL 34 yX11_text : Cond) ∈ BG := bg_t3 (i := 67) (by decide +kernel) rfl
theorem lmX11_122 : (Cond.methodLink RX11 122 yX11_takeMill : Cond) ∈ BG := bg_t3 (i := 71) (by decide +kernel) rfl
theorem lmX11_131 : (Cond.methodLink RX11 131 yX5_copyFrom : Cond) ∈ BG := bg_t3 (i := 75) (by decide +kernel) rfl
theorem lmX5_37 : (Cond.methodLink RX5 37 ⟨"java/lang/System", "arraycopy", "(Ljava/lang/Object;ILjava/lang/Object;II)V"⟩ : Cond) ∈ BG := bg_t3 (i := 79) (by decide +kernel) rfl
theorem lmX11_134 : (Cond.methodLink RX11 134 yX8_begin : Cond) ∈ BG := bg_t3 (i := 82) (by decide +kernel) rfl
theorem lmX8_24 : (Cond.methodLink RX8 24 ⟨"java/lang/System", "arraycopy", "(Ljava/lang/Object;ILjava/lang/Object;II)V"⟩ : Cond) ∈ BG := bg_t3 (i := 86) (by decide +kernel) rfl
theorem lmX8_54 : (Cond.methodLink RX8 54 yJ7_fill_53178 : Cond) ∈ BG := bg_t3 (i := 87) (by decide +kernel) rfl
theorem lmX11_137 : (Cond.methodLink RX11 137 yX4_forget : Cond) ∈ BG := bg_t3 (i := 90) (by decide +kernel) rfl
theorem lmX11_125 : (Cond.methodLink RX11 125 yX11_takeLaw : Cond) ∈ BG := bg_t3 (i := 94) (by decide +kernel) rfl
theorem lmX11_151 : (Cond.methodLink RX11 151 yX2_add : Cond) ∈ BG := bg_t3 (i := 98) (by decide +kernel) rfl
theorem lmX2_34 : (Cond.methodLink RX2 34 yJ7_copyOf_59c91 : Cond) ∈ BG := bg_t3 (i := 102) (by decide +kernel) rfl
theorem lmJ7_316 : (Cond.methodLink RJ7 316 ⟨"[I", "clone", "()Ljava/lang/Object;"⟩ : Cond) ∈ BG := bg_t3 (i := 105) (by decide +kernel) rfl
theorem lmJ7_304 : (Cond.methodLink RJ7 304 yJ9_min_7cf53 : Cond) ∈ BG := bg_t3 (i := 112) (by decide +kernel) rfl
theorem lmJ7_150 : (Cond.methodLink RJ7 150 ⟨"java/lang/System", "arraycopy", "(Ljava/lang/Object;ILjava/lang/Object;II)V"⟩ : Cond) ∈ BG := bg_t3 (i := 115) (by decide +kernel) rfl
theorem lmL_38 : (Cond.methodLink RL 38 yX11_rule : Cond) ∈ BG := bg_t3 (i := 116) (by decide +kernel) rfl
theorem lmX11_155 : (Cond.methodLink RX11 155 yX5_isThere : Cond) ∈ BG := bg_t3 (i := 120) (by decide +kernel) rfl
theorem lmL_52 : (Cond.methodLink RL 52 yX11_law : Cond) ∈ BG := bg_t3 (i := 124) (by decide +kernel) rfl
theorem lmL_56 : (Cond.methodLink RL 56 yX11_attempt : Cond) ∈ BG := bg_t3 (i := 128) (by decide +kernel) rfl
theorem lmX11_203 : (Cond.methodLink RX11 203 yX10_tryRefusal : Cond) ∈ BG := bg_t3 (i := 132) (by decide +kernel) rfl
theorem lmX10_53 : (Cond.methodLink RX10 53 yX5_has : Cond) ∈ BG := bg_t3 (i := 136) (by decide +kernel) rfl
theorem lmX10_57 : (Cond.methodLink RX10 57 yX8_isOpen : Cond) ∈ BG := bg_t3 (i := 140) (by decide +kernel) rfl
theorem lmX8_61 : (Cond.methodLink RX8 61 yX8_isSold : Cond) ∈ BG := bg_t3 (i := 144) (by decide +kernel) rfl
theorem lmX8_71 : (Cond.methodLink RX8 71 yX8_firstOf : Cond) ∈ BG := bg_t3 (i := 148) (by decide +kernel) rfl
theorem lmX11_207 : (Cond.methodLink RX11 207 yX11_refuse : Cond) ∈ BG := bg_t3 (i := 152) (by decide +kernel) rfl
theorem lmX11_210 : (Cond.methodLink RX11 210 yX4_keep : Cond) ∈ BG := bg_t3 (i := 156) (by decide +kernel) rfl
theorem lmX4_37 : (Cond.methodLink RX4 37 yX8_writeTo : Cond) ∈ BG := bg_t3 (i := 160) (by decide +kernel) rfl
theorem lmX4_41 : (Cond.methodLink RX4 41 yJ9_min_7cf53 : Cond) ∈ BG := bg_t3 (i := 164) (by decide +kernel) rfl
theorem lmX11_214 : (Cond.methodLink RX11 214 yX10_tryOn : Cond) ∈ BG := bg_t3 (i := 165) (by decide +kernel) rfl
theorem lmX10_67 : (Cond.methodLink RX10 67 yX8_sizeOf : Cond) ∈ BG := bg_t3 (i := 169) (by decide +kernel) rfl
theorem lmX8_75 : (Cond.methodLink RX8 75 yX8_taleOf : Cond) ∈ BG := bg_t3 (i := 173) (by decide +kernel) rfl
theorem lmX8_78 : (Cond.methodLink RX8 78 yJ6_bitCount_0f7a4 : Cond) ∈ BG := bg_t3 (i := 177) (by decide +kernel) rfl
theorem lcJ6_265 : (Cond.constant RJ6 265 (1431655765) : Cond) ∈ BG := bg_t3 (i := 180) (by decide +kernel) rfl
theorem lcJ6_266 : (Cond.constant RJ6 266 (858993459) : Cond) ∈ BG := bg_t3 (i := 181) (by decide +kernel) rfl
theorem lcJ6_267 : (Cond.constant RJ6 267 (252645135) : Cond) ∈ BG := bg_t3 (i := 182) (by decide +kernel) rfl
theorem lmX10_70 : (Cond.methodLink RX10 70 yX10_goesWith : Cond) ∈ BG := bg_t3 (i := 183) (by decide +kernel) rfl
theorem lmX10_29 : (Cond.methodLink RX10 29 yJ9_abs_0f7a4 : Cond) ∈ BG := bg_t3 (i := 187) (by decide +kernel) rfl
theorem lmX10_47 : (Cond.methodLink RX10 47 yX2_allows : Cond) ∈ BG := bg_t3 (i := 190) (by decide +kernel) rfl
theorem lmX2_45 : (Cond.methodLink RX2 45 yX2_worth : Cond) ∈ BG := bg_t3 (i := 194) (by decide +kernel) rfl
theorem lmX2_49 : (Cond.methodLink RX2 49 yX2_valueOf : Cond) ∈ BG := bg_t3 (i := 198) (by decide +kernel) rfl
theorem lmX2_53 : (Cond.methodLink RX2 53 yX2_reckon : Cond) ∈ BG := bg_t3 (i := 202) (by decide +kernel) rfl
theorem lcX2_57 : (Cond.constantLong RX2 57 (-1000000) : Cond) ∈ BG := bg_t3 (i := 205) (by decide +kernel) rfl
theorem lcX2_59 : (Cond.constantLong RX2 59 (1000000) : Cond) ∈ BG := bg_t3 (i := 206) (by decide +kernel) rfl
theorem lmX2_61 : (Cond.methodLink RX2 61 yJ9_min_f86c9 : Cond) ∈ BG := bg_t3 (i := 207) (by decide +kernel) rfl
theorem lmX2_67 : (Cond.methodLink RX2 67 yJ9_max_f86c9 : Cond) ∈ BG := bg_t3 (i := 210) (by decide +kernel) rfl
theorem lmX2_70 : (Cond.methodLink RX2 70 yJ9_max_7cf53 : Cond) ∈ BG := bg_t3 (i := 213) (by decide +kernel) rfl
theorem lmX10_74 : (Cond.methodLink RX10 74 yX8_join : Cond) ∈ BG := bg_t3 (i := 216) (by decide +kernel) rfl
theorem lmX10_84 : (Cond.methodLink RX10 84 yX8_fadeBy : Cond) ∈ BG := bg_t3 (i := 220) (by decide +kernel) rfl
theorem lmX8_86 : (Cond.methodLink RX8 86 yJ9_max_7cf53 : Cond) ∈ BG := bg_t3 (i := 224) (by decide +kernel) rfl
theorem lmL_60 : (Cond.methodLink RL 60 yX11_pull : Cond) ∈ BG := bg_t3 (i := 225) (by decide +kernel) rfl
theorem lmX11_218 : (Cond.methodLink RX11 218 yX10_pullRefusal : Cond) ∈ BG := bg_t3 (i := 229) (by decide +kernel) rfl
theorem lmX10_87 : (Cond.methodLink RX10 87 yX8_isSold : Cond) ∈ BG := bg_t3 (i := 233) (by decide +kernel) rfl
theorem lmX10_90 : (Cond.methodLink RX10 90 yX8_isKnotted : Cond) ∈ BG := bg_t3 (i := 234) (by decide +kernel) rfl
theorem lmX11_222 : (Cond.methodLink RX11 222 yX8_takeOff : Cond) ∈ BG := bg_t3 (i := 238) (by decide +kernel) rfl
theorem lmX8_92 : (Cond.methodLink RX8 92 yX8_shorten : Cond) ∈ BG := bg_t4 (i := 2) (by decide +kernel) rfl
theorem lmX8_96 : (Cond.methodLink RX8 96 yX8_part : Cond) ∈ BG := bg_t4 (i := 6) (by decide +kernel) rfl
theorem lmL_64 : (Cond.methodLink RL 64 yX11_sell : Cond) ∈ BG := bg_t4 (i := 10) (by decide +kernel) rfl
theorem lmX11_225 : (Cond.methodLink RX11 225 yX11_sellRefusal : Cond) ∈ BG := bg_t4 (i := 14) (by decide +kernel) rfl
theorem lmX11_171 : (Cond.methodLink RX11 171 yX5_has : Cond) ∈ BG := bg_t4 (i := 18) (by decide +kernel) rfl
theorem lmX11_191 : (Cond.methodLink RX11 191 yX8_isSold : Cond) ∈ BG := bg_t4 (i := 19) (by decide +kernel) rfl
theorem lmX11_228 : (Cond.methodLink RX11 228 yX8_taleOf : Cond) ∈ BG := bg_t4 (i := 20) (by decide +kernel) rfl
theorem lmX11_231 : (Cond.methodLink RX11 231 yX8_priceOf : Cond) ∈ BG := bg_t4 (i := 21) (by decide +kernel) rfl
theorem lmX8_83 : (Cond.methodLink RX8 83 yX8_lengthOf : Cond) ∈ BG := bg_t4 (i := 25) (by decide +kernel) rfl
theorem lmX11_234 : (Cond.methodLink RX11 234 yJ9_min_7cf53 : Cond) ∈ BG := bg_t4 (i := 29) (by decide +kernel) rfl
theorem lmL_68 : (Cond.methodLink RL 68 yX11_dye : Cond) ∈ BG := bg_t4 (i := 30) (by decide +kernel) rfl
theorem lmX11_243 : (Cond.methodLink RX11 243 yX11_dyeRefusal : Cond) ∈ BG := bg_t4 (i := 34) (by decide +kernel) rfl
theorem lmX11_246 : (Cond.methodLink RX11 246 yX8_isLoose : Cond) ∈ BG := bg_t4 (i := 38) (by decide +kernel) rfl
theorem lmX8_65 : (Cond.methodLink RX8 65 yX8_isKnotted : Cond) ∈ BG := bg_t4 (i := 42) (by decide +kernel) rfl
theorem lmL_72 : (Cond.methodLink RL 72 yX11_give : Cond) ∈ BG := bg_t4 (i := 43) (by decide +kernel) rfl
theorem lmL_76 : (Cond.methodLink RL 76 yX11_days : Cond) ∈ BG := bg_t4 (i := 47) (by decide +kernel) rfl
theorem lmX11_252 : (Cond.methodLink RX11 252 yX10_passDay : Cond) ∈ BG := bg_t4 (i := 51) (by decide +kernel) rfl
theorem lmX10_93 : (Cond.methodLink RX10 93 yX4_writeDay : Cond) ∈ BG := bg_t4 (i := 55) (by decide +kernel) rfl
theorem lmX4_56 : (Cond.methodLink RX4 56 yX4_placeOf : Cond) ∈ BG := bg_t4 (i := 59) (by decide +kernel) rfl
theorem lmX4_50 : (Cond.methodLink RX4 50 yJ9_floorMod_7cf53 : Cond) ∈ BG := bg_t4 (i := 62) (by decide +kernel) rfl
theorem lmX10_102 : (Cond.methodLink RX10 102 yJ9_min_7cf53 : Cond) ∈ BG := bg_t4 (i := 65) (by decide +kernel) rfl
theorem lmL_80 : (Cond.methodLink RL 80 yX11_wakes : Cond) ∈ BG := bg_t4 (i := 66) (by decide +kernel) rfl
theorem lmL_86 : (Cond.methodLink RL 86 yX11_years : Cond) ∈ BG := bg_t4 (i := 70) (by decide +kernel) rfl
theorem lmX11_259 : (Cond.methodLink RX11 259 yX10_drawDay : Cond) ∈ BG := bg_t4 (i := 74) (by decide +kernel) rfl
theorem lmX10_109 : (Cond.methodLink RX10 109 yX10_draw : Cond) ∈ BG := bg_t4 (i := 78) (by decide +kernel) rfl
theorem lcX10_134 : (Cond.constantLong RX10 134 (6364136223846793005) : Cond) ∈ BG := bg_t4 (i := 82) (by decide +kernel) rfl
theorem lcX10_136 : (Cond.constantLong RX10 136 (1442695040888963407) : Cond) ∈ BG := bg_t4 (i := 83) (by decide +kernel) rfl
theorem lmX10_112 : (Cond.methodLink RX10 112 yX10_tryRefusal : Cond) ∈ BG := bg_t4 (i := 84) (by decide +kernel) rfl
theorem lmX10_116 : (Cond.methodLink RX10 116 yX10_tryOn : Cond) ∈ BG := bg_t4 (i := 85) (by decide +kernel) rfl
theorem lmX10_120 : (Cond.methodLink RX10 120 yX10_pullRefusal : Cond) ∈ BG := bg_t4 (i := 86) (by decide +kernel) rfl
theorem lmX10_124 : (Cond.methodLink RX10 124 yX8_takeOff : Cond) ∈ BG := bg_t4 (i := 87) (by decide +kernel) rfl
theorem lmX10_127 : (Cond.methodLink RX10 127 yX10_passDay : Cond) ∈ BG := bg_t4 (i := 88) (by decide +kernel) rfl
theorem lmL_91 : (Cond.methodLink RL 91 yX11_status : Cond) ∈ BG := bg_t4 (i := 89) (by decide +kernel) rfl
theorem lmL_95 : (Cond.methodLink RL 95 yX11_undo : Cond) ∈ BG := bg_t4 (i := 93) (by decide +kernel) rfl
theorem lmX11_263 : (Cond.methodLink RX11 263 yX4_bringBackLatest : Cond) ∈ BG := bg_t4 (i := 97) (by decide +kernel) rfl
theorem lmX4_47 : (Cond.methodLink RX4 47 yX8_readFrom : Cond) ∈ BG := bg_t4 (i := 101) (by decide +kernel) rfl
theorem lmL_99 : (Cond.methodLink RL 99 yX11_log : Cond) ∈ BG := bg_t4 (i := 105) (by decide +kernel) rfl
theorem lmX11_268 : (Cond.methodLink RX11 268 yX4_readDay : Cond) ∈ BG := bg_t4 (i := 109) (by decide +kernel) rfl
theorem lmX4_69 : (Cond.methodLink RX4 69 yX4_loggedBy : Cond) ∈ BG := bg_t4 (i := 113) (by decide +kernel) rfl
theorem lmL_103 : (Cond.methodLink RL 103 yX11_fits : Cond) ∈ BG := bg_t4 (i := 116) (by decide +kernel) rfl
theorem lmX11_272 : (Cond.methodLink RX11 272 yX8_sizeOf : Cond) ∈ BG := bg_t4 (i := 120) (by decide +kernel) rfl
theorem lmX11_275 : (Cond.methodLink RX11 275 yX10_goesWith : Cond) ∈ BG := bg_t4 (i := 121) (by decide +kernel) rfl
theorem lmL_107 : (Cond.methodLink RL 107 yX11_could : Cond) ∈ BG := bg_t4 (i := 122) (by decide +kernel) rfl
theorem lmX11_279 : (Cond.methodLink RX11 279 yX0_partnersOf : Cond) ∈ BG := bg_t4 (i := 126) (by decide +kernel) rfl
theorem lmX0_45 : (Cond.methodLink RX0 45 yX8_sizeOf : Cond) ∈ BG := bg_t4 (i := 130) (by decide +kernel) rfl
theorem lmX0_53 : (Cond.methodLink RX0 53 yX8_isOpen : Cond) ∈ BG := bg_t4 (i := 131) (by decide +kernel) rfl
theorem lmX0_57 : (Cond.methodLink RX0 57 yX10_goesWith : Cond) ∈ BG := bg_t4 (i := 132) (by decide +kernel) rfl
theorem lmL_111 : (Cond.methodLink RL 111 yX11_knots : Cond) ∈ BG := bg_t4 (i := 133) (by decide +kernel) rfl
theorem lmX11_282 : (Cond.methodLink RX11 282 yX0_findKnots : Cond) ∈ BG := bg_t4 (i := 137) (by decide +kernel) rfl
theorem lmX0_63 : (Cond.methodLink RX0 63 yX8_copyFrom : Cond) ∈ BG := bg_t4 (i := 141) (by decide +kernel) rfl
theorem lmX0_67 : (Cond.methodLink RX0 67 yX0_partnersOf : Cond) ∈ BG := bg_t4 (i := 145) (by decide +kernel) rfl
theorem lmX0_73 : (Cond.methodLink RX0 73 yX0_countBundles : Cond) ∈ BG := bg_t4 (i := 146) (by decide +kernel) rfl
theorem lmX0_84 : (Cond.methodLink RX0 84 yX8_isSold : Cond) ∈ BG := bg_t4 (i := 150) (by decide +kernel) rfl
theorem lmX0_80 : (Cond.methodLink RX0 80 yX0_chooseKnot : Cond) ∈ BG := bg_t4 (i := 151) (by decide +kernel) rfl
theorem lmX0_94 : (Cond.methodLink RX0 94 yX8_join : Cond) ∈ BG := bg_t4 (i := 155) (by decide +kernel) rfl
theorem lmX0_98 : (Cond.methodLink RX0 98 yX8_part : Cond) ∈ BG := bg_t4 (i := 156) (by decide +kernel) rfl
theorem lmL_115 : (Cond.methodLink RL 115 yX11_tale : Cond) ∈ BG := bg_t4 (i := 157) (by decide +kernel) rfl
theorem lmX11_291 : (Cond.methodLink RX11 291 yX0_findTale : Cond) ∈ BG := bg_t4 (i := 161) (by decide +kernel) rfl
theorem lmX0_101 : (Cond.methodLink RX0 101 yX8_looseBits : Cond) ∈ BG := bg_t4 (i := 165) (by decide +kernel) rfl
theorem lmX8_68 : (Cond.methodLink RX8 68 yX8_isLoose : Cond) ∈ BG := bg_t4 (i := 169) (by decide +kernel) rfl
theorem lmX0_104 : (Cond.methodLink RX0 104 yJ7_fill_53178 : Cond) ∈ BG := bg_t4 (i := 170) (by decide +kernel) rfl
theorem lmX0_110 : (Cond.methodLink RX0 110 yX0_findFollowers : Cond) ∈ BG := bg_t4 (i := 171) (by decide +kernel) rfl
theorem lmX0_113 : (Cond.methodLink RX0 113 yX0_lengthenRows : Cond) ∈ BG := bg_t4 (i := 175) (by decide +kernel) rfl
theorem lmX0_127 : (Cond.methodLink RX0 127 yJ6_bitCount_0f7a4 : Cond) ∈ BG := bg_t4 (i := 179) (by decide +kernel) rfl
theorem lmX0_132 : (Cond.methodLink RX0 132 yX0_lengthenRow : Cond) ∈ BG := bg_t4 (i := 180) (by decide +kernel) rfl
theorem lmX0_117 : (Cond.methodLink RX0 117 yX0_leastRowOf : Cond) ∈ BG := bg_t4 (i := 184) (by decide +kernel) rfl
theorem lmX0_120 : (Cond.methodLink RX0 120 yX0_isBetter : Cond) ∈ BG := bg_t4 (i := 188) (by decide +kernel) rfl
theorem lmX0_124 : (Cond.methodLink RX0 124 yX8_lengthOf : Cond) ∈ BG := bg_t4 (i := 192) (by decide +kernel) rfl
theorem lmL_119 : (Cond.methodLink RL 119 yX11_plan : Cond) ∈ BG := bg_t4 (i := 193) (by decide +kernel) rfl
theorem lmX11_294 : (Cond.methodLink RX11 294 yX0_findTry : Cond) ∈ BG := bg_t4 (i := 197) (by decide +kernel) rfl
theorem lmX11_297 : (Cond.methodLink RX11 297 yX0_findTwoTries : Cond) ∈ BG := bg_t4 (i := 201) (by decide +kernel) rfl
theorem lmX0_135 : (Cond.methodLink RX0 135 yX0_tryAndFindNext : Cond) ∈ BG := bg_t4 (i := 205) (by decide +kernel) rfl
theorem lmX0_138 : (Cond.methodLink RX0 138 yX10_tryOn : Cond) ∈ BG := bg_t4 (i := 209) (by decide +kernel) rfl
theorem lmX0_142 : (Cond.methodLink RX0 142 yX0_findTry : Cond) ∈ BG := bg_t4 (i := 210) (by decide +kernel) rfl
theorem lmL_123 : (Cond.methodLink RL 123 yX11_blankets : Cond) ∈ BG := bg_t4 (i := 211) (by decide +kernel) rfl
theorem lmX11_300 : (Cond.methodLink RX11 300 yX0_fewestBlankets : Cond) ∈ BG := bg_t4 (i := 215) (by decide +kernel) rfl
theorem lmX0_145 : (Cond.methodLink RX0 145 yX8_taleOf : Cond) ∈ BG := bg_t4 (i := 219) (by decide +kernel) rfl
theorem lmX0_148 : (Cond.methodLink RX0 148 yX0_fewestFor : Cond) ∈ BG := bg_t4 (i := 220) (by decide +kernel) rfl
theorem lmX0_152 : (Cond.methodLink RX0 152 yX0_layIn : Cond) ∈ BG := bg_t4 (i := 224) (by decide +kernel) rfl
theorem lmX0_156 : (Cond.methodLink RX0 156 yJ9_min_7cf53 : Cond) ∈ BG := bg_t4 (i := 227) (by decide +kernel) rfl
theorem lmL_127 : (Cond.methodLink RL 127 yX11_seen : Cond) ∈ BG := bg_t4 (i := 228) (by decide +kernel) rfl
theorem lmX11_303 : (Cond.methodLink RX11 303 yX7_add : Cond) ∈ BG := bg_t4 (i := 232) (by decide +kernel) rfl
theorem lmL_132 : (Cond.methodLink RL 132 yX11_plies : Cond) ∈ BG := bg_t4 (i := 236) (by decide +kernel) rfl
theorem lmX11_306 : (Cond.methodLink RX11 306 yX7_fittingPlies : Cond) ∈ BG := bg_t5 (i := 0) (by decide +kernel) rfl
theorem lmX7_57 : (Cond.methodLink RX7 57 yX7_isAllSo : Cond) ∈ BG := bg_t5 (i := 4) (by decide +kernel) rfl
theorem lmX7_61 : (Cond.methodLink RX7 61 yX7_goesAs : Cond) ∈ BG := bg_t5 (i := 8) (by decide +kernel) rfl
theorem lmX7_39 : (Cond.methodLink RX7 39 yJ9_abs_0f7a4 : Cond) ∈ BG := bg_t5 (i := 12) (by decide +kernel) rfl
theorem lmX7_51 : (Cond.methodLink RX7 51 yX2_allows : Cond) ∈ BG := bg_t5 (i := 13) (by decide +kernel) rfl
theorem lmX11_309 : (Cond.methodLink RX11 309 yJ6_bitCount_0f7a4 : Cond) ∈ BG := bg_t5 (i := 14) (by decide +kernel) rfl
theorem lmX11_314 : (Cond.methodLink RX11 314 yX11_bitAt : Cond) ∈ BG := bg_t5 (i := 15) (by decide +kernel) rfl
theorem lmL_136 : (Cond.methodLink RL 136 yX11_ask : Cond) ∈ BG := bg_t5 (i := 18) (by decide +kernel) rfl
theorem lmX11_317 : (Cond.methodLink RX11 317 yX7_bestToTry : Cond) ∈ BG := bg_t5 (i := 22) (by decide +kernel) rfl
theorem lmX7_68 : (Cond.methodLink RX7 68 yX7_apartBy : Cond) ∈ BG := bg_t5 (i := 26) (by decide +kernel) rfl
theorem lmL_140 : (Cond.methodLink RL 140 yX11_game : Cond) ∈ BG := bg_t5 (i := 30) (by decide +kernel) rfl
theorem lcX11_320 : (Cond.constant RX11 320 (-1000000) : Cond) ∈ BG := bg_t5 (i := 34) (by decide +kernel) rfl
theorem lmX11_321 : (Cond.methodLink RX11 321 yX1_isMove : Cond) ∈ BG := bg_t5 (i := 35) (by decide +kernel) rfl
theorem lmX11_324 : (Cond.methodLink RX11 324 yX1_has : Cond) ∈ BG := bg_t5 (i := 38) (by decide +kernel) rfl
theorem lmX1_41 : (Cond.methodLink RX1 41 yX1_dyedOn : Cond) ∈ BG := bg_t5 (i := 42) (by decide +kernel) rfl
theorem lmX1_35 : (Cond.methodLink RX1 35 yJ9_min_7cf53 : Cond) ∈ BG := bg_t5 (i := 46) (by decide +kernel) rfl
theorem lmX1_48 : (Cond.methodLink RX1 48 yJ9_abs_0f7a4 : Cond) ∈ BG := bg_t5 (i := 47) (by decide +kernel) rfl
theorem lmX1_63 : (Cond.methodLink RX1 63 yX2_allows : Cond) ∈ BG := bg_t5 (i := 48) (by decide +kernel) rfl
theorem lmL_144 : (Cond.methodLink RL 144 yX11_rests : Cond) ∈ BG := bg_t5 (i := 49) (by decide +kernel) rfl
theorem lmX11_327 : (Cond.methodLink RX11 327 yX1_play : Cond) ∈ BG := bg_t5 (i := 53) (by decide +kernel) rfl
theorem lmX1_69 : (Cond.methodLink RX1 69 yX1_has : Cond) ∈ BG := bg_t5 (i := 57) (by decide +kernel) rfl
theorem lmX11_331 : (Cond.methodLink RX11 331 yX1_countRests : Cond) ∈ BG := bg_t5 (i := 58) (by decide +kernel) rfl
theorem lmX1_73 : (Cond.methodLink RX1 73 yX1_isRest : Cond) ∈ BG := bg_t5 (i := 62) (by decide +kernel) rfl
theorem lmX11_334 : (Cond.methodLink RX11 334 yX1_restAt : Cond) ∈ BG := bg_t5 (i := 66) (by decide +kernel) rfl
theorem lmL_149 : (Cond.methodLink RL 149 yX11_odds : Cond) ∈ BG := bg_t5 (i := 70) (by decide +kernel) rfl
theorem lmX11_337 : (Cond.methodLink RX11 337 yX0_knottedParts : Cond) ∈ BG := bg_t5 (i := 74) (by decide +kernel) rfl
theorem lcX0_161 : (Cond.constantLong RX0 161 (1000000000) : Cond) ∈ BG := bg_t5 (i := 78) (by decide +kernel) rfl
theorem lcX0_163 : (Cond.constantLong RX0 163 (100) : Cond) ∈ BG := bg_t5 (i := 79) (by decide +kernel) rfl
theorem lmX0_170 : (Cond.methodLink RX0 170 yX8_fadeBy : Cond) ∈ BG := bg_t5 (i := 80) (by decide +kernel) rfl
theorem lmL_153 : (Cond.methodLink RL 153 yX11_story : Cond) ∈ BG := bg_t5 (i := 81) (by decide +kernel) rfl
theorem lmX11_340 : (Cond.methodLink RX11 340 yX8_firstOf : Cond) ∈ BG := bg_t5 (i := 85) (by decide +kernel) rfl
theorem lmX11_343 : (Cond.methodLink RX11 343 yX8_lastOf : Cond) ∈ BG := bg_t5 (i := 86) (by decide +kernel) rfl
theorem lmX11_346 : (Cond.methodLink RX11 346 yX8_lengthOf : Cond) ∈ BG := bg_t5 (i := 90) (by decide +kernel) rfl
theorem lmX11_349 : (Cond.methodLink RX11 349 yX8_neighboursOf : Cond) ∈ BG := bg_t5 (i := 91) (by decide +kernel) rfl
theorem lmL_157 : (Cond.methodLink RL 157 yX11_shares : Cond) ∈ BG := bg_t5 (i := 95) (by decide +kernel) rfl
theorem lmL_161 : (Cond.methodLink RL 161 yX11_most : Cond) ∈ BG := bg_t5 (i := 99) (by decide +kernel) rfl
theorem lmX11_352 : (Cond.methodLink RX11 352 yX11_highest : Cond) ∈ BG := bg_t5 (i := 103) (by decide +kernel) rfl
theorem lmX11_356 : (Cond.methodLink RX11 356 yX8_looseBits : Cond) ∈ BG := bg_t5 (i := 107) (by decide +kernel) rfl
theorem lmX11_359 : (Cond.methodLink RX11 359 yX0_rackBits : Cond) ∈ BG := bg_t5 (i := 108) (by decide +kernel) rfl
theorem lmX11_362 : (Cond.methodLink RX11 362 yX0_countTales : Cond) ∈ BG := bg_t5 (i := 112) (by decide +kernel) rfl
theorem lmX0_176 : (Cond.methodLink RX0 176 yX0_isFirstOfTale : Cond) ∈ BG := bg_t5 (i := 116) (by decide +kernel) rfl
theorem lmX11_365 : (Cond.methodLink RX11 365 yX0_priceOfTales : Cond) ∈ BG := bg_t5 (i := 120) (by decide +kernel) rfl
theorem lmX0_179 : (Cond.methodLink RX0 179 yX8_priceOf : Cond) ∈ BG := bg_t5 (i := 124) (by decide +kernel) rfl
theorem lmL_165 : (Cond.methodLink RL 165 yX11_image : Cond) ∈ BG := bg_t5 (i := 125) (by decide +kernel) rfl
theorem lmX11_368 : (Cond.methodLink RX11 368 yX4_keepImage : Cond) ∈ BG := bg_t5 (i := 129) (by decide +kernel) rfl
theorem lmX4_72 : (Cond.methodLink RX4 72 ⟨"java/lang/System", "arraycopy", "(Ljava/lang/Object;ILjava/lang/Object;II)V"⟩ : Cond) ∈ BG := bg_t5 (i := 133) (by decide +kernel) rfl
theorem lmL_169 : (Cond.methodLink RL 169 yX11_back : Cond) ∈ BG := bg_t5 (i := 134) (by decide +kernel) rfl
theorem lmX11_371 : (Cond.methodLink RX11 371 yX4_bringBackImage : Cond) ∈ BG := bg_t5 (i := 138) (by decide +kernel) rfl
theorem lmL_173 : (Cond.methodLink RL 173 yX11_count : Cond) ∈ BG := bg_t5 (i := 142) (by decide +kernel) rfl
theorem lmX11_377 : (Cond.methodLink RX11 377 yX4_loggedBy : Cond) ∈ BG := bg_t5 (i := 146) (by decide +kernel) rfl
theorem lmL_42 : (Cond.methodLink RL 42 yL_thread : Cond) ∈ BG := bg_t5 (i := 147) (by decide +kernel) rfl
theorem lmL_7 : (Cond.methodLink RL 7 yX11_thread : Cond) ∈ BG := bg_t5 (i := 151) (by decide +kernel) rfl
theorem lmX11_179 : (Cond.methodLink RX11 179 ⟨"java/util/NoSuchElementException", "<init>", "(Ljava/lang/String;)V"⟩ : Cond) ∈ BG := bg_t5 (i := 195) (by decide +kernel) rfl
theorem lmL_18 : (Cond.methodLink RL 18 yX12_init : Cond) ∈ BG := bg_t5 (i := 223) (by decide +kernel) rfl
theorem lmX12_3 : (Cond.methodLink RX12 3 ⟨"java/lang/Object", "<init>", "()V"⟩ : Cond) ∈ BG := bg_t5 (i := 226) (by decide +kernel) rfl
theorem lfX12_93 : (Cond.fieldLink RX12 93 "LooseEndsModel" "thrown" "I" : Cond) ∈ BG := bg_t5 (i := 227) (by decide +kernel) rfl
theorem lfX12_9 : (Cond.fieldLink RX12 9 "LooseEndsModel" "tape" "[I" : Cond) ∈ BG := bg_t5 (i := 228) (by decide +kernel) rfl
theorem lfX12_100 : (Cond.fieldLink RX12 100 "LooseEndsModel" "size" "I" : Cond) ∈ BG := bg_t5 (i := 229) (by decide +kernel) rfl
theorem lfX12_103 : (Cond.fieldLink RX12 103 "LooseEndsModel" "at" "I" : Cond) ∈ BG := bg_t5 (i := 230) (by decide +kernel) rfl
theorem lfX12_110 : (Cond.fieldLink RX12 110 "LooseEndsModel" "wrong" "I" : Cond) ∈ BG := bg_t5 (i := 231) (by decide +kernel) rfl
theorem lfX12_116 : (Cond.fieldLink RX12 116 "LooseEndsModel" "deep" "I" : Cond) ∈ BG := bg_t5 (i := 232) (by decide +kernel) rfl
theorem lfX12_13 : (Cond.fieldLink RX12 13 "LooseEndsModel" "code" "[I" : Cond) ∈ BG := bg_t5 (i := 233) (by decide +kernel) rfl
theorem lfX12_16 : (Cond.fieldLink RX12 16 "LooseEndsModel" "value" "[I" : Cond) ∈ BG := bg_t5 (i := 234) (by decide +kernel) rfl
theorem lfX12_19 : (Cond.fieldLink RX12 19 "LooseEndsModel" "codes" "[I" : Cond) ∈ BG := bg_t5 (i := 235) (by decide +kernel) rfl
theorem lfX12_22 : (Cond.fieldLink RX12 22 "LooseEndsModel" "clauses" "[I" : Cond) ∈ BG := bg_t5 (i := 236) (by decide +kernel) rfl
theorem lfX12_25 : (Cond.fieldLink RX12 25 "LooseEndsModel" "testFrom" "[I" : Cond) ∈ BG := bg_t5 (i := 237) (by decide +kernel) rfl
theorem lfX12_28 : (Cond.fieldLink RX12 28 "LooseEndsModel" "sumFrom" "[I" : Cond) ∈ BG := bg_t5 (i := 238) (by decide +kernel) rfl
theorem lfX12_31 : (Cond.fieldLink RX12 31 "LooseEndsModel" "sumTo" "[I" : Cond) ∈ BG := bg_t5 (i := 239) (by decide +kernel) rfl
theorem lfX12_264 : (Cond.fieldLink RX12 264 "LooseEndsModel" "laws" "I" : Cond) ∈ BG := bg_t6 (i := 0) (by decide +kernel) rfl
theorem lfX12_113 : (Cond.fieldLink RX12 113 "LooseEndsModel" "text" "I" : Cond) ∈ BG := bg_t6 (i := 1) (by decide +kernel) rfl
theorem lfX12_34 : (Cond.fieldLink RX12 34 "LooseEndsModel" "letters" "[I" : Cond) ∈ BG := bg_t6 (i := 2) (by decide +kernel) rfl
theorem lfX12_37 : (Cond.fieldLink RX12 37 "LooseEndsModel" "stack" "[I" : Cond) ∈ BG := bg_t6 (i := 3) (by decide +kernel) rfl
theorem lfX12_40 : (Cond.fieldLink RX12 40 "LooseEndsModel" "readRule" "[I" : Cond) ∈ BG := bg_t6 (i := 4) (by decide +kernel) rfl
theorem lfX12_43 : (Cond.fieldLink RX12 43 "LooseEndsModel" "readEnd" "[I" : Cond) ∈ BG := bg_t6 (i := 5) (by decide +kernel) rfl
theorem lfX12_232 : (Cond.fieldLink RX12 232 "LooseEndsModel" "readEnds" "I" : Cond) ∈ BG := bg_t6 (i := 6) (by decide +kernel) rfl
theorem lfX12_46 : (Cond.fieldLink RX12 46 "LooseEndsModel" "rule" "[I" : Cond) ∈ BG := bg_t6 (i := 7) (by decide +kernel) rfl
theorem lfX12_49 : (Cond.fieldLink RX12 49 "LooseEndsModel" "thread" "[I" : Cond) ∈ BG := bg_t6 (i := 8) (by decide +kernel) rfl
theorem lfX12_245 : (Cond.fieldLink RX12 245 "LooseEndsModel" "ends" "I" : Cond) ∈ BG := bg_t6 (i := 9) (by decide +kernel) rfl
theorem lfX12_52 : (Cond.fieldLink RX12 52 "LooseEndsModel" "now" "[I" : Cond) ∈ BG := bg_t6 (i := 10) (by decide +kernel) rfl
theorem lfX12_55 : (Cond.fieldLink RX12 55 "LooseEndsModel" "refused" "[I" : Cond) ∈ BG := bg_t6 (i := 11) (by decide +kernel) rfl
theorem lfX12_58 : (Cond.fieldLink RX12 58 "LooseEndsModel" "holding" "I" : Cond) ∈ BG := bg_t6 (i := 12) (by decide +kernel) rfl
theorem lfX12_62 : (Cond.fieldLink RX12 62 "LooseEndsModel" "waked" "I" : Cond) ∈ BG := bg_t6 (i := 13) (by decide +kernel) rfl
theorem lfX12_65 : (Cond.fieldLink RX12 65 "LooseEndsModel" "kept" "[I" : Cond) ∈ BG := bg_t6 (i := 14) (by decide +kernel) rfl
theorem lfX12_254 : (Cond.fieldLink RX12 254 "LooseEndsModel" "acts" "I" : Cond) ∈ BG := bg_t6 (i := 15) (by decide +kernel) rfl
theorem lfX12_338 : (Cond.fieldLink RX12 338 "LooseEndsModel" "draws" "J" : Cond) ∈ BG := bg_t6 (i := 16) (by decide +kernel) rfl
theorem lfX12_68 : (Cond.fieldLink RX12 68 "LooseEndsModel" "goes" "[I" : Cond) ∈ BG := bg_t6 (i := 17) (by decide +kernel) rfl
theorem lfX12_358 : (Cond.fieldLink RX12 358 "LooseEndsModel" "bestRow" "I" : Cond) ∈ BG := bg_t6 (i := 18) (by decide +kernel) rfl
theorem lfX12_361 : (Cond.fieldLink RX12 361 "LooseEndsModel" "bestMany" "I" : Cond) ∈ BG := bg_t6 (i := 19) (by decide +kernel) rfl
theorem lfX12_371 : (Cond.fieldLink RX12 371 "LooseEndsModel" "bestLong" "I" : Cond) ∈ BG := bg_t6 (i := 20) (by decide +kernel) rfl
theorem lfX12_71 : (Cond.fieldLink RX12 71 "LooseEndsModel" "aside" "[I" : Cond) ∈ BG := bg_t6 (i := 21) (by decide +kernel) rfl
theorem lfX12_74 : (Cond.fieldLink RX12 74 "LooseEndsModel" "pieces" "[I" : Cond) ∈ BG := bg_t6 (i := 22) (by decide +kernel) rfl
theorem lfX12_77 : (Cond.fieldLink RX12 77 "LooseEndsModel" "laid" "[I" : Cond) ∈ BG := bg_t6 (i := 23) (by decide +kernel) rfl
theorem lfX12_391 : (Cond.fieldLink RX12 391 "LooseEndsModel" "pieceMany" "I" : Cond) ∈ BG := bg_t6 (i := 24) (by decide +kernel) rfl
theorem lfX12_388 : (Cond.fieldLink RX12 388 "LooseEndsModel" "fewest" "I" : Cond) ∈ BG := bg_t6 (i := 25) (by decide +kernel) rfl
theorem lfX12_80 : (Cond.fieldLink RX12 80 "LooseEndsModel" "noteOne" "[I" : Cond) ∈ BG := bg_t6 (i := 26) (by decide +kernel) rfl
theorem lfX12_83 : (Cond.fieldLink RX12 83 "LooseEndsModel" "noteOther" "[I" : Cond) ∈ BG := bg_t6 (i := 27) (by decide +kernel) rfl
theorem lfX12_86 : (Cond.fieldLink RX12 86 "LooseEndsModel" "noteIs" "[Z" : Cond) ∈ BG := bg_t6 (i := 28) (by decide +kernel) rfl
theorem lfX12_251 : (Cond.fieldLink RX12 251 "LooseEndsModel" "noted" "I" : Cond) ∈ BG := bg_t6 (i := 29) (by decide +kernel) rfl
theorem lfX12_90 : (Cond.fieldLink RX12 90 "LooseEndsModel" "image" "[I" : Cond) ∈ BG := bg_t6 (i := 30) (by decide +kernel) rfl
theorem lfX12_257 : (Cond.fieldLink RX12 257 "LooseEndsModel" "hasImage" "Z" : Cond) ∈ BG := bg_t6 (i := 31) (by decide +kernel) rfl
theorem lmL_48 : (Cond.methodLink RL 48 yX12_thrown : Cond) ∈ BG := bg_t6 (i := 123) (by decide +kernel) rfl
theorem lmL_23 : (Cond.methodLink RL 23 yX12_feed : Cond) ∈ BG := bg_t6 (i := 127) (by decide +kernel) rfl
theorem lmX12_96 : (Cond.methodLink RX12 96 yX12_byteOf : Cond) ∈ BG := bg_t6 (i := 131) (by decide +kernel) rfl
theorem lmL_28 : (Cond.methodLink RL 28 yX12_end : Cond) ∈ BG := bg_t6 (i := 134) (by decide +kernel) rfl
theorem lmL_33 : (Cond.methodLink RL 33 yX12_fault : Cond) ∈ BG := bg_t6 (i := 138) (by decide +kernel) rfl
theorem lmX12_239 : (Cond.methodLink RX12 239 yX12_readMill : Cond) ∈ BG := bg_t6 (i := 142) (by decide +kernel) rfl
theorem lmX12_212 : (Cond.methodLink RX12 212 yX12_usual : Cond) ∈ BG := bg_t6 (i := 146) (by decide +kernel) rfl
theorem lmX12_122 : (Cond.methodLink RX12 122 yX12_look : Cond) ∈ BG := bg_t6 (i := 149) (by decide +kernel) rfl
theorem lmX12_106 : (Cond.methodLink RX12 106 yX12_here : Cond) ∈ BG := bg_t6 (i := 153) (by decide +kernel) rfl
theorem lmX12_235 : (Cond.methodLink RX12 235 yX12_items : Cond) ∈ BG := bg_t6 (i := 157) (by decide +kernel) rfl
theorem lmX12_216 : (Cond.methodLink RX12 216 yX12_itemOf : Cond) ∈ BG := bg_t6 (i := 161) (by decide +kernel) rfl
theorem lmX12_219 : (Cond.methodLink RX12 219 yX12_has : Cond) ∈ BG := bg_t6 (i := 164) (by decide +kernel) rfl
theorem lmX12_223 : (Cond.methodLink RX12 223 yX12_lowest : Cond) ∈ BG := bg_t6 (i := 167) (by decide +kernel) rfl
theorem lmX12_226 : (Cond.methodLink RX12 226 yX12_highest : Cond) ∈ BG := bg_t6 (i := 170) (by decide +kernel) rfl
theorem lmX12_229 : (Cond.methodLink RX12 229 yX12_number : Cond) ∈ BG := bg_t6 (i := 173) (by decide +kernel) rfl
theorem lmX12_125 : (Cond.methodLink RX12 125 yX12_isDigit : Cond) ∈ BG := bg_t6 (i := 177) (by decide +kernel) rfl
theorem lmX12_119 : (Cond.methodLink RX12 119 yX12_bad : Cond) ∈ BG := bg_t6 (i := 180) (by decide +kernel) rfl
theorem lmX12_208 : (Cond.methodLink RX12 208 yX12_in : Cond) ∈ BG := bg_t6 (i := 184) (by decide +kernel) rfl
theorem lmX12_242 : (Cond.methodLink RX12 242 yX12_readLaw : Cond) ∈ BG := bg_t6 (i := 187) (by decide +kernel) rfl
theorem lmX12_174 : (Cond.methodLink RX12 174 yX12_open : Cond) ∈ BG := bg_t6 (i := 191) (by decide +kernel) rfl
theorem lmX12_177 : (Cond.methodLink RX12 177 yX12_clause : Cond) ∈ BG := bg_t6 (i := 195) (by decide +kernel) rfl
theorem lmX12_162 : (Cond.methodLink RX12 162 yX12_condition : Cond) ∈ BG := bg_t6 (i := 199) (by decide +kernel) rfl
theorem lmX12_159 : (Cond.methodLink RX12 159 yX12_unit : Cond) ∈ BG := bg_t6 (i := 203) (by decide +kernel) rfl
theorem lmX12_140 : (Cond.methodLink RX12 140 yX12_opens : Cond) ∈ BG := bg_t6 (i := 207) (by decide +kernel) rfl
theorem lmX12_132 : (Cond.methodLink RX12 132 yX12_put : Cond) ∈ BG := bg_t6 (i := 211) (by decide +kernel) rfl
theorem lmX12_146 : (Cond.methodLink RX12 146 yX12_closes : Cond) ∈ BG := bg_t6 (i := 215) (by decide +kernel) rfl
theorem lmX12_143 : (Cond.methodLink RX12 143 yX12_sum : Cond) ∈ BG := bg_t6 (i := 219) (by decide +kernel) rfl
theorem lmX12_153 : (Cond.methodLink RX12 153 yX12_term : Cond) ∈ BG := bg_t6 (i := 223) (by decide +kernel) rfl
theorem lmX12_150 : (Cond.methodLink RX12 150 yX12_atom : Cond) ∈ BG := bg_t6 (i := 227) (by decide +kernel) rfl
theorem lmX12_129 : (Cond.methodLink RX12 129 yX12_plainNumber : Cond) ∈ BG := bg_t6 (i := 231) (by decide +kernel) rfl
theorem lmX12_136 : (Cond.methodLink RX12 136 yX12_letterOf : Cond) ∈ BG := bg_t6 (i := 235) (by decide +kernel) rfl
theorem lmX12_165 : (Cond.methodLink RX12 165 yX12_compare : Cond) ∈ BG := bg_t6 (i := 238) (by decide +kernel) rfl
theorem lmX12_156 : (Cond.methodLink RX12 156 yX12_isSign : Cond) ∈ BG := bg_t7 (i := 2) (by decide +kernel) rfl
theorem lmX12_168 : (Cond.methodLink RX12 168 yX12_goOnAnd : Cond) ∈ BG := bg_t7 (i := 5) (by decide +kernel) rfl
theorem lmX12_171 : (Cond.methodLink RX12 171 yX12_goOnOr : Cond) ∈ BG := bg_t7 (i := 9) (by decide +kernel) rfl
theorem lmX12_180 : (Cond.methodLink RX12 180 yX12_atEnd : Cond) ∈ BG := bg_t7 (i := 13) (by decide +kernel) rfl
theorem lmL_37 : (Cond.methodLink RL 37 yX12_text : Cond) ∈ BG := bg_t7 (i := 17) (by decide +kernel) rfl
theorem lmX12_261 : (Cond.methodLink RX12 261 yX12_takeMill : Cond) ∈ BG := bg_t7 (i := 21) (by decide +kernel) rfl
theorem lmX12_248 : (Cond.methodLink RX12 248 yX12_of : Cond) ∈ BG := bg_t7 (i := 25) (by decide +kernel) rfl
theorem lmL_41 : (Cond.methodLink RL 41 yX12_rule : Cond) ∈ BG := bg_t7 (i := 29) (by decide +kernel) rfl
theorem lmL_47 : (Cond.methodLink RL 47 yX12_thread : Cond) ∈ BG := bg_t7 (i := 33) (by decide +kernel) rfl
theorem lmX12_306 : (Cond.methodLink RX12 306 yX12_isEnd : Cond) ∈ BG := bg_t7 (i := 37) (by decide +kernel) rfl
theorem lmX12_267 : (Cond.methodLink RX12 267 yX12_isSold : Cond) ∈ BG := bg_t7 (i := 41) (by decide +kernel) rfl
theorem lmL_55 : (Cond.methodLink RL 55 yX12_law : Cond) ∈ BG := bg_t7 (i := 45) (by decide +kernel) rfl
theorem lmL_59 : (Cond.methodLink RL 59 yX12_attempt : Cond) ∈ BG := bg_t7 (i := 49) (by decide +kernel) rfl
theorem lmX12_309 : (Cond.methodLink RX12 309 yX12_mayTry : Cond) ∈ BG := bg_t7 (i := 53) (by decide +kernel) rfl
theorem lmX12_273 : (Cond.methodLink RX12 273 yX12_firstOf : Cond) ∈ BG := bg_t7 (i := 57) (by decide +kernel) rfl
theorem lmX12_312 : (Cond.methodLink RX12 312 yX12_isRefused : Cond) ∈ BG := bg_t7 (i := 61) (by decide +kernel) rfl
theorem lmX12_315 : (Cond.methodLink RX12 315 yX12_keep : Cond) ∈ BG := bg_t7 (i := 65) (by decide +kernel) rfl
theorem lmX12_318 : (Cond.methodLink RX12 318 yX12_tryNow : Cond) ∈ BG := bg_t7 (i := 69) (by decide +kernel) rfl
theorem lmX12_294 : (Cond.methodLink RX12 294 yX12_fitsNow : Cond) ∈ BG := bg_t7 (i := 73) (by decide +kernel) rfl
theorem lmX12_286 : (Cond.methodLink RX12 286 yX12_manyOf : Cond) ∈ BG := bg_t7 (i := 77) (by decide +kernel) rfl
theorem lmX12_289 : (Cond.methodLink RX12 289 yX12_goesWith : Cond) ∈ BG := bg_t7 (i := 81) (by decide +kernel) rfl
theorem lmX12_279 : (Cond.methodLink RX12 279 yJ9_abs_0f7a4 : Cond) ∈ BG := bg_t7 (i := 85) (by decide +kernel) rfl
theorem lmX12_282 : (Cond.methodLink RX12 282 yX12_goesBy : Cond) ∈ BG := bg_t7 (i := 86) (by decide +kernel) rfl
theorem lmX12_276 : (Cond.methodLink RX12 276 yX12_worthOf : Cond) ∈ BG := bg_t7 (i := 90) (by decide +kernel) rfl
theorem lmX12_204 : (Cond.methodLink RX12 204 yX12_workOut : Cond) ∈ BG := bg_t7 (i := 94) (by decide +kernel) rfl
theorem lmX12_200 : (Cond.methodLink RX12 200 yX12_worked : Cond) ∈ BG := bg_t7 (i := 98) (by decide +kernel) rfl
theorem lmX12_196 : (Cond.methodLink RX12 196 yX12_bounded : Cond) ∈ BG := bg_t7 (i := 101) (by decide +kernel) rfl
theorem lcX12_183 : (Cond.constantLong RX12 183 (-1000000) : Cond) ∈ BG := bg_t7 (i := 104) (by decide +kernel) rfl
theorem lcX12_185 : (Cond.constantLong RX12 185 (1000000) : Cond) ∈ BG := bg_t7 (i := 105) (by decide +kernel) rfl
theorem lmX12_187 : (Cond.methodLink RX12 187 yJ9_min_f86c9 : Cond) ∈ BG := bg_t7 (i := 106) (by decide +kernel) rfl
theorem lmX12_193 : (Cond.methodLink RX12 193 yJ9_max_f86c9 : Cond) ∈ BG := bg_t7 (i := 107) (by decide +kernel) rfl
theorem lmX12_297 : (Cond.methodLink RX12 297 yX12_fadeNow : Cond) ∈ BG := bg_t7 (i := 108) (by decide +kernel) rfl
theorem lmX12_292 : (Cond.methodLink RX12 292 yJ9_max_7cf53 : Cond) ∈ BG := bg_t7 (i := 112) (by decide +kernel) rfl
theorem lmL_63 : (Cond.methodLink RL 63 yX12_pull : Cond) ∈ BG := bg_t7 (i := 113) (by decide +kernel) rfl
theorem lmX12_270 : (Cond.methodLink RX12 270 yX12_isKnotted : Cond) ∈ BG := bg_t7 (i := 117) (by decide +kernel) rfl
theorem lmX12_321 : (Cond.methodLink RX12 321 yX12_pullNow : Cond) ∈ BG := bg_t7 (i := 121) (by decide +kernel) rfl
theorem lmX12_300 : (Cond.methodLink RX12 300 yX12_shorten : Cond) ∈ BG := bg_t7 (i := 125) (by decide +kernel) rfl
theorem lmL_67 : (Cond.methodLink RL 67 yX12_sell : Cond) ∈ BG := bg_t7 (i := 129) (by decide +kernel) rfl
theorem lmX12_324 : (Cond.methodLink RX12 324 yX12_worthOfTale : Cond) ∈ BG := bg_t7 (i := 133) (by decide +kernel) rfl
theorem lmX12_303 : (Cond.methodLink RX12 303 yX12_lengthOf : Cond) ∈ BG := bg_t7 (i := 137) (by decide +kernel) rfl
theorem lmX12_327 : (Cond.methodLink RX12 327 yJ9_min_7cf53 : Cond) ∈ BG := bg_t7 (i := 141) (by decide +kernel) rfl
theorem lmL_71 : (Cond.methodLink RL 71 yX12_dye : Cond) ∈ BG := bg_t7 (i := 142) (by decide +kernel) rfl
theorem lmX12_329 : (Cond.methodLink RX12 329 yX12_isLoose : Cond) ∈ BG := bg_t7 (i := 146) (by decide +kernel) rfl
theorem lmL_75 : (Cond.methodLink RL 75 yX12_give : Cond) ∈ BG := bg_t7 (i := 150) (by decide +kernel) rfl
theorem lmL_79 : (Cond.methodLink RL 79 yX12_days : Cond) ∈ BG := bg_t7 (i := 154) (by decide +kernel) rfl
theorem lmX12_332 : (Cond.methodLink RX12 332 yX12_areDays : Cond) ∈ BG := bg_t7 (i := 158) (by decide +kernel) rfl
theorem lmX12_335 : (Cond.methodLink RX12 335 yX12_passDay : Cond) ∈ BG := bg_t7 (i := 162) (by decide +kernel) rfl
theorem lmL_83 : (Cond.methodLink RL 83 yX12_wakes : Cond) ∈ BG := bg_t7 (i := 166) (by decide +kernel) rfl
theorem lmL_90 : (Cond.methodLink RL 90 yX12_years : Cond) ∈ BG := bg_t7 (i := 170) (by decide +kernel) rfl
theorem lmX12_349 : (Cond.methodLink RX12 349 yX12_drawDay : Cond) ∈ BG := bg_t7 (i := 174) (by decide +kernel) rfl
theorem lmX12_346 : (Cond.methodLink RX12 346 yX12_draw : Cond) ∈ BG := bg_t7 (i := 178) (by decide +kernel) rfl
theorem lcX12_342 : (Cond.constantLong RX12 342 (6364136223846793005) : Cond) ∈ BG := bg_t7 (i := 182) (by decide +kernel) rfl
theorem lcX12_344 : (Cond.constantLong RX12 344 (1442695040888963407) : Cond) ∈ BG := bg_t7 (i := 183) (by decide +kernel) rfl
theorem lmL_94 : (Cond.methodLink RL 94 yX12_status : Cond) ∈ BG := bg_t7 (i := 184) (by decide +kernel) rfl
theorem lmL_98 : (Cond.methodLink RL 98 yX12_undo : Cond) ∈ BG := bg_t7 (i := 188) (by decide +kernel) rfl
theorem lmL_102 : (Cond.methodLink RL 102 yX12_log : Cond) ∈ BG := bg_t7 (i := 192) (by decide +kernel) rfl
theorem lmL_106 : (Cond.methodLink RL 106 yX12_fits : Cond) ∈ BG := bg_t7 (i := 196) (by decide +kernel) rfl
theorem lmX12_352 : (Cond.methodLink RX12 352 yX12_areTwo : Cond) ∈ BG := bg_t7 (i := 200) (by decide +kernel) rfl
theorem lmL_110 : (Cond.methodLink RL 110 yX12_could : Cond) ∈ BG := bg_t7 (i := 204) (by decide +kernel) rfl
theorem lmX12_355 : (Cond.methodLink RX12 355 yX12_couldOf : Cond) ∈ BG := bg_t7 (i := 208) (by decide +kernel) rfl
theorem lmL_114 : (Cond.methodLink RL 114 yX12_knots : Cond) ∈ BG := bg_t7 (i := 212) (by decide +kernel) rfl
theorem lmX12_367 : (Cond.methodLink RX12 367 yX12_tryKnots : Cond) ∈ BG := bg_t7 (i := 216) (by decide +kernel) rfl
theorem lmX12_364 : (Cond.methodLink RX12 364 yX12_isBetter : Cond) ∈ BG := bg_t7 (i := 220) (by decide +kernel) rfl
theorem lmL_118 : (Cond.methodLink RL 118 yX12_tale : Cond) ∈ BG := bg_t7 (i := 224) (by decide +kernel) rfl
theorem lmX12_374 : (Cond.methodLink RX12 374 yX12_tryTales : Cond) ∈ BG := bg_t7 (i := 228) (by decide +kernel) rfl
theorem lmL_122 : (Cond.methodLink RL 122 yX12_plan : Cond) ∈ BG := bg_t7 (i := 232) (by decide +kernel) rfl
theorem lmX12_381 : (Cond.methodLink RX12 381 yX12_tryPlan : Cond) ∈ BG := bg_t7 (i := 236) (by decide +kernel) rfl
theorem lmX12_378 : (Cond.methodLink RX12 378 yX12_putAside : Cond) ∈ BG := bg_t8 (i := 0) (by decide +kernel) rfl
theorem lmX12_385 : (Cond.methodLink RX12 385 yX12_takeBack : Cond) ∈ BG := bg_t8 (i := 4) (by decide +kernel) rfl
theorem lmL_126 : (Cond.methodLink RL 126 yX12_blankets : Cond) ∈ BG := bg_t8 (i := 8) (by decide +kernel) rfl
theorem lmX12_394 : (Cond.methodLink RX12 394 yX12_tryLay : Cond) ∈ BG := bg_t8 (i := 12) (by decide +kernel) rfl
theorem lmL_131 : (Cond.methodLink RL 131 yX12_seen : Cond) ∈ BG := bg_t8 (i := 16) (by decide +kernel) rfl
theorem lmL_135 : (Cond.methodLink RL 135 yX12_plies : Cond) ∈ BG := bg_t8 (i := 20) (by decide +kernel) rfl
theorem lmX12_401 : (Cond.methodLink RX12 401 yX12_isPly : Cond) ∈ BG := bg_t8 (i := 24) (by decide +kernel) rfl
theorem lmX12_397 : (Cond.methodLink RX12 397 yX12_goesTold : Cond) ∈ BG := bg_t8 (i := 28) (by decide +kernel) rfl
theorem lmL_139 : (Cond.methodLink RL 139 yX12_ask : Cond) ∈ BG := bg_t8 (i := 32) (by decide +kernel) rfl
theorem lmX12_404 : (Cond.methodLink RX12 404 yX12_plies : Cond) ∈ BG := bg_t8 (i := 36) (by decide +kernel) rfl
theorem lmL_143 : (Cond.methodLink RL 143 yX12_game : Cond) ∈ BG := bg_t8 (i := 37) (by decide +kernel) rfl
theorem lcX12_407 : (Cond.constant RX12 407 (-1000000) : Cond) ∈ BG := bg_t8 (i := 41) (by decide +kernel) rfl
theorem lmX12_408 : (Cond.methodLink RX12 408 yX12_gameOf : Cond) ∈ BG := bg_t8 (i := 42) (by decide +kernel) rfl
theorem lmL_148 : (Cond.methodLink RL 148 yX12_rests : Cond) ∈ BG := bg_t8 (i := 46) (by decide +kernel) rfl
theorem lmX12_412 : (Cond.methodLink RX12 412 yX12_isRest : Cond) ∈ BG := bg_t8 (i := 50) (by decide +kernel) rfl
theorem lmL_152 : (Cond.methodLink RL 152 yX12_odds : Cond) ∈ BG := bg_t8 (i := 54) (by decide +kernel) rfl
theorem lcX12_415 : (Cond.constantLong RX12 415 (1000000000) : Cond) ∈ BG := bg_t8 (i := 58) (by decide +kernel) rfl
theorem lcX12_417 : (Cond.constantLong RX12 417 (100) : Cond) ∈ BG := bg_t8 (i := 59) (by decide +kernel) rfl
theorem lmL_156 : (Cond.methodLink RL 156 yX12_story : Cond) ∈ BG := bg_t8 (i := 60) (by decide +kernel) rfl
theorem lmX12_419 : (Cond.methodLink RX12 419 yX12_lastOf : Cond) ∈ BG := bg_t8 (i := 64) (by decide +kernel) rfl
theorem lmX12_422 : (Cond.methodLink RX12 422 yX12_bitOf : Cond) ∈ BG := bg_t8 (i := 68) (by decide +kernel) rfl
theorem lmL_160 : (Cond.methodLink RL 160 yX12_shares : Cond) ∈ BG := bg_t8 (i := 71) (by decide +kernel) rfl
theorem lmL_164 : (Cond.methodLink RL 164 yX12_most : Cond) ∈ BG := bg_t8 (i := 75) (by decide +kernel) rfl
theorem lmX12_428 : (Cond.methodLink RX12 428 yX12_looseOnes : Cond) ∈ BG := bg_t8 (i := 79) (by decide +kernel) rfl
theorem lmX12_434 : (Cond.methodLink RX12 434 yX12_rack : Cond) ∈ BG := bg_t8 (i := 83) (by decide +kernel) rfl
theorem lmX12_437 : (Cond.methodLink RX12 437 yX12_tales : Cond) ∈ BG := bg_t8 (i := 87) (by decide +kernel) rfl
theorem lmX12_431 : (Cond.methodLink RX12 431 yX12_isTale : Cond) ∈ BG := bg_t8 (i := 91) (by decide +kernel) rfl
theorem lmX12_440 : (Cond.methodLink RX12 440 yX12_worthOfAll : Cond) ∈ BG := bg_t8 (i := 95) (by decide +kernel) rfl
theorem lmX12_443 : (Cond.methodLink RX12 443 yX12_topBy : Cond) ∈ BG := bg_t8 (i := 99) (by decide +kernel) rfl
theorem lmX12_425 : (Cond.methodLink RX12 425 yX12_valueOf : Cond) ∈ BG := bg_t8 (i := 103) (by decide +kernel) rfl
theorem lmL_168 : (Cond.methodLink RL 168 yX12_image : Cond) ∈ BG := bg_t8 (i := 107) (by decide +kernel) rfl
theorem lmL_172 : (Cond.methodLink RL 172 yX12_back : Cond) ∈ BG := bg_t8 (i := 111) (by decide +kernel) rfl
theorem lmL_176 : (Cond.methodLink RL 176 yX12_count : Cond) ∈ BG := bg_t8 (i := 115) (by decide +kernel) rfl
theorem lcL_84 : (Cond.constantLong RL 84 (4294967295) : Cond) ∈ BG := bg_t8 (i := 119) (by decide +kernel) rfl
theorem liX0 : (Cond.initialized RX0 : Cond) ∈ BG := bg_t1 (i := 10) (by decide +kernel) rfl
theorem liX1 : (Cond.initialized RX1 : Cond) ∈ BG := bg_t1 (i := 12) (by decide +kernel) rfl
theorem liX2 : (Cond.initialized RX2 : Cond) ∈ BG := bg_t1 (i := 6) (by decide +kernel) rfl
theorem liX3 : (Cond.initialized RX3 : Cond) ∈ BG := bg_t1 (i := 5) (by decide +kernel) rfl
theorem liX4 : (Cond.initialized RX4 : Cond) ∈ BG := bg_t1 (i := 8) (by decide +kernel) rfl
theorem liX5 : (Cond.initialized RX5 : Cond) ∈ BG := bg_t1 (i := 3) (by decide +kernel) rfl
theorem liX6 : (Cond.initialized RX6 : Cond) ∈ BG := bg_t1 (i := 4) (by decide +kernel) rfl
theorem liX7 : (Cond.initialized RX7 : Cond) ∈ BG := bg_t1 (i := 11) (by decide +kernel) rfl
theorem liX8 : (Cond.initialized RX8 : Cond) ∈ BG := bg_t1 (i := 7) (by decide +kernel) rfl
theorem liX9 : (Cond.initialized RX9 : Cond) ∈ BG := bg_t1 (i := 2) (by decide +kernel) rfl
theorem liX10 : (Cond.initialized RX10 : Cond) ∈ BG := bg_t1 (i := 9) (by decide +kernel) rfl
theorem liX11 : (Cond.initialized RX11 : Cond) ∈ BG := bg_t1 (i := 1) (by decide +kernel) rfl
theorem liX12 : (Cond.initialized RX12 : Cond) ∈ BG := bg_t1 (i := 13) (by decide +kernel) rfl
theorem liJ6 : (Cond.initialized RJ6 : Cond) ∈ BG := bg_t1 (i := 21) (by decide +kernel) rfl
theorem liJ9 : (Cond.initialized RJ9 : Cond) ∈ BG := bg_t1 (i := 16) (by decide +kernel) rfl
theorem liJ10 : (Cond.initialized RJ10 : Cond) ∈ BG := bg_t1 (i := 14) (by decide +kernel) rfl
theorem liJ7 : (Cond.initialized RJ7 : Cond) ∈ BG := bg_t1 (i := 15) (by decide +kernel) rfl
theorem liL : (Cond.initialized RL : Cond) ∈ BG := bg_t1 (i := 0) (by decide +kernel) rfl
def OkV (C : String) (y : MethodName) (cc : ByteArray) (mL : Nat) (ret : Option FieldType) (n : Nat) : Prop := (Cond.instanceMethod y ∈ BG ∧ Cond.selects C y y ∈ BG ∧ Cond.initialized C ∈ BG ∧ Cond.code y cc mL ret ∈ BG) ∧ (y.cls = C ∧ y.cls ≠ "java/lang/invoke/MethodHandle" ∧ y.cls ≠ "java/lang/invoke/VarHandle" ∧ (parseMethodDescriptor y.desc).map (fun d => d.parameters.length) = some n)
def OkS (y : MethodName) (cc : ByteArray) (mL : Nat) (ret : Option FieldType) (n : Nat) : Prop := (Cond.static y ∈ BG ∧ Cond.initialized y.cls ∈ BG ∧ Cond.code y cc mL ret ∈ BG) ∧ (y.cls ≠ "java/lang/invoke/MethodHandle" ∧ y.cls ≠ "java/lang/invoke/VarHandle" ∧ (parseMethodDescriptor y.desc).map (fun d => d.parameters.length) = some n)
theorem okX11_feed : OkV RX11 yX11_feed cX11_feed 7 (some .int) 5 := ⟨⟨bg_t2 (i := 180) (by decide +kernel) rfl, bg_t2 (i := 181) (by decide +kernel) rfl, liX11, bg_t2 (i := 182) (by rfl) rfl⟩, by decide +kernel⟩
theorem okX11_end : OkV RX11 yX11_end cX11_end 2 (some .boolean) 1 := ⟨⟨bg_t2 (i := 191) (by decide +kernel) rfl, bg_t2 (i := 192) (by decide +kernel) rfl, liX11, bg_t2 (i := 193) (by rfl) rfl⟩, by decide +kernel⟩
theorem okX11_fault : OkV RX11 yX11_fault cX11_fault 2 (some .int) 1 := ⟨⟨bg_t2 (i := 195) (by decide +kernel) rfl, bg_t2 (i := 196) (by decide +kernel) rfl, liX11, bg_t2 (i := 197) (by rfl) rfl⟩, by decide +kernel⟩
theorem okX11_text : OkV RX11 yX11_text cX11_text 2 (some .int) 1 := ⟨⟨bg_t3 (i := 68) (by decide +kernel) rfl, bg_t3 (i := 69) (by decide +kernel) rfl, liX11, bg_t3 (i := 70) (by rfl) rfl⟩, by decide +kernel⟩
theorem okX11_takeMill : OkV RX11 yX11_takeMill cX11_takeMill 1 (some .int) 0 := ⟨⟨bg_t3 (i := 73) (by decide +kernel) rfl, bg_s (i := 15) (by decide +kernel) rfl, liX11, bg_t3 (i := 74) (by rfl) rfl⟩, by decide +kernel⟩
theorem okX11_takeLaw : OkV RX11 yX11_takeLaw cX11_takeLaw 1 (some .int) 0 := ⟨⟨bg_t3 (i := 96) (by decide +kernel) rfl, bg_s (i := 16) (by decide +kernel) rfl, liX11, bg_t3 (i := 97) (by rfl) rfl⟩, by decide +kernel⟩
theorem okX11_rule : OkV RX11 yX11_rule cX11_rule 2 (some .int) 1 := ⟨⟨bg_t3 (i := 117) (by decide +kernel) rfl, bg_t3 (i := 118) (by decide +kernel) rfl, liX11, bg_t3 (i := 119) (by rfl) rfl⟩, by decide +kernel⟩
theorem okX11_thread : OkV RX11 yX11_thread cX11_thread 3 (some .int) 2 := ⟨⟨bg_t5 (i := 152) (by decide +kernel) rfl, bg_t5 (i := 153) (by decide +kernel) rfl, liX11, bg_t5 (i := 154) (by rfl) rfl⟩, by decide +kernel⟩
theorem okX11_law : OkV RX11 yX11_law cX11_law 2 (some .boolean) 1 := ⟨⟨bg_t3 (i := 125) (by decide +kernel) rfl, bg_t3 (i := 126) (by decide +kernel) rfl, liX11, bg_t3 (i := 127) (by rfl) rfl⟩, by decide +kernel⟩
theorem okX11_attempt : OkV RX11 yX11_attempt cX11_attempt 4 (some .int) 2 := ⟨⟨bg_t3 (i := 129) (by decide +kernel) rfl, bg_t3 (i := 130) (by decide +kernel) rfl, liX11, bg_t3 (i := 131) (by rfl) rfl⟩, by decide +kernel⟩
theorem okX11_pull : OkV RX11 yX11_pull cX11_pull 3 (some .int) 1 := ⟨⟨bg_t3 (i := 226) (by decide +kernel) rfl, bg_t3 (i := 227) (by decide +kernel) rfl, liX11, bg_t3 (i := 228) (by rfl) rfl⟩, by decide +kernel⟩
theorem okX11_sell : OkV RX11 yX11_sell cX11_sell 4 (some .int) 1 := ⟨⟨bg_t4 (i := 11) (by decide +kernel) rfl, bg_t4 (i := 12) (by decide +kernel) rfl, liX11, bg_t4 (i := 13) (by rfl) rfl⟩, by decide +kernel⟩
theorem okX11_sellRefusal : OkV RX11 yX11_sellRefusal cX11_sellRefusal 2 (some .int) 1 := ⟨⟨bg_t4 (i := 16) (by decide +kernel) rfl, bg_s (i := 21) (by decide +kernel) rfl, liX11, bg_t4 (i := 17) (by rfl) rfl⟩, by decide +kernel⟩
theorem okX11_dye : OkV RX11 yX11_dye cX11_dye 5 (some .int) 2 := ⟨⟨bg_t4 (i := 31) (by decide +kernel) rfl, bg_t4 (i := 32) (by decide +kernel) rfl, liX11, bg_t4 (i := 33) (by rfl) rfl⟩, by decide +kernel⟩
theorem okX11_dyeRefusal : OkV RX11 yX11_dyeRefusal cX11_dyeRefusal 3 (some .int) 2 := ⟨⟨bg_t4 (i := 36) (by decide +kernel) rfl, bg_s (i := 22) (by decide +kernel) rfl, liX11, bg_t4 (i := 37) (by rfl) rfl⟩, by decide +kernel⟩
theorem okX11_give : OkV RX11 yX11_give cX11_give 2 (some .int) 1 := ⟨⟨bg_t4 (i := 44) (by decide +kernel) rfl, bg_t4 (i := 45) (by decide +kernel) rfl, liX11, bg_t4 (i := 46) (by rfl) rfl⟩, by decide +kernel⟩
theorem okX11_days : OkV RX11 yX11_days cX11_days 3 (some .int) 1 := ⟨⟨bg_t4 (i := 48) (by decide +kernel) rfl, bg_t4 (i := 49) (by decide +kernel) rfl, liX11, bg_t4 (i := 50) (by rfl) rfl⟩, by decide +kernel⟩
theorem okX11_refuse : OkV RX11 yX11_refuse cX11_refuse 2 (some .int) 1 := ⟨⟨bg_t3 (i := 154) (by decide +kernel) rfl, bg_s (i := 17) (by decide +kernel) rfl, liX11, bg_t3 (i := 155) (by rfl) rfl⟩, by decide +kernel⟩
theorem okX11_wakes : OkV RX11 yX11_wakes cX11_wakes 2 (some .boolean) 1 := ⟨⟨bg_t4 (i := 67) (by decide +kernel) rfl, bg_t4 (i := 68) (by decide +kernel) rfl, liX11, bg_t4 (i := 69) (by rfl) rfl⟩, by decide +kernel⟩
theorem okX11_years : OkV RX11 yX11_years cX11_years 5 (some .int) 2 := ⟨⟨bg_t4 (i := 71) (by decide +kernel) rfl, bg_t4 (i := 72) (by decide +kernel) rfl, liX11, bg_t4 (i := 73) (by rfl) rfl⟩, by decide +kernel⟩
theorem okX11_status : OkV RX11 yX11_status cX11_status 2 (some .int) 1 := ⟨⟨bg_t4 (i := 90) (by decide +kernel) rfl, bg_t4 (i := 91) (by decide +kernel) rfl, liX11, bg_t4 (i := 92) (by rfl) rfl⟩, by decide +kernel⟩
theorem okX11_undo : OkV RX11 yX11_undo cX11_undo 1 (some .int) 0 := ⟨⟨bg_t4 (i := 94) (by decide +kernel) rfl, bg_t4 (i := 95) (by decide +kernel) rfl, liX11, bg_t4 (i := 96) (by rfl) rfl⟩, by decide +kernel⟩
theorem okX11_log : OkV RX11 yX11_log cX11_log 3 (some .int) 2 := ⟨⟨bg_t4 (i := 106) (by decide +kernel) rfl, bg_t4 (i := 107) (by decide +kernel) rfl, liX11, bg_t4 (i := 108) (by rfl) rfl⟩, by decide +kernel⟩
theorem okX11_fits : OkV RX11 yX11_fits cX11_fits 3 (some .int) 2 := ⟨⟨bg_t4 (i := 117) (by decide +kernel) rfl, bg_t4 (i := 118) (by decide +kernel) rfl, liX11, bg_t4 (i := 119) (by rfl) rfl⟩, by decide +kernel⟩
theorem okX11_could : OkV RX11 yX11_could cX11_could 2 (some .int) 1 := ⟨⟨bg_t4 (i := 123) (by decide +kernel) rfl, bg_t4 (i := 124) (by decide +kernel) rfl, liX11, bg_t4 (i := 125) (by rfl) rfl⟩, by decide +kernel⟩
theorem okX11_knots : OkV RX11 yX11_knots cX11_knots 2 (some .int) 1 := ⟨⟨bg_t4 (i := 134) (by decide +kernel) rfl, bg_t4 (i := 135) (by decide +kernel) rfl, liX11, bg_t4 (i := 136) (by rfl) rfl⟩, by decide +kernel⟩
theorem okX11_tale : OkV RX11 yX11_tale cX11_tale 2 (some .int) 1 := ⟨⟨bg_t4 (i := 158) (by decide +kernel) rfl, bg_t4 (i := 159) (by decide +kernel) rfl, liX11, bg_t4 (i := 160) (by rfl) rfl⟩, by decide +kernel⟩
theorem okX11_plan : OkV RX11 yX11_plan cX11_plan 3 (some .int) 2 := ⟨⟨bg_t4 (i := 194) (by decide +kernel) rfl, bg_t4 (i := 195) (by decide +kernel) rfl, liX11, bg_t4 (i := 196) (by rfl) rfl⟩, by decide +kernel⟩
theorem okX11_blankets : OkV RX11 yX11_blankets cX11_blankets 2 (some .int) 1 := ⟨⟨bg_t4 (i := 212) (by decide +kernel) rfl, bg_t4 (i := 213) (by decide +kernel) rfl, liX11, bg_t4 (i := 214) (by rfl) rfl⟩, by decide +kernel⟩
theorem okX11_seen : OkV RX11 yX11_seen cX11_seen 4 (some .int) 3 := ⟨⟨bg_t4 (i := 229) (by decide +kernel) rfl, bg_t4 (i := 230) (by decide +kernel) rfl, liX11, bg_t4 (i := 231) (by rfl) rfl⟩, by decide +kernel⟩
theorem okX11_plies : OkV RX11 yX11_plies cX11_plies 4 (some .int) 2 := ⟨⟨bg_t4 (i := 237) (by decide +kernel) rfl, bg_t4 (i := 238) (by decide +kernel) rfl, liX11, bg_t4 (i := 239) (by rfl) rfl⟩, by decide +kernel⟩
theorem okX11_bitAt : OkS yX11_bitAt cX11_bitAt 4 (some .int) 2 := ⟨⟨bg_t5 (i := 16) (by decide +kernel) rfl, liX11, bg_t5 (i := 17) (by rfl) rfl⟩, by decide +kernel⟩
theorem okX11_ask : OkV RX11 yX11_ask cX11_ask 2 (some .int) 1 := ⟨⟨bg_t5 (i := 19) (by decide +kernel) rfl, bg_t5 (i := 20) (by decide +kernel) rfl, liX11, bg_t5 (i := 21) (by rfl) rfl⟩, by decide +kernel⟩
theorem okX11_game : OkV RX11 yX11_game cX11_game 6 (some .int) 5 := ⟨⟨bg_t5 (i := 31) (by decide +kernel) rfl, bg_t5 (i := 32) (by decide +kernel) rfl, liX11, bg_t5 (i := 33) (by rfl) rfl⟩, by decide +kernel⟩
theorem okX11_rests : OkV RX11 yX11_rests cX11_rests 4 (some .int) 3 := ⟨⟨bg_t5 (i := 50) (by decide +kernel) rfl, bg_t5 (i := 51) (by decide +kernel) rfl, liX11, bg_t5 (i := 52) (by rfl) rfl⟩, by decide +kernel⟩
theorem okX11_odds : OkV RX11 yX11_odds cX11_odds 3 (some .int) 2 := ⟨⟨bg_t5 (i := 71) (by decide +kernel) rfl, bg_t5 (i := 72) (by decide +kernel) rfl, liX11, bg_t5 (i := 73) (by rfl) rfl⟩, by decide +kernel⟩
theorem okX11_story : OkV RX11 yX11_story cX11_story 3 (some .int) 2 := ⟨⟨bg_t5 (i := 82) (by decide +kernel) rfl, bg_t5 (i := 83) (by decide +kernel) rfl, liX11, bg_t5 (i := 84) (by rfl) rfl⟩, by decide +kernel⟩
theorem okX11_shares : OkV RX11 yX11_shares cX11_shares 4 (some .int) 2 := ⟨⟨bg_t5 (i := 96) (by decide +kernel) rfl, bg_t5 (i := 97) (by decide +kernel) rfl, liX11, bg_t5 (i := 98) (by rfl) rfl⟩, by decide +kernel⟩
theorem okX11_most : OkV RX11 yX11_most cX11_most 2 (some .int) 1 := ⟨⟨bg_t5 (i := 100) (by decide +kernel) rfl, bg_t5 (i := 101) (by decide +kernel) rfl, liX11, bg_t5 (i := 102) (by rfl) rfl⟩, by decide +kernel⟩
theorem okX11_highest : OkV RX11 yX11_highest cX11_highest 4 (some .int) 1 := ⟨⟨bg_t5 (i := 105) (by decide +kernel) rfl, bg_s (i := 38) (by decide +kernel) rfl, liX11, bg_t5 (i := 106) (by rfl) rfl⟩, by decide +kernel⟩
theorem okX11_image : OkV RX11 yX11_image cX11_image 1 (some .int) 0 := ⟨⟨bg_t5 (i := 126) (by decide +kernel) rfl, bg_t5 (i := 127) (by decide +kernel) rfl, liX11, bg_t5 (i := 128) (by rfl) rfl⟩, by decide +kernel⟩
theorem okX11_back : OkV RX11 yX11_back cX11_back 1 (some .int) 0 := ⟨⟨bg_t5 (i := 135) (by decide +kernel) rfl, bg_t5 (i := 136) (by decide +kernel) rfl, liX11, bg_t5 (i := 137) (by rfl) rfl⟩, by decide +kernel⟩
theorem okX11_count : OkV RX11 yX11_count cX11_count 2 (some .int) 1 := ⟨⟨bg_t5 (i := 143) (by decide +kernel) rfl, bg_t5 (i := 144) (by decide +kernel) rfl, liX11, bg_t5 (i := 145) (by rfl) rfl⟩, by decide +kernel⟩
theorem okX12_in : OkS yX12_in cX12_in 3 (some .boolean) 3 := ⟨⟨bg_t6 (i := 185) (by decide +kernel) rfl, liX12, bg_t6 (i := 186) (by rfl) rfl⟩, by decide +kernel⟩
theorem okX12_has : OkS yX12_has cX12_has 2 (some .boolean) 2 := ⟨⟨bg_t6 (i := 165) (by decide +kernel) rfl, liX12, bg_t6 (i := 166) (by rfl) rfl⟩, by decide +kernel⟩
theorem okX12_thrown : OkV RX12 yX12_thrown cX12_thrown 1 (some .int) 0 := ⟨⟨bg_t6 (i := 124) (by decide +kernel) rfl, bg_t6 (i := 125) (by decide +kernel) rfl, liX12, bg_t6 (i := 126) (by rfl) rfl⟩, by decide +kernel⟩
theorem okX12_byteOf : OkS yX12_byteOf cX12_byteOf 7 (some .int) 6 := ⟨⟨bg_t6 (i := 132) (by decide +kernel) rfl, liX12, bg_t6 (i := 133) (by rfl) rfl⟩, by decide +kernel⟩
theorem okX12_feed : OkV RX12 yX12_feed cX12_feed 9 (some .int) 5 := ⟨⟨bg_t6 (i := 128) (by decide +kernel) rfl, bg_t6 (i := 129) (by decide +kernel) rfl, liX12, bg_t6 (i := 130) (by rfl) rfl⟩, by decide +kernel⟩
theorem okX12_end : OkV RX12 yX12_end cX12_end 2 (some .boolean) 1 := ⟨⟨bg_t6 (i := 135) (by decide +kernel) rfl, bg_t6 (i := 136) (by decide +kernel) rfl, liX12, bg_t6 (i := 137) (by rfl) rfl⟩, by decide +kernel⟩
theorem okX12_here : OkV RX12 yX12_here cX12_here 1 (some .int) 0 := ⟨⟨bg_t6 (i := 155) (by decide +kernel) rfl, bg_s (i := 43) (by decide +kernel) rfl, liX12, bg_t6 (i := 156) (by rfl) rfl⟩, by decide +kernel⟩
theorem okX12_look : OkV RX12 yX12_look cX12_look 1 (some .int) 0 := ⟨⟨bg_t6 (i := 151) (by decide +kernel) rfl, bg_s (i := 42) (by decide +kernel) rfl, liX12, bg_t6 (i := 152) (by rfl) rfl⟩, by decide +kernel⟩
theorem okX12_bad : OkV RX12 yX12_bad cX12_bad 1 none 0 := ⟨⟨bg_t6 (i := 182) (by decide +kernel) rfl, bg_s (i := 46) (by decide +kernel) rfl, liX12, bg_t6 (i := 183) (by rfl) rfl⟩, by decide +kernel⟩
theorem okX12_isDigit : OkS yX12_isDigit cX12_isDigit 1 (some .boolean) 1 := ⟨⟨bg_t6 (i := 178) (by decide +kernel) rfl, liX12, bg_t6 (i := 179) (by rfl) rfl⟩, by decide +kernel⟩
theorem okX12_put : OkV RX12 yX12_put cX12_put 3 none 2 := ⟨⟨bg_t6 (i := 213) (by decide +kernel) rfl, bg_s (i := 53) (by decide +kernel) rfl, liX12, bg_t6 (i := 214) (by rfl) rfl⟩, by decide +kernel⟩
theorem okX12_letterOf : OkS yX12_letterOf cX12_letterOf 1 (some .int) 1 := ⟨⟨bg_t6 (i := 236) (by decide +kernel) rfl, liX12, bg_t6 (i := 237) (by rfl) rfl⟩, by decide +kernel⟩
theorem okX12_opens : OkV RX12 yX12_opens cX12_opens 1 none 0 := ⟨⟨bg_t6 (i := 209) (by decide +kernel) rfl, bg_s (i := 52) (by decide +kernel) rfl, liX12, bg_t6 (i := 210) (by rfl) rfl⟩, by decide +kernel⟩
theorem okX12_closes : OkV RX12 yX12_closes cX12_closes 2 none 1 := ⟨⟨bg_t6 (i := 217) (by decide +kernel) rfl, bg_s (i := 54) (by decide +kernel) rfl, liX12, bg_t6 (i := 218) (by rfl) rfl⟩, by decide +kernel⟩
theorem okX12_plainNumber : OkV RX12 yX12_plainNumber cX12_plainNumber 3 (some .int) 0 := ⟨⟨bg_t6 (i := 233) (by decide +kernel) rfl, bg_s (i := 58) (by decide +kernel) rfl, liX12, bg_t6 (i := 234) (by rfl) rfl⟩, by decide +kernel⟩
theorem okX12_atom : OkV RX12 yX12_atom cX12_atom 2 none 0 := ⟨⟨bg_t6 (i := 229) (by decide +kernel) rfl, bg_s (i := 57) (by decide +kernel) rfl, liX12, bg_t6 (i := 230) (by rfl) rfl⟩, by decide +kernel⟩
theorem okX12_term : OkV RX12 yX12_term cX12_term 2 none 0 := ⟨⟨bg_t6 (i := 225) (by decide +kernel) rfl, bg_s (i := 56) (by decide +kernel) rfl, liX12, bg_t6 (i := 226) (by rfl) rfl⟩, by decide +kernel⟩
theorem okX12_sum : OkV RX12 yX12_sum cX12_sum 2 none 0 := ⟨⟨bg_t6 (i := 221) (by decide +kernel) rfl, bg_s (i := 55) (by decide +kernel) rfl, liX12, bg_t6 (i := 222) (by rfl) rfl⟩, by decide +kernel⟩
theorem okX12_isSign : OkS yX12_isSign cX12_isSign 1 (some .boolean) 1 := ⟨⟨bg_t7 (i := 3) (by decide +kernel) rfl, liX12, bg_t7 (i := 4) (by rfl) rfl⟩, by decide +kernel⟩
theorem okX12_compare : OkV RX12 yX12_compare cX12_compare 2 none 0 := ⟨⟨bg_t7 (i := 0) (by decide +kernel) rfl, bg_s (i := 59) (by decide +kernel) rfl, liX12, bg_t7 (i := 1) (by rfl) rfl⟩, by decide +kernel⟩
theorem okX12_unit : OkV RX12 yX12_unit cX12_unit 2 none 0 := ⟨⟨bg_t6 (i := 205) (by decide +kernel) rfl, bg_s (i := 51) (by decide +kernel) rfl, liX12, bg_t6 (i := 206) (by rfl) rfl⟩, by decide +kernel⟩
theorem okX12_goOnAnd : OkV RX12 yX12_goOnAnd cX12_goOnAnd 1 none 0 := ⟨⟨bg_t7 (i := 7) (by decide +kernel) rfl, bg_s (i := 60) (by decide +kernel) rfl, liX12, bg_t7 (i := 8) (by rfl) rfl⟩, by decide +kernel⟩
theorem okX12_goOnOr : OkV RX12 yX12_goOnOr cX12_goOnOr 1 none 0 := ⟨⟨bg_t7 (i := 11) (by decide +kernel) rfl, bg_s (i := 61) (by decide +kernel) rfl, liX12, bg_t7 (i := 12) (by rfl) rfl⟩, by decide +kernel⟩
theorem okX12_condition : OkV RX12 yX12_condition cX12_condition 1 none 0 := ⟨⟨bg_t6 (i := 201) (by decide +kernel) rfl, bg_s (i := 50) (by decide +kernel) rfl, liX12, bg_t6 (i := 202) (by rfl) rfl⟩, by decide +kernel⟩
theorem okX12_clause : OkV RX12 yX12_clause cX12_clause 3 none 0 := ⟨⟨bg_t6 (i := 197) (by decide +kernel) rfl, bg_s (i := 49) (by decide +kernel) rfl, liX12, bg_t6 (i := 198) (by rfl) rfl⟩, by decide +kernel⟩
theorem okX12_open : OkV RX12 yX12_open cX12_open 2 none 1 := ⟨⟨bg_t6 (i := 193) (by decide +kernel) rfl, bg_s (i := 48) (by decide +kernel) rfl, liX12, bg_t6 (i := 194) (by rfl) rfl⟩, by decide +kernel⟩
theorem okX12_atEnd : OkV RX12 yX12_atEnd cX12_atEnd 1 (some .int) 0 := ⟨⟨bg_t7 (i := 15) (by decide +kernel) rfl, bg_s (i := 62) (by decide +kernel) rfl, liX12, bg_t7 (i := 16) (by rfl) rfl⟩, by decide +kernel⟩
theorem okX12_readLaw : OkV RX12 yX12_readLaw cX12_readLaw 2 (some .int) 1 := ⟨⟨bg_t6 (i := 189) (by decide +kernel) rfl, bg_s (i := 47) (by decide +kernel) rfl, liX12, bg_t6 (i := 190) (by rfl) rfl⟩, by decide +kernel⟩
theorem okX12_bounded : OkS yX12_bounded cX12_bounded 2 (some .int) 1 := ⟨⟨bg_t7 (i := 102) (by decide +kernel) rfl, liX12, bg_t7 (i := 103) (by rfl) rfl⟩, by decide +kernel⟩
theorem okX12_worked : OkS yX12_worked cX12_worked 5 (some .int) 3 := ⟨⟨bg_t7 (i := 99) (by decide +kernel) rfl, liX12, bg_t7 (i := 100) (by rfl) rfl⟩, by decide +kernel⟩
theorem okX12_workOut : OkV RX12 yX12_workOut cX12_workOut 6 (some .int) 3 := ⟨⟨bg_t7 (i := 96) (by decide +kernel) rfl, bg_s (i := 77) (by decide +kernel) rfl, liX12, bg_t7 (i := 97) (by rfl) rfl⟩, by decide +kernel⟩
theorem okX12_worthOf : OkV RX12 yX12_worthOf cX12_worthOf 3 (some .int) 1 := ⟨⟨bg_t7 (i := 92) (by decide +kernel) rfl, bg_s (i := 76) (by decide +kernel) rfl, liX12, bg_t7 (i := 93) (by rfl) rfl⟩, by decide +kernel⟩
theorem okX12_number : OkV RX12 yX12_number cX12_number 4 (some .int) 2 := ⟨⟨bg_t6 (i := 175) (by decide +kernel) rfl, bg_s (i := 45) (by decide +kernel) rfl, liX12, bg_t6 (i := 176) (by rfl) rfl⟩, by decide +kernel⟩
theorem okX12_itemOf : OkS yX12_itemOf cX12_itemOf 2 (some .int) 2 := ⟨⟨bg_t6 (i := 162) (by decide +kernel) rfl, liX12, bg_t6 (i := 163) (by rfl) rfl⟩, by decide +kernel⟩
theorem okX12_lowest : OkS yX12_lowest cX12_lowest 2 (some .int) 2 := ⟨⟨bg_t6 (i := 168) (by decide +kernel) rfl, liX12, bg_t6 (i := 169) (by rfl) rfl⟩, by decide +kernel⟩
theorem okX12_highest : OkS yX12_highest cX12_highest 2 (some .int) 2 := ⟨⟨bg_t6 (i := 171) (by decide +kernel) rfl, liX12, bg_t6 (i := 172) (by rfl) rfl⟩, by decide +kernel⟩
theorem okX12_usual : OkS yX12_usual cX12_usual 2 (some .int) 2 := ⟨⟨bg_t6 (i := 147) (by decide +kernel) rfl, liX12, bg_t6 (i := 148) (by rfl) rfl⟩, by decide +kernel⟩
theorem okX12_items : OkV RX12 yX12_items cX12_items 7 none 4 := ⟨⟨bg_t6 (i := 159) (by decide +kernel) rfl, bg_s (i := 44) (by decide +kernel) rfl, liX12, bg_t6 (i := 160) (by rfl) rfl⟩, by decide +kernel⟩
theorem okX12_readMill : OkV RX12 yX12_readMill cX12_readMill 4 (some .int) 0 := ⟨⟨bg_t6 (i := 144) (by decide +kernel) rfl, bg_s (i := 41) (by decide +kernel) rfl, liX12, bg_t6 (i := 145) (by rfl) rfl⟩, by decide +kernel⟩
theorem okX12_fault : OkV RX12 yX12_fault cX12_fault 2 (some .int) 1 := ⟨⟨bg_t6 (i := 139) (by decide +kernel) rfl, bg_t6 (i := 140) (by decide +kernel) rfl, liX12, bg_t6 (i := 141) (by rfl) rfl⟩, by decide +kernel⟩
theorem okX12_takeMill : OkV RX12 yX12_takeMill cX12_takeMill 2 (some .int) 0 := ⟨⟨bg_t7 (i := 23) (by decide +kernel) rfl, bg_s (i := 63) (by decide +kernel) rfl, liX12, bg_t7 (i := 24) (by rfl) rfl⟩, by decide +kernel⟩
theorem okX12_text : OkV RX12 yX12_text cX12_text 2 (some .int) 1 := ⟨⟨bg_t7 (i := 18) (by decide +kernel) rfl, bg_t7 (i := 19) (by decide +kernel) rfl, liX12, bg_t7 (i := 20) (by rfl) rfl⟩, by decide +kernel⟩
theorem okX12_of : OkV RX12 yX12_of cX12_of 3 (some .int) 2 := ⟨⟨bg_t7 (i := 27) (by decide +kernel) rfl, bg_s (i := 64) (by decide +kernel) rfl, liX12, bg_t7 (i := 28) (by rfl) rfl⟩, by decide +kernel⟩
theorem okX12_isEnd : OkV RX12 yX12_isEnd cX12_isEnd 2 (some .boolean) 1 := ⟨⟨bg_t7 (i := 39) (by decide +kernel) rfl, bg_s (i := 65) (by decide +kernel) rfl, liX12, bg_t7 (i := 40) (by rfl) rfl⟩, by decide +kernel⟩
theorem okX12_isSold : OkV RX12 yX12_isSold cX12_isSold 2 (some .boolean) 1 := ⟨⟨bg_t7 (i := 43) (by decide +kernel) rfl, bg_s (i := 66) (by decide +kernel) rfl, liX12, bg_t7 (i := 44) (by rfl) rfl⟩, by decide +kernel⟩
theorem okX12_isKnotted : OkV RX12 yX12_isKnotted cX12_isKnotted 2 (some .boolean) 1 := ⟨⟨bg_t7 (i := 119) (by decide +kernel) rfl, bg_s (i := 79) (by decide +kernel) rfl, liX12, bg_t7 (i := 120) (by rfl) rfl⟩, by decide +kernel⟩
theorem okX12_isLoose : OkV RX12 yX12_isLoose cX12_isLoose 2 (some .boolean) 1 := ⟨⟨bg_t7 (i := 148) (by decide +kernel) rfl, bg_s (i := 84) (by decide +kernel) rfl, liX12, bg_t7 (i := 149) (by rfl) rfl⟩, by decide +kernel⟩
theorem okX12_firstOf : OkV RX12 yX12_firstOf cX12_firstOf 3 (some .int) 1 := ⟨⟨bg_t7 (i := 59) (by decide +kernel) rfl, bg_s (i := 68) (by decide +kernel) rfl, liX12, bg_t7 (i := 60) (by rfl) rfl⟩, by decide +kernel⟩
theorem okX12_lastOf : OkV RX12 yX12_lastOf cX12_lastOf 3 (some .int) 1 := ⟨⟨bg_t8 (i := 66) (by decide +kernel) rfl, bg_s (i := 102) (by decide +kernel) rfl, liX12, bg_t8 (i := 67) (by rfl) rfl⟩, by decide +kernel⟩
theorem okX12_manyOf : OkV RX12 yX12_manyOf cX12_manyOf 4 (some .int) 1 := ⟨⟨bg_t7 (i := 79) (by decide +kernel) rfl, bg_s (i := 73) (by decide +kernel) rfl, liX12, bg_t7 (i := 80) (by rfl) rfl⟩, by decide +kernel⟩
theorem okX12_lengthOf : OkV RX12 yX12_lengthOf cX12_lengthOf 4 (some .int) 1 := ⟨⟨bg_t7 (i := 139) (by decide +kernel) rfl, bg_s (i := 83) (by decide +kernel) rfl, liX12, bg_t7 (i := 140) (by rfl) rfl⟩, by decide +kernel⟩
theorem okX12_goesBy : OkV RX12 yX12_goesBy cX12_goesBy 6 (some .boolean) 5 := ⟨⟨bg_t7 (i := 88) (by decide +kernel) rfl, bg_s (i := 75) (by decide +kernel) rfl, liX12, bg_t7 (i := 89) (by rfl) rfl⟩, by decide +kernel⟩
theorem okX12_goesWith : OkV RX12 yX12_goesWith cX12_goesWith 4 (some .boolean) 3 := ⟨⟨bg_t7 (i := 83) (by decide +kernel) rfl, bg_s (i := 74) (by decide +kernel) rfl, liX12, bg_t7 (i := 84) (by rfl) rfl⟩, by decide +kernel⟩
theorem okX12_fitsNow : OkV RX12 yX12_fitsNow cX12_fitsNow 3 (some .boolean) 2 := ⟨⟨bg_t7 (i := 75) (by decide +kernel) rfl, bg_s (i := 72) (by decide +kernel) rfl, liX12, bg_t7 (i := 76) (by rfl) rfl⟩, by decide +kernel⟩
theorem okX12_mayTry : OkV RX12 yX12_mayTry cX12_mayTry 3 (some .boolean) 2 := ⟨⟨bg_t7 (i := 55) (by decide +kernel) rfl, bg_s (i := 67) (by decide +kernel) rfl, liX12, bg_t7 (i := 56) (by rfl) rfl⟩, by decide +kernel⟩
theorem okX12_fadeNow : OkV RX12 yX12_fadeNow cX12_fadeNow 2 none 1 := ⟨⟨bg_t7 (i := 110) (by decide +kernel) rfl, bg_s (i := 78) (by decide +kernel) rfl, liX12, bg_t7 (i := 111) (by rfl) rfl⟩, by decide +kernel⟩
theorem okX12_tryNow : OkV RX12 yX12_tryNow cX12_tryNow 4 (some .int) 2 := ⟨⟨bg_t7 (i := 71) (by decide +kernel) rfl, bg_s (i := 71) (by decide +kernel) rfl, liX12, bg_t7 (i := 72) (by rfl) rfl⟩, by decide +kernel⟩
theorem okX12_shorten : OkV RX12 yX12_shorten cX12_shorten 2 none 1 := ⟨⟨bg_t7 (i := 127) (by decide +kernel) rfl, bg_s (i := 81) (by decide +kernel) rfl, liX12, bg_t7 (i := 128) (by rfl) rfl⟩, by decide +kernel⟩
theorem okX12_pullNow : OkV RX12 yX12_pullNow cX12_pullNow 5 (some .int) 1 := ⟨⟨bg_t7 (i := 123) (by decide +kernel) rfl, bg_s (i := 80) (by decide +kernel) rfl, liX12, bg_t7 (i := 124) (by rfl) rfl⟩, by decide +kernel⟩
theorem okX12_worthOfTale : OkV RX12 yX12_worthOfTale cX12_worthOfTale 2 (some .int) 1 := ⟨⟨bg_t7 (i := 135) (by decide +kernel) rfl, bg_s (i := 82) (by decide +kernel) rfl, liX12, bg_t7 (i := 136) (by rfl) rfl⟩, by decide +kernel⟩
theorem okX12_rule : OkV RX12 yX12_rule cX12_rule 2 (some .int) 1 := ⟨⟨bg_t7 (i := 30) (by decide +kernel) rfl, bg_t7 (i := 31) (by decide +kernel) rfl, liX12, bg_t7 (i := 32) (by rfl) rfl⟩, by decide +kernel⟩
theorem okX12_thread : OkV RX12 yX12_thread cX12_thread 3 (some .int) 2 := ⟨⟨bg_t7 (i := 34) (by decide +kernel) rfl, bg_t7 (i := 35) (by decide +kernel) rfl, liX12, bg_t7 (i := 36) (by rfl) rfl⟩, by decide +kernel⟩
theorem okX12_law : OkV RX12 yX12_law cX12_law 2 (some .boolean) 1 := ⟨⟨bg_t7 (i := 46) (by decide +kernel) rfl, bg_t7 (i := 47) (by decide +kernel) rfl, liX12, bg_t7 (i := 48) (by rfl) rfl⟩, by decide +kernel⟩
theorem okX12_keep : OkV RX12 yX12_keep cX12_keep 2 none 0 := ⟨⟨bg_t7 (i := 67) (by decide +kernel) rfl, bg_s (i := 70) (by decide +kernel) rfl, liX12, bg_t7 (i := 68) (by rfl) rfl⟩, by decide +kernel⟩
theorem okX12_isRefused : OkV RX12 yX12_isRefused cX12_isRefused 2 (some .boolean) 1 := ⟨⟨bg_t7 (i := 63) (by decide +kernel) rfl, bg_s (i := 69) (by decide +kernel) rfl, liX12, bg_t7 (i := 64) (by rfl) rfl⟩, by decide +kernel⟩
theorem okX12_attempt : OkV RX12 yX12_attempt cX12_attempt 3 (some .int) 2 := ⟨⟨bg_t7 (i := 50) (by decide +kernel) rfl, bg_t7 (i := 51) (by decide +kernel) rfl, liX12, bg_t7 (i := 52) (by rfl) rfl⟩, by decide +kernel⟩
theorem okX12_pull : OkV RX12 yX12_pull cX12_pull 2 (some .int) 1 := ⟨⟨bg_t7 (i := 114) (by decide +kernel) rfl, bg_t7 (i := 115) (by decide +kernel) rfl, liX12, bg_t7 (i := 116) (by rfl) rfl⟩, by decide +kernel⟩
theorem okX12_sell : OkV RX12 yX12_sell cX12_sell 3 (some .int) 1 := ⟨⟨bg_t7 (i := 130) (by decide +kernel) rfl, bg_t7 (i := 131) (by decide +kernel) rfl, liX12, bg_t7 (i := 132) (by rfl) rfl⟩, by decide +kernel⟩
theorem okX12_dye : OkV RX12 yX12_dye cX12_dye 4 (some .int) 2 := ⟨⟨bg_t7 (i := 143) (by decide +kernel) rfl, bg_t7 (i := 144) (by decide +kernel) rfl, liX12, bg_t7 (i := 145) (by rfl) rfl⟩, by decide +kernel⟩
theorem okX12_give : OkV RX12 yX12_give cX12_give 2 (some .int) 1 := ⟨⟨bg_t7 (i := 151) (by decide +kernel) rfl, bg_t7 (i := 152) (by decide +kernel) rfl, liX12, bg_t7 (i := 153) (by rfl) rfl⟩, by decide +kernel⟩
theorem okX12_passDay : OkV RX12 yX12_passDay cX12_passDay 2 none 0 := ⟨⟨bg_t7 (i := 164) (by decide +kernel) rfl, bg_s (i := 86) (by decide +kernel) rfl, liX12, bg_t7 (i := 165) (by rfl) rfl⟩, by decide +kernel⟩
theorem okX12_areDays : OkV RX12 yX12_areDays cX12_areDays 2 (some .boolean) 1 := ⟨⟨bg_t7 (i := 160) (by decide +kernel) rfl, bg_s (i := 85) (by decide +kernel) rfl, liX12, bg_t7 (i := 161) (by rfl) rfl⟩, by decide +kernel⟩
theorem okX12_days : OkV RX12 yX12_days cX12_days 3 (some .int) 1 := ⟨⟨bg_t7 (i := 155) (by decide +kernel) rfl, bg_t7 (i := 156) (by decide +kernel) rfl, liX12, bg_t7 (i := 157) (by rfl) rfl⟩, by decide +kernel⟩
theorem okX12_wakes : OkV RX12 yX12_wakes cX12_wakes 2 (some .boolean) 1 := ⟨⟨bg_t7 (i := 167) (by decide +kernel) rfl, bg_t7 (i := 168) (by decide +kernel) rfl, liX12, bg_t7 (i := 169) (by rfl) rfl⟩, by decide +kernel⟩
theorem okX12_draw : OkV RX12 yX12_draw cX12_draw 2 (some .int) 1 := ⟨⟨bg_t7 (i := 180) (by decide +kernel) rfl, bg_s (i := 88) (by decide +kernel) rfl, liX12, bg_t7 (i := 181) (by rfl) rfl⟩, by decide +kernel⟩
theorem okX12_drawDay : OkV RX12 yX12_drawDay cX12_drawDay 4 none 0 := ⟨⟨bg_t7 (i := 176) (by decide +kernel) rfl, bg_s (i := 87) (by decide +kernel) rfl, liX12, bg_t7 (i := 177) (by rfl) rfl⟩, by decide +kernel⟩
theorem okX12_years : OkV RX12 yX12_years cX12_years 5 (some .int) 2 := ⟨⟨bg_t7 (i := 171) (by decide +kernel) rfl, bg_t7 (i := 172) (by decide +kernel) rfl, liX12, bg_t7 (i := 173) (by rfl) rfl⟩, by decide +kernel⟩
theorem okX12_status : OkV RX12 yX12_status cX12_status 2 (some .int) 1 := ⟨⟨bg_t7 (i := 185) (by decide +kernel) rfl, bg_t7 (i := 186) (by decide +kernel) rfl, liX12, bg_t7 (i := 187) (by rfl) rfl⟩, by decide +kernel⟩
theorem okX12_undo : OkV RX12 yX12_undo cX12_undo 2 (some .int) 0 := ⟨⟨bg_t7 (i := 189) (by decide +kernel) rfl, bg_t7 (i := 190) (by decide +kernel) rfl, liX12, bg_t7 (i := 191) (by rfl) rfl⟩, by decide +kernel⟩
theorem okX12_log : OkV RX12 yX12_log cX12_log 3 (some .int) 2 := ⟨⟨bg_t7 (i := 193) (by decide +kernel) rfl, bg_t7 (i := 194) (by decide +kernel) rfl, liX12, bg_t7 (i := 195) (by rfl) rfl⟩, by decide +kernel⟩
theorem okX12_areTwo : OkV RX12 yX12_areTwo cX12_areTwo 3 (some .boolean) 2 := ⟨⟨bg_t7 (i := 202) (by decide +kernel) rfl, bg_s (i := 89) (by decide +kernel) rfl, liX12, bg_t7 (i := 203) (by rfl) rfl⟩, by decide +kernel⟩
theorem okX12_fits : OkV RX12 yX12_fits cX12_fits 3 (some .int) 2 := ⟨⟨bg_t7 (i := 197) (by decide +kernel) rfl, bg_t7 (i := 198) (by decide +kernel) rfl, liX12, bg_t7 (i := 199) (by rfl) rfl⟩, by decide +kernel⟩
theorem okX12_couldOf : OkV RX12 yX12_couldOf cX12_couldOf 4 (some .int) 1 := ⟨⟨bg_t7 (i := 210) (by decide +kernel) rfl, bg_s (i := 90) (by decide +kernel) rfl, liX12, bg_t7 (i := 211) (by rfl) rfl⟩, by decide +kernel⟩
theorem okX12_could : OkV RX12 yX12_could cX12_could 2 (some .int) 1 := ⟨⟨bg_t7 (i := 205) (by decide +kernel) rfl, bg_t7 (i := 206) (by decide +kernel) rfl, liX12, bg_t7 (i := 207) (by rfl) rfl⟩, by decide +kernel⟩
theorem okX12_isBetter : OkV RX12 yX12_isBetter cX12_isBetter 3 (some .boolean) 2 := ⟨⟨bg_t7 (i := 222) (by decide +kernel) rfl, bg_s (i := 92) (by decide +kernel) rfl, liX12, bg_t7 (i := 223) (by rfl) rfl⟩, by decide +kernel⟩
theorem okX12_tryKnots : OkV RX12 yX12_tryKnots cX12_tryKnots 5 none 3 := ⟨⟨bg_t7 (i := 218) (by decide +kernel) rfl, bg_s (i := 91) (by decide +kernel) rfl, liX12, bg_t7 (i := 219) (by rfl) rfl⟩, by decide +kernel⟩
theorem okX12_knots : OkV RX12 yX12_knots cX12_knots 3 (some .int) 1 := ⟨⟨bg_t7 (i := 213) (by decide +kernel) rfl, bg_t7 (i := 214) (by decide +kernel) rfl, liX12, bg_t7 (i := 215) (by rfl) rfl⟩, by decide +kernel⟩
theorem okX12_tryTales : OkV RX12 yX12_tryTales cX12_tryTales 8 none 5 := ⟨⟨bg_t7 (i := 230) (by decide +kernel) rfl, bg_s (i := 93) (by decide +kernel) rfl, liX12, bg_t7 (i := 231) (by rfl) rfl⟩, by decide +kernel⟩
theorem okX12_tale : OkV RX12 yX12_tale cX12_tale 3 (some .int) 1 := ⟨⟨bg_t7 (i := 225) (by decide +kernel) rfl, bg_t7 (i := 226) (by decide +kernel) rfl, liX12, bg_t7 (i := 227) (by rfl) rfl⟩, by decide +kernel⟩
theorem okX12_putAside : OkV RX12 yX12_putAside cX12_putAside 3 none 1 := ⟨⟨bg_t8 (i := 2) (by decide +kernel) rfl, bg_s (i := 95) (by decide +kernel) rfl, liX12, bg_t8 (i := 3) (by rfl) rfl⟩, by decide +kernel⟩
theorem okX12_takeBack : OkV RX12 yX12_takeBack cX12_takeBack 3 none 1 := ⟨⟨bg_t8 (i := 6) (by decide +kernel) rfl, bg_s (i := 96) (by decide +kernel) rfl, liX12, bg_t8 (i := 7) (by rfl) rfl⟩, by decide +kernel⟩
theorem okX12_tryPlan : OkV RX12 yX12_tryPlan cX12_tryPlan 8 none 4 := ⟨⟨bg_t7 (i := 238) (by decide +kernel) rfl, bg_s (i := 94) (by decide +kernel) rfl, liX12, bg_t7 (i := 239) (by rfl) rfl⟩, by decide +kernel⟩
theorem okX12_plan : OkV RX12 yX12_plan cX12_plan 3 (some .int) 2 := ⟨⟨bg_t7 (i := 233) (by decide +kernel) rfl, bg_t7 (i := 234) (by decide +kernel) rfl, liX12, bg_t7 (i := 235) (by rfl) rfl⟩, by decide +kernel⟩
theorem okX12_tryLay : OkV RX12 yX12_tryLay cX12_tryLay 5 none 3 := ⟨⟨bg_t8 (i := 14) (by decide +kernel) rfl, bg_s (i := 97) (by decide +kernel) rfl, liX12, bg_t8 (i := 15) (by rfl) rfl⟩, by decide +kernel⟩
theorem okX12_blankets : OkV RX12 yX12_blankets cX12_blankets 4 (some .int) 1 := ⟨⟨bg_t8 (i := 9) (by decide +kernel) rfl, bg_t8 (i := 10) (by decide +kernel) rfl, liX12, bg_t8 (i := 11) (by rfl) rfl⟩, by decide +kernel⟩
theorem okX12_seen : OkV RX12 yX12_seen cX12_seen 4 (some .int) 3 := ⟨⟨bg_t8 (i := 17) (by decide +kernel) rfl, bg_t8 (i := 18) (by decide +kernel) rfl, liX12, bg_t8 (i := 19) (by rfl) rfl⟩, by decide +kernel⟩
theorem okX12_goesTold : OkV RX12 yX12_goesTold cX12_goesTold 5 (some .boolean) 4 := ⟨⟨bg_t8 (i := 30) (by decide +kernel) rfl, bg_s (i := 99) (by decide +kernel) rfl, liX12, bg_t8 (i := 31) (by rfl) rfl⟩, by decide +kernel⟩
theorem okX12_isPly : OkV RX12 yX12_isPly cX12_isPly 5 (some .boolean) 2 := ⟨⟨bg_t8 (i := 26) (by decide +kernel) rfl, bg_s (i := 98) (by decide +kernel) rfl, liX12, bg_t8 (i := 27) (by rfl) rfl⟩, by decide +kernel⟩
theorem okX12_plies : OkV RX12 yX12_plies cX12_plies 5 (some .int) 2 := ⟨⟨bg_t8 (i := 21) (by decide +kernel) rfl, bg_t8 (i := 22) (by decide +kernel) rfl, liX12, bg_t8 (i := 23) (by rfl) rfl⟩, by decide +kernel⟩
theorem okX12_ask : OkV RX12 yX12_ask cX12_ask 7 (some .int) 1 := ⟨⟨bg_t8 (i := 33) (by decide +kernel) rfl, bg_t8 (i := 34) (by decide +kernel) rfl, liX12, bg_t8 (i := 35) (by rfl) rfl⟩, by decide +kernel⟩
theorem okX12_gameOf : OkV RX12 yX12_gameOf cX12_gameOf 9 (some .int) 4 := ⟨⟨bg_t8 (i := 44) (by decide +kernel) rfl, bg_s (i := 100) (by decide +kernel) rfl, liX12, bg_t8 (i := 45) (by rfl) rfl⟩, by decide +kernel⟩
theorem okX12_game : OkV RX12 yX12_game cX12_game 6 (some .int) 5 := ⟨⟨bg_t8 (i := 38) (by decide +kernel) rfl, bg_t8 (i := 39) (by decide +kernel) rfl, liX12, bg_t8 (i := 40) (by rfl) rfl⟩, by decide +kernel⟩
theorem okX12_isRest : OkV RX12 yX12_isRest cX12_isRest 6 (some .boolean) 4 := ⟨⟨bg_t8 (i := 52) (by decide +kernel) rfl, bg_s (i := 101) (by decide +kernel) rfl, liX12, bg_t8 (i := 53) (by rfl) rfl⟩, by decide +kernel⟩
theorem okX12_rests : OkV RX12 yX12_rests cX12_rests 6 (some .int) 3 := ⟨⟨bg_t8 (i := 47) (by decide +kernel) rfl, bg_t8 (i := 48) (by decide +kernel) rfl, liX12, bg_t8 (i := 49) (by rfl) rfl⟩, by decide +kernel⟩
theorem okX12_odds : OkV RX12 yX12_odds cX12_odds 6 (some .int) 2 := ⟨⟨bg_t8 (i := 55) (by decide +kernel) rfl, bg_t8 (i := 56) (by decide +kernel) rfl, liX12, bg_t8 (i := 57) (by rfl) rfl⟩, by decide +kernel⟩
theorem okX12_story : OkV RX12 yX12_story cX12_story 3 (some .int) 2 := ⟨⟨bg_t8 (i := 61) (by decide +kernel) rfl, bg_t8 (i := 62) (by decide +kernel) rfl, liX12, bg_t8 (i := 63) (by rfl) rfl⟩, by decide +kernel⟩
theorem okX12_bitOf : OkS yX12_bitOf cX12_bitOf 1 (some .int) 1 := ⟨⟨bg_t8 (i := 69) (by decide +kernel) rfl, liX12, bg_t8 (i := 70) (by rfl) rfl⟩, by decide +kernel⟩
theorem okX12_shares : OkV RX12 yX12_shares cX12_shares 5 (some .int) 2 := ⟨⟨bg_t8 (i := 72) (by decide +kernel) rfl, bg_t8 (i := 73) (by decide +kernel) rfl, liX12, bg_t8 (i := 74) (by rfl) rfl⟩, by decide +kernel⟩
theorem okX12_valueOf : OkV RX12 yX12_valueOf cX12_valueOf 3 (some .int) 2 := ⟨⟨bg_t8 (i := 105) (by decide +kernel) rfl, bg_s (i := 109) (by decide +kernel) rfl, liX12, bg_t8 (i := 106) (by rfl) rfl⟩, by decide +kernel⟩
theorem okX12_topBy : OkV RX12 yX12_topBy cX12_topBy 4 (some .int) 1 := ⟨⟨bg_t8 (i := 101) (by decide +kernel) rfl, bg_s (i := 108) (by decide +kernel) rfl, liX12, bg_t8 (i := 102) (by rfl) rfl⟩, by decide +kernel⟩
theorem okX12_looseOnes : OkV RX12 yX12_looseOnes cX12_looseOnes 3 (some .int) 0 := ⟨⟨bg_t8 (i := 81) (by decide +kernel) rfl, bg_s (i := 103) (by decide +kernel) rfl, liX12, bg_t8 (i := 82) (by rfl) rfl⟩, by decide +kernel⟩
theorem okX12_rack : OkV RX12 yX12_rack cX12_rack 6 (some .int) 0 := ⟨⟨bg_t8 (i := 85) (by decide +kernel) rfl, bg_s (i := 104) (by decide +kernel) rfl, liX12, bg_t8 (i := 86) (by rfl) rfl⟩, by decide +kernel⟩
theorem okX12_isTale : OkV RX12 yX12_isTale cX12_isTale 2 (some .boolean) 1 := ⟨⟨bg_t8 (i := 93) (by decide +kernel) rfl, bg_s (i := 106) (by decide +kernel) rfl, liX12, bg_t8 (i := 94) (by rfl) rfl⟩, by decide +kernel⟩
theorem okX12_tales : OkV RX12 yX12_tales cX12_tales 3 (some .int) 0 := ⟨⟨bg_t8 (i := 89) (by decide +kernel) rfl, bg_s (i := 105) (by decide +kernel) rfl, liX12, bg_t8 (i := 90) (by rfl) rfl⟩, by decide +kernel⟩
theorem okX12_worthOfAll : OkV RX12 yX12_worthOfAll cX12_worthOfAll 3 (some .int) 0 := ⟨⟨bg_t8 (i := 97) (by decide +kernel) rfl, bg_s (i := 107) (by decide +kernel) rfl, liX12, bg_t8 (i := 98) (by rfl) rfl⟩, by decide +kernel⟩
theorem okX12_most : OkV RX12 yX12_most cX12_most 2 (some .int) 1 := ⟨⟨bg_t8 (i := 76) (by decide +kernel) rfl, bg_t8 (i := 77) (by decide +kernel) rfl, liX12, bg_t8 (i := 78) (by rfl) rfl⟩, by decide +kernel⟩
theorem okX12_image : OkV RX12 yX12_image cX12_image 2 (some .int) 0 := ⟨⟨bg_t8 (i := 108) (by decide +kernel) rfl, bg_t8 (i := 109) (by decide +kernel) rfl, liX12, bg_t8 (i := 110) (by rfl) rfl⟩, by decide +kernel⟩
theorem okX12_back : OkV RX12 yX12_back cX12_back 2 (some .int) 0 := ⟨⟨bg_t8 (i := 112) (by decide +kernel) rfl, bg_t8 (i := 113) (by decide +kernel) rfl, liX12, bg_t8 (i := 114) (by rfl) rfl⟩, by decide +kernel⟩
theorem okX12_count : OkV RX12 yX12_count cX12_count 2 (some .int) 1 := ⟨⟨bg_t8 (i := 116) (by decide +kernel) rfl, bg_t8 (i := 117) (by decide +kernel) rfl, liX12, bg_t8 (i := 118) (by rfl) rfl⟩, by decide +kernel⟩
theorem okX0_partnersOf : OkV RX0 yX0_partnersOf cX0_partnersOf 5 (some .int) 1 := ⟨⟨bg_t4 (i := 127) (by decide +kernel) rfl, bg_t4 (i := 128) (by decide +kernel) rfl, liX0, bg_t4 (i := 129) (by rfl) rfl⟩, by decide +kernel⟩
theorem okX0_findKnots : OkV RX0 yX0_findKnots cX0_findKnots 2 none 0 := ⟨⟨bg_t4 (i := 138) (by decide +kernel) rfl, bg_t4 (i := 139) (by decide +kernel) rfl, liX0, bg_t4 (i := 140) (by rfl) rfl⟩, by decide +kernel⟩
theorem okX0_countBundles : OkV RX0 yX0_countBundles cX0_countBundles 3 (some .int) 0 := ⟨⟨bg_t4 (i := 148) (by decide +kernel) rfl, bg_s (i := 24) (by decide +kernel) rfl, liX0, bg_t4 (i := 149) (by rfl) rfl⟩, by decide +kernel⟩
theorem okX0_chooseKnot : OkV RX0 yX0_chooseKnot cX0_chooseKnot 5 none 3 := ⟨⟨bg_t4 (i := 153) (by decide +kernel) rfl, bg_s (i := 25) (by decide +kernel) rfl, liX0, bg_t4 (i := 154) (by rfl) rfl⟩, by decide +kernel⟩
theorem okX0_findTale : OkV RX0 yX0_findTale cX0_findTale 5 none 0 := ⟨⟨bg_t4 (i := 162) (by decide +kernel) rfl, bg_t4 (i := 163) (by decide +kernel) rfl, liX0, bg_t4 (i := 164) (by rfl) rfl⟩, by decide +kernel⟩
theorem okX0_findFollowers : OkV RX0 yX0_findFollowers cX0_findFollowers 6 none 2 := ⟨⟨bg_t4 (i := 173) (by decide +kernel) rfl, bg_s (i := 26) (by decide +kernel) rfl, liX0, bg_t4 (i := 174) (by rfl) rfl⟩, by decide +kernel⟩
theorem okX0_lengthenRows : OkV RX0 yX0_lengthenRows cX0_lengthenRows 4 none 1 := ⟨⟨bg_t4 (i := 177) (by decide +kernel) rfl, bg_s (i := 27) (by decide +kernel) rfl, liX0, bg_t4 (i := 178) (by rfl) rfl⟩, by decide +kernel⟩
theorem okX0_lengthenRow : OkV RX0 yX0_lengthenRow cX0_lengthenRow 8 none 2 := ⟨⟨bg_t4 (i := 182) (by decide +kernel) rfl, bg_s (i := 28) (by decide +kernel) rfl, liX0, bg_t4 (i := 183) (by rfl) rfl⟩, by decide +kernel⟩
theorem okX0_leastRowOf : OkV RX0 yX0_leastRowOf cX0_leastRowOf 5 (some .int) 1 := ⟨⟨bg_t4 (i := 186) (by decide +kernel) rfl, bg_s (i := 29) (by decide +kernel) rfl, liX0, bg_t4 (i := 187) (by rfl) rfl⟩, by decide +kernel⟩
theorem okX0_isBetter : OkV RX0 yX0_isBetter cX0_isBetter 6 (some .boolean) 3 := ⟨⟨bg_t4 (i := 190) (by decide +kernel) rfl, bg_s (i := 30) (by decide +kernel) rfl, liX0, bg_t4 (i := 191) (by rfl) rfl⟩, by decide +kernel⟩
theorem okX0_findTry : OkV RX0 yX0_findTry cX0_findTry 4 none 1 := ⟨⟨bg_t4 (i := 198) (by decide +kernel) rfl, bg_t4 (i := 199) (by decide +kernel) rfl, liX0, bg_t4 (i := 200) (by rfl) rfl⟩, by decide +kernel⟩
theorem okX0_findTwoTries : OkV RX0 yX0_findTwoTries cX0_findTwoTries 5 none 0 := ⟨⟨bg_t4 (i := 202) (by decide +kernel) rfl, bg_t4 (i := 203) (by decide +kernel) rfl, liX0, bg_t4 (i := 204) (by rfl) rfl⟩, by decide +kernel⟩
theorem okX0_tryAndFindNext : OkV RX0 yX0_tryAndFindNext cX0_tryAndFindNext 5 none 2 := ⟨⟨bg_t4 (i := 207) (by decide +kernel) rfl, bg_s (i := 31) (by decide +kernel) rfl, liX0, bg_t4 (i := 208) (by rfl) rfl⟩, by decide +kernel⟩
theorem okX0_fewestBlankets : OkV RX0 yX0_fewestBlankets cX0_fewestBlankets 4 (some .int) 1 := ⟨⟨bg_t4 (i := 216) (by decide +kernel) rfl, bg_t4 (i := 217) (by decide +kernel) rfl, liX0, bg_t4 (i := 218) (by rfl) rfl⟩, by decide +kernel⟩
theorem okX0_fewestFor : OkV RX0 yX0_fewestFor cX0_fewestFor 6 (some .int) 2 := ⟨⟨bg_t4 (i := 222) (by decide +kernel) rfl, bg_s (i := 32) (by decide +kernel) rfl, liX0, bg_t4 (i := 223) (by rfl) rfl⟩, by decide +kernel⟩
theorem okX0_layIn : OkS yX0_layIn cX0_layIn 3 (some .int) 3 := ⟨⟨bg_t4 (i := 225) (by decide +kernel) rfl, liX0, bg_t4 (i := 226) (by rfl) rfl⟩, by decide +kernel⟩
theorem okX0_knottedParts : OkV RX0 yX0_knottedParts cX0_knottedParts 7 (some .int) 2 := ⟨⟨bg_t5 (i := 75) (by decide +kernel) rfl, bg_t5 (i := 76) (by decide +kernel) rfl, liX0, bg_t5 (i := 77) (by rfl) rfl⟩, by decide +kernel⟩
theorem okX0_rackBits : OkV RX0 yX0_rackBits cX0_rackBits 4 (some .int) 0 := ⟨⟨bg_t5 (i := 109) (by decide +kernel) rfl, bg_t5 (i := 110) (by decide +kernel) rfl, liX0, bg_t5 (i := 111) (by rfl) rfl⟩, by decide +kernel⟩
theorem okX0_isFirstOfTale : OkV RX0 yX0_isFirstOfTale cX0_isFirstOfTale 2 (some .boolean) 1 := ⟨⟨bg_t5 (i := 118) (by decide +kernel) rfl, bg_s (i := 39) (by decide +kernel) rfl, liX0, bg_t5 (i := 119) (by rfl) rfl⟩, by decide +kernel⟩
theorem okX0_countTales : OkV RX0 yX0_countTales cX0_countTales 3 (some .int) 0 := ⟨⟨bg_t5 (i := 113) (by decide +kernel) rfl, bg_t5 (i := 114) (by decide +kernel) rfl, liX0, bg_t5 (i := 115) (by rfl) rfl⟩, by decide +kernel⟩
theorem okX0_priceOfTales : OkV RX0 yX0_priceOfTales cX0_priceOfTales 3 (some .int) 0 := ⟨⟨bg_t5 (i := 121) (by decide +kernel) rfl, bg_t5 (i := 122) (by decide +kernel) rfl, liX0, bg_t5 (i := 123) (by rfl) rfl⟩, by decide +kernel⟩
theorem okX1_isMove : OkS yX1_isMove cX1_isMove 1 (some .boolean) 1 := ⟨⟨bg_t5 (i := 36) (by decide +kernel) rfl, liX1, bg_t5 (i := 37) (by rfl) rfl⟩, by decide +kernel⟩
theorem okX1_dyedOn : OkV RX1 yX1_dyedOn cX1_dyedOn 3 (some .int) 2 := ⟨⟨bg_t5 (i := 44) (by decide +kernel) rfl, bg_s (i := 36) (by decide +kernel) rfl, liX1, bg_t5 (i := 45) (by rfl) rfl⟩, by decide +kernel⟩
theorem okX1_has : OkV RX1 yX1_has cX1_has 10 (some .int) 4 := ⟨⟨bg_t5 (i := 39) (by decide +kernel) rfl, bg_t5 (i := 40) (by decide +kernel) rfl, liX1, bg_t5 (i := 41) (by rfl) rfl⟩, by decide +kernel⟩
theorem okX1_play : OkV RX1 yX1_play cX1_play 5 none 2 := ⟨⟨bg_t5 (i := 54) (by decide +kernel) rfl, bg_t5 (i := 55) (by decide +kernel) rfl, liX1, bg_t5 (i := 56) (by rfl) rfl⟩, by decide +kernel⟩
theorem okX1_isRest : OkV RX1 yX1_isRest cX1_isRest 5 (some .boolean) 2 := ⟨⟨bg_t5 (i := 64) (by decide +kernel) rfl, bg_s (i := 37) (by decide +kernel) rfl, liX1, bg_t5 (i := 65) (by rfl) rfl⟩, by decide +kernel⟩
theorem okX1_countRests : OkV RX1 yX1_countRests cX1_countRests 4 (some .int) 0 := ⟨⟨bg_t5 (i := 59) (by decide +kernel) rfl, bg_t5 (i := 60) (by decide +kernel) rfl, liX1, bg_t5 (i := 61) (by rfl) rfl⟩, by decide +kernel⟩
theorem okX1_restAt : OkV RX1 yX1_restAt cX1_restAt 5 (some .int) 1 := ⟨⟨bg_t5 (i := 67) (by decide +kernel) rfl, bg_t5 (i := 68) (by decide +kernel) rfl, liX1, bg_t5 (i := 69) (by rfl) rfl⟩, by decide +kernel⟩
theorem okX2_add : OkV RX2 yX2_add cX2_add 3 (some .int) 2 := ⟨⟨bg_t3 (i := 99) (by decide +kernel) rfl, bg_t3 (i := 100) (by decide +kernel) rfl, liX2, bg_t3 (i := 101) (by rfl) rfl⟩, by decide +kernel⟩
theorem okX2_allows : OkV RX2 yX2_allows cX2_allows 6 (some .boolean) 5 := ⟨⟨bg_t3 (i := 191) (by decide +kernel) rfl, bg_t3 (i := 192) (by decide +kernel) rfl, liX2, bg_t3 (i := 193) (by rfl) rfl⟩, by decide +kernel⟩
theorem okX2_worth : OkV RX2 yX2_worth cX2_worth 7 (some .int) 1 := ⟨⟨bg_t3 (i := 196) (by decide +kernel) rfl, bg_s (i := 18) (by decide +kernel) rfl, liX2, bg_t3 (i := 197) (by rfl) rfl⟩, by decide +kernel⟩
theorem okX2_valueOf : OkV RX2 yX2_valueOf cX2_valueOf 3 (some .int) 1 := ⟨⟨bg_t3 (i := 200) (by decide +kernel) rfl, bg_s (i := 19) (by decide +kernel) rfl, liX2, bg_t3 (i := 201) (by rfl) rfl⟩, by decide +kernel⟩
theorem okX2_reckon : OkS yX2_reckon cX2_reckon 5 (some .long) 3 := ⟨⟨bg_t3 (i := 203) (by decide +kernel) rfl, liX2, bg_t3 (i := 204) (by rfl) rfl⟩, by decide +kernel⟩
theorem okX3_read : OkV RX3 yX3_read cX3_read 2 (some .int) 0 := ⟨⟨bg_t3 (i := 10) (by decide +kernel) rfl, bg_t3 (i := 11) (by decide +kernel) rfl, liX3, bg_t3 (i := 12) (by rfl) rfl⟩, by decide +kernel⟩
theorem okX3_write : OkV RX3 yX3_write cX3_write 2 none 1 := ⟨⟨bg_t3 (i := 39) (by decide +kernel) rfl, bg_s (i := 9) (by decide +kernel) rfl, liX3, bg_t3 (i := 40) (by rfl) rfl⟩, by decide +kernel⟩
theorem okX3_readClause : OkV RX3 yX3_readClause cX3_readClause 3 (some .boolean) 0 := ⟨⟨bg_t3 (i := 15) (by decide +kernel) rfl, bg_s (i := 4) (by decide +kernel) rfl, liX3, bg_t3 (i := 16) (by rfl) rfl⟩, by decide +kernel⟩
theorem okX3_readConditioned : OkV RX3 yX3_readConditioned cX3_readConditioned 3 (some .boolean) 1 := ⟨⟨bg_t3 (i := 49) (by decide +kernel) rfl, bg_s (i := 10) (by decide +kernel) rfl, liX3, bg_t3 (i := 50) (by rfl) rfl⟩, by decide +kernel⟩
theorem okX3_readCondition : OkV RX3 yX3_readCondition cX3_readCondition 4 (some .boolean) 2 := ⟨⟨bg_t3 (i := 53) (by decide +kernel) rfl, bg_s (i := 11) (by decide +kernel) rfl, liX3, bg_t3 (i := 54) (by rfl) rfl⟩, by decide +kernel⟩
theorem okX3_readTruth : OkV RX3 yX3_readTruth cX3_readTruth 4 (some .boolean) 2 := ⟨⟨bg_t3 (i := 57) (by decide +kernel) rfl, bg_s (i := 12) (by decide +kernel) rfl, liX3, bg_t3 (i := 58) (by rfl) rfl⟩, by decide +kernel⟩
theorem okX3_readUnit : OkV RX3 yX3_readUnit cX3_readUnit 3 (some .boolean) 1 := ⟨⟨bg_t3 (i := 65) (by decide +kernel) rfl, bg_s (i := 14) (by decide +kernel) rfl, liX3, bg_t3 (i := 66) (by rfl) rfl⟩, by decide +kernel⟩
theorem okX3_isComparison : OkS yX3_isComparison cX3_isComparison 1 (some .boolean) 1 := ⟨⟨bg_t3 (i := 45) (by decide +kernel) rfl, liX3, bg_t3 (i := 46) (by rfl) rfl⟩, by decide +kernel⟩
theorem okX3_readComparison : OkV RX3 yX3_readComparison cX3_readComparison 3 (some .boolean) 1 := ⟨⟨bg_t3 (i := 61) (by decide +kernel) rfl, bg_s (i := 13) (by decide +kernel) rfl, liX3, bg_t3 (i := 62) (by rfl) rfl⟩, by decide +kernel⟩
theorem okX3_readSum : OkV RX3 yX3_readSum cX3_readSum 4 (some .boolean) 1 := ⟨⟨bg_t3 (i := 21) (by decide +kernel) rfl, bg_s (i := 5) (by decide +kernel) rfl, liX3, bg_t3 (i := 22) (by rfl) rfl⟩, by decide +kernel⟩
theorem okX3_readTerm : OkV RX3 yX3_readTerm cX3_readTerm 4 (some .boolean) 1 := ⟨⟨bg_t3 (i := 25) (by decide +kernel) rfl, bg_s (i := 6) (by decide +kernel) rfl, liX3, bg_t3 (i := 26) (by rfl) rfl⟩, by decide +kernel⟩
theorem okX3_readAtom : OkV RX3 yX3_readAtom cX3_readAtom 4 (some .boolean) 1 := ⟨⟨bg_t3 (i := 29) (by decide +kernel) rfl, bg_s (i := 7) (by decide +kernel) rfl, liX3, bg_t3 (i := 30) (by rfl) rfl⟩, by decide +kernel⟩
theorem okX3_readNumber : OkV RX3 yX3_readNumber cX3_readNumber 2 (some .boolean) 0 := ⟨⟨bg_t3 (i := 34) (by decide +kernel) rfl, bg_s (i := 8) (by decide +kernel) rfl, liX3, bg_t3 (i := 35) (by rfl) rfl⟩, by decide +kernel⟩
theorem okX3_letterOf : OkS yX3_letterOf cX3_letterOf 1 (some .int) 1 := ⟨⟨bg_t3 (i := 42) (by decide +kernel) rfl, liX3, bg_t3 (i := 43) (by rfl) rfl⟩, by decide +kernel⟩
theorem okX4_forget : OkV RX4 yX4_forget cX4_forget 1 none 0 := ⟨⟨bg_t3 (i := 91) (by decide +kernel) rfl, bg_t3 (i := 92) (by decide +kernel) rfl, liX4, bg_t3 (i := 93) (by rfl) rfl⟩, by decide +kernel⟩
theorem okX4_keep : OkV RX4 yX4_keep cX4_keep 2 none 1 := ⟨⟨bg_t3 (i := 157) (by decide +kernel) rfl, bg_t3 (i := 158) (by decide +kernel) rfl, liX4, bg_t3 (i := 159) (by rfl) rfl⟩, by decide +kernel⟩
theorem okX4_bringBackLatest : OkV RX4 yX4_bringBackLatest cX4_bringBackLatest 2 (some .boolean) 1 := ⟨⟨bg_t4 (i := 98) (by decide +kernel) rfl, bg_t4 (i := 99) (by decide +kernel) rfl, liX4, bg_t4 (i := 100) (by rfl) rfl⟩, by decide +kernel⟩
theorem okX4_loggedBy : OkS yX4_loggedBy cX4_loggedBy 1 (some .int) 1 := ⟨⟨bg_t4 (i := 114) (by decide +kernel) rfl, liX4, bg_t4 (i := 115) (by rfl) rfl⟩, by decide +kernel⟩
theorem okX4_placeOf : OkS yX4_placeOf cX4_placeOf 1 (some .int) 1 := ⟨⟨bg_t4 (i := 60) (by decide +kernel) rfl, liX4, bg_t4 (i := 61) (by rfl) rfl⟩, by decide +kernel⟩
theorem okX4_writeDay : OkV RX4 yX4_writeDay cX4_writeDay 3 none 1 := ⟨⟨bg_t4 (i := 56) (by decide +kernel) rfl, bg_t4 (i := 57) (by decide +kernel) rfl, liX4, bg_t4 (i := 58) (by rfl) rfl⟩, by decide +kernel⟩
theorem okX4_readDay : OkV RX4 yX4_readDay cX4_readDay 4 (some .int) 3 := ⟨⟨bg_t4 (i := 110) (by decide +kernel) rfl, bg_t4 (i := 111) (by decide +kernel) rfl, liX4, bg_t4 (i := 112) (by rfl) rfl⟩, by decide +kernel⟩
theorem okX4_keepImage : OkV RX4 yX4_keepImage cX4_keepImage 2 none 1 := ⟨⟨bg_t5 (i := 130) (by decide +kernel) rfl, bg_t5 (i := 131) (by decide +kernel) rfl, liX4, bg_t5 (i := 132) (by rfl) rfl⟩, by decide +kernel⟩
theorem okX4_bringBackImage : OkV RX4 yX4_bringBackImage cX4_bringBackImage 2 (some .boolean) 1 := ⟨⟨bg_t5 (i := 139) (by decide +kernel) rfl, bg_t5 (i := 140) (by decide +kernel) rfl, liX4, bg_t5 (i := 141) (by rfl) rfl⟩, by decide +kernel⟩
theorem okX5_isThere : OkV RX5 yX5_isThere cX5_isThere 1 (some .boolean) 0 := ⟨⟨bg_t3 (i := 121) (by decide +kernel) rfl, bg_t3 (i := 122) (by decide +kernel) rfl, liX5, bg_t3 (i := 123) (by rfl) rfl⟩, by decide +kernel⟩
theorem okX5_has : OkV RX5 yX5_has cX5_has 2 (some .boolean) 1 := ⟨⟨bg_t3 (i := 137) (by decide +kernel) rfl, bg_t3 (i := 138) (by decide +kernel) rfl, liX5, bg_t3 (i := 139) (by rfl) rfl⟩, by decide +kernel⟩
theorem okX5_clear : OkV RX5 yX5_clear cX5_clear 1 none 0 := ⟨⟨bg_t2 (i := 203) (by decide +kernel) rfl, bg_t2 (i := 204) (by decide +kernel) rfl, liX5, bg_t2 (i := 205) (by rfl) rfl⟩, by decide +kernel⟩
theorem okX5_addEnd : OkV RX5 yX5_addEnd cX5_addEnd 1 none 0 := ⟨⟨bg_t2 (i := 211) (by decide +kernel) rfl, bg_t2 (i := 212) (by decide +kernel) rfl, liX5, bg_t2 (i := 213) (by rfl) rfl⟩, by decide +kernel⟩
theorem okX5_copyFrom : OkV RX5 yX5_copyFrom cX5_copyFrom 2 none 1 := ⟨⟨bg_t3 (i := 76) (by decide +kernel) rfl, bg_t3 (i := 77) (by decide +kernel) rfl, liX5, bg_t3 (i := 78) (by rfl) rfl⟩, by decide +kernel⟩
theorem okX6_read : OkV RX6 yX6_read cX6_read 4 (some .int) 0 := ⟨⟨bg_t2 (i := 199) (by decide +kernel) rfl, bg_t2 (i := 200) (by decide +kernel) rfl, liX6, bg_t2 (i := 201) (by rfl) rfl⟩, by decide +kernel⟩
theorem okX6_readItems : OkV RX6 yX6_readItems cX6_readItems 5 (some .boolean) 1 := ⟨⟨bg_t2 (i := 216) (by decide +kernel) rfl, bg_s (i := 0) (by decide +kernel) rfl, liX6, bg_t2 (i := 217) (by rfl) rfl⟩, by decide +kernel⟩
theorem okX6_itemOf : OkS yX6_itemOf cX6_itemOf 2 (some .int) 2 := ⟨⟨bg_t2 (i := 221) (by decide +kernel) rfl, liX6, bg_t2 (i := 222) (by rfl) rfl⟩, by decide +kernel⟩
theorem okX6_readNumber : OkV RX6 yX6_readNumber cX6_readNumber 3 (some .boolean) 1 := ⟨⟨bg_t2 (i := 225) (by decide +kernel) rfl, bg_s (i := 1) (by decide +kernel) rfl, liX6, bg_t2 (i := 226) (by rfl) rfl⟩, by decide +kernel⟩
theorem okX6_write : OkV RX6 yX6_write cX6_write 4 none 2 := ⟨⟨bg_t2 (i := 239) (by decide +kernel) rfl, bg_s (i := 2) (by decide +kernel) rfl, liX6, bg_t3 (i := 0) (by rfl) rfl⟩, by decide +kernel⟩
theorem okX6_writeOfEnd : OkV RX6 yX6_writeOfEnd cX6_writeOfEnd 4 none 3 := ⟨⟨bg_t3 (i := 3) (by decide +kernel) rfl, bg_s (i := 3) (by decide +kernel) rfl, liX6, bg_t3 (i := 4) (by rfl) rfl⟩, by decide +kernel⟩
theorem okX7_add : OkV RX7 yX7_add cX7_add 4 (some .int) 3 := ⟨⟨bg_t4 (i := 233) (by decide +kernel) rfl, bg_t4 (i := 234) (by decide +kernel) rfl, liX7, bg_t4 (i := 235) (by rfl) rfl⟩, by decide +kernel⟩
theorem okX7_goesAs : OkV RX7 yX7_goesAs cX7_goesAs 6 (some .boolean) 3 := ⟨⟨bg_t5 (i := 10) (by decide +kernel) rfl, bg_s (i := 34) (by decide +kernel) rfl, liX7, bg_t5 (i := 11) (by rfl) rfl⟩, by decide +kernel⟩
theorem okX7_fittingPlies : OkV RX7 yX7_fittingPlies cX7_fittingPlies 4 (some .int) 1 := ⟨⟨bg_t5 (i := 1) (by decide +kernel) rfl, bg_t5 (i := 2) (by decide +kernel) rfl, liX7, bg_t5 (i := 3) (by rfl) rfl⟩, by decide +kernel⟩
theorem okX7_isAllSo : OkV RX7 yX7_isAllSo cX7_isAllSo 5 (some .boolean) 2 := ⟨⟨bg_t5 (i := 6) (by decide +kernel) rfl, bg_s (i := 33) (by decide +kernel) rfl, liX7, bg_t5 (i := 7) (by rfl) rfl⟩, by decide +kernel⟩
theorem okX7_bestToTry : OkV RX7 yX7_bestToTry cX7_bestToTry 7 (some .int) 2 := ⟨⟨bg_t5 (i := 23) (by decide +kernel) rfl, bg_t5 (i := 24) (by decide +kernel) rfl, liX7, bg_t5 (i := 25) (by rfl) rfl⟩, by decide +kernel⟩
theorem okX7_apartBy : OkV RX7 yX7_apartBy cX7_apartBy 6 (some .int) 3 := ⟨⟨bg_t5 (i := 28) (by decide +kernel) rfl, bg_s (i := 35) (by decide +kernel) rfl, liX7, bg_t5 (i := 29) (by rfl) rfl⟩, by decide +kernel⟩
theorem okX8_writeTo : OkV RX8 yX8_writeTo cX8_writeTo 4 none 2 := ⟨⟨bg_t3 (i := 161) (by decide +kernel) rfl, bg_t3 (i := 162) (by decide +kernel) rfl, liX8, bg_t3 (i := 163) (by rfl) rfl⟩, by decide +kernel⟩
theorem okX8_readFrom : OkV RX8 yX8_readFrom cX8_readFrom 4 none 2 := ⟨⟨bg_t4 (i := 102) (by decide +kernel) rfl, bg_t4 (i := 103) (by decide +kernel) rfl, liX8, bg_t4 (i := 104) (by rfl) rfl⟩, by decide +kernel⟩
theorem okX8_begin : OkV RX8 yX8_begin cX8_begin 2 none 1 := ⟨⟨bg_t3 (i := 83) (by decide +kernel) rfl, bg_t3 (i := 84) (by decide +kernel) rfl, liX8, bg_t3 (i := 85) (by rfl) rfl⟩, by decide +kernel⟩
theorem okX8_copyFrom : OkV RX8 yX8_copyFrom cX8_copyFrom 2 none 1 := ⟨⟨bg_t4 (i := 142) (by decide +kernel) rfl, bg_t4 (i := 143) (by decide +kernel) rfl, liX8, bg_t4 (i := 144) (by rfl) rfl⟩, by decide +kernel⟩
theorem okX8_isSold : OkV RX8 yX8_isSold cX8_isSold 2 (some .boolean) 1 := ⟨⟨bg_t3 (i := 145) (by decide +kernel) rfl, bg_t3 (i := 146) (by decide +kernel) rfl, liX8, bg_t3 (i := 147) (by rfl) rfl⟩, by decide +kernel⟩
theorem okX8_isKnotted : OkV RX8 yX8_isKnotted cX8_isKnotted 2 (some .boolean) 1 := ⟨⟨bg_t3 (i := 235) (by decide +kernel) rfl, bg_t3 (i := 236) (by decide +kernel) rfl, liX8, bg_t3 (i := 237) (by rfl) rfl⟩, by decide +kernel⟩
theorem okX8_isLoose : OkV RX8 yX8_isLoose cX8_isLoose 2 (some .boolean) 1 := ⟨⟨bg_t4 (i := 39) (by decide +kernel) rfl, bg_t4 (i := 40) (by decide +kernel) rfl, liX8, bg_t4 (i := 41) (by rfl) rfl⟩, by decide +kernel⟩
theorem okX8_looseBits : OkV RX8 yX8_looseBits cX8_looseBits 3 (some .int) 0 := ⟨⟨bg_t4 (i := 166) (by decide +kernel) rfl, bg_t4 (i := 167) (by decide +kernel) rfl, liX8, bg_t4 (i := 168) (by rfl) rfl⟩, by decide +kernel⟩
theorem okX8_firstOf : OkV RX8 yX8_firstOf cX8_firstOf 4 (some .int) 1 := ⟨⟨bg_t3 (i := 149) (by decide +kernel) rfl, bg_t3 (i := 150) (by decide +kernel) rfl, liX8, bg_t3 (i := 151) (by rfl) rfl⟩, by decide +kernel⟩
theorem okX8_lastOf : OkV RX8 yX8_lastOf cX8_lastOf 4 (some .int) 1 := ⟨⟨bg_t5 (i := 87) (by decide +kernel) rfl, bg_t5 (i := 88) (by decide +kernel) rfl, liX8, bg_t5 (i := 89) (by rfl) rfl⟩, by decide +kernel⟩
theorem okX8_taleOf : OkV RX8 yX8_taleOf cX8_taleOf 5 (some .int) 1 := ⟨⟨bg_t3 (i := 174) (by decide +kernel) rfl, bg_t3 (i := 175) (by decide +kernel) rfl, liX8, bg_t3 (i := 176) (by rfl) rfl⟩, by decide +kernel⟩
theorem okX8_sizeOf : OkV RX8 yX8_sizeOf cX8_sizeOf 2 (some .int) 1 := ⟨⟨bg_t3 (i := 170) (by decide +kernel) rfl, bg_t3 (i := 171) (by decide +kernel) rfl, liX8, bg_t3 (i := 172) (by rfl) rfl⟩, by decide +kernel⟩
theorem okX8_lengthOf : OkV RX8 yX8_lengthOf cX8_lengthOf 4 (some .int) 1 := ⟨⟨bg_t4 (i := 26) (by decide +kernel) rfl, bg_t4 (i := 27) (by decide +kernel) rfl, liX8, bg_t4 (i := 28) (by rfl) rfl⟩, by decide +kernel⟩
theorem okX8_priceOf : OkV RX8 yX8_priceOf cX8_priceOf 2 (some .int) 1 := ⟨⟨bg_t4 (i := 22) (by decide +kernel) rfl, bg_t4 (i := 23) (by decide +kernel) rfl, liX8, bg_t4 (i := 24) (by rfl) rfl⟩, by decide +kernel⟩
theorem okX8_neighboursOf : OkV RX8 yX8_neighboursOf cX8_neighboursOf 3 (some .int) 1 := ⟨⟨bg_t5 (i := 92) (by decide +kernel) rfl, bg_t5 (i := 93) (by decide +kernel) rfl, liX8, bg_t5 (i := 94) (by rfl) rfl⟩, by decide +kernel⟩
theorem okX8_isOpen : OkV RX8 yX8_isOpen cX8_isOpen 3 (some .boolean) 2 := ⟨⟨bg_t3 (i := 141) (by decide +kernel) rfl, bg_t3 (i := 142) (by decide +kernel) rfl, liX8, bg_t3 (i := 143) (by rfl) rfl⟩, by decide +kernel⟩
theorem okX8_join : OkV RX8 yX8_join cX8_join 3 none 2 := ⟨⟨bg_t3 (i := 217) (by decide +kernel) rfl, bg_t3 (i := 218) (by decide +kernel) rfl, liX8, bg_t3 (i := 219) (by rfl) rfl⟩, by decide +kernel⟩
theorem okX8_part : OkV RX8 yX8_part cX8_part 3 none 2 := ⟨⟨bg_t4 (i := 7) (by decide +kernel) rfl, bg_t4 (i := 8) (by decide +kernel) rfl, liX8, bg_t4 (i := 9) (by rfl) rfl⟩, by decide +kernel⟩
theorem okX8_fadeBy : OkV RX8 yX8_fadeBy cX8_fadeBy 3 none 2 := ⟨⟨bg_t3 (i := 221) (by decide +kernel) rfl, bg_t3 (i := 222) (by decide +kernel) rfl, liX8, bg_t3 (i := 223) (by rfl) rfl⟩, by decide +kernel⟩
theorem okX8_takeOff : OkV RX8 yX8_takeOff cX8_takeOff 3 (some .int) 1 := ⟨⟨bg_t3 (i := 239) (by decide +kernel) rfl, bg_t4 (i := 0) (by decide +kernel) rfl, liX8, bg_t4 (i := 1) (by rfl) rfl⟩, by decide +kernel⟩
theorem okX8_shorten : OkV RX8 yX8_shorten cX8_shorten 2 none 1 := ⟨⟨bg_t4 (i := 4) (by decide +kernel) rfl, bg_s (i := 20) (by decide +kernel) rfl, liX8, bg_t4 (i := 5) (by rfl) rfl⟩, by decide +kernel⟩
theorem okX9_bytesIn : OkS yX9_bytesIn cX9_bytesIn 3 (some .int) 1 := ⟨⟨bg_t2 (i := 184) (by decide +kernel) rfl, liX9, bg_t2 (i := 185) (by rfl) rfl⟩, by decide +kernel⟩
theorem okX9_put : OkV RX9 yX9_put cX9_put 4 none 1 := ⟨⟨bg_t2 (i := 187) (by decide +kernel) rfl, bg_t2 (i := 188) (by decide +kernel) rfl, liX9, bg_t2 (i := 189) (by rfl) rfl⟩, by decide +kernel⟩
theorem okX9_sign : OkV RX9 yX9_sign cX9_sign 1 (some .int) 0 := ⟨⟨bg_t2 (i := 207) (by decide +kernel) rfl, bg_t2 (i := 208) (by decide +kernel) rfl, liX9, bg_t2 (i := 209) (by rfl) rfl⟩, by decide +kernel⟩
theorem okX9_take : OkV RX9 yX9_take cX9_take 2 (some .boolean) 1 := ⟨⟨bg_t3 (i := 6) (by decide +kernel) rfl, bg_t3 (i := 7) (by decide +kernel) rfl, liX9, bg_t3 (i := 8) (by rfl) rfl⟩, by decide +kernel⟩
theorem okX9_number : OkV RX9 yX9_number cX9_number 4 (some .int) 1 := ⟨⟨bg_t2 (i := 228) (by decide +kernel) rfl, bg_t2 (i := 229) (by decide +kernel) rfl, liX9, bg_t2 (i := 230) (by rfl) rfl⟩, by decide +kernel⟩
theorem okX9_isDigit : OkS yX9_isDigit cX9_isDigit 1 (some .boolean) 1 := ⟨⟨bg_t2 (i := 233) (by decide +kernel) rfl, liX9, bg_t2 (i := 234) (by rfl) rfl⟩, by decide +kernel⟩
theorem okX10_goesWith : OkV RX10 yX10_goesWith cX10_goesWith 7 (some .boolean) 4 := ⟨⟨bg_t3 (i := 184) (by decide +kernel) rfl, bg_t3 (i := 185) (by decide +kernel) rfl, liX10, bg_t3 (i := 186) (by rfl) rfl⟩, by decide +kernel⟩
theorem okX10_tryRefusal : OkV RX10 yX10_tryRefusal cX10_tryRefusal 4 (some .int) 3 := ⟨⟨bg_t3 (i := 133) (by decide +kernel) rfl, bg_t3 (i := 134) (by decide +kernel) rfl, liX10, bg_t3 (i := 135) (by rfl) rfl⟩, by decide +kernel⟩
theorem okX10_tryOn : OkV RX10 yX10_tryOn cX10_tryOn 5 (some .boolean) 3 := ⟨⟨bg_t3 (i := 166) (by decide +kernel) rfl, bg_t3 (i := 167) (by decide +kernel) rfl, liX10, bg_t3 (i := 168) (by rfl) rfl⟩, by decide +kernel⟩
theorem okX10_pullRefusal : OkV RX10 yX10_pullRefusal cX10_pullRefusal 3 (some .int) 2 := ⟨⟨bg_t3 (i := 230) (by decide +kernel) rfl, bg_t3 (i := 231) (by decide +kernel) rfl, liX10, bg_t3 (i := 232) (by rfl) rfl⟩, by decide +kernel⟩
theorem okX10_passDay : OkV RX10 yX10_passDay cX10_passDay 2 none 1 := ⟨⟨bg_t4 (i := 52) (by decide +kernel) rfl, bg_t4 (i := 53) (by decide +kernel) rfl, liX10, bg_t4 (i := 54) (by rfl) rfl⟩, by decide +kernel⟩
theorem okX10_drawDay : OkV RX10 yX10_drawDay cX10_drawDay 6 none 2 := ⟨⟨bg_t4 (i := 75) (by decide +kernel) rfl, bg_t4 (i := 76) (by decide +kernel) rfl, liX10, bg_t4 (i := 77) (by rfl) rfl⟩, by decide +kernel⟩
theorem okX10_draw : OkV RX10 yX10_draw cX10_draw 2 (some .int) 1 := ⟨⟨bg_t4 (i := 80) (by decide +kernel) rfl, bg_s (i := 23) (by decide +kernel) rfl, liX10, bg_t4 (i := 81) (by rfl) rfl⟩, by decide +kernel⟩
theorem okJ6_bitCount_0f7a4 : OkS yJ6_bitCount_0f7a4 cJ6_bitCount_0f7a4 1 (some .int) 1 := ⟨⟨bg_t3 (i := 178) (by decide +kernel) rfl, liJ6, bg_t3 (i := 179) (by rfl) rfl⟩, by decide +kernel⟩
theorem okJ9_abs_0f7a4 : OkS yJ9_abs_0f7a4 cJ9_abs_0f7a4 1 (some .int) 1 := ⟨⟨bg_t3 (i := 188) (by decide +kernel) rfl, liJ9, bg_t3 (i := 189) (by rfl) rfl⟩, by decide +kernel⟩
theorem okJ9_floorMod_7cf53 : OkS yJ9_floorMod_7cf53 cJ9_floorMod_7cf53 3 (some .int) 2 := ⟨⟨bg_t4 (i := 63) (by decide +kernel) rfl, liJ9, bg_t4 (i := 64) (by rfl) rfl⟩, by decide +kernel⟩
theorem okJ9_max_7cf53 : OkS yJ9_max_7cf53 cJ9_max_7cf53 2 (some .int) 2 := ⟨⟨bg_t3 (i := 214) (by decide +kernel) rfl, liJ9, bg_t3 (i := 215) (by rfl) rfl⟩, by decide +kernel⟩
theorem okJ9_max_f86c9 : OkS yJ9_max_f86c9 cJ9_max_f86c9 4 (some .long) 2 := ⟨⟨bg_t3 (i := 211) (by decide +kernel) rfl, liJ9, bg_t3 (i := 212) (by rfl) rfl⟩, by decide +kernel⟩
theorem okJ9_min_7cf53 : OkS yJ9_min_7cf53 cJ9_min_7cf53 2 (some .int) 2 := ⟨⟨bg_t3 (i := 113) (by decide +kernel) rfl, liJ9, bg_t3 (i := 114) (by rfl) rfl⟩, by decide +kernel⟩
theorem okJ9_min_f86c9 : OkS yJ9_min_f86c9 cJ9_min_f86c9 4 (some .long) 2 := ⟨⟨bg_t3 (i := 208) (by decide +kernel) rfl, liJ9, bg_t3 (i := 209) (by rfl) rfl⟩, by decide +kernel⟩
theorem okJ7_fill_53178 : OkS yJ7_fill_53178 cJ7_fill_53178 4 none 2 := ⟨⟨bg_t3 (i := 88) (by decide +kernel) rfl, liJ7, bg_t3 (i := 89) (by rfl) rfl⟩, by decide +kernel⟩
