theorem in_L : Cond.initialized RL ∈ zT := zt1 (k := 0) (by decide +kernel) rfl
theorem in_X4 : Cond.initialized RX4 ∈ zT := zt1 (k := 1) (by decide +kernel) rfl
theorem in_X3 : Cond.initialized RX3 ∈ zT := zt1 (k := 2) (by decide +kernel) rfl
theorem in_X2 : Cond.initialized RX2 ∈ zT := zt1 (k := 3) (by decide +kernel) rfl
theorem in_X0 : Cond.initialized RX0 ∈ zT := zt1 (k := 4) (by decide +kernel) rfl
theorem in_J7 : Cond.initialized RJ7 ∈ zT := zt1 (k := 5) (by decide +kernel) rfl
theorem in_X1 : Cond.initialized RX1 ∈ zT := zt1 (k := 6) (by decide +kernel) rfl
theorem in_J6 : Cond.initialized RJ6 ∈ zT := zt1 (k := 7) (by decide +kernel) rfl
theorem in_X5 : Cond.initialized RX5 ∈ zT := zt1 (k := 8) (by decide +kernel) rfl
theorem in_J9 : Cond.initialized RJ9 ∈ zT := zt1 (k := 9) (by decide +kernel) rfl
theorem cl_L_7 : Cond.classLink RL 7 RX4 ∈ zT := zt1 (k := 10) (by decide +kernel) rfl
theorem it_X4 : Cond.instantiable RX4 5 ∈ zT := zt1 (k := 11) (by decide +kernel) rfl
theorem ml_L_9 : Cond.methodLink RL 9 yX4_init ∈ zT := zt1 (k := 12) (by decide +kernel) rfl
theorem im_X4_init : Cond.instanceMethod yX4_init ∈ zT := zt1 (k := 13) (by decide +kernel) rfl
theorem cd_X4_init : Cond.code yX4_init cX4_init 1 none ∈ zT := zt1 (k := 14) (by decide +kernel) rfl
theorem ml_X4_3 : Cond.methodLink RX4 3 objectInit ∈ zT := zt1 (k := 15) (by decide +kernel) rfl
theorem im_objectInit : Cond.instanceMethod objectInit ∈ zT := zt1 (k := 16) (by decide +kernel) rfl
theorem cd_objectInit : Cond.code objectInit ⟨#[0xb1]⟩ 1 none ∈ zT := zt1 (k := 17) (by decide +kernel) rfl
theorem cl_X4_9 : Cond.classLink RX4 9 RX3 ∈ zT := zt1 (k := 18) (by decide +kernel) rfl
theorem it_X3 : Cond.instantiable RX3 2 ∈ zT := zt1 (k := 19) (by decide +kernel) rfl
theorem im_X3_init : Cond.instanceMethod yX3_init ∈ zT := zt1 (k := 21) (by decide +kernel) rfl
theorem cd_X3_init : Cond.code yX3_init cX3_init 1 none ∈ zT := zt1 (k := 22) (by decide +kernel) rfl
theorem ml_X3_3 : Cond.methodLink RX3 3 objectInit ∈ zT := zt1 (k := 23) (by decide +kernel) rfl
theorem fl_X3_9 : Cond.fieldLink RX3 9 RX3 "words" "[J" ∈ zT := zt1 (k := 24) (by decide +kernel) rfl
theorem fl_X3_21 : Cond.fieldLink RX3 21 RX3 "end" "I" ∈ zT := zt1 (k := 25) (by decide +kernel) rfl
theorem ac_long : Cond.arrayClass .long ∈ zT := zt1 (k := 33) (by decide +kernel) rfl
theorem cl_X4_16 : Cond.classLink RX4 16 RX2 ∈ zT := zt1 (k := 34) (by decide +kernel) rfl
theorem it_X2 : Cond.instantiable RX2 3 ∈ zT := zt1 (k := 35) (by decide +kernel) rfl
theorem ml_X4_18 : Cond.methodLink RX4 18 yX2_init ∈ zT := zt1 (k := 36) (by decide +kernel) rfl
theorem im_X2_init : Cond.instanceMethod yX2_init ∈ zT := zt1 (k := 37) (by decide +kernel) rfl
theorem cd_X2_init : Cond.code yX2_init cX2_init 2 none ∈ zT := zt1 (k := 38) (by decide +kernel) rfl
theorem ml_X2_3 : Cond.methodLink RX2 3 objectInit ∈ zT := zt1 (k := 39) (by decide +kernel) rfl
theorem fl_X2_15 : Cond.fieldLink RX2 15 RX2 "pool" "LTwoLevels$Pool;" ∈ zT := zt1 (k := 40) (by decide +kernel) rfl
theorem fl_X2_9 : Cond.fieldLink RX2 9 RX2 "firsts" "[I" ∈ zT := zt1 (k := 41) (by decide +kernel) rfl
theorem fl_X2_25 : Cond.fieldLink RX2 25 RX2 "moves" "I" ∈ zT := zt1 (k := 42) (by decide +kernel) rfl
theorem ac_int : Cond.arrayClass .int ∈ zT := zt1 (k := 51) (by decide +kernel) rfl
theorem cl_X4_25 : Cond.classLink RX4 25 RX0 ∈ zT := zt1 (k := 52) (by decide +kernel) rfl
theorem it_X0 : Cond.instantiable RX0 4 ∈ zT := zt1 (k := 53) (by decide +kernel) rfl
theorem ml_X4_27 : Cond.methodLink RX4 27 yX0_init ∈ zT := zt1 (k := 54) (by decide +kernel) rfl
theorem im_X0_init : Cond.instanceMethod yX0_init ∈ zT := zt1 (k := 55) (by decide +kernel) rfl
theorem cd_X0_init : Cond.code yX0_init cX0_init 3 none ∈ zT := zt1 (k := 56) (by decide +kernel) rfl
theorem ml_X0_3 : Cond.methodLink RX0 3 objectInit ∈ zT := zt1 (k := 57) (by decide +kernel) rfl
theorem fl_X0_15 : Cond.fieldLink RX0 15 RX0 "pool" "LTwoLevels$Pool;" ∈ zT := zt1 (k := 58) (by decide +kernel) rfl
theorem fl_X0_19 : Cond.fieldLink RX0 19 RX0 "lists" "LTwoLevels$Lists;" ∈ zT := zt1 (k := 59) (by decide +kernel) rfl
theorem fl_X0_9 : Cond.fieldLink RX0 9 RX0 "marks" "[I" ∈ zT := zt1 (k := 60) (by decide +kernel) rfl
theorem fl_X0_29 : Cond.fieldLink RX0 29 RX0 "wrongAt" "I" ∈ zT := zt1 (k := 61) (by decide +kernel) rfl
theorem ml_X4_34 : Cond.methodLink RX4 34 yX4_begin ∈ zT := zt1 (k := 72) (by decide +kernel) rfl
theorem im_X4_begin : Cond.instanceMethod yX4_begin ∈ zT := zt1 (k := 74) (by decide +kernel) rfl
theorem cd_X4_begin : Cond.code yX4_begin cX4_begin 2 none ∈ zT := zt1 (k := 75) (by decide +kernel) rfl
theorem ml_X4_165 : Cond.methodLink RX4 165 yX3_clear ∈ zT := zt1 (k := 76) (by decide +kernel) rfl
theorem im_X3_clear : Cond.instanceMethod yX3_clear ∈ zT := zt1 (k := 77) (by decide +kernel) rfl
theorem se_X3_clear : Cond.selects RX3 yX3_clear yX3_clear ∈ zT := zt1 (k := 78) (by decide +kernel) rfl
theorem cd_X3_clear : Cond.code yX3_clear cX3_clear 2 none ∈ zT := zt1 (k := 79) (by decide +kernel) rfl
theorem ml_X3_15 : Cond.methodLink RX3 15 yJ7_fill_d0a16 ∈ zT := zt1 (k := 80) (by decide +kernel) rfl
theorem st_J7_fill_d0a16 : Cond.static yJ7_fill_d0a16 ∈ zT := zt1 (k := 81) (by decide +kernel) rfl
theorem cd_J7_fill_d0a16 : Cond.code yJ7_fill_d0a16 cJ7_fill_d0a16 5 none ∈ zT := zt1 (k := 82) (by decide +kernel) rfl
theorem ml_X4_168 : Cond.methodLink RX4 168 yX2_clear ∈ zT := zt1 (k := 83) (by decide +kernel) rfl
theorem im_X2_clear : Cond.instanceMethod yX2_clear ∈ zT := zt1 (k := 84) (by decide +kernel) rfl
theorem se_X2_clear : Cond.selects RX2 yX2_clear yX2_clear ∈ zT := zt1 (k := 85) (by decide +kernel) rfl
theorem cd_X2_clear : Cond.code yX2_clear cX2_clear 1 none ∈ zT := zt1 (k := 86) (by decide +kernel) rfl
theorem ml_X2_19 : Cond.methodLink RX2 19 yJ7_fill_53178 ∈ zT := zt1 (k := 87) (by decide +kernel) rfl
theorem st_J7_fill_53178 : Cond.static yJ7_fill_53178 ∈ zT := zt1 (k := 88) (by decide +kernel) rfl
theorem cd_J7_fill_53178 : Cond.code yJ7_fill_53178 cJ7_fill_53178 4 none ∈ zT := zt1 (k := 89) (by decide +kernel) rfl
theorem ml_X4_170 : Cond.methodLink RX4 170 yX4_makeFree ∈ zT := zt1 (k := 90) (by decide +kernel) rfl
theorem im_X4_makeFree : Cond.instanceMethod yX4_makeFree ∈ zT := zt1 (k := 92) (by decide +kernel) rfl
theorem cd_X4_makeFree : Cond.code yX4_makeFree cX4_makeFree 3 none ∈ zT := zt1 (k := 93) (by decide +kernel) rfl
theorem ml_X4_108 : Cond.methodLink RX4 108 yX3_layHeader ∈ zT := zt1 (k := 94) (by decide +kernel) rfl
theorem im_X3_layHeader : Cond.instanceMethod yX3_layHeader ∈ zT := zt1 (k := 95) (by decide +kernel) rfl
theorem se_X3_layHeader : Cond.selects RX3 yX3_layHeader yX3_layHeader ∈ zT := zt1 (k := 96) (by decide +kernel) rfl
theorem cd_X3_layHeader : Cond.code yX3_layHeader cX3_layHeader 4 none ∈ zT := zt1 (k := 97) (by decide +kernel) rfl
theorem kl_X3_29 : Cond.constantLong RX3 29 (4) ∈ zT := zt1 (k := 98) (by decide +kernel) rfl
theorem ml_X3_33 : Cond.methodLink RX3 33 yX3_lay ∈ zT := zt1 (k := 99) (by decide +kernel) rfl
theorem im_X3_lay : Cond.instanceMethod yX3_lay ∈ zT := zt1 (k := 100) (by decide +kernel) rfl
theorem se_X3_lay : Cond.selects RX3 yX3_lay yX3_lay ∈ zT := zt1 (k := 101) (by decide +kernel) rfl
theorem cd_X3_lay : Cond.code yX3_lay cX3_lay 4 none ∈ zT := zt1 (k := 102) (by decide +kernel) rfl
theorem ml_X4_112 : Cond.methodLink RX4 112 yX3_lay ∈ zT := zt1 (k := 103) (by decide +kernel) rfl
theorem ml_X4_199 : Cond.methodLink RX4 199 yX2_come ∈ zT := zt1 (k := 104) (by decide +kernel) rfl
theorem im_X2_come : Cond.instanceMethod yX2_come ∈ zT := zt1 (k := 105) (by decide +kernel) rfl
theorem se_X2_come : Cond.selects RX2 yX2_come yX2_come ∈ zT := zt1 (k := 106) (by decide +kernel) rfl
theorem cd_X2_come : Cond.code yX2_come cX2_come 5 none ∈ zT := zt1 (k := 107) (by decide +kernel) rfl
theorem ml_X2_29 : Cond.methodLink RX2 29 yX3_bodyOf ∈ zT := zt1 (k := 108) (by decide +kernel) rfl
theorem im_X3_bodyOf : Cond.instanceMethod yX3_bodyOf ∈ zT := zt1 (k := 109) (by decide +kernel) rfl
theorem se_X3_bodyOf : Cond.selects RX3 yX3_bodyOf yX3_bodyOf ∈ zT := zt1 (k := 110) (by decide +kernel) rfl
theorem cd_X3_bodyOf : Cond.code yX3_bodyOf cX3_bodyOf 2 (some .int) ∈ zT := zt1 (k := 111) (by decide +kernel) rfl
theorem ml_X3_25 : Cond.methodLink RX3 25 yX3_at ∈ zT := zt1 (k := 112) (by decide +kernel) rfl
theorem im_X3_at : Cond.instanceMethod yX3_at ∈ zT := zt1 (k := 113) (by decide +kernel) rfl
theorem se_X3_at : Cond.selects RX3 yX3_at yX3_at ∈ zT := zt1 (k := 114) (by decide +kernel) rfl
theorem cd_X3_at : Cond.code yX3_at cX3_at 2 (some .long) ∈ zT := zt1 (k := 115) (by decide +kernel) rfl
theorem ml_X2_35 : Cond.methodLink RX2 35 yX1_ofBody ∈ zT := zt1 (k := 116) (by decide +kernel) rfl
theorem st_X1_ofBody : Cond.static yX1_ofBody ∈ zT := zt1 (k := 117) (by decide +kernel) rfl
theorem cd_X1_ofBody : Cond.code yX1_ofBody cX1_ofBody 2 (some .int) ∈ zT := zt1 (k := 118) (by decide +kernel) rfl
theorem ml_X1_9 : Cond.methodLink RX1 9 yX1_stepShift ∈ zT := zt1 (k := 119) (by decide +kernel) rfl
theorem st_X1_stepShift : Cond.static yX1_stepShift ∈ zT := zt1 (k := 120) (by decide +kernel) rfl
theorem cd_X1_stepShift : Cond.code yX1_stepShift cX1_stepShift 1 (some .int) ∈ zT := zt1 (k := 121) (by decide +kernel) rfl
theorem ml_X1_21 : Cond.methodLink RX1 21 yJ6_numberOfLeadingZeros_0f7a4 ∈ zT := zt1 (k := 122) (by decide +kernel) rfl
theorem st_J6_numberOfLeadingZeros_0f7a4 : Cond.static yJ6_numberOfLeadingZeros_0f7a4 ∈ zT := zt1 (k := 123) (by decide +kernel) rfl
theorem cd_J6_numberOfLeadingZeros_0f7a4 : Cond.code yJ6_numberOfLeadingZeros_0f7a4 cJ6_numberOfLeadingZeros_0f7a4 2 (some .int) ∈ zT := zt1 (k := 124) (by decide +kernel) rfl
theorem kc_J6_264 : Cond.constant RJ6 264 (65536) ∈ zT := zt1 (k := 125) (by decide +kernel) rfl
theorem ml_X2_40 : Cond.methodLink RX2 40 yX2_firstOf ∈ zT := zt1 (k := 126) (by decide +kernel) rfl
theorem im_X2_firstOf : Cond.instanceMethod yX2_firstOf ∈ zT := zt1 (k := 127) (by decide +kernel) rfl
theorem se_X2_firstOf : Cond.selects RX2 yX2_firstOf yX2_firstOf ∈ zT := zt1 (k := 128) (by decide +kernel) rfl
theorem cd_X2_firstOf : Cond.code yX2_firstOf cX2_firstOf 2 (some .int) ∈ zT := zt1 (k := 129) (by decide +kernel) rfl
theorem ml_X2_43 : Cond.methodLink RX2 43 yX3_lay ∈ zT := zt1 (k := 130) (by decide +kernel) rfl
theorem ml_X2_47 : Cond.methodLink RX2 47 yX2_layFirst ∈ zT := zt1 (k := 131) (by decide +kernel) rfl
theorem im_X2_layFirst : Cond.instanceMethod yX2_layFirst ∈ zT := zt1 (k := 133) (by decide +kernel) rfl
theorem cd_X2_layFirst : Cond.code yX2_layFirst cX2_layFirst 3 none ∈ zT := zt1 (k := 134) (by decide +kernel) rfl
theorem ml_X4_187 : Cond.methodLink RX4 187 yX3_tellBehind ∈ zT := zt1 (k := 135) (by decide +kernel) rfl
theorem im_X3_tellBehind : Cond.instanceMethod yX3_tellBehind ∈ zT := zt1 (k := 136) (by decide +kernel) rfl
theorem se_X3_tellBehind : Cond.selects RX3 yX3_tellBehind yX3_tellBehind ∈ zT := zt1 (k := 137) (by decide +kernel) rfl
theorem cd_X3_tellBehind : Cond.code yX3_tellBehind cX3_tellBehind 5 none ∈ zT := zt1 (k := 138) (by decide +kernel) rfl
theorem ml_X3_43 : Cond.methodLink RX3 43 yX3_behind ∈ zT := zt1 (k := 139) (by decide +kernel) rfl
theorem im_X3_behind : Cond.instanceMethod yX3_behind ∈ zT := zt1 (k := 140) (by decide +kernel) rfl
theorem se_X3_behind : Cond.selects RX3 yX3_behind yX3_behind ∈ zT := zt1 (k := 141) (by decide +kernel) rfl
theorem cd_X3_behind : Cond.code yX3_behind cX3_behind 2 (some .int) ∈ zT := zt1 (k := 142) (by decide +kernel) rfl
theorem kl_X3_47 : Cond.constantLong RX3 47 (-3) ∈ zT := zt1 (k := 143) (by decide +kernel) rfl
theorem ml_X3_49 : Cond.methodLink RX3 49 yX3_isFree ∈ zT := zt1 (k := 144) (by decide +kernel) rfl
theorem im_X3_isFree : Cond.instanceMethod yX3_isFree ∈ zT := zt1 (k := 145) (by decide +kernel) rfl
theorem se_X3_isFree : Cond.selects RX3 yX3_isFree yX3_isFree ∈ zT := zt1 (k := 146) (by decide +kernel) rfl
theorem cd_X3_isFree : Cond.code yX3_isFree cX3_isFree 2 (some .boolean) ∈ zT := zt1 (k := 147) (by decide +kernel) rfl
theorem kl_X3_31 : Cond.constantLong RX3 31 (2) ∈ zT := zt1 (k := 148) (by decide +kernel) rfl
theorem ml_X4_57 : Cond.methodLink RX4 57 yX2_forgetMoves ∈ zT := zt1 (k := 149) (by decide +kernel) rfl
theorem im_X2_forgetMoves : Cond.instanceMethod yX2_forgetMoves ∈ zT := zt1 (k := 150) (by decide +kernel) rfl
theorem se_X2_forgetMoves : Cond.selects RX2 yX2_forgetMoves yX2_forgetMoves ∈ zT := zt1 (k := 151) (by decide +kernel) rfl
theorem cd_X2_forgetMoves : Cond.code yX2_forgetMoves cX2_forgetMoves 1 none ∈ zT := zt1 (k := 152) (by decide +kernel) rfl
theorem fl_X4_12 : Cond.fieldLink RX4 12 RX4 "pool" "LTwoLevels$Pool;" ∈ zT := zt1 (k := 153) (by decide +kernel) rfl
theorem fl_X4_21 : Cond.fieldLink RX4 21 RX4 "lists" "LTwoLevels$Lists;" ∈ zT := zt1 (k := 154) (by decide +kernel) rfl
theorem fl_X4_30 : Cond.fieldLink RX4 30 RX4 "checker" "LTwoLevels$Checker;" ∈ zT := zt1 (k := 155) (by decide +kernel) rfl
theorem fl_X4_42 : Cond.fieldLink RX4 42 RX4 "spoilt" "Z" ∈ zT := zt1 (k := 156) (by decide +kernel) rfl
theorem fl_X4_152 : Cond.fieldLink RX4 152 RX4 "refusals" "I" ∈ zT := zt1 (k := 157) (by decide +kernel) rfl
theorem ml_L_13 : Cond.methodLink RL 13 yX4_open ∈ zT := zt1 (k := 169) (by decide +kernel) rfl
theorem im_X4_open : Cond.instanceMethod yX4_open ∈ zT := zt1 (k := 170) (by decide +kernel) rfl
theorem se_X4_open : Cond.selects RX4 yX4_open yX4_open ∈ zT := zt1 (k := 171) (by decide +kernel) rfl
theorem cd_X4_open : Cond.code yX4_open cX4_open 2 (some .int) ∈ zT := zt1 (k := 172) (by decide +kernel) rfl
theorem ml_L_18 : Cond.methodLink RL 18 yX4_alloc ∈ zT := zt1 (k := 173) (by decide +kernel) rfl
theorem im_X4_alloc : Cond.instanceMethod yX4_alloc ∈ zT := zt1 (k := 174) (by decide +kernel) rfl
theorem se_X4_alloc : Cond.selects RX4 yX4_alloc yX4_alloc ∈ zT := zt1 (k := 175) (by decide +kernel) rfl
theorem cd_X4_alloc : Cond.code yX4_alloc cX4_alloc 4 (some .int) ∈ zT := zt1 (k := 176) (by decide +kernel) rfl
theorem ml_X4_38 : Cond.methodLink RX4 38 yX4_isWish ∈ zT := zt1 (k := 177) (by decide +kernel) rfl
theorem st_X4_isWish : Cond.static yX4_isWish ∈ zT := zt1 (k := 178) (by decide +kernel) rfl
theorem cd_X4_isWish : Cond.code yX4_isWish cX4_isWish 1 (some .boolean) ∈ zT := zt1 (k := 179) (by decide +kernel) rfl
theorem ml_X4_46 : Cond.methodLink RX4 46 yX4_bodyFor ∈ zT := zt1 (k := 180) (by decide +kernel) rfl
theorem st_X4_bodyFor : Cond.static yX4_bodyFor ∈ zT := zt1 (k := 181) (by decide +kernel) rfl
theorem cd_X4_bodyFor : Cond.code yX4_bodyFor cX4_bodyFor 1 (some .int) ∈ zT := zt1 (k := 182) (by decide +kernel) rfl
theorem ml_X4_173 : Cond.methodLink RX4 173 Lib.Math.max.name ∈ zT := zt1 (k := 183) (by decide +kernel) rfl
theorem st_J9_max : Cond.static Lib.Math.max.name ∈ zT := zt1 (k := 184) (by decide +kernel) rfl
theorem cd_J9_max : Cond.code Lib.Math.max.name Lib.Math.max.code 2 (some .int) ∈ zT := zt1 (k := 185) (by decide +kernel) rfl
theorem ml_X4_50 : Cond.methodLink RX4 50 yX2_headerFor ∈ zT := zt1 (k := 186) (by decide +kernel) rfl
theorem im_X2_headerFor : Cond.instanceMethod yX2_headerFor ∈ zT := zt1 (k := 187) (by decide +kernel) rfl
theorem se_X2_headerFor : Cond.selects RX2 yX2_headerFor yX2_headerFor ∈ zT := zt1 (k := 188) (by decide +kernel) rfl
theorem cd_X2_headerFor : Cond.code yX2_headerFor cX2_headerFor 3 (some .int) ∈ zT := zt1 (k := 189) (by decide +kernel) rfl
theorem ml_X2_55 : Cond.methodLink RX2 55 yX1_ofWish ∈ zT := zt1 (k := 190) (by decide +kernel) rfl
theorem st_X1_ofWish : Cond.static yX1_ofWish ∈ zT := zt1 (k := 191) (by decide +kernel) rfl
theorem cd_X1_ofWish : Cond.code yX1_ofWish cX1_ofWish 2 (some .int) ∈ zT := zt1 (k := 192) (by decide +kernel) rfl
theorem ml_X1_18 : Cond.methodLink RX1 18 yX1_ofBody ∈ zT := zt1 (k := 194) (by decide +kernel) rfl
theorem ml_X4_53 : Cond.methodLink RX4 53 yX4_refuse ∈ zT := zt1 (k := 195) (by decide +kernel) rfl
theorem im_X4_refuse : Cond.instanceMethod yX4_refuse ∈ zT := zt1 (k := 197) (by decide +kernel) rfl
theorem cd_X4_refuse : Cond.code yX4_refuse cX4_refuse 1 (some .int) ∈ zT := zt1 (k := 198) (by decide +kernel) rfl
theorem ml_X4_60 : Cond.methodLink RX4 60 yX4_take ∈ zT := zt1 (k := 199) (by decide +kernel) rfl
theorem im_X4_take : Cond.instanceMethod yX4_take ∈ zT := zt1 (k := 201) (by decide +kernel) rfl
theorem cd_X4_take : Cond.code yX4_take cX4_take 2 none ∈ zT := zt1 (k := 202) (by decide +kernel) rfl
theorem ml_X4_184 : Cond.methodLink RX4 184 yX2_leave ∈ zT := zt1 (k := 203) (by decide +kernel) rfl
theorem im_X2_leave : Cond.instanceMethod yX2_leave ∈ zT := zt1 (k := 204) (by decide +kernel) rfl
theorem se_X2_leave : Cond.selects RX2 yX2_leave yX2_leave ∈ zT := zt1 (k := 205) (by decide +kernel) rfl
theorem cd_X2_leave : Cond.code yX2_leave cX2_leave 5 none ∈ zT := zt1 (k := 206) (by decide +kernel) rfl
theorem ml_X2_51 : Cond.methodLink RX2 51 yX3_at ∈ zT := zt1 (k := 207) (by decide +kernel) rfl
theorem ml_X4_89 : Cond.methodLink RX4 89 yX3_bodyOf ∈ zT := zt1 (k := 208) (by decide +kernel) rfl
theorem ml_X4_63 : Cond.methodLink RX4 63 yX4_cutTo ∈ zT := zt1 (k := 209) (by decide +kernel) rfl
theorem im_X4_cutTo : Cond.instanceMethod yX4_cutTo ∈ zT := zt1 (k := 211) (by decide +kernel) rfl
theorem cd_X4_cutTo : Cond.code yX4_cutTo cX4_cutTo 5 none ∈ zT := zt1 (k := 212) (by decide +kernel) rfl
theorem ml_X4_190 : Cond.methodLink RX4 190 yX3_layBody ∈ zT := zt1 (k := 213) (by decide +kernel) rfl
theorem im_X3_layBody : Cond.instanceMethod yX3_layBody ∈ zT := zt1 (k := 214) (by decide +kernel) rfl
theorem se_X3_layBody : Cond.selects RX3 yX3_layBody yX3_layBody ∈ zT := zt1 (k := 215) (by decide +kernel) rfl
theorem cd_X3_layBody : Cond.code yX3_layBody cX3_layBody 3 none ∈ zT := zt1 (k := 216) (by decide +kernel) rfl
theorem kl_X3_37 : Cond.constantLong RX3 37 (3) ∈ zT := zt1 (k := 217) (by decide +kernel) rfl
theorem ml_X3_39 : Cond.methodLink RX3 39 yX3_layHeader ∈ zT := zt1 (k := 218) (by decide +kernel) rfl
theorem ml_X4_181 : Cond.methodLink RX4 181 yX3_behind ∈ zT := zt1 (k := 219) (by decide +kernel) rfl
theorem ml_X4_83 : Cond.methodLink RX4 83 yX4_release ∈ zT := zt1 (k := 220) (by decide +kernel) rfl
theorem im_X4_release : Cond.instanceMethod yX4_release ∈ zT := zt1 (k := 222) (by decide +kernel) rfl
theorem cd_X4_release : Cond.code yX4_release cX4_release 5 (some .int) ∈ zT := zt1 (k := 223) (by decide +kernel) rfl
theorem ml_X4_105 : Cond.methodLink RX4 105 yX3_isFree ∈ zT := zt1 (k := 224) (by decide +kernel) rfl
theorem ml_X4_193 : Cond.methodLink RX4 193 yX3_isAheadFree ∈ zT := zt1 (k := 225) (by decide +kernel) rfl
theorem im_X3_isAheadFree : Cond.instanceMethod yX3_isAheadFree ∈ zT := zt1 (k := 226) (by decide +kernel) rfl
theorem se_X3_isAheadFree : Cond.selects RX3 yX3_isAheadFree yX3_isAheadFree ∈ zT := zt1 (k := 227) (by decide +kernel) rfl
theorem cd_X3_isAheadFree : Cond.code yX3_isAheadFree cX3_isAheadFree 2 (some .boolean) ∈ zT := zt1 (k := 228) (by decide +kernel) rfl
theorem ml_X4_196 : Cond.methodLink RX4 196 yX3_freeAhead ∈ zT := zt1 (k := 229) (by decide +kernel) rfl
theorem im_X3_freeAhead : Cond.instanceMethod yX3_freeAhead ∈ zT := zt1 (k := 230) (by decide +kernel) rfl
theorem se_X3_freeAhead : Cond.selects RX3 yX3_freeAhead yX3_freeAhead ∈ zT := zt1 (k := 231) (by decide +kernel) rfl
theorem cd_X3_freeAhead : Cond.code yX3_freeAhead cX3_freeAhead 2 (some .int) ∈ zT := zt1 (k := 232) (by decide +kernel) rfl
theorem ml_L_22 : Cond.methodLink RL 22 yX4_aligned ∈ zT := zt1 (k := 233) (by decide +kernel) rfl
theorem im_X4_aligned : Cond.instanceMethod yX4_aligned ∈ zT := zt1 (k := 234) (by decide +kernel) rfl
theorem se_X4_aligned : Cond.selects RX4 yX4_aligned yX4_aligned ∈ zT := zt1 (k := 235) (by decide +kernel) rfl
theorem cd_X4_aligned : Cond.code yX4_aligned cX4_aligned 6 (some .int) ∈ zT := zt1 (k := 236) (by decide +kernel) rfl
theorem ml_X4_67 : Cond.methodLink RX4 67 yX4_isAlignment ∈ zT := zt1 (k := 237) (by decide +kernel) rfl
theorem st_X4_isAlignment : Cond.static yX4_isAlignment ∈ zT := zt1 (k := 238) (by decide +kernel) rfl
theorem cd_X4_isAlignment : Cond.code yX4_isAlignment cX4_isAlignment 1 (some .boolean) ∈ zT := zt1 (k := 239) (by decide +kernel) rfl
theorem ml_X4_70 : Cond.methodLink RX4 70 yX4_mostAhead ∈ zT := zt2 (k := 0) (by decide +kernel) rfl
theorem st_X4_mostAhead : Cond.static yX4_mostAhead ∈ zT := zt2 (k := 1) (by decide +kernel) rfl
theorem cd_X4_mostAhead : Cond.code yX4_mostAhead cX4_mostAhead 1 (some .int) ∈ zT := zt2 (k := 2) (by decide +kernel) rfl
theorem ml_X4_73 : Cond.methodLink RX4 73 yX4_alignedPlace ∈ zT := zt2 (k := 3) (by decide +kernel) rfl
theorem st_X4_alignedPlace : Cond.static yX4_alignedPlace ∈ zT := zt2 (k := 4) (by decide +kernel) rfl
theorem cd_X4_alignedPlace : Cond.code yX4_alignedPlace cX4_alignedPlace 3 (some .int) ∈ zT := zt2 (k := 5) (by decide +kernel) rfl
theorem ml_X4_77 : Cond.methodLink RX4 77 yX4_splitBefore ∈ zT := zt2 (k := 6) (by decide +kernel) rfl
theorem im_X4_splitBefore : Cond.instanceMethod yX4_splitBefore ∈ zT := zt2 (k := 8) (by decide +kernel) rfl
theorem cd_X4_splitBefore : Cond.code yX4_splitBefore cX4_splitBefore 3 none ∈ zT := zt2 (k := 9) (by decide +kernel) rfl
theorem ml_L_27 : Cond.methodLink RL 27 yX4_free ∈ zT := zt2 (k := 10) (by decide +kernel) rfl
theorem im_X4_free : Cond.instanceMethod yX4_free ∈ zT := zt2 (k := 11) (by decide +kernel) rfl
theorem se_X4_free : Cond.selects RX4 yX4_free yX4_free ∈ zT := zt2 (k := 12) (by decide +kernel) rfl
theorem cd_X4_free : Cond.code yX4_free cX4_free 3 (some .int) ∈ zT := zt2 (k := 13) (by decide +kernel) rfl
theorem ml_X4_80 : Cond.methodLink RX4 80 yX4_refusalOf ∈ zT := zt2 (k := 14) (by decide +kernel) rfl
theorem im_X4_refusalOf : Cond.instanceMethod yX4_refusalOf ∈ zT := zt2 (k := 16) (by decide +kernel) rfl
theorem cd_X4_refusalOf : Cond.code yX4_refusalOf cX4_refusalOf 2 (some .int) ∈ zT := zt2 (k := 17) (by decide +kernel) rfl
theorem ml_X4_178 : Cond.methodLink RX4 178 yX4_isUsedPlace ∈ zT := zt2 (k := 18) (by decide +kernel) rfl
theorem im_X4_isUsedPlace : Cond.instanceMethod yX4_isUsedPlace ∈ zT := zt2 (k := 20) (by decide +kernel) rfl
theorem cd_X4_isUsedPlace : Cond.code yX4_isUsedPlace cX4_isUsedPlace 4 (some .boolean) ∈ zT := zt2 (k := 21) (by decide +kernel) rfl
theorem ml_X4_120 : Cond.methodLink RX4 120 yX3_has ∈ zT := zt2 (k := 22) (by decide +kernel) rfl
theorem im_X3_has : Cond.instanceMethod yX3_has ∈ zT := zt2 (k := 23) (by decide +kernel) rfl
theorem se_X3_has : Cond.selects RX3 yX3_has yX3_has ∈ zT := zt2 (k := 24) (by decide +kernel) rfl
theorem cd_X3_has : Cond.code yX3_has cX3_has 2 (some .boolean) ∈ zT := zt2 (k := 25) (by decide +kernel) rfl
theorem ml_L_31 : Cond.methodLink RL 31 yX4_resize ∈ zT := zt2 (k := 26) (by decide +kernel) rfl
theorem im_X4_resize : Cond.instanceMethod yX4_resize ∈ zT := zt2 (k := 27) (by decide +kernel) rfl
theorem se_X4_resize : Cond.selects RX4 yX4_resize yX4_resize ∈ zT := zt2 (k := 28) (by decide +kernel) rfl
theorem cd_X4_resize : Cond.code yX4_resize cX4_resize 7 (some .int) ∈ zT := zt2 (k := 29) (by decide +kernel) rfl
theorem ml_X4_86 : Cond.methodLink RX4 86 yX4_bodyWithBehind ∈ zT := zt2 (k := 30) (by decide +kernel) rfl
theorem im_X4_bodyWithBehind : Cond.instanceMethod yX4_bodyWithBehind ∈ zT := zt2 (k := 32) (by decide +kernel) rfl
theorem cd_X4_bodyWithBehind : Cond.code yX4_bodyWithBehind cX4_bodyWithBehind 4 (some .int) ∈ zT := zt2 (k := 33) (by decide +kernel) rfl
theorem ml_X4_92 : Cond.methodLink RX4 92 yX4_joinBehind ∈ zT := zt2 (k := 34) (by decide +kernel) rfl
theorem im_X4_joinBehind : Cond.instanceMethod yX4_joinBehind ∈ zT := zt2 (k := 36) (by decide +kernel) rfl
theorem cd_X4_joinBehind : Cond.code yX4_joinBehind cX4_joinBehind 3 none ∈ zT := zt2 (k := 37) (by decide +kernel) rfl
theorem ml_X4_95 : Cond.methodLink RX4 95 yX4_copyBody ∈ zT := zt2 (k := 38) (by decide +kernel) rfl
theorem im_X4_copyBody : Cond.instanceMethod yX4_copyBody ∈ zT := zt2 (k := 40) (by decide +kernel) rfl
theorem cd_X4_copyBody : Cond.code yX4_copyBody cX4_copyBody 5 none ∈ zT := zt2 (k := 41) (by decide +kernel) rfl
theorem ml_X4_202 : Cond.methodLink RX4 202 Lib.Math.min.name ∈ zT := zt2 (k := 42) (by decide +kernel) rfl
theorem st_J9_min : Cond.static Lib.Math.min.name ∈ zT := zt2 (k := 43) (by decide +kernel) rfl
theorem cd_J9_min : Cond.code Lib.Math.min.name Lib.Math.min.code 2 (some .int) ∈ zT := zt2 (k := 44) (by decide +kernel) rfl
theorem ml_X4_116 : Cond.methodLink RX4 116 yX3_at ∈ zT := zt2 (k := 45) (by decide +kernel) rfl
theorem ml_L_35 : Cond.methodLink RL 35 yX4_grow ∈ zT := zt2 (k := 46) (by decide +kernel) rfl
theorem im_X4_grow : Cond.instanceMethod yX4_grow ∈ zT := zt2 (k := 47) (by decide +kernel) rfl
theorem se_X4_grow : Cond.selects RX4 yX4_grow yX4_grow ∈ zT := zt2 (k := 48) (by decide +kernel) rfl
theorem cd_X4_grow : Cond.code yX4_grow cX4_grow 4 (some .int) ∈ zT := zt2 (k := 49) (by decide +kernel) rfl
theorem ml_X4_102 : Cond.methodLink RX4 102 yX4_lastHeader ∈ zT := zt2 (k := 50) (by decide +kernel) rfl
theorem im_X4_lastHeader : Cond.instanceMethod yX4_lastHeader ∈ zT := zt2 (k := 52) (by decide +kernel) rfl
theorem cd_X4_lastHeader : Cond.code yX4_lastHeader cX4_lastHeader 3 (some .int) ∈ zT := zt2 (k := 53) (by decide +kernel) rfl
theorem ml_L_39 : Cond.methodLink RL 39 yX4_size ∈ zT := zt2 (k := 54) (by decide +kernel) rfl
theorem im_X4_size : Cond.instanceMethod yX4_size ∈ zT := zt2 (k := 55) (by decide +kernel) rfl
theorem se_X4_size : Cond.selects RX4 yX4_size yX4_size ∈ zT := zt2 (k := 56) (by decide +kernel) rfl
theorem cd_X4_size : Cond.code yX4_size cX4_size 3 (some .int) ∈ zT := zt2 (k := 57) (by decide +kernel) rfl
theorem ml_L_45 : Cond.methodLink RL 45 yX4_put ∈ zT := zt2 (k := 58) (by decide +kernel) rfl
theorem im_X4_put : Cond.instanceMethod yX4_put ∈ zT := zt2 (k := 59) (by decide +kernel) rfl
theorem se_X4_put : Cond.selects RX4 yX4_put yX4_put ∈ zT := zt2 (k := 60) (by decide +kernel) rfl
theorem cd_X4_put : Cond.code yX4_put cX4_put 6 (some .int) ∈ zT := zt2 (k := 61) (by decide +kernel) rfl
theorem ml_L_50 : Cond.methodLink RL 50 yX4_word ∈ zT := zt2 (k := 62) (by decide +kernel) rfl
theorem im_X4_word : Cond.instanceMethod yX4_word ∈ zT := zt2 (k := 63) (by decide +kernel) rfl
theorem se_X4_word : Cond.selects RX4 yX4_word yX4_word ∈ zT := zt2 (k := 64) (by decide +kernel) rfl
theorem cd_X4_word : Cond.code yX4_word cX4_word 2 (some .long) ∈ zT := zt2 (k := 65) (by decide +kernel) rfl
theorem ml_L_55 : Cond.methodLink RL 55 yX4_spoil ∈ zT := zt2 (k := 66) (by decide +kernel) rfl
theorem im_X4_spoil : Cond.instanceMethod yX4_spoil ∈ zT := zt2 (k := 67) (by decide +kernel) rfl
theorem se_X4_spoil : Cond.selects RX4 yX4_spoil yX4_spoil ∈ zT := zt2 (k := 68) (by decide +kernel) rfl
theorem cd_X4_spoil : Cond.code yX4_spoil cX4_spoil 4 (some .int) ∈ zT := zt2 (k := 69) (by decide +kernel) rfl
theorem ml_L_60 : Cond.methodLink RL 60 yX4_check ∈ zT := zt2 (k := 70) (by decide +kernel) rfl
theorem im_X4_check : Cond.instanceMethod yX4_check ∈ zT := zt2 (k := 71) (by decide +kernel) rfl
theorem se_X4_check : Cond.selects RX4 yX4_check yX4_check ∈ zT := zt2 (k := 72) (by decide +kernel) rfl
theorem cd_X4_check : Cond.code yX4_check cX4_check 2 (some .int) ∈ zT := zt2 (k := 73) (by decide +kernel) rfl
theorem ml_X4_123 : Cond.methodLink RX4 123 yX0_run ∈ zT := zt2 (k := 74) (by decide +kernel) rfl
theorem im_X0_run : Cond.instanceMethod yX0_run ∈ zT := zt2 (k := 75) (by decide +kernel) rfl
theorem se_X0_run : Cond.selects RX0 yX0_run yX0_run ∈ zT := zt2 (k := 76) (by decide +kernel) rfl
theorem cd_X0_run : Cond.code yX0_run cX0_run 3 (some .int) ∈ zT := zt2 (k := 77) (by decide +kernel) rfl
theorem ml_X0_23 : Cond.methodLink RX0 23 yJ7_fill_53178 ∈ zT := zt2 (k := 78) (by decide +kernel) rfl
theorem ml_X0_33 : Cond.methodLink RX0 33 yX0_readBlocks ∈ zT := zt2 (k := 79) (by decide +kernel) rfl
theorem im_X0_readBlocks : Cond.instanceMethod yX0_readBlocks ∈ zT := zt2 (k := 81) (by decide +kernel) rfl
theorem cd_X0_readBlocks : Cond.code yX0_readBlocks cX0_readBlocks 5 (some .int) ∈ zT := zt2 (k := 82) (by decide +kernel) rfl
theorem ml_X0_49 : Cond.methodLink RX0 49 yX0_wrongOfBlock ∈ zT := zt2 (k := 83) (by decide +kernel) rfl
theorem im_X0_wrongOfBlock : Cond.instanceMethod yX0_wrongOfBlock ∈ zT := zt2 (k := 85) (by decide +kernel) rfl
theorem cd_X0_wrongOfBlock : Cond.code yX0_wrongOfBlock cX0_wrongOfBlock 7 (some .int) ∈ zT := zt2 (k := 86) (by decide +kernel) rfl
theorem ml_X0_68 : Cond.methodLink RX0 68 yX3_at ∈ zT := zt2 (k := 87) (by decide +kernel) rfl
theorem kl_X0_72 : Cond.constantLong RX0 72 (4) ∈ zT := zt2 (k := 88) (by decide +kernel) rfl
theorem kl_X0_74 : Cond.constantLong RX0 74 (3) ∈ zT := zt2 (k := 89) (by decide +kernel) rfl
theorem ml_X0_76 : Cond.methodLink RX0 76 yX3_isAheadFree ∈ zT := zt2 (k := 90) (by decide +kernel) rfl
theorem ml_X0_57 : Cond.methodLink RX0 57 yX3_isFree ∈ zT := zt2 (k := 91) (by decide +kernel) rfl
theorem ml_X0_53 : Cond.methodLink RX0 53 yX0_tell ∈ zT := zt2 (k := 92) (by decide +kernel) rfl
theorem im_X0_tell : Cond.instanceMethod yX0_tell ∈ zT := zt2 (k := 94) (by decide +kernel) rfl
theorem cd_X0_tell : Cond.code yX0_tell cX0_tell 3 (some .int) ∈ zT := zt2 (k := 95) (by decide +kernel) rfl
theorem ml_X0_61 : Cond.methodLink RX0 61 yX0_mark ∈ zT := zt2 (k := 96) (by decide +kernel) rfl
theorem im_X0_mark : Cond.instanceMethod yX0_mark ∈ zT := zt2 (k := 98) (by decide +kernel) rfl
theorem cd_X0_mark : Cond.code yX0_mark cX0_mark 3 none ∈ zT := zt2 (k := 99) (by decide +kernel) rfl
theorem ml_X0_65 : Cond.methodLink RX0 65 yX3_behind ∈ zT := zt2 (k := 100) (by decide +kernel) rfl
theorem ml_X0_37 : Cond.methodLink RX0 37 yX0_readList ∈ zT := zt2 (k := 101) (by decide +kernel) rfl
theorem im_X0_readList : Cond.instanceMethod yX0_readList ∈ zT := zt2 (k := 103) (by decide +kernel) rfl
theorem cd_X0_readList : Cond.code yX0_readList cX0_readList 6 (some .int) ∈ zT := zt2 (k := 104) (by decide +kernel) rfl
theorem ml_X0_79 : Cond.methodLink RX0 79 yX2_firstOf ∈ zT := zt2 (k := 105) (by decide +kernel) rfl
theorem ml_X0_84 : Cond.methodLink RX0 84 yX0_isLinked ∈ zT := zt2 (k := 106) (by decide +kernel) rfl
theorem im_X0_isLinked : Cond.instanceMethod yX0_isLinked ∈ zT := zt2 (k := 108) (by decide +kernel) rfl
theorem cd_X0_isLinked : Cond.code yX0_isLinked cX0_isLinked 6 (some .boolean) ∈ zT := zt2 (k := 109) (by decide +kernel) rfl
theorem ml_X0_88 : Cond.methodLink RX0 88 yX0_markOf ∈ zT := zt2 (k := 110) (by decide +kernel) rfl
theorem im_X0_markOf : Cond.instanceMethod yX0_markOf ∈ zT := zt2 (k := 112) (by decide +kernel) rfl
theorem cd_X0_markOf : Cond.code yX0_markOf cX0_markOf 2 (some .int) ∈ zT := zt2 (k := 113) (by decide +kernel) rfl
theorem ml_X0_91 : Cond.methodLink RX0 91 yX3_bodyOf ∈ zT := zt2 (k := 114) (by decide +kernel) rfl
theorem ml_X0_94 : Cond.methodLink RX0 94 yX1_ofBody ∈ zT := zt2 (k := 115) (by decide +kernel) rfl
theorem ml_X0_41 : Cond.methodLink RX0 41 yX0_seekLost ∈ zT := zt2 (k := 116) (by decide +kernel) rfl
theorem im_X0_seekLost : Cond.instanceMethod yX0_seekLost ∈ zT := zt2 (k := 118) (by decide +kernel) rfl
theorem cd_X0_seekLost : Cond.code yX0_seekLost cX0_seekLost 2 (some .int) ∈ zT := zt2 (k := 119) (by decide +kernel) rfl
theorem ml_L_65 : Cond.methodLink RL 65 yX4_where ∈ zT := zt2 (k := 120) (by decide +kernel) rfl
theorem im_X4_where : Cond.instanceMethod yX4_where ∈ zT := zt2 (k := 121) (by decide +kernel) rfl
theorem se_X4_where : Cond.selects RX4 yX4_where yX4_where ∈ zT := zt2 (k := 122) (by decide +kernel) rfl
theorem cd_X4_where : Cond.code yX4_where cX4_where 1 (some .int) ∈ zT := zt2 (k := 123) (by decide +kernel) rfl
theorem ml_L_69 : Cond.methodLink RL 69 yX4_classOf ∈ zT := zt2 (k := 124) (by decide +kernel) rfl
theorem im_X4_classOf : Cond.instanceMethod yX4_classOf ∈ zT := zt2 (k := 125) (by decide +kernel) rfl
theorem se_X4_classOf : Cond.selects RX4 yX4_classOf yX4_classOf ∈ zT := zt2 (k := 126) (by decide +kernel) rfl
theorem cd_X4_classOf : Cond.code yX4_classOf cX4_classOf 3 (some .int) ∈ zT := zt2 (k := 127) (by decide +kernel) rfl
theorem ml_X4_129 : Cond.methodLink RX4 129 yX1_ofWish ∈ zT := zt2 (k := 128) (by decide +kernel) rfl
theorem ml_X4_134 : Cond.methodLink RX4 134 yX1_ofBody ∈ zT := zt2 (k := 129) (by decide +kernel) rfl
theorem ml_L_74 : Cond.methodLink RL 74 yX4_listed ∈ zT := zt2 (k := 130) (by decide +kernel) rfl
theorem im_X4_listed : Cond.instanceMethod yX4_listed ∈ zT := zt2 (k := 131) (by decide +kernel) rfl
theorem se_X4_listed : Cond.selects RX4 yX4_listed yX4_listed ∈ zT := zt2 (k := 132) (by decide +kernel) rfl
theorem cd_X4_listed : Cond.code yX4_listed cX4_listed 3 (some .int) ∈ zT := zt2 (k := 133) (by decide +kernel) rfl
theorem ml_X4_137 : Cond.methodLink RX4 137 yX2_placeInList ∈ zT := zt2 (k := 134) (by decide +kernel) rfl
theorem im_X2_placeInList : Cond.instanceMethod yX2_placeInList ∈ zT := zt2 (k := 135) (by decide +kernel) rfl
theorem se_X2_placeInList : Cond.selects RX2 yX2_placeInList yX2_placeInList ∈ zT := zt2 (k := 136) (by decide +kernel) rfl
theorem cd_X2_placeInList : Cond.code yX2_placeInList cX2_placeInList 5 (some .int) ∈ zT := zt2 (k := 137) (by decide +kernel) rfl
theorem ml_L_78 : Cond.methodLink RL 78 yX4_bits ∈ zT := zt2 (k := 138) (by decide +kernel) rfl
theorem im_X4_bits : Cond.instanceMethod yX4_bits ∈ zT := zt2 (k := 139) (by decide +kernel) rfl
theorem se_X4_bits : Cond.selects RX4 yX4_bits yX4_bits ∈ zT := zt2 (k := 140) (by decide +kernel) rfl
theorem cd_X4_bits : Cond.code yX4_bits cX4_bits 2 (some .int) ∈ zT := zt2 (k := 141) (by decide +kernel) rfl
theorem ml_X4_140 : Cond.methodLink RX4 140 yX2_levelBits ∈ zT := zt2 (k := 142) (by decide +kernel) rfl
theorem im_X2_levelBits : Cond.instanceMethod yX2_levelBits ∈ zT := zt2 (k := 143) (by decide +kernel) rfl
theorem se_X2_levelBits : Cond.selects RX2 yX2_levelBits yX2_levelBits ∈ zT := zt2 (k := 144) (by decide +kernel) rfl
theorem cd_X2_levelBits : Cond.code yX2_levelBits cX2_levelBits 3 (some .int) ∈ zT := zt2 (k := 145) (by decide +kernel) rfl
theorem ml_X2_58 : Cond.methodLink RX2 58 yX2_stepBits ∈ zT := zt2 (k := 146) (by decide +kernel) rfl
theorem im_X2_stepBits : Cond.instanceMethod yX2_stepBits ∈ zT := zt2 (k := 147) (by decide +kernel) rfl
theorem se_X2_stepBits : Cond.selects RX2 yX2_stepBits yX2_stepBits ∈ zT := zt2 (k := 148) (by decide +kernel) rfl
theorem cd_X2_stepBits : Cond.code yX2_stepBits cX2_stepBits 4 (some .int) ∈ zT := zt2 (k := 149) (by decide +kernel) rfl
theorem ml_X4_143 : Cond.methodLink RX4 143 yX2_stepBits ∈ zT := zt2 (k := 150) (by decide +kernel) rfl
theorem ml_L_82 : Cond.methodLink RL 82 yX4_block ∈ zT := zt2 (k := 151) (by decide +kernel) rfl
theorem im_X4_block : Cond.instanceMethod yX4_block ∈ zT := zt2 (k := 152) (by decide +kernel) rfl
theorem se_X4_block : Cond.selects RX4 yX4_block yX4_block ∈ zT := zt2 (k := 153) (by decide +kernel) rfl
theorem cd_X4_block : Cond.code yX4_block cX4_block 4 (some .int) ∈ zT := zt2 (k := 154) (by decide +kernel) rfl
theorem ml_X4_146 : Cond.methodLink RX4 146 yX4_headerOfBlock ∈ zT := zt2 (k := 155) (by decide +kernel) rfl
theorem im_X4_headerOfBlock : Cond.instanceMethod yX4_headerOfBlock ∈ zT := zt2 (k := 157) (by decide +kernel) rfl
theorem cd_X4_headerOfBlock : Cond.code yX4_headerOfBlock cX4_headerOfBlock 4 (some .int) ∈ zT := zt2 (k := 158) (by decide +kernel) rfl
theorem ml_L_86 : Cond.methodLink RL 86 yX4_found ∈ zT := zt2 (k := 159) (by decide +kernel) rfl
theorem im_X4_found : Cond.instanceMethod yX4_found ∈ zT := zt2 (k := 160) (by decide +kernel) rfl
theorem se_X4_found : Cond.selects RX4 yX4_found yX4_found ∈ zT := zt2 (k := 161) (by decide +kernel) rfl
theorem cd_X4_found : Cond.code yX4_found cX4_found 3 (some .int) ∈ zT := zt2 (k := 162) (by decide +kernel) rfl
theorem ml_L_90 : Cond.methodLink RL 90 yX4_count ∈ zT := zt2 (k := 163) (by decide +kernel) rfl
theorem im_X4_count : Cond.instanceMethod yX4_count ∈ zT := zt2 (k := 164) (by decide +kernel) rfl
theorem se_X4_count : Cond.selects RX4 yX4_count yX4_count ∈ zT := zt2 (k := 165) (by decide +kernel) rfl
theorem cd_X4_count : Cond.code yX4_count cX4_count 2 (some .int) ∈ zT := zt2 (k := 166) (by decide +kernel) rfl
theorem ml_X4_155 : Cond.methodLink RX4 155 yX4_wordsOf ∈ zT := zt2 (k := 167) (by decide +kernel) rfl
theorem im_X4_wordsOf : Cond.instanceMethod yX4_wordsOf ∈ zT := zt2 (k := 169) (by decide +kernel) rfl
theorem cd_X4_wordsOf : Cond.code yX4_wordsOf cX4_wordsOf 5 (some .int) ∈ zT := zt2 (k := 170) (by decide +kernel) rfl
theorem ml_X4_159 : Cond.methodLink RX4 159 yX4_blocksOf ∈ zT := zt2 (k := 171) (by decide +kernel) rfl
theorem im_X4_blocksOf : Cond.instanceMethod yX4_blocksOf ∈ zT := zt2 (k := 173) (by decide +kernel) rfl
theorem cd_X4_blocksOf : Cond.code yX4_blocksOf cX4_blocksOf 5 (some .int) ∈ zT := zt2 (k := 174) (by decide +kernel) rfl
theorem ml_X4_162 : Cond.methodLink RX4 162 yX4_mostFree ∈ zT := zt2 (k := 175) (by decide +kernel) rfl
theorem im_X4_mostFree : Cond.instanceMethod yX4_mostFree ∈ zT := zt2 (k := 177) (by decide +kernel) rfl
theorem cd_X4_mostFree : Cond.code yX4_mostFree cX4_mostFree 4 (some .int) ∈ zT := zt2 (k := 178) (by decide +kernel) rfl
theorem cl_L_10 : Cond.classLink RL 10 RX5 ∈ zT := zt2 (k := 179) (by decide +kernel) rfl
theorem it_X5 : Cond.instantiable RX5 9 ∈ zT := zt2 (k := 180) (by decide +kernel) rfl
theorem ml_L_12 : Cond.methodLink RL 12 yX5_init ∈ zT := zt2 (k := 181) (by decide +kernel) rfl
theorem im_X5_init : Cond.instanceMethod yX5_init ∈ zT := zt2 (k := 182) (by decide +kernel) rfl
theorem cd_X5_init : Cond.code yX5_init cX5_init 1 none ∈ zT := zt2 (k := 183) (by decide +kernel) rfl
theorem ml_X5_1 : Cond.methodLink RX5 1 objectInit ∈ zT := zt2 (k := 184) (by decide +kernel) rfl
theorem ml_X5_28 : Cond.methodLink RX5 28 yX5_lay ∈ zT := zt2 (k := 185) (by decide +kernel) rfl
theorem im_X5_lay : Cond.instanceMethod yX5_lay ∈ zT := zt2 (k := 187) (by decide +kernel) rfl
theorem cd_X5_lay : Cond.code yX5_lay cX5_lay 3 none ∈ zT := zt2 (k := 188) (by decide +kernel) rfl
theorem ml_X5_42 : Cond.methodLink RX5 42 yX5_lend ∈ zT := zt2 (k := 189) (by decide +kernel) rfl
theorem im_X5_lend : Cond.instanceMethod yX5_lend ∈ zT := zt2 (k := 191) (by decide +kernel) rfl
theorem cd_X5_lend : Cond.code yX5_lend cX5_lend 6 none ∈ zT := zt2 (k := 192) (by decide +kernel) rfl
theorem ml_X5_57 : Cond.methodLink RX5 57 yX5_classIn ∈ zT := zt2 (k := 193) (by decide +kernel) rfl
theorem st_X5_classIn : Cond.static yX5_classIn ∈ zT := zt2 (k := 194) (by decide +kernel) rfl
theorem cd_X5_classIn : Cond.code yX5_classIn cX5_classIn 2 (some .int) ∈ zT := zt2 (k := 195) (by decide +kernel) rfl
theorem kl_X5_73 : Cond.constantLong RX5 73 (4) ∈ zT := zt2 (k := 196) (by decide +kernel) rfl
theorem ml_X5_75 : Cond.methodLink RX5 75 yX5_behind ∈ zT := zt2 (k := 197) (by decide +kernel) rfl
theorem im_X5_behind : Cond.instanceMethod yX5_behind ∈ zT := zt2 (k := 199) (by decide +kernel) rfl
theorem cd_X5_behind : Cond.code yX5_behind cX5_behind 3 (some .int) ∈ zT := zt2 (k := 200) (by decide +kernel) rfl
theorem ml_X5_66 : Cond.methodLink RX5 66 yX5_words ∈ zT := zt2 (k := 201) (by decide +kernel) rfl
theorem im_X5_words : Cond.instanceMethod yX5_words ∈ zT := zt2 (k := 203) (by decide +kernel) rfl
theorem cd_X5_words : Cond.code yX5_words cX5_words 2 (some .int) ∈ zT := zt2 (k := 204) (by decide +kernel) rfl
theorem ml_X5_78 : Cond.methodLink RX5 78 yX5_tell ∈ zT := zt2 (k := 205) (by decide +kernel) rfl
theorem im_X5_tell : Cond.instanceMethod yX5_tell ∈ zT := zt2 (k := 207) (by decide +kernel) rfl
theorem cd_X5_tell : Cond.code yX5_tell cX5_tell 3 none ∈ zT := zt2 (k := 208) (by decide +kernel) rfl
theorem kl_X5_69 : Cond.constantLong RX5 69 (2) ∈ zT := zt2 (k := 209) (by decide +kernel) rfl
theorem kl_X5_71 : Cond.constantLong RX5 71 (-3) ∈ zT := zt2 (k := 210) (by decide +kernel) rfl
theorem fl_X5_7 : Cond.fieldLink RX5 7 RX5 "pool" "[J" ∈ zT := zt2 (k := 211) (by decide +kernel) rfl
theorem fl_X5_32 : Cond.fieldLink RX5 32 RX5 "size" "I" ∈ zT := zt2 (k := 212) (by decide +kernel) rfl
theorem fl_X5_13 : Cond.fieldLink RX5 13 RX5 "first" "[I" ∈ zT := zt2 (k := 213) (by decide +kernel) rfl
theorem fl_X5_46 : Cond.fieldLink RX5 46 RX5 "links" "I" ∈ zT := zt2 (k := 214) (by decide +kernel) rfl
theorem fl_X5_39 : Cond.fieldLink RX5 39 RX5 "refused" "I" ∈ zT := zt2 (k := 215) (by decide +kernel) rfl
theorem fl_X5_35 : Cond.fieldLink RX5 35 RX5 "isSpoilt" "Z" ∈ zT := zt2 (k := 216) (by decide +kernel) rfl
theorem fl_X5_17 : Cond.fieldLink RX5 17 RX5 "wrongAt" "I" ∈ zT := zt2 (k := 217) (by decide +kernel) rfl
theorem fl_X5_21 : Cond.fieldLink RX5 21 RX5 "met" "[Z" ∈ zT := zt2 (k := 218) (by decide +kernel) rfl
theorem fl_X5_25 : Cond.fieldLink RX5 25 RX5 "begins" "[Z" ∈ zT := zt2 (k := 219) (by decide +kernel) rfl
theorem ac_boolean : Cond.arrayClass .boolean ∈ zT := zt2 (k := 239) (by decide +kernel) rfl
theorem ml_L_17 : Cond.methodLink RL 17 yX5_open ∈ zT := zt3 (k := 0) (by decide +kernel) rfl
theorem im_X5_open : Cond.instanceMethod yX5_open ∈ zT := zt3 (k := 1) (by decide +kernel) rfl
theorem se_X5_open : Cond.selects RX5 yX5_open yX5_open ∈ zT := zt3 (k := 2) (by decide +kernel) rfl
theorem cd_X5_open : Cond.code yX5_open cX5_open 2 (some .int) ∈ zT := zt3 (k := 3) (by decide +kernel) rfl
theorem kl_X5_49 : Cond.constantLong RX5 49 (16) ∈ zT := zt3 (k := 4) (by decide +kernel) rfl
theorem kl_X5_51 : Cond.constantLong RX5 51 (2048) ∈ zT := zt3 (k := 5) (by decide +kernel) rfl
theorem ml_X5_53 : Cond.methodLink RX5 53 yX5_in ∈ zT := zt3 (k := 6) (by decide +kernel) rfl
theorem st_X5_in : Cond.static yX5_in ∈ zT := zt3 (k := 7) (by decide +kernel) rfl
theorem cd_X5_in : Cond.code yX5_in cX5_in 6 (some .boolean) ∈ zT := zt3 (k := 8) (by decide +kernel) rfl
theorem ml_L_73 : Cond.methodLink RL 73 yX5_classOf ∈ zT := zt3 (k := 9) (by decide +kernel) rfl
theorem im_X5_classOf : Cond.instanceMethod yX5_classOf ∈ zT := zt3 (k := 10) (by decide +kernel) rfl
theorem se_X5_classOf : Cond.selects RX5 yX5_classOf yX5_classOf ∈ zT := zt3 (k := 11) (by decide +kernel) rfl
theorem cd_X5_classOf : Cond.code yX5_classOf cX5_classOf 3 (some .int) ∈ zT := zt3 (k := 12) (by decide +kernel) rfl
theorem kl_X5_61 : Cond.constantLong RX5 61 (4095) ∈ zT := zt3 (k := 13) (by decide +kernel) rfl
theorem ml_X5_63 : Cond.methodLink RX5 63 yX5_wishIn ∈ zT := zt3 (k := 14) (by decide +kernel) rfl
theorem st_X5_wishIn : Cond.static yX5_wishIn ∈ zT := zt3 (k := 15) (by decide +kernel) rfl
theorem cd_X5_wishIn : Cond.code yX5_wishIn cX5_wishIn 2 (some .int) ∈ zT := zt3 (k := 16) (by decide +kernel) rfl
theorem ml_L_21 : Cond.methodLink RL 21 yX5_alloc ∈ zT := zt3 (k := 17) (by decide +kernel) rfl
theorem im_X5_alloc : Cond.instanceMethod yX5_alloc ∈ zT := zt3 (k := 18) (by decide +kernel) rfl
theorem se_X5_alloc : Cond.selects RX5 yX5_alloc yX5_alloc ∈ zT := zt3 (k := 19) (by decide +kernel) rfl
theorem cd_X5_alloc : Cond.code yX5_alloc cX5_alloc 3 (some .int) ∈ zT := zt3 (k := 20) (by decide +kernel) rfl
theorem ml_X5_86 : Cond.methodLink RX5 86 yX5_lookFor ∈ zT := zt3 (k := 21) (by decide +kernel) rfl
theorem im_X5_lookFor : Cond.instanceMethod yX5_lookFor ∈ zT := zt3 (k := 23) (by decide +kernel) rfl
theorem cd_X5_lookFor : Cond.code yX5_lookFor cX5_lookFor 3 (some .int) ∈ zT := zt3 (k := 24) (by decide +kernel) rfl
theorem ml_X5_89 : Cond.methodLink RX5 89 yX5_leave ∈ zT := zt3 (k := 25) (by decide +kernel) rfl
theorem im_X5_leave : Cond.instanceMethod yX5_leave ∈ zT := zt3 (k := 27) (by decide +kernel) rfl
theorem cd_X5_leave : Cond.code yX5_leave cX5_leave 4 none ∈ zT := zt3 (k := 28) (by decide +kernel) rfl
theorem ml_X5_92 : Cond.methodLink RX5 92 yX5_least ∈ zT := zt3 (k := 29) (by decide +kernel) rfl
theorem st_X5_least : Cond.static yX5_least ∈ zT := zt3 (k := 30) (by decide +kernel) rfl
theorem cd_X5_least : Cond.code yX5_least cX5_least 1 (some .int) ∈ zT := zt3 (k := 31) (by decide +kernel) rfl
theorem ml_X5_95 : Cond.methodLink RX5 95 yX5_take ∈ zT := zt3 (k := 32) (by decide +kernel) rfl
theorem im_X5_take : Cond.instanceMethod yX5_take ∈ zT := zt3 (k := 34) (by decide +kernel) rfl
theorem cd_X5_take : Cond.code yX5_take cX5_take 6 none ∈ zT := zt3 (k := 35) (by decide +kernel) rfl
theorem ml_L_26 : Cond.methodLink RL 26 yX5_aligned ∈ zT := zt3 (k := 36) (by decide +kernel) rfl
theorem im_X5_aligned : Cond.instanceMethod yX5_aligned ∈ zT := zt3 (k := 37) (by decide +kernel) rfl
theorem se_X5_aligned : Cond.selects RX5 yX5_aligned yX5_aligned ∈ zT := zt3 (k := 38) (by decide +kernel) rfl
theorem cd_X5_aligned : Cond.code yX5_aligned cX5_aligned 7 (some .int) ∈ zT := zt3 (k := 39) (by decide +kernel) rfl
theorem ml_L_30 : Cond.methodLink RL 30 yX5_free ∈ zT := zt3 (k := 40) (by decide +kernel) rfl
theorem im_X5_free : Cond.instanceMethod yX5_free ∈ zT := zt3 (k := 41) (by decide +kernel) rfl
theorem se_X5_free : Cond.selects RX5 yX5_free yX5_free ∈ zT := zt3 (k := 42) (by decide +kernel) rfl
theorem cd_X5_free : Cond.code yX5_free cX5_free 2 (some .int) ∈ zT := zt3 (k := 43) (by decide +kernel) rfl
theorem ml_X5_99 : Cond.methodLink RX5 99 yX5_isBad ∈ zT := zt3 (k := 44) (by decide +kernel) rfl
theorem im_X5_isBad : Cond.instanceMethod yX5_isBad ∈ zT := zt3 (k := 46) (by decide +kernel) rfl
theorem cd_X5_isBad : Cond.code yX5_isBad cX5_isBad 3 (some .boolean) ∈ zT := zt3 (k := 47) (by decide +kernel) rfl
theorem ml_X5_82 : Cond.methodLink RX5 82 yX5_isFree ∈ zT := zt3 (k := 48) (by decide +kernel) rfl
theorem im_X5_isFree : Cond.instanceMethod yX5_isFree ∈ zT := zt3 (k := 50) (by decide +kernel) rfl
theorem cd_X5_isFree : Cond.code yX5_isFree cX5_isFree 2 (some .boolean) ∈ zT := zt3 (k := 51) (by decide +kernel) rfl
theorem ml_X5_102 : Cond.methodLink RX5 102 yX5_release ∈ zT := zt3 (k := 52) (by decide +kernel) rfl
theorem im_X5_release : Cond.instanceMethod yX5_release ∈ zT := zt3 (k := 54) (by decide +kernel) rfl
theorem cd_X5_release : Cond.code yX5_release cX5_release 6 (some .int) ∈ zT := zt3 (k := 55) (by decide +kernel) rfl
theorem ml_L_34 : Cond.methodLink RL 34 yX5_resize ∈ zT := zt3 (k := 56) (by decide +kernel) rfl
theorem im_X5_resize : Cond.instanceMethod yX5_resize ∈ zT := zt3 (k := 57) (by decide +kernel) rfl
theorem se_X5_resize : Cond.selects RX5 yX5_resize yX5_resize ∈ zT := zt3 (k := 58) (by decide +kernel) rfl
theorem cd_X5_resize : Cond.code yX5_resize cX5_resize 10 (some .int) ∈ zT := zt3 (k := 59) (by decide +kernel) rfl
theorem ml_X5_105 : Cond.methodLink RX5 105 yX5_moved ∈ zT := zt3 (k := 60) (by decide +kernel) rfl
theorem im_X5_moved : Cond.instanceMethod yX5_moved ∈ zT := zt3 (k := 62) (by decide +kernel) rfl
theorem cd_X5_moved : Cond.code yX5_moved cX5_moved 6 (some .int) ∈ zT := zt3 (k := 63) (by decide +kernel) rfl
theorem ml_L_38 : Cond.methodLink RL 38 yX5_grow ∈ zT := zt3 (k := 64) (by decide +kernel) rfl
theorem im_X5_grow : Cond.instanceMethod yX5_grow ∈ zT := zt3 (k := 65) (by decide +kernel) rfl
theorem se_X5_grow : Cond.selects RX5 yX5_grow yX5_grow ∈ zT := zt3 (k := 66) (by decide +kernel) rfl
theorem cd_X5_grow : Cond.code yX5_grow cX5_grow 4 (some .int) ∈ zT := zt3 (k := 67) (by decide +kernel) rfl
theorem kl_X5_109 : Cond.constantLong RX5 109 (1024) ∈ zT := zt3 (k := 68) (by decide +kernel) rfl
theorem ml_L_42 : Cond.methodLink RL 42 yX5_size ∈ zT := zt3 (k := 69) (by decide +kernel) rfl
theorem im_X5_size : Cond.instanceMethod yX5_size ∈ zT := zt3 (k := 70) (by decide +kernel) rfl
theorem se_X5_size : Cond.selects RX5 yX5_size yX5_size ∈ zT := zt3 (k := 71) (by decide +kernel) rfl
theorem cd_X5_size : Cond.code yX5_size cX5_size 2 (some .int) ∈ zT := zt3 (k := 72) (by decide +kernel) rfl
theorem ml_L_49 : Cond.methodLink RL 49 yX5_put ∈ zT := zt3 (k := 73) (by decide +kernel) rfl
theorem im_X5_put : Cond.instanceMethod yX5_put ∈ zT := zt3 (k := 74) (by decide +kernel) rfl
theorem se_X5_put : Cond.selects RX5 yX5_put yX5_put ∈ zT := zt3 (k := 75) (by decide +kernel) rfl
theorem cd_X5_put : Cond.code yX5_put cX5_put 5 (some .int) ∈ zT := zt3 (k := 76) (by decide +kernel) rfl
theorem ml_L_54 : Cond.methodLink RL 54 yX5_word ∈ zT := zt3 (k := 77) (by decide +kernel) rfl
theorem im_X5_word : Cond.instanceMethod yX5_word ∈ zT := zt3 (k := 78) (by decide +kernel) rfl
theorem se_X5_word : Cond.selects RX5 yX5_word yX5_word ∈ zT := zt3 (k := 79) (by decide +kernel) rfl
theorem cd_X5_word : Cond.code yX5_word cX5_word 2 (some .long) ∈ zT := zt3 (k := 80) (by decide +kernel) rfl
theorem ml_L_59 : Cond.methodLink RL 59 yX5_spoil ∈ zT := zt3 (k := 81) (by decide +kernel) rfl
theorem im_X5_spoil : Cond.instanceMethod yX5_spoil ∈ zT := zt3 (k := 82) (by decide +kernel) rfl
theorem se_X5_spoil : Cond.selects RX5 yX5_spoil yX5_spoil ∈ zT := zt3 (k := 83) (by decide +kernel) rfl
theorem cd_X5_spoil : Cond.code yX5_spoil cX5_spoil 4 (some .int) ∈ zT := zt3 (k := 84) (by decide +kernel) rfl
theorem ml_L_64 : Cond.methodLink RL 64 yX5_check ∈ zT := zt3 (k := 85) (by decide +kernel) rfl
theorem im_X5_check : Cond.instanceMethod yX5_check ∈ zT := zt3 (k := 86) (by decide +kernel) rfl
theorem se_X5_check : Cond.selects RX5 yX5_check yX5_check ∈ zT := zt3 (k := 87) (by decide +kernel) rfl
theorem cd_X5_check : Cond.code yX5_check cX5_check 3 (some .int) ∈ zT := zt3 (k := 88) (by decide +kernel) rfl
theorem ml_X5_121 : Cond.methodLink RX5 121 yX5_checkBlocks ∈ zT := zt3 (k := 89) (by decide +kernel) rfl
theorem im_X5_checkBlocks : Cond.instanceMethod yX5_checkBlocks ∈ zT := zt3 (k := 91) (by decide +kernel) rfl
theorem cd_X5_checkBlocks : Cond.code yX5_checkBlocks cX5_checkBlocks 4 (some .int) ∈ zT := zt3 (k := 92) (by decide +kernel) rfl
theorem ml_X5_113 : Cond.methodLink RX5 113 yX5_wrongIn ∈ zT := zt3 (k := 93) (by decide +kernel) rfl
theorem im_X5_wrongIn : Cond.instanceMethod yX5_wrongIn ∈ zT := zt3 (k := 95) (by decide +kernel) rfl
theorem cd_X5_wrongIn : Cond.code yX5_wrongIn cX5_wrongIn 8 (some .int) ∈ zT := zt3 (k := 96) (by decide +kernel) rfl
theorem kl_X5_111 : Cond.constantLong RX5 111 (3) ∈ zT := zt3 (k := 97) (by decide +kernel) rfl
theorem ml_X5_117 : Cond.methodLink RX5 117 yX5_wrong ∈ zT := zt3 (k := 98) (by decide +kernel) rfl
theorem im_X5_wrong : Cond.instanceMethod yX5_wrong ∈ zT := zt3 (k := 100) (by decide +kernel) rfl
theorem cd_X5_wrong : Cond.code yX5_wrong cX5_wrong 3 (some .int) ∈ zT := zt3 (k := 101) (by decide +kernel) rfl
theorem ml_X5_125 : Cond.methodLink RX5 125 yX5_checkList ∈ zT := zt3 (k := 102) (by decide +kernel) rfl
theorem im_X5_checkList : Cond.instanceMethod yX5_checkList ∈ zT := zt3 (k := 104) (by decide +kernel) rfl
theorem cd_X5_checkList : Cond.code yX5_checkList cX5_checkList 6 (some .int) ∈ zT := zt3 (k := 105) (by decide +kernel) rfl
theorem ml_L_68 : Cond.methodLink RL 68 yX5_where ∈ zT := zt3 (k := 106) (by decide +kernel) rfl
theorem im_X5_where : Cond.instanceMethod yX5_where ∈ zT := zt3 (k := 107) (by decide +kernel) rfl
theorem se_X5_where : Cond.selects RX5 yX5_where yX5_where ∈ zT := zt3 (k := 108) (by decide +kernel) rfl
theorem cd_X5_where : Cond.code yX5_where cX5_where 1 (some .int) ∈ zT := zt3 (k := 109) (by decide +kernel) rfl
theorem ml_L_77 : Cond.methodLink RL 77 yX5_listed ∈ zT := zt3 (k := 110) (by decide +kernel) rfl
theorem im_X5_listed : Cond.instanceMethod yX5_listed ∈ zT := zt3 (k := 111) (by decide +kernel) rfl
theorem se_X5_listed : Cond.selects RX5 yX5_listed yX5_listed ∈ zT := zt3 (k := 112) (by decide +kernel) rfl
theorem cd_X5_listed : Cond.code yX5_listed cX5_listed 5 (some .int) ∈ zT := zt3 (k := 113) (by decide +kernel) rfl
theorem kl_X5_128 : Cond.constantLong RX5 128 (71) ∈ zT := zt3 (k := 114) (by decide +kernel) rfl
theorem ml_L_81 : Cond.methodLink RL 81 yX5_bits ∈ zT := zt3 (k := 115) (by decide +kernel) rfl
theorem im_X5_bits : Cond.instanceMethod yX5_bits ∈ zT := zt3 (k := 116) (by decide +kernel) rfl
theorem se_X5_bits : Cond.selects RX5 yX5_bits yX5_bits ∈ zT := zt3 (k := 117) (by decide +kernel) rfl
theorem cd_X5_bits : Cond.code yX5_bits cX5_bits 4 (some .int) ∈ zT := zt3 (k := 118) (by decide +kernel) rfl
theorem kl_X5_130 : Cond.constantLong RX5 130 (9) ∈ zT := zt3 (k := 119) (by decide +kernel) rfl
theorem ml_X5_132 : Cond.methodLink RX5 132 yX5_bitsIn ∈ zT := zt3 (k := 120) (by decide +kernel) rfl
theorem im_X5_bitsIn : Cond.instanceMethod yX5_bitsIn ∈ zT := zt3 (k := 122) (by decide +kernel) rfl
theorem cd_X5_bitsIn : Cond.code yX5_bitsIn cX5_bitsIn 4 (some .int) ∈ zT := zt3 (k := 123) (by decide +kernel) rfl
theorem ml_L_85 : Cond.methodLink RL 85 yX5_block ∈ zT := zt3 (k := 124) (by decide +kernel) rfl
theorem im_X5_block : Cond.instanceMethod yX5_block ∈ zT := zt3 (k := 125) (by decide +kernel) rfl
theorem se_X5_block : Cond.selects RX5 yX5_block yX5_block ∈ zT := zt3 (k := 126) (by decide +kernel) rfl
theorem cd_X5_block : Cond.code yX5_block cX5_block 5 (some .int) ∈ zT := zt3 (k := 127) (by decide +kernel) rfl
theorem ml_L_89 : Cond.methodLink RL 89 yX5_found ∈ zT := zt3 (k := 128) (by decide +kernel) rfl
theorem im_X5_found : Cond.instanceMethod yX5_found ∈ zT := zt3 (k := 129) (by decide +kernel) rfl
theorem se_X5_found : Cond.selects RX5 yX5_found yX5_found ∈ zT := zt3 (k := 130) (by decide +kernel) rfl
theorem cd_X5_found : Cond.code yX5_found cX5_found 3 (some .int) ∈ zT := zt3 (k := 131) (by decide +kernel) rfl
theorem ml_L_93 : Cond.methodLink RL 93 yX5_count ∈ zT := zt3 (k := 132) (by decide +kernel) rfl
theorem im_X5_count : Cond.instanceMethod yX5_count ∈ zT := zt3 (k := 133) (by decide +kernel) rfl
theorem se_X5_count : Cond.selects RX5 yX5_count yX5_count ∈ zT := zt3 (k := 134) (by decide +kernel) rfl
theorem cd_X5_count : Cond.code yX5_count cX5_count 2 (some .int) ∈ zT := zt3 (k := 135) (by decide +kernel) rfl
theorem kl_X5_135 : Cond.constantLong RX5 135 (8) ∈ zT := zt3 (k := 136) (by decide +kernel) rfl
theorem ml_X5_137 : Cond.methodLink RX5 137 yX5_counted ∈ zT := zt3 (k := 137) (by decide +kernel) rfl
theorem im_X5_counted : Cond.instanceMethod yX5_counted ∈ zT := zt3 (k := 139) (by decide +kernel) rfl
theorem cd_X5_counted : Cond.code yX5_counted cX5_counted 5 (some .int) ∈ zT := zt3 (k := 140) (by decide +kernel) rfl
theorem kl_L_43 : Cond.constantLong RL 43 (4294967295) ∈ zT := zt3 (k := 141) (by decide +kernel) rfl
theorem se_X4_begin : Cond.selects RX4 yX4_begin yX4_begin ∈ zT := zt0 (k := 0) (by decide +kernel) rfl
theorem se_X4_makeFree : Cond.selects RX4 yX4_makeFree yX4_makeFree ∈ zT := zt0 (k := 1) (by decide +kernel) rfl
theorem se_X2_layFirst : Cond.selects RX2 yX2_layFirst yX2_layFirst ∈ zT := zt0 (k := 2) (by decide +kernel) rfl
theorem se_X4_refuse : Cond.selects RX4 yX4_refuse yX4_refuse ∈ zT := zt0 (k := 3) (by decide +kernel) rfl
theorem se_X4_take : Cond.selects RX4 yX4_take yX4_take ∈ zT := zt0 (k := 4) (by decide +kernel) rfl
theorem se_X4_cutTo : Cond.selects RX4 yX4_cutTo yX4_cutTo ∈ zT := zt0 (k := 5) (by decide +kernel) rfl
theorem se_X4_release : Cond.selects RX4 yX4_release yX4_release ∈ zT := zt0 (k := 6) (by decide +kernel) rfl
theorem se_X4_splitBefore : Cond.selects RX4 yX4_splitBefore yX4_splitBefore ∈ zT := zt0 (k := 7) (by decide +kernel) rfl
theorem se_X4_refusalOf : Cond.selects RX4 yX4_refusalOf yX4_refusalOf ∈ zT := zt0 (k := 8) (by decide +kernel) rfl
theorem se_X4_isUsedPlace : Cond.selects RX4 yX4_isUsedPlace yX4_isUsedPlace ∈ zT := zt0 (k := 9) (by decide +kernel) rfl
theorem se_X4_bodyWithBehind : Cond.selects RX4 yX4_bodyWithBehind yX4_bodyWithBehind ∈ zT := zt0 (k := 10) (by decide +kernel) rfl
theorem se_X4_joinBehind : Cond.selects RX4 yX4_joinBehind yX4_joinBehind ∈ zT := zt0 (k := 11) (by decide +kernel) rfl
theorem se_X4_copyBody : Cond.selects RX4 yX4_copyBody yX4_copyBody ∈ zT := zt0 (k := 12) (by decide +kernel) rfl
theorem se_X4_lastHeader : Cond.selects RX4 yX4_lastHeader yX4_lastHeader ∈ zT := zt0 (k := 13) (by decide +kernel) rfl
theorem se_X0_readBlocks : Cond.selects RX0 yX0_readBlocks yX0_readBlocks ∈ zT := zt0 (k := 14) (by decide +kernel) rfl
theorem se_X0_wrongOfBlock : Cond.selects RX0 yX0_wrongOfBlock yX0_wrongOfBlock ∈ zT := zt0 (k := 15) (by decide +kernel) rfl
theorem se_X0_tell : Cond.selects RX0 yX0_tell yX0_tell ∈ zT := zt0 (k := 16) (by decide +kernel) rfl
theorem se_X0_mark : Cond.selects RX0 yX0_mark yX0_mark ∈ zT := zt0 (k := 17) (by decide +kernel) rfl
theorem se_X0_readList : Cond.selects RX0 yX0_readList yX0_readList ∈ zT := zt0 (k := 18) (by decide +kernel) rfl
theorem se_X0_isLinked : Cond.selects RX0 yX0_isLinked yX0_isLinked ∈ zT := zt0 (k := 19) (by decide +kernel) rfl
theorem se_X0_markOf : Cond.selects RX0 yX0_markOf yX0_markOf ∈ zT := zt0 (k := 20) (by decide +kernel) rfl
theorem se_X0_seekLost : Cond.selects RX0 yX0_seekLost yX0_seekLost ∈ zT := zt0 (k := 21) (by decide +kernel) rfl
theorem se_X4_headerOfBlock : Cond.selects RX4 yX4_headerOfBlock yX4_headerOfBlock ∈ zT := zt0 (k := 22) (by decide +kernel) rfl
theorem se_X4_wordsOf : Cond.selects RX4 yX4_wordsOf yX4_wordsOf ∈ zT := zt0 (k := 23) (by decide +kernel) rfl
theorem se_X4_blocksOf : Cond.selects RX4 yX4_blocksOf yX4_blocksOf ∈ zT := zt0 (k := 24) (by decide +kernel) rfl
theorem se_X4_mostFree : Cond.selects RX4 yX4_mostFree yX4_mostFree ∈ zT := zt0 (k := 25) (by decide +kernel) rfl
theorem se_X5_lay : Cond.selects RX5 yX5_lay yX5_lay ∈ zT := zt0 (k := 26) (by decide +kernel) rfl
theorem se_X5_lend : Cond.selects RX5 yX5_lend yX5_lend ∈ zT := zt0 (k := 27) (by decide +kernel) rfl
theorem se_X5_behind : Cond.selects RX5 yX5_behind yX5_behind ∈ zT := zt0 (k := 28) (by decide +kernel) rfl
theorem se_X5_words : Cond.selects RX5 yX5_words yX5_words ∈ zT := zt0 (k := 29) (by decide +kernel) rfl
theorem se_X5_tell : Cond.selects RX5 yX5_tell yX5_tell ∈ zT := zt0 (k := 30) (by decide +kernel) rfl
theorem se_X5_lookFor : Cond.selects RX5 yX5_lookFor yX5_lookFor ∈ zT := zt0 (k := 31) (by decide +kernel) rfl
theorem se_X5_leave : Cond.selects RX5 yX5_leave yX5_leave ∈ zT := zt0 (k := 32) (by decide +kernel) rfl
theorem se_X5_take : Cond.selects RX5 yX5_take yX5_take ∈ zT := zt0 (k := 33) (by decide +kernel) rfl
theorem se_X5_isBad : Cond.selects RX5 yX5_isBad yX5_isBad ∈ zT := zt0 (k := 34) (by decide +kernel) rfl
theorem se_X5_isFree : Cond.selects RX5 yX5_isFree yX5_isFree ∈ zT := zt0 (k := 35) (by decide +kernel) rfl
theorem se_X5_release : Cond.selects RX5 yX5_release yX5_release ∈ zT := zt0 (k := 36) (by decide +kernel) rfl
theorem se_X5_moved : Cond.selects RX5 yX5_moved yX5_moved ∈ zT := zt0 (k := 37) (by decide +kernel) rfl
theorem se_X5_checkBlocks : Cond.selects RX5 yX5_checkBlocks yX5_checkBlocks ∈ zT := zt0 (k := 38) (by decide +kernel) rfl
theorem se_X5_wrongIn : Cond.selects RX5 yX5_wrongIn yX5_wrongIn ∈ zT := zt0 (k := 39) (by decide +kernel) rfl
theorem se_X5_wrong : Cond.selects RX5 yX5_wrong yX5_wrong ∈ zT := zt0 (k := 40) (by decide +kernel) rfl
theorem se_X5_checkList : Cond.selects RX5 yX5_checkList yX5_checkList ∈ zT := zt0 (k := 41) (by decide +kernel) rfl
theorem se_X5_bitsIn : Cond.selects RX5 yX5_bitsIn yX5_bitsIn ∈ zT := zt0 (k := 42) (by decide +kernel) rfl
theorem se_X5_counted : Cond.selects RX5 yX5_counted yX5_counted ∈ zT := zt0 (k := 43) (by decide +kernel) rfl
theorem us_X0 : ∀ w ∈ u_ws RX0 TX0 4, w ∈ zT := by decide +kernel
theorem us_X2 : ∀ w ∈ u_ws RX2 TX2 3, w ∈ zT := by decide +kernel
theorem us_X3 : ∀ w ∈ u_ws RX3 TX3 2, w ∈ zT := by decide +kernel
theorem us_X4 : ∀ w ∈ u_ws RX4 TX4 5, w ∈ zT := by decide +kernel
theorem us_X5 : ∀ w ∈ u_ws RX5 TX5 9, w ∈ zT := by decide +kernel
