/-! THE METHODS BY NAME -/
abbrev yC_init : Nat := 0
abbrev yA_init : Nat := 1
abbrev yT_init : Nat := 2
abbrev yC_polynomials : Nat := 3
abbrev yP_init : Nat := 4
abbrev yT_begin : Nat := 5
abbrev yK_init : Nat := 6
abbrev yF_init : Nat := 7
abbrev yR_init : Nat := 8
abbrev yV_init : Nat := 9
abbrev yX_init : Nat := 10
abbrev yS_init : Nat := 11
abbrev yN_init : Nat := 12
abbrev yG_init : Nat := 13
abbrev yT_tellTo : Nat := 14
abbrev yF_tell : Nat := 15
abbrev yF_leastRound : Nat := 16
abbrev yF_fillPowers : Nat := 17
abbrev yF_longProduct : Nat := 18
abbrev yF_product : Nat := 19
abbrev yC_feed : Nat := 20
abbrev yA_putNumber : Nat := 21
abbrev yC_end : Nat := 22
abbrev yC_script : Nat := 23
abbrev yR_begin : Nat := 24
abbrev yA_byteAt : Nat := 25
abbrev yR_scan : Nat := 26
abbrev yR_signAt : Nat := 27
abbrev yR_isLetter : Nat := 28
abbrev yR_isDigit : Nat := 29
abbrev yR_scanRun : Nat := 30
abbrev yR_withLetter : Nat := 31
abbrev yR_isAtHead : Nat := 32
abbrev yR_isHead : Nat := 33
abbrev yR_keyword : Nat := 34
abbrev yR_headLine : Nat := 35
abbrev yR_isHeadNumber : Nat := 36
abbrev yR_fieldNumbers : Nat := 37
abbrev yR_isNumber : Nat := 38
abbrev yR_refuse : Nat := 39
abbrev yR_isUndivided : Nat := 40
abbrev yR_bitRest : Nat := 41
abbrev yR_endLine : Nat := 42
abbrev yR_pass : Nat := 43
abbrev yR_goesOn : Nat := 44
abbrev yR_nameLine : Nat := 45
abbrev yR_nameOf : Nat := 46
abbrev yR_sum : Nat := 47
abbrev yR_level : Nat := 48
abbrev yP_clear : Nat := 49
abbrev yR_term : Nat := 50
abbrev yR_power : Nat := 51
abbrev yR_atom : Nat := 52
abbrev yR_bracket : Nat := 53
abbrev yP_copy : Nat := 54
abbrev yR_wordAtom : Nat := 55
abbrev yR_what : Nat := 56
abbrev yR_quotientOrRest : Nat := 57
abbrev yK_divide : Nat := 58
abbrev yP_top : Nat := 59
abbrev yP_get : Nat := 60
abbrev yF_inverse : Nat := 61
abbrev yK_quotientNumber : Nat := 62
abbrev yF_turn : Nat := 63
abbrev yF_turnBack : Nat := 64
abbrev yP_put : Nat := 65
abbrev yK_join : Nat := 66
abbrev yF_addTimes : Nat := 67
abbrev yF_passLetter : Nat := 68
abbrev yP_add : Nat := 69
abbrev yR_partOrMultiple : Nat := 70
abbrev yK_compare : Nat := 71
abbrev yP_constant : Nat := 72
abbrev yP_isZero : Nat := 73
abbrev yK_stepOn : Nat := 74
abbrev yP_swap : Nat := 75
abbrev yK_makeMultiple : Nat := 76
abbrev yK_monicNumber : Nat := 77
abbrev yK_scale : Nat := 78
abbrev yP_letter : Nat := 79
abbrev yT_named : Nat := 80
abbrev yK_raise : Nat := 81
abbrev yK_multiply : Nat := 82
abbrev yT_putName : Nat := 83
abbrev yT_copy : Nat := 84
abbrev yC_fault : Nat := 85
abbrev yC_times : Nat := 86
abbrev yF_has : Nat := 87
abbrev yC_turned : Nat := 88
abbrev yC_slope : Nat := 89
abbrev yF_slopeOf : Nat := 90
abbrev yC_makes : Nat := 91
abbrev yC_divides : Nat := 92
abbrev yC_isSide : Nat := 93
abbrev yC_common : Nat := 94
abbrev yC_multiple : Nat := 95
abbrev yC_resultDegree : Nat := 96
abbrev yC_keep : Nat := 97
abbrev yF_hasAll : Nat := 98
abbrev yT_remember : Nat := 99
abbrev yC_undo : Nat := 100
abbrev yT_undoLatest : Nat := 101
abbrev yC_value : Nat := 102
abbrev yK_appliedTo : Nat := 103
abbrev yF_step : Nat := 104
abbrev yC_applied : Nat := 105
abbrev yC_roots : Nat := 106
abbrev yC_kin : Nat := 107
abbrev yF_kinOf : Nat := 108
abbrev yC_classes : Nat := 109
abbrev yC_seeKin : Nat := 110
abbrev yC_least : Nat := 111
abbrev yK_takeIn : Nat := 112
abbrev yC_divisors : Nat := 113
abbrev yF_isFew : Nat := 114
abbrev yX_divisor : Nat := 115
abbrev yX_putMonic : Nat := 116
abbrev yK_dividesFromRight : Nat := 117
abbrev yK_leave : Nat := 118
abbrev yC_factorings : Nat := 119
abbrev yC_isFactored : Nat := 120
abbrev yX_countFactorings : Nat := 121
abbrev yX_begin : Nat := 122
abbrev yK_makeMonic : Nat := 123
abbrev yX_search : Nat := 124
abbrev yX_isDone : Nat := 125
abbrev yX_isUndivided : Nat := 126
abbrev yX_choose : Nat := 127
abbrev yX_numberOf : Nat := 128
abbrev yC_factor : Nat := 129
abbrev yX_factorOf : Nat := 130
abbrev yC_like : Nat := 131
abbrev yC_areLike : Nat := 132
abbrev yS_begin : Nat := 133
abbrev yS_addRow : Nat := 134
abbrev yS_packed : Nat := 135
abbrev yS_sums : Nat := 136
abbrev yS_step : Nat := 137
abbrev yI_bitCount : Nat := 138
abbrev yS_code : Nat := 139
abbrev yS_putPolynomial : Nat := 140
abbrev yS_unpacked : Nat := 141
abbrev yC_norm : Nat := 142
abbrev yN_take : Nat := 143
abbrev yN_writeInY : Nat := 144
abbrev yN_putCell : Nat := 145
abbrev yN_addProduct : Nat := 146
abbrev yC_rank : Nat := 147
abbrev yC_isWord : Nat := 148
abbrev yS_rankOf : Nat := 149
abbrev yS_clearPivots : Nat := 150
abbrev yS_addsRank : Nat := 151
abbrev yC_sumRank : Nat := 152
abbrev yC_rankOfBlocks : Nat := 153
abbrev yC_weight : Nat := 154
abbrev yS_addTimes : Nat := 155
abbrev yS_leastWeight : Nat := 156
abbrev yC_points : Nat := 157
abbrev yT_putPoints : Nat := 158
abbrev yC_word : Nat := 159
abbrev yT_point : Nat := 160
abbrev yC_distance : Nat := 161
abbrev yC_isDimension : Nat := 162
abbrev yC_spanPoints : Nat := 163
abbrev yS_leastRank : Nat := 164
abbrev yS_rankOfPacked : Nat := 165
abbrev yC_mend : Nat := 166
abbrev yS_onlyNear : Nat := 167
abbrev yC_register : Nat := 168
abbrev yG_find : Nat := 169
abbrev yG_fill : Nat := 170
abbrev yG_isSolved : Nat := 171
abbrev yG_rowWith : Nat := 172
abbrev yG_swapRows : Nat := 173
abbrev yG_clearColumn : Nat := 174
abbrev yG_putTaps : Nat := 175
abbrev yC_tap : Nat := 176
abbrev yG_tapAt : Nat := 177
abbrev yC_image : Nat := 178
abbrev yC_restore : Nat := 179
abbrev yC_count : Nat := 180
abbrev yC_degree : Nat := 181
abbrev yC_at : Nat := 182
abbrev yC_result : Nat := 183
abbrev yM_init : Nat := 184
abbrev yM_thrown : Nat := 185
abbrev yM_feed : Nat := 186
abbrev yM_come : Nat := 187
abbrev yM_end : Nat := 188
abbrev yM_times : Nat := 189
abbrev yM_begin : Nat := 190
abbrev yM_use : Nat := 191
abbrev yM_isNumber : Nat := 192
abbrev yM_mul : Nat := 193
abbrev yM_turned : Nat := 194
abbrev yM_isIn : Nat := 195
abbrev yM_turn : Nat := 196
abbrev yM_slope : Nat := 197
abbrev yM_slopeOf : Nat := 198
abbrev yM_script : Nat := 199
abbrev yM_take0 : Nat := 200
abbrev yM_go : Nat := 201
abbrev yM_isLetter : Nat := 202
abbrev yM_isDigit : Nat := 203
abbrev yM_isMark : Nat := 204
abbrev yM_byteAt : Nat := 205
abbrev yM_readLine : Nat := 206
abbrev yM_wordAtHand : Nat := 207
abbrev yM_wordOf : Nat := 208
abbrev yM_spelt : Nat := 209
abbrev yM_readField : Nat := 210
abbrev yM_bad : Nat := 211
abbrev yM_isPrime : Nat := 212
abbrev yM_readLaw : Nat := 213
abbrev yM_readNamed : Nat := 214
abbrev yM_findName : Nat := 215
abbrev yM_isSign : Nat := 216
abbrev yM_readExpr : Nat := 217
abbrev yM_readTerm : Nat := 218
abbrev yM_readPower : Nat := 219
abbrev yM_readAtom : Nat := 220
abbrev yM_clear : Nat := 221
abbrev yM_push : Nat := 222
abbrev yM_copy : Nat := 223
abbrev yM_readBracket : Nat := 224
abbrev yM_work : Nat := 225
abbrev yM_pop : Nat := 226
abbrev yM_degreeOf : Nat := 227
abbrev yM_badAt : Nat := 228
abbrev yM_divide : Nat := 229
abbrev yM_shift : Nat := 230
abbrev yM_inverse : Nat := 231
abbrev yM_scaleRight : Nat := 232
abbrev yM_product : Nat := 233
abbrev yM_commonOf : Nat := 234
abbrev yM_step : Nat := 235
abbrev yM_plus : Nat := 236
abbrev yM_makeMonic : Nat := 237
abbrev yM_scale : Nat := 238
abbrev yM_multipleOf : Nat := 239
abbrev yM_fault : Nat := 240
abbrev yM_degree : Nat := 241
abbrev yM_isName : Nat := 242
abbrev yM_refuse : Nat := 243
abbrev yM_take2 : Nat := 244
abbrev yM_at : Nat := 245
abbrev yM_makes : Nat := 246
abbrev yM_takeBoth : Nat := 247
abbrev yM_tell : Nat := 248
abbrev yM_divides : Nat := 249
abbrev yM_common : Nat := 250
abbrev yM_multiple : Nat := 251
abbrev yM_result : Nat := 252
abbrev yM_resultDegree : Nat := 253
abbrev yM_keep : Nat := 254
abbrev yM_undo : Nat := 255
abbrev yM_value : Nat := 256
abbrev yM_valueAt : Nat := 257
abbrev yM_applied : Nat := 258
abbrev yM_appliedTo : Nat := 259
abbrev yM_roots : Nat := 260
abbrev yM_kin : Nat := 261
abbrev yM_kinOf : Nat := 262
abbrev yM_classes : Nat := 263
abbrev yM_least : Nat := 264
abbrev yM_takeNumbers : Nat := 265
abbrev yM_divisors : Nat := 266
abbrev yM_manyOf : Nat := 267
abbrev yM_layNumber : Nat := 268
abbrev yM_dividesRight : Nat := 269
abbrev yM_numberOf : Nat := 270
abbrev yM_factorings : Nat := 271
abbrev yM_layFactored : Nat := 272
abbrev yM_factorAt : Nat := 273
abbrev yM_isWhole : Nat := 274
abbrev yM_factor : Nat := 275
abbrev yM_like : Nat := 276
abbrev yM_leavesNothing : Nat := 277
abbrev yM_norm : Nat := 278
abbrev yM_round : Nat := 279
abbrev yM_layInY : Nat := 280
abbrev yM_plainProduct : Nat := 281
abbrev yM_rank : Nat := 282
abbrev yM_rankOf : Nat := 283
abbrev yM_sumRank : Nat := 284
abbrev yM_weight : Nat := 285
abbrev yM_points : Nat := 286
abbrev yM_word : Nat := 287
abbrev yM_distance : Nat := 288
abbrev yM_farOf : Nat := 289
abbrev yM_mend : Nat := 290
abbrev yM_register : Nat := 291
abbrev yM_registers : Nat := 292
abbrev yM_tap : Nat := 293
abbrev yM_image : Nat := 294
abbrev yM_restore : Nat := 295
abbrev yM_count : Nat := 296
abbrev yL_law : Nat := 297
/-! the straight pieces of code -/
theorem bA_init_0 (d : Nat) (ls : List (Option jv)) (st : List jv) (h : jh) : Vl d 1 0 ls st h = jcc d 1 (jex 1 [(0, .aload_n 0), (1, .invokespecial 3), (4, .aload_n 0), (5, .sipush 540), (8, .newarray .int), (10, .putfield 9), (13, .aload_n 0), (14, .iconst 0), (15, .putfield 15), (18, .return_)] 0 ls st h) := Vl_ex _ (by decide +kernel) d 0 ls st h
theorem bT_init_0 (d : Nat) (ls : List (Option jv)) (st : List jv) (h : jh) : Vl d 2 0 ls st h = jcc d 2 (jex 2 [(0, .aload_n 0), (1, .invokespecial 3), (4, .aload_n 0), (5, .bipush 12), (7, .invokestatic 9)] 0 ls st h) := Vl_ex _ (by decide +kernel) d 0 ls st h
theorem bT_init_10 (d : Nat) (ls : List (Option jv)) (st : List jv) (h : jh) : Vl d 2 10 ls st h = jcc d 2 (jex 2 [(10, .putfield 13), (13, .aload_n 0), (14, .bipush 8), (16, .newarray .int), (18, .putfield 19), (21, .aload_n 0), (22, .bipush 16), (24, .invokestatic 9)] 10 ls st h) := Vl_ex _ (by decide +kernel) d 10 ls st h
theorem bT_init_27 (d : Nat) (ls : List (Option jv)) (st : List jv) (h : jh) : Vl d 2 27 ls st h = jcc d 2 (jex 2 [(27, .putfield 23), (30, .aload_n 0), (31, .bipush 16), (33, .newarray .int), (35, .putfield 26), (38, .aload_n 0), (39, .invokevirtual 29)] 27 ls st h) := Vl_ex _ (by decide +kernel) d 27 ls st h
theorem bT_init_42 (d : Nat) (ls : List (Option jv)) (st : List jv) (h : jh) : Vl d 2 42 ls st h = jcc d 2 (jex 2 [(42, .return_)] 42 ls st h) := Vl_ex _ (by decide +kernel) d 42 ls st h
theorem bP_init_0 (d : Nat) (ls : List (Option jv)) (st : List jv) (h : jh) : Vl d 4 0 ls st h = jcc d 4 (jex 4 [(0, .aload_n 0), (1, .invokespecial 3), (4, .aload_n 0), (5, .bipush 17), (7, .newarray .int), (9, .putfield 9), (12, .return_)] 0 ls st h) := Vl_ex _ (by decide +kernel) d 0 ls st h
theorem bT_begin_0 (d : Nat) (ls : List (Option jv)) (st : List jv) (h : jh) : Vl d 5 0 ls st h = jcc d 5 (jex 5 [(0, .aload_n 0), (1, .iconst 1), (2, .putfield 32), (5, .aload_n 0), (6, .iconst 3), (7, .putfield 36), (10, .aload_n 0), (11, .iconst 0), (12, .putfield 39), (15, .aload_n 0), (16, .iconst 0), (17, .putfield 42), (20, .aload_n 0), (21, .iconst 0), (22, .putfield 45), (25, .aload_n 0), (26, .iconst 0), (27, .putfield 48), (30, .aload_n 0), (31, .iconst 0), (32, .putfield 51), (35, .return_)] 0 ls st h) := Vl_ex _ (by decide +kernel) d 0 ls st h
theorem bK_init_0 (d : Nat) (ls : List (Option jv)) (st : List jv) (h : jh) : Vl d 6 0 ls st h = jcc d 6 (jex 6 [(0, .aload_n 0), (1, .invokespecial 3), (4, .aload_n 0), (5, .new 9), (8, .dup), (9, .invokespecial 11)] 0 ls st h) := Vl_ex _ (by decide +kernel) d 0 ls st h
theorem bK_init_12 (d : Nat) (ls : List (Option jv)) (st : List jv) (h : jh) : Vl d 6 12 ls st h = jcc d 6 (jex 6 [(12, .putfield 12), (15, .aload_n 0), (16, .new 18), (19, .dup), (20, .invokespecial 20)] 12 ls st h) := Vl_ex _ (by decide +kernel) d 12 ls st h
theorem bK_init_23 (d : Nat) (ls : List (Option jv)) (st : List jv) (h : jh) : Vl d 6 23 ls st h = jcc d 6 (jex 6 [(23, .putfield 21), (26, .aload_n 0), (27, .new 18), (30, .dup), (31, .invokespecial 20)] 23 ls st h) := Vl_ex _ (by decide +kernel) d 23 ls st h
theorem bK_init_34 (d : Nat) (ls : List (Option jv)) (st : List jv) (h : jh) : Vl d 6 34 ls st h = jcc d 6 (jex 6 [(34, .putfield 25), (37, .aload_n 0), (38, .new 18), (41, .dup), (42, .invokespecial 20)] 34 ls st h) := Vl_ex _ (by decide +kernel) d 34 ls st h
theorem bK_init_45 (d : Nat) (ls : List (Option jv)) (st : List jv) (h : jh) : Vl d 6 45 ls st h = jcc d 6 (jex 6 [(45, .putfield 28), (48, .aload_n 0), (49, .new 18), (52, .dup), (53, .invokespecial 20)] 45 ls st h) := Vl_ex _ (by decide +kernel) d 45 ls st h
theorem bK_init_56 (d : Nat) (ls : List (Option jv)) (st : List jv) (h : jh) : Vl d 6 56 ls st h = jcc d 6 (jex 6 [(56, .putfield 31), (59, .aload_n 0), (60, .iconst 0), (61, .putfield 34), (64, .aload_n 0), (65, .new 18), (68, .dup), (69, .invokespecial 20)] 56 ls st h) := Vl_ex _ (by decide +kernel) d 56 ls st h
theorem bK_init_72 (d : Nat) (ls : List (Option jv)) (st : List jv) (h : jh) : Vl d 6 72 ls st h = jcc d 6 (jex 6 [(72, .putfield 38), (75, .aload_n 0), (76, .new 18), (79, .dup), (80, .invokespecial 20)] 72 ls st h) := Vl_ex _ (by decide +kernel) d 72 ls st h
theorem bK_init_83 (d : Nat) (ls : List (Option jv)) (st : List jv) (h : jh) : Vl d 6 83 ls st h = jcc d 6 (jex 6 [(83, .putfield 41), (86, .aload_n 0), (87, .new 18), (90, .dup), (91, .invokespecial 20)] 83 ls st h) := Vl_ex _ (by decide +kernel) d 83 ls st h
theorem bK_init_94 (d : Nat) (ls : List (Option jv)) (st : List jv) (h : jh) : Vl d 6 94 ls st h = jcc d 6 (jex 6 [(94, .putfield 44), (97, .aload_n 0), (98, .new 18), (101, .dup), (102, .invokespecial 20)] 94 ls st h) := Vl_ex _ (by decide +kernel) d 94 ls st h
theorem bK_init_105 (d : Nat) (ls : List (Option jv)) (st : List jv) (h : jh) : Vl d 6 105 ls st h = jcc d 6 (jex 6 [(105, .putfield 47), (108, .aload_n 0), (109, .new 18), (112, .dup), (113, .invokespecial 20)] 105 ls st h) := Vl_ex _ (by decide +kernel) d 105 ls st h
theorem bK_init_116 (d : Nat) (ls : List (Option jv)) (st : List jv) (h : jh) : Vl d 6 116 ls st h = jcc d 6 (jex 6 [(116, .putfield 50), (119, .aload_n 0), (120, .new 18), (123, .dup), (124, .invokespecial 20)] 116 ls st h) := Vl_ex _ (by decide +kernel) d 116 ls st h
theorem bK_init_127 (d : Nat) (ls : List (Option jv)) (st : List jv) (h : jh) : Vl d 6 127 ls st h = jcc d 6 (jex 6 [(127, .putfield 53), (130, .aload_n 0), (131, .new 18), (134, .dup), (135, .invokespecial 20)] 127 ls st h) := Vl_ex _ (by decide +kernel) d 127 ls st h
theorem bK_init_138 (d : Nat) (ls : List (Option jv)) (st : List jv) (h : jh) : Vl d 6 138 ls st h = jcc d 6 (jex 6 [(138, .putfield 56), (141, .aload_n 0), (142, .new 18), (145, .dup), (146, .invokespecial 20)] 138 ls st h) := Vl_ex _ (by decide +kernel) d 138 ls st h
theorem bK_init_149 (d : Nat) (ls : List (Option jv)) (st : List jv) (h : jh) : Vl d 6 149 ls st h = jcc d 6 (jex 6 [(149, .putfield 59), (152, .aload_n 0), (153, .new 18), (156, .dup), (157, .invokespecial 20)] 149 ls st h) := Vl_ex _ (by decide +kernel) d 149 ls st h
theorem bK_init_160 (d : Nat) (ls : List (Option jv)) (st : List jv) (h : jh) : Vl d 6 160 ls st h = jcc d 6 (jex 6 [(160, .putfield 62), (163, .aload_n 0), (164, .new 18), (167, .dup), (168, .invokespecial 20)] 160 ls st h) := Vl_ex _ (by decide +kernel) d 160 ls st h
theorem bK_init_171 (d : Nat) (ls : List (Option jv)) (st : List jv) (h : jh) : Vl d 6 171 ls st h = jcc d 6 (jex 6 [(171, .putfield 65), (174, .aload_n 0), (175, .new 18), (178, .dup), (179, .invokespecial 20)] 171 ls st h) := Vl_ex _ (by decide +kernel) d 171 ls st h
theorem bK_init_182 (d : Nat) (ls : List (Option jv)) (st : List jv) (h : jh) : Vl d 6 182 ls st h = jcc d 6 (jex 6 [(182, .putfield 68), (185, .return_)] 182 ls st h) := Vl_ex _ (by decide +kernel) d 182 ls st h
theorem bF_init_0 (d : Nat) (ls : List (Option jv)) (st : List jv) (h : jh) : Vl d 7 0 ls st h = jcc d 7 (jex 7 [(0, .aload_n 0), (1, .invokespecial 3), (4, .aload_n 0), (5, .iconst 1), (6, .putfield 9), (9, .aload_n 0), (10, .iconst 3), (11, .putfield 15), (14, .aload_n 0), (15, .iconst 0), (16, .putfield 18), (19, .aload_n 0), (20, .iconst 0), (21, .putfield 21), (24, .aload_n 0), (25, .iconst 2), (26, .putfield 24), (29, .aload_n 0), (30, .iconst 1), (31, .putfield 27), (34, .aload_n 0), (35, .sipush 512), (38, .newarray .int), (40, .putfield 30), (43, .aload_n 0), (44, .sipush 256), (47, .newarray .int), (49, .putfield 34), (52, .aload_n 0), (53, .sipush 256), (56, .newarray .int), (58, .putfield 37), (61, .aload_n 0), (62, .sipush 256), (65, .newarray .int), (67, .putfield 40), (70, .return_)] 0 ls st h) := Vl_ex _ (by decide +kernel) d 0 ls st h
theorem bV_init_0 (d : Nat) (ls : List (Option jv)) (st : List jv) (h : jh) : Vl d 9 0 ls st h = jcc d 9 (jex 9 [(0, .aload_n 0), (1, .invokespecial 1), (4, .aload_n 0), (5, .new 7), (8, .dup), (9, .invokespecial 9)] 0 ls st h) := Vl_ex _ (by decide +kernel) d 0 ls st h
theorem bV_init_12 (d : Nat) (ls : List (Option jv)) (st : List jv) (h : jh) : Vl d 9 12 ls st h = jcc d 9 (jex 9 [(12, .putfield 10), (15, .aload_n 0), (16, .new 7), (19, .dup), (20, .invokespecial 9)] 12 ls st h) := Vl_ex _ (by decide +kernel) d 12 ls st h
theorem bV_init_23 (d : Nat) (ls : List (Option jv)) (st : List jv) (h : jh) : Vl d 9 23 ls st h = jcc d 9 (jex 9 [(23, .putfield 16), (26, .aload_n 0), (27, .new 7), (30, .dup), (31, .invokespecial 9)] 23 ls st h) := Vl_ex _ (by decide +kernel) d 23 ls st h
theorem bV_init_34 (d : Nat) (ls : List (Option jv)) (st : List jv) (h : jh) : Vl d 9 34 ls st h = jcc d 9 (jex 9 [(34, .putfield 19), (37, .aload_n 0), (38, .new 7), (41, .dup), (42, .invokespecial 9)] 34 ls st h) := Vl_ex _ (by decide +kernel) d 34 ls st h
theorem bV_init_45 (d : Nat) (ls : List (Option jv)) (st : List jv) (h : jh) : Vl d 9 45 ls st h = jcc d 9 (jex 9 [(45, .putfield 22), (48, .return_)] 45 ls st h) := Vl_ex _ (by decide +kernel) d 45 ls st h
theorem bT_tellTo_0 (d : Nat) (ls : List (Option jv)) (st : List jv) (h : jh) : Vl d 14 0 ls st h = jcc d 14 (jex 14 [(0, .aload_n 1), (1, .aload_n 0), (2, .getfield 32), (5, .aload_n 0), (6, .getfield 36), (9, .aload_n 0), (10, .getfield 39), (13, .aload_n 0), (14, .getfield 42), (17, .invokevirtual 54)] 0 ls st h) := Vl_ex _ (by decide +kernel) d 0 ls st h
theorem bT_tellTo_20 (d : Nat) (ls : List (Option jv)) (st : List jv) (h : jh) : Vl d 14 20 ls st h = jcc d 14 (jex 14 [(20, .return_)] 20 ls st h) := Vl_ex _ (by decide +kernel) d 20 ls st h
theorem bF_tell_0 (d : Nat) (ls : List (Option jv)) (st : List jv) (h : jh) : Vl d 15 0 ls st h = jcc d 15 (jex 15 [(0, .iload_n 1), (1, .iconst 1), (2, .if_icmp .lt 9)] 0 ls st h) := Vl_ex _ (by decide +kernel) d 0 ls st h
theorem bF_tell_5 (d : Nat) (ls : List (Option jv)) (st : List jv) (h : jh) : Vl d 15 5 ls st h = jcc d 15 (jex 15 [(5, .iload_n 1), (6, .bipush 8), (8, .if_icmp .le 4)] 5 ls st h) := Vl_ex _ (by decide +kernel) d 5 ls st h
theorem bF_tell_11 (d : Nat) (ls : List (Option jv)) (st : List jv) (h : jh) : Vl d 15 11 ls st h = jcc d 15 (jex 15 [(11, .return_)] 11 ls st h) := Vl_ex _ (by decide +kernel) d 11 ls st h
theorem bF_tell_12 (d : Nat) (ls : List (Option jv)) (st : List jv) (h : jh) : Vl d 15 12 ls st h = jcc d 15 (jex 15 [(12, .aload_n 0), (13, .iload_n 1), (14, .putfield 9), (17, .aload_n 0), (18, .iload_n 2), (19, .putfield 15), (22, .aload_n 0), (23, .iload_n 3), (24, .putfield 18), (27, .aload_n 0), (28, .iload 4), (30, .putfield 21), (33, .aload_n 0), (34, .iconst 1), (35, .aload_n 0), (36, .getfield 9), (39, .ishl), (40, .putfield 24), (43, .aload_n 0), (44, .aload_n 0), (45, .invokevirtual 43)] 12 ls st h) := Vl_ex _ (by decide +kernel) d 12 ls st h
theorem bF_tell_48 (d : Nat) (ls : List (Option jv)) (st : List jv) (h : jh) : Vl d 15 48 ls st h = jcc d 15 (jex 15 [(48, .putfield 27), (51, .iconst 0), (52, .istore 5), (54, .iconst 1), (55, .istore 6)] 48 ls st h) := Vl_ex _ (by decide +kernel) d 48 ls st h
theorem bF_tell_57 (d : Nat) (ls : List (Option jv)) (st : List jv) (h : jh) : Vl d 15 57 ls st h = jcc d 15 (jex 15 [(57, .iload 6), (59, .aload_n 0), (60, .getfield 24), (63, .if_icmp .ge 22)] 57 ls st h) := Vl_ex _ (by decide +kernel) d 57 ls st h
theorem bF_tell_66 (d : Nat) (ls : List (Option jv)) (st : List jv) (h : jh) : Vl d 15 66 ls st h = jcc d 15 (jex 15 [(66, .iload 5), (68, .ifCond .ne 17)] 66 ls st h) := Vl_ex _ (by decide +kernel) d 66 ls st h
theorem bF_tell_71 (d : Nat) (ls : List (Option jv)) (st : List jv) (h : jh) : Vl d 15 71 ls st h = jcc d 15 (jex 15 [(71, .aload_n 0), (72, .iload 6), (74, .invokevirtual 47)] 71 ls st h) := Vl_ex _ (by decide +kernel) d 71 ls st h
theorem bF_tell_77 (d : Nat) (ls : List (Option jv)) (st : List jv) (h : jh) : Vl d 15 77 ls st h = jcc d 15 (jex 15 [(77, .istore 5), (79, .iinc 6 1), (82, .goto (-25))] 77 ls st h) := Vl_ex _ (by decide +kernel) d 77 ls st h
theorem bF_tell_85 (d : Nat) (ls : List (Option jv)) (st : List jv) (h : jh) : Vl d 15 85 ls st h = jcc d 15 (jex 15 [(85, .iconst 0), (86, .istore 6)] 85 ls st h) := Vl_ex _ (by decide +kernel) d 85 ls st h
theorem bF_tell_88 (d : Nat) (ls : List (Option jv)) (st : List jv) (h : jh) : Vl d 15 88 ls st h = jcc d 15 (jex 15 [(88, .iload 6), (90, .aload_n 0), (91, .getfield 24), (94, .if_icmp .ge 78)] 88 ls st h) := Vl_ex _ (by decide +kernel) d 88 ls st h
theorem bF_tell_97 (d : Nat) (ls : List (Option jv)) (st : List jv) (h : jh) : Vl d 15 97 ls st h = jcc d 15 (jex 15 [(97, .iload 6), (99, .istore 7), (101, .iconst 0), (102, .istore 8)] 97 ls st h) := Vl_ex _ (by decide +kernel) d 97 ls st h
theorem bF_tell_104 (d : Nat) (ls : List (Option jv)) (st : List jv) (h : jh) : Vl d 15 104 ls st h = jcc d 15 (jex 15 [(104, .iload 8), (106, .aload_n 0), (107, .getfield 18), (110, .if_icmp .ge 19)] 104 ls st h) := Vl_ex _ (by decide +kernel) d 104 ls st h
theorem bF_tell_113 (d : Nat) (ls : List (Option jv)) (st : List jv) (h : jh) : Vl d 15 113 ls st h = jcc d 15 (jex 15 [(113, .aload_n 0), (114, .iload 7), (116, .iload 7), (118, .invokevirtual 51)] 113 ls st h) := Vl_ex _ (by decide +kernel) d 113 ls st h
theorem bF_tell_121 (d : Nat) (ls : List (Option jv)) (st : List jv) (h : jh) : Vl d 15 121 ls st h = jcc d 15 (jex 15 [(121, .istore 7), (123, .iinc 8 1), (126, .goto (-22))] 121 ls st h) := Vl_ex _ (by decide +kernel) d 121 ls st h
theorem bF_tell_129 (d : Nat) (ls : List (Option jv)) (st : List jv) (h : jh) : Vl d 15 129 ls st h = jcc d 15 (jex 15 [(129, .aload_n 0), (130, .getfield 37), (133, .iload 6), (135, .sipush 255), (138, .iand), (139, .iload 7), (141, .iastore), (142, .aload_n 0), (143, .getfield 40), (146, .iload 6), (148, .sipush 255), (151, .iand), (152, .aload_n 0), (153, .aload_n 0), (154, .getfield 21), (157, .iload 7), (159, .iload 6), (161, .ixor), (162, .invokevirtual 51)] 129 ls st h) := Vl_ex _ (by decide +kernel) d 129 ls st h
theorem bF_tell_165 (d : Nat) (ls : List (Option jv)) (st : List jv) (h : jh) : Vl d 15 165 ls st h = jcc d 15 (jex 15 [(165, .iastore), (166, .iinc 6 1), (169, .goto (-81))] 165 ls st h) := Vl_ex _ (by decide +kernel) d 165 ls st h
theorem bF_tell_172 (d : Nat) (ls : List (Option jv)) (st : List jv) (h : jh) : Vl d 15 172 ls st h = jcc d 15 (jex 15 [(172, .return_)] 172 ls st h) := Vl_ex _ (by decide +kernel) d 172 ls st h
theorem bF_leastRound_0 (d : Nat) (ls : List (Option jv)) (st : List jv) (h : jh) : Vl d 16 0 ls st h = jcc d 16 (jex 16 [(0, .iconst 1), (1, .istore_n 1)] 0 ls st h) := Vl_ex _ (by decide +kernel) d 0 ls st h
theorem bF_leastRound_2 (d : Nat) (ls : List (Option jv)) (st : List jv) (h : jh) : Vl d 16 2 ls st h = jcc d 16 (jex 16 [(2, .iload_n 1), (3, .aload_n 0), (4, .getfield 9), (7, .if_icmp .ge 32)] 2 ls st h) := Vl_ex _ (by decide +kernel) d 2 ls st h
theorem bF_leastRound_10 (d : Nat) (ls : List (Option jv)) (st : List jv) (h : jh) : Vl d 16 10 ls st h = jcc d 16 (jex 16 [(10, .aload_n 0), (11, .getfield 9), (14, .ifCond .le 19)] 10 ls st h) := Vl_ex _ (by decide +kernel) d 10 ls st h
theorem bF_leastRound_17 (d : Nat) (ls : List (Option jv)) (st : List jv) (h : jh) : Vl d 16 17 ls st h = jcc d 16 (jex 16 [(17, .iload_n 1), (18, .aload_n 0), (19, .getfield 18), (22, .imul), (23, .aload_n 0), (24, .getfield 9), (27, .irem), (28, .ifCond .ne 5)] 17 ls st h) := Vl_ex _ (by decide +kernel) d 17 ls st h
theorem bF_leastRound_31 (d : Nat) (ls : List (Option jv)) (st : List jv) (h : jh) : Vl d 16 31 ls st h = jcc d 16 (jex 16 [(31, .iload_n 1), (32, .ireturn)] 31 ls st h) := Vl_ex _ (by decide +kernel) d 31 ls st h
theorem bF_leastRound_33 (d : Nat) (ls : List (Option jv)) (st : List jv) (h : jh) : Vl d 16 33 ls st h = jcc d 16 (jex 16 [(33, .iinc 1 1), (36, .goto (-34))] 33 ls st h) := Vl_ex _ (by decide +kernel) d 33 ls st h
theorem bF_leastRound_39 (d : Nat) (ls : List (Option jv)) (st : List jv) (h : jh) : Vl d 16 39 ls st h = jcc d 16 (jex 16 [(39, .aload_n 0), (40, .getfield 9), (43, .ireturn)] 39 ls st h) := Vl_ex _ (by decide +kernel) d 39 ls st h
theorem bF_fillPowers_0 (d : Nat) (ls : List (Option jv)) (st : List jv) (h : jh) : Vl d 17 0 ls st h = jcc d 17 (jex 17 [(0, .iconst 1), (1, .istore_n 2), (2, .iconst 0), (3, .istore_n 3)] 0 ls st h) := Vl_ex _ (by decide +kernel) d 0 ls st h
theorem bF_fillPowers_4 (d : Nat) (ls : List (Option jv)) (st : List jv) (h : jh) : Vl d 17 4 ls st h = jcc d 17 (jex 17 [(4, .iload_n 3), (5, .aload_n 0), (6, .getfield 24), (9, .iconst 1), (10, .isub), (11, .if_icmp .ge 67)] 4 ls st h) := Vl_ex _ (by decide +kernel) d 4 ls st h
theorem bF_fillPowers_14 (d : Nat) (ls : List (Option jv)) (st : List jv) (h : jh) : Vl d 17 14 ls st h = jcc d 17 (jex 17 [(14, .iload_n 3), (15, .ifCond .le 10)] 14 ls st h) := Vl_ex _ (by decide +kernel) d 14 ls st h
theorem bF_fillPowers_18 (d : Nat) (ls : List (Option jv)) (st : List jv) (h : jh) : Vl d 17 18 ls st h = jcc d 17 (jex 17 [(18, .iload_n 2), (19, .iconst 1), (20, .if_icmp .ne 5)] 18 ls st h) := Vl_ex _ (by decide +kernel) d 18 ls st h
theorem bF_fillPowers_23 (d : Nat) (ls : List (Option jv)) (st : List jv) (h : jh) : Vl d 17 23 ls st h = jcc d 17 (jex 17 [(23, .iconst 0), (24, .ireturn)] 23 ls st h) := Vl_ex _ (by decide +kernel) d 23 ls st h
theorem bF_fillPowers_25 (d : Nat) (ls : List (Option jv)) (st : List jv) (h : jh) : Vl d 17 25 ls st h = jcc d 17 (jex 17 [(25, .aload_n 0), (26, .getfield 30), (29, .iload_n 3), (30, .sipush 511), (33, .iand), (34, .iload_n 2), (35, .iastore), (36, .aload_n 0), (37, .getfield 30), (40, .iload_n 3), (41, .aload_n 0), (42, .getfield 24), (45, .iadd), (46, .iconst 1), (47, .isub), (48, .sipush 511), (51, .iand), (52, .iload_n 2), (53, .iastore), (54, .aload_n 0), (55, .getfield 34), (58, .iload_n 2), (59, .sipush 255), (62, .iand), (63, .iload_n 3), (64, .iastore), (65, .aload_n 0), (66, .iload_n 2), (67, .iload_n 1), (68, .invokevirtual 55)] 25 ls st h) := Vl_ex _ (by decide +kernel) d 25 ls st h
theorem bF_fillPowers_71 (d : Nat) (ls : List (Option jv)) (st : List jv) (h : jh) : Vl d 17 71 ls st h = jcc d 17 (jex 17 [(71, .istore_n 2), (72, .iinc 3 1), (75, .goto (-71))] 71 ls st h) := Vl_ex _ (by decide +kernel) d 71 ls st h
theorem bF_fillPowers_78 (d : Nat) (ls : List (Option jv)) (st : List jv) (h : jh) : Vl d 17 78 ls st h = jcc d 17 (jex 17 [(78, .iconst 1), (79, .ireturn)] 78 ls st h) := Vl_ex _ (by decide +kernel) d 78 ls st h
theorem bF_longProduct_0 (d : Nat) (ls : List (Option jv)) (st : List jv) (h : jh) : Vl d 18 0 ls st h = jcc d 18 (jex 18 [(0, .iconst 0), (1, .istore_n 3), (2, .iload_n 1), (3, .istore 4), (5, .iconst 0), (6, .istore 5)] 0 ls st h) := Vl_ex _ (by decide +kernel) d 0 ls st h
theorem bF_longProduct_8 (d : Nat) (ls : List (Option jv)) (st : List jv) (h : jh) : Vl d 18 8 ls st h = jcc d 18 (jex 18 [(8, .iload 5), (10, .aload_n 0), (11, .getfield 9), (14, .if_icmp .ge 52)] 8 ls st h) := Vl_ex _ (by decide +kernel) d 8 ls st h
theorem bF_longProduct_17 (d : Nat) (ls : List (Option jv)) (st : List jv) (h : jh) : Vl d 18 17 ls st h = jcc d 18 (jex 18 [(17, .iload_n 2), (18, .iload 5), (20, .iushr), (21, .iconst 1), (22, .iand), (23, .iconst 1), (24, .if_icmp .ne 8)] 17 ls st h) := Vl_ex _ (by decide +kernel) d 17 ls st h
theorem bF_longProduct_27 (d : Nat) (ls : List (Option jv)) (st : List jv) (h : jh) : Vl d 18 27 ls st h = jcc d 18 (jex 18 [(27, .iload_n 3), (28, .iload 4), (30, .ixor), (31, .istore_n 3)] 27 ls st h) := Vl_ex _ (by decide +kernel) d 27 ls st h
theorem bF_longProduct_32 (d : Nat) (ls : List (Option jv)) (st : List jv) (h : jh) : Vl d 18 32 ls st h = jcc d 18 (jex 18 [(32, .iload 4), (34, .iconst 1), (35, .ishl), (36, .istore 4), (38, .iload 4), (40, .aload_n 0), (41, .getfield 9), (44, .iushr), (45, .iconst 1), (46, .iand), (47, .iconst 1), (48, .if_icmp .ne 12)] 32 ls st h) := Vl_ex _ (by decide +kernel) d 32 ls st h
theorem bF_longProduct_51 (d : Nat) (ls : List (Option jv)) (st : List jv) (h : jh) : Vl d 18 51 ls st h = jcc d 18 (jex 18 [(51, .iload 4), (53, .aload_n 0), (54, .getfield 15), (57, .ixor), (58, .istore 4)] 51 ls st h) := Vl_ex _ (by decide +kernel) d 51 ls st h
theorem bF_longProduct_60 (d : Nat) (ls : List (Option jv)) (st : List jv) (h : jh) : Vl d 18 60 ls st h = jcc d 18 (jex 18 [(60, .iinc 5 1), (63, .goto (-55))] 60 ls st h) := Vl_ex _ (by decide +kernel) d 60 ls st h
theorem bF_longProduct_66 (d : Nat) (ls : List (Option jv)) (st : List jv) (h : jh) : Vl d 18 66 ls st h = jcc d 18 (jex 18 [(66, .iload_n 3), (67, .ireturn)] 66 ls st h) := Vl_ex _ (by decide +kernel) d 66 ls st h
theorem bF_product_0 (d : Nat) (ls : List (Option jv)) (st : List jv) (h : jh) : Vl d 19 0 ls st h = jcc d 19 (jex 19 [(0, .iload_n 1), (1, .ifCond .eq 7)] 0 ls st h) := Vl_ex _ (by decide +kernel) d 0 ls st h
theorem bF_product_4 (d : Nat) (ls : List (Option jv)) (st : List jv) (h : jh) : Vl d 19 4 ls st h = jcc d 19 (jex 19 [(4, .iload_n 2), (5, .ifCond .ne 5)] 4 ls st h) := Vl_ex _ (by decide +kernel) d 4 ls st h
theorem bF_product_8 (d : Nat) (ls : List (Option jv)) (st : List jv) (h : jh) : Vl d 19 8 ls st h = jcc d 19 (jex 19 [(8, .iconst 0), (9, .ireturn)] 8 ls st h) := Vl_ex _ (by decide +kernel) d 8 ls st h
theorem bF_product_10 (d : Nat) (ls : List (Option jv)) (st : List jv) (h : jh) : Vl d 19 10 ls st h = jcc d 19 (jex 19 [(10, .aload_n 0), (11, .getfield 30), (14, .aload_n 0), (15, .getfield 34), (18, .iload_n 1), (19, .sipush 255), (22, .iand), (23, .iaload), (24, .aload_n 0), (25, .getfield 34), (28, .iload_n 2), (29, .sipush 255), (32, .iand), (33, .iaload), (34, .iadd), (35, .sipush 511), (38, .iand), (39, .iaload), (40, .ireturn)] 10 ls st h) := Vl_ex _ (by decide +kernel) d 10 ls st h
theorem bA_putNumber_0 (d : Nat) (ls : List (Option jv)) (st : List jv) (h : jh) : Vl d 21 0 ls st h = jcc d 21 (jex 21 [(0, .bipush 24), (2, .istore_n 2)] 0 ls st h) := Vl_ex _ (by decide +kernel) d 0 ls st h
theorem bA_putNumber_3 (d : Nat) (ls : List (Option jv)) (st : List jv) (h : jh) : Vl d 21 3 ls st h = jcc d 21 (jex 21 [(3, .iload_n 2), (4, .ifCond .lt 52)] 3 ls st h) := Vl_ex _ (by decide +kernel) d 3 ls st h
theorem bA_putNumber_7 (d : Nat) (ls : List (Option jv)) (st : List jv) (h : jh) : Vl d 21 7 ls st h = jcc d 21 (jex 21 [(7, .aload_n 0), (8, .getfield 15), (11, .ifCond .lt 39)] 7 ls st h) := Vl_ex _ (by decide +kernel) d 7 ls st h
theorem bA_putNumber_14 (d : Nat) (ls : List (Option jv)) (st : List jv) (h : jh) : Vl d 21 14 ls st h = jcc d 21 (jex 21 [(14, .aload_n 0), (15, .getfield 15), (18, .sipush 540), (21, .if_icmp .ge 29)] 14 ls st h) := Vl_ex _ (by decide +kernel) d 14 ls st h
theorem bA_putNumber_24 (d : Nat) (ls : List (Option jv)) (st : List jv) (h : jh) : Vl d 21 24 ls st h = jcc d 21 (jex 21 [(24, .aload_n 0), (25, .getfield 9), (28, .aload_n 0), (29, .getfield 15), (32, .iload_n 1), (33, .iload_n 2), (34, .iushr), (35, .sipush 255), (38, .iand), (39, .iastore), (40, .aload_n 0), (41, .dup), (42, .getfield 15), (45, .iconst 1), (46, .iadd), (47, .putfield 15)] 24 ls st h) := Vl_ex _ (by decide +kernel) d 24 ls st h
theorem bA_putNumber_50 (d : Nat) (ls : List (Option jv)) (st : List jv) (h : jh) : Vl d 21 50 ls st h = jcc d 21 (jex 21 [(50, .iinc 2 (-8)), (53, .goto (-50))] 50 ls st h) := Vl_ex _ (by decide +kernel) d 50 ls st h
theorem bA_putNumber_56 (d : Nat) (ls : List (Option jv)) (st : List jv) (h : jh) : Vl d 21 56 ls st h = jcc d 21 (jex 21 [(56, .return_)] 56 ls st h) := Vl_ex _ (by decide +kernel) d 56 ls st h
theorem bA_byteAt_0 (d : Nat) (ls : List (Option jv)) (st : List jv) (h : jh) : Vl d 25 0 ls st h = jcc d 25 (jex 25 [(0, .iload_n 1), (1, .ifCond .lt 19)] 0 ls st h) := Vl_ex _ (by decide +kernel) d 0 ls st h
theorem bA_byteAt_4 (d : Nat) (ls : List (Option jv)) (st : List jv) (h : jh) : Vl d 25 4 ls st h = jcc d 25 (jex 25 [(4, .iload_n 1), (5, .sipush 540), (8, .if_icmp .ge 12)] 4 ls st h) := Vl_ex _ (by decide +kernel) d 4 ls st h
theorem bA_byteAt_11 (d : Nat) (ls : List (Option jv)) (st : List jv) (h : jh) : Vl d 25 11 ls st h = jcc d 25 (jex 25 [(11, .aload_n 0), (12, .getfield 9), (15, .iload_n 1), (16, .iaload), (17, .goto 4)] 11 ls st h) := Vl_ex _ (by decide +kernel) d 11 ls st h
theorem bA_byteAt_20 (d : Nat) (ls : List (Option jv)) (st : List jv) (h : jh) : Vl d 25 20 ls st h = jcc d 25 (jex 25 [(20, .iconst 0)] 20 ls st h) := Vl_ex _ (by decide +kernel) d 20 ls st h
theorem bA_byteAt_21 (d : Nat) (ls : List (Option jv)) (st : List jv) (h : jh) : Vl d 25 21 ls st h = jcc d 25 (jex 25 [(21, .ireturn)] 21 ls st h) := Vl_ex _ (by decide +kernel) d 21 ls st h
theorem bP_clear_0 (d : Nat) (ls : List (Option jv)) (st : List jv) (h : jh) : Vl d 49 0 ls st h = jcc d 49 (jex 49 [(0, .iconst 0), (1, .istore_n 1)] 0 ls st h) := Vl_ex _ (by decide +kernel) d 0 ls st h
theorem bP_clear_2 (d : Nat) (ls : List (Option jv)) (st : List jv) (h : jh) : Vl d 49 2 ls st h = jcc d 49 (jex 49 [(2, .iload_n 1), (3, .bipush 17), (5, .if_icmp .ge 16)] 2 ls st h) := Vl_ex _ (by decide +kernel) d 2 ls st h
theorem bP_clear_8 (d : Nat) (ls : List (Option jv)) (st : List jv) (h : jh) : Vl d 49 8 ls st h = jcc d 49 (jex 49 [(8, .aload_n 0), (9, .getfield 9), (12, .iload_n 1), (13, .iconst 0), (14, .iastore), (15, .iinc 1 1), (18, .goto (-16))] 8 ls st h) := Vl_ex _ (by decide +kernel) d 8 ls st h
theorem bP_clear_21 (d : Nat) (ls : List (Option jv)) (st : List jv) (h : jh) : Vl d 49 21 ls st h = jcc d 49 (jex 49 [(21, .return_)] 21 ls st h) := Vl_ex _ (by decide +kernel) d 21 ls st h
theorem bP_copy_0 (d : Nat) (ls : List (Option jv)) (st : List jv) (h : jh) : Vl d 54 0 ls st h = jcc d 54 (jex 54 [(0, .iconst 0), (1, .istore_n 2)] 0 ls st h) := Vl_ex _ (by decide +kernel) d 0 ls st h
theorem bP_copy_2 (d : Nat) (ls : List (Option jv)) (st : List jv) (h : jh) : Vl d 54 2 ls st h = jcc d 54 (jex 54 [(2, .iload_n 2), (3, .bipush 17), (5, .if_icmp .ge 21)] 2 ls st h) := Vl_ex _ (by decide +kernel) d 2 ls st h
theorem bP_copy_8 (d : Nat) (ls : List (Option jv)) (st : List jv) (h : jh) : Vl d 54 8 ls st h = jcc d 54 (jex 54 [(8, .aload_n 0), (9, .getfield 9), (12, .iload_n 2), (13, .aload_n 1), (14, .getfield 9), (17, .iload_n 2), (18, .iaload), (19, .iastore), (20, .iinc 2 1), (23, .goto (-21))] 8 ls st h) := Vl_ex _ (by decide +kernel) d 8 ls st h
theorem bP_copy_26 (d : Nat) (ls : List (Option jv)) (st : List jv) (h : jh) : Vl d 54 26 ls st h = jcc d 54 (jex 54 [(26, .return_)] 26 ls st h) := Vl_ex _ (by decide +kernel) d 26 ls st h
theorem bK_divide_0 (d : Nat) (ls : List (Option jv)) (st : List jv) (h : jh) : Vl d 58 0 ls st h = jcc d 58 (jex 58 [(0, .aload_n 3), (1, .invokevirtual 75)] 0 ls st h) := Vl_ex _ (by decide +kernel) d 0 ls st h
theorem bK_divide_4 (d : Nat) (ls : List (Option jv)) (st : List jv) (h : jh) : Vl d 58 4 ls st h = jcc d 58 (jex 58 [(4, .istore 6), (6, .iload 6), (8, .ifCond .ge 5)] 4 ls st h) := Vl_ex _ (by decide +kernel) d 4 ls st h
theorem bK_divide_11 (d : Nat) (ls : List (Option jv)) (st : List jv) (h : jh) : Vl d 58 11 ls st h = jcc d 58 (jex 58 [(11, .iconst 0), (12, .ireturn)] 11 ls st h) := Vl_ex _ (by decide +kernel) d 11 ls st h
theorem bK_divide_13 (d : Nat) (ls : List (Option jv)) (st : List jv) (h : jh) : Vl d 58 13 ls st h = jcc d 58 (jex 58 [(13, .aload_n 0), (14, .getfield 12), (17, .aload_n 3), (18, .iload 6), (20, .invokevirtual 90)] 13 ls st h) := Vl_ex _ (by decide +kernel) d 13 ls st h
theorem bK_divide_23 (d : Nat) (ls : List (Option jv)) (st : List jv) (h : jh) : Vl d 58 23 ls st h = jcc d 58 (jex 58 [(23, .invokevirtual 110)] 23 ls st h) := Vl_ex _ (by decide +kernel) d 23 ls st h
theorem bK_divide_26 (d : Nat) (ls : List (Option jv)) (st : List jv) (h : jh) : Vl d 58 26 ls st h = jcc d 58 (jex 58 [(26, .istore 7), (28, .aload_n 0), (29, .getfield 50), (32, .aload_n 2), (33, .invokevirtual 79)] 26 ls st h) := Vl_ex _ (by decide +kernel) d 26 ls st h
theorem bK_divide_36 (d : Nat) (ls : List (Option jv)) (st : List jv) (h : jh) : Vl d 58 36 ls st h = jcc d 58 (jex 58 [(36, .aload_n 0), (37, .getfield 53), (40, .invokevirtual 83)] 36 ls st h) := Vl_ex _ (by decide +kernel) d 36 ls st h
theorem bK_divide_43 (d : Nat) (ls : List (Option jv)) (st : List jv) (h : jh) : Vl d 58 43 ls st h = jcc d 58 (jex 58 [(43, .aload_n 0), (44, .getfield 50), (47, .invokevirtual 75)] 43 ls st h) := Vl_ex _ (by decide +kernel) d 43 ls st h
theorem bK_divide_50 (d : Nat) (ls : List (Option jv)) (st : List jv) (h : jh) : Vl d 58 50 ls st h = jcc d 58 (jex 58 [(50, .iload 6), (52, .isub), (53, .istore 8)] 50 ls st h) := Vl_ex _ (by decide +kernel) d 50 ls st h
theorem bK_divide_55 (d : Nat) (ls : List (Option jv)) (st : List jv) (h : jh) : Vl d 58 55 ls st h = jcc d 58 (jex 58 [(55, .iload 8), (57, .ifCond .lt 77)] 55 ls st h) := Vl_ex _ (by decide +kernel) d 55 ls st h
theorem bK_divide_60 (d : Nat) (ls : List (Option jv)) (st : List jv) (h : jh) : Vl d 58 60 ls st h = jcc d 58 (jex 58 [(60, .aload_n 0), (61, .iload_n 1), (62, .iload 7), (64, .iload 6), (66, .iload 8), (68, .invokevirtual 113)] 60 ls st h) := Vl_ex _ (by decide +kernel) d 60 ls st h
theorem bK_divide_71 (d : Nat) (ls : List (Option jv)) (st : List jv) (h : jh) : Vl d 58 71 ls st h = jcc d 58 (jex 58 [(71, .istore 9), (73, .aload_n 0), (74, .getfield 53), (77, .iload 8), (79, .iload 9), (81, .invokevirtual 117)] 71 ls st h) := Vl_ex _ (by decide +kernel) d 71 ls st h
theorem bK_divide_84 (d : Nat) (ls : List (Option jv)) (st : List jv) (h : jh) : Vl d 58 84 ls st h = jcc d 58 (jex 58 [(84, .aload_n 0), (85, .getfield 47), (88, .invokevirtual 83)] 84 ls st h) := Vl_ex _ (by decide +kernel) d 84 ls st h
theorem bK_divide_91 (d : Nat) (ls : List (Option jv)) (st : List jv) (h : jh) : Vl d 58 91 ls st h = jcc d 58 (jex 58 [(91, .aload_n 0), (92, .getfield 47), (95, .iload 8), (97, .iload 9), (99, .invokevirtual 117)] 91 ls st h) := Vl_ex _ (by decide +kernel) d 91 ls st h
theorem bK_divide_102 (d : Nat) (ls : List (Option jv)) (st : List jv) (h : jh) : Vl d 58 102 ls st h = jcc d 58 (jex 58 [(102, .aload_n 0), (103, .iload_n 1), (104, .aload_n 0), (105, .getfield 47), (108, .aload_n 3), (109, .aload_n 0), (110, .getfield 47), (113, .invokevirtual 71)] 102 ls st h) := Vl_ex _ (by decide +kernel) d 102 ls st h
theorem bK_divide_116 (d : Nat) (ls : List (Option jv)) (st : List jv) (h : jh) : Vl d 58 116 ls st h = jcc d 58 (jex 58 [(116, .pop), (117, .aload_n 0), (118, .getfield 50), (121, .aload_n 0), (122, .getfield 47), (125, .invokevirtual 121)] 116 ls st h) := Vl_ex _ (by decide +kernel) d 116 ls st h
theorem bK_divide_128 (d : Nat) (ls : List (Option jv)) (st : List jv) (h : jh) : Vl d 58 128 ls st h = jcc d 58 (jex 58 [(128, .iinc 8 (-1)), (131, .goto (-76))] 128 ls st h) := Vl_ex _ (by decide +kernel) d 128 ls st h
theorem bK_divide_134 (d : Nat) (ls : List (Option jv)) (st : List jv) (h : jh) : Vl d 58 134 ls st h = jcc d 58 (jex 58 [(134, .aload 4), (136, .aload_n 0), (137, .getfield 53), (140, .invokevirtual 79)] 134 ls st h) := Vl_ex _ (by decide +kernel) d 134 ls st h
theorem bK_divide_143 (d : Nat) (ls : List (Option jv)) (st : List jv) (h : jh) : Vl d 58 143 ls st h = jcc d 58 (jex 58 [(143, .aload 5), (145, .aload_n 0), (146, .getfield 50), (149, .invokevirtual 79)] 143 ls st h) := Vl_ex _ (by decide +kernel) d 143 ls st h
theorem bK_divide_152 (d : Nat) (ls : List (Option jv)) (st : List jv) (h : jh) : Vl d 58 152 ls st h = jcc d 58 (jex 58 [(152, .iconst 1), (153, .ireturn)] 152 ls st h) := Vl_ex _ (by decide +kernel) d 152 ls st h
theorem bP_top_0 (d : Nat) (ls : List (Option jv)) (st : List jv) (h : jh) : Vl d 59 0 ls st h = jcc d 59 (jex 59 [(0, .bipush 16), (2, .istore_n 1)] 0 ls st h) := Vl_ex _ (by decide +kernel) d 0 ls st h
theorem bP_top_3 (d : Nat) (ls : List (Option jv)) (st : List jv) (h : jh) : Vl d 59 3 ls st h = jcc d 59 (jex 59 [(3, .iload_n 1), (4, .ifCond .lt 20)] 3 ls st h) := Vl_ex _ (by decide +kernel) d 3 ls st h
theorem bP_top_7 (d : Nat) (ls : List (Option jv)) (st : List jv) (h : jh) : Vl d 59 7 ls st h = jcc d 59 (jex 59 [(7, .aload_n 0), (8, .getfield 9), (11, .iload_n 1), (12, .iaload), (13, .ifCond .eq 5)] 7 ls st h) := Vl_ex _ (by decide +kernel) d 7 ls st h
theorem bP_top_16 (d : Nat) (ls : List (Option jv)) (st : List jv) (h : jh) : Vl d 59 16 ls st h = jcc d 59 (jex 59 [(16, .iload_n 1), (17, .ireturn)] 16 ls st h) := Vl_ex _ (by decide +kernel) d 16 ls st h
theorem bP_top_18 (d : Nat) (ls : List (Option jv)) (st : List jv) (h : jh) : Vl d 59 18 ls st h = jcc d 59 (jex 59 [(18, .iinc 1 (-1)), (21, .goto (-18))] 18 ls st h) := Vl_ex _ (by decide +kernel) d 18 ls st h
theorem bP_top_24 (d : Nat) (ls : List (Option jv)) (st : List jv) (h : jh) : Vl d 59 24 ls st h = jcc d 59 (jex 59 [(24, .iconst (-1)), (25, .ireturn)] 24 ls st h) := Vl_ex _ (by decide +kernel) d 24 ls st h
theorem bP_get_0 (d : Nat) (ls : List (Option jv)) (st : List jv) (h : jh) : Vl d 60 0 ls st h = jcc d 60 (jex 60 [(0, .iload_n 1), (1, .ifCond .lt 18)] 0 ls st h) := Vl_ex _ (by decide +kernel) d 0 ls st h
theorem bP_get_4 (d : Nat) (ls : List (Option jv)) (st : List jv) (h : jh) : Vl d 60 4 ls st h = jcc d 60 (jex 60 [(4, .iload_n 1), (5, .bipush 17), (7, .if_icmp .ge 12)] 4 ls st h) := Vl_ex _ (by decide +kernel) d 4 ls st h
theorem bP_get_10 (d : Nat) (ls : List (Option jv)) (st : List jv) (h : jh) : Vl d 60 10 ls st h = jcc d 60 (jex 60 [(10, .aload_n 0), (11, .getfield 9), (14, .iload_n 1), (15, .iaload), (16, .goto 4)] 10 ls st h) := Vl_ex _ (by decide +kernel) d 10 ls st h
theorem bP_get_19 (d : Nat) (ls : List (Option jv)) (st : List jv) (h : jh) : Vl d 60 19 ls st h = jcc d 60 (jex 60 [(19, .iconst 0)] 19 ls st h) := Vl_ex _ (by decide +kernel) d 19 ls st h
theorem bP_get_20 (d : Nat) (ls : List (Option jv)) (st : List jv) (h : jh) : Vl d 60 20 ls st h = jcc d 60 (jex 60 [(20, .ireturn)] 20 ls st h) := Vl_ex _ (by decide +kernel) d 20 ls st h
theorem bF_inverse_0 (d : Nat) (ls : List (Option jv)) (st : List jv) (h : jh) : Vl d 61 0 ls st h = jcc d 61 (jex 61 [(0, .iload_n 1), (1, .ifCond .ne 7)] 0 ls st h) := Vl_ex _ (by decide +kernel) d 0 ls st h
theorem bF_inverse_4 (d : Nat) (ls : List (Option jv)) (st : List jv) (h : jh) : Vl d 61 4 ls st h = jcc d 61 (jex 61 [(4, .iconst 0), (5, .goto 29)] 4 ls st h) := Vl_ex _ (by decide +kernel) d 4 ls st h
theorem bF_inverse_8 (d : Nat) (ls : List (Option jv)) (st : List jv) (h : jh) : Vl d 61 8 ls st h = jcc d 61 (jex 61 [(8, .aload_n 0), (9, .getfield 30), (12, .aload_n 0), (13, .getfield 24), (16, .iconst 1), (17, .isub), (18, .aload_n 0), (19, .getfield 34), (22, .iload_n 1), (23, .sipush 255), (26, .iand), (27, .iaload), (28, .isub), (29, .sipush 511), (32, .iand), (33, .iaload)] 8 ls st h) := Vl_ex _ (by decide +kernel) d 8 ls st h
theorem bF_inverse_34 (d : Nat) (ls : List (Option jv)) (st : List jv) (h : jh) : Vl d 61 34 ls st h = jcc d 61 (jex 61 [(34, .ireturn)] 34 ls st h) := Vl_ex _ (by decide +kernel) d 34 ls st h
theorem bK_quotientNumber_0 (d : Nat) (ls : List (Option jv)) (st : List jv) (h : jh) : Vl d 62 0 ls st h = jcc d 62 (jex 62 [(0, .aload_n 0), (1, .getfield 50), (4, .iload 4), (6, .iload_n 3), (7, .iadd), (8, .invokevirtual 90)] 0 ls st h) := Vl_ex _ (by decide +kernel) d 0 ls st h
theorem bK_quotientNumber_11 (d : Nat) (ls : List (Option jv)) (st : List jv) (h : jh) : Vl d 62 11 ls st h = jcc d 62 (jex 62 [(11, .istore 5), (13, .iload_n 1), (14, .ifCond .ne 23)] 11 ls st h) := Vl_ex _ (by decide +kernel) d 11 ls st h
theorem bK_quotientNumber_17 (d : Nat) (ls : List (Option jv)) (st : List jv) (h : jh) : Vl d 62 17 ls st h = jcc d 62 (jex 62 [(17, .aload_n 0), (18, .getfield 12), (21, .iload 5), (23, .aload_n 0), (24, .getfield 12), (27, .iload_n 2), (28, .iload 4), (30, .invokevirtual 124)] 17 ls st h) := Vl_ex _ (by decide +kernel) d 17 ls st h
theorem bK_quotientNumber_33 (d : Nat) (ls : List (Option jv)) (st : List jv) (h : jh) : Vl d 62 33 ls st h = jcc d 62 (jex 62 [(33, .invokevirtual 128)] 33 ls st h) := Vl_ex _ (by decide +kernel) d 33 ls st h
theorem bK_quotientNumber_36 (d : Nat) (ls : List (Option jv)) (st : List jv) (h : jh) : Vl d 62 36 ls st h = jcc d 62 (jex 62 [(36, .ireturn)] 36 ls st h) := Vl_ex _ (by decide +kernel) d 36 ls st h
theorem bK_quotientNumber_37 (d : Nat) (ls : List (Option jv)) (st : List jv) (h : jh) : Vl d 62 37 ls st h = jcc d 62 (jex 62 [(37, .aload_n 0), (38, .getfield 12), (41, .aload_n 0), (42, .getfield 12), (45, .iload 5), (47, .iload_n 2), (48, .invokevirtual 128)] 37 ls st h) := Vl_ex _ (by decide +kernel) d 37 ls st h
theorem bK_quotientNumber_51 (d : Nat) (ls : List (Option jv)) (st : List jv) (h : jh) : Vl d 62 51 ls st h = jcc d 62 (jex 62 [(51, .iload_n 3), (52, .invokevirtual 130)] 51 ls st h) := Vl_ex _ (by decide +kernel) d 51 ls st h
theorem bK_quotientNumber_55 (d : Nat) (ls : List (Option jv)) (st : List jv) (h : jh) : Vl d 62 55 ls st h = jcc d 62 (jex 62 [(55, .ireturn)] 55 ls st h) := Vl_ex _ (by decide +kernel) d 55 ls st h
theorem bF_turn_0 (d : Nat) (ls : List (Option jv)) (st : List jv) (h : jh) : Vl d 63 0 ls st h = jcc d 63 (jex 63 [(0, .iload_n 1), (1, .istore_n 3), (2, .aload_n 0), (3, .getfield 27), (6, .ifCond .le 12)] 0 ls st h) := Vl_ex _ (by decide +kernel) d 0 ls st h
theorem bF_turn_9 (d : Nat) (ls : List (Option jv)) (st : List jv) (h : jh) : Vl d 63 9 ls st h = jcc d 63 (jex 63 [(9, .iload_n 2), (10, .aload_n 0), (11, .getfield 27), (14, .irem), (15, .goto 4)] 9 ls st h) := Vl_ex _ (by decide +kernel) d 9 ls st h
theorem bF_turn_18 (d : Nat) (ls : List (Option jv)) (st : List jv) (h : jh) : Vl d 63 18 ls st h = jcc d 63 (jex 63 [(18, .iconst 0)] 18 ls st h) := Vl_ex _ (by decide +kernel) d 18 ls st h
theorem bF_turn_19 (d : Nat) (ls : List (Option jv)) (st : List jv) (h : jh) : Vl d 63 19 ls st h = jcc d 63 (jex 63 [(19, .istore 4)] 19 ls st h) := Vl_ex _ (by decide +kernel) d 19 ls st h
theorem bF_turn_21 (d : Nat) (ls : List (Option jv)) (st : List jv) (h : jh) : Vl d 63 21 ls st h = jcc d 63 (jex 63 [(21, .iload 4), (23, .ifCond .le 20)] 21 ls st h) := Vl_ex _ (by decide +kernel) d 21 ls st h
theorem bF_turn_26 (d : Nat) (ls : List (Option jv)) (st : List jv) (h : jh) : Vl d 63 26 ls st h = jcc d 63 (jex 63 [(26, .aload_n 0), (27, .getfield 37), (30, .iload_n 3), (31, .sipush 255), (34, .iand), (35, .iaload), (36, .istore_n 3), (37, .iinc 4 (-1)), (40, .goto (-19))] 26 ls st h) := Vl_ex _ (by decide +kernel) d 26 ls st h
theorem bF_turn_43 (d : Nat) (ls : List (Option jv)) (st : List jv) (h : jh) : Vl d 63 43 ls st h = jcc d 63 (jex 63 [(43, .iload_n 3), (44, .ireturn)] 43 ls st h) := Vl_ex _ (by decide +kernel) d 43 ls st h
theorem bF_turnBack_0 (d : Nat) (ls : List (Option jv)) (st : List jv) (h : jh) : Vl d 64 0 ls st h = jcc d 64 (jex 64 [(0, .iload_n 1), (1, .istore_n 3), (2, .aload_n 0), (3, .getfield 27), (6, .ifCond .le 17)] 0 ls st h) := Vl_ex _ (by decide +kernel) d 0 ls st h
theorem bF_turnBack_9 (d : Nat) (ls : List (Option jv)) (st : List jv) (h : jh) : Vl d 64 9 ls st h = jcc d 64 (jex 64 [(9, .aload_n 0), (10, .getfield 27), (13, .iload_n 2), (14, .aload_n 0), (15, .getfield 27), (18, .irem), (19, .isub), (20, .goto 4)] 9 ls st h) := Vl_ex _ (by decide +kernel) d 9 ls st h
theorem bF_turnBack_23 (d : Nat) (ls : List (Option jv)) (st : List jv) (h : jh) : Vl d 64 23 ls st h = jcc d 64 (jex 64 [(23, .iconst 0)] 23 ls st h) := Vl_ex _ (by decide +kernel) d 23 ls st h
theorem bF_turnBack_24 (d : Nat) (ls : List (Option jv)) (st : List jv) (h : jh) : Vl d 64 24 ls st h = jcc d 64 (jex 64 [(24, .istore 4)] 24 ls st h) := Vl_ex _ (by decide +kernel) d 24 ls st h
theorem bF_turnBack_26 (d : Nat) (ls : List (Option jv)) (st : List jv) (h : jh) : Vl d 64 26 ls st h = jcc d 64 (jex 64 [(26, .iload 4), (28, .ifCond .le 20)] 26 ls st h) := Vl_ex _ (by decide +kernel) d 26 ls st h
theorem bF_turnBack_31 (d : Nat) (ls : List (Option jv)) (st : List jv) (h : jh) : Vl d 64 31 ls st h = jcc d 64 (jex 64 [(31, .aload_n 0), (32, .getfield 37), (35, .iload_n 3), (36, .sipush 255), (39, .iand), (40, .iaload), (41, .istore_n 3), (42, .iinc 4 (-1)), (45, .goto (-19))] 31 ls st h) := Vl_ex _ (by decide +kernel) d 31 ls st h
theorem bF_turnBack_48 (d : Nat) (ls : List (Option jv)) (st : List jv) (h : jh) : Vl d 64 48 ls st h = jcc d 64 (jex 64 [(48, .iload_n 3), (49, .ireturn)] 48 ls st h) := Vl_ex _ (by decide +kernel) d 48 ls st h
theorem bP_put_0 (d : Nat) (ls : List (Option jv)) (st : List jv) (h : jh) : Vl d 65 0 ls st h = jcc d 65 (jex 65 [(0, .iload_n 1), (1, .ifCond .lt 16)] 0 ls st h) := Vl_ex _ (by decide +kernel) d 0 ls st h
theorem bP_put_4 (d : Nat) (ls : List (Option jv)) (st : List jv) (h : jh) : Vl d 65 4 ls st h = jcc d 65 (jex 65 [(4, .iload_n 1), (5, .bipush 17), (7, .if_icmp .ge 10)] 4 ls st h) := Vl_ex _ (by decide +kernel) d 4 ls st h
theorem bP_put_10 (d : Nat) (ls : List (Option jv)) (st : List jv) (h : jh) : Vl d 65 10 ls st h = jcc d 65 (jex 65 [(10, .aload_n 0), (11, .getfield 9), (14, .iload_n 1), (15, .iload_n 2), (16, .iastore)] 10 ls st h) := Vl_ex _ (by decide +kernel) d 10 ls st h
theorem bP_put_17 (d : Nat) (ls : List (Option jv)) (st : List jv) (h : jh) : Vl d 65 17 ls st h = jcc d 65 (jex 65 [(17, .return_)] 17 ls st h) := Vl_ex _ (by decide +kernel) d 17 ls st h
theorem bK_join_0 (d : Nat) (ls : List (Option jv)) (st : List jv) (h : jh) : Vl d 66 0 ls st h = jcc d 66 (jex 66 [(0, .iload_n 1), (1, .iconst 1), (2, .if_icmp .ne 7)] 0 ls st h) := Vl_ex _ (by decide +kernel) d 0 ls st h
theorem bK_join_5 (d : Nat) (ls : List (Option jv)) (st : List jv) (h : jh) : Vl d 66 5 ls st h = jcc d 66 (jex 66 [(5, .aload_n 3), (6, .goto 4)] 5 ls st h) := Vl_ex _ (by decide +kernel) d 5 ls st h
theorem bK_join_9 (d : Nat) (ls : List (Option jv)) (st : List jv) (h : jh) : Vl d 66 9 ls st h = jcc d 66 (jex 66 [(9, .aload_n 2)] 9 ls st h) := Vl_ex _ (by decide +kernel) d 9 ls st h
theorem bK_join_10 (d : Nat) (ls : List (Option jv)) (st : List jv) (h : jh) : Vl d 66 10 ls st h = jcc d 66 (jex 66 [(10, .astore 5), (12, .iload_n 1), (13, .iconst 1), (14, .if_icmp .ne 7)] 10 ls st h) := Vl_ex _ (by decide +kernel) d 10 ls st h
theorem bK_join_17 (d : Nat) (ls : List (Option jv)) (st : List jv) (h : jh) : Vl d 66 17 ls st h = jcc d 66 (jex 66 [(17, .aload_n 2), (18, .goto 4)] 17 ls st h) := Vl_ex _ (by decide +kernel) d 17 ls st h
theorem bK_join_21 (d : Nat) (ls : List (Option jv)) (st : List jv) (h : jh) : Vl d 66 21 ls st h = jcc d 66 (jex 66 [(21, .aload_n 3)] 21 ls st h) := Vl_ex _ (by decide +kernel) d 21 ls st h
theorem bK_join_22 (d : Nat) (ls : List (Option jv)) (st : List jv) (h : jh) : Vl d 66 22 ls st h = jcc d 66 (jex 66 [(22, .astore 6), (24, .aload 5), (26, .invokevirtual 75)] 22 ls st h) := Vl_ex _ (by decide +kernel) d 22 ls st h
theorem bK_join_29 (d : Nat) (ls : List (Option jv)) (st : List jv) (h : jh) : Vl d 66 29 ls st h = jcc d 66 (jex 66 [(29, .istore 7), (31, .aload 6), (33, .invokevirtual 75)] 29 ls st h) := Vl_ex _ (by decide +kernel) d 29 ls st h
theorem bK_join_36 (d : Nat) (ls : List (Option jv)) (st : List jv) (h : jh) : Vl d 66 36 ls st h = jcc d 66 (jex 66 [(36, .istore 8), (38, .iload 7), (40, .ifCond .lt 20)] 36 ls st h) := Vl_ex _ (by decide +kernel) d 36 ls st h
theorem bK_join_43 (d : Nat) (ls : List (Option jv)) (st : List jv) (h : jh) : Vl d 66 43 ls st h = jcc d 66 (jex 66 [(43, .iload 8), (45, .ifCond .lt 15)] 43 ls st h) := Vl_ex _ (by decide +kernel) d 43 ls st h
theorem bK_join_48 (d : Nat) (ls : List (Option jv)) (st : List jv) (h : jh) : Vl d 66 48 ls st h = jcc d 66 (jex 66 [(48, .iload 7), (50, .iload 8), (52, .iadd), (53, .bipush 16), (55, .if_icmp .le 5)] 48 ls st h) := Vl_ex _ (by decide +kernel) d 48 ls st h
theorem bK_join_58 (d : Nat) (ls : List (Option jv)) (st : List jv) (h : jh) : Vl d 66 58 ls st h = jcc d 66 (jex 66 [(58, .iconst 0), (59, .ireturn)] 58 ls st h) := Vl_ex _ (by decide +kernel) d 58 ls st h
theorem bK_join_60 (d : Nat) (ls : List (Option jv)) (st : List jv) (h : jh) : Vl d 66 60 ls st h = jcc d 66 (jex 66 [(60, .aload_n 0), (61, .getfield 41), (64, .aload 6), (66, .invokevirtual 79)] 60 ls st h) := Vl_ex _ (by decide +kernel) d 60 ls st h
theorem bK_join_69 (d : Nat) (ls : List (Option jv)) (st : List jv) (h : jh) : Vl d 66 69 ls st h = jcc d 66 (jex 66 [(69, .aload_n 0), (70, .getfield 44), (73, .invokevirtual 83)] 69 ls st h) := Vl_ex _ (by decide +kernel) d 69 ls st h
theorem bK_join_76 (d : Nat) (ls : List (Option jv)) (st : List jv) (h : jh) : Vl d 66 76 ls st h = jcc d 66 (jex 66 [(76, .iconst 0), (77, .istore 9)] 76 ls st h) := Vl_ex _ (by decide +kernel) d 76 ls st h
theorem bK_join_79 (d : Nat) (ls : List (Option jv)) (st : List jv) (h : jh) : Vl d 66 79 ls st h = jcc d 66 (jex 66 [(79, .iload 9), (81, .iload 7), (83, .if_icmp .gt 73)] 79 ls st h) := Vl_ex _ (by decide +kernel) d 79 ls st h
theorem bK_join_86 (d : Nat) (ls : List (Option jv)) (st : List jv) (h : jh) : Vl d 66 86 ls st h = jcc d 66 (jex 66 [(86, .iload 8), (88, .ifCond .lt 68)] 86 ls st h) := Vl_ex _ (by decide +kernel) d 86 ls st h
theorem bK_join_91 (d : Nat) (ls : List (Option jv)) (st : List jv) (h : jh) : Vl d 66 91 ls st h = jcc d 66 (jex 66 [(91, .aload_n 0), (92, .getfield 12), (95, .aload_n 0), (96, .getfield 44), (99, .getfield 86), (102, .aload 5), (104, .iload 9), (106, .invokevirtual 90)] 91 ls st h) := Vl_ex _ (by decide +kernel) d 91 ls st h
theorem bK_join_109 (d : Nat) (ls : List (Option jv)) (st : List jv) (h : jh) : Vl d 66 109 ls st h = jcc d 66 (jex 66 [(109, .aload_n 0), (110, .getfield 41), (113, .getfield 86), (116, .iload 8), (118, .iload 9), (120, .iadd), (121, .invokevirtual 94)] 109 ls st h) := Vl_ex _ (by decide +kernel) d 109 ls st h
theorem bK_join_124 (d : Nat) (ls : List (Option jv)) (st : List jv) (h : jh) : Vl d 66 124 ls st h = jcc d 66 (jex 66 [(124, .iload 9), (126, .iload 7), (128, .if_icmp .ge 22)] 124 ls st h) := Vl_ex _ (by decide +kernel) d 124 ls st h
theorem bK_join_131 (d : Nat) (ls : List (Option jv)) (st : List jv) (h : jh) : Vl d 66 131 ls st h = jcc d 66 (jex 66 [(131, .aload_n 0), (132, .getfield 12), (135, .aload_n 0), (136, .getfield 41), (139, .getfield 86), (142, .iload 8), (144, .iload 9), (146, .iadd), (147, .invokevirtual 98)] 131 ls st h) := Vl_ex _ (by decide +kernel) d 131 ls st h
theorem bK_join_150 (d : Nat) (ls : List (Option jv)) (st : List jv) (h : jh) : Vl d 66 150 ls st h = jcc d 66 (jex 66 [(150, .iinc 9 1), (153, .goto (-74))] 150 ls st h) := Vl_ex _ (by decide +kernel) d 150 ls st h
theorem bK_join_156 (d : Nat) (ls : List (Option jv)) (st : List jv) (h : jh) : Vl d 66 156 ls st h = jcc d 66 (jex 66 [(156, .aload 4), (158, .aload_n 0), (159, .getfield 44), (162, .invokevirtual 79)] 156 ls st h) := Vl_ex _ (by decide +kernel) d 156 ls st h
theorem bK_join_165 (d : Nat) (ls : List (Option jv)) (st : List jv) (h : jh) : Vl d 66 165 ls st h = jcc d 66 (jex 66 [(165, .iconst 1), (166, .ireturn)] 165 ls st h) := Vl_ex _ (by decide +kernel) d 165 ls st h
theorem bF_addTimes_0 (d : Nat) (ls : List (Option jv)) (st : List jv) (h : jh) : Vl d 67 0 ls st h = jcc d 67 (jex 67 [(0, .iload_n 2), (1, .ifCond .ne 4)] 0 ls st h) := Vl_ex _ (by decide +kernel) d 0 ls st h
theorem bF_addTimes_4 (d : Nat) (ls : List (Option jv)) (st : List jv) (h : jh) : Vl d 67 4 ls st h = jcc d 67 (jex 67 [(4, .return_)] 4 ls st h) := Vl_ex _ (by decide +kernel) d 4 ls st h
theorem bF_addTimes_5 (d : Nat) (ls : List (Option jv)) (st : List jv) (h : jh) : Vl d 67 5 ls st h = jcc d 67 (jex 67 [(5, .aload_n 0), (6, .getfield 34), (9, .iload_n 2), (10, .sipush 255), (13, .iand), (14, .iaload), (15, .istore 5), (17, .iconst 0), (18, .istore 6)] 5 ls st h) := Vl_ex _ (by decide +kernel) d 5 ls st h
theorem bF_addTimes_20 (d : Nat) (ls : List (Option jv)) (st : List jv) (h : jh) : Vl d 67 20 ls st h = jcc d 67 (jex 67 [(20, .iload 6), (22, .iload 4), (24, .if_icmp .gt 62)] 20 ls st h) := Vl_ex _ (by decide +kernel) d 20 ls st h
theorem bF_addTimes_27 (d : Nat) (ls : List (Option jv)) (st : List jv) (h : jh) : Vl d 67 27 ls st h = jcc d 67 (jex 67 [(27, .iload 6), (29, .aload_n 1), (30, .arraylength), (31, .if_icmp .ge 55)] 27 ls st h) := Vl_ex _ (by decide +kernel) d 27 ls st h
theorem bF_addTimes_34 (d : Nat) (ls : List (Option jv)) (st : List jv) (h : jh) : Vl d 67 34 ls st h = jcc d 67 (jex 67 [(34, .iload 6), (36, .aload_n 3), (37, .arraylength), (38, .if_icmp .ge 48)] 34 ls st h) := Vl_ex _ (by decide +kernel) d 34 ls st h
theorem bF_addTimes_41 (d : Nat) (ls : List (Option jv)) (st : List jv) (h : jh) : Vl d 67 41 ls st h = jcc d 67 (jex 67 [(41, .aload_n 3), (42, .iload 6), (44, .iaload), (45, .ifCond .eq 35)] 41 ls st h) := Vl_ex _ (by decide +kernel) d 41 ls st h
theorem bF_addTimes_48 (d : Nat) (ls : List (Option jv)) (st : List jv) (h : jh) : Vl d 67 48 ls st h = jcc d 67 (jex 67 [(48, .aload_n 1), (49, .iload 6), (51, .dup2), (52, .iaload), (53, .aload_n 0), (54, .getfield 30), (57, .iload 5), (59, .aload_n 0), (60, .getfield 34), (63, .aload_n 3), (64, .iload 6), (66, .iaload), (67, .sipush 255), (70, .iand), (71, .iaload), (72, .iadd), (73, .sipush 511), (76, .iand), (77, .iaload), (78, .ixor), (79, .iastore)] 48 ls st h) := Vl_ex _ (by decide +kernel) d 48 ls st h
theorem bF_addTimes_80 (d : Nat) (ls : List (Option jv)) (st : List jv) (h : jh) : Vl d 67 80 ls st h = jcc d 67 (jex 67 [(80, .iinc 6 1), (83, .goto (-63))] 80 ls st h) := Vl_ex _ (by decide +kernel) d 80 ls st h
theorem bF_addTimes_86 (d : Nat) (ls : List (Option jv)) (st : List jv) (h : jh) : Vl d 67 86 ls st h = jcc d 67 (jex 67 [(86, .return_)] 86 ls st h) := Vl_ex _ (by decide +kernel) d 86 ls st h
theorem bF_passLetter_0 (d : Nat) (ls : List (Option jv)) (st : List jv) (h : jh) : Vl d 68 0 ls st h = jcc d 68 (jex 68 [(0, .aload_n 1), (1, .arraylength), (2, .ifCond .ne 4)] 0 ls st h) := Vl_ex _ (by decide +kernel) d 0 ls st h
theorem bF_passLetter_5 (d : Nat) (ls : List (Option jv)) (st : List jv) (h : jh) : Vl d 68 5 ls st h = jcc d 68 (jex 68 [(5, .return_)] 5 ls st h) := Vl_ex _ (by decide +kernel) d 5 ls st h
theorem bF_passLetter_6 (d : Nat) (ls : List (Option jv)) (st : List jv) (h : jh) : Vl d 68 6 ls st h = jcc d 68 (jex 68 [(6, .iload_n 2), (7, .iconst 1), (8, .iadd), (9, .aload_n 1), (10, .arraylength), (11, .if_icmp .ge 9)] 6 ls st h) := Vl_ex _ (by decide +kernel) d 6 ls st h
theorem bF_passLetter_14 (d : Nat) (ls : List (Option jv)) (st : List jv) (h : jh) : Vl d 68 14 ls st h = jcc d 68 (jex 68 [(14, .iload_n 2), (15, .iconst 1), (16, .iadd), (17, .goto 7)] 14 ls st h) := Vl_ex _ (by decide +kernel) d 14 ls st h
theorem bF_passLetter_20 (d : Nat) (ls : List (Option jv)) (st : List jv) (h : jh) : Vl d 68 20 ls st h = jcc d 68 (jex 68 [(20, .aload_n 1), (21, .arraylength), (22, .iconst 1), (23, .isub)] 20 ls st h) := Vl_ex _ (by decide +kernel) d 20 ls st h
theorem bF_passLetter_24 (d : Nat) (ls : List (Option jv)) (st : List jv) (h : jh) : Vl d 68 24 ls st h = jcc d 68 (jex 68 [(24, .istore_n 3)] 24 ls st h) := Vl_ex _ (by decide +kernel) d 24 ls st h
theorem bF_passLetter_25 (d : Nat) (ls : List (Option jv)) (st : List jv) (h : jh) : Vl d 68 25 ls st h = jcc d 68 (jex 68 [(25, .iload_n 3), (26, .ifCond .le 39)] 25 ls st h) := Vl_ex _ (by decide +kernel) d 25 ls st h
theorem bF_passLetter_29 (d : Nat) (ls : List (Option jv)) (st : List jv) (h : jh) : Vl d 68 29 ls st h = jcc d 68 (jex 68 [(29, .aload_n 1), (30, .iload_n 3), (31, .aload_n 0), (32, .getfield 37), (35, .aload_n 1), (36, .iload_n 3), (37, .iconst 1), (38, .isub), (39, .iaload), (40, .sipush 255), (43, .iand), (44, .iaload), (45, .aload_n 0), (46, .getfield 40), (49, .aload_n 1), (50, .iload_n 3), (51, .iaload), (52, .sipush 255), (55, .iand), (56, .iaload), (57, .ixor), (58, .iastore), (59, .iinc 3 (-1)), (62, .goto (-37))] 29 ls st h) := Vl_ex _ (by decide +kernel) d 29 ls st h
theorem bF_passLetter_65 (d : Nat) (ls : List (Option jv)) (st : List jv) (h : jh) : Vl d 68 65 ls st h = jcc d 68 (jex 68 [(65, .aload_n 1), (66, .iconst 0), (67, .aload_n 0), (68, .getfield 40), (71, .aload_n 1), (72, .iconst 0), (73, .iaload), (74, .sipush 255), (77, .iand), (78, .iaload), (79, .iastore), (80, .return_)] 65 ls st h) := Vl_ex _ (by decide +kernel) d 65 ls st h
theorem bP_add_0 (d : Nat) (ls : List (Option jv)) (st : List jv) (h : jh) : Vl d 69 0 ls st h = jcc d 69 (jex 69 [(0, .iconst 0), (1, .istore_n 2)] 0 ls st h) := Vl_ex _ (by decide +kernel) d 0 ls st h
theorem bP_add_2 (d : Nat) (ls : List (Option jv)) (st : List jv) (h : jh) : Vl d 69 2 ls st h = jcc d 69 (jex 69 [(2, .iload_n 2), (3, .bipush 17), (5, .if_icmp .ge 24)] 2 ls st h) := Vl_ex _ (by decide +kernel) d 2 ls st h
theorem bP_add_8 (d : Nat) (ls : List (Option jv)) (st : List jv) (h : jh) : Vl d 69 8 ls st h = jcc d 69 (jex 69 [(8, .aload_n 0), (9, .getfield 9), (12, .iload_n 2), (13, .dup2), (14, .iaload), (15, .aload_n 1), (16, .getfield 9), (19, .iload_n 2), (20, .iaload), (21, .ixor), (22, .iastore), (23, .iinc 2 1), (26, .goto (-24))] 8 ls st h) := Vl_ex _ (by decide +kernel) d 8 ls st h
theorem bP_add_29 (d : Nat) (ls : List (Option jv)) (st : List jv) (h : jh) : Vl d 69 29 ls st h = jcc d 69 (jex 69 [(29, .return_)] 29 ls st h) := Vl_ex _ (by decide +kernel) d 29 ls st h
theorem bK_compare_0 (d : Nat) (ls : List (Option jv)) (st : List jv) (h : jh) : Vl d 71 0 ls st h = jcc d 71 (jex 71 [(0, .aload_n 0), (1, .getfield 21), (4, .aload_n 2), (5, .invokevirtual 79)] 0 ls st h) := Vl_ex _ (by decide +kernel) d 0 ls st h
theorem bK_compare_8 (d : Nat) (ls : List (Option jv)) (st : List jv) (h : jh) : Vl d 71 8 ls st h = jcc d 71 (jex 71 [(8, .aload_n 0), (9, .getfield 56), (12, .aload_n 3), (13, .invokevirtual 79)] 8 ls st h) := Vl_ex _ (by decide +kernel) d 8 ls st h
theorem bK_compare_16 (d : Nat) (ls : List (Option jv)) (st : List jv) (h : jh) : Vl d 71 16 ls st h = jcc d 71 (jex 71 [(16, .aload_n 0), (17, .getfield 25), (20, .iconst 1), (21, .invokevirtual 102)] 16 ls st h) := Vl_ex _ (by decide +kernel) d 16 ls st h
theorem bK_compare_24 (d : Nat) (ls : List (Option jv)) (st : List jv) (h : jh) : Vl d 71 24 ls st h = jcc d 71 (jex 71 [(24, .aload_n 0), (25, .getfield 59), (28, .invokevirtual 83)] 24 ls st h) := Vl_ex _ (by decide +kernel) d 24 ls st h
theorem bK_compare_31 (d : Nat) (ls : List (Option jv)) (st : List jv) (h : jh) : Vl d 71 31 ls st h = jcc d 71 (jex 71 [(31, .aload_n 0), (32, .getfield 28), (35, .invokevirtual 83)] 31 ls st h) := Vl_ex _ (by decide +kernel) d 31 ls st h
theorem bK_compare_38 (d : Nat) (ls : List (Option jv)) (st : List jv) (h : jh) : Vl d 71 38 ls st h = jcc d 71 (jex 71 [(38, .aload_n 0), (39, .getfield 62), (42, .iconst 1), (43, .invokevirtual 102)] 38 ls st h) := Vl_ex _ (by decide +kernel) d 38 ls st h
theorem bK_compare_46 (d : Nat) (ls : List (Option jv)) (st : List jv) (h : jh) : Vl d 71 46 ls st h = jcc d 71 (jex 71 [(46, .iconst 0), (47, .istore 4)] 46 ls st h) := Vl_ex _ (by decide +kernel) d 46 ls st h
theorem bK_compare_49 (d : Nat) (ls : List (Option jv)) (st : List jv) (h : jh) : Vl d 71 49 ls st h = jcc d 71 (jex 71 [(49, .iload 4), (51, .bipush 18), (53, .if_icmp .gt 89)] 49 ls st h) := Vl_ex _ (by decide +kernel) d 49 ls st h
theorem bK_compare_56 (d : Nat) (ls : List (Option jv)) (st : List jv) (h : jh) : Vl d 71 56 ls st h = jcc d 71 (jex 71 [(56, .aload_n 0), (57, .getfield 56), (60, .invokevirtual 133)] 56 ls st h) := Vl_ex _ (by decide +kernel) d 56 ls st h
theorem bK_compare_63 (d : Nat) (ls : List (Option jv)) (st : List jv) (h : jh) : Vl d 71 63 ls st h = jcc d 71 (jex 71 [(63, .ifCond .ne 79)] 63 ls st h) := Vl_ex _ (by decide +kernel) d 63 ls st h
theorem bK_compare_66 (d : Nat) (ls : List (Option jv)) (st : List jv) (h : jh) : Vl d 71 66 ls st h = jcc d 71 (jex 71 [(66, .aload_n 0), (67, .iload_n 1), (68, .aload_n 0), (69, .getfield 21), (72, .aload_n 0), (73, .getfield 56), (76, .aload_n 0), (77, .getfield 65), (80, .aload_n 0), (81, .getfield 68), (84, .invokevirtual 137)] 66 ls st h) := Vl_ex _ (by decide +kernel) d 66 ls st h
theorem bK_compare_87 (d : Nat) (ls : List (Option jv)) (st : List jv) (h : jh) : Vl d 71 87 ls st h = jcc d 71 (jex 71 [(87, .pop), (88, .aload_n 0), (89, .getfield 21), (92, .aload_n 0), (93, .getfield 56), (96, .invokevirtual 79)] 87 ls st h) := Vl_ex _ (by decide +kernel) d 87 ls st h
theorem bK_compare_99 (d : Nat) (ls : List (Option jv)) (st : List jv) (h : jh) : Vl d 71 99 ls st h = jcc d 71 (jex 71 [(99, .aload_n 0), (100, .getfield 56), (103, .aload_n 0), (104, .getfield 68), (107, .invokevirtual 79)] 99 ls st h) := Vl_ex _ (by decide +kernel) d 99 ls st h
theorem bK_compare_110 (d : Nat) (ls : List (Option jv)) (st : List jv) (h : jh) : Vl d 71 110 ls st h = jcc d 71 (jex 71 [(110, .aload_n 0), (111, .iload_n 1), (112, .aload_n 0), (113, .getfield 25), (116, .aload_n 0), (117, .getfield 59), (120, .invokevirtual 141)] 110 ls st h) := Vl_ex _ (by decide +kernel) d 110 ls st h
theorem bK_compare_123 (d : Nat) (ls : List (Option jv)) (st : List jv) (h : jh) : Vl d 71 123 ls st h = jcc d 71 (jex 71 [(123, .aload_n 0), (124, .iload_n 1), (125, .aload_n 0), (126, .getfield 28), (129, .aload_n 0), (130, .getfield 62), (133, .invokevirtual 141)] 123 ls st h) := Vl_ex _ (by decide +kernel) d 123 ls st h
theorem bK_compare_136 (d : Nat) (ls : List (Option jv)) (st : List jv) (h : jh) : Vl d 71 136 ls st h = jcc d 71 (jex 71 [(136, .iinc 4 1), (139, .goto (-90))] 136 ls st h) := Vl_ex _ (by decide +kernel) d 136 ls st h
theorem bK_compare_142 (d : Nat) (ls : List (Option jv)) (st : List jv) (h : jh) : Vl d 71 142 ls st h = jcc d 71 (jex 71 [(142, .aload_n 0), (143, .iload_n 1), (144, .aload_n 2), (145, .aload_n 3), (146, .invokevirtual 145)] 142 ls st h) := Vl_ex _ (by decide +kernel) d 142 ls st h
theorem bK_compare_149 (d : Nat) (ls : List (Option jv)) (st : List jv) (h : jh) : Vl d 71 149 ls st h = jcc d 71 (jex 71 [(149, .aload_n 0), (150, .iload_n 1), (151, .aload_n 0), (152, .iload_n 1), (153, .aload_n 0), (154, .getfield 31), (157, .invokevirtual 148)] 149 ls st h) := Vl_ex _ (by decide +kernel) d 149 ls st h
theorem bK_compare_160 (d : Nat) (ls : List (Option jv)) (st : List jv) (h : jh) : Vl d 71 160 ls st h = jcc d 71 (jex 71 [(160, .aload_n 0), (161, .getfield 31), (164, .invokevirtual 152)] 160 ls st h) := Vl_ex _ (by decide +kernel) d 160 ls st h
theorem bK_compare_167 (d : Nat) (ls : List (Option jv)) (st : List jv) (h : jh) : Vl d 71 167 ls st h = jcc d 71 (jex 71 [(167, .aload_n 0), (168, .iload_n 1), (169, .aload_n 0), (170, .getfield 21), (173, .invokevirtual 148)] 167 ls st h) := Vl_ex _ (by decide +kernel) d 167 ls st h
theorem bK_compare_176 (d : Nat) (ls : List (Option jv)) (st : List jv) (h : jh) : Vl d 71 176 ls st h = jcc d 71 (jex 71 [(176, .istore 4), (178, .aload_n 0), (179, .iload_n 1), (180, .iload 4), (182, .aload_n 0), (183, .getfield 21), (186, .invokevirtual 152)] 176 ls st h) := Vl_ex _ (by decide +kernel) d 176 ls st h
theorem bK_compare_189 (d : Nat) (ls : List (Option jv)) (st : List jv) (h : jh) : Vl d 71 189 ls st h = jcc d 71 (jex 71 [(189, .aload_n 0), (190, .iload_n 1), (191, .iload 4), (193, .aload_n 0), (194, .getfield 25), (197, .invokevirtual 152)] 189 ls st h) := Vl_ex _ (by decide +kernel) d 189 ls st h
theorem bK_compare_200 (d : Nat) (ls : List (Option jv)) (st : List jv) (h : jh) : Vl d 71 200 ls st h = jcc d 71 (jex 71 [(200, .aload_n 0), (201, .iload_n 1), (202, .iload 4), (204, .aload_n 0), (205, .getfield 28), (208, .invokevirtual 152)] 200 ls st h) := Vl_ex _ (by decide +kernel) d 200 ls st h
theorem bK_compare_211 (d : Nat) (ls : List (Option jv)) (st : List jv) (h : jh) : Vl d 71 211 ls st h = jcc d 71 (jex 71 [(211, .return_)] 211 ls st h) := Vl_ex _ (by decide +kernel) d 211 ls st h
theorem bP_constant_0 (d : Nat) (ls : List (Option jv)) (st : List jv) (h : jh) : Vl d 72 0 ls st h = jcc d 72 (jex 72 [(0, .aload_n 0), (1, .invokevirtual 19)] 0 ls st h) := Vl_ex _ (by decide +kernel) d 0 ls st h
theorem bP_constant_4 (d : Nat) (ls : List (Option jv)) (st : List jv) (h : jh) : Vl d 72 4 ls st h = jcc d 72 (jex 72 [(4, .aload_n 0), (5, .getfield 9), (8, .iconst 0), (9, .iload_n 1), (10, .iastore), (11, .return_)] 4 ls st h) := Vl_ex _ (by decide +kernel) d 4 ls st h
theorem bP_isZero_0 (d : Nat) (ls : List (Option jv)) (st : List jv) (h : jh) : Vl d 73 0 ls st h = jcc d 73 (jex 73 [(0, .aload_n 0), (1, .invokevirtual 15)] 0 ls st h) := Vl_ex _ (by decide +kernel) d 0 ls st h
theorem bP_isZero_4 (d : Nat) (ls : List (Option jv)) (st : List jv) (h : jh) : Vl d 73 4 ls st h = jcc d 73 (jex 73 [(4, .ifCond .ge 7)] 4 ls st h) := Vl_ex _ (by decide +kernel) d 4 ls st h
theorem bP_isZero_7 (d : Nat) (ls : List (Option jv)) (st : List jv) (h : jh) : Vl d 73 7 ls st h = jcc d 73 (jex 73 [(7, .iconst 1), (8, .goto 4)] 7 ls st h) := Vl_ex _ (by decide +kernel) d 7 ls st h
theorem bP_isZero_11 (d : Nat) (ls : List (Option jv)) (st : List jv) (h : jh) : Vl d 73 11 ls st h = jcc d 73 (jex 73 [(11, .iconst 0)] 11 ls st h) := Vl_ex _ (by decide +kernel) d 11 ls st h
theorem bP_isZero_12 (d : Nat) (ls : List (Option jv)) (st : List jv) (h : jh) : Vl d 73 12 ls st h = jcc d 73 (jex 73 [(12, .ireturn)] 12 ls st h) := Vl_ex _ (by decide +kernel) d 12 ls st h
theorem bK_stepOn_0 (d : Nat) (ls : List (Option jv)) (st : List jv) (h : jh) : Vl d 74 0 ls st h = jcc d 74 (jex 74 [(0, .aload_n 0), (1, .iload_n 1), (2, .aload_n 0), (3, .getfield 65), (6, .aload_n 3), (7, .aload_n 0), (8, .getfield 68), (11, .invokevirtual 71)] 0 ls st h) := Vl_ex _ (by decide +kernel) d 0 ls st h
theorem bK_stepOn_14 (d : Nat) (ls : List (Option jv)) (st : List jv) (h : jh) : Vl d 74 14 ls st h = jcc d 74 (jex 74 [(14, .pop), (15, .aload_n 2), (16, .aload_n 0), (17, .getfield 68), (20, .invokevirtual 121)] 14 ls st h) := Vl_ex _ (by decide +kernel) d 14 ls st h
theorem bK_stepOn_23 (d : Nat) (ls : List (Option jv)) (st : List jv) (h : jh) : Vl d 74 23 ls st h = jcc d 74 (jex 74 [(23, .aload_n 2), (24, .aload_n 3), (25, .invokevirtual 156)] 23 ls st h) := Vl_ex _ (by decide +kernel) d 23 ls st h
theorem bK_stepOn_28 (d : Nat) (ls : List (Option jv)) (st : List jv) (h : jh) : Vl d 74 28 ls st h = jcc d 74 (jex 74 [(28, .return_)] 28 ls st h) := Vl_ex _ (by decide +kernel) d 28 ls st h
theorem bP_swap_0 (d : Nat) (ls : List (Option jv)) (st : List jv) (h : jh) : Vl d 75 0 ls st h = jcc d 75 (jex 75 [(0, .iconst 0), (1, .istore_n 2)] 0 ls st h) := Vl_ex _ (by decide +kernel) d 0 ls st h
theorem bP_swap_2 (d : Nat) (ls : List (Option jv)) (st : List jv) (h : jh) : Vl d 75 2 ls st h = jcc d 75 (jex 75 [(2, .iload_n 2), (3, .bipush 17), (5, .if_icmp .ge 35)] 2 ls st h) := Vl_ex _ (by decide +kernel) d 2 ls st h
theorem bP_swap_8 (d : Nat) (ls : List (Option jv)) (st : List jv) (h : jh) : Vl d 75 8 ls st h = jcc d 75 (jex 75 [(8, .aload_n 0), (9, .getfield 9), (12, .iload_n 2), (13, .iaload), (14, .istore_n 3), (15, .aload_n 0), (16, .getfield 9), (19, .iload_n 2), (20, .aload_n 1), (21, .getfield 9), (24, .iload_n 2), (25, .iaload), (26, .iastore), (27, .aload_n 1), (28, .getfield 9), (31, .iload_n 2), (32, .iload_n 3), (33, .iastore), (34, .iinc 2 1), (37, .goto (-35))] 8 ls st h) := Vl_ex _ (by decide +kernel) d 8 ls st h
theorem bP_swap_40 (d : Nat) (ls : List (Option jv)) (st : List jv) (h : jh) : Vl d 75 40 ls st h = jcc d 75 (jex 75 [(40, .return_)] 40 ls st h) := Vl_ex _ (by decide +kernel) d 40 ls st h
theorem bK_makeMultiple_0 (d : Nat) (ls : List (Option jv)) (st : List jv) (h : jh) : Vl d 76 0 ls st h = jcc d 76 (jex 76 [(0, .aload_n 0), (1, .getfield 31), (4, .invokevirtual 83)] 0 ls st h) := Vl_ex _ (by decide +kernel) d 0 ls st h
theorem bK_makeMultiple_7 (d : Nat) (ls : List (Option jv)) (st : List jv) (h : jh) : Vl d 76 7 ls st h = jcc d 76 (jex 76 [(7, .aload_n 0), (8, .iconst 1), (9, .putfield 34), (12, .aload_n 2), (13, .invokevirtual 133)] 7 ls st h) := Vl_ex _ (by decide +kernel) d 7 ls st h
theorem bK_makeMultiple_16 (d : Nat) (ls : List (Option jv)) (st : List jv) (h : jh) : Vl d 76 16 ls st h = jcc d 76 (jex 76 [(16, .ifCond .ne 10)] 16 ls st h) := Vl_ex _ (by decide +kernel) d 16 ls st h
theorem bK_makeMultiple_19 (d : Nat) (ls : List (Option jv)) (st : List jv) (h : jh) : Vl d 76 19 ls st h = jcc d 76 (jex 76 [(19, .aload_n 3), (20, .invokevirtual 133)] 19 ls st h) := Vl_ex _ (by decide +kernel) d 19 ls st h
theorem bK_makeMultiple_23 (d : Nat) (ls : List (Option jv)) (st : List jv) (h : jh) : Vl d 76 23 ls st h = jcc d 76 (jex 76 [(23, .ifCond .eq 4)] 23 ls st h) := Vl_ex _ (by decide +kernel) d 23 ls st h
theorem bK_makeMultiple_26 (d : Nat) (ls : List (Option jv)) (st : List jv) (h : jh) : Vl d 76 26 ls st h = jcc d 76 (jex 76 [(26, .return_)] 26 ls st h) := Vl_ex _ (by decide +kernel) d 26 ls st h
theorem bK_makeMultiple_27 (d : Nat) (ls : List (Option jv)) (st : List jv) (h : jh) : Vl d 76 27 ls st h = jcc d 76 (jex 76 [(27, .aload_n 0), (28, .aload_n 2), (29, .invokevirtual 75)] 27 ls st h) := Vl_ex _ (by decide +kernel) d 27 ls st h
theorem bK_makeMultiple_32 (d : Nat) (ls : List (Option jv)) (st : List jv) (h : jh) : Vl d 76 32 ls st h = jcc d 76 (jex 76 [(32, .aload_n 3), (33, .invokevirtual 75)] 32 ls st h) := Vl_ex _ (by decide +kernel) d 32 ls st h
theorem bK_makeMultiple_36 (d : Nat) (ls : List (Option jv)) (st : List jv) (h : jh) : Vl d 76 36 ls st h = jcc d 76 (jex 76 [(36, .iadd), (37, .aload_n 0), (38, .getfield 21), (41, .invokevirtual 75)] 36 ls st h) := Vl_ex _ (by decide +kernel) d 36 ls st h
theorem bK_makeMultiple_44 (d : Nat) (ls : List (Option jv)) (st : List jv) (h : jh) : Vl d 76 44 ls st h = jcc d 76 (jex 76 [(44, .isub), (45, .bipush 16), (47, .if_icmp .gt 7)] 44 ls st h) := Vl_ex _ (by decide +kernel) d 44 ls st h
theorem bK_makeMultiple_50 (d : Nat) (ls : List (Option jv)) (st : List jv) (h : jh) : Vl d 76 50 ls st h = jcc d 76 (jex 76 [(50, .iconst 1), (51, .goto 4)] 50 ls st h) := Vl_ex _ (by decide +kernel) d 50 ls st h
theorem bK_makeMultiple_54 (d : Nat) (ls : List (Option jv)) (st : List jv) (h : jh) : Vl d 76 54 ls st h = jcc d 76 (jex 76 [(54, .iconst 0)] 54 ls st h) := Vl_ex _ (by decide +kernel) d 54 ls st h
theorem bK_makeMultiple_55 (d : Nat) (ls : List (Option jv)) (st : List jv) (h : jh) : Vl d 76 55 ls st h = jcc d 76 (jex 76 [(55, .putfield 34), (58, .aload_n 0), (59, .getfield 34), (62, .ifCond .eq 18)] 55 ls st h) := Vl_ex _ (by decide +kernel) d 55 ls st h
theorem bK_makeMultiple_65 (d : Nat) (ls : List (Option jv)) (st : List jv) (h : jh) : Vl d 76 65 ls st h = jcc d 76 (jex 76 [(65, .aload_n 0), (66, .iload_n 1), (67, .aload_n 0), (68, .getfield 59), (71, .aload_n 2), (72, .aload_n 0), (73, .getfield 31), (76, .invokevirtual 71)] 65 ls st h) := Vl_ex _ (by decide +kernel) d 65 ls st h
theorem bK_makeMultiple_79 (d : Nat) (ls : List (Option jv)) (st : List jv) (h : jh) : Vl d 76 79 ls st h = jcc d 76 (jex 76 [(79, .pop)] 79 ls st h) := Vl_ex _ (by decide +kernel) d 79 ls st h
theorem bK_makeMultiple_80 (d : Nat) (ls : List (Option jv)) (st : List jv) (h : jh) : Vl d 76 80 ls st h = jcc d 76 (jex 76 [(80, .return_)] 80 ls st h) := Vl_ex _ (by decide +kernel) d 80 ls st h
theorem bK_monicNumber_0 (d : Nat) (ls : List (Option jv)) (st : List jv) (h : jh) : Vl d 77 0 ls st h = jcc d 77 (jex 77 [(0, .aload_n 2), (1, .invokevirtual 75)] 0 ls st h) := Vl_ex _ (by decide +kernel) d 0 ls st h
theorem bK_monicNumber_4 (d : Nat) (ls : List (Option jv)) (st : List jv) (h : jh) : Vl d 77 4 ls st h = jcc d 77 (jex 77 [(4, .istore_n 3), (5, .aload_n 0), (6, .getfield 12), (9, .aload_n 2), (10, .iload_n 3), (11, .invokevirtual 90)] 4 ls st h) := Vl_ex _ (by decide +kernel) d 4 ls st h
theorem bK_monicNumber_14 (d : Nat) (ls : List (Option jv)) (st : List jv) (h : jh) : Vl d 77 14 ls st h = jcc d 77 (jex 77 [(14, .invokevirtual 110)] 14 ls st h) := Vl_ex _ (by decide +kernel) d 14 ls st h
theorem bK_monicNumber_17 (d : Nat) (ls : List (Option jv)) (st : List jv) (h : jh) : Vl d 77 17 ls st h = jcc d 77 (jex 77 [(17, .istore 4), (19, .iload_n 1), (20, .ifCond .ne 8)] 17 ls st h) := Vl_ex _ (by decide +kernel) d 17 ls st h
theorem bK_monicNumber_23 (d : Nat) (ls : List (Option jv)) (st : List jv) (h : jh) : Vl d 77 23 ls st h = jcc d 77 (jex 77 [(23, .iload 4), (25, .goto 17)] 23 ls st h) := Vl_ex _ (by decide +kernel) d 23 ls st h
theorem bK_monicNumber_28 (d : Nat) (ls : List (Option jv)) (st : List jv) (h : jh) : Vl d 77 28 ls st h = jcc d 77 (jex 77 [(28, .aload_n 0), (29, .getfield 12), (32, .iload 4), (34, .iload_n 3), (35, .iconst 0), (36, .invokestatic 159), (39, .invokevirtual 130)] 28 ls st h) := Vl_ex _ (by decide +kernel) d 28 ls st h
theorem bK_monicNumber_42 (d : Nat) (ls : List (Option jv)) (st : List jv) (h : jh) : Vl d 77 42 ls st h = jcc d 77 (jex 77 [(42, .ireturn)] 42 ls st h) := Vl_ex _ (by decide +kernel) d 42 ls st h
theorem bK_scale_0 (d : Nat) (ls : List (Option jv)) (st : List jv) (h : jh) : Vl d 78 0 ls st h = jcc d 78 (jex 78 [(0, .aload_n 0), (1, .getfield 47), (4, .iload_n 2), (5, .invokevirtual 102)] 0 ls st h) := Vl_ex _ (by decide +kernel) d 0 ls st h
theorem bK_scale_8 (d : Nat) (ls : List (Option jv)) (st : List jv) (h : jh) : Vl d 78 8 ls st h = jcc d 78 (jex 78 [(8, .aload_n 0), (9, .iload_n 1), (10, .aload_n 0), (11, .getfield 47), (14, .aload_n 3), (15, .aload_n 3), (16, .invokevirtual 71)] 8 ls st h) := Vl_ex _ (by decide +kernel) d 8 ls st h
theorem bK_scale_19 (d : Nat) (ls : List (Option jv)) (st : List jv) (h : jh) : Vl d 78 19 ls st h = jcc d 78 (jex 78 [(19, .pop), (20, .return_)] 19 ls st h) := Vl_ex _ (by decide +kernel) d 19 ls st h
theorem bP_letter_0 (d : Nat) (ls : List (Option jv)) (st : List jv) (h : jh) : Vl d 79 0 ls st h = jcc d 79 (jex 79 [(0, .aload_n 0), (1, .invokevirtual 19)] 0 ls st h) := Vl_ex _ (by decide +kernel) d 0 ls st h
theorem bP_letter_4 (d : Nat) (ls : List (Option jv)) (st : List jv) (h : jh) : Vl d 79 4 ls st h = jcc d 79 (jex 79 [(4, .aload_n 0), (5, .getfield 9), (8, .iconst 1), (9, .iconst 1), (10, .iastore), (11, .return_)] 4 ls st h) := Vl_ex _ (by decide +kernel) d 4 ls st h
theorem bT_named_0 (d : Nat) (ls : List (Option jv)) (st : List jv) (h : jh) : Vl d 80 0 ls st h = jcc d 80 (jex 80 [(0, .iload_n 1), (1, .ifCond .lt 26)] 0 ls st h) := Vl_ex _ (by decide +kernel) d 0 ls st h
theorem bT_named_4 (d : Nat) (ls : List (Option jv)) (st : List jv) (h : jh) : Vl d 80 4 ls st h = jcc d 80 (jex 80 [(4, .iload_n 1), (5, .aload_n 0), (6, .getfield 45), (9, .if_icmp .ge 18)] 4 ls st h) := Vl_ex _ (by decide +kernel) d 4 ls st h
theorem bT_named_12 (d : Nat) (ls : List (Option jv)) (st : List jv) (h : jh) : Vl d 80 12 ls st h = jcc d 80 (jex 80 [(12, .iload_n 1), (13, .bipush 12), (15, .if_icmp .ge 12)] 12 ls st h) := Vl_ex _ (by decide +kernel) d 12 ls st h
theorem bT_named_18 (d : Nat) (ls : List (Option jv)) (st : List jv) (h : jh) : Vl d 80 18 ls st h = jcc d 80 (jex 80 [(18, .aload_n 0), (19, .getfield 13), (22, .iload_n 1), (23, .aaload), (24, .goto 4)] 18 ls st h) := Vl_ex _ (by decide +kernel) d 18 ls st h
theorem bT_named_27 (d : Nat) (ls : List (Option jv)) (st : List jv) (h : jh) : Vl d 80 27 ls st h = jcc d 80 (jex 80 [(27, .aconst_null)] 27 ls st h) := Vl_ex _ (by decide +kernel) d 27 ls st h
theorem bT_named_28 (d : Nat) (ls : List (Option jv)) (st : List jv) (h : jh) : Vl d 80 28 ls st h = jcc d 80 (jex 80 [(28, .areturn)] 28 ls st h) := Vl_ex _ (by decide +kernel) d 28 ls st h
theorem bK_raise_0 (d : Nat) (ls : List (Option jv)) (st : List jv) (h : jh) : Vl d 81 0 ls st h = jcc d 81 (jex 81 [(0, .aload_n 1), (1, .invokevirtual 75)] 0 ls st h) := Vl_ex _ (by decide +kernel) d 0 ls st h
theorem bK_raise_4 (d : Nat) (ls : List (Option jv)) (st : List jv) (h : jh) : Vl d 81 4 ls st h = jcc d 81 (jex 81 [(4, .iload_n 2), (5, .imul), (6, .bipush 16), (8, .if_icmp .le 5)] 4 ls st h) := Vl_ex _ (by decide +kernel) d 4 ls st h
theorem bK_raise_11 (d : Nat) (ls : List (Option jv)) (st : List jv) (h : jh) : Vl d 81 11 ls st h = jcc d 81 (jex 81 [(11, .iconst 0), (12, .ireturn)] 11 ls st h) := Vl_ex _ (by decide +kernel) d 11 ls st h
theorem bK_raise_13 (d : Nat) (ls : List (Option jv)) (st : List jv) (h : jh) : Vl d 81 13 ls st h = jcc d 81 (jex 81 [(13, .aload_n 0), (14, .getfield 68), (17, .iconst 1), (18, .invokevirtual 102)] 13 ls st h) := Vl_ex _ (by decide +kernel) d 13 ls st h
theorem bK_raise_21 (d : Nat) (ls : List (Option jv)) (st : List jv) (h : jh) : Vl d 81 21 ls st h = jcc d 81 (jex 81 [(21, .iconst 0), (22, .istore_n 3)] 21 ls st h) := Vl_ex _ (by decide +kernel) d 21 ls st h
theorem bK_raise_23 (d : Nat) (ls : List (Option jv)) (st : List jv) (h : jh) : Vl d 81 23 ls st h = jcc d 81 (jex 81 [(23, .iload_n 3), (24, .iload_n 2), (25, .if_icmp .ge 23)] 23 ls st h) := Vl_ex _ (by decide +kernel) d 23 ls st h
theorem bK_raise_28 (d : Nat) (ls : List (Option jv)) (st : List jv) (h : jh) : Vl d 81 28 ls st h = jcc d 81 (jex 81 [(28, .aload_n 0), (29, .aload_n 0), (30, .getfield 68), (33, .aload_n 1), (34, .aload_n 0), (35, .getfield 68), (38, .invokevirtual 106)] 28 ls st h) := Vl_ex _ (by decide +kernel) d 28 ls st h
theorem bK_raise_41 (d : Nat) (ls : List (Option jv)) (st : List jv) (h : jh) : Vl d 81 41 ls st h = jcc d 81 (jex 81 [(41, .pop), (42, .iinc 3 1), (45, .goto (-22))] 41 ls st h) := Vl_ex _ (by decide +kernel) d 41 ls st h
theorem bK_raise_48 (d : Nat) (ls : List (Option jv)) (st : List jv) (h : jh) : Vl d 81 48 ls st h = jcc d 81 (jex 81 [(48, .aload_n 1), (49, .aload_n 0), (50, .getfield 68), (53, .invokevirtual 79)] 48 ls st h) := Vl_ex _ (by decide +kernel) d 48 ls st h
theorem bK_raise_56 (d : Nat) (ls : List (Option jv)) (st : List jv) (h : jh) : Vl d 81 56 ls st h = jcc d 81 (jex 81 [(56, .iconst 1), (57, .ireturn)] 56 ls st h) := Vl_ex _ (by decide +kernel) d 56 ls st h
theorem bK_multiply_0 (d : Nat) (ls : List (Option jv)) (st : List jv) (h : jh) : Vl d 82 0 ls st h = jcc d 82 (jex 82 [(0, .aload_n 0), (1, .iconst 0), (2, .aload_n 1), (3, .aload_n 2), (4, .aload_n 3), (5, .invokevirtual 71)] 0 ls st h) := Vl_ex _ (by decide +kernel) d 0 ls st h
theorem bK_multiply_8 (d : Nat) (ls : List (Option jv)) (st : List jv) (h : jh) : Vl d 82 8 ls st h = jcc d 82 (jex 82 [(8, .ireturn)] 8 ls st h) := Vl_ex _ (by decide +kernel) d 8 ls st h
theorem bT_putName_0 (d : Nat) (ls : List (Option jv)) (st : List jv) (h : jh) : Vl d 83 0 ls st h = jcc d 83 (jex 83 [(0, .iload_n 1), (1, .ifCond .lt 33)] 0 ls st h) := Vl_ex _ (by decide +kernel) d 0 ls st h
theorem bT_putName_4 (d : Nat) (ls : List (Option jv)) (st : List jv) (h : jh) : Vl d 83 4 ls st h = jcc d 83 (jex 83 [(4, .iload_n 1), (5, .bipush 12), (7, .if_icmp .ge 27)] 4 ls st h) := Vl_ex _ (by decide +kernel) d 4 ls st h
theorem bT_putName_10 (d : Nat) (ls : List (Option jv)) (st : List jv) (h : jh) : Vl d 83 10 ls st h = jcc d 83 (jex 83 [(10, .aload_n 0), (11, .getfield 13), (14, .iload_n 1), (15, .aaload), (16, .aload_n 2), (17, .invokevirtual 60)] 10 ls st h) := Vl_ex _ (by decide +kernel) d 10 ls st h
theorem bT_putName_20 (d : Nat) (ls : List (Option jv)) (st : List jv) (h : jh) : Vl d 83 20 ls st h = jcc d 83 (jex 83 [(20, .aload_n 0), (21, .aload_n 0), (22, .getfield 45), (25, .iload_n 1), (26, .iconst 1), (27, .iadd), (28, .invokestatic 66), (31, .putfield 45)] 20 ls st h) := Vl_ex _ (by decide +kernel) d 20 ls st h
theorem bT_putName_34 (d : Nat) (ls : List (Option jv)) (st : List jv) (h : jh) : Vl d 83 34 ls st h = jcc d 83 (jex 83 [(34, .return_)] 34 ls st h) := Vl_ex _ (by decide +kernel) d 34 ls st h
theorem bT_copy_0 (d : Nat) (ls : List (Option jv)) (st : List jv) (h : jh) : Vl d 84 0 ls st h = jcc d 84 (jex 84 [(0, .aload_n 0), (1, .aload_n 1), (2, .getfield 32), (5, .putfield 32), (8, .aload_n 0), (9, .aload_n 1), (10, .getfield 36), (13, .putfield 36), (16, .aload_n 0), (17, .aload_n 1), (18, .getfield 39), (21, .putfield 39), (24, .aload_n 0), (25, .aload_n 1), (26, .getfield 42), (29, .putfield 42), (32, .aload_n 0), (33, .aload_n 1), (34, .getfield 45), (37, .putfield 45), (40, .aload_n 0), (41, .aload_n 1), (42, .getfield 48), (45, .putfield 48), (48, .aload_n 0), (49, .aload_n 1), (50, .getfield 51), (53, .putfield 51), (56, .iconst 0), (57, .istore_n 2)] 0 ls st h) := Vl_ex _ (by decide +kernel) d 0 ls st h
theorem bT_copy_58 (d : Nat) (ls : List (Option jv)) (st : List jv) (h : jh) : Vl d 84 58 ls st h = jcc d 84 (jex 84 [(58, .iload_n 2), (59, .bipush 12), (61, .if_icmp .ge 24)] 58 ls st h) := Vl_ex _ (by decide +kernel) d 58 ls st h
theorem bT_copy_64 (d : Nat) (ls : List (Option jv)) (st : List jv) (h : jh) : Vl d 84 64 ls st h = jcc d 84 (jex 84 [(64, .aload_n 0), (65, .getfield 13), (68, .iload_n 2), (69, .aaload), (70, .aload_n 1), (71, .getfield 13), (74, .iload_n 2), (75, .aaload), (76, .invokevirtual 60)] 64 ls st h) := Vl_ex _ (by decide +kernel) d 64 ls st h
theorem bT_copy_79 (d : Nat) (ls : List (Option jv)) (st : List jv) (h : jh) : Vl d 84 79 ls st h = jcc d 84 (jex 84 [(79, .iinc 2 1), (82, .goto (-24))] 79 ls st h) := Vl_ex _ (by decide +kernel) d 79 ls st h
theorem bT_copy_85 (d : Nat) (ls : List (Option jv)) (st : List jv) (h : jh) : Vl d 84 85 ls st h = jcc d 84 (jex 84 [(85, .iconst 0), (86, .istore_n 2)] 85 ls st h) := Vl_ex _ (by decide +kernel) d 85 ls st h
theorem bT_copy_87 (d : Nat) (ls : List (Option jv)) (st : List jv) (h : jh) : Vl d 84 87 ls st h = jcc d 84 (jex 84 [(87, .iload_n 2), (88, .bipush 8), (90, .if_icmp .ge 21)] 87 ls st h) := Vl_ex _ (by decide +kernel) d 87 ls st h
theorem bT_copy_93 (d : Nat) (ls : List (Option jv)) (st : List jv) (h : jh) : Vl d 84 93 ls st h = jcc d 84 (jex 84 [(93, .aload_n 0), (94, .getfield 19), (97, .iload_n 2), (98, .aload_n 1), (99, .getfield 19), (102, .iload_n 2), (103, .iaload), (104, .iastore), (105, .iinc 2 1), (108, .goto (-21))] 93 ls st h) := Vl_ex _ (by decide +kernel) d 93 ls st h
theorem bT_copy_111 (d : Nat) (ls : List (Option jv)) (st : List jv) (h : jh) : Vl d 84 111 ls st h = jcc d 84 (jex 84 [(111, .iconst 0), (112, .istore_n 2)] 111 ls st h) := Vl_ex _ (by decide +kernel) d 111 ls st h
theorem bT_copy_113 (d : Nat) (ls : List (Option jv)) (st : List jv) (h : jh) : Vl d 84 113 ls st h = jcc d 84 (jex 84 [(113, .iload_n 2), (114, .bipush 16), (116, .if_icmp .ge 36)] 113 ls st h) := Vl_ex _ (by decide +kernel) d 113 ls st h
theorem bT_copy_119 (d : Nat) (ls : List (Option jv)) (st : List jv) (h : jh) : Vl d 84 119 ls st h = jcc d 84 (jex 84 [(119, .aload_n 0), (120, .getfield 23), (123, .iload_n 2), (124, .aaload), (125, .aload_n 1), (126, .getfield 23), (129, .iload_n 2), (130, .aaload), (131, .invokevirtual 60)] 119 ls st h) := Vl_ex _ (by decide +kernel) d 119 ls st h
theorem bT_copy_134 (d : Nat) (ls : List (Option jv)) (st : List jv) (h : jh) : Vl d 84 134 ls st h = jcc d 84 (jex 84 [(134, .aload_n 0), (135, .getfield 26), (138, .iload_n 2), (139, .aload_n 1), (140, .getfield 26), (143, .iload_n 2), (144, .iaload), (145, .iastore), (146, .iinc 2 1), (149, .goto (-36))] 134 ls st h) := Vl_ex _ (by decide +kernel) d 134 ls st h
theorem bT_copy_152 (d : Nat) (ls : List (Option jv)) (st : List jv) (h : jh) : Vl d 84 152 ls st h = jcc d 84 (jex 84 [(152, .return_)] 152 ls st h) := Vl_ex _ (by decide +kernel) d 152 ls st h
theorem bF_has_0 (d : Nat) (ls : List (Option jv)) (st : List jv) (h : jh) : Vl d 87 0 ls st h = jcc d 87 (jex 87 [(0, .iload_n 1), (1, .ifCond .lt 15)] 0 ls st h) := Vl_ex _ (by decide +kernel) d 0 ls st h
theorem bF_has_4 (d : Nat) (ls : List (Option jv)) (st : List jv) (h : jh) : Vl d 87 4 ls st h = jcc d 87 (jex 87 [(4, .iload_n 1), (5, .aload_n 0), (6, .getfield 24), (9, .if_icmp .ge 7)] 4 ls st h) := Vl_ex _ (by decide +kernel) d 4 ls st h
theorem bF_has_12 (d : Nat) (ls : List (Option jv)) (st : List jv) (h : jh) : Vl d 87 12 ls st h = jcc d 87 (jex 87 [(12, .iconst 1), (13, .goto 4)] 12 ls st h) := Vl_ex _ (by decide +kernel) d 12 ls st h
theorem bF_has_16 (d : Nat) (ls : List (Option jv)) (st : List jv) (h : jh) : Vl d 87 16 ls st h = jcc d 87 (jex 87 [(16, .iconst 0)] 16 ls st h) := Vl_ex _ (by decide +kernel) d 16 ls st h
theorem bF_has_17 (d : Nat) (ls : List (Option jv)) (st : List jv) (h : jh) : Vl d 87 17 ls st h = jcc d 87 (jex 87 [(17, .ireturn)] 17 ls st h) := Vl_ex _ (by decide +kernel) d 17 ls st h
theorem bF_slopeOf_0 (d : Nat) (ls : List (Option jv)) (st : List jv) (h : jh) : Vl d 90 0 ls st h = jcc d 90 (jex 90 [(0, .aload_n 0), (1, .getfield 40), (4, .iload_n 1), (5, .sipush 255), (8, .iand), (9, .iaload), (10, .ireturn)] 0 ls st h) := Vl_ex _ (by decide +kernel) d 0 ls st h
theorem bF_hasAll_0 (d : Nat) (ls : List (Option jv)) (st : List jv) (h : jh) : Vl d 98 0 ls st h = jcc d 98 (jex 98 [(0, .iload_n 2), (1, .ifCond .lt 9)] 0 ls st h) := Vl_ex _ (by decide +kernel) d 0 ls st h
theorem bF_hasAll_4 (d : Nat) (ls : List (Option jv)) (st : List jv) (h : jh) : Vl d 98 4 ls st h = jcc d 98 (jex 98 [(4, .iload_n 3), (5, .aload_n 1), (6, .arraylength), (7, .if_icmp .le 5)] 4 ls st h) := Vl_ex _ (by decide +kernel) d 4 ls st h
theorem bF_hasAll_10 (d : Nat) (ls : List (Option jv)) (st : List jv) (h : jh) : Vl d 98 10 ls st h = jcc d 98 (jex 98 [(10, .iconst 0), (11, .ireturn)] 10 ls st h) := Vl_ex _ (by decide +kernel) d 10 ls st h
theorem bF_hasAll_12 (d : Nat) (ls : List (Option jv)) (st : List jv) (h : jh) : Vl d 98 12 ls st h = jcc d 98 (jex 98 [(12, .iload_n 2), (13, .istore 4)] 12 ls st h) := Vl_ex _ (by decide +kernel) d 12 ls st h
theorem bF_hasAll_15 (d : Nat) (ls : List (Option jv)) (st : List jv) (h : jh) : Vl d 98 15 ls st h = jcc d 98 (jex 98 [(15, .iload 4), (17, .iload_n 3), (18, .if_icmp .ge 22)] 15 ls st h) := Vl_ex _ (by decide +kernel) d 15 ls st h
theorem bF_hasAll_21 (d : Nat) (ls : List (Option jv)) (st : List jv) (h : jh) : Vl d 98 21 ls st h = jcc d 98 (jex 98 [(21, .aload_n 0), (22, .aload_n 1), (23, .iload 4), (25, .iaload), (26, .invokevirtual 58)] 21 ls st h) := Vl_ex _ (by decide +kernel) d 21 ls st h
theorem bF_hasAll_29 (d : Nat) (ls : List (Option jv)) (st : List jv) (h : jh) : Vl d 98 29 ls st h = jcc d 98 (jex 98 [(29, .ifCond .ne 5)] 29 ls st h) := Vl_ex _ (by decide +kernel) d 29 ls st h
theorem bF_hasAll_32 (d : Nat) (ls : List (Option jv)) (st : List jv) (h : jh) : Vl d 98 32 ls st h = jcc d 98 (jex 98 [(32, .iconst 0), (33, .ireturn)] 32 ls st h) := Vl_ex _ (by decide +kernel) d 32 ls st h
theorem bF_hasAll_34 (d : Nat) (ls : List (Option jv)) (st : List jv) (h : jh) : Vl d 98 34 ls st h = jcc d 98 (jex 98 [(34, .iinc 4 1), (37, .goto (-22))] 34 ls st h) := Vl_ex _ (by decide +kernel) d 34 ls st h
theorem bF_hasAll_40 (d : Nat) (ls : List (Option jv)) (st : List jv) (h : jh) : Vl d 98 40 ls st h = jcc d 98 (jex 98 [(40, .iconst 1), (41, .ireturn)] 40 ls st h) := Vl_ex _ (by decide +kernel) d 40 ls st h
theorem bT_remember_0 (d : Nat) (ls : List (Option jv)) (st : List jv) (h : jh) : Vl d 99 0 ls st h = jcc d 99 (jex 99 [(0, .iload_n 1), (1, .ifCond .lt 9)] 0 ls st h) := Vl_ex _ (by decide +kernel) d 0 ls st h
theorem bT_remember_4 (d : Nat) (ls : List (Option jv)) (st : List jv) (h : jh) : Vl d 99 4 ls st h = jcc d 99 (jex 99 [(4, .iload_n 1), (5, .bipush 12), (7, .if_icmp .lt 4)] 4 ls st h) := Vl_ex _ (by decide +kernel) d 4 ls st h
theorem bT_remember_10 (d : Nat) (ls : List (Option jv)) (st : List jv) (h : jh) : Vl d 99 10 ls st h = jcc d 99 (jex 99 [(10, .return_)] 10 ls st h) := Vl_ex _ (by decide +kernel) d 10 ls st h
theorem bT_remember_11 (d : Nat) (ls : List (Option jv)) (st : List jv) (h : jh) : Vl d 99 11 ls st h = jcc d 99 (jex 99 [(11, .aload_n 0), (12, .getfield 51), (15, .bipush 16), (17, .if_icmp .lt 54)] 11 ls st h) := Vl_ex _ (by decide +kernel) d 11 ls st h
theorem bT_remember_20 (d : Nat) (ls : List (Option jv)) (st : List jv) (h : jh) : Vl d 99 20 ls st h = jcc d 99 (jex 99 [(20, .iconst 1), (21, .istore_n 2)] 20 ls st h) := Vl_ex _ (by decide +kernel) d 20 ls st h
theorem bT_remember_22 (d : Nat) (ls : List (Option jv)) (st : List jv) (h : jh) : Vl d 99 22 ls st h = jcc d 99 (jex 99 [(22, .iload_n 2), (23, .bipush 16), (25, .if_icmp .ge 40)] 22 ls st h) := Vl_ex _ (by decide +kernel) d 22 ls st h
theorem bT_remember_28 (d : Nat) (ls : List (Option jv)) (st : List jv) (h : jh) : Vl d 99 28 ls st h = jcc d 99 (jex 99 [(28, .aload_n 0), (29, .getfield 23), (32, .iload_n 2), (33, .iconst 1), (34, .isub), (35, .aaload), (36, .aload_n 0), (37, .getfield 23), (40, .iload_n 2), (41, .aaload), (42, .invokevirtual 60)] 28 ls st h) := Vl_ex _ (by decide +kernel) d 28 ls st h
theorem bT_remember_45 (d : Nat) (ls : List (Option jv)) (st : List jv) (h : jh) : Vl d 99 45 ls st h = jcc d 99 (jex 99 [(45, .aload_n 0), (46, .getfield 26), (49, .iload_n 2), (50, .iconst 1), (51, .isub), (52, .aload_n 0), (53, .getfield 26), (56, .iload_n 2), (57, .iaload), (58, .iastore), (59, .iinc 2 1), (62, .goto (-40))] 45 ls st h) := Vl_ex _ (by decide +kernel) d 45 ls st h
theorem bT_remember_65 (d : Nat) (ls : List (Option jv)) (st : List jv) (h : jh) : Vl d 99 65 ls st h = jcc d 99 (jex 99 [(65, .aload_n 0), (66, .bipush 15), (68, .putfield 51)] 65 ls st h) := Vl_ex _ (by decide +kernel) d 65 ls st h
theorem bT_remember_71 (d : Nat) (ls : List (Option jv)) (st : List jv) (h : jh) : Vl d 99 71 ls st h = jcc d 99 (jex 99 [(71, .aload_n 0), (72, .getfield 51), (75, .ifCond .lt 41)] 71 ls st h) := Vl_ex _ (by decide +kernel) d 71 ls st h
theorem bT_remember_78 (d : Nat) (ls : List (Option jv)) (st : List jv) (h : jh) : Vl d 99 78 ls st h = jcc d 99 (jex 99 [(78, .aload_n 0), (79, .getfield 23), (82, .aload_n 0), (83, .getfield 51), (86, .aaload), (87, .aload_n 0), (88, .getfield 13), (91, .iload_n 1), (92, .aaload), (93, .invokevirtual 60)] 78 ls st h) := Vl_ex _ (by decide +kernel) d 78 ls st h
theorem bT_remember_96 (d : Nat) (ls : List (Option jv)) (st : List jv) (h : jh) : Vl d 99 96 ls st h = jcc d 99 (jex 99 [(96, .aload_n 0), (97, .getfield 26), (100, .aload_n 0), (101, .getfield 51), (104, .iload_n 1), (105, .iastore), (106, .aload_n 0), (107, .dup), (108, .getfield 51), (111, .iconst 1), (112, .iadd), (113, .putfield 51)] 96 ls st h) := Vl_ex _ (by decide +kernel) d 96 ls st h
theorem bT_remember_116 (d : Nat) (ls : List (Option jv)) (st : List jv) (h : jh) : Vl d 99 116 ls st h = jcc d 99 (jex 99 [(116, .return_)] 116 ls st h) := Vl_ex _ (by decide +kernel) d 116 ls st h
theorem bT_undoLatest_0 (d : Nat) (ls : List (Option jv)) (st : List jv) (h : jh) : Vl d 101 0 ls st h = jcc d 101 (jex 101 [(0, .aload_n 0), (1, .getfield 51), (4, .iconst 1), (5, .if_icmp .lt 12)] 0 ls st h) := Vl_ex _ (by decide +kernel) d 0 ls st h
theorem bT_undoLatest_8 (d : Nat) (ls : List (Option jv)) (st : List jv) (h : jh) : Vl d 101 8 ls st h = jcc d 101 (jex 101 [(8, .aload_n 0), (9, .getfield 51), (12, .bipush 16), (14, .if_icmp .le 5)] 8 ls st h) := Vl_ex _ (by decide +kernel) d 8 ls st h
theorem bT_undoLatest_17 (d : Nat) (ls : List (Option jv)) (st : List jv) (h : jh) : Vl d 101 17 ls st h = jcc d 101 (jex 101 [(17, .iconst (-1)), (18, .ireturn)] 17 ls st h) := Vl_ex _ (by decide +kernel) d 17 ls st h
theorem bT_undoLatest_19 (d : Nat) (ls : List (Option jv)) (st : List jv) (h : jh) : Vl d 101 19 ls st h = jcc d 101 (jex 101 [(19, .aload_n 0), (20, .dup), (21, .getfield 51), (24, .iconst 1), (25, .isub), (26, .putfield 51), (29, .aload_n 0), (30, .aload_n 0), (31, .getfield 26), (34, .aload_n 0), (35, .getfield 51), (38, .iaload), (39, .aload_n 0), (40, .getfield 23), (43, .aload_n 0), (44, .getfield 51), (47, .aaload), (48, .invokevirtual 75)] 19 ls st h) := Vl_ex _ (by decide +kernel) d 19 ls st h
theorem bT_undoLatest_51 (d : Nat) (ls : List (Option jv)) (st : List jv) (h : jh) : Vl d 101 51 ls st h = jcc d 101 (jex 101 [(51, .aload_n 0), (52, .getfield 51), (55, .ireturn)] 51 ls st h) := Vl_ex _ (by decide +kernel) d 51 ls st h
theorem bK_appliedTo_0 (d : Nat) (ls : List (Option jv)) (st : List jv) (h : jh) : Vl d 103 0 ls st h = jcc d 103 (jex 103 [(0, .iconst 0), (1, .istore 4), (3, .iload_n 3), (4, .istore 5), (6, .aload_n 1), (7, .invokevirtual 75)] 0 ls st h) := Vl_ex _ (by decide +kernel) d 0 ls st h
theorem bK_appliedTo_10 (d : Nat) (ls : List (Option jv)) (st : List jv) (h : jh) : Vl d 103 10 ls st h = jcc d 103 (jex 103 [(10, .istore 6), (12, .iconst 0), (13, .istore 7)] 10 ls st h) := Vl_ex _ (by decide +kernel) d 10 ls st h
theorem bK_appliedTo_15 (d : Nat) (ls : List (Option jv)) (st : List jv) (h : jh) : Vl d 103 15 ls st h = jcc d 103 (jex 103 [(15, .iload 7), (17, .iload 6), (19, .if_icmp .gt 41)] 15 ls st h) := Vl_ex _ (by decide +kernel) d 15 ls st h
theorem bK_appliedTo_22 (d : Nat) (ls : List (Option jv)) (st : List jv) (h : jh) : Vl d 103 22 ls st h = jcc d 103 (jex 103 [(22, .iload 4), (24, .aload_n 0), (25, .getfield 12), (28, .aload_n 1), (29, .iload 7), (31, .invokevirtual 90)] 22 ls st h) := Vl_ex _ (by decide +kernel) d 22 ls st h
theorem bK_appliedTo_34 (d : Nat) (ls : List (Option jv)) (st : List jv) (h : jh) : Vl d 103 34 ls st h = jcc d 103 (jex 103 [(34, .iload 5), (36, .invokevirtual 128)] 34 ls st h) := Vl_ex _ (by decide +kernel) d 34 ls st h
theorem bK_appliedTo_39 (d : Nat) (ls : List (Option jv)) (st : List jv) (h : jh) : Vl d 103 39 ls st h = jcc d 103 (jex 103 [(39, .ixor), (40, .istore 4), (42, .aload_n 0), (43, .getfield 12), (46, .iload_n 2), (47, .iload 5), (49, .invokevirtual 168)] 39 ls st h) := Vl_ex _ (by decide +kernel) d 39 ls st h
theorem bK_appliedTo_52 (d : Nat) (ls : List (Option jv)) (st : List jv) (h : jh) : Vl d 103 52 ls st h = jcc d 103 (jex 103 [(52, .istore 5), (54, .iinc 7 1), (57, .goto (-42))] 52 ls st h) := Vl_ex _ (by decide +kernel) d 52 ls st h
theorem bK_appliedTo_60 (d : Nat) (ls : List (Option jv)) (st : List jv) (h : jh) : Vl d 103 60 ls st h = jcc d 103 (jex 103 [(60, .iload 4), (62, .ireturn)] 60 ls st h) := Vl_ex _ (by decide +kernel) d 60 ls st h
theorem bF_step_0 (d : Nat) (ls : List (Option jv)) (st : List jv) (h : jh) : Vl d 104 0 ls st h = jcc d 104 (jex 104 [(0, .aload_n 0), (1, .aload_n 0), (2, .getfield 37), (5, .iload_n 2), (6, .sipush 255), (9, .iand), (10, .iaload), (11, .iload_n 1), (12, .invokevirtual 51)] 0 ls st h) := Vl_ex _ (by decide +kernel) d 0 ls st h
theorem bF_step_15 (d : Nat) (ls : List (Option jv)) (st : List jv) (h : jh) : Vl d 104 15 ls st h = jcc d 104 (jex 104 [(15, .aload_n 0), (16, .getfield 40), (19, .iload_n 2), (20, .sipush 255), (23, .iand), (24, .iaload), (25, .ixor), (26, .ireturn)] 15 ls st h) := Vl_ex _ (by decide +kernel) d 15 ls st h
theorem bF_kinOf_0 (d : Nat) (ls : List (Option jv)) (st : List jv) (h : jh) : Vl d 108 0 ls st h = jcc d 108 (jex 108 [(0, .aload_n 0), (1, .aload_n 0), (2, .iload_n 1), (3, .iload_n 2), (4, .invokevirtual 61)] 0 ls st h) := Vl_ex _ (by decide +kernel) d 0 ls st h
theorem bF_kinOf_7 (d : Nat) (ls : List (Option jv)) (st : List jv) (h : jh) : Vl d 108 7 ls st h = jcc d 108 (jex 108 [(7, .aload_n 0), (8, .iload_n 2), (9, .invokevirtual 64)] 7 ls st h) := Vl_ex _ (by decide +kernel) d 7 ls st h
theorem bF_kinOf_12 (d : Nat) (ls : List (Option jv)) (st : List jv) (h : jh) : Vl d 108 12 ls st h = jcc d 108 (jex 108 [(12, .invokevirtual 51)] 12 ls st h) := Vl_ex _ (by decide +kernel) d 12 ls st h
theorem bF_kinOf_15 (d : Nat) (ls : List (Option jv)) (st : List jv) (h : jh) : Vl d 108 15 ls st h = jcc d 108 (jex 108 [(15, .ireturn)] 15 ls st h) := Vl_ex _ (by decide +kernel) d 15 ls st h
theorem bK_takeIn_0 (d : Nat) (ls : List (Option jv)) (st : List jv) (h : jh) : Vl d 112 0 ls st h = jcc d 112 (jex 112 [(0, .aload_n 0), (1, .aload_n 1), (2, .iload_n 2), (3, .iconst 1), (4, .invokevirtual 171)] 0 ls st h) := Vl_ex _ (by decide +kernel) d 0 ls st h
theorem bK_takeIn_7 (d : Nat) (ls : List (Option jv)) (st : List jv) (h : jh) : Vl d 112 7 ls st h = jcc d 112 (jex 112 [(7, .istore_n 3), (8, .iload_n 3), (9, .ifCond .eq 38)] 7 ls st h) := Vl_ex _ (by decide +kernel) d 7 ls st h
theorem bK_takeIn_12 (d : Nat) (ls : List (Option jv)) (st : List jv) (h : jh) : Vl d 112 12 ls st h = jcc d 112 (jex 112 [(12, .aload_n 0), (13, .getfield 47), (16, .invokevirtual 175)] 12 ls st h) := Vl_ex _ (by decide +kernel) d 12 ls st h
theorem bK_takeIn_19 (d : Nat) (ls : List (Option jv)) (st : List jv) (h : jh) : Vl d 112 19 ls st h = jcc d 112 (jex 112 [(19, .aload_n 0), (20, .getfield 47), (23, .iconst 0), (24, .aload_n 0), (25, .getfield 12), (28, .iload_n 2), (29, .iload_n 3), (30, .invokevirtual 178)] 19 ls st h) := Vl_ex _ (by decide +kernel) d 19 ls st h
theorem bK_takeIn_33 (d : Nat) (ls : List (Option jv)) (st : List jv) (h : jh) : Vl d 112 33 ls st h = jcc d 112 (jex 112 [(33, .invokevirtual 117)] 33 ls st h) := Vl_ex _ (by decide +kernel) d 33 ls st h
theorem bK_takeIn_36 (d : Nat) (ls : List (Option jv)) (st : List jv) (h : jh) : Vl d 112 36 ls st h = jcc d 112 (jex 112 [(36, .aload_n 0), (37, .aload_n 0), (38, .getfield 47), (41, .aload_n 1), (42, .aload_n 1), (43, .invokevirtual 106)] 36 ls st h) := Vl_ex _ (by decide +kernel) d 36 ls st h
theorem bK_takeIn_46 (d : Nat) (ls : List (Option jv)) (st : List jv) (h : jh) : Vl d 112 46 ls st h = jcc d 112 (jex 112 [(46, .pop)] 46 ls st h) := Vl_ex _ (by decide +kernel) d 46 ls st h
theorem bK_takeIn_47 (d : Nat) (ls : List (Option jv)) (st : List jv) (h : jh) : Vl d 112 47 ls st h = jcc d 112 (jex 112 [(47, .return_)] 47 ls st h) := Vl_ex _ (by decide +kernel) d 47 ls st h
theorem bF_isFew_0 (d : Nat) (ls : List (Option jv)) (st : List jv) (h : jh) : Vl d 114 0 ls st h = jcc d 114 (jex 114 [(0, .iload_n 1), (1, .bipush 12), (3, .if_icmp .gt 18)] 0 ls st h) := Vl_ex _ (by decide +kernel) d 0 ls st h
theorem bF_isFew_6 (d : Nat) (ls : List (Option jv)) (st : List jv) (h : jh) : Vl d 114 6 ls st h = jcc d 114 (jex 114 [(6, .iload_n 1), (7, .aload_n 0), (8, .getfield 9), (11, .imul), (12, .bipush 12), (14, .if_icmp .gt 7)] 6 ls st h) := Vl_ex _ (by decide +kernel) d 6 ls st h
theorem bF_isFew_17 (d : Nat) (ls : List (Option jv)) (st : List jv) (h : jh) : Vl d 114 17 ls st h = jcc d 114 (jex 114 [(17, .iconst 1), (18, .goto 4)] 17 ls st h) := Vl_ex _ (by decide +kernel) d 17 ls st h
theorem bF_isFew_21 (d : Nat) (ls : List (Option jv)) (st : List jv) (h : jh) : Vl d 114 21 ls st h = jcc d 114 (jex 114 [(21, .iconst 0)] 21 ls st h) := Vl_ex _ (by decide +kernel) d 21 ls st h
theorem bF_isFew_22 (d : Nat) (ls : List (Option jv)) (st : List jv) (h : jh) : Vl d 114 22 ls st h = jcc d 114 (jex 114 [(22, .ireturn)] 22 ls st h) := Vl_ex _ (by decide +kernel) d 22 ls st h
theorem bK_dividesFromRight_0 (d : Nat) (ls : List (Option jv)) (st : List jv) (h : jh) : Vl d 117 0 ls st h = jcc d 117 (jex 117 [(0, .aload_n 0), (1, .getfield 47), (4, .iconst 1), (5, .invokevirtual 102)] 0 ls st h) := Vl_ex _ (by decide +kernel) d 0 ls st h
theorem bK_dividesFromRight_8 (d : Nat) (ls : List (Option jv)) (st : List jv) (h : jh) : Vl d 117 8 ls st h = jcc d 117 (jex 117 [(8, .aload_n 0), (9, .aload_n 2), (10, .aload_n 0), (11, .getfield 47), (14, .aload_n 1), (15, .invokevirtual 164)] 8 ls st h) := Vl_ex _ (by decide +kernel) d 8 ls st h
theorem bK_dividesFromRight_18 (d : Nat) (ls : List (Option jv)) (st : List jv) (h : jh) : Vl d 117 18 ls st h = jcc d 117 (jex 117 [(18, .aload_n 0), (19, .getfield 38), (22, .invokevirtual 133)] 18 ls st h) := Vl_ex _ (by decide +kernel) d 18 ls st h
theorem bK_dividesFromRight_25 (d : Nat) (ls : List (Option jv)) (st : List jv) (h : jh) : Vl d 117 25 ls st h = jcc d 117 (jex 117 [(25, .ireturn)] 25 ls st h) := Vl_ex _ (by decide +kernel) d 25 ls st h
theorem bK_leave_0 (d : Nat) (ls : List (Option jv)) (st : List jv) (h : jh) : Vl d 118 0 ls st h = jcc d 118 (jex 118 [(0, .aload_n 3), (1, .invokevirtual 75)] 0 ls st h) := Vl_ex _ (by decide +kernel) d 0 ls st h
theorem bK_leave_4 (d : Nat) (ls : List (Option jv)) (st : List jv) (h : jh) : Vl d 118 4 ls st h = jcc d 118 (jex 118 [(4, .istore 4), (6, .aload_n 1), (7, .invokevirtual 75)] 4 ls st h) := Vl_ex _ (by decide +kernel) d 4 ls st h
theorem bK_leave_10 (d : Nat) (ls : List (Option jv)) (st : List jv) (h : jh) : Vl d 118 10 ls st h = jcc d 118 (jex 118 [(10, .istore 5), (12, .aload_n 0), (13, .getfield 12), (16, .aload_n 3), (17, .iload 4), (19, .invokevirtual 90)] 10 ls st h) := Vl_ex _ (by decide +kernel) d 10 ls st h
theorem bK_leave_22 (d : Nat) (ls : List (Option jv)) (st : List jv) (h : jh) : Vl d 118 22 ls st h = jcc d 118 (jex 118 [(22, .invokevirtual 110)] 22 ls st h) := Vl_ex _ (by decide +kernel) d 22 ls st h
theorem bK_leave_25 (d : Nat) (ls : List (Option jv)) (st : List jv) (h : jh) : Vl d 118 25 ls st h = jcc d 118 (jex 118 [(25, .istore 6), (27, .aload_n 0), (28, .getfield 38), (31, .invokevirtual 83)] 25 ls st h) := Vl_ex _ (by decide +kernel) d 25 ls st h
theorem bK_leave_34 (d : Nat) (ls : List (Option jv)) (st : List jv) (h : jh) : Vl d 118 34 ls st h = jcc d 118 (jex 118 [(34, .aload_n 0), (35, .getfield 41), (38, .aload_n 2), (39, .invokevirtual 79)] 34 ls st h) := Vl_ex _ (by decide +kernel) d 34 ls st h
theorem bK_leave_42 (d : Nat) (ls : List (Option jv)) (st : List jv) (h : jh) : Vl d 118 42 ls st h = jcc d 118 (jex 118 [(42, .iconst 0), (43, .istore 7)] 42 ls st h) := Vl_ex _ (by decide +kernel) d 42 ls st h
theorem bK_leave_45 (d : Nat) (ls : List (Option jv)) (st : List jv) (h : jh) : Vl d 118 45 ls st h = jcc d 118 (jex 118 [(45, .iload 7), (47, .iload 5), (49, .if_icmp .gt 101)] 45 ls st h) := Vl_ex _ (by decide +kernel) d 45 ls st h
theorem bK_leave_52 (d : Nat) (ls : List (Option jv)) (st : List jv) (h : jh) : Vl d 118 52 ls st h = jcc d 118 (jex 118 [(52, .iload 4), (54, .ifCond .le 96)] 52 ls st h) := Vl_ex _ (by decide +kernel) d 52 ls st h
theorem bK_leave_57 (d : Nat) (ls : List (Option jv)) (st : List jv) (h : jh) : Vl d 118 57 ls st h = jcc d 118 (jex 118 [(57, .aload_n 0), (58, .getfield 12), (61, .aload_n 0), (62, .getfield 38), (65, .getfield 86), (68, .aload_n 1), (69, .iload 7), (71, .invokevirtual 90)] 57 ls st h) := Vl_ex _ (by decide +kernel) d 57 ls st h
theorem bK_leave_74 (d : Nat) (ls : List (Option jv)) (st : List jv) (h : jh) : Vl d 118 74 ls st h = jcc d 118 (jex 118 [(74, .aload_n 0), (75, .getfield 41), (78, .getfield 86), (81, .iload 4), (83, .iconst 1), (84, .isub), (85, .invokevirtual 94)] 74 ls st h) := Vl_ex _ (by decide +kernel) d 74 ls st h
theorem bK_leave_88 (d : Nat) (ls : List (Option jv)) (st : List jv) (h : jh) : Vl d 118 88 ls st h = jcc d 118 (jex 118 [(88, .aload_n 0), (89, .getfield 12), (92, .aload_n 0), (93, .getfield 41), (96, .getfield 86), (99, .iload 4), (101, .iconst 1), (102, .isub), (103, .invokevirtual 98)] 88 ls st h) := Vl_ex _ (by decide +kernel) d 88 ls st h
theorem bK_leave_106 (d : Nat) (ls : List (Option jv)) (st : List jv) (h : jh) : Vl d 118 106 ls st h = jcc d 118 (jex 118 [(106, .aload_n 0), (107, .getfield 12), (110, .aload_n 0), (111, .getfield 41), (114, .getfield 86), (117, .aload_n 0), (118, .getfield 12), (121, .aload_n 0), (122, .getfield 41), (125, .iload 4), (127, .invokevirtual 90)] 106 ls st h) := Vl_ex _ (by decide +kernel) d 106 ls st h
theorem bK_leave_130 (d : Nat) (ls : List (Option jv)) (st : List jv) (h : jh) : Vl d 118 130 ls st h = jcc d 118 (jex 118 [(130, .iload 6), (132, .invokevirtual 128)] 130 ls st h) := Vl_ex _ (by decide +kernel) d 130 ls st h
theorem bK_leave_135 (d : Nat) (ls : List (Option jv)) (st : List jv) (h : jh) : Vl d 118 135 ls st h = jcc d 118 (jex 118 [(135, .aload_n 3), (136, .getfield 86), (139, .iload 4), (141, .invokevirtual 94)] 135 ls st h) := Vl_ex _ (by decide +kernel) d 135 ls st h
theorem bK_leave_144 (d : Nat) (ls : List (Option jv)) (st : List jv) (h : jh) : Vl d 118 144 ls st h = jcc d 118 (jex 118 [(144, .iinc 7 1), (147, .goto (-102))] 144 ls st h) := Vl_ex _ (by decide +kernel) d 144 ls st h
theorem bK_leave_150 (d : Nat) (ls : List (Option jv)) (st : List jv) (h : jh) : Vl d 118 150 ls st h = jcc d 118 (jex 118 [(150, .return_)] 150 ls st h) := Vl_ex _ (by decide +kernel) d 150 ls st h
theorem bK_makeMonic_0 (d : Nat) (ls : List (Option jv)) (st : List jv) (h : jh) : Vl d 123 0 ls st h = jcc d 123 (jex 123 [(0, .aload_n 0), (1, .iconst 0), (2, .aload_n 0), (3, .iconst 0), (4, .aload_n 1), (5, .invokevirtual 148)] 0 ls st h) := Vl_ex _ (by decide +kernel) d 0 ls st h
theorem bK_makeMonic_8 (d : Nat) (ls : List (Option jv)) (st : List jv) (h : jh) : Vl d 123 8 ls st h = jcc d 123 (jex 123 [(8, .aload_n 1), (9, .invokevirtual 152)] 8 ls st h) := Vl_ex _ (by decide +kernel) d 8 ls st h
theorem bK_makeMonic_12 (d : Nat) (ls : List (Option jv)) (st : List jv) (h : jh) : Vl d 123 12 ls st h = jcc d 123 (jex 123 [(12, .return_)] 12 ls st h) := Vl_ex _ (by decide +kernel) d 12 ls st h
theorem bI_bitCount_0 (d : Nat) (ls : List (Option jv)) (st : List jv) (h : jh) : Vl d 138 0 ls st h = jcc d 138 (jex 138 [(0, .iload_n 0), (1, .iload_n 0), (2, .iconst 1), (3, .iushr), (4, .ldc_w 265), (7, .iand), (8, .isub), (9, .istore_n 0), (10, .iload_n 0), (11, .ldc_w 266), (14, .iand), (15, .iload_n 0), (16, .iconst 2), (17, .iushr), (18, .ldc_w 266), (21, .iand), (22, .iadd), (23, .istore_n 0), (24, .iload_n 0), (25, .iload_n 0), (26, .iconst 4), (27, .iushr), (28, .iadd), (29, .ldc_w 267), (32, .iand), (33, .istore_n 0), (34, .iload_n 0), (35, .iload_n 0), (36, .bipush 8), (38, .iushr), (39, .iadd), (40, .istore_n 0), (41, .iload_n 0), (42, .iload_n 0), (43, .bipush 16), (45, .iushr), (46, .iadd), (47, .istore_n 0), (48, .iload_n 0), (49, .bipush 63), (51, .iand), (52, .ireturn)] 0 ls st h) := Vl_ex _ (by decide +kernel) d 0 ls st h
theorem bT_putPoints_0 (d : Nat) (ls : List (Option jv)) (st : List jv) (h : jh) : Vl d 158 0 ls st h = jcc d 158 (jex 158 [(0, .aload_n 0), (1, .iload_n 2), (2, .bipush 8), (4, .aload_n 1), (5, .arraylength), (6, .invokestatic 72), (9, .invokestatic 72), (12, .putfield 48), (15, .iconst 0), (16, .istore_n 3)] 0 ls st h) := Vl_ex _ (by decide +kernel) d 0 ls st h
theorem bT_putPoints_17 (d : Nat) (ls : List (Option jv)) (st : List jv) (h : jh) : Vl d 158 17 ls st h = jcc d 158 (jex 158 [(17, .iload_n 3), (18, .aload_n 0), (19, .getfield 48), (22, .if_icmp .ge 18)] 17 ls st h) := Vl_ex _ (by decide +kernel) d 17 ls st h
theorem bT_putPoints_25 (d : Nat) (ls : List (Option jv)) (st : List jv) (h : jh) : Vl d 158 25 ls st h = jcc d 158 (jex 158 [(25, .aload_n 0), (26, .getfield 19), (29, .iload_n 3), (30, .aload_n 1), (31, .iload_n 3), (32, .iaload), (33, .iastore), (34, .iinc 3 1), (37, .goto (-20))] 25 ls st h) := Vl_ex _ (by decide +kernel) d 25 ls st h
theorem bT_putPoints_40 (d : Nat) (ls : List (Option jv)) (st : List jv) (h : jh) : Vl d 158 40 ls st h = jcc d 158 (jex 158 [(40, .return_)] 40 ls st h) := Vl_ex _ (by decide +kernel) d 40 ls st h
theorem bT_point_0 (d : Nat) (ls : List (Option jv)) (st : List jv) (h : jh) : Vl d 160 0 ls st h = jcc d 160 (jex 160 [(0, .iload_n 1), (1, .ifCond .lt 18)] 0 ls st h) := Vl_ex _ (by decide +kernel) d 0 ls st h
theorem bT_point_4 (d : Nat) (ls : List (Option jv)) (st : List jv) (h : jh) : Vl d 160 4 ls st h = jcc d 160 (jex 160 [(4, .iload_n 1), (5, .bipush 8), (7, .if_icmp .ge 12)] 4 ls st h) := Vl_ex _ (by decide +kernel) d 4 ls st h
theorem bT_point_10 (d : Nat) (ls : List (Option jv)) (st : List jv) (h : jh) : Vl d 160 10 ls st h = jcc d 160 (jex 160 [(10, .aload_n 0), (11, .getfield 19), (14, .iload_n 1), (15, .iaload), (16, .goto 4)] 10 ls st h) := Vl_ex _ (by decide +kernel) d 10 ls st h
theorem bT_point_19 (d : Nat) (ls : List (Option jv)) (st : List jv) (h : jh) : Vl d 160 19 ls st h = jcc d 160 (jex 160 [(19, .iconst 0)] 19 ls st h) := Vl_ex _ (by decide +kernel) d 19 ls st h
theorem bT_point_20 (d : Nat) (ls : List (Option jv)) (st : List jv) (h : jh) : Vl d 160 20 ls st h = jcc d 160 (jex 160 [(20, .ireturn)] 20 ls st h) := Vl_ex _ (by decide +kernel) d 20 ls st h
