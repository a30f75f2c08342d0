theorem tb_30_12 : Cond.constantLong RX12 261 (-1000000) ∈ bT := List.mem_append_left _ (in_r30 _ (List.mem_of_getElem? (i := 12) rfl))
theorem tb_30_13 : Cond.constantLong RX12 263 (1000000) ∈ bT := List.mem_append_left _ (in_r30 _ (List.mem_of_getElem? (i := 13) rfl))
theorem tb_30_14 : Cond.methodLink RX12 265 Lib.MathLoose.min_long.x ∈ bT := List.mem_append_left _ (in_r30 _ (List.mem_of_getElem? (i := 14) rfl))
theorem tb_30_17 : Cond.methodLink RX12 271 Lib.MathLoose.max_long.x ∈ bT := List.mem_append_left _ (in_r30 _ (List.mem_of_getElem? (i := 17) rfl))
theorem tb_33_4 : Cond.methodLink RX12 282 Lib.Math.abs.name ∈ bT := List.mem_append_left _ (in_r33 _ (List.mem_of_getElem? (i := 4) rfl))
theorem tb_29_20 : Cond.methodLink RX12 285 Lib.Math.min.name ∈ bT := List.mem_append_left _ (in_r29 _ (List.mem_of_getElem? (i := 20) rfl))
theorem tb_29_21 : Cond.methodLink RX12 302 Lib.Math.max.name ∈ bT := List.mem_append_left _ (in_r29 _ (List.mem_of_getElem? (i := 21) rfl))
theorem tb_28_12 : Cond.constantLong RX12 323 (5) ∈ bT := List.mem_append_left _ (in_r28 _ (List.mem_of_getElem? (i := 12) rfl))
theorem tb_36_5 : Cond.constantLong RX12 347 (9) ∈ bT := List.mem_append_left _ (in_r36 _ (List.mem_of_getElem? (i := 5) rfl))
theorem tb_37_12 : Cond.constantLong RX12 349 (99) ∈ bT := List.mem_append_left _ (in_r37 _ (List.mem_of_getElem? (i := 12) rfl))
theorem tb_38_14 : Cond.constantLong RX12 354 (10) ∈ bT := List.mem_append_left _ (in_r38 _ (List.mem_of_getElem? (i := 14) rfl))
theorem tb_40_5 : Cond.constantLong RX12 372 (3) ∈ bT := List.mem_append_left _ (in_r40 _ (List.mem_of_getElem? (i := 5) rfl))
theorem tb_40_21 : Cond.constantLong RX12 359 (-1) ∈ bT := List.mem_append_left _ (in_r40 _ (List.mem_of_getElem? (i := 21) rfl))
theorem tb_40_22 : Cond.constantLong RX12 361 (100) ∈ bT := List.mem_append_left _ (in_r40 _ (List.mem_of_getElem? (i := 22) rfl))
theorem tb_40_23 : Cond.constantLong RX12 363 (199) ∈ bT := List.mem_append_left _ (in_r40 _ (List.mem_of_getElem? (i := 23) rfl))
theorem tb_41_0 : Cond.constantLong RX12 365 (200) ∈ bT := List.mem_append_left _ (in_r41 _ (List.mem_of_getElem? (i := 0) rfl))
theorem tb_41_1 : Cond.constantLong RX12 367 (299) ∈ bT := List.mem_append_left _ (in_r41 _ (List.mem_of_getElem? (i := 1) rfl))
theorem tb_42_23 : Cond.constant RX12 386 (1103515245) ∈ bT := List.mem_append_left _ (in_r42 _ (List.mem_of_getElem? (i := 23) rfl))
theorem tb_42_17 : Cond.constantLong RX12 390 (30) ∈ bT := List.mem_append_left _ (in_r42 _ (List.mem_of_getElem? (i := 17) rfl))
theorem tb_47_5 : Cond.constant RX12 416 (536870912) ∈ bT := List.mem_append_left _ (in_r47 _ (List.mem_of_getElem? (i := 5) rfl))
theorem tb_46_22 : Cond.constantLong RX12 466 (15) ∈ bT := List.mem_append_left _ (in_r46 _ (List.mem_of_getElem? (i := 22) rfl))
theorem tb_7_20 : Cond.constant RX12 63 (46656) ∈ bT := List.mem_append_left _ (in_r7 _ (List.mem_of_getElem? (i := 20) rfl))
theorem tb_60_16 : Cond.constantLong RX12 495 (99999) ∈ bT := List.mem_append_left _ (in_r60 _ (List.mem_of_getElem? (i := 16) rfl))
theorem tb_62_0 : Cond.constantLong RX12 503 (9999) ∈ bT := List.mem_append_left _ (in_r62 _ (List.mem_of_getElem? (i := 0) rfl))
theorem tb_66_2 : Cond.constantLong RX12 520 (6) ∈ bT := List.mem_append_left _ (in_r66 _ (List.mem_of_getElem? (i := 2) rfl))
theorem tb_70_6 : Cond.constantLong RX12 532 (2) ∈ bT := List.mem_append_left _ (in_r70 _ (List.mem_of_getElem? (i := 6) rfl))
theorem tb_7_2 : Cond.fieldLink RX12 9 "SwivelBoardModel" "known" "[I" ∈ bT := List.mem_append_left _ (in_r7 _ (List.mem_of_getElem? (i := 2) rfl))
theorem tb_7_3 : Cond.fieldLink RX12 13 "SwivelBoardModel" "telling" "[I" ∈ bT := List.mem_append_left _ (in_r7 _ (List.mem_of_getElem? (i := 3) rfl))
theorem tb_7_4 : Cond.fieldLink RX12 16 "SwivelBoardModel" "images" "[I" ∈ bT := List.mem_append_left _ (in_r7 _ (List.mem_of_getElem? (i := 4) rfl))
theorem tb_7_6 : Cond.fieldLink RX12 19 "SwivelBoardModel" "isImage" "[Z" ∈ bT := List.mem_append_left _ (in_r7 _ (List.mem_of_getElem? (i := 6) rfl))
theorem tb_8_17 : Cond.fieldLink RX12 86 "SwivelBoardModel" "thrown" "I" ∈ bT := List.mem_append_left _ (in_r8 _ (List.mem_of_getElem? (i := 17) rfl))
theorem tb_7_7 : Cond.fieldLink RX12 23 "SwivelBoardModel" "tape" "[I" ∈ bT := List.mem_append_left _ (in_r7 _ (List.mem_of_getElem? (i := 7) rfl))
theorem tb_8_18 : Cond.fieldLink RX12 89 "SwivelBoardModel" "taped" "I" ∈ bT := List.mem_append_left _ (in_r8 _ (List.mem_of_getElem? (i := 18) rfl))
theorem tb_20_1 : Cond.fieldLink RX12 92 "SwivelBoardModel" "length" "I" ∈ bT := List.mem_append_left _ (in_r20 _ (List.mem_of_getElem? (i := 1) rfl))
theorem tb_20_2 : Cond.fieldLink RX12 95 "SwivelBoardModel" "head" "I" ∈ bT := List.mem_append_left _ (in_r20 _ (List.mem_of_getElem? (i := 2) rfl))
theorem tb_20_19 : Cond.fieldLink RX12 98 "SwivelBoardModel" "begin" "I" ∈ bT := List.mem_append_left _ (in_r20 _ (List.mem_of_getElem? (i := 19) rfl))
theorem tb_20_5 : Cond.fieldLink RX12 101 "SwivelBoardModel" "token" "I" ∈ bT := List.mem_append_left _ (in_r20 _ (List.mem_of_getElem? (i := 5) rfl))
theorem tb_20_20 : Cond.fieldLink RX12 115 "SwivelBoardModel" "value" "I" ∈ bT := List.mem_append_left _ (in_r20 _ (List.mem_of_getElem? (i := 20) rfl))
theorem tb_20_3 : Cond.fieldLink RX12 121 "SwivelBoardModel" "bad" "I" ∈ bT := List.mem_append_left _ (in_r20 _ (List.mem_of_getElem? (i := 3) rfl))
theorem tb_20_7 : Cond.fieldLink RX12 124 "SwivelBoardModel" "badPlace" "I" ∈ bT := List.mem_append_left _ (in_r20 _ (List.mem_of_getElem? (i := 7) rfl))
theorem tb_20_6 : Cond.fieldLink RX12 251 "SwivelBoardModel" "faultKind" "I" ∈ bT := List.mem_append_left _ (in_r20 _ (List.mem_of_getElem? (i := 6) rfl))
theorem tb_7_8 : Cond.fieldLink RX12 26 "SwivelBoardModel" "faultPlace" "I" ∈ bT := List.mem_append_left _ (in_r7 _ (List.mem_of_getElem? (i := 8) rfl))
theorem tb_20_4 : Cond.fieldLink RX12 163 "SwivelBoardModel" "deep" "I" ∈ bT := List.mem_append_left _ (in_r20 _ (List.mem_of_getElem? (i := 4) rfl))
theorem tb_23_4 : Cond.fieldLink RX12 157 "SwivelBoardModel" "lawMany" "I" ∈ bT := List.mem_append_left _ (in_r23 _ (List.mem_of_getElem? (i := 4) rfl))
theorem tb_23_5 : Cond.fieldLink RX12 154 "SwivelBoardModel" "lawAt" "I" ∈ bT := List.mem_append_left _ (in_r23 _ (List.mem_of_getElem? (i := 5) rfl))
theorem tb_7_9 : Cond.fieldLink RX12 30 "SwivelBoardModel" "stack" "[I" ∈ bT := List.mem_append_left _ (in_r7 _ (List.mem_of_getElem? (i := 9) rfl))
theorem tb_7_10 : Cond.fieldLink RX12 33 "SwivelBoardModel" "asked" "[I" ∈ bT := List.mem_append_left _ (in_r7 _ (List.mem_of_getElem? (i := 10) rfl))
theorem tb_7_11 : Cond.fieldLink RX12 36 "SwivelBoardModel" "aims" "[I" ∈ bT := List.mem_append_left _ (in_r7 _ (List.mem_of_getElem? (i := 11) rfl))
theorem tb_7_12 : Cond.fieldLink RX12 39 "SwivelBoardModel" "votes" "[I" ∈ bT := List.mem_append_left _ (in_r7 _ (List.mem_of_getElem? (i := 12) rfl))
theorem tb_7_13 : Cond.fieldLink RX12 42 "SwivelBoardModel" "by" "[I" ∈ bT := List.mem_append_left _ (in_r7 _ (List.mem_of_getElem? (i := 13) rfl))
theorem tb_7_14 : Cond.fieldLink RX12 45 "SwivelBoardModel" "aside" "[I" ∈ bT := List.mem_append_left _ (in_r7 _ (List.mem_of_getElem? (i := 14) rfl))
theorem tb_42_18 : Cond.fieldLink RX12 387 "SwivelBoardModel" "state" "I" ∈ bT := List.mem_append_left _ (in_r42 _ (List.mem_of_getElem? (i := 18) rfl))
theorem tb_7_15 : Cond.fieldLink RX12 48 "SwivelBoardModel" "notches" "[I" ∈ bT := List.mem_append_left _ (in_r7 _ (List.mem_of_getElem? (i := 15) rfl))
theorem tb_7_16 : Cond.fieldLink RX12 51 "SwivelBoardModel" "along" "[I" ∈ bT := List.mem_append_left _ (in_r7 _ (List.mem_of_getElem? (i := 16) rfl))
theorem tb_7_17 : Cond.fieldLink RX12 54 "SwivelBoardModel" "prices" "[I" ∈ bT := List.mem_append_left _ (in_r7 _ (List.mem_of_getElem? (i := 17) rfl))
theorem tb_7_18 : Cond.fieldLink RX12 57 "SwivelBoardModel" "bestNotches" "[I" ∈ bT := List.mem_append_left _ (in_r7 _ (List.mem_of_getElem? (i := 18) rfl))
theorem tb_7_19 : Cond.fieldLink RX12 60 "SwivelBoardModel" "powers" "[I" ∈ bT := List.mem_append_left _ (in_r7 _ (List.mem_of_getElem? (i := 19) rfl))
theorem tb_7_21 : Cond.fieldLink RX12 64 "SwivelBoardModel" "met" "[Z" ∈ bT := List.mem_append_left _ (in_r7 _ (List.mem_of_getElem? (i := 21) rfl))
theorem tb_47_3 : Cond.fieldLink RX12 410 "SwivelBoardModel" "asksWhat" "I" ∈ bT := List.mem_append_left _ (in_r47 _ (List.mem_of_getElem? (i := 3) rfl))
theorem tb_46_14 : Cond.fieldLink RX12 429 "SwivelBoardModel" "askedTray" "I" ∈ bT := List.mem_append_left _ (in_r46 _ (List.mem_of_getElem? (i := 14) rfl))
theorem tb_47_21 : Cond.fieldLink RX12 438 "SwivelBoardModel" "askedOne" "I" ∈ bT := List.mem_append_left _ (in_r47 _ (List.mem_of_getElem? (i := 21) rfl))
theorem tb_47_4 : Cond.fieldLink RX12 413 "SwivelBoardModel" "rowMany" "I" ∈ bT := List.mem_append_left _ (in_r47 _ (List.mem_of_getElem? (i := 4) rfl))
theorem tb_47_6 : Cond.fieldLink RX12 401 "SwivelBoardModel" "bestCost" "I" ∈ bT := List.mem_append_left _ (in_r47 _ (List.mem_of_getElem? (i := 6) rfl))
theorem tb_47_7 : Cond.fieldLink RX12 417 "SwivelBoardModel" "bestKnees" "I" ∈ bT := List.mem_append_left _ (in_r47 _ (List.mem_of_getElem? (i := 7) rfl))
theorem tb_47_8 : Cond.fieldLink RX12 420 "SwivelBoardModel" "bestSet" "I" ∈ bT := List.mem_append_left _ (in_r47 _ (List.mem_of_getElem? (i := 8) rfl))
theorem tb_7_22 : Cond.fieldLink RX12 67 "SwivelBoardModel" "metIn" "[I" ∈ bT := List.mem_append_left _ (in_r7 _ (List.mem_of_getElem? (i := 22) rfl))
theorem tb_59_10 : Cond.fieldLink RX12 486 "SwivelBoardModel" "tail" "I" ∈ bT := List.mem_append_left _ (in_r59 _ (List.mem_of_getElem? (i := 10) rfl))
theorem tb_59_11 : Cond.fieldLink RX12 489 "SwivelBoardModel" "round" "I" ∈ bT := List.mem_append_left _ (in_r59 _ (List.mem_of_getElem? (i := 11) rfl))
theorem tb_7_23 : Cond.fieldLink RX12 70 "SwivelBoardModel" "turnRow" "[I" ∈ bT := List.mem_append_left _ (in_r7 _ (List.mem_of_getElem? (i := 23) rfl))
theorem tb_8_0 : Cond.fieldLink RX12 73 "SwivelBoardModel" "aimRow" "[I" ∈ bT := List.mem_append_left _ (in_r8 _ (List.mem_of_getElem? (i := 0) rfl))
theorem tb_63_7 : Cond.fieldLink RX12 505 "SwivelBoardModel" "turnMany" "I" ∈ bT := List.mem_append_left _ (in_r63 _ (List.mem_of_getElem? (i := 7) rfl))
theorem tb_8_1 : Cond.fieldLink RX12 76 "SwivelBoardModel" "tSort" "[I" ∈ bT := List.mem_append_left _ (in_r8 _ (List.mem_of_getElem? (i := 1) rfl))
theorem tb_8_2 : Cond.fieldLink RX12 79 "SwivelBoardModel" "tMany" "[I" ∈ bT := List.mem_append_left _ (in_r8 _ (List.mem_of_getElem? (i := 2) rfl))
theorem tb_8_3 : Cond.fieldLink RX12 82 "SwivelBoardModel" "numbers" "[J" ∈ bT := List.mem_append_left _ (in_r8 _ (List.mem_of_getElem? (i := 3) rfl))
theorem tb_20_21 : Cond.methodLink RX12 104 yX12_isLetter ∈ bT := List.mem_append_left _ (in_r20 _ (List.mem_of_getElem? (i := 21) rfl))
theorem tb_20_23 : Cond.code yX12_isLetter cX12_isLetter 1 (some .boolean) ∈ bT := List.mem_append_left _ (in_r20 _ (List.mem_of_getElem? (i := 23) rfl))
theorem tb_1_5 : Cond.initialized RX12 ∈ bT := List.mem_append_left _ (in_r1 _ (List.mem_of_getElem? (i := 5) rfl))
theorem tb_20_22 : Cond.static yX12_isLetter ∈ bT := List.mem_append_left _ (in_r20 _ (List.mem_of_getElem? (i := 22) rfl))
theorem tb_21_0 : Cond.methodLink RX12 108 yX12_see ∈ bT := List.mem_append_left _ (in_r21 _ (List.mem_of_getElem? (i := 0) rfl))
theorem tb_21_3 : Cond.code yX12_see cX12_see 2 (some .int) ∈ bT := List.mem_append_left _ (in_r21 _ (List.mem_of_getElem? (i := 3) rfl))
theorem tb_21_1 : Cond.instanceMethod yX12_see ∈ bT := List.mem_append_left _ (in_r21 _ (List.mem_of_getElem? (i := 1) rfl))
theorem tb_21_2 : Cond.selects RX12 yX12_see yX12_see ∈ bT := List.mem_append_left _ (in_r21 _ (List.mem_of_getElem? (i := 2) rfl))
theorem tb_21_4 : Cond.methodLink RX12 112 yX12_isDigit ∈ bT := List.mem_append_left _ (in_r21 _ (List.mem_of_getElem? (i := 4) rfl))
theorem tb_21_6 : Cond.code yX12_isDigit cX12_isDigit 1 (some .boolean) ∈ bT := List.mem_append_left _ (in_r21 _ (List.mem_of_getElem? (i := 6) rfl))
theorem tb_21_5 : Cond.static yX12_isDigit ∈ bT := List.mem_append_left _ (in_r21 _ (List.mem_of_getElem? (i := 5) rfl))
theorem tb_21_7 : Cond.methodLink RX12 118 yX12_isSignByte ∈ bT := List.mem_append_left _ (in_r21 _ (List.mem_of_getElem? (i := 7) rfl))
theorem tb_21_9 : Cond.code yX12_isSignByte cX12_isSignByte 2 (some .boolean) ∈ bT := List.mem_append_left _ (in_r21 _ (List.mem_of_getElem? (i := 9) rfl))
theorem tb_21_8 : Cond.static yX12_isSignByte ∈ bT := List.mem_append_left _ (in_r21 _ (List.mem_of_getElem? (i := 8) rfl))
theorem tb_21_18 : Cond.methodLink RX12 136 yX12_isWord ∈ bT := List.mem_append_left _ (in_r21 _ (List.mem_of_getElem? (i := 18) rfl))
theorem tb_21_21 : Cond.code yX12_isWord cX12_isWord 4 (some .boolean) ∈ bT := List.mem_append_left _ (in_r21 _ (List.mem_of_getElem? (i := 21) rfl))
theorem tb_21_19 : Cond.instanceMethod yX12_isWord ∈ bT := List.mem_append_left _ (in_r21 _ (List.mem_of_getElem? (i := 19) rfl))
theorem tb_21_20 : Cond.selects RX12 yX12_isWord yX12_isWord ∈ bT := List.mem_append_left _ (in_r21 _ (List.mem_of_getElem? (i := 20) rfl))
theorem tb_20_15 : Cond.methodLink RX12 140 yX12_readsOn ∈ bT := List.mem_append_left _ (in_r20 _ (List.mem_of_getElem? (i := 15) rfl))
theorem tb_20_18 : Cond.code yX12_readsOn cX12_readsOn 2 none ∈ bT := List.mem_append_left _ (in_r20 _ (List.mem_of_getElem? (i := 18) rfl))
theorem tb_20_16 : Cond.instanceMethod yX12_readsOn ∈ bT := List.mem_append_left _ (in_r20 _ (List.mem_of_getElem? (i := 16) rfl))
theorem tb_20_17 : Cond.selects RX12 yX12_readsOn yX12_readsOn ∈ bT := List.mem_append_left _ (in_r20 _ (List.mem_of_getElem? (i := 17) rfl))
theorem tb_22_0 : Cond.methodLink RX12 143 yX12_blames ∈ bT := List.mem_append_left _ (in_r22 _ (List.mem_of_getElem? (i := 0) rfl))
theorem tb_22_3 : Cond.code yX12_blames cX12_blames 2 none ∈ bT := List.mem_append_left _ (in_r22 _ (List.mem_of_getElem? (i := 3) rfl))
theorem tb_22_1 : Cond.instanceMethod yX12_blames ∈ bT := List.mem_append_left _ (in_r22 _ (List.mem_of_getElem? (i := 1) rfl))
theorem tb_22_2 : Cond.selects RX12 yX12_blames yX12_blames ∈ bT := List.mem_append_left _ (in_r22 _ (List.mem_of_getElem? (i := 2) rfl))
theorem tb_20_8 : Cond.methodLink RX12 147 yX12_within ∈ bT := List.mem_append_left _ (in_r20 _ (List.mem_of_getElem? (i := 8) rfl))
theorem tb_20_10 : Cond.code yX12_within cX12_within 6 (some .boolean) ∈ bT := List.mem_append_left _ (in_r20 _ (List.mem_of_getElem? (i := 10) rfl))
theorem tb_20_9 : Cond.static yX12_within ∈ bT := List.mem_append_left _ (in_r20 _ (List.mem_of_getElem? (i := 9) rfl))
theorem tb_21_14 : Cond.methodLink RX12 151 yX12_took ∈ bT := List.mem_append_left _ (in_r21 _ (List.mem_of_getElem? (i := 14) rfl))
theorem tb_21_17 : Cond.code yX12_took cX12_took 3 (some .boolean) ∈ bT := List.mem_append_left _ (in_r21 _ (List.mem_of_getElem? (i := 17) rfl))
theorem tb_21_15 : Cond.instanceMethod yX12_took ∈ bT := List.mem_append_left _ (in_r21 _ (List.mem_of_getElem? (i := 15) rfl))
theorem tb_21_16 : Cond.selects RX12 yX12_took yX12_took ∈ bT := List.mem_append_left _ (in_r21 _ (List.mem_of_getElem? (i := 16) rfl))
theorem tb_22_12 : Cond.methodLink RX12 160 yX12_mustSign ∈ bT := List.mem_append_left _ (in_r22 _ (List.mem_of_getElem? (i := 12) rfl))
theorem tb_22_15 : Cond.code yX12_mustSign cX12_mustSign 2 none ∈ bT := List.mem_append_left _ (in_r22 _ (List.mem_of_getElem? (i := 15) rfl))
theorem tb_22_13 : Cond.instanceMethod yX12_mustSign ∈ bT := List.mem_append_left _ (in_r22 _ (List.mem_of_getElem? (i := 13) rfl))
theorem tb_22_14 : Cond.selects RX12 yX12_mustSign yX12_mustSign ∈ bT := List.mem_append_left _ (in_r22 _ (List.mem_of_getElem? (i := 14) rfl))
theorem tb_23_10 : Cond.methodLink RX12 166 yX12_readBoth ∈ bT := List.mem_append_left _ (in_r23 _ (List.mem_of_getElem? (i := 10) rfl))
theorem tb_23_17 : Cond.code yX12_readBoth cX12_readBoth 1 none ∈ bT := List.mem_append_left _ (in_r23 _ (List.mem_of_getElem? (i := 17) rfl))
theorem tb_23_11 : Cond.instanceMethod yX12_readBoth ∈ bT := List.mem_append_left _ (in_r23 _ (List.mem_of_getElem? (i := 11) rfl))
theorem tb_23_12 : Cond.selects RX12 yX12_readBoth yX12_readBoth ∈ bT := List.mem_append_left _ (in_r23 _ (List.mem_of_getElem? (i := 12) rfl))
theorem tb_23_13 : Cond.methodLink RX12 171 yX12_laysStep ∈ bT := List.mem_append_left _ (in_r23 _ (List.mem_of_getElem? (i := 13) rfl))
theorem tb_23_16 : Cond.code yX12_laysStep cX12_laysStep 2 none ∈ bT := List.mem_append_left _ (in_r23 _ (List.mem_of_getElem? (i := 16) rfl))
theorem tb_23_14 : Cond.instanceMethod yX12_laysStep ∈ bT := List.mem_append_left _ (in_r23 _ (List.mem_of_getElem? (i := 14) rfl))
theorem tb_23_15 : Cond.selects RX12 yX12_laysStep yX12_laysStep ∈ bT := List.mem_append_left _ (in_r23 _ (List.mem_of_getElem? (i := 15) rfl))
theorem tb_23_18 : Cond.methodLink RX12 174 yX12_readUnit ∈ bT := List.mem_append_left _ (in_r23 _ (List.mem_of_getElem? (i := 18) rfl))
theorem tb_23_21 : Cond.code yX12_readUnit cX12_readUnit 2 none ∈ bT := List.mem_append_left _ (in_r23 _ (List.mem_of_getElem? (i := 21) rfl))
theorem tb_23_19 : Cond.instanceMethod yX12_readUnit ∈ bT := List.mem_append_left _ (in_r23 _ (List.mem_of_getElem? (i := 19) rfl))
theorem tb_23_20 : Cond.selects RX12 yX12_readUnit yX12_readUnit ∈ bT := List.mem_append_left _ (in_r23 _ (List.mem_of_getElem? (i := 20) rfl))
theorem tb_23_22 : Cond.methodLink RX12 181 yX12_goesIn ∈ bT := List.mem_append_left _ (in_r23 _ (List.mem_of_getElem? (i := 22) rfl))
theorem tb_24_1 : Cond.code yX12_goesIn cX12_goesIn 1 none ∈ bT := List.mem_append_left _ (in_r24 _ (List.mem_of_getElem? (i := 1) rfl))
theorem tb_23_23 : Cond.instanceMethod yX12_goesIn ∈ bT := List.mem_append_left _ (in_r23 _ (List.mem_of_getElem? (i := 23) rfl))
theorem tb_24_0 : Cond.selects RX12 yX12_goesIn yX12_goesIn ∈ bT := List.mem_append_left _ (in_r24 _ (List.mem_of_getElem? (i := 0) rfl))
theorem tb_24_2 : Cond.methodLink RX12 184 yX12_isSign ∈ bT := List.mem_append_left _ (in_r24 _ (List.mem_of_getElem? (i := 2) rfl))
theorem tb_24_5 : Cond.code yX12_isSign cX12_isSign 2 (some .boolean) ∈ bT := List.mem_append_left _ (in_r24 _ (List.mem_of_getElem? (i := 5) rfl))
theorem tb_24_3 : Cond.instanceMethod yX12_isSign ∈ bT := List.mem_append_left _ (in_r24 _ (List.mem_of_getElem? (i := 3) rfl))
theorem tb_24_4 : Cond.selects RX12 yX12_isSign yX12_isSign ∈ bT := List.mem_append_left _ (in_r24 _ (List.mem_of_getElem? (i := 4) rfl))
theorem tb_23_6 : Cond.methodLink RX12 187 yX12_readTruth ∈ bT := List.mem_append_left _ (in_r23 _ (List.mem_of_getElem? (i := 6) rfl))
theorem tb_23_9 : Cond.code yX12_readTruth cX12_readTruth 1 none ∈ bT := List.mem_append_left _ (in_r23 _ (List.mem_of_getElem? (i := 9) rfl))
theorem tb_23_7 : Cond.instanceMethod yX12_readTruth ∈ bT := List.mem_append_left _ (in_r23 _ (List.mem_of_getElem? (i := 7) rfl))
theorem tb_23_8 : Cond.selects RX12 yX12_readTruth yX12_readTruth ∈ bT := List.mem_append_left _ (in_r23 _ (List.mem_of_getElem? (i := 8) rfl))
theorem tb_24_6 : Cond.methodLink RX12 190 yX12_readSum ∈ bT := List.mem_append_left _ (in_r24 _ (List.mem_of_getElem? (i := 6) rfl))
theorem tb_24_9 : Cond.code yX12_readSum cX12_readSum 2 none ∈ bT := List.mem_append_left _ (in_r24 _ (List.mem_of_getElem? (i := 9) rfl))
theorem tb_24_7 : Cond.instanceMethod yX12_readSum ∈ bT := List.mem_append_left _ (in_r24 _ (List.mem_of_getElem? (i := 7) rfl))
theorem tb_24_8 : Cond.selects RX12 yX12_readSum yX12_readSum ∈ bT := List.mem_append_left _ (in_r24 _ (List.mem_of_getElem? (i := 8) rfl))
theorem tb_24_10 : Cond.methodLink RX12 193 yX12_readTerm ∈ bT := List.mem_append_left _ (in_r24 _ (List.mem_of_getElem? (i := 10) rfl))
theorem tb_24_18 : Cond.code yX12_readTerm cX12_readTerm 1 none ∈ bT := List.mem_append_left _ (in_r24 _ (List.mem_of_getElem? (i := 18) rfl))
theorem tb_24_11 : Cond.instanceMethod yX12_readTerm ∈ bT := List.mem_append_left _ (in_r24 _ (List.mem_of_getElem? (i := 11) rfl))
theorem tb_24_12 : Cond.selects RX12 yX12_readTerm yX12_readTerm ∈ bT := List.mem_append_left _ (in_r24 _ (List.mem_of_getElem? (i := 12) rfl))
theorem tb_24_19 : Cond.methodLink RX12 196 yX12_readAtom ∈ bT := List.mem_append_left _ (in_r24 _ (List.mem_of_getElem? (i := 19) rfl))
theorem tb_24_13 : Cond.code yX12_readAtom cX12_readAtom 3 none ∈ bT := List.mem_append_left _ (in_r24 _ (List.mem_of_getElem? (i := 13) rfl))
theorem tb_24_20 : Cond.instanceMethod yX12_readAtom ∈ bT := List.mem_append_left _ (in_r24 _ (List.mem_of_getElem? (i := 20) rfl))
theorem tb_24_21 : Cond.selects RX12 yX12_readAtom yX12_readAtom ∈ bT := List.mem_append_left _ (in_r24 _ (List.mem_of_getElem? (i := 21) rfl))
theorem tb_24_14 : Cond.methodLink RX12 210 yX12_lawWord ∈ bT := List.mem_append_left _ (in_r24 _ (List.mem_of_getElem? (i := 14) rfl))
theorem tb_24_17 : Cond.code yX12_lawWord cX12_lawWord 1 (some .int) ∈ bT := List.mem_append_left _ (in_r24 _ (List.mem_of_getElem? (i := 17) rfl))
theorem tb_24_15 : Cond.instanceMethod yX12_lawWord ∈ bT := List.mem_append_left _ (in_r24 _ (List.mem_of_getElem? (i := 15) rfl))
theorem tb_24_16 : Cond.selects RX12 yX12_lawWord yX12_lawWord ∈ bT := List.mem_append_left _ (in_r24 _ (List.mem_of_getElem? (i := 16) rfl))
theorem tb_22_4 : Cond.methodLink RX12 213 yX12_number ∈ bT := List.mem_append_left _ (in_r22 _ (List.mem_of_getElem? (i := 4) rfl))
theorem tb_22_7 : Cond.code yX12_number cX12_number 4 (some .int) ∈ bT := List.mem_append_left _ (in_r22 _ (List.mem_of_getElem? (i := 7) rfl))
theorem tb_22_5 : Cond.instanceMethod yX12_number ∈ bT := List.mem_append_left _ (in_r22 _ (List.mem_of_getElem? (i := 5) rfl))
theorem tb_22_6 : Cond.selects RX12 yX12_number yX12_number ∈ bT := List.mem_append_left _ (in_r22 _ (List.mem_of_getElem? (i := 6) rfl))
theorem tb_22_20 : Cond.methodLink RX12 223 yX12_readMember ∈ bT := List.mem_append_left _ (in_r22 _ (List.mem_of_getElem? (i := 20) rfl))
theorem tb_22_23 : Cond.code yX12_readMember cX12_readMember 3 none ∈ bT := List.mem_append_left _ (in_r22 _ (List.mem_of_getElem? (i := 23) rfl))
theorem tb_22_21 : Cond.instanceMethod yX12_readMember ∈ bT := List.mem_append_left _ (in_r22 _ (List.mem_of_getElem? (i := 21) rfl))
theorem tb_22_22 : Cond.selects RX12 yX12_readMember yX12_readMember ∈ bT := List.mem_append_left _ (in_r22 _ (List.mem_of_getElem? (i := 22) rfl))
theorem tb_23_0 : Cond.methodLink RX12 228 yX12_beginsLaw ∈ bT := List.mem_append_left _ (in_r23 _ (List.mem_of_getElem? (i := 0) rfl))
theorem tb_23_3 : Cond.code yX12_beginsLaw cX12_beginsLaw 3 none ∈ bT := List.mem_append_left _ (in_r23 _ (List.mem_of_getElem? (i := 3) rfl))
theorem tb_23_1 : Cond.instanceMethod yX12_beginsLaw ∈ bT := List.mem_append_left _ (in_r23 _ (List.mem_of_getElem? (i := 1) rfl))
theorem tb_23_2 : Cond.selects RX12 yX12_beginsLaw yX12_beginsLaw ∈ bT := List.mem_append_left _ (in_r23 _ (List.mem_of_getElem? (i := 2) rfl))
theorem tb_22_8 : Cond.methodLink RX12 236 yX12_readStop ∈ bT := List.mem_append_left _ (in_r22 _ (List.mem_of_getElem? (i := 8) rfl))
theorem tb_22_11 : Cond.code yX12_readStop cX12_readStop 1 none ∈ bT := List.mem_append_left _ (in_r22 _ (List.mem_of_getElem? (i := 11) rfl))
theorem tb_22_9 : Cond.instanceMethod yX12_readStop ∈ bT := List.mem_append_left _ (in_r22 _ (List.mem_of_getElem? (i := 9) rfl))
theorem tb_22_10 : Cond.selects RX12 yX12_readStop yX12_readStop ∈ bT := List.mem_append_left _ (in_r22 _ (List.mem_of_getElem? (i := 10) rfl))
theorem tb_20_11 : Cond.methodLink RX12 239 yX12_fails ∈ bT := List.mem_append_left _ (in_r20 _ (List.mem_of_getElem? (i := 11) rfl))
theorem tb_20_14 : Cond.code yX12_fails cX12_fails 2 (some .int) ∈ bT := List.mem_append_left _ (in_r20 _ (List.mem_of_getElem? (i := 14) rfl))
theorem tb_20_12 : Cond.instanceMethod yX12_fails ∈ bT := List.mem_append_left _ (in_r20 _ (List.mem_of_getElem? (i := 12) rfl))
theorem tb_20_13 : Cond.selects RX12 yX12_fails yX12_fails ∈ bT := List.mem_append_left _ (in_r20 _ (List.mem_of_getElem? (i := 13) rfl))
theorem tb_21_10 : Cond.methodLink RX12 244 yX12_mustWord ∈ bT := List.mem_append_left _ (in_r21 _ (List.mem_of_getElem? (i := 10) rfl))
theorem tb_21_13 : Cond.code yX12_mustWord cX12_mustWord 2 none ∈ bT := List.mem_append_left _ (in_r21 _ (List.mem_of_getElem? (i := 13) rfl))
theorem tb_21_11 : Cond.instanceMethod yX12_mustWord ∈ bT := List.mem_append_left _ (in_r21 _ (List.mem_of_getElem? (i := 11) rfl))
theorem tb_21_12 : Cond.selects RX12 yX12_mustWord yX12_mustWord ∈ bT := List.mem_append_left _ (in_r21 _ (List.mem_of_getElem? (i := 12) rfl))
theorem tb_22_16 : Cond.methodLink RX12 248 yX12_readLine ∈ bT := List.mem_append_left _ (in_r22 _ (List.mem_of_getElem? (i := 16) rfl))
theorem tb_22_19 : Cond.code yX12_readLine cX12_readLine 1 none ∈ bT := List.mem_append_left _ (in_r22 _ (List.mem_of_getElem? (i := 19) rfl))
theorem tb_22_17 : Cond.instanceMethod yX12_readLine ∈ bT := List.mem_append_left _ (in_r22 _ (List.mem_of_getElem? (i := 17) rfl))
theorem tb_22_18 : Cond.selects RX12 yX12_readLine yX12_readLine ∈ bT := List.mem_append_left _ (in_r22 _ (List.mem_of_getElem? (i := 18) rfl))
theorem tb_28_17 : Cond.methodLink RX12 254 yX12_size ∈ bT := List.mem_append_left _ (in_r28 _ (List.mem_of_getElem? (i := 17) rfl))
theorem tb_28_20 : Cond.code yX12_size cX12_size 1 (some .int) ∈ bT := List.mem_append_left _ (in_r28 _ (List.mem_of_getElem? (i := 20) rfl))
theorem tb_28_18 : Cond.instanceMethod yX12_size ∈ bT := List.mem_append_left _ (in_r28 _ (List.mem_of_getElem? (i := 18) rfl))
theorem tb_28_19 : Cond.selects RX12 yX12_size yX12_size ∈ bT := List.mem_append_left _ (in_r28 _ (List.mem_of_getElem? (i := 19) rfl))
theorem tb_29_13 : Cond.methodLink RX12 257 yX12_has ∈ bT := List.mem_append_left _ (in_r29 _ (List.mem_of_getElem? (i := 13) rfl))
theorem tb_29_15 : Cond.code yX12_has cX12_has 2 (some .boolean) ∈ bT := List.mem_append_left _ (in_r29 _ (List.mem_of_getElem? (i := 15) rfl))
theorem tb_29_14 : Cond.static yX12_has ∈ bT := List.mem_append_left _ (in_r29 _ (List.mem_of_getElem? (i := 14) rfl))
theorem tb_30_9 : Cond.methodLink RX12 274 yX12_bound ∈ bT := List.mem_append_left _ (in_r30 _ (List.mem_of_getElem? (i := 9) rfl))
theorem tb_30_11 : Cond.code yX12_bound cX12_bound 2 (some .int) ∈ bT := List.mem_append_left _ (in_r30 _ (List.mem_of_getElem? (i := 11) rfl))
theorem tb_30_10 : Cond.static yX12_bound ∈ bT := List.mem_append_left _ (in_r30 _ (List.mem_of_getElem? (i := 10) rfl))
theorem tb_30_6 : Cond.methodLink RX12 278 yX12_done ∈ bT := List.mem_append_left _ (in_r30 _ (List.mem_of_getElem? (i := 6) rfl))
theorem tb_30_8 : Cond.code yX12_done cX12_done 5 (some .int) ∈ bT := List.mem_append_left _ (in_r30 _ (List.mem_of_getElem? (i := 8) rfl))
theorem tb_30_7 : Cond.static yX12_done ∈ bT := List.mem_append_left _ (in_r30 _ (List.mem_of_getElem? (i := 7) rfl))
theorem tb_29_9 : Cond.methodLink RX12 287 yX12_isStuck ∈ bT := List.mem_append_left _ (in_r29 _ (List.mem_of_getElem? (i := 9) rfl))
theorem tb_29_12 : Cond.code yX12_isStuck cX12_isStuck 2 (some .boolean) ∈ bT := List.mem_append_left _ (in_r29 _ (List.mem_of_getElem? (i := 12) rfl))
theorem tb_29_10 : Cond.instanceMethod yX12_isStuck ∈ bT := List.mem_append_left _ (in_r29 _ (List.mem_of_getElem? (i := 10) rfl))
theorem tb_29_11 : Cond.selects RX12 yX12_isStuck yX12_isStuck ∈ bT := List.mem_append_left _ (in_r29 _ (List.mem_of_getElem? (i := 11) rfl))
theorem tb_33_0 : Cond.methodLink RX12 290 yX12_apart ∈ bT := List.mem_append_left _ (in_r33 _ (List.mem_of_getElem? (i := 0) rfl))
theorem tb_33_3 : Cond.code yX12_apart cX12_apart 4 (some .int) ∈ bT := List.mem_append_left _ (in_r33 _ (List.mem_of_getElem? (i := 3) rfl))
theorem tb_33_1 : Cond.instanceMethod yX12_apart ∈ bT := List.mem_append_left _ (in_r33 _ (List.mem_of_getElem? (i := 1) rfl))
theorem tb_33_2 : Cond.selects RX12 yX12_apart yX12_apart ∈ bT := List.mem_append_left _ (in_r33 _ (List.mem_of_getElem? (i := 2) rfl))
theorem tb_29_22 : Cond.methodLink RX12 292 yX12_asks ∈ bT := List.mem_append_left _ (in_r29 _ (List.mem_of_getElem? (i := 22) rfl))
theorem tb_30_1 : Cond.code yX12_asks cX12_asks 4 none ∈ bT := List.mem_append_left _ (in_r30 _ (List.mem_of_getElem? (i := 1) rfl))
theorem tb_29_23 : Cond.instanceMethod yX12_asks ∈ bT := List.mem_append_left _ (in_r29 _ (List.mem_of_getElem? (i := 23) rfl))
theorem tb_30_0 : Cond.selects RX12 yX12_asks yX12_asks ∈ bT := List.mem_append_left _ (in_r30 _ (List.mem_of_getElem? (i := 0) rfl))
theorem tb_30_2 : Cond.methodLink RX12 296 yX12_lawOf ∈ bT := List.mem_append_left _ (in_r30 _ (List.mem_of_getElem? (i := 2) rfl))
theorem tb_30_5 : Cond.code yX12_lawOf cX12_lawOf 6 (some .int) ∈ bT := List.mem_append_left _ (in_r30 _ (List.mem_of_getElem? (i := 5) rfl))
theorem tb_30_3 : Cond.instanceMethod yX12_lawOf ∈ bT := List.mem_append_left _ (in_r30 _ (List.mem_of_getElem? (i := 3) rfl))
theorem tb_30_4 : Cond.selects RX12 yX12_lawOf yX12_lawOf ∈ bT := List.mem_append_left _ (in_r30 _ (List.mem_of_getElem? (i := 4) rfl))
theorem tb_32_20 : Cond.methodLink RX12 299 yX12_goesAlong ∈ bT := List.mem_append_left _ (in_r32 _ (List.mem_of_getElem? (i := 20) rfl))
theorem tb_32_23 : Cond.code yX12_goesAlong cX12_goesAlong 3 (some .boolean) ∈ bT := List.mem_append_left _ (in_r32 _ (List.mem_of_getElem? (i := 23) rfl))
theorem tb_32_21 : Cond.instanceMethod yX12_goesAlong ∈ bT := List.mem_append_left _ (in_r32 _ (List.mem_of_getElem? (i := 21) rfl))
theorem tb_32_22 : Cond.selects RX12 yX12_goesAlong yX12_goesAlong ∈ bT := List.mem_append_left _ (in_r32 _ (List.mem_of_getElem? (i := 22) rfl))
theorem tb_29_5 : Cond.methodLink RX12 304 yX12_faced ∈ bT := List.mem_append_left _ (in_r29 _ (List.mem_of_getElem? (i := 5) rfl))
theorem tb_29_8 : Cond.code yX12_faced cX12_faced 2 (some .int) ∈ bT := List.mem_append_left _ (in_r29 _ (List.mem_of_getElem? (i := 8) rfl))
theorem tb_29_6 : Cond.instanceMethod yX12_faced ∈ bT := List.mem_append_left _ (in_r29 _ (List.mem_of_getElem? (i := 6) rfl))
theorem tb_29_7 : Cond.selects RX12 yX12_faced yX12_faced ∈ bT := List.mem_append_left _ (in_r29 _ (List.mem_of_getElem? (i := 7) rfl))
theorem tb_29_1 : Cond.methodLink RX12 307 yX12_laysVotes ∈ bT := List.mem_append_left _ (in_r29 _ (List.mem_of_getElem? (i := 1) rfl))
theorem tb_29_4 : Cond.code yX12_laysVotes cX12_laysVotes 2 none ∈ bT := List.mem_append_left _ (in_r29 _ (List.mem_of_getElem? (i := 4) rfl))
theorem tb_29_2 : Cond.instanceMethod yX12_laysVotes ∈ bT := List.mem_append_left _ (in_r29 _ (List.mem_of_getElem? (i := 2) rfl))
theorem tb_29_3 : Cond.selects RX12 yX12_laysVotes yX12_laysVotes ∈ bT := List.mem_append_left _ (in_r29 _ (List.mem_of_getElem? (i := 3) rfl))
theorem tb_28_21 : Cond.methodLink RX12 310 yX12_aimsNow ∈ bT := List.mem_append_left _ (in_r28 _ (List.mem_of_getElem? (i := 21) rfl))
theorem tb_29_0 : Cond.code yX12_aimsNow cX12_aimsNow 2 none ∈ bT := List.mem_append_left _ (in_r29 _ (List.mem_of_getElem? (i := 0) rfl))
theorem tb_28_22 : Cond.instanceMethod yX12_aimsNow ∈ bT := List.mem_append_left _ (in_r28 _ (List.mem_of_getElem? (i := 22) rfl))
theorem tb_28_23 : Cond.selects RX12 yX12_aimsNow yX12_aimsNow ∈ bT := List.mem_append_left _ (in_r28 _ (List.mem_of_getElem? (i := 23) rfl))
theorem tb_31_13 : Cond.methodLink RX12 313 yX12_chairBy ∈ bT := List.mem_append_left _ (in_r31 _ (List.mem_of_getElem? (i := 13) rfl))
theorem tb_31_16 : Cond.code yX12_chairBy cX12_chairBy 3 (some .int) ∈ bT := List.mem_append_left _ (in_r31 _ (List.mem_of_getElem? (i := 16) rfl))
theorem tb_31_14 : Cond.instanceMethod yX12_chairBy ∈ bT := List.mem_append_left _ (in_r31 _ (List.mem_of_getElem? (i := 14) rfl))
theorem tb_31_15 : Cond.selects RX12 yX12_chairBy yX12_chairBy ∈ bT := List.mem_append_left _ (in_r31 _ (List.mem_of_getElem? (i := 15) rfl))
theorem tb_34_0 : Cond.methodLink RX12 316 yX12_goesBy ∈ bT := List.mem_append_left _ (in_r34 _ (List.mem_of_getElem? (i := 0) rfl))
theorem tb_34_3 : Cond.code yX12_goesBy cX12_goesBy 3 (some .int) ∈ bT := List.mem_append_left _ (in_r34 _ (List.mem_of_getElem? (i := 3) rfl))
theorem tb_34_1 : Cond.instanceMethod yX12_goesBy ∈ bT := List.mem_append_left _ (in_r34 _ (List.mem_of_getElem? (i := 1) rfl))
theorem tb_34_2 : Cond.selects RX12 yX12_goesBy yX12_goesBy ∈ bT := List.mem_append_left _ (in_r34 _ (List.mem_of_getElem? (i := 2) rfl))
theorem tb_28_13 : Cond.methodLink RX12 319 yX12_isMember ∈ bT := List.mem_append_left _ (in_r28 _ (List.mem_of_getElem? (i := 13) rfl))
theorem tb_28_16 : Cond.code yX12_isMember cX12_isMember 3 (some .boolean) ∈ bT := List.mem_append_left _ (in_r28 _ (List.mem_of_getElem? (i := 16) rfl))
theorem tb_28_14 : Cond.instanceMethod yX12_isMember ∈ bT := List.mem_append_left _ (in_r28 _ (List.mem_of_getElem? (i := 14) rfl))
theorem tb_28_15 : Cond.selects RX12 yX12_isMember yX12_isMember ∈ bT := List.mem_append_left _ (in_r28 _ (List.mem_of_getElem? (i := 15) rfl))
theorem tb_29_16 : Cond.methodLink RX12 325 yX12_notchCosts ∈ bT := List.mem_append_left _ (in_r29 _ (List.mem_of_getElem? (i := 16) rfl))
theorem tb_29_19 : Cond.code yX12_notchCosts cX12_notchCosts 2 (some .int) ∈ bT := List.mem_append_left _ (in_r29 _ (List.mem_of_getElem? (i := 19) rfl))
theorem tb_29_17 : Cond.instanceMethod yX12_notchCosts ∈ bT := List.mem_append_left _ (in_r29 _ (List.mem_of_getElem? (i := 17) rfl))
theorem tb_29_18 : Cond.selects RX12 yX12_notchCosts yX12_notchCosts ∈ bT := List.mem_append_left _ (in_r29 _ (List.mem_of_getElem? (i := 18) rfl))
theorem tb_31_9 : Cond.methodLink RX12 328 yX12_chairNow ∈ bT := List.mem_append_left _ (in_r31 _ (List.mem_of_getElem? (i := 9) rfl))
theorem tb_31_12 : Cond.code yX12_chairNow cX12_chairNow 1 (some .int) ∈ bT := List.mem_append_left _ (in_r31 _ (List.mem_of_getElem? (i := 12) rfl))
theorem tb_31_10 : Cond.instanceMethod yX12_chairNow ∈ bT := List.mem_append_left _ (in_r31 _ (List.mem_of_getElem? (i := 10) rfl))
theorem tb_31_11 : Cond.selects RX12 yX12_chairNow yX12_chairNow ∈ bT := List.mem_append_left _ (in_r31 _ (List.mem_of_getElem? (i := 11) rfl))
theorem tb_32_16 : Cond.methodLink RX12 331 yX12_draggedBy ∈ bT := List.mem_append_left _ (in_r32 _ (List.mem_of_getElem? (i := 16) rfl))
theorem tb_32_19 : Cond.code yX12_draggedBy cX12_draggedBy 4 (some .int) ∈ bT := List.mem_append_left _ (in_r32 _ (List.mem_of_getElem? (i := 19) rfl))
theorem tb_32_17 : Cond.instanceMethod yX12_draggedBy ∈ bT := List.mem_append_left _ (in_r32 _ (List.mem_of_getElem? (i := 17) rfl))
theorem tb_32_18 : Cond.selects RX12 yX12_draggedBy yX12_draggedBy ∈ bT := List.mem_append_left _ (in_r32 _ (List.mem_of_getElem? (i := 18) rfl))
theorem tb_37_17 : Cond.methodLink RX12 334 yX12_minute ∈ bT := List.mem_append_left _ (in_r37 _ (List.mem_of_getElem? (i := 17) rfl))
theorem tb_37_20 : Cond.code yX12_minute cX12_minute 2 none ∈ bT := List.mem_append_left _ (in_r37 _ (List.mem_of_getElem? (i := 20) rfl))
theorem tb_37_18 : Cond.instanceMethod yX12_minute ∈ bT := List.mem_append_left _ (in_r37 _ (List.mem_of_getElem? (i := 18) rfl))
theorem tb_37_19 : Cond.selects RX12 yX12_minute yX12_minute ∈ bT := List.mem_append_left _ (in_r37 _ (List.mem_of_getElem? (i := 19) rfl))
theorem tb_35_4 : Cond.methodLink RX12 337 yX12_whyTurn ∈ bT := List.mem_append_left _ (in_r35 _ (List.mem_of_getElem? (i := 4) rfl))
theorem tb_35_7 : Cond.code yX12_whyTurn cX12_whyTurn 5 (some .int) ∈ bT := List.mem_append_left _ (in_r35 _ (List.mem_of_getElem? (i := 7) rfl))
theorem tb_35_5 : Cond.instanceMethod yX12_whyTurn ∈ bT := List.mem_append_left _ (in_r35 _ (List.mem_of_getElem? (i := 5) rfl))
theorem tb_35_6 : Cond.selects RX12 yX12_whyTurn yX12_whyTurn ∈ bT := List.mem_append_left _ (in_r35 _ (List.mem_of_getElem? (i := 6) rfl))
theorem tb_35_8 : Cond.methodLink RX12 341 yX12_keeps ∈ bT := List.mem_append_left _ (in_r35 _ (List.mem_of_getElem? (i := 8) rfl))
theorem tb_35_11 : Cond.code yX12_keeps cX12_keeps 2 none ∈ bT := List.mem_append_left _ (in_r35 _ (List.mem_of_getElem? (i := 11) rfl))
theorem tb_35_9 : Cond.instanceMethod yX12_keeps ∈ bT := List.mem_append_left _ (in_r35 _ (List.mem_of_getElem? (i := 9) rfl))
theorem tb_35_10 : Cond.selects RX12 yX12_keeps yX12_keeps ∈ bT := List.mem_append_left _ (in_r35 _ (List.mem_of_getElem? (i := 10) rfl))
theorem tb_35_12 : Cond.methodLink RX12 344 yX12_turnsBy ∈ bT := List.mem_append_left _ (in_r35 _ (List.mem_of_getElem? (i := 12) rfl))
theorem tb_35_15 : Cond.code yX12_turnsBy cX12_turnsBy 5 none ∈ bT := List.mem_append_left _ (in_r35 _ (List.mem_of_getElem? (i := 15) rfl))
theorem tb_35_13 : Cond.instanceMethod yX12_turnsBy ∈ bT := List.mem_append_left _ (in_r35 _ (List.mem_of_getElem? (i := 13) rfl))
theorem tb_35_14 : Cond.selects RX12 yX12_turnsBy yX12_turnsBy ∈ bT := List.mem_append_left _ (in_r35 _ (List.mem_of_getElem? (i := 14) rfl))
theorem tb_37_13 : Cond.methodLink RX12 351 yX12_minuteNow ∈ bT := List.mem_append_left _ (in_r37 _ (List.mem_of_getElem? (i := 13) rfl))
theorem tb_37_16 : Cond.code yX12_minuteNow cX12_minuteNow 2 none ∈ bT := List.mem_append_left _ (in_r37 _ (List.mem_of_getElem? (i := 16) rfl))
theorem tb_37_14 : Cond.instanceMethod yX12_minuteNow ∈ bT := List.mem_append_left _ (in_r37 _ (List.mem_of_getElem? (i := 14) rfl))
theorem tb_37_15 : Cond.selects RX12 yX12_minuteNow yX12_minuteNow ∈ bT := List.mem_append_left _ (in_r37 _ (List.mem_of_getElem? (i := 15) rfl))
theorem tb_40_10 : Cond.methodLink RX12 356 yX12_isTray ∈ bT := List.mem_append_left _ (in_r40 _ (List.mem_of_getElem? (i := 10) rfl))
theorem tb_40_12 : Cond.code yX12_isTray cX12_isTray 1 (some .boolean) ∈ bT := List.mem_append_left _ (in_r40 _ (List.mem_of_getElem? (i := 12) rfl))
theorem tb_40_11 : Cond.static yX12_isTray ∈ bT := List.mem_append_left _ (in_r40 _ (List.mem_of_getElem? (i := 11) rfl))
theorem tb_40_6 : Cond.methodLink RX12 369 yX12_trayFault ∈ bT := List.mem_append_left _ (in_r40 _ (List.mem_of_getElem? (i := 6) rfl))
theorem tb_40_9 : Cond.code yX12_trayFault cX12_trayFault 2 (some .int) ∈ bT := List.mem_append_left _ (in_r40 _ (List.mem_of_getElem? (i := 9) rfl))
theorem tb_40_7 : Cond.instanceMethod yX12_trayFault ∈ bT := List.mem_append_left _ (in_r40 _ (List.mem_of_getElem? (i := 7) rfl))
theorem tb_40_8 : Cond.selects RX12 yX12_trayFault yX12_trayFault ∈ bT := List.mem_append_left _ (in_r40 _ (List.mem_of_getElem? (i := 8) rfl))
theorem tb_40_13 : Cond.methodLink RX12 374 yX12_putsAside ∈ bT := List.mem_append_left _ (in_r40 _ (List.mem_of_getElem? (i := 13) rfl))
theorem tb_40_16 : Cond.code yX12_putsAside cX12_putsAside 2 none ∈ bT := List.mem_append_left _ (in_r40 _ (List.mem_of_getElem? (i := 16) rfl))
theorem tb_40_14 : Cond.instanceMethod yX12_putsAside ∈ bT := List.mem_append_left _ (in_r40 _ (List.mem_of_getElem? (i := 14) rfl))
theorem tb_40_15 : Cond.selects RX12 yX12_putsAside yX12_putsAside ∈ bT := List.mem_append_left _ (in_r40 _ (List.mem_of_getElem? (i := 15) rfl))
theorem tb_40_17 : Cond.methodLink RX12 377 yX12_whyTold ∈ bT := List.mem_append_left _ (in_r40 _ (List.mem_of_getElem? (i := 17) rfl))
theorem tb_40_20 : Cond.code yX12_whyTold cX12_whyTold 3 (some .int) ∈ bT := List.mem_append_left _ (in_r40 _ (List.mem_of_getElem? (i := 20) rfl))
theorem tb_40_18 : Cond.instanceMethod yX12_whyTold ∈ bT := List.mem_append_left _ (in_r40 _ (List.mem_of_getElem? (i := 18) rfl))
theorem tb_40_19 : Cond.selects RX12 yX12_whyTold yX12_whyTold ∈ bT := List.mem_append_left _ (in_r40 _ (List.mem_of_getElem? (i := 19) rfl))
theorem tb_41_2 : Cond.methodLink RX12 380 yX12_does ∈ bT := List.mem_append_left _ (in_r41 _ (List.mem_of_getElem? (i := 2) rfl))
theorem tb_41_5 : Cond.code yX12_does cX12_does 2 none ∈ bT := List.mem_append_left _ (in_r41 _ (List.mem_of_getElem? (i := 5) rfl))
theorem tb_41_3 : Cond.instanceMethod yX12_does ∈ bT := List.mem_append_left _ (in_r41 _ (List.mem_of_getElem? (i := 3) rfl))
theorem tb_41_4 : Cond.selects RX12 yX12_does yX12_does ∈ bT := List.mem_append_left _ (in_r41 _ (List.mem_of_getElem? (i := 4) rfl))
theorem tb_41_6 : Cond.methodLink RX12 383 yX12_putsBack ∈ bT := List.mem_append_left _ (in_r41 _ (List.mem_of_getElem? (i := 6) rfl))
theorem tb_41_9 : Cond.code yX12_putsBack cX12_putsBack 2 none ∈ bT := List.mem_append_left _ (in_r41 _ (List.mem_of_getElem? (i := 9) rfl))
theorem tb_41_7 : Cond.instanceMethod yX12_putsBack ∈ bT := List.mem_append_left _ (in_r41 _ (List.mem_of_getElem? (i := 7) rfl))
theorem tb_41_8 : Cond.selects RX12 yX12_putsBack yX12_putsBack ∈ bT := List.mem_append_left _ (in_r41 _ (List.mem_of_getElem? (i := 8) rfl))
theorem tb_42_19 : Cond.methodLink RX12 392 yX12_draw ∈ bT := List.mem_append_left _ (in_r42 _ (List.mem_of_getElem? (i := 19) rfl))
theorem tb_42_22 : Cond.code yX12_draw cX12_draw 2 (some .int) ∈ bT := List.mem_append_left _ (in_r42 _ (List.mem_of_getElem? (i := 22) rfl))
theorem tb_42_20 : Cond.instanceMethod yX12_draw ∈ bT := List.mem_append_left _ (in_r42 _ (List.mem_of_getElem? (i := 20) rfl))
theorem tb_42_21 : Cond.selects RX12 yX12_draw yX12_draw ∈ bT := List.mem_append_left _ (in_r42 _ (List.mem_of_getElem? (i := 21) rfl))
theorem tb_43_0 : Cond.methodLink RX12 395 yX12_drawn ∈ bT := List.mem_append_left _ (in_r43 _ (List.mem_of_getElem? (i := 0) rfl))
theorem tb_43_3 : Cond.code yX12_drawn cX12_drawn 3 (some .int) ∈ bT := List.mem_append_left _ (in_r43 _ (List.mem_of_getElem? (i := 3) rfl))
theorem tb_43_1 : Cond.instanceMethod yX12_drawn ∈ bT := List.mem_append_left _ (in_r43 _ (List.mem_of_getElem? (i := 1) rfl))
theorem tb_43_2 : Cond.selects RX12 yX12_drawn yX12_drawn ∈ bT := List.mem_append_left _ (in_r43 _ (List.mem_of_getElem? (i := 2) rfl))
theorem tb_48_10 : Cond.methodLink RX12 398 yX12_costOf ∈ bT := List.mem_append_left _ (in_r48 _ (List.mem_of_getElem? (i := 10) rfl))
theorem tb_48_13 : Cond.code yX12_costOf cX12_costOf 3 (some .int) ∈ bT := List.mem_append_left _ (in_r48 _ (List.mem_of_getElem? (i := 13) rfl))
theorem tb_48_11 : Cond.instanceMethod yX12_costOf ∈ bT := List.mem_append_left _ (in_r48 _ (List.mem_of_getElem? (i := 11) rfl))
theorem tb_48_12 : Cond.selects RX12 yX12_costOf yX12_costOf ∈ bT := List.mem_append_left _ (in_r48 _ (List.mem_of_getElem? (i := 12) rfl))
theorem tb_47_17 : Cond.methodLink RX12 404 yX12_sees ∈ bT := List.mem_append_left _ (in_r47 _ (List.mem_of_getElem? (i := 17) rfl))
theorem tb_47_20 : Cond.code yX12_sees cX12_sees 1 none ∈ bT := List.mem_append_left _ (in_r47 _ (List.mem_of_getElem? (i := 20) rfl))
theorem tb_47_18 : Cond.instanceMethod yX12_sees ∈ bT := List.mem_append_left _ (in_r47 _ (List.mem_of_getElem? (i := 18) rfl))
theorem tb_47_19 : Cond.selects RX12 yX12_sees yX12_sees ∈ bT := List.mem_append_left _ (in_r47 _ (List.mem_of_getElem? (i := 19) rfl))
theorem tb_47_13 : Cond.methodLink RX12 407 yX12_goesRows ∈ bT := List.mem_append_left _ (in_r47 _ (List.mem_of_getElem? (i := 13) rfl))
theorem tb_47_16 : Cond.code yX12_goesRows cX12_goesRows 4 none ∈ bT := List.mem_append_left _ (in_r47 _ (List.mem_of_getElem? (i := 16) rfl))
theorem tb_47_14 : Cond.instanceMethod yX12_goesRows ∈ bT := List.mem_append_left _ (in_r47 _ (List.mem_of_getElem? (i := 14) rfl))
theorem tb_47_15 : Cond.selects RX12 yX12_goesRows yX12_goesRows ∈ bT := List.mem_append_left _ (in_r47 _ (List.mem_of_getElem? (i := 15) rfl))
theorem tb_47_9 : Cond.methodLink RX12 423 yX12_laysAlong ∈ bT := List.mem_append_left _ (in_r47 _ (List.mem_of_getElem? (i := 9) rfl))
theorem tb_47_12 : Cond.code yX12_laysAlong cX12_laysAlong 2 none ∈ bT := List.mem_append_left _ (in_r47 _ (List.mem_of_getElem? (i := 12) rfl))
theorem tb_47_10 : Cond.instanceMethod yX12_laysAlong ∈ bT := List.mem_append_left _ (in_r47 _ (List.mem_of_getElem? (i := 10) rfl))
theorem tb_47_11 : Cond.selects RX12 yX12_laysAlong yX12_laysAlong ∈ bT := List.mem_append_left _ (in_r47 _ (List.mem_of_getElem? (i := 11) rfl))
theorem tb_47_22 : Cond.methodLink RX12 426 yX12_aimsBehind ∈ bT := List.mem_append_left _ (in_r47 _ (List.mem_of_getElem? (i := 22) rfl))
theorem tb_48_1 : Cond.code yX12_aimsBehind cX12_aimsBehind 3 none ∈ bT := List.mem_append_left _ (in_r48 _ (List.mem_of_getElem? (i := 1) rfl))
theorem tb_47_23 : Cond.instanceMethod yX12_aimsBehind ∈ bT := List.mem_append_left _ (in_r47 _ (List.mem_of_getElem? (i := 23) rfl))
theorem tb_48_0 : Cond.selects RX12 yX12_aimsBehind yX12_aimsBehind ∈ bT := List.mem_append_left _ (in_r48 _ (List.mem_of_getElem? (i := 0) rfl))
theorem tb_48_2 : Cond.methodLink RX12 432 yX12_looksSo ∈ bT := List.mem_append_left _ (in_r48 _ (List.mem_of_getElem? (i := 2) rfl))
theorem tb_48_5 : Cond.code yX12_looksSo cX12_looksSo 3 (some .boolean) ∈ bT := List.mem_append_left _ (in_r48 _ (List.mem_of_getElem? (i := 5) rfl))
theorem tb_48_3 : Cond.instanceMethod yX12_looksSo ∈ bT := List.mem_append_left _ (in_r48 _ (List.mem_of_getElem? (i := 3) rfl))
theorem tb_48_4 : Cond.selects RX12 yX12_looksSo yX12_looksSo ∈ bT := List.mem_append_left _ (in_r48 _ (List.mem_of_getElem? (i := 4) rfl))
theorem tb_48_6 : Cond.methodLink RX12 435 yX12_seesOne ∈ bT := List.mem_append_left _ (in_r48 _ (List.mem_of_getElem? (i := 6) rfl))
theorem tb_48_9 : Cond.code yX12_seesOne cX12_seesOne 1 none ∈ bT := List.mem_append_left _ (in_r48 _ (List.mem_of_getElem? (i := 9) rfl))
theorem tb_48_7 : Cond.instanceMethod yX12_seesOne ∈ bT := List.mem_append_left _ (in_r48 _ (List.mem_of_getElem? (i := 7) rfl))
theorem tb_48_8 : Cond.selects RX12 yX12_seesOne yX12_seesOne ∈ bT := List.mem_append_left _ (in_r48 _ (List.mem_of_getElem? (i := 8) rfl))
theorem tb_48_18 : Cond.methodLink RX12 441 yX12_seesKnees ∈ bT := List.mem_append_left _ (in_r48 _ (List.mem_of_getElem? (i := 18) rfl))
theorem tb_48_21 : Cond.code yX12_seesKnees cX12_seesKnees 2 none ∈ bT := List.mem_append_left _ (in_r48 _ (List.mem_of_getElem? (i := 21) rfl))
theorem tb_48_19 : Cond.instanceMethod yX12_seesKnees ∈ bT := List.mem_append_left _ (in_r48 _ (List.mem_of_getElem? (i := 19) rfl))
theorem tb_48_20 : Cond.selects RX12 yX12_seesKnees yX12_seesKnees ∈ bT := List.mem_append_left _ (in_r48 _ (List.mem_of_getElem? (i := 20) rfl))
theorem tb_49_2 : Cond.methodLink RX12 444 yX12_seesLook ∈ bT := List.mem_append_left _ (in_r49 _ (List.mem_of_getElem? (i := 2) rfl))
theorem tb_49_5 : Cond.code yX12_seesLook cX12_seesLook 3 none ∈ bT := List.mem_append_left _ (in_r49 _ (List.mem_of_getElem? (i := 5) rfl))
theorem tb_49_3 : Cond.instanceMethod yX12_seesLook ∈ bT := List.mem_append_left _ (in_r49 _ (List.mem_of_getElem? (i := 3) rfl))
theorem tb_49_4 : Cond.selects RX12 yX12_seesLook yX12_seesLook ∈ bT := List.mem_append_left _ (in_r49 _ (List.mem_of_getElem? (i := 4) rfl))
theorem tb_49_10 : Cond.methodLink RX12 447 yX12_isAsNow ∈ bT := List.mem_append_left _ (in_r49 _ (List.mem_of_getElem? (i := 10) rfl))
theorem tb_49_13 : Cond.code yX12_isAsNow cX12_isAsNow 2 (some .boolean) ∈ bT := List.mem_append_left _ (in_r49 _ (List.mem_of_getElem? (i := 13) rfl))
theorem tb_49_11 : Cond.instanceMethod yX12_isAsNow ∈ bT := List.mem_append_left _ (in_r49 _ (List.mem_of_getElem? (i := 11) rfl))
theorem tb_49_12 : Cond.selects RX12 yX12_isAsNow yX12_isAsNow ∈ bT := List.mem_append_left _ (in_r49 _ (List.mem_of_getElem? (i := 12) rfl))
theorem tb_49_14 : Cond.methodLink RX12 451 yX12_seesHelp ∈ bT := List.mem_append_left _ (in_r49 _ (List.mem_of_getElem? (i := 14) rfl))
theorem tb_49_17 : Cond.code yX12_seesHelp cX12_seesHelp 3 none ∈ bT := List.mem_append_left _ (in_r49 _ (List.mem_of_getElem? (i := 17) rfl))
theorem tb_49_15 : Cond.instanceMethod yX12_seesHelp ∈ bT := List.mem_append_left _ (in_r49 _ (List.mem_of_getElem? (i := 15) rfl))
theorem tb_49_16 : Cond.selects RX12 yX12_seesHelp yX12_seesHelp ∈ bT := List.mem_append_left _ (in_r49 _ (List.mem_of_getElem? (i := 16) rfl))
theorem tb_48_14 : Cond.methodLink RX12 454 yX12_keepsRow ∈ bT := List.mem_append_left _ (in_r48 _ (List.mem_of_getElem? (i := 14) rfl))
theorem tb_48_17 : Cond.code yX12_keepsRow cX12_keepsRow 2 none ∈ bT := List.mem_append_left _ (in_r48 _ (List.mem_of_getElem? (i := 17) rfl))
theorem tb_48_15 : Cond.instanceMethod yX12_keepsRow ∈ bT := List.mem_append_left _ (in_r48 _ (List.mem_of_getElem? (i := 15) rfl))
theorem tb_48_16 : Cond.selects RX12 yX12_keepsRow yX12_keepsRow ∈ bT := List.mem_append_left _ (in_r48 _ (List.mem_of_getElem? (i := 16) rfl))
theorem tb_48_22 : Cond.methodLink RX12 457 yX12_kneesBy ∈ bT := List.mem_append_left _ (in_r48 _ (List.mem_of_getElem? (i := 22) rfl))
theorem tb_49_1 : Cond.code yX12_kneesBy cX12_kneesBy 4 (some .int) ∈ bT := List.mem_append_left _ (in_r49 _ (List.mem_of_getElem? (i := 1) rfl))
theorem tb_48_23 : Cond.instanceMethod yX12_kneesBy ∈ bT := List.mem_append_left _ (in_r48 _ (List.mem_of_getElem? (i := 23) rfl))
theorem tb_49_0 : Cond.selects RX12 yX12_kneesBy yX12_kneesBy ∈ bT := List.mem_append_left _ (in_r49 _ (List.mem_of_getElem? (i := 0) rfl))
theorem tb_49_6 : Cond.methodLink RX12 460 yX12_lookCode ∈ bT := List.mem_append_left _ (in_r49 _ (List.mem_of_getElem? (i := 6) rfl))
theorem tb_49_9 : Cond.code yX12_lookCode cX12_lookCode 3 (some .int) ∈ bT := List.mem_append_left _ (in_r49 _ (List.mem_of_getElem? (i := 9) rfl))
theorem tb_49_7 : Cond.instanceMethod yX12_lookCode ∈ bT := List.mem_append_left _ (in_r49 _ (List.mem_of_getElem? (i := 7) rfl))
theorem tb_49_8 : Cond.selects RX12 yX12_lookCode yX12_lookCode ∈ bT := List.mem_append_left _ (in_r49 _ (List.mem_of_getElem? (i := 8) rfl))
theorem tb_49_18 : Cond.methodLink RX12 463 yX12_bits ∈ bT := List.mem_append_left _ (in_r49 _ (List.mem_of_getElem? (i := 18) rfl))
theorem tb_49_20 : Cond.code yX12_bits cX12_bits 3 (some .int) ∈ bT := List.mem_append_left _ (in_r49 _ (List.mem_of_getElem? (i := 20) rfl))
theorem tb_49_19 : Cond.static yX12_bits ∈ bT := List.mem_append_left _ (in_r49 _ (List.mem_of_getElem? (i := 19) rfl))
theorem tb_46_15 : Cond.methodLink RX12 468 yX12_lookFault ∈ bT := List.mem_append_left _ (in_r46 _ (List.mem_of_getElem? (i := 15) rfl))
theorem tb_46_18 : Cond.code yX12_lookFault cX12_lookFault 5 (some .int) ∈ bT := List.mem_append_left _ (in_r46 _ (List.mem_of_getElem? (i := 18) rfl))
theorem tb_46_16 : Cond.instanceMethod yX12_lookFault ∈ bT := List.mem_append_left _ (in_r46 _ (List.mem_of_getElem? (i := 16) rfl))
theorem tb_46_17 : Cond.selects RX12 yX12_lookFault yX12_lookFault ∈ bT := List.mem_append_left _ (in_r46 _ (List.mem_of_getElem? (i := 17) rfl))
theorem tb_46_19 : Cond.methodLink RX12 471 yX12_isWhat ∈ bT := List.mem_append_left _ (in_r46 _ (List.mem_of_getElem? (i := 19) rfl))
theorem tb_46_21 : Cond.code yX12_isWhat cX12_isWhat 1 (some .boolean) ∈ bT := List.mem_append_left _ (in_r46 _ (List.mem_of_getElem? (i := 21) rfl))
theorem tb_46_20 : Cond.static yX12_isWhat ∈ bT := List.mem_append_left _ (in_r46 _ (List.mem_of_getElem? (i := 20) rfl))
theorem tb_46_23 : Cond.methodLink RX12 474 yX12_asksRows ∈ bT := List.mem_append_left _ (in_r46 _ (List.mem_of_getElem? (i := 23) rfl))
theorem tb_47_2 : Cond.code yX12_asksRows cX12_asksRows 2 none ∈ bT := List.mem_append_left _ (in_r47 _ (List.mem_of_getElem? (i := 2) rfl))
theorem tb_47_0 : Cond.instanceMethod yX12_asksRows ∈ bT := List.mem_append_left _ (in_r47 _ (List.mem_of_getElem? (i := 0) rfl))
theorem tb_47_1 : Cond.selects RX12 yX12_asksRows yX12_asksRows ∈ bT := List.mem_append_left _ (in_r47 _ (List.mem_of_getElem? (i := 1) rfl))
theorem tb_49_21 : Cond.methodLink RX12 477 yX12_toldRow ∈ bT := List.mem_append_left _ (in_r49 _ (List.mem_of_getElem? (i := 21) rfl))
theorem tb_50_0 : Cond.code yX12_toldRow cX12_toldRow 2 (some .int) ∈ bT := List.mem_append_left _ (in_r50 _ (List.mem_of_getElem? (i := 0) rfl))
theorem tb_49_22 : Cond.instanceMethod yX12_toldRow ∈ bT := List.mem_append_left _ (in_r49 _ (List.mem_of_getElem? (i := 22) rfl))
theorem tb_49_23 : Cond.selects RX12 yX12_toldRow yX12_toldRow ∈ bT := List.mem_append_left _ (in_r49 _ (List.mem_of_getElem? (i := 23) rfl))
theorem tb_52_18 : Cond.methodLink RX12 480 yX12_laysLooks ∈ bT := List.mem_append_left _ (in_r52 _ (List.mem_of_getElem? (i := 18) rfl))
theorem tb_52_21 : Cond.code yX12_laysLooks cX12_laysLooks 2 none ∈ bT := List.mem_append_left _ (in_r52 _ (List.mem_of_getElem? (i := 21) rfl))
theorem tb_52_19 : Cond.instanceMethod yX12_laysLooks ∈ bT := List.mem_append_left _ (in_r52 _ (List.mem_of_getElem? (i := 19) rfl))
theorem tb_52_20 : Cond.selects RX12 yX12_laysLooks yX12_laysLooks ∈ bT := List.mem_append_left _ (in_r52 _ (List.mem_of_getElem? (i := 20) rfl))
theorem tb_55_8 : Cond.methodLink RX12 483 yX12_aimsBehindOne ∈ bT := List.mem_append_left _ (in_r55 _ (List.mem_of_getElem? (i := 8) rfl))
theorem tb_55_11 : Cond.code yX12_aimsBehindOne cX12_aimsBehindOne 4 none ∈ bT := List.mem_append_left _ (in_r55 _ (List.mem_of_getElem? (i := 11) rfl))
theorem tb_55_9 : Cond.instanceMethod yX12_aimsBehindOne ∈ bT := List.mem_append_left _ (in_r55 _ (List.mem_of_getElem? (i := 9) rfl))
theorem tb_55_10 : Cond.selects RX12 yX12_aimsBehindOne yX12_aimsBehindOne ∈ bT := List.mem_append_left _ (in_r55 _ (List.mem_of_getElem? (i := 10) rfl))
theorem tb_59_12 : Cond.methodLink RX12 492 yX12_laysRound ∈ bT := List.mem_append_left _ (in_r59 _ (List.mem_of_getElem? (i := 12) rfl))
theorem tb_59_15 : Cond.code yX12_laysRound cX12_laysRound 2 none ∈ bT := List.mem_append_left _ (in_r59 _ (List.mem_of_getElem? (i := 15) rfl))
theorem tb_59_13 : Cond.instanceMethod yX12_laysRound ∈ bT := List.mem_append_left _ (in_r59 _ (List.mem_of_getElem? (i := 13) rfl))
theorem tb_59_14 : Cond.selects RX12 yX12_laysRound yX12_laysRound ∈ bT := List.mem_append_left _ (in_r59 _ (List.mem_of_getElem? (i := 14) rfl))
theorem tb_60_13 : Cond.methodLink RX12 497 yX12_isFar ∈ bT := List.mem_append_left _ (in_r60 _ (List.mem_of_getElem? (i := 13) rfl))
theorem tb_60_15 : Cond.code yX12_isFar cX12_isFar 1 (some .boolean) ∈ bT := List.mem_append_left _ (in_r60 _ (List.mem_of_getElem? (i := 15) rfl))
theorem tb_60_14 : Cond.static yX12_isFar ∈ bT := List.mem_append_left _ (in_r60 _ (List.mem_of_getElem? (i := 14) rfl))
theorem tb_60_17 : Cond.methodLink RX12 500 yX12_aimsIn ∈ bT := List.mem_append_left _ (in_r60 _ (List.mem_of_getElem? (i := 17) rfl))
theorem tb_60_20 : Cond.code yX12_aimsIn cX12_aimsIn 4 none ∈ bT := List.mem_append_left _ (in_r60 _ (List.mem_of_getElem? (i := 20) rfl))
theorem tb_60_18 : Cond.instanceMethod yX12_aimsIn ∈ bT := List.mem_append_left _ (in_r60 _ (List.mem_of_getElem? (i := 18) rfl))
theorem tb_60_19 : Cond.selects RX12 yX12_aimsIn yX12_aimsIn ∈ bT := List.mem_append_left _ (in_r60 _ (List.mem_of_getElem? (i := 19) rfl))
theorem tb_63_8 : Cond.methodLink RX12 508 yX12_laysSeen ∈ bT := List.mem_append_left _ (in_r63 _ (List.mem_of_getElem? (i := 8) rfl))
theorem tb_63_11 : Cond.code yX12_laysSeen cX12_laysSeen 4 none ∈ bT := List.mem_append_left _ (in_r63 _ (List.mem_of_getElem? (i := 11) rfl))
theorem tb_63_9 : Cond.instanceMethod yX12_laysSeen ∈ bT := List.mem_append_left _ (in_r63 _ (List.mem_of_getElem? (i := 9) rfl))
theorem tb_63_10 : Cond.selects RX12 yX12_laysSeen yX12_laysSeen ∈ bT := List.mem_append_left _ (in_r63 _ (List.mem_of_getElem? (i := 10) rfl))
theorem tb_64_17 : Cond.methodLink RX12 511 yX12_mostAlike ∈ bT := List.mem_append_left _ (in_r64 _ (List.mem_of_getElem? (i := 17) rfl))
theorem tb_64_20 : Cond.code yX12_mostAlike cX12_mostAlike 6 (some .int) ∈ bT := List.mem_append_left _ (in_r64 _ (List.mem_of_getElem? (i := 20) rfl))
theorem tb_64_18 : Cond.instanceMethod yX12_mostAlike ∈ bT := List.mem_append_left _ (in_r64 _ (List.mem_of_getElem? (i := 18) rfl))
theorem tb_64_19 : Cond.selects RX12 yX12_mostAlike yX12_mostAlike ∈ bT := List.mem_append_left _ (in_r64 _ (List.mem_of_getElem? (i := 19) rfl))
theorem tb_66_11 : Cond.methodLink RX12 514 yX12_loose ∈ bT := List.mem_append_left _ (in_r66 _ (List.mem_of_getElem? (i := 11) rfl))
theorem tb_66_14 : Cond.code yX12_loose cX12_loose 3 (some .int) ∈ bT := List.mem_append_left _ (in_r66 _ (List.mem_of_getElem? (i := 14) rfl))
theorem tb_66_12 : Cond.instanceMethod yX12_loose ∈ bT := List.mem_append_left _ (in_r66 _ (List.mem_of_getElem? (i := 12) rfl))
theorem tb_66_13 : Cond.selects RX12 yX12_loose yX12_loose ∈ bT := List.mem_append_left _ (in_r66 _ (List.mem_of_getElem? (i := 13) rfl))
theorem tb_66_7 : Cond.methodLink RX12 517 yX12_goesChance ∈ bT := List.mem_append_left _ (in_r66 _ (List.mem_of_getElem? (i := 7) rfl))
theorem tb_66_10 : Cond.code yX12_goesChance cX12_goesChance 3 none ∈ bT := List.mem_append_left _ (in_r66 _ (List.mem_of_getElem? (i := 10) rfl))
theorem tb_66_8 : Cond.instanceMethod yX12_goesChance ∈ bT := List.mem_append_left _ (in_r66 _ (List.mem_of_getElem? (i := 8) rfl))
theorem tb_66_9 : Cond.selects RX12 yX12_goesChance yX12_goesChance ∈ bT := List.mem_append_left _ (in_r66 _ (List.mem_of_getElem? (i := 9) rfl))
theorem tb_66_3 : Cond.methodLink RX12 522 yX12_laysChance ∈ bT := List.mem_append_left _ (in_r66 _ (List.mem_of_getElem? (i := 3) rfl))
theorem tb_66_6 : Cond.code yX12_laysChance cX12_laysChance 3 none ∈ bT := List.mem_append_left _ (in_r66 _ (List.mem_of_getElem? (i := 6) rfl))
theorem tb_66_4 : Cond.instanceMethod yX12_laysChance ∈ bT := List.mem_append_left _ (in_r66 _ (List.mem_of_getElem? (i := 4) rfl))
theorem tb_66_5 : Cond.selects RX12 yX12_laysChance yX12_laysChance ∈ bT := List.mem_append_left _ (in_r66 _ (List.mem_of_getElem? (i := 5) rfl))
theorem tb_66_15 : Cond.methodLink RX12 525 yX12_common ∈ bT := List.mem_append_left _ (in_r66 _ (List.mem_of_getElem? (i := 15) rfl))
theorem tb_66_17 : Cond.code yX12_common cX12_common 5 (some .int) ∈ bT := List.mem_append_left _ (in_r66 _ (List.mem_of_getElem? (i := 17) rfl))
theorem tb_66_16 : Cond.static yX12_common ∈ bT := List.mem_append_left _ (in_r66 _ (List.mem_of_getElem? (i := 16) rfl))
theorem tb_68_22 : Cond.methodLink RX12 528 yX12_cut ∈ bT := List.mem_append_left _ (in_r68 _ (List.mem_of_getElem? (i := 22) rfl))
theorem tb_69_1 : Cond.code yX12_cut cX12_cut 6 (some .long) ∈ bT := List.mem_append_left _ (in_r69 _ (List.mem_of_getElem? (i := 1) rfl))
theorem tb_68_23 : Cond.instanceMethod yX12_cut ∈ bT := List.mem_append_left _ (in_r68 _ (List.mem_of_getElem? (i := 23) rfl))
theorem tb_69_0 : Cond.selects RX12 yX12_cut yX12_cut ∈ bT := List.mem_append_left _ (in_r69 _ (List.mem_of_getElem? (i := 0) rfl))
theorem tb_71_11 : Cond.methodLink RX12 534 yX12_outs ∈ bT := List.mem_append_left _ (in_r71 _ (List.mem_of_getElem? (i := 11) rfl))
theorem tb_71_14 : Cond.code yX12_outs cX12_outs 3 (some .int) ∈ bT := List.mem_append_left _ (in_r71 _ (List.mem_of_getElem? (i := 14) rfl))
theorem tb_71_12 : Cond.instanceMethod yX12_outs ∈ bT := List.mem_append_left _ (in_r71 _ (List.mem_of_getElem? (i := 12) rfl))
theorem tb_71_13 : Cond.selects RX12 yX12_outs yX12_outs ∈ bT := List.mem_append_left _ (in_r71 _ (List.mem_of_getElem? (i := 13) rfl))
theorem tb_71_15 : Cond.methodLink RX12 537 yX12_weights ∈ bT := List.mem_append_left _ (in_r71 _ (List.mem_of_getElem? (i := 15) rfl))
theorem tb_71_18 : Cond.code yX12_weights cX12_weights 3 (some .int) ∈ bT := List.mem_append_left _ (in_r71 _ (List.mem_of_getElem? (i := 18) rfl))
theorem tb_71_16 : Cond.instanceMethod yX12_weights ∈ bT := List.mem_append_left _ (in_r71 _ (List.mem_of_getElem? (i := 16) rfl))
theorem tb_71_17 : Cond.selects RX12 yX12_weights yX12_weights ∈ bT := List.mem_append_left _ (in_r71 _ (List.mem_of_getElem? (i := 17) rfl))
abbrev MS : Type := (Nat → Int32) × (Nat → Nat → Int32) × (Nat → Int64)
def sI (g : MS) (k : Nat) (v : Int32) : MS := (upd g.1 k v, g.2)
def sA (g : MS) (a i : Nat) (v : Int32) : MS := (g.1, (fun b => if b = a then upd (g.2.1 a) i v else g.2.1 b), g.2.2)
def sL (g : MS) (i : Nat) (v : Int64) : MS := (g.1, g.2.1, vp_updL g.2.2 i v)
def mF (ad : Nat → Nat) (g : MS) : List Value := [.ref (ad 0), .ref (ad 1), .ref (ad 2), .ref (ad 3), .int (g.1 4), .ref (ad 5), .int (g.1 6), .int (g.1 7), .int (g.1 8), .int (g.1 9), .int (g.1 10), .int (g.1 11), .int (g.1 12), .int (g.1 13), .int (g.1 14), .int (g.1 15), .int (g.1 16), .int (g.1 17), .int (g.1 18), .ref (ad 19), .ref (ad 20), .ref (ad 21), .ref (ad 22), .ref (ad 23), .ref (ad 24), .int (g.1 25), .ref (ad 26), .ref (ad 27), .ref (ad 28), .ref (ad 29), .ref (ad 30), .ref (ad 31), .int (g.1 32), .int (g.1 33), .int (g.1 34), .int (g.1 35), .int (g.1 36), .int (g.1 37), .int (g.1 38), .ref (ad 39), .int (g.1 40), .int (g.1 41), .ref (ad 42), .ref (ad 43), .int (g.1 44), .ref (ad 45), .ref (ad 46), .ref (ad 47)]
def MW (cs : Nat → ClassId) (ad : Nat → Nat) (g : MS) : va_W := [(ad 48, .inr (11, mF ad g)), (ad 0, .inl (cs 0, 2850, .inl (g.2.1 0))), (ad 1, .inl (cs 0, 2850, .inl (g.2.1 1))), (ad 2, .inl (cs 0, 8550, .inl (g.2.1 2))), (ad 3, .inl (cs 1, 3, .inl (g.2.1 3))), (ad 5, .inl (cs 0, 900, .inl (g.2.1 5))), (ad 19, .inl (cs 0, 64, .inl (g.2.1 19))), (ad 20, .inl (cs 0, 4, .inl (g.2.1 20))), (ad 21, .inl (cs 0, 6, .inl (g.2.1 21))), (ad 22, .inl (cs 0, 6, .inl (g.2.1 22))), (ad 23, .inl (cs 0, 6, .inl (g.2.1 23))), (ad 24, .inl (cs 0, 13, .inl (g.2.1 24))), (ad 26, .inl (cs 0, 6, .inl (g.2.1 26))), (ad 27, .inl (cs 0, 6, .inl (g.2.1 27))), (ad 28, .inl (cs 0, 6, .inl (g.2.1 28))), (ad 29, .inl (cs 0, 6, .inl (g.2.1 29))), (ad 30, .inl (cs 0, 6, .inl (g.2.1 30))), (ad 31, .inl (cs 1, 46656, .inl (g.2.1 31))), (ad 39, .inl (cs 0, 46656, .inl (g.2.1 39))), (ad 42, .inl (cs 0, 30, .inl (g.2.1 42))), (ad 43, .inl (cs 0, 180, .inl (g.2.1 43))), (ad 45, .inl (cs 0, 4, .inl (g.2.1 45))), (ad 46, .inl (cs 0, 4, .inl (g.2.1 46))), (ad 47, .inl (cs 2, 120, .inr (.inl g.2.2)))]
section
variable {p : Program} {l : Launch} {e : Env} {R : Room} {s : State} {m : MethodId} {args : Array Value} {below : List Frame} {meth : Method} {c : Code} {H : Heap} {locs : List Loc} {cells slots : Nat} {Q : State → Prop}
variable {D : va_G} {cs : Nat → ClassId} {ad : Nat → Nat} {A : Nat → Prop} {cc : ByteArray} {nL : Nat} {rt : Option FieldType} {pc : Nat} {ls : Array Slot} {rest : List Value} {g : MS}
theorem bX12_in : ∀ w ∈ u_ws RX12 TX12 48, w ∈ bT := fun _ h => List.mem_append_right _ (List.mem_append_right _ h)
theorem m_recv (C : MCx p s m args meth c A RX12 cc nL rt D cs) (h : MH D (MW cs ad g) A s H locs) : ∃ cell : Cell, H[ad 48]? = some cell ∧ cell.vm.isStatics = false ∧ s.vm.findClass RX12 = some cell.cls := va_recv C.2.2.2.2.2.2.2.1 h.1 (ci := 11) (q0 := 0) rfl rfl
theorem m_get {idx : Nat} {v : Value} (k : Nat) (C : MCx p s m args meth c A RX12 cc nL rt D cs) (h : MH D (MW cs ad g) A s H locs) (hk : k < 48) (hlink : Cond.fieldLink RX12 idx RX12 (TX12 k).2.1 (TX12 k).2.2.1 ∈ bT) (hsame : (TX12 k).1 = RX12) (hv : (mF ad g)[k]? = some v) (hdg : decode cc pc = .ok (.getfield idx, 3)) (kk : W p l e R s m args below meth c H locs cells slots Q (F0 m (pc + 3) ls (v :: rest))) : W p l e R s m args below meth c H locs cells slots Q (F0 m pc ls (.ref (ad 48) :: rest)) := by
  obtain ⟨hx, hb, hml, hown, hts, hr, hlocks, hK, hA⟩ := C
  exact va_get (ci := 11) (C := RX12) (T := TX12) (N := 48) hx hb hts bX12_in hown hK h.1 0 rfl rfl k hk (hts _ hlink) (fun x hx => by rw [hsame] at hx; exact hx) hv hdg kk
theorem mg_0 (C : MCx p s m args meth c A RX12 cc nL rt D cs) (h : MH D (MW cs ad g) A s H locs) (hdg : decode cc pc = .ok (.getfield 9, 3)) (kk : W p l e R s m args below meth c H locs cells slots Q (F0 m (pc + 3) ls (.ref (ad 0) :: rest))) : W p l e R s m args below meth c H locs cells slots Q (F0 m pc ls (.ref (ad 48) :: rest)) := m_get 0 C h (by decide) tb_7_2 rfl rfl hdg kk
theorem mg_1 (C : MCx p s m args meth c A RX12 cc nL rt D cs) (h : MH D (MW cs ad g) A s H locs) (hdg : decode cc pc = .ok (.getfield 13, 3)) (kk : W p l e R s m args below meth c H locs cells slots Q (F0 m (pc + 3) ls (.ref (ad 1) :: rest))) : W p l e R s m args below meth c H locs cells slots Q (F0 m pc ls (.ref (ad 48) :: rest)) := m_get 1 C h (by decide) tb_7_3 rfl rfl hdg kk
theorem mg_2 (C : MCx p s m args meth c A RX12 cc nL rt D cs) (h : MH D (MW cs ad g) A s H locs) (hdg : decode cc pc = .ok (.getfield 16, 3)) (kk : W p l e R s m args below meth c H locs cells slots Q (F0 m (pc + 3) ls (.ref (ad 2) :: rest))) : W p l e R s m args below meth c H locs cells slots Q (F0 m pc ls (.ref (ad 48) :: rest)) := m_get 2 C h (by decide) tb_7_4 rfl rfl hdg kk
theorem mg_3 (C : MCx p s m args meth c A RX12 cc nL rt D cs) (h : MH D (MW cs ad g) A s H locs) (hdg : decode cc pc = .ok (.getfield 19, 3)) (kk : W p l e R s m args below meth c H locs cells slots Q (F0 m (pc + 3) ls (.ref (ad 3) :: rest))) : W p l e R s m args below meth c H locs cells slots Q (F0 m pc ls (.ref (ad 48) :: rest)) := m_get 3 C h (by decide) tb_7_6 rfl rfl hdg kk
theorem mg_4 (C : MCx p s m args meth c A RX12 cc nL rt D cs) (h : MH D (MW cs ad g) A s H locs) (hdg : decode cc pc = .ok (.getfield 86, 3)) (kk : W p l e R s m args below meth c H locs cells slots Q (F0 m (pc + 3) ls (.int (g.1 4) :: rest))) : W p l e R s m args below meth c H locs cells slots Q (F0 m pc ls (.ref (ad 48) :: rest)) := m_get 4 C h (by decide) tb_8_17 rfl rfl hdg kk
theorem mp_4 {v : Int32} (C : MCx p s m args meth c A RX12 cc nL rt D cs) (h : MH D (MW cs ad g) A s H locs) (hdg : decode cc pc = .ok (.putfield 86, 3)) (kk : ∀ (H1 : Heap) (locs1 : List Loc), MH D (MW cs ad (sI g 4 v)) A s H1 locs1 → W p l e R s m args below meth c H1 locs1 cells slots Q (F0 m (pc + 3) ls rest)) : W p l e R s m args below meth c H locs cells slots Q (F0 m pc ls (.int v :: .ref (ad 48) :: rest)) := by
  obtain ⟨hx, hb, hml, hown, hts, hr, hlocks, hK, hA⟩ := C
  obtain ⟨hP, hD, hS⟩ := h
  exact va_put (ci := 11) (C := RX12) (T := TX12) (N := 48) (v := .int v) (ty := .int) hx hb hts bX12_in tyX12 tyX12_ok nmX12 hown hK hP hD hS 0 rfl rfl 4 (by decide) (hts _ tb_8_17) (fun _ h9 => h9) rfl (by decide +kernel) rfl rfl (Nat.le_of_ble_eq_true rfl) hdg (fun H1 l1 hP hD hS => kk H1 l1 ⟨hP, hD, hS⟩)
theorem mg_5 (C : MCx p s m args meth c A RX12 cc nL rt D cs) (h : MH D (MW cs ad g) A s H locs) (hdg : decode cc pc = .ok (.getfield 23, 3)) (kk : W p l e R s m args below meth c H locs cells slots Q (F0 m (pc + 3) ls (.ref (ad 5) :: rest))) : W p l e R s m args below meth c H locs cells slots Q (F0 m pc ls (.ref (ad 48) :: rest)) := m_get 5 C h (by decide) tb_7_7 rfl rfl hdg kk
theorem mg_6 (C : MCx p s m args meth c A RX12 cc nL rt D cs) (h : MH D (MW cs ad g) A s H locs) (hdg : decode cc pc = .ok (.getfield 89, 3)) (kk : W p l e R s m args below meth c H locs cells slots Q (F0 m (pc + 3) ls (.int (g.1 6) :: rest))) : W p l e R s m args below meth c H locs cells slots Q (F0 m pc ls (.ref (ad 48) :: rest)) := m_get 6 C h (by decide) tb_8_18 rfl rfl hdg kk
theorem mp_6 {v : Int32} (C : MCx p s m args meth c A RX12 cc nL rt D cs) (h : MH D (MW cs ad g) A s H locs) (hdg : decode cc pc = .ok (.putfield 89, 3)) (kk : ∀ (H1 : Heap) (locs1 : List Loc), MH D (MW cs ad (sI g 6 v)) A s H1 locs1 → W p l e R s m args below meth c H1 locs1 cells slots Q (F0 m (pc + 3) ls rest)) : W p l e R s m args below meth c H locs cells slots Q (F0 m pc ls (.int v :: .ref (ad 48) :: rest)) := by
  obtain ⟨hx, hb, hml, hown, hts, hr, hlocks, hK, hA⟩ := C
  obtain ⟨hP, hD, hS⟩ := h
  exact va_put (ci := 11) (C := RX12) (T := TX12) (N := 48) (v := .int v) (ty := .int) hx hb hts bX12_in tyX12 tyX12_ok nmX12 hown hK hP hD hS 0 rfl rfl 6 (by decide) (hts _ tb_8_18) (fun _ h9 => h9) rfl (by decide +kernel) rfl rfl (Nat.le_of_ble_eq_true rfl) hdg (fun H1 l1 hP hD hS => kk H1 l1 ⟨hP, hD, hS⟩)
theorem mg_7 (C : MCx p s m args meth c A RX12 cc nL rt D cs) (h : MH D (MW cs ad g) A s H locs) (hdg : decode cc pc = .ok (.getfield 92, 3)) (kk : W p l e R s m args below meth c H locs cells slots Q (F0 m (pc + 3) ls (.int (g.1 7) :: rest))) : W p l e R s m args below meth c H locs cells slots Q (F0 m pc ls (.ref (ad 48) :: rest)) := m_get 7 C h (by decide) tb_20_1 rfl rfl hdg kk
theorem mp_7 {v : Int32} (C : MCx p s m args meth c A RX12 cc nL rt D cs) (h : MH D (MW cs ad g) A s H locs) (hdg : decode cc pc = .ok (.putfield 92, 3)) (kk : ∀ (H1 : Heap) (locs1 : List Loc), MH D (MW cs ad (sI g 7 v)) A s H1 locs1 → W p l e R s m args below meth c H1 locs1 cells slots Q (F0 m (pc + 3) ls rest)) : W p l e R s m args below meth c H locs cells slots Q (F0 m pc ls (.int v :: .ref (ad 48) :: rest)) := by
  obtain ⟨hx, hb, hml, hown, hts, hr, hlocks, hK, hA⟩ := C
  obtain ⟨hP, hD, hS⟩ := h
  exact va_put (ci := 11) (C := RX12) (T := TX12) (N := 48) (v := .int v) (ty := .int) hx hb hts bX12_in tyX12 tyX12_ok nmX12 hown hK hP hD hS 0 rfl rfl 7 (by decide) (hts _ tb_20_1) (fun _ h9 => h9) rfl (by decide +kernel) rfl rfl (Nat.le_of_ble_eq_true rfl) hdg (fun H1 l1 hP hD hS => kk H1 l1 ⟨hP, hD, hS⟩)
theorem mg_8 (C : MCx p s m args meth c A RX12 cc nL rt D cs) (h : MH D (MW cs ad g) A s H locs) (hdg : decode cc pc = .ok (.getfield 95, 3)) (kk : W p l e R s m args below meth c H locs cells slots Q (F0 m (pc + 3) ls (.int (g.1 8) :: rest))) : W p l e R s m args below meth c H locs cells slots Q (F0 m pc ls (.ref (ad 48) :: rest)) := m_get 8 C h (by decide) tb_20_2 rfl rfl hdg kk
theorem mp_8 {v : Int32} (C : MCx p s m args meth c A RX12 cc nL rt D cs) (h : MH D (MW cs ad g) A s H locs) (hdg : decode cc pc = .ok (.putfield 95, 3)) (kk : ∀ (H1 : Heap) (locs1 : List Loc), MH D (MW cs ad (sI g 8 v)) A s H1 locs1 → W p l e R s m args below meth c H1 locs1 cells slots Q (F0 m (pc + 3) ls rest)) : W p l e R s m args below meth c H locs cells slots Q (F0 m pc ls (.int v :: .ref (ad 48) :: rest)) := by
  obtain ⟨hx, hb, hml, hown, hts, hr, hlocks, hK, hA⟩ := C
  obtain ⟨hP, hD, hS⟩ := h
  exact va_put (ci := 11) (C := RX12) (T := TX12) (N := 48) (v := .int v) (ty := .int) hx hb hts bX12_in tyX12 tyX12_ok nmX12 hown hK hP hD hS 0 rfl rfl 8 (by decide) (hts _ tb_20_2) (fun _ h9 => h9) rfl (by decide +kernel) rfl rfl (Nat.le_of_ble_eq_true rfl) hdg (fun H1 l1 hP hD hS => kk H1 l1 ⟨hP, hD, hS⟩)
theorem mg_9 (C : MCx p s m args meth c A RX12 cc nL rt D cs) (h : MH D (MW cs ad g) A s H locs) (hdg : decode cc pc = .ok (.getfield 98, 3)) (kk : W p l e R s m args below meth c H locs cells slots Q (F0 m (pc + 3) ls (.int (g.1 9) :: rest))) : W p l e R s m args below meth c H locs cells slots Q (F0 m pc ls (.ref (ad 48) :: rest)) := m_get 9 C h (by decide) tb_20_19 rfl rfl hdg kk
theorem mp_9 {v : Int32} (C : MCx p s m args meth c A RX12 cc nL rt D cs) (h : MH D (MW cs ad g) A s H locs) (hdg : decode cc pc = .ok (.putfield 98, 3)) (kk : ∀ (H1 : Heap) (locs1 : List Loc), MH D (MW cs ad (sI g 9 v)) A s H1 locs1 → W p l e R s m args below meth c H1 locs1 cells slots Q (F0 m (pc + 3) ls rest)) : W p l e R s m args below meth c H locs cells slots Q (F0 m pc ls (.int v :: .ref (ad 48) :: rest)) := by
  obtain ⟨hx, hb, hml, hown, hts, hr, hlocks, hK, hA⟩ := C
  obtain ⟨hP, hD, hS⟩ := h
  exact va_put (ci := 11) (C := RX12) (T := TX12) (N := 48) (v := .int v) (ty := .int) hx hb hts bX12_in tyX12 tyX12_ok nmX12 hown hK hP hD hS 0 rfl rfl 9 (by decide) (hts _ tb_20_19) (fun _ h9 => h9) rfl (by decide +kernel) rfl rfl (Nat.le_of_ble_eq_true rfl) hdg (fun H1 l1 hP hD hS => kk H1 l1 ⟨hP, hD, hS⟩)
theorem mg_10 (C : MCx p s m args meth c A RX12 cc nL rt D cs) (h : MH D (MW cs ad g) A s H locs) (hdg : decode cc pc = .ok (.getfield 101, 3)) (kk : W p l e R s m args below meth c H locs cells slots Q (F0 m (pc + 3) ls (.int (g.1 10) :: rest))) : W p l e R s m args below meth c H locs cells slots Q (F0 m pc ls (.ref (ad 48) :: rest)) := m_get 10 C h (by decide) tb_20_5 rfl rfl hdg kk
theorem mp_10 {v : Int32} (C : MCx p s m args meth c A RX12 cc nL rt D cs) (h : MH D (MW cs ad g) A s H locs) (hdg : decode cc pc = .ok (.putfield 101, 3)) (kk : ∀ (H1 : Heap) (locs1 : List Loc), MH D (MW cs ad (sI g 10 v)) A s H1 locs1 → W p l e R s m args below meth c H1 locs1 cells slots Q (F0 m (pc + 3) ls rest)) : W p l e R s m args below meth c H locs cells slots Q (F0 m pc ls (.int v :: .ref (ad 48) :: rest)) := by
  obtain ⟨hx, hb, hml, hown, hts, hr, hlocks, hK, hA⟩ := C
  obtain ⟨hP, hD, hS⟩ := h
  exact va_put (ci := 11) (C := RX12) (T := TX12) (N := 48) (v := .int v) (ty := .int) hx hb hts bX12_in tyX12 tyX12_ok nmX12 hown hK hP hD hS 0 rfl rfl 10 (by decide) (hts _ tb_20_5) (fun _ h9 => h9) rfl (by decide +kernel) rfl rfl (Nat.le_of_ble_eq_true rfl) hdg (fun H1 l1 hP hD hS => kk H1 l1 ⟨hP, hD, hS⟩)
theorem mg_11 (C : MCx p s m args meth c A RX12 cc nL rt D cs) (h : MH D (MW cs ad g) A s H locs) (hdg : decode cc pc = .ok (.getfield 115, 3)) (kk : W p l e R s m args below meth c H locs cells slots Q (F0 m (pc + 3) ls (.int (g.1 11) :: rest))) : W p l e R s m args below meth c H locs cells slots Q (F0 m pc ls (.ref (ad 48) :: rest)) := m_get 11 C h (by decide) tb_20_20 rfl rfl hdg kk
theorem mp_11 {v : Int32} (C : MCx p s m args meth c A RX12 cc nL rt D cs) (h : MH D (MW cs ad g) A s H locs) (hdg : decode cc pc = .ok (.putfield 115, 3)) (kk : ∀ (H1 : Heap) (locs1 : List Loc), MH D (MW cs ad (sI g 11 v)) A s H1 locs1 → W p l e R s m args below meth c H1 locs1 cells slots Q (F0 m (pc + 3) ls rest)) : W p l e R s m args below meth c H locs cells slots Q (F0 m pc ls (.int v :: .ref (ad 48) :: rest)) := by
  obtain ⟨hx, hb, hml, hown, hts, hr, hlocks, hK, hA⟩ := C
  obtain ⟨hP, hD, hS⟩ := h
  exact va_put (ci := 11) (C := RX12) (T := TX12) (N := 48) (v := .int v) (ty := .int) hx hb hts bX12_in tyX12 tyX12_ok nmX12 hown hK hP hD hS 0 rfl rfl 11 (by decide) (hts _ tb_20_20) (fun _ h9 => h9) rfl (by decide +kernel) rfl rfl (Nat.le_of_ble_eq_true rfl) hdg (fun H1 l1 hP hD hS => kk H1 l1 ⟨hP, hD, hS⟩)
theorem mg_12 (C : MCx p s m args meth c A RX12 cc nL rt D cs) (h : MH D (MW cs ad g) A s H locs) (hdg : decode cc pc = .ok (.getfield 121, 3)) (kk : W p l e R s m args below meth c H locs cells slots Q (F0 m (pc + 3) ls (.int (g.1 12) :: rest))) : W p l e R s m args below meth c H locs cells slots Q (F0 m pc ls (.ref (ad 48) :: rest)) := m_get 12 C h (by decide) tb_20_3 rfl rfl hdg kk
theorem mp_12 {v : Int32} (C : MCx p s m args meth c A RX12 cc nL rt D cs) (h : MH D (MW cs ad g) A s H locs) (hdg : decode cc pc = .ok (.putfield 121, 3)) (kk : ∀ (H1 : Heap) (locs1 : List Loc), MH D (MW cs ad (sI g 12 v)) A s H1 locs1 → W p l e R s m args below meth c H1 locs1 cells slots Q (F0 m (pc + 3) ls rest)) : W p l e R s m args below meth c H locs cells slots Q (F0 m pc ls (.int v :: .ref (ad 48) :: rest)) := by
  obtain ⟨hx, hb, hml, hown, hts, hr, hlocks, hK, hA⟩ := C
  obtain ⟨hP, hD, hS⟩ := h
  exact va_put (ci := 11) (C := RX12) (T := TX12) (N := 48) (v := .int v) (ty := .int) hx hb hts bX12_in tyX12 tyX12_ok nmX12 hown hK hP hD hS 0 rfl rfl 12 (by decide) (hts _ tb_20_3) (fun _ h9 => h9) rfl (by decide +kernel) rfl rfl (Nat.le_of_ble_eq_true rfl) hdg (fun H1 l1 hP hD hS => kk H1 l1 ⟨hP, hD, hS⟩)
theorem mg_13 (C : MCx p s m args meth c A RX12 cc nL rt D cs) (h : MH D (MW cs ad g) A s H locs) (hdg : decode cc pc = .ok (.getfield 124, 3)) (kk : W p l e R s m args below meth c H locs cells slots Q (F0 m (pc + 3) ls (.int (g.1 13) :: rest))) : W p l e R s m args below meth c H locs cells slots Q (F0 m pc ls (.ref (ad 48) :: rest)) := m_get 13 C h (by decide) tb_20_7 rfl rfl hdg kk
theorem mp_13 {v : Int32} (C : MCx p s m args meth c A RX12 cc nL rt D cs) (h : MH D (MW cs ad g) A s H locs) (hdg : decode cc pc = .ok (.putfield 124, 3)) (kk : ∀ (H1 : Heap) (locs1 : List Loc), MH D (MW cs ad (sI g 13 v)) A s H1 locs1 → W p l e R s m args below meth c H1 locs1 cells slots Q (F0 m (pc + 3) ls rest)) : W p l e R s m args below meth c H locs cells slots Q (F0 m pc ls (.int v :: .ref (ad 48) :: rest)) := by
  obtain ⟨hx, hb, hml, hown, hts, hr, hlocks, hK, hA⟩ := C
  obtain ⟨hP, hD, hS⟩ := h
  exact va_put (ci := 11) (C := RX12) (T := TX12) (N := 48) (v := .int v) (ty := .int) hx hb hts bX12_in tyX12 tyX12_ok nmX12 hown hK hP hD hS 0 rfl rfl 13 (by decide) (hts _ tb_20_7) (fun _ h9 => h9) rfl (by decide +kernel) rfl rfl (Nat.le_of_ble_eq_true rfl) hdg (fun H1 l1 hP hD hS => kk H1 l1 ⟨hP, hD, hS⟩)
theorem mg_14 (C : MCx p s m args meth c A RX12 cc nL rt D cs) (h : MH D (MW cs ad g) A s H locs) (hdg : decode cc pc = .ok (.getfield 251, 3)) (kk : W p l e R s m args below meth c H locs cells slots Q (F0 m (pc + 3) ls (.int (g.1 14) :: rest))) : W p l e R s m args below meth c H locs cells slots Q (F0 m pc ls (.ref (ad 48) :: rest)) := m_get 14 C h (by decide) tb_20_6 rfl rfl hdg kk
theorem mp_14 {v : Int32} (C : MCx p s m args meth c A RX12 cc nL rt D cs) (h : MH D (MW cs ad g) A s H locs) (hdg : decode cc pc = .ok (.putfield 251, 3)) (kk : ∀ (H1 : Heap) (locs1 : List Loc), MH D (MW cs ad (sI g 14 v)) A s H1 locs1 → W p l e R s m args below meth c H1 locs1 cells slots Q (F0 m (pc + 3) ls rest)) : W p l e R s m args below meth c H locs cells slots Q (F0 m pc ls (.int v :: .ref (ad 48) :: rest)) := by
  obtain ⟨hx, hb, hml, hown, hts, hr, hlocks, hK, hA⟩ := C
  obtain ⟨hP, hD, hS⟩ := h
  exact va_put (ci := 11) (C := RX12) (T := TX12) (N := 48) (v := .int v) (ty := .int) hx hb hts bX12_in tyX12 tyX12_ok nmX12 hown hK hP hD hS 0 rfl rfl 14 (by decide) (hts _ tb_20_6) (fun _ h9 => h9) rfl (by decide +kernel) rfl rfl (Nat.le_of_ble_eq_true rfl) hdg (fun H1 l1 hP hD hS => kk H1 l1 ⟨hP, hD, hS⟩)
theorem mg_15 (C : MCx p s m args meth c A RX12 cc nL rt D cs) (h : MH D (MW cs ad g) A s H locs) (hdg : decode cc pc = .ok (.getfield 26, 3)) (kk : W p l e R s m args below meth c H locs cells slots Q (F0 m (pc + 3) ls (.int (g.1 15) :: rest))) : W p l e R s m args below meth c H locs cells slots Q (F0 m pc ls (.ref (ad 48) :: rest)) := m_get 15 C h (by decide) tb_7_8 rfl rfl hdg kk
theorem mp_15 {v : Int32} (C : MCx p s m args meth c A RX12 cc nL rt D cs) (h : MH D (MW cs ad g) A s H locs) (hdg : decode cc pc = .ok (.putfield 26, 3)) (kk : ∀ (H1 : Heap) (locs1 : List Loc), MH D (MW cs ad (sI g 15 v)) A s H1 locs1 → W p l e R s m args below meth c H1 locs1 cells slots Q (F0 m (pc + 3) ls rest)) : W p l e R s m args below meth c H locs cells slots Q (F0 m pc ls (.int v :: .ref (ad 48) :: rest)) := by
  obtain ⟨hx, hb, hml, hown, hts, hr, hlocks, hK, hA⟩ := C
  obtain ⟨hP, hD, hS⟩ := h
  exact va_put (ci := 11) (C := RX12) (T := TX12) (N := 48) (v := .int v) (ty := .int) hx hb hts bX12_in tyX12 tyX12_ok nmX12 hown hK hP hD hS 0 rfl rfl 15 (by decide) (hts _ tb_7_8) (fun _ h9 => h9) rfl (by decide +kernel) rfl rfl (Nat.le_of_ble_eq_true rfl) hdg (fun H1 l1 hP hD hS => kk H1 l1 ⟨hP, hD, hS⟩)
theorem mg_16 (C : MCx p s m args meth c A RX12 cc nL rt D cs) (h : MH D (MW cs ad g) A s H locs) (hdg : decode cc pc = .ok (.getfield 163, 3)) (kk : W p l e R s m args below meth c H locs cells slots Q (F0 m (pc + 3) ls (.int (g.1 16) :: rest))) : W p l e R s m args below meth c H locs cells slots Q (F0 m pc ls (.ref (ad 48) :: rest)) := m_get 16 C h (by decide) tb_20_4 rfl rfl hdg kk
theorem mp_16 {v : Int32} (C : MCx p s m args meth c A RX12 cc nL rt D cs) (h : MH D (MW cs ad g) A s H locs) (hdg : decode cc pc = .ok (.putfield 163, 3)) (kk : ∀ (H1 : Heap) (locs1 : List Loc), MH D (MW cs ad (sI g 16 v)) A s H1 locs1 → W p l e R s m args below meth c H1 locs1 cells slots Q (F0 m (pc + 3) ls rest)) : W p l e R s m args below meth c H locs cells slots Q (F0 m pc ls (.int v :: .ref (ad 48) :: rest)) := by
  obtain ⟨hx, hb, hml, hown, hts, hr, hlocks, hK, hA⟩ := C
  obtain ⟨hP, hD, hS⟩ := h
  exact va_put (ci := 11) (C := RX12) (T := TX12) (N := 48) (v := .int v) (ty := .int) hx hb hts bX12_in tyX12 tyX12_ok nmX12 hown hK hP hD hS 0 rfl rfl 16 (by decide) (hts _ tb_20_4) (fun _ h9 => h9) rfl (by decide +kernel) rfl rfl (Nat.le_of_ble_eq_true rfl) hdg (fun H1 l1 hP hD hS => kk H1 l1 ⟨hP, hD, hS⟩)
theorem mg_17 (C : MCx p s m args meth c A RX12 cc nL rt D cs) (h : MH D (MW cs ad g) A s H locs) (hdg : decode cc pc = .ok (.getfield 157, 3)) (kk : W p l e R s m args below meth c H locs cells slots Q (F0 m (pc + 3) ls (.int (g.1 17) :: rest))) : W p l e R s m args below meth c H locs cells slots Q (F0 m pc ls (.ref (ad 48) :: rest)) := m_get 17 C h (by decide) tb_23_4 rfl rfl hdg kk
theorem mp_17 {v : Int32} (C : MCx p s m args meth c A RX12 cc nL rt D cs) (h : MH D (MW cs ad g) A s H locs) (hdg : decode cc pc = .ok (.putfield 157, 3)) (kk : ∀ (H1 : Heap) (locs1 : List Loc), MH D (MW cs ad (sI g 17 v)) A s H1 locs1 → W p l e R s m args below meth c H1 locs1 cells slots Q (F0 m (pc + 3) ls rest)) : W p l e R s m args below meth c H locs cells slots Q (F0 m pc ls (.int v :: .ref (ad 48) :: rest)) := by
  obtain ⟨hx, hb, hml, hown, hts, hr, hlocks, hK, hA⟩ := C
  obtain ⟨hP, hD, hS⟩ := h
  exact va_put (ci := 11) (C := RX12) (T := TX12) (N := 48) (v := .int v) (ty := .int) hx hb hts bX12_in tyX12 tyX12_ok nmX12 hown hK hP hD hS 0 rfl rfl 17 (by decide) (hts _ tb_23_4) (fun _ h9 => h9) rfl (by decide +kernel) rfl rfl (Nat.le_of_ble_eq_true rfl) hdg (fun H1 l1 hP hD hS => kk H1 l1 ⟨hP, hD, hS⟩)
theorem mg_18 (C : MCx p s m args meth c A RX12 cc nL rt D cs) (h : MH D (MW cs ad g) A s H locs) (hdg : decode cc pc = .ok (.getfield 154, 3)) (kk : W p l e R s m args below meth c H locs cells slots Q (F0 m (pc + 3) ls (.int (g.1 18) :: rest))) : W p l e R s m args below meth c H locs cells slots Q (F0 m pc ls (.ref (ad 48) :: rest)) := m_get 18 C h (by decide) tb_23_5 rfl rfl hdg kk
theorem mp_18 {v : Int32} (C : MCx p s m args meth c A RX12 cc nL rt D cs) (h : MH D (MW cs ad g) A s H locs) (hdg : decode cc pc = .ok (.putfield 154, 3)) (kk : ∀ (H1 : Heap) (locs1 : List Loc), MH D (MW cs ad (sI g 18 v)) A s H1 locs1 → W p l e R s m args below meth c H1 locs1 cells slots Q (F0 m (pc + 3) ls rest)) : W p l e R s m args below meth c H locs cells slots Q (F0 m pc ls (.int v :: .ref (ad 48) :: rest)) := by
  obtain ⟨hx, hb, hml, hown, hts, hr, hlocks, hK, hA⟩ := C
  obtain ⟨hP, hD, hS⟩ := h
  exact va_put (ci := 11) (C := RX12) (T := TX12) (N := 48) (v := .int v) (ty := .int) hx hb hts bX12_in tyX12 tyX12_ok nmX12 hown hK hP hD hS 0 rfl rfl 18 (by decide) (hts _ tb_23_5) (fun _ h9 => h9) rfl (by decide +kernel) rfl rfl (Nat.le_of_ble_eq_true rfl) hdg (fun H1 l1 hP hD hS => kk H1 l1 ⟨hP, hD, hS⟩)
theorem mg_19 (C : MCx p s m args meth c A RX12 cc nL rt D cs) (h : MH D (MW cs ad g) A s H locs) (hdg : decode cc pc = .ok (.getfield 30, 3)) (kk : W p l e R s m args below meth c H locs cells slots Q (F0 m (pc + 3) ls (.ref (ad 19) :: rest))) : W p l e R s m args below meth c H locs cells slots Q (F0 m pc ls (.ref (ad 48) :: rest)) := m_get 19 C h (by decide) tb_7_9 rfl rfl hdg kk
theorem mg_20 (C : MCx p s m args meth c A RX12 cc nL rt D cs) (h : MH D (MW cs ad g) A s H locs) (hdg : decode cc pc = .ok (.getfield 33, 3)) (kk : W p l e R s m args below meth c H locs cells slots Q (F0 m (pc + 3) ls (.ref (ad 20) :: rest))) : W p l e R s m args below meth c H locs cells slots Q (F0 m pc ls (.ref (ad 48) :: rest)) := m_get 20 C h (by decide) tb_7_10 rfl rfl hdg kk
theorem mg_21 (C : MCx p s m args meth c A RX12 cc nL rt D cs) (h : MH D (MW cs ad g) A s H locs) (hdg : decode cc pc = .ok (.getfield 36, 3)) (kk : W p l e R s m args below meth c H locs cells slots Q (F0 m (pc + 3) ls (.ref (ad 21) :: rest))) : W p l e R s m args below meth c H locs cells slots Q (F0 m pc ls (.ref (ad 48) :: rest)) := m_get 21 C h (by decide) tb_7_11 rfl rfl hdg kk
theorem mg_22 (C : MCx p s m args meth c A RX12 cc nL rt D cs) (h : MH D (MW cs ad g) A s H locs) (hdg : decode cc pc = .ok (.getfield 39, 3)) (kk : W p l e R s m args below meth c H locs cells slots Q (F0 m (pc + 3) ls (.ref (ad 22) :: rest))) : W p l e R s m args below meth c H locs cells slots Q (F0 m pc ls (.ref (ad 48) :: rest)) := m_get 22 C h (by decide) tb_7_12 rfl rfl hdg kk
theorem mg_23 (C : MCx p s m args meth c A RX12 cc nL rt D cs) (h : MH D (MW cs ad g) A s H locs) (hdg : decode cc pc = .ok (.getfield 42, 3)) (kk : W p l e R s m args below meth c H locs cells slots Q (F0 m (pc + 3) ls (.ref (ad 23) :: rest))) : W p l e R s m args below meth c H locs cells slots Q (F0 m pc ls (.ref (ad 48) :: rest)) := m_get 23 C h (by decide) tb_7_13 rfl rfl hdg kk
theorem mg_24 (C : MCx p s m args meth c A RX12 cc nL rt D cs) (h : MH D (MW cs ad g) A s H locs) (hdg : decode cc pc = .ok (.getfield 45, 3)) (kk : W p l e R s m args below meth c H locs cells slots Q (F0 m (pc + 3) ls (.ref (ad 24) :: rest))) : W p l e R s m args below meth c H locs cells slots Q (F0 m pc ls (.ref (ad 48) :: rest)) := m_get 24 C h (by decide) tb_7_14 rfl rfl hdg kk
theorem mg_25 (C : MCx p s m args meth c A RX12 cc nL rt D cs) (h : MH D (MW cs ad g) A s H locs) (hdg : decode cc pc = .ok (.getfield 387, 3)) (kk : W p l e R s m args below meth c H locs cells slots Q (F0 m (pc + 3) ls (.int (g.1 25) :: rest))) : W p l e R s m args below meth c H locs cells slots Q (F0 m pc ls (.ref (ad 48) :: rest)) := m_get 25 C h (by decide) tb_42_18 rfl rfl hdg kk
theorem mp_25 {v : Int32} (C : MCx p s m args meth c A RX12 cc nL rt D cs) (h : MH D (MW cs ad g) A s H locs) (hdg : decode cc pc = .ok (.putfield 387, 3)) (kk : ∀ (H1 : Heap) (locs1 : List Loc), MH D (MW cs ad (sI g 25 v)) A s H1 locs1 → W p l e R s m args below meth c H1 locs1 cells slots Q (F0 m (pc + 3) ls rest)) : W p l e R s m args below meth c H locs cells slots Q (F0 m pc ls (.int v :: .ref (ad 48) :: rest)) := by
  obtain ⟨hx, hb, hml, hown, hts, hr, hlocks, hK, hA⟩ := C
  obtain ⟨hP, hD, hS⟩ := h
  exact va_put (ci := 11) (C := RX12) (T := TX12) (N := 48) (v := .int v) (ty := .int) hx hb hts bX12_in tyX12 tyX12_ok nmX12 hown hK hP hD hS 0 rfl rfl 25 (by decide) (hts _ tb_42_18) (fun _ h9 => h9) rfl (by decide +kernel) rfl rfl (Nat.le_of_ble_eq_true rfl) hdg (fun H1 l1 hP hD hS => kk H1 l1 ⟨hP, hD, hS⟩)
theorem mg_26 (C : MCx p s m args meth c A RX12 cc nL rt D cs) (h : MH D (MW cs ad g) A s H locs) (hdg : decode cc pc = .ok (.getfield 48, 3)) (kk : W p l e R s m args below meth c H locs cells slots Q (F0 m (pc + 3) ls (.ref (ad 26) :: rest))) : W p l e R s m args below meth c H locs cells slots Q (F0 m pc ls (.ref (ad 48) :: rest)) := m_get 26 C h (by decide) tb_7_15 rfl rfl hdg kk
theorem mg_27 (C : MCx p s m args meth c A RX12 cc nL rt D cs) (h : MH D (MW cs ad g) A s H locs) (hdg : decode cc pc = .ok (.getfield 51, 3)) (kk : W p l e R s m args below meth c H locs cells slots Q (F0 m (pc + 3) ls (.ref (ad 27) :: rest))) : W p l e R s m args below meth c H locs cells slots Q (F0 m pc ls (.ref (ad 48) :: rest)) := m_get 27 C h (by decide) tb_7_16 rfl rfl hdg kk
theorem mg_28 (C : MCx p s m args meth c A RX12 cc nL rt D cs) (h : MH D (MW cs ad g) A s H locs) (hdg : decode cc pc = .ok (.getfield 54, 3)) (kk : W p l e R s m args below meth c H locs cells slots Q (F0 m (pc + 3) ls (.ref (ad 28) :: rest))) : W p l e R s m args below meth c H locs cells slots Q (F0 m pc ls (.ref (ad 48) :: rest)) := m_get 28 C h (by decide) tb_7_17 rfl rfl hdg kk
theorem mg_29 (C : MCx p s m args meth c A RX12 cc nL rt D cs) (h : MH D (MW cs ad g) A s H locs) (hdg : decode cc pc = .ok (.getfield 57, 3)) (kk : W p l e R s m args below meth c H locs cells slots Q (F0 m (pc + 3) ls (.ref (ad 29) :: rest))) : W p l e R s m args below meth c H locs cells slots Q (F0 m pc ls (.ref (ad 48) :: rest)) := m_get 29 C h (by decide) tb_7_18 rfl rfl hdg kk
theorem mg_30 (C : MCx p s m args meth c A RX12 cc nL rt D cs) (h : MH D (MW cs ad g) A s H locs) (hdg : decode cc pc = .ok (.getfield 60, 3)) (kk : W p l e R s m args below meth c H locs cells slots Q (F0 m (pc + 3) ls (.ref (ad 30) :: rest))) : W p l e R s m args below meth c H locs cells slots Q (F0 m pc ls (.ref (ad 48) :: rest)) := m_get 30 C h (by decide) tb_7_19 rfl rfl hdg kk
theorem mg_31 (C : MCx p s m args meth c A RX12 cc nL rt D cs) (h : MH D (MW cs ad g) A s H locs) (hdg : decode cc pc = .ok (.getfield 64, 3)) (kk : W p l e R s m args below meth c H locs cells slots Q (F0 m (pc + 3) ls (.ref (ad 31) :: rest))) : W p l e R s m args below meth c H locs cells slots Q (F0 m pc ls (.ref (ad 48) :: rest)) := m_get 31 C h (by decide) tb_7_21 rfl rfl hdg kk
theorem mg_32 (C : MCx p s m args meth c A RX12 cc nL rt D cs) (h : MH D (MW cs ad g) A s H locs) (hdg : decode cc pc = .ok (.getfield 410, 3)) (kk : W p l e R s m args below meth c H locs cells slots Q (F0 m (pc + 3) ls (.int (g.1 32) :: rest))) : W p l e R s m args below meth c H locs cells slots Q (F0 m pc ls (.ref (ad 48) :: rest)) := m_get 32 C h (by decide) tb_47_3 rfl rfl hdg kk
theorem mp_32 {v : Int32} (C : MCx p s m args meth c A RX12 cc nL rt D cs) (h : MH D (MW cs ad g) A s H locs) (hdg : decode cc pc = .ok (.putfield 410, 3)) (kk : ∀ (H1 : Heap) (locs1 : List Loc), MH D (MW cs ad (sI g 32 v)) A s H1 locs1 → W p l e R s m args below meth c H1 locs1 cells slots Q (F0 m (pc + 3) ls rest)) : W p l e R s m args below meth c H locs cells slots Q (F0 m pc ls (.int v :: .ref (ad 48) :: rest)) := by
  obtain ⟨hx, hb, hml, hown, hts, hr, hlocks, hK, hA⟩ := C
  obtain ⟨hP, hD, hS⟩ := h
  exact va_put (ci := 11) (C := RX12) (T := TX12) (N := 48) (v := .int v) (ty := .int) hx hb hts bX12_in tyX12 tyX12_ok nmX12 hown hK hP hD hS 0 rfl rfl 32 (by decide) (hts _ tb_47_3) (fun _ h9 => h9) rfl (by decide +kernel) rfl rfl (Nat.le_of_ble_eq_true rfl) hdg (fun H1 l1 hP hD hS => kk H1 l1 ⟨hP, hD, hS⟩)
theorem mg_33 (C : MCx p s m args meth c A RX12 cc nL rt D cs) (h : MH D (MW cs ad g) A s H locs) (hdg : decode cc pc = .ok (.getfield 429, 3)) (kk : W p l e R s m args below meth c H locs cells slots Q (F0 m (pc + 3) ls (.int (g.1 33) :: rest))) : W p l e R s m args below meth c H locs cells slots Q (F0 m pc ls (.ref (ad 48) :: rest)) := m_get 33 C h (by decide) tb_46_14 rfl rfl hdg kk
theorem mp_33 {v : Int32} (C : MCx p s m args meth c A RX12 cc nL rt D cs) (h : MH D (MW cs ad g) A s H locs) (hdg : decode cc pc = .ok (.putfield 429, 3)) (kk : ∀ (H1 : Heap) (locs1 : List Loc), MH D (MW cs ad (sI g 33 v)) A s H1 locs1 → W p l e R s m args below meth c H1 locs1 cells slots Q (F0 m (pc + 3) ls rest)) : W p l e R s m args below meth c H locs cells slots Q (F0 m pc ls (.int v :: .ref (ad 48) :: rest)) := by
  obtain ⟨hx, hb, hml, hown, hts, hr, hlocks, hK, hA⟩ := C
  obtain ⟨hP, hD, hS⟩ := h
  exact va_put (ci := 11) (C := RX12) (T := TX12) (N := 48) (v := .int v) (ty := .int) hx hb hts bX12_in tyX12 tyX12_ok nmX12 hown hK hP hD hS 0 rfl rfl 33 (by decide) (hts _ tb_46_14) (fun _ h9 => h9) rfl (by decide +kernel) rfl rfl (Nat.le_of_ble_eq_true rfl) hdg (fun H1 l1 hP hD hS => kk H1 l1 ⟨hP, hD, hS⟩)
theorem mg_34 (C : MCx p s m args meth c A RX12 cc nL rt D cs) (h : MH D (MW cs ad g) A s H locs) (hdg : decode cc pc = .ok (.getfield 438, 3)) (kk : W p l e R s m args below meth c H locs cells slots Q (F0 m (pc + 3) ls (.int (g.1 34) :: rest))) : W p l e R s m args below meth c H locs cells slots Q (F0 m pc ls (.ref (ad 48) :: rest)) := m_get 34 C h (by decide) tb_47_21 rfl rfl hdg kk
theorem mp_34 {v : Int32} (C : MCx p s m args meth c A RX12 cc nL rt D cs) (h : MH D (MW cs ad g) A s H locs) (hdg : decode cc pc = .ok (.putfield 438, 3)) (kk : ∀ (H1 : Heap) (locs1 : List Loc), MH D (MW cs ad (sI g 34 v)) A s H1 locs1 → W p l e R s m args below meth c H1 locs1 cells slots Q (F0 m (pc + 3) ls rest)) : W p l e R s m args below meth c H locs cells slots Q (F0 m pc ls (.int v :: .ref (ad 48) :: rest)) := by
  obtain ⟨hx, hb, hml, hown, hts, hr, hlocks, hK, hA⟩ := C
  obtain ⟨hP, hD, hS⟩ := h
  exact va_put (ci := 11) (C := RX12) (T := TX12) (N := 48) (v := .int v) (ty := .int) hx hb hts bX12_in tyX12 tyX12_ok nmX12 hown hK hP hD hS 0 rfl rfl 34 (by decide) (hts _ tb_47_21) (fun _ h9 => h9) rfl (by decide +kernel) rfl rfl (Nat.le_of_ble_eq_true rfl) hdg (fun H1 l1 hP hD hS => kk H1 l1 ⟨hP, hD, hS⟩)
theorem mg_35 (C : MCx p s m args meth c A RX12 cc nL rt D cs) (h : MH D (MW cs ad g) A s H locs) (hdg : decode cc pc = .ok (.getfield 413, 3)) (kk : W p l e R s m args below meth c H locs cells slots Q (F0 m (pc + 3) ls (.int (g.1 35) :: rest))) : W p l e R s m args below meth c H locs cells slots Q (F0 m pc ls (.ref (ad 48) :: rest)) := m_get 35 C h (by decide) tb_47_4 rfl rfl hdg kk
theorem mp_35 {v : Int32} (C : MCx p s m args meth c A RX12 cc nL rt D cs) (h : MH D (MW cs ad g) A s H locs) (hdg : decode cc pc = .ok (.putfield 413, 3)) (kk : ∀ (H1 : Heap) (locs1 : List Loc), MH D (MW cs ad (sI g 35 v)) A s H1 locs1 → W p l e R s m args below meth c H1 locs1 cells slots Q (F0 m (pc + 3) ls rest)) : W p l e R s m args below meth c H locs cells slots Q (F0 m pc ls (.int v :: .ref (ad 48) :: rest)) := by
  obtain ⟨hx, hb, hml, hown, hts, hr, hlocks, hK, hA⟩ := C
  obtain ⟨hP, hD, hS⟩ := h
  exact va_put (ci := 11) (C := RX12) (T := TX12) (N := 48) (v := .int v) (ty := .int) hx hb hts bX12_in tyX12 tyX12_ok nmX12 hown hK hP hD hS 0 rfl rfl 35 (by decide) (hts _ tb_47_4) (fun _ h9 => h9) rfl (by decide +kernel) rfl rfl (Nat.le_of_ble_eq_true rfl) hdg (fun H1 l1 hP hD hS => kk H1 l1 ⟨hP, hD, hS⟩)
theorem mg_36 (C : MCx p s m args meth c A RX12 cc nL rt D cs) (h : MH D (MW cs ad g) A s H locs) (hdg : decode cc pc = .ok (.getfield 401, 3)) (kk : W p l e R s m args below meth c H locs cells slots Q (F0 m (pc + 3) ls (.int (g.1 36) :: rest))) : W p l e R s m args below meth c H locs cells slots Q (F0 m pc ls (.ref (ad 48) :: rest)) := m_get 36 C h (by decide) tb_47_6 rfl rfl hdg kk
theorem mp_36 {v : Int32} (C : MCx p s m args meth c A RX12 cc nL rt D cs) (h : MH D (MW cs ad g) A s H locs) (hdg : decode cc pc = .ok (.putfield 401, 3)) (kk : ∀ (H1 : Heap) (locs1 : List Loc), MH D (MW cs ad (sI g 36 v)) A s H1 locs1 → W p l e R s m args below meth c H1 locs1 cells slots Q (F0 m (pc + 3) ls rest)) : W p l e R s m args below meth c H locs cells slots Q (F0 m pc ls (.int v :: .ref (ad 48) :: rest)) := by
  obtain ⟨hx, hb, hml, hown, hts, hr, hlocks, hK, hA⟩ := C
  obtain ⟨hP, hD, hS⟩ := h
  exact va_put (ci := 11) (C := RX12) (T := TX12) (N := 48) (v := .int v) (ty := .int) hx hb hts bX12_in tyX12 tyX12_ok nmX12 hown hK hP hD hS 0 rfl rfl 36 (by decide) (hts _ tb_47_6) (fun _ h9 => h9) rfl (by decide +kernel) rfl rfl (Nat.le_of_ble_eq_true rfl) hdg (fun H1 l1 hP hD hS => kk H1 l1 ⟨hP, hD, hS⟩)
theorem mg_37 (C : MCx p s m args meth c A RX12 cc nL rt D cs) (h : MH D (MW cs ad g) A s H locs) (hdg : decode cc pc = .ok (.getfield 417, 3)) (kk : W p l e R s m args below meth c H locs cells slots Q (F0 m (pc + 3) ls (.int (g.1 37) :: rest))) : W p l e R s m args below meth c H locs cells slots Q (F0 m pc ls (.ref (ad 48) :: rest)) := m_get 37 C h (by decide) tb_47_7 rfl rfl hdg kk
theorem mp_37 {v : Int32} (C : MCx p s m args meth c A RX12 cc nL rt D cs) (h : MH D (MW cs ad g) A s H locs) (hdg : decode cc pc = .ok (.putfield 417, 3)) (kk : ∀ (H1 : Heap) (locs1 : List Loc), MH D (MW cs ad (sI g 37 v)) A s H1 locs1 → W p l e R s m args below meth c H1 locs1 cells slots Q (F0 m (pc + 3) ls rest)) : W p l e R s m args below meth c H locs cells slots Q (F0 m pc ls (.int v :: .ref (ad 48) :: rest)) := by
  obtain ⟨hx, hb, hml, hown, hts, hr, hlocks, hK, hA⟩ := C
  obtain ⟨hP, hD, hS⟩ := h
  exact va_put (ci := 11) (C := RX12) (T := TX12) (N := 48) (v := .int v) (ty := .int) hx hb hts bX12_in tyX12 tyX12_ok nmX12 hown hK hP hD hS 0 rfl rfl 37 (by decide) (hts _ tb_47_7) (fun _ h9 => h9) rfl (by decide +kernel) rfl rfl (Nat.le_of_ble_eq_true rfl) hdg (fun H1 l1 hP hD hS => kk H1 l1 ⟨hP, hD, hS⟩)
theorem mg_38 (C : MCx p s m args meth c A RX12 cc nL rt D cs) (h : MH D (MW cs ad g) A s H locs) (hdg : decode cc pc = .ok (.getfield 420, 3)) (kk : W p l e R s m args below meth c H locs cells slots Q (F0 m (pc + 3) ls (.int (g.1 38) :: rest))) : W p l e R s m args below meth c H locs cells slots Q (F0 m pc ls (.ref (ad 48) :: rest)) := m_get 38 C h (by decide) tb_47_8 rfl rfl hdg kk
theorem mp_38 {v : Int32} (C : MCx p s m args meth c A RX12 cc nL rt D cs) (h : MH D (MW cs ad g) A s H locs) (hdg : decode cc pc = .ok (.putfield 420, 3)) (kk : ∀ (H1 : Heap) (locs1 : List Loc), MH D (MW cs ad (sI g 38 v)) A s H1 locs1 → W p l e R s m args below meth c H1 locs1 cells slots Q (F0 m (pc + 3) ls rest)) : W p l e R s m args below meth c H locs cells slots Q (F0 m pc ls (.int v :: .ref (ad 48) :: rest)) := by
  obtain ⟨hx, hb, hml, hown, hts, hr, hlocks, hK, hA⟩ := C
  obtain ⟨hP, hD, hS⟩ := h
  exact va_put (ci := 11) (C := RX12) (T := TX12) (N := 48) (v := .int v) (ty := .int) hx hb hts bX12_in tyX12 tyX12_ok nmX12 hown hK hP hD hS 0 rfl rfl 38 (by decide) (hts _ tb_47_8) (fun _ h9 => h9) rfl (by decide +kernel) rfl rfl (Nat.le_of_ble_eq_true rfl) hdg (fun H1 l1 hP hD hS => kk H1 l1 ⟨hP, hD, hS⟩)
theorem mg_39 (C : MCx p s m args meth c A RX12 cc nL rt D cs) (h : MH D (MW cs ad g) A s H locs) (hdg : decode cc pc = .ok (.getfield 67, 3)) (kk : W p l e R s m args below meth c H locs cells slots Q (F0 m (pc + 3) ls (.ref (ad 39) :: rest))) : W p l e R s m args below meth c H locs cells slots Q (F0 m pc ls (.ref (ad 48) :: rest)) := m_get 39 C h (by decide) tb_7_22 rfl rfl hdg kk
theorem mg_40 (C : MCx p s m args meth c A RX12 cc nL rt D cs) (h : MH D (MW cs ad g) A s H locs) (hdg : decode cc pc = .ok (.getfield 486, 3)) (kk : W p l e R s m args below meth c H locs cells slots Q (F0 m (pc + 3) ls (.int (g.1 40) :: rest))) : W p l e R s m args below meth c H locs cells slots Q (F0 m pc ls (.ref (ad 48) :: rest)) := m_get 40 C h (by decide) tb_59_10 rfl rfl hdg kk
theorem mp_40 {v : Int32} (C : MCx p s m args meth c A RX12 cc nL rt D cs) (h : MH D (MW cs ad g) A s H locs) (hdg : decode cc pc = .ok (.putfield 486, 3)) (kk : ∀ (H1 : Heap) (locs1 : List Loc), MH D (MW cs ad (sI g 40 v)) A s H1 locs1 → W p l e R s m args below meth c H1 locs1 cells slots Q (F0 m (pc + 3) ls rest)) : W p l e R s m args below meth c H locs cells slots Q (F0 m pc ls (.int v :: .ref (ad 48) :: rest)) := by
  obtain ⟨hx, hb, hml, hown, hts, hr, hlocks, hK, hA⟩ := C
  obtain ⟨hP, hD, hS⟩ := h
  exact va_put (ci := 11) (C := RX12) (T := TX12) (N := 48) (v := .int v) (ty := .int) hx hb hts bX12_in tyX12 tyX12_ok nmX12 hown hK hP hD hS 0 rfl rfl 40 (by decide) (hts _ tb_59_10) (fun _ h9 => h9) rfl (by decide +kernel) rfl rfl (Nat.le_of_ble_eq_true rfl) hdg (fun H1 l1 hP hD hS => kk H1 l1 ⟨hP, hD, hS⟩)
theorem mg_41 (C : MCx p s m args meth c A RX12 cc nL rt D cs) (h : MH D (MW cs ad g) A s H locs) (hdg : decode cc pc = .ok (.getfield 489, 3)) (kk : W p l e R s m args below meth c H locs cells slots Q (F0 m (pc + 3) ls (.int (g.1 41) :: rest))) : W p l e R s m args below meth c H locs cells slots Q (F0 m pc ls (.ref (ad 48) :: rest)) := m_get 41 C h (by decide) tb_59_11 rfl rfl hdg kk
theorem mp_41 {v : Int32} (C : MCx p s m args meth c A RX12 cc nL rt D cs) (h : MH D (MW cs ad g) A s H locs) (hdg : decode cc pc = .ok (.putfield 489, 3)) (kk : ∀ (H1 : Heap) (locs1 : List Loc), MH D (MW cs ad (sI g 41 v)) A s H1 locs1 → W p l e R s m args below meth c H1 locs1 cells slots Q (F0 m (pc + 3) ls rest)) : W p l e R s m args below meth c H locs cells slots Q (F0 m pc ls (.int v :: .ref (ad 48) :: rest)) := by
  obtain ⟨hx, hb, hml, hown, hts, hr, hlocks, hK, hA⟩ := C
  obtain ⟨hP, hD, hS⟩ := h
  exact va_put (ci := 11) (C := RX12) (T := TX12) (N := 48) (v := .int v) (ty := .int) hx hb hts bX12_in tyX12 tyX12_ok nmX12 hown hK hP hD hS 0 rfl rfl 41 (by decide) (hts _ tb_59_11) (fun _ h9 => h9) rfl (by decide +kernel) rfl rfl (Nat.le_of_ble_eq_true rfl) hdg (fun H1 l1 hP hD hS => kk H1 l1 ⟨hP, hD, hS⟩)
theorem mg_42 (C : MCx p s m args meth c A RX12 cc nL rt D cs) (h : MH D (MW cs ad g) A s H locs) (hdg : decode cc pc = .ok (.getfield 70, 3)) (kk : W p l e R s m args below meth c H locs cells slots Q (F0 m (pc + 3) ls (.ref (ad 42) :: rest))) : W p l e R s m args below meth c H locs cells slots Q (F0 m pc ls (.ref (ad 48) :: rest)) := m_get 42 C h (by decide) tb_7_23 rfl rfl hdg kk
theorem mg_43 (C : MCx p s m args meth c A RX12 cc nL rt D cs) (h : MH D (MW cs ad g) A s H locs) (hdg : decode cc pc = .ok (.getfield 73, 3)) (kk : W p l e R s m args below meth c H locs cells slots Q (F0 m (pc + 3) ls (.ref (ad 43) :: rest))) : W p l e R s m args below meth c H locs cells slots Q (F0 m pc ls (.ref (ad 48) :: rest)) := m_get 43 C h (by decide) tb_8_0 rfl rfl hdg kk
theorem mg_44 (C : MCx p s m args meth c A RX12 cc nL rt D cs) (h : MH D (MW cs ad g) A s H locs) (hdg : decode cc pc = .ok (.getfield 505, 3)) (kk : W p l e R s m args below meth c H locs cells slots Q (F0 m (pc + 3) ls (.int (g.1 44) :: rest))) : W p l e R s m args below meth c H locs cells slots Q (F0 m pc ls (.ref (ad 48) :: rest)) := m_get 44 C h (by decide) tb_63_7 rfl rfl hdg kk
theorem mp_44 {v : Int32} (C : MCx p s m args meth c A RX12 cc nL rt D cs) (h : MH D (MW cs ad g) A s H locs) (hdg : decode cc pc = .ok (.putfield 505, 3)) (kk : ∀ (H1 : Heap) (locs1 : List Loc), MH D (MW cs ad (sI g 44 v)) A s H1 locs1 → W p l e R s m args below meth c H1 locs1 cells slots Q (F0 m (pc + 3) ls rest)) : W p l e R s m args below meth c H locs cells slots Q (F0 m pc ls (.int v :: .ref (ad 48) :: rest)) := by
  obtain ⟨hx, hb, hml, hown, hts, hr, hlocks, hK, hA⟩ := C
  obtain ⟨hP, hD, hS⟩ := h
  exact va_put (ci := 11) (C := RX12) (T := TX12) (N := 48) (v := .int v) (ty := .int) hx hb hts bX12_in tyX12 tyX12_ok nmX12 hown hK hP hD hS 0 rfl rfl 44 (by decide) (hts _ tb_63_7) (fun _ h9 => h9) rfl (by decide +kernel) rfl rfl (Nat.le_of_ble_eq_true rfl) hdg (fun H1 l1 hP hD hS => kk H1 l1 ⟨hP, hD, hS⟩)
theorem mg_45 (C : MCx p s m args meth c A RX12 cc nL rt D cs) (h : MH D (MW cs ad g) A s H locs) (hdg : decode cc pc = .ok (.getfield 76, 3)) (kk : W p l e R s m args below meth c H locs cells slots Q (F0 m (pc + 3) ls (.ref (ad 45) :: rest))) : W p l e R s m args below meth c H locs cells slots Q (F0 m pc ls (.ref (ad 48) :: rest)) := m_get 45 C h (by decide) tb_8_1 rfl rfl hdg kk
theorem mg_46 (C : MCx p s m args meth c A RX12 cc nL rt D cs) (h : MH D (MW cs ad g) A s H locs) (hdg : decode cc pc = .ok (.getfield 79, 3)) (kk : W p l e R s m args below meth c H locs cells slots Q (F0 m (pc + 3) ls (.ref (ad 46) :: rest))) : W p l e R s m args below meth c H locs cells slots Q (F0 m pc ls (.ref (ad 48) :: rest)) := m_get 46 C h (by decide) tb_8_2 rfl rfl hdg kk
theorem mg_47 (C : MCx p s m args meth c A RX12 cc nL rt D cs) (h : MH D (MW cs ad g) A s H locs) (hdg : decode cc pc = .ok (.getfield 82, 3)) (kk : W p l e R s m args below meth c H locs cells slots Q (F0 m (pc + 3) ls (.ref (ad 47) :: rest))) : W p l e R s m args below meth c H locs cells slots Q (F0 m pc ls (.ref (ad 48) :: rest)) := m_get 47 C h (by decide) tb_8_3 rfl rfl hdg kk
theorem ml_0 {i : Int32} (C : MCx p s m args meth c A RX12 cc nL rt D cs) (h : MH D (MW cs ad g) A s H locs) (hi : ib i 2850 = true) (hdg : decode cc pc = .ok (.iaload, 1)) (kk : W p l e R s m args below meth c H locs cells slots Q (F0 m (pc + 1) ls (.int (g.2.1 0 (ix i)) :: rest))) : W p l e R s m args below meth c H locs cells slots Q (F0 m pc ls (.int i :: .ref (ad 0) :: rest)) := va_iald C.1 C.2.1 C.2.2.2.2.2.2.2.1 h.1 1 0 rfl rfl (ib_in hi) hdg kk
theorem ms_0 {i : Int32} {x : Int32} (C : MCx p s m args meth c A RX12 cc nL rt D cs) (h : MH D (MW cs ad g) A s H locs) (hi : ib i 2850 = true) (hdg : decode cc pc = .ok (.iastore, 1)) (kk : ∀ (H1 : Heap) (locs1 : List Loc), MH D (MW cs ad (sA g 0 (ix i) x)) A s H1 locs1 → W p l e R s m args below meth c H1 locs1 cells slots Q (F0 m (pc + 1) ls rest)) : W p l e R s m args below meth c H locs cells slots Q (F0 m pc ls (.int x :: .int i :: .ref (ad 0) :: rest)) := by
  obtain ⟨hx, hb, hml, hown, hts, hr, hlocks, hK, hA⟩ := C
  obtain ⟨hP, hD, hS⟩ := h
  exact va_iast hx hb hK hP hD hS 1 0 rfl rfl (ib_in hi) hdg (fun H1 l1 hP hD hS => kk H1 l1 ⟨hP, hD, hS⟩)
theorem ml_1 {i : Int32} (C : MCx p s m args meth c A RX12 cc nL rt D cs) (h : MH D (MW cs ad g) A s H locs) (hi : ib i 2850 = true) (hdg : decode cc pc = .ok (.iaload, 1)) (kk : W p l e R s m args below meth c H locs cells slots Q (F0 m (pc + 1) ls (.int (g.2.1 1 (ix i)) :: rest))) : W p l e R s m args below meth c H locs cells slots Q (F0 m pc ls (.int i :: .ref (ad 1) :: rest)) := va_iald C.1 C.2.1 C.2.2.2.2.2.2.2.1 h.1 2 0 rfl rfl (ib_in hi) hdg kk
theorem ms_1 {i : Int32} {x : Int32} (C : MCx p s m args meth c A RX12 cc nL rt D cs) (h : MH D (MW cs ad g) A s H locs) (hi : ib i 2850 = true) (hdg : decode cc pc = .ok (.iastore, 1)) (kk : ∀ (H1 : Heap) (locs1 : List Loc), MH D (MW cs ad (sA g 1 (ix i) x)) A s H1 locs1 → W p l e R s m args below meth c H1 locs1 cells slots Q (F0 m (pc + 1) ls rest)) : W p l e R s m args below meth c H locs cells slots Q (F0 m pc ls (.int x :: .int i :: .ref (ad 1) :: rest)) := by
  obtain ⟨hx, hb, hml, hown, hts, hr, hlocks, hK, hA⟩ := C
  obtain ⟨hP, hD, hS⟩ := h
  exact va_iast hx hb hK hP hD hS 2 0 rfl rfl (ib_in hi) hdg (fun H1 l1 hP hD hS => kk H1 l1 ⟨hP, hD, hS⟩)
theorem ml_2 {i : Int32} (C : MCx p s m args meth c A RX12 cc nL rt D cs) (h : MH D (MW cs ad g) A s H locs) (hi : ib i 8550 = true) (hdg : decode cc pc = .ok (.iaload, 1)) (kk : W p l e R s m args below meth c H locs cells slots Q (F0 m (pc + 1) ls (.int (g.2.1 2 (ix i)) :: rest))) : W p l e R s m args below meth c H locs cells slots Q (F0 m pc ls (.int i :: .ref (ad 2) :: rest)) := va_iald C.1 C.2.1 C.2.2.2.2.2.2.2.1 h.1 3 0 rfl rfl (ib_in hi) hdg kk
theorem ms_2 {i : Int32} {x : Int32} (C : MCx p s m args meth c A RX12 cc nL rt D cs) (h : MH D (MW cs ad g) A s H locs) (hi : ib i 8550 = true) (hdg : decode cc pc = .ok (.iastore, 1)) (kk : ∀ (H1 : Heap) (locs1 : List Loc), MH D (MW cs ad (sA g 2 (ix i) x)) A s H1 locs1 → W p l e R s m args below meth c H1 locs1 cells slots Q (F0 m (pc + 1) ls rest)) : W p l e R s m args below meth c H locs cells slots Q (F0 m pc ls (.int x :: .int i :: .ref (ad 2) :: rest)) := by
  obtain ⟨hx, hb, hml, hown, hts, hr, hlocks, hK, hA⟩ := C
  obtain ⟨hP, hD, hS⟩ := h
  exact va_iast hx hb hK hP hD hS 3 0 rfl rfl (ib_in hi) hdg (fun H1 l1 hP hD hS => kk H1 l1 ⟨hP, hD, hS⟩)
theorem ml_3 {i : Int32} (C : MCx p s m args meth c A RX12 cc nL rt D cs) (h : MH D (MW cs ad g) A s H locs) (hi : ib i 3 = true) (hdg : decode cc pc = .ok (.baload, 1)) (kk : W p l e R s m args below meth c H locs cells slots Q (F0 m (pc + 1) ls (.int (g.2.1 3 (ix i)) :: rest))) : W p l e R s m args below meth c H locs cells slots Q (F0 m pc ls (.int i :: .ref (ad 3) :: rest)) := va_zald C.1 C.2.1 C.2.2.2.2.2.2.2.1 h.1 4 1 rfl rfl (ib_in hi) hdg kk
theorem ms_3 {i : Int32} {x : Int32} (C : MCx p s m args meth c A RX12 cc nL rt D cs) (h : MH D (MW cs ad g) A s H locs) (hi : ib i 3 = true) (hz : isB x = true) (hdg : decode cc pc = .ok (.bastore, 1)) (kk : ∀ (H1 : Heap) (locs1 : List Loc), MH D (MW cs ad (sA g 3 (ix i) x)) A s H1 locs1 → W p l e R s m args below meth c H1 locs1 cells slots Q (F0 m (pc + 1) ls rest)) : W p l e R s m args below meth c H locs cells slots Q (F0 m pc ls (.int x :: .int i :: .ref (ad 3) :: rest)) := by
  obtain ⟨hx, hb, hml, hown, hts, hr, hlocks, hK, hA⟩ := C
  obtain ⟨hP, hD, hS⟩ := h
  have e : vp_nar .boolean x = x := by rcases (of_decide_eq_true hz : x = 0 ∨ x = 1) with h | h <;> subst h <;> rfl
  refine va_zast hx hb hK hP hD hS 4 1 rfl rfl (ib_in hi) hdg (fun H1 l1 hP hD hS => kk H1 l1 ?_)
  rw [e] at hP hD
  exact ⟨hP, hD, hS⟩
theorem ml_5 {i : Int32} (C : MCx p s m args meth c A RX12 cc nL rt D cs) (h : MH D (MW cs ad g) A s H locs) (hi : ib i 900 = true) (hdg : decode cc pc = .ok (.iaload, 1)) (kk : W p l e R s m args below meth c H locs cells slots Q (F0 m (pc + 1) ls (.int (g.2.1 5 (ix i)) :: rest))) : W p l e R s m args below meth c H locs cells slots Q (F0 m pc ls (.int i :: .ref (ad 5) :: rest)) := va_iald C.1 C.2.1 C.2.2.2.2.2.2.2.1 h.1 5 0 rfl rfl (ib_in hi) hdg kk
theorem ms_5 {i : Int32} {x : Int32} (C : MCx p s m args meth c A RX12 cc nL rt D cs) (h : MH D (MW cs ad g) A s H locs) (hi : ib i 900 = true) (hdg : decode cc pc = .ok (.iastore, 1)) (kk : ∀ (H1 : Heap) (locs1 : List Loc), MH D (MW cs ad (sA g 5 (ix i) x)) A s H1 locs1 → W p l e R s m args below meth c H1 locs1 cells slots Q (F0 m (pc + 1) ls rest)) : W p l e R s m args below meth c H locs cells slots Q (F0 m pc ls (.int x :: .int i :: .ref (ad 5) :: rest)) := by
  obtain ⟨hx, hb, hml, hown, hts, hr, hlocks, hK, hA⟩ := C
  obtain ⟨hP, hD, hS⟩ := h
  exact va_iast hx hb hK hP hD hS 5 0 rfl rfl (ib_in hi) hdg (fun H1 l1 hP hD hS => kk H1 l1 ⟨hP, hD, hS⟩)
theorem ml_19 {i : Int32} (C : MCx p s m args meth c A RX12 cc nL rt D cs) (h : MH D (MW cs ad g) A s H locs) (hi : ib i 64 = true) (hdg : decode cc pc = .ok (.iaload, 1)) (kk : W p l e R s m args below meth c H locs cells slots Q (F0 m (pc + 1) ls (.int (g.2.1 19 (ix i)) :: rest))) : W p l e R s m args below meth c H locs cells slots Q (F0 m pc ls (.int i :: .ref (ad 19) :: rest)) := va_iald C.1 C.2.1 C.2.2.2.2.2.2.2.1 h.1 6 0 rfl rfl (ib_in hi) hdg kk
theorem ms_19 {i : Int32} {x : Int32} (C : MCx p s m args meth c A RX12 cc nL rt D cs) (h : MH D (MW cs ad g) A s H locs) (hi : ib i 64 = true) (hdg : decode cc pc = .ok (.iastore, 1)) (kk : ∀ (H1 : Heap) (locs1 : List Loc), MH D (MW cs ad (sA g 19 (ix i) x)) A s H1 locs1 → W p l e R s m args below meth c H1 locs1 cells slots Q (F0 m (pc + 1) ls rest)) : W p l e R s m args below meth c H locs cells slots Q (F0 m pc ls (.int x :: .int i :: .ref (ad 19) :: rest)) := by
  obtain ⟨hx, hb, hml, hown, hts, hr, hlocks, hK, hA⟩ := C
  obtain ⟨hP, hD, hS⟩ := h
  exact va_iast hx hb hK hP hD hS 6 0 rfl rfl (ib_in hi) hdg (fun H1 l1 hP hD hS => kk H1 l1 ⟨hP, hD, hS⟩)
theorem ml_20 {i : Int32} (C : MCx p s m args meth c A RX12 cc nL rt D cs) (h : MH D (MW cs ad g) A s H locs) (hi : ib i 4 = true) (hdg : decode cc pc = .ok (.iaload, 1)) (kk : W p l e R s m args below meth c H locs cells slots Q (F0 m (pc + 1) ls (.int (g.2.1 20 (ix i)) :: rest))) : W p l e R s m args below meth c H locs cells slots Q (F0 m pc ls (.int i :: .ref (ad 20) :: rest)) := va_iald C.1 C.2.1 C.2.2.2.2.2.2.2.1 h.1 7 0 rfl rfl (ib_in hi) hdg kk
theorem ms_20 {i : Int32} {x : Int32} (C : MCx p s m args meth c A RX12 cc nL rt D cs) (h : MH D (MW cs ad g) A s H locs) (hi : ib i 4 = true) (hdg : decode cc pc = .ok (.iastore, 1)) (kk : ∀ (H1 : Heap) (locs1 : List Loc), MH D (MW cs ad (sA g 20 (ix i) x)) A s H1 locs1 → W p l e R s m args below meth c H1 locs1 cells slots Q (F0 m (pc + 1) ls rest)) : W p l e R s m args below meth c H locs cells slots Q (F0 m pc ls (.int x :: .int i :: .ref (ad 20) :: rest)) := by
  obtain ⟨hx, hb, hml, hown, hts, hr, hlocks, hK, hA⟩ := C
  obtain ⟨hP, hD, hS⟩ := h
  exact va_iast hx hb hK hP hD hS 7 0 rfl rfl (ib_in hi) hdg (fun H1 l1 hP hD hS => kk H1 l1 ⟨hP, hD, hS⟩)
theorem ml_21 {i : Int32} (C : MCx p s m args meth c A RX12 cc nL rt D cs) (h : MH D (MW cs ad g) A s H locs) (hi : ib i 6 = true) (hdg : decode cc pc = .ok (.iaload, 1)) (kk : W p l e R s m args below meth c H locs cells slots Q (F0 m (pc + 1) ls (.int (g.2.1 21 (ix i)) :: rest))) : W p l e R s m args below meth c H locs cells slots Q (F0 m pc ls (.int i :: .ref (ad 21) :: rest)) := va_iald C.1 C.2.1 C.2.2.2.2.2.2.2.1 h.1 8 0 rfl rfl (ib_in hi) hdg kk
theorem ms_21 {i : Int32} {x : Int32} (C : MCx p s m args meth c A RX12 cc nL rt D cs) (h : MH D (MW cs ad g) A s H locs) (hi : ib i 6 = true) (hdg : decode cc pc = .ok (.iastore, 1)) (kk : ∀ (H1 : Heap) (locs1 : List Loc), MH D (MW cs ad (sA g 21 (ix i) x)) A s H1 locs1 → W p l e R s m args below meth c H1 locs1 cells slots Q (F0 m (pc + 1) ls rest)) : W p l e R s m args below meth c H locs cells slots Q (F0 m pc ls (.int x :: .int i :: .ref (ad 21) :: rest)) := by
  obtain ⟨hx, hb, hml, hown, hts, hr, hlocks, hK, hA⟩ := C
  obtain ⟨hP, hD, hS⟩ := h
  exact va_iast hx hb hK hP hD hS 8 0 rfl rfl (ib_in hi) hdg (fun H1 l1 hP hD hS => kk H1 l1 ⟨hP, hD, hS⟩)
theorem ml_22 {i : Int32} (C : MCx p s m args meth c A RX12 cc nL rt D cs) (h : MH D (MW cs ad g) A s H locs) (hi : ib i 6 = true) (hdg : decode cc pc = .ok (.iaload, 1)) (kk : W p l e R s m args below meth c H locs cells slots Q (F0 m (pc + 1) ls (.int (g.2.1 22 (ix i)) :: rest))) : W p l e R s m args below meth c H locs cells slots Q (F0 m pc ls (.int i :: .ref (ad 22) :: rest)) := va_iald C.1 C.2.1 C.2.2.2.2.2.2.2.1 h.1 9 0 rfl rfl (ib_in hi) hdg kk
theorem ms_22 {i : Int32} {x : Int32} (C : MCx p s m args meth c A RX12 cc nL rt D cs) (h : MH D (MW cs ad g) A s H locs) (hi : ib i 6 = true) (hdg : decode cc pc = .ok (.iastore, 1)) (kk : ∀ (H1 : Heap) (locs1 : List Loc), MH D (MW cs ad (sA g 22 (ix i) x)) A s H1 locs1 → W p l e R s m args below meth c H1 locs1 cells slots Q (F0 m (pc + 1) ls rest)) : W p l e R s m args below meth c H locs cells slots Q (F0 m pc ls (.int x :: .int i :: .ref (ad 22) :: rest)) := by
  obtain ⟨hx, hb, hml, hown, hts, hr, hlocks, hK, hA⟩ := C
  obtain ⟨hP, hD, hS⟩ := h
  exact va_iast hx hb hK hP hD hS 9 0 rfl rfl (ib_in hi) hdg (fun H1 l1 hP hD hS => kk H1 l1 ⟨hP, hD, hS⟩)
theorem ml_23 {i : Int32} (C : MCx p s m args meth c A RX12 cc nL rt D cs) (h : MH D (MW cs ad g) A s H locs) (hi : ib i 6 = true) (hdg : decode cc pc = .ok (.iaload, 1)) (kk : W p l e R s m args below meth c H locs cells slots Q (F0 m (pc + 1) ls (.int (g.2.1 23 (ix i)) :: rest))) : W p l e R s m args below meth c H locs cells slots Q (F0 m pc ls (.int i :: .ref (ad 23) :: rest)) := va_iald C.1 C.2.1 C.2.2.2.2.2.2.2.1 h.1 10 0 rfl rfl (ib_in hi) hdg kk
theorem ms_23 {i : Int32} {x : Int32} (C : MCx p s m args meth c A RX12 cc nL rt D cs) (h : MH D (MW cs ad g) A s H locs) (hi : ib i 6 = true) (hdg : decode cc pc = .ok (.iastore, 1)) (kk : ∀ (H1 : Heap) (locs1 : List Loc), MH D (MW cs ad (sA g 23 (ix i) x)) A s H1 locs1 → W p l e R s m args below meth c H1 locs1 cells slots Q (F0 m (pc + 1) ls rest)) : W p l e R s m args below meth c H locs cells slots Q (F0 m pc ls (.int x :: .int i :: .ref (ad 23) :: rest)) := by
  obtain ⟨hx, hb, hml, hown, hts, hr, hlocks, hK, hA⟩ := C
  obtain ⟨hP, hD, hS⟩ := h
  exact va_iast hx hb hK hP hD hS 10 0 rfl rfl (ib_in hi) hdg (fun H1 l1 hP hD hS => kk H1 l1 ⟨hP, hD, hS⟩)
theorem ml_24 {i : Int32} (C : MCx p s m args meth c A RX12 cc nL rt D cs) (h : MH D (MW cs ad g) A s H locs) (hi : ib i 13 = true) (hdg : decode cc pc = .ok (.iaload, 1)) (kk : W p l e R s m args below meth c H locs cells slots Q (F0 m (pc + 1) ls (.int (g.2.1 24 (ix i)) :: rest))) : W p l e R s m args below meth c H locs cells slots Q (F0 m pc ls (.int i :: .ref (ad 24) :: rest)) := va_iald C.1 C.2.1 C.2.2.2.2.2.2.2.1 h.1 11 0 rfl rfl (ib_in hi) hdg kk
theorem ms_24 {i : Int32} {x : Int32} (C : MCx p s m args meth c A RX12 cc nL rt D cs) (h : MH D (MW cs ad g) A s H locs) (hi : ib i 13 = true) (hdg : decode cc pc = .ok (.iastore, 1)) (kk : ∀ (H1 : Heap) (locs1 : List Loc), MH D (MW cs ad (sA g 24 (ix i) x)) A s H1 locs1 → W p l e R s m args below meth c H1 locs1 cells slots Q (F0 m (pc + 1) ls rest)) : W p l e R s m args below meth c H locs cells slots Q (F0 m pc ls (.int x :: .int i :: .ref (ad 24) :: rest)) := by
  obtain ⟨hx, hb, hml, hown, hts, hr, hlocks, hK, hA⟩ := C
  obtain ⟨hP, hD, hS⟩ := h
  exact va_iast hx hb hK hP hD hS 11 0 rfl rfl (ib_in hi) hdg (fun H1 l1 hP hD hS => kk H1 l1 ⟨hP, hD, hS⟩)
theorem ml_26 {i : Int32} (C : MCx p s m args meth c A RX12 cc nL rt D cs) (h : MH D (MW cs ad g) A s H locs) (hi : ib i 6 = true) (hdg : decode cc pc = .ok (.iaload, 1)) (kk : W p l e R s m args below meth c H locs cells slots Q (F0 m (pc + 1) ls (.int (g.2.1 26 (ix i)) :: rest))) : W p l e R s m args below meth c H locs cells slots Q (F0 m pc ls (.int i :: .ref (ad 26) :: rest)) := va_iald C.1 C.2.1 C.2.2.2.2.2.2.2.1 h.1 12 0 rfl rfl (ib_in hi) hdg kk
theorem ms_26 {i : Int32} {x : Int32} (C : MCx p s m args meth c A RX12 cc nL rt D cs) (h : MH D (MW cs ad g) A s H locs) (hi : ib i 6 = true) (hdg : decode cc pc = .ok (.iastore, 1)) (kk : ∀ (H1 : Heap) (locs1 : List Loc), MH D (MW cs ad (sA g 26 (ix i) x)) A s H1 locs1 → W p l e R s m args below meth c H1 locs1 cells slots Q (F0 m (pc + 1) ls rest)) : W p l e R s m args below meth c H locs cells slots Q (F0 m pc ls (.int x :: .int i :: .ref (ad 26) :: rest)) := by
  obtain ⟨hx, hb, hml, hown, hts, hr, hlocks, hK, hA⟩ := C
  obtain ⟨hP, hD, hS⟩ := h
  exact va_iast hx hb hK hP hD hS 12 0 rfl rfl (ib_in hi) hdg (fun H1 l1 hP hD hS => kk H1 l1 ⟨hP, hD, hS⟩)
theorem ml_27 {i : Int32} (C : MCx p s m args meth c A RX12 cc nL rt D cs) (h : MH D (MW cs ad g) A s H locs) (hi : ib i 6 = true) (hdg : decode cc pc = .ok (.iaload, 1)) (kk : W p l e R s m args below meth c H locs cells slots Q (F0 m (pc + 1) ls (.int (g.2.1 27 (ix i)) :: rest))) : W p l e R s m args below meth c H locs cells slots Q (F0 m pc ls (.int i :: .ref (ad 27) :: rest)) := va_iald C.1 C.2.1 C.2.2.2.2.2.2.2.1 h.1 13 0 rfl rfl (ib_in hi) hdg kk
theorem ms_27 {i : Int32} {x : Int32} (C : MCx p s m args meth c A RX12 cc nL rt D cs) (h : MH D (MW cs ad g) A s H locs) (hi : ib i 6 = true) (hdg : decode cc pc = .ok (.iastore, 1)) (kk : ∀ (H1 : Heap) (locs1 : List Loc), MH D (MW cs ad (sA g 27 (ix i) x)) A s H1 locs1 → W p l e R s m args below meth c H1 locs1 cells slots Q (F0 m (pc + 1) ls rest)) : W p l e R s m args below meth c H locs cells slots Q (F0 m pc ls (.int x :: .int i :: .ref (ad 27) :: rest)) := by
  obtain ⟨hx, hb, hml, hown, hts, hr, hlocks, hK, hA⟩ := C
  obtain ⟨hP, hD, hS⟩ := h
  exact va_iast hx hb hK hP hD hS 13 0 rfl rfl (ib_in hi) hdg (fun H1 l1 hP hD hS => kk H1 l1 ⟨hP, hD, hS⟩)
theorem ml_28 {i : Int32} (C : MCx p s m args meth c A RX12 cc nL rt D cs) (h : MH D (MW cs ad g) A s H locs) (hi : ib i 6 = true) (hdg : decode cc pc = .ok (.iaload, 1)) (kk : W p l e R s m args below meth c H locs cells slots Q (F0 m (pc + 1) ls (.int (g.2.1 28 (ix i)) :: rest))) : W p l e R s m args below meth c H locs cells slots Q (F0 m pc ls (.int i :: .ref (ad 28) :: rest)) := va_iald C.1 C.2.1 C.2.2.2.2.2.2.2.1 h.1 14 0 rfl rfl (ib_in hi) hdg kk
theorem ms_28 {i : Int32} {x : Int32} (C : MCx p s m args meth c A RX12 cc nL rt D cs) (h : MH D (MW cs ad g) A s H locs) (hi : ib i 6 = true) (hdg : decode cc pc = .ok (.iastore, 1)) (kk : ∀ (H1 : Heap) (locs1 : List Loc), MH D (MW cs ad (sA g 28 (ix i) x)) A s H1 locs1 → W p l e R s m args below meth c H1 locs1 cells slots Q (F0 m (pc + 1) ls rest)) : W p l e R s m args below meth c H locs cells slots Q (F0 m pc ls (.int x :: .int i :: .ref (ad 28) :: rest)) := by
  obtain ⟨hx, hb, hml, hown, hts, hr, hlocks, hK, hA⟩ := C
  obtain ⟨hP, hD, hS⟩ := h
  exact va_iast hx hb hK hP hD hS 14 0 rfl rfl (ib_in hi) hdg (fun H1 l1 hP hD hS => kk H1 l1 ⟨hP, hD, hS⟩)
theorem ml_29 {i : Int32} (C : MCx p s m args meth c A RX12 cc nL rt D cs) (h : MH D (MW cs ad g) A s H locs) (hi : ib i 6 = true) (hdg : decode cc pc = .ok (.iaload, 1)) (kk : W p l e R s m args below meth c H locs cells slots Q (F0 m (pc + 1) ls (.int (g.2.1 29 (ix i)) :: rest))) : W p l e R s m args below meth c H locs cells slots Q (F0 m pc ls (.int i :: .ref (ad 29) :: rest)) := va_iald C.1 C.2.1 C.2.2.2.2.2.2.2.1 h.1 15 0 rfl rfl (ib_in hi) hdg kk
theorem ms_29 {i : Int32} {x : Int32} (C : MCx p s m args meth c A RX12 cc nL rt D cs) (h : MH D (MW cs ad g) A s H locs) (hi : ib i 6 = true) (hdg : decode cc pc = .ok (.iastore, 1)) (kk : ∀ (H1 : Heap) (locs1 : List Loc), MH D (MW cs ad (sA g 29 (ix i) x)) A s H1 locs1 → W p l e R s m args below meth c H1 locs1 cells slots Q (F0 m (pc + 1) ls rest)) : W p l e R s m args below meth c H locs cells slots Q (F0 m pc ls (.int x :: .int i :: .ref (ad 29) :: rest)) := by
  obtain ⟨hx, hb, hml, hown, hts, hr, hlocks, hK, hA⟩ := C
  obtain ⟨hP, hD, hS⟩ := h
  exact va_iast hx hb hK hP hD hS 15 0 rfl rfl (ib_in hi) hdg (fun H1 l1 hP hD hS => kk H1 l1 ⟨hP, hD, hS⟩)
theorem ml_30 {i : Int32} (C : MCx p s m args meth c A RX12 cc nL rt D cs) (h : MH D (MW cs ad g) A s H locs) (hi : ib i 6 = true) (hdg : decode cc pc = .ok (.iaload, 1)) (kk : W p l e R s m args below meth c H locs cells slots Q (F0 m (pc + 1) ls (.int (g.2.1 30 (ix i)) :: rest))) : W p l e R s m args below meth c H locs cells slots Q (F0 m pc ls (.int i :: .ref (ad 30) :: rest)) := va_iald C.1 C.2.1 C.2.2.2.2.2.2.2.1 h.1 16 0 rfl rfl (ib_in hi) hdg kk
theorem ms_30 {i : Int32} {x : Int32} (C : MCx p s m args meth c A RX12 cc nL rt D cs) (h : MH D (MW cs ad g) A s H locs) (hi : ib i 6 = true) (hdg : decode cc pc = .ok (.iastore, 1)) (kk : ∀ (H1 : Heap) (locs1 : List Loc), MH D (MW cs ad (sA g 30 (ix i) x)) A s H1 locs1 → W p l e R s m args below meth c H1 locs1 cells slots Q (F0 m (pc + 1) ls rest)) : W p l e R s m args below meth c H locs cells slots Q (F0 m pc ls (.int x :: .int i :: .ref (ad 30) :: rest)) := by
  obtain ⟨hx, hb, hml, hown, hts, hr, hlocks, hK, hA⟩ := C
  obtain ⟨hP, hD, hS⟩ := h
  exact va_iast hx hb hK hP hD hS 16 0 rfl rfl (ib_in hi) hdg (fun H1 l1 hP hD hS => kk H1 l1 ⟨hP, hD, hS⟩)
theorem ml_31 {i : Int32} (C : MCx p s m args meth c A RX12 cc nL rt D cs) (h : MH D (MW cs ad g) A s H locs) (hi : ib i 46656 = true) (hdg : decode cc pc = .ok (.baload, 1)) (kk : W p l e R s m args below meth c H locs cells slots Q (F0 m (pc + 1) ls (.int (g.2.1 31 (ix i)) :: rest))) : W p l e R s m args below meth c H locs cells slots Q (F0 m pc ls (.int i :: .ref (ad 31) :: rest)) := va_zald C.1 C.2.1 C.2.2.2.2.2.2.2.1 h.1 17 1 rfl rfl (ib_in hi) hdg kk
theorem ms_31 {i : Int32} {x : Int32} (C : MCx p s m args meth c A RX12 cc nL rt D cs) (h : MH D (MW cs ad g) A s H locs) (hi : ib i 46656 = true) (hz : isB x = true) (hdg : decode cc pc = .ok (.bastore, 1)) (kk : ∀ (H1 : Heap) (locs1 : List Loc), MH D (MW cs ad (sA g 31 (ix i) x)) A s H1 locs1 → W p l e R s m args below meth c H1 locs1 cells slots Q (F0 m (pc + 1) ls rest)) : W p l e R s m args below meth c H locs cells slots Q (F0 m pc ls (.int x :: .int i :: .ref (ad 31) :: rest)) := by
  obtain ⟨hx, hb, hml, hown, hts, hr, hlocks, hK, hA⟩ := C
  obtain ⟨hP, hD, hS⟩ := h
  have e : vp_nar .boolean x = x := by rcases (of_decide_eq_true hz : x = 0 ∨ x = 1) with h | h <;> subst h <;> rfl
  refine va_zast hx hb hK hP hD hS 17 1 rfl rfl (ib_in hi) hdg (fun H1 l1 hP hD hS => kk H1 l1 ?_)
  rw [e] at hP hD
  exact ⟨hP, hD, hS⟩
theorem ml_39 {i : Int32} (C : MCx p s m args meth c A RX12 cc nL rt D cs) (h : MH D (MW cs ad g) A s H locs) (hi : ib i 46656 = true) (hdg : decode cc pc = .ok (.iaload, 1)) (kk : W p l e R s m args below meth c H locs cells slots Q (F0 m (pc + 1) ls (.int (g.2.1 39 (ix i)) :: rest))) : W p l e R s m args below meth c H locs cells slots Q (F0 m pc ls (.int i :: .ref (ad 39) :: rest)) := va_iald C.1 C.2.1 C.2.2.2.2.2.2.2.1 h.1 18 0 rfl rfl (ib_in hi) hdg kk
theorem ms_39 {i : Int32} {x : Int32} (C : MCx p s m args meth c A RX12 cc nL rt D cs) (h : MH D (MW cs ad g) A s H locs) (hi : ib i 46656 = true) (hdg : decode cc pc = .ok (.iastore, 1)) (kk : ∀ (H1 : Heap) (locs1 : List Loc), MH D (MW cs ad (sA g 39 (ix i) x)) A s H1 locs1 → W p l e R s m args below meth c H1 locs1 cells slots Q (F0 m (pc + 1) ls rest)) : W p l e R s m args below meth c H locs cells slots Q (F0 m pc ls (.int x :: .int i :: .ref (ad 39) :: rest)) := by
  obtain ⟨hx, hb, hml, hown, hts, hr, hlocks, hK, hA⟩ := C
  obtain ⟨hP, hD, hS⟩ := h
  exact va_iast hx hb hK hP hD hS 18 0 rfl rfl (ib_in hi) hdg (fun H1 l1 hP hD hS => kk H1 l1 ⟨hP, hD, hS⟩)
theorem ml_42 {i : Int32} (C : MCx p s m args meth c A RX12 cc nL rt D cs) (h : MH D (MW cs ad g) A s H locs) (hi : ib i 30 = true) (hdg : decode cc pc = .ok (.iaload, 1)) (kk : W p l e R s m args below meth c H locs cells slots Q (F0 m (pc + 1) ls (.int (g.2.1 42 (ix i)) :: rest))) : W p l e R s m args below meth c H locs cells slots Q (F0 m pc ls (.int i :: .ref (ad 42) :: rest)) := va_iald C.1 C.2.1 C.2.2.2.2.2.2.2.1 h.1 19 0 rfl rfl (ib_in hi) hdg kk
theorem ms_42 {i : Int32} {x : Int32} (C : MCx p s m args meth c A RX12 cc nL rt D cs) (h : MH D (MW cs ad g) A s H locs) (hi : ib i 30 = true) (hdg : decode cc pc = .ok (.iastore, 1)) (kk : ∀ (H1 : Heap) (locs1 : List Loc), MH D (MW cs ad (sA g 42 (ix i) x)) A s H1 locs1 → W p l e R s m args below meth c H1 locs1 cells slots Q (F0 m (pc + 1) ls rest)) : W p l e R s m args below meth c H locs cells slots Q (F0 m pc ls (.int x :: .int i :: .ref (ad 42) :: rest)) := by
  obtain ⟨hx, hb, hml, hown, hts, hr, hlocks, hK, hA⟩ := C
  obtain ⟨hP, hD, hS⟩ := h
  exact va_iast hx hb hK hP hD hS 19 0 rfl rfl (ib_in hi) hdg (fun H1 l1 hP hD hS => kk H1 l1 ⟨hP, hD, hS⟩)
theorem ml_43 {i : Int32} (C : MCx p s m args meth c A RX12 cc nL rt D cs) (h : MH D (MW cs ad g) A s H locs) (hi : ib i 180 = true) (hdg : decode cc pc = .ok (.iaload, 1)) (kk : W p l e R s m args below meth c H locs cells slots Q (F0 m (pc + 1) ls (.int (g.2.1 43 (ix i)) :: rest))) : W p l e R s m args below meth c H locs cells slots Q (F0 m pc ls (.int i :: .ref (ad 43) :: rest)) := va_iald C.1 C.2.1 C.2.2.2.2.2.2.2.1 h.1 20 0 rfl rfl (ib_in hi) hdg kk
theorem ms_43 {i : Int32} {x : Int32} (C : MCx p s m args meth c A RX12 cc nL rt D cs) (h : MH D (MW cs ad g) A s H locs) (hi : ib i 180 = true) (hdg : decode cc pc = .ok (.iastore, 1)) (kk : ∀ (H1 : Heap) (locs1 : List Loc), MH D (MW cs ad (sA g 43 (ix i) x)) A s H1 locs1 → W p l e R s m args below meth c H1 locs1 cells slots Q (F0 m (pc + 1) ls rest)) : W p l e R s m args below meth c H locs cells slots Q (F0 m pc ls (.int x :: .int i :: .ref (ad 43) :: rest)) := by
  obtain ⟨hx, hb, hml, hown, hts, hr, hlocks, hK, hA⟩ := C
  obtain ⟨hP, hD, hS⟩ := h
  exact va_iast hx hb hK hP hD hS 20 0 rfl rfl (ib_in hi) hdg (fun H1 l1 hP hD hS => kk H1 l1 ⟨hP, hD, hS⟩)
theorem ml_45 {i : Int32} (C : MCx p s m args meth c A RX12 cc nL rt D cs) (h : MH D (MW cs ad g) A s H locs) (hi : ib i 4 = true) (hdg : decode cc pc = .ok (.iaload, 1)) (kk : W p l e R s m args below meth c H locs cells slots Q (F0 m (pc + 1) ls (.int (g.2.1 45 (ix i)) :: rest))) : W p l e R s m args below meth c H locs cells slots Q (F0 m pc ls (.int i :: .ref (ad 45) :: rest)) := va_iald C.1 C.2.1 C.2.2.2.2.2.2.2.1 h.1 21 0 rfl rfl (ib_in hi) hdg kk
theorem ms_45 {i : Int32} {x : Int32} (C : MCx p s m args meth c A RX12 cc nL rt D cs) (h : MH D (MW cs ad g) A s H locs) (hi : ib i 4 = true) (hdg : decode cc pc = .ok (.iastore, 1)) (kk : ∀ (H1 : Heap) (locs1 : List Loc), MH D (MW cs ad (sA g 45 (ix i) x)) A s H1 locs1 → W p l e R s m args below meth c H1 locs1 cells slots Q (F0 m (pc + 1) ls rest)) : W p l e R s m args below meth c H locs cells slots Q (F0 m pc ls (.int x :: .int i :: .ref (ad 45) :: rest)) := by
  obtain ⟨hx, hb, hml, hown, hts, hr, hlocks, hK, hA⟩ := C
  obtain ⟨hP, hD, hS⟩ := h
  exact va_iast hx hb hK hP hD hS 21 0 rfl rfl (ib_in hi) hdg (fun H1 l1 hP hD hS => kk H1 l1 ⟨hP, hD, hS⟩)
theorem ml_46 {i : Int32} (C : MCx p s m args meth c A RX12 cc nL rt D cs) (h : MH D (MW cs ad g) A s H locs) (hi : ib i 4 = true) (hdg : decode cc pc = .ok (.iaload, 1)) (kk : W p l e R s m args below meth c H locs cells slots Q (F0 m (pc + 1) ls (.int (g.2.1 46 (ix i)) :: rest))) : W p l e R s m args below meth c H locs cells slots Q (F0 m pc ls (.int i :: .ref (ad 46) :: rest)) := va_iald C.1 C.2.1 C.2.2.2.2.2.2.2.1 h.1 22 0 rfl rfl (ib_in hi) hdg kk
theorem ms_46 {i : Int32} {x : Int32} (C : MCx p s m args meth c A RX12 cc nL rt D cs) (h : MH D (MW cs ad g) A s H locs) (hi : ib i 4 = true) (hdg : decode cc pc = .ok (.iastore, 1)) (kk : ∀ (H1 : Heap) (locs1 : List Loc), MH D (MW cs ad (sA g 46 (ix i) x)) A s H1 locs1 → W p l e R s m args below meth c H1 locs1 cells slots Q (F0 m (pc + 1) ls rest)) : W p l e R s m args below meth c H locs cells slots Q (F0 m pc ls (.int x :: .int i :: .ref (ad 46) :: rest)) := by
  obtain ⟨hx, hb, hml, hown, hts, hr, hlocks, hK, hA⟩ := C
  obtain ⟨hP, hD, hS⟩ := h
  exact va_iast hx hb hK hP hD hS 22 0 rfl rfl (ib_in hi) hdg (fun H1 l1 hP hD hS => kk H1 l1 ⟨hP, hD, hS⟩)
theorem ml_47 {i : Int32} (C : MCx p s m args meth c A RX12 cc nL rt D cs) (h : MH D (MW cs ad g) A s H locs) (hi : ib i 120 = true) (hdg : decode cc pc = .ok (.laload, 1)) (kk : W p l e R s m args below meth c H locs cells slots Q (F0 m (pc + 1) ls (.long (g.2.2 (ix i)) :: rest))) : W p l e R s m args below meth c H locs cells slots Q (F0 m pc ls (.int i :: .ref (ad 47) :: rest)) := va_lald C.1 C.2.1 C.2.2.2.2.2.2.2.1 h.1 23 2 rfl rfl (ib_in hi) hdg kk
theorem ms_47 {i : Int32} {x : Int64} (C : MCx p s m args meth c A RX12 cc nL rt D cs) (h : MH D (MW cs ad g) A s H locs) (hi : ib i 120 = true) (hdg : decode cc pc = .ok (.lastore, 1)) (kk : ∀ (H1 : Heap) (locs1 : List Loc), MH D (MW cs ad (sL g (ix i) x)) A s H1 locs1 → W p l e R s m args below meth c H1 locs1 cells slots Q (F0 m (pc + 1) ls rest)) : W p l e R s m args below meth c H locs cells slots Q (F0 m pc ls (.long x :: .int i :: .ref (ad 47) :: rest)) := by
  obtain ⟨hx, hb, hml, hown, hts, hr, hlocks, hK, hA⟩ := C
  obtain ⟨hP, hD, hS⟩ := h
  exact va_last hx hb hK hP hD hS 23 2 rfl rfl (ib_in hi) hdg (fun H1 l1 hP hD hS => kk H1 l1 ⟨hP, hD, hS⟩)
end
theorem cs_X12_104 : CalS RX12 104 yX12_isLetter cX12_isLetter 1 (some .boolean) 1 := CalS.of tb_20_21 tb_20_22 tb_1_5 tb_20_23 (by decide +kernel)
theorem cv_X12_108 : CalV RX12 108 yX12_see cX12_see 2 (some .int) 1 := CalV.of tb_21_0 tb_21_1 tb_21_2 tb_1_5 tb_21_3 (by decide +kernel)
theorem cs_X12_112 : CalS RX12 112 yX12_isDigit cX12_isDigit 1 (some .boolean) 1 := CalS.of tb_21_4 tb_21_5 tb_1_5 tb_21_6 (by decide +kernel)
theorem cs_X12_118 : CalS RX12 118 yX12_isSignByte cX12_isSignByte 2 (some .boolean) 1 := CalS.of tb_21_7 tb_21_8 tb_1_5 tb_21_9 (by decide +kernel)
theorem cv_X12_136 : CalV RX12 136 yX12_isWord cX12_isWord 4 (some .boolean) 1 := CalV.of tb_21_18 tb_21_19 tb_21_20 tb_1_5 tb_21_21 (by decide +kernel)
theorem cv_X12_140 : CalV RX12 140 yX12_readsOn cX12_readsOn 2 none 0 := CalV.of tb_20_15 tb_20_16 tb_20_17 tb_1_5 tb_20_18 (by decide +kernel)
theorem cv_X12_143 : CalV RX12 143 yX12_blames cX12_blames 2 none 1 := CalV.of tb_22_0 tb_22_1 tb_22_2 tb_1_5 tb_22_3 (by decide +kernel)
theorem cs_X12_147 : CalS RX12 147 yX12_within cX12_within 6 (some .boolean) 3 := CalS.of tb_20_8 tb_20_9 tb_1_5 tb_20_10 (by decide +kernel)
theorem cv_X12_151 : CalV RX12 151 yX12_took cX12_took 3 (some .boolean) 1 := CalV.of tb_21_14 tb_21_15 tb_21_16 tb_1_5 tb_21_17 (by decide +kernel)
theorem cv_X12_160 : CalV RX12 160 yX12_mustSign cX12_mustSign 2 none 1 := CalV.of tb_22_12 tb_22_13 tb_22_14 tb_1_5 tb_22_15 (by decide +kernel)
theorem cv_X12_166 : CalV RX12 166 yX12_readBoth cX12_readBoth 1 none 0 := CalV.of tb_23_10 tb_23_11 tb_23_12 tb_1_5 tb_23_17 (by decide +kernel)
theorem cv_X12_171 : CalV RX12 171 yX12_laysStep cX12_laysStep 2 none 1 := CalV.of tb_23_13 tb_23_14 tb_23_15 tb_1_5 tb_23_16 (by decide +kernel)
theorem cv_X12_174 : CalV RX12 174 yX12_readUnit cX12_readUnit 2 none 0 := CalV.of tb_23_18 tb_23_19 tb_23_20 tb_1_5 tb_23_21 (by decide +kernel)
theorem cv_X12_181 : CalV RX12 181 yX12_goesIn cX12_goesIn 1 none 0 := CalV.of tb_23_22 tb_23_23 tb_24_0 tb_1_5 tb_24_1 (by decide +kernel)
theorem cv_X12_184 : CalV RX12 184 yX12_isSign cX12_isSign 2 (some .boolean) 1 := CalV.of tb_24_2 tb_24_3 tb_24_4 tb_1_5 tb_24_5 (by decide +kernel)
theorem cv_X12_187 : CalV RX12 187 yX12_readTruth cX12_readTruth 1 none 0 := CalV.of tb_23_6 tb_23_7 tb_23_8 tb_1_5 tb_23_9 (by decide +kernel)
theorem cv_X12_190 : CalV RX12 190 yX12_readSum cX12_readSum 2 none 0 := CalV.of tb_24_6 tb_24_7 tb_24_8 tb_1_5 tb_24_9 (by decide +kernel)
theorem cv_X12_193 : CalV RX12 193 yX12_readTerm cX12_readTerm 1 none 0 := CalV.of tb_24_10 tb_24_11 tb_24_12 tb_1_5 tb_24_18 (by decide +kernel)
theorem cv_X12_196 : CalV RX12 196 yX12_readAtom cX12_readAtom 3 none 0 := CalV.of tb_24_19 tb_24_20 tb_24_21 tb_1_5 tb_24_13 (by decide +kernel)
theorem cv_X12_210 : CalV RX12 210 yX12_lawWord cX12_lawWord 1 (some .int) 0 := CalV.of tb_24_14 tb_24_15 tb_24_16 tb_1_5 tb_24_17 (by decide +kernel)
theorem cv_X12_213 : CalV RX12 213 yX12_number cX12_number 4 (some .int) 2 := CalV.of tb_22_4 tb_22_5 tb_22_6 tb_1_5 tb_22_7 (by decide +kernel)
theorem cv_X12_223 : CalV RX12 223 yX12_readMember cX12_readMember 3 none 0 := CalV.of tb_22_20 tb_22_21 tb_22_22 tb_1_5 tb_22_23 (by decide +kernel)
theorem cv_X12_228 : CalV RX12 228 yX12_beginsLaw cX12_beginsLaw 3 none 2 := CalV.of tb_23_0 tb_23_1 tb_23_2 tb_1_5 tb_23_3 (by decide +kernel)
theorem cv_X12_236 : CalV RX12 236 yX12_readStop cX12_readStop 1 none 0 := CalV.of tb_22_8 tb_22_9 tb_22_10 tb_1_5 tb_22_11 (by decide +kernel)
theorem cv_X12_239 : CalV RX12 239 yX12_fails cX12_fails 2 (some .int) 1 := CalV.of tb_20_11 tb_20_12 tb_20_13 tb_1_5 tb_20_14 (by decide +kernel)
theorem cv_X12_244 : CalV RX12 244 yX12_mustWord cX12_mustWord 2 none 1 := CalV.of tb_21_10 tb_21_11 tb_21_12 tb_1_5 tb_21_13 (by decide +kernel)
theorem cv_X12_248 : CalV RX12 248 yX12_readLine cX12_readLine 1 none 0 := CalV.of tb_22_16 tb_22_17 tb_22_18 tb_1_5 tb_22_19 (by decide +kernel)
theorem cv_X12_254 : CalV RX12 254 yX12_size cX12_size 1 (some .int) 0 := CalV.of tb_28_17 tb_28_18 tb_28_19 tb_1_5 tb_28_20 (by decide +kernel)
theorem cs_X12_257 : CalS RX12 257 yX12_has cX12_has 2 (some .boolean) 2 := CalS.of tb_29_13 tb_29_14 tb_1_5 tb_29_15 (by decide +kernel)
theorem cs_X12_274 : CalS RX12 274 yX12_bound cX12_bound 2 (some .int) 1 := CalS.of tb_30_9 tb_30_10 tb_1_5 tb_30_11 (by decide +kernel)
theorem cs_X12_278 : CalS RX12 278 yX12_done cX12_done 5 (some .int) 3 := CalS.of tb_30_6 tb_30_7 tb_1_5 tb_30_8 (by decide +kernel)
theorem cv_X12_287 : CalV RX12 287 yX12_isStuck cX12_isStuck 2 (some .boolean) 1 := CalV.of tb_29_9 tb_29_10 tb_29_11 tb_1_5 tb_29_12 (by decide +kernel)
theorem cv_X12_290 : CalV RX12 290 yX12_apart cX12_apart 4 (some .int) 2 := CalV.of tb_33_0 tb_33_1 tb_33_2 tb_1_5 tb_33_3 (by decide +kernel)
theorem cv_X12_292 : CalV RX12 292 yX12_asks cX12_asks 4 none 3 := CalV.of tb_29_22 tb_29_23 tb_30_0 tb_1_5 tb_30_1 (by decide +kernel)
theorem cv_X12_296 : CalV RX12 296 yX12_lawOf cX12_lawOf 6 (some .int) 2 := CalV.of tb_30_2 tb_30_3 tb_30_4 tb_1_5 tb_30_5 (by decide +kernel)
theorem cv_X12_299 : CalV RX12 299 yX12_goesAlong cX12_goesAlong 3 (some .boolean) 2 := CalV.of tb_32_20 tb_32_21 tb_32_22 tb_1_5 tb_32_23 (by decide +kernel)
theorem cv_X12_304 : CalV RX12 304 yX12_faced cX12_faced 2 (some .int) 1 := CalV.of tb_29_5 tb_29_6 tb_29_7 tb_1_5 tb_29_8 (by decide +kernel)
theorem cv_X12_307 : CalV RX12 307 yX12_laysVotes cX12_laysVotes 2 none 0 := CalV.of tb_29_1 tb_29_2 tb_29_3 tb_1_5 tb_29_4 (by decide +kernel)
theorem cv_X12_310 : CalV RX12 310 yX12_aimsNow cX12_aimsNow 2 none 0 := CalV.of tb_28_21 tb_28_22 tb_28_23 tb_1_5 tb_29_0 (by decide +kernel)
theorem cv_X12_313 : CalV RX12 313 yX12_chairBy cX12_chairBy 3 (some .int) 0 := CalV.of tb_31_13 tb_31_14 tb_31_15 tb_1_5 tb_31_16 (by decide +kernel)
theorem cv_X12_316 : CalV RX12 316 yX12_goesBy cX12_goesBy 3 (some .int) 1 := CalV.of tb_34_0 tb_34_1 tb_34_2 tb_1_5 tb_34_3 (by decide +kernel)
theorem cv_X12_319 : CalV RX12 319 yX12_isMember cX12_isMember 3 (some .boolean) 1 := CalV.of tb_28_13 tb_28_14 tb_28_15 tb_1_5 tb_28_16 (by decide +kernel)
theorem cv_X12_325 : CalV RX12 325 yX12_notchCosts cX12_notchCosts 2 (some .int) 1 := CalV.of tb_29_16 tb_29_17 tb_29_18 tb_1_5 tb_29_19 (by decide +kernel)
theorem cv_X12_328 : CalV RX12 328 yX12_chairNow cX12_chairNow 1 (some .int) 0 := CalV.of tb_31_9 tb_31_10 tb_31_11 tb_1_5 tb_31_12 (by decide +kernel)
theorem cv_X12_331 : CalV RX12 331 yX12_draggedBy cX12_draggedBy 4 (some .int) 1 := CalV.of tb_32_16 tb_32_17 tb_32_18 tb_1_5 tb_32_19 (by decide +kernel)
theorem cv_X12_334 : CalV RX12 334 yX12_minute cX12_minute 2 none 0 := CalV.of tb_37_17 tb_37_18 tb_37_19 tb_1_5 tb_37_20 (by decide +kernel)
theorem cv_X12_337 : CalV RX12 337 yX12_whyTurn cX12_whyTurn 5 (some .int) 2 := CalV.of tb_35_4 tb_35_5 tb_35_6 tb_1_5 tb_35_7 (by decide +kernel)
theorem cv_X12_341 : CalV RX12 341 yX12_keeps cX12_keeps 2 none 0 := CalV.of tb_35_8 tb_35_9 tb_35_10 tb_1_5 tb_35_11 (by decide +kernel)
theorem cv_X12_344 : CalV RX12 344 yX12_turnsBy cX12_turnsBy 5 none 2 := CalV.of tb_35_12 tb_35_13 tb_35_14 tb_1_5 tb_35_15 (by decide +kernel)
theorem cv_X12_351 : CalV RX12 351 yX12_minuteNow cX12_minuteNow 2 none 0 := CalV.of tb_37_13 tb_37_14 tb_37_15 tb_1_5 tb_37_16 (by decide +kernel)
theorem cs_X12_356 : CalS RX12 356 yX12_isTray cX12_isTray 1 (some .boolean) 1 := CalS.of tb_40_10 tb_40_11 tb_1_5 tb_40_12 (by decide +kernel)
theorem cv_X12_369 : CalV RX12 369 yX12_trayFault cX12_trayFault 2 (some .int) 1 := CalV.of tb_40_6 tb_40_7 tb_40_8 tb_1_5 tb_40_9 (by decide +kernel)
theorem cv_X12_374 : CalV RX12 374 yX12_putsAside cX12_putsAside 2 none 0 := CalV.of tb_40_13 tb_40_14 tb_40_15 tb_1_5 tb_40_16 (by decide +kernel)
theorem cv_X12_377 : CalV RX12 377 yX12_whyTold cX12_whyTold 3 (some .int) 1 := CalV.of tb_40_17 tb_40_18 tb_40_19 tb_1_5 tb_40_20 (by decide +kernel)
theorem cv_X12_380 : CalV RX12 380 yX12_does cX12_does 2 none 1 := CalV.of tb_41_2 tb_41_3 tb_41_4 tb_1_5 tb_41_5 (by decide +kernel)
theorem cv_X12_383 : CalV RX12 383 yX12_putsBack cX12_putsBack 2 none 0 := CalV.of tb_41_6 tb_41_7 tb_41_8 tb_1_5 tb_41_9 (by decide +kernel)
theorem cv_X12_392 : CalV RX12 392 yX12_draw cX12_draw 2 (some .int) 1 := CalV.of tb_42_19 tb_42_20 tb_42_21 tb_1_5 tb_42_22 (by decide +kernel)
theorem cv_X12_395 : CalV RX12 395 yX12_drawn cX12_drawn 3 (some .int) 2 := CalV.of tb_43_0 tb_43_1 tb_43_2 tb_1_5 tb_43_3 (by decide +kernel)
theorem cv_X12_398 : CalV RX12 398 yX12_costOf cX12_costOf 3 (some .int) 0 := CalV.of tb_48_10 tb_48_11 tb_48_12 tb_1_5 tb_48_13 (by decide +kernel)
theorem cv_X12_404 : CalV RX12 404 yX12_sees cX12_sees 1 none 0 := CalV.of tb_47_17 tb_47_18 tb_47_19 tb_1_5 tb_47_20 (by decide +kernel)
theorem cv_X12_407 : CalV RX12 407 yX12_goesRows cX12_goesRows 4 none 1 := CalV.of tb_47_13 tb_47_14 tb_47_15 tb_1_5 tb_47_16 (by decide +kernel)
theorem cv_X12_423 : CalV RX12 423 yX12_laysAlong cX12_laysAlong 2 none 0 := CalV.of tb_47_9 tb_47_10 tb_47_11 tb_1_5 tb_47_12 (by decide +kernel)
theorem cv_X12_426 : CalV RX12 426 yX12_aimsBehind cX12_aimsBehind 3 none 0 := CalV.of tb_47_22 tb_47_23 tb_48_0 tb_1_5 tb_48_1 (by decide +kernel)
theorem cv_X12_432 : CalV RX12 432 yX12_looksSo cX12_looksSo 3 (some .boolean) 1 := CalV.of tb_48_2 tb_48_3 tb_48_4 tb_1_5 tb_48_5 (by decide +kernel)
theorem cv_X12_435 : CalV RX12 435 yX12_seesOne cX12_seesOne 1 none 0 := CalV.of tb_48_6 tb_48_7 tb_48_8 tb_1_5 tb_48_9 (by decide +kernel)
theorem cv_X12_441 : CalV RX12 441 yX12_seesKnees cX12_seesKnees 2 none 0 := CalV.of tb_48_18 tb_48_19 tb_48_20 tb_1_5 tb_48_21 (by decide +kernel)
theorem cv_X12_444 : CalV RX12 444 yX12_seesLook cX12_seesLook 3 none 0 := CalV.of tb_49_2 tb_49_3 tb_49_4 tb_1_5 tb_49_5 (by decide +kernel)
theorem cv_X12_447 : CalV RX12 447 yX12_isAsNow cX12_isAsNow 2 (some .boolean) 0 := CalV.of tb_49_10 tb_49_11 tb_49_12 tb_1_5 tb_49_13 (by decide +kernel)
theorem cv_X12_451 : CalV RX12 451 yX12_seesHelp cX12_seesHelp 3 none 0 := CalV.of tb_49_14 tb_49_15 tb_49_16 tb_1_5 tb_49_17 (by decide +kernel)
theorem cv_X12_454 : CalV RX12 454 yX12_keepsRow cX12_keepsRow 2 none 0 := CalV.of tb_48_14 tb_48_15 tb_48_16 tb_1_5 tb_48_17 (by decide +kernel)
theorem cv_X12_457 : CalV RX12 457 yX12_kneesBy cX12_kneesBy 4 (some .int) 0 := CalV.of tb_48_22 tb_48_23 tb_49_0 tb_1_5 tb_49_1 (by decide +kernel)
theorem cv_X12_460 : CalV RX12 460 yX12_lookCode cX12_lookCode 3 (some .int) 0 := CalV.of tb_49_6 tb_49_7 tb_49_8 tb_1_5 tb_49_9 (by decide +kernel)
theorem cs_X12_463 : CalS RX12 463 yX12_bits cX12_bits 3 (some .int) 1 := CalS.of tb_49_18 tb_49_19 tb_1_5 tb_49_20 (by decide +kernel)
theorem cv_X12_468 : CalV RX12 468 yX12_lookFault cX12_lookFault 5 (some .int) 1 := CalV.of tb_46_15 tb_46_16 tb_46_17 tb_1_5 tb_46_18 (by decide +kernel)
theorem cs_X12_471 : CalS RX12 471 yX12_isWhat cX12_isWhat 1 (some .boolean) 1 := CalS.of tb_46_19 tb_46_20 tb_1_5 tb_46_21 (by decide +kernel)
theorem cv_X12_474 : CalV RX12 474 yX12_asksRows cX12_asksRows 2 none 1 := CalV.of tb_46_23 tb_47_0 tb_47_1 tb_1_5 tb_47_2 (by decide +kernel)
theorem cv_X12_477 : CalV RX12 477 yX12_toldRow cX12_toldRow 2 (some .int) 1 := CalV.of tb_49_21 tb_49_22 tb_49_23 tb_1_5 tb_50_0 (by decide +kernel)
theorem cv_X12_480 : CalV RX12 480 yX12_laysLooks cX12_laysLooks 2 none 0 := CalV.of tb_52_18 tb_52_19 tb_52_20 tb_1_5 tb_52_21 (by decide +kernel)
theorem cv_X12_483 : CalV RX12 483 yX12_aimsBehindOne cX12_aimsBehindOne 4 none 2 := CalV.of tb_55_8 tb_55_9 tb_55_10 tb_1_5 tb_55_11 (by decide +kernel)
theorem cv_X12_492 : CalV RX12 492 yX12_laysRound cX12_laysRound 2 none 0 := CalV.of tb_59_12 tb_59_13 tb_59_14 tb_1_5 tb_59_15 (by decide +kernel)
theorem cs_X12_497 : CalS RX12 497 yX12_isFar cX12_isFar 1 (some .boolean) 1 := CalS.of tb_60_13 tb_60_14 tb_1_5 tb_60_15 (by decide +kernel)
theorem cv_X12_500 : CalV RX12 500 yX12_aimsIn cX12_aimsIn 4 none 1 := CalV.of tb_60_17 tb_60_18 tb_60_19 tb_1_5 tb_60_20 (by decide +kernel)
theorem cv_X12_508 : CalV RX12 508 yX12_laysSeen cX12_laysSeen 4 none 1 := CalV.of tb_63_8 tb_63_9 tb_63_10 tb_1_5 tb_63_11 (by decide +kernel)
theorem cv_X12_511 : CalV RX12 511 yX12_mostAlike cX12_mostAlike 6 (some .int) 1 := CalV.of tb_64_17 tb_64_18 tb_64_19 tb_1_5 tb_64_20 (by decide +kernel)
theorem cv_X12_514 : CalV RX12 514 yX12_loose cX12_loose 3 (some .int) 0 := CalV.of tb_66_11 tb_66_12 tb_66_13 tb_1_5 tb_66_14 (by decide +kernel)
theorem cv_X12_517 : CalV RX12 517 yX12_goesChance cX12_goesChance 3 none 1 := CalV.of tb_66_7 tb_66_8 tb_66_9 tb_1_5 tb_66_10 (by decide +kernel)
theorem cv_X12_522 : CalV RX12 522 yX12_laysChance cX12_laysChance 3 none 1 := CalV.of tb_66_3 tb_66_4 tb_66_5 tb_1_5 tb_66_6 (by decide +kernel)
theorem cs_X12_525 : CalS RX12 525 yX12_common cX12_common 5 (some .int) 2 := CalS.of tb_66_15 tb_66_16 tb_1_5 tb_66_17 (by decide +kernel)
theorem cv_X12_528 : CalV RX12 528 yX12_cut cX12_cut 6 (some .long) 3 := CalV.of tb_68_22 tb_68_23 tb_69_0 tb_1_5 tb_69_1 (by decide +kernel)
theorem cv_X12_534 : CalV RX12 534 yX12_outs cX12_outs 3 (some .int) 0 := CalV.of tb_71_11 tb_71_12 tb_71_13 tb_1_5 tb_71_14 (by decide +kernel)
theorem cv_X12_537 : CalV RX12 537 yX12_weights cX12_weights 3 (some .int) 0 := CalV.of tb_71_15 tb_71_16 tb_71_17 tb_1_5 tb_71_18 (by decide +kernel)
