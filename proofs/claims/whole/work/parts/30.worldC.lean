theorem tb_28_4 : Cond.constantLong RX4 33 (1000000) ∈ bT := List.mem_append_left _ (in_r28 _ (List.mem_of_getElem? (i := 4) rfl))
theorem tb_28_6 : Cond.constantLong RX4 36 (-1000000) ∈ bT := List.mem_append_left _ (in_r28 _ (List.mem_of_getElem? (i := 6) rfl))
theorem tb_28_7 : Cond.constant RX4 38 (-1000000) ∈ bT := List.mem_append_left _ (in_r28 _ (List.mem_of_getElem? (i := 7) rfl))
theorem tb_28_5 : Cond.constant RX4 35 (1000000) ∈ bT := List.mem_append_left _ (in_r28 _ (List.mem_of_getElem? (i := 5) rfl))
theorem tb_27_13 : Cond.fieldLink RX4 13 "SwivelBoard$Reckoner" "top" "I" ∈ bT := List.mem_append_left _ (in_r27 _ (List.mem_of_getElem? (i := 13) rfl))
theorem tb_4_8 : Cond.fieldLink RX4 9 "SwivelBoard$Reckoner" "stack" "[I" ∈ bT := List.mem_append_left _ (in_r4 _ (List.mem_of_getElem? (i := 8) rfl))
theorem tb_4_18 : Cond.fieldLink RX6 35 "SwivelBoard$State" "goLaw" "[I" ∈ bT := List.mem_append_left _ (in_r4 _ (List.mem_of_getElem? (i := 18) rfl))
theorem tb_4_14 : Cond.fieldLink RX6 15 "SwivelBoard$State" "members" "I" ∈ bT := List.mem_append_left _ (in_r4 _ (List.mem_of_getElem? (i := 14) rfl))
theorem tb_4_13 : Cond.fieldLink RX6 9 "SwivelBoard$State" "reckoner" "LSwivelBoard$Reckoner;" ∈ bT := List.mem_append_left _ (in_r4 _ (List.mem_of_getElem? (i := 13) rfl))
theorem tb_4_15 : Cond.fieldLink RX6 25 "SwivelBoard$State" "weights" "I" ∈ bT := List.mem_append_left _ (in_r4 _ (List.mem_of_getElem? (i := 15) rfl))
theorem tb_33_16 : Cond.methodLink RX6 111 yJ9_floorMod_7cf53 ∈ bT := List.mem_append_left _ (in_r33 _ (List.mem_of_getElem? (i := 16) rfl))
theorem tb_6_21 : Cond.fieldLink RX0 19 "SwivelBoard$Course" "paces" "[B" ∈ bT := List.mem_append_left _ (in_r6 _ (List.mem_of_getElem? (i := 21) rfl))
theorem tb_6_19 : Cond.fieldLink RX0 9 "SwivelBoard$Course" "live" "LSwivelBoard$State;" ∈ bT := List.mem_append_left _ (in_r6 _ (List.mem_of_getElem? (i := 19) rfl))
theorem tb_34_22 : Cond.constant RX1 11 (1118481) ∈ bT := List.mem_append_left _ (in_r34 _ (List.mem_of_getElem? (i := 22) rfl))
theorem tb_34_23 : Cond.constant RX1 12 (8947848) ∈ bT := List.mem_append_left _ (in_r34 _ (List.mem_of_getElem? (i := 23) rfl))
theorem tb_19_15 : Cond.fieldLink RX6 57 "SwivelBoard$State" "stuck" "I" ∈ bT := List.mem_append_left _ (in_r19 _ (List.mem_of_getElem? (i := 15) rfl))
theorem tb_58_19 : Cond.fieldLink RX0 58 "SwivelBoard$State" "members" "I" ∈ bT := List.mem_append_left _ (in_r58 _ (List.mem_of_getElem? (i := 19) rfl))
theorem tb_58_10 : Cond.constant RX0 44 (200000) ∈ bT := List.mem_append_left _ (in_r58 _ (List.mem_of_getElem? (i := 10) rfl))
theorem tb_58_11 : Cond.fieldLink RX0 45 "SwivelBoard$Course" "tail" "I" ∈ bT := List.mem_append_left _ (in_r58 _ (List.mem_of_getElem? (i := 11) rfl))
theorem tb_58_9 : Cond.fieldLink RX0 41 "SwivelBoard$Course" "round" "I" ∈ bT := List.mem_append_left _ (in_r58 _ (List.mem_of_getElem? (i := 9) rfl))
theorem tb_58_8 : Cond.fieldLink RX0 34 "SwivelBoard$State" "aims" "I" ∈ bT := List.mem_append_left _ (in_r58 _ (List.mem_of_getElem? (i := 8) rfl))
theorem tb_6_20 : Cond.fieldLink RX0 15 "SwivelBoard$Course" "settledAt" "I" ∈ bT := List.mem_append_left _ (in_r6 _ (List.mem_of_getElem? (i := 20) rfl))
theorem tb_58_7 : Cond.fieldLink RX0 23 "SwivelBoard$State" "stamp" "I" ∈ bT := List.mem_append_left _ (in_r58 _ (List.mem_of_getElem? (i := 7) rfl))
theorem tb_15_22 : Cond.fieldLink RX2 41 "SwivelBoard$LawWriter" "unitStart" "Z" ∈ bT := List.mem_append_left _ (in_r15 _ (List.mem_of_getElem? (i := 22) rfl))
theorem tb_15_23 : Cond.fieldLink RX2 44 "SwivelBoard$LawWriter" "side" "I" ∈ bT := List.mem_append_left _ (in_r15 _ (List.mem_of_getElem? (i := 23) rfl))
theorem tb_15_16 : Cond.fieldLink RX2 21 "SwivelBoard$LawWriter" "law" "I" ∈ bT := List.mem_append_left _ (in_r15 _ (List.mem_of_getElem? (i := 16) rfl))
theorem tb_15_17 : Cond.fieldLink RX2 25 "SwivelBoard$LawWriter" "length" "I" ∈ bT := List.mem_append_left _ (in_r15 _ (List.mem_of_getElem? (i := 17) rfl))
theorem tb_15_18 : Cond.fieldLink RX2 28 "SwivelBoard$LawWriter" "top" "I" ∈ bT := List.mem_append_left _ (in_r15 _ (List.mem_of_getElem? (i := 18) rfl))
theorem tb_15_19 : Cond.fieldLink RX2 31 "SwivelBoard$LawWriter" "within" "I" ∈ bT := List.mem_append_left _ (in_r15 _ (List.mem_of_getElem? (i := 19) rfl))
theorem tb_15_20 : Cond.fieldLink RX2 34 "SwivelBoard$LawWriter" "brackets" "I" ∈ bT := List.mem_append_left _ (in_r15 _ (List.mem_of_getElem? (i := 20) rfl))
theorem tb_15_21 : Cond.fieldLink RX2 37 "SwivelBoard$LawWriter" "wanted" "Z" ∈ bT := List.mem_append_left _ (in_r15 _ (List.mem_of_getElem? (i := 21) rfl))
theorem tb_4_2 : Cond.fieldLink RX2 9 "SwivelBoard$LawWriter" "code" "[I" ∈ bT := List.mem_append_left _ (in_r4 _ (List.mem_of_getElem? (i := 2) rfl))
theorem tb_10_4 : Cond.fieldLink RX8 21 "SwivelBoard$Tokens" "length" "I" ∈ bT := List.mem_append_left _ (in_r10 _ (List.mem_of_getElem? (i := 4) rfl))
theorem tb_3_22 : Cond.fieldLink RX8 9 "SwivelBoard$Tokens" "text" "[B" ∈ bT := List.mem_append_left _ (in_r3 _ (List.mem_of_getElem? (i := 22) rfl))
theorem tb_10_10 : Cond.fieldLink RX8 39 "SwivelBoard$Tokens" "start" "I" ∈ bT := List.mem_append_left _ (in_r10 _ (List.mem_of_getElem? (i := 10) rfl))
theorem tb_10_12 : Cond.fieldLink RX8 45 "SwivelBoard$Tokens" "kind" "I" ∈ bT := List.mem_append_left _ (in_r10 _ (List.mem_of_getElem? (i := 12) rfl))
theorem tb_10_5 : Cond.fieldLink RX8 25 "SwivelBoard$Tokens" "next" "I" ∈ bT := List.mem_append_left _ (in_r10 _ (List.mem_of_getElem? (i := 5) rfl))
theorem tb_4_3 : Cond.fieldLink RX2 15 "SwivelBoard$LawWriter" "waiting" "[I" ∈ bT := List.mem_append_left _ (in_r4 _ (List.mem_of_getElem? (i := 3) rfl))
theorem tb_4_4 : Cond.fieldLink RX2 18 "SwivelBoard$LawWriter" "sides" "[I" ∈ bT := List.mem_append_left _ (in_r4 _ (List.mem_of_getElem? (i := 4) rfl))
theorem tb_10_11 : Cond.fieldLink RX8 42 "SwivelBoard$Tokens" "value" "I" ∈ bT := List.mem_append_left _ (in_r10 _ (List.mem_of_getElem? (i := 11) rfl))
theorem tb_16_13 : Cond.fieldLink RX2 66 "SwivelBoard$Tokens" "value" "I" ∈ bT := List.mem_append_left _ (in_r16 _ (List.mem_of_getElem? (i := 13) rfl))
theorem tb_16_12 : Cond.fieldLink RX2 61 "SwivelBoard$Tokens" "kind" "I" ∈ bT := List.mem_append_left _ (in_r16 _ (List.mem_of_getElem? (i := 12) rfl))
theorem tb_9_14 : Cond.fieldLink RX3 40 "SwivelBoard$Parser" "fault" "I" ∈ bT := List.mem_append_left _ (in_r9 _ (List.mem_of_getElem? (i := 14) rfl))
theorem tb_3_8 : Cond.fieldLink RX3 14 "SwivelBoard$Parser" "tokens" "LSwivelBoard$Tokens;" ∈ bT := List.mem_append_left _ (in_r3 _ (List.mem_of_getElem? (i := 8) rfl))
theorem tb_13_20 : Cond.fieldLink RX3 158 "SwivelBoard$Tokens" "start" "I" ∈ bT := List.mem_append_left _ (in_r13 _ (List.mem_of_getElem? (i := 20) rfl))
theorem tb_9_15 : Cond.fieldLink RX3 44 "SwivelBoard$Parser" "place" "I" ∈ bT := List.mem_append_left _ (in_r9 _ (List.mem_of_getElem? (i := 15) rfl))
theorem tb_9_19 : Cond.fieldLink RX3 63 "SwivelBoard$Tokens" "kind" "I" ∈ bT := List.mem_append_left _ (in_r9 _ (List.mem_of_getElem? (i := 19) rfl))
theorem tb_10_0 : Cond.methodLink RX8 15 Lib.Math.min.name ∈ bT := List.mem_append_left _ (in_r10 _ (List.mem_of_getElem? (i := 0) rfl))
theorem tb_9_16 : Cond.fieldLink RX3 47 "SwivelBoard$Parser" "lines" "I" ∈ bT := List.mem_append_left _ (in_r9 _ (List.mem_of_getElem? (i := 16) rfl))
theorem tb_14_2 : Cond.fieldLink RX3 155 "SwivelBoard$Tokens" "value" "I" ∈ bT := List.mem_append_left _ (in_r14 _ (List.mem_of_getElem? (i := 2) rfl))
theorem tb_11_9 : Cond.fieldLink RX3 85 "SwivelBoard$Parser" "members" "I" ∈ bT := List.mem_append_left _ (in_r11 _ (List.mem_of_getElem? (i := 9) rfl))
theorem tb_11_10 : Cond.fieldLink RX3 94 "SwivelBoard$Parser" "weights" "I" ∈ bT := List.mem_append_left _ (in_r11 _ (List.mem_of_getElem? (i := 10) rfl))
theorem tb_9_18 : Cond.fieldLink RX3 53 "SwivelBoard$Parser" "stuck" "I" ∈ bT := List.mem_append_left _ (in_r9 _ (List.mem_of_getElem? (i := 18) rfl))
theorem tb_9_17 : Cond.fieldLink RX3 50 "SwivelBoard$Parser" "aims" "I" ∈ bT := List.mem_append_left _ (in_r9 _ (List.mem_of_getElem? (i := 17) rfl))
theorem tb_3_12 : Cond.fieldLink RX3 23 "SwivelBoard$Parser" "writer" "LSwivelBoard$LawWriter;" ∈ bT := List.mem_append_left _ (in_r3 _ (List.mem_of_getElem? (i := 12) rfl))
theorem tb_32_9 : Cond.methodLink RX6 101 Lib.Math.abs.name ∈ bT := List.mem_append_left _ (in_r32 _ (List.mem_of_getElem? (i := 9) rfl))
theorem tb_27_5 : Cond.methodLink RX6 93 Lib.Math.min.name ∈ bT := List.mem_append_left _ (in_r27 _ (List.mem_of_getElem? (i := 5) rfl))
theorem tb_4_16 : Cond.fieldLink RX6 28 "SwivelBoard$State" "dragLaw" "[I" ∈ bT := List.mem_append_left _ (in_r4 _ (List.mem_of_getElem? (i := 16) rfl))
theorem tb_4_17 : Cond.fieldLink RX6 32 "SwivelBoard$State" "costLaw" "[I" ∈ bT := List.mem_append_left _ (in_r4 _ (List.mem_of_getElem? (i := 17) rfl))
theorem tb_27_6 : Cond.methodLink RX6 98 Lib.Math.max.name ∈ bT := List.mem_append_left _ (in_r27 _ (List.mem_of_getElem? (i := 6) rfl))
theorem tb_5_14 : Cond.fieldLink RX10 24 "SwivelBoard$Turns" "live" "LSwivelBoard$State;" ∈ bT := List.mem_append_left _ (in_r5 _ (List.mem_of_getElem? (i := 14) rfl))
theorem tb_45_8 : Cond.fieldLink RX10 35 "SwivelBoard$State" "members" "I" ∈ bT := List.mem_append_left _ (in_r45 _ (List.mem_of_getElem? (i := 8) rfl))
theorem tb_45_21 : Cond.fieldLink RX10 72 "SwivelBoard$State" "stamp" "I" ∈ bT := List.mem_append_left _ (in_r45 _ (List.mem_of_getElem? (i := 21) rfl))
theorem tb_5_15 : Cond.fieldLink RX10 28 "SwivelBoard$Turns" "stamp" "I" ∈ bT := List.mem_append_left _ (in_r5 _ (List.mem_of_getElem? (i := 15) rfl))
theorem tb_5_10 : Cond.fieldLink RX10 9 "SwivelBoard$Turns" "dragged" "[I" ∈ bT := List.mem_append_left _ (in_r5 _ (List.mem_of_getElem? (i := 10) rfl))
theorem tb_5_11 : Cond.fieldLink RX10 15 "SwivelBoard$Turns" "price" "[I" ∈ bT := List.mem_append_left _ (in_r5 _ (List.mem_of_getElem? (i := 11) rfl))
theorem tb_45_9 : Cond.fieldLink RX10 40 "SwivelBoard$Turns" "members" "I" ∈ bT := List.mem_append_left _ (in_r45 _ (List.mem_of_getElem? (i := 9) rfl))
theorem tb_45_12 : Cond.fieldLink RX10 53 "SwivelBoard$State" "aims" "I" ∈ bT := List.mem_append_left _ (in_r45 _ (List.mem_of_getElem? (i := 12) rfl))
theorem tb_45_13 : Cond.fieldLink RX10 56 "SwivelBoard$Turns" "look" "I" ∈ bT := List.mem_append_left _ (in_r45 _ (List.mem_of_getElem? (i := 13) rfl))
theorem tb_45_14 : Cond.fieldLink RX10 59 "SwivelBoard$Turns" "cost" "I" ∈ bT := List.mem_append_left _ (in_r45 _ (List.mem_of_getElem? (i := 14) rfl))
theorem tb_45_15 : Cond.fieldLink RX10 62 "SwivelBoard$Turns" "notches" "I" ∈ bT := List.mem_append_left _ (in_r45 _ (List.mem_of_getElem? (i := 15) rfl))
theorem tb_45_16 : Cond.fieldLink RX10 65 "SwivelBoard$Turns" "movers" "I" ∈ bT := List.mem_append_left _ (in_r45 _ (List.mem_of_getElem? (i := 16) rfl))
theorem tb_5_12 : Cond.fieldLink RX10 18 "SwivelBoard$Turns" "free" "[I" ∈ bT := List.mem_append_left _ (in_r5 _ (List.mem_of_getElem? (i := 12) rfl))
theorem tb_45_10 : Cond.fieldLink RX10 41 "SwivelBoard$Turns" "freeMany" "I" ∈ bT := List.mem_append_left _ (in_r45 _ (List.mem_of_getElem? (i := 10) rfl))
theorem tb_5_13 : Cond.fieldLink RX10 21 "SwivelBoard$Turns" "pull" "[I" ∈ bT := List.mem_append_left _ (in_r5 _ (List.mem_of_getElem? (i := 13) rfl))
theorem tb_45_11 : Cond.fieldLink RX10 44 "SwivelBoard$Turns" "many" "I" ∈ bT := List.mem_append_left _ (in_r45 _ (List.mem_of_getElem? (i := 11) rfl))
theorem tb_6_9 : Cond.fieldLink RX5 9 "SwivelBoard$Sights" "live" "LSwivelBoard$State;" ∈ bT := List.mem_append_left _ (in_r6 _ (List.mem_of_getElem? (i := 9) rfl))
theorem tb_54_17 : Cond.fieldLink RX5 53 "SwivelBoard$State" "members" "I" ∈ bT := List.mem_append_left _ (in_r54 _ (List.mem_of_getElem? (i := 17) rfl))
theorem tb_6_10 : Cond.fieldLink RX5 15 "SwivelBoard$Sights" "turns" "LSwivelBoard$Turns;" ∈ bT := List.mem_append_left _ (in_r6 _ (List.mem_of_getElem? (i := 10) rfl))
theorem tb_54_13 : Cond.fieldLink RX5 32 "SwivelBoard$Sights" "many" "I" ∈ bT := List.mem_append_left _ (in_r54 _ (List.mem_of_getElem? (i := 13) rfl))
theorem tb_6_11 : Cond.fieldLink RX5 19 "SwivelBoard$Sights" "turned" "[I" ∈ bT := List.mem_append_left _ (in_r6 _ (List.mem_of_getElem? (i := 11) rfl))
theorem tb_6_12 : Cond.fieldLink RX5 23 "SwivelBoard$Sights" "behind" "[I" ∈ bT := List.mem_append_left _ (in_r6 _ (List.mem_of_getElem? (i := 12) rfl))
theorem tb_54_15 : Cond.fieldLink RX5 47 "SwivelBoard$Turns" "freeMany" "I" ∈ bT := List.mem_append_left _ (in_r54 _ (List.mem_of_getElem? (i := 15) rfl))
theorem tb_54_16 : Cond.fieldLink RX5 50 "SwivelBoard$State" "aims" "I" ∈ bT := List.mem_append_left _ (in_r54 _ (List.mem_of_getElem? (i := 16) rfl))
theorem tb_54_14 : Cond.fieldLink RX5 36 "SwivelBoard$State" "stuck" "I" ∈ bT := List.mem_append_left _ (in_r54 _ (List.mem_of_getElem? (i := 14) rfl))
theorem tb_6_13 : Cond.fieldLink RX5 26 "SwivelBoard$Sights" "alike" "[I" ∈ bT := List.mem_append_left _ (in_r6 _ (List.mem_of_getElem? (i := 13) rfl))
theorem tb_64_10 : Cond.methodLink RX5 79 Lib.Math.max.name ∈ bT := List.mem_append_left _ (in_r64 _ (List.mem_of_getElem? (i := 10) rfl))
theorem tb_6_14 : Cond.fieldLink RX5 29 "SwivelBoard$Sights" "chances" "[I" ∈ bT := List.mem_append_left _ (in_r6 _ (List.mem_of_getElem? (i := 14) rfl))
theorem tb_65_14 : Cond.fieldLink RX5 84 "SwivelBoard$Sights" "allChances" "I" ∈ bT := List.mem_append_left _ (in_r65 _ (List.mem_of_getElem? (i := 14) rfl))
theorem tb_19_8 : Cond.fieldLink RX6 42 "SwivelBoard$Parser" "members" "I" ∈ bT := List.mem_append_left _ (in_r19 _ (List.mem_of_getElem? (i := 8) rfl))
theorem tb_19_9 : Cond.fieldLink RX6 45 "SwivelBoard$Parser" "lines" "I" ∈ bT := List.mem_append_left _ (in_r19 _ (List.mem_of_getElem? (i := 9) rfl))
theorem tb_19_10 : Cond.fieldLink RX6 48 "SwivelBoard$State" "lines" "I" ∈ bT := List.mem_append_left _ (in_r19 _ (List.mem_of_getElem? (i := 10) rfl))
theorem tb_19_11 : Cond.fieldLink RX6 49 "SwivelBoard$Parser" "aims" "I" ∈ bT := List.mem_append_left _ (in_r19 _ (List.mem_of_getElem? (i := 11) rfl))
theorem tb_19_12 : Cond.fieldLink RX6 52 "SwivelBoard$State" "aims" "I" ∈ bT := List.mem_append_left _ (in_r19 _ (List.mem_of_getElem? (i := 12) rfl))
theorem tb_19_13 : Cond.fieldLink RX6 53 "SwivelBoard$Parser" "weights" "I" ∈ bT := List.mem_append_left _ (in_r19 _ (List.mem_of_getElem? (i := 13) rfl))
theorem tb_19_14 : Cond.fieldLink RX6 54 "SwivelBoard$Parser" "stuck" "I" ∈ bT := List.mem_append_left _ (in_r19 _ (List.mem_of_getElem? (i := 14) rfl))
theorem tb_19_16 : Cond.fieldLink RX6 58 "SwivelBoard$Parser" "drags" "[I" ∈ bT := List.mem_append_left _ (in_r19 _ (List.mem_of_getElem? (i := 16) rfl))
theorem tb_19_17 : Cond.fieldLink RX6 61 "SwivelBoard$Parser" "costs" "[I" ∈ bT := List.mem_append_left _ (in_r19 _ (List.mem_of_getElem? (i := 17) rfl))
theorem tb_19_18 : Cond.fieldLink RX6 64 "SwivelBoard$Parser" "goes" "[I" ∈ bT := List.mem_append_left _ (in_r19 _ (List.mem_of_getElem? (i := 18) rfl))
theorem tb_19_19 : Cond.fieldLink RX6 67 "SwivelBoard$State" "deeds" "I" ∈ bT := List.mem_append_left _ (in_r19 _ (List.mem_of_getElem? (i := 19) rfl))
theorem tb_19_20 : Cond.fieldLink RX6 70 "SwivelBoard$State" "stamp" "I" ∈ bT := List.mem_append_left _ (in_r19 _ (List.mem_of_getElem? (i := 20) rfl))
theorem tb_4_19 : Cond.fieldLink RX6 38 "SwivelBoard$State" "past" "[J" ∈ bT := List.mem_append_left _ (in_r4 _ (List.mem_of_getElem? (i := 19) rfl))
theorem tb_34_17 : Cond.methodLink RX6 73 arraycopyName ∈ bT := List.mem_append_left _ (in_r34 _ (List.mem_of_getElem? (i := 17) rfl))
theorem tb_38_9 : Cond.constant RX6 125 (16777215) ∈ bT := List.mem_append_left _ (in_r38 _ (List.mem_of_getElem? (i := 9) rfl))
theorem tb_39_19 : Cond.constantLong RX6 138 (-1) ∈ bT := List.mem_append_left _ (in_r39 _ (List.mem_of_getElem? (i := 19) rfl))
theorem tb_39_20 : Cond.constantLong RX6 140 (299) ∈ bT := List.mem_append_left _ (in_r39 _ (List.mem_of_getElem? (i := 20) rfl))
theorem tb_5_21 : Cond.fieldLink RX7 15 "SwivelBoard$Survey" "turns" "LSwivelBoard$Turns;" ∈ bT := List.mem_append_left _ (in_r5 _ (List.mem_of_getElem? (i := 21) rfl))
theorem tb_5_20 : Cond.fieldLink RX7 9 "SwivelBoard$Survey" "live" "LSwivelBoard$State;" ∈ bT := List.mem_append_left _ (in_r5 _ (List.mem_of_getElem? (i := 20) rfl))
theorem tb_44_23 : Cond.fieldLink RX7 42 "SwivelBoard$State" "stuck" "I" ∈ bT := List.mem_append_left _ (in_r44 _ (List.mem_of_getElem? (i := 23) rfl))
theorem tb_45_0 : Cond.fieldLink RX7 53 "SwivelBoard$Turns" "many" "I" ∈ bT := List.mem_append_left _ (in_r45 _ (List.mem_of_getElem? (i := 0) rfl))
theorem tb_45_2 : Cond.fieldLink RX7 77 "SwivelBoard$Turns" "cost" "I" ∈ bT := List.mem_append_left _ (in_r45 _ (List.mem_of_getElem? (i := 2) rfl))
theorem tb_44_21 : Cond.fieldLink RX7 68 "SwivelBoard$Survey" "toldCost" "I" ∈ bT := List.mem_append_left _ (in_r44 _ (List.mem_of_getElem? (i := 21) rfl))
theorem tb_45_3 : Cond.fieldLink RX7 80 "SwivelBoard$Turns" "notches" "I" ∈ bT := List.mem_append_left _ (in_r45 _ (List.mem_of_getElem? (i := 3) rfl))
theorem tb_44_22 : Cond.fieldLink RX7 71 "SwivelBoard$Survey" "toldNotches" "I" ∈ bT := List.mem_append_left _ (in_r44 _ (List.mem_of_getElem? (i := 22) rfl))
theorem tb_45_1 : Cond.fieldLink RX7 74 "SwivelBoard$Turns" "look" "I" ∈ bT := List.mem_append_left _ (in_r45 _ (List.mem_of_getElem? (i := 1) rfl))
theorem tb_44_20 : Cond.fieldLink RX7 65 "SwivelBoard$Survey" "toldWays" "I" ∈ bT := List.mem_append_left _ (in_r44 _ (List.mem_of_getElem? (i := 20) rfl))
theorem tb_44_17 : Cond.fieldLink RX7 56 "SwivelBoard$State" "stamp" "I" ∈ bT := List.mem_append_left _ (in_r44 _ (List.mem_of_getElem? (i := 17) rfl))
theorem tb_6_0 : Cond.fieldLink RX7 26 "SwivelBoard$Survey" "toldAt" "I" ∈ bT := List.mem_append_left _ (in_r6 _ (List.mem_of_getElem? (i := 0) rfl))
theorem tb_44_18 : Cond.fieldLink RX7 59 "SwivelBoard$Survey" "toldMask" "I" ∈ bT := List.mem_append_left _ (in_r44 _ (List.mem_of_getElem? (i := 18) rfl))
theorem tb_44_19 : Cond.fieldLink RX7 62 "SwivelBoard$Survey" "toldAims" "I" ∈ bT := List.mem_append_left _ (in_r44 _ (List.mem_of_getElem? (i := 19) rfl))
theorem tb_51_18 : Cond.constant RJ6 265 (1431655765) ∈ bT := List.mem_append_left _ (in_r51 _ (List.mem_of_getElem? (i := 18) rfl))
theorem tb_51_19 : Cond.constant RJ6 266 (858993459) ∈ bT := List.mem_append_left _ (in_r51 _ (List.mem_of_getElem? (i := 19) rfl))
theorem tb_51_20 : Cond.constant RJ6 267 (252645135) ∈ bT := List.mem_append_left _ (in_r51 _ (List.mem_of_getElem? (i := 20) rfl))
theorem tb_6_4 : Cond.fieldLink RX7 39 "SwivelBoard$Survey" "helpers" "[I" ∈ bT := List.mem_append_left _ (in_r6 _ (List.mem_of_getElem? (i := 4) rfl))
theorem tb_51_10 : Cond.fieldLink RX7 99 "SwivelBoard$Turns" "movers" "I" ∈ bT := List.mem_append_left _ (in_r51 _ (List.mem_of_getElem? (i := 10) rfl))
theorem tb_6_2 : Cond.fieldLink RX7 33 "SwivelBoard$Survey" "throneCost" "[I" ∈ bT := List.mem_append_left _ (in_r6 _ (List.mem_of_getElem? (i := 2) rfl))
theorem tb_6_3 : Cond.fieldLink RX7 36 "SwivelBoard$Survey" "throneNotches" "[I" ∈ bT := List.mem_append_left _ (in_r6 _ (List.mem_of_getElem? (i := 3) rfl))
theorem tb_6_1 : Cond.fieldLink RX7 29 "SwivelBoard$Survey" "won" "[I" ∈ bT := List.mem_append_left _ (in_r6 _ (List.mem_of_getElem? (i := 1) rfl))
theorem tb_5_22 : Cond.fieldLink RX7 19 "SwivelBoard$Survey" "seatedAt" "I" ∈ bT := List.mem_append_left _ (in_r5 _ (List.mem_of_getElem? (i := 22) rfl))
theorem tb_57_6 : Cond.fieldLink RX7 111 "SwivelBoard$Survey" "mostKnees" "I" ∈ bT := List.mem_append_left _ (in_r57 _ (List.mem_of_getElem? (i := 6) rfl))
theorem tb_57_8 : Cond.fieldLink RX7 123 "SwivelBoard$Survey" "kneesCost" "I" ∈ bT := List.mem_append_left _ (in_r57 _ (List.mem_of_getElem? (i := 8) rfl))
theorem tb_57_9 : Cond.fieldLink RX7 126 "SwivelBoard$Survey" "kneesNotches" "I" ∈ bT := List.mem_append_left _ (in_r57 _ (List.mem_of_getElem? (i := 9) rfl))
theorem tb_57_7 : Cond.fieldLink RX7 114 "SwivelBoard$State" "members" "I" ∈ bT := List.mem_append_left _ (in_r57 _ (List.mem_of_getElem? (i := 7) rfl))
theorem tb_5_23 : Cond.fieldLink RX7 23 "SwivelBoard$Survey" "pairedAt" "I" ∈ bT := List.mem_append_left _ (in_r5 _ (List.mem_of_getElem? (i := 23) rfl))
theorem tb_67_16 : Cond.fieldLink RX9 19 "SwivelBoard$Tray" "sort" "I" ∈ bT := List.mem_append_left _ (in_r67 _ (List.mem_of_getElem? (i := 16) rfl))
theorem tb_5_4 : Cond.fieldLink RX9 9 "SwivelBoard$Tray" "size" "I" ∈ bT := List.mem_append_left _ (in_r5 _ (List.mem_of_getElem? (i := 4) rfl))
theorem tb_5_5 : Cond.fieldLink RX9 15 "SwivelBoard$Tray" "numbers" "[J" ∈ bT := List.mem_append_left _ (in_r5 _ (List.mem_of_getElem? (i := 5) rfl))
theorem tb_43_22 : Cond.constantLong RX9 36 (-1) ∈ bT := List.mem_append_left _ (in_r43 _ (List.mem_of_getElem? (i := 22) rfl))
theorem tb_8_8 : Cond.fieldLink RX11 80 "SwivelBoard" "tapeLength" "I" ∈ bT := List.mem_append_left _ (in_r8 _ (List.mem_of_getElem? (i := 8) rfl))
theorem tb_1_15 : Cond.fieldLink RX11 9 "SwivelBoard" "tape" "[B" ∈ bT := List.mem_append_left _ (in_r1 _ (List.mem_of_getElem? (i := 15) rfl))
theorem tb_1_16 : Cond.fieldLink RX11 13 "SwivelBoard" "faultPlace" "I" ∈ bT := List.mem_append_left _ (in_r1 _ (List.mem_of_getElem? (i := 16) rfl))
theorem tb_9_7 : Cond.fieldLink RX11 100 "SwivelBoard" "faultKind" "I" ∈ bT := List.mem_append_left _ (in_r9 _ (List.mem_of_getElem? (i := 7) rfl))
theorem tb_2_3 : Cond.fieldLink RX11 34 "SwivelBoard" "live" "LSwivelBoard$State;" ∈ bT := List.mem_append_left _ (in_r2 _ (List.mem_of_getElem? (i := 3) rfl))
theorem tb_25_18 : Cond.fieldLink RX11 116 "SwivelBoard$State" "aims" "I" ∈ bT := List.mem_append_left _ (in_r25 _ (List.mem_of_getElem? (i := 18) rfl))
theorem tb_25_19 : Cond.fieldLink RX11 129 "SwivelBoard$State" "weights" "I" ∈ bT := List.mem_append_left _ (in_r25 _ (List.mem_of_getElem? (i := 19) rfl))
theorem tb_38_4 : Cond.fieldLink RX11 179 "SwivelBoard$State" "deeds" "I" ∈ bT := List.mem_append_left _ (in_r38 _ (List.mem_of_getElem? (i := 4) rfl))
theorem tb_2_7 : Cond.fieldLink RX11 47 "SwivelBoard" "trays" "[LSwivelBoard$Tray;" ∈ bT := List.mem_append_left _ (in_r2 _ (List.mem_of_getElem? (i := 7) rfl))
theorem tb_38_23 : Cond.fieldLink RX11 196 "SwivelBoard$Tray" "size" "I" ∈ bT := List.mem_append_left _ (in_r38 _ (List.mem_of_getElem? (i := 23) rfl))
theorem tb_2_4 : Cond.fieldLink RX11 38 "SwivelBoard" "trial" "LSwivelBoard$State;" ∈ bT := List.mem_append_left _ (in_r2 _ (List.mem_of_getElem? (i := 4) rfl))
theorem tb_39_0 : Cond.fieldLink RX11 206 "SwivelBoard$State" "stuck" "I" ∈ bT := List.mem_append_left _ (in_r39 _ (List.mem_of_getElem? (i := 0) rfl))
theorem tb_42_7 : Cond.constant RX11 400 (1103515245) ∈ bT := List.mem_append_left _ (in_r42 _ (List.mem_of_getElem? (i := 7) rfl))
theorem tb_42_12 : Cond.constantLong RX11 401 (-1) ∈ bT := List.mem_append_left _ (in_r42 _ (List.mem_of_getElem? (i := 12) rfl))
theorem tb_43_11 : Cond.fieldLink RX11 223 "SwivelBoard$State" "members" "I" ∈ bT := List.mem_append_left _ (in_r43 _ (List.mem_of_getElem? (i := 11) rfl))
theorem tb_2_16 : Cond.fieldLink RX11 62 "SwivelBoard" "survey" "LSwivelBoard$Survey;" ∈ bT := List.mem_append_left _ (in_r2 _ (List.mem_of_getElem? (i := 16) rfl))
theorem tb_43_12 : Cond.fieldLink RX11 236 "SwivelBoard$Survey" "toldCost" "I" ∈ bT := List.mem_append_left _ (in_r43 _ (List.mem_of_getElem? (i := 12) rfl))
theorem tb_43_13 : Cond.fieldLink RX11 239 "SwivelBoard$Survey" "toldNotches" "I" ∈ bT := List.mem_append_left _ (in_r43 _ (List.mem_of_getElem? (i := 13) rfl))
theorem tb_50_8 : Cond.fieldLink RX11 245 "SwivelBoard$Survey" "toldWays" "I" ∈ bT := List.mem_append_left _ (in_r50 _ (List.mem_of_getElem? (i := 8) rfl))
theorem tb_50_20 : Cond.fieldLink RX11 251 "SwivelBoard$Survey" "throneCost" "[I" ∈ bT := List.mem_append_left _ (in_r50 _ (List.mem_of_getElem? (i := 20) rfl))
theorem tb_50_21 : Cond.fieldLink RX11 255 "SwivelBoard$Survey" "throneNotches" "[I" ∈ bT := List.mem_append_left _ (in_r50 _ (List.mem_of_getElem? (i := 21) rfl))
theorem tb_52_9 : Cond.constant RX11 265 (16777215) ∈ bT := List.mem_append_left _ (in_r52 _ (List.mem_of_getElem? (i := 9) rfl))
theorem tb_53_10 : Cond.fieldLink RX11 266 "SwivelBoard$Survey" "won" "[I" ∈ bT := List.mem_append_left _ (in_r53 _ (List.mem_of_getElem? (i := 10) rfl))
theorem tb_2_20 : Cond.fieldLink RX11 69 "SwivelBoard" "sights" "LSwivelBoard$Sights;" ∈ bT := List.mem_append_left _ (in_r2 _ (List.mem_of_getElem? (i := 20) rfl))
theorem tb_54_6 : Cond.fieldLink RX11 272 "SwivelBoard$Sights" "many" "I" ∈ bT := List.mem_append_left _ (in_r54 _ (List.mem_of_getElem? (i := 6) rfl))
theorem tb_54_7 : Cond.fieldLink RX11 275 "SwivelBoard$Sights" "behind" "[I" ∈ bT := List.mem_append_left _ (in_r54 _ (List.mem_of_getElem? (i := 7) rfl))
theorem tb_54_8 : Cond.fieldLink RX11 278 "SwivelBoard$Sights" "turned" "[I" ∈ bT := List.mem_append_left _ (in_r54 _ (List.mem_of_getElem? (i := 8) rfl))
theorem tb_55_19 : Cond.fieldLink RX11 283 "SwivelBoard$Survey" "helpers" "[I" ∈ bT := List.mem_append_left _ (in_r55 _ (List.mem_of_getElem? (i := 19) rfl))
theorem tb_57_0 : Cond.fieldLink RX11 301 "SwivelBoard$Survey" "kneesCost" "I" ∈ bT := List.mem_append_left _ (in_r57 _ (List.mem_of_getElem? (i := 0) rfl))
theorem tb_57_1 : Cond.fieldLink RX11 304 "SwivelBoard$Survey" "kneesNotches" "I" ∈ bT := List.mem_append_left _ (in_r57 _ (List.mem_of_getElem? (i := 1) rfl))
theorem tb_56_23 : Cond.fieldLink RX11 298 "SwivelBoard$Survey" "mostKnees" "I" ∈ bT := List.mem_append_left _ (in_r56 _ (List.mem_of_getElem? (i := 23) rfl))
theorem tb_3_0 : Cond.fieldLink RX11 76 "SwivelBoard" "course" "LSwivelBoard$Course;" ∈ bT := List.mem_append_left _ (in_r3 _ (List.mem_of_getElem? (i := 0) rfl))
theorem tb_58_2 : Cond.fieldLink RX11 315 "SwivelBoard$Course" "round" "I" ∈ bT := List.mem_append_left _ (in_r58 _ (List.mem_of_getElem? (i := 2) rfl))
theorem tb_58_1 : Cond.fieldLink RX11 312 "SwivelBoard$Course" "tail" "I" ∈ bT := List.mem_append_left _ (in_r58 _ (List.mem_of_getElem? (i := 1) rfl))
theorem tb_59_23 : Cond.constant RX11 318 (99999) ∈ bT := List.mem_append_left _ (in_r59 _ (List.mem_of_getElem? (i := 23) rfl))
theorem tb_65_4 : Cond.fieldLink RX11 347 "SwivelBoard$Sights" "chances" "[I" ∈ bT := List.mem_append_left _ (in_r65 _ (List.mem_of_getElem? (i := 4) rfl))
theorem tb_65_5 : Cond.fieldLink RX11 350 "SwivelBoard$Sights" "allChances" "I" ∈ bT := List.mem_append_left _ (in_r65 _ (List.mem_of_getElem? (i := 5) rfl))
theorem tb_69_9 : Cond.methodLink RX11 375 Lib.Math.min.name ∈ bT := List.mem_append_left _ (in_r69 _ (List.mem_of_getElem? (i := 9) rfl))
theorem tb_2_5 : Cond.fieldLink RX11 41 "SwivelBoard" "images" "[LSwivelBoard$State;" ∈ bT := List.mem_append_left _ (in_r2 _ (List.mem_of_getElem? (i := 5) rfl))
theorem tb_69_21 : Cond.fieldLink RX11 383 "SwivelBoard" "imagesMade" "I" ∈ bT := List.mem_append_left _ (in_r69 _ (List.mem_of_getElem? (i := 21) rfl))
theorem tb_9_9 : Cond.fieldLink RX11 110 "SwivelBoard$State" "lines" "I" ∈ bT := List.mem_append_left _ (in_r9 _ (List.mem_of_getElem? (i := 9) rfl))
theorem tb_19_1 : Cond.native arraycopyName ∈ bT := List.mem_append_left _ (in_r19 _ (List.mem_of_getElem? (i := 1) rfl))
theorem tb_19_2 : Cond.static arraycopyName ∈ bT := List.mem_append_left _ (in_r19 _ (List.mem_of_getElem? (i := 2) rfl))
theorem tb_19_3 : Cond.initialized "java/lang/System" ∈ bT := List.mem_append_left _ (in_r19 _ (List.mem_of_getElem? (i := 3) rfl))
theorem tb_58_12 : Cond.methodLink RX0 28 yJ7_fill_031fb ∈ bT := List.mem_append_left _ (in_r58 _ (List.mem_of_getElem? (i := 12) rfl))
theorem tb_58_14 : Cond.code yJ7_fill_031fb cJ7_fill_031fb 4 none ∈ bT := List.mem_append_left _ (in_r58 _ (List.mem_of_getElem? (i := 14) rfl))
theorem tb_18_15 : Cond.initialized RJ7 ∈ bT := List.mem_append_left _ (in_r18 _ (List.mem_of_getElem? (i := 15) rfl))
theorem tb_58_13 : Cond.static yJ7_fill_031fb ∈ bT := List.mem_append_left _ (in_r58 _ (List.mem_of_getElem? (i := 13) rfl))
theorem tb_58_15 : Cond.methodLink RX0 37 yX0_behindMinute ∈ bT := List.mem_append_left _ (in_r58 _ (List.mem_of_getElem? (i := 15) rfl))
theorem tb_58_18 : Cond.code yX0_behindMinute cX0_behindMinute 6 (some .int) ∈ bT := List.mem_append_left _ (in_r58 _ (List.mem_of_getElem? (i := 18) rfl))
theorem tb_2_23 : Cond.initialized RX0 ∈ bT := List.mem_append_left _ (in_r2 _ (List.mem_of_getElem? (i := 23) rfl))
theorem tb_58_16 : Cond.instanceMethod yX0_behindMinute ∈ bT := List.mem_append_left _ (in_r58 _ (List.mem_of_getElem? (i := 16) rfl))
theorem tb_58_17 : Cond.selects RX0 yX0_behindMinute yX0_behindMinute ∈ bT := List.mem_append_left _ (in_r58 _ (List.mem_of_getElem? (i := 17) rfl))
theorem tb_60_8 : Cond.methodLink RX0 48 yX0_settle ∈ bT := List.mem_append_left _ (in_r60 _ (List.mem_of_getElem? (i := 8) rfl))
theorem tb_58_6 : Cond.code yX0_settle cX0_settle 5 none ∈ bT := List.mem_append_left _ (in_r58 _ (List.mem_of_getElem? (i := 6) rfl))
theorem tb_58_4 : Cond.instanceMethod yX0_settle ∈ bT := List.mem_append_left _ (in_r58 _ (List.mem_of_getElem? (i := 4) rfl))
theorem tb_58_5 : Cond.selects RX0 yX0_settle yX0_settle ∈ bT := List.mem_append_left _ (in_r58 _ (List.mem_of_getElem? (i := 5) rfl))
theorem tb_61_19 : Cond.methodLink RX0 51 yX6_chairOf ∈ bT := List.mem_append_left _ (in_r61 _ (List.mem_of_getElem? (i := 19) rfl))
theorem tb_31_3 : Cond.code yX6_chairOf cX6_chairOf 8 (some .int) ∈ bT := List.mem_append_left _ (in_r31 _ (List.mem_of_getElem? (i := 3) rfl))
theorem tb_2_2 : Cond.initialized RX6 ∈ bT := List.mem_append_left _ (in_r2 _ (List.mem_of_getElem? (i := 2) rfl))
theorem tb_31_1 : Cond.instanceMethod yX6_chairOf ∈ bT := List.mem_append_left _ (in_r31 _ (List.mem_of_getElem? (i := 1) rfl))
theorem tb_31_2 : Cond.selects RX6 yX6_chairOf yX6_chairOf ∈ bT := List.mem_append_left _ (in_r31 _ (List.mem_of_getElem? (i := 2) rfl))
theorem tb_58_20 : Cond.methodLink RX0 54 yX6_votesIn ∈ bT := List.mem_append_left _ (in_r58 _ (List.mem_of_getElem? (i := 20) rfl))
theorem tb_26_17 : Cond.code yX6_votesIn cX6_votesIn 9 (some .long) ∈ bT := List.mem_append_left _ (in_r26 _ (List.mem_of_getElem? (i := 17) rfl))
theorem tb_26_15 : Cond.instanceMethod yX6_votesIn ∈ bT := List.mem_append_left _ (in_r26 _ (List.mem_of_getElem? (i := 15) rfl))
theorem tb_26_16 : Cond.selects RX6 yX6_votesIn yX6_votesIn ∈ bT := List.mem_append_left _ (in_r26 _ (List.mem_of_getElem? (i := 16) rfl))
theorem tb_58_21 : Cond.methodLink RX0 61 yX6_isStuck ∈ bT := List.mem_append_left _ (in_r58 _ (List.mem_of_getElem? (i := 21) rfl))
theorem tb_27_0 : Cond.code yX6_isStuck cX6_isStuck 2 (some .boolean) ∈ bT := List.mem_append_left _ (in_r27 _ (List.mem_of_getElem? (i := 0) rfl))
theorem tb_26_22 : Cond.instanceMethod yX6_isStuck ∈ bT := List.mem_append_left _ (in_r26 _ (List.mem_of_getElem? (i := 22) rfl))
theorem tb_26_23 : Cond.selects RX6 yX6_isStuck yX6_isStuck ∈ bT := List.mem_append_left _ (in_r26 _ (List.mem_of_getElem? (i := 23) rfl))
theorem tb_58_22 : Cond.methodLink RX0 65 yX1_at ∈ bT := List.mem_append_left _ (in_r58 _ (List.mem_of_getElem? (i := 22) rfl))
theorem tb_26_8 : Cond.code yX1_at cX1_at 2 (some .int) ∈ bT := List.mem_append_left _ (in_r26 _ (List.mem_of_getElem? (i := 8) rfl))
theorem tb_4_22 : Cond.initialized RX1 ∈ bT := List.mem_append_left _ (in_r4 _ (List.mem_of_getElem? (i := 22) rfl))
theorem tb_26_7 : Cond.static yX1_at ∈ bT := List.mem_append_left _ (in_r26 _ (List.mem_of_getElem? (i := 7) rfl))
theorem tb_58_23 : Cond.methodLink RX0 71 yX1_votesAt ∈ bT := List.mem_append_left _ (in_r58 _ (List.mem_of_getElem? (i := 23) rfl))
theorem tb_26_20 : Cond.code yX1_votesAt cX1_votesAt 3 (some .int) ∈ bT := List.mem_append_left _ (in_r26 _ (List.mem_of_getElem? (i := 20) rfl))
theorem tb_26_19 : Cond.static yX1_votesAt ∈ bT := List.mem_append_left _ (in_r26 _ (List.mem_of_getElem? (i := 19) rfl))
theorem tb_59_0 : Cond.methodLink RX0 75 yX0_paceOf ∈ bT := List.mem_append_left _ (in_r59 _ (List.mem_of_getElem? (i := 0) rfl))
theorem tb_59_3 : Cond.code yX0_paceOf cX0_paceOf 5 (some .int) ∈ bT := List.mem_append_left _ (in_r59 _ (List.mem_of_getElem? (i := 3) rfl))
theorem tb_59_1 : Cond.instanceMethod yX0_paceOf ∈ bT := List.mem_append_left _ (in_r59 _ (List.mem_of_getElem? (i := 1) rfl))
theorem tb_59_2 : Cond.selects RX0 yX0_paceOf yX0_paceOf ∈ bT := List.mem_append_left _ (in_r59 _ (List.mem_of_getElem? (i := 2) rfl))
theorem tb_59_5 : Cond.methodLink RX0 79 yX1_plus ∈ bT := List.mem_append_left _ (in_r59 _ (List.mem_of_getElem? (i := 5) rfl))
theorem tb_34_21 : Cond.code yX1_plus cX1_plus 5 (some .int) ∈ bT := List.mem_append_left _ (in_r34 _ (List.mem_of_getElem? (i := 21) rfl))
theorem tb_34_20 : Cond.static yX1_plus ∈ bT := List.mem_append_left _ (in_r34 _ (List.mem_of_getElem? (i := 20) rfl))
theorem tb_59_4 : Cond.methodLink RX0 82 yX6_pace ∈ bT := List.mem_append_left _ (in_r59 _ (List.mem_of_getElem? (i := 4) rfl))
theorem tb_33_15 : Cond.code yX6_pace cX6_pace 4 (some .int) ∈ bT := List.mem_append_left _ (in_r33 _ (List.mem_of_getElem? (i := 15) rfl))
theorem tb_33_13 : Cond.instanceMethod yX6_pace ∈ bT := List.mem_append_left _ (in_r33 _ (List.mem_of_getElem? (i := 13) rfl))
theorem tb_33_14 : Cond.selects RX6 yX6_pace yX6_pace ∈ bT := List.mem_append_left _ (in_r33 _ (List.mem_of_getElem? (i := 14) rfl))
theorem tb_57_13 : Cond.methodLink RX1 13 yX1_at ∈ bT := List.mem_append_left _ (in_r57 _ (List.mem_of_getElem? (i := 13) rfl))
theorem tb_45_17 : Cond.methodLink RX10 32 yX10_reckonLaws ∈ bT := List.mem_append_left _ (in_r45 _ (List.mem_of_getElem? (i := 17) rfl))
theorem tb_45_20 : Cond.code yX10_reckonLaws cX10_reckonLaws 2 none ∈ bT := List.mem_append_left _ (in_r45 _ (List.mem_of_getElem? (i := 20) rfl))
theorem tb_2_12 : Cond.initialized RX10 ∈ bT := List.mem_append_left _ (in_r2 _ (List.mem_of_getElem? (i := 12) rfl))
theorem tb_45_18 : Cond.instanceMethod yX10_reckonLaws ∈ bT := List.mem_append_left _ (in_r45 _ (List.mem_of_getElem? (i := 18) rfl))
theorem tb_45_19 : Cond.selects RX10 yX10_reckonLaws yX10_reckonLaws ∈ bT := List.mem_append_left _ (in_r45 _ (List.mem_of_getElem? (i := 19) rfl))
theorem tb_46_0 : Cond.methodLink RX10 47 yX1_ofBits ∈ bT := List.mem_append_left _ (in_r46 _ (List.mem_of_getElem? (i := 0) rfl))
theorem tb_4_23 : Cond.code yX1_ofBits cX1_ofBits 3 (some .int) ∈ bT := List.mem_append_left _ (in_r4 _ (List.mem_of_getElem? (i := 23) rfl))
theorem tb_4_21 : Cond.static yX1_ofBits ∈ bT := List.mem_append_left _ (in_r4 _ (List.mem_of_getElem? (i := 21) rfl))
theorem tb_46_5 : Cond.methodLink RX10 68 yX1_plus ∈ bT := List.mem_append_left _ (in_r46 _ (List.mem_of_getElem? (i := 5) rfl))
theorem tb_45_22 : Cond.methodLink RX10 73 yX6_draggedBy ∈ bT := List.mem_append_left _ (in_r45 _ (List.mem_of_getElem? (i := 22) rfl))
theorem tb_32_8 : Cond.code yX6_draggedBy cX6_draggedBy 7 (some .int) ∈ bT := List.mem_append_left _ (in_r32 _ (List.mem_of_getElem? (i := 8) rfl))
theorem tb_32_6 : Cond.instanceMethod yX6_draggedBy ∈ bT := List.mem_append_left _ (in_r32 _ (List.mem_of_getElem? (i := 6) rfl))
theorem tb_32_7 : Cond.selects RX6 yX6_draggedBy yX6_draggedBy ∈ bT := List.mem_append_left _ (in_r32 _ (List.mem_of_getElem? (i := 7) rfl))
theorem tb_45_23 : Cond.methodLink RX10 76 yX6_price ∈ bT := List.mem_append_left _ (in_r45 _ (List.mem_of_getElem? (i := 23) rfl))
theorem tb_27_4 : Cond.code yX6_price cX6_price 3 (some .int) ∈ bT := List.mem_append_left _ (in_r27 _ (List.mem_of_getElem? (i := 4) rfl))
theorem tb_27_2 : Cond.instanceMethod yX6_price ∈ bT := List.mem_append_left _ (in_r27 _ (List.mem_of_getElem? (i := 2) rfl))
theorem tb_27_3 : Cond.selects RX6 yX6_price yX6_price ∈ bT := List.mem_append_left _ (in_r27 _ (List.mem_of_getElem? (i := 3) rfl))
theorem tb_8_9 : Cond.methodLink RX11 83 yX11_append ∈ bT := List.mem_append_left _ (in_r8 _ (List.mem_of_getElem? (i := 9) rfl))
theorem tb_8_12 : Cond.code yX11_append cX11_append 3 none ∈ bT := List.mem_append_left _ (in_r8 _ (List.mem_of_getElem? (i := 12) rfl))
theorem tb_1_2 : Cond.initialized RX11 ∈ bT := List.mem_append_left _ (in_r1 _ (List.mem_of_getElem? (i := 2) rfl))
theorem tb_8_10 : Cond.instanceMethod yX11_append ∈ bT := List.mem_append_left _ (in_r8 _ (List.mem_of_getElem? (i := 10) rfl))
theorem tb_8_11 : Cond.selects RX11 yX11_append yX11_append ∈ bT := List.mem_append_left _ (in_r8 _ (List.mem_of_getElem? (i := 11) rfl))
theorem tb_25_20 : Cond.methodLink RX11 113 yX11_needMember ∈ bT := List.mem_append_left _ (in_r25 _ (List.mem_of_getElem? (i := 20) rfl))
theorem tb_25_23 : Cond.code yX11_needMember cX11_needMember 2 none ∈ bT := List.mem_append_left _ (in_r25 _ (List.mem_of_getElem? (i := 23) rfl))
theorem tb_25_21 : Cond.instanceMethod yX11_needMember ∈ bT := List.mem_append_left _ (in_r25 _ (List.mem_of_getElem? (i := 21) rfl))
theorem tb_25_22 : Cond.selects RX11 yX11_needMember yX11_needMember ∈ bT := List.mem_append_left _ (in_r25 _ (List.mem_of_getElem? (i := 22) rfl))
theorem tb_26_6 : Cond.methodLink RX11 119 yX1_at ∈ bT := List.mem_append_left _ (in_r26 _ (List.mem_of_getElem? (i := 6) rfl))
theorem tb_26_9 : Cond.methodLink RX11 125 yX6_faced ∈ bT := List.mem_append_left _ (in_r26 _ (List.mem_of_getElem? (i := 9) rfl))
theorem tb_26_12 : Cond.code yX6_faced cX6_faced 3 (some .int) ∈ bT := List.mem_append_left _ (in_r26 _ (List.mem_of_getElem? (i := 12) rfl))
theorem tb_26_10 : Cond.instanceMethod yX6_faced ∈ bT := List.mem_append_left _ (in_r26 _ (List.mem_of_getElem? (i := 10) rfl))
theorem tb_26_11 : Cond.selects RX6 yX6_faced yX6_faced ∈ bT := List.mem_append_left _ (in_r26 _ (List.mem_of_getElem? (i := 11) rfl))
theorem tb_26_14 : Cond.methodLink RX11 132 yX6_votesIn ∈ bT := List.mem_append_left _ (in_r26 _ (List.mem_of_getElem? (i := 14) rfl))
theorem tb_26_18 : Cond.methodLink RX11 136 yX1_votesAt ∈ bT := List.mem_append_left _ (in_r26 _ (List.mem_of_getElem? (i := 18) rfl))
theorem tb_26_21 : Cond.methodLink RX11 140 yX6_isStuck ∈ bT := List.mem_append_left _ (in_r26 _ (List.mem_of_getElem? (i := 21) rfl))
theorem tb_27_1 : Cond.methodLink RX11 144 yX6_price ∈ bT := List.mem_append_left _ (in_r27 _ (List.mem_of_getElem? (i := 1) rfl))
theorem tb_31_0 : Cond.methodLink RX11 149 yX6_chairOf ∈ bT := List.mem_append_left _ (in_r31 _ (List.mem_of_getElem? (i := 0) rfl))
theorem tb_32_0 : Cond.methodLink RX11 152 yX6_turningWith ∈ bT := List.mem_append_left _ (in_r32 _ (List.mem_of_getElem? (i := 0) rfl))
theorem tb_32_3 : Cond.code yX6_turningWith cX6_turningWith 2 (some .int) ∈ bT := List.mem_append_left _ (in_r32 _ (List.mem_of_getElem? (i := 3) rfl))
theorem tb_32_1 : Cond.instanceMethod yX6_turningWith ∈ bT := List.mem_append_left _ (in_r32 _ (List.mem_of_getElem? (i := 1) rfl))
theorem tb_32_2 : Cond.selects RX6 yX6_turningWith yX6_turningWith ∈ bT := List.mem_append_left _ (in_r32 _ (List.mem_of_getElem? (i := 2) rfl))
theorem tb_33_12 : Cond.methodLink RX11 155 yX6_pace ∈ bT := List.mem_append_left _ (in_r33 _ (List.mem_of_getElem? (i := 12) rfl))
theorem tb_34_8 : Cond.methodLink RX11 159 yX6_turnBy ∈ bT := List.mem_append_left _ (in_r34 _ (List.mem_of_getElem? (i := 8) rfl))
theorem tb_34_11 : Cond.code yX6_turnBy cX6_turnBy 3 (some .int) ∈ bT := List.mem_append_left _ (in_r34 _ (List.mem_of_getElem? (i := 11) rfl))
theorem tb_34_9 : Cond.instanceMethod yX6_turnBy ∈ bT := List.mem_append_left _ (in_r34 _ (List.mem_of_getElem? (i := 9) rfl))
theorem tb_34_10 : Cond.selects RX6 yX6_turnBy yX6_turnBy ∈ bT := List.mem_append_left _ (in_r34 _ (List.mem_of_getElem? (i := 10) rfl))
theorem tb_26_2 : Cond.methodLink RX11 162 yX6_has ∈ bT := List.mem_append_left _ (in_r26 _ (List.mem_of_getElem? (i := 2) rfl))
theorem tb_26_5 : Cond.code yX6_has cX6_has 2 (some .boolean) ∈ bT := List.mem_append_left _ (in_r26 _ (List.mem_of_getElem? (i := 5) rfl))
theorem tb_26_3 : Cond.instanceMethod yX6_has ∈ bT := List.mem_append_left _ (in_r26 _ (List.mem_of_getElem? (i := 3) rfl))
theorem tb_26_4 : Cond.selects RX6 yX6_has yX6_has ∈ bT := List.mem_append_left _ (in_r26 _ (List.mem_of_getElem? (i := 4) rfl))
theorem tb_35_20 : Cond.methodLink RX11 165 yX6_giveWeight ∈ bT := List.mem_append_left _ (in_r35 _ (List.mem_of_getElem? (i := 20) rfl))
theorem tb_35_23 : Cond.code yX6_giveWeight cX6_giveWeight 3 (some .int) ∈ bT := List.mem_append_left _ (in_r35 _ (List.mem_of_getElem? (i := 23) rfl))
theorem tb_35_21 : Cond.instanceMethod yX6_giveWeight ∈ bT := List.mem_append_left _ (in_r35 _ (List.mem_of_getElem? (i := 21) rfl))
theorem tb_35_22 : Cond.selects RX6 yX6_giveWeight yX6_giveWeight ∈ bT := List.mem_append_left _ (in_r35 _ (List.mem_of_getElem? (i := 22) rfl))
theorem tb_36_10 : Cond.methodLink RX11 168 yX6_toggleStuck ∈ bT := List.mem_append_left _ (in_r36 _ (List.mem_of_getElem? (i := 10) rfl))
theorem tb_36_13 : Cond.code yX6_toggleStuck cX6_toggleStuck 2 (some .int) ∈ bT := List.mem_append_left _ (in_r36 _ (List.mem_of_getElem? (i := 13) rfl))
theorem tb_36_11 : Cond.instanceMethod yX6_toggleStuck ∈ bT := List.mem_append_left _ (in_r36 _ (List.mem_of_getElem? (i := 11) rfl))
theorem tb_36_12 : Cond.selects RX6 yX6_toggleStuck yX6_toggleStuck ∈ bT := List.mem_append_left _ (in_r36 _ (List.mem_of_getElem? (i := 12) rfl))
theorem tb_37_1 : Cond.methodLink RX11 173 yX6_remember ∈ bT := List.mem_append_left _ (in_r37 _ (List.mem_of_getElem? (i := 1) rfl))
theorem tb_34_16 : Cond.code yX6_remember cX6_remember 1 none ∈ bT := List.mem_append_left _ (in_r34 _ (List.mem_of_getElem? (i := 16) rfl))
theorem tb_34_14 : Cond.instanceMethod yX6_remember ∈ bT := List.mem_append_left _ (in_r34 _ (List.mem_of_getElem? (i := 14) rfl))
theorem tb_34_15 : Cond.selects RX6 yX6_remember yX6_remember ∈ bT := List.mem_append_left _ (in_r34 _ (List.mem_of_getElem? (i := 15) rfl))
theorem tb_37_2 : Cond.methodLink RX11 176 yX6_passMinute ∈ bT := List.mem_append_left _ (in_r37 _ (List.mem_of_getElem? (i := 2) rfl))
theorem tb_37_5 : Cond.code yX6_passMinute cX6_passMinute 5 none ∈ bT := List.mem_append_left _ (in_r37 _ (List.mem_of_getElem? (i := 5) rfl))
theorem tb_37_3 : Cond.instanceMethod yX6_passMinute ∈ bT := List.mem_append_left _ (in_r37 _ (List.mem_of_getElem? (i := 3) rfl))
theorem tb_37_4 : Cond.selects RX6 yX6_passMinute yX6_passMinute ∈ bT := List.mem_append_left _ (in_r37 _ (List.mem_of_getElem? (i := 4) rfl))
theorem tb_38_5 : Cond.methodLink RX11 184 yX6_takeBack ∈ bT := List.mem_append_left _ (in_r38 _ (List.mem_of_getElem? (i := 5) rfl))
theorem tb_38_8 : Cond.code yX6_takeBack cX6_takeBack 3 none ∈ bT := List.mem_append_left _ (in_r38 _ (List.mem_of_getElem? (i := 8) rfl))
theorem tb_38_6 : Cond.instanceMethod yX6_takeBack ∈ bT := List.mem_append_left _ (in_r38 _ (List.mem_of_getElem? (i := 6) rfl))
theorem tb_38_7 : Cond.selects RX6 yX6_takeBack yX6_takeBack ∈ bT := List.mem_append_left _ (in_r38 _ (List.mem_of_getElem? (i := 7) rfl))
theorem tb_39_1 : Cond.methodLink RX11 187 yX11_needTray ∈ bT := List.mem_append_left _ (in_r39 _ (List.mem_of_getElem? (i := 1) rfl))
theorem tb_39_4 : Cond.code yX11_needTray cX11_needTray 3 (some (.object "SwivelBoard$Tray")) ∈ bT := List.mem_append_left _ (in_r39 _ (List.mem_of_getElem? (i := 4) rfl))
theorem tb_39_2 : Cond.instanceMethod yX11_needTray ∈ bT := List.mem_append_left _ (in_r39 _ (List.mem_of_getElem? (i := 2) rfl))
theorem tb_39_3 : Cond.selects RX11 yX11_needTray yX11_needTray ∈ bT := List.mem_append_left _ (in_r39 _ (List.mem_of_getElem? (i := 3) rfl))
theorem tb_39_7 : Cond.methodLink RX11 193 yX6_become ∈ bT := List.mem_append_left _ (in_r39 _ (List.mem_of_getElem? (i := 7) rfl))
theorem tb_39_10 : Cond.code yX6_become cX6_become 2 none ∈ bT := List.mem_append_left _ (in_r39 _ (List.mem_of_getElem? (i := 10) rfl))
theorem tb_39_8 : Cond.instanceMethod yX6_become ∈ bT := List.mem_append_left _ (in_r39 _ (List.mem_of_getElem? (i := 8) rfl))
theorem tb_39_9 : Cond.selects RX6 yX6_become yX6_become ∈ bT := List.mem_append_left _ (in_r39 _ (List.mem_of_getElem? (i := 9) rfl))
theorem tb_39_11 : Cond.methodLink RX11 199 yX9_get ∈ bT := List.mem_append_left _ (in_r39 _ (List.mem_of_getElem? (i := 11) rfl))
theorem tb_39_14 : Cond.code yX9_get cX9_get 2 (some .long) ∈ bT := List.mem_append_left _ (in_r39 _ (List.mem_of_getElem? (i := 14) rfl))
theorem tb_2_9 : Cond.initialized RX9 ∈ bT := List.mem_append_left _ (in_r2 _ (List.mem_of_getElem? (i := 9) rfl))
theorem tb_39_12 : Cond.instanceMethod yX9_get ∈ bT := List.mem_append_left _ (in_r39 _ (List.mem_of_getElem? (i := 12) rfl))
theorem tb_39_13 : Cond.selects RX9 yX9_get yX9_get ∈ bT := List.mem_append_left _ (in_r39 _ (List.mem_of_getElem? (i := 13) rfl))
theorem tb_39_15 : Cond.methodLink RX11 202 yX6_enact ∈ bT := List.mem_append_left _ (in_r39 _ (List.mem_of_getElem? (i := 15) rfl))
theorem tb_39_18 : Cond.code yX6_enact cX6_enact 4 (some .int) ∈ bT := List.mem_append_left _ (in_r39 _ (List.mem_of_getElem? (i := 18) rfl))
theorem tb_39_16 : Cond.instanceMethod yX6_enact ∈ bT := List.mem_append_left _ (in_r39 _ (List.mem_of_getElem? (i := 16) rfl))
theorem tb_39_17 : Cond.selects RX6 yX6_enact yX6_enact ∈ bT := List.mem_append_left _ (in_r39 _ (List.mem_of_getElem? (i := 17) rfl))
theorem tb_42_4 : Cond.methodLink RX11 211 yX11_drawnFrom ∈ bT := List.mem_append_left _ (in_r42 _ (List.mem_of_getElem? (i := 4) rfl))
theorem tb_42_6 : Cond.code yX11_drawnFrom cX11_drawnFrom 1 (some .int) ∈ bT := List.mem_append_left _ (in_r42 _ (List.mem_of_getElem? (i := 6) rfl))
theorem tb_42_5 : Cond.static yX11_drawnFrom ∈ bT := List.mem_append_left _ (in_r42 _ (List.mem_of_getElem? (i := 5) rfl))
theorem tb_42_8 : Cond.methodLink RX11 214 yX11_enactDrawn ∈ bT := List.mem_append_left _ (in_r42 _ (List.mem_of_getElem? (i := 8) rfl))
theorem tb_42_11 : Cond.code yX11_enactDrawn cX11_enactDrawn 4 (some .int) ∈ bT := List.mem_append_left _ (in_r42 _ (List.mem_of_getElem? (i := 11) rfl))
theorem tb_42_9 : Cond.instanceMethod yX11_enactDrawn ∈ bT := List.mem_append_left _ (in_r42 _ (List.mem_of_getElem? (i := 9) rfl))
theorem tb_42_10 : Cond.selects RX11 yX11_enactDrawn yX11_enactDrawn ∈ bT := List.mem_append_left _ (in_r42 _ (List.mem_of_getElem? (i := 10) rfl))
theorem tb_43_14 : Cond.methodLink RX11 217 yX11_needLook ∈ bT := List.mem_append_left _ (in_r43 _ (List.mem_of_getElem? (i := 14) rfl))
theorem tb_43_17 : Cond.code yX11_needLook cX11_needLook 3 (some (.object "SwivelBoard$Tray")) ∈ bT := List.mem_append_left _ (in_r43 _ (List.mem_of_getElem? (i := 17) rfl))
theorem tb_43_15 : Cond.instanceMethod yX11_needLook ∈ bT := List.mem_append_left _ (in_r43 _ (List.mem_of_getElem? (i := 15) rfl))
theorem tb_43_16 : Cond.selects RX11 yX11_needLook yX11_needLook ∈ bT := List.mem_append_left _ (in_r43 _ (List.mem_of_getElem? (i := 16) rfl))
theorem tb_44_0 : Cond.methodLink RX11 220 yX11_needPathQuestion ∈ bT := List.mem_append_left _ (in_r44 _ (List.mem_of_getElem? (i := 0) rfl))
theorem tb_44_3 : Cond.code yX11_needPathQuestion cX11_needPathQuestion 2 none ∈ bT := List.mem_append_left _ (in_r44 _ (List.mem_of_getElem? (i := 3) rfl))
theorem tb_44_1 : Cond.instanceMethod yX11_needPathQuestion ∈ bT := List.mem_append_left _ (in_r44 _ (List.mem_of_getElem? (i := 1) rfl))
theorem tb_44_2 : Cond.selects RX11 yX11_needPathQuestion yX11_needPathQuestion ∈ bT := List.mem_append_left _ (in_r44 _ (List.mem_of_getElem? (i := 2) rfl))
theorem tb_44_4 : Cond.methodLink RX11 226 yX9_maskOf ∈ bT := List.mem_append_left _ (in_r44 _ (List.mem_of_getElem? (i := 4) rfl))
theorem tb_44_7 : Cond.code yX9_maskOf cX9_maskOf 4 (some .int) ∈ bT := List.mem_append_left _ (in_r44 _ (List.mem_of_getElem? (i := 7) rfl))
theorem tb_44_5 : Cond.instanceMethod yX9_maskOf ∈ bT := List.mem_append_left _ (in_r44 _ (List.mem_of_getElem? (i := 5) rfl))
theorem tb_44_6 : Cond.selects RX9 yX9_maskOf yX9_maskOf ∈ bT := List.mem_append_left _ (in_r44 _ (List.mem_of_getElem? (i := 6) rfl))
theorem tb_44_9 : Cond.methodLink RX11 229 yX9_aimsOf ∈ bT := List.mem_append_left _ (in_r44 _ (List.mem_of_getElem? (i := 9) rfl))
theorem tb_44_12 : Cond.code yX9_aimsOf cX9_aimsOf 4 (some .int) ∈ bT := List.mem_append_left _ (in_r44 _ (List.mem_of_getElem? (i := 12) rfl))
theorem tb_44_10 : Cond.instanceMethod yX9_aimsOf ∈ bT := List.mem_append_left _ (in_r44 _ (List.mem_of_getElem? (i := 10) rfl))
theorem tb_44_11 : Cond.selects RX9 yX9_aimsOf yX9_aimsOf ∈ bT := List.mem_append_left _ (in_r44 _ (List.mem_of_getElem? (i := 11) rfl))
theorem tb_44_13 : Cond.methodLink RX11 232 yX7_tell ∈ bT := List.mem_append_left _ (in_r44 _ (List.mem_of_getElem? (i := 13) rfl))
theorem tb_44_16 : Cond.code yX7_tell cX7_tell 4 none ∈ bT := List.mem_append_left _ (in_r44 _ (List.mem_of_getElem? (i := 16) rfl))
theorem tb_2_15 : Cond.initialized RX7 ∈ bT := List.mem_append_left _ (in_r2 _ (List.mem_of_getElem? (i := 15) rfl))
theorem tb_44_14 : Cond.instanceMethod yX7_tell ∈ bT := List.mem_append_left _ (in_r44 _ (List.mem_of_getElem? (i := 14) rfl))
theorem tb_44_15 : Cond.selects RX7 yX7_tell yX7_tell ∈ bT := List.mem_append_left _ (in_r44 _ (List.mem_of_getElem? (i := 15) rfl))
theorem tb_46_6 : Cond.methodLink RX11 242 yX11_pathAnswer ∈ bT := List.mem_append_left _ (in_r46 _ (List.mem_of_getElem? (i := 6) rfl))
theorem tb_46_9 : Cond.code yX11_pathAnswer cX11_pathAnswer 5 (some .int) ∈ bT := List.mem_append_left _ (in_r46 _ (List.mem_of_getElem? (i := 9) rfl))
theorem tb_46_7 : Cond.instanceMethod yX11_pathAnswer ∈ bT := List.mem_append_left _ (in_r46 _ (List.mem_of_getElem? (i := 7) rfl))
theorem tb_46_8 : Cond.selects RX11 yX11_pathAnswer yX11_pathAnswer ∈ bT := List.mem_append_left _ (in_r46 _ (List.mem_of_getElem? (i := 8) rfl))
theorem tb_50_22 : Cond.methodLink RX11 248 yX7_seatAll ∈ bT := List.mem_append_left _ (in_r50 _ (List.mem_of_getElem? (i := 22) rfl))
theorem tb_51_1 : Cond.code yX7_seatAll cX7_seatAll 3 none ∈ bT := List.mem_append_left _ (in_r51 _ (List.mem_of_getElem? (i := 1) rfl))
theorem tb_50_23 : Cond.instanceMethod yX7_seatAll ∈ bT := List.mem_append_left _ (in_r50 _ (List.mem_of_getElem? (i := 23) rfl))
theorem tb_51_0 : Cond.selects RX7 yX7_seatAll yX7_seatAll ∈ bT := List.mem_append_left _ (in_r51 _ (List.mem_of_getElem? (i := 0) rfl))
theorem tb_52_5 : Cond.methodLink RX11 258 yX11_idle ∈ bT := List.mem_append_left _ (in_r52 _ (List.mem_of_getElem? (i := 5) rfl))
theorem tb_52_8 : Cond.code yX11_idle cX11_idle 1 (some .int) ∈ bT := List.mem_append_left _ (in_r52 _ (List.mem_of_getElem? (i := 8) rfl))
theorem tb_52_6 : Cond.instanceMethod yX11_idle ∈ bT := List.mem_append_left _ (in_r52 _ (List.mem_of_getElem? (i := 6) rfl))
theorem tb_52_7 : Cond.selects RX11 yX11_idle yX11_idle ∈ bT := List.mem_append_left _ (in_r52 _ (List.mem_of_getElem? (i := 7) rfl))
theorem tb_52_10 : Cond.methodLink RX11 262 yX7_manyTurns ∈ bT := List.mem_append_left _ (in_r52 _ (List.mem_of_getElem? (i := 10) rfl))
theorem tb_52_13 : Cond.code yX7_manyTurns cX7_manyTurns 1 (some .int) ∈ bT := List.mem_append_left _ (in_r52 _ (List.mem_of_getElem? (i := 13) rfl))
theorem tb_52_11 : Cond.instanceMethod yX7_manyTurns ∈ bT := List.mem_append_left _ (in_r52 _ (List.mem_of_getElem? (i := 11) rfl))
theorem tb_52_12 : Cond.selects RX7 yX7_manyTurns yX7_manyTurns ∈ bT := List.mem_append_left _ (in_r52 _ (List.mem_of_getElem? (i := 12) rfl))
theorem tb_54_9 : Cond.methodLink RX11 269 yX5_list ∈ bT := List.mem_append_left _ (in_r54 _ (List.mem_of_getElem? (i := 9) rfl))
theorem tb_54_12 : Cond.code yX5_list cX5_list 6 none ∈ bT := List.mem_append_left _ (in_r54 _ (List.mem_of_getElem? (i := 12) rfl))
theorem tb_2_19 : Cond.initialized RX5 ∈ bT := List.mem_append_left _ (in_r2 _ (List.mem_of_getElem? (i := 19) rfl))
theorem tb_54_10 : Cond.instanceMethod yX5_list ∈ bT := List.mem_append_left _ (in_r54 _ (List.mem_of_getElem? (i := 10) rfl))
theorem tb_54_11 : Cond.selects RX5 yX5_list yX5_list ∈ bT := List.mem_append_left _ (in_r54 _ (List.mem_of_getElem? (i := 11) rfl))
theorem tb_55_20 : Cond.methodLink RX11 286 yJ6_bitCount_0f7a4 ∈ bT := List.mem_append_left _ (in_r55 _ (List.mem_of_getElem? (i := 20) rfl))
theorem tb_51_17 : Cond.code yJ6_bitCount_0f7a4 cJ6_bitCount_0f7a4 1 (some .int) ∈ bT := List.mem_append_left _ (in_r51 _ (List.mem_of_getElem? (i := 17) rfl))
theorem tb_51_16 : Cond.initialized RJ6 ∈ bT := List.mem_append_left _ (in_r51 _ (List.mem_of_getElem? (i := 16) rfl))
theorem tb_51_15 : Cond.static yJ6_bitCount_0f7a4 ∈ bT := List.mem_append_left _ (in_r51 _ (List.mem_of_getElem? (i := 15) rfl))
theorem tb_56_8 : Cond.methodLink RX11 291 yX7_reaches ∈ bT := List.mem_append_left _ (in_r56 _ (List.mem_of_getElem? (i := 8) rfl))
theorem tb_56_11 : Cond.code yX7_reaches cX7_reaches 4 (some .boolean) ∈ bT := List.mem_append_left _ (in_r56 _ (List.mem_of_getElem? (i := 11) rfl))
theorem tb_56_9 : Cond.instanceMethod yX7_reaches ∈ bT := List.mem_append_left _ (in_r56 _ (List.mem_of_getElem? (i := 9) rfl))
theorem tb_56_10 : Cond.selects RX7 yX7_reaches yX7_reaches ∈ bT := List.mem_append_left _ (in_r56 _ (List.mem_of_getElem? (i := 10) rfl))
theorem tb_57_2 : Cond.methodLink RX11 295 yX7_pairAll ∈ bT := List.mem_append_left _ (in_r57 _ (List.mem_of_getElem? (i := 2) rfl))
theorem tb_57_5 : Cond.code yX7_pairAll cX7_pairAll 3 none ∈ bT := List.mem_append_left _ (in_r57 _ (List.mem_of_getElem? (i := 5) rfl))
theorem tb_57_3 : Cond.instanceMethod yX7_pairAll ∈ bT := List.mem_append_left _ (in_r57 _ (List.mem_of_getElem? (i := 3) rfl))
theorem tb_57_4 : Cond.selects RX7 yX7_pairAll yX7_pairAll ∈ bT := List.mem_append_left _ (in_r57 _ (List.mem_of_getElem? (i := 4) rfl))
theorem tb_58_3 : Cond.methodLink RX11 309 yX0_settle ∈ bT := List.mem_append_left _ (in_r58 _ (List.mem_of_getElem? (i := 3) rfl))
theorem tb_60_0 : Cond.methodLink RX11 319 yX11_needMinutes ∈ bT := List.mem_append_left _ (in_r60 _ (List.mem_of_getElem? (i := 0) rfl))
theorem tb_60_3 : Cond.code yX11_needMinutes cX11_needMinutes 3 none ∈ bT := List.mem_append_left _ (in_r60 _ (List.mem_of_getElem? (i := 3) rfl))
theorem tb_60_1 : Cond.instanceMethod yX11_needMinutes ∈ bT := List.mem_append_left _ (in_r60 _ (List.mem_of_getElem? (i := 1) rfl))
theorem tb_60_2 : Cond.selects RX11 yX11_needMinutes yX11_needMinutes ∈ bT := List.mem_append_left _ (in_r60 _ (List.mem_of_getElem? (i := 2) rfl))
theorem tb_60_4 : Cond.methodLink RX11 322 yX0_lookIn ∈ bT := List.mem_append_left _ (in_r60 _ (List.mem_of_getElem? (i := 4) rfl))
theorem tb_60_7 : Cond.code yX0_lookIn cX0_lookIn 5 (some .int) ∈ bT := List.mem_append_left _ (in_r60 _ (List.mem_of_getElem? (i := 7) rfl))
theorem tb_60_5 : Cond.instanceMethod yX0_lookIn ∈ bT := List.mem_append_left _ (in_r60 _ (List.mem_of_getElem? (i := 5) rfl))
theorem tb_60_6 : Cond.selects RX0 yX0_lookIn yX0_lookIn ∈ bT := List.mem_append_left _ (in_r60 _ (List.mem_of_getElem? (i := 6) rfl))
theorem tb_61_15 : Cond.methodLink RX11 325 yX0_reignOf ∈ bT := List.mem_append_left _ (in_r61 _ (List.mem_of_getElem? (i := 15) rfl))
theorem tb_61_18 : Cond.code yX0_reignOf cX0_reignOf 6 (some .int) ∈ bT := List.mem_append_left _ (in_r61 _ (List.mem_of_getElem? (i := 18) rfl))
theorem tb_61_16 : Cond.instanceMethod yX0_reignOf ∈ bT := List.mem_append_left _ (in_r61 _ (List.mem_of_getElem? (i := 16) rfl))
theorem tb_61_17 : Cond.selects RX0 yX0_reignOf yX0_reignOf ∈ bT := List.mem_append_left _ (in_r61 _ (List.mem_of_getElem? (i := 17) rfl))
theorem tb_62_8 : Cond.methodLink RX11 328 yX0_firstOf ∈ bT := List.mem_append_left _ (in_r62 _ (List.mem_of_getElem? (i := 8) rfl))
theorem tb_62_11 : Cond.code yX0_firstOf cX0_firstOf 4 (some .int) ∈ bT := List.mem_append_left _ (in_r62 _ (List.mem_of_getElem? (i := 11) rfl))
theorem tb_62_9 : Cond.instanceMethod yX0_firstOf ∈ bT := List.mem_append_left _ (in_r62 _ (List.mem_of_getElem? (i := 9) rfl))
theorem tb_62_10 : Cond.selects RX0 yX0_firstOf yX0_firstOf ∈ bT := List.mem_append_left _ (in_r62 _ (List.mem_of_getElem? (i := 10) rfl))
theorem tb_62_23 : Cond.methodLink RX11 331 yX11_listSeen ∈ bT := List.mem_append_left _ (in_r62 _ (List.mem_of_getElem? (i := 23) rfl))
theorem tb_63_2 : Cond.code yX11_listSeen cX11_listSeen 4 (some .int) ∈ bT := List.mem_append_left _ (in_r63 _ (List.mem_of_getElem? (i := 2) rfl))
theorem tb_63_0 : Cond.instanceMethod yX11_listSeen ∈ bT := List.mem_append_left _ (in_r63 _ (List.mem_of_getElem? (i := 0) rfl))
theorem tb_63_1 : Cond.selects RX11 yX11_listSeen yX11_listSeen ∈ bT := List.mem_append_left _ (in_r63 _ (List.mem_of_getElem? (i := 1) rfl))
theorem tb_64_6 : Cond.methodLink RX11 336 yX5_mostAlike ∈ bT := List.mem_append_left _ (in_r64 _ (List.mem_of_getElem? (i := 6) rfl))
theorem tb_64_9 : Cond.code yX5_mostAlike cX5_mostAlike 5 (some .int) ∈ bT := List.mem_append_left _ (in_r64 _ (List.mem_of_getElem? (i := 9) rfl))
theorem tb_64_7 : Cond.instanceMethod yX5_mostAlike ∈ bT := List.mem_append_left _ (in_r64 _ (List.mem_of_getElem? (i := 7) rfl))
theorem tb_64_8 : Cond.selects RX5 yX5_mostAlike yX5_mostAlike ∈ bT := List.mem_append_left _ (in_r64 _ (List.mem_of_getElem? (i := 8) rfl))
theorem tb_65_6 : Cond.methodLink RX11 339 yX11_needChances ∈ bT := List.mem_append_left _ (in_r65 _ (List.mem_of_getElem? (i := 6) rfl))
theorem tb_65_9 : Cond.code yX11_needChances cX11_needChances 2 none ∈ bT := List.mem_append_left _ (in_r65 _ (List.mem_of_getElem? (i := 9) rfl))
theorem tb_65_7 : Cond.instanceMethod yX11_needChances ∈ bT := List.mem_append_left _ (in_r65 _ (List.mem_of_getElem? (i := 7) rfl))
theorem tb_65_8 : Cond.selects RX11 yX11_needChances yX11_needChances ∈ bT := List.mem_append_left _ (in_r65 _ (List.mem_of_getElem? (i := 8) rfl))
theorem tb_65_10 : Cond.methodLink RX11 344 yX5_scatter ∈ bT := List.mem_append_left _ (in_r65 _ (List.mem_of_getElem? (i := 10) rfl))
theorem tb_65_13 : Cond.code yX5_scatter cX5_scatter 3 none ∈ bT := List.mem_append_left _ (in_r65 _ (List.mem_of_getElem? (i := 13) rfl))
theorem tb_65_11 : Cond.instanceMethod yX5_scatter ∈ bT := List.mem_append_left _ (in_r65 _ (List.mem_of_getElem? (i := 11) rfl))
theorem tb_65_12 : Cond.selects RX5 yX5_scatter yX5_scatter ∈ bT := List.mem_append_left _ (in_r65 _ (List.mem_of_getElem? (i := 12) rfl))
theorem tb_65_19 : Cond.methodLink RX11 353 yX11_commonMeasure ∈ bT := List.mem_append_left _ (in_r65 _ (List.mem_of_getElem? (i := 19) rfl))
theorem tb_65_21 : Cond.code yX11_commonMeasure cX11_commonMeasure 6 (some .int) ∈ bT := List.mem_append_left _ (in_r65 _ (List.mem_of_getElem? (i := 21) rfl))
theorem tb_65_20 : Cond.static yX11_commonMeasure ∈ bT := List.mem_append_left _ (in_r65 _ (List.mem_of_getElem? (i := 20) rfl))
theorem tb_67_12 : Cond.methodLink RX11 363 yX9_clearTo ∈ bT := List.mem_append_left _ (in_r67 _ (List.mem_of_getElem? (i := 12) rfl))
theorem tb_67_15 : Cond.code yX9_clearTo cX9_clearTo 3 none ∈ bT := List.mem_append_left _ (in_r67 _ (List.mem_of_getElem? (i := 15) rfl))
theorem tb_67_13 : Cond.instanceMethod yX9_clearTo ∈ bT := List.mem_append_left _ (in_r67 _ (List.mem_of_getElem? (i := 13) rfl))
theorem tb_67_14 : Cond.selects RX9 yX9_clearTo yX9_clearTo ∈ bT := List.mem_append_left _ (in_r67 _ (List.mem_of_getElem? (i := 14) rfl))
theorem tb_68_10 : Cond.methodLink RX11 371 yX9_put ∈ bT := List.mem_append_left _ (in_r68 _ (List.mem_of_getElem? (i := 10) rfl))
theorem tb_68_13 : Cond.code yX9_put cX9_put 6 (some .long) ∈ bT := List.mem_append_left _ (in_r68 _ (List.mem_of_getElem? (i := 13) rfl))
theorem tb_68_11 : Cond.instanceMethod yX9_put ∈ bT := List.mem_append_left _ (in_r68 _ (List.mem_of_getElem? (i := 11) rfl))
theorem tb_68_12 : Cond.selects RX9 yX9_put yX9_put ∈ bT := List.mem_append_left _ (in_r68 _ (List.mem_of_getElem? (i := 12) rfl))
theorem tb_69_22 : Cond.methodLink RX11 380 yX11_needImage ∈ bT := List.mem_append_left _ (in_r69 _ (List.mem_of_getElem? (i := 22) rfl))
theorem tb_70_1 : Cond.code yX11_needImage cX11_needImage 2 none ∈ bT := List.mem_append_left _ (in_r70 _ (List.mem_of_getElem? (i := 1) rfl))
theorem tb_69_23 : Cond.instanceMethod yX11_needImage ∈ bT := List.mem_append_left _ (in_r69 _ (List.mem_of_getElem? (i := 23) rfl))
theorem tb_70_0 : Cond.selects RX11 yX11_needImage yX11_needImage ∈ bT := List.mem_append_left _ (in_r70 _ (List.mem_of_getElem? (i := 0) rfl))
theorem tb_70_22 : Cond.methodLink RX11 391 yX6_lookingOut ∈ bT := List.mem_append_left _ (in_r70 _ (List.mem_of_getElem? (i := 22) rfl))
theorem tb_71_1 : Cond.code yX6_lookingOut cX6_lookingOut 3 (some .int) ∈ bT := List.mem_append_left _ (in_r71 _ (List.mem_of_getElem? (i := 1) rfl))
theorem tb_70_23 : Cond.instanceMethod yX6_lookingOut ∈ bT := List.mem_append_left _ (in_r70 _ (List.mem_of_getElem? (i := 23) rfl))
theorem tb_71_0 : Cond.selects RX6 yX6_lookingOut yX6_lookingOut ∈ bT := List.mem_append_left _ (in_r71 _ (List.mem_of_getElem? (i := 0) rfl))
theorem tb_71_2 : Cond.methodLink RX11 394 yX1_kneesIn ∈ bT := List.mem_append_left _ (in_r71 _ (List.mem_of_getElem? (i := 2) rfl))
theorem tb_57_12 : Cond.code yX1_kneesIn cX1_kneesIn 5 (some .int) ∈ bT := List.mem_append_left _ (in_r57 _ (List.mem_of_getElem? (i := 12) rfl))
theorem tb_57_11 : Cond.static yX1_kneesIn ∈ bT := List.mem_append_left _ (in_r57 _ (List.mem_of_getElem? (i := 11) rfl))
theorem tb_71_3 : Cond.methodLink RX11 397 yX6_weightsTogether ∈ bT := List.mem_append_left _ (in_r71 _ (List.mem_of_getElem? (i := 3) rfl))
theorem tb_71_6 : Cond.code yX6_weightsTogether cX6_weightsTogether 3 (some .int) ∈ bT := List.mem_append_left _ (in_r71 _ (List.mem_of_getElem? (i := 6) rfl))
theorem tb_71_4 : Cond.instanceMethod yX6_weightsTogether ∈ bT := List.mem_append_left _ (in_r71 _ (List.mem_of_getElem? (i := 4) rfl))
theorem tb_71_5 : Cond.selects RX6 yX6_weightsTogether yX6_weightsTogether ∈ bT := List.mem_append_left _ (in_r71 _ (List.mem_of_getElem? (i := 5) rfl))
theorem tb_43_18 : Cond.methodLink RX11 407 yX9_tellsLook ∈ bT := List.mem_append_left _ (in_r43 _ (List.mem_of_getElem? (i := 18) rfl))
theorem tb_43_21 : Cond.code yX9_tellsLook cX9_tellsLook 3 (some .boolean) ∈ bT := List.mem_append_left _ (in_r43 _ (List.mem_of_getElem? (i := 21) rfl))
theorem tb_43_19 : Cond.instanceMethod yX9_tellsLook ∈ bT := List.mem_append_left _ (in_r43 _ (List.mem_of_getElem? (i := 19) rfl))
theorem tb_43_20 : Cond.selects RX9 yX9_tellsLook yX9_tellsLook ∈ bT := List.mem_append_left _ (in_r43 _ (List.mem_of_getElem? (i := 20) rfl))
theorem tb_17_19 : Cond.methodLink RX2 47 yX2_unwind ∈ bT := List.mem_append_left _ (in_r17 _ (List.mem_of_getElem? (i := 19) rfl))
theorem tb_17_22 : Cond.code yX2_unwind cX2_unwind 2 none ∈ bT := List.mem_append_left _ (in_r17 _ (List.mem_of_getElem? (i := 22) rfl))
theorem tb_3_11 : Cond.initialized RX2 ∈ bT := List.mem_append_left _ (in_r3 _ (List.mem_of_getElem? (i := 11) rfl))
theorem tb_17_20 : Cond.instanceMethod yX2_unwind ∈ bT := List.mem_append_left _ (in_r17 _ (List.mem_of_getElem? (i := 20) rfl))
theorem tb_17_21 : Cond.selects RX2 yX2_unwind yX2_unwind ∈ bT := List.mem_append_left _ (in_r17 _ (List.mem_of_getElem? (i := 21) rfl))
theorem tb_16_14 : Cond.methodLink RX2 57 yX2_nameOf ∈ bT := List.mem_append_left _ (in_r16 _ (List.mem_of_getElem? (i := 14) rfl))
theorem tb_16_17 : Cond.code yX2_nameOf cX2_nameOf 2 (some .int) ∈ bT := List.mem_append_left _ (in_r16 _ (List.mem_of_getElem? (i := 17) rfl))
theorem tb_16_15 : Cond.instanceMethod yX2_nameOf ∈ bT := List.mem_append_left _ (in_r16 _ (List.mem_of_getElem? (i := 15) rfl))
theorem tb_16_16 : Cond.selects RX2 yX2_nameOf yX2_nameOf ∈ bT := List.mem_append_left _ (in_r16 _ (List.mem_of_getElem? (i := 16) rfl))
theorem tb_16_19 : Cond.methodLink RX2 69 yX2_emit ∈ bT := List.mem_append_left _ (in_r16 _ (List.mem_of_getElem? (i := 19) rfl))
theorem tb_16_22 : Cond.code yX2_emit cX2_emit 2 none ∈ bT := List.mem_append_left _ (in_r16 _ (List.mem_of_getElem? (i := 22) rfl))
theorem tb_16_20 : Cond.instanceMethod yX2_emit ∈ bT := List.mem_append_left _ (in_r16 _ (List.mem_of_getElem? (i := 20) rfl))
theorem tb_16_21 : Cond.selects RX2 yX2_emit yX2_emit ∈ bT := List.mem_append_left _ (in_r16 _ (List.mem_of_getElem? (i := 21) rfl))
theorem tb_16_18 : Cond.methodLink RX2 74 yX8_isWord ∈ bT := List.mem_append_left _ (in_r16 _ (List.mem_of_getElem? (i := 18) rfl))
theorem tb_11_14 : Cond.code yX8_isWord cX8_isWord 3 (some .boolean) ∈ bT := List.mem_append_left _ (in_r11 _ (List.mem_of_getElem? (i := 14) rfl))
theorem tb_3_7 : Cond.initialized RX8 ∈ bT := List.mem_append_left _ (in_r3 _ (List.mem_of_getElem? (i := 7) rfl))
theorem tb_11_12 : Cond.instanceMethod yX8_isWord ∈ bT := List.mem_append_left _ (in_r11 _ (List.mem_of_getElem? (i := 12) rfl))
theorem tb_11_13 : Cond.selects RX8 yX8_isWord yX8_isWord ∈ bT := List.mem_append_left _ (in_r11 _ (List.mem_of_getElem? (i := 13) rfl))
theorem tb_16_23 : Cond.methodLink RX2 80 yX2_open ∈ bT := List.mem_append_left _ (in_r16 _ (List.mem_of_getElem? (i := 23) rfl))
theorem tb_17_2 : Cond.code yX2_open cX2_open 2 (some .int) ∈ bT := List.mem_append_left _ (in_r17 _ (List.mem_of_getElem? (i := 2) rfl))
theorem tb_17_0 : Cond.instanceMethod yX2_open ∈ bT := List.mem_append_left _ (in_r17 _ (List.mem_of_getElem? (i := 0) rfl))
theorem tb_17_1 : Cond.selects RX2 yX2_open yX2_open ∈ bT := List.mem_append_left _ (in_r17 _ (List.mem_of_getElem? (i := 1) rfl))
theorem tb_17_7 : Cond.methodLink RX2 84 yX8_isSignOf ∈ bT := List.mem_append_left _ (in_r17 _ (List.mem_of_getElem? (i := 7) rfl))
theorem tb_14_15 : Cond.code yX8_isSignOf cX8_isSignOf 2 (some .boolean) ∈ bT := List.mem_append_left _ (in_r14 _ (List.mem_of_getElem? (i := 15) rfl))
theorem tb_14_13 : Cond.instanceMethod yX8_isSignOf ∈ bT := List.mem_append_left _ (in_r14 _ (List.mem_of_getElem? (i := 13) rfl))
theorem tb_14_14 : Cond.selects RX8 yX8_isSignOf yX8_isSignOf ∈ bT := List.mem_append_left _ (in_r14 _ (List.mem_of_getElem? (i := 14) rfl))
theorem tb_17_3 : Cond.methodLink RX2 88 yX2_push ∈ bT := List.mem_append_left _ (in_r17 _ (List.mem_of_getElem? (i := 3) rfl))
theorem tb_17_6 : Cond.code yX2_push cX2_push 2 none ∈ bT := List.mem_append_left _ (in_r17 _ (List.mem_of_getElem? (i := 6) rfl))
theorem tb_17_4 : Cond.instanceMethod yX2_push ∈ bT := List.mem_append_left _ (in_r17 _ (List.mem_of_getElem? (i := 4) rfl))
theorem tb_17_5 : Cond.selects RX2 yX2_push yX2_push ∈ bT := List.mem_append_left _ (in_r17 _ (List.mem_of_getElem? (i := 5) rfl))
theorem tb_17_12 : Cond.methodLink RX2 95 yX2_link ∈ bT := List.mem_append_left _ (in_r17 _ (List.mem_of_getElem? (i := 12) rfl))
theorem tb_17_15 : Cond.code yX2_link cX2_link 2 none ∈ bT := List.mem_append_left _ (in_r17 _ (List.mem_of_getElem? (i := 15) rfl))
theorem tb_17_13 : Cond.instanceMethod yX2_link ∈ bT := List.mem_append_left _ (in_r17 _ (List.mem_of_getElem? (i := 13) rfl))
theorem tb_17_14 : Cond.selects RX2 yX2_link yX2_link ∈ bT := List.mem_append_left _ (in_r17 _ (List.mem_of_getElem? (i := 14) rfl))
theorem tb_17_23 : Cond.methodLink RX2 98 yX2_close ∈ bT := List.mem_append_left _ (in_r17 _ (List.mem_of_getElem? (i := 23) rfl))
theorem tb_18_2 : Cond.code yX2_close cX2_close 1 none ∈ bT := List.mem_append_left _ (in_r18 _ (List.mem_of_getElem? (i := 2) rfl))
theorem tb_18_0 : Cond.instanceMethod yX2_close ∈ bT := List.mem_append_left _ (in_r18 _ (List.mem_of_getElem? (i := 0) rfl))
theorem tb_18_1 : Cond.selects RX2 yX2_close yX2_close ∈ bT := List.mem_append_left _ (in_r18 _ (List.mem_of_getElem? (i := 1) rfl))
theorem tb_18_3 : Cond.methodLink RX2 101 yX2_linkOf ∈ bT := List.mem_append_left _ (in_r18 _ (List.mem_of_getElem? (i := 3) rfl))
theorem tb_18_5 : Cond.code yX2_linkOf cX2_linkOf 1 (some .int) ∈ bT := List.mem_append_left _ (in_r18 _ (List.mem_of_getElem? (i := 5) rfl))
theorem tb_18_4 : Cond.static yX2_linkOf ∈ bT := List.mem_append_left _ (in_r18 _ (List.mem_of_getElem? (i := 4) rfl))
theorem tb_18_6 : Cond.methodLink RX2 104 yX2_isComparison ∈ bT := List.mem_append_left _ (in_r18 _ (List.mem_of_getElem? (i := 6) rfl))
theorem tb_18_8 : Cond.code yX2_isComparison cX2_isComparison 1 (some .boolean) ∈ bT := List.mem_append_left _ (in_r18 _ (List.mem_of_getElem? (i := 8) rfl))
theorem tb_18_7 : Cond.static yX2_isComparison ∈ bT := List.mem_append_left _ (in_r18 _ (List.mem_of_getElem? (i := 7) rfl))
theorem tb_17_16 : Cond.methodLink RX2 108 yX2_bondOf ∈ bT := List.mem_append_left _ (in_r17 _ (List.mem_of_getElem? (i := 16) rfl))
theorem tb_17_18 : Cond.code yX2_bondOf cX2_bondOf 1 (some .int) ∈ bT := List.mem_append_left _ (in_r17 _ (List.mem_of_getElem? (i := 18) rfl))
theorem tb_17_17 : Cond.static yX2_bondOf ∈ bT := List.mem_append_left _ (in_r17 _ (List.mem_of_getElem? (i := 17) rfl))
theorem tb_11_11 : Cond.methodLink RX3 71 yX8_isWord ∈ bT := List.mem_append_left _ (in_r11 _ (List.mem_of_getElem? (i := 11) rfl))
theorem tb_13_16 : Cond.methodLink RX3 75 yX3_refuse ∈ bT := List.mem_append_left _ (in_r13 _ (List.mem_of_getElem? (i := 16) rfl))
theorem tb_13_19 : Cond.code yX3_refuse cX3_refuse 2 none ∈ bT := List.mem_append_left _ (in_r13 _ (List.mem_of_getElem? (i := 19) rfl))
theorem tb_1_19 : Cond.initialized RX3 ∈ bT := List.mem_append_left _ (in_r1 _ (List.mem_of_getElem? (i := 19) rfl))
theorem tb_13_17 : Cond.instanceMethod yX3_refuse ∈ bT := List.mem_append_left _ (in_r13 _ (List.mem_of_getElem? (i := 17) rfl))
theorem tb_13_18 : Cond.selects RX3 yX3_refuse yX3_refuse ∈ bT := List.mem_append_left _ (in_r13 _ (List.mem_of_getElem? (i := 18) rfl))
theorem tb_13_21 : Cond.methodLink RX3 78 yX8_step ∈ bT := List.mem_append_left _ (in_r13 _ (List.mem_of_getElem? (i := 21) rfl))
theorem tb_10_9 : Cond.code yX8_step cX8_step 1 none ∈ bT := List.mem_append_left _ (in_r10 _ (List.mem_of_getElem? (i := 9) rfl))
theorem tb_10_7 : Cond.instanceMethod yX8_step ∈ bT := List.mem_append_left _ (in_r10 _ (List.mem_of_getElem? (i := 7) rfl))
theorem tb_10_8 : Cond.selects RX8 yX8_step yX8_step ∈ bT := List.mem_append_left _ (in_r10 _ (List.mem_of_getElem? (i := 8) rfl))
theorem tb_13_22 : Cond.methodLink RX3 81 yX3_takeNumber ∈ bT := List.mem_append_left _ (in_r13 _ (List.mem_of_getElem? (i := 22) rfl))
theorem tb_14_1 : Cond.code yX3_takeNumber cX3_takeNumber 4 (some .int) ∈ bT := List.mem_append_left _ (in_r14 _ (List.mem_of_getElem? (i := 1) rfl))
theorem tb_13_23 : Cond.instanceMethod yX3_takeNumber ∈ bT := List.mem_append_left _ (in_r13 _ (List.mem_of_getElem? (i := 23) rfl))
theorem tb_14_0 : Cond.selects RX3 yX3_takeNumber yX3_takeNumber ∈ bT := List.mem_append_left _ (in_r14 _ (List.mem_of_getElem? (i := 0) rfl))
theorem tb_14_3 : Cond.methodLink RX3 88 yX1_ofBits ∈ bT := List.mem_append_left _ (in_r14 _ (List.mem_of_getElem? (i := 3) rfl))
theorem tb_14_4 : Cond.methodLink RX3 97 yX3_endLine ∈ bT := List.mem_append_left _ (in_r14 _ (List.mem_of_getElem? (i := 4) rfl))
theorem tb_14_7 : Cond.code yX3_endLine cX3_endLine 1 none ∈ bT := List.mem_append_left _ (in_r14 _ (List.mem_of_getElem? (i := 7) rfl))
theorem tb_14_5 : Cond.instanceMethod yX3_endLine ∈ bT := List.mem_append_left _ (in_r14 _ (List.mem_of_getElem? (i := 5) rfl))
theorem tb_14_6 : Cond.selects RX3 yX3_endLine yX3_endLine ∈ bT := List.mem_append_left _ (in_r14 _ (List.mem_of_getElem? (i := 6) rfl))
theorem tb_15_0 : Cond.methodLink RX3 112 yX3_readFlag ∈ bT := List.mem_append_left _ (in_r15 _ (List.mem_of_getElem? (i := 0) rfl))
theorem tb_15_3 : Cond.code yX3_readFlag cX3_readFlag 2 none ∈ bT := List.mem_append_left _ (in_r15 _ (List.mem_of_getElem? (i := 3) rfl))
theorem tb_15_1 : Cond.instanceMethod yX3_readFlag ∈ bT := List.mem_append_left _ (in_r15 _ (List.mem_of_getElem? (i := 1) rfl))
theorem tb_15_2 : Cond.selects RX3 yX3_readFlag yX3_readFlag ∈ bT := List.mem_append_left _ (in_r15 _ (List.mem_of_getElem? (i := 2) rfl))
theorem tb_15_4 : Cond.methodLink RX3 117 yX1_with ∈ bT := List.mem_append_left _ (in_r15 _ (List.mem_of_getElem? (i := 4) rfl))
theorem tb_15_6 : Cond.code yX1_with cX1_with 4 (some .int) ∈ bT := List.mem_append_left _ (in_r15 _ (List.mem_of_getElem? (i := 6) rfl))
theorem tb_15_5 : Cond.static yX1_with ∈ bT := List.mem_append_left _ (in_r15 _ (List.mem_of_getElem? (i := 5) rfl))
theorem tb_14_8 : Cond.methodLink RX3 124 yX3_takeSign ∈ bT := List.mem_append_left _ (in_r14 _ (List.mem_of_getElem? (i := 8) rfl))
theorem tb_14_11 : Cond.code yX3_takeSign cX3_takeSign 2 none ∈ bT := List.mem_append_left _ (in_r14 _ (List.mem_of_getElem? (i := 11) rfl))
theorem tb_14_9 : Cond.instanceMethod yX3_takeSign ∈ bT := List.mem_append_left _ (in_r14 _ (List.mem_of_getElem? (i := 9) rfl))
theorem tb_14_10 : Cond.selects RX3 yX3_takeSign yX3_takeSign ∈ bT := List.mem_append_left _ (in_r14 _ (List.mem_of_getElem? (i := 10) rfl))
theorem tb_16_4 : Cond.methodLink RX3 148 yX2_isWhole ∈ bT := List.mem_append_left _ (in_r16 _ (List.mem_of_getElem? (i := 4) rfl))
theorem tb_16_7 : Cond.code yX2_isWhole cX2_isWhole 1 (some .boolean) ∈ bT := List.mem_append_left _ (in_r16 _ (List.mem_of_getElem? (i := 7) rfl))
theorem tb_16_5 : Cond.instanceMethod yX2_isWhole ∈ bT := List.mem_append_left _ (in_r16 _ (List.mem_of_getElem? (i := 5) rfl))
theorem tb_16_6 : Cond.selects RX2 yX2_isWhole yX2_isWhole ∈ bT := List.mem_append_left _ (in_r16 _ (List.mem_of_getElem? (i := 6) rfl))
theorem tb_14_12 : Cond.methodLink RX3 151 yX8_isSignOf ∈ bT := List.mem_append_left _ (in_r14 _ (List.mem_of_getElem? (i := 12) rfl))
theorem tb_27_14 : Cond.methodLink RX4 17 yX4_push ∈ bT := List.mem_append_left _ (in_r27 _ (List.mem_of_getElem? (i := 14) rfl))
theorem tb_27_17 : Cond.code yX4_push cX4_push 2 none ∈ bT := List.mem_append_left _ (in_r27 _ (List.mem_of_getElem? (i := 17) rfl))
theorem tb_1_23 : Cond.initialized RX4 ∈ bT := List.mem_append_left _ (in_r1 _ (List.mem_of_getElem? (i := 23) rfl))
theorem tb_27_15 : Cond.instanceMethod yX4_push ∈ bT := List.mem_append_left _ (in_r27 _ (List.mem_of_getElem? (i := 15) rfl))
theorem tb_27_16 : Cond.selects RX4 yX4_push yX4_push ∈ bT := List.mem_append_left _ (in_r27 _ (List.mem_of_getElem? (i := 16) rfl))
theorem tb_27_18 : Cond.methodLink RX4 21 yX4_pop ∈ bT := List.mem_append_left _ (in_r27 _ (List.mem_of_getElem? (i := 18) rfl))
theorem tb_27_21 : Cond.code yX4_pop cX4_pop 1 (some .int) ∈ bT := List.mem_append_left _ (in_r27 _ (List.mem_of_getElem? (i := 21) rfl))
theorem tb_27_19 : Cond.instanceMethod yX4_pop ∈ bT := List.mem_append_left _ (in_r27 _ (List.mem_of_getElem? (i := 19) rfl))
theorem tb_27_20 : Cond.selects RX4 yX4_pop yX4_pop ∈ bT := List.mem_append_left _ (in_r27 _ (List.mem_of_getElem? (i := 20) rfl))
theorem tb_27_22 : Cond.methodLink RX4 25 yX4_join ∈ bT := List.mem_append_left _ (in_r27 _ (List.mem_of_getElem? (i := 22) rfl))
theorem tb_28_0 : Cond.code yX4_join cX4_join 3 (some .long) ∈ bT := List.mem_append_left _ (in_r28 _ (List.mem_of_getElem? (i := 0) rfl))
theorem tb_27_23 : Cond.static yX4_join ∈ bT := List.mem_append_left _ (in_r27 _ (List.mem_of_getElem? (i := 23) rfl))
theorem tb_28_1 : Cond.methodLink RX4 29 yX4_bounded ∈ bT := List.mem_append_left _ (in_r28 _ (List.mem_of_getElem? (i := 1) rfl))
theorem tb_28_3 : Cond.code yX4_bounded cX4_bounded 2 (some .int) ∈ bT := List.mem_append_left _ (in_r28 _ (List.mem_of_getElem? (i := 3) rfl))
theorem tb_28_2 : Cond.static yX4_bounded ∈ bT := List.mem_append_left _ (in_r28 _ (List.mem_of_getElem? (i := 2) rfl))
theorem tb_54_18 : Cond.methodLink RX5 41 yX10_begin ∈ bT := List.mem_append_left _ (in_r54 _ (List.mem_of_getElem? (i := 18) rfl))
theorem tb_45_7 : Cond.code yX10_begin cX10_begin 3 none ∈ bT := List.mem_append_left _ (in_r45 _ (List.mem_of_getElem? (i := 7) rfl))
theorem tb_45_5 : Cond.instanceMethod yX10_begin ∈ bT := List.mem_append_left _ (in_r45 _ (List.mem_of_getElem? (i := 5) rfl))
theorem tb_45_6 : Cond.selects RX10 yX10_begin yX10_begin ∈ bT := List.mem_append_left _ (in_r45 _ (List.mem_of_getElem? (i := 6) rfl))
theorem tb_54_19 : Cond.methodLink RX5 56 yX10_pullAt ∈ bT := List.mem_append_left _ (in_r54 _ (List.mem_of_getElem? (i := 19) rfl))
theorem tb_54_22 : Cond.code yX10_pullAt cX10_pullAt 2 (some .int) ∈ bT := List.mem_append_left _ (in_r54 _ (List.mem_of_getElem? (i := 22) rfl))
theorem tb_54_20 : Cond.instanceMethod yX10_pullAt ∈ bT := List.mem_append_left _ (in_r54 _ (List.mem_of_getElem? (i := 20) rfl))
theorem tb_54_21 : Cond.selects RX10 yX10_pullAt yX10_pullAt ∈ bT := List.mem_append_left _ (in_r54 _ (List.mem_of_getElem? (i := 21) rfl))
theorem tb_54_23 : Cond.methodLink RX5 60 yX1_plus ∈ bT := List.mem_append_left _ (in_r54 _ (List.mem_of_getElem? (i := 23) rfl))
theorem tb_55_0 : Cond.methodLink RX5 66 yX10_freeAt ∈ bT := List.mem_append_left _ (in_r55 _ (List.mem_of_getElem? (i := 0) rfl))
theorem tb_55_3 : Cond.code yX10_freeAt cX10_freeAt 2 (some .int) ∈ bT := List.mem_append_left _ (in_r55 _ (List.mem_of_getElem? (i := 3) rfl))
theorem tb_55_1 : Cond.instanceMethod yX10_freeAt ∈ bT := List.mem_append_left _ (in_r55 _ (List.mem_of_getElem? (i := 1) rfl))
theorem tb_55_2 : Cond.selects RX10 yX10_freeAt yX10_freeAt ∈ bT := List.mem_append_left _ (in_r55 _ (List.mem_of_getElem? (i := 2) rfl))
theorem tb_64_11 : Cond.methodLink RX5 69 yJ7_fill_53178 ∈ bT := List.mem_append_left _ (in_r64 _ (List.mem_of_getElem? (i := 11) rfl))
theorem tb_51_4 : Cond.code yJ7_fill_53178 cJ7_fill_53178 4 none ∈ bT := List.mem_append_left _ (in_r51 _ (List.mem_of_getElem? (i := 4) rfl))
theorem tb_51_3 : Cond.static yJ7_fill_53178 ∈ bT := List.mem_append_left _ (in_r51 _ (List.mem_of_getElem? (i := 3) rfl))
theorem tb_64_12 : Cond.methodLink RX5 75 yX1_at ∈ bT := List.mem_append_left _ (in_r64 _ (List.mem_of_getElem? (i := 12) rfl))
theorem tb_65_15 : Cond.methodLink RX5 87 yX5_share ∈ bT := List.mem_append_left _ (in_r65 _ (List.mem_of_getElem? (i := 15) rfl))
theorem tb_65_17 : Cond.code yX5_share cX5_share 8 none ∈ bT := List.mem_append_left _ (in_r65 _ (List.mem_of_getElem? (i := 17) rfl))
theorem tb_65_16 : Cond.static yX5_share ∈ bT := List.mem_append_left _ (in_r65 _ (List.mem_of_getElem? (i := 16) rfl))
theorem tb_65_18 : Cond.methodLink RX5 91 yX6_chairOf ∈ bT := List.mem_append_left _ (in_r65 _ (List.mem_of_getElem? (i := 18) rfl))
theorem tb_4_20 : Cond.methodLink RX6 19 yX1_ofBits ∈ bT := List.mem_append_left _ (in_r4 _ (List.mem_of_getElem? (i := 20) rfl))
theorem tb_26_13 : Cond.methodLink RX6 79 yX1_at ∈ bT := List.mem_append_left _ (in_r26 _ (List.mem_of_getElem? (i := 13) rfl))
theorem tb_31_4 : Cond.methodLink RX6 83 yX6_votesIn ∈ bT := List.mem_append_left _ (in_r31 _ (List.mem_of_getElem? (i := 4) rfl))
theorem tb_27_9 : Cond.methodLink RX6 87 yX4_reckon ∈ bT := List.mem_append_left _ (in_r27 _ (List.mem_of_getElem? (i := 9) rfl))
theorem tb_27_12 : Cond.code yX4_reckon cX4_reckon 9 (some .int) ∈ bT := List.mem_append_left _ (in_r27 _ (List.mem_of_getElem? (i := 12) rfl))
theorem tb_27_10 : Cond.instanceMethod yX4_reckon ∈ bT := List.mem_append_left _ (in_r27 _ (List.mem_of_getElem? (i := 10) rfl))
theorem tb_27_11 : Cond.selects RX4 yX4_reckon yX4_reckon ∈ bT := List.mem_append_left _ (in_r27 _ (List.mem_of_getElem? (i := 11) rfl))
theorem tb_32_4 : Cond.methodLink RX6 104 yX6_isStuck ∈ bT := List.mem_append_left _ (in_r32 _ (List.mem_of_getElem? (i := 4) rfl))
theorem tb_32_5 : Cond.methodLink RX6 108 yX6_draggedBy ∈ bT := List.mem_append_left _ (in_r32 _ (List.mem_of_getElem? (i := 5) rfl))
theorem tb_37_6 : Cond.methodLink RX6 114 yX1_votesAt ∈ bT := List.mem_append_left _ (in_r37 _ (List.mem_of_getElem? (i := 6) rfl))
theorem tb_37_7 : Cond.methodLink RX6 118 yX6_pace ∈ bT := List.mem_append_left _ (in_r37 _ (List.mem_of_getElem? (i := 7) rfl))
theorem tb_34_19 : Cond.methodLink RX6 122 yX1_plus ∈ bT := List.mem_append_left _ (in_r34 _ (List.mem_of_getElem? (i := 19) rfl))
theorem tb_34_12 : Cond.methodLink RX6 126 yX6_has ∈ bT := List.mem_append_left _ (in_r34 _ (List.mem_of_getElem? (i := 12) rfl))
theorem tb_34_13 : Cond.methodLink RX6 129 yX6_remember ∈ bT := List.mem_append_left _ (in_r34 _ (List.mem_of_getElem? (i := 13) rfl))
theorem tb_34_18 : Cond.methodLink RX6 132 yX6_turningWith ∈ bT := List.mem_append_left _ (in_r34 _ (List.mem_of_getElem? (i := 18) rfl))
theorem tb_36_0 : Cond.methodLink RX6 135 yX1_with ∈ bT := List.mem_append_left _ (in_r36 _ (List.mem_of_getElem? (i := 0) rfl))
theorem tb_39_21 : Cond.methodLink RX6 142 yX6_passMinute ∈ bT := List.mem_append_left _ (in_r39 _ (List.mem_of_getElem? (i := 21) rfl))
theorem tb_39_22 : Cond.methodLink RX6 145 yX6_turnBy ∈ bT := List.mem_append_left _ (in_r39 _ (List.mem_of_getElem? (i := 22) rfl))
theorem tb_39_23 : Cond.methodLink RX6 148 yX6_giveWeight ∈ bT := List.mem_append_left _ (in_r39 _ (List.mem_of_getElem? (i := 23) rfl))
theorem tb_40_0 : Cond.methodLink RX6 151 yX6_toggleStuck ∈ bT := List.mem_append_left _ (in_r40 _ (List.mem_of_getElem? (i := 0) rfl))
theorem tb_45_4 : Cond.methodLink RX7 47 yX10_begin ∈ bT := List.mem_append_left _ (in_r45 _ (List.mem_of_getElem? (i := 4) rfl))
theorem tb_46_1 : Cond.methodLink RX7 83 yX10_advance ∈ bT := List.mem_append_left _ (in_r46 _ (List.mem_of_getElem? (i := 1) rfl))
theorem tb_46_4 : Cond.code yX10_advance cX10_advance 5 none ∈ bT := List.mem_append_left _ (in_r46 _ (List.mem_of_getElem? (i := 4) rfl))
theorem tb_46_2 : Cond.instanceMethod yX10_advance ∈ bT := List.mem_append_left _ (in_r46 _ (List.mem_of_getElem? (i := 2) rfl))
theorem tb_46_3 : Cond.selects RX10 yX10_advance yX10_advance ∈ bT := List.mem_append_left _ (in_r46 _ (List.mem_of_getElem? (i := 3) rfl))
theorem tb_51_2 : Cond.methodLink RX7 86 yJ7_fill_53178 ∈ bT := List.mem_append_left _ (in_r51 _ (List.mem_of_getElem? (i := 2) rfl))
theorem tb_51_5 : Cond.methodLink RX7 92 yX6_chairOf ∈ bT := List.mem_append_left _ (in_r51 _ (List.mem_of_getElem? (i := 5) rfl))
theorem tb_51_6 : Cond.methodLink RX7 96 yX7_seat ∈ bT := List.mem_append_left _ (in_r51 _ (List.mem_of_getElem? (i := 6) rfl))
theorem tb_51_9 : Cond.code yX7_seat cX7_seat 2 none ∈ bT := List.mem_append_left _ (in_r51 _ (List.mem_of_getElem? (i := 9) rfl))
theorem tb_51_7 : Cond.instanceMethod yX7_seat ∈ bT := List.mem_append_left _ (in_r51 _ (List.mem_of_getElem? (i := 7) rfl))
theorem tb_51_8 : Cond.selects RX7 yX7_seat yX7_seat ∈ bT := List.mem_append_left _ (in_r51 _ (List.mem_of_getElem? (i := 8) rfl))
theorem tb_51_11 : Cond.methodLink RX7 102 yX7_isLess ∈ bT := List.mem_append_left _ (in_r51 _ (List.mem_of_getElem? (i := 11) rfl))
theorem tb_51_13 : Cond.code yX7_isLess cX7_isLess 3 (some .boolean) ∈ bT := List.mem_append_left _ (in_r51 _ (List.mem_of_getElem? (i := 13) rfl))
theorem tb_51_12 : Cond.static yX7_isLess ∈ bT := List.mem_append_left _ (in_r51 _ (List.mem_of_getElem? (i := 12) rfl))
theorem tb_51_14 : Cond.methodLink RX7 106 yJ6_bitCount_0f7a4 ∈ bT := List.mem_append_left _ (in_r51 _ (List.mem_of_getElem? (i := 14) rfl))
theorem tb_57_10 : Cond.methodLink RX7 117 yX1_kneesIn ∈ bT := List.mem_append_left _ (in_r57 _ (List.mem_of_getElem? (i := 10) rfl))
theorem tb_10_6 : Cond.methodLink RX8 28 yX8_step ∈ bT := List.mem_append_left _ (in_r10 _ (List.mem_of_getElem? (i := 6) rfl))
theorem tb_10_13 : Cond.methodLink RX8 31 yX8_signAt ∈ bT := List.mem_append_left _ (in_r10 _ (List.mem_of_getElem? (i := 13) rfl))
theorem tb_10_16 : Cond.code yX8_signAt cX8_signAt 2 (some .int) ∈ bT := List.mem_append_left _ (in_r10 _ (List.mem_of_getElem? (i := 16) rfl))
theorem tb_10_14 : Cond.instanceMethod yX8_signAt ∈ bT := List.mem_append_left _ (in_r10 _ (List.mem_of_getElem? (i := 14) rfl))
theorem tb_10_15 : Cond.selects RX8 yX8_signAt yX8_signAt ∈ bT := List.mem_append_left _ (in_r10 _ (List.mem_of_getElem? (i := 15) rfl))
theorem tb_10_17 : Cond.methodLink RX8 35 yX8_isBlank ∈ bT := List.mem_append_left _ (in_r10 _ (List.mem_of_getElem? (i := 17) rfl))
theorem tb_10_19 : Cond.code yX8_isBlank cX8_isBlank 1 (some .boolean) ∈ bT := List.mem_append_left _ (in_r10 _ (List.mem_of_getElem? (i := 19) rfl))
theorem tb_10_18 : Cond.static yX8_isBlank ∈ bT := List.mem_append_left _ (in_r10 _ (List.mem_of_getElem? (i := 18) rfl))
theorem tb_10_20 : Cond.methodLink RX8 48 yX8_isLetter ∈ bT := List.mem_append_left _ (in_r10 _ (List.mem_of_getElem? (i := 20) rfl))
theorem tb_10_22 : Cond.code yX8_isLetter cX8_isLetter 1 (some .boolean) ∈ bT := List.mem_append_left _ (in_r10 _ (List.mem_of_getElem? (i := 22) rfl))
theorem tb_10_21 : Cond.static yX8_isLetter ∈ bT := List.mem_append_left _ (in_r10 _ (List.mem_of_getElem? (i := 21) rfl))
theorem tb_10_23 : Cond.methodLink RX8 51 yX8_isDigit ∈ bT := List.mem_append_left _ (in_r10 _ (List.mem_of_getElem? (i := 23) rfl))
theorem tb_11_1 : Cond.code yX8_isDigit cX8_isDigit 1 (some .boolean) ∈ bT := List.mem_append_left _ (in_r11 _ (List.mem_of_getElem? (i := 1) rfl))
theorem tb_11_0 : Cond.static yX8_isDigit ∈ bT := List.mem_append_left _ (in_r11 _ (List.mem_of_getElem? (i := 0) rfl))
theorem tb_11_2 : Cond.methodLink RX8 54 yX8_isSign ∈ bT := List.mem_append_left _ (in_r11 _ (List.mem_of_getElem? (i := 2) rfl))
theorem tb_11_4 : Cond.code yX8_isSign cX8_isSign 1 (some .boolean) ∈ bT := List.mem_append_left _ (in_r11 _ (List.mem_of_getElem? (i := 4) rfl))
theorem tb_11_3 : Cond.static yX8_isSign ∈ bT := List.mem_append_left _ (in_r11 _ (List.mem_of_getElem? (i := 3) rfl))
theorem tb_67_17 : Cond.methodLink RX9 22 yJ7_fill_d0a16 ∈ bT := List.mem_append_left _ (in_r67 _ (List.mem_of_getElem? (i := 17) rfl))
theorem tb_67_19 : Cond.code yJ7_fill_d0a16 cJ7_fill_d0a16 5 none ∈ bT := List.mem_append_left _ (in_r67 _ (List.mem_of_getElem? (i := 19) rfl))
theorem tb_67_18 : Cond.static yJ7_fill_d0a16 ∈ bT := List.mem_append_left _ (in_r67 _ (List.mem_of_getElem? (i := 18) rfl))
theorem tb_68_14 : Cond.methodLink RX9 28 yX9_cut ∈ bT := List.mem_append_left _ (in_r68 _ (List.mem_of_getElem? (i := 14) rfl))
theorem tb_68_17 : Cond.code yX9_cut cX9_cut 3 (some .long) ∈ bT := List.mem_append_left _ (in_r68 _ (List.mem_of_getElem? (i := 17) rfl))
theorem tb_68_15 : Cond.instanceMethod yX9_cut ∈ bT := List.mem_append_left _ (in_r68 _ (List.mem_of_getElem? (i := 15) rfl))
theorem tb_68_16 : Cond.selects RX9 yX9_cut yX9_cut ∈ bT := List.mem_append_left _ (in_r68 _ (List.mem_of_getElem? (i := 16) rfl))
theorem tb_43_23 : Cond.methodLink RX9 32 yX9_get ∈ bT := List.mem_append_left _ (in_r43 _ (List.mem_of_getElem? (i := 23) rfl))
theorem tb_44_8 : Cond.methodLink RX9 38 yX1_with ∈ bT := List.mem_append_left _ (in_r44 _ (List.mem_of_getElem? (i := 8) rfl))
def is8 (v : Int32) : Bool := decide (v.toInt8.toInt32 = v)
theorem is8_nar {v : Int32} (h : is8 v = true) : vp_nar .byte v = v := by rw [vp_nar_byte]; exact of_decide_eq_true h
theorem isB_fit {v : Int32} (h : isB v = true) : fits .boolean (.int v) = true := by
  rcases (of_decide_eq_true h : v = 0 ∨ v = 1) with h | h <;> subst h <;> rfl
abbrev CS : Type := (Nat → Nat → Int32) × (Nat → Nat → Int32) × (Nat → Nat → Int64) × (Nat → Nat → Nat)
abbrev PL : Type := Nat × Nat × (Nat → Nat × (Nat → Int32))
def tI (g : CS) (o k : Nat) (v : Int32) : CS := ((fun a => if a = o then upd (g.1 o) k v else g.1 a), g.2)
def tA (g : CS) (a i : Nat) (v : Int32) : CS := (g.1, (fun b => if b = a then upd (g.2.1 a) i v else g.2.1 b), g.2.2)
def tL (g : CS) (a i : Nat) (v : Int64) : CS := (g.1, g.2.1, (fun b => if b = a then vp_updL (g.2.2.1 a) i v else g.2.2.1 b), g.2.2.2)
def tF (g : CS) (o k w : Nat) : CS := (g.1, g.2.1, g.2.2.1, (fun a => if a = o then (fun j => if j = k then w else g.2.2.2 o j) else g.2.2.2 a))
def tC (g : CS) (a b sp dp n : Nat) : CS := (g.1, g.2.1, (fun x => if x = b then va_cpy (g.2.2.1 a) (g.2.2.1 b) sp dp n else g.2.2.1 x), g.2.2.2)
def okS (o : Nat) : Prop := o = 30 ∨ o = 31 ∨ o = 32 ∨ o = 33 ∨ o = 34
def okT (o : Nat) : Prop := o = 50 ∨ o = 51 ∨ o = 52 ∨ o = 53
def ok6 (o : Nat) : Prop := o = 18 ∨ o = 19 ∨ o = 20 ∨ o = 21 ∨ o = 25 ∨ o = 26
def okSb (o : Nat) : Bool := o == 30 || o == 31 || o == 32 || o == 33 || o == 34
def okTb (o : Nat) : Bool := o == 50 || o == 51 || o == 52 || o == 53
theorem okSb_t {o : Nat} (h : okSb o = true) : okS o := by simp [okSb] at h; unfold okS; omega
theorem okTb_t {o : Nat} (h : okTb o = true) : okT o := by simp [okTb] at h; unfold okT; omega
def inL (P : PL) (w : Nat) : Bool := decide (w < P.1)
def FX11 (ad al : Nat → Nat) (g : CS) : List Value := [.ref (ad 1), .int (g.1 0 1), .int (g.1 0 2), .int (g.1 0 3), .int (g.1 0 4), .ref (ad 30), .ref (ad 31), .ref (ad 2), .ref (ad 3), .ref (ad 4), .ref (ad 17), .ref (ad 22), .ref (ad 27)]
def FX3 (ad al : Nat → Nat) (g : CS) : List Value := [.ref (ad 5), .ref (ad 6), .int (g.1 4 2), .int (g.1 4 3), .int (g.1 4 4), .int (g.1 4 5), .int (g.1 4 6), .int (g.1 4 7), .int (g.1 4 8), .ref (al (g.2.2.2 4 9)), .ref (al (g.2.2.2 4 10)), .ref (al (g.2.2.2 4 11)), .ref (al (g.2.2.2 4 12))]
def FX8 (ad al : Nat → Nat) (g : CS) : List Value := [.ref (ad 1), .int (g.1 5 1), .int (g.1 5 2), .int (g.1 5 3), .int (g.1 5 4), .int (g.1 5 5)]
def FX2 (ad al : Nat → Nat) (g : CS) : List Value := [.ref (ad 7), .int (g.1 6 1), .ref (ad 8), .ref (ad 9), .int (g.1 6 4), .int (g.1 6 5), .int (g.1 6 6), .int (g.1 6 7), .int (g.1 6 8), .int (g.1 6 9), .int (g.1 6 10)]
def FX4 (ad al : Nat → Nat) (g : CS) : List Value := [.ref (ad 11), .int (g.1 10 1)]
def FX10 (ad al : Nat → Nat) (g : CS) : List Value := [.ref (ad 30), .int (g.1 12 1), .ref (ad 13), .ref (ad 14), .ref (ad 15), .ref (ad 16), .int (g.1 12 6), .int (g.1 12 7), .int (g.1 12 8), .int (g.1 12 9), .int (g.1 12 10), .int (g.1 12 11), .int (g.1 12 12)]
def FX7 (ad al : Nat → Nat) (g : CS) : List Value := [.ref (ad 30), .ref (ad 12), .int (g.1 17 2), .int (g.1 17 3), .int (g.1 17 4), .int (g.1 17 5), .int (g.1 17 6), .int (g.1 17 7), .int (g.1 17 8), .int (g.1 17 9), .int (g.1 17 10), .int (g.1 17 11), .int (g.1 17 12), .ref (ad 18), .ref (ad 19), .ref (ad 20), .ref (ad 21)]
def FX5 (ad al : Nat → Nat) (g : CS) : List Value := [.ref (ad 30), .ref (ad 12), .int (g.1 22 2), .ref (ad 23), .ref (ad 24), .ref (ad 25), .ref (ad 26), .int (g.1 22 7)]
def FX0 (ad al : Nat → Nat) (g : CS) : List Value := [.ref (ad 30), .int (g.1 27 1), .ref (ad 28), .int (g.1 27 3), .int (g.1 27 4)]
def FX6 (ad al : Nat → Nat) (g : CS) (o : Nat) : List Value := [.ref (ad 10), .int (g.1 o 1), .int (g.1 o 2), .int (g.1 o 3), .int (g.1 o 4), .int (g.1 o 5), .int (g.1 o 6), .int (g.1 o 7), .ref (al (g.2.2.2 o 8)), .ref (al (g.2.2.2 o 9)), .ref (al (g.2.2.2 o 10)), .ref (ad (o + 10))]
def FX9 (ad al : Nat → Nat) (g : CS) (o : Nat) : List Value := [.int (g.1 o 0), .int (g.1 o 1), .ref (ad (o + 10))]
def SWf (cs : Nat → ClassId) (ad al : Nat → Nat) (g : CS) : va_W := [(ad 0, .inr (10, FX11 ad al g)), (ad 1, .inl (cs 3, 900, .inl (g.2.1 1))), (ad 2, .inl (cs 4, 3, .inr (.inr (.inr (.inr (fun j => some (ad (32 + j)))))))), (ad 3, .inl (cs 5, 4, .inr (.inr (.inr (.inr (fun j => some (ad (50 + j)))))))), (ad 4, .inr (2, FX3 ad al g)), (ad 5, .inr (7, FX8 ad al g)), (ad 6, .inr (1, FX2 ad al g)), (ad 7, .inl (cs 0, 900, .inl (g.2.1 7))), (ad 8, .inl (cs 0, 64, .inl (g.2.1 8))), (ad 9, .inl (cs 0, 64, .inl (g.2.1 9))), (ad 10, .inr (3, FX4 ad al g)), (ad 11, .inl (cs 0, 64, .inl (g.2.1 11))), (ad 12, .inr (9, FX10 ad al g)), (ad 13, .inl (cs 0, 6, .inl (g.2.1 13))), (ad 14, .inl (cs 0, 6, .inl (g.2.1 14))), (ad 15, .inl (cs 0, 6, .inl (g.2.1 15))), (ad 16, .inl (cs 0, 6, .inl (g.2.1 16))), (ad 17, .inr (6, FX7 ad al g)), (ad 18, .inl (cs 0, 6, .inl (g.2.1 18))), (ad 19, .inl (cs 0, 6, .inl (g.2.1 19))), (ad 20, .inl (cs 0, 6, .inl (g.2.1 20))), (ad 21, .inl (cs 0, 6, .inl (g.2.1 21))), (ad 22, .inr (4, FX5 ad al g)), (ad 23, .inl (cs 0, 30, .inl (g.2.1 23))), (ad 24, .inl (cs 0, 30, .inl (g.2.1 24))), (ad 25, .inl (cs 0, 6, .inl (g.2.1 25))), (ad 26, .inl (cs 0, 6, .inl (g.2.1 26))), (ad 27, .inr (0, FX0 ad al g)), (ad 28, .inl (cs 3, 2304, .inl (g.2.1 28))), (ad 30, .inr (5, FX6 ad al g 30)), (ad 31, .inr (5, FX6 ad al g 31)), (ad 32, .inr (5, FX6 ad al g 32)), (ad 33, .inr (5, FX6 ad al g 33)), (ad 34, .inr (5, FX6 ad al g 34)), (ad 40, .inl (cs 2, 10, .inr (.inl (g.2.2.1 40)))), (ad 41, .inl (cs 2, 10, .inr (.inl (g.2.2.1 41)))), (ad 42, .inl (cs 2, 10, .inr (.inl (g.2.2.1 42)))), (ad 43, .inl (cs 2, 10, .inr (.inl (g.2.2.1 43)))), (ad 44, .inl (cs 2, 10, .inr (.inl (g.2.2.1 44)))), (ad 50, .inr (8, FX9 ad al g 50)), (ad 51, .inr (8, FX9 ad al g 51)), (ad 52, .inr (8, FX9 ad al g 52)), (ad 53, .inr (8, FX9 ad al g 53)), (ad 60, .inl (cs 2, 30, .inr (.inl (g.2.2.1 60)))), (ad 61, .inl (cs 2, 30, .inr (.inl (g.2.2.1 61)))), (ad 62, .inl (cs 2, 30, .inr (.inl (g.2.2.1 62)))), (ad 63, .inl (cs 2, 30, .inr (.inl (g.2.2.1 63))))]
def lawC (cs : Nat → ClassId) (al : Nat → Nat) (P : PL) (i : Nat) : Nat × va_E := (al i, .inl (cs 0, (P.2.2 i).1, .inl (P.2.2 i).2))
def SW (cs : Nat → ClassId) (ad al : Nat → Nat) (P : PL) (g : CS) : va_W := SWf cs ad al g ++ (List.range P.1).map (lawC cs al P)
theorem SWf_len {cs : Nat → ClassId} {ad al : Nat → Nat} {g : CS} : (SWf cs ad al g).length = 47 := rfl
theorem SW_fix {cs : Nat → ClassId} {ad al : Nat → Nat} {P : PL} {g : CS} {k : Nat} {x : Nat × va_E} (h : (SWf cs ad al g)[k]? = some x) : (SW cs ad al P g)[k]? = some x := by
  have hk : k < (SWf cs ad al g).length := (List.getElem?_eq_some_iff.mp h).1
  unfold SW
  rw [List.getElem?_append_left hk]
  exact h
theorem SW_law {cs : Nat → ClassId} {ad al : Nat → Nat} {P : PL} {g : CS} {w : Nat} (h : inL P w = true) : (SW cs ad al P g)[47 + w]? = some (lawC cs al P w) := by
  have hw : w < P.1 := of_decide_eq_true h
  unfold SW
  rw [List.getElem?_append_right (by rw [SWf_len]; omega), SWf_len, show 47 + w - 47 = w by omega, List.getElem?_map, List.getElem?_range hw]
  rfl
theorem SW_set {cs : Nat → ClassId} {ad al : Nat → Nat} {P : PL} {g g2 : CS} {k : Nat} {x : Nat × va_E} (hk : k < 47) (h : (SWf cs ad al g).set k x = SWf cs ad al g2) : (SW cs ad al P g).set k x = SW cs ad al P g2 := by
  unfold SW
  rw [List.set_append_left _ _ (by rw [SWf_len]; exact hk), h]
section
variable {p : Program} {l : Launch} {e : Env} {R : Room} {s : State} {m : MethodId} {args : Array Value} {below : List Frame} {meth : Method} {c : Code} {H : Heap} {locs : List Loc} {cells slots : Nat} {Q : State → Prop}
variable {D : va_G} {cs : Nat → ClassId} {ad al : Nat → Nat} {A : Nat → Prop} {own : String} {cc : ByteArray} {nL : Nat} {rt : Option FieldType} {pc : Nat} {ls : Array Slot} {rest : List Value} {P : PL} {g : CS}
theorem bX0_in : ∀ w ∈ u_ws RX0 TX0 5, w ∈ bT := fun _ h => List.mem_append_right _ (List.mem_append_left _ (List.mem_append_left _ (List.mem_append_left _ (List.mem_append_left _ (List.mem_append_left _ (List.mem_append_left _ (List.mem_append_left _ (List.mem_append_left _ (List.mem_append_left _ (List.mem_append_left _ (List.mem_append_left _ h)))))))))))
theorem bX2_in : ∀ w ∈ u_ws RX2 TX2 11, w ∈ bT := fun _ h => List.mem_append_right _ (List.mem_append_left _ (List.mem_append_left _ (List.mem_append_left _ (List.mem_append_left _ (List.mem_append_left _ (List.mem_append_left _ (List.mem_append_left _ (List.mem_append_left _ (List.mem_append_left _ (List.mem_append_left _ (List.mem_append_right _ h)))))))))))
theorem bX3_in : ∀ w ∈ u_ws RX3 TX3 13, w ∈ bT := fun _ h => List.mem_append_right _ (List.mem_append_left _ (List.mem_append_left _ (List.mem_append_left _ (List.mem_append_left _ (List.mem_append_left _ (List.mem_append_left _ (List.mem_append_left _ (List.mem_append_left _ (List.mem_append_left _ (List.mem_append_right _ h))))))))))
theorem bX4_in : ∀ w ∈ u_ws RX4 TX4 2, w ∈ bT := fun _ h => List.mem_append_right _ (List.mem_append_left _ (List.mem_append_left _ (List.mem_append_left _ (List.mem_append_left _ (List.mem_append_left _ (List.mem_append_left _ (List.mem_append_left _ (List.mem_append_left _ (List.mem_append_right _ h)))))))))
theorem bX5_in : ∀ w ∈ u_ws RX5 TX5 8, w ∈ bT := fun _ h => List.mem_append_right _ (List.mem_append_left _ (List.mem_append_left _ (List.mem_append_left _ (List.mem_append_left _ (List.mem_append_left _ (List.mem_append_left _ (List.mem_append_left _ (List.mem_append_right _ h))))))))
theorem bX6_in : ∀ w ∈ u_ws RX6 TX6 12, w ∈ bT := fun _ h => List.mem_append_right _ (List.mem_append_left _ (List.mem_append_left _ (List.mem_append_left _ (List.mem_append_left _ (List.mem_append_left _ (List.mem_append_left _ (List.mem_append_right _ h)))))))
theorem bX7_in : ∀ w ∈ u_ws RX7 TX7 17, w ∈ bT := fun _ h => List.mem_append_right _ (List.mem_append_left _ (List.mem_append_left _ (List.mem_append_left _ (List.mem_append_left _ (List.mem_append_left _ (List.mem_append_right _ h))))))
theorem bX8_in : ∀ w ∈ u_ws RX8 TX8 6, w ∈ bT := fun _ h => List.mem_append_right _ (List.mem_append_left _ (List.mem_append_left _ (List.mem_append_left _ (List.mem_append_left _ (List.mem_append_right _ h)))))
theorem bX9_in : ∀ w ∈ u_ws RX9 TX9 3, w ∈ bT := fun _ h => List.mem_append_right _ (List.mem_append_left _ (List.mem_append_left _ (List.mem_append_left _ (List.mem_append_right _ h))))
theorem bX10_in : ∀ w ∈ u_ws RX10 TX10 13, w ∈ bT := fun _ h => List.mem_append_right _ (List.mem_append_left _ (List.mem_append_left _ (List.mem_append_right _ h)))
theorem bX11_in : ∀ w ∈ u_ws RX11 TX11 13, w ∈ bT := fun _ h => List.mem_append_right _ (List.mem_append_left _ (List.mem_append_right _ h))
theorem at_X11 {cs : Nat → ClassId} {ad al : Nat → Nat} {P : PL} {g : CS} : (SW cs ad al P g)[0]? = some (ad 0, .inr (10, FX11 ad al g)) := SW_fix (by rfl)
theorem rv_X11 (C : MCx p s m args meth c A own cc nL rt D cs) (h : MH D (SW cs ad al P g) A s H locs) : ∃ cell : Cell, H[ad 0]? = some cell ∧ cell.vm.isStatics = false ∧ s.vm.findClass RX11 = some cell.cls := va_recv C.2.2.2.2.2.2.2.1 h.1 (ci := 10) (q0 := 0) rfl (at_X11)
theorem xg_X11 {idx : Nat} {v : Value} (k : Nat) (C : MCx p s m args meth c A own cc nL rt D cs) (h : MH D (SW cs ad al P g) A s H locs) (hk : k < 13) (hlink : Cond.fieldLink own idx RX11 (TX11 k).2.1 (TX11 k).2.2.1 ∈ bT) (hsame : (TX11 k).1 = RX11) (hv : (FX11 ad al g)[k]? = some v) (hdg : decode cc pc = .ok (.getfield idx, 3)) (kk : W p l e R s m args below meth c H locs cells slots Q (F0 m (pc + 3) ls (v :: rest))) : W p l e R s m args below meth c H locs cells slots Q (F0 m pc ls (.ref (ad 0) :: rest)) := by
  obtain ⟨hx, hb, hml, hown, hts, hr, hlocks, hK, hA⟩ := C
  obtain ⟨hP, hD, hS⟩ := h
  exact va_get (ci := 10) (C := RX11) (T := TX11) (N := 13) hx hb hts bX11_in hown hK hP 0 (at_X11) rfl k hk (hts _ hlink) (fun x hx => by rw [hsame] at hx; exact hx) hv hdg kk
theorem xp_X11_1 {idx : Nat} {v : Int32} (C : MCx p s m args meth c A own cc nL rt D cs) (h : MH D (SW cs ad al P g) A s H locs) (hlink : Cond.fieldLink own idx RX11 "tapeLength" "I" ∈ bT) (hdg : decode cc pc = .ok (.putfield idx, 3)) (kk : ∀ (H1 : Heap) (locs1 : List Loc), MH D (SW cs ad al P (tI g 0 1 v)) A s H1 locs1 → W p l e R s m args below meth c H1 locs1 cells slots Q (F0 m (pc + 3) ls rest)) : W p l e R s m args below meth c H locs cells slots Q (F0 m pc ls (.int v :: .ref (ad 0) :: rest)) := by
  obtain ⟨hx, hb, hml, hown, hts, hr, hlocks, hK, hA⟩ := C
  obtain ⟨hP, hD, hS⟩ := h
  have e : (SW cs ad al P g).set 0 (ad 0, .inr (10, (FX11 ad al g).set 1 (.int v))) = SW cs ad al P (tI g 0 1 v) := by exact SW_set (by decide) rfl
  refine va_put (ci := 10) (C := RX11) (T := TX11) (N := 13) (v := .int v) (ty := .int) hx hb hts bX11_in tyX11 tyX11_ok nmX11 hown hK hP hD hS 0 (at_X11) rfl 1 (by decide) (hts _ hlink) (fun _ h9 => h9) rfl (by decide +kernel) (rfl) (rfl) (Nat.le_of_ble_eq_true rfl) hdg (fun H1 l1 hP hD hS => kk H1 l1 ?_)
  rw [e] at hP hD
  exact ⟨hP, hD, hS⟩
theorem xp_X11_2 {idx : Nat} {v : Int32} (C : MCx p s m args meth c A own cc nL rt D cs) (h : MH D (SW cs ad al P g) A s H locs) (hlink : Cond.fieldLink own idx RX11 "faultKind" "I" ∈ bT) (hdg : decode cc pc = .ok (.putfield idx, 3)) (kk : ∀ (H1 : Heap) (locs1 : List Loc), MH D (SW cs ad al P (tI g 0 2 v)) A s H1 locs1 → W p l e R s m args below meth c H1 locs1 cells slots Q (F0 m (pc + 3) ls rest)) : W p l e R s m args below meth c H locs cells slots Q (F0 m pc ls (.int v :: .ref (ad 0) :: rest)) := by
  obtain ⟨hx, hb, hml, hown, hts, hr, hlocks, hK, hA⟩ := C
  obtain ⟨hP, hD, hS⟩ := h
  have e : (SW cs ad al P g).set 0 (ad 0, .inr (10, (FX11 ad al g).set 2 (.int v))) = SW cs ad al P (tI g 0 2 v) := by exact SW_set (by decide) rfl
  refine va_put (ci := 10) (C := RX11) (T := TX11) (N := 13) (v := .int v) (ty := .int) hx hb hts bX11_in tyX11 tyX11_ok nmX11 hown hK hP hD hS 0 (at_X11) rfl 2 (by decide) (hts _ hlink) (fun _ h9 => h9) rfl (by decide +kernel) (rfl) (rfl) (Nat.le_of_ble_eq_true rfl) hdg (fun H1 l1 hP hD hS => kk H1 l1 ?_)
  rw [e] at hP hD
  exact ⟨hP, hD, hS⟩
theorem xp_X11_3 {idx : Nat} {v : Int32} (C : MCx p s m args meth c A own cc nL rt D cs) (h : MH D (SW cs ad al P g) A s H locs) (hlink : Cond.fieldLink own idx RX11 "faultPlace" "I" ∈ bT) (hdg : decode cc pc = .ok (.putfield idx, 3)) (kk : ∀ (H1 : Heap) (locs1 : List Loc), MH D (SW cs ad al P (tI g 0 3 v)) A s H1 locs1 → W p l e R s m args below meth c H1 locs1 cells slots Q (F0 m (pc + 3) ls rest)) : W p l e R s m args below meth c H locs cells slots Q (F0 m pc ls (.int v :: .ref (ad 0) :: rest)) := by
  obtain ⟨hx, hb, hml, hown, hts, hr, hlocks, hK, hA⟩ := C
  obtain ⟨hP, hD, hS⟩ := h
  have e : (SW cs ad al P g).set 0 (ad 0, .inr (10, (FX11 ad al g).set 3 (.int v))) = SW cs ad al P (tI g 0 3 v) := by exact SW_set (by decide) rfl
  refine va_put (ci := 10) (C := RX11) (T := TX11) (N := 13) (v := .int v) (ty := .int) hx hb hts bX11_in tyX11 tyX11_ok nmX11 hown hK hP hD hS 0 (at_X11) rfl 3 (by decide) (hts _ hlink) (fun _ h9 => h9) rfl (by decide +kernel) (rfl) (rfl) (Nat.le_of_ble_eq_true rfl) hdg (fun H1 l1 hP hD hS => kk H1 l1 ?_)
  rw [e] at hP hD
  exact ⟨hP, hD, hS⟩
theorem xp_X11_4 {idx : Nat} {v : Int32} (C : MCx p s m args meth c A own cc nL rt D cs) (h : MH D (SW cs ad al P g) A s H locs) (hlink : Cond.fieldLink own idx RX11 "imagesMade" "I" ∈ bT) (hdg : decode cc pc = .ok (.putfield idx, 3)) (kk : ∀ (H1 : Heap) (locs1 : List Loc), MH D (SW cs ad al P (tI g 0 4 v)) A s H1 locs1 → W p l e R s m args below meth c H1 locs1 cells slots Q (F0 m (pc + 3) ls rest)) : W p l e R s m args below meth c H locs cells slots Q (F0 m pc ls (.int v :: .ref (ad 0) :: rest)) := by
  obtain ⟨hx, hb, hml, hown, hts, hr, hlocks, hK, hA⟩ := C
  obtain ⟨hP, hD, hS⟩ := h
  have e : (SW cs ad al P g).set 0 (ad 0, .inr (10, (FX11 ad al g).set 4 (.int v))) = SW cs ad al P (tI g 0 4 v) := by exact SW_set (by decide) rfl
  refine va_put (ci := 10) (C := RX11) (T := TX11) (N := 13) (v := .int v) (ty := .int) hx hb hts bX11_in tyX11 tyX11_ok nmX11 hown hK hP hD hS 0 (at_X11) rfl 4 (by decide) (hts _ hlink) (fun _ h9 => h9) rfl (by decide +kernel) (rfl) (rfl) (Nat.le_of_ble_eq_true rfl) hdg (fun H1 l1 hP hD hS => kk H1 l1 ?_)
  rw [e] at hP hD
  exact ⟨hP, hD, hS⟩
theorem at_X3 {cs : Nat → ClassId} {ad al : Nat → Nat} {P : PL} {g : CS} : (SW cs ad al P g)[4]? = some (ad 4, .inr (2, FX3 ad al g)) := SW_fix (by rfl)
theorem rv_X3 (C : MCx p s m args meth c A own cc nL rt D cs) (h : MH D (SW cs ad al P g) A s H locs) : ∃ cell : Cell, H[ad 4]? = some cell ∧ cell.vm.isStatics = false ∧ s.vm.findClass RX3 = some cell.cls := va_recv C.2.2.2.2.2.2.2.1 h.1 (ci := 2) (q0 := 4) rfl (at_X3)
theorem xg_X3 {idx : Nat} {v : Value} (k : Nat) (C : MCx p s m args meth c A own cc nL rt D cs) (h : MH D (SW cs ad al P g) A s H locs) (hk : k < 13) (hlink : Cond.fieldLink own idx RX3 (TX3 k).2.1 (TX3 k).2.2.1 ∈ bT) (hsame : (TX3 k).1 = RX3) (hv : (FX3 ad al g)[k]? = some v) (hdg : decode cc pc = .ok (.getfield idx, 3)) (kk : W p l e R s m args below meth c H locs cells slots Q (F0 m (pc + 3) ls (v :: rest))) : W p l e R s m args below meth c H locs cells slots Q (F0 m pc ls (.ref (ad 4) :: rest)) := by
  obtain ⟨hx, hb, hml, hown, hts, hr, hlocks, hK, hA⟩ := C
  obtain ⟨hP, hD, hS⟩ := h
  exact va_get (ci := 2) (C := RX3) (T := TX3) (N := 13) hx hb hts bX3_in hown hK hP 4 (at_X3) rfl k hk (hts _ hlink) (fun x hx => by rw [hsame] at hx; exact hx) hv hdg kk
theorem xp_X3_2 {idx : Nat} {v : Int32} (C : MCx p s m args meth c A own cc nL rt D cs) (h : MH D (SW cs ad al P g) A s H locs) (hlink : Cond.fieldLink own idx RX3 "fault" "I" ∈ bT) (hdg : decode cc pc = .ok (.putfield idx, 3)) (kk : ∀ (H1 : Heap) (locs1 : List Loc), MH D (SW cs ad al P (tI g 4 2 v)) A s H1 locs1 → W p l e R s m args below meth c H1 locs1 cells slots Q (F0 m (pc + 3) ls rest)) : W p l e R s m args below meth c H locs cells slots Q (F0 m pc ls (.int v :: .ref (ad 4) :: rest)) := by
  obtain ⟨hx, hb, hml, hown, hts, hr, hlocks, hK, hA⟩ := C
  obtain ⟨hP, hD, hS⟩ := h
  have e : (SW cs ad al P g).set 4 (ad 4, .inr (2, (FX3 ad al g).set 2 (.int v))) = SW cs ad al P (tI g 4 2 v) := by exact SW_set (by decide) rfl
  refine va_put (ci := 2) (C := RX3) (T := TX3) (N := 13) (v := .int v) (ty := .int) hx hb hts bX3_in tyX3 tyX3_ok nmX3 hown hK hP hD hS 4 (at_X3) rfl 2 (by decide) (hts _ hlink) (fun _ h9 => h9) rfl (by decide +kernel) (rfl) (rfl) (Nat.le_of_ble_eq_true rfl) hdg (fun H1 l1 hP hD hS => kk H1 l1 ?_)
  rw [e] at hP hD
  exact ⟨hP, hD, hS⟩
theorem xp_X3_3 {idx : Nat} {v : Int32} (C : MCx p s m args meth c A own cc nL rt D cs) (h : MH D (SW cs ad al P g) A s H locs) (hlink : Cond.fieldLink own idx RX3 "place" "I" ∈ bT) (hdg : decode cc pc = .ok (.putfield idx, 3)) (kk : ∀ (H1 : Heap) (locs1 : List Loc), MH D (SW cs ad al P (tI g 4 3 v)) A s H1 locs1 → W p l e R s m args below meth c H1 locs1 cells slots Q (F0 m (pc + 3) ls rest)) : W p l e R s m args below meth c H locs cells slots Q (F0 m pc ls (.int v :: .ref (ad 4) :: rest)) := by
  obtain ⟨hx, hb, hml, hown, hts, hr, hlocks, hK, hA⟩ := C
  obtain ⟨hP, hD, hS⟩ := h
  have e : (SW cs ad al P g).set 4 (ad 4, .inr (2, (FX3 ad al g).set 3 (.int v))) = SW cs ad al P (tI g 4 3 v) := by exact SW_set (by decide) rfl
  refine va_put (ci := 2) (C := RX3) (T := TX3) (N := 13) (v := .int v) (ty := .int) hx hb hts bX3_in tyX3 tyX3_ok nmX3 hown hK hP hD hS 4 (at_X3) rfl 3 (by decide) (hts _ hlink) (fun _ h9 => h9) rfl (by decide +kernel) (rfl) (rfl) (Nat.le_of_ble_eq_true rfl) hdg (fun H1 l1 hP hD hS => kk H1 l1 ?_)
  rw [e] at hP hD
  exact ⟨hP, hD, hS⟩
theorem xp_X3_4 {idx : Nat} {v : Int32} (C : MCx p s m args meth c A own cc nL rt D cs) (h : MH D (SW cs ad al P g) A s H locs) (hlink : Cond.fieldLink own idx RX3 "members" "I" ∈ bT) (hdg : decode cc pc = .ok (.putfield idx, 3)) (kk : ∀ (H1 : Heap) (locs1 : List Loc), MH D (SW cs ad al P (tI g 4 4 v)) A s H1 locs1 → W p l e R s m args below meth c H1 locs1 cells slots Q (F0 m (pc + 3) ls rest)) : W p l e R s m args below meth c H locs cells slots Q (F0 m pc ls (.int v :: .ref (ad 4) :: rest)) := by
  obtain ⟨hx, hb, hml, hown, hts, hr, hlocks, hK, hA⟩ := C
  obtain ⟨hP, hD, hS⟩ := h
  have e : (SW cs ad al P g).set 4 (ad 4, .inr (2, (FX3 ad al g).set 4 (.int v))) = SW cs ad al P (tI g 4 4 v) := by exact SW_set (by decide) rfl
  refine va_put (ci := 2) (C := RX3) (T := TX3) (N := 13) (v := .int v) (ty := .int) hx hb hts bX3_in tyX3 tyX3_ok nmX3 hown hK hP hD hS 4 (at_X3) rfl 4 (by decide) (hts _ hlink) (fun _ h9 => h9) rfl (by decide +kernel) (rfl) (rfl) (Nat.le_of_ble_eq_true rfl) hdg (fun H1 l1 hP hD hS => kk H1 l1 ?_)
  rw [e] at hP hD
  exact ⟨hP, hD, hS⟩
theorem xp_X3_5 {idx : Nat} {v : Int32} (C : MCx p s m args meth c A own cc nL rt D cs) (h : MH D (SW cs ad al P g) A s H locs) (hlink : Cond.fieldLink own idx RX3 "lines" "I" ∈ bT) (hdg : decode cc pc = .ok (.putfield idx, 3)) (kk : ∀ (H1 : Heap) (locs1 : List Loc), MH D (SW cs ad al P (tI g 4 5 v)) A s H1 locs1 → W p l e R s m args below meth c H1 locs1 cells slots Q (F0 m (pc + 3) ls rest)) : W p l e R s m args below meth c H locs cells slots Q (F0 m pc ls (.int v :: .ref (ad 4) :: rest)) := by
  obtain ⟨hx, hb, hml, hown, hts, hr, hlocks, hK, hA⟩ := C
  obtain ⟨hP, hD, hS⟩ := h
  have e : (SW cs ad al P g).set 4 (ad 4, .inr (2, (FX3 ad al g).set 5 (.int v))) = SW cs ad al P (tI g 4 5 v) := by exact SW_set (by decide) rfl
  refine va_put (ci := 2) (C := RX3) (T := TX3) (N := 13) (v := .int v) (ty := .int) hx hb hts bX3_in tyX3 tyX3_ok nmX3 hown hK hP hD hS 4 (at_X3) rfl 5 (by decide) (hts _ hlink) (fun _ h9 => h9) rfl (by decide +kernel) (rfl) (rfl) (Nat.le_of_ble_eq_true rfl) hdg (fun H1 l1 hP hD hS => kk H1 l1 ?_)
  rw [e] at hP hD
  exact ⟨hP, hD, hS⟩
theorem xp_X3_6 {idx : Nat} {v : Int32} (C : MCx p s m args meth c A own cc nL rt D cs) (h : MH D (SW cs ad al P g) A s H locs) (hlink : Cond.fieldLink own idx RX3 "aims" "I" ∈ bT) (hdg : decode cc pc = .ok (.putfield idx, 3)) (kk : ∀ (H1 : Heap) (locs1 : List Loc), MH D (SW cs ad al P (tI g 4 6 v)) A s H1 locs1 → W p l e R s m args below meth c H1 locs1 cells slots Q (F0 m (pc + 3) ls rest)) : W p l e R s m args below meth c H locs cells slots Q (F0 m pc ls (.int v :: .ref (ad 4) :: rest)) := by
  obtain ⟨hx, hb, hml, hown, hts, hr, hlocks, hK, hA⟩ := C
  obtain ⟨hP, hD, hS⟩ := h
  have e : (SW cs ad al P g).set 4 (ad 4, .inr (2, (FX3 ad al g).set 6 (.int v))) = SW cs ad al P (tI g 4 6 v) := by exact SW_set (by decide) rfl
  refine va_put (ci := 2) (C := RX3) (T := TX3) (N := 13) (v := .int v) (ty := .int) hx hb hts bX3_in tyX3 tyX3_ok nmX3 hown hK hP hD hS 4 (at_X3) rfl 6 (by decide) (hts _ hlink) (fun _ h9 => h9) rfl (by decide +kernel) (rfl) (rfl) (Nat.le_of_ble_eq_true rfl) hdg (fun H1 l1 hP hD hS => kk H1 l1 ?_)
  rw [e] at hP hD
  exact ⟨hP, hD, hS⟩
theorem xp_X3_7 {idx : Nat} {v : Int32} (C : MCx p s m args meth c A own cc nL rt D cs) (h : MH D (SW cs ad al P g) A s H locs) (hlink : Cond.fieldLink own idx RX3 "weights" "I" ∈ bT) (hdg : decode cc pc = .ok (.putfield idx, 3)) (kk : ∀ (H1 : Heap) (locs1 : List Loc), MH D (SW cs ad al P (tI g 4 7 v)) A s H1 locs1 → W p l e R s m args below meth c H1 locs1 cells slots Q (F0 m (pc + 3) ls rest)) : W p l e R s m args below meth c H locs cells slots Q (F0 m pc ls (.int v :: .ref (ad 4) :: rest)) := by
  obtain ⟨hx, hb, hml, hown, hts, hr, hlocks, hK, hA⟩ := C
  obtain ⟨hP, hD, hS⟩ := h
  have e : (SW cs ad al P g).set 4 (ad 4, .inr (2, (FX3 ad al g).set 7 (.int v))) = SW cs ad al P (tI g 4 7 v) := by exact SW_set (by decide) rfl
  refine va_put (ci := 2) (C := RX3) (T := TX3) (N := 13) (v := .int v) (ty := .int) hx hb hts bX3_in tyX3 tyX3_ok nmX3 hown hK hP hD hS 4 (at_X3) rfl 7 (by decide) (hts _ hlink) (fun _ h9 => h9) rfl (by decide +kernel) (rfl) (rfl) (Nat.le_of_ble_eq_true rfl) hdg (fun H1 l1 hP hD hS => kk H1 l1 ?_)
  rw [e] at hP hD
  exact ⟨hP, hD, hS⟩
theorem xp_X3_8 {idx : Nat} {v : Int32} (C : MCx p s m args meth c A own cc nL rt D cs) (h : MH D (SW cs ad al P g) A s H locs) (hlink : Cond.fieldLink own idx RX3 "stuck" "I" ∈ bT) (hdg : decode cc pc = .ok (.putfield idx, 3)) (kk : ∀ (H1 : Heap) (locs1 : List Loc), MH D (SW cs ad al P (tI g 4 8 v)) A s H1 locs1 → W p l e R s m args below meth c H1 locs1 cells slots Q (F0 m (pc + 3) ls rest)) : W p l e R s m args below meth c H locs cells slots Q (F0 m pc ls (.int v :: .ref (ad 4) :: rest)) := by
  obtain ⟨hx, hb, hml, hown, hts, hr, hlocks, hK, hA⟩ := C
  obtain ⟨hP, hD, hS⟩ := h
  have e : (SW cs ad al P g).set 4 (ad 4, .inr (2, (FX3 ad al g).set 8 (.int v))) = SW cs ad al P (tI g 4 8 v) := by exact SW_set (by decide) rfl
  refine va_put (ci := 2) (C := RX3) (T := TX3) (N := 13) (v := .int v) (ty := .int) hx hb hts bX3_in tyX3 tyX3_ok nmX3 hown hK hP hD hS 4 (at_X3) rfl 8 (by decide) (hts _ hlink) (fun _ h9 => h9) rfl (by decide +kernel) (rfl) (rfl) (Nat.le_of_ble_eq_true rfl) hdg (fun H1 l1 hP hD hS => kk H1 l1 ?_)
  rw [e] at hP hD
  exact ⟨hP, hD, hS⟩
theorem xp_X3_9 {idx w : Nat} (C : MCx p s m args meth c A own cc nL rt D cs) (h : MH D (SW cs ad al P g) A s H locs) (hlink : Cond.fieldLink own idx RX3 "drags" "[I" ∈ bT) (hdg : decode cc pc = .ok (.putfield idx, 3)) (kk : ∀ (H1 : Heap) (locs1 : List Loc), MH D (SW cs ad al P (tF g 4 9 w)) A s H1 locs1 → W p l e R s m args below meth c H1 locs1 cells slots Q (F0 m (pc + 3) ls rest)) : W p l e R s m args below meth c H locs cells slots Q (F0 m pc ls (.ref (al w) :: .ref (ad 4) :: rest)) := by
  obtain ⟨hx, hb, hml, hown, hts, hr, hlocks, hK, hA⟩ := C
  obtain ⟨hP, hD, hS⟩ := h
  have e : (SW cs ad al P g).set 4 (ad 4, .inr (2, (FX3 ad al g).set 9 (.ref (al w)))) = SW cs ad al P (tF g 4 9 w) := by exact SW_set (by decide) rfl
  refine va_put (ci := 2) (C := RX3) (T := TX3) (N := 13) (v := .ref (al w)) (ty := .array .int) hx hb hts bX3_in tyX3 tyX3_ok nmX3 hown hK hP hD hS 4 (at_X3) rfl 9 (by decide) (hts _ hlink) (fun _ h9 => h9) rfl (by decide +kernel) rfl rfl (Nat.le_of_ble_eq_true rfl) hdg (fun H1 l1 hP hD hS => kk H1 l1 ?_)
  rw [e] at hP hD
  exact ⟨hP, hD, hS⟩
theorem xp_X3_10 {idx w : Nat} (C : MCx p s m args meth c A own cc nL rt D cs) (h : MH D (SW cs ad al P g) A s H locs) (hlink : Cond.fieldLink own idx RX3 "costs" "[I" ∈ bT) (hdg : decode cc pc = .ok (.putfield idx, 3)) (kk : ∀ (H1 : Heap) (locs1 : List Loc), MH D (SW cs ad al P (tF g 4 10 w)) A s H1 locs1 → W p l e R s m args below meth c H1 locs1 cells slots Q (F0 m (pc + 3) ls rest)) : W p l e R s m args below meth c H locs cells slots Q (F0 m pc ls (.ref (al w) :: .ref (ad 4) :: rest)) := by
  obtain ⟨hx, hb, hml, hown, hts, hr, hlocks, hK, hA⟩ := C
  obtain ⟨hP, hD, hS⟩ := h
  have e : (SW cs ad al P g).set 4 (ad 4, .inr (2, (FX3 ad al g).set 10 (.ref (al w)))) = SW cs ad al P (tF g 4 10 w) := by exact SW_set (by decide) rfl
  refine va_put (ci := 2) (C := RX3) (T := TX3) (N := 13) (v := .ref (al w)) (ty := .array .int) hx hb hts bX3_in tyX3 tyX3_ok nmX3 hown hK hP hD hS 4 (at_X3) rfl 10 (by decide) (hts _ hlink) (fun _ h9 => h9) rfl (by decide +kernel) rfl rfl (Nat.le_of_ble_eq_true rfl) hdg (fun H1 l1 hP hD hS => kk H1 l1 ?_)
  rw [e] at hP hD
  exact ⟨hP, hD, hS⟩
theorem xp_X3_11 {idx w : Nat} (C : MCx p s m args meth c A own cc nL rt D cs) (h : MH D (SW cs ad al P g) A s H locs) (hlink : Cond.fieldLink own idx RX3 "goes" "[I" ∈ bT) (hdg : decode cc pc = .ok (.putfield idx, 3)) (kk : ∀ (H1 : Heap) (locs1 : List Loc), MH D (SW cs ad al P (tF g 4 11 w)) A s H1 locs1 → W p l e R s m args below meth c H1 locs1 cells slots Q (F0 m (pc + 3) ls rest)) : W p l e R s m args below meth c H locs cells slots Q (F0 m pc ls (.ref (al w) :: .ref (ad 4) :: rest)) := by
  obtain ⟨hx, hb, hml, hown, hts, hr, hlocks, hK, hA⟩ := C
  obtain ⟨hP, hD, hS⟩ := h
  have e : (SW cs ad al P g).set 4 (ad 4, .inr (2, (FX3 ad al g).set 11 (.ref (al w)))) = SW cs ad al P (tF g 4 11 w) := by exact SW_set (by decide) rfl
  refine va_put (ci := 2) (C := RX3) (T := TX3) (N := 13) (v := .ref (al w)) (ty := .array .int) hx hb hts bX3_in tyX3 tyX3_ok nmX3 hown hK hP hD hS 4 (at_X3) rfl 11 (by decide) (hts _ hlink) (fun _ h9 => h9) rfl (by decide +kernel) rfl rfl (Nat.le_of_ble_eq_true rfl) hdg (fun H1 l1 hP hD hS => kk H1 l1 ?_)
  rw [e] at hP hD
  exact ⟨hP, hD, hS⟩
theorem at_X8 {cs : Nat → ClassId} {ad al : Nat → Nat} {P : PL} {g : CS} : (SW cs ad al P g)[5]? = some (ad 5, .inr (7, FX8 ad al g)) := SW_fix (by rfl)
theorem rv_X8 (C : MCx p s m args meth c A own cc nL rt D cs) (h : MH D (SW cs ad al P g) A s H locs) : ∃ cell : Cell, H[ad 5]? = some cell ∧ cell.vm.isStatics = false ∧ s.vm.findClass RX8 = some cell.cls := va_recv C.2.2.2.2.2.2.2.1 h.1 (ci := 7) (q0 := 5) rfl (at_X8)
theorem xg_X8 {idx : Nat} {v : Value} (k : Nat) (C : MCx p s m args meth c A own cc nL rt D cs) (h : MH D (SW cs ad al P g) A s H locs) (hk : k < 6) (hlink : Cond.fieldLink own idx RX8 (TX8 k).2.1 (TX8 k).2.2.1 ∈ bT) (hsame : (TX8 k).1 = RX8) (hv : (FX8 ad al g)[k]? = some v) (hdg : decode cc pc = .ok (.getfield idx, 3)) (kk : W p l e R s m args below meth c H locs cells slots Q (F0 m (pc + 3) ls (v :: rest))) : W p l e R s m args below meth c H locs cells slots Q (F0 m pc ls (.ref (ad 5) :: rest)) := by
  obtain ⟨hx, hb, hml, hown, hts, hr, hlocks, hK, hA⟩ := C
  obtain ⟨hP, hD, hS⟩ := h
  exact va_get (ci := 7) (C := RX8) (T := TX8) (N := 6) hx hb hts bX8_in hown hK hP 5 (at_X8) rfl k hk (hts _ hlink) (fun x hx => by rw [hsame] at hx; exact hx) hv hdg kk
theorem xp_X8_1 {idx : Nat} {v : Int32} (C : MCx p s m args meth c A own cc nL rt D cs) (h : MH D (SW cs ad al P g) A s H locs) (hlink : Cond.fieldLink own idx RX8 "length" "I" ∈ bT) (hdg : decode cc pc = .ok (.putfield idx, 3)) (kk : ∀ (H1 : Heap) (locs1 : List Loc), MH D (SW cs ad al P (tI g 5 1 v)) A s H1 locs1 → W p l e R s m args below meth c H1 locs1 cells slots Q (F0 m (pc + 3) ls rest)) : W p l e R s m args below meth c H locs cells slots Q (F0 m pc ls (.int v :: .ref (ad 5) :: rest)) := by
  obtain ⟨hx, hb, hml, hown, hts, hr, hlocks, hK, hA⟩ := C
  obtain ⟨hP, hD, hS⟩ := h
  have e : (SW cs ad al P g).set 5 (ad 5, .inr (7, (FX8 ad al g).set 1 (.int v))) = SW cs ad al P (tI g 5 1 v) := by exact SW_set (by decide) rfl
  refine va_put (ci := 7) (C := RX8) (T := TX8) (N := 6) (v := .int v) (ty := .int) hx hb hts bX8_in tyX8 tyX8_ok nmX8 hown hK hP hD hS 5 (at_X8) rfl 1 (by decide) (hts _ hlink) (fun _ h9 => h9) rfl (by decide +kernel) (rfl) (rfl) (Nat.le_of_ble_eq_true rfl) hdg (fun H1 l1 hP hD hS => kk H1 l1 ?_)
  rw [e] at hP hD
  exact ⟨hP, hD, hS⟩
theorem xp_X8_2 {idx : Nat} {v : Int32} (C : MCx p s m args meth c A own cc nL rt D cs) (h : MH D (SW cs ad al P g) A s H locs) (hlink : Cond.fieldLink own idx RX8 "next" "I" ∈ bT) (hdg : decode cc pc = .ok (.putfield idx, 3)) (kk : ∀ (H1 : Heap) (locs1 : List Loc), MH D (SW cs ad al P (tI g 5 2 v)) A s H1 locs1 → W p l e R s m args below meth c H1 locs1 cells slots Q (F0 m (pc + 3) ls rest)) : W p l e R s m args below meth c H locs cells slots Q (F0 m pc ls (.int v :: .ref (ad 5) :: rest)) := by
  obtain ⟨hx, hb, hml, hown, hts, hr, hlocks, hK, hA⟩ := C
  obtain ⟨hP, hD, hS⟩ := h
  have e : (SW cs ad al P g).set 5 (ad 5, .inr (7, (FX8 ad al g).set 2 (.int v))) = SW cs ad al P (tI g 5 2 v) := by exact SW_set (by decide) rfl
  refine va_put (ci := 7) (C := RX8) (T := TX8) (N := 6) (v := .int v) (ty := .int) hx hb hts bX8_in tyX8 tyX8_ok nmX8 hown hK hP hD hS 5 (at_X8) rfl 2 (by decide) (hts _ hlink) (fun _ h9 => h9) rfl (by decide +kernel) (rfl) (rfl) (Nat.le_of_ble_eq_true rfl) hdg (fun H1 l1 hP hD hS => kk H1 l1 ?_)
  rw [e] at hP hD
  exact ⟨hP, hD, hS⟩
theorem xp_X8_3 {idx : Nat} {v : Int32} (C : MCx p s m args meth c A own cc nL rt D cs) (h : MH D (SW cs ad al P g) A s H locs) (hlink : Cond.fieldLink own idx RX8 "kind" "I" ∈ bT) (hdg : decode cc pc = .ok (.putfield idx, 3)) (kk : ∀ (H1 : Heap) (locs1 : List Loc), MH D (SW cs ad al P (tI g 5 3 v)) A s H1 locs1 → W p l e R s m args below meth c H1 locs1 cells slots Q (F0 m (pc + 3) ls rest)) : W p l e R s m args below meth c H locs cells slots Q (F0 m pc ls (.int v :: .ref (ad 5) :: rest)) := by
  obtain ⟨hx, hb, hml, hown, hts, hr, hlocks, hK, hA⟩ := C
  obtain ⟨hP, hD, hS⟩ := h
  have e : (SW cs ad al P g).set 5 (ad 5, .inr (7, (FX8 ad al g).set 3 (.int v))) = SW cs ad al P (tI g 5 3 v) := by exact SW_set (by decide) rfl
  refine va_put (ci := 7) (C := RX8) (T := TX8) (N := 6) (v := .int v) (ty := .int) hx hb hts bX8_in tyX8 tyX8_ok nmX8 hown hK hP hD hS 5 (at_X8) rfl 3 (by decide) (hts _ hlink) (fun _ h9 => h9) rfl (by decide +kernel) (rfl) (rfl) (Nat.le_of_ble_eq_true rfl) hdg (fun H1 l1 hP hD hS => kk H1 l1 ?_)
  rw [e] at hP hD
  exact ⟨hP, hD, hS⟩
theorem xp_X8_4 {idx : Nat} {v : Int32} (C : MCx p s m args meth c A own cc nL rt D cs) (h : MH D (SW cs ad al P g) A s H locs) (hlink : Cond.fieldLink own idx RX8 "start" "I" ∈ bT) (hdg : decode cc pc = .ok (.putfield idx, 3)) (kk : ∀ (H1 : Heap) (locs1 : List Loc), MH D (SW cs ad al P (tI g 5 4 v)) A s H1 locs1 → W p l e R s m args below meth c H1 locs1 cells slots Q (F0 m (pc + 3) ls rest)) : W p l e R s m args below meth c H locs cells slots Q (F0 m pc ls (.int v :: .ref (ad 5) :: rest)) := by
  obtain ⟨hx, hb, hml, hown, hts, hr, hlocks, hK, hA⟩ := C
  obtain ⟨hP, hD, hS⟩ := h
  have e : (SW cs ad al P g).set 5 (ad 5, .inr (7, (FX8 ad al g).set 4 (.int v))) = SW cs ad al P (tI g 5 4 v) := by exact SW_set (by decide) rfl
  refine va_put (ci := 7) (C := RX8) (T := TX8) (N := 6) (v := .int v) (ty := .int) hx hb hts bX8_in tyX8 tyX8_ok nmX8 hown hK hP hD hS 5 (at_X8) rfl 4 (by decide) (hts _ hlink) (fun _ h9 => h9) rfl (by decide +kernel) (rfl) (rfl) (Nat.le_of_ble_eq_true rfl) hdg (fun H1 l1 hP hD hS => kk H1 l1 ?_)
  rw [e] at hP hD
  exact ⟨hP, hD, hS⟩
theorem xp_X8_5 {idx : Nat} {v : Int32} (C : MCx p s m args meth c A own cc nL rt D cs) (h : MH D (SW cs ad al P g) A s H locs) (hlink : Cond.fieldLink own idx RX8 "value" "I" ∈ bT) (hdg : decode cc pc = .ok (.putfield idx, 3)) (kk : ∀ (H1 : Heap) (locs1 : List Loc), MH D (SW cs ad al P (tI g 5 5 v)) A s H1 locs1 → W p l e R s m args below meth c H1 locs1 cells slots Q (F0 m (pc + 3) ls rest)) : W p l e R s m args below meth c H locs cells slots Q (F0 m pc ls (.int v :: .ref (ad 5) :: rest)) := by
  obtain ⟨hx, hb, hml, hown, hts, hr, hlocks, hK, hA⟩ := C
  obtain ⟨hP, hD, hS⟩ := h
  have e : (SW cs ad al P g).set 5 (ad 5, .inr (7, (FX8 ad al g).set 5 (.int v))) = SW cs ad al P (tI g 5 5 v) := by exact SW_set (by decide) rfl
  refine va_put (ci := 7) (C := RX8) (T := TX8) (N := 6) (v := .int v) (ty := .int) hx hb hts bX8_in tyX8 tyX8_ok nmX8 hown hK hP hD hS 5 (at_X8) rfl 5 (by decide) (hts _ hlink) (fun _ h9 => h9) rfl (by decide +kernel) (rfl) (rfl) (Nat.le_of_ble_eq_true rfl) hdg (fun H1 l1 hP hD hS => kk H1 l1 ?_)
  rw [e] at hP hD
  exact ⟨hP, hD, hS⟩
theorem at_X2 {cs : Nat → ClassId} {ad al : Nat → Nat} {P : PL} {g : CS} : (SW cs ad al P g)[6]? = some (ad 6, .inr (1, FX2 ad al g)) := SW_fix (by rfl)
theorem rv_X2 (C : MCx p s m args meth c A own cc nL rt D cs) (h : MH D (SW cs ad al P g) A s H locs) : ∃ cell : Cell, H[ad 6]? = some cell ∧ cell.vm.isStatics = false ∧ s.vm.findClass RX2 = some cell.cls := va_recv C.2.2.2.2.2.2.2.1 h.1 (ci := 1) (q0 := 6) rfl (at_X2)
theorem xg_X2 {idx : Nat} {v : Value} (k : Nat) (C : MCx p s m args meth c A own cc nL rt D cs) (h : MH D (SW cs ad al P g) A s H locs) (hk : k < 11) (hlink : Cond.fieldLink own idx RX2 (TX2 k).2.1 (TX2 k).2.2.1 ∈ bT) (hsame : (TX2 k).1 = RX2) (hv : (FX2 ad al g)[k]? = some v) (hdg : decode cc pc = .ok (.getfield idx, 3)) (kk : W p l e R s m args below meth c H locs cells slots Q (F0 m (pc + 3) ls (v :: rest))) : W p l e R s m args below meth c H locs cells slots Q (F0 m pc ls (.ref (ad 6) :: rest)) := by
  obtain ⟨hx, hb, hml, hown, hts, hr, hlocks, hK, hA⟩ := C
  obtain ⟨hP, hD, hS⟩ := h
  exact va_get (ci := 1) (C := RX2) (T := TX2) (N := 11) hx hb hts bX2_in hown hK hP 6 (at_X2) rfl k hk (hts _ hlink) (fun x hx => by rw [hsame] at hx; exact hx) hv hdg kk
theorem xp_X2_1 {idx : Nat} {v : Int32} (C : MCx p s m args meth c A own cc nL rt D cs) (h : MH D (SW cs ad al P g) A s H locs) (hlink : Cond.fieldLink own idx RX2 "length" "I" ∈ bT) (hdg : decode cc pc = .ok (.putfield idx, 3)) (kk : ∀ (H1 : Heap) (locs1 : List Loc), MH D (SW cs ad al P (tI g 6 1 v)) A s H1 locs1 → W p l e R s m args below meth c H1 locs1 cells slots Q (F0 m (pc + 3) ls rest)) : W p l e R s m args below meth c H locs cells slots Q (F0 m pc ls (.int v :: .ref (ad 6) :: rest)) := by
  obtain ⟨hx, hb, hml, hown, hts, hr, hlocks, hK, hA⟩ := C
  obtain ⟨hP, hD, hS⟩ := h
  have e : (SW cs ad al P g).set 6 (ad 6, .inr (1, (FX2 ad al g).set 1 (.int v))) = SW cs ad al P (tI g 6 1 v) := by exact SW_set (by decide) rfl
  refine va_put (ci := 1) (C := RX2) (T := TX2) (N := 11) (v := .int v) (ty := .int) hx hb hts bX2_in tyX2 tyX2_ok nmX2 hown hK hP hD hS 6 (at_X2) rfl 1 (by decide) (hts _ hlink) (fun _ h9 => h9) rfl (by decide +kernel) (rfl) (rfl) (Nat.le_of_ble_eq_true rfl) hdg (fun H1 l1 hP hD hS => kk H1 l1 ?_)
  rw [e] at hP hD
  exact ⟨hP, hD, hS⟩
theorem xp_X2_4 {idx : Nat} {v : Int32} (C : MCx p s m args meth c A own cc nL rt D cs) (h : MH D (SW cs ad al P g) A s H locs) (hlink : Cond.fieldLink own idx RX2 "top" "I" ∈ bT) (hdg : decode cc pc = .ok (.putfield idx, 3)) (kk : ∀ (H1 : Heap) (locs1 : List Loc), MH D (SW cs ad al P (tI g 6 4 v)) A s H1 locs1 → W p l e R s m args below meth c H1 locs1 cells slots Q (F0 m (pc + 3) ls rest)) : W p l e R s m args below meth c H locs cells slots Q (F0 m pc ls (.int v :: .ref (ad 6) :: rest)) := by
  obtain ⟨hx, hb, hml, hown, hts, hr, hlocks, hK, hA⟩ := C
  obtain ⟨hP, hD, hS⟩ := h
  have e : (SW cs ad al P g).set 6 (ad 6, .inr (1, (FX2 ad al g).set 4 (.int v))) = SW cs ad al P (tI g 6 4 v) := by exact SW_set (by decide) rfl
  refine va_put (ci := 1) (C := RX2) (T := TX2) (N := 11) (v := .int v) (ty := .int) hx hb hts bX2_in tyX2 tyX2_ok nmX2 hown hK hP hD hS 6 (at_X2) rfl 4 (by decide) (hts _ hlink) (fun _ h9 => h9) rfl (by decide +kernel) (rfl) (rfl) (Nat.le_of_ble_eq_true rfl) hdg (fun H1 l1 hP hD hS => kk H1 l1 ?_)
  rw [e] at hP hD
  exact ⟨hP, hD, hS⟩
theorem xp_X2_5 {idx : Nat} {v : Int32} (C : MCx p s m args meth c A own cc nL rt D cs) (h : MH D (SW cs ad al P g) A s H locs) (hlink : Cond.fieldLink own idx RX2 "law" "I" ∈ bT) (hdg : decode cc pc = .ok (.putfield idx, 3)) (kk : ∀ (H1 : Heap) (locs1 : List Loc), MH D (SW cs ad al P (tI g 6 5 v)) A s H1 locs1 → W p l e R s m args below meth c H1 locs1 cells slots Q (F0 m (pc + 3) ls rest)) : W p l e R s m args below meth c H locs cells slots Q (F0 m pc ls (.int v :: .ref (ad 6) :: rest)) := by
  obtain ⟨hx, hb, hml, hown, hts, hr, hlocks, hK, hA⟩ := C
  obtain ⟨hP, hD, hS⟩ := h
  have e : (SW cs ad al P g).set 6 (ad 6, .inr (1, (FX2 ad al g).set 5 (.int v))) = SW cs ad al P (tI g 6 5 v) := by exact SW_set (by decide) rfl
  refine va_put (ci := 1) (C := RX2) (T := TX2) (N := 11) (v := .int v) (ty := .int) hx hb hts bX2_in tyX2 tyX2_ok nmX2 hown hK hP hD hS 6 (at_X2) rfl 5 (by decide) (hts _ hlink) (fun _ h9 => h9) rfl (by decide +kernel) (rfl) (rfl) (Nat.le_of_ble_eq_true rfl) hdg (fun H1 l1 hP hD hS => kk H1 l1 ?_)
  rw [e] at hP hD
  exact ⟨hP, hD, hS⟩
theorem xp_X2_6 {idx : Nat} {v : Int32} (C : MCx p s m args meth c A own cc nL rt D cs) (h : MH D (SW cs ad al P g) A s H locs) (hlink : Cond.fieldLink own idx RX2 "side" "I" ∈ bT) (hdg : decode cc pc = .ok (.putfield idx, 3)) (kk : ∀ (H1 : Heap) (locs1 : List Loc), MH D (SW cs ad al P (tI g 6 6 v)) A s H1 locs1 → W p l e R s m args below meth c H1 locs1 cells slots Q (F0 m (pc + 3) ls rest)) : W p l e R s m args below meth c H locs cells slots Q (F0 m pc ls (.int v :: .ref (ad 6) :: rest)) := by
  obtain ⟨hx, hb, hml, hown, hts, hr, hlocks, hK, hA⟩ := C
  obtain ⟨hP, hD, hS⟩ := h
  have e : (SW cs ad al P g).set 6 (ad 6, .inr (1, (FX2 ad al g).set 6 (.int v))) = SW cs ad al P (tI g 6 6 v) := by exact SW_set (by decide) rfl
  refine va_put (ci := 1) (C := RX2) (T := TX2) (N := 11) (v := .int v) (ty := .int) hx hb hts bX2_in tyX2 tyX2_ok nmX2 hown hK hP hD hS 6 (at_X2) rfl 6 (by decide) (hts _ hlink) (fun _ h9 => h9) rfl (by decide +kernel) (rfl) (rfl) (Nat.le_of_ble_eq_true rfl) hdg (fun H1 l1 hP hD hS => kk H1 l1 ?_)
  rw [e] at hP hD
  exact ⟨hP, hD, hS⟩
theorem xp_X2_7 {idx : Nat} {v : Int32} (C : MCx p s m args meth c A own cc nL rt D cs) (h : MH D (SW cs ad al P g) A s H locs) (hlink : Cond.fieldLink own idx RX2 "within" "I" ∈ bT) (hdg : decode cc pc = .ok (.putfield idx, 3)) (kk : ∀ (H1 : Heap) (locs1 : List Loc), MH D (SW cs ad al P (tI g 6 7 v)) A s H1 locs1 → W p l e R s m args below meth c H1 locs1 cells slots Q (F0 m (pc + 3) ls rest)) : W p l e R s m args below meth c H locs cells slots Q (F0 m pc ls (.int v :: .ref (ad 6) :: rest)) := by
  obtain ⟨hx, hb, hml, hown, hts, hr, hlocks, hK, hA⟩ := C
  obtain ⟨hP, hD, hS⟩ := h
  have e : (SW cs ad al P g).set 6 (ad 6, .inr (1, (FX2 ad al g).set 7 (.int v))) = SW cs ad al P (tI g 6 7 v) := by exact SW_set (by decide) rfl
  refine va_put (ci := 1) (C := RX2) (T := TX2) (N := 11) (v := .int v) (ty := .int) hx hb hts bX2_in tyX2 tyX2_ok nmX2 hown hK hP hD hS 6 (at_X2) rfl 7 (by decide) (hts _ hlink) (fun _ h9 => h9) rfl (by decide +kernel) (rfl) (rfl) (Nat.le_of_ble_eq_true rfl) hdg (fun H1 l1 hP hD hS => kk H1 l1 ?_)
  rw [e] at hP hD
  exact ⟨hP, hD, hS⟩
theorem xp_X2_8 {idx : Nat} {v : Int32} (C : MCx p s m args meth c A own cc nL rt D cs) (h : MH D (SW cs ad al P g) A s H locs) (hlink : Cond.fieldLink own idx RX2 "brackets" "I" ∈ bT) (hdg : decode cc pc = .ok (.putfield idx, 3)) (kk : ∀ (H1 : Heap) (locs1 : List Loc), MH D (SW cs ad al P (tI g 6 8 v)) A s H1 locs1 → W p l e R s m args below meth c H1 locs1 cells slots Q (F0 m (pc + 3) ls rest)) : W p l e R s m args below meth c H locs cells slots Q (F0 m pc ls (.int v :: .ref (ad 6) :: rest)) := by
  obtain ⟨hx, hb, hml, hown, hts, hr, hlocks, hK, hA⟩ := C
  obtain ⟨hP, hD, hS⟩ := h
  have e : (SW cs ad al P g).set 6 (ad 6, .inr (1, (FX2 ad al g).set 8 (.int v))) = SW cs ad al P (tI g 6 8 v) := by exact SW_set (by decide) rfl
  refine va_put (ci := 1) (C := RX2) (T := TX2) (N := 11) (v := .int v) (ty := .int) hx hb hts bX2_in tyX2 tyX2_ok nmX2 hown hK hP hD hS 6 (at_X2) rfl 8 (by decide) (hts _ hlink) (fun _ h9 => h9) rfl (by decide +kernel) (rfl) (rfl) (Nat.le_of_ble_eq_true rfl) hdg (fun H1 l1 hP hD hS => kk H1 l1 ?_)
  rw [e] at hP hD
  exact ⟨hP, hD, hS⟩
theorem xp_X2_9 {idx : Nat} {v : Int32} (C : MCx p s m args meth c A own cc nL rt D cs) (h : MH D (SW cs ad al P g) A s H locs) (hz : isB v = true) (hlink : Cond.fieldLink own idx RX2 "wanted" "Z" ∈ bT) (hdg : decode cc pc = .ok (.putfield idx, 3)) (kk : ∀ (H1 : Heap) (locs1 : List Loc), MH D (SW cs ad al P (tI g 6 9 v)) A s H1 locs1 → W p l e R s m args below meth c H1 locs1 cells slots Q (F0 m (pc + 3) ls rest)) : W p l e R s m args below meth c H locs cells slots Q (F0 m pc ls (.int v :: .ref (ad 6) :: rest)) := by
  obtain ⟨hx, hb, hml, hown, hts, hr, hlocks, hK, hA⟩ := C
  obtain ⟨hP, hD, hS⟩ := h
  have e : (SW cs ad al P g).set 6 (ad 6, .inr (1, (FX2 ad al g).set 9 (.int v))) = SW cs ad al P (tI g 6 9 v) := by exact SW_set (by decide) rfl
  refine va_put (ci := 1) (C := RX2) (T := TX2) (N := 11) (v := .int v) (ty := .boolean) hx hb hts bX2_in tyX2 tyX2_ok nmX2 hown hK hP hD hS 6 (at_X2) rfl 9 (by decide) (hts _ hlink) (fun _ h9 => h9) rfl (by decide +kernel) (isB_nar hz) (isB_fit hz) (Nat.le_of_ble_eq_true rfl) hdg (fun H1 l1 hP hD hS => kk H1 l1 ?_)
  rw [e] at hP hD
  exact ⟨hP, hD, hS⟩
theorem xp_X2_10 {idx : Nat} {v : Int32} (C : MCx p s m args meth c A own cc nL rt D cs) (h : MH D (SW cs ad al P g) A s H locs) (hz : isB v = true) (hlink : Cond.fieldLink own idx RX2 "unitStart" "Z" ∈ bT) (hdg : decode cc pc = .ok (.putfield idx, 3)) (kk : ∀ (H1 : Heap) (locs1 : List Loc), MH D (SW cs ad al P (tI g 6 10 v)) A s H1 locs1 → W p l e R s m args below meth c H1 locs1 cells slots Q (F0 m (pc + 3) ls rest)) : W p l e R s m args below meth c H locs cells slots Q (F0 m pc ls (.int v :: .ref (ad 6) :: rest)) := by
  obtain ⟨hx, hb, hml, hown, hts, hr, hlocks, hK, hA⟩ := C
  obtain ⟨hP, hD, hS⟩ := h
  have e : (SW cs ad al P g).set 6 (ad 6, .inr (1, (FX2 ad al g).set 10 (.int v))) = SW cs ad al P (tI g 6 10 v) := by exact SW_set (by decide) rfl
  refine va_put (ci := 1) (C := RX2) (T := TX2) (N := 11) (v := .int v) (ty := .boolean) hx hb hts bX2_in tyX2 tyX2_ok nmX2 hown hK hP hD hS 6 (at_X2) rfl 10 (by decide) (hts _ hlink) (fun _ h9 => h9) rfl (by decide +kernel) (isB_nar hz) (isB_fit hz) (Nat.le_of_ble_eq_true rfl) hdg (fun H1 l1 hP hD hS => kk H1 l1 ?_)
  rw [e] at hP hD
  exact ⟨hP, hD, hS⟩
theorem at_X4 {cs : Nat → ClassId} {ad al : Nat → Nat} {P : PL} {g : CS} : (SW cs ad al P g)[10]? = some (ad 10, .inr (3, FX4 ad al g)) := SW_fix (by rfl)
theorem rv_X4 (C : MCx p s m args meth c A own cc nL rt D cs) (h : MH D (SW cs ad al P g) A s H locs) : ∃ cell : Cell, H[ad 10]? = some cell ∧ cell.vm.isStatics = false ∧ s.vm.findClass RX4 = some cell.cls := va_recv C.2.2.2.2.2.2.2.1 h.1 (ci := 3) (q0 := 10) rfl (at_X4)
theorem xg_X4 {idx : Nat} {v : Value} (k : Nat) (C : MCx p s m args meth c A own cc nL rt D cs) (h : MH D (SW cs ad al P g) A s H locs) (hk : k < 2) (hlink : Cond.fieldLink own idx RX4 (TX4 k).2.1 (TX4 k).2.2.1 ∈ bT) (hsame : (TX4 k).1 = RX4) (hv : (FX4 ad al g)[k]? = some v) (hdg : decode cc pc = .ok (.getfield idx, 3)) (kk : W p l e R s m args below meth c H locs cells slots Q (F0 m (pc + 3) ls (v :: rest))) : W p l e R s m args below meth c H locs cells slots Q (F0 m pc ls (.ref (ad 10) :: rest)) := by
  obtain ⟨hx, hb, hml, hown, hts, hr, hlocks, hK, hA⟩ := C
  obtain ⟨hP, hD, hS⟩ := h
  exact va_get (ci := 3) (C := RX4) (T := TX4) (N := 2) hx hb hts bX4_in hown hK hP 10 (at_X4) rfl k hk (hts _ hlink) (fun x hx => by rw [hsame] at hx; exact hx) hv hdg kk
theorem xp_X4_1 {idx : Nat} {v : Int32} (C : MCx p s m args meth c A own cc nL rt D cs) (h : MH D (SW cs ad al P g) A s H locs) (hlink : Cond.fieldLink own idx RX4 "top" "I" ∈ bT) (hdg : decode cc pc = .ok (.putfield idx, 3)) (kk : ∀ (H1 : Heap) (locs1 : List Loc), MH D (SW cs ad al P (tI g 10 1 v)) A s H1 locs1 → W p l e R s m args below meth c H1 locs1 cells slots Q (F0 m (pc + 3) ls rest)) : W p l e R s m args below meth c H locs cells slots Q (F0 m pc ls (.int v :: .ref (ad 10) :: rest)) := by
  obtain ⟨hx, hb, hml, hown, hts, hr, hlocks, hK, hA⟩ := C
  obtain ⟨hP, hD, hS⟩ := h
  have e : (SW cs ad al P g).set 10 (ad 10, .inr (3, (FX4 ad al g).set 1 (.int v))) = SW cs ad al P (tI g 10 1 v) := by exact SW_set (by decide) rfl
  refine va_put (ci := 3) (C := RX4) (T := TX4) (N := 2) (v := .int v) (ty := .int) hx hb hts bX4_in tyX4 tyX4_ok nmX4 hown hK hP hD hS 10 (at_X4) rfl 1 (by decide) (hts _ hlink) (fun _ h9 => h9) rfl (by decide +kernel) (rfl) (rfl) (Nat.le_of_ble_eq_true rfl) hdg (fun H1 l1 hP hD hS => kk H1 l1 ?_)
  rw [e] at hP hD
  exact ⟨hP, hD, hS⟩
theorem at_X10 {cs : Nat → ClassId} {ad al : Nat → Nat} {P : PL} {g : CS} : (SW cs ad al P g)[12]? = some (ad 12, .inr (9, FX10 ad al g)) := SW_fix (by rfl)
theorem rv_X10 (C : MCx p s m args meth c A own cc nL rt D cs) (h : MH D (SW cs ad al P g) A s H locs) : ∃ cell : Cell, H[ad 12]? = some cell ∧ cell.vm.isStatics = false ∧ s.vm.findClass RX10 = some cell.cls := va_recv C.2.2.2.2.2.2.2.1 h.1 (ci := 9) (q0 := 12) rfl (at_X10)
theorem xg_X10 {idx : Nat} {v : Value} (k : Nat) (C : MCx p s m args meth c A own cc nL rt D cs) (h : MH D (SW cs ad al P g) A s H locs) (hk : k < 13) (hlink : Cond.fieldLink own idx RX10 (TX10 k).2.1 (TX10 k).2.2.1 ∈ bT) (hsame : (TX10 k).1 = RX10) (hv : (FX10 ad al g)[k]? = some v) (hdg : decode cc pc = .ok (.getfield idx, 3)) (kk : W p l e R s m args below meth c H locs cells slots Q (F0 m (pc + 3) ls (v :: rest))) : W p l e R s m args below meth c H locs cells slots Q (F0 m pc ls (.ref (ad 12) :: rest)) := by
  obtain ⟨hx, hb, hml, hown, hts, hr, hlocks, hK, hA⟩ := C
  obtain ⟨hP, hD, hS⟩ := h
  exact va_get (ci := 9) (C := RX10) (T := TX10) (N := 13) hx hb hts bX10_in hown hK hP 12 (at_X10) rfl k hk (hts _ hlink) (fun x hx => by rw [hsame] at hx; exact hx) hv hdg kk
theorem xp_X10_1 {idx : Nat} {v : Int32} (C : MCx p s m args meth c A own cc nL rt D cs) (h : MH D (SW cs ad al P g) A s H locs) (hlink : Cond.fieldLink own idx RX10 "stamp" "I" ∈ bT) (hdg : decode cc pc = .ok (.putfield idx, 3)) (kk : ∀ (H1 : Heap) (locs1 : List Loc), MH D (SW cs ad al P (tI g 12 1 v)) A s H1 locs1 → W p l e R s m args below meth c H1 locs1 cells slots Q (F0 m (pc + 3) ls rest)) : W p l e R s m args below meth c H locs cells slots Q (F0 m pc ls (.int v :: .ref (ad 12) :: rest)) := by
  obtain ⟨hx, hb, hml, hown, hts, hr, hlocks, hK, hA⟩ := C
  obtain ⟨hP, hD, hS⟩ := h
  have e : (SW cs ad al P g).set 12 (ad 12, .inr (9, (FX10 ad al g).set 1 (.int v))) = SW cs ad al P (tI g 12 1 v) := by exact SW_set (by decide) rfl
  refine va_put (ci := 9) (C := RX10) (T := TX10) (N := 13) (v := .int v) (ty := .int) hx hb hts bX10_in tyX10 tyX10_ok nmX10 hown hK hP hD hS 12 (at_X10) rfl 1 (by decide) (hts _ hlink) (fun _ h9 => h9) rfl (by decide +kernel) (rfl) (rfl) (Nat.le_of_ble_eq_true rfl) hdg (fun H1 l1 hP hD hS => kk H1 l1 ?_)
  rw [e] at hP hD
  exact ⟨hP, hD, hS⟩
theorem xp_X10_6 {idx : Nat} {v : Int32} (C : MCx p s m args meth c A own cc nL rt D cs) (h : MH D (SW cs ad al P g) A s H locs) (hlink : Cond.fieldLink own idx RX10 "members" "I" ∈ bT) (hdg : decode cc pc = .ok (.putfield idx, 3)) (kk : ∀ (H1 : Heap) (locs1 : List Loc), MH D (SW cs ad al P (tI g 12 6 v)) A s H1 locs1 → W p l e R s m args below meth c H1 locs1 cells slots Q (F0 m (pc + 3) ls rest)) : W p l e R s m args below meth c H locs cells slots Q (F0 m pc ls (.int v :: .ref (ad 12) :: rest)) := by
  obtain ⟨hx, hb, hml, hown, hts, hr, hlocks, hK, hA⟩ := C
  obtain ⟨hP, hD, hS⟩ := h
  have e : (SW cs ad al P g).set 12 (ad 12, .inr (9, (FX10 ad al g).set 6 (.int v))) = SW cs ad al P (tI g 12 6 v) := by exact SW_set (by decide) rfl
  refine va_put (ci := 9) (C := RX10) (T := TX10) (N := 13) (v := .int v) (ty := .int) hx hb hts bX10_in tyX10 tyX10_ok nmX10 hown hK hP hD hS 12 (at_X10) rfl 6 (by decide) (hts _ hlink) (fun _ h9 => h9) rfl (by decide +kernel) (rfl) (rfl) (Nat.le_of_ble_eq_true rfl) hdg (fun H1 l1 hP hD hS => kk H1 l1 ?_)
  rw [e] at hP hD
  exact ⟨hP, hD, hS⟩
theorem xp_X10_7 {idx : Nat} {v : Int32} (C : MCx p s m args meth c A own cc nL rt D cs) (h : MH D (SW cs ad al P g) A s H locs) (hlink : Cond.fieldLink own idx RX10 "freeMany" "I" ∈ bT) (hdg : decode cc pc = .ok (.putfield idx, 3)) (kk : ∀ (H1 : Heap) (locs1 : List Loc), MH D (SW cs ad al P (tI g 12 7 v)) A s H1 locs1 → W p l e R s m args below meth c H1 locs1 cells slots Q (F0 m (pc + 3) ls rest)) : W p l e R s m args below meth c H locs cells slots Q (F0 m pc ls (.int v :: .ref (ad 12) :: rest)) := by
  obtain ⟨hx, hb, hml, hown, hts, hr, hlocks, hK, hA⟩ := C
  obtain ⟨hP, hD, hS⟩ := h
  have e : (SW cs ad al P g).set 12 (ad 12, .inr (9, (FX10 ad al g).set 7 (.int v))) = SW cs ad al P (tI g 12 7 v) := by exact SW_set (by decide) rfl
  refine va_put (ci := 9) (C := RX10) (T := TX10) (N := 13) (v := .int v) (ty := .int) hx hb hts bX10_in tyX10 tyX10_ok nmX10 hown hK hP hD hS 12 (at_X10) rfl 7 (by decide) (hts _ hlink) (fun _ h9 => h9) rfl (by decide +kernel) (rfl) (rfl) (Nat.le_of_ble_eq_true rfl) hdg (fun H1 l1 hP hD hS => kk H1 l1 ?_)
  rw [e] at hP hD
  exact ⟨hP, hD, hS⟩
theorem xp_X10_8 {idx : Nat} {v : Int32} (C : MCx p s m args meth c A own cc nL rt D cs) (h : MH D (SW cs ad al P g) A s H locs) (hlink : Cond.fieldLink own idx RX10 "many" "I" ∈ bT) (hdg : decode cc pc = .ok (.putfield idx, 3)) (kk : ∀ (H1 : Heap) (locs1 : List Loc), MH D (SW cs ad al P (tI g 12 8 v)) A s H1 locs1 → W p l e R s m args below meth c H1 locs1 cells slots Q (F0 m (pc + 3) ls rest)) : W p l e R s m args below meth c H locs cells slots Q (F0 m pc ls (.int v :: .ref (ad 12) :: rest)) := by
  obtain ⟨hx, hb, hml, hown, hts, hr, hlocks, hK, hA⟩ := C
  obtain ⟨hP, hD, hS⟩ := h
  have e : (SW cs ad al P g).set 12 (ad 12, .inr (9, (FX10 ad al g).set 8 (.int v))) = SW cs ad al P (tI g 12 8 v) := by exact SW_set (by decide) rfl
  refine va_put (ci := 9) (C := RX10) (T := TX10) (N := 13) (v := .int v) (ty := .int) hx hb hts bX10_in tyX10 tyX10_ok nmX10 hown hK hP hD hS 12 (at_X10) rfl 8 (by decide) (hts _ hlink) (fun _ h9 => h9) rfl (by decide +kernel) (rfl) (rfl) (Nat.le_of_ble_eq_true rfl) hdg (fun H1 l1 hP hD hS => kk H1 l1 ?_)
  rw [e] at hP hD
  exact ⟨hP, hD, hS⟩
theorem xp_X10_9 {idx : Nat} {v : Int32} (C : MCx p s m args meth c A own cc nL rt D cs) (h : MH D (SW cs ad al P g) A s H locs) (hlink : Cond.fieldLink own idx RX10 "look" "I" ∈ bT) (hdg : decode cc pc = .ok (.putfield idx, 3)) (kk : ∀ (H1 : Heap) (locs1 : List Loc), MH D (SW cs ad al P (tI g 12 9 v)) A s H1 locs1 → W p l e R s m args below meth c H1 locs1 cells slots Q (F0 m (pc + 3) ls rest)) : W p l e R s m args below meth c H locs cells slots Q (F0 m pc ls (.int v :: .ref (ad 12) :: rest)) := by
  obtain ⟨hx, hb, hml, hown, hts, hr, hlocks, hK, hA⟩ := C
  obtain ⟨hP, hD, hS⟩ := h
  have e : (SW cs ad al P g).set 12 (ad 12, .inr (9, (FX10 ad al g).set 9 (.int v))) = SW cs ad al P (tI g 12 9 v) := by exact SW_set (by decide) rfl
  refine va_put (ci := 9) (C := RX10) (T := TX10) (N := 13) (v := .int v) (ty := .int) hx hb hts bX10_in tyX10 tyX10_ok nmX10 hown hK hP hD hS 12 (at_X10) rfl 9 (by decide) (hts _ hlink) (fun _ h9 => h9) rfl (by decide +kernel) (rfl) (rfl) (Nat.le_of_ble_eq_true rfl) hdg (fun H1 l1 hP hD hS => kk H1 l1 ?_)
  rw [e] at hP hD
  exact ⟨hP, hD, hS⟩
theorem xp_X10_10 {idx : Nat} {v : Int32} (C : MCx p s m args meth c A own cc nL rt D cs) (h : MH D (SW cs ad al P g) A s H locs) (hlink : Cond.fieldLink own idx RX10 "cost" "I" ∈ bT) (hdg : decode cc pc = .ok (.putfield idx, 3)) (kk : ∀ (H1 : Heap) (locs1 : List Loc), MH D (SW cs ad al P (tI g 12 10 v)) A s H1 locs1 → W p l e R s m args below meth c H1 locs1 cells slots Q (F0 m (pc + 3) ls rest)) : W p l e R s m args below meth c H locs cells slots Q (F0 m pc ls (.int v :: .ref (ad 12) :: rest)) := by
  obtain ⟨hx, hb, hml, hown, hts, hr, hlocks, hK, hA⟩ := C
  obtain ⟨hP, hD, hS⟩ := h
  have e : (SW cs ad al P g).set 12 (ad 12, .inr (9, (FX10 ad al g).set 10 (.int v))) = SW cs ad al P (tI g 12 10 v) := by exact SW_set (by decide) rfl
  refine va_put (ci := 9) (C := RX10) (T := TX10) (N := 13) (v := .int v) (ty := .int) hx hb hts bX10_in tyX10 tyX10_ok nmX10 hown hK hP hD hS 12 (at_X10) rfl 10 (by decide) (hts _ hlink) (fun _ h9 => h9) rfl (by decide +kernel) (rfl) (rfl) (Nat.le_of_ble_eq_true rfl) hdg (fun H1 l1 hP hD hS => kk H1 l1 ?_)
  rw [e] at hP hD
  exact ⟨hP, hD, hS⟩
theorem xp_X10_11 {idx : Nat} {v : Int32} (C : MCx p s m args meth c A own cc nL rt D cs) (h : MH D (SW cs ad al P g) A s H locs) (hlink : Cond.fieldLink own idx RX10 "notches" "I" ∈ bT) (hdg : decode cc pc = .ok (.putfield idx, 3)) (kk : ∀ (H1 : Heap) (locs1 : List Loc), MH D (SW cs ad al P (tI g 12 11 v)) A s H1 locs1 → W p l e R s m args below meth c H1 locs1 cells slots Q (F0 m (pc + 3) ls rest)) : W p l e R s m args below meth c H locs cells slots Q (F0 m pc ls (.int v :: .ref (ad 12) :: rest)) := by
  obtain ⟨hx, hb, hml, hown, hts, hr, hlocks, hK, hA⟩ := C
  obtain ⟨hP, hD, hS⟩ := h
  have e : (SW cs ad al P g).set 12 (ad 12, .inr (9, (FX10 ad al g).set 11 (.int v))) = SW cs ad al P (tI g 12 11 v) := by exact SW_set (by decide) rfl
  refine va_put (ci := 9) (C := RX10) (T := TX10) (N := 13) (v := .int v) (ty := .int) hx hb hts bX10_in tyX10 tyX10_ok nmX10 hown hK hP hD hS 12 (at_X10) rfl 11 (by decide) (hts _ hlink) (fun _ h9 => h9) rfl (by decide +kernel) (rfl) (rfl) (Nat.le_of_ble_eq_true rfl) hdg (fun H1 l1 hP hD hS => kk H1 l1 ?_)
  rw [e] at hP hD
  exact ⟨hP, hD, hS⟩
theorem xp_X10_12 {idx : Nat} {v : Int32} (C : MCx p s m args meth c A own cc nL rt D cs) (h : MH D (SW cs ad al P g) A s H locs) (hlink : Cond.fieldLink own idx RX10 "movers" "I" ∈ bT) (hdg : decode cc pc = .ok (.putfield idx, 3)) (kk : ∀ (H1 : Heap) (locs1 : List Loc), MH D (SW cs ad al P (tI g 12 12 v)) A s H1 locs1 → W p l e R s m args below meth c H1 locs1 cells slots Q (F0 m (pc + 3) ls rest)) : W p l e R s m args below meth c H locs cells slots Q (F0 m pc ls (.int v :: .ref (ad 12) :: rest)) := by
  obtain ⟨hx, hb, hml, hown, hts, hr, hlocks, hK, hA⟩ := C
  obtain ⟨hP, hD, hS⟩ := h
  have e : (SW cs ad al P g).set 12 (ad 12, .inr (9, (FX10 ad al g).set 12 (.int v))) = SW cs ad al P (tI g 12 12 v) := by exact SW_set (by decide) rfl
  refine va_put (ci := 9) (C := RX10) (T := TX10) (N := 13) (v := .int v) (ty := .int) hx hb hts bX10_in tyX10 tyX10_ok nmX10 hown hK hP hD hS 12 (at_X10) rfl 12 (by decide) (hts _ hlink) (fun _ h9 => h9) rfl (by decide +kernel) (rfl) (rfl) (Nat.le_of_ble_eq_true rfl) hdg (fun H1 l1 hP hD hS => kk H1 l1 ?_)
  rw [e] at hP hD
  exact ⟨hP, hD, hS⟩
theorem at_X7 {cs : Nat → ClassId} {ad al : Nat → Nat} {P : PL} {g : CS} : (SW cs ad al P g)[17]? = some (ad 17, .inr (6, FX7 ad al g)) := SW_fix (by rfl)
theorem rv_X7 (C : MCx p s m args meth c A own cc nL rt D cs) (h : MH D (SW cs ad al P g) A s H locs) : ∃ cell : Cell, H[ad 17]? = some cell ∧ cell.vm.isStatics = false ∧ s.vm.findClass RX7 = some cell.cls := va_recv C.2.2.2.2.2.2.2.1 h.1 (ci := 6) (q0 := 17) rfl (at_X7)
theorem xg_X7 {idx : Nat} {v : Value} (k : Nat) (C : MCx p s m args meth c A own cc nL rt D cs) (h : MH D (SW cs ad al P g) A s H locs) (hk : k < 17) (hlink : Cond.fieldLink own idx RX7 (TX7 k).2.1 (TX7 k).2.2.1 ∈ bT) (hsame : (TX7 k).1 = RX7) (hv : (FX7 ad al g)[k]? = some v) (hdg : decode cc pc = .ok (.getfield idx, 3)) (kk : W p l e R s m args below meth c H locs cells slots Q (F0 m (pc + 3) ls (v :: rest))) : W p l e R s m args below meth c H locs cells slots Q (F0 m pc ls (.ref (ad 17) :: rest)) := by
  obtain ⟨hx, hb, hml, hown, hts, hr, hlocks, hK, hA⟩ := C
  obtain ⟨hP, hD, hS⟩ := h
  exact va_get (ci := 6) (C := RX7) (T := TX7) (N := 17) hx hb hts bX7_in hown hK hP 17 (at_X7) rfl k hk (hts _ hlink) (fun x hx => by rw [hsame] at hx; exact hx) hv hdg kk
theorem xp_X7_2 {idx : Nat} {v : Int32} (C : MCx p s m args meth c A own cc nL rt D cs) (h : MH D (SW cs ad al P g) A s H locs) (hlink : Cond.fieldLink own idx RX7 "seatedAt" "I" ∈ bT) (hdg : decode cc pc = .ok (.putfield idx, 3)) (kk : ∀ (H1 : Heap) (locs1 : List Loc), MH D (SW cs ad al P (tI g 17 2 v)) A s H1 locs1 → W p l e R s m args below meth c H1 locs1 cells slots Q (F0 m (pc + 3) ls rest)) : W p l e R s m args below meth c H locs cells slots Q (F0 m pc ls (.int v :: .ref (ad 17) :: rest)) := by
  obtain ⟨hx, hb, hml, hown, hts, hr, hlocks, hK, hA⟩ := C
  obtain ⟨hP, hD, hS⟩ := h
  have e : (SW cs ad al P g).set 17 (ad 17, .inr (6, (FX7 ad al g).set 2 (.int v))) = SW cs ad al P (tI g 17 2 v) := by exact SW_set (by decide) rfl
  refine va_put (ci := 6) (C := RX7) (T := TX7) (N := 17) (v := .int v) (ty := .int) hx hb hts bX7_in tyX7 tyX7_ok nmX7 hown hK hP hD hS 17 (at_X7) rfl 2 (by decide) (hts _ hlink) (fun _ h9 => h9) rfl (by decide +kernel) (rfl) (rfl) (Nat.le_of_ble_eq_true rfl) hdg (fun H1 l1 hP hD hS => kk H1 l1 ?_)
  rw [e] at hP hD
  exact ⟨hP, hD, hS⟩
theorem xp_X7_3 {idx : Nat} {v : Int32} (C : MCx p s m args meth c A own cc nL rt D cs) (h : MH D (SW cs ad al P g) A s H locs) (hlink : Cond.fieldLink own idx RX7 "pairedAt" "I" ∈ bT) (hdg : decode cc pc = .ok (.putfield idx, 3)) (kk : ∀ (H1 : Heap) (locs1 : List Loc), MH D (SW cs ad al P (tI g 17 3 v)) A s H1 locs1 → W p l e R s m args below meth c H1 locs1 cells slots Q (F0 m (pc + 3) ls rest)) : W p l e R s m args below meth c H locs cells slots Q (F0 m pc ls (.int v :: .ref (ad 17) :: rest)) := by
  obtain ⟨hx, hb, hml, hown, hts, hr, hlocks, hK, hA⟩ := C
  obtain ⟨hP, hD, hS⟩ := h
  have e : (SW cs ad al P g).set 17 (ad 17, .inr (6, (FX7 ad al g).set 3 (.int v))) = SW cs ad al P (tI g 17 3 v) := by exact SW_set (by decide) rfl
  refine va_put (ci := 6) (C := RX7) (T := TX7) (N := 17) (v := .int v) (ty := .int) hx hb hts bX7_in tyX7 tyX7_ok nmX7 hown hK hP hD hS 17 (at_X7) rfl 3 (by decide) (hts _ hlink) (fun _ h9 => h9) rfl (by decide +kernel) (rfl) (rfl) (Nat.le_of_ble_eq_true rfl) hdg (fun H1 l1 hP hD hS => kk H1 l1 ?_)
  rw [e] at hP hD
  exact ⟨hP, hD, hS⟩
theorem xp_X7_4 {idx : Nat} {v : Int32} (C : MCx p s m args meth c A own cc nL rt D cs) (h : MH D (SW cs ad al P g) A s H locs) (hlink : Cond.fieldLink own idx RX7 "toldAt" "I" ∈ bT) (hdg : decode cc pc = .ok (.putfield idx, 3)) (kk : ∀ (H1 : Heap) (locs1 : List Loc), MH D (SW cs ad al P (tI g 17 4 v)) A s H1 locs1 → W p l e R s m args below meth c H1 locs1 cells slots Q (F0 m (pc + 3) ls rest)) : W p l e R s m args below meth c H locs cells slots Q (F0 m pc ls (.int v :: .ref (ad 17) :: rest)) := by
  obtain ⟨hx, hb, hml, hown, hts, hr, hlocks, hK, hA⟩ := C
  obtain ⟨hP, hD, hS⟩ := h
  have e : (SW cs ad al P g).set 17 (ad 17, .inr (6, (FX7 ad al g).set 4 (.int v))) = SW cs ad al P (tI g 17 4 v) := by exact SW_set (by decide) rfl
  refine va_put (ci := 6) (C := RX7) (T := TX7) (N := 17) (v := .int v) (ty := .int) hx hb hts bX7_in tyX7 tyX7_ok nmX7 hown hK hP hD hS 17 (at_X7) rfl 4 (by decide) (hts _ hlink) (fun _ h9 => h9) rfl (by decide +kernel) (rfl) (rfl) (Nat.le_of_ble_eq_true rfl) hdg (fun H1 l1 hP hD hS => kk H1 l1 ?_)
  rw [e] at hP hD
  exact ⟨hP, hD, hS⟩
theorem xp_X7_5 {idx : Nat} {v : Int32} (C : MCx p s m args meth c A own cc nL rt D cs) (h : MH D (SW cs ad al P g) A s H locs) (hlink : Cond.fieldLink own idx RX7 "toldMask" "I" ∈ bT) (hdg : decode cc pc = .ok (.putfield idx, 3)) (kk : ∀ (H1 : Heap) (locs1 : List Loc), MH D (SW cs ad al P (tI g 17 5 v)) A s H1 locs1 → W p l e R s m args below meth c H1 locs1 cells slots Q (F0 m (pc + 3) ls rest)) : W p l e R s m args below meth c H locs cells slots Q (F0 m pc ls (.int v :: .ref (ad 17) :: rest)) := by
  obtain ⟨hx, hb, hml, hown, hts, hr, hlocks, hK, hA⟩ := C
  obtain ⟨hP, hD, hS⟩ := h
  have e : (SW cs ad al P g).set 17 (ad 17, .inr (6, (FX7 ad al g).set 5 (.int v))) = SW cs ad al P (tI g 17 5 v) := by exact SW_set (by decide) rfl
  refine va_put (ci := 6) (C := RX7) (T := TX7) (N := 17) (v := .int v) (ty := .int) hx hb hts bX7_in tyX7 tyX7_ok nmX7 hown hK hP hD hS 17 (at_X7) rfl 5 (by decide) (hts _ hlink) (fun _ h9 => h9) rfl (by decide +kernel) (rfl) (rfl) (Nat.le_of_ble_eq_true rfl) hdg (fun H1 l1 hP hD hS => kk H1 l1 ?_)
  rw [e] at hP hD
  exact ⟨hP, hD, hS⟩
theorem xp_X7_6 {idx : Nat} {v : Int32} (C : MCx p s m args meth c A own cc nL rt D cs) (h : MH D (SW cs ad al P g) A s H locs) (hlink : Cond.fieldLink own idx RX7 "toldAims" "I" ∈ bT) (hdg : decode cc pc = .ok (.putfield idx, 3)) (kk : ∀ (H1 : Heap) (locs1 : List Loc), MH D (SW cs ad al P (tI g 17 6 v)) A s H1 locs1 → W p l e R s m args below meth c H1 locs1 cells slots Q (F0 m (pc + 3) ls rest)) : W p l e R s m args below meth c H locs cells slots Q (F0 m pc ls (.int v :: .ref (ad 17) :: rest)) := by
  obtain ⟨hx, hb, hml, hown, hts, hr, hlocks, hK, hA⟩ := C
  obtain ⟨hP, hD, hS⟩ := h
  have e : (SW cs ad al P g).set 17 (ad 17, .inr (6, (FX7 ad al g).set 6 (.int v))) = SW cs ad al P (tI g 17 6 v) := by exact SW_set (by decide) rfl
  refine va_put (ci := 6) (C := RX7) (T := TX7) (N := 17) (v := .int v) (ty := .int) hx hb hts bX7_in tyX7 tyX7_ok nmX7 hown hK hP hD hS 17 (at_X7) rfl 6 (by decide) (hts _ hlink) (fun _ h9 => h9) rfl (by decide +kernel) (rfl) (rfl) (Nat.le_of_ble_eq_true rfl) hdg (fun H1 l1 hP hD hS => kk H1 l1 ?_)
  rw [e] at hP hD
  exact ⟨hP, hD, hS⟩
theorem xp_X7_7 {idx : Nat} {v : Int32} (C : MCx p s m args meth c A own cc nL rt D cs) (h : MH D (SW cs ad al P g) A s H locs) (hlink : Cond.fieldLink own idx RX7 "toldWays" "I" ∈ bT) (hdg : decode cc pc = .ok (.putfield idx, 3)) (kk : ∀ (H1 : Heap) (locs1 : List Loc), MH D (SW cs ad al P (tI g 17 7 v)) A s H1 locs1 → W p l e R s m args below meth c H1 locs1 cells slots Q (F0 m (pc + 3) ls rest)) : W p l e R s m args below meth c H locs cells slots Q (F0 m pc ls (.int v :: .ref (ad 17) :: rest)) := by
  obtain ⟨hx, hb, hml, hown, hts, hr, hlocks, hK, hA⟩ := C
  obtain ⟨hP, hD, hS⟩ := h
  have e : (SW cs ad al P g).set 17 (ad 17, .inr (6, (FX7 ad al g).set 7 (.int v))) = SW cs ad al P (tI g 17 7 v) := by exact SW_set (by decide) rfl
  refine va_put (ci := 6) (C := RX7) (T := TX7) (N := 17) (v := .int v) (ty := .int) hx hb hts bX7_in tyX7 tyX7_ok nmX7 hown hK hP hD hS 17 (at_X7) rfl 7 (by decide) (hts _ hlink) (fun _ h9 => h9) rfl (by decide +kernel) (rfl) (rfl) (Nat.le_of_ble_eq_true rfl) hdg (fun H1 l1 hP hD hS => kk H1 l1 ?_)
  rw [e] at hP hD
  exact ⟨hP, hD, hS⟩
theorem xp_X7_8 {idx : Nat} {v : Int32} (C : MCx p s m args meth c A own cc nL rt D cs) (h : MH D (SW cs ad al P g) A s H locs) (hlink : Cond.fieldLink own idx RX7 "toldCost" "I" ∈ bT) (hdg : decode cc pc = .ok (.putfield idx, 3)) (kk : ∀ (H1 : Heap) (locs1 : List Loc), MH D (SW cs ad al P (tI g 17 8 v)) A s H1 locs1 → W p l e R s m args below meth c H1 locs1 cells slots Q (F0 m (pc + 3) ls rest)) : W p l e R s m args below meth c H locs cells slots Q (F0 m pc ls (.int v :: .ref (ad 17) :: rest)) := by
  obtain ⟨hx, hb, hml, hown, hts, hr, hlocks, hK, hA⟩ := C
  obtain ⟨hP, hD, hS⟩ := h
  have e : (SW cs ad al P g).set 17 (ad 17, .inr (6, (FX7 ad al g).set 8 (.int v))) = SW cs ad al P (tI g 17 8 v) := by exact SW_set (by decide) rfl
  refine va_put (ci := 6) (C := RX7) (T := TX7) (N := 17) (v := .int v) (ty := .int) hx hb hts bX7_in tyX7 tyX7_ok nmX7 hown hK hP hD hS 17 (at_X7) rfl 8 (by decide) (hts _ hlink) (fun _ h9 => h9) rfl (by decide +kernel) (rfl) (rfl) (Nat.le_of_ble_eq_true rfl) hdg (fun H1 l1 hP hD hS => kk H1 l1 ?_)
  rw [e] at hP hD
  exact ⟨hP, hD, hS⟩
theorem xp_X7_9 {idx : Nat} {v : Int32} (C : MCx p s m args meth c A own cc nL rt D cs) (h : MH D (SW cs ad al P g) A s H locs) (hlink : Cond.fieldLink own idx RX7 "toldNotches" "I" ∈ bT) (hdg : decode cc pc = .ok (.putfield idx, 3)) (kk : ∀ (H1 : Heap) (locs1 : List Loc), MH D (SW cs ad al P (tI g 17 9 v)) A s H1 locs1 → W p l e R s m args below meth c H1 locs1 cells slots Q (F0 m (pc + 3) ls rest)) : W p l e R s m args below meth c H locs cells slots Q (F0 m pc ls (.int v :: .ref (ad 17) :: rest)) := by
  obtain ⟨hx, hb, hml, hown, hts, hr, hlocks, hK, hA⟩ := C
  obtain ⟨hP, hD, hS⟩ := h
  have e : (SW cs ad al P g).set 17 (ad 17, .inr (6, (FX7 ad al g).set 9 (.int v))) = SW cs ad al P (tI g 17 9 v) := by exact SW_set (by decide) rfl
  refine va_put (ci := 6) (C := RX7) (T := TX7) (N := 17) (v := .int v) (ty := .int) hx hb hts bX7_in tyX7 tyX7_ok nmX7 hown hK hP hD hS 17 (at_X7) rfl 9 (by decide) (hts _ hlink) (fun _ h9 => h9) rfl (by decide +kernel) (rfl) (rfl) (Nat.le_of_ble_eq_true rfl) hdg (fun H1 l1 hP hD hS => kk H1 l1 ?_)
  rw [e] at hP hD
  exact ⟨hP, hD, hS⟩
theorem xp_X7_10 {idx : Nat} {v : Int32} (C : MCx p s m args meth c A own cc nL rt D cs) (h : MH D (SW cs ad al P g) A s H locs) (hlink : Cond.fieldLink own idx RX7 "mostKnees" "I" ∈ bT) (hdg : decode cc pc = .ok (.putfield idx, 3)) (kk : ∀ (H1 : Heap) (locs1 : List Loc), MH D (SW cs ad al P (tI g 17 10 v)) A s H1 locs1 → W p l e R s m args below meth c H1 locs1 cells slots Q (F0 m (pc + 3) ls rest)) : W p l e R s m args below meth c H locs cells slots Q (F0 m pc ls (.int v :: .ref (ad 17) :: rest)) := by
  obtain ⟨hx, hb, hml, hown, hts, hr, hlocks, hK, hA⟩ := C
  obtain ⟨hP, hD, hS⟩ := h
  have e : (SW cs ad al P g).set 17 (ad 17, .inr (6, (FX7 ad al g).set 10 (.int v))) = SW cs ad al P (tI g 17 10 v) := by exact SW_set (by decide) rfl
  refine va_put (ci := 6) (C := RX7) (T := TX7) (N := 17) (v := .int v) (ty := .int) hx hb hts bX7_in tyX7 tyX7_ok nmX7 hown hK hP hD hS 17 (at_X7) rfl 10 (by decide) (hts _ hlink) (fun _ h9 => h9) rfl (by decide +kernel) (rfl) (rfl) (Nat.le_of_ble_eq_true rfl) hdg (fun H1 l1 hP hD hS => kk H1 l1 ?_)
  rw [e] at hP hD
  exact ⟨hP, hD, hS⟩
theorem xp_X7_11 {idx : Nat} {v : Int32} (C : MCx p s m args meth c A own cc nL rt D cs) (h : MH D (SW cs ad al P g) A s H locs) (hlink : Cond.fieldLink own idx RX7 "kneesCost" "I" ∈ bT) (hdg : decode cc pc = .ok (.putfield idx, 3)) (kk : ∀ (H1 : Heap) (locs1 : List Loc), MH D (SW cs ad al P (tI g 17 11 v)) A s H1 locs1 → W p l e R s m args below meth c H1 locs1 cells slots Q (F0 m (pc + 3) ls rest)) : W p l e R s m args below meth c H locs cells slots Q (F0 m pc ls (.int v :: .ref (ad 17) :: rest)) := by
  obtain ⟨hx, hb, hml, hown, hts, hr, hlocks, hK, hA⟩ := C
  obtain ⟨hP, hD, hS⟩ := h
  have e : (SW cs ad al P g).set 17 (ad 17, .inr (6, (FX7 ad al g).set 11 (.int v))) = SW cs ad al P (tI g 17 11 v) := by exact SW_set (by decide) rfl
  refine va_put (ci := 6) (C := RX7) (T := TX7) (N := 17) (v := .int v) (ty := .int) hx hb hts bX7_in tyX7 tyX7_ok nmX7 hown hK hP hD hS 17 (at_X7) rfl 11 (by decide) (hts _ hlink) (fun _ h9 => h9) rfl (by decide +kernel) (rfl) (rfl) (Nat.le_of_ble_eq_true rfl) hdg (fun H1 l1 hP hD hS => kk H1 l1 ?_)
  rw [e] at hP hD
  exact ⟨hP, hD, hS⟩
theorem xp_X7_12 {idx : Nat} {v : Int32} (C : MCx p s m args meth c A own cc nL rt D cs) (h : MH D (SW cs ad al P g) A s H locs) (hlink : Cond.fieldLink own idx RX7 "kneesNotches" "I" ∈ bT) (hdg : decode cc pc = .ok (.putfield idx, 3)) (kk : ∀ (H1 : Heap) (locs1 : List Loc), MH D (SW cs ad al P (tI g 17 12 v)) A s H1 locs1 → W p l e R s m args below meth c H1 locs1 cells slots Q (F0 m (pc + 3) ls rest)) : W p l e R s m args below meth c H locs cells slots Q (F0 m pc ls (.int v :: .ref (ad 17) :: rest)) := by
  obtain ⟨hx, hb, hml, hown, hts, hr, hlocks, hK, hA⟩ := C
  obtain ⟨hP, hD, hS⟩ := h
  have e : (SW cs ad al P g).set 17 (ad 17, .inr (6, (FX7 ad al g).set 12 (.int v))) = SW cs ad al P (tI g 17 12 v) := by exact SW_set (by decide) rfl
  refine va_put (ci := 6) (C := RX7) (T := TX7) (N := 17) (v := .int v) (ty := .int) hx hb hts bX7_in tyX7 tyX7_ok nmX7 hown hK hP hD hS 17 (at_X7) rfl 12 (by decide) (hts _ hlink) (fun _ h9 => h9) rfl (by decide +kernel) (rfl) (rfl) (Nat.le_of_ble_eq_true rfl) hdg (fun H1 l1 hP hD hS => kk H1 l1 ?_)
  rw [e] at hP hD
  exact ⟨hP, hD, hS⟩
theorem at_X5 {cs : Nat → ClassId} {ad al : Nat → Nat} {P : PL} {g : CS} : (SW cs ad al P g)[22]? = some (ad 22, .inr (4, FX5 ad al g)) := SW_fix (by rfl)
theorem rv_X5 (C : MCx p s m args meth c A own cc nL rt D cs) (h : MH D (SW cs ad al P g) A s H locs) : ∃ cell : Cell, H[ad 22]? = some cell ∧ cell.vm.isStatics = false ∧ s.vm.findClass RX5 = some cell.cls := va_recv C.2.2.2.2.2.2.2.1 h.1 (ci := 4) (q0 := 22) rfl (at_X5)
theorem xg_X5 {idx : Nat} {v : Value} (k : Nat) (C : MCx p s m args meth c A own cc nL rt D cs) (h : MH D (SW cs ad al P g) A s H locs) (hk : k < 8) (hlink : Cond.fieldLink own idx RX5 (TX5 k).2.1 (TX5 k).2.2.1 ∈ bT) (hsame : (TX5 k).1 = RX5) (hv : (FX5 ad al g)[k]? = some v) (hdg : decode cc pc = .ok (.getfield idx, 3)) (kk : W p l e R s m args below meth c H locs cells slots Q (F0 m (pc + 3) ls (v :: rest))) : W p l e R s m args below meth c H locs cells slots Q (F0 m pc ls (.ref (ad 22) :: rest)) := by
  obtain ⟨hx, hb, hml, hown, hts, hr, hlocks, hK, hA⟩ := C
  obtain ⟨hP, hD, hS⟩ := h
  exact va_get (ci := 4) (C := RX5) (T := TX5) (N := 8) hx hb hts bX5_in hown hK hP 22 (at_X5) rfl k hk (hts _ hlink) (fun x hx => by rw [hsame] at hx; exact hx) hv hdg kk
theorem xp_X5_2 {idx : Nat} {v : Int32} (C : MCx p s m args meth c A own cc nL rt D cs) (h : MH D (SW cs ad al P g) A s H locs) (hlink : Cond.fieldLink own idx RX5 "many" "I" ∈ bT) (hdg : decode cc pc = .ok (.putfield idx, 3)) (kk : ∀ (H1 : Heap) (locs1 : List Loc), MH D (SW cs ad al P (tI g 22 2 v)) A s H1 locs1 → W p l e R s m args below meth c H1 locs1 cells slots Q (F0 m (pc + 3) ls rest)) : W p l e R s m args below meth c H locs cells slots Q (F0 m pc ls (.int v :: .ref (ad 22) :: rest)) := by
  obtain ⟨hx, hb, hml, hown, hts, hr, hlocks, hK, hA⟩ := C
  obtain ⟨hP, hD, hS⟩ := h
  have e : (SW cs ad al P g).set 22 (ad 22, .inr (4, (FX5 ad al g).set 2 (.int v))) = SW cs ad al P (tI g 22 2 v) := by exact SW_set (by decide) rfl
  refine va_put (ci := 4) (C := RX5) (T := TX5) (N := 8) (v := .int v) (ty := .int) hx hb hts bX5_in tyX5 tyX5_ok nmX5 hown hK hP hD hS 22 (at_X5) rfl 2 (by decide) (hts _ hlink) (fun _ h9 => h9) rfl (by decide +kernel) (rfl) (rfl) (Nat.le_of_ble_eq_true rfl) hdg (fun H1 l1 hP hD hS => kk H1 l1 ?_)
  rw [e] at hP hD
  exact ⟨hP, hD, hS⟩
theorem xp_X5_7 {idx : Nat} {v : Int32} (C : MCx p s m args meth c A own cc nL rt D cs) (h : MH D (SW cs ad al P g) A s H locs) (hlink : Cond.fieldLink own idx RX5 "allChances" "I" ∈ bT) (hdg : decode cc pc = .ok (.putfield idx, 3)) (kk : ∀ (H1 : Heap) (locs1 : List Loc), MH D (SW cs ad al P (tI g 22 7 v)) A s H1 locs1 → W p l e R s m args below meth c H1 locs1 cells slots Q (F0 m (pc + 3) ls rest)) : W p l e R s m args below meth c H locs cells slots Q (F0 m pc ls (.int v :: .ref (ad 22) :: rest)) := by
  obtain ⟨hx, hb, hml, hown, hts, hr, hlocks, hK, hA⟩ := C
  obtain ⟨hP, hD, hS⟩ := h
  have e : (SW cs ad al P g).set 22 (ad 22, .inr (4, (FX5 ad al g).set 7 (.int v))) = SW cs ad al P (tI g 22 7 v) := by exact SW_set (by decide) rfl
  refine va_put (ci := 4) (C := RX5) (T := TX5) (N := 8) (v := .int v) (ty := .int) hx hb hts bX5_in tyX5 tyX5_ok nmX5 hown hK hP hD hS 22 (at_X5) rfl 7 (by decide) (hts _ hlink) (fun _ h9 => h9) rfl (by decide +kernel) (rfl) (rfl) (Nat.le_of_ble_eq_true rfl) hdg (fun H1 l1 hP hD hS => kk H1 l1 ?_)
  rw [e] at hP hD
  exact ⟨hP, hD, hS⟩
theorem at_X0 {cs : Nat → ClassId} {ad al : Nat → Nat} {P : PL} {g : CS} : (SW cs ad al P g)[27]? = some (ad 27, .inr (0, FX0 ad al g)) := SW_fix (by rfl)
theorem rv_X0 (C : MCx p s m args meth c A own cc nL rt D cs) (h : MH D (SW cs ad al P g) A s H locs) : ∃ cell : Cell, H[ad 27]? = some cell ∧ cell.vm.isStatics = false ∧ s.vm.findClass RX0 = some cell.cls := va_recv C.2.2.2.2.2.2.2.1 h.1 (ci := 0) (q0 := 27) rfl (at_X0)
theorem xg_X0 {idx : Nat} {v : Value} (k : Nat) (C : MCx p s m args meth c A own cc nL rt D cs) (h : MH D (SW cs ad al P g) A s H locs) (hk : k < 5) (hlink : Cond.fieldLink own idx RX0 (TX0 k).2.1 (TX0 k).2.2.1 ∈ bT) (hsame : (TX0 k).1 = RX0) (hv : (FX0 ad al g)[k]? = some v) (hdg : decode cc pc = .ok (.getfield idx, 3)) (kk : W p l e R s m args below meth c H locs cells slots Q (F0 m (pc + 3) ls (v :: rest))) : W p l e R s m args below meth c H locs cells slots Q (F0 m pc ls (.ref (ad 27) :: rest)) := by
  obtain ⟨hx, hb, hml, hown, hts, hr, hlocks, hK, hA⟩ := C
  obtain ⟨hP, hD, hS⟩ := h
  exact va_get (ci := 0) (C := RX0) (T := TX0) (N := 5) hx hb hts bX0_in hown hK hP 27 (at_X0) rfl k hk (hts _ hlink) (fun x hx => by rw [hsame] at hx; exact hx) hv hdg kk
theorem xp_X0_1 {idx : Nat} {v : Int32} (C : MCx p s m args meth c A own cc nL rt D cs) (h : MH D (SW cs ad al P g) A s H locs) (hlink : Cond.fieldLink own idx RX0 "settledAt" "I" ∈ bT) (hdg : decode cc pc = .ok (.putfield idx, 3)) (kk : ∀ (H1 : Heap) (locs1 : List Loc), MH D (SW cs ad al P (tI g 27 1 v)) A s H1 locs1 → W p l e R s m args below meth c H1 locs1 cells slots Q (F0 m (pc + 3) ls rest)) : W p l e R s m args below meth c H locs cells slots Q (F0 m pc ls (.int v :: .ref (ad 27) :: rest)) := by
  obtain ⟨hx, hb, hml, hown, hts, hr, hlocks, hK, hA⟩ := C
  obtain ⟨hP, hD, hS⟩ := h
  have e : (SW cs ad al P g).set 27 (ad 27, .inr (0, (FX0 ad al g).set 1 (.int v))) = SW cs ad al P (tI g 27 1 v) := by exact SW_set (by decide) rfl
  refine va_put (ci := 0) (C := RX0) (T := TX0) (N := 5) (v := .int v) (ty := .int) hx hb hts bX0_in tyX0 tyX0_ok nmX0 hown hK hP hD hS 27 (at_X0) rfl 1 (by decide) (hts _ hlink) (fun _ h9 => h9) rfl (by decide +kernel) (rfl) (rfl) (Nat.le_of_ble_eq_true rfl) hdg (fun H1 l1 hP hD hS => kk H1 l1 ?_)
  rw [e] at hP hD
  exact ⟨hP, hD, hS⟩
theorem xp_X0_3 {idx : Nat} {v : Int32} (C : MCx p s m args meth c A own cc nL rt D cs) (h : MH D (SW cs ad al P g) A s H locs) (hlink : Cond.fieldLink own idx RX0 "tail" "I" ∈ bT) (hdg : decode cc pc = .ok (.putfield idx, 3)) (kk : ∀ (H1 : Heap) (locs1 : List Loc), MH D (SW cs ad al P (tI g 27 3 v)) A s H1 locs1 → W p l e R s m args below meth c H1 locs1 cells slots Q (F0 m (pc + 3) ls rest)) : W p l e R s m args below meth c H locs cells slots Q (F0 m pc ls (.int v :: .ref (ad 27) :: rest)) := by
  obtain ⟨hx, hb, hml, hown, hts, hr, hlocks, hK, hA⟩ := C
  obtain ⟨hP, hD, hS⟩ := h
  have e : (SW cs ad al P g).set 27 (ad 27, .inr (0, (FX0 ad al g).set 3 (.int v))) = SW cs ad al P (tI g 27 3 v) := by exact SW_set (by decide) rfl
  refine va_put (ci := 0) (C := RX0) (T := TX0) (N := 5) (v := .int v) (ty := .int) hx hb hts bX0_in tyX0 tyX0_ok nmX0 hown hK hP hD hS 27 (at_X0) rfl 3 (by decide) (hts _ hlink) (fun _ h9 => h9) rfl (by decide +kernel) (rfl) (rfl) (Nat.le_of_ble_eq_true rfl) hdg (fun H1 l1 hP hD hS => kk H1 l1 ?_)
  rw [e] at hP hD
  exact ⟨hP, hD, hS⟩
theorem xp_X0_4 {idx : Nat} {v : Int32} (C : MCx p s m args meth c A own cc nL rt D cs) (h : MH D (SW cs ad al P g) A s H locs) (hlink : Cond.fieldLink own idx RX0 "round" "I" ∈ bT) (hdg : decode cc pc = .ok (.putfield idx, 3)) (kk : ∀ (H1 : Heap) (locs1 : List Loc), MH D (SW cs ad al P (tI g 27 4 v)) A s H1 locs1 → W p l e R s m args below meth c H1 locs1 cells slots Q (F0 m (pc + 3) ls rest)) : W p l e R s m args below meth c H locs cells slots Q (F0 m pc ls (.int v :: .ref (ad 27) :: rest)) := by
  obtain ⟨hx, hb, hml, hown, hts, hr, hlocks, hK, hA⟩ := C
  obtain ⟨hP, hD, hS⟩ := h
  have e : (SW cs ad al P g).set 27 (ad 27, .inr (0, (FX0 ad al g).set 4 (.int v))) = SW cs ad al P (tI g 27 4 v) := by exact SW_set (by decide) rfl
  refine va_put (ci := 0) (C := RX0) (T := TX0) (N := 5) (v := .int v) (ty := .int) hx hb hts bX0_in tyX0 tyX0_ok nmX0 hown hK hP hD hS 27 (at_X0) rfl 4 (by decide) (hts _ hlink) (fun _ h9 => h9) rfl (by decide +kernel) (rfl) (rfl) (Nat.le_of_ble_eq_true rfl) hdg (fun H1 l1 hP hD hS => kk H1 l1 ?_)
  rw [e] at hP hD
  exact ⟨hP, hD, hS⟩
theorem at_X6 {cs : Nat → ClassId} {ad al : Nat → Nat} {P : PL} {g : CS} {o : Nat} (ho : okS o) : (SW cs ad al P g)[(29 + (o - 30))]? = some (ad o, .inr (5, FX6 ad al g o)) := SW_fix (by rcases ho with h | h | h | h | h <;> subst h <;> rfl)
theorem rv_X6 {o : Nat} (ho : okS o) (C : MCx p s m args meth c A own cc nL rt D cs) (h : MH D (SW cs ad al P g) A s H locs) : ∃ cell : Cell, H[ad o]? = some cell ∧ cell.vm.isStatics = false ∧ s.vm.findClass RX6 = some cell.cls := va_recv C.2.2.2.2.2.2.2.1 h.1 (ci := 5) (q0 := (29 + (o - 30))) rfl (at_X6 ho)
theorem xg_X6 {idx : Nat} {v : Value} (k : Nat) {o : Nat} (ho : okS o) (C : MCx p s m args meth c A own cc nL rt D cs) (h : MH D (SW cs ad al P g) A s H locs) (hk : k < 12) (hlink : Cond.fieldLink own idx RX6 (TX6 k).2.1 (TX6 k).2.2.1 ∈ bT) (hsame : (TX6 k).1 = RX6) (hv : (FX6 ad al g o)[k]? = some v) (hdg : decode cc pc = .ok (.getfield idx, 3)) (kk : W p l e R s m args below meth c H locs cells slots Q (F0 m (pc + 3) ls (v :: rest))) : W p l e R s m args below meth c H locs cells slots Q (F0 m pc ls (.ref (ad o) :: rest)) := by
  obtain ⟨hx, hb, hml, hown, hts, hr, hlocks, hK, hA⟩ := C
  obtain ⟨hP, hD, hS⟩ := h
  exact va_get (ci := 5) (C := RX6) (T := TX6) (N := 12) hx hb hts bX6_in hown hK hP (29 + (o - 30)) (at_X6 ho) rfl k hk (hts _ hlink) (fun x hx => by rw [hsame] at hx; exact hx) hv hdg kk
theorem xp_X6_1 {idx : Nat} {v : Int32} {o : Nat} (ho : okS o) (C : MCx p s m args meth c A own cc nL rt D cs) (h : MH D (SW cs ad al P g) A s H locs) (hlink : Cond.fieldLink own idx RX6 "members" "I" ∈ bT) (hdg : decode cc pc = .ok (.putfield idx, 3)) (kk : ∀ (H1 : Heap) (locs1 : List Loc), MH D (SW cs ad al P (tI g o 1 v)) A s H1 locs1 → W p l e R s m args below meth c H1 locs1 cells slots Q (F0 m (pc + 3) ls rest)) : W p l e R s m args below meth c H locs cells slots Q (F0 m pc ls (.int v :: .ref (ad o) :: rest)) := by
  obtain ⟨hx, hb, hml, hown, hts, hr, hlocks, hK, hA⟩ := C
  obtain ⟨hP, hD, hS⟩ := h
  have e : (SW cs ad al P g).set (29 + (o - 30)) (ad o, .inr (5, (FX6 ad al g o).set 1 (.int v))) = SW cs ad al P (tI g o 1 v) := by rcases ho with h | h | h | h | h <;> subst h <;> exact SW_set (by decide) rfl
  refine va_put (ci := 5) (C := RX6) (T := TX6) (N := 12) (v := .int v) (ty := .int) hx hb hts bX6_in tyX6 tyX6_ok nmX6 hown hK hP hD hS (29 + (o - 30)) (at_X6 ho) rfl 1 (by decide) (hts _ hlink) (fun _ h9 => h9) rfl (by decide +kernel) (rfl) (rfl) (Nat.le_of_ble_eq_true rfl) hdg (fun H1 l1 hP hD hS => kk H1 l1 ?_)
  rw [e] at hP hD
  exact ⟨hP, hD, hS⟩
theorem xp_X6_2 {idx : Nat} {v : Int32} {o : Nat} (ho : okS o) (C : MCx p s m args meth c A own cc nL rt D cs) (h : MH D (SW cs ad al P g) A s H locs) (hlink : Cond.fieldLink own idx RX6 "lines" "I" ∈ bT) (hdg : decode cc pc = .ok (.putfield idx, 3)) (kk : ∀ (H1 : Heap) (locs1 : List Loc), MH D (SW cs ad al P (tI g o 2 v)) A s H1 locs1 → W p l e R s m args below meth c H1 locs1 cells slots Q (F0 m (pc + 3) ls rest)) : W p l e R s m args below meth c H locs cells slots Q (F0 m pc ls (.int v :: .ref (ad o) :: rest)) := by
  obtain ⟨hx, hb, hml, hown, hts, hr, hlocks, hK, hA⟩ := C
  obtain ⟨hP, hD, hS⟩ := h
  have e : (SW cs ad al P g).set (29 + (o - 30)) (ad o, .inr (5, (FX6 ad al g o).set 2 (.int v))) = SW cs ad al P (tI g o 2 v) := by rcases ho with h | h | h | h | h <;> subst h <;> exact SW_set (by decide) rfl
  refine va_put (ci := 5) (C := RX6) (T := TX6) (N := 12) (v := .int v) (ty := .int) hx hb hts bX6_in tyX6 tyX6_ok nmX6 hown hK hP hD hS (29 + (o - 30)) (at_X6 ho) rfl 2 (by decide) (hts _ hlink) (fun _ h9 => h9) rfl (by decide +kernel) (rfl) (rfl) (Nat.le_of_ble_eq_true rfl) hdg (fun H1 l1 hP hD hS => kk H1 l1 ?_)
  rw [e] at hP hD
  exact ⟨hP, hD, hS⟩
theorem xp_X6_3 {idx : Nat} {v : Int32} {o : Nat} (ho : okS o) (C : MCx p s m args meth c A own cc nL rt D cs) (h : MH D (SW cs ad al P g) A s H locs) (hlink : Cond.fieldLink own idx RX6 "aims" "I" ∈ bT) (hdg : decode cc pc = .ok (.putfield idx, 3)) (kk : ∀ (H1 : Heap) (locs1 : List Loc), MH D (SW cs ad al P (tI g o 3 v)) A s H1 locs1 → W p l e R s m args below meth c H1 locs1 cells slots Q (F0 m (pc + 3) ls rest)) : W p l e R s m args below meth c H locs cells slots Q (F0 m pc ls (.int v :: .ref (ad o) :: rest)) := by
  obtain ⟨hx, hb, hml, hown, hts, hr, hlocks, hK, hA⟩ := C
  obtain ⟨hP, hD, hS⟩ := h
  have e : (SW cs ad al P g).set (29 + (o - 30)) (ad o, .inr (5, (FX6 ad al g o).set 3 (.int v))) = SW cs ad al P (tI g o 3 v) := by rcases ho with h | h | h | h | h <;> subst h <;> exact SW_set (by decide) rfl
  refine va_put (ci := 5) (C := RX6) (T := TX6) (N := 12) (v := .int v) (ty := .int) hx hb hts bX6_in tyX6 tyX6_ok nmX6 hown hK hP hD hS (29 + (o - 30)) (at_X6 ho) rfl 3 (by decide) (hts _ hlink) (fun _ h9 => h9) rfl (by decide +kernel) (rfl) (rfl) (Nat.le_of_ble_eq_true rfl) hdg (fun H1 l1 hP hD hS => kk H1 l1 ?_)
  rw [e] at hP hD
  exact ⟨hP, hD, hS⟩
theorem xp_X6_4 {idx : Nat} {v : Int32} {o : Nat} (ho : okS o) (C : MCx p s m args meth c A own cc nL rt D cs) (h : MH D (SW cs ad al P g) A s H locs) (hlink : Cond.fieldLink own idx RX6 "weights" "I" ∈ bT) (hdg : decode cc pc = .ok (.putfield idx, 3)) (kk : ∀ (H1 : Heap) (locs1 : List Loc), MH D (SW cs ad al P (tI g o 4 v)) A s H1 locs1 → W p l e R s m args below meth c H1 locs1 cells slots Q (F0 m (pc + 3) ls rest)) : W p l e R s m args below meth c H locs cells slots Q (F0 m pc ls (.int v :: .ref (ad o) :: rest)) := by
  obtain ⟨hx, hb, hml, hown, hts, hr, hlocks, hK, hA⟩ := C
  obtain ⟨hP, hD, hS⟩ := h
  have e : (SW cs ad al P g).set (29 + (o - 30)) (ad o, .inr (5, (FX6 ad al g o).set 4 (.int v))) = SW cs ad al P (tI g o 4 v) := by rcases ho with h | h | h | h | h <;> subst h <;> exact SW_set (by decide) rfl
  refine va_put (ci := 5) (C := RX6) (T := TX6) (N := 12) (v := .int v) (ty := .int) hx hb hts bX6_in tyX6 tyX6_ok nmX6 hown hK hP hD hS (29 + (o - 30)) (at_X6 ho) rfl 4 (by decide) (hts _ hlink) (fun _ h9 => h9) rfl (by decide +kernel) (rfl) (rfl) (Nat.le_of_ble_eq_true rfl) hdg (fun H1 l1 hP hD hS => kk H1 l1 ?_)
  rw [e] at hP hD
  exact ⟨hP, hD, hS⟩
theorem xp_X6_5 {idx : Nat} {v : Int32} {o : Nat} (ho : okS o) (C : MCx p s m args meth c A own cc nL rt D cs) (h : MH D (SW cs ad al P g) A s H locs) (hlink : Cond.fieldLink own idx RX6 "stuck" "I" ∈ bT) (hdg : decode cc pc = .ok (.putfield idx, 3)) (kk : ∀ (H1 : Heap) (locs1 : List Loc), MH D (SW cs ad al P (tI g o 5 v)) A s H1 locs1 → W p l e R s m args below meth c H1 locs1 cells slots Q (F0 m (pc + 3) ls rest)) : W p l e R s m args below meth c H locs cells slots Q (F0 m pc ls (.int v :: .ref (ad o) :: rest)) := by
  obtain ⟨hx, hb, hml, hown, hts, hr, hlocks, hK, hA⟩ := C
  obtain ⟨hP, hD, hS⟩ := h
  have e : (SW cs ad al P g).set (29 + (o - 30)) (ad o, .inr (5, (FX6 ad al g o).set 5 (.int v))) = SW cs ad al P (tI g o 5 v) := by rcases ho with h | h | h | h | h <;> subst h <;> exact SW_set (by decide) rfl
  refine va_put (ci := 5) (C := RX6) (T := TX6) (N := 12) (v := .int v) (ty := .int) hx hb hts bX6_in tyX6 tyX6_ok nmX6 hown hK hP hD hS (29 + (o - 30)) (at_X6 ho) rfl 5 (by decide) (hts _ hlink) (fun _ h9 => h9) rfl (by decide +kernel) (rfl) (rfl) (Nat.le_of_ble_eq_true rfl) hdg (fun H1 l1 hP hD hS => kk H1 l1 ?_)
  rw [e] at hP hD
  exact ⟨hP, hD, hS⟩
theorem xp_X6_6 {idx : Nat} {v : Int32} {o : Nat} (ho : okS o) (C : MCx p s m args meth c A own cc nL rt D cs) (h : MH D (SW cs ad al P g) A s H locs) (hlink : Cond.fieldLink own idx RX6 "deeds" "I" ∈ bT) (hdg : decode cc pc = .ok (.putfield idx, 3)) (kk : ∀ (H1 : Heap) (locs1 : List Loc), MH D (SW cs ad al P (tI g o 6 v)) A s H1 locs1 → W p l e R s m args below meth c H1 locs1 cells slots Q (F0 m (pc + 3) ls rest)) : W p l e R s m args below meth c H locs cells slots Q (F0 m pc ls (.int v :: .ref (ad o) :: rest)) := by
  obtain ⟨hx, hb, hml, hown, hts, hr, hlocks, hK, hA⟩ := C
  obtain ⟨hP, hD, hS⟩ := h
  have e : (SW cs ad al P g).set (29 + (o - 30)) (ad o, .inr (5, (FX6 ad al g o).set 6 (.int v))) = SW cs ad al P (tI g o 6 v) := by rcases ho with h | h | h | h | h <;> subst h <;> exact SW_set (by decide) rfl
  refine va_put (ci := 5) (C := RX6) (T := TX6) (N := 12) (v := .int v) (ty := .int) hx hb hts bX6_in tyX6 tyX6_ok nmX6 hown hK hP hD hS (29 + (o - 30)) (at_X6 ho) rfl 6 (by decide) (hts _ hlink) (fun _ h9 => h9) rfl (by decide +kernel) (rfl) (rfl) (Nat.le_of_ble_eq_true rfl) hdg (fun H1 l1 hP hD hS => kk H1 l1 ?_)
  rw [e] at hP hD
  exact ⟨hP, hD, hS⟩
theorem xp_X6_7 {idx : Nat} {v : Int32} {o : Nat} (ho : okS o) (C : MCx p s m args meth c A own cc nL rt D cs) (h : MH D (SW cs ad al P g) A s H locs) (hlink : Cond.fieldLink own idx RX6 "stamp" "I" ∈ bT) (hdg : decode cc pc = .ok (.putfield idx, 3)) (kk : ∀ (H1 : Heap) (locs1 : List Loc), MH D (SW cs ad al P (tI g o 7 v)) A s H1 locs1 → W p l e R s m args below meth c H1 locs1 cells slots Q (F0 m (pc + 3) ls rest)) : W p l e R s m args below meth c H locs cells slots Q (F0 m pc ls (.int v :: .ref (ad o) :: rest)) := by
  obtain ⟨hx, hb, hml, hown, hts, hr, hlocks, hK, hA⟩ := C
  obtain ⟨hP, hD, hS⟩ := h
  have e : (SW cs ad al P g).set (29 + (o - 30)) (ad o, .inr (5, (FX6 ad al g o).set 7 (.int v))) = SW cs ad al P (tI g o 7 v) := by rcases ho with h | h | h | h | h <;> subst h <;> exact SW_set (by decide) rfl
  refine va_put (ci := 5) (C := RX6) (T := TX6) (N := 12) (v := .int v) (ty := .int) hx hb hts bX6_in tyX6 tyX6_ok nmX6 hown hK hP hD hS (29 + (o - 30)) (at_X6 ho) rfl 7 (by decide) (hts _ hlink) (fun _ h9 => h9) rfl (by decide +kernel) (rfl) (rfl) (Nat.le_of_ble_eq_true rfl) hdg (fun H1 l1 hP hD hS => kk H1 l1 ?_)
  rw [e] at hP hD
  exact ⟨hP, hD, hS⟩
theorem xp_X6_8 {idx w : Nat} {o : Nat} (ho : okS o) (C : MCx p s m args meth c A own cc nL rt D cs) (h : MH D (SW cs ad al P g) A s H locs) (hlink : Cond.fieldLink own idx RX6 "dragLaw" "[I" ∈ bT) (hdg : decode cc pc = .ok (.putfield idx, 3)) (kk : ∀ (H1 : Heap) (locs1 : List Loc), MH D (SW cs ad al P (tF g o 8 w)) A s H1 locs1 → W p l e R s m args below meth c H1 locs1 cells slots Q (F0 m (pc + 3) ls rest)) : W p l e R s m args below meth c H locs cells slots Q (F0 m pc ls (.ref (al w) :: .ref (ad o) :: rest)) := by
  obtain ⟨hx, hb, hml, hown, hts, hr, hlocks, hK, hA⟩ := C
  obtain ⟨hP, hD, hS⟩ := h
  have e : (SW cs ad al P g).set (29 + (o - 30)) (ad o, .inr (5, (FX6 ad al g o).set 8 (.ref (al w)))) = SW cs ad al P (tF g o 8 w) := by rcases ho with h | h | h | h | h <;> subst h <;> exact SW_set (by decide) rfl
  refine va_put (ci := 5) (C := RX6) (T := TX6) (N := 12) (v := .ref (al w)) (ty := .array .int) hx hb hts bX6_in tyX6 tyX6_ok nmX6 hown hK hP hD hS (29 + (o - 30)) (at_X6 ho) rfl 8 (by decide) (hts _ hlink) (fun _ h9 => h9) rfl (by decide +kernel) rfl rfl (Nat.le_of_ble_eq_true rfl) hdg (fun H1 l1 hP hD hS => kk H1 l1 ?_)
  rw [e] at hP hD
  exact ⟨hP, hD, hS⟩
theorem xp_X6_9 {idx w : Nat} {o : Nat} (ho : okS o) (C : MCx p s m args meth c A own cc nL rt D cs) (h : MH D (SW cs ad al P g) A s H locs) (hlink : Cond.fieldLink own idx RX6 "costLaw" "[I" ∈ bT) (hdg : decode cc pc = .ok (.putfield idx, 3)) (kk : ∀ (H1 : Heap) (locs1 : List Loc), MH D (SW cs ad al P (tF g o 9 w)) A s H1 locs1 → W p l e R s m args below meth c H1 locs1 cells slots Q (F0 m (pc + 3) ls rest)) : W p l e R s m args below meth c H locs cells slots Q (F0 m pc ls (.ref (al w) :: .ref (ad o) :: rest)) := by
  obtain ⟨hx, hb, hml, hown, hts, hr, hlocks, hK, hA⟩ := C
  obtain ⟨hP, hD, hS⟩ := h
  have e : (SW cs ad al P g).set (29 + (o - 30)) (ad o, .inr (5, (FX6 ad al g o).set 9 (.ref (al w)))) = SW cs ad al P (tF g o 9 w) := by rcases ho with h | h | h | h | h <;> subst h <;> exact SW_set (by decide) rfl
  refine va_put (ci := 5) (C := RX6) (T := TX6) (N := 12) (v := .ref (al w)) (ty := .array .int) hx hb hts bX6_in tyX6 tyX6_ok nmX6 hown hK hP hD hS (29 + (o - 30)) (at_X6 ho) rfl 9 (by decide) (hts _ hlink) (fun _ h9 => h9) rfl (by decide +kernel) rfl rfl (Nat.le_of_ble_eq_true rfl) hdg (fun H1 l1 hP hD hS => kk H1 l1 ?_)
  rw [e] at hP hD
  exact ⟨hP, hD, hS⟩
theorem xp_X6_10 {idx w : Nat} {o : Nat} (ho : okS o) (C : MCx p s m args meth c A own cc nL rt D cs) (h : MH D (SW cs ad al P g) A s H locs) (hlink : Cond.fieldLink own idx RX6 "goLaw" "[I" ∈ bT) (hdg : decode cc pc = .ok (.putfield idx, 3)) (kk : ∀ (H1 : Heap) (locs1 : List Loc), MH D (SW cs ad al P (tF g o 10 w)) A s H1 locs1 → W p l e R s m args below meth c H1 locs1 cells slots Q (F0 m (pc + 3) ls rest)) : W p l e R s m args below meth c H locs cells slots Q (F0 m pc ls (.ref (al w) :: .ref (ad o) :: rest)) := by
  obtain ⟨hx, hb, hml, hown, hts, hr, hlocks, hK, hA⟩ := C
  obtain ⟨hP, hD, hS⟩ := h
  have e : (SW cs ad al P g).set (29 + (o - 30)) (ad o, .inr (5, (FX6 ad al g o).set 10 (.ref (al w)))) = SW cs ad al P (tF g o 10 w) := by rcases ho with h | h | h | h | h <;> subst h <;> exact SW_set (by decide) rfl
  refine va_put (ci := 5) (C := RX6) (T := TX6) (N := 12) (v := .ref (al w)) (ty := .array .int) hx hb hts bX6_in tyX6 tyX6_ok nmX6 hown hK hP hD hS (29 + (o - 30)) (at_X6 ho) rfl 10 (by decide) (hts _ hlink) (fun _ h9 => h9) rfl (by decide +kernel) rfl rfl (Nat.le_of_ble_eq_true rfl) hdg (fun H1 l1 hP hD hS => kk H1 l1 ?_)
  rw [e] at hP hD
  exact ⟨hP, hD, hS⟩
theorem at_X9 {cs : Nat → ClassId} {ad al : Nat → Nat} {P : PL} {g : CS} {o : Nat} (ho : okT o) : (SW cs ad al P g)[(39 + (o - 50))]? = some (ad o, .inr (8, FX9 ad al g o)) := SW_fix (by rcases ho with h | h | h | h <;> subst h <;> rfl)
theorem rv_X9 {o : Nat} (ho : okT o) (C : MCx p s m args meth c A own cc nL rt D cs) (h : MH D (SW cs ad al P g) A s H locs) : ∃ cell : Cell, H[ad o]? = some cell ∧ cell.vm.isStatics = false ∧ s.vm.findClass RX9 = some cell.cls := va_recv C.2.2.2.2.2.2.2.1 h.1 (ci := 8) (q0 := (39 + (o - 50))) rfl (at_X9 ho)
theorem xg_X9 {idx : Nat} {v : Value} (k : Nat) {o : Nat} (ho : okT o) (C : MCx p s m args meth c A own cc nL rt D cs) (h : MH D (SW cs ad al P g) A s H locs) (hk : k < 3) (hlink : Cond.fieldLink own idx RX9 (TX9 k).2.1 (TX9 k).2.2.1 ∈ bT) (hsame : (TX9 k).1 = RX9) (hv : (FX9 ad al g o)[k]? = some v) (hdg : decode cc pc = .ok (.getfield idx, 3)) (kk : W p l e R s m args below meth c H locs cells slots Q (F0 m (pc + 3) ls (v :: rest))) : W p l e R s m args below meth c H locs cells slots Q (F0 m pc ls (.ref (ad o) :: rest)) := by
  obtain ⟨hx, hb, hml, hown, hts, hr, hlocks, hK, hA⟩ := C
  obtain ⟨hP, hD, hS⟩ := h
  exact va_get (ci := 8) (C := RX9) (T := TX9) (N := 3) hx hb hts bX9_in hown hK hP (39 + (o - 50)) (at_X9 ho) rfl k hk (hts _ hlink) (fun x hx => by rw [hsame] at hx; exact hx) hv hdg kk
theorem xp_X9_0 {idx : Nat} {v : Int32} {o : Nat} (ho : okT o) (C : MCx p s m args meth c A own cc nL rt D cs) (h : MH D (SW cs ad al P g) A s H locs) (hlink : Cond.fieldLink own idx RX9 "size" "I" ∈ bT) (hdg : decode cc pc = .ok (.putfield idx, 3)) (kk : ∀ (H1 : Heap) (locs1 : List Loc), MH D (SW cs ad al P (tI g o 0 v)) A s H1 locs1 → W p l e R s m args below meth c H1 locs1 cells slots Q (F0 m (pc + 3) ls rest)) : W p l e R s m args below meth c H locs cells slots Q (F0 m pc ls (.int v :: .ref (ad o) :: rest)) := by
  obtain ⟨hx, hb, hml, hown, hts, hr, hlocks, hK, hA⟩ := C
  obtain ⟨hP, hD, hS⟩ := h
  have e : (SW cs ad al P g).set (39 + (o - 50)) (ad o, .inr (8, (FX9 ad al g o).set 0 (.int v))) = SW cs ad al P (tI g o 0 v) := by rcases ho with h | h | h | h <;> subst h <;> exact SW_set (by decide) rfl
  refine va_put (ci := 8) (C := RX9) (T := TX9) (N := 3) (v := .int v) (ty := .int) hx hb hts bX9_in tyX9 tyX9_ok nmX9 hown hK hP hD hS (39 + (o - 50)) (at_X9 ho) rfl 0 (by decide) (hts _ hlink) (fun _ h9 => h9) rfl (by decide +kernel) (rfl) (rfl) (Nat.le_of_ble_eq_true rfl) hdg (fun H1 l1 hP hD hS => kk H1 l1 ?_)
  rw [e] at hP hD
  exact ⟨hP, hD, hS⟩
theorem xp_X9_1 {idx : Nat} {v : Int32} {o : Nat} (ho : okT o) (C : MCx p s m args meth c A own cc nL rt D cs) (h : MH D (SW cs ad al P g) A s H locs) (hlink : Cond.fieldLink own idx RX9 "sort" "I" ∈ bT) (hdg : decode cc pc = .ok (.putfield idx, 3)) (kk : ∀ (H1 : Heap) (locs1 : List Loc), MH D (SW cs ad al P (tI g o 1 v)) A s H1 locs1 → W p l e R s m args below meth c H1 locs1 cells slots Q (F0 m (pc + 3) ls rest)) : W p l e R s m args below meth c H locs cells slots Q (F0 m pc ls (.int v :: .ref (ad o) :: rest)) := by
  obtain ⟨hx, hb, hml, hown, hts, hr, hlocks, hK, hA⟩ := C
  obtain ⟨hP, hD, hS⟩ := h
  have e : (SW cs ad al P g).set (39 + (o - 50)) (ad o, .inr (8, (FX9 ad al g o).set 1 (.int v))) = SW cs ad al P (tI g o 1 v) := by rcases ho with h | h | h | h <;> subst h <;> exact SW_set (by decide) rfl
  refine va_put (ci := 8) (C := RX9) (T := TX9) (N := 3) (v := .int v) (ty := .int) hx hb hts bX9_in tyX9 tyX9_ok nmX9 hown hK hP hD hS (39 + (o - 50)) (at_X9 ho) rfl 1 (by decide) (hts _ hlink) (fun _ h9 => h9) rfl (by decide +kernel) (rfl) (rfl) (Nat.le_of_ble_eq_true rfl) hdg (fun H1 l1 hP hD hS => kk H1 l1 ?_)
  rw [e] at hP hD
  exact ⟨hP, hD, hS⟩
theorem ya_1 (C : MCx p s m args meth c A own cc nL rt D cs) (h : MH D (SW cs ad al P g) A s H locs) {v : Int32} (hv : nI 900 = v) (hdg : decode cc pc = .ok (.arraylength, 1)) (kk : W p l e R s m args below meth c H locs cells slots Q (F0 m (pc + 1) ls (.int v :: rest))) : W p l e R s m args below meth c H locs cells slots Q (F0 m pc ls (.ref (ad 1) :: rest)) := va_alen C.1 C.2.1 C.2.2.2.2.2.2.2.1 h.1 1 3 (SW_fix rfl) rfl hv hdg kk
theorem yl_1 {i : Int32} (C : MCx p s m args meth c A own cc nL rt D cs) (h : MH D (SW cs ad al P g) A s H locs) (hi : ib i 900 = true) (hdg : decode cc pc = .ok (.baload, 1)) (kk : W p l e R s m args below meth c H locs cells slots Q (F0 m (pc + 1) ls (.int (g.2.1 1 (ix i)) :: rest))) : W p l e R s m args below meth c H locs cells slots Q (F0 m pc ls (.int i :: .ref (ad 1) :: rest)) := va_bald C.1 C.2.1 C.2.2.2.2.2.2.2.1 h.1 1 3 (SW_fix rfl) rfl (ib_in hi) hdg kk
theorem ys_1 {i : Int32} {x : Int32} (C : MCx p s m args meth c A own cc nL rt D cs) (h : MH D (SW cs ad al P g) A s H locs) (hi : ib i 900 = true) (hz : is8 x = true) (hdg : decode cc pc = .ok (.bastore, 1)) (kk : ∀ (H1 : Heap) (locs1 : List Loc), MH D (SW cs ad al P (tA g 1 (ix i) x)) A s H1 locs1 → W p l e R s m args below meth c H1 locs1 cells slots Q (F0 m (pc + 1) ls rest)) : W p l e R s m args below meth c H locs cells slots Q (F0 m pc ls (.int x :: .int i :: .ref (ad 1) :: rest)) := by
  obtain ⟨hx, hb, hml, hown, hts, hr, hlocks, hK, hA⟩ := C
  obtain ⟨hP, hD, hS⟩ := h
  have e : (SW cs ad al P g).set 1 (ad 1, .inl (cs 3, 900, .inl (upd (g.2.1 1) (ix i) x))) = SW cs ad al P (tA g 1 (ix i) x) := SW_set (by decide) rfl
  refine va_bast hx hb hK hP hD hS 1 3 (SW_fix rfl) rfl (ib_in hi) hdg (fun H1 l1 hP hD hS => kk H1 l1 ?_)
  rw [is8_nar hz] at hP hD
  rw [e] at hP hD
  exact ⟨hP, hD, hS⟩
theorem ya_7 (C : MCx p s m args meth c A own cc nL rt D cs) (h : MH D (SW cs ad al P g) A s H locs) {v : Int32} (hv : nI 900 = v) (hdg : decode cc pc = .ok (.arraylength, 1)) (kk : W p l e R s m args below meth c H locs cells slots Q (F0 m (pc + 1) ls (.int v :: rest))) : W p l e R s m args below meth c H locs cells slots Q (F0 m pc ls (.ref (ad 7) :: rest)) := va_alen C.1 C.2.1 C.2.2.2.2.2.2.2.1 h.1 7 0 (SW_fix rfl) rfl hv hdg kk
theorem yl_7 {i : Int32} (C : MCx p s m args meth c A own cc nL rt D cs) (h : MH D (SW cs ad al P g) A s H locs) (hi : ib i 900 = true) (hdg : decode cc pc = .ok (.iaload, 1)) (kk : W p l e R s m args below meth c H locs cells slots Q (F0 m (pc + 1) ls (.int (g.2.1 7 (ix i)) :: rest))) : W p l e R s m args below meth c H locs cells slots Q (F0 m pc ls (.int i :: .ref (ad 7) :: rest)) := va_iald C.1 C.2.1 C.2.2.2.2.2.2.2.1 h.1 7 0 (SW_fix rfl) rfl (ib_in hi) hdg kk
theorem ys_7 {i : Int32} {x : Int32} (C : MCx p s m args meth c A own cc nL rt D cs) (h : MH D (SW cs ad al P g) A s H locs) (hi : ib i 900 = true) (hdg : decode cc pc = .ok (.iastore, 1)) (kk : ∀ (H1 : Heap) (locs1 : List Loc), MH D (SW cs ad al P (tA g 7 (ix i) x)) A s H1 locs1 → W p l e R s m args below meth c H1 locs1 cells slots Q (F0 m (pc + 1) ls rest)) : W p l e R s m args below meth c H locs cells slots Q (F0 m pc ls (.int x :: .int i :: .ref (ad 7) :: rest)) := by
  obtain ⟨hx, hb, hml, hown, hts, hr, hlocks, hK, hA⟩ := C
  obtain ⟨hP, hD, hS⟩ := h
  have e : (SW cs ad al P g).set 7 (ad 7, .inl (cs 0, 900, .inl (upd (g.2.1 7) (ix i) x))) = SW cs ad al P (tA g 7 (ix i) x) := SW_set (by decide) rfl
  refine va_iast hx hb hK hP hD hS 7 0 (SW_fix rfl) rfl (ib_in hi) hdg (fun H1 l1 hP hD hS => kk H1 l1 ?_)
  rw [e] at hP hD
  exact ⟨hP, hD, hS⟩
theorem ya_8 (C : MCx p s m args meth c A own cc nL rt D cs) (h : MH D (SW cs ad al P g) A s H locs) {v : Int32} (hv : nI 64 = v) (hdg : decode cc pc = .ok (.arraylength, 1)) (kk : W p l e R s m args below meth c H locs cells slots Q (F0 m (pc + 1) ls (.int v :: rest))) : W p l e R s m args below meth c H locs cells slots Q (F0 m pc ls (.ref (ad 8) :: rest)) := va_alen C.1 C.2.1 C.2.2.2.2.2.2.2.1 h.1 8 0 (SW_fix rfl) rfl hv hdg kk
theorem yl_8 {i : Int32} (C : MCx p s m args meth c A own cc nL rt D cs) (h : MH D (SW cs ad al P g) A s H locs) (hi : ib i 64 = true) (hdg : decode cc pc = .ok (.iaload, 1)) (kk : W p l e R s m args below meth c H locs cells slots Q (F0 m (pc + 1) ls (.int (g.2.1 8 (ix i)) :: rest))) : W p l e R s m args below meth c H locs cells slots Q (F0 m pc ls (.int i :: .ref (ad 8) :: rest)) := va_iald C.1 C.2.1 C.2.2.2.2.2.2.2.1 h.1 8 0 (SW_fix rfl) rfl (ib_in hi) hdg kk
theorem ys_8 {i : Int32} {x : Int32} (C : MCx p s m args meth c A own cc nL rt D cs) (h : MH D (SW cs ad al P g) A s H locs) (hi : ib i 64 = true) (hdg : decode cc pc = .ok (.iastore, 1)) (kk : ∀ (H1 : Heap) (locs1 : List Loc), MH D (SW cs ad al P (tA g 8 (ix i) x)) A s H1 locs1 → W p l e R s m args below meth c H1 locs1 cells slots Q (F0 m (pc + 1) ls rest)) : W p l e R s m args below meth c H locs cells slots Q (F0 m pc ls (.int x :: .int i :: .ref (ad 8) :: rest)) := by
  obtain ⟨hx, hb, hml, hown, hts, hr, hlocks, hK, hA⟩ := C
  obtain ⟨hP, hD, hS⟩ := h
  have e : (SW cs ad al P g).set 8 (ad 8, .inl (cs 0, 64, .inl (upd (g.2.1 8) (ix i) x))) = SW cs ad al P (tA g 8 (ix i) x) := SW_set (by decide) rfl
  refine va_iast hx hb hK hP hD hS 8 0 (SW_fix rfl) rfl (ib_in hi) hdg (fun H1 l1 hP hD hS => kk H1 l1 ?_)
  rw [e] at hP hD
  exact ⟨hP, hD, hS⟩
theorem ya_9 (C : MCx p s m args meth c A own cc nL rt D cs) (h : MH D (SW cs ad al P g) A s H locs) {v : Int32} (hv : nI 64 = v) (hdg : decode cc pc = .ok (.arraylength, 1)) (kk : W p l e R s m args below meth c H locs cells slots Q (F0 m (pc + 1) ls (.int v :: rest))) : W p l e R s m args below meth c H locs cells slots Q (F0 m pc ls (.ref (ad 9) :: rest)) := va_alen C.1 C.2.1 C.2.2.2.2.2.2.2.1 h.1 9 0 (SW_fix rfl) rfl hv hdg kk
theorem yl_9 {i : Int32} (C : MCx p s m args meth c A own cc nL rt D cs) (h : MH D (SW cs ad al P g) A s H locs) (hi : ib i 64 = true) (hdg : decode cc pc = .ok (.iaload, 1)) (kk : W p l e R s m args below meth c H locs cells slots Q (F0 m (pc + 1) ls (.int (g.2.1 9 (ix i)) :: rest))) : W p l e R s m args below meth c H locs cells slots Q (F0 m pc ls (.int i :: .ref (ad 9) :: rest)) := va_iald C.1 C.2.1 C.2.2.2.2.2.2.2.1 h.1 9 0 (SW_fix rfl) rfl (ib_in hi) hdg kk
theorem ys_9 {i : Int32} {x : Int32} (C : MCx p s m args meth c A own cc nL rt D cs) (h : MH D (SW cs ad al P g) A s H locs) (hi : ib i 64 = true) (hdg : decode cc pc = .ok (.iastore, 1)) (kk : ∀ (H1 : Heap) (locs1 : List Loc), MH D (SW cs ad al P (tA g 9 (ix i) x)) A s H1 locs1 → W p l e R s m args below meth c H1 locs1 cells slots Q (F0 m (pc + 1) ls rest)) : W p l e R s m args below meth c H locs cells slots Q (F0 m pc ls (.int x :: .int i :: .ref (ad 9) :: rest)) := by
  obtain ⟨hx, hb, hml, hown, hts, hr, hlocks, hK, hA⟩ := C
  obtain ⟨hP, hD, hS⟩ := h
  have e : (SW cs ad al P g).set 9 (ad 9, .inl (cs 0, 64, .inl (upd (g.2.1 9) (ix i) x))) = SW cs ad al P (tA g 9 (ix i) x) := SW_set (by decide) rfl
  refine va_iast hx hb hK hP hD hS 9 0 (SW_fix rfl) rfl (ib_in hi) hdg (fun H1 l1 hP hD hS => kk H1 l1 ?_)
  rw [e] at hP hD
  exact ⟨hP, hD, hS⟩
theorem ya_11 (C : MCx p s m args meth c A own cc nL rt D cs) (h : MH D (SW cs ad al P g) A s H locs) {v : Int32} (hv : nI 64 = v) (hdg : decode cc pc = .ok (.arraylength, 1)) (kk : W p l e R s m args below meth c H locs cells slots Q (F0 m (pc + 1) ls (.int v :: rest))) : W p l e R s m args below meth c H locs cells slots Q (F0 m pc ls (.ref (ad 11) :: rest)) := va_alen C.1 C.2.1 C.2.2.2.2.2.2.2.1 h.1 11 0 (SW_fix rfl) rfl hv hdg kk
theorem yl_11 {i : Int32} (C : MCx p s m args meth c A own cc nL rt D cs) (h : MH D (SW cs ad al P g) A s H locs) (hi : ib i 64 = true) (hdg : decode cc pc = .ok (.iaload, 1)) (kk : W p l e R s m args below meth c H locs cells slots Q (F0 m (pc + 1) ls (.int (g.2.1 11 (ix i)) :: rest))) : W p l e R s m args below meth c H locs cells slots Q (F0 m pc ls (.int i :: .ref (ad 11) :: rest)) := va_iald C.1 C.2.1 C.2.2.2.2.2.2.2.1 h.1 11 0 (SW_fix rfl) rfl (ib_in hi) hdg kk
theorem ys_11 {i : Int32} {x : Int32} (C : MCx p s m args meth c A own cc nL rt D cs) (h : MH D (SW cs ad al P g) A s H locs) (hi : ib i 64 = true) (hdg : decode cc pc = .ok (.iastore, 1)) (kk : ∀ (H1 : Heap) (locs1 : List Loc), MH D (SW cs ad al P (tA g 11 (ix i) x)) A s H1 locs1 → W p l e R s m args below meth c H1 locs1 cells slots Q (F0 m (pc + 1) ls rest)) : W p l e R s m args below meth c H locs cells slots Q (F0 m pc ls (.int x :: .int i :: .ref (ad 11) :: rest)) := by
  obtain ⟨hx, hb, hml, hown, hts, hr, hlocks, hK, hA⟩ := C
  obtain ⟨hP, hD, hS⟩ := h
  have e : (SW cs ad al P g).set 11 (ad 11, .inl (cs 0, 64, .inl (upd (g.2.1 11) (ix i) x))) = SW cs ad al P (tA g 11 (ix i) x) := SW_set (by decide) rfl
  refine va_iast hx hb hK hP hD hS 11 0 (SW_fix rfl) rfl (ib_in hi) hdg (fun H1 l1 hP hD hS => kk H1 l1 ?_)
  rw [e] at hP hD
  exact ⟨hP, hD, hS⟩
theorem ya_13 (C : MCx p s m args meth c A own cc nL rt D cs) (h : MH D (SW cs ad al P g) A s H locs) {v : Int32} (hv : nI 6 = v) (hdg : decode cc pc = .ok (.arraylength, 1)) (kk : W p l e R s m args below meth c H locs cells slots Q (F0 m (pc + 1) ls (.int v :: rest))) : W p l e R s m args below meth c H locs cells slots Q (F0 m pc ls (.ref (ad 13) :: rest)) := va_alen C.1 C.2.1 C.2.2.2.2.2.2.2.1 h.1 13 0 (SW_fix rfl) rfl hv hdg kk
theorem yl_13 {i : Int32} (C : MCx p s m args meth c A own cc nL rt D cs) (h : MH D (SW cs ad al P g) A s H locs) (hi : ib i 6 = true) (hdg : decode cc pc = .ok (.iaload, 1)) (kk : W p l e R s m args below meth c H locs cells slots Q (F0 m (pc + 1) ls (.int (g.2.1 13 (ix i)) :: rest))) : W p l e R s m args below meth c H locs cells slots Q (F0 m pc ls (.int i :: .ref (ad 13) :: rest)) := va_iald C.1 C.2.1 C.2.2.2.2.2.2.2.1 h.1 13 0 (SW_fix rfl) rfl (ib_in hi) hdg kk
theorem ys_13 {i : Int32} {x : Int32} (C : MCx p s m args meth c A own cc nL rt D cs) (h : MH D (SW cs ad al P g) A s H locs) (hi : ib i 6 = true) (hdg : decode cc pc = .ok (.iastore, 1)) (kk : ∀ (H1 : Heap) (locs1 : List Loc), MH D (SW cs ad al P (tA g 13 (ix i) x)) A s H1 locs1 → W p l e R s m args below meth c H1 locs1 cells slots Q (F0 m (pc + 1) ls rest)) : W p l e R s m args below meth c H locs cells slots Q (F0 m pc ls (.int x :: .int i :: .ref (ad 13) :: rest)) := by
  obtain ⟨hx, hb, hml, hown, hts, hr, hlocks, hK, hA⟩ := C
  obtain ⟨hP, hD, hS⟩ := h
  have e : (SW cs ad al P g).set 13 (ad 13, .inl (cs 0, 6, .inl (upd (g.2.1 13) (ix i) x))) = SW cs ad al P (tA g 13 (ix i) x) := SW_set (by decide) rfl
  refine va_iast hx hb hK hP hD hS 13 0 (SW_fix rfl) rfl (ib_in hi) hdg (fun H1 l1 hP hD hS => kk H1 l1 ?_)
  rw [e] at hP hD
  exact ⟨hP, hD, hS⟩
theorem ya_14 (C : MCx p s m args meth c A own cc nL rt D cs) (h : MH D (SW cs ad al P g) A s H locs) {v : Int32} (hv : nI 6 = v) (hdg : decode cc pc = .ok (.arraylength, 1)) (kk : W p l e R s m args below meth c H locs cells slots Q (F0 m (pc + 1) ls (.int v :: rest))) : W p l e R s m args below meth c H locs cells slots Q (F0 m pc ls (.ref (ad 14) :: rest)) := va_alen C.1 C.2.1 C.2.2.2.2.2.2.2.1 h.1 14 0 (SW_fix rfl) rfl hv hdg kk
theorem yl_14 {i : Int32} (C : MCx p s m args meth c A own cc nL rt D cs) (h : MH D (SW cs ad al P g) A s H locs) (hi : ib i 6 = true) (hdg : decode cc pc = .ok (.iaload, 1)) (kk : W p l e R s m args below meth c H locs cells slots Q (F0 m (pc + 1) ls (.int (g.2.1 14 (ix i)) :: rest))) : W p l e R s m args below meth c H locs cells slots Q (F0 m pc ls (.int i :: .ref (ad 14) :: rest)) := va_iald C.1 C.2.1 C.2.2.2.2.2.2.2.1 h.1 14 0 (SW_fix rfl) rfl (ib_in hi) hdg kk
theorem ys_14 {i : Int32} {x : Int32} (C : MCx p s m args meth c A own cc nL rt D cs) (h : MH D (SW cs ad al P g) A s H locs) (hi : ib i 6 = true) (hdg : decode cc pc = .ok (.iastore, 1)) (kk : ∀ (H1 : Heap) (locs1 : List Loc), MH D (SW cs ad al P (tA g 14 (ix i) x)) A s H1 locs1 → W p l e R s m args below meth c H1 locs1 cells slots Q (F0 m (pc + 1) ls rest)) : W p l e R s m args below meth c H locs cells slots Q (F0 m pc ls (.int x :: .int i :: .ref (ad 14) :: rest)) := by
  obtain ⟨hx, hb, hml, hown, hts, hr, hlocks, hK, hA⟩ := C
  obtain ⟨hP, hD, hS⟩ := h
  have e : (SW cs ad al P g).set 14 (ad 14, .inl (cs 0, 6, .inl (upd (g.2.1 14) (ix i) x))) = SW cs ad al P (tA g 14 (ix i) x) := SW_set (by decide) rfl
  refine va_iast hx hb hK hP hD hS 14 0 (SW_fix rfl) rfl (ib_in hi) hdg (fun H1 l1 hP hD hS => kk H1 l1 ?_)
  rw [e] at hP hD
  exact ⟨hP, hD, hS⟩
theorem ya_15 (C : MCx p s m args meth c A own cc nL rt D cs) (h : MH D (SW cs ad al P g) A s H locs) {v : Int32} (hv : nI 6 = v) (hdg : decode cc pc = .ok (.arraylength, 1)) (kk : W p l e R s m args below meth c H locs cells slots Q (F0 m (pc + 1) ls (.int v :: rest))) : W p l e R s m args below meth c H locs cells slots Q (F0 m pc ls (.ref (ad 15) :: rest)) := va_alen C.1 C.2.1 C.2.2.2.2.2.2.2.1 h.1 15 0 (SW_fix rfl) rfl hv hdg kk
theorem yl_15 {i : Int32} (C : MCx p s m args meth c A own cc nL rt D cs) (h : MH D (SW cs ad al P g) A s H locs) (hi : ib i 6 = true) (hdg : decode cc pc = .ok (.iaload, 1)) (kk : W p l e R s m args below meth c H locs cells slots Q (F0 m (pc + 1) ls (.int (g.2.1 15 (ix i)) :: rest))) : W p l e R s m args below meth c H locs cells slots Q (F0 m pc ls (.int i :: .ref (ad 15) :: rest)) := va_iald C.1 C.2.1 C.2.2.2.2.2.2.2.1 h.1 15 0 (SW_fix rfl) rfl (ib_in hi) hdg kk
theorem ys_15 {i : Int32} {x : Int32} (C : MCx p s m args meth c A own cc nL rt D cs) (h : MH D (SW cs ad al P g) A s H locs) (hi : ib i 6 = true) (hdg : decode cc pc = .ok (.iastore, 1)) (kk : ∀ (H1 : Heap) (locs1 : List Loc), MH D (SW cs ad al P (tA g 15 (ix i) x)) A s H1 locs1 → W p l e R s m args below meth c H1 locs1 cells slots Q (F0 m (pc + 1) ls rest)) : W p l e R s m args below meth c H locs cells slots Q (F0 m pc ls (.int x :: .int i :: .ref (ad 15) :: rest)) := by
  obtain ⟨hx, hb, hml, hown, hts, hr, hlocks, hK, hA⟩ := C
  obtain ⟨hP, hD, hS⟩ := h
  have e : (SW cs ad al P g).set 15 (ad 15, .inl (cs 0, 6, .inl (upd (g.2.1 15) (ix i) x))) = SW cs ad al P (tA g 15 (ix i) x) := SW_set (by decide) rfl
  refine va_iast hx hb hK hP hD hS 15 0 (SW_fix rfl) rfl (ib_in hi) hdg (fun H1 l1 hP hD hS => kk H1 l1 ?_)
  rw [e] at hP hD
  exact ⟨hP, hD, hS⟩
theorem ya_16 (C : MCx p s m args meth c A own cc nL rt D cs) (h : MH D (SW cs ad al P g) A s H locs) {v : Int32} (hv : nI 6 = v) (hdg : decode cc pc = .ok (.arraylength, 1)) (kk : W p l e R s m args below meth c H locs cells slots Q (F0 m (pc + 1) ls (.int v :: rest))) : W p l e R s m args below meth c H locs cells slots Q (F0 m pc ls (.ref (ad 16) :: rest)) := va_alen C.1 C.2.1 C.2.2.2.2.2.2.2.1 h.1 16 0 (SW_fix rfl) rfl hv hdg kk
theorem yl_16 {i : Int32} (C : MCx p s m args meth c A own cc nL rt D cs) (h : MH D (SW cs ad al P g) A s H locs) (hi : ib i 6 = true) (hdg : decode cc pc = .ok (.iaload, 1)) (kk : W p l e R s m args below meth c H locs cells slots Q (F0 m (pc + 1) ls (.int (g.2.1 16 (ix i)) :: rest))) : W p l e R s m args below meth c H locs cells slots Q (F0 m pc ls (.int i :: .ref (ad 16) :: rest)) := va_iald C.1 C.2.1 C.2.2.2.2.2.2.2.1 h.1 16 0 (SW_fix rfl) rfl (ib_in hi) hdg kk
theorem ys_16 {i : Int32} {x : Int32} (C : MCx p s m args meth c A own cc nL rt D cs) (h : MH D (SW cs ad al P g) A s H locs) (hi : ib i 6 = true) (hdg : decode cc pc = .ok (.iastore, 1)) (kk : ∀ (H1 : Heap) (locs1 : List Loc), MH D (SW cs ad al P (tA g 16 (ix i) x)) A s H1 locs1 → W p l e R s m args below meth c H1 locs1 cells slots Q (F0 m (pc + 1) ls rest)) : W p l e R s m args below meth c H locs cells slots Q (F0 m pc ls (.int x :: .int i :: .ref (ad 16) :: rest)) := by
  obtain ⟨hx, hb, hml, hown, hts, hr, hlocks, hK, hA⟩ := C
  obtain ⟨hP, hD, hS⟩ := h
  have e : (SW cs ad al P g).set 16 (ad 16, .inl (cs 0, 6, .inl (upd (g.2.1 16) (ix i) x))) = SW cs ad al P (tA g 16 (ix i) x) := SW_set (by decide) rfl
  refine va_iast hx hb hK hP hD hS 16 0 (SW_fix rfl) rfl (ib_in hi) hdg (fun H1 l1 hP hD hS => kk H1 l1 ?_)
  rw [e] at hP hD
  exact ⟨hP, hD, hS⟩
theorem ya_18 (C : MCx p s m args meth c A own cc nL rt D cs) (h : MH D (SW cs ad al P g) A s H locs) {v : Int32} (hv : nI 6 = v) (hdg : decode cc pc = .ok (.arraylength, 1)) (kk : W p l e R s m args below meth c H locs cells slots Q (F0 m (pc + 1) ls (.int v :: rest))) : W p l e R s m args below meth c H locs cells slots Q (F0 m pc ls (.ref (ad 18) :: rest)) := va_alen C.1 C.2.1 C.2.2.2.2.2.2.2.1 h.1 18 0 (SW_fix rfl) rfl hv hdg kk
theorem yl_18 {i : Int32} (C : MCx p s m args meth c A own cc nL rt D cs) (h : MH D (SW cs ad al P g) A s H locs) (hi : ib i 6 = true) (hdg : decode cc pc = .ok (.iaload, 1)) (kk : W p l e R s m args below meth c H locs cells slots Q (F0 m (pc + 1) ls (.int (g.2.1 18 (ix i)) :: rest))) : W p l e R s m args below meth c H locs cells slots Q (F0 m pc ls (.int i :: .ref (ad 18) :: rest)) := va_iald C.1 C.2.1 C.2.2.2.2.2.2.2.1 h.1 18 0 (SW_fix rfl) rfl (ib_in hi) hdg kk
theorem ys_18 {i : Int32} {x : Int32} (C : MCx p s m args meth c A own cc nL rt D cs) (h : MH D (SW cs ad al P g) A s H locs) (hi : ib i 6 = true) (hdg : decode cc pc = .ok (.iastore, 1)) (kk : ∀ (H1 : Heap) (locs1 : List Loc), MH D (SW cs ad al P (tA g 18 (ix i) x)) A s H1 locs1 → W p l e R s m args below meth c H1 locs1 cells slots Q (F0 m (pc + 1) ls rest)) : W p l e R s m args below meth c H locs cells slots Q (F0 m pc ls (.int x :: .int i :: .ref (ad 18) :: rest)) := by
  obtain ⟨hx, hb, hml, hown, hts, hr, hlocks, hK, hA⟩ := C
  obtain ⟨hP, hD, hS⟩ := h
  have e : (SW cs ad al P g).set 18 (ad 18, .inl (cs 0, 6, .inl (upd (g.2.1 18) (ix i) x))) = SW cs ad al P (tA g 18 (ix i) x) := SW_set (by decide) rfl
  refine va_iast hx hb hK hP hD hS 18 0 (SW_fix rfl) rfl (ib_in hi) hdg (fun H1 l1 hP hD hS => kk H1 l1 ?_)
  rw [e] at hP hD
  exact ⟨hP, hD, hS⟩
theorem ya_19 (C : MCx p s m args meth c A own cc nL rt D cs) (h : MH D (SW cs ad al P g) A s H locs) {v : Int32} (hv : nI 6 = v) (hdg : decode cc pc = .ok (.arraylength, 1)) (kk : W p l e R s m args below meth c H locs cells slots Q (F0 m (pc + 1) ls (.int v :: rest))) : W p l e R s m args below meth c H locs cells slots Q (F0 m pc ls (.ref (ad 19) :: rest)) := va_alen C.1 C.2.1 C.2.2.2.2.2.2.2.1 h.1 19 0 (SW_fix rfl) rfl hv hdg kk
theorem yl_19 {i : Int32} (C : MCx p s m args meth c A own cc nL rt D cs) (h : MH D (SW cs ad al P g) A s H locs) (hi : ib i 6 = true) (hdg : decode cc pc = .ok (.iaload, 1)) (kk : W p l e R s m args below meth c H locs cells slots Q (F0 m (pc + 1) ls (.int (g.2.1 19 (ix i)) :: rest))) : W p l e R s m args below meth c H locs cells slots Q (F0 m pc ls (.int i :: .ref (ad 19) :: rest)) := va_iald C.1 C.2.1 C.2.2.2.2.2.2.2.1 h.1 19 0 (SW_fix rfl) rfl (ib_in hi) hdg kk
theorem ys_19 {i : Int32} {x : Int32} (C : MCx p s m args meth c A own cc nL rt D cs) (h : MH D (SW cs ad al P g) A s H locs) (hi : ib i 6 = true) (hdg : decode cc pc = .ok (.iastore, 1)) (kk : ∀ (H1 : Heap) (locs1 : List Loc), MH D (SW cs ad al P (tA g 19 (ix i) x)) A s H1 locs1 → W p l e R s m args below meth c H1 locs1 cells slots Q (F0 m (pc + 1) ls rest)) : W p l e R s m args below meth c H locs cells slots Q (F0 m pc ls (.int x :: .int i :: .ref (ad 19) :: rest)) := by
  obtain ⟨hx, hb, hml, hown, hts, hr, hlocks, hK, hA⟩ := C
  obtain ⟨hP, hD, hS⟩ := h
  have e : (SW cs ad al P g).set 19 (ad 19, .inl (cs 0, 6, .inl (upd (g.2.1 19) (ix i) x))) = SW cs ad al P (tA g 19 (ix i) x) := SW_set (by decide) rfl
  refine va_iast hx hb hK hP hD hS 19 0 (SW_fix rfl) rfl (ib_in hi) hdg (fun H1 l1 hP hD hS => kk H1 l1 ?_)
  rw [e] at hP hD
  exact ⟨hP, hD, hS⟩
theorem ya_20 (C : MCx p s m args meth c A own cc nL rt D cs) (h : MH D (SW cs ad al P g) A s H locs) {v : Int32} (hv : nI 6 = v) (hdg : decode cc pc = .ok (.arraylength, 1)) (kk : W p l e R s m args below meth c H locs cells slots Q (F0 m (pc + 1) ls (.int v :: rest))) : W p l e R s m args below meth c H locs cells slots Q (F0 m pc ls (.ref (ad 20) :: rest)) := va_alen C.1 C.2.1 C.2.2.2.2.2.2.2.1 h.1 20 0 (SW_fix rfl) rfl hv hdg kk
theorem yl_20 {i : Int32} (C : MCx p s m args meth c A own cc nL rt D cs) (h : MH D (SW cs ad al P g) A s H locs) (hi : ib i 6 = true) (hdg : decode cc pc = .ok (.iaload, 1)) (kk : W p l e R s m args below meth c H locs cells slots Q (F0 m (pc + 1) ls (.int (g.2.1 20 (ix i)) :: rest))) : W p l e R s m args below meth c H locs cells slots Q (F0 m pc ls (.int i :: .ref (ad 20) :: rest)) := va_iald C.1 C.2.1 C.2.2.2.2.2.2.2.1 h.1 20 0 (SW_fix rfl) rfl (ib_in hi) hdg kk
theorem ys_20 {i : Int32} {x : Int32} (C : MCx p s m args meth c A own cc nL rt D cs) (h : MH D (SW cs ad al P g) A s H locs) (hi : ib i 6 = true) (hdg : decode cc pc = .ok (.iastore, 1)) (kk : ∀ (H1 : Heap) (locs1 : List Loc), MH D (SW cs ad al P (tA g 20 (ix i) x)) A s H1 locs1 → W p l e R s m args below meth c H1 locs1 cells slots Q (F0 m (pc + 1) ls rest)) : W p l e R s m args below meth c H locs cells slots Q (F0 m pc ls (.int x :: .int i :: .ref (ad 20) :: rest)) := by
  obtain ⟨hx, hb, hml, hown, hts, hr, hlocks, hK, hA⟩ := C
  obtain ⟨hP, hD, hS⟩ := h
  have e : (SW cs ad al P g).set 20 (ad 20, .inl (cs 0, 6, .inl (upd (g.2.1 20) (ix i) x))) = SW cs ad al P (tA g 20 (ix i) x) := SW_set (by decide) rfl
  refine va_iast hx hb hK hP hD hS 20 0 (SW_fix rfl) rfl (ib_in hi) hdg (fun H1 l1 hP hD hS => kk H1 l1 ?_)
  rw [e] at hP hD
  exact ⟨hP, hD, hS⟩
theorem ya_21 (C : MCx p s m args meth c A own cc nL rt D cs) (h : MH D (SW cs ad al P g) A s H locs) {v : Int32} (hv : nI 6 = v) (hdg : decode cc pc = .ok (.arraylength, 1)) (kk : W p l e R s m args below meth c H locs cells slots Q (F0 m (pc + 1) ls (.int v :: rest))) : W p l e R s m args below meth c H locs cells slots Q (F0 m pc ls (.ref (ad 21) :: rest)) := va_alen C.1 C.2.1 C.2.2.2.2.2.2.2.1 h.1 21 0 (SW_fix rfl) rfl hv hdg kk
theorem yl_21 {i : Int32} (C : MCx p s m args meth c A own cc nL rt D cs) (h : MH D (SW cs ad al P g) A s H locs) (hi : ib i 6 = true) (hdg : decode cc pc = .ok (.iaload, 1)) (kk : W p l e R s m args below meth c H locs cells slots Q (F0 m (pc + 1) ls (.int (g.2.1 21 (ix i)) :: rest))) : W p l e R s m args below meth c H locs cells slots Q (F0 m pc ls (.int i :: .ref (ad 21) :: rest)) := va_iald C.1 C.2.1 C.2.2.2.2.2.2.2.1 h.1 21 0 (SW_fix rfl) rfl (ib_in hi) hdg kk
theorem ys_21 {i : Int32} {x : Int32} (C : MCx p s m args meth c A own cc nL rt D cs) (h : MH D (SW cs ad al P g) A s H locs) (hi : ib i 6 = true) (hdg : decode cc pc = .ok (.iastore, 1)) (kk : ∀ (H1 : Heap) (locs1 : List Loc), MH D (SW cs ad al P (tA g 21 (ix i) x)) A s H1 locs1 → W p l e R s m args below meth c H1 locs1 cells slots Q (F0 m (pc + 1) ls rest)) : W p l e R s m args below meth c H locs cells slots Q (F0 m pc ls (.int x :: .int i :: .ref (ad 21) :: rest)) := by
  obtain ⟨hx, hb, hml, hown, hts, hr, hlocks, hK, hA⟩ := C
  obtain ⟨hP, hD, hS⟩ := h
  have e : (SW cs ad al P g).set 21 (ad 21, .inl (cs 0, 6, .inl (upd (g.2.1 21) (ix i) x))) = SW cs ad al P (tA g 21 (ix i) x) := SW_set (by decide) rfl
  refine va_iast hx hb hK hP hD hS 21 0 (SW_fix rfl) rfl (ib_in hi) hdg (fun H1 l1 hP hD hS => kk H1 l1 ?_)
  rw [e] at hP hD
  exact ⟨hP, hD, hS⟩
theorem ya_23 (C : MCx p s m args meth c A own cc nL rt D cs) (h : MH D (SW cs ad al P g) A s H locs) {v : Int32} (hv : nI 30 = v) (hdg : decode cc pc = .ok (.arraylength, 1)) (kk : W p l e R s m args below meth c H locs cells slots Q (F0 m (pc + 1) ls (.int v :: rest))) : W p l e R s m args below meth c H locs cells slots Q (F0 m pc ls (.ref (ad 23) :: rest)) := va_alen C.1 C.2.1 C.2.2.2.2.2.2.2.1 h.1 23 0 (SW_fix rfl) rfl hv hdg kk
theorem yl_23 {i : Int32} (C : MCx p s m args meth c A own cc nL rt D cs) (h : MH D (SW cs ad al P g) A s H locs) (hi : ib i 30 = true) (hdg : decode cc pc = .ok (.iaload, 1)) (kk : W p l e R s m args below meth c H locs cells slots Q (F0 m (pc + 1) ls (.int (g.2.1 23 (ix i)) :: rest))) : W p l e R s m args below meth c H locs cells slots Q (F0 m pc ls (.int i :: .ref (ad 23) :: rest)) := va_iald C.1 C.2.1 C.2.2.2.2.2.2.2.1 h.1 23 0 (SW_fix rfl) rfl (ib_in hi) hdg kk
theorem ys_23 {i : Int32} {x : Int32} (C : MCx p s m args meth c A own cc nL rt D cs) (h : MH D (SW cs ad al P g) A s H locs) (hi : ib i 30 = true) (hdg : decode cc pc = .ok (.iastore, 1)) (kk : ∀ (H1 : Heap) (locs1 : List Loc), MH D (SW cs ad al P (tA g 23 (ix i) x)) A s H1 locs1 → W p l e R s m args below meth c H1 locs1 cells slots Q (F0 m (pc + 1) ls rest)) : W p l e R s m args below meth c H locs cells slots Q (F0 m pc ls (.int x :: .int i :: .ref (ad 23) :: rest)) := by
  obtain ⟨hx, hb, hml, hown, hts, hr, hlocks, hK, hA⟩ := C
  obtain ⟨hP, hD, hS⟩ := h
  have e : (SW cs ad al P g).set 23 (ad 23, .inl (cs 0, 30, .inl (upd (g.2.1 23) (ix i) x))) = SW cs ad al P (tA g 23 (ix i) x) := SW_set (by decide) rfl
  refine va_iast hx hb hK hP hD hS 23 0 (SW_fix rfl) rfl (ib_in hi) hdg (fun H1 l1 hP hD hS => kk H1 l1 ?_)
  rw [e] at hP hD
  exact ⟨hP, hD, hS⟩
theorem ya_24 (C : MCx p s m args meth c A own cc nL rt D cs) (h : MH D (SW cs ad al P g) A s H locs) {v : Int32} (hv : nI 30 = v) (hdg : decode cc pc = .ok (.arraylength, 1)) (kk : W p l e R s m args below meth c H locs cells slots Q (F0 m (pc + 1) ls (.int v :: rest))) : W p l e R s m args below meth c H locs cells slots Q (F0 m pc ls (.ref (ad 24) :: rest)) := va_alen C.1 C.2.1 C.2.2.2.2.2.2.2.1 h.1 24 0 (SW_fix rfl) rfl hv hdg kk
theorem yl_24 {i : Int32} (C : MCx p s m args meth c A own cc nL rt D cs) (h : MH D (SW cs ad al P g) A s H locs) (hi : ib i 30 = true) (hdg : decode cc pc = .ok (.iaload, 1)) (kk : W p l e R s m args below meth c H locs cells slots Q (F0 m (pc + 1) ls (.int (g.2.1 24 (ix i)) :: rest))) : W p l e R s m args below meth c H locs cells slots Q (F0 m pc ls (.int i :: .ref (ad 24) :: rest)) := va_iald C.1 C.2.1 C.2.2.2.2.2.2.2.1 h.1 24 0 (SW_fix rfl) rfl (ib_in hi) hdg kk
theorem ys_24 {i : Int32} {x : Int32} (C : MCx p s m args meth c A own cc nL rt D cs) (h : MH D (SW cs ad al P g) A s H locs) (hi : ib i 30 = true) (hdg : decode cc pc = .ok (.iastore, 1)) (kk : ∀ (H1 : Heap) (locs1 : List Loc), MH D (SW cs ad al P (tA g 24 (ix i) x)) A s H1 locs1 → W p l e R s m args below meth c H1 locs1 cells slots Q (F0 m (pc + 1) ls rest)) : W p l e R s m args below meth c H locs cells slots Q (F0 m pc ls (.int x :: .int i :: .ref (ad 24) :: rest)) := by
  obtain ⟨hx, hb, hml, hown, hts, hr, hlocks, hK, hA⟩ := C
  obtain ⟨hP, hD, hS⟩ := h
  have e : (SW cs ad al P g).set 24 (ad 24, .inl (cs 0, 30, .inl (upd (g.2.1 24) (ix i) x))) = SW cs ad al P (tA g 24 (ix i) x) := SW_set (by decide) rfl
  refine va_iast hx hb hK hP hD hS 24 0 (SW_fix rfl) rfl (ib_in hi) hdg (fun H1 l1 hP hD hS => kk H1 l1 ?_)
  rw [e] at hP hD
  exact ⟨hP, hD, hS⟩
theorem ya_25 (C : MCx p s m args meth c A own cc nL rt D cs) (h : MH D (SW cs ad al P g) A s H locs) {v : Int32} (hv : nI 6 = v) (hdg : decode cc pc = .ok (.arraylength, 1)) (kk : W p l e R s m args below meth c H locs cells slots Q (F0 m (pc + 1) ls (.int v :: rest))) : W p l e R s m args below meth c H locs cells slots Q (F0 m pc ls (.ref (ad 25) :: rest)) := va_alen C.1 C.2.1 C.2.2.2.2.2.2.2.1 h.1 25 0 (SW_fix rfl) rfl hv hdg kk
theorem yl_25 {i : Int32} (C : MCx p s m args meth c A own cc nL rt D cs) (h : MH D (SW cs ad al P g) A s H locs) (hi : ib i 6 = true) (hdg : decode cc pc = .ok (.iaload, 1)) (kk : W p l e R s m args below meth c H locs cells slots Q (F0 m (pc + 1) ls (.int (g.2.1 25 (ix i)) :: rest))) : W p l e R s m args below meth c H locs cells slots Q (F0 m pc ls (.int i :: .ref (ad 25) :: rest)) := va_iald C.1 C.2.1 C.2.2.2.2.2.2.2.1 h.1 25 0 (SW_fix rfl) rfl (ib_in hi) hdg kk
theorem ys_25 {i : Int32} {x : Int32} (C : MCx p s m args meth c A own cc nL rt D cs) (h : MH D (SW cs ad al P g) A s H locs) (hi : ib i 6 = true) (hdg : decode cc pc = .ok (.iastore, 1)) (kk : ∀ (H1 : Heap) (locs1 : List Loc), MH D (SW cs ad al P (tA g 25 (ix i) x)) A s H1 locs1 → W p l e R s m args below meth c H1 locs1 cells slots Q (F0 m (pc + 1) ls rest)) : W p l e R s m args below meth c H locs cells slots Q (F0 m pc ls (.int x :: .int i :: .ref (ad 25) :: rest)) := by
  obtain ⟨hx, hb, hml, hown, hts, hr, hlocks, hK, hA⟩ := C
  obtain ⟨hP, hD, hS⟩ := h
  have e : (SW cs ad al P g).set 25 (ad 25, .inl (cs 0, 6, .inl (upd (g.2.1 25) (ix i) x))) = SW cs ad al P (tA g 25 (ix i) x) := SW_set (by decide) rfl
  refine va_iast hx hb hK hP hD hS 25 0 (SW_fix rfl) rfl (ib_in hi) hdg (fun H1 l1 hP hD hS => kk H1 l1 ?_)
  rw [e] at hP hD
  exact ⟨hP, hD, hS⟩
theorem ya_26 (C : MCx p s m args meth c A own cc nL rt D cs) (h : MH D (SW cs ad al P g) A s H locs) {v : Int32} (hv : nI 6 = v) (hdg : decode cc pc = .ok (.arraylength, 1)) (kk : W p l e R s m args below meth c H locs cells slots Q (F0 m (pc + 1) ls (.int v :: rest))) : W p l e R s m args below meth c H locs cells slots Q (F0 m pc ls (.ref (ad 26) :: rest)) := va_alen C.1 C.2.1 C.2.2.2.2.2.2.2.1 h.1 26 0 (SW_fix rfl) rfl hv hdg kk
theorem yl_26 {i : Int32} (C : MCx p s m args meth c A own cc nL rt D cs) (h : MH D (SW cs ad al P g) A s H locs) (hi : ib i 6 = true) (hdg : decode cc pc = .ok (.iaload, 1)) (kk : W p l e R s m args below meth c H locs cells slots Q (F0 m (pc + 1) ls (.int (g.2.1 26 (ix i)) :: rest))) : W p l e R s m args below meth c H locs cells slots Q (F0 m pc ls (.int i :: .ref (ad 26) :: rest)) := va_iald C.1 C.2.1 C.2.2.2.2.2.2.2.1 h.1 26 0 (SW_fix rfl) rfl (ib_in hi) hdg kk
theorem ys_26 {i : Int32} {x : Int32} (C : MCx p s m args meth c A own cc nL rt D cs) (h : MH D (SW cs ad al P g) A s H locs) (hi : ib i 6 = true) (hdg : decode cc pc = .ok (.iastore, 1)) (kk : ∀ (H1 : Heap) (locs1 : List Loc), MH D (SW cs ad al P (tA g 26 (ix i) x)) A s H1 locs1 → W p l e R s m args below meth c H1 locs1 cells slots Q (F0 m (pc + 1) ls rest)) : W p l e R s m args below meth c H locs cells slots Q (F0 m pc ls (.int x :: .int i :: .ref (ad 26) :: rest)) := by
  obtain ⟨hx, hb, hml, hown, hts, hr, hlocks, hK, hA⟩ := C
  obtain ⟨hP, hD, hS⟩ := h
  have e : (SW cs ad al P g).set 26 (ad 26, .inl (cs 0, 6, .inl (upd (g.2.1 26) (ix i) x))) = SW cs ad al P (tA g 26 (ix i) x) := SW_set (by decide) rfl
  refine va_iast hx hb hK hP hD hS 26 0 (SW_fix rfl) rfl (ib_in hi) hdg (fun H1 l1 hP hD hS => kk H1 l1 ?_)
  rw [e] at hP hD
  exact ⟨hP, hD, hS⟩
theorem ya_28 (C : MCx p s m args meth c A own cc nL rt D cs) (h : MH D (SW cs ad al P g) A s H locs) {v : Int32} (hv : nI 2304 = v) (hdg : decode cc pc = .ok (.arraylength, 1)) (kk : W p l e R s m args below meth c H locs cells slots Q (F0 m (pc + 1) ls (.int v :: rest))) : W p l e R s m args below meth c H locs cells slots Q (F0 m pc ls (.ref (ad 28) :: rest)) := va_alen C.1 C.2.1 C.2.2.2.2.2.2.2.1 h.1 28 3 (SW_fix rfl) rfl hv hdg kk
theorem yl_28 {i : Int32} (C : MCx p s m args meth c A own cc nL rt D cs) (h : MH D (SW cs ad al P g) A s H locs) (hi : ib i 2304 = true) (hdg : decode cc pc = .ok (.baload, 1)) (kk : W p l e R s m args below meth c H locs cells slots Q (F0 m (pc + 1) ls (.int (g.2.1 28 (ix i)) :: rest))) : W p l e R s m args below meth c H locs cells slots Q (F0 m pc ls (.int i :: .ref (ad 28) :: rest)) := va_bald C.1 C.2.1 C.2.2.2.2.2.2.2.1 h.1 28 3 (SW_fix rfl) rfl (ib_in hi) hdg kk
theorem ys_28 {i : Int32} {x : Int32} (C : MCx p s m args meth c A own cc nL rt D cs) (h : MH D (SW cs ad al P g) A s H locs) (hi : ib i 2304 = true) (hz : is8 x = true) (hdg : decode cc pc = .ok (.bastore, 1)) (kk : ∀ (H1 : Heap) (locs1 : List Loc), MH D (SW cs ad al P (tA g 28 (ix i) x)) A s H1 locs1 → W p l e R s m args below meth c H1 locs1 cells slots Q (F0 m (pc + 1) ls rest)) : W p l e R s m args below meth c H locs cells slots Q (F0 m pc ls (.int x :: .int i :: .ref (ad 28) :: rest)) := by
  obtain ⟨hx, hb, hml, hown, hts, hr, hlocks, hK, hA⟩ := C
  obtain ⟨hP, hD, hS⟩ := h
  have e : (SW cs ad al P g).set 28 (ad 28, .inl (cs 3, 2304, .inl (upd (g.2.1 28) (ix i) x))) = SW cs ad al P (tA g 28 (ix i) x) := SW_set (by decide) rfl
  refine va_bast hx hb hK hP hD hS 28 3 (SW_fix rfl) rfl (ib_in hi) hdg (fun H1 l1 hP hD hS => kk H1 l1 ?_)
  rw [is8_nar hz] at hP hD
  rw [e] at hP hD
  exact ⟨hP, hD, hS⟩
theorem at_past {cs : Nat → ClassId} {ad al : Nat → Nat} {P : PL} {g : CS} {o : Nat} (ho : okS o) : (SW cs ad al P g)[(34 + (o - 30))]? = some (ad (o + 10), .inl (cs 2, 10, .inr (.inl (g.2.2.1 (o + 10))))) := SW_fix (by rcases ho with h | h | h | h | h <;> subst h <;> rfl)
theorem ya_past {o : Nat} (ho : okS o) (C : MCx p s m args meth c A own cc nL rt D cs) (h : MH D (SW cs ad al P g) A s H locs) {v : Int32} (hv : nI 10 = v) (hdg : decode cc pc = .ok (.arraylength, 1)) (kk : W p l e R s m args below meth c H locs cells slots Q (F0 m (pc + 1) ls (.int v :: rest))) : W p l e R s m args below meth c H locs cells slots Q (F0 m pc ls (.ref (ad (o + 10)) :: rest)) := va_alen C.1 C.2.1 C.2.2.2.2.2.2.2.1 h.1 (34 + (o - 30)) 2 (at_past ho) rfl hv hdg kk
theorem yl_past {o : Nat} (ho : okS o) {i : Int32} (C : MCx p s m args meth c A own cc nL rt D cs) (h : MH D (SW cs ad al P g) A s H locs) (hi : ib i 10 = true) (hdg : decode cc pc = .ok (.laload, 1)) (kk : W p l e R s m args below meth c H locs cells slots Q (F0 m (pc + 1) ls (.long (g.2.2.1 (o + 10) (ix i)) :: rest))) : W p l e R s m args below meth c H locs cells slots Q (F0 m pc ls (.int i :: .ref (ad (o + 10)) :: rest)) := va_lald C.1 C.2.1 C.2.2.2.2.2.2.2.1 h.1 (34 + (o - 30)) 2 (at_past ho) rfl (ib_in hi) hdg kk
theorem ys_past {o : Nat} (ho : okS o) {i : Int32} {x : Int64} (C : MCx p s m args meth c A own cc nL rt D cs) (h : MH D (SW cs ad al P g) A s H locs) (hi : ib i 10 = true) (hdg : decode cc pc = .ok (.lastore, 1)) (kk : ∀ (H1 : Heap) (locs1 : List Loc), MH D (SW cs ad al P (tL g (o + 10) (ix i) x)) A s H1 locs1 → W p l e R s m args below meth c H1 locs1 cells slots Q (F0 m (pc + 1) ls rest)) : W p l e R s m args below meth c H locs cells slots Q (F0 m pc ls (.long x :: .int i :: .ref (ad (o + 10)) :: rest)) := by
  obtain ⟨hx, hb, hml, hown, hts, hr, hlocks, hK, hA⟩ := C
  obtain ⟨hP, hD, hS⟩ := h
  have e : (SW cs ad al P g).set (34 + (o - 30)) (ad (o + 10), .inl (cs 2, 10, .inr (.inl (vp_updL (g.2.2.1 (o + 10)) (ix i) x)))) = SW cs ad al P (tL g (o + 10) (ix i) x) := by rcases ho with h | h | h | h | h <;> subst h <;> exact SW_set (by decide) rfl
  refine va_last hx hb hK hP hD hS (34 + (o - 30)) 2 (at_past ho) rfl (ib_in hi) hdg (fun H1 l1 hP hD hS => kk H1 l1 ?_)
  rw [e] at hP hD
  exact ⟨hP, hD, hS⟩
theorem at_num {cs : Nat → ClassId} {ad al : Nat → Nat} {P : PL} {g : CS} {o : Nat} (ho : okT o) : (SW cs ad al P g)[(43 + (o - 50))]? = some (ad (o + 10), .inl (cs 2, 30, .inr (.inl (g.2.2.1 (o + 10))))) := SW_fix (by rcases ho with h | h | h | h <;> subst h <;> rfl)
theorem ya_num {o : Nat} (ho : okT o) (C : MCx p s m args meth c A own cc nL rt D cs) (h : MH D (SW cs ad al P g) A s H locs) {v : Int32} (hv : nI 30 = v) (hdg : decode cc pc = .ok (.arraylength, 1)) (kk : W p l e R s m args below meth c H locs cells slots Q (F0 m (pc + 1) ls (.int v :: rest))) : W p l e R s m args below meth c H locs cells slots Q (F0 m pc ls (.ref (ad (o + 10)) :: rest)) := va_alen C.1 C.2.1 C.2.2.2.2.2.2.2.1 h.1 (43 + (o - 50)) 2 (at_num ho) rfl hv hdg kk
theorem yl_num {o : Nat} (ho : okT o) {i : Int32} (C : MCx p s m args meth c A own cc nL rt D cs) (h : MH D (SW cs ad al P g) A s H locs) (hi : ib i 30 = true) (hdg : decode cc pc = .ok (.laload, 1)) (kk : W p l e R s m args below meth c H locs cells slots Q (F0 m (pc + 1) ls (.long (g.2.2.1 (o + 10) (ix i)) :: rest))) : W p l e R s m args below meth c H locs cells slots Q (F0 m pc ls (.int i :: .ref (ad (o + 10)) :: rest)) := va_lald C.1 C.2.1 C.2.2.2.2.2.2.2.1 h.1 (43 + (o - 50)) 2 (at_num ho) rfl (ib_in hi) hdg kk
theorem ys_num {o : Nat} (ho : okT o) {i : Int32} {x : Int64} (C : MCx p s m args meth c A own cc nL rt D cs) (h : MH D (SW cs ad al P g) A s H locs) (hi : ib i 30 = true) (hdg : decode cc pc = .ok (.lastore, 1)) (kk : ∀ (H1 : Heap) (locs1 : List Loc), MH D (SW cs ad al P (tL g (o + 10) (ix i) x)) A s H1 locs1 → W p l e R s m args below meth c H1 locs1 cells slots Q (F0 m (pc + 1) ls rest)) : W p l e R s m args below meth c H locs cells slots Q (F0 m pc ls (.long x :: .int i :: .ref (ad (o + 10)) :: rest)) := by
  obtain ⟨hx, hb, hml, hown, hts, hr, hlocks, hK, hA⟩ := C
  obtain ⟨hP, hD, hS⟩ := h
  have e : (SW cs ad al P g).set (43 + (o - 50)) (ad (o + 10), .inl (cs 2, 30, .inr (.inl (vp_updL (g.2.2.1 (o + 10)) (ix i) x)))) = SW cs ad al P (tL g (o + 10) (ix i) x) := by rcases ho with h | h | h | h <;> subst h <;> exact SW_set (by decide) rfl
  refine va_last hx hb hK hP hD hS (43 + (o - 50)) 2 (at_num ho) rfl (ib_in hi) hdg (fun H1 l1 hP hD hS => kk H1 l1 ?_)
  rw [e] at hP hD
  exact ⟨hP, hD, hS⟩
def sixP (x : Nat) : Nat := if x = 18 then 18 else if x = 19 then 19 else if x = 20 then 20 else if x = 21 then 21 else if x = 25 then 25 else if x = 26 then 26 else 0
theorem at_f6 {cs : Nat → ClassId} {ad al : Nat → Nat} {P : PL} {g : CS} {x0 : Nat} (ho : ok6 x0) : (SW cs ad al P g)[sixP x0]? = some (ad x0, .inl (cs 0, 6, .inl (g.2.1 x0))) := SW_fix (by rcases ho with h | h | h | h | h | h <;> subst h <;> rfl)
theorem ya_f6 {x0 : Nat} (ho : ok6 x0) (C : MCx p s m args meth c A own cc nL rt D cs) (h : MH D (SW cs ad al P g) A s H locs) {v : Int32} (hv : nI 6 = v) (hdg : decode cc pc = .ok (.arraylength, 1)) (kk : W p l e R s m args below meth c H locs cells slots Q (F0 m (pc + 1) ls (.int v :: rest))) : W p l e R s m args below meth c H locs cells slots Q (F0 m pc ls (.ref (ad x0) :: rest)) := va_alen C.1 C.2.1 C.2.2.2.2.2.2.2.1 h.1 (sixP x0) 0 (at_f6 ho) rfl hv hdg kk
theorem yl_f6 {x0 : Nat} (ho : ok6 x0) {i : Int32} (C : MCx p s m args meth c A own cc nL rt D cs) (h : MH D (SW cs ad al P g) A s H locs) (hi : ib i 6 = true) (hdg : decode cc pc = .ok (.iaload, 1)) (kk : W p l e R s m args below meth c H locs cells slots Q (F0 m (pc + 1) ls (.int (g.2.1 x0 (ix i)) :: rest))) : W p l e R s m args below meth c H locs cells slots Q (F0 m pc ls (.int i :: .ref (ad x0) :: rest)) := va_iald C.1 C.2.1 C.2.2.2.2.2.2.2.1 h.1 (sixP x0) 0 (at_f6 ho) rfl (ib_in hi) hdg kk
theorem ys_f6 {x0 : Nat} (ho : ok6 x0) {i : Int32} {x : Int32} (C : MCx p s m args meth c A own cc nL rt D cs) (h : MH D (SW cs ad al P g) A s H locs) (hi : ib i 6 = true) (hdg : decode cc pc = .ok (.iastore, 1)) (kk : ∀ (H1 : Heap) (locs1 : List Loc), MH D (SW cs ad al P (tA g x0 (ix i) x)) A s H1 locs1 → W p l e R s m args below meth c H1 locs1 cells slots Q (F0 m (pc + 1) ls rest)) : W p l e R s m args below meth c H locs cells slots Q (F0 m pc ls (.int x :: .int i :: .ref (ad x0) :: rest)) := by
  obtain ⟨hx, hb, hml, hown, hts, hr, hlocks, hK, hA⟩ := C
  obtain ⟨hP, hD, hS⟩ := h
  have e : (SW cs ad al P g).set (sixP x0) (ad x0, .inl (cs 0, 6, .inl (upd (g.2.1 x0) (ix i) x))) = SW cs ad al P (tA g x0 (ix i) x) := by rcases ho with h | h | h | h | h | h <;> subst h <;> exact SW_set (by decide) rfl
  refine va_iast hx hb hK hP hD hS (sixP x0) 0 (at_f6 ho) rfl (ib_in hi) hdg (fun H1 l1 hP hD hS => kk H1 l1 ?_)
  rw [e] at hP hD
  exact ⟨hP, hD, hS⟩
theorem ya_w {w : Nat} (C : MCx p s m args meth c A own cc nL rt D cs) (h : MH D (SW cs ad al P g) A s H locs) (hw : inL P w = true) {v : Int32} (hv : nI (P.2.2 w).1 = v) (hdg : decode cc pc = .ok (.arraylength, 1)) (kk : W p l e R s m args below meth c H locs cells slots Q (F0 m (pc + 1) ls (.int v :: rest))) : W p l e R s m args below meth c H locs cells slots Q (F0 m pc ls (.ref (al w) :: rest)) := va_alen C.1 C.2.1 C.2.2.2.2.2.2.2.1 h.1 (47 + w) 0 (SW_law hw) rfl hv hdg kk
theorem yl_w {w : Nat} {i : Int32} (C : MCx p s m args meth c A own cc nL rt D cs) (h : MH D (SW cs ad al P g) A s H locs) (hw : inL P w = true) (hi : ib i (P.2.2 w).1 = true) (hdg : decode cc pc = .ok (.iaload, 1)) (kk : W p l e R s m args below meth c H locs cells slots Q (F0 m (pc + 1) ls (.int ((P.2.2 w).2 (ix i)) :: rest))) : W p l e R s m args below meth c H locs cells slots Q (F0 m pc ls (.int i :: .ref (al w) :: rest)) := va_iald C.1 C.2.1 C.2.2.2.2.2.2.2.1 h.1 (47 + w) 0 (SW_law hw) rfl (ib_in hi) hdg kk
theorem yr_2 {i : Int32} (C : MCx p s m args meth c A own cc nL rt D cs) (h : MH D (SW cs ad al P g) A s H locs) (hi : ib i 3 = true) (hdg : decode cc pc = .ok (.aaload, 1)) (kk : W p l e R s m args below meth c H locs cells slots Q (F0 m (pc + 1) ls (.ref (ad (32 + ix i)) :: rest))) : W p l e R s m args below meth c H locs cells slots Q (F0 m pc ls (.int i :: .ref (ad 2) :: rest)) := va_aldq C.1 C.2.1 C.2.2.2.2.2.2.2.1 h.1 2 4 (SW_fix rfl) rfl (ib_in hi) hdg kk
theorem yr_3 {i : Int32} (C : MCx p s m args meth c A own cc nL rt D cs) (h : MH D (SW cs ad al P g) A s H locs) (hi : ib i 4 = true) (hdg : decode cc pc = .ok (.aaload, 1)) (kk : W p l e R s m args below meth c H locs cells slots Q (F0 m (pc + 1) ls (.ref (ad (50 + ix i)) :: rest))) : W p l e R s m args below meth c H locs cells slots Q (F0 m pc ls (.int i :: .ref (ad 3) :: rest)) := va_aldq C.1 C.2.1 C.2.2.2.2.2.2.2.1 h.1 3 5 (SW_fix rfl) rfl (ib_in hi) hdg kk
def cpb (sp dp n : Int32) (k : Nat) : Bool := decide (¬ sp < 0 ∧ ¬ dp < 0 ∧ ¬ n < 0 ∧ sp.toNatClampNeg + n.toNatClampNeg ≤ k ∧ dp.toNatClampNeg + n.toNatClampNeg ≤ k)
theorem x_cpy {idx o1 o2 : Nat} {sp dp n : Int32} (h1 : okS o1) (h2 : okS o2) (C : MCx p s m args meth c A own cc nL rt D cs) (h : MH D (SW cs ad al P g) A s H locs) (hls : ls.size = nL) (hlink : Cond.methodLink own idx arraycopyName ∈ bT) (hq : cpb sp dp n 10 = true) (hfr : 1 ≤ R.frames) (hlo : (rest.map fun v => v.category).sum + (nativeFrameWords "java/lang/System" "arraycopy" 5 + 11) ≤ R.locals) (hdg : decode cc pc = .ok (.invokestatic idx, 3)) (kk : ∀ (H1 : Heap) (locs1 : List Loc), MH D (SW cs ad al P (tC g (o1 + 10) (o2 + 10) (ix sp) (ix dp) (ix n))) A s H1 locs1 → W p l e R s m args below meth c H1 locs1 cells slots Q (F0 m (pc + 3) ls rest)) : W p l e R s m args below meth c H locs cells slots Q (F0 m pc ls (.int n :: .int dp :: .ref (ad (o2 + 10)) :: .int sp :: .ref (ad (o1 + 10)) :: rest)) := by
  obtain ⟨hx, hb, hml, hown, hts, hr, hlocks, hK, hA⟩ := C
  obtain ⟨hP, hD, hS⟩ := h
  obtain ⟨q1, q2, q3, q4, q5⟩ := (of_decide_eq_true hq : ¬ sp < 0 ∧ ¬ dp < 0 ∧ ¬ n < 0 ∧ sp.toNatClampNeg + n.toNatClampNeg ≤ 10 ∧ dp.toNatClampNeg + n.toNatClampNeg ≤ 10)
  have e : (SW cs ad al P g).set (34 + (o2 - 30)) (ad (o2 + 10), .inl (cs 2, 10, .inr (.inl (va_cpy (g.2.2.1 (o1 + 10)) (g.2.2.1 (o2 + 10)) (ix sp) (ix dp) (ix n))))) = SW cs ad al P (tC g (o1 + 10) (o2 + 10) (ix sp) (ix dp) (ix n)) := by rcases h2 with h | h | h | h | h <;> subst h <;> exact SW_set (by decide) rfl
  refine va_copyl hx hb (hml.trans hls.symm) hown (hts _ hlink) (hts _ tb_19_1) (hts _ tb_19_2) (hts _ tb_19_3) hK hP hD hS (34 + (o1 - 30)) (34 + (o2 - 30)) 2 2 (at_past h1) (at_past h2) rfl rfl rfl q1 q2 q3 q4 q5 (fun i _ => rfl) hfr hlo hdg (fun H1 l1 hP hD hS => kk H1 l1 ?_)
  rw [e] at hP hD
  exact ⟨hP, hD, hS⟩
theorem m_callSW {Wd W' : va_W} {y : MethodName} {bc : ByteArray} {nc : Nat} {rc : Option FieldType} {rm : Room} {mc ms idx n : Nat} {st : List Value} {r : Option Value} (av : List Value) (C : MCx p s m args meth c A own cc nL rt D cs) (h : MH D Wd A s H locs)
    (cv : CalS own idx y bc nc rc n) (hM : GCon l D cs y bc nc rc rm mc ms av Wd r W') (hn : av.length = n) (hrm : rm.cells = mc ∧ rm.slots = ms) (hR : rm.frames + 1 ≤ R.frames ∧ 8 + (nc + 11) + rm.locals ≤ R.locals)
    (hls : ls.size = nL) (hst : st = av.reverse ++ rest) (hW : (rest.map fun v => v.category).sum ≤ 8) (hf : cells + mc ≤ R.cells ∧ slots + ms ≤ R.slots) (hdg : decode cc pc = .ok (.invokestatic idx, 3))
    (kk : ∀ (H1 : Heap) (locs1 : List Loc), MH D W' A s H1 locs1 → W p l e R s m args below meth c H1 locs1 (cells + mc) (slots + ms) Q (F0 m (pc + 3) ls (r.toList ++ rest))) : W p l e R s m args below meth c H locs cells slots Q (F0 m pc ls st) := by
  refine m_back (a := av.toArray) C h ?_ kk
  obtain ⟨hx, hb, hml, hown, hts, hrt, hlocks, hK, hA⟩ := C
  obtain ⟨hP, hD, hS⟩ := h
  exact va_runS (As := av) ⟨hx, hb, hml, hown, hts⟩ (hM H.size) (va_cwS n hts (bT_in cv.1) rfl hrm.1 hrm.2 cv.2 hR) ⟨m_fb, fun U hU hW => ⟨rfl, by rw [hU], by rw [hU]; exact hP, va_K.moved hW.alike hK, hD.weaken (fun _ _ _ _ => trivial)⟩⟩ rfl hn hls hst (lv_room hW) hdg hf
theorem m_callSWv {Wd W' : va_W} {y : MethodName} {bc : ByteArray} {nc : Nat} {rc : Option FieldType} {rm : Room} {idx n : Nat} {st : List Value} (av : List Value) (C : MCx p s m args meth c A own cc nL rt D cs) (h : MH D Wd A s H locs)
    (cv : CalS own idx y bc nc rc n) (hM : GCon l D cs y bc nc rc rm 0 0 av Wd none W') (hn : av.length = n) (hrm : rm.cells = 0 ∧ rm.slots = 0) (hR : rm.frames + 1 ≤ R.frames ∧ 8 + (nc + 11) + rm.locals ≤ R.locals)
    (hls : ls.size = nL) (hst : st = av.reverse ++ rest) (hW : (rest.map fun v => v.category).sum ≤ 8) (hf : cells ≤ R.cells ∧ slots ≤ R.slots) (hdg : decode cc pc = .ok (.invokestatic idx, 3))
    (kk : ∀ (H1 : Heap) (locs1 : List Loc), MH D W' A s H1 locs1 → W p l e R s m args below meth c H1 locs1 cells slots Q (F0 m (pc + 3) ls rest)) : W p l e R s m args below meth c H locs cells slots Q (F0 m pc ls st) := m_callSW av C h cv hM hn hrm hR hls hst hW hf hdg kk
theorem m_callVr {Wd W' : va_W} {y : MethodName} {bc : ByteArray} {nc : Nat} {rc : Option FieldType} {rm : Room} {idx b n q : Nat} {st : List Value} (av : List Value) (C : MCx p s m args meth c A own cc nL rt D cs) (h : MH D Wd A s H locs)
    (cv : CalV own idx y bc nc rc n) (hM : GCon l D cs y bc nc rc rm 0 0 (.ref b :: av) Wd (some (.ref q)) W') (hn : av.length = n) (hrm : rm.cells = 0 ∧ rm.slots = 0) (hR : rm.frames + 1 ≤ R.frames ∧ 8 + (nc + 11) + rm.locals ≤ R.locals)
    (hrecv : ∃ cell : Cell, H[b]? = some cell ∧ cell.vm.isStatics = false ∧ s.vm.findClass y.cls = some cell.cls) (hls : ls.size = nL) (hst : st = av.reverse ++ .ref b :: rest) (hW : (rest.map fun v => v.category).sum ≤ 8) (hf : cells ≤ R.cells ∧ slots ≤ R.slots) (hdg : decode cc pc = .ok (.invokevirtual idx, 3))
    (kk : ∀ (H1 : Heap) (locs1 : List Loc), MH D W' A s H1 locs1 → W p l e R s m args below meth c H1 locs1 cells slots Q (F0 m (pc + 3) ls (.ref q :: rest))) : W p l e R s m args below meth c H locs cells slots Q (F0 m pc ls st) := m_callV av C h cv hM hn hrm hR hrecv hls hst hW hf hdg kk
theorem m_aret {Wd : va_W} {q : Nat} {ty : FieldType} (C : MCx p s m args meth c A own cc nL (some ty) D cs) (h : MH D Wd A s H locs) (hv : (∃ n, ty = .object n) ∨ ∃ t, ty = .array t) (hdg : decode cc pc = .ok (.areturn, 1)) : W p l e R s m args below meth c H locs cells slots (MQ below (GPost D (some (.ref q)) Wd A) args s cells slots A) (F0 m pc ls [.ref q]) := by
  obtain ⟨hx, hb, hml, hown, hts, hr, hlocks, hK, hA⟩ := C
  obtain ⟨hP, hD, hS⟩ := h
  exact W.aret hx hb hr hv (Or.inr ⟨q, rfl⟩) (fun t ht hW => ⟨rfl, by rw [ht]; exact hP, hD, hS.F ht⟩) hS.2.2 hdg
end
theorem cs_X0_28 : CalS RX0 28 yJ7_fill_031fb cJ7_fill_031fb 4 none 2 := CalS.of tb_58_12 tb_58_13 tb_18_15 tb_58_14 (by decide +kernel)
theorem cv_X0_37 : CalV RX0 37 yX0_behindMinute cX0_behindMinute 6 (some .int) 1 := CalV.of tb_58_15 tb_58_16 tb_58_17 tb_2_23 tb_58_18 (by decide +kernel)
theorem cv_X0_48 : CalV RX0 48 yX0_settle cX0_settle 5 none 0 := CalV.of tb_60_8 tb_58_4 tb_58_5 tb_2_23 tb_58_6 (by decide +kernel)
theorem cv_X0_51 : CalV RX0 51 yX6_chairOf cX6_chairOf 8 (some .int) 1 := CalV.of tb_61_19 tb_31_1 tb_31_2 tb_2_2 tb_31_3 (by decide +kernel)
theorem cv_X0_54 : CalV RX0 54 yX6_votesIn cX6_votesIn 9 (some .long) 1 := CalV.of tb_58_20 tb_26_15 tb_26_16 tb_2_2 tb_26_17 (by decide +kernel)
theorem cv_X0_61 : CalV RX0 61 yX6_isStuck cX6_isStuck 2 (some .boolean) 1 := CalV.of tb_58_21 tb_26_22 tb_26_23 tb_2_2 tb_27_0 (by decide +kernel)
theorem cs_X0_65 : CalS RX0 65 yX1_at cX1_at 2 (some .int) 2 := CalS.of tb_58_22 tb_26_7 tb_4_22 tb_26_8 (by decide +kernel)
theorem cs_X0_71 : CalS RX0 71 yX1_votesAt cX1_votesAt 3 (some .int) 2 := CalS.of tb_58_23 tb_26_19 tb_4_22 tb_26_20 (by decide +kernel)
theorem cv_X0_75 : CalV RX0 75 yX0_paceOf cX0_paceOf 5 (some .int) 3 := CalV.of tb_59_0 tb_59_1 tb_59_2 tb_2_23 tb_59_3 (by decide +kernel)
theorem cs_X0_79 : CalS RX0 79 yX1_plus cX1_plus 5 (some .int) 3 := CalS.of tb_59_5 tb_34_20 tb_4_22 tb_34_21 (by decide +kernel)
theorem cv_X0_82 : CalV RX0 82 yX6_pace cX6_pace 4 (some .int) 3 := CalV.of tb_59_4 tb_33_13 tb_33_14 tb_2_2 tb_33_15 (by decide +kernel)
theorem cs_X1_13 : CalS RX1 13 yX1_at cX1_at 2 (some .int) 2 := CalS.of tb_57_13 tb_26_7 tb_4_22 tb_26_8 (by decide +kernel)
theorem cv_X10_32 : CalV RX10 32 yX10_reckonLaws cX10_reckonLaws 2 none 0 := CalV.of tb_45_17 tb_45_18 tb_45_19 tb_2_12 tb_45_20 (by decide +kernel)
theorem cs_X10_47 : CalS RX10 47 yX1_ofBits cX1_ofBits 3 (some .int) 1 := CalS.of tb_46_0 tb_4_21 tb_4_22 tb_4_23 (by decide +kernel)
theorem cs_X10_68 : CalS RX10 68 yX1_plus cX1_plus 5 (some .int) 3 := CalS.of tb_46_5 tb_34_20 tb_4_22 tb_34_21 (by decide +kernel)
theorem cv_X10_73 : CalV RX10 73 yX6_draggedBy cX6_draggedBy 7 (some .int) 1 := CalV.of tb_45_22 tb_32_6 tb_32_7 tb_2_2 tb_32_8 (by decide +kernel)
theorem cv_X10_76 : CalV RX10 76 yX6_price cX6_price 3 (some .int) 1 := CalV.of tb_45_23 tb_27_2 tb_27_3 tb_2_2 tb_27_4 (by decide +kernel)
theorem cv_X11_83 : CalV RX11 83 yX11_append cX11_append 3 none 1 := CalV.of tb_8_9 tb_8_10 tb_8_11 tb_1_2 tb_8_12 (by decide +kernel)
theorem cv_X11_113 : CalV RX11 113 yX11_needMember cX11_needMember 2 none 1 := CalV.of tb_25_20 tb_25_21 tb_25_22 tb_1_2 tb_25_23 (by decide +kernel)
theorem cs_X11_119 : CalS RX11 119 yX1_at cX1_at 2 (some .int) 2 := CalS.of tb_26_6 tb_26_7 tb_4_22 tb_26_8 (by decide +kernel)
theorem cv_X11_125 : CalV RX11 125 yX6_faced cX6_faced 3 (some .int) 1 := CalV.of tb_26_9 tb_26_10 tb_26_11 tb_2_2 tb_26_12 (by decide +kernel)
theorem cv_X11_132 : CalV RX11 132 yX6_votesIn cX6_votesIn 9 (some .long) 1 := CalV.of tb_26_14 tb_26_15 tb_26_16 tb_2_2 tb_26_17 (by decide +kernel)
theorem cs_X11_136 : CalS RX11 136 yX1_votesAt cX1_votesAt 3 (some .int) 2 := CalS.of tb_26_18 tb_26_19 tb_4_22 tb_26_20 (by decide +kernel)
theorem cv_X11_140 : CalV RX11 140 yX6_isStuck cX6_isStuck 2 (some .boolean) 1 := CalV.of tb_26_21 tb_26_22 tb_26_23 tb_2_2 tb_27_0 (by decide +kernel)
theorem cv_X11_144 : CalV RX11 144 yX6_price cX6_price 3 (some .int) 1 := CalV.of tb_27_1 tb_27_2 tb_27_3 tb_2_2 tb_27_4 (by decide +kernel)
theorem cv_X11_149 : CalV RX11 149 yX6_chairOf cX6_chairOf 8 (some .int) 1 := CalV.of tb_31_0 tb_31_1 tb_31_2 tb_2_2 tb_31_3 (by decide +kernel)
theorem cv_X11_152 : CalV RX11 152 yX6_turningWith cX6_turningWith 2 (some .int) 1 := CalV.of tb_32_0 tb_32_1 tb_32_2 tb_2_2 tb_32_3 (by decide +kernel)
theorem cv_X11_155 : CalV RX11 155 yX6_pace cX6_pace 4 (some .int) 3 := CalV.of tb_33_12 tb_33_13 tb_33_14 tb_2_2 tb_33_15 (by decide +kernel)
theorem cv_X11_159 : CalV RX11 159 yX6_turnBy cX6_turnBy 3 (some .int) 2 := CalV.of tb_34_8 tb_34_9 tb_34_10 tb_2_2 tb_34_11 (by decide +kernel)
theorem cv_X11_162 : CalV RX11 162 yX6_has cX6_has 2 (some .boolean) 1 := CalV.of tb_26_2 tb_26_3 tb_26_4 tb_2_2 tb_26_5 (by decide +kernel)
theorem cv_X11_165 : CalV RX11 165 yX6_giveWeight cX6_giveWeight 3 (some .int) 2 := CalV.of tb_35_20 tb_35_21 tb_35_22 tb_2_2 tb_35_23 (by decide +kernel)
theorem cv_X11_168 : CalV RX11 168 yX6_toggleStuck cX6_toggleStuck 2 (some .int) 1 := CalV.of tb_36_10 tb_36_11 tb_36_12 tb_2_2 tb_36_13 (by decide +kernel)
theorem cv_X11_173 : CalV RX11 173 yX6_remember cX6_remember 1 none 0 := CalV.of tb_37_1 tb_34_14 tb_34_15 tb_2_2 tb_34_16 (by decide +kernel)
theorem cv_X11_176 : CalV RX11 176 yX6_passMinute cX6_passMinute 5 none 0 := CalV.of tb_37_2 tb_37_3 tb_37_4 tb_2_2 tb_37_5 (by decide +kernel)
theorem cv_X11_184 : CalV RX11 184 yX6_takeBack cX6_takeBack 3 none 0 := CalV.of tb_38_5 tb_38_6 tb_38_7 tb_2_2 tb_38_8 (by decide +kernel)
theorem cv_X11_187 : CalV RX11 187 yX11_needTray cX11_needTray 3 (some (.object "SwivelBoard$Tray")) 1 := CalV.of tb_39_1 tb_39_2 tb_39_3 tb_1_2 tb_39_4 (by decide +kernel)
theorem cv_X11_193 : CalV RX11 193 yX6_become cX6_become 2 none 1 := CalV.of tb_39_7 tb_39_8 tb_39_9 tb_2_2 tb_39_10 (by decide +kernel)
theorem cv_X11_199 : CalV RX11 199 yX9_get cX9_get 2 (some .long) 1 := CalV.of tb_39_11 tb_39_12 tb_39_13 tb_2_9 tb_39_14 (by decide +kernel)
theorem cv_X11_202 : CalV RX11 202 yX6_enact cX6_enact 4 (some .int) 1 := CalV.of tb_39_15 tb_39_16 tb_39_17 tb_2_2 tb_39_18 (by decide +kernel)
theorem cs_X11_211 : CalS RX11 211 yX11_drawnFrom cX11_drawnFrom 1 (some .int) 1 := CalS.of tb_42_4 tb_42_5 tb_1_2 tb_42_6 (by decide +kernel)
theorem cv_X11_214 : CalV RX11 214 yX11_enactDrawn cX11_enactDrawn 4 (some .int) 3 := CalV.of tb_42_8 tb_42_9 tb_42_10 tb_1_2 tb_42_11 (by decide +kernel)
theorem cv_X11_217 : CalV RX11 217 yX11_needLook cX11_needLook 3 (some (.object "SwivelBoard$Tray")) 1 := CalV.of tb_43_14 tb_43_15 tb_43_16 tb_1_2 tb_43_17 (by decide +kernel)
theorem cv_X11_220 : CalV RX11 220 yX11_needPathQuestion cX11_needPathQuestion 2 none 1 := CalV.of tb_44_0 tb_44_1 tb_44_2 tb_1_2 tb_44_3 (by decide +kernel)
theorem cv_X11_226 : CalV RX11 226 yX9_maskOf cX9_maskOf 4 (some .int) 1 := CalV.of tb_44_4 tb_44_5 tb_44_6 tb_2_9 tb_44_7 (by decide +kernel)
theorem cv_X11_229 : CalV RX11 229 yX9_aimsOf cX9_aimsOf 4 (some .int) 1 := CalV.of tb_44_9 tb_44_10 tb_44_11 tb_2_9 tb_44_12 (by decide +kernel)
theorem cv_X11_232 : CalV RX11 232 yX7_tell cX7_tell 4 none 2 := CalV.of tb_44_13 tb_44_14 tb_44_15 tb_2_15 tb_44_16 (by decide +kernel)
theorem cv_X11_242 : CalV RX11 242 yX11_pathAnswer cX11_pathAnswer 5 (some .int) 3 := CalV.of tb_46_6 tb_46_7 tb_46_8 tb_1_2 tb_46_9 (by decide +kernel)
theorem cv_X11_248 : CalV RX11 248 yX7_seatAll cX7_seatAll 3 none 0 := CalV.of tb_50_22 tb_50_23 tb_51_0 tb_2_15 tb_51_1 (by decide +kernel)
theorem cv_X11_258 : CalV RX11 258 yX11_idle cX11_idle 1 (some .int) 0 := CalV.of tb_52_5 tb_52_6 tb_52_7 tb_1_2 tb_52_8 (by decide +kernel)
theorem cv_X11_262 : CalV RX11 262 yX7_manyTurns cX7_manyTurns 1 (some .int) 0 := CalV.of tb_52_10 tb_52_11 tb_52_12 tb_2_15 tb_52_13 (by decide +kernel)
theorem cv_X11_269 : CalV RX11 269 yX5_list cX5_list 6 none 2 := CalV.of tb_54_9 tb_54_10 tb_54_11 tb_2_19 tb_54_12 (by decide +kernel)
theorem cs_X11_286 : CalS RX11 286 yJ6_bitCount_0f7a4 cJ6_bitCount_0f7a4 1 (some .int) 1 := CalS.of tb_55_20 tb_51_15 tb_51_16 tb_51_17 (by decide +kernel)
theorem cv_X11_291 : CalV RX11 291 yX7_reaches cX7_reaches 4 (some .boolean) 2 := CalV.of tb_56_8 tb_56_9 tb_56_10 tb_2_15 tb_56_11 (by decide +kernel)
theorem cv_X11_295 : CalV RX11 295 yX7_pairAll cX7_pairAll 3 none 0 := CalV.of tb_57_2 tb_57_3 tb_57_4 tb_2_15 tb_57_5 (by decide +kernel)
theorem cv_X11_309 : CalV RX11 309 yX0_settle cX0_settle 5 none 0 := CalV.of tb_58_3 tb_58_4 tb_58_5 tb_2_23 tb_58_6 (by decide +kernel)
theorem cv_X11_319 : CalV RX11 319 yX11_needMinutes cX11_needMinutes 3 none 2 := CalV.of tb_60_0 tb_60_1 tb_60_2 tb_1_2 tb_60_3 (by decide +kernel)
theorem cv_X11_322 : CalV RX11 322 yX0_lookIn cX0_lookIn 5 (some .int) 1 := CalV.of tb_60_4 tb_60_5 tb_60_6 tb_2_23 tb_60_7 (by decide +kernel)
theorem cv_X11_325 : CalV RX11 325 yX0_reignOf cX0_reignOf 6 (some .int) 2 := CalV.of tb_61_15 tb_61_16 tb_61_17 tb_2_23 tb_61_18 (by decide +kernel)
theorem cv_X11_328 : CalV RX11 328 yX0_firstOf cX0_firstOf 4 (some .int) 1 := CalV.of tb_62_8 tb_62_9 tb_62_10 tb_2_23 tb_62_11 (by decide +kernel)
theorem cv_X11_331 : CalV RX11 331 yX11_listSeen cX11_listSeen 4 (some .int) 1 := CalV.of tb_62_23 tb_63_0 tb_63_1 tb_1_2 tb_63_2 (by decide +kernel)
theorem cv_X11_336 : CalV RX11 336 yX5_mostAlike cX5_mostAlike 5 (some .int) 1 := CalV.of tb_64_6 tb_64_7 tb_64_8 tb_2_19 tb_64_9 (by decide +kernel)
theorem cv_X11_339 : CalV RX11 339 yX11_needChances cX11_needChances 2 none 1 := CalV.of tb_65_6 tb_65_7 tb_65_8 tb_1_2 tb_65_9 (by decide +kernel)
theorem cv_X11_344 : CalV RX11 344 yX5_scatter cX5_scatter 3 none 1 := CalV.of tb_65_10 tb_65_11 tb_65_12 tb_2_19 tb_65_13 (by decide +kernel)
theorem cs_X11_353 : CalS RX11 353 yX11_commonMeasure cX11_commonMeasure 6 (some .int) 2 := CalS.of tb_65_19 tb_65_20 tb_1_2 tb_65_21 (by decide +kernel)
theorem cv_X11_363 : CalV RX11 363 yX9_clearTo cX9_clearTo 3 none 2 := CalV.of tb_67_12 tb_67_13 tb_67_14 tb_2_9 tb_67_15 (by decide +kernel)
theorem cv_X11_371 : CalV RX11 371 yX9_put cX9_put 6 (some .long) 2 := CalV.of tb_68_10 tb_68_11 tb_68_12 tb_2_9 tb_68_13 (by decide +kernel)
theorem cv_X11_380 : CalV RX11 380 yX11_needImage cX11_needImage 2 none 1 := CalV.of tb_69_22 tb_69_23 tb_70_0 tb_1_2 tb_70_1 (by decide +kernel)
theorem cv_X11_391 : CalV RX11 391 yX6_lookingOut cX6_lookingOut 3 (some .int) 0 := CalV.of tb_70_22 tb_70_23 tb_71_0 tb_2_2 tb_71_1 (by decide +kernel)
theorem cs_X11_394 : CalS RX11 394 yX1_kneesIn cX1_kneesIn 5 (some .int) 2 := CalS.of tb_71_2 tb_57_11 tb_4_22 tb_57_12 (by decide +kernel)
theorem cv_X11_397 : CalV RX11 397 yX6_weightsTogether cX6_weightsTogether 3 (some .int) 0 := CalV.of tb_71_3 tb_71_4 tb_71_5 tb_2_2 tb_71_6 (by decide +kernel)
theorem cv_X11_407 : CalV RX11 407 yX9_tellsLook cX9_tellsLook 3 (some .boolean) 1 := CalV.of tb_43_18 tb_43_19 tb_43_20 tb_2_9 tb_43_21 (by decide +kernel)
theorem cv_X2_47 : CalV RX2 47 yX2_unwind cX2_unwind 2 none 1 := CalV.of tb_17_19 tb_17_20 tb_17_21 tb_3_11 tb_17_22 (by decide +kernel)
theorem cv_X2_57 : CalV RX2 57 yX2_nameOf cX2_nameOf 2 (some .int) 1 := CalV.of tb_16_14 tb_16_15 tb_16_16 tb_3_11 tb_16_17 (by decide +kernel)
theorem cv_X2_69 : CalV RX2 69 yX2_emit cX2_emit 2 none 1 := CalV.of tb_16_19 tb_16_20 tb_16_21 tb_3_11 tb_16_22 (by decide +kernel)
theorem cv_X2_74 : CalV RX2 74 yX8_isWord cX8_isWord 3 (some .boolean) 1 := CalV.of tb_16_18 tb_11_12 tb_11_13 tb_3_7 tb_11_14 (by decide +kernel)
theorem cv_X2_80 : CalV RX2 80 yX2_open cX2_open 2 (some .int) 1 := CalV.of tb_16_23 tb_17_0 tb_17_1 tb_3_11 tb_17_2 (by decide +kernel)
theorem cv_X2_84 : CalV RX2 84 yX8_isSignOf cX8_isSignOf 2 (some .boolean) 1 := CalV.of tb_17_7 tb_14_13 tb_14_14 tb_3_7 tb_14_15 (by decide +kernel)
theorem cv_X2_88 : CalV RX2 88 yX2_push cX2_push 2 none 1 := CalV.of tb_17_3 tb_17_4 tb_17_5 tb_3_11 tb_17_6 (by decide +kernel)
theorem cv_X2_95 : CalV RX2 95 yX2_link cX2_link 2 none 1 := CalV.of tb_17_12 tb_17_13 tb_17_14 tb_3_11 tb_17_15 (by decide +kernel)
theorem cv_X2_98 : CalV RX2 98 yX2_close cX2_close 1 none 0 := CalV.of tb_17_23 tb_18_0 tb_18_1 tb_3_11 tb_18_2 (by decide +kernel)
theorem cs_X2_101 : CalS RX2 101 yX2_linkOf cX2_linkOf 1 (some .int) 1 := CalS.of tb_18_3 tb_18_4 tb_3_11 tb_18_5 (by decide +kernel)
theorem cs_X2_104 : CalS RX2 104 yX2_isComparison cX2_isComparison 1 (some .boolean) 1 := CalS.of tb_18_6 tb_18_7 tb_3_11 tb_18_8 (by decide +kernel)
theorem cs_X2_108 : CalS RX2 108 yX2_bondOf cX2_bondOf 1 (some .int) 1 := CalS.of tb_17_16 tb_17_17 tb_3_11 tb_17_18 (by decide +kernel)
theorem cv_X3_71 : CalV RX3 71 yX8_isWord cX8_isWord 3 (some .boolean) 1 := CalV.of tb_11_11 tb_11_12 tb_11_13 tb_3_7 tb_11_14 (by decide +kernel)
theorem cv_X3_75 : CalV RX3 75 yX3_refuse cX3_refuse 2 none 1 := CalV.of tb_13_16 tb_13_17 tb_13_18 tb_1_19 tb_13_19 (by decide +kernel)
theorem cv_X3_78 : CalV RX3 78 yX8_step cX8_step 1 none 0 := CalV.of tb_13_21 tb_10_7 tb_10_8 tb_3_7 tb_10_9 (by decide +kernel)
theorem cv_X3_81 : CalV RX3 81 yX3_takeNumber cX3_takeNumber 4 (some .int) 2 := CalV.of tb_13_22 tb_13_23 tb_14_0 tb_1_19 tb_14_1 (by decide +kernel)
theorem cs_X3_88 : CalS RX3 88 yX1_ofBits cX1_ofBits 3 (some .int) 1 := CalS.of tb_14_3 tb_4_21 tb_4_22 tb_4_23 (by decide +kernel)
theorem cv_X3_97 : CalV RX3 97 yX3_endLine cX3_endLine 1 none 0 := CalV.of tb_14_4 tb_14_5 tb_14_6 tb_1_19 tb_14_7 (by decide +kernel)
theorem cv_X3_112 : CalV RX3 112 yX3_readFlag cX3_readFlag 2 none 1 := CalV.of tb_15_0 tb_15_1 tb_15_2 tb_1_19 tb_15_3 (by decide +kernel)
theorem cs_X3_117 : CalS RX3 117 yX1_with cX1_with 4 (some .int) 3 := CalS.of tb_15_4 tb_15_5 tb_4_22 tb_15_6 (by decide +kernel)
theorem cv_X3_124 : CalV RX3 124 yX3_takeSign cX3_takeSign 2 none 1 := CalV.of tb_14_8 tb_14_9 tb_14_10 tb_1_19 tb_14_11 (by decide +kernel)
theorem cv_X3_148 : CalV RX3 148 yX2_isWhole cX2_isWhole 1 (some .boolean) 0 := CalV.of tb_16_4 tb_16_5 tb_16_6 tb_3_11 tb_16_7 (by decide +kernel)
theorem cv_X3_151 : CalV RX3 151 yX8_isSignOf cX8_isSignOf 2 (some .boolean) 1 := CalV.of tb_14_12 tb_14_13 tb_14_14 tb_3_7 tb_14_15 (by decide +kernel)
theorem cv_X4_17 : CalV RX4 17 yX4_push cX4_push 2 none 1 := CalV.of tb_27_14 tb_27_15 tb_27_16 tb_1_23 tb_27_17 (by decide +kernel)
theorem cv_X4_21 : CalV RX4 21 yX4_pop cX4_pop 1 (some .int) 0 := CalV.of tb_27_18 tb_27_19 tb_27_20 tb_1_23 tb_27_21 (by decide +kernel)
theorem cs_X4_25 : CalS RX4 25 yX4_join cX4_join 3 (some .long) 3 := CalS.of tb_27_22 tb_27_23 tb_1_23 tb_28_0 (by decide +kernel)
theorem cs_X4_29 : CalS RX4 29 yX4_bounded cX4_bounded 2 (some .int) 1 := CalS.of tb_28_1 tb_28_2 tb_1_23 tb_28_3 (by decide +kernel)
theorem cv_X5_41 : CalV RX5 41 yX10_begin cX10_begin 3 none 1 := CalV.of tb_54_18 tb_45_5 tb_45_6 tb_2_12 tb_45_7 (by decide +kernel)
theorem cv_X5_56 : CalV RX5 56 yX10_pullAt cX10_pullAt 2 (some .int) 1 := CalV.of tb_54_19 tb_54_20 tb_54_21 tb_2_12 tb_54_22 (by decide +kernel)
theorem cs_X5_60 : CalS RX5 60 yX1_plus cX1_plus 5 (some .int) 3 := CalS.of tb_54_23 tb_34_20 tb_4_22 tb_34_21 (by decide +kernel)
theorem cv_X5_66 : CalV RX5 66 yX10_freeAt cX10_freeAt 2 (some .int) 1 := CalV.of tb_55_0 tb_55_1 tb_55_2 tb_2_12 tb_55_3 (by decide +kernel)
theorem cs_X5_69 : CalS RX5 69 yJ7_fill_53178 cJ7_fill_53178 4 none 2 := CalS.of tb_64_11 tb_51_3 tb_18_15 tb_51_4 (by decide +kernel)
theorem cs_X5_75 : CalS RX5 75 yX1_at cX1_at 2 (some .int) 2 := CalS.of tb_64_12 tb_26_7 tb_4_22 tb_26_8 (by decide +kernel)
theorem cs_X5_87 : CalS RX5 87 yX5_share cX5_share 8 none 5 := CalS.of tb_65_15 tb_65_16 tb_2_19 tb_65_17 (by decide +kernel)
theorem cv_X5_91 : CalV RX5 91 yX6_chairOf cX6_chairOf 8 (some .int) 1 := CalV.of tb_65_18 tb_31_1 tb_31_2 tb_2_2 tb_31_3 (by decide +kernel)
theorem cs_X6_19 : CalS RX6 19 yX1_ofBits cX1_ofBits 3 (some .int) 1 := CalS.of tb_4_20 tb_4_21 tb_4_22 tb_4_23 (by decide +kernel)
theorem cs_X6_79 : CalS RX6 79 yX1_at cX1_at 2 (some .int) 2 := CalS.of tb_26_13 tb_26_7 tb_4_22 tb_26_8 (by decide +kernel)
theorem cv_X6_83 : CalV RX6 83 yX6_votesIn cX6_votesIn 9 (some .long) 1 := CalV.of tb_31_4 tb_26_15 tb_26_16 tb_2_2 tb_26_17 (by decide +kernel)
theorem cv_X6_87 : CalV RX6 87 yX4_reckon cX4_reckon 9 (some .int) 5 := CalV.of tb_27_9 tb_27_10 tb_27_11 tb_1_23 tb_27_12 (by decide +kernel)
theorem cv_X6_104 : CalV RX6 104 yX6_isStuck cX6_isStuck 2 (some .boolean) 1 := CalV.of tb_32_4 tb_26_22 tb_26_23 tb_2_2 tb_27_0 (by decide +kernel)
theorem cv_X6_108 : CalV RX6 108 yX6_draggedBy cX6_draggedBy 7 (some .int) 1 := CalV.of tb_32_5 tb_32_6 tb_32_7 tb_2_2 tb_32_8 (by decide +kernel)
theorem cs_X6_114 : CalS RX6 114 yX1_votesAt cX1_votesAt 3 (some .int) 2 := CalS.of tb_37_6 tb_26_19 tb_4_22 tb_26_20 (by decide +kernel)
theorem cv_X6_118 : CalV RX6 118 yX6_pace cX6_pace 4 (some .int) 3 := CalV.of tb_37_7 tb_33_13 tb_33_14 tb_2_2 tb_33_15 (by decide +kernel)
theorem cs_X6_122 : CalS RX6 122 yX1_plus cX1_plus 5 (some .int) 3 := CalS.of tb_34_19 tb_34_20 tb_4_22 tb_34_21 (by decide +kernel)
theorem cv_X6_126 : CalV RX6 126 yX6_has cX6_has 2 (some .boolean) 1 := CalV.of tb_34_12 tb_26_3 tb_26_4 tb_2_2 tb_26_5 (by decide +kernel)
theorem cv_X6_129 : CalV RX6 129 yX6_remember cX6_remember 1 none 0 := CalV.of tb_34_13 tb_34_14 tb_34_15 tb_2_2 tb_34_16 (by decide +kernel)
theorem cv_X6_132 : CalV RX6 132 yX6_turningWith cX6_turningWith 2 (some .int) 1 := CalV.of tb_34_18 tb_32_1 tb_32_2 tb_2_2 tb_32_3 (by decide +kernel)
theorem cs_X6_135 : CalS RX6 135 yX1_with cX1_with 4 (some .int) 3 := CalS.of tb_36_0 tb_15_5 tb_4_22 tb_15_6 (by decide +kernel)
theorem cv_X6_142 : CalV RX6 142 yX6_passMinute cX6_passMinute 5 none 0 := CalV.of tb_39_21 tb_37_3 tb_37_4 tb_2_2 tb_37_5 (by decide +kernel)
theorem cv_X6_145 : CalV RX6 145 yX6_turnBy cX6_turnBy 3 (some .int) 2 := CalV.of tb_39_22 tb_34_9 tb_34_10 tb_2_2 tb_34_11 (by decide +kernel)
theorem cv_X6_148 : CalV RX6 148 yX6_giveWeight cX6_giveWeight 3 (some .int) 2 := CalV.of tb_39_23 tb_35_21 tb_35_22 tb_2_2 tb_35_23 (by decide +kernel)
theorem cv_X6_151 : CalV RX6 151 yX6_toggleStuck cX6_toggleStuck 2 (some .int) 1 := CalV.of tb_40_0 tb_36_11 tb_36_12 tb_2_2 tb_36_13 (by decide +kernel)
theorem cv_X7_47 : CalV RX7 47 yX10_begin cX10_begin 3 none 1 := CalV.of tb_45_4 tb_45_5 tb_45_6 tb_2_12 tb_45_7 (by decide +kernel)
theorem cv_X7_83 : CalV RX7 83 yX10_advance cX10_advance 5 none 0 := CalV.of tb_46_1 tb_46_2 tb_46_3 tb_2_12 tb_46_4 (by decide +kernel)
theorem cs_X7_86 : CalS RX7 86 yJ7_fill_53178 cJ7_fill_53178 4 none 2 := CalS.of tb_51_2 tb_51_3 tb_18_15 tb_51_4 (by decide +kernel)
theorem cv_X7_92 : CalV RX7 92 yX6_chairOf cX6_chairOf 8 (some .int) 1 := CalV.of tb_51_5 tb_31_1 tb_31_2 tb_2_2 tb_31_3 (by decide +kernel)
theorem cv_X7_96 : CalV RX7 96 yX7_seat cX7_seat 2 none 1 := CalV.of tb_51_6 tb_51_7 tb_51_8 tb_2_15 tb_51_9 (by decide +kernel)
theorem cs_X7_102 : CalS RX7 102 yX7_isLess cX7_isLess 3 (some .boolean) 2 := CalS.of tb_51_11 tb_51_12 tb_2_15 tb_51_13 (by decide +kernel)
theorem cs_X7_106 : CalS RX7 106 yJ6_bitCount_0f7a4 cJ6_bitCount_0f7a4 1 (some .int) 1 := CalS.of tb_51_14 tb_51_15 tb_51_16 tb_51_17 (by decide +kernel)
theorem cs_X7_117 : CalS RX7 117 yX1_kneesIn cX1_kneesIn 5 (some .int) 2 := CalS.of tb_57_10 tb_57_11 tb_4_22 tb_57_12 (by decide +kernel)
theorem cv_X8_28 : CalV RX8 28 yX8_step cX8_step 1 none 0 := CalV.of tb_10_6 tb_10_7 tb_10_8 tb_3_7 tb_10_9 (by decide +kernel)
theorem cv_X8_31 : CalV RX8 31 yX8_signAt cX8_signAt 2 (some .int) 1 := CalV.of tb_10_13 tb_10_14 tb_10_15 tb_3_7 tb_10_16 (by decide +kernel)
theorem cs_X8_35 : CalS RX8 35 yX8_isBlank cX8_isBlank 1 (some .boolean) 1 := CalS.of tb_10_17 tb_10_18 tb_3_7 tb_10_19 (by decide +kernel)
theorem cs_X8_48 : CalS RX8 48 yX8_isLetter cX8_isLetter 1 (some .boolean) 1 := CalS.of tb_10_20 tb_10_21 tb_3_7 tb_10_22 (by decide +kernel)
theorem cs_X8_51 : CalS RX8 51 yX8_isDigit cX8_isDigit 1 (some .boolean) 1 := CalS.of tb_10_23 tb_11_0 tb_3_7 tb_11_1 (by decide +kernel)
theorem cs_X8_54 : CalS RX8 54 yX8_isSign cX8_isSign 1 (some .boolean) 1 := CalS.of tb_11_2 tb_11_3 tb_3_7 tb_11_4 (by decide +kernel)
theorem cs_X9_22 : CalS RX9 22 yJ7_fill_d0a16 cJ7_fill_d0a16 5 none 2 := CalS.of tb_67_17 tb_67_18 tb_18_15 tb_67_19 (by decide +kernel)
theorem cv_X9_28 : CalV RX9 28 yX9_cut cX9_cut 3 (some .long) 1 := CalV.of tb_68_14 tb_68_15 tb_68_16 tb_2_9 tb_68_17 (by decide +kernel)
theorem cv_X9_32 : CalV RX9 32 yX9_get cX9_get 2 (some .long) 1 := CalV.of tb_43_23 tb_39_12 tb_39_13 tb_2_9 tb_39_14 (by decide +kernel)
theorem cs_X9_38 : CalS RX9 38 yX1_with cX1_with 4 (some .int) 3 := CalS.of tb_44_8 tb_15_5 tb_4_22 tb_15_6 (by decide +kernel)
def bndx {ρ τ σ : Type} (f : Option ((Nat ⊕ ρ) × σ)) (k : ρ → σ → Option ((Nat ⊕ τ) × σ)) : Option ((Nat ⊕ τ) × σ) := match f with
  | none => none
  | some (Sum.inl x, s) => some (Sum.inl x, s)
  | some (Sum.inr r, s) => k r s
theorem bndx_r {ρ τ σ : Type} {f : Option ((Nat ⊕ ρ) × σ)} {k : ρ → σ → Option ((Nat ⊕ τ) × σ)} {x : τ} {s' : σ} (h : bndx f k = some (Sum.inr x, s')) : ∃ r s, f = some (Sum.inr r, s) ∧ k r s = some (Sum.inr x, s') := by
  match f, h with
  | some (Sum.inr r, s), h => exact ⟨r, s, rfl, h⟩
  | some (Sum.inl y, s), h => exact absurd h (by simp [bndx])
  | none, h => exact absurd h (by simp [bndx])
theorem bndx_at {ρ τ σ : Type} {f : Option ((Nat ⊕ ρ) × σ)} {k : ρ → σ → Option ((Nat ⊕ τ) × σ)} {r : ρ} {s : σ} (h : f = some (Sum.inr r, s)) : bndx f k = k r s := by subst h; rfl
theorem bndx_l {ρ τ σ : Type} {f : Option ((Nat ⊕ ρ) × σ)} {k : ρ → σ → Option ((Nat ⊕ τ) × σ)} {x : Nat} {s : σ} (h : f = some (Sum.inl x, s)) : bndx f k = some (Sum.inl x, s) := by subst h; rfl
theorem xr_inj {α β : Type} {a c : α} {b d : β} (h : some ((Sum.inr a : Nat ⊕ α), b) = some (Sum.inr c, d)) : a = c ∧ b = d := by
  have h1 := Option.some.inj h
  exact ⟨Sum.inr.inj (congrArg Prod.fst h1), congrArg Prod.snd h1⟩
theorem xl_r {α β : Type} {a : Nat} {c : α} {b d : β} (h : some ((Sum.inl a : Nat ⊕ α), b) = some (Sum.inr c, d)) : False := by
  have h1 := congrArg Prod.fst (Option.some.inj h)
  cases h1
theorem i32v_m2 : (-2 : Int32).toInt = -2 := by decide
theorem i32v_m3 : (-3 : Int32).toInt = -3 := by decide
theorem i32v_m4 : (-4 : Int32).toInt = -4 := by decide
theorem i32v_m5 : (-5 : Int32).toInt = -5 := by decide
theorem i32v_m6 : (-6 : Int32).toInt = -6 := by decide
theorem i32v_m7 : (-7 : Int32).toInt = -7 := by decide
theorem i32v_m8 : (-8 : Int32).toInt = -8 := by decide
theorem i32v_m9 : (-9 : Int32).toInt = -9 := by decide
theorem i32v_m10 : (-10 : Int32).toInt = -10 := by decide
theorem i32v_m11 : (-11 : Int32).toInt = -11 := by decide
theorem i32v_m12 : (-12 : Int32).toInt = -12 := by decide
theorem i32v_m13 : (-13 : Int32).toInt = -13 := by decide
theorem i32v_m14 : (-14 : Int32).toInt = -14 := by decide
theorem i32v_m15 : (-15 : Int32).toInt = -15 := by decide
theorem i32v_64 : (64 : Int32).toInt = 64 := by decide
theorem i32v_65 : (65 : Int32).toInt = 65 := by decide
theorem i32v_66 : (66 : Int32).toInt = 66 := by decide
theorem i32v_67 : (67 : Int32).toInt = 67 := by decide
theorem i32v_68 : (68 : Int32).toInt = 68 := by decide
theorem i32v_69 : (69 : Int32).toInt = 69 := by decide
theorem i32v_70 : (70 : Int32).toInt = 70 := by decide
theorem i32v_71 : (71 : Int32).toInt = 71 := by decide
theorem i32v_72 : (72 : Int32).toInt = 72 := by decide
theorem i32v_73 : (73 : Int32).toInt = 73 := by decide
theorem i32v_74 : (74 : Int32).toInt = 74 := by decide
theorem i32v_75 : (75 : Int32).toInt = 75 := by decide
theorem i32v_76 : (76 : Int32).toInt = 76 := by decide
theorem i32v_77 : (77 : Int32).toInt = 77 := by decide
theorem i32v_78 : (78 : Int32).toInt = 78 := by decide
theorem i32v_79 : (79 : Int32).toInt = 79 := by decide
theorem i32v_80 : (80 : Int32).toInt = 80 := by decide
theorem i32v_81 : (81 : Int32).toInt = 81 := by decide
theorem i32v_82 : (82 : Int32).toInt = 82 := by decide
theorem i32v_83 : (83 : Int32).toInt = 83 := by decide
theorem i32v_84 : (84 : Int32).toInt = 84 := by decide
theorem i32v_85 : (85 : Int32).toInt = 85 := by decide
theorem i32v_86 : (86 : Int32).toInt = 86 := by decide
theorem i32v_87 : (87 : Int32).toInt = 87 := by decide
theorem i32v_88 : (88 : Int32).toInt = 88 := by decide
theorem i32v_89 : (89 : Int32).toInt = 89 := by decide
theorem i32v_90 : (90 : Int32).toInt = 90 := by decide
theorem i32v_91 : (91 : Int32).toInt = 91 := by decide
theorem i32v_92 : (92 : Int32).toInt = 92 := by decide
theorem i32v_93 : (93 : Int32).toInt = 93 := by decide
theorem i32v_94 : (94 : Int32).toInt = 94 := by decide
theorem i32v_95 : (95 : Int32).toInt = 95 := by decide
theorem i32v_96 : (96 : Int32).toInt = 96 := by decide
theorem i32v_97 : (97 : Int32).toInt = 97 := by decide
theorem i32v_98 : (98 : Int32).toInt = 98 := by decide
theorem i32v_99 : (99 : Int32).toInt = 99 := by decide
theorem i32v_100 : (100 : Int32).toInt = 100 := by decide
theorem i32v_101 : (101 : Int32).toInt = 101 := by decide
theorem i32v_102 : (102 : Int32).toInt = 102 := by decide
theorem i32v_103 : (103 : Int32).toInt = 103 := by decide
theorem i32v_104 : (104 : Int32).toInt = 104 := by decide
theorem i32v_105 : (105 : Int32).toInt = 105 := by decide
theorem i32v_106 : (106 : Int32).toInt = 106 := by decide
theorem i32v_107 : (107 : Int32).toInt = 107 := by decide
theorem i32v_108 : (108 : Int32).toInt = 108 := by decide
theorem i32v_109 : (109 : Int32).toInt = 109 := by decide
theorem i32v_110 : (110 : Int32).toInt = 110 := by decide
theorem i32v_111 : (111 : Int32).toInt = 111 := by decide
theorem i32v_112 : (112 : Int32).toInt = 112 := by decide
theorem i32v_113 : (113 : Int32).toInt = 113 := by decide
theorem i32v_114 : (114 : Int32).toInt = 114 := by decide
theorem i32v_115 : (115 : Int32).toInt = 115 := by decide
theorem i32v_116 : (116 : Int32).toInt = 116 := by decide
theorem i32v_117 : (117 : Int32).toInt = 117 := by decide
theorem i32v_118 : (118 : Int32).toInt = 118 := by decide
theorem i32v_119 : (119 : Int32).toInt = 119 := by decide
theorem i32v_120 : (120 : Int32).toInt = 120 := by decide
theorem i32v_121 : (121 : Int32).toInt = 121 := by decide
theorem i32v_122 : (122 : Int32).toInt = 122 := by decide
theorem i32v_123 : (123 : Int32).toInt = 123 := by decide
theorem i32v_124 : (124 : Int32).toInt = 124 := by decide
theorem i32v_125 : (125 : Int32).toInt = 125 := by decide
theorem i32v_126 : (126 : Int32).toInt = 126 := by decide
theorem i32v_127 : (127 : Int32).toInt = 127 := by decide
