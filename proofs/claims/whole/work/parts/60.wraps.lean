theorem tb_25_13 : Cond.classLink RL 19 "java/util/NoSuchElementException" ∈ bT := List.mem_append_left _ (in_r25 _ (List.mem_of_getElem? (i := 13) rfl))
theorem tb_8_23 : Cond.classLink RL 13 "java/lang/IllegalArgumentException" ∈ bT := List.mem_append_left _ (in_r8 _ (List.mem_of_getElem? (i := 23) rfl))
theorem tb_38_18 : Cond.classLink RL 36 "java/lang/IllegalStateException" ∈ bT := List.mem_append_left _ (in_r38 _ (List.mem_of_getElem? (i := 18) rfl))
theorem tb_68_3 : Cond.classLink RL 107 "java/lang/IndexOutOfBoundsException" ∈ bT := List.mem_append_left _ (in_r68 _ (List.mem_of_getElem? (i := 3) rfl))
theorem tb_25_14 : Cond.methodLink RL 15 yX11_member ∈ bT := List.mem_append_left _ (in_r25 _ (List.mem_of_getElem? (i := 14) rfl))
theorem tb_25_17 : Cond.code yX11_member cX11_member 3 (some .int) ∈ bT := List.mem_append_left _ (in_r25 _ (List.mem_of_getElem? (i := 17) rfl))
theorem tb_25_15 : Cond.instanceMethod yX11_member ∈ bT := List.mem_append_left _ (in_r25 _ (List.mem_of_getElem? (i := 15) rfl))
theorem tb_25_16 : Cond.selects RX11 yX11_member yX11_member ∈ bT := List.mem_append_left _ (in_r25 _ (List.mem_of_getElem? (i := 16) rfl))
theorem tb_31_20 : Cond.methodLink RL 21 yX11_drags ∈ bT := List.mem_append_left _ (in_r31 _ (List.mem_of_getElem? (i := 20) rfl))
theorem tb_31_23 : Cond.code yX11_drags cX11_drags 2 (some .int) ∈ bT := List.mem_append_left _ (in_r31 _ (List.mem_of_getElem? (i := 23) rfl))
theorem tb_31_21 : Cond.instanceMethod yX11_drags ∈ bT := List.mem_append_left _ (in_r31 _ (List.mem_of_getElem? (i := 21) rfl))
theorem tb_31_22 : Cond.selects RX11 yX11_drags yX11_drags ∈ bT := List.mem_append_left _ (in_r31 _ (List.mem_of_getElem? (i := 22) rfl))
theorem tb_33_8 : Cond.methodLink RL 24 yX11_goes ∈ bT := List.mem_append_left _ (in_r33 _ (List.mem_of_getElem? (i := 8) rfl))
theorem tb_33_11 : Cond.code yX11_goes cX11_goes 3 (some .int) ∈ bT := List.mem_append_left _ (in_r33 _ (List.mem_of_getElem? (i := 11) rfl))
theorem tb_33_9 : Cond.instanceMethod yX11_goes ∈ bT := List.mem_append_left _ (in_r33 _ (List.mem_of_getElem? (i := 9) rfl))
theorem tb_33_10 : Cond.selects RX11 yX11_goes yX11_goes ∈ bT := List.mem_append_left _ (in_r33 _ (List.mem_of_getElem? (i := 10) rfl))
theorem tb_36_21 : Cond.methodLink RL 27 yX11_minutes ∈ bT := List.mem_append_left _ (in_r36 _ (List.mem_of_getElem? (i := 21) rfl))
theorem tb_37_0 : Cond.code yX11_minutes cX11_minutes 6 (some .int) ∈ bT := List.mem_append_left _ (in_r37 _ (List.mem_of_getElem? (i := 0) rfl))
theorem tb_36_22 : Cond.instanceMethod yX11_minutes ∈ bT := List.mem_append_left _ (in_r36 _ (List.mem_of_getElem? (i := 22) rfl))
theorem tb_36_23 : Cond.selects RX11 yX11_minutes yX11_minutes ∈ bT := List.mem_append_left _ (in_r36 _ (List.mem_of_getElem? (i := 23) rfl))
theorem tb_38_0 : Cond.methodLink RL 30 yX11_undo ∈ bT := List.mem_append_left _ (in_r38 _ (List.mem_of_getElem? (i := 0) rfl))
theorem tb_38_3 : Cond.code yX11_undo cX11_undo 3 (some .int) ∈ bT := List.mem_append_left _ (in_r38 _ (List.mem_of_getElem? (i := 3) rfl))
theorem tb_38_1 : Cond.instanceMethod yX11_undo ∈ bT := List.mem_append_left _ (in_r38 _ (List.mem_of_getElem? (i := 1) rfl))
theorem tb_38_2 : Cond.selects RX11 yX11_undo yX11_undo ∈ bT := List.mem_append_left _ (in_r38 _ (List.mem_of_getElem? (i := 2) rfl))
theorem tb_38_19 : Cond.methodLink RL 33 yX11_judge ∈ bT := List.mem_append_left _ (in_r38 _ (List.mem_of_getElem? (i := 19) rfl))
theorem tb_38_22 : Cond.code yX11_judge cX11_judge 7 (some .int) ∈ bT := List.mem_append_left _ (in_r38 _ (List.mem_of_getElem? (i := 22) rfl))
theorem tb_38_20 : Cond.instanceMethod yX11_judge ∈ bT := List.mem_append_left _ (in_r38 _ (List.mem_of_getElem? (i := 20) rfl))
theorem tb_38_21 : Cond.selects RX11 yX11_judge yX11_judge ∈ bT := List.mem_append_left _ (in_r38 _ (List.mem_of_getElem? (i := 21) rfl))
theorem tb_41_13 : Cond.methodLink RL 38 yX11_perform ∈ bT := List.mem_append_left _ (in_r41 _ (List.mem_of_getElem? (i := 13) rfl))
theorem tb_41_16 : Cond.code yX11_perform cX11_perform 4 (some .int) ∈ bT := List.mem_append_left _ (in_r41 _ (List.mem_of_getElem? (i := 16) rfl))
theorem tb_41_14 : Cond.instanceMethod yX11_perform ∈ bT := List.mem_append_left _ (in_r41 _ (List.mem_of_getElem? (i := 14) rfl))
theorem tb_41_15 : Cond.selects RX11 yX11_perform yX11_perform ∈ bT := List.mem_append_left _ (in_r41 _ (List.mem_of_getElem? (i := 15) rfl))
theorem tb_42_0 : Cond.methodLink RL 41 yX11_session ∈ bT := List.mem_append_left _ (in_r42 _ (List.mem_of_getElem? (i := 0) rfl))
theorem tb_42_3 : Cond.code yX11_session cX11_session 9 (some .int) ∈ bT := List.mem_append_left _ (in_r42 _ (List.mem_of_getElem? (i := 3) rfl))
theorem tb_42_1 : Cond.instanceMethod yX11_session ∈ bT := List.mem_append_left _ (in_r42 _ (List.mem_of_getElem? (i := 1) rfl))
theorem tb_42_2 : Cond.selects RX11 yX11_session yX11_session ∈ bT := List.mem_append_left _ (in_r42 _ (List.mem_of_getElem? (i := 2) rfl))
theorem tb_43_7 : Cond.methodLink RL 44 yX11_cheapest ∈ bT := List.mem_append_left _ (in_r43 _ (List.mem_of_getElem? (i := 7) rfl))
theorem tb_43_10 : Cond.code yX11_cheapest cX11_cheapest 4 (some .int) ∈ bT := List.mem_append_left _ (in_r43 _ (List.mem_of_getElem? (i := 10) rfl))
theorem tb_43_8 : Cond.instanceMethod yX11_cheapest ∈ bT := List.mem_append_left _ (in_r43 _ (List.mem_of_getElem? (i := 8) rfl))
theorem tb_43_9 : Cond.selects RX11 yX11_cheapest yX11_cheapest ∈ bT := List.mem_append_left _ (in_r43 _ (List.mem_of_getElem? (i := 9) rfl))
theorem tb_50_4 : Cond.methodLink RL 47 yX11_ways ∈ bT := List.mem_append_left _ (in_r50 _ (List.mem_of_getElem? (i := 4) rfl))
theorem tb_50_7 : Cond.code yX11_ways cX11_ways 3 (some .int) ∈ bT := List.mem_append_left _ (in_r50 _ (List.mem_of_getElem? (i := 7) rfl))
theorem tb_50_5 : Cond.instanceMethod yX11_ways ∈ bT := List.mem_append_left _ (in_r50 _ (List.mem_of_getElem? (i := 5) rfl))
theorem tb_50_6 : Cond.selects RX11 yX11_ways yX11_ways ∈ bT := List.mem_append_left _ (in_r50 _ (List.mem_of_getElem? (i := 6) rfl))
theorem tb_50_16 : Cond.methodLink RL 50 yX11_throne ∈ bT := List.mem_append_left _ (in_r50 _ (List.mem_of_getElem? (i := 16) rfl))
theorem tb_50_19 : Cond.code yX11_throne cX11_throne 3 (some .int) ∈ bT := List.mem_append_left _ (in_r50 _ (List.mem_of_getElem? (i := 19) rfl))
theorem tb_50_17 : Cond.instanceMethod yX11_throne ∈ bT := List.mem_append_left _ (in_r50 _ (List.mem_of_getElem? (i := 17) rfl))
theorem tb_50_18 : Cond.selects RX11 yX11_throne yX11_throne ∈ bT := List.mem_append_left _ (in_r50 _ (List.mem_of_getElem? (i := 18) rfl))
theorem tb_53_6 : Cond.methodLink RL 53 yX11_power ∈ bT := List.mem_append_left _ (in_r53 _ (List.mem_of_getElem? (i := 6) rfl))
theorem tb_53_9 : Cond.code yX11_power cX11_power 3 (some .int) ∈ bT := List.mem_append_left _ (in_r53 _ (List.mem_of_getElem? (i := 9) rfl))
theorem tb_53_7 : Cond.instanceMethod yX11_power ∈ bT := List.mem_append_left _ (in_r53 _ (List.mem_of_getElem? (i := 7) rfl))
theorem tb_53_8 : Cond.selects RX11 yX11_power yX11_power ∈ bT := List.mem_append_left _ (in_r53 _ (List.mem_of_getElem? (i := 8) rfl))
theorem tb_54_2 : Cond.methodLink RL 56 yX11_motion ∈ bT := List.mem_append_left _ (in_r54 _ (List.mem_of_getElem? (i := 2) rfl))
theorem tb_54_5 : Cond.code yX11_motion cX11_motion 3 (some .int) ∈ bT := List.mem_append_left _ (in_r54 _ (List.mem_of_getElem? (i := 5) rfl))
theorem tb_54_3 : Cond.instanceMethod yX11_motion ∈ bT := List.mem_append_left _ (in_r54 _ (List.mem_of_getElem? (i := 3) rfl))
theorem tb_54_4 : Cond.selects RX11 yX11_motion yX11_motion ∈ bT := List.mem_append_left _ (in_r54 _ (List.mem_of_getElem? (i := 4) rfl))
theorem tb_55_15 : Cond.methodLink RL 59 yX11_helps ∈ bT := List.mem_append_left _ (in_r55 _ (List.mem_of_getElem? (i := 15) rfl))
theorem tb_55_18 : Cond.code yX11_helps cX11_helps 4 (some .int) ∈ bT := List.mem_append_left _ (in_r55 _ (List.mem_of_getElem? (i := 18) rfl))
theorem tb_55_16 : Cond.instanceMethod yX11_helps ∈ bT := List.mem_append_left _ (in_r55 _ (List.mem_of_getElem? (i := 16) rfl))
theorem tb_55_17 : Cond.selects RX11 yX11_helps yX11_helps ∈ bT := List.mem_append_left _ (in_r55 _ (List.mem_of_getElem? (i := 17) rfl))
theorem tb_56_4 : Cond.methodLink RL 62 yX11_vetoes ∈ bT := List.mem_append_left _ (in_r56 _ (List.mem_of_getElem? (i := 4) rfl))
theorem tb_56_7 : Cond.code yX11_vetoes cX11_vetoes 4 (some .int) ∈ bT := List.mem_append_left _ (in_r56 _ (List.mem_of_getElem? (i := 7) rfl))
theorem tb_56_5 : Cond.instanceMethod yX11_vetoes ∈ bT := List.mem_append_left _ (in_r56 _ (List.mem_of_getElem? (i := 5) rfl))
theorem tb_56_6 : Cond.selects RX11 yX11_vetoes yX11_vetoes ∈ bT := List.mem_append_left _ (in_r56 _ (List.mem_of_getElem? (i := 6) rfl))
theorem tb_56_19 : Cond.methodLink RL 65 yX11_knees ∈ bT := List.mem_append_left _ (in_r56 _ (List.mem_of_getElem? (i := 19) rfl))
theorem tb_56_22 : Cond.code yX11_knees cX11_knees 2 (some .int) ∈ bT := List.mem_append_left _ (in_r56 _ (List.mem_of_getElem? (i := 22) rfl))
theorem tb_56_20 : Cond.instanceMethod yX11_knees ∈ bT := List.mem_append_left _ (in_r56 _ (List.mem_of_getElem? (i := 20) rfl))
theorem tb_56_21 : Cond.selects RX11 yX11_knees yX11_knees ∈ bT := List.mem_append_left _ (in_r56 _ (List.mem_of_getElem? (i := 21) rfl))
theorem tb_57_21 : Cond.methodLink RL 68 yX11_settles ∈ bT := List.mem_append_left _ (in_r57 _ (List.mem_of_getElem? (i := 21) rfl))
theorem tb_58_0 : Cond.code yX11_settles cX11_settles 2 (some .int) ∈ bT := List.mem_append_left _ (in_r58 _ (List.mem_of_getElem? (i := 0) rfl))
theorem tb_57_22 : Cond.instanceMethod yX11_settles ∈ bT := List.mem_append_left _ (in_r57 _ (List.mem_of_getElem? (i := 22) rfl))
theorem tb_57_23 : Cond.selects RX11 yX11_settles yX11_settles ∈ bT := List.mem_append_left _ (in_r57 _ (List.mem_of_getElem? (i := 23) rfl))
theorem tb_59_19 : Cond.methodLink RL 71 yX11_chairIn ∈ bT := List.mem_append_left _ (in_r59 _ (List.mem_of_getElem? (i := 19) rfl))
theorem tb_59_22 : Cond.code yX11_chairIn cX11_chairIn 2 (some .int) ∈ bT := List.mem_append_left _ (in_r59 _ (List.mem_of_getElem? (i := 22) rfl))
theorem tb_59_20 : Cond.instanceMethod yX11_chairIn ∈ bT := List.mem_append_left _ (in_r59 _ (List.mem_of_getElem? (i := 20) rfl))
theorem tb_59_21 : Cond.selects RX11 yX11_chairIn yX11_chairIn ∈ bT := List.mem_append_left _ (in_r59 _ (List.mem_of_getElem? (i := 21) rfl))
theorem tb_61_0 : Cond.methodLink RL 74 yX11_aimIn ∈ bT := List.mem_append_left _ (in_r61 _ (List.mem_of_getElem? (i := 0) rfl))
theorem tb_61_3 : Cond.code yX11_aimIn cX11_aimIn 3 (some .int) ∈ bT := List.mem_append_left _ (in_r61 _ (List.mem_of_getElem? (i := 3) rfl))
theorem tb_61_1 : Cond.instanceMethod yX11_aimIn ∈ bT := List.mem_append_left _ (in_r61 _ (List.mem_of_getElem? (i := 1) rfl))
theorem tb_61_2 : Cond.selects RX11 yX11_aimIn yX11_aimIn ∈ bT := List.mem_append_left _ (in_r61 _ (List.mem_of_getElem? (i := 2) rfl))
theorem tb_61_11 : Cond.methodLink RL 77 yX11_reign ∈ bT := List.mem_append_left _ (in_r61 _ (List.mem_of_getElem? (i := 11) rfl))
theorem tb_61_14 : Cond.code yX11_reign cX11_reign 3 (some .int) ∈ bT := List.mem_append_left _ (in_r61 _ (List.mem_of_getElem? (i := 14) rfl))
theorem tb_61_12 : Cond.instanceMethod yX11_reign ∈ bT := List.mem_append_left _ (in_r61 _ (List.mem_of_getElem? (i := 12) rfl))
theorem tb_61_13 : Cond.selects RX11 yX11_reign yX11_reign ∈ bT := List.mem_append_left _ (in_r61 _ (List.mem_of_getElem? (i := 13) rfl))
theorem tb_62_4 : Cond.methodLink RL 80 yX11_first ∈ bT := List.mem_append_left _ (in_r62 _ (List.mem_of_getElem? (i := 4) rfl))
theorem tb_62_7 : Cond.code yX11_first cX11_first 2 (some .int) ∈ bT := List.mem_append_left _ (in_r62 _ (List.mem_of_getElem? (i := 7) rfl))
theorem tb_62_5 : Cond.instanceMethod yX11_first ∈ bT := List.mem_append_left _ (in_r62 _ (List.mem_of_getElem? (i := 5) rfl))
theorem tb_62_6 : Cond.selects RX11 yX11_first yX11_first ∈ bT := List.mem_append_left _ (in_r62 _ (List.mem_of_getElem? (i := 6) rfl))
theorem tb_62_19 : Cond.methodLink RL 83 yX11_seen ∈ bT := List.mem_append_left _ (in_r62 _ (List.mem_of_getElem? (i := 19) rfl))
theorem tb_62_22 : Cond.code yX11_seen cX11_seen 2 (some .int) ∈ bT := List.mem_append_left _ (in_r62 _ (List.mem_of_getElem? (i := 22) rfl))
theorem tb_62_20 : Cond.instanceMethod yX11_seen ∈ bT := List.mem_append_left _ (in_r62 _ (List.mem_of_getElem? (i := 20) rfl))
theorem tb_62_21 : Cond.selects RX11 yX11_seen yX11_seen ∈ bT := List.mem_append_left _ (in_r62 _ (List.mem_of_getElem? (i := 21) rfl))
theorem tb_63_15 : Cond.methodLink RL 86 yX11_seenAt ∈ bT := List.mem_append_left _ (in_r63 _ (List.mem_of_getElem? (i := 15) rfl))
theorem tb_63_18 : Cond.code yX11_seenAt cX11_seenAt 4 (some .int) ∈ bT := List.mem_append_left _ (in_r63 _ (List.mem_of_getElem? (i := 18) rfl))
theorem tb_63_16 : Cond.instanceMethod yX11_seenAt ∈ bT := List.mem_append_left _ (in_r63 _ (List.mem_of_getElem? (i := 16) rfl))
theorem tb_63_17 : Cond.selects RX11 yX11_seenAt yX11_seenAt ∈ bT := List.mem_append_left _ (in_r63 _ (List.mem_of_getElem? (i := 17) rfl))
theorem tb_64_2 : Cond.methodLink RL 89 yX11_ask ∈ bT := List.mem_append_left _ (in_r64 _ (List.mem_of_getElem? (i := 2) rfl))
theorem tb_64_5 : Cond.code yX11_ask cX11_ask 7 (some .int) ∈ bT := List.mem_append_left _ (in_r64 _ (List.mem_of_getElem? (i := 5) rfl))
theorem tb_64_3 : Cond.instanceMethod yX11_ask ∈ bT := List.mem_append_left _ (in_r64 _ (List.mem_of_getElem? (i := 3) rfl))
theorem tb_64_4 : Cond.selects RX11 yX11_ask yX11_ask ∈ bT := List.mem_append_left _ (in_r64 _ (List.mem_of_getElem? (i := 4) rfl))
theorem tb_65_0 : Cond.methodLink RL 92 yX11_chance ∈ bT := List.mem_append_left _ (in_r65 _ (List.mem_of_getElem? (i := 0) rfl))
theorem tb_65_3 : Cond.code yX11_chance cX11_chance 7 (some .int) ∈ bT := List.mem_append_left _ (in_r65 _ (List.mem_of_getElem? (i := 3) rfl))
theorem tb_65_1 : Cond.instanceMethod yX11_chance ∈ bT := List.mem_append_left _ (in_r65 _ (List.mem_of_getElem? (i := 1) rfl))
theorem tb_65_2 : Cond.selects RX11 yX11_chance yX11_chance ∈ bT := List.mem_append_left _ (in_r65 _ (List.mem_of_getElem? (i := 2) rfl))
theorem tb_66_21 : Cond.methodLink RL 96 yX11_likeliest ∈ bT := List.mem_append_left _ (in_r66 _ (List.mem_of_getElem? (i := 21) rfl))
theorem tb_67_0 : Cond.code yX11_likeliest cX11_likeliest 5 (some .int) ∈ bT := List.mem_append_left _ (in_r67 _ (List.mem_of_getElem? (i := 0) rfl))
theorem tb_66_22 : Cond.instanceMethod yX11_likeliest ∈ bT := List.mem_append_left _ (in_r66 _ (List.mem_of_getElem? (i := 22) rfl))
theorem tb_66_23 : Cond.selects RX11 yX11_likeliest yX11_likeliest ∈ bT := List.mem_append_left _ (in_r66 _ (List.mem_of_getElem? (i := 23) rfl))
theorem tb_67_8 : Cond.methodLink RL 99 yX11_tray ∈ bT := List.mem_append_left _ (in_r67 _ (List.mem_of_getElem? (i := 8) rfl))
theorem tb_67_11 : Cond.code yX11_tray cX11_tray 4 none ∈ bT := List.mem_append_left _ (in_r67 _ (List.mem_of_getElem? (i := 11) rfl))
theorem tb_67_9 : Cond.instanceMethod yX11_tray ∈ bT := List.mem_append_left _ (in_r67 _ (List.mem_of_getElem? (i := 9) rfl))
theorem tb_67_10 : Cond.selects RX11 yX11_tray yX11_tray ∈ bT := List.mem_append_left _ (in_r67 _ (List.mem_of_getElem? (i := 10) rfl))
theorem tb_68_4 : Cond.methodLink RL 103 yX11_write ∈ bT := List.mem_append_left _ (in_r68 _ (List.mem_of_getElem? (i := 4) rfl))
theorem tb_68_7 : Cond.code yX11_write cX11_write 6 (some .long) ∈ bT := List.mem_append_left _ (in_r68 _ (List.mem_of_getElem? (i := 7) rfl))
theorem tb_68_5 : Cond.instanceMethod yX11_write ∈ bT := List.mem_append_left _ (in_r68 _ (List.mem_of_getElem? (i := 5) rfl))
theorem tb_68_6 : Cond.selects RX11 yX11_write yX11_write ∈ bT := List.mem_append_left _ (in_r68 _ (List.mem_of_getElem? (i := 6) rfl))
theorem tb_69_5 : Cond.methodLink RL 109 yX11_copy ∈ bT := List.mem_append_left _ (in_r69 _ (List.mem_of_getElem? (i := 5) rfl))
theorem tb_69_8 : Cond.code yX11_copy cX11_copy 7 (some .int) ∈ bT := List.mem_append_left _ (in_r69 _ (List.mem_of_getElem? (i := 8) rfl))
theorem tb_69_6 : Cond.instanceMethod yX11_copy ∈ bT := List.mem_append_left _ (in_r69 _ (List.mem_of_getElem? (i := 6) rfl))
theorem tb_69_7 : Cond.selects RX11 yX11_copy yX11_copy ∈ bT := List.mem_append_left _ (in_r69 _ (List.mem_of_getElem? (i := 7) rfl))
theorem tb_69_17 : Cond.methodLink RL 112 yX11_image ∈ bT := List.mem_append_left _ (in_r69 _ (List.mem_of_getElem? (i := 17) rfl))
theorem tb_69_20 : Cond.code yX11_image cX11_image 2 none ∈ bT := List.mem_append_left _ (in_r69 _ (List.mem_of_getElem? (i := 20) rfl))
theorem tb_69_18 : Cond.instanceMethod yX11_image ∈ bT := List.mem_append_left _ (in_r69 _ (List.mem_of_getElem? (i := 18) rfl))
theorem tb_69_19 : Cond.selects RX11 yX11_image yX11_image ∈ bT := List.mem_append_left _ (in_r69 _ (List.mem_of_getElem? (i := 19) rfl))
theorem tb_70_10 : Cond.methodLink RL 116 yX11_restore ∈ bT := List.mem_append_left _ (in_r70 _ (List.mem_of_getElem? (i := 10) rfl))
theorem tb_70_13 : Cond.code yX11_restore cX11_restore 2 none ∈ bT := List.mem_append_left _ (in_r70 _ (List.mem_of_getElem? (i := 13) rfl))
theorem tb_70_11 : Cond.instanceMethod yX11_restore ∈ bT := List.mem_append_left _ (in_r70 _ (List.mem_of_getElem? (i := 11) rfl))
theorem tb_70_12 : Cond.selects RX11 yX11_restore yX11_restore ∈ bT := List.mem_append_left _ (in_r70 _ (List.mem_of_getElem? (i := 12) rfl))
theorem cv_L_15 : CalV RL 15 yX11_member cX11_member 3 (some .int) 2 := CalV.of tb_25_14 tb_25_15 tb_25_16 tb_1_2 tb_25_17 (by decide +kernel)
theorem cv_L_21 : CalV RL 21 yX11_drags cX11_drags 2 (some .int) 1 := CalV.of tb_31_20 tb_31_21 tb_31_22 tb_1_2 tb_31_23 (by decide +kernel)
theorem cv_L_24 : CalV RL 24 yX11_goes cX11_goes 3 (some .int) 1 := CalV.of tb_33_8 tb_33_9 tb_33_10 tb_1_2 tb_33_11 (by decide +kernel)
theorem cv_L_27 : CalV RL 27 yX11_minutes cX11_minutes 6 (some .int) 1 := CalV.of tb_36_21 tb_36_22 tb_36_23 tb_1_2 tb_37_0 (by decide +kernel)
theorem cv_L_30 : CalV RL 30 yX11_undo cX11_undo 3 (some .int) 1 := CalV.of tb_38_0 tb_38_1 tb_38_2 tb_1_2 tb_38_3 (by decide +kernel)
theorem cv_L_33 : CalV RL 33 yX11_judge cX11_judge 7 (some .int) 2 := CalV.of tb_38_19 tb_38_20 tb_38_21 tb_1_2 tb_38_22 (by decide +kernel)
theorem cv_L_38 : CalV RL 38 yX11_perform cX11_perform 4 (some .int) 1 := CalV.of tb_41_13 tb_41_14 tb_41_15 tb_1_2 tb_41_16 (by decide +kernel)
theorem cv_L_41 : CalV RL 41 yX11_session cX11_session 9 (some .int) 2 := CalV.of tb_42_0 tb_42_1 tb_42_2 tb_1_2 tb_42_3 (by decide +kernel)
theorem cv_L_44 : CalV RL 44 yX11_cheapest cX11_cheapest 4 (some .int) 2 := CalV.of tb_43_7 tb_43_8 tb_43_9 tb_1_2 tb_43_10 (by decide +kernel)
theorem cv_L_47 : CalV RL 47 yX11_ways cX11_ways 3 (some .int) 1 := CalV.of tb_50_4 tb_50_5 tb_50_6 tb_1_2 tb_50_7 (by decide +kernel)
theorem cv_L_50 : CalV RL 50 yX11_throne cX11_throne 3 (some .int) 2 := CalV.of tb_50_16 tb_50_17 tb_50_18 tb_1_2 tb_50_19 (by decide +kernel)
theorem cv_L_53 : CalV RL 53 yX11_power cX11_power 3 (some .int) 1 := CalV.of tb_53_6 tb_53_7 tb_53_8 tb_1_2 tb_53_9 (by decide +kernel)
theorem cv_L_56 : CalV RL 56 yX11_motion cX11_motion 3 (some .int) 1 := CalV.of tb_54_2 tb_54_3 tb_54_4 tb_1_2 tb_54_5 (by decide +kernel)
theorem cv_L_59 : CalV RL 59 yX11_helps cX11_helps 4 (some .int) 2 := CalV.of tb_55_15 tb_55_16 tb_55_17 tb_1_2 tb_55_18 (by decide +kernel)
theorem cv_L_62 : CalV RL 62 yX11_vetoes cX11_vetoes 4 (some .int) 1 := CalV.of tb_56_4 tb_56_5 tb_56_6 tb_1_2 tb_56_7 (by decide +kernel)
theorem cv_L_65 : CalV RL 65 yX11_knees cX11_knees 2 (some .int) 1 := CalV.of tb_56_19 tb_56_20 tb_56_21 tb_1_2 tb_56_22 (by decide +kernel)
theorem cv_L_68 : CalV RL 68 yX11_settles cX11_settles 2 (some .int) 1 := CalV.of tb_57_21 tb_57_22 tb_57_23 tb_1_2 tb_58_0 (by decide +kernel)
theorem cv_L_71 : CalV RL 71 yX11_chairIn cX11_chairIn 2 (some .int) 1 := CalV.of tb_59_19 tb_59_20 tb_59_21 tb_1_2 tb_59_22 (by decide +kernel)
theorem cv_L_74 : CalV RL 74 yX11_aimIn cX11_aimIn 3 (some .int) 2 := CalV.of tb_61_0 tb_61_1 tb_61_2 tb_1_2 tb_61_3 (by decide +kernel)
theorem cv_L_77 : CalV RL 77 yX11_reign cX11_reign 3 (some .int) 2 := CalV.of tb_61_11 tb_61_12 tb_61_13 tb_1_2 tb_61_14 (by decide +kernel)
theorem cv_L_80 : CalV RL 80 yX11_first cX11_first 2 (some .int) 1 := CalV.of tb_62_4 tb_62_5 tb_62_6 tb_1_2 tb_62_7 (by decide +kernel)
theorem cv_L_83 : CalV RL 83 yX11_seen cX11_seen 2 (some .int) 1 := CalV.of tb_62_19 tb_62_20 tb_62_21 tb_1_2 tb_62_22 (by decide +kernel)
theorem cv_L_86 : CalV RL 86 yX11_seenAt cX11_seenAt 4 (some .int) 2 := CalV.of tb_63_15 tb_63_16 tb_63_17 tb_1_2 tb_63_18 (by decide +kernel)
theorem cv_L_89 : CalV RL 89 yX11_ask cX11_ask 7 (some .int) 1 := CalV.of tb_64_2 tb_64_3 tb_64_4 tb_1_2 tb_64_5 (by decide +kernel)
theorem cv_L_92 : CalV RL 92 yX11_chance cX11_chance 7 (some .int) 3 := CalV.of tb_65_0 tb_65_1 tb_65_2 tb_1_2 tb_65_3 (by decide +kernel)
theorem cv_L_96 : CalV RL 96 yX11_likeliest cX11_likeliest 5 (some .int) 1 := CalV.of tb_66_21 tb_66_22 tb_66_23 tb_1_2 tb_67_0 (by decide +kernel)
theorem cv_L_99 : CalV RL 99 yX11_tray cX11_tray 4 none 3 := CalV.of tb_67_8 tb_67_9 tb_67_10 tb_1_2 tb_67_11 (by decide +kernel)
theorem cv_L_103 : CalV RL 103 yX11_write cX11_write 6 (some .long) 3 := CalV.of tb_68_4 tb_68_5 tb_68_6 tb_1_2 tb_68_7 (by decide +kernel)
theorem cv_L_109 : CalV RL 109 yX11_copy cX11_copy 7 (some .int) 2 := CalV.of tb_69_5 tb_69_6 tb_69_7 tb_1_2 tb_69_8 (by decide +kernel)
theorem cv_L_112 : CalV RL 112 yX11_image cX11_image 2 none 1 := CalV.of tb_69_17 tb_69_18 tb_69_19 tb_1_2 tb_69_20 (by decide +kernel)
theorem cv_L_116 : CalV RL 116 yX11_restore cX11_restore 2 none 1 := CalV.of tb_70_10 tb_70_11 tb_70_12 tb_1_2 tb_70_13 (by decide +kernel)
def NC (U : State) : Prop := ∀ a b, 1 ≤ a → a ≤ 4 → 1 ≤ b → b ≤ 4 → a ≠ b → va_Nc (exN a) (exN b) U
theorem NC.moved {u U : State} (hv : u.vm.Alike U.vm) (h : NC u) : NC U := fun a b h1 h2 h3 h4 h5 => (h a b h1 h2 h3 h4 h5).moved hv
/-- joined to what stays -/
theorem fr_join {A0 : Nat → Prop} {D : va_G} {W1 W2 W3 : va_W} {H H1 : Heap} (hP : va_P D vwCl (W1 ++ W2) H) (hD : va_D A0 (W1 ++ W2)) (hk : ∀ q : Nat, q < H.size → ¬ va_A W1 H.size q → H1[q]? = H[q]?) (hF : ∀ q, va_A W1 H.size q → A0 q) (hP1 : va_P D vwCl W3 H1) (hD1 : va_D (va_A W1 H.size) W3) : va_P D vwCl (W3 ++ W2) H1 ∧ va_D A0 (W3 ++ W2) := by
  have two : ∀ (k : Nat) (q : Nat × va_E), W2[k]? = some q → (W1 ++ W2)[W1.length + k]? = some q := fun k q h => kN h
  have hlt : ∀ (k : Nat) (q : Nat × va_E), W2[k]? = some q → q.1 < H.size := fun k q h => (hP _ q (two k q h)).lt
  have hne : ∀ (k : Nat) (q : Nat × va_E), W2[k]? = some q → ¬ va_A W1 H.size q.1 := by
    rintro k q h (⟨j, e, hj⟩ | hj)
    · have hjl : j < W1.length := (List.getElem?_eq_some_iff.mp hj).1
      have e1 : (W1 ++ W2)[j]? = some (q.1, e) := by rw [List.getElem?_append_left hjl]; exact hj
      have := hD.1 j (W1.length + k) _ q e1 (two k q h) rfl
      omega
    · exact absurd hj (Nat.not_le.mpr (hlt k q h))
  refine ⟨hP1.app (fun k q h => ((hP _ q (two k q h))).kept (hk q.1 (hlt k q h) (hne k q h))), ?_, ?_⟩
  · intro i j p q hi hj e
    rcases Nat.lt_or_ge i W3.length with a | a
    · rw [List.getElem?_append_left a] at hi
      rcases Nat.lt_or_ge j W3.length with b | b
      · rw [List.getElem?_append_left b] at hj
        exact hD1.1 i j p q hi hj e
      · rw [List.getElem?_append_right b] at hj
        exact absurd (by rw [← e]; exact hD1.2 i p hi) (hne _ q hj)
    · rw [List.getElem?_append_right a] at hi
      rcases Nat.lt_or_ge j W3.length with b | b
      · rw [List.getElem?_append_left b] at hj
        exact absurd (by rw [e]; exact hD1.2 j q hj) (hne _ p hi)
      · rw [List.getElem?_append_right b] at hj
        have := hD.1 _ _ p q (two _ p hi) (two _ q hj) e
        omega
  · intro k q h
    rcases Nat.lt_or_ge k W3.length with a | a
    · rw [List.getElem?_append_left a] at h
      exact hF _ (hD1.2 k q h)
    · rw [List.getElem?_append_right a] at h
      exact hD.2 _ q (two _ q h)
theorem fr_left {D : va_G} {A : Nat → Prop} {W1 W2 : va_W} {H : Heap} (hP : va_P D vwCl (W1 ++ W2) H) (hD : va_D A (W1 ++ W2)) : va_P D vwCl W1 H ∧ va_D A W1 := by
  have one : ∀ (k : Nat) (q : Nat × va_E), W1[k]? = some q → (W1 ++ W2)[k]? = some q := fun k q h => by
    rw [List.getElem?_append_left (List.getElem?_eq_some_iff.mp h).1]
    exact h
  exact ⟨fun k q h => hP k q (one k q h), fun i j p q hi hj e => hD.1 i j p q (one i p hi) (one j q hj) e, fun k q h => hD.2 k q (one k q h)⟩
def outC (cs : Nat → ClassId) (aO : Nat) (fo : Nat → Int64) : Nat × va_E := (aO, .inl (cs 2, 1, .inr (.inl fo)))
/-- what a wrapper of the law needs at its start -/
def LP0 (D : va_G) (cs : Nat → ClassId) (adK adV : Nat → Nat) (Wd : va_W) (sz : Nat) (U : State) : Prop := U.heap.size = sz ∧ va_P D vwCl Wd U.heap ∧ va_K D vwCl (tyL cs) U ∧ va_D (fun _ => True) Wd ∧ KS adK adV (va_A Wd sz) U U.heap ∧ XS (va_A Wd sz) U U.heap ∧ NC U
def WCon (l : Launch) (D : va_G) (cs : Nat → ClassId) (adK adV : Nat → Nat) (y : MethodName) (bc : ByteArray) (nc : Nat) (hh : List (Nat × Nat × Nat × Nat)) (rm : Room) (mc ms : Nat) (av : List Value) (Wd : va_W) (r : Int32) (W' : va_W) : Prop :=
  ∀ sz : Nat, Met l y (.codeWith y bc nc (some .int) hh :: bT2) rm (va_Pc av (LP0 D cs adK adV Wd sz)) (GPost D (some (.int r)) W' (va_A Wd sz)) mc ms (va_A Wd sz)
section
variable {p : Program} {l : Launch} {e : Env} {R : Room} {s : State} {m : MethodId} {args : Array Value} {below : List Frame} {meth : Method} {c : Code} {H : Heap} {locs : List Loc} {cells slots : Nat} {Q : State → Prop}
variable {D : va_G} {cs : Nat → ClassId} {ad al adK adV : Nat → Nat} {A : Nat → Prop} {Wd W' W2 : va_W} {own : String} {cc : ByteArray} {nL : Nat} {rt : Option FieldType} {pc : Nat} {ls : Array Slot} {rest : List Value} {P : PL} {g g' : CS} {kd : Nat}
/-- what a walk over the law's own methods has besides MCx -/
def LC (l : Launch) (s : State) (args : Array Value) (adK adV : Nat → Nat) (A : Nat → Prop) : Prop := KS adK adV A s s.heap ∧ XS A s s.heap ∧ (∀ w ∈ bT2, w.before args s = true) ∧ l.stackTraces = false ∧ NC s
theorem WCon.of {y : MethodName} {bc : ByteArray} {nc : Nat} {hh : List (Nat × Nat × Nat × Nat)} {rm : Room} {mc ms : Nat} {av : List Value} {r : Int32} (hst : l.stackTraces = false) (hy : plainName y.cls = true) (hlen : (lg_sl av).length ≤ nc)
    (body : ∀ (p : Program) (e : Env) (s : State) (m : MethodId) (args : Array Value) (below : List Frame) (meth : Method) (c : Code) (A : Nat → Prop) (ls : Array Slot) (H : Heap) (locs : List Loc), MCx p s m args meth c A y.cls bc nc (some .int) D cs → LC l s args adK adV A → c.exceptionTable.toList = tableOf hh → MH D Wd A s H locs → lv_has ls nc (lv_args 0 av) → W p l e rm s m args below meth c H locs 0 0 (MQ below (GPost D (some (.int r)) W' A) args s mc ms A) (F0 m 0 ls [])) :
    WCon l D cs adK adV y bc nc hh rm mc ms av Wd r W' := by
  intro sz
  refine va_MetW (cc := bc) (maxL := nc) (ret := some .int) (hh := hh) hy rfl ?_
  intro p e s m args below meth c s₁ B hml hv
  obtain ⟨rfl, hsz, hP, hK, hD0, hKS, hXS, hNC⟩ := hv
  have hts := atoms_spec (ws := .codeWith y bc nc (some .int) hh :: bT2) B.pre
  have hown : s.vm.findClass y.cls = some m.cls := findClass_of_methodNamed B.named
  have htb := vx_table (x := y) B (hts _ List.mem_cons_self)
  subst hsz
  have hl := lv_entry av (n := nc) hlen
  rw [lg_entry_eq]
  exact body p e s m _ below meth c (va_A Wd s.heap.size) _ s.heap [] ⟨B.exec, B.bytes, hml, hown, fun w h => hts w (List.mem_cons_of_mem _ (bT_bT2 h)), B.returns, B.notSynchronized, hK, fun q h => Or.inr h⟩ ⟨hKS, hXS, fun w h => hts w (List.mem_cons_of_mem _ h), hst, hNC⟩ htb ⟨hP, hD0.self, va_S.rf⟩ hl
/-- a call over the first part of the world -/
theorem f_callV {W1 W3 : va_W} {y : MethodName} {bc : ByteArray} {nc : Nat} {rc : Option FieldType} {rm : Room} {idx b n : Nat} {st : List Value} {r : Option Value} (av : List Value) (C : MCx p s m args meth c A own cc nL rt D cs) (h : MH D (W1 ++ W2) A s H locs)
    (cv : CalV own idx y bc nc rc n) (hM : GCon l D cs y bc nc rc rm 0 0 (.ref b :: av) W1 r W3) (hn : av.length = n) (hrm : rm.cells = 0 ∧ rm.slots = 0) (hR : rm.frames + 1 ≤ R.frames ∧ 8 + (nc + 11) + rm.locals ≤ R.locals)
    (hrecv : ∃ cell : Cell, H[b]? = some cell ∧ cell.vm.isStatics = false ∧ s.vm.findClass y.cls = some cell.cls) (hls : ls.size = nL) (hst : st = av.reverse ++ .ref b :: rest) (hW : (rest.map fun v => v.category).sum ≤ 8) (hf : cells ≤ R.cells ∧ slots ≤ R.slots) (hdg : decode cc pc = .ok (.invokevirtual idx, 3))
    (kk : ∀ (H1 : Heap) (locs1 : List Loc), MH D (W3 ++ W2) A s H1 locs1 → W p l e R s m args below meth c H1 locs1 cells slots Q (F0 m (pc + 3) ls (r.toList ++ rest))) : W p l e R s m args below meth c H locs cells slots Q (F0 m pc ls st) := by
  obtain ⟨hx, hb, hml, hown, hts, hrt, hlocks, hK, hA⟩ := C
  obtain ⟨hP, hD, hS⟩ := h
  obtain ⟨hPl, hDl⟩ := fr_left hP hD
  have hfr := va_A_sub hDl hS hA
  have hr := va_runV (H := H) (locs := locs) (cells := cells) (slots := slots) (g := F0 m pc ls st) (rest := rest) (As := av) (R := R) (e := e) (below := below) (meth := meth) (b := b) ⟨hx, hb, hml, hown, hts⟩ (hM H.size) (cwV n hts (bT_in cv.1) rfl hrm.1 hrm.2 ⟨rfl, cv.2⟩ hR) ⟨m_fb, hrecv, fun U hU hW => ⟨rfl, by rw [hU], by rw [hU]; exact hPl, va_K.moved hW.alike hK, hDl.weaken (fun _ _ _ _ => trivial)⟩⟩ rfl hn hls hst (lv_room hW) hdg hf
  intro T hT X
  obtain ⟨v, st₀, t, T', L, h0, X', hL, e1, e2, ⟨hv, hP1, hD1, hz, hk⟩, sg⟩ := hr T hT X
  cases hv
  rw [h0] at hz hk
  have hkk : ∀ q : Nat, q < H.size → ¬ va_A W1 H.size q → T'.heap[q]? = H[q]? := fun q h1 h2 => by rw [e1]; exact hk q h1 h2
  obtain ⟨hPj, hDj⟩ := fr_join hP hD hkk hfr (by rw [e1]; exact hP1) hD1
  obtain ⟨t2, a1, b1⟩ := kk T'.heap (locs ++ L) ⟨hPj, hDj,
    Nat.le_trans hS.1 (by rw [e1]; exact hz), fun q h1 h2 => by rw [e1, hk q (Nat.lt_of_lt_of_le h1 hS.1) (fun z => h2 (hfr q z))]; exact hS.2.1 q h1 h2, fun q hq => by
      rcases List.mem_append.mp hq with h | h
      · exact hS.2.2 q h
      · exact hfr _ (hL q h)⟩ T' rfl X'
  exact ⟨t2, sg t2 a1, b1⟩
/-- a call that throws, caught by the row x of the table -/
theorem f_catch {y : MethodName} {bc : ByteArray} {nc : Nat} {rc : Option FieldType} {rm : Room} {idx b n : Nat} {st : List Value} (av : List Value) (C : MCx p s m args meth c A RL cc nL rt D cs) (hL : LC l s args adK adV A) (h : MH D (SW cs ad al P g ++ W2) A s H locs)
    (cv : CalV RL idx y bc nc rc n) (hM : XCon l D cs ad al adK adV y bc nc rc rm (.ref b :: av) P g kd g') (hn : av.length = n) (hrm : rm.cells = 1 ∧ rm.slots = 6) (hR : rm.frames + 1 ≤ R.frames ∧ 8 + (nc + 11) + rm.locals ≤ R.locals)
    (hrecv : ∃ cell : Cell, H[b]? = some cell ∧ cell.vm.isStatics = false ∧ s.vm.findClass y.cls = some cell.cls) (hls : ls.size = nL) (hst : st = av.reverse ++ .ref b :: rest) (hW : (rest.map fun v => v.category).sum ≤ 8) (hf : 1 ≤ R.cells ∧ 6 ≤ R.slots) (hdg : decode cc pc = .ok (.invokevirtual idx, 3))
    (pre : List ExceptionTableEntry) (x : ExceptionTableEntry) (suf : List ExceptionTableEntry) (hsplit : c.exceptionTable.toList = pre ++ x :: suf) (hkd : 1 ≤ kd ∧ kd ≤ 4) (hpass : ∀ z ∈ pre, z.catchType ≠ 0 ∧ ∃ k2, 1 ≤ k2 ∧ k2 ≤ 4 ∧ kd ≠ k2 ∧ Cond.classLink RL z.catchType (exN k2) ∈ bT) (hcov : covers x pc = true) (h0 : x.catchType ≠ 0) (hlink : Cond.classLink RL x.catchType (exN kd) ∈ bT)
    (kk : ∀ (q : Nat) (H1 : Heap) (locs1 : List Loc), MH D (SW cs ad al P g' ++ W2) A s H1 locs1 → W p l e R s m args below meth c H1 locs1 1 6 Q (F0 m x.handlerPc ls [.ref q])) : W p l e R s m args below meth c H locs 0 0 Q (F0 m pc ls st) := by
  obtain ⟨hx, hb, hml, hown, hts, hrt, hlocks, hK, hA⟩ := C
  obtain ⟨hP, hD, hS⟩ := h
  obtain ⟨hPl, hDl⟩ := fr_left hP hD
  have hfr := va_A_sub hDl hS hA
  have ht2 := hL.2.2.1
  have hcode : Cond.code y bc nc rc ∈ bT2 := bT_bT2 (cv.1 _ (by unfold wsV; exact List.mem_append_right _ List.mem_cons_self))
  have hr := vx_runV (H := H) (locs := locs) (cells := 0) (slots := 0) (g := F0 m pc ls st) (rest := rest) (As := av) (R := R) (e := e) (below := below) (meth := meth) (b := b) ⟨hx, hb, hml, hown, ht2⟩ (hM H.size) (cwV (C := y.cls) n ht2 (bT2_in (ws := wsV RL idx y.cls y (wsOf2 y bc nc rc)) (fun w hw => by
    unfold wsV at hw
    rcases List.mem_append.mp hw with q | q
    · exact bT_bT2 (cv.1 w (by unfold wsV; exact List.mem_append_left _ q))
    · rcases List.mem_cons.mp q with q | q
      · subst q; exact hcode
      · exact q)) rfl hrm.1 hrm.2 ⟨rfl, cv.2⟩ hR) ⟨t_fb, hrecv, fun U hU hW => ⟨rfl, by rw [hU], by rw [hU]; exact hPl, va_K.moved hW.alike hK, hDl.weaken (fun _ _ _ _ => trivial), by rw [hU]; exact hL.1.step hS hfr hW, by rw [hU]; exact hL.2.1.step hS hfr hW⟩⟩ rfl hn hls hst (lv_room hW) hdg (by omega)
  intro T hTT X
  rcases hr T hTT X with ⟨v, st₀, t, T', L, h0, X', hLf, e1, e2, hF, sg⟩ | ⟨q, st₀, t, T', L, E, ce, h00, X', hLf, e1, e2, ⟨hE, hP1, hD1, hF⟩, hce, hcv, hcl, sg⟩
  · exact hF.elim
  · obtain ⟨k1, k2, k3⟩ := vx_keep (A1 := va_A (SW cs ad al P g) H.size) h00 e1 hS (fun q _ z => hfr q z) hfr hLf hF
    obtain ⟨hPj, hDj⟩ := fr_join hP hD k2 hfr (by rw [e1]; exact hP1) hD1
    subst hE
    obtain ⟨t2, a1, b1⟩ := vx_catch (p := p) (l := l) (e := e) (R := R) (m := m) (below := below) (ls := ls) (rest := rest) (pc := pc) (Q := Q) (E := exN kd) (ce := ce) (q := q) (H := T'.heap) (locs := locs ++ L) (cells := 0 + 1) (slots := 0 + 6) (name := exN kd) hown pre x suf hsplit (fun z hz => by
        obtain ⟨w0, k9, w1, w2, w3, w4⟩ := hpass z hz
        exact Or.inr ⟨w0, exN k9, hts _ w4, hL.2.2.2.2 kd k9 hkd.1 hkd.2 w1 w2 w3⟩) hcov h0 (hts _ hlink) (va_tabs rfl rfl (hL.2.1.2.2.2 kd hkd.1 hkd.2)) (by rw [e1]; exact hce) hcv hcl (kk q T'.heap (locs ++ L) ⟨hPj, hDj, k3⟩) T' rfl X'
    exact ⟨t2, sg.trans a1, b1⟩
theorem rv_law {W1 W2 : va_W} {a q0 ci : Nat} {q : vw_C} {fs : List Value} (C : MCx p s m args meth c A own cc nL rt D cs) (h : MH D (W1 ++ W2) A s H locs) (hc : vwCl[ci]? = some q) (he : W1[q0]? = some (a, .inr (ci, fs))) : ∃ cell : Cell, H[a]? = some cell ∧ cell.vm.isStatics = false ∧ s.vm.findClass q.1 = some cell.cls := va_recv C.2.2.2.2.2.2.2.1 (fr_left h.1 h.2.1).1 hc he
theorem o_store {W1 W2 : va_W} {aO : Nat} {fo : Nat → Int64} {x : Int64} (C : MCx p s m args meth c A own cc nL rt D cs) (h : MH D (W1 ++ outC cs aO fo :: W2) A s H locs) (hdg : decode cc pc = .ok (.lastore, 1)) (kk : ∀ (H1 : Heap) (locs1 : List Loc), MH D (W1 ++ outC cs aO (vp_updL fo 0 x) :: W2) A s H1 locs1 → W p l e R s m args below meth c H1 locs1 cells slots Q (F0 m (pc + 1) ls rest)) : W p l e R s m args below meth c H locs cells slots Q (F0 m pc ls (.long x :: .int 0 :: .ref aO :: rest)) := by
  obtain ⟨hP, hD, hS⟩ := h
  refine va_last C.1 C.2.1 C.2.2.2.2.2.2.2.1 hP hD hS (W1.length + 0) 2 (kN (j := 0) rfl) rfl (ib_in (by decide)) hdg (fun H1 l1 hP hD hS => kk H1 l1 ?_)
  rw [kNset] at hP hD
  exact ⟨hP, hD, hS⟩
end
section
variable {l : Launch} {D : va_G} {cs : Nat → ClassId} {ad al adK adV : Nat → Nat} {P : PL} {g g' : CS} {aO : Nat} {fo : Nat → Int64} {Wm : va_W}
set_option maxHeartbeats 4000000 in
set_option maxRecDepth 100000 in
theorem nL_member (hst : l.stackTraces = false) {p0 : Int32} {p1 : Int32} {r : Int32} (hf : fX11_member P g p0 p1 = some (Sum.inr r, g')) : WCon l D cs adK adV yL_member cL_member 5 [(0, 10, 13, 19), (0, 10, 17, 13)] (rM 4) 0 0 [.ref (ad 0), .int p0, .int p1, .ref aO] (SW cs ad al P g ++ outC cs aO fo :: Wm) (0 : Int32) (SW cs ad al P g' ++ outC cs aO (vp_updL fo 0 r.toInt64) :: Wm) := by
  refine WCon.of hst (by decide) (Nat.le_of_ble_eq_true rfl) ?_
  intro p e s m args below meth c A ls H locs C hL htb h hl
  have hx := C.1
  have hb := C.2.1
  have C : MCx p s m args meth c A RL cL_member 5 (some .int) D cs := C
  have hl : lv_has ls 5 [(0, .ref (ad 0)), (1, .int p0), (2, .int p1), (3, .ref aO)] := hl
  refine lv_aload_n hx hb dL_member_0 rfl (lv_at hl 3 rfl) ?_
  refine lv_iconst (v := (0 : Int32)) hx hb dL_member_1 (by decide) ?_
  refine lv_aload_n hx hb dL_member_2 rfl (lv_at hl 0 rfl) ?_
  refine lv_iload_n hx hb dL_member_3 rfl (lv_at hl 1 rfl) ?_
  refine lv_iload_n hx hb dL_member_4 rfl (lv_at hl 2 rfl) ?_
  refine f_callV (r := some (.int r)) (rest := [.int (0 : Int32), .ref aO]) (W2 := outC cs aO fo :: Wm) [.int p0, .int p1] C h cv_L_15 (qX11_member hf) rfl ⟨rfl, rfl⟩ ⟨Nat.le_of_ble_eq_true rfl, Nat.le_of_ble_eq_true rfl⟩ (rv_law (q0 := 0) (ci := 10) (q := (RX11, TX11, 13)) C h rfl (SW_fix rfl)) hl.1 rfl (Nat.le_of_ble_eq_true rfl) ⟨Nat.le_refl _, Nat.le_refl _⟩ dL_member_5 (fun H locs h => ?_)
  refine lv_i2l hx hb dL_member_8 rfl ?_
  refine o_store C h dL_member_9 (fun H locs h => ?_)
  refine lv_goto (tgt := 21) hx hb dL_member_10 (by decide) ?_
  refine lv_iconst (v := (0 : Int32)) hx hb dL_member_21 (by decide) ?_
  exact m_iret C h dL_member_22

set_option maxHeartbeats 4000000 in
set_option maxRecDepth 100000 in
theorem xL_member_2 (hst : l.stackTraces = false) {p0 : Int32} {p1 : Int32} (hf : fX11_member P g p0 p1 = some (Sum.inl 2, g')) : WCon l D cs adK adV yL_member cL_member 5 [(0, 10, 13, 19), (0, 10, 17, 13)] (rA 8 1 6) 1 6 [.ref (ad 0), .int p0, .int p1, .ref aO] (SW cs ad al P g ++ outC cs aO fo :: Wm) (1 : Int32) (SW cs ad al P g' ++ outC cs aO fo :: Wm) := by
  refine WCon.of hst (by decide) (Nat.le_of_ble_eq_true rfl) ?_
  intro p e s m args below meth c A ls H locs C hL htb h hl
  have hx := C.1
  have hb := C.2.1
  have C : MCx p s m args meth c A RL cL_member 5 (some .int) D cs := C
  have hl : lv_has ls 5 [(0, .ref (ad 0)), (1, .int p0), (2, .int p1), (3, .ref aO)] := hl
  refine lv_aload_n hx hb dL_member_0 rfl (lv_at hl 3 rfl) ?_
  refine lv_iconst (v := (0 : Int32)) hx hb dL_member_1 (by decide) ?_
  refine lv_aload_n hx hb dL_member_2 rfl (lv_at hl 0 rfl) ?_
  refine lv_iload_n hx hb dL_member_3 rfl (lv_at hl 1 rfl) ?_
  refine lv_iload_n hx hb dL_member_4 rfl (lv_at hl 2 rfl) ?_
  refine f_catch (rest := [.int (0 : Int32), .ref aO]) (W2 := outC cs aO fo :: Wm) [.int p0, .int p1] C hL h cv_L_15 (tX11_member hst hf) rfl ⟨rfl, rfl⟩ ⟨Nat.le_of_ble_eq_true rfl, Nat.le_of_ble_eq_true rfl⟩ (rv_law (q0 := 0) (ci := 10) (q := (RX11, TX11, 13)) C h rfl (SW_fix rfl)) hl.1 rfl (Nat.le_of_ble_eq_true rfl) ⟨Nat.le_refl 1, Nat.le_refl 6⟩ dL_member_5 [] ⟨0, 10, 13, 19⟩ [⟨0, 10, 17, 13⟩] (htb.trans rfl) ⟨by decide, by decide⟩ (fun z hz => absurd hz List.not_mem_nil) (by decide) (by decide) tb_25_13 (fun q H locs h => ?_)
  refine lv_astore (lv' := [(4, .ref q), (0, .ref (ad 0)), (1, .int p0), (2, .int p1), (3, .ref aO)]) hx hb dL_member_13 hl (by decide) rfl (fun ls hl => ?_)
  refine lv_iconst (v := (1 : Int32)) hx hb dL_member_15 (by decide) ?_
  exact m_iret C h dL_member_16

set_option maxHeartbeats 4000000 in
set_option maxRecDepth 100000 in
theorem xL_member_1 (hst : l.stackTraces = false) {p0 : Int32} {p1 : Int32} (hf : fX11_member P g p0 p1 = some (Sum.inl 1, g')) : WCon l D cs adK adV yL_member cL_member 5 [(0, 10, 13, 19), (0, 10, 17, 13)] (rA 8 1 6) 1 6 [.ref (ad 0), .int p0, .int p1, .ref aO] (SW cs ad al P g ++ outC cs aO fo :: Wm) (2 : Int32) (SW cs ad al P g' ++ outC cs aO fo :: Wm) := by
  refine WCon.of hst (by decide) (Nat.le_of_ble_eq_true rfl) ?_
  intro p e s m args below meth c A ls H locs C hL htb h hl
  have hx := C.1
  have hb := C.2.1
  have C : MCx p s m args meth c A RL cL_member 5 (some .int) D cs := C
  have hl : lv_has ls 5 [(0, .ref (ad 0)), (1, .int p0), (2, .int p1), (3, .ref aO)] := hl
  refine lv_aload_n hx hb dL_member_0 rfl (lv_at hl 3 rfl) ?_
  refine lv_iconst (v := (0 : Int32)) hx hb dL_member_1 (by decide) ?_
  refine lv_aload_n hx hb dL_member_2 rfl (lv_at hl 0 rfl) ?_
  refine lv_iload_n hx hb dL_member_3 rfl (lv_at hl 1 rfl) ?_
  refine lv_iload_n hx hb dL_member_4 rfl (lv_at hl 2 rfl) ?_
  refine f_catch (rest := [.int (0 : Int32), .ref aO]) (W2 := outC cs aO fo :: Wm) [.int p0, .int p1] C hL h cv_L_15 (tX11_member hst hf) rfl ⟨rfl, rfl⟩ ⟨Nat.le_of_ble_eq_true rfl, Nat.le_of_ble_eq_true rfl⟩ (rv_law (q0 := 0) (ci := 10) (q := (RX11, TX11, 13)) C h rfl (SW_fix rfl)) hl.1 rfl (Nat.le_of_ble_eq_true rfl) ⟨Nat.le_refl 1, Nat.le_refl 6⟩ dL_member_5 [⟨0, 10, 13, 19⟩] ⟨0, 10, 17, 13⟩ [] (htb.trans rfl) ⟨by decide, by decide⟩ (by
    intro z hz
    simp only [List.mem_cons, List.not_mem_nil, or_false] at hz
    rcases hz with hz
    · subst hz
      exact ⟨by decide, 2, by decide, by decide, by decide, tb_25_13⟩) (by decide) (by decide) tb_8_23 (fun q H locs h => ?_)
  refine lv_astore (lv' := [(4, .ref q), (0, .ref (ad 0)), (1, .int p0), (2, .int p1), (3, .ref aO)]) hx hb dL_member_17 hl (by decide) rfl (fun ls hl => ?_)
  refine lv_iconst (v := (2 : Int32)) hx hb dL_member_19 (by decide) ?_
  exact m_iret C h dL_member_20

set_option maxHeartbeats 4000000 in
set_option maxRecDepth 100000 in
theorem nL_drags (hst : l.stackTraces = false) {p0 : Int32} {r : Int32} (hf : fX11_drags P g p0 = some (Sum.inr r, g')) : WCon l D cs adK adV yL_drags cL_drags 4 [(0, 9, 12, 19)] (rM 5) 0 0 [.ref (ad 0), .int p0, .ref aO] (SW cs ad al P g ++ outC cs aO fo :: Wm) (0 : Int32) (SW cs ad al P g' ++ outC cs aO (vp_updL fo 0 r.toInt64) :: Wm) := by
  refine WCon.of hst (by decide) (Nat.le_of_ble_eq_true rfl) ?_
  intro p e s m args below meth c A ls H locs C hL htb h hl
  have hx := C.1
  have hb := C.2.1
  have C : MCx p s m args meth c A RL cL_drags 4 (some .int) D cs := C
  have hl : lv_has ls 4 [(0, .ref (ad 0)), (1, .int p0), (2, .ref aO)] := hl
  refine lv_aload_n hx hb dL_drags_0 rfl (lv_at hl 2 rfl) ?_
  refine lv_iconst (v := (0 : Int32)) hx hb dL_drags_1 (by decide) ?_
  refine lv_aload_n hx hb dL_drags_2 rfl (lv_at hl 0 rfl) ?_
  refine lv_iload_n hx hb dL_drags_3 rfl (lv_at hl 1 rfl) ?_
  refine f_callV (r := some (.int r)) (rest := [.int (0 : Int32), .ref aO]) (W2 := outC cs aO fo :: Wm) [.int p0] C h cv_L_21 (qX11_drags hf) rfl ⟨rfl, rfl⟩ ⟨Nat.le_of_ble_eq_true rfl, Nat.le_of_ble_eq_true rfl⟩ (rv_law (q0 := 0) (ci := 10) (q := (RX11, TX11, 13)) C h rfl (SW_fix rfl)) hl.1 rfl (Nat.le_of_ble_eq_true rfl) ⟨Nat.le_refl _, Nat.le_refl _⟩ dL_drags_4 (fun H locs h => ?_)
  refine lv_i2l hx hb dL_drags_7 rfl ?_
  refine o_store C h dL_drags_8 (fun H locs h => ?_)
  refine lv_goto (tgt := 15) hx hb dL_drags_9 (by decide) ?_
  refine lv_iconst (v := (0 : Int32)) hx hb dL_drags_15 (by decide) ?_
  exact m_iret C h dL_drags_16

set_option maxHeartbeats 4000000 in
set_option maxRecDepth 100000 in
theorem xL_drags_2 (hst : l.stackTraces = false) {p0 : Int32} (hf : fX11_drags P g p0 = some (Sum.inl 2, g')) : WCon l D cs adK adV yL_drags cL_drags 4 [(0, 9, 12, 19)] (rA 8 1 6) 1 6 [.ref (ad 0), .int p0, .ref aO] (SW cs ad al P g ++ outC cs aO fo :: Wm) (1 : Int32) (SW cs ad al P g' ++ outC cs aO fo :: Wm) := by
  refine WCon.of hst (by decide) (Nat.le_of_ble_eq_true rfl) ?_
  intro p e s m args below meth c A ls H locs C hL htb h hl
  have hx := C.1
  have hb := C.2.1
  have C : MCx p s m args meth c A RL cL_drags 4 (some .int) D cs := C
  have hl : lv_has ls 4 [(0, .ref (ad 0)), (1, .int p0), (2, .ref aO)] := hl
  refine lv_aload_n hx hb dL_drags_0 rfl (lv_at hl 2 rfl) ?_
  refine lv_iconst (v := (0 : Int32)) hx hb dL_drags_1 (by decide) ?_
  refine lv_aload_n hx hb dL_drags_2 rfl (lv_at hl 0 rfl) ?_
  refine lv_iload_n hx hb dL_drags_3 rfl (lv_at hl 1 rfl) ?_
  refine f_catch (rest := [.int (0 : Int32), .ref aO]) (W2 := outC cs aO fo :: Wm) [.int p0] C hL h cv_L_21 (tX11_drags hst hf) rfl ⟨rfl, rfl⟩ ⟨Nat.le_of_ble_eq_true rfl, Nat.le_of_ble_eq_true rfl⟩ (rv_law (q0 := 0) (ci := 10) (q := (RX11, TX11, 13)) C h rfl (SW_fix rfl)) hl.1 rfl (Nat.le_of_ble_eq_true rfl) ⟨Nat.le_refl 1, Nat.le_refl 6⟩ dL_drags_4 [] ⟨0, 9, 12, 19⟩ [] (htb.trans rfl) ⟨by decide, by decide⟩ (fun z hz => absurd hz List.not_mem_nil) (by decide) (by decide) tb_25_13 (fun q H locs h => ?_)
  refine lv_astore_n (lv' := [(3, .ref q), (0, .ref (ad 0)), (1, .int p0), (2, .ref aO)]) hx hb dL_drags_12 rfl hl (by decide) rfl (fun ls hl => ?_)
  refine lv_iconst (v := (1 : Int32)) hx hb dL_drags_13 (by decide) ?_
  exact m_iret C h dL_drags_14

set_option maxHeartbeats 4000000 in
set_option maxRecDepth 100000 in
theorem nL_goes (hst : l.stackTraces = false) {p0 : Int32} {r : Int32} (hf : fX11_goes P g p0 = some (Sum.inr r, g')) : WCon l D cs adK adV yL_goes cL_goes 4 [(0, 9, 12, 19)] (rM 4) 0 0 [.ref (ad 0), .int p0, .ref aO] (SW cs ad al P g ++ outC cs aO fo :: Wm) (0 : Int32) (SW cs ad al P g' ++ outC cs aO (vp_updL fo 0 r.toInt64) :: Wm) := by
  refine WCon.of hst (by decide) (Nat.le_of_ble_eq_true rfl) ?_
  intro p e s m args below meth c A ls H locs C hL htb h hl
  have hx := C.1
  have hb := C.2.1
  have C : MCx p s m args meth c A RL cL_goes 4 (some .int) D cs := C
  have hl : lv_has ls 4 [(0, .ref (ad 0)), (1, .int p0), (2, .ref aO)] := hl
  refine lv_aload_n hx hb dL_goes_0 rfl (lv_at hl 2 rfl) ?_
  refine lv_iconst (v := (0 : Int32)) hx hb dL_goes_1 (by decide) ?_
  refine lv_aload_n hx hb dL_goes_2 rfl (lv_at hl 0 rfl) ?_
  refine lv_iload_n hx hb dL_goes_3 rfl (lv_at hl 1 rfl) ?_
  refine f_callV (r := some (.int r)) (rest := [.int (0 : Int32), .ref aO]) (W2 := outC cs aO fo :: Wm) [.int p0] C h cv_L_24 (qX11_goes hf) rfl ⟨rfl, rfl⟩ ⟨Nat.le_of_ble_eq_true rfl, Nat.le_of_ble_eq_true rfl⟩ (rv_law (q0 := 0) (ci := 10) (q := (RX11, TX11, 13)) C h rfl (SW_fix rfl)) hl.1 rfl (Nat.le_of_ble_eq_true rfl) ⟨Nat.le_refl _, Nat.le_refl _⟩ dL_goes_4 (fun H locs h => ?_)
  refine lv_i2l hx hb dL_goes_7 rfl ?_
  refine o_store C h dL_goes_8 (fun H locs h => ?_)
  refine lv_goto (tgt := 15) hx hb dL_goes_9 (by decide) ?_
  refine lv_iconst (v := (0 : Int32)) hx hb dL_goes_15 (by decide) ?_
  exact m_iret C h dL_goes_16

set_option maxHeartbeats 4000000 in
set_option maxRecDepth 100000 in
theorem xL_goes_2 (hst : l.stackTraces = false) {p0 : Int32} (hf : fX11_goes P g p0 = some (Sum.inl 2, g')) : WCon l D cs adK adV yL_goes cL_goes 4 [(0, 9, 12, 19)] (rA 8 1 6) 1 6 [.ref (ad 0), .int p0, .ref aO] (SW cs ad al P g ++ outC cs aO fo :: Wm) (1 : Int32) (SW cs ad al P g' ++ outC cs aO fo :: Wm) := by
  refine WCon.of hst (by decide) (Nat.le_of_ble_eq_true rfl) ?_
  intro p e s m args below meth c A ls H locs C hL htb h hl
  have hx := C.1
  have hb := C.2.1
  have C : MCx p s m args meth c A RL cL_goes 4 (some .int) D cs := C
  have hl : lv_has ls 4 [(0, .ref (ad 0)), (1, .int p0), (2, .ref aO)] := hl
  refine lv_aload_n hx hb dL_goes_0 rfl (lv_at hl 2 rfl) ?_
  refine lv_iconst (v := (0 : Int32)) hx hb dL_goes_1 (by decide) ?_
  refine lv_aload_n hx hb dL_goes_2 rfl (lv_at hl 0 rfl) ?_
  refine lv_iload_n hx hb dL_goes_3 rfl (lv_at hl 1 rfl) ?_
  refine f_catch (rest := [.int (0 : Int32), .ref aO]) (W2 := outC cs aO fo :: Wm) [.int p0] C hL h cv_L_24 (tX11_goes hst hf) rfl ⟨rfl, rfl⟩ ⟨Nat.le_of_ble_eq_true rfl, Nat.le_of_ble_eq_true rfl⟩ (rv_law (q0 := 0) (ci := 10) (q := (RX11, TX11, 13)) C h rfl (SW_fix rfl)) hl.1 rfl (Nat.le_of_ble_eq_true rfl) ⟨Nat.le_refl 1, Nat.le_refl 6⟩ dL_goes_4 [] ⟨0, 9, 12, 19⟩ [] (htb.trans rfl) ⟨by decide, by decide⟩ (fun z hz => absurd hz List.not_mem_nil) (by decide) (by decide) tb_25_13 (fun q H locs h => ?_)
  refine lv_astore_n (lv' := [(3, .ref q), (0, .ref (ad 0)), (1, .int p0), (2, .ref aO)]) hx hb dL_goes_12 rfl hl (by decide) rfl (fun ls hl => ?_)
  refine lv_iconst (v := (1 : Int32)) hx hb dL_goes_13 (by decide) ?_
  exact m_iret C h dL_goes_14

set_option maxHeartbeats 4000000 in
set_option maxRecDepth 100000 in
theorem nL_minutes (hst : l.stackTraces = false) {p0 : Int32} {r : Int32} (hf : fX11_minutes P g p0 = some (Sum.inr r, g')) : WCon l D cs adK adV yL_minutes cL_minutes 4 [(0, 9, 12, 13)] (rM 5) 0 0 [.ref (ad 0), .int p0, .ref aO] (SW cs ad al P g ++ outC cs aO fo :: Wm) (0 : Int32) (SW cs ad al P g' ++ outC cs aO (vp_updL fo 0 r.toInt64) :: Wm) := by
  refine WCon.of hst (by decide) (Nat.le_of_ble_eq_true rfl) ?_
  intro p e s m args below meth c A ls H locs C hL htb h hl
  have hx := C.1
  have hb := C.2.1
  have C : MCx p s m args meth c A RL cL_minutes 4 (some .int) D cs := C
  have hl : lv_has ls 4 [(0, .ref (ad 0)), (1, .int p0), (2, .ref aO)] := hl
  refine lv_aload_n hx hb dL_minutes_0 rfl (lv_at hl 2 rfl) ?_
  refine lv_iconst (v := (0 : Int32)) hx hb dL_minutes_1 (by decide) ?_
  refine lv_aload_n hx hb dL_minutes_2 rfl (lv_at hl 0 rfl) ?_
  refine lv_iload_n hx hb dL_minutes_3 rfl (lv_at hl 1 rfl) ?_
  refine f_callV (r := some (.int r)) (rest := [.int (0 : Int32), .ref aO]) (W2 := outC cs aO fo :: Wm) [.int p0] C h cv_L_27 (qX11_minutes hf) rfl ⟨rfl, rfl⟩ ⟨Nat.le_of_ble_eq_true rfl, Nat.le_of_ble_eq_true rfl⟩ (rv_law (q0 := 0) (ci := 10) (q := (RX11, TX11, 13)) C h rfl (SW_fix rfl)) hl.1 rfl (Nat.le_of_ble_eq_true rfl) ⟨Nat.le_refl _, Nat.le_refl _⟩ dL_minutes_4 (fun H locs h => ?_)
  refine lv_i2l hx hb dL_minutes_7 rfl ?_
  refine o_store C h dL_minutes_8 (fun H locs h => ?_)
  refine lv_goto (tgt := 15) hx hb dL_minutes_9 (by decide) ?_
  refine lv_iconst (v := (0 : Int32)) hx hb dL_minutes_15 (by decide) ?_
  exact m_iret C h dL_minutes_16

set_option maxHeartbeats 4000000 in
set_option maxRecDepth 100000 in
theorem xL_minutes_1 (hst : l.stackTraces = false) {p0 : Int32} (hf : fX11_minutes P g p0 = some (Sum.inl 1, g')) : WCon l D cs adK adV yL_minutes cL_minutes 4 [(0, 9, 12, 13)] (rA 7 1 6) 1 6 [.ref (ad 0), .int p0, .ref aO] (SW cs ad al P g ++ outC cs aO fo :: Wm) (1 : Int32) (SW cs ad al P g' ++ outC cs aO fo :: Wm) := by
  refine WCon.of hst (by decide) (Nat.le_of_ble_eq_true rfl) ?_
  intro p e s m args below meth c A ls H locs C hL htb h hl
  have hx := C.1
  have hb := C.2.1
  have C : MCx p s m args meth c A RL cL_minutes 4 (some .int) D cs := C
  have hl : lv_has ls 4 [(0, .ref (ad 0)), (1, .int p0), (2, .ref aO)] := hl
  refine lv_aload_n hx hb dL_minutes_0 rfl (lv_at hl 2 rfl) ?_
  refine lv_iconst (v := (0 : Int32)) hx hb dL_minutes_1 (by decide) ?_
  refine lv_aload_n hx hb dL_minutes_2 rfl (lv_at hl 0 rfl) ?_
  refine lv_iload_n hx hb dL_minutes_3 rfl (lv_at hl 1 rfl) ?_
  refine f_catch (rest := [.int (0 : Int32), .ref aO]) (W2 := outC cs aO fo :: Wm) [.int p0] C hL h cv_L_27 (tX11_minutes hst hf) rfl ⟨rfl, rfl⟩ ⟨Nat.le_of_ble_eq_true rfl, Nat.le_of_ble_eq_true rfl⟩ (rv_law (q0 := 0) (ci := 10) (q := (RX11, TX11, 13)) C h rfl (SW_fix rfl)) hl.1 rfl (Nat.le_of_ble_eq_true rfl) ⟨Nat.le_refl 1, Nat.le_refl 6⟩ dL_minutes_4 [] ⟨0, 9, 12, 13⟩ [] (htb.trans rfl) ⟨by decide, by decide⟩ (fun z hz => absurd hz List.not_mem_nil) (by decide) (by decide) tb_8_23 (fun q H locs h => ?_)
  refine lv_astore_n (lv' := [(3, .ref q), (0, .ref (ad 0)), (1, .int p0), (2, .ref aO)]) hx hb dL_minutes_12 rfl hl (by decide) rfl (fun ls hl => ?_)
  refine lv_iconst (v := (1 : Int32)) hx hb dL_minutes_13 (by decide) ?_
  exact m_iret C h dL_minutes_14

set_option maxHeartbeats 4000000 in
set_option maxRecDepth 100000 in
theorem nL_undo (hst : l.stackTraces = false) {p0 : Int32} {r : Int32} (hf : fX11_undo P g p0 = some (Sum.inr r, g')) : WCon l D cs adK adV yL_undo cL_undo 4 [(0, 9, 12, 13)] (rM 2) 0 0 [.ref (ad 0), .int p0, .ref aO] (SW cs ad al P g ++ outC cs aO fo :: Wm) (0 : Int32) (SW cs ad al P g' ++ outC cs aO (vp_updL fo 0 r.toInt64) :: Wm) := by
  refine WCon.of hst (by decide) (Nat.le_of_ble_eq_true rfl) ?_
  intro p e s m args below meth c A ls H locs C hL htb h hl
  have hx := C.1
  have hb := C.2.1
  have C : MCx p s m args meth c A RL cL_undo 4 (some .int) D cs := C
  have hl : lv_has ls 4 [(0, .ref (ad 0)), (1, .int p0), (2, .ref aO)] := hl
  refine lv_aload_n hx hb dL_undo_0 rfl (lv_at hl 2 rfl) ?_
  refine lv_iconst (v := (0 : Int32)) hx hb dL_undo_1 (by decide) ?_
  refine lv_aload_n hx hb dL_undo_2 rfl (lv_at hl 0 rfl) ?_
  refine lv_iload_n hx hb dL_undo_3 rfl (lv_at hl 1 rfl) ?_
  refine f_callV (r := some (.int r)) (rest := [.int (0 : Int32), .ref aO]) (W2 := outC cs aO fo :: Wm) [.int p0] C h cv_L_30 (qX11_undo hf) rfl ⟨rfl, rfl⟩ ⟨Nat.le_of_ble_eq_true rfl, Nat.le_of_ble_eq_true rfl⟩ (rv_law (q0 := 0) (ci := 10) (q := (RX11, TX11, 13)) C h rfl (SW_fix rfl)) hl.1 rfl (Nat.le_of_ble_eq_true rfl) ⟨Nat.le_refl _, Nat.le_refl _⟩ dL_undo_4 (fun H locs h => ?_)
  refine lv_i2l hx hb dL_undo_7 rfl ?_
  refine o_store C h dL_undo_8 (fun H locs h => ?_)
  refine lv_goto (tgt := 15) hx hb dL_undo_9 (by decide) ?_
  refine lv_iconst (v := (0 : Int32)) hx hb dL_undo_15 (by decide) ?_
  exact m_iret C h dL_undo_16

set_option maxHeartbeats 4000000 in
set_option maxRecDepth 100000 in
theorem xL_undo_1 (hst : l.stackTraces = false) {p0 : Int32} (hf : fX11_undo P g p0 = some (Sum.inl 1, g')) : WCon l D cs adK adV yL_undo cL_undo 4 [(0, 9, 12, 13)] (rA 7 1 6) 1 6 [.ref (ad 0), .int p0, .ref aO] (SW cs ad al P g ++ outC cs aO fo :: Wm) (1 : Int32) (SW cs ad al P g' ++ outC cs aO fo :: Wm) := by
  refine WCon.of hst (by decide) (Nat.le_of_ble_eq_true rfl) ?_
  intro p e s m args below meth c A ls H locs C hL htb h hl
  have hx := C.1
  have hb := C.2.1
  have C : MCx p s m args meth c A RL cL_undo 4 (some .int) D cs := C
  have hl : lv_has ls 4 [(0, .ref (ad 0)), (1, .int p0), (2, .ref aO)] := hl
  refine lv_aload_n hx hb dL_undo_0 rfl (lv_at hl 2 rfl) ?_
  refine lv_iconst (v := (0 : Int32)) hx hb dL_undo_1 (by decide) ?_
  refine lv_aload_n hx hb dL_undo_2 rfl (lv_at hl 0 rfl) ?_
  refine lv_iload_n hx hb dL_undo_3 rfl (lv_at hl 1 rfl) ?_
  refine f_catch (rest := [.int (0 : Int32), .ref aO]) (W2 := outC cs aO fo :: Wm) [.int p0] C hL h cv_L_30 (tX11_undo hst hf) rfl ⟨rfl, rfl⟩ ⟨Nat.le_of_ble_eq_true rfl, Nat.le_of_ble_eq_true rfl⟩ (rv_law (q0 := 0) (ci := 10) (q := (RX11, TX11, 13)) C h rfl (SW_fix rfl)) hl.1 rfl (Nat.le_of_ble_eq_true rfl) ⟨Nat.le_refl 1, Nat.le_refl 6⟩ dL_undo_4 [] ⟨0, 9, 12, 13⟩ [] (htb.trans rfl) ⟨by decide, by decide⟩ (fun z hz => absurd hz List.not_mem_nil) (by decide) (by decide) tb_8_23 (fun q H locs h => ?_)
  refine lv_astore_n (lv' := [(3, .ref q), (0, .ref (ad 0)), (1, .int p0), (2, .ref aO)]) hx hb dL_undo_12 rfl hl (by decide) rfl (fun ls hl => ?_)
  refine lv_iconst (v := (1 : Int32)) hx hb dL_undo_13 (by decide) ?_
  exact m_iret C h dL_undo_14

set_option maxHeartbeats 4000000 in
set_option maxRecDepth 100000 in
theorem nL_judge (hst : l.stackTraces = false) {p0 : Int32} {p1 : Int32} {r : Int32} (hf : fX11_judge P g p0 p1 = some (Sum.inr r, g')) : WCon l D cs adK adV yL_judge cL_judge 5 [(0, 10, 13, 19), (0, 10, 17, 36), (0, 10, 21, 13)] (rM 7) 0 0 [.ref (ad 0), .int p0, .int p1, .ref aO] (SW cs ad al P g ++ outC cs aO fo :: Wm) (0 : Int32) (SW cs ad al P g' ++ outC cs aO (vp_updL fo 0 r.toInt64) :: Wm) := by
  refine WCon.of hst (by decide) (Nat.le_of_ble_eq_true rfl) ?_
  intro p e s m args below meth c A ls H locs C hL htb h hl
  have hx := C.1
  have hb := C.2.1
  have C : MCx p s m args meth c A RL cL_judge 5 (some .int) D cs := C
  have hl : lv_has ls 5 [(0, .ref (ad 0)), (1, .int p0), (2, .int p1), (3, .ref aO)] := hl
  refine lv_aload_n hx hb dL_judge_0 rfl (lv_at hl 3 rfl) ?_
  refine lv_iconst (v := (0 : Int32)) hx hb dL_judge_1 (by decide) ?_
  refine lv_aload_n hx hb dL_judge_2 rfl (lv_at hl 0 rfl) ?_
  refine lv_iload_n hx hb dL_judge_3 rfl (lv_at hl 1 rfl) ?_
  refine lv_iload_n hx hb dL_judge_4 rfl (lv_at hl 2 rfl) ?_
  refine f_callV (r := some (.int r)) (rest := [.int (0 : Int32), .ref aO]) (W2 := outC cs aO fo :: Wm) [.int p0, .int p1] C h cv_L_33 (qX11_judge hf) rfl ⟨rfl, rfl⟩ ⟨Nat.le_of_ble_eq_true rfl, Nat.le_of_ble_eq_true rfl⟩ (rv_law (q0 := 0) (ci := 10) (q := (RX11, TX11, 13)) C h rfl (SW_fix rfl)) hl.1 rfl (Nat.le_of_ble_eq_true rfl) ⟨Nat.le_refl _, Nat.le_refl _⟩ dL_judge_5 (fun H locs h => ?_)
  refine lv_i2l hx hb dL_judge_8 rfl ?_
  refine o_store C h dL_judge_9 (fun H locs h => ?_)
  refine lv_goto (tgt := 25) hx hb dL_judge_10 (by decide) ?_
  refine lv_iconst (v := (0 : Int32)) hx hb dL_judge_25 (by decide) ?_
  exact m_iret C h dL_judge_26

set_option maxHeartbeats 4000000 in
set_option maxRecDepth 100000 in
theorem xL_judge_2 (hst : l.stackTraces = false) {p0 : Int32} {p1 : Int32} (hf : fX11_judge P g p0 p1 = some (Sum.inl 2, g')) : WCon l D cs adK adV yL_judge cL_judge 5 [(0, 10, 13, 19), (0, 10, 17, 36), (0, 10, 21, 13)] (rA 8 1 6) 1 6 [.ref (ad 0), .int p0, .int p1, .ref aO] (SW cs ad al P g ++ outC cs aO fo :: Wm) (1 : Int32) (SW cs ad al P g' ++ outC cs aO fo :: Wm) := by
  refine WCon.of hst (by decide) (Nat.le_of_ble_eq_true rfl) ?_
  intro p e s m args below meth c A ls H locs C hL htb h hl
  have hx := C.1
  have hb := C.2.1
  have C : MCx p s m args meth c A RL cL_judge 5 (some .int) D cs := C
  have hl : lv_has ls 5 [(0, .ref (ad 0)), (1, .int p0), (2, .int p1), (3, .ref aO)] := hl
  refine lv_aload_n hx hb dL_judge_0 rfl (lv_at hl 3 rfl) ?_
  refine lv_iconst (v := (0 : Int32)) hx hb dL_judge_1 (by decide) ?_
  refine lv_aload_n hx hb dL_judge_2 rfl (lv_at hl 0 rfl) ?_
  refine lv_iload_n hx hb dL_judge_3 rfl (lv_at hl 1 rfl) ?_
  refine lv_iload_n hx hb dL_judge_4 rfl (lv_at hl 2 rfl) ?_
  refine f_catch (rest := [.int (0 : Int32), .ref aO]) (W2 := outC cs aO fo :: Wm) [.int p0, .int p1] C hL h cv_L_33 (tX11_judge hst hf) rfl ⟨rfl, rfl⟩ ⟨Nat.le_of_ble_eq_true rfl, Nat.le_of_ble_eq_true rfl⟩ (rv_law (q0 := 0) (ci := 10) (q := (RX11, TX11, 13)) C h rfl (SW_fix rfl)) hl.1 rfl (Nat.le_of_ble_eq_true rfl) ⟨Nat.le_refl 1, Nat.le_refl 6⟩ dL_judge_5 [] ⟨0, 10, 13, 19⟩ [⟨0, 10, 17, 36⟩, ⟨0, 10, 21, 13⟩] (htb.trans rfl) ⟨by decide, by decide⟩ (fun z hz => absurd hz List.not_mem_nil) (by decide) (by decide) tb_25_13 (fun q H locs h => ?_)
  refine lv_astore (lv' := [(4, .ref q), (0, .ref (ad 0)), (1, .int p0), (2, .int p1), (3, .ref aO)]) hx hb dL_judge_13 hl (by decide) rfl (fun ls hl => ?_)
  refine lv_iconst (v := (1 : Int32)) hx hb dL_judge_15 (by decide) ?_
  exact m_iret C h dL_judge_16

set_option maxHeartbeats 4000000 in
set_option maxRecDepth 100000 in
theorem xL_judge_3 (hst : l.stackTraces = false) {p0 : Int32} {p1 : Int32} (hf : fX11_judge P g p0 p1 = some (Sum.inl 3, g')) : WCon l D cs adK adV yL_judge cL_judge 5 [(0, 10, 13, 19), (0, 10, 17, 36), (0, 10, 21, 13)] (rA 8 1 6) 1 6 [.ref (ad 0), .int p0, .int p1, .ref aO] (SW cs ad al P g ++ outC cs aO fo :: Wm) (2 : Int32) (SW cs ad al P g' ++ outC cs aO fo :: Wm) := by
  refine WCon.of hst (by decide) (Nat.le_of_ble_eq_true rfl) ?_
  intro p e s m args below meth c A ls H locs C hL htb h hl
  have hx := C.1
  have hb := C.2.1
  have C : MCx p s m args meth c A RL cL_judge 5 (some .int) D cs := C
  have hl : lv_has ls 5 [(0, .ref (ad 0)), (1, .int p0), (2, .int p1), (3, .ref aO)] := hl
  refine lv_aload_n hx hb dL_judge_0 rfl (lv_at hl 3 rfl) ?_
  refine lv_iconst (v := (0 : Int32)) hx hb dL_judge_1 (by decide) ?_
  refine lv_aload_n hx hb dL_judge_2 rfl (lv_at hl 0 rfl) ?_
  refine lv_iload_n hx hb dL_judge_3 rfl (lv_at hl 1 rfl) ?_
  refine lv_iload_n hx hb dL_judge_4 rfl (lv_at hl 2 rfl) ?_
  refine f_catch (rest := [.int (0 : Int32), .ref aO]) (W2 := outC cs aO fo :: Wm) [.int p0, .int p1] C hL h cv_L_33 (tX11_judge hst hf) rfl ⟨rfl, rfl⟩ ⟨Nat.le_of_ble_eq_true rfl, Nat.le_of_ble_eq_true rfl⟩ (rv_law (q0 := 0) (ci := 10) (q := (RX11, TX11, 13)) C h rfl (SW_fix rfl)) hl.1 rfl (Nat.le_of_ble_eq_true rfl) ⟨Nat.le_refl 1, Nat.le_refl 6⟩ dL_judge_5 [⟨0, 10, 13, 19⟩] ⟨0, 10, 17, 36⟩ [⟨0, 10, 21, 13⟩] (htb.trans rfl) ⟨by decide, by decide⟩ (by
    intro z hz
    simp only [List.mem_cons, List.not_mem_nil, or_false] at hz
    rcases hz with hz
    · subst hz
      exact ⟨by decide, 2, by decide, by decide, by decide, tb_25_13⟩) (by decide) (by decide) tb_38_18 (fun q H locs h => ?_)
  refine lv_astore (lv' := [(4, .ref q), (0, .ref (ad 0)), (1, .int p0), (2, .int p1), (3, .ref aO)]) hx hb dL_judge_17 hl (by decide) rfl (fun ls hl => ?_)
  refine lv_iconst (v := (2 : Int32)) hx hb dL_judge_19 (by decide) ?_
  exact m_iret C h dL_judge_20

set_option maxHeartbeats 4000000 in
set_option maxRecDepth 100000 in
theorem xL_judge_1 (hst : l.stackTraces = false) {p0 : Int32} {p1 : Int32} (hf : fX11_judge P g p0 p1 = some (Sum.inl 1, g')) : WCon l D cs adK adV yL_judge cL_judge 5 [(0, 10, 13, 19), (0, 10, 17, 36), (0, 10, 21, 13)] (rA 8 1 6) 1 6 [.ref (ad 0), .int p0, .int p1, .ref aO] (SW cs ad al P g ++ outC cs aO fo :: Wm) (3 : Int32) (SW cs ad al P g' ++ outC cs aO fo :: Wm) := by
  refine WCon.of hst (by decide) (Nat.le_of_ble_eq_true rfl) ?_
  intro p e s m args below meth c A ls H locs C hL htb h hl
  have hx := C.1
  have hb := C.2.1
  have C : MCx p s m args meth c A RL cL_judge 5 (some .int) D cs := C
  have hl : lv_has ls 5 [(0, .ref (ad 0)), (1, .int p0), (2, .int p1), (3, .ref aO)] := hl
  refine lv_aload_n hx hb dL_judge_0 rfl (lv_at hl 3 rfl) ?_
  refine lv_iconst (v := (0 : Int32)) hx hb dL_judge_1 (by decide) ?_
  refine lv_aload_n hx hb dL_judge_2 rfl (lv_at hl 0 rfl) ?_
  refine lv_iload_n hx hb dL_judge_3 rfl (lv_at hl 1 rfl) ?_
  refine lv_iload_n hx hb dL_judge_4 rfl (lv_at hl 2 rfl) ?_
  refine f_catch (rest := [.int (0 : Int32), .ref aO]) (W2 := outC cs aO fo :: Wm) [.int p0, .int p1] C hL h cv_L_33 (tX11_judge hst hf) rfl ⟨rfl, rfl⟩ ⟨Nat.le_of_ble_eq_true rfl, Nat.le_of_ble_eq_true rfl⟩ (rv_law (q0 := 0) (ci := 10) (q := (RX11, TX11, 13)) C h rfl (SW_fix rfl)) hl.1 rfl (Nat.le_of_ble_eq_true rfl) ⟨Nat.le_refl 1, Nat.le_refl 6⟩ dL_judge_5 [⟨0, 10, 13, 19⟩, ⟨0, 10, 17, 36⟩] ⟨0, 10, 21, 13⟩ [] (htb.trans rfl) ⟨by decide, by decide⟩ (by
    intro z hz
    simp only [List.mem_cons, List.not_mem_nil, or_false] at hz
    rcases hz with hz | hz
    · subst hz
      exact ⟨by decide, 2, by decide, by decide, by decide, tb_25_13⟩
    · subst hz
      exact ⟨by decide, 3, by decide, by decide, by decide, tb_38_18⟩) (by decide) (by decide) tb_8_23 (fun q H locs h => ?_)
  refine lv_astore (lv' := [(4, .ref q), (0, .ref (ad 0)), (1, .int p0), (2, .int p1), (3, .ref aO)]) hx hb dL_judge_21 hl (by decide) rfl (fun ls hl => ?_)
  refine lv_iconst (v := (3 : Int32)) hx hb dL_judge_23 (by decide) ?_
  exact m_iret C h dL_judge_24

set_option maxHeartbeats 4000000 in
set_option maxRecDepth 100000 in
theorem nL_perform (hst : l.stackTraces = false) {p0 : Int32} {r : Int32} (hf : fX11_perform P g p0 = some (Sum.inr r, g')) : WCon l D cs adK adV yL_perform cL_perform 4 [(0, 9, 12, 19), (0, 9, 15, 36)] (rM 7) 0 0 [.ref (ad 0), .int p0, .ref aO] (SW cs ad al P g ++ outC cs aO fo :: Wm) (0 : Int32) (SW cs ad al P g' ++ outC cs aO (vp_updL fo 0 r.toInt64) :: Wm) := by
  refine WCon.of hst (by decide) (Nat.le_of_ble_eq_true rfl) ?_
  intro p e s m args below meth c A ls H locs C hL htb h hl
  have hx := C.1
  have hb := C.2.1
  have C : MCx p s m args meth c A RL cL_perform 4 (some .int) D cs := C
  have hl : lv_has ls 4 [(0, .ref (ad 0)), (1, .int p0), (2, .ref aO)] := hl
  refine lv_aload_n hx hb dL_perform_0 rfl (lv_at hl 2 rfl) ?_
  refine lv_iconst (v := (0 : Int32)) hx hb dL_perform_1 (by decide) ?_
  refine lv_aload_n hx hb dL_perform_2 rfl (lv_at hl 0 rfl) ?_
  refine lv_iload_n hx hb dL_perform_3 rfl (lv_at hl 1 rfl) ?_
  refine f_callV (r := some (.int r)) (rest := [.int (0 : Int32), .ref aO]) (W2 := outC cs aO fo :: Wm) [.int p0] C h cv_L_38 (qX11_perform hf) rfl ⟨rfl, rfl⟩ ⟨Nat.le_of_ble_eq_true rfl, Nat.le_of_ble_eq_true rfl⟩ (rv_law (q0 := 0) (ci := 10) (q := (RX11, TX11, 13)) C h rfl (SW_fix rfl)) hl.1 rfl (Nat.le_of_ble_eq_true rfl) ⟨Nat.le_refl _, Nat.le_refl _⟩ dL_perform_4 (fun H locs h => ?_)
  refine lv_i2l hx hb dL_perform_7 rfl ?_
  refine o_store C h dL_perform_8 (fun H locs h => ?_)
  refine lv_goto (tgt := 18) hx hb dL_perform_9 (by decide) ?_
  refine lv_iconst (v := (0 : Int32)) hx hb dL_perform_18 (by decide) ?_
  exact m_iret C h dL_perform_19

set_option maxHeartbeats 4000000 in
set_option maxRecDepth 100000 in
theorem xL_perform_2 (hst : l.stackTraces = false) {p0 : Int32} (hf : fX11_perform P g p0 = some (Sum.inl 2, g')) : WCon l D cs adK adV yL_perform cL_perform 4 [(0, 9, 12, 19), (0, 9, 15, 36)] (rA 8 1 6) 1 6 [.ref (ad 0), .int p0, .ref aO] (SW cs ad al P g ++ outC cs aO fo :: Wm) (1 : Int32) (SW cs ad al P g' ++ outC cs aO fo :: Wm) := by
  refine WCon.of hst (by decide) (Nat.le_of_ble_eq_true rfl) ?_
  intro p e s m args below meth c A ls H locs C hL htb h hl
  have hx := C.1
  have hb := C.2.1
  have C : MCx p s m args meth c A RL cL_perform 4 (some .int) D cs := C
  have hl : lv_has ls 4 [(0, .ref (ad 0)), (1, .int p0), (2, .ref aO)] := hl
  refine lv_aload_n hx hb dL_perform_0 rfl (lv_at hl 2 rfl) ?_
  refine lv_iconst (v := (0 : Int32)) hx hb dL_perform_1 (by decide) ?_
  refine lv_aload_n hx hb dL_perform_2 rfl (lv_at hl 0 rfl) ?_
  refine lv_iload_n hx hb dL_perform_3 rfl (lv_at hl 1 rfl) ?_
  refine f_catch (rest := [.int (0 : Int32), .ref aO]) (W2 := outC cs aO fo :: Wm) [.int p0] C hL h cv_L_38 (tX11_perform hst hf) rfl ⟨rfl, rfl⟩ ⟨Nat.le_of_ble_eq_true rfl, Nat.le_of_ble_eq_true rfl⟩ (rv_law (q0 := 0) (ci := 10) (q := (RX11, TX11, 13)) C h rfl (SW_fix rfl)) hl.1 rfl (Nat.le_of_ble_eq_true rfl) ⟨Nat.le_refl 1, Nat.le_refl 6⟩ dL_perform_4 [] ⟨0, 9, 12, 19⟩ [⟨0, 9, 15, 36⟩] (htb.trans rfl) ⟨by decide, by decide⟩ (fun z hz => absurd hz List.not_mem_nil) (by decide) (by decide) tb_25_13 (fun q H locs h => ?_)
  refine lv_astore_n (lv' := [(3, .ref q), (0, .ref (ad 0)), (1, .int p0), (2, .ref aO)]) hx hb dL_perform_12 rfl hl (by decide) rfl (fun ls hl => ?_)
  refine lv_iconst (v := (1 : Int32)) hx hb dL_perform_13 (by decide) ?_
  exact m_iret C h dL_perform_14

set_option maxHeartbeats 4000000 in
set_option maxRecDepth 100000 in
theorem xL_perform_3 (hst : l.stackTraces = false) {p0 : Int32} (hf : fX11_perform P g p0 = some (Sum.inl 3, g')) : WCon l D cs adK adV yL_perform cL_perform 4 [(0, 9, 12, 19), (0, 9, 15, 36)] (rA 8 1 6) 1 6 [.ref (ad 0), .int p0, .ref aO] (SW cs ad al P g ++ outC cs aO fo :: Wm) (2 : Int32) (SW cs ad al P g' ++ outC cs aO fo :: Wm) := by
  refine WCon.of hst (by decide) (Nat.le_of_ble_eq_true rfl) ?_
  intro p e s m args below meth c A ls H locs C hL htb h hl
  have hx := C.1
  have hb := C.2.1
  have C : MCx p s m args meth c A RL cL_perform 4 (some .int) D cs := C
  have hl : lv_has ls 4 [(0, .ref (ad 0)), (1, .int p0), (2, .ref aO)] := hl
  refine lv_aload_n hx hb dL_perform_0 rfl (lv_at hl 2 rfl) ?_
  refine lv_iconst (v := (0 : Int32)) hx hb dL_perform_1 (by decide) ?_
  refine lv_aload_n hx hb dL_perform_2 rfl (lv_at hl 0 rfl) ?_
  refine lv_iload_n hx hb dL_perform_3 rfl (lv_at hl 1 rfl) ?_
  refine f_catch (rest := [.int (0 : Int32), .ref aO]) (W2 := outC cs aO fo :: Wm) [.int p0] C hL h cv_L_38 (tX11_perform hst hf) rfl ⟨rfl, rfl⟩ ⟨Nat.le_of_ble_eq_true rfl, Nat.le_of_ble_eq_true rfl⟩ (rv_law (q0 := 0) (ci := 10) (q := (RX11, TX11, 13)) C h rfl (SW_fix rfl)) hl.1 rfl (Nat.le_of_ble_eq_true rfl) ⟨Nat.le_refl 1, Nat.le_refl 6⟩ dL_perform_4 [⟨0, 9, 12, 19⟩] ⟨0, 9, 15, 36⟩ [] (htb.trans rfl) ⟨by decide, by decide⟩ (by
    intro z hz
    simp only [List.mem_cons, List.not_mem_nil, or_false] at hz
    rcases hz with hz
    · subst hz
      exact ⟨by decide, 2, by decide, by decide, by decide, tb_25_13⟩) (by decide) (by decide) tb_38_18 (fun q H locs h => ?_)
  refine lv_astore_n (lv' := [(3, .ref q), (0, .ref (ad 0)), (1, .int p0), (2, .ref aO)]) hx hb dL_perform_15 rfl hl (by decide) rfl (fun ls hl => ?_)
  refine lv_iconst (v := (2 : Int32)) hx hb dL_perform_16 (by decide) ?_
  exact m_iret C h dL_perform_17

set_option maxHeartbeats 4000000 in
set_option maxRecDepth 100000 in
theorem nL_session (hst : l.stackTraces = false) {p0 : Int32} {p1 : Int32} {r : Int32} (hf : fX11_session P g p0 p1 = some (Sum.inr r, g')) : WCon l D cs adK adV yL_session cL_session 5 [(0, 10, 13, 13)] (rM 8) 0 0 [.ref (ad 0), .int p0, .int p1, .ref aO] (SW cs ad al P g ++ outC cs aO fo :: Wm) (0 : Int32) (SW cs ad al P g' ++ outC cs aO (vp_updL fo 0 r.toInt64) :: Wm) := by
  refine WCon.of hst (by decide) (Nat.le_of_ble_eq_true rfl) ?_
  intro p e s m args below meth c A ls H locs C hL htb h hl
  have hx := C.1
  have hb := C.2.1
  have C : MCx p s m args meth c A RL cL_session 5 (some .int) D cs := C
  have hl : lv_has ls 5 [(0, .ref (ad 0)), (1, .int p0), (2, .int p1), (3, .ref aO)] := hl
  refine lv_aload_n hx hb dL_session_0 rfl (lv_at hl 3 rfl) ?_
  refine lv_iconst (v := (0 : Int32)) hx hb dL_session_1 (by decide) ?_
  refine lv_aload_n hx hb dL_session_2 rfl (lv_at hl 0 rfl) ?_
  refine lv_iload_n hx hb dL_session_3 rfl (lv_at hl 1 rfl) ?_
  refine lv_iload_n hx hb dL_session_4 rfl (lv_at hl 2 rfl) ?_
  refine f_callV (r := some (.int r)) (rest := [.int (0 : Int32), .ref aO]) (W2 := outC cs aO fo :: Wm) [.int p0, .int p1] C h cv_L_41 (qX11_session hf) rfl ⟨rfl, rfl⟩ ⟨Nat.le_of_ble_eq_true rfl, Nat.le_of_ble_eq_true rfl⟩ (rv_law (q0 := 0) (ci := 10) (q := (RX11, TX11, 13)) C h rfl (SW_fix rfl)) hl.1 rfl (Nat.le_of_ble_eq_true rfl) ⟨Nat.le_refl _, Nat.le_refl _⟩ dL_session_5 (fun H locs h => ?_)
  refine lv_i2l hx hb dL_session_8 rfl ?_
  refine o_store C h dL_session_9 (fun H locs h => ?_)
  refine lv_goto (tgt := 17) hx hb dL_session_10 (by decide) ?_
  refine lv_iconst (v := (0 : Int32)) hx hb dL_session_17 (by decide) ?_
  exact m_iret C h dL_session_18

set_option maxHeartbeats 4000000 in
set_option maxRecDepth 100000 in
theorem xL_session_1 (hst : l.stackTraces = false) {p0 : Int32} {p1 : Int32} (hf : fX11_session P g p0 p1 = some (Sum.inl 1, g')) : WCon l D cs adK adV yL_session cL_session 5 [(0, 10, 13, 13)] (rA 8 1 6) 1 6 [.ref (ad 0), .int p0, .int p1, .ref aO] (SW cs ad al P g ++ outC cs aO fo :: Wm) (1 : Int32) (SW cs ad al P g' ++ outC cs aO fo :: Wm) := by
  refine WCon.of hst (by decide) (Nat.le_of_ble_eq_true rfl) ?_
  intro p e s m args below meth c A ls H locs C hL htb h hl
  have hx := C.1
  have hb := C.2.1
  have C : MCx p s m args meth c A RL cL_session 5 (some .int) D cs := C
  have hl : lv_has ls 5 [(0, .ref (ad 0)), (1, .int p0), (2, .int p1), (3, .ref aO)] := hl
  refine lv_aload_n hx hb dL_session_0 rfl (lv_at hl 3 rfl) ?_
  refine lv_iconst (v := (0 : Int32)) hx hb dL_session_1 (by decide) ?_
  refine lv_aload_n hx hb dL_session_2 rfl (lv_at hl 0 rfl) ?_
  refine lv_iload_n hx hb dL_session_3 rfl (lv_at hl 1 rfl) ?_
  refine lv_iload_n hx hb dL_session_4 rfl (lv_at hl 2 rfl) ?_
  refine f_catch (rest := [.int (0 : Int32), .ref aO]) (W2 := outC cs aO fo :: Wm) [.int p0, .int p1] C hL h cv_L_41 (tX11_session hst hf) rfl ⟨rfl, rfl⟩ ⟨Nat.le_of_ble_eq_true rfl, Nat.le_of_ble_eq_true rfl⟩ (rv_law (q0 := 0) (ci := 10) (q := (RX11, TX11, 13)) C h rfl (SW_fix rfl)) hl.1 rfl (Nat.le_of_ble_eq_true rfl) ⟨Nat.le_refl 1, Nat.le_refl 6⟩ dL_session_5 [] ⟨0, 10, 13, 13⟩ [] (htb.trans rfl) ⟨by decide, by decide⟩ (fun z hz => absurd hz List.not_mem_nil) (by decide) (by decide) tb_8_23 (fun q H locs h => ?_)
  refine lv_astore (lv' := [(4, .ref q), (0, .ref (ad 0)), (1, .int p0), (2, .int p1), (3, .ref aO)]) hx hb dL_session_13 hl (by decide) rfl (fun ls hl => ?_)
  refine lv_iconst (v := (1 : Int32)) hx hb dL_session_15 (by decide) ?_
  exact m_iret C h dL_session_16

set_option maxHeartbeats 4000000 in
set_option maxRecDepth 100000 in
theorem nL_cheapest (hst : l.stackTraces = false) {p0 : Int32} {p1 : Int32} {r : Int32} (hf : fX11_cheapest P g p0 p1 = some (Sum.inr r, g')) : WCon l D cs adK adV yL_cheapest cL_cheapest 5 [(0, 10, 13, 19), (0, 10, 17, 36), (0, 10, 21, 13)] (rM 7) 0 0 [.ref (ad 0), .int p0, .int p1, .ref aO] (SW cs ad al P g ++ outC cs aO fo :: Wm) (0 : Int32) (SW cs ad al P g' ++ outC cs aO (vp_updL fo 0 r.toInt64) :: Wm) := by
  refine WCon.of hst (by decide) (Nat.le_of_ble_eq_true rfl) ?_
  intro p e s m args below meth c A ls H locs C hL htb h hl
  have hx := C.1
  have hb := C.2.1
  have C : MCx p s m args meth c A RL cL_cheapest 5 (some .int) D cs := C
  have hl : lv_has ls 5 [(0, .ref (ad 0)), (1, .int p0), (2, .int p1), (3, .ref aO)] := hl
  refine lv_aload_n hx hb dL_cheapest_0 rfl (lv_at hl 3 rfl) ?_
  refine lv_iconst (v := (0 : Int32)) hx hb dL_cheapest_1 (by decide) ?_
  refine lv_aload_n hx hb dL_cheapest_2 rfl (lv_at hl 0 rfl) ?_
  refine lv_iload_n hx hb dL_cheapest_3 rfl (lv_at hl 1 rfl) ?_
  refine lv_iload_n hx hb dL_cheapest_4 rfl (lv_at hl 2 rfl) ?_
  refine f_callV (r := some (.int r)) (rest := [.int (0 : Int32), .ref aO]) (W2 := outC cs aO fo :: Wm) [.int p0, .int p1] C h cv_L_44 (qX11_cheapest hf) rfl ⟨rfl, rfl⟩ ⟨Nat.le_of_ble_eq_true rfl, Nat.le_of_ble_eq_true rfl⟩ (rv_law (q0 := 0) (ci := 10) (q := (RX11, TX11, 13)) C h rfl (SW_fix rfl)) hl.1 rfl (Nat.le_of_ble_eq_true rfl) ⟨Nat.le_refl _, Nat.le_refl _⟩ dL_cheapest_5 (fun H locs h => ?_)
  refine lv_i2l hx hb dL_cheapest_8 rfl ?_
  refine o_store C h dL_cheapest_9 (fun H locs h => ?_)
  refine lv_goto (tgt := 25) hx hb dL_cheapest_10 (by decide) ?_
  refine lv_iconst (v := (0 : Int32)) hx hb dL_cheapest_25 (by decide) ?_
  exact m_iret C h dL_cheapest_26

set_option maxHeartbeats 4000000 in
set_option maxRecDepth 100000 in
theorem xL_cheapest_2 (hst : l.stackTraces = false) {p0 : Int32} {p1 : Int32} (hf : fX11_cheapest P g p0 p1 = some (Sum.inl 2, g')) : WCon l D cs adK adV yL_cheapest cL_cheapest 5 [(0, 10, 13, 19), (0, 10, 17, 36), (0, 10, 21, 13)] (rA 9 1 6) 1 6 [.ref (ad 0), .int p0, .int p1, .ref aO] (SW cs ad al P g ++ outC cs aO fo :: Wm) (1 : Int32) (SW cs ad al P g' ++ outC cs aO fo :: Wm) := by
  refine WCon.of hst (by decide) (Nat.le_of_ble_eq_true rfl) ?_
  intro p e s m args below meth c A ls H locs C hL htb h hl
  have hx := C.1
  have hb := C.2.1
  have C : MCx p s m args meth c A RL cL_cheapest 5 (some .int) D cs := C
  have hl : lv_has ls 5 [(0, .ref (ad 0)), (1, .int p0), (2, .int p1), (3, .ref aO)] := hl
  refine lv_aload_n hx hb dL_cheapest_0 rfl (lv_at hl 3 rfl) ?_
  refine lv_iconst (v := (0 : Int32)) hx hb dL_cheapest_1 (by decide) ?_
  refine lv_aload_n hx hb dL_cheapest_2 rfl (lv_at hl 0 rfl) ?_
  refine lv_iload_n hx hb dL_cheapest_3 rfl (lv_at hl 1 rfl) ?_
  refine lv_iload_n hx hb dL_cheapest_4 rfl (lv_at hl 2 rfl) ?_
  refine f_catch (rest := [.int (0 : Int32), .ref aO]) (W2 := outC cs aO fo :: Wm) [.int p0, .int p1] C hL h cv_L_44 (tX11_cheapest hst hf) rfl ⟨rfl, rfl⟩ ⟨Nat.le_of_ble_eq_true rfl, Nat.le_of_ble_eq_true rfl⟩ (rv_law (q0 := 0) (ci := 10) (q := (RX11, TX11, 13)) C h rfl (SW_fix rfl)) hl.1 rfl (Nat.le_of_ble_eq_true rfl) ⟨Nat.le_refl 1, Nat.le_refl 6⟩ dL_cheapest_5 [] ⟨0, 10, 13, 19⟩ [⟨0, 10, 17, 36⟩, ⟨0, 10, 21, 13⟩] (htb.trans rfl) ⟨by decide, by decide⟩ (fun z hz => absurd hz List.not_mem_nil) (by decide) (by decide) tb_25_13 (fun q H locs h => ?_)
  refine lv_astore (lv' := [(4, .ref q), (0, .ref (ad 0)), (1, .int p0), (2, .int p1), (3, .ref aO)]) hx hb dL_cheapest_13 hl (by decide) rfl (fun ls hl => ?_)
  refine lv_iconst (v := (1 : Int32)) hx hb dL_cheapest_15 (by decide) ?_
  exact m_iret C h dL_cheapest_16

set_option maxHeartbeats 4000000 in
set_option maxRecDepth 100000 in
theorem xL_cheapest_3 (hst : l.stackTraces = false) {p0 : Int32} {p1 : Int32} (hf : fX11_cheapest P g p0 p1 = some (Sum.inl 3, g')) : WCon l D cs adK adV yL_cheapest cL_cheapest 5 [(0, 10, 13, 19), (0, 10, 17, 36), (0, 10, 21, 13)] (rA 9 1 6) 1 6 [.ref (ad 0), .int p0, .int p1, .ref aO] (SW cs ad al P g ++ outC cs aO fo :: Wm) (2 : Int32) (SW cs ad al P g' ++ outC cs aO fo :: Wm) := by
  refine WCon.of hst (by decide) (Nat.le_of_ble_eq_true rfl) ?_
  intro p e s m args below meth c A ls H locs C hL htb h hl
  have hx := C.1
  have hb := C.2.1
  have C : MCx p s m args meth c A RL cL_cheapest 5 (some .int) D cs := C
  have hl : lv_has ls 5 [(0, .ref (ad 0)), (1, .int p0), (2, .int p1), (3, .ref aO)] := hl
  refine lv_aload_n hx hb dL_cheapest_0 rfl (lv_at hl 3 rfl) ?_
  refine lv_iconst (v := (0 : Int32)) hx hb dL_cheapest_1 (by decide) ?_
  refine lv_aload_n hx hb dL_cheapest_2 rfl (lv_at hl 0 rfl) ?_
  refine lv_iload_n hx hb dL_cheapest_3 rfl (lv_at hl 1 rfl) ?_
  refine lv_iload_n hx hb dL_cheapest_4 rfl (lv_at hl 2 rfl) ?_
  refine f_catch (rest := [.int (0 : Int32), .ref aO]) (W2 := outC cs aO fo :: Wm) [.int p0, .int p1] C hL h cv_L_44 (tX11_cheapest hst hf) rfl ⟨rfl, rfl⟩ ⟨Nat.le_of_ble_eq_true rfl, Nat.le_of_ble_eq_true rfl⟩ (rv_law (q0 := 0) (ci := 10) (q := (RX11, TX11, 13)) C h rfl (SW_fix rfl)) hl.1 rfl (Nat.le_of_ble_eq_true rfl) ⟨Nat.le_refl 1, Nat.le_refl 6⟩ dL_cheapest_5 [⟨0, 10, 13, 19⟩] ⟨0, 10, 17, 36⟩ [⟨0, 10, 21, 13⟩] (htb.trans rfl) ⟨by decide, by decide⟩ (by
    intro z hz
    simp only [List.mem_cons, List.not_mem_nil, or_false] at hz
    rcases hz with hz
    · subst hz
      exact ⟨by decide, 2, by decide, by decide, by decide, tb_25_13⟩) (by decide) (by decide) tb_38_18 (fun q H locs h => ?_)
  refine lv_astore (lv' := [(4, .ref q), (0, .ref (ad 0)), (1, .int p0), (2, .int p1), (3, .ref aO)]) hx hb dL_cheapest_17 hl (by decide) rfl (fun ls hl => ?_)
  refine lv_iconst (v := (2 : Int32)) hx hb dL_cheapest_19 (by decide) ?_
  exact m_iret C h dL_cheapest_20

set_option maxHeartbeats 4000000 in
set_option maxRecDepth 100000 in
theorem xL_cheapest_1 (hst : l.stackTraces = false) {p0 : Int32} {p1 : Int32} (hf : fX11_cheapest P g p0 p1 = some (Sum.inl 1, g')) : WCon l D cs adK adV yL_cheapest cL_cheapest 5 [(0, 10, 13, 19), (0, 10, 17, 36), (0, 10, 21, 13)] (rA 9 1 6) 1 6 [.ref (ad 0), .int p0, .int p1, .ref aO] (SW cs ad al P g ++ outC cs aO fo :: Wm) (3 : Int32) (SW cs ad al P g' ++ outC cs aO fo :: Wm) := by
  refine WCon.of hst (by decide) (Nat.le_of_ble_eq_true rfl) ?_
  intro p e s m args below meth c A ls H locs C hL htb h hl
  have hx := C.1
  have hb := C.2.1
  have C : MCx p s m args meth c A RL cL_cheapest 5 (some .int) D cs := C
  have hl : lv_has ls 5 [(0, .ref (ad 0)), (1, .int p0), (2, .int p1), (3, .ref aO)] := hl
  refine lv_aload_n hx hb dL_cheapest_0 rfl (lv_at hl 3 rfl) ?_
  refine lv_iconst (v := (0 : Int32)) hx hb dL_cheapest_1 (by decide) ?_
  refine lv_aload_n hx hb dL_cheapest_2 rfl (lv_at hl 0 rfl) ?_
  refine lv_iload_n hx hb dL_cheapest_3 rfl (lv_at hl 1 rfl) ?_
  refine lv_iload_n hx hb dL_cheapest_4 rfl (lv_at hl 2 rfl) ?_
  refine f_catch (rest := [.int (0 : Int32), .ref aO]) (W2 := outC cs aO fo :: Wm) [.int p0, .int p1] C hL h cv_L_44 (tX11_cheapest hst hf) rfl ⟨rfl, rfl⟩ ⟨Nat.le_of_ble_eq_true rfl, Nat.le_of_ble_eq_true rfl⟩ (rv_law (q0 := 0) (ci := 10) (q := (RX11, TX11, 13)) C h rfl (SW_fix rfl)) hl.1 rfl (Nat.le_of_ble_eq_true rfl) ⟨Nat.le_refl 1, Nat.le_refl 6⟩ dL_cheapest_5 [⟨0, 10, 13, 19⟩, ⟨0, 10, 17, 36⟩] ⟨0, 10, 21, 13⟩ [] (htb.trans rfl) ⟨by decide, by decide⟩ (by
    intro z hz
    simp only [List.mem_cons, List.not_mem_nil, or_false] at hz
    rcases hz with hz | hz
    · subst hz
      exact ⟨by decide, 2, by decide, by decide, by decide, tb_25_13⟩
    · subst hz
      exact ⟨by decide, 3, by decide, by decide, by decide, tb_38_18⟩) (by decide) (by decide) tb_8_23 (fun q H locs h => ?_)
  refine lv_astore (lv' := [(4, .ref q), (0, .ref (ad 0)), (1, .int p0), (2, .int p1), (3, .ref aO)]) hx hb dL_cheapest_21 hl (by decide) rfl (fun ls hl => ?_)
  refine lv_iconst (v := (3 : Int32)) hx hb dL_cheapest_23 (by decide) ?_
  exact m_iret C h dL_cheapest_24

set_option maxHeartbeats 4000000 in
set_option maxRecDepth 100000 in
theorem nL_ways (hst : l.stackTraces = false) {p0 : Int32} {r : Int32} (hf : fX11_ways P g p0 = some (Sum.inr r, g')) : WCon l D cs adK adV yL_ways cL_ways 4 [(0, 9, 12, 19), (0, 9, 15, 36), (0, 9, 18, 13)] (rM 7) 0 0 [.ref (ad 0), .int p0, .ref aO] (SW cs ad al P g ++ outC cs aO fo :: Wm) (0 : Int32) (SW cs ad al P g' ++ outC cs aO (vp_updL fo 0 r.toInt64) :: Wm) := by
  refine WCon.of hst (by decide) (Nat.le_of_ble_eq_true rfl) ?_
  intro p e s m args below meth c A ls H locs C hL htb h hl
  have hx := C.1
  have hb := C.2.1
  have C : MCx p s m args meth c A RL cL_ways 4 (some .int) D cs := C
  have hl : lv_has ls 4 [(0, .ref (ad 0)), (1, .int p0), (2, .ref aO)] := hl
  refine lv_aload_n hx hb dL_ways_0 rfl (lv_at hl 2 rfl) ?_
  refine lv_iconst (v := (0 : Int32)) hx hb dL_ways_1 (by decide) ?_
  refine lv_aload_n hx hb dL_ways_2 rfl (lv_at hl 0 rfl) ?_
  refine lv_iload_n hx hb dL_ways_3 rfl (lv_at hl 1 rfl) ?_
  refine f_callV (r := some (.int r)) (rest := [.int (0 : Int32), .ref aO]) (W2 := outC cs aO fo :: Wm) [.int p0] C h cv_L_47 (qX11_ways hf) rfl ⟨rfl, rfl⟩ ⟨Nat.le_of_ble_eq_true rfl, Nat.le_of_ble_eq_true rfl⟩ (rv_law (q0 := 0) (ci := 10) (q := (RX11, TX11, 13)) C h rfl (SW_fix rfl)) hl.1 rfl (Nat.le_of_ble_eq_true rfl) ⟨Nat.le_refl _, Nat.le_refl _⟩ dL_ways_4 (fun H locs h => ?_)
  refine lv_i2l hx hb dL_ways_7 rfl ?_
  refine o_store C h dL_ways_8 (fun H locs h => ?_)
  refine lv_goto (tgt := 21) hx hb dL_ways_9 (by decide) ?_
  refine lv_iconst (v := (0 : Int32)) hx hb dL_ways_21 (by decide) ?_
  exact m_iret C h dL_ways_22

set_option maxHeartbeats 4000000 in
set_option maxRecDepth 100000 in
theorem xL_ways_2 (hst : l.stackTraces = false) {p0 : Int32} (hf : fX11_ways P g p0 = some (Sum.inl 2, g')) : WCon l D cs adK adV yL_ways cL_ways 4 [(0, 9, 12, 19), (0, 9, 15, 36), (0, 9, 18, 13)] (rA 9 1 6) 1 6 [.ref (ad 0), .int p0, .ref aO] (SW cs ad al P g ++ outC cs aO fo :: Wm) (1 : Int32) (SW cs ad al P g' ++ outC cs aO fo :: Wm) := by
  refine WCon.of hst (by decide) (Nat.le_of_ble_eq_true rfl) ?_
  intro p e s m args below meth c A ls H locs C hL htb h hl
  have hx := C.1
  have hb := C.2.1
  have C : MCx p s m args meth c A RL cL_ways 4 (some .int) D cs := C
  have hl : lv_has ls 4 [(0, .ref (ad 0)), (1, .int p0), (2, .ref aO)] := hl
  refine lv_aload_n hx hb dL_ways_0 rfl (lv_at hl 2 rfl) ?_
  refine lv_iconst (v := (0 : Int32)) hx hb dL_ways_1 (by decide) ?_
  refine lv_aload_n hx hb dL_ways_2 rfl (lv_at hl 0 rfl) ?_
  refine lv_iload_n hx hb dL_ways_3 rfl (lv_at hl 1 rfl) ?_
  refine f_catch (rest := [.int (0 : Int32), .ref aO]) (W2 := outC cs aO fo :: Wm) [.int p0] C hL h cv_L_47 (tX11_ways hst hf) rfl ⟨rfl, rfl⟩ ⟨Nat.le_of_ble_eq_true rfl, Nat.le_of_ble_eq_true rfl⟩ (rv_law (q0 := 0) (ci := 10) (q := (RX11, TX11, 13)) C h rfl (SW_fix rfl)) hl.1 rfl (Nat.le_of_ble_eq_true rfl) ⟨Nat.le_refl 1, Nat.le_refl 6⟩ dL_ways_4 [] ⟨0, 9, 12, 19⟩ [⟨0, 9, 15, 36⟩, ⟨0, 9, 18, 13⟩] (htb.trans rfl) ⟨by decide, by decide⟩ (fun z hz => absurd hz List.not_mem_nil) (by decide) (by decide) tb_25_13 (fun q H locs h => ?_)
  refine lv_astore_n (lv' := [(3, .ref q), (0, .ref (ad 0)), (1, .int p0), (2, .ref aO)]) hx hb dL_ways_12 rfl hl (by decide) rfl (fun ls hl => ?_)
  refine lv_iconst (v := (1 : Int32)) hx hb dL_ways_13 (by decide) ?_
  exact m_iret C h dL_ways_14

set_option maxHeartbeats 4000000 in
set_option maxRecDepth 100000 in
theorem xL_ways_3 (hst : l.stackTraces = false) {p0 : Int32} (hf : fX11_ways P g p0 = some (Sum.inl 3, g')) : WCon l D cs adK adV yL_ways cL_ways 4 [(0, 9, 12, 19), (0, 9, 15, 36), (0, 9, 18, 13)] (rA 9 1 6) 1 6 [.ref (ad 0), .int p0, .ref aO] (SW cs ad al P g ++ outC cs aO fo :: Wm) (2 : Int32) (SW cs ad al P g' ++ outC cs aO fo :: Wm) := by
  refine WCon.of hst (by decide) (Nat.le_of_ble_eq_true rfl) ?_
  intro p e s m args below meth c A ls H locs C hL htb h hl
  have hx := C.1
  have hb := C.2.1
  have C : MCx p s m args meth c A RL cL_ways 4 (some .int) D cs := C
  have hl : lv_has ls 4 [(0, .ref (ad 0)), (1, .int p0), (2, .ref aO)] := hl
  refine lv_aload_n hx hb dL_ways_0 rfl (lv_at hl 2 rfl) ?_
  refine lv_iconst (v := (0 : Int32)) hx hb dL_ways_1 (by decide) ?_
  refine lv_aload_n hx hb dL_ways_2 rfl (lv_at hl 0 rfl) ?_
  refine lv_iload_n hx hb dL_ways_3 rfl (lv_at hl 1 rfl) ?_
  refine f_catch (rest := [.int (0 : Int32), .ref aO]) (W2 := outC cs aO fo :: Wm) [.int p0] C hL h cv_L_47 (tX11_ways hst hf) rfl ⟨rfl, rfl⟩ ⟨Nat.le_of_ble_eq_true rfl, Nat.le_of_ble_eq_true rfl⟩ (rv_law (q0 := 0) (ci := 10) (q := (RX11, TX11, 13)) C h rfl (SW_fix rfl)) hl.1 rfl (Nat.le_of_ble_eq_true rfl) ⟨Nat.le_refl 1, Nat.le_refl 6⟩ dL_ways_4 [⟨0, 9, 12, 19⟩] ⟨0, 9, 15, 36⟩ [⟨0, 9, 18, 13⟩] (htb.trans rfl) ⟨by decide, by decide⟩ (by
    intro z hz
    simp only [List.mem_cons, List.not_mem_nil, or_false] at hz
    rcases hz with hz
    · subst hz
      exact ⟨by decide, 2, by decide, by decide, by decide, tb_25_13⟩) (by decide) (by decide) tb_38_18 (fun q H locs h => ?_)
  refine lv_astore_n (lv' := [(3, .ref q), (0, .ref (ad 0)), (1, .int p0), (2, .ref aO)]) hx hb dL_ways_15 rfl hl (by decide) rfl (fun ls hl => ?_)
  refine lv_iconst (v := (2 : Int32)) hx hb dL_ways_16 (by decide) ?_
  exact m_iret C h dL_ways_17

set_option maxHeartbeats 4000000 in
set_option maxRecDepth 100000 in
theorem xL_ways_1 (hst : l.stackTraces = false) {p0 : Int32} (hf : fX11_ways P g p0 = some (Sum.inl 1, g')) : WCon l D cs adK adV yL_ways cL_ways 4 [(0, 9, 12, 19), (0, 9, 15, 36), (0, 9, 18, 13)] (rA 9 1 6) 1 6 [.ref (ad 0), .int p0, .ref aO] (SW cs ad al P g ++ outC cs aO fo :: Wm) (3 : Int32) (SW cs ad al P g' ++ outC cs aO fo :: Wm) := by
  refine WCon.of hst (by decide) (Nat.le_of_ble_eq_true rfl) ?_
  intro p e s m args below meth c A ls H locs C hL htb h hl
  have hx := C.1
  have hb := C.2.1
  have C : MCx p s m args meth c A RL cL_ways 4 (some .int) D cs := C
  have hl : lv_has ls 4 [(0, .ref (ad 0)), (1, .int p0), (2, .ref aO)] := hl
  refine lv_aload_n hx hb dL_ways_0 rfl (lv_at hl 2 rfl) ?_
  refine lv_iconst (v := (0 : Int32)) hx hb dL_ways_1 (by decide) ?_
  refine lv_aload_n hx hb dL_ways_2 rfl (lv_at hl 0 rfl) ?_
  refine lv_iload_n hx hb dL_ways_3 rfl (lv_at hl 1 rfl) ?_
  refine f_catch (rest := [.int (0 : Int32), .ref aO]) (W2 := outC cs aO fo :: Wm) [.int p0] C hL h cv_L_47 (tX11_ways hst hf) rfl ⟨rfl, rfl⟩ ⟨Nat.le_of_ble_eq_true rfl, Nat.le_of_ble_eq_true rfl⟩ (rv_law (q0 := 0) (ci := 10) (q := (RX11, TX11, 13)) C h rfl (SW_fix rfl)) hl.1 rfl (Nat.le_of_ble_eq_true rfl) ⟨Nat.le_refl 1, Nat.le_refl 6⟩ dL_ways_4 [⟨0, 9, 12, 19⟩, ⟨0, 9, 15, 36⟩] ⟨0, 9, 18, 13⟩ [] (htb.trans rfl) ⟨by decide, by decide⟩ (by
    intro z hz
    simp only [List.mem_cons, List.not_mem_nil, or_false] at hz
    rcases hz with hz | hz
    · subst hz
      exact ⟨by decide, 2, by decide, by decide, by decide, tb_25_13⟩
    · subst hz
      exact ⟨by decide, 3, by decide, by decide, by decide, tb_38_18⟩) (by decide) (by decide) tb_8_23 (fun q H locs h => ?_)
  refine lv_astore_n (lv' := [(3, .ref q), (0, .ref (ad 0)), (1, .int p0), (2, .ref aO)]) hx hb dL_ways_18 rfl hl (by decide) rfl (fun ls hl => ?_)
  refine lv_iconst (v := (3 : Int32)) hx hb dL_ways_19 (by decide) ?_
  exact m_iret C h dL_ways_20

set_option maxHeartbeats 4000000 in
set_option maxRecDepth 100000 in
theorem nL_throne (hst : l.stackTraces = false) {p0 : Int32} {p1 : Int32} {r : Int32} (hf : fX11_throne P g p0 p1 = some (Sum.inr r, g')) : WCon l D cs adK adV yL_throne cL_throne 5 [(0, 10, 13, 19), (0, 10, 17, 13)] (rM 7) 0 0 [.ref (ad 0), .int p0, .int p1, .ref aO] (SW cs ad al P g ++ outC cs aO fo :: Wm) (0 : Int32) (SW cs ad al P g' ++ outC cs aO (vp_updL fo 0 r.toInt64) :: Wm) := by
  refine WCon.of hst (by decide) (Nat.le_of_ble_eq_true rfl) ?_
  intro p e s m args below meth c A ls H locs C hL htb h hl
  have hx := C.1
  have hb := C.2.1
  have C : MCx p s m args meth c A RL cL_throne 5 (some .int) D cs := C
  have hl : lv_has ls 5 [(0, .ref (ad 0)), (1, .int p0), (2, .int p1), (3, .ref aO)] := hl
  refine lv_aload_n hx hb dL_throne_0 rfl (lv_at hl 3 rfl) ?_
  refine lv_iconst (v := (0 : Int32)) hx hb dL_throne_1 (by decide) ?_
  refine lv_aload_n hx hb dL_throne_2 rfl (lv_at hl 0 rfl) ?_
  refine lv_iload_n hx hb dL_throne_3 rfl (lv_at hl 1 rfl) ?_
  refine lv_iload_n hx hb dL_throne_4 rfl (lv_at hl 2 rfl) ?_
  refine f_callV (r := some (.int r)) (rest := [.int (0 : Int32), .ref aO]) (W2 := outC cs aO fo :: Wm) [.int p0, .int p1] C h cv_L_50 (qX11_throne hf) rfl ⟨rfl, rfl⟩ ⟨Nat.le_of_ble_eq_true rfl, Nat.le_of_ble_eq_true rfl⟩ (rv_law (q0 := 0) (ci := 10) (q := (RX11, TX11, 13)) C h rfl (SW_fix rfl)) hl.1 rfl (Nat.le_of_ble_eq_true rfl) ⟨Nat.le_refl _, Nat.le_refl _⟩ dL_throne_5 (fun H locs h => ?_)
  refine lv_i2l hx hb dL_throne_8 rfl ?_
  refine o_store C h dL_throne_9 (fun H locs h => ?_)
  refine lv_goto (tgt := 21) hx hb dL_throne_10 (by decide) ?_
  refine lv_iconst (v := (0 : Int32)) hx hb dL_throne_21 (by decide) ?_
  exact m_iret C h dL_throne_22

set_option maxHeartbeats 4000000 in
set_option maxRecDepth 100000 in
theorem xL_throne_2 (hst : l.stackTraces = false) {p0 : Int32} {p1 : Int32} (hf : fX11_throne P g p0 p1 = some (Sum.inl 2, g')) : WCon l D cs adK adV yL_throne cL_throne 5 [(0, 10, 13, 19), (0, 10, 17, 13)] (rA 8 1 6) 1 6 [.ref (ad 0), .int p0, .int p1, .ref aO] (SW cs ad al P g ++ outC cs aO fo :: Wm) (1 : Int32) (SW cs ad al P g' ++ outC cs aO fo :: Wm) := by
  refine WCon.of hst (by decide) (Nat.le_of_ble_eq_true rfl) ?_
  intro p e s m args below meth c A ls H locs C hL htb h hl
  have hx := C.1
  have hb := C.2.1
  have C : MCx p s m args meth c A RL cL_throne 5 (some .int) D cs := C
  have hl : lv_has ls 5 [(0, .ref (ad 0)), (1, .int p0), (2, .int p1), (3, .ref aO)] := hl
  refine lv_aload_n hx hb dL_throne_0 rfl (lv_at hl 3 rfl) ?_
  refine lv_iconst (v := (0 : Int32)) hx hb dL_throne_1 (by decide) ?_
  refine lv_aload_n hx hb dL_throne_2 rfl (lv_at hl 0 rfl) ?_
  refine lv_iload_n hx hb dL_throne_3 rfl (lv_at hl 1 rfl) ?_
  refine lv_iload_n hx hb dL_throne_4 rfl (lv_at hl 2 rfl) ?_
  refine f_catch (rest := [.int (0 : Int32), .ref aO]) (W2 := outC cs aO fo :: Wm) [.int p0, .int p1] C hL h cv_L_50 (tX11_throne hst hf) rfl ⟨rfl, rfl⟩ ⟨Nat.le_of_ble_eq_true rfl, Nat.le_of_ble_eq_true rfl⟩ (rv_law (q0 := 0) (ci := 10) (q := (RX11, TX11, 13)) C h rfl (SW_fix rfl)) hl.1 rfl (Nat.le_of_ble_eq_true rfl) ⟨Nat.le_refl 1, Nat.le_refl 6⟩ dL_throne_5 [] ⟨0, 10, 13, 19⟩ [⟨0, 10, 17, 13⟩] (htb.trans rfl) ⟨by decide, by decide⟩ (fun z hz => absurd hz List.not_mem_nil) (by decide) (by decide) tb_25_13 (fun q H locs h => ?_)
  refine lv_astore (lv' := [(4, .ref q), (0, .ref (ad 0)), (1, .int p0), (2, .int p1), (3, .ref aO)]) hx hb dL_throne_13 hl (by decide) rfl (fun ls hl => ?_)
  refine lv_iconst (v := (1 : Int32)) hx hb dL_throne_15 (by decide) ?_
  exact m_iret C h dL_throne_16

set_option maxHeartbeats 4000000 in
set_option maxRecDepth 100000 in
theorem xL_throne_1 (hst : l.stackTraces = false) {p0 : Int32} {p1 : Int32} (hf : fX11_throne P g p0 p1 = some (Sum.inl 1, g')) : WCon l D cs adK adV yL_throne cL_throne 5 [(0, 10, 13, 19), (0, 10, 17, 13)] (rA 8 1 6) 1 6 [.ref (ad 0), .int p0, .int p1, .ref aO] (SW cs ad al P g ++ outC cs aO fo :: Wm) (2 : Int32) (SW cs ad al P g' ++ outC cs aO fo :: Wm) := by
  refine WCon.of hst (by decide) (Nat.le_of_ble_eq_true rfl) ?_
  intro p e s m args below meth c A ls H locs C hL htb h hl
  have hx := C.1
  have hb := C.2.1
  have C : MCx p s m args meth c A RL cL_throne 5 (some .int) D cs := C
  have hl : lv_has ls 5 [(0, .ref (ad 0)), (1, .int p0), (2, .int p1), (3, .ref aO)] := hl
  refine lv_aload_n hx hb dL_throne_0 rfl (lv_at hl 3 rfl) ?_
  refine lv_iconst (v := (0 : Int32)) hx hb dL_throne_1 (by decide) ?_
  refine lv_aload_n hx hb dL_throne_2 rfl (lv_at hl 0 rfl) ?_
  refine lv_iload_n hx hb dL_throne_3 rfl (lv_at hl 1 rfl) ?_
  refine lv_iload_n hx hb dL_throne_4 rfl (lv_at hl 2 rfl) ?_
  refine f_catch (rest := [.int (0 : Int32), .ref aO]) (W2 := outC cs aO fo :: Wm) [.int p0, .int p1] C hL h cv_L_50 (tX11_throne hst hf) rfl ⟨rfl, rfl⟩ ⟨Nat.le_of_ble_eq_true rfl, Nat.le_of_ble_eq_true rfl⟩ (rv_law (q0 := 0) (ci := 10) (q := (RX11, TX11, 13)) C h rfl (SW_fix rfl)) hl.1 rfl (Nat.le_of_ble_eq_true rfl) ⟨Nat.le_refl 1, Nat.le_refl 6⟩ dL_throne_5 [⟨0, 10, 13, 19⟩] ⟨0, 10, 17, 13⟩ [] (htb.trans rfl) ⟨by decide, by decide⟩ (by
    intro z hz
    simp only [List.mem_cons, List.not_mem_nil, or_false] at hz
    rcases hz with hz
    · subst hz
      exact ⟨by decide, 2, by decide, by decide, by decide, tb_25_13⟩) (by decide) (by decide) tb_8_23 (fun q H locs h => ?_)
  refine lv_astore (lv' := [(4, .ref q), (0, .ref (ad 0)), (1, .int p0), (2, .int p1), (3, .ref aO)]) hx hb dL_throne_17 hl (by decide) rfl (fun ls hl => ?_)
  refine lv_iconst (v := (2 : Int32)) hx hb dL_throne_19 (by decide) ?_
  exact m_iret C h dL_throne_20

set_option maxHeartbeats 4000000 in
set_option maxRecDepth 100000 in
theorem nL_power (hst : l.stackTraces = false) {p0 : Int32} {r : Int32} (hf : fX11_power P g p0 = some (Sum.inr r, g')) : WCon l D cs adK adV yL_power cL_power 4 [(0, 9, 12, 19)] (rM 8) 0 0 [.ref (ad 0), .int p0, .ref aO] (SW cs ad al P g ++ outC cs aO fo :: Wm) (0 : Int32) (SW cs ad al P g' ++ outC cs aO (vp_updL fo 0 r.toInt64) :: Wm) := by
  refine WCon.of hst (by decide) (Nat.le_of_ble_eq_true rfl) ?_
  intro p e s m args below meth c A ls H locs C hL htb h hl
  have hx := C.1
  have hb := C.2.1
  have C : MCx p s m args meth c A RL cL_power 4 (some .int) D cs := C
  have hl : lv_has ls 4 [(0, .ref (ad 0)), (1, .int p0), (2, .ref aO)] := hl
  refine lv_aload_n hx hb dL_power_0 rfl (lv_at hl 2 rfl) ?_
  refine lv_iconst (v := (0 : Int32)) hx hb dL_power_1 (by decide) ?_
  refine lv_aload_n hx hb dL_power_2 rfl (lv_at hl 0 rfl) ?_
  refine lv_iload_n hx hb dL_power_3 rfl (lv_at hl 1 rfl) ?_
  refine f_callV (r := some (.int r)) (rest := [.int (0 : Int32), .ref aO]) (W2 := outC cs aO fo :: Wm) [.int p0] C h cv_L_53 (qX11_power hf) rfl ⟨rfl, rfl⟩ ⟨Nat.le_of_ble_eq_true rfl, Nat.le_of_ble_eq_true rfl⟩ (rv_law (q0 := 0) (ci := 10) (q := (RX11, TX11, 13)) C h rfl (SW_fix rfl)) hl.1 rfl (Nat.le_of_ble_eq_true rfl) ⟨Nat.le_refl _, Nat.le_refl _⟩ dL_power_4 (fun H locs h => ?_)
  refine lv_i2l hx hb dL_power_7 rfl ?_
  refine o_store C h dL_power_8 (fun H locs h => ?_)
  refine lv_goto (tgt := 15) hx hb dL_power_9 (by decide) ?_
  refine lv_iconst (v := (0 : Int32)) hx hb dL_power_15 (by decide) ?_
  exact m_iret C h dL_power_16

set_option maxHeartbeats 4000000 in
set_option maxRecDepth 100000 in
theorem xL_power_2 (hst : l.stackTraces = false) {p0 : Int32} (hf : fX11_power P g p0 = some (Sum.inl 2, g')) : WCon l D cs adK adV yL_power cL_power 4 [(0, 9, 12, 19)] (rA 8 1 6) 1 6 [.ref (ad 0), .int p0, .ref aO] (SW cs ad al P g ++ outC cs aO fo :: Wm) (1 : Int32) (SW cs ad al P g' ++ outC cs aO fo :: Wm) := by
  refine WCon.of hst (by decide) (Nat.le_of_ble_eq_true rfl) ?_
  intro p e s m args below meth c A ls H locs C hL htb h hl
  have hx := C.1
  have hb := C.2.1
  have C : MCx p s m args meth c A RL cL_power 4 (some .int) D cs := C
  have hl : lv_has ls 4 [(0, .ref (ad 0)), (1, .int p0), (2, .ref aO)] := hl
  refine lv_aload_n hx hb dL_power_0 rfl (lv_at hl 2 rfl) ?_
  refine lv_iconst (v := (0 : Int32)) hx hb dL_power_1 (by decide) ?_
  refine lv_aload_n hx hb dL_power_2 rfl (lv_at hl 0 rfl) ?_
  refine lv_iload_n hx hb dL_power_3 rfl (lv_at hl 1 rfl) ?_
  refine f_catch (rest := [.int (0 : Int32), .ref aO]) (W2 := outC cs aO fo :: Wm) [.int p0] C hL h cv_L_53 (tX11_power hst hf) rfl ⟨rfl, rfl⟩ ⟨Nat.le_of_ble_eq_true rfl, Nat.le_of_ble_eq_true rfl⟩ (rv_law (q0 := 0) (ci := 10) (q := (RX11, TX11, 13)) C h rfl (SW_fix rfl)) hl.1 rfl (Nat.le_of_ble_eq_true rfl) ⟨Nat.le_refl 1, Nat.le_refl 6⟩ dL_power_4 [] ⟨0, 9, 12, 19⟩ [] (htb.trans rfl) ⟨by decide, by decide⟩ (fun z hz => absurd hz List.not_mem_nil) (by decide) (by decide) tb_25_13 (fun q H locs h => ?_)
  refine lv_astore_n (lv' := [(3, .ref q), (0, .ref (ad 0)), (1, .int p0), (2, .ref aO)]) hx hb dL_power_12 rfl hl (by decide) rfl (fun ls hl => ?_)
  refine lv_iconst (v := (1 : Int32)) hx hb dL_power_13 (by decide) ?_
  exact m_iret C h dL_power_14

set_option maxHeartbeats 4000000 in
set_option maxRecDepth 100000 in
theorem nL_motion (hst : l.stackTraces = false) {p0 : Int32} {r : Int32} (hf : fX11_motion P g p0 = some (Sum.inr r, g')) : WCon l D cs adK adV yL_motion cL_motion 4 [(0, 9, 12, 19)] (rM 7) 0 0 [.ref (ad 0), .int p0, .ref aO] (SW cs ad al P g ++ outC cs aO fo :: Wm) (0 : Int32) (SW cs ad al P g' ++ outC cs aO (vp_updL fo 0 r.toInt64) :: Wm) := by
  refine WCon.of hst (by decide) (Nat.le_of_ble_eq_true rfl) ?_
  intro p e s m args below meth c A ls H locs C hL htb h hl
  have hx := C.1
  have hb := C.2.1
  have C : MCx p s m args meth c A RL cL_motion 4 (some .int) D cs := C
  have hl : lv_has ls 4 [(0, .ref (ad 0)), (1, .int p0), (2, .ref aO)] := hl
  refine lv_aload_n hx hb dL_motion_0 rfl (lv_at hl 2 rfl) ?_
  refine lv_iconst (v := (0 : Int32)) hx hb dL_motion_1 (by decide) ?_
  refine lv_aload_n hx hb dL_motion_2 rfl (lv_at hl 0 rfl) ?_
  refine lv_iload_n hx hb dL_motion_3 rfl (lv_at hl 1 rfl) ?_
  refine f_callV (r := some (.int r)) (rest := [.int (0 : Int32), .ref aO]) (W2 := outC cs aO fo :: Wm) [.int p0] C h cv_L_56 (qX11_motion hf) rfl ⟨rfl, rfl⟩ ⟨Nat.le_of_ble_eq_true rfl, Nat.le_of_ble_eq_true rfl⟩ (rv_law (q0 := 0) (ci := 10) (q := (RX11, TX11, 13)) C h rfl (SW_fix rfl)) hl.1 rfl (Nat.le_of_ble_eq_true rfl) ⟨Nat.le_refl _, Nat.le_refl _⟩ dL_motion_4 (fun H locs h => ?_)
  refine lv_i2l hx hb dL_motion_7 rfl ?_
  refine o_store C h dL_motion_8 (fun H locs h => ?_)
  refine lv_goto (tgt := 15) hx hb dL_motion_9 (by decide) ?_
  refine lv_iconst (v := (0 : Int32)) hx hb dL_motion_15 (by decide) ?_
  exact m_iret C h dL_motion_16

set_option maxHeartbeats 4000000 in
set_option maxRecDepth 100000 in
theorem xL_motion_2 (hst : l.stackTraces = false) {p0 : Int32} (hf : fX11_motion P g p0 = some (Sum.inl 2, g')) : WCon l D cs adK adV yL_motion cL_motion 4 [(0, 9, 12, 19)] (rA 8 1 6) 1 6 [.ref (ad 0), .int p0, .ref aO] (SW cs ad al P g ++ outC cs aO fo :: Wm) (1 : Int32) (SW cs ad al P g' ++ outC cs aO fo :: Wm) := by
  refine WCon.of hst (by decide) (Nat.le_of_ble_eq_true rfl) ?_
  intro p e s m args below meth c A ls H locs C hL htb h hl
  have hx := C.1
  have hb := C.2.1
  have C : MCx p s m args meth c A RL cL_motion 4 (some .int) D cs := C
  have hl : lv_has ls 4 [(0, .ref (ad 0)), (1, .int p0), (2, .ref aO)] := hl
  refine lv_aload_n hx hb dL_motion_0 rfl (lv_at hl 2 rfl) ?_
  refine lv_iconst (v := (0 : Int32)) hx hb dL_motion_1 (by decide) ?_
  refine lv_aload_n hx hb dL_motion_2 rfl (lv_at hl 0 rfl) ?_
  refine lv_iload_n hx hb dL_motion_3 rfl (lv_at hl 1 rfl) ?_
  refine f_catch (rest := [.int (0 : Int32), .ref aO]) (W2 := outC cs aO fo :: Wm) [.int p0] C hL h cv_L_56 (tX11_motion hst hf) rfl ⟨rfl, rfl⟩ ⟨Nat.le_of_ble_eq_true rfl, Nat.le_of_ble_eq_true rfl⟩ (rv_law (q0 := 0) (ci := 10) (q := (RX11, TX11, 13)) C h rfl (SW_fix rfl)) hl.1 rfl (Nat.le_of_ble_eq_true rfl) ⟨Nat.le_refl 1, Nat.le_refl 6⟩ dL_motion_4 [] ⟨0, 9, 12, 19⟩ [] (htb.trans rfl) ⟨by decide, by decide⟩ (fun z hz => absurd hz List.not_mem_nil) (by decide) (by decide) tb_25_13 (fun q H locs h => ?_)
  refine lv_astore_n (lv' := [(3, .ref q), (0, .ref (ad 0)), (1, .int p0), (2, .ref aO)]) hx hb dL_motion_12 rfl hl (by decide) rfl (fun ls hl => ?_)
  refine lv_iconst (v := (1 : Int32)) hx hb dL_motion_13 (by decide) ?_
  exact m_iret C h dL_motion_14

set_option maxHeartbeats 4000000 in
set_option maxRecDepth 100000 in
theorem nL_helps (hst : l.stackTraces = false) {p0 : Int32} {p1 : Int32} {r : Int32} (hf : fX11_helps P g p0 p1 = some (Sum.inr r, g')) : WCon l D cs adK adV yL_helps cL_helps 5 [(0, 10, 13, 19), (0, 10, 17, 13)] (rM 7) 0 0 [.ref (ad 0), .int p0, .int p1, .ref aO] (SW cs ad al P g ++ outC cs aO fo :: Wm) (0 : Int32) (SW cs ad al P g' ++ outC cs aO (vp_updL fo 0 r.toInt64) :: Wm) := by
  refine WCon.of hst (by decide) (Nat.le_of_ble_eq_true rfl) ?_
  intro p e s m args below meth c A ls H locs C hL htb h hl
  have hx := C.1
  have hb := C.2.1
  have C : MCx p s m args meth c A RL cL_helps 5 (some .int) D cs := C
  have hl : lv_has ls 5 [(0, .ref (ad 0)), (1, .int p0), (2, .int p1), (3, .ref aO)] := hl
  refine lv_aload_n hx hb dL_helps_0 rfl (lv_at hl 3 rfl) ?_
  refine lv_iconst (v := (0 : Int32)) hx hb dL_helps_1 (by decide) ?_
  refine lv_aload_n hx hb dL_helps_2 rfl (lv_at hl 0 rfl) ?_
  refine lv_iload_n hx hb dL_helps_3 rfl (lv_at hl 1 rfl) ?_
  refine lv_iload_n hx hb dL_helps_4 rfl (lv_at hl 2 rfl) ?_
  refine f_callV (r := some (.int r)) (rest := [.int (0 : Int32), .ref aO]) (W2 := outC cs aO fo :: Wm) [.int p0, .int p1] C h cv_L_59 (qX11_helps hf) rfl ⟨rfl, rfl⟩ ⟨Nat.le_of_ble_eq_true rfl, Nat.le_of_ble_eq_true rfl⟩ (rv_law (q0 := 0) (ci := 10) (q := (RX11, TX11, 13)) C h rfl (SW_fix rfl)) hl.1 rfl (Nat.le_of_ble_eq_true rfl) ⟨Nat.le_refl _, Nat.le_refl _⟩ dL_helps_5 (fun H locs h => ?_)
  refine lv_i2l hx hb dL_helps_8 rfl ?_
  refine o_store C h dL_helps_9 (fun H locs h => ?_)
  refine lv_goto (tgt := 21) hx hb dL_helps_10 (by decide) ?_
  refine lv_iconst (v := (0 : Int32)) hx hb dL_helps_21 (by decide) ?_
  exact m_iret C h dL_helps_22

set_option maxHeartbeats 4000000 in
set_option maxRecDepth 100000 in
theorem xL_helps_2 (hst : l.stackTraces = false) {p0 : Int32} {p1 : Int32} (hf : fX11_helps P g p0 p1 = some (Sum.inl 2, g')) : WCon l D cs adK adV yL_helps cL_helps 5 [(0, 10, 13, 19), (0, 10, 17, 13)] (rA 8 1 6) 1 6 [.ref (ad 0), .int p0, .int p1, .ref aO] (SW cs ad al P g ++ outC cs aO fo :: Wm) (1 : Int32) (SW cs ad al P g' ++ outC cs aO fo :: Wm) := by
  refine WCon.of hst (by decide) (Nat.le_of_ble_eq_true rfl) ?_
  intro p e s m args below meth c A ls H locs C hL htb h hl
  have hx := C.1
  have hb := C.2.1
  have C : MCx p s m args meth c A RL cL_helps 5 (some .int) D cs := C
  have hl : lv_has ls 5 [(0, .ref (ad 0)), (1, .int p0), (2, .int p1), (3, .ref aO)] := hl
  refine lv_aload_n hx hb dL_helps_0 rfl (lv_at hl 3 rfl) ?_
  refine lv_iconst (v := (0 : Int32)) hx hb dL_helps_1 (by decide) ?_
  refine lv_aload_n hx hb dL_helps_2 rfl (lv_at hl 0 rfl) ?_
  refine lv_iload_n hx hb dL_helps_3 rfl (lv_at hl 1 rfl) ?_
  refine lv_iload_n hx hb dL_helps_4 rfl (lv_at hl 2 rfl) ?_
  refine f_catch (rest := [.int (0 : Int32), .ref aO]) (W2 := outC cs aO fo :: Wm) [.int p0, .int p1] C hL h cv_L_59 (tX11_helps hst hf) rfl ⟨rfl, rfl⟩ ⟨Nat.le_of_ble_eq_true rfl, Nat.le_of_ble_eq_true rfl⟩ (rv_law (q0 := 0) (ci := 10) (q := (RX11, TX11, 13)) C h rfl (SW_fix rfl)) hl.1 rfl (Nat.le_of_ble_eq_true rfl) ⟨Nat.le_refl 1, Nat.le_refl 6⟩ dL_helps_5 [] ⟨0, 10, 13, 19⟩ [⟨0, 10, 17, 13⟩] (htb.trans rfl) ⟨by decide, by decide⟩ (fun z hz => absurd hz List.not_mem_nil) (by decide) (by decide) tb_25_13 (fun q H locs h => ?_)
  refine lv_astore (lv' := [(4, .ref q), (0, .ref (ad 0)), (1, .int p0), (2, .int p1), (3, .ref aO)]) hx hb dL_helps_13 hl (by decide) rfl (fun ls hl => ?_)
  refine lv_iconst (v := (1 : Int32)) hx hb dL_helps_15 (by decide) ?_
  exact m_iret C h dL_helps_16

set_option maxHeartbeats 4000000 in
set_option maxRecDepth 100000 in
theorem xL_helps_1 (hst : l.stackTraces = false) {p0 : Int32} {p1 : Int32} (hf : fX11_helps P g p0 p1 = some (Sum.inl 1, g')) : WCon l D cs adK adV yL_helps cL_helps 5 [(0, 10, 13, 19), (0, 10, 17, 13)] (rA 8 1 6) 1 6 [.ref (ad 0), .int p0, .int p1, .ref aO] (SW cs ad al P g ++ outC cs aO fo :: Wm) (2 : Int32) (SW cs ad al P g' ++ outC cs aO fo :: Wm) := by
  refine WCon.of hst (by decide) (Nat.le_of_ble_eq_true rfl) ?_
  intro p e s m args below meth c A ls H locs C hL htb h hl
  have hx := C.1
  have hb := C.2.1
  have C : MCx p s m args meth c A RL cL_helps 5 (some .int) D cs := C
  have hl : lv_has ls 5 [(0, .ref (ad 0)), (1, .int p0), (2, .int p1), (3, .ref aO)] := hl
  refine lv_aload_n hx hb dL_helps_0 rfl (lv_at hl 3 rfl) ?_
  refine lv_iconst (v := (0 : Int32)) hx hb dL_helps_1 (by decide) ?_
  refine lv_aload_n hx hb dL_helps_2 rfl (lv_at hl 0 rfl) ?_
  refine lv_iload_n hx hb dL_helps_3 rfl (lv_at hl 1 rfl) ?_
  refine lv_iload_n hx hb dL_helps_4 rfl (lv_at hl 2 rfl) ?_
  refine f_catch (rest := [.int (0 : Int32), .ref aO]) (W2 := outC cs aO fo :: Wm) [.int p0, .int p1] C hL h cv_L_59 (tX11_helps hst hf) rfl ⟨rfl, rfl⟩ ⟨Nat.le_of_ble_eq_true rfl, Nat.le_of_ble_eq_true rfl⟩ (rv_law (q0 := 0) (ci := 10) (q := (RX11, TX11, 13)) C h rfl (SW_fix rfl)) hl.1 rfl (Nat.le_of_ble_eq_true rfl) ⟨Nat.le_refl 1, Nat.le_refl 6⟩ dL_helps_5 [⟨0, 10, 13, 19⟩] ⟨0, 10, 17, 13⟩ [] (htb.trans rfl) ⟨by decide, by decide⟩ (by
    intro z hz
    simp only [List.mem_cons, List.not_mem_nil, or_false] at hz
    rcases hz with hz
    · subst hz
      exact ⟨by decide, 2, by decide, by decide, by decide, tb_25_13⟩) (by decide) (by decide) tb_8_23 (fun q H locs h => ?_)
  refine lv_astore (lv' := [(4, .ref q), (0, .ref (ad 0)), (1, .int p0), (2, .int p1), (3, .ref aO)]) hx hb dL_helps_17 hl (by decide) rfl (fun ls hl => ?_)
  refine lv_iconst (v := (2 : Int32)) hx hb dL_helps_19 (by decide) ?_
  exact m_iret C h dL_helps_20

set_option maxHeartbeats 4000000 in
set_option maxRecDepth 100000 in
theorem nL_vetoes (hst : l.stackTraces = false) {p0 : Int32} {r : Int32} (hf : fX11_vetoes P g p0 = some (Sum.inr r, g')) : WCon l D cs adK adV yL_vetoes cL_vetoes 4 [(0, 9, 12, 19)] (rM 7) 0 0 [.ref (ad 0), .int p0, .ref aO] (SW cs ad al P g ++ outC cs aO fo :: Wm) (0 : Int32) (SW cs ad al P g' ++ outC cs aO (vp_updL fo 0 r.toInt64) :: Wm) := by
  refine WCon.of hst (by decide) (Nat.le_of_ble_eq_true rfl) ?_
  intro p e s m args below meth c A ls H locs C hL htb h hl
  have hx := C.1
  have hb := C.2.1
  have C : MCx p s m args meth c A RL cL_vetoes 4 (some .int) D cs := C
  have hl : lv_has ls 4 [(0, .ref (ad 0)), (1, .int p0), (2, .ref aO)] := hl
  refine lv_aload_n hx hb dL_vetoes_0 rfl (lv_at hl 2 rfl) ?_
  refine lv_iconst (v := (0 : Int32)) hx hb dL_vetoes_1 (by decide) ?_
  refine lv_aload_n hx hb dL_vetoes_2 rfl (lv_at hl 0 rfl) ?_
  refine lv_iload_n hx hb dL_vetoes_3 rfl (lv_at hl 1 rfl) ?_
  refine f_callV (r := some (.int r)) (rest := [.int (0 : Int32), .ref aO]) (W2 := outC cs aO fo :: Wm) [.int p0] C h cv_L_62 (qX11_vetoes hf) rfl ⟨rfl, rfl⟩ ⟨Nat.le_of_ble_eq_true rfl, Nat.le_of_ble_eq_true rfl⟩ (rv_law (q0 := 0) (ci := 10) (q := (RX11, TX11, 13)) C h rfl (SW_fix rfl)) hl.1 rfl (Nat.le_of_ble_eq_true rfl) ⟨Nat.le_refl _, Nat.le_refl _⟩ dL_vetoes_4 (fun H locs h => ?_)
  refine lv_i2l hx hb dL_vetoes_7 rfl ?_
  refine o_store C h dL_vetoes_8 (fun H locs h => ?_)
  refine lv_goto (tgt := 15) hx hb dL_vetoes_9 (by decide) ?_
  refine lv_iconst (v := (0 : Int32)) hx hb dL_vetoes_15 (by decide) ?_
  exact m_iret C h dL_vetoes_16

set_option maxHeartbeats 4000000 in
set_option maxRecDepth 100000 in
theorem xL_vetoes_2 (hst : l.stackTraces = false) {p0 : Int32} (hf : fX11_vetoes P g p0 = some (Sum.inl 2, g')) : WCon l D cs adK adV yL_vetoes cL_vetoes 4 [(0, 9, 12, 19)] (rA 8 1 6) 1 6 [.ref (ad 0), .int p0, .ref aO] (SW cs ad al P g ++ outC cs aO fo :: Wm) (1 : Int32) (SW cs ad al P g' ++ outC cs aO fo :: Wm) := by
  refine WCon.of hst (by decide) (Nat.le_of_ble_eq_true rfl) ?_
  intro p e s m args below meth c A ls H locs C hL htb h hl
  have hx := C.1
  have hb := C.2.1
  have C : MCx p s m args meth c A RL cL_vetoes 4 (some .int) D cs := C
  have hl : lv_has ls 4 [(0, .ref (ad 0)), (1, .int p0), (2, .ref aO)] := hl
  refine lv_aload_n hx hb dL_vetoes_0 rfl (lv_at hl 2 rfl) ?_
  refine lv_iconst (v := (0 : Int32)) hx hb dL_vetoes_1 (by decide) ?_
  refine lv_aload_n hx hb dL_vetoes_2 rfl (lv_at hl 0 rfl) ?_
  refine lv_iload_n hx hb dL_vetoes_3 rfl (lv_at hl 1 rfl) ?_
  refine f_catch (rest := [.int (0 : Int32), .ref aO]) (W2 := outC cs aO fo :: Wm) [.int p0] C hL h cv_L_62 (tX11_vetoes hst hf) rfl ⟨rfl, rfl⟩ ⟨Nat.le_of_ble_eq_true rfl, Nat.le_of_ble_eq_true rfl⟩ (rv_law (q0 := 0) (ci := 10) (q := (RX11, TX11, 13)) C h rfl (SW_fix rfl)) hl.1 rfl (Nat.le_of_ble_eq_true rfl) ⟨Nat.le_refl 1, Nat.le_refl 6⟩ dL_vetoes_4 [] ⟨0, 9, 12, 19⟩ [] (htb.trans rfl) ⟨by decide, by decide⟩ (fun z hz => absurd hz List.not_mem_nil) (by decide) (by decide) tb_25_13 (fun q H locs h => ?_)
  refine lv_astore_n (lv' := [(3, .ref q), (0, .ref (ad 0)), (1, .int p0), (2, .ref aO)]) hx hb dL_vetoes_12 rfl hl (by decide) rfl (fun ls hl => ?_)
  refine lv_iconst (v := (1 : Int32)) hx hb dL_vetoes_13 (by decide) ?_
  exact m_iret C h dL_vetoes_14

set_option maxHeartbeats 4000000 in
set_option maxRecDepth 100000 in
theorem nL_knees (hst : l.stackTraces = false) {p0 : Int32} {r : Int32} (hf : fX11_knees P g p0 = some (Sum.inr r, g')) : WCon l D cs adK adV yL_knees cL_knees 4 [(0, 9, 12, 13)] (rM 7) 0 0 [.ref (ad 0), .int p0, .ref aO] (SW cs ad al P g ++ outC cs aO fo :: Wm) (0 : Int32) (SW cs ad al P g' ++ outC cs aO (vp_updL fo 0 r.toInt64) :: Wm) := by
  refine WCon.of hst (by decide) (Nat.le_of_ble_eq_true rfl) ?_
  intro p e s m args below meth c A ls H locs C hL htb h hl
  have hx := C.1
  have hb := C.2.1
  have C : MCx p s m args meth c A RL cL_knees 4 (some .int) D cs := C
  have hl : lv_has ls 4 [(0, .ref (ad 0)), (1, .int p0), (2, .ref aO)] := hl
  refine lv_aload_n hx hb dL_knees_0 rfl (lv_at hl 2 rfl) ?_
  refine lv_iconst (v := (0 : Int32)) hx hb dL_knees_1 (by decide) ?_
  refine lv_aload_n hx hb dL_knees_2 rfl (lv_at hl 0 rfl) ?_
  refine lv_iload_n hx hb dL_knees_3 rfl (lv_at hl 1 rfl) ?_
  refine f_callV (r := some (.int r)) (rest := [.int (0 : Int32), .ref aO]) (W2 := outC cs aO fo :: Wm) [.int p0] C h cv_L_65 (qX11_knees hf) rfl ⟨rfl, rfl⟩ ⟨Nat.le_of_ble_eq_true rfl, Nat.le_of_ble_eq_true rfl⟩ (rv_law (q0 := 0) (ci := 10) (q := (RX11, TX11, 13)) C h rfl (SW_fix rfl)) hl.1 rfl (Nat.le_of_ble_eq_true rfl) ⟨Nat.le_refl _, Nat.le_refl _⟩ dL_knees_4 (fun H locs h => ?_)
  refine lv_i2l hx hb dL_knees_7 rfl ?_
  refine o_store C h dL_knees_8 (fun H locs h => ?_)
  refine lv_goto (tgt := 15) hx hb dL_knees_9 (by decide) ?_
  refine lv_iconst (v := (0 : Int32)) hx hb dL_knees_15 (by decide) ?_
  exact m_iret C h dL_knees_16

set_option maxHeartbeats 4000000 in
set_option maxRecDepth 100000 in
theorem xL_knees_1 (hst : l.stackTraces = false) {p0 : Int32} (hf : fX11_knees P g p0 = some (Sum.inl 1, g')) : WCon l D cs adK adV yL_knees cL_knees 4 [(0, 9, 12, 13)] (rA 8 1 6) 1 6 [.ref (ad 0), .int p0, .ref aO] (SW cs ad al P g ++ outC cs aO fo :: Wm) (1 : Int32) (SW cs ad al P g' ++ outC cs aO fo :: Wm) := by
  refine WCon.of hst (by decide) (Nat.le_of_ble_eq_true rfl) ?_
  intro p e s m args below meth c A ls H locs C hL htb h hl
  have hx := C.1
  have hb := C.2.1
  have C : MCx p s m args meth c A RL cL_knees 4 (some .int) D cs := C
  have hl : lv_has ls 4 [(0, .ref (ad 0)), (1, .int p0), (2, .ref aO)] := hl
  refine lv_aload_n hx hb dL_knees_0 rfl (lv_at hl 2 rfl) ?_
  refine lv_iconst (v := (0 : Int32)) hx hb dL_knees_1 (by decide) ?_
  refine lv_aload_n hx hb dL_knees_2 rfl (lv_at hl 0 rfl) ?_
  refine lv_iload_n hx hb dL_knees_3 rfl (lv_at hl 1 rfl) ?_
  refine f_catch (rest := [.int (0 : Int32), .ref aO]) (W2 := outC cs aO fo :: Wm) [.int p0] C hL h cv_L_65 (tX11_knees hst hf) rfl ⟨rfl, rfl⟩ ⟨Nat.le_of_ble_eq_true rfl, Nat.le_of_ble_eq_true rfl⟩ (rv_law (q0 := 0) (ci := 10) (q := (RX11, TX11, 13)) C h rfl (SW_fix rfl)) hl.1 rfl (Nat.le_of_ble_eq_true rfl) ⟨Nat.le_refl 1, Nat.le_refl 6⟩ dL_knees_4 [] ⟨0, 9, 12, 13⟩ [] (htb.trans rfl) ⟨by decide, by decide⟩ (fun z hz => absurd hz List.not_mem_nil) (by decide) (by decide) tb_8_23 (fun q H locs h => ?_)
  refine lv_astore_n (lv' := [(3, .ref q), (0, .ref (ad 0)), (1, .int p0), (2, .ref aO)]) hx hb dL_knees_12 rfl hl (by decide) rfl (fun ls hl => ?_)
  refine lv_iconst (v := (1 : Int32)) hx hb dL_knees_13 (by decide) ?_
  exact m_iret C h dL_knees_14

set_option maxHeartbeats 4000000 in
set_option maxRecDepth 100000 in
theorem nL_settles (hst : l.stackTraces = false) {p0 : Int32} {r : Int32} (hf : fX11_settles P g p0 = some (Sum.inr r, g')) : WCon l D cs adK adV yL_settles cL_settles 4 [(0, 9, 12, 13)] (rM 7) 0 0 [.ref (ad 0), .int p0, .ref aO] (SW cs ad al P g ++ outC cs aO fo :: Wm) (0 : Int32) (SW cs ad al P g' ++ outC cs aO (vp_updL fo 0 r.toInt64) :: Wm) := by
  refine WCon.of hst (by decide) (Nat.le_of_ble_eq_true rfl) ?_
  intro p e s m args below meth c A ls H locs C hL htb h hl
  have hx := C.1
  have hb := C.2.1
  have C : MCx p s m args meth c A RL cL_settles 4 (some .int) D cs := C
  have hl : lv_has ls 4 [(0, .ref (ad 0)), (1, .int p0), (2, .ref aO)] := hl
  refine lv_aload_n hx hb dL_settles_0 rfl (lv_at hl 2 rfl) ?_
  refine lv_iconst (v := (0 : Int32)) hx hb dL_settles_1 (by decide) ?_
  refine lv_aload_n hx hb dL_settles_2 rfl (lv_at hl 0 rfl) ?_
  refine lv_iload_n hx hb dL_settles_3 rfl (lv_at hl 1 rfl) ?_
  refine f_callV (r := some (.int r)) (rest := [.int (0 : Int32), .ref aO]) (W2 := outC cs aO fo :: Wm) [.int p0] C h cv_L_68 (qX11_settles hf) rfl ⟨rfl, rfl⟩ ⟨Nat.le_of_ble_eq_true rfl, Nat.le_of_ble_eq_true rfl⟩ (rv_law (q0 := 0) (ci := 10) (q := (RX11, TX11, 13)) C h rfl (SW_fix rfl)) hl.1 rfl (Nat.le_of_ble_eq_true rfl) ⟨Nat.le_refl _, Nat.le_refl _⟩ dL_settles_4 (fun H locs h => ?_)
  refine lv_i2l hx hb dL_settles_7 rfl ?_
  refine o_store C h dL_settles_8 (fun H locs h => ?_)
  refine lv_goto (tgt := 15) hx hb dL_settles_9 (by decide) ?_
  refine lv_iconst (v := (0 : Int32)) hx hb dL_settles_15 (by decide) ?_
  exact m_iret C h dL_settles_16

set_option maxHeartbeats 4000000 in
set_option maxRecDepth 100000 in
theorem xL_settles_1 (hst : l.stackTraces = false) {p0 : Int32} (hf : fX11_settles P g p0 = some (Sum.inl 1, g')) : WCon l D cs adK adV yL_settles cL_settles 4 [(0, 9, 12, 13)] (rA 7 1 6) 1 6 [.ref (ad 0), .int p0, .ref aO] (SW cs ad al P g ++ outC cs aO fo :: Wm) (1 : Int32) (SW cs ad al P g' ++ outC cs aO fo :: Wm) := by
  refine WCon.of hst (by decide) (Nat.le_of_ble_eq_true rfl) ?_
  intro p e s m args below meth c A ls H locs C hL htb h hl
  have hx := C.1
  have hb := C.2.1
  have C : MCx p s m args meth c A RL cL_settles 4 (some .int) D cs := C
  have hl : lv_has ls 4 [(0, .ref (ad 0)), (1, .int p0), (2, .ref aO)] := hl
  refine lv_aload_n hx hb dL_settles_0 rfl (lv_at hl 2 rfl) ?_
  refine lv_iconst (v := (0 : Int32)) hx hb dL_settles_1 (by decide) ?_
  refine lv_aload_n hx hb dL_settles_2 rfl (lv_at hl 0 rfl) ?_
  refine lv_iload_n hx hb dL_settles_3 rfl (lv_at hl 1 rfl) ?_
  refine f_catch (rest := [.int (0 : Int32), .ref aO]) (W2 := outC cs aO fo :: Wm) [.int p0] C hL h cv_L_68 (tX11_settles hst hf) rfl ⟨rfl, rfl⟩ ⟨Nat.le_of_ble_eq_true rfl, Nat.le_of_ble_eq_true rfl⟩ (rv_law (q0 := 0) (ci := 10) (q := (RX11, TX11, 13)) C h rfl (SW_fix rfl)) hl.1 rfl (Nat.le_of_ble_eq_true rfl) ⟨Nat.le_refl 1, Nat.le_refl 6⟩ dL_settles_4 [] ⟨0, 9, 12, 13⟩ [] (htb.trans rfl) ⟨by decide, by decide⟩ (fun z hz => absurd hz List.not_mem_nil) (by decide) (by decide) tb_8_23 (fun q H locs h => ?_)
  refine lv_astore_n (lv' := [(3, .ref q), (0, .ref (ad 0)), (1, .int p0), (2, .ref aO)]) hx hb dL_settles_12 rfl hl (by decide) rfl (fun ls hl => ?_)
  refine lv_iconst (v := (1 : Int32)) hx hb dL_settles_13 (by decide) ?_
  exact m_iret C h dL_settles_14

set_option maxHeartbeats 4000000 in
set_option maxRecDepth 100000 in
theorem nL_chairIn (hst : l.stackTraces = false) {p0 : Int32} {r : Int32} (hf : fX11_chairIn P g p0 = some (Sum.inr r, g')) : WCon l D cs adK adV yL_chairIn cL_chairIn 4 [(0, 9, 12, 13)] (rM 8) 0 0 [.ref (ad 0), .int p0, .ref aO] (SW cs ad al P g ++ outC cs aO fo :: Wm) (0 : Int32) (SW cs ad al P g' ++ outC cs aO (vp_updL fo 0 r.toInt64) :: Wm) := by
  refine WCon.of hst (by decide) (Nat.le_of_ble_eq_true rfl) ?_
  intro p e s m args below meth c A ls H locs C hL htb h hl
  have hx := C.1
  have hb := C.2.1
  have C : MCx p s m args meth c A RL cL_chairIn 4 (some .int) D cs := C
  have hl : lv_has ls 4 [(0, .ref (ad 0)), (1, .int p0), (2, .ref aO)] := hl
  refine lv_aload_n hx hb dL_chairIn_0 rfl (lv_at hl 2 rfl) ?_
  refine lv_iconst (v := (0 : Int32)) hx hb dL_chairIn_1 (by decide) ?_
  refine lv_aload_n hx hb dL_chairIn_2 rfl (lv_at hl 0 rfl) ?_
  refine lv_iload_n hx hb dL_chairIn_3 rfl (lv_at hl 1 rfl) ?_
  refine f_callV (r := some (.int r)) (rest := [.int (0 : Int32), .ref aO]) (W2 := outC cs aO fo :: Wm) [.int p0] C h cv_L_71 (qX11_chairIn hf) rfl ⟨rfl, rfl⟩ ⟨Nat.le_of_ble_eq_true rfl, Nat.le_of_ble_eq_true rfl⟩ (rv_law (q0 := 0) (ci := 10) (q := (RX11, TX11, 13)) C h rfl (SW_fix rfl)) hl.1 rfl (Nat.le_of_ble_eq_true rfl) ⟨Nat.le_refl _, Nat.le_refl _⟩ dL_chairIn_4 (fun H locs h => ?_)
  refine lv_i2l hx hb dL_chairIn_7 rfl ?_
  refine o_store C h dL_chairIn_8 (fun H locs h => ?_)
  refine lv_goto (tgt := 15) hx hb dL_chairIn_9 (by decide) ?_
  refine lv_iconst (v := (0 : Int32)) hx hb dL_chairIn_15 (by decide) ?_
  exact m_iret C h dL_chairIn_16

set_option maxHeartbeats 4000000 in
set_option maxRecDepth 100000 in
theorem xL_chairIn_1 (hst : l.stackTraces = false) {p0 : Int32} (hf : fX11_chairIn P g p0 = some (Sum.inl 1, g')) : WCon l D cs adK adV yL_chairIn cL_chairIn 4 [(0, 9, 12, 13)] (rA 8 1 6) 1 6 [.ref (ad 0), .int p0, .ref aO] (SW cs ad al P g ++ outC cs aO fo :: Wm) (1 : Int32) (SW cs ad al P g' ++ outC cs aO fo :: Wm) := by
  refine WCon.of hst (by decide) (Nat.le_of_ble_eq_true rfl) ?_
  intro p e s m args below meth c A ls H locs C hL htb h hl
  have hx := C.1
  have hb := C.2.1
  have C : MCx p s m args meth c A RL cL_chairIn 4 (some .int) D cs := C
  have hl : lv_has ls 4 [(0, .ref (ad 0)), (1, .int p0), (2, .ref aO)] := hl
  refine lv_aload_n hx hb dL_chairIn_0 rfl (lv_at hl 2 rfl) ?_
  refine lv_iconst (v := (0 : Int32)) hx hb dL_chairIn_1 (by decide) ?_
  refine lv_aload_n hx hb dL_chairIn_2 rfl (lv_at hl 0 rfl) ?_
  refine lv_iload_n hx hb dL_chairIn_3 rfl (lv_at hl 1 rfl) ?_
  refine f_catch (rest := [.int (0 : Int32), .ref aO]) (W2 := outC cs aO fo :: Wm) [.int p0] C hL h cv_L_71 (tX11_chairIn hst hf) rfl ⟨rfl, rfl⟩ ⟨Nat.le_of_ble_eq_true rfl, Nat.le_of_ble_eq_true rfl⟩ (rv_law (q0 := 0) (ci := 10) (q := (RX11, TX11, 13)) C h rfl (SW_fix rfl)) hl.1 rfl (Nat.le_of_ble_eq_true rfl) ⟨Nat.le_refl 1, Nat.le_refl 6⟩ dL_chairIn_4 [] ⟨0, 9, 12, 13⟩ [] (htb.trans rfl) ⟨by decide, by decide⟩ (fun z hz => absurd hz List.not_mem_nil) (by decide) (by decide) tb_8_23 (fun q H locs h => ?_)
  refine lv_astore_n (lv' := [(3, .ref q), (0, .ref (ad 0)), (1, .int p0), (2, .ref aO)]) hx hb dL_chairIn_12 rfl hl (by decide) rfl (fun ls hl => ?_)
  refine lv_iconst (v := (1 : Int32)) hx hb dL_chairIn_13 (by decide) ?_
  exact m_iret C h dL_chairIn_14

set_option maxHeartbeats 4000000 in
set_option maxRecDepth 100000 in
theorem nL_aimIn (hst : l.stackTraces = false) {p0 : Int32} {p1 : Int32} {r : Int32} (hf : fX11_aimIn P g p0 p1 = some (Sum.inr r, g')) : WCon l D cs adK adV yL_aimIn cL_aimIn 5 [(0, 10, 13, 19), (0, 10, 17, 13)] (rM 8) 0 0 [.ref (ad 0), .int p0, .int p1, .ref aO] (SW cs ad al P g ++ outC cs aO fo :: Wm) (0 : Int32) (SW cs ad al P g' ++ outC cs aO (vp_updL fo 0 r.toInt64) :: Wm) := by
  refine WCon.of hst (by decide) (Nat.le_of_ble_eq_true rfl) ?_
  intro p e s m args below meth c A ls H locs C hL htb h hl
  have hx := C.1
  have hb := C.2.1
  have C : MCx p s m args meth c A RL cL_aimIn 5 (some .int) D cs := C
  have hl : lv_has ls 5 [(0, .ref (ad 0)), (1, .int p0), (2, .int p1), (3, .ref aO)] := hl
  refine lv_aload_n hx hb dL_aimIn_0 rfl (lv_at hl 3 rfl) ?_
  refine lv_iconst (v := (0 : Int32)) hx hb dL_aimIn_1 (by decide) ?_
  refine lv_aload_n hx hb dL_aimIn_2 rfl (lv_at hl 0 rfl) ?_
  refine lv_iload_n hx hb dL_aimIn_3 rfl (lv_at hl 1 rfl) ?_
  refine lv_iload_n hx hb dL_aimIn_4 rfl (lv_at hl 2 rfl) ?_
  refine f_callV (r := some (.int r)) (rest := [.int (0 : Int32), .ref aO]) (W2 := outC cs aO fo :: Wm) [.int p0, .int p1] C h cv_L_74 (qX11_aimIn hf) rfl ⟨rfl, rfl⟩ ⟨Nat.le_of_ble_eq_true rfl, Nat.le_of_ble_eq_true rfl⟩ (rv_law (q0 := 0) (ci := 10) (q := (RX11, TX11, 13)) C h rfl (SW_fix rfl)) hl.1 rfl (Nat.le_of_ble_eq_true rfl) ⟨Nat.le_refl _, Nat.le_refl _⟩ dL_aimIn_5 (fun H locs h => ?_)
  refine lv_i2l hx hb dL_aimIn_8 rfl ?_
  refine o_store C h dL_aimIn_9 (fun H locs h => ?_)
  refine lv_goto (tgt := 21) hx hb dL_aimIn_10 (by decide) ?_
  refine lv_iconst (v := (0 : Int32)) hx hb dL_aimIn_21 (by decide) ?_
  exact m_iret C h dL_aimIn_22

set_option maxHeartbeats 4000000 in
set_option maxRecDepth 100000 in
theorem xL_aimIn_2 (hst : l.stackTraces = false) {p0 : Int32} {p1 : Int32} (hf : fX11_aimIn P g p0 p1 = some (Sum.inl 2, g')) : WCon l D cs adK adV yL_aimIn cL_aimIn 5 [(0, 10, 13, 19), (0, 10, 17, 13)] (rA 8 1 6) 1 6 [.ref (ad 0), .int p0, .int p1, .ref aO] (SW cs ad al P g ++ outC cs aO fo :: Wm) (1 : Int32) (SW cs ad al P g' ++ outC cs aO fo :: Wm) := by
  refine WCon.of hst (by decide) (Nat.le_of_ble_eq_true rfl) ?_
  intro p e s m args below meth c A ls H locs C hL htb h hl
  have hx := C.1
  have hb := C.2.1
  have C : MCx p s m args meth c A RL cL_aimIn 5 (some .int) D cs := C
  have hl : lv_has ls 5 [(0, .ref (ad 0)), (1, .int p0), (2, .int p1), (3, .ref aO)] := hl
  refine lv_aload_n hx hb dL_aimIn_0 rfl (lv_at hl 3 rfl) ?_
  refine lv_iconst (v := (0 : Int32)) hx hb dL_aimIn_1 (by decide) ?_
  refine lv_aload_n hx hb dL_aimIn_2 rfl (lv_at hl 0 rfl) ?_
  refine lv_iload_n hx hb dL_aimIn_3 rfl (lv_at hl 1 rfl) ?_
  refine lv_iload_n hx hb dL_aimIn_4 rfl (lv_at hl 2 rfl) ?_
  refine f_catch (rest := [.int (0 : Int32), .ref aO]) (W2 := outC cs aO fo :: Wm) [.int p0, .int p1] C hL h cv_L_74 (tX11_aimIn hst hf) rfl ⟨rfl, rfl⟩ ⟨Nat.le_of_ble_eq_true rfl, Nat.le_of_ble_eq_true rfl⟩ (rv_law (q0 := 0) (ci := 10) (q := (RX11, TX11, 13)) C h rfl (SW_fix rfl)) hl.1 rfl (Nat.le_of_ble_eq_true rfl) ⟨Nat.le_refl 1, Nat.le_refl 6⟩ dL_aimIn_5 [] ⟨0, 10, 13, 19⟩ [⟨0, 10, 17, 13⟩] (htb.trans rfl) ⟨by decide, by decide⟩ (fun z hz => absurd hz List.not_mem_nil) (by decide) (by decide) tb_25_13 (fun q H locs h => ?_)
  refine lv_astore (lv' := [(4, .ref q), (0, .ref (ad 0)), (1, .int p0), (2, .int p1), (3, .ref aO)]) hx hb dL_aimIn_13 hl (by decide) rfl (fun ls hl => ?_)
  refine lv_iconst (v := (1 : Int32)) hx hb dL_aimIn_15 (by decide) ?_
  exact m_iret C h dL_aimIn_16

set_option maxHeartbeats 4000000 in
set_option maxRecDepth 100000 in
theorem xL_aimIn_1 (hst : l.stackTraces = false) {p0 : Int32} {p1 : Int32} (hf : fX11_aimIn P g p0 p1 = some (Sum.inl 1, g')) : WCon l D cs adK adV yL_aimIn cL_aimIn 5 [(0, 10, 13, 19), (0, 10, 17, 13)] (rA 8 1 6) 1 6 [.ref (ad 0), .int p0, .int p1, .ref aO] (SW cs ad al P g ++ outC cs aO fo :: Wm) (2 : Int32) (SW cs ad al P g' ++ outC cs aO fo :: Wm) := by
  refine WCon.of hst (by decide) (Nat.le_of_ble_eq_true rfl) ?_
  intro p e s m args below meth c A ls H locs C hL htb h hl
  have hx := C.1
  have hb := C.2.1
  have C : MCx p s m args meth c A RL cL_aimIn 5 (some .int) D cs := C
  have hl : lv_has ls 5 [(0, .ref (ad 0)), (1, .int p0), (2, .int p1), (3, .ref aO)] := hl
  refine lv_aload_n hx hb dL_aimIn_0 rfl (lv_at hl 3 rfl) ?_
  refine lv_iconst (v := (0 : Int32)) hx hb dL_aimIn_1 (by decide) ?_
  refine lv_aload_n hx hb dL_aimIn_2 rfl (lv_at hl 0 rfl) ?_
  refine lv_iload_n hx hb dL_aimIn_3 rfl (lv_at hl 1 rfl) ?_
  refine lv_iload_n hx hb dL_aimIn_4 rfl (lv_at hl 2 rfl) ?_
  refine f_catch (rest := [.int (0 : Int32), .ref aO]) (W2 := outC cs aO fo :: Wm) [.int p0, .int p1] C hL h cv_L_74 (tX11_aimIn hst hf) rfl ⟨rfl, rfl⟩ ⟨Nat.le_of_ble_eq_true rfl, Nat.le_of_ble_eq_true rfl⟩ (rv_law (q0 := 0) (ci := 10) (q := (RX11, TX11, 13)) C h rfl (SW_fix rfl)) hl.1 rfl (Nat.le_of_ble_eq_true rfl) ⟨Nat.le_refl 1, Nat.le_refl 6⟩ dL_aimIn_5 [⟨0, 10, 13, 19⟩] ⟨0, 10, 17, 13⟩ [] (htb.trans rfl) ⟨by decide, by decide⟩ (by
    intro z hz
    simp only [List.mem_cons, List.not_mem_nil, or_false] at hz
    rcases hz with hz
    · subst hz
      exact ⟨by decide, 2, by decide, by decide, by decide, tb_25_13⟩) (by decide) (by decide) tb_8_23 (fun q H locs h => ?_)
  refine lv_astore (lv' := [(4, .ref q), (0, .ref (ad 0)), (1, .int p0), (2, .int p1), (3, .ref aO)]) hx hb dL_aimIn_17 hl (by decide) rfl (fun ls hl => ?_)
  refine lv_iconst (v := (2 : Int32)) hx hb dL_aimIn_19 (by decide) ?_
  exact m_iret C h dL_aimIn_20

set_option maxHeartbeats 4000000 in
set_option maxRecDepth 100000 in
theorem nL_reign (hst : l.stackTraces = false) {p0 : Int32} {p1 : Int32} {r : Int32} (hf : fX11_reign P g p0 p1 = some (Sum.inr r, g')) : WCon l D cs adK adV yL_reign cL_reign 5 [(0, 10, 13, 19), (0, 10, 17, 13)] (rM 8) 0 0 [.ref (ad 0), .int p0, .int p1, .ref aO] (SW cs ad al P g ++ outC cs aO fo :: Wm) (0 : Int32) (SW cs ad al P g' ++ outC cs aO (vp_updL fo 0 r.toInt64) :: Wm) := by
  refine WCon.of hst (by decide) (Nat.le_of_ble_eq_true rfl) ?_
  intro p e s m args below meth c A ls H locs C hL htb h hl
  have hx := C.1
  have hb := C.2.1
  have C : MCx p s m args meth c A RL cL_reign 5 (some .int) D cs := C
  have hl : lv_has ls 5 [(0, .ref (ad 0)), (1, .int p0), (2, .int p1), (3, .ref aO)] := hl
  refine lv_aload_n hx hb dL_reign_0 rfl (lv_at hl 3 rfl) ?_
  refine lv_iconst (v := (0 : Int32)) hx hb dL_reign_1 (by decide) ?_
  refine lv_aload_n hx hb dL_reign_2 rfl (lv_at hl 0 rfl) ?_
  refine lv_iload_n hx hb dL_reign_3 rfl (lv_at hl 1 rfl) ?_
  refine lv_iload_n hx hb dL_reign_4 rfl (lv_at hl 2 rfl) ?_
  refine f_callV (r := some (.int r)) (rest := [.int (0 : Int32), .ref aO]) (W2 := outC cs aO fo :: Wm) [.int p0, .int p1] C h cv_L_77 (qX11_reign hf) rfl ⟨rfl, rfl⟩ ⟨Nat.le_of_ble_eq_true rfl, Nat.le_of_ble_eq_true rfl⟩ (rv_law (q0 := 0) (ci := 10) (q := (RX11, TX11, 13)) C h rfl (SW_fix rfl)) hl.1 rfl (Nat.le_of_ble_eq_true rfl) ⟨Nat.le_refl _, Nat.le_refl _⟩ dL_reign_5 (fun H locs h => ?_)
  refine lv_i2l hx hb dL_reign_8 rfl ?_
  refine o_store C h dL_reign_9 (fun H locs h => ?_)
  refine lv_goto (tgt := 21) hx hb dL_reign_10 (by decide) ?_
  refine lv_iconst (v := (0 : Int32)) hx hb dL_reign_21 (by decide) ?_
  exact m_iret C h dL_reign_22

set_option maxHeartbeats 4000000 in
set_option maxRecDepth 100000 in
theorem xL_reign_2 (hst : l.stackTraces = false) {p0 : Int32} {p1 : Int32} (hf : fX11_reign P g p0 p1 = some (Sum.inl 2, g')) : WCon l D cs adK adV yL_reign cL_reign 5 [(0, 10, 13, 19), (0, 10, 17, 13)] (rA 8 1 6) 1 6 [.ref (ad 0), .int p0, .int p1, .ref aO] (SW cs ad al P g ++ outC cs aO fo :: Wm) (1 : Int32) (SW cs ad al P g' ++ outC cs aO fo :: Wm) := by
  refine WCon.of hst (by decide) (Nat.le_of_ble_eq_true rfl) ?_
  intro p e s m args below meth c A ls H locs C hL htb h hl
  have hx := C.1
  have hb := C.2.1
  have C : MCx p s m args meth c A RL cL_reign 5 (some .int) D cs := C
  have hl : lv_has ls 5 [(0, .ref (ad 0)), (1, .int p0), (2, .int p1), (3, .ref aO)] := hl
  refine lv_aload_n hx hb dL_reign_0 rfl (lv_at hl 3 rfl) ?_
  refine lv_iconst (v := (0 : Int32)) hx hb dL_reign_1 (by decide) ?_
  refine lv_aload_n hx hb dL_reign_2 rfl (lv_at hl 0 rfl) ?_
  refine lv_iload_n hx hb dL_reign_3 rfl (lv_at hl 1 rfl) ?_
  refine lv_iload_n hx hb dL_reign_4 rfl (lv_at hl 2 rfl) ?_
  refine f_catch (rest := [.int (0 : Int32), .ref aO]) (W2 := outC cs aO fo :: Wm) [.int p0, .int p1] C hL h cv_L_77 (tX11_reign hst hf) rfl ⟨rfl, rfl⟩ ⟨Nat.le_of_ble_eq_true rfl, Nat.le_of_ble_eq_true rfl⟩ (rv_law (q0 := 0) (ci := 10) (q := (RX11, TX11, 13)) C h rfl (SW_fix rfl)) hl.1 rfl (Nat.le_of_ble_eq_true rfl) ⟨Nat.le_refl 1, Nat.le_refl 6⟩ dL_reign_5 [] ⟨0, 10, 13, 19⟩ [⟨0, 10, 17, 13⟩] (htb.trans rfl) ⟨by decide, by decide⟩ (fun z hz => absurd hz List.not_mem_nil) (by decide) (by decide) tb_25_13 (fun q H locs h => ?_)
  refine lv_astore (lv' := [(4, .ref q), (0, .ref (ad 0)), (1, .int p0), (2, .int p1), (3, .ref aO)]) hx hb dL_reign_13 hl (by decide) rfl (fun ls hl => ?_)
  refine lv_iconst (v := (1 : Int32)) hx hb dL_reign_15 (by decide) ?_
  exact m_iret C h dL_reign_16

set_option maxHeartbeats 4000000 in
set_option maxRecDepth 100000 in
theorem xL_reign_1 (hst : l.stackTraces = false) {p0 : Int32} {p1 : Int32} (hf : fX11_reign P g p0 p1 = some (Sum.inl 1, g')) : WCon l D cs adK adV yL_reign cL_reign 5 [(0, 10, 13, 19), (0, 10, 17, 13)] (rA 8 1 6) 1 6 [.ref (ad 0), .int p0, .int p1, .ref aO] (SW cs ad al P g ++ outC cs aO fo :: Wm) (2 : Int32) (SW cs ad al P g' ++ outC cs aO fo :: Wm) := by
  refine WCon.of hst (by decide) (Nat.le_of_ble_eq_true rfl) ?_
  intro p e s m args below meth c A ls H locs C hL htb h hl
  have hx := C.1
  have hb := C.2.1
  have C : MCx p s m args meth c A RL cL_reign 5 (some .int) D cs := C
  have hl : lv_has ls 5 [(0, .ref (ad 0)), (1, .int p0), (2, .int p1), (3, .ref aO)] := hl
  refine lv_aload_n hx hb dL_reign_0 rfl (lv_at hl 3 rfl) ?_
  refine lv_iconst (v := (0 : Int32)) hx hb dL_reign_1 (by decide) ?_
  refine lv_aload_n hx hb dL_reign_2 rfl (lv_at hl 0 rfl) ?_
  refine lv_iload_n hx hb dL_reign_3 rfl (lv_at hl 1 rfl) ?_
  refine lv_iload_n hx hb dL_reign_4 rfl (lv_at hl 2 rfl) ?_
  refine f_catch (rest := [.int (0 : Int32), .ref aO]) (W2 := outC cs aO fo :: Wm) [.int p0, .int p1] C hL h cv_L_77 (tX11_reign hst hf) rfl ⟨rfl, rfl⟩ ⟨Nat.le_of_ble_eq_true rfl, Nat.le_of_ble_eq_true rfl⟩ (rv_law (q0 := 0) (ci := 10) (q := (RX11, TX11, 13)) C h rfl (SW_fix rfl)) hl.1 rfl (Nat.le_of_ble_eq_true rfl) ⟨Nat.le_refl 1, Nat.le_refl 6⟩ dL_reign_5 [⟨0, 10, 13, 19⟩] ⟨0, 10, 17, 13⟩ [] (htb.trans rfl) ⟨by decide, by decide⟩ (by
    intro z hz
    simp only [List.mem_cons, List.not_mem_nil, or_false] at hz
    rcases hz with hz
    · subst hz
      exact ⟨by decide, 2, by decide, by decide, by decide, tb_25_13⟩) (by decide) (by decide) tb_8_23 (fun q H locs h => ?_)
  refine lv_astore (lv' := [(4, .ref q), (0, .ref (ad 0)), (1, .int p0), (2, .int p1), (3, .ref aO)]) hx hb dL_reign_17 hl (by decide) rfl (fun ls hl => ?_)
  refine lv_iconst (v := (2 : Int32)) hx hb dL_reign_19 (by decide) ?_
  exact m_iret C h dL_reign_20

set_option maxHeartbeats 4000000 in
set_option maxRecDepth 100000 in
theorem nL_first (hst : l.stackTraces = false) {p0 : Int32} {r : Int32} (hf : fX11_first P g p0 = some (Sum.inr r, g')) : WCon l D cs adK adV yL_first cL_first 4 [(0, 9, 12, 19)] (rM 8) 0 0 [.ref (ad 0), .int p0, .ref aO] (SW cs ad al P g ++ outC cs aO fo :: Wm) (0 : Int32) (SW cs ad al P g' ++ outC cs aO (vp_updL fo 0 r.toInt64) :: Wm) := by
  refine WCon.of hst (by decide) (Nat.le_of_ble_eq_true rfl) ?_
  intro p e s m args below meth c A ls H locs C hL htb h hl
  have hx := C.1
  have hb := C.2.1
  have C : MCx p s m args meth c A RL cL_first 4 (some .int) D cs := C
  have hl : lv_has ls 4 [(0, .ref (ad 0)), (1, .int p0), (2, .ref aO)] := hl
  refine lv_aload_n hx hb dL_first_0 rfl (lv_at hl 2 rfl) ?_
  refine lv_iconst (v := (0 : Int32)) hx hb dL_first_1 (by decide) ?_
  refine lv_aload_n hx hb dL_first_2 rfl (lv_at hl 0 rfl) ?_
  refine lv_iload_n hx hb dL_first_3 rfl (lv_at hl 1 rfl) ?_
  refine f_callV (r := some (.int r)) (rest := [.int (0 : Int32), .ref aO]) (W2 := outC cs aO fo :: Wm) [.int p0] C h cv_L_80 (qX11_first hf) rfl ⟨rfl, rfl⟩ ⟨Nat.le_of_ble_eq_true rfl, Nat.le_of_ble_eq_true rfl⟩ (rv_law (q0 := 0) (ci := 10) (q := (RX11, TX11, 13)) C h rfl (SW_fix rfl)) hl.1 rfl (Nat.le_of_ble_eq_true rfl) ⟨Nat.le_refl _, Nat.le_refl _⟩ dL_first_4 (fun H locs h => ?_)
  refine lv_i2l hx hb dL_first_7 rfl ?_
  refine o_store C h dL_first_8 (fun H locs h => ?_)
  refine lv_goto (tgt := 15) hx hb dL_first_9 (by decide) ?_
  refine lv_iconst (v := (0 : Int32)) hx hb dL_first_15 (by decide) ?_
  exact m_iret C h dL_first_16

set_option maxHeartbeats 4000000 in
set_option maxRecDepth 100000 in
theorem xL_first_2 (hst : l.stackTraces = false) {p0 : Int32} (hf : fX11_first P g p0 = some (Sum.inl 2, g')) : WCon l D cs adK adV yL_first cL_first 4 [(0, 9, 12, 19)] (rA 8 1 6) 1 6 [.ref (ad 0), .int p0, .ref aO] (SW cs ad al P g ++ outC cs aO fo :: Wm) (1 : Int32) (SW cs ad al P g' ++ outC cs aO fo :: Wm) := by
  refine WCon.of hst (by decide) (Nat.le_of_ble_eq_true rfl) ?_
  intro p e s m args below meth c A ls H locs C hL htb h hl
  have hx := C.1
  have hb := C.2.1
  have C : MCx p s m args meth c A RL cL_first 4 (some .int) D cs := C
  have hl : lv_has ls 4 [(0, .ref (ad 0)), (1, .int p0), (2, .ref aO)] := hl
  refine lv_aload_n hx hb dL_first_0 rfl (lv_at hl 2 rfl) ?_
  refine lv_iconst (v := (0 : Int32)) hx hb dL_first_1 (by decide) ?_
  refine lv_aload_n hx hb dL_first_2 rfl (lv_at hl 0 rfl) ?_
  refine lv_iload_n hx hb dL_first_3 rfl (lv_at hl 1 rfl) ?_
  refine f_catch (rest := [.int (0 : Int32), .ref aO]) (W2 := outC cs aO fo :: Wm) [.int p0] C hL h cv_L_80 (tX11_first hst hf) rfl ⟨rfl, rfl⟩ ⟨Nat.le_of_ble_eq_true rfl, Nat.le_of_ble_eq_true rfl⟩ (rv_law (q0 := 0) (ci := 10) (q := (RX11, TX11, 13)) C h rfl (SW_fix rfl)) hl.1 rfl (Nat.le_of_ble_eq_true rfl) ⟨Nat.le_refl 1, Nat.le_refl 6⟩ dL_first_4 [] ⟨0, 9, 12, 19⟩ [] (htb.trans rfl) ⟨by decide, by decide⟩ (fun z hz => absurd hz List.not_mem_nil) (by decide) (by decide) tb_25_13 (fun q H locs h => ?_)
  refine lv_astore_n (lv' := [(3, .ref q), (0, .ref (ad 0)), (1, .int p0), (2, .ref aO)]) hx hb dL_first_12 rfl hl (by decide) rfl (fun ls hl => ?_)
  refine lv_iconst (v := (1 : Int32)) hx hb dL_first_13 (by decide) ?_
  exact m_iret C h dL_first_14

set_option maxHeartbeats 4000000 in
set_option maxRecDepth 100000 in
theorem nL_seen (hst : l.stackTraces = false) {p0 : Int32} {r : Int32} (hf : fX11_seen P g p0 = some (Sum.inr r, g')) : WCon l D cs adK adV yL_seen cL_seen 4 [(0, 9, 12, 19), (0, 9, 15, 36), (0, 9, 18, 13)] (rM 8) 0 0 [.ref (ad 0), .int p0, .ref aO] (SW cs ad al P g ++ outC cs aO fo :: Wm) (0 : Int32) (SW cs ad al P g' ++ outC cs aO (vp_updL fo 0 r.toInt64) :: Wm) := by
  refine WCon.of hst (by decide) (Nat.le_of_ble_eq_true rfl) ?_
  intro p e s m args below meth c A ls H locs C hL htb h hl
  have hx := C.1
  have hb := C.2.1
  have C : MCx p s m args meth c A RL cL_seen 4 (some .int) D cs := C
  have hl : lv_has ls 4 [(0, .ref (ad 0)), (1, .int p0), (2, .ref aO)] := hl
  refine lv_aload_n hx hb dL_seen_0 rfl (lv_at hl 2 rfl) ?_
  refine lv_iconst (v := (0 : Int32)) hx hb dL_seen_1 (by decide) ?_
  refine lv_aload_n hx hb dL_seen_2 rfl (lv_at hl 0 rfl) ?_
  refine lv_iload_n hx hb dL_seen_3 rfl (lv_at hl 1 rfl) ?_
  refine f_callV (r := some (.int r)) (rest := [.int (0 : Int32), .ref aO]) (W2 := outC cs aO fo :: Wm) [.int p0] C h cv_L_83 (qX11_seen hf) rfl ⟨rfl, rfl⟩ ⟨Nat.le_of_ble_eq_true rfl, Nat.le_of_ble_eq_true rfl⟩ (rv_law (q0 := 0) (ci := 10) (q := (RX11, TX11, 13)) C h rfl (SW_fix rfl)) hl.1 rfl (Nat.le_of_ble_eq_true rfl) ⟨Nat.le_refl _, Nat.le_refl _⟩ dL_seen_4 (fun H locs h => ?_)
  refine lv_i2l hx hb dL_seen_7 rfl ?_
  refine o_store C h dL_seen_8 (fun H locs h => ?_)
  refine lv_goto (tgt := 21) hx hb dL_seen_9 (by decide) ?_
  refine lv_iconst (v := (0 : Int32)) hx hb dL_seen_21 (by decide) ?_
  exact m_iret C h dL_seen_22

set_option maxHeartbeats 4000000 in
set_option maxRecDepth 100000 in
theorem xL_seen_2 (hst : l.stackTraces = false) {p0 : Int32} (hf : fX11_seen P g p0 = some (Sum.inl 2, g')) : WCon l D cs adK adV yL_seen cL_seen 4 [(0, 9, 12, 19), (0, 9, 15, 36), (0, 9, 18, 13)] (rA 10 1 6) 1 6 [.ref (ad 0), .int p0, .ref aO] (SW cs ad al P g ++ outC cs aO fo :: Wm) (1 : Int32) (SW cs ad al P g' ++ outC cs aO fo :: Wm) := by
  refine WCon.of hst (by decide) (Nat.le_of_ble_eq_true rfl) ?_
  intro p e s m args below meth c A ls H locs C hL htb h hl
  have hx := C.1
  have hb := C.2.1
  have C : MCx p s m args meth c A RL cL_seen 4 (some .int) D cs := C
  have hl : lv_has ls 4 [(0, .ref (ad 0)), (1, .int p0), (2, .ref aO)] := hl
  refine lv_aload_n hx hb dL_seen_0 rfl (lv_at hl 2 rfl) ?_
  refine lv_iconst (v := (0 : Int32)) hx hb dL_seen_1 (by decide) ?_
  refine lv_aload_n hx hb dL_seen_2 rfl (lv_at hl 0 rfl) ?_
  refine lv_iload_n hx hb dL_seen_3 rfl (lv_at hl 1 rfl) ?_
  refine f_catch (rest := [.int (0 : Int32), .ref aO]) (W2 := outC cs aO fo :: Wm) [.int p0] C hL h cv_L_83 (tX11_seen hst hf) rfl ⟨rfl, rfl⟩ ⟨Nat.le_of_ble_eq_true rfl, Nat.le_of_ble_eq_true rfl⟩ (rv_law (q0 := 0) (ci := 10) (q := (RX11, TX11, 13)) C h rfl (SW_fix rfl)) hl.1 rfl (Nat.le_of_ble_eq_true rfl) ⟨Nat.le_refl 1, Nat.le_refl 6⟩ dL_seen_4 [] ⟨0, 9, 12, 19⟩ [⟨0, 9, 15, 36⟩, ⟨0, 9, 18, 13⟩] (htb.trans rfl) ⟨by decide, by decide⟩ (fun z hz => absurd hz List.not_mem_nil) (by decide) (by decide) tb_25_13 (fun q H locs h => ?_)
  refine lv_astore_n (lv' := [(3, .ref q), (0, .ref (ad 0)), (1, .int p0), (2, .ref aO)]) hx hb dL_seen_12 rfl hl (by decide) rfl (fun ls hl => ?_)
  refine lv_iconst (v := (1 : Int32)) hx hb dL_seen_13 (by decide) ?_
  exact m_iret C h dL_seen_14

set_option maxHeartbeats 4000000 in
set_option maxRecDepth 100000 in
theorem xL_seen_3 (hst : l.stackTraces = false) {p0 : Int32} (hf : fX11_seen P g p0 = some (Sum.inl 3, g')) : WCon l D cs adK adV yL_seen cL_seen 4 [(0, 9, 12, 19), (0, 9, 15, 36), (0, 9, 18, 13)] (rA 10 1 6) 1 6 [.ref (ad 0), .int p0, .ref aO] (SW cs ad al P g ++ outC cs aO fo :: Wm) (2 : Int32) (SW cs ad al P g' ++ outC cs aO fo :: Wm) := by
  refine WCon.of hst (by decide) (Nat.le_of_ble_eq_true rfl) ?_
  intro p e s m args below meth c A ls H locs C hL htb h hl
  have hx := C.1
  have hb := C.2.1
  have C : MCx p s m args meth c A RL cL_seen 4 (some .int) D cs := C
  have hl : lv_has ls 4 [(0, .ref (ad 0)), (1, .int p0), (2, .ref aO)] := hl
  refine lv_aload_n hx hb dL_seen_0 rfl (lv_at hl 2 rfl) ?_
  refine lv_iconst (v := (0 : Int32)) hx hb dL_seen_1 (by decide) ?_
  refine lv_aload_n hx hb dL_seen_2 rfl (lv_at hl 0 rfl) ?_
  refine lv_iload_n hx hb dL_seen_3 rfl (lv_at hl 1 rfl) ?_
  refine f_catch (rest := [.int (0 : Int32), .ref aO]) (W2 := outC cs aO fo :: Wm) [.int p0] C hL h cv_L_83 (tX11_seen hst hf) rfl ⟨rfl, rfl⟩ ⟨Nat.le_of_ble_eq_true rfl, Nat.le_of_ble_eq_true rfl⟩ (rv_law (q0 := 0) (ci := 10) (q := (RX11, TX11, 13)) C h rfl (SW_fix rfl)) hl.1 rfl (Nat.le_of_ble_eq_true rfl) ⟨Nat.le_refl 1, Nat.le_refl 6⟩ dL_seen_4 [⟨0, 9, 12, 19⟩] ⟨0, 9, 15, 36⟩ [⟨0, 9, 18, 13⟩] (htb.trans rfl) ⟨by decide, by decide⟩ (by
    intro z hz
    simp only [List.mem_cons, List.not_mem_nil, or_false] at hz
    rcases hz with hz
    · subst hz
      exact ⟨by decide, 2, by decide, by decide, by decide, tb_25_13⟩) (by decide) (by decide) tb_38_18 (fun q H locs h => ?_)
  refine lv_astore_n (lv' := [(3, .ref q), (0, .ref (ad 0)), (1, .int p0), (2, .ref aO)]) hx hb dL_seen_15 rfl hl (by decide) rfl (fun ls hl => ?_)
  refine lv_iconst (v := (2 : Int32)) hx hb dL_seen_16 (by decide) ?_
  exact m_iret C h dL_seen_17

set_option maxHeartbeats 4000000 in
set_option maxRecDepth 100000 in
theorem xL_seen_1 (hst : l.stackTraces = false) {p0 : Int32} (hf : fX11_seen P g p0 = some (Sum.inl 1, g')) : WCon l D cs adK adV yL_seen cL_seen 4 [(0, 9, 12, 19), (0, 9, 15, 36), (0, 9, 18, 13)] (rA 10 1 6) 1 6 [.ref (ad 0), .int p0, .ref aO] (SW cs ad al P g ++ outC cs aO fo :: Wm) (3 : Int32) (SW cs ad al P g' ++ outC cs aO fo :: Wm) := by
  refine WCon.of hst (by decide) (Nat.le_of_ble_eq_true rfl) ?_
  intro p e s m args below meth c A ls H locs C hL htb h hl
  have hx := C.1
  have hb := C.2.1
  have C : MCx p s m args meth c A RL cL_seen 4 (some .int) D cs := C
  have hl : lv_has ls 4 [(0, .ref (ad 0)), (1, .int p0), (2, .ref aO)] := hl
  refine lv_aload_n hx hb dL_seen_0 rfl (lv_at hl 2 rfl) ?_
  refine lv_iconst (v := (0 : Int32)) hx hb dL_seen_1 (by decide) ?_
  refine lv_aload_n hx hb dL_seen_2 rfl (lv_at hl 0 rfl) ?_
  refine lv_iload_n hx hb dL_seen_3 rfl (lv_at hl 1 rfl) ?_
  refine f_catch (rest := [.int (0 : Int32), .ref aO]) (W2 := outC cs aO fo :: Wm) [.int p0] C hL h cv_L_83 (tX11_seen hst hf) rfl ⟨rfl, rfl⟩ ⟨Nat.le_of_ble_eq_true rfl, Nat.le_of_ble_eq_true rfl⟩ (rv_law (q0 := 0) (ci := 10) (q := (RX11, TX11, 13)) C h rfl (SW_fix rfl)) hl.1 rfl (Nat.le_of_ble_eq_true rfl) ⟨Nat.le_refl 1, Nat.le_refl 6⟩ dL_seen_4 [⟨0, 9, 12, 19⟩, ⟨0, 9, 15, 36⟩] ⟨0, 9, 18, 13⟩ [] (htb.trans rfl) ⟨by decide, by decide⟩ (by
    intro z hz
    simp only [List.mem_cons, List.not_mem_nil, or_false] at hz
    rcases hz with hz | hz
    · subst hz
      exact ⟨by decide, 2, by decide, by decide, by decide, tb_25_13⟩
    · subst hz
      exact ⟨by decide, 3, by decide, by decide, by decide, tb_38_18⟩) (by decide) (by decide) tb_8_23 (fun q H locs h => ?_)
  refine lv_astore_n (lv' := [(3, .ref q), (0, .ref (ad 0)), (1, .int p0), (2, .ref aO)]) hx hb dL_seen_18 rfl hl (by decide) rfl (fun ls hl => ?_)
  refine lv_iconst (v := (3 : Int32)) hx hb dL_seen_19 (by decide) ?_
  exact m_iret C h dL_seen_20

set_option maxHeartbeats 4000000 in
set_option maxRecDepth 100000 in
theorem nL_seenAt (hst : l.stackTraces = false) {p0 : Int32} {p1 : Int32} {r : Int32} (hf : fX11_seenAt P g p0 p1 = some (Sum.inr r, g')) : WCon l D cs adK adV yL_seenAt cL_seenAt 5 [(0, 10, 13, 19), (0, 10, 17, 36), (0, 10, 21, 13)] (rM 7) 0 0 [.ref (ad 0), .int p0, .int p1, .ref aO] (SW cs ad al P g ++ outC cs aO fo :: Wm) (0 : Int32) (SW cs ad al P g' ++ outC cs aO (vp_updL fo 0 r.toInt64) :: Wm) := by
  refine WCon.of hst (by decide) (Nat.le_of_ble_eq_true rfl) ?_
  intro p e s m args below meth c A ls H locs C hL htb h hl
  have hx := C.1
  have hb := C.2.1
  have C : MCx p s m args meth c A RL cL_seenAt 5 (some .int) D cs := C
  have hl : lv_has ls 5 [(0, .ref (ad 0)), (1, .int p0), (2, .int p1), (3, .ref aO)] := hl
  refine lv_aload_n hx hb dL_seenAt_0 rfl (lv_at hl 3 rfl) ?_
  refine lv_iconst (v := (0 : Int32)) hx hb dL_seenAt_1 (by decide) ?_
  refine lv_aload_n hx hb dL_seenAt_2 rfl (lv_at hl 0 rfl) ?_
  refine lv_iload_n hx hb dL_seenAt_3 rfl (lv_at hl 1 rfl) ?_
  refine lv_iload_n hx hb dL_seenAt_4 rfl (lv_at hl 2 rfl) ?_
  refine f_callV (r := some (.int r)) (rest := [.int (0 : Int32), .ref aO]) (W2 := outC cs aO fo :: Wm) [.int p0, .int p1] C h cv_L_86 (qX11_seenAt hf) rfl ⟨rfl, rfl⟩ ⟨Nat.le_of_ble_eq_true rfl, Nat.le_of_ble_eq_true rfl⟩ (rv_law (q0 := 0) (ci := 10) (q := (RX11, TX11, 13)) C h rfl (SW_fix rfl)) hl.1 rfl (Nat.le_of_ble_eq_true rfl) ⟨Nat.le_refl _, Nat.le_refl _⟩ dL_seenAt_5 (fun H locs h => ?_)
  refine lv_i2l hx hb dL_seenAt_8 rfl ?_
  refine o_store C h dL_seenAt_9 (fun H locs h => ?_)
  refine lv_goto (tgt := 25) hx hb dL_seenAt_10 (by decide) ?_
  refine lv_iconst (v := (0 : Int32)) hx hb dL_seenAt_25 (by decide) ?_
  exact m_iret C h dL_seenAt_26

set_option maxHeartbeats 4000000 in
set_option maxRecDepth 100000 in
theorem xL_seenAt_2 (hst : l.stackTraces = false) {p0 : Int32} {p1 : Int32} (hf : fX11_seenAt P g p0 p1 = some (Sum.inl 2, g')) : WCon l D cs adK adV yL_seenAt cL_seenAt 5 [(0, 10, 13, 19), (0, 10, 17, 36), (0, 10, 21, 13)] (rA 9 1 6) 1 6 [.ref (ad 0), .int p0, .int p1, .ref aO] (SW cs ad al P g ++ outC cs aO fo :: Wm) (1 : Int32) (SW cs ad al P g' ++ outC cs aO fo :: Wm) := by
  refine WCon.of hst (by decide) (Nat.le_of_ble_eq_true rfl) ?_
  intro p e s m args below meth c A ls H locs C hL htb h hl
  have hx := C.1
  have hb := C.2.1
  have C : MCx p s m args meth c A RL cL_seenAt 5 (some .int) D cs := C
  have hl : lv_has ls 5 [(0, .ref (ad 0)), (1, .int p0), (2, .int p1), (3, .ref aO)] := hl
  refine lv_aload_n hx hb dL_seenAt_0 rfl (lv_at hl 3 rfl) ?_
  refine lv_iconst (v := (0 : Int32)) hx hb dL_seenAt_1 (by decide) ?_
  refine lv_aload_n hx hb dL_seenAt_2 rfl (lv_at hl 0 rfl) ?_
  refine lv_iload_n hx hb dL_seenAt_3 rfl (lv_at hl 1 rfl) ?_
  refine lv_iload_n hx hb dL_seenAt_4 rfl (lv_at hl 2 rfl) ?_
  refine f_catch (rest := [.int (0 : Int32), .ref aO]) (W2 := outC cs aO fo :: Wm) [.int p0, .int p1] C hL h cv_L_86 (tX11_seenAt hst hf) rfl ⟨rfl, rfl⟩ ⟨Nat.le_of_ble_eq_true rfl, Nat.le_of_ble_eq_true rfl⟩ (rv_law (q0 := 0) (ci := 10) (q := (RX11, TX11, 13)) C h rfl (SW_fix rfl)) hl.1 rfl (Nat.le_of_ble_eq_true rfl) ⟨Nat.le_refl 1, Nat.le_refl 6⟩ dL_seenAt_5 [] ⟨0, 10, 13, 19⟩ [⟨0, 10, 17, 36⟩, ⟨0, 10, 21, 13⟩] (htb.trans rfl) ⟨by decide, by decide⟩ (fun z hz => absurd hz List.not_mem_nil) (by decide) (by decide) tb_25_13 (fun q H locs h => ?_)
  refine lv_astore (lv' := [(4, .ref q), (0, .ref (ad 0)), (1, .int p0), (2, .int p1), (3, .ref aO)]) hx hb dL_seenAt_13 hl (by decide) rfl (fun ls hl => ?_)
  refine lv_iconst (v := (1 : Int32)) hx hb dL_seenAt_15 (by decide) ?_
  exact m_iret C h dL_seenAt_16

set_option maxHeartbeats 4000000 in
set_option maxRecDepth 100000 in
theorem xL_seenAt_3 (hst : l.stackTraces = false) {p0 : Int32} {p1 : Int32} (hf : fX11_seenAt P g p0 p1 = some (Sum.inl 3, g')) : WCon l D cs adK adV yL_seenAt cL_seenAt 5 [(0, 10, 13, 19), (0, 10, 17, 36), (0, 10, 21, 13)] (rA 9 1 6) 1 6 [.ref (ad 0), .int p0, .int p1, .ref aO] (SW cs ad al P g ++ outC cs aO fo :: Wm) (2 : Int32) (SW cs ad al P g' ++ outC cs aO fo :: Wm) := by
  refine WCon.of hst (by decide) (Nat.le_of_ble_eq_true rfl) ?_
  intro p e s m args below meth c A ls H locs C hL htb h hl
  have hx := C.1
  have hb := C.2.1
  have C : MCx p s m args meth c A RL cL_seenAt 5 (some .int) D cs := C
  have hl : lv_has ls 5 [(0, .ref (ad 0)), (1, .int p0), (2, .int p1), (3, .ref aO)] := hl
  refine lv_aload_n hx hb dL_seenAt_0 rfl (lv_at hl 3 rfl) ?_
  refine lv_iconst (v := (0 : Int32)) hx hb dL_seenAt_1 (by decide) ?_
  refine lv_aload_n hx hb dL_seenAt_2 rfl (lv_at hl 0 rfl) ?_
  refine lv_iload_n hx hb dL_seenAt_3 rfl (lv_at hl 1 rfl) ?_
  refine lv_iload_n hx hb dL_seenAt_4 rfl (lv_at hl 2 rfl) ?_
  refine f_catch (rest := [.int (0 : Int32), .ref aO]) (W2 := outC cs aO fo :: Wm) [.int p0, .int p1] C hL h cv_L_86 (tX11_seenAt hst hf) rfl ⟨rfl, rfl⟩ ⟨Nat.le_of_ble_eq_true rfl, Nat.le_of_ble_eq_true rfl⟩ (rv_law (q0 := 0) (ci := 10) (q := (RX11, TX11, 13)) C h rfl (SW_fix rfl)) hl.1 rfl (Nat.le_of_ble_eq_true rfl) ⟨Nat.le_refl 1, Nat.le_refl 6⟩ dL_seenAt_5 [⟨0, 10, 13, 19⟩] ⟨0, 10, 17, 36⟩ [⟨0, 10, 21, 13⟩] (htb.trans rfl) ⟨by decide, by decide⟩ (by
    intro z hz
    simp only [List.mem_cons, List.not_mem_nil, or_false] at hz
    rcases hz with hz
    · subst hz
      exact ⟨by decide, 2, by decide, by decide, by decide, tb_25_13⟩) (by decide) (by decide) tb_38_18 (fun q H locs h => ?_)
  refine lv_astore (lv' := [(4, .ref q), (0, .ref (ad 0)), (1, .int p0), (2, .int p1), (3, .ref aO)]) hx hb dL_seenAt_17 hl (by decide) rfl (fun ls hl => ?_)
  refine lv_iconst (v := (2 : Int32)) hx hb dL_seenAt_19 (by decide) ?_
  exact m_iret C h dL_seenAt_20

set_option maxHeartbeats 4000000 in
set_option maxRecDepth 100000 in
theorem xL_seenAt_1 (hst : l.stackTraces = false) {p0 : Int32} {p1 : Int32} (hf : fX11_seenAt P g p0 p1 = some (Sum.inl 1, g')) : WCon l D cs adK adV yL_seenAt cL_seenAt 5 [(0, 10, 13, 19), (0, 10, 17, 36), (0, 10, 21, 13)] (rA 9 1 6) 1 6 [.ref (ad 0), .int p0, .int p1, .ref aO] (SW cs ad al P g ++ outC cs aO fo :: Wm) (3 : Int32) (SW cs ad al P g' ++ outC cs aO fo :: Wm) := by
  refine WCon.of hst (by decide) (Nat.le_of_ble_eq_true rfl) ?_
  intro p e s m args below meth c A ls H locs C hL htb h hl
  have hx := C.1
  have hb := C.2.1
  have C : MCx p s m args meth c A RL cL_seenAt 5 (some .int) D cs := C
  have hl : lv_has ls 5 [(0, .ref (ad 0)), (1, .int p0), (2, .int p1), (3, .ref aO)] := hl
  refine lv_aload_n hx hb dL_seenAt_0 rfl (lv_at hl 3 rfl) ?_
  refine lv_iconst (v := (0 : Int32)) hx hb dL_seenAt_1 (by decide) ?_
  refine lv_aload_n hx hb dL_seenAt_2 rfl (lv_at hl 0 rfl) ?_
  refine lv_iload_n hx hb dL_seenAt_3 rfl (lv_at hl 1 rfl) ?_
  refine lv_iload_n hx hb dL_seenAt_4 rfl (lv_at hl 2 rfl) ?_
  refine f_catch (rest := [.int (0 : Int32), .ref aO]) (W2 := outC cs aO fo :: Wm) [.int p0, .int p1] C hL h cv_L_86 (tX11_seenAt hst hf) rfl ⟨rfl, rfl⟩ ⟨Nat.le_of_ble_eq_true rfl, Nat.le_of_ble_eq_true rfl⟩ (rv_law (q0 := 0) (ci := 10) (q := (RX11, TX11, 13)) C h rfl (SW_fix rfl)) hl.1 rfl (Nat.le_of_ble_eq_true rfl) ⟨Nat.le_refl 1, Nat.le_refl 6⟩ dL_seenAt_5 [⟨0, 10, 13, 19⟩, ⟨0, 10, 17, 36⟩] ⟨0, 10, 21, 13⟩ [] (htb.trans rfl) ⟨by decide, by decide⟩ (by
    intro z hz
    simp only [List.mem_cons, List.not_mem_nil, or_false] at hz
    rcases hz with hz | hz
    · subst hz
      exact ⟨by decide, 2, by decide, by decide, by decide, tb_25_13⟩
    · subst hz
      exact ⟨by decide, 3, by decide, by decide, by decide, tb_38_18⟩) (by decide) (by decide) tb_8_23 (fun q H locs h => ?_)
  refine lv_astore (lv' := [(4, .ref q), (0, .ref (ad 0)), (1, .int p0), (2, .int p1), (3, .ref aO)]) hx hb dL_seenAt_21 hl (by decide) rfl (fun ls hl => ?_)
  refine lv_iconst (v := (3 : Int32)) hx hb dL_seenAt_23 (by decide) ?_
  exact m_iret C h dL_seenAt_24

set_option maxHeartbeats 4000000 in
set_option maxRecDepth 100000 in
theorem nL_ask (hst : l.stackTraces = false) {p0 : Int32} {r : Int32} (hf : fX11_ask P g p0 = some (Sum.inr r, g')) : WCon l D cs adK adV yL_ask cL_ask 4 [(0, 9, 12, 19), (0, 9, 15, 36), (0, 9, 18, 13)] (rM 8) 0 0 [.ref (ad 0), .int p0, .ref aO] (SW cs ad al P g ++ outC cs aO fo :: Wm) (0 : Int32) (SW cs ad al P g' ++ outC cs aO (vp_updL fo 0 r.toInt64) :: Wm) := by
  refine WCon.of hst (by decide) (Nat.le_of_ble_eq_true rfl) ?_
  intro p e s m args below meth c A ls H locs C hL htb h hl
  have hx := C.1
  have hb := C.2.1
  have C : MCx p s m args meth c A RL cL_ask 4 (some .int) D cs := C
  have hl : lv_has ls 4 [(0, .ref (ad 0)), (1, .int p0), (2, .ref aO)] := hl
  refine lv_aload_n hx hb dL_ask_0 rfl (lv_at hl 2 rfl) ?_
  refine lv_iconst (v := (0 : Int32)) hx hb dL_ask_1 (by decide) ?_
  refine lv_aload_n hx hb dL_ask_2 rfl (lv_at hl 0 rfl) ?_
  refine lv_iload_n hx hb dL_ask_3 rfl (lv_at hl 1 rfl) ?_
  refine f_callV (r := some (.int r)) (rest := [.int (0 : Int32), .ref aO]) (W2 := outC cs aO fo :: Wm) [.int p0] C h cv_L_89 (qX11_ask hf) rfl ⟨rfl, rfl⟩ ⟨Nat.le_of_ble_eq_true rfl, Nat.le_of_ble_eq_true rfl⟩ (rv_law (q0 := 0) (ci := 10) (q := (RX11, TX11, 13)) C h rfl (SW_fix rfl)) hl.1 rfl (Nat.le_of_ble_eq_true rfl) ⟨Nat.le_refl _, Nat.le_refl _⟩ dL_ask_4 (fun H locs h => ?_)
  refine lv_i2l hx hb dL_ask_7 rfl ?_
  refine o_store C h dL_ask_8 (fun H locs h => ?_)
  refine lv_goto (tgt := 21) hx hb dL_ask_9 (by decide) ?_
  refine lv_iconst (v := (0 : Int32)) hx hb dL_ask_21 (by decide) ?_
  exact m_iret C h dL_ask_22

set_option maxHeartbeats 4000000 in
set_option maxRecDepth 100000 in
theorem xL_ask_2 (hst : l.stackTraces = false) {p0 : Int32} (hf : fX11_ask P g p0 = some (Sum.inl 2, g')) : WCon l D cs adK adV yL_ask cL_ask 4 [(0, 9, 12, 19), (0, 9, 15, 36), (0, 9, 18, 13)] (rA 10 1 6) 1 6 [.ref (ad 0), .int p0, .ref aO] (SW cs ad al P g ++ outC cs aO fo :: Wm) (1 : Int32) (SW cs ad al P g' ++ outC cs aO fo :: Wm) := by
  refine WCon.of hst (by decide) (Nat.le_of_ble_eq_true rfl) ?_
  intro p e s m args below meth c A ls H locs C hL htb h hl
  have hx := C.1
  have hb := C.2.1
  have C : MCx p s m args meth c A RL cL_ask 4 (some .int) D cs := C
  have hl : lv_has ls 4 [(0, .ref (ad 0)), (1, .int p0), (2, .ref aO)] := hl
  refine lv_aload_n hx hb dL_ask_0 rfl (lv_at hl 2 rfl) ?_
  refine lv_iconst (v := (0 : Int32)) hx hb dL_ask_1 (by decide) ?_
  refine lv_aload_n hx hb dL_ask_2 rfl (lv_at hl 0 rfl) ?_
  refine lv_iload_n hx hb dL_ask_3 rfl (lv_at hl 1 rfl) ?_
  refine f_catch (rest := [.int (0 : Int32), .ref aO]) (W2 := outC cs aO fo :: Wm) [.int p0] C hL h cv_L_89 (tX11_ask hst hf) rfl ⟨rfl, rfl⟩ ⟨Nat.le_of_ble_eq_true rfl, Nat.le_of_ble_eq_true rfl⟩ (rv_law (q0 := 0) (ci := 10) (q := (RX11, TX11, 13)) C h rfl (SW_fix rfl)) hl.1 rfl (Nat.le_of_ble_eq_true rfl) ⟨Nat.le_refl 1, Nat.le_refl 6⟩ dL_ask_4 [] ⟨0, 9, 12, 19⟩ [⟨0, 9, 15, 36⟩, ⟨0, 9, 18, 13⟩] (htb.trans rfl) ⟨by decide, by decide⟩ (fun z hz => absurd hz List.not_mem_nil) (by decide) (by decide) tb_25_13 (fun q H locs h => ?_)
  refine lv_astore_n (lv' := [(3, .ref q), (0, .ref (ad 0)), (1, .int p0), (2, .ref aO)]) hx hb dL_ask_12 rfl hl (by decide) rfl (fun ls hl => ?_)
  refine lv_iconst (v := (1 : Int32)) hx hb dL_ask_13 (by decide) ?_
  exact m_iret C h dL_ask_14

set_option maxHeartbeats 4000000 in
set_option maxRecDepth 100000 in
theorem xL_ask_3 (hst : l.stackTraces = false) {p0 : Int32} (hf : fX11_ask P g p0 = some (Sum.inl 3, g')) : WCon l D cs adK adV yL_ask cL_ask 4 [(0, 9, 12, 19), (0, 9, 15, 36), (0, 9, 18, 13)] (rA 10 1 6) 1 6 [.ref (ad 0), .int p0, .ref aO] (SW cs ad al P g ++ outC cs aO fo :: Wm) (2 : Int32) (SW cs ad al P g' ++ outC cs aO fo :: Wm) := by
  refine WCon.of hst (by decide) (Nat.le_of_ble_eq_true rfl) ?_
  intro p e s m args below meth c A ls H locs C hL htb h hl
  have hx := C.1
  have hb := C.2.1
  have C : MCx p s m args meth c A RL cL_ask 4 (some .int) D cs := C
  have hl : lv_has ls 4 [(0, .ref (ad 0)), (1, .int p0), (2, .ref aO)] := hl
  refine lv_aload_n hx hb dL_ask_0 rfl (lv_at hl 2 rfl) ?_
  refine lv_iconst (v := (0 : Int32)) hx hb dL_ask_1 (by decide) ?_
  refine lv_aload_n hx hb dL_ask_2 rfl (lv_at hl 0 rfl) ?_
  refine lv_iload_n hx hb dL_ask_3 rfl (lv_at hl 1 rfl) ?_
  refine f_catch (rest := [.int (0 : Int32), .ref aO]) (W2 := outC cs aO fo :: Wm) [.int p0] C hL h cv_L_89 (tX11_ask hst hf) rfl ⟨rfl, rfl⟩ ⟨Nat.le_of_ble_eq_true rfl, Nat.le_of_ble_eq_true rfl⟩ (rv_law (q0 := 0) (ci := 10) (q := (RX11, TX11, 13)) C h rfl (SW_fix rfl)) hl.1 rfl (Nat.le_of_ble_eq_true rfl) ⟨Nat.le_refl 1, Nat.le_refl 6⟩ dL_ask_4 [⟨0, 9, 12, 19⟩] ⟨0, 9, 15, 36⟩ [⟨0, 9, 18, 13⟩] (htb.trans rfl) ⟨by decide, by decide⟩ (by
    intro z hz
    simp only [List.mem_cons, List.not_mem_nil, or_false] at hz
    rcases hz with hz
    · subst hz
      exact ⟨by decide, 2, by decide, by decide, by decide, tb_25_13⟩) (by decide) (by decide) tb_38_18 (fun q H locs h => ?_)
  refine lv_astore_n (lv' := [(3, .ref q), (0, .ref (ad 0)), (1, .int p0), (2, .ref aO)]) hx hb dL_ask_15 rfl hl (by decide) rfl (fun ls hl => ?_)
  refine lv_iconst (v := (2 : Int32)) hx hb dL_ask_16 (by decide) ?_
  exact m_iret C h dL_ask_17

set_option maxHeartbeats 4000000 in
set_option maxRecDepth 100000 in
theorem xL_ask_1 (hst : l.stackTraces = false) {p0 : Int32} (hf : fX11_ask P g p0 = some (Sum.inl 1, g')) : WCon l D cs adK adV yL_ask cL_ask 4 [(0, 9, 12, 19), (0, 9, 15, 36), (0, 9, 18, 13)] (rA 10 1 6) 1 6 [.ref (ad 0), .int p0, .ref aO] (SW cs ad al P g ++ outC cs aO fo :: Wm) (3 : Int32) (SW cs ad al P g' ++ outC cs aO fo :: Wm) := by
  refine WCon.of hst (by decide) (Nat.le_of_ble_eq_true rfl) ?_
  intro p e s m args below meth c A ls H locs C hL htb h hl
  have hx := C.1
  have hb := C.2.1
  have C : MCx p s m args meth c A RL cL_ask 4 (some .int) D cs := C
  have hl : lv_has ls 4 [(0, .ref (ad 0)), (1, .int p0), (2, .ref aO)] := hl
  refine lv_aload_n hx hb dL_ask_0 rfl (lv_at hl 2 rfl) ?_
  refine lv_iconst (v := (0 : Int32)) hx hb dL_ask_1 (by decide) ?_
  refine lv_aload_n hx hb dL_ask_2 rfl (lv_at hl 0 rfl) ?_
  refine lv_iload_n hx hb dL_ask_3 rfl (lv_at hl 1 rfl) ?_
  refine f_catch (rest := [.int (0 : Int32), .ref aO]) (W2 := outC cs aO fo :: Wm) [.int p0] C hL h cv_L_89 (tX11_ask hst hf) rfl ⟨rfl, rfl⟩ ⟨Nat.le_of_ble_eq_true rfl, Nat.le_of_ble_eq_true rfl⟩ (rv_law (q0 := 0) (ci := 10) (q := (RX11, TX11, 13)) C h rfl (SW_fix rfl)) hl.1 rfl (Nat.le_of_ble_eq_true rfl) ⟨Nat.le_refl 1, Nat.le_refl 6⟩ dL_ask_4 [⟨0, 9, 12, 19⟩, ⟨0, 9, 15, 36⟩] ⟨0, 9, 18, 13⟩ [] (htb.trans rfl) ⟨by decide, by decide⟩ (by
    intro z hz
    simp only [List.mem_cons, List.not_mem_nil, or_false] at hz
    rcases hz with hz | hz
    · subst hz
      exact ⟨by decide, 2, by decide, by decide, by decide, tb_25_13⟩
    · subst hz
      exact ⟨by decide, 3, by decide, by decide, by decide, tb_38_18⟩) (by decide) (by decide) tb_8_23 (fun q H locs h => ?_)
  refine lv_astore_n (lv' := [(3, .ref q), (0, .ref (ad 0)), (1, .int p0), (2, .ref aO)]) hx hb dL_ask_18 rfl hl (by decide) rfl (fun ls hl => ?_)
  refine lv_iconst (v := (3 : Int32)) hx hb dL_ask_19 (by decide) ?_
  exact m_iret C h dL_ask_20

set_option maxHeartbeats 4000000 in
set_option maxRecDepth 100000 in
theorem nL_chance (hst : l.stackTraces = false) {p0 : Int32} {p1 : Int32} {p2 : Int32} {r : Int32} (hf : fX11_chance P g p0 p1 p2 = some (Sum.inr r, g')) : WCon l D cs adK adV yL_chance cL_chance 6 [(0, 12, 15, 19), (0, 12, 19, 13)] (rM 15) 0 0 [.ref (ad 0), .int p0, .int p1, .int p2, .ref aO] (SW cs ad al P g ++ outC cs aO fo :: Wm) (0 : Int32) (SW cs ad al P g' ++ outC cs aO (vp_updL fo 0 r.toInt64) :: Wm) := by
  refine WCon.of hst (by decide) (Nat.le_of_ble_eq_true rfl) ?_
  intro p e s m args below meth c A ls H locs C hL htb h hl
  have hx := C.1
  have hb := C.2.1
  have C : MCx p s m args meth c A RL cL_chance 6 (some .int) D cs := C
  have hl : lv_has ls 6 [(0, .ref (ad 0)), (1, .int p0), (2, .int p1), (3, .int p2), (4, .ref aO)] := hl
  refine lv_aload hx hb dL_chance_0 (lv_at hl 4 rfl) ?_
  refine lv_iconst (v := (0 : Int32)) hx hb dL_chance_2 (by decide) ?_
  refine lv_aload_n hx hb dL_chance_3 rfl (lv_at hl 0 rfl) ?_
  refine lv_iload_n hx hb dL_chance_4 rfl (lv_at hl 1 rfl) ?_
  refine lv_iload_n hx hb dL_chance_5 rfl (lv_at hl 2 rfl) ?_
  refine lv_iload_n hx hb dL_chance_6 rfl (lv_at hl 3 rfl) ?_
  refine f_callV (r := some (.int r)) (rest := [.int (0 : Int32), .ref aO]) (W2 := outC cs aO fo :: Wm) [.int p0, .int p1, .int p2] C h cv_L_92 (qX11_chance hf) rfl ⟨rfl, rfl⟩ ⟨Nat.le_of_ble_eq_true rfl, Nat.le_of_ble_eq_true rfl⟩ (rv_law (q0 := 0) (ci := 10) (q := (RX11, TX11, 13)) C h rfl (SW_fix rfl)) hl.1 rfl (Nat.le_of_ble_eq_true rfl) ⟨Nat.le_refl _, Nat.le_refl _⟩ dL_chance_7 (fun H locs h => ?_)
  refine lv_i2l hx hb dL_chance_10 rfl ?_
  refine o_store C h dL_chance_11 (fun H locs h => ?_)
  refine lv_goto (tgt := 23) hx hb dL_chance_12 (by decide) ?_
  refine lv_iconst (v := (0 : Int32)) hx hb dL_chance_23 (by decide) ?_
  exact m_iret C h dL_chance_24

set_option maxHeartbeats 4000000 in
set_option maxRecDepth 100000 in
theorem xL_chance_2 (hst : l.stackTraces = false) {p0 : Int32} {p1 : Int32} {p2 : Int32} (hf : fX11_chance P g p0 p1 p2 = some (Sum.inl 2, g')) : WCon l D cs adK adV yL_chance cL_chance 6 [(0, 12, 15, 19), (0, 12, 19, 13)] (rA 15 1 6) 1 6 [.ref (ad 0), .int p0, .int p1, .int p2, .ref aO] (SW cs ad al P g ++ outC cs aO fo :: Wm) (1 : Int32) (SW cs ad al P g' ++ outC cs aO fo :: Wm) := by
  refine WCon.of hst (by decide) (Nat.le_of_ble_eq_true rfl) ?_
  intro p e s m args below meth c A ls H locs C hL htb h hl
  have hx := C.1
  have hb := C.2.1
  have C : MCx p s m args meth c A RL cL_chance 6 (some .int) D cs := C
  have hl : lv_has ls 6 [(0, .ref (ad 0)), (1, .int p0), (2, .int p1), (3, .int p2), (4, .ref aO)] := hl
  refine lv_aload hx hb dL_chance_0 (lv_at hl 4 rfl) ?_
  refine lv_iconst (v := (0 : Int32)) hx hb dL_chance_2 (by decide) ?_
  refine lv_aload_n hx hb dL_chance_3 rfl (lv_at hl 0 rfl) ?_
  refine lv_iload_n hx hb dL_chance_4 rfl (lv_at hl 1 rfl) ?_
  refine lv_iload_n hx hb dL_chance_5 rfl (lv_at hl 2 rfl) ?_
  refine lv_iload_n hx hb dL_chance_6 rfl (lv_at hl 3 rfl) ?_
  refine f_catch (rest := [.int (0 : Int32), .ref aO]) (W2 := outC cs aO fo :: Wm) [.int p0, .int p1, .int p2] C hL h cv_L_92 (tX11_chance hst hf) rfl ⟨rfl, rfl⟩ ⟨Nat.le_of_ble_eq_true rfl, Nat.le_of_ble_eq_true rfl⟩ (rv_law (q0 := 0) (ci := 10) (q := (RX11, TX11, 13)) C h rfl (SW_fix rfl)) hl.1 rfl (Nat.le_of_ble_eq_true rfl) ⟨Nat.le_refl 1, Nat.le_refl 6⟩ dL_chance_7 [] ⟨0, 12, 15, 19⟩ [⟨0, 12, 19, 13⟩] (htb.trans rfl) ⟨by decide, by decide⟩ (fun z hz => absurd hz List.not_mem_nil) (by decide) (by decide) tb_25_13 (fun q H locs h => ?_)
  refine lv_astore (lv' := [(5, .ref q), (0, .ref (ad 0)), (1, .int p0), (2, .int p1), (3, .int p2), (4, .ref aO)]) hx hb dL_chance_15 hl (by decide) rfl (fun ls hl => ?_)
  refine lv_iconst (v := (1 : Int32)) hx hb dL_chance_17 (by decide) ?_
  exact m_iret C h dL_chance_18

set_option maxHeartbeats 4000000 in
set_option maxRecDepth 100000 in
theorem xL_chance_1 (hst : l.stackTraces = false) {p0 : Int32} {p1 : Int32} {p2 : Int32} (hf : fX11_chance P g p0 p1 p2 = some (Sum.inl 1, g')) : WCon l D cs adK adV yL_chance cL_chance 6 [(0, 12, 15, 19), (0, 12, 19, 13)] (rA 15 1 6) 1 6 [.ref (ad 0), .int p0, .int p1, .int p2, .ref aO] (SW cs ad al P g ++ outC cs aO fo :: Wm) (2 : Int32) (SW cs ad al P g' ++ outC cs aO fo :: Wm) := by
  refine WCon.of hst (by decide) (Nat.le_of_ble_eq_true rfl) ?_
  intro p e s m args below meth c A ls H locs C hL htb h hl
  have hx := C.1
  have hb := C.2.1
  have C : MCx p s m args meth c A RL cL_chance 6 (some .int) D cs := C
  have hl : lv_has ls 6 [(0, .ref (ad 0)), (1, .int p0), (2, .int p1), (3, .int p2), (4, .ref aO)] := hl
  refine lv_aload hx hb dL_chance_0 (lv_at hl 4 rfl) ?_
  refine lv_iconst (v := (0 : Int32)) hx hb dL_chance_2 (by decide) ?_
  refine lv_aload_n hx hb dL_chance_3 rfl (lv_at hl 0 rfl) ?_
  refine lv_iload_n hx hb dL_chance_4 rfl (lv_at hl 1 rfl) ?_
  refine lv_iload_n hx hb dL_chance_5 rfl (lv_at hl 2 rfl) ?_
  refine lv_iload_n hx hb dL_chance_6 rfl (lv_at hl 3 rfl) ?_
  refine f_catch (rest := [.int (0 : Int32), .ref aO]) (W2 := outC cs aO fo :: Wm) [.int p0, .int p1, .int p2] C hL h cv_L_92 (tX11_chance hst hf) rfl ⟨rfl, rfl⟩ ⟨Nat.le_of_ble_eq_true rfl, Nat.le_of_ble_eq_true rfl⟩ (rv_law (q0 := 0) (ci := 10) (q := (RX11, TX11, 13)) C h rfl (SW_fix rfl)) hl.1 rfl (Nat.le_of_ble_eq_true rfl) ⟨Nat.le_refl 1, Nat.le_refl 6⟩ dL_chance_7 [⟨0, 12, 15, 19⟩] ⟨0, 12, 19, 13⟩ [] (htb.trans rfl) ⟨by decide, by decide⟩ (by
    intro z hz
    simp only [List.mem_cons, List.not_mem_nil, or_false] at hz
    rcases hz with hz
    · subst hz
      exact ⟨by decide, 2, by decide, by decide, by decide, tb_25_13⟩) (by decide) (by decide) tb_8_23 (fun q H locs h => ?_)
  refine lv_astore (lv' := [(5, .ref q), (0, .ref (ad 0)), (1, .int p0), (2, .int p1), (3, .int p2), (4, .ref aO)]) hx hb dL_chance_19 hl (by decide) rfl (fun ls hl => ?_)
  refine lv_iconst (v := (2 : Int32)) hx hb dL_chance_21 (by decide) ?_
  exact m_iret C h dL_chance_22

set_option maxHeartbeats 4000000 in
set_option maxRecDepth 100000 in
theorem nL_likeliest (hst : l.stackTraces = false) {p0 : Int32} {r : Int32} (hf : fX11_likeliest P g p0 = some (Sum.inr r, g')) : WCon l D cs adK adV yL_likeliest cL_likeliest 4 [(0, 9, 12, 13)] (rM 15) 0 0 [.ref (ad 0), .int p0, .ref aO] (SW cs ad al P g ++ outC cs aO fo :: Wm) (0 : Int32) (SW cs ad al P g' ++ outC cs aO (vp_updL fo 0 r.toInt64) :: Wm) := by
  refine WCon.of hst (by decide) (Nat.le_of_ble_eq_true rfl) ?_
  intro p e s m args below meth c A ls H locs C hL htb h hl
  have hx := C.1
  have hb := C.2.1
  have C : MCx p s m args meth c A RL cL_likeliest 4 (some .int) D cs := C
  have hl : lv_has ls 4 [(0, .ref (ad 0)), (1, .int p0), (2, .ref aO)] := hl
  refine lv_aload_n hx hb dL_likeliest_0 rfl (lv_at hl 2 rfl) ?_
  refine lv_iconst (v := (0 : Int32)) hx hb dL_likeliest_1 (by decide) ?_
  refine lv_aload_n hx hb dL_likeliest_2 rfl (lv_at hl 0 rfl) ?_
  refine lv_iload_n hx hb dL_likeliest_3 rfl (lv_at hl 1 rfl) ?_
  refine f_callV (r := some (.int r)) (rest := [.int (0 : Int32), .ref aO]) (W2 := outC cs aO fo :: Wm) [.int p0] C h cv_L_96 (qX11_likeliest hf) rfl ⟨rfl, rfl⟩ ⟨Nat.le_of_ble_eq_true rfl, Nat.le_of_ble_eq_true rfl⟩ (rv_law (q0 := 0) (ci := 10) (q := (RX11, TX11, 13)) C h rfl (SW_fix rfl)) hl.1 rfl (Nat.le_of_ble_eq_true rfl) ⟨Nat.le_refl _, Nat.le_refl _⟩ dL_likeliest_4 (fun H locs h => ?_)
  refine lv_i2l hx hb dL_likeliest_7 rfl ?_
  refine o_store C h dL_likeliest_8 (fun H locs h => ?_)
  refine lv_goto (tgt := 15) hx hb dL_likeliest_9 (by decide) ?_
  refine lv_iconst (v := (0 : Int32)) hx hb dL_likeliest_15 (by decide) ?_
  exact m_iret C h dL_likeliest_16

set_option maxHeartbeats 4000000 in
set_option maxRecDepth 100000 in
theorem xL_likeliest_1 (hst : l.stackTraces = false) {p0 : Int32} (hf : fX11_likeliest P g p0 = some (Sum.inl 1, g')) : WCon l D cs adK adV yL_likeliest cL_likeliest 4 [(0, 9, 12, 13)] (rA 15 1 6) 1 6 [.ref (ad 0), .int p0, .ref aO] (SW cs ad al P g ++ outC cs aO fo :: Wm) (1 : Int32) (SW cs ad al P g' ++ outC cs aO fo :: Wm) := by
  refine WCon.of hst (by decide) (Nat.le_of_ble_eq_true rfl) ?_
  intro p e s m args below meth c A ls H locs C hL htb h hl
  have hx := C.1
  have hb := C.2.1
  have C : MCx p s m args meth c A RL cL_likeliest 4 (some .int) D cs := C
  have hl : lv_has ls 4 [(0, .ref (ad 0)), (1, .int p0), (2, .ref aO)] := hl
  refine lv_aload_n hx hb dL_likeliest_0 rfl (lv_at hl 2 rfl) ?_
  refine lv_iconst (v := (0 : Int32)) hx hb dL_likeliest_1 (by decide) ?_
  refine lv_aload_n hx hb dL_likeliest_2 rfl (lv_at hl 0 rfl) ?_
  refine lv_iload_n hx hb dL_likeliest_3 rfl (lv_at hl 1 rfl) ?_
  refine f_catch (rest := [.int (0 : Int32), .ref aO]) (W2 := outC cs aO fo :: Wm) [.int p0] C hL h cv_L_96 (tX11_likeliest hst hf) rfl ⟨rfl, rfl⟩ ⟨Nat.le_of_ble_eq_true rfl, Nat.le_of_ble_eq_true rfl⟩ (rv_law (q0 := 0) (ci := 10) (q := (RX11, TX11, 13)) C h rfl (SW_fix rfl)) hl.1 rfl (Nat.le_of_ble_eq_true rfl) ⟨Nat.le_refl 1, Nat.le_refl 6⟩ dL_likeliest_4 [] ⟨0, 9, 12, 13⟩ [] (htb.trans rfl) ⟨by decide, by decide⟩ (fun z hz => absurd hz List.not_mem_nil) (by decide) (by decide) tb_8_23 (fun q H locs h => ?_)
  refine lv_astore_n (lv' := [(3, .ref q), (0, .ref (ad 0)), (1, .int p0), (2, .ref aO)]) hx hb dL_likeliest_12 rfl hl (by decide) rfl (fun ls hl => ?_)
  refine lv_iconst (v := (1 : Int32)) hx hb dL_likeliest_13 (by decide) ?_
  exact m_iret C h dL_likeliest_14

set_option maxHeartbeats 4000000 in
set_option maxRecDepth 100000 in
theorem nL_tray (hst : l.stackTraces = false) {p0 : Int32} {p1 : Int32} {p2 : Int32} {r : Unit} (hf : fX11_tray P g p0 p1 p2 = some (Sum.inr r, g')) : WCon l D cs adK adV yL_tray cL_tray 5 [(0, 7, 10, 19), (0, 7, 14, 13)] (rM 3) 0 0 [.ref (ad 0), .int p0, .int p1, .int p2] (SW cs ad al P g ++ outC cs aO fo :: Wm) (0 : Int32) (SW cs ad al P g' ++ outC cs aO fo :: Wm) := by
  refine WCon.of hst (by decide) (Nat.le_of_ble_eq_true rfl) ?_
  intro p e s m args below meth c A ls H locs C hL htb h hl
  have hx := C.1
  have hb := C.2.1
  have C : MCx p s m args meth c A RL cL_tray 5 (some .int) D cs := C
  have hl : lv_has ls 5 [(0, .ref (ad 0)), (1, .int p0), (2, .int p1), (3, .int p2)] := hl
  refine lv_aload_n hx hb dL_tray_0 rfl (lv_at hl 0 rfl) ?_
  refine lv_iload_n hx hb dL_tray_1 rfl (lv_at hl 1 rfl) ?_
  refine lv_iload_n hx hb dL_tray_2 rfl (lv_at hl 2 rfl) ?_
  refine lv_iload_n hx hb dL_tray_3 rfl (lv_at hl 3 rfl) ?_
  refine f_callV (r := none) (rest := []) (W2 := outC cs aO fo :: Wm) [.int p0, .int p1, .int p2] C h cv_L_99 (qX11_tray hf) rfl ⟨rfl, rfl⟩ ⟨Nat.le_of_ble_eq_true rfl, Nat.le_of_ble_eq_true rfl⟩ (rv_law (q0 := 0) (ci := 10) (q := (RX11, TX11, 13)) C h rfl (SW_fix rfl)) hl.1 rfl (Nat.le_of_ble_eq_true rfl) ⟨Nat.le_refl _, Nat.le_refl _⟩ dL_tray_4 (fun H locs h => ?_)
  refine lv_goto (tgt := 18) hx hb dL_tray_7 (by decide) ?_
  refine lv_iconst (v := (0 : Int32)) hx hb dL_tray_18 (by decide) ?_
  exact m_iret C h dL_tray_19

set_option maxHeartbeats 4000000 in
set_option maxRecDepth 100000 in
theorem xL_tray_2 (hst : l.stackTraces = false) {p0 : Int32} {p1 : Int32} {p2 : Int32} (hf : fX11_tray P g p0 p1 p2 = some (Sum.inl 2, g')) : WCon l D cs adK adV yL_tray cL_tray 5 [(0, 7, 10, 19), (0, 7, 14, 13)] (rA 7 1 6) 1 6 [.ref (ad 0), .int p0, .int p1, .int p2] (SW cs ad al P g ++ outC cs aO fo :: Wm) (1 : Int32) (SW cs ad al P g' ++ outC cs aO fo :: Wm) := by
  refine WCon.of hst (by decide) (Nat.le_of_ble_eq_true rfl) ?_
  intro p e s m args below meth c A ls H locs C hL htb h hl
  have hx := C.1
  have hb := C.2.1
  have C : MCx p s m args meth c A RL cL_tray 5 (some .int) D cs := C
  have hl : lv_has ls 5 [(0, .ref (ad 0)), (1, .int p0), (2, .int p1), (3, .int p2)] := hl
  refine lv_aload_n hx hb dL_tray_0 rfl (lv_at hl 0 rfl) ?_
  refine lv_iload_n hx hb dL_tray_1 rfl (lv_at hl 1 rfl) ?_
  refine lv_iload_n hx hb dL_tray_2 rfl (lv_at hl 2 rfl) ?_
  refine lv_iload_n hx hb dL_tray_3 rfl (lv_at hl 3 rfl) ?_
  refine f_catch (rest := []) (W2 := outC cs aO fo :: Wm) [.int p0, .int p1, .int p2] C hL h cv_L_99 (tX11_tray hst hf) rfl ⟨rfl, rfl⟩ ⟨Nat.le_of_ble_eq_true rfl, Nat.le_of_ble_eq_true rfl⟩ (rv_law (q0 := 0) (ci := 10) (q := (RX11, TX11, 13)) C h rfl (SW_fix rfl)) hl.1 rfl (Nat.le_of_ble_eq_true rfl) ⟨Nat.le_refl 1, Nat.le_refl 6⟩ dL_tray_4 [] ⟨0, 7, 10, 19⟩ [⟨0, 7, 14, 13⟩] (htb.trans rfl) ⟨by decide, by decide⟩ (fun z hz => absurd hz List.not_mem_nil) (by decide) (by decide) tb_25_13 (fun q H locs h => ?_)
  refine lv_astore (lv' := [(4, .ref q), (0, .ref (ad 0)), (1, .int p0), (2, .int p1), (3, .int p2)]) hx hb dL_tray_10 hl (by decide) rfl (fun ls hl => ?_)
  refine lv_iconst (v := (1 : Int32)) hx hb dL_tray_12 (by decide) ?_
  exact m_iret C h dL_tray_13

set_option maxHeartbeats 4000000 in
set_option maxRecDepth 100000 in
theorem xL_tray_1 (hst : l.stackTraces = false) {p0 : Int32} {p1 : Int32} {p2 : Int32} (hf : fX11_tray P g p0 p1 p2 = some (Sum.inl 1, g')) : WCon l D cs adK adV yL_tray cL_tray 5 [(0, 7, 10, 19), (0, 7, 14, 13)] (rA 7 1 6) 1 6 [.ref (ad 0), .int p0, .int p1, .int p2] (SW cs ad al P g ++ outC cs aO fo :: Wm) (2 : Int32) (SW cs ad al P g' ++ outC cs aO fo :: Wm) := by
  refine WCon.of hst (by decide) (Nat.le_of_ble_eq_true rfl) ?_
  intro p e s m args below meth c A ls H locs C hL htb h hl
  have hx := C.1
  have hb := C.2.1
  have C : MCx p s m args meth c A RL cL_tray 5 (some .int) D cs := C
  have hl : lv_has ls 5 [(0, .ref (ad 0)), (1, .int p0), (2, .int p1), (3, .int p2)] := hl
  refine lv_aload_n hx hb dL_tray_0 rfl (lv_at hl 0 rfl) ?_
  refine lv_iload_n hx hb dL_tray_1 rfl (lv_at hl 1 rfl) ?_
  refine lv_iload_n hx hb dL_tray_2 rfl (lv_at hl 2 rfl) ?_
  refine lv_iload_n hx hb dL_tray_3 rfl (lv_at hl 3 rfl) ?_
  refine f_catch (rest := []) (W2 := outC cs aO fo :: Wm) [.int p0, .int p1, .int p2] C hL h cv_L_99 (tX11_tray hst hf) rfl ⟨rfl, rfl⟩ ⟨Nat.le_of_ble_eq_true rfl, Nat.le_of_ble_eq_true rfl⟩ (rv_law (q0 := 0) (ci := 10) (q := (RX11, TX11, 13)) C h rfl (SW_fix rfl)) hl.1 rfl (Nat.le_of_ble_eq_true rfl) ⟨Nat.le_refl 1, Nat.le_refl 6⟩ dL_tray_4 [⟨0, 7, 10, 19⟩] ⟨0, 7, 14, 13⟩ [] (htb.trans rfl) ⟨by decide, by decide⟩ (by
    intro z hz
    simp only [List.mem_cons, List.not_mem_nil, or_false] at hz
    rcases hz with hz
    · subst hz
      exact ⟨by decide, 2, by decide, by decide, by decide, tb_25_13⟩) (by decide) (by decide) tb_8_23 (fun q H locs h => ?_)
  refine lv_astore (lv' := [(4, .ref q), (0, .ref (ad 0)), (1, .int p0), (2, .int p1), (3, .int p2)]) hx hb dL_tray_14 hl (by decide) rfl (fun ls hl => ?_)
  refine lv_iconst (v := (2 : Int32)) hx hb dL_tray_16 (by decide) ?_
  exact m_iret C h dL_tray_17

set_option maxHeartbeats 4000000 in
set_option maxRecDepth 100000 in
theorem nL_write (hst : l.stackTraces = false) {p0 : Int32} {p1 : Int32} {p2 : Int64} {r : Int64} (hf : fX11_write P g p0 p1 p2 = some (Sum.inr r, g')) : WCon l D cs adK adV yL_write cL_write 7 [(0, 11, 14, 19), (0, 11, 18, 36), (0, 11, 22, 107)] (rM 3) 0 0 [.ref (ad 0), .int p0, .int p1, .long p2, .ref aO] (SW cs ad al P g ++ outC cs aO fo :: Wm) (0 : Int32) (SW cs ad al P g' ++ outC cs aO (vp_updL fo 0 r) :: Wm) := by
  refine WCon.of hst (by decide) (Nat.le_of_ble_eq_true rfl) ?_
  intro p e s m args below meth c A ls H locs C hL htb h hl
  have hx := C.1
  have hb := C.2.1
  have C : MCx p s m args meth c A RL cL_write 7 (some .int) D cs := C
  have hl : lv_has ls 7 [(0, .ref (ad 0)), (1, .int p0), (2, .int p1), (3, .long p2), (5, .ref aO)] := hl
  refine lv_aload hx hb dL_write_0 (lv_at hl 4 rfl) ?_
  refine lv_iconst (v := (0 : Int32)) hx hb dL_write_2 (by decide) ?_
  refine lv_aload_n hx hb dL_write_3 rfl (lv_at hl 0 rfl) ?_
  refine lv_iload_n hx hb dL_write_4 rfl (lv_at hl 1 rfl) ?_
  refine lv_iload_n hx hb dL_write_5 rfl (lv_at hl 2 rfl) ?_
  refine lv_lload_n hx hb dL_write_6 rfl (lv_at hl 3 rfl) ?_
  refine f_callV (r := some (.long r)) (rest := [.int (0 : Int32), .ref aO]) (W2 := outC cs aO fo :: Wm) [.int p0, .int p1, .long p2] C h cv_L_103 (qX11_write hf) rfl ⟨rfl, rfl⟩ ⟨Nat.le_of_ble_eq_true rfl, Nat.le_of_ble_eq_true rfl⟩ (rv_law (q0 := 0) (ci := 10) (q := (RX11, TX11, 13)) C h rfl (SW_fix rfl)) hl.1 rfl (Nat.le_of_ble_eq_true rfl) ⟨Nat.le_refl _, Nat.le_refl _⟩ dL_write_7 (fun H locs h => ?_)
  refine o_store C h dL_write_10 (fun H locs h => ?_)
  refine lv_goto (tgt := 26) hx hb dL_write_11 (by decide) ?_
  refine lv_iconst (v := (0 : Int32)) hx hb dL_write_26 (by decide) ?_
  exact m_iret C h dL_write_27

set_option maxHeartbeats 4000000 in
set_option maxRecDepth 100000 in
theorem xL_write_2 (hst : l.stackTraces = false) {p0 : Int32} {p1 : Int32} {p2 : Int64} (hf : fX11_write P g p0 p1 p2 = some (Sum.inl 2, g')) : WCon l D cs adK adV yL_write cL_write 7 [(0, 11, 14, 19), (0, 11, 18, 36), (0, 11, 22, 107)] (rA 8 1 6) 1 6 [.ref (ad 0), .int p0, .int p1, .long p2, .ref aO] (SW cs ad al P g ++ outC cs aO fo :: Wm) (1 : Int32) (SW cs ad al P g' ++ outC cs aO fo :: Wm) := by
  refine WCon.of hst (by decide) (Nat.le_of_ble_eq_true rfl) ?_
  intro p e s m args below meth c A ls H locs C hL htb h hl
  have hx := C.1
  have hb := C.2.1
  have C : MCx p s m args meth c A RL cL_write 7 (some .int) D cs := C
  have hl : lv_has ls 7 [(0, .ref (ad 0)), (1, .int p0), (2, .int p1), (3, .long p2), (5, .ref aO)] := hl
  refine lv_aload hx hb dL_write_0 (lv_at hl 4 rfl) ?_
  refine lv_iconst (v := (0 : Int32)) hx hb dL_write_2 (by decide) ?_
  refine lv_aload_n hx hb dL_write_3 rfl (lv_at hl 0 rfl) ?_
  refine lv_iload_n hx hb dL_write_4 rfl (lv_at hl 1 rfl) ?_
  refine lv_iload_n hx hb dL_write_5 rfl (lv_at hl 2 rfl) ?_
  refine lv_lload_n hx hb dL_write_6 rfl (lv_at hl 3 rfl) ?_
  refine f_catch (rest := [.int (0 : Int32), .ref aO]) (W2 := outC cs aO fo :: Wm) [.int p0, .int p1, .long p2] C hL h cv_L_103 (tX11_write hst hf) rfl ⟨rfl, rfl⟩ ⟨Nat.le_of_ble_eq_true rfl, Nat.le_of_ble_eq_true rfl⟩ (rv_law (q0 := 0) (ci := 10) (q := (RX11, TX11, 13)) C h rfl (SW_fix rfl)) hl.1 rfl (Nat.le_of_ble_eq_true rfl) ⟨Nat.le_refl 1, Nat.le_refl 6⟩ dL_write_7 [] ⟨0, 11, 14, 19⟩ [⟨0, 11, 18, 36⟩, ⟨0, 11, 22, 107⟩] (htb.trans rfl) ⟨by decide, by decide⟩ (fun z hz => absurd hz List.not_mem_nil) (by decide) (by decide) tb_25_13 (fun q H locs h => ?_)
  refine lv_astore (lv' := [(6, .ref q), (0, .ref (ad 0)), (1, .int p0), (2, .int p1), (3, .long p2), (5, .ref aO)]) hx hb dL_write_14 hl (by decide) rfl (fun ls hl => ?_)
  refine lv_iconst (v := (1 : Int32)) hx hb dL_write_16 (by decide) ?_
  exact m_iret C h dL_write_17

set_option maxHeartbeats 4000000 in
set_option maxRecDepth 100000 in
theorem xL_write_3 (hst : l.stackTraces = false) {p0 : Int32} {p1 : Int32} {p2 : Int64} (hf : fX11_write P g p0 p1 p2 = some (Sum.inl 3, g')) : WCon l D cs adK adV yL_write cL_write 7 [(0, 11, 14, 19), (0, 11, 18, 36), (0, 11, 22, 107)] (rA 8 1 6) 1 6 [.ref (ad 0), .int p0, .int p1, .long p2, .ref aO] (SW cs ad al P g ++ outC cs aO fo :: Wm) (2 : Int32) (SW cs ad al P g' ++ outC cs aO fo :: Wm) := by
  refine WCon.of hst (by decide) (Nat.le_of_ble_eq_true rfl) ?_
  intro p e s m args below meth c A ls H locs C hL htb h hl
  have hx := C.1
  have hb := C.2.1
  have C : MCx p s m args meth c A RL cL_write 7 (some .int) D cs := C
  have hl : lv_has ls 7 [(0, .ref (ad 0)), (1, .int p0), (2, .int p1), (3, .long p2), (5, .ref aO)] := hl
  refine lv_aload hx hb dL_write_0 (lv_at hl 4 rfl) ?_
  refine lv_iconst (v := (0 : Int32)) hx hb dL_write_2 (by decide) ?_
  refine lv_aload_n hx hb dL_write_3 rfl (lv_at hl 0 rfl) ?_
  refine lv_iload_n hx hb dL_write_4 rfl (lv_at hl 1 rfl) ?_
  refine lv_iload_n hx hb dL_write_5 rfl (lv_at hl 2 rfl) ?_
  refine lv_lload_n hx hb dL_write_6 rfl (lv_at hl 3 rfl) ?_
  refine f_catch (rest := [.int (0 : Int32), .ref aO]) (W2 := outC cs aO fo :: Wm) [.int p0, .int p1, .long p2] C hL h cv_L_103 (tX11_write hst hf) rfl ⟨rfl, rfl⟩ ⟨Nat.le_of_ble_eq_true rfl, Nat.le_of_ble_eq_true rfl⟩ (rv_law (q0 := 0) (ci := 10) (q := (RX11, TX11, 13)) C h rfl (SW_fix rfl)) hl.1 rfl (Nat.le_of_ble_eq_true rfl) ⟨Nat.le_refl 1, Nat.le_refl 6⟩ dL_write_7 [⟨0, 11, 14, 19⟩] ⟨0, 11, 18, 36⟩ [⟨0, 11, 22, 107⟩] (htb.trans rfl) ⟨by decide, by decide⟩ (by
    intro z hz
    simp only [List.mem_cons, List.not_mem_nil, or_false] at hz
    rcases hz with hz
    · subst hz
      exact ⟨by decide, 2, by decide, by decide, by decide, tb_25_13⟩) (by decide) (by decide) tb_38_18 (fun q H locs h => ?_)
  refine lv_astore (lv' := [(6, .ref q), (0, .ref (ad 0)), (1, .int p0), (2, .int p1), (3, .long p2), (5, .ref aO)]) hx hb dL_write_18 hl (by decide) rfl (fun ls hl => ?_)
  refine lv_iconst (v := (2 : Int32)) hx hb dL_write_20 (by decide) ?_
  exact m_iret C h dL_write_21

set_option maxHeartbeats 4000000 in
set_option maxRecDepth 100000 in
theorem xL_write_4 (hst : l.stackTraces = false) {p0 : Int32} {p1 : Int32} {p2 : Int64} (hf : fX11_write P g p0 p1 p2 = some (Sum.inl 4, g')) : WCon l D cs adK adV yL_write cL_write 7 [(0, 11, 14, 19), (0, 11, 18, 36), (0, 11, 22, 107)] (rA 8 1 6) 1 6 [.ref (ad 0), .int p0, .int p1, .long p2, .ref aO] (SW cs ad al P g ++ outC cs aO fo :: Wm) (3 : Int32) (SW cs ad al P g' ++ outC cs aO fo :: Wm) := by
  refine WCon.of hst (by decide) (Nat.le_of_ble_eq_true rfl) ?_
  intro p e s m args below meth c A ls H locs C hL htb h hl
  have hx := C.1
  have hb := C.2.1
  have C : MCx p s m args meth c A RL cL_write 7 (some .int) D cs := C
  have hl : lv_has ls 7 [(0, .ref (ad 0)), (1, .int p0), (2, .int p1), (3, .long p2), (5, .ref aO)] := hl
  refine lv_aload hx hb dL_write_0 (lv_at hl 4 rfl) ?_
  refine lv_iconst (v := (0 : Int32)) hx hb dL_write_2 (by decide) ?_
  refine lv_aload_n hx hb dL_write_3 rfl (lv_at hl 0 rfl) ?_
  refine lv_iload_n hx hb dL_write_4 rfl (lv_at hl 1 rfl) ?_
  refine lv_iload_n hx hb dL_write_5 rfl (lv_at hl 2 rfl) ?_
  refine lv_lload_n hx hb dL_write_6 rfl (lv_at hl 3 rfl) ?_
  refine f_catch (rest := [.int (0 : Int32), .ref aO]) (W2 := outC cs aO fo :: Wm) [.int p0, .int p1, .long p2] C hL h cv_L_103 (tX11_write hst hf) rfl ⟨rfl, rfl⟩ ⟨Nat.le_of_ble_eq_true rfl, Nat.le_of_ble_eq_true rfl⟩ (rv_law (q0 := 0) (ci := 10) (q := (RX11, TX11, 13)) C h rfl (SW_fix rfl)) hl.1 rfl (Nat.le_of_ble_eq_true rfl) ⟨Nat.le_refl 1, Nat.le_refl 6⟩ dL_write_7 [⟨0, 11, 14, 19⟩, ⟨0, 11, 18, 36⟩] ⟨0, 11, 22, 107⟩ [] (htb.trans rfl) ⟨by decide, by decide⟩ (by
    intro z hz
    simp only [List.mem_cons, List.not_mem_nil, or_false] at hz
    rcases hz with hz | hz
    · subst hz
      exact ⟨by decide, 2, by decide, by decide, by decide, tb_25_13⟩
    · subst hz
      exact ⟨by decide, 3, by decide, by decide, by decide, tb_38_18⟩) (by decide) (by decide) tb_68_3 (fun q H locs h => ?_)
  refine lv_astore (lv' := [(6, .ref q), (0, .ref (ad 0)), (1, .int p0), (2, .int p1), (3, .long p2), (5, .ref aO)]) hx hb dL_write_22 hl (by decide) rfl (fun ls hl => ?_)
  refine lv_iconst (v := (3 : Int32)) hx hb dL_write_24 (by decide) ?_
  exact m_iret C h dL_write_25

set_option maxHeartbeats 4000000 in
set_option maxRecDepth 100000 in
theorem nL_copy (hst : l.stackTraces = false) {p0 : Int32} {p1 : Int32} {r : Int32} (hf : fX11_copy P g p0 p1 = some (Sum.inr r, g')) : WCon l D cs adK adV yL_copy cL_copy 5 [(0, 10, 13, 19), (0, 10, 17, 36), (0, 10, 21, 13)] (rM 8) 0 0 [.ref (ad 0), .int p0, .int p1, .ref aO] (SW cs ad al P g ++ outC cs aO fo :: Wm) (0 : Int32) (SW cs ad al P g' ++ outC cs aO (vp_updL fo 0 r.toInt64) :: Wm) := by
  refine WCon.of hst (by decide) (Nat.le_of_ble_eq_true rfl) ?_
  intro p e s m args below meth c A ls H locs C hL htb h hl
  have hx := C.1
  have hb := C.2.1
  have C : MCx p s m args meth c A RL cL_copy 5 (some .int) D cs := C
  have hl : lv_has ls 5 [(0, .ref (ad 0)), (1, .int p0), (2, .int p1), (3, .ref aO)] := hl
  refine lv_aload_n hx hb dL_copy_0 rfl (lv_at hl 3 rfl) ?_
  refine lv_iconst (v := (0 : Int32)) hx hb dL_copy_1 (by decide) ?_
  refine lv_aload_n hx hb dL_copy_2 rfl (lv_at hl 0 rfl) ?_
  refine lv_iload_n hx hb dL_copy_3 rfl (lv_at hl 1 rfl) ?_
  refine lv_iload_n hx hb dL_copy_4 rfl (lv_at hl 2 rfl) ?_
  refine f_callV (r := some (.int r)) (rest := [.int (0 : Int32), .ref aO]) (W2 := outC cs aO fo :: Wm) [.int p0, .int p1] C h cv_L_109 (qX11_copy hf) rfl ⟨rfl, rfl⟩ ⟨Nat.le_of_ble_eq_true rfl, Nat.le_of_ble_eq_true rfl⟩ (rv_law (q0 := 0) (ci := 10) (q := (RX11, TX11, 13)) C h rfl (SW_fix rfl)) hl.1 rfl (Nat.le_of_ble_eq_true rfl) ⟨Nat.le_refl _, Nat.le_refl _⟩ dL_copy_5 (fun H locs h => ?_)
  refine lv_i2l hx hb dL_copy_8 rfl ?_
  refine o_store C h dL_copy_9 (fun H locs h => ?_)
  refine lv_goto (tgt := 25) hx hb dL_copy_10 (by decide) ?_
  refine lv_iconst (v := (0 : Int32)) hx hb dL_copy_25 (by decide) ?_
  exact m_iret C h dL_copy_26

set_option maxHeartbeats 4000000 in
set_option maxRecDepth 100000 in
theorem xL_copy_2 (hst : l.stackTraces = false) {p0 : Int32} {p1 : Int32} (hf : fX11_copy P g p0 p1 = some (Sum.inl 2, g')) : WCon l D cs adK adV yL_copy cL_copy 5 [(0, 10, 13, 19), (0, 10, 17, 36), (0, 10, 21, 13)] (rA 8 1 6) 1 6 [.ref (ad 0), .int p0, .int p1, .ref aO] (SW cs ad al P g ++ outC cs aO fo :: Wm) (1 : Int32) (SW cs ad al P g' ++ outC cs aO fo :: Wm) := by
  refine WCon.of hst (by decide) (Nat.le_of_ble_eq_true rfl) ?_
  intro p e s m args below meth c A ls H locs C hL htb h hl
  have hx := C.1
  have hb := C.2.1
  have C : MCx p s m args meth c A RL cL_copy 5 (some .int) D cs := C
  have hl : lv_has ls 5 [(0, .ref (ad 0)), (1, .int p0), (2, .int p1), (3, .ref aO)] := hl
  refine lv_aload_n hx hb dL_copy_0 rfl (lv_at hl 3 rfl) ?_
  refine lv_iconst (v := (0 : Int32)) hx hb dL_copy_1 (by decide) ?_
  refine lv_aload_n hx hb dL_copy_2 rfl (lv_at hl 0 rfl) ?_
  refine lv_iload_n hx hb dL_copy_3 rfl (lv_at hl 1 rfl) ?_
  refine lv_iload_n hx hb dL_copy_4 rfl (lv_at hl 2 rfl) ?_
  refine f_catch (rest := [.int (0 : Int32), .ref aO]) (W2 := outC cs aO fo :: Wm) [.int p0, .int p1] C hL h cv_L_109 (tX11_copy hst hf) rfl ⟨rfl, rfl⟩ ⟨Nat.le_of_ble_eq_true rfl, Nat.le_of_ble_eq_true rfl⟩ (rv_law (q0 := 0) (ci := 10) (q := (RX11, TX11, 13)) C h rfl (SW_fix rfl)) hl.1 rfl (Nat.le_of_ble_eq_true rfl) ⟨Nat.le_refl 1, Nat.le_refl 6⟩ dL_copy_5 [] ⟨0, 10, 13, 19⟩ [⟨0, 10, 17, 36⟩, ⟨0, 10, 21, 13⟩] (htb.trans rfl) ⟨by decide, by decide⟩ (fun z hz => absurd hz List.not_mem_nil) (by decide) (by decide) tb_25_13 (fun q H locs h => ?_)
  refine lv_astore (lv' := [(4, .ref q), (0, .ref (ad 0)), (1, .int p0), (2, .int p1), (3, .ref aO)]) hx hb dL_copy_13 hl (by decide) rfl (fun ls hl => ?_)
  refine lv_iconst (v := (1 : Int32)) hx hb dL_copy_15 (by decide) ?_
  exact m_iret C h dL_copy_16

set_option maxHeartbeats 4000000 in
set_option maxRecDepth 100000 in
theorem xL_copy_3 (hst : l.stackTraces = false) {p0 : Int32} {p1 : Int32} (hf : fX11_copy P g p0 p1 = some (Sum.inl 3, g')) : WCon l D cs adK adV yL_copy cL_copy 5 [(0, 10, 13, 19), (0, 10, 17, 36), (0, 10, 21, 13)] (rA 8 1 6) 1 6 [.ref (ad 0), .int p0, .int p1, .ref aO] (SW cs ad al P g ++ outC cs aO fo :: Wm) (2 : Int32) (SW cs ad al P g' ++ outC cs aO fo :: Wm) := by
  refine WCon.of hst (by decide) (Nat.le_of_ble_eq_true rfl) ?_
  intro p e s m args below meth c A ls H locs C hL htb h hl
  have hx := C.1
  have hb := C.2.1
  have C : MCx p s m args meth c A RL cL_copy 5 (some .int) D cs := C
  have hl : lv_has ls 5 [(0, .ref (ad 0)), (1, .int p0), (2, .int p1), (3, .ref aO)] := hl
  refine lv_aload_n hx hb dL_copy_0 rfl (lv_at hl 3 rfl) ?_
  refine lv_iconst (v := (0 : Int32)) hx hb dL_copy_1 (by decide) ?_
  refine lv_aload_n hx hb dL_copy_2 rfl (lv_at hl 0 rfl) ?_
  refine lv_iload_n hx hb dL_copy_3 rfl (lv_at hl 1 rfl) ?_
  refine lv_iload_n hx hb dL_copy_4 rfl (lv_at hl 2 rfl) ?_
  refine f_catch (rest := [.int (0 : Int32), .ref aO]) (W2 := outC cs aO fo :: Wm) [.int p0, .int p1] C hL h cv_L_109 (tX11_copy hst hf) rfl ⟨rfl, rfl⟩ ⟨Nat.le_of_ble_eq_true rfl, Nat.le_of_ble_eq_true rfl⟩ (rv_law (q0 := 0) (ci := 10) (q := (RX11, TX11, 13)) C h rfl (SW_fix rfl)) hl.1 rfl (Nat.le_of_ble_eq_true rfl) ⟨Nat.le_refl 1, Nat.le_refl 6⟩ dL_copy_5 [⟨0, 10, 13, 19⟩] ⟨0, 10, 17, 36⟩ [⟨0, 10, 21, 13⟩] (htb.trans rfl) ⟨by decide, by decide⟩ (by
    intro z hz
    simp only [List.mem_cons, List.not_mem_nil, or_false] at hz
    rcases hz with hz
    · subst hz
      exact ⟨by decide, 2, by decide, by decide, by decide, tb_25_13⟩) (by decide) (by decide) tb_38_18 (fun q H locs h => ?_)
  refine lv_astore (lv' := [(4, .ref q), (0, .ref (ad 0)), (1, .int p0), (2, .int p1), (3, .ref aO)]) hx hb dL_copy_17 hl (by decide) rfl (fun ls hl => ?_)
  refine lv_iconst (v := (2 : Int32)) hx hb dL_copy_19 (by decide) ?_
  exact m_iret C h dL_copy_20

set_option maxHeartbeats 4000000 in
set_option maxRecDepth 100000 in
theorem xL_copy_1 (hst : l.stackTraces = false) {p0 : Int32} {p1 : Int32} (hf : fX11_copy P g p0 p1 = some (Sum.inl 1, g')) : WCon l D cs adK adV yL_copy cL_copy 5 [(0, 10, 13, 19), (0, 10, 17, 36), (0, 10, 21, 13)] (rA 8 1 6) 1 6 [.ref (ad 0), .int p0, .int p1, .ref aO] (SW cs ad al P g ++ outC cs aO fo :: Wm) (3 : Int32) (SW cs ad al P g' ++ outC cs aO fo :: Wm) := by
  refine WCon.of hst (by decide) (Nat.le_of_ble_eq_true rfl) ?_
  intro p e s m args below meth c A ls H locs C hL htb h hl
  have hx := C.1
  have hb := C.2.1
  have C : MCx p s m args meth c A RL cL_copy 5 (some .int) D cs := C
  have hl : lv_has ls 5 [(0, .ref (ad 0)), (1, .int p0), (2, .int p1), (3, .ref aO)] := hl
  refine lv_aload_n hx hb dL_copy_0 rfl (lv_at hl 3 rfl) ?_
  refine lv_iconst (v := (0 : Int32)) hx hb dL_copy_1 (by decide) ?_
  refine lv_aload_n hx hb dL_copy_2 rfl (lv_at hl 0 rfl) ?_
  refine lv_iload_n hx hb dL_copy_3 rfl (lv_at hl 1 rfl) ?_
  refine lv_iload_n hx hb dL_copy_4 rfl (lv_at hl 2 rfl) ?_
  refine f_catch (rest := [.int (0 : Int32), .ref aO]) (W2 := outC cs aO fo :: Wm) [.int p0, .int p1] C hL h cv_L_109 (tX11_copy hst hf) rfl ⟨rfl, rfl⟩ ⟨Nat.le_of_ble_eq_true rfl, Nat.le_of_ble_eq_true rfl⟩ (rv_law (q0 := 0) (ci := 10) (q := (RX11, TX11, 13)) C h rfl (SW_fix rfl)) hl.1 rfl (Nat.le_of_ble_eq_true rfl) ⟨Nat.le_refl 1, Nat.le_refl 6⟩ dL_copy_5 [⟨0, 10, 13, 19⟩, ⟨0, 10, 17, 36⟩] ⟨0, 10, 21, 13⟩ [] (htb.trans rfl) ⟨by decide, by decide⟩ (by
    intro z hz
    simp only [List.mem_cons, List.not_mem_nil, or_false] at hz
    rcases hz with hz | hz
    · subst hz
      exact ⟨by decide, 2, by decide, by decide, by decide, tb_25_13⟩
    · subst hz
      exact ⟨by decide, 3, by decide, by decide, by decide, tb_38_18⟩) (by decide) (by decide) tb_8_23 (fun q H locs h => ?_)
  refine lv_astore (lv' := [(4, .ref q), (0, .ref (ad 0)), (1, .int p0), (2, .int p1), (3, .ref aO)]) hx hb dL_copy_21 hl (by decide) rfl (fun ls hl => ?_)
  refine lv_iconst (v := (3 : Int32)) hx hb dL_copy_23 (by decide) ?_
  exact m_iret C h dL_copy_24

set_option maxHeartbeats 4000000 in
set_option maxRecDepth 100000 in
theorem nL_image (hst : l.stackTraces = false) {p0 : Int32} {r : Unit} (hf : fX11_image P g p0 = some (Sum.inr r, g')) : WCon l D cs adK adV yL_image cL_image 3 [(0, 5, 8, 19)] (rM 3) 0 0 [.ref (ad 0), .int p0] (SW cs ad al P g ++ outC cs aO fo :: Wm) (0 : Int32) (SW cs ad al P g' ++ outC cs aO fo :: Wm) := by
  refine WCon.of hst (by decide) (Nat.le_of_ble_eq_true rfl) ?_
  intro p e s m args below meth c A ls H locs C hL htb h hl
  have hx := C.1
  have hb := C.2.1
  have C : MCx p s m args meth c A RL cL_image 3 (some .int) D cs := C
  have hl : lv_has ls 3 [(0, .ref (ad 0)), (1, .int p0)] := hl
  refine lv_aload_n hx hb dL_image_0 rfl (lv_at hl 0 rfl) ?_
  refine lv_iload_n hx hb dL_image_1 rfl (lv_at hl 1 rfl) ?_
  refine f_callV (r := none) (rest := []) (W2 := outC cs aO fo :: Wm) [.int p0] C h cv_L_112 (qX11_image hf) rfl ⟨rfl, rfl⟩ ⟨Nat.le_of_ble_eq_true rfl, Nat.le_of_ble_eq_true rfl⟩ (rv_law (q0 := 0) (ci := 10) (q := (RX11, TX11, 13)) C h rfl (SW_fix rfl)) hl.1 rfl (Nat.le_of_ble_eq_true rfl) ⟨Nat.le_refl _, Nat.le_refl _⟩ dL_image_2 (fun H locs h => ?_)
  refine lv_goto (tgt := 11) hx hb dL_image_5 (by decide) ?_
  refine lv_iconst (v := (0 : Int32)) hx hb dL_image_11 (by decide) ?_
  exact m_iret C h dL_image_12

set_option maxHeartbeats 4000000 in
set_option maxRecDepth 100000 in
theorem xL_image_2 (hst : l.stackTraces = false) {p0 : Int32} (hf : fX11_image P g p0 = some (Sum.inl 2, g')) : WCon l D cs adK adV yL_image cL_image 3 [(0, 5, 8, 19)] (rA 8 1 6) 1 6 [.ref (ad 0), .int p0] (SW cs ad al P g ++ outC cs aO fo :: Wm) (1 : Int32) (SW cs ad al P g' ++ outC cs aO fo :: Wm) := by
  refine WCon.of hst (by decide) (Nat.le_of_ble_eq_true rfl) ?_
  intro p e s m args below meth c A ls H locs C hL htb h hl
  have hx := C.1
  have hb := C.2.1
  have C : MCx p s m args meth c A RL cL_image 3 (some .int) D cs := C
  have hl : lv_has ls 3 [(0, .ref (ad 0)), (1, .int p0)] := hl
  refine lv_aload_n hx hb dL_image_0 rfl (lv_at hl 0 rfl) ?_
  refine lv_iload_n hx hb dL_image_1 rfl (lv_at hl 1 rfl) ?_
  refine f_catch (rest := []) (W2 := outC cs aO fo :: Wm) [.int p0] C hL h cv_L_112 (tX11_image hst hf) rfl ⟨rfl, rfl⟩ ⟨Nat.le_of_ble_eq_true rfl, Nat.le_of_ble_eq_true rfl⟩ (rv_law (q0 := 0) (ci := 10) (q := (RX11, TX11, 13)) C h rfl (SW_fix rfl)) hl.1 rfl (Nat.le_of_ble_eq_true rfl) ⟨Nat.le_refl 1, Nat.le_refl 6⟩ dL_image_2 [] ⟨0, 5, 8, 19⟩ [] (htb.trans rfl) ⟨by decide, by decide⟩ (fun z hz => absurd hz List.not_mem_nil) (by decide) (by decide) tb_25_13 (fun q H locs h => ?_)
  refine lv_astore_n (lv' := [(2, .ref q), (0, .ref (ad 0)), (1, .int p0)]) hx hb dL_image_8 rfl hl (by decide) rfl (fun ls hl => ?_)
  refine lv_iconst (v := (1 : Int32)) hx hb dL_image_9 (by decide) ?_
  exact m_iret C h dL_image_10

set_option maxHeartbeats 4000000 in
set_option maxRecDepth 100000 in
theorem nL_restore (hst : l.stackTraces = false) {p0 : Int32} {r : Unit} (hf : fX11_restore P g p0 = some (Sum.inr r, g')) : WCon l D cs adK adV yL_restore cL_restore 3 [(0, 5, 8, 19), (0, 5, 11, 36)] (rM 3) 0 0 [.ref (ad 0), .int p0] (SW cs ad al P g ++ outC cs aO fo :: Wm) (0 : Int32) (SW cs ad al P g' ++ outC cs aO fo :: Wm) := by
  refine WCon.of hst (by decide) (Nat.le_of_ble_eq_true rfl) ?_
  intro p e s m args below meth c A ls H locs C hL htb h hl
  have hx := C.1
  have hb := C.2.1
  have C : MCx p s m args meth c A RL cL_restore 3 (some .int) D cs := C
  have hl : lv_has ls 3 [(0, .ref (ad 0)), (1, .int p0)] := hl
  refine lv_aload_n hx hb dL_restore_0 rfl (lv_at hl 0 rfl) ?_
  refine lv_iload_n hx hb dL_restore_1 rfl (lv_at hl 1 rfl) ?_
  refine f_callV (r := none) (rest := []) (W2 := outC cs aO fo :: Wm) [.int p0] C h cv_L_116 (qX11_restore hf) rfl ⟨rfl, rfl⟩ ⟨Nat.le_of_ble_eq_true rfl, Nat.le_of_ble_eq_true rfl⟩ (rv_law (q0 := 0) (ci := 10) (q := (RX11, TX11, 13)) C h rfl (SW_fix rfl)) hl.1 rfl (Nat.le_of_ble_eq_true rfl) ⟨Nat.le_refl _, Nat.le_refl _⟩ dL_restore_2 (fun H locs h => ?_)
  refine lv_goto (tgt := 14) hx hb dL_restore_5 (by decide) ?_
  refine lv_iconst (v := (0 : Int32)) hx hb dL_restore_14 (by decide) ?_
  exact m_iret C h dL_restore_15

set_option maxHeartbeats 4000000 in
set_option maxRecDepth 100000 in
theorem xL_restore_2 (hst : l.stackTraces = false) {p0 : Int32} (hf : fX11_restore P g p0 = some (Sum.inl 2, g')) : WCon l D cs adK adV yL_restore cL_restore 3 [(0, 5, 8, 19), (0, 5, 11, 36)] (rA 8 1 6) 1 6 [.ref (ad 0), .int p0] (SW cs ad al P g ++ outC cs aO fo :: Wm) (1 : Int32) (SW cs ad al P g' ++ outC cs aO fo :: Wm) := by
  refine WCon.of hst (by decide) (Nat.le_of_ble_eq_true rfl) ?_
  intro p e s m args below meth c A ls H locs C hL htb h hl
  have hx := C.1
  have hb := C.2.1
  have C : MCx p s m args meth c A RL cL_restore 3 (some .int) D cs := C
  have hl : lv_has ls 3 [(0, .ref (ad 0)), (1, .int p0)] := hl
  refine lv_aload_n hx hb dL_restore_0 rfl (lv_at hl 0 rfl) ?_
  refine lv_iload_n hx hb dL_restore_1 rfl (lv_at hl 1 rfl) ?_
  refine f_catch (rest := []) (W2 := outC cs aO fo :: Wm) [.int p0] C hL h cv_L_116 (tX11_restore hst hf) rfl ⟨rfl, rfl⟩ ⟨Nat.le_of_ble_eq_true rfl, Nat.le_of_ble_eq_true rfl⟩ (rv_law (q0 := 0) (ci := 10) (q := (RX11, TX11, 13)) C h rfl (SW_fix rfl)) hl.1 rfl (Nat.le_of_ble_eq_true rfl) ⟨Nat.le_refl 1, Nat.le_refl 6⟩ dL_restore_2 [] ⟨0, 5, 8, 19⟩ [⟨0, 5, 11, 36⟩] (htb.trans rfl) ⟨by decide, by decide⟩ (fun z hz => absurd hz List.not_mem_nil) (by decide) (by decide) tb_25_13 (fun q H locs h => ?_)
  refine lv_astore_n (lv' := [(2, .ref q), (0, .ref (ad 0)), (1, .int p0)]) hx hb dL_restore_8 rfl hl (by decide) rfl (fun ls hl => ?_)
  refine lv_iconst (v := (1 : Int32)) hx hb dL_restore_9 (by decide) ?_
  exact m_iret C h dL_restore_10

set_option maxHeartbeats 4000000 in
set_option maxRecDepth 100000 in
theorem xL_restore_3 (hst : l.stackTraces = false) {p0 : Int32} (hf : fX11_restore P g p0 = some (Sum.inl 3, g')) : WCon l D cs adK adV yL_restore cL_restore 3 [(0, 5, 8, 19), (0, 5, 11, 36)] (rA 8 1 6) 1 6 [.ref (ad 0), .int p0] (SW cs ad al P g ++ outC cs aO fo :: Wm) (2 : Int32) (SW cs ad al P g' ++ outC cs aO fo :: Wm) := by
  refine WCon.of hst (by decide) (Nat.le_of_ble_eq_true rfl) ?_
  intro p e s m args below meth c A ls H locs C hL htb h hl
  have hx := C.1
  have hb := C.2.1
  have C : MCx p s m args meth c A RL cL_restore 3 (some .int) D cs := C
  have hl : lv_has ls 3 [(0, .ref (ad 0)), (1, .int p0)] := hl
  refine lv_aload_n hx hb dL_restore_0 rfl (lv_at hl 0 rfl) ?_
  refine lv_iload_n hx hb dL_restore_1 rfl (lv_at hl 1 rfl) ?_
  refine f_catch (rest := []) (W2 := outC cs aO fo :: Wm) [.int p0] C hL h cv_L_116 (tX11_restore hst hf) rfl ⟨rfl, rfl⟩ ⟨Nat.le_of_ble_eq_true rfl, Nat.le_of_ble_eq_true rfl⟩ (rv_law (q0 := 0) (ci := 10) (q := (RX11, TX11, 13)) C h rfl (SW_fix rfl)) hl.1 rfl (Nat.le_of_ble_eq_true rfl) ⟨Nat.le_refl 1, Nat.le_refl 6⟩ dL_restore_2 [⟨0, 5, 8, 19⟩] ⟨0, 5, 11, 36⟩ [] (htb.trans rfl) ⟨by decide, by decide⟩ (by
    intro z hz
    simp only [List.mem_cons, List.not_mem_nil, or_false] at hz
    rcases hz with hz
    · subst hz
      exact ⟨by decide, 2, by decide, by decide, by decide, tb_25_13⟩) (by decide) (by decide) tb_38_18 (fun q H locs h => ?_)
  refine lv_astore_n (lv' := [(2, .ref q), (0, .ref (ad 0)), (1, .int p0)]) hx hb dL_restore_11 rfl hl (by decide) rfl (fun ls hl => ?_)
  refine lv_iconst (v := (2 : Int32)) hx hb dL_restore_12 (by decide) ?_
  exact m_iret C h dL_restore_13
end
