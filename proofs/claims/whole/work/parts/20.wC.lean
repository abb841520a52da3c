theorem kw2 : Cond.initialized "RuledCalendar$Days" ∈ big := mb 2 (by decide +kernel) (by decide +kernel)
theorem kw3 : Cond.initialized "RuledCalendar$Rule" ∈ big := mb 3 (by decide +kernel) (by decide +kernel)
theorem kw5 : Cond.initialized "RuledCalendar$Frequency" ∈ big := mb 5 (by decide +kernel) (by decide +kernel)
theorem kw6 : Cond.initialized "java/util/Arrays" ∈ big := mb 6 (by decide +kernel) (by decide +kernel)
theorem kw7 : Cond.initialized "RuledCalendar$Reader" ∈ big := mb 7 (by decide +kernel) (by decide +kernel)
theorem kw8 : Cond.initialized "RuledCalendar$Filler" ∈ big := mb 8 (by decide +kernel) (by decide +kernel)
theorem kw14 : Cond.initialized "java/lang/Math" ∈ big := mb 14 (by decide +kernel) (by decide +kernel)
theorem kw15 : Cond.initialized "java/lang/String" ∈ big := mb 15 (by decide +kernel) (by decide +kernel)
theorem kw16 : Cond.initialized "java/lang/StringLatin1" ∈ big := mb 16 (by decide +kernel) (by decide +kernel)
theorem kw17 : Cond.initialized "jdk/internal/util/Preconditions" ∈ big := mb 17 (by decide +kernel) (by decide +kernel)
theorem kw19 : Cond.initialized "RuledCalendar$Part" ∈ big := mb 19 (by decide +kernel) (by decide +kernel)
theorem kw21 : Cond.initialized "java/lang/Integer" ∈ big := mb 21 (by decide +kernel) (by decide +kernel)
theorem kw37 : Cond.methodLink "RuledCalendar$Days" 15 ({ cls := "RuledCalendar$Days", name := "lengthOf", desc := "(I)I" } : MethodName) ∈ big := mb 37 (by decide +kernel) (by decide +kernel)
theorem kw38 : Cond.static ({ cls := "RuledCalendar$Days", name := "lengthOf", desc := "(I)I" } : MethodName) ∈ big := mb 38 (by decide +kernel) (by decide +kernel)
set_option maxRecDepth 20000 in
theorem kw39 : Cond.code yX0_lengthOf cX0_lengthOf 2 (some .int) ∈ big := mb 39 rfl (by decide +kernel)
theorem kw40 : Cond.methodLink "RuledCalendar$Days" 24 ({ cls := "RuledCalendar$Days", name := "isLeap", desc := "(I)Z" } : MethodName) ∈ big := mb 40 (by decide +kernel) (by decide +kernel)
theorem kw41 : Cond.static ({ cls := "RuledCalendar$Days", name := "isLeap", desc := "(I)Z" } : MethodName) ∈ big := mb 41 (by decide +kernel) (by decide +kernel)
set_option maxRecDepth 20000 in
theorem kw42 : Cond.code yX0_isLeap cX0_isLeap 1 (some .boolean) ∈ big := mb 42 rfl (by decide +kernel)
theorem kw45 : Cond.fieldLink "RuledCalendar$Days" 9 "RuledCalendar$Days" "first" "[I" ∈ big := mb 45 (by decide +kernel) (by decide +kernel)
theorem kw46 : Cond.fieldLink "RuledCalendar$Filler" 92 "RuledCalendar$Days" "first" "[I" ∈ big := mb 46 (by decide +kernel) (by decide +kernel)
theorem kw61 : Cond.instanceMethod ({ cls := "RuledCalendar$Rule", name := "forget", desc := "()V" } : MethodName) ∈ big := mb 61 (by decide +kernel) (by decide +kernel)
set_option maxRecDepth 20000 in
theorem kw62 : Cond.code yX5_forget cX5_forget 1 none ∈ big := mb 62 rfl (by decide +kernel)
theorem kw63 : Cond.fieldLink "RuledCalendar$Rule" 29 "RuledCalendar$Frequency" "DAILY" "LRuledCalendar$Frequency;" ∈ big := mb 63 (by decide +kernel) (by decide +kernel)
theorem kw65 : Cond.constant "RuledCalendar$Rule" 41 1000000 ∈ big := mb 65 (by decide +kernel) (by decide +kernel)
theorem kw66 : Cond.constant "RuledCalendar$Rule" 45 21991231 ∈ big := mb 66 (by decide +kernel) (by decide +kernel)
theorem kw67 : Cond.methodLink "RuledCalendar$Rule" 64 ({ cls := "java/util/Arrays", name := "fill", desc := "([JJ)V" } : MethodName) ∈ big := mb 67 (by decide +kernel) (by decide +kernel)
theorem kw68 : Cond.static ({ cls := "java/util/Arrays", name := "fill", desc := "([JJ)V" } : MethodName) ∈ big := mb 68 (by decide +kernel) (by decide +kernel)
set_option maxRecDepth 20000 in
theorem kw69 : Cond.code yJ7_fill_d0a16 cJ7_fill_d0a16 5 none ∈ big := mb 69 rfl (by decide +kernel)
theorem kw70 : Cond.methodLink "RuledCalendar$Rule" 70 ({ cls := "java/util/Arrays", name := "fill", desc := "([BB)V" } : MethodName) ∈ big := mb 70 (by decide +kernel) (by decide +kernel)
theorem kw71 : Cond.static ({ cls := "java/util/Arrays", name := "fill", desc := "([BB)V" } : MethodName) ∈ big := mb 71 (by decide +kernel) (by decide +kernel)
set_option maxRecDepth 20000 in
theorem kw72 : Cond.code yJ7_fill_031fb cJ7_fill_031fb 4 none ∈ big := mb 72 rfl (by decide +kernel)
theorem kw73 : Cond.fieldLink "RuledCalendar$Rule" 25 "RuledCalendar$Rule" "present" "I" ∈ big := mb 73 (by decide +kernel) (by decide +kernel)
theorem kw74 : Cond.fieldLink "RuledCalendar$Reader" 86 "RuledCalendar$Rule" "present" "I" ∈ big := mb 74 (by decide +kernel) (by decide +kernel)
theorem kw75 : Cond.fieldLink "RuledCalendar$Rule" 35 "RuledCalendar$Rule" "frequency" "LRuledCalendar$Frequency;" ∈ big := mb 75 (by decide +kernel) (by decide +kernel)
theorem kw76 : Cond.fieldLink "RuledCalendar$Filler" 42 "RuledCalendar$Rule" "frequency" "LRuledCalendar$Frequency;" ∈ big := mb 76 (by decide +kernel) (by decide +kernel)
theorem kw77 : Cond.fieldLink "RuledCalendar$Reader" 151 "RuledCalendar$Rule" "frequency" "LRuledCalendar$Frequency;" ∈ big := mb 77 (by decide +kernel) (by decide +kernel)
theorem kw78 : Cond.fieldLink "RuledCalendar$Rule" 38 "RuledCalendar$Rule" "interval" "I" ∈ big := mb 78 (by decide +kernel) (by decide +kernel)
theorem kw79 : Cond.fieldLink "RuledCalendar$Filler" 30 "RuledCalendar$Rule" "interval" "I" ∈ big := mb 79 (by decide +kernel) (by decide +kernel)
theorem kw80 : Cond.fieldLink "RuledCalendar$Rule" 42 "RuledCalendar$Rule" "count" "I" ∈ big := mb 80 (by decide +kernel) (by decide +kernel)
theorem kw81 : Cond.fieldLink "RuledCalendar$Filler" 188 "RuledCalendar$Rule" "count" "I" ∈ big := mb 81 (by decide +kernel) (by decide +kernel)
theorem kw82 : Cond.fieldLink "RuledCalendar$Rule" 46 "RuledCalendar$Rule" "until" "I" ∈ big := mb 82 (by decide +kernel) (by decide +kernel)
theorem kw83 : Cond.fieldLink "RuledCalendar$Filler" 66 "RuledCalendar$Rule" "until" "I" ∈ big := mb 83 (by decide +kernel) (by decide +kernel)
theorem kw84 : Cond.fieldLink "RuledCalendar$Rule" 49 "RuledCalendar$Rule" "months" "I" ∈ big := mb 84 (by decide +kernel) (by decide +kernel)
theorem kw85 : Cond.fieldLink "RuledCalendar$Filler" 123 "RuledCalendar$Rule" "months" "I" ∈ big := mb 85 (by decide +kernel) (by decide +kernel)
theorem kw86 : Cond.fieldLink "RuledCalendar$Rule" 52 "RuledCalendar$Rule" "monthDays" "I" ∈ big := mb 86 (by decide +kernel) (by decide +kernel)
theorem kw87 : Cond.fieldLink "RuledCalendar$Filler" 135 "RuledCalendar$Rule" "monthDays" "I" ∈ big := mb 87 (by decide +kernel) (by decide +kernel)
theorem kw88 : Cond.fieldLink "RuledCalendar$Rule" 55 "RuledCalendar$Rule" "monthDaysFromEnd" "I" ∈ big := mb 88 (by decide +kernel) (by decide +kernel)
theorem kw89 : Cond.fieldLink "RuledCalendar$Filler" 138 "RuledCalendar$Rule" "monthDaysFromEnd" "I" ∈ big := mb 89 (by decide +kernel) (by decide +kernel)
theorem kw90 : Cond.fieldLink "RuledCalendar$Rule" 58 "RuledCalendar$Rule" "weekdays" "I" ∈ big := mb 90 (by decide +kernel) (by decide +kernel)
theorem kw91 : Cond.fieldLink "RuledCalendar$Filler" 149 "RuledCalendar$Rule" "weekdays" "I" ∈ big := mb 91 (by decide +kernel) (by decide +kernel)
theorem kw92 : Cond.fieldLink "RuledCalendar$Rule" 61 "RuledCalendar$Rule" "numberedWeekdays" "I" ∈ big := mb 92 (by decide +kernel) (by decide +kernel)
theorem kw93 : Cond.fieldLink "RuledCalendar$Filler" 144 "RuledCalendar$Rule" "numberedWeekdays" "I" ∈ big := mb 93 (by decide +kernel) (by decide +kernel)
theorem kw94 : Cond.fieldLink "RuledCalendar$Rule" 9 "RuledCalendar$Rule" "numbers" "[J" ∈ big := mb 94 (by decide +kernel) (by decide +kernel)
theorem kw95 : Cond.fieldLink "RuledCalendar$Filler" 161 "RuledCalendar$Rule" "numbers" "[J" ∈ big := mb 95 (by decide +kernel) (by decide +kernel)
theorem kw96 : Cond.fieldLink "RuledCalendar$Rule" 15 "RuledCalendar$Rule" "numbersFromEnd" "[J" ∈ big := mb 96 (by decide +kernel) (by decide +kernel)
theorem kw97 : Cond.fieldLink "RuledCalendar$Filler" 165 "RuledCalendar$Rule" "numbersFromEnd" "[J" ∈ big := mb 97 (by decide +kernel) (by decide +kernel)
theorem kw98 : Cond.fieldLink "RuledCalendar$Rule" 18 "RuledCalendar$Rule" "places" "[B" ∈ big := mb 98 (by decide +kernel) (by decide +kernel)
theorem kw134 : Cond.fieldLink "RuledCalendar$Reader" 9 "RuledCalendar$Reader" "rule" "LRuledCalendar$Rule;" ∈ big := mb 134 (by decide +kernel) (by decide +kernel)
theorem kw135 : Cond.fieldLink "RuledCalendar$Reader" 15 "RuledCalendar$Reader" "text" "[C" ∈ big := mb 135 (by decide +kernel) (by decide +kernel)
theorem kw136 : Cond.fieldLink "RuledCalendar$Reader" 32 "RuledCalendar$Reader" "length" "I" ∈ big := mb 136 (by decide +kernel) (by decide +kernel)
theorem kw137 : Cond.fieldLink "RuledCalendar$Reader" 35 "RuledCalendar$Reader" "at" "I" ∈ big := mb 137 (by decide +kernel) (by decide +kernel)
theorem kw138 : Cond.fieldLink "RuledCalendar$Reader" 19 "RuledCalendar$Reader" "faultKind" "I" ∈ big := mb 138 (by decide +kernel) (by decide +kernel)
theorem kw140 : Cond.fieldLink "RuledCalendar$Reader" 23 "RuledCalendar$Reader" "faultPlace" "I" ∈ big := mb 140 (by decide +kernel) (by decide +kernel)
theorem kw161 : Cond.fieldLink "RuledCalendar$Filler" 9 "RuledCalendar$Filler" "days" "LRuledCalendar$Days;" ∈ big := mb 161 (by decide +kernel) (by decide +kernel)
theorem kw162 : Cond.fieldLink "RuledCalendar$Filler" 15 "RuledCalendar$Filler" "rule" "LRuledCalendar$Rule;" ∈ big := mb 162 (by decide +kernel) (by decide +kernel)
theorem kw163 : Cond.fieldLink "RuledCalendar$Filler" 19 "RuledCalendar$Filler" "row" "[I" ∈ big := mb 163 (by decide +kernel) (by decide +kernel)
theorem kw164 : Cond.fieldLink "RuledCalendar$Filler" 26 "RuledCalendar$Filler" "start" "I" ∈ big := mb 164 (by decide +kernel) (by decide +kernel)
theorem kw165 : Cond.fieldLink "RuledCalendar$Filler" 41 "RuledCalendar$Filler" "interval" "I" ∈ big := mb 165 (by decide +kernel) (by decide +kernel)
theorem kw166 : Cond.fieldLink "RuledCalendar$Filler" 60 "RuledCalendar$Filler" "startPeriod" "I" ∈ big := mb 166 (by decide +kernel) (by decide +kernel)
theorem kw167 : Cond.fieldLink "RuledCalendar$Filler" 23 "RuledCalendar$Filler" "gathered" "[I" ∈ big := mb 167 (by decide +kernel) (by decide +kernel)
theorem kw168 : Cond.fieldLink "RuledCalendar$Filler" 168 "RuledCalendar$Filler" "gatheredCount" "I" ∈ big := mb 168 (by decide +kernel) (by decide +kernel)
theorem kw313 : Cond.static ({ cls := "RuledCalendar$Days", name := "isDate", desc := "(I)Z" } : MethodName) ∈ big := mb 313 (by decide +kernel) (by decide +kernel)
set_option maxRecDepth 20000 in
theorem kw314 : Cond.code yX0_isDate cX0_isDate 3 (some .boolean) ∈ big := mb 314 rfl (by decide +kernel)
theorem kw315 : Cond.constant "RuledCalendar$Days" 19 19000101 ∈ big := mb 315 (by decide +kernel) (by decide +kernel)
theorem kw316 : Cond.constant "RuledCalendar$Days" 20 21991231 ∈ big := mb 316 (by decide +kernel) (by decide +kernel)
theorem kw317 : Cond.methodLink "RuledCalendar$Days" 21 ({ cls := "RuledCalendar$Days", name := "monthOf", desc := "(I)I" } : MethodName) ∈ big := mb 317 (by decide +kernel) (by decide +kernel)
theorem kw318 : Cond.static ({ cls := "RuledCalendar$Days", name := "monthOf", desc := "(I)I" } : MethodName) ∈ big := mb 318 (by decide +kernel) (by decide +kernel)
set_option maxRecDepth 20000 in
theorem kw319 : Cond.code yX0_monthOf cX0_monthOf 1 (some .int) ∈ big := mb 319 rfl (by decide +kernel)
theorem kw328 : Cond.methodLink "RuledCalendar$Reader" 26 ({ cls := "java/lang/Math", name := "min", desc := "(II)I" } : MethodName) ∈ big := mb 328 (by decide +kernel) (by decide +kernel)
theorem kw329 : Cond.static ({ cls := "java/lang/Math", name := "min", desc := "(II)I" } : MethodName) ∈ big := mb 329 (by decide +kernel) (by decide +kernel)
theorem kw332 : Cond.methodLink "RuledCalendar$Reader" 43 ({ cls := "RuledCalendar$Reader", name := "readPart", desc := "()V" } : MethodName) ∈ big := mb 332 (by decide +kernel) (by decide +kernel)
theorem kw334 : Cond.instanceMethod ({ cls := "RuledCalendar$Reader", name := "readPart", desc := "()V" } : MethodName) ∈ big := mb 334 (by decide +kernel) (by decide +kernel)
set_option maxRecDepth 20000 in
theorem kw335 : Cond.code yX4_readPart cX4_readPart 4 none ∈ big := mb 335 rfl (by decide +kernel)
theorem kw336 : Cond.methodLink "RuledCalendar$Reader" 74 ({ cls := "RuledCalendar$Reader", name := "takeLetters", desc := "(I)I" } : MethodName) ∈ big := mb 336 (by decide +kernel) (by decide +kernel)
theorem kw338 : Cond.instanceMethod ({ cls := "RuledCalendar$Reader", name := "takeLetters", desc := "(I)I" } : MethodName) ∈ big := mb 338 (by decide +kernel) (by decide +kernel)
set_option maxRecDepth 20000 in
theorem kw339 : Cond.code yX4_takeLetters cX4_takeLetters 4 (some .int) ∈ big := mb 339 rfl (by decide +kernel)
theorem kw340 : Cond.methodLink "RuledCalendar$Reader" 62 ({ cls := "RuledCalendar$Reader", name := "seesLetter", desc := "()Z" } : MethodName) ∈ big := mb 340 (by decide +kernel) (by decide +kernel)
theorem kw342 : Cond.instanceMethod ({ cls := "RuledCalendar$Reader", name := "seesLetter", desc := "()Z" } : MethodName) ∈ big := mb 342 (by decide +kernel) (by decide +kernel)
set_option maxRecDepth 20000 in
theorem kw343 : Cond.code yX4_seesLetter cX4_seesLetter 1 (some .boolean) ∈ big := mb 343 rfl (by decide +kernel)
theorem kw344 : Cond.methodLink "RuledCalendar$Reader" 54 ({ cls := "RuledCalendar$Reader", name := "fail", desc := "(II)V" } : MethodName) ∈ big := mb 344 (by decide +kernel) (by decide +kernel)
theorem kw346 : Cond.instanceMethod ({ cls := "RuledCalendar$Reader", name := "fail", desc := "(II)V" } : MethodName) ∈ big := mb 346 (by decide +kernel) (by decide +kernel)
set_option maxRecDepth 20000 in
theorem kw347 : Cond.code yX4_fail cX4_fail 3 none ∈ big := mb 347 rfl (by decide +kernel)
theorem kw348 : Cond.methodLink "RuledCalendar$Reader" 78 ({ cls := "RuledCalendar$Reader", name := "partNamed", desc := "(I)LRuledCalendar$Part;" } : MethodName) ∈ big := mb 348 (by decide +kernel) (by decide +kernel)
theorem kw350 : Cond.instanceMethod ({ cls := "RuledCalendar$Reader", name := "partNamed", desc := "(I)LRuledCalendar$Part;" } : MethodName) ∈ big := mb 350 (by decide +kernel) (by decide +kernel)
set_option maxRecDepth 20000 in
theorem kw351 : Cond.code yX4_partNamed cX4_partNamed 3 (some (.object "RuledCalendar$Part")) ∈ big := mb 351 rfl (by decide +kernel)
theorem kw354 : Cond.methodLink "RuledCalendar$Reader" 110 ({ cls := "RuledCalendar$Reader", name := "isWord", desc := "(Ljava/lang/String;I)Z" } : MethodName) ∈ big := mb 354 (by decide +kernel) (by decide +kernel)
theorem kw356 : Cond.instanceMethod ({ cls := "RuledCalendar$Reader", name := "isWord", desc := "(Ljava/lang/String;I)Z" } : MethodName) ∈ big := mb 356 (by decide +kernel) (by decide +kernel)
set_option maxRecDepth 20000 in
theorem kw357 : Cond.code yX4_isWord cX4_isWord 4 (some .boolean) ∈ big := mb 357 rfl (by decide +kernel)
theorem kw358 : Cond.methodLink "RuledCalendar$Reader" 65 ({ cls := "java/lang/String", name := "length", desc := "()I" } : MethodName) ∈ big := mb 358 (by decide +kernel) (by decide +kernel)
theorem kw359 : Cond.instanceMethod ({ cls := "java/lang/String", name := "length", desc := "()I" } : MethodName) ∈ big := mb 359 (by decide +kernel) (by decide +kernel)
theorem kw360 : Cond.selects "java/lang/String" ({ cls := "java/lang/String", name := "length", desc := "()I" } : MethodName) ({ cls := "java/lang/String", name := "length", desc := "()I" } : MethodName) ∈ big := mb 360 (by decide +kernel) (by decide +kernel)
set_option maxRecDepth 20000 in
theorem kw361 : Cond.code yJ0_length_8abf5 cJ0_length_8abf5 1 (some .int) ∈ big := mb 361 rfl (by decide +kernel)
theorem kw362 : Cond.methodLink "java/lang/String" 335 ({ cls := "java/lang/String", name := "coder", desc := "()B" } : MethodName) ∈ big := mb 362 (by decide +kernel) (by decide +kernel)
theorem kw363 : Cond.instanceMethod ({ cls := "java/lang/String", name := "coder", desc := "()B" } : MethodName) ∈ big := mb 363 (by decide +kernel) (by decide +kernel)
theorem kw364 : Cond.selects "java/lang/String" ({ cls := "java/lang/String", name := "coder", desc := "()B" } : MethodName) ({ cls := "java/lang/String", name := "coder", desc := "()B" } : MethodName) ∈ big := mb 364 (by decide +kernel) (by decide +kernel)
set_option maxRecDepth 20000 in
theorem kw365 : Cond.code yJ0_coder_7d493 cJ0_coder_7d493 1 (some .byte) ∈ big := mb 365 rfl (by decide +kernel)
theorem kw366 : Cond.fieldLink "java/lang/String" 38 "java/lang/String" "COMPACT_STRINGS" "Z" ∈ big := mb 366 (by decide +kernel) (by decide +kernel)
theorem kw368 : Cond.methodLink "RuledCalendar$Reader" 70 ({ cls := "java/lang/String", name := "charAt", desc := "(I)C" } : MethodName) ∈ big := mb 368 (by decide +kernel) (by decide +kernel)
theorem kw369 : Cond.instanceMethod ({ cls := "java/lang/String", name := "charAt", desc := "(I)C" } : MethodName) ∈ big := mb 369 (by decide +kernel) (by decide +kernel)
theorem kw370 : Cond.selects "java/lang/String" ({ cls := "java/lang/String", name := "charAt", desc := "(I)C" } : MethodName) ({ cls := "java/lang/String", name := "charAt", desc := "(I)C" } : MethodName) ∈ big := mb 370 (by decide +kernel) (by decide +kernel)
set_option maxRecDepth 20000 in
theorem kw371 : Cond.code yJ0_charAt_5068e cJ0_charAt_5068e 2 (some .char) ∈ big := mb 371 rfl (by decide +kernel)
theorem kw372 : Cond.methodLink "java/lang/String" 492 ({ cls := "java/lang/String", name := "isLatin1", desc := "()Z" } : MethodName) ∈ big := mb 372 (by decide +kernel) (by decide +kernel)
theorem kw373 : Cond.instanceMethod ({ cls := "java/lang/String", name := "isLatin1", desc := "()Z" } : MethodName) ∈ big := mb 373 (by decide +kernel) (by decide +kernel)
theorem kw374 : Cond.selects "java/lang/String" ({ cls := "java/lang/String", name := "isLatin1", desc := "()Z" } : MethodName) ({ cls := "java/lang/String", name := "isLatin1", desc := "()Z" } : MethodName) ∈ big := mb 374 (by decide +kernel) (by decide +kernel)
set_option maxRecDepth 20000 in
theorem kw375 : Cond.code yJ0_isLatin1_aae02 cJ0_isLatin1_aae02 1 (some .boolean) ∈ big := mb 375 rfl (by decide +kernel)
theorem kw376 : Cond.methodLink "java/lang/String" 495 ({ cls := "java/lang/StringLatin1", name := "charAt", desc := "([BI)C" } : MethodName) ∈ big := mb 376 (by decide +kernel) (by decide +kernel)
theorem kw377 : Cond.static ({ cls := "java/lang/StringLatin1", name := "charAt", desc := "([BI)C" } : MethodName) ∈ big := mb 377 (by decide +kernel) (by decide +kernel)
set_option maxRecDepth 20000 in
theorem kw378 : Cond.code yJ1_charAt_3b067 cJ1_charAt_3b067 2 (some .char) ∈ big := mb 378 rfl (by decide +kernel)
theorem kw379 : Cond.methodLink "java/lang/StringLatin1" 9 ({ cls := "java/lang/String", name := "checkIndex", desc := "(II)V" } : MethodName) ∈ big := mb 379 (by decide +kernel) (by decide +kernel)
theorem kw380 : Cond.static ({ cls := "java/lang/String", name := "checkIndex", desc := "(II)V" } : MethodName) ∈ big := mb 380 (by decide +kernel) (by decide +kernel)
set_option maxRecDepth 20000 in
theorem kw381 : Cond.code yJ0_checkIndex_df160 cJ0_checkIndex_df160 2 none ∈ big := mb 381 rfl (by decide +kernel)
theorem kw382 : Cond.fieldLink "java/lang/String" 1053 "jdk/internal/util/Preconditions" "SIOOBE_FORMATTER" "Ljava/util/function/BiFunction;" ∈ big := mb 382 (by decide +kernel) (by decide +kernel)
theorem kw384 : Cond.methodLink "java/lang/String" 1059 ({ cls := "jdk/internal/util/Preconditions", name := "checkIndex", desc := "(IILjava/util/function/BiFunction;)I" } : MethodName) ∈ big := mb 384 (by decide +kernel) (by decide +kernel)
theorem kw385 : Cond.static ({ cls := "jdk/internal/util/Preconditions", name := "checkIndex", desc := "(IILjava/util/function/BiFunction;)I" } : MethodName) ∈ big := mb 385 (by decide +kernel) (by decide +kernel)
set_option maxRecDepth 20000 in
theorem kw386 : Cond.code yJ3_checkIndex_8e157 cJ3_checkIndex_8e157 3 (some .int) ∈ big := mb 386 rfl (by decide +kernel)
theorem kw406 : Cond.methodLink "RuledCalendar$Reader" 82 ({ cls := "RuledCalendar$Rule", name := "has", desc := "(LRuledCalendar$Part;)Z" } : MethodName) ∈ big := mb 406 (by decide +kernel) (by decide +kernel)
theorem kw407 : Cond.instanceMethod ({ cls := "RuledCalendar$Rule", name := "has", desc := "(LRuledCalendar$Part;)Z" } : MethodName) ∈ big := mb 407 (by decide +kernel) (by decide +kernel)
theorem kw408 : Cond.selects "RuledCalendar$Rule" ({ cls := "RuledCalendar$Rule", name := "has", desc := "(LRuledCalendar$Part;)Z" } : MethodName) ({ cls := "RuledCalendar$Rule", name := "has", desc := "(LRuledCalendar$Part;)Z" } : MethodName) ∈ big := mb 408 (by decide +kernel) (by decide +kernel)
set_option maxRecDepth 20000 in
theorem kw409 : Cond.code yX5_has cX5_has 2 (some .boolean) ∈ big := mb 409 rfl (by decide +kernel)
theorem kw410 : Cond.methodLink "RuledCalendar$Reader" 46 ({ cls := "RuledCalendar$Reader", name := "take", desc := "(C)V" } : MethodName) ∈ big := mb 410 (by decide +kernel) (by decide +kernel)
theorem kw412 : Cond.instanceMethod ({ cls := "RuledCalendar$Reader", name := "take", desc := "(C)V" } : MethodName) ∈ big := mb 412 (by decide +kernel) (by decide +kernel)
set_option maxRecDepth 20000 in
theorem kw413 : Cond.code yX4_take cX4_take 2 none ∈ big := mb 413 rfl (by decide +kernel)
theorem kw414 : Cond.methodLink "RuledCalendar$Reader" 58 ({ cls := "RuledCalendar$Reader", name := "sees", desc := "(C)Z" } : MethodName) ∈ big := mb 414 (by decide +kernel) (by decide +kernel)
theorem kw416 : Cond.instanceMethod ({ cls := "RuledCalendar$Reader", name := "sees", desc := "(C)Z" } : MethodName) ∈ big := mb 416 (by decide +kernel) (by decide +kernel)
set_option maxRecDepth 20000 in
theorem kw417 : Cond.code yX4_sees cX4_sees 2 (some .boolean) ∈ big := mb 417 rfl (by decide +kernel)
theorem kw418 : Cond.methodLink "RuledCalendar$Reader" 94 ({ cls := "RuledCalendar$Reader", name := "readValue", desc := "(LRuledCalendar$Part;)V" } : MethodName) ∈ big := mb 418 (by decide +kernel) (by decide +kernel)
theorem kw420 : Cond.instanceMethod ({ cls := "RuledCalendar$Reader", name := "readValue", desc := "(LRuledCalendar$Part;)V" } : MethodName) ∈ big := mb 420 (by decide +kernel) (by decide +kernel)
set_option maxRecDepth 20000 in
theorem kw421 : Cond.code yX4_readValue cX4_readValue 4 none ∈ big := mb 421 rfl (by decide +kernel)
theorem kw422 : Cond.fieldLink "RuledCalendar$Reader" 114 "RuledCalendar$Part" "FREQ" "LRuledCalendar$Part;" ∈ big := mb 422 (by decide +kernel) (by decide +kernel)
theorem kw424 : Cond.methodLink "RuledCalendar$Reader" 118 ({ cls := "RuledCalendar$Reader", name := "readFrequency", desc := "()V" } : MethodName) ∈ big := mb 424 (by decide +kernel) (by decide +kernel)
theorem kw426 : Cond.instanceMethod ({ cls := "RuledCalendar$Reader", name := "readFrequency", desc := "()V" } : MethodName) ∈ big := mb 426 (by decide +kernel) (by decide +kernel)
set_option maxRecDepth 20000 in
theorem kw427 : Cond.code yX4_readFrequency cX4_readFrequency 3 none ∈ big := mb 427 rfl (by decide +kernel)
theorem kw430 : Cond.fieldLink "RuledCalendar$Reader" 121 "RuledCalendar$Part" "BYDAY" "LRuledCalendar$Part;" ∈ big := mb 430 (by decide +kernel) (by decide +kernel)
theorem kw432 : Cond.methodLink "RuledCalendar$Reader" 124 ({ cls := "RuledCalendar$Reader", name := "readWeekday", desc := "()V" } : MethodName) ∈ big := mb 432 (by decide +kernel) (by decide +kernel)
theorem kw434 : Cond.instanceMethod ({ cls := "RuledCalendar$Reader", name := "readWeekday", desc := "()V" } : MethodName) ∈ big := mb 434 (by decide +kernel) (by decide +kernel)
set_option maxRecDepth 20000 in
theorem kw435 : Cond.code yX4_readWeekday cX4_readWeekday 4 none ∈ big := mb 435 rfl (by decide +kernel)
theorem kw436 : Cond.methodLink "RuledCalendar$Reader" 158 ({ cls := "RuledCalendar$Reader", name := "seesFigure", desc := "()Z" } : MethodName) ∈ big := mb 436 (by decide +kernel) (by decide +kernel)
theorem kw438 : Cond.instanceMethod ({ cls := "RuledCalendar$Reader", name := "seesFigure", desc := "()Z" } : MethodName) ∈ big := mb 438 (by decide +kernel) (by decide +kernel)
set_option maxRecDepth 20000 in
theorem kw439 : Cond.code yX4_seesFigure cX4_seesFigure 1 (some .boolean) ∈ big := mb 439 rfl (by decide +kernel)
theorem kw440 : Cond.methodLink "RuledCalendar$Reader" 127 ({ cls := "RuledCalendar$Reader", name := "readNumber", desc := "(LRuledCalendar$Part;)I" } : MethodName) ∈ big := mb 440 (by decide +kernel) (by decide +kernel)
theorem kw442 : Cond.instanceMethod ({ cls := "RuledCalendar$Reader", name := "readNumber", desc := "(LRuledCalendar$Part;)I" } : MethodName) ∈ big := mb 442 (by decide +kernel) (by decide +kernel)
set_option maxRecDepth 20000 in
theorem kw443 : Cond.code yX4_readNumber cX4_readNumber 7 (some .int) ∈ big := mb 443 rfl (by decide +kernel)
theorem kw444 : Cond.constant "RuledCalendar$Reader" 161 100000000 ∈ big := mb 444 (by decide +kernel) (by decide +kernel)
theorem kw445 : Cond.methodLink "RuledCalendar$Reader" 162 ({ cls := "RuledCalendar$Part", name := "allows", desc := "(I)Z" } : MethodName) ∈ big := mb 445 (by decide +kernel) (by decide +kernel)
theorem kw446 : Cond.instanceMethod ({ cls := "RuledCalendar$Part", name := "allows", desc := "(I)Z" } : MethodName) ∈ big := mb 446 (by decide +kernel) (by decide +kernel)
theorem kw447 : Cond.selects "RuledCalendar$Part" ({ cls := "RuledCalendar$Part", name := "allows", desc := "(I)Z" } : MethodName) ({ cls := "RuledCalendar$Part", name := "allows", desc := "(I)Z" } : MethodName) ∈ big := mb 447 (by decide +kernel) (by decide +kernel)
set_option maxRecDepth 20000 in
theorem kw448 : Cond.code yX3_allows cX3_allows 2 (some .boolean) ∈ big := mb 448 rfl (by decide +kernel)
theorem kw449 : Cond.methodLink "RuledCalendar$Reader" 165 ({ cls := "RuledCalendar$Reader", name := "weekdayAt", desc := "(I)I" } : MethodName) ∈ big := mb 449 (by decide +kernel) (by decide +kernel)
theorem kw451 : Cond.instanceMethod ({ cls := "RuledCalendar$Reader", name := "weekdayAt", desc := "(I)I" } : MethodName) ∈ big := mb 451 (by decide +kernel) (by decide +kernel)
set_option maxRecDepth 20000 in
theorem kw452 : Cond.code yX4_weekdayAt cX4_weekdayAt 3 (some .int) ∈ big := mb 452 rfl (by decide +kernel)
theorem kw454 : Cond.methodLink "RuledCalendar$Reader" 168 ({ cls := "RuledCalendar$Rule", name := "addWeekday", desc := "(II)V" } : MethodName) ∈ big := mb 454 (by decide +kernel) (by decide +kernel)
theorem kw455 : Cond.instanceMethod ({ cls := "RuledCalendar$Rule", name := "addWeekday", desc := "(II)V" } : MethodName) ∈ big := mb 455 (by decide +kernel) (by decide +kernel)
theorem kw456 : Cond.selects "RuledCalendar$Rule" ({ cls := "RuledCalendar$Rule", name := "addWeekday", desc := "(II)V" } : MethodName) ({ cls := "RuledCalendar$Rule", name := "addWeekday", desc := "(II)V" } : MethodName) ∈ big := mb 456 (by decide +kernel) (by decide +kernel)
set_option maxRecDepth 20000 in
theorem kw457 : Cond.code yX5_addWeekday cX5_addWeekday 3 none ∈ big := mb 457 rfl (by decide +kernel)
theorem kw458 : Cond.fieldLink "RuledCalendar$Reader" 131 "RuledCalendar$Part" "UNTIL" "LRuledCalendar$Part;" ∈ big := mb 458 (by decide +kernel) (by decide +kernel)
theorem kw460 : Cond.methodLink "RuledCalendar$Reader" 134 ({ cls := "RuledCalendar$Days", name := "isDate", desc := "(I)Z" } : MethodName) ∈ big := mb 460 (by decide +kernel) (by decide +kernel)
theorem kw461 : Cond.methodLink "RuledCalendar$Reader" 140 ({ cls := "RuledCalendar$Rule", name := "addNumber", desc := "(LRuledCalendar$Part;I)V" } : MethodName) ∈ big := mb 461 (by decide +kernel) (by decide +kernel)
theorem kw462 : Cond.instanceMethod ({ cls := "RuledCalendar$Rule", name := "addNumber", desc := "(LRuledCalendar$Part;I)V" } : MethodName) ∈ big := mb 462 (by decide +kernel) (by decide +kernel)
theorem kw463 : Cond.selects "RuledCalendar$Rule" ({ cls := "RuledCalendar$Rule", name := "addNumber", desc := "(LRuledCalendar$Part;I)V" } : MethodName) ({ cls := "RuledCalendar$Rule", name := "addNumber", desc := "(LRuledCalendar$Part;I)V" } : MethodName) ∈ big := mb 463 (by decide +kernel) (by decide +kernel)
set_option maxRecDepth 20000 in
theorem kw464 : Cond.code yX5_addNumber cX5_addNumber 3 none ∈ big := mb 464 rfl (by decide +kernel)
theorem kw465 : Cond.fieldLink "RuledCalendar$Rule" 78 "RuledCalendar$Part" "INTERVAL" "LRuledCalendar$Part;" ∈ big := mb 465 (by decide +kernel) (by decide +kernel)
theorem kw467 : Cond.fieldLink "RuledCalendar$Rule" 82 "RuledCalendar$Part" "COUNT" "LRuledCalendar$Part;" ∈ big := mb 467 (by decide +kernel) (by decide +kernel)
theorem kw469 : Cond.fieldLink "RuledCalendar$Rule" 85 "RuledCalendar$Part" "UNTIL" "LRuledCalendar$Part;" ∈ big := mb 469 (by decide +kernel) (by decide +kernel)
theorem kw470 : Cond.fieldLink "RuledCalendar$Rule" 88 "RuledCalendar$Part" "BYMONTH" "LRuledCalendar$Part;" ∈ big := mb 470 (by decide +kernel) (by decide +kernel)
theorem kw472 : Cond.fieldLink "RuledCalendar$Rule" 91 "RuledCalendar$Part" "BYSETPOS" "LRuledCalendar$Part;" ∈ big := mb 472 (by decide +kernel) (by decide +kernel)
theorem kw474 : Cond.methodLink "RuledCalendar$Reader" 50 ({ cls := "RuledCalendar$Rule", name := "goesTogether", desc := "()Z" } : MethodName) ∈ big := mb 474 (by decide +kernel) (by decide +kernel)
theorem kw475 : Cond.instanceMethod ({ cls := "RuledCalendar$Rule", name := "goesTogether", desc := "()Z" } : MethodName) ∈ big := mb 475 (by decide +kernel) (by decide +kernel)
theorem kw476 : Cond.selects "RuledCalendar$Rule" ({ cls := "RuledCalendar$Rule", name := "goesTogether", desc := "()Z" } : MethodName) ({ cls := "RuledCalendar$Rule", name := "goesTogether", desc := "()Z" } : MethodName) ∈ big := mb 476 (by decide +kernel) (by decide +kernel)
set_option maxRecDepth 20000 in
theorem kw477 : Cond.code yX5_goesTogether cX5_goesTogether 1 (some .boolean) ∈ big := mb 477 rfl (by decide +kernel)
theorem kw478 : Cond.fieldLink "RuledCalendar$Rule" 94 "RuledCalendar$Part" "FREQ" "LRuledCalendar$Part;" ∈ big := mb 478 (by decide +kernel) (by decide +kernel)
theorem kw479 : Cond.methodLink "RuledCalendar$Rule" 97 ({ cls := "RuledCalendar$Rule", name := "has", desc := "(LRuledCalendar$Part;)Z" } : MethodName) ∈ big := mb 479 (by decide +kernel) (by decide +kernel)
theorem kw480 : Cond.fieldLink "RuledCalendar$Rule" 101 "RuledCalendar$Part" "BYMONTHDAY" "LRuledCalendar$Part;" ∈ big := mb 480 (by decide +kernel) (by decide +kernel)
theorem kw482 : Cond.fieldLink "RuledCalendar$Rule" 104 "RuledCalendar$Frequency" "WEEKLY" "LRuledCalendar$Frequency;" ∈ big := mb 482 (by decide +kernel) (by decide +kernel)
theorem kw484 : Cond.fieldLink "RuledCalendar$Rule" 111 "RuledCalendar$Part" "BYDAY" "LRuledCalendar$Part;" ∈ big := mb 484 (by decide +kernel) (by decide +kernel)
theorem kw518 : Cond.methodLink "RuledCalendar$Filler" 35 ({ cls := "java/lang/Math", name := "max", desc := "(II)I" } : MethodName) ∈ big := mb 518 (by decide +kernel) (by decide +kernel)
theorem kw519 : Cond.static ({ cls := "java/lang/Math", name := "max", desc := "(II)I" } : MethodName) ∈ big := mb 519 (by decide +kernel) (by decide +kernel)
theorem kw521 : Cond.methodLink "RuledCalendar$Filler" 46 ({ cls := "RuledCalendar$Days", name := "monthOf", desc := "(I)I" } : MethodName) ∈ big := mb 521 (by decide +kernel) (by decide +kernel)
theorem kw522 : Cond.methodLink "RuledCalendar$Filler" 52 ({ cls := "RuledCalendar$Days", name := "numberOf", desc := "(I)I" } : MethodName) ∈ big := mb 522 (by decide +kernel) (by decide +kernel)
theorem kw523 : Cond.instanceMethod ({ cls := "RuledCalendar$Days", name := "numberOf", desc := "(I)I" } : MethodName) ∈ big := mb 523 (by decide +kernel) (by decide +kernel)
theorem kw524 : Cond.selects "RuledCalendar$Days" ({ cls := "RuledCalendar$Days", name := "numberOf", desc := "(I)I" } : MethodName) ({ cls := "RuledCalendar$Days", name := "numberOf", desc := "(I)I" } : MethodName) ∈ big := mb 524 (by decide +kernel) (by decide +kernel)
set_option maxRecDepth 20000 in
theorem kw525 : Cond.code yX0_numberOf cX0_numberOf 2 (some .int) ∈ big := mb 525 rfl (by decide +kernel)
theorem kw526 : Cond.methodLink "RuledCalendar$Days" 32 ({ cls := "RuledCalendar$Days", name := "dayOf", desc := "(I)I" } : MethodName) ∈ big := mb 526 (by decide +kernel) (by decide +kernel)
theorem kw527 : Cond.static ({ cls := "RuledCalendar$Days", name := "dayOf", desc := "(I)I" } : MethodName) ∈ big := mb 527 (by decide +kernel) (by decide +kernel)
set_option maxRecDepth 20000 in
theorem kw528 : Cond.code yX0_dayOf cX0_dayOf 1 (some .int) ∈ big := mb 528 rfl (by decide +kernel)
theorem kw529 : Cond.methodLink "RuledCalendar$Filler" 55 ({ cls := "RuledCalendar$Frequency", name := "periodOf", desc := "(II)I" } : MethodName) ∈ big := mb 529 (by decide +kernel) (by decide +kernel)
theorem kw530 : Cond.instanceMethod ({ cls := "RuledCalendar$Frequency", name := "periodOf", desc := "(II)I" } : MethodName) ∈ big := mb 530 (by decide +kernel) (by decide +kernel)
theorem kw531 : Cond.selects "RuledCalendar$Frequency" ({ cls := "RuledCalendar$Frequency", name := "periodOf", desc := "(II)I" } : MethodName) ({ cls := "RuledCalendar$Frequency", name := "periodOf", desc := "(II)I" } : MethodName) ∈ big := mb 531 (by decide +kernel) (by decide +kernel)
set_option maxRecDepth 20000 in
theorem kw532 : Cond.code yX2_periodOf cX2_periodOf 3 (some .int) ∈ big := mb 532 rfl (by decide +kernel)
theorem kw533 : Cond.fieldLink "RuledCalendar$Frequency" 5 "RuledCalendar$Frequency" "DAILY" "LRuledCalendar$Frequency;" ∈ big := mb 533 (by decide +kernel) (by decide +kernel)
theorem kw534 : Cond.fieldLink "RuledCalendar$Frequency" 9 "RuledCalendar$Frequency" "WEEKLY" "LRuledCalendar$Frequency;" ∈ big := mb 534 (by decide +kernel) (by decide +kernel)
theorem kw535 : Cond.fieldLink "RuledCalendar$Frequency" 12 "RuledCalendar$Frequency" "MONTHLY" "LRuledCalendar$Frequency;" ∈ big := mb 535 (by decide +kernel) (by decide +kernel)
theorem kw537 : Cond.methodLink "RuledCalendar$Filler" 63 ({ cls := "RuledCalendar$Days", name := "januaryOf", desc := "(I)I" } : MethodName) ∈ big := mb 537 (by decide +kernel) (by decide +kernel)
theorem kw538 : Cond.static ({ cls := "RuledCalendar$Days", name := "januaryOf", desc := "(I)I" } : MethodName) ∈ big := mb 538 (by decide +kernel) (by decide +kernel)
set_option maxRecDepth 20000 in
theorem kw539 : Cond.code yX0_januaryOf cX0_januaryOf 1 (some .int) ∈ big := mb 539 rfl (by decide +kernel)
theorem kw540 : Cond.methodLink "RuledCalendar$Filler" 69 ({ cls := "java/lang/Math", name := "min", desc := "(II)I" } : MethodName) ∈ big := mb 540 (by decide +kernel) (by decide +kernel)
theorem kw541 : Cond.methodLink "RuledCalendar$Filler" 72 ({ cls := "RuledCalendar$Filler", name := "countedDays", desc := "(I)I" } : MethodName) ∈ big := mb 541 (by decide +kernel) (by decide +kernel)
theorem kw543 : Cond.instanceMethod ({ cls := "RuledCalendar$Filler", name := "countedDays", desc := "(I)I" } : MethodName) ∈ big := mb 543 (by decide +kernel) (by decide +kernel)
set_option maxRecDepth 20000 in
theorem kw544 : Cond.code yX1_countedDays cX1_countedDays 6 (some .int) ∈ big := mb 544 rfl (by decide +kernel)
theorem kw545 : Cond.methodLink "RuledCalendar$Filler" 99 ({ cls := "RuledCalendar$Filler", name := "counts", desc := "(II)Z" } : MethodName) ∈ big := mb 545 (by decide +kernel) (by decide +kernel)
theorem kw547 : Cond.instanceMethod ({ cls := "RuledCalendar$Filler", name := "counts", desc := "(II)Z" } : MethodName) ∈ big := mb 547 (by decide +kernel) (by decide +kernel)
set_option maxRecDepth 20000 in
theorem kw548 : Cond.code yX1_counts cX1_counts 3 (some .boolean) ∈ big := mb 548 rfl (by decide +kernel)
theorem kw549 : Cond.methodLink "RuledCalendar$Filler" 103 ({ cls := "RuledCalendar$Filler", name := "suitingDays", desc := "(I)I" } : MethodName) ∈ big := mb 549 (by decide +kernel) (by decide +kernel)
theorem kw551 : Cond.instanceMethod ({ cls := "RuledCalendar$Filler", name := "suitingDays", desc := "(I)I" } : MethodName) ∈ big := mb 551 (by decide +kernel) (by decide +kernel)
set_option maxRecDepth 20000 in
theorem kw552 : Cond.code yX1_suitingDays cX1_suitingDays 3 (some .int) ∈ big := mb 552 rfl (by decide +kernel)
theorem kw553 : Cond.methodLink "RuledCalendar$Filler" 106 ({ cls := "RuledCalendar$Filler", name := "monthSuits", desc := "(I)Z" } : MethodName) ∈ big := mb 553 (by decide +kernel) (by decide +kernel)
theorem kw555 : Cond.instanceMethod ({ cls := "RuledCalendar$Filler", name := "monthSuits", desc := "(I)Z" } : MethodName) ∈ big := mb 555 (by decide +kernel) (by decide +kernel)
set_option maxRecDepth 20000 in
theorem kw556 : Cond.code yX1_monthSuits cX1_monthSuits 3 (some .boolean) ∈ big := mb 556 rfl (by decide +kernel)
theorem kw557 : Cond.fieldLink "RuledCalendar$Filler" 120 "RuledCalendar$Part" "BYMONTH" "LRuledCalendar$Part;" ∈ big := mb 557 (by decide +kernel) (by decide +kernel)
theorem kw558 : Cond.methodLink "RuledCalendar$Filler" 81 ({ cls := "RuledCalendar$Rule", name := "has", desc := "(LRuledCalendar$Part;)Z" } : MethodName) ∈ big := mb 558 (by decide +kernel) (by decide +kernel)
theorem kw559 : Cond.fieldLink "RuledCalendar$Filler" 126 "RuledCalendar$Frequency" "YEARLY" "LRuledCalendar$Frequency;" ∈ big := mb 559 (by decide +kernel) (by decide +kernel)
theorem kw561 : Cond.fieldLink "RuledCalendar$Filler" 129 "RuledCalendar$Part" "BYMONTHDAY" "LRuledCalendar$Part;" ∈ big := mb 561 (by decide +kernel) (by decide +kernel)
theorem kw562 : Cond.fieldLink "RuledCalendar$Filler" 132 "RuledCalendar$Part" "BYDAY" "LRuledCalendar$Part;" ∈ big := mb 562 (by decide +kernel) (by decide +kernel)
theorem kw563 : Cond.constant "RuledCalendar$Filler" 110 2147483647 ∈ big := mb 563 (by decide +kernel) (by decide +kernel)
theorem kw564 : Cond.methodLink "RuledCalendar$Filler" 111 ({ cls := "RuledCalendar$Days", name := "lengthOf", desc := "(I)I" } : MethodName) ∈ big := mb 564 (by decide +kernel) (by decide +kernel)
theorem kw565 : Cond.methodLink "RuledCalendar$Filler" 114 ({ cls := "RuledCalendar$Filler", name := "byMonthDay", desc := "(I)I" } : MethodName) ∈ big := mb 565 (by decide +kernel) (by decide +kernel)
theorem kw567 : Cond.instanceMethod ({ cls := "RuledCalendar$Filler", name := "byMonthDay", desc := "(I)I" } : MethodName) ∈ big := mb 567 (by decide +kernel) (by decide +kernel)
set_option maxRecDepth 20000 in
theorem kw568 : Cond.code yX1_byMonthDay cX1_byMonthDay 3 (some .int) ∈ big := mb 568 rfl (by decide +kernel)
theorem kw569 : Cond.methodLink "RuledCalendar$Filler" 141 ({ cls := "RuledCalendar$Days", name := "dayOf", desc := "(I)I" } : MethodName) ∈ big := mb 569 (by decide +kernel) (by decide +kernel)
theorem kw570 : Cond.methodLink "RuledCalendar$Filler" 117 ({ cls := "RuledCalendar$Filler", name := "byWeekday", desc := "(I)I" } : MethodName) ∈ big := mb 570 (by decide +kernel) (by decide +kernel)
theorem kw572 : Cond.instanceMethod ({ cls := "RuledCalendar$Filler", name := "byWeekday", desc := "(I)I" } : MethodName) ∈ big := mb 572 (by decide +kernel) (by decide +kernel)
set_option maxRecDepth 20000 in
theorem kw573 : Cond.code yX1_byWeekday cX1_byWeekday 3 (some .int) ∈ big := mb 573 rfl (by decide +kernel)
theorem kw574 : Cond.methodLink "RuledCalendar$Filler" 147 ({ cls := "RuledCalendar$Filler", name := "numberedWeekdays", desc := "(I)I" } : MethodName) ∈ big := mb 574 (by decide +kernel) (by decide +kernel)
theorem kw576 : Cond.instanceMethod ({ cls := "RuledCalendar$Filler", name := "numberedWeekdays", desc := "(I)I" } : MethodName) ∈ big := mb 576 (by decide +kernel) (by decide +kernel)
set_option maxRecDepth 20000 in
theorem kw577 : Cond.code yX1_numberedWeekdays cX1_numberedWeekdays 10 (some .int) ∈ big := mb 577 rfl (by decide +kernel)
theorem kw578 : Cond.fieldLink "RuledCalendar$Filler" 158 "RuledCalendar$Frequency" "MONTHLY" "LRuledCalendar$Frequency;" ∈ big := mb 578 (by decide +kernel) (by decide +kernel)
theorem kw579 : Cond.methodLink "RuledCalendar$Filler" 152 ({ cls := "RuledCalendar$Filler", name := "plainWeekdays", desc := "(II)I" } : MethodName) ∈ big := mb 579 (by decide +kernel) (by decide +kernel)
theorem kw581 : Cond.instanceMethod ({ cls := "RuledCalendar$Filler", name := "plainWeekdays", desc := "(II)I" } : MethodName) ∈ big := mb 581 (by decide +kernel) (by decide +kernel)
set_option maxRecDepth 20000 in
theorem kw582 : Cond.code yX1_plainWeekdays cX1_plainWeekdays 6 (some .int) ∈ big := mb 582 rfl (by decide +kernel)
theorem kw583 : Cond.fieldLink "RuledCalendar$Filler" 155 "RuledCalendar$Frequency" "WEEKLY" "LRuledCalendar$Frequency;" ∈ big := mb 583 (by decide +kernel) (by decide +kernel)
theorem kw584 : Cond.fieldLink "RuledCalendar$Filler" 75 "RuledCalendar$Part" "BYSETPOS" "LRuledCalendar$Part;" ∈ big := mb 584 (by decide +kernel) (by decide +kernel)
theorem kw585 : Cond.methodLink "RuledCalendar$Filler" 85 ({ cls := "RuledCalendar$Filler", name := "choosePlaces", desc := "(II)V" } : MethodName) ∈ big := mb 585 (by decide +kernel) (by decide +kernel)
theorem kw587 : Cond.instanceMethod ({ cls := "RuledCalendar$Filler", name := "choosePlaces", desc := "(II)V" } : MethodName) ∈ big := mb 587 (by decide +kernel) (by decide +kernel)
set_option maxRecDepth 20000 in
theorem kw588 : Cond.code yX1_choosePlaces cX1_choosePlaces 9 none ∈ big := mb 588 rfl (by decide +kernel)
theorem kw589 : Cond.methodLink "RuledCalendar$Filler" 171 ({ cls := "java/lang/Integer", name := "bitCount", desc := "(I)I" } : MethodName) ∈ big := mb 589 (by decide +kernel) (by decide +kernel)
theorem kw590 : Cond.static ({ cls := "java/lang/Integer", name := "bitCount", desc := "(I)I" } : MethodName) ∈ big := mb 590 (by decide +kernel) (by decide +kernel)
set_option maxRecDepth 20000 in
theorem kw591 : Cond.code yJ6_bitCount_0f7a4 cJ6_bitCount_0f7a4 1 (some .int) ∈ big := mb 591 rfl (by decide +kernel)
theorem kw592 : Cond.constant "java/lang/Integer" 265 1431655765 ∈ big := mb 592 (by decide +kernel) (by decide +kernel)
theorem kw593 : Cond.constant "java/lang/Integer" 266 858993459 ∈ big := mb 593 (by decide +kernel) (by decide +kernel)
theorem kw594 : Cond.constant "java/lang/Integer" 267 252645135 ∈ big := mb 594 (by decide +kernel) (by decide +kernel)
theorem kw595 : Cond.methodLink "RuledCalendar$Filler" 176 ({ cls := "java/lang/Integer", name := "numberOfTrailingZeros", desc := "(I)I" } : MethodName) ∈ big := mb 595 (by decide +kernel) (by decide +kernel)
theorem kw596 : Cond.static ({ cls := "java/lang/Integer", name := "numberOfTrailingZeros", desc := "(I)I" } : MethodName) ∈ big := mb 596 (by decide +kernel) (by decide +kernel)
set_option maxRecDepth 20000 in
theorem kw597 : Cond.code yJ6_numberOfTrailingZeros_0f7a4 cJ6_numberOfTrailingZeros_0f7a4 2 (some .int) ∈ big := mb 597 rfl (by decide +kernel)
theorem kw598 : Cond.constant "java/lang/Integer" 264 65536 ∈ big := mb 598 (by decide +kernel) (by decide +kernel)
theorem kw599 : Cond.methodLink "RuledCalendar$Filler" 179 ({ cls := "RuledCalendar$Filler", name := "keepChosen", desc := "()V" } : MethodName) ∈ big := mb 599 (by decide +kernel) (by decide +kernel)
theorem kw601 : Cond.instanceMethod ({ cls := "RuledCalendar$Filler", name := "keepChosen", desc := "()V" } : MethodName) ∈ big := mb 601 (by decide +kernel) (by decide +kernel)
set_option maxRecDepth 20000 in
theorem kw602 : Cond.code yX1_keepChosen cX1_keepChosen 2 none ∈ big := mb 602 rfl (by decide +kernel)
theorem kw603 : Cond.methodLink "RuledCalendar$Filler" 185 ({ cls := "RuledCalendar$Rule", name := "isChosen", desc := "(II)Z" } : MethodName) ∈ big := mb 603 (by decide +kernel) (by decide +kernel)
theorem kw604 : Cond.instanceMethod ({ cls := "RuledCalendar$Rule", name := "isChosen", desc := "(II)Z" } : MethodName) ∈ big := mb 604 (by decide +kernel) (by decide +kernel)
theorem kw605 : Cond.selects "RuledCalendar$Rule" ({ cls := "RuledCalendar$Rule", name := "isChosen", desc := "(II)Z" } : MethodName) ({ cls := "RuledCalendar$Rule", name := "isChosen", desc := "(II)Z" } : MethodName) ∈ big := mb 605 (by decide +kernel) (by decide +kernel)
set_option maxRecDepth 20000 in
theorem kw606 : Cond.code yX5_isChosen cX5_isChosen 3 (some .boolean) ∈ big := mb 606 rfl (by decide +kernel)
theorem kw607 : Cond.methodLink "RuledCalendar$Filler" 182 ({ cls := "RuledCalendar$Filler", name := "gather", desc := "(II)V" } : MethodName) ∈ big := mb 607 (by decide +kernel) (by decide +kernel)
theorem kw609 : Cond.instanceMethod ({ cls := "RuledCalendar$Filler", name := "gather", desc := "(II)V" } : MethodName) ∈ big := mb 609 (by decide +kernel) (by decide +kernel)
set_option maxRecDepth 20000 in
theorem kw610 : Cond.code yX1_gather cX1_gather 3 none ∈ big := mb 610 rfl (by decide +kernel)
theorem kw611 : Cond.methodLink "RuledCalendar$Filler" 89 ({ cls := "RuledCalendar$Filler", name := "cutEnds", desc := "(II)V" } : MethodName) ∈ big := mb 611 (by decide +kernel) (by decide +kernel)
theorem kw613 : Cond.instanceMethod ({ cls := "RuledCalendar$Filler", name := "cutEnds", desc := "(II)V" } : MethodName) ∈ big := mb 613 (by decide +kernel) (by decide +kernel)
set_option maxRecDepth 20000 in
theorem kw614 : Cond.code yX1_cutEnds cX1_cutEnds 9 none ∈ big := mb 614 rfl (by decide +kernel)
theorem kw615 : Cond.methodLink "RuledCalendar$Filler" 191 ({ cls := "RuledCalendar$Days", name := "between", desc := "(III)I" } : MethodName) ∈ big := mb 615 (by decide +kernel) (by decide +kernel)
theorem kw616 : Cond.static ({ cls := "RuledCalendar$Days", name := "between", desc := "(III)I" } : MethodName) ∈ big := mb 616 (by decide +kernel) (by decide +kernel)
set_option maxRecDepth 20000 in
theorem kw617 : Cond.code yX0_between cX0_between 4 (some .int) ∈ big := mb 617 rfl (by decide +kernel)
theorem kw618 : Cond.constant "RuledCalendar$Days" 31 2147483647 ∈ big := mb 618 (by decide +kernel) (by decide +kernel)
theorem kw619 : Cond.methodLink "RuledCalendar$Filler" 195 ({ cls := "RuledCalendar$Days", name := "lowest", desc := "(II)I" } : MethodName) ∈ big := mb 619 (by decide +kernel) (by decide +kernel)
theorem kw620 : Cond.static ({ cls := "RuledCalendar$Days", name := "lowest", desc := "(II)I" } : MethodName) ∈ big := mb 620 (by decide +kernel) (by decide +kernel)
set_option maxRecDepth 20000 in
theorem kw621 : Cond.code yX0_lowest cX0_lowest 4 (some .int) ∈ big := mb 621 rfl (by decide +kernel)
theorem kw691 : Cond.static ({ cls := "RuledCalendar$Days", name := "dateAt", desc := "(II)I" } : MethodName) ∈ big := mb 691 (by decide +kernel) (by decide +kernel)
set_option maxRecDepth 20000 in
theorem kw692 : Cond.code yX0_dateAt cX0_dateAt 2 (some .int) ∈ big := mb 692 rfl (by decide +kernel)
theorem kw765 : Cond.methodLink "RuledCalendar$Days" 35 ({ cls := "RuledCalendar$Days", name := "dateAt", desc := "(II)I" } : MethodName) ∈ big := mb 765 (by decide +kernel) (by decide +kernel)
theorem kw1072 : Cond.fieldLink "RuledCalendar$Reader" 106 "RuledCalendar$Part" "word" "Ljava/lang/String;" ∈ big := mb 1072 (by decide +kernel) (by decide +kernel)
theorem kw1073 : Cond.fieldLink "java/lang/String" 9 "java/lang/String" "value" "[B" ∈ big := mb 1073 (by decide +kernel) (by decide +kernel)
theorem kw1074 : Cond.fieldLink "java/lang/String" 15 "java/lang/String" "coder" "B" ∈ big := mb 1074 (by decide +kernel) (by decide +kernel)
theorem kw1075 : Cond.fieldLink "RuledCalendar$Rule" 73 "RuledCalendar$Part" "bit" "I" ∈ big := mb 1075 (by decide +kernel) (by decide +kernel)
theorem kw1076 : Cond.fieldLink "RuledCalendar$Reader" 89 "RuledCalendar$Part" "bit" "I" ∈ big := mb 1076 (by decide +kernel) (by decide +kernel)
theorem kw1077 : Cond.fieldLink "RuledCalendar$Reader" 148 "RuledCalendar$Frequency" "word" "Ljava/lang/String;" ∈ big := mb 1077 (by decide +kernel) (by decide +kernel)
theorem kw1078 : Cond.fieldLink "RuledCalendar$Reader" 155 "RuledCalendar$Part" "low" "I" ∈ big := mb 1078 (by decide +kernel) (by decide +kernel)
theorem kw1079 : Cond.fieldLink "RuledCalendar$Part" 61 "RuledCalendar$Part" "low" "I" ∈ big := mb 1079 (by decide +kernel) (by decide +kernel)
theorem kw1080 : Cond.fieldLink "RuledCalendar$Part" 64 "RuledCalendar$Part" "high" "I" ∈ big := mb 1080 (by decide +kernel) (by decide +kernel)
theorem kw1081 : Cond.fieldLink "RuledCalendar$Reader" 98 "RuledCalendar$Part" "isList" "Z" ∈ big := mb 1081 (by decide +kernel) (by decide +kernel)
theorem kw1082 : Cond.fieldLink "RuledCalendar$Rule" 107 "RuledCalendar$Frequency" "wholeMonths" "Z" ∈ big := mb 1082 (by decide +kernel) (by decide +kernel)
theorem kw1083 : Cond.fieldLink "RuledCalendar$Filler" 95 "RuledCalendar$Frequency" "wholeMonths" "Z" ∈ big := mb 1083 (by decide +kernel) (by decide +kernel)
theorem ks_yX1_byMonthDay : Cond.selects RX1 yX1_byMonthDay yX1_byMonthDay ∈ big := mbs (by decide +kernel) (by decide +kernel)
theorem ks_yX1_byWeekday : Cond.selects RX1 yX1_byWeekday yX1_byWeekday ∈ big := mbs (by decide +kernel) (by decide +kernel)
theorem ks_yX1_choosePlaces : Cond.selects RX1 yX1_choosePlaces yX1_choosePlaces ∈ big := mbs (by decide +kernel) (by decide +kernel)
theorem ks_yX1_countedDays : Cond.selects RX1 yX1_countedDays yX1_countedDays ∈ big := mbs (by decide +kernel) (by decide +kernel)
theorem ks_yX1_counts : Cond.selects RX1 yX1_counts yX1_counts ∈ big := mbs (by decide +kernel) (by decide +kernel)
theorem ks_yX1_cutEnds : Cond.selects RX1 yX1_cutEnds yX1_cutEnds ∈ big := mbs (by decide +kernel) (by decide +kernel)
theorem ks_yX1_gather : Cond.selects RX1 yX1_gather yX1_gather ∈ big := mbs (by decide +kernel) (by decide +kernel)
theorem ks_yX1_keepChosen : Cond.selects RX1 yX1_keepChosen yX1_keepChosen ∈ big := mbs (by decide +kernel) (by decide +kernel)
theorem ks_yX1_monthSuits : Cond.selects RX1 yX1_monthSuits yX1_monthSuits ∈ big := mbs (by decide +kernel) (by decide +kernel)
theorem ks_yX1_numberedWeekdays : Cond.selects RX1 yX1_numberedWeekdays yX1_numberedWeekdays ∈ big := mbs (by decide +kernel) (by decide +kernel)
theorem ks_yX1_plainWeekdays : Cond.selects RX1 yX1_plainWeekdays yX1_plainWeekdays ∈ big := mbs (by decide +kernel) (by decide +kernel)
theorem ks_yX1_suitingDays : Cond.selects RX1 yX1_suitingDays yX1_suitingDays ∈ big := mbs (by decide +kernel) (by decide +kernel)
theorem ks_yX4_fail : Cond.selects RX4 yX4_fail yX4_fail ∈ big := mbs (by decide +kernel) (by decide +kernel)
theorem ks_yX4_isWord : Cond.selects RX4 yX4_isWord yX4_isWord ∈ big := mbs (by decide +kernel) (by decide +kernel)
theorem ks_yX4_partNamed : Cond.selects RX4 yX4_partNamed yX4_partNamed ∈ big := mbs (by decide +kernel) (by decide +kernel)
theorem ks_yX4_readFrequency : Cond.selects RX4 yX4_readFrequency yX4_readFrequency ∈ big := mbs (by decide +kernel) (by decide +kernel)
theorem ks_yX4_readNumber : Cond.selects RX4 yX4_readNumber yX4_readNumber ∈ big := mbs (by decide +kernel) (by decide +kernel)
theorem ks_yX4_readPart : Cond.selects RX4 yX4_readPart yX4_readPart ∈ big := mbs (by decide +kernel) (by decide +kernel)
theorem ks_yX4_readValue : Cond.selects RX4 yX4_readValue yX4_readValue ∈ big := mbs (by decide +kernel) (by decide +kernel)
theorem ks_yX4_readWeekday : Cond.selects RX4 yX4_readWeekday yX4_readWeekday ∈ big := mbs (by decide +kernel) (by decide +kernel)
theorem ks_yX4_sees : Cond.selects RX4 yX4_sees yX4_sees ∈ big := mbs (by decide +kernel) (by decide +kernel)
theorem ks_yX4_seesFigure : Cond.selects RX4 yX4_seesFigure yX4_seesFigure ∈ big := mbs (by decide +kernel) (by decide +kernel)
theorem ks_yX4_seesLetter : Cond.selects RX4 yX4_seesLetter yX4_seesLetter ∈ big := mbs (by decide +kernel) (by decide +kernel)
theorem ks_yX4_take : Cond.selects RX4 yX4_take yX4_take ∈ big := mbs (by decide +kernel) (by decide +kernel)
theorem ks_yX4_takeLetters : Cond.selects RX4 yX4_takeLetters yX4_takeLetters ∈ big := mbs (by decide +kernel) (by decide +kernel)
theorem ks_yX4_weekdayAt : Cond.selects RX4 yX4_weekdayAt yX4_weekdayAt ∈ big := mbs (by decide +kernel) (by decide +kernel)
theorem ks_yX5_forget : Cond.selects RX5 yX5_forget yX5_forget ∈ big := mbs (by decide +kernel) (by decide +kernel)
set_option maxRecDepth 20000 in
theorem kMin : Cond.code Lib.Math.min.name Lib.Math.min.code 2 (some .int) ∈ big := mb 330 rfl (by decide +kernel)
set_option maxRecDepth 20000 in
theorem kMax : Cond.code Lib.Math.max.name Lib.Math.max.code 2 (some .int) ∈ big := mb 520 rfl (by decide +kernel)
abbrev Pc4 : Type := (Nat → Int32) × (Nat → Nat → Int32) × (Nat → Nat → Int64) × (Nat → Nat)
def s4S (q : Pc4) (k : Nat) (v : Int32) : Pc4 := (upd q.1 k v, q.2.1, q.2.2.1, q.2.2.2)
def s4F (q : Pc4) (k : Nat) (f : Nat → Int32) : Pc4 := (q.1, va_up q.2.1 k f, q.2.2.1, q.2.2.2)
def s4A (q : Pc4) (k : Nat) (i v : Int32) : Pc4 := s4F q k (upd (q.2.1 k) i.toNatClampNeg v)
def s4G (q : Pc4) (k : Nat) (f : Nat → Int64) : Pc4 := (q.1, q.2.1, va_up q.2.2.1 k f, q.2.2.2)
def s4L (q : Pc4) (k : Nat) (i : Int32) (v : Int64) : Pc4 := s4G q k (vp_updL (q.2.2.1 k) i.toNatClampNeg v)
def s4I (q : Pc4) (k v : Nat) : Pc4 := (q.1, q.2.1, q.2.2.1, va_up q.2.2.2 k v)
abbrev r4S (q : Pc4) (k : Nat) : Int32 := q.1 k
abbrev r4A (q : Pc4) (k : Nat) (i : Int32) : Int32 := q.2.1 k i.toNatClampNeg
abbrev r4L (q : Pc4) (k : Nat) (i : Int32) : Int64 := q.2.2.1 k i.toNatClampNeg
abbrev r4I (q : Pc4) (k : Nat) : Nat := q.2.2.2 k
def thF (a : Nat → Nat) (q : Pc4) : Nat → Option Nat := fun k => if q.2.1 15 k = 0 then none else some (a (100 + 4 * k))
def wC0 (G : Ev) (a : Nat → Nat) (q : Pc4) : va_W := [(a 0, .inr (5, [.ref (a 1), .int (q.1 0), .ref (a 2), .ref (a 4), .ref (a 8), .ref (a 9), .ref (a 11), .ref (a 12), .int (q.1 1), .ref (a 13)])), (a 1, .inl (cA G 1, 200, .inl (q.2.1 1))), (a 2, .inr (0, [.ref (a 3)])), (a 3, .inl (cA G 2, 3601, .inl (q.2.1 3))), (a 4, .inr (3, [.int (q.1 2), .ref (sa G (20 + q.2.2.2 2)), .int (q.1 3), .int (q.1 4), .int (q.1 5), .int (q.1 6), .int (q.1 7), .int (q.1 8), .int (q.1 9), .int (q.1 10), .ref (a 5), .ref (a 6), .ref (a 7)])), (a 5, .inl (cA G 3, 7, .inr (.inl (q.2.2.1 5)))), (a 6, .inl (cA G 3, 7, .inr (.inl (q.2.2.1 6)))), (a 7, .inl (cA G 0, 733, .inl (q.2.1 7))), (a 8, .inr (2, [.ref (a 4), .ref (a (q.2.2.2 0)), .int (q.1 11), .int (q.1 12), .int (q.1 13), .int (q.1 14)])), (a 9, .inr (1, [.ref (a 2), .ref (a 4), .ref (a (q.2.2.2 1)), .int (q.1 15), .int (q.1 16), .int (q.1 17), .ref (a 10), .int (q.1 18)])), (a 10, .inl (cA G 2, 366, .inl (q.2.1 10))), (a 11, .inl (cA G 5, 12, .inr (.inr (.inr (.inr (thF a q)))))), (a 12, .inl (cA G 3, 300, .inr (.inl (q.2.2.1 12)))), (a 13, .inl (cA G 2, 4, .inl (q.2.1 13)))]
def wC (G : Ev) (a : Nat → Nat) (T : va_W) (q : Pc4) : va_W := wC0 G a q ++ T
def cRow (G : Ev) (f : Nat → Int32) : va_E := .inl (cA G 2, 3600, .inl f)
def wF (G : Ev) (a : Nat → Nat) (ρ : Nat) (T : va_W) (q : Pc4) : va_W := wC0 G a q ++ ((a ρ, cRow G (q.2.1 14)) :: T)
theorem dC {A : Nat → Prop} {G : Ev} {a : Nat → Nat} {T : va_W} {q q1 : Pc4} (h : va_D A (wC G a T q)) : va_D A (wC G a T q1) := va_D_same (ws := wC G a T q) rfl h
theorem dF {A : Nat → Prop} {G : Ev} {a : Nat → Nat} {ρ : Nat} {T : va_W} {q q1 : Pc4} (h : va_D A (wF G a ρ T q)) : va_D A (wF G a ρ T q1) := va_D_same (ws := wF G a ρ T q) rfl h
def gl {α : Type} (x N : Nat) (f : Option α) : Option α := if x < N then f else none
theorem gl_s {α : Type} {x N : Nat} {f : Option α} {r : α} (h : gl x N f = some r) : x < N ∧ f = some r := by
  unfold gl at h
  by_cases c : x < N
  · rw [if_pos c] at h; exact ⟨c, h⟩
  · rw [if_neg c] at h; cases h
def ge {α : Type} (x y : Nat) (f : Option α) : Option α := if x = y then f else none
theorem ge_s {α : Type} {x y : Nat} {f : Option α} {r : α} (h : ge x y f = some r) : x = y ∧ f = some r := by
  unfold ge at h
  by_cases c : x = y
  · rw [if_pos c] at h; exact ⟨c, h⟩
  · rw [if_neg c] at h; cases h
def oc {α β : Type} (o : Option α) (x : Option β) (f : α → Option β) : Option β := match o with | none => x | some y => f y
section
variable {p : Program} {l : Launch} {e : Env} {R : Room} {s : State} {m : MethodId} {args : Array Value} {below : List Frame} {meth : Method} {c : Code} {H : Heap} {locs : List Loc} {cells slots : Nat} {Q : State → Prop} {cc : ByteArray} {nL : Nat} {rt : Option FieldType} {c0 : Cond} {G : Ev} {pc : Nat} {ls : Array Slot} {rest : List Value} {A : Nat → Prop} {a : Nat → Nat} {q : Pc4} {T : va_W} {own : String} {idx : Nat}
theorem inX7_u : ∀ w ∈ u_ws RX7 TX7 10, w ∈ c0 :: big := by
  have h : ∀ w ∈ u_ws RX7 TX7 10, w ∈ tables_1 ∧ goodWord w = true := by decide +kernel
  intro w hw
  exact List.mem_cons_of_mem _ (List.mem_filter.mpr ⟨List.mem_append_right _ (h w hw).1, (h w hw).2⟩)
theorem inX0_u : ∀ w ∈ u_ws RX0 TX0 1, w ∈ c0 :: big := by
  have h : ∀ w ∈ u_ws RX0 TX0 1, w ∈ tables_1 ∧ goodWord w = true := by decide +kernel
  intro w hw
  exact List.mem_cons_of_mem _ (List.mem_filter.mpr ⟨List.mem_append_right _ (h w hw).1, (h w hw).2⟩)
theorem inX5_u : ∀ w ∈ u_ws RX5 TX5 13, w ∈ c0 :: big := by
  have h : ∀ w ∈ u_ws RX5 TX5 13, w ∈ tables_1 ∧ goodWord w = true := by decide +kernel
  intro w hw
  exact List.mem_cons_of_mem _ (List.mem_filter.mpr ⟨List.mem_append_right _ (h w hw).1, (h w hw).2⟩)
theorem inX4_u : ∀ w ∈ u_ws RX4 TX4 6, w ∈ c0 :: big := by
  have h : ∀ w ∈ u_ws RX4 TX4 6, w ∈ tables_1 ∧ goodWord w = true := by decide +kernel
  intro w hw
  exact List.mem_cons_of_mem _ (List.mem_filter.mpr ⟨List.mem_append_right _ (h w hw).1, (h w hw).2⟩)
theorem inX1_u : ∀ w ∈ u_ws RX1 TX1 8, w ∈ c0 :: big := by
  have h : ∀ w ∈ u_ws RX1 TX1 8, w ∈ tables_1 ∧ goodWord w = true := by decide +kernel
  intro w hw
  exact List.mem_cons_of_mem _ (List.mem_filter.mpr ⟨List.mem_append_right _ (h w hw).1, (h w hw).2⟩)
theorem inX6_u : ∀ w ∈ u_ws RX6 TX6 4, w ∈ c0 :: big := by
  have h : ∀ w ∈ u_ws RX6 TX6 4, w ∈ tables_1 ∧ goodWord w = true := by decide +kernel
  intro w hw
  exact List.mem_cons_of_mem _ (List.mem_filter.mpr ⟨List.mem_append_right _ (h w hw).1, (h w hw).2⟩)
theorem gC_cal_text (X : CX p s m args meth c cc nL rt own c0 G A) (hk : Cond.fieldLink own idx "RuledCalendar" "text" "[C" ∈ big) (hP : va_P (DD G) vwCl (wC0 G a q ++ T) H) (hdg : decode cc pc = .ok (.getfield idx, 3)) (kk : W p l e R s m args below meth c H locs cells slots Q (F0 m (pc + 3) ls (.ref (a 1) :: rest))) : W p l e R s m args below meth c H locs cells slots Q (F0 m pc ls (.ref (a 0) :: rest)) :=
  va_get (D := DD G) (ci := 5) (v := .ref (a 1)) (C := RX7) (T := TX7) (N := 10) X.1.1 X.1.2.1 X.1.2.2.2.2 inX7_u X.1.2.2.2.1 X.2.1 hP 0 rfl rfl 0 (by decide) (X.1.2.2.2.2 _ (List.mem_cons_of_mem _ hk)) (fun _ h => h) rfl hdg kk
theorem gC_cal_textLength (X : CX p s m args meth c cc nL rt own c0 G A) (hk : Cond.fieldLink own idx "RuledCalendar" "textLength" "I" ∈ big) (hP : va_P (DD G) vwCl (wC0 G a q ++ T) H) (hdg : decode cc pc = .ok (.getfield idx, 3)) (kk : W p l e R s m args below meth c H locs cells slots Q (F0 m (pc + 3) ls (.int (q.1 0) :: rest))) : W p l e R s m args below meth c H locs cells slots Q (F0 m pc ls (.ref (a 0) :: rest)) :=
  va_get (D := DD G) (ci := 5) (v := .int (q.1 0)) (C := RX7) (T := TX7) (N := 10) X.1.1 X.1.2.1 X.1.2.2.2.2 inX7_u X.1.2.2.2.1 X.2.1 hP 0 rfl rfl 1 (by decide) (X.1.2.2.2.2 _ (List.mem_cons_of_mem _ hk)) (fun _ h => h) rfl hdg kk
theorem pC_cal_textLength (X : CX p s m args meth c cc nL rt own c0 G A) (hk : Cond.fieldLink own idx "RuledCalendar" "textLength" "I" ∈ big) {v : Int32} (hP : va_P (DD G) vwCl (wC0 G a q ++ T) H) (hD : va_D A (wC0 G a q ++ T)) (hS : va_S A s.heap H locs) (hdg : decode cc pc = .ok (.putfield idx, 3)) (kk : ∀ (H1 : Heap) (locs1 : List Loc), va_P (DD G) vwCl (wC0 G a (s4S q 0 v) ++ T) H1 → va_S A s.heap H1 locs1 → W p l e R s m args below meth c H1 locs1 cells slots Q (F0 m (pc + 3) ls rest)) : W p l e R s m args below meth c H locs cells slots Q (F0 m pc ls (.int v :: .ref (a 0) :: rest)) :=
  va_put (D := DD G) (ci := 5) (v := .int v) (ty := .int) (C := RX7) (T := TX7) (N := 10) X.1.1 X.1.2.1 X.1.2.2.2.2 inX7_u tyX7 tyX7_ok nmX7 X.1.2.2.2.1 X.2.1 hP hD hS 0 rfl rfl 1 (by decide) (X.1.2.2.2.2 _ (List.mem_cons_of_mem _ hk)) (fun _ h => h) rfl (by decide +kernel) rfl rfl (Nat.le_of_ble_eq_true rfl) hdg (fun H1 locs1 hP1 _ hS1 => kk H1 locs1 hP1 hS1)
theorem gC_cal_dayTable (X : CX p s m args meth c cc nL rt own c0 G A) (hk : Cond.fieldLink own idx "RuledCalendar" "dayTable" "LRuledCalendar$Days;" ∈ big) (hP : va_P (DD G) vwCl (wC0 G a q ++ T) H) (hdg : decode cc pc = .ok (.getfield idx, 3)) (kk : W p l e R s m args below meth c H locs cells slots Q (F0 m (pc + 3) ls (.ref (a 2) :: rest))) : W p l e R s m args below meth c H locs cells slots Q (F0 m pc ls (.ref (a 0) :: rest)) :=
  va_get (D := DD G) (ci := 5) (v := .ref (a 2)) (C := RX7) (T := TX7) (N := 10) X.1.1 X.1.2.1 X.1.2.2.2.2 inX7_u X.1.2.2.2.1 X.2.1 hP 0 rfl rfl 2 (by decide) (X.1.2.2.2.2 _ (List.mem_cons_of_mem _ hk)) (fun _ h => h) rfl hdg kk
theorem gC_cal_rule (X : CX p s m args meth c cc nL rt own c0 G A) (hk : Cond.fieldLink own idx "RuledCalendar" "rule" "LRuledCalendar$Rule;" ∈ big) (hP : va_P (DD G) vwCl (wC0 G a q ++ T) H) (hdg : decode cc pc = .ok (.getfield idx, 3)) (kk : W p l e R s m args below meth c H locs cells slots Q (F0 m (pc + 3) ls (.ref (a 4) :: rest))) : W p l e R s m args below meth c H locs cells slots Q (F0 m pc ls (.ref (a 0) :: rest)) :=
  va_get (D := DD G) (ci := 5) (v := .ref (a 4)) (C := RX7) (T := TX7) (N := 10) X.1.1 X.1.2.1 X.1.2.2.2.2 inX7_u X.1.2.2.2.1 X.2.1 hP 0 rfl rfl 3 (by decide) (X.1.2.2.2.2 _ (List.mem_cons_of_mem _ hk)) (fun _ h => h) rfl hdg kk
theorem gC_cal_reader (X : CX p s m args meth c cc nL rt own c0 G A) (hk : Cond.fieldLink own idx "RuledCalendar" "reader" "LRuledCalendar$Reader;" ∈ big) (hP : va_P (DD G) vwCl (wC0 G a q ++ T) H) (hdg : decode cc pc = .ok (.getfield idx, 3)) (kk : W p l e R s m args below meth c H locs cells slots Q (F0 m (pc + 3) ls (.ref (a 8) :: rest))) : W p l e R s m args below meth c H locs cells slots Q (F0 m pc ls (.ref (a 0) :: rest)) :=
  va_get (D := DD G) (ci := 5) (v := .ref (a 8)) (C := RX7) (T := TX7) (N := 10) X.1.1 X.1.2.1 X.1.2.2.2.2 inX7_u X.1.2.2.2.1 X.2.1 hP 0 rfl rfl 4 (by decide) (X.1.2.2.2.2 _ (List.mem_cons_of_mem _ hk)) (fun _ h => h) rfl hdg kk
theorem gC_cal_filler (X : CX p s m args meth c cc nL rt own c0 G A) (hk : Cond.fieldLink own idx "RuledCalendar" "filler" "LRuledCalendar$Filler;" ∈ big) (hP : va_P (DD G) vwCl (wC0 G a q ++ T) H) (hdg : decode cc pc = .ok (.getfield idx, 3)) (kk : W p l e R s m args below meth c H locs cells slots Q (F0 m (pc + 3) ls (.ref (a 9) :: rest))) : W p l e R s m args below meth c H locs cells slots Q (F0 m pc ls (.ref (a 0) :: rest)) :=
  va_get (D := DD G) (ci := 5) (v := .ref (a 9)) (C := RX7) (T := TX7) (N := 10) X.1.1 X.1.2.1 X.1.2.2.2.2 inX7_u X.1.2.2.2.1 X.2.1 hP 0 rfl rfl 5 (by decide) (X.1.2.2.2.2 _ (List.mem_cons_of_mem _ hk)) (fun _ h => h) rfl hdg kk
theorem gC_cal_things (X : CX p s m args meth c cc nL rt own c0 G A) (hk : Cond.fieldLink own idx "RuledCalendar" "things" "[LRuledCalendar$Thing;" ∈ big) (hP : va_P (DD G) vwCl (wC0 G a q ++ T) H) (hdg : decode cc pc = .ok (.getfield idx, 3)) (kk : W p l e R s m args below meth c H locs cells slots Q (F0 m (pc + 3) ls (.ref (a 11) :: rest))) : W p l e R s m args below meth c H locs cells slots Q (F0 m pc ls (.ref (a 0) :: rest)) :=
  va_get (D := DD G) (ci := 5) (v := .ref (a 11)) (C := RX7) (T := TX7) (N := 10) X.1.1 X.1.2.1 X.1.2.2.2.2 inX7_u X.1.2.2.2.1 X.2.1 hP 0 rfl rfl 6 (by decide) (X.1.2.2.2.2 _ (List.mem_cons_of_mem _ hk)) (fun _ h => h) rfl hdg kk
theorem gC_cal_listed (X : CX p s m args meth c cc nL rt own c0 G A) (hk : Cond.fieldLink own idx "RuledCalendar" "listed" "[J" ∈ big) (hP : va_P (DD G) vwCl (wC0 G a q ++ T) H) (hdg : decode cc pc = .ok (.getfield idx, 3)) (kk : W p l e R s m args below meth c H locs cells slots Q (F0 m (pc + 3) ls (.ref (a 12) :: rest))) : W p l e R s m args below meth c H locs cells slots Q (F0 m pc ls (.ref (a 0) :: rest)) :=
  va_get (D := DD G) (ci := 5) (v := .ref (a 12)) (C := RX7) (T := TX7) (N := 10) X.1.1 X.1.2.1 X.1.2.2.2.2 inX7_u X.1.2.2.2.1 X.2.1 hP 0 rfl rfl 7 (by decide) (X.1.2.2.2.2 _ (List.mem_cons_of_mem _ hk)) (fun _ h => h) rfl hdg kk
theorem gC_cal_listedCount (X : CX p s m args meth c cc nL rt own c0 G A) (hk : Cond.fieldLink own idx "RuledCalendar" "listedCount" "I" ∈ big) (hP : va_P (DD G) vwCl (wC0 G a q ++ T) H) (hdg : decode cc pc = .ok (.getfield idx, 3)) (kk : W p l e R s m args below meth c H locs cells slots Q (F0 m (pc + 3) ls (.int (q.1 1) :: rest))) : W p l e R s m args below meth c H locs cells slots Q (F0 m pc ls (.ref (a 0) :: rest)) :=
  va_get (D := DD G) (ci := 5) (v := .int (q.1 1)) (C := RX7) (T := TX7) (N := 10) X.1.1 X.1.2.1 X.1.2.2.2.2 inX7_u X.1.2.2.2.1 X.2.1 hP 0 rfl rfl 8 (by decide) (X.1.2.2.2.2 _ (List.mem_cons_of_mem _ hk)) (fun _ h => h) rfl hdg kk
theorem pC_cal_listedCount (X : CX p s m args meth c cc nL rt own c0 G A) (hk : Cond.fieldLink own idx "RuledCalendar" "listedCount" "I" ∈ big) {v : Int32} (hP : va_P (DD G) vwCl (wC0 G a q ++ T) H) (hD : va_D A (wC0 G a q ++ T)) (hS : va_S A s.heap H locs) (hdg : decode cc pc = .ok (.putfield idx, 3)) (kk : ∀ (H1 : Heap) (locs1 : List Loc), va_P (DD G) vwCl (wC0 G a (s4S q 1 v) ++ T) H1 → va_S A s.heap H1 locs1 → W p l e R s m args below meth c H1 locs1 cells slots Q (F0 m (pc + 3) ls rest)) : W p l e R s m args below meth c H locs cells slots Q (F0 m pc ls (.int v :: .ref (a 0) :: rest)) :=
  va_put (D := DD G) (ci := 5) (v := .int v) (ty := .int) (C := RX7) (T := TX7) (N := 10) X.1.1 X.1.2.1 X.1.2.2.2.2 inX7_u tyX7 tyX7_ok nmX7 X.1.2.2.2.1 X.2.1 hP hD hS 0 rfl rfl 8 (by decide) (X.1.2.2.2.2 _ (List.mem_cons_of_mem _ hk)) (fun _ h => h) rfl (by decide +kernel) rfl rfl (Nat.le_of_ble_eq_true rfl) hdg (fun H1 locs1 hP1 _ hS1 => kk H1 locs1 hP1 hS1)
theorem gC_cal_counts (X : CX p s m args meth c cc nL rt own c0 G A) (hk : Cond.fieldLink own idx "RuledCalendar" "counts" "[I" ∈ big) (hP : va_P (DD G) vwCl (wC0 G a q ++ T) H) (hdg : decode cc pc = .ok (.getfield idx, 3)) (kk : W p l e R s m args below meth c H locs cells slots Q (F0 m (pc + 3) ls (.ref (a 13) :: rest))) : W p l e R s m args below meth c H locs cells slots Q (F0 m pc ls (.ref (a 0) :: rest)) :=
  va_get (D := DD G) (ci := 5) (v := .ref (a 13)) (C := RX7) (T := TX7) (N := 10) X.1.1 X.1.2.1 X.1.2.2.2.2 inX7_u X.1.2.2.2.1 X.2.1 hP 0 rfl rfl 9 (by decide) (X.1.2.2.2.2 _ (List.mem_cons_of_mem _ hk)) (fun _ h => h) rfl hdg kk
theorem gC_days_first (X : CX p s m args meth c cc nL rt own c0 G A) (hk : Cond.fieldLink own idx "RuledCalendar$Days" "first" "[I" ∈ big) (hP : va_P (DD G) vwCl (wC0 G a q ++ T) H) (hdg : decode cc pc = .ok (.getfield idx, 3)) (kk : W p l e R s m args below meth c H locs cells slots Q (F0 m (pc + 3) ls (.ref (a 3) :: rest))) : W p l e R s m args below meth c H locs cells slots Q (F0 m pc ls (.ref (a 2) :: rest)) :=
  va_get (D := DD G) (ci := 0) (v := .ref (a 3)) (C := RX0) (T := TX0) (N := 1) X.1.1 X.1.2.1 X.1.2.2.2.2 inX0_u X.1.2.2.2.1 X.2.1 hP 2 rfl rfl 0 (by decide) (X.1.2.2.2.2 _ (List.mem_cons_of_mem _ hk)) (fun _ h => h) rfl hdg kk
theorem gC_rule_present (X : CX p s m args meth c cc nL rt own c0 G A) (hk : Cond.fieldLink own idx "RuledCalendar$Rule" "present" "I" ∈ big) (hP : va_P (DD G) vwCl (wC0 G a q ++ T) H) (hdg : decode cc pc = .ok (.getfield idx, 3)) (kk : W p l e R s m args below meth c H locs cells slots Q (F0 m (pc + 3) ls (.int (q.1 2) :: rest))) : W p l e R s m args below meth c H locs cells slots Q (F0 m pc ls (.ref (a 4) :: rest)) :=
  va_get (D := DD G) (ci := 3) (v := .int (q.1 2)) (C := RX5) (T := TX5) (N := 13) X.1.1 X.1.2.1 X.1.2.2.2.2 inX5_u X.1.2.2.2.1 X.2.1 hP 4 rfl rfl 0 (by decide) (X.1.2.2.2.2 _ (List.mem_cons_of_mem _ hk)) (fun _ h => h) rfl hdg kk
theorem pC_rule_present (X : CX p s m args meth c cc nL rt own c0 G A) (hk : Cond.fieldLink own idx "RuledCalendar$Rule" "present" "I" ∈ big) {v : Int32} (hP : va_P (DD G) vwCl (wC0 G a q ++ T) H) (hD : va_D A (wC0 G a q ++ T)) (hS : va_S A s.heap H locs) (hdg : decode cc pc = .ok (.putfield idx, 3)) (kk : ∀ (H1 : Heap) (locs1 : List Loc), va_P (DD G) vwCl (wC0 G a (s4S q 2 v) ++ T) H1 → va_S A s.heap H1 locs1 → W p l e R s m args below meth c H1 locs1 cells slots Q (F0 m (pc + 3) ls rest)) : W p l e R s m args below meth c H locs cells slots Q (F0 m pc ls (.int v :: .ref (a 4) :: rest)) :=
  va_put (D := DD G) (ci := 3) (v := .int v) (ty := .int) (C := RX5) (T := TX5) (N := 13) X.1.1 X.1.2.1 X.1.2.2.2.2 inX5_u tyX5 tyX5_ok nmX5 X.1.2.2.2.1 X.2.1 hP hD hS 4 rfl rfl 0 (by decide) (X.1.2.2.2.2 _ (List.mem_cons_of_mem _ hk)) (fun _ h => h) rfl (by decide +kernel) rfl rfl (Nat.le_of_ble_eq_true rfl) hdg (fun H1 locs1 hP1 _ hS1 => kk H1 locs1 hP1 hS1)
theorem gC_rule_frequency (X : CX p s m args meth c cc nL rt own c0 G A) (hk : Cond.fieldLink own idx "RuledCalendar$Rule" "frequency" "LRuledCalendar$Frequency;" ∈ big) (hP : va_P (DD G) vwCl (wC0 G a q ++ T) H) (hdg : decode cc pc = .ok (.getfield idx, 3)) (kk : W p l e R s m args below meth c H locs cells slots Q (F0 m (pc + 3) ls (.ref (sa G (20 + q.2.2.2 2)) :: rest))) : W p l e R s m args below meth c H locs cells slots Q (F0 m pc ls (.ref (a 4) :: rest)) :=
  va_get (D := DD G) (ci := 3) (v := .ref (sa G (20 + q.2.2.2 2))) (C := RX5) (T := TX5) (N := 13) X.1.1 X.1.2.1 X.1.2.2.2.2 inX5_u X.1.2.2.2.1 X.2.1 hP 4 rfl rfl 1 (by decide) (X.1.2.2.2.2 _ (List.mem_cons_of_mem _ hk)) (fun _ h => h) rfl hdg kk
theorem pC_rule_frequency (X : CX p s m args meth c cc nL rt own c0 G A) (hk : Cond.fieldLink own idx "RuledCalendar$Rule" "frequency" "LRuledCalendar$Frequency;" ∈ big) {v : Nat} (hP : va_P (DD G) vwCl (wC0 G a q ++ T) H) (hD : va_D A (wC0 G a q ++ T)) (hS : va_S A s.heap H locs) (hdg : decode cc pc = .ok (.putfield idx, 3)) (kk : ∀ (H1 : Heap) (locs1 : List Loc), va_P (DD G) vwCl (wC0 G a (s4I q 2 v) ++ T) H1 → va_S A s.heap H1 locs1 → W p l e R s m args below meth c H1 locs1 cells slots Q (F0 m (pc + 3) ls rest)) : W p l e R s m args below meth c H locs cells slots Q (F0 m pc ls (.ref (sa G (20 + v)) :: .ref (a 4) :: rest)) :=
  va_put (D := DD G) (ci := 3) (v := .ref (sa G (20 + v))) (ty := .object "RuledCalendar$Frequency") (C := RX5) (T := TX5) (N := 13) X.1.1 X.1.2.1 X.1.2.2.2.2 inX5_u tyX5 tyX5_ok nmX5 X.1.2.2.2.1 X.2.1 hP hD hS 4 rfl rfl 1 (by decide) (X.1.2.2.2.2 _ (List.mem_cons_of_mem _ hk)) (fun _ h => h) rfl (by decide +kernel) rfl rfl (Nat.le_of_ble_eq_true rfl) hdg (fun H1 locs1 hP1 _ hS1 => kk H1 locs1 hP1 hS1)
theorem gC_rule_interval (X : CX p s m args meth c cc nL rt own c0 G A) (hk : Cond.fieldLink own idx "RuledCalendar$Rule" "interval" "I" ∈ big) (hP : va_P (DD G) vwCl (wC0 G a q ++ T) H) (hdg : decode cc pc = .ok (.getfield idx, 3)) (kk : W p l e R s m args below meth c H locs cells slots Q (F0 m (pc + 3) ls (.int (q.1 3) :: rest))) : W p l e R s m args below meth c H locs cells slots Q (F0 m pc ls (.ref (a 4) :: rest)) :=
  va_get (D := DD G) (ci := 3) (v := .int (q.1 3)) (C := RX5) (T := TX5) (N := 13) X.1.1 X.1.2.1 X.1.2.2.2.2 inX5_u X.1.2.2.2.1 X.2.1 hP 4 rfl rfl 2 (by decide) (X.1.2.2.2.2 _ (List.mem_cons_of_mem _ hk)) (fun _ h => h) rfl hdg kk
theorem pC_rule_interval (X : CX p s m args meth c cc nL rt own c0 G A) (hk : Cond.fieldLink own idx "RuledCalendar$Rule" "interval" "I" ∈ big) {v : Int32} (hP : va_P (DD G) vwCl (wC0 G a q ++ T) H) (hD : va_D A (wC0 G a q ++ T)) (hS : va_S A s.heap H locs) (hdg : decode cc pc = .ok (.putfield idx, 3)) (kk : ∀ (H1 : Heap) (locs1 : List Loc), va_P (DD G) vwCl (wC0 G a (s4S q 3 v) ++ T) H1 → va_S A s.heap H1 locs1 → W p l e R s m args below meth c H1 locs1 cells slots Q (F0 m (pc + 3) ls rest)) : W p l e R s m args below meth c H locs cells slots Q (F0 m pc ls (.int v :: .ref (a 4) :: rest)) :=
  va_put (D := DD G) (ci := 3) (v := .int v) (ty := .int) (C := RX5) (T := TX5) (N := 13) X.1.1 X.1.2.1 X.1.2.2.2.2 inX5_u tyX5 tyX5_ok nmX5 X.1.2.2.2.1 X.2.1 hP hD hS 4 rfl rfl 2 (by decide) (X.1.2.2.2.2 _ (List.mem_cons_of_mem _ hk)) (fun _ h => h) rfl (by decide +kernel) rfl rfl (Nat.le_of_ble_eq_true rfl) hdg (fun H1 locs1 hP1 _ hS1 => kk H1 locs1 hP1 hS1)
theorem gC_rule_count (X : CX p s m args meth c cc nL rt own c0 G A) (hk : Cond.fieldLink own idx "RuledCalendar$Rule" "count" "I" ∈ big) (hP : va_P (DD G) vwCl (wC0 G a q ++ T) H) (hdg : decode cc pc = .ok (.getfield idx, 3)) (kk : W p l e R s m args below meth c H locs cells slots Q (F0 m (pc + 3) ls (.int (q.1 4) :: rest))) : W p l e R s m args below meth c H locs cells slots Q (F0 m pc ls (.ref (a 4) :: rest)) :=
  va_get (D := DD G) (ci := 3) (v := .int (q.1 4)) (C := RX5) (T := TX5) (N := 13) X.1.1 X.1.2.1 X.1.2.2.2.2 inX5_u X.1.2.2.2.1 X.2.1 hP 4 rfl rfl 3 (by decide) (X.1.2.2.2.2 _ (List.mem_cons_of_mem _ hk)) (fun _ h => h) rfl hdg kk
theorem pC_rule_count (X : CX p s m args meth c cc nL rt own c0 G A) (hk : Cond.fieldLink own idx "RuledCalendar$Rule" "count" "I" ∈ big) {v : Int32} (hP : va_P (DD G) vwCl (wC0 G a q ++ T) H) (hD : va_D A (wC0 G a q ++ T)) (hS : va_S A s.heap H locs) (hdg : decode cc pc = .ok (.putfield idx, 3)) (kk : ∀ (H1 : Heap) (locs1 : List Loc), va_P (DD G) vwCl (wC0 G a (s4S q 4 v) ++ T) H1 → va_S A s.heap H1 locs1 → W p l e R s m args below meth c H1 locs1 cells slots Q (F0 m (pc + 3) ls rest)) : W p l e R s m args below meth c H locs cells slots Q (F0 m pc ls (.int v :: .ref (a 4) :: rest)) :=
  va_put (D := DD G) (ci := 3) (v := .int v) (ty := .int) (C := RX5) (T := TX5) (N := 13) X.1.1 X.1.2.1 X.1.2.2.2.2 inX5_u tyX5 tyX5_ok nmX5 X.1.2.2.2.1 X.2.1 hP hD hS 4 rfl rfl 3 (by decide) (X.1.2.2.2.2 _ (List.mem_cons_of_mem _ hk)) (fun _ h => h) rfl (by decide +kernel) rfl rfl (Nat.le_of_ble_eq_true rfl) hdg (fun H1 locs1 hP1 _ hS1 => kk H1 locs1 hP1 hS1)
theorem gC_rule_until (X : CX p s m args meth c cc nL rt own c0 G A) (hk : Cond.fieldLink own idx "RuledCalendar$Rule" "until" "I" ∈ big) (hP : va_P (DD G) vwCl (wC0 G a q ++ T) H) (hdg : decode cc pc = .ok (.getfield idx, 3)) (kk : W p l e R s m args below meth c H locs cells slots Q (F0 m (pc + 3) ls (.int (q.1 5) :: rest))) : W p l e R s m args below meth c H locs cells slots Q (F0 m pc ls (.ref (a 4) :: rest)) :=
  va_get (D := DD G) (ci := 3) (v := .int (q.1 5)) (C := RX5) (T := TX5) (N := 13) X.1.1 X.1.2.1 X.1.2.2.2.2 inX5_u X.1.2.2.2.1 X.2.1 hP 4 rfl rfl 4 (by decide) (X.1.2.2.2.2 _ (List.mem_cons_of_mem _ hk)) (fun _ h => h) rfl hdg kk
theorem pC_rule_until (X : CX p s m args meth c cc nL rt own c0 G A) (hk : Cond.fieldLink own idx "RuledCalendar$Rule" "until" "I" ∈ big) {v : Int32} (hP : va_P (DD G) vwCl (wC0 G a q ++ T) H) (hD : va_D A (wC0 G a q ++ T)) (hS : va_S A s.heap H locs) (hdg : decode cc pc = .ok (.putfield idx, 3)) (kk : ∀ (H1 : Heap) (locs1 : List Loc), va_P (DD G) vwCl (wC0 G a (s4S q 5 v) ++ T) H1 → va_S A s.heap H1 locs1 → W p l e R s m args below meth c H1 locs1 cells slots Q (F0 m (pc + 3) ls rest)) : W p l e R s m args below meth c H locs cells slots Q (F0 m pc ls (.int v :: .ref (a 4) :: rest)) :=
  va_put (D := DD G) (ci := 3) (v := .int v) (ty := .int) (C := RX5) (T := TX5) (N := 13) X.1.1 X.1.2.1 X.1.2.2.2.2 inX5_u tyX5 tyX5_ok nmX5 X.1.2.2.2.1 X.2.1 hP hD hS 4 rfl rfl 4 (by decide) (X.1.2.2.2.2 _ (List.mem_cons_of_mem _ hk)) (fun _ h => h) rfl (by decide +kernel) rfl rfl (Nat.le_of_ble_eq_true rfl) hdg (fun H1 locs1 hP1 _ hS1 => kk H1 locs1 hP1 hS1)
theorem gC_rule_months (X : CX p s m args meth c cc nL rt own c0 G A) (hk : Cond.fieldLink own idx "RuledCalendar$Rule" "months" "I" ∈ big) (hP : va_P (DD G) vwCl (wC0 G a q ++ T) H) (hdg : decode cc pc = .ok (.getfield idx, 3)) (kk : W p l e R s m args below meth c H locs cells slots Q (F0 m (pc + 3) ls (.int (q.1 6) :: rest))) : W p l e R s m args below meth c H locs cells slots Q (F0 m pc ls (.ref (a 4) :: rest)) :=
  va_get (D := DD G) (ci := 3) (v := .int (q.1 6)) (C := RX5) (T := TX5) (N := 13) X.1.1 X.1.2.1 X.1.2.2.2.2 inX5_u X.1.2.2.2.1 X.2.1 hP 4 rfl rfl 5 (by decide) (X.1.2.2.2.2 _ (List.mem_cons_of_mem _ hk)) (fun _ h => h) rfl hdg kk
theorem pC_rule_months (X : CX p s m args meth c cc nL rt own c0 G A) (hk : Cond.fieldLink own idx "RuledCalendar$Rule" "months" "I" ∈ big) {v : Int32} (hP : va_P (DD G) vwCl (wC0 G a q ++ T) H) (hD : va_D A (wC0 G a q ++ T)) (hS : va_S A s.heap H locs) (hdg : decode cc pc = .ok (.putfield idx, 3)) (kk : ∀ (H1 : Heap) (locs1 : List Loc), va_P (DD G) vwCl (wC0 G a (s4S q 6 v) ++ T) H1 → va_S A s.heap H1 locs1 → W p l e R s m args below meth c H1 locs1 cells slots Q (F0 m (pc + 3) ls rest)) : W p l e R s m args below meth c H locs cells slots Q (F0 m pc ls (.int v :: .ref (a 4) :: rest)) :=
  va_put (D := DD G) (ci := 3) (v := .int v) (ty := .int) (C := RX5) (T := TX5) (N := 13) X.1.1 X.1.2.1 X.1.2.2.2.2 inX5_u tyX5 tyX5_ok nmX5 X.1.2.2.2.1 X.2.1 hP hD hS 4 rfl rfl 5 (by decide) (X.1.2.2.2.2 _ (List.mem_cons_of_mem _ hk)) (fun _ h => h) rfl (by decide +kernel) rfl rfl (Nat.le_of_ble_eq_true rfl) hdg (fun H1 locs1 hP1 _ hS1 => kk H1 locs1 hP1 hS1)
theorem gC_rule_monthDays (X : CX p s m args meth c cc nL rt own c0 G A) (hk : Cond.fieldLink own idx "RuledCalendar$Rule" "monthDays" "I" ∈ big) (hP : va_P (DD G) vwCl (wC0 G a q ++ T) H) (hdg : decode cc pc = .ok (.getfield idx, 3)) (kk : W p l e R s m args below meth c H locs cells slots Q (F0 m (pc + 3) ls (.int (q.1 7) :: rest))) : W p l e R s m args below meth c H locs cells slots Q (F0 m pc ls (.ref (a 4) :: rest)) :=
  va_get (D := DD G) (ci := 3) (v := .int (q.1 7)) (C := RX5) (T := TX5) (N := 13) X.1.1 X.1.2.1 X.1.2.2.2.2 inX5_u X.1.2.2.2.1 X.2.1 hP 4 rfl rfl 6 (by decide) (X.1.2.2.2.2 _ (List.mem_cons_of_mem _ hk)) (fun _ h => h) rfl hdg kk
theorem pC_rule_monthDays (X : CX p s m args meth c cc nL rt own c0 G A) (hk : Cond.fieldLink own idx "RuledCalendar$Rule" "monthDays" "I" ∈ big) {v : Int32} (hP : va_P (DD G) vwCl (wC0 G a q ++ T) H) (hD : va_D A (wC0 G a q ++ T)) (hS : va_S A s.heap H locs) (hdg : decode cc pc = .ok (.putfield idx, 3)) (kk : ∀ (H1 : Heap) (locs1 : List Loc), va_P (DD G) vwCl (wC0 G a (s4S q 7 v) ++ T) H1 → va_S A s.heap H1 locs1 → W p l e R s m args below meth c H1 locs1 cells slots Q (F0 m (pc + 3) ls rest)) : W p l e R s m args below meth c H locs cells slots Q (F0 m pc ls (.int v :: .ref (a 4) :: rest)) :=
  va_put (D := DD G) (ci := 3) (v := .int v) (ty := .int) (C := RX5) (T := TX5) (N := 13) X.1.1 X.1.2.1 X.1.2.2.2.2 inX5_u tyX5 tyX5_ok nmX5 X.1.2.2.2.1 X.2.1 hP hD hS 4 rfl rfl 6 (by decide) (X.1.2.2.2.2 _ (List.mem_cons_of_mem _ hk)) (fun _ h => h) rfl (by decide +kernel) rfl rfl (Nat.le_of_ble_eq_true rfl) hdg (fun H1 locs1 hP1 _ hS1 => kk H1 locs1 hP1 hS1)
theorem gC_rule_monthDaysFromEnd (X : CX p s m args meth c cc nL rt own c0 G A) (hk : Cond.fieldLink own idx "RuledCalendar$Rule" "monthDaysFromEnd" "I" ∈ big) (hP : va_P (DD G) vwCl (wC0 G a q ++ T) H) (hdg : decode cc pc = .ok (.getfield idx, 3)) (kk : W p l e R s m args below meth c H locs cells slots Q (F0 m (pc + 3) ls (.int (q.1 8) :: rest))) : W p l e R s m args below meth c H locs cells slots Q (F0 m pc ls (.ref (a 4) :: rest)) :=
  va_get (D := DD G) (ci := 3) (v := .int (q.1 8)) (C := RX5) (T := TX5) (N := 13) X.1.1 X.1.2.1 X.1.2.2.2.2 inX5_u X.1.2.2.2.1 X.2.1 hP 4 rfl rfl 7 (by decide) (X.1.2.2.2.2 _ (List.mem_cons_of_mem _ hk)) (fun _ h => h) rfl hdg kk
theorem pC_rule_monthDaysFromEnd (X : CX p s m args meth c cc nL rt own c0 G A) (hk : Cond.fieldLink own idx "RuledCalendar$Rule" "monthDaysFromEnd" "I" ∈ big) {v : Int32} (hP : va_P (DD G) vwCl (wC0 G a q ++ T) H) (hD : va_D A (wC0 G a q ++ T)) (hS : va_S A s.heap H locs) (hdg : decode cc pc = .ok (.putfield idx, 3)) (kk : ∀ (H1 : Heap) (locs1 : List Loc), va_P (DD G) vwCl (wC0 G a (s4S q 8 v) ++ T) H1 → va_S A s.heap H1 locs1 → W p l e R s m args below meth c H1 locs1 cells slots Q (F0 m (pc + 3) ls rest)) : W p l e R s m args below meth c H locs cells slots Q (F0 m pc ls (.int v :: .ref (a 4) :: rest)) :=
  va_put (D := DD G) (ci := 3) (v := .int v) (ty := .int) (C := RX5) (T := TX5) (N := 13) X.1.1 X.1.2.1 X.1.2.2.2.2 inX5_u tyX5 tyX5_ok nmX5 X.1.2.2.2.1 X.2.1 hP hD hS 4 rfl rfl 7 (by decide) (X.1.2.2.2.2 _ (List.mem_cons_of_mem _ hk)) (fun _ h => h) rfl (by decide +kernel) rfl rfl (Nat.le_of_ble_eq_true rfl) hdg (fun H1 locs1 hP1 _ hS1 => kk H1 locs1 hP1 hS1)
theorem gC_rule_weekdays (X : CX p s m args meth c cc nL rt own c0 G A) (hk : Cond.fieldLink own idx "RuledCalendar$Rule" "weekdays" "I" ∈ big) (hP : va_P (DD G) vwCl (wC0 G a q ++ T) H) (hdg : decode cc pc = .ok (.getfield idx, 3)) (kk : W p l e R s m args below meth c H locs cells slots Q (F0 m (pc + 3) ls (.int (q.1 9) :: rest))) : W p l e R s m args below meth c H locs cells slots Q (F0 m pc ls (.ref (a 4) :: rest)) :=
  va_get (D := DD G) (ci := 3) (v := .int (q.1 9)) (C := RX5) (T := TX5) (N := 13) X.1.1 X.1.2.1 X.1.2.2.2.2 inX5_u X.1.2.2.2.1 X.2.1 hP 4 rfl rfl 8 (by decide) (X.1.2.2.2.2 _ (List.mem_cons_of_mem _ hk)) (fun _ h => h) rfl hdg kk
theorem pC_rule_weekdays (X : CX p s m args meth c cc nL rt own c0 G A) (hk : Cond.fieldLink own idx "RuledCalendar$Rule" "weekdays" "I" ∈ big) {v : Int32} (hP : va_P (DD G) vwCl (wC0 G a q ++ T) H) (hD : va_D A (wC0 G a q ++ T)) (hS : va_S A s.heap H locs) (hdg : decode cc pc = .ok (.putfield idx, 3)) (kk : ∀ (H1 : Heap) (locs1 : List Loc), va_P (DD G) vwCl (wC0 G a (s4S q 9 v) ++ T) H1 → va_S A s.heap H1 locs1 → W p l e R s m args below meth c H1 locs1 cells slots Q (F0 m (pc + 3) ls rest)) : W p l e R s m args below meth c H locs cells slots Q (F0 m pc ls (.int v :: .ref (a 4) :: rest)) :=
  va_put (D := DD G) (ci := 3) (v := .int v) (ty := .int) (C := RX5) (T := TX5) (N := 13) X.1.1 X.1.2.1 X.1.2.2.2.2 inX5_u tyX5 tyX5_ok nmX5 X.1.2.2.2.1 X.2.1 hP hD hS 4 rfl rfl 8 (by decide) (X.1.2.2.2.2 _ (List.mem_cons_of_mem _ hk)) (fun _ h => h) rfl (by decide +kernel) rfl rfl (Nat.le_of_ble_eq_true rfl) hdg (fun H1 locs1 hP1 _ hS1 => kk H1 locs1 hP1 hS1)
theorem gC_rule_numberedWeekdays (X : CX p s m args meth c cc nL rt own c0 G A) (hk : Cond.fieldLink own idx "RuledCalendar$Rule" "numberedWeekdays" "I" ∈ big) (hP : va_P (DD G) vwCl (wC0 G a q ++ T) H) (hdg : decode cc pc = .ok (.getfield idx, 3)) (kk : W p l e R s m args below meth c H locs cells slots Q (F0 m (pc + 3) ls (.int (q.1 10) :: rest))) : W p l e R s m args below meth c H locs cells slots Q (F0 m pc ls (.ref (a 4) :: rest)) :=
  va_get (D := DD G) (ci := 3) (v := .int (q.1 10)) (C := RX5) (T := TX5) (N := 13) X.1.1 X.1.2.1 X.1.2.2.2.2 inX5_u X.1.2.2.2.1 X.2.1 hP 4 rfl rfl 9 (by decide) (X.1.2.2.2.2 _ (List.mem_cons_of_mem _ hk)) (fun _ h => h) rfl hdg kk
theorem pC_rule_numberedWeekdays (X : CX p s m args meth c cc nL rt own c0 G A) (hk : Cond.fieldLink own idx "RuledCalendar$Rule" "numberedWeekdays" "I" ∈ big) {v : Int32} (hP : va_P (DD G) vwCl (wC0 G a q ++ T) H) (hD : va_D A (wC0 G a q ++ T)) (hS : va_S A s.heap H locs) (hdg : decode cc pc = .ok (.putfield idx, 3)) (kk : ∀ (H1 : Heap) (locs1 : List Loc), va_P (DD G) vwCl (wC0 G a (s4S q 10 v) ++ T) H1 → va_S A s.heap H1 locs1 → W p l e R s m args below meth c H1 locs1 cells slots Q (F0 m (pc + 3) ls rest)) : W p l e R s m args below meth c H locs cells slots Q (F0 m pc ls (.int v :: .ref (a 4) :: rest)) :=
  va_put (D := DD G) (ci := 3) (v := .int v) (ty := .int) (C := RX5) (T := TX5) (N := 13) X.1.1 X.1.2.1 X.1.2.2.2.2 inX5_u tyX5 tyX5_ok nmX5 X.1.2.2.2.1 X.2.1 hP hD hS 4 rfl rfl 9 (by decide) (X.1.2.2.2.2 _ (List.mem_cons_of_mem _ hk)) (fun _ h => h) rfl (by decide +kernel) rfl rfl (Nat.le_of_ble_eq_true rfl) hdg (fun H1 locs1 hP1 _ hS1 => kk H1 locs1 hP1 hS1)
theorem gC_rule_numbers (X : CX p s m args meth c cc nL rt own c0 G A) (hk : Cond.fieldLink own idx "RuledCalendar$Rule" "numbers" "[J" ∈ big) (hP : va_P (DD G) vwCl (wC0 G a q ++ T) H) (hdg : decode cc pc = .ok (.getfield idx, 3)) (kk : W p l e R s m args below meth c H locs cells slots Q (F0 m (pc + 3) ls (.ref (a 5) :: rest))) : W p l e R s m args below meth c H locs cells slots Q (F0 m pc ls (.ref (a 4) :: rest)) :=
  va_get (D := DD G) (ci := 3) (v := .ref (a 5)) (C := RX5) (T := TX5) (N := 13) X.1.1 X.1.2.1 X.1.2.2.2.2 inX5_u X.1.2.2.2.1 X.2.1 hP 4 rfl rfl 10 (by decide) (X.1.2.2.2.2 _ (List.mem_cons_of_mem _ hk)) (fun _ h => h) rfl hdg kk
theorem gC_rule_numbersFromEnd (X : CX p s m args meth c cc nL rt own c0 G A) (hk : Cond.fieldLink own idx "RuledCalendar$Rule" "numbersFromEnd" "[J" ∈ big) (hP : va_P (DD G) vwCl (wC0 G a q ++ T) H) (hdg : decode cc pc = .ok (.getfield idx, 3)) (kk : W p l e R s m args below meth c H locs cells slots Q (F0 m (pc + 3) ls (.ref (a 6) :: rest))) : W p l e R s m args below meth c H locs cells slots Q (F0 m pc ls (.ref (a 4) :: rest)) :=
  va_get (D := DD G) (ci := 3) (v := .ref (a 6)) (C := RX5) (T := TX5) (N := 13) X.1.1 X.1.2.1 X.1.2.2.2.2 inX5_u X.1.2.2.2.1 X.2.1 hP 4 rfl rfl 11 (by decide) (X.1.2.2.2.2 _ (List.mem_cons_of_mem _ hk)) (fun _ h => h) rfl hdg kk
theorem gC_rule_places (X : CX p s m args meth c cc nL rt own c0 G A) (hk : Cond.fieldLink own idx "RuledCalendar$Rule" "places" "[B" ∈ big) (hP : va_P (DD G) vwCl (wC0 G a q ++ T) H) (hdg : decode cc pc = .ok (.getfield idx, 3)) (kk : W p l e R s m args below meth c H locs cells slots Q (F0 m (pc + 3) ls (.ref (a 7) :: rest))) : W p l e R s m args below meth c H locs cells slots Q (F0 m pc ls (.ref (a 4) :: rest)) :=
  va_get (D := DD G) (ci := 3) (v := .ref (a 7)) (C := RX5) (T := TX5) (N := 13) X.1.1 X.1.2.1 X.1.2.2.2.2 inX5_u X.1.2.2.2.1 X.2.1 hP 4 rfl rfl 12 (by decide) (X.1.2.2.2.2 _ (List.mem_cons_of_mem _ hk)) (fun _ h => h) rfl hdg kk
theorem gC_reader_rule (X : CX p s m args meth c cc nL rt own c0 G A) (hk : Cond.fieldLink own idx "RuledCalendar$Reader" "rule" "LRuledCalendar$Rule;" ∈ big) (hP : va_P (DD G) vwCl (wC0 G a q ++ T) H) (hdg : decode cc pc = .ok (.getfield idx, 3)) (kk : W p l e R s m args below meth c H locs cells slots Q (F0 m (pc + 3) ls (.ref (a 4) :: rest))) : W p l e R s m args below meth c H locs cells slots Q (F0 m pc ls (.ref (a 8) :: rest)) :=
  va_get (D := DD G) (ci := 2) (v := .ref (a 4)) (C := RX4) (T := TX4) (N := 6) X.1.1 X.1.2.1 X.1.2.2.2.2 inX4_u X.1.2.2.2.1 X.2.1 hP 8 rfl rfl 0 (by decide) (X.1.2.2.2.2 _ (List.mem_cons_of_mem _ hk)) (fun _ h => h) rfl hdg kk
theorem gC_reader_text (X : CX p s m args meth c cc nL rt own c0 G A) (hk : Cond.fieldLink own idx "RuledCalendar$Reader" "text" "[C" ∈ big) (hP : va_P (DD G) vwCl (wC0 G a q ++ T) H) (hdg : decode cc pc = .ok (.getfield idx, 3)) (kk : W p l e R s m args below meth c H locs cells slots Q (F0 m (pc + 3) ls (.ref (a (q.2.2.2 0)) :: rest))) : W p l e R s m args below meth c H locs cells slots Q (F0 m pc ls (.ref (a 8) :: rest)) :=
  va_get (D := DD G) (ci := 2) (v := .ref (a (q.2.2.2 0))) (C := RX4) (T := TX4) (N := 6) X.1.1 X.1.2.1 X.1.2.2.2.2 inX4_u X.1.2.2.2.1 X.2.1 hP 8 rfl rfl 1 (by decide) (X.1.2.2.2.2 _ (List.mem_cons_of_mem _ hk)) (fun _ h => h) rfl hdg kk
theorem pC_reader_text (X : CX p s m args meth c cc nL rt own c0 G A) (hk : Cond.fieldLink own idx "RuledCalendar$Reader" "text" "[C" ∈ big) {v : Nat} (hP : va_P (DD G) vwCl (wC0 G a q ++ T) H) (hD : va_D A (wC0 G a q ++ T)) (hS : va_S A s.heap H locs) (hdg : decode cc pc = .ok (.putfield idx, 3)) (kk : ∀ (H1 : Heap) (locs1 : List Loc), va_P (DD G) vwCl (wC0 G a (s4I q 0 v) ++ T) H1 → va_S A s.heap H1 locs1 → W p l e R s m args below meth c H1 locs1 cells slots Q (F0 m (pc + 3) ls rest)) : W p l e R s m args below meth c H locs cells slots Q (F0 m pc ls (.ref (a v) :: .ref (a 8) :: rest)) :=
  va_put (D := DD G) (ci := 2) (v := .ref (a v)) (ty := .array .char) (C := RX4) (T := TX4) (N := 6) X.1.1 X.1.2.1 X.1.2.2.2.2 inX4_u tyX4 tyX4_ok nmX4 X.1.2.2.2.1 X.2.1 hP hD hS 8 rfl rfl 1 (by decide) (X.1.2.2.2.2 _ (List.mem_cons_of_mem _ hk)) (fun _ h => h) rfl (by decide +kernel) rfl rfl (Nat.le_of_ble_eq_true rfl) hdg (fun H1 locs1 hP1 _ hS1 => kk H1 locs1 hP1 hS1)
theorem gC_reader_length (X : CX p s m args meth c cc nL rt own c0 G A) (hk : Cond.fieldLink own idx "RuledCalendar$Reader" "length" "I" ∈ big) (hP : va_P (DD G) vwCl (wC0 G a q ++ T) H) (hdg : decode cc pc = .ok (.getfield idx, 3)) (kk : W p l e R s m args below meth c H locs cells slots Q (F0 m (pc + 3) ls (.int (q.1 11) :: rest))) : W p l e R s m args below meth c H locs cells slots Q (F0 m pc ls (.ref (a 8) :: rest)) :=
  va_get (D := DD G) (ci := 2) (v := .int (q.1 11)) (C := RX4) (T := TX4) (N := 6) X.1.1 X.1.2.1 X.1.2.2.2.2 inX4_u X.1.2.2.2.1 X.2.1 hP 8 rfl rfl 2 (by decide) (X.1.2.2.2.2 _ (List.mem_cons_of_mem _ hk)) (fun _ h => h) rfl hdg kk
theorem pC_reader_length (X : CX p s m args meth c cc nL rt own c0 G A) (hk : Cond.fieldLink own idx "RuledCalendar$Reader" "length" "I" ∈ big) {v : Int32} (hP : va_P (DD G) vwCl (wC0 G a q ++ T) H) (hD : va_D A (wC0 G a q ++ T)) (hS : va_S A s.heap H locs) (hdg : decode cc pc = .ok (.putfield idx, 3)) (kk : ∀ (H1 : Heap) (locs1 : List Loc), va_P (DD G) vwCl (wC0 G a (s4S q 11 v) ++ T) H1 → va_S A s.heap H1 locs1 → W p l e R s m args below meth c H1 locs1 cells slots Q (F0 m (pc + 3) ls rest)) : W p l e R s m args below meth c H locs cells slots Q (F0 m pc ls (.int v :: .ref (a 8) :: rest)) :=
  va_put (D := DD G) (ci := 2) (v := .int v) (ty := .int) (C := RX4) (T := TX4) (N := 6) X.1.1 X.1.2.1 X.1.2.2.2.2 inX4_u tyX4 tyX4_ok nmX4 X.1.2.2.2.1 X.2.1 hP hD hS 8 rfl rfl 2 (by decide) (X.1.2.2.2.2 _ (List.mem_cons_of_mem _ hk)) (fun _ h => h) rfl (by decide +kernel) rfl rfl (Nat.le_of_ble_eq_true rfl) hdg (fun H1 locs1 hP1 _ hS1 => kk H1 locs1 hP1 hS1)
theorem gC_reader_at (X : CX p s m args meth c cc nL rt own c0 G A) (hk : Cond.fieldLink own idx "RuledCalendar$Reader" "at" "I" ∈ big) (hP : va_P (DD G) vwCl (wC0 G a q ++ T) H) (hdg : decode cc pc = .ok (.getfield idx, 3)) (kk : W p l e R s m args below meth c H locs cells slots Q (F0 m (pc + 3) ls (.int (q.1 12) :: rest))) : W p l e R s m args below meth c H locs cells slots Q (F0 m pc ls (.ref (a 8) :: rest)) :=
  va_get (D := DD G) (ci := 2) (v := .int (q.1 12)) (C := RX4) (T := TX4) (N := 6) X.1.1 X.1.2.1 X.1.2.2.2.2 inX4_u X.1.2.2.2.1 X.2.1 hP 8 rfl rfl 3 (by decide) (X.1.2.2.2.2 _ (List.mem_cons_of_mem _ hk)) (fun _ h => h) rfl hdg kk
theorem pC_reader_at (X : CX p s m args meth c cc nL rt own c0 G A) (hk : Cond.fieldLink own idx "RuledCalendar$Reader" "at" "I" ∈ big) {v : Int32} (hP : va_P (DD G) vwCl (wC0 G a q ++ T) H) (hD : va_D A (wC0 G a q ++ T)) (hS : va_S A s.heap H locs) (hdg : decode cc pc = .ok (.putfield idx, 3)) (kk : ∀ (H1 : Heap) (locs1 : List Loc), va_P (DD G) vwCl (wC0 G a (s4S q 12 v) ++ T) H1 → va_S A s.heap H1 locs1 → W p l e R s m args below meth c H1 locs1 cells slots Q (F0 m (pc + 3) ls rest)) : W p l e R s m args below meth c H locs cells slots Q (F0 m pc ls (.int v :: .ref (a 8) :: rest)) :=
  va_put (D := DD G) (ci := 2) (v := .int v) (ty := .int) (C := RX4) (T := TX4) (N := 6) X.1.1 X.1.2.1 X.1.2.2.2.2 inX4_u tyX4 tyX4_ok nmX4 X.1.2.2.2.1 X.2.1 hP hD hS 8 rfl rfl 3 (by decide) (X.1.2.2.2.2 _ (List.mem_cons_of_mem _ hk)) (fun _ h => h) rfl (by decide +kernel) rfl rfl (Nat.le_of_ble_eq_true rfl) hdg (fun H1 locs1 hP1 _ hS1 => kk H1 locs1 hP1 hS1)
theorem gC_reader_faultKind (X : CX p s m args meth c cc nL rt own c0 G A) (hk : Cond.fieldLink own idx "RuledCalendar$Reader" "faultKind" "I" ∈ big) (hP : va_P (DD G) vwCl (wC0 G a q ++ T) H) (hdg : decode cc pc = .ok (.getfield idx, 3)) (kk : W p l e R s m args below meth c H locs cells slots Q (F0 m (pc + 3) ls (.int (q.1 13) :: rest))) : W p l e R s m args below meth c H locs cells slots Q (F0 m pc ls (.ref (a 8) :: rest)) :=
  va_get (D := DD G) (ci := 2) (v := .int (q.1 13)) (C := RX4) (T := TX4) (N := 6) X.1.1 X.1.2.1 X.1.2.2.2.2 inX4_u X.1.2.2.2.1 X.2.1 hP 8 rfl rfl 4 (by decide) (X.1.2.2.2.2 _ (List.mem_cons_of_mem _ hk)) (fun _ h => h) rfl hdg kk
theorem pC_reader_faultKind (X : CX p s m args meth c cc nL rt own c0 G A) (hk : Cond.fieldLink own idx "RuledCalendar$Reader" "faultKind" "I" ∈ big) {v : Int32} (hP : va_P (DD G) vwCl (wC0 G a q ++ T) H) (hD : va_D A (wC0 G a q ++ T)) (hS : va_S A s.heap H locs) (hdg : decode cc pc = .ok (.putfield idx, 3)) (kk : ∀ (H1 : Heap) (locs1 : List Loc), va_P (DD G) vwCl (wC0 G a (s4S q 13 v) ++ T) H1 → va_S A s.heap H1 locs1 → W p l e R s m args below meth c H1 locs1 cells slots Q (F0 m (pc + 3) ls rest)) : W p l e R s m args below meth c H locs cells slots Q (F0 m pc ls (.int v :: .ref (a 8) :: rest)) :=
  va_put (D := DD G) (ci := 2) (v := .int v) (ty := .int) (C := RX4) (T := TX4) (N := 6) X.1.1 X.1.2.1 X.1.2.2.2.2 inX4_u tyX4 tyX4_ok nmX4 X.1.2.2.2.1 X.2.1 hP hD hS 8 rfl rfl 4 (by decide) (X.1.2.2.2.2 _ (List.mem_cons_of_mem _ hk)) (fun _ h => h) rfl (by decide +kernel) rfl rfl (Nat.le_of_ble_eq_true rfl) hdg (fun H1 locs1 hP1 _ hS1 => kk H1 locs1 hP1 hS1)
theorem gC_reader_faultPlace (X : CX p s m args meth c cc nL rt own c0 G A) (hk : Cond.fieldLink own idx "RuledCalendar$Reader" "faultPlace" "I" ∈ big) (hP : va_P (DD G) vwCl (wC0 G a q ++ T) H) (hdg : decode cc pc = .ok (.getfield idx, 3)) (kk : W p l e R s m args below meth c H locs cells slots Q (F0 m (pc + 3) ls (.int (q.1 14) :: rest))) : W p l e R s m args below meth c H locs cells slots Q (F0 m pc ls (.ref (a 8) :: rest)) :=
  va_get (D := DD G) (ci := 2) (v := .int (q.1 14)) (C := RX4) (T := TX4) (N := 6) X.1.1 X.1.2.1 X.1.2.2.2.2 inX4_u X.1.2.2.2.1 X.2.1 hP 8 rfl rfl 5 (by decide) (X.1.2.2.2.2 _ (List.mem_cons_of_mem _ hk)) (fun _ h => h) rfl hdg kk
theorem pC_reader_faultPlace (X : CX p s m args meth c cc nL rt own c0 G A) (hk : Cond.fieldLink own idx "RuledCalendar$Reader" "faultPlace" "I" ∈ big) {v : Int32} (hP : va_P (DD G) vwCl (wC0 G a q ++ T) H) (hD : va_D A (wC0 G a q ++ T)) (hS : va_S A s.heap H locs) (hdg : decode cc pc = .ok (.putfield idx, 3)) (kk : ∀ (H1 : Heap) (locs1 : List Loc), va_P (DD G) vwCl (wC0 G a (s4S q 14 v) ++ T) H1 → va_S A s.heap H1 locs1 → W p l e R s m args below meth c H1 locs1 cells slots Q (F0 m (pc + 3) ls rest)) : W p l e R s m args below meth c H locs cells slots Q (F0 m pc ls (.int v :: .ref (a 8) :: rest)) :=
  va_put (D := DD G) (ci := 2) (v := .int v) (ty := .int) (C := RX4) (T := TX4) (N := 6) X.1.1 X.1.2.1 X.1.2.2.2.2 inX4_u tyX4 tyX4_ok nmX4 X.1.2.2.2.1 X.2.1 hP hD hS 8 rfl rfl 5 (by decide) (X.1.2.2.2.2 _ (List.mem_cons_of_mem _ hk)) (fun _ h => h) rfl (by decide +kernel) rfl rfl (Nat.le_of_ble_eq_true rfl) hdg (fun H1 locs1 hP1 _ hS1 => kk H1 locs1 hP1 hS1)
theorem gC_filler_days (X : CX p s m args meth c cc nL rt own c0 G A) (hk : Cond.fieldLink own idx "RuledCalendar$Filler" "days" "LRuledCalendar$Days;" ∈ big) (hP : va_P (DD G) vwCl (wC0 G a q ++ T) H) (hdg : decode cc pc = .ok (.getfield idx, 3)) (kk : W p l e R s m args below meth c H locs cells slots Q (F0 m (pc + 3) ls (.ref (a 2) :: rest))) : W p l e R s m args below meth c H locs cells slots Q (F0 m pc ls (.ref (a 9) :: rest)) :=
  va_get (D := DD G) (ci := 1) (v := .ref (a 2)) (C := RX1) (T := TX1) (N := 8) X.1.1 X.1.2.1 X.1.2.2.2.2 inX1_u X.1.2.2.2.1 X.2.1 hP 9 rfl rfl 0 (by decide) (X.1.2.2.2.2 _ (List.mem_cons_of_mem _ hk)) (fun _ h => h) rfl hdg kk
theorem gC_filler_rule (X : CX p s m args meth c cc nL rt own c0 G A) (hk : Cond.fieldLink own idx "RuledCalendar$Filler" "rule" "LRuledCalendar$Rule;" ∈ big) (hP : va_P (DD G) vwCl (wC0 G a q ++ T) H) (hdg : decode cc pc = .ok (.getfield idx, 3)) (kk : W p l e R s m args below meth c H locs cells slots Q (F0 m (pc + 3) ls (.ref (a 4) :: rest))) : W p l e R s m args below meth c H locs cells slots Q (F0 m pc ls (.ref (a 9) :: rest)) :=
  va_get (D := DD G) (ci := 1) (v := .ref (a 4)) (C := RX1) (T := TX1) (N := 8) X.1.1 X.1.2.1 X.1.2.2.2.2 inX1_u X.1.2.2.2.1 X.2.1 hP 9 rfl rfl 1 (by decide) (X.1.2.2.2.2 _ (List.mem_cons_of_mem _ hk)) (fun _ h => h) rfl hdg kk
theorem gC_filler_row (X : CX p s m args meth c cc nL rt own c0 G A) (hk : Cond.fieldLink own idx "RuledCalendar$Filler" "row" "[I" ∈ big) (hP : va_P (DD G) vwCl (wC0 G a q ++ T) H) (hdg : decode cc pc = .ok (.getfield idx, 3)) (kk : W p l e R s m args below meth c H locs cells slots Q (F0 m (pc + 3) ls (.ref (a (q.2.2.2 1)) :: rest))) : W p l e R s m args below meth c H locs cells slots Q (F0 m pc ls (.ref (a 9) :: rest)) :=
  va_get (D := DD G) (ci := 1) (v := .ref (a (q.2.2.2 1))) (C := RX1) (T := TX1) (N := 8) X.1.1 X.1.2.1 X.1.2.2.2.2 inX1_u X.1.2.2.2.1 X.2.1 hP 9 rfl rfl 2 (by decide) (X.1.2.2.2.2 _ (List.mem_cons_of_mem _ hk)) (fun _ h => h) rfl hdg kk
theorem pC_filler_row (X : CX p s m args meth c cc nL rt own c0 G A) (hk : Cond.fieldLink own idx "RuledCalendar$Filler" "row" "[I" ∈ big) {v : Nat} (hP : va_P (DD G) vwCl (wC0 G a q ++ T) H) (hD : va_D A (wC0 G a q ++ T)) (hS : va_S A s.heap H locs) (hdg : decode cc pc = .ok (.putfield idx, 3)) (kk : ∀ (H1 : Heap) (locs1 : List Loc), va_P (DD G) vwCl (wC0 G a (s4I q 1 v) ++ T) H1 → va_S A s.heap H1 locs1 → W p l e R s m args below meth c H1 locs1 cells slots Q (F0 m (pc + 3) ls rest)) : W p l e R s m args below meth c H locs cells slots Q (F0 m pc ls (.ref (a v) :: .ref (a 9) :: rest)) :=
  va_put (D := DD G) (ci := 1) (v := .ref (a v)) (ty := .array .int) (C := RX1) (T := TX1) (N := 8) X.1.1 X.1.2.1 X.1.2.2.2.2 inX1_u tyX1 tyX1_ok nmX1 X.1.2.2.2.1 X.2.1 hP hD hS 9 rfl rfl 2 (by decide) (X.1.2.2.2.2 _ (List.mem_cons_of_mem _ hk)) (fun _ h => h) rfl (by decide +kernel) rfl rfl (Nat.le_of_ble_eq_true rfl) hdg (fun H1 locs1 hP1 _ hS1 => kk H1 locs1 hP1 hS1)
theorem gC_filler_start (X : CX p s m args meth c cc nL rt own c0 G A) (hk : Cond.fieldLink own idx "RuledCalendar$Filler" "start" "I" ∈ big) (hP : va_P (DD G) vwCl (wC0 G a q ++ T) H) (hdg : decode cc pc = .ok (.getfield idx, 3)) (kk : W p l e R s m args below meth c H locs cells slots Q (F0 m (pc + 3) ls (.int (q.1 15) :: rest))) : W p l e R s m args below meth c H locs cells slots Q (F0 m pc ls (.ref (a 9) :: rest)) :=
  va_get (D := DD G) (ci := 1) (v := .int (q.1 15)) (C := RX1) (T := TX1) (N := 8) X.1.1 X.1.2.1 X.1.2.2.2.2 inX1_u X.1.2.2.2.1 X.2.1 hP 9 rfl rfl 3 (by decide) (X.1.2.2.2.2 _ (List.mem_cons_of_mem _ hk)) (fun _ h => h) rfl hdg kk
theorem pC_filler_start (X : CX p s m args meth c cc nL rt own c0 G A) (hk : Cond.fieldLink own idx "RuledCalendar$Filler" "start" "I" ∈ big) {v : Int32} (hP : va_P (DD G) vwCl (wC0 G a q ++ T) H) (hD : va_D A (wC0 G a q ++ T)) (hS : va_S A s.heap H locs) (hdg : decode cc pc = .ok (.putfield idx, 3)) (kk : ∀ (H1 : Heap) (locs1 : List Loc), va_P (DD G) vwCl (wC0 G a (s4S q 15 v) ++ T) H1 → va_S A s.heap H1 locs1 → W p l e R s m args below meth c H1 locs1 cells slots Q (F0 m (pc + 3) ls rest)) : W p l e R s m args below meth c H locs cells slots Q (F0 m pc ls (.int v :: .ref (a 9) :: rest)) :=
  va_put (D := DD G) (ci := 1) (v := .int v) (ty := .int) (C := RX1) (T := TX1) (N := 8) X.1.1 X.1.2.1 X.1.2.2.2.2 inX1_u tyX1 tyX1_ok nmX1 X.1.2.2.2.1 X.2.1 hP hD hS 9 rfl rfl 3 (by decide) (X.1.2.2.2.2 _ (List.mem_cons_of_mem _ hk)) (fun _ h => h) rfl (by decide +kernel) rfl rfl (Nat.le_of_ble_eq_true rfl) hdg (fun H1 locs1 hP1 _ hS1 => kk H1 locs1 hP1 hS1)
theorem gC_filler_interval (X : CX p s m args meth c cc nL rt own c0 G A) (hk : Cond.fieldLink own idx "RuledCalendar$Filler" "interval" "I" ∈ big) (hP : va_P (DD G) vwCl (wC0 G a q ++ T) H) (hdg : decode cc pc = .ok (.getfield idx, 3)) (kk : W p l e R s m args below meth c H locs cells slots Q (F0 m (pc + 3) ls (.int (q.1 16) :: rest))) : W p l e R s m args below meth c H locs cells slots Q (F0 m pc ls (.ref (a 9) :: rest)) :=
  va_get (D := DD G) (ci := 1) (v := .int (q.1 16)) (C := RX1) (T := TX1) (N := 8) X.1.1 X.1.2.1 X.1.2.2.2.2 inX1_u X.1.2.2.2.1 X.2.1 hP 9 rfl rfl 4 (by decide) (X.1.2.2.2.2 _ (List.mem_cons_of_mem _ hk)) (fun _ h => h) rfl hdg kk
theorem pC_filler_interval (X : CX p s m args meth c cc nL rt own c0 G A) (hk : Cond.fieldLink own idx "RuledCalendar$Filler" "interval" "I" ∈ big) {v : Int32} (hP : va_P (DD G) vwCl (wC0 G a q ++ T) H) (hD : va_D A (wC0 G a q ++ T)) (hS : va_S A s.heap H locs) (hdg : decode cc pc = .ok (.putfield idx, 3)) (kk : ∀ (H1 : Heap) (locs1 : List Loc), va_P (DD G) vwCl (wC0 G a (s4S q 16 v) ++ T) H1 → va_S A s.heap H1 locs1 → W p l e R s m args below meth c H1 locs1 cells slots Q (F0 m (pc + 3) ls rest)) : W p l e R s m args below meth c H locs cells slots Q (F0 m pc ls (.int v :: .ref (a 9) :: rest)) :=
  va_put (D := DD G) (ci := 1) (v := .int v) (ty := .int) (C := RX1) (T := TX1) (N := 8) X.1.1 X.1.2.1 X.1.2.2.2.2 inX1_u tyX1 tyX1_ok nmX1 X.1.2.2.2.1 X.2.1 hP hD hS 9 rfl rfl 4 (by decide) (X.1.2.2.2.2 _ (List.mem_cons_of_mem _ hk)) (fun _ h => h) rfl (by decide +kernel) rfl rfl (Nat.le_of_ble_eq_true rfl) hdg (fun H1 locs1 hP1 _ hS1 => kk H1 locs1 hP1 hS1)
theorem gC_filler_startPeriod (X : CX p s m args meth c cc nL rt own c0 G A) (hk : Cond.fieldLink own idx "RuledCalendar$Filler" "startPeriod" "I" ∈ big) (hP : va_P (DD G) vwCl (wC0 G a q ++ T) H) (hdg : decode cc pc = .ok (.getfield idx, 3)) (kk : W p l e R s m args below meth c H locs cells slots Q (F0 m (pc + 3) ls (.int (q.1 17) :: rest))) : W p l e R s m args below meth c H locs cells slots Q (F0 m pc ls (.ref (a 9) :: rest)) :=
  va_get (D := DD G) (ci := 1) (v := .int (q.1 17)) (C := RX1) (T := TX1) (N := 8) X.1.1 X.1.2.1 X.1.2.2.2.2 inX1_u X.1.2.2.2.1 X.2.1 hP 9 rfl rfl 5 (by decide) (X.1.2.2.2.2 _ (List.mem_cons_of_mem _ hk)) (fun _ h => h) rfl hdg kk
theorem pC_filler_startPeriod (X : CX p s m args meth c cc nL rt own c0 G A) (hk : Cond.fieldLink own idx "RuledCalendar$Filler" "startPeriod" "I" ∈ big) {v : Int32} (hP : va_P (DD G) vwCl (wC0 G a q ++ T) H) (hD : va_D A (wC0 G a q ++ T)) (hS : va_S A s.heap H locs) (hdg : decode cc pc = .ok (.putfield idx, 3)) (kk : ∀ (H1 : Heap) (locs1 : List Loc), va_P (DD G) vwCl (wC0 G a (s4S q 17 v) ++ T) H1 → va_S A s.heap H1 locs1 → W p l e R s m args below meth c H1 locs1 cells slots Q (F0 m (pc + 3) ls rest)) : W p l e R s m args below meth c H locs cells slots Q (F0 m pc ls (.int v :: .ref (a 9) :: rest)) :=
  va_put (D := DD G) (ci := 1) (v := .int v) (ty := .int) (C := RX1) (T := TX1) (N := 8) X.1.1 X.1.2.1 X.1.2.2.2.2 inX1_u tyX1 tyX1_ok nmX1 X.1.2.2.2.1 X.2.1 hP hD hS 9 rfl rfl 5 (by decide) (X.1.2.2.2.2 _ (List.mem_cons_of_mem _ hk)) (fun _ h => h) rfl (by decide +kernel) rfl rfl (Nat.le_of_ble_eq_true rfl) hdg (fun H1 locs1 hP1 _ hS1 => kk H1 locs1 hP1 hS1)
theorem gC_filler_gathered (X : CX p s m args meth c cc nL rt own c0 G A) (hk : Cond.fieldLink own idx "RuledCalendar$Filler" "gathered" "[I" ∈ big) (hP : va_P (DD G) vwCl (wC0 G a q ++ T) H) (hdg : decode cc pc = .ok (.getfield idx, 3)) (kk : W p l e R s m args below meth c H locs cells slots Q (F0 m (pc + 3) ls (.ref (a 10) :: rest))) : W p l e R s m args below meth c H locs cells slots Q (F0 m pc ls (.ref (a 9) :: rest)) :=
  va_get (D := DD G) (ci := 1) (v := .ref (a 10)) (C := RX1) (T := TX1) (N := 8) X.1.1 X.1.2.1 X.1.2.2.2.2 inX1_u X.1.2.2.2.1 X.2.1 hP 9 rfl rfl 6 (by decide) (X.1.2.2.2.2 _ (List.mem_cons_of_mem _ hk)) (fun _ h => h) rfl hdg kk
theorem gC_filler_gatheredCount (X : CX p s m args meth c cc nL rt own c0 G A) (hk : Cond.fieldLink own idx "RuledCalendar$Filler" "gatheredCount" "I" ∈ big) (hP : va_P (DD G) vwCl (wC0 G a q ++ T) H) (hdg : decode cc pc = .ok (.getfield idx, 3)) (kk : W p l e R s m args below meth c H locs cells slots Q (F0 m (pc + 3) ls (.int (q.1 18) :: rest))) : W p l e R s m args below meth c H locs cells slots Q (F0 m pc ls (.ref (a 9) :: rest)) :=
  va_get (D := DD G) (ci := 1) (v := .int (q.1 18)) (C := RX1) (T := TX1) (N := 8) X.1.1 X.1.2.1 X.1.2.2.2.2 inX1_u X.1.2.2.2.1 X.2.1 hP 9 rfl rfl 7 (by decide) (X.1.2.2.2.2 _ (List.mem_cons_of_mem _ hk)) (fun _ h => h) rfl hdg kk
theorem pC_filler_gatheredCount (X : CX p s m args meth c cc nL rt own c0 G A) (hk : Cond.fieldLink own idx "RuledCalendar$Filler" "gatheredCount" "I" ∈ big) {v : Int32} (hP : va_P (DD G) vwCl (wC0 G a q ++ T) H) (hD : va_D A (wC0 G a q ++ T)) (hS : va_S A s.heap H locs) (hdg : decode cc pc = .ok (.putfield idx, 3)) (kk : ∀ (H1 : Heap) (locs1 : List Loc), va_P (DD G) vwCl (wC0 G a (s4S q 18 v) ++ T) H1 → va_S A s.heap H1 locs1 → W p l e R s m args below meth c H1 locs1 cells slots Q (F0 m (pc + 3) ls rest)) : W p l e R s m args below meth c H locs cells slots Q (F0 m pc ls (.int v :: .ref (a 9) :: rest)) :=
  va_put (D := DD G) (ci := 1) (v := .int v) (ty := .int) (C := RX1) (T := TX1) (N := 8) X.1.1 X.1.2.1 X.1.2.2.2.2 inX1_u tyX1 tyX1_ok nmX1 X.1.2.2.2.1 X.2.1 hP hD hS 9 rfl rfl 7 (by decide) (X.1.2.2.2.2 _ (List.mem_cons_of_mem _ hk)) (fun _ h => h) rfl (by decide +kernel) rfl rfl (Nat.le_of_ble_eq_true rfl) hdg (fun H1 locs1 hP1 _ hS1 => kk H1 locs1 hP1 hS1)
theorem ldC_text (X : CX p s m args meth c cc nL rt own c0 G A) (hP : va_P (DD G) vwCl (wC0 G a q ++ T) H) {i : Int32} (hin : vp_in i 200) (hdg : decode cc pc = .ok (.caload, 1)) (kk : W p l e R s m args below meth c H locs cells slots Q (F0 m (pc + 1) ls (.int (r4A q 1 i) :: rest))) : W p l e R s m args below meth c H locs cells slots Q (F0 m pc ls (.int i :: .ref (a 1) :: rest)) :=
  va_cald X.1.1 X.1.2.1 X.2.1 hP 1 1 rfl rfl hin hdg kk
theorem stC_text (X : CX p s m args meth c cc nL rt own c0 G A) (hP : va_P (DD G) vwCl (wC0 G a q ++ T) H) (hD : va_D A (wC0 G a q ++ T)) (hS : va_S A s.heap H locs) {i : Int32} {x : Int32} (hin : vp_in i 200) (hdg : decode cc pc = .ok (.castore, 1)) (kk : ∀ (H1 : Heap) (locs1 : List Loc), va_P (DD G) vwCl (wC0 G a (s4A q 1 i (vp_nar .char x)) ++ T) H1 → va_S A s.heap H1 locs1 → W p l e R s m args below meth c H1 locs1 cells slots Q (F0 m (pc + 1) ls rest)) : W p l e R s m args below meth c H locs cells slots Q (F0 m pc ls (.int x :: .int i :: .ref (a 1) :: rest)) :=
  va_cast X.1.1 X.1.2.1 X.2.1 hP hD hS 1 1 rfl rfl hin hdg (fun H1 locs1 hP1 _ hS1 => kk H1 locs1 hP1 hS1)
theorem leC_text (X : CX p s m args meth c cc nL rt own c0 G A) (hP : va_P (DD G) vwCl (wC0 G a q ++ T) H) (hdg : decode cc pc = .ok (.arraylength, 1)) (kk : W p l e R s m args below meth c H locs cells slots Q (F0 m (pc + 1) ls (.int 200 :: rest))) : W p l e R s m args below meth c H locs cells slots Q (F0 m pc ls (.ref (a 1) :: rest)) :=
  va_alen X.1.1 X.1.2.1 X.2.1 hP 1 1 rfl rfl rfl hdg kk
theorem ldC_first (X : CX p s m args meth c cc nL rt own c0 G A) (hP : va_P (DD G) vwCl (wC0 G a q ++ T) H) {i : Int32} (hin : vp_in i 3601) (hdg : decode cc pc = .ok (.iaload, 1)) (kk : W p l e R s m args below meth c H locs cells slots Q (F0 m (pc + 1) ls (.int (r4A q 3 i) :: rest))) : W p l e R s m args below meth c H locs cells slots Q (F0 m pc ls (.int i :: .ref (a 3) :: rest)) :=
  va_iald X.1.1 X.1.2.1 X.2.1 hP 3 2 rfl rfl hin hdg kk
theorem stC_first (X : CX p s m args meth c cc nL rt own c0 G A) (hP : va_P (DD G) vwCl (wC0 G a q ++ T) H) (hD : va_D A (wC0 G a q ++ T)) (hS : va_S A s.heap H locs) {i : Int32} {x : Int32} (hin : vp_in i 3601) (hdg : decode cc pc = .ok (.iastore, 1)) (kk : ∀ (H1 : Heap) (locs1 : List Loc), va_P (DD G) vwCl (wC0 G a (s4A q 3 i x) ++ T) H1 → va_S A s.heap H1 locs1 → W p l e R s m args below meth c H1 locs1 cells slots Q (F0 m (pc + 1) ls rest)) : W p l e R s m args below meth c H locs cells slots Q (F0 m pc ls (.int x :: .int i :: .ref (a 3) :: rest)) :=
  va_iast X.1.1 X.1.2.1 X.2.1 hP hD hS 3 2 rfl rfl hin hdg (fun H1 locs1 hP1 _ hS1 => kk H1 locs1 hP1 hS1)
theorem leC_first (X : CX p s m args meth c cc nL rt own c0 G A) (hP : va_P (DD G) vwCl (wC0 G a q ++ T) H) (hdg : decode cc pc = .ok (.arraylength, 1)) (kk : W p l e R s m args below meth c H locs cells slots Q (F0 m (pc + 1) ls (.int 3601 :: rest))) : W p l e R s m args below meth c H locs cells slots Q (F0 m pc ls (.ref (a 3) :: rest)) :=
  va_alen X.1.1 X.1.2.1 X.2.1 hP 3 2 rfl rfl rfl hdg kk
theorem ldC_numbers (X : CX p s m args meth c cc nL rt own c0 G A) (hP : va_P (DD G) vwCl (wC0 G a q ++ T) H) {i : Int32} (hin : vp_in i 7) (hdg : decode cc pc = .ok (.laload, 1)) (kk : W p l e R s m args below meth c H locs cells slots Q (F0 m (pc + 1) ls (.long (r4L q 5 i) :: rest))) : W p l e R s m args below meth c H locs cells slots Q (F0 m pc ls (.int i :: .ref (a 5) :: rest)) :=
  va_lald X.1.1 X.1.2.1 X.2.1 hP 5 3 rfl rfl hin hdg kk
theorem stC_numbers (X : CX p s m args meth c cc nL rt own c0 G A) (hP : va_P (DD G) vwCl (wC0 G a q ++ T) H) (hD : va_D A (wC0 G a q ++ T)) (hS : va_S A s.heap H locs) {i : Int32} {x : Int64} (hin : vp_in i 7) (hdg : decode cc pc = .ok (.lastore, 1)) (kk : ∀ (H1 : Heap) (locs1 : List Loc), va_P (DD G) vwCl (wC0 G a (s4L q 5 i x) ++ T) H1 → va_S A s.heap H1 locs1 → W p l e R s m args below meth c H1 locs1 cells slots Q (F0 m (pc + 1) ls rest)) : W p l e R s m args below meth c H locs cells slots Q (F0 m pc ls (.long x :: .int i :: .ref (a 5) :: rest)) :=
  va_last X.1.1 X.1.2.1 X.2.1 hP hD hS 5 3 rfl rfl hin hdg (fun H1 locs1 hP1 _ hS1 => kk H1 locs1 hP1 hS1)
theorem leC_numbers (X : CX p s m args meth c cc nL rt own c0 G A) (hP : va_P (DD G) vwCl (wC0 G a q ++ T) H) (hdg : decode cc pc = .ok (.arraylength, 1)) (kk : W p l e R s m args below meth c H locs cells slots Q (F0 m (pc + 1) ls (.int 7 :: rest))) : W p l e R s m args below meth c H locs cells slots Q (F0 m pc ls (.ref (a 5) :: rest)) :=
  va_alen X.1.1 X.1.2.1 X.2.1 hP 5 3 rfl rfl rfl hdg kk
theorem ldC_numbersFromEnd (X : CX p s m args meth c cc nL rt own c0 G A) (hP : va_P (DD G) vwCl (wC0 G a q ++ T) H) {i : Int32} (hin : vp_in i 7) (hdg : decode cc pc = .ok (.laload, 1)) (kk : W p l e R s m args below meth c H locs cells slots Q (F0 m (pc + 1) ls (.long (r4L q 6 i) :: rest))) : W p l e R s m args below meth c H locs cells slots Q (F0 m pc ls (.int i :: .ref (a 6) :: rest)) :=
  va_lald X.1.1 X.1.2.1 X.2.1 hP 6 3 rfl rfl hin hdg kk
theorem stC_numbersFromEnd (X : CX p s m args meth c cc nL rt own c0 G A) (hP : va_P (DD G) vwCl (wC0 G a q ++ T) H) (hD : va_D A (wC0 G a q ++ T)) (hS : va_S A s.heap H locs) {i : Int32} {x : Int64} (hin : vp_in i 7) (hdg : decode cc pc = .ok (.lastore, 1)) (kk : ∀ (H1 : Heap) (locs1 : List Loc), va_P (DD G) vwCl (wC0 G a (s4L q 6 i x) ++ T) H1 → va_S A s.heap H1 locs1 → W p l e R s m args below meth c H1 locs1 cells slots Q (F0 m (pc + 1) ls rest)) : W p l e R s m args below meth c H locs cells slots Q (F0 m pc ls (.long x :: .int i :: .ref (a 6) :: rest)) :=
  va_last X.1.1 X.1.2.1 X.2.1 hP hD hS 6 3 rfl rfl hin hdg (fun H1 locs1 hP1 _ hS1 => kk H1 locs1 hP1 hS1)
theorem leC_numbersFromEnd (X : CX p s m args meth c cc nL rt own c0 G A) (hP : va_P (DD G) vwCl (wC0 G a q ++ T) H) (hdg : decode cc pc = .ok (.arraylength, 1)) (kk : W p l e R s m args below meth c H locs cells slots Q (F0 m (pc + 1) ls (.int 7 :: rest))) : W p l e R s m args below meth c H locs cells slots Q (F0 m pc ls (.ref (a 6) :: rest)) :=
  va_alen X.1.1 X.1.2.1 X.2.1 hP 6 3 rfl rfl rfl hdg kk
theorem ldC_places (X : CX p s m args meth c cc nL rt own c0 G A) (hP : va_P (DD G) vwCl (wC0 G a q ++ T) H) {i : Int32} (hin : vp_in i 733) (hdg : decode cc pc = .ok (.baload, 1)) (kk : W p l e R s m args below meth c H locs cells slots Q (F0 m (pc + 1) ls (.int (r4A q 7 i) :: rest))) : W p l e R s m args below meth c H locs cells slots Q (F0 m pc ls (.int i :: .ref (a 7) :: rest)) :=
  va_bald X.1.1 X.1.2.1 X.2.1 hP 7 0 rfl rfl hin hdg kk
theorem stC_places (X : CX p s m args meth c cc nL rt own c0 G A) (hP : va_P (DD G) vwCl (wC0 G a q ++ T) H) (hD : va_D A (wC0 G a q ++ T)) (hS : va_S A s.heap H locs) {i : Int32} {x : Int32} (hin : vp_in i 733) (hdg : decode cc pc = .ok (.bastore, 1)) (kk : ∀ (H1 : Heap) (locs1 : List Loc), va_P (DD G) vwCl (wC0 G a (s4A q 7 i (vp_nar .byte x)) ++ T) H1 → va_S A s.heap H1 locs1 → W p l e R s m args below meth c H1 locs1 cells slots Q (F0 m (pc + 1) ls rest)) : W p l e R s m args below meth c H locs cells slots Q (F0 m pc ls (.int x :: .int i :: .ref (a 7) :: rest)) :=
  va_bast X.1.1 X.1.2.1 X.2.1 hP hD hS 7 0 rfl rfl hin hdg (fun H1 locs1 hP1 _ hS1 => kk H1 locs1 hP1 hS1)
theorem leC_places (X : CX p s m args meth c cc nL rt own c0 G A) (hP : va_P (DD G) vwCl (wC0 G a q ++ T) H) (hdg : decode cc pc = .ok (.arraylength, 1)) (kk : W p l e R s m args below meth c H locs cells slots Q (F0 m (pc + 1) ls (.int 733 :: rest))) : W p l e R s m args below meth c H locs cells slots Q (F0 m pc ls (.ref (a 7) :: rest)) :=
  va_alen X.1.1 X.1.2.1 X.2.1 hP 7 0 rfl rfl rfl hdg kk
theorem ldC_gathered (X : CX p s m args meth c cc nL rt own c0 G A) (hP : va_P (DD G) vwCl (wC0 G a q ++ T) H) {i : Int32} (hin : vp_in i 366) (hdg : decode cc pc = .ok (.iaload, 1)) (kk : W p l e R s m args below meth c H locs cells slots Q (F0 m (pc + 1) ls (.int (r4A q 10 i) :: rest))) : W p l e R s m args below meth c H locs cells slots Q (F0 m pc ls (.int i :: .ref (a 10) :: rest)) :=
  va_iald X.1.1 X.1.2.1 X.2.1 hP 10 2 rfl rfl hin hdg kk
theorem stC_gathered (X : CX p s m args meth c cc nL rt own c0 G A) (hP : va_P (DD G) vwCl (wC0 G a q ++ T) H) (hD : va_D A (wC0 G a q ++ T)) (hS : va_S A s.heap H locs) {i : Int32} {x : Int32} (hin : vp_in i 366) (hdg : decode cc pc = .ok (.iastore, 1)) (kk : ∀ (H1 : Heap) (locs1 : List Loc), va_P (DD G) vwCl (wC0 G a (s4A q 10 i x) ++ T) H1 → va_S A s.heap H1 locs1 → W p l e R s m args below meth c H1 locs1 cells slots Q (F0 m (pc + 1) ls rest)) : W p l e R s m args below meth c H locs cells slots Q (F0 m pc ls (.int x :: .int i :: .ref (a 10) :: rest)) :=
  va_iast X.1.1 X.1.2.1 X.2.1 hP hD hS 10 2 rfl rfl hin hdg (fun H1 locs1 hP1 _ hS1 => kk H1 locs1 hP1 hS1)
theorem leC_gathered (X : CX p s m args meth c cc nL rt own c0 G A) (hP : va_P (DD G) vwCl (wC0 G a q ++ T) H) (hdg : decode cc pc = .ok (.arraylength, 1)) (kk : W p l e R s m args below meth c H locs cells slots Q (F0 m (pc + 1) ls (.int 366 :: rest))) : W p l e R s m args below meth c H locs cells slots Q (F0 m pc ls (.ref (a 10) :: rest)) :=
  va_alen X.1.1 X.1.2.1 X.2.1 hP 10 2 rfl rfl rfl hdg kk
theorem ldC_listed (X : CX p s m args meth c cc nL rt own c0 G A) (hP : va_P (DD G) vwCl (wC0 G a q ++ T) H) {i : Int32} (hin : vp_in i 300) (hdg : decode cc pc = .ok (.laload, 1)) (kk : W p l e R s m args below meth c H locs cells slots Q (F0 m (pc + 1) ls (.long (r4L q 12 i) :: rest))) : W p l e R s m args below meth c H locs cells slots Q (F0 m pc ls (.int i :: .ref (a 12) :: rest)) :=
  va_lald X.1.1 X.1.2.1 X.2.1 hP 12 3 rfl rfl hin hdg kk
theorem stC_listed (X : CX p s m args meth c cc nL rt own c0 G A) (hP : va_P (DD G) vwCl (wC0 G a q ++ T) H) (hD : va_D A (wC0 G a q ++ T)) (hS : va_S A s.heap H locs) {i : Int32} {x : Int64} (hin : vp_in i 300) (hdg : decode cc pc = .ok (.lastore, 1)) (kk : ∀ (H1 : Heap) (locs1 : List Loc), va_P (DD G) vwCl (wC0 G a (s4L q 12 i x) ++ T) H1 → va_S A s.heap H1 locs1 → W p l e R s m args below meth c H1 locs1 cells slots Q (F0 m (pc + 1) ls rest)) : W p l e R s m args below meth c H locs cells slots Q (F0 m pc ls (.long x :: .int i :: .ref (a 12) :: rest)) :=
  va_last X.1.1 X.1.2.1 X.2.1 hP hD hS 12 3 rfl rfl hin hdg (fun H1 locs1 hP1 _ hS1 => kk H1 locs1 hP1 hS1)
theorem leC_listed (X : CX p s m args meth c cc nL rt own c0 G A) (hP : va_P (DD G) vwCl (wC0 G a q ++ T) H) (hdg : decode cc pc = .ok (.arraylength, 1)) (kk : W p l e R s m args below meth c H locs cells slots Q (F0 m (pc + 1) ls (.int 300 :: rest))) : W p l e R s m args below meth c H locs cells slots Q (F0 m pc ls (.ref (a 12) :: rest)) :=
  va_alen X.1.1 X.1.2.1 X.2.1 hP 12 3 rfl rfl rfl hdg kk
theorem ldC_counts (X : CX p s m args meth c cc nL rt own c0 G A) (hP : va_P (DD G) vwCl (wC0 G a q ++ T) H) {i : Int32} (hin : vp_in i 4) (hdg : decode cc pc = .ok (.iaload, 1)) (kk : W p l e R s m args below meth c H locs cells slots Q (F0 m (pc + 1) ls (.int (r4A q 13 i) :: rest))) : W p l e R s m args below meth c H locs cells slots Q (F0 m pc ls (.int i :: .ref (a 13) :: rest)) :=
  va_iald X.1.1 X.1.2.1 X.2.1 hP 13 2 rfl rfl hin hdg kk
theorem stC_counts (X : CX p s m args meth c cc nL rt own c0 G A) (hP : va_P (DD G) vwCl (wC0 G a q ++ T) H) (hD : va_D A (wC0 G a q ++ T)) (hS : va_S A s.heap H locs) {i : Int32} {x : Int32} (hin : vp_in i 4) (hdg : decode cc pc = .ok (.iastore, 1)) (kk : ∀ (H1 : Heap) (locs1 : List Loc), va_P (DD G) vwCl (wC0 G a (s4A q 13 i x) ++ T) H1 → va_S A s.heap H1 locs1 → W p l e R s m args below meth c H1 locs1 cells slots Q (F0 m (pc + 1) ls rest)) : W p l e R s m args below meth c H locs cells slots Q (F0 m pc ls (.int x :: .int i :: .ref (a 13) :: rest)) :=
  va_iast X.1.1 X.1.2.1 X.2.1 hP hD hS 13 2 rfl rfl hin hdg (fun H1 locs1 hP1 _ hS1 => kk H1 locs1 hP1 hS1)
theorem leC_counts (X : CX p s m args meth c cc nL rt own c0 G A) (hP : va_P (DD G) vwCl (wC0 G a q ++ T) H) (hdg : decode cc pc = .ok (.arraylength, 1)) (kk : W p l e R s m args below meth c H locs cells slots Q (F0 m (pc + 1) ls (.int 4 :: rest))) : W p l e R s m args below meth c H locs cells slots Q (F0 m pc ls (.ref (a 13) :: rest)) :=
  va_alen X.1.1 X.1.2.1 X.2.1 hP 13 2 rfl rfl rfl hdg kk
theorem ldC_textx (X : CX p s m args meth c cc nL rt own c0 G A) (hg : r4I q 0 = 1) (hP : va_P (DD G) vwCl (wC0 G a q ++ T) H) {i : Int32} (hin : vp_in i 200) (hdg : decode cc pc = .ok (.caload, 1)) (kk : W p l e R s m args below meth c H locs cells slots Q (F0 m (pc + 1) ls (.int (r4A q 1 i) :: rest))) : W p l e R s m args below meth c H locs cells slots Q (F0 m pc ls (.int i :: .ref (a (r4I q 0)) :: rest)) := by
  have e9 : a (r4I q 0) = a 1 := by rw [hg]
  rw [e9]
  exact ldC_text X hP hin hdg kk
def minI (x y : Int32) : Int32 := if y < x then y else x
def maxI (x y : Int32) : Int32 := if x < y then y else x
theorem ldF_row {ρ : Nat} (X : CX p s m args meth c cc nL rt own c0 G A) (hg : r4I q 1 = ρ) (hP : va_P (DD G) vwCl (wF G a ρ T q) H) {i : Int32} (hin : vp_in i 3600) (hdg : decode cc pc = .ok (.iaload, 1)) (kk : W p l e R s m args below meth c H locs cells slots Q (F0 m (pc + 1) ls (.int (r4A q 14 i) :: rest))) : W p l e R s m args below meth c H locs cells slots Q (F0 m pc ls (.int i :: .ref (a (r4I q 1)) :: rest)) := by
  subst hg
  exact va_iald X.1.1 X.1.2.1 X.2.1 hP 14 2 rfl rfl hin hdg kk
theorem stF_row {ρ : Nat} (X : CX p s m args meth c cc nL rt own c0 G A) (hg : r4I q 1 = ρ) (hP : va_P (DD G) vwCl (wF G a ρ T q) H) (hD : va_D A (wF G a ρ T q)) (hS : va_S A s.heap H locs) {i x : Int32} (hin : vp_in i 3600) (hdg : decode cc pc = .ok (.iastore, 1)) (kk : ∀ (H1 : Heap) (locs1 : List Loc), va_P (DD G) vwCl (wF G a ρ T (s4A q 14 i x)) H1 → va_S A s.heap H1 locs1 → W p l e R s m args below meth c H1 locs1 cells slots Q (F0 m (pc + 1) ls rest)) : W p l e R s m args below meth c H locs cells slots Q (F0 m pc ls (.int x :: .int i :: .ref (a (r4I q 1)) :: rest)) := by
  subst hg
  exact va_iast X.1.1 X.1.2.1 X.2.1 hP hD hS 14 2 rfl rfl hin hdg (fun H1 locs1 hP1 _ hS1 => kk H1 locs1 hP1 hS1)
theorem stF_rowp {ρ : Nat} (X : CX p s m args meth c cc nL rt own c0 G A) (hP : va_P (DD G) vwCl (wF G a ρ T q) H) (hD : va_D A (wF G a ρ T q)) (hS : va_S A s.heap H locs) {i x : Int32} (hin : vp_in i 3600) (hdg : decode cc pc = .ok (.iastore, 1)) (kk : ∀ (H1 : Heap) (locs1 : List Loc), va_P (DD G) vwCl (wF G a ρ T (s4A q 14 i x)) H1 → va_S A s.heap H1 locs1 → W p l e R s m args below meth c H1 locs1 cells slots Q (F0 m (pc + 1) ls rest)) : W p l e R s m args below meth c H locs cells slots Q (F0 m pc ls (.int x :: .int i :: .ref (a ρ) :: rest)) :=
  va_iast X.1.1 X.1.2.1 X.2.1 hP hD hS 14 2 rfl rfl hin hdg (fun H1 locs1 hP1 _ hS1 => kk H1 locs1 hP1 hS1)
theorem leF_row {ρ : Nat} (X : CX p s m args meth c cc nL rt own c0 G A) (hP : va_P (DD G) vwCl (wF G a ρ T q) H) (hdg : decode cc pc = .ok (.arraylength, 1)) (kk : W p l e R s m args below meth c H locs cells slots Q (F0 m (pc + 1) ls (.int 3600 :: rest))) : W p l e R s m args below meth c H locs cells slots Q (F0 m pc ls (.ref (a ρ) :: rest)) :=
  va_alen X.1.1 X.1.2.1 X.2.1 hP 14 2 rfl rfl rfl hdg kk
theorem leF_rowx {ρ : Nat} (X : CX p s m args meth c cc nL rt own c0 G A) (hg : r4I q 1 = ρ) (hP : va_P (DD G) vwCl (wF G a ρ T q) H) (hdg : decode cc pc = .ok (.arraylength, 1)) (kk : W p l e R s m args below meth c H locs cells slots Q (F0 m (pc + 1) ls (.int 3600 :: rest))) : W p l e R s m args below meth c H locs cells slots Q (F0 m pc ls (.ref (a (r4I q 1)) :: rest)) := by
  subst hg
  exact leF_row X hP hdg kk
theorem rc_cal (hK : va_K (DD G) vwCl (TY G) s) (hP : va_P (DD G) vwCl (wC0 G a q ++ T) H) : ∃ cell : Cell, H[a 0]? = some cell ∧ cell.vm.isStatics = false ∧ s.vm.findClass RX7 = some cell.cls := va_recv hK hP (ci := 5) (q0 := 0) rfl rfl
theorem rc_days (hK : va_K (DD G) vwCl (TY G) s) (hP : va_P (DD G) vwCl (wC0 G a q ++ T) H) : ∃ cell : Cell, H[a 2]? = some cell ∧ cell.vm.isStatics = false ∧ s.vm.findClass RX0 = some cell.cls := va_recv hK hP (ci := 0) (q0 := 2) rfl rfl
theorem rc_rule (hK : va_K (DD G) vwCl (TY G) s) (hP : va_P (DD G) vwCl (wC0 G a q ++ T) H) : ∃ cell : Cell, H[a 4]? = some cell ∧ cell.vm.isStatics = false ∧ s.vm.findClass RX5 = some cell.cls := va_recv hK hP (ci := 3) (q0 := 4) rfl rfl
theorem rc_reader (hK : va_K (DD G) vwCl (TY G) s) (hP : va_P (DD G) vwCl (wC0 G a q ++ T) H) : ∃ cell : Cell, H[a 8]? = some cell ∧ cell.vm.isStatics = false ∧ s.vm.findClass RX4 = some cell.cls := va_recv hK hP (ci := 2) (q0 := 8) rfl rfl
theorem rc_filler (hK : va_K (DD G) vwCl (TY G) s) (hP : va_P (DD G) vwCl (wC0 G a q ++ T) H) : ∃ cell : Cell, H[a 9]? = some cell ∧ cell.vm.isStatics = false ∧ s.vm.findClass RX1 = some cell.cls := va_recv hK hP (ci := 1) (q0 := 9) rfl rfl
theorem zML (X : CX p s m args meth c cc nL rt own c0 G A) : va_Z "RuledCalendar" "MONTH_LENGTHS" "[I" (.ref (sa G 1)) A s s.heap := (X.2.2.2.2.2.2.1.1).narrow X.2.2.2.2.2.1
theorem tML (X : CX p s m args meth c cc nL rt own c0 G A) : va_T .int (sa G 1) 12 (fun j => .int (mlen j)) A s s.heap := (X.2.2.2.2.2.2.1.2).narrow X.2.2.2.2.2.1
theorem zPA (X : CX p s m args meth c cc nL rt own c0 G A) : va_Z "RuledCalendar" "PARTS" "[LRuledCalendar$Part;" (.ref (sa G 2)) A s s.heap := (X.2.2.2.2.2.2.2.1.1).narrow X.2.2.2.2.2.1
theorem tPA (X : CX p s m args meth c cc nL rt own c0 G A) : va_T (.object "RuledCalendar$Part") (sa G 2) 8 (fun j => .ref (sa G (10 + j))) A s s.heap := (X.2.2.2.2.2.2.2.1.2).narrow X.2.2.2.2.2.1
theorem zFA (X : CX p s m args meth c cc nL rt own c0 G A) : va_Z "RuledCalendar" "FREQUENCIES" "[LRuledCalendar$Frequency;" (.ref (sa G 3)) A s s.heap := (X.2.2.2.2.2.2.2.2.1.1).narrow X.2.2.2.2.2.1
theorem tFA (X : CX p s m args meth c cc nL rt own c0 G A) : va_T (.object "RuledCalendar$Frequency") (sa G 3) 4 (fun j => .ref (sa G (20 + j))) A s s.heap := (X.2.2.2.2.2.2.2.2.1.2).narrow X.2.2.2.2.2.1
theorem zP_FREQ (X : CX p s m args meth c cc nL rt own c0 G A) : va_Z "RuledCalendar$Part" "FREQ" "LRuledCalendar$Part;" (.ref (sa G (10 + 0))) A s s.heap := (X.2.2.2.2.2.2.2.2.2.1 0 (by decide)).narrow X.2.2.2.2.2.1
theorem zP_INTERVAL (X : CX p s m args meth c cc nL rt own c0 G A) : va_Z "RuledCalendar$Part" "INTERVAL" "LRuledCalendar$Part;" (.ref (sa G (10 + 1))) A s s.heap := (X.2.2.2.2.2.2.2.2.2.1 1 (by decide)).narrow X.2.2.2.2.2.1
theorem zP_COUNT (X : CX p s m args meth c cc nL rt own c0 G A) : va_Z "RuledCalendar$Part" "COUNT" "LRuledCalendar$Part;" (.ref (sa G (10 + 2))) A s s.heap := (X.2.2.2.2.2.2.2.2.2.1 2 (by decide)).narrow X.2.2.2.2.2.1
theorem zP_UNTIL (X : CX p s m args meth c cc nL rt own c0 G A) : va_Z "RuledCalendar$Part" "UNTIL" "LRuledCalendar$Part;" (.ref (sa G (10 + 3))) A s s.heap := (X.2.2.2.2.2.2.2.2.2.1 3 (by decide)).narrow X.2.2.2.2.2.1
theorem zP_BYMONTH (X : CX p s m args meth c cc nL rt own c0 G A) : va_Z "RuledCalendar$Part" "BYMONTH" "LRuledCalendar$Part;" (.ref (sa G (10 + 4))) A s s.heap := (X.2.2.2.2.2.2.2.2.2.1 4 (by decide)).narrow X.2.2.2.2.2.1
theorem zP_BYMONTHDAY (X : CX p s m args meth c cc nL rt own c0 G A) : va_Z "RuledCalendar$Part" "BYMONTHDAY" "LRuledCalendar$Part;" (.ref (sa G (10 + 5))) A s s.heap := (X.2.2.2.2.2.2.2.2.2.1 5 (by decide)).narrow X.2.2.2.2.2.1
theorem zP_BYSETPOS (X : CX p s m args meth c cc nL rt own c0 G A) : va_Z "RuledCalendar$Part" "BYSETPOS" "LRuledCalendar$Part;" (.ref (sa G (10 + 6))) A s s.heap := (X.2.2.2.2.2.2.2.2.2.1 6 (by decide)).narrow X.2.2.2.2.2.1
theorem zP_BYDAY (X : CX p s m args meth c cc nL rt own c0 G A) : va_Z "RuledCalendar$Part" "BYDAY" "LRuledCalendar$Part;" (.ref (sa G (10 + 7))) A s s.heap := (X.2.2.2.2.2.2.2.2.2.1 7 (by decide)).narrow X.2.2.2.2.2.1
theorem zF_DAILY (X : CX p s m args meth c cc nL rt own c0 G A) : va_Z "RuledCalendar$Frequency" "DAILY" "LRuledCalendar$Frequency;" (.ref (sa G (20 + 0))) A s s.heap := (X.2.2.2.2.2.2.2.2.2.2.1 0 (by decide)).narrow X.2.2.2.2.2.1
theorem zF_WEEKLY (X : CX p s m args meth c cc nL rt own c0 G A) : va_Z "RuledCalendar$Frequency" "WEEKLY" "LRuledCalendar$Frequency;" (.ref (sa G (20 + 1))) A s s.heap := (X.2.2.2.2.2.2.2.2.2.2.1 1 (by decide)).narrow X.2.2.2.2.2.1
theorem zF_MONTHLY (X : CX p s m args meth c cc nL rt own c0 G A) : va_Z "RuledCalendar$Frequency" "MONTHLY" "LRuledCalendar$Frequency;" (.ref (sa G (20 + 2))) A s s.heap := (X.2.2.2.2.2.2.2.2.2.2.1 2 (by decide)).narrow X.2.2.2.2.2.1
theorem zF_YEARLY (X : CX p s m args meth c cc nL rt own c0 G A) : va_Z "RuledCalendar$Frequency" "YEARLY" "LRuledCalendar$Frequency;" (.ref (sa G (20 + 3))) A s s.heap := (X.2.2.2.2.2.2.2.2.2.2.1 3 (by decide)).narrow X.2.2.2.2.2.1
theorem oP (X : CX p s m args meth c cc nL rt own c0 G A) {i : Nat} (hi : i < 8) : va_O "RuledCalendar$Part" (sa G (10 + i)) A s s.heap := (X.2.2.2.2.2.2.2.2.2.2.2.1 i hi).narrow X.2.2.2.2.2.1
theorem oF (X : CX p s m args meth c cc nL rt own c0 G A) {i : Nat} (hi : i < 4) : va_O "RuledCalendar$Frequency" (sa G (20 + i)) A s s.heap := (X.2.2.2.2.2.2.2.2.2.2.2.2.1 i hi).narrow X.2.2.2.2.2.1
theorem fP_word (X : CX p s m args meth c cc nL rt own c0 G A) {i : Nat} (hi : i < 8) : va_OF "RuledCalendar$Part" "word" "Ljava/lang/String;" (.ref (sa G (30 + i))) (sa G (10 + i)) A s s.heap := (X.2.2.2.2.2.2.2.2.2.2.2.2.2.1 i hi).narrow X.2.2.2.2.2.1
theorem fP_bit (X : CX p s m args meth c cc nL rt own c0 G A) {i : Nat} (hi : i < 8) : va_OF "RuledCalendar$Part" "bit" "I" (.int (pbit i)) (sa G (10 + i)) A s s.heap := (X.2.2.2.2.2.2.2.2.2.2.2.2.2.2.1 i hi).narrow X.2.2.2.2.2.1
theorem fP_isList (X : CX p s m args meth c cc nL rt own c0 G A) {i : Nat} (hi : i < 8) : va_OF "RuledCalendar$Part" "isList" "Z" (.int (plis i)) (sa G (10 + i)) A s s.heap := (X.2.2.2.2.2.2.2.2.2.2.2.2.2.2.2.1 i hi).narrow X.2.2.2.2.2.1
theorem fP_low (X : CX p s m args meth c cc nL rt own c0 G A) {i : Nat} (hi : i < 8) : va_OF "RuledCalendar$Part" "low" "I" (.int (plow i)) (sa G (10 + i)) A s s.heap := (X.2.2.2.2.2.2.2.2.2.2.2.2.2.2.2.2.1 i hi).narrow X.2.2.2.2.2.1
theorem fP_high (X : CX p s m args meth c cc nL rt own c0 G A) {i : Nat} (hi : i < 8) : va_OF "RuledCalendar$Part" "high" "I" (.int (phig i)) (sa G (10 + i)) A s s.heap := (X.2.2.2.2.2.2.2.2.2.2.2.2.2.2.2.2.2.1 i hi).narrow X.2.2.2.2.2.1
theorem fF_word (X : CX p s m args meth c cc nL rt own c0 G A) {i : Nat} (hi : i < 4) : va_OF "RuledCalendar$Frequency" "word" "Ljava/lang/String;" (.ref (sa G (38 + i))) (sa G (20 + i)) A s s.heap := (X.2.2.2.2.2.2.2.2.2.2.2.2.2.2.2.2.2.2.1 i hi).narrow X.2.2.2.2.2.1
theorem fF_wholeMonths (X : CX p s m args meth c cc nL rt own c0 G A) {i : Nat} (hi : i < 4) : va_OF "RuledCalendar$Frequency" "wholeMonths" "Z" (.int (fwho i)) (sa G (20 + i)) A s s.heap := (X.2.2.2.2.2.2.2.2.2.2.2.2.2.2.2.2.2.2.2.1 i hi).narrow X.2.2.2.2.2.1
theorem fFw (X : CX p s m args meth c cc nL rt own c0 G A) {i : Nat} (hi : i < 4) : va_OF "RuledCalendar$Frequency" "word" "Ljava/lang/String;" (.ref (sa G (30 + (8 + i)))) (sa G (20 + i)) A s s.heap := by
  rw [show 30 + (8 + i) = 38 + i by omega]
  exact fF_word X hi
theorem oS (X : CX p s m args meth c cc nL rt own c0 G A) {i : Nat} (hi : i < 13) : va_O "java/lang/String" (sa G (30 + i)) A s s.heap := (X.2.2.2.2.2.2.2.2.2.2.2.2.2.2.2.2.2.2.2.2.1 i hi).narrow X.2.2.2.2.2.1
theorem fS_value (X : CX p s m args meth c cc nL rt own c0 G A) {i : Nat} (hi : i < 13) : va_OF "java/lang/String" "value" "[B" (.ref (sa G (50 + i))) (sa G (30 + i)) A s s.heap := (X.2.2.2.2.2.2.2.2.2.2.2.2.2.2.2.2.2.2.2.2.2.1 i hi).narrow X.2.2.2.2.2.1
theorem fS_coder (X : CX p s m args meth c cc nL rt own c0 G A) {i : Nat} (hi : i < 13) : va_OF "java/lang/String" "coder" "B" (.int 0) (sa G (30 + i)) A s s.heap := (X.2.2.2.2.2.2.2.2.2.2.2.2.2.2.2.2.2.2.2.2.2.2.1 i hi).narrow X.2.2.2.2.2.1
theorem tSB (X : CX p s m args meth c cc nL rt own c0 G A) {i : Nat} (hi : i < 13) : va_T .byte (sa G (50 + i)) (sbyt i).length (fun j => .int ((sbyt i).getD j 0)) A s s.heap := (X.2.2.2.2.2.2.2.2.2.2.2.2.2.2.2.2.2.2.2.2.2.2.2.1 i hi).narrow X.2.2.2.2.2.1
theorem zCS (X : CX p s m args meth c cc nL rt own c0 G A) : va_Z "java/lang/String" "COMPACT_STRINGS" "Z" (.int 1) A s s.heap := (X.2.2.2.2.2.2.2.2.2.2.2.2.2.2.2.2.2.2.2.2.2.2.2.2.1).narrow X.2.2.2.2.2.1
theorem zFM (X : CX p s m args meth c cc nL rt own c0 G A) : va_Z "jdk/internal/util/Preconditions" "SIOOBE_FORMATTER" "Ljava/util/function/BiFunction;" (va_rf (fmt_G G)) A s s.heap := (X.2.2.2.2.2.2.2.2.2.2.2.2.2.2.2.2.2.2.2.2.2.2.2.2.2.2.1).narrow X.2.2.2.2.2.1
theorem kWD (X : CX p s m args meth c cc nL rt own c0 G A) : vk_R "RuledCalendar$Reader" 171 "MOTUWETHFRSASU" (sa G 42) s := X.2.2.2.2.2.2.2.2.2.2.2.2.2.2.2.2.2.2.2.2.2.2.2.2.2.1
theorem injP (X : CX p s m args meth c cc nL rt own c0 G A) {i j : Nat} (hi : i < 8) (hj : j < 8) (h : sa G (10 + i) = sa G (10 + j)) : i = j := X.2.2.2.2.2.2.2.2.2.2.2.2.2.2.2.2.2.2.2.2.2.2.2.2.2.2.2.2.1 i j hi hj h
theorem injF (X : CX p s m args meth c cc nL rt own c0 G A) {i j : Nat} (hi : i < 4) (hj : j < 4) (h : sa G (20 + i) = sa G (20 + j)) : i = j := X.2.2.2.2.2.2.2.2.2.2.2.2.2.2.2.2.2.2.2.2.2.2.2.2.2.2.2.2.2 i j hi hj h
theorem acP {x y : Nat} {off : Int} {tgt : Nat} (X : CX p s m args meth c cc nL rt own c0 G A) (h1 : x < 8) (h2 : y < 8) (hdg : decode cc pc = .ok (.if_acmp .ne off, 3)) (ht : (pc : Int) + off = (tgt : Int)) (kt : ¬ x = y → W p l e R s m args below meth c H locs cells slots Q (F0 m tgt ls rest)) (kf : x = y → W p l e R s m args below meth c H locs cells slots Q (F0 m (pc + 3) ls rest)) : W p l e R s m args below meth c H locs cells slots Q (F0 m pc ls (.ref (sa G (10 + y)) :: .ref (sa G (10 + x)) :: rest)) :=
  lv_acmp_ne (rx := some (sa G (10 + x))) (ry := some (sa G (10 + y))) X.1.1 X.1.2.1 hdg ht (fun z => kt (fun w => z (by rw [w]))) (fun z => kf (injP X h1 h2 (Option.some.inj z)))
theorem acPe {x y : Nat} {off : Int} {tgt : Nat} (X : CX p s m args meth c cc nL rt own c0 G A) (h1 : x < 8) (h2 : y < 8) (hdg : decode cc pc = .ok (.if_acmp .eq off, 3)) (ht : (pc : Int) + off = (tgt : Int)) (kt : x = y → W p l e R s m args below meth c H locs cells slots Q (F0 m tgt ls rest)) (kf : ¬ x = y → W p l e R s m args below meth c H locs cells slots Q (F0 m (pc + 3) ls rest)) : W p l e R s m args below meth c H locs cells slots Q (F0 m pc ls (.ref (sa G (10 + y)) :: .ref (sa G (10 + x)) :: rest)) :=
  lv_acmp_eq (rx := some (sa G (10 + x))) (ry := some (sa G (10 + y))) X.1.1 X.1.2.1 hdg ht (fun z => kt (injP X h1 h2 (Option.some.inj z))) (fun z => kf (fun w => z (by rw [w])))
theorem acF {x y : Nat} {off : Int} {tgt : Nat} (X : CX p s m args meth c cc nL rt own c0 G A) (h1 : x < 4) (h2 : y < 4) (hdg : decode cc pc = .ok (.if_acmp .ne off, 3)) (ht : (pc : Int) + off = (tgt : Int)) (kt : ¬ x = y → W p l e R s m args below meth c H locs cells slots Q (F0 m tgt ls rest)) (kf : x = y → W p l e R s m args below meth c H locs cells slots Q (F0 m (pc + 3) ls rest)) : W p l e R s m args below meth c H locs cells slots Q (F0 m pc ls (.ref (sa G (20 + y)) :: .ref (sa G (20 + x)) :: rest)) :=
  lv_acmp_ne (rx := some (sa G (20 + x))) (ry := some (sa G (20 + y))) X.1.1 X.1.2.1 hdg ht (fun z => kt (fun w => z (by rw [w]))) (fun z => kf (injF X h1 h2 (Option.some.inj z)))
theorem acFe {x y : Nat} {off : Int} {tgt : Nat} (X : CX p s m args meth c cc nL rt own c0 G A) (h1 : x < 4) (h2 : y < 4) (hdg : decode cc pc = .ok (.if_acmp .eq off, 3)) (ht : (pc : Int) + off = (tgt : Int)) (kt : x = y → W p l e R s m args below meth c H locs cells slots Q (F0 m tgt ls rest)) (kf : ¬ x = y → W p l e R s m args below meth c H locs cells slots Q (F0 m (pc + 3) ls rest)) : W p l e R s m args below meth c H locs cells slots Q (F0 m pc ls (.ref (sa G (20 + y)) :: .ref (sa G (20 + x)) :: rest)) :=
  lv_acmp_eq (rx := some (sa G (20 + x))) (ry := some (sa G (20 + y))) X.1.1 X.1.2.1 hdg ht (fun z => kt (injF X h1 h2 (Option.some.inj z))) (fun z => kf (fun w => z (by rw [w])))
theorem rcO {E : String} {t : Nat} (h : va_O E t A s s.heap) (hS : va_S A s.heap H locs) : ∃ cell : Cell, H[t]? = some cell ∧ cell.vm.isStatics = false ∧ s.vm.findClass E = some cell.cls := by
  obtain ⟨cell, h1, h2, h3, h4⟩ := h
  exact ⟨cell, by rw [hS.2.1 t (Array.getElem?_eq_some_iff.mp h1).1 h4]; exact h1, h2, h3⟩
end
def CtO (l : Launch) (G : Ev) (y : MethodName) (b : ByteArray) (mL : Nat) (rt : Option FieldType) (fr lo mc ms : Nat) (As : List Value) (ws ws' : va_W) (r : Option Nat) : Prop :=
  ∀ sz : Nat, Met l y (wU y b mL rt) { frames := fr, cells := mc, slots := ms, locals := lo } (va_Pc As (Pre G ws sz)) (va_Qe (fun i => sa G (10 + i)) (fun r' (_ : Unit) => r' = r) (fun _ t => va_P (DD G) vwCl ws' t.heap) (AL (fs ws) sz)) mc ms (AL (fs ws) sz)
theorem gSx {c0 : Cond} {own : String} {idx : Nat} {y : MethodName} {b : ByteArray} {n : Nat} {r : Option FieldType} (h1 : Cond.methodLink own idx y ∈ big) (h2 : Cond.static y ∈ big) (h4 : Cond.initialized y.cls ∈ big) (h : Cond.code y b n r ∈ big) : GoodIn (c0 :: big) (va_wsS own idx y (wU y b n r)) := by
  unfold va_wsS
  refine gIn _ ?_ h
  intro w hw
  simp only [List.mem_cons, List.not_mem_nil, or_false] at hw
  rcases hw with e | e | e <;> subst e <;> assumption
def gnr {α : Type} (ty : FieldType) (v : Int32) (f : Option α) : Option α := if vp_nar ty v = v then f else none
theorem gnr_s {α : Type} {ty : FieldType} {v : Int32} {f : Option α} {r : α} (h : gnr ty v f = some r) : narrow ty (.int v) = .int v ∧ f = some r := by
  unfold gnr at h
  by_cases c : vp_nar ty v = v
  · rw [if_pos c] at h
    refine ⟨?_, h⟩
    have e : narrow ty (.int v) = .int (vp_nar ty v) := by cases ty <;> rfl
    rw [e, c]
  · rw [if_neg c] at h; cases h
theorem oc_n {α β : Type} {x : Option β} {f : α → Option β} {r : Option β} (h : oc none x f = r) : x = r := h
theorem oc_j {α β : Type} {x : Option β} {f : α → Option β} {y : α} {r : Option β} (h : oc (some y) x f = r) : f y = r := h
section
variable {p : Program} {l : Launch} {e : Env} {R : Room} {s : State} {m : MethodId} {args : Array Value} {below : List Frame} {meth : Method} {c : Code} {H : Heap} {locs : List Loc} {cells slots : Nat} {Q : State → Prop} {cc : ByteArray} {nL : Nat} {rt : Option FieldType} {own : String} {c0 : Cond} {G : Ev} {pc : Nat} {ls : Array Slot} {rest st0 : List Value} {A : Nat → Prop} {ws wc wc' : va_W}
theorem ret_no {σ : Type} {wf : σ → va_W} {L : List Nat} {v r : Int32} {q1 : σ} {ty : FieldType} (C : CX p s m args meth c cc nL (some ty) own c0 G A) (hn : narrow ty (.int v) = .int v) (hm : some v = some r) (hP : va_P (DD G) vwCl (wf q1) H) (hS : va_S (AL L s.heap.size) s.heap H locs) (hdg : decode cc pc = .ok (.ireturn, 1)) :
    W p l e R s m args below meth c H locs cells slots (MQ below (va_Qi (fun r' (_ : Unit) => r' = r) (fun _ t => va_P (DD G) vwCl (wf q1) t.heap) (AL L s.heap.size)) args s cells slots (AL L s.heap.size)) (F0 m pc ls [.int v]) := by
  cases hm
  exact W.zret C.1.1 C.1.2.1 C.2.2.1 hn (fun t ht hW => ⟨⟨v, (), rfl, rfl, by subst ht; exact hP⟩, hS.F ht⟩) hS.2.2 hdg C.2.2.2.1
theorem ret_vo {σ : Type} {wf : σ → va_W} {L : List Nat} {q1 : σ} (C : CX p s m args meth c cc nL none own c0 G A) (hP : va_P (DD G) vwCl (wf q1) H) (hS : va_S (AL L s.heap.size) s.heap H locs) (hdg : decode cc pc = .ok (.return_, 1)) :
    W p l e R s m args below meth c H locs cells slots (MQ below (va_Qv (fun _ : Unit => True) (fun _ t => va_P (DD G) vwCl (wf q1) t.heap) (AL L s.heap.size)) args s cells slots (AL L s.heap.size)) (F0 m pc ls []) := ret_v (wf := wf) (q1 := q1) C rfl hP hS hdg
theorem ret_oo {σ : Type} {wf : σ → va_W} {L : List Nat} {v r : Option Nat} {q1 : σ} {x : Value} {nm : String} (C : CX p s m args meth c cc nL (some (.object nm)) own c0 G A) (hv : x = va_re (fun i => sa G (10 + i)) v) (hm : some v = some r) (hP : va_P (DD G) vwCl (wf q1) H) (hS : va_S (AL L s.heap.size) s.heap H locs) (hdg : decode cc pc = .ok (.areturn, 1)) :
    W p l e R s m args below meth c H locs cells slots (MQ below (va_Qe (fun i => sa G (10 + i)) (fun r' (_ : Unit) => r' = r) (fun _ t => va_P (DD G) vwCl (wf q1) t.heap) (AL L s.heap.size)) args s cells slots (AL L s.heap.size)) (F0 m pc ls [x]) := by
  cases hm
  subst hv
  exact W.aret C.1.1 C.1.2.1 C.2.2.1 (Or.inl ⟨nm, rfl⟩) (va_re_or _ v) (fun t ht hW => ⟨⟨v, (), rfl, rfl, by subst ht; exact hP⟩, hS.F ht⟩) hS.2.2 hdg C.2.2.2.1
theorem goT_i {y : MethodName} {b : ByteArray} {mL : Nat} {rt2 : Option FieldType} {fr lo mc ms n idx : Nat} {As : List Value} {r : Int32} (X : CX p s m args meth c cc nL rt own c0 G A) (hc : CtI l G y b mL rt2 fr lo mc ms As wc wc' r)
    (hG : GoodIn (c0 :: big) (va_wsS own idx y (wU y b mL rt2))) (hd : y.cls ≠ "java/lang/invoke/MethodHandle" ∧ y.cls ≠ "java/lang/invoke/VarHandle" ∧ (parseMethodDescriptor y.desc).map (fun d => d.parameters.length) = some n) (hR : fr + 1 ≤ R.frames ∧ 8 + (mL + 11) + lo ≤ R.locals)
    (hPc : va_P (DD G) vwCl wc H) (hDc : va_D A wc) (hS : va_S A s.heap H locs)
    (hst : st0 = As.reverse ++ rest) (hn : As.length = n) (hl : ls.size = nL) (hW : (rest.map fun v => v.category).sum ≤ 8) (hdg : decode cc pc = .ok (.invokestatic idx, 3)) (hf : cells + mc ≤ R.cells ∧ slots + ms ≤ R.slots)
    (kk : ∀ (H1 : Heap) (locs1 : List Loc), va_P (DD G) vwCl wc' H1 → (∀ q : Nat, q < H.size → q ∉ fs wc → H1[q]? = H[q]?) → va_S A s.heap H1 locs1 → W p l e R s m args below meth c H1 locs1 (cells + mc) (slots + ms) Q (F0 m (pc + 3) ls (.int r :: rest))) : W p l e R s m args below meth c H locs cells slots Q (F0 m pc ls st0) := by
  refine va_calli (va_runS (As := As) (rest := rest) X.1 (hc H.size) (va_cwS n X.1.2.2.2.2 hG rfl rfl rfl hd hR) ⟨blind, pre_of X hS hPc hDc As⟩ rfl hn hl hst (lv_room hW) hdg hf) hS (fun q _ h => AL_sub hS X.2.2.2.2.1 hDc q h) (AL_sub hS X.2.2.2.2.1 hDc) (fun r1 u t H1 locs1 ht hvm hw hB hz1 hk1 hS1 => ?_)
  subst hw; subst ht
  exact kk _ _ hB (fun q h1 h2 => hk1 q h1 (fun z => z.elim h2 (fun z => absurd h1 (Nat.not_lt.mpr z)))) hS1
theorem goT_l {y : MethodName} {b : ByteArray} {mL : Nat} {rt2 : Option FieldType} {fr lo mc ms n idx : Nat} {As : List Value} {r : Int64} (X : CX p s m args meth c cc nL rt own c0 G A) (hc : CtJ l G y b mL rt2 fr lo mc ms As wc wc' r)
    (hG : GoodIn (c0 :: big) (va_wsS own idx y (wU y b mL rt2))) (hd : y.cls ≠ "java/lang/invoke/MethodHandle" ∧ y.cls ≠ "java/lang/invoke/VarHandle" ∧ (parseMethodDescriptor y.desc).map (fun d => d.parameters.length) = some n) (hR : fr + 1 ≤ R.frames ∧ 8 + (mL + 11) + lo ≤ R.locals)
    (hPc : va_P (DD G) vwCl wc H) (hDc : va_D A wc) (hS : va_S A s.heap H locs)
    (hst : st0 = As.reverse ++ rest) (hn : As.length = n) (hl : ls.size = nL) (hW : (rest.map fun v => v.category).sum ≤ 8) (hdg : decode cc pc = .ok (.invokestatic idx, 3)) (hf : cells + mc ≤ R.cells ∧ slots + ms ≤ R.slots)
    (kk : ∀ (H1 : Heap) (locs1 : List Loc), va_P (DD G) vwCl wc' H1 → (∀ q : Nat, q < H.size → q ∉ fs wc → H1[q]? = H[q]?) → va_S A s.heap H1 locs1 → W p l e R s m args below meth c H1 locs1 (cells + mc) (slots + ms) Q (F0 m (pc + 3) ls (.long r :: rest))) : W p l e R s m args below meth c H locs cells slots Q (F0 m pc ls st0) := by
  refine va_calll (va_runS (As := As) (rest := rest) X.1 (hc H.size) (va_cwS n X.1.2.2.2.2 hG rfl rfl rfl hd hR) ⟨blind, pre_of X hS hPc hDc As⟩ rfl hn hl hst (lv_room hW) hdg hf) hS (fun q _ h => AL_sub hS X.2.2.2.2.1 hDc q h) (AL_sub hS X.2.2.2.2.1 hDc) (fun r1 u t H1 locs1 ht hvm hw hB hz1 hk1 hS1 => ?_)
  subst hw; subst ht
  exact kk _ _ hB (fun q h1 h2 => hk1 q h1 (fun z => z.elim h2 (fun z => absurd h1 (Nat.not_lt.mpr z)))) hS1
theorem goT_v {y : MethodName} {b : ByteArray} {mL : Nat} {rt2 : Option FieldType} {fr lo mc ms n idx : Nat} {As : List Value}  (X : CX p s m args meth c cc nL rt own c0 G A) (hc : CtV l G y b mL rt2 fr lo mc ms As wc wc')
    (hG : GoodIn (c0 :: big) (va_wsS own idx y (wU y b mL rt2))) (hd : y.cls ≠ "java/lang/invoke/MethodHandle" ∧ y.cls ≠ "java/lang/invoke/VarHandle" ∧ (parseMethodDescriptor y.desc).map (fun d => d.parameters.length) = some n) (hR : fr + 1 ≤ R.frames ∧ 8 + (mL + 11) + lo ≤ R.locals)
    (hPc : va_P (DD G) vwCl wc H) (hDc : va_D A wc) (hS : va_S A s.heap H locs)
    (hst : st0 = As.reverse ++ rest) (hn : As.length = n) (hl : ls.size = nL) (hW : (rest.map fun v => v.category).sum ≤ 8) (hdg : decode cc pc = .ok (.invokestatic idx, 3)) (hf : cells + mc ≤ R.cells ∧ slots + ms ≤ R.slots)
    (kk : ∀ (H1 : Heap) (locs1 : List Loc), va_P (DD G) vwCl wc' H1 → (∀ q : Nat, q < H.size → q ∉ fs wc → H1[q]? = H[q]?) → va_S A s.heap H1 locs1 → W p l e R s m args below meth c H1 locs1 (cells + mc) (slots + ms) Q (F0 m (pc + 3) ls rest)) : W p l e R s m args below meth c H locs cells slots Q (F0 m pc ls st0) := by
  refine va_callv (va_runS (As := As) (rest := rest) X.1 (hc H.size) (va_cwS n X.1.2.2.2.2 hG rfl rfl rfl hd hR) ⟨blind, pre_of X hS hPc hDc As⟩ rfl hn hl hst (lv_room hW) hdg hf) hS (fun q _ h => AL_sub hS X.2.2.2.2.1 hDc q h) (AL_sub hS X.2.2.2.2.1 hDc) (fun u t H1 locs1 ht hvm hw hB hz1 hk1 hS1 => ?_)
  subst ht
  exact kk _ _ hB (fun q h1 h2 => hk1 q h1 (fun z => z.elim h2 (fun z => absurd h1 (Nat.not_lt.mpr z)))) hS1
theorem goV_o {y : MethodName} {b : ByteArray} {mL : Nat} {rt2 : Option FieldType} {fr lo mc ms n ad idx : Nat} {As : List Value} {r : Option Nat} {C : String} (X : CX p s m args meth c cc nL rt own c0 G A) (hc : CtO l G y b mL rt2 fr lo mc ms (.ref ad :: As) wc wc' r)
    (hG : GoodIn (c0 :: big) (wsV own idx C y (wU y b mL rt2))) (hd : y.cls = C ∧ y.cls ≠ "java/lang/invoke/MethodHandle" ∧ y.cls ≠ "java/lang/invoke/VarHandle" ∧ (parseMethodDescriptor y.desc).map (fun d => d.parameters.length) = some n) (hR : fr + 1 ≤ R.frames ∧ 8 + (mL + 11) + lo ≤ R.locals)
    (hrecv : ∃ cell : Cell, H[ad]? = some cell ∧ cell.vm.isStatics = false ∧ s.vm.findClass C = some cell.cls) (hPc : va_P (DD G) vwCl wc H) (hDc : va_D A wc) (hS : va_S A s.heap H locs)
    (hst : st0 = As.reverse ++ .ref ad :: rest) (hn : As.length = n) (hl : ls.size = nL) (hW : (rest.map fun v => v.category).sum ≤ 8) (hdg : decode cc pc = .ok (.invokevirtual idx, 3)) (hf : cells + mc ≤ R.cells ∧ slots + ms ≤ R.slots)
    (kk : ∀ (H1 : Heap) (locs1 : List Loc), va_P (DD G) vwCl wc' H1 → (∀ q : Nat, q < H.size → q ∉ fs wc → H1[q]? = H[q]?) → va_S A s.heap H1 locs1 → W p l e R s m args below meth c H1 locs1 (cells + mc) (slots + ms) Q (F0 m (pc + 3) ls (va_re (fun i => sa G (10 + i)) r :: rest))) : W p l e R s m args below meth c H locs cells slots Q (F0 m pc ls st0) := by
  refine va_calle (va_runV (As := As) (rest := rest) X.1 (hc H.size) (cwV n X.1.2.2.2.2 hG rfl rfl rfl hd hR) ⟨blind, hrecv, pre_of X hS hPc hDc (.ref ad :: As)⟩ rfl hn hl hst (lv_room hW) hdg hf) hS (fun q _ h => AL_sub hS X.2.2.2.2.1 hDc q h) (AL_sub hS X.2.2.2.2.1 hDc) (fun r1 u t H1 locs1 ht hvm hw hB hz1 hk1 hS1 => ?_)
  subst hw; subst ht
  exact kk _ _ hB (fun q h1 h2 => hk1 q h1 (fun z => z.elim h2 (fun z => absurd h1 (Nat.not_lt.mpr z)))) hS1
theorem goN_v {y : MethodName} {b : ByteArray} {mL : Nat} {rt2 : Option FieldType} {fr lo mc ms n ad idx : Nat} {As : List Value} {C host : String} (X : CX p s m args meth c cc nL rt own c0 G A) (hc : CtV l G y b mL rt2 fr lo mc ms (.ref ad :: As) wc wc')
    (hw : va_Nw (.methodLinkNest own idx y host) s) (hi : Cond.instanceMethod y ∈ big) (hsl : Cond.selects C y y ∈ big) (hin : Cond.initialized y.cls ∈ big) (hcd : Cond.code y b mL rt2 ∈ big) (hd : y.cls ≠ "java/lang/invoke/MethodHandle" ∧ y.cls ≠ "java/lang/invoke/VarHandle" ∧ (parseMethodDescriptor y.desc).map (fun d => d.parameters.length) = some n) (hR : fr + 1 ≤ R.frames ∧ 8 + (mL + 11) + lo ≤ R.locals)
    (hrecv : ∃ cell : Cell, H[ad]? = some cell ∧ cell.vm.isStatics = false ∧ s.vm.findClass C = some cell.cls) (hPc : va_P (DD G) vwCl wc H) (hDc : va_D A wc) (hS : va_S A s.heap H locs)
    (hst : st0 = As.reverse ++ .ref ad :: rest) (hn : As.length = n) (hl : ls.size = nL) (hW : (rest.map fun v => v.category).sum ≤ 8) (hdg : decode cc pc = .ok (.invokevirtual idx, 3)) (hf : cells + mc ≤ R.cells ∧ slots + ms ≤ R.slots)
    (kk : ∀ (H1 : Heap) (locs1 : List Loc), va_P (DD G) vwCl wc' H1 → (∀ q : Nat, q < H.size → q ∉ fs wc → H1[q]? = H[q]?) → va_S A s.heap H1 locs1 → W p l e R s m args below meth c H1 locs1 (cells + mc) (slots + ms) Q (F0 m (pc + 3) ls rest)) : W p l e R s m args below meth c H locs cells slots Q (F0 m pc ls st0) := by
  have hts := X.1.2.2.2.2
  refine va_callv (va_runVN (As := As) (rest := rest) X.1 (hc H.size) ⟨va_cnB n hts (gU hcd) rfl rfl rfl hw (hts _ (List.mem_cons_of_mem _ hin)) hd hR, hts _ (List.mem_cons_of_mem _ hi), hts _ (List.mem_cons_of_mem _ hsl)⟩ ⟨blind, hrecv, pre_of X hS hPc hDc (.ref ad :: As)⟩ rfl hn hl hst (lv_room hW) hdg hf) hS (fun q _ h => AL_sub hS X.2.2.2.2.1 hDc q h) (AL_sub hS X.2.2.2.2.1 hDc) (fun u t H1 locs1 ht hvm hw hB hz1 hk1 hS1 => ?_)
  subst ht
  exact kk _ _ hB (fun q h1 h2 => hk1 q h1 (fun z => z.elim h2 (fun z => absurd h1 (Nat.not_lt.mpr z)))) hS1
end
def wAI (G : Ev) (a0 len : Nat) (f : Nat → Int32) : va_W := [(a0, .inl (cA G 2, len, .inl f))]
theorem dAI {A : Nat → Prop} {G : Ev} {a0 len : Nat} {q q1 : Nat → Int32} (h : va_D A (wAI G a0 len q)) : va_D A (wAI G a0 len q1) := va_D_same (ws := wAI G a0 len q) rfl h
def wAB (G : Ev) (a0 len : Nat) (f : Nat → Int32) : va_W := [(a0, .inl (cA G 0, len, .inl f))]
theorem dAB {A : Nat → Prop} {G : Ev} {a0 len : Nat} {q q1 : Nat → Int32} (h : va_D A (wAB G a0 len q)) : va_D A (wAB G a0 len q1) := va_D_same (ws := wAB G a0 len q) rfl h
def wAJ (G : Ev) (a0 len : Nat) (f : Nat → Int64) : va_W := [(a0, .inl (cA G 3, len, .inr (.inl f)))]
theorem dAJ {A : Nat → Prop} {G : Ev} {a0 len : Nat} {q q1 : Nat → Int64} (h : va_D A (wAJ G a0 len q)) : va_D A (wAJ G a0 len q1) := va_D_same (ws := wAJ G a0 len q) rfl h
