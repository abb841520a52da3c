-- ===== PART A: goes FIRST, ahead of the names: the tables' words, and 'selects' of the private methods out of them =====
/-- a private method of a class that the tables say can be made, by its rows of tables_1 -/
def lw_okq (q : MethodName × Nat) : Prop := (q.1.cls ≠ "java/lang/invoke/MethodHandle" ∧ q.1.cls ≠ "java/lang/invoke/VarHandle") ∧ Cond.instantiable q.1.cls q.2 ∈ tables_1 ∧ Cond.privateMethod q.1 ∈ tables_1 ∧ Cond.instanceMethod q.1 ∈ tables_1
theorem lw_p0 : lw_okq (⟨"RuledCalendar$Rule", "forget", "()V"⟩, 13) := ⟨⟨by decide +kernel, by decide +kernel⟩, List.mem_of_getElem? (i := 54) (by decide +kernel), List.mem_of_getElem? (i := 60) (by decide +kernel), List.mem_of_getElem? (i := 61) (by decide +kernel)⟩
theorem lw_p1 : lw_okq (⟨"java/lang/Throwable", "fillInStackTrace", "(I)Ljava/lang/Throwable;"⟩, 6) := ⟨⟨by decide +kernel, by decide +kernel⟩, List.mem_of_getElem? (i := 277) (by decide +kernel), List.mem_of_getElem? (i := 275) (by decide +kernel), List.mem_of_getElem? (i := 276) (by decide +kernel)⟩
theorem lw_p2 : lw_okq (⟨"RuledCalendar", "freeNumber", "()I"⟩, 10) := ⟨⟨by decide +kernel, by decide +kernel⟩, List.mem_of_getElem? (i := 24) (by decide +kernel), List.mem_of_getElem? (i := 321) (by decide +kernel), List.mem_of_getElem? (i := 322) (by decide +kernel)⟩
theorem lw_p3 : lw_okq (⟨"RuledCalendar$Reader", "readPart", "()V"⟩, 6) := ⟨⟨by decide +kernel, by decide +kernel⟩, List.mem_of_getElem? (i := 129) (by decide +kernel), List.mem_of_getElem? (i := 333) (by decide +kernel), List.mem_of_getElem? (i := 334) (by decide +kernel)⟩
theorem lw_p4 : lw_okq (⟨"RuledCalendar$Reader", "takeLetters", "(I)I"⟩, 6) := ⟨⟨by decide +kernel, by decide +kernel⟩, List.mem_of_getElem? (i := 129) (by decide +kernel), List.mem_of_getElem? (i := 337) (by decide +kernel), List.mem_of_getElem? (i := 338) (by decide +kernel)⟩
theorem lw_p5 : lw_okq (⟨"RuledCalendar$Reader", "seesLetter", "()Z"⟩, 6) := ⟨⟨by decide +kernel, by decide +kernel⟩, List.mem_of_getElem? (i := 129) (by decide +kernel), List.mem_of_getElem? (i := 341) (by decide +kernel), List.mem_of_getElem? (i := 342) (by decide +kernel)⟩
theorem lw_p6 : lw_okq (⟨"RuledCalendar$Reader", "fail", "(II)V"⟩, 6) := ⟨⟨by decide +kernel, by decide +kernel⟩, List.mem_of_getElem? (i := 129) (by decide +kernel), List.mem_of_getElem? (i := 345) (by decide +kernel), List.mem_of_getElem? (i := 346) (by decide +kernel)⟩
theorem lw_p7 : lw_okq (⟨"RuledCalendar$Reader", "partNamed", "(I)LRuledCalendar$Part;"⟩, 6) := ⟨⟨by decide +kernel, by decide +kernel⟩, List.mem_of_getElem? (i := 129) (by decide +kernel), List.mem_of_getElem? (i := 349) (by decide +kernel), List.mem_of_getElem? (i := 350) (by decide +kernel)⟩
theorem lw_p8 : lw_okq (⟨"RuledCalendar$Reader", "isWord", "(Ljava/lang/String;I)Z"⟩, 6) := ⟨⟨by decide +kernel, by decide +kernel⟩, List.mem_of_getElem? (i := 129) (by decide +kernel), List.mem_of_getElem? (i := 355) (by decide +kernel), List.mem_of_getElem? (i := 356) (by decide +kernel)⟩
theorem lw_p9 : lw_okq (⟨"RuledCalendar$Reader", "take", "(C)V"⟩, 6) := ⟨⟨by decide +kernel, by decide +kernel⟩, List.mem_of_getElem? (i := 129) (by decide +kernel), List.mem_of_getElem? (i := 411) (by decide +kernel), List.mem_of_getElem? (i := 412) (by decide +kernel)⟩
theorem lw_p10 : lw_okq (⟨"RuledCalendar$Reader", "sees", "(C)Z"⟩, 6) := ⟨⟨by decide +kernel, by decide +kernel⟩, List.mem_of_getElem? (i := 129) (by decide +kernel), List.mem_of_getElem? (i := 415) (by decide +kernel), List.mem_of_getElem? (i := 416) (by decide +kernel)⟩
theorem lw_p11 : lw_okq (⟨"RuledCalendar$Reader", "readValue", "(LRuledCalendar$Part;)V"⟩, 6) := ⟨⟨by decide +kernel, by decide +kernel⟩, List.mem_of_getElem? (i := 129) (by decide +kernel), List.mem_of_getElem? (i := 419) (by decide +kernel), List.mem_of_getElem? (i := 420) (by decide +kernel)⟩
theorem lw_p12 : lw_okq (⟨"RuledCalendar$Reader", "readFrequency", "()V"⟩, 6) := ⟨⟨by decide +kernel, by decide +kernel⟩, List.mem_of_getElem? (i := 129) (by decide +kernel), List.mem_of_getElem? (i := 425) (by decide +kernel), List.mem_of_getElem? (i := 426) (by decide +kernel)⟩
theorem lw_p13 : lw_okq (⟨"RuledCalendar$Reader", "readWeekday", "()V"⟩, 6) := ⟨⟨by decide +kernel, by decide +kernel⟩, List.mem_of_getElem? (i := 129) (by decide +kernel), List.mem_of_getElem? (i := 433) (by decide +kernel), List.mem_of_getElem? (i := 434) (by decide +kernel)⟩
theorem lw_p14 : lw_okq (⟨"RuledCalendar$Reader", "seesFigure", "()Z"⟩, 6) := ⟨⟨by decide +kernel, by decide +kernel⟩, List.mem_of_getElem? (i := 129) (by decide +kernel), List.mem_of_getElem? (i := 437) (by decide +kernel), List.mem_of_getElem? (i := 438) (by decide +kernel)⟩
theorem lw_p15 : lw_okq (⟨"RuledCalendar$Reader", "readNumber", "(LRuledCalendar$Part;)I"⟩, 6) := ⟨⟨by decide +kernel, by decide +kernel⟩, List.mem_of_getElem? (i := 129) (by decide +kernel), List.mem_of_getElem? (i := 441) (by decide +kernel), List.mem_of_getElem? (i := 442) (by decide +kernel)⟩
def lw_privs_1 : List (MethodName × Nat) := [(⟨"RuledCalendar$Rule", "forget", "()V"⟩, 13), (⟨"java/lang/Throwable", "fillInStackTrace", "(I)Ljava/lang/Throwable;"⟩, 6), (⟨"RuledCalendar", "freeNumber", "()I"⟩, 10), (⟨"RuledCalendar$Reader", "readPart", "()V"⟩, 6), (⟨"RuledCalendar$Reader", "takeLetters", "(I)I"⟩, 6), (⟨"RuledCalendar$Reader", "seesLetter", "()Z"⟩, 6), (⟨"RuledCalendar$Reader", "fail", "(II)V"⟩, 6), (⟨"RuledCalendar$Reader", "partNamed", "(I)LRuledCalendar$Part;"⟩, 6), (⟨"RuledCalendar$Reader", "isWord", "(Ljava/lang/String;I)Z"⟩, 6), (⟨"RuledCalendar$Reader", "take", "(C)V"⟩, 6), (⟨"RuledCalendar$Reader", "sees", "(C)Z"⟩, 6), (⟨"RuledCalendar$Reader", "readValue", "(LRuledCalendar$Part;)V"⟩, 6), (⟨"RuledCalendar$Reader", "readFrequency", "()V"⟩, 6), (⟨"RuledCalendar$Reader", "readWeekday", "()V"⟩, 6), (⟨"RuledCalendar$Reader", "seesFigure", "()Z"⟩, 6), (⟨"RuledCalendar$Reader", "readNumber", "(LRuledCalendar$Part;)I"⟩, 6)]
theorem lw_r1 : ∀ q ∈ lw_privs_1, lw_okq q := List.forall_mem_cons.mpr ⟨lw_p0, List.forall_mem_cons.mpr ⟨lw_p1, List.forall_mem_cons.mpr ⟨lw_p2, List.forall_mem_cons.mpr ⟨lw_p3, List.forall_mem_cons.mpr ⟨lw_p4, List.forall_mem_cons.mpr ⟨lw_p5, List.forall_mem_cons.mpr ⟨lw_p6, List.forall_mem_cons.mpr ⟨lw_p7, List.forall_mem_cons.mpr ⟨lw_p8, List.forall_mem_cons.mpr ⟨lw_p9, List.forall_mem_cons.mpr ⟨lw_p10, List.forall_mem_cons.mpr ⟨lw_p11, List.forall_mem_cons.mpr ⟨lw_p12, List.forall_mem_cons.mpr ⟨lw_p13, List.forall_mem_cons.mpr ⟨lw_p14, List.forall_mem_cons.mpr ⟨lw_p15, fun _ h => absurd h List.not_mem_nil⟩⟩⟩⟩⟩⟩⟩⟩⟩⟩⟩⟩⟩⟩⟩⟩
theorem lw_p16 : lw_okq (⟨"RuledCalendar$Reader", "weekdayAt", "(I)I"⟩, 6) := ⟨⟨by decide +kernel, by decide +kernel⟩, List.mem_of_getElem? (i := 129) (by decide +kernel), List.mem_of_getElem? (i := 450) (by decide +kernel), List.mem_of_getElem? (i := 451) (by decide +kernel)⟩
theorem lw_p17 : lw_okq (⟨"RuledCalendar$Filler", "countedDays", "(I)I"⟩, 8) := ⟨⟨by decide +kernel, by decide +kernel⟩, List.mem_of_getElem? (i := 156) (by decide +kernel), List.mem_of_getElem? (i := 542) (by decide +kernel), List.mem_of_getElem? (i := 543) (by decide +kernel)⟩
theorem lw_p18 : lw_okq (⟨"RuledCalendar$Filler", "counts", "(II)Z"⟩, 8) := ⟨⟨by decide +kernel, by decide +kernel⟩, List.mem_of_getElem? (i := 156) (by decide +kernel), List.mem_of_getElem? (i := 546) (by decide +kernel), List.mem_of_getElem? (i := 547) (by decide +kernel)⟩
theorem lw_p19 : lw_okq (⟨"RuledCalendar$Filler", "suitingDays", "(I)I"⟩, 8) := ⟨⟨by decide +kernel, by decide +kernel⟩, List.mem_of_getElem? (i := 156) (by decide +kernel), List.mem_of_getElem? (i := 550) (by decide +kernel), List.mem_of_getElem? (i := 551) (by decide +kernel)⟩
theorem lw_p20 : lw_okq (⟨"RuledCalendar$Filler", "monthSuits", "(I)Z"⟩, 8) := ⟨⟨by decide +kernel, by decide +kernel⟩, List.mem_of_getElem? (i := 156) (by decide +kernel), List.mem_of_getElem? (i := 554) (by decide +kernel), List.mem_of_getElem? (i := 555) (by decide +kernel)⟩
theorem lw_p21 : lw_okq (⟨"RuledCalendar$Filler", "byMonthDay", "(I)I"⟩, 8) := ⟨⟨by decide +kernel, by decide +kernel⟩, List.mem_of_getElem? (i := 156) (by decide +kernel), List.mem_of_getElem? (i := 566) (by decide +kernel), List.mem_of_getElem? (i := 567) (by decide +kernel)⟩
theorem lw_p22 : lw_okq (⟨"RuledCalendar$Filler", "byWeekday", "(I)I"⟩, 8) := ⟨⟨by decide +kernel, by decide +kernel⟩, List.mem_of_getElem? (i := 156) (by decide +kernel), List.mem_of_getElem? (i := 571) (by decide +kernel), List.mem_of_getElem? (i := 572) (by decide +kernel)⟩
theorem lw_p23 : lw_okq (⟨"RuledCalendar$Filler", "numberedWeekdays", "(I)I"⟩, 8) := ⟨⟨by decide +kernel, by decide +kernel⟩, List.mem_of_getElem? (i := 156) (by decide +kernel), List.mem_of_getElem? (i := 575) (by decide +kernel), List.mem_of_getElem? (i := 576) (by decide +kernel)⟩
theorem lw_p24 : lw_okq (⟨"RuledCalendar$Filler", "plainWeekdays", "(II)I"⟩, 8) := ⟨⟨by decide +kernel, by decide +kernel⟩, List.mem_of_getElem? (i := 156) (by decide +kernel), List.mem_of_getElem? (i := 580) (by decide +kernel), List.mem_of_getElem? (i := 581) (by decide +kernel)⟩
theorem lw_p25 : lw_okq (⟨"RuledCalendar$Filler", "choosePlaces", "(II)V"⟩, 8) := ⟨⟨by decide +kernel, by decide +kernel⟩, List.mem_of_getElem? (i := 156) (by decide +kernel), List.mem_of_getElem? (i := 586) (by decide +kernel), List.mem_of_getElem? (i := 587) (by decide +kernel)⟩
theorem lw_p26 : lw_okq (⟨"RuledCalendar$Filler", "keepChosen", "()V"⟩, 8) := ⟨⟨by decide +kernel, by decide +kernel⟩, List.mem_of_getElem? (i := 156) (by decide +kernel), List.mem_of_getElem? (i := 600) (by decide +kernel), List.mem_of_getElem? (i := 601) (by decide +kernel)⟩
theorem lw_p27 : lw_okq (⟨"RuledCalendar$Filler", "gather", "(II)V"⟩, 8) := ⟨⟨by decide +kernel, by decide +kernel⟩, List.mem_of_getElem? (i := 156) (by decide +kernel), List.mem_of_getElem? (i := 608) (by decide +kernel), List.mem_of_getElem? (i := 609) (by decide +kernel)⟩
theorem lw_p28 : lw_okq (⟨"RuledCalendar$Filler", "cutEnds", "(II)V"⟩, 8) := ⟨⟨by decide +kernel, by decide +kernel⟩, List.mem_of_getElem? (i := 156) (by decide +kernel), List.mem_of_getElem? (i := 612) (by decide +kernel), List.mem_of_getElem? (i := 613) (by decide +kernel)⟩
theorem lw_p29 : lw_okq (⟨"RuledCalendar", "knownThing", "(I)LRuledCalendar$Thing;"⟩, 10) := ⟨⟨by decide +kernel, by decide +kernel⟩, List.mem_of_getElem? (i := 24) (by decide +kernel), List.mem_of_getElem? (i := 631) (by decide +kernel), List.mem_of_getElem? (i := 632) (by decide +kernel)⟩
theorem lw_p30 : lw_okq (⟨"RuledCalendar", "busyDays", "(I)I"⟩, 10) := ⟨⟨by decide +kernel, by decide +kernel⟩, List.mem_of_getElem? (i := 24) (by decide +kernel), List.mem_of_getElem? (i := 718) (by decide +kernel), List.mem_of_getElem? (i := 719) (by decide +kernel)⟩
theorem lw_p31 : lw_okq (⟨"RuledCalendar", "daysOfThing", "(II)I"⟩, 10) := ⟨⟨by decide +kernel, by decide +kernel⟩, List.mem_of_getElem? (i := 24) (by decide +kernel), List.mem_of_getElem? (i := 722) (by decide +kernel), List.mem_of_getElem? (i := 723) (by decide +kernel)⟩
def lw_privs_2 : List (MethodName × Nat) := [(⟨"RuledCalendar$Reader", "weekdayAt", "(I)I"⟩, 6), (⟨"RuledCalendar$Filler", "countedDays", "(I)I"⟩, 8), (⟨"RuledCalendar$Filler", "counts", "(II)Z"⟩, 8), (⟨"RuledCalendar$Filler", "suitingDays", "(I)I"⟩, 8), (⟨"RuledCalendar$Filler", "monthSuits", "(I)Z"⟩, 8), (⟨"RuledCalendar$Filler", "byMonthDay", "(I)I"⟩, 8), (⟨"RuledCalendar$Filler", "byWeekday", "(I)I"⟩, 8), (⟨"RuledCalendar$Filler", "numberedWeekdays", "(I)I"⟩, 8), (⟨"RuledCalendar$Filler", "plainWeekdays", "(II)I"⟩, 8), (⟨"RuledCalendar$Filler", "choosePlaces", "(II)V"⟩, 8), (⟨"RuledCalendar$Filler", "keepChosen", "()V"⟩, 8), (⟨"RuledCalendar$Filler", "gather", "(II)V"⟩, 8), (⟨"RuledCalendar$Filler", "cutEnds", "(II)V"⟩, 8), (⟨"RuledCalendar", "knownThing", "(I)LRuledCalendar$Thing;"⟩, 10), (⟨"RuledCalendar", "busyDays", "(I)I"⟩, 10), (⟨"RuledCalendar", "daysOfThing", "(II)I"⟩, 10)]
theorem lw_r2 : ∀ q ∈ lw_privs_2, lw_okq q := List.forall_mem_cons.mpr ⟨lw_p16, List.forall_mem_cons.mpr ⟨lw_p17, List.forall_mem_cons.mpr ⟨lw_p18, List.forall_mem_cons.mpr ⟨lw_p19, List.forall_mem_cons.mpr ⟨lw_p20, List.forall_mem_cons.mpr ⟨lw_p21, List.forall_mem_cons.mpr ⟨lw_p22, List.forall_mem_cons.mpr ⟨lw_p23, List.forall_mem_cons.mpr ⟨lw_p24, List.forall_mem_cons.mpr ⟨lw_p25, List.forall_mem_cons.mpr ⟨lw_p26, List.forall_mem_cons.mpr ⟨lw_p27, List.forall_mem_cons.mpr ⟨lw_p28, List.forall_mem_cons.mpr ⟨lw_p29, List.forall_mem_cons.mpr ⟨lw_p30, List.forall_mem_cons.mpr ⟨lw_p31, fun _ h => absurd h List.not_mem_nil⟩⟩⟩⟩⟩⟩⟩⟩⟩⟩⟩⟩⟩⟩⟩⟩
theorem lw_p32 : lw_okq (⟨"RuledCalendar", "listMonth", "(II)V"⟩, 10) := ⟨⟨by decide +kernel, by decide +kernel⟩, List.mem_of_getElem? (i := 24) (by decide +kernel), List.mem_of_getElem? (i := 726) (by decide +kernel), List.mem_of_getElem? (i := 727) (by decide +kernel)⟩
theorem lw_p33 : lw_okq (⟨"RuledCalendar", "listDay", "(II)V"⟩, 10) := ⟨⟨by decide +kernel, by decide +kernel⟩, List.mem_of_getElem? (i := 24) (by decide +kernel), List.mem_of_getElem? (i := 730) (by decide +kernel), List.mem_of_getElem? (i := 731) (by decide +kernel)⟩
theorem lw_p34 : lw_okq (⟨"RuledCalendar", "countThings", "(II)V"⟩, 10) := ⟨⟨by decide +kernel, by decide +kernel⟩, List.mem_of_getElem? (i := 24) (by decide +kernel), List.mem_of_getElem? (i := 749) (by decide +kernel), List.mem_of_getElem? (i := 750) (by decide +kernel)⟩
theorem lw_p35 : lw_okq (⟨"RuledCalendarModel", "monthLength", "(II)I"⟩, 26) := ⟨⟨by decide +kernel, by decide +kernel⟩, List.mem_of_getElem? (i := 774) (by decide +kernel), List.mem_of_getElem? (i := 782) (by decide +kernel), List.mem_of_getElem? (i := 783) (by decide +kernel)⟩
theorem lw_p36 : lw_okq (⟨"RuledCalendarModel", "dayOf", "(I)I"⟩, 26) := ⟨⟨by decide +kernel, by decide +kernel⟩, List.mem_of_getElem? (i := 774) (by decide +kernel), List.mem_of_getElem? (i := 886) (by decide +kernel), List.mem_of_getElem? (i := 887) (by decide +kernel)⟩
theorem lw_p37 : lw_okq (⟨"RuledCalendarModel", "readRule", "()V"⟩, 26) := ⟨⟨by decide +kernel, by decide +kernel⟩, List.mem_of_getElem? (i := 774) (by decide +kernel), List.mem_of_getElem? (i := 890) (by decide +kernel), List.mem_of_getElem? (i := 891) (by decide +kernel)⟩
theorem lw_p38 : lw_okq (⟨"RuledCalendarModel", "forget", "()V"⟩, 26) := ⟨⟨by decide +kernel, by decide +kernel⟩, List.mem_of_getElem? (i := 774) (by decide +kernel), List.mem_of_getElem? (i := 894) (by decide +kernel), List.mem_of_getElem? (i := 895) (by decide +kernel)⟩
theorem lw_p39 : lw_okq (⟨"RuledCalendarModel", "part", "()V"⟩, 26) := ⟨⟨by decide +kernel, by decide +kernel⟩, List.mem_of_getElem? (i := 774) (by decide +kernel), List.mem_of_getElem? (i := 899) (by decide +kernel), List.mem_of_getElem? (i := 900) (by decide +kernel)⟩
theorem lw_p40 : lw_okq (⟨"RuledCalendarModel", "capitals", "(I)I"⟩, 26) := ⟨⟨by decide +kernel, by decide +kernel⟩, List.mem_of_getElem? (i := 774) (by decide +kernel), List.mem_of_getElem? (i := 903) (by decide +kernel), List.mem_of_getElem? (i := 904) (by decide +kernel)⟩
theorem lw_p41 : lw_okq (⟨"RuledCalendarModel", "byteAt", "(I)I"⟩, 26) := ⟨⟨by decide +kernel, by decide +kernel⟩, List.mem_of_getElem? (i := 774) (by decide +kernel), List.mem_of_getElem? (i := 907) (by decide +kernel), List.mem_of_getElem? (i := 908) (by decide +kernel)⟩
theorem lw_p42 : lw_okq (⟨"RuledCalendarModel", "lettersAt", "(I)J"⟩, 26) := ⟨⟨by decide +kernel, by decide +kernel⟩, List.mem_of_getElem? (i := 774) (by decide +kernel), List.mem_of_getElem? (i := 914) (by decide +kernel), List.mem_of_getElem? (i := 915) (by decide +kernel)⟩
theorem lw_p43 : lw_okq (⟨"RuledCalendarModel", "fail", "(II)V"⟩, 26) := ⟨⟨by decide +kernel, by decide +kernel⟩, List.mem_of_getElem? (i := 774) (by decide +kernel), List.mem_of_getElem? (i := 928) (by decide +kernel), List.mem_of_getElem? (i := 929) (by decide +kernel)⟩
theorem lw_p44 : lw_okq (⟨"RuledCalendarModel", "value", "(I)V"⟩, 26) := ⟨⟨by decide +kernel, by decide +kernel⟩, List.mem_of_getElem? (i := 774) (by decide +kernel), List.mem_of_getElem? (i := 932) (by decide +kernel), List.mem_of_getElem? (i := 933) (by decide +kernel)⟩
theorem lw_p45 : lw_okq (⟨"RuledCalendarModel", "number", "(II)I"⟩, 26) := ⟨⟨by decide +kernel, by decide +kernel⟩, List.mem_of_getElem? (i := 774) (by decide +kernel), List.mem_of_getElem? (i := 939) (by decide +kernel), List.mem_of_getElem? (i := 940) (by decide +kernel)⟩
theorem lw_p46 : lw_okq (⟨"RuledCalendarModel", "untilDate", "()V"⟩, 26) := ⟨⟨by decide +kernel, by decide +kernel⟩, List.mem_of_getElem? (i := 774) (by decide +kernel), List.mem_of_getElem? (i := 949) (by decide +kernel), List.mem_of_getElem? (i := 950) (by decide +kernel)⟩
theorem lw_p47 : lw_okq (⟨"RuledCalendarModel", "oneItem", "(I)V"⟩, 26) := ⟨⟨by decide +kernel, by decide +kernel⟩, List.mem_of_getElem? (i := 774) (by decide +kernel), List.mem_of_getElem? (i := 954) (by decide +kernel), List.mem_of_getElem? (i := 955) (by decide +kernel)⟩
def lw_privs_3 : List (MethodName × Nat) := [(⟨"RuledCalendar", "listMonth", "(II)V"⟩, 10), (⟨"RuledCalendar", "listDay", "(II)V"⟩, 10), (⟨"RuledCalendar", "countThings", "(II)V"⟩, 10), (⟨"RuledCalendarModel", "monthLength", "(II)I"⟩, 26), (⟨"RuledCalendarModel", "dayOf", "(I)I"⟩, 26), (⟨"RuledCalendarModel", "readRule", "()V"⟩, 26), (⟨"RuledCalendarModel", "forget", "()V"⟩, 26), (⟨"RuledCalendarModel", "part", "()V"⟩, 26), (⟨"RuledCalendarModel", "capitals", "(I)I"⟩, 26), (⟨"RuledCalendarModel", "byteAt", "(I)I"⟩, 26), (⟨"RuledCalendarModel", "lettersAt", "(I)J"⟩, 26), (⟨"RuledCalendarModel", "fail", "(II)V"⟩, 26), (⟨"RuledCalendarModel", "value", "(I)V"⟩, 26), (⟨"RuledCalendarModel", "number", "(II)I"⟩, 26), (⟨"RuledCalendarModel", "untilDate", "()V"⟩, 26), (⟨"RuledCalendarModel", "oneItem", "(I)V"⟩, 26)]
theorem lw_r3 : ∀ q ∈ lw_privs_3, lw_okq q := List.forall_mem_cons.mpr ⟨lw_p32, List.forall_mem_cons.mpr ⟨lw_p33, List.forall_mem_cons.mpr ⟨lw_p34, List.forall_mem_cons.mpr ⟨lw_p35, List.forall_mem_cons.mpr ⟨lw_p36, List.forall_mem_cons.mpr ⟨lw_p37, List.forall_mem_cons.mpr ⟨lw_p38, List.forall_mem_cons.mpr ⟨lw_p39, List.forall_mem_cons.mpr ⟨lw_p40, List.forall_mem_cons.mpr ⟨lw_p41, List.forall_mem_cons.mpr ⟨lw_p42, List.forall_mem_cons.mpr ⟨lw_p43, List.forall_mem_cons.mpr ⟨lw_p44, List.forall_mem_cons.mpr ⟨lw_p45, List.forall_mem_cons.mpr ⟨lw_p46, List.forall_mem_cons.mpr ⟨lw_p47, fun _ h => absurd h List.not_mem_nil⟩⟩⟩⟩⟩⟩⟩⟩⟩⟩⟩⟩⟩⟩⟩⟩
theorem lw_p48 : lw_okq (⟨"RuledCalendarModel", "dayItem", "()V"⟩, 26) := ⟨⟨by decide +kernel, by decide +kernel⟩, List.mem_of_getElem? (i := 774) (by decide +kernel), List.mem_of_getElem? (i := 958) (by decide +kernel), List.mem_of_getElem? (i := 959) (by decide +kernel)⟩
theorem lw_p49 : lw_okq (⟨"RuledCalendarModel", "makeAll", "(I)V"⟩, 26) := ⟨⟨by decide +kernel, by decide +kernel⟩, List.mem_of_getElem? (i := 774) (by decide +kernel), List.mem_of_getElem? (i := 965) (by decide +kernel), List.mem_of_getElem? (i := 966) (by decide +kernel)⟩
theorem lw_p50 : lw_okq (⟨"RuledCalendarModel", "periodOf", "(I)I"⟩, 26) := ⟨⟨by decide +kernel, by decide +kernel⟩, List.mem_of_getElem? (i := 774) (by decide +kernel), List.mem_of_getElem? (i := 969) (by decide +kernel), List.mem_of_getElem? (i := 970) (by decide +kernel)⟩
theorem lw_p51 : lw_okq (⟨"RuledCalendarModel", "yearOf", "(I)I"⟩, 26) := ⟨⟨by decide +kernel, by decide +kernel⟩, List.mem_of_getElem? (i := 774) (by decide +kernel), List.mem_of_getElem? (i := 973) (by decide +kernel), List.mem_of_getElem? (i := 974) (by decide +kernel)⟩
theorem lw_p52 : lw_okq (⟨"RuledCalendarModel", "monthOf", "(I)I"⟩, 26) := ⟨⟨by decide +kernel, by decide +kernel⟩, List.mem_of_getElem? (i := 774) (by decide +kernel), List.mem_of_getElem? (i := 977) (by decide +kernel), List.mem_of_getElem? (i := 978) (by decide +kernel)⟩
theorem lw_p53 : lw_okq (⟨"RuledCalendarModel", "suits", "(I)Z"⟩, 26) := ⟨⟨by decide +kernel, by decide +kernel⟩, List.mem_of_getElem? (i := 774) (by decide +kernel), List.mem_of_getElem? (i := 981) (by decide +kernel), List.mem_of_getElem? (i := 982) (by decide +kernel)⟩
theorem lw_p54 : lw_okq (⟨"RuledCalendarModel", "monthDayOf", "(I)I"⟩, 26) := ⟨⟨by decide +kernel, by decide +kernel⟩, List.mem_of_getElem? (i := 774) (by decide +kernel), List.mem_of_getElem? (i := 985) (by decide +kernel), List.mem_of_getElem? (i := 986) (by decide +kernel)⟩
theorem lw_p55 : lw_okq (⟨"RuledCalendarModel", "hasNumberedWeekday", "(I)Z"⟩, 26) := ⟨⟨by decide +kernel, by decide +kernel⟩, List.mem_of_getElem? (i := 774) (by decide +kernel), List.mem_of_getElem? (i := 989) (by decide +kernel), List.mem_of_getElem? (i := 990) (by decide +kernel)⟩
theorem lw_p56 : lw_okq (⟨"RuledCalendarModel", "setBit", "([IIIZ)V"⟩, 26) := ⟨⟨by decide +kernel, by decide +kernel⟩, List.mem_of_getElem? (i := 774) (by decide +kernel), List.mem_of_getElem? (i := 993) (by decide +kernel), List.mem_of_getElem? (i := 994) (by decide +kernel)⟩
theorem lw_p57 : lw_okq (⟨"RuledCalendarModel", "noThing", "(I)Z"⟩, 26) := ⟨⟨by decide +kernel, by decide +kernel⟩, List.mem_of_getElem? (i := 774) (by decide +kernel), List.mem_of_getElem? (i := 1009) (by decide +kernel), List.mem_of_getElem? (i := 1010) (by decide +kernel)⟩
theorem lw_p58 : lw_okq (⟨"RuledCalendarModel", "hasBit", "([III)Z"⟩, 26) := ⟨⟨by decide +kernel, by decide +kernel⟩, List.mem_of_getElem? (i := 774) (by decide +kernel), List.mem_of_getElem? (i := 1017) (by decide +kernel), List.mem_of_getElem? (i := 1018) (by decide +kernel)⟩
theorem lw_p59 : lw_okq (⟨"RuledCalendarModel", "comesAt", "(II)Z"⟩, 26) := ⟨⟨by decide +kernel, by decide +kernel⟩, List.mem_of_getElem? (i := 774) (by decide +kernel), List.mem_of_getElem? (i := 1029) (by decide +kernel), List.mem_of_getElem? (i := 1030) (by decide +kernel)⟩
theorem lw_p60 : lw_okq (⟨"RuledCalendarModel", "manyAt", "(I)I"⟩, 26) := ⟨⟨by decide +kernel, by decide +kernel⟩, List.mem_of_getElem? (i := 774) (by decide +kernel), List.mem_of_getElem? (i := 1058) (by decide +kernel), List.mem_of_getElem? (i := 1059) (by decide +kernel)⟩
def lw_privs_4 : List (MethodName × Nat) := [(⟨"RuledCalendarModel", "dayItem", "()V"⟩, 26), (⟨"RuledCalendarModel", "makeAll", "(I)V"⟩, 26), (⟨"RuledCalendarModel", "periodOf", "(I)I"⟩, 26), (⟨"RuledCalendarModel", "yearOf", "(I)I"⟩, 26), (⟨"RuledCalendarModel", "monthOf", "(I)I"⟩, 26), (⟨"RuledCalendarModel", "suits", "(I)Z"⟩, 26), (⟨"RuledCalendarModel", "monthDayOf", "(I)I"⟩, 26), (⟨"RuledCalendarModel", "hasNumberedWeekday", "(I)Z"⟩, 26), (⟨"RuledCalendarModel", "setBit", "([IIIZ)V"⟩, 26), (⟨"RuledCalendarModel", "noThing", "(I)Z"⟩, 26), (⟨"RuledCalendarModel", "hasBit", "([III)Z"⟩, 26), (⟨"RuledCalendarModel", "comesAt", "(II)Z"⟩, 26), (⟨"RuledCalendarModel", "manyAt", "(I)I"⟩, 26)]
theorem lw_r4 : ∀ q ∈ lw_privs_4, lw_okq q := List.forall_mem_cons.mpr ⟨lw_p48, List.forall_mem_cons.mpr ⟨lw_p49, List.forall_mem_cons.mpr ⟨lw_p50, List.forall_mem_cons.mpr ⟨lw_p51, List.forall_mem_cons.mpr ⟨lw_p52, List.forall_mem_cons.mpr ⟨lw_p53, List.forall_mem_cons.mpr ⟨lw_p54, List.forall_mem_cons.mpr ⟨lw_p55, List.forall_mem_cons.mpr ⟨lw_p56, List.forall_mem_cons.mpr ⟨lw_p57, List.forall_mem_cons.mpr ⟨lw_p58, List.forall_mem_cons.mpr ⟨lw_p59, List.forall_mem_cons.mpr ⟨lw_p60, fun _ h => absurd h List.not_mem_nil⟩⟩⟩⟩⟩⟩⟩⟩⟩⟩⟩⟩⟩
def lw_privs : List (MethodName × Nat) := lw_privs_1 ++ (lw_privs_2 ++ (lw_privs_3 ++ (lw_privs_4)))
def lw_tbl : List Cond := k2_sels lw_privs ++ tables_1
theorem lw_privs_ok : ∀ q ∈ lw_privs, lw_okq q := by
  show ∀ q ∈ lw_privs_1 ++ (lw_privs_2 ++ (lw_privs_3 ++ (lw_privs_4))), lw_okq q
  exact List.forall_mem_append.mpr ⟨lw_r1, List.forall_mem_append.mpr ⟨lw_r2, List.forall_mem_append.mpr ⟨lw_r3, lw_r4⟩⟩⟩
/-! ===== BEGIN printed: names, fields, word lists, decode rows ===== -/
def RX0 : String := "RuledCalendar$Days"
def TX0 : u_T := fun k => match k with
  | _ => ("RuledCalendar$Days", "first", "[I", true)
def tyX0 : Nat → FieldType := fun k => match k with
  | _ => .array .int
abbrev wsX00 : List Cond := u_ws RX0 TX0 1
theorem nmX0 : ∀ a, a < 1 → ∀ b, b < 1 → a ≠ b → (TX0 a).2.1 ≠ (TX0 b).2.1 := by decide +kernel
theorem tyX0_ok : ∀ k, k < 1 → parseFieldDescriptor (TX0 k).2.2.1 = some (tyX0 k) := by decide +kernel
abbrev cX0_init : ByteArray := prog_2_method_1_code
def yX0_init : MethodName := ⟨RX0, "<init>", "()V"⟩
abbrev cX0_isDate : ByteArray := prog_2_method_2_code
def yX0_isDate : MethodName := ⟨RX0, "isDate", "(I)Z"⟩
abbrev cX0_monthOf : ByteArray := prog_2_method_3_code
def yX0_monthOf : MethodName := ⟨RX0, "monthOf", "(I)I"⟩
abbrev cX0_dayOf : ByteArray := prog_2_method_4_code
def yX0_dayOf : MethodName := ⟨RX0, "dayOf", "(I)I"⟩
abbrev cX0_dateAt : ByteArray := prog_2_method_5_code
def yX0_dateAt : MethodName := ⟨RX0, "dateAt", "(II)I"⟩
abbrev cX0_lengthOf : ByteArray := prog_2_method_6_code
def yX0_lengthOf : MethodName := ⟨RX0, "lengthOf", "(I)I"⟩
abbrev cX0_isLeap : ByteArray := prog_2_method_7_code
def yX0_isLeap : MethodName := ⟨RX0, "isLeap", "(I)Z"⟩
abbrev cX0_januaryOf : ByteArray := prog_2_method_8_code
def yX0_januaryOf : MethodName := ⟨RX0, "januaryOf", "(I)I"⟩
abbrev cX0_between : ByteArray := prog_2_method_9_code
def yX0_between : MethodName := ⟨RX0, "between", "(III)I"⟩
abbrev cX0_lowest : ByteArray := prog_2_method_10_code
def yX0_lowest : MethodName := ⟨RX0, "lowest", "(II)I"⟩
abbrev cX0_numberOf : ByteArray := prog_2_method_11_code
def yX0_numberOf : MethodName := ⟨RX0, "numberOf", "(I)I"⟩
abbrev cX0_dateOf : ByteArray := prog_2_method_12_code
def yX0_dateOf : MethodName := ⟨RX0, "dateOf", "(I)I"⟩
def RX1 : String := "RuledCalendar$Filler"
def TX1 : u_T := fun k => match k with
  | 0 => ("RuledCalendar$Filler", "days", "LRuledCalendar$Days;", true)
  | 1 => ("RuledCalendar$Filler", "rule", "LRuledCalendar$Rule;", true)
  | 2 => ("RuledCalendar$Filler", "row", "[I", false)
  | 3 => ("RuledCalendar$Filler", "start", "I", false)
  | 4 => ("RuledCalendar$Filler", "interval", "I", false)
  | 5 => ("RuledCalendar$Filler", "startPeriod", "I", false)
  | 6 => ("RuledCalendar$Filler", "gathered", "[I", true)
  | _ => ("RuledCalendar$Filler", "gatheredCount", "I", false)
def tyX1 : Nat → FieldType := fun k => match k with
  | 0 => .object "RuledCalendar$Days"
  | 1 => .object "RuledCalendar$Rule"
  | 2 => .array .int
  | 3 => .int
  | 4 => .int
  | 5 => .int
  | 6 => .array .int
  | _ => .int
abbrev wsX10 : List Cond := u_ws RX1 TX1 8
theorem nmX1 : ∀ a, a < 8 → ∀ b, b < 8 → a ≠ b → (TX1 a).2.1 ≠ (TX1 b).2.1 := by decide +kernel
theorem tyX1_ok : ∀ k, k < 8 → parseFieldDescriptor (TX1 k).2.2.1 = some (tyX1 k) := by decide +kernel
abbrev cX1_init : ByteArray := prog_3_method_1_code
def yX1_init : MethodName := ⟨RX1, "<init>", "(LRuledCalendar$Days;LRuledCalendar$Rule;)V"⟩
abbrev cX1_fillRow : ByteArray := prog_3_method_2_code
def yX1_fillRow : MethodName := ⟨RX1, "fillRow", "([II)V"⟩
abbrev cX1_counts : ByteArray := prog_3_method_3_code
def yX1_counts : MethodName := ⟨RX1, "counts", "(II)Z"⟩
abbrev cX1_countedDays : ByteArray := prog_3_method_4_code
def yX1_countedDays : MethodName := ⟨RX1, "countedDays", "(I)I"⟩
abbrev cX1_suitingDays : ByteArray := prog_3_method_5_code
def yX1_suitingDays : MethodName := ⟨RX1, "suitingDays", "(I)I"⟩
abbrev cX1_monthSuits : ByteArray := prog_3_method_6_code
def yX1_monthSuits : MethodName := ⟨RX1, "monthSuits", "(I)Z"⟩
abbrev cX1_byMonthDay : ByteArray := prog_3_method_7_code
def yX1_byMonthDay : MethodName := ⟨RX1, "byMonthDay", "(I)I"⟩
abbrev cX1_byWeekday : ByteArray := prog_3_method_8_code
def yX1_byWeekday : MethodName := ⟨RX1, "byWeekday", "(I)I"⟩
abbrev cX1_plainWeekdays : ByteArray := prog_3_method_9_code
def yX1_plainWeekdays : MethodName := ⟨RX1, "plainWeekdays", "(II)I"⟩
abbrev cX1_numberedWeekdays : ByteArray := prog_3_method_10_code
def yX1_numberedWeekdays : MethodName := ⟨RX1, "numberedWeekdays", "(I)I"⟩
abbrev cX1_choosePlaces : ByteArray := prog_3_method_11_code
def yX1_choosePlaces : MethodName := ⟨RX1, "choosePlaces", "(II)V"⟩
abbrev cX1_gather : ByteArray := prog_3_method_12_code
def yX1_gather : MethodName := ⟨RX1, "gather", "(II)V"⟩
abbrev cX1_keepChosen : ByteArray := prog_3_method_13_code
def yX1_keepChosen : MethodName := ⟨RX1, "keepChosen", "()V"⟩
abbrev cX1_cutEnds : ByteArray := prog_3_method_14_code
def yX1_cutEnds : MethodName := ⟨RX1, "cutEnds", "(II)V"⟩
def RX2 : String := "RuledCalendar$Frequency"
def TX2 : u_T := fun k => match k with
  | _ => ("", "", "", false)
def tyX2 : Nat → FieldType := fun k => match k with
  | _ => .int
abbrev wsX20 : List Cond := u_ws RX2 TX2 0
theorem nmX2 : ∀ a, a < 0 → ∀ b, b < 0 → a ≠ b → (TX2 a).2.1 ≠ (TX2 b).2.1 := by decide +kernel
theorem tyX2_ok : ∀ k, k < 0 → parseFieldDescriptor (TX2 k).2.2.1 = some (tyX2 k) := by decide +kernel
abbrev cX2_periodOf : ByteArray := prog_4_method_4_code
def yX2_periodOf : MethodName := ⟨RX2, "periodOf", "(II)I"⟩
def RX3 : String := "RuledCalendar$Part"
def TX3 : u_T := fun k => match k with
  | _ => ("", "", "", false)
def tyX3 : Nat → FieldType := fun k => match k with
  | _ => .int
abbrev wsX30 : List Cond := u_ws RX3 TX3 0
theorem nmX3 : ∀ a, a < 0 → ∀ b, b < 0 → a ≠ b → (TX3 a).2.1 ≠ (TX3 b).2.1 := by decide +kernel
theorem tyX3_ok : ∀ k, k < 0 → parseFieldDescriptor (TX3 k).2.2.1 = some (tyX3 k) := by decide +kernel
abbrev cX3_allows : ByteArray := prog_5_method_4_code
def yX3_allows : MethodName := ⟨RX3, "allows", "(I)Z"⟩
def RX4 : String := "RuledCalendar$Reader"
def TX4 : u_T := fun k => match k with
  | 0 => ("RuledCalendar$Reader", "rule", "LRuledCalendar$Rule;", true)
  | 1 => ("RuledCalendar$Reader", "text", "[C", false)
  | 2 => ("RuledCalendar$Reader", "length", "I", false)
  | 3 => ("RuledCalendar$Reader", "at", "I", false)
  | 4 => ("RuledCalendar$Reader", "faultKind", "I", false)
  | _ => ("RuledCalendar$Reader", "faultPlace", "I", false)
def tyX4 : Nat → FieldType := fun k => match k with
  | 0 => .object "RuledCalendar$Rule"
  | 1 => .array .char
  | 2 => .int
  | 3 => .int
  | 4 => .int
  | _ => .int
abbrev wsX40 : List Cond := u_ws RX4 TX4 6
theorem nmX4 : ∀ a, a < 6 → ∀ b, b < 6 → a ≠ b → (TX4 a).2.1 ≠ (TX4 b).2.1 := by decide +kernel
theorem tyX4_ok : ∀ k, k < 6 → parseFieldDescriptor (TX4 k).2.2.1 = some (tyX4 k) := by decide +kernel
abbrev cX4_init : ByteArray := prog_6_method_1_code
def yX4_init : MethodName := ⟨RX4, "<init>", "(LRuledCalendar$Rule;)V"⟩
abbrev cX4_readRule : ByteArray := prog_6_method_2_code
def yX4_readRule : MethodName := ⟨RX4, "readRule", "([CI)V"⟩
abbrev cX4_fail : ByteArray := prog_6_method_3_code
def yX4_fail : MethodName := ⟨RX4, "fail", "(II)V"⟩
abbrev cX4_sees : ByteArray := prog_6_method_4_code
def yX4_sees : MethodName := ⟨RX4, "sees", "(C)Z"⟩
abbrev cX4_seesLetter : ByteArray := prog_6_method_5_code
def yX4_seesLetter : MethodName := ⟨RX4, "seesLetter", "()Z"⟩
abbrev cX4_seesFigure : ByteArray := prog_6_method_6_code
def yX4_seesFigure : MethodName := ⟨RX4, "seesFigure", "()Z"⟩
abbrev cX4_take : ByteArray := prog_6_method_7_code
def yX4_take : MethodName := ⟨RX4, "take", "(C)V"⟩
abbrev cX4_takeLetters : ByteArray := prog_6_method_8_code
def yX4_takeLetters : MethodName := ⟨RX4, "takeLetters", "(I)I"⟩
abbrev cX4_isWord : ByteArray := prog_6_method_9_code
def yX4_isWord : MethodName := ⟨RX4, "isWord", "(Ljava/lang/String;I)Z"⟩
abbrev cX4_readPart : ByteArray := prog_6_method_10_code
def yX4_readPart : MethodName := ⟨RX4, "readPart", "()V"⟩
abbrev cX4_partNamed : ByteArray := prog_6_method_11_code
def yX4_partNamed : MethodName := ⟨RX4, "partNamed", "(I)LRuledCalendar$Part;"⟩
abbrev cX4_readValue : ByteArray := prog_6_method_12_code
def yX4_readValue : MethodName := ⟨RX4, "readValue", "(LRuledCalendar$Part;)V"⟩
abbrev cX4_readFrequency : ByteArray := prog_6_method_13_code
def yX4_readFrequency : MethodName := ⟨RX4, "readFrequency", "()V"⟩
abbrev cX4_readNumber : ByteArray := prog_6_method_14_code
def yX4_readNumber : MethodName := ⟨RX4, "readNumber", "(LRuledCalendar$Part;)I"⟩
abbrev cX4_readWeekday : ByteArray := prog_6_method_15_code
def yX4_readWeekday : MethodName := ⟨RX4, "readWeekday", "()V"⟩
abbrev cX4_weekdayAt : ByteArray := prog_6_method_16_code
def yX4_weekdayAt : MethodName := ⟨RX4, "weekdayAt", "(I)I"⟩
def RX5 : String := "RuledCalendar$Rule"
def TX5 : u_T := fun k => match k with
  | 0 => ("RuledCalendar$Rule", "present", "I", false)
  | 1 => ("RuledCalendar$Rule", "frequency", "LRuledCalendar$Frequency;", false)
  | 2 => ("RuledCalendar$Rule", "interval", "I", false)
  | 3 => ("RuledCalendar$Rule", "count", "I", false)
  | 4 => ("RuledCalendar$Rule", "until", "I", false)
  | 5 => ("RuledCalendar$Rule", "months", "I", false)
  | 6 => ("RuledCalendar$Rule", "monthDays", "I", false)
  | 7 => ("RuledCalendar$Rule", "monthDaysFromEnd", "I", false)
  | 8 => ("RuledCalendar$Rule", "weekdays", "I", false)
  | 9 => ("RuledCalendar$Rule", "numberedWeekdays", "I", false)
  | 10 => ("RuledCalendar$Rule", "numbers", "[J", true)
  | 11 => ("RuledCalendar$Rule", "numbersFromEnd", "[J", true)
  | _ => ("RuledCalendar$Rule", "places", "[B", true)
def tyX5 : Nat → FieldType := fun k => match k with
  | 0 => .int
  | 1 => .object "RuledCalendar$Frequency"
  | 2 => .int
  | 3 => .int
  | 4 => .int
  | 5 => .int
  | 6 => .int
  | 7 => .int
  | 8 => .int
  | 9 => .int
  | 10 => .array .long
  | 11 => .array .long
  | _ => .array .byte
abbrev wsX50 : List Cond := u_ws RX5 TX5 13
theorem nmX5 : ∀ a, a < 13 → ∀ b, b < 13 → a ≠ b → (TX5 a).2.1 ≠ (TX5 b).2.1 := by decide +kernel
theorem tyX5_ok : ∀ k, k < 13 → parseFieldDescriptor (TX5 k).2.2.1 = some (tyX5 k) := by decide +kernel
abbrev cX5_init : ByteArray := prog_7_method_1_code
def yX5_init : MethodName := ⟨RX5, "<init>", "()V"⟩
abbrev cX5_forget : ByteArray := prog_7_method_2_code
def yX5_forget : MethodName := ⟨RX5, "forget", "()V"⟩
abbrev cX5_has : ByteArray := prog_7_method_3_code
def yX5_has : MethodName := ⟨RX5, "has", "(LRuledCalendar$Part;)Z"⟩
abbrev cX5_addNumber : ByteArray := prog_7_method_4_code
def yX5_addNumber : MethodName := ⟨RX5, "addNumber", "(LRuledCalendar$Part;I)V"⟩
abbrev cX5_addWeekday : ByteArray := prog_7_method_5_code
def yX5_addWeekday : MethodName := ⟨RX5, "addWeekday", "(II)V"⟩
abbrev cX5_isChosen : ByteArray := prog_7_method_6_code
def yX5_isChosen : MethodName := ⟨RX5, "isChosen", "(II)Z"⟩
abbrev cX5_goesTogether : ByteArray := prog_7_method_7_code
def yX5_goesTogether : MethodName := ⟨RX5, "goesTogether", "()Z"⟩
def RX6 : String := "RuledCalendar$Thing"
def TX6 : u_T := fun k => match k with
  | 0 => ("RuledCalendar$Thing", "ruled", "[I", true)
  | 1 => ("RuledCalendar$Thing", "extras", "[I", true)
  | 2 => ("RuledCalendar$Thing", "exceptions", "[I", true)
  | _ => ("RuledCalendar$Thing", "live", "Z", false)
def tyX6 : Nat → FieldType := fun k => match k with
  | 0 => .array .int
  | 1 => .array .int
  | 2 => .array .int
  | _ => .boolean
abbrev wsX60 : List Cond := u_ws RX6 TX6 4
theorem nmX6 : ∀ a, a < 4 → ∀ b, b < 4 → a ≠ b → (TX6 a).2.1 ≠ (TX6 b).2.1 := by decide +kernel
theorem tyX6_ok : ∀ k, k < 4 → parseFieldDescriptor (TX6 k).2.2.1 = some (tyX6 k) := by decide +kernel
abbrev cX6_init : ByteArray := prog_8_method_1_code
def yX6_init : MethodName := ⟨RX6, "<init>", "()V"⟩
abbrev cX6_begin : ByteArray := prog_8_method_2_code
def yX6_begin : MethodName := ⟨RX6, "begin", "()V"⟩
abbrev cX6_daysIn : ByteArray := prog_8_method_3_code
def yX6_daysIn : MethodName := ⟨RX6, "daysIn", "(I)I"⟩
abbrev cX6_mark : ByteArray := prog_8_method_4_code
def yX6_mark : MethodName := ⟨RX6, "mark", "([IIZ)Z"⟩
def RX7 : String := "RuledCalendar"
def TX7 : u_T := fun k => match k with
  | 0 => ("RuledCalendar", "text", "[C", true)
  | 1 => ("RuledCalendar", "textLength", "I", false)
  | 2 => ("RuledCalendar", "dayTable", "LRuledCalendar$Days;", true)
  | 3 => ("RuledCalendar", "rule", "LRuledCalendar$Rule;", true)
  | 4 => ("RuledCalendar", "reader", "LRuledCalendar$Reader;", true)
  | 5 => ("RuledCalendar", "filler", "LRuledCalendar$Filler;", true)
  | 6 => ("RuledCalendar", "things", "[LRuledCalendar$Thing;", true)
  | 7 => ("RuledCalendar", "listed", "[J", true)
  | 8 => ("RuledCalendar", "listedCount", "I", false)
  | _ => ("RuledCalendar", "counts", "[I", true)
def tyX7 : Nat → FieldType := fun k => match k with
  | 0 => .array .char
  | 1 => .int
  | 2 => .object "RuledCalendar$Days"
  | 3 => .object "RuledCalendar$Rule"
  | 4 => .object "RuledCalendar$Reader"
  | 5 => .object "RuledCalendar$Filler"
  | 6 => .array (.object "RuledCalendar$Thing")
  | 7 => .array .long
  | 8 => .int
  | _ => .array .int
abbrev wsX70 : List Cond := u_ws RX7 TX7 10
theorem nmX7 : ∀ a, a < 10 → ∀ b, b < 10 → a ≠ b → (TX7 a).2.1 ≠ (TX7 b).2.1 := by decide +kernel
theorem tyX7_ok : ∀ k, k < 10 → parseFieldDescriptor (TX7 k).2.2.1 = some (tyX7 k) := by decide +kernel
abbrev cX7_init : ByteArray := prog_1_method_1_code
def yX7_init : MethodName := ⟨RX7, "<init>", "()V"⟩
abbrev cX7_feed : ByteArray := prog_1_method_2_code
def yX7_feed : MethodName := ⟨RX7, "feed", "(IJ)I"⟩
abbrev cX7_wipe : ByteArray := prog_1_method_3_code
def yX7_wipe : MethodName := ⟨RX7, "wipe", "()I"⟩
abbrev cX7_thing : ByteArray := prog_1_method_4_code
def yX7_thing : MethodName := ⟨RX7, "thing", "(I)I"⟩
abbrev cX7_fault : ByteArray := prog_1_method_5_code
def yX7_fault : MethodName := ⟨RX7, "fault", "()I"⟩
abbrev cX7_place : ByteArray := prog_1_method_6_code
def yX7_place : MethodName := ⟨RX7, "place", "()I"⟩
abbrev cX7_drop : ByteArray := prog_1_method_7_code
def yX7_drop : MethodName := ⟨RX7, "drop", "(I)V"⟩
abbrev cX7_except : ByteArray := prog_1_method_8_code
def yX7_except : MethodName := ⟨RX7, "except", "(IIZ)Z"⟩
abbrev cX7_besides : ByteArray := prog_1_method_9_code
def yX7_besides : MethodName := ⟨RX7, "besides", "(IIZ)Z"⟩
abbrev cX7_comes : ByteArray := prog_1_method_10_code
def yX7_comes : MethodName := ⟨RX7, "comes", "(II)Z"⟩
abbrev cX7_next : ByteArray := prog_1_method_11_code
def yX7_next : MethodName := ⟨RX7, "next", "(II)I"⟩
abbrev cX7_date : ByteArray := prog_1_method_12_code
def yX7_date : MethodName := ⟨RX7, "date", "(II)I"⟩
abbrev cX7_times : ByteArray := prog_1_method_13_code
def yX7_times : MethodName := ⟨RX7, "times", "(III)I"⟩
abbrev cX7_list : ByteArray := prog_1_method_14_code
def yX7_list : MethodName := ⟨RX7, "list", "(II)I"⟩
abbrev cX7_item : ByteArray := prog_1_method_15_code
def yX7_item : MethodName := ⟨RX7, "item", "(I)J"⟩
abbrev cX7_busiest : ByteArray := prog_1_method_16_code
def yX7_busiest : MethodName := ⟨RX7, "busiest", "(II)I"⟩
abbrev cX7_quiet : ByteArray := prog_1_method_17_code
def yX7_quiet : MethodName := ⟨RX7, "quiet", "(II)I"⟩
abbrev cX7_shifted : ByteArray := prog_1_method_18_code
def yX7_shifted : MethodName := ⟨RX7, "shifted", "(II)I"⟩
abbrev cX7_requireDate : ByteArray := prog_1_method_19_code
def yX7_requireDate : MethodName := ⟨RX7, "requireDate", "(I)V"⟩
abbrev cX7_knownThing : ByteArray := prog_1_method_20_code
def yX7_knownThing : MethodName := ⟨RX7, "knownThing", "(I)LRuledCalendar$Thing;"⟩
abbrev cX7_freeNumber : ByteArray := prog_1_method_21_code
def yX7_freeNumber : MethodName := ⟨RX7, "freeNumber", "()I"⟩
abbrev cX7_daysOfThing : ByteArray := prog_1_method_22_code
def yX7_daysOfThing : MethodName := ⟨RX7, "daysOfThing", "(II)I"⟩
abbrev cX7_busyDays : ByteArray := prog_1_method_23_code
def yX7_busyDays : MethodName := ⟨RX7, "busyDays", "(I)I"⟩
abbrev cX7_listMonth : ByteArray := prog_1_method_24_code
def yX7_listMonth : MethodName := ⟨RX7, "listMonth", "(II)V"⟩
abbrev cX7_listDay : ByteArray := prog_1_method_25_code
def yX7_listDay : MethodName := ⟨RX7, "listDay", "(II)V"⟩
abbrev cX7_countThings : ByteArray := prog_1_method_26_code
def yX7_countThings : MethodName := ⟨RX7, "countThings", "(II)V"⟩
def RX8 : String := "RuledCalendarModel"
def TX8 : u_T := fun k => match k with
  | 0 => ("RuledCalendarModel", "thrown", "I", false)
  | 1 => ("RuledCalendarModel", "dates", "[I", true)
  | 2 => ("RuledCalendarModel", "lengths", "[I", true)
  | 3 => ("RuledCalendarModel", "text", "[I", true)
  | 4 => ("RuledCalendarModel", "size", "I", false)
  | 5 => ("RuledCalendarModel", "fault", "I", false)
  | 6 => ("RuledCalendarModel", "place", "I", false)
  | 7 => ("RuledCalendarModel", "at", "I", false)
  | 8 => ("RuledCalendarModel", "has", "[Z", true)
  | 9 => ("RuledCalendarModel", "freq", "I", false)
  | 10 => ("RuledCalendarModel", "interval", "I", false)
  | 11 => ("RuledCalendarModel", "count", "I", false)
  | 12 => ("RuledCalendarModel", "until", "I", false)
  | 13 => ("RuledCalendarModel", "months", "[Z", true)
  | 14 => ("RuledCalendarModel", "monthDays", "[Z", true)
  | 15 => ("RuledCalendarModel", "places", "[Z", true)
  | 16 => ("RuledCalendarModel", "weekdays", "[Z", true)
  | 17 => ("RuledCalendarModel", "numbered", "Z", false)
  | 18 => ("RuledCalendarModel", "start", "I", false)
  | 19 => ("RuledCalendarModel", "there", "[Z", true)
  | 20 => ("RuledCalendarModel", "rule", "[I", true)
  | 21 => ("RuledCalendarModel", "excepted", "[I", true)
  | 22 => ("RuledCalendarModel", "added", "[I", true)
  | 23 => ("RuledCalendarModel", "suiting", "[I", true)
  | 24 => ("RuledCalendarModel", "items", "[J", true)
  | _ => ("RuledCalendarModel", "listed", "I", false)
def tyX8 : Nat → FieldType := fun k => match k with
  | 0 => .int
  | 1 => .array .int
  | 2 => .array .int
  | 3 => .array .int
  | 4 => .int
  | 5 => .int
  | 6 => .int
  | 7 => .int
  | 8 => .array .boolean
  | 9 => .int
  | 10 => .int
  | 11 => .int
  | 12 => .int
  | 13 => .array .boolean
  | 14 => .array .boolean
  | 15 => .array .boolean
  | 16 => .array .boolean
  | 17 => .boolean
  | 18 => .int
  | 19 => .array .boolean
  | 20 => .array .int
  | 21 => .array .int
  | 22 => .array .int
  | 23 => .array .int
  | 24 => .array .long
  | _ => .int
abbrev wsX80 : List Cond := u_ws RX8 TX8 26
theorem nmX8 : ∀ a, a < 26 → ∀ b, b < 26 → a ≠ b → (TX8 a).2.1 ≠ (TX8 b).2.1 := by decide +kernel
theorem tyX8_ok : ∀ k, k < 26 → parseFieldDescriptor (TX8 k).2.2.1 = some (tyX8 k) := by decide +kernel
abbrev cX8_init : ByteArray := prog_10_method_1_code
def yX8_init : MethodName := ⟨RX8, "<init>", "()V"⟩
abbrev cX8_thrown : ByteArray := prog_10_method_2_code
def yX8_thrown : MethodName := ⟨RX8, "thrown", "()I"⟩
abbrev cX8_isLeap : ByteArray := prog_10_method_3_code
def yX8_isLeap : MethodName := ⟨RX8, "isLeap", "(I)Z"⟩
abbrev cX8_monthLength : ByteArray := prog_10_method_4_code
def yX8_monthLength : MethodName := ⟨RX8, "monthLength", "(II)I"⟩
abbrev cX8_dayOf : ByteArray := prog_10_method_5_code
def yX8_dayOf : MethodName := ⟨RX8, "dayOf", "(I)I"⟩
abbrev cX8_yearOf : ByteArray := prog_10_method_6_code
def yX8_yearOf : MethodName := ⟨RX8, "yearOf", "(I)I"⟩
abbrev cX8_monthOf : ByteArray := prog_10_method_7_code
def yX8_monthOf : MethodName := ⟨RX8, "monthOf", "(I)I"⟩
abbrev cX8_monthDayOf : ByteArray := prog_10_method_8_code
def yX8_monthDayOf : MethodName := ⟨RX8, "monthDayOf", "(I)I"⟩
abbrev cX8_periodOf : ByteArray := prog_10_method_9_code
def yX8_periodOf : MethodName := ⟨RX8, "periodOf", "(I)I"⟩
abbrev cX8_feed : ByteArray := prog_10_method_10_code
def yX8_feed : MethodName := ⟨RX8, "feed", "(IJ)I"⟩
abbrev cX8_wipe : ByteArray := prog_10_method_11_code
def yX8_wipe : MethodName := ⟨RX8, "wipe", "()I"⟩
abbrev cX8_fail : ByteArray := prog_10_method_12_code
def yX8_fail : MethodName := ⟨RX8, "fail", "(II)V"⟩
abbrev cX8_byteAt : ByteArray := prog_10_method_13_code
def yX8_byteAt : MethodName := ⟨RX8, "byteAt", "(I)I"⟩
abbrev cX8_isCapital : ByteArray := prog_10_method_14_code
def yX8_isCapital : MethodName := ⟨RX8, "isCapital", "(I)Z"⟩
abbrev cX8_isFigure : ByteArray := prog_10_method_15_code
def yX8_isFigure : MethodName := ⟨RX8, "isFigure", "(I)Z"⟩
abbrev cX8_lettersAt : ByteArray := prog_10_method_16_code
def yX8_lettersAt : MethodName := ⟨RX8, "lettersAt", "(I)J"⟩
abbrev cX8_word : ByteArray := prog_10_method_17_code
def yX8_word : MethodName := ⟨RX8, "word", "(IIII)J"⟩
abbrev cX8_nameOf : ByteArray := prog_10_method_18_code
def yX8_nameOf : MethodName := ⟨RX8, "nameOf", "(JI)I"⟩
abbrev cX8_freqOf : ByteArray := prog_10_method_19_code
def yX8_freqOf : MethodName := ⟨RX8, "freqOf", "(JI)I"⟩
abbrev cX8_capitals : ByteArray := prog_10_method_20_code
def yX8_capitals : MethodName := ⟨RX8, "capitals", "(I)I"⟩
abbrev cX8_number : ByteArray := prog_10_method_21_code
def yX8_number : MethodName := ⟨RX8, "number", "(II)I"⟩
abbrev cX8_untilDate : ByteArray := prog_10_method_22_code
def yX8_untilDate : MethodName := ⟨RX8, "untilDate", "()V"⟩
abbrev cX8_weekday : ByteArray := prog_10_method_23_code
def yX8_weekday : MethodName := ⟨RX8, "weekday", "(II)I"⟩
abbrev cX8_dayItem : ByteArray := prog_10_method_24_code
def yX8_dayItem : MethodName := ⟨RX8, "dayItem", "()V"⟩
abbrev cX8_oneItem : ByteArray := prog_10_method_25_code
def yX8_oneItem : MethodName := ⟨RX8, "oneItem", "(I)V"⟩
abbrev cX8_value : ByteArray := prog_10_method_26_code
def yX8_value : MethodName := ⟨RX8, "value", "(I)V"⟩
abbrev cX8_part : ByteArray := prog_10_method_27_code
def yX8_part : MethodName := ⟨RX8, "part", "()V"⟩
abbrev cX8_forget : ByteArray := prog_10_method_28_code
def yX8_forget : MethodName := ⟨RX8, "forget", "()V"⟩
abbrev cX8_readRule : ByteArray := prog_10_method_29_code
def yX8_readRule : MethodName := ⟨RX8, "readRule", "()V"⟩
abbrev cX8_hasNumberedWeekday : ByteArray := prog_10_method_30_code
def yX8_hasNumberedWeekday : MethodName := ⟨RX8, "hasNumberedWeekday", "(I)Z"⟩
abbrev cX8_suits : ByteArray := prog_10_method_31_code
def yX8_suits : MethodName := ⟨RX8, "suits", "(I)Z"⟩
abbrev cX8_setBit : ByteArray := prog_10_method_32_code
def yX8_setBit : MethodName := ⟨RX8, "setBit", "([IIIZ)V"⟩
abbrev cX8_hasBit : ByteArray := prog_10_method_33_code
def yX8_hasBit : MethodName := ⟨RX8, "hasBit", "([III)Z"⟩
abbrev cX8_makeAll : ByteArray := prog_10_method_34_code
def yX8_makeAll : MethodName := ⟨RX8, "makeAll", "(I)V"⟩
abbrev cX8_thing : ByteArray := prog_10_method_35_code
def yX8_thing : MethodName := ⟨RX8, "thing", "(I)I"⟩
abbrev cX8_fault : ByteArray := prog_10_method_36_code
def yX8_fault : MethodName := ⟨RX8, "fault", "()I"⟩
abbrev cX8_place : ByteArray := prog_10_method_37_code
def yX8_place : MethodName := ⟨RX8, "place", "()I"⟩
abbrev cX8_noThing : ByteArray := prog_10_method_38_code
def yX8_noThing : MethodName := ⟨RX8, "noThing", "(I)Z"⟩
abbrev cX8_drop : ByteArray := prog_10_method_39_code
def yX8_drop : MethodName := ⟨RX8, "drop", "(I)V"⟩
abbrev cX8_except : ByteArray := prog_10_method_40_code
def yX8_except : MethodName := ⟨RX8, "except", "(IIZ)Z"⟩
abbrev cX8_besides : ByteArray := prog_10_method_41_code
def yX8_besides : MethodName := ⟨RX8, "besides", "(IIZ)Z"⟩
abbrev cX8_comesAt : ByteArray := prog_10_method_42_code
def yX8_comesAt : MethodName := ⟨RX8, "comesAt", "(II)Z"⟩
abbrev cX8_comes : ByteArray := prog_10_method_43_code
def yX8_comes : MethodName := ⟨RX8, "comes", "(II)Z"⟩
abbrev cX8_next : ByteArray := prog_10_method_44_code
def yX8_next : MethodName := ⟨RX8, "next", "(II)I"⟩
abbrev cX8_date : ByteArray := prog_10_method_45_code
def yX8_date : MethodName := ⟨RX8, "date", "(II)I"⟩
abbrev cX8_times : ByteArray := prog_10_method_46_code
def yX8_times : MethodName := ⟨RX8, "times", "(III)I"⟩
abbrev cX8_list : ByteArray := prog_10_method_47_code
def yX8_list : MethodName := ⟨RX8, "list", "(II)I"⟩
abbrev cX8_item : ByteArray := prog_10_method_48_code
def yX8_item : MethodName := ⟨RX8, "item", "(I)J"⟩
abbrev cX8_manyAt : ByteArray := prog_10_method_49_code
def yX8_manyAt : MethodName := ⟨RX8, "manyAt", "(I)I"⟩
abbrev cX8_busiest : ByteArray := prog_10_method_50_code
def yX8_busiest : MethodName := ⟨RX8, "busiest", "(II)I"⟩
abbrev cX8_quiet : ByteArray := prog_10_method_51_code
def yX8_quiet : MethodName := ⟨RX8, "quiet", "(II)I"⟩
abbrev cX8_shifted : ByteArray := prog_10_method_52_code
def yX8_shifted : MethodName := ⟨RX8, "shifted", "(II)I"⟩
def RJx29ce0 : String := "java/lang/Enum"
def TJx29ce0 : u_T := fun k => match k with
  | _ => ("", "", "", false)
def tyJx29ce0 : Nat → FieldType := fun k => match k with
  | _ => .int
abbrev wsJx29ce00 : List Cond := u_ws RJx29ce0 TJx29ce0 0
theorem nmJx29ce0 : ∀ a, a < 0 → ∀ b, b < 0 → a ≠ b → (TJx29ce0 a).2.1 ≠ (TJx29ce0 b).2.1 := by decide +kernel
theorem tyJx29ce0_ok : ∀ k, k < 0 → parseFieldDescriptor (TJx29ce0 k).2.2.1 = some (tyJx29ce0 k) := by decide +kernel
def RJ6 : String := "java/lang/Integer"
def TJ6 : u_T := fun k => match k with
  | _ => ("", "", "", false)
def tyJ6 : Nat → FieldType := fun k => match k with
  | _ => .int
abbrev wsJ60 : List Cond := u_ws RJ6 TJ6 0
theorem nmJ6 : ∀ a, a < 0 → ∀ b, b < 0 → a ≠ b → (TJ6 a).2.1 ≠ (TJ6 b).2.1 := by decide +kernel
theorem tyJ6_ok : ∀ k, k < 0 → parseFieldDescriptor (TJ6 k).2.2.1 = some (tyJ6 k) := by decide +kernel
abbrev cJ6_numberOfTrailingZeros_0f7a4 : ByteArray := prog_15_method_48_code
def yJ6_numberOfTrailingZeros_0f7a4 : MethodName := ⟨RJ6, "numberOfTrailingZeros", "(I)I"⟩
abbrev cJ6_bitCount_0f7a4 : ByteArray := prog_15_method_49_code
def yJ6_bitCount_0f7a4 : MethodName := ⟨RJ6, "bitCount", "(I)I"⟩
def RJ9 : String := "java/lang/Math"
def TJ9 : u_T := fun k => match k with
  | _ => ("", "", "", false)
def tyJ9 : Nat → FieldType := fun k => match k with
  | _ => .int
abbrev wsJ90 : List Cond := u_ws RJ9 TJ9 0
theorem nmJ9 : ∀ a, a < 0 → ∀ b, b < 0 → a ≠ b → (TJ9 a).2.1 ≠ (TJ9 b).2.1 := by decide +kernel
theorem tyJ9_ok : ∀ k, k < 0 → parseFieldDescriptor (TJ9 k).2.2.1 = some (tyJ9 k) := by decide +kernel
abbrev cJ9_max_7cf53 : ByteArray := prog_16_method_65_code
def yJ9_max_7cf53 : MethodName := ⟨RJ9, "max", "(II)I"⟩
abbrev cJ9_min_7cf53 : ByteArray := prog_16_method_69_code
def yJ9_min_7cf53 : MethodName := ⟨RJ9, "min", "(II)I"⟩
def RJ0 : String := "java/lang/String"
def TJ0 : u_T := fun k => match k with
  | _ => ("", "", "", false)
def tyJ0 : Nat → FieldType := fun k => match k with
  | _ => .int
abbrev wsJ00 : List Cond := u_ws RJ0 TJ0 0
theorem nmJ0 : ∀ a, a < 0 → ∀ b, b < 0 → a ≠ b → (TJ0 a).2.1 ≠ (TJ0 b).2.1 := by decide +kernel
theorem tyJ0_ok : ∀ k, k < 0 → parseFieldDescriptor (TJ0 k).2.2.1 = some (tyJ0 k) := by decide +kernel
abbrev cJ0_length_8abf5 : ByteArray := prog_18_method_54_code
def yJ0_length_8abf5 : MethodName := ⟨RJ0, "length", "()I"⟩
abbrev cJ0_charAt_5068e : ByteArray := prog_18_method_56_code
def yJ0_charAt_5068e : MethodName := ⟨RJ0, "charAt", "(I)C"⟩
abbrev cJ0_coder_7d493 : ByteArray := prog_18_method_152_code
def yJ0_coder_7d493 : MethodName := ⟨RJ0, "coder", "()B"⟩
abbrev cJ0_isLatin1_aae02 : ByteArray := prog_18_method_154_code
def yJ0_isLatin1_aae02 : MethodName := ⟨RJ0, "isLatin1", "()Z"⟩
abbrev cJ0_checkIndex_df160 : ByteArray := prog_18_method_155_code
def yJ0_checkIndex_df160 : MethodName := ⟨RJ0, "checkIndex", "(II)V"⟩
def RJ1 : String := "java/lang/StringLatin1"
def TJ1 : u_T := fun k => match k with
  | _ => ("", "", "", false)
def tyJ1 : Nat → FieldType := fun k => match k with
  | _ => .int
abbrev wsJ10 : List Cond := u_ws RJ1 TJ1 0
theorem nmJ1 : ∀ a, a < 0 → ∀ b, b < 0 → a ≠ b → (TJ1 a).2.1 ≠ (TJ1 b).2.1 := by decide +kernel
theorem tyJ1_ok : ∀ k, k < 0 → parseFieldDescriptor (TJ1 k).2.2.1 = some (tyJ1 k) := by decide +kernel
abbrev cJ1_charAt_3b067 : ByteArray := prog_19_method_2_code
def yJ1_charAt_3b067 : MethodName := ⟨RJ1, "charAt", "([BI)C"⟩
def RJ2 : String := "java/lang/StringUTF16"
def TJ2 : u_T := fun k => match k with
  | _ => ("", "", "", false)
def tyJ2 : Nat → FieldType := fun k => match k with
  | _ => .int
abbrev wsJ20 : List Cond := u_ws RJ2 TJ2 0
theorem nmJ2 : ∀ a, a < 0 → ∀ b, b < 0 → a ≠ b → (TJ2 a).2.1 ≠ (TJ2 b).2.1 := by decide +kernel
theorem tyJ2_ok : ∀ k, k < 0 → parseFieldDescriptor (TJ2 k).2.2.1 = some (tyJ2 k) := by decide +kernel
abbrev cJ2_getChar_3b067 : ByteArray := prog_20_method_5_code
def yJ2_getChar_3b067 : MethodName := ⟨RJ2, "getChar", "([BI)C"⟩
abbrev cJ2_length_9d52b : ByteArray := prog_20_method_6_code
def yJ2_length_9d52b : MethodName := ⟨RJ2, "length", "([B)I"⟩
abbrev cJ2_charAt_3b067 : ByteArray := prog_20_method_83_code
def yJ2_charAt_3b067 : MethodName := ⟨RJ2, "charAt", "([BI)C"⟩
abbrev cJ2_checkIndex_2214a : ByteArray := prog_20_method_91_code
def yJ2_checkIndex_2214a : MethodName := ⟨RJ2, "checkIndex", "(I[B)V"⟩
def RJ7 : String := "java/util/Arrays"
def TJ7 : u_T := fun k => match k with
  | _ => ("", "", "", false)
def tyJ7 : Nat → FieldType := fun k => match k with
  | _ => .int
abbrev wsJ70 : List Cond := u_ws RJ7 TJ7 0
theorem nmJ7 : ∀ a, a < 0 → ∀ b, b < 0 → a ≠ b → (TJ7 a).2.1 ≠ (TJ7 b).2.1 := by decide +kernel
theorem tyJ7_ok : ∀ k, k < 0 → parseFieldDescriptor (TJ7 k).2.2.1 = some (tyJ7 k) := by decide +kernel
abbrev cJ7_fill_d0a16 : ByteArray := prog_22_method_101_code
def yJ7_fill_d0a16 : MethodName := ⟨RJ7, "fill", "([JJ)V"⟩
abbrev cJ7_fill_53178 : ByteArray := prog_22_method_103_code
def yJ7_fill_53178 : MethodName := ⟨RJ7, "fill", "([II)V"⟩
abbrev cJ7_fill_031fb : ByteArray := prog_22_method_109_code
def yJ7_fill_031fb : MethodName := ⟨RJ7, "fill", "([BB)V"⟩
def RJ3 : String := "jdk/internal/util/Preconditions"
def TJ3 : u_T := fun k => match k with
  | _ => ("", "", "", false)
def tyJ3 : Nat → FieldType := fun k => match k with
  | _ => .int
abbrev wsJ30 : List Cond := u_ws RJ3 TJ3 0
theorem nmJ3 : ∀ a, a < 0 → ∀ b, b < 0 → a ≠ b → (TJ3 a).2.1 ≠ (TJ3 b).2.1 := by decide +kernel
theorem tyJ3_ok : ∀ k, k < 0 → parseFieldDescriptor (TJ3 k).2.2.1 = some (tyJ3 k) := by decide +kernel
abbrev cJ3_checkIndex_8e157 : ByteArray := prog_23_method_11_code
def yJ3_checkIndex_8e157 : MethodName := ⟨RJ3, "checkIndex", "(IILjava/util/function/BiFunction;)I"⟩
def RL : String := "RuledCalendarLaw"
abbrev cL_feed : ByteArray := method_3_code
def yL_feed : MethodName := ⟨RL, "feed", "(LRuledCalendar;IJ[J)I"⟩
abbrev cL_thing : ByteArray := method_4_code
def yL_thing : MethodName := ⟨RL, "thing", "(LRuledCalendar;I[J)I"⟩
abbrev cL_drop : ByteArray := method_5_code
def yL_drop : MethodName := ⟨RL, "drop", "(LRuledCalendar;I)I"⟩
abbrev cL_except : ByteArray := method_6_code
def yL_except : MethodName := ⟨RL, "except", "(LRuledCalendar;IIZ[J)I"⟩
abbrev cL_besides : ByteArray := method_7_code
def yL_besides : MethodName := ⟨RL, "besides", "(LRuledCalendar;IIZ[J)I"⟩
abbrev cL_comes : ByteArray := method_8_code
def yL_comes : MethodName := ⟨RL, "comes", "(LRuledCalendar;II[J)I"⟩
abbrev cL_next : ByteArray := method_9_code
def yL_next : MethodName := ⟨RL, "next", "(LRuledCalendar;II[J)I"⟩
abbrev cL_date : ByteArray := method_10_code
def yL_date : MethodName := ⟨RL, "date", "(LRuledCalendar;II[J)I"⟩
abbrev cL_times : ByteArray := method_11_code
def yL_times : MethodName := ⟨RL, "times", "(LRuledCalendar;III[J)I"⟩
abbrev cL_list : ByteArray := method_12_code
def yL_list : MethodName := ⟨RL, "list", "(LRuledCalendar;II[J)I"⟩
abbrev cL_item : ByteArray := method_13_code
def yL_item : MethodName := ⟨RL, "item", "(LRuledCalendar;I[J)I"⟩
abbrev cL_busiest : ByteArray := method_14_code
def yL_busiest : MethodName := ⟨RL, "busiest", "(LRuledCalendar;II[J)I"⟩
abbrev cL_quiet : ByteArray := method_15_code
def yL_quiet : MethodName := ⟨RL, "quiet", "(LRuledCalendar;II[J)I"⟩
abbrev cL_shifted : ByteArray := method_16_code
def yL_shifted : MethodName := ⟨RL, "shifted", "(LRuledCalendar;II[J)I"⟩
abbrev cL_law : ByteArray := code
def yL_law : MethodName := ⟨RL, "law", "([I)Z"⟩
abbrev vwCl : List vw_C := [(RX0, TX0, 1), (RX1, TX1, 8), (RX4, TX4, 6), (RX5, TX5, 13), (RX6, TX6, 4), (RX7, TX7, 10), (RX8, TX8, 26)]
