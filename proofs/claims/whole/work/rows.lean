section
-- ===== PART A: goes FIRST, ahead of the names: the tables' words, and 'selects' of the private methods out of them =====
/-- a private method of a class that the tables say can be made, by its rows of tables_1 -/
def lw_okq (q : MethodName × Nat) : Prop := (q.1.cls ≠ "java/lang/invoke/MethodHandle" ∧ q.1.cls ≠ "java/lang/invoke/VarHandle") ∧ Cond.instantiable q.1.cls q.2 ∈ tables_1 ∧ Cond.privateMethod q.1 ∈ tables_1 ∧ Cond.instanceMethod q.1 ∈ tables_1
theorem lw_p0 : lw_okq (⟨"RuledCalendar$Rule", "forget", "()V"⟩, 13) := ⟨⟨by decide +kernel, by decide +kernel⟩, List.mem_of_getElem? (i := 54) (by decide +kernel), List.mem_of_getElem? (i := 60) (by decide +kernel), List.mem_of_getElem? (i := 61) (by decide +kernel)⟩
theorem lw_p1 : lw_okq (⟨"java/lang/Throwable", "fillInStackTrace", "(I)Ljava/lang/Throwable;"⟩, 6) := ⟨⟨by decide +kernel, by decide +kernel⟩, List.mem_of_getElem? (i := 277) (by decide +kernel), List.mem_of_getElem? (i := 275) (by decide +kernel), List.mem_of_getElem? (i := 276) (by decide +kernel)⟩
theorem lw_p2 : lw_okq (⟨"RuledCalendar", "freeNumber", "()I"⟩, 10) := ⟨⟨by decide +kernel, by decide +kernel⟩, List.mem_of_getElem? (i := 24) (by decide +kernel), List.mem_of_getElem? (i := 321) (by decide +kernel), List.mem_of_getElem? (i := 322) (by decide +kernel)⟩
theorem lw_p3 : lw_okq (⟨"RuledCalendar$Reader", "readPart", "()V"⟩, 6) := ⟨⟨by decide +kernel, by decide +kernel⟩, List.mem_of_getElem? (i := 129) (by decide +kernel), List.mem_of_getElem? (i := 333) (by decide +kernel), List.mem_of_getElem? (i := 334) (by decide +kernel)⟩
theorem lw_p4 : lw_okq (⟨"RuledCalendar$Reader", "takeLetters", "(I)I"⟩, 6) := ⟨⟨by decide +kernel, by decide +kernel⟩, List.mem_of_getElem? (i := 129) (by decide +kernel), List.mem_of_getElem? (i := 337) (by decide +kernel), List.mem_of_getElem? (i := 338) (by decide +kernel)⟩
theorem lw_p5 : lw_okq (⟨"RuledCalendar$Reader", "seesLetter", "()Z"⟩, 6) := ⟨⟨by decide +kernel, by decide +kernel⟩, List.mem_of_getElem? (i := 129) (by decide +kernel), List.mem_of_getElem? (i := 341) (by decide +kernel), List.mem_of_getElem? (i := 342) (by decide +kernel)⟩
theorem lw_p6 : lw_okq (⟨"RuledCalendar$Reader", "fail", "(II)V"⟩, 6) := ⟨⟨by decide +kernel, by decide +kernel⟩, List.mem_of_getElem? (i := 129) (by decide +kernel), List.mem_of_getElem? (i := 345) (by decide +kernel), List.mem_of_getElem? (i := 346) (by decide +kernel)⟩
theorem lw_p7 : lw_okq (⟨"RuledCalendar$Reader", "partNamed", "(I)LRuledCalendar$Part;"⟩, 6) := ⟨⟨by decide +kernel, by decide +kernel⟩, List.mem_of_getElem? (i := 129) (by decide +kernel), List.mem_of_getElem? (i := 349) (by decide +kernel), List.mem_of_getElem? (i := 350) (by decide +kernel)⟩
theorem lw_p8 : lw_okq (⟨"RuledCalendar$Reader", "isWord", "(Ljava/lang/String;I)Z"⟩, 6) := ⟨⟨by decide +kernel, by decide +kernel⟩, List.mem_of_getElem? (i := 129) (by decide +kernel), List.mem_of_getElem? (i := 355) (by decide +kernel), List.mem_of_getElem? (i := 356) (by decide +kernel)⟩
theorem lw_p9 : lw_okq (⟨"RuledCalendar$Reader", "take", "(C)V"⟩, 6) := ⟨⟨by decide +kernel, by decide +kernel⟩, List.mem_of_getElem? (i := 129) (by decide +kernel), List.mem_of_getElem? (i := 411) (by decide +kernel), List.mem_of_getElem? (i := 412) (by decide +kernel)⟩
theorem lw_p10 : lw_okq (⟨"RuledCalendar$Reader", "sees", "(C)Z"⟩, 6) := ⟨⟨by decide +kernel, by decide +kernel⟩, List.mem_of_getElem? (i := 129) (by decide +kernel), List.mem_of_getElem? (i := 415) (by decide +kernel), List.mem_of_getElem? (i := 416) (by decide +kernel)⟩
theorem lw_p11 : lw_okq (⟨"RuledCalendar$Reader", "readValue", "(LRuledCalendar$Part;)V"⟩, 6) := ⟨⟨by decide +kernel, by decide +kernel⟩, List.mem_of_getElem? (i := 129) (by decide +kernel), List.mem_of_getElem? (i := 419) (by decide +kernel), List.mem_of_getElem? (i := 420) (by decide +kernel)⟩
theorem lw_p12 : lw_okq (⟨"RuledCalendar$Reader", "readFrequency", "()V"⟩, 6) := ⟨⟨by decide +kernel, by decide +kernel⟩, List.mem_of_getElem? (i := 129) (by decide +kernel), List.mem_of_getElem? (i := 425) (by decide +kernel), List.mem_of_getElem? (i := 426) (by decide +kernel)⟩
theorem lw_p13 : lw_okq (⟨"RuledCalendar$Reader", "readWeekday", "()V"⟩, 6) := ⟨⟨by decide +kernel, by decide +kernel⟩, List.mem_of_getElem? (i := 129) (by decide +kernel), List.mem_of_getElem? (i := 433) (by decide +kernel), List.mem_of_getElem? (i := 434) (by decide +kernel)⟩
theorem lw_p14 : lw_okq (⟨"RuledCalendar$Reader", "seesFigure", "()Z"⟩, 6) := ⟨⟨by decide +kernel, by decide +kernel⟩, List.mem_of_getElem? (i := 129) (by decide +kernel), List.mem_of_getElem? (i := 437) (by decide +kernel), List.mem_of_getElem? (i := 438) (by decide +kernel)⟩
theorem lw_p15 : lw_okq (⟨"RuledCalendar$Reader", "readNumber", "(LRuledCalendar$Part;)I"⟩, 6) := ⟨⟨by decide +kernel, by decide +kernel⟩, List.mem_of_getElem? (i := 129) (by decide +kernel), List.mem_of_getElem? (i := 441) (by decide +kernel), List.mem_of_getElem? (i := 442) (by decide +kernel)⟩
def lw_privs_1 : List (MethodName × Nat) := [(⟨"RuledCalendar$Rule", "forget", "()V"⟩, 13), (⟨"java/lang/Throwable", "fillInStackTrace", "(I)Ljava/lang/Throwable;"⟩, 6), (⟨"RuledCalendar", "freeNumber", "()I"⟩, 10), (⟨"RuledCalendar$Reader", "readPart", "()V"⟩, 6), (⟨"RuledCalendar$Reader", "takeLetters", "(I)I"⟩, 6), (⟨"RuledCalendar$Reader", "seesLetter", "()Z"⟩, 6), (⟨"RuledCalendar$Reader", "fail", "(II)V"⟩, 6), (⟨"RuledCalendar$Reader", "partNamed", "(I)LRuledCalendar$Part;"⟩, 6), (⟨"RuledCalendar$Reader", "isWord", "(Ljava/lang/String;I)Z"⟩, 6), (⟨"RuledCalendar$Reader", "take", "(C)V"⟩, 6), (⟨"RuledCalendar$Reader", "sees", "(C)Z"⟩, 6), (⟨"RuledCalendar$Reader", "readValue", "(LRuledCalendar$Part;)V"⟩, 6), (⟨"RuledCalendar$Reader", "readFrequency", "()V"⟩, 6), (⟨"RuledCalendar$Reader", "readWeekday", "()V"⟩, 6), (⟨"RuledCalendar$Reader", "seesFigure", "()Z"⟩, 6), (⟨"RuledCalendar$Reader", "readNumber", "(LRuledCalendar$Part;)I"⟩, 6)]
theorem lw_r1 : ∀ q ∈ lw_privs_1, lw_okq q := List.forall_mem_cons.mpr ⟨lw_p0, List.forall_mem_cons.mpr ⟨lw_p1, List.forall_mem_cons.mpr ⟨lw_p2, List.forall_mem_cons.mpr ⟨lw_p3, List.forall_mem_cons.mpr ⟨lw_p4, List.forall_mem_cons.mpr ⟨lw_p5, List.forall_mem_cons.mpr ⟨lw_p6, List.forall_mem_cons.mpr ⟨lw_p7, List.forall_mem_cons.mpr ⟨lw_p8, List.forall_mem_cons.mpr ⟨lw_p9, List.forall_mem_cons.mpr ⟨lw_p10, List.forall_mem_cons.mpr ⟨lw_p11, List.forall_mem_cons.mpr ⟨lw_p12, List.forall_mem_cons.mpr ⟨lw_p13, List.forall_mem_cons.mpr ⟨lw_p14, List.forall_mem_cons.mpr ⟨lw_p15, fun _ h => absurd h List.not_mem_nil⟩⟩⟩⟩⟩⟩⟩⟩⟩⟩⟩⟩⟩⟩⟩⟩
theorem lw_p16 : lw_okq (⟨"RuledCalendar$Reader", "weekdayAt", "(I)I"⟩, 6) := ⟨⟨by decide +kernel, by decide +kernel⟩, List.mem_of_getElem? (i := 129) (by decide +kernel), List.mem_of_getElem? (i := 450) (by decide +kernel), List.mem_of_getElem? (i := 451) (by decide +kernel)⟩
theorem lw_p17 : lw_okq (⟨"RuledCalendar$Filler", "countedDays", "(I)I"⟩, 8) := ⟨⟨by decide +kernel, by decide +kernel⟩, List.mem_of_getElem? (i := 156) (by decide +kernel), List.mem_of_getElem? (i := 542) (by decide +kernel), List.mem_of_getElem? (i := 543) (by decide +kernel)⟩
theorem lw_p18 : lw_okq (⟨"RuledCalendar$Filler", "counts", "(II)Z"⟩, 8) := ⟨⟨by decide +kernel, by decide +kernel⟩, List.mem_of_getElem? (i := 156) (by decide +kernel), List.mem_of_getElem? (i := 546) (by decide +kernel), List.mem_of_getElem? (i := 547) (by decide +kernel)⟩
theorem lw_p19 : lw_okq (⟨"RuledCalendar$Filler", "suitingDays", "(I)I"⟩, 8) := ⟨⟨by decide +kernel, by decide +kernel⟩, List.mem_of_getElem? (i := 156) (by decide +kernel), List.mem_of_getElem? (i := 550) (by decide +kernel), List.mem_of_getElem? (i := 551) (by decide +kernel)⟩
theorem lw_p20 : lw_okq (⟨"RuledCalendar$Filler", "monthSuits", "(I)Z"⟩, 8) := ⟨⟨by decide +kernel, by decide +kernel⟩, List.mem_of_getElem? (i := 156) (by decide +kernel), List.mem_of_getElem? (i := 554) (by decide +kernel), List.mem_of_getElem? (i := 555) (by decide +kernel)⟩
theorem lw_p21 : lw_okq (⟨"RuledCalendar$Filler", "byMonthDay", "(I)I"⟩, 8) := ⟨⟨by decide +kernel, by decide +kernel⟩, List.mem_of_getElem? (i := 156) (by decide +kernel), List.mem_of_getElem? (i := 566) (by decide +kernel), List.mem_of_getElem? (i := 567) (by decide +kernel)⟩
theorem lw_p22 : lw_okq (⟨"RuledCalendar$Filler", "byWeekday", "(I)I"⟩, 8) := ⟨⟨by decide +kernel, by decide +kernel⟩, List.mem_of_getElem? (i := 156) (by decide +kernel), List.mem_of_getElem? (i := 571) (by decide +kernel), List.mem_of_getElem? (i := 572) (by decide +kernel)⟩
theorem lw_p23 : lw_okq (⟨"RuledCalendar$Filler", "numberedWeekdays", "(I)I"⟩, 8) := ⟨⟨by decide +kernel, by decide +kernel⟩, List.mem_of_getElem? (i := 156) (by decide +kernel), List.mem_of_getElem? (i := 575) (by decide +kernel), List.mem_of_getElem? (i := 576) (by decide +kernel)⟩
theorem lw_p24 : lw_okq (⟨"RuledCalendar$Filler", "plainWeekdays", "(II)I"⟩, 8) := ⟨⟨by decide +kernel, by decide +kernel⟩, List.mem_of_getElem? (i := 156) (by decide +kernel), List.mem_of_getElem? (i := 580) (by decide +kernel), List.mem_of_getElem? (i := 581) (by decide +kernel)⟩
theorem lw_p25 : lw_okq (⟨"RuledCalendar$Filler", "choosePlaces", "(II)V"⟩, 8) := ⟨⟨by decide +kernel, by decide +kernel⟩, List.mem_of_getElem? (i := 156) (by decide +kernel), List.mem_of_getElem? (i := 586) (by decide +kernel), List.mem_of_getElem? (i := 587) (by decide +kernel)⟩
theorem lw_p26 : lw_okq (⟨"RuledCalendar$Filler", "keepChosen", "()V"⟩, 8) := ⟨⟨by decide +kernel, by decide +kernel⟩, List.mem_of_getElem? (i := 156) (by decide +kernel), List.mem_of_getElem? (i := 600) (by decide +kernel), List.mem_of_getElem? (i := 601) (by decide +kernel)⟩
theorem lw_p27 : lw_okq (⟨"RuledCalendar$Filler", "gather", "(II)V"⟩, 8) := ⟨⟨by decide +kernel, by decide +kernel⟩, List.mem_of_getElem? (i := 156) (by decide +kernel), List.mem_of_getElem? (i := 608) (by decide +kernel), List.mem_of_getElem? (i := 609) (by decide +kernel)⟩
theorem lw_p28 : lw_okq (⟨"RuledCalendar$Filler", "cutEnds", "(II)V"⟩, 8) := ⟨⟨by decide +kernel, by decide +kernel⟩, List.mem_of_getElem? (i := 156) (by decide +kernel), List.mem_of_getElem? (i := 612) (by decide +kernel), List.mem_of_getElem? (i := 613) (by decide +kernel)⟩
theorem lw_p29 : lw_okq (⟨"RuledCalendar", "knownThing", "(I)LRuledCalendar$Thing;"⟩, 10) := ⟨⟨by decide +kernel, by decide +kernel⟩, List.mem_of_getElem? (i := 24) (by decide +kernel), List.mem_of_getElem? (i := 631) (by decide +kernel), List.mem_of_getElem? (i := 632) (by decide +kernel)⟩
theorem lw_p30 : lw_okq (⟨"RuledCalendar", "busyDays", "(I)I"⟩, 10) := ⟨⟨by decide +kernel, by decide +kernel⟩, List.mem_of_getElem? (i := 24) (by decide +kernel), List.mem_of_getElem? (i := 718) (by decide +kernel), List.mem_of_getElem? (i := 719) (by decide +kernel)⟩
theorem lw_p31 : lw_okq (⟨"RuledCalendar", "daysOfThing", "(II)I"⟩, 10) := ⟨⟨by decide +kernel, by decide +kernel⟩, List.mem_of_getElem? (i := 24) (by decide +kernel), List.mem_of_getElem? (i := 722) (by decide +kernel), List.mem_of_getElem? (i := 723) (by decide +kernel)⟩
def lw_privs_2 : List (MethodName × Nat) := [(⟨"RuledCalendar$Reader", "weekdayAt", "(I)I"⟩, 6), (⟨"RuledCalendar$Filler", "countedDays", "(I)I"⟩, 8), (⟨"RuledCalendar$Filler", "counts", "(II)Z"⟩, 8), (⟨"RuledCalendar$Filler", "suitingDays", "(I)I"⟩, 8), (⟨"RuledCalendar$Filler", "monthSuits", "(I)Z"⟩, 8), (⟨"RuledCalendar$Filler", "byMonthDay", "(I)I"⟩, 8), (⟨"RuledCalendar$Filler", "byWeekday", "(I)I"⟩, 8), (⟨"RuledCalendar$Filler", "numberedWeekdays", "(I)I"⟩, 8), (⟨"RuledCalendar$Filler", "plainWeekdays", "(II)I"⟩, 8), (⟨"RuledCalendar$Filler", "choosePlaces", "(II)V"⟩, 8), (⟨"RuledCalendar$Filler", "keepChosen", "()V"⟩, 8), (⟨"RuledCalendar$Filler", "gather", "(II)V"⟩, 8), (⟨"RuledCalendar$Filler", "cutEnds", "(II)V"⟩, 8), (⟨"RuledCalendar", "knownThing", "(I)LRuledCalendar$Thing;"⟩, 10), (⟨"RuledCalendar", "busyDays", "(I)I"⟩, 10), (⟨"RuledCalendar", "daysOfThing", "(II)I"⟩, 10)]
theorem lw_r2 : ∀ q ∈ lw_privs_2, lw_okq q := List.forall_mem_cons.mpr ⟨lw_p16, List.forall_mem_cons.mpr ⟨lw_p17, List.forall_mem_cons.mpr ⟨lw_p18, List.forall_mem_cons.mpr ⟨lw_p19, List.forall_mem_cons.mpr ⟨lw_p20, List.forall_mem_cons.mpr ⟨lw_p21, List.forall_mem_cons.mpr ⟨lw_p22, List.forall_mem_cons.mpr ⟨lw_p23, List.forall_mem_cons.mpr ⟨lw_p24, List.forall_mem_cons.mpr ⟨lw_p25, List.forall_mem_cons.mpr ⟨lw_p26, List.forall_mem_cons.mpr ⟨lw_p27, List.forall_mem_cons.mpr ⟨lw_p28, List.forall_mem_cons.mpr ⟨lw_p29, List.forall_mem_cons.mpr ⟨lw_p30, List.forall_mem_cons.mpr ⟨lw_p31, fun _ h => absurd h List.not_mem_nil⟩⟩⟩⟩⟩⟩⟩⟩⟩⟩⟩⟩⟩⟩⟩⟩
theorem lw_p32 : lw_okq (⟨"RuledCalendar", "listMonth", "(II)V"⟩, 10) := ⟨⟨by decide +kernel, by decide +kernel⟩, List.mem_of_getElem? (i := 24) (by decide +kernel), List.mem_of_getElem? (i := 726) (by decide +kernel), List.mem_of_getElem? (i := 727) (by decide +kernel)⟩
theorem lw_p33 : lw_okq (⟨"RuledCalendar", "listDay", "(II)V"⟩, 10) := ⟨⟨by decide +kernel, by decide +kernel⟩, List.mem_of_getElem? (i := 24) (by decide +kernel), List.mem_of_getElem? (i := 730) (by decide +kernel), List.mem_of_getElem? (i := 731) (by decide +kernel)⟩
theorem lw_p34 : lw_okq (⟨"RuledCalendar", "countThings", "(II)V"⟩, 10) := ⟨⟨by decide +kernel, by decide +kernel⟩, List.mem_of_getElem? (i := 24) (by decide +kernel), List.mem_of_getElem? (i := 749) (by decide +kernel), List.mem_of_getElem? (i := 750) (by decide +kernel)⟩
theorem lw_p35 : lw_okq (⟨"RuledCalendarModel", "monthLength", "(II)I"⟩, 26) := ⟨⟨by decide +kernel, by decide +kernel⟩, List.mem_of_getElem? (i := 774) (by decide +kernel), List.mem_of_getElem? (i := 782) (by decide +kernel), List.mem_of_getElem? (i := 783) (by decide +kernel)⟩
theorem lw_p36 : lw_okq (⟨"RuledCalendarModel", "dayOf", "(I)I"⟩, 26) := ⟨⟨by decide +kernel, by decide +kernel⟩, List.mem_of_getElem? (i := 774) (by decide +kernel), List.mem_of_getElem? (i := 886) (by decide +kernel), List.mem_of_getElem? (i := 887) (by decide +kernel)⟩
theorem lw_p37 : lw_okq (⟨"RuledCalendarModel", "readRule", "()V"⟩, 26) := ⟨⟨by decide +kernel, by decide +kernel⟩, List.mem_of_getElem? (i := 774) (by decide +kernel), List.mem_of_getElem? (i := 890) (by decide +kernel), List.mem_of_getElem? (i := 891) (by decide +kernel)⟩
theorem lw_p38 : lw_okq (⟨"RuledCalendarModel", "forget", "()V"⟩, 26) := ⟨⟨by decide +kernel, by decide +kernel⟩, List.mem_of_getElem? (i := 774) (by decide +kernel), List.mem_of_getElem? (i := 894) (by decide +kernel), List.mem_of_getElem? (i := 895) (by decide +kernel)⟩
theorem lw_p39 : lw_okq (⟨"RuledCalendarModel", "part", "()V"⟩, 26) := ⟨⟨by decide +kernel, by decide +kernel⟩, List.mem_of_getElem? (i := 774) (by decide +kernel), List.mem_of_getElem? (i := 899) (by decide +kernel), List.mem_of_getElem? (i := 900) (by decide +kernel)⟩
theorem lw_p40 : lw_okq (⟨"RuledCalendarModel", "capitals", "(I)I"⟩, 26) := ⟨⟨by decide +kernel, by decide +kernel⟩, List.mem_of_getElem? (i := 774) (by decide +kernel), List.mem_of_getElem? (i := 903) (by decide +kernel), List.mem_of_getElem? (i := 904) (by decide +kernel)⟩
theorem lw_p41 : lw_okq (⟨"RuledCalendarModel", "byteAt", "(I)I"⟩, 26) := ⟨⟨by decide +kernel, by decide +kernel⟩, List.mem_of_getElem? (i := 774) (by decide +kernel), List.mem_of_getElem? (i := 907) (by decide +kernel), List.mem_of_getElem? (i := 908) (by decide +kernel)⟩
theorem lw_p42 : lw_okq (⟨"RuledCalendarModel", "lettersAt", "(I)J"⟩, 26) := ⟨⟨by decide +kernel, by decide +kernel⟩, List.mem_of_getElem? (i := 774) (by decide +kernel), List.mem_of_getElem? (i := 914) (by decide +kernel), List.mem_of_getElem? (i := 915) (by decide +kernel)⟩
theorem lw_p43 : lw_okq (⟨"RuledCalendarModel", "fail", "(II)V"⟩, 26) := ⟨⟨by decide +kernel, by decide +kernel⟩, List.mem_of_getElem? (i := 774) (by decide +kernel), List.mem_of_getElem? (i := 928) (by decide +kernel), List.mem_of_getElem? (i := 929) (by decide +kernel)⟩
theorem lw_p44 : lw_okq (⟨"RuledCalendarModel", "value", "(I)V"⟩, 26) := ⟨⟨by decide +kernel, by decide +kernel⟩, List.mem_of_getElem? (i := 774) (by decide +kernel), List.mem_of_getElem? (i := 932) (by decide +kernel), List.mem_of_getElem? (i := 933) (by decide +kernel)⟩
theorem lw_p45 : lw_okq (⟨"RuledCalendarModel", "number", "(II)I"⟩, 26) := ⟨⟨by decide +kernel, by decide +kernel⟩, List.mem_of_getElem? (i := 774) (by decide +kernel), List.mem_of_getElem? (i := 939) (by decide +kernel), List.mem_of_getElem? (i := 940) (by decide +kernel)⟩
theorem lw_p46 : lw_okq (⟨"RuledCalendarModel", "untilDate", "()V"⟩, 26) := ⟨⟨by decide +kernel, by decide +kernel⟩, List.mem_of_getElem? (i := 774) (by decide +kernel), List.mem_of_getElem? (i := 949) (by decide +kernel), List.mem_of_getElem? (i := 950) (by decide +kernel)⟩
theorem lw_p47 : lw_okq (⟨"RuledCalendarModel", "oneItem", "(I)V"⟩, 26) := ⟨⟨by decide +kernel, by decide +kernel⟩, List.mem_of_getElem? (i := 774) (by decide +kernel), List.mem_of_getElem? (i := 954) (by decide +kernel), List.mem_of_getElem? (i := 955) (by decide +kernel)⟩
def lw_privs_3 : List (MethodName × Nat) := [(⟨"RuledCalendar", "listMonth", "(II)V"⟩, 10), (⟨"RuledCalendar", "listDay", "(II)V"⟩, 10), (⟨"RuledCalendar", "countThings", "(II)V"⟩, 10), (⟨"RuledCalendarModel", "monthLength", "(II)I"⟩, 26), (⟨"RuledCalendarModel", "dayOf", "(I)I"⟩, 26), (⟨"RuledCalendarModel", "readRule", "()V"⟩, 26), (⟨"RuledCalendarModel", "forget", "()V"⟩, 26), (⟨"RuledCalendarModel", "part", "()V"⟩, 26), (⟨"RuledCalendarModel", "capitals", "(I)I"⟩, 26), (⟨"RuledCalendarModel", "byteAt", "(I)I"⟩, 26), (⟨"RuledCalendarModel", "lettersAt", "(I)J"⟩, 26), (⟨"RuledCalendarModel", "fail", "(II)V"⟩, 26), (⟨"RuledCalendarModel", "value", "(I)V"⟩, 26), (⟨"RuledCalendarModel", "number", "(II)I"⟩, 26), (⟨"RuledCalendarModel", "untilDate", "()V"⟩, 26), (⟨"RuledCalendarModel", "oneItem", "(I)V"⟩, 26)]
theorem lw_r3 : ∀ q ∈ lw_privs_3, lw_okq q := List.forall_mem_cons.mpr ⟨lw_p32, List.forall_mem_cons.mpr ⟨lw_p33, List.forall_mem_cons.mpr ⟨lw_p34, List.forall_mem_cons.mpr ⟨lw_p35, List.forall_mem_cons.mpr ⟨lw_p36, List.forall_mem_cons.mpr ⟨lw_p37, List.forall_mem_cons.mpr ⟨lw_p38, List.forall_mem_cons.mpr ⟨lw_p39, List.forall_mem_cons.mpr ⟨lw_p40, List.forall_mem_cons.mpr ⟨lw_p41, List.forall_mem_cons.mpr ⟨lw_p42, List.forall_mem_cons.mpr ⟨lw_p43, List.forall_mem_cons.mpr ⟨lw_p44, List.forall_mem_cons.mpr ⟨lw_p45, List.forall_mem_cons.mpr ⟨lw_p46, List.forall_mem_cons.mpr ⟨lw_p47, fun _ h => absurd h List.not_mem_nil⟩⟩⟩⟩⟩⟩⟩⟩⟩⟩⟩⟩⟩⟩⟩⟩
theorem lw_p48 : lw_okq (⟨"RuledCalendarModel", "dayItem", "()V"⟩, 26) := ⟨⟨by decide +kernel, by decide +kernel⟩, List.mem_of_getElem? (i := 774) (by decide +kernel), List.mem_of_getElem? (i := 958) (by decide +kernel), List.mem_of_getElem? (i := 959) (by decide +kernel)⟩
theorem lw_p49 : lw_okq (⟨"RuledCalendarModel", "makeAll", "(I)V"⟩, 26) := ⟨⟨by decide +kernel, by decide +kernel⟩, List.mem_of_getElem? (i := 774) (by decide +kernel), List.mem_of_getElem? (i := 965) (by decide +kernel), List.mem_of_getElem? (i := 966) (by decide +kernel)⟩
theorem lw_p50 : lw_okq (⟨"RuledCalendarModel", "periodOf", "(I)I"⟩, 26) := ⟨⟨by decide +kernel, by decide +kernel⟩, List.mem_of_getElem? (i := 774) (by decide +kernel), List.mem_of_getElem? (i := 969) (by decide +kernel), List.mem_of_getElem? (i := 970) (by decide +kernel)⟩
theorem lw_p51 : lw_okq (⟨"RuledCalendarModel", "yearOf", "(I)I"⟩, 26) := ⟨⟨by decide +kernel, by decide +kernel⟩, List.mem_of_getElem? (i := 774) (by decide +kernel), List.mem_of_getElem? (i := 973) (by decide +kernel), List.mem_of_getElem? (i := 974) (by decide +kernel)⟩
theorem lw_p52 : lw_okq (⟨"RuledCalendarModel", "monthOf", "(I)I"⟩, 26) := ⟨⟨by decide +kernel, by decide +kernel⟩, List.mem_of_getElem? (i := 774) (by decide +kernel), List.mem_of_getElem? (i := 977) (by decide +kernel), List.mem_of_getElem? (i := 978) (by decide +kernel)⟩
theorem lw_p53 : lw_okq (⟨"RuledCalendarModel", "suits", "(I)Z"⟩, 26) := ⟨⟨by decide +kernel, by decide +kernel⟩, List.mem_of_getElem? (i := 774) (by decide +kernel), List.mem_of_getElem? (i := 981) (by decide +kernel), List.mem_of_getElem? (i := 982) (by decide +kernel)⟩
theorem lw_p54 : lw_okq (⟨"RuledCalendarModel", "monthDayOf", "(I)I"⟩, 26) := ⟨⟨by decide +kernel, by decide +kernel⟩, List.mem_of_getElem? (i := 774) (by decide +kernel), List.mem_of_getElem? (i := 985) (by decide +kernel), List.mem_of_getElem? (i := 986) (by decide +kernel)⟩
theorem lw_p55 : lw_okq (⟨"RuledCalendarModel", "hasNumberedWeekday", "(I)Z"⟩, 26) := ⟨⟨by decide +kernel, by decide +kernel⟩, List.mem_of_getElem? (i := 774) (by decide +kernel), List.mem_of_getElem? (i := 989) (by decide +kernel), List.mem_of_getElem? (i := 990) (by decide +kernel)⟩
theorem lw_p56 : lw_okq (⟨"RuledCalendarModel", "setBit", "([IIIZ)V"⟩, 26) := ⟨⟨by decide +kernel, by decide +kernel⟩, List.mem_of_getElem? (i := 774) (by decide +kernel), List.mem_of_getElem? (i := 993) (by decide +kernel), List.mem_of_getElem? (i := 994) (by decide +kernel)⟩
theorem lw_p57 : lw_okq (⟨"RuledCalendarModel", "noThing", "(I)Z"⟩, 26) := ⟨⟨by decide +kernel, by decide +kernel⟩, List.mem_of_getElem? (i := 774) (by decide +kernel), List.mem_of_getElem? (i := 1009) (by decide +kernel), List.mem_of_getElem? (i := 1010) (by decide +kernel)⟩
theorem lw_p58 : lw_okq (⟨"RuledCalendarModel", "hasBit", "([III)Z"⟩, 26) := ⟨⟨by decide +kernel, by decide +kernel⟩, List.mem_of_getElem? (i := 774) (by decide +kernel), List.mem_of_getElem? (i := 1017) (by decide +kernel), List.mem_of_getElem? (i := 1018) (by decide +kernel)⟩
theorem lw_p59 : lw_okq (⟨"RuledCalendarModel", "comesAt", "(II)Z"⟩, 26) := ⟨⟨by decide +kernel, by decide +kernel⟩, List.mem_of_getElem? (i := 774) (by decide +kernel), List.mem_of_getElem? (i := 1029) (by decide +kernel), List.mem_of_getElem? (i := 1030) (by decide +kernel)⟩
theorem lw_p60 : lw_okq (⟨"RuledCalendarModel", "manyAt", "(I)I"⟩, 26) := ⟨⟨by decide +kernel, by decide +kernel⟩, List.mem_of_getElem? (i := 774) (by decide +kernel), List.mem_of_getElem? (i := 1058) (by decide +kernel), List.mem_of_getElem? (i := 1059) (by decide +kernel)⟩
def lw_privs_4 : List (MethodName × Nat) := [(⟨"RuledCalendarModel", "dayItem", "()V"⟩, 26), (⟨"RuledCalendarModel", "makeAll", "(I)V"⟩, 26), (⟨"RuledCalendarModel", "periodOf", "(I)I"⟩, 26), (⟨"RuledCalendarModel", "yearOf", "(I)I"⟩, 26), (⟨"RuledCalendarModel", "monthOf", "(I)I"⟩, 26), (⟨"RuledCalendarModel", "suits", "(I)Z"⟩, 26), (⟨"RuledCalendarModel", "monthDayOf", "(I)I"⟩, 26), (⟨"RuledCalendarModel", "hasNumberedWeekday", "(I)Z"⟩, 26), (⟨"RuledCalendarModel", "setBit", "([IIIZ)V"⟩, 26), (⟨"RuledCalendarModel", "noThing", "(I)Z"⟩, 26), (⟨"RuledCalendarModel", "hasBit", "([III)Z"⟩, 26), (⟨"RuledCalendarModel", "comesAt", "(II)Z"⟩, 26), (⟨"RuledCalendarModel", "manyAt", "(I)I"⟩, 26)]
theorem lw_r4 : ∀ q ∈ lw_privs_4, lw_okq q := List.forall_mem_cons.mpr ⟨lw_p48, List.forall_mem_cons.mpr ⟨lw_p49, List.forall_mem_cons.mpr ⟨lw_p50, List.forall_mem_cons.mpr ⟨lw_p51, List.forall_mem_cons.mpr ⟨lw_p52, List.forall_mem_cons.mpr ⟨lw_p53, List.forall_mem_cons.mpr ⟨lw_p54, List.forall_mem_cons.mpr ⟨lw_p55, List.forall_mem_cons.mpr ⟨lw_p56, List.forall_mem_cons.mpr ⟨lw_p57, List.forall_mem_cons.mpr ⟨lw_p58, List.forall_mem_cons.mpr ⟨lw_p59, List.forall_mem_cons.mpr ⟨lw_p60, fun _ h => absurd h List.not_mem_nil⟩⟩⟩⟩⟩⟩⟩⟩⟩⟩⟩⟩⟩
def lw_privs : List (MethodName × Nat) := lw_privs_1 ++ (lw_privs_2 ++ (lw_privs_3 ++ (lw_privs_4)))
def lw_tbl : List Cond := k2_sels lw_privs ++ tables_1
theorem lw_privs_ok : ∀ q ∈ lw_privs, lw_okq q := by
  show ∀ q ∈ lw_privs_1 ++ (lw_privs_2 ++ (lw_privs_3 ++ (lw_privs_4))), lw_okq q
  exact List.forall_mem_append.mpr ⟨lw_r1, List.forall_mem_append.mpr ⟨lw_r2, List.forall_mem_append.mpr ⟨lw_r3, lw_r4⟩⟩⟩
/-! ===== BEGIN printed: names, fields, word lists, decode rows ===== -/
def RX0 : String := "RuledCalendar$Days"
def TX0 : u_T := fun k => match k with
  | _ => ("RuledCalendar$Days", "first", "[I", true)
def tyX0 : Nat → FieldType := fun k => match k with
  | _ => .array .int
abbrev wsX00 : List Cond := u_ws RX0 TX0 1
theorem nmX0 : ∀ a, a < 1 → ∀ b, b < 1 → a ≠ b → (TX0 a).2.1 ≠ (TX0 b).2.1 := by decide +kernel
theorem tyX0_ok : ∀ k, k < 1 → parseFieldDescriptor (TX0 k).2.2.1 = some (tyX0 k) := by decide +kernel
abbrev cX0_init : ByteArray := prog_2_method_1_code
def yX0_init : MethodName := ⟨RX0, "<init>", "()V"⟩
abbrev cX0_isDate : ByteArray := prog_2_method_2_code
def yX0_isDate : MethodName := ⟨RX0, "isDate", "(I)Z"⟩
abbrev cX0_monthOf : ByteArray := prog_2_method_3_code
def yX0_monthOf : MethodName := ⟨RX0, "monthOf", "(I)I"⟩
abbrev cX0_dayOf : ByteArray := prog_2_method_4_code
def yX0_dayOf : MethodName := ⟨RX0, "dayOf", "(I)I"⟩
abbrev cX0_dateAt : ByteArray := prog_2_method_5_code
def yX0_dateAt : MethodName := ⟨RX0, "dateAt", "(II)I"⟩
abbrev cX0_lengthOf : ByteArray := prog_2_method_6_code
def yX0_lengthOf : MethodName := ⟨RX0, "lengthOf", "(I)I"⟩
abbrev cX0_isLeap : ByteArray := prog_2_method_7_code
def yX0_isLeap : MethodName := ⟨RX0, "isLeap", "(I)Z"⟩
abbrev cX0_januaryOf : ByteArray := prog_2_method_8_code
def yX0_januaryOf : MethodName := ⟨RX0, "januaryOf", "(I)I"⟩
abbrev cX0_between : ByteArray := prog_2_method_9_code
def yX0_between : MethodName := ⟨RX0, "between", "(III)I"⟩
abbrev cX0_lowest : ByteArray := prog_2_method_10_code
def yX0_lowest : MethodName := ⟨RX0, "lowest", "(II)I"⟩
abbrev cX0_numberOf : ByteArray := prog_2_method_11_code
def yX0_numberOf : MethodName := ⟨RX0, "numberOf", "(I)I"⟩
abbrev cX0_dateOf : ByteArray := prog_2_method_12_code
def yX0_dateOf : MethodName := ⟨RX0, "dateOf", "(I)I"⟩
def RX1 : String := "RuledCalendar$Filler"
def TX1 : u_T := fun k => match k with
  | 0 => ("RuledCalendar$Filler", "days", "LRuledCalendar$Days;", true)
  | 1 => ("RuledCalendar$Filler", "rule", "LRuledCalendar$Rule;", true)
  | 2 => ("RuledCalendar$Filler", "row", "[I", false)
  | 3 => ("RuledCalendar$Filler", "start", "I", false)
  | 4 => ("RuledCalendar$Filler", "interval", "I", false)
  | 5 => ("RuledCalendar$Filler", "startPeriod", "I", false)
  | 6 => ("RuledCalendar$Filler", "gathered", "[I", true)
  | _ => ("RuledCalendar$Filler", "gatheredCount", "I", false)
def tyX1 : Nat → FieldType := fun k => match k with
  | 0 => .object "RuledCalendar$Days"
  | 1 => .object "RuledCalendar$Rule"
  | 2 => .array .int
  | 3 => .int
  | 4 => .int
  | 5 => .int
  | 6 => .array .int
  | _ => .int
abbrev wsX10 : List Cond := u_ws RX1 TX1 8
theorem nmX1 : ∀ a, a < 8 → ∀ b, b < 8 → a ≠ b → (TX1 a).2.1 ≠ (TX1 b).2.1 := by decide +kernel
theorem tyX1_ok : ∀ k, k < 8 → parseFieldDescriptor (TX1 k).2.2.1 = some (tyX1 k) := by decide +kernel
abbrev cX1_init : ByteArray := prog_3_method_1_code
def yX1_init : MethodName := ⟨RX1, "<init>", "(LRuledCalendar$Days;LRuledCalendar$Rule;)V"⟩
abbrev cX1_fillRow : ByteArray := prog_3_method_2_code
def yX1_fillRow : MethodName := ⟨RX1, "fillRow", "([II)V"⟩
abbrev cX1_counts : ByteArray := prog_3_method_3_code
def yX1_counts : MethodName := ⟨RX1, "counts", "(II)Z"⟩
abbrev cX1_countedDays : ByteArray := prog_3_method_4_code
def yX1_countedDays : MethodName := ⟨RX1, "countedDays", "(I)I"⟩
abbrev cX1_suitingDays : ByteArray := prog_3_method_5_code
def yX1_suitingDays : MethodName := ⟨RX1, "suitingDays", "(I)I"⟩
abbrev cX1_monthSuits : ByteArray := prog_3_method_6_code
def yX1_monthSuits : MethodName := ⟨RX1, "monthSuits", "(I)Z"⟩
abbrev cX1_byMonthDay : ByteArray := prog_3_method_7_code
def yX1_byMonthDay : MethodName := ⟨RX1, "byMonthDay", "(I)I"⟩
abbrev cX1_byWeekday : ByteArray := prog_3_method_8_code
def yX1_byWeekday : MethodName := ⟨RX1, "byWeekday", "(I)I"⟩
abbrev cX1_plainWeekdays : ByteArray := prog_3_method_9_code
def yX1_plainWeekdays : MethodName := ⟨RX1, "plainWeekdays", "(II)I"⟩
abbrev cX1_numberedWeekdays : ByteArray := prog_3_method_10_code
def yX1_numberedWeekdays : MethodName := ⟨RX1, "numberedWeekdays", "(I)I"⟩
abbrev cX1_choosePlaces : ByteArray := prog_3_method_11_code
def yX1_choosePlaces : MethodName := ⟨RX1, "choosePlaces", "(II)V"⟩
abbrev cX1_gather : ByteArray := prog_3_method_12_code
def yX1_gather : MethodName := ⟨RX1, "gather", "(II)V"⟩
abbrev cX1_keepChosen : ByteArray := prog_3_method_13_code
def yX1_keepChosen : MethodName := ⟨RX1, "keepChosen", "()V"⟩
abbrev cX1_cutEnds : ByteArray := prog_3_method_14_code
def yX1_cutEnds : MethodName := ⟨RX1, "cutEnds", "(II)V"⟩
def RX2 : String := "RuledCalendar$Frequency"
def TX2 : u_T := fun k => match k with
  | _ => ("", "", "", false)
def tyX2 : Nat → FieldType := fun k => match k with
  | _ => .int
abbrev wsX20 : List Cond := u_ws RX2 TX2 0
theorem nmX2 : ∀ a, a < 0 → ∀ b, b < 0 → a ≠ b → (TX2 a).2.1 ≠ (TX2 b).2.1 := by decide +kernel
theorem tyX2_ok : ∀ k, k < 0 → parseFieldDescriptor (TX2 k).2.2.1 = some (tyX2 k) := by decide +kernel
abbrev cX2_periodOf : ByteArray := prog_4_method_4_code
def yX2_periodOf : MethodName := ⟨RX2, "periodOf", "(II)I"⟩
def RX3 : String := "RuledCalendar$Part"
def TX3 : u_T := fun k => match k with
  | _ => ("", "", "", false)
def tyX3 : Nat → FieldType := fun k => match k with
  | _ => .int
abbrev wsX30 : List Cond := u_ws RX3 TX3 0
theorem nmX3 : ∀ a, a < 0 → ∀ b, b < 0 → a ≠ b → (TX3 a).2.1 ≠ (TX3 b).2.1 := by decide +kernel
theorem tyX3_ok : ∀ k, k < 0 → parseFieldDescriptor (TX3 k).2.2.1 = some (tyX3 k) := by decide +kernel
abbrev cX3_allows : ByteArray := prog_5_method_4_code
def yX3_allows : MethodName := ⟨RX3, "allows", "(I)Z"⟩
def RX4 : String := "RuledCalendar$Reader"
def TX4 : u_T := fun k => match k with
  | 0 => ("RuledCalendar$Reader", "rule", "LRuledCalendar$Rule;", true)
  | 1 => ("RuledCalendar$Reader", "text", "[C", false)
  | 2 => ("RuledCalendar$Reader", "length", "I", false)
  | 3 => ("RuledCalendar$Reader", "at", "I", false)
  | 4 => ("RuledCalendar$Reader", "faultKind", "I", false)
  | _ => ("RuledCalendar$Reader", "faultPlace", "I", false)
def tyX4 : Nat → FieldType := fun k => match k with
  | 0 => .object "RuledCalendar$Rule"
  | 1 => .array .char
  | 2 => .int
  | 3 => .int
  | 4 => .int
  | _ => .int
abbrev wsX40 : List Cond := u_ws RX4 TX4 6
theorem nmX4 : ∀ a, a < 6 → ∀ b, b < 6 → a ≠ b → (TX4 a).2.1 ≠ (TX4 b).2.1 := by decide +kernel
theorem tyX4_ok : ∀ k, k < 6 → parseFieldDescriptor (TX4 k).2.2.1 = some (tyX4 k) := by decide +kernel
abbrev cX4_init : ByteArray := prog_6_method_1_code
def yX4_init : MethodName := ⟨RX4, "<init>", "(LRuledCalendar$Rule;)V"⟩
abbrev cX4_readRule : ByteArray := prog_6_method_2_code
def yX4_readRule : MethodName := ⟨RX4, "readRule", "([CI)V"⟩
abbrev cX4_fail : ByteArray := prog_6_method_3_code
def yX4_fail : MethodName := ⟨RX4, "fail", "(II)V"⟩
abbrev cX4_sees : ByteArray := prog_6_method_4_code
def yX4_sees : MethodName := ⟨RX4, "sees", "(C)Z"⟩
abbrev cX4_seesLetter : ByteArray := prog_6_method_5_code
def yX4_seesLetter : MethodName := ⟨RX4, "seesLetter", "()Z"⟩
abbrev cX4_seesFigure : ByteArray := prog_6_method_6_code
def yX4_seesFigure : MethodName := ⟨RX4, "seesFigure", "()Z"⟩
abbrev cX4_take : ByteArray := prog_6_method_7_code
def yX4_take : MethodName := ⟨RX4, "take", "(C)V"⟩
abbrev cX4_takeLetters : ByteArray := prog_6_method_8_code
def yX4_takeLetters : MethodName := ⟨RX4, "takeLetters", "(I)I"⟩
abbrev cX4_isWord : ByteArray := prog_6_method_9_code
def yX4_isWord : MethodName := ⟨RX4, "isWord", "(Ljava/lang/String;I)Z"⟩
abbrev cX4_readPart : ByteArray := prog_6_method_10_code
def yX4_readPart : MethodName := ⟨RX4, "readPart", "()V"⟩
abbrev cX4_partNamed : ByteArray := prog_6_method_11_code
def yX4_partNamed : MethodName := ⟨RX4, "partNamed", "(I)LRuledCalendar$Part;"⟩
abbrev cX4_readValue : ByteArray := prog_6_method_12_code
def yX4_readValue : MethodName := ⟨RX4, "readValue", "(LRuledCalendar$Part;)V"⟩
abbrev cX4_readFrequency : ByteArray := prog_6_method_13_code
def yX4_readFrequency : MethodName := ⟨RX4, "readFrequency", "()V"⟩
abbrev cX4_readNumber : ByteArray := prog_6_method_14_code
def yX4_readNumber : MethodName := ⟨RX4, "readNumber", "(LRuledCalendar$Part;)I"⟩
abbrev cX4_readWeekday : ByteArray := prog_6_method_15_code
def yX4_readWeekday : MethodName := ⟨RX4, "readWeekday", "()V"⟩
abbrev cX4_weekdayAt : ByteArray := prog_6_method_16_code
def yX4_weekdayAt : MethodName := ⟨RX4, "weekdayAt", "(I)I"⟩
def RX5 : String := "RuledCalendar$Rule"
def TX5 : u_T := fun k => match k with
  | 0 => ("RuledCalendar$Rule", "present", "I", false)
  | 1 => ("RuledCalendar$Rule", "frequency", "LRuledCalendar$Frequency;", false)
  | 2 => ("RuledCalendar$Rule", "interval", "I", false)
  | 3 => ("RuledCalendar$Rule", "count", "I", false)
  | 4 => ("RuledCalendar$Rule", "until", "I", false)
  | 5 => ("RuledCalendar$Rule", "months", "I", false)
  | 6 => ("RuledCalendar$Rule", "monthDays", "I", false)
  | 7 => ("RuledCalendar$Rule", "monthDaysFromEnd", "I", false)
  | 8 => ("RuledCalendar$Rule", "weekdays", "I", false)
  | 9 => ("RuledCalendar$Rule", "numberedWeekdays", "I", false)
  | 10 => ("RuledCalendar$Rule", "numbers", "[J", true)
  | 11 => ("RuledCalendar$Rule", "numbersFromEnd", "[J", true)
  | _ => ("RuledCalendar$Rule", "places", "[B", true)
def tyX5 : Nat → FieldType := fun k => match k with
  | 0 => .int
  | 1 => .object "RuledCalendar$Frequency"
  | 2 => .int
  | 3 => .int
  | 4 => .int
  | 5 => .int
  | 6 => .int
  | 7 => .int
  | 8 => .int
  | 9 => .int
  | 10 => .array .long
  | 11 => .array .long
  | _ => .array .byte
abbrev wsX50 : List Cond := u_ws RX5 TX5 13
theorem nmX5 : ∀ a, a < 13 → ∀ b, b < 13 → a ≠ b → (TX5 a).2.1 ≠ (TX5 b).2.1 := by decide +kernel
theorem tyX5_ok : ∀ k, k < 13 → parseFieldDescriptor (TX5 k).2.2.1 = some (tyX5 k) := by decide +kernel
abbrev cX5_init : ByteArray := prog_7_method_1_code
def yX5_init : MethodName := ⟨RX5, "<init>", "()V"⟩
abbrev cX5_forget : ByteArray := prog_7_method_2_code
def yX5_forget : MethodName := ⟨RX5, "forget", "()V"⟩
abbrev cX5_has : ByteArray := prog_7_method_3_code
def yX5_has : MethodName := ⟨RX5, "has", "(LRuledCalendar$Part;)Z"⟩
abbrev cX5_addNumber : ByteArray := prog_7_method_4_code
def yX5_addNumber : MethodName := ⟨RX5, "addNumber", "(LRuledCalendar$Part;I)V"⟩
abbrev cX5_addWeekday : ByteArray := prog_7_method_5_code
def yX5_addWeekday : MethodName := ⟨RX5, "addWeekday", "(II)V"⟩
abbrev cX5_isChosen : ByteArray := prog_7_method_6_code
def yX5_isChosen : MethodName := ⟨RX5, "isChosen", "(II)Z"⟩
abbrev cX5_goesTogether : ByteArray := prog_7_method_7_code
def yX5_goesTogether : MethodName := ⟨RX5, "goesTogether", "()Z"⟩
def RX6 : String := "RuledCalendar$Thing"
def TX6 : u_T := fun k => match k with
  | 0 => ("RuledCalendar$Thing", "ruled", "[I", true)
  | 1 => ("RuledCalendar$Thing", "extras", "[I", true)
  | 2 => ("RuledCalendar$Thing", "exceptions", "[I", true)
  | _ => ("RuledCalendar$Thing", "live", "Z", false)
def tyX6 : Nat → FieldType := fun k => match k with
  | 0 => .array .int
  | 1 => .array .int
  | 2 => .array .int
  | _ => .boolean
abbrev wsX60 : List Cond := u_ws RX6 TX6 4
theorem nmX6 : ∀ a, a < 4 → ∀ b, b < 4 → a ≠ b → (TX6 a).2.1 ≠ (TX6 b).2.1 := by decide +kernel
theorem tyX6_ok : ∀ k, k < 4 → parseFieldDescriptor (TX6 k).2.2.1 = some (tyX6 k) := by decide +kernel
abbrev cX6_init : ByteArray := prog_8_method_1_code
def yX6_init : MethodName := ⟨RX6, "<init>", "()V"⟩
abbrev cX6_begin : ByteArray := prog_8_method_2_code
def yX6_begin : MethodName := ⟨RX6, "begin", "()V"⟩
abbrev cX6_daysIn : ByteArray := prog_8_method_3_code
def yX6_daysIn : MethodName := ⟨RX6, "daysIn", "(I)I"⟩
abbrev cX6_mark : ByteArray := prog_8_method_4_code
def yX6_mark : MethodName := ⟨RX6, "mark", "([IIZ)Z"⟩
def RX7 : String := "RuledCalendar"
def TX7 : u_T := fun k => match k with
  | 0 => ("RuledCalendar", "text", "[C", true)
  | 1 => ("RuledCalendar", "textLength", "I", false)
  | 2 => ("RuledCalendar", "dayTable", "LRuledCalendar$Days;", true)
  | 3 => ("RuledCalendar", "rule", "LRuledCalendar$Rule;", true)
  | 4 => ("RuledCalendar", "reader", "LRuledCalendar$Reader;", true)
  | 5 => ("RuledCalendar", "filler", "LRuledCalendar$Filler;", true)
  | 6 => ("RuledCalendar", "things", "[LRuledCalendar$Thing;", true)
  | 7 => ("RuledCalendar", "listed", "[J", true)
  | 8 => ("RuledCalendar", "listedCount", "I", false)
  | _ => ("RuledCalendar", "counts", "[I", true)
def tyX7 : Nat → FieldType := fun k => match k with
  | 0 => .array .char
  | 1 => .int
  | 2 => .object "RuledCalendar$Days"
  | 3 => .object "RuledCalendar$Rule"
  | 4 => .object "RuledCalendar$Reader"
  | 5 => .object "RuledCalendar$Filler"
  | 6 => .array (.object "RuledCalendar$Thing")
  | 7 => .array .long
  | 8 => .int
  | _ => .array .int
abbrev wsX70 : List Cond := u_ws RX7 TX7 10
theorem nmX7 : ∀ a, a < 10 → ∀ b, b < 10 → a ≠ b → (TX7 a).2.1 ≠ (TX7 b).2.1 := by decide +kernel
theorem tyX7_ok : ∀ k, k < 10 → parseFieldDescriptor (TX7 k).2.2.1 = some (tyX7 k) := by decide +kernel
abbrev cX7_init : ByteArray := prog_1_method_1_code
def yX7_init : MethodName := ⟨RX7, "<init>", "()V"⟩
abbrev cX7_feed : ByteArray := prog_1_method_2_code
def yX7_feed : MethodName := ⟨RX7, "feed", "(IJ)I"⟩
abbrev cX7_wipe : ByteArray := prog_1_method_3_code
def yX7_wipe : MethodName := ⟨RX7, "wipe", "()I"⟩
abbrev cX7_thing : ByteArray := prog_1_method_4_code
def yX7_thing : MethodName := ⟨RX7, "thing", "(I)I"⟩
abbrev cX7_fault : ByteArray := prog_1_method_5_code
def yX7_fault : MethodName := ⟨RX7, "fault", "()I"⟩
abbrev cX7_place : ByteArray := prog_1_method_6_code
def yX7_place : MethodName := ⟨RX7, "place", "()I"⟩
abbrev cX7_drop : ByteArray := prog_1_method_7_code
def yX7_drop : MethodName := ⟨RX7, "drop", "(I)V"⟩
abbrev cX7_except : ByteArray := prog_1_method_8_code
def yX7_except : MethodName := ⟨RX7, "except", "(IIZ)Z"⟩
abbrev cX7_besides : ByteArray := prog_1_method_9_code
def yX7_besides : MethodName := ⟨RX7, "besides", "(IIZ)Z"⟩
abbrev cX7_comes : ByteArray := prog_1_method_10_code
def yX7_comes : MethodName := ⟨RX7, "comes", "(II)Z"⟩
abbrev cX7_next : ByteArray := prog_1_method_11_code
def yX7_next : MethodName := ⟨RX7, "next", "(II)I"⟩
abbrev cX7_date : ByteArray := prog_1_method_12_code
def yX7_date : MethodName := ⟨RX7, "date", "(II)I"⟩
abbrev cX7_times : ByteArray := prog_1_method_13_code
def yX7_times : MethodName := ⟨RX7, "times", "(III)I"⟩
abbrev cX7_list : ByteArray := prog_1_method_14_code
def yX7_list : MethodName := ⟨RX7, "list", "(II)I"⟩
abbrev cX7_item : ByteArray := prog_1_method_15_code
def yX7_item : MethodName := ⟨RX7, "item", "(I)J"⟩
abbrev cX7_busiest : ByteArray := prog_1_method_16_code
def yX7_busiest : MethodName := ⟨RX7, "busiest", "(II)I"⟩
abbrev cX7_quiet : ByteArray := prog_1_method_17_code
def yX7_quiet : MethodName := ⟨RX7, "quiet", "(II)I"⟩
abbrev cX7_shifted : ByteArray := prog_1_method_18_code
def yX7_shifted : MethodName := ⟨RX7, "shifted", "(II)I"⟩
abbrev cX7_requireDate : ByteArray := prog_1_method_19_code
def yX7_requireDate : MethodName := ⟨RX7, "requireDate", "(I)V"⟩
abbrev cX7_knownThing : ByteArray := prog_1_method_20_code
def yX7_knownThing : MethodName := ⟨RX7, "knownThing", "(I)LRuledCalendar$Thing;"⟩
abbrev cX7_freeNumber : ByteArray := prog_1_method_21_code
def yX7_freeNumber : MethodName := ⟨RX7, "freeNumber", "()I"⟩
abbrev cX7_daysOfThing : ByteArray := prog_1_method_22_code
def yX7_daysOfThing : MethodName := ⟨RX7, "daysOfThing", "(II)I"⟩
abbrev cX7_busyDays : ByteArray := prog_1_method_23_code
def yX7_busyDays : MethodName := ⟨RX7, "busyDays", "(I)I"⟩
abbrev cX7_listMonth : ByteArray := prog_1_method_24_code
def yX7_listMonth : MethodName := ⟨RX7, "listMonth", "(II)V"⟩
abbrev cX7_listDay : ByteArray := prog_1_method_25_code
def yX7_listDay : MethodName := ⟨RX7, "listDay", "(II)V"⟩
abbrev cX7_countThings : ByteArray := prog_1_method_26_code
def yX7_countThings : MethodName := ⟨RX7, "countThings", "(II)V"⟩
def RX8 : String := "RuledCalendarModel"
def TX8 : u_T := fun k => match k with
  | 0 => ("RuledCalendarModel", "thrown", "I", false)
  | 1 => ("RuledCalendarModel", "dates", "[I", true)
  | 2 => ("RuledCalendarModel", "lengths", "[I", true)
  | 3 => ("RuledCalendarModel", "text", "[I", true)
  | 4 => ("RuledCalendarModel", "size", "I", false)
  | 5 => ("RuledCalendarModel", "fault", "I", false)
  | 6 => ("RuledCalendarModel", "place", "I", false)
  | 7 => ("RuledCalendarModel", "at", "I", false)
  | 8 => ("RuledCalendarModel", "has", "[Z", true)
  | 9 => ("RuledCalendarModel", "freq", "I", false)
  | 10 => ("RuledCalendarModel", "interval", "I", false)
  | 11 => ("RuledCalendarModel", "count", "I", false)
  | 12 => ("RuledCalendarModel", "until", "I", false)
  | 13 => ("RuledCalendarModel", "months", "[Z", true)
  | 14 => ("RuledCalendarModel", "monthDays", "[Z", true)
  | 15 => ("RuledCalendarModel", "places", "[Z", true)
  | 16 => ("RuledCalendarModel", "weekdays", "[Z", true)
  | 17 => ("RuledCalendarModel", "numbered", "Z", false)
  | 18 => ("RuledCalendarModel", "start", "I", false)
  | 19 => ("RuledCalendarModel", "there", "[Z", true)
  | 20 => ("RuledCalendarModel", "rule", "[I", true)
  | 21 => ("RuledCalendarModel", "excepted", "[I", true)
  | 22 => ("RuledCalendarModel", "added", "[I", true)
  | 23 => ("RuledCalendarModel", "suiting", "[I", true)
  | 24 => ("RuledCalendarModel", "items", "[J", true)
  | _ => ("RuledCalendarModel", "listed", "I", false)
def tyX8 : Nat → FieldType := fun k => match k with
  | 0 => .int
  | 1 => .array .int
  | 2 => .array .int
  | 3 => .array .int
  | 4 => .int
  | 5 => .int
  | 6 => .int
  | 7 => .int
  | 8 => .array .boolean
  | 9 => .int
  | 10 => .int
  | 11 => .int
  | 12 => .int
  | 13 => .array .boolean
  | 14 => .array .boolean
  | 15 => .array .boolean
  | 16 => .array .boolean
  | 17 => .boolean
  | 18 => .int
  | 19 => .array .boolean
  | 20 => .array .int
  | 21 => .array .int
  | 22 => .array .int
  | 23 => .array .int
  | 24 => .array .long
  | _ => .int
abbrev wsX80 : List Cond := u_ws RX8 TX8 26
theorem nmX8 : ∀ a, a < 26 → ∀ b, b < 26 → a ≠ b → (TX8 a).2.1 ≠ (TX8 b).2.1 := by decide +kernel
theorem tyX8_ok : ∀ k, k < 26 → parseFieldDescriptor (TX8 k).2.2.1 = some (tyX8 k) := by decide +kernel
abbrev cX8_init : ByteArray := prog_10_method_1_code
def yX8_init : MethodName := ⟨RX8, "<init>", "()V"⟩
abbrev cX8_thrown : ByteArray := prog_10_method_2_code
def yX8_thrown : MethodName := ⟨RX8, "thrown", "()I"⟩
abbrev cX8_isLeap : ByteArray := prog_10_method_3_code
def yX8_isLeap : MethodName := ⟨RX8, "isLeap", "(I)Z"⟩
abbrev cX8_monthLength : ByteArray := prog_10_method_4_code
def yX8_monthLength : MethodName := ⟨RX8, "monthLength", "(II)I"⟩
abbrev cX8_dayOf : ByteArray := prog_10_method_5_code
def yX8_dayOf : MethodName := ⟨RX8, "dayOf", "(I)I"⟩
abbrev cX8_yearOf : ByteArray := prog_10_method_6_code
def yX8_yearOf : MethodName := ⟨RX8, "yearOf", "(I)I"⟩
abbrev cX8_monthOf : ByteArray := prog_10_method_7_code
def yX8_monthOf : MethodName := ⟨RX8, "monthOf", "(I)I"⟩
abbrev cX8_monthDayOf : ByteArray := prog_10_method_8_code
def yX8_monthDayOf : MethodName := ⟨RX8, "monthDayOf", "(I)I"⟩
abbrev cX8_periodOf : ByteArray := prog_10_method_9_code
def yX8_periodOf : MethodName := ⟨RX8, "periodOf", "(I)I"⟩
abbrev cX8_feed : ByteArray := prog_10_method_10_code
def yX8_feed : MethodName := ⟨RX8, "feed", "(IJ)I"⟩
abbrev cX8_wipe : ByteArray := prog_10_method_11_code
def yX8_wipe : MethodName := ⟨RX8, "wipe", "()I"⟩
abbrev cX8_fail : ByteArray := prog_10_method_12_code
def yX8_fail : MethodName := ⟨RX8, "fail", "(II)V"⟩
abbrev cX8_byteAt : ByteArray := prog_10_method_13_code
def yX8_byteAt : MethodName := ⟨RX8, "byteAt", "(I)I"⟩
abbrev cX8_isCapital : ByteArray := prog_10_method_14_code
def yX8_isCapital : MethodName := ⟨RX8, "isCapital", "(I)Z"⟩
abbrev cX8_isFigure : ByteArray := prog_10_method_15_code
def yX8_isFigure : MethodName := ⟨RX8, "isFigure", "(I)Z"⟩
abbrev cX8_lettersAt : ByteArray := prog_10_method_16_code
def yX8_lettersAt : MethodName := ⟨RX8, "lettersAt", "(I)J"⟩
abbrev cX8_word : ByteArray := prog_10_method_17_code
def yX8_word : MethodName := ⟨RX8, "word", "(IIII)J"⟩
abbrev cX8_nameOf : ByteArray := prog_10_method_18_code
def yX8_nameOf : MethodName := ⟨RX8, "nameOf", "(JI)I"⟩
abbrev cX8_freqOf : ByteArray := prog_10_method_19_code
def yX8_freqOf : MethodName := ⟨RX8, "freqOf", "(JI)I"⟩
abbrev cX8_capitals : ByteArray := prog_10_method_20_code
def yX8_capitals : MethodName := ⟨RX8, "capitals", "(I)I"⟩
abbrev cX8_number : ByteArray := prog_10_method_21_code
def yX8_number : MethodName := ⟨RX8, "number", "(II)I"⟩
abbrev cX8_untilDate : ByteArray := prog_10_method_22_code
def yX8_untilDate : MethodName := ⟨RX8, "untilDate", "()V"⟩
abbrev cX8_weekday : ByteArray := prog_10_method_23_code
def yX8_weekday : MethodName := ⟨RX8, "weekday", "(II)I"⟩
abbrev cX8_dayItem : ByteArray := prog_10_method_24_code
def yX8_dayItem : MethodName := ⟨RX8, "dayItem", "()V"⟩
abbrev cX8_oneItem : ByteArray := prog_10_method_25_code
def yX8_oneItem : MethodName := ⟨RX8, "oneItem", "(I)V"⟩
abbrev cX8_value : ByteArray := prog_10_method_26_code
def yX8_value : MethodName := ⟨RX8, "value", "(I)V"⟩
abbrev cX8_part : ByteArray := prog_10_method_27_code
def yX8_part : MethodName := ⟨RX8, "part", "()V"⟩
abbrev cX8_forget : ByteArray := prog_10_method_28_code
def yX8_forget : MethodName := ⟨RX8, "forget", "()V"⟩
abbrev cX8_readRule : ByteArray := prog_10_method_29_code
def yX8_readRule : MethodName := ⟨RX8, "readRule", "()V"⟩
abbrev cX8_hasNumberedWeekday : ByteArray := prog_10_method_30_code
def yX8_hasNumberedWeekday : MethodName := ⟨RX8, "hasNumberedWeekday", "(I)Z"⟩
abbrev cX8_suits : ByteArray := prog_10_method_31_code
def yX8_suits : MethodName := ⟨RX8, "suits", "(I)Z"⟩
abbrev cX8_setBit : ByteArray := prog_10_method_32_code
def yX8_setBit : MethodName := ⟨RX8, "setBit", "([IIIZ)V"⟩
abbrev cX8_hasBit : ByteArray := prog_10_method_33_code
def yX8_hasBit : MethodName := ⟨RX8, "hasBit", "([III)Z"⟩
abbrev cX8_makeAll : ByteArray := prog_10_method_34_code
def yX8_makeAll : MethodName := ⟨RX8, "makeAll", "(I)V"⟩
abbrev cX8_thing : ByteArray := prog_10_method_35_code
def yX8_thing : MethodName := ⟨RX8, "thing", "(I)I"⟩
abbrev cX8_fault : ByteArray := prog_10_method_36_code
def yX8_fault : MethodName := ⟨RX8, "fault", "()I"⟩
abbrev cX8_place : ByteArray := prog_10_method_37_code
def yX8_place : MethodName := ⟨RX8, "place", "()I"⟩
abbrev cX8_noThing : ByteArray := prog_10_method_38_code
def yX8_noThing : MethodName := ⟨RX8, "noThing", "(I)Z"⟩
abbrev cX8_drop : ByteArray := prog_10_method_39_code
def yX8_drop : MethodName := ⟨RX8, "drop", "(I)V"⟩
abbrev cX8_except : ByteArray := prog_10_method_40_code
def yX8_except : MethodName := ⟨RX8, "except", "(IIZ)Z"⟩
abbrev cX8_besides : ByteArray := prog_10_method_41_code
def yX8_besides : MethodName := ⟨RX8, "besides", "(IIZ)Z"⟩
abbrev cX8_comesAt : ByteArray := prog_10_method_42_code
def yX8_comesAt : MethodName := ⟨RX8, "comesAt", "(II)Z"⟩
abbrev cX8_comes : ByteArray := prog_10_method_43_code
def yX8_comes : MethodName := ⟨RX8, "comes", "(II)Z"⟩
abbrev cX8_next : ByteArray := prog_10_method_44_code
def yX8_next : MethodName := ⟨RX8, "next", "(II)I"⟩
abbrev cX8_date : ByteArray := prog_10_method_45_code
def yX8_date : MethodName := ⟨RX8, "date", "(II)I"⟩
abbrev cX8_times : ByteArray := prog_10_method_46_code
def yX8_times : MethodName := ⟨RX8, "times", "(III)I"⟩
abbrev cX8_list : ByteArray := prog_10_method_47_code
def yX8_list : MethodName := ⟨RX8, "list", "(II)I"⟩
abbrev cX8_item : ByteArray := prog_10_method_48_code
def yX8_item : MethodName := ⟨RX8, "item", "(I)J"⟩
abbrev cX8_manyAt : ByteArray := prog_10_method_49_code
def yX8_manyAt : MethodName := ⟨RX8, "manyAt", "(I)I"⟩
abbrev cX8_busiest : ByteArray := prog_10_method_50_code
def yX8_busiest : MethodName := ⟨RX8, "busiest", "(II)I"⟩
abbrev cX8_quiet : ByteArray := prog_10_method_51_code
def yX8_quiet : MethodName := ⟨RX8, "quiet", "(II)I"⟩
abbrev cX8_shifted : ByteArray := prog_10_method_52_code
def yX8_shifted : MethodName := ⟨RX8, "shifted", "(II)I"⟩
def RJx29ce0 : String := "java/lang/Enum"
def TJx29ce0 : u_T := fun k => match k with
  | _ => ("", "", "", false)
def tyJx29ce0 : Nat → FieldType := fun k => match k with
  | _ => .int
abbrev wsJx29ce00 : List Cond := u_ws RJx29ce0 TJx29ce0 0
theorem nmJx29ce0 : ∀ a, a < 0 → ∀ b, b < 0 → a ≠ b → (TJx29ce0 a).2.1 ≠ (TJx29ce0 b).2.1 := by decide +kernel
theorem tyJx29ce0_ok : ∀ k, k < 0 → parseFieldDescriptor (TJx29ce0 k).2.2.1 = some (tyJx29ce0 k) := by decide +kernel
def RJ6 : String := "java/lang/Integer"
def TJ6 : u_T := fun k => match k with
  | _ => ("", "", "", false)
def tyJ6 : Nat → FieldType := fun k => match k with
  | _ => .int
abbrev wsJ60 : List Cond := u_ws RJ6 TJ6 0
theorem nmJ6 : ∀ a, a < 0 → ∀ b, b < 0 → a ≠ b → (TJ6 a).2.1 ≠ (TJ6 b).2.1 := by decide +kernel
theorem tyJ6_ok : ∀ k, k < 0 → parseFieldDescriptor (TJ6 k).2.2.1 = some (tyJ6 k) := by decide +kernel
abbrev cJ6_numberOfTrailingZeros_0f7a4 : ByteArray := prog_15_method_48_code
def yJ6_numberOfTrailingZeros_0f7a4 : MethodName := ⟨RJ6, "numberOfTrailingZeros", "(I)I"⟩
abbrev cJ6_bitCount_0f7a4 : ByteArray := prog_15_method_49_code
def yJ6_bitCount_0f7a4 : MethodName := ⟨RJ6, "bitCount", "(I)I"⟩
def RJ9 : String := "java/lang/Math"
def TJ9 : u_T := fun k => match k with
  | _ => ("", "", "", false)
def tyJ9 : Nat → FieldType := fun k => match k with
  | _ => .int
abbrev wsJ90 : List Cond := u_ws RJ9 TJ9 0
theorem nmJ9 : ∀ a, a < 0 → ∀ b, b < 0 → a ≠ b → (TJ9 a).2.1 ≠ (TJ9 b).2.1 := by decide +kernel
theorem tyJ9_ok : ∀ k, k < 0 → parseFieldDescriptor (TJ9 k).2.2.1 = some (tyJ9 k) := by decide +kernel
abbrev cJ9_max_7cf53 : ByteArray := prog_16_method_65_code
def yJ9_max_7cf53 : MethodName := ⟨RJ9, "max", "(II)I"⟩
abbrev cJ9_min_7cf53 : ByteArray := prog_16_method_69_code
def yJ9_min_7cf53 : MethodName := ⟨RJ9, "min", "(II)I"⟩
def RJ0 : String := "java/lang/String"
def TJ0 : u_T := fun k => match k with
  | _ => ("", "", "", false)
def tyJ0 : Nat → FieldType := fun k => match k with
  | _ => .int
abbrev wsJ00 : List Cond := u_ws RJ0 TJ0 0
theorem nmJ0 : ∀ a, a < 0 → ∀ b, b < 0 → a ≠ b → (TJ0 a).2.1 ≠ (TJ0 b).2.1 := by decide +kernel
theorem tyJ0_ok : ∀ k, k < 0 → parseFieldDescriptor (TJ0 k).2.2.1 = some (tyJ0 k) := by decide +kernel
abbrev cJ0_length_8abf5 : ByteArray := prog_18_method_54_code
def yJ0_length_8abf5 : MethodName := ⟨RJ0, "length", "()I"⟩
abbrev cJ0_charAt_5068e : ByteArray := prog_18_method_56_code
def yJ0_charAt_5068e : MethodName := ⟨RJ0, "charAt", "(I)C"⟩
abbrev cJ0_coder_7d493 : ByteArray := prog_18_method_152_code
def yJ0_coder_7d493 : MethodName := ⟨RJ0, "coder", "()B"⟩
abbrev cJ0_isLatin1_aae02 : ByteArray := prog_18_method_154_code
def yJ0_isLatin1_aae02 : MethodName := ⟨RJ0, "isLatin1", "()Z"⟩
abbrev cJ0_checkIndex_df160 : ByteArray := prog_18_method_155_code
def yJ0_checkIndex_df160 : MethodName := ⟨RJ0, "checkIndex", "(II)V"⟩
def RJ1 : String := "java/lang/StringLatin1"
def TJ1 : u_T := fun k => match k with
  | _ => ("", "", "", false)
def tyJ1 : Nat → FieldType := fun k => match k with
  | _ => .int
abbrev wsJ10 : List Cond := u_ws RJ1 TJ1 0
theorem nmJ1 : ∀ a, a < 0 → ∀ b, b < 0 → a ≠ b → (TJ1 a).2.1 ≠ (TJ1 b).2.1 := by decide +kernel
theorem tyJ1_ok : ∀ k, k < 0 → parseFieldDescriptor (TJ1 k).2.2.1 = some (tyJ1 k) := by decide +kernel
abbrev cJ1_charAt_3b067 : ByteArray := prog_19_method_2_code
def yJ1_charAt_3b067 : MethodName := ⟨RJ1, "charAt", "([BI)C"⟩
def RJ2 : String := "java/lang/StringUTF16"
def TJ2 : u_T := fun k => match k with
  | _ => ("", "", "", false)
def tyJ2 : Nat → FieldType := fun k => match k with
  | _ => .int
abbrev wsJ20 : List Cond := u_ws RJ2 TJ2 0
theorem nmJ2 : ∀ a, a < 0 → ∀ b, b < 0 → a ≠ b → (TJ2 a).2.1 ≠ (TJ2 b).2.1 := by decide +kernel
theorem tyJ2_ok : ∀ k, k < 0 → parseFieldDescriptor (TJ2 k).2.2.1 = some (tyJ2 k) := by decide +kernel
abbrev cJ2_getChar_3b067 : ByteArray := prog_20_method_5_code
def yJ2_getChar_3b067 : MethodName := ⟨RJ2, "getChar", "([BI)C"⟩
abbrev cJ2_length_9d52b : ByteArray := prog_20_method_6_code
def yJ2_length_9d52b : MethodName := ⟨RJ2, "length", "([B)I"⟩
abbrev cJ2_charAt_3b067 : ByteArray := prog_20_method_83_code
def yJ2_charAt_3b067 : MethodName := ⟨RJ2, "charAt", "([BI)C"⟩
abbrev cJ2_checkIndex_2214a : ByteArray := prog_20_method_91_code
def yJ2_checkIndex_2214a : MethodName := ⟨RJ2, "checkIndex", "(I[B)V"⟩
def RJ7 : String := "java/util/Arrays"
def TJ7 : u_T := fun k => match k with
  | _ => ("", "", "", false)
def tyJ7 : Nat → FieldType := fun k => match k with
  | _ => .int
abbrev wsJ70 : List Cond := u_ws RJ7 TJ7 0
theorem nmJ7 : ∀ a, a < 0 → ∀ b, b < 0 → a ≠ b → (TJ7 a).2.1 ≠ (TJ7 b).2.1 := by decide +kernel
theorem tyJ7_ok : ∀ k, k < 0 → parseFieldDescriptor (TJ7 k).2.2.1 = some (tyJ7 k) := by decide +kernel
abbrev cJ7_fill_d0a16 : ByteArray := prog_22_method_101_code
def yJ7_fill_d0a16 : MethodName := ⟨RJ7, "fill", "([JJ)V"⟩
abbrev cJ7_fill_53178 : ByteArray := prog_22_method_103_code
def yJ7_fill_53178 : MethodName := ⟨RJ7, "fill", "([II)V"⟩
abbrev cJ7_fill_031fb : ByteArray := prog_22_method_109_code
def yJ7_fill_031fb : MethodName := ⟨RJ7, "fill", "([BB)V"⟩
def RJ3 : String := "jdk/internal/util/Preconditions"
def TJ3 : u_T := fun k => match k with
  | _ => ("", "", "", false)
def tyJ3 : Nat → FieldType := fun k => match k with
  | _ => .int
abbrev wsJ30 : List Cond := u_ws RJ3 TJ3 0
theorem nmJ3 : ∀ a, a < 0 → ∀ b, b < 0 → a ≠ b → (TJ3 a).2.1 ≠ (TJ3 b).2.1 := by decide +kernel
theorem tyJ3_ok : ∀ k, k < 0 → parseFieldDescriptor (TJ3 k).2.2.1 = some (tyJ3 k) := by decide +kernel
abbrev cJ3_checkIndex_8e157 : ByteArray := prog_23_method_11_code
def yJ3_checkIndex_8e157 : MethodName := ⟨RJ3, "checkIndex", "(IILjava/util/function/BiFunction;)I"⟩
def RL : String := "RuledCalendarLaw"
abbrev cL_feed : ByteArray := method_3_code
def yL_feed : MethodName := ⟨RL, "feed", "(LRuledCalendar;IJ[J)I"⟩
abbrev cL_thing : ByteArray := method_4_code
def yL_thing : MethodName := ⟨RL, "thing", "(LRuledCalendar;I[J)I"⟩
abbrev cL_drop : ByteArray := method_5_code
def yL_drop : MethodName := ⟨RL, "drop", "(LRuledCalendar;I)I"⟩
abbrev cL_except : ByteArray := method_6_code
def yL_except : MethodName := ⟨RL, "except", "(LRuledCalendar;IIZ[J)I"⟩
abbrev cL_besides : ByteArray := method_7_code
def yL_besides : MethodName := ⟨RL, "besides", "(LRuledCalendar;IIZ[J)I"⟩
abbrev cL_comes : ByteArray := method_8_code
def yL_comes : MethodName := ⟨RL, "comes", "(LRuledCalendar;II[J)I"⟩
abbrev cL_next : ByteArray := method_9_code
def yL_next : MethodName := ⟨RL, "next", "(LRuledCalendar;II[J)I"⟩
abbrev cL_date : ByteArray := method_10_code
def yL_date : MethodName := ⟨RL, "date", "(LRuledCalendar;II[J)I"⟩
abbrev cL_times : ByteArray := method_11_code
def yL_times : MethodName := ⟨RL, "times", "(LRuledCalendar;III[J)I"⟩
abbrev cL_list : ByteArray := method_12_code
def yL_list : MethodName := ⟨RL, "list", "(LRuledCalendar;II[J)I"⟩
abbrev cL_item : ByteArray := method_13_code
def yL_item : MethodName := ⟨RL, "item", "(LRuledCalendar;I[J)I"⟩
abbrev cL_busiest : ByteArray := method_14_code
def yL_busiest : MethodName := ⟨RL, "busiest", "(LRuledCalendar;II[J)I"⟩
abbrev cL_quiet : ByteArray := method_15_code
def yL_quiet : MethodName := ⟨RL, "quiet", "(LRuledCalendar;II[J)I"⟩
abbrev cL_shifted : ByteArray := method_16_code
def yL_shifted : MethodName := ⟨RL, "shifted", "(LRuledCalendar;II[J)I"⟩
abbrev cL_law : ByteArray := code
def yL_law : MethodName := ⟨RL, "law", "([I)Z"⟩
abbrev vwCl : List vw_C := [(RX0, TX0, 1), (RX1, TX1, 8), (RX4, TX4, 6), (RX5, TX5, 13), (RX6, TX6, 4), (RX7, TX7, 10), (RX8, TX8, 26)]
end
section
theorem dX0_init_0 : decode cX0_init 0 = .ok (.aload_n 0, 1) := by decide +kernel
theorem dX0_init_1 : decode cX0_init 1 = .ok (.invokespecial 3, 3) := by decide +kernel
theorem dX0_init_4 : decode cX0_init 4 = .ok (.aload_n 0, 1) := by decide +kernel
theorem dX0_init_5 : decode cX0_init 5 = .ok (.sipush 3601, 3) := by decide +kernel
theorem dX0_init_8 : decode cX0_init 8 = .ok (.newarray .int, 2) := by decide +kernel
theorem dX0_init_10 : decode cX0_init 10 = .ok (.putfield 9, 3) := by decide +kernel
theorem dX0_init_13 : decode cX0_init 13 = .ok (.iconst 0, 1) := by decide +kernel
theorem dX0_init_14 : decode cX0_init 14 = .ok (.istore_n 1, 1) := by decide +kernel
theorem dX0_init_15 : decode cX0_init 15 = .ok (.iload_n 1, 1) := by decide +kernel
theorem dX0_init_16 : decode cX0_init 16 = .ok (.sipush 3600, 3) := by decide +kernel
theorem dX0_init_19 : decode cX0_init 19 = .ok (.if_icmp .ge 28, 3) := by decide +kernel
theorem dX0_init_22 : decode cX0_init 22 = .ok (.aload_n 0, 1) := by decide +kernel
theorem dX0_init_23 : decode cX0_init 23 = .ok (.getfield 9, 3) := by decide +kernel
theorem dX0_init_26 : decode cX0_init 26 = .ok (.iload_n 1, 1) := by decide +kernel
theorem dX0_init_27 : decode cX0_init 27 = .ok (.iconst 1, 1) := by decide +kernel
theorem dX0_init_28 : decode cX0_init 28 = .ok (.iadd, 1) := by decide +kernel
theorem dX0_init_29 : decode cX0_init 29 = .ok (.aload_n 0, 1) := by decide +kernel
theorem dX0_init_30 : decode cX0_init 30 = .ok (.getfield 9, 3) := by decide +kernel
theorem dX0_init_33 : decode cX0_init 33 = .ok (.iload_n 1, 1) := by decide +kernel
theorem dX0_init_34 : decode cX0_init 34 = .ok (.iaload, 1) := by decide +kernel
theorem dX0_init_35 : decode cX0_init 35 = .ok (.iload_n 1, 1) := by decide +kernel
theorem dX0_init_36 : decode cX0_init 36 = .ok (.invokestatic 15, 3) := by decide +kernel
theorem dX0_init_39 : decode cX0_init 39 = .ok (.iadd, 1) := by decide +kernel
theorem dX0_init_40 : decode cX0_init 40 = .ok (.iastore, 1) := by decide +kernel
theorem dX0_init_41 : decode cX0_init 41 = .ok (.iinc 1 1, 3) := by decide +kernel
theorem dX0_init_44 : decode cX0_init 44 = .ok (.goto (-29), 3) := by decide +kernel
theorem dX0_init_47 : decode cX0_init 47 = .ok (.return_, 1) := by decide +kernel
theorem dX0_isDate_0 : decode cX0_isDate 0 = .ok (.iload_n 0, 1) := by decide +kernel
theorem dX0_isDate_1 : decode cX0_isDate 1 = .ok (.ldc 19, 2) := by decide +kernel
theorem dX0_isDate_3 : decode cX0_isDate 3 = .ok (.if_icmp .lt 9, 3) := by decide +kernel
theorem dX0_isDate_6 : decode cX0_isDate 6 = .ok (.iload_n 0, 1) := by decide +kernel
theorem dX0_isDate_7 : decode cX0_isDate 7 = .ok (.ldc 20, 2) := by decide +kernel
theorem dX0_isDate_9 : decode cX0_isDate 9 = .ok (.if_icmp .le 5, 3) := by decide +kernel
theorem dX0_isDate_12 : decode cX0_isDate 12 = .ok (.iconst 0, 1) := by decide +kernel
theorem dX0_isDate_13 : decode cX0_isDate 13 = .ok (.ireturn, 1) := by decide +kernel
theorem dX0_isDate_14 : decode cX0_isDate 14 = .ok (.iload_n 0, 1) := by decide +kernel
theorem dX0_isDate_15 : decode cX0_isDate 15 = .ok (.bipush 100, 2) := by decide +kernel
theorem dX0_isDate_17 : decode cX0_isDate 17 = .ok (.idiv, 1) := by decide +kernel
theorem dX0_isDate_18 : decode cX0_isDate 18 = .ok (.bipush 100, 2) := by decide +kernel
theorem dX0_isDate_20 : decode cX0_isDate 20 = .ok (.irem, 1) := by decide +kernel
theorem dX0_isDate_21 : decode cX0_isDate 21 = .ok (.istore_n 1, 1) := by decide +kernel
theorem dX0_isDate_22 : decode cX0_isDate 22 = .ok (.iload_n 0, 1) := by decide +kernel
theorem dX0_isDate_23 : decode cX0_isDate 23 = .ok (.bipush 100, 2) := by decide +kernel
theorem dX0_isDate_25 : decode cX0_isDate 25 = .ok (.irem, 1) := by decide +kernel
theorem dX0_isDate_26 : decode cX0_isDate 26 = .ok (.istore_n 2, 1) := by decide +kernel
theorem dX0_isDate_27 : decode cX0_isDate 27 = .ok (.iload_n 1, 1) := by decide +kernel
theorem dX0_isDate_28 : decode cX0_isDate 28 = .ok (.iconst 1, 1) := by decide +kernel
theorem dX0_isDate_29 : decode cX0_isDate 29 = .ok (.if_icmp .lt 29, 3) := by decide +kernel
theorem dX0_isDate_32 : decode cX0_isDate 32 = .ok (.iload_n 1, 1) := by decide +kernel
theorem dX0_isDate_33 : decode cX0_isDate 33 = .ok (.bipush 12, 2) := by decide +kernel
theorem dX0_isDate_35 : decode cX0_isDate 35 = .ok (.if_icmp .gt 23, 3) := by decide +kernel
theorem dX0_isDate_38 : decode cX0_isDate 38 = .ok (.iload_n 2, 1) := by decide +kernel
theorem dX0_isDate_39 : decode cX0_isDate 39 = .ok (.iconst 1, 1) := by decide +kernel
theorem dX0_isDate_40 : decode cX0_isDate 40 = .ok (.if_icmp .lt 18, 3) := by decide +kernel
theorem dX0_isDate_43 : decode cX0_isDate 43 = .ok (.iload_n 2, 1) := by decide +kernel
theorem dX0_isDate_44 : decode cX0_isDate 44 = .ok (.iload_n 0, 1) := by decide +kernel
theorem dX0_isDate_45 : decode cX0_isDate 45 = .ok (.invokestatic 21, 3) := by decide +kernel
theorem dX0_isDate_48 : decode cX0_isDate 48 = .ok (.invokestatic 15, 3) := by decide +kernel
theorem dX0_isDate_51 : decode cX0_isDate 51 = .ok (.if_icmp .gt 7, 3) := by decide +kernel
theorem dX0_isDate_54 : decode cX0_isDate 54 = .ok (.iconst 1, 1) := by decide +kernel
theorem dX0_isDate_55 : decode cX0_isDate 55 = .ok (.goto 4, 3) := by decide +kernel
theorem dX0_isDate_58 : decode cX0_isDate 58 = .ok (.iconst 0, 1) := by decide +kernel
theorem dX0_isDate_59 : decode cX0_isDate 59 = .ok (.ireturn, 1) := by decide +kernel
theorem dX0_monthOf_0 : decode cX0_monthOf 0 = .ok (.iload_n 0, 1) := by decide +kernel
theorem dX0_monthOf_1 : decode cX0_monthOf 1 = .ok (.sipush 10000, 3) := by decide +kernel
theorem dX0_monthOf_4 : decode cX0_monthOf 4 = .ok (.idiv, 1) := by decide +kernel
theorem dX0_monthOf_5 : decode cX0_monthOf 5 = .ok (.sipush 1900, 3) := by decide +kernel
theorem dX0_monthOf_8 : decode cX0_monthOf 8 = .ok (.isub, 1) := by decide +kernel
theorem dX0_monthOf_9 : decode cX0_monthOf 9 = .ok (.bipush 12, 2) := by decide +kernel
theorem dX0_monthOf_11 : decode cX0_monthOf 11 = .ok (.imul, 1) := by decide +kernel
theorem dX0_monthOf_12 : decode cX0_monthOf 12 = .ok (.iload_n 0, 1) := by decide +kernel
theorem dX0_monthOf_13 : decode cX0_monthOf 13 = .ok (.bipush 100, 2) := by decide +kernel
theorem dX0_monthOf_15 : decode cX0_monthOf 15 = .ok (.idiv, 1) := by decide +kernel
theorem dX0_monthOf_16 : decode cX0_monthOf 16 = .ok (.bipush 100, 2) := by decide +kernel
theorem dX0_monthOf_18 : decode cX0_monthOf 18 = .ok (.irem, 1) := by decide +kernel
theorem dX0_monthOf_19 : decode cX0_monthOf 19 = .ok (.iadd, 1) := by decide +kernel
theorem dX0_monthOf_20 : decode cX0_monthOf 20 = .ok (.iconst 1, 1) := by decide +kernel
theorem dX0_monthOf_21 : decode cX0_monthOf 21 = .ok (.isub, 1) := by decide +kernel
theorem dX0_monthOf_22 : decode cX0_monthOf 22 = .ok (.ireturn, 1) := by decide +kernel
theorem dX0_dayOf_0 : decode cX0_dayOf 0 = .ok (.iload_n 0, 1) := by decide +kernel
theorem dX0_dayOf_1 : decode cX0_dayOf 1 = .ok (.bipush 100, 2) := by decide +kernel
theorem dX0_dayOf_3 : decode cX0_dayOf 3 = .ok (.irem, 1) := by decide +kernel
theorem dX0_dayOf_4 : decode cX0_dayOf 4 = .ok (.iconst 1, 1) := by decide +kernel
theorem dX0_dayOf_5 : decode cX0_dayOf 5 = .ok (.isub, 1) := by decide +kernel
theorem dX0_dayOf_6 : decode cX0_dayOf 6 = .ok (.ireturn, 1) := by decide +kernel
theorem dX0_dateAt_0 : decode cX0_dateAt 0 = .ok (.sipush 1900, 3) := by decide +kernel
theorem dX0_dateAt_3 : decode cX0_dateAt 3 = .ok (.iload_n 0, 1) := by decide +kernel
theorem dX0_dateAt_4 : decode cX0_dateAt 4 = .ok (.bipush 12, 2) := by decide +kernel
theorem dX0_dateAt_6 : decode cX0_dateAt 6 = .ok (.idiv, 1) := by decide +kernel
theorem dX0_dateAt_7 : decode cX0_dateAt 7 = .ok (.iadd, 1) := by decide +kernel
theorem dX0_dateAt_8 : decode cX0_dateAt 8 = .ok (.sipush 10000, 3) := by decide +kernel
theorem dX0_dateAt_11 : decode cX0_dateAt 11 = .ok (.imul, 1) := by decide +kernel
theorem dX0_dateAt_12 : decode cX0_dateAt 12 = .ok (.iload_n 0, 1) := by decide +kernel
theorem dX0_dateAt_13 : decode cX0_dateAt 13 = .ok (.bipush 12, 2) := by decide +kernel
theorem dX0_dateAt_15 : decode cX0_dateAt 15 = .ok (.irem, 1) := by decide +kernel
theorem dX0_dateAt_16 : decode cX0_dateAt 16 = .ok (.iconst 1, 1) := by decide +kernel
theorem dX0_dateAt_17 : decode cX0_dateAt 17 = .ok (.iadd, 1) := by decide +kernel
theorem dX0_dateAt_18 : decode cX0_dateAt 18 = .ok (.bipush 100, 2) := by decide +kernel
theorem dX0_dateAt_20 : decode cX0_dateAt 20 = .ok (.imul, 1) := by decide +kernel
theorem dX0_dateAt_21 : decode cX0_dateAt 21 = .ok (.iadd, 1) := by decide +kernel
theorem dX0_dateAt_22 : decode cX0_dateAt 22 = .ok (.iload_n 1, 1) := by decide +kernel
theorem dX0_dateAt_23 : decode cX0_dateAt 23 = .ok (.iadd, 1) := by decide +kernel
theorem dX0_dateAt_24 : decode cX0_dateAt 24 = .ok (.iconst 1, 1) := by decide +kernel
theorem dX0_dateAt_25 : decode cX0_dateAt 25 = .ok (.iadd, 1) := by decide +kernel
theorem dX0_dateAt_26 : decode cX0_dateAt 26 = .ok (.ireturn, 1) := by decide +kernel
theorem dX0_lengthOf_0 : decode cX0_lengthOf 0 = .ok (.iload_n 0, 1) := by decide +kernel
theorem dX0_lengthOf_1 : decode cX0_lengthOf 1 = .ok (.bipush 12, 2) := by decide +kernel
theorem dX0_lengthOf_3 : decode cX0_lengthOf 3 = .ok (.irem, 1) := by decide +kernel
theorem dX0_lengthOf_4 : decode cX0_lengthOf 4 = .ok (.istore_n 1, 1) := by decide +kernel
theorem dX0_lengthOf_5 : decode cX0_lengthOf 5 = .ok (.iload_n 1, 1) := by decide +kernel
theorem dX0_lengthOf_6 : decode cX0_lengthOf 6 = .ok (.iconst 1, 1) := by decide +kernel
theorem dX0_lengthOf_7 : decode cX0_lengthOf 7 = .ok (.if_icmp .ne 22, 3) := by decide +kernel
theorem dX0_lengthOf_10 : decode cX0_lengthOf 10 = .ok (.sipush 1900, 3) := by decide +kernel
theorem dX0_lengthOf_13 : decode cX0_lengthOf 13 = .ok (.iload_n 0, 1) := by decide +kernel
theorem dX0_lengthOf_14 : decode cX0_lengthOf 14 = .ok (.bipush 12, 2) := by decide +kernel
theorem dX0_lengthOf_16 : decode cX0_lengthOf 16 = .ok (.idiv, 1) := by decide +kernel
theorem dX0_lengthOf_17 : decode cX0_lengthOf 17 = .ok (.iadd, 1) := by decide +kernel
theorem dX0_lengthOf_18 : decode cX0_lengthOf 18 = .ok (.invokestatic 24, 3) := by decide +kernel
theorem dX0_lengthOf_21 : decode cX0_lengthOf 21 = .ok (.ifCond .eq 8, 3) := by decide +kernel
theorem dX0_lengthOf_24 : decode cX0_lengthOf 24 = .ok (.bipush 29, 2) := by decide +kernel
theorem dX0_lengthOf_26 : decode cX0_lengthOf 26 = .ok (.goto 8, 3) := by decide +kernel
theorem dX0_lengthOf_29 : decode cX0_lengthOf 29 = .ok (.getstatic 28, 3) := by decide +kernel
theorem dX0_lengthOf_32 : decode cX0_lengthOf 32 = .ok (.iload_n 1, 1) := by decide +kernel
theorem dX0_lengthOf_33 : decode cX0_lengthOf 33 = .ok (.iaload, 1) := by decide +kernel
theorem dX0_lengthOf_34 : decode cX0_lengthOf 34 = .ok (.ireturn, 1) := by decide +kernel
theorem dX0_isLeap_0 : decode cX0_isLeap 0 = .ok (.iload_n 0, 1) := by decide +kernel
theorem dX0_isLeap_1 : decode cX0_isLeap 1 = .ok (.iconst 4, 1) := by decide +kernel
theorem dX0_isLeap_2 : decode cX0_isLeap 2 = .ok (.irem, 1) := by decide +kernel
theorem dX0_isLeap_3 : decode cX0_isLeap 3 = .ok (.ifCond .ne 10, 3) := by decide +kernel
theorem dX0_isLeap_6 : decode cX0_isLeap 6 = .ok (.iload_n 0, 1) := by decide +kernel
theorem dX0_isLeap_7 : decode cX0_isLeap 7 = .ok (.bipush 100, 2) := by decide +kernel
theorem dX0_isLeap_9 : decode cX0_isLeap 9 = .ok (.irem, 1) := by decide +kernel
theorem dX0_isLeap_10 : decode cX0_isLeap 10 = .ok (.ifCond .ne 11, 3) := by decide +kernel
theorem dX0_isLeap_13 : decode cX0_isLeap 13 = .ok (.iload_n 0, 1) := by decide +kernel
theorem dX0_isLeap_14 : decode cX0_isLeap 14 = .ok (.sipush 400, 3) := by decide +kernel
theorem dX0_isLeap_17 : decode cX0_isLeap 17 = .ok (.irem, 1) := by decide +kernel
theorem dX0_isLeap_18 : decode cX0_isLeap 18 = .ok (.ifCond .ne 7, 3) := by decide +kernel
theorem dX0_isLeap_21 : decode cX0_isLeap 21 = .ok (.iconst 1, 1) := by decide +kernel
theorem dX0_isLeap_22 : decode cX0_isLeap 22 = .ok (.goto 4, 3) := by decide +kernel
theorem dX0_isLeap_25 : decode cX0_isLeap 25 = .ok (.iconst 0, 1) := by decide +kernel
theorem dX0_isLeap_26 : decode cX0_isLeap 26 = .ok (.ireturn, 1) := by decide +kernel
theorem dX0_januaryOf_0 : decode cX0_januaryOf 0 = .ok (.iload_n 0, 1) := by decide +kernel
theorem dX0_januaryOf_1 : decode cX0_januaryOf 1 = .ok (.iload_n 0, 1) := by decide +kernel
theorem dX0_januaryOf_2 : decode cX0_januaryOf 2 = .ok (.bipush 12, 2) := by decide +kernel
theorem dX0_januaryOf_4 : decode cX0_januaryOf 4 = .ok (.irem, 1) := by decide +kernel
theorem dX0_januaryOf_5 : decode cX0_januaryOf 5 = .ok (.isub, 1) := by decide +kernel
theorem dX0_januaryOf_6 : decode cX0_januaryOf 6 = .ok (.ireturn, 1) := by decide +kernel
theorem dX0_between_0 : decode cX0_between 0 = .ok (.ldc 31, 2) := by decide +kernel
theorem dX0_between_2 : decode cX0_between 2 = .ok (.istore_n 3, 1) := by decide +kernel
theorem dX0_between_3 : decode cX0_between 3 = .ok (.iload_n 0, 1) := by decide +kernel
theorem dX0_between_4 : decode cX0_between 4 = .ok (.iload_n 1, 1) := by decide +kernel
theorem dX0_between_5 : decode cX0_between 5 = .ok (.invokestatic 21, 3) := by decide +kernel
theorem dX0_between_8 : decode cX0_between 8 = .ok (.if_icmp .ne 12, 3) := by decide +kernel
theorem dX0_between_11 : decode cX0_between 11 = .ok (.iload_n 3, 1) := by decide +kernel
theorem dX0_between_12 : decode cX0_between 12 = .ok (.iconst (-1), 1) := by decide +kernel
theorem dX0_between_13 : decode cX0_between 13 = .ok (.iload_n 1, 1) := by decide +kernel
theorem dX0_between_14 : decode cX0_between 14 = .ok (.invokestatic 32, 3) := by decide +kernel
theorem dX0_between_17 : decode cX0_between 17 = .ok (.ishl, 1) := by decide +kernel
theorem dX0_between_18 : decode cX0_between 18 = .ok (.iand, 1) := by decide +kernel
theorem dX0_between_19 : decode cX0_between 19 = .ok (.istore_n 3, 1) := by decide +kernel
theorem dX0_between_20 : decode cX0_between 20 = .ok (.iload_n 0, 1) := by decide +kernel
theorem dX0_between_21 : decode cX0_between 21 = .ok (.iload_n 2, 1) := by decide +kernel
theorem dX0_between_22 : decode cX0_between 22 = .ok (.invokestatic 21, 3) := by decide +kernel
theorem dX0_between_25 : decode cX0_between 25 = .ok (.if_icmp .ne 14, 3) := by decide +kernel
theorem dX0_between_28 : decode cX0_between 28 = .ok (.iload_n 3, 1) := by decide +kernel
theorem dX0_between_29 : decode cX0_between 29 = .ok (.iconst 2, 1) := by decide +kernel
theorem dX0_between_30 : decode cX0_between 30 = .ok (.iload_n 2, 1) := by decide +kernel
theorem dX0_between_31 : decode cX0_between 31 = .ok (.invokestatic 32, 3) := by decide +kernel
theorem dX0_between_34 : decode cX0_between 34 = .ok (.ishl, 1) := by decide +kernel
theorem dX0_between_35 : decode cX0_between 35 = .ok (.iconst 1, 1) := by decide +kernel
theorem dX0_between_36 : decode cX0_between 36 = .ok (.isub, 1) := by decide +kernel
theorem dX0_between_37 : decode cX0_between 37 = .ok (.iand, 1) := by decide +kernel
theorem dX0_between_38 : decode cX0_between 38 = .ok (.istore_n 3, 1) := by decide +kernel
theorem dX0_between_39 : decode cX0_between 39 = .ok (.iload_n 3, 1) := by decide +kernel
theorem dX0_between_40 : decode cX0_between 40 = .ok (.ireturn, 1) := by decide +kernel
theorem dX0_lowest_0 : decode cX0_lowest 0 = .ok (.iload_n 0, 1) := by decide +kernel
theorem dX0_lowest_1 : decode cX0_lowest 1 = .ok (.istore_n 2, 1) := by decide +kernel
theorem dX0_lowest_2 : decode cX0_lowest 2 = .ok (.iconst 0, 1) := by decide +kernel
theorem dX0_lowest_3 : decode cX0_lowest 3 = .ok (.istore_n 3, 1) := by decide +kernel
theorem dX0_lowest_4 : decode cX0_lowest 4 = .ok (.iload_n 3, 1) := by decide +kernel
theorem dX0_lowest_5 : decode cX0_lowest 5 = .ok (.iload_n 1, 1) := by decide +kernel
theorem dX0_lowest_6 : decode cX0_lowest 6 = .ok (.if_icmp .ge 19, 3) := by decide +kernel
theorem dX0_lowest_9 : decode cX0_lowest 9 = .ok (.iload_n 2, 1) := by decide +kernel
theorem dX0_lowest_10 : decode cX0_lowest 10 = .ok (.ifCond .eq 15, 3) := by decide +kernel
theorem dX0_lowest_13 : decode cX0_lowest 13 = .ok (.iload_n 2, 1) := by decide +kernel
theorem dX0_lowest_14 : decode cX0_lowest 14 = .ok (.iload_n 2, 1) := by decide +kernel
theorem dX0_lowest_15 : decode cX0_lowest 15 = .ok (.iconst 1, 1) := by decide +kernel
theorem dX0_lowest_16 : decode cX0_lowest 16 = .ok (.isub, 1) := by decide +kernel
theorem dX0_lowest_17 : decode cX0_lowest 17 = .ok (.iand, 1) := by decide +kernel
theorem dX0_lowest_18 : decode cX0_lowest 18 = .ok (.istore_n 2, 1) := by decide +kernel
theorem dX0_lowest_19 : decode cX0_lowest 19 = .ok (.iinc 3 1, 3) := by decide +kernel
theorem dX0_lowest_22 : decode cX0_lowest 22 = .ok (.goto (-18), 3) := by decide +kernel
theorem dX0_lowest_25 : decode cX0_lowest 25 = .ok (.iload_n 0, 1) := by decide +kernel
theorem dX0_lowest_26 : decode cX0_lowest 26 = .ok (.iload_n 2, 1) := by decide +kernel
theorem dX0_lowest_27 : decode cX0_lowest 27 = .ok (.iconst (-1), 1) := by decide +kernel
theorem dX0_lowest_28 : decode cX0_lowest 28 = .ok (.ixor, 1) := by decide +kernel
theorem dX0_lowest_29 : decode cX0_lowest 29 = .ok (.iand, 1) := by decide +kernel
theorem dX0_lowest_30 : decode cX0_lowest 30 = .ok (.ireturn, 1) := by decide +kernel
theorem dX0_numberOf_0 : decode cX0_numberOf 0 = .ok (.aload_n 0, 1) := by decide +kernel
theorem dX0_numberOf_1 : decode cX0_numberOf 1 = .ok (.getfield 9, 3) := by decide +kernel
theorem dX0_numberOf_4 : decode cX0_numberOf 4 = .ok (.iload_n 1, 1) := by decide +kernel
theorem dX0_numberOf_5 : decode cX0_numberOf 5 = .ok (.invokestatic 21, 3) := by decide +kernel
theorem dX0_numberOf_8 : decode cX0_numberOf 8 = .ok (.iaload, 1) := by decide +kernel
theorem dX0_numberOf_9 : decode cX0_numberOf 9 = .ok (.iload_n 1, 1) := by decide +kernel
theorem dX0_numberOf_10 : decode cX0_numberOf 10 = .ok (.invokestatic 32, 3) := by decide +kernel
theorem dX0_numberOf_13 : decode cX0_numberOf 13 = .ok (.iadd, 1) := by decide +kernel
theorem dX0_numberOf_14 : decode cX0_numberOf 14 = .ok (.ireturn, 1) := by decide +kernel
theorem dX0_dateOf_0 : decode cX0_dateOf 0 = .ok (.iconst 0, 1) := by decide +kernel
theorem dX0_dateOf_1 : decode cX0_dateOf 1 = .ok (.istore_n 2, 1) := by decide +kernel
theorem dX0_dateOf_2 : decode cX0_dateOf 2 = .ok (.sipush 2048, 3) := by decide +kernel
theorem dX0_dateOf_5 : decode cX0_dateOf 5 = .ok (.istore_n 3, 1) := by decide +kernel
theorem dX0_dateOf_6 : decode cX0_dateOf 6 = .ok (.iload_n 3, 1) := by decide +kernel
theorem dX0_dateOf_7 : decode cX0_dateOf 7 = .ok (.ifCond .le 35, 3) := by decide +kernel
theorem dX0_dateOf_10 : decode cX0_dateOf 10 = .ok (.iload_n 2, 1) := by decide +kernel
theorem dX0_dateOf_11 : decode cX0_dateOf 11 = .ok (.iload_n 3, 1) := by decide +kernel
theorem dX0_dateOf_12 : decode cX0_dateOf 12 = .ok (.iadd, 1) := by decide +kernel
theorem dX0_dateOf_13 : decode cX0_dateOf 13 = .ok (.sipush 3600, 3) := by decide +kernel
theorem dX0_dateOf_16 : decode cX0_dateOf 16 = .ok (.if_icmp .ge 19, 3) := by decide +kernel
theorem dX0_dateOf_19 : decode cX0_dateOf 19 = .ok (.aload_n 0, 1) := by decide +kernel
theorem dX0_dateOf_20 : decode cX0_dateOf 20 = .ok (.getfield 9, 3) := by decide +kernel
theorem dX0_dateOf_23 : decode cX0_dateOf 23 = .ok (.iload_n 2, 1) := by decide +kernel
theorem dX0_dateOf_24 : decode cX0_dateOf 24 = .ok (.iload_n 3, 1) := by decide +kernel
theorem dX0_dateOf_25 : decode cX0_dateOf 25 = .ok (.iadd, 1) := by decide +kernel
theorem dX0_dateOf_26 : decode cX0_dateOf 26 = .ok (.iaload, 1) := by decide +kernel
theorem dX0_dateOf_27 : decode cX0_dateOf 27 = .ok (.iload_n 1, 1) := by decide +kernel
theorem dX0_dateOf_28 : decode cX0_dateOf 28 = .ok (.if_icmp .gt 7, 3) := by decide +kernel
theorem dX0_dateOf_31 : decode cX0_dateOf 31 = .ok (.iload_n 2, 1) := by decide +kernel
theorem dX0_dateOf_32 : decode cX0_dateOf 32 = .ok (.iload_n 3, 1) := by decide +kernel
theorem dX0_dateOf_33 : decode cX0_dateOf 33 = .ok (.iadd, 1) := by decide +kernel
theorem dX0_dateOf_34 : decode cX0_dateOf 34 = .ok (.istore_n 2, 1) := by decide +kernel
theorem dX0_dateOf_35 : decode cX0_dateOf 35 = .ok (.iload_n 3, 1) := by decide +kernel
theorem dX0_dateOf_36 : decode cX0_dateOf 36 = .ok (.iconst 2, 1) := by decide +kernel
theorem dX0_dateOf_37 : decode cX0_dateOf 37 = .ok (.idiv, 1) := by decide +kernel
theorem dX0_dateOf_38 : decode cX0_dateOf 38 = .ok (.istore_n 3, 1) := by decide +kernel
theorem dX0_dateOf_39 : decode cX0_dateOf 39 = .ok (.goto (-33), 3) := by decide +kernel
theorem dX0_dateOf_42 : decode cX0_dateOf 42 = .ok (.iload_n 2, 1) := by decide +kernel
theorem dX0_dateOf_43 : decode cX0_dateOf 43 = .ok (.iload_n 1, 1) := by decide +kernel
theorem dX0_dateOf_44 : decode cX0_dateOf 44 = .ok (.aload_n 0, 1) := by decide +kernel
theorem dX0_dateOf_45 : decode cX0_dateOf 45 = .ok (.getfield 9, 3) := by decide +kernel
theorem dX0_dateOf_48 : decode cX0_dateOf 48 = .ok (.iload_n 2, 1) := by decide +kernel
theorem dX0_dateOf_49 : decode cX0_dateOf 49 = .ok (.iaload, 1) := by decide +kernel
theorem dX0_dateOf_50 : decode cX0_dateOf 50 = .ok (.isub, 1) := by decide +kernel
theorem dX0_dateOf_51 : decode cX0_dateOf 51 = .ok (.invokestatic 35, 3) := by decide +kernel
theorem dX0_dateOf_54 : decode cX0_dateOf 54 = .ok (.ireturn, 1) := by decide +kernel
theorem dX1_init_0 : decode cX1_init 0 = .ok (.aload_n 0, 1) := by decide +kernel
theorem dX1_init_1 : decode cX1_init 1 = .ok (.invokespecial 3, 3) := by decide +kernel
theorem dX1_init_4 : decode cX1_init 4 = .ok (.aload_n 0, 1) := by decide +kernel
theorem dX1_init_5 : decode cX1_init 5 = .ok (.aload_n 1, 1) := by decide +kernel
theorem dX1_init_6 : decode cX1_init 6 = .ok (.putfield 9, 3) := by decide +kernel
theorem dX1_init_9 : decode cX1_init 9 = .ok (.aload_n 0, 1) := by decide +kernel
theorem dX1_init_10 : decode cX1_init 10 = .ok (.aload_n 2, 1) := by decide +kernel
theorem dX1_init_11 : decode cX1_init 11 = .ok (.putfield 15, 3) := by decide +kernel
theorem dX1_init_14 : decode cX1_init 14 = .ok (.aload_n 0, 1) := by decide +kernel
theorem dX1_init_15 : decode cX1_init 15 = .ok (.iconst 0, 1) := by decide +kernel
theorem dX1_init_16 : decode cX1_init 16 = .ok (.newarray .int, 2) := by decide +kernel
theorem dX1_init_18 : decode cX1_init 18 = .ok (.putfield 19, 3) := by decide +kernel
theorem dX1_init_21 : decode cX1_init 21 = .ok (.aload_n 0, 1) := by decide +kernel
theorem dX1_init_22 : decode cX1_init 22 = .ok (.sipush 366, 3) := by decide +kernel
theorem dX1_init_25 : decode cX1_init 25 = .ok (.newarray .int, 2) := by decide +kernel
theorem dX1_init_27 : decode cX1_init 27 = .ok (.putfield 23, 3) := by decide +kernel
theorem dX1_init_30 : decode cX1_init 30 = .ok (.return_, 1) := by decide +kernel
theorem dX1_fillRow_0 : decode cX1_fillRow 0 = .ok (.aload_n 0, 1) := by decide +kernel
theorem dX1_fillRow_1 : decode cX1_fillRow 1 = .ok (.aload_n 1, 1) := by decide +kernel
theorem dX1_fillRow_2 : decode cX1_fillRow 2 = .ok (.putfield 19, 3) := by decide +kernel
theorem dX1_fillRow_5 : decode cX1_fillRow 5 = .ok (.aload_n 0, 1) := by decide +kernel
theorem dX1_fillRow_6 : decode cX1_fillRow 6 = .ok (.iload_n 2, 1) := by decide +kernel
theorem dX1_fillRow_7 : decode cX1_fillRow 7 = .ok (.putfield 26, 3) := by decide +kernel
theorem dX1_fillRow_10 : decode cX1_fillRow 10 = .ok (.aload_n 0, 1) := by decide +kernel
theorem dX1_fillRow_11 : decode cX1_fillRow 11 = .ok (.iconst 1, 1) := by decide +kernel
theorem dX1_fillRow_12 : decode cX1_fillRow 12 = .ok (.aload_n 0, 1) := by decide +kernel
theorem dX1_fillRow_13 : decode cX1_fillRow 13 = .ok (.getfield 15, 3) := by decide +kernel
theorem dX1_fillRow_16 : decode cX1_fillRow 16 = .ok (.getfield 30, 3) := by decide +kernel
theorem dX1_fillRow_19 : decode cX1_fillRow 19 = .ok (.invokestatic 35, 3) := by decide +kernel
theorem dX1_fillRow_22 : decode cX1_fillRow 22 = .ok (.putfield 41, 3) := by decide +kernel
theorem dX1_fillRow_25 : decode cX1_fillRow 25 = .ok (.aload_n 0, 1) := by decide +kernel
theorem dX1_fillRow_26 : decode cX1_fillRow 26 = .ok (.aload_n 0, 1) := by decide +kernel
theorem dX1_fillRow_27 : decode cX1_fillRow 27 = .ok (.getfield 15, 3) := by decide +kernel
theorem dX1_fillRow_30 : decode cX1_fillRow 30 = .ok (.getfield 42, 3) := by decide +kernel
theorem dX1_fillRow_33 : decode cX1_fillRow 33 = .ok (.iload_n 2, 1) := by decide +kernel
theorem dX1_fillRow_34 : decode cX1_fillRow 34 = .ok (.invokestatic 46, 3) := by decide +kernel
theorem dX1_fillRow_37 : decode cX1_fillRow 37 = .ok (.aload_n 0, 1) := by decide +kernel
theorem dX1_fillRow_38 : decode cX1_fillRow 38 = .ok (.getfield 9, 3) := by decide +kernel
theorem dX1_fillRow_41 : decode cX1_fillRow 41 = .ok (.iload_n 2, 1) := by decide +kernel
theorem dX1_fillRow_42 : decode cX1_fillRow 42 = .ok (.invokevirtual 52, 3) := by decide +kernel
theorem dX1_fillRow_45 : decode cX1_fillRow 45 = .ok (.invokevirtual 55, 3) := by decide +kernel
theorem dX1_fillRow_48 : decode cX1_fillRow 48 = .ok (.putfield 60, 3) := by decide +kernel
theorem dX1_fillRow_51 : decode cX1_fillRow 51 = .ok (.iconst 0, 1) := by decide +kernel
theorem dX1_fillRow_52 : decode cX1_fillRow 52 = .ok (.iload_n 2, 1) := by decide +kernel
theorem dX1_fillRow_53 : decode cX1_fillRow 53 = .ok (.invokestatic 46, 3) := by decide +kernel
theorem dX1_fillRow_56 : decode cX1_fillRow 56 = .ok (.invokestatic 63, 3) := by decide +kernel
theorem dX1_fillRow_59 : decode cX1_fillRow 59 = .ok (.iconst 1, 1) := by decide +kernel
theorem dX1_fillRow_60 : decode cX1_fillRow 60 = .ok (.isub, 1) := by decide +kernel
theorem dX1_fillRow_61 : decode cX1_fillRow 61 = .ok (.invokestatic 35, 3) := by decide +kernel
theorem dX1_fillRow_64 : decode cX1_fillRow 64 = .ok (.istore_n 3, 1) := by decide +kernel
theorem dX1_fillRow_65 : decode cX1_fillRow 65 = .ok (.aload_n 1, 1) := by decide +kernel
theorem dX1_fillRow_66 : decode cX1_fillRow 66 = .ok (.arraylength, 1) := by decide +kernel
theorem dX1_fillRow_67 : decode cX1_fillRow 67 = .ok (.iconst 1, 1) := by decide +kernel
theorem dX1_fillRow_68 : decode cX1_fillRow 68 = .ok (.isub, 1) := by decide +kernel
theorem dX1_fillRow_69 : decode cX1_fillRow 69 = .ok (.aload_n 0, 1) := by decide +kernel
theorem dX1_fillRow_70 : decode cX1_fillRow 70 = .ok (.getfield 15, 3) := by decide +kernel
theorem dX1_fillRow_73 : decode cX1_fillRow 73 = .ok (.getfield 66, 3) := by decide +kernel
theorem dX1_fillRow_76 : decode cX1_fillRow 76 = .ok (.invokestatic 46, 3) := by decide +kernel
theorem dX1_fillRow_79 : decode cX1_fillRow 79 = .ok (.invokestatic 63, 3) := by decide +kernel
theorem dX1_fillRow_82 : decode cX1_fillRow 82 = .ok (.bipush 12, 2) := by decide +kernel
theorem dX1_fillRow_84 : decode cX1_fillRow 84 = .ok (.iadd, 1) := by decide +kernel
theorem dX1_fillRow_85 : decode cX1_fillRow 85 = .ok (.invokestatic 69, 3) := by decide +kernel
theorem dX1_fillRow_88 : decode cX1_fillRow 88 = .ok (.istore 4, 2) := by decide +kernel
theorem dX1_fillRow_90 : decode cX1_fillRow 90 = .ok (.iload_n 3, 1) := by decide +kernel
theorem dX1_fillRow_91 : decode cX1_fillRow 91 = .ok (.istore 5, 2) := by decide +kernel
theorem dX1_fillRow_93 : decode cX1_fillRow 93 = .ok (.iload 5, 2) := by decide +kernel
theorem dX1_fillRow_95 : decode cX1_fillRow 95 = .ok (.iload 4, 2) := by decide +kernel
theorem dX1_fillRow_97 : decode cX1_fillRow 97 = .ok (.if_icmp .gt 19, 3) := by decide +kernel
theorem dX1_fillRow_100 : decode cX1_fillRow 100 = .ok (.aload_n 1, 1) := by decide +kernel
theorem dX1_fillRow_101 : decode cX1_fillRow 101 = .ok (.iload 5, 2) := by decide +kernel
theorem dX1_fillRow_103 : decode cX1_fillRow 103 = .ok (.aload_n 0, 1) := by decide +kernel
theorem dX1_fillRow_104 : decode cX1_fillRow 104 = .ok (.iload 5, 2) := by decide +kernel
theorem dX1_fillRow_106 : decode cX1_fillRow 106 = .ok (.invokevirtual 72, 3) := by decide +kernel
theorem dX1_fillRow_109 : decode cX1_fillRow 109 = .ok (.iastore, 1) := by decide +kernel
theorem dX1_fillRow_110 : decode cX1_fillRow 110 = .ok (.iinc 5 1, 3) := by decide +kernel
theorem dX1_fillRow_113 : decode cX1_fillRow 113 = .ok (.goto (-20), 3) := by decide +kernel
theorem dX1_fillRow_116 : decode cX1_fillRow 116 = .ok (.aload_n 0, 1) := by decide +kernel
theorem dX1_fillRow_117 : decode cX1_fillRow 117 = .ok (.getfield 15, 3) := by decide +kernel
theorem dX1_fillRow_120 : decode cX1_fillRow 120 = .ok (.getstatic 75, 3) := by decide +kernel
theorem dX1_fillRow_123 : decode cX1_fillRow 123 = .ok (.invokevirtual 81, 3) := by decide +kernel
theorem dX1_fillRow_126 : decode cX1_fillRow 126 = .ok (.ifCond .eq 10, 3) := by decide +kernel
theorem dX1_fillRow_129 : decode cX1_fillRow 129 = .ok (.aload_n 0, 1) := by decide +kernel
theorem dX1_fillRow_130 : decode cX1_fillRow 130 = .ok (.iload_n 3, 1) := by decide +kernel
theorem dX1_fillRow_131 : decode cX1_fillRow 131 = .ok (.iload 4, 2) := by decide +kernel
theorem dX1_fillRow_133 : decode cX1_fillRow 133 = .ok (.invokevirtual 85, 3) := by decide +kernel
theorem dX1_fillRow_136 : decode cX1_fillRow 136 = .ok (.aload_n 0, 1) := by decide +kernel
theorem dX1_fillRow_137 : decode cX1_fillRow 137 = .ok (.iload_n 3, 1) := by decide +kernel
theorem dX1_fillRow_138 : decode cX1_fillRow 138 = .ok (.iload 4, 2) := by decide +kernel
theorem dX1_fillRow_140 : decode cX1_fillRow 140 = .ok (.invokevirtual 89, 3) := by decide +kernel
theorem dX1_fillRow_143 : decode cX1_fillRow 143 = .ok (.return_, 1) := by decide +kernel
theorem dX1_counts_0 : decode cX1_counts 0 = .ok (.aload_n 0, 1) := by decide +kernel
theorem dX1_counts_1 : decode cX1_counts 1 = .ok (.getfield 15, 3) := by decide +kernel
theorem dX1_counts_4 : decode cX1_counts 4 = .ok (.getfield 42, 3) := by decide +kernel
theorem dX1_counts_7 : decode cX1_counts 7 = .ok (.iload_n 1, 1) := by decide +kernel
theorem dX1_counts_8 : decode cX1_counts 8 = .ok (.iload_n 2, 1) := by decide +kernel
theorem dX1_counts_9 : decode cX1_counts 9 = .ok (.invokevirtual 55, 3) := by decide +kernel
theorem dX1_counts_12 : decode cX1_counts 12 = .ok (.aload_n 0, 1) := by decide +kernel
theorem dX1_counts_13 : decode cX1_counts 13 = .ok (.getfield 60, 3) := by decide +kernel
theorem dX1_counts_16 : decode cX1_counts 16 = .ok (.isub, 1) := by decide +kernel
theorem dX1_counts_17 : decode cX1_counts 17 = .ok (.aload_n 0, 1) := by decide +kernel
theorem dX1_counts_18 : decode cX1_counts 18 = .ok (.getfield 41, 3) := by decide +kernel
theorem dX1_counts_21 : decode cX1_counts 21 = .ok (.irem, 1) := by decide +kernel
theorem dX1_counts_22 : decode cX1_counts 22 = .ok (.ifCond .ne 7, 3) := by decide +kernel
theorem dX1_counts_25 : decode cX1_counts 25 = .ok (.iconst 1, 1) := by decide +kernel
theorem dX1_counts_26 : decode cX1_counts 26 = .ok (.goto 4, 3) := by decide +kernel
theorem dX1_counts_29 : decode cX1_counts 29 = .ok (.iconst 0, 1) := by decide +kernel
theorem dX1_counts_30 : decode cX1_counts 30 = .ok (.ireturn, 1) := by decide +kernel
theorem dX1_countedDays_0 : decode cX1_countedDays 0 = .ok (.aload_n 0, 1) := by decide +kernel
theorem dX1_countedDays_1 : decode cX1_countedDays 1 = .ok (.getfield 9, 3) := by decide +kernel
theorem dX1_countedDays_4 : decode cX1_countedDays 4 = .ok (.getfield 92, 3) := by decide +kernel
theorem dX1_countedDays_7 : decode cX1_countedDays 7 = .ok (.iload_n 1, 1) := by decide +kernel
theorem dX1_countedDays_8 : decode cX1_countedDays 8 = .ok (.iaload, 1) := by decide +kernel
theorem dX1_countedDays_9 : decode cX1_countedDays 9 = .ok (.istore_n 2, 1) := by decide +kernel
theorem dX1_countedDays_10 : decode cX1_countedDays 10 = .ok (.aload_n 0, 1) := by decide +kernel
theorem dX1_countedDays_11 : decode cX1_countedDays 11 = .ok (.getfield 15, 3) := by decide +kernel
theorem dX1_countedDays_14 : decode cX1_countedDays 14 = .ok (.getfield 42, 3) := by decide +kernel
theorem dX1_countedDays_17 : decode cX1_countedDays 17 = .ok (.getfield 95, 3) := by decide +kernel
theorem dX1_countedDays_20 : decode cX1_countedDays 20 = .ok (.ifCond .eq 22, 3) := by decide +kernel
theorem dX1_countedDays_23 : decode cX1_countedDays 23 = .ok (.aload_n 0, 1) := by decide +kernel
theorem dX1_countedDays_24 : decode cX1_countedDays 24 = .ok (.iload_n 1, 1) := by decide +kernel
theorem dX1_countedDays_25 : decode cX1_countedDays 25 = .ok (.iload_n 2, 1) := by decide +kernel
theorem dX1_countedDays_26 : decode cX1_countedDays 26 = .ok (.invokevirtual 99, 3) := by decide +kernel
theorem dX1_countedDays_29 : decode cX1_countedDays 29 = .ok (.ifCond .eq 11, 3) := by decide +kernel
theorem dX1_countedDays_32 : decode cX1_countedDays 32 = .ok (.aload_n 0, 1) := by decide +kernel
theorem dX1_countedDays_33 : decode cX1_countedDays 33 = .ok (.iload_n 1, 1) := by decide +kernel
theorem dX1_countedDays_34 : decode cX1_countedDays 34 = .ok (.invokevirtual 103, 3) := by decide +kernel
theorem dX1_countedDays_37 : decode cX1_countedDays 37 = .ok (.goto 4, 3) := by decide +kernel
theorem dX1_countedDays_40 : decode cX1_countedDays 40 = .ok (.iconst 0, 1) := by decide +kernel
theorem dX1_countedDays_41 : decode cX1_countedDays 41 = .ok (.ireturn, 1) := by decide +kernel
theorem dX1_countedDays_42 : decode cX1_countedDays 42 = .ok (.aload_n 0, 1) := by decide +kernel
theorem dX1_countedDays_43 : decode cX1_countedDays 43 = .ok (.iload_n 1, 1) := by decide +kernel
theorem dX1_countedDays_44 : decode cX1_countedDays 44 = .ok (.invokevirtual 103, 3) := by decide +kernel
theorem dX1_countedDays_47 : decode cX1_countedDays 47 = .ok (.istore_n 3, 1) := by decide +kernel
theorem dX1_countedDays_48 : decode cX1_countedDays 48 = .ok (.aload_n 0, 1) := by decide +kernel
theorem dX1_countedDays_49 : decode cX1_countedDays 49 = .ok (.getfield 41, 3) := by decide +kernel
theorem dX1_countedDays_52 : decode cX1_countedDays 52 = .ok (.iconst 1, 1) := by decide +kernel
theorem dX1_countedDays_53 : decode cX1_countedDays 53 = .ok (.if_icmp .ne 5, 3) := by decide +kernel
theorem dX1_countedDays_56 : decode cX1_countedDays 56 = .ok (.iload_n 3, 1) := by decide +kernel
theorem dX1_countedDays_57 : decode cX1_countedDays 57 = .ok (.ireturn, 1) := by decide +kernel
theorem dX1_countedDays_58 : decode cX1_countedDays 58 = .ok (.iconst 0, 1) := by decide +kernel
theorem dX1_countedDays_59 : decode cX1_countedDays 59 = .ok (.istore 4, 2) := by decide +kernel
theorem dX1_countedDays_61 : decode cX1_countedDays 61 = .ok (.iconst 0, 1) := by decide +kernel
theorem dX1_countedDays_62 : decode cX1_countedDays 62 = .ok (.istore 5, 2) := by decide +kernel
theorem dX1_countedDays_64 : decode cX1_countedDays 64 = .ok (.iload 5, 2) := by decide +kernel
theorem dX1_countedDays_66 : decode cX1_countedDays 66 = .ok (.bipush 31, 2) := by decide +kernel
theorem dX1_countedDays_68 : decode cX1_countedDays 68 = .ok (.if_icmp .ge 39, 3) := by decide +kernel
theorem dX1_countedDays_71 : decode cX1_countedDays 71 = .ok (.iload_n 3, 1) := by decide +kernel
theorem dX1_countedDays_72 : decode cX1_countedDays 72 = .ok (.iconst 1, 1) := by decide +kernel
theorem dX1_countedDays_73 : decode cX1_countedDays 73 = .ok (.iload 5, 2) := by decide +kernel
theorem dX1_countedDays_75 : decode cX1_countedDays 75 = .ok (.ishl, 1) := by decide +kernel
theorem dX1_countedDays_76 : decode cX1_countedDays 76 = .ok (.iand, 1) := by decide +kernel
theorem dX1_countedDays_77 : decode cX1_countedDays 77 = .ok (.ifCond .eq 24, 3) := by decide +kernel
theorem dX1_countedDays_80 : decode cX1_countedDays 80 = .ok (.aload_n 0, 1) := by decide +kernel
theorem dX1_countedDays_81 : decode cX1_countedDays 81 = .ok (.iload_n 1, 1) := by decide +kernel
theorem dX1_countedDays_82 : decode cX1_countedDays 82 = .ok (.iload_n 2, 1) := by decide +kernel
theorem dX1_countedDays_83 : decode cX1_countedDays 83 = .ok (.iload 5, 2) := by decide +kernel
theorem dX1_countedDays_85 : decode cX1_countedDays 85 = .ok (.iadd, 1) := by decide +kernel
theorem dX1_countedDays_86 : decode cX1_countedDays 86 = .ok (.invokevirtual 99, 3) := by decide +kernel
theorem dX1_countedDays_89 : decode cX1_countedDays 89 = .ok (.ifCond .eq 12, 3) := by decide +kernel
theorem dX1_countedDays_92 : decode cX1_countedDays 92 = .ok (.iload 4, 2) := by decide +kernel
theorem dX1_countedDays_94 : decode cX1_countedDays 94 = .ok (.iconst 1, 1) := by decide +kernel
theorem dX1_countedDays_95 : decode cX1_countedDays 95 = .ok (.iload 5, 2) := by decide +kernel
theorem dX1_countedDays_97 : decode cX1_countedDays 97 = .ok (.ishl, 1) := by decide +kernel
theorem dX1_countedDays_98 : decode cX1_countedDays 98 = .ok (.ior, 1) := by decide +kernel
theorem dX1_countedDays_99 : decode cX1_countedDays 99 = .ok (.istore 4, 2) := by decide +kernel
theorem dX1_countedDays_101 : decode cX1_countedDays 101 = .ok (.iinc 5 1, 3) := by decide +kernel
theorem dX1_countedDays_104 : decode cX1_countedDays 104 = .ok (.goto (-40), 3) := by decide +kernel
theorem dX1_countedDays_107 : decode cX1_countedDays 107 = .ok (.iload 4, 2) := by decide +kernel
theorem dX1_countedDays_109 : decode cX1_countedDays 109 = .ok (.ireturn, 1) := by decide +kernel
theorem dX1_suitingDays_0 : decode cX1_suitingDays 0 = .ok (.aload_n 0, 1) := by decide +kernel
theorem dX1_suitingDays_1 : decode cX1_suitingDays 1 = .ok (.iload_n 1, 1) := by decide +kernel
theorem dX1_suitingDays_2 : decode cX1_suitingDays 2 = .ok (.invokevirtual 106, 3) := by decide +kernel
theorem dX1_suitingDays_5 : decode cX1_suitingDays 5 = .ok (.ifCond .ne 5, 3) := by decide +kernel
theorem dX1_suitingDays_8 : decode cX1_suitingDays 8 = .ok (.iconst 0, 1) := by decide +kernel
theorem dX1_suitingDays_9 : decode cX1_suitingDays 9 = .ok (.ireturn, 1) := by decide +kernel
theorem dX1_suitingDays_10 : decode cX1_suitingDays 10 = .ok (.ldc 110, 2) := by decide +kernel
theorem dX1_suitingDays_12 : decode cX1_suitingDays 12 = .ok (.bipush 31, 2) := by decide +kernel
theorem dX1_suitingDays_14 : decode cX1_suitingDays 14 = .ok (.iload_n 1, 1) := by decide +kernel
theorem dX1_suitingDays_15 : decode cX1_suitingDays 15 = .ok (.invokestatic 111, 3) := by decide +kernel
theorem dX1_suitingDays_18 : decode cX1_suitingDays 18 = .ok (.isub, 1) := by decide +kernel
theorem dX1_suitingDays_19 : decode cX1_suitingDays 19 = .ok (.iushr, 1) := by decide +kernel
theorem dX1_suitingDays_20 : decode cX1_suitingDays 20 = .ok (.istore_n 2, 1) := by decide +kernel
theorem dX1_suitingDays_21 : decode cX1_suitingDays 21 = .ok (.iload_n 2, 1) := by decide +kernel
theorem dX1_suitingDays_22 : decode cX1_suitingDays 22 = .ok (.aload_n 0, 1) := by decide +kernel
theorem dX1_suitingDays_23 : decode cX1_suitingDays 23 = .ok (.iload_n 1, 1) := by decide +kernel
theorem dX1_suitingDays_24 : decode cX1_suitingDays 24 = .ok (.invokevirtual 114, 3) := by decide +kernel
theorem dX1_suitingDays_27 : decode cX1_suitingDays 27 = .ok (.iand, 1) := by decide +kernel
theorem dX1_suitingDays_28 : decode cX1_suitingDays 28 = .ok (.aload_n 0, 1) := by decide +kernel
theorem dX1_suitingDays_29 : decode cX1_suitingDays 29 = .ok (.iload_n 1, 1) := by decide +kernel
theorem dX1_suitingDays_30 : decode cX1_suitingDays 30 = .ok (.invokevirtual 117, 3) := by decide +kernel
theorem dX1_suitingDays_33 : decode cX1_suitingDays 33 = .ok (.iand, 1) := by decide +kernel
theorem dX1_suitingDays_34 : decode cX1_suitingDays 34 = .ok (.ireturn, 1) := by decide +kernel
theorem dX1_monthSuits_0 : decode cX1_monthSuits 0 = .ok (.aload_n 0, 1) := by decide +kernel
theorem dX1_monthSuits_1 : decode cX1_monthSuits 1 = .ok (.getfield 15, 3) := by decide +kernel
theorem dX1_monthSuits_4 : decode cX1_monthSuits 4 = .ok (.getstatic 120, 3) := by decide +kernel
theorem dX1_monthSuits_7 : decode cX1_monthSuits 7 = .ok (.invokevirtual 81, 3) := by decide +kernel
theorem dX1_monthSuits_10 : decode cX1_monthSuits 10 = .ok (.ifCond .eq 28, 3) := by decide +kernel
theorem dX1_monthSuits_13 : decode cX1_monthSuits 13 = .ok (.aload_n 0, 1) := by decide +kernel
theorem dX1_monthSuits_14 : decode cX1_monthSuits 14 = .ok (.getfield 15, 3) := by decide +kernel
theorem dX1_monthSuits_17 : decode cX1_monthSuits 17 = .ok (.getfield 123, 3) := by decide +kernel
theorem dX1_monthSuits_20 : decode cX1_monthSuits 20 = .ok (.iconst 1, 1) := by decide +kernel
theorem dX1_monthSuits_21 : decode cX1_monthSuits 21 = .ok (.iload_n 1, 1) := by decide +kernel
theorem dX1_monthSuits_22 : decode cX1_monthSuits 22 = .ok (.bipush 12, 2) := by decide +kernel
theorem dX1_monthSuits_24 : decode cX1_monthSuits 24 = .ok (.irem, 1) := by decide +kernel
theorem dX1_monthSuits_25 : decode cX1_monthSuits 25 = .ok (.iconst 1, 1) := by decide +kernel
theorem dX1_monthSuits_26 : decode cX1_monthSuits 26 = .ok (.iadd, 1) := by decide +kernel
theorem dX1_monthSuits_27 : decode cX1_monthSuits 27 = .ok (.ishl, 1) := by decide +kernel
theorem dX1_monthSuits_28 : decode cX1_monthSuits 28 = .ok (.iand, 1) := by decide +kernel
theorem dX1_monthSuits_29 : decode cX1_monthSuits 29 = .ok (.ifCond .eq 7, 3) := by decide +kernel
theorem dX1_monthSuits_32 : decode cX1_monthSuits 32 = .ok (.iconst 1, 1) := by decide +kernel
theorem dX1_monthSuits_33 : decode cX1_monthSuits 33 = .ok (.goto 4, 3) := by decide +kernel
theorem dX1_monthSuits_36 : decode cX1_monthSuits 36 = .ok (.iconst 0, 1) := by decide +kernel
theorem dX1_monthSuits_37 : decode cX1_monthSuits 37 = .ok (.ireturn, 1) := by decide +kernel
theorem dX1_monthSuits_38 : decode cX1_monthSuits 38 = .ok (.aload_n 0, 1) := by decide +kernel
theorem dX1_monthSuits_39 : decode cX1_monthSuits 39 = .ok (.getfield 15, 3) := by decide +kernel
theorem dX1_monthSuits_42 : decode cX1_monthSuits 42 = .ok (.getfield 42, 3) := by decide +kernel
theorem dX1_monthSuits_45 : decode cX1_monthSuits 45 = .ok (.getstatic 126, 3) := by decide +kernel
theorem dX1_monthSuits_48 : decode cX1_monthSuits 48 = .ok (.if_acmp .ne 33, 3) := by decide +kernel
theorem dX1_monthSuits_51 : decode cX1_monthSuits 51 = .ok (.aload_n 0, 1) := by decide +kernel
theorem dX1_monthSuits_52 : decode cX1_monthSuits 52 = .ok (.getfield 15, 3) := by decide +kernel
theorem dX1_monthSuits_55 : decode cX1_monthSuits 55 = .ok (.getstatic 129, 3) := by decide +kernel
theorem dX1_monthSuits_58 : decode cX1_monthSuits 58 = .ok (.invokevirtual 81, 3) := by decide +kernel
theorem dX1_monthSuits_61 : decode cX1_monthSuits 61 = .ok (.ifCond .ne 20, 3) := by decide +kernel
theorem dX1_monthSuits_64 : decode cX1_monthSuits 64 = .ok (.aload_n 0, 1) := by decide +kernel
theorem dX1_monthSuits_65 : decode cX1_monthSuits 65 = .ok (.getfield 15, 3) := by decide +kernel
theorem dX1_monthSuits_68 : decode cX1_monthSuits 68 = .ok (.getstatic 132, 3) := by decide +kernel
theorem dX1_monthSuits_71 : decode cX1_monthSuits 71 = .ok (.invokevirtual 81, 3) := by decide +kernel
theorem dX1_monthSuits_74 : decode cX1_monthSuits 74 = .ok (.ifCond .ne 7, 3) := by decide +kernel
theorem dX1_monthSuits_77 : decode cX1_monthSuits 77 = .ok (.iconst 1, 1) := by decide +kernel
theorem dX1_monthSuits_78 : decode cX1_monthSuits 78 = .ok (.goto 4, 3) := by decide +kernel
theorem dX1_monthSuits_81 : decode cX1_monthSuits 81 = .ok (.iconst 0, 1) := by decide +kernel
theorem dX1_monthSuits_82 : decode cX1_monthSuits 82 = .ok (.istore_n 2, 1) := by decide +kernel
theorem dX1_monthSuits_83 : decode cX1_monthSuits 83 = .ok (.iload_n 2, 1) := by decide +kernel
theorem dX1_monthSuits_84 : decode cX1_monthSuits 84 = .ok (.ifCond .eq 20, 3) := by decide +kernel
theorem dX1_monthSuits_87 : decode cX1_monthSuits 87 = .ok (.iload_n 1, 1) := by decide +kernel
theorem dX1_monthSuits_88 : decode cX1_monthSuits 88 = .ok (.bipush 12, 2) := by decide +kernel
theorem dX1_monthSuits_90 : decode cX1_monthSuits 90 = .ok (.irem, 1) := by decide +kernel
theorem dX1_monthSuits_91 : decode cX1_monthSuits 91 = .ok (.aload_n 0, 1) := by decide +kernel
theorem dX1_monthSuits_92 : decode cX1_monthSuits 92 = .ok (.getfield 26, 3) := by decide +kernel
theorem dX1_monthSuits_95 : decode cX1_monthSuits 95 = .ok (.invokestatic 46, 3) := by decide +kernel
theorem dX1_monthSuits_98 : decode cX1_monthSuits 98 = .ok (.bipush 12, 2) := by decide +kernel
theorem dX1_monthSuits_100 : decode cX1_monthSuits 100 = .ok (.irem, 1) := by decide +kernel
theorem dX1_monthSuits_101 : decode cX1_monthSuits 101 = .ok (.if_icmp .ne 7, 3) := by decide +kernel
theorem dX1_monthSuits_104 : decode cX1_monthSuits 104 = .ok (.iconst 1, 1) := by decide +kernel
theorem dX1_monthSuits_105 : decode cX1_monthSuits 105 = .ok (.goto 4, 3) := by decide +kernel
theorem dX1_monthSuits_108 : decode cX1_monthSuits 108 = .ok (.iconst 0, 1) := by decide +kernel
theorem dX1_monthSuits_109 : decode cX1_monthSuits 109 = .ok (.ireturn, 1) := by decide +kernel
theorem dX1_byMonthDay_0 : decode cX1_byMonthDay 0 = .ok (.aload_n 0, 1) := by decide +kernel
theorem dX1_byMonthDay_1 : decode cX1_byMonthDay 1 = .ok (.getfield 15, 3) := by decide +kernel
theorem dX1_byMonthDay_4 : decode cX1_byMonthDay 4 = .ok (.getstatic 129, 3) := by decide +kernel
theorem dX1_byMonthDay_7 : decode cX1_byMonthDay 7 = .ok (.invokevirtual 81, 3) := by decide +kernel
theorem dX1_byMonthDay_10 : decode cX1_byMonthDay 10 = .ok (.ifCond .eq 29, 3) := by decide +kernel
theorem dX1_byMonthDay_13 : decode cX1_byMonthDay 13 = .ok (.bipush 31, 2) := by decide +kernel
theorem dX1_byMonthDay_15 : decode cX1_byMonthDay 15 = .ok (.iload_n 1, 1) := by decide +kernel
theorem dX1_byMonthDay_16 : decode cX1_byMonthDay 16 = .ok (.invokestatic 111, 3) := by decide +kernel
theorem dX1_byMonthDay_19 : decode cX1_byMonthDay 19 = .ok (.isub, 1) := by decide +kernel
theorem dX1_byMonthDay_20 : decode cX1_byMonthDay 20 = .ok (.istore_n 2, 1) := by decide +kernel
theorem dX1_byMonthDay_21 : decode cX1_byMonthDay 21 = .ok (.aload_n 0, 1) := by decide +kernel
theorem dX1_byMonthDay_22 : decode cX1_byMonthDay 22 = .ok (.getfield 15, 3) := by decide +kernel
theorem dX1_byMonthDay_25 : decode cX1_byMonthDay 25 = .ok (.getfield 135, 3) := by decide +kernel
theorem dX1_byMonthDay_28 : decode cX1_byMonthDay 28 = .ok (.aload_n 0, 1) := by decide +kernel
theorem dX1_byMonthDay_29 : decode cX1_byMonthDay 29 = .ok (.getfield 15, 3) := by decide +kernel
theorem dX1_byMonthDay_32 : decode cX1_byMonthDay 32 = .ok (.getfield 138, 3) := by decide +kernel
theorem dX1_byMonthDay_35 : decode cX1_byMonthDay 35 = .ok (.iload_n 2, 1) := by decide +kernel
theorem dX1_byMonthDay_36 : decode cX1_byMonthDay 36 = .ok (.iushr, 1) := by decide +kernel
theorem dX1_byMonthDay_37 : decode cX1_byMonthDay 37 = .ok (.ior, 1) := by decide +kernel
theorem dX1_byMonthDay_38 : decode cX1_byMonthDay 38 = .ok (.ireturn, 1) := by decide +kernel
theorem dX1_byMonthDay_39 : decode cX1_byMonthDay 39 = .ok (.aload_n 0, 1) := by decide +kernel
theorem dX1_byMonthDay_40 : decode cX1_byMonthDay 40 = .ok (.getfield 15, 3) := by decide +kernel
theorem dX1_byMonthDay_43 : decode cX1_byMonthDay 43 = .ok (.getfield 42, 3) := by decide +kernel
theorem dX1_byMonthDay_46 : decode cX1_byMonthDay 46 = .ok (.getfield 95, 3) := by decide +kernel
theorem dX1_byMonthDay_49 : decode cX1_byMonthDay 49 = .ok (.ifCond .eq 20, 3) := by decide +kernel
theorem dX1_byMonthDay_52 : decode cX1_byMonthDay 52 = .ok (.aload_n 0, 1) := by decide +kernel
theorem dX1_byMonthDay_53 : decode cX1_byMonthDay 53 = .ok (.getfield 15, 3) := by decide +kernel
theorem dX1_byMonthDay_56 : decode cX1_byMonthDay 56 = .ok (.getstatic 132, 3) := by decide +kernel
theorem dX1_byMonthDay_59 : decode cX1_byMonthDay 59 = .ok (.invokevirtual 81, 3) := by decide +kernel
theorem dX1_byMonthDay_62 : decode cX1_byMonthDay 62 = .ok (.ifCond .ne 7, 3) := by decide +kernel
theorem dX1_byMonthDay_65 : decode cX1_byMonthDay 65 = .ok (.iconst 1, 1) := by decide +kernel
theorem dX1_byMonthDay_66 : decode cX1_byMonthDay 66 = .ok (.goto 4, 3) := by decide +kernel
theorem dX1_byMonthDay_69 : decode cX1_byMonthDay 69 = .ok (.iconst 0, 1) := by decide +kernel
theorem dX1_byMonthDay_70 : decode cX1_byMonthDay 70 = .ok (.istore_n 2, 1) := by decide +kernel
theorem dX1_byMonthDay_71 : decode cX1_byMonthDay 71 = .ok (.iload_n 2, 1) := by decide +kernel
theorem dX1_byMonthDay_72 : decode cX1_byMonthDay 72 = .ok (.ifCond .eq 15, 3) := by decide +kernel
theorem dX1_byMonthDay_75 : decode cX1_byMonthDay 75 = .ok (.iconst 1, 1) := by decide +kernel
theorem dX1_byMonthDay_76 : decode cX1_byMonthDay 76 = .ok (.aload_n 0, 1) := by decide +kernel
theorem dX1_byMonthDay_77 : decode cX1_byMonthDay 77 = .ok (.getfield 26, 3) := by decide +kernel
theorem dX1_byMonthDay_80 : decode cX1_byMonthDay 80 = .ok (.invokestatic 141, 3) := by decide +kernel
theorem dX1_byMonthDay_83 : decode cX1_byMonthDay 83 = .ok (.ishl, 1) := by decide +kernel
theorem dX1_byMonthDay_84 : decode cX1_byMonthDay 84 = .ok (.goto 5, 3) := by decide +kernel
theorem dX1_byMonthDay_87 : decode cX1_byMonthDay 87 = .ok (.ldc 110, 2) := by decide +kernel
theorem dX1_byMonthDay_89 : decode cX1_byMonthDay 89 = .ok (.ireturn, 1) := by decide +kernel
theorem dX1_byWeekday_0 : decode cX1_byWeekday 0 = .ok (.aload_n 0, 1) := by decide +kernel
theorem dX1_byWeekday_1 : decode cX1_byWeekday 1 = .ok (.getfield 15, 3) := by decide +kernel
theorem dX1_byWeekday_4 : decode cX1_byWeekday 4 = .ok (.getstatic 132, 3) := by decide +kernel
theorem dX1_byWeekday_7 : decode cX1_byWeekday 7 = .ok (.invokevirtual 81, 3) := by decide +kernel
theorem dX1_byWeekday_10 : decode cX1_byWeekday 10 = .ok (.ifCond .eq 38, 3) := by decide +kernel
theorem dX1_byWeekday_13 : decode cX1_byWeekday 13 = .ok (.aload_n 0, 1) := by decide +kernel
theorem dX1_byWeekday_14 : decode cX1_byWeekday 14 = .ok (.getfield 15, 3) := by decide +kernel
theorem dX1_byWeekday_17 : decode cX1_byWeekday 17 = .ok (.getfield 144, 3) := by decide +kernel
theorem dX1_byWeekday_20 : decode cX1_byWeekday 20 = .ok (.ifCond .ne 7, 3) := by decide +kernel
theorem dX1_byWeekday_23 : decode cX1_byWeekday 23 = .ok (.iconst 0, 1) := by decide +kernel
theorem dX1_byWeekday_24 : decode cX1_byWeekday 24 = .ok (.goto 8, 3) := by decide +kernel
theorem dX1_byWeekday_27 : decode cX1_byWeekday 27 = .ok (.aload_n 0, 1) := by decide +kernel
theorem dX1_byWeekday_28 : decode cX1_byWeekday 28 = .ok (.iload_n 1, 1) := by decide +kernel
theorem dX1_byWeekday_29 : decode cX1_byWeekday 29 = .ok (.invokevirtual 147, 3) := by decide +kernel
theorem dX1_byWeekday_32 : decode cX1_byWeekday 32 = .ok (.istore_n 2, 1) := by decide +kernel
theorem dX1_byWeekday_33 : decode cX1_byWeekday 33 = .ok (.iload_n 2, 1) := by decide +kernel
theorem dX1_byWeekday_34 : decode cX1_byWeekday 34 = .ok (.aload_n 0, 1) := by decide +kernel
theorem dX1_byWeekday_35 : decode cX1_byWeekday 35 = .ok (.iload_n 1, 1) := by decide +kernel
theorem dX1_byWeekday_36 : decode cX1_byWeekday 36 = .ok (.aload_n 0, 1) := by decide +kernel
theorem dX1_byWeekday_37 : decode cX1_byWeekday 37 = .ok (.getfield 15, 3) := by decide +kernel
theorem dX1_byWeekday_40 : decode cX1_byWeekday 40 = .ok (.getfield 149, 3) := by decide +kernel
theorem dX1_byWeekday_43 : decode cX1_byWeekday 43 = .ok (.invokevirtual 152, 3) := by decide +kernel
theorem dX1_byWeekday_46 : decode cX1_byWeekday 46 = .ok (.ior, 1) := by decide +kernel
theorem dX1_byWeekday_47 : decode cX1_byWeekday 47 = .ok (.ireturn, 1) := by decide +kernel
theorem dX1_byWeekday_48 : decode cX1_byWeekday 48 = .ok (.aload_n 0, 1) := by decide +kernel
theorem dX1_byWeekday_49 : decode cX1_byWeekday 49 = .ok (.getfield 15, 3) := by decide +kernel
theorem dX1_byWeekday_52 : decode cX1_byWeekday 52 = .ok (.getfield 42, 3) := by decide +kernel
theorem dX1_byWeekday_55 : decode cX1_byWeekday 55 = .ok (.getstatic 155, 3) := by decide +kernel
theorem dX1_byWeekday_58 : decode cX1_byWeekday 58 = .ok (.if_acmp .ne 25, 3) := by decide +kernel
theorem dX1_byWeekday_61 : decode cX1_byWeekday 61 = .ok (.aload_n 0, 1) := by decide +kernel
theorem dX1_byWeekday_62 : decode cX1_byWeekday 62 = .ok (.iload_n 1, 1) := by decide +kernel
theorem dX1_byWeekday_63 : decode cX1_byWeekday 63 = .ok (.iconst 1, 1) := by decide +kernel
theorem dX1_byWeekday_64 : decode cX1_byWeekday 64 = .ok (.aload_n 0, 1) := by decide +kernel
theorem dX1_byWeekday_65 : decode cX1_byWeekday 65 = .ok (.getfield 9, 3) := by decide +kernel
theorem dX1_byWeekday_68 : decode cX1_byWeekday 68 = .ok (.aload_n 0, 1) := by decide +kernel
theorem dX1_byWeekday_69 : decode cX1_byWeekday 69 = .ok (.getfield 26, 3) := by decide +kernel
theorem dX1_byWeekday_72 : decode cX1_byWeekday 72 = .ok (.invokevirtual 52, 3) := by decide +kernel
theorem dX1_byWeekday_75 : decode cX1_byWeekday 75 = .ok (.bipush 7, 2) := by decide +kernel
theorem dX1_byWeekday_77 : decode cX1_byWeekday 77 = .ok (.irem, 1) := by decide +kernel
theorem dX1_byWeekday_78 : decode cX1_byWeekday 78 = .ok (.ishl, 1) := by decide +kernel
theorem dX1_byWeekday_79 : decode cX1_byWeekday 79 = .ok (.invokevirtual 152, 3) := by decide +kernel
theorem dX1_byWeekday_82 : decode cX1_byWeekday 82 = .ok (.ireturn, 1) := by decide +kernel
theorem dX1_byWeekday_83 : decode cX1_byWeekday 83 = .ok (.ldc 110, 2) := by decide +kernel
theorem dX1_byWeekday_85 : decode cX1_byWeekday 85 = .ok (.ireturn, 1) := by decide +kernel
theorem dX1_plainWeekdays_0 : decode cX1_plainWeekdays 0 = .ok (.aload_n 0, 1) := by decide +kernel
theorem dX1_plainWeekdays_1 : decode cX1_plainWeekdays 1 = .ok (.getfield 9, 3) := by decide +kernel
theorem dX1_plainWeekdays_4 : decode cX1_plainWeekdays 4 = .ok (.getfield 92, 3) := by decide +kernel
theorem dX1_plainWeekdays_7 : decode cX1_plainWeekdays 7 = .ok (.iload_n 1, 1) := by decide +kernel
theorem dX1_plainWeekdays_8 : decode cX1_plainWeekdays 8 = .ok (.iaload, 1) := by decide +kernel
theorem dX1_plainWeekdays_9 : decode cX1_plainWeekdays 9 = .ok (.bipush 7, 2) := by decide +kernel
theorem dX1_plainWeekdays_11 : decode cX1_plainWeekdays 11 = .ok (.irem, 1) := by decide +kernel
theorem dX1_plainWeekdays_12 : decode cX1_plainWeekdays 12 = .ok (.istore_n 3, 1) := by decide +kernel
theorem dX1_plainWeekdays_13 : decode cX1_plainWeekdays 13 = .ok (.iload_n 2, 1) := by decide +kernel
theorem dX1_plainWeekdays_14 : decode cX1_plainWeekdays 14 = .ok (.iload_n 3, 1) := by decide +kernel
theorem dX1_plainWeekdays_15 : decode cX1_plainWeekdays 15 = .ok (.iushr, 1) := by decide +kernel
theorem dX1_plainWeekdays_16 : decode cX1_plainWeekdays 16 = .ok (.iload_n 2, 1) := by decide +kernel
theorem dX1_plainWeekdays_17 : decode cX1_plainWeekdays 17 = .ok (.bipush 7, 2) := by decide +kernel
theorem dX1_plainWeekdays_19 : decode cX1_plainWeekdays 19 = .ok (.iload_n 3, 1) := by decide +kernel
theorem dX1_plainWeekdays_20 : decode cX1_plainWeekdays 20 = .ok (.isub, 1) := by decide +kernel
theorem dX1_plainWeekdays_21 : decode cX1_plainWeekdays 21 = .ok (.ishl, 1) := by decide +kernel
theorem dX1_plainWeekdays_22 : decode cX1_plainWeekdays 22 = .ok (.ior, 1) := by decide +kernel
theorem dX1_plainWeekdays_23 : decode cX1_plainWeekdays 23 = .ok (.bipush 127, 2) := by decide +kernel
theorem dX1_plainWeekdays_25 : decode cX1_plainWeekdays 25 = .ok (.iand, 1) := by decide +kernel
theorem dX1_plainWeekdays_26 : decode cX1_plainWeekdays 26 = .ok (.istore 4, 2) := by decide +kernel
theorem dX1_plainWeekdays_28 : decode cX1_plainWeekdays 28 = .ok (.iload 4, 2) := by decide +kernel
theorem dX1_plainWeekdays_30 : decode cX1_plainWeekdays 30 = .ok (.iload 4, 2) := by decide +kernel
theorem dX1_plainWeekdays_32 : decode cX1_plainWeekdays 32 = .ok (.bipush 7, 2) := by decide +kernel
theorem dX1_plainWeekdays_34 : decode cX1_plainWeekdays 34 = .ok (.ishl, 1) := by decide +kernel
theorem dX1_plainWeekdays_35 : decode cX1_plainWeekdays 35 = .ok (.ior, 1) := by decide +kernel
theorem dX1_plainWeekdays_36 : decode cX1_plainWeekdays 36 = .ok (.iload 4, 2) := by decide +kernel
theorem dX1_plainWeekdays_38 : decode cX1_plainWeekdays 38 = .ok (.bipush 14, 2) := by decide +kernel
theorem dX1_plainWeekdays_40 : decode cX1_plainWeekdays 40 = .ok (.ishl, 1) := by decide +kernel
theorem dX1_plainWeekdays_41 : decode cX1_plainWeekdays 41 = .ok (.ior, 1) := by decide +kernel
theorem dX1_plainWeekdays_42 : decode cX1_plainWeekdays 42 = .ok (.iload 4, 2) := by decide +kernel
theorem dX1_plainWeekdays_44 : decode cX1_plainWeekdays 44 = .ok (.bipush 21, 2) := by decide +kernel
theorem dX1_plainWeekdays_46 : decode cX1_plainWeekdays 46 = .ok (.ishl, 1) := by decide +kernel
theorem dX1_plainWeekdays_47 : decode cX1_plainWeekdays 47 = .ok (.ior, 1) := by decide +kernel
theorem dX1_plainWeekdays_48 : decode cX1_plainWeekdays 48 = .ok (.istore 5, 2) := by decide +kernel
theorem dX1_plainWeekdays_50 : decode cX1_plainWeekdays 50 = .ok (.iload 5, 2) := by decide +kernel
theorem dX1_plainWeekdays_52 : decode cX1_plainWeekdays 52 = .ok (.iload 4, 2) := by decide +kernel
theorem dX1_plainWeekdays_54 : decode cX1_plainWeekdays 54 = .ok (.bipush 28, 2) := by decide +kernel
theorem dX1_plainWeekdays_56 : decode cX1_plainWeekdays 56 = .ok (.ishl, 1) := by decide +kernel
theorem dX1_plainWeekdays_57 : decode cX1_plainWeekdays 57 = .ok (.ior, 1) := by decide +kernel
theorem dX1_plainWeekdays_58 : decode cX1_plainWeekdays 58 = .ok (.ireturn, 1) := by decide +kernel
theorem dX1_numberedWeekdays_0 : decode cX1_numberedWeekdays 0 = .ok (.aload_n 0, 1) := by decide +kernel
theorem dX1_numberedWeekdays_1 : decode cX1_numberedWeekdays 1 = .ok (.getfield 15, 3) := by decide +kernel
theorem dX1_numberedWeekdays_4 : decode cX1_numberedWeekdays 4 = .ok (.getfield 42, 3) := by decide +kernel
theorem dX1_numberedWeekdays_7 : decode cX1_numberedWeekdays 7 = .ok (.getstatic 158, 3) := by decide +kernel
theorem dX1_numberedWeekdays_10 : decode cX1_numberedWeekdays 10 = .ok (.if_acmp .eq 16, 3) := by decide +kernel
theorem dX1_numberedWeekdays_13 : decode cX1_numberedWeekdays 13 = .ok (.aload_n 0, 1) := by decide +kernel
theorem dX1_numberedWeekdays_14 : decode cX1_numberedWeekdays 14 = .ok (.getfield 15, 3) := by decide +kernel
theorem dX1_numberedWeekdays_17 : decode cX1_numberedWeekdays 17 = .ok (.getstatic 120, 3) := by decide +kernel
theorem dX1_numberedWeekdays_20 : decode cX1_numberedWeekdays 20 = .ok (.invokevirtual 81, 3) := by decide +kernel
theorem dX1_numberedWeekdays_23 : decode cX1_numberedWeekdays 23 = .ok (.ifCond .eq 7, 3) := by decide +kernel
theorem dX1_numberedWeekdays_26 : decode cX1_numberedWeekdays 26 = .ok (.iconst 1, 1) := by decide +kernel
theorem dX1_numberedWeekdays_27 : decode cX1_numberedWeekdays 27 = .ok (.goto 4, 3) := by decide +kernel
theorem dX1_numberedWeekdays_30 : decode cX1_numberedWeekdays 30 = .ok (.iconst 0, 1) := by decide +kernel
theorem dX1_numberedWeekdays_31 : decode cX1_numberedWeekdays 31 = .ok (.istore_n 2, 1) := by decide +kernel
theorem dX1_numberedWeekdays_32 : decode cX1_numberedWeekdays 32 = .ok (.iload_n 2, 1) := by decide +kernel
theorem dX1_numberedWeekdays_33 : decode cX1_numberedWeekdays 33 = .ok (.ifCond .eq 7, 3) := by decide +kernel
theorem dX1_numberedWeekdays_36 : decode cX1_numberedWeekdays 36 = .ok (.iload_n 1, 1) := by decide +kernel
theorem dX1_numberedWeekdays_37 : decode cX1_numberedWeekdays 37 = .ok (.goto 7, 3) := by decide +kernel
theorem dX1_numberedWeekdays_40 : decode cX1_numberedWeekdays 40 = .ok (.iload_n 1, 1) := by decide +kernel
theorem dX1_numberedWeekdays_41 : decode cX1_numberedWeekdays 41 = .ok (.invokestatic 63, 3) := by decide +kernel
theorem dX1_numberedWeekdays_44 : decode cX1_numberedWeekdays 44 = .ok (.istore_n 3, 1) := by decide +kernel
theorem dX1_numberedWeekdays_45 : decode cX1_numberedWeekdays 45 = .ok (.iload_n 2, 1) := by decide +kernel
theorem dX1_numberedWeekdays_46 : decode cX1_numberedWeekdays 46 = .ok (.ifCond .eq 9, 3) := by decide +kernel
theorem dX1_numberedWeekdays_49 : decode cX1_numberedWeekdays 49 = .ok (.iload_n 1, 1) := by decide +kernel
theorem dX1_numberedWeekdays_50 : decode cX1_numberedWeekdays 50 = .ok (.iconst 1, 1) := by decide +kernel
theorem dX1_numberedWeekdays_51 : decode cX1_numberedWeekdays 51 = .ok (.iadd, 1) := by decide +kernel
theorem dX1_numberedWeekdays_52 : decode cX1_numberedWeekdays 52 = .ok (.goto 7, 3) := by decide +kernel
theorem dX1_numberedWeekdays_55 : decode cX1_numberedWeekdays 55 = .ok (.iload_n 3, 1) := by decide +kernel
theorem dX1_numberedWeekdays_56 : decode cX1_numberedWeekdays 56 = .ok (.bipush 12, 2) := by decide +kernel
theorem dX1_numberedWeekdays_58 : decode cX1_numberedWeekdays 58 = .ok (.iadd, 1) := by decide +kernel
theorem dX1_numberedWeekdays_59 : decode cX1_numberedWeekdays 59 = .ok (.istore 4, 2) := by decide +kernel
theorem dX1_numberedWeekdays_61 : decode cX1_numberedWeekdays 61 = .ok (.iconst 0, 1) := by decide +kernel
theorem dX1_numberedWeekdays_62 : decode cX1_numberedWeekdays 62 = .ok (.istore 5, 2) := by decide +kernel
theorem dX1_numberedWeekdays_64 : decode cX1_numberedWeekdays 64 = .ok (.aload_n 0, 1) := by decide +kernel
theorem dX1_numberedWeekdays_65 : decode cX1_numberedWeekdays 65 = .ok (.getfield 9, 3) := by decide +kernel
theorem dX1_numberedWeekdays_68 : decode cX1_numberedWeekdays 68 = .ok (.getfield 92, 3) := by decide +kernel
theorem dX1_numberedWeekdays_71 : decode cX1_numberedWeekdays 71 = .ok (.iload_n 1, 1) := by decide +kernel
theorem dX1_numberedWeekdays_72 : decode cX1_numberedWeekdays 72 = .ok (.iaload, 1) := by decide +kernel
theorem dX1_numberedWeekdays_73 : decode cX1_numberedWeekdays 73 = .ok (.istore 6, 2) := by decide +kernel
theorem dX1_numberedWeekdays_75 : decode cX1_numberedWeekdays 75 = .ok (.iload 6, 2) := by decide +kernel
theorem dX1_numberedWeekdays_77 : decode cX1_numberedWeekdays 77 = .ok (.aload_n 0, 1) := by decide +kernel
theorem dX1_numberedWeekdays_78 : decode cX1_numberedWeekdays 78 = .ok (.getfield 9, 3) := by decide +kernel
theorem dX1_numberedWeekdays_81 : decode cX1_numberedWeekdays 81 = .ok (.getfield 92, 3) := by decide +kernel
theorem dX1_numberedWeekdays_84 : decode cX1_numberedWeekdays 84 = .ok (.iload_n 1, 1) := by decide +kernel
theorem dX1_numberedWeekdays_85 : decode cX1_numberedWeekdays 85 = .ok (.iconst 1, 1) := by decide +kernel
theorem dX1_numberedWeekdays_86 : decode cX1_numberedWeekdays 86 = .ok (.iadd, 1) := by decide +kernel
theorem dX1_numberedWeekdays_87 : decode cX1_numberedWeekdays 87 = .ok (.iaload, 1) := by decide +kernel
theorem dX1_numberedWeekdays_88 : decode cX1_numberedWeekdays 88 = .ok (.if_icmp .ge 116, 3) := by decide +kernel
theorem dX1_numberedWeekdays_91 : decode cX1_numberedWeekdays 91 = .ok (.iload 6, 2) := by decide +kernel
theorem dX1_numberedWeekdays_93 : decode cX1_numberedWeekdays 93 = .ok (.aload_n 0, 1) := by decide +kernel
theorem dX1_numberedWeekdays_94 : decode cX1_numberedWeekdays 94 = .ok (.getfield 9, 3) := by decide +kernel
theorem dX1_numberedWeekdays_97 : decode cX1_numberedWeekdays 97 = .ok (.getfield 92, 3) := by decide +kernel
theorem dX1_numberedWeekdays_100 : decode cX1_numberedWeekdays 100 = .ok (.iload_n 3, 1) := by decide +kernel
theorem dX1_numberedWeekdays_101 : decode cX1_numberedWeekdays 101 = .ok (.iaload, 1) := by decide +kernel
theorem dX1_numberedWeekdays_102 : decode cX1_numberedWeekdays 102 = .ok (.isub, 1) := by decide +kernel
theorem dX1_numberedWeekdays_103 : decode cX1_numberedWeekdays 103 = .ok (.bipush 7, 2) := by decide +kernel
theorem dX1_numberedWeekdays_105 : decode cX1_numberedWeekdays 105 = .ok (.idiv, 1) := by decide +kernel
theorem dX1_numberedWeekdays_106 : decode cX1_numberedWeekdays 106 = .ok (.iconst 1, 1) := by decide +kernel
theorem dX1_numberedWeekdays_107 : decode cX1_numberedWeekdays 107 = .ok (.iadd, 1) := by decide +kernel
theorem dX1_numberedWeekdays_108 : decode cX1_numberedWeekdays 108 = .ok (.istore 7, 2) := by decide +kernel
theorem dX1_numberedWeekdays_110 : decode cX1_numberedWeekdays 110 = .ok (.aload_n 0, 1) := by decide +kernel
theorem dX1_numberedWeekdays_111 : decode cX1_numberedWeekdays 111 = .ok (.getfield 9, 3) := by decide +kernel
theorem dX1_numberedWeekdays_114 : decode cX1_numberedWeekdays 114 = .ok (.getfield 92, 3) := by decide +kernel
theorem dX1_numberedWeekdays_117 : decode cX1_numberedWeekdays 117 = .ok (.iload 4, 2) := by decide +kernel
theorem dX1_numberedWeekdays_119 : decode cX1_numberedWeekdays 119 = .ok (.iaload, 1) := by decide +kernel
theorem dX1_numberedWeekdays_120 : decode cX1_numberedWeekdays 120 = .ok (.iconst 1, 1) := by decide +kernel
theorem dX1_numberedWeekdays_121 : decode cX1_numberedWeekdays 121 = .ok (.isub, 1) := by decide +kernel
theorem dX1_numberedWeekdays_122 : decode cX1_numberedWeekdays 122 = .ok (.iload 6, 2) := by decide +kernel
theorem dX1_numberedWeekdays_124 : decode cX1_numberedWeekdays 124 = .ok (.isub, 1) := by decide +kernel
theorem dX1_numberedWeekdays_125 : decode cX1_numberedWeekdays 125 = .ok (.bipush 7, 2) := by decide +kernel
theorem dX1_numberedWeekdays_127 : decode cX1_numberedWeekdays 127 = .ok (.idiv, 1) := by decide +kernel
theorem dX1_numberedWeekdays_128 : decode cX1_numberedWeekdays 128 = .ok (.iconst 1, 1) := by decide +kernel
theorem dX1_numberedWeekdays_129 : decode cX1_numberedWeekdays 129 = .ok (.iadd, 1) := by decide +kernel
theorem dX1_numberedWeekdays_130 : decode cX1_numberedWeekdays 130 = .ok (.istore 8, 2) := by decide +kernel
theorem dX1_numberedWeekdays_132 : decode cX1_numberedWeekdays 132 = .ok (.iload 6, 2) := by decide +kernel
theorem dX1_numberedWeekdays_134 : decode cX1_numberedWeekdays 134 = .ok (.bipush 7, 2) := by decide +kernel
theorem dX1_numberedWeekdays_136 : decode cX1_numberedWeekdays 136 = .ok (.irem, 1) := by decide +kernel
theorem dX1_numberedWeekdays_137 : decode cX1_numberedWeekdays 137 = .ok (.istore 9, 2) := by decide +kernel
theorem dX1_numberedWeekdays_139 : decode cX1_numberedWeekdays 139 = .ok (.aload_n 0, 1) := by decide +kernel
theorem dX1_numberedWeekdays_140 : decode cX1_numberedWeekdays 140 = .ok (.getfield 15, 3) := by decide +kernel
theorem dX1_numberedWeekdays_143 : decode cX1_numberedWeekdays 143 = .ok (.getfield 161, 3) := by decide +kernel
theorem dX1_numberedWeekdays_146 : decode cX1_numberedWeekdays 146 = .ok (.iload 9, 2) := by decide +kernel
theorem dX1_numberedWeekdays_148 : decode cX1_numberedWeekdays 148 = .ok (.laload, 1) := by decide +kernel
theorem dX1_numberedWeekdays_149 : decode cX1_numberedWeekdays 149 = .ok (.iload 7, 2) := by decide +kernel
theorem dX1_numberedWeekdays_151 : decode cX1_numberedWeekdays 151 = .ok (.lushr, 1) := by decide +kernel
theorem dX1_numberedWeekdays_152 : decode cX1_numberedWeekdays 152 = .ok (.lconst 1, 1) := by decide +kernel
theorem dX1_numberedWeekdays_153 : decode cX1_numberedWeekdays 153 = .ok (.land, 1) := by decide +kernel
theorem dX1_numberedWeekdays_154 : decode cX1_numberedWeekdays 154 = .ok (.lconst 0, 1) := by decide +kernel
theorem dX1_numberedWeekdays_155 : decode cX1_numberedWeekdays 155 = .ok (.lcmp, 1) := by decide +kernel
theorem dX1_numberedWeekdays_156 : decode cX1_numberedWeekdays 156 = .ok (.ifCond .ne 23, 3) := by decide +kernel
theorem dX1_numberedWeekdays_159 : decode cX1_numberedWeekdays 159 = .ok (.aload_n 0, 1) := by decide +kernel
theorem dX1_numberedWeekdays_160 : decode cX1_numberedWeekdays 160 = .ok (.getfield 15, 3) := by decide +kernel
theorem dX1_numberedWeekdays_163 : decode cX1_numberedWeekdays 163 = .ok (.getfield 165, 3) := by decide +kernel
theorem dX1_numberedWeekdays_166 : decode cX1_numberedWeekdays 166 = .ok (.iload 9, 2) := by decide +kernel
theorem dX1_numberedWeekdays_168 : decode cX1_numberedWeekdays 168 = .ok (.laload, 1) := by decide +kernel
theorem dX1_numberedWeekdays_169 : decode cX1_numberedWeekdays 169 = .ok (.iload 8, 2) := by decide +kernel
theorem dX1_numberedWeekdays_171 : decode cX1_numberedWeekdays 171 = .ok (.lushr, 1) := by decide +kernel
theorem dX1_numberedWeekdays_172 : decode cX1_numberedWeekdays 172 = .ok (.lconst 1, 1) := by decide +kernel
theorem dX1_numberedWeekdays_173 : decode cX1_numberedWeekdays 173 = .ok (.land, 1) := by decide +kernel
theorem dX1_numberedWeekdays_174 : decode cX1_numberedWeekdays 174 = .ok (.lconst 0, 1) := by decide +kernel
theorem dX1_numberedWeekdays_175 : decode cX1_numberedWeekdays 175 = .ok (.lcmp, 1) := by decide +kernel
theorem dX1_numberedWeekdays_176 : decode cX1_numberedWeekdays 176 = .ok (.ifCond .eq 22, 3) := by decide +kernel
theorem dX1_numberedWeekdays_179 : decode cX1_numberedWeekdays 179 = .ok (.iload 5, 2) := by decide +kernel
theorem dX1_numberedWeekdays_181 : decode cX1_numberedWeekdays 181 = .ok (.iconst 1, 1) := by decide +kernel
theorem dX1_numberedWeekdays_182 : decode cX1_numberedWeekdays 182 = .ok (.iload 6, 2) := by decide +kernel
theorem dX1_numberedWeekdays_184 : decode cX1_numberedWeekdays 184 = .ok (.aload_n 0, 1) := by decide +kernel
theorem dX1_numberedWeekdays_185 : decode cX1_numberedWeekdays 185 = .ok (.getfield 9, 3) := by decide +kernel
theorem dX1_numberedWeekdays_188 : decode cX1_numberedWeekdays 188 = .ok (.getfield 92, 3) := by decide +kernel
theorem dX1_numberedWeekdays_191 : decode cX1_numberedWeekdays 191 = .ok (.iload_n 1, 1) := by decide +kernel
theorem dX1_numberedWeekdays_192 : decode cX1_numberedWeekdays 192 = .ok (.iaload, 1) := by decide +kernel
theorem dX1_numberedWeekdays_193 : decode cX1_numberedWeekdays 193 = .ok (.isub, 1) := by decide +kernel
theorem dX1_numberedWeekdays_194 : decode cX1_numberedWeekdays 194 = .ok (.ishl, 1) := by decide +kernel
theorem dX1_numberedWeekdays_195 : decode cX1_numberedWeekdays 195 = .ok (.ior, 1) := by decide +kernel
theorem dX1_numberedWeekdays_196 : decode cX1_numberedWeekdays 196 = .ok (.istore 5, 2) := by decide +kernel
theorem dX1_numberedWeekdays_198 : decode cX1_numberedWeekdays 198 = .ok (.iinc 6 1, 3) := by decide +kernel
theorem dX1_numberedWeekdays_201 : decode cX1_numberedWeekdays 201 = .ok (.goto (-126), 3) := by decide +kernel
theorem dX1_numberedWeekdays_204 : decode cX1_numberedWeekdays 204 = .ok (.iload 5, 2) := by decide +kernel
theorem dX1_numberedWeekdays_206 : decode cX1_numberedWeekdays 206 = .ok (.ireturn, 1) := by decide +kernel
theorem dX1_choosePlaces_0 : decode cX1_choosePlaces 0 = .ok (.aload_n 0, 1) := by decide +kernel
theorem dX1_choosePlaces_1 : decode cX1_choosePlaces 1 = .ok (.iconst 0, 1) := by decide +kernel
theorem dX1_choosePlaces_2 : decode cX1_choosePlaces 2 = .ok (.putfield 168, 3) := by decide +kernel
theorem dX1_choosePlaces_5 : decode cX1_choosePlaces 5 = .ok (.iconst (-1), 1) := by decide +kernel
theorem dX1_choosePlaces_6 : decode cX1_choosePlaces 6 = .ok (.istore_n 3, 1) := by decide +kernel
theorem dX1_choosePlaces_7 : decode cX1_choosePlaces 7 = .ok (.iload_n 1, 1) := by decide +kernel
theorem dX1_choosePlaces_8 : decode cX1_choosePlaces 8 = .ok (.istore 4, 2) := by decide +kernel
theorem dX1_choosePlaces_10 : decode cX1_choosePlaces 10 = .ok (.iload 4, 2) := by decide +kernel
theorem dX1_choosePlaces_12 : decode cX1_choosePlaces 12 = .ok (.iload_n 2, 1) := by decide +kernel
theorem dX1_choosePlaces_13 : decode cX1_choosePlaces 13 = .ok (.if_icmp .gt 108, 3) := by decide +kernel
theorem dX1_choosePlaces_16 : decode cX1_choosePlaces 16 = .ok (.aload_n 0, 1) := by decide +kernel
theorem dX1_choosePlaces_17 : decode cX1_choosePlaces 17 = .ok (.getfield 19, 3) := by decide +kernel
theorem dX1_choosePlaces_20 : decode cX1_choosePlaces 20 = .ok (.iload 4, 2) := by decide +kernel
theorem dX1_choosePlaces_22 : decode cX1_choosePlaces 22 = .ok (.iaload, 1) := by decide +kernel
theorem dX1_choosePlaces_23 : decode cX1_choosePlaces 23 = .ok (.istore 5, 2) := by decide +kernel
theorem dX1_choosePlaces_25 : decode cX1_choosePlaces 25 = .ok (.aload_n 0, 1) := by decide +kernel
theorem dX1_choosePlaces_26 : decode cX1_choosePlaces 26 = .ok (.getfield 19, 3) := by decide +kernel
theorem dX1_choosePlaces_29 : decode cX1_choosePlaces 29 = .ok (.iload 4, 2) := by decide +kernel
theorem dX1_choosePlaces_31 : decode cX1_choosePlaces 31 = .ok (.iconst 0, 1) := by decide +kernel
theorem dX1_choosePlaces_32 : decode cX1_choosePlaces 32 = .ok (.iastore, 1) := by decide +kernel
theorem dX1_choosePlaces_33 : decode cX1_choosePlaces 33 = .ok (.iload 5, 2) := by decide +kernel
theorem dX1_choosePlaces_35 : decode cX1_choosePlaces 35 = .ok (.invokestatic 171, 3) := by decide +kernel
theorem dX1_choosePlaces_38 : decode cX1_choosePlaces 38 = .ok (.istore 6, 2) := by decide +kernel
theorem dX1_choosePlaces_40 : decode cX1_choosePlaces 40 = .ok (.iload 6, 2) := by decide +kernel
theorem dX1_choosePlaces_42 : decode cX1_choosePlaces 42 = .ok (.ifCond .le 73, 3) := by decide +kernel
theorem dX1_choosePlaces_45 : decode cX1_choosePlaces 45 = .ok (.iload 5, 2) := by decide +kernel
theorem dX1_choosePlaces_47 : decode cX1_choosePlaces 47 = .ok (.invokestatic 176, 3) := by decide +kernel
theorem dX1_choosePlaces_50 : decode cX1_choosePlaces 50 = .ok (.istore 7, 2) := by decide +kernel
theorem dX1_choosePlaces_52 : decode cX1_choosePlaces 52 = .ok (.aload_n 0, 1) := by decide +kernel
theorem dX1_choosePlaces_53 : decode cX1_choosePlaces 53 = .ok (.getfield 15, 3) := by decide +kernel
theorem dX1_choosePlaces_56 : decode cX1_choosePlaces 56 = .ok (.getfield 42, 3) := by decide +kernel
theorem dX1_choosePlaces_59 : decode cX1_choosePlaces 59 = .ok (.iload 4, 2) := by decide +kernel
theorem dX1_choosePlaces_61 : decode cX1_choosePlaces 61 = .ok (.aload_n 0, 1) := by decide +kernel
theorem dX1_choosePlaces_62 : decode cX1_choosePlaces 62 = .ok (.getfield 9, 3) := by decide +kernel
theorem dX1_choosePlaces_65 : decode cX1_choosePlaces 65 = .ok (.getfield 92, 3) := by decide +kernel
theorem dX1_choosePlaces_68 : decode cX1_choosePlaces 68 = .ok (.iload 4, 2) := by decide +kernel
theorem dX1_choosePlaces_70 : decode cX1_choosePlaces 70 = .ok (.iaload, 1) := by decide +kernel
theorem dX1_choosePlaces_71 : decode cX1_choosePlaces 71 = .ok (.iload 7, 2) := by decide +kernel
theorem dX1_choosePlaces_73 : decode cX1_choosePlaces 73 = .ok (.iadd, 1) := by decide +kernel
theorem dX1_choosePlaces_74 : decode cX1_choosePlaces 74 = .ok (.invokevirtual 55, 3) := by decide +kernel
theorem dX1_choosePlaces_77 : decode cX1_choosePlaces 77 = .ok (.istore 8, 2) := by decide +kernel
theorem dX1_choosePlaces_79 : decode cX1_choosePlaces 79 = .ok (.iload 8, 2) := by decide +kernel
theorem dX1_choosePlaces_81 : decode cX1_choosePlaces 81 = .ok (.iload_n 3, 1) := by decide +kernel
theorem dX1_choosePlaces_82 : decode cX1_choosePlaces 82 = .ok (.if_icmp .eq 10, 3) := by decide +kernel
theorem dX1_choosePlaces_85 : decode cX1_choosePlaces 85 = .ok (.aload_n 0, 1) := by decide +kernel
theorem dX1_choosePlaces_86 : decode cX1_choosePlaces 86 = .ok (.invokevirtual 179, 3) := by decide +kernel
theorem dX1_choosePlaces_89 : decode cX1_choosePlaces 89 = .ok (.iload 8, 2) := by decide +kernel
theorem dX1_choosePlaces_91 : decode cX1_choosePlaces 91 = .ok (.istore_n 3, 1) := by decide +kernel
theorem dX1_choosePlaces_92 : decode cX1_choosePlaces 92 = .ok (.aload_n 0, 1) := by decide +kernel
theorem dX1_choosePlaces_93 : decode cX1_choosePlaces 93 = .ok (.iload 4, 2) := by decide +kernel
theorem dX1_choosePlaces_95 : decode cX1_choosePlaces 95 = .ok (.iload 7, 2) := by decide +kernel
theorem dX1_choosePlaces_97 : decode cX1_choosePlaces 97 = .ok (.invokevirtual 182, 3) := by decide +kernel
theorem dX1_choosePlaces_100 : decode cX1_choosePlaces 100 = .ok (.iload 5, 2) := by decide +kernel
theorem dX1_choosePlaces_102 : decode cX1_choosePlaces 102 = .ok (.iload 5, 2) := by decide +kernel
theorem dX1_choosePlaces_104 : decode cX1_choosePlaces 104 = .ok (.iconst 1, 1) := by decide +kernel
theorem dX1_choosePlaces_105 : decode cX1_choosePlaces 105 = .ok (.isub, 1) := by decide +kernel
theorem dX1_choosePlaces_106 : decode cX1_choosePlaces 106 = .ok (.iand, 1) := by decide +kernel
theorem dX1_choosePlaces_107 : decode cX1_choosePlaces 107 = .ok (.istore 5, 2) := by decide +kernel
theorem dX1_choosePlaces_109 : decode cX1_choosePlaces 109 = .ok (.iinc 6 (-1), 3) := by decide +kernel
theorem dX1_choosePlaces_112 : decode cX1_choosePlaces 112 = .ok (.goto (-72), 3) := by decide +kernel
theorem dX1_choosePlaces_115 : decode cX1_choosePlaces 115 = .ok (.iinc 4 1, 3) := by decide +kernel
theorem dX1_choosePlaces_118 : decode cX1_choosePlaces 118 = .ok (.goto (-108), 3) := by decide +kernel
theorem dX1_choosePlaces_121 : decode cX1_choosePlaces 121 = .ok (.aload_n 0, 1) := by decide +kernel
theorem dX1_choosePlaces_122 : decode cX1_choosePlaces 122 = .ok (.invokevirtual 179, 3) := by decide +kernel
theorem dX1_choosePlaces_125 : decode cX1_choosePlaces 125 = .ok (.return_, 1) := by decide +kernel
theorem dX1_gather_0 : decode cX1_gather 0 = .ok (.aload_n 0, 1) := by decide +kernel
theorem dX1_gather_1 : decode cX1_gather 1 = .ok (.getfield 168, 3) := by decide +kernel
theorem dX1_gather_4 : decode cX1_gather 4 = .ok (.aload_n 0, 1) := by decide +kernel
theorem dX1_gather_5 : decode cX1_gather 5 = .ok (.getfield 23, 3) := by decide +kernel
theorem dX1_gather_8 : decode cX1_gather 8 = .ok (.arraylength, 1) := by decide +kernel
theorem dX1_gather_9 : decode cX1_gather 9 = .ok (.if_icmp .ge 28, 3) := by decide +kernel
theorem dX1_gather_12 : decode cX1_gather 12 = .ok (.aload_n 0, 1) := by decide +kernel
theorem dX1_gather_13 : decode cX1_gather 13 = .ok (.getfield 23, 3) := by decide +kernel
theorem dX1_gather_16 : decode cX1_gather 16 = .ok (.aload_n 0, 1) := by decide +kernel
theorem dX1_gather_17 : decode cX1_gather 17 = .ok (.getfield 168, 3) := by decide +kernel
theorem dX1_gather_20 : decode cX1_gather 20 = .ok (.bipush 32, 2) := by decide +kernel
theorem dX1_gather_22 : decode cX1_gather 22 = .ok (.iload_n 1, 1) := by decide +kernel
theorem dX1_gather_23 : decode cX1_gather 23 = .ok (.imul, 1) := by decide +kernel
theorem dX1_gather_24 : decode cX1_gather 24 = .ok (.iload_n 2, 1) := by decide +kernel
theorem dX1_gather_25 : decode cX1_gather 25 = .ok (.iadd, 1) := by decide +kernel
theorem dX1_gather_26 : decode cX1_gather 26 = .ok (.iastore, 1) := by decide +kernel
theorem dX1_gather_27 : decode cX1_gather 27 = .ok (.aload_n 0, 1) := by decide +kernel
theorem dX1_gather_28 : decode cX1_gather 28 = .ok (.dup, 1) := by decide +kernel
theorem dX1_gather_29 : decode cX1_gather 29 = .ok (.getfield 168, 3) := by decide +kernel
theorem dX1_gather_32 : decode cX1_gather 32 = .ok (.iconst 1, 1) := by decide +kernel
theorem dX1_gather_33 : decode cX1_gather 33 = .ok (.iadd, 1) := by decide +kernel
theorem dX1_gather_34 : decode cX1_gather 34 = .ok (.putfield 168, 3) := by decide +kernel
theorem dX1_gather_37 : decode cX1_gather 37 = .ok (.return_, 1) := by decide +kernel
theorem dX1_keepChosen_0 : decode cX1_keepChosen 0 = .ok (.iconst 0, 1) := by decide +kernel
theorem dX1_keepChosen_1 : decode cX1_keepChosen 1 = .ok (.istore_n 1, 1) := by decide +kernel
theorem dX1_keepChosen_2 : decode cX1_keepChosen 2 = .ok (.iload_n 1, 1) := by decide +kernel
theorem dX1_keepChosen_3 : decode cX1_keepChosen 3 = .ok (.aload_n 0, 1) := by decide +kernel
theorem dX1_keepChosen_4 : decode cX1_keepChosen 4 = .ok (.getfield 168, 3) := by decide +kernel
theorem dX1_keepChosen_7 : decode cX1_keepChosen 7 = .ok (.if_icmp .ge 52, 3) := by decide +kernel
theorem dX1_keepChosen_10 : decode cX1_keepChosen 10 = .ok (.aload_n 0, 1) := by decide +kernel
theorem dX1_keepChosen_11 : decode cX1_keepChosen 11 = .ok (.getfield 15, 3) := by decide +kernel
theorem dX1_keepChosen_14 : decode cX1_keepChosen 14 = .ok (.iload_n 1, 1) := by decide +kernel
theorem dX1_keepChosen_15 : decode cX1_keepChosen 15 = .ok (.aload_n 0, 1) := by decide +kernel
theorem dX1_keepChosen_16 : decode cX1_keepChosen 16 = .ok (.getfield 168, 3) := by decide +kernel
theorem dX1_keepChosen_19 : decode cX1_keepChosen 19 = .ok (.invokevirtual 185, 3) := by decide +kernel
theorem dX1_keepChosen_22 : decode cX1_keepChosen 22 = .ok (.ifCond .eq 31, 3) := by decide +kernel
theorem dX1_keepChosen_25 : decode cX1_keepChosen 25 = .ok (.aload_n 0, 1) := by decide +kernel
theorem dX1_keepChosen_26 : decode cX1_keepChosen 26 = .ok (.getfield 19, 3) := by decide +kernel
theorem dX1_keepChosen_29 : decode cX1_keepChosen 29 = .ok (.aload_n 0, 1) := by decide +kernel
theorem dX1_keepChosen_30 : decode cX1_keepChosen 30 = .ok (.getfield 23, 3) := by decide +kernel
theorem dX1_keepChosen_33 : decode cX1_keepChosen 33 = .ok (.iload_n 1, 1) := by decide +kernel
theorem dX1_keepChosen_34 : decode cX1_keepChosen 34 = .ok (.iaload, 1) := by decide +kernel
theorem dX1_keepChosen_35 : decode cX1_keepChosen 35 = .ok (.bipush 32, 2) := by decide +kernel
theorem dX1_keepChosen_37 : decode cX1_keepChosen 37 = .ok (.idiv, 1) := by decide +kernel
theorem dX1_keepChosen_38 : decode cX1_keepChosen 38 = .ok (.dup2, 1) := by decide +kernel
theorem dX1_keepChosen_39 : decode cX1_keepChosen 39 = .ok (.iaload, 1) := by decide +kernel
theorem dX1_keepChosen_40 : decode cX1_keepChosen 40 = .ok (.iconst 1, 1) := by decide +kernel
theorem dX1_keepChosen_41 : decode cX1_keepChosen 41 = .ok (.aload_n 0, 1) := by decide +kernel
theorem dX1_keepChosen_42 : decode cX1_keepChosen 42 = .ok (.getfield 23, 3) := by decide +kernel
theorem dX1_keepChosen_45 : decode cX1_keepChosen 45 = .ok (.iload_n 1, 1) := by decide +kernel
theorem dX1_keepChosen_46 : decode cX1_keepChosen 46 = .ok (.iaload, 1) := by decide +kernel
theorem dX1_keepChosen_47 : decode cX1_keepChosen 47 = .ok (.bipush 32, 2) := by decide +kernel
theorem dX1_keepChosen_49 : decode cX1_keepChosen 49 = .ok (.irem, 1) := by decide +kernel
theorem dX1_keepChosen_50 : decode cX1_keepChosen 50 = .ok (.ishl, 1) := by decide +kernel
theorem dX1_keepChosen_51 : decode cX1_keepChosen 51 = .ok (.ior, 1) := by decide +kernel
theorem dX1_keepChosen_52 : decode cX1_keepChosen 52 = .ok (.iastore, 1) := by decide +kernel
theorem dX1_keepChosen_53 : decode cX1_keepChosen 53 = .ok (.iinc 1 1, 3) := by decide +kernel
theorem dX1_keepChosen_56 : decode cX1_keepChosen 56 = .ok (.goto (-54), 3) := by decide +kernel
theorem dX1_keepChosen_59 : decode cX1_keepChosen 59 = .ok (.aload_n 0, 1) := by decide +kernel
theorem dX1_keepChosen_60 : decode cX1_keepChosen 60 = .ok (.iconst 0, 1) := by decide +kernel
theorem dX1_keepChosen_61 : decode cX1_keepChosen 61 = .ok (.putfield 168, 3) := by decide +kernel
theorem dX1_keepChosen_64 : decode cX1_keepChosen 64 = .ok (.return_, 1) := by decide +kernel
theorem dX1_cutEnds_0 : decode cX1_cutEnds 0 = .ok (.aload_n 0, 1) := by decide +kernel
theorem dX1_cutEnds_1 : decode cX1_cutEnds 1 = .ok (.getfield 26, 3) := by decide +kernel
theorem dX1_cutEnds_4 : decode cX1_cutEnds 4 = .ok (.invokestatic 46, 3) := by decide +kernel
theorem dX1_cutEnds_7 : decode cX1_cutEnds 7 = .ok (.istore_n 3, 1) := by decide +kernel
theorem dX1_cutEnds_8 : decode cX1_cutEnds 8 = .ok (.aload_n 0, 1) := by decide +kernel
theorem dX1_cutEnds_9 : decode cX1_cutEnds 9 = .ok (.getfield 15, 3) := by decide +kernel
theorem dX1_cutEnds_12 : decode cX1_cutEnds 12 = .ok (.getfield 66, 3) := by decide +kernel
theorem dX1_cutEnds_15 : decode cX1_cutEnds 15 = .ok (.invokestatic 46, 3) := by decide +kernel
theorem dX1_cutEnds_18 : decode cX1_cutEnds 18 = .ok (.istore 4, 2) := by decide +kernel
theorem dX1_cutEnds_20 : decode cX1_cutEnds 20 = .ok (.aload_n 0, 1) := by decide +kernel
theorem dX1_cutEnds_21 : decode cX1_cutEnds 21 = .ok (.getfield 15, 3) := by decide +kernel
theorem dX1_cutEnds_24 : decode cX1_cutEnds 24 = .ok (.getfield 188, 3) := by decide +kernel
theorem dX1_cutEnds_27 : decode cX1_cutEnds 27 = .ok (.istore 5, 2) := by decide +kernel
theorem dX1_cutEnds_29 : decode cX1_cutEnds 29 = .ok (.iload_n 1, 1) := by decide +kernel
theorem dX1_cutEnds_30 : decode cX1_cutEnds 30 = .ok (.istore 6, 2) := by decide +kernel
theorem dX1_cutEnds_32 : decode cX1_cutEnds 32 = .ok (.iload 6, 2) := by decide +kernel
theorem dX1_cutEnds_34 : decode cX1_cutEnds 34 = .ok (.iload_n 2, 1) := by decide +kernel
theorem dX1_cutEnds_35 : decode cX1_cutEnds 35 = .ok (.if_icmp .gt 93, 3) := by decide +kernel
theorem dX1_cutEnds_38 : decode cX1_cutEnds 38 = .ok (.iload 6, 2) := by decide +kernel
theorem dX1_cutEnds_40 : decode cX1_cutEnds 40 = .ok (.iload_n 3, 1) := by decide +kernel
theorem dX1_cutEnds_41 : decode cX1_cutEnds 41 = .ok (.if_icmp .lt 10, 3) := by decide +kernel
theorem dX1_cutEnds_44 : decode cX1_cutEnds 44 = .ok (.iload 6, 2) := by decide +kernel
theorem dX1_cutEnds_46 : decode cX1_cutEnds 46 = .ok (.iload 4, 2) := by decide +kernel
theorem dX1_cutEnds_48 : decode cX1_cutEnds 48 = .ok (.if_icmp .le 7, 3) := by decide +kernel
theorem dX1_cutEnds_51 : decode cX1_cutEnds 51 = .ok (.iconst 1, 1) := by decide +kernel
theorem dX1_cutEnds_52 : decode cX1_cutEnds 52 = .ok (.goto 4, 3) := by decide +kernel
theorem dX1_cutEnds_55 : decode cX1_cutEnds 55 = .ok (.iconst 0, 1) := by decide +kernel
theorem dX1_cutEnds_56 : decode cX1_cutEnds 56 = .ok (.istore 7, 2) := by decide +kernel
theorem dX1_cutEnds_58 : decode cX1_cutEnds 58 = .ok (.iload 7, 2) := by decide +kernel
theorem dX1_cutEnds_60 : decode cX1_cutEnds 60 = .ok (.ifCond .eq 7, 3) := by decide +kernel
theorem dX1_cutEnds_63 : decode cX1_cutEnds 63 = .ok (.iconst 0, 1) := by decide +kernel
theorem dX1_cutEnds_64 : decode cX1_cutEnds 64 = .ok (.goto 27, 3) := by decide +kernel
theorem dX1_cutEnds_67 : decode cX1_cutEnds 67 = .ok (.aload_n 0, 1) := by decide +kernel
theorem dX1_cutEnds_68 : decode cX1_cutEnds 68 = .ok (.getfield 19, 3) := by decide +kernel
theorem dX1_cutEnds_71 : decode cX1_cutEnds 71 = .ok (.iload 6, 2) := by decide +kernel
theorem dX1_cutEnds_73 : decode cX1_cutEnds 73 = .ok (.iaload, 1) := by decide +kernel
theorem dX1_cutEnds_74 : decode cX1_cutEnds 74 = .ok (.iload 6, 2) := by decide +kernel
theorem dX1_cutEnds_76 : decode cX1_cutEnds 76 = .ok (.aload_n 0, 1) := by decide +kernel
theorem dX1_cutEnds_77 : decode cX1_cutEnds 77 = .ok (.getfield 26, 3) := by decide +kernel
theorem dX1_cutEnds_80 : decode cX1_cutEnds 80 = .ok (.aload_n 0, 1) := by decide +kernel
theorem dX1_cutEnds_81 : decode cX1_cutEnds 81 = .ok (.getfield 15, 3) := by decide +kernel
theorem dX1_cutEnds_84 : decode cX1_cutEnds 84 = .ok (.getfield 66, 3) := by decide +kernel
theorem dX1_cutEnds_87 : decode cX1_cutEnds 87 = .ok (.invokestatic 191, 3) := by decide +kernel
theorem dX1_cutEnds_90 : decode cX1_cutEnds 90 = .ok (.iand, 1) := by decide +kernel
theorem dX1_cutEnds_91 : decode cX1_cutEnds 91 = .ok (.istore 8, 2) := by decide +kernel
theorem dX1_cutEnds_93 : decode cX1_cutEnds 93 = .ok (.aload_n 0, 1) := by decide +kernel
theorem dX1_cutEnds_94 : decode cX1_cutEnds 94 = .ok (.getfield 19, 3) := by decide +kernel
theorem dX1_cutEnds_97 : decode cX1_cutEnds 97 = .ok (.iload 6, 2) := by decide +kernel
theorem dX1_cutEnds_99 : decode cX1_cutEnds 99 = .ok (.iload 8, 2) := by decide +kernel
theorem dX1_cutEnds_101 : decode cX1_cutEnds 101 = .ok (.iload 5, 2) := by decide +kernel
theorem dX1_cutEnds_103 : decode cX1_cutEnds 103 = .ok (.invokestatic 195, 3) := by decide +kernel
theorem dX1_cutEnds_106 : decode cX1_cutEnds 106 = .ok (.iastore, 1) := by decide +kernel
theorem dX1_cutEnds_107 : decode cX1_cutEnds 107 = .ok (.iload 5, 2) := by decide +kernel
theorem dX1_cutEnds_109 : decode cX1_cutEnds 109 = .ok (.aload_n 0, 1) := by decide +kernel
theorem dX1_cutEnds_110 : decode cX1_cutEnds 110 = .ok (.getfield 19, 3) := by decide +kernel
theorem dX1_cutEnds_113 : decode cX1_cutEnds 113 = .ok (.iload 6, 2) := by decide +kernel
theorem dX1_cutEnds_115 : decode cX1_cutEnds 115 = .ok (.iaload, 1) := by decide +kernel
theorem dX1_cutEnds_116 : decode cX1_cutEnds 116 = .ok (.invokestatic 171, 3) := by decide +kernel
theorem dX1_cutEnds_119 : decode cX1_cutEnds 119 = .ok (.isub, 1) := by decide +kernel
theorem dX1_cutEnds_120 : decode cX1_cutEnds 120 = .ok (.istore 5, 2) := by decide +kernel
theorem dX1_cutEnds_122 : decode cX1_cutEnds 122 = .ok (.iinc 6 1, 3) := by decide +kernel
theorem dX1_cutEnds_125 : decode cX1_cutEnds 125 = .ok (.goto (-93), 3) := by decide +kernel
theorem dX1_cutEnds_128 : decode cX1_cutEnds 128 = .ok (.return_, 1) := by decide +kernel
theorem dX2_periodOf_0 : decode cX2_periodOf 0 = .ok (.aload_n 0, 1) := by decide +kernel
theorem dX2_periodOf_1 : decode cX2_periodOf 1 = .ok (.getstatic 5, 3) := by decide +kernel
theorem dX2_periodOf_4 : decode cX2_periodOf 4 = .ok (.if_acmp .ne 5, 3) := by decide +kernel
theorem dX2_periodOf_7 : decode cX2_periodOf 7 = .ok (.iload_n 2, 1) := by decide +kernel
theorem dX2_periodOf_8 : decode cX2_periodOf 8 = .ok (.ireturn, 1) := by decide +kernel
theorem dX2_periodOf_9 : decode cX2_periodOf 9 = .ok (.aload_n 0, 1) := by decide +kernel
theorem dX2_periodOf_10 : decode cX2_periodOf 10 = .ok (.getstatic 9, 3) := by decide +kernel
theorem dX2_periodOf_13 : decode cX2_periodOf 13 = .ok (.if_acmp .ne 8, 3) := by decide +kernel
theorem dX2_periodOf_16 : decode cX2_periodOf 16 = .ok (.iload_n 2, 1) := by decide +kernel
theorem dX2_periodOf_17 : decode cX2_periodOf 17 = .ok (.bipush 7, 2) := by decide +kernel
theorem dX2_periodOf_19 : decode cX2_periodOf 19 = .ok (.idiv, 1) := by decide +kernel
theorem dX2_periodOf_20 : decode cX2_periodOf 20 = .ok (.ireturn, 1) := by decide +kernel
theorem dX2_periodOf_21 : decode cX2_periodOf 21 = .ok (.aload_n 0, 1) := by decide +kernel
theorem dX2_periodOf_22 : decode cX2_periodOf 22 = .ok (.getstatic 12, 3) := by decide +kernel
theorem dX2_periodOf_25 : decode cX2_periodOf 25 = .ok (.if_acmp .ne 7, 3) := by decide +kernel
theorem dX2_periodOf_28 : decode cX2_periodOf 28 = .ok (.iload_n 1, 1) := by decide +kernel
theorem dX2_periodOf_29 : decode cX2_periodOf 29 = .ok (.goto 7, 3) := by decide +kernel
theorem dX2_periodOf_32 : decode cX2_periodOf 32 = .ok (.iload_n 1, 1) := by decide +kernel
theorem dX2_periodOf_33 : decode cX2_periodOf 33 = .ok (.bipush 12, 2) := by decide +kernel
theorem dX2_periodOf_35 : decode cX2_periodOf 35 = .ok (.idiv, 1) := by decide +kernel
theorem dX2_periodOf_36 : decode cX2_periodOf 36 = .ok (.ireturn, 1) := by decide +kernel
theorem dX3_allows_0 : decode cX3_allows 0 = .ok (.iload_n 1, 1) := by decide +kernel
theorem dX3_allows_1 : decode cX3_allows 1 = .ok (.aload_n 0, 1) := by decide +kernel
theorem dX3_allows_2 : decode cX3_allows 2 = .ok (.getfield 61, 3) := by decide +kernel
theorem dX3_allows_5 : decode cX3_allows 5 = .ok (.if_icmp .lt 19, 3) := by decide +kernel
theorem dX3_allows_8 : decode cX3_allows 8 = .ok (.iload_n 1, 1) := by decide +kernel
theorem dX3_allows_9 : decode cX3_allows 9 = .ok (.aload_n 0, 1) := by decide +kernel
theorem dX3_allows_10 : decode cX3_allows 10 = .ok (.getfield 64, 3) := by decide +kernel
theorem dX3_allows_13 : decode cX3_allows 13 = .ok (.if_icmp .gt 11, 3) := by decide +kernel
theorem dX3_allows_16 : decode cX3_allows 16 = .ok (.iload_n 1, 1) := by decide +kernel
theorem dX3_allows_17 : decode cX3_allows 17 = .ok (.ifCond .eq 7, 3) := by decide +kernel
theorem dX3_allows_20 : decode cX3_allows 20 = .ok (.iconst 1, 1) := by decide +kernel
theorem dX3_allows_21 : decode cX3_allows 21 = .ok (.goto 4, 3) := by decide +kernel
theorem dX3_allows_24 : decode cX3_allows 24 = .ok (.iconst 0, 1) := by decide +kernel
theorem dX3_allows_25 : decode cX3_allows 25 = .ok (.ireturn, 1) := by decide +kernel
theorem dX4_init_0 : decode cX4_init 0 = .ok (.aload_n 0, 1) := by decide +kernel
theorem dX4_init_1 : decode cX4_init 1 = .ok (.invokespecial 3, 3) := by decide +kernel
theorem dX4_init_4 : decode cX4_init 4 = .ok (.aload_n 0, 1) := by decide +kernel
theorem dX4_init_5 : decode cX4_init 5 = .ok (.aload_n 1, 1) := by decide +kernel
theorem dX4_init_6 : decode cX4_init 6 = .ok (.putfield 9, 3) := by decide +kernel
theorem dX4_init_9 : decode cX4_init 9 = .ok (.aload_n 0, 1) := by decide +kernel
theorem dX4_init_10 : decode cX4_init 10 = .ok (.iconst 0, 1) := by decide +kernel
theorem dX4_init_11 : decode cX4_init 11 = .ok (.newarray .char, 2) := by decide +kernel
theorem dX4_init_13 : decode cX4_init 13 = .ok (.putfield 15, 3) := by decide +kernel
theorem dX4_init_16 : decode cX4_init 16 = .ok (.aload_n 0, 1) := by decide +kernel
theorem dX4_init_17 : decode cX4_init 17 = .ok (.iconst 0, 1) := by decide +kernel
theorem dX4_init_18 : decode cX4_init 18 = .ok (.putfield 19, 3) := by decide +kernel
theorem dX4_init_21 : decode cX4_init 21 = .ok (.aload_n 0, 1) := by decide +kernel
theorem dX4_init_22 : decode cX4_init 22 = .ok (.iconst (-1), 1) := by decide +kernel
theorem dX4_init_23 : decode cX4_init 23 = .ok (.putfield 23, 3) := by decide +kernel
theorem dX4_init_26 : decode cX4_init 26 = .ok (.return_, 1) := by decide +kernel
theorem dX4_readRule_0 : decode cX4_readRule 0 = .ok (.aload_n 0, 1) := by decide +kernel
theorem dX4_readRule_1 : decode cX4_readRule 1 = .ok (.aload_n 1, 1) := by decide +kernel
theorem dX4_readRule_2 : decode cX4_readRule 2 = .ok (.putfield 15, 3) := by decide +kernel
theorem dX4_readRule_5 : decode cX4_readRule 5 = .ok (.aload_n 0, 1) := by decide +kernel
theorem dX4_readRule_6 : decode cX4_readRule 6 = .ok (.iload_n 2, 1) := by decide +kernel
theorem dX4_readRule_7 : decode cX4_readRule 7 = .ok (.aload_n 1, 1) := by decide +kernel
theorem dX4_readRule_8 : decode cX4_readRule 8 = .ok (.arraylength, 1) := by decide +kernel
theorem dX4_readRule_9 : decode cX4_readRule 9 = .ok (.invokestatic 26, 3) := by decide +kernel
theorem dX4_readRule_12 : decode cX4_readRule 12 = .ok (.putfield 32, 3) := by decide +kernel
theorem dX4_readRule_15 : decode cX4_readRule 15 = .ok (.aload_n 0, 1) := by decide +kernel
theorem dX4_readRule_16 : decode cX4_readRule 16 = .ok (.iconst 0, 1) := by decide +kernel
theorem dX4_readRule_17 : decode cX4_readRule 17 = .ok (.putfield 35, 3) := by decide +kernel
theorem dX4_readRule_20 : decode cX4_readRule 20 = .ok (.aload_n 0, 1) := by decide +kernel
theorem dX4_readRule_21 : decode cX4_readRule 21 = .ok (.iconst 0, 1) := by decide +kernel
theorem dX4_readRule_22 : decode cX4_readRule 22 = .ok (.putfield 19, 3) := by decide +kernel
theorem dX4_readRule_25 : decode cX4_readRule 25 = .ok (.aload_n 0, 1) := by decide +kernel
theorem dX4_readRule_26 : decode cX4_readRule 26 = .ok (.iconst (-1), 1) := by decide +kernel
theorem dX4_readRule_27 : decode cX4_readRule 27 = .ok (.putfield 23, 3) := by decide +kernel
theorem dX4_readRule_30 : decode cX4_readRule 30 = .ok (.aload_n 0, 1) := by decide +kernel
theorem dX4_readRule_31 : decode cX4_readRule 31 = .ok (.getfield 9, 3) := by decide +kernel
theorem dX4_readRule_34 : decode cX4_readRule 34 = .ok (.invokevirtual 38, 3) := by decide +kernel
theorem dX4_readRule_37 : decode cX4_readRule 37 = .ok (.aload_n 0, 1) := by decide +kernel
theorem dX4_readRule_38 : decode cX4_readRule 38 = .ok (.invokevirtual 43, 3) := by decide +kernel
theorem dX4_readRule_41 : decode cX4_readRule 41 = .ok (.iconst 0, 1) := by decide +kernel
theorem dX4_readRule_42 : decode cX4_readRule 42 = .ok (.istore_n 3, 1) := by decide +kernel
theorem dX4_readRule_43 : decode cX4_readRule 43 = .ok (.iload_n 3, 1) := by decide +kernel
theorem dX4_readRule_44 : decode cX4_readRule 44 = .ok (.sipush 200, 3) := by decide +kernel
theorem dX4_readRule_47 : decode cX4_readRule 47 = .ok (.if_icmp .ge 37, 3) := by decide +kernel
theorem dX4_readRule_50 : decode cX4_readRule 50 = .ok (.aload_n 0, 1) := by decide +kernel
theorem dX4_readRule_51 : decode cX4_readRule 51 = .ok (.getfield 19, 3) := by decide +kernel
theorem dX4_readRule_54 : decode cX4_readRule 54 = .ok (.ifCond .ne 30, 3) := by decide +kernel
theorem dX4_readRule_57 : decode cX4_readRule 57 = .ok (.aload_n 0, 1) := by decide +kernel
theorem dX4_readRule_58 : decode cX4_readRule 58 = .ok (.getfield 35, 3) := by decide +kernel
theorem dX4_readRule_61 : decode cX4_readRule 61 = .ok (.aload_n 0, 1) := by decide +kernel
theorem dX4_readRule_62 : decode cX4_readRule 62 = .ok (.getfield 32, 3) := by decide +kernel
theorem dX4_readRule_65 : decode cX4_readRule 65 = .ok (.if_icmp .ge 19, 3) := by decide +kernel
theorem dX4_readRule_68 : decode cX4_readRule 68 = .ok (.aload_n 0, 1) := by decide +kernel
theorem dX4_readRule_69 : decode cX4_readRule 69 = .ok (.bipush 59, 2) := by decide +kernel
theorem dX4_readRule_71 : decode cX4_readRule 71 = .ok (.invokevirtual 46, 3) := by decide +kernel
theorem dX4_readRule_74 : decode cX4_readRule 74 = .ok (.aload_n 0, 1) := by decide +kernel
theorem dX4_readRule_75 : decode cX4_readRule 75 = .ok (.invokevirtual 43, 3) := by decide +kernel
theorem dX4_readRule_78 : decode cX4_readRule 78 = .ok (.iinc 3 1, 3) := by decide +kernel
theorem dX4_readRule_81 : decode cX4_readRule 81 = .ok (.goto (-38), 3) := by decide +kernel
theorem dX4_readRule_84 : decode cX4_readRule 84 = .ok (.aload_n 0, 1) := by decide +kernel
theorem dX4_readRule_85 : decode cX4_readRule 85 = .ok (.getfield 9, 3) := by decide +kernel
theorem dX4_readRule_88 : decode cX4_readRule 88 = .ok (.invokevirtual 50, 3) := by decide +kernel
theorem dX4_readRule_91 : decode cX4_readRule 91 = .ok (.ifCond .ne 12, 3) := by decide +kernel
theorem dX4_readRule_94 : decode cX4_readRule 94 = .ok (.aload_n 0, 1) := by decide +kernel
theorem dX4_readRule_95 : decode cX4_readRule 95 = .ok (.iconst 4, 1) := by decide +kernel
theorem dX4_readRule_96 : decode cX4_readRule 96 = .ok (.aload_n 0, 1) := by decide +kernel
theorem dX4_readRule_97 : decode cX4_readRule 97 = .ok (.getfield 32, 3) := by decide +kernel
theorem dX4_readRule_100 : decode cX4_readRule 100 = .ok (.invokevirtual 54, 3) := by decide +kernel
theorem dX4_readRule_103 : decode cX4_readRule 103 = .ok (.return_, 1) := by decide +kernel
theorem dX4_fail_0 : decode cX4_fail 0 = .ok (.aload_n 0, 1) := by decide +kernel
theorem dX4_fail_1 : decode cX4_fail 1 = .ok (.getfield 19, 3) := by decide +kernel
theorem dX4_fail_4 : decode cX4_fail 4 = .ok (.ifCond .ne 13, 3) := by decide +kernel
theorem dX4_fail_7 : decode cX4_fail 7 = .ok (.aload_n 0, 1) := by decide +kernel
theorem dX4_fail_8 : decode cX4_fail 8 = .ok (.iload_n 1, 1) := by decide +kernel
theorem dX4_fail_9 : decode cX4_fail 9 = .ok (.putfield 19, 3) := by decide +kernel
theorem dX4_fail_12 : decode cX4_fail 12 = .ok (.aload_n 0, 1) := by decide +kernel
theorem dX4_fail_13 : decode cX4_fail 13 = .ok (.iload_n 2, 1) := by decide +kernel
theorem dX4_fail_14 : decode cX4_fail 14 = .ok (.putfield 23, 3) := by decide +kernel
theorem dX4_fail_17 : decode cX4_fail 17 = .ok (.return_, 1) := by decide +kernel
theorem dX4_sees_0 : decode cX4_sees 0 = .ok (.aload_n 0, 1) := by decide +kernel
theorem dX4_sees_1 : decode cX4_sees 1 = .ok (.getfield 35, 3) := by decide +kernel
theorem dX4_sees_4 : decode cX4_sees 4 = .ok (.aload_n 0, 1) := by decide +kernel
theorem dX4_sees_5 : decode cX4_sees 5 = .ok (.getfield 32, 3) := by decide +kernel
theorem dX4_sees_8 : decode cX4_sees 8 = .ok (.if_icmp .ge 20, 3) := by decide +kernel
theorem dX4_sees_11 : decode cX4_sees 11 = .ok (.aload_n 0, 1) := by decide +kernel
theorem dX4_sees_12 : decode cX4_sees 12 = .ok (.getfield 15, 3) := by decide +kernel
theorem dX4_sees_15 : decode cX4_sees 15 = .ok (.aload_n 0, 1) := by decide +kernel
theorem dX4_sees_16 : decode cX4_sees 16 = .ok (.getfield 35, 3) := by decide +kernel
theorem dX4_sees_19 : decode cX4_sees 19 = .ok (.caload, 1) := by decide +kernel
theorem dX4_sees_20 : decode cX4_sees 20 = .ok (.iload_n 1, 1) := by decide +kernel
theorem dX4_sees_21 : decode cX4_sees 21 = .ok (.if_icmp .ne 7, 3) := by decide +kernel
theorem dX4_sees_24 : decode cX4_sees 24 = .ok (.iconst 1, 1) := by decide +kernel
theorem dX4_sees_25 : decode cX4_sees 25 = .ok (.goto 4, 3) := by decide +kernel
theorem dX4_sees_28 : decode cX4_sees 28 = .ok (.iconst 0, 1) := by decide +kernel
theorem dX4_sees_29 : decode cX4_sees 29 = .ok (.ireturn, 1) := by decide +kernel
theorem dX4_seesLetter_0 : decode cX4_seesLetter 0 = .ok (.aload_n 0, 1) := by decide +kernel
theorem dX4_seesLetter_1 : decode cX4_seesLetter 1 = .ok (.getfield 35, 3) := by decide +kernel
theorem dX4_seesLetter_4 : decode cX4_seesLetter 4 = .ok (.aload_n 0, 1) := by decide +kernel
theorem dX4_seesLetter_5 : decode cX4_seesLetter 5 = .ok (.getfield 32, 3) := by decide +kernel
theorem dX4_seesLetter_8 : decode cX4_seesLetter 8 = .ok (.if_icmp .ge 35, 3) := by decide +kernel
theorem dX4_seesLetter_11 : decode cX4_seesLetter 11 = .ok (.aload_n 0, 1) := by decide +kernel
theorem dX4_seesLetter_12 : decode cX4_seesLetter 12 = .ok (.getfield 15, 3) := by decide +kernel
theorem dX4_seesLetter_15 : decode cX4_seesLetter 15 = .ok (.aload_n 0, 1) := by decide +kernel
theorem dX4_seesLetter_16 : decode cX4_seesLetter 16 = .ok (.getfield 35, 3) := by decide +kernel
theorem dX4_seesLetter_19 : decode cX4_seesLetter 19 = .ok (.caload, 1) := by decide +kernel
theorem dX4_seesLetter_20 : decode cX4_seesLetter 20 = .ok (.bipush 65, 2) := by decide +kernel
theorem dX4_seesLetter_22 : decode cX4_seesLetter 22 = .ok (.if_icmp .lt 21, 3) := by decide +kernel
theorem dX4_seesLetter_25 : decode cX4_seesLetter 25 = .ok (.aload_n 0, 1) := by decide +kernel
theorem dX4_seesLetter_26 : decode cX4_seesLetter 26 = .ok (.getfield 15, 3) := by decide +kernel
theorem dX4_seesLetter_29 : decode cX4_seesLetter 29 = .ok (.aload_n 0, 1) := by decide +kernel
theorem dX4_seesLetter_30 : decode cX4_seesLetter 30 = .ok (.getfield 35, 3) := by decide +kernel
theorem dX4_seesLetter_33 : decode cX4_seesLetter 33 = .ok (.caload, 1) := by decide +kernel
theorem dX4_seesLetter_34 : decode cX4_seesLetter 34 = .ok (.bipush 90, 2) := by decide +kernel
theorem dX4_seesLetter_36 : decode cX4_seesLetter 36 = .ok (.if_icmp .gt 7, 3) := by decide +kernel
theorem dX4_seesLetter_39 : decode cX4_seesLetter 39 = .ok (.iconst 1, 1) := by decide +kernel
theorem dX4_seesLetter_40 : decode cX4_seesLetter 40 = .ok (.goto 4, 3) := by decide +kernel
theorem dX4_seesLetter_43 : decode cX4_seesLetter 43 = .ok (.iconst 0, 1) := by decide +kernel
theorem dX4_seesLetter_44 : decode cX4_seesLetter 44 = .ok (.ireturn, 1) := by decide +kernel
theorem dX4_seesFigure_0 : decode cX4_seesFigure 0 = .ok (.aload_n 0, 1) := by decide +kernel
theorem dX4_seesFigure_1 : decode cX4_seesFigure 1 = .ok (.getfield 35, 3) := by decide +kernel
theorem dX4_seesFigure_4 : decode cX4_seesFigure 4 = .ok (.aload_n 0, 1) := by decide +kernel
theorem dX4_seesFigure_5 : decode cX4_seesFigure 5 = .ok (.getfield 32, 3) := by decide +kernel
theorem dX4_seesFigure_8 : decode cX4_seesFigure 8 = .ok (.if_icmp .ge 35, 3) := by decide +kernel
theorem dX4_seesFigure_11 : decode cX4_seesFigure 11 = .ok (.aload_n 0, 1) := by decide +kernel
theorem dX4_seesFigure_12 : decode cX4_seesFigure 12 = .ok (.getfield 15, 3) := by decide +kernel
theorem dX4_seesFigure_15 : decode cX4_seesFigure 15 = .ok (.aload_n 0, 1) := by decide +kernel
theorem dX4_seesFigure_16 : decode cX4_seesFigure 16 = .ok (.getfield 35, 3) := by decide +kernel
theorem dX4_seesFigure_19 : decode cX4_seesFigure 19 = .ok (.caload, 1) := by decide +kernel
theorem dX4_seesFigure_20 : decode cX4_seesFigure 20 = .ok (.bipush 48, 2) := by decide +kernel
theorem dX4_seesFigure_22 : decode cX4_seesFigure 22 = .ok (.if_icmp .lt 21, 3) := by decide +kernel
theorem dX4_seesFigure_25 : decode cX4_seesFigure 25 = .ok (.aload_n 0, 1) := by decide +kernel
theorem dX4_seesFigure_26 : decode cX4_seesFigure 26 = .ok (.getfield 15, 3) := by decide +kernel
theorem dX4_seesFigure_29 : decode cX4_seesFigure 29 = .ok (.aload_n 0, 1) := by decide +kernel
theorem dX4_seesFigure_30 : decode cX4_seesFigure 30 = .ok (.getfield 35, 3) := by decide +kernel
theorem dX4_seesFigure_33 : decode cX4_seesFigure 33 = .ok (.caload, 1) := by decide +kernel
theorem dX4_seesFigure_34 : decode cX4_seesFigure 34 = .ok (.bipush 57, 2) := by decide +kernel
theorem dX4_seesFigure_36 : decode cX4_seesFigure 36 = .ok (.if_icmp .gt 7, 3) := by decide +kernel
theorem dX4_seesFigure_39 : decode cX4_seesFigure 39 = .ok (.iconst 1, 1) := by decide +kernel
theorem dX4_seesFigure_40 : decode cX4_seesFigure 40 = .ok (.goto 4, 3) := by decide +kernel
theorem dX4_seesFigure_43 : decode cX4_seesFigure 43 = .ok (.iconst 0, 1) := by decide +kernel
theorem dX4_seesFigure_44 : decode cX4_seesFigure 44 = .ok (.ireturn, 1) := by decide +kernel
theorem dX4_take_0 : decode cX4_take 0 = .ok (.aload_n 0, 1) := by decide +kernel
theorem dX4_take_1 : decode cX4_take 1 = .ok (.iload_n 1, 1) := by decide +kernel
theorem dX4_take_2 : decode cX4_take 2 = .ok (.invokevirtual 58, 3) := by decide +kernel
theorem dX4_take_5 : decode cX4_take 5 = .ok (.ifCond .eq 16, 3) := by decide +kernel
theorem dX4_take_8 : decode cX4_take 8 = .ok (.aload_n 0, 1) := by decide +kernel
theorem dX4_take_9 : decode cX4_take 9 = .ok (.dup, 1) := by decide +kernel
theorem dX4_take_10 : decode cX4_take 10 = .ok (.getfield 35, 3) := by decide +kernel
theorem dX4_take_13 : decode cX4_take 13 = .ok (.iconst 1, 1) := by decide +kernel
theorem dX4_take_14 : decode cX4_take 14 = .ok (.iadd, 1) := by decide +kernel
theorem dX4_take_15 : decode cX4_take 15 = .ok (.putfield 35, 3) := by decide +kernel
theorem dX4_take_18 : decode cX4_take 18 = .ok (.goto 12, 3) := by decide +kernel
theorem dX4_take_21 : decode cX4_take 21 = .ok (.aload_n 0, 1) := by decide +kernel
theorem dX4_take_22 : decode cX4_take 22 = .ok (.iconst 1, 1) := by decide +kernel
theorem dX4_take_23 : decode cX4_take 23 = .ok (.aload_n 0, 1) := by decide +kernel
theorem dX4_take_24 : decode cX4_take 24 = .ok (.getfield 35, 3) := by decide +kernel
theorem dX4_take_27 : decode cX4_take 27 = .ok (.invokevirtual 54, 3) := by decide +kernel
theorem dX4_take_30 : decode cX4_take 30 = .ok (.return_, 1) := by decide +kernel
theorem dX4_takeLetters_0 : decode cX4_takeLetters 0 = .ok (.aload_n 0, 1) := by decide +kernel
theorem dX4_takeLetters_1 : decode cX4_takeLetters 1 = .ok (.getfield 35, 3) := by decide +kernel
theorem dX4_takeLetters_4 : decode cX4_takeLetters 4 = .ok (.istore_n 2, 1) := by decide +kernel
theorem dX4_takeLetters_5 : decode cX4_takeLetters 5 = .ok (.iconst 0, 1) := by decide +kernel
theorem dX4_takeLetters_6 : decode cX4_takeLetters 6 = .ok (.istore_n 3, 1) := by decide +kernel
theorem dX4_takeLetters_7 : decode cX4_takeLetters 7 = .ok (.iload_n 3, 1) := by decide +kernel
theorem dX4_takeLetters_8 : decode cX4_takeLetters 8 = .ok (.iload_n 1, 1) := by decide +kernel
theorem dX4_takeLetters_9 : decode cX4_takeLetters 9 = .ok (.if_icmp .ge 26, 3) := by decide +kernel
theorem dX4_takeLetters_12 : decode cX4_takeLetters 12 = .ok (.aload_n 0, 1) := by decide +kernel
theorem dX4_takeLetters_13 : decode cX4_takeLetters 13 = .ok (.invokevirtual 62, 3) := by decide +kernel
theorem dX4_takeLetters_16 : decode cX4_takeLetters 16 = .ok (.ifCond .eq 19, 3) := by decide +kernel
theorem dX4_takeLetters_19 : decode cX4_takeLetters 19 = .ok (.aload_n 0, 1) := by decide +kernel
theorem dX4_takeLetters_20 : decode cX4_takeLetters 20 = .ok (.dup, 1) := by decide +kernel
theorem dX4_takeLetters_21 : decode cX4_takeLetters 21 = .ok (.getfield 35, 3) := by decide +kernel
theorem dX4_takeLetters_24 : decode cX4_takeLetters 24 = .ok (.iconst 1, 1) := by decide +kernel
theorem dX4_takeLetters_25 : decode cX4_takeLetters 25 = .ok (.iadd, 1) := by decide +kernel
theorem dX4_takeLetters_26 : decode cX4_takeLetters 26 = .ok (.putfield 35, 3) := by decide +kernel
theorem dX4_takeLetters_29 : decode cX4_takeLetters 29 = .ok (.iinc 3 1, 3) := by decide +kernel
theorem dX4_takeLetters_32 : decode cX4_takeLetters 32 = .ok (.goto (-25), 3) := by decide +kernel
theorem dX4_takeLetters_35 : decode cX4_takeLetters 35 = .ok (.aload_n 0, 1) := by decide +kernel
theorem dX4_takeLetters_36 : decode cX4_takeLetters 36 = .ok (.getfield 35, 3) := by decide +kernel
theorem dX4_takeLetters_39 : decode cX4_takeLetters 39 = .ok (.iload_n 2, 1) := by decide +kernel
theorem dX4_takeLetters_40 : decode cX4_takeLetters 40 = .ok (.if_icmp .ne 12, 3) := by decide +kernel
theorem dX4_takeLetters_43 : decode cX4_takeLetters 43 = .ok (.aload_n 0, 1) := by decide +kernel
theorem dX4_takeLetters_44 : decode cX4_takeLetters 44 = .ok (.iconst 1, 1) := by decide +kernel
theorem dX4_takeLetters_45 : decode cX4_takeLetters 45 = .ok (.aload_n 0, 1) := by decide +kernel
theorem dX4_takeLetters_46 : decode cX4_takeLetters 46 = .ok (.getfield 35, 3) := by decide +kernel
theorem dX4_takeLetters_49 : decode cX4_takeLetters 49 = .ok (.invokevirtual 54, 3) := by decide +kernel
theorem dX4_takeLetters_52 : decode cX4_takeLetters 52 = .ok (.iload_n 2, 1) := by decide +kernel
theorem dX4_takeLetters_53 : decode cX4_takeLetters 53 = .ok (.ireturn, 1) := by decide +kernel
theorem dX4_isWord_0 : decode cX4_isWord 0 = .ok (.aload_n 1, 1) := by decide +kernel
theorem dX4_isWord_1 : decode cX4_isWord 1 = .ok (.invokevirtual 65, 3) := by decide +kernel
theorem dX4_isWord_4 : decode cX4_isWord 4 = .ok (.aload_n 0, 1) := by decide +kernel
theorem dX4_isWord_5 : decode cX4_isWord 5 = .ok (.getfield 35, 3) := by decide +kernel
theorem dX4_isWord_8 : decode cX4_isWord 8 = .ok (.iload_n 2, 1) := by decide +kernel
theorem dX4_isWord_9 : decode cX4_isWord 9 = .ok (.isub, 1) := by decide +kernel
theorem dX4_isWord_10 : decode cX4_isWord 10 = .ok (.if_icmp .eq 5, 3) := by decide +kernel
theorem dX4_isWord_13 : decode cX4_isWord 13 = .ok (.iconst 0, 1) := by decide +kernel
theorem dX4_isWord_14 : decode cX4_isWord 14 = .ok (.ireturn, 1) := by decide +kernel
theorem dX4_isWord_15 : decode cX4_isWord 15 = .ok (.iconst 0, 1) := by decide +kernel
theorem dX4_isWord_16 : decode cX4_isWord 16 = .ok (.istore_n 3, 1) := by decide +kernel
theorem dX4_isWord_17 : decode cX4_isWord 17 = .ok (.iload_n 3, 1) := by decide +kernel
theorem dX4_isWord_18 : decode cX4_isWord 18 = .ok (.aload_n 1, 1) := by decide +kernel
theorem dX4_isWord_19 : decode cX4_isWord 19 = .ok (.invokevirtual 65, 3) := by decide +kernel
theorem dX4_isWord_22 : decode cX4_isWord 22 = .ok (.if_icmp .ge 27, 3) := by decide +kernel
theorem dX4_isWord_25 : decode cX4_isWord 25 = .ok (.aload_n 1, 1) := by decide +kernel
theorem dX4_isWord_26 : decode cX4_isWord 26 = .ok (.iload_n 3, 1) := by decide +kernel
theorem dX4_isWord_27 : decode cX4_isWord 27 = .ok (.invokevirtual 70, 3) := by decide +kernel
theorem dX4_isWord_30 : decode cX4_isWord 30 = .ok (.aload_n 0, 1) := by decide +kernel
theorem dX4_isWord_31 : decode cX4_isWord 31 = .ok (.getfield 15, 3) := by decide +kernel
theorem dX4_isWord_34 : decode cX4_isWord 34 = .ok (.iload_n 2, 1) := by decide +kernel
theorem dX4_isWord_35 : decode cX4_isWord 35 = .ok (.iload_n 3, 1) := by decide +kernel
theorem dX4_isWord_36 : decode cX4_isWord 36 = .ok (.iadd, 1) := by decide +kernel
theorem dX4_isWord_37 : decode cX4_isWord 37 = .ok (.caload, 1) := by decide +kernel
theorem dX4_isWord_38 : decode cX4_isWord 38 = .ok (.if_icmp .eq 5, 3) := by decide +kernel
theorem dX4_isWord_41 : decode cX4_isWord 41 = .ok (.iconst 0, 1) := by decide +kernel
theorem dX4_isWord_42 : decode cX4_isWord 42 = .ok (.ireturn, 1) := by decide +kernel
theorem dX4_isWord_43 : decode cX4_isWord 43 = .ok (.iinc 3 1, 3) := by decide +kernel
theorem dX4_isWord_46 : decode cX4_isWord 46 = .ok (.goto (-29), 3) := by decide +kernel
theorem dX4_isWord_49 : decode cX4_isWord 49 = .ok (.iconst 1, 1) := by decide +kernel
theorem dX4_isWord_50 : decode cX4_isWord 50 = .ok (.ireturn, 1) := by decide +kernel
theorem dX4_readPart_0 : decode cX4_readPart 0 = .ok (.aload_n 0, 1) := by decide +kernel
theorem dX4_readPart_1 : decode cX4_readPart 1 = .ok (.sipush 200, 3) := by decide +kernel
theorem dX4_readPart_4 : decode cX4_readPart 4 = .ok (.invokevirtual 74, 3) := by decide +kernel
theorem dX4_readPart_7 : decode cX4_readPart 7 = .ok (.istore_n 1, 1) := by decide +kernel
theorem dX4_readPart_8 : decode cX4_readPart 8 = .ok (.aload_n 0, 1) := by decide +kernel
theorem dX4_readPart_9 : decode cX4_readPart 9 = .ok (.iload_n 1, 1) := by decide +kernel
theorem dX4_readPart_10 : decode cX4_readPart 10 = .ok (.invokevirtual 78, 3) := by decide +kernel
theorem dX4_readPart_13 : decode cX4_readPart 13 = .ok (.astore_n 2, 1) := by decide +kernel
theorem dX4_readPart_14 : decode cX4_readPart 14 = .ok (.aload_n 2, 1) := by decide +kernel
theorem dX4_readPart_15 : decode cX4_readPart 15 = .ok (.ifnonnull 10, 3) := by decide +kernel
theorem dX4_readPart_18 : decode cX4_readPart 18 = .ok (.aload_n 0, 1) := by decide +kernel
theorem dX4_readPart_19 : decode cX4_readPart 19 = .ok (.iconst 1, 1) := by decide +kernel
theorem dX4_readPart_20 : decode cX4_readPart 20 = .ok (.iload_n 1, 1) := by decide +kernel
theorem dX4_readPart_21 : decode cX4_readPart 21 = .ok (.invokevirtual 54, 3) := by decide +kernel
theorem dX4_readPart_24 : decode cX4_readPart 24 = .ok (.return_, 1) := by decide +kernel
theorem dX4_readPart_25 : decode cX4_readPart 25 = .ok (.aload_n 0, 1) := by decide +kernel
theorem dX4_readPart_26 : decode cX4_readPart 26 = .ok (.getfield 9, 3) := by decide +kernel
theorem dX4_readPart_29 : decode cX4_readPart 29 = .ok (.aload_n 2, 1) := by decide +kernel
theorem dX4_readPart_30 : decode cX4_readPart 30 = .ok (.invokevirtual 82, 3) := by decide +kernel
theorem dX4_readPart_33 : decode cX4_readPart 33 = .ok (.ifCond .eq 9, 3) := by decide +kernel
theorem dX4_readPart_36 : decode cX4_readPart 36 = .ok (.aload_n 0, 1) := by decide +kernel
theorem dX4_readPart_37 : decode cX4_readPart 37 = .ok (.iconst 3, 1) := by decide +kernel
theorem dX4_readPart_38 : decode cX4_readPart 38 = .ok (.iload_n 1, 1) := by decide +kernel
theorem dX4_readPart_39 : decode cX4_readPart 39 = .ok (.invokevirtual 54, 3) := by decide +kernel
theorem dX4_readPart_42 : decode cX4_readPart 42 = .ok (.aload_n 0, 1) := by decide +kernel
theorem dX4_readPart_43 : decode cX4_readPart 43 = .ok (.getfield 9, 3) := by decide +kernel
theorem dX4_readPart_46 : decode cX4_readPart 46 = .ok (.dup, 1) := by decide +kernel
theorem dX4_readPart_47 : decode cX4_readPart 47 = .ok (.getfield 86, 3) := by decide +kernel
theorem dX4_readPart_50 : decode cX4_readPart 50 = .ok (.aload_n 2, 1) := by decide +kernel
theorem dX4_readPart_51 : decode cX4_readPart 51 = .ok (.getfield 89, 3) := by decide +kernel
theorem dX4_readPart_54 : decode cX4_readPart 54 = .ok (.ior, 1) := by decide +kernel
theorem dX4_readPart_55 : decode cX4_readPart 55 = .ok (.putfield 86, 3) := by decide +kernel
theorem dX4_readPart_58 : decode cX4_readPart 58 = .ok (.aload_n 0, 1) := by decide +kernel
theorem dX4_readPart_59 : decode cX4_readPart 59 = .ok (.bipush 61, 2) := by decide +kernel
theorem dX4_readPart_61 : decode cX4_readPart 61 = .ok (.invokevirtual 46, 3) := by decide +kernel
theorem dX4_readPart_64 : decode cX4_readPart 64 = .ok (.aload_n 0, 1) := by decide +kernel
theorem dX4_readPart_65 : decode cX4_readPart 65 = .ok (.aload_n 2, 1) := by decide +kernel
theorem dX4_readPart_66 : decode cX4_readPart 66 = .ok (.invokevirtual 94, 3) := by decide +kernel
theorem dX4_readPart_69 : decode cX4_readPart 69 = .ok (.iconst 0, 1) := by decide +kernel
theorem dX4_readPart_70 : decode cX4_readPart 70 = .ok (.istore_n 3, 1) := by decide +kernel
theorem dX4_readPart_71 : decode cX4_readPart 71 = .ok (.iload_n 3, 1) := by decide +kernel
theorem dX4_readPart_72 : decode cX4_readPart 72 = .ok (.sipush 200, 3) := by decide +kernel
theorem dX4_readPart_75 : decode cX4_readPart 75 = .ok (.if_icmp .ge 40, 3) := by decide +kernel
theorem dX4_readPart_78 : decode cX4_readPart 78 = .ok (.aload_n 2, 1) := by decide +kernel
theorem dX4_readPart_79 : decode cX4_readPart 79 = .ok (.getfield 98, 3) := by decide +kernel
theorem dX4_readPart_82 : decode cX4_readPart 82 = .ok (.ifCond .eq 33, 3) := by decide +kernel
theorem dX4_readPart_85 : decode cX4_readPart 85 = .ok (.aload_n 0, 1) := by decide +kernel
theorem dX4_readPart_86 : decode cX4_readPart 86 = .ok (.bipush 44, 2) := by decide +kernel
theorem dX4_readPart_88 : decode cX4_readPart 88 = .ok (.invokevirtual 58, 3) := by decide +kernel
theorem dX4_readPart_91 : decode cX4_readPart 91 = .ok (.ifCond .eq 24, 3) := by decide +kernel
theorem dX4_readPart_94 : decode cX4_readPart 94 = .ok (.aload_n 0, 1) := by decide +kernel
theorem dX4_readPart_95 : decode cX4_readPart 95 = .ok (.dup, 1) := by decide +kernel
theorem dX4_readPart_96 : decode cX4_readPart 96 = .ok (.getfield 35, 3) := by decide +kernel
theorem dX4_readPart_99 : decode cX4_readPart 99 = .ok (.iconst 1, 1) := by decide +kernel
theorem dX4_readPart_100 : decode cX4_readPart 100 = .ok (.iadd, 1) := by decide +kernel
theorem dX4_readPart_101 : decode cX4_readPart 101 = .ok (.putfield 35, 3) := by decide +kernel
theorem dX4_readPart_104 : decode cX4_readPart 104 = .ok (.aload_n 0, 1) := by decide +kernel
theorem dX4_readPart_105 : decode cX4_readPart 105 = .ok (.aload_n 2, 1) := by decide +kernel
theorem dX4_readPart_106 : decode cX4_readPart 106 = .ok (.invokevirtual 94, 3) := by decide +kernel
theorem dX4_readPart_109 : decode cX4_readPart 109 = .ok (.iinc 3 1, 3) := by decide +kernel
theorem dX4_readPart_112 : decode cX4_readPart 112 = .ok (.goto (-41), 3) := by decide +kernel
theorem dX4_readPart_115 : decode cX4_readPart 115 = .ok (.aload_n 0, 1) := by decide +kernel
theorem dX4_readPart_116 : decode cX4_readPart 116 = .ok (.getfield 35, 3) := by decide +kernel
theorem dX4_readPart_119 : decode cX4_readPart 119 = .ok (.aload_n 0, 1) := by decide +kernel
theorem dX4_readPart_120 : decode cX4_readPart 120 = .ok (.getfield 32, 3) := by decide +kernel
theorem dX4_readPart_123 : decode cX4_readPart 123 = .ok (.if_icmp .ge 21, 3) := by decide +kernel
theorem dX4_readPart_126 : decode cX4_readPart 126 = .ok (.aload_n 0, 1) := by decide +kernel
theorem dX4_readPart_127 : decode cX4_readPart 127 = .ok (.bipush 59, 2) := by decide +kernel
theorem dX4_readPart_129 : decode cX4_readPart 129 = .ok (.invokevirtual 58, 3) := by decide +kernel
theorem dX4_readPart_132 : decode cX4_readPart 132 = .ok (.ifCond .ne 12, 3) := by decide +kernel
theorem dX4_readPart_135 : decode cX4_readPart 135 = .ok (.aload_n 0, 1) := by decide +kernel
theorem dX4_readPart_136 : decode cX4_readPart 136 = .ok (.iconst 1, 1) := by decide +kernel
theorem dX4_readPart_137 : decode cX4_readPart 137 = .ok (.aload_n 0, 1) := by decide +kernel
theorem dX4_readPart_138 : decode cX4_readPart 138 = .ok (.getfield 35, 3) := by decide +kernel
theorem dX4_readPart_141 : decode cX4_readPart 141 = .ok (.invokevirtual 54, 3) := by decide +kernel
theorem dX4_readPart_144 : decode cX4_readPart 144 = .ok (.return_, 1) := by decide +kernel
theorem dX4_partNamed_0 : decode cX4_partNamed 0 = .ok (.iconst 0, 1) := by decide +kernel
theorem dX4_partNamed_1 : decode cX4_partNamed 1 = .ok (.istore_n 2, 1) := by decide +kernel
theorem dX4_partNamed_2 : decode cX4_partNamed 2 = .ok (.iload_n 2, 1) := by decide +kernel
theorem dX4_partNamed_3 : decode cX4_partNamed 3 = .ok (.getstatic 102, 3) := by decide +kernel
theorem dX4_partNamed_6 : decode cX4_partNamed 6 = .ok (.arraylength, 1) := by decide +kernel
theorem dX4_partNamed_7 : decode cX4_partNamed 7 = .ok (.if_icmp .ge 31, 3) := by decide +kernel
theorem dX4_partNamed_10 : decode cX4_partNamed 10 = .ok (.aload_n 0, 1) := by decide +kernel
theorem dX4_partNamed_11 : decode cX4_partNamed 11 = .ok (.getstatic 102, 3) := by decide +kernel
theorem dX4_partNamed_14 : decode cX4_partNamed 14 = .ok (.iload_n 2, 1) := by decide +kernel
theorem dX4_partNamed_15 : decode cX4_partNamed 15 = .ok (.aaload, 1) := by decide +kernel
theorem dX4_partNamed_16 : decode cX4_partNamed 16 = .ok (.getfield 106, 3) := by decide +kernel
theorem dX4_partNamed_19 : decode cX4_partNamed 19 = .ok (.iload_n 1, 1) := by decide +kernel
theorem dX4_partNamed_20 : decode cX4_partNamed 20 = .ok (.invokevirtual 110, 3) := by decide +kernel
theorem dX4_partNamed_23 : decode cX4_partNamed 23 = .ok (.ifCond .eq 9, 3) := by decide +kernel
theorem dX4_partNamed_26 : decode cX4_partNamed 26 = .ok (.getstatic 102, 3) := by decide +kernel
theorem dX4_partNamed_29 : decode cX4_partNamed 29 = .ok (.iload_n 2, 1) := by decide +kernel
theorem dX4_partNamed_30 : decode cX4_partNamed 30 = .ok (.aaload, 1) := by decide +kernel
theorem dX4_partNamed_31 : decode cX4_partNamed 31 = .ok (.areturn, 1) := by decide +kernel
theorem dX4_partNamed_32 : decode cX4_partNamed 32 = .ok (.iinc 2 1, 3) := by decide +kernel
theorem dX4_partNamed_35 : decode cX4_partNamed 35 = .ok (.goto (-33), 3) := by decide +kernel
theorem dX4_partNamed_38 : decode cX4_partNamed 38 = .ok (.aconst_null, 1) := by decide +kernel
theorem dX4_partNamed_39 : decode cX4_partNamed 39 = .ok (.areturn, 1) := by decide +kernel
theorem dX4_readValue_0 : decode cX4_readValue 0 = .ok (.aload_n 0, 1) := by decide +kernel
theorem dX4_readValue_1 : decode cX4_readValue 1 = .ok (.getfield 19, 3) := by decide +kernel
theorem dX4_readValue_4 : decode cX4_readValue 4 = .ok (.ifCond .eq 4, 3) := by decide +kernel
theorem dX4_readValue_7 : decode cX4_readValue 7 = .ok (.return_, 1) := by decide +kernel
theorem dX4_readValue_8 : decode cX4_readValue 8 = .ok (.aload_n 1, 1) := by decide +kernel
theorem dX4_readValue_9 : decode cX4_readValue 9 = .ok (.getstatic 114, 3) := by decide +kernel
theorem dX4_readValue_12 : decode cX4_readValue 12 = .ok (.if_acmp .ne 10, 3) := by decide +kernel
theorem dX4_readValue_15 : decode cX4_readValue 15 = .ok (.aload_n 0, 1) := by decide +kernel
theorem dX4_readValue_16 : decode cX4_readValue 16 = .ok (.invokevirtual 118, 3) := by decide +kernel
theorem dX4_readValue_19 : decode cX4_readValue 19 = .ok (.goto 64, 3) := by decide +kernel
theorem dX4_readValue_22 : decode cX4_readValue 22 = .ok (.aload_n 1, 1) := by decide +kernel
theorem dX4_readValue_23 : decode cX4_readValue 23 = .ok (.getstatic 121, 3) := by decide +kernel
theorem dX4_readValue_26 : decode cX4_readValue 26 = .ok (.if_acmp .ne 10, 3) := by decide +kernel
theorem dX4_readValue_29 : decode cX4_readValue 29 = .ok (.aload_n 0, 1) := by decide +kernel
theorem dX4_readValue_30 : decode cX4_readValue 30 = .ok (.invokevirtual 124, 3) := by decide +kernel
theorem dX4_readValue_33 : decode cX4_readValue 33 = .ok (.goto 50, 3) := by decide +kernel
theorem dX4_readValue_36 : decode cX4_readValue 36 = .ok (.aload_n 0, 1) := by decide +kernel
theorem dX4_readValue_37 : decode cX4_readValue 37 = .ok (.getfield 35, 3) := by decide +kernel
theorem dX4_readValue_40 : decode cX4_readValue 40 = .ok (.istore_n 2, 1) := by decide +kernel
theorem dX4_readValue_41 : decode cX4_readValue 41 = .ok (.aload_n 0, 1) := by decide +kernel
theorem dX4_readValue_42 : decode cX4_readValue 42 = .ok (.aload_n 1, 1) := by decide +kernel
theorem dX4_readValue_43 : decode cX4_readValue 43 = .ok (.invokevirtual 127, 3) := by decide +kernel
theorem dX4_readValue_46 : decode cX4_readValue 46 = .ok (.istore_n 3, 1) := by decide +kernel
theorem dX4_readValue_47 : decode cX4_readValue 47 = .ok (.aload_n 1, 1) := by decide +kernel
theorem dX4_readValue_48 : decode cX4_readValue 48 = .ok (.getstatic 131, 3) := by decide +kernel
theorem dX4_readValue_51 : decode cX4_readValue 51 = .ok (.if_acmp .ne 16, 3) := by decide +kernel
theorem dX4_readValue_54 : decode cX4_readValue 54 = .ok (.iload_n 3, 1) := by decide +kernel
theorem dX4_readValue_55 : decode cX4_readValue 55 = .ok (.invokestatic 134, 3) := by decide +kernel
theorem dX4_readValue_58 : decode cX4_readValue 58 = .ok (.ifCond .ne 9, 3) := by decide +kernel
theorem dX4_readValue_61 : decode cX4_readValue 61 = .ok (.aload_n 0, 1) := by decide +kernel
theorem dX4_readValue_62 : decode cX4_readValue 62 = .ok (.iconst 2, 1) := by decide +kernel
theorem dX4_readValue_63 : decode cX4_readValue 63 = .ok (.iload_n 2, 1) := by decide +kernel
theorem dX4_readValue_64 : decode cX4_readValue 64 = .ok (.invokevirtual 54, 3) := by decide +kernel
theorem dX4_readValue_67 : decode cX4_readValue 67 = .ok (.aload_n 0, 1) := by decide +kernel
theorem dX4_readValue_68 : decode cX4_readValue 68 = .ok (.getfield 19, 3) := by decide +kernel
theorem dX4_readValue_71 : decode cX4_readValue 71 = .ok (.ifCond .ne 12, 3) := by decide +kernel
theorem dX4_readValue_74 : decode cX4_readValue 74 = .ok (.aload_n 0, 1) := by decide +kernel
theorem dX4_readValue_75 : decode cX4_readValue 75 = .ok (.getfield 9, 3) := by decide +kernel
theorem dX4_readValue_78 : decode cX4_readValue 78 = .ok (.aload_n 1, 1) := by decide +kernel
theorem dX4_readValue_79 : decode cX4_readValue 79 = .ok (.iload_n 3, 1) := by decide +kernel
theorem dX4_readValue_80 : decode cX4_readValue 80 = .ok (.invokevirtual 140, 3) := by decide +kernel
theorem dX4_readValue_83 : decode cX4_readValue 83 = .ok (.return_, 1) := by decide +kernel
theorem dX4_readFrequency_0 : decode cX4_readFrequency 0 = .ok (.aload_n 0, 1) := by decide +kernel
theorem dX4_readFrequency_1 : decode cX4_readFrequency 1 = .ok (.sipush 200, 3) := by decide +kernel
theorem dX4_readFrequency_4 : decode cX4_readFrequency 4 = .ok (.invokevirtual 74, 3) := by decide +kernel
theorem dX4_readFrequency_7 : decode cX4_readFrequency 7 = .ok (.istore_n 1, 1) := by decide +kernel
theorem dX4_readFrequency_8 : decode cX4_readFrequency 8 = .ok (.iconst 0, 1) := by decide +kernel
theorem dX4_readFrequency_9 : decode cX4_readFrequency 9 = .ok (.istore_n 2, 1) := by decide +kernel
theorem dX4_readFrequency_10 : decode cX4_readFrequency 10 = .ok (.iload_n 2, 1) := by decide +kernel
theorem dX4_readFrequency_11 : decode cX4_readFrequency 11 = .ok (.getstatic 144, 3) := by decide +kernel
theorem dX4_readFrequency_14 : decode cX4_readFrequency 14 = .ok (.arraylength, 1) := by decide +kernel
theorem dX4_readFrequency_15 : decode cX4_readFrequency 15 = .ok (.if_icmp .ge 38, 3) := by decide +kernel
theorem dX4_readFrequency_18 : decode cX4_readFrequency 18 = .ok (.aload_n 0, 1) := by decide +kernel
theorem dX4_readFrequency_19 : decode cX4_readFrequency 19 = .ok (.getstatic 144, 3) := by decide +kernel
theorem dX4_readFrequency_22 : decode cX4_readFrequency 22 = .ok (.iload_n 2, 1) := by decide +kernel
theorem dX4_readFrequency_23 : decode cX4_readFrequency 23 = .ok (.aaload, 1) := by decide +kernel
theorem dX4_readFrequency_24 : decode cX4_readFrequency 24 = .ok (.getfield 148, 3) := by decide +kernel
theorem dX4_readFrequency_27 : decode cX4_readFrequency 27 = .ok (.iload_n 1, 1) := by decide +kernel
theorem dX4_readFrequency_28 : decode cX4_readFrequency 28 = .ok (.invokevirtual 110, 3) := by decide +kernel
theorem dX4_readFrequency_31 : decode cX4_readFrequency 31 = .ok (.ifCond .eq 16, 3) := by decide +kernel
theorem dX4_readFrequency_34 : decode cX4_readFrequency 34 = .ok (.aload_n 0, 1) := by decide +kernel
theorem dX4_readFrequency_35 : decode cX4_readFrequency 35 = .ok (.getfield 9, 3) := by decide +kernel
theorem dX4_readFrequency_38 : decode cX4_readFrequency 38 = .ok (.getstatic 144, 3) := by decide +kernel
theorem dX4_readFrequency_41 : decode cX4_readFrequency 41 = .ok (.iload_n 2, 1) := by decide +kernel
theorem dX4_readFrequency_42 : decode cX4_readFrequency 42 = .ok (.aaload, 1) := by decide +kernel
theorem dX4_readFrequency_43 : decode cX4_readFrequency 43 = .ok (.putfield 151, 3) := by decide +kernel
theorem dX4_readFrequency_46 : decode cX4_readFrequency 46 = .ok (.return_, 1) := by decide +kernel
theorem dX4_readFrequency_47 : decode cX4_readFrequency 47 = .ok (.iinc 2 1, 3) := by decide +kernel
theorem dX4_readFrequency_50 : decode cX4_readFrequency 50 = .ok (.goto (-40), 3) := by decide +kernel
theorem dX4_readFrequency_53 : decode cX4_readFrequency 53 = .ok (.aload_n 0, 1) := by decide +kernel
theorem dX4_readFrequency_54 : decode cX4_readFrequency 54 = .ok (.iconst 1, 1) := by decide +kernel
theorem dX4_readFrequency_55 : decode cX4_readFrequency 55 = .ok (.iload_n 1, 1) := by decide +kernel
theorem dX4_readFrequency_56 : decode cX4_readFrequency 56 = .ok (.invokevirtual 54, 3) := by decide +kernel
theorem dX4_readFrequency_59 : decode cX4_readFrequency 59 = .ok (.return_, 1) := by decide +kernel
theorem dX4_readNumber_0 : decode cX4_readNumber 0 = .ok (.aload_n 0, 1) := by decide +kernel
theorem dX4_readNumber_1 : decode cX4_readNumber 1 = .ok (.getfield 35, 3) := by decide +kernel
theorem dX4_readNumber_4 : decode cX4_readNumber 4 = .ok (.istore_n 2, 1) := by decide +kernel
theorem dX4_readNumber_5 : decode cX4_readNumber 5 = .ok (.aload_n 1, 1) := by decide +kernel
theorem dX4_readNumber_6 : decode cX4_readNumber 6 = .ok (.getfield 155, 3) := by decide +kernel
theorem dX4_readNumber_9 : decode cX4_readNumber 9 = .ok (.ifCond .ge 16, 3) := by decide +kernel
theorem dX4_readNumber_12 : decode cX4_readNumber 12 = .ok (.aload_n 0, 1) := by decide +kernel
theorem dX4_readNumber_13 : decode cX4_readNumber 13 = .ok (.bipush 45, 2) := by decide +kernel
theorem dX4_readNumber_15 : decode cX4_readNumber 15 = .ok (.invokevirtual 58, 3) := by decide +kernel
theorem dX4_readNumber_18 : decode cX4_readNumber 18 = .ok (.ifCond .eq 7, 3) := by decide +kernel
theorem dX4_readNumber_21 : decode cX4_readNumber 21 = .ok (.iconst 1, 1) := by decide +kernel
theorem dX4_readNumber_22 : decode cX4_readNumber 22 = .ok (.goto 4, 3) := by decide +kernel
theorem dX4_readNumber_25 : decode cX4_readNumber 25 = .ok (.iconst 0, 1) := by decide +kernel
theorem dX4_readNumber_26 : decode cX4_readNumber 26 = .ok (.istore_n 3, 1) := by decide +kernel
theorem dX4_readNumber_27 : decode cX4_readNumber 27 = .ok (.iload_n 3, 1) := by decide +kernel
theorem dX4_readNumber_28 : decode cX4_readNumber 28 = .ok (.ifCond .ne 19, 3) := by decide +kernel
theorem dX4_readNumber_31 : decode cX4_readNumber 31 = .ok (.aload_n 1, 1) := by decide +kernel
theorem dX4_readNumber_32 : decode cX4_readNumber 32 = .ok (.getfield 155, 3) := by decide +kernel
theorem dX4_readNumber_35 : decode cX4_readNumber 35 = .ok (.ifCond .ge 22, 3) := by decide +kernel
theorem dX4_readNumber_38 : decode cX4_readNumber 38 = .ok (.aload_n 0, 1) := by decide +kernel
theorem dX4_readNumber_39 : decode cX4_readNumber 39 = .ok (.bipush 43, 2) := by decide +kernel
theorem dX4_readNumber_41 : decode cX4_readNumber 41 = .ok (.invokevirtual 58, 3) := by decide +kernel
theorem dX4_readNumber_44 : decode cX4_readNumber 44 = .ok (.ifCond .eq 13, 3) := by decide +kernel
theorem dX4_readNumber_47 : decode cX4_readNumber 47 = .ok (.aload_n 0, 1) := by decide +kernel
theorem dX4_readNumber_48 : decode cX4_readNumber 48 = .ok (.dup, 1) := by decide +kernel
theorem dX4_readNumber_49 : decode cX4_readNumber 49 = .ok (.getfield 35, 3) := by decide +kernel
theorem dX4_readNumber_52 : decode cX4_readNumber 52 = .ok (.iconst 1, 1) := by decide +kernel
theorem dX4_readNumber_53 : decode cX4_readNumber 53 = .ok (.iadd, 1) := by decide +kernel
theorem dX4_readNumber_54 : decode cX4_readNumber 54 = .ok (.putfield 35, 3) := by decide +kernel
theorem dX4_readNumber_57 : decode cX4_readNumber 57 = .ok (.aload_n 0, 1) := by decide +kernel
theorem dX4_readNumber_58 : decode cX4_readNumber 58 = .ok (.getfield 35, 3) := by decide +kernel
theorem dX4_readNumber_61 : decode cX4_readNumber 61 = .ok (.istore 4, 2) := by decide +kernel
theorem dX4_readNumber_63 : decode cX4_readNumber 63 = .ok (.iconst 0, 1) := by decide +kernel
theorem dX4_readNumber_64 : decode cX4_readNumber 64 = .ok (.istore 5, 2) := by decide +kernel
theorem dX4_readNumber_66 : decode cX4_readNumber 66 = .ok (.iconst 0, 1) := by decide +kernel
theorem dX4_readNumber_67 : decode cX4_readNumber 67 = .ok (.istore 6, 2) := by decide +kernel
theorem dX4_readNumber_69 : decode cX4_readNumber 69 = .ok (.iload 6, 2) := by decide +kernel
theorem dX4_readNumber_71 : decode cX4_readNumber 71 = .ok (.sipush 200, 3) := by decide +kernel
theorem dX4_readNumber_74 : decode cX4_readNumber 74 = .ok (.if_icmp .ge 51, 3) := by decide +kernel
theorem dX4_readNumber_77 : decode cX4_readNumber 77 = .ok (.aload_n 0, 1) := by decide +kernel
theorem dX4_readNumber_78 : decode cX4_readNumber 78 = .ok (.invokevirtual 158, 3) := by decide +kernel
theorem dX4_readNumber_81 : decode cX4_readNumber 81 = .ok (.ifCond .eq 44, 3) := by decide +kernel
theorem dX4_readNumber_84 : decode cX4_readNumber 84 = .ok (.ldc 161, 2) := by decide +kernel
theorem dX4_readNumber_86 : decode cX4_readNumber 86 = .ok (.iload 5, 2) := by decide +kernel
theorem dX4_readNumber_88 : decode cX4_readNumber 88 = .ok (.bipush 10, 2) := by decide +kernel
theorem dX4_readNumber_90 : decode cX4_readNumber 90 = .ok (.imul, 1) := by decide +kernel
theorem dX4_readNumber_91 : decode cX4_readNumber 91 = .ok (.aload_n 0, 1) := by decide +kernel
theorem dX4_readNumber_92 : decode cX4_readNumber 92 = .ok (.getfield 15, 3) := by decide +kernel
theorem dX4_readNumber_95 : decode cX4_readNumber 95 = .ok (.aload_n 0, 1) := by decide +kernel
theorem dX4_readNumber_96 : decode cX4_readNumber 96 = .ok (.getfield 35, 3) := by decide +kernel
theorem dX4_readNumber_99 : decode cX4_readNumber 99 = .ok (.caload, 1) := by decide +kernel
theorem dX4_readNumber_100 : decode cX4_readNumber 100 = .ok (.iadd, 1) := by decide +kernel
theorem dX4_readNumber_101 : decode cX4_readNumber 101 = .ok (.bipush 48, 2) := by decide +kernel
theorem dX4_readNumber_103 : decode cX4_readNumber 103 = .ok (.isub, 1) := by decide +kernel
theorem dX4_readNumber_104 : decode cX4_readNumber 104 = .ok (.invokestatic 26, 3) := by decide +kernel
theorem dX4_readNumber_107 : decode cX4_readNumber 107 = .ok (.istore 5, 2) := by decide +kernel
theorem dX4_readNumber_109 : decode cX4_readNumber 109 = .ok (.aload_n 0, 1) := by decide +kernel
theorem dX4_readNumber_110 : decode cX4_readNumber 110 = .ok (.dup, 1) := by decide +kernel
theorem dX4_readNumber_111 : decode cX4_readNumber 111 = .ok (.getfield 35, 3) := by decide +kernel
theorem dX4_readNumber_114 : decode cX4_readNumber 114 = .ok (.iconst 1, 1) := by decide +kernel
theorem dX4_readNumber_115 : decode cX4_readNumber 115 = .ok (.iadd, 1) := by decide +kernel
theorem dX4_readNumber_116 : decode cX4_readNumber 116 = .ok (.putfield 35, 3) := by decide +kernel
theorem dX4_readNumber_119 : decode cX4_readNumber 119 = .ok (.iinc 6 1, 3) := by decide +kernel
theorem dX4_readNumber_122 : decode cX4_readNumber 122 = .ok (.goto (-53), 3) := by decide +kernel
theorem dX4_readNumber_125 : decode cX4_readNumber 125 = .ok (.aload_n 0, 1) := by decide +kernel
theorem dX4_readNumber_126 : decode cX4_readNumber 126 = .ok (.getfield 35, 3) := by decide +kernel
theorem dX4_readNumber_129 : decode cX4_readNumber 129 = .ok (.iload 4, 2) := by decide +kernel
theorem dX4_readNumber_131 : decode cX4_readNumber 131 = .ok (.if_icmp .ne 12, 3) := by decide +kernel
theorem dX4_readNumber_134 : decode cX4_readNumber 134 = .ok (.aload_n 0, 1) := by decide +kernel
theorem dX4_readNumber_135 : decode cX4_readNumber 135 = .ok (.iconst 1, 1) := by decide +kernel
theorem dX4_readNumber_136 : decode cX4_readNumber 136 = .ok (.aload_n 0, 1) := by decide +kernel
theorem dX4_readNumber_137 : decode cX4_readNumber 137 = .ok (.getfield 35, 3) := by decide +kernel
theorem dX4_readNumber_140 : decode cX4_readNumber 140 = .ok (.invokevirtual 54, 3) := by decide +kernel
theorem dX4_readNumber_143 : decode cX4_readNumber 143 = .ok (.iload_n 3, 1) := by decide +kernel
theorem dX4_readNumber_144 : decode cX4_readNumber 144 = .ok (.ifCond .eq 9, 3) := by decide +kernel
theorem dX4_readNumber_147 : decode cX4_readNumber 147 = .ok (.iload 5, 2) := by decide +kernel
theorem dX4_readNumber_149 : decode cX4_readNumber 149 = .ok (.ineg, 1) := by decide +kernel
theorem dX4_readNumber_150 : decode cX4_readNumber 150 = .ok (.goto 5, 3) := by decide +kernel
theorem dX4_readNumber_153 : decode cX4_readNumber 153 = .ok (.iload 5, 2) := by decide +kernel
theorem dX4_readNumber_155 : decode cX4_readNumber 155 = .ok (.istore 6, 2) := by decide +kernel
theorem dX4_readNumber_157 : decode cX4_readNumber 157 = .ok (.aload_n 1, 1) := by decide +kernel
theorem dX4_readNumber_158 : decode cX4_readNumber 158 = .ok (.iload 6, 2) := by decide +kernel
theorem dX4_readNumber_160 : decode cX4_readNumber 160 = .ok (.invokevirtual 162, 3) := by decide +kernel
theorem dX4_readNumber_163 : decode cX4_readNumber 163 = .ok (.ifCond .ne 9, 3) := by decide +kernel
theorem dX4_readNumber_166 : decode cX4_readNumber 166 = .ok (.aload_n 0, 1) := by decide +kernel
theorem dX4_readNumber_167 : decode cX4_readNumber 167 = .ok (.iconst 2, 1) := by decide +kernel
theorem dX4_readNumber_168 : decode cX4_readNumber 168 = .ok (.iload_n 2, 1) := by decide +kernel
theorem dX4_readNumber_169 : decode cX4_readNumber 169 = .ok (.invokevirtual 54, 3) := by decide +kernel
theorem dX4_readNumber_172 : decode cX4_readNumber 172 = .ok (.iload 6, 2) := by decide +kernel
theorem dX4_readNumber_174 : decode cX4_readNumber 174 = .ok (.ireturn, 1) := by decide +kernel
theorem dX4_readWeekday_0 : decode cX4_readWeekday 0 = .ok (.iconst 0, 1) := by decide +kernel
theorem dX4_readWeekday_1 : decode cX4_readWeekday 1 = .ok (.istore_n 1, 1) := by decide +kernel
theorem dX4_readWeekday_2 : decode cX4_readWeekday 2 = .ok (.aload_n 0, 1) := by decide +kernel
theorem dX4_readWeekday_3 : decode cX4_readWeekday 3 = .ok (.bipush 43, 2) := by decide +kernel
theorem dX4_readWeekday_5 : decode cX4_readWeekday 5 = .ok (.invokevirtual 58, 3) := by decide +kernel
theorem dX4_readWeekday_8 : decode cX4_readWeekday 8 = .ok (.ifCond .ne 19, 3) := by decide +kernel
theorem dX4_readWeekday_11 : decode cX4_readWeekday 11 = .ok (.aload_n 0, 1) := by decide +kernel
theorem dX4_readWeekday_12 : decode cX4_readWeekday 12 = .ok (.bipush 45, 2) := by decide +kernel
theorem dX4_readWeekday_14 : decode cX4_readWeekday 14 = .ok (.invokevirtual 58, 3) := by decide +kernel
theorem dX4_readWeekday_17 : decode cX4_readWeekday 17 = .ok (.ifCond .ne 10, 3) := by decide +kernel
theorem dX4_readWeekday_20 : decode cX4_readWeekday 20 = .ok (.aload_n 0, 1) := by decide +kernel
theorem dX4_readWeekday_21 : decode cX4_readWeekday 21 = .ok (.invokevirtual 158, 3) := by decide +kernel
theorem dX4_readWeekday_24 : decode cX4_readWeekday 24 = .ok (.ifCond .eq 11, 3) := by decide +kernel
theorem dX4_readWeekday_27 : decode cX4_readWeekday 27 = .ok (.aload_n 0, 1) := by decide +kernel
theorem dX4_readWeekday_28 : decode cX4_readWeekday 28 = .ok (.getstatic 121, 3) := by decide +kernel
theorem dX4_readWeekday_31 : decode cX4_readWeekday 31 = .ok (.invokevirtual 127, 3) := by decide +kernel
theorem dX4_readWeekday_34 : decode cX4_readWeekday 34 = .ok (.istore_n 1, 1) := by decide +kernel
theorem dX4_readWeekday_35 : decode cX4_readWeekday 35 = .ok (.aload_n 0, 1) := by decide +kernel
theorem dX4_readWeekday_36 : decode cX4_readWeekday 36 = .ok (.iconst 2, 1) := by decide +kernel
theorem dX4_readWeekday_37 : decode cX4_readWeekday 37 = .ok (.invokevirtual 74, 3) := by decide +kernel
theorem dX4_readWeekday_40 : decode cX4_readWeekday 40 = .ok (.istore_n 2, 1) := by decide +kernel
theorem dX4_readWeekday_41 : decode cX4_readWeekday 41 = .ok (.aload_n 0, 1) := by decide +kernel
theorem dX4_readWeekday_42 : decode cX4_readWeekday 42 = .ok (.getfield 35, 3) := by decide +kernel
theorem dX4_readWeekday_45 : decode cX4_readWeekday 45 = .ok (.iload_n 2, 1) := by decide +kernel
theorem dX4_readWeekday_46 : decode cX4_readWeekday 46 = .ok (.iconst 2, 1) := by decide +kernel
theorem dX4_readWeekday_47 : decode cX4_readWeekday 47 = .ok (.iadd, 1) := by decide +kernel
theorem dX4_readWeekday_48 : decode cX4_readWeekday 48 = .ok (.if_icmp .eq 12, 3) := by decide +kernel
theorem dX4_readWeekday_51 : decode cX4_readWeekday 51 = .ok (.aload_n 0, 1) := by decide +kernel
theorem dX4_readWeekday_52 : decode cX4_readWeekday 52 = .ok (.iconst 1, 1) := by decide +kernel
theorem dX4_readWeekday_53 : decode cX4_readWeekday 53 = .ok (.aload_n 0, 1) := by decide +kernel
theorem dX4_readWeekday_54 : decode cX4_readWeekday 54 = .ok (.getfield 35, 3) := by decide +kernel
theorem dX4_readWeekday_57 : decode cX4_readWeekday 57 = .ok (.invokevirtual 54, 3) := by decide +kernel
theorem dX4_readWeekday_60 : decode cX4_readWeekday 60 = .ok (.aload_n 0, 1) := by decide +kernel
theorem dX4_readWeekday_61 : decode cX4_readWeekday 61 = .ok (.getfield 19, 3) := by decide +kernel
theorem dX4_readWeekday_64 : decode cX4_readWeekday 64 = .ok (.ifCond .eq 4, 3) := by decide +kernel
theorem dX4_readWeekday_67 : decode cX4_readWeekday 67 = .ok (.return_, 1) := by decide +kernel
theorem dX4_readWeekday_68 : decode cX4_readWeekday 68 = .ok (.aload_n 0, 1) := by decide +kernel
theorem dX4_readWeekday_69 : decode cX4_readWeekday 69 = .ok (.iload_n 2, 1) := by decide +kernel
theorem dX4_readWeekday_70 : decode cX4_readWeekday 70 = .ok (.invokevirtual 165, 3) := by decide +kernel
theorem dX4_readWeekday_73 : decode cX4_readWeekday 73 = .ok (.istore_n 3, 1) := by decide +kernel
theorem dX4_readWeekday_74 : decode cX4_readWeekday 74 = .ok (.iload_n 3, 1) := by decide +kernel
theorem dX4_readWeekday_75 : decode cX4_readWeekday 75 = .ok (.iconst (-1), 1) := by decide +kernel
theorem dX4_readWeekday_76 : decode cX4_readWeekday 76 = .ok (.if_icmp .ne 12, 3) := by decide +kernel
theorem dX4_readWeekday_79 : decode cX4_readWeekday 79 = .ok (.aload_n 0, 1) := by decide +kernel
theorem dX4_readWeekday_80 : decode cX4_readWeekday 80 = .ok (.iconst 1, 1) := by decide +kernel
theorem dX4_readWeekday_81 : decode cX4_readWeekday 81 = .ok (.iload_n 2, 1) := by decide +kernel
theorem dX4_readWeekday_82 : decode cX4_readWeekday 82 = .ok (.invokevirtual 54, 3) := by decide +kernel
theorem dX4_readWeekday_85 : decode cX4_readWeekday 85 = .ok (.goto 12, 3) := by decide +kernel
theorem dX4_readWeekday_88 : decode cX4_readWeekday 88 = .ok (.aload_n 0, 1) := by decide +kernel
theorem dX4_readWeekday_89 : decode cX4_readWeekday 89 = .ok (.getfield 9, 3) := by decide +kernel
theorem dX4_readWeekday_92 : decode cX4_readWeekday 92 = .ok (.iload_n 3, 1) := by decide +kernel
theorem dX4_readWeekday_93 : decode cX4_readWeekday 93 = .ok (.iload_n 1, 1) := by decide +kernel
theorem dX4_readWeekday_94 : decode cX4_readWeekday 94 = .ok (.invokevirtual 168, 3) := by decide +kernel
theorem dX4_readWeekday_97 : decode cX4_readWeekday 97 = .ok (.return_, 1) := by decide +kernel
theorem dX4_weekdayAt_0 : decode cX4_weekdayAt 0 = .ok (.iconst 0, 1) := by decide +kernel
theorem dX4_weekdayAt_1 : decode cX4_weekdayAt 1 = .ok (.istore_n 2, 1) := by decide +kernel
theorem dX4_weekdayAt_2 : decode cX4_weekdayAt 2 = .ok (.iload_n 2, 1) := by decide +kernel
theorem dX4_weekdayAt_3 : decode cX4_weekdayAt 3 = .ok (.bipush 7, 2) := by decide +kernel
theorem dX4_weekdayAt_5 : decode cX4_weekdayAt 5 = .ok (.if_icmp .ge 49, 3) := by decide +kernel
theorem dX4_weekdayAt_8 : decode cX4_weekdayAt 8 = .ok (.ldc 171, 2) := by decide +kernel
theorem dX4_weekdayAt_10 : decode cX4_weekdayAt 10 = .ok (.iconst 2, 1) := by decide +kernel
theorem dX4_weekdayAt_11 : decode cX4_weekdayAt 11 = .ok (.iload_n 2, 1) := by decide +kernel
theorem dX4_weekdayAt_12 : decode cX4_weekdayAt 12 = .ok (.imul, 1) := by decide +kernel
theorem dX4_weekdayAt_13 : decode cX4_weekdayAt 13 = .ok (.invokevirtual 70, 3) := by decide +kernel
theorem dX4_weekdayAt_16 : decode cX4_weekdayAt 16 = .ok (.aload_n 0, 1) := by decide +kernel
theorem dX4_weekdayAt_17 : decode cX4_weekdayAt 17 = .ok (.getfield 15, 3) := by decide +kernel
theorem dX4_weekdayAt_20 : decode cX4_weekdayAt 20 = .ok (.iload_n 1, 1) := by decide +kernel
theorem dX4_weekdayAt_21 : decode cX4_weekdayAt 21 = .ok (.caload, 1) := by decide +kernel
theorem dX4_weekdayAt_22 : decode cX4_weekdayAt 22 = .ok (.if_icmp .ne 26, 3) := by decide +kernel
theorem dX4_weekdayAt_25 : decode cX4_weekdayAt 25 = .ok (.ldc 171, 2) := by decide +kernel
theorem dX4_weekdayAt_27 : decode cX4_weekdayAt 27 = .ok (.iconst 2, 1) := by decide +kernel
theorem dX4_weekdayAt_28 : decode cX4_weekdayAt 28 = .ok (.iload_n 2, 1) := by decide +kernel
theorem dX4_weekdayAt_29 : decode cX4_weekdayAt 29 = .ok (.imul, 1) := by decide +kernel
theorem dX4_weekdayAt_30 : decode cX4_weekdayAt 30 = .ok (.iconst 1, 1) := by decide +kernel
theorem dX4_weekdayAt_31 : decode cX4_weekdayAt 31 = .ok (.iadd, 1) := by decide +kernel
theorem dX4_weekdayAt_32 : decode cX4_weekdayAt 32 = .ok (.invokevirtual 70, 3) := by decide +kernel
theorem dX4_weekdayAt_35 : decode cX4_weekdayAt 35 = .ok (.aload_n 0, 1) := by decide +kernel
theorem dX4_weekdayAt_36 : decode cX4_weekdayAt 36 = .ok (.getfield 15, 3) := by decide +kernel
theorem dX4_weekdayAt_39 : decode cX4_weekdayAt 39 = .ok (.iload_n 1, 1) := by decide +kernel
theorem dX4_weekdayAt_40 : decode cX4_weekdayAt 40 = .ok (.iconst 1, 1) := by decide +kernel
theorem dX4_weekdayAt_41 : decode cX4_weekdayAt 41 = .ok (.iadd, 1) := by decide +kernel
theorem dX4_weekdayAt_42 : decode cX4_weekdayAt 42 = .ok (.caload, 1) := by decide +kernel
theorem dX4_weekdayAt_43 : decode cX4_weekdayAt 43 = .ok (.if_icmp .ne 5, 3) := by decide +kernel
theorem dX4_weekdayAt_46 : decode cX4_weekdayAt 46 = .ok (.iload_n 2, 1) := by decide +kernel
theorem dX4_weekdayAt_47 : decode cX4_weekdayAt 47 = .ok (.ireturn, 1) := by decide +kernel
theorem dX4_weekdayAt_48 : decode cX4_weekdayAt 48 = .ok (.iinc 2 1, 3) := by decide +kernel
theorem dX4_weekdayAt_51 : decode cX4_weekdayAt 51 = .ok (.goto (-49), 3) := by decide +kernel
theorem dX4_weekdayAt_54 : decode cX4_weekdayAt 54 = .ok (.iconst (-1), 1) := by decide +kernel
theorem dX4_weekdayAt_55 : decode cX4_weekdayAt 55 = .ok (.ireturn, 1) := by decide +kernel
theorem dX5_init_0 : decode cX5_init 0 = .ok (.aload_n 0, 1) := by decide +kernel
theorem dX5_init_1 : decode cX5_init 1 = .ok (.invokespecial 3, 3) := by decide +kernel
theorem dX5_init_4 : decode cX5_init 4 = .ok (.aload_n 0, 1) := by decide +kernel
theorem dX5_init_5 : decode cX5_init 5 = .ok (.bipush 7, 2) := by decide +kernel
theorem dX5_init_7 : decode cX5_init 7 = .ok (.newarray .long, 2) := by decide +kernel
theorem dX5_init_9 : decode cX5_init 9 = .ok (.putfield 9, 3) := by decide +kernel
theorem dX5_init_12 : decode cX5_init 12 = .ok (.aload_n 0, 1) := by decide +kernel
theorem dX5_init_13 : decode cX5_init 13 = .ok (.bipush 7, 2) := by decide +kernel
theorem dX5_init_15 : decode cX5_init 15 = .ok (.newarray .long, 2) := by decide +kernel
theorem dX5_init_17 : decode cX5_init 17 = .ok (.putfield 15, 3) := by decide +kernel
theorem dX5_init_20 : decode cX5_init 20 = .ok (.aload_n 0, 1) := by decide +kernel
theorem dX5_init_21 : decode cX5_init 21 = .ok (.sipush 733, 3) := by decide +kernel
theorem dX5_init_24 : decode cX5_init 24 = .ok (.newarray .byte, 2) := by decide +kernel
theorem dX5_init_26 : decode cX5_init 26 = .ok (.putfield 18, 3) := by decide +kernel
theorem dX5_init_29 : decode cX5_init 29 = .ok (.aload_n 0, 1) := by decide +kernel
theorem dX5_init_30 : decode cX5_init 30 = .ok (.invokevirtual 22, 3) := by decide +kernel
theorem dX5_init_33 : decode cX5_init 33 = .ok (.return_, 1) := by decide +kernel
theorem dX5_forget_0 : decode cX5_forget 0 = .ok (.aload_n 0, 1) := by decide +kernel
theorem dX5_forget_1 : decode cX5_forget 1 = .ok (.iconst 0, 1) := by decide +kernel
theorem dX5_forget_2 : decode cX5_forget 2 = .ok (.putfield 25, 3) := by decide +kernel
theorem dX5_forget_5 : decode cX5_forget 5 = .ok (.aload_n 0, 1) := by decide +kernel
theorem dX5_forget_6 : decode cX5_forget 6 = .ok (.getstatic 29, 3) := by decide +kernel
theorem dX5_forget_9 : decode cX5_forget 9 = .ok (.putfield 35, 3) := by decide +kernel
theorem dX5_forget_12 : decode cX5_forget 12 = .ok (.aload_n 0, 1) := by decide +kernel
theorem dX5_forget_13 : decode cX5_forget 13 = .ok (.iconst 1, 1) := by decide +kernel
theorem dX5_forget_14 : decode cX5_forget 14 = .ok (.putfield 38, 3) := by decide +kernel
theorem dX5_forget_17 : decode cX5_forget 17 = .ok (.aload_n 0, 1) := by decide +kernel
theorem dX5_forget_18 : decode cX5_forget 18 = .ok (.ldc 41, 2) := by decide +kernel
theorem dX5_forget_20 : decode cX5_forget 20 = .ok (.putfield 42, 3) := by decide +kernel
theorem dX5_forget_23 : decode cX5_forget 23 = .ok (.aload_n 0, 1) := by decide +kernel
theorem dX5_forget_24 : decode cX5_forget 24 = .ok (.ldc 45, 2) := by decide +kernel
theorem dX5_forget_26 : decode cX5_forget 26 = .ok (.putfield 46, 3) := by decide +kernel
theorem dX5_forget_29 : decode cX5_forget 29 = .ok (.aload_n 0, 1) := by decide +kernel
theorem dX5_forget_30 : decode cX5_forget 30 = .ok (.iconst 0, 1) := by decide +kernel
theorem dX5_forget_31 : decode cX5_forget 31 = .ok (.putfield 49, 3) := by decide +kernel
theorem dX5_forget_34 : decode cX5_forget 34 = .ok (.aload_n 0, 1) := by decide +kernel
theorem dX5_forget_35 : decode cX5_forget 35 = .ok (.iconst 0, 1) := by decide +kernel
theorem dX5_forget_36 : decode cX5_forget 36 = .ok (.putfield 52, 3) := by decide +kernel
theorem dX5_forget_39 : decode cX5_forget 39 = .ok (.aload_n 0, 1) := by decide +kernel
theorem dX5_forget_40 : decode cX5_forget 40 = .ok (.iconst 0, 1) := by decide +kernel
theorem dX5_forget_41 : decode cX5_forget 41 = .ok (.putfield 55, 3) := by decide +kernel
theorem dX5_forget_44 : decode cX5_forget 44 = .ok (.aload_n 0, 1) := by decide +kernel
theorem dX5_forget_45 : decode cX5_forget 45 = .ok (.iconst 0, 1) := by decide +kernel
theorem dX5_forget_46 : decode cX5_forget 46 = .ok (.putfield 58, 3) := by decide +kernel
theorem dX5_forget_49 : decode cX5_forget 49 = .ok (.aload_n 0, 1) := by decide +kernel
theorem dX5_forget_50 : decode cX5_forget 50 = .ok (.iconst 0, 1) := by decide +kernel
theorem dX5_forget_51 : decode cX5_forget 51 = .ok (.putfield 61, 3) := by decide +kernel
theorem dX5_forget_54 : decode cX5_forget 54 = .ok (.aload_n 0, 1) := by decide +kernel
theorem dX5_forget_55 : decode cX5_forget 55 = .ok (.getfield 9, 3) := by decide +kernel
theorem dX5_forget_58 : decode cX5_forget 58 = .ok (.lconst 0, 1) := by decide +kernel
theorem dX5_forget_59 : decode cX5_forget 59 = .ok (.invokestatic 64, 3) := by decide +kernel
theorem dX5_forget_62 : decode cX5_forget 62 = .ok (.aload_n 0, 1) := by decide +kernel
theorem dX5_forget_63 : decode cX5_forget 63 = .ok (.getfield 15, 3) := by decide +kernel
theorem dX5_forget_66 : decode cX5_forget 66 = .ok (.lconst 0, 1) := by decide +kernel
theorem dX5_forget_67 : decode cX5_forget 67 = .ok (.invokestatic 64, 3) := by decide +kernel
theorem dX5_forget_70 : decode cX5_forget 70 = .ok (.aload_n 0, 1) := by decide +kernel
theorem dX5_forget_71 : decode cX5_forget 71 = .ok (.getfield 18, 3) := by decide +kernel
theorem dX5_forget_74 : decode cX5_forget 74 = .ok (.iconst 0, 1) := by decide +kernel
theorem dX5_forget_75 : decode cX5_forget 75 = .ok (.invokestatic 70, 3) := by decide +kernel
theorem dX5_forget_78 : decode cX5_forget 78 = .ok (.return_, 1) := by decide +kernel
theorem dX5_has_0 : decode cX5_has 0 = .ok (.aload_n 0, 1) := by decide +kernel
theorem dX5_has_1 : decode cX5_has 1 = .ok (.getfield 25, 3) := by decide +kernel
theorem dX5_has_4 : decode cX5_has 4 = .ok (.aload_n 1, 1) := by decide +kernel
theorem dX5_has_5 : decode cX5_has 5 = .ok (.getfield 73, 3) := by decide +kernel
theorem dX5_has_8 : decode cX5_has 8 = .ok (.iand, 1) := by decide +kernel
theorem dX5_has_9 : decode cX5_has 9 = .ok (.ifCond .eq 7, 3) := by decide +kernel
theorem dX5_has_12 : decode cX5_has 12 = .ok (.iconst 1, 1) := by decide +kernel
theorem dX5_has_13 : decode cX5_has 13 = .ok (.goto 4, 3) := by decide +kernel
theorem dX5_has_16 : decode cX5_has 16 = .ok (.iconst 0, 1) := by decide +kernel
theorem dX5_has_17 : decode cX5_has 17 = .ok (.ireturn, 1) := by decide +kernel
theorem dX5_addNumber_0 : decode cX5_addNumber 0 = .ok (.aload_n 1, 1) := by decide +kernel
theorem dX5_addNumber_1 : decode cX5_addNumber 1 = .ok (.getstatic 78, 3) := by decide +kernel
theorem dX5_addNumber_4 : decode cX5_addNumber 4 = .ok (.if_acmp .ne 11, 3) := by decide +kernel
theorem dX5_addNumber_7 : decode cX5_addNumber 7 = .ok (.aload_n 0, 1) := by decide +kernel
theorem dX5_addNumber_8 : decode cX5_addNumber 8 = .ok (.iload_n 2, 1) := by decide +kernel
theorem dX5_addNumber_9 : decode cX5_addNumber 9 = .ok (.putfield 38, 3) := by decide +kernel
theorem dX5_addNumber_12 : decode cX5_addNumber 12 = .ok (.goto 112, 3) := by decide +kernel
theorem dX5_addNumber_15 : decode cX5_addNumber 15 = .ok (.aload_n 1, 1) := by decide +kernel
theorem dX5_addNumber_16 : decode cX5_addNumber 16 = .ok (.getstatic 82, 3) := by decide +kernel
theorem dX5_addNumber_19 : decode cX5_addNumber 19 = .ok (.if_acmp .ne 11, 3) := by decide +kernel
theorem dX5_addNumber_22 : decode cX5_addNumber 22 = .ok (.aload_n 0, 1) := by decide +kernel
theorem dX5_addNumber_23 : decode cX5_addNumber 23 = .ok (.iload_n 2, 1) := by decide +kernel
theorem dX5_addNumber_24 : decode cX5_addNumber 24 = .ok (.putfield 42, 3) := by decide +kernel
theorem dX5_addNumber_27 : decode cX5_addNumber 27 = .ok (.goto 97, 3) := by decide +kernel
theorem dX5_addNumber_30 : decode cX5_addNumber 30 = .ok (.aload_n 1, 1) := by decide +kernel
theorem dX5_addNumber_31 : decode cX5_addNumber 31 = .ok (.getstatic 85, 3) := by decide +kernel
theorem dX5_addNumber_34 : decode cX5_addNumber 34 = .ok (.if_acmp .ne 11, 3) := by decide +kernel
theorem dX5_addNumber_37 : decode cX5_addNumber 37 = .ok (.aload_n 0, 1) := by decide +kernel
theorem dX5_addNumber_38 : decode cX5_addNumber 38 = .ok (.iload_n 2, 1) := by decide +kernel
theorem dX5_addNumber_39 : decode cX5_addNumber 39 = .ok (.putfield 46, 3) := by decide +kernel
theorem dX5_addNumber_42 : decode cX5_addNumber 42 = .ok (.goto 82, 3) := by decide +kernel
theorem dX5_addNumber_45 : decode cX5_addNumber 45 = .ok (.aload_n 1, 1) := by decide +kernel
theorem dX5_addNumber_46 : decode cX5_addNumber 46 = .ok (.getstatic 88, 3) := by decide +kernel
theorem dX5_addNumber_49 : decode cX5_addNumber 49 = .ok (.if_acmp .ne 18, 3) := by decide +kernel
theorem dX5_addNumber_52 : decode cX5_addNumber 52 = .ok (.aload_n 0, 1) := by decide +kernel
theorem dX5_addNumber_53 : decode cX5_addNumber 53 = .ok (.dup, 1) := by decide +kernel
theorem dX5_addNumber_54 : decode cX5_addNumber 54 = .ok (.getfield 49, 3) := by decide +kernel
theorem dX5_addNumber_57 : decode cX5_addNumber 57 = .ok (.iconst 1, 1) := by decide +kernel
theorem dX5_addNumber_58 : decode cX5_addNumber 58 = .ok (.iload_n 2, 1) := by decide +kernel
theorem dX5_addNumber_59 : decode cX5_addNumber 59 = .ok (.ishl, 1) := by decide +kernel
theorem dX5_addNumber_60 : decode cX5_addNumber 60 = .ok (.ior, 1) := by decide +kernel
theorem dX5_addNumber_61 : decode cX5_addNumber 61 = .ok (.putfield 49, 3) := by decide +kernel
theorem dX5_addNumber_64 : decode cX5_addNumber 64 = .ok (.goto 60, 3) := by decide +kernel
theorem dX5_addNumber_67 : decode cX5_addNumber 67 = .ok (.aload_n 1, 1) := by decide +kernel
theorem dX5_addNumber_68 : decode cX5_addNumber 68 = .ok (.getstatic 91, 3) := by decide +kernel
theorem dX5_addNumber_71 : decode cX5_addNumber 71 = .ok (.if_acmp .ne 17, 3) := by decide +kernel
theorem dX5_addNumber_74 : decode cX5_addNumber 74 = .ok (.aload_n 0, 1) := by decide +kernel
theorem dX5_addNumber_75 : decode cX5_addNumber 75 = .ok (.getfield 18, 3) := by decide +kernel
theorem dX5_addNumber_78 : decode cX5_addNumber 78 = .ok (.sipush 366, 3) := by decide +kernel
theorem dX5_addNumber_81 : decode cX5_addNumber 81 = .ok (.iload_n 2, 1) := by decide +kernel
theorem dX5_addNumber_82 : decode cX5_addNumber 82 = .ok (.iadd, 1) := by decide +kernel
theorem dX5_addNumber_83 : decode cX5_addNumber 83 = .ok (.iconst 1, 1) := by decide +kernel
theorem dX5_addNumber_84 : decode cX5_addNumber 84 = .ok (.bastore, 1) := by decide +kernel
theorem dX5_addNumber_85 : decode cX5_addNumber 85 = .ok (.goto 39, 3) := by decide +kernel
theorem dX5_addNumber_88 : decode cX5_addNumber 88 = .ok (.iload_n 2, 1) := by decide +kernel
theorem dX5_addNumber_89 : decode cX5_addNumber 89 = .ok (.ifCond .le 20, 3) := by decide +kernel
theorem dX5_addNumber_92 : decode cX5_addNumber 92 = .ok (.aload_n 0, 1) := by decide +kernel
theorem dX5_addNumber_93 : decode cX5_addNumber 93 = .ok (.dup, 1) := by decide +kernel
theorem dX5_addNumber_94 : decode cX5_addNumber 94 = .ok (.getfield 52, 3) := by decide +kernel
theorem dX5_addNumber_97 : decode cX5_addNumber 97 = .ok (.iconst 1, 1) := by decide +kernel
theorem dX5_addNumber_98 : decode cX5_addNumber 98 = .ok (.iload_n 2, 1) := by decide +kernel
theorem dX5_addNumber_99 : decode cX5_addNumber 99 = .ok (.iconst 1, 1) := by decide +kernel
theorem dX5_addNumber_100 : decode cX5_addNumber 100 = .ok (.isub, 1) := by decide +kernel
theorem dX5_addNumber_101 : decode cX5_addNumber 101 = .ok (.ishl, 1) := by decide +kernel
theorem dX5_addNumber_102 : decode cX5_addNumber 102 = .ok (.ior, 1) := by decide +kernel
theorem dX5_addNumber_103 : decode cX5_addNumber 103 = .ok (.putfield 52, 3) := by decide +kernel
theorem dX5_addNumber_106 : decode cX5_addNumber 106 = .ok (.goto 18, 3) := by decide +kernel
theorem dX5_addNumber_109 : decode cX5_addNumber 109 = .ok (.aload_n 0, 1) := by decide +kernel
theorem dX5_addNumber_110 : decode cX5_addNumber 110 = .ok (.dup, 1) := by decide +kernel
theorem dX5_addNumber_111 : decode cX5_addNumber 111 = .ok (.getfield 55, 3) := by decide +kernel
theorem dX5_addNumber_114 : decode cX5_addNumber 114 = .ok (.iconst 1, 1) := by decide +kernel
theorem dX5_addNumber_115 : decode cX5_addNumber 115 = .ok (.bipush 31, 2) := by decide +kernel
theorem dX5_addNumber_117 : decode cX5_addNumber 117 = .ok (.iload_n 2, 1) := by decide +kernel
theorem dX5_addNumber_118 : decode cX5_addNumber 118 = .ok (.iadd, 1) := by decide +kernel
theorem dX5_addNumber_119 : decode cX5_addNumber 119 = .ok (.ishl, 1) := by decide +kernel
theorem dX5_addNumber_120 : decode cX5_addNumber 120 = .ok (.ior, 1) := by decide +kernel
theorem dX5_addNumber_121 : decode cX5_addNumber 121 = .ok (.putfield 55, 3) := by decide +kernel
theorem dX5_addNumber_124 : decode cX5_addNumber 124 = .ok (.return_, 1) := by decide +kernel
theorem dX5_addWeekday_0 : decode cX5_addWeekday 0 = .ok (.iload_n 2, 1) := by decide +kernel
theorem dX5_addWeekday_1 : decode cX5_addWeekday 1 = .ok (.ifCond .ne 16, 3) := by decide +kernel
theorem dX5_addWeekday_4 : decode cX5_addWeekday 4 = .ok (.aload_n 0, 1) := by decide +kernel
theorem dX5_addWeekday_5 : decode cX5_addWeekday 5 = .ok (.dup, 1) := by decide +kernel
theorem dX5_addWeekday_6 : decode cX5_addWeekday 6 = .ok (.getfield 58, 3) := by decide +kernel
theorem dX5_addWeekday_9 : decode cX5_addWeekday 9 = .ok (.iconst 1, 1) := by decide +kernel
theorem dX5_addWeekday_10 : decode cX5_addWeekday 10 = .ok (.iload_n 1, 1) := by decide +kernel
theorem dX5_addWeekday_11 : decode cX5_addWeekday 11 = .ok (.ishl, 1) := by decide +kernel
theorem dX5_addWeekday_12 : decode cX5_addWeekday 12 = .ok (.ior, 1) := by decide +kernel
theorem dX5_addWeekday_13 : decode cX5_addWeekday 13 = .ok (.putfield 58, 3) := by decide +kernel
theorem dX5_addWeekday_16 : decode cX5_addWeekday 16 = .ok (.return_, 1) := by decide +kernel
theorem dX5_addWeekday_17 : decode cX5_addWeekday 17 = .ok (.aload_n 0, 1) := by decide +kernel
theorem dX5_addWeekday_18 : decode cX5_addWeekday 18 = .ok (.dup, 1) := by decide +kernel
theorem dX5_addWeekday_19 : decode cX5_addWeekday 19 = .ok (.getfield 61, 3) := by decide +kernel
theorem dX5_addWeekday_22 : decode cX5_addWeekday 22 = .ok (.iconst 1, 1) := by decide +kernel
theorem dX5_addWeekday_23 : decode cX5_addWeekday 23 = .ok (.iload_n 1, 1) := by decide +kernel
theorem dX5_addWeekday_24 : decode cX5_addWeekday 24 = .ok (.ishl, 1) := by decide +kernel
theorem dX5_addWeekday_25 : decode cX5_addWeekday 25 = .ok (.ior, 1) := by decide +kernel
theorem dX5_addWeekday_26 : decode cX5_addWeekday 26 = .ok (.putfield 61, 3) := by decide +kernel
theorem dX5_addWeekday_29 : decode cX5_addWeekday 29 = .ok (.iload_n 2, 1) := by decide +kernel
theorem dX5_addWeekday_30 : decode cX5_addWeekday 30 = .ok (.ifCond .le 18, 3) := by decide +kernel
theorem dX5_addWeekday_33 : decode cX5_addWeekday 33 = .ok (.aload_n 0, 1) := by decide +kernel
theorem dX5_addWeekday_34 : decode cX5_addWeekday 34 = .ok (.getfield 9, 3) := by decide +kernel
theorem dX5_addWeekday_37 : decode cX5_addWeekday 37 = .ok (.iload_n 1, 1) := by decide +kernel
theorem dX5_addWeekday_38 : decode cX5_addWeekday 38 = .ok (.dup2, 1) := by decide +kernel
theorem dX5_addWeekday_39 : decode cX5_addWeekday 39 = .ok (.laload, 1) := by decide +kernel
theorem dX5_addWeekday_40 : decode cX5_addWeekday 40 = .ok (.lconst 1, 1) := by decide +kernel
theorem dX5_addWeekday_41 : decode cX5_addWeekday 41 = .ok (.iload_n 2, 1) := by decide +kernel
theorem dX5_addWeekday_42 : decode cX5_addWeekday 42 = .ok (.lshl, 1) := by decide +kernel
theorem dX5_addWeekday_43 : decode cX5_addWeekday 43 = .ok (.lor, 1) := by decide +kernel
theorem dX5_addWeekday_44 : decode cX5_addWeekday 44 = .ok (.lastore, 1) := by decide +kernel
theorem dX5_addWeekday_45 : decode cX5_addWeekday 45 = .ok (.goto 16, 3) := by decide +kernel
theorem dX5_addWeekday_48 : decode cX5_addWeekday 48 = .ok (.aload_n 0, 1) := by decide +kernel
theorem dX5_addWeekday_49 : decode cX5_addWeekday 49 = .ok (.getfield 15, 3) := by decide +kernel
theorem dX5_addWeekday_52 : decode cX5_addWeekday 52 = .ok (.iload_n 1, 1) := by decide +kernel
theorem dX5_addWeekday_53 : decode cX5_addWeekday 53 = .ok (.dup2, 1) := by decide +kernel
theorem dX5_addWeekday_54 : decode cX5_addWeekday 54 = .ok (.laload, 1) := by decide +kernel
theorem dX5_addWeekday_55 : decode cX5_addWeekday 55 = .ok (.lconst 1, 1) := by decide +kernel
theorem dX5_addWeekday_56 : decode cX5_addWeekday 56 = .ok (.iload_n 2, 1) := by decide +kernel
theorem dX5_addWeekday_57 : decode cX5_addWeekday 57 = .ok (.ineg, 1) := by decide +kernel
theorem dX5_addWeekday_58 : decode cX5_addWeekday 58 = .ok (.lshl, 1) := by decide +kernel
theorem dX5_addWeekday_59 : decode cX5_addWeekday 59 = .ok (.lor, 1) := by decide +kernel
theorem dX5_addWeekday_60 : decode cX5_addWeekday 60 = .ok (.lastore, 1) := by decide +kernel
theorem dX5_addWeekday_61 : decode cX5_addWeekday 61 = .ok (.return_, 1) := by decide +kernel
theorem dX5_isChosen_0 : decode cX5_isChosen 0 = .ok (.aload_n 0, 1) := by decide +kernel
theorem dX5_isChosen_1 : decode cX5_isChosen 1 = .ok (.getfield 18, 3) := by decide +kernel
theorem dX5_isChosen_4 : decode cX5_isChosen 4 = .ok (.sipush 366, 3) := by decide +kernel
theorem dX5_isChosen_7 : decode cX5_isChosen 7 = .ok (.iload_n 1, 1) := by decide +kernel
theorem dX5_isChosen_8 : decode cX5_isChosen 8 = .ok (.iadd, 1) := by decide +kernel
theorem dX5_isChosen_9 : decode cX5_isChosen 9 = .ok (.iconst 1, 1) := by decide +kernel
theorem dX5_isChosen_10 : decode cX5_isChosen 10 = .ok (.iadd, 1) := by decide +kernel
theorem dX5_isChosen_11 : decode cX5_isChosen 11 = .ok (.baload, 1) := by decide +kernel
theorem dX5_isChosen_12 : decode cX5_isChosen 12 = .ok (.ifCond .ne 18, 3) := by decide +kernel
theorem dX5_isChosen_15 : decode cX5_isChosen 15 = .ok (.aload_n 0, 1) := by decide +kernel
theorem dX5_isChosen_16 : decode cX5_isChosen 16 = .ok (.getfield 18, 3) := by decide +kernel
theorem dX5_isChosen_19 : decode cX5_isChosen 19 = .ok (.sipush 366, 3) := by decide +kernel
theorem dX5_isChosen_22 : decode cX5_isChosen 22 = .ok (.iload_n 1, 1) := by decide +kernel
theorem dX5_isChosen_23 : decode cX5_isChosen 23 = .ok (.iadd, 1) := by decide +kernel
theorem dX5_isChosen_24 : decode cX5_isChosen 24 = .ok (.iload_n 2, 1) := by decide +kernel
theorem dX5_isChosen_25 : decode cX5_isChosen 25 = .ok (.isub, 1) := by decide +kernel
theorem dX5_isChosen_26 : decode cX5_isChosen 26 = .ok (.baload, 1) := by decide +kernel
theorem dX5_isChosen_27 : decode cX5_isChosen 27 = .ok (.ifCond .eq 7, 3) := by decide +kernel
theorem dX5_isChosen_30 : decode cX5_isChosen 30 = .ok (.iconst 1, 1) := by decide +kernel
theorem dX5_isChosen_31 : decode cX5_isChosen 31 = .ok (.goto 4, 3) := by decide +kernel
theorem dX5_isChosen_34 : decode cX5_isChosen 34 = .ok (.iconst 0, 1) := by decide +kernel
theorem dX5_isChosen_35 : decode cX5_isChosen 35 = .ok (.ireturn, 1) := by decide +kernel
theorem dX5_goesTogether_0 : decode cX5_goesTogether 0 = .ok (.aload_n 0, 1) := by decide +kernel
theorem dX5_goesTogether_1 : decode cX5_goesTogether 1 = .ok (.getstatic 94, 3) := by decide +kernel
theorem dX5_goesTogether_4 : decode cX5_goesTogether 4 = .ok (.invokevirtual 97, 3) := by decide +kernel
theorem dX5_goesTogether_7 : decode cX5_goesTogether 7 = .ok (.ifCond .eq 23, 3) := by decide +kernel
theorem dX5_goesTogether_10 : decode cX5_goesTogether 10 = .ok (.aload_n 0, 1) := by decide +kernel
theorem dX5_goesTogether_11 : decode cX5_goesTogether 11 = .ok (.getstatic 82, 3) := by decide +kernel
theorem dX5_goesTogether_14 : decode cX5_goesTogether 14 = .ok (.invokevirtual 97, 3) := by decide +kernel
theorem dX5_goesTogether_17 : decode cX5_goesTogether 17 = .ok (.ifCond .eq 15, 3) := by decide +kernel
theorem dX5_goesTogether_20 : decode cX5_goesTogether 20 = .ok (.aload_n 0, 1) := by decide +kernel
theorem dX5_goesTogether_21 : decode cX5_goesTogether 21 = .ok (.getstatic 85, 3) := by decide +kernel
theorem dX5_goesTogether_24 : decode cX5_goesTogether 24 = .ok (.invokevirtual 97, 3) := by decide +kernel
theorem dX5_goesTogether_27 : decode cX5_goesTogether 27 = .ok (.ifCond .eq 5, 3) := by decide +kernel
theorem dX5_goesTogether_30 : decode cX5_goesTogether 30 = .ok (.iconst 0, 1) := by decide +kernel
theorem dX5_goesTogether_31 : decode cX5_goesTogether 31 = .ok (.ireturn, 1) := by decide +kernel
theorem dX5_goesTogether_32 : decode cX5_goesTogether 32 = .ok (.aload_n 0, 1) := by decide +kernel
theorem dX5_goesTogether_33 : decode cX5_goesTogether 33 = .ok (.getstatic 101, 3) := by decide +kernel
theorem dX5_goesTogether_36 : decode cX5_goesTogether 36 = .ok (.invokevirtual 97, 3) := by decide +kernel
theorem dX5_goesTogether_39 : decode cX5_goesTogether 39 = .ok (.ifCond .eq 15, 3) := by decide +kernel
theorem dX5_goesTogether_42 : decode cX5_goesTogether 42 = .ok (.aload_n 0, 1) := by decide +kernel
theorem dX5_goesTogether_43 : decode cX5_goesTogether 43 = .ok (.getfield 35, 3) := by decide +kernel
theorem dX5_goesTogether_46 : decode cX5_goesTogether 46 = .ok (.getstatic 104, 3) := by decide +kernel
theorem dX5_goesTogether_49 : decode cX5_goesTogether 49 = .ok (.if_acmp .ne 5, 3) := by decide +kernel
theorem dX5_goesTogether_52 : decode cX5_goesTogether 52 = .ok (.iconst 0, 1) := by decide +kernel
theorem dX5_goesTogether_53 : decode cX5_goesTogether 53 = .ok (.ireturn, 1) := by decide +kernel
theorem dX5_goesTogether_54 : decode cX5_goesTogether 54 = .ok (.aload_n 0, 1) := by decide +kernel
theorem dX5_goesTogether_55 : decode cX5_goesTogether 55 = .ok (.getfield 61, 3) := by decide +kernel
theorem dX5_goesTogether_58 : decode cX5_goesTogether 58 = .ok (.ifCond .eq 25, 3) := by decide +kernel
theorem dX5_goesTogether_61 : decode cX5_goesTogether 61 = .ok (.aload_n 0, 1) := by decide +kernel
theorem dX5_goesTogether_62 : decode cX5_goesTogether 62 = .ok (.getfield 35, 3) := by decide +kernel
theorem dX5_goesTogether_65 : decode cX5_goesTogether 65 = .ok (.getfield 107, 3) := by decide +kernel
theorem dX5_goesTogether_68 : decode cX5_goesTogether 68 = .ok (.ifCond .eq 13, 3) := by decide +kernel
theorem dX5_goesTogether_71 : decode cX5_goesTogether 71 = .ok (.aload_n 0, 1) := by decide +kernel
theorem dX5_goesTogether_72 : decode cX5_goesTogether 72 = .ok (.getstatic 101, 3) := by decide +kernel
theorem dX5_goesTogether_75 : decode cX5_goesTogether 75 = .ok (.invokevirtual 97, 3) := by decide +kernel
theorem dX5_goesTogether_78 : decode cX5_goesTogether 78 = .ok (.ifCond .eq 5, 3) := by decide +kernel
theorem dX5_goesTogether_81 : decode cX5_goesTogether 81 = .ok (.iconst 0, 1) := by decide +kernel
theorem dX5_goesTogether_82 : decode cX5_goesTogether 82 = .ok (.ireturn, 1) := by decide +kernel
theorem dX5_goesTogether_83 : decode cX5_goesTogether 83 = .ok (.aload_n 0, 1) := by decide +kernel
theorem dX5_goesTogether_84 : decode cX5_goesTogether 84 = .ok (.getstatic 91, 3) := by decide +kernel
theorem dX5_goesTogether_87 : decode cX5_goesTogether 87 = .ok (.invokevirtual 97, 3) := by decide +kernel
theorem dX5_goesTogether_90 : decode cX5_goesTogether 90 = .ok (.ifCond .eq 33, 3) := by decide +kernel
theorem dX5_goesTogether_93 : decode cX5_goesTogether 93 = .ok (.aload_n 0, 1) := by decide +kernel
theorem dX5_goesTogether_94 : decode cX5_goesTogether 94 = .ok (.getstatic 88, 3) := by decide +kernel
theorem dX5_goesTogether_97 : decode cX5_goesTogether 97 = .ok (.invokevirtual 97, 3) := by decide +kernel
theorem dX5_goesTogether_100 : decode cX5_goesTogether 100 = .ok (.ifCond .ne 23, 3) := by decide +kernel
theorem dX5_goesTogether_103 : decode cX5_goesTogether 103 = .ok (.aload_n 0, 1) := by decide +kernel
theorem dX5_goesTogether_104 : decode cX5_goesTogether 104 = .ok (.getstatic 101, 3) := by decide +kernel
theorem dX5_goesTogether_107 : decode cX5_goesTogether 107 = .ok (.invokevirtual 97, 3) := by decide +kernel
theorem dX5_goesTogether_110 : decode cX5_goesTogether 110 = .ok (.ifCond .ne 13, 3) := by decide +kernel
theorem dX5_goesTogether_113 : decode cX5_goesTogether 113 = .ok (.aload_n 0, 1) := by decide +kernel
theorem dX5_goesTogether_114 : decode cX5_goesTogether 114 = .ok (.getstatic 111, 3) := by decide +kernel
theorem dX5_goesTogether_117 : decode cX5_goesTogether 117 = .ok (.invokevirtual 97, 3) := by decide +kernel
theorem dX5_goesTogether_120 : decode cX5_goesTogether 120 = .ok (.ifCond .eq 7, 3) := by decide +kernel
theorem dX5_goesTogether_123 : decode cX5_goesTogether 123 = .ok (.iconst 1, 1) := by decide +kernel
theorem dX5_goesTogether_124 : decode cX5_goesTogether 124 = .ok (.goto 4, 3) := by decide +kernel
theorem dX5_goesTogether_127 : decode cX5_goesTogether 127 = .ok (.iconst 0, 1) := by decide +kernel
theorem dX5_goesTogether_128 : decode cX5_goesTogether 128 = .ok (.ireturn, 1) := by decide +kernel
theorem dX6_init_0 : decode cX6_init 0 = .ok (.aload_n 0, 1) := by decide +kernel
theorem dX6_init_1 : decode cX6_init 1 = .ok (.invokespecial 3, 3) := by decide +kernel
theorem dX6_init_4 : decode cX6_init 4 = .ok (.aload_n 0, 1) := by decide +kernel
theorem dX6_init_5 : decode cX6_init 5 = .ok (.sipush 3600, 3) := by decide +kernel
theorem dX6_init_8 : decode cX6_init 8 = .ok (.newarray .int, 2) := by decide +kernel
theorem dX6_init_10 : decode cX6_init 10 = .ok (.putfield 9, 3) := by decide +kernel
theorem dX6_init_13 : decode cX6_init 13 = .ok (.aload_n 0, 1) := by decide +kernel
theorem dX6_init_14 : decode cX6_init 14 = .ok (.sipush 3600, 3) := by decide +kernel
theorem dX6_init_17 : decode cX6_init 17 = .ok (.newarray .int, 2) := by decide +kernel
theorem dX6_init_19 : decode cX6_init 19 = .ok (.putfield 15, 3) := by decide +kernel
theorem dX6_init_22 : decode cX6_init 22 = .ok (.aload_n 0, 1) := by decide +kernel
theorem dX6_init_23 : decode cX6_init 23 = .ok (.sipush 3600, 3) := by decide +kernel
theorem dX6_init_26 : decode cX6_init 26 = .ok (.newarray .int, 2) := by decide +kernel
theorem dX6_init_28 : decode cX6_init 28 = .ok (.putfield 18, 3) := by decide +kernel
theorem dX6_init_31 : decode cX6_init 31 = .ok (.aload_n 0, 1) := by decide +kernel
theorem dX6_init_32 : decode cX6_init 32 = .ok (.iconst 0, 1) := by decide +kernel
theorem dX6_init_33 : decode cX6_init 33 = .ok (.putfield 21, 3) := by decide +kernel
theorem dX6_init_36 : decode cX6_init 36 = .ok (.return_, 1) := by decide +kernel
theorem dX6_begin_0 : decode cX6_begin 0 = .ok (.aload_n 0, 1) := by decide +kernel
theorem dX6_begin_1 : decode cX6_begin 1 = .ok (.getfield 9, 3) := by decide +kernel
theorem dX6_begin_4 : decode cX6_begin 4 = .ok (.iconst 0, 1) := by decide +kernel
theorem dX6_begin_5 : decode cX6_begin 5 = .ok (.invokestatic 25, 3) := by decide +kernel
theorem dX6_begin_8 : decode cX6_begin 8 = .ok (.aload_n 0, 1) := by decide +kernel
theorem dX6_begin_9 : decode cX6_begin 9 = .ok (.getfield 15, 3) := by decide +kernel
theorem dX6_begin_12 : decode cX6_begin 12 = .ok (.iconst 0, 1) := by decide +kernel
theorem dX6_begin_13 : decode cX6_begin 13 = .ok (.invokestatic 25, 3) := by decide +kernel
theorem dX6_begin_16 : decode cX6_begin 16 = .ok (.aload_n 0, 1) := by decide +kernel
theorem dX6_begin_17 : decode cX6_begin 17 = .ok (.getfield 18, 3) := by decide +kernel
theorem dX6_begin_20 : decode cX6_begin 20 = .ok (.iconst 0, 1) := by decide +kernel
theorem dX6_begin_21 : decode cX6_begin 21 = .ok (.invokestatic 25, 3) := by decide +kernel
theorem dX6_begin_24 : decode cX6_begin 24 = .ok (.aload_n 0, 1) := by decide +kernel
theorem dX6_begin_25 : decode cX6_begin 25 = .ok (.iconst 1, 1) := by decide +kernel
theorem dX6_begin_26 : decode cX6_begin 26 = .ok (.putfield 21, 3) := by decide +kernel
theorem dX6_begin_29 : decode cX6_begin 29 = .ok (.return_, 1) := by decide +kernel
theorem dX6_daysIn_0 : decode cX6_daysIn 0 = .ok (.aload_n 0, 1) := by decide +kernel
theorem dX6_daysIn_1 : decode cX6_daysIn 1 = .ok (.getfield 9, 3) := by decide +kernel
theorem dX6_daysIn_4 : decode cX6_daysIn 4 = .ok (.iload_n 1, 1) := by decide +kernel
theorem dX6_daysIn_5 : decode cX6_daysIn 5 = .ok (.iaload, 1) := by decide +kernel
theorem dX6_daysIn_6 : decode cX6_daysIn 6 = .ok (.aload_n 0, 1) := by decide +kernel
theorem dX6_daysIn_7 : decode cX6_daysIn 7 = .ok (.getfield 15, 3) := by decide +kernel
theorem dX6_daysIn_10 : decode cX6_daysIn 10 = .ok (.iload_n 1, 1) := by decide +kernel
theorem dX6_daysIn_11 : decode cX6_daysIn 11 = .ok (.iaload, 1) := by decide +kernel
theorem dX6_daysIn_12 : decode cX6_daysIn 12 = .ok (.ior, 1) := by decide +kernel
theorem dX6_daysIn_13 : decode cX6_daysIn 13 = .ok (.aload_n 0, 1) := by decide +kernel
theorem dX6_daysIn_14 : decode cX6_daysIn 14 = .ok (.getfield 18, 3) := by decide +kernel
theorem dX6_daysIn_17 : decode cX6_daysIn 17 = .ok (.iload_n 1, 1) := by decide +kernel
theorem dX6_daysIn_18 : decode cX6_daysIn 18 = .ok (.iaload, 1) := by decide +kernel
theorem dX6_daysIn_19 : decode cX6_daysIn 19 = .ok (.iconst (-1), 1) := by decide +kernel
theorem dX6_daysIn_20 : decode cX6_daysIn 20 = .ok (.ixor, 1) := by decide +kernel
theorem dX6_daysIn_21 : decode cX6_daysIn 21 = .ok (.iand, 1) := by decide +kernel
theorem dX6_daysIn_22 : decode cX6_daysIn 22 = .ok (.ireturn, 1) := by decide +kernel
theorem dX6_mark_0 : decode cX6_mark 0 = .ok (.iload_n 1, 1) := by decide +kernel
theorem dX6_mark_1 : decode cX6_mark 1 = .ok (.invokestatic 31, 3) := by decide +kernel
theorem dX6_mark_4 : decode cX6_mark 4 = .ok (.istore_n 3, 1) := by decide +kernel
theorem dX6_mark_5 : decode cX6_mark 5 = .ok (.iconst 1, 1) := by decide +kernel
theorem dX6_mark_6 : decode cX6_mark 6 = .ok (.iload_n 1, 1) := by decide +kernel
theorem dX6_mark_7 : decode cX6_mark 7 = .ok (.invokestatic 37, 3) := by decide +kernel
theorem dX6_mark_10 : decode cX6_mark 10 = .ok (.ishl, 1) := by decide +kernel
theorem dX6_mark_11 : decode cX6_mark 11 = .ok (.istore 4, 2) := by decide +kernel
theorem dX6_mark_13 : decode cX6_mark 13 = .ok (.aload_n 0, 1) := by decide +kernel
theorem dX6_mark_14 : decode cX6_mark 14 = .ok (.iload_n 3, 1) := by decide +kernel
theorem dX6_mark_15 : decode cX6_mark 15 = .ok (.iaload, 1) := by decide +kernel
theorem dX6_mark_16 : decode cX6_mark 16 = .ok (.iload 4, 2) := by decide +kernel
theorem dX6_mark_18 : decode cX6_mark 18 = .ok (.iand, 1) := by decide +kernel
theorem dX6_mark_19 : decode cX6_mark 19 = .ok (.ifCond .eq 7, 3) := by decide +kernel
theorem dX6_mark_22 : decode cX6_mark 22 = .ok (.iconst 1, 1) := by decide +kernel
theorem dX6_mark_23 : decode cX6_mark 23 = .ok (.goto 4, 3) := by decide +kernel
theorem dX6_mark_26 : decode cX6_mark 26 = .ok (.iconst 0, 1) := by decide +kernel
theorem dX6_mark_27 : decode cX6_mark 27 = .ok (.istore 5, 2) := by decide +kernel
theorem dX6_mark_29 : decode cX6_mark 29 = .ok (.aload_n 0, 1) := by decide +kernel
theorem dX6_mark_30 : decode cX6_mark 30 = .ok (.iload_n 3, 1) := by decide +kernel
theorem dX6_mark_31 : decode cX6_mark 31 = .ok (.iload_n 2, 1) := by decide +kernel
theorem dX6_mark_32 : decode cX6_mark 32 = .ok (.ifCond .eq 12, 3) := by decide +kernel
theorem dX6_mark_35 : decode cX6_mark 35 = .ok (.aload_n 0, 1) := by decide +kernel
theorem dX6_mark_36 : decode cX6_mark 36 = .ok (.iload_n 3, 1) := by decide +kernel
theorem dX6_mark_37 : decode cX6_mark 37 = .ok (.iaload, 1) := by decide +kernel
theorem dX6_mark_38 : decode cX6_mark 38 = .ok (.iload 4, 2) := by decide +kernel
theorem dX6_mark_40 : decode cX6_mark 40 = .ok (.ior, 1) := by decide +kernel
theorem dX6_mark_41 : decode cX6_mark 41 = .ok (.goto 11, 3) := by decide +kernel
theorem dX6_mark_44 : decode cX6_mark 44 = .ok (.aload_n 0, 1) := by decide +kernel
theorem dX6_mark_45 : decode cX6_mark 45 = .ok (.iload_n 3, 1) := by decide +kernel
theorem dX6_mark_46 : decode cX6_mark 46 = .ok (.iaload, 1) := by decide +kernel
theorem dX6_mark_47 : decode cX6_mark 47 = .ok (.iload 4, 2) := by decide +kernel
theorem dX6_mark_49 : decode cX6_mark 49 = .ok (.iconst (-1), 1) := by decide +kernel
theorem dX6_mark_50 : decode cX6_mark 50 = .ok (.ixor, 1) := by decide +kernel
theorem dX6_mark_51 : decode cX6_mark 51 = .ok (.iand, 1) := by decide +kernel
theorem dX6_mark_52 : decode cX6_mark 52 = .ok (.iastore, 1) := by decide +kernel
theorem dX6_mark_53 : decode cX6_mark 53 = .ok (.iload 5, 2) := by decide +kernel
theorem dX6_mark_55 : decode cX6_mark 55 = .ok (.ireturn, 1) := by decide +kernel
theorem dX7_init_0 : decode cX7_init 0 = .ok (.aload_n 0, 1) := by decide +kernel
theorem dX7_init_1 : decode cX7_init 1 = .ok (.invokespecial 1, 3) := by decide +kernel
theorem dX7_init_4 : decode cX7_init 4 = .ok (.aload_n 0, 1) := by decide +kernel
theorem dX7_init_5 : decode cX7_init 5 = .ok (.sipush 200, 3) := by decide +kernel
theorem dX7_init_8 : decode cX7_init 8 = .ok (.newarray .char, 2) := by decide +kernel
theorem dX7_init_10 : decode cX7_init 10 = .ok (.putfield 9, 3) := by decide +kernel
theorem dX7_init_13 : decode cX7_init 13 = .ok (.aload_n 0, 1) := by decide +kernel
theorem dX7_init_14 : decode cX7_init 14 = .ok (.iconst 0, 1) := by decide +kernel
theorem dX7_init_15 : decode cX7_init 15 = .ok (.putfield 13, 3) := by decide +kernel
theorem dX7_init_18 : decode cX7_init 18 = .ok (.aload_n 0, 1) := by decide +kernel
theorem dX7_init_19 : decode cX7_init 19 = .ok (.new 17, 3) := by decide +kernel
theorem dX7_init_22 : decode cX7_init 22 = .ok (.dup, 1) := by decide +kernel
theorem dX7_init_23 : decode cX7_init 23 = .ok (.invokespecial 19, 3) := by decide +kernel
theorem dX7_init_26 : decode cX7_init 26 = .ok (.putfield 20, 3) := by decide +kernel
theorem dX7_init_29 : decode cX7_init 29 = .ok (.aload_n 0, 1) := by decide +kernel
theorem dX7_init_30 : decode cX7_init 30 = .ok (.new 24, 3) := by decide +kernel
theorem dX7_init_33 : decode cX7_init 33 = .ok (.dup, 1) := by decide +kernel
theorem dX7_init_34 : decode cX7_init 34 = .ok (.invokespecial 26, 3) := by decide +kernel
theorem dX7_init_37 : decode cX7_init 37 = .ok (.putfield 27, 3) := by decide +kernel
theorem dX7_init_40 : decode cX7_init 40 = .ok (.aload_n 0, 1) := by decide +kernel
theorem dX7_init_41 : decode cX7_init 41 = .ok (.new 31, 3) := by decide +kernel
theorem dX7_init_44 : decode cX7_init 44 = .ok (.dup, 1) := by decide +kernel
theorem dX7_init_45 : decode cX7_init 45 = .ok (.aload_n 0, 1) := by decide +kernel
theorem dX7_init_46 : decode cX7_init 46 = .ok (.getfield 27, 3) := by decide +kernel
theorem dX7_init_49 : decode cX7_init 49 = .ok (.invokespecial 33, 3) := by decide +kernel
theorem dX7_init_52 : decode cX7_init 52 = .ok (.putfield 36, 3) := by decide +kernel
theorem dX7_init_55 : decode cX7_init 55 = .ok (.aload_n 0, 1) := by decide +kernel
theorem dX7_init_56 : decode cX7_init 56 = .ok (.new 40, 3) := by decide +kernel
theorem dX7_init_59 : decode cX7_init 59 = .ok (.dup, 1) := by decide +kernel
theorem dX7_init_60 : decode cX7_init 60 = .ok (.aload_n 0, 1) := by decide +kernel
theorem dX7_init_61 : decode cX7_init 61 = .ok (.getfield 20, 3) := by decide +kernel
theorem dX7_init_64 : decode cX7_init 64 = .ok (.aload_n 0, 1) := by decide +kernel
theorem dX7_init_65 : decode cX7_init 65 = .ok (.getfield 27, 3) := by decide +kernel
theorem dX7_init_68 : decode cX7_init 68 = .ok (.invokespecial 42, 3) := by decide +kernel
theorem dX7_init_71 : decode cX7_init 71 = .ok (.putfield 45, 3) := by decide +kernel
theorem dX7_init_74 : decode cX7_init 74 = .ok (.aload_n 0, 1) := by decide +kernel
theorem dX7_init_75 : decode cX7_init 75 = .ok (.bipush 12, 2) := by decide +kernel
theorem dX7_init_77 : decode cX7_init 77 = .ok (.anewarray 49, 3) := by decide +kernel
theorem dX7_init_80 : decode cX7_init 80 = .ok (.putfield 51, 3) := by decide +kernel
theorem dX7_init_83 : decode cX7_init 83 = .ok (.aload_n 0, 1) := by decide +kernel
theorem dX7_init_84 : decode cX7_init 84 = .ok (.sipush 300, 3) := by decide +kernel
theorem dX7_init_87 : decode cX7_init 87 = .ok (.newarray .long, 2) := by decide +kernel
theorem dX7_init_89 : decode cX7_init 89 = .ok (.putfield 55, 3) := by decide +kernel
theorem dX7_init_92 : decode cX7_init 92 = .ok (.aload_n 0, 1) := by decide +kernel
theorem dX7_init_93 : decode cX7_init 93 = .ok (.iconst 0, 1) := by decide +kernel
theorem dX7_init_94 : decode cX7_init 94 = .ok (.putfield 59, 3) := by decide +kernel
theorem dX7_init_97 : decode cX7_init 97 = .ok (.aload_n 0, 1) := by decide +kernel
theorem dX7_init_98 : decode cX7_init 98 = .ok (.iconst 4, 1) := by decide +kernel
theorem dX7_init_99 : decode cX7_init 99 = .ok (.newarray .int, 2) := by decide +kernel
theorem dX7_init_101 : decode cX7_init 101 = .ok (.putfield 62, 3) := by decide +kernel
theorem dX7_init_104 : decode cX7_init 104 = .ok (.return_, 1) := by decide +kernel
theorem dX7_feed_0 : decode cX7_feed 0 = .ok (.iload_n 1, 1) := by decide +kernel
theorem dX7_feed_1 : decode cX7_feed 1 = .ok (.iconst 1, 1) := by decide +kernel
theorem dX7_feed_2 : decode cX7_feed 2 = .ok (.if_icmp .lt 9, 3) := by decide +kernel
theorem dX7_feed_5 : decode cX7_feed 5 = .ok (.iload_n 1, 1) := by decide +kernel
theorem dX7_feed_6 : decode cX7_feed 6 = .ok (.bipush 8, 2) := by decide +kernel
theorem dX7_feed_8 : decode cX7_feed 8 = .ok (.if_icmp .le 11, 3) := by decide +kernel
theorem dX7_feed_11 : decode cX7_feed 11 = .ok (.new 66, 3) := by decide +kernel
theorem dX7_feed_14 : decode cX7_feed 14 = .ok (.dup, 1) := by decide +kernel
theorem dX7_feed_15 : decode cX7_feed 15 = .ok (.invokespecial 68, 3) := by decide +kernel
theorem dX7_feed_18 : decode cX7_feed 18 = .ok (.athrow, 1) := by decide +kernel
theorem dX7_feed_19 : decode cX7_feed 19 = .ok (.aload_n 0, 1) := by decide +kernel
theorem dX7_feed_20 : decode cX7_feed 20 = .ok (.getfield 13, 3) := by decide +kernel
theorem dX7_feed_23 : decode cX7_feed 23 = .ok (.iload_n 1, 1) := by decide +kernel
theorem dX7_feed_24 : decode cX7_feed 24 = .ok (.iadd, 1) := by decide +kernel
theorem dX7_feed_25 : decode cX7_feed 25 = .ok (.sipush 200, 3) := by decide +kernel
theorem dX7_feed_28 : decode cX7_feed 28 = .ok (.if_icmp .le 5, 3) := by decide +kernel
theorem dX7_feed_31 : decode cX7_feed 31 = .ok (.iconst (-1), 1) := by decide +kernel
theorem dX7_feed_32 : decode cX7_feed 32 = .ok (.ireturn, 1) := by decide +kernel
theorem dX7_feed_33 : decode cX7_feed 33 = .ok (.iconst 0, 1) := by decide +kernel
theorem dX7_feed_34 : decode cX7_feed 34 = .ok (.istore 4, 2) := by decide +kernel
theorem dX7_feed_36 : decode cX7_feed 36 = .ok (.iload 4, 2) := by decide +kernel
theorem dX7_feed_38 : decode cX7_feed 38 = .ok (.iload_n 1, 1) := by decide +kernel
theorem dX7_feed_39 : decode cX7_feed 39 = .ok (.if_icmp .ge 34, 3) := by decide +kernel
theorem dX7_feed_42 : decode cX7_feed 42 = .ok (.aload_n 0, 1) := by decide +kernel
theorem dX7_feed_43 : decode cX7_feed 43 = .ok (.getfield 9, 3) := by decide +kernel
theorem dX7_feed_46 : decode cX7_feed 46 = .ok (.aload_n 0, 1) := by decide +kernel
theorem dX7_feed_47 : decode cX7_feed 47 = .ok (.getfield 13, 3) := by decide +kernel
theorem dX7_feed_50 : decode cX7_feed 50 = .ok (.iload 4, 2) := by decide +kernel
theorem dX7_feed_52 : decode cX7_feed 52 = .ok (.iadd, 1) := by decide +kernel
theorem dX7_feed_53 : decode cX7_feed 53 = .ok (.lload_n 2, 1) := by decide +kernel
theorem dX7_feed_54 : decode cX7_feed 54 = .ok (.bipush 8, 2) := by decide +kernel
theorem dX7_feed_56 : decode cX7_feed 56 = .ok (.iload 4, 2) := by decide +kernel
theorem dX7_feed_58 : decode cX7_feed 58 = .ok (.imul, 1) := by decide +kernel
theorem dX7_feed_59 : decode cX7_feed 59 = .ok (.lushr, 1) := by decide +kernel
theorem dX7_feed_60 : decode cX7_feed 60 = .ok (.ldc2_w 69, 3) := by decide +kernel
theorem dX7_feed_63 : decode cX7_feed 63 = .ok (.land, 1) := by decide +kernel
theorem dX7_feed_64 : decode cX7_feed 64 = .ok (.l2i, 1) := by decide +kernel
theorem dX7_feed_65 : decode cX7_feed 65 = .ok (.i2c, 1) := by decide +kernel
theorem dX7_feed_66 : decode cX7_feed 66 = .ok (.castore, 1) := by decide +kernel
theorem dX7_feed_67 : decode cX7_feed 67 = .ok (.iinc 4 1, 3) := by decide +kernel
theorem dX7_feed_70 : decode cX7_feed 70 = .ok (.goto (-34), 3) := by decide +kernel
theorem dX7_feed_73 : decode cX7_feed 73 = .ok (.aload_n 0, 1) := by decide +kernel
theorem dX7_feed_74 : decode cX7_feed 74 = .ok (.dup, 1) := by decide +kernel
theorem dX7_feed_75 : decode cX7_feed 75 = .ok (.getfield 13, 3) := by decide +kernel
theorem dX7_feed_78 : decode cX7_feed 78 = .ok (.iload_n 1, 1) := by decide +kernel
theorem dX7_feed_79 : decode cX7_feed 79 = .ok (.iadd, 1) := by decide +kernel
theorem dX7_feed_80 : decode cX7_feed 80 = .ok (.putfield 13, 3) := by decide +kernel
theorem dX7_feed_83 : decode cX7_feed 83 = .ok (.aload_n 0, 1) := by decide +kernel
theorem dX7_feed_84 : decode cX7_feed 84 = .ok (.getfield 13, 3) := by decide +kernel
theorem dX7_feed_87 : decode cX7_feed 87 = .ok (.ireturn, 1) := by decide +kernel
theorem dX7_wipe_0 : decode cX7_wipe 0 = .ok (.aload_n 0, 1) := by decide +kernel
theorem dX7_wipe_1 : decode cX7_wipe 1 = .ok (.getfield 13, 3) := by decide +kernel
theorem dX7_wipe_4 : decode cX7_wipe 4 = .ok (.istore_n 1, 1) := by decide +kernel
theorem dX7_wipe_5 : decode cX7_wipe 5 = .ok (.aload_n 0, 1) := by decide +kernel
theorem dX7_wipe_6 : decode cX7_wipe 6 = .ok (.iconst 0, 1) := by decide +kernel
theorem dX7_wipe_7 : decode cX7_wipe 7 = .ok (.putfield 13, 3) := by decide +kernel
theorem dX7_wipe_10 : decode cX7_wipe 10 = .ok (.iload_n 1, 1) := by decide +kernel
theorem dX7_wipe_11 : decode cX7_wipe 11 = .ok (.ireturn, 1) := by decide +kernel
theorem dX7_thing_0 : decode cX7_thing 0 = .ok (.iload_n 1, 1) := by decide +kernel
theorem dX7_thing_1 : decode cX7_thing 1 = .ok (.invokestatic 71, 3) := by decide +kernel
theorem dX7_thing_4 : decode cX7_thing 4 = .ok (.aload_n 0, 1) := by decide +kernel
theorem dX7_thing_5 : decode cX7_thing 5 = .ok (.invokevirtual 75, 3) := by decide +kernel
theorem dX7_thing_8 : decode cX7_thing 8 = .ok (.istore_n 2, 1) := by decide +kernel
theorem dX7_thing_9 : decode cX7_thing 9 = .ok (.iload_n 2, 1) := by decide +kernel
theorem dX7_thing_10 : decode cX7_thing 10 = .ok (.iconst (-1), 1) := by decide +kernel
theorem dX7_thing_11 : decode cX7_thing 11 = .ok (.if_icmp .ne 5, 3) := by decide +kernel
theorem dX7_thing_14 : decode cX7_thing 14 = .ok (.iconst (-1), 1) := by decide +kernel
theorem dX7_thing_15 : decode cX7_thing 15 = .ok (.ireturn, 1) := by decide +kernel
theorem dX7_thing_16 : decode cX7_thing 16 = .ok (.aload_n 0, 1) := by decide +kernel
theorem dX7_thing_17 : decode cX7_thing 17 = .ok (.getfield 36, 3) := by decide +kernel
theorem dX7_thing_20 : decode cX7_thing 20 = .ok (.aload_n 0, 1) := by decide +kernel
theorem dX7_thing_21 : decode cX7_thing 21 = .ok (.getfield 9, 3) := by decide +kernel
theorem dX7_thing_24 : decode cX7_thing 24 = .ok (.aload_n 0, 1) := by decide +kernel
theorem dX7_thing_25 : decode cX7_thing 25 = .ok (.getfield 13, 3) := by decide +kernel
theorem dX7_thing_28 : decode cX7_thing 28 = .ok (.invokevirtual 79, 3) := by decide +kernel
theorem dX7_thing_31 : decode cX7_thing 31 = .ok (.aload_n 0, 1) := by decide +kernel
theorem dX7_thing_32 : decode cX7_thing 32 = .ok (.getfield 36, 3) := by decide +kernel
theorem dX7_thing_35 : decode cX7_thing 35 = .ok (.getfield 83, 3) := by decide +kernel
theorem dX7_thing_38 : decode cX7_thing 38 = .ok (.ifCond .eq 5, 3) := by decide +kernel
theorem dX7_thing_41 : decode cX7_thing 41 = .ok (.iconst (-1), 1) := by decide +kernel
theorem dX7_thing_42 : decode cX7_thing 42 = .ok (.ireturn, 1) := by decide +kernel
theorem dX7_thing_43 : decode cX7_thing 43 = .ok (.aload_n 0, 1) := by decide +kernel
theorem dX7_thing_44 : decode cX7_thing 44 = .ok (.getfield 51, 3) := by decide +kernel
theorem dX7_thing_47 : decode cX7_thing 47 = .ok (.iload_n 2, 1) := by decide +kernel
theorem dX7_thing_48 : decode cX7_thing 48 = .ok (.aaload, 1) := by decide +kernel
theorem dX7_thing_49 : decode cX7_thing 49 = .ok (.astore_n 3, 1) := by decide +kernel
theorem dX7_thing_50 : decode cX7_thing 50 = .ok (.aload_n 3, 1) := by decide +kernel
theorem dX7_thing_51 : decode cX7_thing 51 = .ok (.ifnonnull 18, 3) := by decide +kernel
theorem dX7_thing_54 : decode cX7_thing 54 = .ok (.new 49, 3) := by decide +kernel
theorem dX7_thing_57 : decode cX7_thing 57 = .ok (.dup, 1) := by decide +kernel
theorem dX7_thing_58 : decode cX7_thing 58 = .ok (.invokespecial 86, 3) := by decide +kernel
theorem dX7_thing_61 : decode cX7_thing 61 = .ok (.astore_n 3, 1) := by decide +kernel
theorem dX7_thing_62 : decode cX7_thing 62 = .ok (.aload_n 0, 1) := by decide +kernel
theorem dX7_thing_63 : decode cX7_thing 63 = .ok (.getfield 51, 3) := by decide +kernel
theorem dX7_thing_66 : decode cX7_thing 66 = .ok (.iload_n 2, 1) := by decide +kernel
theorem dX7_thing_67 : decode cX7_thing 67 = .ok (.aload_n 3, 1) := by decide +kernel
theorem dX7_thing_68 : decode cX7_thing 68 = .ok (.aastore, 1) := by decide +kernel
theorem dX7_thing_69 : decode cX7_thing 69 = .ok (.aload_n 3, 1) := by decide +kernel
theorem dX7_thing_70 : decode cX7_thing 70 = .ok (.invokevirtual 87, 3) := by decide +kernel
theorem dX7_thing_73 : decode cX7_thing 73 = .ok (.aload_n 0, 1) := by decide +kernel
theorem dX7_thing_74 : decode cX7_thing 74 = .ok (.getfield 45, 3) := by decide +kernel
theorem dX7_thing_77 : decode cX7_thing 77 = .ok (.aload_n 3, 1) := by decide +kernel
theorem dX7_thing_78 : decode cX7_thing 78 = .ok (.getfield 90, 3) := by decide +kernel
theorem dX7_thing_81 : decode cX7_thing 81 = .ok (.iload_n 1, 1) := by decide +kernel
theorem dX7_thing_82 : decode cX7_thing 82 = .ok (.invokevirtual 93, 3) := by decide +kernel
theorem dX7_thing_85 : decode cX7_thing 85 = .ok (.iload_n 2, 1) := by decide +kernel
theorem dX7_thing_86 : decode cX7_thing 86 = .ok (.ireturn, 1) := by decide +kernel
theorem dX7_fault_0 : decode cX7_fault 0 = .ok (.aload_n 0, 1) := by decide +kernel
theorem dX7_fault_1 : decode cX7_fault 1 = .ok (.getfield 36, 3) := by decide +kernel
theorem dX7_fault_4 : decode cX7_fault 4 = .ok (.getfield 83, 3) := by decide +kernel
theorem dX7_fault_7 : decode cX7_fault 7 = .ok (.ireturn, 1) := by decide +kernel
theorem dX7_place_0 : decode cX7_place 0 = .ok (.aload_n 0, 1) := by decide +kernel
theorem dX7_place_1 : decode cX7_place 1 = .ok (.getfield 36, 3) := by decide +kernel
theorem dX7_place_4 : decode cX7_place 4 = .ok (.getfield 97, 3) := by decide +kernel
theorem dX7_place_7 : decode cX7_place 7 = .ok (.ireturn, 1) := by decide +kernel
theorem dX7_drop_0 : decode cX7_drop 0 = .ok (.aload_n 0, 1) := by decide +kernel
theorem dX7_drop_1 : decode cX7_drop 1 = .ok (.iload_n 1, 1) := by decide +kernel
theorem dX7_drop_2 : decode cX7_drop 2 = .ok (.invokevirtual 100, 3) := by decide +kernel
theorem dX7_drop_5 : decode cX7_drop 5 = .ok (.iconst 0, 1) := by decide +kernel
theorem dX7_drop_6 : decode cX7_drop 6 = .ok (.putfield 104, 3) := by decide +kernel
theorem dX7_drop_9 : decode cX7_drop 9 = .ok (.return_, 1) := by decide +kernel
theorem dX7_except_0 : decode cX7_except 0 = .ok (.aload_n 0, 1) := by decide +kernel
theorem dX7_except_1 : decode cX7_except 1 = .ok (.iload_n 1, 1) := by decide +kernel
theorem dX7_except_2 : decode cX7_except 2 = .ok (.invokevirtual 100, 3) := by decide +kernel
theorem dX7_except_5 : decode cX7_except 5 = .ok (.astore 4, 2) := by decide +kernel
theorem dX7_except_7 : decode cX7_except 7 = .ok (.iload_n 2, 1) := by decide +kernel
theorem dX7_except_8 : decode cX7_except 8 = .ok (.invokestatic 71, 3) := by decide +kernel
theorem dX7_except_11 : decode cX7_except 11 = .ok (.aload 4, 2) := by decide +kernel
theorem dX7_except_13 : decode cX7_except 13 = .ok (.getfield 108, 3) := by decide +kernel
theorem dX7_except_16 : decode cX7_except 16 = .ok (.iload_n 2, 1) := by decide +kernel
theorem dX7_except_17 : decode cX7_except 17 = .ok (.iload_n 3, 1) := by decide +kernel
theorem dX7_except_18 : decode cX7_except 18 = .ok (.invokestatic 111, 3) := by decide +kernel
theorem dX7_except_21 : decode cX7_except 21 = .ok (.ireturn, 1) := by decide +kernel
theorem dX7_besides_0 : decode cX7_besides 0 = .ok (.aload_n 0, 1) := by decide +kernel
theorem dX7_besides_1 : decode cX7_besides 1 = .ok (.iload_n 1, 1) := by decide +kernel
theorem dX7_besides_2 : decode cX7_besides 2 = .ok (.invokevirtual 100, 3) := by decide +kernel
theorem dX7_besides_5 : decode cX7_besides 5 = .ok (.astore 4, 2) := by decide +kernel
theorem dX7_besides_7 : decode cX7_besides 7 = .ok (.iload_n 2, 1) := by decide +kernel
theorem dX7_besides_8 : decode cX7_besides 8 = .ok (.invokestatic 71, 3) := by decide +kernel
theorem dX7_besides_11 : decode cX7_besides 11 = .ok (.aload 4, 2) := by decide +kernel
theorem dX7_besides_13 : decode cX7_besides 13 = .ok (.getfield 115, 3) := by decide +kernel
theorem dX7_besides_16 : decode cX7_besides 16 = .ok (.iload_n 2, 1) := by decide +kernel
theorem dX7_besides_17 : decode cX7_besides 17 = .ok (.iload_n 3, 1) := by decide +kernel
theorem dX7_besides_18 : decode cX7_besides 18 = .ok (.invokestatic 111, 3) := by decide +kernel
theorem dX7_besides_21 : decode cX7_besides 21 = .ok (.ireturn, 1) := by decide +kernel
theorem dX7_comes_0 : decode cX7_comes 0 = .ok (.aload_n 0, 1) := by decide +kernel
theorem dX7_comes_1 : decode cX7_comes 1 = .ok (.iload_n 1, 1) := by decide +kernel
theorem dX7_comes_2 : decode cX7_comes 2 = .ok (.invokevirtual 100, 3) := by decide +kernel
theorem dX7_comes_5 : decode cX7_comes 5 = .ok (.astore_n 3, 1) := by decide +kernel
theorem dX7_comes_6 : decode cX7_comes 6 = .ok (.iload_n 2, 1) := by decide +kernel
theorem dX7_comes_7 : decode cX7_comes 7 = .ok (.invokestatic 71, 3) := by decide +kernel
theorem dX7_comes_10 : decode cX7_comes 10 = .ok (.aload_n 3, 1) := by decide +kernel
theorem dX7_comes_11 : decode cX7_comes 11 = .ok (.iload_n 2, 1) := by decide +kernel
theorem dX7_comes_12 : decode cX7_comes 12 = .ok (.invokestatic 118, 3) := by decide +kernel
theorem dX7_comes_15 : decode cX7_comes 15 = .ok (.invokevirtual 122, 3) := by decide +kernel
theorem dX7_comes_18 : decode cX7_comes 18 = .ok (.iconst 1, 1) := by decide +kernel
theorem dX7_comes_19 : decode cX7_comes 19 = .ok (.iload_n 2, 1) := by decide +kernel
theorem dX7_comes_20 : decode cX7_comes 20 = .ok (.invokestatic 125, 3) := by decide +kernel
theorem dX7_comes_23 : decode cX7_comes 23 = .ok (.ishl, 1) := by decide +kernel
theorem dX7_comes_24 : decode cX7_comes 24 = .ok (.iand, 1) := by decide +kernel
theorem dX7_comes_25 : decode cX7_comes 25 = .ok (.ifCond .eq 7, 3) := by decide +kernel
theorem dX7_comes_28 : decode cX7_comes 28 = .ok (.iconst 1, 1) := by decide +kernel
theorem dX7_comes_29 : decode cX7_comes 29 = .ok (.goto 4, 3) := by decide +kernel
theorem dX7_comes_32 : decode cX7_comes 32 = .ok (.iconst 0, 1) := by decide +kernel
theorem dX7_comes_33 : decode cX7_comes 33 = .ok (.ireturn, 1) := by decide +kernel
theorem dX7_next_0 : decode cX7_next 0 = .ok (.aload_n 0, 1) := by decide +kernel
theorem dX7_next_1 : decode cX7_next 1 = .ok (.iload_n 1, 1) := by decide +kernel
theorem dX7_next_2 : decode cX7_next 2 = .ok (.invokevirtual 100, 3) := by decide +kernel
theorem dX7_next_5 : decode cX7_next 5 = .ok (.astore_n 3, 1) := by decide +kernel
theorem dX7_next_6 : decode cX7_next 6 = .ok (.iload_n 2, 1) := by decide +kernel
theorem dX7_next_7 : decode cX7_next 7 = .ok (.invokestatic 71, 3) := by decide +kernel
theorem dX7_next_10 : decode cX7_next 10 = .ok (.iload_n 2, 1) := by decide +kernel
theorem dX7_next_11 : decode cX7_next 11 = .ok (.invokestatic 118, 3) := by decide +kernel
theorem dX7_next_14 : decode cX7_next 14 = .ok (.istore 4, 2) := by decide +kernel
theorem dX7_next_16 : decode cX7_next 16 = .ok (.bipush (-2), 2) := by decide +kernel
theorem dX7_next_18 : decode cX7_next 18 = .ok (.iload_n 2, 1) := by decide +kernel
theorem dX7_next_19 : decode cX7_next 19 = .ok (.invokestatic 125, 3) := by decide +kernel
theorem dX7_next_22 : decode cX7_next 22 = .ok (.ishl, 1) := by decide +kernel
theorem dX7_next_23 : decode cX7_next 23 = .ok (.istore 5, 2) := by decide +kernel
theorem dX7_next_25 : decode cX7_next 25 = .ok (.iload 4, 2) := by decide +kernel
theorem dX7_next_27 : decode cX7_next 27 = .ok (.istore 6, 2) := by decide +kernel
theorem dX7_next_29 : decode cX7_next 29 = .ok (.iload 6, 2) := by decide +kernel
theorem dX7_next_31 : decode cX7_next 31 = .ok (.sipush 3600, 3) := by decide +kernel
theorem dX7_next_34 : decode cX7_next 34 = .ok (.if_icmp .ge 48, 3) := by decide +kernel
theorem dX7_next_37 : decode cX7_next 37 = .ok (.aload_n 3, 1) := by decide +kernel
theorem dX7_next_38 : decode cX7_next 38 = .ok (.iload 6, 2) := by decide +kernel
theorem dX7_next_40 : decode cX7_next 40 = .ok (.invokevirtual 122, 3) := by decide +kernel
theorem dX7_next_43 : decode cX7_next 43 = .ok (.iload 6, 2) := by decide +kernel
theorem dX7_next_45 : decode cX7_next 45 = .ok (.iload 4, 2) := by decide +kernel
theorem dX7_next_47 : decode cX7_next 47 = .ok (.if_icmp .ne 8, 3) := by decide +kernel
theorem dX7_next_50 : decode cX7_next 50 = .ok (.iload 5, 2) := by decide +kernel
theorem dX7_next_52 : decode cX7_next 52 = .ok (.goto 5, 3) := by decide +kernel
theorem dX7_next_55 : decode cX7_next 55 = .ok (.ldc 128, 2) := by decide +kernel
theorem dX7_next_57 : decode cX7_next 57 = .ok (.iand, 1) := by decide +kernel
theorem dX7_next_58 : decode cX7_next 58 = .ok (.istore 7, 2) := by decide +kernel
theorem dX7_next_60 : decode cX7_next 60 = .ok (.iload 7, 2) := by decide +kernel
theorem dX7_next_62 : decode cX7_next 62 = .ok (.ifCond .eq 14, 3) := by decide +kernel
theorem dX7_next_65 : decode cX7_next 65 = .ok (.iload 6, 2) := by decide +kernel
theorem dX7_next_67 : decode cX7_next 67 = .ok (.iload 7, 2) := by decide +kernel
theorem dX7_next_69 : decode cX7_next 69 = .ok (.invokestatic 129, 3) := by decide +kernel
theorem dX7_next_72 : decode cX7_next 72 = .ok (.invokestatic 134, 3) := by decide +kernel
theorem dX7_next_75 : decode cX7_next 75 = .ok (.ireturn, 1) := by decide +kernel
theorem dX7_next_76 : decode cX7_next 76 = .ok (.iinc 6 1, 3) := by decide +kernel
theorem dX7_next_79 : decode cX7_next 79 = .ok (.goto (-50), 3) := by decide +kernel
theorem dX7_next_82 : decode cX7_next 82 = .ok (.iconst (-1), 1) := by decide +kernel
theorem dX7_next_83 : decode cX7_next 83 = .ok (.ireturn, 1) := by decide +kernel
theorem dX7_date_0 : decode cX7_date 0 = .ok (.aload_n 0, 1) := by decide +kernel
theorem dX7_date_1 : decode cX7_date 1 = .ok (.iload_n 1, 1) := by decide +kernel
theorem dX7_date_2 : decode cX7_date 2 = .ok (.invokevirtual 100, 3) := by decide +kernel
theorem dX7_date_5 : decode cX7_date 5 = .ok (.astore_n 3, 1) := by decide +kernel
theorem dX7_date_6 : decode cX7_date 6 = .ok (.iload_n 2, 1) := by decide +kernel
theorem dX7_date_7 : decode cX7_date 7 = .ok (.ifCond .ge 11, 3) := by decide +kernel
theorem dX7_date_10 : decode cX7_date 10 = .ok (.new 66, 3) := by decide +kernel
theorem dX7_date_13 : decode cX7_date 13 = .ok (.dup, 1) := by decide +kernel
theorem dX7_date_14 : decode cX7_date 14 = .ok (.invokespecial 68, 3) := by decide +kernel
theorem dX7_date_17 : decode cX7_date 17 = .ok (.athrow, 1) := by decide +kernel
theorem dX7_date_18 : decode cX7_date 18 = .ok (.iload_n 2, 1) := by decide +kernel
theorem dX7_date_19 : decode cX7_date 19 = .ok (.istore 4, 2) := by decide +kernel
theorem dX7_date_21 : decode cX7_date 21 = .ok (.iconst 0, 1) := by decide +kernel
theorem dX7_date_22 : decode cX7_date 22 = .ok (.istore 5, 2) := by decide +kernel
theorem dX7_date_24 : decode cX7_date 24 = .ok (.iload 5, 2) := by decide +kernel
theorem dX7_date_26 : decode cX7_date 26 = .ok (.sipush 3600, 3) := by decide +kernel
theorem dX7_date_29 : decode cX7_date 29 = .ok (.if_icmp .ge 63, 3) := by decide +kernel
theorem dX7_date_32 : decode cX7_date 32 = .ok (.aload_n 3, 1) := by decide +kernel
theorem dX7_date_33 : decode cX7_date 33 = .ok (.iload 5, 2) := by decide +kernel
theorem dX7_date_35 : decode cX7_date 35 = .ok (.invokevirtual 122, 3) := by decide +kernel
theorem dX7_date_38 : decode cX7_date 38 = .ok (.istore 6, 2) := by decide +kernel
theorem dX7_date_40 : decode cX7_date 40 = .ok (.iload 6, 2) := by decide +kernel
theorem dX7_date_42 : decode cX7_date 42 = .ok (.invokestatic 138, 3) := by decide +kernel
theorem dX7_date_45 : decode cX7_date 45 = .ok (.istore 7, 2) := by decide +kernel
theorem dX7_date_47 : decode cX7_date 47 = .ok (.iload 4, 2) := by decide +kernel
theorem dX7_date_49 : decode cX7_date 49 = .ok (.iload 7, 2) := by decide +kernel
theorem dX7_date_51 : decode cX7_date 51 = .ok (.if_icmp .ge 28, 3) := by decide +kernel
theorem dX7_date_54 : decode cX7_date 54 = .ok (.iload 6, 2) := by decide +kernel
theorem dX7_date_56 : decode cX7_date 56 = .ok (.iload 6, 2) := by decide +kernel
theorem dX7_date_58 : decode cX7_date 58 = .ok (.iload 4, 2) := by decide +kernel
theorem dX7_date_60 : decode cX7_date 60 = .ok (.invokestatic 141, 3) := by decide +kernel
theorem dX7_date_63 : decode cX7_date 63 = .ok (.iconst (-1), 1) := by decide +kernel
theorem dX7_date_64 : decode cX7_date 64 = .ok (.ixor, 1) := by decide +kernel
theorem dX7_date_65 : decode cX7_date 65 = .ok (.iand, 1) := by decide +kernel
theorem dX7_date_66 : decode cX7_date 66 = .ok (.istore 8, 2) := by decide +kernel
theorem dX7_date_68 : decode cX7_date 68 = .ok (.iload 5, 2) := by decide +kernel
theorem dX7_date_70 : decode cX7_date 70 = .ok (.iload 8, 2) := by decide +kernel
theorem dX7_date_72 : decode cX7_date 72 = .ok (.invokestatic 129, 3) := by decide +kernel
theorem dX7_date_75 : decode cX7_date 75 = .ok (.invokestatic 134, 3) := by decide +kernel
theorem dX7_date_78 : decode cX7_date 78 = .ok (.ireturn, 1) := by decide +kernel
theorem dX7_date_79 : decode cX7_date 79 = .ok (.iload 4, 2) := by decide +kernel
theorem dX7_date_81 : decode cX7_date 81 = .ok (.iload 7, 2) := by decide +kernel
theorem dX7_date_83 : decode cX7_date 83 = .ok (.isub, 1) := by decide +kernel
theorem dX7_date_84 : decode cX7_date 84 = .ok (.istore 4, 2) := by decide +kernel
theorem dX7_date_86 : decode cX7_date 86 = .ok (.iinc 5 1, 3) := by decide +kernel
theorem dX7_date_89 : decode cX7_date 89 = .ok (.goto (-65), 3) := by decide +kernel
theorem dX7_date_92 : decode cX7_date 92 = .ok (.iconst (-1), 1) := by decide +kernel
theorem dX7_date_93 : decode cX7_date 93 = .ok (.ireturn, 1) := by decide +kernel
theorem dX7_times_0 : decode cX7_times 0 = .ok (.aload_n 0, 1) := by decide +kernel
theorem dX7_times_1 : decode cX7_times 1 = .ok (.iload_n 1, 1) := by decide +kernel
theorem dX7_times_2 : decode cX7_times 2 = .ok (.invokevirtual 100, 3) := by decide +kernel
theorem dX7_times_5 : decode cX7_times 5 = .ok (.astore 4, 2) := by decide +kernel
theorem dX7_times_7 : decode cX7_times 7 = .ok (.iload_n 2, 1) := by decide +kernel
theorem dX7_times_8 : decode cX7_times 8 = .ok (.invokestatic 71, 3) := by decide +kernel
theorem dX7_times_11 : decode cX7_times 11 = .ok (.iload_n 3, 1) := by decide +kernel
theorem dX7_times_12 : decode cX7_times 12 = .ok (.invokestatic 71, 3) := by decide +kernel
theorem dX7_times_15 : decode cX7_times 15 = .ok (.iload_n 3, 1) := by decide +kernel
theorem dX7_times_16 : decode cX7_times 16 = .ok (.invokestatic 118, 3) := by decide +kernel
theorem dX7_times_19 : decode cX7_times 19 = .ok (.istore 5, 2) := by decide +kernel
theorem dX7_times_21 : decode cX7_times 21 = .ok (.iconst 0, 1) := by decide +kernel
theorem dX7_times_22 : decode cX7_times 22 = .ok (.istore 6, 2) := by decide +kernel
theorem dX7_times_24 : decode cX7_times 24 = .ok (.iload_n 2, 1) := by decide +kernel
theorem dX7_times_25 : decode cX7_times 25 = .ok (.invokestatic 118, 3) := by decide +kernel
theorem dX7_times_28 : decode cX7_times 28 = .ok (.istore 7, 2) := by decide +kernel
theorem dX7_times_30 : decode cX7_times 30 = .ok (.iload 7, 2) := by decide +kernel
theorem dX7_times_32 : decode cX7_times 32 = .ok (.iload 5, 2) := by decide +kernel
theorem dX7_times_34 : decode cX7_times 34 = .ok (.if_icmp .gt 32, 3) := by decide +kernel
theorem dX7_times_37 : decode cX7_times 37 = .ok (.iload 6, 2) := by decide +kernel
theorem dX7_times_39 : decode cX7_times 39 = .ok (.aload 4, 2) := by decide +kernel
theorem dX7_times_41 : decode cX7_times 41 = .ok (.iload 7, 2) := by decide +kernel
theorem dX7_times_43 : decode cX7_times 43 = .ok (.invokevirtual 122, 3) := by decide +kernel
theorem dX7_times_46 : decode cX7_times 46 = .ok (.iload 7, 2) := by decide +kernel
theorem dX7_times_48 : decode cX7_times 48 = .ok (.iload_n 2, 1) := by decide +kernel
theorem dX7_times_49 : decode cX7_times 49 = .ok (.iload_n 3, 1) := by decide +kernel
theorem dX7_times_50 : decode cX7_times 50 = .ok (.invokestatic 144, 3) := by decide +kernel
theorem dX7_times_53 : decode cX7_times 53 = .ok (.iand, 1) := by decide +kernel
theorem dX7_times_54 : decode cX7_times 54 = .ok (.invokestatic 138, 3) := by decide +kernel
theorem dX7_times_57 : decode cX7_times 57 = .ok (.iadd, 1) := by decide +kernel
theorem dX7_times_58 : decode cX7_times 58 = .ok (.istore 6, 2) := by decide +kernel
theorem dX7_times_60 : decode cX7_times 60 = .ok (.iinc 7 1, 3) := by decide +kernel
theorem dX7_times_63 : decode cX7_times 63 = .ok (.goto (-33), 3) := by decide +kernel
theorem dX7_times_66 : decode cX7_times 66 = .ok (.iload 6, 2) := by decide +kernel
theorem dX7_times_68 : decode cX7_times 68 = .ok (.ireturn, 1) := by decide +kernel
theorem dX7_list_0 : decode cX7_list 0 = .ok (.iload_n 1, 1) := by decide +kernel
theorem dX7_list_1 : decode cX7_list 1 = .ok (.invokestatic 71, 3) := by decide +kernel
theorem dX7_list_4 : decode cX7_list 4 = .ok (.iload_n 2, 1) := by decide +kernel
theorem dX7_list_5 : decode cX7_list 5 = .ok (.invokestatic 71, 3) := by decide +kernel
theorem dX7_list_8 : decode cX7_list 8 = .ok (.aload_n 0, 1) := by decide +kernel
theorem dX7_list_9 : decode cX7_list 9 = .ok (.iconst 0, 1) := by decide +kernel
theorem dX7_list_10 : decode cX7_list 10 = .ok (.putfield 59, 3) := by decide +kernel
theorem dX7_list_13 : decode cX7_list 13 = .ok (.iload_n 2, 1) := by decide +kernel
theorem dX7_list_14 : decode cX7_list 14 = .ok (.invokestatic 118, 3) := by decide +kernel
theorem dX7_list_17 : decode cX7_list 17 = .ok (.istore_n 3, 1) := by decide +kernel
theorem dX7_list_18 : decode cX7_list 18 = .ok (.iload_n 1, 1) := by decide +kernel
theorem dX7_list_19 : decode cX7_list 19 = .ok (.invokestatic 118, 3) := by decide +kernel
theorem dX7_list_22 : decode cX7_list 22 = .ok (.istore 4, 2) := by decide +kernel
theorem dX7_list_24 : decode cX7_list 24 = .ok (.iload 4, 2) := by decide +kernel
theorem dX7_list_26 : decode cX7_list 26 = .ok (.iload_n 3, 1) := by decide +kernel
theorem dX7_list_27 : decode cX7_list 27 = .ok (.if_icmp .gt 39, 3) := by decide +kernel
theorem dX7_list_30 : decode cX7_list 30 = .ok (.aload_n 0, 1) := by decide +kernel
theorem dX7_list_31 : decode cX7_list 31 = .ok (.getfield 59, 3) := by decide +kernel
theorem dX7_list_34 : decode cX7_list 34 = .ok (.sipush 300, 3) := by decide +kernel
theorem dX7_list_37 : decode cX7_list 37 = .ok (.if_icmp .ge 29, 3) := by decide +kernel
theorem dX7_list_40 : decode cX7_list 40 = .ok (.aload_n 0, 1) := by decide +kernel
theorem dX7_list_41 : decode cX7_list 41 = .ok (.iload 4, 2) := by decide +kernel
theorem dX7_list_43 : decode cX7_list 43 = .ok (.aload_n 0, 1) := by decide +kernel
theorem dX7_list_44 : decode cX7_list 44 = .ok (.iload 4, 2) := by decide +kernel
theorem dX7_list_46 : decode cX7_list 46 = .ok (.invokevirtual 148, 3) := by decide +kernel
theorem dX7_list_49 : decode cX7_list 49 = .ok (.iload 4, 2) := by decide +kernel
theorem dX7_list_51 : decode cX7_list 51 = .ok (.iload_n 1, 1) := by decide +kernel
theorem dX7_list_52 : decode cX7_list 52 = .ok (.iload_n 2, 1) := by decide +kernel
theorem dX7_list_53 : decode cX7_list 53 = .ok (.invokestatic 144, 3) := by decide +kernel
theorem dX7_list_56 : decode cX7_list 56 = .ok (.iand, 1) := by decide +kernel
theorem dX7_list_57 : decode cX7_list 57 = .ok (.invokevirtual 151, 3) := by decide +kernel
theorem dX7_list_60 : decode cX7_list 60 = .ok (.iinc 4 1, 3) := by decide +kernel
theorem dX7_list_63 : decode cX7_list 63 = .ok (.goto (-39), 3) := by decide +kernel
theorem dX7_list_66 : decode cX7_list 66 = .ok (.aload_n 0, 1) := by decide +kernel
theorem dX7_list_67 : decode cX7_list 67 = .ok (.getfield 59, 3) := by decide +kernel
theorem dX7_list_70 : decode cX7_list 70 = .ok (.ireturn, 1) := by decide +kernel
theorem dX7_item_0 : decode cX7_item 0 = .ok (.iload_n 1, 1) := by decide +kernel
theorem dX7_item_1 : decode cX7_item 1 = .ok (.ifCond .lt 11, 3) := by decide +kernel
theorem dX7_item_4 : decode cX7_item 4 = .ok (.iload_n 1, 1) := by decide +kernel
theorem dX7_item_5 : decode cX7_item 5 = .ok (.aload_n 0, 1) := by decide +kernel
theorem dX7_item_6 : decode cX7_item 6 = .ok (.getfield 59, 3) := by decide +kernel
theorem dX7_item_9 : decode cX7_item 9 = .ok (.if_icmp .lt 11, 3) := by decide +kernel
theorem dX7_item_12 : decode cX7_item 12 = .ok (.new 155, 3) := by decide +kernel
theorem dX7_item_15 : decode cX7_item 15 = .ok (.dup, 1) := by decide +kernel
theorem dX7_item_16 : decode cX7_item 16 = .ok (.invokespecial 157, 3) := by decide +kernel
theorem dX7_item_19 : decode cX7_item 19 = .ok (.athrow, 1) := by decide +kernel
theorem dX7_item_20 : decode cX7_item 20 = .ok (.aload_n 0, 1) := by decide +kernel
theorem dX7_item_21 : decode cX7_item 21 = .ok (.getfield 55, 3) := by decide +kernel
theorem dX7_item_24 : decode cX7_item 24 = .ok (.iload_n 1, 1) := by decide +kernel
theorem dX7_item_25 : decode cX7_item 25 = .ok (.laload, 1) := by decide +kernel
theorem dX7_item_26 : decode cX7_item 26 = .ok (.lreturn, 1) := by decide +kernel
theorem dX7_busiest_0 : decode cX7_busiest 0 = .ok (.iload_n 1, 1) := by decide +kernel
theorem dX7_busiest_1 : decode cX7_busiest 1 = .ok (.invokestatic 71, 3) := by decide +kernel
theorem dX7_busiest_4 : decode cX7_busiest 4 = .ok (.iload_n 2, 1) := by decide +kernel
theorem dX7_busiest_5 : decode cX7_busiest 5 = .ok (.invokestatic 71, 3) := by decide +kernel
theorem dX7_busiest_8 : decode cX7_busiest 8 = .ok (.iload_n 2, 1) := by decide +kernel
theorem dX7_busiest_9 : decode cX7_busiest 9 = .ok (.invokestatic 118, 3) := by decide +kernel
theorem dX7_busiest_12 : decode cX7_busiest 12 = .ok (.istore_n 3, 1) := by decide +kernel
theorem dX7_busiest_13 : decode cX7_busiest 13 = .ok (.iconst (-1), 1) := by decide +kernel
theorem dX7_busiest_14 : decode cX7_busiest 14 = .ok (.istore 4, 2) := by decide +kernel
theorem dX7_busiest_16 : decode cX7_busiest 16 = .ok (.iconst 0, 1) := by decide +kernel
theorem dX7_busiest_17 : decode cX7_busiest 17 = .ok (.istore 5, 2) := by decide +kernel
theorem dX7_busiest_19 : decode cX7_busiest 19 = .ok (.iload_n 1, 1) := by decide +kernel
theorem dX7_busiest_20 : decode cX7_busiest 20 = .ok (.invokestatic 118, 3) := by decide +kernel
theorem dX7_busiest_23 : decode cX7_busiest 23 = .ok (.istore 6, 2) := by decide +kernel
theorem dX7_busiest_25 : decode cX7_busiest 25 = .ok (.iload 6, 2) := by decide +kernel
theorem dX7_busiest_27 : decode cX7_busiest 27 = .ok (.iload_n 3, 1) := by decide +kernel
theorem dX7_busiest_28 : decode cX7_busiest 28 = .ok (.if_icmp .gt 100, 3) := by decide +kernel
theorem dX7_busiest_31 : decode cX7_busiest 31 = .ok (.aload_n 0, 1) := by decide +kernel
theorem dX7_busiest_32 : decode cX7_busiest 32 = .ok (.iload 6, 2) := by decide +kernel
theorem dX7_busiest_34 : decode cX7_busiest 34 = .ok (.iload 6, 2) := by decide +kernel
theorem dX7_busiest_36 : decode cX7_busiest 36 = .ok (.iload_n 1, 1) := by decide +kernel
theorem dX7_busiest_37 : decode cX7_busiest 37 = .ok (.iload_n 2, 1) := by decide +kernel
theorem dX7_busiest_38 : decode cX7_busiest 38 = .ok (.invokestatic 144, 3) := by decide +kernel
theorem dX7_busiest_41 : decode cX7_busiest 41 = .ok (.invokevirtual 158, 3) := by decide +kernel
theorem dX7_busiest_44 : decode cX7_busiest 44 = .ok (.iconst 0, 1) := by decide +kernel
theorem dX7_busiest_45 : decode cX7_busiest 45 = .ok (.istore 7, 2) := by decide +kernel
theorem dX7_busiest_47 : decode cX7_busiest 47 = .ok (.ldc 128, 2) := by decide +kernel
theorem dX7_busiest_49 : decode cX7_busiest 49 = .ok (.istore 8, 2) := by decide +kernel
theorem dX7_busiest_51 : decode cX7_busiest 51 = .ok (.iconst 3, 1) := by decide +kernel
theorem dX7_busiest_52 : decode cX7_busiest 52 = .ok (.istore 9, 2) := by decide +kernel
theorem dX7_busiest_54 : decode cX7_busiest 54 = .ok (.iload 9, 2) := by decide +kernel
theorem dX7_busiest_56 : decode cX7_busiest 56 = .ok (.ifCond .lt 43, 3) := by decide +kernel
theorem dX7_busiest_59 : decode cX7_busiest 59 = .ok (.iload 8, 2) := by decide +kernel
theorem dX7_busiest_61 : decode cX7_busiest 61 = .ok (.aload_n 0, 1) := by decide +kernel
theorem dX7_busiest_62 : decode cX7_busiest 62 = .ok (.getfield 62, 3) := by decide +kernel
theorem dX7_busiest_65 : decode cX7_busiest 65 = .ok (.iload 9, 2) := by decide +kernel
theorem dX7_busiest_67 : decode cX7_busiest 67 = .ok (.iaload, 1) := by decide +kernel
theorem dX7_busiest_68 : decode cX7_busiest 68 = .ok (.iand, 1) := by decide +kernel
theorem dX7_busiest_69 : decode cX7_busiest 69 = .ok (.ifCond .eq 24, 3) := by decide +kernel
theorem dX7_busiest_72 : decode cX7_busiest 72 = .ok (.iload 8, 2) := by decide +kernel
theorem dX7_busiest_74 : decode cX7_busiest 74 = .ok (.aload_n 0, 1) := by decide +kernel
theorem dX7_busiest_75 : decode cX7_busiest 75 = .ok (.getfield 62, 3) := by decide +kernel
theorem dX7_busiest_78 : decode cX7_busiest 78 = .ok (.iload 9, 2) := by decide +kernel
theorem dX7_busiest_80 : decode cX7_busiest 80 = .ok (.iaload, 1) := by decide +kernel
theorem dX7_busiest_81 : decode cX7_busiest 81 = .ok (.iand, 1) := by decide +kernel
theorem dX7_busiest_82 : decode cX7_busiest 82 = .ok (.istore 8, 2) := by decide +kernel
theorem dX7_busiest_84 : decode cX7_busiest 84 = .ok (.iload 7, 2) := by decide +kernel
theorem dX7_busiest_86 : decode cX7_busiest 86 = .ok (.iconst 1, 1) := by decide +kernel
theorem dX7_busiest_87 : decode cX7_busiest 87 = .ok (.iload 9, 2) := by decide +kernel
theorem dX7_busiest_89 : decode cX7_busiest 89 = .ok (.ishl, 1) := by decide +kernel
theorem dX7_busiest_90 : decode cX7_busiest 90 = .ok (.ior, 1) := by decide +kernel
theorem dX7_busiest_91 : decode cX7_busiest 91 = .ok (.istore 7, 2) := by decide +kernel
theorem dX7_busiest_93 : decode cX7_busiest 93 = .ok (.iinc 9 (-1), 3) := by decide +kernel
theorem dX7_busiest_96 : decode cX7_busiest 96 = .ok (.goto (-42), 3) := by decide +kernel
theorem dX7_busiest_99 : decode cX7_busiest 99 = .ok (.iload 7, 2) := by decide +kernel
theorem dX7_busiest_101 : decode cX7_busiest 101 = .ok (.iload 5, 2) := by decide +kernel
theorem dX7_busiest_103 : decode cX7_busiest 103 = .ok (.if_icmp .le 19, 3) := by decide +kernel
theorem dX7_busiest_106 : decode cX7_busiest 106 = .ok (.iload 7, 2) := by decide +kernel
theorem dX7_busiest_108 : decode cX7_busiest 108 = .ok (.istore 5, 2) := by decide +kernel
theorem dX7_busiest_110 : decode cX7_busiest 110 = .ok (.iload 6, 2) := by decide +kernel
theorem dX7_busiest_112 : decode cX7_busiest 112 = .ok (.iload 8, 2) := by decide +kernel
theorem dX7_busiest_114 : decode cX7_busiest 114 = .ok (.invokestatic 129, 3) := by decide +kernel
theorem dX7_busiest_117 : decode cX7_busiest 117 = .ok (.invokestatic 134, 3) := by decide +kernel
theorem dX7_busiest_120 : decode cX7_busiest 120 = .ok (.istore 4, 2) := by decide +kernel
theorem dX7_busiest_122 : decode cX7_busiest 122 = .ok (.iinc 6 1, 3) := by decide +kernel
theorem dX7_busiest_125 : decode cX7_busiest 125 = .ok (.goto (-100), 3) := by decide +kernel
theorem dX7_busiest_128 : decode cX7_busiest 128 = .ok (.iload 4, 2) := by decide +kernel
theorem dX7_busiest_130 : decode cX7_busiest 130 = .ok (.ireturn, 1) := by decide +kernel
theorem dX7_quiet_0 : decode cX7_quiet 0 = .ok (.iload_n 1, 1) := by decide +kernel
theorem dX7_quiet_1 : decode cX7_quiet 1 = .ok (.invokestatic 71, 3) := by decide +kernel
theorem dX7_quiet_4 : decode cX7_quiet 4 = .ok (.iload_n 2, 1) := by decide +kernel
theorem dX7_quiet_5 : decode cX7_quiet 5 = .ok (.iconst 1, 1) := by decide +kernel
theorem dX7_quiet_6 : decode cX7_quiet 6 = .ok (.if_icmp .lt 10, 3) := by decide +kernel
theorem dX7_quiet_9 : decode cX7_quiet 9 = .ok (.iload_n 2, 1) := by decide +kernel
theorem dX7_quiet_10 : decode cX7_quiet 10 = .ok (.sipush 1000, 3) := by decide +kernel
theorem dX7_quiet_13 : decode cX7_quiet 13 = .ok (.if_icmp .le 11, 3) := by decide +kernel
theorem dX7_quiet_16 : decode cX7_quiet 16 = .ok (.new 66, 3) := by decide +kernel
theorem dX7_quiet_19 : decode cX7_quiet 19 = .ok (.dup, 1) := by decide +kernel
theorem dX7_quiet_20 : decode cX7_quiet 20 = .ok (.invokespecial 68, 3) := by decide +kernel
theorem dX7_quiet_23 : decode cX7_quiet 23 = .ok (.athrow, 1) := by decide +kernel
theorem dX7_quiet_24 : decode cX7_quiet 24 = .ok (.iload_n 1, 1) := by decide +kernel
theorem dX7_quiet_25 : decode cX7_quiet 25 = .ok (.invokestatic 118, 3) := by decide +kernel
theorem dX7_quiet_28 : decode cX7_quiet 28 = .ok (.istore_n 3, 1) := by decide +kernel
theorem dX7_quiet_29 : decode cX7_quiet 29 = .ok (.aload_n 0, 1) := by decide +kernel
theorem dX7_quiet_30 : decode cX7_quiet 30 = .ok (.getfield 20, 3) := by decide +kernel
theorem dX7_quiet_33 : decode cX7_quiet 33 = .ok (.iload_n 1, 1) := by decide +kernel
theorem dX7_quiet_34 : decode cX7_quiet 34 = .ok (.invokevirtual 161, 3) := by decide +kernel
theorem dX7_quiet_37 : decode cX7_quiet 37 = .ok (.istore 4, 2) := by decide +kernel
theorem dX7_quiet_39 : decode cX7_quiet 39 = .ok (.iload_n 3, 1) := by decide +kernel
theorem dX7_quiet_40 : decode cX7_quiet 40 = .ok (.istore 5, 2) := by decide +kernel
theorem dX7_quiet_42 : decode cX7_quiet 42 = .ok (.iload 5, 2) := by decide +kernel
theorem dX7_quiet_44 : decode cX7_quiet 44 = .ok (.sipush 3600, 3) := by decide +kernel
theorem dX7_quiet_47 : decode cX7_quiet 47 = .ok (.if_icmp .ge 105, 3) := by decide +kernel
theorem dX7_quiet_50 : decode cX7_quiet 50 = .ok (.aload_n 0, 1) := by decide +kernel
theorem dX7_quiet_51 : decode cX7_quiet 51 = .ok (.iload 5, 2) := by decide +kernel
theorem dX7_quiet_53 : decode cX7_quiet 53 = .ok (.invokevirtual 148, 3) := by decide +kernel
theorem dX7_quiet_56 : decode cX7_quiet 56 = .ok (.iload 5, 2) := by decide +kernel
theorem dX7_quiet_58 : decode cX7_quiet 58 = .ok (.iload_n 3, 1) := by decide +kernel
theorem dX7_quiet_59 : decode cX7_quiet 59 = .ok (.if_icmp .ne 12, 3) := by decide +kernel
theorem dX7_quiet_62 : decode cX7_quiet 62 = .ok (.iconst (-1), 1) := by decide +kernel
theorem dX7_quiet_63 : decode cX7_quiet 63 = .ok (.iload_n 1, 1) := by decide +kernel
theorem dX7_quiet_64 : decode cX7_quiet 64 = .ok (.invokestatic 125, 3) := by decide +kernel
theorem dX7_quiet_67 : decode cX7_quiet 67 = .ok (.ishl, 1) := by decide +kernel
theorem dX7_quiet_68 : decode cX7_quiet 68 = .ok (.goto 5, 3) := by decide +kernel
theorem dX7_quiet_71 : decode cX7_quiet 71 = .ok (.ldc 128, 2) := by decide +kernel
theorem dX7_quiet_73 : decode cX7_quiet 73 = .ok (.iand, 1) := by decide +kernel
theorem dX7_quiet_74 : decode cX7_quiet 74 = .ok (.istore 6, 2) := by decide +kernel
theorem dX7_quiet_76 : decode cX7_quiet 76 = .ok (.iload 6, 2) := by decide +kernel
theorem dX7_quiet_78 : decode cX7_quiet 78 = .ok (.invokestatic 138, 3) := by decide +kernel
theorem dX7_quiet_81 : decode cX7_quiet 81 = .ok (.istore 7, 2) := by decide +kernel
theorem dX7_quiet_83 : decode cX7_quiet 83 = .ok (.iload 7, 2) := by decide +kernel
theorem dX7_quiet_85 : decode cX7_quiet 85 = .ok (.ifCond .le 61, 3) := by decide +kernel
theorem dX7_quiet_88 : decode cX7_quiet 88 = .ok (.aload_n 0, 1) := by decide +kernel
theorem dX7_quiet_89 : decode cX7_quiet 89 = .ok (.getfield 20, 3) := by decide +kernel
theorem dX7_quiet_92 : decode cX7_quiet 92 = .ok (.getfield 164, 3) := by decide +kernel
theorem dX7_quiet_95 : decode cX7_quiet 95 = .ok (.iload 5, 2) := by decide +kernel
theorem dX7_quiet_97 : decode cX7_quiet 97 = .ok (.iaload, 1) := by decide +kernel
theorem dX7_quiet_98 : decode cX7_quiet 98 = .ok (.iload 6, 2) := by decide +kernel
theorem dX7_quiet_100 : decode cX7_quiet 100 = .ok (.invokestatic 129, 3) := by decide +kernel
theorem dX7_quiet_103 : decode cX7_quiet 103 = .ok (.iadd, 1) := by decide +kernel
theorem dX7_quiet_104 : decode cX7_quiet 104 = .ok (.istore 8, 2) := by decide +kernel
theorem dX7_quiet_106 : decode cX7_quiet 106 = .ok (.iload 8, 2) := by decide +kernel
theorem dX7_quiet_108 : decode cX7_quiet 108 = .ok (.iload 4, 2) := by decide +kernel
theorem dX7_quiet_110 : decode cX7_quiet 110 = .ok (.isub, 1) := by decide +kernel
theorem dX7_quiet_111 : decode cX7_quiet 111 = .ok (.iload_n 2, 1) := by decide +kernel
theorem dX7_quiet_112 : decode cX7_quiet 112 = .ok (.if_icmp .lt 13, 3) := by decide +kernel
theorem dX7_quiet_115 : decode cX7_quiet 115 = .ok (.aload_n 0, 1) := by decide +kernel
theorem dX7_quiet_116 : decode cX7_quiet 116 = .ok (.getfield 20, 3) := by decide +kernel
theorem dX7_quiet_119 : decode cX7_quiet 119 = .ok (.iload 4, 2) := by decide +kernel
theorem dX7_quiet_121 : decode cX7_quiet 121 = .ok (.invokevirtual 167, 3) := by decide +kernel
theorem dX7_quiet_124 : decode cX7_quiet 124 = .ok (.ireturn, 1) := by decide +kernel
theorem dX7_quiet_125 : decode cX7_quiet 125 = .ok (.iload 8, 2) := by decide +kernel
theorem dX7_quiet_127 : decode cX7_quiet 127 = .ok (.iconst 1, 1) := by decide +kernel
theorem dX7_quiet_128 : decode cX7_quiet 128 = .ok (.iadd, 1) := by decide +kernel
theorem dX7_quiet_129 : decode cX7_quiet 129 = .ok (.istore 4, 2) := by decide +kernel
theorem dX7_quiet_131 : decode cX7_quiet 131 = .ok (.iload 6, 2) := by decide +kernel
theorem dX7_quiet_133 : decode cX7_quiet 133 = .ok (.iload 6, 2) := by decide +kernel
theorem dX7_quiet_135 : decode cX7_quiet 135 = .ok (.iconst 1, 1) := by decide +kernel
theorem dX7_quiet_136 : decode cX7_quiet 136 = .ok (.isub, 1) := by decide +kernel
theorem dX7_quiet_137 : decode cX7_quiet 137 = .ok (.iand, 1) := by decide +kernel
theorem dX7_quiet_138 : decode cX7_quiet 138 = .ok (.istore 6, 2) := by decide +kernel
theorem dX7_quiet_140 : decode cX7_quiet 140 = .ok (.iinc 7 (-1), 3) := by decide +kernel
theorem dX7_quiet_143 : decode cX7_quiet 143 = .ok (.goto (-60), 3) := by decide +kernel
theorem dX7_quiet_146 : decode cX7_quiet 146 = .ok (.iinc 5 1, 3) := by decide +kernel
theorem dX7_quiet_149 : decode cX7_quiet 149 = .ok (.goto (-107), 3) := by decide +kernel
theorem dX7_quiet_152 : decode cX7_quiet 152 = .ok (.aload_n 0, 1) := by decide +kernel
theorem dX7_quiet_153 : decode cX7_quiet 153 = .ok (.getfield 20, 3) := by decide +kernel
theorem dX7_quiet_156 : decode cX7_quiet 156 = .ok (.getfield 164, 3) := by decide +kernel
theorem dX7_quiet_159 : decode cX7_quiet 159 = .ok (.sipush 3600, 3) := by decide +kernel
theorem dX7_quiet_162 : decode cX7_quiet 162 = .ok (.iaload, 1) := by decide +kernel
theorem dX7_quiet_163 : decode cX7_quiet 163 = .ok (.iload 4, 2) := by decide +kernel
theorem dX7_quiet_165 : decode cX7_quiet 165 = .ok (.isub, 1) := by decide +kernel
theorem dX7_quiet_166 : decode cX7_quiet 166 = .ok (.iload_n 2, 1) := by decide +kernel
theorem dX7_quiet_167 : decode cX7_quiet 167 = .ok (.if_icmp .lt 15, 3) := by decide +kernel
theorem dX7_quiet_170 : decode cX7_quiet 170 = .ok (.aload_n 0, 1) := by decide +kernel
theorem dX7_quiet_171 : decode cX7_quiet 171 = .ok (.getfield 20, 3) := by decide +kernel
theorem dX7_quiet_174 : decode cX7_quiet 174 = .ok (.iload 4, 2) := by decide +kernel
theorem dX7_quiet_176 : decode cX7_quiet 176 = .ok (.invokevirtual 167, 3) := by decide +kernel
theorem dX7_quiet_179 : decode cX7_quiet 179 = .ok (.goto 4, 3) := by decide +kernel
theorem dX7_quiet_182 : decode cX7_quiet 182 = .ok (.iconst (-1), 1) := by decide +kernel
theorem dX7_quiet_183 : decode cX7_quiet 183 = .ok (.ireturn, 1) := by decide +kernel
theorem dX7_shifted_0 : decode cX7_shifted 0 = .ok (.iload_n 1, 1) := by decide +kernel
theorem dX7_shifted_1 : decode cX7_shifted 1 = .ok (.invokestatic 71, 3) := by decide +kernel
theorem dX7_shifted_4 : decode cX7_shifted 4 = .ok (.aload_n 0, 1) := by decide +kernel
theorem dX7_shifted_5 : decode cX7_shifted 5 = .ok (.getfield 20, 3) := by decide +kernel
theorem dX7_shifted_8 : decode cX7_shifted 8 = .ok (.iload_n 1, 1) := by decide +kernel
theorem dX7_shifted_9 : decode cX7_shifted 9 = .ok (.invokevirtual 161, 3) := by decide +kernel
theorem dX7_shifted_12 : decode cX7_shifted 12 = .ok (.i2l, 1) := by decide +kernel
theorem dX7_shifted_13 : decode cX7_shifted 13 = .ok (.iload_n 2, 1) := by decide +kernel
theorem dX7_shifted_14 : decode cX7_shifted 14 = .ok (.i2l, 1) := by decide +kernel
theorem dX7_shifted_15 : decode cX7_shifted 15 = .ok (.ladd, 1) := by decide +kernel
theorem dX7_shifted_16 : decode cX7_shifted 16 = .ok (.lstore_n 3, 1) := by decide +kernel
theorem dX7_shifted_17 : decode cX7_shifted 17 = .ok (.lload_n 3, 1) := by decide +kernel
theorem dX7_shifted_18 : decode cX7_shifted 18 = .ok (.lconst 0, 1) := by decide +kernel
theorem dX7_shifted_19 : decode cX7_shifted 19 = .ok (.lcmp, 1) := by decide +kernel
theorem dX7_shifted_20 : decode cX7_shifted 20 = .ok (.ifCond .lt 20, 3) := by decide +kernel
theorem dX7_shifted_23 : decode cX7_shifted 23 = .ok (.lload_n 3, 1) := by decide +kernel
theorem dX7_shifted_24 : decode cX7_shifted 24 = .ok (.aload_n 0, 1) := by decide +kernel
theorem dX7_shifted_25 : decode cX7_shifted 25 = .ok (.getfield 20, 3) := by decide +kernel
theorem dX7_shifted_28 : decode cX7_shifted 28 = .ok (.getfield 164, 3) := by decide +kernel
theorem dX7_shifted_31 : decode cX7_shifted 31 = .ok (.sipush 3600, 3) := by decide +kernel
theorem dX7_shifted_34 : decode cX7_shifted 34 = .ok (.iaload, 1) := by decide +kernel
theorem dX7_shifted_35 : decode cX7_shifted 35 = .ok (.i2l, 1) := by decide +kernel
theorem dX7_shifted_36 : decode cX7_shifted 36 = .ok (.lcmp, 1) := by decide +kernel
theorem dX7_shifted_37 : decode cX7_shifted 37 = .ok (.ifCond .lt 5, 3) := by decide +kernel
theorem dX7_shifted_40 : decode cX7_shifted 40 = .ok (.iconst (-1), 1) := by decide +kernel
theorem dX7_shifted_41 : decode cX7_shifted 41 = .ok (.ireturn, 1) := by decide +kernel
theorem dX7_shifted_42 : decode cX7_shifted 42 = .ok (.aload_n 0, 1) := by decide +kernel
theorem dX7_shifted_43 : decode cX7_shifted 43 = .ok (.getfield 20, 3) := by decide +kernel
theorem dX7_shifted_46 : decode cX7_shifted 46 = .ok (.lload_n 3, 1) := by decide +kernel
theorem dX7_shifted_47 : decode cX7_shifted 47 = .ok (.l2i, 1) := by decide +kernel
theorem dX7_shifted_48 : decode cX7_shifted 48 = .ok (.invokevirtual 167, 3) := by decide +kernel
theorem dX7_shifted_51 : decode cX7_shifted 51 = .ok (.ireturn, 1) := by decide +kernel
theorem dX7_requireDate_0 : decode cX7_requireDate 0 = .ok (.iload_n 0, 1) := by decide +kernel
theorem dX7_requireDate_1 : decode cX7_requireDate 1 = .ok (.invokestatic 170, 3) := by decide +kernel
theorem dX7_requireDate_4 : decode cX7_requireDate 4 = .ok (.ifCond .ne 11, 3) := by decide +kernel
theorem dX7_requireDate_7 : decode cX7_requireDate 7 = .ok (.new 66, 3) := by decide +kernel
theorem dX7_requireDate_10 : decode cX7_requireDate 10 = .ok (.dup, 1) := by decide +kernel
theorem dX7_requireDate_11 : decode cX7_requireDate 11 = .ok (.invokespecial 68, 3) := by decide +kernel
theorem dX7_requireDate_14 : decode cX7_requireDate 14 = .ok (.athrow, 1) := by decide +kernel
theorem dX7_requireDate_15 : decode cX7_requireDate 15 = .ok (.return_, 1) := by decide +kernel
theorem dX7_knownThing_0 : decode cX7_knownThing 0 = .ok (.iload_n 1, 1) := by decide +kernel
theorem dX7_knownThing_1 : decode cX7_knownThing 1 = .ok (.ifCond .lt 9, 3) := by decide +kernel
theorem dX7_knownThing_4 : decode cX7_knownThing 4 = .ok (.iload_n 1, 1) := by decide +kernel
theorem dX7_knownThing_5 : decode cX7_knownThing 5 = .ok (.bipush 12, 2) := by decide +kernel
theorem dX7_knownThing_7 : decode cX7_knownThing 7 = .ok (.if_icmp .lt 11, 3) := by decide +kernel
theorem dX7_knownThing_10 : decode cX7_knownThing 10 = .ok (.new 155, 3) := by decide +kernel
theorem dX7_knownThing_13 : decode cX7_knownThing 13 = .ok (.dup, 1) := by decide +kernel
theorem dX7_knownThing_14 : decode cX7_knownThing 14 = .ok (.invokespecial 157, 3) := by decide +kernel
theorem dX7_knownThing_17 : decode cX7_knownThing 17 = .ok (.athrow, 1) := by decide +kernel
theorem dX7_knownThing_18 : decode cX7_knownThing 18 = .ok (.aload_n 0, 1) := by decide +kernel
theorem dX7_knownThing_19 : decode cX7_knownThing 19 = .ok (.getfield 51, 3) := by decide +kernel
theorem dX7_knownThing_22 : decode cX7_knownThing 22 = .ok (.iload_n 1, 1) := by decide +kernel
theorem dX7_knownThing_23 : decode cX7_knownThing 23 = .ok (.aaload, 1) := by decide +kernel
theorem dX7_knownThing_24 : decode cX7_knownThing 24 = .ok (.astore_n 2, 1) := by decide +kernel
theorem dX7_knownThing_25 : decode cX7_knownThing 25 = .ok (.aload_n 2, 1) := by decide +kernel
theorem dX7_knownThing_26 : decode cX7_knownThing 26 = .ok (.ifnull 10, 3) := by decide +kernel
theorem dX7_knownThing_29 : decode cX7_knownThing 29 = .ok (.aload_n 2, 1) := by decide +kernel
theorem dX7_knownThing_30 : decode cX7_knownThing 30 = .ok (.getfield 104, 3) := by decide +kernel
theorem dX7_knownThing_33 : decode cX7_knownThing 33 = .ok (.ifCond .ne 11, 3) := by decide +kernel
theorem dX7_knownThing_36 : decode cX7_knownThing 36 = .ok (.new 155, 3) := by decide +kernel
theorem dX7_knownThing_39 : decode cX7_knownThing 39 = .ok (.dup, 1) := by decide +kernel
theorem dX7_knownThing_40 : decode cX7_knownThing 40 = .ok (.invokespecial 157, 3) := by decide +kernel
theorem dX7_knownThing_43 : decode cX7_knownThing 43 = .ok (.athrow, 1) := by decide +kernel
theorem dX7_knownThing_44 : decode cX7_knownThing 44 = .ok (.aload_n 2, 1) := by decide +kernel
theorem dX7_knownThing_45 : decode cX7_knownThing 45 = .ok (.areturn, 1) := by decide +kernel
theorem dX7_freeNumber_0 : decode cX7_freeNumber 0 = .ok (.iconst 0, 1) := by decide +kernel
theorem dX7_freeNumber_1 : decode cX7_freeNumber 1 = .ok (.istore_n 1, 1) := by decide +kernel
theorem dX7_freeNumber_2 : decode cX7_freeNumber 2 = .ok (.iload_n 1, 1) := by decide +kernel
theorem dX7_freeNumber_3 : decode cX7_freeNumber 3 = .ok (.bipush 12, 2) := by decide +kernel
theorem dX7_freeNumber_5 : decode cX7_freeNumber 5 = .ok (.if_icmp .ge 29, 3) := by decide +kernel
theorem dX7_freeNumber_8 : decode cX7_freeNumber 8 = .ok (.aload_n 0, 1) := by decide +kernel
theorem dX7_freeNumber_9 : decode cX7_freeNumber 9 = .ok (.getfield 51, 3) := by decide +kernel
theorem dX7_freeNumber_12 : decode cX7_freeNumber 12 = .ok (.iload_n 1, 1) := by decide +kernel
theorem dX7_freeNumber_13 : decode cX7_freeNumber 13 = .ok (.aaload, 1) := by decide +kernel
theorem dX7_freeNumber_14 : decode cX7_freeNumber 14 = .ok (.astore_n 2, 1) := by decide +kernel
theorem dX7_freeNumber_15 : decode cX7_freeNumber 15 = .ok (.aload_n 2, 1) := by decide +kernel
theorem dX7_freeNumber_16 : decode cX7_freeNumber 16 = .ok (.ifnull 10, 3) := by decide +kernel
theorem dX7_freeNumber_19 : decode cX7_freeNumber 19 = .ok (.aload_n 2, 1) := by decide +kernel
theorem dX7_freeNumber_20 : decode cX7_freeNumber 20 = .ok (.getfield 104, 3) := by decide +kernel
theorem dX7_freeNumber_23 : decode cX7_freeNumber 23 = .ok (.ifCond .ne 5, 3) := by decide +kernel
theorem dX7_freeNumber_26 : decode cX7_freeNumber 26 = .ok (.iload_n 1, 1) := by decide +kernel
theorem dX7_freeNumber_27 : decode cX7_freeNumber 27 = .ok (.ireturn, 1) := by decide +kernel
theorem dX7_freeNumber_28 : decode cX7_freeNumber 28 = .ok (.iinc 1 1, 3) := by decide +kernel
theorem dX7_freeNumber_31 : decode cX7_freeNumber 31 = .ok (.goto (-29), 3) := by decide +kernel
theorem dX7_freeNumber_34 : decode cX7_freeNumber 34 = .ok (.iconst (-1), 1) := by decide +kernel
theorem dX7_freeNumber_35 : decode cX7_freeNumber 35 = .ok (.ireturn, 1) := by decide +kernel
theorem dX7_daysOfThing_0 : decode cX7_daysOfThing 0 = .ok (.aload_n 0, 1) := by decide +kernel
theorem dX7_daysOfThing_1 : decode cX7_daysOfThing 1 = .ok (.getfield 51, 3) := by decide +kernel
theorem dX7_daysOfThing_4 : decode cX7_daysOfThing 4 = .ok (.iload_n 1, 1) := by decide +kernel
theorem dX7_daysOfThing_5 : decode cX7_daysOfThing 5 = .ok (.aaload, 1) := by decide +kernel
theorem dX7_daysOfThing_6 : decode cX7_daysOfThing 6 = .ok (.astore_n 3, 1) := by decide +kernel
theorem dX7_daysOfThing_7 : decode cX7_daysOfThing 7 = .ok (.aload_n 3, 1) := by decide +kernel
theorem dX7_daysOfThing_8 : decode cX7_daysOfThing 8 = .ok (.ifnull 10, 3) := by decide +kernel
theorem dX7_daysOfThing_11 : decode cX7_daysOfThing 11 = .ok (.aload_n 3, 1) := by decide +kernel
theorem dX7_daysOfThing_12 : decode cX7_daysOfThing 12 = .ok (.getfield 104, 3) := by decide +kernel
theorem dX7_daysOfThing_15 : decode cX7_daysOfThing 15 = .ok (.ifCond .ne 7, 3) := by decide +kernel
theorem dX7_daysOfThing_18 : decode cX7_daysOfThing 18 = .ok (.iconst 0, 1) := by decide +kernel
theorem dX7_daysOfThing_19 : decode cX7_daysOfThing 19 = .ok (.goto 8, 3) := by decide +kernel
theorem dX7_daysOfThing_22 : decode cX7_daysOfThing 22 = .ok (.aload_n 3, 1) := by decide +kernel
theorem dX7_daysOfThing_23 : decode cX7_daysOfThing 23 = .ok (.iload_n 2, 1) := by decide +kernel
theorem dX7_daysOfThing_24 : decode cX7_daysOfThing 24 = .ok (.invokevirtual 122, 3) := by decide +kernel
theorem dX7_daysOfThing_27 : decode cX7_daysOfThing 27 = .ok (.ireturn, 1) := by decide +kernel
theorem dX7_busyDays_0 : decode cX7_busyDays 0 = .ok (.iconst 0, 1) := by decide +kernel
theorem dX7_busyDays_1 : decode cX7_busyDays 1 = .ok (.istore_n 2, 1) := by decide +kernel
theorem dX7_busyDays_2 : decode cX7_busyDays 2 = .ok (.iconst 0, 1) := by decide +kernel
theorem dX7_busyDays_3 : decode cX7_busyDays 3 = .ok (.istore_n 3, 1) := by decide +kernel
theorem dX7_busyDays_4 : decode cX7_busyDays 4 = .ok (.iload_n 3, 1) := by decide +kernel
theorem dX7_busyDays_5 : decode cX7_busyDays 5 = .ok (.bipush 12, 2) := by decide +kernel
theorem dX7_busyDays_7 : decode cX7_busyDays 7 = .ok (.if_icmp .ge 18, 3) := by decide +kernel
theorem dX7_busyDays_10 : decode cX7_busyDays 10 = .ok (.iload_n 2, 1) := by decide +kernel
theorem dX7_busyDays_11 : decode cX7_busyDays 11 = .ok (.aload_n 0, 1) := by decide +kernel
theorem dX7_busyDays_12 : decode cX7_busyDays 12 = .ok (.iload_n 3, 1) := by decide +kernel
theorem dX7_busyDays_13 : decode cX7_busyDays 13 = .ok (.iload_n 1, 1) := by decide +kernel
theorem dX7_busyDays_14 : decode cX7_busyDays 14 = .ok (.invokevirtual 174, 3) := by decide +kernel
theorem dX7_busyDays_17 : decode cX7_busyDays 17 = .ok (.ior, 1) := by decide +kernel
theorem dX7_busyDays_18 : decode cX7_busyDays 18 = .ok (.istore_n 2, 1) := by decide +kernel
theorem dX7_busyDays_19 : decode cX7_busyDays 19 = .ok (.iinc 3 1, 3) := by decide +kernel
theorem dX7_busyDays_22 : decode cX7_busyDays 22 = .ok (.goto (-18), 3) := by decide +kernel
theorem dX7_busyDays_25 : decode cX7_busyDays 25 = .ok (.iload_n 2, 1) := by decide +kernel
theorem dX7_busyDays_26 : decode cX7_busyDays 26 = .ok (.ireturn, 1) := by decide +kernel
theorem dX7_listMonth_0 : decode cX7_listMonth 0 = .ok (.iload_n 2, 1) := by decide +kernel
theorem dX7_listMonth_1 : decode cX7_listMonth 1 = .ok (.istore_n 3, 1) := by decide +kernel
theorem dX7_listMonth_2 : decode cX7_listMonth 2 = .ok (.iload_n 2, 1) := by decide +kernel
theorem dX7_listMonth_3 : decode cX7_listMonth 3 = .ok (.invokestatic 138, 3) := by decide +kernel
theorem dX7_listMonth_6 : decode cX7_listMonth 6 = .ok (.istore 4, 2) := by decide +kernel
theorem dX7_listMonth_8 : decode cX7_listMonth 8 = .ok (.iload 4, 2) := by decide +kernel
theorem dX7_listMonth_10 : decode cX7_listMonth 10 = .ok (.ifCond .le 24, 3) := by decide +kernel
theorem dX7_listMonth_13 : decode cX7_listMonth 13 = .ok (.aload_n 0, 1) := by decide +kernel
theorem dX7_listMonth_14 : decode cX7_listMonth 14 = .ok (.iload_n 1, 1) := by decide +kernel
theorem dX7_listMonth_15 : decode cX7_listMonth 15 = .ok (.iload_n 3, 1) := by decide +kernel
theorem dX7_listMonth_16 : decode cX7_listMonth 16 = .ok (.invokestatic 129, 3) := by decide +kernel
theorem dX7_listMonth_19 : decode cX7_listMonth 19 = .ok (.invokevirtual 177, 3) := by decide +kernel
theorem dX7_listMonth_22 : decode cX7_listMonth 22 = .ok (.iload_n 3, 1) := by decide +kernel
theorem dX7_listMonth_23 : decode cX7_listMonth 23 = .ok (.iload_n 3, 1) := by decide +kernel
theorem dX7_listMonth_24 : decode cX7_listMonth 24 = .ok (.iconst 1, 1) := by decide +kernel
theorem dX7_listMonth_25 : decode cX7_listMonth 25 = .ok (.isub, 1) := by decide +kernel
theorem dX7_listMonth_26 : decode cX7_listMonth 26 = .ok (.iand, 1) := by decide +kernel
theorem dX7_listMonth_27 : decode cX7_listMonth 27 = .ok (.istore_n 3, 1) := by decide +kernel
theorem dX7_listMonth_28 : decode cX7_listMonth 28 = .ok (.iinc 4 (-1), 3) := by decide +kernel
theorem dX7_listMonth_31 : decode cX7_listMonth 31 = .ok (.goto (-23), 3) := by decide +kernel
theorem dX7_listMonth_34 : decode cX7_listMonth 34 = .ok (.return_, 1) := by decide +kernel
theorem dX7_listDay_0 : decode cX7_listDay 0 = .ok (.iload_n 1, 1) := by decide +kernel
theorem dX7_listDay_1 : decode cX7_listDay 1 = .ok (.iload_n 2, 1) := by decide +kernel
theorem dX7_listDay_2 : decode cX7_listDay 2 = .ok (.invokestatic 134, 3) := by decide +kernel
theorem dX7_listDay_5 : decode cX7_listDay 5 = .ok (.i2l, 1) := by decide +kernel
theorem dX7_listDay_6 : decode cX7_listDay 6 = .ok (.lstore_n 3, 1) := by decide +kernel
theorem dX7_listDay_7 : decode cX7_listDay 7 = .ok (.iconst 0, 1) := by decide +kernel
theorem dX7_listDay_8 : decode cX7_listDay 8 = .ok (.istore 5, 2) := by decide +kernel
theorem dX7_listDay_10 : decode cX7_listDay 10 = .ok (.iload 5, 2) := by decide +kernel
theorem dX7_listDay_12 : decode cX7_listDay 12 = .ok (.bipush 12, 2) := by decide +kernel
theorem dX7_listDay_14 : decode cX7_listDay 14 = .ok (.if_icmp .ge 61, 3) := by decide +kernel
theorem dX7_listDay_17 : decode cX7_listDay 17 = .ok (.aload_n 0, 1) := by decide +kernel
theorem dX7_listDay_18 : decode cX7_listDay 18 = .ok (.getfield 59, 3) := by decide +kernel
theorem dX7_listDay_21 : decode cX7_listDay 21 = .ok (.sipush 300, 3) := by decide +kernel
theorem dX7_listDay_24 : decode cX7_listDay 24 = .ok (.if_icmp .ge 51, 3) := by decide +kernel
theorem dX7_listDay_27 : decode cX7_listDay 27 = .ok (.aload_n 0, 1) := by decide +kernel
theorem dX7_listDay_28 : decode cX7_listDay 28 = .ok (.iload 5, 2) := by decide +kernel
theorem dX7_listDay_30 : decode cX7_listDay 30 = .ok (.iload_n 1, 1) := by decide +kernel
theorem dX7_listDay_31 : decode cX7_listDay 31 = .ok (.invokevirtual 174, 3) := by decide +kernel
theorem dX7_listDay_34 : decode cX7_listDay 34 = .ok (.iconst 1, 1) := by decide +kernel
theorem dX7_listDay_35 : decode cX7_listDay 35 = .ok (.iload_n 2, 1) := by decide +kernel
theorem dX7_listDay_36 : decode cX7_listDay 36 = .ok (.ishl, 1) := by decide +kernel
theorem dX7_listDay_37 : decode cX7_listDay 37 = .ok (.iand, 1) := by decide +kernel
theorem dX7_listDay_38 : decode cX7_listDay 38 = .ok (.ifCond .eq 31, 3) := by decide +kernel
theorem dX7_listDay_41 : decode cX7_listDay 41 = .ok (.aload_n 0, 1) := by decide +kernel
theorem dX7_listDay_42 : decode cX7_listDay 42 = .ok (.getfield 55, 3) := by decide +kernel
theorem dX7_listDay_45 : decode cX7_listDay 45 = .ok (.aload_n 0, 1) := by decide +kernel
theorem dX7_listDay_46 : decode cX7_listDay 46 = .ok (.getfield 59, 3) := by decide +kernel
theorem dX7_listDay_49 : decode cX7_listDay 49 = .ok (.ldc2_w 180, 3) := by decide +kernel
theorem dX7_listDay_52 : decode cX7_listDay 52 = .ok (.lload_n 3, 1) := by decide +kernel
theorem dX7_listDay_53 : decode cX7_listDay 53 = .ok (.lmul, 1) := by decide +kernel
theorem dX7_listDay_54 : decode cX7_listDay 54 = .ok (.iload 5, 2) := by decide +kernel
theorem dX7_listDay_56 : decode cX7_listDay 56 = .ok (.i2l, 1) := by decide +kernel
theorem dX7_listDay_57 : decode cX7_listDay 57 = .ok (.ladd, 1) := by decide +kernel
theorem dX7_listDay_58 : decode cX7_listDay 58 = .ok (.lastore, 1) := by decide +kernel
theorem dX7_listDay_59 : decode cX7_listDay 59 = .ok (.aload_n 0, 1) := by decide +kernel
theorem dX7_listDay_60 : decode cX7_listDay 60 = .ok (.dup, 1) := by decide +kernel
theorem dX7_listDay_61 : decode cX7_listDay 61 = .ok (.getfield 59, 3) := by decide +kernel
theorem dX7_listDay_64 : decode cX7_listDay 64 = .ok (.iconst 1, 1) := by decide +kernel
theorem dX7_listDay_65 : decode cX7_listDay 65 = .ok (.iadd, 1) := by decide +kernel
theorem dX7_listDay_66 : decode cX7_listDay 66 = .ok (.putfield 59, 3) := by decide +kernel
theorem dX7_listDay_69 : decode cX7_listDay 69 = .ok (.iinc 5 1, 3) := by decide +kernel
theorem dX7_listDay_72 : decode cX7_listDay 72 = .ok (.goto (-62), 3) := by decide +kernel
theorem dX7_listDay_75 : decode cX7_listDay 75 = .ok (.return_, 1) := by decide +kernel
theorem dX7_countThings_0 : decode cX7_countThings 0 = .ok (.aload_n 0, 1) := by decide +kernel
theorem dX7_countThings_1 : decode cX7_countThings 1 = .ok (.getfield 62, 3) := by decide +kernel
theorem dX7_countThings_4 : decode cX7_countThings 4 = .ok (.iconst 0, 1) := by decide +kernel
theorem dX7_countThings_5 : decode cX7_countThings 5 = .ok (.invokestatic 182, 3) := by decide +kernel
theorem dX7_countThings_8 : decode cX7_countThings 8 = .ok (.iconst 0, 1) := by decide +kernel
theorem dX7_countThings_9 : decode cX7_countThings 9 = .ok (.istore_n 3, 1) := by decide +kernel
theorem dX7_countThings_10 : decode cX7_countThings 10 = .ok (.iload_n 3, 1) := by decide +kernel
theorem dX7_countThings_11 : decode cX7_countThings 11 = .ok (.bipush 12, 2) := by decide +kernel
theorem dX7_countThings_13 : decode cX7_countThings 13 = .ok (.if_icmp .ge 62, 3) := by decide +kernel
theorem dX7_countThings_16 : decode cX7_countThings 16 = .ok (.aload_n 0, 1) := by decide +kernel
theorem dX7_countThings_17 : decode cX7_countThings 17 = .ok (.iload_n 3, 1) := by decide +kernel
theorem dX7_countThings_18 : decode cX7_countThings 18 = .ok (.iload_n 1, 1) := by decide +kernel
theorem dX7_countThings_19 : decode cX7_countThings 19 = .ok (.invokevirtual 174, 3) := by decide +kernel
theorem dX7_countThings_22 : decode cX7_countThings 22 = .ok (.iload_n 2, 1) := by decide +kernel
theorem dX7_countThings_23 : decode cX7_countThings 23 = .ok (.iand, 1) := by decide +kernel
theorem dX7_countThings_24 : decode cX7_countThings 24 = .ok (.istore 4, 2) := by decide +kernel
theorem dX7_countThings_26 : decode cX7_countThings 26 = .ok (.iconst 0, 1) := by decide +kernel
theorem dX7_countThings_27 : decode cX7_countThings 27 = .ok (.istore 5, 2) := by decide +kernel
theorem dX7_countThings_29 : decode cX7_countThings 29 = .ok (.iload 5, 2) := by decide +kernel
theorem dX7_countThings_31 : decode cX7_countThings 31 = .ok (.iconst 4, 1) := by decide +kernel
theorem dX7_countThings_32 : decode cX7_countThings 32 = .ok (.if_icmp .ge 37, 3) := by decide +kernel
theorem dX7_countThings_35 : decode cX7_countThings 35 = .ok (.aload_n 0, 1) := by decide +kernel
theorem dX7_countThings_36 : decode cX7_countThings 36 = .ok (.getfield 62, 3) := by decide +kernel
theorem dX7_countThings_39 : decode cX7_countThings 39 = .ok (.iload 5, 2) := by decide +kernel
theorem dX7_countThings_41 : decode cX7_countThings 41 = .ok (.iaload, 1) := by decide +kernel
theorem dX7_countThings_42 : decode cX7_countThings 42 = .ok (.iload 4, 2) := by decide +kernel
theorem dX7_countThings_44 : decode cX7_countThings 44 = .ok (.iand, 1) := by decide +kernel
theorem dX7_countThings_45 : decode cX7_countThings 45 = .ok (.istore 6, 2) := by decide +kernel
theorem dX7_countThings_47 : decode cX7_countThings 47 = .ok (.aload_n 0, 1) := by decide +kernel
theorem dX7_countThings_48 : decode cX7_countThings 48 = .ok (.getfield 62, 3) := by decide +kernel
theorem dX7_countThings_51 : decode cX7_countThings 51 = .ok (.iload 5, 2) := by decide +kernel
theorem dX7_countThings_53 : decode cX7_countThings 53 = .ok (.dup2, 1) := by decide +kernel
theorem dX7_countThings_54 : decode cX7_countThings 54 = .ok (.iaload, 1) := by decide +kernel
theorem dX7_countThings_55 : decode cX7_countThings 55 = .ok (.iload 4, 2) := by decide +kernel
theorem dX7_countThings_57 : decode cX7_countThings 57 = .ok (.ixor, 1) := by decide +kernel
theorem dX7_countThings_58 : decode cX7_countThings 58 = .ok (.iastore, 1) := by decide +kernel
theorem dX7_countThings_59 : decode cX7_countThings 59 = .ok (.iload 6, 2) := by decide +kernel
theorem dX7_countThings_61 : decode cX7_countThings 61 = .ok (.istore 4, 2) := by decide +kernel
theorem dX7_countThings_63 : decode cX7_countThings 63 = .ok (.iinc 5 1, 3) := by decide +kernel
theorem dX7_countThings_66 : decode cX7_countThings 66 = .ok (.goto (-37), 3) := by decide +kernel
theorem dX7_countThings_69 : decode cX7_countThings 69 = .ok (.iinc 3 1, 3) := by decide +kernel
theorem dX7_countThings_72 : decode cX7_countThings 72 = .ok (.goto (-62), 3) := by decide +kernel
theorem dX7_countThings_75 : decode cX7_countThings 75 = .ok (.return_, 1) := by decide +kernel
theorem dJ6_numberOfTrailingZeros_0f7a4_0 : decode cJ6_numberOfTrailingZeros_0f7a4 0 = .ok (.iload_n 0, 1) := by decide +kernel
theorem dJ6_numberOfTrailingZeros_0f7a4_1 : decode cJ6_numberOfTrailingZeros_0f7a4 1 = .ok (.iconst (-1), 1) := by decide +kernel
theorem dJ6_numberOfTrailingZeros_0f7a4_2 : decode cJ6_numberOfTrailingZeros_0f7a4 2 = .ok (.ixor, 1) := by decide +kernel
theorem dJ6_numberOfTrailingZeros_0f7a4_3 : decode cJ6_numberOfTrailingZeros_0f7a4 3 = .ok (.iload_n 0, 1) := by decide +kernel
theorem dJ6_numberOfTrailingZeros_0f7a4_4 : decode cJ6_numberOfTrailingZeros_0f7a4 4 = .ok (.iconst 1, 1) := by decide +kernel
theorem dJ6_numberOfTrailingZeros_0f7a4_5 : decode cJ6_numberOfTrailingZeros_0f7a4 5 = .ok (.isub, 1) := by decide +kernel
theorem dJ6_numberOfTrailingZeros_0f7a4_6 : decode cJ6_numberOfTrailingZeros_0f7a4 6 = .ok (.iand, 1) := by decide +kernel
theorem dJ6_numberOfTrailingZeros_0f7a4_7 : decode cJ6_numberOfTrailingZeros_0f7a4 7 = .ok (.istore_n 0, 1) := by decide +kernel
theorem dJ6_numberOfTrailingZeros_0f7a4_8 : decode cJ6_numberOfTrailingZeros_0f7a4 8 = .ok (.iload_n 0, 1) := by decide +kernel
theorem dJ6_numberOfTrailingZeros_0f7a4_9 : decode cJ6_numberOfTrailingZeros_0f7a4 9 = .ok (.ifCond .gt 8, 3) := by decide +kernel
theorem dJ6_numberOfTrailingZeros_0f7a4_12 : decode cJ6_numberOfTrailingZeros_0f7a4 12 = .ok (.iload_n 0, 1) := by decide +kernel
theorem dJ6_numberOfTrailingZeros_0f7a4_13 : decode cJ6_numberOfTrailingZeros_0f7a4 13 = .ok (.bipush 32, 2) := by decide +kernel
theorem dJ6_numberOfTrailingZeros_0f7a4_15 : decode cJ6_numberOfTrailingZeros_0f7a4 15 = .ok (.iand, 1) := by decide +kernel
theorem dJ6_numberOfTrailingZeros_0f7a4_16 : decode cJ6_numberOfTrailingZeros_0f7a4 16 = .ok (.ireturn, 1) := by decide +kernel
theorem dJ6_numberOfTrailingZeros_0f7a4_17 : decode cJ6_numberOfTrailingZeros_0f7a4 17 = .ok (.iconst 1, 1) := by decide +kernel
theorem dJ6_numberOfTrailingZeros_0f7a4_18 : decode cJ6_numberOfTrailingZeros_0f7a4 18 = .ok (.istore_n 1, 1) := by decide +kernel
theorem dJ6_numberOfTrailingZeros_0f7a4_19 : decode cJ6_numberOfTrailingZeros_0f7a4 19 = .ok (.iload_n 0, 1) := by decide +kernel
theorem dJ6_numberOfTrailingZeros_0f7a4_20 : decode cJ6_numberOfTrailingZeros_0f7a4 20 = .ok (.ldc_w 264, 3) := by decide +kernel
theorem dJ6_numberOfTrailingZeros_0f7a4_23 : decode cJ6_numberOfTrailingZeros_0f7a4 23 = .ok (.if_icmp .le 11, 3) := by decide +kernel
theorem dJ6_numberOfTrailingZeros_0f7a4_26 : decode cJ6_numberOfTrailingZeros_0f7a4 26 = .ok (.iinc 1 16, 3) := by decide +kernel
theorem dJ6_numberOfTrailingZeros_0f7a4_29 : decode cJ6_numberOfTrailingZeros_0f7a4 29 = .ok (.iload_n 0, 1) := by decide +kernel
theorem dJ6_numberOfTrailingZeros_0f7a4_30 : decode cJ6_numberOfTrailingZeros_0f7a4 30 = .ok (.bipush 16, 2) := by decide +kernel
theorem dJ6_numberOfTrailingZeros_0f7a4_32 : decode cJ6_numberOfTrailingZeros_0f7a4 32 = .ok (.iushr, 1) := by decide +kernel
theorem dJ6_numberOfTrailingZeros_0f7a4_33 : decode cJ6_numberOfTrailingZeros_0f7a4 33 = .ok (.istore_n 0, 1) := by decide +kernel
theorem dJ6_numberOfTrailingZeros_0f7a4_34 : decode cJ6_numberOfTrailingZeros_0f7a4 34 = .ok (.iload_n 0, 1) := by decide +kernel
theorem dJ6_numberOfTrailingZeros_0f7a4_35 : decode cJ6_numberOfTrailingZeros_0f7a4 35 = .ok (.sipush 256, 3) := by decide +kernel
theorem dJ6_numberOfTrailingZeros_0f7a4_38 : decode cJ6_numberOfTrailingZeros_0f7a4 38 = .ok (.if_icmp .le 11, 3) := by decide +kernel
theorem dJ6_numberOfTrailingZeros_0f7a4_41 : decode cJ6_numberOfTrailingZeros_0f7a4 41 = .ok (.iinc 1 8, 3) := by decide +kernel
theorem dJ6_numberOfTrailingZeros_0f7a4_44 : decode cJ6_numberOfTrailingZeros_0f7a4 44 = .ok (.iload_n 0, 1) := by decide +kernel
theorem dJ6_numberOfTrailingZeros_0f7a4_45 : decode cJ6_numberOfTrailingZeros_0f7a4 45 = .ok (.bipush 8, 2) := by decide +kernel
theorem dJ6_numberOfTrailingZeros_0f7a4_47 : decode cJ6_numberOfTrailingZeros_0f7a4 47 = .ok (.iushr, 1) := by decide +kernel
theorem dJ6_numberOfTrailingZeros_0f7a4_48 : decode cJ6_numberOfTrailingZeros_0f7a4 48 = .ok (.istore_n 0, 1) := by decide +kernel
theorem dJ6_numberOfTrailingZeros_0f7a4_49 : decode cJ6_numberOfTrailingZeros_0f7a4 49 = .ok (.iload_n 0, 1) := by decide +kernel
theorem dJ6_numberOfTrailingZeros_0f7a4_50 : decode cJ6_numberOfTrailingZeros_0f7a4 50 = .ok (.bipush 16, 2) := by decide +kernel
theorem dJ6_numberOfTrailingZeros_0f7a4_52 : decode cJ6_numberOfTrailingZeros_0f7a4 52 = .ok (.if_icmp .le 10, 3) := by decide +kernel
theorem dJ6_numberOfTrailingZeros_0f7a4_55 : decode cJ6_numberOfTrailingZeros_0f7a4 55 = .ok (.iinc 1 4, 3) := by decide +kernel
theorem dJ6_numberOfTrailingZeros_0f7a4_58 : decode cJ6_numberOfTrailingZeros_0f7a4 58 = .ok (.iload_n 0, 1) := by decide +kernel
theorem dJ6_numberOfTrailingZeros_0f7a4_59 : decode cJ6_numberOfTrailingZeros_0f7a4 59 = .ok (.iconst 4, 1) := by decide +kernel
theorem dJ6_numberOfTrailingZeros_0f7a4_60 : decode cJ6_numberOfTrailingZeros_0f7a4 60 = .ok (.iushr, 1) := by decide +kernel
theorem dJ6_numberOfTrailingZeros_0f7a4_61 : decode cJ6_numberOfTrailingZeros_0f7a4 61 = .ok (.istore_n 0, 1) := by decide +kernel
theorem dJ6_numberOfTrailingZeros_0f7a4_62 : decode cJ6_numberOfTrailingZeros_0f7a4 62 = .ok (.iload_n 0, 1) := by decide +kernel
theorem dJ6_numberOfTrailingZeros_0f7a4_63 : decode cJ6_numberOfTrailingZeros_0f7a4 63 = .ok (.iconst 4, 1) := by decide +kernel
theorem dJ6_numberOfTrailingZeros_0f7a4_64 : decode cJ6_numberOfTrailingZeros_0f7a4 64 = .ok (.if_icmp .le 10, 3) := by decide +kernel
theorem dJ6_numberOfTrailingZeros_0f7a4_67 : decode cJ6_numberOfTrailingZeros_0f7a4 67 = .ok (.iinc 1 2, 3) := by decide +kernel
theorem dJ6_numberOfTrailingZeros_0f7a4_70 : decode cJ6_numberOfTrailingZeros_0f7a4 70 = .ok (.iload_n 0, 1) := by decide +kernel
theorem dJ6_numberOfTrailingZeros_0f7a4_71 : decode cJ6_numberOfTrailingZeros_0f7a4 71 = .ok (.iconst 2, 1) := by decide +kernel
theorem dJ6_numberOfTrailingZeros_0f7a4_72 : decode cJ6_numberOfTrailingZeros_0f7a4 72 = .ok (.iushr, 1) := by decide +kernel
theorem dJ6_numberOfTrailingZeros_0f7a4_73 : decode cJ6_numberOfTrailingZeros_0f7a4 73 = .ok (.istore_n 0, 1) := by decide +kernel
theorem dJ6_numberOfTrailingZeros_0f7a4_74 : decode cJ6_numberOfTrailingZeros_0f7a4 74 = .ok (.iload_n 1, 1) := by decide +kernel
theorem dJ6_numberOfTrailingZeros_0f7a4_75 : decode cJ6_numberOfTrailingZeros_0f7a4 75 = .ok (.iload_n 0, 1) := by decide +kernel
theorem dJ6_numberOfTrailingZeros_0f7a4_76 : decode cJ6_numberOfTrailingZeros_0f7a4 76 = .ok (.iconst 1, 1) := by decide +kernel
theorem dJ6_numberOfTrailingZeros_0f7a4_77 : decode cJ6_numberOfTrailingZeros_0f7a4 77 = .ok (.iushr, 1) := by decide +kernel
theorem dJ6_numberOfTrailingZeros_0f7a4_78 : decode cJ6_numberOfTrailingZeros_0f7a4 78 = .ok (.iadd, 1) := by decide +kernel
theorem dJ6_numberOfTrailingZeros_0f7a4_79 : decode cJ6_numberOfTrailingZeros_0f7a4 79 = .ok (.ireturn, 1) := by decide +kernel
theorem dJ6_bitCount_0f7a4_0 : decode cJ6_bitCount_0f7a4 0 = .ok (.iload_n 0, 1) := by decide +kernel
theorem dJ6_bitCount_0f7a4_1 : decode cJ6_bitCount_0f7a4 1 = .ok (.iload_n 0, 1) := by decide +kernel
theorem dJ6_bitCount_0f7a4_2 : decode cJ6_bitCount_0f7a4 2 = .ok (.iconst 1, 1) := by decide +kernel
theorem dJ6_bitCount_0f7a4_3 : decode cJ6_bitCount_0f7a4 3 = .ok (.iushr, 1) := by decide +kernel
theorem dJ6_bitCount_0f7a4_4 : decode cJ6_bitCount_0f7a4 4 = .ok (.ldc_w 265, 3) := by decide +kernel
theorem dJ6_bitCount_0f7a4_7 : decode cJ6_bitCount_0f7a4 7 = .ok (.iand, 1) := by decide +kernel
theorem dJ6_bitCount_0f7a4_8 : decode cJ6_bitCount_0f7a4 8 = .ok (.isub, 1) := by decide +kernel
theorem dJ6_bitCount_0f7a4_9 : decode cJ6_bitCount_0f7a4 9 = .ok (.istore_n 0, 1) := by decide +kernel
theorem dJ6_bitCount_0f7a4_10 : decode cJ6_bitCount_0f7a4 10 = .ok (.iload_n 0, 1) := by decide +kernel
theorem dJ6_bitCount_0f7a4_11 : decode cJ6_bitCount_0f7a4 11 = .ok (.ldc_w 266, 3) := by decide +kernel
theorem dJ6_bitCount_0f7a4_14 : decode cJ6_bitCount_0f7a4 14 = .ok (.iand, 1) := by decide +kernel
theorem dJ6_bitCount_0f7a4_15 : decode cJ6_bitCount_0f7a4 15 = .ok (.iload_n 0, 1) := by decide +kernel
theorem dJ6_bitCount_0f7a4_16 : decode cJ6_bitCount_0f7a4 16 = .ok (.iconst 2, 1) := by decide +kernel
theorem dJ6_bitCount_0f7a4_17 : decode cJ6_bitCount_0f7a4 17 = .ok (.iushr, 1) := by decide +kernel
theorem dJ6_bitCount_0f7a4_18 : decode cJ6_bitCount_0f7a4 18 = .ok (.ldc_w 266, 3) := by decide +kernel
theorem dJ6_bitCount_0f7a4_21 : decode cJ6_bitCount_0f7a4 21 = .ok (.iand, 1) := by decide +kernel
theorem dJ6_bitCount_0f7a4_22 : decode cJ6_bitCount_0f7a4 22 = .ok (.iadd, 1) := by decide +kernel
theorem dJ6_bitCount_0f7a4_23 : decode cJ6_bitCount_0f7a4 23 = .ok (.istore_n 0, 1) := by decide +kernel
theorem dJ6_bitCount_0f7a4_24 : decode cJ6_bitCount_0f7a4 24 = .ok (.iload_n 0, 1) := by decide +kernel
theorem dJ6_bitCount_0f7a4_25 : decode cJ6_bitCount_0f7a4 25 = .ok (.iload_n 0, 1) := by decide +kernel
theorem dJ6_bitCount_0f7a4_26 : decode cJ6_bitCount_0f7a4 26 = .ok (.iconst 4, 1) := by decide +kernel
theorem dJ6_bitCount_0f7a4_27 : decode cJ6_bitCount_0f7a4 27 = .ok (.iushr, 1) := by decide +kernel
theorem dJ6_bitCount_0f7a4_28 : decode cJ6_bitCount_0f7a4 28 = .ok (.iadd, 1) := by decide +kernel
theorem dJ6_bitCount_0f7a4_29 : decode cJ6_bitCount_0f7a4 29 = .ok (.ldc_w 267, 3) := by decide +kernel
theorem dJ6_bitCount_0f7a4_32 : decode cJ6_bitCount_0f7a4 32 = .ok (.iand, 1) := by decide +kernel
theorem dJ6_bitCount_0f7a4_33 : decode cJ6_bitCount_0f7a4 33 = .ok (.istore_n 0, 1) := by decide +kernel
theorem dJ6_bitCount_0f7a4_34 : decode cJ6_bitCount_0f7a4 34 = .ok (.iload_n 0, 1) := by decide +kernel
theorem dJ6_bitCount_0f7a4_35 : decode cJ6_bitCount_0f7a4 35 = .ok (.iload_n 0, 1) := by decide +kernel
theorem dJ6_bitCount_0f7a4_36 : decode cJ6_bitCount_0f7a4 36 = .ok (.bipush 8, 2) := by decide +kernel
theorem dJ6_bitCount_0f7a4_38 : decode cJ6_bitCount_0f7a4 38 = .ok (.iushr, 1) := by decide +kernel
theorem dJ6_bitCount_0f7a4_39 : decode cJ6_bitCount_0f7a4 39 = .ok (.iadd, 1) := by decide +kernel
theorem dJ6_bitCount_0f7a4_40 : decode cJ6_bitCount_0f7a4 40 = .ok (.istore_n 0, 1) := by decide +kernel
theorem dJ6_bitCount_0f7a4_41 : decode cJ6_bitCount_0f7a4 41 = .ok (.iload_n 0, 1) := by decide +kernel
theorem dJ6_bitCount_0f7a4_42 : decode cJ6_bitCount_0f7a4 42 = .ok (.iload_n 0, 1) := by decide +kernel
theorem dJ6_bitCount_0f7a4_43 : decode cJ6_bitCount_0f7a4 43 = .ok (.bipush 16, 2) := by decide +kernel
theorem dJ6_bitCount_0f7a4_45 : decode cJ6_bitCount_0f7a4 45 = .ok (.iushr, 1) := by decide +kernel
theorem dJ6_bitCount_0f7a4_46 : decode cJ6_bitCount_0f7a4 46 = .ok (.iadd, 1) := by decide +kernel
theorem dJ6_bitCount_0f7a4_47 : decode cJ6_bitCount_0f7a4 47 = .ok (.istore_n 0, 1) := by decide +kernel
theorem dJ6_bitCount_0f7a4_48 : decode cJ6_bitCount_0f7a4 48 = .ok (.iload_n 0, 1) := by decide +kernel
theorem dJ6_bitCount_0f7a4_49 : decode cJ6_bitCount_0f7a4 49 = .ok (.bipush 63, 2) := by decide +kernel
theorem dJ6_bitCount_0f7a4_51 : decode cJ6_bitCount_0f7a4 51 = .ok (.iand, 1) := by decide +kernel
theorem dJ6_bitCount_0f7a4_52 : decode cJ6_bitCount_0f7a4 52 = .ok (.ireturn, 1) := by decide +kernel
theorem dJ9_max_7cf53_0 : decode cJ9_max_7cf53 0 = .ok (.iload_n 0, 1) := by decide +kernel
theorem dJ9_max_7cf53_1 : decode cJ9_max_7cf53 1 = .ok (.iload_n 1, 1) := by decide +kernel
theorem dJ9_max_7cf53_2 : decode cJ9_max_7cf53 2 = .ok (.if_icmp .lt 7, 3) := by decide +kernel
theorem dJ9_max_7cf53_5 : decode cJ9_max_7cf53 5 = .ok (.iload_n 0, 1) := by decide +kernel
theorem dJ9_max_7cf53_6 : decode cJ9_max_7cf53 6 = .ok (.goto 4, 3) := by decide +kernel
theorem dJ9_max_7cf53_9 : decode cJ9_max_7cf53 9 = .ok (.iload_n 1, 1) := by decide +kernel
theorem dJ9_max_7cf53_10 : decode cJ9_max_7cf53 10 = .ok (.ireturn, 1) := by decide +kernel
theorem dJ9_min_7cf53_0 : decode cJ9_min_7cf53 0 = .ok (.iload_n 0, 1) := by decide +kernel
theorem dJ9_min_7cf53_1 : decode cJ9_min_7cf53 1 = .ok (.iload_n 1, 1) := by decide +kernel
theorem dJ9_min_7cf53_2 : decode cJ9_min_7cf53 2 = .ok (.if_icmp .gt 7, 3) := by decide +kernel
theorem dJ9_min_7cf53_5 : decode cJ9_min_7cf53 5 = .ok (.iload_n 0, 1) := by decide +kernel
theorem dJ9_min_7cf53_6 : decode cJ9_min_7cf53 6 = .ok (.goto 4, 3) := by decide +kernel
theorem dJ9_min_7cf53_9 : decode cJ9_min_7cf53 9 = .ok (.iload_n 1, 1) := by decide +kernel
theorem dJ9_min_7cf53_10 : decode cJ9_min_7cf53 10 = .ok (.ireturn, 1) := by decide +kernel
theorem dJ0_length_8abf5_0 : decode cJ0_length_8abf5 0 = .ok (.aload_n 0, 1) := by decide +kernel
theorem dJ0_length_8abf5_1 : decode cJ0_length_8abf5 1 = .ok (.getfield 9, 3) := by decide +kernel
theorem dJ0_length_8abf5_4 : decode cJ0_length_8abf5 4 = .ok (.arraylength, 1) := by decide +kernel
theorem dJ0_length_8abf5_5 : decode cJ0_length_8abf5 5 = .ok (.aload_n 0, 1) := by decide +kernel
theorem dJ0_length_8abf5_6 : decode cJ0_length_8abf5 6 = .ok (.invokevirtual 335, 3) := by decide +kernel
theorem dJ0_length_8abf5_9 : decode cJ0_length_8abf5 9 = .ok (.ishr, 1) := by decide +kernel
theorem dJ0_length_8abf5_10 : decode cJ0_length_8abf5 10 = .ok (.ireturn, 1) := by decide +kernel
theorem dJ0_charAt_5068e_0 : decode cJ0_charAt_5068e 0 = .ok (.aload_n 0, 1) := by decide +kernel
theorem dJ0_charAt_5068e_1 : decode cJ0_charAt_5068e 1 = .ok (.invokevirtual 492, 3) := by decide +kernel
theorem dJ0_charAt_5068e_4 : decode cJ0_charAt_5068e 4 = .ok (.ifCond .eq 12, 3) := by decide +kernel
theorem dJ0_charAt_5068e_7 : decode cJ0_charAt_5068e 7 = .ok (.aload_n 0, 1) := by decide +kernel
theorem dJ0_charAt_5068e_8 : decode cJ0_charAt_5068e 8 = .ok (.getfield 9, 3) := by decide +kernel
theorem dJ0_charAt_5068e_11 : decode cJ0_charAt_5068e 11 = .ok (.iload_n 1, 1) := by decide +kernel
theorem dJ0_charAt_5068e_12 : decode cJ0_charAt_5068e 12 = .ok (.invokestatic 495, 3) := by decide +kernel
theorem dJ0_charAt_5068e_15 : decode cJ0_charAt_5068e 15 = .ok (.ireturn, 1) := by decide +kernel
theorem dJ0_charAt_5068e_16 : decode cJ0_charAt_5068e 16 = .ok (.aload_n 0, 1) := by decide +kernel
theorem dJ0_charAt_5068e_17 : decode cJ0_charAt_5068e 17 = .ok (.getfield 9, 3) := by decide +kernel
theorem dJ0_charAt_5068e_20 : decode cJ0_charAt_5068e 20 = .ok (.iload_n 1, 1) := by decide +kernel
theorem dJ0_charAt_5068e_21 : decode cJ0_charAt_5068e 21 = .ok (.invokestatic 498, 3) := by decide +kernel
theorem dJ0_charAt_5068e_24 : decode cJ0_charAt_5068e 24 = .ok (.ireturn, 1) := by decide +kernel
theorem dJ0_coder_7d493_0 : decode cJ0_coder_7d493 0 = .ok (.getstatic 38, 3) := by decide +kernel
theorem dJ0_coder_7d493_3 : decode cJ0_coder_7d493 3 = .ok (.ifCond .eq 10, 3) := by decide +kernel
theorem dJ0_coder_7d493_6 : decode cJ0_coder_7d493 6 = .ok (.aload_n 0, 1) := by decide +kernel
theorem dJ0_coder_7d493_7 : decode cJ0_coder_7d493 7 = .ok (.getfield 15, 3) := by decide +kernel
theorem dJ0_coder_7d493_10 : decode cJ0_coder_7d493 10 = .ok (.goto 4, 3) := by decide +kernel
theorem dJ0_coder_7d493_13 : decode cJ0_coder_7d493 13 = .ok (.iconst 1, 1) := by decide +kernel
theorem dJ0_coder_7d493_14 : decode cJ0_coder_7d493 14 = .ok (.ireturn, 1) := by decide +kernel
theorem dJ0_isLatin1_aae02_0 : decode cJ0_isLatin1_aae02 0 = .ok (.getstatic 38, 3) := by decide +kernel
theorem dJ0_isLatin1_aae02_3 : decode cJ0_isLatin1_aae02 3 = .ok (.ifCond .eq 14, 3) := by decide +kernel
theorem dJ0_isLatin1_aae02_6 : decode cJ0_isLatin1_aae02 6 = .ok (.aload_n 0, 1) := by decide +kernel
theorem dJ0_isLatin1_aae02_7 : decode cJ0_isLatin1_aae02 7 = .ok (.getfield 15, 3) := by decide +kernel
theorem dJ0_isLatin1_aae02_10 : decode cJ0_isLatin1_aae02 10 = .ok (.ifCond .ne 7, 3) := by decide +kernel
theorem dJ0_isLatin1_aae02_13 : decode cJ0_isLatin1_aae02 13 = .ok (.iconst 1, 1) := by decide +kernel
theorem dJ0_isLatin1_aae02_14 : decode cJ0_isLatin1_aae02 14 = .ok (.goto 4, 3) := by decide +kernel
theorem dJ0_isLatin1_aae02_17 : decode cJ0_isLatin1_aae02 17 = .ok (.iconst 0, 1) := by decide +kernel
theorem dJ0_isLatin1_aae02_18 : decode cJ0_isLatin1_aae02 18 = .ok (.ireturn, 1) := by decide +kernel
theorem dJ0_checkIndex_df160_0 : decode cJ0_checkIndex_df160 0 = .ok (.iload_n 0, 1) := by decide +kernel
theorem dJ0_checkIndex_df160_1 : decode cJ0_checkIndex_df160 1 = .ok (.iload_n 1, 1) := by decide +kernel
theorem dJ0_checkIndex_df160_2 : decode cJ0_checkIndex_df160 2 = .ok (.getstatic 1053, 3) := by decide +kernel
theorem dJ0_checkIndex_df160_5 : decode cJ0_checkIndex_df160 5 = .ok (.invokestatic 1059, 3) := by decide +kernel
theorem dJ0_checkIndex_df160_8 : decode cJ0_checkIndex_df160 8 = .ok (.pop, 1) := by decide +kernel
theorem dJ0_checkIndex_df160_9 : decode cJ0_checkIndex_df160 9 = .ok (.return_, 1) := by decide +kernel
theorem dJ1_charAt_3b067_0 : decode cJ1_charAt_3b067 0 = .ok (.iload_n 1, 1) := by decide +kernel
theorem dJ1_charAt_3b067_1 : decode cJ1_charAt_3b067 1 = .ok (.aload_n 0, 1) := by decide +kernel
theorem dJ1_charAt_3b067_2 : decode cJ1_charAt_3b067 2 = .ok (.arraylength, 1) := by decide +kernel
theorem dJ1_charAt_3b067_3 : decode cJ1_charAt_3b067 3 = .ok (.invokestatic 9, 3) := by decide +kernel
theorem dJ1_charAt_3b067_6 : decode cJ1_charAt_3b067 6 = .ok (.aload_n 0, 1) := by decide +kernel
theorem dJ1_charAt_3b067_7 : decode cJ1_charAt_3b067 7 = .ok (.iload_n 1, 1) := by decide +kernel
theorem dJ1_charAt_3b067_8 : decode cJ1_charAt_3b067 8 = .ok (.baload, 1) := by decide +kernel
theorem dJ1_charAt_3b067_9 : decode cJ1_charAt_3b067 9 = .ok (.sipush 255, 3) := by decide +kernel
theorem dJ1_charAt_3b067_12 : decode cJ1_charAt_3b067 12 = .ok (.iand, 1) := by decide +kernel
theorem dJ1_charAt_3b067_13 : decode cJ1_charAt_3b067 13 = .ok (.i2c, 1) := by decide +kernel
theorem dJ1_charAt_3b067_14 : decode cJ1_charAt_3b067 14 = .ok (.ireturn, 1) := by decide +kernel
theorem dJ2_getChar_3b067_0 : decode cJ2_getChar_3b067 0 = .ok (.getstatic 44, 3) := by decide +kernel
theorem dJ2_getChar_3b067_3 : decode cJ2_getChar_3b067 3 = .ok (.ifCond .ne 25, 3) := by decide +kernel
theorem dJ2_getChar_3b067_6 : decode cJ2_getChar_3b067 6 = .ok (.iload_n 1, 1) := by decide +kernel
theorem dJ2_getChar_3b067_7 : decode cJ2_getChar_3b067 7 = .ok (.ifCond .lt 11, 3) := by decide +kernel
theorem dJ2_getChar_3b067_10 : decode cJ2_getChar_3b067 10 = .ok (.iload_n 1, 1) := by decide +kernel
theorem dJ2_getChar_3b067_11 : decode cJ2_getChar_3b067 11 = .ok (.aload_n 0, 1) := by decide +kernel
theorem dJ2_getChar_3b067_12 : decode cJ2_getChar_3b067 12 = .ok (.invokestatic 48, 3) := by decide +kernel
theorem dJ2_getChar_3b067_15 : decode cJ2_getChar_3b067 15 = .ok (.if_icmp .lt 13, 3) := by decide +kernel
theorem dJ2_getChar_3b067_18 : decode cJ2_getChar_3b067 18 = .ok (.new 52, 3) := by decide +kernel
theorem dJ2_getChar_3b067_21 : decode cJ2_getChar_3b067 21 = .ok (.dup, 1) := by decide +kernel
theorem dJ2_getChar_3b067_22 : decode cJ2_getChar_3b067 22 = .ok (.ldc 54, 2) := by decide +kernel
theorem dJ2_getChar_3b067_24 : decode cJ2_getChar_3b067 24 = .ok (.invokespecial 56, 3) := by decide +kernel
theorem dJ2_getChar_3b067_27 : decode cJ2_getChar_3b067 27 = .ok (.athrow, 1) := by decide +kernel
theorem dJ2_getChar_3b067_28 : decode cJ2_getChar_3b067 28 = .ok (.iload_n 1, 1) := by decide +kernel
theorem dJ2_getChar_3b067_29 : decode cJ2_getChar_3b067 29 = .ok (.iconst 1, 1) := by decide +kernel
theorem dJ2_getChar_3b067_30 : decode cJ2_getChar_3b067 30 = .ok (.ishl, 1) := by decide +kernel
theorem dJ2_getChar_3b067_31 : decode cJ2_getChar_3b067 31 = .ok (.istore_n 1, 1) := by decide +kernel
theorem dJ2_getChar_3b067_32 : decode cJ2_getChar_3b067 32 = .ok (.aload_n 0, 1) := by decide +kernel
theorem dJ2_getChar_3b067_33 : decode cJ2_getChar_3b067 33 = .ok (.iload_n 1, 1) := by decide +kernel
theorem dJ2_getChar_3b067_34 : decode cJ2_getChar_3b067 34 = .ok (.iinc 1 1, 3) := by decide +kernel
theorem dJ2_getChar_3b067_37 : decode cJ2_getChar_3b067 37 = .ok (.baload, 1) := by decide +kernel
theorem dJ2_getChar_3b067_38 : decode cJ2_getChar_3b067 38 = .ok (.sipush 255, 3) := by decide +kernel
theorem dJ2_getChar_3b067_41 : decode cJ2_getChar_3b067 41 = .ok (.iand, 1) := by decide +kernel
theorem dJ2_getChar_3b067_42 : decode cJ2_getChar_3b067 42 = .ok (.getstatic 59, 3) := by decide +kernel
theorem dJ2_getChar_3b067_45 : decode cJ2_getChar_3b067 45 = .ok (.ishl, 1) := by decide +kernel
theorem dJ2_getChar_3b067_46 : decode cJ2_getChar_3b067 46 = .ok (.aload_n 0, 1) := by decide +kernel
theorem dJ2_getChar_3b067_47 : decode cJ2_getChar_3b067 47 = .ok (.iload_n 1, 1) := by decide +kernel
theorem dJ2_getChar_3b067_48 : decode cJ2_getChar_3b067 48 = .ok (.baload, 1) := by decide +kernel
theorem dJ2_getChar_3b067_49 : decode cJ2_getChar_3b067 49 = .ok (.sipush 255, 3) := by decide +kernel
theorem dJ2_getChar_3b067_52 : decode cJ2_getChar_3b067 52 = .ok (.iand, 1) := by decide +kernel
theorem dJ2_getChar_3b067_53 : decode cJ2_getChar_3b067 53 = .ok (.getstatic 63, 3) := by decide +kernel
theorem dJ2_getChar_3b067_56 : decode cJ2_getChar_3b067 56 = .ok (.ishl, 1) := by decide +kernel
theorem dJ2_getChar_3b067_57 : decode cJ2_getChar_3b067 57 = .ok (.ior, 1) := by decide +kernel
theorem dJ2_getChar_3b067_58 : decode cJ2_getChar_3b067 58 = .ok (.i2c, 1) := by decide +kernel
theorem dJ2_getChar_3b067_59 : decode cJ2_getChar_3b067 59 = .ok (.ireturn, 1) := by decide +kernel
theorem dJ2_length_9d52b_0 : decode cJ2_length_9d52b 0 = .ok (.aload_n 0, 1) := by decide +kernel
theorem dJ2_length_9d52b_1 : decode cJ2_length_9d52b 1 = .ok (.arraylength, 1) := by decide +kernel
theorem dJ2_length_9d52b_2 : decode cJ2_length_9d52b 2 = .ok (.iconst 1, 1) := by decide +kernel
theorem dJ2_length_9d52b_3 : decode cJ2_length_9d52b 3 = .ok (.ishr, 1) := by decide +kernel
theorem dJ2_length_9d52b_4 : decode cJ2_length_9d52b 4 = .ok (.ireturn, 1) := by decide +kernel
theorem dJ2_charAt_3b067_0 : decode cJ2_charAt_3b067 0 = .ok (.iload_n 1, 1) := by decide +kernel
theorem dJ2_charAt_3b067_1 : decode cJ2_charAt_3b067 1 = .ok (.aload_n 0, 1) := by decide +kernel
theorem dJ2_charAt_3b067_2 : decode cJ2_charAt_3b067 2 = .ok (.invokestatic 67, 3) := by decide +kernel
theorem dJ2_charAt_3b067_5 : decode cJ2_charAt_3b067 5 = .ok (.aload_n 0, 1) := by decide +kernel
theorem dJ2_charAt_3b067_6 : decode cJ2_charAt_3b067 6 = .ok (.iload_n 1, 1) := by decide +kernel
theorem dJ2_charAt_3b067_7 : decode cJ2_charAt_3b067 7 = .ok (.invokestatic 71, 3) := by decide +kernel
theorem dJ2_charAt_3b067_10 : decode cJ2_charAt_3b067 10 = .ok (.ireturn, 1) := by decide +kernel
theorem dJ2_checkIndex_2214a_0 : decode cJ2_checkIndex_2214a 0 = .ok (.iload_n 0, 1) := by decide +kernel
theorem dJ2_checkIndex_2214a_1 : decode cJ2_checkIndex_2214a 1 = .ok (.aload_n 1, 1) := by decide +kernel
theorem dJ2_checkIndex_2214a_2 : decode cJ2_checkIndex_2214a 2 = .ok (.invokestatic 48, 3) := by decide +kernel
theorem dJ2_checkIndex_2214a_5 : decode cJ2_checkIndex_2214a 5 = .ok (.invokestatic 414, 3) := by decide +kernel
theorem dJ2_checkIndex_2214a_8 : decode cJ2_checkIndex_2214a 8 = .ok (.return_, 1) := by decide +kernel
theorem dJ7_fill_d0a16_0 : decode cJ7_fill_d0a16 0 = .ok (.iconst 0, 1) := by decide +kernel
theorem dJ7_fill_d0a16_1 : decode cJ7_fill_d0a16 1 = .ok (.istore_n 3, 1) := by decide +kernel
theorem dJ7_fill_d0a16_2 : decode cJ7_fill_d0a16 2 = .ok (.aload_n 0, 1) := by decide +kernel
theorem dJ7_fill_d0a16_3 : decode cJ7_fill_d0a16 3 = .ok (.arraylength, 1) := by decide +kernel
theorem dJ7_fill_d0a16_4 : decode cJ7_fill_d0a16 4 = .ok (.istore 4, 2) := by decide +kernel
theorem dJ7_fill_d0a16_6 : decode cJ7_fill_d0a16 6 = .ok (.iload_n 3, 1) := by decide +kernel
theorem dJ7_fill_d0a16_7 : decode cJ7_fill_d0a16 7 = .ok (.iload 4, 2) := by decide +kernel
theorem dJ7_fill_d0a16_9 : decode cJ7_fill_d0a16 9 = .ok (.if_icmp .ge 13, 3) := by decide +kernel
theorem dJ7_fill_d0a16_12 : decode cJ7_fill_d0a16 12 = .ok (.aload_n 0, 1) := by decide +kernel
theorem dJ7_fill_d0a16_13 : decode cJ7_fill_d0a16 13 = .ok (.iload_n 3, 1) := by decide +kernel
theorem dJ7_fill_d0a16_14 : decode cJ7_fill_d0a16 14 = .ok (.lload_n 1, 1) := by decide +kernel
theorem dJ7_fill_d0a16_15 : decode cJ7_fill_d0a16 15 = .ok (.lastore, 1) := by decide +kernel
theorem dJ7_fill_d0a16_16 : decode cJ7_fill_d0a16 16 = .ok (.iinc 3 1, 3) := by decide +kernel
theorem dJ7_fill_d0a16_19 : decode cJ7_fill_d0a16 19 = .ok (.goto (-13), 3) := by decide +kernel
theorem dJ7_fill_d0a16_22 : decode cJ7_fill_d0a16 22 = .ok (.return_, 1) := by decide +kernel
theorem dJ7_fill_53178_0 : decode cJ7_fill_53178 0 = .ok (.iconst 0, 1) := by decide +kernel
theorem dJ7_fill_53178_1 : decode cJ7_fill_53178 1 = .ok (.istore_n 2, 1) := by decide +kernel
theorem dJ7_fill_53178_2 : decode cJ7_fill_53178 2 = .ok (.aload_n 0, 1) := by decide +kernel
theorem dJ7_fill_53178_3 : decode cJ7_fill_53178 3 = .ok (.arraylength, 1) := by decide +kernel
theorem dJ7_fill_53178_4 : decode cJ7_fill_53178 4 = .ok (.istore_n 3, 1) := by decide +kernel
theorem dJ7_fill_53178_5 : decode cJ7_fill_53178 5 = .ok (.iload_n 2, 1) := by decide +kernel
theorem dJ7_fill_53178_6 : decode cJ7_fill_53178 6 = .ok (.iload_n 3, 1) := by decide +kernel
theorem dJ7_fill_53178_7 : decode cJ7_fill_53178 7 = .ok (.if_icmp .ge 13, 3) := by decide +kernel
theorem dJ7_fill_53178_10 : decode cJ7_fill_53178 10 = .ok (.aload_n 0, 1) := by decide +kernel
theorem dJ7_fill_53178_11 : decode cJ7_fill_53178 11 = .ok (.iload_n 2, 1) := by decide +kernel
theorem dJ7_fill_53178_12 : decode cJ7_fill_53178 12 = .ok (.iload_n 1, 1) := by decide +kernel
theorem dJ7_fill_53178_13 : decode cJ7_fill_53178 13 = .ok (.iastore, 1) := by decide +kernel
theorem dJ7_fill_53178_14 : decode cJ7_fill_53178 14 = .ok (.iinc 2 1, 3) := by decide +kernel
theorem dJ7_fill_53178_17 : decode cJ7_fill_53178 17 = .ok (.goto (-12), 3) := by decide +kernel
theorem dJ7_fill_53178_20 : decode cJ7_fill_53178 20 = .ok (.return_, 1) := by decide +kernel
theorem dJ7_fill_031fb_0 : decode cJ7_fill_031fb 0 = .ok (.iconst 0, 1) := by decide +kernel
theorem dJ7_fill_031fb_1 : decode cJ7_fill_031fb 1 = .ok (.istore_n 2, 1) := by decide +kernel
theorem dJ7_fill_031fb_2 : decode cJ7_fill_031fb 2 = .ok (.aload_n 0, 1) := by decide +kernel
theorem dJ7_fill_031fb_3 : decode cJ7_fill_031fb 3 = .ok (.arraylength, 1) := by decide +kernel
theorem dJ7_fill_031fb_4 : decode cJ7_fill_031fb 4 = .ok (.istore_n 3, 1) := by decide +kernel
theorem dJ7_fill_031fb_5 : decode cJ7_fill_031fb 5 = .ok (.iload_n 2, 1) := by decide +kernel
theorem dJ7_fill_031fb_6 : decode cJ7_fill_031fb 6 = .ok (.iload_n 3, 1) := by decide +kernel
theorem dJ7_fill_031fb_7 : decode cJ7_fill_031fb 7 = .ok (.if_icmp .ge 13, 3) := by decide +kernel
theorem dJ7_fill_031fb_10 : decode cJ7_fill_031fb 10 = .ok (.aload_n 0, 1) := by decide +kernel
theorem dJ7_fill_031fb_11 : decode cJ7_fill_031fb 11 = .ok (.iload_n 2, 1) := by decide +kernel
theorem dJ7_fill_031fb_12 : decode cJ7_fill_031fb 12 = .ok (.iload_n 1, 1) := by decide +kernel
theorem dJ7_fill_031fb_13 : decode cJ7_fill_031fb 13 = .ok (.bastore, 1) := by decide +kernel
theorem dJ7_fill_031fb_14 : decode cJ7_fill_031fb 14 = .ok (.iinc 2 1, 3) := by decide +kernel
theorem dJ7_fill_031fb_17 : decode cJ7_fill_031fb 17 = .ok (.goto (-12), 3) := by decide +kernel
theorem dJ7_fill_031fb_20 : decode cJ7_fill_031fb 20 = .ok (.return_, 1) := by decide +kernel
theorem dJ3_checkIndex_8e157_0 : decode cJ3_checkIndex_8e157 0 = .ok (.iload_n 0, 1) := by decide +kernel
theorem dJ3_checkIndex_8e157_1 : decode cJ3_checkIndex_8e157 1 = .ok (.ifCond .lt 8, 3) := by decide +kernel
theorem dJ3_checkIndex_8e157_4 : decode cJ3_checkIndex_8e157 4 = .ok (.iload_n 0, 1) := by decide +kernel
theorem dJ3_checkIndex_8e157_5 : decode cJ3_checkIndex_8e157 5 = .ok (.iload_n 1, 1) := by decide +kernel
theorem dJ3_checkIndex_8e157_6 : decode cJ3_checkIndex_8e157 6 = .ok (.if_icmp .lt 10, 3) := by decide +kernel
theorem dJ3_checkIndex_8e157_9 : decode cJ3_checkIndex_8e157 9 = .ok (.aload_n 2, 1) := by decide +kernel
theorem dJ3_checkIndex_8e157_10 : decode cJ3_checkIndex_8e157 10 = .ok (.iload_n 0, 1) := by decide +kernel
theorem dJ3_checkIndex_8e157_11 : decode cJ3_checkIndex_8e157 11 = .ok (.iload_n 1, 1) := by decide +kernel
theorem dJ3_checkIndex_8e157_12 : decode cJ3_checkIndex_8e157 12 = .ok (.invokestatic 95, 3) := by decide +kernel
theorem dJ3_checkIndex_8e157_15 : decode cJ3_checkIndex_8e157 15 = .ok (.athrow, 1) := by decide +kernel
theorem dJ3_checkIndex_8e157_16 : decode cJ3_checkIndex_8e157 16 = .ok (.iload_n 0, 1) := by decide +kernel
theorem dJ3_checkIndex_8e157_17 : decode cJ3_checkIndex_8e157 17 = .ok (.ireturn, 1) := by decide +kernel
end
section
theorem dX8_init_0 : decode cX8_init 0 = .ok (.aload_n 0, 1) := by decide +kernel
theorem dX8_init_1 : decode cX8_init 1 = .ok (.invokespecial 1, 3) := by decide +kernel
theorem dX8_init_4 : decode cX8_init 4 = .ok (.aload_n 0, 1) := by decide +kernel
theorem dX8_init_5 : decode cX8_init 5 = .ok (.ldc 7, 2) := by decide +kernel
theorem dX8_init_7 : decode cX8_init 7 = .ok (.newarray .int, 2) := by decide +kernel
theorem dX8_init_9 : decode cX8_init 9 = .ok (.putfield 8, 3) := by decide +kernel
theorem dX8_init_12 : decode cX8_init 12 = .ok (.aload_n 0, 1) := by decide +kernel
theorem dX8_init_13 : decode cX8_init 13 = .ok (.bipush 12, 2) := by decide +kernel
theorem dX8_init_15 : decode cX8_init 15 = .ok (.newarray .int, 2) := by decide +kernel
theorem dX8_init_17 : decode cX8_init 17 = .ok (.dup, 1) := by decide +kernel
theorem dX8_init_18 : decode cX8_init 18 = .ok (.iconst 0, 1) := by decide +kernel
theorem dX8_init_19 : decode cX8_init 19 = .ok (.bipush 31, 2) := by decide +kernel
theorem dX8_init_21 : decode cX8_init 21 = .ok (.iastore, 1) := by decide +kernel
theorem dX8_init_22 : decode cX8_init 22 = .ok (.dup, 1) := by decide +kernel
theorem dX8_init_23 : decode cX8_init 23 = .ok (.iconst 1, 1) := by decide +kernel
theorem dX8_init_24 : decode cX8_init 24 = .ok (.bipush 28, 2) := by decide +kernel
theorem dX8_init_26 : decode cX8_init 26 = .ok (.iastore, 1) := by decide +kernel
theorem dX8_init_27 : decode cX8_init 27 = .ok (.dup, 1) := by decide +kernel
theorem dX8_init_28 : decode cX8_init 28 = .ok (.iconst 2, 1) := by decide +kernel
theorem dX8_init_29 : decode cX8_init 29 = .ok (.bipush 31, 2) := by decide +kernel
theorem dX8_init_31 : decode cX8_init 31 = .ok (.iastore, 1) := by decide +kernel
theorem dX8_init_32 : decode cX8_init 32 = .ok (.dup, 1) := by decide +kernel
theorem dX8_init_33 : decode cX8_init 33 = .ok (.iconst 3, 1) := by decide +kernel
theorem dX8_init_34 : decode cX8_init 34 = .ok (.bipush 30, 2) := by decide +kernel
theorem dX8_init_36 : decode cX8_init 36 = .ok (.iastore, 1) := by decide +kernel
theorem dX8_init_37 : decode cX8_init 37 = .ok (.dup, 1) := by decide +kernel
theorem dX8_init_38 : decode cX8_init 38 = .ok (.iconst 4, 1) := by decide +kernel
theorem dX8_init_39 : decode cX8_init 39 = .ok (.bipush 31, 2) := by decide +kernel
theorem dX8_init_41 : decode cX8_init 41 = .ok (.iastore, 1) := by decide +kernel
theorem dX8_init_42 : decode cX8_init 42 = .ok (.dup, 1) := by decide +kernel
theorem dX8_init_43 : decode cX8_init 43 = .ok (.iconst 5, 1) := by decide +kernel
theorem dX8_init_44 : decode cX8_init 44 = .ok (.bipush 30, 2) := by decide +kernel
theorem dX8_init_46 : decode cX8_init 46 = .ok (.iastore, 1) := by decide +kernel
theorem dX8_init_47 : decode cX8_init 47 = .ok (.dup, 1) := by decide +kernel
theorem dX8_init_48 : decode cX8_init 48 = .ok (.bipush 6, 2) := by decide +kernel
theorem dX8_init_50 : decode cX8_init 50 = .ok (.bipush 31, 2) := by decide +kernel
theorem dX8_init_52 : decode cX8_init 52 = .ok (.iastore, 1) := by decide +kernel
theorem dX8_init_53 : decode cX8_init 53 = .ok (.dup, 1) := by decide +kernel
theorem dX8_init_54 : decode cX8_init 54 = .ok (.bipush 7, 2) := by decide +kernel
theorem dX8_init_56 : decode cX8_init 56 = .ok (.bipush 31, 2) := by decide +kernel
theorem dX8_init_58 : decode cX8_init 58 = .ok (.iastore, 1) := by decide +kernel
theorem dX8_init_59 : decode cX8_init 59 = .ok (.dup, 1) := by decide +kernel
theorem dX8_init_60 : decode cX8_init 60 = .ok (.bipush 8, 2) := by decide +kernel
theorem dX8_init_62 : decode cX8_init 62 = .ok (.bipush 30, 2) := by decide +kernel
theorem dX8_init_64 : decode cX8_init 64 = .ok (.iastore, 1) := by decide +kernel
theorem dX8_init_65 : decode cX8_init 65 = .ok (.dup, 1) := by decide +kernel
theorem dX8_init_66 : decode cX8_init 66 = .ok (.bipush 9, 2) := by decide +kernel
theorem dX8_init_68 : decode cX8_init 68 = .ok (.bipush 31, 2) := by decide +kernel
theorem dX8_init_70 : decode cX8_init 70 = .ok (.iastore, 1) := by decide +kernel
theorem dX8_init_71 : decode cX8_init 71 = .ok (.dup, 1) := by decide +kernel
theorem dX8_init_72 : decode cX8_init 72 = .ok (.bipush 10, 2) := by decide +kernel
theorem dX8_init_74 : decode cX8_init 74 = .ok (.bipush 30, 2) := by decide +kernel
theorem dX8_init_76 : decode cX8_init 76 = .ok (.iastore, 1) := by decide +kernel
theorem dX8_init_77 : decode cX8_init 77 = .ok (.dup, 1) := by decide +kernel
theorem dX8_init_78 : decode cX8_init 78 = .ok (.bipush 11, 2) := by decide +kernel
theorem dX8_init_80 : decode cX8_init 80 = .ok (.bipush 31, 2) := by decide +kernel
theorem dX8_init_82 : decode cX8_init 82 = .ok (.iastore, 1) := by decide +kernel
theorem dX8_init_83 : decode cX8_init 83 = .ok (.putfield 14, 3) := by decide +kernel
theorem dX8_init_86 : decode cX8_init 86 = .ok (.aload_n 0, 1) := by decide +kernel
theorem dX8_init_87 : decode cX8_init 87 = .ok (.sipush 200, 3) := by decide +kernel
theorem dX8_init_90 : decode cX8_init 90 = .ok (.newarray .int, 2) := by decide +kernel
theorem dX8_init_92 : decode cX8_init 92 = .ok (.putfield 17, 3) := by decide +kernel
theorem dX8_init_95 : decode cX8_init 95 = .ok (.aload_n 0, 1) := by decide +kernel
theorem dX8_init_96 : decode cX8_init 96 = .ok (.iconst (-1), 1) := by decide +kernel
theorem dX8_init_97 : decode cX8_init 97 = .ok (.putfield 20, 3) := by decide +kernel
theorem dX8_init_100 : decode cX8_init 100 = .ok (.aload_n 0, 1) := by decide +kernel
theorem dX8_init_101 : decode cX8_init 101 = .ok (.bipush 8, 2) := by decide +kernel
theorem dX8_init_103 : decode cX8_init 103 = .ok (.newarray .boolean, 2) := by decide +kernel
theorem dX8_init_105 : decode cX8_init 105 = .ok (.putfield 24, 3) := by decide +kernel
theorem dX8_init_108 : decode cX8_init 108 = .ok (.aload_n 0, 1) := by decide +kernel
theorem dX8_init_109 : decode cX8_init 109 = .ok (.bipush 13, 2) := by decide +kernel
theorem dX8_init_111 : decode cX8_init 111 = .ok (.newarray .boolean, 2) := by decide +kernel
theorem dX8_init_113 : decode cX8_init 113 = .ok (.putfield 28, 3) := by decide +kernel
theorem dX8_init_116 : decode cX8_init 116 = .ok (.aload_n 0, 1) := by decide +kernel
theorem dX8_init_117 : decode cX8_init 117 = .ok (.bipush 63, 2) := by decide +kernel
theorem dX8_init_119 : decode cX8_init 119 = .ok (.newarray .boolean, 2) := by decide +kernel
theorem dX8_init_121 : decode cX8_init 121 = .ok (.putfield 31, 3) := by decide +kernel
theorem dX8_init_124 : decode cX8_init 124 = .ok (.aload_n 0, 1) := by decide +kernel
theorem dX8_init_125 : decode cX8_init 125 = .ok (.sipush 733, 3) := by decide +kernel
theorem dX8_init_128 : decode cX8_init 128 = .ok (.newarray .boolean, 2) := by decide +kernel
theorem dX8_init_130 : decode cX8_init 130 = .ok (.putfield 34, 3) := by decide +kernel
theorem dX8_init_133 : decode cX8_init 133 = .ok (.aload_n 0, 1) := by decide +kernel
theorem dX8_init_134 : decode cX8_init 134 = .ok (.sipush 749, 3) := by decide +kernel
theorem dX8_init_137 : decode cX8_init 137 = .ok (.newarray .boolean, 2) := by decide +kernel
theorem dX8_init_139 : decode cX8_init 139 = .ok (.putfield 37, 3) := by decide +kernel
theorem dX8_init_142 : decode cX8_init 142 = .ok (.aload_n 0, 1) := by decide +kernel
theorem dX8_init_143 : decode cX8_init 143 = .ok (.bipush 12, 2) := by decide +kernel
theorem dX8_init_145 : decode cX8_init 145 = .ok (.newarray .boolean, 2) := by decide +kernel
theorem dX8_init_147 : decode cX8_init 147 = .ok (.putfield 40, 3) := by decide +kernel
theorem dX8_init_150 : decode cX8_init 150 = .ok (.aload_n 0, 1) := by decide +kernel
theorem dX8_init_151 : decode cX8_init 151 = .ok (.ldc 43, 2) := by decide +kernel
theorem dX8_init_153 : decode cX8_init 153 = .ok (.newarray .int, 2) := by decide +kernel
theorem dX8_init_155 : decode cX8_init 155 = .ok (.putfield 44, 3) := by decide +kernel
theorem dX8_init_158 : decode cX8_init 158 = .ok (.aload_n 0, 1) := by decide +kernel
theorem dX8_init_159 : decode cX8_init 159 = .ok (.ldc 43, 2) := by decide +kernel
theorem dX8_init_161 : decode cX8_init 161 = .ok (.newarray .int, 2) := by decide +kernel
theorem dX8_init_163 : decode cX8_init 163 = .ok (.putfield 47, 3) := by decide +kernel
theorem dX8_init_166 : decode cX8_init 166 = .ok (.aload_n 0, 1) := by decide +kernel
theorem dX8_init_167 : decode cX8_init 167 = .ok (.ldc 43, 2) := by decide +kernel
theorem dX8_init_169 : decode cX8_init 169 = .ok (.newarray .int, 2) := by decide +kernel
theorem dX8_init_171 : decode cX8_init 171 = .ok (.putfield 50, 3) := by decide +kernel
theorem dX8_init_174 : decode cX8_init 174 = .ok (.aload_n 0, 1) := by decide +kernel
theorem dX8_init_175 : decode cX8_init 175 = .ok (.sipush 366, 3) := by decide +kernel
theorem dX8_init_178 : decode cX8_init 178 = .ok (.newarray .int, 2) := by decide +kernel
theorem dX8_init_180 : decode cX8_init 180 = .ok (.putfield 53, 3) := by decide +kernel
theorem dX8_init_183 : decode cX8_init 183 = .ok (.aload_n 0, 1) := by decide +kernel
theorem dX8_init_184 : decode cX8_init 184 = .ok (.sipush 300, 3) := by decide +kernel
theorem dX8_init_187 : decode cX8_init 187 = .ok (.newarray .long, 2) := by decide +kernel
theorem dX8_init_189 : decode cX8_init 189 = .ok (.putfield 56, 3) := by decide +kernel
theorem dX8_init_192 : decode cX8_init 192 = .ok (.iconst 0, 1) := by decide +kernel
theorem dX8_init_193 : decode cX8_init 193 = .ok (.istore_n 1, 1) := by decide +kernel
theorem dX8_init_194 : decode cX8_init 194 = .ok (.sipush 1900, 3) := by decide +kernel
theorem dX8_init_197 : decode cX8_init 197 = .ok (.istore_n 2, 1) := by decide +kernel
theorem dX8_init_198 : decode cX8_init 198 = .ok (.iload_n 2, 1) := by decide +kernel
theorem dX8_init_199 : decode cX8_init 199 = .ok (.sipush 2200, 3) := by decide +kernel
theorem dX8_init_202 : decode cX8_init 202 = .ok (.if_icmp .ge 65, 3) := by decide +kernel
theorem dX8_init_205 : decode cX8_init 205 = .ok (.iconst 1, 1) := by decide +kernel
theorem dX8_init_206 : decode cX8_init 206 = .ok (.istore_n 3, 1) := by decide +kernel
theorem dX8_init_207 : decode cX8_init 207 = .ok (.iload_n 3, 1) := by decide +kernel
theorem dX8_init_208 : decode cX8_init 208 = .ok (.bipush 13, 2) := by decide +kernel
theorem dX8_init_210 : decode cX8_init 210 = .ok (.if_icmp .ge 51, 3) := by decide +kernel
theorem dX8_init_213 : decode cX8_init 213 = .ok (.iconst 1, 1) := by decide +kernel
theorem dX8_init_214 : decode cX8_init 214 = .ok (.istore 4, 2) := by decide +kernel
theorem dX8_init_216 : decode cX8_init 216 = .ok (.iload 4, 2) := by decide +kernel
theorem dX8_init_218 : decode cX8_init 218 = .ok (.aload_n 0, 1) := by decide +kernel
theorem dX8_init_219 : decode cX8_init 219 = .ok (.iload_n 2, 1) := by decide +kernel
theorem dX8_init_220 : decode cX8_init 220 = .ok (.iload_n 3, 1) := by decide +kernel
theorem dX8_init_221 : decode cX8_init 221 = .ok (.invokevirtual 60, 3) := by decide +kernel
theorem dX8_init_224 : decode cX8_init 224 = .ok (.if_icmp .gt 31, 3) := by decide +kernel
theorem dX8_init_227 : decode cX8_init 227 = .ok (.aload_n 0, 1) := by decide +kernel
theorem dX8_init_228 : decode cX8_init 228 = .ok (.getfield 8, 3) := by decide +kernel
theorem dX8_init_231 : decode cX8_init 231 = .ok (.iload_n 1, 1) := by decide +kernel
theorem dX8_init_232 : decode cX8_init 232 = .ok (.sipush 10000, 3) := by decide +kernel
theorem dX8_init_235 : decode cX8_init 235 = .ok (.iload_n 2, 1) := by decide +kernel
theorem dX8_init_236 : decode cX8_init 236 = .ok (.imul, 1) := by decide +kernel
theorem dX8_init_237 : decode cX8_init 237 = .ok (.bipush 100, 2) := by decide +kernel
theorem dX8_init_239 : decode cX8_init 239 = .ok (.iload_n 3, 1) := by decide +kernel
theorem dX8_init_240 : decode cX8_init 240 = .ok (.imul, 1) := by decide +kernel
theorem dX8_init_241 : decode cX8_init 241 = .ok (.iadd, 1) := by decide +kernel
theorem dX8_init_242 : decode cX8_init 242 = .ok (.iload 4, 2) := by decide +kernel
theorem dX8_init_244 : decode cX8_init 244 = .ok (.iadd, 1) := by decide +kernel
theorem dX8_init_245 : decode cX8_init 245 = .ok (.iastore, 1) := by decide +kernel
theorem dX8_init_246 : decode cX8_init 246 = .ok (.iinc 1 1, 3) := by decide +kernel
theorem dX8_init_249 : decode cX8_init 249 = .ok (.iinc 4 1, 3) := by decide +kernel
theorem dX8_init_252 : decode cX8_init 252 = .ok (.goto (-36), 3) := by decide +kernel
theorem dX8_init_255 : decode cX8_init 255 = .ok (.iinc 3 1, 3) := by decide +kernel
theorem dX8_init_258 : decode cX8_init 258 = .ok (.goto (-51), 3) := by decide +kernel
theorem dX8_init_261 : decode cX8_init 261 = .ok (.iinc 2 1, 3) := by decide +kernel
theorem dX8_init_264 : decode cX8_init 264 = .ok (.goto (-66), 3) := by decide +kernel
theorem dX8_init_267 : decode cX8_init 267 = .ok (.return_, 1) := by decide +kernel
theorem dX8_thrown_0 : decode cX8_thrown 0 = .ok (.aload_n 0, 1) := by decide +kernel
theorem dX8_thrown_1 : decode cX8_thrown 1 = .ok (.getfield 64, 3) := by decide +kernel
theorem dX8_thrown_4 : decode cX8_thrown 4 = .ok (.ireturn, 1) := by decide +kernel
theorem dX8_isLeap_0 : decode cX8_isLeap 0 = .ok (.iload_n 0, 1) := by decide +kernel
theorem dX8_isLeap_1 : decode cX8_isLeap 1 = .ok (.iconst 4, 1) := by decide +kernel
theorem dX8_isLeap_2 : decode cX8_isLeap 2 = .ok (.irem, 1) := by decide +kernel
theorem dX8_isLeap_3 : decode cX8_isLeap 3 = .ok (.ifCond .ne 10, 3) := by decide +kernel
theorem dX8_isLeap_6 : decode cX8_isLeap 6 = .ok (.iload_n 0, 1) := by decide +kernel
theorem dX8_isLeap_7 : decode cX8_isLeap 7 = .ok (.bipush 100, 2) := by decide +kernel
theorem dX8_isLeap_9 : decode cX8_isLeap 9 = .ok (.irem, 1) := by decide +kernel
theorem dX8_isLeap_10 : decode cX8_isLeap 10 = .ok (.ifCond .ne 11, 3) := by decide +kernel
theorem dX8_isLeap_13 : decode cX8_isLeap 13 = .ok (.iload_n 0, 1) := by decide +kernel
theorem dX8_isLeap_14 : decode cX8_isLeap 14 = .ok (.sipush 400, 3) := by decide +kernel
theorem dX8_isLeap_17 : decode cX8_isLeap 17 = .ok (.irem, 1) := by decide +kernel
theorem dX8_isLeap_18 : decode cX8_isLeap 18 = .ok (.ifCond .ne 7, 3) := by decide +kernel
theorem dX8_isLeap_21 : decode cX8_isLeap 21 = .ok (.iconst 1, 1) := by decide +kernel
theorem dX8_isLeap_22 : decode cX8_isLeap 22 = .ok (.goto 4, 3) := by decide +kernel
theorem dX8_isLeap_25 : decode cX8_isLeap 25 = .ok (.iconst 0, 1) := by decide +kernel
theorem dX8_isLeap_26 : decode cX8_isLeap 26 = .ok (.ireturn, 1) := by decide +kernel
theorem dX8_monthLength_0 : decode cX8_monthLength 0 = .ok (.iload_n 2, 1) := by decide +kernel
theorem dX8_monthLength_1 : decode cX8_monthLength 1 = .ok (.iconst 2, 1) := by decide +kernel
theorem dX8_monthLength_2 : decode cX8_monthLength 2 = .ok (.if_icmp .ne 15, 3) := by decide +kernel
theorem dX8_monthLength_5 : decode cX8_monthLength 5 = .ok (.iload_n 1, 1) := by decide +kernel
theorem dX8_monthLength_6 : decode cX8_monthLength 6 = .ok (.invokestatic 67, 3) := by decide +kernel
theorem dX8_monthLength_9 : decode cX8_monthLength 9 = .ok (.ifCond .eq 8, 3) := by decide +kernel
theorem dX8_monthLength_12 : decode cX8_monthLength 12 = .ok (.bipush 29, 2) := by decide +kernel
theorem dX8_monthLength_14 : decode cX8_monthLength 14 = .ok (.goto 11, 3) := by decide +kernel
theorem dX8_monthLength_17 : decode cX8_monthLength 17 = .ok (.aload_n 0, 1) := by decide +kernel
theorem dX8_monthLength_18 : decode cX8_monthLength 18 = .ok (.getfield 14, 3) := by decide +kernel
theorem dX8_monthLength_21 : decode cX8_monthLength 21 = .ok (.iload_n 2, 1) := by decide +kernel
theorem dX8_monthLength_22 : decode cX8_monthLength 22 = .ok (.iconst 1, 1) := by decide +kernel
theorem dX8_monthLength_23 : decode cX8_monthLength 23 = .ok (.isub, 1) := by decide +kernel
theorem dX8_monthLength_24 : decode cX8_monthLength 24 = .ok (.iaload, 1) := by decide +kernel
theorem dX8_monthLength_25 : decode cX8_monthLength 25 = .ok (.ireturn, 1) := by decide +kernel
theorem dX8_dayOf_0 : decode cX8_dayOf 0 = .ok (.iconst 0, 1) := by decide +kernel
theorem dX8_dayOf_1 : decode cX8_dayOf 1 = .ok (.istore_n 2, 1) := by decide +kernel
theorem dX8_dayOf_2 : decode cX8_dayOf 2 = .ok (.ldc 7, 2) := by decide +kernel
theorem dX8_dayOf_4 : decode cX8_dayOf 4 = .ok (.istore_n 3, 1) := by decide +kernel
theorem dX8_dayOf_5 : decode cX8_dayOf 5 = .ok (.iload_n 2, 1) := by decide +kernel
theorem dX8_dayOf_6 : decode cX8_dayOf 6 = .ok (.iload_n 3, 1) := by decide +kernel
theorem dX8_dayOf_7 : decode cX8_dayOf 7 = .ok (.if_icmp .ge 35, 3) := by decide +kernel
theorem dX8_dayOf_10 : decode cX8_dayOf 10 = .ok (.iload_n 2, 1) := by decide +kernel
theorem dX8_dayOf_11 : decode cX8_dayOf 11 = .ok (.iload_n 3, 1) := by decide +kernel
theorem dX8_dayOf_12 : decode cX8_dayOf 12 = .ok (.iadd, 1) := by decide +kernel
theorem dX8_dayOf_13 : decode cX8_dayOf 13 = .ok (.iconst 2, 1) := by decide +kernel
theorem dX8_dayOf_14 : decode cX8_dayOf 14 = .ok (.idiv, 1) := by decide +kernel
theorem dX8_dayOf_15 : decode cX8_dayOf 15 = .ok (.istore 4, 2) := by decide +kernel
theorem dX8_dayOf_17 : decode cX8_dayOf 17 = .ok (.aload_n 0, 1) := by decide +kernel
theorem dX8_dayOf_18 : decode cX8_dayOf 18 = .ok (.getfield 8, 3) := by decide +kernel
theorem dX8_dayOf_21 : decode cX8_dayOf 21 = .ok (.iload 4, 2) := by decide +kernel
theorem dX8_dayOf_23 : decode cX8_dayOf 23 = .ok (.iaload, 1) := by decide +kernel
theorem dX8_dayOf_24 : decode cX8_dayOf 24 = .ok (.iload_n 1, 1) := by decide +kernel
theorem dX8_dayOf_25 : decode cX8_dayOf 25 = .ok (.if_icmp .ge 11, 3) := by decide +kernel
theorem dX8_dayOf_28 : decode cX8_dayOf 28 = .ok (.iload 4, 2) := by decide +kernel
theorem dX8_dayOf_30 : decode cX8_dayOf 30 = .ok (.iconst 1, 1) := by decide +kernel
theorem dX8_dayOf_31 : decode cX8_dayOf 31 = .ok (.iadd, 1) := by decide +kernel
theorem dX8_dayOf_32 : decode cX8_dayOf 32 = .ok (.istore_n 2, 1) := by decide +kernel
theorem dX8_dayOf_33 : decode cX8_dayOf 33 = .ok (.goto 6, 3) := by decide +kernel
theorem dX8_dayOf_36 : decode cX8_dayOf 36 = .ok (.iload 4, 2) := by decide +kernel
theorem dX8_dayOf_38 : decode cX8_dayOf 38 = .ok (.istore_n 3, 1) := by decide +kernel
theorem dX8_dayOf_39 : decode cX8_dayOf 39 = .ok (.goto (-34), 3) := by decide +kernel
theorem dX8_dayOf_42 : decode cX8_dayOf 42 = .ok (.iload_n 2, 1) := by decide +kernel
theorem dX8_dayOf_43 : decode cX8_dayOf 43 = .ok (.ldc 7, 2) := by decide +kernel
theorem dX8_dayOf_45 : decode cX8_dayOf 45 = .ok (.if_icmp .ge 17, 3) := by decide +kernel
theorem dX8_dayOf_48 : decode cX8_dayOf 48 = .ok (.aload_n 0, 1) := by decide +kernel
theorem dX8_dayOf_49 : decode cX8_dayOf 49 = .ok (.getfield 8, 3) := by decide +kernel
theorem dX8_dayOf_52 : decode cX8_dayOf 52 = .ok (.iload_n 2, 1) := by decide +kernel
theorem dX8_dayOf_53 : decode cX8_dayOf 53 = .ok (.iaload, 1) := by decide +kernel
theorem dX8_dayOf_54 : decode cX8_dayOf 54 = .ok (.iload_n 1, 1) := by decide +kernel
theorem dX8_dayOf_55 : decode cX8_dayOf 55 = .ok (.if_icmp .ne 7, 3) := by decide +kernel
theorem dX8_dayOf_58 : decode cX8_dayOf 58 = .ok (.iload_n 2, 1) := by decide +kernel
theorem dX8_dayOf_59 : decode cX8_dayOf 59 = .ok (.goto 4, 3) := by decide +kernel
theorem dX8_dayOf_62 : decode cX8_dayOf 62 = .ok (.iconst (-1), 1) := by decide +kernel
theorem dX8_dayOf_63 : decode cX8_dayOf 63 = .ok (.ireturn, 1) := by decide +kernel
theorem dX8_yearOf_0 : decode cX8_yearOf 0 = .ok (.aload_n 0, 1) := by decide +kernel
theorem dX8_yearOf_1 : decode cX8_yearOf 1 = .ok (.getfield 8, 3) := by decide +kernel
theorem dX8_yearOf_4 : decode cX8_yearOf 4 = .ok (.iload_n 1, 1) := by decide +kernel
theorem dX8_yearOf_5 : decode cX8_yearOf 5 = .ok (.iaload, 1) := by decide +kernel
theorem dX8_yearOf_6 : decode cX8_yearOf 6 = .ok (.sipush 10000, 3) := by decide +kernel
theorem dX8_yearOf_9 : decode cX8_yearOf 9 = .ok (.idiv, 1) := by decide +kernel
theorem dX8_yearOf_10 : decode cX8_yearOf 10 = .ok (.ireturn, 1) := by decide +kernel
theorem dX8_monthOf_0 : decode cX8_monthOf 0 = .ok (.aload_n 0, 1) := by decide +kernel
theorem dX8_monthOf_1 : decode cX8_monthOf 1 = .ok (.getfield 8, 3) := by decide +kernel
theorem dX8_monthOf_4 : decode cX8_monthOf 4 = .ok (.iload_n 1, 1) := by decide +kernel
theorem dX8_monthOf_5 : decode cX8_monthOf 5 = .ok (.iaload, 1) := by decide +kernel
theorem dX8_monthOf_6 : decode cX8_monthOf 6 = .ok (.bipush 100, 2) := by decide +kernel
theorem dX8_monthOf_8 : decode cX8_monthOf 8 = .ok (.idiv, 1) := by decide +kernel
theorem dX8_monthOf_9 : decode cX8_monthOf 9 = .ok (.bipush 100, 2) := by decide +kernel
theorem dX8_monthOf_11 : decode cX8_monthOf 11 = .ok (.irem, 1) := by decide +kernel
theorem dX8_monthOf_12 : decode cX8_monthOf 12 = .ok (.ireturn, 1) := by decide +kernel
theorem dX8_monthDayOf_0 : decode cX8_monthDayOf 0 = .ok (.aload_n 0, 1) := by decide +kernel
theorem dX8_monthDayOf_1 : decode cX8_monthDayOf 1 = .ok (.getfield 8, 3) := by decide +kernel
theorem dX8_monthDayOf_4 : decode cX8_monthDayOf 4 = .ok (.iload_n 1, 1) := by decide +kernel
theorem dX8_monthDayOf_5 : decode cX8_monthDayOf 5 = .ok (.iaload, 1) := by decide +kernel
theorem dX8_monthDayOf_6 : decode cX8_monthDayOf 6 = .ok (.bipush 100, 2) := by decide +kernel
theorem dX8_monthDayOf_8 : decode cX8_monthDayOf 8 = .ok (.irem, 1) := by decide +kernel
theorem dX8_monthDayOf_9 : decode cX8_monthDayOf 9 = .ok (.ireturn, 1) := by decide +kernel
theorem dX8_periodOf_0 : decode cX8_periodOf 0 = .ok (.aload_n 0, 1) := by decide +kernel
theorem dX8_periodOf_1 : decode cX8_periodOf 1 = .ok (.getfield 71, 3) := by decide +kernel
theorem dX8_periodOf_4 : decode cX8_periodOf 4 = .ok (.tableswitch 50 0 2 #[28, 30, 35], 28) := by decide +kernel
theorem dX8_periodOf_32 : decode cX8_periodOf 32 = .ok (.iload_n 1, 1) := by decide +kernel
theorem dX8_periodOf_33 : decode cX8_periodOf 33 = .ok (.ireturn, 1) := by decide +kernel
theorem dX8_periodOf_34 : decode cX8_periodOf 34 = .ok (.iload_n 1, 1) := by decide +kernel
theorem dX8_periodOf_35 : decode cX8_periodOf 35 = .ok (.bipush 7, 2) := by decide +kernel
theorem dX8_periodOf_37 : decode cX8_periodOf 37 = .ok (.idiv, 1) := by decide +kernel
theorem dX8_periodOf_38 : decode cX8_periodOf 38 = .ok (.ireturn, 1) := by decide +kernel
theorem dX8_periodOf_39 : decode cX8_periodOf 39 = .ok (.bipush 12, 2) := by decide +kernel
theorem dX8_periodOf_41 : decode cX8_periodOf 41 = .ok (.aload_n 0, 1) := by decide +kernel
theorem dX8_periodOf_42 : decode cX8_periodOf 42 = .ok (.iload_n 1, 1) := by decide +kernel
theorem dX8_periodOf_43 : decode cX8_periodOf 43 = .ok (.invokevirtual 74, 3) := by decide +kernel
theorem dX8_periodOf_46 : decode cX8_periodOf 46 = .ok (.imul, 1) := by decide +kernel
theorem dX8_periodOf_47 : decode cX8_periodOf 47 = .ok (.aload_n 0, 1) := by decide +kernel
theorem dX8_periodOf_48 : decode cX8_periodOf 48 = .ok (.iload_n 1, 1) := by decide +kernel
theorem dX8_periodOf_49 : decode cX8_periodOf 49 = .ok (.invokevirtual 78, 3) := by decide +kernel
theorem dX8_periodOf_52 : decode cX8_periodOf 52 = .ok (.iadd, 1) := by decide +kernel
theorem dX8_periodOf_53 : decode cX8_periodOf 53 = .ok (.ireturn, 1) := by decide +kernel
theorem dX8_periodOf_54 : decode cX8_periodOf 54 = .ok (.aload_n 0, 1) := by decide +kernel
theorem dX8_periodOf_55 : decode cX8_periodOf 55 = .ok (.iload_n 1, 1) := by decide +kernel
theorem dX8_periodOf_56 : decode cX8_periodOf 56 = .ok (.invokevirtual 74, 3) := by decide +kernel
theorem dX8_periodOf_59 : decode cX8_periodOf 59 = .ok (.ireturn, 1) := by decide +kernel
theorem dX8_feed_0 : decode cX8_feed 0 = .ok (.aload_n 0, 1) := by decide +kernel
theorem dX8_feed_1 : decode cX8_feed 1 = .ok (.iload_n 1, 1) := by decide +kernel
theorem dX8_feed_2 : decode cX8_feed 2 = .ok (.iconst 1, 1) := by decide +kernel
theorem dX8_feed_3 : decode cX8_feed 3 = .ok (.if_icmp .lt 9, 3) := by decide +kernel
theorem dX8_feed_6 : decode cX8_feed 6 = .ok (.iload_n 1, 1) := by decide +kernel
theorem dX8_feed_7 : decode cX8_feed 7 = .ok (.bipush 8, 2) := by decide +kernel
theorem dX8_feed_9 : decode cX8_feed 9 = .ok (.if_icmp .le 7, 3) := by decide +kernel
theorem dX8_feed_12 : decode cX8_feed 12 = .ok (.iconst 1, 1) := by decide +kernel
theorem dX8_feed_13 : decode cX8_feed 13 = .ok (.goto 4, 3) := by decide +kernel
theorem dX8_feed_16 : decode cX8_feed 16 = .ok (.iconst 0, 1) := by decide +kernel
theorem dX8_feed_17 : decode cX8_feed 17 = .ok (.putfield 64, 3) := by decide +kernel
theorem dX8_feed_20 : decode cX8_feed 20 = .ok (.aload_n 0, 1) := by decide +kernel
theorem dX8_feed_21 : decode cX8_feed 21 = .ok (.getfield 64, 3) := by decide +kernel
theorem dX8_feed_24 : decode cX8_feed 24 = .ok (.ifCond .le 5, 3) := by decide +kernel
theorem dX8_feed_27 : decode cX8_feed 27 = .ok (.iconst 0, 1) := by decide +kernel
theorem dX8_feed_28 : decode cX8_feed 28 = .ok (.ireturn, 1) := by decide +kernel
theorem dX8_feed_29 : decode cX8_feed 29 = .ok (.aload_n 0, 1) := by decide +kernel
theorem dX8_feed_30 : decode cX8_feed 30 = .ok (.getfield 81, 3) := by decide +kernel
theorem dX8_feed_33 : decode cX8_feed 33 = .ok (.iload_n 1, 1) := by decide +kernel
theorem dX8_feed_34 : decode cX8_feed 34 = .ok (.iadd, 1) := by decide +kernel
theorem dX8_feed_35 : decode cX8_feed 35 = .ok (.sipush 200, 3) := by decide +kernel
theorem dX8_feed_38 : decode cX8_feed 38 = .ok (.if_icmp .le 5, 3) := by decide +kernel
theorem dX8_feed_41 : decode cX8_feed 41 = .ok (.iconst (-1), 1) := by decide +kernel
theorem dX8_feed_42 : decode cX8_feed 42 = .ok (.ireturn, 1) := by decide +kernel
theorem dX8_feed_43 : decode cX8_feed 43 = .ok (.iconst 0, 1) := by decide +kernel
theorem dX8_feed_44 : decode cX8_feed 44 = .ok (.istore 4, 2) := by decide +kernel
theorem dX8_feed_46 : decode cX8_feed 46 = .ok (.iload 4, 2) := by decide +kernel
theorem dX8_feed_48 : decode cX8_feed 48 = .ok (.iload_n 1, 1) := by decide +kernel
theorem dX8_feed_49 : decode cX8_feed 49 = .ok (.if_icmp .ge 40, 3) := by decide +kernel
theorem dX8_feed_52 : decode cX8_feed 52 = .ok (.aload_n 0, 1) := by decide +kernel
theorem dX8_feed_53 : decode cX8_feed 53 = .ok (.getfield 17, 3) := by decide +kernel
theorem dX8_feed_56 : decode cX8_feed 56 = .ok (.aload_n 0, 1) := by decide +kernel
theorem dX8_feed_57 : decode cX8_feed 57 = .ok (.getfield 81, 3) := by decide +kernel
theorem dX8_feed_60 : decode cX8_feed 60 = .ok (.lload_n 2, 1) := by decide +kernel
theorem dX8_feed_61 : decode cX8_feed 61 = .ok (.bipush 8, 2) := by decide +kernel
theorem dX8_feed_63 : decode cX8_feed 63 = .ok (.iload 4, 2) := by decide +kernel
theorem dX8_feed_65 : decode cX8_feed 65 = .ok (.imul, 1) := by decide +kernel
theorem dX8_feed_66 : decode cX8_feed 66 = .ok (.lshr, 1) := by decide +kernel
theorem dX8_feed_67 : decode cX8_feed 67 = .ok (.ldc2_w 84, 3) := by decide +kernel
theorem dX8_feed_70 : decode cX8_feed 70 = .ok (.land, 1) := by decide +kernel
theorem dX8_feed_71 : decode cX8_feed 71 = .ok (.l2i, 1) := by decide +kernel
theorem dX8_feed_72 : decode cX8_feed 72 = .ok (.iastore, 1) := by decide +kernel
theorem dX8_feed_73 : decode cX8_feed 73 = .ok (.aload_n 0, 1) := by decide +kernel
theorem dX8_feed_74 : decode cX8_feed 74 = .ok (.dup, 1) := by decide +kernel
theorem dX8_feed_75 : decode cX8_feed 75 = .ok (.getfield 81, 3) := by decide +kernel
theorem dX8_feed_78 : decode cX8_feed 78 = .ok (.iconst 1, 1) := by decide +kernel
theorem dX8_feed_79 : decode cX8_feed 79 = .ok (.iadd, 1) := by decide +kernel
theorem dX8_feed_80 : decode cX8_feed 80 = .ok (.putfield 81, 3) := by decide +kernel
theorem dX8_feed_83 : decode cX8_feed 83 = .ok (.iinc 4 1, 3) := by decide +kernel
theorem dX8_feed_86 : decode cX8_feed 86 = .ok (.goto (-40), 3) := by decide +kernel
theorem dX8_feed_89 : decode cX8_feed 89 = .ok (.aload_n 0, 1) := by decide +kernel
theorem dX8_feed_90 : decode cX8_feed 90 = .ok (.getfield 81, 3) := by decide +kernel
theorem dX8_feed_93 : decode cX8_feed 93 = .ok (.ireturn, 1) := by decide +kernel
theorem dX8_wipe_0 : decode cX8_wipe 0 = .ok (.aload_n 0, 1) := by decide +kernel
theorem dX8_wipe_1 : decode cX8_wipe 1 = .ok (.iconst 0, 1) := by decide +kernel
theorem dX8_wipe_2 : decode cX8_wipe 2 = .ok (.putfield 64, 3) := by decide +kernel
theorem dX8_wipe_5 : decode cX8_wipe 5 = .ok (.aload_n 0, 1) := by decide +kernel
theorem dX8_wipe_6 : decode cX8_wipe 6 = .ok (.getfield 81, 3) := by decide +kernel
theorem dX8_wipe_9 : decode cX8_wipe 9 = .ok (.istore_n 1, 1) := by decide +kernel
theorem dX8_wipe_10 : decode cX8_wipe 10 = .ok (.aload_n 0, 1) := by decide +kernel
theorem dX8_wipe_11 : decode cX8_wipe 11 = .ok (.iconst 0, 1) := by decide +kernel
theorem dX8_wipe_12 : decode cX8_wipe 12 = .ok (.putfield 81, 3) := by decide +kernel
theorem dX8_wipe_15 : decode cX8_wipe 15 = .ok (.iload_n 1, 1) := by decide +kernel
theorem dX8_wipe_16 : decode cX8_wipe 16 = .ok (.ireturn, 1) := by decide +kernel
theorem dX8_fail_0 : decode cX8_fail 0 = .ok (.aload_n 0, 1) := by decide +kernel
theorem dX8_fail_1 : decode cX8_fail 1 = .ok (.getfield 86, 3) := by decide +kernel
theorem dX8_fail_4 : decode cX8_fail 4 = .ok (.ifCond .ne 13, 3) := by decide +kernel
theorem dX8_fail_7 : decode cX8_fail 7 = .ok (.aload_n 0, 1) := by decide +kernel
theorem dX8_fail_8 : decode cX8_fail 8 = .ok (.iload_n 1, 1) := by decide +kernel
theorem dX8_fail_9 : decode cX8_fail 9 = .ok (.putfield 86, 3) := by decide +kernel
theorem dX8_fail_12 : decode cX8_fail 12 = .ok (.aload_n 0, 1) := by decide +kernel
theorem dX8_fail_13 : decode cX8_fail 13 = .ok (.iload_n 2, 1) := by decide +kernel
theorem dX8_fail_14 : decode cX8_fail 14 = .ok (.putfield 20, 3) := by decide +kernel
theorem dX8_fail_17 : decode cX8_fail 17 = .ok (.return_, 1) := by decide +kernel
theorem dX8_byteAt_0 : decode cX8_byteAt 0 = .ok (.iload_n 1, 1) := by decide +kernel
theorem dX8_byteAt_1 : decode cX8_byteAt 1 = .ok (.aload_n 0, 1) := by decide +kernel
theorem dX8_byteAt_2 : decode cX8_byteAt 2 = .ok (.getfield 81, 3) := by decide +kernel
theorem dX8_byteAt_5 : decode cX8_byteAt 5 = .ok (.if_icmp .ge 12, 3) := by decide +kernel
theorem dX8_byteAt_8 : decode cX8_byteAt 8 = .ok (.aload_n 0, 1) := by decide +kernel
theorem dX8_byteAt_9 : decode cX8_byteAt 9 = .ok (.getfield 17, 3) := by decide +kernel
theorem dX8_byteAt_12 : decode cX8_byteAt 12 = .ok (.iload_n 1, 1) := by decide +kernel
theorem dX8_byteAt_13 : decode cX8_byteAt 13 = .ok (.iaload, 1) := by decide +kernel
theorem dX8_byteAt_14 : decode cX8_byteAt 14 = .ok (.goto 4, 3) := by decide +kernel
theorem dX8_byteAt_17 : decode cX8_byteAt 17 = .ok (.iconst (-1), 1) := by decide +kernel
theorem dX8_byteAt_18 : decode cX8_byteAt 18 = .ok (.ireturn, 1) := by decide +kernel
theorem dX8_isCapital_0 : decode cX8_isCapital 0 = .ok (.iload_n 0, 1) := by decide +kernel
theorem dX8_isCapital_1 : decode cX8_isCapital 1 = .ok (.bipush 65, 2) := by decide +kernel
theorem dX8_isCapital_3 : decode cX8_isCapital 3 = .ok (.if_icmp .lt 13, 3) := by decide +kernel
theorem dX8_isCapital_6 : decode cX8_isCapital 6 = .ok (.iload_n 0, 1) := by decide +kernel
theorem dX8_isCapital_7 : decode cX8_isCapital 7 = .ok (.bipush 90, 2) := by decide +kernel
theorem dX8_isCapital_9 : decode cX8_isCapital 9 = .ok (.if_icmp .gt 7, 3) := by decide +kernel
theorem dX8_isCapital_12 : decode cX8_isCapital 12 = .ok (.iconst 1, 1) := by decide +kernel
theorem dX8_isCapital_13 : decode cX8_isCapital 13 = .ok (.goto 4, 3) := by decide +kernel
theorem dX8_isCapital_16 : decode cX8_isCapital 16 = .ok (.iconst 0, 1) := by decide +kernel
theorem dX8_isCapital_17 : decode cX8_isCapital 17 = .ok (.ireturn, 1) := by decide +kernel
theorem dX8_isFigure_0 : decode cX8_isFigure 0 = .ok (.iload_n 0, 1) := by decide +kernel
theorem dX8_isFigure_1 : decode cX8_isFigure 1 = .ok (.bipush 48, 2) := by decide +kernel
theorem dX8_isFigure_3 : decode cX8_isFigure 3 = .ok (.if_icmp .lt 13, 3) := by decide +kernel
theorem dX8_isFigure_6 : decode cX8_isFigure 6 = .ok (.iload_n 0, 1) := by decide +kernel
theorem dX8_isFigure_7 : decode cX8_isFigure 7 = .ok (.bipush 57, 2) := by decide +kernel
theorem dX8_isFigure_9 : decode cX8_isFigure 9 = .ok (.if_icmp .gt 7, 3) := by decide +kernel
theorem dX8_isFigure_12 : decode cX8_isFigure 12 = .ok (.iconst 1, 1) := by decide +kernel
theorem dX8_isFigure_13 : decode cX8_isFigure 13 = .ok (.goto 4, 3) := by decide +kernel
theorem dX8_isFigure_16 : decode cX8_isFigure 16 = .ok (.iconst 0, 1) := by decide +kernel
theorem dX8_isFigure_17 : decode cX8_isFigure 17 = .ok (.ireturn, 1) := by decide +kernel
theorem dX8_lettersAt_0 : decode cX8_lettersAt 0 = .ok (.lconst 0, 1) := by decide +kernel
theorem dX8_lettersAt_1 : decode cX8_lettersAt 1 = .ok (.lstore_n 2, 1) := by decide +kernel
theorem dX8_lettersAt_2 : decode cX8_lettersAt 2 = .ok (.iconst 0, 1) := by decide +kernel
theorem dX8_lettersAt_3 : decode cX8_lettersAt 3 = .ok (.istore 4, 2) := by decide +kernel
theorem dX8_lettersAt_5 : decode cX8_lettersAt 5 = .ok (.iload 4, 2) := by decide +kernel
theorem dX8_lettersAt_7 : decode cX8_lettersAt 7 = .ok (.bipush 12, 2) := by decide +kernel
theorem dX8_lettersAt_9 : decode cX8_lettersAt 9 = .ok (.if_icmp .ge 40, 3) := by decide +kernel
theorem dX8_lettersAt_12 : decode cX8_lettersAt 12 = .ok (.aload_n 0, 1) := by decide +kernel
theorem dX8_lettersAt_13 : decode cX8_lettersAt 13 = .ok (.iload_n 1, 1) := by decide +kernel
theorem dX8_lettersAt_14 : decode cX8_lettersAt 14 = .ok (.iload 4, 2) := by decide +kernel
theorem dX8_lettersAt_16 : decode cX8_lettersAt 16 = .ok (.iadd, 1) := by decide +kernel
theorem dX8_lettersAt_17 : decode cX8_lettersAt 17 = .ok (.invokevirtual 89, 3) := by decide +kernel
theorem dX8_lettersAt_20 : decode cX8_lettersAt 20 = .ok (.invokestatic 92, 3) := by decide +kernel
theorem dX8_lettersAt_23 : decode cX8_lettersAt 23 = .ok (.ifCond .eq 26, 3) := by decide +kernel
theorem dX8_lettersAt_26 : decode cX8_lettersAt 26 = .ok (.lload_n 2, 1) := by decide +kernel
theorem dX8_lettersAt_27 : decode cX8_lettersAt 27 = .ok (.iconst 5, 1) := by decide +kernel
theorem dX8_lettersAt_28 : decode cX8_lettersAt 28 = .ok (.lshl, 1) := by decide +kernel
theorem dX8_lettersAt_29 : decode cX8_lettersAt 29 = .ok (.aload_n 0, 1) := by decide +kernel
theorem dX8_lettersAt_30 : decode cX8_lettersAt 30 = .ok (.iload_n 1, 1) := by decide +kernel
theorem dX8_lettersAt_31 : decode cX8_lettersAt 31 = .ok (.iload 4, 2) := by decide +kernel
theorem dX8_lettersAt_33 : decode cX8_lettersAt 33 = .ok (.iadd, 1) := by decide +kernel
theorem dX8_lettersAt_34 : decode cX8_lettersAt 34 = .ok (.invokevirtual 89, 3) := by decide +kernel
theorem dX8_lettersAt_37 : decode cX8_lettersAt 37 = .ok (.bipush 64, 2) := by decide +kernel
theorem dX8_lettersAt_39 : decode cX8_lettersAt 39 = .ok (.isub, 1) := by decide +kernel
theorem dX8_lettersAt_40 : decode cX8_lettersAt 40 = .ok (.i2l, 1) := by decide +kernel
theorem dX8_lettersAt_41 : decode cX8_lettersAt 41 = .ok (.lor, 1) := by decide +kernel
theorem dX8_lettersAt_42 : decode cX8_lettersAt 42 = .ok (.lstore_n 2, 1) := by decide +kernel
theorem dX8_lettersAt_43 : decode cX8_lettersAt 43 = .ok (.iinc 4 1, 3) := by decide +kernel
theorem dX8_lettersAt_46 : decode cX8_lettersAt 46 = .ok (.goto (-41), 3) := by decide +kernel
theorem dX8_lettersAt_49 : decode cX8_lettersAt 49 = .ok (.lload_n 2, 1) := by decide +kernel
theorem dX8_lettersAt_50 : decode cX8_lettersAt 50 = .ok (.lreturn, 1) := by decide +kernel
theorem dX8_word_0 : decode cX8_word 0 = .ok (.iload_n 0, 1) := by decide +kernel
theorem dX8_word_1 : decode cX8_word 1 = .ok (.i2l, 1) := by decide +kernel
theorem dX8_word_2 : decode cX8_word 2 = .ok (.bipush 15, 2) := by decide +kernel
theorem dX8_word_4 : decode cX8_word 4 = .ok (.lshl, 1) := by decide +kernel
theorem dX8_word_5 : decode cX8_word 5 = .ok (.iload_n 1, 1) := by decide +kernel
theorem dX8_word_6 : decode cX8_word 6 = .ok (.i2l, 1) := by decide +kernel
theorem dX8_word_7 : decode cX8_word 7 = .ok (.bipush 10, 2) := by decide +kernel
theorem dX8_word_9 : decode cX8_word 9 = .ok (.lshl, 1) := by decide +kernel
theorem dX8_word_10 : decode cX8_word 10 = .ok (.lor, 1) := by decide +kernel
theorem dX8_word_11 : decode cX8_word 11 = .ok (.iload_n 2, 1) := by decide +kernel
theorem dX8_word_12 : decode cX8_word 12 = .ok (.i2l, 1) := by decide +kernel
theorem dX8_word_13 : decode cX8_word 13 = .ok (.iconst 5, 1) := by decide +kernel
theorem dX8_word_14 : decode cX8_word 14 = .ok (.lshl, 1) := by decide +kernel
theorem dX8_word_15 : decode cX8_word 15 = .ok (.lor, 1) := by decide +kernel
theorem dX8_word_16 : decode cX8_word 16 = .ok (.iload_n 3, 1) := by decide +kernel
theorem dX8_word_17 : decode cX8_word 17 = .ok (.i2l, 1) := by decide +kernel
theorem dX8_word_18 : decode cX8_word 18 = .ok (.lor, 1) := by decide +kernel
theorem dX8_word_19 : decode cX8_word 19 = .ok (.ldc2_w 95, 3) := by decide +kernel
theorem dX8_word_22 : decode cX8_word 22 = .ok (.land, 1) := by decide +kernel
theorem dX8_word_23 : decode cX8_word 23 = .ok (.lreturn, 1) := by decide +kernel
theorem dX8_nameOf_0 : decode cX8_nameOf 0 = .ok (.bipush 6, 2) := by decide +kernel
theorem dX8_nameOf_2 : decode cX8_nameOf 2 = .ok (.bipush 18, 2) := by decide +kernel
theorem dX8_nameOf_4 : decode cX8_nameOf 4 = .ok (.iconst 5, 1) := by decide +kernel
theorem dX8_nameOf_5 : decode cX8_nameOf 5 = .ok (.bipush 17, 2) := by decide +kernel
theorem dX8_nameOf_7 : decode cX8_nameOf 7 = .ok (.invokestatic 97, 3) := by decide +kernel
theorem dX8_nameOf_10 : decode cX8_nameOf 10 = .ok (.lstore_n 3, 1) := by decide +kernel
theorem dX8_nameOf_11 : decode cX8_nameOf 11 = .ok (.iconst 3, 1) := by decide +kernel
theorem dX8_nameOf_12 : decode cX8_nameOf 12 = .ok (.bipush 15, 2) := by decide +kernel
theorem dX8_nameOf_14 : decode cX8_nameOf 14 = .ok (.bipush 21, 2) := by decide +kernel
theorem dX8_nameOf_16 : decode cX8_nameOf 16 = .ok (.bipush 14, 2) := by decide +kernel
theorem dX8_nameOf_18 : decode cX8_nameOf 18 = .ok (.invokestatic 97, 3) := by decide +kernel
theorem dX8_nameOf_21 : decode cX8_nameOf 21 = .ok (.iconst 5, 1) := by decide +kernel
theorem dX8_nameOf_22 : decode cX8_nameOf 22 = .ok (.lshl, 1) := by decide +kernel
theorem dX8_nameOf_23 : decode cX8_nameOf 23 = .ok (.ldc2_w 101, 3) := by decide +kernel
theorem dX8_nameOf_26 : decode cX8_nameOf 26 = .ok (.lor, 1) := by decide +kernel
theorem dX8_nameOf_27 : decode cX8_nameOf 27 = .ok (.lstore 5, 2) := by decide +kernel
theorem dX8_nameOf_29 : decode cX8_nameOf 29 = .ok (.bipush 21, 2) := by decide +kernel
theorem dX8_nameOf_31 : decode cX8_nameOf 31 = .ok (.bipush 14, 2) := by decide +kernel
theorem dX8_nameOf_33 : decode cX8_nameOf 33 = .ok (.bipush 20, 2) := by decide +kernel
theorem dX8_nameOf_35 : decode cX8_nameOf 35 = .ok (.bipush 9, 2) := by decide +kernel
theorem dX8_nameOf_37 : decode cX8_nameOf 37 = .ok (.invokestatic 97, 3) := by decide +kernel
theorem dX8_nameOf_40 : decode cX8_nameOf 40 = .ok (.iconst 5, 1) := by decide +kernel
theorem dX8_nameOf_41 : decode cX8_nameOf 41 = .ok (.lshl, 1) := by decide +kernel
theorem dX8_nameOf_42 : decode cX8_nameOf 42 = .ok (.ldc2_w 103, 3) := by decide +kernel
theorem dX8_nameOf_45 : decode cX8_nameOf 45 = .ok (.lor, 1) := by decide +kernel
theorem dX8_nameOf_46 : decode cX8_nameOf 46 = .ok (.lstore 7, 2) := by decide +kernel
theorem dX8_nameOf_48 : decode cX8_nameOf 48 = .ok (.bipush 9, 2) := by decide +kernel
theorem dX8_nameOf_50 : decode cX8_nameOf 50 = .ok (.bipush 14, 2) := by decide +kernel
theorem dX8_nameOf_52 : decode cX8_nameOf 52 = .ok (.bipush 20, 2) := by decide +kernel
theorem dX8_nameOf_54 : decode cX8_nameOf 54 = .ok (.iconst 5, 1) := by decide +kernel
theorem dX8_nameOf_55 : decode cX8_nameOf 55 = .ok (.invokestatic 97, 3) := by decide +kernel
theorem dX8_nameOf_58 : decode cX8_nameOf 58 = .ok (.bipush 20, 2) := by decide +kernel
theorem dX8_nameOf_60 : decode cX8_nameOf 60 = .ok (.lshl, 1) := by decide +kernel
theorem dX8_nameOf_61 : decode cX8_nameOf 61 = .ok (.bipush 18, 2) := by decide +kernel
theorem dX8_nameOf_63 : decode cX8_nameOf 63 = .ok (.bipush 22, 2) := by decide +kernel
theorem dX8_nameOf_65 : decode cX8_nameOf 65 = .ok (.iconst 1, 1) := by decide +kernel
theorem dX8_nameOf_66 : decode cX8_nameOf 66 = .ok (.bipush 12, 2) := by decide +kernel
theorem dX8_nameOf_68 : decode cX8_nameOf 68 = .ok (.invokestatic 97, 3) := by decide +kernel
theorem dX8_nameOf_71 : decode cX8_nameOf 71 = .ok (.lor, 1) := by decide +kernel
theorem dX8_nameOf_72 : decode cX8_nameOf 72 = .ok (.lstore 9, 2) := by decide +kernel
theorem dX8_nameOf_74 : decode cX8_nameOf 74 = .ok (.iconst 2, 1) := by decide +kernel
theorem dX8_nameOf_75 : decode cX8_nameOf 75 = .ok (.bipush 25, 2) := by decide +kernel
theorem dX8_nameOf_77 : decode cX8_nameOf 77 = .ok (.bipush 13, 2) := by decide +kernel
theorem dX8_nameOf_79 : decode cX8_nameOf 79 = .ok (.bipush 15, 2) := by decide +kernel
theorem dX8_nameOf_81 : decode cX8_nameOf 81 = .ok (.invokestatic 97, 3) := by decide +kernel
theorem dX8_nameOf_84 : decode cX8_nameOf 84 = .ok (.bipush 15, 2) := by decide +kernel
theorem dX8_nameOf_86 : decode cX8_nameOf 86 = .ok (.lshl, 1) := by decide +kernel
theorem dX8_nameOf_87 : decode cX8_nameOf 87 = .ok (.iconst 0, 1) := by decide +kernel
theorem dX8_nameOf_88 : decode cX8_nameOf 88 = .ok (.bipush 14, 2) := by decide +kernel
theorem dX8_nameOf_90 : decode cX8_nameOf 90 = .ok (.bipush 20, 2) := by decide +kernel
theorem dX8_nameOf_92 : decode cX8_nameOf 92 = .ok (.bipush 8, 2) := by decide +kernel
theorem dX8_nameOf_94 : decode cX8_nameOf 94 = .ok (.invokestatic 97, 3) := by decide +kernel
theorem dX8_nameOf_97 : decode cX8_nameOf 97 = .ok (.lor, 1) := by decide +kernel
theorem dX8_nameOf_98 : decode cX8_nameOf 98 = .ok (.lstore 11, 2) := by decide +kernel
theorem dX8_nameOf_100 : decode cX8_nameOf 100 = .ok (.lload 11, 2) := by decide +kernel
theorem dX8_nameOf_102 : decode cX8_nameOf 102 = .ok (.bipush 15, 2) := by decide +kernel
theorem dX8_nameOf_104 : decode cX8_nameOf 104 = .ok (.lshl, 1) := by decide +kernel
theorem dX8_nameOf_105 : decode cX8_nameOf 105 = .ok (.iconst 0, 1) := by decide +kernel
theorem dX8_nameOf_106 : decode cX8_nameOf 106 = .ok (.iconst 4, 1) := by decide +kernel
theorem dX8_nameOf_107 : decode cX8_nameOf 107 = .ok (.iconst 1, 1) := by decide +kernel
theorem dX8_nameOf_108 : decode cX8_nameOf 108 = .ok (.bipush 25, 2) := by decide +kernel
theorem dX8_nameOf_110 : decode cX8_nameOf 110 = .ok (.invokestatic 97, 3) := by decide +kernel
theorem dX8_nameOf_113 : decode cX8_nameOf 113 = .ok (.lor, 1) := by decide +kernel
theorem dX8_nameOf_114 : decode cX8_nameOf 114 = .ok (.lstore 13, 2) := by decide +kernel
theorem dX8_nameOf_116 : decode cX8_nameOf 116 = .ok (.iconst 2, 1) := by decide +kernel
theorem dX8_nameOf_117 : decode cX8_nameOf 117 = .ok (.bipush 25, 2) := by decide +kernel
theorem dX8_nameOf_119 : decode cX8_nameOf 119 = .ok (.bipush 19, 2) := by decide +kernel
theorem dX8_nameOf_121 : decode cX8_nameOf 121 = .ok (.iconst 5, 1) := by decide +kernel
theorem dX8_nameOf_122 : decode cX8_nameOf 122 = .ok (.invokestatic 97, 3) := by decide +kernel
theorem dX8_nameOf_125 : decode cX8_nameOf 125 = .ok (.bipush 20, 2) := by decide +kernel
theorem dX8_nameOf_127 : decode cX8_nameOf 127 = .ok (.lshl, 1) := by decide +kernel
theorem dX8_nameOf_128 : decode cX8_nameOf 128 = .ok (.bipush 20, 2) := by decide +kernel
theorem dX8_nameOf_130 : decode cX8_nameOf 130 = .ok (.bipush 16, 2) := by decide +kernel
theorem dX8_nameOf_132 : decode cX8_nameOf 132 = .ok (.bipush 15, 2) := by decide +kernel
theorem dX8_nameOf_134 : decode cX8_nameOf 134 = .ok (.bipush 19, 2) := by decide +kernel
theorem dX8_nameOf_136 : decode cX8_nameOf 136 = .ok (.invokestatic 97, 3) := by decide +kernel
theorem dX8_nameOf_139 : decode cX8_nameOf 139 = .ok (.lor, 1) := by decide +kernel
theorem dX8_nameOf_140 : decode cX8_nameOf 140 = .ok (.lstore 15, 2) := by decide +kernel
theorem dX8_nameOf_142 : decode cX8_nameOf 142 = .ok (.iconst 2, 1) := by decide +kernel
theorem dX8_nameOf_143 : decode cX8_nameOf 143 = .ok (.bipush 25, 2) := by decide +kernel
theorem dX8_nameOf_145 : decode cX8_nameOf 145 = .ok (.iconst 4, 1) := by decide +kernel
theorem dX8_nameOf_146 : decode cX8_nameOf 146 = .ok (.iconst 1, 1) := by decide +kernel
theorem dX8_nameOf_147 : decode cX8_nameOf 147 = .ok (.invokestatic 97, 3) := by decide +kernel
theorem dX8_nameOf_150 : decode cX8_nameOf 150 = .ok (.iconst 5, 1) := by decide +kernel
theorem dX8_nameOf_151 : decode cX8_nameOf 151 = .ok (.lshl, 1) := by decide +kernel
theorem dX8_nameOf_152 : decode cX8_nameOf 152 = .ok (.ldc2_w 105, 3) := by decide +kernel
theorem dX8_nameOf_155 : decode cX8_nameOf 155 = .ok (.lor, 1) := by decide +kernel
theorem dX8_nameOf_156 : decode cX8_nameOf 156 = .ok (.lstore 17, 2) := by decide +kernel
theorem dX8_nameOf_158 : decode cX8_nameOf 158 = .ok (.iload_n 2, 1) := by decide +kernel
theorem dX8_nameOf_159 : decode cX8_nameOf 159 = .ok (.iconst 4, 1) := by decide +kernel
theorem dX8_nameOf_160 : decode cX8_nameOf 160 = .ok (.if_icmp .ne 13, 3) := by decide +kernel
theorem dX8_nameOf_163 : decode cX8_nameOf 163 = .ok (.lload_n 0, 1) := by decide +kernel
theorem dX8_nameOf_164 : decode cX8_nameOf 164 = .ok (.lload_n 3, 1) := by decide +kernel
theorem dX8_nameOf_165 : decode cX8_nameOf 165 = .ok (.lcmp, 1) := by decide +kernel
theorem dX8_nameOf_166 : decode cX8_nameOf 166 = .ok (.ifCond .ne 7, 3) := by decide +kernel
theorem dX8_nameOf_169 : decode cX8_nameOf 169 = .ok (.iconst 0, 1) := by decide +kernel
theorem dX8_nameOf_170 : decode cX8_nameOf 170 = .ok (.goto 122, 3) := by decide +kernel
theorem dX8_nameOf_173 : decode cX8_nameOf 173 = .ok (.iload_n 2, 1) := by decide +kernel
theorem dX8_nameOf_174 : decode cX8_nameOf 174 = .ok (.iconst 5, 1) := by decide +kernel
theorem dX8_nameOf_175 : decode cX8_nameOf 175 = .ok (.if_icmp .ne 14, 3) := by decide +kernel
theorem dX8_nameOf_178 : decode cX8_nameOf 178 = .ok (.lload_n 0, 1) := by decide +kernel
theorem dX8_nameOf_179 : decode cX8_nameOf 179 = .ok (.lload 5, 2) := by decide +kernel
theorem dX8_nameOf_181 : decode cX8_nameOf 181 = .ok (.lcmp, 1) := by decide +kernel
theorem dX8_nameOf_182 : decode cX8_nameOf 182 = .ok (.ifCond .ne 7, 3) := by decide +kernel
theorem dX8_nameOf_185 : decode cX8_nameOf 185 = .ok (.iconst 2, 1) := by decide +kernel
theorem dX8_nameOf_186 : decode cX8_nameOf 186 = .ok (.goto 106, 3) := by decide +kernel
theorem dX8_nameOf_189 : decode cX8_nameOf 189 = .ok (.iload_n 2, 1) := by decide +kernel
theorem dX8_nameOf_190 : decode cX8_nameOf 190 = .ok (.iconst 5, 1) := by decide +kernel
theorem dX8_nameOf_191 : decode cX8_nameOf 191 = .ok (.if_icmp .ne 14, 3) := by decide +kernel
theorem dX8_nameOf_194 : decode cX8_nameOf 194 = .ok (.lload_n 0, 1) := by decide +kernel
theorem dX8_nameOf_195 : decode cX8_nameOf 195 = .ok (.lload 7, 2) := by decide +kernel
theorem dX8_nameOf_197 : decode cX8_nameOf 197 = .ok (.lcmp, 1) := by decide +kernel
theorem dX8_nameOf_198 : decode cX8_nameOf 198 = .ok (.ifCond .ne 7, 3) := by decide +kernel
theorem dX8_nameOf_201 : decode cX8_nameOf 201 = .ok (.iconst 3, 1) := by decide +kernel
theorem dX8_nameOf_202 : decode cX8_nameOf 202 = .ok (.goto 90, 3) := by decide +kernel
theorem dX8_nameOf_205 : decode cX8_nameOf 205 = .ok (.iload_n 2, 1) := by decide +kernel
theorem dX8_nameOf_206 : decode cX8_nameOf 206 = .ok (.bipush 8, 2) := by decide +kernel
theorem dX8_nameOf_208 : decode cX8_nameOf 208 = .ok (.if_icmp .ne 14, 3) := by decide +kernel
theorem dX8_nameOf_211 : decode cX8_nameOf 211 = .ok (.lload_n 0, 1) := by decide +kernel
theorem dX8_nameOf_212 : decode cX8_nameOf 212 = .ok (.lload 9, 2) := by decide +kernel
theorem dX8_nameOf_214 : decode cX8_nameOf 214 = .ok (.lcmp, 1) := by decide +kernel
theorem dX8_nameOf_215 : decode cX8_nameOf 215 = .ok (.ifCond .ne 7, 3) := by decide +kernel
theorem dX8_nameOf_218 : decode cX8_nameOf 218 = .ok (.iconst 1, 1) := by decide +kernel
theorem dX8_nameOf_219 : decode cX8_nameOf 219 = .ok (.goto 73, 3) := by decide +kernel
theorem dX8_nameOf_222 : decode cX8_nameOf 222 = .ok (.iload_n 2, 1) := by decide +kernel
theorem dX8_nameOf_223 : decode cX8_nameOf 223 = .ok (.bipush 7, 2) := by decide +kernel
theorem dX8_nameOf_225 : decode cX8_nameOf 225 = .ok (.if_icmp .ne 14, 3) := by decide +kernel
theorem dX8_nameOf_228 : decode cX8_nameOf 228 = .ok (.lload_n 0, 1) := by decide +kernel
theorem dX8_nameOf_229 : decode cX8_nameOf 229 = .ok (.lload 11, 2) := by decide +kernel
theorem dX8_nameOf_231 : decode cX8_nameOf 231 = .ok (.lcmp, 1) := by decide +kernel
theorem dX8_nameOf_232 : decode cX8_nameOf 232 = .ok (.ifCond .ne 7, 3) := by decide +kernel
theorem dX8_nameOf_235 : decode cX8_nameOf 235 = .ok (.iconst 4, 1) := by decide +kernel
theorem dX8_nameOf_236 : decode cX8_nameOf 236 = .ok (.goto 56, 3) := by decide +kernel
theorem dX8_nameOf_239 : decode cX8_nameOf 239 = .ok (.iload_n 2, 1) := by decide +kernel
theorem dX8_nameOf_240 : decode cX8_nameOf 240 = .ok (.bipush 10, 2) := by decide +kernel
theorem dX8_nameOf_242 : decode cX8_nameOf 242 = .ok (.if_icmp .ne 14, 3) := by decide +kernel
theorem dX8_nameOf_245 : decode cX8_nameOf 245 = .ok (.lload_n 0, 1) := by decide +kernel
theorem dX8_nameOf_246 : decode cX8_nameOf 246 = .ok (.lload 13, 2) := by decide +kernel
theorem dX8_nameOf_248 : decode cX8_nameOf 248 = .ok (.lcmp, 1) := by decide +kernel
theorem dX8_nameOf_249 : decode cX8_nameOf 249 = .ok (.ifCond .ne 7, 3) := by decide +kernel
theorem dX8_nameOf_252 : decode cX8_nameOf 252 = .ok (.iconst 5, 1) := by decide +kernel
theorem dX8_nameOf_253 : decode cX8_nameOf 253 = .ok (.goto 39, 3) := by decide +kernel
theorem dX8_nameOf_256 : decode cX8_nameOf 256 = .ok (.iload_n 2, 1) := by decide +kernel
theorem dX8_nameOf_257 : decode cX8_nameOf 257 = .ok (.bipush 8, 2) := by decide +kernel
theorem dX8_nameOf_259 : decode cX8_nameOf 259 = .ok (.if_icmp .ne 15, 3) := by decide +kernel
theorem dX8_nameOf_262 : decode cX8_nameOf 262 = .ok (.lload_n 0, 1) := by decide +kernel
theorem dX8_nameOf_263 : decode cX8_nameOf 263 = .ok (.lload 15, 2) := by decide +kernel
theorem dX8_nameOf_265 : decode cX8_nameOf 265 = .ok (.lcmp, 1) := by decide +kernel
theorem dX8_nameOf_266 : decode cX8_nameOf 266 = .ok (.ifCond .ne 8, 3) := by decide +kernel
theorem dX8_nameOf_269 : decode cX8_nameOf 269 = .ok (.bipush 6, 2) := by decide +kernel
theorem dX8_nameOf_271 : decode cX8_nameOf 271 = .ok (.goto 21, 3) := by decide +kernel
theorem dX8_nameOf_274 : decode cX8_nameOf 274 = .ok (.iload_n 2, 1) := by decide +kernel
theorem dX8_nameOf_275 : decode cX8_nameOf 275 = .ok (.iconst 5, 1) := by decide +kernel
theorem dX8_nameOf_276 : decode cX8_nameOf 276 = .ok (.if_icmp .ne 15, 3) := by decide +kernel
theorem dX8_nameOf_279 : decode cX8_nameOf 279 = .ok (.lload_n 0, 1) := by decide +kernel
theorem dX8_nameOf_280 : decode cX8_nameOf 280 = .ok (.lload 17, 2) := by decide +kernel
theorem dX8_nameOf_282 : decode cX8_nameOf 282 = .ok (.lcmp, 1) := by decide +kernel
theorem dX8_nameOf_283 : decode cX8_nameOf 283 = .ok (.ifCond .ne 8, 3) := by decide +kernel
theorem dX8_nameOf_286 : decode cX8_nameOf 286 = .ok (.bipush 7, 2) := by decide +kernel
theorem dX8_nameOf_288 : decode cX8_nameOf 288 = .ok (.goto 4, 3) := by decide +kernel
theorem dX8_nameOf_291 : decode cX8_nameOf 291 = .ok (.iconst (-1), 1) := by decide +kernel
theorem dX8_nameOf_292 : decode cX8_nameOf 292 = .ok (.ireturn, 1) := by decide +kernel
theorem dX8_freqOf_0 : decode cX8_freqOf 0 = .ok (.iconst 4, 1) := by decide +kernel
theorem dX8_freqOf_1 : decode cX8_freqOf 1 = .ok (.iconst 1, 1) := by decide +kernel
theorem dX8_freqOf_2 : decode cX8_freqOf 2 = .ok (.bipush 9, 2) := by decide +kernel
theorem dX8_freqOf_4 : decode cX8_freqOf 4 = .ok (.bipush 12, 2) := by decide +kernel
theorem dX8_freqOf_6 : decode cX8_freqOf 6 = .ok (.invokestatic 97, 3) := by decide +kernel
theorem dX8_freqOf_9 : decode cX8_freqOf 9 = .ok (.iconst 5, 1) := by decide +kernel
theorem dX8_freqOf_10 : decode cX8_freqOf 10 = .ok (.lshl, 1) := by decide +kernel
theorem dX8_freqOf_11 : decode cX8_freqOf 11 = .ok (.ldc2_w 105, 3) := by decide +kernel
theorem dX8_freqOf_14 : decode cX8_freqOf 14 = .ok (.lor, 1) := by decide +kernel
theorem dX8_freqOf_15 : decode cX8_freqOf 15 = .ok (.lstore_n 3, 1) := by decide +kernel
theorem dX8_freqOf_16 : decode cX8_freqOf 16 = .ok (.bipush 23, 2) := by decide +kernel
theorem dX8_freqOf_18 : decode cX8_freqOf 18 = .ok (.iconst 5, 1) := by decide +kernel
theorem dX8_freqOf_19 : decode cX8_freqOf 19 = .ok (.iconst 5, 1) := by decide +kernel
theorem dX8_freqOf_20 : decode cX8_freqOf 20 = .ok (.bipush 11, 2) := by decide +kernel
theorem dX8_freqOf_22 : decode cX8_freqOf 22 = .ok (.invokestatic 97, 3) := by decide +kernel
theorem dX8_freqOf_25 : decode cX8_freqOf 25 = .ok (.bipush 10, 2) := by decide +kernel
theorem dX8_freqOf_27 : decode cX8_freqOf 27 = .ok (.lshl, 1) := by decide +kernel
theorem dX8_freqOf_28 : decode cX8_freqOf 28 = .ok (.iconst 0, 1) := by decide +kernel
theorem dX8_freqOf_29 : decode cX8_freqOf 29 = .ok (.iconst 0, 1) := by decide +kernel
theorem dX8_freqOf_30 : decode cX8_freqOf 30 = .ok (.bipush 12, 2) := by decide +kernel
theorem dX8_freqOf_32 : decode cX8_freqOf 32 = .ok (.bipush 25, 2) := by decide +kernel
theorem dX8_freqOf_34 : decode cX8_freqOf 34 = .ok (.invokestatic 97, 3) := by decide +kernel
theorem dX8_freqOf_37 : decode cX8_freqOf 37 = .ok (.lor, 1) := by decide +kernel
theorem dX8_freqOf_38 : decode cX8_freqOf 38 = .ok (.lstore 5, 2) := by decide +kernel
theorem dX8_freqOf_40 : decode cX8_freqOf 40 = .ok (.bipush 13, 2) := by decide +kernel
theorem dX8_freqOf_42 : decode cX8_freqOf 42 = .ok (.bipush 15, 2) := by decide +kernel
theorem dX8_freqOf_44 : decode cX8_freqOf 44 = .ok (.bipush 14, 2) := by decide +kernel
theorem dX8_freqOf_46 : decode cX8_freqOf 46 = .ok (.bipush 20, 2) := by decide +kernel
theorem dX8_freqOf_48 : decode cX8_freqOf 48 = .ok (.invokestatic 97, 3) := by decide +kernel
theorem dX8_freqOf_51 : decode cX8_freqOf 51 = .ok (.bipush 15, 2) := by decide +kernel
theorem dX8_freqOf_53 : decode cX8_freqOf 53 = .ok (.lshl, 1) := by decide +kernel
theorem dX8_freqOf_54 : decode cX8_freqOf 54 = .ok (.iconst 0, 1) := by decide +kernel
theorem dX8_freqOf_55 : decode cX8_freqOf 55 = .ok (.bipush 8, 2) := by decide +kernel
theorem dX8_freqOf_57 : decode cX8_freqOf 57 = .ok (.bipush 12, 2) := by decide +kernel
theorem dX8_freqOf_59 : decode cX8_freqOf 59 = .ok (.bipush 25, 2) := by decide +kernel
theorem dX8_freqOf_61 : decode cX8_freqOf 61 = .ok (.invokestatic 97, 3) := by decide +kernel
theorem dX8_freqOf_64 : decode cX8_freqOf 64 = .ok (.lor, 1) := by decide +kernel
theorem dX8_freqOf_65 : decode cX8_freqOf 65 = .ok (.lstore 7, 2) := by decide +kernel
theorem dX8_freqOf_67 : decode cX8_freqOf 67 = .ok (.bipush 25, 2) := by decide +kernel
theorem dX8_freqOf_69 : decode cX8_freqOf 69 = .ok (.iconst 5, 1) := by decide +kernel
theorem dX8_freqOf_70 : decode cX8_freqOf 70 = .ok (.iconst 1, 1) := by decide +kernel
theorem dX8_freqOf_71 : decode cX8_freqOf 71 = .ok (.bipush 18, 2) := by decide +kernel
theorem dX8_freqOf_73 : decode cX8_freqOf 73 = .ok (.invokestatic 97, 3) := by decide +kernel
theorem dX8_freqOf_76 : decode cX8_freqOf 76 = .ok (.bipush 10, 2) := by decide +kernel
theorem dX8_freqOf_78 : decode cX8_freqOf 78 = .ok (.lshl, 1) := by decide +kernel
theorem dX8_freqOf_79 : decode cX8_freqOf 79 = .ok (.iconst 0, 1) := by decide +kernel
theorem dX8_freqOf_80 : decode cX8_freqOf 80 = .ok (.iconst 0, 1) := by decide +kernel
theorem dX8_freqOf_81 : decode cX8_freqOf 81 = .ok (.bipush 12, 2) := by decide +kernel
theorem dX8_freqOf_83 : decode cX8_freqOf 83 = .ok (.bipush 25, 2) := by decide +kernel
theorem dX8_freqOf_85 : decode cX8_freqOf 85 = .ok (.invokestatic 97, 3) := by decide +kernel
theorem dX8_freqOf_88 : decode cX8_freqOf 88 = .ok (.lor, 1) := by decide +kernel
theorem dX8_freqOf_89 : decode cX8_freqOf 89 = .ok (.lstore 9, 2) := by decide +kernel
theorem dX8_freqOf_91 : decode cX8_freqOf 91 = .ok (.iload_n 2, 1) := by decide +kernel
theorem dX8_freqOf_92 : decode cX8_freqOf 92 = .ok (.iconst 5, 1) := by decide +kernel
theorem dX8_freqOf_93 : decode cX8_freqOf 93 = .ok (.if_icmp .ne 13, 3) := by decide +kernel
theorem dX8_freqOf_96 : decode cX8_freqOf 96 = .ok (.lload_n 0, 1) := by decide +kernel
theorem dX8_freqOf_97 : decode cX8_freqOf 97 = .ok (.lload_n 3, 1) := by decide +kernel
theorem dX8_freqOf_98 : decode cX8_freqOf 98 = .ok (.lcmp, 1) := by decide +kernel
theorem dX8_freqOf_99 : decode cX8_freqOf 99 = .ok (.ifCond .ne 7, 3) := by decide +kernel
theorem dX8_freqOf_102 : decode cX8_freqOf 102 = .ok (.iconst 0, 1) := by decide +kernel
theorem dX8_freqOf_103 : decode cX8_freqOf 103 = .ok (.goto 55, 3) := by decide +kernel
theorem dX8_freqOf_106 : decode cX8_freqOf 106 = .ok (.iload_n 2, 1) := by decide +kernel
theorem dX8_freqOf_107 : decode cX8_freqOf 107 = .ok (.bipush 6, 2) := by decide +kernel
theorem dX8_freqOf_109 : decode cX8_freqOf 109 = .ok (.if_icmp .ne 14, 3) := by decide +kernel
theorem dX8_freqOf_112 : decode cX8_freqOf 112 = .ok (.lload_n 0, 1) := by decide +kernel
theorem dX8_freqOf_113 : decode cX8_freqOf 113 = .ok (.lload 5, 2) := by decide +kernel
theorem dX8_freqOf_115 : decode cX8_freqOf 115 = .ok (.lcmp, 1) := by decide +kernel
theorem dX8_freqOf_116 : decode cX8_freqOf 116 = .ok (.ifCond .ne 7, 3) := by decide +kernel
theorem dX8_freqOf_119 : decode cX8_freqOf 119 = .ok (.iconst 1, 1) := by decide +kernel
theorem dX8_freqOf_120 : decode cX8_freqOf 120 = .ok (.goto 38, 3) := by decide +kernel
theorem dX8_freqOf_123 : decode cX8_freqOf 123 = .ok (.iload_n 2, 1) := by decide +kernel
theorem dX8_freqOf_124 : decode cX8_freqOf 124 = .ok (.bipush 7, 2) := by decide +kernel
theorem dX8_freqOf_126 : decode cX8_freqOf 126 = .ok (.if_icmp .ne 14, 3) := by decide +kernel
theorem dX8_freqOf_129 : decode cX8_freqOf 129 = .ok (.lload_n 0, 1) := by decide +kernel
theorem dX8_freqOf_130 : decode cX8_freqOf 130 = .ok (.lload 7, 2) := by decide +kernel
theorem dX8_freqOf_132 : decode cX8_freqOf 132 = .ok (.lcmp, 1) := by decide +kernel
theorem dX8_freqOf_133 : decode cX8_freqOf 133 = .ok (.ifCond .ne 7, 3) := by decide +kernel
theorem dX8_freqOf_136 : decode cX8_freqOf 136 = .ok (.iconst 2, 1) := by decide +kernel
theorem dX8_freqOf_137 : decode cX8_freqOf 137 = .ok (.goto 21, 3) := by decide +kernel
theorem dX8_freqOf_140 : decode cX8_freqOf 140 = .ok (.iload_n 2, 1) := by decide +kernel
theorem dX8_freqOf_141 : decode cX8_freqOf 141 = .ok (.bipush 6, 2) := by decide +kernel
theorem dX8_freqOf_143 : decode cX8_freqOf 143 = .ok (.if_icmp .ne 14, 3) := by decide +kernel
theorem dX8_freqOf_146 : decode cX8_freqOf 146 = .ok (.lload_n 0, 1) := by decide +kernel
theorem dX8_freqOf_147 : decode cX8_freqOf 147 = .ok (.lload 9, 2) := by decide +kernel
theorem dX8_freqOf_149 : decode cX8_freqOf 149 = .ok (.lcmp, 1) := by decide +kernel
theorem dX8_freqOf_150 : decode cX8_freqOf 150 = .ok (.ifCond .ne 7, 3) := by decide +kernel
theorem dX8_freqOf_153 : decode cX8_freqOf 153 = .ok (.iconst 3, 1) := by decide +kernel
theorem dX8_freqOf_154 : decode cX8_freqOf 154 = .ok (.goto 4, 3) := by decide +kernel
theorem dX8_freqOf_157 : decode cX8_freqOf 157 = .ok (.iconst (-1), 1) := by decide +kernel
theorem dX8_freqOf_158 : decode cX8_freqOf 158 = .ok (.ireturn, 1) := by decide +kernel
theorem dX8_capitals_0 : decode cX8_capitals 0 = .ok (.iconst 0, 1) := by decide +kernel
theorem dX8_capitals_1 : decode cX8_capitals 1 = .ok (.istore_n 2, 1) := by decide +kernel
theorem dX8_capitals_2 : decode cX8_capitals 2 = .ok (.aload_n 0, 1) := by decide +kernel
theorem dX8_capitals_3 : decode cX8_capitals 3 = .ok (.iload_n 1, 1) := by decide +kernel
theorem dX8_capitals_4 : decode cX8_capitals 4 = .ok (.iload_n 2, 1) := by decide +kernel
theorem dX8_capitals_5 : decode cX8_capitals 5 = .ok (.iadd, 1) := by decide +kernel
theorem dX8_capitals_6 : decode cX8_capitals 6 = .ok (.invokevirtual 89, 3) := by decide +kernel
theorem dX8_capitals_9 : decode cX8_capitals 9 = .ok (.invokestatic 92, 3) := by decide +kernel
theorem dX8_capitals_12 : decode cX8_capitals 12 = .ok (.ifCond .eq 9, 3) := by decide +kernel
theorem dX8_capitals_15 : decode cX8_capitals 15 = .ok (.iinc 2 1, 3) := by decide +kernel
theorem dX8_capitals_18 : decode cX8_capitals 18 = .ok (.goto (-16), 3) := by decide +kernel
theorem dX8_capitals_21 : decode cX8_capitals 21 = .ok (.iload_n 2, 1) := by decide +kernel
theorem dX8_capitals_22 : decode cX8_capitals 22 = .ok (.ireturn, 1) := by decide +kernel
theorem dX8_number_0 : decode cX8_number 0 = .ok (.aload_n 0, 1) := by decide +kernel
theorem dX8_number_1 : decode cX8_number 1 = .ok (.getfield 107, 3) := by decide +kernel
theorem dX8_number_4 : decode cX8_number 4 = .ok (.istore_n 3, 1) := by decide +kernel
theorem dX8_number_5 : decode cX8_number 5 = .ok (.iconst 0, 1) := by decide +kernel
theorem dX8_number_6 : decode cX8_number 6 = .ok (.istore 4, 2) := by decide +kernel
theorem dX8_number_8 : decode cX8_number 8 = .ok (.iload_n 1, 1) := by decide +kernel
theorem dX8_number_9 : decode cX8_number 9 = .ok (.ifCond .ge 59, 3) := by decide +kernel
theorem dX8_number_12 : decode cX8_number 12 = .ok (.aload_n 0, 1) := by decide +kernel
theorem dX8_number_13 : decode cX8_number 13 = .ok (.aload_n 0, 1) := by decide +kernel
theorem dX8_number_14 : decode cX8_number 14 = .ok (.getfield 107, 3) := by decide +kernel
theorem dX8_number_17 : decode cX8_number 17 = .ok (.invokevirtual 89, 3) := by decide +kernel
theorem dX8_number_20 : decode cX8_number 20 = .ok (.bipush 43, 2) := by decide +kernel
theorem dX8_number_22 : decode cX8_number 22 = .ok (.if_icmp .eq 16, 3) := by decide +kernel
theorem dX8_number_25 : decode cX8_number 25 = .ok (.aload_n 0, 1) := by decide +kernel
theorem dX8_number_26 : decode cX8_number 26 = .ok (.aload_n 0, 1) := by decide +kernel
theorem dX8_number_27 : decode cX8_number 27 = .ok (.getfield 107, 3) := by decide +kernel
theorem dX8_number_30 : decode cX8_number 30 = .ok (.invokevirtual 89, 3) := by decide +kernel
theorem dX8_number_33 : decode cX8_number 33 = .ok (.bipush 45, 2) := by decide +kernel
theorem dX8_number_35 : decode cX8_number 35 = .ok (.if_icmp .ne 33, 3) := by decide +kernel
theorem dX8_number_38 : decode cX8_number 38 = .ok (.aload_n 0, 1) := by decide +kernel
theorem dX8_number_39 : decode cX8_number 39 = .ok (.aload_n 0, 1) := by decide +kernel
theorem dX8_number_40 : decode cX8_number 40 = .ok (.getfield 107, 3) := by decide +kernel
theorem dX8_number_43 : decode cX8_number 43 = .ok (.invokevirtual 89, 3) := by decide +kernel
theorem dX8_number_46 : decode cX8_number 46 = .ok (.bipush 45, 2) := by decide +kernel
theorem dX8_number_48 : decode cX8_number 48 = .ok (.if_icmp .ne 7, 3) := by decide +kernel
theorem dX8_number_51 : decode cX8_number 51 = .ok (.iconst 1, 1) := by decide +kernel
theorem dX8_number_52 : decode cX8_number 52 = .ok (.goto 4, 3) := by decide +kernel
theorem dX8_number_55 : decode cX8_number 55 = .ok (.iconst 0, 1) := by decide +kernel
theorem dX8_number_56 : decode cX8_number 56 = .ok (.istore 4, 2) := by decide +kernel
theorem dX8_number_58 : decode cX8_number 58 = .ok (.aload_n 0, 1) := by decide +kernel
theorem dX8_number_59 : decode cX8_number 59 = .ok (.dup, 1) := by decide +kernel
theorem dX8_number_60 : decode cX8_number 60 = .ok (.getfield 107, 3) := by decide +kernel
theorem dX8_number_63 : decode cX8_number 63 = .ok (.iconst 1, 1) := by decide +kernel
theorem dX8_number_64 : decode cX8_number 64 = .ok (.iadd, 1) := by decide +kernel
theorem dX8_number_65 : decode cX8_number 65 = .ok (.putfield 107, 3) := by decide +kernel
theorem dX8_number_68 : decode cX8_number 68 = .ok (.aload_n 0, 1) := by decide +kernel
theorem dX8_number_69 : decode cX8_number 69 = .ok (.aload_n 0, 1) := by decide +kernel
theorem dX8_number_70 : decode cX8_number 70 = .ok (.getfield 107, 3) := by decide +kernel
theorem dX8_number_73 : decode cX8_number 73 = .ok (.invokevirtual 89, 3) := by decide +kernel
theorem dX8_number_76 : decode cX8_number 76 = .ok (.invokestatic 110, 3) := by decide +kernel
theorem dX8_number_79 : decode cX8_number 79 = .ok (.ifCond .ne 14, 3) := by decide +kernel
theorem dX8_number_82 : decode cX8_number 82 = .ok (.aload_n 0, 1) := by decide +kernel
theorem dX8_number_83 : decode cX8_number 83 = .ok (.iconst 1, 1) := by decide +kernel
theorem dX8_number_84 : decode cX8_number 84 = .ok (.aload_n 0, 1) := by decide +kernel
theorem dX8_number_85 : decode cX8_number 85 = .ok (.getfield 107, 3) := by decide +kernel
theorem dX8_number_88 : decode cX8_number 88 = .ok (.invokevirtual 113, 3) := by decide +kernel
theorem dX8_number_91 : decode cX8_number 91 = .ok (.iconst 0, 1) := by decide +kernel
theorem dX8_number_92 : decode cX8_number 92 = .ok (.ireturn, 1) := by decide +kernel
theorem dX8_number_93 : decode cX8_number 93 = .ok (.lconst 0, 1) := by decide +kernel
theorem dX8_number_94 : decode cX8_number 94 = .ok (.lstore 5, 2) := by decide +kernel
theorem dX8_number_96 : decode cX8_number 96 = .ok (.aload_n 0, 1) := by decide +kernel
theorem dX8_number_97 : decode cX8_number 97 = .ok (.aload_n 0, 1) := by decide +kernel
theorem dX8_number_98 : decode cX8_number 98 = .ok (.getfield 107, 3) := by decide +kernel
theorem dX8_number_101 : decode cX8_number 101 = .ok (.invokevirtual 89, 3) := by decide +kernel
theorem dX8_number_104 : decode cX8_number 104 = .ok (.invokestatic 110, 3) := by decide +kernel
theorem dX8_number_107 : decode cX8_number 107 = .ok (.ifCond .eq 57, 3) := by decide +kernel
theorem dX8_number_110 : decode cX8_number 110 = .ok (.lload 5, 2) := by decide +kernel
theorem dX8_number_112 : decode cX8_number 112 = .ok (.ldc2_w 117, 3) := by decide +kernel
theorem dX8_number_115 : decode cX8_number 115 = .ok (.lmul, 1) := by decide +kernel
theorem dX8_number_116 : decode cX8_number 116 = .ok (.aload_n 0, 1) := by decide +kernel
theorem dX8_number_117 : decode cX8_number 117 = .ok (.aload_n 0, 1) := by decide +kernel
theorem dX8_number_118 : decode cX8_number 118 = .ok (.getfield 107, 3) := by decide +kernel
theorem dX8_number_121 : decode cX8_number 121 = .ok (.invokevirtual 89, 3) := by decide +kernel
theorem dX8_number_124 : decode cX8_number 124 = .ok (.i2l, 1) := by decide +kernel
theorem dX8_number_125 : decode cX8_number 125 = .ok (.ladd, 1) := by decide +kernel
theorem dX8_number_126 : decode cX8_number 126 = .ok (.ldc2_w 119, 3) := by decide +kernel
theorem dX8_number_129 : decode cX8_number 129 = .ok (.lsub, 1) := by decide +kernel
theorem dX8_number_130 : decode cX8_number 130 = .ok (.lstore 5, 2) := by decide +kernel
theorem dX8_number_132 : decode cX8_number 132 = .ok (.lload 5, 2) := by decide +kernel
theorem dX8_number_134 : decode cX8_number 134 = .ok (.ldc2_w 121, 3) := by decide +kernel
theorem dX8_number_137 : decode cX8_number 137 = .ok (.lcmp, 1) := by decide +kernel
theorem dX8_number_138 : decode cX8_number 138 = .ok (.ifCond .le 9, 3) := by decide +kernel
theorem dX8_number_141 : decode cX8_number 141 = .ok (.ldc2_w 121, 3) := by decide +kernel
theorem dX8_number_144 : decode cX8_number 144 = .ok (.goto 5, 3) := by decide +kernel
theorem dX8_number_147 : decode cX8_number 147 = .ok (.lload 5, 2) := by decide +kernel
theorem dX8_number_149 : decode cX8_number 149 = .ok (.lstore 5, 2) := by decide +kernel
theorem dX8_number_151 : decode cX8_number 151 = .ok (.aload_n 0, 1) := by decide +kernel
theorem dX8_number_152 : decode cX8_number 152 = .ok (.dup, 1) := by decide +kernel
theorem dX8_number_153 : decode cX8_number 153 = .ok (.getfield 107, 3) := by decide +kernel
theorem dX8_number_156 : decode cX8_number 156 = .ok (.iconst 1, 1) := by decide +kernel
theorem dX8_number_157 : decode cX8_number 157 = .ok (.iadd, 1) := by decide +kernel
theorem dX8_number_158 : decode cX8_number 158 = .ok (.putfield 107, 3) := by decide +kernel
theorem dX8_number_161 : decode cX8_number 161 = .ok (.goto (-65), 3) := by decide +kernel
theorem dX8_number_164 : decode cX8_number 164 = .ok (.iload 4, 2) := by decide +kernel
theorem dX8_number_166 : decode cX8_number 166 = .ok (.ifCond .eq 9, 3) := by decide +kernel
theorem dX8_number_169 : decode cX8_number 169 = .ok (.lload 5, 2) := by decide +kernel
theorem dX8_number_171 : decode cX8_number 171 = .ok (.lneg, 1) := by decide +kernel
theorem dX8_number_172 : decode cX8_number 172 = .ok (.goto 5, 3) := by decide +kernel
theorem dX8_number_175 : decode cX8_number 175 = .ok (.lload 5, 2) := by decide +kernel
theorem dX8_number_177 : decode cX8_number 177 = .ok (.lstore 5, 2) := by decide +kernel
theorem dX8_number_179 : decode cX8_number 179 = .ok (.lload 5, 2) := by decide +kernel
theorem dX8_number_181 : decode cX8_number 181 = .ok (.iload_n 1, 1) := by decide +kernel
theorem dX8_number_182 : decode cX8_number 182 = .ok (.i2l, 1) := by decide +kernel
theorem dX8_number_183 : decode cX8_number 183 = .ok (.lcmp, 1) := by decide +kernel
theorem dX8_number_184 : decode cX8_number 184 = .ok (.ifCond .lt 22, 3) := by decide +kernel
theorem dX8_number_187 : decode cX8_number 187 = .ok (.lload 5, 2) := by decide +kernel
theorem dX8_number_189 : decode cX8_number 189 = .ok (.iload_n 2, 1) := by decide +kernel
theorem dX8_number_190 : decode cX8_number 190 = .ok (.i2l, 1) := by decide +kernel
theorem dX8_number_191 : decode cX8_number 191 = .ok (.lcmp, 1) := by decide +kernel
theorem dX8_number_192 : decode cX8_number 192 = .ok (.ifCond .gt 14, 3) := by decide +kernel
theorem dX8_number_195 : decode cX8_number 195 = .ok (.iload_n 1, 1) := by decide +kernel
theorem dX8_number_196 : decode cX8_number 196 = .ok (.ifCond .ge 16, 3) := by decide +kernel
theorem dX8_number_199 : decode cX8_number 199 = .ok (.lload 5, 2) := by decide +kernel
theorem dX8_number_201 : decode cX8_number 201 = .ok (.lconst 0, 1) := by decide +kernel
theorem dX8_number_202 : decode cX8_number 202 = .ok (.lcmp, 1) := by decide +kernel
theorem dX8_number_203 : decode cX8_number 203 = .ok (.ifCond .ne 9, 3) := by decide +kernel
theorem dX8_number_206 : decode cX8_number 206 = .ok (.aload_n 0, 1) := by decide +kernel
theorem dX8_number_207 : decode cX8_number 207 = .ok (.iconst 2, 1) := by decide +kernel
theorem dX8_number_208 : decode cX8_number 208 = .ok (.iload_n 3, 1) := by decide +kernel
theorem dX8_number_209 : decode cX8_number 209 = .ok (.invokevirtual 113, 3) := by decide +kernel
theorem dX8_number_212 : decode cX8_number 212 = .ok (.lload 5, 2) := by decide +kernel
theorem dX8_number_214 : decode cX8_number 214 = .ok (.l2i, 1) := by decide +kernel
theorem dX8_number_215 : decode cX8_number 215 = .ok (.ireturn, 1) := by decide +kernel
theorem dX8_untilDate_0 : decode cX8_untilDate 0 = .ok (.aload_n 0, 1) := by decide +kernel
theorem dX8_untilDate_1 : decode cX8_untilDate 1 = .ok (.getfield 107, 3) := by decide +kernel
theorem dX8_untilDate_4 : decode cX8_untilDate 4 = .ok (.istore_n 1, 1) := by decide +kernel
theorem dX8_untilDate_5 : decode cX8_untilDate 5 = .ok (.aload_n 0, 1) := by decide +kernel
theorem dX8_untilDate_6 : decode cX8_untilDate 6 = .ok (.aload_n 0, 1) := by decide +kernel
theorem dX8_untilDate_7 : decode cX8_untilDate 7 = .ok (.aload_n 0, 1) := by decide +kernel
theorem dX8_untilDate_8 : decode cX8_untilDate 8 = .ok (.iconst 0, 1) := by decide +kernel
theorem dX8_untilDate_9 : decode cX8_untilDate 9 = .ok (.ldc 123, 2) := by decide +kernel
theorem dX8_untilDate_11 : decode cX8_untilDate 11 = .ok (.invokevirtual 124, 3) := by decide +kernel
theorem dX8_untilDate_14 : decode cX8_untilDate 14 = .ok (.invokevirtual 127, 3) := by decide +kernel
theorem dX8_untilDate_17 : decode cX8_untilDate 17 = .ok (.putfield 130, 3) := by decide +kernel
theorem dX8_untilDate_20 : decode cX8_untilDate 20 = .ok (.aload_n 0, 1) := by decide +kernel
theorem dX8_untilDate_21 : decode cX8_untilDate 21 = .ok (.getfield 130, 3) := by decide +kernel
theorem dX8_untilDate_24 : decode cX8_untilDate 24 = .ok (.ifCond .ge 9, 3) := by decide +kernel
theorem dX8_untilDate_27 : decode cX8_untilDate 27 = .ok (.aload_n 0, 1) := by decide +kernel
theorem dX8_untilDate_28 : decode cX8_untilDate 28 = .ok (.iconst 2, 1) := by decide +kernel
theorem dX8_untilDate_29 : decode cX8_untilDate 29 = .ok (.iload_n 1, 1) := by decide +kernel
theorem dX8_untilDate_30 : decode cX8_untilDate 30 = .ok (.invokevirtual 113, 3) := by decide +kernel
theorem dX8_untilDate_33 : decode cX8_untilDate 33 = .ok (.return_, 1) := by decide +kernel
theorem dX8_weekday_0 : decode cX8_weekday 0 = .ok (.bipush 100, 2) := by decide +kernel
theorem dX8_weekday_2 : decode cX8_weekday 2 = .ok (.iload_n 0, 1) := by decide +kernel
theorem dX8_weekday_3 : decode cX8_weekday 3 = .ok (.imul, 1) := by decide +kernel
theorem dX8_weekday_4 : decode cX8_weekday 4 = .ok (.iload_n 1, 1) := by decide +kernel
theorem dX8_weekday_5 : decode cX8_weekday 5 = .ok (.iadd, 1) := by decide +kernel
theorem dX8_weekday_6 : decode cX8_weekday 6 = .ok (.istore_n 2, 1) := by decide +kernel
theorem dX8_weekday_7 : decode cX8_weekday 7 = .ok (.iload_n 2, 1) := by decide +kernel
theorem dX8_weekday_8 : decode cX8_weekday 8 = .ok (.sipush 7779, 3) := by decide +kernel
theorem dX8_weekday_11 : decode cX8_weekday 11 = .ok (.if_icmp .ne 7, 3) := by decide +kernel
theorem dX8_weekday_14 : decode cX8_weekday 14 = .ok (.iconst 0, 1) := by decide +kernel
theorem dX8_weekday_15 : decode cX8_weekday 15 = .ok (.goto 71, 3) := by decide +kernel
theorem dX8_weekday_18 : decode cX8_weekday 18 = .ok (.iload_n 2, 1) := by decide +kernel
theorem dX8_weekday_19 : decode cX8_weekday 19 = .ok (.sipush 8485, 3) := by decide +kernel
theorem dX8_weekday_22 : decode cX8_weekday 22 = .ok (.if_icmp .ne 7, 3) := by decide +kernel
theorem dX8_weekday_25 : decode cX8_weekday 25 = .ok (.iconst 1, 1) := by decide +kernel
theorem dX8_weekday_26 : decode cX8_weekday 26 = .ok (.goto 60, 3) := by decide +kernel
theorem dX8_weekday_29 : decode cX8_weekday 29 = .ok (.iload_n 2, 1) := by decide +kernel
theorem dX8_weekday_30 : decode cX8_weekday 30 = .ok (.sipush 8769, 3) := by decide +kernel
theorem dX8_weekday_33 : decode cX8_weekday 33 = .ok (.if_icmp .ne 7, 3) := by decide +kernel
theorem dX8_weekday_36 : decode cX8_weekday 36 = .ok (.iconst 2, 1) := by decide +kernel
theorem dX8_weekday_37 : decode cX8_weekday 37 = .ok (.goto 49, 3) := by decide +kernel
theorem dX8_weekday_40 : decode cX8_weekday 40 = .ok (.iload_n 2, 1) := by decide +kernel
theorem dX8_weekday_41 : decode cX8_weekday 41 = .ok (.sipush 8472, 3) := by decide +kernel
theorem dX8_weekday_44 : decode cX8_weekday 44 = .ok (.if_icmp .ne 7, 3) := by decide +kernel
theorem dX8_weekday_47 : decode cX8_weekday 47 = .ok (.iconst 3, 1) := by decide +kernel
theorem dX8_weekday_48 : decode cX8_weekday 48 = .ok (.goto 38, 3) := by decide +kernel
theorem dX8_weekday_51 : decode cX8_weekday 51 = .ok (.iload_n 2, 1) := by decide +kernel
theorem dX8_weekday_52 : decode cX8_weekday 52 = .ok (.sipush 7082, 3) := by decide +kernel
theorem dX8_weekday_55 : decode cX8_weekday 55 = .ok (.if_icmp .ne 7, 3) := by decide +kernel
theorem dX8_weekday_58 : decode cX8_weekday 58 = .ok (.iconst 4, 1) := by decide +kernel
theorem dX8_weekday_59 : decode cX8_weekday 59 = .ok (.goto 27, 3) := by decide +kernel
theorem dX8_weekday_62 : decode cX8_weekday 62 = .ok (.iload_n 2, 1) := by decide +kernel
theorem dX8_weekday_63 : decode cX8_weekday 63 = .ok (.sipush 8365, 3) := by decide +kernel
theorem dX8_weekday_66 : decode cX8_weekday 66 = .ok (.if_icmp .ne 7, 3) := by decide +kernel
theorem dX8_weekday_69 : decode cX8_weekday 69 = .ok (.iconst 5, 1) := by decide +kernel
theorem dX8_weekday_70 : decode cX8_weekday 70 = .ok (.goto 16, 3) := by decide +kernel
theorem dX8_weekday_73 : decode cX8_weekday 73 = .ok (.iload_n 2, 1) := by decide +kernel
theorem dX8_weekday_74 : decode cX8_weekday 74 = .ok (.sipush 8385, 3) := by decide +kernel
theorem dX8_weekday_77 : decode cX8_weekday 77 = .ok (.if_icmp .ne 8, 3) := by decide +kernel
theorem dX8_weekday_80 : decode cX8_weekday 80 = .ok (.bipush 6, 2) := by decide +kernel
theorem dX8_weekday_82 : decode cX8_weekday 82 = .ok (.goto 4, 3) := by decide +kernel
theorem dX8_weekday_85 : decode cX8_weekday 85 = .ok (.iconst (-1), 1) := by decide +kernel
theorem dX8_weekday_86 : decode cX8_weekday 86 = .ok (.ireturn, 1) := by decide +kernel
theorem dX8_dayItem_0 : decode cX8_dayItem 0 = .ok (.iconst 0, 1) := by decide +kernel
theorem dX8_dayItem_1 : decode cX8_dayItem 1 = .ok (.istore_n 1, 1) := by decide +kernel
theorem dX8_dayItem_2 : decode cX8_dayItem 2 = .ok (.aload_n 0, 1) := by decide +kernel
theorem dX8_dayItem_3 : decode cX8_dayItem 3 = .ok (.aload_n 0, 1) := by decide +kernel
theorem dX8_dayItem_4 : decode cX8_dayItem 4 = .ok (.getfield 107, 3) := by decide +kernel
theorem dX8_dayItem_7 : decode cX8_dayItem 7 = .ok (.invokevirtual 89, 3) := by decide +kernel
theorem dX8_dayItem_10 : decode cX8_dayItem 10 = .ok (.istore_n 2, 1) := by decide +kernel
theorem dX8_dayItem_11 : decode cX8_dayItem 11 = .ok (.iload_n 2, 1) := by decide +kernel
theorem dX8_dayItem_12 : decode cX8_dayItem 12 = .ok (.bipush 43, 2) := by decide +kernel
theorem dX8_dayItem_14 : decode cX8_dayItem 14 = .ok (.if_icmp .eq 16, 3) := by decide +kernel
theorem dX8_dayItem_17 : decode cX8_dayItem 17 = .ok (.iload_n 2, 1) := by decide +kernel
theorem dX8_dayItem_18 : decode cX8_dayItem 18 = .ok (.bipush 45, 2) := by decide +kernel
theorem dX8_dayItem_20 : decode cX8_dayItem 20 = .ok (.if_icmp .eq 10, 3) := by decide +kernel
theorem dX8_dayItem_23 : decode cX8_dayItem 23 = .ok (.iload_n 2, 1) := by decide +kernel
theorem dX8_dayItem_24 : decode cX8_dayItem 24 = .ok (.invokestatic 110, 3) := by decide +kernel
theorem dX8_dayItem_27 : decode cX8_dayItem 27 = .ok (.ifCond .eq 17, 3) := by decide +kernel
theorem dX8_dayItem_30 : decode cX8_dayItem 30 = .ok (.aload_n 0, 1) := by decide +kernel
theorem dX8_dayItem_31 : decode cX8_dayItem 31 = .ok (.bipush (-53), 2) := by decide +kernel
theorem dX8_dayItem_33 : decode cX8_dayItem 33 = .ok (.bipush 53, 2) := by decide +kernel
theorem dX8_dayItem_35 : decode cX8_dayItem 35 = .ok (.invokevirtual 124, 3) := by decide +kernel
theorem dX8_dayItem_38 : decode cX8_dayItem 38 = .ok (.istore_n 1, 1) := by decide +kernel
theorem dX8_dayItem_39 : decode cX8_dayItem 39 = .ok (.aload_n 0, 1) := by decide +kernel
theorem dX8_dayItem_40 : decode cX8_dayItem 40 = .ok (.iconst 1, 1) := by decide +kernel
theorem dX8_dayItem_41 : decode cX8_dayItem 41 = .ok (.putfield 133, 3) := by decide +kernel
theorem dX8_dayItem_44 : decode cX8_dayItem 44 = .ok (.aload_n 0, 1) := by decide +kernel
theorem dX8_dayItem_45 : decode cX8_dayItem 45 = .ok (.getfield 107, 3) := by decide +kernel
theorem dX8_dayItem_48 : decode cX8_dayItem 48 = .ok (.istore_n 3, 1) := by decide +kernel
theorem dX8_dayItem_49 : decode cX8_dayItem 49 = .ok (.iconst 0, 1) := by decide +kernel
theorem dX8_dayItem_50 : decode cX8_dayItem 50 = .ok (.istore 4, 2) := by decide +kernel
theorem dX8_dayItem_52 : decode cX8_dayItem 52 = .ok (.iload 4, 2) := by decide +kernel
theorem dX8_dayItem_54 : decode cX8_dayItem 54 = .ok (.iconst 2, 1) := by decide +kernel
theorem dX8_dayItem_55 : decode cX8_dayItem 55 = .ok (.if_icmp .ge 49, 3) := by decide +kernel
theorem dX8_dayItem_58 : decode cX8_dayItem 58 = .ok (.aload_n 0, 1) := by decide +kernel
theorem dX8_dayItem_59 : decode cX8_dayItem 59 = .ok (.getfield 86, 3) := by decide +kernel
theorem dX8_dayItem_62 : decode cX8_dayItem 62 = .ok (.ifCond .ne 42, 3) := by decide +kernel
theorem dX8_dayItem_65 : decode cX8_dayItem 65 = .ok (.aload_n 0, 1) := by decide +kernel
theorem dX8_dayItem_66 : decode cX8_dayItem 66 = .ok (.aload_n 0, 1) := by decide +kernel
theorem dX8_dayItem_67 : decode cX8_dayItem 67 = .ok (.getfield 107, 3) := by decide +kernel
theorem dX8_dayItem_70 : decode cX8_dayItem 70 = .ok (.invokevirtual 89, 3) := by decide +kernel
theorem dX8_dayItem_73 : decode cX8_dayItem 73 = .ok (.invokestatic 92, 3) := by decide +kernel
theorem dX8_dayItem_76 : decode cX8_dayItem 76 = .ok (.ifCond .ne 12, 3) := by decide +kernel
theorem dX8_dayItem_79 : decode cX8_dayItem 79 = .ok (.aload_n 0, 1) := by decide +kernel
theorem dX8_dayItem_80 : decode cX8_dayItem 80 = .ok (.iconst 1, 1) := by decide +kernel
theorem dX8_dayItem_81 : decode cX8_dayItem 81 = .ok (.aload_n 0, 1) := by decide +kernel
theorem dX8_dayItem_82 : decode cX8_dayItem 82 = .ok (.getfield 107, 3) := by decide +kernel
theorem dX8_dayItem_85 : decode cX8_dayItem 85 = .ok (.invokevirtual 113, 3) := by decide +kernel
theorem dX8_dayItem_88 : decode cX8_dayItem 88 = .ok (.aload_n 0, 1) := by decide +kernel
theorem dX8_dayItem_89 : decode cX8_dayItem 89 = .ok (.dup, 1) := by decide +kernel
theorem dX8_dayItem_90 : decode cX8_dayItem 90 = .ok (.getfield 107, 3) := by decide +kernel
theorem dX8_dayItem_93 : decode cX8_dayItem 93 = .ok (.iconst 1, 1) := by decide +kernel
theorem dX8_dayItem_94 : decode cX8_dayItem 94 = .ok (.iadd, 1) := by decide +kernel
theorem dX8_dayItem_95 : decode cX8_dayItem 95 = .ok (.putfield 107, 3) := by decide +kernel
theorem dX8_dayItem_98 : decode cX8_dayItem 98 = .ok (.iinc 4 1, 3) := by decide +kernel
theorem dX8_dayItem_101 : decode cX8_dayItem 101 = .ok (.goto (-49), 3) := by decide +kernel
theorem dX8_dayItem_104 : decode cX8_dayItem 104 = .ok (.aload_n 0, 1) := by decide +kernel
theorem dX8_dayItem_105 : decode cX8_dayItem 105 = .ok (.getfield 86, 3) := by decide +kernel
theorem dX8_dayItem_108 : decode cX8_dayItem 108 = .ok (.ifCond .le 4, 3) := by decide +kernel
theorem dX8_dayItem_111 : decode cX8_dayItem 111 = .ok (.return_, 1) := by decide +kernel
theorem dX8_dayItem_112 : decode cX8_dayItem 112 = .ok (.aload_n 0, 1) := by decide +kernel
theorem dX8_dayItem_113 : decode cX8_dayItem 113 = .ok (.iload_n 3, 1) := by decide +kernel
theorem dX8_dayItem_114 : decode cX8_dayItem 114 = .ok (.invokevirtual 89, 3) := by decide +kernel
theorem dX8_dayItem_117 : decode cX8_dayItem 117 = .ok (.aload_n 0, 1) := by decide +kernel
theorem dX8_dayItem_118 : decode cX8_dayItem 118 = .ok (.iload_n 3, 1) := by decide +kernel
theorem dX8_dayItem_119 : decode cX8_dayItem 119 = .ok (.iconst 1, 1) := by decide +kernel
theorem dX8_dayItem_120 : decode cX8_dayItem 120 = .ok (.iadd, 1) := by decide +kernel
theorem dX8_dayItem_121 : decode cX8_dayItem 121 = .ok (.invokevirtual 89, 3) := by decide +kernel
theorem dX8_dayItem_124 : decode cX8_dayItem 124 = .ok (.invokestatic 137, 3) := by decide +kernel
theorem dX8_dayItem_127 : decode cX8_dayItem 127 = .ok (.istore 4, 2) := by decide +kernel
theorem dX8_dayItem_129 : decode cX8_dayItem 129 = .ok (.iload 4, 2) := by decide +kernel
theorem dX8_dayItem_131 : decode cX8_dayItem 131 = .ok (.ifCond .ge 12, 3) := by decide +kernel
theorem dX8_dayItem_134 : decode cX8_dayItem 134 = .ok (.aload_n 0, 1) := by decide +kernel
theorem dX8_dayItem_135 : decode cX8_dayItem 135 = .ok (.iconst 1, 1) := by decide +kernel
theorem dX8_dayItem_136 : decode cX8_dayItem 136 = .ok (.iload_n 3, 1) := by decide +kernel
theorem dX8_dayItem_137 : decode cX8_dayItem 137 = .ok (.invokevirtual 113, 3) := by decide +kernel
theorem dX8_dayItem_140 : decode cX8_dayItem 140 = .ok (.goto 19, 3) := by decide +kernel
theorem dX8_dayItem_143 : decode cX8_dayItem 143 = .ok (.aload_n 0, 1) := by decide +kernel
theorem dX8_dayItem_144 : decode cX8_dayItem 144 = .ok (.getfield 37, 3) := by decide +kernel
theorem dX8_dayItem_147 : decode cX8_dayItem 147 = .ok (.bipush 107, 2) := by decide +kernel
theorem dX8_dayItem_149 : decode cX8_dayItem 149 = .ok (.iload 4, 2) := by decide +kernel
theorem dX8_dayItem_151 : decode cX8_dayItem 151 = .ok (.imul, 1) := by decide +kernel
theorem dX8_dayItem_152 : decode cX8_dayItem 152 = .ok (.bipush 53, 2) := by decide +kernel
theorem dX8_dayItem_154 : decode cX8_dayItem 154 = .ok (.iadd, 1) := by decide +kernel
theorem dX8_dayItem_155 : decode cX8_dayItem 155 = .ok (.iload_n 1, 1) := by decide +kernel
theorem dX8_dayItem_156 : decode cX8_dayItem 156 = .ok (.iadd, 1) := by decide +kernel
theorem dX8_dayItem_157 : decode cX8_dayItem 157 = .ok (.iconst 1, 1) := by decide +kernel
theorem dX8_dayItem_158 : decode cX8_dayItem 158 = .ok (.bastore, 1) := by decide +kernel
theorem dX8_dayItem_159 : decode cX8_dayItem 159 = .ok (.return_, 1) := by decide +kernel
theorem dX8_oneItem_0 : decode cX8_oneItem 0 = .ok (.iload_n 1, 1) := by decide +kernel
theorem dX8_oneItem_1 : decode cX8_oneItem 1 = .ok (.iconst 4, 1) := by decide +kernel
theorem dX8_oneItem_2 : decode cX8_oneItem 2 = .ok (.if_icmp .ne 28, 3) := by decide +kernel
theorem dX8_oneItem_5 : decode cX8_oneItem 5 = .ok (.aload_n 0, 1) := by decide +kernel
theorem dX8_oneItem_6 : decode cX8_oneItem 6 = .ok (.iconst 1, 1) := by decide +kernel
theorem dX8_oneItem_7 : decode cX8_oneItem 7 = .ok (.bipush 12, 2) := by decide +kernel
theorem dX8_oneItem_9 : decode cX8_oneItem 9 = .ok (.invokevirtual 124, 3) := by decide +kernel
theorem dX8_oneItem_12 : decode cX8_oneItem 12 = .ok (.istore_n 2, 1) := by decide +kernel
theorem dX8_oneItem_13 : decode cX8_oneItem 13 = .ok (.aload_n 0, 1) := by decide +kernel
theorem dX8_oneItem_14 : decode cX8_oneItem 14 = .ok (.getfield 86, 3) := by decide +kernel
theorem dX8_oneItem_17 : decode cX8_oneItem 17 = .ok (.ifCond .ne 10, 3) := by decide +kernel
theorem dX8_oneItem_20 : decode cX8_oneItem 20 = .ok (.aload_n 0, 1) := by decide +kernel
theorem dX8_oneItem_21 : decode cX8_oneItem 21 = .ok (.getfield 28, 3) := by decide +kernel
theorem dX8_oneItem_24 : decode cX8_oneItem 24 = .ok (.iload_n 2, 1) := by decide +kernel
theorem dX8_oneItem_25 : decode cX8_oneItem 25 = .ok (.iconst 1, 1) := by decide +kernel
theorem dX8_oneItem_26 : decode cX8_oneItem 26 = .ok (.bastore, 1) := by decide +kernel
theorem dX8_oneItem_27 : decode cX8_oneItem 27 = .ok (.goto 79, 3) := by decide +kernel
theorem dX8_oneItem_30 : decode cX8_oneItem 30 = .ok (.iload_n 1, 1) := by decide +kernel
theorem dX8_oneItem_31 : decode cX8_oneItem 31 = .ok (.iconst 5, 1) := by decide +kernel
theorem dX8_oneItem_32 : decode cX8_oneItem 32 = .ok (.if_icmp .ne 32, 3) := by decide +kernel
theorem dX8_oneItem_35 : decode cX8_oneItem 35 = .ok (.aload_n 0, 1) := by decide +kernel
theorem dX8_oneItem_36 : decode cX8_oneItem 36 = .ok (.bipush (-31), 2) := by decide +kernel
theorem dX8_oneItem_38 : decode cX8_oneItem 38 = .ok (.bipush 31, 2) := by decide +kernel
theorem dX8_oneItem_40 : decode cX8_oneItem 40 = .ok (.invokevirtual 124, 3) := by decide +kernel
theorem dX8_oneItem_43 : decode cX8_oneItem 43 = .ok (.istore_n 2, 1) := by decide +kernel
theorem dX8_oneItem_44 : decode cX8_oneItem 44 = .ok (.aload_n 0, 1) := by decide +kernel
theorem dX8_oneItem_45 : decode cX8_oneItem 45 = .ok (.getfield 86, 3) := by decide +kernel
theorem dX8_oneItem_48 : decode cX8_oneItem 48 = .ok (.ifCond .ne 13, 3) := by decide +kernel
theorem dX8_oneItem_51 : decode cX8_oneItem 51 = .ok (.aload_n 0, 1) := by decide +kernel
theorem dX8_oneItem_52 : decode cX8_oneItem 52 = .ok (.getfield 31, 3) := by decide +kernel
theorem dX8_oneItem_55 : decode cX8_oneItem 55 = .ok (.bipush 31, 2) := by decide +kernel
theorem dX8_oneItem_57 : decode cX8_oneItem 57 = .ok (.iload_n 2, 1) := by decide +kernel
theorem dX8_oneItem_58 : decode cX8_oneItem 58 = .ok (.iadd, 1) := by decide +kernel
theorem dX8_oneItem_59 : decode cX8_oneItem 59 = .ok (.iconst 1, 1) := by decide +kernel
theorem dX8_oneItem_60 : decode cX8_oneItem 60 = .ok (.bastore, 1) := by decide +kernel
theorem dX8_oneItem_61 : decode cX8_oneItem 61 = .ok (.goto 45, 3) := by decide +kernel
theorem dX8_oneItem_64 : decode cX8_oneItem 64 = .ok (.iload_n 1, 1) := by decide +kernel
theorem dX8_oneItem_65 : decode cX8_oneItem 65 = .ok (.bipush 6, 2) := by decide +kernel
theorem dX8_oneItem_67 : decode cX8_oneItem 67 = .ok (.if_icmp .ne 35, 3) := by decide +kernel
theorem dX8_oneItem_70 : decode cX8_oneItem 70 = .ok (.aload_n 0, 1) := by decide +kernel
theorem dX8_oneItem_71 : decode cX8_oneItem 71 = .ok (.sipush (-366), 3) := by decide +kernel
theorem dX8_oneItem_74 : decode cX8_oneItem 74 = .ok (.sipush 366, 3) := by decide +kernel
theorem dX8_oneItem_77 : decode cX8_oneItem 77 = .ok (.invokevirtual 124, 3) := by decide +kernel
theorem dX8_oneItem_80 : decode cX8_oneItem 80 = .ok (.istore_n 2, 1) := by decide +kernel
theorem dX8_oneItem_81 : decode cX8_oneItem 81 = .ok (.aload_n 0, 1) := by decide +kernel
theorem dX8_oneItem_82 : decode cX8_oneItem 82 = .ok (.getfield 86, 3) := by decide +kernel
theorem dX8_oneItem_85 : decode cX8_oneItem 85 = .ok (.ifCond .ne 14, 3) := by decide +kernel
theorem dX8_oneItem_88 : decode cX8_oneItem 88 = .ok (.aload_n 0, 1) := by decide +kernel
theorem dX8_oneItem_89 : decode cX8_oneItem 89 = .ok (.getfield 34, 3) := by decide +kernel
theorem dX8_oneItem_92 : decode cX8_oneItem 92 = .ok (.sipush 366, 3) := by decide +kernel
theorem dX8_oneItem_95 : decode cX8_oneItem 95 = .ok (.iload_n 2, 1) := by decide +kernel
theorem dX8_oneItem_96 : decode cX8_oneItem 96 = .ok (.iadd, 1) := by decide +kernel
theorem dX8_oneItem_97 : decode cX8_oneItem 97 = .ok (.iconst 1, 1) := by decide +kernel
theorem dX8_oneItem_98 : decode cX8_oneItem 98 = .ok (.bastore, 1) := by decide +kernel
theorem dX8_oneItem_99 : decode cX8_oneItem 99 = .ok (.goto 7, 3) := by decide +kernel
theorem dX8_oneItem_102 : decode cX8_oneItem 102 = .ok (.aload_n 0, 1) := by decide +kernel
theorem dX8_oneItem_103 : decode cX8_oneItem 103 = .ok (.invokevirtual 140, 3) := by decide +kernel
theorem dX8_oneItem_106 : decode cX8_oneItem 106 = .ok (.return_, 1) := by decide +kernel
theorem dX8_value_0 : decode cX8_value 0 = .ok (.iload_n 1, 1) := by decide +kernel
theorem dX8_value_1 : decode cX8_value 1 = .ok (.ifCond .ne 57, 3) := by decide +kernel
theorem dX8_value_4 : decode cX8_value 4 = .ok (.aload_n 0, 1) := by decide +kernel
theorem dX8_value_5 : decode cX8_value 5 = .ok (.aload_n 0, 1) := by decide +kernel
theorem dX8_value_6 : decode cX8_value 6 = .ok (.getfield 107, 3) := by decide +kernel
theorem dX8_value_9 : decode cX8_value 9 = .ok (.invokevirtual 143, 3) := by decide +kernel
theorem dX8_value_12 : decode cX8_value 12 = .ok (.istore_n 2, 1) := by decide +kernel
theorem dX8_value_13 : decode cX8_value 13 = .ok (.aload_n 0, 1) := by decide +kernel
theorem dX8_value_14 : decode cX8_value 14 = .ok (.aload_n 0, 1) := by decide +kernel
theorem dX8_value_15 : decode cX8_value 15 = .ok (.aload_n 0, 1) := by decide +kernel
theorem dX8_value_16 : decode cX8_value 16 = .ok (.getfield 107, 3) := by decide +kernel
theorem dX8_value_19 : decode cX8_value 19 = .ok (.invokevirtual 146, 3) := by decide +kernel
theorem dX8_value_22 : decode cX8_value 22 = .ok (.iload_n 2, 1) := by decide +kernel
theorem dX8_value_23 : decode cX8_value 23 = .ok (.invokestatic 150, 3) := by decide +kernel
theorem dX8_value_26 : decode cX8_value 26 = .ok (.putfield 71, 3) := by decide +kernel
theorem dX8_value_29 : decode cX8_value 29 = .ok (.aload_n 0, 1) := by decide +kernel
theorem dX8_value_30 : decode cX8_value 30 = .ok (.getfield 71, 3) := by decide +kernel
theorem dX8_value_33 : decode cX8_value 33 = .ok (.ifCond .ge 12, 3) := by decide +kernel
theorem dX8_value_36 : decode cX8_value 36 = .ok (.aload_n 0, 1) := by decide +kernel
theorem dX8_value_37 : decode cX8_value 37 = .ok (.iconst 1, 1) := by decide +kernel
theorem dX8_value_38 : decode cX8_value 38 = .ok (.aload_n 0, 1) := by decide +kernel
theorem dX8_value_39 : decode cX8_value 39 = .ok (.getfield 107, 3) := by decide +kernel
theorem dX8_value_42 : decode cX8_value 42 = .ok (.invokevirtual 113, 3) := by decide +kernel
theorem dX8_value_45 : decode cX8_value 45 = .ok (.aload_n 0, 1) := by decide +kernel
theorem dX8_value_46 : decode cX8_value 46 = .ok (.aload_n 0, 1) := by decide +kernel
theorem dX8_value_47 : decode cX8_value 47 = .ok (.getfield 107, 3) := by decide +kernel
theorem dX8_value_50 : decode cX8_value 50 = .ok (.iload_n 2, 1) := by decide +kernel
theorem dX8_value_51 : decode cX8_value 51 = .ok (.iadd, 1) := by decide +kernel
theorem dX8_value_52 : decode cX8_value 52 = .ok (.putfield 107, 3) := by decide +kernel
theorem dX8_value_55 : decode cX8_value 55 = .ok (.goto 98, 3) := by decide +kernel
theorem dX8_value_58 : decode cX8_value 58 = .ok (.iload_n 1, 1) := by decide +kernel
theorem dX8_value_59 : decode cX8_value 59 = .ok (.iconst 1, 1) := by decide +kernel
theorem dX8_value_60 : decode cX8_value 60 = .ok (.if_icmp .ne 18, 3) := by decide +kernel
theorem dX8_value_63 : decode cX8_value 63 = .ok (.aload_n 0, 1) := by decide +kernel
theorem dX8_value_64 : decode cX8_value 64 = .ok (.aload_n 0, 1) := by decide +kernel
theorem dX8_value_65 : decode cX8_value 65 = .ok (.iconst 1, 1) := by decide +kernel
theorem dX8_value_66 : decode cX8_value 66 = .ok (.sipush 400, 3) := by decide +kernel
theorem dX8_value_69 : decode cX8_value 69 = .ok (.invokevirtual 124, 3) := by decide +kernel
theorem dX8_value_72 : decode cX8_value 72 = .ok (.putfield 154, 3) := by decide +kernel
theorem dX8_value_75 : decode cX8_value 75 = .ok (.goto 78, 3) := by decide +kernel
theorem dX8_value_78 : decode cX8_value 78 = .ok (.iload_n 1, 1) := by decide +kernel
theorem dX8_value_79 : decode cX8_value 79 = .ok (.iconst 2, 1) := by decide +kernel
theorem dX8_value_80 : decode cX8_value 80 = .ok (.if_icmp .ne 18, 3) := by decide +kernel
theorem dX8_value_83 : decode cX8_value 83 = .ok (.aload_n 0, 1) := by decide +kernel
theorem dX8_value_84 : decode cX8_value 84 = .ok (.aload_n 0, 1) := by decide +kernel
theorem dX8_value_85 : decode cX8_value 85 = .ok (.iconst 1, 1) := by decide +kernel
theorem dX8_value_86 : decode cX8_value 86 = .ok (.sipush 999, 3) := by decide +kernel
theorem dX8_value_89 : decode cX8_value 89 = .ok (.invokevirtual 124, 3) := by decide +kernel
theorem dX8_value_92 : decode cX8_value 92 = .ok (.putfield 157, 3) := by decide +kernel
theorem dX8_value_95 : decode cX8_value 95 = .ok (.goto 58, 3) := by decide +kernel
theorem dX8_value_98 : decode cX8_value 98 = .ok (.iload_n 1, 1) := by decide +kernel
theorem dX8_value_99 : decode cX8_value 99 = .ok (.iconst 3, 1) := by decide +kernel
theorem dX8_value_100 : decode cX8_value 100 = .ok (.if_icmp .ne 10, 3) := by decide +kernel
theorem dX8_value_103 : decode cX8_value 103 = .ok (.aload_n 0, 1) := by decide +kernel
theorem dX8_value_104 : decode cX8_value 104 = .ok (.invokevirtual 160, 3) := by decide +kernel
theorem dX8_value_107 : decode cX8_value 107 = .ok (.goto 46, 3) := by decide +kernel
theorem dX8_value_110 : decode cX8_value 110 = .ok (.aload_n 0, 1) := by decide +kernel
theorem dX8_value_111 : decode cX8_value 111 = .ok (.iload_n 1, 1) := by decide +kernel
theorem dX8_value_112 : decode cX8_value 112 = .ok (.invokevirtual 163, 3) := by decide +kernel
theorem dX8_value_115 : decode cX8_value 115 = .ok (.aload_n 0, 1) := by decide +kernel
theorem dX8_value_116 : decode cX8_value 116 = .ok (.getfield 86, 3) := by decide +kernel
theorem dX8_value_119 : decode cX8_value 119 = .ok (.ifCond .ne 34, 3) := by decide +kernel
theorem dX8_value_122 : decode cX8_value 122 = .ok (.aload_n 0, 1) := by decide +kernel
theorem dX8_value_123 : decode cX8_value 123 = .ok (.aload_n 0, 1) := by decide +kernel
theorem dX8_value_124 : decode cX8_value 124 = .ok (.getfield 107, 3) := by decide +kernel
theorem dX8_value_127 : decode cX8_value 127 = .ok (.invokevirtual 89, 3) := by decide +kernel
theorem dX8_value_130 : decode cX8_value 130 = .ok (.bipush 44, 2) := by decide +kernel
theorem dX8_value_132 : decode cX8_value 132 = .ok (.if_icmp .ne 21, 3) := by decide +kernel
theorem dX8_value_135 : decode cX8_value 135 = .ok (.aload_n 0, 1) := by decide +kernel
theorem dX8_value_136 : decode cX8_value 136 = .ok (.dup, 1) := by decide +kernel
theorem dX8_value_137 : decode cX8_value 137 = .ok (.getfield 107, 3) := by decide +kernel
theorem dX8_value_140 : decode cX8_value 140 = .ok (.iconst 1, 1) := by decide +kernel
theorem dX8_value_141 : decode cX8_value 141 = .ok (.iadd, 1) := by decide +kernel
theorem dX8_value_142 : decode cX8_value 142 = .ok (.putfield 107, 3) := by decide +kernel
theorem dX8_value_145 : decode cX8_value 145 = .ok (.aload_n 0, 1) := by decide +kernel
theorem dX8_value_146 : decode cX8_value 146 = .ok (.iload_n 1, 1) := by decide +kernel
theorem dX8_value_147 : decode cX8_value 147 = .ok (.invokevirtual 163, 3) := by decide +kernel
theorem dX8_value_150 : decode cX8_value 150 = .ok (.goto (-35), 3) := by decide +kernel
theorem dX8_value_153 : decode cX8_value 153 = .ok (.return_, 1) := by decide +kernel
theorem dX8_part_0 : decode cX8_part 0 = .ok (.aload_n 0, 1) := by decide +kernel
theorem dX8_part_1 : decode cX8_part 1 = .ok (.aload_n 0, 1) := by decide +kernel
theorem dX8_part_2 : decode cX8_part 2 = .ok (.getfield 107, 3) := by decide +kernel
theorem dX8_part_5 : decode cX8_part 5 = .ok (.invokevirtual 143, 3) := by decide +kernel
theorem dX8_part_8 : decode cX8_part 8 = .ok (.istore_n 1, 1) := by decide +kernel
theorem dX8_part_9 : decode cX8_part 9 = .ok (.aload_n 0, 1) := by decide +kernel
theorem dX8_part_10 : decode cX8_part 10 = .ok (.aload_n 0, 1) := by decide +kernel
theorem dX8_part_11 : decode cX8_part 11 = .ok (.getfield 107, 3) := by decide +kernel
theorem dX8_part_14 : decode cX8_part 14 = .ok (.invokevirtual 146, 3) := by decide +kernel
theorem dX8_part_17 : decode cX8_part 17 = .ok (.iload_n 1, 1) := by decide +kernel
theorem dX8_part_18 : decode cX8_part 18 = .ok (.invokestatic 167, 3) := by decide +kernel
theorem dX8_part_21 : decode cX8_part 21 = .ok (.istore_n 2, 1) := by decide +kernel
theorem dX8_part_22 : decode cX8_part 22 = .ok (.iload_n 2, 1) := by decide +kernel
theorem dX8_part_23 : decode cX8_part 23 = .ok (.ifCond .ge 13, 3) := by decide +kernel
theorem dX8_part_26 : decode cX8_part 26 = .ok (.aload_n 0, 1) := by decide +kernel
theorem dX8_part_27 : decode cX8_part 27 = .ok (.iconst 1, 1) := by decide +kernel
theorem dX8_part_28 : decode cX8_part 28 = .ok (.aload_n 0, 1) := by decide +kernel
theorem dX8_part_29 : decode cX8_part 29 = .ok (.getfield 107, 3) := by decide +kernel
theorem dX8_part_32 : decode cX8_part 32 = .ok (.invokevirtual 113, 3) := by decide +kernel
theorem dX8_part_35 : decode cX8_part 35 = .ok (.return_, 1) := by decide +kernel
theorem dX8_part_36 : decode cX8_part 36 = .ok (.aload_n 0, 1) := by decide +kernel
theorem dX8_part_37 : decode cX8_part 37 = .ok (.getfield 24, 3) := by decide +kernel
theorem dX8_part_40 : decode cX8_part 40 = .ok (.iload_n 2, 1) := by decide +kernel
theorem dX8_part_41 : decode cX8_part 41 = .ok (.baload, 1) := by decide +kernel
theorem dX8_part_42 : decode cX8_part 42 = .ok (.ifCond .eq 13, 3) := by decide +kernel
theorem dX8_part_45 : decode cX8_part 45 = .ok (.aload_n 0, 1) := by decide +kernel
theorem dX8_part_46 : decode cX8_part 46 = .ok (.iconst 3, 1) := by decide +kernel
theorem dX8_part_47 : decode cX8_part 47 = .ok (.aload_n 0, 1) := by decide +kernel
theorem dX8_part_48 : decode cX8_part 48 = .ok (.getfield 107, 3) := by decide +kernel
theorem dX8_part_51 : decode cX8_part 51 = .ok (.invokevirtual 113, 3) := by decide +kernel
theorem dX8_part_54 : decode cX8_part 54 = .ok (.return_, 1) := by decide +kernel
theorem dX8_part_55 : decode cX8_part 55 = .ok (.aload_n 0, 1) := by decide +kernel
theorem dX8_part_56 : decode cX8_part 56 = .ok (.getfield 24, 3) := by decide +kernel
theorem dX8_part_59 : decode cX8_part 59 = .ok (.iload_n 2, 1) := by decide +kernel
theorem dX8_part_60 : decode cX8_part 60 = .ok (.iconst 1, 1) := by decide +kernel
theorem dX8_part_61 : decode cX8_part 61 = .ok (.bastore, 1) := by decide +kernel
theorem dX8_part_62 : decode cX8_part 62 = .ok (.aload_n 0, 1) := by decide +kernel
theorem dX8_part_63 : decode cX8_part 63 = .ok (.aload_n 0, 1) := by decide +kernel
theorem dX8_part_64 : decode cX8_part 64 = .ok (.getfield 107, 3) := by decide +kernel
theorem dX8_part_67 : decode cX8_part 67 = .ok (.iload_n 1, 1) := by decide +kernel
theorem dX8_part_68 : decode cX8_part 68 = .ok (.iadd, 1) := by decide +kernel
theorem dX8_part_69 : decode cX8_part 69 = .ok (.putfield 107, 3) := by decide +kernel
theorem dX8_part_72 : decode cX8_part 72 = .ok (.aload_n 0, 1) := by decide +kernel
theorem dX8_part_73 : decode cX8_part 73 = .ok (.aload_n 0, 1) := by decide +kernel
theorem dX8_part_74 : decode cX8_part 74 = .ok (.getfield 107, 3) := by decide +kernel
theorem dX8_part_77 : decode cX8_part 77 = .ok (.invokevirtual 89, 3) := by decide +kernel
theorem dX8_part_80 : decode cX8_part 80 = .ok (.bipush 61, 2) := by decide +kernel
theorem dX8_part_82 : decode cX8_part 82 = .ok (.if_icmp .eq 13, 3) := by decide +kernel
theorem dX8_part_85 : decode cX8_part 85 = .ok (.aload_n 0, 1) := by decide +kernel
theorem dX8_part_86 : decode cX8_part 86 = .ok (.iconst 1, 1) := by decide +kernel
theorem dX8_part_87 : decode cX8_part 87 = .ok (.aload_n 0, 1) := by decide +kernel
theorem dX8_part_88 : decode cX8_part 88 = .ok (.getfield 107, 3) := by decide +kernel
theorem dX8_part_91 : decode cX8_part 91 = .ok (.invokevirtual 113, 3) := by decide +kernel
theorem dX8_part_94 : decode cX8_part 94 = .ok (.return_, 1) := by decide +kernel
theorem dX8_part_95 : decode cX8_part 95 = .ok (.aload_n 0, 1) := by decide +kernel
theorem dX8_part_96 : decode cX8_part 96 = .ok (.dup, 1) := by decide +kernel
theorem dX8_part_97 : decode cX8_part 97 = .ok (.getfield 107, 3) := by decide +kernel
theorem dX8_part_100 : decode cX8_part 100 = .ok (.iconst 1, 1) := by decide +kernel
theorem dX8_part_101 : decode cX8_part 101 = .ok (.iadd, 1) := by decide +kernel
theorem dX8_part_102 : decode cX8_part 102 = .ok (.putfield 107, 3) := by decide +kernel
theorem dX8_part_105 : decode cX8_part 105 = .ok (.aload_n 0, 1) := by decide +kernel
theorem dX8_part_106 : decode cX8_part 106 = .ok (.iload_n 2, 1) := by decide +kernel
theorem dX8_part_107 : decode cX8_part 107 = .ok (.invokevirtual 170, 3) := by decide +kernel
theorem dX8_part_110 : decode cX8_part 110 = .ok (.return_, 1) := by decide +kernel
theorem dX8_forget_0 : decode cX8_forget 0 = .ok (.aload_n 0, 1) := by decide +kernel
theorem dX8_forget_1 : decode cX8_forget 1 = .ok (.iconst 0, 1) := by decide +kernel
theorem dX8_forget_2 : decode cX8_forget 2 = .ok (.putfield 86, 3) := by decide +kernel
theorem dX8_forget_5 : decode cX8_forget 5 = .ok (.aload_n 0, 1) := by decide +kernel
theorem dX8_forget_6 : decode cX8_forget 6 = .ok (.iconst (-1), 1) := by decide +kernel
theorem dX8_forget_7 : decode cX8_forget 7 = .ok (.putfield 20, 3) := by decide +kernel
theorem dX8_forget_10 : decode cX8_forget 10 = .ok (.aload_n 0, 1) := by decide +kernel
theorem dX8_forget_11 : decode cX8_forget 11 = .ok (.iconst 0, 1) := by decide +kernel
theorem dX8_forget_12 : decode cX8_forget 12 = .ok (.putfield 107, 3) := by decide +kernel
theorem dX8_forget_15 : decode cX8_forget 15 = .ok (.aload_n 0, 1) := by decide +kernel
theorem dX8_forget_16 : decode cX8_forget 16 = .ok (.iconst (-1), 1) := by decide +kernel
theorem dX8_forget_17 : decode cX8_forget 17 = .ok (.putfield 71, 3) := by decide +kernel
theorem dX8_forget_20 : decode cX8_forget 20 = .ok (.aload_n 0, 1) := by decide +kernel
theorem dX8_forget_21 : decode cX8_forget 21 = .ok (.iconst 1, 1) := by decide +kernel
theorem dX8_forget_22 : decode cX8_forget 22 = .ok (.putfield 154, 3) := by decide +kernel
theorem dX8_forget_25 : decode cX8_forget 25 = .ok (.aload_n 0, 1) := by decide +kernel
theorem dX8_forget_26 : decode cX8_forget 26 = .ok (.ldc 173, 2) := by decide +kernel
theorem dX8_forget_28 : decode cX8_forget 28 = .ok (.putfield 157, 3) := by decide +kernel
theorem dX8_forget_31 : decode cX8_forget 31 = .ok (.aload_n 0, 1) := by decide +kernel
theorem dX8_forget_32 : decode cX8_forget 32 = .ok (.ldc 7, 2) := by decide +kernel
theorem dX8_forget_34 : decode cX8_forget 34 = .ok (.putfield 130, 3) := by decide +kernel
theorem dX8_forget_37 : decode cX8_forget 37 = .ok (.aload_n 0, 1) := by decide +kernel
theorem dX8_forget_38 : decode cX8_forget 38 = .ok (.iconst 0, 1) := by decide +kernel
theorem dX8_forget_39 : decode cX8_forget 39 = .ok (.putfield 133, 3) := by decide +kernel
theorem dX8_forget_42 : decode cX8_forget 42 = .ok (.iconst 0, 1) := by decide +kernel
theorem dX8_forget_43 : decode cX8_forget 43 = .ok (.istore_n 1, 1) := by decide +kernel
theorem dX8_forget_44 : decode cX8_forget 44 = .ok (.iload_n 1, 1) := by decide +kernel
theorem dX8_forget_45 : decode cX8_forget 45 = .ok (.sipush 749, 3) := by decide +kernel
theorem dX8_forget_48 : decode cX8_forget 48 = .ok (.if_icmp .ge 16, 3) := by decide +kernel
theorem dX8_forget_51 : decode cX8_forget 51 = .ok (.aload_n 0, 1) := by decide +kernel
theorem dX8_forget_52 : decode cX8_forget 52 = .ok (.getfield 37, 3) := by decide +kernel
theorem dX8_forget_55 : decode cX8_forget 55 = .ok (.iload_n 1, 1) := by decide +kernel
theorem dX8_forget_56 : decode cX8_forget 56 = .ok (.iconst 0, 1) := by decide +kernel
theorem dX8_forget_57 : decode cX8_forget 57 = .ok (.bastore, 1) := by decide +kernel
theorem dX8_forget_58 : decode cX8_forget 58 = .ok (.iinc 1 1, 3) := by decide +kernel
theorem dX8_forget_61 : decode cX8_forget 61 = .ok (.goto (-17), 3) := by decide +kernel
theorem dX8_forget_64 : decode cX8_forget 64 = .ok (.iconst 0, 1) := by decide +kernel
theorem dX8_forget_65 : decode cX8_forget 65 = .ok (.istore_n 1, 1) := by decide +kernel
theorem dX8_forget_66 : decode cX8_forget 66 = .ok (.iload_n 1, 1) := by decide +kernel
theorem dX8_forget_67 : decode cX8_forget 67 = .ok (.sipush 733, 3) := by decide +kernel
theorem dX8_forget_70 : decode cX8_forget 70 = .ok (.if_icmp .ge 16, 3) := by decide +kernel
theorem dX8_forget_73 : decode cX8_forget 73 = .ok (.aload_n 0, 1) := by decide +kernel
theorem dX8_forget_74 : decode cX8_forget 74 = .ok (.getfield 34, 3) := by decide +kernel
theorem dX8_forget_77 : decode cX8_forget 77 = .ok (.iload_n 1, 1) := by decide +kernel
theorem dX8_forget_78 : decode cX8_forget 78 = .ok (.iconst 0, 1) := by decide +kernel
theorem dX8_forget_79 : decode cX8_forget 79 = .ok (.bastore, 1) := by decide +kernel
theorem dX8_forget_80 : decode cX8_forget 80 = .ok (.iinc 1 1, 3) := by decide +kernel
theorem dX8_forget_83 : decode cX8_forget 83 = .ok (.goto (-17), 3) := by decide +kernel
theorem dX8_forget_86 : decode cX8_forget 86 = .ok (.iconst 0, 1) := by decide +kernel
theorem dX8_forget_87 : decode cX8_forget 87 = .ok (.istore_n 1, 1) := by decide +kernel
theorem dX8_forget_88 : decode cX8_forget 88 = .ok (.iload_n 1, 1) := by decide +kernel
theorem dX8_forget_89 : decode cX8_forget 89 = .ok (.bipush 63, 2) := by decide +kernel
theorem dX8_forget_91 : decode cX8_forget 91 = .ok (.if_icmp .ge 16, 3) := by decide +kernel
theorem dX8_forget_94 : decode cX8_forget 94 = .ok (.aload_n 0, 1) := by decide +kernel
theorem dX8_forget_95 : decode cX8_forget 95 = .ok (.getfield 31, 3) := by decide +kernel
theorem dX8_forget_98 : decode cX8_forget 98 = .ok (.iload_n 1, 1) := by decide +kernel
theorem dX8_forget_99 : decode cX8_forget 99 = .ok (.iconst 0, 1) := by decide +kernel
theorem dX8_forget_100 : decode cX8_forget 100 = .ok (.bastore, 1) := by decide +kernel
theorem dX8_forget_101 : decode cX8_forget 101 = .ok (.iinc 1 1, 3) := by decide +kernel
theorem dX8_forget_104 : decode cX8_forget 104 = .ok (.goto (-16), 3) := by decide +kernel
theorem dX8_forget_107 : decode cX8_forget 107 = .ok (.iconst 0, 1) := by decide +kernel
theorem dX8_forget_108 : decode cX8_forget 108 = .ok (.istore_n 1, 1) := by decide +kernel
theorem dX8_forget_109 : decode cX8_forget 109 = .ok (.iload_n 1, 1) := by decide +kernel
theorem dX8_forget_110 : decode cX8_forget 110 = .ok (.bipush 13, 2) := by decide +kernel
theorem dX8_forget_112 : decode cX8_forget 112 = .ok (.if_icmp .ge 16, 3) := by decide +kernel
theorem dX8_forget_115 : decode cX8_forget 115 = .ok (.aload_n 0, 1) := by decide +kernel
theorem dX8_forget_116 : decode cX8_forget 116 = .ok (.getfield 28, 3) := by decide +kernel
theorem dX8_forget_119 : decode cX8_forget 119 = .ok (.iload_n 1, 1) := by decide +kernel
theorem dX8_forget_120 : decode cX8_forget 120 = .ok (.iconst 0, 1) := by decide +kernel
theorem dX8_forget_121 : decode cX8_forget 121 = .ok (.bastore, 1) := by decide +kernel
theorem dX8_forget_122 : decode cX8_forget 122 = .ok (.iinc 1 1, 3) := by decide +kernel
theorem dX8_forget_125 : decode cX8_forget 125 = .ok (.goto (-16), 3) := by decide +kernel
theorem dX8_forget_128 : decode cX8_forget 128 = .ok (.iconst 0, 1) := by decide +kernel
theorem dX8_forget_129 : decode cX8_forget 129 = .ok (.istore_n 1, 1) := by decide +kernel
theorem dX8_forget_130 : decode cX8_forget 130 = .ok (.iload_n 1, 1) := by decide +kernel
theorem dX8_forget_131 : decode cX8_forget 131 = .ok (.bipush 8, 2) := by decide +kernel
theorem dX8_forget_133 : decode cX8_forget 133 = .ok (.if_icmp .ge 16, 3) := by decide +kernel
theorem dX8_forget_136 : decode cX8_forget 136 = .ok (.aload_n 0, 1) := by decide +kernel
theorem dX8_forget_137 : decode cX8_forget 137 = .ok (.getfield 24, 3) := by decide +kernel
theorem dX8_forget_140 : decode cX8_forget 140 = .ok (.iload_n 1, 1) := by decide +kernel
theorem dX8_forget_141 : decode cX8_forget 141 = .ok (.iconst 0, 1) := by decide +kernel
theorem dX8_forget_142 : decode cX8_forget 142 = .ok (.bastore, 1) := by decide +kernel
theorem dX8_forget_143 : decode cX8_forget 143 = .ok (.iinc 1 1, 3) := by decide +kernel
theorem dX8_forget_146 : decode cX8_forget 146 = .ok (.goto (-16), 3) := by decide +kernel
theorem dX8_forget_149 : decode cX8_forget 149 = .ok (.return_, 1) := by decide +kernel
theorem dX8_readRule_0 : decode cX8_readRule 0 = .ok (.aload_n 0, 1) := by decide +kernel
theorem dX8_readRule_1 : decode cX8_readRule 1 = .ok (.invokevirtual 174, 3) := by decide +kernel
theorem dX8_readRule_4 : decode cX8_readRule 4 = .ok (.aload_n 0, 1) := by decide +kernel
theorem dX8_readRule_5 : decode cX8_readRule 5 = .ok (.invokevirtual 177, 3) := by decide +kernel
theorem dX8_readRule_8 : decode cX8_readRule 8 = .ok (.aload_n 0, 1) := by decide +kernel
theorem dX8_readRule_9 : decode cX8_readRule 9 = .ok (.getfield 86, 3) := by decide +kernel
theorem dX8_readRule_12 : decode cX8_readRule 12 = .ok (.ifCond .ne 56, 3) := by decide +kernel
theorem dX8_readRule_15 : decode cX8_readRule 15 = .ok (.aload_n 0, 1) := by decide +kernel
theorem dX8_readRule_16 : decode cX8_readRule 16 = .ok (.getfield 107, 3) := by decide +kernel
theorem dX8_readRule_19 : decode cX8_readRule 19 = .ok (.aload_n 0, 1) := by decide +kernel
theorem dX8_readRule_20 : decode cX8_readRule 20 = .ok (.getfield 81, 3) := by decide +kernel
theorem dX8_readRule_23 : decode cX8_readRule 23 = .ok (.if_icmp .ge 45, 3) := by decide +kernel
theorem dX8_readRule_26 : decode cX8_readRule 26 = .ok (.aload_n 0, 1) := by decide +kernel
theorem dX8_readRule_27 : decode cX8_readRule 27 = .ok (.aload_n 0, 1) := by decide +kernel
theorem dX8_readRule_28 : decode cX8_readRule 28 = .ok (.getfield 107, 3) := by decide +kernel
theorem dX8_readRule_31 : decode cX8_readRule 31 = .ok (.invokevirtual 89, 3) := by decide +kernel
theorem dX8_readRule_34 : decode cX8_readRule 34 = .ok (.bipush 59, 2) := by decide +kernel
theorem dX8_readRule_36 : decode cX8_readRule 36 = .ok (.if_icmp .eq 15, 3) := by decide +kernel
theorem dX8_readRule_39 : decode cX8_readRule 39 = .ok (.aload_n 0, 1) := by decide +kernel
theorem dX8_readRule_40 : decode cX8_readRule 40 = .ok (.iconst 1, 1) := by decide +kernel
theorem dX8_readRule_41 : decode cX8_readRule 41 = .ok (.aload_n 0, 1) := by decide +kernel
theorem dX8_readRule_42 : decode cX8_readRule 42 = .ok (.getfield 107, 3) := by decide +kernel
theorem dX8_readRule_45 : decode cX8_readRule 45 = .ok (.invokevirtual 113, 3) := by decide +kernel
theorem dX8_readRule_48 : decode cX8_readRule 48 = .ok (.goto (-40), 3) := by decide +kernel
theorem dX8_readRule_51 : decode cX8_readRule 51 = .ok (.aload_n 0, 1) := by decide +kernel
theorem dX8_readRule_52 : decode cX8_readRule 52 = .ok (.dup, 1) := by decide +kernel
theorem dX8_readRule_53 : decode cX8_readRule 53 = .ok (.getfield 107, 3) := by decide +kernel
theorem dX8_readRule_56 : decode cX8_readRule 56 = .ok (.iconst 1, 1) := by decide +kernel
theorem dX8_readRule_57 : decode cX8_readRule 57 = .ok (.iadd, 1) := by decide +kernel
theorem dX8_readRule_58 : decode cX8_readRule 58 = .ok (.putfield 107, 3) := by decide +kernel
theorem dX8_readRule_61 : decode cX8_readRule 61 = .ok (.aload_n 0, 1) := by decide +kernel
theorem dX8_readRule_62 : decode cX8_readRule 62 = .ok (.invokevirtual 177, 3) := by decide +kernel
theorem dX8_readRule_65 : decode cX8_readRule 65 = .ok (.goto (-57), 3) := by decide +kernel
theorem dX8_readRule_68 : decode cX8_readRule 68 = .ok (.aload_n 0, 1) := by decide +kernel
theorem dX8_readRule_69 : decode cX8_readRule 69 = .ok (.getfield 133, 3) := by decide +kernel
theorem dX8_readRule_72 : decode cX8_readRule 72 = .ok (.ifCond .eq 24, 3) := by decide +kernel
theorem dX8_readRule_75 : decode cX8_readRule 75 = .ok (.aload_n 0, 1) := by decide +kernel
theorem dX8_readRule_76 : decode cX8_readRule 76 = .ok (.getfield 71, 3) := by decide +kernel
theorem dX8_readRule_79 : decode cX8_readRule 79 = .ok (.iconst 2, 1) := by decide +kernel
theorem dX8_readRule_80 : decode cX8_readRule 80 = .ok (.if_icmp .lt 12, 3) := by decide +kernel
theorem dX8_readRule_83 : decode cX8_readRule 83 = .ok (.aload_n 0, 1) := by decide +kernel
theorem dX8_readRule_84 : decode cX8_readRule 84 = .ok (.getfield 24, 3) := by decide +kernel
theorem dX8_readRule_87 : decode cX8_readRule 87 = .ok (.iconst 5, 1) := by decide +kernel
theorem dX8_readRule_88 : decode cX8_readRule 88 = .ok (.baload, 1) := by decide +kernel
theorem dX8_readRule_89 : decode cX8_readRule 89 = .ok (.ifCond .eq 7, 3) := by decide +kernel
theorem dX8_readRule_92 : decode cX8_readRule 92 = .ok (.iconst 1, 1) := by decide +kernel
theorem dX8_readRule_93 : decode cX8_readRule 93 = .ok (.goto 4, 3) := by decide +kernel
theorem dX8_readRule_96 : decode cX8_readRule 96 = .ok (.iconst 0, 1) := by decide +kernel
theorem dX8_readRule_97 : decode cX8_readRule 97 = .ok (.istore_n 1, 1) := by decide +kernel
theorem dX8_readRule_98 : decode cX8_readRule 98 = .ok (.aload_n 0, 1) := by decide +kernel
theorem dX8_readRule_99 : decode cX8_readRule 99 = .ok (.getfield 24, 3) := by decide +kernel
theorem dX8_readRule_102 : decode cX8_readRule 102 = .ok (.bipush 6, 2) := by decide +kernel
theorem dX8_readRule_104 : decode cX8_readRule 104 = .ok (.baload, 1) := by decide +kernel
theorem dX8_readRule_105 : decode cX8_readRule 105 = .ok (.ifCond .eq 35, 3) := by decide +kernel
theorem dX8_readRule_108 : decode cX8_readRule 108 = .ok (.aload_n 0, 1) := by decide +kernel
theorem dX8_readRule_109 : decode cX8_readRule 109 = .ok (.getfield 24, 3) := by decide +kernel
theorem dX8_readRule_112 : decode cX8_readRule 112 = .ok (.iconst 4, 1) := by decide +kernel
theorem dX8_readRule_113 : decode cX8_readRule 113 = .ok (.baload, 1) := by decide +kernel
theorem dX8_readRule_114 : decode cX8_readRule 114 = .ok (.ifCond .ne 26, 3) := by decide +kernel
theorem dX8_readRule_117 : decode cX8_readRule 117 = .ok (.aload_n 0, 1) := by decide +kernel
theorem dX8_readRule_118 : decode cX8_readRule 118 = .ok (.getfield 24, 3) := by decide +kernel
theorem dX8_readRule_121 : decode cX8_readRule 121 = .ok (.iconst 5, 1) := by decide +kernel
theorem dX8_readRule_122 : decode cX8_readRule 122 = .ok (.baload, 1) := by decide +kernel
theorem dX8_readRule_123 : decode cX8_readRule 123 = .ok (.ifCond .ne 17, 3) := by decide +kernel
theorem dX8_readRule_126 : decode cX8_readRule 126 = .ok (.aload_n 0, 1) := by decide +kernel
theorem dX8_readRule_127 : decode cX8_readRule 127 = .ok (.getfield 24, 3) := by decide +kernel
theorem dX8_readRule_130 : decode cX8_readRule 130 = .ok (.bipush 7, 2) := by decide +kernel
theorem dX8_readRule_132 : decode cX8_readRule 132 = .ok (.baload, 1) := by decide +kernel
theorem dX8_readRule_133 : decode cX8_readRule 133 = .ok (.ifCond .ne 7, 3) := by decide +kernel
theorem dX8_readRule_136 : decode cX8_readRule 136 = .ok (.iconst 1, 1) := by decide +kernel
theorem dX8_readRule_137 : decode cX8_readRule 137 = .ok (.goto 4, 3) := by decide +kernel
theorem dX8_readRule_140 : decode cX8_readRule 140 = .ok (.iconst 0, 1) := by decide +kernel
theorem dX8_readRule_141 : decode cX8_readRule 141 = .ok (.istore_n 2, 1) := by decide +kernel
theorem dX8_readRule_142 : decode cX8_readRule 142 = .ok (.aload_n 0, 1) := by decide +kernel
theorem dX8_readRule_143 : decode cX8_readRule 143 = .ok (.getfield 24, 3) := by decide +kernel
theorem dX8_readRule_146 : decode cX8_readRule 146 = .ok (.iconst 0, 1) := by decide +kernel
theorem dX8_readRule_147 : decode cX8_readRule 147 = .ok (.baload, 1) := by decide +kernel
theorem dX8_readRule_148 : decode cX8_readRule 148 = .ok (.ifCond .eq 46, 3) := by decide +kernel
theorem dX8_readRule_151 : decode cX8_readRule 151 = .ok (.aload_n 0, 1) := by decide +kernel
theorem dX8_readRule_152 : decode cX8_readRule 152 = .ok (.getfield 24, 3) := by decide +kernel
theorem dX8_readRule_155 : decode cX8_readRule 155 = .ok (.iconst 2, 1) := by decide +kernel
theorem dX8_readRule_156 : decode cX8_readRule 156 = .ok (.baload, 1) := by decide +kernel
theorem dX8_readRule_157 : decode cX8_readRule 157 = .ok (.ifCond .eq 12, 3) := by decide +kernel
theorem dX8_readRule_160 : decode cX8_readRule 160 = .ok (.aload_n 0, 1) := by decide +kernel
theorem dX8_readRule_161 : decode cX8_readRule 161 = .ok (.getfield 24, 3) := by decide +kernel
theorem dX8_readRule_164 : decode cX8_readRule 164 = .ok (.iconst 3, 1) := by decide +kernel
theorem dX8_readRule_165 : decode cX8_readRule 165 = .ok (.baload, 1) := by decide +kernel
theorem dX8_readRule_166 : decode cX8_readRule 166 = .ok (.ifCond .ne 28, 3) := by decide +kernel
theorem dX8_readRule_169 : decode cX8_readRule 169 = .ok (.aload_n 0, 1) := by decide +kernel
theorem dX8_readRule_170 : decode cX8_readRule 170 = .ok (.getfield 24, 3) := by decide +kernel
theorem dX8_readRule_173 : decode cX8_readRule 173 = .ok (.iconst 5, 1) := by decide +kernel
theorem dX8_readRule_174 : decode cX8_readRule 174 = .ok (.baload, 1) := by decide +kernel
theorem dX8_readRule_175 : decode cX8_readRule 175 = .ok (.ifCond .eq 11, 3) := by decide +kernel
theorem dX8_readRule_178 : decode cX8_readRule 178 = .ok (.aload_n 0, 1) := by decide +kernel
theorem dX8_readRule_179 : decode cX8_readRule 179 = .ok (.getfield 71, 3) := by decide +kernel
theorem dX8_readRule_182 : decode cX8_readRule 182 = .ok (.iconst 1, 1) := by decide +kernel
theorem dX8_readRule_183 : decode cX8_readRule 183 = .ok (.if_icmp .eq 11, 3) := by decide +kernel
theorem dX8_readRule_186 : decode cX8_readRule 186 = .ok (.iload_n 1, 1) := by decide +kernel
theorem dX8_readRule_187 : decode cX8_readRule 187 = .ok (.ifCond .ne 7, 3) := by decide +kernel
theorem dX8_readRule_190 : decode cX8_readRule 190 = .ok (.iload_n 2, 1) := by decide +kernel
theorem dX8_readRule_191 : decode cX8_readRule 191 = .ok (.ifCond .eq 12, 3) := by decide +kernel
theorem dX8_readRule_194 : decode cX8_readRule 194 = .ok (.aload_n 0, 1) := by decide +kernel
theorem dX8_readRule_195 : decode cX8_readRule 195 = .ok (.iconst 4, 1) := by decide +kernel
theorem dX8_readRule_196 : decode cX8_readRule 196 = .ok (.aload_n 0, 1) := by decide +kernel
theorem dX8_readRule_197 : decode cX8_readRule 197 = .ok (.getfield 81, 3) := by decide +kernel
theorem dX8_readRule_200 : decode cX8_readRule 200 = .ok (.invokevirtual 113, 3) := by decide +kernel
theorem dX8_readRule_203 : decode cX8_readRule 203 = .ok (.return_, 1) := by decide +kernel
theorem dX8_hasNumberedWeekday_0 : decode cX8_hasNumberedWeekday 0 = .ok (.iload_n 1, 1) := by decide +kernel
theorem dX8_hasNumberedWeekday_1 : decode cX8_hasNumberedWeekday 1 = .ok (.bipush 7, 2) := by decide +kernel
theorem dX8_hasNumberedWeekday_3 : decode cX8_hasNumberedWeekday 3 = .ok (.irem, 1) := by decide +kernel
theorem dX8_hasNumberedWeekday_4 : decode cX8_hasNumberedWeekday 4 = .ok (.istore_n 2, 1) := by decide +kernel
theorem dX8_hasNumberedWeekday_5 : decode cX8_hasNumberedWeekday 5 = .ok (.aload_n 0, 1) := by decide +kernel
theorem dX8_hasNumberedWeekday_6 : decode cX8_hasNumberedWeekday 6 = .ok (.getfield 37, 3) := by decide +kernel
theorem dX8_hasNumberedWeekday_9 : decode cX8_hasNumberedWeekday 9 = .ok (.bipush 107, 2) := by decide +kernel
theorem dX8_hasNumberedWeekday_11 : decode cX8_hasNumberedWeekday 11 = .ok (.iload_n 2, 1) := by decide +kernel
theorem dX8_hasNumberedWeekday_12 : decode cX8_hasNumberedWeekday 12 = .ok (.imul, 1) := by decide +kernel
theorem dX8_hasNumberedWeekday_13 : decode cX8_hasNumberedWeekday 13 = .ok (.bipush 53, 2) := by decide +kernel
theorem dX8_hasNumberedWeekday_15 : decode cX8_hasNumberedWeekday 15 = .ok (.iadd, 1) := by decide +kernel
theorem dX8_hasNumberedWeekday_16 : decode cX8_hasNumberedWeekday 16 = .ok (.baload, 1) := by decide +kernel
theorem dX8_hasNumberedWeekday_17 : decode cX8_hasNumberedWeekday 17 = .ok (.ifCond .eq 5, 3) := by decide +kernel
theorem dX8_hasNumberedWeekday_20 : decode cX8_hasNumberedWeekday 20 = .ok (.iconst 1, 1) := by decide +kernel
theorem dX8_hasNumberedWeekday_21 : decode cX8_hasNumberedWeekday 21 = .ok (.ireturn, 1) := by decide +kernel
theorem dX8_hasNumberedWeekday_22 : decode cX8_hasNumberedWeekday 22 = .ok (.aload_n 0, 1) := by decide +kernel
theorem dX8_hasNumberedWeekday_23 : decode cX8_hasNumberedWeekday 23 = .ok (.getfield 71, 3) := by decide +kernel
theorem dX8_hasNumberedWeekday_26 : decode cX8_hasNumberedWeekday 26 = .ok (.iconst 2, 1) := by decide +kernel
theorem dX8_hasNumberedWeekday_27 : decode cX8_hasNumberedWeekday 27 = .ok (.if_icmp .eq 12, 3) := by decide +kernel
theorem dX8_hasNumberedWeekday_30 : decode cX8_hasNumberedWeekday 30 = .ok (.aload_n 0, 1) := by decide +kernel
theorem dX8_hasNumberedWeekday_31 : decode cX8_hasNumberedWeekday 31 = .ok (.getfield 24, 3) := by decide +kernel
theorem dX8_hasNumberedWeekday_34 : decode cX8_hasNumberedWeekday 34 = .ok (.iconst 4, 1) := by decide +kernel
theorem dX8_hasNumberedWeekday_35 : decode cX8_hasNumberedWeekday 35 = .ok (.baload, 1) := by decide +kernel
theorem dX8_hasNumberedWeekday_36 : decode cX8_hasNumberedWeekday 36 = .ok (.ifCond .eq 7, 3) := by decide +kernel
theorem dX8_hasNumberedWeekday_39 : decode cX8_hasNumberedWeekday 39 = .ok (.iconst 1, 1) := by decide +kernel
theorem dX8_hasNumberedWeekday_40 : decode cX8_hasNumberedWeekday 40 = .ok (.goto 4, 3) := by decide +kernel
theorem dX8_hasNumberedWeekday_43 : decode cX8_hasNumberedWeekday 43 = .ok (.iconst 0, 1) := by decide +kernel
theorem dX8_hasNumberedWeekday_44 : decode cX8_hasNumberedWeekday 44 = .ok (.istore_n 3, 1) := by decide +kernel
theorem dX8_hasNumberedWeekday_45 : decode cX8_hasNumberedWeekday 45 = .ok (.iload_n 1, 1) := by decide +kernel
theorem dX8_hasNumberedWeekday_46 : decode cX8_hasNumberedWeekday 46 = .ok (.istore 4, 2) := by decide +kernel
theorem dX8_hasNumberedWeekday_48 : decode cX8_hasNumberedWeekday 48 = .ok (.iload_n 1, 1) := by decide +kernel
theorem dX8_hasNumberedWeekday_49 : decode cX8_hasNumberedWeekday 49 = .ok (.istore 5, 2) := by decide +kernel
theorem dX8_hasNumberedWeekday_51 : decode cX8_hasNumberedWeekday 51 = .ok (.iload 4, 2) := by decide +kernel
theorem dX8_hasNumberedWeekday_53 : decode cX8_hasNumberedWeekday 53 = .ok (.ifCond .le 55, 3) := by decide +kernel
theorem dX8_hasNumberedWeekday_56 : decode cX8_hasNumberedWeekday 56 = .ok (.aload_n 0, 1) := by decide +kernel
theorem dX8_hasNumberedWeekday_57 : decode cX8_hasNumberedWeekday 57 = .ok (.iload 4, 2) := by decide +kernel
theorem dX8_hasNumberedWeekday_59 : decode cX8_hasNumberedWeekday 59 = .ok (.iconst 1, 1) := by decide +kernel
theorem dX8_hasNumberedWeekday_60 : decode cX8_hasNumberedWeekday 60 = .ok (.isub, 1) := by decide +kernel
theorem dX8_hasNumberedWeekday_61 : decode cX8_hasNumberedWeekday 61 = .ok (.invokevirtual 74, 3) := by decide +kernel
theorem dX8_hasNumberedWeekday_64 : decode cX8_hasNumberedWeekday 64 = .ok (.aload_n 0, 1) := by decide +kernel
theorem dX8_hasNumberedWeekday_65 : decode cX8_hasNumberedWeekday 65 = .ok (.iload_n 1, 1) := by decide +kernel
theorem dX8_hasNumberedWeekday_66 : decode cX8_hasNumberedWeekday 66 = .ok (.invokevirtual 74, 3) := by decide +kernel
theorem dX8_hasNumberedWeekday_69 : decode cX8_hasNumberedWeekday 69 = .ok (.if_icmp .ne 39, 3) := by decide +kernel
theorem dX8_hasNumberedWeekday_72 : decode cX8_hasNumberedWeekday 72 = .ok (.iload_n 3, 1) := by decide +kernel
theorem dX8_hasNumberedWeekday_73 : decode cX8_hasNumberedWeekday 73 = .ok (.ifCond .eq 19, 3) := by decide +kernel
theorem dX8_hasNumberedWeekday_76 : decode cX8_hasNumberedWeekday 76 = .ok (.aload_n 0, 1) := by decide +kernel
theorem dX8_hasNumberedWeekday_77 : decode cX8_hasNumberedWeekday 77 = .ok (.iload 4, 2) := by decide +kernel
theorem dX8_hasNumberedWeekday_79 : decode cX8_hasNumberedWeekday 79 = .ok (.iconst 1, 1) := by decide +kernel
theorem dX8_hasNumberedWeekday_80 : decode cX8_hasNumberedWeekday 80 = .ok (.isub, 1) := by decide +kernel
theorem dX8_hasNumberedWeekday_81 : decode cX8_hasNumberedWeekday 81 = .ok (.invokevirtual 78, 3) := by decide +kernel
theorem dX8_hasNumberedWeekday_84 : decode cX8_hasNumberedWeekday 84 = .ok (.aload_n 0, 1) := by decide +kernel
theorem dX8_hasNumberedWeekday_85 : decode cX8_hasNumberedWeekday 85 = .ok (.iload_n 1, 1) := by decide +kernel
theorem dX8_hasNumberedWeekday_86 : decode cX8_hasNumberedWeekday 86 = .ok (.invokevirtual 78, 3) := by decide +kernel
theorem dX8_hasNumberedWeekday_89 : decode cX8_hasNumberedWeekday 89 = .ok (.if_icmp .ne 19, 3) := by decide +kernel
theorem dX8_hasNumberedWeekday_92 : decode cX8_hasNumberedWeekday 92 = .ok (.iload 4, 2) := by decide +kernel
theorem dX8_hasNumberedWeekday_94 : decode cX8_hasNumberedWeekday 94 = .ok (.iload_n 1, 1) := by decide +kernel
theorem dX8_hasNumberedWeekday_95 : decode cX8_hasNumberedWeekday 95 = .ok (.sipush 366, 3) := by decide +kernel
theorem dX8_hasNumberedWeekday_98 : decode cX8_hasNumberedWeekday 98 = .ok (.isub, 1) := by decide +kernel
theorem dX8_hasNumberedWeekday_99 : decode cX8_hasNumberedWeekday 99 = .ok (.if_icmp .le 9, 3) := by decide +kernel
theorem dX8_hasNumberedWeekday_102 : decode cX8_hasNumberedWeekday 102 = .ok (.iinc 4 (-1), 3) := by decide +kernel
theorem dX8_hasNumberedWeekday_105 : decode cX8_hasNumberedWeekday 105 = .ok (.goto (-54), 3) := by decide +kernel
theorem dX8_hasNumberedWeekday_108 : decode cX8_hasNumberedWeekday 108 = .ok (.iload 5, 2) := by decide +kernel
theorem dX8_hasNumberedWeekday_110 : decode cX8_hasNumberedWeekday 110 = .ok (.iconst 1, 1) := by decide +kernel
theorem dX8_hasNumberedWeekday_111 : decode cX8_hasNumberedWeekday 111 = .ok (.iadd, 1) := by decide +kernel
theorem dX8_hasNumberedWeekday_112 : decode cX8_hasNumberedWeekday 112 = .ok (.ldc 7, 2) := by decide +kernel
theorem dX8_hasNumberedWeekday_114 : decode cX8_hasNumberedWeekday 114 = .ok (.if_icmp .ge 45, 3) := by decide +kernel
theorem dX8_hasNumberedWeekday_117 : decode cX8_hasNumberedWeekday 117 = .ok (.aload_n 0, 1) := by decide +kernel
theorem dX8_hasNumberedWeekday_118 : decode cX8_hasNumberedWeekday 118 = .ok (.iload 5, 2) := by decide +kernel
theorem dX8_hasNumberedWeekday_120 : decode cX8_hasNumberedWeekday 120 = .ok (.iconst 1, 1) := by decide +kernel
theorem dX8_hasNumberedWeekday_121 : decode cX8_hasNumberedWeekday 121 = .ok (.iadd, 1) := by decide +kernel
theorem dX8_hasNumberedWeekday_122 : decode cX8_hasNumberedWeekday 122 = .ok (.invokevirtual 74, 3) := by decide +kernel
theorem dX8_hasNumberedWeekday_125 : decode cX8_hasNumberedWeekday 125 = .ok (.aload_n 0, 1) := by decide +kernel
theorem dX8_hasNumberedWeekday_126 : decode cX8_hasNumberedWeekday 126 = .ok (.iload_n 1, 1) := by decide +kernel
theorem dX8_hasNumberedWeekday_127 : decode cX8_hasNumberedWeekday 127 = .ok (.invokevirtual 74, 3) := by decide +kernel
theorem dX8_hasNumberedWeekday_130 : decode cX8_hasNumberedWeekday 130 = .ok (.if_icmp .ne 29, 3) := by decide +kernel
theorem dX8_hasNumberedWeekday_133 : decode cX8_hasNumberedWeekday 133 = .ok (.iload_n 3, 1) := by decide +kernel
theorem dX8_hasNumberedWeekday_134 : decode cX8_hasNumberedWeekday 134 = .ok (.ifCond .eq 19, 3) := by decide +kernel
theorem dX8_hasNumberedWeekday_137 : decode cX8_hasNumberedWeekday 137 = .ok (.aload_n 0, 1) := by decide +kernel
theorem dX8_hasNumberedWeekday_138 : decode cX8_hasNumberedWeekday 138 = .ok (.iload 5, 2) := by decide +kernel
theorem dX8_hasNumberedWeekday_140 : decode cX8_hasNumberedWeekday 140 = .ok (.iconst 1, 1) := by decide +kernel
theorem dX8_hasNumberedWeekday_141 : decode cX8_hasNumberedWeekday 141 = .ok (.iadd, 1) := by decide +kernel
theorem dX8_hasNumberedWeekday_142 : decode cX8_hasNumberedWeekday 142 = .ok (.invokevirtual 78, 3) := by decide +kernel
theorem dX8_hasNumberedWeekday_145 : decode cX8_hasNumberedWeekday 145 = .ok (.aload_n 0, 1) := by decide +kernel
theorem dX8_hasNumberedWeekday_146 : decode cX8_hasNumberedWeekday 146 = .ok (.iload_n 1, 1) := by decide +kernel
theorem dX8_hasNumberedWeekday_147 : decode cX8_hasNumberedWeekday 147 = .ok (.invokevirtual 78, 3) := by decide +kernel
theorem dX8_hasNumberedWeekday_150 : decode cX8_hasNumberedWeekday 150 = .ok (.if_icmp .ne 9, 3) := by decide +kernel
theorem dX8_hasNumberedWeekday_153 : decode cX8_hasNumberedWeekday 153 = .ok (.iinc 5 1, 3) := by decide +kernel
theorem dX8_hasNumberedWeekday_156 : decode cX8_hasNumberedWeekday 156 = .ok (.goto (-48), 3) := by decide +kernel
theorem dX8_hasNumberedWeekday_159 : decode cX8_hasNumberedWeekday 159 = .ok (.iload_n 1, 1) := by decide +kernel
theorem dX8_hasNumberedWeekday_160 : decode cX8_hasNumberedWeekday 160 = .ok (.iload 4, 2) := by decide +kernel
theorem dX8_hasNumberedWeekday_162 : decode cX8_hasNumberedWeekday 162 = .ok (.isub, 1) := by decide +kernel
theorem dX8_hasNumberedWeekday_163 : decode cX8_hasNumberedWeekday 163 = .ok (.bipush 7, 2) := by decide +kernel
theorem dX8_hasNumberedWeekday_165 : decode cX8_hasNumberedWeekday 165 = .ok (.idiv, 1) := by decide +kernel
theorem dX8_hasNumberedWeekday_166 : decode cX8_hasNumberedWeekday 166 = .ok (.iconst 1, 1) := by decide +kernel
theorem dX8_hasNumberedWeekday_167 : decode cX8_hasNumberedWeekday 167 = .ok (.iadd, 1) := by decide +kernel
theorem dX8_hasNumberedWeekday_168 : decode cX8_hasNumberedWeekday 168 = .ok (.istore 6, 2) := by decide +kernel
theorem dX8_hasNumberedWeekday_170 : decode cX8_hasNumberedWeekday 170 = .ok (.iload 5, 2) := by decide +kernel
theorem dX8_hasNumberedWeekday_172 : decode cX8_hasNumberedWeekday 172 = .ok (.iload_n 1, 1) := by decide +kernel
theorem dX8_hasNumberedWeekday_173 : decode cX8_hasNumberedWeekday 173 = .ok (.isub, 1) := by decide +kernel
theorem dX8_hasNumberedWeekday_174 : decode cX8_hasNumberedWeekday 174 = .ok (.bipush 7, 2) := by decide +kernel
theorem dX8_hasNumberedWeekday_176 : decode cX8_hasNumberedWeekday 176 = .ok (.idiv, 1) := by decide +kernel
theorem dX8_hasNumberedWeekday_177 : decode cX8_hasNumberedWeekday 177 = .ok (.iconst 1, 1) := by decide +kernel
theorem dX8_hasNumberedWeekday_178 : decode cX8_hasNumberedWeekday 178 = .ok (.iadd, 1) := by decide +kernel
theorem dX8_hasNumberedWeekday_179 : decode cX8_hasNumberedWeekday 179 = .ok (.istore 7, 2) := by decide +kernel
theorem dX8_hasNumberedWeekday_181 : decode cX8_hasNumberedWeekday 181 = .ok (.aload_n 0, 1) := by decide +kernel
theorem dX8_hasNumberedWeekday_182 : decode cX8_hasNumberedWeekday 182 = .ok (.getfield 133, 3) := by decide +kernel
theorem dX8_hasNumberedWeekday_185 : decode cX8_hasNumberedWeekday 185 = .ok (.ifCond .eq 43, 3) := by decide +kernel
theorem dX8_hasNumberedWeekday_188 : decode cX8_hasNumberedWeekday 188 = .ok (.aload_n 0, 1) := by decide +kernel
theorem dX8_hasNumberedWeekday_189 : decode cX8_hasNumberedWeekday 189 = .ok (.getfield 37, 3) := by decide +kernel
theorem dX8_hasNumberedWeekday_192 : decode cX8_hasNumberedWeekday 192 = .ok (.bipush 107, 2) := by decide +kernel
theorem dX8_hasNumberedWeekday_194 : decode cX8_hasNumberedWeekday 194 = .ok (.iload_n 2, 1) := by decide +kernel
theorem dX8_hasNumberedWeekday_195 : decode cX8_hasNumberedWeekday 195 = .ok (.imul, 1) := by decide +kernel
theorem dX8_hasNumberedWeekday_196 : decode cX8_hasNumberedWeekday 196 = .ok (.bipush 53, 2) := by decide +kernel
theorem dX8_hasNumberedWeekday_198 : decode cX8_hasNumberedWeekday 198 = .ok (.iadd, 1) := by decide +kernel
theorem dX8_hasNumberedWeekday_199 : decode cX8_hasNumberedWeekday 199 = .ok (.iload 6, 2) := by decide +kernel
theorem dX8_hasNumberedWeekday_201 : decode cX8_hasNumberedWeekday 201 = .ok (.iadd, 1) := by decide +kernel
theorem dX8_hasNumberedWeekday_202 : decode cX8_hasNumberedWeekday 202 = .ok (.baload, 1) := by decide +kernel
theorem dX8_hasNumberedWeekday_203 : decode cX8_hasNumberedWeekday 203 = .ok (.ifCond .ne 21, 3) := by decide +kernel
theorem dX8_hasNumberedWeekday_206 : decode cX8_hasNumberedWeekday 206 = .ok (.aload_n 0, 1) := by decide +kernel
theorem dX8_hasNumberedWeekday_207 : decode cX8_hasNumberedWeekday 207 = .ok (.getfield 37, 3) := by decide +kernel
theorem dX8_hasNumberedWeekday_210 : decode cX8_hasNumberedWeekday 210 = .ok (.bipush 107, 2) := by decide +kernel
theorem dX8_hasNumberedWeekday_212 : decode cX8_hasNumberedWeekday 212 = .ok (.iload_n 2, 1) := by decide +kernel
theorem dX8_hasNumberedWeekday_213 : decode cX8_hasNumberedWeekday 213 = .ok (.imul, 1) := by decide +kernel
theorem dX8_hasNumberedWeekday_214 : decode cX8_hasNumberedWeekday 214 = .ok (.bipush 53, 2) := by decide +kernel
theorem dX8_hasNumberedWeekday_216 : decode cX8_hasNumberedWeekday 216 = .ok (.iadd, 1) := by decide +kernel
theorem dX8_hasNumberedWeekday_217 : decode cX8_hasNumberedWeekday 217 = .ok (.iload 7, 2) := by decide +kernel
theorem dX8_hasNumberedWeekday_219 : decode cX8_hasNumberedWeekday 219 = .ok (.isub, 1) := by decide +kernel
theorem dX8_hasNumberedWeekday_220 : decode cX8_hasNumberedWeekday 220 = .ok (.baload, 1) := by decide +kernel
theorem dX8_hasNumberedWeekday_221 : decode cX8_hasNumberedWeekday 221 = .ok (.ifCond .eq 7, 3) := by decide +kernel
theorem dX8_hasNumberedWeekday_224 : decode cX8_hasNumberedWeekday 224 = .ok (.iconst 1, 1) := by decide +kernel
theorem dX8_hasNumberedWeekday_225 : decode cX8_hasNumberedWeekday 225 = .ok (.goto 4, 3) := by decide +kernel
theorem dX8_hasNumberedWeekday_228 : decode cX8_hasNumberedWeekday 228 = .ok (.iconst 0, 1) := by decide +kernel
theorem dX8_hasNumberedWeekday_229 : decode cX8_hasNumberedWeekday 229 = .ok (.ireturn, 1) := by decide +kernel
theorem dX8_suits_0 : decode cX8_suits 0 = .ok (.aload_n 0, 1) := by decide +kernel
theorem dX8_suits_1 : decode cX8_suits 1 = .ok (.getfield 24, 3) := by decide +kernel
theorem dX8_suits_4 : decode cX8_suits 4 = .ok (.iconst 5, 1) := by decide +kernel
theorem dX8_suits_5 : decode cX8_suits 5 = .ok (.baload, 1) := by decide +kernel
theorem dX8_suits_6 : decode cX8_suits 6 = .ok (.ifCond .ne 17, 3) := by decide +kernel
theorem dX8_suits_9 : decode cX8_suits 9 = .ok (.aload_n 0, 1) := by decide +kernel
theorem dX8_suits_10 : decode cX8_suits 10 = .ok (.getfield 24, 3) := by decide +kernel
theorem dX8_suits_13 : decode cX8_suits 13 = .ok (.bipush 7, 2) := by decide +kernel
theorem dX8_suits_15 : decode cX8_suits 15 = .ok (.baload, 1) := by decide +kernel
theorem dX8_suits_16 : decode cX8_suits 16 = .ok (.ifCond .ne 7, 3) := by decide +kernel
theorem dX8_suits_19 : decode cX8_suits 19 = .ok (.iconst 1, 1) := by decide +kernel
theorem dX8_suits_20 : decode cX8_suits 20 = .ok (.goto 4, 3) := by decide +kernel
theorem dX8_suits_23 : decode cX8_suits 23 = .ok (.iconst 0, 1) := by decide +kernel
theorem dX8_suits_24 : decode cX8_suits 24 = .ok (.istore_n 2, 1) := by decide +kernel
theorem dX8_suits_25 : decode cX8_suits 25 = .ok (.aload_n 0, 1) := by decide +kernel
theorem dX8_suits_26 : decode cX8_suits 26 = .ok (.getfield 24, 3) := by decide +kernel
theorem dX8_suits_29 : decode cX8_suits 29 = .ok (.iconst 4, 1) := by decide +kernel
theorem dX8_suits_30 : decode cX8_suits 30 = .ok (.baload, 1) := by decide +kernel
theorem dX8_suits_31 : decode cX8_suits 31 = .ok (.ifCond .eq 19, 3) := by decide +kernel
theorem dX8_suits_34 : decode cX8_suits 34 = .ok (.aload_n 0, 1) := by decide +kernel
theorem dX8_suits_35 : decode cX8_suits 35 = .ok (.getfield 28, 3) := by decide +kernel
theorem dX8_suits_38 : decode cX8_suits 38 = .ok (.aload_n 0, 1) := by decide +kernel
theorem dX8_suits_39 : decode cX8_suits 39 = .ok (.iload_n 1, 1) := by decide +kernel
theorem dX8_suits_40 : decode cX8_suits 40 = .ok (.invokevirtual 78, 3) := by decide +kernel
theorem dX8_suits_43 : decode cX8_suits 43 = .ok (.baload, 1) := by decide +kernel
theorem dX8_suits_44 : decode cX8_suits 44 = .ok (.ifCond .ne 36, 3) := by decide +kernel
theorem dX8_suits_47 : decode cX8_suits 47 = .ok (.goto 31, 3) := by decide +kernel
theorem dX8_suits_50 : decode cX8_suits 50 = .ok (.aload_n 0, 1) := by decide +kernel
theorem dX8_suits_51 : decode cX8_suits 51 = .ok (.getfield 71, 3) := by decide +kernel
theorem dX8_suits_54 : decode cX8_suits 54 = .ok (.iconst 3, 1) := by decide +kernel
theorem dX8_suits_55 : decode cX8_suits 55 = .ok (.if_icmp .ne 25, 3) := by decide +kernel
theorem dX8_suits_58 : decode cX8_suits 58 = .ok (.iload_n 2, 1) := by decide +kernel
theorem dX8_suits_59 : decode cX8_suits 59 = .ok (.ifCond .eq 21, 3) := by decide +kernel
theorem dX8_suits_62 : decode cX8_suits 62 = .ok (.aload_n 0, 1) := by decide +kernel
theorem dX8_suits_63 : decode cX8_suits 63 = .ok (.iload_n 1, 1) := by decide +kernel
theorem dX8_suits_64 : decode cX8_suits 64 = .ok (.invokevirtual 78, 3) := by decide +kernel
theorem dX8_suits_67 : decode cX8_suits 67 = .ok (.aload_n 0, 1) := by decide +kernel
theorem dX8_suits_68 : decode cX8_suits 68 = .ok (.aload_n 0, 1) := by decide +kernel
theorem dX8_suits_69 : decode cX8_suits 69 = .ok (.getfield 180, 3) := by decide +kernel
theorem dX8_suits_72 : decode cX8_suits 72 = .ok (.invokevirtual 78, 3) := by decide +kernel
theorem dX8_suits_75 : decode cX8_suits 75 = .ok (.if_icmp .eq 5, 3) := by decide +kernel
theorem dX8_suits_78 : decode cX8_suits 78 = .ok (.iconst 0, 1) := by decide +kernel
theorem dX8_suits_79 : decode cX8_suits 79 = .ok (.ireturn, 1) := by decide +kernel
theorem dX8_suits_80 : decode cX8_suits 80 = .ok (.aload_n 0, 1) := by decide +kernel
theorem dX8_suits_81 : decode cX8_suits 81 = .ok (.iload_n 1, 1) := by decide +kernel
theorem dX8_suits_82 : decode cX8_suits 82 = .ok (.invokevirtual 183, 3) := by decide +kernel
theorem dX8_suits_85 : decode cX8_suits 85 = .ok (.istore_n 3, 1) := by decide +kernel
theorem dX8_suits_86 : decode cX8_suits 86 = .ok (.aload_n 0, 1) := by decide +kernel
theorem dX8_suits_87 : decode cX8_suits 87 = .ok (.aload_n 0, 1) := by decide +kernel
theorem dX8_suits_88 : decode cX8_suits 88 = .ok (.iload_n 1, 1) := by decide +kernel
theorem dX8_suits_89 : decode cX8_suits 89 = .ok (.invokevirtual 74, 3) := by decide +kernel
theorem dX8_suits_92 : decode cX8_suits 92 = .ok (.aload_n 0, 1) := by decide +kernel
theorem dX8_suits_93 : decode cX8_suits 93 = .ok (.iload_n 1, 1) := by decide +kernel
theorem dX8_suits_94 : decode cX8_suits 94 = .ok (.invokevirtual 78, 3) := by decide +kernel
theorem dX8_suits_97 : decode cX8_suits 97 = .ok (.invokevirtual 60, 3) := by decide +kernel
theorem dX8_suits_100 : decode cX8_suits 100 = .ok (.iload_n 3, 1) := by decide +kernel
theorem dX8_suits_101 : decode cX8_suits 101 = .ok (.isub, 1) := by decide +kernel
theorem dX8_suits_102 : decode cX8_suits 102 = .ok (.iconst 1, 1) := by decide +kernel
theorem dX8_suits_103 : decode cX8_suits 103 = .ok (.iadd, 1) := by decide +kernel
theorem dX8_suits_104 : decode cX8_suits 104 = .ok (.istore 4, 2) := by decide +kernel
theorem dX8_suits_106 : decode cX8_suits 106 = .ok (.aload_n 0, 1) := by decide +kernel
theorem dX8_suits_107 : decode cX8_suits 107 = .ok (.getfield 24, 3) := by decide +kernel
theorem dX8_suits_110 : decode cX8_suits 110 = .ok (.iconst 5, 1) := by decide +kernel
theorem dX8_suits_111 : decode cX8_suits 111 = .ok (.baload, 1) := by decide +kernel
theorem dX8_suits_112 : decode cX8_suits 112 = .ok (.ifCond .eq 31, 3) := by decide +kernel
theorem dX8_suits_115 : decode cX8_suits 115 = .ok (.aload_n 0, 1) := by decide +kernel
theorem dX8_suits_116 : decode cX8_suits 116 = .ok (.getfield 31, 3) := by decide +kernel
theorem dX8_suits_119 : decode cX8_suits 119 = .ok (.bipush 31, 2) := by decide +kernel
theorem dX8_suits_121 : decode cX8_suits 121 = .ok (.iload_n 3, 1) := by decide +kernel
theorem dX8_suits_122 : decode cX8_suits 122 = .ok (.iadd, 1) := by decide +kernel
theorem dX8_suits_123 : decode cX8_suits 123 = .ok (.baload, 1) := by decide +kernel
theorem dX8_suits_124 : decode cX8_suits 124 = .ok (.ifCond .ne 51, 3) := by decide +kernel
theorem dX8_suits_127 : decode cX8_suits 127 = .ok (.aload_n 0, 1) := by decide +kernel
theorem dX8_suits_128 : decode cX8_suits 128 = .ok (.getfield 31, 3) := by decide +kernel
theorem dX8_suits_131 : decode cX8_suits 131 = .ok (.bipush 31, 2) := by decide +kernel
theorem dX8_suits_133 : decode cX8_suits 133 = .ok (.iload 4, 2) := by decide +kernel
theorem dX8_suits_135 : decode cX8_suits 135 = .ok (.isub, 1) := by decide +kernel
theorem dX8_suits_136 : decode cX8_suits 136 = .ok (.baload, 1) := by decide +kernel
theorem dX8_suits_137 : decode cX8_suits 137 = .ok (.ifCond .ne 38, 3) := by decide +kernel
theorem dX8_suits_140 : decode cX8_suits 140 = .ok (.goto 33, 3) := by decide +kernel
theorem dX8_suits_143 : decode cX8_suits 143 = .ok (.aload_n 0, 1) := by decide +kernel
theorem dX8_suits_144 : decode cX8_suits 144 = .ok (.getfield 71, 3) := by decide +kernel
theorem dX8_suits_147 : decode cX8_suits 147 = .ok (.iconst 2, 1) := by decide +kernel
theorem dX8_suits_148 : decode cX8_suits 148 = .ok (.if_icmp .lt 27, 3) := by decide +kernel
theorem dX8_suits_151 : decode cX8_suits 151 = .ok (.aload_n 0, 1) := by decide +kernel
theorem dX8_suits_152 : decode cX8_suits 152 = .ok (.getfield 24, 3) := by decide +kernel
theorem dX8_suits_155 : decode cX8_suits 155 = .ok (.bipush 7, 2) := by decide +kernel
theorem dX8_suits_157 : decode cX8_suits 157 = .ok (.baload, 1) := by decide +kernel
theorem dX8_suits_158 : decode cX8_suits 158 = .ok (.ifCond .ne 17, 3) := by decide +kernel
theorem dX8_suits_161 : decode cX8_suits 161 = .ok (.iload_n 3, 1) := by decide +kernel
theorem dX8_suits_162 : decode cX8_suits 162 = .ok (.aload_n 0, 1) := by decide +kernel
theorem dX8_suits_163 : decode cX8_suits 163 = .ok (.aload_n 0, 1) := by decide +kernel
theorem dX8_suits_164 : decode cX8_suits 164 = .ok (.getfield 180, 3) := by decide +kernel
theorem dX8_suits_167 : decode cX8_suits 167 = .ok (.invokevirtual 183, 3) := by decide +kernel
theorem dX8_suits_170 : decode cX8_suits 170 = .ok (.if_icmp .eq 5, 3) := by decide +kernel
theorem dX8_suits_173 : decode cX8_suits 173 = .ok (.iconst 0, 1) := by decide +kernel
theorem dX8_suits_174 : decode cX8_suits 174 = .ok (.ireturn, 1) := by decide +kernel
theorem dX8_suits_175 : decode cX8_suits 175 = .ok (.aload_n 0, 1) := by decide +kernel
theorem dX8_suits_176 : decode cX8_suits 176 = .ok (.getfield 24, 3) := by decide +kernel
theorem dX8_suits_179 : decode cX8_suits 179 = .ok (.bipush 7, 2) := by decide +kernel
theorem dX8_suits_181 : decode cX8_suits 181 = .ok (.baload, 1) := by decide +kernel
theorem dX8_suits_182 : decode cX8_suits 182 = .ok (.ifCond .eq 11, 3) := by decide +kernel
theorem dX8_suits_185 : decode cX8_suits 185 = .ok (.aload_n 0, 1) := by decide +kernel
theorem dX8_suits_186 : decode cX8_suits 186 = .ok (.iload_n 1, 1) := by decide +kernel
theorem dX8_suits_187 : decode cX8_suits 187 = .ok (.invokevirtual 186, 3) := by decide +kernel
theorem dX8_suits_190 : decode cX8_suits 190 = .ok (.goto 30, 3) := by decide +kernel
theorem dX8_suits_193 : decode cX8_suits 193 = .ok (.aload_n 0, 1) := by decide +kernel
theorem dX8_suits_194 : decode cX8_suits 194 = .ok (.getfield 71, 3) := by decide +kernel
theorem dX8_suits_197 : decode cX8_suits 197 = .ok (.iconst 1, 1) := by decide +kernel
theorem dX8_suits_198 : decode cX8_suits 198 = .ok (.if_icmp .ne 17, 3) := by decide +kernel
theorem dX8_suits_201 : decode cX8_suits 201 = .ok (.iload_n 1, 1) := by decide +kernel
theorem dX8_suits_202 : decode cX8_suits 202 = .ok (.bipush 7, 2) := by decide +kernel
theorem dX8_suits_204 : decode cX8_suits 204 = .ok (.irem, 1) := by decide +kernel
theorem dX8_suits_205 : decode cX8_suits 205 = .ok (.aload_n 0, 1) := by decide +kernel
theorem dX8_suits_206 : decode cX8_suits 206 = .ok (.getfield 180, 3) := by decide +kernel
theorem dX8_suits_209 : decode cX8_suits 209 = .ok (.bipush 7, 2) := by decide +kernel
theorem dX8_suits_211 : decode cX8_suits 211 = .ok (.irem, 1) := by decide +kernel
theorem dX8_suits_212 : decode cX8_suits 212 = .ok (.if_icmp .ne 7, 3) := by decide +kernel
theorem dX8_suits_215 : decode cX8_suits 215 = .ok (.iconst 1, 1) := by decide +kernel
theorem dX8_suits_216 : decode cX8_suits 216 = .ok (.goto 4, 3) := by decide +kernel
theorem dX8_suits_219 : decode cX8_suits 219 = .ok (.iconst 0, 1) := by decide +kernel
theorem dX8_suits_220 : decode cX8_suits 220 = .ok (.ireturn, 1) := by decide +kernel
theorem dX8_setBit_0 : decode cX8_setBit 0 = .ok (.sipush 3425, 3) := by decide +kernel
theorem dX8_setBit_3 : decode cX8_setBit 3 = .ok (.iload_n 2, 1) := by decide +kernel
theorem dX8_setBit_4 : decode cX8_setBit 4 = .ok (.imul, 1) := by decide +kernel
theorem dX8_setBit_5 : decode cX8_setBit 5 = .ok (.iload_n 3, 1) := by decide +kernel
theorem dX8_setBit_6 : decode cX8_setBit 6 = .ok (.bipush 32, 2) := by decide +kernel
theorem dX8_setBit_8 : decode cX8_setBit 8 = .ok (.idiv, 1) := by decide +kernel
theorem dX8_setBit_9 : decode cX8_setBit 9 = .ok (.iadd, 1) := by decide +kernel
theorem dX8_setBit_10 : decode cX8_setBit 10 = .ok (.istore 5, 2) := by decide +kernel
theorem dX8_setBit_12 : decode cX8_setBit 12 = .ok (.aload_n 1, 1) := by decide +kernel
theorem dX8_setBit_13 : decode cX8_setBit 13 = .ok (.iload 5, 2) := by decide +kernel
theorem dX8_setBit_15 : decode cX8_setBit 15 = .ok (.iload 4, 2) := by decide +kernel
theorem dX8_setBit_17 : decode cX8_setBit 17 = .ok (.ifCond .eq 17, 3) := by decide +kernel
theorem dX8_setBit_20 : decode cX8_setBit 20 = .ok (.aload_n 1, 1) := by decide +kernel
theorem dX8_setBit_21 : decode cX8_setBit 21 = .ok (.iload 5, 2) := by decide +kernel
theorem dX8_setBit_23 : decode cX8_setBit 23 = .ok (.iaload, 1) := by decide +kernel
theorem dX8_setBit_24 : decode cX8_setBit 24 = .ok (.iconst 1, 1) := by decide +kernel
theorem dX8_setBit_25 : decode cX8_setBit 25 = .ok (.iload_n 3, 1) := by decide +kernel
theorem dX8_setBit_26 : decode cX8_setBit 26 = .ok (.bipush 32, 2) := by decide +kernel
theorem dX8_setBit_28 : decode cX8_setBit 28 = .ok (.irem, 1) := by decide +kernel
theorem dX8_setBit_29 : decode cX8_setBit 29 = .ok (.ishl, 1) := by decide +kernel
theorem dX8_setBit_30 : decode cX8_setBit 30 = .ok (.ior, 1) := by decide +kernel
theorem dX8_setBit_31 : decode cX8_setBit 31 = .ok (.goto 16, 3) := by decide +kernel
theorem dX8_setBit_34 : decode cX8_setBit 34 = .ok (.aload_n 1, 1) := by decide +kernel
theorem dX8_setBit_35 : decode cX8_setBit 35 = .ok (.iload 5, 2) := by decide +kernel
theorem dX8_setBit_37 : decode cX8_setBit 37 = .ok (.iaload, 1) := by decide +kernel
theorem dX8_setBit_38 : decode cX8_setBit 38 = .ok (.iconst 1, 1) := by decide +kernel
theorem dX8_setBit_39 : decode cX8_setBit 39 = .ok (.iload_n 3, 1) := by decide +kernel
theorem dX8_setBit_40 : decode cX8_setBit 40 = .ok (.bipush 32, 2) := by decide +kernel
theorem dX8_setBit_42 : decode cX8_setBit 42 = .ok (.irem, 1) := by decide +kernel
theorem dX8_setBit_43 : decode cX8_setBit 43 = .ok (.ishl, 1) := by decide +kernel
theorem dX8_setBit_44 : decode cX8_setBit 44 = .ok (.iconst (-1), 1) := by decide +kernel
theorem dX8_setBit_45 : decode cX8_setBit 45 = .ok (.ixor, 1) := by decide +kernel
theorem dX8_setBit_46 : decode cX8_setBit 46 = .ok (.iand, 1) := by decide +kernel
theorem dX8_setBit_47 : decode cX8_setBit 47 = .ok (.iastore, 1) := by decide +kernel
theorem dX8_setBit_48 : decode cX8_setBit 48 = .ok (.return_, 1) := by decide +kernel
theorem dX8_hasBit_0 : decode cX8_hasBit 0 = .ok (.aload_n 1, 1) := by decide +kernel
theorem dX8_hasBit_1 : decode cX8_hasBit 1 = .ok (.sipush 3425, 3) := by decide +kernel
theorem dX8_hasBit_4 : decode cX8_hasBit 4 = .ok (.iload_n 2, 1) := by decide +kernel
theorem dX8_hasBit_5 : decode cX8_hasBit 5 = .ok (.imul, 1) := by decide +kernel
theorem dX8_hasBit_6 : decode cX8_hasBit 6 = .ok (.iload_n 3, 1) := by decide +kernel
theorem dX8_hasBit_7 : decode cX8_hasBit 7 = .ok (.bipush 32, 2) := by decide +kernel
theorem dX8_hasBit_9 : decode cX8_hasBit 9 = .ok (.idiv, 1) := by decide +kernel
theorem dX8_hasBit_10 : decode cX8_hasBit 10 = .ok (.iadd, 1) := by decide +kernel
theorem dX8_hasBit_11 : decode cX8_hasBit 11 = .ok (.iaload, 1) := by decide +kernel
theorem dX8_hasBit_12 : decode cX8_hasBit 12 = .ok (.iload_n 3, 1) := by decide +kernel
theorem dX8_hasBit_13 : decode cX8_hasBit 13 = .ok (.bipush 32, 2) := by decide +kernel
theorem dX8_hasBit_15 : decode cX8_hasBit 15 = .ok (.irem, 1) := by decide +kernel
theorem dX8_hasBit_16 : decode cX8_hasBit 16 = .ok (.ishr, 1) := by decide +kernel
theorem dX8_hasBit_17 : decode cX8_hasBit 17 = .ok (.iconst 1, 1) := by decide +kernel
theorem dX8_hasBit_18 : decode cX8_hasBit 18 = .ok (.iand, 1) := by decide +kernel
theorem dX8_hasBit_19 : decode cX8_hasBit 19 = .ok (.iconst 1, 1) := by decide +kernel
theorem dX8_hasBit_20 : decode cX8_hasBit 20 = .ok (.if_icmp .ne 7, 3) := by decide +kernel
theorem dX8_hasBit_23 : decode cX8_hasBit 23 = .ok (.iconst 1, 1) := by decide +kernel
theorem dX8_hasBit_24 : decode cX8_hasBit 24 = .ok (.goto 4, 3) := by decide +kernel
theorem dX8_hasBit_27 : decode cX8_hasBit 27 = .ok (.iconst 0, 1) := by decide +kernel
theorem dX8_hasBit_28 : decode cX8_hasBit 28 = .ok (.ireturn, 1) := by decide +kernel
theorem dX8_makeAll_0 : decode cX8_makeAll 0 = .ok (.iconst 0, 1) := by decide +kernel
theorem dX8_makeAll_1 : decode cX8_makeAll 1 = .ok (.istore_n 2, 1) := by decide +kernel
theorem dX8_makeAll_2 : decode cX8_makeAll 2 = .ok (.aload_n 0, 1) := by decide +kernel
theorem dX8_makeAll_3 : decode cX8_makeAll 3 = .ok (.getfield 180, 3) := by decide +kernel
theorem dX8_makeAll_6 : decode cX8_makeAll 6 = .ok (.istore_n 3, 1) := by decide +kernel
theorem dX8_makeAll_7 : decode cX8_makeAll 7 = .ok (.iload_n 3, 1) := by decide +kernel
theorem dX8_makeAll_8 : decode cX8_makeAll 8 = .ok (.ifCond .le 27, 3) := by decide +kernel
theorem dX8_makeAll_11 : decode cX8_makeAll 11 = .ok (.aload_n 0, 1) := by decide +kernel
theorem dX8_makeAll_12 : decode cX8_makeAll 12 = .ok (.iload_n 3, 1) := by decide +kernel
theorem dX8_makeAll_13 : decode cX8_makeAll 13 = .ok (.iconst 1, 1) := by decide +kernel
theorem dX8_makeAll_14 : decode cX8_makeAll 14 = .ok (.isub, 1) := by decide +kernel
theorem dX8_makeAll_15 : decode cX8_makeAll 15 = .ok (.invokevirtual 189, 3) := by decide +kernel
theorem dX8_makeAll_18 : decode cX8_makeAll 18 = .ok (.aload_n 0, 1) := by decide +kernel
theorem dX8_makeAll_19 : decode cX8_makeAll 19 = .ok (.aload_n 0, 1) := by decide +kernel
theorem dX8_makeAll_20 : decode cX8_makeAll 20 = .ok (.getfield 180, 3) := by decide +kernel
theorem dX8_makeAll_23 : decode cX8_makeAll 23 = .ok (.invokevirtual 189, 3) := by decide +kernel
theorem dX8_makeAll_26 : decode cX8_makeAll 26 = .ok (.if_icmp .ne 9, 3) := by decide +kernel
theorem dX8_makeAll_29 : decode cX8_makeAll 29 = .ok (.iinc 3 (-1), 3) := by decide +kernel
theorem dX8_makeAll_32 : decode cX8_makeAll 32 = .ok (.goto (-25), 3) := by decide +kernel
theorem dX8_makeAll_35 : decode cX8_makeAll 35 = .ok (.iload_n 3, 1) := by decide +kernel
theorem dX8_makeAll_36 : decode cX8_makeAll 36 = .ok (.istore 4, 2) := by decide +kernel
theorem dX8_makeAll_38 : decode cX8_makeAll 38 = .ok (.iload 4, 2) := by decide +kernel
theorem dX8_makeAll_40 : decode cX8_makeAll 40 = .ok (.ldc 7, 2) := by decide +kernel
theorem dX8_makeAll_42 : decode cX8_makeAll 42 = .ok (.if_icmp .ge 208, 3) := by decide +kernel
theorem dX8_makeAll_45 : decode cX8_makeAll 45 = .ok (.aload_n 0, 1) := by decide +kernel
theorem dX8_makeAll_46 : decode cX8_makeAll 46 = .ok (.iload 4, 2) := by decide +kernel
theorem dX8_makeAll_48 : decode cX8_makeAll 48 = .ok (.invokevirtual 189, 3) := by decide +kernel
theorem dX8_makeAll_51 : decode cX8_makeAll 51 = .ok (.istore 5, 2) := by decide +kernel
theorem dX8_makeAll_53 : decode cX8_makeAll 53 = .ok (.iconst 0, 1) := by decide +kernel
theorem dX8_makeAll_54 : decode cX8_makeAll 54 = .ok (.istore 6, 2) := by decide +kernel
theorem dX8_makeAll_56 : decode cX8_makeAll 56 = .ok (.iload 4, 2) := by decide +kernel
theorem dX8_makeAll_58 : decode cX8_makeAll 58 = .ok (.ldc 7, 2) := by decide +kernel
theorem dX8_makeAll_60 : decode cX8_makeAll 60 = .ok (.if_icmp .ge 60, 3) := by decide +kernel
theorem dX8_makeAll_63 : decode cX8_makeAll 63 = .ok (.aload_n 0, 1) := by decide +kernel
theorem dX8_makeAll_64 : decode cX8_makeAll 64 = .ok (.iload 4, 2) := by decide +kernel
theorem dX8_makeAll_66 : decode cX8_makeAll 66 = .ok (.invokevirtual 189, 3) := by decide +kernel
theorem dX8_makeAll_69 : decode cX8_makeAll 69 = .ok (.iload 5, 2) := by decide +kernel
theorem dX8_makeAll_71 : decode cX8_makeAll 71 = .ok (.if_icmp .ne 49, 3) := by decide +kernel
theorem dX8_makeAll_74 : decode cX8_makeAll 74 = .ok (.iload 5, 2) := by decide +kernel
theorem dX8_makeAll_76 : decode cX8_makeAll 76 = .ok (.aload_n 0, 1) := by decide +kernel
theorem dX8_makeAll_77 : decode cX8_makeAll 77 = .ok (.aload_n 0, 1) := by decide +kernel
theorem dX8_makeAll_78 : decode cX8_makeAll 78 = .ok (.getfield 180, 3) := by decide +kernel
theorem dX8_makeAll_81 : decode cX8_makeAll 81 = .ok (.invokevirtual 189, 3) := by decide +kernel
theorem dX8_makeAll_84 : decode cX8_makeAll 84 = .ok (.isub, 1) := by decide +kernel
theorem dX8_makeAll_85 : decode cX8_makeAll 85 = .ok (.aload_n 0, 1) := by decide +kernel
theorem dX8_makeAll_86 : decode cX8_makeAll 86 = .ok (.getfield 154, 3) := by decide +kernel
theorem dX8_makeAll_89 : decode cX8_makeAll 89 = .ok (.irem, 1) := by decide +kernel
theorem dX8_makeAll_90 : decode cX8_makeAll 90 = .ok (.ifCond .ne 24, 3) := by decide +kernel
theorem dX8_makeAll_93 : decode cX8_makeAll 93 = .ok (.aload_n 0, 1) := by decide +kernel
theorem dX8_makeAll_94 : decode cX8_makeAll 94 = .ok (.iload 4, 2) := by decide +kernel
theorem dX8_makeAll_96 : decode cX8_makeAll 96 = .ok (.invokevirtual 192, 3) := by decide +kernel
theorem dX8_makeAll_99 : decode cX8_makeAll 99 = .ok (.ifCond .eq 15, 3) := by decide +kernel
theorem dX8_makeAll_102 : decode cX8_makeAll 102 = .ok (.aload_n 0, 1) := by decide +kernel
theorem dX8_makeAll_103 : decode cX8_makeAll 103 = .ok (.getfield 53, 3) := by decide +kernel
theorem dX8_makeAll_106 : decode cX8_makeAll 106 = .ok (.iload 6, 2) := by decide +kernel
theorem dX8_makeAll_108 : decode cX8_makeAll 108 = .ok (.iload 4, 2) := by decide +kernel
theorem dX8_makeAll_110 : decode cX8_makeAll 110 = .ok (.iastore, 1) := by decide +kernel
theorem dX8_makeAll_111 : decode cX8_makeAll 111 = .ok (.iinc 6 1, 3) := by decide +kernel
theorem dX8_makeAll_114 : decode cX8_makeAll 114 = .ok (.iinc 4 1, 3) := by decide +kernel
theorem dX8_makeAll_117 : decode cX8_makeAll 117 = .ok (.goto (-61), 3) := by decide +kernel
theorem dX8_makeAll_120 : decode cX8_makeAll 120 = .ok (.iconst 0, 1) := by decide +kernel
theorem dX8_makeAll_121 : decode cX8_makeAll 121 = .ok (.istore 7, 2) := by decide +kernel
theorem dX8_makeAll_123 : decode cX8_makeAll 123 = .ok (.iload 7, 2) := by decide +kernel
theorem dX8_makeAll_125 : decode cX8_makeAll 125 = .ok (.iload 6, 2) := by decide +kernel
theorem dX8_makeAll_127 : decode cX8_makeAll 127 = .ok (.if_icmp .ge 120, 3) := by decide +kernel
theorem dX8_makeAll_130 : decode cX8_makeAll 130 = .ok (.aload_n 0, 1) := by decide +kernel
theorem dX8_makeAll_131 : decode cX8_makeAll 131 = .ok (.getfield 24, 3) := by decide +kernel
theorem dX8_makeAll_134 : decode cX8_makeAll 134 = .ok (.bipush 6, 2) := by decide +kernel
theorem dX8_makeAll_136 : decode cX8_makeAll 136 = .ok (.baload, 1) := by decide +kernel
theorem dX8_makeAll_137 : decode cX8_makeAll 137 = .ok (.ifCond .eq 36, 3) := by decide +kernel
theorem dX8_makeAll_140 : decode cX8_makeAll 140 = .ok (.aload_n 0, 1) := by decide +kernel
theorem dX8_makeAll_141 : decode cX8_makeAll 141 = .ok (.getfield 34, 3) := by decide +kernel
theorem dX8_makeAll_144 : decode cX8_makeAll 144 = .ok (.sipush 366, 3) := by decide +kernel
theorem dX8_makeAll_147 : decode cX8_makeAll 147 = .ok (.iload 7, 2) := by decide +kernel
theorem dX8_makeAll_149 : decode cX8_makeAll 149 = .ok (.iadd, 1) := by decide +kernel
theorem dX8_makeAll_150 : decode cX8_makeAll 150 = .ok (.iconst 1, 1) := by decide +kernel
theorem dX8_makeAll_151 : decode cX8_makeAll 151 = .ok (.iadd, 1) := by decide +kernel
theorem dX8_makeAll_152 : decode cX8_makeAll 152 = .ok (.baload, 1) := by decide +kernel
theorem dX8_makeAll_153 : decode cX8_makeAll 153 = .ok (.ifCond .ne 20, 3) := by decide +kernel
theorem dX8_makeAll_156 : decode cX8_makeAll 156 = .ok (.aload_n 0, 1) := by decide +kernel
theorem dX8_makeAll_157 : decode cX8_makeAll 157 = .ok (.getfield 34, 3) := by decide +kernel
theorem dX8_makeAll_160 : decode cX8_makeAll 160 = .ok (.sipush 366, 3) := by decide +kernel
theorem dX8_makeAll_163 : decode cX8_makeAll 163 = .ok (.iload 6, 2) := by decide +kernel
theorem dX8_makeAll_165 : decode cX8_makeAll 165 = .ok (.iload 7, 2) := by decide +kernel
theorem dX8_makeAll_167 : decode cX8_makeAll 167 = .ok (.isub, 1) := by decide +kernel
theorem dX8_makeAll_168 : decode cX8_makeAll 168 = .ok (.isub, 1) := by decide +kernel
theorem dX8_makeAll_169 : decode cX8_makeAll 169 = .ok (.baload, 1) := by decide +kernel
theorem dX8_makeAll_170 : decode cX8_makeAll 170 = .ok (.ifCond .eq 7, 3) := by decide +kernel
theorem dX8_makeAll_173 : decode cX8_makeAll 173 = .ok (.iconst 1, 1) := by decide +kernel
theorem dX8_makeAll_174 : decode cX8_makeAll 174 = .ok (.goto 4, 3) := by decide +kernel
theorem dX8_makeAll_177 : decode cX8_makeAll 177 = .ok (.iconst 0, 1) := by decide +kernel
theorem dX8_makeAll_178 : decode cX8_makeAll 178 = .ok (.istore 8, 2) := by decide +kernel
theorem dX8_makeAll_180 : decode cX8_makeAll 180 = .ok (.iload 8, 2) := by decide +kernel
theorem dX8_makeAll_182 : decode cX8_makeAll 182 = .ok (.ifCond .eq 59, 3) := by decide +kernel
theorem dX8_makeAll_185 : decode cX8_makeAll 185 = .ok (.aload_n 0, 1) := by decide +kernel
theorem dX8_makeAll_186 : decode cX8_makeAll 186 = .ok (.getfield 53, 3) := by decide +kernel
theorem dX8_makeAll_189 : decode cX8_makeAll 189 = .ok (.iload 7, 2) := by decide +kernel
theorem dX8_makeAll_191 : decode cX8_makeAll 191 = .ok (.iaload, 1) := by decide +kernel
theorem dX8_makeAll_192 : decode cX8_makeAll 192 = .ok (.aload_n 0, 1) := by decide +kernel
theorem dX8_makeAll_193 : decode cX8_makeAll 193 = .ok (.getfield 180, 3) := by decide +kernel
theorem dX8_makeAll_196 : decode cX8_makeAll 196 = .ok (.if_icmp .lt 45, 3) := by decide +kernel
theorem dX8_makeAll_199 : decode cX8_makeAll 199 = .ok (.aload_n 0, 1) := by decide +kernel
theorem dX8_makeAll_200 : decode cX8_makeAll 200 = .ok (.getfield 53, 3) := by decide +kernel
theorem dX8_makeAll_203 : decode cX8_makeAll 203 = .ok (.iload 7, 2) := by decide +kernel
theorem dX8_makeAll_205 : decode cX8_makeAll 205 = .ok (.iaload, 1) := by decide +kernel
theorem dX8_makeAll_206 : decode cX8_makeAll 206 = .ok (.aload_n 0, 1) := by decide +kernel
theorem dX8_makeAll_207 : decode cX8_makeAll 207 = .ok (.getfield 130, 3) := by decide +kernel
theorem dX8_makeAll_210 : decode cX8_makeAll 210 = .ok (.if_icmp .gt 31, 3) := by decide +kernel
theorem dX8_makeAll_213 : decode cX8_makeAll 213 = .ok (.iload_n 2, 1) := by decide +kernel
theorem dX8_makeAll_214 : decode cX8_makeAll 214 = .ok (.aload_n 0, 1) := by decide +kernel
theorem dX8_makeAll_215 : decode cX8_makeAll 215 = .ok (.getfield 157, 3) := by decide +kernel
theorem dX8_makeAll_218 : decode cX8_makeAll 218 = .ok (.if_icmp .ge 23, 3) := by decide +kernel
theorem dX8_makeAll_221 : decode cX8_makeAll 221 = .ok (.aload_n 0, 1) := by decide +kernel
theorem dX8_makeAll_222 : decode cX8_makeAll 222 = .ok (.aload_n 0, 1) := by decide +kernel
theorem dX8_makeAll_223 : decode cX8_makeAll 223 = .ok (.getfield 44, 3) := by decide +kernel
theorem dX8_makeAll_226 : decode cX8_makeAll 226 = .ok (.iload_n 1, 1) := by decide +kernel
theorem dX8_makeAll_227 : decode cX8_makeAll 227 = .ok (.aload_n 0, 1) := by decide +kernel
theorem dX8_makeAll_228 : decode cX8_makeAll 228 = .ok (.getfield 53, 3) := by decide +kernel
theorem dX8_makeAll_231 : decode cX8_makeAll 231 = .ok (.iload 7, 2) := by decide +kernel
theorem dX8_makeAll_233 : decode cX8_makeAll 233 = .ok (.iaload, 1) := by decide +kernel
theorem dX8_makeAll_234 : decode cX8_makeAll 234 = .ok (.iconst 1, 1) := by decide +kernel
theorem dX8_makeAll_235 : decode cX8_makeAll 235 = .ok (.invokevirtual 195, 3) := by decide +kernel
theorem dX8_makeAll_238 : decode cX8_makeAll 238 = .ok (.iinc 2 1, 3) := by decide +kernel
theorem dX8_makeAll_241 : decode cX8_makeAll 241 = .ok (.iinc 7 1, 3) := by decide +kernel
theorem dX8_makeAll_244 : decode cX8_makeAll 244 = .ok (.goto (-121), 3) := by decide +kernel
theorem dX8_makeAll_247 : decode cX8_makeAll 247 = .ok (.goto (-209), 3) := by decide +kernel
theorem dX8_makeAll_250 : decode cX8_makeAll 250 = .ok (.return_, 1) := by decide +kernel
theorem dX8_thing_0 : decode cX8_thing 0 = .ok (.aload_n 0, 1) := by decide +kernel
theorem dX8_thing_1 : decode cX8_thing 1 = .ok (.iload_n 1, 1) := by decide +kernel
theorem dX8_thing_2 : decode cX8_thing 2 = .ok (.invokevirtual 127, 3) := by decide +kernel
theorem dX8_thing_5 : decode cX8_thing 5 = .ok (.istore_n 2, 1) := by decide +kernel
theorem dX8_thing_6 : decode cX8_thing 6 = .ok (.aload_n 0, 1) := by decide +kernel
theorem dX8_thing_7 : decode cX8_thing 7 = .ok (.iload_n 2, 1) := by decide +kernel
theorem dX8_thing_8 : decode cX8_thing 8 = .ok (.ifCond .ge 7, 3) := by decide +kernel
theorem dX8_thing_11 : decode cX8_thing 11 = .ok (.iconst 1, 1) := by decide +kernel
theorem dX8_thing_12 : decode cX8_thing 12 = .ok (.goto 4, 3) := by decide +kernel
theorem dX8_thing_15 : decode cX8_thing 15 = .ok (.iconst 0, 1) := by decide +kernel
theorem dX8_thing_16 : decode cX8_thing 16 = .ok (.putfield 64, 3) := by decide +kernel
theorem dX8_thing_19 : decode cX8_thing 19 = .ok (.iconst 0, 1) := by decide +kernel
theorem dX8_thing_20 : decode cX8_thing 20 = .ok (.istore_n 3, 1) := by decide +kernel
theorem dX8_thing_21 : decode cX8_thing 21 = .ok (.iload_n 3, 1) := by decide +kernel
theorem dX8_thing_22 : decode cX8_thing 22 = .ok (.bipush 12, 2) := by decide +kernel
theorem dX8_thing_24 : decode cX8_thing 24 = .ok (.if_icmp .ge 18, 3) := by decide +kernel
theorem dX8_thing_27 : decode cX8_thing 27 = .ok (.aload_n 0, 1) := by decide +kernel
theorem dX8_thing_28 : decode cX8_thing 28 = .ok (.getfield 40, 3) := by decide +kernel
theorem dX8_thing_31 : decode cX8_thing 31 = .ok (.iload_n 3, 1) := by decide +kernel
theorem dX8_thing_32 : decode cX8_thing 32 = .ok (.baload, 1) := by decide +kernel
theorem dX8_thing_33 : decode cX8_thing 33 = .ok (.ifCond .eq 9, 3) := by decide +kernel
theorem dX8_thing_36 : decode cX8_thing 36 = .ok (.iinc 3 1, 3) := by decide +kernel
theorem dX8_thing_39 : decode cX8_thing 39 = .ok (.goto (-18), 3) := by decide +kernel
theorem dX8_thing_42 : decode cX8_thing 42 = .ok (.aload_n 0, 1) := by decide +kernel
theorem dX8_thing_43 : decode cX8_thing 43 = .ok (.getfield 64, 3) := by decide +kernel
theorem dX8_thing_46 : decode cX8_thing 46 = .ok (.ifCond .gt 9, 3) := by decide +kernel
theorem dX8_thing_49 : decode cX8_thing 49 = .ok (.iload_n 3, 1) := by decide +kernel
theorem dX8_thing_50 : decode cX8_thing 50 = .ok (.bipush 12, 2) := by decide +kernel
theorem dX8_thing_52 : decode cX8_thing 52 = .ok (.if_icmp .ne 16, 3) := by decide +kernel
theorem dX8_thing_55 : decode cX8_thing 55 = .ok (.aload_n 0, 1) := by decide +kernel
theorem dX8_thing_56 : decode cX8_thing 56 = .ok (.getfield 64, 3) := by decide +kernel
theorem dX8_thing_59 : decode cX8_thing 59 = .ok (.ifCond .le 7, 3) := by decide +kernel
theorem dX8_thing_62 : decode cX8_thing 62 = .ok (.iconst 0, 1) := by decide +kernel
theorem dX8_thing_63 : decode cX8_thing 63 = .ok (.goto 4, 3) := by decide +kernel
theorem dX8_thing_66 : decode cX8_thing 66 = .ok (.iconst (-1), 1) := by decide +kernel
theorem dX8_thing_67 : decode cX8_thing 67 = .ok (.ireturn, 1) := by decide +kernel
theorem dX8_thing_68 : decode cX8_thing 68 = .ok (.aload_n 0, 1) := by decide +kernel
theorem dX8_thing_69 : decode cX8_thing 69 = .ok (.invokevirtual 199, 3) := by decide +kernel
theorem dX8_thing_72 : decode cX8_thing 72 = .ok (.aload_n 0, 1) := by decide +kernel
theorem dX8_thing_73 : decode cX8_thing 73 = .ok (.getfield 86, 3) := by decide +kernel
theorem dX8_thing_76 : decode cX8_thing 76 = .ok (.ifCond .le 5, 3) := by decide +kernel
theorem dX8_thing_79 : decode cX8_thing 79 = .ok (.iconst (-1), 1) := by decide +kernel
theorem dX8_thing_80 : decode cX8_thing 80 = .ok (.ireturn, 1) := by decide +kernel
theorem dX8_thing_81 : decode cX8_thing 81 = .ok (.sipush 3425, 3) := by decide +kernel
theorem dX8_thing_84 : decode cX8_thing 84 = .ok (.iload_n 3, 1) := by decide +kernel
theorem dX8_thing_85 : decode cX8_thing 85 = .ok (.imul, 1) := by decide +kernel
theorem dX8_thing_86 : decode cX8_thing 86 = .ok (.istore 4, 2) := by decide +kernel
theorem dX8_thing_88 : decode cX8_thing 88 = .ok (.iload 4, 2) := by decide +kernel
theorem dX8_thing_90 : decode cX8_thing 90 = .ok (.sipush 3425, 3) := by decide +kernel
theorem dX8_thing_93 : decode cX8_thing 93 = .ok (.iload_n 3, 1) := by decide +kernel
theorem dX8_thing_94 : decode cX8_thing 94 = .ok (.imul, 1) := by decide +kernel
theorem dX8_thing_95 : decode cX8_thing 95 = .ok (.sipush 3425, 3) := by decide +kernel
theorem dX8_thing_98 : decode cX8_thing 98 = .ok (.iadd, 1) := by decide +kernel
theorem dX8_thing_99 : decode cX8_thing 99 = .ok (.if_icmp .ge 33, 3) := by decide +kernel
theorem dX8_thing_102 : decode cX8_thing 102 = .ok (.aload_n 0, 1) := by decide +kernel
theorem dX8_thing_103 : decode cX8_thing 103 = .ok (.getfield 44, 3) := by decide +kernel
theorem dX8_thing_106 : decode cX8_thing 106 = .ok (.iload 4, 2) := by decide +kernel
theorem dX8_thing_108 : decode cX8_thing 108 = .ok (.iconst 0, 1) := by decide +kernel
theorem dX8_thing_109 : decode cX8_thing 109 = .ok (.iastore, 1) := by decide +kernel
theorem dX8_thing_110 : decode cX8_thing 110 = .ok (.aload_n 0, 1) := by decide +kernel
theorem dX8_thing_111 : decode cX8_thing 111 = .ok (.getfield 47, 3) := by decide +kernel
theorem dX8_thing_114 : decode cX8_thing 114 = .ok (.iload 4, 2) := by decide +kernel
theorem dX8_thing_116 : decode cX8_thing 116 = .ok (.iconst 0, 1) := by decide +kernel
theorem dX8_thing_117 : decode cX8_thing 117 = .ok (.iastore, 1) := by decide +kernel
theorem dX8_thing_118 : decode cX8_thing 118 = .ok (.aload_n 0, 1) := by decide +kernel
theorem dX8_thing_119 : decode cX8_thing 119 = .ok (.getfield 50, 3) := by decide +kernel
theorem dX8_thing_122 : decode cX8_thing 122 = .ok (.iload 4, 2) := by decide +kernel
theorem dX8_thing_124 : decode cX8_thing 124 = .ok (.iconst 0, 1) := by decide +kernel
theorem dX8_thing_125 : decode cX8_thing 125 = .ok (.iastore, 1) := by decide +kernel
theorem dX8_thing_126 : decode cX8_thing 126 = .ok (.iinc 4 1, 3) := by decide +kernel
theorem dX8_thing_129 : decode cX8_thing 129 = .ok (.goto (-41), 3) := by decide +kernel
theorem dX8_thing_132 : decode cX8_thing 132 = .ok (.aload_n 0, 1) := by decide +kernel
theorem dX8_thing_133 : decode cX8_thing 133 = .ok (.getfield 40, 3) := by decide +kernel
theorem dX8_thing_136 : decode cX8_thing 136 = .ok (.iload_n 3, 1) := by decide +kernel
theorem dX8_thing_137 : decode cX8_thing 137 = .ok (.iconst 1, 1) := by decide +kernel
theorem dX8_thing_138 : decode cX8_thing 138 = .ok (.bastore, 1) := by decide +kernel
theorem dX8_thing_139 : decode cX8_thing 139 = .ok (.aload_n 0, 1) := by decide +kernel
theorem dX8_thing_140 : decode cX8_thing 140 = .ok (.iload_n 2, 1) := by decide +kernel
theorem dX8_thing_141 : decode cX8_thing 141 = .ok (.putfield 180, 3) := by decide +kernel
theorem dX8_thing_144 : decode cX8_thing 144 = .ok (.aload_n 0, 1) := by decide +kernel
theorem dX8_thing_145 : decode cX8_thing 145 = .ok (.iload_n 3, 1) := by decide +kernel
theorem dX8_thing_146 : decode cX8_thing 146 = .ok (.invokevirtual 202, 3) := by decide +kernel
theorem dX8_thing_149 : decode cX8_thing 149 = .ok (.iload_n 3, 1) := by decide +kernel
theorem dX8_thing_150 : decode cX8_thing 150 = .ok (.ireturn, 1) := by decide +kernel
theorem dX8_fault_0 : decode cX8_fault 0 = .ok (.aload_n 0, 1) := by decide +kernel
theorem dX8_fault_1 : decode cX8_fault 1 = .ok (.iconst 0, 1) := by decide +kernel
theorem dX8_fault_2 : decode cX8_fault 2 = .ok (.putfield 64, 3) := by decide +kernel
theorem dX8_fault_5 : decode cX8_fault 5 = .ok (.aload_n 0, 1) := by decide +kernel
theorem dX8_fault_6 : decode cX8_fault 6 = .ok (.getfield 86, 3) := by decide +kernel
theorem dX8_fault_9 : decode cX8_fault 9 = .ok (.ireturn, 1) := by decide +kernel
theorem dX8_place_0 : decode cX8_place 0 = .ok (.aload_n 0, 1) := by decide +kernel
theorem dX8_place_1 : decode cX8_place 1 = .ok (.iconst 0, 1) := by decide +kernel
theorem dX8_place_2 : decode cX8_place 2 = .ok (.putfield 64, 3) := by decide +kernel
theorem dX8_place_5 : decode cX8_place 5 = .ok (.aload_n 0, 1) := by decide +kernel
theorem dX8_place_6 : decode cX8_place 6 = .ok (.getfield 20, 3) := by decide +kernel
theorem dX8_place_9 : decode cX8_place 9 = .ok (.ireturn, 1) := by decide +kernel
theorem dX8_noThing_0 : decode cX8_noThing 0 = .ok (.iload_n 1, 1) := by decide +kernel
theorem dX8_noThing_1 : decode cX8_noThing 1 = .ok (.ifCond .lt 18, 3) := by decide +kernel
theorem dX8_noThing_4 : decode cX8_noThing 4 = .ok (.iload_n 1, 1) := by decide +kernel
theorem dX8_noThing_5 : decode cX8_noThing 5 = .ok (.bipush 12, 2) := by decide +kernel
theorem dX8_noThing_7 : decode cX8_noThing 7 = .ok (.if_icmp .ge 12, 3) := by decide +kernel
theorem dX8_noThing_10 : decode cX8_noThing 10 = .ok (.aload_n 0, 1) := by decide +kernel
theorem dX8_noThing_11 : decode cX8_noThing 11 = .ok (.getfield 40, 3) := by decide +kernel
theorem dX8_noThing_14 : decode cX8_noThing 14 = .ok (.iload_n 1, 1) := by decide +kernel
theorem dX8_noThing_15 : decode cX8_noThing 15 = .ok (.baload, 1) := by decide +kernel
theorem dX8_noThing_16 : decode cX8_noThing 16 = .ok (.ifCond .ne 7, 3) := by decide +kernel
theorem dX8_noThing_19 : decode cX8_noThing 19 = .ok (.iconst 1, 1) := by decide +kernel
theorem dX8_noThing_20 : decode cX8_noThing 20 = .ok (.goto 4, 3) := by decide +kernel
theorem dX8_noThing_23 : decode cX8_noThing 23 = .ok (.iconst 0, 1) := by decide +kernel
theorem dX8_noThing_24 : decode cX8_noThing 24 = .ok (.ireturn, 1) := by decide +kernel
theorem dX8_drop_0 : decode cX8_drop 0 = .ok (.aload_n 0, 1) := by decide +kernel
theorem dX8_drop_1 : decode cX8_drop 1 = .ok (.aload_n 0, 1) := by decide +kernel
theorem dX8_drop_2 : decode cX8_drop 2 = .ok (.iload_n 1, 1) := by decide +kernel
theorem dX8_drop_3 : decode cX8_drop 3 = .ok (.invokevirtual 205, 3) := by decide +kernel
theorem dX8_drop_6 : decode cX8_drop 6 = .ok (.ifCond .eq 7, 3) := by decide +kernel
theorem dX8_drop_9 : decode cX8_drop 9 = .ok (.iconst 1, 1) := by decide +kernel
theorem dX8_drop_10 : decode cX8_drop 10 = .ok (.goto 4, 3) := by decide +kernel
theorem dX8_drop_13 : decode cX8_drop 13 = .ok (.iconst 0, 1) := by decide +kernel
theorem dX8_drop_14 : decode cX8_drop 14 = .ok (.putfield 64, 3) := by decide +kernel
theorem dX8_drop_17 : decode cX8_drop 17 = .ok (.aload_n 0, 1) := by decide +kernel
theorem dX8_drop_18 : decode cX8_drop 18 = .ok (.getfield 64, 3) := by decide +kernel
theorem dX8_drop_21 : decode cX8_drop 21 = .ok (.ifCond .ne 10, 3) := by decide +kernel
theorem dX8_drop_24 : decode cX8_drop 24 = .ok (.aload_n 0, 1) := by decide +kernel
theorem dX8_drop_25 : decode cX8_drop 25 = .ok (.getfield 40, 3) := by decide +kernel
theorem dX8_drop_28 : decode cX8_drop 28 = .ok (.iload_n 1, 1) := by decide +kernel
theorem dX8_drop_29 : decode cX8_drop 29 = .ok (.iconst 0, 1) := by decide +kernel
theorem dX8_drop_30 : decode cX8_drop 30 = .ok (.bastore, 1) := by decide +kernel
theorem dX8_drop_31 : decode cX8_drop 31 = .ok (.return_, 1) := by decide +kernel
theorem dX8_except_0 : decode cX8_except 0 = .ok (.aload_n 0, 1) := by decide +kernel
theorem dX8_except_1 : decode cX8_except 1 = .ok (.iload_n 2, 1) := by decide +kernel
theorem dX8_except_2 : decode cX8_except 2 = .ok (.invokevirtual 127, 3) := by decide +kernel
theorem dX8_except_5 : decode cX8_except 5 = .ok (.istore 4, 2) := by decide +kernel
theorem dX8_except_7 : decode cX8_except 7 = .ok (.aload_n 0, 1) := by decide +kernel
theorem dX8_except_8 : decode cX8_except 8 = .ok (.aload_n 0, 1) := by decide +kernel
theorem dX8_except_9 : decode cX8_except 9 = .ok (.iload_n 1, 1) := by decide +kernel
theorem dX8_except_10 : decode cX8_except 10 = .ok (.invokevirtual 205, 3) := by decide +kernel
theorem dX8_except_13 : decode cX8_except 13 = .ok (.ifCond .eq 7, 3) := by decide +kernel
theorem dX8_except_16 : decode cX8_except 16 = .ok (.iconst 1, 1) := by decide +kernel
theorem dX8_except_17 : decode cX8_except 17 = .ok (.goto 13, 3) := by decide +kernel
theorem dX8_except_20 : decode cX8_except 20 = .ok (.iload 4, 2) := by decide +kernel
theorem dX8_except_22 : decode cX8_except 22 = .ok (.ifCond .ge 7, 3) := by decide +kernel
theorem dX8_except_25 : decode cX8_except 25 = .ok (.iconst 2, 1) := by decide +kernel
theorem dX8_except_26 : decode cX8_except 26 = .ok (.goto 4, 3) := by decide +kernel
theorem dX8_except_29 : decode cX8_except 29 = .ok (.iconst 0, 1) := by decide +kernel
theorem dX8_except_30 : decode cX8_except 30 = .ok (.putfield 64, 3) := by decide +kernel
theorem dX8_except_33 : decode cX8_except 33 = .ok (.aload_n 0, 1) := by decide +kernel
theorem dX8_except_34 : decode cX8_except 34 = .ok (.getfield 64, 3) := by decide +kernel
theorem dX8_except_37 : decode cX8_except 37 = .ok (.ifCond .le 5, 3) := by decide +kernel
theorem dX8_except_40 : decode cX8_except 40 = .ok (.iconst 0, 1) := by decide +kernel
theorem dX8_except_41 : decode cX8_except 41 = .ok (.ireturn, 1) := by decide +kernel
theorem dX8_except_42 : decode cX8_except 42 = .ok (.aload_n 0, 1) := by decide +kernel
theorem dX8_except_43 : decode cX8_except 43 = .ok (.aload_n 0, 1) := by decide +kernel
theorem dX8_except_44 : decode cX8_except 44 = .ok (.getfield 47, 3) := by decide +kernel
theorem dX8_except_47 : decode cX8_except 47 = .ok (.iload_n 1, 1) := by decide +kernel
theorem dX8_except_48 : decode cX8_except 48 = .ok (.iload 4, 2) := by decide +kernel
theorem dX8_except_50 : decode cX8_except 50 = .ok (.invokevirtual 208, 3) := by decide +kernel
theorem dX8_except_53 : decode cX8_except 53 = .ok (.istore 5, 2) := by decide +kernel
theorem dX8_except_55 : decode cX8_except 55 = .ok (.aload_n 0, 1) := by decide +kernel
theorem dX8_except_56 : decode cX8_except 56 = .ok (.aload_n 0, 1) := by decide +kernel
theorem dX8_except_57 : decode cX8_except 57 = .ok (.getfield 47, 3) := by decide +kernel
theorem dX8_except_60 : decode cX8_except 60 = .ok (.iload_n 1, 1) := by decide +kernel
theorem dX8_except_61 : decode cX8_except 61 = .ok (.iload 4, 2) := by decide +kernel
theorem dX8_except_63 : decode cX8_except 63 = .ok (.iload_n 3, 1) := by decide +kernel
theorem dX8_except_64 : decode cX8_except 64 = .ok (.invokevirtual 195, 3) := by decide +kernel
theorem dX8_except_67 : decode cX8_except 67 = .ok (.iload 5, 2) := by decide +kernel
theorem dX8_except_69 : decode cX8_except 69 = .ok (.ireturn, 1) := by decide +kernel
theorem dX8_besides_0 : decode cX8_besides 0 = .ok (.aload_n 0, 1) := by decide +kernel
theorem dX8_besides_1 : decode cX8_besides 1 = .ok (.iload_n 2, 1) := by decide +kernel
theorem dX8_besides_2 : decode cX8_besides 2 = .ok (.invokevirtual 127, 3) := by decide +kernel
theorem dX8_besides_5 : decode cX8_besides 5 = .ok (.istore 4, 2) := by decide +kernel
theorem dX8_besides_7 : decode cX8_besides 7 = .ok (.aload_n 0, 1) := by decide +kernel
theorem dX8_besides_8 : decode cX8_besides 8 = .ok (.aload_n 0, 1) := by decide +kernel
theorem dX8_besides_9 : decode cX8_besides 9 = .ok (.iload_n 1, 1) := by decide +kernel
theorem dX8_besides_10 : decode cX8_besides 10 = .ok (.invokevirtual 205, 3) := by decide +kernel
theorem dX8_besides_13 : decode cX8_besides 13 = .ok (.ifCond .eq 7, 3) := by decide +kernel
theorem dX8_besides_16 : decode cX8_besides 16 = .ok (.iconst 1, 1) := by decide +kernel
theorem dX8_besides_17 : decode cX8_besides 17 = .ok (.goto 13, 3) := by decide +kernel
theorem dX8_besides_20 : decode cX8_besides 20 = .ok (.iload 4, 2) := by decide +kernel
theorem dX8_besides_22 : decode cX8_besides 22 = .ok (.ifCond .ge 7, 3) := by decide +kernel
theorem dX8_besides_25 : decode cX8_besides 25 = .ok (.iconst 2, 1) := by decide +kernel
theorem dX8_besides_26 : decode cX8_besides 26 = .ok (.goto 4, 3) := by decide +kernel
theorem dX8_besides_29 : decode cX8_besides 29 = .ok (.iconst 0, 1) := by decide +kernel
theorem dX8_besides_30 : decode cX8_besides 30 = .ok (.putfield 64, 3) := by decide +kernel
theorem dX8_besides_33 : decode cX8_besides 33 = .ok (.aload_n 0, 1) := by decide +kernel
theorem dX8_besides_34 : decode cX8_besides 34 = .ok (.getfield 64, 3) := by decide +kernel
theorem dX8_besides_37 : decode cX8_besides 37 = .ok (.ifCond .le 5, 3) := by decide +kernel
theorem dX8_besides_40 : decode cX8_besides 40 = .ok (.iconst 0, 1) := by decide +kernel
theorem dX8_besides_41 : decode cX8_besides 41 = .ok (.ireturn, 1) := by decide +kernel
theorem dX8_besides_42 : decode cX8_besides 42 = .ok (.aload_n 0, 1) := by decide +kernel
theorem dX8_besides_43 : decode cX8_besides 43 = .ok (.aload_n 0, 1) := by decide +kernel
theorem dX8_besides_44 : decode cX8_besides 44 = .ok (.getfield 50, 3) := by decide +kernel
theorem dX8_besides_47 : decode cX8_besides 47 = .ok (.iload_n 1, 1) := by decide +kernel
theorem dX8_besides_48 : decode cX8_besides 48 = .ok (.iload 4, 2) := by decide +kernel
theorem dX8_besides_50 : decode cX8_besides 50 = .ok (.invokevirtual 208, 3) := by decide +kernel
theorem dX8_besides_53 : decode cX8_besides 53 = .ok (.istore 5, 2) := by decide +kernel
theorem dX8_besides_55 : decode cX8_besides 55 = .ok (.aload_n 0, 1) := by decide +kernel
theorem dX8_besides_56 : decode cX8_besides 56 = .ok (.aload_n 0, 1) := by decide +kernel
theorem dX8_besides_57 : decode cX8_besides 57 = .ok (.getfield 50, 3) := by decide +kernel
theorem dX8_besides_60 : decode cX8_besides 60 = .ok (.iload_n 1, 1) := by decide +kernel
theorem dX8_besides_61 : decode cX8_besides 61 = .ok (.iload 4, 2) := by decide +kernel
theorem dX8_besides_63 : decode cX8_besides 63 = .ok (.iload_n 3, 1) := by decide +kernel
theorem dX8_besides_64 : decode cX8_besides 64 = .ok (.invokevirtual 195, 3) := by decide +kernel
theorem dX8_besides_67 : decode cX8_besides 67 = .ok (.iload 5, 2) := by decide +kernel
theorem dX8_besides_69 : decode cX8_besides 69 = .ok (.ireturn, 1) := by decide +kernel
theorem dX8_comesAt_0 : decode cX8_comesAt 0 = .ok (.aload_n 0, 1) := by decide +kernel
theorem dX8_comesAt_1 : decode cX8_comesAt 1 = .ok (.aload_n 0, 1) := by decide +kernel
theorem dX8_comesAt_2 : decode cX8_comesAt 2 = .ok (.getfield 44, 3) := by decide +kernel
theorem dX8_comesAt_5 : decode cX8_comesAt 5 = .ok (.iload_n 1, 1) := by decide +kernel
theorem dX8_comesAt_6 : decode cX8_comesAt 6 = .ok (.iload_n 2, 1) := by decide +kernel
theorem dX8_comesAt_7 : decode cX8_comesAt 7 = .ok (.invokevirtual 208, 3) := by decide +kernel
theorem dX8_comesAt_10 : decode cX8_comesAt 10 = .ok (.ifCond .ne 16, 3) := by decide +kernel
theorem dX8_comesAt_13 : decode cX8_comesAt 13 = .ok (.aload_n 0, 1) := by decide +kernel
theorem dX8_comesAt_14 : decode cX8_comesAt 14 = .ok (.aload_n 0, 1) := by decide +kernel
theorem dX8_comesAt_15 : decode cX8_comesAt 15 = .ok (.getfield 50, 3) := by decide +kernel
theorem dX8_comesAt_18 : decode cX8_comesAt 18 = .ok (.iload_n 1, 1) := by decide +kernel
theorem dX8_comesAt_19 : decode cX8_comesAt 19 = .ok (.iload_n 2, 1) := by decide +kernel
theorem dX8_comesAt_20 : decode cX8_comesAt 20 = .ok (.invokevirtual 208, 3) := by decide +kernel
theorem dX8_comesAt_23 : decode cX8_comesAt 23 = .ok (.ifCond .eq 20, 3) := by decide +kernel
theorem dX8_comesAt_26 : decode cX8_comesAt 26 = .ok (.aload_n 0, 1) := by decide +kernel
theorem dX8_comesAt_27 : decode cX8_comesAt 27 = .ok (.aload_n 0, 1) := by decide +kernel
theorem dX8_comesAt_28 : decode cX8_comesAt 28 = .ok (.getfield 47, 3) := by decide +kernel
theorem dX8_comesAt_31 : decode cX8_comesAt 31 = .ok (.iload_n 1, 1) := by decide +kernel
theorem dX8_comesAt_32 : decode cX8_comesAt 32 = .ok (.iload_n 2, 1) := by decide +kernel
theorem dX8_comesAt_33 : decode cX8_comesAt 33 = .ok (.invokevirtual 208, 3) := by decide +kernel
theorem dX8_comesAt_36 : decode cX8_comesAt 36 = .ok (.ifCond .ne 7, 3) := by decide +kernel
theorem dX8_comesAt_39 : decode cX8_comesAt 39 = .ok (.iconst 1, 1) := by decide +kernel
theorem dX8_comesAt_40 : decode cX8_comesAt 40 = .ok (.goto 4, 3) := by decide +kernel
theorem dX8_comesAt_43 : decode cX8_comesAt 43 = .ok (.iconst 0, 1) := by decide +kernel
theorem dX8_comesAt_44 : decode cX8_comesAt 44 = .ok (.ireturn, 1) := by decide +kernel
theorem dX8_comes_0 : decode cX8_comes 0 = .ok (.aload_n 0, 1) := by decide +kernel
theorem dX8_comes_1 : decode cX8_comes 1 = .ok (.iload_n 2, 1) := by decide +kernel
theorem dX8_comes_2 : decode cX8_comes 2 = .ok (.invokevirtual 127, 3) := by decide +kernel
theorem dX8_comes_5 : decode cX8_comes 5 = .ok (.istore_n 3, 1) := by decide +kernel
theorem dX8_comes_6 : decode cX8_comes 6 = .ok (.aload_n 0, 1) := by decide +kernel
theorem dX8_comes_7 : decode cX8_comes 7 = .ok (.aload_n 0, 1) := by decide +kernel
theorem dX8_comes_8 : decode cX8_comes 8 = .ok (.iload_n 1, 1) := by decide +kernel
theorem dX8_comes_9 : decode cX8_comes 9 = .ok (.invokevirtual 205, 3) := by decide +kernel
theorem dX8_comes_12 : decode cX8_comes 12 = .ok (.ifCond .eq 7, 3) := by decide +kernel
theorem dX8_comes_15 : decode cX8_comes 15 = .ok (.iconst 1, 1) := by decide +kernel
theorem dX8_comes_16 : decode cX8_comes 16 = .ok (.goto 12, 3) := by decide +kernel
theorem dX8_comes_19 : decode cX8_comes 19 = .ok (.iload_n 3, 1) := by decide +kernel
theorem dX8_comes_20 : decode cX8_comes 20 = .ok (.ifCond .ge 7, 3) := by decide +kernel
theorem dX8_comes_23 : decode cX8_comes 23 = .ok (.iconst 2, 1) := by decide +kernel
theorem dX8_comes_24 : decode cX8_comes 24 = .ok (.goto 4, 3) := by decide +kernel
theorem dX8_comes_27 : decode cX8_comes 27 = .ok (.iconst 0, 1) := by decide +kernel
theorem dX8_comes_28 : decode cX8_comes 28 = .ok (.putfield 64, 3) := by decide +kernel
theorem dX8_comes_31 : decode cX8_comes 31 = .ok (.aload_n 0, 1) := by decide +kernel
theorem dX8_comes_32 : decode cX8_comes 32 = .ok (.getfield 64, 3) := by decide +kernel
theorem dX8_comes_35 : decode cX8_comes 35 = .ok (.ifCond .ne 16, 3) := by decide +kernel
theorem dX8_comes_38 : decode cX8_comes 38 = .ok (.aload_n 0, 1) := by decide +kernel
theorem dX8_comes_39 : decode cX8_comes 39 = .ok (.iload_n 1, 1) := by decide +kernel
theorem dX8_comes_40 : decode cX8_comes 40 = .ok (.iload_n 3, 1) := by decide +kernel
theorem dX8_comes_41 : decode cX8_comes 41 = .ok (.invokevirtual 212, 3) := by decide +kernel
theorem dX8_comes_44 : decode cX8_comes 44 = .ok (.ifCond .eq 7, 3) := by decide +kernel
theorem dX8_comes_47 : decode cX8_comes 47 = .ok (.iconst 1, 1) := by decide +kernel
theorem dX8_comes_48 : decode cX8_comes 48 = .ok (.goto 4, 3) := by decide +kernel
theorem dX8_comes_51 : decode cX8_comes 51 = .ok (.iconst 0, 1) := by decide +kernel
theorem dX8_comes_52 : decode cX8_comes 52 = .ok (.ireturn, 1) := by decide +kernel
theorem dX8_next_0 : decode cX8_next 0 = .ok (.aload_n 0, 1) := by decide +kernel
theorem dX8_next_1 : decode cX8_next 1 = .ok (.iload_n 2, 1) := by decide +kernel
theorem dX8_next_2 : decode cX8_next 2 = .ok (.invokevirtual 127, 3) := by decide +kernel
theorem dX8_next_5 : decode cX8_next 5 = .ok (.istore_n 3, 1) := by decide +kernel
theorem dX8_next_6 : decode cX8_next 6 = .ok (.aload_n 0, 1) := by decide +kernel
theorem dX8_next_7 : decode cX8_next 7 = .ok (.aload_n 0, 1) := by decide +kernel
theorem dX8_next_8 : decode cX8_next 8 = .ok (.iload_n 1, 1) := by decide +kernel
theorem dX8_next_9 : decode cX8_next 9 = .ok (.invokevirtual 205, 3) := by decide +kernel
theorem dX8_next_12 : decode cX8_next 12 = .ok (.ifCond .eq 7, 3) := by decide +kernel
theorem dX8_next_15 : decode cX8_next 15 = .ok (.iconst 1, 1) := by decide +kernel
theorem dX8_next_16 : decode cX8_next 16 = .ok (.goto 12, 3) := by decide +kernel
theorem dX8_next_19 : decode cX8_next 19 = .ok (.iload_n 3, 1) := by decide +kernel
theorem dX8_next_20 : decode cX8_next 20 = .ok (.ifCond .ge 7, 3) := by decide +kernel
theorem dX8_next_23 : decode cX8_next 23 = .ok (.iconst 2, 1) := by decide +kernel
theorem dX8_next_24 : decode cX8_next 24 = .ok (.goto 4, 3) := by decide +kernel
theorem dX8_next_27 : decode cX8_next 27 = .ok (.iconst 0, 1) := by decide +kernel
theorem dX8_next_28 : decode cX8_next 28 = .ok (.putfield 64, 3) := by decide +kernel
theorem dX8_next_31 : decode cX8_next 31 = .ok (.aload_n 0, 1) := by decide +kernel
theorem dX8_next_32 : decode cX8_next 32 = .ok (.getfield 64, 3) := by decide +kernel
theorem dX8_next_35 : decode cX8_next 35 = .ok (.ifCond .le 5, 3) := by decide +kernel
theorem dX8_next_38 : decode cX8_next 38 = .ok (.iconst 0, 1) := by decide +kernel
theorem dX8_next_39 : decode cX8_next 39 = .ok (.ireturn, 1) := by decide +kernel
theorem dX8_next_40 : decode cX8_next 40 = .ok (.iload_n 3, 1) := by decide +kernel
theorem dX8_next_41 : decode cX8_next 41 = .ok (.iconst 1, 1) := by decide +kernel
theorem dX8_next_42 : decode cX8_next 42 = .ok (.iadd, 1) := by decide +kernel
theorem dX8_next_43 : decode cX8_next 43 = .ok (.istore 4, 2) := by decide +kernel
theorem dX8_next_45 : decode cX8_next 45 = .ok (.iload 4, 2) := by decide +kernel
theorem dX8_next_47 : decode cX8_next 47 = .ok (.ldc 7, 2) := by decide +kernel
theorem dX8_next_49 : decode cX8_next 49 = .ok (.if_icmp .ge 27, 3) := by decide +kernel
theorem dX8_next_52 : decode cX8_next 52 = .ok (.aload_n 0, 1) := by decide +kernel
theorem dX8_next_53 : decode cX8_next 53 = .ok (.iload_n 1, 1) := by decide +kernel
theorem dX8_next_54 : decode cX8_next 54 = .ok (.iload 4, 2) := by decide +kernel
theorem dX8_next_56 : decode cX8_next 56 = .ok (.invokevirtual 212, 3) := by decide +kernel
theorem dX8_next_59 : decode cX8_next 59 = .ok (.ifCond .eq 11, 3) := by decide +kernel
theorem dX8_next_62 : decode cX8_next 62 = .ok (.aload_n 0, 1) := by decide +kernel
theorem dX8_next_63 : decode cX8_next 63 = .ok (.getfield 8, 3) := by decide +kernel
theorem dX8_next_66 : decode cX8_next 66 = .ok (.iload 4, 2) := by decide +kernel
theorem dX8_next_68 : decode cX8_next 68 = .ok (.iaload, 1) := by decide +kernel
theorem dX8_next_69 : decode cX8_next 69 = .ok (.ireturn, 1) := by decide +kernel
theorem dX8_next_70 : decode cX8_next 70 = .ok (.iinc 4 1, 3) := by decide +kernel
theorem dX8_next_73 : decode cX8_next 73 = .ok (.goto (-28), 3) := by decide +kernel
theorem dX8_next_76 : decode cX8_next 76 = .ok (.iconst (-1), 1) := by decide +kernel
theorem dX8_next_77 : decode cX8_next 77 = .ok (.ireturn, 1) := by decide +kernel
theorem dX8_date_0 : decode cX8_date 0 = .ok (.aload_n 0, 1) := by decide +kernel
theorem dX8_date_1 : decode cX8_date 1 = .ok (.aload_n 0, 1) := by decide +kernel
theorem dX8_date_2 : decode cX8_date 2 = .ok (.iload_n 1, 1) := by decide +kernel
theorem dX8_date_3 : decode cX8_date 3 = .ok (.invokevirtual 205, 3) := by decide +kernel
theorem dX8_date_6 : decode cX8_date 6 = .ok (.ifCond .eq 7, 3) := by decide +kernel
theorem dX8_date_9 : decode cX8_date 9 = .ok (.iconst 1, 1) := by decide +kernel
theorem dX8_date_10 : decode cX8_date 10 = .ok (.goto 12, 3) := by decide +kernel
theorem dX8_date_13 : decode cX8_date 13 = .ok (.iload_n 2, 1) := by decide +kernel
theorem dX8_date_14 : decode cX8_date 14 = .ok (.ifCond .ge 7, 3) := by decide +kernel
theorem dX8_date_17 : decode cX8_date 17 = .ok (.iconst 2, 1) := by decide +kernel
theorem dX8_date_18 : decode cX8_date 18 = .ok (.goto 4, 3) := by decide +kernel
theorem dX8_date_21 : decode cX8_date 21 = .ok (.iconst 0, 1) := by decide +kernel
theorem dX8_date_22 : decode cX8_date 22 = .ok (.putfield 64, 3) := by decide +kernel
theorem dX8_date_25 : decode cX8_date 25 = .ok (.iload_n 2, 1) := by decide +kernel
theorem dX8_date_26 : decode cX8_date 26 = .ok (.istore_n 3, 1) := by decide +kernel
theorem dX8_date_27 : decode cX8_date 27 = .ok (.iconst 0, 1) := by decide +kernel
theorem dX8_date_28 : decode cX8_date 28 = .ok (.istore 4, 2) := by decide +kernel
theorem dX8_date_30 : decode cX8_date 30 = .ok (.iload 4, 2) := by decide +kernel
theorem dX8_date_32 : decode cX8_date 32 = .ok (.ldc 7, 2) := by decide +kernel
theorem dX8_date_34 : decode cX8_date 34 = .ok (.if_icmp .ge 41, 3) := by decide +kernel
theorem dX8_date_37 : decode cX8_date 37 = .ok (.aload_n 0, 1) := by decide +kernel
theorem dX8_date_38 : decode cX8_date 38 = .ok (.getfield 64, 3) := by decide +kernel
theorem dX8_date_41 : decode cX8_date 41 = .ok (.ifCond .ne 34, 3) := by decide +kernel
theorem dX8_date_44 : decode cX8_date 44 = .ok (.aload_n 0, 1) := by decide +kernel
theorem dX8_date_45 : decode cX8_date 45 = .ok (.iload_n 1, 1) := by decide +kernel
theorem dX8_date_46 : decode cX8_date 46 = .ok (.iload 4, 2) := by decide +kernel
theorem dX8_date_48 : decode cX8_date 48 = .ok (.invokevirtual 212, 3) := by decide +kernel
theorem dX8_date_51 : decode cX8_date 51 = .ok (.ifCond .eq 18, 3) := by decide +kernel
theorem dX8_date_54 : decode cX8_date 54 = .ok (.iload_n 3, 1) := by decide +kernel
theorem dX8_date_55 : decode cX8_date 55 = .ok (.ifCond .ne 11, 3) := by decide +kernel
theorem dX8_date_58 : decode cX8_date 58 = .ok (.aload_n 0, 1) := by decide +kernel
theorem dX8_date_59 : decode cX8_date 59 = .ok (.getfield 8, 3) := by decide +kernel
theorem dX8_date_62 : decode cX8_date 62 = .ok (.iload 4, 2) := by decide +kernel
theorem dX8_date_64 : decode cX8_date 64 = .ok (.iaload, 1) := by decide +kernel
theorem dX8_date_65 : decode cX8_date 65 = .ok (.ireturn, 1) := by decide +kernel
theorem dX8_date_66 : decode cX8_date 66 = .ok (.iinc 3 (-1), 3) := by decide +kernel
theorem dX8_date_69 : decode cX8_date 69 = .ok (.iinc 4 1, 3) := by decide +kernel
theorem dX8_date_72 : decode cX8_date 72 = .ok (.goto (-42), 3) := by decide +kernel
theorem dX8_date_75 : decode cX8_date 75 = .ok (.aload_n 0, 1) := by decide +kernel
theorem dX8_date_76 : decode cX8_date 76 = .ok (.getfield 64, 3) := by decide +kernel
theorem dX8_date_79 : decode cX8_date 79 = .ok (.ifCond .le 7, 3) := by decide +kernel
theorem dX8_date_82 : decode cX8_date 82 = .ok (.iconst 0, 1) := by decide +kernel
theorem dX8_date_83 : decode cX8_date 83 = .ok (.goto 4, 3) := by decide +kernel
theorem dX8_date_86 : decode cX8_date 86 = .ok (.iconst (-1), 1) := by decide +kernel
theorem dX8_date_87 : decode cX8_date 87 = .ok (.ireturn, 1) := by decide +kernel
theorem dX8_times_0 : decode cX8_times 0 = .ok (.aload_n 0, 1) := by decide +kernel
theorem dX8_times_1 : decode cX8_times 1 = .ok (.iload_n 2, 1) := by decide +kernel
theorem dX8_times_2 : decode cX8_times 2 = .ok (.invokevirtual 127, 3) := by decide +kernel
theorem dX8_times_5 : decode cX8_times 5 = .ok (.istore 4, 2) := by decide +kernel
theorem dX8_times_7 : decode cX8_times 7 = .ok (.aload_n 0, 1) := by decide +kernel
theorem dX8_times_8 : decode cX8_times 8 = .ok (.iload_n 3, 1) := by decide +kernel
theorem dX8_times_9 : decode cX8_times 9 = .ok (.invokevirtual 127, 3) := by decide +kernel
theorem dX8_times_12 : decode cX8_times 12 = .ok (.istore 5, 2) := by decide +kernel
theorem dX8_times_14 : decode cX8_times 14 = .ok (.aload_n 0, 1) := by decide +kernel
theorem dX8_times_15 : decode cX8_times 15 = .ok (.aload_n 0, 1) := by decide +kernel
theorem dX8_times_16 : decode cX8_times 16 = .ok (.iload_n 1, 1) := by decide +kernel
theorem dX8_times_17 : decode cX8_times 17 = .ok (.invokevirtual 205, 3) := by decide +kernel
theorem dX8_times_20 : decode cX8_times 20 = .ok (.ifCond .eq 7, 3) := by decide +kernel
theorem dX8_times_23 : decode cX8_times 23 = .ok (.iconst 1, 1) := by decide +kernel
theorem dX8_times_24 : decode cX8_times 24 = .ok (.goto 18, 3) := by decide +kernel
theorem dX8_times_27 : decode cX8_times 27 = .ok (.iload 4, 2) := by decide +kernel
theorem dX8_times_29 : decode cX8_times 29 = .ok (.ifCond .lt 8, 3) := by decide +kernel
theorem dX8_times_32 : decode cX8_times 32 = .ok (.iload 5, 2) := by decide +kernel
theorem dX8_times_34 : decode cX8_times 34 = .ok (.ifCond .ge 7, 3) := by decide +kernel
theorem dX8_times_37 : decode cX8_times 37 = .ok (.iconst 2, 1) := by decide +kernel
theorem dX8_times_38 : decode cX8_times 38 = .ok (.goto 4, 3) := by decide +kernel
theorem dX8_times_41 : decode cX8_times 41 = .ok (.iconst 0, 1) := by decide +kernel
theorem dX8_times_42 : decode cX8_times 42 = .ok (.putfield 64, 3) := by decide +kernel
theorem dX8_times_45 : decode cX8_times 45 = .ok (.iconst 0, 1) := by decide +kernel
theorem dX8_times_46 : decode cX8_times 46 = .ok (.istore 6, 2) := by decide +kernel
theorem dX8_times_48 : decode cX8_times 48 = .ok (.iload 4, 2) := by decide +kernel
theorem dX8_times_50 : decode cX8_times 50 = .ok (.istore 7, 2) := by decide +kernel
theorem dX8_times_52 : decode cX8_times 52 = .ok (.iload 7, 2) := by decide +kernel
theorem dX8_times_54 : decode cX8_times 54 = .ok (.iload 5, 2) := by decide +kernel
theorem dX8_times_56 : decode cX8_times 56 = .ok (.if_icmp .gt 37, 3) := by decide +kernel
theorem dX8_times_59 : decode cX8_times 59 = .ok (.aload_n 0, 1) := by decide +kernel
theorem dX8_times_60 : decode cX8_times 60 = .ok (.getfield 64, 3) := by decide +kernel
theorem dX8_times_63 : decode cX8_times 63 = .ok (.ifCond .ne 30, 3) := by decide +kernel
theorem dX8_times_66 : decode cX8_times 66 = .ok (.aload_n 0, 1) := by decide +kernel
theorem dX8_times_67 : decode cX8_times 67 = .ok (.iload_n 1, 1) := by decide +kernel
theorem dX8_times_68 : decode cX8_times 68 = .ok (.iload 7, 2) := by decide +kernel
theorem dX8_times_70 : decode cX8_times 70 = .ok (.invokevirtual 212, 3) := by decide +kernel
theorem dX8_times_73 : decode cX8_times 73 = .ok (.ifCond .eq 10, 3) := by decide +kernel
theorem dX8_times_76 : decode cX8_times 76 = .ok (.iload 6, 2) := by decide +kernel
theorem dX8_times_78 : decode cX8_times 78 = .ok (.iconst 1, 1) := by decide +kernel
theorem dX8_times_79 : decode cX8_times 79 = .ok (.iadd, 1) := by decide +kernel
theorem dX8_times_80 : decode cX8_times 80 = .ok (.goto 5, 3) := by decide +kernel
theorem dX8_times_83 : decode cX8_times 83 = .ok (.iload 6, 2) := by decide +kernel
theorem dX8_times_85 : decode cX8_times 85 = .ok (.istore 6, 2) := by decide +kernel
theorem dX8_times_87 : decode cX8_times 87 = .ok (.iinc 7 1, 3) := by decide +kernel
theorem dX8_times_90 : decode cX8_times 90 = .ok (.goto (-38), 3) := by decide +kernel
theorem dX8_times_93 : decode cX8_times 93 = .ok (.iload 6, 2) := by decide +kernel
theorem dX8_times_95 : decode cX8_times 95 = .ok (.ireturn, 1) := by decide +kernel
theorem dX8_list_0 : decode cX8_list 0 = .ok (.aload_n 0, 1) := by decide +kernel
theorem dX8_list_1 : decode cX8_list 1 = .ok (.iload_n 1, 1) := by decide +kernel
theorem dX8_list_2 : decode cX8_list 2 = .ok (.invokevirtual 127, 3) := by decide +kernel
theorem dX8_list_5 : decode cX8_list 5 = .ok (.istore_n 3, 1) := by decide +kernel
theorem dX8_list_6 : decode cX8_list 6 = .ok (.aload_n 0, 1) := by decide +kernel
theorem dX8_list_7 : decode cX8_list 7 = .ok (.iload_n 2, 1) := by decide +kernel
theorem dX8_list_8 : decode cX8_list 8 = .ok (.invokevirtual 127, 3) := by decide +kernel
theorem dX8_list_11 : decode cX8_list 11 = .ok (.istore 4, 2) := by decide +kernel
theorem dX8_list_13 : decode cX8_list 13 = .ok (.aload_n 0, 1) := by decide +kernel
theorem dX8_list_14 : decode cX8_list 14 = .ok (.iload_n 3, 1) := by decide +kernel
theorem dX8_list_15 : decode cX8_list 15 = .ok (.ifCond .lt 8, 3) := by decide +kernel
theorem dX8_list_18 : decode cX8_list 18 = .ok (.iload 4, 2) := by decide +kernel
theorem dX8_list_20 : decode cX8_list 20 = .ok (.ifCond .ge 7, 3) := by decide +kernel
theorem dX8_list_23 : decode cX8_list 23 = .ok (.iconst 1, 1) := by decide +kernel
theorem dX8_list_24 : decode cX8_list 24 = .ok (.goto 4, 3) := by decide +kernel
theorem dX8_list_27 : decode cX8_list 27 = .ok (.iconst 0, 1) := by decide +kernel
theorem dX8_list_28 : decode cX8_list 28 = .ok (.putfield 64, 3) := by decide +kernel
theorem dX8_list_31 : decode cX8_list 31 = .ok (.aload_n 0, 1) := by decide +kernel
theorem dX8_list_32 : decode cX8_list 32 = .ok (.getfield 64, 3) := by decide +kernel
theorem dX8_list_35 : decode cX8_list 35 = .ok (.ifCond .le 5, 3) := by decide +kernel
theorem dX8_list_38 : decode cX8_list 38 = .ok (.iconst 0, 1) := by decide +kernel
theorem dX8_list_39 : decode cX8_list 39 = .ok (.ireturn, 1) := by decide +kernel
theorem dX8_list_40 : decode cX8_list 40 = .ok (.aload_n 0, 1) := by decide +kernel
theorem dX8_list_41 : decode cX8_list 41 = .ok (.iconst 0, 1) := by decide +kernel
theorem dX8_list_42 : decode cX8_list 42 = .ok (.putfield 216, 3) := by decide +kernel
theorem dX8_list_45 : decode cX8_list 45 = .ok (.iload_n 3, 1) := by decide +kernel
theorem dX8_list_46 : decode cX8_list 46 = .ok (.istore 5, 2) := by decide +kernel
theorem dX8_list_48 : decode cX8_list 48 = .ok (.iload 5, 2) := by decide +kernel
theorem dX8_list_50 : decode cX8_list 50 = .ok (.iload 4, 2) := by decide +kernel
theorem dX8_list_52 : decode cX8_list 52 = .ok (.if_icmp .gt 91, 3) := by decide +kernel
theorem dX8_list_55 : decode cX8_list 55 = .ok (.iconst 0, 1) := by decide +kernel
theorem dX8_list_56 : decode cX8_list 56 = .ok (.istore 6, 2) := by decide +kernel
theorem dX8_list_58 : decode cX8_list 58 = .ok (.iload 6, 2) := by decide +kernel
theorem dX8_list_60 : decode cX8_list 60 = .ok (.bipush 12, 2) := by decide +kernel
theorem dX8_list_62 : decode cX8_list 62 = .ok (.if_icmp .ge 75, 3) := by decide +kernel
theorem dX8_list_65 : decode cX8_list 65 = .ok (.aload_n 0, 1) := by decide +kernel
theorem dX8_list_66 : decode cX8_list 66 = .ok (.getfield 216, 3) := by decide +kernel
theorem dX8_list_69 : decode cX8_list 69 = .ok (.sipush 300, 3) := by decide +kernel
theorem dX8_list_72 : decode cX8_list 72 = .ok (.if_icmp .ge 65, 3) := by decide +kernel
theorem dX8_list_75 : decode cX8_list 75 = .ok (.aload_n 0, 1) := by decide +kernel
theorem dX8_list_76 : decode cX8_list 76 = .ok (.getfield 40, 3) := by decide +kernel
theorem dX8_list_79 : decode cX8_list 79 = .ok (.iload 6, 2) := by decide +kernel
theorem dX8_list_81 : decode cX8_list 81 = .ok (.baload, 1) := by decide +kernel
theorem dX8_list_82 : decode cX8_list 82 = .ok (.ifCond .eq 49, 3) := by decide +kernel
theorem dX8_list_85 : decode cX8_list 85 = .ok (.aload_n 0, 1) := by decide +kernel
theorem dX8_list_86 : decode cX8_list 86 = .ok (.iload 6, 2) := by decide +kernel
theorem dX8_list_88 : decode cX8_list 88 = .ok (.iload 5, 2) := by decide +kernel
theorem dX8_list_90 : decode cX8_list 90 = .ok (.invokevirtual 212, 3) := by decide +kernel
theorem dX8_list_93 : decode cX8_list 93 = .ok (.ifCond .eq 38, 3) := by decide +kernel
theorem dX8_list_96 : decode cX8_list 96 = .ok (.aload_n 0, 1) := by decide +kernel
theorem dX8_list_97 : decode cX8_list 97 = .ok (.getfield 56, 3) := by decide +kernel
theorem dX8_list_100 : decode cX8_list 100 = .ok (.aload_n 0, 1) := by decide +kernel
theorem dX8_list_101 : decode cX8_list 101 = .ok (.getfield 216, 3) := by decide +kernel
theorem dX8_list_104 : decode cX8_list 104 = .ok (.iload 6, 2) := by decide +kernel
theorem dX8_list_106 : decode cX8_list 106 = .ok (.i2l, 1) := by decide +kernel
theorem dX8_list_107 : decode cX8_list 107 = .ok (.ldc2_w 219, 3) := by decide +kernel
theorem dX8_list_110 : decode cX8_list 110 = .ok (.aload_n 0, 1) := by decide +kernel
theorem dX8_list_111 : decode cX8_list 111 = .ok (.getfield 8, 3) := by decide +kernel
theorem dX8_list_114 : decode cX8_list 114 = .ok (.iload 5, 2) := by decide +kernel
theorem dX8_list_116 : decode cX8_list 116 = .ok (.iaload, 1) := by decide +kernel
theorem dX8_list_117 : decode cX8_list 117 = .ok (.i2l, 1) := by decide +kernel
theorem dX8_list_118 : decode cX8_list 118 = .ok (.lmul, 1) := by decide +kernel
theorem dX8_list_119 : decode cX8_list 119 = .ok (.ladd, 1) := by decide +kernel
theorem dX8_list_120 : decode cX8_list 120 = .ok (.lastore, 1) := by decide +kernel
theorem dX8_list_121 : decode cX8_list 121 = .ok (.aload_n 0, 1) := by decide +kernel
theorem dX8_list_122 : decode cX8_list 122 = .ok (.dup, 1) := by decide +kernel
theorem dX8_list_123 : decode cX8_list 123 = .ok (.getfield 216, 3) := by decide +kernel
theorem dX8_list_126 : decode cX8_list 126 = .ok (.iconst 1, 1) := by decide +kernel
theorem dX8_list_127 : decode cX8_list 127 = .ok (.iadd, 1) := by decide +kernel
theorem dX8_list_128 : decode cX8_list 128 = .ok (.putfield 216, 3) := by decide +kernel
theorem dX8_list_131 : decode cX8_list 131 = .ok (.iinc 6 1, 3) := by decide +kernel
theorem dX8_list_134 : decode cX8_list 134 = .ok (.goto (-76), 3) := by decide +kernel
theorem dX8_list_137 : decode cX8_list 137 = .ok (.iinc 5 1, 3) := by decide +kernel
theorem dX8_list_140 : decode cX8_list 140 = .ok (.goto (-92), 3) := by decide +kernel
theorem dX8_list_143 : decode cX8_list 143 = .ok (.aload_n 0, 1) := by decide +kernel
theorem dX8_list_144 : decode cX8_list 144 = .ok (.getfield 216, 3) := by decide +kernel
theorem dX8_list_147 : decode cX8_list 147 = .ok (.ireturn, 1) := by decide +kernel
theorem dX8_item_0 : decode cX8_item 0 = .ok (.aload_n 0, 1) := by decide +kernel
theorem dX8_item_1 : decode cX8_item 1 = .ok (.iload_n 1, 1) := by decide +kernel
theorem dX8_item_2 : decode cX8_item 2 = .ok (.ifCond .lt 11, 3) := by decide +kernel
theorem dX8_item_5 : decode cX8_item 5 = .ok (.iload_n 1, 1) := by decide +kernel
theorem dX8_item_6 : decode cX8_item 6 = .ok (.aload_n 0, 1) := by decide +kernel
theorem dX8_item_7 : decode cX8_item 7 = .ok (.getfield 216, 3) := by decide +kernel
theorem dX8_item_10 : decode cX8_item 10 = .ok (.if_icmp .lt 7, 3) := by decide +kernel
theorem dX8_item_13 : decode cX8_item 13 = .ok (.iconst 1, 1) := by decide +kernel
theorem dX8_item_14 : decode cX8_item 14 = .ok (.goto 4, 3) := by decide +kernel
theorem dX8_item_17 : decode cX8_item 17 = .ok (.iconst 0, 1) := by decide +kernel
theorem dX8_item_18 : decode cX8_item 18 = .ok (.putfield 64, 3) := by decide +kernel
theorem dX8_item_21 : decode cX8_item 21 = .ok (.aload_n 0, 1) := by decide +kernel
theorem dX8_item_22 : decode cX8_item 22 = .ok (.getfield 64, 3) := by decide +kernel
theorem dX8_item_25 : decode cX8_item 25 = .ok (.ifCond .le 7, 3) := by decide +kernel
theorem dX8_item_28 : decode cX8_item 28 = .ok (.lconst 0, 1) := by decide +kernel
theorem dX8_item_29 : decode cX8_item 29 = .ok (.goto 9, 3) := by decide +kernel
theorem dX8_item_32 : decode cX8_item 32 = .ok (.aload_n 0, 1) := by decide +kernel
theorem dX8_item_33 : decode cX8_item 33 = .ok (.getfield 56, 3) := by decide +kernel
theorem dX8_item_36 : decode cX8_item 36 = .ok (.iload_n 1, 1) := by decide +kernel
theorem dX8_item_37 : decode cX8_item 37 = .ok (.laload, 1) := by decide +kernel
theorem dX8_item_38 : decode cX8_item 38 = .ok (.lreturn, 1) := by decide +kernel
theorem dX8_manyAt_0 : decode cX8_manyAt 0 = .ok (.iconst 0, 1) := by decide +kernel
theorem dX8_manyAt_1 : decode cX8_manyAt 1 = .ok (.istore_n 2, 1) := by decide +kernel
theorem dX8_manyAt_2 : decode cX8_manyAt 2 = .ok (.iconst 0, 1) := by decide +kernel
theorem dX8_manyAt_3 : decode cX8_manyAt 3 = .ok (.istore_n 3, 1) := by decide +kernel
theorem dX8_manyAt_4 : decode cX8_manyAt 4 = .ok (.iload_n 3, 1) := by decide +kernel
theorem dX8_manyAt_5 : decode cX8_manyAt 5 = .ok (.bipush 12, 2) := by decide +kernel
theorem dX8_manyAt_7 : decode cX8_manyAt 7 = .ok (.if_icmp .ge 35, 3) := by decide +kernel
theorem dX8_manyAt_10 : decode cX8_manyAt 10 = .ok (.aload_n 0, 1) := by decide +kernel
theorem dX8_manyAt_11 : decode cX8_manyAt 11 = .ok (.getfield 40, 3) := by decide +kernel
theorem dX8_manyAt_14 : decode cX8_manyAt 14 = .ok (.iload_n 3, 1) := by decide +kernel
theorem dX8_manyAt_15 : decode cX8_manyAt 15 = .ok (.baload, 1) := by decide +kernel
theorem dX8_manyAt_16 : decode cX8_manyAt 16 = .ok (.ifCond .eq 18, 3) := by decide +kernel
theorem dX8_manyAt_19 : decode cX8_manyAt 19 = .ok (.aload_n 0, 1) := by decide +kernel
theorem dX8_manyAt_20 : decode cX8_manyAt 20 = .ok (.iload_n 3, 1) := by decide +kernel
theorem dX8_manyAt_21 : decode cX8_manyAt 21 = .ok (.iload_n 1, 1) := by decide +kernel
theorem dX8_manyAt_22 : decode cX8_manyAt 22 = .ok (.invokevirtual 212, 3) := by decide +kernel
theorem dX8_manyAt_25 : decode cX8_manyAt 25 = .ok (.ifCond .eq 9, 3) := by decide +kernel
theorem dX8_manyAt_28 : decode cX8_manyAt 28 = .ok (.iload_n 2, 1) := by decide +kernel
theorem dX8_manyAt_29 : decode cX8_manyAt 29 = .ok (.iconst 1, 1) := by decide +kernel
theorem dX8_manyAt_30 : decode cX8_manyAt 30 = .ok (.iadd, 1) := by decide +kernel
theorem dX8_manyAt_31 : decode cX8_manyAt 31 = .ok (.goto 4, 3) := by decide +kernel
theorem dX8_manyAt_34 : decode cX8_manyAt 34 = .ok (.iload_n 2, 1) := by decide +kernel
theorem dX8_manyAt_35 : decode cX8_manyAt 35 = .ok (.istore_n 2, 1) := by decide +kernel
theorem dX8_manyAt_36 : decode cX8_manyAt 36 = .ok (.iinc 3 1, 3) := by decide +kernel
theorem dX8_manyAt_39 : decode cX8_manyAt 39 = .ok (.goto (-35), 3) := by decide +kernel
theorem dX8_manyAt_42 : decode cX8_manyAt 42 = .ok (.iload_n 2, 1) := by decide +kernel
theorem dX8_manyAt_43 : decode cX8_manyAt 43 = .ok (.ireturn, 1) := by decide +kernel
theorem dX8_busiest_0 : decode cX8_busiest 0 = .ok (.aload_n 0, 1) := by decide +kernel
theorem dX8_busiest_1 : decode cX8_busiest 1 = .ok (.iload_n 1, 1) := by decide +kernel
theorem dX8_busiest_2 : decode cX8_busiest 2 = .ok (.invokevirtual 127, 3) := by decide +kernel
theorem dX8_busiest_5 : decode cX8_busiest 5 = .ok (.istore_n 3, 1) := by decide +kernel
theorem dX8_busiest_6 : decode cX8_busiest 6 = .ok (.aload_n 0, 1) := by decide +kernel
theorem dX8_busiest_7 : decode cX8_busiest 7 = .ok (.iload_n 2, 1) := by decide +kernel
theorem dX8_busiest_8 : decode cX8_busiest 8 = .ok (.invokevirtual 127, 3) := by decide +kernel
theorem dX8_busiest_11 : decode cX8_busiest 11 = .ok (.istore 4, 2) := by decide +kernel
theorem dX8_busiest_13 : decode cX8_busiest 13 = .ok (.aload_n 0, 1) := by decide +kernel
theorem dX8_busiest_14 : decode cX8_busiest 14 = .ok (.iload_n 3, 1) := by decide +kernel
theorem dX8_busiest_15 : decode cX8_busiest 15 = .ok (.ifCond .lt 8, 3) := by decide +kernel
theorem dX8_busiest_18 : decode cX8_busiest 18 = .ok (.iload 4, 2) := by decide +kernel
theorem dX8_busiest_20 : decode cX8_busiest 20 = .ok (.ifCond .ge 7, 3) := by decide +kernel
theorem dX8_busiest_23 : decode cX8_busiest 23 = .ok (.iconst 1, 1) := by decide +kernel
theorem dX8_busiest_24 : decode cX8_busiest 24 = .ok (.goto 4, 3) := by decide +kernel
theorem dX8_busiest_27 : decode cX8_busiest 27 = .ok (.iconst 0, 1) := by decide +kernel
theorem dX8_busiest_28 : decode cX8_busiest 28 = .ok (.putfield 64, 3) := by decide +kernel
theorem dX8_busiest_31 : decode cX8_busiest 31 = .ok (.iconst 0, 1) := by decide +kernel
theorem dX8_busiest_32 : decode cX8_busiest 32 = .ok (.istore 5, 2) := by decide +kernel
theorem dX8_busiest_34 : decode cX8_busiest 34 = .ok (.iconst (-1), 1) := by decide +kernel
theorem dX8_busiest_35 : decode cX8_busiest 35 = .ok (.istore 6, 2) := by decide +kernel
theorem dX8_busiest_37 : decode cX8_busiest 37 = .ok (.iload_n 3, 1) := by decide +kernel
theorem dX8_busiest_38 : decode cX8_busiest 38 = .ok (.istore 7, 2) := by decide +kernel
theorem dX8_busiest_40 : decode cX8_busiest 40 = .ok (.iload 7, 2) := by decide +kernel
theorem dX8_busiest_42 : decode cX8_busiest 42 = .ok (.iload 4, 2) := by decide +kernel
theorem dX8_busiest_44 : decode cX8_busiest 44 = .ok (.if_icmp .gt 44, 3) := by decide +kernel
theorem dX8_busiest_47 : decode cX8_busiest 47 = .ok (.aload_n 0, 1) := by decide +kernel
theorem dX8_busiest_48 : decode cX8_busiest 48 = .ok (.getfield 64, 3) := by decide +kernel
theorem dX8_busiest_51 : decode cX8_busiest 51 = .ok (.ifCond .ne 37, 3) := by decide +kernel
theorem dX8_busiest_54 : decode cX8_busiest 54 = .ok (.aload_n 0, 1) := by decide +kernel
theorem dX8_busiest_55 : decode cX8_busiest 55 = .ok (.iload 7, 2) := by decide +kernel
theorem dX8_busiest_57 : decode cX8_busiest 57 = .ok (.invokevirtual 221, 3) := by decide +kernel
theorem dX8_busiest_60 : decode cX8_busiest 60 = .ok (.istore 8, 2) := by decide +kernel
theorem dX8_busiest_62 : decode cX8_busiest 62 = .ok (.iload 8, 2) := by decide +kernel
theorem dX8_busiest_64 : decode cX8_busiest 64 = .ok (.iload 5, 2) := by decide +kernel
theorem dX8_busiest_66 : decode cX8_busiest 66 = .ok (.if_icmp .le 16, 3) := by decide +kernel
theorem dX8_busiest_69 : decode cX8_busiest 69 = .ok (.iload 8, 2) := by decide +kernel
theorem dX8_busiest_71 : decode cX8_busiest 71 = .ok (.istore 5, 2) := by decide +kernel
theorem dX8_busiest_73 : decode cX8_busiest 73 = .ok (.aload_n 0, 1) := by decide +kernel
theorem dX8_busiest_74 : decode cX8_busiest 74 = .ok (.getfield 8, 3) := by decide +kernel
theorem dX8_busiest_77 : decode cX8_busiest 77 = .ok (.iload 7, 2) := by decide +kernel
theorem dX8_busiest_79 : decode cX8_busiest 79 = .ok (.iaload, 1) := by decide +kernel
theorem dX8_busiest_80 : decode cX8_busiest 80 = .ok (.istore 6, 2) := by decide +kernel
theorem dX8_busiest_82 : decode cX8_busiest 82 = .ok (.iinc 7 1, 3) := by decide +kernel
theorem dX8_busiest_85 : decode cX8_busiest 85 = .ok (.goto (-45), 3) := by decide +kernel
theorem dX8_busiest_88 : decode cX8_busiest 88 = .ok (.aload_n 0, 1) := by decide +kernel
theorem dX8_busiest_89 : decode cX8_busiest 89 = .ok (.getfield 64, 3) := by decide +kernel
theorem dX8_busiest_92 : decode cX8_busiest 92 = .ok (.ifCond .le 7, 3) := by decide +kernel
theorem dX8_busiest_95 : decode cX8_busiest 95 = .ok (.iconst 0, 1) := by decide +kernel
theorem dX8_busiest_96 : decode cX8_busiest 96 = .ok (.goto 5, 3) := by decide +kernel
theorem dX8_busiest_99 : decode cX8_busiest 99 = .ok (.iload 6, 2) := by decide +kernel
theorem dX8_busiest_101 : decode cX8_busiest 101 = .ok (.ireturn, 1) := by decide +kernel
theorem dX8_quiet_0 : decode cX8_quiet 0 = .ok (.aload_n 0, 1) := by decide +kernel
theorem dX8_quiet_1 : decode cX8_quiet 1 = .ok (.iload_n 1, 1) := by decide +kernel
theorem dX8_quiet_2 : decode cX8_quiet 2 = .ok (.invokevirtual 127, 3) := by decide +kernel
theorem dX8_quiet_5 : decode cX8_quiet 5 = .ok (.istore_n 3, 1) := by decide +kernel
theorem dX8_quiet_6 : decode cX8_quiet 6 = .ok (.aload_n 0, 1) := by decide +kernel
theorem dX8_quiet_7 : decode cX8_quiet 7 = .ok (.iload_n 3, 1) := by decide +kernel
theorem dX8_quiet_8 : decode cX8_quiet 8 = .ok (.ifCond .lt 15, 3) := by decide +kernel
theorem dX8_quiet_11 : decode cX8_quiet 11 = .ok (.iload_n 2, 1) := by decide +kernel
theorem dX8_quiet_12 : decode cX8_quiet 12 = .ok (.iconst 1, 1) := by decide +kernel
theorem dX8_quiet_13 : decode cX8_quiet 13 = .ok (.if_icmp .lt 10, 3) := by decide +kernel
theorem dX8_quiet_16 : decode cX8_quiet 16 = .ok (.iload_n 2, 1) := by decide +kernel
theorem dX8_quiet_17 : decode cX8_quiet 17 = .ok (.sipush 1000, 3) := by decide +kernel
theorem dX8_quiet_20 : decode cX8_quiet 20 = .ok (.if_icmp .le 7, 3) := by decide +kernel
theorem dX8_quiet_23 : decode cX8_quiet 23 = .ok (.iconst 1, 1) := by decide +kernel
theorem dX8_quiet_24 : decode cX8_quiet 24 = .ok (.goto 4, 3) := by decide +kernel
theorem dX8_quiet_27 : decode cX8_quiet 27 = .ok (.iconst 0, 1) := by decide +kernel
theorem dX8_quiet_28 : decode cX8_quiet 28 = .ok (.putfield 64, 3) := by decide +kernel
theorem dX8_quiet_31 : decode cX8_quiet 31 = .ok (.aload_n 0, 1) := by decide +kernel
theorem dX8_quiet_32 : decode cX8_quiet 32 = .ok (.getfield 64, 3) := by decide +kernel
theorem dX8_quiet_35 : decode cX8_quiet 35 = .ok (.ifCond .le 5, 3) := by decide +kernel
theorem dX8_quiet_38 : decode cX8_quiet 38 = .ok (.iconst 0, 1) := by decide +kernel
theorem dX8_quiet_39 : decode cX8_quiet 39 = .ok (.ireturn, 1) := by decide +kernel
theorem dX8_quiet_40 : decode cX8_quiet 40 = .ok (.iconst 0, 1) := by decide +kernel
theorem dX8_quiet_41 : decode cX8_quiet 41 = .ok (.istore 4, 2) := by decide +kernel
theorem dX8_quiet_43 : decode cX8_quiet 43 = .ok (.iload_n 3, 1) := by decide +kernel
theorem dX8_quiet_44 : decode cX8_quiet 44 = .ok (.istore 5, 2) := by decide +kernel
theorem dX8_quiet_46 : decode cX8_quiet 46 = .ok (.iload 5, 2) := by decide +kernel
theorem dX8_quiet_48 : decode cX8_quiet 48 = .ok (.ldc 7, 2) := by decide +kernel
theorem dX8_quiet_50 : decode cX8_quiet 50 = .ok (.if_icmp .ge 46, 3) := by decide +kernel
theorem dX8_quiet_53 : decode cX8_quiet 53 = .ok (.aload_n 0, 1) := by decide +kernel
theorem dX8_quiet_54 : decode cX8_quiet 54 = .ok (.iload 5, 2) := by decide +kernel
theorem dX8_quiet_56 : decode cX8_quiet 56 = .ok (.invokevirtual 221, 3) := by decide +kernel
theorem dX8_quiet_59 : decode cX8_quiet 59 = .ok (.ifCond .ne 10, 3) := by decide +kernel
theorem dX8_quiet_62 : decode cX8_quiet 62 = .ok (.iload 4, 2) := by decide +kernel
theorem dX8_quiet_64 : decode cX8_quiet 64 = .ok (.iconst 1, 1) := by decide +kernel
theorem dX8_quiet_65 : decode cX8_quiet 65 = .ok (.iadd, 1) := by decide +kernel
theorem dX8_quiet_66 : decode cX8_quiet 66 = .ok (.goto 4, 3) := by decide +kernel
theorem dX8_quiet_69 : decode cX8_quiet 69 = .ok (.iconst 0, 1) := by decide +kernel
theorem dX8_quiet_70 : decode cX8_quiet 70 = .ok (.istore 4, 2) := by decide +kernel
theorem dX8_quiet_72 : decode cX8_quiet 72 = .ok (.iload 4, 2) := by decide +kernel
theorem dX8_quiet_74 : decode cX8_quiet 74 = .ok (.iload_n 2, 1) := by decide +kernel
theorem dX8_quiet_75 : decode cX8_quiet 75 = .ok (.if_icmp .ne 15, 3) := by decide +kernel
theorem dX8_quiet_78 : decode cX8_quiet 78 = .ok (.aload_n 0, 1) := by decide +kernel
theorem dX8_quiet_79 : decode cX8_quiet 79 = .ok (.getfield 8, 3) := by decide +kernel
theorem dX8_quiet_82 : decode cX8_quiet 82 = .ok (.iload 5, 2) := by decide +kernel
theorem dX8_quiet_84 : decode cX8_quiet 84 = .ok (.iload_n 2, 1) := by decide +kernel
theorem dX8_quiet_85 : decode cX8_quiet 85 = .ok (.isub, 1) := by decide +kernel
theorem dX8_quiet_86 : decode cX8_quiet 86 = .ok (.iconst 1, 1) := by decide +kernel
theorem dX8_quiet_87 : decode cX8_quiet 87 = .ok (.iadd, 1) := by decide +kernel
theorem dX8_quiet_88 : decode cX8_quiet 88 = .ok (.iaload, 1) := by decide +kernel
theorem dX8_quiet_89 : decode cX8_quiet 89 = .ok (.ireturn, 1) := by decide +kernel
theorem dX8_quiet_90 : decode cX8_quiet 90 = .ok (.iinc 5 1, 3) := by decide +kernel
theorem dX8_quiet_93 : decode cX8_quiet 93 = .ok (.goto (-47), 3) := by decide +kernel
theorem dX8_quiet_96 : decode cX8_quiet 96 = .ok (.iconst (-1), 1) := by decide +kernel
theorem dX8_quiet_97 : decode cX8_quiet 97 = .ok (.ireturn, 1) := by decide +kernel
theorem dX8_shifted_0 : decode cX8_shifted 0 = .ok (.aload_n 0, 1) := by decide +kernel
theorem dX8_shifted_1 : decode cX8_shifted 1 = .ok (.iload_n 1, 1) := by decide +kernel
theorem dX8_shifted_2 : decode cX8_shifted 2 = .ok (.invokevirtual 127, 3) := by decide +kernel
theorem dX8_shifted_5 : decode cX8_shifted 5 = .ok (.istore_n 3, 1) := by decide +kernel
theorem dX8_shifted_6 : decode cX8_shifted 6 = .ok (.aload_n 0, 1) := by decide +kernel
theorem dX8_shifted_7 : decode cX8_shifted 7 = .ok (.iload_n 3, 1) := by decide +kernel
theorem dX8_shifted_8 : decode cX8_shifted 8 = .ok (.ifCond .ge 7, 3) := by decide +kernel
theorem dX8_shifted_11 : decode cX8_shifted 11 = .ok (.iconst 1, 1) := by decide +kernel
theorem dX8_shifted_12 : decode cX8_shifted 12 = .ok (.goto 4, 3) := by decide +kernel
theorem dX8_shifted_15 : decode cX8_shifted 15 = .ok (.iconst 0, 1) := by decide +kernel
theorem dX8_shifted_16 : decode cX8_shifted 16 = .ok (.putfield 64, 3) := by decide +kernel
theorem dX8_shifted_19 : decode cX8_shifted 19 = .ok (.aload_n 0, 1) := by decide +kernel
theorem dX8_shifted_20 : decode cX8_shifted 20 = .ok (.getfield 64, 3) := by decide +kernel
theorem dX8_shifted_23 : decode cX8_shifted 23 = .ok (.ifCond .le 5, 3) := by decide +kernel
theorem dX8_shifted_26 : decode cX8_shifted 26 = .ok (.iconst 0, 1) := by decide +kernel
theorem dX8_shifted_27 : decode cX8_shifted 27 = .ok (.ireturn, 1) := by decide +kernel
theorem dX8_shifted_28 : decode cX8_shifted 28 = .ok (.iload_n 3, 1) := by decide +kernel
theorem dX8_shifted_29 : decode cX8_shifted 29 = .ok (.i2l, 1) := by decide +kernel
theorem dX8_shifted_30 : decode cX8_shifted 30 = .ok (.iload_n 2, 1) := by decide +kernel
theorem dX8_shifted_31 : decode cX8_shifted 31 = .ok (.i2l, 1) := by decide +kernel
theorem dX8_shifted_32 : decode cX8_shifted 32 = .ok (.ladd, 1) := by decide +kernel
theorem dX8_shifted_33 : decode cX8_shifted 33 = .ok (.lstore 4, 2) := by decide +kernel
theorem dX8_shifted_35 : decode cX8_shifted 35 = .ok (.lload 4, 2) := by decide +kernel
theorem dX8_shifted_37 : decode cX8_shifted 37 = .ok (.lconst 0, 1) := by decide +kernel
theorem dX8_shifted_38 : decode cX8_shifted 38 = .ok (.lcmp, 1) := by decide +kernel
theorem dX8_shifted_39 : decode cX8_shifted 39 = .ok (.ifCond .lt 12, 3) := by decide +kernel
theorem dX8_shifted_42 : decode cX8_shifted 42 = .ok (.lload 4, 2) := by decide +kernel
theorem dX8_shifted_44 : decode cX8_shifted 44 = .ok (.ldc2_w 224, 3) := by decide +kernel
theorem dX8_shifted_47 : decode cX8_shifted 47 = .ok (.lcmp, 1) := by decide +kernel
theorem dX8_shifted_48 : decode cX8_shifted 48 = .ok (.ifCond .lt 7, 3) := by decide +kernel
theorem dX8_shifted_51 : decode cX8_shifted 51 = .ok (.iconst (-1), 1) := by decide +kernel
theorem dX8_shifted_52 : decode cX8_shifted 52 = .ok (.goto 11, 3) := by decide +kernel
theorem dX8_shifted_55 : decode cX8_shifted 55 = .ok (.aload_n 0, 1) := by decide +kernel
theorem dX8_shifted_56 : decode cX8_shifted 56 = .ok (.getfield 8, 3) := by decide +kernel
theorem dX8_shifted_59 : decode cX8_shifted 59 = .ok (.lload 4, 2) := by decide +kernel
theorem dX8_shifted_61 : decode cX8_shifted 61 = .ok (.l2i, 1) := by decide +kernel
theorem dX8_shifted_62 : decode cX8_shifted 62 = .ok (.iaload, 1) := by decide +kernel
theorem dX8_shifted_63 : decode cX8_shifted 63 = .ok (.ireturn, 1) := by decide +kernel
end
section
theorem dL_feed_0 : decode cL_feed 0 = .ok (.aload 4, 2) := by decide +kernel
theorem dL_feed_2 : decode cL_feed 2 = .ok (.iconst 0, 1) := by decide +kernel
theorem dL_feed_3 : decode cL_feed 3 = .ok (.aload_n 0, 1) := by decide +kernel
theorem dL_feed_4 : decode cL_feed 4 = .ok (.iload_n 1, 1) := by decide +kernel
theorem dL_feed_5 : decode cL_feed 5 = .ok (.lload_n 2, 1) := by decide +kernel
theorem dL_feed_6 : decode cL_feed 6 = .ok (.invokevirtual 7, 3) := by decide +kernel
theorem dL_feed_9 : decode cL_feed 9 = .ok (.i2l, 1) := by decide +kernel
theorem dL_feed_10 : decode cL_feed 10 = .ok (.lastore, 1) := by decide +kernel
theorem dL_feed_11 : decode cL_feed 11 = .ok (.goto 7, 3) := by decide +kernel
theorem dL_feed_14 : decode cL_feed 14 = .ok (.astore 5, 2) := by decide +kernel
theorem dL_feed_16 : decode cL_feed 16 = .ok (.iconst 1, 1) := by decide +kernel
theorem dL_feed_17 : decode cL_feed 17 = .ok (.ireturn, 1) := by decide +kernel
theorem dL_feed_18 : decode cL_feed 18 = .ok (.iconst 0, 1) := by decide +kernel
theorem dL_feed_19 : decode cL_feed 19 = .ok (.ireturn, 1) := by decide +kernel
theorem dL_thing_0 : decode cL_thing 0 = .ok (.aload_n 2, 1) := by decide +kernel
theorem dL_thing_1 : decode cL_thing 1 = .ok (.iconst 0, 1) := by decide +kernel
theorem dL_thing_2 : decode cL_thing 2 = .ok (.aload_n 0, 1) := by decide +kernel
theorem dL_thing_3 : decode cL_thing 3 = .ok (.iload_n 1, 1) := by decide +kernel
theorem dL_thing_4 : decode cL_thing 4 = .ok (.invokevirtual 15, 3) := by decide +kernel
theorem dL_thing_7 : decode cL_thing 7 = .ok (.i2l, 1) := by decide +kernel
theorem dL_thing_8 : decode cL_thing 8 = .ok (.lastore, 1) := by decide +kernel
theorem dL_thing_9 : decode cL_thing 9 = .ok (.goto 6, 3) := by decide +kernel
theorem dL_thing_12 : decode cL_thing 12 = .ok (.astore_n 3, 1) := by decide +kernel
theorem dL_thing_13 : decode cL_thing 13 = .ok (.iconst 1, 1) := by decide +kernel
theorem dL_thing_14 : decode cL_thing 14 = .ok (.ireturn, 1) := by decide +kernel
theorem dL_thing_15 : decode cL_thing 15 = .ok (.iconst 0, 1) := by decide +kernel
theorem dL_thing_16 : decode cL_thing 16 = .ok (.ireturn, 1) := by decide +kernel
theorem dL_drop_0 : decode cL_drop 0 = .ok (.aload_n 0, 1) := by decide +kernel
theorem dL_drop_1 : decode cL_drop 1 = .ok (.iload_n 1, 1) := by decide +kernel
theorem dL_drop_2 : decode cL_drop 2 = .ok (.invokevirtual 19, 3) := by decide +kernel
theorem dL_drop_5 : decode cL_drop 5 = .ok (.goto 6, 3) := by decide +kernel
theorem dL_drop_8 : decode cL_drop 8 = .ok (.astore_n 2, 1) := by decide +kernel
theorem dL_drop_9 : decode cL_drop 9 = .ok (.iconst 1, 1) := by decide +kernel
theorem dL_drop_10 : decode cL_drop 10 = .ok (.ireturn, 1) := by decide +kernel
theorem dL_drop_11 : decode cL_drop 11 = .ok (.iconst 0, 1) := by decide +kernel
theorem dL_drop_12 : decode cL_drop 12 = .ok (.ireturn, 1) := by decide +kernel
theorem dL_except_0 : decode cL_except 0 = .ok (.aload 4, 2) := by decide +kernel
theorem dL_except_2 : decode cL_except 2 = .ok (.iconst 0, 1) := by decide +kernel
theorem dL_except_3 : decode cL_except 3 = .ok (.aload_n 0, 1) := by decide +kernel
theorem dL_except_4 : decode cL_except 4 = .ok (.iload_n 1, 1) := by decide +kernel
theorem dL_except_5 : decode cL_except 5 = .ok (.iload_n 2, 1) := by decide +kernel
theorem dL_except_6 : decode cL_except 6 = .ok (.iload_n 3, 1) := by decide +kernel
theorem dL_except_7 : decode cL_except 7 = .ok (.invokevirtual 25, 3) := by decide +kernel
theorem dL_except_10 : decode cL_except 10 = .ok (.ifCond .eq 7, 3) := by decide +kernel
theorem dL_except_13 : decode cL_except 13 = .ok (.lconst 1, 1) := by decide +kernel
theorem dL_except_14 : decode cL_except 14 = .ok (.goto 4, 3) := by decide +kernel
theorem dL_except_17 : decode cL_except 17 = .ok (.lconst 0, 1) := by decide +kernel
theorem dL_except_18 : decode cL_except 18 = .ok (.lastore, 1) := by decide +kernel
theorem dL_except_19 : decode cL_except 19 = .ok (.goto 11, 3) := by decide +kernel
theorem dL_except_22 : decode cL_except 22 = .ok (.astore 5, 2) := by decide +kernel
theorem dL_except_24 : decode cL_except 24 = .ok (.iconst 1, 1) := by decide +kernel
theorem dL_except_25 : decode cL_except 25 = .ok (.ireturn, 1) := by decide +kernel
theorem dL_except_26 : decode cL_except 26 = .ok (.astore 5, 2) := by decide +kernel
theorem dL_except_28 : decode cL_except 28 = .ok (.iconst 2, 1) := by decide +kernel
theorem dL_except_29 : decode cL_except 29 = .ok (.ireturn, 1) := by decide +kernel
theorem dL_except_30 : decode cL_except 30 = .ok (.iconst 0, 1) := by decide +kernel
theorem dL_except_31 : decode cL_except 31 = .ok (.ireturn, 1) := by decide +kernel
theorem dL_besides_0 : decode cL_besides 0 = .ok (.aload 4, 2) := by decide +kernel
theorem dL_besides_2 : decode cL_besides 2 = .ok (.iconst 0, 1) := by decide +kernel
theorem dL_besides_3 : decode cL_besides 3 = .ok (.aload_n 0, 1) := by decide +kernel
theorem dL_besides_4 : decode cL_besides 4 = .ok (.iload_n 1, 1) := by decide +kernel
theorem dL_besides_5 : decode cL_besides 5 = .ok (.iload_n 2, 1) := by decide +kernel
theorem dL_besides_6 : decode cL_besides 6 = .ok (.iload_n 3, 1) := by decide +kernel
theorem dL_besides_7 : decode cL_besides 7 = .ok (.invokevirtual 29, 3) := by decide +kernel
theorem dL_besides_10 : decode cL_besides 10 = .ok (.ifCond .eq 7, 3) := by decide +kernel
theorem dL_besides_13 : decode cL_besides 13 = .ok (.lconst 1, 1) := by decide +kernel
theorem dL_besides_14 : decode cL_besides 14 = .ok (.goto 4, 3) := by decide +kernel
theorem dL_besides_17 : decode cL_besides 17 = .ok (.lconst 0, 1) := by decide +kernel
theorem dL_besides_18 : decode cL_besides 18 = .ok (.lastore, 1) := by decide +kernel
theorem dL_besides_19 : decode cL_besides 19 = .ok (.goto 11, 3) := by decide +kernel
theorem dL_besides_22 : decode cL_besides 22 = .ok (.astore 5, 2) := by decide +kernel
theorem dL_besides_24 : decode cL_besides 24 = .ok (.iconst 1, 1) := by decide +kernel
theorem dL_besides_25 : decode cL_besides 25 = .ok (.ireturn, 1) := by decide +kernel
theorem dL_besides_26 : decode cL_besides 26 = .ok (.astore 5, 2) := by decide +kernel
theorem dL_besides_28 : decode cL_besides 28 = .ok (.iconst 2, 1) := by decide +kernel
theorem dL_besides_29 : decode cL_besides 29 = .ok (.ireturn, 1) := by decide +kernel
theorem dL_besides_30 : decode cL_besides 30 = .ok (.iconst 0, 1) := by decide +kernel
theorem dL_besides_31 : decode cL_besides 31 = .ok (.ireturn, 1) := by decide +kernel
theorem dL_comes_0 : decode cL_comes 0 = .ok (.aload_n 3, 1) := by decide +kernel
theorem dL_comes_1 : decode cL_comes 1 = .ok (.iconst 0, 1) := by decide +kernel
theorem dL_comes_2 : decode cL_comes 2 = .ok (.aload_n 0, 1) := by decide +kernel
theorem dL_comes_3 : decode cL_comes 3 = .ok (.iload_n 1, 1) := by decide +kernel
theorem dL_comes_4 : decode cL_comes 4 = .ok (.iload_n 2, 1) := by decide +kernel
theorem dL_comes_5 : decode cL_comes 5 = .ok (.invokevirtual 32, 3) := by decide +kernel
theorem dL_comes_8 : decode cL_comes 8 = .ok (.ifCond .eq 7, 3) := by decide +kernel
theorem dL_comes_11 : decode cL_comes 11 = .ok (.lconst 1, 1) := by decide +kernel
theorem dL_comes_12 : decode cL_comes 12 = .ok (.goto 4, 3) := by decide +kernel
theorem dL_comes_15 : decode cL_comes 15 = .ok (.lconst 0, 1) := by decide +kernel
theorem dL_comes_16 : decode cL_comes 16 = .ok (.lastore, 1) := by decide +kernel
theorem dL_comes_17 : decode cL_comes 17 = .ok (.goto 11, 3) := by decide +kernel
theorem dL_comes_20 : decode cL_comes 20 = .ok (.astore 4, 2) := by decide +kernel
theorem dL_comes_22 : decode cL_comes 22 = .ok (.iconst 1, 1) := by decide +kernel
theorem dL_comes_23 : decode cL_comes 23 = .ok (.ireturn, 1) := by decide +kernel
theorem dL_comes_24 : decode cL_comes 24 = .ok (.astore 4, 2) := by decide +kernel
theorem dL_comes_26 : decode cL_comes 26 = .ok (.iconst 2, 1) := by decide +kernel
theorem dL_comes_27 : decode cL_comes 27 = .ok (.ireturn, 1) := by decide +kernel
theorem dL_comes_28 : decode cL_comes 28 = .ok (.iconst 0, 1) := by decide +kernel
theorem dL_comes_29 : decode cL_comes 29 = .ok (.ireturn, 1) := by decide +kernel
theorem dL_next_0 : decode cL_next 0 = .ok (.aload_n 3, 1) := by decide +kernel
theorem dL_next_1 : decode cL_next 1 = .ok (.iconst 0, 1) := by decide +kernel
theorem dL_next_2 : decode cL_next 2 = .ok (.aload_n 0, 1) := by decide +kernel
theorem dL_next_3 : decode cL_next 3 = .ok (.iload_n 1, 1) := by decide +kernel
theorem dL_next_4 : decode cL_next 4 = .ok (.iload_n 2, 1) := by decide +kernel
theorem dL_next_5 : decode cL_next 5 = .ok (.invokevirtual 36, 3) := by decide +kernel
theorem dL_next_8 : decode cL_next 8 = .ok (.i2l, 1) := by decide +kernel
theorem dL_next_9 : decode cL_next 9 = .ok (.lastore, 1) := by decide +kernel
theorem dL_next_10 : decode cL_next 10 = .ok (.goto 11, 3) := by decide +kernel
theorem dL_next_13 : decode cL_next 13 = .ok (.astore 4, 2) := by decide +kernel
theorem dL_next_15 : decode cL_next 15 = .ok (.iconst 1, 1) := by decide +kernel
theorem dL_next_16 : decode cL_next 16 = .ok (.ireturn, 1) := by decide +kernel
theorem dL_next_17 : decode cL_next 17 = .ok (.astore 4, 2) := by decide +kernel
theorem dL_next_19 : decode cL_next 19 = .ok (.iconst 2, 1) := by decide +kernel
theorem dL_next_20 : decode cL_next 20 = .ok (.ireturn, 1) := by decide +kernel
theorem dL_next_21 : decode cL_next 21 = .ok (.iconst 0, 1) := by decide +kernel
theorem dL_next_22 : decode cL_next 22 = .ok (.ireturn, 1) := by decide +kernel
theorem dL_date_0 : decode cL_date 0 = .ok (.aload_n 3, 1) := by decide +kernel
theorem dL_date_1 : decode cL_date 1 = .ok (.iconst 0, 1) := by decide +kernel
theorem dL_date_2 : decode cL_date 2 = .ok (.aload_n 0, 1) := by decide +kernel
theorem dL_date_3 : decode cL_date 3 = .ok (.iload_n 1, 1) := by decide +kernel
theorem dL_date_4 : decode cL_date 4 = .ok (.iload_n 2, 1) := by decide +kernel
theorem dL_date_5 : decode cL_date 5 = .ok (.invokevirtual 40, 3) := by decide +kernel
theorem dL_date_8 : decode cL_date 8 = .ok (.i2l, 1) := by decide +kernel
theorem dL_date_9 : decode cL_date 9 = .ok (.lastore, 1) := by decide +kernel
theorem dL_date_10 : decode cL_date 10 = .ok (.goto 11, 3) := by decide +kernel
theorem dL_date_13 : decode cL_date 13 = .ok (.astore 4, 2) := by decide +kernel
theorem dL_date_15 : decode cL_date 15 = .ok (.iconst 1, 1) := by decide +kernel
theorem dL_date_16 : decode cL_date 16 = .ok (.ireturn, 1) := by decide +kernel
theorem dL_date_17 : decode cL_date 17 = .ok (.astore 4, 2) := by decide +kernel
theorem dL_date_19 : decode cL_date 19 = .ok (.iconst 2, 1) := by decide +kernel
theorem dL_date_20 : decode cL_date 20 = .ok (.ireturn, 1) := by decide +kernel
theorem dL_date_21 : decode cL_date 21 = .ok (.iconst 0, 1) := by decide +kernel
theorem dL_date_22 : decode cL_date 22 = .ok (.ireturn, 1) := by decide +kernel
theorem dL_times_0 : decode cL_times 0 = .ok (.aload 4, 2) := by decide +kernel
theorem dL_times_2 : decode cL_times 2 = .ok (.iconst 0, 1) := by decide +kernel
theorem dL_times_3 : decode cL_times 3 = .ok (.aload_n 0, 1) := by decide +kernel
theorem dL_times_4 : decode cL_times 4 = .ok (.iload_n 1, 1) := by decide +kernel
theorem dL_times_5 : decode cL_times 5 = .ok (.iload_n 2, 1) := by decide +kernel
theorem dL_times_6 : decode cL_times 6 = .ok (.iload_n 3, 1) := by decide +kernel
theorem dL_times_7 : decode cL_times 7 = .ok (.invokevirtual 43, 3) := by decide +kernel
theorem dL_times_10 : decode cL_times 10 = .ok (.i2l, 1) := by decide +kernel
theorem dL_times_11 : decode cL_times 11 = .ok (.lastore, 1) := by decide +kernel
theorem dL_times_12 : decode cL_times 12 = .ok (.goto 11, 3) := by decide +kernel
theorem dL_times_15 : decode cL_times 15 = .ok (.astore 5, 2) := by decide +kernel
theorem dL_times_17 : decode cL_times 17 = .ok (.iconst 1, 1) := by decide +kernel
theorem dL_times_18 : decode cL_times 18 = .ok (.ireturn, 1) := by decide +kernel
theorem dL_times_19 : decode cL_times 19 = .ok (.astore 5, 2) := by decide +kernel
theorem dL_times_21 : decode cL_times 21 = .ok (.iconst 2, 1) := by decide +kernel
theorem dL_times_22 : decode cL_times 22 = .ok (.ireturn, 1) := by decide +kernel
theorem dL_times_23 : decode cL_times 23 = .ok (.iconst 0, 1) := by decide +kernel
theorem dL_times_24 : decode cL_times 24 = .ok (.ireturn, 1) := by decide +kernel
theorem dL_list_0 : decode cL_list 0 = .ok (.aload_n 3, 1) := by decide +kernel
theorem dL_list_1 : decode cL_list 1 = .ok (.iconst 0, 1) := by decide +kernel
theorem dL_list_2 : decode cL_list 2 = .ok (.aload_n 0, 1) := by decide +kernel
theorem dL_list_3 : decode cL_list 3 = .ok (.iload_n 1, 1) := by decide +kernel
theorem dL_list_4 : decode cL_list 4 = .ok (.iload_n 2, 1) := by decide +kernel
theorem dL_list_5 : decode cL_list 5 = .ok (.invokevirtual 47, 3) := by decide +kernel
theorem dL_list_8 : decode cL_list 8 = .ok (.i2l, 1) := by decide +kernel
theorem dL_list_9 : decode cL_list 9 = .ok (.lastore, 1) := by decide +kernel
theorem dL_list_10 : decode cL_list 10 = .ok (.goto 7, 3) := by decide +kernel
theorem dL_list_13 : decode cL_list 13 = .ok (.astore 4, 2) := by decide +kernel
theorem dL_list_15 : decode cL_list 15 = .ok (.iconst 1, 1) := by decide +kernel
theorem dL_list_16 : decode cL_list 16 = .ok (.ireturn, 1) := by decide +kernel
theorem dL_list_17 : decode cL_list 17 = .ok (.iconst 0, 1) := by decide +kernel
theorem dL_list_18 : decode cL_list 18 = .ok (.ireturn, 1) := by decide +kernel
theorem dL_item_0 : decode cL_item 0 = .ok (.aload_n 2, 1) := by decide +kernel
theorem dL_item_1 : decode cL_item 1 = .ok (.iconst 0, 1) := by decide +kernel
theorem dL_item_2 : decode cL_item 2 = .ok (.aload_n 0, 1) := by decide +kernel
theorem dL_item_3 : decode cL_item 3 = .ok (.iload_n 1, 1) := by decide +kernel
theorem dL_item_4 : decode cL_item 4 = .ok (.invokevirtual 50, 3) := by decide +kernel
theorem dL_item_7 : decode cL_item 7 = .ok (.lastore, 1) := by decide +kernel
theorem dL_item_8 : decode cL_item 8 = .ok (.goto 6, 3) := by decide +kernel
theorem dL_item_11 : decode cL_item 11 = .ok (.astore_n 3, 1) := by decide +kernel
theorem dL_item_12 : decode cL_item 12 = .ok (.iconst 1, 1) := by decide +kernel
theorem dL_item_13 : decode cL_item 13 = .ok (.ireturn, 1) := by decide +kernel
theorem dL_item_14 : decode cL_item 14 = .ok (.iconst 0, 1) := by decide +kernel
theorem dL_item_15 : decode cL_item 15 = .ok (.ireturn, 1) := by decide +kernel
theorem dL_busiest_0 : decode cL_busiest 0 = .ok (.aload_n 3, 1) := by decide +kernel
theorem dL_busiest_1 : decode cL_busiest 1 = .ok (.iconst 0, 1) := by decide +kernel
theorem dL_busiest_2 : decode cL_busiest 2 = .ok (.aload_n 0, 1) := by decide +kernel
theorem dL_busiest_3 : decode cL_busiest 3 = .ok (.iload_n 1, 1) := by decide +kernel
theorem dL_busiest_4 : decode cL_busiest 4 = .ok (.iload_n 2, 1) := by decide +kernel
theorem dL_busiest_5 : decode cL_busiest 5 = .ok (.invokevirtual 54, 3) := by decide +kernel
theorem dL_busiest_8 : decode cL_busiest 8 = .ok (.i2l, 1) := by decide +kernel
theorem dL_busiest_9 : decode cL_busiest 9 = .ok (.lastore, 1) := by decide +kernel
theorem dL_busiest_10 : decode cL_busiest 10 = .ok (.goto 7, 3) := by decide +kernel
theorem dL_busiest_13 : decode cL_busiest 13 = .ok (.astore 4, 2) := by decide +kernel
theorem dL_busiest_15 : decode cL_busiest 15 = .ok (.iconst 1, 1) := by decide +kernel
theorem dL_busiest_16 : decode cL_busiest 16 = .ok (.ireturn, 1) := by decide +kernel
theorem dL_busiest_17 : decode cL_busiest 17 = .ok (.iconst 0, 1) := by decide +kernel
theorem dL_busiest_18 : decode cL_busiest 18 = .ok (.ireturn, 1) := by decide +kernel
theorem dL_quiet_0 : decode cL_quiet 0 = .ok (.aload_n 3, 1) := by decide +kernel
theorem dL_quiet_1 : decode cL_quiet 1 = .ok (.iconst 0, 1) := by decide +kernel
theorem dL_quiet_2 : decode cL_quiet 2 = .ok (.aload_n 0, 1) := by decide +kernel
theorem dL_quiet_3 : decode cL_quiet 3 = .ok (.iload_n 1, 1) := by decide +kernel
theorem dL_quiet_4 : decode cL_quiet 4 = .ok (.iload_n 2, 1) := by decide +kernel
theorem dL_quiet_5 : decode cL_quiet 5 = .ok (.invokevirtual 57, 3) := by decide +kernel
theorem dL_quiet_8 : decode cL_quiet 8 = .ok (.i2l, 1) := by decide +kernel
theorem dL_quiet_9 : decode cL_quiet 9 = .ok (.lastore, 1) := by decide +kernel
theorem dL_quiet_10 : decode cL_quiet 10 = .ok (.goto 7, 3) := by decide +kernel
theorem dL_quiet_13 : decode cL_quiet 13 = .ok (.astore 4, 2) := by decide +kernel
theorem dL_quiet_15 : decode cL_quiet 15 = .ok (.iconst 1, 1) := by decide +kernel
theorem dL_quiet_16 : decode cL_quiet 16 = .ok (.ireturn, 1) := by decide +kernel
theorem dL_quiet_17 : decode cL_quiet 17 = .ok (.iconst 0, 1) := by decide +kernel
theorem dL_quiet_18 : decode cL_quiet 18 = .ok (.ireturn, 1) := by decide +kernel
theorem dL_shifted_0 : decode cL_shifted 0 = .ok (.aload_n 3, 1) := by decide +kernel
theorem dL_shifted_1 : decode cL_shifted 1 = .ok (.iconst 0, 1) := by decide +kernel
theorem dL_shifted_2 : decode cL_shifted 2 = .ok (.aload_n 0, 1) := by decide +kernel
theorem dL_shifted_3 : decode cL_shifted 3 = .ok (.iload_n 1, 1) := by decide +kernel
theorem dL_shifted_4 : decode cL_shifted 4 = .ok (.iload_n 2, 1) := by decide +kernel
theorem dL_shifted_5 : decode cL_shifted 5 = .ok (.invokevirtual 60, 3) := by decide +kernel
theorem dL_shifted_8 : decode cL_shifted 8 = .ok (.i2l, 1) := by decide +kernel
theorem dL_shifted_9 : decode cL_shifted 9 = .ok (.lastore, 1) := by decide +kernel
theorem dL_shifted_10 : decode cL_shifted 10 = .ok (.goto 7, 3) := by decide +kernel
theorem dL_shifted_13 : decode cL_shifted 13 = .ok (.astore 4, 2) := by decide +kernel
theorem dL_shifted_15 : decode cL_shifted 15 = .ok (.iconst 1, 1) := by decide +kernel
theorem dL_shifted_16 : decode cL_shifted 16 = .ok (.ireturn, 1) := by decide +kernel
theorem dL_shifted_17 : decode cL_shifted 17 = .ok (.iconst 0, 1) := by decide +kernel
theorem dL_shifted_18 : decode cL_shifted 18 = .ok (.ireturn, 1) := by decide +kernel
theorem dL_law_0 : decode cL_law 0 = .ok (.new 8, 3) := by decide +kernel
theorem dL_law_3 : decode cL_law 3 = .ok (.dup, 1) := by decide +kernel
theorem dL_law_4 : decode cL_law 4 = .ok (.invokespecial 63, 3) := by decide +kernel
theorem dL_law_7 : decode cL_law 7 = .ok (.astore_n 1, 1) := by decide +kernel
theorem dL_law_8 : decode cL_law 8 = .ok (.new 64, 3) := by decide +kernel
theorem dL_law_11 : decode cL_law 11 = .ok (.dup, 1) := by decide +kernel
theorem dL_law_12 : decode cL_law 12 = .ok (.invokespecial 66, 3) := by decide +kernel
theorem dL_law_15 : decode cL_law 15 = .ok (.astore_n 2, 1) := by decide +kernel
theorem dL_law_16 : decode cL_law 16 = .ok (.iconst 1, 1) := by decide +kernel
theorem dL_law_17 : decode cL_law 17 = .ok (.newarray .long, 2) := by decide +kernel
theorem dL_law_19 : decode cL_law 19 = .ok (.astore_n 3, 1) := by decide +kernel
theorem dL_law_20 : decode cL_law 20 = .ok (.iconst 0, 1) := by decide +kernel
theorem dL_law_21 : decode cL_law 21 = .ok (.istore 4, 2) := by decide +kernel
theorem dL_law_23 : decode cL_law 23 = .ok (.iload 4, 2) := by decide +kernel
theorem dL_law_25 : decode cL_law 25 = .ok (.aload_n 0, 1) := by decide +kernel
theorem dL_law_26 : decode cL_law 26 = .ok (.arraylength, 1) := by decide +kernel
theorem dL_law_27 : decode cL_law 27 = .ok (.iconst 4, 1) := by decide +kernel
theorem dL_law_28 : decode cL_law 28 = .ok (.isub, 1) := by decide +kernel
theorem dL_law_29 : decode cL_law 29 = .ok (.if_icmp .gt 1152, 3) := by decide +kernel
theorem dL_law_32 : decode cL_law 32 = .ok (.aload_n 0, 1) := by decide +kernel
theorem dL_law_33 : decode cL_law 33 = .ok (.iload 4, 2) := by decide +kernel
theorem dL_law_35 : decode cL_law 35 = .ok (.iaload, 1) := by decide +kernel
theorem dL_law_36 : decode cL_law 36 = .ok (.bipush 31, 2) := by decide +kernel
theorem dL_law_38 : decode cL_law 38 = .ok (.iand, 1) := by decide +kernel
theorem dL_law_39 : decode cL_law 39 = .ok (.tableswitch 1136 0 16 #[81, 181, 194, 250, 263, 276, 312, 415, 518, 593, 661, 729, 809, 877, 932, 1000, 1068], 81) := by decide +kernel
theorem dL_law_120 : decode cL_law 120 = .ok (.aload_n 1, 1) := by decide +kernel
theorem dL_law_121 : decode cL_law 121 = .ok (.aload_n 0, 1) := by decide +kernel
theorem dL_law_122 : decode cL_law 122 = .ok (.iload 4, 2) := by decide +kernel
theorem dL_law_124 : decode cL_law 124 = .ok (.iconst 1, 1) := by decide +kernel
theorem dL_law_125 : decode cL_law 125 = .ok (.iadd, 1) := by decide +kernel
theorem dL_law_126 : decode cL_law 126 = .ok (.iaload, 1) := by decide +kernel
theorem dL_law_127 : decode cL_law 127 = .ok (.aload_n 0, 1) := by decide +kernel
theorem dL_law_128 : decode cL_law 128 = .ok (.iload 4, 2) := by decide +kernel
theorem dL_law_130 : decode cL_law 130 = .ok (.iconst 2, 1) := by decide +kernel
theorem dL_law_131 : decode cL_law 131 = .ok (.iadd, 1) := by decide +kernel
theorem dL_law_132 : decode cL_law 132 = .ok (.iaload, 1) := by decide +kernel
theorem dL_law_133 : decode cL_law 133 = .ok (.i2l, 1) := by decide +kernel
theorem dL_law_134 : decode cL_law 134 = .ok (.bipush 32, 2) := by decide +kernel
theorem dL_law_136 : decode cL_law 136 = .ok (.lshl, 1) := by decide +kernel
theorem dL_law_137 : decode cL_law 137 = .ok (.aload_n 0, 1) := by decide +kernel
theorem dL_law_138 : decode cL_law 138 = .ok (.iload 4, 2) := by decide +kernel
theorem dL_law_140 : decode cL_law 140 = .ok (.iconst 3, 1) := by decide +kernel
theorem dL_law_141 : decode cL_law 141 = .ok (.iadd, 1) := by decide +kernel
theorem dL_law_142 : decode cL_law 142 = .ok (.iaload, 1) := by decide +kernel
theorem dL_law_143 : decode cL_law 143 = .ok (.i2l, 1) := by decide +kernel
theorem dL_law_144 : decode cL_law 144 = .ok (.ldc2_w 67, 3) := by decide +kernel
theorem dL_law_147 : decode cL_law 147 = .ok (.land, 1) := by decide +kernel
theorem dL_law_148 : decode cL_law 148 = .ok (.lor, 1) := by decide +kernel
theorem dL_law_149 : decode cL_law 149 = .ok (.aload_n 3, 1) := by decide +kernel
theorem dL_law_150 : decode cL_law 150 = .ok (.invokestatic 69, 3) := by decide +kernel
theorem dL_law_153 : decode cL_law 153 = .ok (.istore 5, 2) := by decide +kernel
theorem dL_law_155 : decode cL_law 155 = .ok (.aload_n 2, 1) := by decide +kernel
theorem dL_law_156 : decode cL_law 156 = .ok (.aload_n 0, 1) := by decide +kernel
theorem dL_law_157 : decode cL_law 157 = .ok (.iload 4, 2) := by decide +kernel
theorem dL_law_159 : decode cL_law 159 = .ok (.iconst 1, 1) := by decide +kernel
theorem dL_law_160 : decode cL_law 160 = .ok (.iadd, 1) := by decide +kernel
theorem dL_law_161 : decode cL_law 161 = .ok (.iaload, 1) := by decide +kernel
theorem dL_law_162 : decode cL_law 162 = .ok (.aload_n 0, 1) := by decide +kernel
theorem dL_law_163 : decode cL_law 163 = .ok (.iload 4, 2) := by decide +kernel
theorem dL_law_165 : decode cL_law 165 = .ok (.iconst 2, 1) := by decide +kernel
theorem dL_law_166 : decode cL_law 166 = .ok (.iadd, 1) := by decide +kernel
theorem dL_law_167 : decode cL_law 167 = .ok (.iaload, 1) := by decide +kernel
theorem dL_law_168 : decode cL_law 168 = .ok (.i2l, 1) := by decide +kernel
theorem dL_law_169 : decode cL_law 169 = .ok (.bipush 32, 2) := by decide +kernel
theorem dL_law_171 : decode cL_law 171 = .ok (.lshl, 1) := by decide +kernel
theorem dL_law_172 : decode cL_law 172 = .ok (.aload_n 0, 1) := by decide +kernel
theorem dL_law_173 : decode cL_law 173 = .ok (.iload 4, 2) := by decide +kernel
theorem dL_law_175 : decode cL_law 175 = .ok (.iconst 3, 1) := by decide +kernel
theorem dL_law_176 : decode cL_law 176 = .ok (.iadd, 1) := by decide +kernel
theorem dL_law_177 : decode cL_law 177 = .ok (.iaload, 1) := by decide +kernel
theorem dL_law_178 : decode cL_law 178 = .ok (.i2l, 1) := by decide +kernel
theorem dL_law_179 : decode cL_law 179 = .ok (.ldc2_w 67, 3) := by decide +kernel
theorem dL_law_182 : decode cL_law 182 = .ok (.land, 1) := by decide +kernel
theorem dL_law_183 : decode cL_law 183 = .ok (.lor, 1) := by decide +kernel
theorem dL_law_184 : decode cL_law 184 = .ok (.invokevirtual 74, 3) := by decide +kernel
theorem dL_law_187 : decode cL_law 187 = .ok (.istore 6, 2) := by decide +kernel
theorem dL_law_189 : decode cL_law 189 = .ok (.aload_n 2, 1) := by decide +kernel
theorem dL_law_190 : decode cL_law 190 = .ok (.invokevirtual 75, 3) := by decide +kernel
theorem dL_law_193 : decode cL_law 193 = .ok (.iload 5, 2) := by decide +kernel
theorem dL_law_195 : decode cL_law 195 = .ok (.if_icmp .eq 5, 3) := by decide +kernel
theorem dL_law_198 : decode cL_law 198 = .ok (.iconst 0, 1) := by decide +kernel
theorem dL_law_199 : decode cL_law 199 = .ok (.ireturn, 1) := by decide +kernel
theorem dL_law_200 : decode cL_law 200 = .ok (.iload 5, 2) := by decide +kernel
theorem dL_law_202 : decode cL_law 202 = .ok (.ifCond .ne 15, 3) := by decide +kernel
theorem dL_law_205 : decode cL_law 205 = .ok (.aload_n 3, 1) := by decide +kernel
theorem dL_law_206 : decode cL_law 206 = .ok (.iconst 0, 1) := by decide +kernel
theorem dL_law_207 : decode cL_law 207 = .ok (.laload, 1) := by decide +kernel
theorem dL_law_208 : decode cL_law 208 = .ok (.iload 6, 2) := by decide +kernel
theorem dL_law_210 : decode cL_law 210 = .ok (.i2l, 1) := by decide +kernel
theorem dL_law_211 : decode cL_law 211 = .ok (.lcmp, 1) := by decide +kernel
theorem dL_law_212 : decode cL_law 212 = .ok (.ifCond .eq 5, 3) := by decide +kernel
theorem dL_law_215 : decode cL_law 215 = .ok (.iconst 0, 1) := by decide +kernel
theorem dL_law_216 : decode cL_law 216 = .ok (.ireturn, 1) := by decide +kernel
theorem dL_law_217 : decode cL_law 217 = .ok (.goto 958, 3) := by decide +kernel
theorem dL_law_220 : decode cL_law 220 = .ok (.aload_n 1, 1) := by decide +kernel
theorem dL_law_221 : decode cL_law 221 = .ok (.invokevirtual 79, 3) := by decide +kernel
theorem dL_law_224 : decode cL_law 224 = .ok (.aload_n 2, 1) := by decide +kernel
theorem dL_law_225 : decode cL_law 225 = .ok (.invokevirtual 82, 3) := by decide +kernel
theorem dL_law_228 : decode cL_law 228 = .ok (.if_icmp .eq 947, 3) := by decide +kernel
theorem dL_law_231 : decode cL_law 231 = .ok (.iconst 0, 1) := by decide +kernel
theorem dL_law_232 : decode cL_law 232 = .ok (.ireturn, 1) := by decide +kernel
theorem dL_law_233 : decode cL_law 233 = .ok (.aload_n 1, 1) := by decide +kernel
theorem dL_law_234 : decode cL_law 234 = .ok (.aload_n 0, 1) := by decide +kernel
theorem dL_law_235 : decode cL_law 235 = .ok (.iload 4, 2) := by decide +kernel
theorem dL_law_237 : decode cL_law 237 = .ok (.iconst 1, 1) := by decide +kernel
theorem dL_law_238 : decode cL_law 238 = .ok (.iadd, 1) := by decide +kernel
theorem dL_law_239 : decode cL_law 239 = .ok (.iaload, 1) := by decide +kernel
theorem dL_law_240 : decode cL_law 240 = .ok (.aload_n 3, 1) := by decide +kernel
theorem dL_law_241 : decode cL_law 241 = .ok (.invokestatic 83, 3) := by decide +kernel
theorem dL_law_244 : decode cL_law 244 = .ok (.istore 5, 2) := by decide +kernel
theorem dL_law_246 : decode cL_law 246 = .ok (.aload_n 2, 1) := by decide +kernel
theorem dL_law_247 : decode cL_law 247 = .ok (.aload_n 0, 1) := by decide +kernel
theorem dL_law_248 : decode cL_law 248 = .ok (.iload 4, 2) := by decide +kernel
theorem dL_law_250 : decode cL_law 250 = .ok (.iconst 1, 1) := by decide +kernel
theorem dL_law_251 : decode cL_law 251 = .ok (.iadd, 1) := by decide +kernel
theorem dL_law_252 : decode cL_law 252 = .ok (.iaload, 1) := by decide +kernel
theorem dL_law_253 : decode cL_law 253 = .ok (.invokevirtual 86, 3) := by decide +kernel
theorem dL_law_256 : decode cL_law 256 = .ok (.istore 6, 2) := by decide +kernel
theorem dL_law_258 : decode cL_law 258 = .ok (.aload_n 2, 1) := by decide +kernel
theorem dL_law_259 : decode cL_law 259 = .ok (.invokevirtual 75, 3) := by decide +kernel
theorem dL_law_262 : decode cL_law 262 = .ok (.iload 5, 2) := by decide +kernel
theorem dL_law_264 : decode cL_law 264 = .ok (.if_icmp .eq 5, 3) := by decide +kernel
theorem dL_law_267 : decode cL_law 267 = .ok (.iconst 0, 1) := by decide +kernel
theorem dL_law_268 : decode cL_law 268 = .ok (.ireturn, 1) := by decide +kernel
theorem dL_law_269 : decode cL_law 269 = .ok (.iload 5, 2) := by decide +kernel
theorem dL_law_271 : decode cL_law 271 = .ok (.ifCond .ne 15, 3) := by decide +kernel
theorem dL_law_274 : decode cL_law 274 = .ok (.aload_n 3, 1) := by decide +kernel
theorem dL_law_275 : decode cL_law 275 = .ok (.iconst 0, 1) := by decide +kernel
theorem dL_law_276 : decode cL_law 276 = .ok (.laload, 1) := by decide +kernel
theorem dL_law_277 : decode cL_law 277 = .ok (.iload 6, 2) := by decide +kernel
theorem dL_law_279 : decode cL_law 279 = .ok (.i2l, 1) := by decide +kernel
theorem dL_law_280 : decode cL_law 280 = .ok (.lcmp, 1) := by decide +kernel
theorem dL_law_281 : decode cL_law 281 = .ok (.ifCond .eq 5, 3) := by decide +kernel
theorem dL_law_284 : decode cL_law 284 = .ok (.iconst 0, 1) := by decide +kernel
theorem dL_law_285 : decode cL_law 285 = .ok (.ireturn, 1) := by decide +kernel
theorem dL_law_286 : decode cL_law 286 = .ok (.goto 889, 3) := by decide +kernel
theorem dL_law_289 : decode cL_law 289 = .ok (.aload_n 1, 1) := by decide +kernel
theorem dL_law_290 : decode cL_law 290 = .ok (.invokevirtual 87, 3) := by decide +kernel
theorem dL_law_293 : decode cL_law 293 = .ok (.aload_n 2, 1) := by decide +kernel
theorem dL_law_294 : decode cL_law 294 = .ok (.invokevirtual 90, 3) := by decide +kernel
theorem dL_law_297 : decode cL_law 297 = .ok (.if_icmp .eq 878, 3) := by decide +kernel
theorem dL_law_300 : decode cL_law 300 = .ok (.iconst 0, 1) := by decide +kernel
theorem dL_law_301 : decode cL_law 301 = .ok (.ireturn, 1) := by decide +kernel
theorem dL_law_302 : decode cL_law 302 = .ok (.aload_n 1, 1) := by decide +kernel
theorem dL_law_303 : decode cL_law 303 = .ok (.invokevirtual 91, 3) := by decide +kernel
theorem dL_law_306 : decode cL_law 306 = .ok (.aload_n 2, 1) := by decide +kernel
theorem dL_law_307 : decode cL_law 307 = .ok (.invokevirtual 94, 3) := by decide +kernel
theorem dL_law_310 : decode cL_law 310 = .ok (.if_icmp .eq 865, 3) := by decide +kernel
theorem dL_law_313 : decode cL_law 313 = .ok (.iconst 0, 1) := by decide +kernel
theorem dL_law_314 : decode cL_law 314 = .ok (.ireturn, 1) := by decide +kernel
theorem dL_law_315 : decode cL_law 315 = .ok (.aload_n 1, 1) := by decide +kernel
theorem dL_law_316 : decode cL_law 316 = .ok (.aload_n 0, 1) := by decide +kernel
theorem dL_law_317 : decode cL_law 317 = .ok (.iload 4, 2) := by decide +kernel
theorem dL_law_319 : decode cL_law 319 = .ok (.iconst 1, 1) := by decide +kernel
theorem dL_law_320 : decode cL_law 320 = .ok (.iadd, 1) := by decide +kernel
theorem dL_law_321 : decode cL_law 321 = .ok (.iaload, 1) := by decide +kernel
theorem dL_law_322 : decode cL_law 322 = .ok (.invokestatic 95, 3) := by decide +kernel
theorem dL_law_325 : decode cL_law 325 = .ok (.istore 5, 2) := by decide +kernel
theorem dL_law_327 : decode cL_law 327 = .ok (.aload_n 2, 1) := by decide +kernel
theorem dL_law_328 : decode cL_law 328 = .ok (.aload_n 0, 1) := by decide +kernel
theorem dL_law_329 : decode cL_law 329 = .ok (.iload 4, 2) := by decide +kernel
theorem dL_law_331 : decode cL_law 331 = .ok (.iconst 1, 1) := by decide +kernel
theorem dL_law_332 : decode cL_law 332 = .ok (.iadd, 1) := by decide +kernel
theorem dL_law_333 : decode cL_law 333 = .ok (.iaload, 1) := by decide +kernel
theorem dL_law_334 : decode cL_law 334 = .ok (.invokevirtual 98, 3) := by decide +kernel
theorem dL_law_337 : decode cL_law 337 = .ok (.aload_n 2, 1) := by decide +kernel
theorem dL_law_338 : decode cL_law 338 = .ok (.invokevirtual 75, 3) := by decide +kernel
theorem dL_law_341 : decode cL_law 341 = .ok (.iload 5, 2) := by decide +kernel
theorem dL_law_343 : decode cL_law 343 = .ok (.if_icmp .eq 5, 3) := by decide +kernel
theorem dL_law_346 : decode cL_law 346 = .ok (.iconst 0, 1) := by decide +kernel
theorem dL_law_347 : decode cL_law 347 = .ok (.ireturn, 1) := by decide +kernel
theorem dL_law_348 : decode cL_law 348 = .ok (.goto 827, 3) := by decide +kernel
theorem dL_law_351 : decode cL_law 351 = .ok (.aload_n 1, 1) := by decide +kernel
theorem dL_law_352 : decode cL_law 352 = .ok (.aload_n 0, 1) := by decide +kernel
theorem dL_law_353 : decode cL_law 353 = .ok (.iload 4, 2) := by decide +kernel
theorem dL_law_355 : decode cL_law 355 = .ok (.iconst 1, 1) := by decide +kernel
theorem dL_law_356 : decode cL_law 356 = .ok (.iadd, 1) := by decide +kernel
theorem dL_law_357 : decode cL_law 357 = .ok (.iaload, 1) := by decide +kernel
theorem dL_law_358 : decode cL_law 358 = .ok (.aload_n 0, 1) := by decide +kernel
theorem dL_law_359 : decode cL_law 359 = .ok (.iload 4, 2) := by decide +kernel
theorem dL_law_361 : decode cL_law 361 = .ok (.iconst 2, 1) := by decide +kernel
theorem dL_law_362 : decode cL_law 362 = .ok (.iadd, 1) := by decide +kernel
theorem dL_law_363 : decode cL_law 363 = .ok (.iaload, 1) := by decide +kernel
theorem dL_law_364 : decode cL_law 364 = .ok (.aload_n 0, 1) := by decide +kernel
theorem dL_law_365 : decode cL_law 365 = .ok (.iload 4, 2) := by decide +kernel
theorem dL_law_367 : decode cL_law 367 = .ok (.iconst 3, 1) := by decide +kernel
theorem dL_law_368 : decode cL_law 368 = .ok (.iadd, 1) := by decide +kernel
theorem dL_law_369 : decode cL_law 369 = .ok (.iaload, 1) := by decide +kernel
theorem dL_law_370 : decode cL_law 370 = .ok (.ifCond .eq 7, 3) := by decide +kernel
theorem dL_law_373 : decode cL_law 373 = .ok (.iconst 1, 1) := by decide +kernel
theorem dL_law_374 : decode cL_law 374 = .ok (.goto 4, 3) := by decide +kernel
theorem dL_law_377 : decode cL_law 377 = .ok (.iconst 0, 1) := by decide +kernel
theorem dL_law_378 : decode cL_law 378 = .ok (.aload_n 3, 1) := by decide +kernel
theorem dL_law_379 : decode cL_law 379 = .ok (.invokestatic 99, 3) := by decide +kernel
theorem dL_law_382 : decode cL_law 382 = .ok (.istore 5, 2) := by decide +kernel
theorem dL_law_384 : decode cL_law 384 = .ok (.aload_n 2, 1) := by decide +kernel
theorem dL_law_385 : decode cL_law 385 = .ok (.aload_n 0, 1) := by decide +kernel
theorem dL_law_386 : decode cL_law 386 = .ok (.iload 4, 2) := by decide +kernel
theorem dL_law_388 : decode cL_law 388 = .ok (.iconst 1, 1) := by decide +kernel
theorem dL_law_389 : decode cL_law 389 = .ok (.iadd, 1) := by decide +kernel
theorem dL_law_390 : decode cL_law 390 = .ok (.iaload, 1) := by decide +kernel
theorem dL_law_391 : decode cL_law 391 = .ok (.aload_n 0, 1) := by decide +kernel
theorem dL_law_392 : decode cL_law 392 = .ok (.iload 4, 2) := by decide +kernel
theorem dL_law_394 : decode cL_law 394 = .ok (.iconst 2, 1) := by decide +kernel
theorem dL_law_395 : decode cL_law 395 = .ok (.iadd, 1) := by decide +kernel
theorem dL_law_396 : decode cL_law 396 = .ok (.iaload, 1) := by decide +kernel
theorem dL_law_397 : decode cL_law 397 = .ok (.aload_n 0, 1) := by decide +kernel
theorem dL_law_398 : decode cL_law 398 = .ok (.iload 4, 2) := by decide +kernel
theorem dL_law_400 : decode cL_law 400 = .ok (.iconst 3, 1) := by decide +kernel
theorem dL_law_401 : decode cL_law 401 = .ok (.iadd, 1) := by decide +kernel
theorem dL_law_402 : decode cL_law 402 = .ok (.iaload, 1) := by decide +kernel
theorem dL_law_403 : decode cL_law 403 = .ok (.ifCond .eq 7, 3) := by decide +kernel
theorem dL_law_406 : decode cL_law 406 = .ok (.iconst 1, 1) := by decide +kernel
theorem dL_law_407 : decode cL_law 407 = .ok (.goto 4, 3) := by decide +kernel
theorem dL_law_410 : decode cL_law 410 = .ok (.iconst 0, 1) := by decide +kernel
theorem dL_law_411 : decode cL_law 411 = .ok (.invokevirtual 102, 3) := by decide +kernel
theorem dL_law_414 : decode cL_law 414 = .ok (.istore 6, 2) := by decide +kernel
theorem dL_law_416 : decode cL_law 416 = .ok (.aload_n 2, 1) := by decide +kernel
theorem dL_law_417 : decode cL_law 417 = .ok (.invokevirtual 75, 3) := by decide +kernel
theorem dL_law_420 : decode cL_law 420 = .ok (.iload 5, 2) := by decide +kernel
theorem dL_law_422 : decode cL_law 422 = .ok (.if_icmp .eq 5, 3) := by decide +kernel
theorem dL_law_425 : decode cL_law 425 = .ok (.iconst 0, 1) := by decide +kernel
theorem dL_law_426 : decode cL_law 426 = .ok (.ireturn, 1) := by decide +kernel
theorem dL_law_427 : decode cL_law 427 = .ok (.iload 5, 2) := by decide +kernel
theorem dL_law_429 : decode cL_law 429 = .ok (.ifCond .ne 22, 3) := by decide +kernel
theorem dL_law_432 : decode cL_law 432 = .ok (.aload_n 3, 1) := by decide +kernel
theorem dL_law_433 : decode cL_law 433 = .ok (.iconst 0, 1) := by decide +kernel
theorem dL_law_434 : decode cL_law 434 = .ok (.laload, 1) := by decide +kernel
theorem dL_law_435 : decode cL_law 435 = .ok (.iload 6, 2) := by decide +kernel
theorem dL_law_437 : decode cL_law 437 = .ok (.ifCond .eq 7, 3) := by decide +kernel
theorem dL_law_440 : decode cL_law 440 = .ok (.lconst 1, 1) := by decide +kernel
theorem dL_law_441 : decode cL_law 441 = .ok (.goto 4, 3) := by decide +kernel
theorem dL_law_444 : decode cL_law 444 = .ok (.lconst 0, 1) := by decide +kernel
theorem dL_law_445 : decode cL_law 445 = .ok (.lcmp, 1) := by decide +kernel
theorem dL_law_446 : decode cL_law 446 = .ok (.ifCond .eq 5, 3) := by decide +kernel
theorem dL_law_449 : decode cL_law 449 = .ok (.iconst 0, 1) := by decide +kernel
theorem dL_law_450 : decode cL_law 450 = .ok (.ireturn, 1) := by decide +kernel
theorem dL_law_451 : decode cL_law 451 = .ok (.goto 724, 3) := by decide +kernel
theorem dL_law_454 : decode cL_law 454 = .ok (.aload_n 1, 1) := by decide +kernel
theorem dL_law_455 : decode cL_law 455 = .ok (.aload_n 0, 1) := by decide +kernel
theorem dL_law_456 : decode cL_law 456 = .ok (.iload 4, 2) := by decide +kernel
theorem dL_law_458 : decode cL_law 458 = .ok (.iconst 1, 1) := by decide +kernel
theorem dL_law_459 : decode cL_law 459 = .ok (.iadd, 1) := by decide +kernel
theorem dL_law_460 : decode cL_law 460 = .ok (.iaload, 1) := by decide +kernel
theorem dL_law_461 : decode cL_law 461 = .ok (.aload_n 0, 1) := by decide +kernel
theorem dL_law_462 : decode cL_law 462 = .ok (.iload 4, 2) := by decide +kernel
theorem dL_law_464 : decode cL_law 464 = .ok (.iconst 2, 1) := by decide +kernel
theorem dL_law_465 : decode cL_law 465 = .ok (.iadd, 1) := by decide +kernel
theorem dL_law_466 : decode cL_law 466 = .ok (.iaload, 1) := by decide +kernel
theorem dL_law_467 : decode cL_law 467 = .ok (.aload_n 0, 1) := by decide +kernel
theorem dL_law_468 : decode cL_law 468 = .ok (.iload 4, 2) := by decide +kernel
theorem dL_law_470 : decode cL_law 470 = .ok (.iconst 3, 1) := by decide +kernel
theorem dL_law_471 : decode cL_law 471 = .ok (.iadd, 1) := by decide +kernel
theorem dL_law_472 : decode cL_law 472 = .ok (.iaload, 1) := by decide +kernel
theorem dL_law_473 : decode cL_law 473 = .ok (.ifCond .eq 7, 3) := by decide +kernel
theorem dL_law_476 : decode cL_law 476 = .ok (.iconst 1, 1) := by decide +kernel
theorem dL_law_477 : decode cL_law 477 = .ok (.goto 4, 3) := by decide +kernel
theorem dL_law_480 : decode cL_law 480 = .ok (.iconst 0, 1) := by decide +kernel
theorem dL_law_481 : decode cL_law 481 = .ok (.aload_n 3, 1) := by decide +kernel
theorem dL_law_482 : decode cL_law 482 = .ok (.invokestatic 103, 3) := by decide +kernel
theorem dL_law_485 : decode cL_law 485 = .ok (.istore 5, 2) := by decide +kernel
theorem dL_law_487 : decode cL_law 487 = .ok (.aload_n 2, 1) := by decide +kernel
theorem dL_law_488 : decode cL_law 488 = .ok (.aload_n 0, 1) := by decide +kernel
theorem dL_law_489 : decode cL_law 489 = .ok (.iload 4, 2) := by decide +kernel
theorem dL_law_491 : decode cL_law 491 = .ok (.iconst 1, 1) := by decide +kernel
theorem dL_law_492 : decode cL_law 492 = .ok (.iadd, 1) := by decide +kernel
theorem dL_law_493 : decode cL_law 493 = .ok (.iaload, 1) := by decide +kernel
theorem dL_law_494 : decode cL_law 494 = .ok (.aload_n 0, 1) := by decide +kernel
theorem dL_law_495 : decode cL_law 495 = .ok (.iload 4, 2) := by decide +kernel
theorem dL_law_497 : decode cL_law 497 = .ok (.iconst 2, 1) := by decide +kernel
theorem dL_law_498 : decode cL_law 498 = .ok (.iadd, 1) := by decide +kernel
theorem dL_law_499 : decode cL_law 499 = .ok (.iaload, 1) := by decide +kernel
theorem dL_law_500 : decode cL_law 500 = .ok (.aload_n 0, 1) := by decide +kernel
theorem dL_law_501 : decode cL_law 501 = .ok (.iload 4, 2) := by decide +kernel
theorem dL_law_503 : decode cL_law 503 = .ok (.iconst 3, 1) := by decide +kernel
theorem dL_law_504 : decode cL_law 504 = .ok (.iadd, 1) := by decide +kernel
theorem dL_law_505 : decode cL_law 505 = .ok (.iaload, 1) := by decide +kernel
theorem dL_law_506 : decode cL_law 506 = .ok (.ifCond .eq 7, 3) := by decide +kernel
theorem dL_law_509 : decode cL_law 509 = .ok (.iconst 1, 1) := by decide +kernel
theorem dL_law_510 : decode cL_law 510 = .ok (.goto 4, 3) := by decide +kernel
theorem dL_law_513 : decode cL_law 513 = .ok (.iconst 0, 1) := by decide +kernel
theorem dL_law_514 : decode cL_law 514 = .ok (.invokevirtual 105, 3) := by decide +kernel
theorem dL_law_517 : decode cL_law 517 = .ok (.istore 6, 2) := by decide +kernel
theorem dL_law_519 : decode cL_law 519 = .ok (.aload_n 2, 1) := by decide +kernel
theorem dL_law_520 : decode cL_law 520 = .ok (.invokevirtual 75, 3) := by decide +kernel
theorem dL_law_523 : decode cL_law 523 = .ok (.iload 5, 2) := by decide +kernel
theorem dL_law_525 : decode cL_law 525 = .ok (.if_icmp .eq 5, 3) := by decide +kernel
theorem dL_law_528 : decode cL_law 528 = .ok (.iconst 0, 1) := by decide +kernel
theorem dL_law_529 : decode cL_law 529 = .ok (.ireturn, 1) := by decide +kernel
theorem dL_law_530 : decode cL_law 530 = .ok (.iload 5, 2) := by decide +kernel
theorem dL_law_532 : decode cL_law 532 = .ok (.ifCond .ne 22, 3) := by decide +kernel
theorem dL_law_535 : decode cL_law 535 = .ok (.aload_n 3, 1) := by decide +kernel
theorem dL_law_536 : decode cL_law 536 = .ok (.iconst 0, 1) := by decide +kernel
theorem dL_law_537 : decode cL_law 537 = .ok (.laload, 1) := by decide +kernel
theorem dL_law_538 : decode cL_law 538 = .ok (.iload 6, 2) := by decide +kernel
theorem dL_law_540 : decode cL_law 540 = .ok (.ifCond .eq 7, 3) := by decide +kernel
theorem dL_law_543 : decode cL_law 543 = .ok (.lconst 1, 1) := by decide +kernel
theorem dL_law_544 : decode cL_law 544 = .ok (.goto 4, 3) := by decide +kernel
theorem dL_law_547 : decode cL_law 547 = .ok (.lconst 0, 1) := by decide +kernel
theorem dL_law_548 : decode cL_law 548 = .ok (.lcmp, 1) := by decide +kernel
theorem dL_law_549 : decode cL_law 549 = .ok (.ifCond .eq 5, 3) := by decide +kernel
theorem dL_law_552 : decode cL_law 552 = .ok (.iconst 0, 1) := by decide +kernel
theorem dL_law_553 : decode cL_law 553 = .ok (.ireturn, 1) := by decide +kernel
theorem dL_law_554 : decode cL_law 554 = .ok (.goto 621, 3) := by decide +kernel
theorem dL_law_557 : decode cL_law 557 = .ok (.aload_n 1, 1) := by decide +kernel
theorem dL_law_558 : decode cL_law 558 = .ok (.aload_n 0, 1) := by decide +kernel
theorem dL_law_559 : decode cL_law 559 = .ok (.iload 4, 2) := by decide +kernel
theorem dL_law_561 : decode cL_law 561 = .ok (.iconst 1, 1) := by decide +kernel
theorem dL_law_562 : decode cL_law 562 = .ok (.iadd, 1) := by decide +kernel
theorem dL_law_563 : decode cL_law 563 = .ok (.iaload, 1) := by decide +kernel
theorem dL_law_564 : decode cL_law 564 = .ok (.aload_n 0, 1) := by decide +kernel
theorem dL_law_565 : decode cL_law 565 = .ok (.iload 4, 2) := by decide +kernel
theorem dL_law_567 : decode cL_law 567 = .ok (.iconst 2, 1) := by decide +kernel
theorem dL_law_568 : decode cL_law 568 = .ok (.iadd, 1) := by decide +kernel
theorem dL_law_569 : decode cL_law 569 = .ok (.iaload, 1) := by decide +kernel
theorem dL_law_570 : decode cL_law 570 = .ok (.aload_n 3, 1) := by decide +kernel
theorem dL_law_571 : decode cL_law 571 = .ok (.invokestatic 106, 3) := by decide +kernel
theorem dL_law_574 : decode cL_law 574 = .ok (.istore 5, 2) := by decide +kernel
theorem dL_law_576 : decode cL_law 576 = .ok (.aload_n 2, 1) := by decide +kernel
theorem dL_law_577 : decode cL_law 577 = .ok (.aload_n 0, 1) := by decide +kernel
theorem dL_law_578 : decode cL_law 578 = .ok (.iload 4, 2) := by decide +kernel
theorem dL_law_580 : decode cL_law 580 = .ok (.iconst 1, 1) := by decide +kernel
theorem dL_law_581 : decode cL_law 581 = .ok (.iadd, 1) := by decide +kernel
theorem dL_law_582 : decode cL_law 582 = .ok (.iaload, 1) := by decide +kernel
theorem dL_law_583 : decode cL_law 583 = .ok (.aload_n 0, 1) := by decide +kernel
theorem dL_law_584 : decode cL_law 584 = .ok (.iload 4, 2) := by decide +kernel
theorem dL_law_586 : decode cL_law 586 = .ok (.iconst 2, 1) := by decide +kernel
theorem dL_law_587 : decode cL_law 587 = .ok (.iadd, 1) := by decide +kernel
theorem dL_law_588 : decode cL_law 588 = .ok (.iaload, 1) := by decide +kernel
theorem dL_law_589 : decode cL_law 589 = .ok (.invokevirtual 109, 3) := by decide +kernel
theorem dL_law_592 : decode cL_law 592 = .ok (.istore 6, 2) := by decide +kernel
theorem dL_law_594 : decode cL_law 594 = .ok (.aload_n 2, 1) := by decide +kernel
theorem dL_law_595 : decode cL_law 595 = .ok (.invokevirtual 75, 3) := by decide +kernel
theorem dL_law_598 : decode cL_law 598 = .ok (.iload 5, 2) := by decide +kernel
theorem dL_law_600 : decode cL_law 600 = .ok (.if_icmp .eq 5, 3) := by decide +kernel
theorem dL_law_603 : decode cL_law 603 = .ok (.iconst 0, 1) := by decide +kernel
theorem dL_law_604 : decode cL_law 604 = .ok (.ireturn, 1) := by decide +kernel
theorem dL_law_605 : decode cL_law 605 = .ok (.iload 5, 2) := by decide +kernel
theorem dL_law_607 : decode cL_law 607 = .ok (.ifCond .ne 22, 3) := by decide +kernel
theorem dL_law_610 : decode cL_law 610 = .ok (.aload_n 3, 1) := by decide +kernel
theorem dL_law_611 : decode cL_law 611 = .ok (.iconst 0, 1) := by decide +kernel
theorem dL_law_612 : decode cL_law 612 = .ok (.laload, 1) := by decide +kernel
theorem dL_law_613 : decode cL_law 613 = .ok (.iload 6, 2) := by decide +kernel
theorem dL_law_615 : decode cL_law 615 = .ok (.ifCond .eq 7, 3) := by decide +kernel
theorem dL_law_618 : decode cL_law 618 = .ok (.lconst 1, 1) := by decide +kernel
theorem dL_law_619 : decode cL_law 619 = .ok (.goto 4, 3) := by decide +kernel
theorem dL_law_622 : decode cL_law 622 = .ok (.lconst 0, 1) := by decide +kernel
theorem dL_law_623 : decode cL_law 623 = .ok (.lcmp, 1) := by decide +kernel
theorem dL_law_624 : decode cL_law 624 = .ok (.ifCond .eq 5, 3) := by decide +kernel
theorem dL_law_627 : decode cL_law 627 = .ok (.iconst 0, 1) := by decide +kernel
theorem dL_law_628 : decode cL_law 628 = .ok (.ireturn, 1) := by decide +kernel
theorem dL_law_629 : decode cL_law 629 = .ok (.goto 546, 3) := by decide +kernel
theorem dL_law_632 : decode cL_law 632 = .ok (.aload_n 1, 1) := by decide +kernel
theorem dL_law_633 : decode cL_law 633 = .ok (.aload_n 0, 1) := by decide +kernel
theorem dL_law_634 : decode cL_law 634 = .ok (.iload 4, 2) := by decide +kernel
theorem dL_law_636 : decode cL_law 636 = .ok (.iconst 1, 1) := by decide +kernel
theorem dL_law_637 : decode cL_law 637 = .ok (.iadd, 1) := by decide +kernel
theorem dL_law_638 : decode cL_law 638 = .ok (.iaload, 1) := by decide +kernel
theorem dL_law_639 : decode cL_law 639 = .ok (.aload_n 0, 1) := by decide +kernel
theorem dL_law_640 : decode cL_law 640 = .ok (.iload 4, 2) := by decide +kernel
theorem dL_law_642 : decode cL_law 642 = .ok (.iconst 2, 1) := by decide +kernel
theorem dL_law_643 : decode cL_law 643 = .ok (.iadd, 1) := by decide +kernel
theorem dL_law_644 : decode cL_law 644 = .ok (.iaload, 1) := by decide +kernel
theorem dL_law_645 : decode cL_law 645 = .ok (.aload_n 3, 1) := by decide +kernel
theorem dL_law_646 : decode cL_law 646 = .ok (.invokestatic 110, 3) := by decide +kernel
theorem dL_law_649 : decode cL_law 649 = .ok (.istore 5, 2) := by decide +kernel
theorem dL_law_651 : decode cL_law 651 = .ok (.aload_n 2, 1) := by decide +kernel
theorem dL_law_652 : decode cL_law 652 = .ok (.aload_n 0, 1) := by decide +kernel
theorem dL_law_653 : decode cL_law 653 = .ok (.iload 4, 2) := by decide +kernel
theorem dL_law_655 : decode cL_law 655 = .ok (.iconst 1, 1) := by decide +kernel
theorem dL_law_656 : decode cL_law 656 = .ok (.iadd, 1) := by decide +kernel
theorem dL_law_657 : decode cL_law 657 = .ok (.iaload, 1) := by decide +kernel
theorem dL_law_658 : decode cL_law 658 = .ok (.aload_n 0, 1) := by decide +kernel
theorem dL_law_659 : decode cL_law 659 = .ok (.iload 4, 2) := by decide +kernel
theorem dL_law_661 : decode cL_law 661 = .ok (.iconst 2, 1) := by decide +kernel
theorem dL_law_662 : decode cL_law 662 = .ok (.iadd, 1) := by decide +kernel
theorem dL_law_663 : decode cL_law 663 = .ok (.iaload, 1) := by decide +kernel
theorem dL_law_664 : decode cL_law 664 = .ok (.invokevirtual 112, 3) := by decide +kernel
theorem dL_law_667 : decode cL_law 667 = .ok (.istore 6, 2) := by decide +kernel
theorem dL_law_669 : decode cL_law 669 = .ok (.aload_n 2, 1) := by decide +kernel
theorem dL_law_670 : decode cL_law 670 = .ok (.invokevirtual 75, 3) := by decide +kernel
theorem dL_law_673 : decode cL_law 673 = .ok (.iload 5, 2) := by decide +kernel
theorem dL_law_675 : decode cL_law 675 = .ok (.if_icmp .eq 5, 3) := by decide +kernel
theorem dL_law_678 : decode cL_law 678 = .ok (.iconst 0, 1) := by decide +kernel
theorem dL_law_679 : decode cL_law 679 = .ok (.ireturn, 1) := by decide +kernel
theorem dL_law_680 : decode cL_law 680 = .ok (.iload 5, 2) := by decide +kernel
theorem dL_law_682 : decode cL_law 682 = .ok (.ifCond .ne 15, 3) := by decide +kernel
theorem dL_law_685 : decode cL_law 685 = .ok (.aload_n 3, 1) := by decide +kernel
theorem dL_law_686 : decode cL_law 686 = .ok (.iconst 0, 1) := by decide +kernel
theorem dL_law_687 : decode cL_law 687 = .ok (.laload, 1) := by decide +kernel
theorem dL_law_688 : decode cL_law 688 = .ok (.iload 6, 2) := by decide +kernel
theorem dL_law_690 : decode cL_law 690 = .ok (.i2l, 1) := by decide +kernel
theorem dL_law_691 : decode cL_law 691 = .ok (.lcmp, 1) := by decide +kernel
theorem dL_law_692 : decode cL_law 692 = .ok (.ifCond .eq 5, 3) := by decide +kernel
theorem dL_law_695 : decode cL_law 695 = .ok (.iconst 0, 1) := by decide +kernel
theorem dL_law_696 : decode cL_law 696 = .ok (.ireturn, 1) := by decide +kernel
theorem dL_law_697 : decode cL_law 697 = .ok (.goto 478, 3) := by decide +kernel
theorem dL_law_700 : decode cL_law 700 = .ok (.aload_n 1, 1) := by decide +kernel
theorem dL_law_701 : decode cL_law 701 = .ok (.aload_n 0, 1) := by decide +kernel
theorem dL_law_702 : decode cL_law 702 = .ok (.iload 4, 2) := by decide +kernel
theorem dL_law_704 : decode cL_law 704 = .ok (.iconst 1, 1) := by decide +kernel
theorem dL_law_705 : decode cL_law 705 = .ok (.iadd, 1) := by decide +kernel
theorem dL_law_706 : decode cL_law 706 = .ok (.iaload, 1) := by decide +kernel
theorem dL_law_707 : decode cL_law 707 = .ok (.aload_n 0, 1) := by decide +kernel
theorem dL_law_708 : decode cL_law 708 = .ok (.iload 4, 2) := by decide +kernel
theorem dL_law_710 : decode cL_law 710 = .ok (.iconst 2, 1) := by decide +kernel
theorem dL_law_711 : decode cL_law 711 = .ok (.iadd, 1) := by decide +kernel
theorem dL_law_712 : decode cL_law 712 = .ok (.iaload, 1) := by decide +kernel
theorem dL_law_713 : decode cL_law 713 = .ok (.aload_n 3, 1) := by decide +kernel
theorem dL_law_714 : decode cL_law 714 = .ok (.invokestatic 113, 3) := by decide +kernel
theorem dL_law_717 : decode cL_law 717 = .ok (.istore 5, 2) := by decide +kernel
theorem dL_law_719 : decode cL_law 719 = .ok (.aload_n 2, 1) := by decide +kernel
theorem dL_law_720 : decode cL_law 720 = .ok (.aload_n 0, 1) := by decide +kernel
theorem dL_law_721 : decode cL_law 721 = .ok (.iload 4, 2) := by decide +kernel
theorem dL_law_723 : decode cL_law 723 = .ok (.iconst 1, 1) := by decide +kernel
theorem dL_law_724 : decode cL_law 724 = .ok (.iadd, 1) := by decide +kernel
theorem dL_law_725 : decode cL_law 725 = .ok (.iaload, 1) := by decide +kernel
theorem dL_law_726 : decode cL_law 726 = .ok (.aload_n 0, 1) := by decide +kernel
theorem dL_law_727 : decode cL_law 727 = .ok (.iload 4, 2) := by decide +kernel
theorem dL_law_729 : decode cL_law 729 = .ok (.iconst 2, 1) := by decide +kernel
theorem dL_law_730 : decode cL_law 730 = .ok (.iadd, 1) := by decide +kernel
theorem dL_law_731 : decode cL_law 731 = .ok (.iaload, 1) := by decide +kernel
theorem dL_law_732 : decode cL_law 732 = .ok (.invokevirtual 115, 3) := by decide +kernel
theorem dL_law_735 : decode cL_law 735 = .ok (.istore 6, 2) := by decide +kernel
theorem dL_law_737 : decode cL_law 737 = .ok (.aload_n 2, 1) := by decide +kernel
theorem dL_law_738 : decode cL_law 738 = .ok (.invokevirtual 75, 3) := by decide +kernel
theorem dL_law_741 : decode cL_law 741 = .ok (.iload 5, 2) := by decide +kernel
theorem dL_law_743 : decode cL_law 743 = .ok (.if_icmp .eq 5, 3) := by decide +kernel
theorem dL_law_746 : decode cL_law 746 = .ok (.iconst 0, 1) := by decide +kernel
theorem dL_law_747 : decode cL_law 747 = .ok (.ireturn, 1) := by decide +kernel
theorem dL_law_748 : decode cL_law 748 = .ok (.iload 5, 2) := by decide +kernel
theorem dL_law_750 : decode cL_law 750 = .ok (.ifCond .ne 15, 3) := by decide +kernel
theorem dL_law_753 : decode cL_law 753 = .ok (.aload_n 3, 1) := by decide +kernel
theorem dL_law_754 : decode cL_law 754 = .ok (.iconst 0, 1) := by decide +kernel
theorem dL_law_755 : decode cL_law 755 = .ok (.laload, 1) := by decide +kernel
theorem dL_law_756 : decode cL_law 756 = .ok (.iload 6, 2) := by decide +kernel
theorem dL_law_758 : decode cL_law 758 = .ok (.i2l, 1) := by decide +kernel
theorem dL_law_759 : decode cL_law 759 = .ok (.lcmp, 1) := by decide +kernel
theorem dL_law_760 : decode cL_law 760 = .ok (.ifCond .eq 5, 3) := by decide +kernel
theorem dL_law_763 : decode cL_law 763 = .ok (.iconst 0, 1) := by decide +kernel
theorem dL_law_764 : decode cL_law 764 = .ok (.ireturn, 1) := by decide +kernel
theorem dL_law_765 : decode cL_law 765 = .ok (.goto 410, 3) := by decide +kernel
theorem dL_law_768 : decode cL_law 768 = .ok (.aload_n 1, 1) := by decide +kernel
theorem dL_law_769 : decode cL_law 769 = .ok (.aload_n 0, 1) := by decide +kernel
theorem dL_law_770 : decode cL_law 770 = .ok (.iload 4, 2) := by decide +kernel
theorem dL_law_772 : decode cL_law 772 = .ok (.iconst 1, 1) := by decide +kernel
theorem dL_law_773 : decode cL_law 773 = .ok (.iadd, 1) := by decide +kernel
theorem dL_law_774 : decode cL_law 774 = .ok (.iaload, 1) := by decide +kernel
theorem dL_law_775 : decode cL_law 775 = .ok (.aload_n 0, 1) := by decide +kernel
theorem dL_law_776 : decode cL_law 776 = .ok (.iload 4, 2) := by decide +kernel
theorem dL_law_778 : decode cL_law 778 = .ok (.iconst 2, 1) := by decide +kernel
theorem dL_law_779 : decode cL_law 779 = .ok (.iadd, 1) := by decide +kernel
theorem dL_law_780 : decode cL_law 780 = .ok (.iaload, 1) := by decide +kernel
theorem dL_law_781 : decode cL_law 781 = .ok (.aload_n 0, 1) := by decide +kernel
theorem dL_law_782 : decode cL_law 782 = .ok (.iload 4, 2) := by decide +kernel
theorem dL_law_784 : decode cL_law 784 = .ok (.iconst 3, 1) := by decide +kernel
theorem dL_law_785 : decode cL_law 785 = .ok (.iadd, 1) := by decide +kernel
theorem dL_law_786 : decode cL_law 786 = .ok (.iaload, 1) := by decide +kernel
theorem dL_law_787 : decode cL_law 787 = .ok (.aload_n 3, 1) := by decide +kernel
theorem dL_law_788 : decode cL_law 788 = .ok (.invokestatic 116, 3) := by decide +kernel
theorem dL_law_791 : decode cL_law 791 = .ok (.istore 5, 2) := by decide +kernel
theorem dL_law_793 : decode cL_law 793 = .ok (.aload_n 2, 1) := by decide +kernel
theorem dL_law_794 : decode cL_law 794 = .ok (.aload_n 0, 1) := by decide +kernel
theorem dL_law_795 : decode cL_law 795 = .ok (.iload 4, 2) := by decide +kernel
theorem dL_law_797 : decode cL_law 797 = .ok (.iconst 1, 1) := by decide +kernel
theorem dL_law_798 : decode cL_law 798 = .ok (.iadd, 1) := by decide +kernel
theorem dL_law_799 : decode cL_law 799 = .ok (.iaload, 1) := by decide +kernel
theorem dL_law_800 : decode cL_law 800 = .ok (.aload_n 0, 1) := by decide +kernel
theorem dL_law_801 : decode cL_law 801 = .ok (.iload 4, 2) := by decide +kernel
theorem dL_law_803 : decode cL_law 803 = .ok (.iconst 2, 1) := by decide +kernel
theorem dL_law_804 : decode cL_law 804 = .ok (.iadd, 1) := by decide +kernel
theorem dL_law_805 : decode cL_law 805 = .ok (.iaload, 1) := by decide +kernel
theorem dL_law_806 : decode cL_law 806 = .ok (.aload_n 0, 1) := by decide +kernel
theorem dL_law_807 : decode cL_law 807 = .ok (.iload 4, 2) := by decide +kernel
theorem dL_law_809 : decode cL_law 809 = .ok (.iconst 3, 1) := by decide +kernel
theorem dL_law_810 : decode cL_law 810 = .ok (.iadd, 1) := by decide +kernel
theorem dL_law_811 : decode cL_law 811 = .ok (.iaload, 1) := by decide +kernel
theorem dL_law_812 : decode cL_law 812 = .ok (.invokevirtual 119, 3) := by decide +kernel
theorem dL_law_815 : decode cL_law 815 = .ok (.istore 6, 2) := by decide +kernel
theorem dL_law_817 : decode cL_law 817 = .ok (.aload_n 2, 1) := by decide +kernel
theorem dL_law_818 : decode cL_law 818 = .ok (.invokevirtual 75, 3) := by decide +kernel
theorem dL_law_821 : decode cL_law 821 = .ok (.iload 5, 2) := by decide +kernel
theorem dL_law_823 : decode cL_law 823 = .ok (.if_icmp .eq 5, 3) := by decide +kernel
theorem dL_law_826 : decode cL_law 826 = .ok (.iconst 0, 1) := by decide +kernel
theorem dL_law_827 : decode cL_law 827 = .ok (.ireturn, 1) := by decide +kernel
theorem dL_law_828 : decode cL_law 828 = .ok (.iload 5, 2) := by decide +kernel
theorem dL_law_830 : decode cL_law 830 = .ok (.ifCond .ne 15, 3) := by decide +kernel
theorem dL_law_833 : decode cL_law 833 = .ok (.aload_n 3, 1) := by decide +kernel
theorem dL_law_834 : decode cL_law 834 = .ok (.iconst 0, 1) := by decide +kernel
theorem dL_law_835 : decode cL_law 835 = .ok (.laload, 1) := by decide +kernel
theorem dL_law_836 : decode cL_law 836 = .ok (.iload 6, 2) := by decide +kernel
theorem dL_law_838 : decode cL_law 838 = .ok (.i2l, 1) := by decide +kernel
theorem dL_law_839 : decode cL_law 839 = .ok (.lcmp, 1) := by decide +kernel
theorem dL_law_840 : decode cL_law 840 = .ok (.ifCond .eq 5, 3) := by decide +kernel
theorem dL_law_843 : decode cL_law 843 = .ok (.iconst 0, 1) := by decide +kernel
theorem dL_law_844 : decode cL_law 844 = .ok (.ireturn, 1) := by decide +kernel
theorem dL_law_845 : decode cL_law 845 = .ok (.goto 330, 3) := by decide +kernel
theorem dL_law_848 : decode cL_law 848 = .ok (.aload_n 1, 1) := by decide +kernel
theorem dL_law_849 : decode cL_law 849 = .ok (.aload_n 0, 1) := by decide +kernel
theorem dL_law_850 : decode cL_law 850 = .ok (.iload 4, 2) := by decide +kernel
theorem dL_law_852 : decode cL_law 852 = .ok (.iconst 1, 1) := by decide +kernel
theorem dL_law_853 : decode cL_law 853 = .ok (.iadd, 1) := by decide +kernel
theorem dL_law_854 : decode cL_law 854 = .ok (.iaload, 1) := by decide +kernel
theorem dL_law_855 : decode cL_law 855 = .ok (.aload_n 0, 1) := by decide +kernel
theorem dL_law_856 : decode cL_law 856 = .ok (.iload 4, 2) := by decide +kernel
theorem dL_law_858 : decode cL_law 858 = .ok (.iconst 2, 1) := by decide +kernel
theorem dL_law_859 : decode cL_law 859 = .ok (.iadd, 1) := by decide +kernel
theorem dL_law_860 : decode cL_law 860 = .ok (.iaload, 1) := by decide +kernel
theorem dL_law_861 : decode cL_law 861 = .ok (.aload_n 3, 1) := by decide +kernel
theorem dL_law_862 : decode cL_law 862 = .ok (.invokestatic 120, 3) := by decide +kernel
theorem dL_law_865 : decode cL_law 865 = .ok (.istore 5, 2) := by decide +kernel
theorem dL_law_867 : decode cL_law 867 = .ok (.aload_n 2, 1) := by decide +kernel
theorem dL_law_868 : decode cL_law 868 = .ok (.aload_n 0, 1) := by decide +kernel
theorem dL_law_869 : decode cL_law 869 = .ok (.iload 4, 2) := by decide +kernel
theorem dL_law_871 : decode cL_law 871 = .ok (.iconst 1, 1) := by decide +kernel
theorem dL_law_872 : decode cL_law 872 = .ok (.iadd, 1) := by decide +kernel
theorem dL_law_873 : decode cL_law 873 = .ok (.iaload, 1) := by decide +kernel
theorem dL_law_874 : decode cL_law 874 = .ok (.aload_n 0, 1) := by decide +kernel
theorem dL_law_875 : decode cL_law 875 = .ok (.iload 4, 2) := by decide +kernel
theorem dL_law_877 : decode cL_law 877 = .ok (.iconst 2, 1) := by decide +kernel
theorem dL_law_878 : decode cL_law 878 = .ok (.iadd, 1) := by decide +kernel
theorem dL_law_879 : decode cL_law 879 = .ok (.iaload, 1) := by decide +kernel
theorem dL_law_880 : decode cL_law 880 = .ok (.invokevirtual 122, 3) := by decide +kernel
theorem dL_law_883 : decode cL_law 883 = .ok (.istore 6, 2) := by decide +kernel
theorem dL_law_885 : decode cL_law 885 = .ok (.aload_n 2, 1) := by decide +kernel
theorem dL_law_886 : decode cL_law 886 = .ok (.invokevirtual 75, 3) := by decide +kernel
theorem dL_law_889 : decode cL_law 889 = .ok (.iload 5, 2) := by decide +kernel
theorem dL_law_891 : decode cL_law 891 = .ok (.if_icmp .eq 5, 3) := by decide +kernel
theorem dL_law_894 : decode cL_law 894 = .ok (.iconst 0, 1) := by decide +kernel
theorem dL_law_895 : decode cL_law 895 = .ok (.ireturn, 1) := by decide +kernel
theorem dL_law_896 : decode cL_law 896 = .ok (.iload 5, 2) := by decide +kernel
theorem dL_law_898 : decode cL_law 898 = .ok (.ifCond .ne 15, 3) := by decide +kernel
theorem dL_law_901 : decode cL_law 901 = .ok (.aload_n 3, 1) := by decide +kernel
theorem dL_law_902 : decode cL_law 902 = .ok (.iconst 0, 1) := by decide +kernel
theorem dL_law_903 : decode cL_law 903 = .ok (.laload, 1) := by decide +kernel
theorem dL_law_904 : decode cL_law 904 = .ok (.iload 6, 2) := by decide +kernel
theorem dL_law_906 : decode cL_law 906 = .ok (.i2l, 1) := by decide +kernel
theorem dL_law_907 : decode cL_law 907 = .ok (.lcmp, 1) := by decide +kernel
theorem dL_law_908 : decode cL_law 908 = .ok (.ifCond .eq 5, 3) := by decide +kernel
theorem dL_law_911 : decode cL_law 911 = .ok (.iconst 0, 1) := by decide +kernel
theorem dL_law_912 : decode cL_law 912 = .ok (.ireturn, 1) := by decide +kernel
theorem dL_law_913 : decode cL_law 913 = .ok (.goto 262, 3) := by decide +kernel
theorem dL_law_916 : decode cL_law 916 = .ok (.aload_n 1, 1) := by decide +kernel
theorem dL_law_917 : decode cL_law 917 = .ok (.aload_n 0, 1) := by decide +kernel
theorem dL_law_918 : decode cL_law 918 = .ok (.iload 4, 2) := by decide +kernel
theorem dL_law_920 : decode cL_law 920 = .ok (.iconst 1, 1) := by decide +kernel
theorem dL_law_921 : decode cL_law 921 = .ok (.iadd, 1) := by decide +kernel
theorem dL_law_922 : decode cL_law 922 = .ok (.iaload, 1) := by decide +kernel
theorem dL_law_923 : decode cL_law 923 = .ok (.aload_n 3, 1) := by decide +kernel
theorem dL_law_924 : decode cL_law 924 = .ok (.invokestatic 123, 3) := by decide +kernel
theorem dL_law_927 : decode cL_law 927 = .ok (.istore 5, 2) := by decide +kernel
theorem dL_law_929 : decode cL_law 929 = .ok (.aload_n 2, 1) := by decide +kernel
theorem dL_law_930 : decode cL_law 930 = .ok (.aload_n 0, 1) := by decide +kernel
theorem dL_law_931 : decode cL_law 931 = .ok (.iload 4, 2) := by decide +kernel
theorem dL_law_933 : decode cL_law 933 = .ok (.iconst 1, 1) := by decide +kernel
theorem dL_law_934 : decode cL_law 934 = .ok (.iadd, 1) := by decide +kernel
theorem dL_law_935 : decode cL_law 935 = .ok (.iaload, 1) := by decide +kernel
theorem dL_law_936 : decode cL_law 936 = .ok (.invokevirtual 125, 3) := by decide +kernel
theorem dL_law_939 : decode cL_law 939 = .ok (.lstore 6, 2) := by decide +kernel
theorem dL_law_941 : decode cL_law 941 = .ok (.aload_n 2, 1) := by decide +kernel
theorem dL_law_942 : decode cL_law 942 = .ok (.invokevirtual 75, 3) := by decide +kernel
theorem dL_law_945 : decode cL_law 945 = .ok (.iload 5, 2) := by decide +kernel
theorem dL_law_947 : decode cL_law 947 = .ok (.if_icmp .eq 5, 3) := by decide +kernel
theorem dL_law_950 : decode cL_law 950 = .ok (.iconst 0, 1) := by decide +kernel
theorem dL_law_951 : decode cL_law 951 = .ok (.ireturn, 1) := by decide +kernel
theorem dL_law_952 : decode cL_law 952 = .ok (.iload 5, 2) := by decide +kernel
theorem dL_law_954 : decode cL_law 954 = .ok (.ifCond .ne 14, 3) := by decide +kernel
theorem dL_law_957 : decode cL_law 957 = .ok (.aload_n 3, 1) := by decide +kernel
theorem dL_law_958 : decode cL_law 958 = .ok (.iconst 0, 1) := by decide +kernel
theorem dL_law_959 : decode cL_law 959 = .ok (.laload, 1) := by decide +kernel
theorem dL_law_960 : decode cL_law 960 = .ok (.lload 6, 2) := by decide +kernel
theorem dL_law_962 : decode cL_law 962 = .ok (.lcmp, 1) := by decide +kernel
theorem dL_law_963 : decode cL_law 963 = .ok (.ifCond .eq 5, 3) := by decide +kernel
theorem dL_law_966 : decode cL_law 966 = .ok (.iconst 0, 1) := by decide +kernel
theorem dL_law_967 : decode cL_law 967 = .ok (.ireturn, 1) := by decide +kernel
theorem dL_law_968 : decode cL_law 968 = .ok (.goto 207, 3) := by decide +kernel
theorem dL_law_971 : decode cL_law 971 = .ok (.aload_n 1, 1) := by decide +kernel
theorem dL_law_972 : decode cL_law 972 = .ok (.aload_n 0, 1) := by decide +kernel
theorem dL_law_973 : decode cL_law 973 = .ok (.iload 4, 2) := by decide +kernel
theorem dL_law_975 : decode cL_law 975 = .ok (.iconst 1, 1) := by decide +kernel
theorem dL_law_976 : decode cL_law 976 = .ok (.iadd, 1) := by decide +kernel
theorem dL_law_977 : decode cL_law 977 = .ok (.iaload, 1) := by decide +kernel
theorem dL_law_978 : decode cL_law 978 = .ok (.aload_n 0, 1) := by decide +kernel
theorem dL_law_979 : decode cL_law 979 = .ok (.iload 4, 2) := by decide +kernel
theorem dL_law_981 : decode cL_law 981 = .ok (.iconst 2, 1) := by decide +kernel
theorem dL_law_982 : decode cL_law 982 = .ok (.iadd, 1) := by decide +kernel
theorem dL_law_983 : decode cL_law 983 = .ok (.iaload, 1) := by decide +kernel
theorem dL_law_984 : decode cL_law 984 = .ok (.aload_n 3, 1) := by decide +kernel
theorem dL_law_985 : decode cL_law 985 = .ok (.invokestatic 126, 3) := by decide +kernel
theorem dL_law_988 : decode cL_law 988 = .ok (.istore 5, 2) := by decide +kernel
theorem dL_law_990 : decode cL_law 990 = .ok (.aload_n 2, 1) := by decide +kernel
theorem dL_law_991 : decode cL_law 991 = .ok (.aload_n 0, 1) := by decide +kernel
theorem dL_law_992 : decode cL_law 992 = .ok (.iload 4, 2) := by decide +kernel
theorem dL_law_994 : decode cL_law 994 = .ok (.iconst 1, 1) := by decide +kernel
theorem dL_law_995 : decode cL_law 995 = .ok (.iadd, 1) := by decide +kernel
theorem dL_law_996 : decode cL_law 996 = .ok (.iaload, 1) := by decide +kernel
theorem dL_law_997 : decode cL_law 997 = .ok (.aload_n 0, 1) := by decide +kernel
theorem dL_law_998 : decode cL_law 998 = .ok (.iload 4, 2) := by decide +kernel
theorem dL_law_1000 : decode cL_law 1000 = .ok (.iconst 2, 1) := by decide +kernel
theorem dL_law_1001 : decode cL_law 1001 = .ok (.iadd, 1) := by decide +kernel
theorem dL_law_1002 : decode cL_law 1002 = .ok (.iaload, 1) := by decide +kernel
theorem dL_law_1003 : decode cL_law 1003 = .ok (.invokevirtual 128, 3) := by decide +kernel
theorem dL_law_1006 : decode cL_law 1006 = .ok (.istore 6, 2) := by decide +kernel
theorem dL_law_1008 : decode cL_law 1008 = .ok (.aload_n 2, 1) := by decide +kernel
theorem dL_law_1009 : decode cL_law 1009 = .ok (.invokevirtual 75, 3) := by decide +kernel
theorem dL_law_1012 : decode cL_law 1012 = .ok (.iload 5, 2) := by decide +kernel
theorem dL_law_1014 : decode cL_law 1014 = .ok (.if_icmp .eq 5, 3) := by decide +kernel
theorem dL_law_1017 : decode cL_law 1017 = .ok (.iconst 0, 1) := by decide +kernel
theorem dL_law_1018 : decode cL_law 1018 = .ok (.ireturn, 1) := by decide +kernel
theorem dL_law_1019 : decode cL_law 1019 = .ok (.iload 5, 2) := by decide +kernel
theorem dL_law_1021 : decode cL_law 1021 = .ok (.ifCond .ne 15, 3) := by decide +kernel
theorem dL_law_1024 : decode cL_law 1024 = .ok (.aload_n 3, 1) := by decide +kernel
theorem dL_law_1025 : decode cL_law 1025 = .ok (.iconst 0, 1) := by decide +kernel
theorem dL_law_1026 : decode cL_law 1026 = .ok (.laload, 1) := by decide +kernel
theorem dL_law_1027 : decode cL_law 1027 = .ok (.iload 6, 2) := by decide +kernel
theorem dL_law_1029 : decode cL_law 1029 = .ok (.i2l, 1) := by decide +kernel
theorem dL_law_1030 : decode cL_law 1030 = .ok (.lcmp, 1) := by decide +kernel
theorem dL_law_1031 : decode cL_law 1031 = .ok (.ifCond .eq 5, 3) := by decide +kernel
theorem dL_law_1034 : decode cL_law 1034 = .ok (.iconst 0, 1) := by decide +kernel
theorem dL_law_1035 : decode cL_law 1035 = .ok (.ireturn, 1) := by decide +kernel
theorem dL_law_1036 : decode cL_law 1036 = .ok (.goto 139, 3) := by decide +kernel
theorem dL_law_1039 : decode cL_law 1039 = .ok (.aload_n 1, 1) := by decide +kernel
theorem dL_law_1040 : decode cL_law 1040 = .ok (.aload_n 0, 1) := by decide +kernel
theorem dL_law_1041 : decode cL_law 1041 = .ok (.iload 4, 2) := by decide +kernel
theorem dL_law_1043 : decode cL_law 1043 = .ok (.iconst 1, 1) := by decide +kernel
theorem dL_law_1044 : decode cL_law 1044 = .ok (.iadd, 1) := by decide +kernel
theorem dL_law_1045 : decode cL_law 1045 = .ok (.iaload, 1) := by decide +kernel
theorem dL_law_1046 : decode cL_law 1046 = .ok (.aload_n 0, 1) := by decide +kernel
theorem dL_law_1047 : decode cL_law 1047 = .ok (.iload 4, 2) := by decide +kernel
theorem dL_law_1049 : decode cL_law 1049 = .ok (.iconst 2, 1) := by decide +kernel
theorem dL_law_1050 : decode cL_law 1050 = .ok (.iadd, 1) := by decide +kernel
theorem dL_law_1051 : decode cL_law 1051 = .ok (.iaload, 1) := by decide +kernel
theorem dL_law_1052 : decode cL_law 1052 = .ok (.aload_n 3, 1) := by decide +kernel
theorem dL_law_1053 : decode cL_law 1053 = .ok (.invokestatic 129, 3) := by decide +kernel
theorem dL_law_1056 : decode cL_law 1056 = .ok (.istore 5, 2) := by decide +kernel
theorem dL_law_1058 : decode cL_law 1058 = .ok (.aload_n 2, 1) := by decide +kernel
theorem dL_law_1059 : decode cL_law 1059 = .ok (.aload_n 0, 1) := by decide +kernel
theorem dL_law_1060 : decode cL_law 1060 = .ok (.iload 4, 2) := by decide +kernel
theorem dL_law_1062 : decode cL_law 1062 = .ok (.iconst 1, 1) := by decide +kernel
theorem dL_law_1063 : decode cL_law 1063 = .ok (.iadd, 1) := by decide +kernel
theorem dL_law_1064 : decode cL_law 1064 = .ok (.iaload, 1) := by decide +kernel
theorem dL_law_1065 : decode cL_law 1065 = .ok (.aload_n 0, 1) := by decide +kernel
theorem dL_law_1066 : decode cL_law 1066 = .ok (.iload 4, 2) := by decide +kernel
theorem dL_law_1068 : decode cL_law 1068 = .ok (.iconst 2, 1) := by decide +kernel
theorem dL_law_1069 : decode cL_law 1069 = .ok (.iadd, 1) := by decide +kernel
theorem dL_law_1070 : decode cL_law 1070 = .ok (.iaload, 1) := by decide +kernel
theorem dL_law_1071 : decode cL_law 1071 = .ok (.invokevirtual 131, 3) := by decide +kernel
theorem dL_law_1074 : decode cL_law 1074 = .ok (.istore 6, 2) := by decide +kernel
theorem dL_law_1076 : decode cL_law 1076 = .ok (.aload_n 2, 1) := by decide +kernel
theorem dL_law_1077 : decode cL_law 1077 = .ok (.invokevirtual 75, 3) := by decide +kernel
theorem dL_law_1080 : decode cL_law 1080 = .ok (.iload 5, 2) := by decide +kernel
theorem dL_law_1082 : decode cL_law 1082 = .ok (.if_icmp .eq 5, 3) := by decide +kernel
theorem dL_law_1085 : decode cL_law 1085 = .ok (.iconst 0, 1) := by decide +kernel
theorem dL_law_1086 : decode cL_law 1086 = .ok (.ireturn, 1) := by decide +kernel
theorem dL_law_1087 : decode cL_law 1087 = .ok (.iload 5, 2) := by decide +kernel
theorem dL_law_1089 : decode cL_law 1089 = .ok (.ifCond .ne 15, 3) := by decide +kernel
theorem dL_law_1092 : decode cL_law 1092 = .ok (.aload_n 3, 1) := by decide +kernel
theorem dL_law_1093 : decode cL_law 1093 = .ok (.iconst 0, 1) := by decide +kernel
theorem dL_law_1094 : decode cL_law 1094 = .ok (.laload, 1) := by decide +kernel
theorem dL_law_1095 : decode cL_law 1095 = .ok (.iload 6, 2) := by decide +kernel
theorem dL_law_1097 : decode cL_law 1097 = .ok (.i2l, 1) := by decide +kernel
theorem dL_law_1098 : decode cL_law 1098 = .ok (.lcmp, 1) := by decide +kernel
theorem dL_law_1099 : decode cL_law 1099 = .ok (.ifCond .eq 5, 3) := by decide +kernel
theorem dL_law_1102 : decode cL_law 1102 = .ok (.iconst 0, 1) := by decide +kernel
theorem dL_law_1103 : decode cL_law 1103 = .ok (.ireturn, 1) := by decide +kernel
theorem dL_law_1104 : decode cL_law 1104 = .ok (.goto 71, 3) := by decide +kernel
theorem dL_law_1107 : decode cL_law 1107 = .ok (.aload_n 1, 1) := by decide +kernel
theorem dL_law_1108 : decode cL_law 1108 = .ok (.aload_n 0, 1) := by decide +kernel
theorem dL_law_1109 : decode cL_law 1109 = .ok (.iload 4, 2) := by decide +kernel
theorem dL_law_1111 : decode cL_law 1111 = .ok (.iconst 1, 1) := by decide +kernel
theorem dL_law_1112 : decode cL_law 1112 = .ok (.iadd, 1) := by decide +kernel
theorem dL_law_1113 : decode cL_law 1113 = .ok (.iaload, 1) := by decide +kernel
theorem dL_law_1114 : decode cL_law 1114 = .ok (.aload_n 0, 1) := by decide +kernel
theorem dL_law_1115 : decode cL_law 1115 = .ok (.iload 4, 2) := by decide +kernel
theorem dL_law_1117 : decode cL_law 1117 = .ok (.iconst 2, 1) := by decide +kernel
theorem dL_law_1118 : decode cL_law 1118 = .ok (.iadd, 1) := by decide +kernel
theorem dL_law_1119 : decode cL_law 1119 = .ok (.iaload, 1) := by decide +kernel
theorem dL_law_1120 : decode cL_law 1120 = .ok (.aload_n 3, 1) := by decide +kernel
theorem dL_law_1121 : decode cL_law 1121 = .ok (.invokestatic 132, 3) := by decide +kernel
theorem dL_law_1124 : decode cL_law 1124 = .ok (.istore 5, 2) := by decide +kernel
theorem dL_law_1126 : decode cL_law 1126 = .ok (.aload_n 2, 1) := by decide +kernel
theorem dL_law_1127 : decode cL_law 1127 = .ok (.aload_n 0, 1) := by decide +kernel
theorem dL_law_1128 : decode cL_law 1128 = .ok (.iload 4, 2) := by decide +kernel
theorem dL_law_1130 : decode cL_law 1130 = .ok (.iconst 1, 1) := by decide +kernel
theorem dL_law_1131 : decode cL_law 1131 = .ok (.iadd, 1) := by decide +kernel
theorem dL_law_1132 : decode cL_law 1132 = .ok (.iaload, 1) := by decide +kernel
theorem dL_law_1133 : decode cL_law 1133 = .ok (.aload_n 0, 1) := by decide +kernel
theorem dL_law_1134 : decode cL_law 1134 = .ok (.iload 4, 2) := by decide +kernel
theorem dL_law_1136 : decode cL_law 1136 = .ok (.iconst 2, 1) := by decide +kernel
theorem dL_law_1137 : decode cL_law 1137 = .ok (.iadd, 1) := by decide +kernel
theorem dL_law_1138 : decode cL_law 1138 = .ok (.iaload, 1) := by decide +kernel
theorem dL_law_1139 : decode cL_law 1139 = .ok (.invokevirtual 134, 3) := by decide +kernel
theorem dL_law_1142 : decode cL_law 1142 = .ok (.istore 6, 2) := by decide +kernel
theorem dL_law_1144 : decode cL_law 1144 = .ok (.aload_n 2, 1) := by decide +kernel
theorem dL_law_1145 : decode cL_law 1145 = .ok (.invokevirtual 75, 3) := by decide +kernel
theorem dL_law_1148 : decode cL_law 1148 = .ok (.iload 5, 2) := by decide +kernel
theorem dL_law_1150 : decode cL_law 1150 = .ok (.if_icmp .eq 5, 3) := by decide +kernel
theorem dL_law_1153 : decode cL_law 1153 = .ok (.iconst 0, 1) := by decide +kernel
theorem dL_law_1154 : decode cL_law 1154 = .ok (.ireturn, 1) := by decide +kernel
theorem dL_law_1155 : decode cL_law 1155 = .ok (.iload 5, 2) := by decide +kernel
theorem dL_law_1157 : decode cL_law 1157 = .ok (.ifCond .ne 15, 3) := by decide +kernel
theorem dL_law_1160 : decode cL_law 1160 = .ok (.aload_n 3, 1) := by decide +kernel
theorem dL_law_1161 : decode cL_law 1161 = .ok (.iconst 0, 1) := by decide +kernel
theorem dL_law_1162 : decode cL_law 1162 = .ok (.laload, 1) := by decide +kernel
theorem dL_law_1163 : decode cL_law 1163 = .ok (.iload 6, 2) := by decide +kernel
theorem dL_law_1165 : decode cL_law 1165 = .ok (.i2l, 1) := by decide +kernel
theorem dL_law_1166 : decode cL_law 1166 = .ok (.lcmp, 1) := by decide +kernel
theorem dL_law_1167 : decode cL_law 1167 = .ok (.ifCond .eq 5, 3) := by decide +kernel
theorem dL_law_1170 : decode cL_law 1170 = .ok (.iconst 0, 1) := by decide +kernel
theorem dL_law_1171 : decode cL_law 1171 = .ok (.ireturn, 1) := by decide +kernel
theorem dL_law_1172 : decode cL_law 1172 = .ok (.goto 3, 3) := by decide +kernel
theorem dL_law_1175 : decode cL_law 1175 = .ok (.iinc 4 4, 3) := by decide +kernel
theorem dL_law_1178 : decode cL_law 1178 = .ok (.goto (-1155), 3) := by decide +kernel
theorem dL_law_1181 : decode cL_law 1181 = .ok (.iconst 1, 1) := by decide +kernel
theorem dL_law_1182 : decode cL_law 1182 = .ok (.ireturn, 1) := by decide +kernel
end
