theorem kw0 : Cond.initialized "RuledCalendarLaw" ∈ big := mb 0 (by decide +kernel) (by decide +kernel)
theorem kw219 : Cond.methodLink "RuledCalendarLaw" 79 ({ cls := "RuledCalendar", name := "wipe", desc := "()I" } : MethodName) ∈ big := mb 219 (by decide +kernel) (by decide +kernel)
theorem kw220 : Cond.instanceMethod ({ cls := "RuledCalendar", name := "wipe", desc := "()I" } : MethodName) ∈ big := mb 220 (by decide +kernel) (by decide +kernel)
theorem kw221 : Cond.selects "RuledCalendar" ({ cls := "RuledCalendar", name := "wipe", desc := "()I" } : MethodName) ({ cls := "RuledCalendar", name := "wipe", desc := "()I" } : MethodName) ∈ big := mb 221 (by decide +kernel) (by decide +kernel)
set_option maxRecDepth 20000 in
theorem kw222 : Cond.code yX7_wipe cX7_wipe 2 (some .int) ∈ big := mb 222 rfl (by decide +kernel)
theorem kw223 : Cond.methodLink "RuledCalendarLaw" 87 ({ cls := "RuledCalendar", name := "fault", desc := "()I" } : MethodName) ∈ big := mb 223 (by decide +kernel) (by decide +kernel)
theorem kw224 : Cond.instanceMethod ({ cls := "RuledCalendar", name := "fault", desc := "()I" } : MethodName) ∈ big := mb 224 (by decide +kernel) (by decide +kernel)
theorem kw225 : Cond.selects "RuledCalendar" ({ cls := "RuledCalendar", name := "fault", desc := "()I" } : MethodName) ({ cls := "RuledCalendar", name := "fault", desc := "()I" } : MethodName) ∈ big := mb 225 (by decide +kernel) (by decide +kernel)
set_option maxRecDepth 20000 in
theorem kw226 : Cond.code yX7_fault cX7_fault 1 (some .int) ∈ big := mb 226 rfl (by decide +kernel)
theorem kw227 : Cond.methodLink "RuledCalendarLaw" 91 ({ cls := "RuledCalendar", name := "place", desc := "()I" } : MethodName) ∈ big := mb 227 (by decide +kernel) (by decide +kernel)
theorem kw228 : Cond.instanceMethod ({ cls := "RuledCalendar", name := "place", desc := "()I" } : MethodName) ∈ big := mb 228 (by decide +kernel) (by decide +kernel)
theorem kw229 : Cond.selects "RuledCalendar" ({ cls := "RuledCalendar", name := "place", desc := "()I" } : MethodName) ({ cls := "RuledCalendar", name := "place", desc := "()I" } : MethodName) ∈ big := mb 229 (by decide +kernel) (by decide +kernel)
set_option maxRecDepth 20000 in
theorem kw230 : Cond.code yX7_place cX7_place 1 (some .int) ∈ big := mb 230 rfl (by decide +kernel)
theorem kw231 : Cond.methodLink "RuledCalendarLaw" 69 ({ cls := "RuledCalendarLaw", name := "feed", desc := "(LRuledCalendar;IJ[J)I" } : MethodName) ∈ big := mb 231 (by decide +kernel) (by decide +kernel)
theorem kw232 : Cond.static ({ cls := "RuledCalendarLaw", name := "feed", desc := "(LRuledCalendar;IJ[J)I" } : MethodName) ∈ big := mb 232 (by decide +kernel) (by decide +kernel)
theorem kw302 : Cond.methodLink "RuledCalendarLaw" 83 ({ cls := "RuledCalendarLaw", name := "thing", desc := "(LRuledCalendar;I[J)I" } : MethodName) ∈ big := mb 302 (by decide +kernel) (by decide +kernel)
theorem kw303 : Cond.static ({ cls := "RuledCalendarLaw", name := "thing", desc := "(LRuledCalendar;I[J)I" } : MethodName) ∈ big := mb 303 (by decide +kernel) (by decide +kernel)
theorem kw622 : Cond.methodLink "RuledCalendarLaw" 95 ({ cls := "RuledCalendarLaw", name := "drop", desc := "(LRuledCalendar;I)I" } : MethodName) ∈ big := mb 622 (by decide +kernel) (by decide +kernel)
theorem kw623 : Cond.static ({ cls := "RuledCalendarLaw", name := "drop", desc := "(LRuledCalendar;I)I" } : MethodName) ∈ big := mb 623 (by decide +kernel) (by decide +kernel)
theorem kw649 : Cond.methodLink "RuledCalendarLaw" 99 ({ cls := "RuledCalendarLaw", name := "except", desc := "(LRuledCalendar;IIZ[J)I" } : MethodName) ∈ big := mb 649 (by decide +kernel) (by decide +kernel)
theorem kw650 : Cond.static ({ cls := "RuledCalendarLaw", name := "except", desc := "(LRuledCalendar;IIZ[J)I" } : MethodName) ∈ big := mb 650 (by decide +kernel) (by decide +kernel)
theorem kw661 : Cond.methodLink "RuledCalendarLaw" 103 ({ cls := "RuledCalendarLaw", name := "besides", desc := "(LRuledCalendar;IIZ[J)I" } : MethodName) ∈ big := mb 661 (by decide +kernel) (by decide +kernel)
theorem kw662 : Cond.static ({ cls := "RuledCalendarLaw", name := "besides", desc := "(LRuledCalendar;IIZ[J)I" } : MethodName) ∈ big := mb 662 (by decide +kernel) (by decide +kernel)
theorem kw668 : Cond.methodLink "RuledCalendarLaw" 106 ({ cls := "RuledCalendarLaw", name := "comes", desc := "(LRuledCalendar;II[J)I" } : MethodName) ∈ big := mb 668 (by decide +kernel) (by decide +kernel)
theorem kw669 : Cond.static ({ cls := "RuledCalendarLaw", name := "comes", desc := "(LRuledCalendar;II[J)I" } : MethodName) ∈ big := mb 669 (by decide +kernel) (by decide +kernel)
theorem kw681 : Cond.methodLink "RuledCalendarLaw" 110 ({ cls := "RuledCalendarLaw", name := "next", desc := "(LRuledCalendar;II[J)I" } : MethodName) ∈ big := mb 681 (by decide +kernel) (by decide +kernel)
theorem kw682 : Cond.static ({ cls := "RuledCalendarLaw", name := "next", desc := "(LRuledCalendar;II[J)I" } : MethodName) ∈ big := mb 682 (by decide +kernel) (by decide +kernel)
theorem kw693 : Cond.methodLink "RuledCalendarLaw" 113 ({ cls := "RuledCalendarLaw", name := "date", desc := "(LRuledCalendar;II[J)I" } : MethodName) ∈ big := mb 693 (by decide +kernel) (by decide +kernel)
theorem kw694 : Cond.static ({ cls := "RuledCalendarLaw", name := "date", desc := "(LRuledCalendar;II[J)I" } : MethodName) ∈ big := mb 694 (by decide +kernel) (by decide +kernel)
theorem kw702 : Cond.methodLink "RuledCalendarLaw" 116 ({ cls := "RuledCalendarLaw", name := "times", desc := "(LRuledCalendar;III[J)I" } : MethodName) ∈ big := mb 702 (by decide +kernel) (by decide +kernel)
theorem kw703 : Cond.static ({ cls := "RuledCalendarLaw", name := "times", desc := "(LRuledCalendar;III[J)I" } : MethodName) ∈ big := mb 703 (by decide +kernel) (by decide +kernel)
theorem kw710 : Cond.methodLink "RuledCalendarLaw" 120 ({ cls := "RuledCalendarLaw", name := "list", desc := "(LRuledCalendar;II[J)I" } : MethodName) ∈ big := mb 710 (by decide +kernel) (by decide +kernel)
theorem kw711 : Cond.static ({ cls := "RuledCalendarLaw", name := "list", desc := "(LRuledCalendar;II[J)I" } : MethodName) ∈ big := mb 711 (by decide +kernel) (by decide +kernel)
theorem kw734 : Cond.methodLink "RuledCalendarLaw" 123 ({ cls := "RuledCalendarLaw", name := "item", desc := "(LRuledCalendar;I[J)I" } : MethodName) ∈ big := mb 734 (by decide +kernel) (by decide +kernel)
theorem kw735 : Cond.static ({ cls := "RuledCalendarLaw", name := "item", desc := "(LRuledCalendar;I[J)I" } : MethodName) ∈ big := mb 735 (by decide +kernel) (by decide +kernel)
theorem kw741 : Cond.methodLink "RuledCalendarLaw" 126 ({ cls := "RuledCalendarLaw", name := "busiest", desc := "(LRuledCalendar;II[J)I" } : MethodName) ∈ big := mb 741 (by decide +kernel) (by decide +kernel)
theorem kw742 : Cond.static ({ cls := "RuledCalendarLaw", name := "busiest", desc := "(LRuledCalendar;II[J)I" } : MethodName) ∈ big := mb 742 (by decide +kernel) (by decide +kernel)
theorem kw753 : Cond.methodLink "RuledCalendarLaw" 129 ({ cls := "RuledCalendarLaw", name := "quiet", desc := "(LRuledCalendar;II[J)I" } : MethodName) ∈ big := mb 753 (by decide +kernel) (by decide +kernel)
theorem kw754 : Cond.static ({ cls := "RuledCalendarLaw", name := "quiet", desc := "(LRuledCalendar;II[J)I" } : MethodName) ∈ big := mb 754 (by decide +kernel) (by decide +kernel)
theorem kw766 : Cond.methodLink "RuledCalendarLaw" 132 ({ cls := "RuledCalendarLaw", name := "shifted", desc := "(LRuledCalendar;II[J)I" } : MethodName) ∈ big := mb 766 (by decide +kernel) (by decide +kernel)
theorem kw767 : Cond.static ({ cls := "RuledCalendarLaw", name := "shifted", desc := "(LRuledCalendar;II[J)I" } : MethodName) ∈ big := mb 767 (by decide +kernel) (by decide +kernel)
theorem kw868 : Cond.methodLink "RuledCalendarLaw" 75 ({ cls := "RuledCalendarModel", name := "thrown", desc := "()I" } : MethodName) ∈ big := mb 868 (by decide +kernel) (by decide +kernel)
theorem kw869 : Cond.instanceMethod ({ cls := "RuledCalendarModel", name := "thrown", desc := "()I" } : MethodName) ∈ big := mb 869 (by decide +kernel) (by decide +kernel)
theorem kw870 : Cond.selects "RuledCalendarModel" ({ cls := "RuledCalendarModel", name := "thrown", desc := "()I" } : MethodName) ({ cls := "RuledCalendarModel", name := "thrown", desc := "()I" } : MethodName) ∈ big := mb 870 (by decide +kernel) (by decide +kernel)
set_option maxRecDepth 20000 in
theorem kw871 : Cond.code yX8_thrown cX8_thrown 1 (some .int) ∈ big := mb 871 rfl (by decide +kernel)
theorem kw872 : Cond.methodLink "RuledCalendarLaw" 74 ({ cls := "RuledCalendarModel", name := "feed", desc := "(IJ)I" } : MethodName) ∈ big := mb 872 (by decide +kernel) (by decide +kernel)
theorem kw873 : Cond.instanceMethod ({ cls := "RuledCalendarModel", name := "feed", desc := "(IJ)I" } : MethodName) ∈ big := mb 873 (by decide +kernel) (by decide +kernel)
theorem kw874 : Cond.selects "RuledCalendarModel" ({ cls := "RuledCalendarModel", name := "feed", desc := "(IJ)I" } : MethodName) ({ cls := "RuledCalendarModel", name := "feed", desc := "(IJ)I" } : MethodName) ∈ big := mb 874 (by decide +kernel) (by decide +kernel)
set_option maxRecDepth 20000 in
theorem kw875 : Cond.code yX8_feed cX8_feed 5 (some .int) ∈ big := mb 875 rfl (by decide +kernel)
theorem kw877 : Cond.methodLink "RuledCalendarLaw" 82 ({ cls := "RuledCalendarModel", name := "wipe", desc := "()I" } : MethodName) ∈ big := mb 877 (by decide +kernel) (by decide +kernel)
theorem kw878 : Cond.instanceMethod ({ cls := "RuledCalendarModel", name := "wipe", desc := "()I" } : MethodName) ∈ big := mb 878 (by decide +kernel) (by decide +kernel)
theorem kw879 : Cond.selects "RuledCalendarModel" ({ cls := "RuledCalendarModel", name := "wipe", desc := "()I" } : MethodName) ({ cls := "RuledCalendarModel", name := "wipe", desc := "()I" } : MethodName) ∈ big := mb 879 (by decide +kernel) (by decide +kernel)
set_option maxRecDepth 20000 in
theorem kw880 : Cond.code yX8_wipe cX8_wipe 2 (some .int) ∈ big := mb 880 rfl (by decide +kernel)
theorem kw881 : Cond.methodLink "RuledCalendarLaw" 86 ({ cls := "RuledCalendarModel", name := "thing", desc := "(I)I" } : MethodName) ∈ big := mb 881 (by decide +kernel) (by decide +kernel)
theorem kw882 : Cond.instanceMethod ({ cls := "RuledCalendarModel", name := "thing", desc := "(I)I" } : MethodName) ∈ big := mb 882 (by decide +kernel) (by decide +kernel)
theorem kw883 : Cond.selects "RuledCalendarModel" ({ cls := "RuledCalendarModel", name := "thing", desc := "(I)I" } : MethodName) ({ cls := "RuledCalendarModel", name := "thing", desc := "(I)I" } : MethodName) ∈ big := mb 883 (by decide +kernel) (by decide +kernel)
set_option maxRecDepth 20000 in
theorem kw884 : Cond.code yX8_thing cX8_thing 5 (some .int) ∈ big := mb 884 rfl (by decide +kernel)
theorem kw996 : Cond.methodLink "RuledCalendarLaw" 90 ({ cls := "RuledCalendarModel", name := "fault", desc := "()I" } : MethodName) ∈ big := mb 996 (by decide +kernel) (by decide +kernel)
theorem kw997 : Cond.instanceMethod ({ cls := "RuledCalendarModel", name := "fault", desc := "()I" } : MethodName) ∈ big := mb 997 (by decide +kernel) (by decide +kernel)
theorem kw998 : Cond.selects "RuledCalendarModel" ({ cls := "RuledCalendarModel", name := "fault", desc := "()I" } : MethodName) ({ cls := "RuledCalendarModel", name := "fault", desc := "()I" } : MethodName) ∈ big := mb 998 (by decide +kernel) (by decide +kernel)
set_option maxRecDepth 20000 in
theorem kw999 : Cond.code yX8_fault cX8_fault 1 (some .int) ∈ big := mb 999 rfl (by decide +kernel)
theorem kw1000 : Cond.methodLink "RuledCalendarLaw" 94 ({ cls := "RuledCalendarModel", name := "place", desc := "()I" } : MethodName) ∈ big := mb 1000 (by decide +kernel) (by decide +kernel)
theorem kw1001 : Cond.instanceMethod ({ cls := "RuledCalendarModel", name := "place", desc := "()I" } : MethodName) ∈ big := mb 1001 (by decide +kernel) (by decide +kernel)
theorem kw1002 : Cond.selects "RuledCalendarModel" ({ cls := "RuledCalendarModel", name := "place", desc := "()I" } : MethodName) ({ cls := "RuledCalendarModel", name := "place", desc := "()I" } : MethodName) ∈ big := mb 1002 (by decide +kernel) (by decide +kernel)
set_option maxRecDepth 20000 in
theorem kw1003 : Cond.code yX8_place cX8_place 1 (some .int) ∈ big := mb 1003 rfl (by decide +kernel)
theorem kw1004 : Cond.methodLink "RuledCalendarLaw" 98 ({ cls := "RuledCalendarModel", name := "drop", desc := "(I)V" } : MethodName) ∈ big := mb 1004 (by decide +kernel) (by decide +kernel)
theorem kw1005 : Cond.instanceMethod ({ cls := "RuledCalendarModel", name := "drop", desc := "(I)V" } : MethodName) ∈ big := mb 1005 (by decide +kernel) (by decide +kernel)
theorem kw1006 : Cond.selects "RuledCalendarModel" ({ cls := "RuledCalendarModel", name := "drop", desc := "(I)V" } : MethodName) ({ cls := "RuledCalendarModel", name := "drop", desc := "(I)V" } : MethodName) ∈ big := mb 1006 (by decide +kernel) (by decide +kernel)
set_option maxRecDepth 20000 in
theorem kw1007 : Cond.code yX8_drop cX8_drop 2 none ∈ big := mb 1007 rfl (by decide +kernel)
theorem kw1012 : Cond.methodLink "RuledCalendarLaw" 102 ({ cls := "RuledCalendarModel", name := "except", desc := "(IIZ)Z" } : MethodName) ∈ big := mb 1012 (by decide +kernel) (by decide +kernel)
theorem kw1013 : Cond.instanceMethod ({ cls := "RuledCalendarModel", name := "except", desc := "(IIZ)Z" } : MethodName) ∈ big := mb 1013 (by decide +kernel) (by decide +kernel)
theorem kw1014 : Cond.selects "RuledCalendarModel" ({ cls := "RuledCalendarModel", name := "except", desc := "(IIZ)Z" } : MethodName) ({ cls := "RuledCalendarModel", name := "except", desc := "(IIZ)Z" } : MethodName) ∈ big := mb 1014 (by decide +kernel) (by decide +kernel)
set_option maxRecDepth 20000 in
theorem kw1015 : Cond.code yX8_except cX8_except 6 (some .boolean) ∈ big := mb 1015 rfl (by decide +kernel)
theorem kw1020 : Cond.methodLink "RuledCalendarLaw" 105 ({ cls := "RuledCalendarModel", name := "besides", desc := "(IIZ)Z" } : MethodName) ∈ big := mb 1020 (by decide +kernel) (by decide +kernel)
theorem kw1021 : Cond.instanceMethod ({ cls := "RuledCalendarModel", name := "besides", desc := "(IIZ)Z" } : MethodName) ∈ big := mb 1021 (by decide +kernel) (by decide +kernel)
theorem kw1022 : Cond.selects "RuledCalendarModel" ({ cls := "RuledCalendarModel", name := "besides", desc := "(IIZ)Z" } : MethodName) ({ cls := "RuledCalendarModel", name := "besides", desc := "(IIZ)Z" } : MethodName) ∈ big := mb 1022 (by decide +kernel) (by decide +kernel)
set_option maxRecDepth 20000 in
theorem kw1023 : Cond.code yX8_besides cX8_besides 6 (some .boolean) ∈ big := mb 1023 rfl (by decide +kernel)
theorem kw1024 : Cond.methodLink "RuledCalendarLaw" 109 ({ cls := "RuledCalendarModel", name := "comes", desc := "(II)Z" } : MethodName) ∈ big := mb 1024 (by decide +kernel) (by decide +kernel)
theorem kw1025 : Cond.instanceMethod ({ cls := "RuledCalendarModel", name := "comes", desc := "(II)Z" } : MethodName) ∈ big := mb 1025 (by decide +kernel) (by decide +kernel)
theorem kw1026 : Cond.selects "RuledCalendarModel" ({ cls := "RuledCalendarModel", name := "comes", desc := "(II)Z" } : MethodName) ({ cls := "RuledCalendarModel", name := "comes", desc := "(II)Z" } : MethodName) ∈ big := mb 1026 (by decide +kernel) (by decide +kernel)
set_option maxRecDepth 20000 in
theorem kw1027 : Cond.code yX8_comes cX8_comes 4 (some .boolean) ∈ big := mb 1027 rfl (by decide +kernel)
theorem kw1032 : Cond.methodLink "RuledCalendarLaw" 112 ({ cls := "RuledCalendarModel", name := "next", desc := "(II)I" } : MethodName) ∈ big := mb 1032 (by decide +kernel) (by decide +kernel)
theorem kw1033 : Cond.instanceMethod ({ cls := "RuledCalendarModel", name := "next", desc := "(II)I" } : MethodName) ∈ big := mb 1033 (by decide +kernel) (by decide +kernel)
theorem kw1034 : Cond.selects "RuledCalendarModel" ({ cls := "RuledCalendarModel", name := "next", desc := "(II)I" } : MethodName) ({ cls := "RuledCalendarModel", name := "next", desc := "(II)I" } : MethodName) ∈ big := mb 1034 (by decide +kernel) (by decide +kernel)
set_option maxRecDepth 20000 in
theorem kw1035 : Cond.code yX8_next cX8_next 5 (some .int) ∈ big := mb 1035 rfl (by decide +kernel)
theorem kw1036 : Cond.methodLink "RuledCalendarLaw" 115 ({ cls := "RuledCalendarModel", name := "date", desc := "(II)I" } : MethodName) ∈ big := mb 1036 (by decide +kernel) (by decide +kernel)
theorem kw1037 : Cond.instanceMethod ({ cls := "RuledCalendarModel", name := "date", desc := "(II)I" } : MethodName) ∈ big := mb 1037 (by decide +kernel) (by decide +kernel)
theorem kw1038 : Cond.selects "RuledCalendarModel" ({ cls := "RuledCalendarModel", name := "date", desc := "(II)I" } : MethodName) ({ cls := "RuledCalendarModel", name := "date", desc := "(II)I" } : MethodName) ∈ big := mb 1038 (by decide +kernel) (by decide +kernel)
set_option maxRecDepth 20000 in
theorem kw1039 : Cond.code yX8_date cX8_date 5 (some .int) ∈ big := mb 1039 rfl (by decide +kernel)
theorem kw1040 : Cond.methodLink "RuledCalendarLaw" 119 ({ cls := "RuledCalendarModel", name := "times", desc := "(III)I" } : MethodName) ∈ big := mb 1040 (by decide +kernel) (by decide +kernel)
theorem kw1041 : Cond.instanceMethod ({ cls := "RuledCalendarModel", name := "times", desc := "(III)I" } : MethodName) ∈ big := mb 1041 (by decide +kernel) (by decide +kernel)
theorem kw1042 : Cond.selects "RuledCalendarModel" ({ cls := "RuledCalendarModel", name := "times", desc := "(III)I" } : MethodName) ({ cls := "RuledCalendarModel", name := "times", desc := "(III)I" } : MethodName) ∈ big := mb 1042 (by decide +kernel) (by decide +kernel)
set_option maxRecDepth 20000 in
theorem kw1043 : Cond.code yX8_times cX8_times 8 (some .int) ∈ big := mb 1043 rfl (by decide +kernel)
theorem kw1044 : Cond.methodLink "RuledCalendarLaw" 122 ({ cls := "RuledCalendarModel", name := "list", desc := "(II)I" } : MethodName) ∈ big := mb 1044 (by decide +kernel) (by decide +kernel)
theorem kw1045 : Cond.instanceMethod ({ cls := "RuledCalendarModel", name := "list", desc := "(II)I" } : MethodName) ∈ big := mb 1045 (by decide +kernel) (by decide +kernel)
theorem kw1046 : Cond.selects "RuledCalendarModel" ({ cls := "RuledCalendarModel", name := "list", desc := "(II)I" } : MethodName) ({ cls := "RuledCalendarModel", name := "list", desc := "(II)I" } : MethodName) ∈ big := mb 1046 (by decide +kernel) (by decide +kernel)
set_option maxRecDepth 20000 in
theorem kw1047 : Cond.code yX8_list cX8_list 7 (some .int) ∈ big := mb 1047 rfl (by decide +kernel)
theorem kw1049 : Cond.methodLink "RuledCalendarLaw" 125 ({ cls := "RuledCalendarModel", name := "item", desc := "(I)J" } : MethodName) ∈ big := mb 1049 (by decide +kernel) (by decide +kernel)
theorem kw1050 : Cond.instanceMethod ({ cls := "RuledCalendarModel", name := "item", desc := "(I)J" } : MethodName) ∈ big := mb 1050 (by decide +kernel) (by decide +kernel)
theorem kw1051 : Cond.selects "RuledCalendarModel" ({ cls := "RuledCalendarModel", name := "item", desc := "(I)J" } : MethodName) ({ cls := "RuledCalendarModel", name := "item", desc := "(I)J" } : MethodName) ∈ big := mb 1051 (by decide +kernel) (by decide +kernel)
set_option maxRecDepth 20000 in
theorem kw1052 : Cond.code yX8_item cX8_item 2 (some .long) ∈ big := mb 1052 rfl (by decide +kernel)
theorem kw1053 : Cond.methodLink "RuledCalendarLaw" 128 ({ cls := "RuledCalendarModel", name := "busiest", desc := "(II)I" } : MethodName) ∈ big := mb 1053 (by decide +kernel) (by decide +kernel)
theorem kw1054 : Cond.instanceMethod ({ cls := "RuledCalendarModel", name := "busiest", desc := "(II)I" } : MethodName) ∈ big := mb 1054 (by decide +kernel) (by decide +kernel)
theorem kw1055 : Cond.selects "RuledCalendarModel" ({ cls := "RuledCalendarModel", name := "busiest", desc := "(II)I" } : MethodName) ({ cls := "RuledCalendarModel", name := "busiest", desc := "(II)I" } : MethodName) ∈ big := mb 1055 (by decide +kernel) (by decide +kernel)
set_option maxRecDepth 20000 in
theorem kw1056 : Cond.code yX8_busiest cX8_busiest 9 (some .int) ∈ big := mb 1056 rfl (by decide +kernel)
theorem kw1061 : Cond.methodLink "RuledCalendarLaw" 131 ({ cls := "RuledCalendarModel", name := "quiet", desc := "(II)I" } : MethodName) ∈ big := mb 1061 (by decide +kernel) (by decide +kernel)
theorem kw1062 : Cond.instanceMethod ({ cls := "RuledCalendarModel", name := "quiet", desc := "(II)I" } : MethodName) ∈ big := mb 1062 (by decide +kernel) (by decide +kernel)
theorem kw1063 : Cond.selects "RuledCalendarModel" ({ cls := "RuledCalendarModel", name := "quiet", desc := "(II)I" } : MethodName) ({ cls := "RuledCalendarModel", name := "quiet", desc := "(II)I" } : MethodName) ∈ big := mb 1063 (by decide +kernel) (by decide +kernel)
set_option maxRecDepth 20000 in
theorem kw1064 : Cond.code yX8_quiet cX8_quiet 6 (some .int) ∈ big := mb 1064 rfl (by decide +kernel)
theorem kw1065 : Cond.methodLink "RuledCalendarLaw" 134 ({ cls := "RuledCalendarModel", name := "shifted", desc := "(II)I" } : MethodName) ∈ big := mb 1065 (by decide +kernel) (by decide +kernel)
theorem kw1066 : Cond.instanceMethod ({ cls := "RuledCalendarModel", name := "shifted", desc := "(II)I" } : MethodName) ∈ big := mb 1066 (by decide +kernel) (by decide +kernel)
theorem kw1067 : Cond.selects "RuledCalendarModel" ({ cls := "RuledCalendarModel", name := "shifted", desc := "(II)I" } : MethodName) ({ cls := "RuledCalendarModel", name := "shifted", desc := "(II)I" } : MethodName) ∈ big := mb 1067 (by decide +kernel) (by decide +kernel)
set_option maxRecDepth 20000 in
theorem kw1068 : Cond.code yX8_shifted cX8_shifted 6 (some .int) ∈ big := mb 1068 rfl (by decide +kernel)
theorem kw1070 : Cond.constantLong "RuledCalendarLaw" 67 (4294967295 : Int64) ∈ big := mb 1070 (by decide +kernel) (by decide +kernel)
set_option maxHeartbeats 4000000 in
set_option maxRecDepth 100000 in
theorem lawC_feed {p : Program} {l : Launch} {e : Env} {R : Room} {s : State} {m : MethodId} {args : Array Value} {below : List Frame} {meth : Method} {c : Code} {H : Heap} {locs : List Loc} {cells slots : Nat} {Q : State → Prop} {G : Ev} {ls : Array Slot} {b a : Nat → Nat} {qm : Pc3} {z q : Pc4} {o : Nat} {f : Nat → Int64} {sb L : Nat} {xs : Nat → Int32} {n j : Nat} {K : Pc3 → Pc4 → Pc4 → (Nat → Int64) → Prop} (X0 : LX p l s m args meth c G sb L xs) (hj : 4 * j + 4 ≤ L) (hRf : 14 ≤ R.frames) (hRl : 532 ≤ R.locals) (hRc : cells + 5 ≤ R.cells) (hRs : slots + 10810 ≤ R.slots) (hsk : ∀ x2 : Int64, SK_feed n qm z q f (xs (4 * j + 1)) x2 K) (hP : va_P (DD G) vwCl (WW G b qm a z q o f) H) (hD : va_D (lA s) (WW G b qm a z q o f)) (hS : va_S (lA s) s.heap H locs) (hl : lv_has ls 8 [(4, .int (nI (4 * j))), (0, .ref sb), (1, .ref (a 0)), (2, .ref (b 0)), (3, .ref o)])
    (kk : ∀ (a1 : Nat → Nat) (qm' : Pc3) (z' q' : Pc4) (f' : Nat → Int64) (H : Heap) (locs : List Loc) (ls : Array Slot), a1 0 = a 0 → K qm' z' q' f' → va_P (DD G) vwCl (WW G b qm' a1 z' q' o f') H → va_D (lA s) (WW G b qm' a1 z' q' o f') → va_S (lA s) s.heap H locs → lv_has ls 8 [(4, .int (nI (4 * j))), (0, .ref sb), (1, .ref (a 0)), (2, .ref (b 0)), (3, .ref o)] → W p l e R s m args below meth c H locs (cells + 5) (slots + 10810) Q (F0 m 1175 ls [])) :
    W p l e R s m args below meth c H locs cells slots Q (F0 m 120 ls []) := by
  obtain ⟨X, hX, hN, hsx, hsb, hst, hL⟩ := id X0
  obtain ⟨⟨hx, hb, hml, hown, hts⟩, hK, hr, hlk, hA, hAs, hSta⟩ := id X
  refine lv_aload_n hx hb dL_law_120 rfl (lv_at hl 2 rfl) ?_
  refine lv_aload_n hx hb dL_law_121 rfl (lv_at hl 1 rfl) ?_
  refine lv_iload hx hb dL_law_122 (lv_at hl 0 rfl) ?_
  refine lv_iconst (v := 1) hx hb dL_law_124 (by decide) ?_
  refine lv_iadd hx hb dL_law_125 ?_
  refine sld X0 hS (4 * j + 1) (by omega) (nI_add (4 * j) 1) dL_law_126 ?_
  refine lv_aload_n hx hb dL_law_127 rfl (lv_at hl 1 rfl) ?_
  refine lv_iload hx hb dL_law_128 (lv_at hl 0 rfl) ?_
  refine lv_iconst (v := 2) hx hb dL_law_130 (by decide) ?_
  refine lv_iadd hx hb dL_law_131 ?_
  refine sld X0 hS (4 * j + 2) (by omega) (nI_add (4 * j) 2) dL_law_132 ?_
  refine lv_i2l (v := (xs (4 * j + 2)).toInt64) hx hb dL_law_133 rfl ?_
  refine lv_bipush (v := 32) hx hb dL_law_134 (by decide) ?_
  refine lv_lshl (v := (slL (xs (4 * j + 2)).toInt64 32)) hx hb dL_law_136 rfl ?_
  refine lv_aload_n hx hb dL_law_137 rfl (lv_at hl 1 rfl) ?_
  refine lv_iload hx hb dL_law_138 (lv_at hl 0 rfl) ?_
  refine lv_iconst (v := 3) hx hb dL_law_140 (by decide) ?_
  refine lv_iadd hx hb dL_law_141 ?_
  refine sld X0 hS (4 * j + 3) (by omega) (nI_add (4 * j) 3) dL_law_142 ?_
  refine lv_i2l (v := (xs (4 * j + 3)).toInt64) hx hb dL_law_143 rfl ?_
  refine lv_ldc2 hx hb hown (hts _ (List.mem_cons_of_mem _ kw1070)) dL_law_144 ?_
  refine lv_land hx hb dL_law_147 ?_
  refine lv_lor hx hb dL_law_148 ?_
  refine lv_aload_n hx hb dL_law_149 rfl (lv_at hl 4 rfl) ?_
  obtain ⟨res, r, qm1, e1, e2, e3, e4, hKK⟩ := hsk (((slL (xs (4 * j + 2)).toInt64 32) ||| ((xs (4 * j + 3)).toInt64 &&& 4294967295)))
  have hsL := AL_sub hS hA (va_D_pre hD)
  refine goW (n := 4) (a := a) X hX hN (cL_w_feed (a := a) (o := o) hst e1) (gW kw231 kw232 kw0 kw233) (by decide +kernel) ⟨by omega, by omega⟩ (va_P_pre hP) (va_D_pre hD) hS rfl rfl hl.1 (Nat.le_of_ble_eq_true rfl) dL_law_150 ⟨by omega, by omega⟩ (fun a1 H locs ha hP1 hD1 hk hS => ?_)
  obtain ⟨hP, hD⟩ := va_glue hP hD hk hsL hP1 hD1
  have hP : va_P (DD G) vwCl (WW G b qm a1 res.2.1 res.2.2.1 o res.2.2.2) H := hP
  have hD : va_D (lA s) (WW G b qm a1 res.2.1 res.2.2.1 o res.2.2.2) := hD
  refine lv_istore (lv' := [(5, .int res.1), (4, .int (nI (4 * j))), (0, .ref sb), (1, .ref (a 0)), (2, .ref (b 0)), (3, .ref o)]) hx hb dL_law_153 hl (by decide) rfl (fun ls hl => ?_)
  refine lv_aload_n hx hb dL_law_155 rfl (lv_at hl 4 rfl) ?_
  refine lv_aload_n hx hb dL_law_156 rfl (lv_at hl 2 rfl) ?_
  refine lv_iload hx hb dL_law_157 (lv_at hl 1 rfl) ?_
  refine lv_iconst (v := 1) hx hb dL_law_159 (by decide) ?_
  refine lv_iadd hx hb dL_law_160 ?_
  refine sld X0 hS (4 * j + 1) (by omega) (nI_add (4 * j) 1) dL_law_161 ?_
  refine lv_aload_n hx hb dL_law_162 rfl (lv_at hl 2 rfl) ?_
  refine lv_iload hx hb dL_law_163 (lv_at hl 1 rfl) ?_
  refine lv_iconst (v := 2) hx hb dL_law_165 (by decide) ?_
  refine lv_iadd hx hb dL_law_166 ?_
  refine sld X0 hS (4 * j + 2) (by omega) (nI_add (4 * j) 2) dL_law_167 ?_
  refine lv_i2l (v := (xs (4 * j + 2)).toInt64) hx hb dL_law_168 rfl ?_
  refine lv_bipush (v := 32) hx hb dL_law_169 (by decide) ?_
  refine lv_lshl (v := (slL (xs (4 * j + 2)).toInt64 32)) hx hb dL_law_171 rfl ?_
  refine lv_aload_n hx hb dL_law_172 rfl (lv_at hl 2 rfl) ?_
  refine lv_iload hx hb dL_law_173 (lv_at hl 1 rfl) ?_
  refine lv_iconst (v := 3) hx hb dL_law_175 (by decide) ?_
  refine lv_iadd hx hb dL_law_176 ?_
  refine sld X0 hS (4 * j + 3) (by omega) (nI_add (4 * j) 3) dL_law_177 ?_
  refine lv_i2l (v := (xs (4 * j + 3)).toInt64) hx hb dL_law_178 rfl ?_
  refine lv_ldc2 hx hb hown (hts _ (List.mem_cons_of_mem _ kw1070)) dL_law_179 ?_
  refine lv_land hx hb dL_law_182 ?_
  refine lv_lor hx hb dL_law_183 ?_
  have hsM := AL_sub hS hA (ww_MD hD)
  refine goV_i (n := 2) (C := RX8) X (cM_feed (a := b) e2) (gV kw872 kw873 kw874 kw9 kw875) (by decide +kernel) ⟨by omega, by omega⟩ (rcM hK (ww_MP hP)) (ww_MP hP) (ww_MD hD) hS rfl rfl hl.1 (Nat.le_of_ble_eq_true rfl) dL_law_184 ⟨by omega, by omega⟩ (fun H locs hP1 hk hS => ?_)
  obtain ⟨hP, hD⟩ := ww_glM hP hD hk hsM hP1
  refine lv_istore (lv' := [(6, .int r), (5, .int res.1), (4, .int (nI (4 * j))), (0, .ref sb), (1, .ref (a 0)), (2, .ref (b 0)), (3, .ref o)]) hx hb dL_law_187 hl (by decide) rfl (fun ls hl => ?_)
  refine lv_aload_n hx hb dL_law_189 rfl (lv_at hl 5 rfl) ?_
  have hsM := AL_sub hS hA (ww_MD hD)
  refine goV_i (n := 0) (C := RX8) X (cM_thrown (a := b) e3) (gV kw868 kw869 kw870 kw9 kw871) (by decide +kernel) ⟨by omega, by omega⟩ (rcM hK (ww_MP hP)) (ww_MP hP) (ww_MD hD) hS rfl rfl hl.1 (Nat.le_of_ble_eq_true rfl) dL_law_190 ⟨by omega, by omega⟩ (fun H locs hP1 hk hS => ?_)
  obtain ⟨hP, hD⟩ := ww_glM hP hD hk hsM hP1
  refine lv_iload hx hb dL_law_193 (lv_at hl 1 rfl) ?_
  refine lv_icmp_eq (tgt := 200) hx hb dL_law_195 (by decide) (fun _ => ?_) (fun c => absurd rfl c)
  refine lv_iload hx hb dL_law_200 (lv_at hl 1 rfl) ?_
  refine lv_if_ne (tgt := 217) hx hb dL_law_202 (by decide) (fun _ => ?_) (fun c0 => ?_)
  · refine lv_goto (tgt := 1175) hx hb dL_law_217 (by decide) ?_
    refine W.widen (k := cells + 5) (n := slots + 10810) (by omega) (by omega) ?_
    exact kk a1 qm1 _ _ _ H locs ls ha hKK hP hD hS (lv_sub hl [2, 3, 4, 5, 6] rfl)
  · have e4 := e4 c0
    refine lv_aload_n hx hb dL_law_205 rfl (lv_at hl 6 rfl) ?_
    refine lv_iconst (v := 0) hx hb dL_law_206 (by decide) ?_
    refine outLd X hP dL_law_207 ?_
    refine lv_iload hx hb dL_law_208 (lv_at hl 0 rfl) ?_
    refine lv_i2l (v := r.toInt64) hx hb dL_law_210 rfl ?_
    refine W.lcmp hx hb dL_law_211 ?_
    refine lv_if_eq (tgt := 217) hx hb dL_law_212 (by decide) (fun _ => ?_) (fun c => absurd (cmp0 e4) c)
    refine lv_goto (tgt := 1175) hx hb dL_law_217 (by decide) ?_
    refine W.widen (k := cells + 5) (n := slots + 10810) (by omega) (by omega) ?_
    exact kk a1 qm1 _ _ _ H locs ls ha hKK hP hD hS (lv_sub hl [2, 3, 4, 5, 6] rfl)

set_option maxHeartbeats 4000000 in
set_option maxRecDepth 100000 in
theorem lawC_wipe {p : Program} {l : Launch} {e : Env} {R : Room} {s : State} {m : MethodId} {args : Array Value} {below : List Frame} {meth : Method} {c : Code} {H : Heap} {locs : List Loc} {cells slots : Nat} {Q : State → Prop} {G : Ev} {ls : Array Slot} {b a : Nat → Nat} {qm : Pc3} {z q : Pc4} {o : Nat} {f : Nat → Int64} {sb L : Nat} {xs : Nat → Int32} {n j : Nat} {K : Pc3 → Pc4 → Pc4 → (Nat → Int64) → Prop} (X0 : LX p l s m args meth c G sb L xs) (hj : 4 * j + 4 ≤ L) (hRf : 14 ≤ R.frames) (hRl : 532 ≤ R.locals) (hRc : cells + 5 ≤ R.cells) (hRs : slots + 10810 ≤ R.slots) (hsk : SK_wipe n qm z q f K) (hP : va_P (DD G) vwCl (WW G b qm a z q o f) H) (hD : va_D (lA s) (WW G b qm a z q o f)) (hS : va_S (lA s) s.heap H locs) (hl : lv_has ls 8 [(4, .int (nI (4 * j))), (0, .ref sb), (1, .ref (a 0)), (2, .ref (b 0)), (3, .ref o)])
    (kk : ∀ (a1 : Nat → Nat) (qm' : Pc3) (z' q' : Pc4) (f' : Nat → Int64) (H : Heap) (locs : List Loc) (ls : Array Slot), a1 0 = a 0 → K qm' z' q' f' → va_P (DD G) vwCl (WW G b qm' a1 z' q' o f') H → va_D (lA s) (WW G b qm' a1 z' q' o f') → va_S (lA s) s.heap H locs → lv_has ls 8 [(4, .int (nI (4 * j))), (0, .ref sb), (1, .ref (a 0)), (2, .ref (b 0)), (3, .ref o)] → W p l e R s m args below meth c H locs (cells + 5) (slots + 10810) Q (F0 m 1175 ls [])) :
    W p l e R s m args below meth c H locs cells slots Q (F0 m 220 ls []) := by
  obtain ⟨X, hX, hN, hsx, hsb, hst, hL⟩ := id X0
  obtain ⟨⟨hx, hb, hml, hown, hts⟩, hK, hr, hlk, hA, hAs, hSta⟩ := id X
  obtain ⟨r, q1, qm1, e1, e2, hKK⟩ := hsk
  refine lv_aload_n hx hb dL_law_220 rfl (lv_at hl 2 rfl) ?_
  have hsZ := AL_sub hS hA (ww_ZD hD)
  refine goV_i (n := 0) (C := RX7) X (cQ7_wipe (a := a) e1) (gV kw219 kw220 kw221 kw1 kw222) (by decide +kernel) ⟨by omega, by omega⟩ (rc_cal hK (ww_ZP hP)) (ww_ZP hP) (ww_ZD hD) hS rfl rfl hl.1 (Nat.le_of_ble_eq_true rfl) dL_law_221 ⟨by omega, by omega⟩ (fun H locs hP1 hk hS => ?_)
  obtain ⟨hP, hD⟩ := ww_glZ hP hD hk hsZ hP1
  refine lv_aload_n hx hb dL_law_224 rfl (lv_at hl 3 rfl) ?_
  have hsM := AL_sub hS hA (ww_MD hD)
  refine goV_i (n := 0) (C := RX8) X (cM_wipe (a := b) e2) (gV kw877 kw878 kw879 kw9 kw880) (by decide +kernel) ⟨by omega, by omega⟩ (rcM hK (ww_MP hP)) (ww_MP hP) (ww_MD hD) hS rfl rfl hl.1 (Nat.le_of_ble_eq_true rfl) dL_law_225 ⟨by omega, by omega⟩ (fun H locs hP1 hk hS => ?_)
  obtain ⟨hP, hD⟩ := ww_glM hP hD hk hsM hP1
  refine lv_icmp_eq (tgt := 1175) hx hb dL_law_228 (by decide) (fun _ => ?_) (fun c => absurd rfl c)
  refine W.widen (k := cells + 5) (n := slots + 10810) (by omega) (by omega) ?_
  exact kk a qm1 z q1 f H locs ls rfl hKK hP hD hS hl

set_option maxHeartbeats 4000000 in
set_option maxRecDepth 100000 in
theorem lawC_thing {p : Program} {l : Launch} {e : Env} {R : Room} {s : State} {m : MethodId} {args : Array Value} {below : List Frame} {meth : Method} {c : Code} {H : Heap} {locs : List Loc} {cells slots : Nat} {Q : State → Prop} {G : Ev} {ls : Array Slot} {b a : Nat → Nat} {qm : Pc3} {z q : Pc4} {o : Nat} {f : Nat → Int64} {sb L : Nat} {xs : Nat → Int32} {n j : Nat} {K : Pc3 → Pc4 → Pc4 → (Nat → Int64) → Prop} (X0 : LX p l s m args meth c G sb L xs) (hj : 4 * j + 4 ≤ L) (hRf : 14 ≤ R.frames) (hRl : 532 ≤ R.locals) (hRc : cells + 5 ≤ R.cells) (hRs : slots + 10810 ≤ R.slots) (hsk : SK_thing n qm z q f (xs (4 * j + 1)) K) (hP : va_P (DD G) vwCl (WW G b qm a z q o f) H) (hD : va_D (lA s) (WW G b qm a z q o f)) (hS : va_S (lA s) s.heap H locs) (hl : lv_has ls 8 [(4, .int (nI (4 * j))), (0, .ref sb), (1, .ref (a 0)), (2, .ref (b 0)), (3, .ref o)])
    (kk : ∀ (a1 : Nat → Nat) (qm' : Pc3) (z' q' : Pc4) (f' : Nat → Int64) (H : Heap) (locs : List Loc) (ls : Array Slot), a1 0 = a 0 → K qm' z' q' f' → va_P (DD G) vwCl (WW G b qm' a1 z' q' o f') H → va_D (lA s) (WW G b qm' a1 z' q' o f') → va_S (lA s) s.heap H locs → lv_has ls 8 [(4, .int (nI (4 * j))), (0, .ref sb), (1, .ref (a 0)), (2, .ref (b 0)), (3, .ref o)] → W p l e R s m args below meth c H locs (cells + 5) (slots + 10810) Q (F0 m 1175 ls [])) :
    W p l e R s m args below meth c H locs cells slots Q (F0 m 233 ls []) := by
  obtain ⟨X, hX, hN, hsx, hsb, hst, hL⟩ := id X0
  obtain ⟨⟨hx, hb, hml, hown, hts⟩, hK, hr, hlk, hA, hAs, hSta⟩ := id X
  refine lv_aload_n hx hb dL_law_233 rfl (lv_at hl 2 rfl) ?_
  refine lv_aload_n hx hb dL_law_234 rfl (lv_at hl 1 rfl) ?_
  refine lv_iload hx hb dL_law_235 (lv_at hl 0 rfl) ?_
  refine lv_iconst (v := 1) hx hb dL_law_237 (by decide) ?_
  refine lv_iadd hx hb dL_law_238 ?_
  refine sld X0 hS (4 * j + 1) (by omega) (nI_add (4 * j) 1) dL_law_239 ?_
  refine lv_aload_n hx hb dL_law_240 rfl (lv_at hl 4 rfl) ?_
  obtain ⟨res, r, qm1, e1, e2, e3, e4, hKK⟩ := hsk
  have hsL := AL_sub hS hA (va_D_pre hD)
  refine goW (n := 3) (a := a) X hX hN (cL_w_thing (a := a) (o := o) hst e1) (gW kw302 kw303 kw0 kw304) (by decide +kernel) ⟨by omega, by omega⟩ (va_P_pre hP) (va_D_pre hD) hS rfl rfl hl.1 (Nat.le_of_ble_eq_true rfl) dL_law_241 ⟨by omega, by omega⟩ (fun a1 H locs ha hP1 hD1 hk hS => ?_)
  obtain ⟨hP, hD⟩ := va_glue hP hD hk hsL hP1 hD1
  have hP : va_P (DD G) vwCl (WW G b qm a1 res.2.1 res.2.2.1 o res.2.2.2) H := hP
  have hD : va_D (lA s) (WW G b qm a1 res.2.1 res.2.2.1 o res.2.2.2) := hD
  refine lv_istore (lv' := [(5, .int res.1), (4, .int (nI (4 * j))), (0, .ref sb), (1, .ref (a 0)), (2, .ref (b 0)), (3, .ref o)]) hx hb dL_law_244 hl (by decide) rfl (fun ls hl => ?_)
  refine lv_aload_n hx hb dL_law_246 rfl (lv_at hl 4 rfl) ?_
  refine lv_aload_n hx hb dL_law_247 rfl (lv_at hl 2 rfl) ?_
  refine lv_iload hx hb dL_law_248 (lv_at hl 1 rfl) ?_
  refine lv_iconst (v := 1) hx hb dL_law_250 (by decide) ?_
  refine lv_iadd hx hb dL_law_251 ?_
  refine sld X0 hS (4 * j + 1) (by omega) (nI_add (4 * j) 1) dL_law_252 ?_
  have hsM := AL_sub hS hA (ww_MD hD)
  refine goV_i (n := 1) (C := RX8) X (cM_thing (a := b) e2) (gV kw881 kw882 kw883 kw9 kw884) (by decide +kernel) ⟨by omega, by omega⟩ (rcM hK (ww_MP hP)) (ww_MP hP) (ww_MD hD) hS rfl rfl hl.1 (Nat.le_of_ble_eq_true rfl) dL_law_253 ⟨by omega, by omega⟩ (fun H locs hP1 hk hS => ?_)
  obtain ⟨hP, hD⟩ := ww_glM hP hD hk hsM hP1
  refine lv_istore (lv' := [(6, .int r), (5, .int res.1), (4, .int (nI (4 * j))), (0, .ref sb), (1, .ref (a 0)), (2, .ref (b 0)), (3, .ref o)]) hx hb dL_law_256 hl (by decide) rfl (fun ls hl => ?_)
  refine lv_aload_n hx hb dL_law_258 rfl (lv_at hl 5 rfl) ?_
  have hsM := AL_sub hS hA (ww_MD hD)
  refine goV_i (n := 0) (C := RX8) X (cM_thrown (a := b) e3) (gV kw868 kw869 kw870 kw9 kw871) (by decide +kernel) ⟨by omega, by omega⟩ (rcM hK (ww_MP hP)) (ww_MP hP) (ww_MD hD) hS rfl rfl hl.1 (Nat.le_of_ble_eq_true rfl) dL_law_259 ⟨by omega, by omega⟩ (fun H locs hP1 hk hS => ?_)
  obtain ⟨hP, hD⟩ := ww_glM hP hD hk hsM hP1
  refine lv_iload hx hb dL_law_262 (lv_at hl 1 rfl) ?_
  refine lv_icmp_eq (tgt := 269) hx hb dL_law_264 (by decide) (fun _ => ?_) (fun c => absurd rfl c)
  refine lv_iload hx hb dL_law_269 (lv_at hl 1 rfl) ?_
  refine lv_if_ne (tgt := 286) hx hb dL_law_271 (by decide) (fun _ => ?_) (fun c0 => ?_)
  · refine lv_goto (tgt := 1175) hx hb dL_law_286 (by decide) ?_
    refine W.widen (k := cells + 5) (n := slots + 10810) (by omega) (by omega) ?_
    exact kk a1 qm1 _ _ _ H locs ls ha hKK hP hD hS (lv_sub hl [2, 3, 4, 5, 6] rfl)
  · have e4 := e4 c0
    refine lv_aload_n hx hb dL_law_274 rfl (lv_at hl 6 rfl) ?_
    refine lv_iconst (v := 0) hx hb dL_law_275 (by decide) ?_
    refine outLd X hP dL_law_276 ?_
    refine lv_iload hx hb dL_law_277 (lv_at hl 0 rfl) ?_
    refine lv_i2l (v := r.toInt64) hx hb dL_law_279 rfl ?_
    refine W.lcmp hx hb dL_law_280 ?_
    refine lv_if_eq (tgt := 286) hx hb dL_law_281 (by decide) (fun _ => ?_) (fun c => absurd (cmp0 e4) c)
    refine lv_goto (tgt := 1175) hx hb dL_law_286 (by decide) ?_
    refine W.widen (k := cells + 5) (n := slots + 10810) (by omega) (by omega) ?_
    exact kk a1 qm1 _ _ _ H locs ls ha hKK hP hD hS (lv_sub hl [2, 3, 4, 5, 6] rfl)

set_option maxHeartbeats 4000000 in
set_option maxRecDepth 100000 in
theorem lawC_fault {p : Program} {l : Launch} {e : Env} {R : Room} {s : State} {m : MethodId} {args : Array Value} {below : List Frame} {meth : Method} {c : Code} {H : Heap} {locs : List Loc} {cells slots : Nat} {Q : State → Prop} {G : Ev} {ls : Array Slot} {b a : Nat → Nat} {qm : Pc3} {z q : Pc4} {o : Nat} {f : Nat → Int64} {sb L : Nat} {xs : Nat → Int32} {n j : Nat} {K : Pc3 → Pc4 → Pc4 → (Nat → Int64) → Prop} (X0 : LX p l s m args meth c G sb L xs) (hj : 4 * j + 4 ≤ L) (hRf : 14 ≤ R.frames) (hRl : 532 ≤ R.locals) (hRc : cells + 5 ≤ R.cells) (hRs : slots + 10810 ≤ R.slots) (hsk : SK_fault n qm z q f K) (hP : va_P (DD G) vwCl (WW G b qm a z q o f) H) (hD : va_D (lA s) (WW G b qm a z q o f)) (hS : va_S (lA s) s.heap H locs) (hl : lv_has ls 8 [(4, .int (nI (4 * j))), (0, .ref sb), (1, .ref (a 0)), (2, .ref (b 0)), (3, .ref o)])
    (kk : ∀ (a1 : Nat → Nat) (qm' : Pc3) (z' q' : Pc4) (f' : Nat → Int64) (H : Heap) (locs : List Loc) (ls : Array Slot), a1 0 = a 0 → K qm' z' q' f' → va_P (DD G) vwCl (WW G b qm' a1 z' q' o f') H → va_D (lA s) (WW G b qm' a1 z' q' o f') → va_S (lA s) s.heap H locs → lv_has ls 8 [(4, .int (nI (4 * j))), (0, .ref sb), (1, .ref (a 0)), (2, .ref (b 0)), (3, .ref o)] → W p l e R s m args below meth c H locs (cells + 5) (slots + 10810) Q (F0 m 1175 ls [])) :
    W p l e R s m args below meth c H locs cells slots Q (F0 m 289 ls []) := by
  obtain ⟨X, hX, hN, hsx, hsb, hst, hL⟩ := id X0
  obtain ⟨⟨hx, hb, hml, hown, hts⟩, hK, hr, hlk, hA, hAs, hSta⟩ := id X
  obtain ⟨r, qm1, e1, e2, hKK⟩ := hsk
  refine lv_aload_n hx hb dL_law_289 rfl (lv_at hl 2 rfl) ?_
  have hsZ := AL_sub hS hA (ww_ZD hD)
  refine goV_i (n := 0) (C := RX7) X (cQ7_fault (a := a) e1) (gV kw223 kw224 kw225 kw1 kw226) (by decide +kernel) ⟨by omega, by omega⟩ (rc_cal hK (ww_ZP hP)) (ww_ZP hP) (ww_ZD hD) hS rfl rfl hl.1 (Nat.le_of_ble_eq_true rfl) dL_law_290 ⟨by omega, by omega⟩ (fun H locs hP1 hk hS => ?_)
  obtain ⟨hP, hD⟩ := ww_glZ hP hD hk hsZ hP1
  refine lv_aload_n hx hb dL_law_293 rfl (lv_at hl 3 rfl) ?_
  have hsM := AL_sub hS hA (ww_MD hD)
  refine goV_i (n := 0) (C := RX8) X (cM_fault (a := b) e2) (gV kw996 kw997 kw998 kw9 kw999) (by decide +kernel) ⟨by omega, by omega⟩ (rcM hK (ww_MP hP)) (ww_MP hP) (ww_MD hD) hS rfl rfl hl.1 (Nat.le_of_ble_eq_true rfl) dL_law_294 ⟨by omega, by omega⟩ (fun H locs hP1 hk hS => ?_)
  obtain ⟨hP, hD⟩ := ww_glM hP hD hk hsM hP1
  refine lv_icmp_eq (tgt := 1175) hx hb dL_law_297 (by decide) (fun _ => ?_) (fun c => absurd rfl c)
  refine W.widen (k := cells + 5) (n := slots + 10810) (by omega) (by omega) ?_
  exact kk a qm1 z q f H locs ls rfl hKK hP hD hS hl

set_option maxHeartbeats 4000000 in
set_option maxRecDepth 100000 in
theorem lawC_place {p : Program} {l : Launch} {e : Env} {R : Room} {s : State} {m : MethodId} {args : Array Value} {below : List Frame} {meth : Method} {c : Code} {H : Heap} {locs : List Loc} {cells slots : Nat} {Q : State → Prop} {G : Ev} {ls : Array Slot} {b a : Nat → Nat} {qm : Pc3} {z q : Pc4} {o : Nat} {f : Nat → Int64} {sb L : Nat} {xs : Nat → Int32} {n j : Nat} {K : Pc3 → Pc4 → Pc4 → (Nat → Int64) → Prop} (X0 : LX p l s m args meth c G sb L xs) (hj : 4 * j + 4 ≤ L) (hRf : 14 ≤ R.frames) (hRl : 532 ≤ R.locals) (hRc : cells + 5 ≤ R.cells) (hRs : slots + 10810 ≤ R.slots) (hsk : SK_place n qm z q f K) (hP : va_P (DD G) vwCl (WW G b qm a z q o f) H) (hD : va_D (lA s) (WW G b qm a z q o f)) (hS : va_S (lA s) s.heap H locs) (hl : lv_has ls 8 [(4, .int (nI (4 * j))), (0, .ref sb), (1, .ref (a 0)), (2, .ref (b 0)), (3, .ref o)])
    (kk : ∀ (a1 : Nat → Nat) (qm' : Pc3) (z' q' : Pc4) (f' : Nat → Int64) (H : Heap) (locs : List Loc) (ls : Array Slot), a1 0 = a 0 → K qm' z' q' f' → va_P (DD G) vwCl (WW G b qm' a1 z' q' o f') H → va_D (lA s) (WW G b qm' a1 z' q' o f') → va_S (lA s) s.heap H locs → lv_has ls 8 [(4, .int (nI (4 * j))), (0, .ref sb), (1, .ref (a 0)), (2, .ref (b 0)), (3, .ref o)] → W p l e R s m args below meth c H locs (cells + 5) (slots + 10810) Q (F0 m 1175 ls [])) :
    W p l e R s m args below meth c H locs cells slots Q (F0 m 302 ls []) := by
  obtain ⟨X, hX, hN, hsx, hsb, hst, hL⟩ := id X0
  obtain ⟨⟨hx, hb, hml, hown, hts⟩, hK, hr, hlk, hA, hAs, hSta⟩ := id X
  obtain ⟨r, qm1, e1, e2, hKK⟩ := hsk
  refine lv_aload_n hx hb dL_law_302 rfl (lv_at hl 2 rfl) ?_
  have hsZ := AL_sub hS hA (ww_ZD hD)
  refine goV_i (n := 0) (C := RX7) X (cQ7_place (a := a) e1) (gV kw227 kw228 kw229 kw1 kw230) (by decide +kernel) ⟨by omega, by omega⟩ (rc_cal hK (ww_ZP hP)) (ww_ZP hP) (ww_ZD hD) hS rfl rfl hl.1 (Nat.le_of_ble_eq_true rfl) dL_law_303 ⟨by omega, by omega⟩ (fun H locs hP1 hk hS => ?_)
  obtain ⟨hP, hD⟩ := ww_glZ hP hD hk hsZ hP1
  refine lv_aload_n hx hb dL_law_306 rfl (lv_at hl 3 rfl) ?_
  have hsM := AL_sub hS hA (ww_MD hD)
  refine goV_i (n := 0) (C := RX8) X (cM_place (a := b) e2) (gV kw1000 kw1001 kw1002 kw9 kw1003) (by decide +kernel) ⟨by omega, by omega⟩ (rcM hK (ww_MP hP)) (ww_MP hP) (ww_MD hD) hS rfl rfl hl.1 (Nat.le_of_ble_eq_true rfl) dL_law_307 ⟨by omega, by omega⟩ (fun H locs hP1 hk hS => ?_)
  obtain ⟨hP, hD⟩ := ww_glM hP hD hk hsM hP1
  refine lv_icmp_eq (tgt := 1175) hx hb dL_law_310 (by decide) (fun _ => ?_) (fun c => absurd rfl c)
  refine W.widen (k := cells + 5) (n := slots + 10810) (by omega) (by omega) ?_
  exact kk a qm1 z q f H locs ls rfl hKK hP hD hS hl

set_option maxHeartbeats 4000000 in
set_option maxRecDepth 100000 in
theorem lawC_drop {p : Program} {l : Launch} {e : Env} {R : Room} {s : State} {m : MethodId} {args : Array Value} {below : List Frame} {meth : Method} {c : Code} {H : Heap} {locs : List Loc} {cells slots : Nat} {Q : State → Prop} {G : Ev} {ls : Array Slot} {b a : Nat → Nat} {qm : Pc3} {z q : Pc4} {o : Nat} {f : Nat → Int64} {sb L : Nat} {xs : Nat → Int32} {n j : Nat} {K : Pc3 → Pc4 → Pc4 → (Nat → Int64) → Prop} (X0 : LX p l s m args meth c G sb L xs) (hj : 4 * j + 4 ≤ L) (hRf : 14 ≤ R.frames) (hRl : 532 ≤ R.locals) (hRc : cells + 5 ≤ R.cells) (hRs : slots + 10810 ≤ R.slots) (hsk : SK_drop n qm z q f (xs (4 * j + 1)) K) (hP : va_P (DD G) vwCl (WW G b qm a z q o f) H) (hD : va_D (lA s) (WW G b qm a z q o f)) (hS : va_S (lA s) s.heap H locs) (hl : lv_has ls 8 [(4, .int (nI (4 * j))), (0, .ref sb), (1, .ref (a 0)), (2, .ref (b 0)), (3, .ref o)])
    (kk : ∀ (a1 : Nat → Nat) (qm' : Pc3) (z' q' : Pc4) (f' : Nat → Int64) (H : Heap) (locs : List Loc) (ls : Array Slot), a1 0 = a 0 → K qm' z' q' f' → va_P (DD G) vwCl (WW G b qm' a1 z' q' o f') H → va_D (lA s) (WW G b qm' a1 z' q' o f') → va_S (lA s) s.heap H locs → lv_has ls 8 [(4, .int (nI (4 * j))), (0, .ref sb), (1, .ref (a 0)), (2, .ref (b 0)), (3, .ref o)] → W p l e R s m args below meth c H locs (cells + 5) (slots + 10810) Q (F0 m 1175 ls [])) :
    W p l e R s m args below meth c H locs cells slots Q (F0 m 315 ls []) := by
  obtain ⟨X, hX, hN, hsx, hsb, hst, hL⟩ := id X0
  obtain ⟨⟨hx, hb, hml, hown, hts⟩, hK, hr, hlk, hA, hAs, hSta⟩ := id X
  refine lv_aload_n hx hb dL_law_315 rfl (lv_at hl 2 rfl) ?_
  refine lv_aload_n hx hb dL_law_316 rfl (lv_at hl 1 rfl) ?_
  refine lv_iload hx hb dL_law_317 (lv_at hl 0 rfl) ?_
  refine lv_iconst (v := 1) hx hb dL_law_319 (by decide) ?_
  refine lv_iadd hx hb dL_law_320 ?_
  refine sld X0 hS (4 * j + 1) (by omega) (nI_add (4 * j) 1) dL_law_321 ?_
  obtain ⟨res, qm1, e1, e2, e3, hKK⟩ := hsk
  have hsL := AL_sub hS hA (va_D_pre hD)
  refine goW (n := 2) (a := a) X hX hN (cL_w_drop (a := a) (o := o) hst e1) (gW kw622 kw623 kw0 kw624) (by decide +kernel) ⟨by omega, by omega⟩ (va_P_pre hP) (va_D_pre hD) hS rfl rfl hl.1 (Nat.le_of_ble_eq_true rfl) dL_law_322 ⟨by omega, by omega⟩ (fun a1 H locs ha hP1 hD1 hk hS => ?_)
  obtain ⟨hP, hD⟩ := va_glue hP hD hk hsL hP1 hD1
  have hP : va_P (DD G) vwCl (WW G b qm a1 res.2.1 res.2.2.1 o res.2.2.2) H := hP
  have hD : va_D (lA s) (WW G b qm a1 res.2.1 res.2.2.1 o res.2.2.2) := hD
  refine lv_istore (lv' := [(5, .int res.1), (4, .int (nI (4 * j))), (0, .ref sb), (1, .ref (a 0)), (2, .ref (b 0)), (3, .ref o)]) hx hb dL_law_325 hl (by decide) rfl (fun ls hl => ?_)
  refine lv_aload_n hx hb dL_law_327 rfl (lv_at hl 4 rfl) ?_
  refine lv_aload_n hx hb dL_law_328 rfl (lv_at hl 2 rfl) ?_
  refine lv_iload hx hb dL_law_329 (lv_at hl 1 rfl) ?_
  refine lv_iconst (v := 1) hx hb dL_law_331 (by decide) ?_
  refine lv_iadd hx hb dL_law_332 ?_
  refine sld X0 hS (4 * j + 1) (by omega) (nI_add (4 * j) 1) dL_law_333 ?_
  have hsM := AL_sub hS hA (ww_MD hD)
  refine goV_v (n := 1) (C := RX8) X (cM_drop (a := b) e2) (gV kw1004 kw1005 kw1006 kw9 kw1007) (by decide +kernel) ⟨by omega, by omega⟩ (rcM hK (ww_MP hP)) (ww_MP hP) (ww_MD hD) hS rfl rfl hl.1 (Nat.le_of_ble_eq_true rfl) dL_law_334 ⟨by omega, by omega⟩ (fun H locs hP1 hk hS => ?_)
  obtain ⟨hP, hD⟩ := ww_glM hP hD hk hsM hP1
  refine lv_aload_n hx hb dL_law_337 rfl (lv_at hl 4 rfl) ?_
  have hsM := AL_sub hS hA (ww_MD hD)
  refine goV_i (n := 0) (C := RX8) X (cM_thrown (a := b) e3) (gV kw868 kw869 kw870 kw9 kw871) (by decide +kernel) ⟨by omega, by omega⟩ (rcM hK (ww_MP hP)) (ww_MP hP) (ww_MD hD) hS rfl rfl hl.1 (Nat.le_of_ble_eq_true rfl) dL_law_338 ⟨by omega, by omega⟩ (fun H locs hP1 hk hS => ?_)
  obtain ⟨hP, hD⟩ := ww_glM hP hD hk hsM hP1
  refine lv_iload hx hb dL_law_341 (lv_at hl 0 rfl) ?_
  refine lv_icmp_eq (tgt := 348) hx hb dL_law_343 (by decide) (fun _ => ?_) (fun c => absurd rfl c)
  refine lv_goto (tgt := 1175) hx hb dL_law_348 (by decide) ?_
  refine W.widen (k := cells + 5) (n := slots + 10810) (by omega) (by omega) ?_
  exact kk a1 qm1 _ _ _ H locs ls ha hKK hP hD hS (lv_sub hl [1, 2, 3, 4, 5] rfl)

set_option maxHeartbeats 4000000 in
set_option maxRecDepth 100000 in
theorem lawC_except {p : Program} {l : Launch} {e : Env} {R : Room} {s : State} {m : MethodId} {args : Array Value} {below : List Frame} {meth : Method} {c : Code} {H : Heap} {locs : List Loc} {cells slots : Nat} {Q : State → Prop} {G : Ev} {ls : Array Slot} {b a : Nat → Nat} {qm : Pc3} {z q : Pc4} {o : Nat} {f : Nat → Int64} {sb L : Nat} {xs : Nat → Int32} {n j : Nat} {K : Pc3 → Pc4 → Pc4 → (Nat → Int64) → Prop} (X0 : LX p l s m args meth c G sb L xs) (hj : 4 * j + 4 ≤ L) (hRf : 14 ≤ R.frames) (hRl : 532 ≤ R.locals) (hRc : cells + 5 ≤ R.cells) (hRs : slots + 10810 ≤ R.slots) (hsk : ∀ x3 : Int32, x3 = 0 ∨ x3 = 1 → SK_except n qm z q f (xs (4 * j + 1)) (xs (4 * j + 2)) x3 K) (hP : va_P (DD G) vwCl (WW G b qm a z q o f) H) (hD : va_D (lA s) (WW G b qm a z q o f)) (hS : va_S (lA s) s.heap H locs) (hl : lv_has ls 8 [(4, .int (nI (4 * j))), (0, .ref sb), (1, .ref (a 0)), (2, .ref (b 0)), (3, .ref o)])
    (kk : ∀ (a1 : Nat → Nat) (qm' : Pc3) (z' q' : Pc4) (f' : Nat → Int64) (H : Heap) (locs : List Loc) (ls : Array Slot), a1 0 = a 0 → K qm' z' q' f' → va_P (DD G) vwCl (WW G b qm' a1 z' q' o f') H → va_D (lA s) (WW G b qm' a1 z' q' o f') → va_S (lA s) s.heap H locs → lv_has ls 8 [(4, .int (nI (4 * j))), (0, .ref sb), (1, .ref (a 0)), (2, .ref (b 0)), (3, .ref o)] → W p l e R s m args below meth c H locs (cells + 5) (slots + 10810) Q (F0 m 1175 ls [])) :
    W p l e R s m args below meth c H locs cells slots Q (F0 m 351 ls []) := by
  obtain ⟨X, hX, hN, hsx, hsb, hst, hL⟩ := id X0
  obtain ⟨⟨hx, hb, hml, hown, hts⟩, hK, hr, hlk, hA, hAs, hSta⟩ := id X
  by_cases c3 : xs (4 * j + 3) = 0
  · refine lv_aload_n hx hb dL_law_351 rfl (lv_at hl 2 rfl) ?_
    refine lv_aload_n hx hb dL_law_352 rfl (lv_at hl 1 rfl) ?_
    refine lv_iload hx hb dL_law_353 (lv_at hl 0 rfl) ?_
    refine lv_iconst (v := 1) hx hb dL_law_355 (by decide) ?_
    refine lv_iadd hx hb dL_law_356 ?_
    refine sld X0 hS (4 * j + 1) (by omega) (nI_add (4 * j) 1) dL_law_357 ?_
    refine lv_aload_n hx hb dL_law_358 rfl (lv_at hl 1 rfl) ?_
    refine lv_iload hx hb dL_law_359 (lv_at hl 0 rfl) ?_
    refine lv_iconst (v := 2) hx hb dL_law_361 (by decide) ?_
    refine lv_iadd hx hb dL_law_362 ?_
    refine sld X0 hS (4 * j + 2) (by omega) (nI_add (4 * j) 2) dL_law_363 ?_
    refine lv_aload_n hx hb dL_law_364 rfl (lv_at hl 1 rfl) ?_
    refine lv_iload hx hb dL_law_365 (lv_at hl 0 rfl) ?_
    refine lv_iconst (v := 3) hx hb dL_law_367 (by decide) ?_
    refine lv_iadd hx hb dL_law_368 ?_
    refine sld X0 hS (4 * j + 3) (by omega) (nI_add (4 * j) 3) dL_law_369 ?_
    refine lv_if_eq (tgt := 377) hx hb dL_law_370 (by decide) (fun _ => ?_) (fun c => absurd c3 c)
    refine lv_iconst (v := 0) hx hb dL_law_377 (by decide) ?_
    refine lv_aload_n hx hb dL_law_378 rfl (lv_at hl 4 rfl) ?_
    obtain ⟨res, r, qm1, e1, e2, e3, e4, hKK⟩ := hsk 0 (by decide)
    have hsL := AL_sub hS hA (va_D_pre hD)
    refine goW (n := 5) (a := a) X hX hN (cL_w_except (a := a) (o := o) hst e1) (gW kw649 kw650 kw0 kw651) (by decide +kernel) ⟨by omega, by omega⟩ (va_P_pre hP) (va_D_pre hD) hS rfl rfl hl.1 (Nat.le_of_ble_eq_true rfl) dL_law_379 ⟨by omega, by omega⟩ (fun a1 H locs ha hP1 hD1 hk hS => ?_)
    obtain ⟨hP, hD⟩ := va_glue hP hD hk hsL hP1 hD1
    have hP : va_P (DD G) vwCl (WW G b qm a1 res.2.1 res.2.2.1 o res.2.2.2) H := hP
    have hD : va_D (lA s) (WW G b qm a1 res.2.1 res.2.2.1 o res.2.2.2) := hD
    refine lv_istore (lv' := [(5, .int res.1), (4, .int (nI (4 * j))), (0, .ref sb), (1, .ref (a 0)), (2, .ref (b 0)), (3, .ref o)]) hx hb dL_law_382 hl (by decide) rfl (fun ls hl => ?_)
    refine lv_aload_n hx hb dL_law_384 rfl (lv_at hl 4 rfl) ?_
    refine lv_aload_n hx hb dL_law_385 rfl (lv_at hl 2 rfl) ?_
    refine lv_iload hx hb dL_law_386 (lv_at hl 1 rfl) ?_
    refine lv_iconst (v := 1) hx hb dL_law_388 (by decide) ?_
    refine lv_iadd hx hb dL_law_389 ?_
    refine sld X0 hS (4 * j + 1) (by omega) (nI_add (4 * j) 1) dL_law_390 ?_
    refine lv_aload_n hx hb dL_law_391 rfl (lv_at hl 2 rfl) ?_
    refine lv_iload hx hb dL_law_392 (lv_at hl 1 rfl) ?_
    refine lv_iconst (v := 2) hx hb dL_law_394 (by decide) ?_
    refine lv_iadd hx hb dL_law_395 ?_
    refine sld X0 hS (4 * j + 2) (by omega) (nI_add (4 * j) 2) dL_law_396 ?_
    refine lv_aload_n hx hb dL_law_397 rfl (lv_at hl 2 rfl) ?_
    refine lv_iload hx hb dL_law_398 (lv_at hl 1 rfl) ?_
    refine lv_iconst (v := 3) hx hb dL_law_400 (by decide) ?_
    refine lv_iadd hx hb dL_law_401 ?_
    refine sld X0 hS (4 * j + 3) (by omega) (nI_add (4 * j) 3) dL_law_402 ?_
    refine lv_if_eq (tgt := 410) hx hb dL_law_403 (by decide) (fun _ => ?_) (fun c => absurd c3 c)
    refine lv_iconst (v := 0) hx hb dL_law_410 (by decide) ?_
    have hsM := AL_sub hS hA (ww_MD hD)
    refine goV_i (n := 3) (C := RX8) X (cM_except (a := b) e2) (gV kw1012 kw1013 kw1014 kw9 kw1015) (by decide +kernel) ⟨by omega, by omega⟩ (rcM hK (ww_MP hP)) (ww_MP hP) (ww_MD hD) hS rfl rfl hl.1 (Nat.le_of_ble_eq_true rfl) dL_law_411 ⟨by omega, by omega⟩ (fun H locs hP1 hk hS => ?_)
    obtain ⟨hP, hD⟩ := ww_glM hP hD hk hsM hP1
    refine lv_istore (lv' := [(6, .int r), (5, .int res.1), (4, .int (nI (4 * j))), (0, .ref sb), (1, .ref (a 0)), (2, .ref (b 0)), (3, .ref o)]) hx hb dL_law_414 hl (by decide) rfl (fun ls hl => ?_)
    refine lv_aload_n hx hb dL_law_416 rfl (lv_at hl 5 rfl) ?_
    have hsM := AL_sub hS hA (ww_MD hD)
    refine goV_i (n := 0) (C := RX8) X (cM_thrown (a := b) e3) (gV kw868 kw869 kw870 kw9 kw871) (by decide +kernel) ⟨by omega, by omega⟩ (rcM hK (ww_MP hP)) (ww_MP hP) (ww_MD hD) hS rfl rfl hl.1 (Nat.le_of_ble_eq_true rfl) dL_law_417 ⟨by omega, by omega⟩ (fun H locs hP1 hk hS => ?_)
    obtain ⟨hP, hD⟩ := ww_glM hP hD hk hsM hP1
    refine lv_iload hx hb dL_law_420 (lv_at hl 1 rfl) ?_
    refine lv_icmp_eq (tgt := 427) hx hb dL_law_422 (by decide) (fun _ => ?_) (fun c => absurd rfl c)
    refine lv_iload hx hb dL_law_427 (lv_at hl 1 rfl) ?_
    refine lv_if_ne (tgt := 451) hx hb dL_law_429 (by decide) (fun _ => ?_) (fun c0 => ?_)
    · refine lv_goto (tgt := 1175) hx hb dL_law_451 (by decide) ?_
      refine W.widen (k := cells + 5) (n := slots + 10810) (by omega) (by omega) ?_
      exact kk a1 qm1 _ _ _ H locs ls ha hKK hP hD hS (lv_sub hl [2, 3, 4, 5, 6] rfl)
    · have e4 := e4 c0
      refine lv_aload_n hx hb dL_law_432 rfl (lv_at hl 6 rfl) ?_
      refine lv_iconst (v := 0) hx hb dL_law_433 (by decide) ?_
      refine outLd X hP dL_law_434 ?_
      refine lv_iload hx hb dL_law_435 (lv_at hl 0 rfl) ?_
      refine lv_if_eq (tgt := 444) hx hb dL_law_437 (by decide) (fun c9 => ?_) (fun c9 => ?_)
      · rw [if_pos c9] at e4
        refine lv_lconst (v := 0) hx hb dL_law_444 (by decide) ?_
        refine W.lcmp hx hb dL_law_445 ?_
        refine lv_if_eq (tgt := 451) hx hb dL_law_446 (by decide) (fun _ => ?_) (fun c => absurd (cmp0 e4) c)
        refine lv_goto (tgt := 1175) hx hb dL_law_451 (by decide) ?_
        refine W.widen (k := cells + 5) (n := slots + 10810) (by omega) (by omega) ?_
        exact kk a1 qm1 _ _ _ H locs ls ha hKK hP hD hS (lv_sub hl [2, 3, 4, 5, 6] rfl)
      · rw [if_neg c9] at e4
        refine lv_lconst (v := 1) hx hb dL_law_440 (by decide) ?_
        refine lv_goto (tgt := 445) hx hb dL_law_441 (by decide) ?_
        refine W.lcmp hx hb dL_law_445 ?_
        refine lv_if_eq (tgt := 451) hx hb dL_law_446 (by decide) (fun _ => ?_) (fun c => absurd (cmp0 e4) c)
        refine lv_goto (tgt := 1175) hx hb dL_law_451 (by decide) ?_
        refine W.widen (k := cells + 5) (n := slots + 10810) (by omega) (by omega) ?_
        exact kk a1 qm1 _ _ _ H locs ls ha hKK hP hD hS (lv_sub hl [2, 3, 4, 5, 6] rfl)
  · refine lv_aload_n hx hb dL_law_351 rfl (lv_at hl 2 rfl) ?_
    refine lv_aload_n hx hb dL_law_352 rfl (lv_at hl 1 rfl) ?_
    refine lv_iload hx hb dL_law_353 (lv_at hl 0 rfl) ?_
    refine lv_iconst (v := 1) hx hb dL_law_355 (by decide) ?_
    refine lv_iadd hx hb dL_law_356 ?_
    refine sld X0 hS (4 * j + 1) (by omega) (nI_add (4 * j) 1) dL_law_357 ?_
    refine lv_aload_n hx hb dL_law_358 rfl (lv_at hl 1 rfl) ?_
    refine lv_iload hx hb dL_law_359 (lv_at hl 0 rfl) ?_
    refine lv_iconst (v := 2) hx hb dL_law_361 (by decide) ?_
    refine lv_iadd hx hb dL_law_362 ?_
    refine sld X0 hS (4 * j + 2) (by omega) (nI_add (4 * j) 2) dL_law_363 ?_
    refine lv_aload_n hx hb dL_law_364 rfl (lv_at hl 1 rfl) ?_
    refine lv_iload hx hb dL_law_365 (lv_at hl 0 rfl) ?_
    refine lv_iconst (v := 3) hx hb dL_law_367 (by decide) ?_
    refine lv_iadd hx hb dL_law_368 ?_
    refine sld X0 hS (4 * j + 3) (by omega) (nI_add (4 * j) 3) dL_law_369 ?_
    refine lv_if_eq (tgt := 377) hx hb dL_law_370 (by decide) (fun c => absurd c c3) (fun _ => ?_)
    refine lv_iconst (v := 1) hx hb dL_law_373 (by decide) ?_
    refine lv_goto (tgt := 378) hx hb dL_law_374 (by decide) ?_
    refine lv_aload_n hx hb dL_law_378 rfl (lv_at hl 4 rfl) ?_
    obtain ⟨res, r, qm1, e1, e2, e3, e4, hKK⟩ := hsk 1 (by decide)
    have hsL := AL_sub hS hA (va_D_pre hD)
    refine goW (n := 5) (a := a) X hX hN (cL_w_except (a := a) (o := o) hst e1) (gW kw649 kw650 kw0 kw651) (by decide +kernel) ⟨by omega, by omega⟩ (va_P_pre hP) (va_D_pre hD) hS rfl rfl hl.1 (Nat.le_of_ble_eq_true rfl) dL_law_379 ⟨by omega, by omega⟩ (fun a1 H locs ha hP1 hD1 hk hS => ?_)
    obtain ⟨hP, hD⟩ := va_glue hP hD hk hsL hP1 hD1
    have hP : va_P (DD G) vwCl (WW G b qm a1 res.2.1 res.2.2.1 o res.2.2.2) H := hP
    have hD : va_D (lA s) (WW G b qm a1 res.2.1 res.2.2.1 o res.2.2.2) := hD
    refine lv_istore (lv' := [(5, .int res.1), (4, .int (nI (4 * j))), (0, .ref sb), (1, .ref (a 0)), (2, .ref (b 0)), (3, .ref o)]) hx hb dL_law_382 hl (by decide) rfl (fun ls hl => ?_)
    refine lv_aload_n hx hb dL_law_384 rfl (lv_at hl 4 rfl) ?_
    refine lv_aload_n hx hb dL_law_385 rfl (lv_at hl 2 rfl) ?_
    refine lv_iload hx hb dL_law_386 (lv_at hl 1 rfl) ?_
    refine lv_iconst (v := 1) hx hb dL_law_388 (by decide) ?_
    refine lv_iadd hx hb dL_law_389 ?_
    refine sld X0 hS (4 * j + 1) (by omega) (nI_add (4 * j) 1) dL_law_390 ?_
    refine lv_aload_n hx hb dL_law_391 rfl (lv_at hl 2 rfl) ?_
    refine lv_iload hx hb dL_law_392 (lv_at hl 1 rfl) ?_
    refine lv_iconst (v := 2) hx hb dL_law_394 (by decide) ?_
    refine lv_iadd hx hb dL_law_395 ?_
    refine sld X0 hS (4 * j + 2) (by omega) (nI_add (4 * j) 2) dL_law_396 ?_
    refine lv_aload_n hx hb dL_law_397 rfl (lv_at hl 2 rfl) ?_
    refine lv_iload hx hb dL_law_398 (lv_at hl 1 rfl) ?_
    refine lv_iconst (v := 3) hx hb dL_law_400 (by decide) ?_
    refine lv_iadd hx hb dL_law_401 ?_
    refine sld X0 hS (4 * j + 3) (by omega) (nI_add (4 * j) 3) dL_law_402 ?_
    refine lv_if_eq (tgt := 410) hx hb dL_law_403 (by decide) (fun c => absurd c c3) (fun _ => ?_)
    refine lv_iconst (v := 1) hx hb dL_law_406 (by decide) ?_
    refine lv_goto (tgt := 411) hx hb dL_law_407 (by decide) ?_
    have hsM := AL_sub hS hA (ww_MD hD)
    refine goV_i (n := 3) (C := RX8) X (cM_except (a := b) e2) (gV kw1012 kw1013 kw1014 kw9 kw1015) (by decide +kernel) ⟨by omega, by omega⟩ (rcM hK (ww_MP hP)) (ww_MP hP) (ww_MD hD) hS rfl rfl hl.1 (Nat.le_of_ble_eq_true rfl) dL_law_411 ⟨by omega, by omega⟩ (fun H locs hP1 hk hS => ?_)
    obtain ⟨hP, hD⟩ := ww_glM hP hD hk hsM hP1
    refine lv_istore (lv' := [(6, .int r), (5, .int res.1), (4, .int (nI (4 * j))), (0, .ref sb), (1, .ref (a 0)), (2, .ref (b 0)), (3, .ref o)]) hx hb dL_law_414 hl (by decide) rfl (fun ls hl => ?_)
    refine lv_aload_n hx hb dL_law_416 rfl (lv_at hl 5 rfl) ?_
    have hsM := AL_sub hS hA (ww_MD hD)
    refine goV_i (n := 0) (C := RX8) X (cM_thrown (a := b) e3) (gV kw868 kw869 kw870 kw9 kw871) (by decide +kernel) ⟨by omega, by omega⟩ (rcM hK (ww_MP hP)) (ww_MP hP) (ww_MD hD) hS rfl rfl hl.1 (Nat.le_of_ble_eq_true rfl) dL_law_417 ⟨by omega, by omega⟩ (fun H locs hP1 hk hS => ?_)
    obtain ⟨hP, hD⟩ := ww_glM hP hD hk hsM hP1
    refine lv_iload hx hb dL_law_420 (lv_at hl 1 rfl) ?_
    refine lv_icmp_eq (tgt := 427) hx hb dL_law_422 (by decide) (fun _ => ?_) (fun c => absurd rfl c)
    refine lv_iload hx hb dL_law_427 (lv_at hl 1 rfl) ?_
    refine lv_if_ne (tgt := 451) hx hb dL_law_429 (by decide) (fun _ => ?_) (fun c0 => ?_)
    · refine lv_goto (tgt := 1175) hx hb dL_law_451 (by decide) ?_
      refine W.widen (k := cells + 5) (n := slots + 10810) (by omega) (by omega) ?_
      exact kk a1 qm1 _ _ _ H locs ls ha hKK hP hD hS (lv_sub hl [2, 3, 4, 5, 6] rfl)
    · have e4 := e4 c0
      refine lv_aload_n hx hb dL_law_432 rfl (lv_at hl 6 rfl) ?_
      refine lv_iconst (v := 0) hx hb dL_law_433 (by decide) ?_
      refine outLd X hP dL_law_434 ?_
      refine lv_iload hx hb dL_law_435 (lv_at hl 0 rfl) ?_
      refine lv_if_eq (tgt := 444) hx hb dL_law_437 (by decide) (fun c9 => ?_) (fun c9 => ?_)
      · rw [if_pos c9] at e4
        refine lv_lconst (v := 0) hx hb dL_law_444 (by decide) ?_
        refine W.lcmp hx hb dL_law_445 ?_
        refine lv_if_eq (tgt := 451) hx hb dL_law_446 (by decide) (fun _ => ?_) (fun c => absurd (cmp0 e4) c)
        refine lv_goto (tgt := 1175) hx hb dL_law_451 (by decide) ?_
        refine W.widen (k := cells + 5) (n := slots + 10810) (by omega) (by omega) ?_
        exact kk a1 qm1 _ _ _ H locs ls ha hKK hP hD hS (lv_sub hl [2, 3, 4, 5, 6] rfl)
      · rw [if_neg c9] at e4
        refine lv_lconst (v := 1) hx hb dL_law_440 (by decide) ?_
        refine lv_goto (tgt := 445) hx hb dL_law_441 (by decide) ?_
        refine W.lcmp hx hb dL_law_445 ?_
        refine lv_if_eq (tgt := 451) hx hb dL_law_446 (by decide) (fun _ => ?_) (fun c => absurd (cmp0 e4) c)
        refine lv_goto (tgt := 1175) hx hb dL_law_451 (by decide) ?_
        refine W.widen (k := cells + 5) (n := slots + 10810) (by omega) (by omega) ?_
        exact kk a1 qm1 _ _ _ H locs ls ha hKK hP hD hS (lv_sub hl [2, 3, 4, 5, 6] rfl)

set_option maxHeartbeats 4000000 in
set_option maxRecDepth 100000 in
theorem lawC_besides {p : Program} {l : Launch} {e : Env} {R : Room} {s : State} {m : MethodId} {args : Array Value} {below : List Frame} {meth : Method} {c : Code} {H : Heap} {locs : List Loc} {cells slots : Nat} {Q : State → Prop} {G : Ev} {ls : Array Slot} {b a : Nat → Nat} {qm : Pc3} {z q : Pc4} {o : Nat} {f : Nat → Int64} {sb L : Nat} {xs : Nat → Int32} {n j : Nat} {K : Pc3 → Pc4 → Pc4 → (Nat → Int64) → Prop} (X0 : LX p l s m args meth c G sb L xs) (hj : 4 * j + 4 ≤ L) (hRf : 14 ≤ R.frames) (hRl : 532 ≤ R.locals) (hRc : cells + 5 ≤ R.cells) (hRs : slots + 10810 ≤ R.slots) (hsk : ∀ x3 : Int32, x3 = 0 ∨ x3 = 1 → SK_besides n qm z q f (xs (4 * j + 1)) (xs (4 * j + 2)) x3 K) (hP : va_P (DD G) vwCl (WW G b qm a z q o f) H) (hD : va_D (lA s) (WW G b qm a z q o f)) (hS : va_S (lA s) s.heap H locs) (hl : lv_has ls 8 [(4, .int (nI (4 * j))), (0, .ref sb), (1, .ref (a 0)), (2, .ref (b 0)), (3, .ref o)])
    (kk : ∀ (a1 : Nat → Nat) (qm' : Pc3) (z' q' : Pc4) (f' : Nat → Int64) (H : Heap) (locs : List Loc) (ls : Array Slot), a1 0 = a 0 → K qm' z' q' f' → va_P (DD G) vwCl (WW G b qm' a1 z' q' o f') H → va_D (lA s) (WW G b qm' a1 z' q' o f') → va_S (lA s) s.heap H locs → lv_has ls 8 [(4, .int (nI (4 * j))), (0, .ref sb), (1, .ref (a 0)), (2, .ref (b 0)), (3, .ref o)] → W p l e R s m args below meth c H locs (cells + 5) (slots + 10810) Q (F0 m 1175 ls [])) :
    W p l e R s m args below meth c H locs cells slots Q (F0 m 454 ls []) := by
  obtain ⟨X, hX, hN, hsx, hsb, hst, hL⟩ := id X0
  obtain ⟨⟨hx, hb, hml, hown, hts⟩, hK, hr, hlk, hA, hAs, hSta⟩ := id X
  by_cases c3 : xs (4 * j + 3) = 0
  · refine lv_aload_n hx hb dL_law_454 rfl (lv_at hl 2 rfl) ?_
    refine lv_aload_n hx hb dL_law_455 rfl (lv_at hl 1 rfl) ?_
    refine lv_iload hx hb dL_law_456 (lv_at hl 0 rfl) ?_
    refine lv_iconst (v := 1) hx hb dL_law_458 (by decide) ?_
    refine lv_iadd hx hb dL_law_459 ?_
    refine sld X0 hS (4 * j + 1) (by omega) (nI_add (4 * j) 1) dL_law_460 ?_
    refine lv_aload_n hx hb dL_law_461 rfl (lv_at hl 1 rfl) ?_
    refine lv_iload hx hb dL_law_462 (lv_at hl 0 rfl) ?_
    refine lv_iconst (v := 2) hx hb dL_law_464 (by decide) ?_
    refine lv_iadd hx hb dL_law_465 ?_
    refine sld X0 hS (4 * j + 2) (by omega) (nI_add (4 * j) 2) dL_law_466 ?_
    refine lv_aload_n hx hb dL_law_467 rfl (lv_at hl 1 rfl) ?_
    refine lv_iload hx hb dL_law_468 (lv_at hl 0 rfl) ?_
    refine lv_iconst (v := 3) hx hb dL_law_470 (by decide) ?_
    refine lv_iadd hx hb dL_law_471 ?_
    refine sld X0 hS (4 * j + 3) (by omega) (nI_add (4 * j) 3) dL_law_472 ?_
    refine lv_if_eq (tgt := 480) hx hb dL_law_473 (by decide) (fun _ => ?_) (fun c => absurd c3 c)
    refine lv_iconst (v := 0) hx hb dL_law_480 (by decide) ?_
    refine lv_aload_n hx hb dL_law_481 rfl (lv_at hl 4 rfl) ?_
    obtain ⟨res, r, qm1, e1, e2, e3, e4, hKK⟩ := hsk 0 (by decide)
    have hsL := AL_sub hS hA (va_D_pre hD)
    refine goW (n := 5) (a := a) X hX hN (cL_w_besides (a := a) (o := o) hst e1) (gW kw661 kw662 kw0 kw663) (by decide +kernel) ⟨by omega, by omega⟩ (va_P_pre hP) (va_D_pre hD) hS rfl rfl hl.1 (Nat.le_of_ble_eq_true rfl) dL_law_482 ⟨by omega, by omega⟩ (fun a1 H locs ha hP1 hD1 hk hS => ?_)
    obtain ⟨hP, hD⟩ := va_glue hP hD hk hsL hP1 hD1
    have hP : va_P (DD G) vwCl (WW G b qm a1 res.2.1 res.2.2.1 o res.2.2.2) H := hP
    have hD : va_D (lA s) (WW G b qm a1 res.2.1 res.2.2.1 o res.2.2.2) := hD
    refine lv_istore (lv' := [(5, .int res.1), (4, .int (nI (4 * j))), (0, .ref sb), (1, .ref (a 0)), (2, .ref (b 0)), (3, .ref o)]) hx hb dL_law_485 hl (by decide) rfl (fun ls hl => ?_)
    refine lv_aload_n hx hb dL_law_487 rfl (lv_at hl 4 rfl) ?_
    refine lv_aload_n hx hb dL_law_488 rfl (lv_at hl 2 rfl) ?_
    refine lv_iload hx hb dL_law_489 (lv_at hl 1 rfl) ?_
    refine lv_iconst (v := 1) hx hb dL_law_491 (by decide) ?_
    refine lv_iadd hx hb dL_law_492 ?_
    refine sld X0 hS (4 * j + 1) (by omega) (nI_add (4 * j) 1) dL_law_493 ?_
    refine lv_aload_n hx hb dL_law_494 rfl (lv_at hl 2 rfl) ?_
    refine lv_iload hx hb dL_law_495 (lv_at hl 1 rfl) ?_
    refine lv_iconst (v := 2) hx hb dL_law_497 (by decide) ?_
    refine lv_iadd hx hb dL_law_498 ?_
    refine sld X0 hS (4 * j + 2) (by omega) (nI_add (4 * j) 2) dL_law_499 ?_
    refine lv_aload_n hx hb dL_law_500 rfl (lv_at hl 2 rfl) ?_
    refine lv_iload hx hb dL_law_501 (lv_at hl 1 rfl) ?_
    refine lv_iconst (v := 3) hx hb dL_law_503 (by decide) ?_
    refine lv_iadd hx hb dL_law_504 ?_
    refine sld X0 hS (4 * j + 3) (by omega) (nI_add (4 * j) 3) dL_law_505 ?_
    refine lv_if_eq (tgt := 513) hx hb dL_law_506 (by decide) (fun _ => ?_) (fun c => absurd c3 c)
    refine lv_iconst (v := 0) hx hb dL_law_513 (by decide) ?_
    have hsM := AL_sub hS hA (ww_MD hD)
    refine goV_i (n := 3) (C := RX8) X (cM_besides (a := b) e2) (gV kw1020 kw1021 kw1022 kw9 kw1023) (by decide +kernel) ⟨by omega, by omega⟩ (rcM hK (ww_MP hP)) (ww_MP hP) (ww_MD hD) hS rfl rfl hl.1 (Nat.le_of_ble_eq_true rfl) dL_law_514 ⟨by omega, by omega⟩ (fun H locs hP1 hk hS => ?_)
    obtain ⟨hP, hD⟩ := ww_glM hP hD hk hsM hP1
    refine lv_istore (lv' := [(6, .int r), (5, .int res.1), (4, .int (nI (4 * j))), (0, .ref sb), (1, .ref (a 0)), (2, .ref (b 0)), (3, .ref o)]) hx hb dL_law_517 hl (by decide) rfl (fun ls hl => ?_)
    refine lv_aload_n hx hb dL_law_519 rfl (lv_at hl 5 rfl) ?_
    have hsM := AL_sub hS hA (ww_MD hD)
    refine goV_i (n := 0) (C := RX8) X (cM_thrown (a := b) e3) (gV kw868 kw869 kw870 kw9 kw871) (by decide +kernel) ⟨by omega, by omega⟩ (rcM hK (ww_MP hP)) (ww_MP hP) (ww_MD hD) hS rfl rfl hl.1 (Nat.le_of_ble_eq_true rfl) dL_law_520 ⟨by omega, by omega⟩ (fun H locs hP1 hk hS => ?_)
    obtain ⟨hP, hD⟩ := ww_glM hP hD hk hsM hP1
    refine lv_iload hx hb dL_law_523 (lv_at hl 1 rfl) ?_
    refine lv_icmp_eq (tgt := 530) hx hb dL_law_525 (by decide) (fun _ => ?_) (fun c => absurd rfl c)
    refine lv_iload hx hb dL_law_530 (lv_at hl 1 rfl) ?_
    refine lv_if_ne (tgt := 554) hx hb dL_law_532 (by decide) (fun _ => ?_) (fun c0 => ?_)
    · refine lv_goto (tgt := 1175) hx hb dL_law_554 (by decide) ?_
      refine W.widen (k := cells + 5) (n := slots + 10810) (by omega) (by omega) ?_
      exact kk a1 qm1 _ _ _ H locs ls ha hKK hP hD hS (lv_sub hl [2, 3, 4, 5, 6] rfl)
    · have e4 := e4 c0
      refine lv_aload_n hx hb dL_law_535 rfl (lv_at hl 6 rfl) ?_
      refine lv_iconst (v := 0) hx hb dL_law_536 (by decide) ?_
      refine outLd X hP dL_law_537 ?_
      refine lv_iload hx hb dL_law_538 (lv_at hl 0 rfl) ?_
      refine lv_if_eq (tgt := 547) hx hb dL_law_540 (by decide) (fun c9 => ?_) (fun c9 => ?_)
      · rw [if_pos c9] at e4
        refine lv_lconst (v := 0) hx hb dL_law_547 (by decide) ?_
        refine W.lcmp hx hb dL_law_548 ?_
        refine lv_if_eq (tgt := 554) hx hb dL_law_549 (by decide) (fun _ => ?_) (fun c => absurd (cmp0 e4) c)
        refine lv_goto (tgt := 1175) hx hb dL_law_554 (by decide) ?_
        refine W.widen (k := cells + 5) (n := slots + 10810) (by omega) (by omega) ?_
        exact kk a1 qm1 _ _ _ H locs ls ha hKK hP hD hS (lv_sub hl [2, 3, 4, 5, 6] rfl)
      · rw [if_neg c9] at e4
        refine lv_lconst (v := 1) hx hb dL_law_543 (by decide) ?_
        refine lv_goto (tgt := 548) hx hb dL_law_544 (by decide) ?_
        refine W.lcmp hx hb dL_law_548 ?_
        refine lv_if_eq (tgt := 554) hx hb dL_law_549 (by decide) (fun _ => ?_) (fun c => absurd (cmp0 e4) c)
        refine lv_goto (tgt := 1175) hx hb dL_law_554 (by decide) ?_
        refine W.widen (k := cells + 5) (n := slots + 10810) (by omega) (by omega) ?_
        exact kk a1 qm1 _ _ _ H locs ls ha hKK hP hD hS (lv_sub hl [2, 3, 4, 5, 6] rfl)
  · refine lv_aload_n hx hb dL_law_454 rfl (lv_at hl 2 rfl) ?_
    refine lv_aload_n hx hb dL_law_455 rfl (lv_at hl 1 rfl) ?_
    refine lv_iload hx hb dL_law_456 (lv_at hl 0 rfl) ?_
    refine lv_iconst (v := 1) hx hb dL_law_458 (by decide) ?_
    refine lv_iadd hx hb dL_law_459 ?_
    refine sld X0 hS (4 * j + 1) (by omega) (nI_add (4 * j) 1) dL_law_460 ?_
    refine lv_aload_n hx hb dL_law_461 rfl (lv_at hl 1 rfl) ?_
    refine lv_iload hx hb dL_law_462 (lv_at hl 0 rfl) ?_
    refine lv_iconst (v := 2) hx hb dL_law_464 (by decide) ?_
    refine lv_iadd hx hb dL_law_465 ?_
    refine sld X0 hS (4 * j + 2) (by omega) (nI_add (4 * j) 2) dL_law_466 ?_
    refine lv_aload_n hx hb dL_law_467 rfl (lv_at hl 1 rfl) ?_
    refine lv_iload hx hb dL_law_468 (lv_at hl 0 rfl) ?_
    refine lv_iconst (v := 3) hx hb dL_law_470 (by decide) ?_
    refine lv_iadd hx hb dL_law_471 ?_
    refine sld X0 hS (4 * j + 3) (by omega) (nI_add (4 * j) 3) dL_law_472 ?_
    refine lv_if_eq (tgt := 480) hx hb dL_law_473 (by decide) (fun c => absurd c c3) (fun _ => ?_)
    refine lv_iconst (v := 1) hx hb dL_law_476 (by decide) ?_
    refine lv_goto (tgt := 481) hx hb dL_law_477 (by decide) ?_
    refine lv_aload_n hx hb dL_law_481 rfl (lv_at hl 4 rfl) ?_
    obtain ⟨res, r, qm1, e1, e2, e3, e4, hKK⟩ := hsk 1 (by decide)
    have hsL := AL_sub hS hA (va_D_pre hD)
    refine goW (n := 5) (a := a) X hX hN (cL_w_besides (a := a) (o := o) hst e1) (gW kw661 kw662 kw0 kw663) (by decide +kernel) ⟨by omega, by omega⟩ (va_P_pre hP) (va_D_pre hD) hS rfl rfl hl.1 (Nat.le_of_ble_eq_true rfl) dL_law_482 ⟨by omega, by omega⟩ (fun a1 H locs ha hP1 hD1 hk hS => ?_)
    obtain ⟨hP, hD⟩ := va_glue hP hD hk hsL hP1 hD1
    have hP : va_P (DD G) vwCl (WW G b qm a1 res.2.1 res.2.2.1 o res.2.2.2) H := hP
    have hD : va_D (lA s) (WW G b qm a1 res.2.1 res.2.2.1 o res.2.2.2) := hD
    refine lv_istore (lv' := [(5, .int res.1), (4, .int (nI (4 * j))), (0, .ref sb), (1, .ref (a 0)), (2, .ref (b 0)), (3, .ref o)]) hx hb dL_law_485 hl (by decide) rfl (fun ls hl => ?_)
    refine lv_aload_n hx hb dL_law_487 rfl (lv_at hl 4 rfl) ?_
    refine lv_aload_n hx hb dL_law_488 rfl (lv_at hl 2 rfl) ?_
    refine lv_iload hx hb dL_law_489 (lv_at hl 1 rfl) ?_
    refine lv_iconst (v := 1) hx hb dL_law_491 (by decide) ?_
    refine lv_iadd hx hb dL_law_492 ?_
    refine sld X0 hS (4 * j + 1) (by omega) (nI_add (4 * j) 1) dL_law_493 ?_
    refine lv_aload_n hx hb dL_law_494 rfl (lv_at hl 2 rfl) ?_
    refine lv_iload hx hb dL_law_495 (lv_at hl 1 rfl) ?_
    refine lv_iconst (v := 2) hx hb dL_law_497 (by decide) ?_
    refine lv_iadd hx hb dL_law_498 ?_
    refine sld X0 hS (4 * j + 2) (by omega) (nI_add (4 * j) 2) dL_law_499 ?_
    refine lv_aload_n hx hb dL_law_500 rfl (lv_at hl 2 rfl) ?_
    refine lv_iload hx hb dL_law_501 (lv_at hl 1 rfl) ?_
    refine lv_iconst (v := 3) hx hb dL_law_503 (by decide) ?_
    refine lv_iadd hx hb dL_law_504 ?_
    refine sld X0 hS (4 * j + 3) (by omega) (nI_add (4 * j) 3) dL_law_505 ?_
    refine lv_if_eq (tgt := 513) hx hb dL_law_506 (by decide) (fun c => absurd c c3) (fun _ => ?_)
    refine lv_iconst (v := 1) hx hb dL_law_509 (by decide) ?_
    refine lv_goto (tgt := 514) hx hb dL_law_510 (by decide) ?_
    have hsM := AL_sub hS hA (ww_MD hD)
    refine goV_i (n := 3) (C := RX8) X (cM_besides (a := b) e2) (gV kw1020 kw1021 kw1022 kw9 kw1023) (by decide +kernel) ⟨by omega, by omega⟩ (rcM hK (ww_MP hP)) (ww_MP hP) (ww_MD hD) hS rfl rfl hl.1 (Nat.le_of_ble_eq_true rfl) dL_law_514 ⟨by omega, by omega⟩ (fun H locs hP1 hk hS => ?_)
    obtain ⟨hP, hD⟩ := ww_glM hP hD hk hsM hP1
    refine lv_istore (lv' := [(6, .int r), (5, .int res.1), (4, .int (nI (4 * j))), (0, .ref sb), (1, .ref (a 0)), (2, .ref (b 0)), (3, .ref o)]) hx hb dL_law_517 hl (by decide) rfl (fun ls hl => ?_)
    refine lv_aload_n hx hb dL_law_519 rfl (lv_at hl 5 rfl) ?_
    have hsM := AL_sub hS hA (ww_MD hD)
    refine goV_i (n := 0) (C := RX8) X (cM_thrown (a := b) e3) (gV kw868 kw869 kw870 kw9 kw871) (by decide +kernel) ⟨by omega, by omega⟩ (rcM hK (ww_MP hP)) (ww_MP hP) (ww_MD hD) hS rfl rfl hl.1 (Nat.le_of_ble_eq_true rfl) dL_law_520 ⟨by omega, by omega⟩ (fun H locs hP1 hk hS => ?_)
    obtain ⟨hP, hD⟩ := ww_glM hP hD hk hsM hP1
    refine lv_iload hx hb dL_law_523 (lv_at hl 1 rfl) ?_
    refine lv_icmp_eq (tgt := 530) hx hb dL_law_525 (by decide) (fun _ => ?_) (fun c => absurd rfl c)
    refine lv_iload hx hb dL_law_530 (lv_at hl 1 rfl) ?_
    refine lv_if_ne (tgt := 554) hx hb dL_law_532 (by decide) (fun _ => ?_) (fun c0 => ?_)
    · refine lv_goto (tgt := 1175) hx hb dL_law_554 (by decide) ?_
      refine W.widen (k := cells + 5) (n := slots + 10810) (by omega) (by omega) ?_
      exact kk a1 qm1 _ _ _ H locs ls ha hKK hP hD hS (lv_sub hl [2, 3, 4, 5, 6] rfl)
    · have e4 := e4 c0
      refine lv_aload_n hx hb dL_law_535 rfl (lv_at hl 6 rfl) ?_
      refine lv_iconst (v := 0) hx hb dL_law_536 (by decide) ?_
      refine outLd X hP dL_law_537 ?_
      refine lv_iload hx hb dL_law_538 (lv_at hl 0 rfl) ?_
      refine lv_if_eq (tgt := 547) hx hb dL_law_540 (by decide) (fun c9 => ?_) (fun c9 => ?_)
      · rw [if_pos c9] at e4
        refine lv_lconst (v := 0) hx hb dL_law_547 (by decide) ?_
        refine W.lcmp hx hb dL_law_548 ?_
        refine lv_if_eq (tgt := 554) hx hb dL_law_549 (by decide) (fun _ => ?_) (fun c => absurd (cmp0 e4) c)
        refine lv_goto (tgt := 1175) hx hb dL_law_554 (by decide) ?_
        refine W.widen (k := cells + 5) (n := slots + 10810) (by omega) (by omega) ?_
        exact kk a1 qm1 _ _ _ H locs ls ha hKK hP hD hS (lv_sub hl [2, 3, 4, 5, 6] rfl)
      · rw [if_neg c9] at e4
        refine lv_lconst (v := 1) hx hb dL_law_543 (by decide) ?_
        refine lv_goto (tgt := 548) hx hb dL_law_544 (by decide) ?_
        refine W.lcmp hx hb dL_law_548 ?_
        refine lv_if_eq (tgt := 554) hx hb dL_law_549 (by decide) (fun _ => ?_) (fun c => absurd (cmp0 e4) c)
        refine lv_goto (tgt := 1175) hx hb dL_law_554 (by decide) ?_
        refine W.widen (k := cells + 5) (n := slots + 10810) (by omega) (by omega) ?_
        exact kk a1 qm1 _ _ _ H locs ls ha hKK hP hD hS (lv_sub hl [2, 3, 4, 5, 6] rfl)

set_option maxHeartbeats 4000000 in
set_option maxRecDepth 100000 in
theorem lawC_comes {p : Program} {l : Launch} {e : Env} {R : Room} {s : State} {m : MethodId} {args : Array Value} {below : List Frame} {meth : Method} {c : Code} {H : Heap} {locs : List Loc} {cells slots : Nat} {Q : State → Prop} {G : Ev} {ls : Array Slot} {b a : Nat → Nat} {qm : Pc3} {z q : Pc4} {o : Nat} {f : Nat → Int64} {sb L : Nat} {xs : Nat → Int32} {n j : Nat} {K : Pc3 → Pc4 → Pc4 → (Nat → Int64) → Prop} (X0 : LX p l s m args meth c G sb L xs) (hj : 4 * j + 4 ≤ L) (hRf : 14 ≤ R.frames) (hRl : 532 ≤ R.locals) (hRc : cells + 5 ≤ R.cells) (hRs : slots + 10810 ≤ R.slots) (hsk : SK_comes n qm z q f (xs (4 * j + 1)) (xs (4 * j + 2)) K) (hP : va_P (DD G) vwCl (WW G b qm a z q o f) H) (hD : va_D (lA s) (WW G b qm a z q o f)) (hS : va_S (lA s) s.heap H locs) (hl : lv_has ls 8 [(4, .int (nI (4 * j))), (0, .ref sb), (1, .ref (a 0)), (2, .ref (b 0)), (3, .ref o)])
    (kk : ∀ (a1 : Nat → Nat) (qm' : Pc3) (z' q' : Pc4) (f' : Nat → Int64) (H : Heap) (locs : List Loc) (ls : Array Slot), a1 0 = a 0 → K qm' z' q' f' → va_P (DD G) vwCl (WW G b qm' a1 z' q' o f') H → va_D (lA s) (WW G b qm' a1 z' q' o f') → va_S (lA s) s.heap H locs → lv_has ls 8 [(4, .int (nI (4 * j))), (0, .ref sb), (1, .ref (a 0)), (2, .ref (b 0)), (3, .ref o)] → W p l e R s m args below meth c H locs (cells + 5) (slots + 10810) Q (F0 m 1175 ls [])) :
    W p l e R s m args below meth c H locs cells slots Q (F0 m 557 ls []) := by
  obtain ⟨X, hX, hN, hsx, hsb, hst, hL⟩ := id X0
  obtain ⟨⟨hx, hb, hml, hown, hts⟩, hK, hr, hlk, hA, hAs, hSta⟩ := id X
  refine lv_aload_n hx hb dL_law_557 rfl (lv_at hl 2 rfl) ?_
  refine lv_aload_n hx hb dL_law_558 rfl (lv_at hl 1 rfl) ?_
  refine lv_iload hx hb dL_law_559 (lv_at hl 0 rfl) ?_
  refine lv_iconst (v := 1) hx hb dL_law_561 (by decide) ?_
  refine lv_iadd hx hb dL_law_562 ?_
  refine sld X0 hS (4 * j + 1) (by omega) (nI_add (4 * j) 1) dL_law_563 ?_
  refine lv_aload_n hx hb dL_law_564 rfl (lv_at hl 1 rfl) ?_
  refine lv_iload hx hb dL_law_565 (lv_at hl 0 rfl) ?_
  refine lv_iconst (v := 2) hx hb dL_law_567 (by decide) ?_
  refine lv_iadd hx hb dL_law_568 ?_
  refine sld X0 hS (4 * j + 2) (by omega) (nI_add (4 * j) 2) dL_law_569 ?_
  refine lv_aload_n hx hb dL_law_570 rfl (lv_at hl 4 rfl) ?_
  obtain ⟨res, r, qm1, e1, e2, e3, e4, hKK⟩ := hsk
  have hsL := AL_sub hS hA (va_D_pre hD)
  refine goW (n := 4) (a := a) X hX hN (cL_w_comes (a := a) (o := o) hst e1) (gW kw668 kw669 kw0 kw670) (by decide +kernel) ⟨by omega, by omega⟩ (va_P_pre hP) (va_D_pre hD) hS rfl rfl hl.1 (Nat.le_of_ble_eq_true rfl) dL_law_571 ⟨by omega, by omega⟩ (fun a1 H locs ha hP1 hD1 hk hS => ?_)
  obtain ⟨hP, hD⟩ := va_glue hP hD hk hsL hP1 hD1
  have hP : va_P (DD G) vwCl (WW G b qm a1 res.2.1 res.2.2.1 o res.2.2.2) H := hP
  have hD : va_D (lA s) (WW G b qm a1 res.2.1 res.2.2.1 o res.2.2.2) := hD
  refine lv_istore (lv' := [(5, .int res.1), (4, .int (nI (4 * j))), (0, .ref sb), (1, .ref (a 0)), (2, .ref (b 0)), (3, .ref o)]) hx hb dL_law_574 hl (by decide) rfl (fun ls hl => ?_)
  refine lv_aload_n hx hb dL_law_576 rfl (lv_at hl 4 rfl) ?_
  refine lv_aload_n hx hb dL_law_577 rfl (lv_at hl 2 rfl) ?_
  refine lv_iload hx hb dL_law_578 (lv_at hl 1 rfl) ?_
  refine lv_iconst (v := 1) hx hb dL_law_580 (by decide) ?_
  refine lv_iadd hx hb dL_law_581 ?_
  refine sld X0 hS (4 * j + 1) (by omega) (nI_add (4 * j) 1) dL_law_582 ?_
  refine lv_aload_n hx hb dL_law_583 rfl (lv_at hl 2 rfl) ?_
  refine lv_iload hx hb dL_law_584 (lv_at hl 1 rfl) ?_
  refine lv_iconst (v := 2) hx hb dL_law_586 (by decide) ?_
  refine lv_iadd hx hb dL_law_587 ?_
  refine sld X0 hS (4 * j + 2) (by omega) (nI_add (4 * j) 2) dL_law_588 ?_
  have hsM := AL_sub hS hA (ww_MD hD)
  refine goV_i (n := 2) (C := RX8) X (cM_comes (a := b) e2) (gV kw1024 kw1025 kw1026 kw9 kw1027) (by decide +kernel) ⟨by omega, by omega⟩ (rcM hK (ww_MP hP)) (ww_MP hP) (ww_MD hD) hS rfl rfl hl.1 (Nat.le_of_ble_eq_true rfl) dL_law_589 ⟨by omega, by omega⟩ (fun H locs hP1 hk hS => ?_)
  obtain ⟨hP, hD⟩ := ww_glM hP hD hk hsM hP1
  refine lv_istore (lv' := [(6, .int r), (5, .int res.1), (4, .int (nI (4 * j))), (0, .ref sb), (1, .ref (a 0)), (2, .ref (b 0)), (3, .ref o)]) hx hb dL_law_592 hl (by decide) rfl (fun ls hl => ?_)
  refine lv_aload_n hx hb dL_law_594 rfl (lv_at hl 5 rfl) ?_
  have hsM := AL_sub hS hA (ww_MD hD)
  refine goV_i (n := 0) (C := RX8) X (cM_thrown (a := b) e3) (gV kw868 kw869 kw870 kw9 kw871) (by decide +kernel) ⟨by omega, by omega⟩ (rcM hK (ww_MP hP)) (ww_MP hP) (ww_MD hD) hS rfl rfl hl.1 (Nat.le_of_ble_eq_true rfl) dL_law_595 ⟨by omega, by omega⟩ (fun H locs hP1 hk hS => ?_)
  obtain ⟨hP, hD⟩ := ww_glM hP hD hk hsM hP1
  refine lv_iload hx hb dL_law_598 (lv_at hl 1 rfl) ?_
  refine lv_icmp_eq (tgt := 605) hx hb dL_law_600 (by decide) (fun _ => ?_) (fun c => absurd rfl c)
  refine lv_iload hx hb dL_law_605 (lv_at hl 1 rfl) ?_
  refine lv_if_ne (tgt := 629) hx hb dL_law_607 (by decide) (fun _ => ?_) (fun c0 => ?_)
  · refine lv_goto (tgt := 1175) hx hb dL_law_629 (by decide) ?_
    refine W.widen (k := cells + 5) (n := slots + 10810) (by omega) (by omega) ?_
    exact kk a1 qm1 _ _ _ H locs ls ha hKK hP hD hS (lv_sub hl [2, 3, 4, 5, 6] rfl)
  · have e4 := e4 c0
    refine lv_aload_n hx hb dL_law_610 rfl (lv_at hl 6 rfl) ?_
    refine lv_iconst (v := 0) hx hb dL_law_611 (by decide) ?_
    refine outLd X hP dL_law_612 ?_
    refine lv_iload hx hb dL_law_613 (lv_at hl 0 rfl) ?_
    refine lv_if_eq (tgt := 622) hx hb dL_law_615 (by decide) (fun c9 => ?_) (fun c9 => ?_)
    · rw [if_pos c9] at e4
      refine lv_lconst (v := 0) hx hb dL_law_622 (by decide) ?_
      refine W.lcmp hx hb dL_law_623 ?_
      refine lv_if_eq (tgt := 629) hx hb dL_law_624 (by decide) (fun _ => ?_) (fun c => absurd (cmp0 e4) c)
      refine lv_goto (tgt := 1175) hx hb dL_law_629 (by decide) ?_
      refine W.widen (k := cells + 5) (n := slots + 10810) (by omega) (by omega) ?_
      exact kk a1 qm1 _ _ _ H locs ls ha hKK hP hD hS (lv_sub hl [2, 3, 4, 5, 6] rfl)
    · rw [if_neg c9] at e4
      refine lv_lconst (v := 1) hx hb dL_law_618 (by decide) ?_
      refine lv_goto (tgt := 623) hx hb dL_law_619 (by decide) ?_
      refine W.lcmp hx hb dL_law_623 ?_
      refine lv_if_eq (tgt := 629) hx hb dL_law_624 (by decide) (fun _ => ?_) (fun c => absurd (cmp0 e4) c)
      refine lv_goto (tgt := 1175) hx hb dL_law_629 (by decide) ?_
      refine W.widen (k := cells + 5) (n := slots + 10810) (by omega) (by omega) ?_
      exact kk a1 qm1 _ _ _ H locs ls ha hKK hP hD hS (lv_sub hl [2, 3, 4, 5, 6] rfl)

set_option maxHeartbeats 4000000 in
set_option maxRecDepth 100000 in
theorem lawC_next {p : Program} {l : Launch} {e : Env} {R : Room} {s : State} {m : MethodId} {args : Array Value} {below : List Frame} {meth : Method} {c : Code} {H : Heap} {locs : List Loc} {cells slots : Nat} {Q : State → Prop} {G : Ev} {ls : Array Slot} {b a : Nat → Nat} {qm : Pc3} {z q : Pc4} {o : Nat} {f : Nat → Int64} {sb L : Nat} {xs : Nat → Int32} {n j : Nat} {K : Pc3 → Pc4 → Pc4 → (Nat → Int64) → Prop} (X0 : LX p l s m args meth c G sb L xs) (hj : 4 * j + 4 ≤ L) (hRf : 14 ≤ R.frames) (hRl : 532 ≤ R.locals) (hRc : cells + 5 ≤ R.cells) (hRs : slots + 10810 ≤ R.slots) (hsk : SK_next n qm z q f (xs (4 * j + 1)) (xs (4 * j + 2)) K) (hP : va_P (DD G) vwCl (WW G b qm a z q o f) H) (hD : va_D (lA s) (WW G b qm a z q o f)) (hS : va_S (lA s) s.heap H locs) (hl : lv_has ls 8 [(4, .int (nI (4 * j))), (0, .ref sb), (1, .ref (a 0)), (2, .ref (b 0)), (3, .ref o)])
    (kk : ∀ (a1 : Nat → Nat) (qm' : Pc3) (z' q' : Pc4) (f' : Nat → Int64) (H : Heap) (locs : List Loc) (ls : Array Slot), a1 0 = a 0 → K qm' z' q' f' → va_P (DD G) vwCl (WW G b qm' a1 z' q' o f') H → va_D (lA s) (WW G b qm' a1 z' q' o f') → va_S (lA s) s.heap H locs → lv_has ls 8 [(4, .int (nI (4 * j))), (0, .ref sb), (1, .ref (a 0)), (2, .ref (b 0)), (3, .ref o)] → W p l e R s m args below meth c H locs (cells + 5) (slots + 10810) Q (F0 m 1175 ls [])) :
    W p l e R s m args below meth c H locs cells slots Q (F0 m 632 ls []) := by
  obtain ⟨X, hX, hN, hsx, hsb, hst, hL⟩ := id X0
  obtain ⟨⟨hx, hb, hml, hown, hts⟩, hK, hr, hlk, hA, hAs, hSta⟩ := id X
  refine lv_aload_n hx hb dL_law_632 rfl (lv_at hl 2 rfl) ?_
  refine lv_aload_n hx hb dL_law_633 rfl (lv_at hl 1 rfl) ?_
  refine lv_iload hx hb dL_law_634 (lv_at hl 0 rfl) ?_
  refine lv_iconst (v := 1) hx hb dL_law_636 (by decide) ?_
  refine lv_iadd hx hb dL_law_637 ?_
  refine sld X0 hS (4 * j + 1) (by omega) (nI_add (4 * j) 1) dL_law_638 ?_
  refine lv_aload_n hx hb dL_law_639 rfl (lv_at hl 1 rfl) ?_
  refine lv_iload hx hb dL_law_640 (lv_at hl 0 rfl) ?_
  refine lv_iconst (v := 2) hx hb dL_law_642 (by decide) ?_
  refine lv_iadd hx hb dL_law_643 ?_
  refine sld X0 hS (4 * j + 2) (by omega) (nI_add (4 * j) 2) dL_law_644 ?_
  refine lv_aload_n hx hb dL_law_645 rfl (lv_at hl 4 rfl) ?_
  obtain ⟨res, r, qm1, e1, e2, e3, e4, hKK⟩ := hsk
  have hsL := AL_sub hS hA (va_D_pre hD)
  refine goW (n := 4) (a := a) X hX hN (cL_w_next (a := a) (o := o) hst e1) (gW kw681 kw682 kw0 kw683) (by decide +kernel) ⟨by omega, by omega⟩ (va_P_pre hP) (va_D_pre hD) hS rfl rfl hl.1 (Nat.le_of_ble_eq_true rfl) dL_law_646 ⟨by omega, by omega⟩ (fun a1 H locs ha hP1 hD1 hk hS => ?_)
  obtain ⟨hP, hD⟩ := va_glue hP hD hk hsL hP1 hD1
  have hP : va_P (DD G) vwCl (WW G b qm a1 res.2.1 res.2.2.1 o res.2.2.2) H := hP
  have hD : va_D (lA s) (WW G b qm a1 res.2.1 res.2.2.1 o res.2.2.2) := hD
  refine lv_istore (lv' := [(5, .int res.1), (4, .int (nI (4 * j))), (0, .ref sb), (1, .ref (a 0)), (2, .ref (b 0)), (3, .ref o)]) hx hb dL_law_649 hl (by decide) rfl (fun ls hl => ?_)
  refine lv_aload_n hx hb dL_law_651 rfl (lv_at hl 4 rfl) ?_
  refine lv_aload_n hx hb dL_law_652 rfl (lv_at hl 2 rfl) ?_
  refine lv_iload hx hb dL_law_653 (lv_at hl 1 rfl) ?_
  refine lv_iconst (v := 1) hx hb dL_law_655 (by decide) ?_
  refine lv_iadd hx hb dL_law_656 ?_
  refine sld X0 hS (4 * j + 1) (by omega) (nI_add (4 * j) 1) dL_law_657 ?_
  refine lv_aload_n hx hb dL_law_658 rfl (lv_at hl 2 rfl) ?_
  refine lv_iload hx hb dL_law_659 (lv_at hl 1 rfl) ?_
  refine lv_iconst (v := 2) hx hb dL_law_661 (by decide) ?_
  refine lv_iadd hx hb dL_law_662 ?_
  refine sld X0 hS (4 * j + 2) (by omega) (nI_add (4 * j) 2) dL_law_663 ?_
  have hsM := AL_sub hS hA (ww_MD hD)
  refine goV_i (n := 2) (C := RX8) X (cM_next (a := b) e2) (gV kw1032 kw1033 kw1034 kw9 kw1035) (by decide +kernel) ⟨by omega, by omega⟩ (rcM hK (ww_MP hP)) (ww_MP hP) (ww_MD hD) hS rfl rfl hl.1 (Nat.le_of_ble_eq_true rfl) dL_law_664 ⟨by omega, by omega⟩ (fun H locs hP1 hk hS => ?_)
  obtain ⟨hP, hD⟩ := ww_glM hP hD hk hsM hP1
  refine lv_istore (lv' := [(6, .int r), (5, .int res.1), (4, .int (nI (4 * j))), (0, .ref sb), (1, .ref (a 0)), (2, .ref (b 0)), (3, .ref o)]) hx hb dL_law_667 hl (by decide) rfl (fun ls hl => ?_)
  refine lv_aload_n hx hb dL_law_669 rfl (lv_at hl 5 rfl) ?_
  have hsM := AL_sub hS hA (ww_MD hD)
  refine goV_i (n := 0) (C := RX8) X (cM_thrown (a := b) e3) (gV kw868 kw869 kw870 kw9 kw871) (by decide +kernel) ⟨by omega, by omega⟩ (rcM hK (ww_MP hP)) (ww_MP hP) (ww_MD hD) hS rfl rfl hl.1 (Nat.le_of_ble_eq_true rfl) dL_law_670 ⟨by omega, by omega⟩ (fun H locs hP1 hk hS => ?_)
  obtain ⟨hP, hD⟩ := ww_glM hP hD hk hsM hP1
  refine lv_iload hx hb dL_law_673 (lv_at hl 1 rfl) ?_
  refine lv_icmp_eq (tgt := 680) hx hb dL_law_675 (by decide) (fun _ => ?_) (fun c => absurd rfl c)
  refine lv_iload hx hb dL_law_680 (lv_at hl 1 rfl) ?_
  refine lv_if_ne (tgt := 697) hx hb dL_law_682 (by decide) (fun _ => ?_) (fun c0 => ?_)
  · refine lv_goto (tgt := 1175) hx hb dL_law_697 (by decide) ?_
    refine W.widen (k := cells + 5) (n := slots + 10810) (by omega) (by omega) ?_
    exact kk a1 qm1 _ _ _ H locs ls ha hKK hP hD hS (lv_sub hl [2, 3, 4, 5, 6] rfl)
  · have e4 := e4 c0
    refine lv_aload_n hx hb dL_law_685 rfl (lv_at hl 6 rfl) ?_
    refine lv_iconst (v := 0) hx hb dL_law_686 (by decide) ?_
    refine outLd X hP dL_law_687 ?_
    refine lv_iload hx hb dL_law_688 (lv_at hl 0 rfl) ?_
    refine lv_i2l (v := r.toInt64) hx hb dL_law_690 rfl ?_
    refine W.lcmp hx hb dL_law_691 ?_
    refine lv_if_eq (tgt := 697) hx hb dL_law_692 (by decide) (fun _ => ?_) (fun c => absurd (cmp0 e4) c)
    refine lv_goto (tgt := 1175) hx hb dL_law_697 (by decide) ?_
    refine W.widen (k := cells + 5) (n := slots + 10810) (by omega) (by omega) ?_
    exact kk a1 qm1 _ _ _ H locs ls ha hKK hP hD hS (lv_sub hl [2, 3, 4, 5, 6] rfl)

set_option maxHeartbeats 4000000 in
set_option maxRecDepth 100000 in
theorem lawC_date {p : Program} {l : Launch} {e : Env} {R : Room} {s : State} {m : MethodId} {args : Array Value} {below : List Frame} {meth : Method} {c : Code} {H : Heap} {locs : List Loc} {cells slots : Nat} {Q : State → Prop} {G : Ev} {ls : Array Slot} {b a : Nat → Nat} {qm : Pc3} {z q : Pc4} {o : Nat} {f : Nat → Int64} {sb L : Nat} {xs : Nat → Int32} {n j : Nat} {K : Pc3 → Pc4 → Pc4 → (Nat → Int64) → Prop} (X0 : LX p l s m args meth c G sb L xs) (hj : 4 * j + 4 ≤ L) (hRf : 14 ≤ R.frames) (hRl : 532 ≤ R.locals) (hRc : cells + 5 ≤ R.cells) (hRs : slots + 10810 ≤ R.slots) (hsk : SK_date n qm z q f (xs (4 * j + 1)) (xs (4 * j + 2)) K) (hP : va_P (DD G) vwCl (WW G b qm a z q o f) H) (hD : va_D (lA s) (WW G b qm a z q o f)) (hS : va_S (lA s) s.heap H locs) (hl : lv_has ls 8 [(4, .int (nI (4 * j))), (0, .ref sb), (1, .ref (a 0)), (2, .ref (b 0)), (3, .ref o)])
    (kk : ∀ (a1 : Nat → Nat) (qm' : Pc3) (z' q' : Pc4) (f' : Nat → Int64) (H : Heap) (locs : List Loc) (ls : Array Slot), a1 0 = a 0 → K qm' z' q' f' → va_P (DD G) vwCl (WW G b qm' a1 z' q' o f') H → va_D (lA s) (WW G b qm' a1 z' q' o f') → va_S (lA s) s.heap H locs → lv_has ls 8 [(4, .int (nI (4 * j))), (0, .ref sb), (1, .ref (a 0)), (2, .ref (b 0)), (3, .ref o)] → W p l e R s m args below meth c H locs (cells + 5) (slots + 10810) Q (F0 m 1175 ls [])) :
    W p l e R s m args below meth c H locs cells slots Q (F0 m 700 ls []) := by
  obtain ⟨X, hX, hN, hsx, hsb, hst, hL⟩ := id X0
  obtain ⟨⟨hx, hb, hml, hown, hts⟩, hK, hr, hlk, hA, hAs, hSta⟩ := id X
  refine lv_aload_n hx hb dL_law_700 rfl (lv_at hl 2 rfl) ?_
  refine lv_aload_n hx hb dL_law_701 rfl (lv_at hl 1 rfl) ?_
  refine lv_iload hx hb dL_law_702 (lv_at hl 0 rfl) ?_
  refine lv_iconst (v := 1) hx hb dL_law_704 (by decide) ?_
  refine lv_iadd hx hb dL_law_705 ?_
  refine sld X0 hS (4 * j + 1) (by omega) (nI_add (4 * j) 1) dL_law_706 ?_
  refine lv_aload_n hx hb dL_law_707 rfl (lv_at hl 1 rfl) ?_
  refine lv_iload hx hb dL_law_708 (lv_at hl 0 rfl) ?_
  refine lv_iconst (v := 2) hx hb dL_law_710 (by decide) ?_
  refine lv_iadd hx hb dL_law_711 ?_
  refine sld X0 hS (4 * j + 2) (by omega) (nI_add (4 * j) 2) dL_law_712 ?_
  refine lv_aload_n hx hb dL_law_713 rfl (lv_at hl 4 rfl) ?_
  obtain ⟨res, r, qm1, e1, e2, e3, e4, hKK⟩ := hsk
  have hsL := AL_sub hS hA (va_D_pre hD)
  refine goW (n := 4) (a := a) X hX hN (cL_w_date (a := a) (o := o) hst e1) (gW kw693 kw694 kw0 kw695) (by decide +kernel) ⟨by omega, by omega⟩ (va_P_pre hP) (va_D_pre hD) hS rfl rfl hl.1 (Nat.le_of_ble_eq_true rfl) dL_law_714 ⟨by omega, by omega⟩ (fun a1 H locs ha hP1 hD1 hk hS => ?_)
  obtain ⟨hP, hD⟩ := va_glue hP hD hk hsL hP1 hD1
  have hP : va_P (DD G) vwCl (WW G b qm a1 res.2.1 res.2.2.1 o res.2.2.2) H := hP
  have hD : va_D (lA s) (WW G b qm a1 res.2.1 res.2.2.1 o res.2.2.2) := hD
  refine lv_istore (lv' := [(5, .int res.1), (4, .int (nI (4 * j))), (0, .ref sb), (1, .ref (a 0)), (2, .ref (b 0)), (3, .ref o)]) hx hb dL_law_717 hl (by decide) rfl (fun ls hl => ?_)
  refine lv_aload_n hx hb dL_law_719 rfl (lv_at hl 4 rfl) ?_
  refine lv_aload_n hx hb dL_law_720 rfl (lv_at hl 2 rfl) ?_
  refine lv_iload hx hb dL_law_721 (lv_at hl 1 rfl) ?_
  refine lv_iconst (v := 1) hx hb dL_law_723 (by decide) ?_
  refine lv_iadd hx hb dL_law_724 ?_
  refine sld X0 hS (4 * j + 1) (by omega) (nI_add (4 * j) 1) dL_law_725 ?_
  refine lv_aload_n hx hb dL_law_726 rfl (lv_at hl 2 rfl) ?_
  refine lv_iload hx hb dL_law_727 (lv_at hl 1 rfl) ?_
  refine lv_iconst (v := 2) hx hb dL_law_729 (by decide) ?_
  refine lv_iadd hx hb dL_law_730 ?_
  refine sld X0 hS (4 * j + 2) (by omega) (nI_add (4 * j) 2) dL_law_731 ?_
  have hsM := AL_sub hS hA (ww_MD hD)
  refine goV_i (n := 2) (C := RX8) X (cM_date (a := b) e2) (gV kw1036 kw1037 kw1038 kw9 kw1039) (by decide +kernel) ⟨by omega, by omega⟩ (rcM hK (ww_MP hP)) (ww_MP hP) (ww_MD hD) hS rfl rfl hl.1 (Nat.le_of_ble_eq_true rfl) dL_law_732 ⟨by omega, by omega⟩ (fun H locs hP1 hk hS => ?_)
  obtain ⟨hP, hD⟩ := ww_glM hP hD hk hsM hP1
  refine lv_istore (lv' := [(6, .int r), (5, .int res.1), (4, .int (nI (4 * j))), (0, .ref sb), (1, .ref (a 0)), (2, .ref (b 0)), (3, .ref o)]) hx hb dL_law_735 hl (by decide) rfl (fun ls hl => ?_)
  refine lv_aload_n hx hb dL_law_737 rfl (lv_at hl 5 rfl) ?_
  have hsM := AL_sub hS hA (ww_MD hD)
  refine goV_i (n := 0) (C := RX8) X (cM_thrown (a := b) e3) (gV kw868 kw869 kw870 kw9 kw871) (by decide +kernel) ⟨by omega, by omega⟩ (rcM hK (ww_MP hP)) (ww_MP hP) (ww_MD hD) hS rfl rfl hl.1 (Nat.le_of_ble_eq_true rfl) dL_law_738 ⟨by omega, by omega⟩ (fun H locs hP1 hk hS => ?_)
  obtain ⟨hP, hD⟩ := ww_glM hP hD hk hsM hP1
  refine lv_iload hx hb dL_law_741 (lv_at hl 1 rfl) ?_
  refine lv_icmp_eq (tgt := 748) hx hb dL_law_743 (by decide) (fun _ => ?_) (fun c => absurd rfl c)
  refine lv_iload hx hb dL_law_748 (lv_at hl 1 rfl) ?_
  refine lv_if_ne (tgt := 765) hx hb dL_law_750 (by decide) (fun _ => ?_) (fun c0 => ?_)
  · refine lv_goto (tgt := 1175) hx hb dL_law_765 (by decide) ?_
    refine W.widen (k := cells + 5) (n := slots + 10810) (by omega) (by omega) ?_
    exact kk a1 qm1 _ _ _ H locs ls ha hKK hP hD hS (lv_sub hl [2, 3, 4, 5, 6] rfl)
  · have e4 := e4 c0
    refine lv_aload_n hx hb dL_law_753 rfl (lv_at hl 6 rfl) ?_
    refine lv_iconst (v := 0) hx hb dL_law_754 (by decide) ?_
    refine outLd X hP dL_law_755 ?_
    refine lv_iload hx hb dL_law_756 (lv_at hl 0 rfl) ?_
    refine lv_i2l (v := r.toInt64) hx hb dL_law_758 rfl ?_
    refine W.lcmp hx hb dL_law_759 ?_
    refine lv_if_eq (tgt := 765) hx hb dL_law_760 (by decide) (fun _ => ?_) (fun c => absurd (cmp0 e4) c)
    refine lv_goto (tgt := 1175) hx hb dL_law_765 (by decide) ?_
    refine W.widen (k := cells + 5) (n := slots + 10810) (by omega) (by omega) ?_
    exact kk a1 qm1 _ _ _ H locs ls ha hKK hP hD hS (lv_sub hl [2, 3, 4, 5, 6] rfl)

set_option maxHeartbeats 4000000 in
set_option maxRecDepth 100000 in
theorem lawC_times {p : Program} {l : Launch} {e : Env} {R : Room} {s : State} {m : MethodId} {args : Array Value} {below : List Frame} {meth : Method} {c : Code} {H : Heap} {locs : List Loc} {cells slots : Nat} {Q : State → Prop} {G : Ev} {ls : Array Slot} {b a : Nat → Nat} {qm : Pc3} {z q : Pc4} {o : Nat} {f : Nat → Int64} {sb L : Nat} {xs : Nat → Int32} {n j : Nat} {K : Pc3 → Pc4 → Pc4 → (Nat → Int64) → Prop} (X0 : LX p l s m args meth c G sb L xs) (hj : 4 * j + 4 ≤ L) (hRf : 14 ≤ R.frames) (hRl : 532 ≤ R.locals) (hRc : cells + 5 ≤ R.cells) (hRs : slots + 10810 ≤ R.slots) (hsk : SK_times n qm z q f (xs (4 * j + 1)) (xs (4 * j + 2)) (xs (4 * j + 3)) K) (hP : va_P (DD G) vwCl (WW G b qm a z q o f) H) (hD : va_D (lA s) (WW G b qm a z q o f)) (hS : va_S (lA s) s.heap H locs) (hl : lv_has ls 8 [(4, .int (nI (4 * j))), (0, .ref sb), (1, .ref (a 0)), (2, .ref (b 0)), (3, .ref o)])
    (kk : ∀ (a1 : Nat → Nat) (qm' : Pc3) (z' q' : Pc4) (f' : Nat → Int64) (H : Heap) (locs : List Loc) (ls : Array Slot), a1 0 = a 0 → K qm' z' q' f' → va_P (DD G) vwCl (WW G b qm' a1 z' q' o f') H → va_D (lA s) (WW G b qm' a1 z' q' o f') → va_S (lA s) s.heap H locs → lv_has ls 8 [(4, .int (nI (4 * j))), (0, .ref sb), (1, .ref (a 0)), (2, .ref (b 0)), (3, .ref o)] → W p l e R s m args below meth c H locs (cells + 5) (slots + 10810) Q (F0 m 1175 ls [])) :
    W p l e R s m args below meth c H locs cells slots Q (F0 m 768 ls []) := by
  obtain ⟨X, hX, hN, hsx, hsb, hst, hL⟩ := id X0
  obtain ⟨⟨hx, hb, hml, hown, hts⟩, hK, hr, hlk, hA, hAs, hSta⟩ := id X
  refine lv_aload_n hx hb dL_law_768 rfl (lv_at hl 2 rfl) ?_
  refine lv_aload_n hx hb dL_law_769 rfl (lv_at hl 1 rfl) ?_
  refine lv_iload hx hb dL_law_770 (lv_at hl 0 rfl) ?_
  refine lv_iconst (v := 1) hx hb dL_law_772 (by decide) ?_
  refine lv_iadd hx hb dL_law_773 ?_
  refine sld X0 hS (4 * j + 1) (by omega) (nI_add (4 * j) 1) dL_law_774 ?_
  refine lv_aload_n hx hb dL_law_775 rfl (lv_at hl 1 rfl) ?_
  refine lv_iload hx hb dL_law_776 (lv_at hl 0 rfl) ?_
  refine lv_iconst (v := 2) hx hb dL_law_778 (by decide) ?_
  refine lv_iadd hx hb dL_law_779 ?_
  refine sld X0 hS (4 * j + 2) (by omega) (nI_add (4 * j) 2) dL_law_780 ?_
  refine lv_aload_n hx hb dL_law_781 rfl (lv_at hl 1 rfl) ?_
  refine lv_iload hx hb dL_law_782 (lv_at hl 0 rfl) ?_
  refine lv_iconst (v := 3) hx hb dL_law_784 (by decide) ?_
  refine lv_iadd hx hb dL_law_785 ?_
  refine sld X0 hS (4 * j + 3) (by omega) (nI_add (4 * j) 3) dL_law_786 ?_
  refine lv_aload_n hx hb dL_law_787 rfl (lv_at hl 4 rfl) ?_
  obtain ⟨res, r, qm1, e1, e2, e3, e4, hKK⟩ := hsk
  have hsL := AL_sub hS hA (va_D_pre hD)
  refine goW (n := 5) (a := a) X hX hN (cL_w_times (a := a) (o := o) hst e1) (gW kw702 kw703 kw0 kw704) (by decide +kernel) ⟨by omega, by omega⟩ (va_P_pre hP) (va_D_pre hD) hS rfl rfl hl.1 (Nat.le_of_ble_eq_true rfl) dL_law_788 ⟨by omega, by omega⟩ (fun a1 H locs ha hP1 hD1 hk hS => ?_)
  obtain ⟨hP, hD⟩ := va_glue hP hD hk hsL hP1 hD1
  have hP : va_P (DD G) vwCl (WW G b qm a1 res.2.1 res.2.2.1 o res.2.2.2) H := hP
  have hD : va_D (lA s) (WW G b qm a1 res.2.1 res.2.2.1 o res.2.2.2) := hD
  refine lv_istore (lv' := [(5, .int res.1), (4, .int (nI (4 * j))), (0, .ref sb), (1, .ref (a 0)), (2, .ref (b 0)), (3, .ref o)]) hx hb dL_law_791 hl (by decide) rfl (fun ls hl => ?_)
  refine lv_aload_n hx hb dL_law_793 rfl (lv_at hl 4 rfl) ?_
  refine lv_aload_n hx hb dL_law_794 rfl (lv_at hl 2 rfl) ?_
  refine lv_iload hx hb dL_law_795 (lv_at hl 1 rfl) ?_
  refine lv_iconst (v := 1) hx hb dL_law_797 (by decide) ?_
  refine lv_iadd hx hb dL_law_798 ?_
  refine sld X0 hS (4 * j + 1) (by omega) (nI_add (4 * j) 1) dL_law_799 ?_
  refine lv_aload_n hx hb dL_law_800 rfl (lv_at hl 2 rfl) ?_
  refine lv_iload hx hb dL_law_801 (lv_at hl 1 rfl) ?_
  refine lv_iconst (v := 2) hx hb dL_law_803 (by decide) ?_
  refine lv_iadd hx hb dL_law_804 ?_
  refine sld X0 hS (4 * j + 2) (by omega) (nI_add (4 * j) 2) dL_law_805 ?_
  refine lv_aload_n hx hb dL_law_806 rfl (lv_at hl 2 rfl) ?_
  refine lv_iload hx hb dL_law_807 (lv_at hl 1 rfl) ?_
  refine lv_iconst (v := 3) hx hb dL_law_809 (by decide) ?_
  refine lv_iadd hx hb dL_law_810 ?_
  refine sld X0 hS (4 * j + 3) (by omega) (nI_add (4 * j) 3) dL_law_811 ?_
  have hsM := AL_sub hS hA (ww_MD hD)
  refine goV_i (n := 3) (C := RX8) X (cM_times (a := b) e2) (gV kw1040 kw1041 kw1042 kw9 kw1043) (by decide +kernel) ⟨by omega, by omega⟩ (rcM hK (ww_MP hP)) (ww_MP hP) (ww_MD hD) hS rfl rfl hl.1 (Nat.le_of_ble_eq_true rfl) dL_law_812 ⟨by omega, by omega⟩ (fun H locs hP1 hk hS => ?_)
  obtain ⟨hP, hD⟩ := ww_glM hP hD hk hsM hP1
  refine lv_istore (lv' := [(6, .int r), (5, .int res.1), (4, .int (nI (4 * j))), (0, .ref sb), (1, .ref (a 0)), (2, .ref (b 0)), (3, .ref o)]) hx hb dL_law_815 hl (by decide) rfl (fun ls hl => ?_)
  refine lv_aload_n hx hb dL_law_817 rfl (lv_at hl 5 rfl) ?_
  have hsM := AL_sub hS hA (ww_MD hD)
  refine goV_i (n := 0) (C := RX8) X (cM_thrown (a := b) e3) (gV kw868 kw869 kw870 kw9 kw871) (by decide +kernel) ⟨by omega, by omega⟩ (rcM hK (ww_MP hP)) (ww_MP hP) (ww_MD hD) hS rfl rfl hl.1 (Nat.le_of_ble_eq_true rfl) dL_law_818 ⟨by omega, by omega⟩ (fun H locs hP1 hk hS => ?_)
  obtain ⟨hP, hD⟩ := ww_glM hP hD hk hsM hP1
  refine lv_iload hx hb dL_law_821 (lv_at hl 1 rfl) ?_
  refine lv_icmp_eq (tgt := 828) hx hb dL_law_823 (by decide) (fun _ => ?_) (fun c => absurd rfl c)
  refine lv_iload hx hb dL_law_828 (lv_at hl 1 rfl) ?_
  refine lv_if_ne (tgt := 845) hx hb dL_law_830 (by decide) (fun _ => ?_) (fun c0 => ?_)
  · refine lv_goto (tgt := 1175) hx hb dL_law_845 (by decide) ?_
    refine W.widen (k := cells + 5) (n := slots + 10810) (by omega) (by omega) ?_
    exact kk a1 qm1 _ _ _ H locs ls ha hKK hP hD hS (lv_sub hl [2, 3, 4, 5, 6] rfl)
  · have e4 := e4 c0
    refine lv_aload_n hx hb dL_law_833 rfl (lv_at hl 6 rfl) ?_
    refine lv_iconst (v := 0) hx hb dL_law_834 (by decide) ?_
    refine outLd X hP dL_law_835 ?_
    refine lv_iload hx hb dL_law_836 (lv_at hl 0 rfl) ?_
    refine lv_i2l (v := r.toInt64) hx hb dL_law_838 rfl ?_
    refine W.lcmp hx hb dL_law_839 ?_
    refine lv_if_eq (tgt := 845) hx hb dL_law_840 (by decide) (fun _ => ?_) (fun c => absurd (cmp0 e4) c)
    refine lv_goto (tgt := 1175) hx hb dL_law_845 (by decide) ?_
    refine W.widen (k := cells + 5) (n := slots + 10810) (by omega) (by omega) ?_
    exact kk a1 qm1 _ _ _ H locs ls ha hKK hP hD hS (lv_sub hl [2, 3, 4, 5, 6] rfl)

set_option maxHeartbeats 4000000 in
set_option maxRecDepth 100000 in
theorem lawC_list {p : Program} {l : Launch} {e : Env} {R : Room} {s : State} {m : MethodId} {args : Array Value} {below : List Frame} {meth : Method} {c : Code} {H : Heap} {locs : List Loc} {cells slots : Nat} {Q : State → Prop} {G : Ev} {ls : Array Slot} {b a : Nat → Nat} {qm : Pc3} {z q : Pc4} {o : Nat} {f : Nat → Int64} {sb L : Nat} {xs : Nat → Int32} {n j : Nat} {K : Pc3 → Pc4 → Pc4 → (Nat → Int64) → Prop} (X0 : LX p l s m args meth c G sb L xs) (hj : 4 * j + 4 ≤ L) (hRf : 14 ≤ R.frames) (hRl : 532 ≤ R.locals) (hRc : cells + 5 ≤ R.cells) (hRs : slots + 10810 ≤ R.slots) (hsk : SK_list n qm z q f (xs (4 * j + 1)) (xs (4 * j + 2)) K) (hP : va_P (DD G) vwCl (WW G b qm a z q o f) H) (hD : va_D (lA s) (WW G b qm a z q o f)) (hS : va_S (lA s) s.heap H locs) (hl : lv_has ls 8 [(4, .int (nI (4 * j))), (0, .ref sb), (1, .ref (a 0)), (2, .ref (b 0)), (3, .ref o)])
    (kk : ∀ (a1 : Nat → Nat) (qm' : Pc3) (z' q' : Pc4) (f' : Nat → Int64) (H : Heap) (locs : List Loc) (ls : Array Slot), a1 0 = a 0 → K qm' z' q' f' → va_P (DD G) vwCl (WW G b qm' a1 z' q' o f') H → va_D (lA s) (WW G b qm' a1 z' q' o f') → va_S (lA s) s.heap H locs → lv_has ls 8 [(4, .int (nI (4 * j))), (0, .ref sb), (1, .ref (a 0)), (2, .ref (b 0)), (3, .ref o)] → W p l e R s m args below meth c H locs (cells + 5) (slots + 10810) Q (F0 m 1175 ls [])) :
    W p l e R s m args below meth c H locs cells slots Q (F0 m 848 ls []) := by
  obtain ⟨X, hX, hN, hsx, hsb, hst, hL⟩ := id X0
  obtain ⟨⟨hx, hb, hml, hown, hts⟩, hK, hr, hlk, hA, hAs, hSta⟩ := id X
  refine lv_aload_n hx hb dL_law_848 rfl (lv_at hl 2 rfl) ?_
  refine lv_aload_n hx hb dL_law_849 rfl (lv_at hl 1 rfl) ?_
  refine lv_iload hx hb dL_law_850 (lv_at hl 0 rfl) ?_
  refine lv_iconst (v := 1) hx hb dL_law_852 (by decide) ?_
  refine lv_iadd hx hb dL_law_853 ?_
  refine sld X0 hS (4 * j + 1) (by omega) (nI_add (4 * j) 1) dL_law_854 ?_
  refine lv_aload_n hx hb dL_law_855 rfl (lv_at hl 1 rfl) ?_
  refine lv_iload hx hb dL_law_856 (lv_at hl 0 rfl) ?_
  refine lv_iconst (v := 2) hx hb dL_law_858 (by decide) ?_
  refine lv_iadd hx hb dL_law_859 ?_
  refine sld X0 hS (4 * j + 2) (by omega) (nI_add (4 * j) 2) dL_law_860 ?_
  refine lv_aload_n hx hb dL_law_861 rfl (lv_at hl 4 rfl) ?_
  obtain ⟨res, r, qm1, e1, e2, e3, e4, hKK⟩ := hsk
  have hsL := AL_sub hS hA (va_D_pre hD)
  refine goW (n := 4) (a := a) X hX hN (cL_w_list (a := a) (o := o) hst e1) (gW kw710 kw711 kw0 kw712) (by decide +kernel) ⟨by omega, by omega⟩ (va_P_pre hP) (va_D_pre hD) hS rfl rfl hl.1 (Nat.le_of_ble_eq_true rfl) dL_law_862 ⟨by omega, by omega⟩ (fun a1 H locs ha hP1 hD1 hk hS => ?_)
  obtain ⟨hP, hD⟩ := va_glue hP hD hk hsL hP1 hD1
  have hP : va_P (DD G) vwCl (WW G b qm a1 res.2.1 res.2.2.1 o res.2.2.2) H := hP
  have hD : va_D (lA s) (WW G b qm a1 res.2.1 res.2.2.1 o res.2.2.2) := hD
  refine lv_istore (lv' := [(5, .int res.1), (4, .int (nI (4 * j))), (0, .ref sb), (1, .ref (a 0)), (2, .ref (b 0)), (3, .ref o)]) hx hb dL_law_865 hl (by decide) rfl (fun ls hl => ?_)
  refine lv_aload_n hx hb dL_law_867 rfl (lv_at hl 4 rfl) ?_
  refine lv_aload_n hx hb dL_law_868 rfl (lv_at hl 2 rfl) ?_
  refine lv_iload hx hb dL_law_869 (lv_at hl 1 rfl) ?_
  refine lv_iconst (v := 1) hx hb dL_law_871 (by decide) ?_
  refine lv_iadd hx hb dL_law_872 ?_
  refine sld X0 hS (4 * j + 1) (by omega) (nI_add (4 * j) 1) dL_law_873 ?_
  refine lv_aload_n hx hb dL_law_874 rfl (lv_at hl 2 rfl) ?_
  refine lv_iload hx hb dL_law_875 (lv_at hl 1 rfl) ?_
  refine lv_iconst (v := 2) hx hb dL_law_877 (by decide) ?_
  refine lv_iadd hx hb dL_law_878 ?_
  refine sld X0 hS (4 * j + 2) (by omega) (nI_add (4 * j) 2) dL_law_879 ?_
  have hsM := AL_sub hS hA (ww_MD hD)
  refine goV_i (n := 2) (C := RX8) X (cM_list (a := b) e2) (gV kw1044 kw1045 kw1046 kw9 kw1047) (by decide +kernel) ⟨by omega, by omega⟩ (rcM hK (ww_MP hP)) (ww_MP hP) (ww_MD hD) hS rfl rfl hl.1 (Nat.le_of_ble_eq_true rfl) dL_law_880 ⟨by omega, by omega⟩ (fun H locs hP1 hk hS => ?_)
  obtain ⟨hP, hD⟩ := ww_glM hP hD hk hsM hP1
  refine lv_istore (lv' := [(6, .int r), (5, .int res.1), (4, .int (nI (4 * j))), (0, .ref sb), (1, .ref (a 0)), (2, .ref (b 0)), (3, .ref o)]) hx hb dL_law_883 hl (by decide) rfl (fun ls hl => ?_)
  refine lv_aload_n hx hb dL_law_885 rfl (lv_at hl 5 rfl) ?_
  have hsM := AL_sub hS hA (ww_MD hD)
  refine goV_i (n := 0) (C := RX8) X (cM_thrown (a := b) e3) (gV kw868 kw869 kw870 kw9 kw871) (by decide +kernel) ⟨by omega, by omega⟩ (rcM hK (ww_MP hP)) (ww_MP hP) (ww_MD hD) hS rfl rfl hl.1 (Nat.le_of_ble_eq_true rfl) dL_law_886 ⟨by omega, by omega⟩ (fun H locs hP1 hk hS => ?_)
  obtain ⟨hP, hD⟩ := ww_glM hP hD hk hsM hP1
  refine lv_iload hx hb dL_law_889 (lv_at hl 1 rfl) ?_
  refine lv_icmp_eq (tgt := 896) hx hb dL_law_891 (by decide) (fun _ => ?_) (fun c => absurd rfl c)
  refine lv_iload hx hb dL_law_896 (lv_at hl 1 rfl) ?_
  refine lv_if_ne (tgt := 913) hx hb dL_law_898 (by decide) (fun _ => ?_) (fun c0 => ?_)
  · refine lv_goto (tgt := 1175) hx hb dL_law_913 (by decide) ?_
    refine W.widen (k := cells + 5) (n := slots + 10810) (by omega) (by omega) ?_
    exact kk a1 qm1 _ _ _ H locs ls ha hKK hP hD hS (lv_sub hl [2, 3, 4, 5, 6] rfl)
  · have e4 := e4 c0
    refine lv_aload_n hx hb dL_law_901 rfl (lv_at hl 6 rfl) ?_
    refine lv_iconst (v := 0) hx hb dL_law_902 (by decide) ?_
    refine outLd X hP dL_law_903 ?_
    refine lv_iload hx hb dL_law_904 (lv_at hl 0 rfl) ?_
    refine lv_i2l (v := r.toInt64) hx hb dL_law_906 rfl ?_
    refine W.lcmp hx hb dL_law_907 ?_
    refine lv_if_eq (tgt := 913) hx hb dL_law_908 (by decide) (fun _ => ?_) (fun c => absurd (cmp0 e4) c)
    refine lv_goto (tgt := 1175) hx hb dL_law_913 (by decide) ?_
    refine W.widen (k := cells + 5) (n := slots + 10810) (by omega) (by omega) ?_
    exact kk a1 qm1 _ _ _ H locs ls ha hKK hP hD hS (lv_sub hl [2, 3, 4, 5, 6] rfl)

set_option maxHeartbeats 4000000 in
set_option maxRecDepth 100000 in
theorem lawC_item {p : Program} {l : Launch} {e : Env} {R : Room} {s : State} {m : MethodId} {args : Array Value} {below : List Frame} {meth : Method} {c : Code} {H : Heap} {locs : List Loc} {cells slots : Nat} {Q : State → Prop} {G : Ev} {ls : Array Slot} {b a : Nat → Nat} {qm : Pc3} {z q : Pc4} {o : Nat} {f : Nat → Int64} {sb L : Nat} {xs : Nat → Int32} {n j : Nat} {K : Pc3 → Pc4 → Pc4 → (Nat → Int64) → Prop} (X0 : LX p l s m args meth c G sb L xs) (hj : 4 * j + 4 ≤ L) (hRf : 14 ≤ R.frames) (hRl : 532 ≤ R.locals) (hRc : cells + 5 ≤ R.cells) (hRs : slots + 10810 ≤ R.slots) (hsk : SK_item n qm z q f (xs (4 * j + 1)) K) (hP : va_P (DD G) vwCl (WW G b qm a z q o f) H) (hD : va_D (lA s) (WW G b qm a z q o f)) (hS : va_S (lA s) s.heap H locs) (hl : lv_has ls 8 [(4, .int (nI (4 * j))), (0, .ref sb), (1, .ref (a 0)), (2, .ref (b 0)), (3, .ref o)])
    (kk : ∀ (a1 : Nat → Nat) (qm' : Pc3) (z' q' : Pc4) (f' : Nat → Int64) (H : Heap) (locs : List Loc) (ls : Array Slot), a1 0 = a 0 → K qm' z' q' f' → va_P (DD G) vwCl (WW G b qm' a1 z' q' o f') H → va_D (lA s) (WW G b qm' a1 z' q' o f') → va_S (lA s) s.heap H locs → lv_has ls 8 [(4, .int (nI (4 * j))), (0, .ref sb), (1, .ref (a 0)), (2, .ref (b 0)), (3, .ref o)] → W p l e R s m args below meth c H locs (cells + 5) (slots + 10810) Q (F0 m 1175 ls [])) :
    W p l e R s m args below meth c H locs cells slots Q (F0 m 916 ls []) := by
  obtain ⟨X, hX, hN, hsx, hsb, hst, hL⟩ := id X0
  obtain ⟨⟨hx, hb, hml, hown, hts⟩, hK, hr, hlk, hA, hAs, hSta⟩ := id X
  refine lv_aload_n hx hb dL_law_916 rfl (lv_at hl 2 rfl) ?_
  refine lv_aload_n hx hb dL_law_917 rfl (lv_at hl 1 rfl) ?_
  refine lv_iload hx hb dL_law_918 (lv_at hl 0 rfl) ?_
  refine lv_iconst (v := 1) hx hb dL_law_920 (by decide) ?_
  refine lv_iadd hx hb dL_law_921 ?_
  refine sld X0 hS (4 * j + 1) (by omega) (nI_add (4 * j) 1) dL_law_922 ?_
  refine lv_aload_n hx hb dL_law_923 rfl (lv_at hl 4 rfl) ?_
  obtain ⟨res, r, qm1, e1, e2, e3, e4, hKK⟩ := hsk
  have hsL := AL_sub hS hA (va_D_pre hD)
  refine goW (n := 3) (a := a) X hX hN (cL_w_item (a := a) (o := o) hst e1) (gW kw734 kw735 kw0 kw736) (by decide +kernel) ⟨by omega, by omega⟩ (va_P_pre hP) (va_D_pre hD) hS rfl rfl hl.1 (Nat.le_of_ble_eq_true rfl) dL_law_924 ⟨by omega, by omega⟩ (fun a1 H locs ha hP1 hD1 hk hS => ?_)
  obtain ⟨hP, hD⟩ := va_glue hP hD hk hsL hP1 hD1
  have hP : va_P (DD G) vwCl (WW G b qm a1 res.2.1 res.2.2.1 o res.2.2.2) H := hP
  have hD : va_D (lA s) (WW G b qm a1 res.2.1 res.2.2.1 o res.2.2.2) := hD
  refine lv_istore (lv' := [(5, .int res.1), (4, .int (nI (4 * j))), (0, .ref sb), (1, .ref (a 0)), (2, .ref (b 0)), (3, .ref o)]) hx hb dL_law_927 hl (by decide) rfl (fun ls hl => ?_)
  refine lv_aload_n hx hb dL_law_929 rfl (lv_at hl 4 rfl) ?_
  refine lv_aload_n hx hb dL_law_930 rfl (lv_at hl 2 rfl) ?_
  refine lv_iload hx hb dL_law_931 (lv_at hl 1 rfl) ?_
  refine lv_iconst (v := 1) hx hb dL_law_933 (by decide) ?_
  refine lv_iadd hx hb dL_law_934 ?_
  refine sld X0 hS (4 * j + 1) (by omega) (nI_add (4 * j) 1) dL_law_935 ?_
  have hsM := AL_sub hS hA (ww_MD hD)
  refine goV_l (n := 1) (C := RX8) X (cM_item (a := b) e2) (gV kw1049 kw1050 kw1051 kw9 kw1052) (by decide +kernel) ⟨by omega, by omega⟩ (rcM hK (ww_MP hP)) (ww_MP hP) (ww_MD hD) hS rfl rfl hl.1 (Nat.le_of_ble_eq_true rfl) dL_law_936 ⟨by omega, by omega⟩ (fun H locs hP1 hk hS => ?_)
  obtain ⟨hP, hD⟩ := ww_glM hP hD hk hsM hP1
  refine lv_lstore (lv' := [(6, .long r), (5, .int res.1), (4, .int (nI (4 * j))), (0, .ref sb), (1, .ref (a 0)), (2, .ref (b 0)), (3, .ref o)]) hx hb dL_law_939 hl (by decide) rfl (fun ls hl => ?_)
  refine lv_aload_n hx hb dL_law_941 rfl (lv_at hl 5 rfl) ?_
  have hsM := AL_sub hS hA (ww_MD hD)
  refine goV_i (n := 0) (C := RX8) X (cM_thrown (a := b) e3) (gV kw868 kw869 kw870 kw9 kw871) (by decide +kernel) ⟨by omega, by omega⟩ (rcM hK (ww_MP hP)) (ww_MP hP) (ww_MD hD) hS rfl rfl hl.1 (Nat.le_of_ble_eq_true rfl) dL_law_942 ⟨by omega, by omega⟩ (fun H locs hP1 hk hS => ?_)
  obtain ⟨hP, hD⟩ := ww_glM hP hD hk hsM hP1
  refine lv_iload hx hb dL_law_945 (lv_at hl 1 rfl) ?_
  refine lv_icmp_eq (tgt := 952) hx hb dL_law_947 (by decide) (fun _ => ?_) (fun c => absurd rfl c)
  refine lv_iload hx hb dL_law_952 (lv_at hl 1 rfl) ?_
  refine lv_if_ne (tgt := 968) hx hb dL_law_954 (by decide) (fun _ => ?_) (fun c0 => ?_)
  · refine lv_goto (tgt := 1175) hx hb dL_law_968 (by decide) ?_
    refine W.widen (k := cells + 5) (n := slots + 10810) (by omega) (by omega) ?_
    exact kk a1 qm1 _ _ _ H locs ls ha hKK hP hD hS (lv_sub hl [2, 3, 4, 5, 6] rfl)
  · have e4 := e4 c0
    refine lv_aload_n hx hb dL_law_957 rfl (lv_at hl 6 rfl) ?_
    refine lv_iconst (v := 0) hx hb dL_law_958 (by decide) ?_
    refine outLd X hP dL_law_959 ?_
    refine lv_lload hx hb dL_law_960 (lv_at hl 0 rfl) ?_
    refine W.lcmp hx hb dL_law_962 ?_
    refine lv_if_eq (tgt := 968) hx hb dL_law_963 (by decide) (fun _ => ?_) (fun c => absurd (cmp0 e4) c)
    refine lv_goto (tgt := 1175) hx hb dL_law_968 (by decide) ?_
    refine W.widen (k := cells + 5) (n := slots + 10810) (by omega) (by omega) ?_
    exact kk a1 qm1 _ _ _ H locs ls ha hKK hP hD hS (lv_sub hl [2, 3, 4, 5, 6] rfl)

set_option maxHeartbeats 4000000 in
set_option maxRecDepth 100000 in
theorem lawC_busiest {p : Program} {l : Launch} {e : Env} {R : Room} {s : State} {m : MethodId} {args : Array Value} {below : List Frame} {meth : Method} {c : Code} {H : Heap} {locs : List Loc} {cells slots : Nat} {Q : State → Prop} {G : Ev} {ls : Array Slot} {b a : Nat → Nat} {qm : Pc3} {z q : Pc4} {o : Nat} {f : Nat → Int64} {sb L : Nat} {xs : Nat → Int32} {n j : Nat} {K : Pc3 → Pc4 → Pc4 → (Nat → Int64) → Prop} (X0 : LX p l s m args meth c G sb L xs) (hj : 4 * j + 4 ≤ L) (hRf : 14 ≤ R.frames) (hRl : 532 ≤ R.locals) (hRc : cells + 5 ≤ R.cells) (hRs : slots + 10810 ≤ R.slots) (hsk : SK_busiest n qm z q f (xs (4 * j + 1)) (xs (4 * j + 2)) K) (hP : va_P (DD G) vwCl (WW G b qm a z q o f) H) (hD : va_D (lA s) (WW G b qm a z q o f)) (hS : va_S (lA s) s.heap H locs) (hl : lv_has ls 8 [(4, .int (nI (4 * j))), (0, .ref sb), (1, .ref (a 0)), (2, .ref (b 0)), (3, .ref o)])
    (kk : ∀ (a1 : Nat → Nat) (qm' : Pc3) (z' q' : Pc4) (f' : Nat → Int64) (H : Heap) (locs : List Loc) (ls : Array Slot), a1 0 = a 0 → K qm' z' q' f' → va_P (DD G) vwCl (WW G b qm' a1 z' q' o f') H → va_D (lA s) (WW G b qm' a1 z' q' o f') → va_S (lA s) s.heap H locs → lv_has ls 8 [(4, .int (nI (4 * j))), (0, .ref sb), (1, .ref (a 0)), (2, .ref (b 0)), (3, .ref o)] → W p l e R s m args below meth c H locs (cells + 5) (slots + 10810) Q (F0 m 1175 ls [])) :
    W p l e R s m args below meth c H locs cells slots Q (F0 m 971 ls []) := by
  obtain ⟨X, hX, hN, hsx, hsb, hst, hL⟩ := id X0
  obtain ⟨⟨hx, hb, hml, hown, hts⟩, hK, hr, hlk, hA, hAs, hSta⟩ := id X
  refine lv_aload_n hx hb dL_law_971 rfl (lv_at hl 2 rfl) ?_
  refine lv_aload_n hx hb dL_law_972 rfl (lv_at hl 1 rfl) ?_
  refine lv_iload hx hb dL_law_973 (lv_at hl 0 rfl) ?_
  refine lv_iconst (v := 1) hx hb dL_law_975 (by decide) ?_
  refine lv_iadd hx hb dL_law_976 ?_
  refine sld X0 hS (4 * j + 1) (by omega) (nI_add (4 * j) 1) dL_law_977 ?_
  refine lv_aload_n hx hb dL_law_978 rfl (lv_at hl 1 rfl) ?_
  refine lv_iload hx hb dL_law_979 (lv_at hl 0 rfl) ?_
  refine lv_iconst (v := 2) hx hb dL_law_981 (by decide) ?_
  refine lv_iadd hx hb dL_law_982 ?_
  refine sld X0 hS (4 * j + 2) (by omega) (nI_add (4 * j) 2) dL_law_983 ?_
  refine lv_aload_n hx hb dL_law_984 rfl (lv_at hl 4 rfl) ?_
  obtain ⟨res, r, qm1, e1, e2, e3, e4, hKK⟩ := hsk
  have hsL := AL_sub hS hA (va_D_pre hD)
  refine goW (n := 4) (a := a) X hX hN (cL_w_busiest (a := a) (o := o) hst e1) (gW kw741 kw742 kw0 kw743) (by decide +kernel) ⟨by omega, by omega⟩ (va_P_pre hP) (va_D_pre hD) hS rfl rfl hl.1 (Nat.le_of_ble_eq_true rfl) dL_law_985 ⟨by omega, by omega⟩ (fun a1 H locs ha hP1 hD1 hk hS => ?_)
  obtain ⟨hP, hD⟩ := va_glue hP hD hk hsL hP1 hD1
  have hP : va_P (DD G) vwCl (WW G b qm a1 res.2.1 res.2.2.1 o res.2.2.2) H := hP
  have hD : va_D (lA s) (WW G b qm a1 res.2.1 res.2.2.1 o res.2.2.2) := hD
  refine lv_istore (lv' := [(5, .int res.1), (4, .int (nI (4 * j))), (0, .ref sb), (1, .ref (a 0)), (2, .ref (b 0)), (3, .ref o)]) hx hb dL_law_988 hl (by decide) rfl (fun ls hl => ?_)
  refine lv_aload_n hx hb dL_law_990 rfl (lv_at hl 4 rfl) ?_
  refine lv_aload_n hx hb dL_law_991 rfl (lv_at hl 2 rfl) ?_
  refine lv_iload hx hb dL_law_992 (lv_at hl 1 rfl) ?_
  refine lv_iconst (v := 1) hx hb dL_law_994 (by decide) ?_
  refine lv_iadd hx hb dL_law_995 ?_
  refine sld X0 hS (4 * j + 1) (by omega) (nI_add (4 * j) 1) dL_law_996 ?_
  refine lv_aload_n hx hb dL_law_997 rfl (lv_at hl 2 rfl) ?_
  refine lv_iload hx hb dL_law_998 (lv_at hl 1 rfl) ?_
  refine lv_iconst (v := 2) hx hb dL_law_1000 (by decide) ?_
  refine lv_iadd hx hb dL_law_1001 ?_
  refine sld X0 hS (4 * j + 2) (by omega) (nI_add (4 * j) 2) dL_law_1002 ?_
  have hsM := AL_sub hS hA (ww_MD hD)
  refine goV_i (n := 2) (C := RX8) X (cM_busiest (a := b) e2) (gV kw1053 kw1054 kw1055 kw9 kw1056) (by decide +kernel) ⟨by omega, by omega⟩ (rcM hK (ww_MP hP)) (ww_MP hP) (ww_MD hD) hS rfl rfl hl.1 (Nat.le_of_ble_eq_true rfl) dL_law_1003 ⟨by omega, by omega⟩ (fun H locs hP1 hk hS => ?_)
  obtain ⟨hP, hD⟩ := ww_glM hP hD hk hsM hP1
  refine lv_istore (lv' := [(6, .int r), (5, .int res.1), (4, .int (nI (4 * j))), (0, .ref sb), (1, .ref (a 0)), (2, .ref (b 0)), (3, .ref o)]) hx hb dL_law_1006 hl (by decide) rfl (fun ls hl => ?_)
  refine lv_aload_n hx hb dL_law_1008 rfl (lv_at hl 5 rfl) ?_
  have hsM := AL_sub hS hA (ww_MD hD)
  refine goV_i (n := 0) (C := RX8) X (cM_thrown (a := b) e3) (gV kw868 kw869 kw870 kw9 kw871) (by decide +kernel) ⟨by omega, by omega⟩ (rcM hK (ww_MP hP)) (ww_MP hP) (ww_MD hD) hS rfl rfl hl.1 (Nat.le_of_ble_eq_true rfl) dL_law_1009 ⟨by omega, by omega⟩ (fun H locs hP1 hk hS => ?_)
  obtain ⟨hP, hD⟩ := ww_glM hP hD hk hsM hP1
  refine lv_iload hx hb dL_law_1012 (lv_at hl 1 rfl) ?_
  refine lv_icmp_eq (tgt := 1019) hx hb dL_law_1014 (by decide) (fun _ => ?_) (fun c => absurd rfl c)
  refine lv_iload hx hb dL_law_1019 (lv_at hl 1 rfl) ?_
  refine lv_if_ne (tgt := 1036) hx hb dL_law_1021 (by decide) (fun _ => ?_) (fun c0 => ?_)
  · refine lv_goto (tgt := 1175) hx hb dL_law_1036 (by decide) ?_
    refine W.widen (k := cells + 5) (n := slots + 10810) (by omega) (by omega) ?_
    exact kk a1 qm1 _ _ _ H locs ls ha hKK hP hD hS (lv_sub hl [2, 3, 4, 5, 6] rfl)
  · have e4 := e4 c0
    refine lv_aload_n hx hb dL_law_1024 rfl (lv_at hl 6 rfl) ?_
    refine lv_iconst (v := 0) hx hb dL_law_1025 (by decide) ?_
    refine outLd X hP dL_law_1026 ?_
    refine lv_iload hx hb dL_law_1027 (lv_at hl 0 rfl) ?_
    refine lv_i2l (v := r.toInt64) hx hb dL_law_1029 rfl ?_
    refine W.lcmp hx hb dL_law_1030 ?_
    refine lv_if_eq (tgt := 1036) hx hb dL_law_1031 (by decide) (fun _ => ?_) (fun c => absurd (cmp0 e4) c)
    refine lv_goto (tgt := 1175) hx hb dL_law_1036 (by decide) ?_
    refine W.widen (k := cells + 5) (n := slots + 10810) (by omega) (by omega) ?_
    exact kk a1 qm1 _ _ _ H locs ls ha hKK hP hD hS (lv_sub hl [2, 3, 4, 5, 6] rfl)

set_option maxHeartbeats 4000000 in
set_option maxRecDepth 100000 in
theorem lawC_quiet {p : Program} {l : Launch} {e : Env} {R : Room} {s : State} {m : MethodId} {args : Array Value} {below : List Frame} {meth : Method} {c : Code} {H : Heap} {locs : List Loc} {cells slots : Nat} {Q : State → Prop} {G : Ev} {ls : Array Slot} {b a : Nat → Nat} {qm : Pc3} {z q : Pc4} {o : Nat} {f : Nat → Int64} {sb L : Nat} {xs : Nat → Int32} {n j : Nat} {K : Pc3 → Pc4 → Pc4 → (Nat → Int64) → Prop} (X0 : LX p l s m args meth c G sb L xs) (hj : 4 * j + 4 ≤ L) (hRf : 14 ≤ R.frames) (hRl : 532 ≤ R.locals) (hRc : cells + 5 ≤ R.cells) (hRs : slots + 10810 ≤ R.slots) (hsk : SK_quiet n qm z q f (xs (4 * j + 1)) (xs (4 * j + 2)) K) (hP : va_P (DD G) vwCl (WW G b qm a z q o f) H) (hD : va_D (lA s) (WW G b qm a z q o f)) (hS : va_S (lA s) s.heap H locs) (hl : lv_has ls 8 [(4, .int (nI (4 * j))), (0, .ref sb), (1, .ref (a 0)), (2, .ref (b 0)), (3, .ref o)])
    (kk : ∀ (a1 : Nat → Nat) (qm' : Pc3) (z' q' : Pc4) (f' : Nat → Int64) (H : Heap) (locs : List Loc) (ls : Array Slot), a1 0 = a 0 → K qm' z' q' f' → va_P (DD G) vwCl (WW G b qm' a1 z' q' o f') H → va_D (lA s) (WW G b qm' a1 z' q' o f') → va_S (lA s) s.heap H locs → lv_has ls 8 [(4, .int (nI (4 * j))), (0, .ref sb), (1, .ref (a 0)), (2, .ref (b 0)), (3, .ref o)] → W p l e R s m args below meth c H locs (cells + 5) (slots + 10810) Q (F0 m 1175 ls [])) :
    W p l e R s m args below meth c H locs cells slots Q (F0 m 1039 ls []) := by
  obtain ⟨X, hX, hN, hsx, hsb, hst, hL⟩ := id X0
  obtain ⟨⟨hx, hb, hml, hown, hts⟩, hK, hr, hlk, hA, hAs, hSta⟩ := id X
  refine lv_aload_n hx hb dL_law_1039 rfl (lv_at hl 2 rfl) ?_
  refine lv_aload_n hx hb dL_law_1040 rfl (lv_at hl 1 rfl) ?_
  refine lv_iload hx hb dL_law_1041 (lv_at hl 0 rfl) ?_
  refine lv_iconst (v := 1) hx hb dL_law_1043 (by decide) ?_
  refine lv_iadd hx hb dL_law_1044 ?_
  refine sld X0 hS (4 * j + 1) (by omega) (nI_add (4 * j) 1) dL_law_1045 ?_
  refine lv_aload_n hx hb dL_law_1046 rfl (lv_at hl 1 rfl) ?_
  refine lv_iload hx hb dL_law_1047 (lv_at hl 0 rfl) ?_
  refine lv_iconst (v := 2) hx hb dL_law_1049 (by decide) ?_
  refine lv_iadd hx hb dL_law_1050 ?_
  refine sld X0 hS (4 * j + 2) (by omega) (nI_add (4 * j) 2) dL_law_1051 ?_
  refine lv_aload_n hx hb dL_law_1052 rfl (lv_at hl 4 rfl) ?_
  obtain ⟨res, r, qm1, e1, e2, e3, e4, hKK⟩ := hsk
  have hsL := AL_sub hS hA (va_D_pre hD)
  refine goW (n := 4) (a := a) X hX hN (cL_w_quiet (a := a) (o := o) hst e1) (gW kw753 kw754 kw0 kw755) (by decide +kernel) ⟨by omega, by omega⟩ (va_P_pre hP) (va_D_pre hD) hS rfl rfl hl.1 (Nat.le_of_ble_eq_true rfl) dL_law_1053 ⟨by omega, by omega⟩ (fun a1 H locs ha hP1 hD1 hk hS => ?_)
  obtain ⟨hP, hD⟩ := va_glue hP hD hk hsL hP1 hD1
  have hP : va_P (DD G) vwCl (WW G b qm a1 res.2.1 res.2.2.1 o res.2.2.2) H := hP
  have hD : va_D (lA s) (WW G b qm a1 res.2.1 res.2.2.1 o res.2.2.2) := hD
  refine lv_istore (lv' := [(5, .int res.1), (4, .int (nI (4 * j))), (0, .ref sb), (1, .ref (a 0)), (2, .ref (b 0)), (3, .ref o)]) hx hb dL_law_1056 hl (by decide) rfl (fun ls hl => ?_)
  refine lv_aload_n hx hb dL_law_1058 rfl (lv_at hl 4 rfl) ?_
  refine lv_aload_n hx hb dL_law_1059 rfl (lv_at hl 2 rfl) ?_
  refine lv_iload hx hb dL_law_1060 (lv_at hl 1 rfl) ?_
  refine lv_iconst (v := 1) hx hb dL_law_1062 (by decide) ?_
  refine lv_iadd hx hb dL_law_1063 ?_
  refine sld X0 hS (4 * j + 1) (by omega) (nI_add (4 * j) 1) dL_law_1064 ?_
  refine lv_aload_n hx hb dL_law_1065 rfl (lv_at hl 2 rfl) ?_
  refine lv_iload hx hb dL_law_1066 (lv_at hl 1 rfl) ?_
  refine lv_iconst (v := 2) hx hb dL_law_1068 (by decide) ?_
  refine lv_iadd hx hb dL_law_1069 ?_
  refine sld X0 hS (4 * j + 2) (by omega) (nI_add (4 * j) 2) dL_law_1070 ?_
  have hsM := AL_sub hS hA (ww_MD hD)
  refine goV_i (n := 2) (C := RX8) X (cM_quiet (a := b) e2) (gV kw1061 kw1062 kw1063 kw9 kw1064) (by decide +kernel) ⟨by omega, by omega⟩ (rcM hK (ww_MP hP)) (ww_MP hP) (ww_MD hD) hS rfl rfl hl.1 (Nat.le_of_ble_eq_true rfl) dL_law_1071 ⟨by omega, by omega⟩ (fun H locs hP1 hk hS => ?_)
  obtain ⟨hP, hD⟩ := ww_glM hP hD hk hsM hP1
  refine lv_istore (lv' := [(6, .int r), (5, .int res.1), (4, .int (nI (4 * j))), (0, .ref sb), (1, .ref (a 0)), (2, .ref (b 0)), (3, .ref o)]) hx hb dL_law_1074 hl (by decide) rfl (fun ls hl => ?_)
  refine lv_aload_n hx hb dL_law_1076 rfl (lv_at hl 5 rfl) ?_
  have hsM := AL_sub hS hA (ww_MD hD)
  refine goV_i (n := 0) (C := RX8) X (cM_thrown (a := b) e3) (gV kw868 kw869 kw870 kw9 kw871) (by decide +kernel) ⟨by omega, by omega⟩ (rcM hK (ww_MP hP)) (ww_MP hP) (ww_MD hD) hS rfl rfl hl.1 (Nat.le_of_ble_eq_true rfl) dL_law_1077 ⟨by omega, by omega⟩ (fun H locs hP1 hk hS => ?_)
  obtain ⟨hP, hD⟩ := ww_glM hP hD hk hsM hP1
  refine lv_iload hx hb dL_law_1080 (lv_at hl 1 rfl) ?_
  refine lv_icmp_eq (tgt := 1087) hx hb dL_law_1082 (by decide) (fun _ => ?_) (fun c => absurd rfl c)
  refine lv_iload hx hb dL_law_1087 (lv_at hl 1 rfl) ?_
  refine lv_if_ne (tgt := 1104) hx hb dL_law_1089 (by decide) (fun _ => ?_) (fun c0 => ?_)
  · refine lv_goto (tgt := 1175) hx hb dL_law_1104 (by decide) ?_
    refine W.widen (k := cells + 5) (n := slots + 10810) (by omega) (by omega) ?_
    exact kk a1 qm1 _ _ _ H locs ls ha hKK hP hD hS (lv_sub hl [2, 3, 4, 5, 6] rfl)
  · have e4 := e4 c0
    refine lv_aload_n hx hb dL_law_1092 rfl (lv_at hl 6 rfl) ?_
    refine lv_iconst (v := 0) hx hb dL_law_1093 (by decide) ?_
    refine outLd X hP dL_law_1094 ?_
    refine lv_iload hx hb dL_law_1095 (lv_at hl 0 rfl) ?_
    refine lv_i2l (v := r.toInt64) hx hb dL_law_1097 rfl ?_
    refine W.lcmp hx hb dL_law_1098 ?_
    refine lv_if_eq (tgt := 1104) hx hb dL_law_1099 (by decide) (fun _ => ?_) (fun c => absurd (cmp0 e4) c)
    refine lv_goto (tgt := 1175) hx hb dL_law_1104 (by decide) ?_
    refine W.widen (k := cells + 5) (n := slots + 10810) (by omega) (by omega) ?_
    exact kk a1 qm1 _ _ _ H locs ls ha hKK hP hD hS (lv_sub hl [2, 3, 4, 5, 6] rfl)

set_option maxHeartbeats 4000000 in
set_option maxRecDepth 100000 in
theorem lawC_shifted {p : Program} {l : Launch} {e : Env} {R : Room} {s : State} {m : MethodId} {args : Array Value} {below : List Frame} {meth : Method} {c : Code} {H : Heap} {locs : List Loc} {cells slots : Nat} {Q : State → Prop} {G : Ev} {ls : Array Slot} {b a : Nat → Nat} {qm : Pc3} {z q : Pc4} {o : Nat} {f : Nat → Int64} {sb L : Nat} {xs : Nat → Int32} {n j : Nat} {K : Pc3 → Pc4 → Pc4 → (Nat → Int64) → Prop} (X0 : LX p l s m args meth c G sb L xs) (hj : 4 * j + 4 ≤ L) (hRf : 14 ≤ R.frames) (hRl : 532 ≤ R.locals) (hRc : cells + 5 ≤ R.cells) (hRs : slots + 10810 ≤ R.slots) (hsk : SK_shifted n qm z q f (xs (4 * j + 1)) (xs (4 * j + 2)) K) (hP : va_P (DD G) vwCl (WW G b qm a z q o f) H) (hD : va_D (lA s) (WW G b qm a z q o f)) (hS : va_S (lA s) s.heap H locs) (hl : lv_has ls 8 [(4, .int (nI (4 * j))), (0, .ref sb), (1, .ref (a 0)), (2, .ref (b 0)), (3, .ref o)])
    (kk : ∀ (a1 : Nat → Nat) (qm' : Pc3) (z' q' : Pc4) (f' : Nat → Int64) (H : Heap) (locs : List Loc) (ls : Array Slot), a1 0 = a 0 → K qm' z' q' f' → va_P (DD G) vwCl (WW G b qm' a1 z' q' o f') H → va_D (lA s) (WW G b qm' a1 z' q' o f') → va_S (lA s) s.heap H locs → lv_has ls 8 [(4, .int (nI (4 * j))), (0, .ref sb), (1, .ref (a 0)), (2, .ref (b 0)), (3, .ref o)] → W p l e R s m args below meth c H locs (cells + 5) (slots + 10810) Q (F0 m 1175 ls [])) :
    W p l e R s m args below meth c H locs cells slots Q (F0 m 1107 ls []) := by
  obtain ⟨X, hX, hN, hsx, hsb, hst, hL⟩ := id X0
  obtain ⟨⟨hx, hb, hml, hown, hts⟩, hK, hr, hlk, hA, hAs, hSta⟩ := id X
  refine lv_aload_n hx hb dL_law_1107 rfl (lv_at hl 2 rfl) ?_
  refine lv_aload_n hx hb dL_law_1108 rfl (lv_at hl 1 rfl) ?_
  refine lv_iload hx hb dL_law_1109 (lv_at hl 0 rfl) ?_
  refine lv_iconst (v := 1) hx hb dL_law_1111 (by decide) ?_
  refine lv_iadd hx hb dL_law_1112 ?_
  refine sld X0 hS (4 * j + 1) (by omega) (nI_add (4 * j) 1) dL_law_1113 ?_
  refine lv_aload_n hx hb dL_law_1114 rfl (lv_at hl 1 rfl) ?_
  refine lv_iload hx hb dL_law_1115 (lv_at hl 0 rfl) ?_
  refine lv_iconst (v := 2) hx hb dL_law_1117 (by decide) ?_
  refine lv_iadd hx hb dL_law_1118 ?_
  refine sld X0 hS (4 * j + 2) (by omega) (nI_add (4 * j) 2) dL_law_1119 ?_
  refine lv_aload_n hx hb dL_law_1120 rfl (lv_at hl 4 rfl) ?_
  obtain ⟨res, r, qm1, e1, e2, e3, e4, hKK⟩ := hsk
  have hsL := AL_sub hS hA (va_D_pre hD)
  refine goW (n := 4) (a := a) X hX hN (cL_w_shifted (a := a) (o := o) hst e1) (gW kw766 kw767 kw0 kw768) (by decide +kernel) ⟨by omega, by omega⟩ (va_P_pre hP) (va_D_pre hD) hS rfl rfl hl.1 (Nat.le_of_ble_eq_true rfl) dL_law_1121 ⟨by omega, by omega⟩ (fun a1 H locs ha hP1 hD1 hk hS => ?_)
  obtain ⟨hP, hD⟩ := va_glue hP hD hk hsL hP1 hD1
  have hP : va_P (DD G) vwCl (WW G b qm a1 res.2.1 res.2.2.1 o res.2.2.2) H := hP
  have hD : va_D (lA s) (WW G b qm a1 res.2.1 res.2.2.1 o res.2.2.2) := hD
  refine lv_istore (lv' := [(5, .int res.1), (4, .int (nI (4 * j))), (0, .ref sb), (1, .ref (a 0)), (2, .ref (b 0)), (3, .ref o)]) hx hb dL_law_1124 hl (by decide) rfl (fun ls hl => ?_)
  refine lv_aload_n hx hb dL_law_1126 rfl (lv_at hl 4 rfl) ?_
  refine lv_aload_n hx hb dL_law_1127 rfl (lv_at hl 2 rfl) ?_
  refine lv_iload hx hb dL_law_1128 (lv_at hl 1 rfl) ?_
  refine lv_iconst (v := 1) hx hb dL_law_1130 (by decide) ?_
  refine lv_iadd hx hb dL_law_1131 ?_
  refine sld X0 hS (4 * j + 1) (by omega) (nI_add (4 * j) 1) dL_law_1132 ?_
  refine lv_aload_n hx hb dL_law_1133 rfl (lv_at hl 2 rfl) ?_
  refine lv_iload hx hb dL_law_1134 (lv_at hl 1 rfl) ?_
  refine lv_iconst (v := 2) hx hb dL_law_1136 (by decide) ?_
  refine lv_iadd hx hb dL_law_1137 ?_
  refine sld X0 hS (4 * j + 2) (by omega) (nI_add (4 * j) 2) dL_law_1138 ?_
  have hsM := AL_sub hS hA (ww_MD hD)
  refine goV_i (n := 2) (C := RX8) X (cM_shifted (a := b) e2) (gV kw1065 kw1066 kw1067 kw9 kw1068) (by decide +kernel) ⟨by omega, by omega⟩ (rcM hK (ww_MP hP)) (ww_MP hP) (ww_MD hD) hS rfl rfl hl.1 (Nat.le_of_ble_eq_true rfl) dL_law_1139 ⟨by omega, by omega⟩ (fun H locs hP1 hk hS => ?_)
  obtain ⟨hP, hD⟩ := ww_glM hP hD hk hsM hP1
  refine lv_istore (lv' := [(6, .int r), (5, .int res.1), (4, .int (nI (4 * j))), (0, .ref sb), (1, .ref (a 0)), (2, .ref (b 0)), (3, .ref o)]) hx hb dL_law_1142 hl (by decide) rfl (fun ls hl => ?_)
  refine lv_aload_n hx hb dL_law_1144 rfl (lv_at hl 5 rfl) ?_
  have hsM := AL_sub hS hA (ww_MD hD)
  refine goV_i (n := 0) (C := RX8) X (cM_thrown (a := b) e3) (gV kw868 kw869 kw870 kw9 kw871) (by decide +kernel) ⟨by omega, by omega⟩ (rcM hK (ww_MP hP)) (ww_MP hP) (ww_MD hD) hS rfl rfl hl.1 (Nat.le_of_ble_eq_true rfl) dL_law_1145 ⟨by omega, by omega⟩ (fun H locs hP1 hk hS => ?_)
  obtain ⟨hP, hD⟩ := ww_glM hP hD hk hsM hP1
  refine lv_iload hx hb dL_law_1148 (lv_at hl 1 rfl) ?_
  refine lv_icmp_eq (tgt := 1155) hx hb dL_law_1150 (by decide) (fun _ => ?_) (fun c => absurd rfl c)
  refine lv_iload hx hb dL_law_1155 (lv_at hl 1 rfl) ?_
  refine lv_if_ne (tgt := 1172) hx hb dL_law_1157 (by decide) (fun _ => ?_) (fun c0 => ?_)
  · refine lv_goto (tgt := 1175) hx hb dL_law_1172 (by decide) ?_
    refine W.widen (k := cells + 5) (n := slots + 10810) (by omega) (by omega) ?_
    exact kk a1 qm1 _ _ _ H locs ls ha hKK hP hD hS (lv_sub hl [2, 3, 4, 5, 6] rfl)
  · have e4 := e4 c0
    refine lv_aload_n hx hb dL_law_1160 rfl (lv_at hl 6 rfl) ?_
    refine lv_iconst (v := 0) hx hb dL_law_1161 (by decide) ?_
    refine outLd X hP dL_law_1162 ?_
    refine lv_iload hx hb dL_law_1163 (lv_at hl 0 rfl) ?_
    refine lv_i2l (v := r.toInt64) hx hb dL_law_1165 rfl ?_
    refine W.lcmp hx hb dL_law_1166 ?_
    refine lv_if_eq (tgt := 1172) hx hb dL_law_1167 (by decide) (fun _ => ?_) (fun c => absurd (cmp0 e4) c)
    refine lv_goto (tgt := 1175) hx hb dL_law_1172 (by decide) ?_
    refine W.widen (k := cells + 5) (n := slots + 10810) (by omega) (by omega) ?_
    exact kk a1 qm1 _ _ _ H locs ls ha hKK hP hD hS (lv_sub hl [2, 3, 4, 5, 6] rfl)
