theorem kw9 : Cond.initialized "RuledCalendarModel" ∈ big := mb 9 (by decide +kernel) (by decide +kernel)
theorem kw779 : Cond.constant "RuledCalendarModel" 7 109573 ∈ big := mb 779 (by decide +kernel) (by decide +kernel)
theorem kw781 : Cond.methodLink "RuledCalendarModel" 60 ({ cls := "RuledCalendarModel", name := "monthLength", desc := "(II)I" } : MethodName) ∈ big := mb 781 (by decide +kernel) (by decide +kernel)
theorem kw783 : Cond.instanceMethod ({ cls := "RuledCalendarModel", name := "monthLength", desc := "(II)I" } : MethodName) ∈ big := mb 783 (by decide +kernel) (by decide +kernel)
set_option maxRecDepth 20000 in
theorem kw784 : Cond.code yX8_monthLength cX8_monthLength 3 (some .int) ∈ big := mb 784 rfl (by decide +kernel)
theorem kw785 : Cond.methodLink "RuledCalendarModel" 67 ({ cls := "RuledCalendarModel", name := "isLeap", desc := "(I)Z" } : MethodName) ∈ big := mb 785 (by decide +kernel) (by decide +kernel)
theorem kw786 : Cond.static ({ cls := "RuledCalendarModel", name := "isLeap", desc := "(I)Z" } : MethodName) ∈ big := mb 786 (by decide +kernel) (by decide +kernel)
set_option maxRecDepth 20000 in
theorem kw787 : Cond.code yX8_isLeap cX8_isLeap 1 (some .boolean) ∈ big := mb 787 rfl (by decide +kernel)
theorem kw788 : Cond.fieldLink "RuledCalendarModel" 64 "RuledCalendarModel" "thrown" "I" ∈ big := mb 788 (by decide +kernel) (by decide +kernel)
theorem kw789 : Cond.fieldLink "RuledCalendarModel" 8 "RuledCalendarModel" "dates" "[I" ∈ big := mb 789 (by decide +kernel) (by decide +kernel)
theorem kw790 : Cond.fieldLink "RuledCalendarModel" 14 "RuledCalendarModel" "lengths" "[I" ∈ big := mb 790 (by decide +kernel) (by decide +kernel)
theorem kw791 : Cond.fieldLink "RuledCalendarModel" 17 "RuledCalendarModel" "text" "[I" ∈ big := mb 791 (by decide +kernel) (by decide +kernel)
theorem kw792 : Cond.fieldLink "RuledCalendarModel" 81 "RuledCalendarModel" "size" "I" ∈ big := mb 792 (by decide +kernel) (by decide +kernel)
theorem kw793 : Cond.fieldLink "RuledCalendarModel" 86 "RuledCalendarModel" "fault" "I" ∈ big := mb 793 (by decide +kernel) (by decide +kernel)
theorem kw794 : Cond.fieldLink "RuledCalendarModel" 20 "RuledCalendarModel" "place" "I" ∈ big := mb 794 (by decide +kernel) (by decide +kernel)
theorem kw795 : Cond.fieldLink "RuledCalendarModel" 107 "RuledCalendarModel" "at" "I" ∈ big := mb 795 (by decide +kernel) (by decide +kernel)
theorem kw796 : Cond.fieldLink "RuledCalendarModel" 24 "RuledCalendarModel" "has" "[Z" ∈ big := mb 796 (by decide +kernel) (by decide +kernel)
theorem kw797 : Cond.fieldLink "RuledCalendarModel" 71 "RuledCalendarModel" "freq" "I" ∈ big := mb 797 (by decide +kernel) (by decide +kernel)
theorem kw798 : Cond.fieldLink "RuledCalendarModel" 154 "RuledCalendarModel" "interval" "I" ∈ big := mb 798 (by decide +kernel) (by decide +kernel)
theorem kw799 : Cond.fieldLink "RuledCalendarModel" 157 "RuledCalendarModel" "count" "I" ∈ big := mb 799 (by decide +kernel) (by decide +kernel)
theorem kw800 : Cond.fieldLink "RuledCalendarModel" 130 "RuledCalendarModel" "until" "I" ∈ big := mb 800 (by decide +kernel) (by decide +kernel)
theorem kw801 : Cond.fieldLink "RuledCalendarModel" 28 "RuledCalendarModel" "months" "[Z" ∈ big := mb 801 (by decide +kernel) (by decide +kernel)
theorem kw802 : Cond.fieldLink "RuledCalendarModel" 31 "RuledCalendarModel" "monthDays" "[Z" ∈ big := mb 802 (by decide +kernel) (by decide +kernel)
theorem kw803 : Cond.fieldLink "RuledCalendarModel" 34 "RuledCalendarModel" "places" "[Z" ∈ big := mb 803 (by decide +kernel) (by decide +kernel)
theorem kw804 : Cond.fieldLink "RuledCalendarModel" 37 "RuledCalendarModel" "weekdays" "[Z" ∈ big := mb 804 (by decide +kernel) (by decide +kernel)
theorem kw805 : Cond.fieldLink "RuledCalendarModel" 133 "RuledCalendarModel" "numbered" "Z" ∈ big := mb 805 (by decide +kernel) (by decide +kernel)
theorem kw806 : Cond.fieldLink "RuledCalendarModel" 180 "RuledCalendarModel" "start" "I" ∈ big := mb 806 (by decide +kernel) (by decide +kernel)
theorem kw807 : Cond.fieldLink "RuledCalendarModel" 40 "RuledCalendarModel" "there" "[Z" ∈ big := mb 807 (by decide +kernel) (by decide +kernel)
theorem kw808 : Cond.fieldLink "RuledCalendarModel" 44 "RuledCalendarModel" "rule" "[I" ∈ big := mb 808 (by decide +kernel) (by decide +kernel)
theorem kw809 : Cond.fieldLink "RuledCalendarModel" 47 "RuledCalendarModel" "excepted" "[I" ∈ big := mb 809 (by decide +kernel) (by decide +kernel)
theorem kw810 : Cond.fieldLink "RuledCalendarModel" 50 "RuledCalendarModel" "added" "[I" ∈ big := mb 810 (by decide +kernel) (by decide +kernel)
theorem kw811 : Cond.fieldLink "RuledCalendarModel" 53 "RuledCalendarModel" "suiting" "[I" ∈ big := mb 811 (by decide +kernel) (by decide +kernel)
theorem kw812 : Cond.fieldLink "RuledCalendarModel" 56 "RuledCalendarModel" "items" "[J" ∈ big := mb 812 (by decide +kernel) (by decide +kernel)
theorem kw813 : Cond.fieldLink "RuledCalendarModel" 216 "RuledCalendarModel" "listed" "I" ∈ big := mb 813 (by decide +kernel) (by decide +kernel)
theorem kw876 : Cond.constantLong "RuledCalendarModel" 84 (255 : Int64) ∈ big := mb 876 (by decide +kernel) (by decide +kernel)
theorem kw885 : Cond.methodLink "RuledCalendarModel" 127 ({ cls := "RuledCalendarModel", name := "dayOf", desc := "(I)I" } : MethodName) ∈ big := mb 885 (by decide +kernel) (by decide +kernel)
theorem kw887 : Cond.instanceMethod ({ cls := "RuledCalendarModel", name := "dayOf", desc := "(I)I" } : MethodName) ∈ big := mb 887 (by decide +kernel) (by decide +kernel)
set_option maxRecDepth 20000 in
theorem kw888 : Cond.code yX8_dayOf cX8_dayOf 5 (some .int) ∈ big := mb 888 rfl (by decide +kernel)
theorem kw889 : Cond.methodLink "RuledCalendarModel" 199 ({ cls := "RuledCalendarModel", name := "readRule", desc := "()V" } : MethodName) ∈ big := mb 889 (by decide +kernel) (by decide +kernel)
theorem kw891 : Cond.instanceMethod ({ cls := "RuledCalendarModel", name := "readRule", desc := "()V" } : MethodName) ∈ big := mb 891 (by decide +kernel) (by decide +kernel)
set_option maxRecDepth 20000 in
theorem kw892 : Cond.code yX8_readRule cX8_readRule 3 none ∈ big := mb 892 rfl (by decide +kernel)
theorem kw893 : Cond.methodLink "RuledCalendarModel" 174 ({ cls := "RuledCalendarModel", name := "forget", desc := "()V" } : MethodName) ∈ big := mb 893 (by decide +kernel) (by decide +kernel)
theorem kw895 : Cond.instanceMethod ({ cls := "RuledCalendarModel", name := "forget", desc := "()V" } : MethodName) ∈ big := mb 895 (by decide +kernel) (by decide +kernel)
set_option maxRecDepth 20000 in
theorem kw896 : Cond.code yX8_forget cX8_forget 2 none ∈ big := mb 896 rfl (by decide +kernel)
theorem kw897 : Cond.constant "RuledCalendarModel" 173 1000000 ∈ big := mb 897 (by decide +kernel) (by decide +kernel)
theorem kw898 : Cond.methodLink "RuledCalendarModel" 177 ({ cls := "RuledCalendarModel", name := "part", desc := "()V" } : MethodName) ∈ big := mb 898 (by decide +kernel) (by decide +kernel)
theorem kw900 : Cond.instanceMethod ({ cls := "RuledCalendarModel", name := "part", desc := "()V" } : MethodName) ∈ big := mb 900 (by decide +kernel) (by decide +kernel)
set_option maxRecDepth 20000 in
theorem kw901 : Cond.code yX8_part cX8_part 3 none ∈ big := mb 901 rfl (by decide +kernel)
theorem kw902 : Cond.methodLink "RuledCalendarModel" 143 ({ cls := "RuledCalendarModel", name := "capitals", desc := "(I)I" } : MethodName) ∈ big := mb 902 (by decide +kernel) (by decide +kernel)
theorem kw904 : Cond.instanceMethod ({ cls := "RuledCalendarModel", name := "capitals", desc := "(I)I" } : MethodName) ∈ big := mb 904 (by decide +kernel) (by decide +kernel)
set_option maxRecDepth 20000 in
theorem kw905 : Cond.code yX8_capitals cX8_capitals 3 (some .int) ∈ big := mb 905 rfl (by decide +kernel)
theorem kw906 : Cond.methodLink "RuledCalendarModel" 89 ({ cls := "RuledCalendarModel", name := "byteAt", desc := "(I)I" } : MethodName) ∈ big := mb 906 (by decide +kernel) (by decide +kernel)
theorem kw908 : Cond.instanceMethod ({ cls := "RuledCalendarModel", name := "byteAt", desc := "(I)I" } : MethodName) ∈ big := mb 908 (by decide +kernel) (by decide +kernel)
set_option maxRecDepth 20000 in
theorem kw909 : Cond.code yX8_byteAt cX8_byteAt 2 (some .int) ∈ big := mb 909 rfl (by decide +kernel)
theorem kw910 : Cond.methodLink "RuledCalendarModel" 92 ({ cls := "RuledCalendarModel", name := "isCapital", desc := "(I)Z" } : MethodName) ∈ big := mb 910 (by decide +kernel) (by decide +kernel)
theorem kw911 : Cond.static ({ cls := "RuledCalendarModel", name := "isCapital", desc := "(I)Z" } : MethodName) ∈ big := mb 911 (by decide +kernel) (by decide +kernel)
set_option maxRecDepth 20000 in
theorem kw912 : Cond.code yX8_isCapital cX8_isCapital 1 (some .boolean) ∈ big := mb 912 rfl (by decide +kernel)
theorem kw913 : Cond.methodLink "RuledCalendarModel" 146 ({ cls := "RuledCalendarModel", name := "lettersAt", desc := "(I)J" } : MethodName) ∈ big := mb 913 (by decide +kernel) (by decide +kernel)
theorem kw915 : Cond.instanceMethod ({ cls := "RuledCalendarModel", name := "lettersAt", desc := "(I)J" } : MethodName) ∈ big := mb 915 (by decide +kernel) (by decide +kernel)
set_option maxRecDepth 20000 in
theorem kw916 : Cond.code yX8_lettersAt cX8_lettersAt 5 (some .long) ∈ big := mb 916 rfl (by decide +kernel)
theorem kw917 : Cond.methodLink "RuledCalendarModel" 167 ({ cls := "RuledCalendarModel", name := "nameOf", desc := "(JI)I" } : MethodName) ∈ big := mb 917 (by decide +kernel) (by decide +kernel)
theorem kw918 : Cond.static ({ cls := "RuledCalendarModel", name := "nameOf", desc := "(JI)I" } : MethodName) ∈ big := mb 918 (by decide +kernel) (by decide +kernel)
set_option maxRecDepth 20000 in
theorem kw919 : Cond.code yX8_nameOf cX8_nameOf 19 (some .int) ∈ big := mb 919 rfl (by decide +kernel)
theorem kw920 : Cond.methodLink "RuledCalendarModel" 97 ({ cls := "RuledCalendarModel", name := "word", desc := "(IIII)J" } : MethodName) ∈ big := mb 920 (by decide +kernel) (by decide +kernel)
theorem kw921 : Cond.static ({ cls := "RuledCalendarModel", name := "word", desc := "(IIII)J" } : MethodName) ∈ big := mb 921 (by decide +kernel) (by decide +kernel)
set_option maxRecDepth 20000 in
theorem kw922 : Cond.code yX8_word cX8_word 4 (some .long) ∈ big := mb 922 rfl (by decide +kernel)
theorem kw923 : Cond.constantLong "RuledCalendarModel" 95 (1048575 : Int64) ∈ big := mb 923 (by decide +kernel) (by decide +kernel)
theorem kw924 : Cond.constantLong "RuledCalendarModel" 101 (20 : Int64) ∈ big := mb 924 (by decide +kernel) (by decide +kernel)
theorem kw925 : Cond.constantLong "RuledCalendarModel" 103 (12 : Int64) ∈ big := mb 925 (by decide +kernel) (by decide +kernel)
theorem kw926 : Cond.constantLong "RuledCalendarModel" 105 (25 : Int64) ∈ big := mb 926 (by decide +kernel) (by decide +kernel)
theorem kw927 : Cond.methodLink "RuledCalendarModel" 113 ({ cls := "RuledCalendarModel", name := "fail", desc := "(II)V" } : MethodName) ∈ big := mb 927 (by decide +kernel) (by decide +kernel)
theorem kw929 : Cond.instanceMethod ({ cls := "RuledCalendarModel", name := "fail", desc := "(II)V" } : MethodName) ∈ big := mb 929 (by decide +kernel) (by decide +kernel)
set_option maxRecDepth 20000 in
theorem kw930 : Cond.code yX8_fail cX8_fail 3 none ∈ big := mb 930 rfl (by decide +kernel)
theorem kw931 : Cond.methodLink "RuledCalendarModel" 170 ({ cls := "RuledCalendarModel", name := "value", desc := "(I)V" } : MethodName) ∈ big := mb 931 (by decide +kernel) (by decide +kernel)
theorem kw933 : Cond.instanceMethod ({ cls := "RuledCalendarModel", name := "value", desc := "(I)V" } : MethodName) ∈ big := mb 933 (by decide +kernel) (by decide +kernel)
set_option maxRecDepth 20000 in
theorem kw934 : Cond.code yX8_value cX8_value 3 none ∈ big := mb 934 rfl (by decide +kernel)
theorem kw935 : Cond.methodLink "RuledCalendarModel" 150 ({ cls := "RuledCalendarModel", name := "freqOf", desc := "(JI)I" } : MethodName) ∈ big := mb 935 (by decide +kernel) (by decide +kernel)
theorem kw936 : Cond.static ({ cls := "RuledCalendarModel", name := "freqOf", desc := "(JI)I" } : MethodName) ∈ big := mb 936 (by decide +kernel) (by decide +kernel)
set_option maxRecDepth 20000 in
theorem kw937 : Cond.code yX8_freqOf cX8_freqOf 11 (some .int) ∈ big := mb 937 rfl (by decide +kernel)
theorem kw938 : Cond.methodLink "RuledCalendarModel" 124 ({ cls := "RuledCalendarModel", name := "number", desc := "(II)I" } : MethodName) ∈ big := mb 938 (by decide +kernel) (by decide +kernel)
theorem kw940 : Cond.instanceMethod ({ cls := "RuledCalendarModel", name := "number", desc := "(II)I" } : MethodName) ∈ big := mb 940 (by decide +kernel) (by decide +kernel)
set_option maxRecDepth 20000 in
theorem kw941 : Cond.code yX8_number cX8_number 7 (some .int) ∈ big := mb 941 rfl (by decide +kernel)
theorem kw942 : Cond.methodLink "RuledCalendarModel" 110 ({ cls := "RuledCalendarModel", name := "isFigure", desc := "(I)Z" } : MethodName) ∈ big := mb 942 (by decide +kernel) (by decide +kernel)
theorem kw943 : Cond.static ({ cls := "RuledCalendarModel", name := "isFigure", desc := "(I)Z" } : MethodName) ∈ big := mb 943 (by decide +kernel) (by decide +kernel)
set_option maxRecDepth 20000 in
theorem kw944 : Cond.code yX8_isFigure cX8_isFigure 1 (some .boolean) ∈ big := mb 944 rfl (by decide +kernel)
theorem kw945 : Cond.constantLong "RuledCalendarModel" 117 (10 : Int64) ∈ big := mb 945 (by decide +kernel) (by decide +kernel)
theorem kw946 : Cond.constantLong "RuledCalendarModel" 119 (48 : Int64) ∈ big := mb 946 (by decide +kernel) (by decide +kernel)
theorem kw947 : Cond.constantLong "RuledCalendarModel" 121 (99999999 : Int64) ∈ big := mb 947 (by decide +kernel) (by decide +kernel)
theorem kw948 : Cond.methodLink "RuledCalendarModel" 160 ({ cls := "RuledCalendarModel", name := "untilDate", desc := "()V" } : MethodName) ∈ big := mb 948 (by decide +kernel) (by decide +kernel)
theorem kw950 : Cond.instanceMethod ({ cls := "RuledCalendarModel", name := "untilDate", desc := "()V" } : MethodName) ∈ big := mb 950 (by decide +kernel) (by decide +kernel)
set_option maxRecDepth 20000 in
theorem kw951 : Cond.code yX8_untilDate cX8_untilDate 2 none ∈ big := mb 951 rfl (by decide +kernel)
theorem kw952 : Cond.constant "RuledCalendarModel" 123 99999999 ∈ big := mb 952 (by decide +kernel) (by decide +kernel)
theorem kw953 : Cond.methodLink "RuledCalendarModel" 163 ({ cls := "RuledCalendarModel", name := "oneItem", desc := "(I)V" } : MethodName) ∈ big := mb 953 (by decide +kernel) (by decide +kernel)
theorem kw955 : Cond.instanceMethod ({ cls := "RuledCalendarModel", name := "oneItem", desc := "(I)V" } : MethodName) ∈ big := mb 955 (by decide +kernel) (by decide +kernel)
set_option maxRecDepth 20000 in
theorem kw956 : Cond.code yX8_oneItem cX8_oneItem 3 none ∈ big := mb 956 rfl (by decide +kernel)
theorem kw957 : Cond.methodLink "RuledCalendarModel" 140 ({ cls := "RuledCalendarModel", name := "dayItem", desc := "()V" } : MethodName) ∈ big := mb 957 (by decide +kernel) (by decide +kernel)
theorem kw959 : Cond.instanceMethod ({ cls := "RuledCalendarModel", name := "dayItem", desc := "()V" } : MethodName) ∈ big := mb 959 (by decide +kernel) (by decide +kernel)
set_option maxRecDepth 20000 in
theorem kw960 : Cond.code yX8_dayItem cX8_dayItem 5 none ∈ big := mb 960 rfl (by decide +kernel)
theorem kw961 : Cond.methodLink "RuledCalendarModel" 137 ({ cls := "RuledCalendarModel", name := "weekday", desc := "(II)I" } : MethodName) ∈ big := mb 961 (by decide +kernel) (by decide +kernel)
theorem kw962 : Cond.static ({ cls := "RuledCalendarModel", name := "weekday", desc := "(II)I" } : MethodName) ∈ big := mb 962 (by decide +kernel) (by decide +kernel)
set_option maxRecDepth 20000 in
theorem kw963 : Cond.code yX8_weekday cX8_weekday 3 (some .int) ∈ big := mb 963 rfl (by decide +kernel)
theorem kw964 : Cond.methodLink "RuledCalendarModel" 202 ({ cls := "RuledCalendarModel", name := "makeAll", desc := "(I)V" } : MethodName) ∈ big := mb 964 (by decide +kernel) (by decide +kernel)
theorem kw966 : Cond.instanceMethod ({ cls := "RuledCalendarModel", name := "makeAll", desc := "(I)V" } : MethodName) ∈ big := mb 966 (by decide +kernel) (by decide +kernel)
set_option maxRecDepth 20000 in
theorem kw967 : Cond.code yX8_makeAll cX8_makeAll 9 none ∈ big := mb 967 rfl (by decide +kernel)
theorem kw968 : Cond.methodLink "RuledCalendarModel" 189 ({ cls := "RuledCalendarModel", name := "periodOf", desc := "(I)I" } : MethodName) ∈ big := mb 968 (by decide +kernel) (by decide +kernel)
theorem kw970 : Cond.instanceMethod ({ cls := "RuledCalendarModel", name := "periodOf", desc := "(I)I" } : MethodName) ∈ big := mb 970 (by decide +kernel) (by decide +kernel)
set_option maxRecDepth 20000 in
theorem kw971 : Cond.code yX8_periodOf cX8_periodOf 2 (some .int) ∈ big := mb 971 rfl (by decide +kernel)
theorem kw972 : Cond.methodLink "RuledCalendarModel" 74 ({ cls := "RuledCalendarModel", name := "yearOf", desc := "(I)I" } : MethodName) ∈ big := mb 972 (by decide +kernel) (by decide +kernel)
theorem kw974 : Cond.instanceMethod ({ cls := "RuledCalendarModel", name := "yearOf", desc := "(I)I" } : MethodName) ∈ big := mb 974 (by decide +kernel) (by decide +kernel)
set_option maxRecDepth 20000 in
theorem kw975 : Cond.code yX8_yearOf cX8_yearOf 2 (some .int) ∈ big := mb 975 rfl (by decide +kernel)
theorem kw976 : Cond.methodLink "RuledCalendarModel" 78 ({ cls := "RuledCalendarModel", name := "monthOf", desc := "(I)I" } : MethodName) ∈ big := mb 976 (by decide +kernel) (by decide +kernel)
theorem kw978 : Cond.instanceMethod ({ cls := "RuledCalendarModel", name := "monthOf", desc := "(I)I" } : MethodName) ∈ big := mb 978 (by decide +kernel) (by decide +kernel)
set_option maxRecDepth 20000 in
theorem kw979 : Cond.code yX8_monthOf cX8_monthOf 2 (some .int) ∈ big := mb 979 rfl (by decide +kernel)
theorem kw980 : Cond.methodLink "RuledCalendarModel" 192 ({ cls := "RuledCalendarModel", name := "suits", desc := "(I)Z" } : MethodName) ∈ big := mb 980 (by decide +kernel) (by decide +kernel)
theorem kw982 : Cond.instanceMethod ({ cls := "RuledCalendarModel", name := "suits", desc := "(I)Z" } : MethodName) ∈ big := mb 982 (by decide +kernel) (by decide +kernel)
set_option maxRecDepth 20000 in
theorem kw983 : Cond.code yX8_suits cX8_suits 5 (some .boolean) ∈ big := mb 983 rfl (by decide +kernel)
theorem kw984 : Cond.methodLink "RuledCalendarModel" 183 ({ cls := "RuledCalendarModel", name := "monthDayOf", desc := "(I)I" } : MethodName) ∈ big := mb 984 (by decide +kernel) (by decide +kernel)
theorem kw986 : Cond.instanceMethod ({ cls := "RuledCalendarModel", name := "monthDayOf", desc := "(I)I" } : MethodName) ∈ big := mb 986 (by decide +kernel) (by decide +kernel)
set_option maxRecDepth 20000 in
theorem kw987 : Cond.code yX8_monthDayOf cX8_monthDayOf 2 (some .int) ∈ big := mb 987 rfl (by decide +kernel)
theorem kw988 : Cond.methodLink "RuledCalendarModel" 186 ({ cls := "RuledCalendarModel", name := "hasNumberedWeekday", desc := "(I)Z" } : MethodName) ∈ big := mb 988 (by decide +kernel) (by decide +kernel)
theorem kw990 : Cond.instanceMethod ({ cls := "RuledCalendarModel", name := "hasNumberedWeekday", desc := "(I)Z" } : MethodName) ∈ big := mb 990 (by decide +kernel) (by decide +kernel)
set_option maxRecDepth 20000 in
theorem kw991 : Cond.code yX8_hasNumberedWeekday cX8_hasNumberedWeekday 8 (some .boolean) ∈ big := mb 991 rfl (by decide +kernel)
theorem kw992 : Cond.methodLink "RuledCalendarModel" 195 ({ cls := "RuledCalendarModel", name := "setBit", desc := "([IIIZ)V" } : MethodName) ∈ big := mb 992 (by decide +kernel) (by decide +kernel)
theorem kw994 : Cond.instanceMethod ({ cls := "RuledCalendarModel", name := "setBit", desc := "([IIIZ)V" } : MethodName) ∈ big := mb 994 (by decide +kernel) (by decide +kernel)
set_option maxRecDepth 20000 in
theorem kw995 : Cond.code yX8_setBit cX8_setBit 6 none ∈ big := mb 995 rfl (by decide +kernel)
theorem kw1008 : Cond.methodLink "RuledCalendarModel" 205 ({ cls := "RuledCalendarModel", name := "noThing", desc := "(I)Z" } : MethodName) ∈ big := mb 1008 (by decide +kernel) (by decide +kernel)
theorem kw1010 : Cond.instanceMethod ({ cls := "RuledCalendarModel", name := "noThing", desc := "(I)Z" } : MethodName) ∈ big := mb 1010 (by decide +kernel) (by decide +kernel)
set_option maxRecDepth 20000 in
theorem kw1011 : Cond.code yX8_noThing cX8_noThing 2 (some .boolean) ∈ big := mb 1011 rfl (by decide +kernel)
theorem kw1016 : Cond.methodLink "RuledCalendarModel" 208 ({ cls := "RuledCalendarModel", name := "hasBit", desc := "([III)Z" } : MethodName) ∈ big := mb 1016 (by decide +kernel) (by decide +kernel)
theorem kw1018 : Cond.instanceMethod ({ cls := "RuledCalendarModel", name := "hasBit", desc := "([III)Z" } : MethodName) ∈ big := mb 1018 (by decide +kernel) (by decide +kernel)
set_option maxRecDepth 20000 in
theorem kw1019 : Cond.code yX8_hasBit cX8_hasBit 4 (some .boolean) ∈ big := mb 1019 rfl (by decide +kernel)
theorem kw1028 : Cond.methodLink "RuledCalendarModel" 212 ({ cls := "RuledCalendarModel", name := "comesAt", desc := "(II)Z" } : MethodName) ∈ big := mb 1028 (by decide +kernel) (by decide +kernel)
theorem kw1030 : Cond.instanceMethod ({ cls := "RuledCalendarModel", name := "comesAt", desc := "(II)Z" } : MethodName) ∈ big := mb 1030 (by decide +kernel) (by decide +kernel)
set_option maxRecDepth 20000 in
theorem kw1031 : Cond.code yX8_comesAt cX8_comesAt 3 (some .boolean) ∈ big := mb 1031 rfl (by decide +kernel)
theorem kw1048 : Cond.constantLong "RuledCalendarModel" 219 (16 : Int64) ∈ big := mb 1048 (by decide +kernel) (by decide +kernel)
theorem kw1057 : Cond.methodLink "RuledCalendarModel" 221 ({ cls := "RuledCalendarModel", name := "manyAt", desc := "(I)I" } : MethodName) ∈ big := mb 1057 (by decide +kernel) (by decide +kernel)
theorem kw1059 : Cond.instanceMethod ({ cls := "RuledCalendarModel", name := "manyAt", desc := "(I)I" } : MethodName) ∈ big := mb 1059 (by decide +kernel) (by decide +kernel)
set_option maxRecDepth 20000 in
theorem kw1060 : Cond.code yX8_manyAt cX8_manyAt 4 (some .int) ∈ big := mb 1060 rfl (by decide +kernel)
theorem kw1069 : Cond.constantLong "RuledCalendarModel" 224 (109573 : Int64) ∈ big := mb 1069 (by decide +kernel) (by decide +kernel)
theorem ks_yX8_byteAt : Cond.selects RX8 yX8_byteAt yX8_byteAt ∈ big := mbs (by decide +kernel) (by decide +kernel)
theorem ks_yX8_capitals : Cond.selects RX8 yX8_capitals yX8_capitals ∈ big := mbs (by decide +kernel) (by decide +kernel)
theorem ks_yX8_comesAt : Cond.selects RX8 yX8_comesAt yX8_comesAt ∈ big := mbs (by decide +kernel) (by decide +kernel)
theorem ks_yX8_dayItem : Cond.selects RX8 yX8_dayItem yX8_dayItem ∈ big := mbs (by decide +kernel) (by decide +kernel)
theorem ks_yX8_dayOf : Cond.selects RX8 yX8_dayOf yX8_dayOf ∈ big := mbs (by decide +kernel) (by decide +kernel)
theorem ks_yX8_fail : Cond.selects RX8 yX8_fail yX8_fail ∈ big := mbs (by decide +kernel) (by decide +kernel)
theorem ks_yX8_forget : Cond.selects RX8 yX8_forget yX8_forget ∈ big := mbs (by decide +kernel) (by decide +kernel)
theorem ks_yX8_hasBit : Cond.selects RX8 yX8_hasBit yX8_hasBit ∈ big := mbs (by decide +kernel) (by decide +kernel)
theorem ks_yX8_hasNumberedWeekday : Cond.selects RX8 yX8_hasNumberedWeekday yX8_hasNumberedWeekday ∈ big := mbs (by decide +kernel) (by decide +kernel)
theorem ks_yX8_lettersAt : Cond.selects RX8 yX8_lettersAt yX8_lettersAt ∈ big := mbs (by decide +kernel) (by decide +kernel)
theorem ks_yX8_makeAll : Cond.selects RX8 yX8_makeAll yX8_makeAll ∈ big := mbs (by decide +kernel) (by decide +kernel)
theorem ks_yX8_manyAt : Cond.selects RX8 yX8_manyAt yX8_manyAt ∈ big := mbs (by decide +kernel) (by decide +kernel)
theorem ks_yX8_monthDayOf : Cond.selects RX8 yX8_monthDayOf yX8_monthDayOf ∈ big := mbs (by decide +kernel) (by decide +kernel)
theorem ks_yX8_monthLength : Cond.selects RX8 yX8_monthLength yX8_monthLength ∈ big := mbs (by decide +kernel) (by decide +kernel)
theorem ks_yX8_monthOf : Cond.selects RX8 yX8_monthOf yX8_monthOf ∈ big := mbs (by decide +kernel) (by decide +kernel)
theorem ks_yX8_noThing : Cond.selects RX8 yX8_noThing yX8_noThing ∈ big := mbs (by decide +kernel) (by decide +kernel)
theorem ks_yX8_number : Cond.selects RX8 yX8_number yX8_number ∈ big := mbs (by decide +kernel) (by decide +kernel)
theorem ks_yX8_oneItem : Cond.selects RX8 yX8_oneItem yX8_oneItem ∈ big := mbs (by decide +kernel) (by decide +kernel)
theorem ks_yX8_part : Cond.selects RX8 yX8_part yX8_part ∈ big := mbs (by decide +kernel) (by decide +kernel)
theorem ks_yX8_periodOf : Cond.selects RX8 yX8_periodOf yX8_periodOf ∈ big := mbs (by decide +kernel) (by decide +kernel)
theorem ks_yX8_readRule : Cond.selects RX8 yX8_readRule yX8_readRule ∈ big := mbs (by decide +kernel) (by decide +kernel)
theorem ks_yX8_setBit : Cond.selects RX8 yX8_setBit yX8_setBit ∈ big := mbs (by decide +kernel) (by decide +kernel)
theorem ks_yX8_suits : Cond.selects RX8 yX8_suits yX8_suits ∈ big := mbs (by decide +kernel) (by decide +kernel)
theorem ks_yX8_untilDate : Cond.selects RX8 yX8_untilDate yX8_untilDate ∈ big := mbs (by decide +kernel) (by decide +kernel)
theorem ks_yX8_value : Cond.selects RX8 yX8_value yX8_value ∈ big := mbs (by decide +kernel) (by decide +kernel)
theorem ks_yX8_yearOf : Cond.selects RX8 yX8_yearOf yX8_yearOf ∈ big := mbs (by decide +kernel) (by decide +kernel)
def wM (G : Ev) (a : Nat → Nat) (q : Pc3) : va_W := [(a 0, .inr (6, [.int (q.1 0), .ref (a 1), .ref (a 2), .ref (a 3), .int (q.1 4), .int (q.1 5), .int (q.1 6), .int (q.1 7), .ref (a 8), .int (q.1 9), .int (q.1 10), .int (q.1 11), .int (q.1 12), .ref (a 13), .ref (a 14), .ref (a 15), .ref (a 16), .int (q.1 17), .int (q.1 18), .ref (a 19), .ref (a 20), .ref (a 21), .ref (a 22), .ref (a 23), .ref (a 24), .int (q.1 25)])), (a 1, .inl (cA G 2, 109573, .inl (q.2.1 1))), (a 2, .inl (cA G 2, 12, .inl (q.2.1 2))), (a 3, .inl (cA G 2, 200, .inl (q.2.1 3))), (a 8, .inl (cA G 4, 8, .inl (q.2.1 8))), (a 13, .inl (cA G 4, 13, .inl (q.2.1 13))), (a 14, .inl (cA G 4, 63, .inl (q.2.1 14))), (a 15, .inl (cA G 4, 733, .inl (q.2.1 15))), (a 16, .inl (cA G 4, 749, .inl (q.2.1 16))), (a 19, .inl (cA G 4, 12, .inl (q.2.1 19))), (a 20, .inl (cA G 2, 41100, .inl (q.2.1 20))), (a 21, .inl (cA G 2, 41100, .inl (q.2.1 21))), (a 22, .inl (cA G 2, 41100, .inl (q.2.1 22))), (a 23, .inl (cA G 2, 366, .inl (q.2.1 23))), (a 24, .inl (cA G 3, 300, .inr (.inl (q.2.2 24))))]
def wN (_ : Unit) : va_W := []
def wB (G : Ev) (a : Nat → Nat) (q : Pc3) : va_W := [(a 0, .inl (cA G 2, 41100, .inl (q.2.1 0)))]
def pB (f : Nat → Int32) : Pc3 := (fun _ => 0, fun _ => f, fun _ _ => 0)
def sF (q : Pc3) (k : Nat) (f : Nat → Int32) : Pc3 := (q.1, va_up q.2.1 k f, q.2.2)
theorem dM {A : Nat → Prop} {G : Ev} {a : Nat → Nat} {q q1 : Pc3} (h : va_D A (wM G a q)) : va_D A (wM G a q1) := va_D_same (ws := wM G a q) rfl h
theorem dB {A : Nat → Prop} {G : Ev} {a : Nat → Nat} {q q1 : Pc3} (h : va_D A (wB G a q)) : va_D A (wB G a q1) := va_D_same (ws := wB G a q) rfl h
theorem va_nil {D : va_G} {cl : List vw_C} {H : Heap} : va_P D cl [] H := fun k q h => by simp at h
theorem va_dnil {A : Nat → Prop} : va_D A [] := ⟨fun i j p q h => by simp at h, fun k q h => by simp at h⟩
theorem va_set1 {D : va_G} {cl : List vw_C} {A : Nat → Prop} {ws : va_W} {p x : Nat} {e0 e : va_E} {H H1 : Heap} (hP : va_P D cl ws H) (hD : va_D A ws) (hp : ws[p]? = some (x, e0)) (hk : ∀ q : Nat, q < H.size → q ∉ fs [(x, e)] → H1[q]? = H[q]?) (hP1 : va_P D cl [(x, e)] H1) : va_P D cl (ws.set p (x, e)) H1 := by
  refine va_back (wc := [(x, e)]) (wc' := [(x, e)]) hP hk hP1 (fun k q hq => ?_)
  by_cases h : k = p
  · subst h
    have hlt : k < ws.length := (List.getElem?_eq_some_iff.mp hp).1
    rw [List.getElem?_set_self hlt] at hq
    cases hq
    exact Or.inl ⟨0, rfl⟩
  · rw [List.getElem?_set_ne (fun z => h z.symm)] at hq
    refine Or.inr ⟨k, hq, fun z => ?_⟩
    simp [fs] at z
    exact h (hD.1 k p q (x, e0) hq hp z)
theorem tsw3 {x : Int32} (h0 : ¬ x = 0) (h1 : ¬ x = 1) (h2 : ¬ x = 2) : x.toInt < 0 ∨ 2 < x.toInt := by
  have e0 : x.toInt ≠ 0 := fun h => h0 (Int32.toInt_inj.mp (h.trans (by decide)))
  have e1 : x.toInt ≠ 1 := fun h => h1 (Int32.toInt_inj.mp (h.trans (by decide)))
  have e2 : x.toInt ≠ 2 := fun h => h2 (Int32.toInt_inj.mp (h.trans (by decide)))
  omega
def bd1 {β γ : Type} (o : Option β) (f : β → Option γ) : Option γ := o.bind f
theorem bd1_s {β γ : Type} {o : Option β} {f : β → Option γ} {r : γ} (h : bd1 o f = some r) : ∃ y, o = some y ∧ f y = some r := bd_s h
def bd2 {α β γ : Type} (o : Option (α × β)) (f : α → β → Option γ) : Option γ := o.bind fun z => f z.1 z.2
theorem bd2_s {α β γ : Type} {o : Option (α × β)} {f : α → β → Option γ} {r : γ} (h : bd2 o f = some r) : ∃ x y, o = some (x, y) ∧ f x y = some r := by
  obtain ⟨⟨x, y⟩, h1, h2⟩ := bd_s h
  exact ⟨x, y, h1, h2⟩
theorem zfit {v : Int32} (hn : narrow .boolean (.int v) = .int v) : fits .boolean (.int v) = true := by
  have h : v &&& 1 = v := by
    have h1 : Value.int (v &&& 1) = Value.int v := hn
    exact Value.int.inj h1
  obtain ⟨j, hj, e⟩ := pk_andE v (m := 1) 1 (by decide)
  rw [h] at e
  rcases (show j = 0 ∨ j = 1 by omega) with rfl | rfl <;> (rw [e]; decide)
def i2cI (x : Int32) : Int32 := (x.toUInt32 % 65536).toInt32
def i2bI (x : Int32) : Int32 := x.toInt8.toInt32
section
variable {p : Program} {l : Launch} {e : Env} {R : Room} {s : State} {m : MethodId} {args : Array Value} {below : List Frame} {meth : Method} {c : Code} {H : Heap} {locs : List Loc} {cells slots : Nat} {Q : State → Prop} {cc : ByteArray} {nL : Nat} {rt : Option FieldType} {c0 : Cond} {G : Ev} {pc : Nat} {ls : Array Slot} {rest : List Value} {A : Nat → Prop} {a : Nat → Nat} {q : Pc3}
theorem inM : ∀ w ∈ u_ws RX8 TX8 26, w ∈ c0 :: big := by
  have h : ∀ w ∈ u_ws RX8 TX8 26, w ∈ tables_1 ∧ goodWord w = true := by decide +kernel
  intro w hw
  exact List.mem_cons_of_mem _ (List.mem_filter.mpr ⟨List.mem_append_right _ (h w hw).1, (h w hw).2⟩)
theorem gM_thrown (X : CX p s m args meth c cc nL rt RX8 c0 G A) (hP : va_P (DD G) vwCl (wM G a q) H) (hdg : decode cc pc = .ok (.getfield 64, 3)) (kk : W p l e R s m args below meth c H locs cells slots Q (F0 m (pc + 3) ls (.int (rS q 0) :: rest))) : W p l e R s m args below meth c H locs cells slots Q (F0 m pc ls (.ref (a 0) :: rest)) :=
  va_get (D := DD G) (ci := 6) (v := .int (rS q 0)) (C := RX8) (T := TX8) (N := 26) X.1.1 X.1.2.1 X.1.2.2.2.2 inM X.1.2.2.2.1 X.2.1 hP 0 rfl rfl 0 (by decide) (X.1.2.2.2.2 _ (List.mem_cons_of_mem _ kw788)) (fun _ h => h) rfl hdg kk
theorem pM_thrown (X : CX p s m args meth c cc nL rt RX8 c0 G A) {v : Int32} (hP : va_P (DD G) vwCl (wM G a q) H) (hD : va_D A (wM G a q)) (hS : va_S A s.heap H locs) (hdg : decode cc pc = .ok (.putfield 64, 3)) (kk : ∀ (H1 : Heap) (locs1 : List Loc), va_P (DD G) vwCl (wM G a (sS q 0 v)) H1 → va_S A s.heap H1 locs1 → W p l e R s m args below meth c H1 locs1 cells slots Q (F0 m (pc + 3) ls rest)) : W p l e R s m args below meth c H locs cells slots Q (F0 m pc ls (.int v :: .ref (a 0) :: rest)) :=
  va_put (D := DD G) (ci := 6) (v := .int v) (ty := .int) (C := RX8) (T := TX8) (N := 26) X.1.1 X.1.2.1 X.1.2.2.2.2 inM tyX8 tyX8_ok nmX8 X.1.2.2.2.1 X.2.1 hP hD hS 0 rfl rfl 0 (by decide) (X.1.2.2.2.2 _ (List.mem_cons_of_mem _ kw788)) (fun _ h => h) rfl (by decide +kernel) rfl (by rfl) (Nat.le_of_ble_eq_true rfl) hdg (fun H1 locs1 hP1 _ hS1 => kk H1 locs1 hP1 hS1)
theorem gM_dates (X : CX p s m args meth c cc nL rt RX8 c0 G A) (hP : va_P (DD G) vwCl (wM G a q) H) (hdg : decode cc pc = .ok (.getfield 8, 3)) (kk : W p l e R s m args below meth c H locs cells slots Q (F0 m (pc + 3) ls (.ref (a 1) :: rest))) : W p l e R s m args below meth c H locs cells slots Q (F0 m pc ls (.ref (a 0) :: rest)) :=
  va_get (D := DD G) (ci := 6) (v := .ref (a 1)) (C := RX8) (T := TX8) (N := 26) X.1.1 X.1.2.1 X.1.2.2.2.2 inM X.1.2.2.2.1 X.2.1 hP 0 rfl rfl 1 (by decide) (X.1.2.2.2.2 _ (List.mem_cons_of_mem _ kw789)) (fun _ h => h) rfl hdg kk
theorem gM_lengths (X : CX p s m args meth c cc nL rt RX8 c0 G A) (hP : va_P (DD G) vwCl (wM G a q) H) (hdg : decode cc pc = .ok (.getfield 14, 3)) (kk : W p l e R s m args below meth c H locs cells slots Q (F0 m (pc + 3) ls (.ref (a 2) :: rest))) : W p l e R s m args below meth c H locs cells slots Q (F0 m pc ls (.ref (a 0) :: rest)) :=
  va_get (D := DD G) (ci := 6) (v := .ref (a 2)) (C := RX8) (T := TX8) (N := 26) X.1.1 X.1.2.1 X.1.2.2.2.2 inM X.1.2.2.2.1 X.2.1 hP 0 rfl rfl 2 (by decide) (X.1.2.2.2.2 _ (List.mem_cons_of_mem _ kw790)) (fun _ h => h) rfl hdg kk
theorem gM_text (X : CX p s m args meth c cc nL rt RX8 c0 G A) (hP : va_P (DD G) vwCl (wM G a q) H) (hdg : decode cc pc = .ok (.getfield 17, 3)) (kk : W p l e R s m args below meth c H locs cells slots Q (F0 m (pc + 3) ls (.ref (a 3) :: rest))) : W p l e R s m args below meth c H locs cells slots Q (F0 m pc ls (.ref (a 0) :: rest)) :=
  va_get (D := DD G) (ci := 6) (v := .ref (a 3)) (C := RX8) (T := TX8) (N := 26) X.1.1 X.1.2.1 X.1.2.2.2.2 inM X.1.2.2.2.1 X.2.1 hP 0 rfl rfl 3 (by decide) (X.1.2.2.2.2 _ (List.mem_cons_of_mem _ kw791)) (fun _ h => h) rfl hdg kk
theorem gM_size (X : CX p s m args meth c cc nL rt RX8 c0 G A) (hP : va_P (DD G) vwCl (wM G a q) H) (hdg : decode cc pc = .ok (.getfield 81, 3)) (kk : W p l e R s m args below meth c H locs cells slots Q (F0 m (pc + 3) ls (.int (rS q 4) :: rest))) : W p l e R s m args below meth c H locs cells slots Q (F0 m pc ls (.ref (a 0) :: rest)) :=
  va_get (D := DD G) (ci := 6) (v := .int (rS q 4)) (C := RX8) (T := TX8) (N := 26) X.1.1 X.1.2.1 X.1.2.2.2.2 inM X.1.2.2.2.1 X.2.1 hP 0 rfl rfl 4 (by decide) (X.1.2.2.2.2 _ (List.mem_cons_of_mem _ kw792)) (fun _ h => h) rfl hdg kk
theorem pM_size (X : CX p s m args meth c cc nL rt RX8 c0 G A) {v : Int32} (hP : va_P (DD G) vwCl (wM G a q) H) (hD : va_D A (wM G a q)) (hS : va_S A s.heap H locs) (hdg : decode cc pc = .ok (.putfield 81, 3)) (kk : ∀ (H1 : Heap) (locs1 : List Loc), va_P (DD G) vwCl (wM G a (sS q 4 v)) H1 → va_S A s.heap H1 locs1 → W p l e R s m args below meth c H1 locs1 cells slots Q (F0 m (pc + 3) ls rest)) : W p l e R s m args below meth c H locs cells slots Q (F0 m pc ls (.int v :: .ref (a 0) :: rest)) :=
  va_put (D := DD G) (ci := 6) (v := .int v) (ty := .int) (C := RX8) (T := TX8) (N := 26) X.1.1 X.1.2.1 X.1.2.2.2.2 inM tyX8 tyX8_ok nmX8 X.1.2.2.2.1 X.2.1 hP hD hS 0 rfl rfl 4 (by decide) (X.1.2.2.2.2 _ (List.mem_cons_of_mem _ kw792)) (fun _ h => h) rfl (by decide +kernel) rfl (by rfl) (Nat.le_of_ble_eq_true rfl) hdg (fun H1 locs1 hP1 _ hS1 => kk H1 locs1 hP1 hS1)
theorem gM_fault (X : CX p s m args meth c cc nL rt RX8 c0 G A) (hP : va_P (DD G) vwCl (wM G a q) H) (hdg : decode cc pc = .ok (.getfield 86, 3)) (kk : W p l e R s m args below meth c H locs cells slots Q (F0 m (pc + 3) ls (.int (rS q 5) :: rest))) : W p l e R s m args below meth c H locs cells slots Q (F0 m pc ls (.ref (a 0) :: rest)) :=
  va_get (D := DD G) (ci := 6) (v := .int (rS q 5)) (C := RX8) (T := TX8) (N := 26) X.1.1 X.1.2.1 X.1.2.2.2.2 inM X.1.2.2.2.1 X.2.1 hP 0 rfl rfl 5 (by decide) (X.1.2.2.2.2 _ (List.mem_cons_of_mem _ kw793)) (fun _ h => h) rfl hdg kk
theorem pM_fault (X : CX p s m args meth c cc nL rt RX8 c0 G A) {v : Int32} (hP : va_P (DD G) vwCl (wM G a q) H) (hD : va_D A (wM G a q)) (hS : va_S A s.heap H locs) (hdg : decode cc pc = .ok (.putfield 86, 3)) (kk : ∀ (H1 : Heap) (locs1 : List Loc), va_P (DD G) vwCl (wM G a (sS q 5 v)) H1 → va_S A s.heap H1 locs1 → W p l e R s m args below meth c H1 locs1 cells slots Q (F0 m (pc + 3) ls rest)) : W p l e R s m args below meth c H locs cells slots Q (F0 m pc ls (.int v :: .ref (a 0) :: rest)) :=
  va_put (D := DD G) (ci := 6) (v := .int v) (ty := .int) (C := RX8) (T := TX8) (N := 26) X.1.1 X.1.2.1 X.1.2.2.2.2 inM tyX8 tyX8_ok nmX8 X.1.2.2.2.1 X.2.1 hP hD hS 0 rfl rfl 5 (by decide) (X.1.2.2.2.2 _ (List.mem_cons_of_mem _ kw793)) (fun _ h => h) rfl (by decide +kernel) rfl (by rfl) (Nat.le_of_ble_eq_true rfl) hdg (fun H1 locs1 hP1 _ hS1 => kk H1 locs1 hP1 hS1)
theorem gM_place (X : CX p s m args meth c cc nL rt RX8 c0 G A) (hP : va_P (DD G) vwCl (wM G a q) H) (hdg : decode cc pc = .ok (.getfield 20, 3)) (kk : W p l e R s m args below meth c H locs cells slots Q (F0 m (pc + 3) ls (.int (rS q 6) :: rest))) : W p l e R s m args below meth c H locs cells slots Q (F0 m pc ls (.ref (a 0) :: rest)) :=
  va_get (D := DD G) (ci := 6) (v := .int (rS q 6)) (C := RX8) (T := TX8) (N := 26) X.1.1 X.1.2.1 X.1.2.2.2.2 inM X.1.2.2.2.1 X.2.1 hP 0 rfl rfl 6 (by decide) (X.1.2.2.2.2 _ (List.mem_cons_of_mem _ kw794)) (fun _ h => h) rfl hdg kk
theorem pM_place (X : CX p s m args meth c cc nL rt RX8 c0 G A) {v : Int32} (hP : va_P (DD G) vwCl (wM G a q) H) (hD : va_D A (wM G a q)) (hS : va_S A s.heap H locs) (hdg : decode cc pc = .ok (.putfield 20, 3)) (kk : ∀ (H1 : Heap) (locs1 : List Loc), va_P (DD G) vwCl (wM G a (sS q 6 v)) H1 → va_S A s.heap H1 locs1 → W p l e R s m args below meth c H1 locs1 cells slots Q (F0 m (pc + 3) ls rest)) : W p l e R s m args below meth c H locs cells slots Q (F0 m pc ls (.int v :: .ref (a 0) :: rest)) :=
  va_put (D := DD G) (ci := 6) (v := .int v) (ty := .int) (C := RX8) (T := TX8) (N := 26) X.1.1 X.1.2.1 X.1.2.2.2.2 inM tyX8 tyX8_ok nmX8 X.1.2.2.2.1 X.2.1 hP hD hS 0 rfl rfl 6 (by decide) (X.1.2.2.2.2 _ (List.mem_cons_of_mem _ kw794)) (fun _ h => h) rfl (by decide +kernel) rfl (by rfl) (Nat.le_of_ble_eq_true rfl) hdg (fun H1 locs1 hP1 _ hS1 => kk H1 locs1 hP1 hS1)
theorem gM_at (X : CX p s m args meth c cc nL rt RX8 c0 G A) (hP : va_P (DD G) vwCl (wM G a q) H) (hdg : decode cc pc = .ok (.getfield 107, 3)) (kk : W p l e R s m args below meth c H locs cells slots Q (F0 m (pc + 3) ls (.int (rS q 7) :: rest))) : W p l e R s m args below meth c H locs cells slots Q (F0 m pc ls (.ref (a 0) :: rest)) :=
  va_get (D := DD G) (ci := 6) (v := .int (rS q 7)) (C := RX8) (T := TX8) (N := 26) X.1.1 X.1.2.1 X.1.2.2.2.2 inM X.1.2.2.2.1 X.2.1 hP 0 rfl rfl 7 (by decide) (X.1.2.2.2.2 _ (List.mem_cons_of_mem _ kw795)) (fun _ h => h) rfl hdg kk
theorem pM_at (X : CX p s m args meth c cc nL rt RX8 c0 G A) {v : Int32} (hP : va_P (DD G) vwCl (wM G a q) H) (hD : va_D A (wM G a q)) (hS : va_S A s.heap H locs) (hdg : decode cc pc = .ok (.putfield 107, 3)) (kk : ∀ (H1 : Heap) (locs1 : List Loc), va_P (DD G) vwCl (wM G a (sS q 7 v)) H1 → va_S A s.heap H1 locs1 → W p l e R s m args below meth c H1 locs1 cells slots Q (F0 m (pc + 3) ls rest)) : W p l e R s m args below meth c H locs cells slots Q (F0 m pc ls (.int v :: .ref (a 0) :: rest)) :=
  va_put (D := DD G) (ci := 6) (v := .int v) (ty := .int) (C := RX8) (T := TX8) (N := 26) X.1.1 X.1.2.1 X.1.2.2.2.2 inM tyX8 tyX8_ok nmX8 X.1.2.2.2.1 X.2.1 hP hD hS 0 rfl rfl 7 (by decide) (X.1.2.2.2.2 _ (List.mem_cons_of_mem _ kw795)) (fun _ h => h) rfl (by decide +kernel) rfl (by rfl) (Nat.le_of_ble_eq_true rfl) hdg (fun H1 locs1 hP1 _ hS1 => kk H1 locs1 hP1 hS1)
theorem gM_has (X : CX p s m args meth c cc nL rt RX8 c0 G A) (hP : va_P (DD G) vwCl (wM G a q) H) (hdg : decode cc pc = .ok (.getfield 24, 3)) (kk : W p l e R s m args below meth c H locs cells slots Q (F0 m (pc + 3) ls (.ref (a 8) :: rest))) : W p l e R s m args below meth c H locs cells slots Q (F0 m pc ls (.ref (a 0) :: rest)) :=
  va_get (D := DD G) (ci := 6) (v := .ref (a 8)) (C := RX8) (T := TX8) (N := 26) X.1.1 X.1.2.1 X.1.2.2.2.2 inM X.1.2.2.2.1 X.2.1 hP 0 rfl rfl 8 (by decide) (X.1.2.2.2.2 _ (List.mem_cons_of_mem _ kw796)) (fun _ h => h) rfl hdg kk
theorem gM_freq (X : CX p s m args meth c cc nL rt RX8 c0 G A) (hP : va_P (DD G) vwCl (wM G a q) H) (hdg : decode cc pc = .ok (.getfield 71, 3)) (kk : W p l e R s m args below meth c H locs cells slots Q (F0 m (pc + 3) ls (.int (rS q 9) :: rest))) : W p l e R s m args below meth c H locs cells slots Q (F0 m pc ls (.ref (a 0) :: rest)) :=
  va_get (D := DD G) (ci := 6) (v := .int (rS q 9)) (C := RX8) (T := TX8) (N := 26) X.1.1 X.1.2.1 X.1.2.2.2.2 inM X.1.2.2.2.1 X.2.1 hP 0 rfl rfl 9 (by decide) (X.1.2.2.2.2 _ (List.mem_cons_of_mem _ kw797)) (fun _ h => h) rfl hdg kk
theorem pM_freq (X : CX p s m args meth c cc nL rt RX8 c0 G A) {v : Int32} (hP : va_P (DD G) vwCl (wM G a q) H) (hD : va_D A (wM G a q)) (hS : va_S A s.heap H locs) (hdg : decode cc pc = .ok (.putfield 71, 3)) (kk : ∀ (H1 : Heap) (locs1 : List Loc), va_P (DD G) vwCl (wM G a (sS q 9 v)) H1 → va_S A s.heap H1 locs1 → W p l e R s m args below meth c H1 locs1 cells slots Q (F0 m (pc + 3) ls rest)) : W p l e R s m args below meth c H locs cells slots Q (F0 m pc ls (.int v :: .ref (a 0) :: rest)) :=
  va_put (D := DD G) (ci := 6) (v := .int v) (ty := .int) (C := RX8) (T := TX8) (N := 26) X.1.1 X.1.2.1 X.1.2.2.2.2 inM tyX8 tyX8_ok nmX8 X.1.2.2.2.1 X.2.1 hP hD hS 0 rfl rfl 9 (by decide) (X.1.2.2.2.2 _ (List.mem_cons_of_mem _ kw797)) (fun _ h => h) rfl (by decide +kernel) rfl (by rfl) (Nat.le_of_ble_eq_true rfl) hdg (fun H1 locs1 hP1 _ hS1 => kk H1 locs1 hP1 hS1)
theorem gM_interval (X : CX p s m args meth c cc nL rt RX8 c0 G A) (hP : va_P (DD G) vwCl (wM G a q) H) (hdg : decode cc pc = .ok (.getfield 154, 3)) (kk : W p l e R s m args below meth c H locs cells slots Q (F0 m (pc + 3) ls (.int (rS q 10) :: rest))) : W p l e R s m args below meth c H locs cells slots Q (F0 m pc ls (.ref (a 0) :: rest)) :=
  va_get (D := DD G) (ci := 6) (v := .int (rS q 10)) (C := RX8) (T := TX8) (N := 26) X.1.1 X.1.2.1 X.1.2.2.2.2 inM X.1.2.2.2.1 X.2.1 hP 0 rfl rfl 10 (by decide) (X.1.2.2.2.2 _ (List.mem_cons_of_mem _ kw798)) (fun _ h => h) rfl hdg kk
theorem pM_interval (X : CX p s m args meth c cc nL rt RX8 c0 G A) {v : Int32} (hP : va_P (DD G) vwCl (wM G a q) H) (hD : va_D A (wM G a q)) (hS : va_S A s.heap H locs) (hdg : decode cc pc = .ok (.putfield 154, 3)) (kk : ∀ (H1 : Heap) (locs1 : List Loc), va_P (DD G) vwCl (wM G a (sS q 10 v)) H1 → va_S A s.heap H1 locs1 → W p l e R s m args below meth c H1 locs1 cells slots Q (F0 m (pc + 3) ls rest)) : W p l e R s m args below meth c H locs cells slots Q (F0 m pc ls (.int v :: .ref (a 0) :: rest)) :=
  va_put (D := DD G) (ci := 6) (v := .int v) (ty := .int) (C := RX8) (T := TX8) (N := 26) X.1.1 X.1.2.1 X.1.2.2.2.2 inM tyX8 tyX8_ok nmX8 X.1.2.2.2.1 X.2.1 hP hD hS 0 rfl rfl 10 (by decide) (X.1.2.2.2.2 _ (List.mem_cons_of_mem _ kw798)) (fun _ h => h) rfl (by decide +kernel) rfl (by rfl) (Nat.le_of_ble_eq_true rfl) hdg (fun H1 locs1 hP1 _ hS1 => kk H1 locs1 hP1 hS1)
theorem gM_count (X : CX p s m args meth c cc nL rt RX8 c0 G A) (hP : va_P (DD G) vwCl (wM G a q) H) (hdg : decode cc pc = .ok (.getfield 157, 3)) (kk : W p l e R s m args below meth c H locs cells slots Q (F0 m (pc + 3) ls (.int (rS q 11) :: rest))) : W p l e R s m args below meth c H locs cells slots Q (F0 m pc ls (.ref (a 0) :: rest)) :=
  va_get (D := DD G) (ci := 6) (v := .int (rS q 11)) (C := RX8) (T := TX8) (N := 26) X.1.1 X.1.2.1 X.1.2.2.2.2 inM X.1.2.2.2.1 X.2.1 hP 0 rfl rfl 11 (by decide) (X.1.2.2.2.2 _ (List.mem_cons_of_mem _ kw799)) (fun _ h => h) rfl hdg kk
theorem pM_count (X : CX p s m args meth c cc nL rt RX8 c0 G A) {v : Int32} (hP : va_P (DD G) vwCl (wM G a q) H) (hD : va_D A (wM G a q)) (hS : va_S A s.heap H locs) (hdg : decode cc pc = .ok (.putfield 157, 3)) (kk : ∀ (H1 : Heap) (locs1 : List Loc), va_P (DD G) vwCl (wM G a (sS q 11 v)) H1 → va_S A s.heap H1 locs1 → W p l e R s m args below meth c H1 locs1 cells slots Q (F0 m (pc + 3) ls rest)) : W p l e R s m args below meth c H locs cells slots Q (F0 m pc ls (.int v :: .ref (a 0) :: rest)) :=
  va_put (D := DD G) (ci := 6) (v := .int v) (ty := .int) (C := RX8) (T := TX8) (N := 26) X.1.1 X.1.2.1 X.1.2.2.2.2 inM tyX8 tyX8_ok nmX8 X.1.2.2.2.1 X.2.1 hP hD hS 0 rfl rfl 11 (by decide) (X.1.2.2.2.2 _ (List.mem_cons_of_mem _ kw799)) (fun _ h => h) rfl (by decide +kernel) rfl (by rfl) (Nat.le_of_ble_eq_true rfl) hdg (fun H1 locs1 hP1 _ hS1 => kk H1 locs1 hP1 hS1)
theorem gM_until (X : CX p s m args meth c cc nL rt RX8 c0 G A) (hP : va_P (DD G) vwCl (wM G a q) H) (hdg : decode cc pc = .ok (.getfield 130, 3)) (kk : W p l e R s m args below meth c H locs cells slots Q (F0 m (pc + 3) ls (.int (rS q 12) :: rest))) : W p l e R s m args below meth c H locs cells slots Q (F0 m pc ls (.ref (a 0) :: rest)) :=
  va_get (D := DD G) (ci := 6) (v := .int (rS q 12)) (C := RX8) (T := TX8) (N := 26) X.1.1 X.1.2.1 X.1.2.2.2.2 inM X.1.2.2.2.1 X.2.1 hP 0 rfl rfl 12 (by decide) (X.1.2.2.2.2 _ (List.mem_cons_of_mem _ kw800)) (fun _ h => h) rfl hdg kk
theorem pM_until (X : CX p s m args meth c cc nL rt RX8 c0 G A) {v : Int32} (hP : va_P (DD G) vwCl (wM G a q) H) (hD : va_D A (wM G a q)) (hS : va_S A s.heap H locs) (hdg : decode cc pc = .ok (.putfield 130, 3)) (kk : ∀ (H1 : Heap) (locs1 : List Loc), va_P (DD G) vwCl (wM G a (sS q 12 v)) H1 → va_S A s.heap H1 locs1 → W p l e R s m args below meth c H1 locs1 cells slots Q (F0 m (pc + 3) ls rest)) : W p l e R s m args below meth c H locs cells slots Q (F0 m pc ls (.int v :: .ref (a 0) :: rest)) :=
  va_put (D := DD G) (ci := 6) (v := .int v) (ty := .int) (C := RX8) (T := TX8) (N := 26) X.1.1 X.1.2.1 X.1.2.2.2.2 inM tyX8 tyX8_ok nmX8 X.1.2.2.2.1 X.2.1 hP hD hS 0 rfl rfl 12 (by decide) (X.1.2.2.2.2 _ (List.mem_cons_of_mem _ kw800)) (fun _ h => h) rfl (by decide +kernel) rfl (by rfl) (Nat.le_of_ble_eq_true rfl) hdg (fun H1 locs1 hP1 _ hS1 => kk H1 locs1 hP1 hS1)
theorem gM_months (X : CX p s m args meth c cc nL rt RX8 c0 G A) (hP : va_P (DD G) vwCl (wM G a q) H) (hdg : decode cc pc = .ok (.getfield 28, 3)) (kk : W p l e R s m args below meth c H locs cells slots Q (F0 m (pc + 3) ls (.ref (a 13) :: rest))) : W p l e R s m args below meth c H locs cells slots Q (F0 m pc ls (.ref (a 0) :: rest)) :=
  va_get (D := DD G) (ci := 6) (v := .ref (a 13)) (C := RX8) (T := TX8) (N := 26) X.1.1 X.1.2.1 X.1.2.2.2.2 inM X.1.2.2.2.1 X.2.1 hP 0 rfl rfl 13 (by decide) (X.1.2.2.2.2 _ (List.mem_cons_of_mem _ kw801)) (fun _ h => h) rfl hdg kk
theorem gM_monthDays (X : CX p s m args meth c cc nL rt RX8 c0 G A) (hP : va_P (DD G) vwCl (wM G a q) H) (hdg : decode cc pc = .ok (.getfield 31, 3)) (kk : W p l e R s m args below meth c H locs cells slots Q (F0 m (pc + 3) ls (.ref (a 14) :: rest))) : W p l e R s m args below meth c H locs cells slots Q (F0 m pc ls (.ref (a 0) :: rest)) :=
  va_get (D := DD G) (ci := 6) (v := .ref (a 14)) (C := RX8) (T := TX8) (N := 26) X.1.1 X.1.2.1 X.1.2.2.2.2 inM X.1.2.2.2.1 X.2.1 hP 0 rfl rfl 14 (by decide) (X.1.2.2.2.2 _ (List.mem_cons_of_mem _ kw802)) (fun _ h => h) rfl hdg kk
theorem gM_places (X : CX p s m args meth c cc nL rt RX8 c0 G A) (hP : va_P (DD G) vwCl (wM G a q) H) (hdg : decode cc pc = .ok (.getfield 34, 3)) (kk : W p l e R s m args below meth c H locs cells slots Q (F0 m (pc + 3) ls (.ref (a 15) :: rest))) : W p l e R s m args below meth c H locs cells slots Q (F0 m pc ls (.ref (a 0) :: rest)) :=
  va_get (D := DD G) (ci := 6) (v := .ref (a 15)) (C := RX8) (T := TX8) (N := 26) X.1.1 X.1.2.1 X.1.2.2.2.2 inM X.1.2.2.2.1 X.2.1 hP 0 rfl rfl 15 (by decide) (X.1.2.2.2.2 _ (List.mem_cons_of_mem _ kw803)) (fun _ h => h) rfl hdg kk
theorem gM_weekdays (X : CX p s m args meth c cc nL rt RX8 c0 G A) (hP : va_P (DD G) vwCl (wM G a q) H) (hdg : decode cc pc = .ok (.getfield 37, 3)) (kk : W p l e R s m args below meth c H locs cells slots Q (F0 m (pc + 3) ls (.ref (a 16) :: rest))) : W p l e R s m args below meth c H locs cells slots Q (F0 m pc ls (.ref (a 0) :: rest)) :=
  va_get (D := DD G) (ci := 6) (v := .ref (a 16)) (C := RX8) (T := TX8) (N := 26) X.1.1 X.1.2.1 X.1.2.2.2.2 inM X.1.2.2.2.1 X.2.1 hP 0 rfl rfl 16 (by decide) (X.1.2.2.2.2 _ (List.mem_cons_of_mem _ kw804)) (fun _ h => h) rfl hdg kk
theorem gM_numbered (X : CX p s m args meth c cc nL rt RX8 c0 G A) (hP : va_P (DD G) vwCl (wM G a q) H) (hdg : decode cc pc = .ok (.getfield 133, 3)) (kk : W p l e R s m args below meth c H locs cells slots Q (F0 m (pc + 3) ls (.int (rS q 17) :: rest))) : W p l e R s m args below meth c H locs cells slots Q (F0 m pc ls (.ref (a 0) :: rest)) :=
  va_get (D := DD G) (ci := 6) (v := .int (rS q 17)) (C := RX8) (T := TX8) (N := 26) X.1.1 X.1.2.1 X.1.2.2.2.2 inM X.1.2.2.2.1 X.2.1 hP 0 rfl rfl 17 (by decide) (X.1.2.2.2.2 _ (List.mem_cons_of_mem _ kw805)) (fun _ h => h) rfl hdg kk
theorem pM_numbered (X : CX p s m args meth c cc nL rt RX8 c0 G A) {v : Int32} (hn : narrow .boolean (.int v) = .int v) (hP : va_P (DD G) vwCl (wM G a q) H) (hD : va_D A (wM G a q)) (hS : va_S A s.heap H locs) (hdg : decode cc pc = .ok (.putfield 133, 3)) (kk : ∀ (H1 : Heap) (locs1 : List Loc), va_P (DD G) vwCl (wM G a (sS q 17 v)) H1 → va_S A s.heap H1 locs1 → W p l e R s m args below meth c H1 locs1 cells slots Q (F0 m (pc + 3) ls rest)) : W p l e R s m args below meth c H locs cells slots Q (F0 m pc ls (.int v :: .ref (a 0) :: rest)) :=
  va_put (D := DD G) (ci := 6) (v := .int v) (ty := .boolean) (C := RX8) (T := TX8) (N := 26) X.1.1 X.1.2.1 X.1.2.2.2.2 inM tyX8 tyX8_ok nmX8 X.1.2.2.2.1 X.2.1 hP hD hS 0 rfl rfl 17 (by decide) (X.1.2.2.2.2 _ (List.mem_cons_of_mem _ kw805)) (fun _ h => h) rfl (by decide +kernel) hn (zfit hn) (Nat.le_of_ble_eq_true rfl) hdg (fun H1 locs1 hP1 _ hS1 => kk H1 locs1 hP1 hS1)
theorem gM_start (X : CX p s m args meth c cc nL rt RX8 c0 G A) (hP : va_P (DD G) vwCl (wM G a q) H) (hdg : decode cc pc = .ok (.getfield 180, 3)) (kk : W p l e R s m args below meth c H locs cells slots Q (F0 m (pc + 3) ls (.int (rS q 18) :: rest))) : W p l e R s m args below meth c H locs cells slots Q (F0 m pc ls (.ref (a 0) :: rest)) :=
  va_get (D := DD G) (ci := 6) (v := .int (rS q 18)) (C := RX8) (T := TX8) (N := 26) X.1.1 X.1.2.1 X.1.2.2.2.2 inM X.1.2.2.2.1 X.2.1 hP 0 rfl rfl 18 (by decide) (X.1.2.2.2.2 _ (List.mem_cons_of_mem _ kw806)) (fun _ h => h) rfl hdg kk
theorem pM_start (X : CX p s m args meth c cc nL rt RX8 c0 G A) {v : Int32} (hP : va_P (DD G) vwCl (wM G a q) H) (hD : va_D A (wM G a q)) (hS : va_S A s.heap H locs) (hdg : decode cc pc = .ok (.putfield 180, 3)) (kk : ∀ (H1 : Heap) (locs1 : List Loc), va_P (DD G) vwCl (wM G a (sS q 18 v)) H1 → va_S A s.heap H1 locs1 → W p l e R s m args below meth c H1 locs1 cells slots Q (F0 m (pc + 3) ls rest)) : W p l e R s m args below meth c H locs cells slots Q (F0 m pc ls (.int v :: .ref (a 0) :: rest)) :=
  va_put (D := DD G) (ci := 6) (v := .int v) (ty := .int) (C := RX8) (T := TX8) (N := 26) X.1.1 X.1.2.1 X.1.2.2.2.2 inM tyX8 tyX8_ok nmX8 X.1.2.2.2.1 X.2.1 hP hD hS 0 rfl rfl 18 (by decide) (X.1.2.2.2.2 _ (List.mem_cons_of_mem _ kw806)) (fun _ h => h) rfl (by decide +kernel) rfl (by rfl) (Nat.le_of_ble_eq_true rfl) hdg (fun H1 locs1 hP1 _ hS1 => kk H1 locs1 hP1 hS1)
theorem gM_there (X : CX p s m args meth c cc nL rt RX8 c0 G A) (hP : va_P (DD G) vwCl (wM G a q) H) (hdg : decode cc pc = .ok (.getfield 40, 3)) (kk : W p l e R s m args below meth c H locs cells slots Q (F0 m (pc + 3) ls (.ref (a 19) :: rest))) : W p l e R s m args below meth c H locs cells slots Q (F0 m pc ls (.ref (a 0) :: rest)) :=
  va_get (D := DD G) (ci := 6) (v := .ref (a 19)) (C := RX8) (T := TX8) (N := 26) X.1.1 X.1.2.1 X.1.2.2.2.2 inM X.1.2.2.2.1 X.2.1 hP 0 rfl rfl 19 (by decide) (X.1.2.2.2.2 _ (List.mem_cons_of_mem _ kw807)) (fun _ h => h) rfl hdg kk
theorem gM_rule (X : CX p s m args meth c cc nL rt RX8 c0 G A) (hP : va_P (DD G) vwCl (wM G a q) H) (hdg : decode cc pc = .ok (.getfield 44, 3)) (kk : W p l e R s m args below meth c H locs cells slots Q (F0 m (pc + 3) ls (.ref (a 20) :: rest))) : W p l e R s m args below meth c H locs cells slots Q (F0 m pc ls (.ref (a 0) :: rest)) :=
  va_get (D := DD G) (ci := 6) (v := .ref (a 20)) (C := RX8) (T := TX8) (N := 26) X.1.1 X.1.2.1 X.1.2.2.2.2 inM X.1.2.2.2.1 X.2.1 hP 0 rfl rfl 20 (by decide) (X.1.2.2.2.2 _ (List.mem_cons_of_mem _ kw808)) (fun _ h => h) rfl hdg kk
theorem gM_excepted (X : CX p s m args meth c cc nL rt RX8 c0 G A) (hP : va_P (DD G) vwCl (wM G a q) H) (hdg : decode cc pc = .ok (.getfield 47, 3)) (kk : W p l e R s m args below meth c H locs cells slots Q (F0 m (pc + 3) ls (.ref (a 21) :: rest))) : W p l e R s m args below meth c H locs cells slots Q (F0 m pc ls (.ref (a 0) :: rest)) :=
  va_get (D := DD G) (ci := 6) (v := .ref (a 21)) (C := RX8) (T := TX8) (N := 26) X.1.1 X.1.2.1 X.1.2.2.2.2 inM X.1.2.2.2.1 X.2.1 hP 0 rfl rfl 21 (by decide) (X.1.2.2.2.2 _ (List.mem_cons_of_mem _ kw809)) (fun _ h => h) rfl hdg kk
theorem gM_added (X : CX p s m args meth c cc nL rt RX8 c0 G A) (hP : va_P (DD G) vwCl (wM G a q) H) (hdg : decode cc pc = .ok (.getfield 50, 3)) (kk : W p l e R s m args below meth c H locs cells slots Q (F0 m (pc + 3) ls (.ref (a 22) :: rest))) : W p l e R s m args below meth c H locs cells slots Q (F0 m pc ls (.ref (a 0) :: rest)) :=
  va_get (D := DD G) (ci := 6) (v := .ref (a 22)) (C := RX8) (T := TX8) (N := 26) X.1.1 X.1.2.1 X.1.2.2.2.2 inM X.1.2.2.2.1 X.2.1 hP 0 rfl rfl 22 (by decide) (X.1.2.2.2.2 _ (List.mem_cons_of_mem _ kw810)) (fun _ h => h) rfl hdg kk
theorem gM_suiting (X : CX p s m args meth c cc nL rt RX8 c0 G A) (hP : va_P (DD G) vwCl (wM G a q) H) (hdg : decode cc pc = .ok (.getfield 53, 3)) (kk : W p l e R s m args below meth c H locs cells slots Q (F0 m (pc + 3) ls (.ref (a 23) :: rest))) : W p l e R s m args below meth c H locs cells slots Q (F0 m pc ls (.ref (a 0) :: rest)) :=
  va_get (D := DD G) (ci := 6) (v := .ref (a 23)) (C := RX8) (T := TX8) (N := 26) X.1.1 X.1.2.1 X.1.2.2.2.2 inM X.1.2.2.2.1 X.2.1 hP 0 rfl rfl 23 (by decide) (X.1.2.2.2.2 _ (List.mem_cons_of_mem _ kw811)) (fun _ h => h) rfl hdg kk
theorem gM_items (X : CX p s m args meth c cc nL rt RX8 c0 G A) (hP : va_P (DD G) vwCl (wM G a q) H) (hdg : decode cc pc = .ok (.getfield 56, 3)) (kk : W p l e R s m args below meth c H locs cells slots Q (F0 m (pc + 3) ls (.ref (a 24) :: rest))) : W p l e R s m args below meth c H locs cells slots Q (F0 m pc ls (.ref (a 0) :: rest)) :=
  va_get (D := DD G) (ci := 6) (v := .ref (a 24)) (C := RX8) (T := TX8) (N := 26) X.1.1 X.1.2.1 X.1.2.2.2.2 inM X.1.2.2.2.1 X.2.1 hP 0 rfl rfl 24 (by decide) (X.1.2.2.2.2 _ (List.mem_cons_of_mem _ kw812)) (fun _ h => h) rfl hdg kk
theorem gM_listed (X : CX p s m args meth c cc nL rt RX8 c0 G A) (hP : va_P (DD G) vwCl (wM G a q) H) (hdg : decode cc pc = .ok (.getfield 216, 3)) (kk : W p l e R s m args below meth c H locs cells slots Q (F0 m (pc + 3) ls (.int (rS q 25) :: rest))) : W p l e R s m args below meth c H locs cells slots Q (F0 m pc ls (.ref (a 0) :: rest)) :=
  va_get (D := DD G) (ci := 6) (v := .int (rS q 25)) (C := RX8) (T := TX8) (N := 26) X.1.1 X.1.2.1 X.1.2.2.2.2 inM X.1.2.2.2.1 X.2.1 hP 0 rfl rfl 25 (by decide) (X.1.2.2.2.2 _ (List.mem_cons_of_mem _ kw813)) (fun _ h => h) rfl hdg kk
theorem pM_listed (X : CX p s m args meth c cc nL rt RX8 c0 G A) {v : Int32} (hP : va_P (DD G) vwCl (wM G a q) H) (hD : va_D A (wM G a q)) (hS : va_S A s.heap H locs) (hdg : decode cc pc = .ok (.putfield 216, 3)) (kk : ∀ (H1 : Heap) (locs1 : List Loc), va_P (DD G) vwCl (wM G a (sS q 25 v)) H1 → va_S A s.heap H1 locs1 → W p l e R s m args below meth c H1 locs1 cells slots Q (F0 m (pc + 3) ls rest)) : W p l e R s m args below meth c H locs cells slots Q (F0 m pc ls (.int v :: .ref (a 0) :: rest)) :=
  va_put (D := DD G) (ci := 6) (v := .int v) (ty := .int) (C := RX8) (T := TX8) (N := 26) X.1.1 X.1.2.1 X.1.2.2.2.2 inM tyX8 tyX8_ok nmX8 X.1.2.2.2.1 X.2.1 hP hD hS 0 rfl rfl 25 (by decide) (X.1.2.2.2.2 _ (List.mem_cons_of_mem _ kw813)) (fun _ h => h) rfl (by decide +kernel) rfl (by rfl) (Nat.le_of_ble_eq_true rfl) hdg (fun H1 locs1 hP1 _ hS1 => kk H1 locs1 hP1 hS1)
theorem ldM_dates (X : CX p s m args meth c cc nL rt RX8 c0 G A) (hP : va_P (DD G) vwCl (wM G a q) H) {i : Int32} (hin : vp_in i 109573) (hdg : decode cc pc = .ok (.iaload, 1)) (kk : W p l e R s m args below meth c H locs cells slots Q (F0 m (pc + 1) ls (.int (rA q 1 i) :: rest))) : W p l e R s m args below meth c H locs cells slots Q (F0 m pc ls (.int i :: .ref (a 1) :: rest)) :=
  va_iald X.1.1 X.1.2.1 X.2.1 hP 1 2 rfl rfl hin hdg kk
theorem stM_dates (X : CX p s m args meth c cc nL rt RX8 c0 G A) (hP : va_P (DD G) vwCl (wM G a q) H) (hD : va_D A (wM G a q)) (hS : va_S A s.heap H locs) {i : Int32} {x : Int32} (hin : vp_in i 109573) (hdg : decode cc pc = .ok (.iastore, 1)) (kk : ∀ (H1 : Heap) (locs1 : List Loc), va_P (DD G) vwCl (wM G a (sA q 1 i x)) H1 → va_S A s.heap H1 locs1 → W p l e R s m args below meth c H1 locs1 cells slots Q (F0 m (pc + 1) ls rest)) : W p l e R s m args below meth c H locs cells slots Q (F0 m pc ls (.int x :: .int i :: .ref (a 1) :: rest)) :=
  va_iast X.1.1 X.1.2.1 X.2.1 hP hD hS 1 2 rfl rfl hin hdg (fun H1 locs1 hP1 _ hS1 => kk H1 locs1 hP1 hS1)
theorem ldM_lengths (X : CX p s m args meth c cc nL rt RX8 c0 G A) (hP : va_P (DD G) vwCl (wM G a q) H) {i : Int32} (hin : vp_in i 12) (hdg : decode cc pc = .ok (.iaload, 1)) (kk : W p l e R s m args below meth c H locs cells slots Q (F0 m (pc + 1) ls (.int (rA q 2 i) :: rest))) : W p l e R s m args below meth c H locs cells slots Q (F0 m pc ls (.int i :: .ref (a 2) :: rest)) :=
  va_iald X.1.1 X.1.2.1 X.2.1 hP 2 2 rfl rfl hin hdg kk
theorem stM_lengths (X : CX p s m args meth c cc nL rt RX8 c0 G A) (hP : va_P (DD G) vwCl (wM G a q) H) (hD : va_D A (wM G a q)) (hS : va_S A s.heap H locs) {i : Int32} {x : Int32} (hin : vp_in i 12) (hdg : decode cc pc = .ok (.iastore, 1)) (kk : ∀ (H1 : Heap) (locs1 : List Loc), va_P (DD G) vwCl (wM G a (sA q 2 i x)) H1 → va_S A s.heap H1 locs1 → W p l e R s m args below meth c H1 locs1 cells slots Q (F0 m (pc + 1) ls rest)) : W p l e R s m args below meth c H locs cells slots Q (F0 m pc ls (.int x :: .int i :: .ref (a 2) :: rest)) :=
  va_iast X.1.1 X.1.2.1 X.2.1 hP hD hS 2 2 rfl rfl hin hdg (fun H1 locs1 hP1 _ hS1 => kk H1 locs1 hP1 hS1)
theorem ldM_text (X : CX p s m args meth c cc nL rt RX8 c0 G A) (hP : va_P (DD G) vwCl (wM G a q) H) {i : Int32} (hin : vp_in i 200) (hdg : decode cc pc = .ok (.iaload, 1)) (kk : W p l e R s m args below meth c H locs cells slots Q (F0 m (pc + 1) ls (.int (rA q 3 i) :: rest))) : W p l e R s m args below meth c H locs cells slots Q (F0 m pc ls (.int i :: .ref (a 3) :: rest)) :=
  va_iald X.1.1 X.1.2.1 X.2.1 hP 3 2 rfl rfl hin hdg kk
theorem stM_text (X : CX p s m args meth c cc nL rt RX8 c0 G A) (hP : va_P (DD G) vwCl (wM G a q) H) (hD : va_D A (wM G a q)) (hS : va_S A s.heap H locs) {i : Int32} {x : Int32} (hin : vp_in i 200) (hdg : decode cc pc = .ok (.iastore, 1)) (kk : ∀ (H1 : Heap) (locs1 : List Loc), va_P (DD G) vwCl (wM G a (sA q 3 i x)) H1 → va_S A s.heap H1 locs1 → W p l e R s m args below meth c H1 locs1 cells slots Q (F0 m (pc + 1) ls rest)) : W p l e R s m args below meth c H locs cells slots Q (F0 m pc ls (.int x :: .int i :: .ref (a 3) :: rest)) :=
  va_iast X.1.1 X.1.2.1 X.2.1 hP hD hS 3 2 rfl rfl hin hdg (fun H1 locs1 hP1 _ hS1 => kk H1 locs1 hP1 hS1)
theorem ldM_has (X : CX p s m args meth c cc nL rt RX8 c0 G A) (hP : va_P (DD G) vwCl (wM G a q) H) {i : Int32} (hin : vp_in i 8) (hdg : decode cc pc = .ok (.baload, 1)) (kk : W p l e R s m args below meth c H locs cells slots Q (F0 m (pc + 1) ls (.int (rA q 8 i) :: rest))) : W p l e R s m args below meth c H locs cells slots Q (F0 m pc ls (.int i :: .ref (a 8) :: rest)) :=
  va_zald X.1.1 X.1.2.1 X.2.1 hP 4 4 rfl rfl hin hdg kk
theorem stM_has (X : CX p s m args meth c cc nL rt RX8 c0 G A) (hP : va_P (DD G) vwCl (wM G a q) H) (hD : va_D A (wM G a q)) (hS : va_S A s.heap H locs) {i : Int32} {x : Int32} (hin : vp_in i 8) (hdg : decode cc pc = .ok (.bastore, 1)) (kk : ∀ (H1 : Heap) (locs1 : List Loc), va_P (DD G) vwCl (wM G a (sA q 8 i (vp_nar .boolean x))) H1 → va_S A s.heap H1 locs1 → W p l e R s m args below meth c H1 locs1 cells slots Q (F0 m (pc + 1) ls rest)) : W p l e R s m args below meth c H locs cells slots Q (F0 m pc ls (.int x :: .int i :: .ref (a 8) :: rest)) :=
  va_zast X.1.1 X.1.2.1 X.2.1 hP hD hS 4 4 rfl rfl hin hdg (fun H1 locs1 hP1 _ hS1 => kk H1 locs1 hP1 hS1)
theorem ldM_months (X : CX p s m args meth c cc nL rt RX8 c0 G A) (hP : va_P (DD G) vwCl (wM G a q) H) {i : Int32} (hin : vp_in i 13) (hdg : decode cc pc = .ok (.baload, 1)) (kk : W p l e R s m args below meth c H locs cells slots Q (F0 m (pc + 1) ls (.int (rA q 13 i) :: rest))) : W p l e R s m args below meth c H locs cells slots Q (F0 m pc ls (.int i :: .ref (a 13) :: rest)) :=
  va_zald X.1.1 X.1.2.1 X.2.1 hP 5 4 rfl rfl hin hdg kk
theorem stM_months (X : CX p s m args meth c cc nL rt RX8 c0 G A) (hP : va_P (DD G) vwCl (wM G a q) H) (hD : va_D A (wM G a q)) (hS : va_S A s.heap H locs) {i : Int32} {x : Int32} (hin : vp_in i 13) (hdg : decode cc pc = .ok (.bastore, 1)) (kk : ∀ (H1 : Heap) (locs1 : List Loc), va_P (DD G) vwCl (wM G a (sA q 13 i (vp_nar .boolean x))) H1 → va_S A s.heap H1 locs1 → W p l e R s m args below meth c H1 locs1 cells slots Q (F0 m (pc + 1) ls rest)) : W p l e R s m args below meth c H locs cells slots Q (F0 m pc ls (.int x :: .int i :: .ref (a 13) :: rest)) :=
  va_zast X.1.1 X.1.2.1 X.2.1 hP hD hS 5 4 rfl rfl hin hdg (fun H1 locs1 hP1 _ hS1 => kk H1 locs1 hP1 hS1)
theorem ldM_monthDays (X : CX p s m args meth c cc nL rt RX8 c0 G A) (hP : va_P (DD G) vwCl (wM G a q) H) {i : Int32} (hin : vp_in i 63) (hdg : decode cc pc = .ok (.baload, 1)) (kk : W p l e R s m args below meth c H locs cells slots Q (F0 m (pc + 1) ls (.int (rA q 14 i) :: rest))) : W p l e R s m args below meth c H locs cells slots Q (F0 m pc ls (.int i :: .ref (a 14) :: rest)) :=
  va_zald X.1.1 X.1.2.1 X.2.1 hP 6 4 rfl rfl hin hdg kk
theorem stM_monthDays (X : CX p s m args meth c cc nL rt RX8 c0 G A) (hP : va_P (DD G) vwCl (wM G a q) H) (hD : va_D A (wM G a q)) (hS : va_S A s.heap H locs) {i : Int32} {x : Int32} (hin : vp_in i 63) (hdg : decode cc pc = .ok (.bastore, 1)) (kk : ∀ (H1 : Heap) (locs1 : List Loc), va_P (DD G) vwCl (wM G a (sA q 14 i (vp_nar .boolean x))) H1 → va_S A s.heap H1 locs1 → W p l e R s m args below meth c H1 locs1 cells slots Q (F0 m (pc + 1) ls rest)) : W p l e R s m args below meth c H locs cells slots Q (F0 m pc ls (.int x :: .int i :: .ref (a 14) :: rest)) :=
  va_zast X.1.1 X.1.2.1 X.2.1 hP hD hS 6 4 rfl rfl hin hdg (fun H1 locs1 hP1 _ hS1 => kk H1 locs1 hP1 hS1)
theorem ldM_places (X : CX p s m args meth c cc nL rt RX8 c0 G A) (hP : va_P (DD G) vwCl (wM G a q) H) {i : Int32} (hin : vp_in i 733) (hdg : decode cc pc = .ok (.baload, 1)) (kk : W p l e R s m args below meth c H locs cells slots Q (F0 m (pc + 1) ls (.int (rA q 15 i) :: rest))) : W p l e R s m args below meth c H locs cells slots Q (F0 m pc ls (.int i :: .ref (a 15) :: rest)) :=
  va_zald X.1.1 X.1.2.1 X.2.1 hP 7 4 rfl rfl hin hdg kk
theorem stM_places (X : CX p s m args meth c cc nL rt RX8 c0 G A) (hP : va_P (DD G) vwCl (wM G a q) H) (hD : va_D A (wM G a q)) (hS : va_S A s.heap H locs) {i : Int32} {x : Int32} (hin : vp_in i 733) (hdg : decode cc pc = .ok (.bastore, 1)) (kk : ∀ (H1 : Heap) (locs1 : List Loc), va_P (DD G) vwCl (wM G a (sA q 15 i (vp_nar .boolean x))) H1 → va_S A s.heap H1 locs1 → W p l e R s m args below meth c H1 locs1 cells slots Q (F0 m (pc + 1) ls rest)) : W p l e R s m args below meth c H locs cells slots Q (F0 m pc ls (.int x :: .int i :: .ref (a 15) :: rest)) :=
  va_zast X.1.1 X.1.2.1 X.2.1 hP hD hS 7 4 rfl rfl hin hdg (fun H1 locs1 hP1 _ hS1 => kk H1 locs1 hP1 hS1)
theorem ldM_weekdays (X : CX p s m args meth c cc nL rt RX8 c0 G A) (hP : va_P (DD G) vwCl (wM G a q) H) {i : Int32} (hin : vp_in i 749) (hdg : decode cc pc = .ok (.baload, 1)) (kk : W p l e R s m args below meth c H locs cells slots Q (F0 m (pc + 1) ls (.int (rA q 16 i) :: rest))) : W p l e R s m args below meth c H locs cells slots Q (F0 m pc ls (.int i :: .ref (a 16) :: rest)) :=
  va_zald X.1.1 X.1.2.1 X.2.1 hP 8 4 rfl rfl hin hdg kk
theorem stM_weekdays (X : CX p s m args meth c cc nL rt RX8 c0 G A) (hP : va_P (DD G) vwCl (wM G a q) H) (hD : va_D A (wM G a q)) (hS : va_S A s.heap H locs) {i : Int32} {x : Int32} (hin : vp_in i 749) (hdg : decode cc pc = .ok (.bastore, 1)) (kk : ∀ (H1 : Heap) (locs1 : List Loc), va_P (DD G) vwCl (wM G a (sA q 16 i (vp_nar .boolean x))) H1 → va_S A s.heap H1 locs1 → W p l e R s m args below meth c H1 locs1 cells slots Q (F0 m (pc + 1) ls rest)) : W p l e R s m args below meth c H locs cells slots Q (F0 m pc ls (.int x :: .int i :: .ref (a 16) :: rest)) :=
  va_zast X.1.1 X.1.2.1 X.2.1 hP hD hS 8 4 rfl rfl hin hdg (fun H1 locs1 hP1 _ hS1 => kk H1 locs1 hP1 hS1)
theorem ldM_there (X : CX p s m args meth c cc nL rt RX8 c0 G A) (hP : va_P (DD G) vwCl (wM G a q) H) {i : Int32} (hin : vp_in i 12) (hdg : decode cc pc = .ok (.baload, 1)) (kk : W p l e R s m args below meth c H locs cells slots Q (F0 m (pc + 1) ls (.int (rA q 19 i) :: rest))) : W p l e R s m args below meth c H locs cells slots Q (F0 m pc ls (.int i :: .ref (a 19) :: rest)) :=
  va_zald X.1.1 X.1.2.1 X.2.1 hP 9 4 rfl rfl hin hdg kk
theorem stM_there (X : CX p s m args meth c cc nL rt RX8 c0 G A) (hP : va_P (DD G) vwCl (wM G a q) H) (hD : va_D A (wM G a q)) (hS : va_S A s.heap H locs) {i : Int32} {x : Int32} (hin : vp_in i 12) (hdg : decode cc pc = .ok (.bastore, 1)) (kk : ∀ (H1 : Heap) (locs1 : List Loc), va_P (DD G) vwCl (wM G a (sA q 19 i (vp_nar .boolean x))) H1 → va_S A s.heap H1 locs1 → W p l e R s m args below meth c H1 locs1 cells slots Q (F0 m (pc + 1) ls rest)) : W p l e R s m args below meth c H locs cells slots Q (F0 m pc ls (.int x :: .int i :: .ref (a 19) :: rest)) :=
  va_zast X.1.1 X.1.2.1 X.2.1 hP hD hS 9 4 rfl rfl hin hdg (fun H1 locs1 hP1 _ hS1 => kk H1 locs1 hP1 hS1)
theorem ldM_rule (X : CX p s m args meth c cc nL rt RX8 c0 G A) (hP : va_P (DD G) vwCl (wM G a q) H) {i : Int32} (hin : vp_in i 41100) (hdg : decode cc pc = .ok (.iaload, 1)) (kk : W p l e R s m args below meth c H locs cells slots Q (F0 m (pc + 1) ls (.int (rA q 20 i) :: rest))) : W p l e R s m args below meth c H locs cells slots Q (F0 m pc ls (.int i :: .ref (a 20) :: rest)) :=
  va_iald X.1.1 X.1.2.1 X.2.1 hP 10 2 rfl rfl hin hdg kk
theorem stM_rule (X : CX p s m args meth c cc nL rt RX8 c0 G A) (hP : va_P (DD G) vwCl (wM G a q) H) (hD : va_D A (wM G a q)) (hS : va_S A s.heap H locs) {i : Int32} {x : Int32} (hin : vp_in i 41100) (hdg : decode cc pc = .ok (.iastore, 1)) (kk : ∀ (H1 : Heap) (locs1 : List Loc), va_P (DD G) vwCl (wM G a (sA q 20 i x)) H1 → va_S A s.heap H1 locs1 → W p l e R s m args below meth c H1 locs1 cells slots Q (F0 m (pc + 1) ls rest)) : W p l e R s m args below meth c H locs cells slots Q (F0 m pc ls (.int x :: .int i :: .ref (a 20) :: rest)) :=
  va_iast X.1.1 X.1.2.1 X.2.1 hP hD hS 10 2 rfl rfl hin hdg (fun H1 locs1 hP1 _ hS1 => kk H1 locs1 hP1 hS1)
theorem ldM_excepted (X : CX p s m args meth c cc nL rt RX8 c0 G A) (hP : va_P (DD G) vwCl (wM G a q) H) {i : Int32} (hin : vp_in i 41100) (hdg : decode cc pc = .ok (.iaload, 1)) (kk : W p l e R s m args below meth c H locs cells slots Q (F0 m (pc + 1) ls (.int (rA q 21 i) :: rest))) : W p l e R s m args below meth c H locs cells slots Q (F0 m pc ls (.int i :: .ref (a 21) :: rest)) :=
  va_iald X.1.1 X.1.2.1 X.2.1 hP 11 2 rfl rfl hin hdg kk
theorem stM_excepted (X : CX p s m args meth c cc nL rt RX8 c0 G A) (hP : va_P (DD G) vwCl (wM G a q) H) (hD : va_D A (wM G a q)) (hS : va_S A s.heap H locs) {i : Int32} {x : Int32} (hin : vp_in i 41100) (hdg : decode cc pc = .ok (.iastore, 1)) (kk : ∀ (H1 : Heap) (locs1 : List Loc), va_P (DD G) vwCl (wM G a (sA q 21 i x)) H1 → va_S A s.heap H1 locs1 → W p l e R s m args below meth c H1 locs1 cells slots Q (F0 m (pc + 1) ls rest)) : W p l e R s m args below meth c H locs cells slots Q (F0 m pc ls (.int x :: .int i :: .ref (a 21) :: rest)) :=
  va_iast X.1.1 X.1.2.1 X.2.1 hP hD hS 11 2 rfl rfl hin hdg (fun H1 locs1 hP1 _ hS1 => kk H1 locs1 hP1 hS1)
theorem ldM_added (X : CX p s m args meth c cc nL rt RX8 c0 G A) (hP : va_P (DD G) vwCl (wM G a q) H) {i : Int32} (hin : vp_in i 41100) (hdg : decode cc pc = .ok (.iaload, 1)) (kk : W p l e R s m args below meth c H locs cells slots Q (F0 m (pc + 1) ls (.int (rA q 22 i) :: rest))) : W p l e R s m args below meth c H locs cells slots Q (F0 m pc ls (.int i :: .ref (a 22) :: rest)) :=
  va_iald X.1.1 X.1.2.1 X.2.1 hP 12 2 rfl rfl hin hdg kk
theorem stM_added (X : CX p s m args meth c cc nL rt RX8 c0 G A) (hP : va_P (DD G) vwCl (wM G a q) H) (hD : va_D A (wM G a q)) (hS : va_S A s.heap H locs) {i : Int32} {x : Int32} (hin : vp_in i 41100) (hdg : decode cc pc = .ok (.iastore, 1)) (kk : ∀ (H1 : Heap) (locs1 : List Loc), va_P (DD G) vwCl (wM G a (sA q 22 i x)) H1 → va_S A s.heap H1 locs1 → W p l e R s m args below meth c H1 locs1 cells slots Q (F0 m (pc + 1) ls rest)) : W p l e R s m args below meth c H locs cells slots Q (F0 m pc ls (.int x :: .int i :: .ref (a 22) :: rest)) :=
  va_iast X.1.1 X.1.2.1 X.2.1 hP hD hS 12 2 rfl rfl hin hdg (fun H1 locs1 hP1 _ hS1 => kk H1 locs1 hP1 hS1)
theorem ldM_suiting (X : CX p s m args meth c cc nL rt RX8 c0 G A) (hP : va_P (DD G) vwCl (wM G a q) H) {i : Int32} (hin : vp_in i 366) (hdg : decode cc pc = .ok (.iaload, 1)) (kk : W p l e R s m args below meth c H locs cells slots Q (F0 m (pc + 1) ls (.int (rA q 23 i) :: rest))) : W p l e R s m args below meth c H locs cells slots Q (F0 m pc ls (.int i :: .ref (a 23) :: rest)) :=
  va_iald X.1.1 X.1.2.1 X.2.1 hP 13 2 rfl rfl hin hdg kk
theorem stM_suiting (X : CX p s m args meth c cc nL rt RX8 c0 G A) (hP : va_P (DD G) vwCl (wM G a q) H) (hD : va_D A (wM G a q)) (hS : va_S A s.heap H locs) {i : Int32} {x : Int32} (hin : vp_in i 366) (hdg : decode cc pc = .ok (.iastore, 1)) (kk : ∀ (H1 : Heap) (locs1 : List Loc), va_P (DD G) vwCl (wM G a (sA q 23 i x)) H1 → va_S A s.heap H1 locs1 → W p l e R s m args below meth c H1 locs1 cells slots Q (F0 m (pc + 1) ls rest)) : W p l e R s m args below meth c H locs cells slots Q (F0 m pc ls (.int x :: .int i :: .ref (a 23) :: rest)) :=
  va_iast X.1.1 X.1.2.1 X.2.1 hP hD hS 13 2 rfl rfl hin hdg (fun H1 locs1 hP1 _ hS1 => kk H1 locs1 hP1 hS1)
theorem ldM_items (X : CX p s m args meth c cc nL rt RX8 c0 G A) (hP : va_P (DD G) vwCl (wM G a q) H) {i : Int32} (hin : vp_in i 300) (hdg : decode cc pc = .ok (.laload, 1)) (kk : W p l e R s m args below meth c H locs cells slots Q (F0 m (pc + 1) ls (.long (rL q 24 i) :: rest))) : W p l e R s m args below meth c H locs cells slots Q (F0 m pc ls (.int i :: .ref (a 24) :: rest)) :=
  va_lald X.1.1 X.1.2.1 X.2.1 hP 14 3 rfl rfl hin hdg kk
theorem stM_items (X : CX p s m args meth c cc nL rt RX8 c0 G A) (hP : va_P (DD G) vwCl (wM G a q) H) (hD : va_D A (wM G a q)) (hS : va_S A s.heap H locs) {i : Int32} {x : Int64} (hin : vp_in i 300) (hdg : decode cc pc = .ok (.lastore, 1)) (kk : ∀ (H1 : Heap) (locs1 : List Loc), va_P (DD G) vwCl (wM G a (sL q 24 i x)) H1 → va_S A s.heap H1 locs1 → W p l e R s m args below meth c H1 locs1 cells slots Q (F0 m (pc + 1) ls rest)) : W p l e R s m args below meth c H locs cells slots Q (F0 m pc ls (.long x :: .int i :: .ref (a 24) :: rest)) :=
  va_last X.1.1 X.1.2.1 X.2.1 hP hD hS 14 3 rfl rfl hin hdg (fun H1 locs1 hP1 _ hS1 => kk H1 locs1 hP1 hS1)
theorem bkM_rule {f : Nat → Int32} {H1 : Heap} (hP : va_P (DD G) vwCl (wM G a q) H) (hD : va_D A (wM G a q)) (hk : ∀ x : Nat, x < H.size → x ∉ fs (wB G (fun j => if j = 0 then a 20 else a 0) (pB (q.2.1 20))) → H1[x]? = H[x]?) (hP1 : va_P (DD G) vwCl (wB G (fun j => if j = 0 then a 20 else a 0) (pB f)) H1) : va_P (DD G) vwCl (wM G a (sF q 20 f)) H1 :=
  va_set1 (p := 10) hP hD rfl hk hP1
theorem bkM_excepted {f : Nat → Int32} {H1 : Heap} (hP : va_P (DD G) vwCl (wM G a q) H) (hD : va_D A (wM G a q)) (hk : ∀ x : Nat, x < H.size → x ∉ fs (wB G (fun j => if j = 0 then a 21 else a 0) (pB (q.2.1 21))) → H1[x]? = H[x]?) (hP1 : va_P (DD G) vwCl (wB G (fun j => if j = 0 then a 21 else a 0) (pB f)) H1) : va_P (DD G) vwCl (wM G a (sF q 21 f)) H1 :=
  va_set1 (p := 11) hP hD rfl hk hP1
theorem bkM_added {f : Nat → Int32} {H1 : Heap} (hP : va_P (DD G) vwCl (wM G a q) H) (hD : va_D A (wM G a q)) (hk : ∀ x : Nat, x < H.size → x ∉ fs (wB G (fun j => if j = 0 then a 22 else a 0) (pB (q.2.1 22))) → H1[x]? = H[x]?) (hP1 : va_P (DD G) vwCl (wB G (fun j => if j = 0 then a 22 else a 0) (pB f)) H1) : va_P (DD G) vwCl (wM G a (sF q 22 f)) H1 :=
  va_set1 (p := 12) hP hD rfl hk hP1
theorem bkMr_rule {H1 : Heap} (hP : va_P (DD G) vwCl (wM G a q) H) (hD : va_D A (wM G a q)) (hk : ∀ x : Nat, x < H.size → x ∉ fs (wB G (fun j => if j = 0 then a 20 else a 0) (pB (q.2.1 20))) → H1[x]? = H[x]?) (hP1 : va_P (DD G) vwCl (wB G (fun j => if j = 0 then a 20 else a 0) (pB (q.2.1 20))) H1) : va_P (DD G) vwCl (wM G a q) H1 :=
  va_set1 (p := 10) hP hD rfl hk hP1
theorem bkMr_excepted {H1 : Heap} (hP : va_P (DD G) vwCl (wM G a q) H) (hD : va_D A (wM G a q)) (hk : ∀ x : Nat, x < H.size → x ∉ fs (wB G (fun j => if j = 0 then a 21 else a 0) (pB (q.2.1 21))) → H1[x]? = H[x]?) (hP1 : va_P (DD G) vwCl (wB G (fun j => if j = 0 then a 21 else a 0) (pB (q.2.1 21))) H1) : va_P (DD G) vwCl (wM G a q) H1 :=
  va_set1 (p := 11) hP hD rfl hk hP1
theorem bkMr_added {H1 : Heap} (hP : va_P (DD G) vwCl (wM G a q) H) (hD : va_D A (wM G a q)) (hk : ∀ x : Nat, x < H.size → x ∉ fs (wB G (fun j => if j = 0 then a 22 else a 0) (pB (q.2.1 22))) → H1[x]? = H[x]?) (hP1 : va_P (DD G) vwCl (wB G (fun j => if j = 0 then a 22 else a 0) (pB (q.2.1 22))) H1) : va_P (DD G) vwCl (wM G a q) H1 :=
  va_set1 (p := 12) hP hD rfl hk hP1
theorem ldB (X : CX p s m args meth c cc nL rt RX8 c0 G A) (hP : va_P (DD G) vwCl (wB G a q) H) {i : Int32} (hin : vp_in i 41100) (hdg : decode cc pc = .ok (.iaload, 1)) (kk : W p l e R s m args below meth c H locs cells slots Q (F0 m (pc + 1) ls (.int (rA q 0 i) :: rest))) : W p l e R s m args below meth c H locs cells slots Q (F0 m pc ls (.int i :: .ref (a 0) :: rest)) :=
  va_iald X.1.1 X.1.2.1 X.2.1 hP 0 2 rfl rfl hin hdg kk
theorem stB (X : CX p s m args meth c cc nL rt RX8 c0 G A) (hP : va_P (DD G) vwCl (wB G a q) H) (hD : va_D A (wB G a q)) (hS : va_S A s.heap H locs) {i x : Int32} (hin : vp_in i 41100) (hdg : decode cc pc = .ok (.iastore, 1)) (kk : ∀ (H1 : Heap) (locs1 : List Loc), va_P (DD G) vwCl (wB G a (sA q 0 i x)) H1 → va_S A s.heap H1 locs1 → W p l e R s m args below meth c H1 locs1 cells slots Q (F0 m (pc + 1) ls rest)) : W p l e R s m args below meth c H locs cells slots Q (F0 m pc ls (.int x :: .int i :: .ref (a 0) :: rest)) :=
  va_iast X.1.1 X.1.2.1 X.2.1 hP hD hS 0 2 rfl rfl hin hdg (fun H1 locs1 hP1 _ hS1 => kk H1 locs1 hP1 hS1)
theorem rcM (hK : va_K (DD G) vwCl (TY G) s) (hP : va_P (DD G) vwCl (wM G a q) H) : ∃ cell : Cell, H[a 0]? = some cell ∧ cell.vm.isStatics = false ∧ s.vm.findClass RX8 = some cell.cls := va_recv hK hP (ci := 6) (q0 := 0) rfl rfl
end
