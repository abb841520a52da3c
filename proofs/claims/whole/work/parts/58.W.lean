theorem kw233 : Cond.codeWith ({ cls := "RuledCalendarLaw", name := "feed", desc := "(LRuledCalendar;IJ[J)I" } : MethodName) method_3_code 6 (Option.some FieldType.int) [(0, 11, 14, 13)] ∈ big := mb 233 (by decide +kernel) (by decide +kernel)
theorem kw234 : Cond.classLink "RuledCalendarLaw" 13 "java/lang/IllegalArgumentException" ∈ big := mb 234 (by decide +kernel) (by decide +kernel)
theorem kw235 : Cond.methodLink "RuledCalendarLaw" 7 ({ cls := "RuledCalendar", name := "feed", desc := "(IJ)I" } : MethodName) ∈ big := mb 235 (by decide +kernel) (by decide +kernel)
theorem kw236 : Cond.instanceMethod ({ cls := "RuledCalendar", name := "feed", desc := "(IJ)I" } : MethodName) ∈ big := mb 236 (by decide +kernel) (by decide +kernel)
theorem kw237 : Cond.selects "RuledCalendar" ({ cls := "RuledCalendar", name := "feed", desc := "(IJ)I" } : MethodName) ({ cls := "RuledCalendar", name := "feed", desc := "(IJ)I" } : MethodName) ∈ big := mb 237 (by decide +kernel) (by decide +kernel)
set_option maxRecDepth 20000 in
theorem kw238 : Cond.code yX7_feed cX7_feed 5 (some .int) ∈ big := mb 238 rfl (by decide +kernel)
theorem kw304 : Cond.codeWith ({ cls := "RuledCalendarLaw", name := "thing", desc := "(LRuledCalendar;I[J)I" } : MethodName) method_4_code 4 (Option.some FieldType.int) [(0, 9, 12, 13)] ∈ big := mb 304 (by decide +kernel) (by decide +kernel)
theorem kw305 : Cond.methodLink "RuledCalendarLaw" 15 ({ cls := "RuledCalendar", name := "thing", desc := "(I)I" } : MethodName) ∈ big := mb 305 (by decide +kernel) (by decide +kernel)
theorem kw306 : Cond.instanceMethod ({ cls := "RuledCalendar", name := "thing", desc := "(I)I" } : MethodName) ∈ big := mb 306 (by decide +kernel) (by decide +kernel)
theorem kw307 : Cond.selects "RuledCalendar" ({ cls := "RuledCalendar", name := "thing", desc := "(I)I" } : MethodName) ({ cls := "RuledCalendar", name := "thing", desc := "(I)I" } : MethodName) ∈ big := mb 307 (by decide +kernel) (by decide +kernel)
set_option maxRecDepth 20000 in
theorem kw308 : Cond.code yX7_thing cX7_thing 4 (some .int) ∈ big := mb 308 rfl (by decide +kernel)
theorem kw624 : Cond.codeWith ({ cls := "RuledCalendarLaw", name := "drop", desc := "(LRuledCalendar;I)I" } : MethodName) method_5_code 3 (Option.some FieldType.int) [(0, 5, 8, 23)] ∈ big := mb 624 (by decide +kernel) (by decide +kernel)
theorem kw625 : Cond.classLink "RuledCalendarLaw" 23 "java/lang/IndexOutOfBoundsException" ∈ big := mb 625 (by decide +kernel) (by decide +kernel)
theorem kw626 : Cond.methodLink "RuledCalendarLaw" 19 ({ cls := "RuledCalendar", name := "drop", desc := "(I)V" } : MethodName) ∈ big := mb 626 (by decide +kernel) (by decide +kernel)
theorem kw627 : Cond.instanceMethod ({ cls := "RuledCalendar", name := "drop", desc := "(I)V" } : MethodName) ∈ big := mb 627 (by decide +kernel) (by decide +kernel)
theorem kw628 : Cond.selects "RuledCalendar" ({ cls := "RuledCalendar", name := "drop", desc := "(I)V" } : MethodName) ({ cls := "RuledCalendar", name := "drop", desc := "(I)V" } : MethodName) ∈ big := mb 628 (by decide +kernel) (by decide +kernel)
set_option maxRecDepth 20000 in
theorem kw629 : Cond.code yX7_drop cX7_drop 2 none ∈ big := mb 629 rfl (by decide +kernel)
theorem kw651 : Cond.codeWith ({ cls := "RuledCalendarLaw", name := "except", desc := "(LRuledCalendar;IIZ[J)I" } : MethodName) method_6_code 6 (Option.some FieldType.int) [(0, 19, 22, 23), (0, 19, 26, 13)] ∈ big := mb 651 (by decide +kernel) (by decide +kernel)
theorem kw652 : Cond.methodLink "RuledCalendarLaw" 25 ({ cls := "RuledCalendar", name := "except", desc := "(IIZ)Z" } : MethodName) ∈ big := mb 652 (by decide +kernel) (by decide +kernel)
theorem kw653 : Cond.instanceMethod ({ cls := "RuledCalendar", name := "except", desc := "(IIZ)Z" } : MethodName) ∈ big := mb 653 (by decide +kernel) (by decide +kernel)
theorem kw654 : Cond.selects "RuledCalendar" ({ cls := "RuledCalendar", name := "except", desc := "(IIZ)Z" } : MethodName) ({ cls := "RuledCalendar", name := "except", desc := "(IIZ)Z" } : MethodName) ∈ big := mb 654 (by decide +kernel) (by decide +kernel)
set_option maxRecDepth 20000 in
theorem kw655 : Cond.code yX7_except cX7_except 5 (some .boolean) ∈ big := mb 655 rfl (by decide +kernel)
theorem kw663 : Cond.codeWith ({ cls := "RuledCalendarLaw", name := "besides", desc := "(LRuledCalendar;IIZ[J)I" } : MethodName) method_7_code 6 (Option.some FieldType.int) [(0, 19, 22, 23), (0, 19, 26, 13)] ∈ big := mb 663 (by decide +kernel) (by decide +kernel)
theorem kw664 : Cond.methodLink "RuledCalendarLaw" 29 ({ cls := "RuledCalendar", name := "besides", desc := "(IIZ)Z" } : MethodName) ∈ big := mb 664 (by decide +kernel) (by decide +kernel)
theorem kw665 : Cond.instanceMethod ({ cls := "RuledCalendar", name := "besides", desc := "(IIZ)Z" } : MethodName) ∈ big := mb 665 (by decide +kernel) (by decide +kernel)
theorem kw666 : Cond.selects "RuledCalendar" ({ cls := "RuledCalendar", name := "besides", desc := "(IIZ)Z" } : MethodName) ({ cls := "RuledCalendar", name := "besides", desc := "(IIZ)Z" } : MethodName) ∈ big := mb 666 (by decide +kernel) (by decide +kernel)
set_option maxRecDepth 20000 in
theorem kw667 : Cond.code yX7_besides cX7_besides 5 (some .boolean) ∈ big := mb 667 rfl (by decide +kernel)
theorem kw670 : Cond.codeWith ({ cls := "RuledCalendarLaw", name := "comes", desc := "(LRuledCalendar;II[J)I" } : MethodName) method_8_code 5 (Option.some FieldType.int) [(0, 17, 20, 23), (0, 17, 24, 13)] ∈ big := mb 670 (by decide +kernel) (by decide +kernel)
theorem kw671 : Cond.methodLink "RuledCalendarLaw" 32 ({ cls := "RuledCalendar", name := "comes", desc := "(II)Z" } : MethodName) ∈ big := mb 671 (by decide +kernel) (by decide +kernel)
theorem kw672 : Cond.instanceMethod ({ cls := "RuledCalendar", name := "comes", desc := "(II)Z" } : MethodName) ∈ big := mb 672 (by decide +kernel) (by decide +kernel)
theorem kw673 : Cond.selects "RuledCalendar" ({ cls := "RuledCalendar", name := "comes", desc := "(II)Z" } : MethodName) ({ cls := "RuledCalendar", name := "comes", desc := "(II)Z" } : MethodName) ∈ big := mb 673 (by decide +kernel) (by decide +kernel)
set_option maxRecDepth 20000 in
theorem kw674 : Cond.code yX7_comes cX7_comes 4 (some .boolean) ∈ big := mb 674 rfl (by decide +kernel)
theorem kw683 : Cond.codeWith ({ cls := "RuledCalendarLaw", name := "next", desc := "(LRuledCalendar;II[J)I" } : MethodName) method_9_code 5 (Option.some FieldType.int) [(0, 10, 13, 23), (0, 10, 17, 13)] ∈ big := mb 683 (by decide +kernel) (by decide +kernel)
theorem kw684 : Cond.methodLink "RuledCalendarLaw" 36 ({ cls := "RuledCalendar", name := "next", desc := "(II)I" } : MethodName) ∈ big := mb 684 (by decide +kernel) (by decide +kernel)
theorem kw685 : Cond.instanceMethod ({ cls := "RuledCalendar", name := "next", desc := "(II)I" } : MethodName) ∈ big := mb 685 (by decide +kernel) (by decide +kernel)
theorem kw686 : Cond.selects "RuledCalendar" ({ cls := "RuledCalendar", name := "next", desc := "(II)I" } : MethodName) ({ cls := "RuledCalendar", name := "next", desc := "(II)I" } : MethodName) ∈ big := mb 686 (by decide +kernel) (by decide +kernel)
set_option maxRecDepth 20000 in
theorem kw687 : Cond.code yX7_next cX7_next 8 (some .int) ∈ big := mb 687 rfl (by decide +kernel)
theorem kw695 : Cond.codeWith ({ cls := "RuledCalendarLaw", name := "date", desc := "(LRuledCalendar;II[J)I" } : MethodName) method_10_code 5 (Option.some FieldType.int) [(0, 10, 13, 23), (0, 10, 17, 13)] ∈ big := mb 695 (by decide +kernel) (by decide +kernel)
theorem kw696 : Cond.methodLink "RuledCalendarLaw" 40 ({ cls := "RuledCalendar", name := "date", desc := "(II)I" } : MethodName) ∈ big := mb 696 (by decide +kernel) (by decide +kernel)
theorem kw697 : Cond.instanceMethod ({ cls := "RuledCalendar", name := "date", desc := "(II)I" } : MethodName) ∈ big := mb 697 (by decide +kernel) (by decide +kernel)
theorem kw698 : Cond.selects "RuledCalendar" ({ cls := "RuledCalendar", name := "date", desc := "(II)I" } : MethodName) ({ cls := "RuledCalendar", name := "date", desc := "(II)I" } : MethodName) ∈ big := mb 698 (by decide +kernel) (by decide +kernel)
set_option maxRecDepth 20000 in
theorem kw699 : Cond.code yX7_date cX7_date 9 (some .int) ∈ big := mb 699 rfl (by decide +kernel)
theorem kw704 : Cond.codeWith ({ cls := "RuledCalendarLaw", name := "times", desc := "(LRuledCalendar;III[J)I" } : MethodName) method_11_code 6 (Option.some FieldType.int) [(0, 12, 15, 23), (0, 12, 19, 13)] ∈ big := mb 704 (by decide +kernel) (by decide +kernel)
theorem kw705 : Cond.methodLink "RuledCalendarLaw" 43 ({ cls := "RuledCalendar", name := "times", desc := "(III)I" } : MethodName) ∈ big := mb 705 (by decide +kernel) (by decide +kernel)
theorem kw706 : Cond.instanceMethod ({ cls := "RuledCalendar", name := "times", desc := "(III)I" } : MethodName) ∈ big := mb 706 (by decide +kernel) (by decide +kernel)
theorem kw707 : Cond.selects "RuledCalendar" ({ cls := "RuledCalendar", name := "times", desc := "(III)I" } : MethodName) ({ cls := "RuledCalendar", name := "times", desc := "(III)I" } : MethodName) ∈ big := mb 707 (by decide +kernel) (by decide +kernel)
set_option maxRecDepth 20000 in
theorem kw708 : Cond.code yX7_times cX7_times 8 (some .int) ∈ big := mb 708 rfl (by decide +kernel)
theorem kw712 : Cond.codeWith ({ cls := "RuledCalendarLaw", name := "list", desc := "(LRuledCalendar;II[J)I" } : MethodName) method_12_code 5 (Option.some FieldType.int) [(0, 10, 13, 13)] ∈ big := mb 712 (by decide +kernel) (by decide +kernel)
theorem kw713 : Cond.methodLink "RuledCalendarLaw" 47 ({ cls := "RuledCalendar", name := "list", desc := "(II)I" } : MethodName) ∈ big := mb 713 (by decide +kernel) (by decide +kernel)
theorem kw714 : Cond.instanceMethod ({ cls := "RuledCalendar", name := "list", desc := "(II)I" } : MethodName) ∈ big := mb 714 (by decide +kernel) (by decide +kernel)
theorem kw715 : Cond.selects "RuledCalendar" ({ cls := "RuledCalendar", name := "list", desc := "(II)I" } : MethodName) ({ cls := "RuledCalendar", name := "list", desc := "(II)I" } : MethodName) ∈ big := mb 715 (by decide +kernel) (by decide +kernel)
set_option maxRecDepth 20000 in
theorem kw716 : Cond.code yX7_list cX7_list 5 (some .int) ∈ big := mb 716 rfl (by decide +kernel)
theorem kw736 : Cond.codeWith ({ cls := "RuledCalendarLaw", name := "item", desc := "(LRuledCalendar;I[J)I" } : MethodName) method_13_code 4 (Option.some FieldType.int) [(0, 8, 11, 23)] ∈ big := mb 736 (by decide +kernel) (by decide +kernel)
theorem kw737 : Cond.methodLink "RuledCalendarLaw" 50 ({ cls := "RuledCalendar", name := "item", desc := "(I)J" } : MethodName) ∈ big := mb 737 (by decide +kernel) (by decide +kernel)
theorem kw738 : Cond.instanceMethod ({ cls := "RuledCalendar", name := "item", desc := "(I)J" } : MethodName) ∈ big := mb 738 (by decide +kernel) (by decide +kernel)
theorem kw739 : Cond.selects "RuledCalendar" ({ cls := "RuledCalendar", name := "item", desc := "(I)J" } : MethodName) ({ cls := "RuledCalendar", name := "item", desc := "(I)J" } : MethodName) ∈ big := mb 739 (by decide +kernel) (by decide +kernel)
set_option maxRecDepth 20000 in
theorem kw740 : Cond.code yX7_item cX7_item 2 (some .long) ∈ big := mb 740 rfl (by decide +kernel)
theorem kw743 : Cond.codeWith ({ cls := "RuledCalendarLaw", name := "busiest", desc := "(LRuledCalendar;II[J)I" } : MethodName) method_14_code 5 (Option.some FieldType.int) [(0, 10, 13, 13)] ∈ big := mb 743 (by decide +kernel) (by decide +kernel)
theorem kw744 : Cond.methodLink "RuledCalendarLaw" 54 ({ cls := "RuledCalendar", name := "busiest", desc := "(II)I" } : MethodName) ∈ big := mb 744 (by decide +kernel) (by decide +kernel)
theorem kw745 : Cond.instanceMethod ({ cls := "RuledCalendar", name := "busiest", desc := "(II)I" } : MethodName) ∈ big := mb 745 (by decide +kernel) (by decide +kernel)
theorem kw746 : Cond.selects "RuledCalendar" ({ cls := "RuledCalendar", name := "busiest", desc := "(II)I" } : MethodName) ({ cls := "RuledCalendar", name := "busiest", desc := "(II)I" } : MethodName) ∈ big := mb 746 (by decide +kernel) (by decide +kernel)
set_option maxRecDepth 20000 in
theorem kw747 : Cond.code yX7_busiest cX7_busiest 10 (some .int) ∈ big := mb 747 rfl (by decide +kernel)
theorem kw755 : Cond.codeWith ({ cls := "RuledCalendarLaw", name := "quiet", desc := "(LRuledCalendar;II[J)I" } : MethodName) method_15_code 5 (Option.some FieldType.int) [(0, 10, 13, 13)] ∈ big := mb 755 (by decide +kernel) (by decide +kernel)
theorem kw756 : Cond.methodLink "RuledCalendarLaw" 57 ({ cls := "RuledCalendar", name := "quiet", desc := "(II)I" } : MethodName) ∈ big := mb 756 (by decide +kernel) (by decide +kernel)
theorem kw757 : Cond.instanceMethod ({ cls := "RuledCalendar", name := "quiet", desc := "(II)I" } : MethodName) ∈ big := mb 757 (by decide +kernel) (by decide +kernel)
theorem kw758 : Cond.selects "RuledCalendar" ({ cls := "RuledCalendar", name := "quiet", desc := "(II)I" } : MethodName) ({ cls := "RuledCalendar", name := "quiet", desc := "(II)I" } : MethodName) ∈ big := mb 758 (by decide +kernel) (by decide +kernel)
set_option maxRecDepth 20000 in
theorem kw759 : Cond.code yX7_quiet cX7_quiet 9 (some .int) ∈ big := mb 759 rfl (by decide +kernel)
theorem kw768 : Cond.codeWith ({ cls := "RuledCalendarLaw", name := "shifted", desc := "(LRuledCalendar;II[J)I" } : MethodName) method_16_code 5 (Option.some FieldType.int) [(0, 10, 13, 13)] ∈ big := mb 768 (by decide +kernel) (by decide +kernel)
theorem kw769 : Cond.methodLink "RuledCalendarLaw" 60 ({ cls := "RuledCalendar", name := "shifted", desc := "(II)I" } : MethodName) ∈ big := mb 769 (by decide +kernel) (by decide +kernel)
theorem kw770 : Cond.instanceMethod ({ cls := "RuledCalendar", name := "shifted", desc := "(II)I" } : MethodName) ∈ big := mb 770 (by decide +kernel) (by decide +kernel)
theorem kw771 : Cond.selects "RuledCalendar" ({ cls := "RuledCalendar", name := "shifted", desc := "(II)I" } : MethodName) ({ cls := "RuledCalendar", name := "shifted", desc := "(II)I" } : MethodName) ∈ big := mb 771 (by decide +kernel) (by decide +kernel)
set_option maxRecDepth 20000 in
theorem kw772 : Cond.code yX7_shifted cX7_shifted 5 (some .int) ∈ big := mb 772 rfl (by decide +kernel)
def moL_feed (n : Nat) (z q : Pc4) (f : Nat → Int64) (x1 : Int32) (x2 : Int64) : Option LRes := hL1 0 (moQ7_feed n z x1 x2 q) z q f (fun x => (0, z, x.2, vp_updL f 0 x.1.toInt64))
set_option maxHeartbeats 4000000 in
set_option maxRecDepth 100000 in
theorem cL_w_feed {l : Launch} {G : Ev} {a : Nat → Nat} {z q : Pc4} {n o : Nat} {f : Nat → Int64} {x1 : Int32} {x2 : Int64} {res : LRes} (hst : l.stackTraces = false) (hm : moL_feed n z q f x1 x2 = some res) : CtL l G yL_feed cL_feed 6 [(0, 11, 14, 13)] 7 113 1 6 [.ref (a 0), .int x1, .long x2, .ref o] a (wL G a z q o f) o res := by
  intro sz
  refine enterL (by decide) (Nat.le_of_ble_eq_true rfl) ?_
  intro p e s m args below meth c ls XL hsz hP hD hS hl
  subst hsz
  obtain ⟨X, htb, hX, hN⟩ := XL
  obtain ⟨⟨hx, hb, hml, hown, hts⟩, hK, hr, hlk, hA, hAs, hSta⟩ := id X
  have hl : lv_has ls 6 [(0, .ref (a 0)), (1, .int x1), (2, .long x2), (4, .ref o)] := hl
  unfold moL_feed at hm
  refine lv_aload hx hb dL_feed_0 (lv_at hl 3 rfl) ?_
  refine lv_iconst (v := 0) hx hb dL_feed_2 (by decide) ?_
  refine lv_aload_n hx hb dL_feed_3 rfl (lv_at hl 0 rfl) ?_
  refine lv_iload_n hx hb dL_feed_4 rfl (lv_at hl 1 rfl) ?_
  refine lv_lload_n hx hb dL_feed_5 rfl (lv_at hl 2 rfl) ?_
  rcases hL1_s hm with ⟨e_1, h_1⟩ | ⟨x, e_1, h_1⟩
  · have hsub := AL_sub hS hA (va_D_pre hD)
    subst h_1
    refine lcI_t (n := 2) (C := RX7) 0 X hX (cQ7_feed (a := a) hst e_1) (gV kw235 kw236 kw237 kw1 kw238) (by decide +kernel) ⟨by decide, by decide⟩ (rc_cal hK (va_P_pre hP)) (va_P_pre hP) (va_D_pre hD) hS rfl rfl hl.1 (Nat.le_of_ble_eq_true rfl) dL_feed_6 ⟨by decide, by decide⟩ (fun ce q9 H locs hP1 hk hS g1 g2 g3 => ?_)
    obtain ⟨hP, hD⟩ := va_glue (wr := [oA G o f]) hP hD hk hsub hP1 (zD_AL rfl (va_D_pre hD))
    refine vx_catch (name := exn 0) (E := exn 0) hown [] ⟨0, 11, 14, 13⟩ [] htb (fun z hz => by cases hz) (by decide) (by decide) (hts _ (List.mem_cons_of_mem _ kw234)) (va_Nw.use rfl hX.2.2.2.2.2.1) g1 g2 g3 ?_
    refine lv_astore (lv' := [(5, .ref q9), (0, .ref (a 0)), (1, .int x1), (2, .long x2), (4, .ref o)]) hx hb dL_feed_14 hl (by decide) rfl (fun ls hl => ?_)
    refine lv_iconst (v := 1) hx hb dL_feed_16 (by decide) ?_
    refine W.widen (k := 1) (n := 6) (by decide) (by decide) ?_
    exact lret a X rfl rfl hP hD hS dL_feed_17
  · subst h_1
    have hsub := AL_sub hS hA (va_D_pre hD)
    refine lcI (n := 2) (C := RX7) X hX (cQ7_feed (a := a) hst e_1) (gV kw235 kw236 kw237 kw1 kw238) (by decide +kernel) ⟨by decide, by decide⟩ (rc_cal hK (va_P_pre hP)) (va_P_pre hP) (va_D_pre hD) hS rfl rfl hl.1 (Nat.le_of_ble_eq_true rfl) dL_feed_6 ⟨by decide, by decide⟩ (fun H locs hP1 hk hS => ?_)
    obtain ⟨hP, hD⟩ := va_glue (wr := [oA G o f]) hP hD hk hsub hP1 (zD_AL rfl (va_D_pre hD))
    refine W.widen (k := 1) (n := 6) (by decide) (by decide) ?_
    have hP : va_P (DD G) vwCl (wL G a z x.2 o f) H := hP
    have hD : va_D (AL (fs (wL G a z q o f)) s.heap.size) (wL G a z x.2 o f) := hD
    refine lv_i2l (v := x.1.toInt64) hx hb dL_feed_9 rfl ?_
    refine outSt X hP hD hS dL_feed_10 (fun H locs hP hD hS => ?_)
    refine lv_goto (tgt := 18) hx hb dL_feed_11 (by decide) ?_
    refine lv_iconst (v := 0) hx hb dL_feed_18 (by decide) ?_
    exact lret a X rfl rfl hP hD hS dL_feed_19

def moL_thing (n : Nat) (z q : Pc4) (f : Nat → Int64) (x1 : Int32) : Option LRes := hL1 0 (moQ7_thing n z x1 q) z q f (fun x => (0, x.2.1, x.2.2, vp_updL f 0 x.1.toInt64))
set_option maxHeartbeats 4000000 in
set_option maxRecDepth 100000 in
theorem cL_w_thing {l : Launch} {G : Ev} {a : Nat → Nat} {z q : Pc4} {n o : Nat} {f : Nat → Int64} {x1 : Int32} {res : LRes} (hst : l.stackTraces = false) (hm : moL_thing n z q f x1 = some res) : CtL l G yL_thing cL_thing 4 [(0, 9, 12, 13)] 10 222 5 10810 [.ref (a 0), .int x1, .ref o] a (wL G a z q o f) o res := by
  intro sz
  refine enterL (by decide) (Nat.le_of_ble_eq_true rfl) ?_
  intro p e s m args below meth c ls XL hsz hP hD hS hl
  subst hsz
  obtain ⟨X, htb, hX, hN⟩ := XL
  obtain ⟨⟨hx, hb, hml, hown, hts⟩, hK, hr, hlk, hA, hAs, hSta⟩ := id X
  have hl : lv_has ls 4 [(0, .ref (a 0)), (1, .int x1), (2, .ref o)] := hl
  unfold moL_thing at hm
  refine lv_aload_n hx hb dL_thing_0 rfl (lv_at hl 2 rfl) ?_
  refine lv_iconst (v := 0) hx hb dL_thing_1 (by decide) ?_
  refine lv_aload_n hx hb dL_thing_2 rfl (lv_at hl 0 rfl) ?_
  refine lv_iload_n hx hb dL_thing_3 rfl (lv_at hl 1 rfl) ?_
  rcases hL1_s hm with ⟨e_1, h_1⟩ | ⟨x, e_1, h_1⟩
  · have hsub := AL_sub hS hA (va_D_pre hD)
    subst h_1
    refine lcT_t (n := 1) (C := RX7) 0 X hX (cQ7_thing (a := a) hst e_1) (gV kw305 kw306 kw307 kw1 kw308) (by decide +kernel) ⟨by decide, by decide⟩ (rc_cal hK (va_P_pre hP)) (va_P_pre hP) (va_D_pre hD) hS rfl rfl hl.1 (Nat.le_of_ble_eq_true rfl) dL_thing_4 ⟨by decide, by decide⟩ (fun ce q9 H locs hP1 hk hS g1 g2 g3 => ?_)
    obtain ⟨hP, hD⟩ := va_glue (wr := [oA G o f]) hP hD hk hsub hP1 (zD_AL rfl (va_D_pre hD))
    refine vx_catch (name := exn 0) (E := exn 0) hown [] ⟨0, 9, 12, 13⟩ [] htb (fun z hz => by cases hz) (by decide) (by decide) (hts _ (List.mem_cons_of_mem _ kw234)) (va_Nw.use rfl hX.2.2.2.2.2.1) g1 g2 g3 ?_
    refine lv_astore_n (lv' := [(3, .ref q9), (0, .ref (a 0)), (1, .int x1), (2, .ref o)]) hx hb dL_thing_12 rfl hl (by decide) rfl (fun ls hl => ?_)
    refine lv_iconst (v := 1) hx hb dL_thing_13 (by decide) ?_
    refine W.widen (k := 5) (n := 10810) (by decide) (by decide) ?_
    exact lret a X rfl rfl hP hD hS dL_thing_14
  · subst h_1
    have hsub := AL_sub hS hA (va_D_pre hD)
    obtain ⟨v, z1, q1⟩ := x
    refine lcT (n := 1) (C := RX7) X hX (cQ7_thing (a := a) hst e_1) (gV kw305 kw306 kw307 kw1 kw308) (by decide +kernel) ⟨by decide, by decide⟩ (rc_cal hK (va_P_pre hP)) (va_P_pre hP) (va_D_pre hD) hS rfl rfl hl.1 (Nat.le_of_ble_eq_true rfl) dL_thing_4 ⟨by decide, by decide⟩ (fun a1 H locs ha hP1 hD1 hk hS => ?_)
    obtain ⟨hP, hD⟩ := va_glue (wr := [oA G o f]) hP hD hk hsub hP1 hD1
    refine W.widen (k := 5) (n := 10810) (by decide) (by decide) ?_
    have hP : va_P (DD G) vwCl (wL G a1 z1 q1 o f) H := hP
    have hD : va_D (AL (fs (wL G a z q o f)) s.heap.size) (wL G a1 z1 q1 o f) := hD
    refine lv_i2l (v := v.toInt64) hx hb dL_thing_7 rfl ?_
    refine outSt X hP hD hS dL_thing_8 (fun H locs hP hD hS => ?_)
    refine lv_goto (tgt := 15) hx hb dL_thing_9 (by decide) ?_
    refine lv_iconst (v := 0) hx hb dL_thing_15 (by decide) ?_
    exact lret a1 X rfl ha hP hD hS dL_thing_16

def moL_drop (n : Nat) (z q : Pc4) (f : Nat → Int64) (x1 : Int32) : Option LRes := hL1 1 (moQ7_drop n z x1 q) z q f (fun x => (0, x, q, f))
set_option maxHeartbeats 4000000 in
set_option maxRecDepth 100000 in
theorem cL_w_drop {l : Launch} {G : Ev} {a : Nat → Nat} {z q : Pc4} {n o : Nat} {f : Nat → Int64} {x1 : Int32} {res : LRes} (hst : l.stackTraces = false) (hm : moL_drop n z q f x1 = some res) : CtL l G yL_drop cL_drop 3 [(0, 5, 8, 23)] 8 132 1 6 [.ref (a 0), .int x1] a (wL G a z q o f) o res := by
  intro sz
  refine enterL (by decide) (Nat.le_of_ble_eq_true rfl) ?_
  intro p e s m args below meth c ls XL hsz hP hD hS hl
  subst hsz
  obtain ⟨X, htb, hX, hN⟩ := XL
  obtain ⟨⟨hx, hb, hml, hown, hts⟩, hK, hr, hlk, hA, hAs, hSta⟩ := id X
  have hl : lv_has ls 3 [(0, .ref (a 0)), (1, .int x1)] := hl
  unfold moL_drop at hm
  refine lv_aload_n hx hb dL_drop_0 rfl (lv_at hl 0 rfl) ?_
  refine lv_iload_n hx hb dL_drop_1 rfl (lv_at hl 1 rfl) ?_
  rcases hL1_s hm with ⟨e_1, h_1⟩ | ⟨x, e_1, h_1⟩
  · have hsub := AL_sub hS hA (va_D_pre hD)
    subst h_1
    refine lcV_t (n := 1) (C := RX7) 1 X hX (cQ7_drop (a := a) hst e_1) (gV kw626 kw627 kw628 kw1 kw629) (by decide +kernel) ⟨by decide, by decide⟩ (rc_cal hK (va_P_pre hP)) (va_P_pre hP) (va_D_pre hD) hS rfl rfl hl.1 (Nat.le_of_ble_eq_true rfl) dL_drop_2 ⟨by decide, by decide⟩ (fun ce q9 H locs hP1 hk hS g1 g2 g3 => ?_)
    obtain ⟨hP, hD⟩ := va_glue (wr := [oA G o f]) hP hD hk hsub hP1 (zD_AL rfl (va_D_pre hD))
    refine vx_catch (name := exn 1) (E := exn 1) hown [] ⟨0, 5, 8, 23⟩ [] htb (fun z hz => by cases hz) (by decide) (by decide) (hts _ (List.mem_cons_of_mem _ kw625)) (va_Nw.use rfl hX.2.2.2.2.2.2) g1 g2 g3 ?_
    refine lv_astore_n (lv' := [(2, .ref q9), (0, .ref (a 0)), (1, .int x1)]) hx hb dL_drop_8 rfl hl (by decide) rfl (fun ls hl => ?_)
    refine lv_iconst (v := 1) hx hb dL_drop_9 (by decide) ?_
    refine W.widen (k := 1) (n := 6) (by decide) (by decide) ?_
    exact lret a X rfl rfl hP hD hS dL_drop_10
  · subst h_1
    have hsub := AL_sub hS hA (va_D_pre hD)
    refine lcV (n := 1) (C := RX7) X hX (cQ7_drop (a := a) hst e_1) (gV kw626 kw627 kw628 kw1 kw629) (by decide +kernel) ⟨by decide, by decide⟩ (rc_cal hK (va_P_pre hP)) (va_P_pre hP) (va_D_pre hD) hS rfl rfl hl.1 (Nat.le_of_ble_eq_true rfl) dL_drop_2 ⟨by decide, by decide⟩ (fun H locs hP1 hk hS => ?_)
    obtain ⟨hP, hD⟩ := va_glue (wr := [oA G o f]) hP hD hk hsub hP1 (zD_AL (drop_fl e_1) (va_D_pre hD))
    refine W.widen (k := 1) (n := 6) (by decide) (by decide) ?_
    have hP : va_P (DD G) vwCl (wL G a x q o f) H := hP
    have hD : va_D (AL (fs (wL G a z q o f)) s.heap.size) (wL G a x q o f) := hD
    refine lv_goto (tgt := 11) hx hb dL_drop_5 (by decide) ?_
    refine lv_iconst (v := 0) hx hb dL_drop_11 (by decide) ?_
    exact lret a X rfl rfl hP hD hS dL_drop_12

def moL_except (n : Nat) (z q : Pc4) (f : Nat → Int64) (x1 : Int32) (x2 : Int32) (x3 : Int32) : Option LRes := hL2 (moQ7_except n z x1 x2 x3 q) z q f (fun x => (0, x.2, q, vp_updL f 0 (if x.1 = 0 then 0 else 1)))
set_option maxHeartbeats 4000000 in
set_option maxRecDepth 100000 in
theorem cL_w_except {l : Launch} {G : Ev} {a : Nat → Nat} {z q : Pc4} {n o : Nat} {f : Nat → Int64} {x1 : Int32} {x2 : Int32} {x3 : Int32} {res : LRes} (hst : l.stackTraces = false) (hm : moL_except n z q f x1 x2 x3 = some res) : CtL l G yL_except cL_except 6 [(0, 19, 22, 23), (0, 19, 26, 13)] 8 135 2 12 [.ref (a 0), .int x1, .int x2, .int x3, .ref o] a (wL G a z q o f) o res := by
  intro sz
  refine enterL (by decide) (Nat.le_of_ble_eq_true rfl) ?_
  intro p e s m args below meth c ls XL hsz hP hD hS hl
  subst hsz
  obtain ⟨X, htb, hX, hN⟩ := XL
  obtain ⟨⟨hx, hb, hml, hown, hts⟩, hK, hr, hlk, hA, hAs, hSta⟩ := id X
  have hl : lv_has ls 6 [(0, .ref (a 0)), (1, .int x1), (2, .int x2), (3, .int x3), (4, .ref o)] := hl
  unfold moL_except at hm
  refine lv_aload hx hb dL_except_0 (lv_at hl 4 rfl) ?_
  refine lv_iconst (v := 0) hx hb dL_except_2 (by decide) ?_
  refine lv_aload_n hx hb dL_except_3 rfl (lv_at hl 0 rfl) ?_
  refine lv_iload_n hx hb dL_except_4 rfl (lv_at hl 1 rfl) ?_
  refine lv_iload_n hx hb dL_except_5 rfl (lv_at hl 2 rfl) ?_
  refine lv_iload_n hx hb dL_except_6 rfl (lv_at hl 3 rfl) ?_
  rcases hL2_s hm with ⟨e_1, h_1⟩ | ⟨e_1, h_1⟩ | ⟨x, e_1, h_1⟩
  · have hsub := AL_sub hS hA (va_D_pre hD)
    subst h_1
    refine lcI_t (n := 3) (C := RX7) 1 X hX (cQ7_except (a := a) hst e_1) (gV kw652 kw653 kw654 kw1 kw655) (by decide +kernel) ⟨by decide, by decide⟩ (rc_cal hK (va_P_pre hP)) (va_P_pre hP) (va_D_pre hD) hS rfl rfl hl.1 (Nat.le_of_ble_eq_true rfl) dL_except_7 ⟨by decide, by decide⟩ (fun ce q9 H locs hP1 hk hS g1 g2 g3 => ?_)
    obtain ⟨hP, hD⟩ := va_glue (wr := [oA G o f]) hP hD hk hsub hP1 (zD_AL rfl (va_D_pre hD))
    refine vx_catch (name := exn 1) (E := exn 1) hown [] ⟨0, 19, 22, 23⟩ [⟨0, 19, 26, 13⟩] htb (fun z hz => by cases hz) (by decide) (by decide) (hts _ (List.mem_cons_of_mem _ kw625)) (va_Nw.use rfl hX.2.2.2.2.2.2) g1 g2 g3 ?_
    refine lv_astore (lv' := [(5, .ref q9), (0, .ref (a 0)), (1, .int x1), (2, .int x2), (3, .int x3), (4, .ref o)]) hx hb dL_except_22 hl (by decide) rfl (fun ls hl => ?_)
    refine lv_iconst (v := 1) hx hb dL_except_24 (by decide) ?_
    refine W.widen (k := 2) (n := 12) (by decide) (by decide) ?_
    exact lret a X rfl rfl hP hD hS dL_except_25
  · have hsub := AL_sub hS hA (va_D_pre hD)
    subst h_1
    refine lcI_t (n := 3) (C := RX7) 0 X hX (cQ7_except (a := a) hst e_1) (gV kw652 kw653 kw654 kw1 kw655) (by decide +kernel) ⟨by decide, by decide⟩ (rc_cal hK (va_P_pre hP)) (va_P_pre hP) (va_D_pre hD) hS rfl rfl hl.1 (Nat.le_of_ble_eq_true rfl) dL_except_7 ⟨by decide, by decide⟩ (fun ce q9 H locs hP1 hk hS g1 g2 g3 => ?_)
    obtain ⟨hP, hD⟩ := va_glue (wr := [oA G o f]) hP hD hk hsub hP1 (zD_AL rfl (va_D_pre hD))
    refine vx_catch (name := exn 0) (E := exn 0) hown [⟨0, 19, 22, 23⟩] ⟨0, 19, 26, 13⟩ [] htb (fun z hz => by cases List.mem_singleton.mp hz; exact Or.inr ⟨by decide, exn 1, hts _ (List.mem_cons_of_mem _ kw625), hN⟩) (by decide) (by decide) (hts _ (List.mem_cons_of_mem _ kw234)) (va_Nw.use rfl hX.2.2.2.2.2.1) g1 g2 g3 ?_
    refine lv_astore (lv' := [(5, .ref q9), (0, .ref (a 0)), (1, .int x1), (2, .int x2), (3, .int x3), (4, .ref o)]) hx hb dL_except_26 hl (by decide) rfl (fun ls hl => ?_)
    refine lv_iconst (v := 2) hx hb dL_except_28 (by decide) ?_
    refine W.widen (k := 2) (n := 12) (by decide) (by decide) ?_
    exact lret a X rfl rfl hP hD hS dL_except_29
  · subst h_1
    have hsub := AL_sub hS hA (va_D_pre hD)
    refine lcI (n := 3) (C := RX7) X hX (cQ7_except (a := a) hst e_1) (gV kw652 kw653 kw654 kw1 kw655) (by decide +kernel) ⟨by decide, by decide⟩ (rc_cal hK (va_P_pre hP)) (va_P_pre hP) (va_D_pre hD) hS rfl rfl hl.1 (Nat.le_of_ble_eq_true rfl) dL_except_7 ⟨by decide, by decide⟩ (fun H locs hP1 hk hS => ?_)
    obtain ⟨hP, hD⟩ := va_glue (wr := [oA G o f]) hP hD hk hsub hP1 (zD_AL (except_fl e_1) (va_D_pre hD))
    refine W.widen (k := 2) (n := 12) (by decide) (by decide) ?_
    have hP : va_P (DD G) vwCl (wL G a x.2 q o f) H := hP
    have hD : va_D (AL (fs (wL G a z q o f)) s.heap.size) (wL G a x.2 q o f) := hD
    refine lv_if_eq (tgt := 17) hx hb dL_except_10 (by decide) (fun c_1 => ?_) (fun c_1 => ?_)
    · rw [if_pos c_1]
      refine lv_lconst (v := 0) hx hb dL_except_17 (by decide) ?_
      refine outSt X hP hD hS dL_except_18 (fun H locs hP hD hS => ?_)
      refine lv_goto (tgt := 30) hx hb dL_except_19 (by decide) ?_
      refine lv_iconst (v := 0) hx hb dL_except_30 (by decide) ?_
      exact lret a X rfl rfl hP hD hS dL_except_31
    · rw [if_neg c_1]
      refine lv_lconst (v := 1) hx hb dL_except_13 (by decide) ?_
      refine lv_goto (tgt := 18) hx hb dL_except_14 (by decide) ?_
      refine outSt X hP hD hS dL_except_18 (fun H locs hP hD hS => ?_)
      refine lv_goto (tgt := 30) hx hb dL_except_19 (by decide) ?_
      refine lv_iconst (v := 0) hx hb dL_except_30 (by decide) ?_
      exact lret a X rfl rfl hP hD hS dL_except_31

def moL_besides (n : Nat) (z q : Pc4) (f : Nat → Int64) (x1 : Int32) (x2 : Int32) (x3 : Int32) : Option LRes := hL2 (moQ7_besides n z x1 x2 x3 q) z q f (fun x => (0, x.2, q, vp_updL f 0 (if x.1 = 0 then 0 else 1)))
set_option maxHeartbeats 4000000 in
set_option maxRecDepth 100000 in
theorem cL_w_besides {l : Launch} {G : Ev} {a : Nat → Nat} {z q : Pc4} {n o : Nat} {f : Nat → Int64} {x1 : Int32} {x2 : Int32} {x3 : Int32} {res : LRes} (hst : l.stackTraces = false) (hm : moL_besides n z q f x1 x2 x3 = some res) : CtL l G yL_besides cL_besides 6 [(0, 19, 22, 23), (0, 19, 26, 13)] 8 135 2 12 [.ref (a 0), .int x1, .int x2, .int x3, .ref o] a (wL G a z q o f) o res := by
  intro sz
  refine enterL (by decide) (Nat.le_of_ble_eq_true rfl) ?_
  intro p e s m args below meth c ls XL hsz hP hD hS hl
  subst hsz
  obtain ⟨X, htb, hX, hN⟩ := XL
  obtain ⟨⟨hx, hb, hml, hown, hts⟩, hK, hr, hlk, hA, hAs, hSta⟩ := id X
  have hl : lv_has ls 6 [(0, .ref (a 0)), (1, .int x1), (2, .int x2), (3, .int x3), (4, .ref o)] := hl
  unfold moL_besides at hm
  refine lv_aload hx hb dL_besides_0 (lv_at hl 4 rfl) ?_
  refine lv_iconst (v := 0) hx hb dL_besides_2 (by decide) ?_
  refine lv_aload_n hx hb dL_besides_3 rfl (lv_at hl 0 rfl) ?_
  refine lv_iload_n hx hb dL_besides_4 rfl (lv_at hl 1 rfl) ?_
  refine lv_iload_n hx hb dL_besides_5 rfl (lv_at hl 2 rfl) ?_
  refine lv_iload_n hx hb dL_besides_6 rfl (lv_at hl 3 rfl) ?_
  rcases hL2_s hm with ⟨e_1, h_1⟩ | ⟨e_1, h_1⟩ | ⟨x, e_1, h_1⟩
  · have hsub := AL_sub hS hA (va_D_pre hD)
    subst h_1
    refine lcI_t (n := 3) (C := RX7) 1 X hX (cQ7_besides (a := a) hst e_1) (gV kw664 kw665 kw666 kw1 kw667) (by decide +kernel) ⟨by decide, by decide⟩ (rc_cal hK (va_P_pre hP)) (va_P_pre hP) (va_D_pre hD) hS rfl rfl hl.1 (Nat.le_of_ble_eq_true rfl) dL_besides_7 ⟨by decide, by decide⟩ (fun ce q9 H locs hP1 hk hS g1 g2 g3 => ?_)
    obtain ⟨hP, hD⟩ := va_glue (wr := [oA G o f]) hP hD hk hsub hP1 (zD_AL rfl (va_D_pre hD))
    refine vx_catch (name := exn 1) (E := exn 1) hown [] ⟨0, 19, 22, 23⟩ [⟨0, 19, 26, 13⟩] htb (fun z hz => by cases hz) (by decide) (by decide) (hts _ (List.mem_cons_of_mem _ kw625)) (va_Nw.use rfl hX.2.2.2.2.2.2) g1 g2 g3 ?_
    refine lv_astore (lv' := [(5, .ref q9), (0, .ref (a 0)), (1, .int x1), (2, .int x2), (3, .int x3), (4, .ref o)]) hx hb dL_besides_22 hl (by decide) rfl (fun ls hl => ?_)
    refine lv_iconst (v := 1) hx hb dL_besides_24 (by decide) ?_
    refine W.widen (k := 2) (n := 12) (by decide) (by decide) ?_
    exact lret a X rfl rfl hP hD hS dL_besides_25
  · have hsub := AL_sub hS hA (va_D_pre hD)
    subst h_1
    refine lcI_t (n := 3) (C := RX7) 0 X hX (cQ7_besides (a := a) hst e_1) (gV kw664 kw665 kw666 kw1 kw667) (by decide +kernel) ⟨by decide, by decide⟩ (rc_cal hK (va_P_pre hP)) (va_P_pre hP) (va_D_pre hD) hS rfl rfl hl.1 (Nat.le_of_ble_eq_true rfl) dL_besides_7 ⟨by decide, by decide⟩ (fun ce q9 H locs hP1 hk hS g1 g2 g3 => ?_)
    obtain ⟨hP, hD⟩ := va_glue (wr := [oA G o f]) hP hD hk hsub hP1 (zD_AL rfl (va_D_pre hD))
    refine vx_catch (name := exn 0) (E := exn 0) hown [⟨0, 19, 22, 23⟩] ⟨0, 19, 26, 13⟩ [] htb (fun z hz => by cases List.mem_singleton.mp hz; exact Or.inr ⟨by decide, exn 1, hts _ (List.mem_cons_of_mem _ kw625), hN⟩) (by decide) (by decide) (hts _ (List.mem_cons_of_mem _ kw234)) (va_Nw.use rfl hX.2.2.2.2.2.1) g1 g2 g3 ?_
    refine lv_astore (lv' := [(5, .ref q9), (0, .ref (a 0)), (1, .int x1), (2, .int x2), (3, .int x3), (4, .ref o)]) hx hb dL_besides_26 hl (by decide) rfl (fun ls hl => ?_)
    refine lv_iconst (v := 2) hx hb dL_besides_28 (by decide) ?_
    refine W.widen (k := 2) (n := 12) (by decide) (by decide) ?_
    exact lret a X rfl rfl hP hD hS dL_besides_29
  · subst h_1
    have hsub := AL_sub hS hA (va_D_pre hD)
    refine lcI (n := 3) (C := RX7) X hX (cQ7_besides (a := a) hst e_1) (gV kw664 kw665 kw666 kw1 kw667) (by decide +kernel) ⟨by decide, by decide⟩ (rc_cal hK (va_P_pre hP)) (va_P_pre hP) (va_D_pre hD) hS rfl rfl hl.1 (Nat.le_of_ble_eq_true rfl) dL_besides_7 ⟨by decide, by decide⟩ (fun H locs hP1 hk hS => ?_)
    obtain ⟨hP, hD⟩ := va_glue (wr := [oA G o f]) hP hD hk hsub hP1 (zD_AL (besides_fl e_1) (va_D_pre hD))
    refine W.widen (k := 2) (n := 12) (by decide) (by decide) ?_
    have hP : va_P (DD G) vwCl (wL G a x.2 q o f) H := hP
    have hD : va_D (AL (fs (wL G a z q o f)) s.heap.size) (wL G a x.2 q o f) := hD
    refine lv_if_eq (tgt := 17) hx hb dL_besides_10 (by decide) (fun c_1 => ?_) (fun c_1 => ?_)
    · rw [if_pos c_1]
      refine lv_lconst (v := 0) hx hb dL_besides_17 (by decide) ?_
      refine outSt X hP hD hS dL_besides_18 (fun H locs hP hD hS => ?_)
      refine lv_goto (tgt := 30) hx hb dL_besides_19 (by decide) ?_
      refine lv_iconst (v := 0) hx hb dL_besides_30 (by decide) ?_
      exact lret a X rfl rfl hP hD hS dL_besides_31
    · rw [if_neg c_1]
      refine lv_lconst (v := 1) hx hb dL_besides_13 (by decide) ?_
      refine lv_goto (tgt := 18) hx hb dL_besides_14 (by decide) ?_
      refine outSt X hP hD hS dL_besides_18 (fun H locs hP hD hS => ?_)
      refine lv_goto (tgt := 30) hx hb dL_besides_19 (by decide) ?_
      refine lv_iconst (v := 0) hx hb dL_besides_30 (by decide) ?_
      exact lret a X rfl rfl hP hD hS dL_besides_31

def moL_comes (n : Nat) (z q : Pc4) (f : Nat → Int64) (x1 : Int32) (x2 : Int32) : Option LRes := hL2 (moQ7_comes n z x1 x2 q) z q f (fun x => (0, z, q, vp_updL f 0 (if x = 0 then 0 else 1)))
set_option maxHeartbeats 4000000 in
set_option maxRecDepth 100000 in
theorem cL_w_comes {l : Launch} {G : Ev} {a : Nat → Nat} {z q : Pc4} {n o : Nat} {f : Nat → Int64} {x1 : Int32} {x2 : Int32} {res : LRes} (hst : l.stackTraces = false) (hm : moL_comes n z q f x1 x2 = some res) : CtL l G yL_comes cL_comes 5 [(0, 17, 20, 23), (0, 17, 24, 13)] 8 134 2 12 [.ref (a 0), .int x1, .int x2, .ref o] a (wL G a z q o f) o res := by
  intro sz
  refine enterL (by decide) (Nat.le_of_ble_eq_true rfl) ?_
  intro p e s m args below meth c ls XL hsz hP hD hS hl
  subst hsz
  obtain ⟨X, htb, hX, hN⟩ := XL
  obtain ⟨⟨hx, hb, hml, hown, hts⟩, hK, hr, hlk, hA, hAs, hSta⟩ := id X
  have hl : lv_has ls 5 [(0, .ref (a 0)), (1, .int x1), (2, .int x2), (3, .ref o)] := hl
  unfold moL_comes at hm
  refine lv_aload_n hx hb dL_comes_0 rfl (lv_at hl 3 rfl) ?_
  refine lv_iconst (v := 0) hx hb dL_comes_1 (by decide) ?_
  refine lv_aload_n hx hb dL_comes_2 rfl (lv_at hl 0 rfl) ?_
  refine lv_iload_n hx hb dL_comes_3 rfl (lv_at hl 1 rfl) ?_
  refine lv_iload_n hx hb dL_comes_4 rfl (lv_at hl 2 rfl) ?_
  rcases hL2_s hm with ⟨e_1, h_1⟩ | ⟨e_1, h_1⟩ | ⟨x, e_1, h_1⟩
  · have hsub := AL_sub hS hA (va_D_pre hD)
    subst h_1
    refine lcI_t (n := 2) (C := RX7) 1 X hX (cQ7_comes (a := a) hst e_1) (gV kw671 kw672 kw673 kw1 kw674) (by decide +kernel) ⟨by decide, by decide⟩ (rc_cal hK (va_P_pre hP)) (va_P_pre hP) (va_D_pre hD) hS rfl rfl hl.1 (Nat.le_of_ble_eq_true rfl) dL_comes_5 ⟨by decide, by decide⟩ (fun ce q9 H locs hP1 hk hS g1 g2 g3 => ?_)
    obtain ⟨hP, hD⟩ := va_glue (wr := [oA G o f]) hP hD hk hsub hP1 (zD_AL rfl (va_D_pre hD))
    refine vx_catch (name := exn 1) (E := exn 1) hown [] ⟨0, 17, 20, 23⟩ [⟨0, 17, 24, 13⟩] htb (fun z hz => by cases hz) (by decide) (by decide) (hts _ (List.mem_cons_of_mem _ kw625)) (va_Nw.use rfl hX.2.2.2.2.2.2) g1 g2 g3 ?_
    refine lv_astore (lv' := [(4, .ref q9), (0, .ref (a 0)), (1, .int x1), (2, .int x2), (3, .ref o)]) hx hb dL_comes_20 hl (by decide) rfl (fun ls hl => ?_)
    refine lv_iconst (v := 1) hx hb dL_comes_22 (by decide) ?_
    refine W.widen (k := 2) (n := 12) (by decide) (by decide) ?_
    exact lret a X rfl rfl hP hD hS dL_comes_23
  · have hsub := AL_sub hS hA (va_D_pre hD)
    subst h_1
    refine lcI_t (n := 2) (C := RX7) 0 X hX (cQ7_comes (a := a) hst e_1) (gV kw671 kw672 kw673 kw1 kw674) (by decide +kernel) ⟨by decide, by decide⟩ (rc_cal hK (va_P_pre hP)) (va_P_pre hP) (va_D_pre hD) hS rfl rfl hl.1 (Nat.le_of_ble_eq_true rfl) dL_comes_5 ⟨by decide, by decide⟩ (fun ce q9 H locs hP1 hk hS g1 g2 g3 => ?_)
    obtain ⟨hP, hD⟩ := va_glue (wr := [oA G o f]) hP hD hk hsub hP1 (zD_AL rfl (va_D_pre hD))
    refine vx_catch (name := exn 0) (E := exn 0) hown [⟨0, 17, 20, 23⟩] ⟨0, 17, 24, 13⟩ [] htb (fun z hz => by cases List.mem_singleton.mp hz; exact Or.inr ⟨by decide, exn 1, hts _ (List.mem_cons_of_mem _ kw625), hN⟩) (by decide) (by decide) (hts _ (List.mem_cons_of_mem _ kw234)) (va_Nw.use rfl hX.2.2.2.2.2.1) g1 g2 g3 ?_
    refine lv_astore (lv' := [(4, .ref q9), (0, .ref (a 0)), (1, .int x1), (2, .int x2), (3, .ref o)]) hx hb dL_comes_24 hl (by decide) rfl (fun ls hl => ?_)
    refine lv_iconst (v := 2) hx hb dL_comes_26 (by decide) ?_
    refine W.widen (k := 2) (n := 12) (by decide) (by decide) ?_
    exact lret a X rfl rfl hP hD hS dL_comes_27
  · subst h_1
    have hsub := AL_sub hS hA (va_D_pre hD)
    refine lcI (n := 2) (C := RX7) X hX (cQ7_comes (a := a) hst e_1) (gV kw671 kw672 kw673 kw1 kw674) (by decide +kernel) ⟨by decide, by decide⟩ (rc_cal hK (va_P_pre hP)) (va_P_pre hP) (va_D_pre hD) hS rfl rfl hl.1 (Nat.le_of_ble_eq_true rfl) dL_comes_5 ⟨by decide, by decide⟩ (fun H locs hP1 hk hS => ?_)
    obtain ⟨hP, hD⟩ := va_glue (wr := [oA G o f]) hP hD hk hsub hP1 (zD_AL rfl (va_D_pre hD))
    refine W.widen (k := 2) (n := 12) (by decide) (by decide) ?_
    have hP : va_P (DD G) vwCl (wL G a z q o f) H := hP
    have hD : va_D (AL (fs (wL G a z q o f)) s.heap.size) (wL G a z q o f) := hD
    refine lv_if_eq (tgt := 15) hx hb dL_comes_8 (by decide) (fun c_1 => ?_) (fun c_1 => ?_)
    · rw [if_pos c_1]
      refine lv_lconst (v := 0) hx hb dL_comes_15 (by decide) ?_
      refine outSt X hP hD hS dL_comes_16 (fun H locs hP hD hS => ?_)
      refine lv_goto (tgt := 28) hx hb dL_comes_17 (by decide) ?_
      refine lv_iconst (v := 0) hx hb dL_comes_28 (by decide) ?_
      exact lret a X rfl rfl hP hD hS dL_comes_29
    · rw [if_neg c_1]
      refine lv_lconst (v := 1) hx hb dL_comes_11 (by decide) ?_
      refine lv_goto (tgt := 16) hx hb dL_comes_12 (by decide) ?_
      refine outSt X hP hD hS dL_comes_16 (fun H locs hP hD hS => ?_)
      refine lv_goto (tgt := 28) hx hb dL_comes_17 (by decide) ?_
      refine lv_iconst (v := 0) hx hb dL_comes_28 (by decide) ?_
      exact lret a X rfl rfl hP hD hS dL_comes_29

def moL_next (n : Nat) (z q : Pc4) (f : Nat → Int64) (x1 : Int32) (x2 : Int32) : Option LRes := hL2 (moQ7_next n z x1 x2 q) z q f (fun x => (0, z, q, vp_updL f 0 x.toInt64))
set_option maxHeartbeats 4000000 in
set_option maxRecDepth 100000 in
theorem cL_w_next {l : Launch} {G : Ev} {a : Nat → Nat} {z q : Pc4} {n o : Nat} {f : Nat → Int64} {x1 : Int32} {x2 : Int32} {res : LRes} (hst : l.stackTraces = false) (hm : moL_next n z q f x1 x2 = some res) : CtL l G yL_next cL_next 5 [(0, 10, 13, 23), (0, 10, 17, 13)] 8 138 2 12 [.ref (a 0), .int x1, .int x2, .ref o] a (wL G a z q o f) o res := by
  intro sz
  refine enterL (by decide) (Nat.le_of_ble_eq_true rfl) ?_
  intro p e s m args below meth c ls XL hsz hP hD hS hl
  subst hsz
  obtain ⟨X, htb, hX, hN⟩ := XL
  obtain ⟨⟨hx, hb, hml, hown, hts⟩, hK, hr, hlk, hA, hAs, hSta⟩ := id X
  have hl : lv_has ls 5 [(0, .ref (a 0)), (1, .int x1), (2, .int x2), (3, .ref o)] := hl
  unfold moL_next at hm
  refine lv_aload_n hx hb dL_next_0 rfl (lv_at hl 3 rfl) ?_
  refine lv_iconst (v := 0) hx hb dL_next_1 (by decide) ?_
  refine lv_aload_n hx hb dL_next_2 rfl (lv_at hl 0 rfl) ?_
  refine lv_iload_n hx hb dL_next_3 rfl (lv_at hl 1 rfl) ?_
  refine lv_iload_n hx hb dL_next_4 rfl (lv_at hl 2 rfl) ?_
  rcases hL2_s hm with ⟨e_1, h_1⟩ | ⟨e_1, h_1⟩ | ⟨x, e_1, h_1⟩
  · have hsub := AL_sub hS hA (va_D_pre hD)
    subst h_1
    refine lcI_t (n := 2) (C := RX7) 1 X hX (cQ7_next (a := a) hst e_1) (gV kw684 kw685 kw686 kw1 kw687) (by decide +kernel) ⟨by decide, by decide⟩ (rc_cal hK (va_P_pre hP)) (va_P_pre hP) (va_D_pre hD) hS rfl rfl hl.1 (Nat.le_of_ble_eq_true rfl) dL_next_5 ⟨by decide, by decide⟩ (fun ce q9 H locs hP1 hk hS g1 g2 g3 => ?_)
    obtain ⟨hP, hD⟩ := va_glue (wr := [oA G o f]) hP hD hk hsub hP1 (zD_AL rfl (va_D_pre hD))
    refine vx_catch (name := exn 1) (E := exn 1) hown [] ⟨0, 10, 13, 23⟩ [⟨0, 10, 17, 13⟩] htb (fun z hz => by cases hz) (by decide) (by decide) (hts _ (List.mem_cons_of_mem _ kw625)) (va_Nw.use rfl hX.2.2.2.2.2.2) g1 g2 g3 ?_
    refine lv_astore (lv' := [(4, .ref q9), (0, .ref (a 0)), (1, .int x1), (2, .int x2), (3, .ref o)]) hx hb dL_next_13 hl (by decide) rfl (fun ls hl => ?_)
    refine lv_iconst (v := 1) hx hb dL_next_15 (by decide) ?_
    refine W.widen (k := 2) (n := 12) (by decide) (by decide) ?_
    exact lret a X rfl rfl hP hD hS dL_next_16
  · have hsub := AL_sub hS hA (va_D_pre hD)
    subst h_1
    refine lcI_t (n := 2) (C := RX7) 0 X hX (cQ7_next (a := a) hst e_1) (gV kw684 kw685 kw686 kw1 kw687) (by decide +kernel) ⟨by decide, by decide⟩ (rc_cal hK (va_P_pre hP)) (va_P_pre hP) (va_D_pre hD) hS rfl rfl hl.1 (Nat.le_of_ble_eq_true rfl) dL_next_5 ⟨by decide, by decide⟩ (fun ce q9 H locs hP1 hk hS g1 g2 g3 => ?_)
    obtain ⟨hP, hD⟩ := va_glue (wr := [oA G o f]) hP hD hk hsub hP1 (zD_AL rfl (va_D_pre hD))
    refine vx_catch (name := exn 0) (E := exn 0) hown [⟨0, 10, 13, 23⟩] ⟨0, 10, 17, 13⟩ [] htb (fun z hz => by cases List.mem_singleton.mp hz; exact Or.inr ⟨by decide, exn 1, hts _ (List.mem_cons_of_mem _ kw625), hN⟩) (by decide) (by decide) (hts _ (List.mem_cons_of_mem _ kw234)) (va_Nw.use rfl hX.2.2.2.2.2.1) g1 g2 g3 ?_
    refine lv_astore (lv' := [(4, .ref q9), (0, .ref (a 0)), (1, .int x1), (2, .int x2), (3, .ref o)]) hx hb dL_next_17 hl (by decide) rfl (fun ls hl => ?_)
    refine lv_iconst (v := 2) hx hb dL_next_19 (by decide) ?_
    refine W.widen (k := 2) (n := 12) (by decide) (by decide) ?_
    exact lret a X rfl rfl hP hD hS dL_next_20
  · subst h_1
    have hsub := AL_sub hS hA (va_D_pre hD)
    refine lcI (n := 2) (C := RX7) X hX (cQ7_next (a := a) hst e_1) (gV kw684 kw685 kw686 kw1 kw687) (by decide +kernel) ⟨by decide, by decide⟩ (rc_cal hK (va_P_pre hP)) (va_P_pre hP) (va_D_pre hD) hS rfl rfl hl.1 (Nat.le_of_ble_eq_true rfl) dL_next_5 ⟨by decide, by decide⟩ (fun H locs hP1 hk hS => ?_)
    obtain ⟨hP, hD⟩ := va_glue (wr := [oA G o f]) hP hD hk hsub hP1 (zD_AL rfl (va_D_pre hD))
    refine W.widen (k := 2) (n := 12) (by decide) (by decide) ?_
    have hP : va_P (DD G) vwCl (wL G a z q o f) H := hP
    have hD : va_D (AL (fs (wL G a z q o f)) s.heap.size) (wL G a z q o f) := hD
    refine lv_i2l (v := x.toInt64) hx hb dL_next_8 rfl ?_
    refine outSt X hP hD hS dL_next_9 (fun H locs hP hD hS => ?_)
    refine lv_goto (tgt := 21) hx hb dL_next_10 (by decide) ?_
    refine lv_iconst (v := 0) hx hb dL_next_21 (by decide) ?_
    exact lret a X rfl rfl hP hD hS dL_next_22

def moL_date (n : Nat) (z q : Pc4) (f : Nat → Int64) (x1 : Int32) (x2 : Int32) : Option LRes := hL2 (moQ7_date n z x1 x2 q) z q f (fun x => (0, z, q, vp_updL f 0 x.toInt64))
set_option maxHeartbeats 4000000 in
set_option maxRecDepth 100000 in
theorem cL_w_date {l : Launch} {G : Ev} {a : Nat → Nat} {z q : Pc4} {n o : Nat} {f : Nat → Int64} {x1 : Int32} {x2 : Int32} {res : LRes} (hst : l.stackTraces = false) (hm : moL_date n z q f x1 x2 = some res) : CtL l G yL_date cL_date 5 [(0, 10, 13, 23), (0, 10, 17, 13)] 8 139 2 12 [.ref (a 0), .int x1, .int x2, .ref o] a (wL G a z q o f) o res := by
  intro sz
  refine enterL (by decide) (Nat.le_of_ble_eq_true rfl) ?_
  intro p e s m args below meth c ls XL hsz hP hD hS hl
  subst hsz
  obtain ⟨X, htb, hX, hN⟩ := XL
  obtain ⟨⟨hx, hb, hml, hown, hts⟩, hK, hr, hlk, hA, hAs, hSta⟩ := id X
  have hl : lv_has ls 5 [(0, .ref (a 0)), (1, .int x1), (2, .int x2), (3, .ref o)] := hl
  unfold moL_date at hm
  refine lv_aload_n hx hb dL_date_0 rfl (lv_at hl 3 rfl) ?_
  refine lv_iconst (v := 0) hx hb dL_date_1 (by decide) ?_
  refine lv_aload_n hx hb dL_date_2 rfl (lv_at hl 0 rfl) ?_
  refine lv_iload_n hx hb dL_date_3 rfl (lv_at hl 1 rfl) ?_
  refine lv_iload_n hx hb dL_date_4 rfl (lv_at hl 2 rfl) ?_
  rcases hL2_s hm with ⟨e_1, h_1⟩ | ⟨e_1, h_1⟩ | ⟨x, e_1, h_1⟩
  · have hsub := AL_sub hS hA (va_D_pre hD)
    subst h_1
    refine lcI_t (n := 2) (C := RX7) 1 X hX (cQ7_date (a := a) hst e_1) (gV kw696 kw697 kw698 kw1 kw699) (by decide +kernel) ⟨by decide, by decide⟩ (rc_cal hK (va_P_pre hP)) (va_P_pre hP) (va_D_pre hD) hS rfl rfl hl.1 (Nat.le_of_ble_eq_true rfl) dL_date_5 ⟨by decide, by decide⟩ (fun ce q9 H locs hP1 hk hS g1 g2 g3 => ?_)
    obtain ⟨hP, hD⟩ := va_glue (wr := [oA G o f]) hP hD hk hsub hP1 (zD_AL rfl (va_D_pre hD))
    refine vx_catch (name := exn 1) (E := exn 1) hown [] ⟨0, 10, 13, 23⟩ [⟨0, 10, 17, 13⟩] htb (fun z hz => by cases hz) (by decide) (by decide) (hts _ (List.mem_cons_of_mem _ kw625)) (va_Nw.use rfl hX.2.2.2.2.2.2) g1 g2 g3 ?_
    refine lv_astore (lv' := [(4, .ref q9), (0, .ref (a 0)), (1, .int x1), (2, .int x2), (3, .ref o)]) hx hb dL_date_13 hl (by decide) rfl (fun ls hl => ?_)
    refine lv_iconst (v := 1) hx hb dL_date_15 (by decide) ?_
    refine W.widen (k := 2) (n := 12) (by decide) (by decide) ?_
    exact lret a X rfl rfl hP hD hS dL_date_16
  · have hsub := AL_sub hS hA (va_D_pre hD)
    subst h_1
    refine lcI_t (n := 2) (C := RX7) 0 X hX (cQ7_date (a := a) hst e_1) (gV kw696 kw697 kw698 kw1 kw699) (by decide +kernel) ⟨by decide, by decide⟩ (rc_cal hK (va_P_pre hP)) (va_P_pre hP) (va_D_pre hD) hS rfl rfl hl.1 (Nat.le_of_ble_eq_true rfl) dL_date_5 ⟨by decide, by decide⟩ (fun ce q9 H locs hP1 hk hS g1 g2 g3 => ?_)
    obtain ⟨hP, hD⟩ := va_glue (wr := [oA G o f]) hP hD hk hsub hP1 (zD_AL rfl (va_D_pre hD))
    refine vx_catch (name := exn 0) (E := exn 0) hown [⟨0, 10, 13, 23⟩] ⟨0, 10, 17, 13⟩ [] htb (fun z hz => by cases List.mem_singleton.mp hz; exact Or.inr ⟨by decide, exn 1, hts _ (List.mem_cons_of_mem _ kw625), hN⟩) (by decide) (by decide) (hts _ (List.mem_cons_of_mem _ kw234)) (va_Nw.use rfl hX.2.2.2.2.2.1) g1 g2 g3 ?_
    refine lv_astore (lv' := [(4, .ref q9), (0, .ref (a 0)), (1, .int x1), (2, .int x2), (3, .ref o)]) hx hb dL_date_17 hl (by decide) rfl (fun ls hl => ?_)
    refine lv_iconst (v := 2) hx hb dL_date_19 (by decide) ?_
    refine W.widen (k := 2) (n := 12) (by decide) (by decide) ?_
    exact lret a X rfl rfl hP hD hS dL_date_20
  · subst h_1
    have hsub := AL_sub hS hA (va_D_pre hD)
    refine lcI (n := 2) (C := RX7) X hX (cQ7_date (a := a) hst e_1) (gV kw696 kw697 kw698 kw1 kw699) (by decide +kernel) ⟨by decide, by decide⟩ (rc_cal hK (va_P_pre hP)) (va_P_pre hP) (va_D_pre hD) hS rfl rfl hl.1 (Nat.le_of_ble_eq_true rfl) dL_date_5 ⟨by decide, by decide⟩ (fun H locs hP1 hk hS => ?_)
    obtain ⟨hP, hD⟩ := va_glue (wr := [oA G o f]) hP hD hk hsub hP1 (zD_AL rfl (va_D_pre hD))
    refine W.widen (k := 2) (n := 12) (by decide) (by decide) ?_
    have hP : va_P (DD G) vwCl (wL G a z q o f) H := hP
    have hD : va_D (AL (fs (wL G a z q o f)) s.heap.size) (wL G a z q o f) := hD
    refine lv_i2l (v := x.toInt64) hx hb dL_date_8 rfl ?_
    refine outSt X hP hD hS dL_date_9 (fun H locs hP hD hS => ?_)
    refine lv_goto (tgt := 21) hx hb dL_date_10 (by decide) ?_
    refine lv_iconst (v := 0) hx hb dL_date_21 (by decide) ?_
    exact lret a X rfl rfl hP hD hS dL_date_22

def moL_times (n : Nat) (z q : Pc4) (f : Nat → Int64) (x1 : Int32) (x2 : Int32) (x3 : Int32) : Option LRes := hL2 (moQ7_times n z x1 x2 x3 q) z q f (fun x => (0, z, q, vp_updL f 0 x.toInt64))
set_option maxHeartbeats 4000000 in
set_option maxRecDepth 100000 in
theorem cL_w_times {l : Launch} {G : Ev} {a : Nat → Nat} {z q : Pc4} {n o : Nat} {f : Nat → Int64} {x1 : Int32} {x2 : Int32} {x3 : Int32} {res : LRes} (hst : l.stackTraces = false) (hm : moL_times n z q f x1 x2 x3 = some res) : CtL l G yL_times cL_times 6 [(0, 12, 15, 23), (0, 12, 19, 13)] 8 138 3 18 [.ref (a 0), .int x1, .int x2, .int x3, .ref o] a (wL G a z q o f) o res := by
  intro sz
  refine enterL (by decide) (Nat.le_of_ble_eq_true rfl) ?_
  intro p e s m args below meth c ls XL hsz hP hD hS hl
  subst hsz
  obtain ⟨X, htb, hX, hN⟩ := XL
  obtain ⟨⟨hx, hb, hml, hown, hts⟩, hK, hr, hlk, hA, hAs, hSta⟩ := id X
  have hl : lv_has ls 6 [(0, .ref (a 0)), (1, .int x1), (2, .int x2), (3, .int x3), (4, .ref o)] := hl
  unfold moL_times at hm
  refine lv_aload hx hb dL_times_0 (lv_at hl 4 rfl) ?_
  refine lv_iconst (v := 0) hx hb dL_times_2 (by decide) ?_
  refine lv_aload_n hx hb dL_times_3 rfl (lv_at hl 0 rfl) ?_
  refine lv_iload_n hx hb dL_times_4 rfl (lv_at hl 1 rfl) ?_
  refine lv_iload_n hx hb dL_times_5 rfl (lv_at hl 2 rfl) ?_
  refine lv_iload_n hx hb dL_times_6 rfl (lv_at hl 3 rfl) ?_
  rcases hL2_s hm with ⟨e_1, h_1⟩ | ⟨e_1, h_1⟩ | ⟨x, e_1, h_1⟩
  · have hsub := AL_sub hS hA (va_D_pre hD)
    subst h_1
    refine lcI_t (n := 3) (C := RX7) 1 X hX (cQ7_times (a := a) hst e_1) (gV kw705 kw706 kw707 kw1 kw708) (by decide +kernel) ⟨by decide, by decide⟩ (rc_cal hK (va_P_pre hP)) (va_P_pre hP) (va_D_pre hD) hS rfl rfl hl.1 (Nat.le_of_ble_eq_true rfl) dL_times_7 ⟨by decide, by decide⟩ (fun ce q9 H locs hP1 hk hS g1 g2 g3 => ?_)
    obtain ⟨hP, hD⟩ := va_glue (wr := [oA G o f]) hP hD hk hsub hP1 (zD_AL rfl (va_D_pre hD))
    refine vx_catch (name := exn 1) (E := exn 1) hown [] ⟨0, 12, 15, 23⟩ [⟨0, 12, 19, 13⟩] htb (fun z hz => by cases hz) (by decide) (by decide) (hts _ (List.mem_cons_of_mem _ kw625)) (va_Nw.use rfl hX.2.2.2.2.2.2) g1 g2 g3 ?_
    refine lv_astore (lv' := [(5, .ref q9), (0, .ref (a 0)), (1, .int x1), (2, .int x2), (3, .int x3), (4, .ref o)]) hx hb dL_times_15 hl (by decide) rfl (fun ls hl => ?_)
    refine lv_iconst (v := 1) hx hb dL_times_17 (by decide) ?_
    refine W.widen (k := 3) (n := 18) (by decide) (by decide) ?_
    exact lret a X rfl rfl hP hD hS dL_times_18
  · have hsub := AL_sub hS hA (va_D_pre hD)
    subst h_1
    refine lcI_t (n := 3) (C := RX7) 0 X hX (cQ7_times (a := a) hst e_1) (gV kw705 kw706 kw707 kw1 kw708) (by decide +kernel) ⟨by decide, by decide⟩ (rc_cal hK (va_P_pre hP)) (va_P_pre hP) (va_D_pre hD) hS rfl rfl hl.1 (Nat.le_of_ble_eq_true rfl) dL_times_7 ⟨by decide, by decide⟩ (fun ce q9 H locs hP1 hk hS g1 g2 g3 => ?_)
    obtain ⟨hP, hD⟩ := va_glue (wr := [oA G o f]) hP hD hk hsub hP1 (zD_AL rfl (va_D_pre hD))
    refine vx_catch (name := exn 0) (E := exn 0) hown [⟨0, 12, 15, 23⟩] ⟨0, 12, 19, 13⟩ [] htb (fun z hz => by cases List.mem_singleton.mp hz; exact Or.inr ⟨by decide, exn 1, hts _ (List.mem_cons_of_mem _ kw625), hN⟩) (by decide) (by decide) (hts _ (List.mem_cons_of_mem _ kw234)) (va_Nw.use rfl hX.2.2.2.2.2.1) g1 g2 g3 ?_
    refine lv_astore (lv' := [(5, .ref q9), (0, .ref (a 0)), (1, .int x1), (2, .int x2), (3, .int x3), (4, .ref o)]) hx hb dL_times_19 hl (by decide) rfl (fun ls hl => ?_)
    refine lv_iconst (v := 2) hx hb dL_times_21 (by decide) ?_
    refine W.widen (k := 3) (n := 18) (by decide) (by decide) ?_
    exact lret a X rfl rfl hP hD hS dL_times_22
  · subst h_1
    have hsub := AL_sub hS hA (va_D_pre hD)
    refine lcI (n := 3) (C := RX7) X hX (cQ7_times (a := a) hst e_1) (gV kw705 kw706 kw707 kw1 kw708) (by decide +kernel) ⟨by decide, by decide⟩ (rc_cal hK (va_P_pre hP)) (va_P_pre hP) (va_D_pre hD) hS rfl rfl hl.1 (Nat.le_of_ble_eq_true rfl) dL_times_7 ⟨by decide, by decide⟩ (fun H locs hP1 hk hS => ?_)
    obtain ⟨hP, hD⟩ := va_glue (wr := [oA G o f]) hP hD hk hsub hP1 (zD_AL rfl (va_D_pre hD))
    refine W.widen (k := 3) (n := 18) (by decide) (by decide) ?_
    have hP : va_P (DD G) vwCl (wL G a z q o f) H := hP
    have hD : va_D (AL (fs (wL G a z q o f)) s.heap.size) (wL G a z q o f) := hD
    refine lv_i2l (v := x.toInt64) hx hb dL_times_10 rfl ?_
    refine outSt X hP hD hS dL_times_11 (fun H locs hP hD hS => ?_)
    refine lv_goto (tgt := 23) hx hb dL_times_12 (by decide) ?_
    refine lv_iconst (v := 0) hx hb dL_times_23 (by decide) ?_
    exact lret a X rfl rfl hP hD hS dL_times_24

def moL_list (n : Nat) (z q : Pc4) (f : Nat → Int64) (x1 : Int32) (x2 : Int32) : Option LRes := hL1 0 (moQ7_list n z x1 x2 q) z q f (fun x => (0, z, x.2, vp_updL f 0 x.1.toInt64))
set_option maxHeartbeats 4000000 in
set_option maxRecDepth 100000 in
theorem cL_w_list {l : Launch} {G : Ev} {a : Nat → Nat} {z q : Pc4} {n o : Nat} {f : Nat → Int64} {x1 : Int32} {x2 : Int32} {res : LRes} (hst : l.stackTraces = false) (hm : moL_list n z q f x1 x2 = some res) : CtL l G yL_list cL_list 5 [(0, 10, 13, 13)] 8 133 2 12 [.ref (a 0), .int x1, .int x2, .ref o] a (wL G a z q o f) o res := by
  intro sz
  refine enterL (by decide) (Nat.le_of_ble_eq_true rfl) ?_
  intro p e s m args below meth c ls XL hsz hP hD hS hl
  subst hsz
  obtain ⟨X, htb, hX, hN⟩ := XL
  obtain ⟨⟨hx, hb, hml, hown, hts⟩, hK, hr, hlk, hA, hAs, hSta⟩ := id X
  have hl : lv_has ls 5 [(0, .ref (a 0)), (1, .int x1), (2, .int x2), (3, .ref o)] := hl
  unfold moL_list at hm
  refine lv_aload_n hx hb dL_list_0 rfl (lv_at hl 3 rfl) ?_
  refine lv_iconst (v := 0) hx hb dL_list_1 (by decide) ?_
  refine lv_aload_n hx hb dL_list_2 rfl (lv_at hl 0 rfl) ?_
  refine lv_iload_n hx hb dL_list_3 rfl (lv_at hl 1 rfl) ?_
  refine lv_iload_n hx hb dL_list_4 rfl (lv_at hl 2 rfl) ?_
  rcases hL1_s hm with ⟨e_1, h_1⟩ | ⟨x, e_1, h_1⟩
  · have hsub := AL_sub hS hA (va_D_pre hD)
    subst h_1
    refine lcI_t (n := 2) (C := RX7) 0 X hX (cQ7_list (a := a) hst e_1) (gV kw713 kw714 kw715 kw1 kw716) (by decide +kernel) ⟨by decide, by decide⟩ (rc_cal hK (va_P_pre hP)) (va_P_pre hP) (va_D_pre hD) hS rfl rfl hl.1 (Nat.le_of_ble_eq_true rfl) dL_list_5 ⟨by decide, by decide⟩ (fun ce q9 H locs hP1 hk hS g1 g2 g3 => ?_)
    obtain ⟨hP, hD⟩ := va_glue (wr := [oA G o f]) hP hD hk hsub hP1 (zD_AL rfl (va_D_pre hD))
    refine vx_catch (name := exn 0) (E := exn 0) hown [] ⟨0, 10, 13, 13⟩ [] htb (fun z hz => by cases hz) (by decide) (by decide) (hts _ (List.mem_cons_of_mem _ kw234)) (va_Nw.use rfl hX.2.2.2.2.2.1) g1 g2 g3 ?_
    refine lv_astore (lv' := [(4, .ref q9), (0, .ref (a 0)), (1, .int x1), (2, .int x2), (3, .ref o)]) hx hb dL_list_13 hl (by decide) rfl (fun ls hl => ?_)
    refine lv_iconst (v := 1) hx hb dL_list_15 (by decide) ?_
    refine W.widen (k := 2) (n := 12) (by decide) (by decide) ?_
    exact lret a X rfl rfl hP hD hS dL_list_16
  · subst h_1
    have hsub := AL_sub hS hA (va_D_pre hD)
    refine lcI (n := 2) (C := RX7) X hX (cQ7_list (a := a) hst e_1) (gV kw713 kw714 kw715 kw1 kw716) (by decide +kernel) ⟨by decide, by decide⟩ (rc_cal hK (va_P_pre hP)) (va_P_pre hP) (va_D_pre hD) hS rfl rfl hl.1 (Nat.le_of_ble_eq_true rfl) dL_list_5 ⟨by decide, by decide⟩ (fun H locs hP1 hk hS => ?_)
    obtain ⟨hP, hD⟩ := va_glue (wr := [oA G o f]) hP hD hk hsub hP1 (zD_AL rfl (va_D_pre hD))
    refine W.widen (k := 2) (n := 12) (by decide) (by decide) ?_
    have hP : va_P (DD G) vwCl (wL G a z x.2 o f) H := hP
    have hD : va_D (AL (fs (wL G a z q o f)) s.heap.size) (wL G a z x.2 o f) := hD
    refine lv_i2l (v := x.1.toInt64) hx hb dL_list_8 rfl ?_
    refine outSt X hP hD hS dL_list_9 (fun H locs hP hD hS => ?_)
    refine lv_goto (tgt := 17) hx hb dL_list_10 (by decide) ?_
    refine lv_iconst (v := 0) hx hb dL_list_17 (by decide) ?_
    exact lret a X rfl rfl hP hD hS dL_list_18

def moL_item (n : Nat) (z q : Pc4) (f : Nat → Int64) (x1 : Int32) : Option LRes := hL1 1 (moQ7_item n z x1 q) z q f (fun x => (0, z, q, vp_updL f 0 x))
set_option maxHeartbeats 4000000 in
set_option maxRecDepth 100000 in
theorem cL_w_item {l : Launch} {G : Ev} {a : Nat → Nat} {z q : Pc4} {n o : Nat} {f : Nat → Int64} {x1 : Int32} {res : LRes} (hst : l.stackTraces = false) (hm : moL_item n z q f x1 = some res) : CtL l G yL_item cL_item 4 [(0, 8, 11, 23)] 7 110 1 6 [.ref (a 0), .int x1, .ref o] a (wL G a z q o f) o res := by
  intro sz
  refine enterL (by decide) (Nat.le_of_ble_eq_true rfl) ?_
  intro p e s m args below meth c ls XL hsz hP hD hS hl
  subst hsz
  obtain ⟨X, htb, hX, hN⟩ := XL
  obtain ⟨⟨hx, hb, hml, hown, hts⟩, hK, hr, hlk, hA, hAs, hSta⟩ := id X
  have hl : lv_has ls 4 [(0, .ref (a 0)), (1, .int x1), (2, .ref o)] := hl
  unfold moL_item at hm
  refine lv_aload_n hx hb dL_item_0 rfl (lv_at hl 2 rfl) ?_
  refine lv_iconst (v := 0) hx hb dL_item_1 (by decide) ?_
  refine lv_aload_n hx hb dL_item_2 rfl (lv_at hl 0 rfl) ?_
  refine lv_iload_n hx hb dL_item_3 rfl (lv_at hl 1 rfl) ?_
  rcases hL1_s hm with ⟨e_1, h_1⟩ | ⟨x, e_1, h_1⟩
  · have hsub := AL_sub hS hA (va_D_pre hD)
    subst h_1
    refine lcJ_t (n := 1) (C := RX7) 1 X hX (cQ7_item (a := a) hst e_1) (gV kw737 kw738 kw739 kw1 kw740) (by decide +kernel) ⟨by decide, by decide⟩ (rc_cal hK (va_P_pre hP)) (va_P_pre hP) (va_D_pre hD) hS rfl rfl hl.1 (Nat.le_of_ble_eq_true rfl) dL_item_4 ⟨by decide, by decide⟩ (fun ce q9 H locs hP1 hk hS g1 g2 g3 => ?_)
    obtain ⟨hP, hD⟩ := va_glue (wr := [oA G o f]) hP hD hk hsub hP1 (zD_AL rfl (va_D_pre hD))
    refine vx_catch (name := exn 1) (E := exn 1) hown [] ⟨0, 8, 11, 23⟩ [] htb (fun z hz => by cases hz) (by decide) (by decide) (hts _ (List.mem_cons_of_mem _ kw625)) (va_Nw.use rfl hX.2.2.2.2.2.2) g1 g2 g3 ?_
    refine lv_astore_n (lv' := [(3, .ref q9), (0, .ref (a 0)), (1, .int x1), (2, .ref o)]) hx hb dL_item_11 rfl hl (by decide) rfl (fun ls hl => ?_)
    refine lv_iconst (v := 1) hx hb dL_item_12 (by decide) ?_
    refine W.widen (k := 1) (n := 6) (by decide) (by decide) ?_
    exact lret a X rfl rfl hP hD hS dL_item_13
  · subst h_1
    have hsub := AL_sub hS hA (va_D_pre hD)
    refine lcJ (n := 1) (C := RX7) X hX (cQ7_item (a := a) hst e_1) (gV kw737 kw738 kw739 kw1 kw740) (by decide +kernel) ⟨by decide, by decide⟩ (rc_cal hK (va_P_pre hP)) (va_P_pre hP) (va_D_pre hD) hS rfl rfl hl.1 (Nat.le_of_ble_eq_true rfl) dL_item_4 ⟨by decide, by decide⟩ (fun H locs hP1 hk hS => ?_)
    obtain ⟨hP, hD⟩ := va_glue (wr := [oA G o f]) hP hD hk hsub hP1 (zD_AL rfl (va_D_pre hD))
    refine W.widen (k := 1) (n := 6) (by decide) (by decide) ?_
    have hP : va_P (DD G) vwCl (wL G a z q o f) H := hP
    have hD : va_D (AL (fs (wL G a z q o f)) s.heap.size) (wL G a z q o f) := hD
    refine outSt X hP hD hS dL_item_7 (fun H locs hP hD hS => ?_)
    refine lv_goto (tgt := 14) hx hb dL_item_8 (by decide) ?_
    refine lv_iconst (v := 0) hx hb dL_item_14 (by decide) ?_
    exact lret a X rfl rfl hP hD hS dL_item_15

def moL_busiest (n : Nat) (z q : Pc4) (f : Nat → Int64) (x1 : Int32) (x2 : Int32) : Option LRes := hL1 0 (moQ7_busiest n z x1 x2 q) z q f (fun x => (0, z, x.2, vp_updL f 0 x.1.toInt64))
set_option maxHeartbeats 4000000 in
set_option maxRecDepth 100000 in
theorem cL_w_busiest {l : Launch} {G : Ev} {a : Nat → Nat} {z q : Pc4} {n o : Nat} {f : Nat → Int64} {x1 : Int32} {x2 : Int32} {res : LRes} (hst : l.stackTraces = false) (hm : moL_busiest n z q f x1 x2 = some res) : CtL l G yL_busiest cL_busiest 5 [(0, 10, 13, 13)] 8 138 2 12 [.ref (a 0), .int x1, .int x2, .ref o] a (wL G a z q o f) o res := by
  intro sz
  refine enterL (by decide) (Nat.le_of_ble_eq_true rfl) ?_
  intro p e s m args below meth c ls XL hsz hP hD hS hl
  subst hsz
  obtain ⟨X, htb, hX, hN⟩ := XL
  obtain ⟨⟨hx, hb, hml, hown, hts⟩, hK, hr, hlk, hA, hAs, hSta⟩ := id X
  have hl : lv_has ls 5 [(0, .ref (a 0)), (1, .int x1), (2, .int x2), (3, .ref o)] := hl
  unfold moL_busiest at hm
  refine lv_aload_n hx hb dL_busiest_0 rfl (lv_at hl 3 rfl) ?_
  refine lv_iconst (v := 0) hx hb dL_busiest_1 (by decide) ?_
  refine lv_aload_n hx hb dL_busiest_2 rfl (lv_at hl 0 rfl) ?_
  refine lv_iload_n hx hb dL_busiest_3 rfl (lv_at hl 1 rfl) ?_
  refine lv_iload_n hx hb dL_busiest_4 rfl (lv_at hl 2 rfl) ?_
  rcases hL1_s hm with ⟨e_1, h_1⟩ | ⟨x, e_1, h_1⟩
  · have hsub := AL_sub hS hA (va_D_pre hD)
    subst h_1
    refine lcI_t (n := 2) (C := RX7) 0 X hX (cQ7_busiest (a := a) hst e_1) (gV kw744 kw745 kw746 kw1 kw747) (by decide +kernel) ⟨by decide, by decide⟩ (rc_cal hK (va_P_pre hP)) (va_P_pre hP) (va_D_pre hD) hS rfl rfl hl.1 (Nat.le_of_ble_eq_true rfl) dL_busiest_5 ⟨by decide, by decide⟩ (fun ce q9 H locs hP1 hk hS g1 g2 g3 => ?_)
    obtain ⟨hP, hD⟩ := va_glue (wr := [oA G o f]) hP hD hk hsub hP1 (zD_AL rfl (va_D_pre hD))
    refine vx_catch (name := exn 0) (E := exn 0) hown [] ⟨0, 10, 13, 13⟩ [] htb (fun z hz => by cases hz) (by decide) (by decide) (hts _ (List.mem_cons_of_mem _ kw234)) (va_Nw.use rfl hX.2.2.2.2.2.1) g1 g2 g3 ?_
    refine lv_astore (lv' := [(4, .ref q9), (0, .ref (a 0)), (1, .int x1), (2, .int x2), (3, .ref o)]) hx hb dL_busiest_13 hl (by decide) rfl (fun ls hl => ?_)
    refine lv_iconst (v := 1) hx hb dL_busiest_15 (by decide) ?_
    refine W.widen (k := 2) (n := 12) (by decide) (by decide) ?_
    exact lret a X rfl rfl hP hD hS dL_busiest_16
  · subst h_1
    have hsub := AL_sub hS hA (va_D_pre hD)
    refine lcI (n := 2) (C := RX7) X hX (cQ7_busiest (a := a) hst e_1) (gV kw744 kw745 kw746 kw1 kw747) (by decide +kernel) ⟨by decide, by decide⟩ (rc_cal hK (va_P_pre hP)) (va_P_pre hP) (va_D_pre hD) hS rfl rfl hl.1 (Nat.le_of_ble_eq_true rfl) dL_busiest_5 ⟨by decide, by decide⟩ (fun H locs hP1 hk hS => ?_)
    obtain ⟨hP, hD⟩ := va_glue (wr := [oA G o f]) hP hD hk hsub hP1 (zD_AL rfl (va_D_pre hD))
    refine W.widen (k := 2) (n := 12) (by decide) (by decide) ?_
    have hP : va_P (DD G) vwCl (wL G a z x.2 o f) H := hP
    have hD : va_D (AL (fs (wL G a z q o f)) s.heap.size) (wL G a z x.2 o f) := hD
    refine lv_i2l (v := x.1.toInt64) hx hb dL_busiest_8 rfl ?_
    refine outSt X hP hD hS dL_busiest_9 (fun H locs hP hD hS => ?_)
    refine lv_goto (tgt := 17) hx hb dL_busiest_10 (by decide) ?_
    refine lv_iconst (v := 0) hx hb dL_busiest_17 (by decide) ?_
    exact lret a X rfl rfl hP hD hS dL_busiest_18

def moL_quiet (n : Nat) (z q : Pc4) (f : Nat → Int64) (x1 : Int32) (x2 : Int32) : Option LRes := hL1 0 (moQ7_quiet n z x1 x2 q) z q f (fun x => (0, z, q, vp_updL f 0 x.toInt64))
set_option maxHeartbeats 4000000 in
set_option maxRecDepth 100000 in
theorem cL_w_quiet {l : Launch} {G : Ev} {a : Nat → Nat} {z q : Pc4} {n o : Nat} {f : Nat → Int64} {x1 : Int32} {x2 : Int32} {res : LRes} (hst : l.stackTraces = false) (hm : moL_quiet n z q f x1 x2 = some res) : CtL l G yL_quiet cL_quiet 5 [(0, 10, 13, 13)] 8 137 2 12 [.ref (a 0), .int x1, .int x2, .ref o] a (wL G a z q o f) o res := by
  intro sz
  refine enterL (by decide) (Nat.le_of_ble_eq_true rfl) ?_
  intro p e s m args below meth c ls XL hsz hP hD hS hl
  subst hsz
  obtain ⟨X, htb, hX, hN⟩ := XL
  obtain ⟨⟨hx, hb, hml, hown, hts⟩, hK, hr, hlk, hA, hAs, hSta⟩ := id X
  have hl : lv_has ls 5 [(0, .ref (a 0)), (1, .int x1), (2, .int x2), (3, .ref o)] := hl
  unfold moL_quiet at hm
  refine lv_aload_n hx hb dL_quiet_0 rfl (lv_at hl 3 rfl) ?_
  refine lv_iconst (v := 0) hx hb dL_quiet_1 (by decide) ?_
  refine lv_aload_n hx hb dL_quiet_2 rfl (lv_at hl 0 rfl) ?_
  refine lv_iload_n hx hb dL_quiet_3 rfl (lv_at hl 1 rfl) ?_
  refine lv_iload_n hx hb dL_quiet_4 rfl (lv_at hl 2 rfl) ?_
  rcases hL1_s hm with ⟨e_1, h_1⟩ | ⟨x, e_1, h_1⟩
  · have hsub := AL_sub hS hA (va_D_pre hD)
    subst h_1
    refine lcI_t (n := 2) (C := RX7) 0 X hX (cQ7_quiet (a := a) hst e_1) (gV kw756 kw757 kw758 kw1 kw759) (by decide +kernel) ⟨by decide, by decide⟩ (rc_cal hK (va_P_pre hP)) (va_P_pre hP) (va_D_pre hD) hS rfl rfl hl.1 (Nat.le_of_ble_eq_true rfl) dL_quiet_5 ⟨by decide, by decide⟩ (fun ce q9 H locs hP1 hk hS g1 g2 g3 => ?_)
    obtain ⟨hP, hD⟩ := va_glue (wr := [oA G o f]) hP hD hk hsub hP1 (zD_AL rfl (va_D_pre hD))
    refine vx_catch (name := exn 0) (E := exn 0) hown [] ⟨0, 10, 13, 13⟩ [] htb (fun z hz => by cases hz) (by decide) (by decide) (hts _ (List.mem_cons_of_mem _ kw234)) (va_Nw.use rfl hX.2.2.2.2.2.1) g1 g2 g3 ?_
    refine lv_astore (lv' := [(4, .ref q9), (0, .ref (a 0)), (1, .int x1), (2, .int x2), (3, .ref o)]) hx hb dL_quiet_13 hl (by decide) rfl (fun ls hl => ?_)
    refine lv_iconst (v := 1) hx hb dL_quiet_15 (by decide) ?_
    refine W.widen (k := 2) (n := 12) (by decide) (by decide) ?_
    exact lret a X rfl rfl hP hD hS dL_quiet_16
  · subst h_1
    have hsub := AL_sub hS hA (va_D_pre hD)
    refine lcI (n := 2) (C := RX7) X hX (cQ7_quiet (a := a) hst e_1) (gV kw756 kw757 kw758 kw1 kw759) (by decide +kernel) ⟨by decide, by decide⟩ (rc_cal hK (va_P_pre hP)) (va_P_pre hP) (va_D_pre hD) hS rfl rfl hl.1 (Nat.le_of_ble_eq_true rfl) dL_quiet_5 ⟨by decide, by decide⟩ (fun H locs hP1 hk hS => ?_)
    obtain ⟨hP, hD⟩ := va_glue (wr := [oA G o f]) hP hD hk hsub hP1 (zD_AL rfl (va_D_pre hD))
    refine W.widen (k := 2) (n := 12) (by decide) (by decide) ?_
    have hP : va_P (DD G) vwCl (wL G a z q o f) H := hP
    have hD : va_D (AL (fs (wL G a z q o f)) s.heap.size) (wL G a z q o f) := hD
    refine lv_i2l (v := x.toInt64) hx hb dL_quiet_8 rfl ?_
    refine outSt X hP hD hS dL_quiet_9 (fun H locs hP hD hS => ?_)
    refine lv_goto (tgt := 17) hx hb dL_quiet_10 (by decide) ?_
    refine lv_iconst (v := 0) hx hb dL_quiet_17 (by decide) ?_
    exact lret a X rfl rfl hP hD hS dL_quiet_18

def moL_shifted (n : Nat) (z q : Pc4) (f : Nat → Int64) (x1 : Int32) (x2 : Int32) : Option LRes := hL1 0 (moQ7_shifted n z x1 x2 q) z q f (fun x => (0, z, q, vp_updL f 0 x.toInt64))
set_option maxHeartbeats 4000000 in
set_option maxRecDepth 100000 in
theorem cL_w_shifted {l : Launch} {G : Ev} {a : Nat → Nat} {z q : Pc4} {n o : Nat} {f : Nat → Int64} {x1 : Int32} {x2 : Int32} {res : LRes} (hst : l.stackTraces = false) (hm : moL_shifted n z q f x1 x2 = some res) : CtL l G yL_shifted cL_shifted 5 [(0, 10, 13, 13)] 8 133 1 6 [.ref (a 0), .int x1, .int x2, .ref o] a (wL G a z q o f) o res := by
  intro sz
  refine enterL (by decide) (Nat.le_of_ble_eq_true rfl) ?_
  intro p e s m args below meth c ls XL hsz hP hD hS hl
  subst hsz
  obtain ⟨X, htb, hX, hN⟩ := XL
  obtain ⟨⟨hx, hb, hml, hown, hts⟩, hK, hr, hlk, hA, hAs, hSta⟩ := id X
  have hl : lv_has ls 5 [(0, .ref (a 0)), (1, .int x1), (2, .int x2), (3, .ref o)] := hl
  unfold moL_shifted at hm
  refine lv_aload_n hx hb dL_shifted_0 rfl (lv_at hl 3 rfl) ?_
  refine lv_iconst (v := 0) hx hb dL_shifted_1 (by decide) ?_
  refine lv_aload_n hx hb dL_shifted_2 rfl (lv_at hl 0 rfl) ?_
  refine lv_iload_n hx hb dL_shifted_3 rfl (lv_at hl 1 rfl) ?_
  refine lv_iload_n hx hb dL_shifted_4 rfl (lv_at hl 2 rfl) ?_
  rcases hL1_s hm with ⟨e_1, h_1⟩ | ⟨x, e_1, h_1⟩
  · have hsub := AL_sub hS hA (va_D_pre hD)
    subst h_1
    refine lcI_t (n := 2) (C := RX7) 0 X hX (cQ7_shifted (a := a) hst e_1) (gV kw769 kw770 kw771 kw1 kw772) (by decide +kernel) ⟨by decide, by decide⟩ (rc_cal hK (va_P_pre hP)) (va_P_pre hP) (va_D_pre hD) hS rfl rfl hl.1 (Nat.le_of_ble_eq_true rfl) dL_shifted_5 ⟨by decide, by decide⟩ (fun ce q9 H locs hP1 hk hS g1 g2 g3 => ?_)
    obtain ⟨hP, hD⟩ := va_glue (wr := [oA G o f]) hP hD hk hsub hP1 (zD_AL rfl (va_D_pre hD))
    refine vx_catch (name := exn 0) (E := exn 0) hown [] ⟨0, 10, 13, 13⟩ [] htb (fun z hz => by cases hz) (by decide) (by decide) (hts _ (List.mem_cons_of_mem _ kw234)) (va_Nw.use rfl hX.2.2.2.2.2.1) g1 g2 g3 ?_
    refine lv_astore (lv' := [(4, .ref q9), (0, .ref (a 0)), (1, .int x1), (2, .int x2), (3, .ref o)]) hx hb dL_shifted_13 hl (by decide) rfl (fun ls hl => ?_)
    refine lv_iconst (v := 1) hx hb dL_shifted_15 (by decide) ?_
    refine W.widen (k := 1) (n := 6) (by decide) (by decide) ?_
    exact lret a X rfl rfl hP hD hS dL_shifted_16
  · subst h_1
    have hsub := AL_sub hS hA (va_D_pre hD)
    refine lcI (n := 2) (C := RX7) X hX (cQ7_shifted (a := a) hst e_1) (gV kw769 kw770 kw771 kw1 kw772) (by decide +kernel) ⟨by decide, by decide⟩ (rc_cal hK (va_P_pre hP)) (va_P_pre hP) (va_D_pre hD) hS rfl rfl hl.1 (Nat.le_of_ble_eq_true rfl) dL_shifted_5 ⟨by decide, by decide⟩ (fun H locs hP1 hk hS => ?_)
    obtain ⟨hP, hD⟩ := va_glue (wr := [oA G o f]) hP hD hk hsub hP1 (zD_AL rfl (va_D_pre hD))
    refine W.widen (k := 1) (n := 6) (by decide) (by decide) ?_
    have hP : va_P (DD G) vwCl (wL G a z q o f) H := hP
    have hD : va_D (AL (fs (wL G a z q o f)) s.heap.size) (wL G a z q o f) := hD
    refine lv_i2l (v := x.toInt64) hx hb dL_shifted_8 rfl ?_
    refine outSt X hP hD hS dL_shifted_9 (fun H locs hP hD hS => ?_)
    refine lv_goto (tgt := 17) hx hb dL_shifted_10 (by decide) ?_
    refine lv_iconst (v := 0) hx hb dL_shifted_17 (by decide) ?_
    exact lret a X rfl rfl hP hD hS dL_shifted_18
