theorem kw13 : Cond.initialized "java/lang/IllegalArgumentException" ∈ big := mb 13 (by decide +kernel) (by decide +kernel)
theorem kw22 : Cond.initialized "java/lang/IndexOutOfBoundsException" ∈ big := mb 22 (by decide +kernel) (by decide +kernel)
theorem kw47 : Cond.fieldLink "RuledCalendar" 164 "RuledCalendar$Days" "first" "[I" ∈ big := mb 47 (by decide +kernel) (by decide +kernel)
theorem kw239 : Cond.classLink "RuledCalendar" 66 "java/lang/IllegalArgumentException" ∈ big := mb 239 (by decide +kernel) (by decide +kernel)
theorem kw301 : Cond.constantLong "RuledCalendar" 69 (255 : Int64) ∈ big := mb 301 (by decide +kernel) (by decide +kernel)
theorem kw309 : Cond.methodLink "RuledCalendar" 71 ({ cls := "RuledCalendar", name := "requireDate", desc := "(I)V" } : MethodName) ∈ big := mb 309 (by decide +kernel) (by decide +kernel)
theorem kw310 : Cond.static ({ cls := "RuledCalendar", name := "requireDate", desc := "(I)V" } : MethodName) ∈ big := mb 310 (by decide +kernel) (by decide +kernel)
set_option maxRecDepth 20000 in
theorem kw311 : Cond.code yX7_requireDate cX7_requireDate 1 none ∈ big := mb 311 rfl (by decide +kernel)
theorem kw312 : Cond.methodLink "RuledCalendar" 170 ({ cls := "RuledCalendar$Days", name := "isDate", desc := "(I)Z" } : MethodName) ∈ big := mb 312 (by decide +kernel) (by decide +kernel)
theorem kw630 : Cond.methodLink "RuledCalendar" 100 ({ cls := "RuledCalendar", name := "knownThing", desc := "(I)LRuledCalendar$Thing;" } : MethodName) ∈ big := mb 630 (by decide +kernel) (by decide +kernel)
theorem kw632 : Cond.instanceMethod ({ cls := "RuledCalendar", name := "knownThing", desc := "(I)LRuledCalendar$Thing;" } : MethodName) ∈ big := mb 632 (by decide +kernel) (by decide +kernel)
set_option maxRecDepth 20000 in
theorem kw633 : Cond.code yX7_knownThing cX7_knownThing 3 (some (.object "RuledCalendar$Thing")) ∈ big := mb 633 rfl (by decide +kernel)
theorem kw634 : Cond.classLink "RuledCalendar" 155 "java/lang/IndexOutOfBoundsException" ∈ big := mb 634 (by decide +kernel) (by decide +kernel)
theorem kw675 : Cond.methodLink "RuledCalendar" 118 ({ cls := "RuledCalendar$Days", name := "monthOf", desc := "(I)I" } : MethodName) ∈ big := mb 675 (by decide +kernel) (by decide +kernel)
theorem kw680 : Cond.methodLink "RuledCalendar" 125 ({ cls := "RuledCalendar$Days", name := "dayOf", desc := "(I)I" } : MethodName) ∈ big := mb 680 (by decide +kernel) (by decide +kernel)
theorem kw688 : Cond.constant "RuledCalendar" 128 2147483647 ∈ big := mb 688 (by decide +kernel) (by decide +kernel)
theorem kw701 : Cond.methodLink "RuledCalendar" 141 ({ cls := "RuledCalendar$Days", name := "lowest", desc := "(II)I" } : MethodName) ∈ big := mb 701 (by decide +kernel) (by decide +kernel)
theorem kw709 : Cond.methodLink "RuledCalendar" 144 ({ cls := "RuledCalendar$Days", name := "between", desc := "(III)I" } : MethodName) ∈ big := mb 709 (by decide +kernel) (by decide +kernel)
theorem kw717 : Cond.methodLink "RuledCalendar" 148 ({ cls := "RuledCalendar", name := "busyDays", desc := "(I)I" } : MethodName) ∈ big := mb 717 (by decide +kernel) (by decide +kernel)
theorem kw719 : Cond.instanceMethod ({ cls := "RuledCalendar", name := "busyDays", desc := "(I)I" } : MethodName) ∈ big := mb 719 (by decide +kernel) (by decide +kernel)
set_option maxRecDepth 20000 in
theorem kw720 : Cond.code yX7_busyDays cX7_busyDays 4 (some .int) ∈ big := mb 720 rfl (by decide +kernel)
theorem kw725 : Cond.methodLink "RuledCalendar" 151 ({ cls := "RuledCalendar", name := "listMonth", desc := "(II)V" } : MethodName) ∈ big := mb 725 (by decide +kernel) (by decide +kernel)
theorem kw727 : Cond.instanceMethod ({ cls := "RuledCalendar", name := "listMonth", desc := "(II)V" } : MethodName) ∈ big := mb 727 (by decide +kernel) (by decide +kernel)
set_option maxRecDepth 20000 in
theorem kw728 : Cond.code yX7_listMonth cX7_listMonth 5 none ∈ big := mb 728 rfl (by decide +kernel)
theorem kw748 : Cond.methodLink "RuledCalendar" 158 ({ cls := "RuledCalendar", name := "countThings", desc := "(II)V" } : MethodName) ∈ big := mb 748 (by decide +kernel) (by decide +kernel)
theorem kw750 : Cond.instanceMethod ({ cls := "RuledCalendar", name := "countThings", desc := "(II)V" } : MethodName) ∈ big := mb 750 (by decide +kernel) (by decide +kernel)
set_option maxRecDepth 20000 in
theorem kw751 : Cond.code yX7_countThings cX7_countThings 7 none ∈ big := mb 751 rfl (by decide +kernel)
theorem kw760 : Cond.methodLink "RuledCalendar" 161 ({ cls := "RuledCalendar$Days", name := "numberOf", desc := "(I)I" } : MethodName) ∈ big := mb 760 (by decide +kernel) (by decide +kernel)
theorem kw761 : Cond.methodLink "RuledCalendar" 167 ({ cls := "RuledCalendar$Days", name := "dateOf", desc := "(I)I" } : MethodName) ∈ big := mb 761 (by decide +kernel) (by decide +kernel)
theorem kw762 : Cond.instanceMethod ({ cls := "RuledCalendar$Days", name := "dateOf", desc := "(I)I" } : MethodName) ∈ big := mb 762 (by decide +kernel) (by decide +kernel)
theorem kw763 : Cond.selects "RuledCalendar$Days" ({ cls := "RuledCalendar$Days", name := "dateOf", desc := "(I)I" } : MethodName) ({ cls := "RuledCalendar$Days", name := "dateOf", desc := "(I)I" } : MethodName) ∈ big := mb 763 (by decide +kernel) (by decide +kernel)
set_option maxRecDepth 20000 in
theorem kw764 : Cond.code yX0_dateOf cX0_dateOf 4 (some .int) ∈ big := mb 764 rfl (by decide +kernel)
theorem ks_yX7_busyDays : Cond.selects RX7 yX7_busyDays yX7_busyDays ∈ big := mbs (by decide +kernel) (by decide +kernel)
theorem ks_yX7_countThings : Cond.selects RX7 yX7_countThings yX7_countThings ∈ big := mbs (by decide +kernel) (by decide +kernel)
theorem ks_yX7_knownThing : Cond.selects RX7 yX7_knownThing yX7_knownThing ∈ big := mbs (by decide +kernel) (by decide +kernel)
theorem ks_yX7_listMonth : Cond.selects RX7 yX7_listMonth yX7_listMonth ∈ big := mbs (by decide +kernel) (by decide +kernel)
theorem xat0 : ∀ w ∈ (vx_at0 RX7 68 (exn 0) ["java/lang/RuntimeException", "java/lang/Exception"]).filter goodWord, w ∈ big := by
  have h : ∀ w ∈ (vx_at0 RX7 68 (exn 0) ["java/lang/RuntimeException", "java/lang/Exception"]).filter goodWord, w ∈ lw_tbl ∧ goodWord w = true := by decide +kernel
  intro w hw
  exact List.mem_filter.mpr (h w hw)
theorem xthr0 {p : Program} {l : Launch} {e : Env} {R : Room} {s : State} {m : MethodId} {args : Array Value} {below : List Frame} {meth : Method} {c : Code} {H : Heap} {locs : List Loc} {cells slots mc ms : Nat} {cc : ByteArray} {nL : Nat} {rt : Option FieldType} {c0 : Cond} {G : Ev} {pc : Nat} {ls : Array Slot} {rest : List Value} {ws : va_W} {L : List Nat} {o : Option Nat} {Qc : Array Value → State → Outcome → State → Prop} (XX : CXX p s m args meth c cc nL rt RX7 c0 G (AL L s.heap.size) l) (ho : o = some 0) (hP : va_P (DD G) vwCl ws H) (hS : va_S (AL L s.heap.size) s.heap H locs) (hl : ls.size = nL) (d0 : decode cc pc = .ok (.new 66, 3)) (d3 : decode cc (pc + 3) = .ok (.dup, 1)) (d4 : decode cc (pc + 4) = .ok (.invokespecial 68, 3)) (d7 : decode cc (pc + 7) = .ok (.athrow, 1)) (hRf : 5 < R.frames) (hRl : (rest.map fun v => v.category).sum + 81 ≤ R.locals) (hRc : cells + 1 ≤ R.cells) (hRs : slots + 6 ≤ R.slots) (hc : cells + 1 ≤ mc) (hs : slots + 6 ≤ ms) : W p l e R s m args below meth c H locs cells slots (vx_MQ below Qc (XC9 G o ws (AL L s.heap.size)) args s mc ms (AL L s.heap.size)) (F0 m pc ls rest) :=
  xthr 0 XX (by decide) kw239 kw13 xat0 (by decide +kernel) (by decide +kernel) ho hP hS hl d0 d3 d4 d7 hRf hRl hRc hRs hc hs
theorem xat1 : ∀ w ∈ (vx_at0 RX7 157 (exn 1) ["java/lang/RuntimeException", "java/lang/Exception"]).filter goodWord, w ∈ big := by
  have h : ∀ w ∈ (vx_at0 RX7 157 (exn 1) ["java/lang/RuntimeException", "java/lang/Exception"]).filter goodWord, w ∈ lw_tbl ∧ goodWord w = true := by decide +kernel
  intro w hw
  exact List.mem_filter.mpr (h w hw)
theorem xthr1 {p : Program} {l : Launch} {e : Env} {R : Room} {s : State} {m : MethodId} {args : Array Value} {below : List Frame} {meth : Method} {c : Code} {H : Heap} {locs : List Loc} {cells slots mc ms : Nat} {cc : ByteArray} {nL : Nat} {rt : Option FieldType} {c0 : Cond} {G : Ev} {pc : Nat} {ls : Array Slot} {rest : List Value} {ws : va_W} {L : List Nat} {o : Option Nat} {Qc : Array Value → State → Outcome → State → Prop} (XX : CXX p s m args meth c cc nL rt RX7 c0 G (AL L s.heap.size) l) (ho : o = some 1) (hP : va_P (DD G) vwCl ws H) (hS : va_S (AL L s.heap.size) s.heap H locs) (hl : ls.size = nL) (d0 : decode cc pc = .ok (.new 155, 3)) (d3 : decode cc (pc + 3) = .ok (.dup, 1)) (d4 : decode cc (pc + 4) = .ok (.invokespecial 157, 3)) (d7 : decode cc (pc + 7) = .ok (.athrow, 1)) (hRf : 5 < R.frames) (hRl : (rest.map fun v => v.category).sum + 81 ≤ R.locals) (hRc : cells + 1 ≤ R.cells) (hRs : slots + 6 ≤ R.slots) (hc : cells + 1 ≤ mc) (hs : slots + 6 ≤ ms) : W p l e R s m args below meth c H locs cells slots (vx_MQ below Qc (XC9 G o ws (AL L s.heap.size)) args s mc ms (AL L s.heap.size)) (F0 m pc ls rest) :=
  xthr 1 XX (by decide) kw634 kw22 xat1 (by decide +kernel) (by decide +kernel) ho hP hS hl d0 d3 d4 d7 hRf hRl hRc hRs hc hs
-- requireDate
def moQ7_requireDate (n : Nat) (x0 : Int32) : Option (Nat ⊕ (Unit)) :=
  (bd1 (moQ0_isDate n x0) fun r_1 => (if r_1 = 0 then (some (.inl 0)) else (some (.inr ()))))
set_option maxHeartbeats 4000000 in
set_option maxRecDepth 100000 in
theorem cQ7_requireDate {l : Launch} {G : Ev}  {n : Nat} {x0 : Int32} {res : Nat ⊕ (Unit)} (hst : l.stackTraces = false) (hm : moQ7_requireDate n x0  = some res) : XtV l G yX7_requireDate cX7_requireDate 1 none 6 89 1 6 [.int x0] (wN ()) (wN ()) (xk res) := by
  intro sz
  refine enterX hst (by decide) (Nat.le_of_ble_eq_true rfl) ?_
  intro p e s m args below meth c ls XX hsz hP hD hS hl
  subst hsz
  have X := XX.1
  obtain ⟨⟨hx, hb, hml, hown, hts⟩, hK, hr, hlk, hA, hAs, hSta⟩ := id X
  have hl : lv_has ls 1 [(0, .int x0)] := hl
  unfold moQ7_requireDate at hm
  refine lv_iload_n hx hb dX7_requireDate_0 rfl (lv_at hl 0 rfl) ?_
  obtain ⟨r_1, e_1, hm⟩ := bd1_s hm
  refine goT_i (n := 1) X (cQ0_isDate e_1) (gSx kw312 kw313 kw2 kw314) (by decide +kernel) ⟨by decide, by decide⟩ va_nil va_dnil hS rfl rfl hl.1 (Nat.le_of_ble_eq_true rfl) dX7_requireDate_1 ⟨by decide, by decide⟩ (fun H locs _ hk hS => ?_)
  have hP : va_P (DD G) vwCl (wN ()) H := va_nil
  refine lv_if_ne (tgt := 15) hx hb dX7_requireDate_4 (by decide) (fun c_2 => ?_) (fun c_2 => ?_)
  · have hm := (if_neg c_2).symm.trans hm
    refine W.widen (k := 1) (n := 6) (by decide) (by decide) ?_
    cases hm
    exact xret_v X rfl hP hS dX7_requireDate_15
  · have hm := (if_pos c_2).symm.trans hm
    cases hm
    exact xthr0 XX rfl hP hS hl.1 dX7_requireDate_7 dX7_requireDate_10 dX7_requireDate_11 dX7_requireDate_14 (by decide) (Nat.le_of_ble_eq_true rfl) (by decide) (by decide) (by decide) (by decide)

-- knownThing
def moQ7_knownThing (n : Nat) (z : Pc4) (x1 : Int32) (q : Pc4) : Option (Nat ⊕ (Nat)) :=
  (if x1 < 0 then (some (.inl 1)) else (if x1 < 12 then (gi x1 12 (if q.2.1 15 (Int32.toNatClampNeg x1) = 0 then (some (.inl 1)) else (gl (Int32.toNatClampNeg x1) 12 (gz (z.2.1 15 (Int32.toNatClampNeg x1)) (if (r4S z (100 + 4 * (Int32.toNatClampNeg x1))) = 0 then (some (.inl 1)) else (some (.inr (Int32.toNatClampNeg x1)))))))) else (some (.inl 1))))
set_option maxHeartbeats 4000000 in
set_option maxRecDepth 100000 in
theorem cQ7_knownThing {l : Launch} {G : Ev} {a : Nat → Nat} {z : Pc4} {n : Nat} {q : Pc4} {x1 : Int32} {res : Nat ⊕ (Nat)} (hst : l.stackTraces = false) (hm : moQ7_knownThing n z x1 q = some res) : XtR l G yX7_knownThing cX7_knownThing 3 (some (.object "RuledCalendar$Thing")) 6 89 1 6 [.ref (a 0), .int x1] (wZ G a z q) (wZ G a z q) (fun k => a (100 + 4 * k)) res := by
  intro sz
  refine enterX hst (by decide) (Nat.le_of_ble_eq_true rfl) ?_
  intro p e s m args below meth c ls XX hsz hP hD hS hl
  subst hsz
  have X := XX.1
  obtain ⟨⟨hx, hb, hml, hown, hts⟩, hK, hr, hlk, hA, hAs, hSta⟩ := id X
  have hl : lv_has ls 3 [(0, .ref (a 0)), (1, .int x1)] := hl
  unfold moQ7_knownThing at hm
  refine lv_iload_n hx hb dX7_knownThing_0 rfl (lv_at hl 1 rfl) ?_
  refine lv_if_lt (tgt := 10) hx hb dX7_knownThing_1 (by decide) (fun c_1 => ?_) (fun c_1 => ?_)
  · have hm := (if_pos c_1).symm.trans hm
    cases hm
    exact xthr1 XX rfl hP hS hl.1 dX7_knownThing_10 dX7_knownThing_13 dX7_knownThing_14 dX7_knownThing_17 (by decide) (Nat.le_of_ble_eq_true rfl) (by decide) (by decide) (by decide) (by decide)
  · have hm := (if_neg c_1).symm.trans hm
    refine lv_iload_n hx hb dX7_knownThing_4 rfl (lv_at hl 1 rfl) ?_
    refine lv_bipush (v := 12) hx hb dX7_knownThing_5 (by decide) ?_
    refine lv_icmp_lt (tgt := 18) hx hb dX7_knownThing_7 (by decide) (fun c_2 => ?_) (fun c_2 => ?_)
    · have hm := (if_pos c_2).symm.trans hm
      refine lv_aload_n hx hb dX7_knownThing_18 rfl (lv_at hl 0 rfl) ?_
      refine gC_cal_things X kw194 hP dX7_knownThing_19 ?_
      refine lv_iload_n hx hb dX7_knownThing_22 rfl (lv_at hl 1 rfl) ?_
      obtain ⟨hi_3, hm⟩ := gi_s hm
      refine ldZ_things X hP hi_3 dX7_knownThing_23 (fun c_3 => ?_) (fun c_3 => ?_)
      · have hm := (if_pos c_3).symm.trans hm
        refine lv_astore_nN (lv' := [(2, .null), (0, .ref (a 0)), (1, .int x1)]) hx hb dX7_knownThing_24 rfl hl (by decide) rfl (fun ls hl => ?_)
        refine lv_aload_nN hx hb dX7_knownThing_25 rfl (lv_at hl 0 rfl) ?_
        refine lv_ifnullN (tgt := 36) hx hb dX7_knownThing_26 (by decide) ?_
        cases hm
        exact xthr1 XX rfl hP hS hl.1 dX7_knownThing_36 dX7_knownThing_39 dX7_knownThing_40 dX7_knownThing_43 (by decide) (Nat.le_of_ble_eq_true rfl) (by decide) (by decide) (by decide) (by decide)
      · have hm := (if_neg c_3).symm.trans hm
        refine lv_astore_n (lv' := [(2, .ref (a (100 + 4 * (Int32.toNatClampNeg x1)))), (0, .ref (a 0)), (1, .int x1)]) hx hb dX7_knownThing_24 rfl hl (by decide) rfl (fun ls hl => ?_)
        refine lv_aload_n hx hb dX7_knownThing_25 rfl (lv_at hl 0 rfl) ?_
        refine lv_ifnull hx hb dX7_knownThing_26 ?_
        refine lv_aload_n hx hb dX7_knownThing_29 rfl (lv_at hl 0 rfl) ?_
        obtain ⟨hg_4, hm⟩ := gl_s hm
        obtain ⟨hz_5, hm⟩ := gz_s hm
        refine gT_live X kw497 (zP hg_4 hz_5 hP) dX7_knownThing_30 ?_
        refine lv_if_ne (tgt := 44) hx hb dX7_knownThing_33 (by decide) (fun c_6 => ?_) (fun c_6 => ?_)
        · have hm := (if_neg c_6).symm.trans hm
          refine lv_aload_n hx hb dX7_knownThing_44 rfl (lv_at hl 0 rfl) ?_
          refine W.widen (k := 1) (n := 6) (by decide) (by decide) ?_
          cases hm
          exact xret_r (ad := fun k => a (100 + 4 * k)) X rfl hP hS dX7_knownThing_45
        · have hm := (if_pos c_6).symm.trans hm
          cases hm
          exact xthr1 XX rfl hP hS hl.1 dX7_knownThing_36 dX7_knownThing_39 dX7_knownThing_40 dX7_knownThing_43 (by decide) (Nat.le_of_ble_eq_true rfl) (by decide) (by decide) (by decide) (by decide)
    · have hm := (if_neg c_2).symm.trans hm
      cases hm
      exact xthr1 XX rfl hP hS hl.1 dX7_knownThing_10 dX7_knownThing_13 dX7_knownThing_14 dX7_knownThing_17 (by decide) (Nat.le_of_ble_eq_true rfl) (by decide) (by decide) (by decide) (by decide)

-- feed
def moQ7_feed_L36 {α : Type} (n : Nat) (z : Pc4) (K0 : Int32 → Pc4 → Option α) : Nat → Int32 → Int64 → Int32 → Pc4 → Option α
  | 0, _, _, _, _ => none
  | k + 1, x1, x2, x4, q => (if x1 ≤ x4 then (K0 x1 q) else (gi ((r4S q 0) + x4) 200 (moQ7_feed_L36 n z K0 k x1 x2 (x4 + 1) (s4A q 1 ((r4S q 0) + x4) (vp_nar .char (i2cI (Int64.toInt32 ((urL x2 (8 * x4)) &&& 255))))))))
def moQ7_feed (n : Nat) (z : Pc4) (x1 : Int32) (x2 : Int64) (q : Pc4) : Option (Nat ⊕ (Int32 × Pc4)) :=
  (if x1 < 1 then (some (.inl 0)) else (if x1 ≤ 8 then (if ((r4S q 0) + x1) ≤ 200 then (moQ7_feed_L36 n z (fun z6_1 q_6 => (some (.inr ((r4S (s4S q_6 0 ((r4S q_6 0) + z6_1)) 0), (s4S q_6 0 ((r4S q_6 0) + z6_1)))))) n x1 x2 0 q) else (some (.inr ((-1), q)))) else (some (.inl 0))))
set_option maxHeartbeats 4000000 in
set_option maxRecDepth 100000 in
theorem lpQ7_feed_36 {p : Program} {l : Launch} {e : Env} {s : State} {m : MethodId} {args : Array Value} {below : List Frame} {meth : Method} {c : Code} {G : Ev} {a : Nat → Nat} {z : Pc4} {Q : State → Prop} {A : Nat → Prop} {q0 : Pc4} (XX : CXX p s m args meth c cX7_feed 5 (some .int) RX7 (.code yX7_feed cX7_feed 5 (some .int)) G A l) (hD : va_D A (wZ G a z q0)) {α : Type} {o : α} {n : Nat} {K0 : Int32 → Pc4 → Option α} (h0 : ∀ (y1 : Int32) (q : Pc4) (H : Heap) (locs : List Loc) (ls : Array Slot), K0 y1 q = some o → va_P (DD G) vwCl (wZ G a z q) H → va_S A s.heap H locs → lv_has ls 5 [(0, .ref (a 0)), (1, .int y1)] → W p l e { frames := 6, cells := 1, slots := 6, locals := 89 } s m args below meth c H locs 1 6 Q (F0 m 73 ls [])) : ∀ (k : Nat) (x1 : Int32) (x2 : Int64) (x4 : Int32) (q : Pc4) (H : Heap) (locs : List Loc) (ls : Array Slot), moQ7_feed_L36 n z K0 k x1 x2 x4 q = some o → va_P (DD G) vwCl (wZ G a z q) H → va_S A s.heap H locs → lv_has ls 5 [(0, .ref (a 0)), (1, .int x1), (2, .long x2), (4, .int x4)] → W p l e { frames := 6, cells := 1, slots := 6, locals := 89 } s m args below meth c H locs 1 6 Q (F0 m 36 ls []) := by
  have X := XX.1
  obtain ⟨⟨hx, hb, hml, hown, hts⟩, hK, hr, hlk, hA, hAs, hSta⟩ := id X
  intro k
  induction k with
  | zero =>
    intro x1 x2 x4 q H locs ls hm
    have hm : none = some o := hm
    cases hm
  | succ k ih =>
    intro x1 x2 x4 q H locs ls hm hP hS hl
    rw [moQ7_feed_L36] at hm
    refine lv_iload hx hb dX7_feed_36 (lv_at hl 3 rfl) ?_
    refine lv_iload_n hx hb dX7_feed_38 rfl (lv_at hl 1 rfl) ?_
    refine lv_icmp_ge (tgt := 73) hx hb dX7_feed_39 (by decide) (fun c_4 => ?_) (fun c_4 => ?_)
    · have hm := (if_pos c_4).symm.trans hm
      exact h0 _ _ _ _ _ hm hP hS (lv_sub hl [0, 1] rfl)
    · have hm := (if_neg c_4).symm.trans hm
      refine lv_aload_n hx hb dX7_feed_42 rfl (lv_at hl 0 rfl) ?_
      refine gC_cal_text X kw188 hP dX7_feed_43 ?_
      refine lv_aload_n hx hb dX7_feed_46 rfl (lv_at hl 0 rfl) ?_
      refine gC_cal_textLength X kw189 hP dX7_feed_47 ?_
      refine lv_iload hx hb dX7_feed_50 (lv_at hl 3 rfl) ?_
      refine lv_iadd hx hb dX7_feed_52 ?_
      refine lv_lload_n hx hb dX7_feed_53 rfl (lv_at hl 2 rfl) ?_
      refine lv_bipush (v := 8) hx hb dX7_feed_54 (by decide) ?_
      refine lv_iload hx hb dX7_feed_56 (lv_at hl 3 rfl) ?_
      refine lv_imul hx hb dX7_feed_58 ?_
      refine lv_lushr (v := (urL x2 (8 * x4))) hx hb dX7_feed_59 rfl ?_
      refine lv_ldc2 (v := 255) hx hb hown (hts _ (List.mem_cons_of_mem _ kw301)) dX7_feed_60 ?_
      refine lv_land hx hb dX7_feed_63 ?_
      refine lv_l2i (v := (Int64.toInt32 ((urL x2 (8 * x4)) &&& 255))) hx hb dX7_feed_64 rfl ?_
      refine lv_i2c (v := (i2cI (Int64.toInt32 ((urL x2 (8 * x4)) &&& 255)))) hx hb dX7_feed_65 rfl ?_
      obtain ⟨hi_5, hm⟩ := gi_s hm
      refine stC_text X hP (dZ (q1 := q) hD) hS hi_5 dX7_feed_66 (fun H locs hP hS => ?_)
      have hP : va_P (DD G) vwCl (wZ G a z (s4A q 1 ((r4S q 0) + x4) (vp_nar .char (i2cI (Int64.toInt32 ((urL x2 (8 * x4)) &&& 255)))))) H := hP
      refine lv_iinc (v := (x4 + 1)) (lv' := [(4, .int (x4 + 1)), (0, .ref (a 0)), (1, .int x1), (2, .long x2)]) hx hb dX7_feed_67 hl (k := 3) rfl (by first | rfl | decide) (by decide) rfl (fun ls hl => ?_)
      refine lv_goto (tgt := 36) hx hb dX7_feed_70 (by decide) ?_
      exact ih _ _ _ _ _ _ _ hm hP hS (lv_sub hl [1, 2, 3, 0] rfl)
set_option maxHeartbeats 4000000 in
set_option maxRecDepth 100000 in
theorem cQ7_feed {l : Launch} {G : Ev} {a : Nat → Nat} {z : Pc4} {n : Nat} {q : Pc4} {x1 : Int32} {x2 : Int64} {res : Nat ⊕ (Int32 × Pc4)} (hst : l.stackTraces = false) (hm : moQ7_feed n z x1 x2 q = some res) : XtI l G yX7_feed cX7_feed 5 (some .int) 6 89 1 6 [.ref (a 0), .int x1, .long x2] (wZ G a z q) (xW (fun x => wZ G a z x.2) (wZ G a z q) res) (xm (fun x => x.1) res) := by
  intro sz
  refine enterX hst (by decide) (Nat.le_of_ble_eq_true rfl) ?_
  intro p e s m args below meth c ls XX hsz hP hD hS hl
  subst hsz
  have X := XX.1
  obtain ⟨⟨hx, hb, hml, hown, hts⟩, hK, hr, hlk, hA, hAs, hSta⟩ := id X
  have hl : lv_has ls 5 [(0, .ref (a 0)), (1, .int x1), (2, .long x2)] := hl
  unfold moQ7_feed at hm
  refine lv_iload_n hx hb dX7_feed_0 rfl (lv_at hl 1 rfl) ?_
  refine lv_iconst (v := 1) hx hb dX7_feed_1 (by decide) ?_
  refine lv_icmp_lt (tgt := 11) hx hb dX7_feed_2 (by decide) (fun c_1 => ?_) (fun c_1 => ?_)
  · have hm := (if_pos c_1).symm.trans hm
    cases hm
    exact xthr0 XX rfl hP hS hl.1 dX7_feed_11 dX7_feed_14 dX7_feed_15 dX7_feed_18 (by decide) (Nat.le_of_ble_eq_true rfl) (by decide) (by decide) (by decide) (by decide)
  · have hm := (if_neg c_1).symm.trans hm
    refine lv_iload_n hx hb dX7_feed_5 rfl (lv_at hl 1 rfl) ?_
    refine lv_bipush (v := 8) hx hb dX7_feed_6 (by decide) ?_
    refine lv_icmp_le (tgt := 19) hx hb dX7_feed_8 (by decide) (fun c_2 => ?_) (fun c_2 => ?_)
    · have hm := (if_pos c_2).symm.trans hm
      refine lv_aload_n hx hb dX7_feed_19 rfl (lv_at hl 0 rfl) ?_
      refine gC_cal_textLength X kw189 hP dX7_feed_20 ?_
      refine lv_iload_n hx hb dX7_feed_23 rfl (lv_at hl 1 rfl) ?_
      refine lv_iadd hx hb dX7_feed_24 ?_
      refine lv_sipush (v := 200) hx hb dX7_feed_25 (by decide) ?_
      refine lv_icmp_le (tgt := 33) hx hb dX7_feed_28 (by decide) (fun c_3 => ?_) (fun c_3 => ?_)
      · have hm := (if_pos c_3).symm.trans hm
        refine lv_iconst (v := 0) hx hb dX7_feed_33 (by decide) ?_
        refine lv_istore (lv' := [(4, .int 0), (0, .ref (a 0)), (1, .int x1), (2, .long x2)]) hx hb dX7_feed_34 hl (by decide) rfl (fun ls hl => ?_)
        refine W.widen (k := 1) (n := 6) (by decide) (by decide) ?_
        refine lpQ7_feed_36 XX hD (fun z6_1 q_6 H locs ls hm hP hS hl => ?_) n _ _ _ _ _ _ _ hm hP hS (lv_sub hl [1, 2, 3, 0] rfl)
        refine lv_aload_n hx hb dX7_feed_73 rfl (lv_at hl 0 rfl) ?_
        refine lv_dup hx hb dX7_feed_74 rfl ?_
        refine gC_cal_textLength X kw189 hP dX7_feed_75 ?_
        refine lv_iload_n hx hb dX7_feed_78 rfl (lv_at hl 1 rfl) ?_
        refine lv_iadd hx hb dX7_feed_79 ?_
        refine pC_cal_textLength X kw189 hP (dZ (q1 := q_6) hD) hS dX7_feed_80 (fun H locs hP hS => ?_)
        have hP : va_P (DD G) vwCl (wZ G a z (s4S q_6 0 ((r4S q_6 0) + z6_1))) H := hP
        refine lv_aload_n hx hb dX7_feed_83 rfl (lv_at hl 0 rfl) ?_
        refine gC_cal_textLength X kw189 hP dX7_feed_84 ?_
        cases hm
        exact xret_i X rfl hP hS dX7_feed_87
      · have hm := (if_neg c_3).symm.trans hm
        refine lv_iconst (v := (-1)) hx hb dX7_feed_31 (by decide) ?_
        refine W.widen (k := 1) (n := 6) (by decide) (by decide) ?_
        cases hm
        exact xret_i X rfl hP hS dX7_feed_32
    · have hm := (if_neg c_2).symm.trans hm
      cases hm
      exact xthr0 XX rfl hP hS hl.1 dX7_feed_11 dX7_feed_14 dX7_feed_15 dX7_feed_18 (by decide) (Nat.le_of_ble_eq_true rfl) (by decide) (by decide) (by decide) (by decide)

-- comes
def moQ7_comes (n : Nat) (z : Pc4) (x1 : Int32) (x2 : Int32) (q : Pc4) : Option (Nat ⊕ (Int32)) :=
  (bx (moQ7_knownThing n z x1 q) fun u_1 => (bx (moQ7_requireDate n x2) fun _ => (bd1 (moQ0_monthOf n x2) fun r_3 => (gl u_1 12 (gz (z.2.1 15 u_1) (bd1 (moQ6_daysIn n u_1 r_3 z) fun r_4 => (bd1 (moQ0_dayOf n x2) fun r_7 => (if (r_4 &&& (slI 1 r_7)) = 0 then (some (.inr 0)) else (some (.inr 1))))))))))
set_option maxHeartbeats 4000000 in
set_option maxRecDepth 100000 in
theorem cQ7_comes {l : Launch} {G : Ev} {a : Nat → Nat} {z : Pc4} {n : Nat} {q : Pc4} {x1 : Int32} {x2 : Int32} {res : Nat ⊕ (Int32)} (hst : l.stackTraces = false) (hm : moQ7_comes n z x1 x2 q = some res) : XtI l G yX7_comes cX7_comes 4 (some .boolean) 7 111 2 12 [.ref (a 0), .int x1, .int x2] (wZ G a z q) (wZ G a z q) res := by
  intro sz
  refine enterX hst (by decide) (Nat.le_of_ble_eq_true rfl) ?_
  intro p e s m args below meth c ls XX hsz hP hD hS hl
  subst hsz
  have X := XX.1
  obtain ⟨⟨hx, hb, hml, hown, hts⟩, hK, hr, hlk, hA, hAs, hSta⟩ := id X
  have hl : lv_has ls 4 [(0, .ref (a 0)), (1, .int x1), (2, .int x2)] := hl
  unfold moQ7_comes at hm
  refine lv_aload_n hx hb dX7_comes_0 rfl (lv_at hl 0 rfl) ?_
  refine lv_iload_n hx hb dX7_comes_1 rfl (lv_at hl 1 rfl) ?_
  rcases bx_s hm with ⟨k_1, e_1, h_1⟩ | ⟨u_1, e_1, hm⟩
  · subst h_1
    exact xt_t (n := 1) (C := RX7) k_1 XX (cQ7_knownThing (a := a) XX.2.2.2 e_1) (gV kw630 kw632 ks_yX7_knownThing kw1 kw633) (by decide +kernel) ⟨by decide, by decide⟩ (rc_cal hK hP) rfl hP (dZ (q1 := q) hD) hS rfl rfl hl.1 (Nat.le_of_ble_eq_true rfl) dX7_comes_2 ⟨by decide, by decide⟩ (by decide) (by decide)
  · refine xt (n := 1) (C := RX7) (ad := fun k => a (100 + 4 * k)) (k := u_1) XX (cQ7_knownThing (a := a) XX.2.2.2 e_1) (gV kw630 kw632 ks_yX7_knownThing kw1 kw633) (by decide +kernel) ⟨by decide, by decide⟩ (rc_cal hK hP) hP (dZ (q1 := q) hD) hS rfl rfl hl.1 (Nat.le_of_ble_eq_true rfl) dX7_comes_2 ⟨by decide, by decide⟩ (fun H locs hP hS => ?_)
    refine W.widen (k := 1) (n := 6) (by decide) (by decide) ?_
    refine lv_astore_n (lv' := [(3, .ref (a (100 + 4 * u_1))), (0, .ref (a 0)), (1, .int x1), (2, .int x2)]) hx hb dX7_comes_5 rfl hl (by decide) rfl (fun ls hl => ?_)
    refine lv_iload_n hx hb dX7_comes_6 rfl (lv_at hl 3 rfl) ?_
    rcases bx_s hm with ⟨k_2, e_2, h_2⟩ | ⟨u_2, e_2, hm⟩
    · subst h_2
      exact xq_t (n := 1) k_2 XX (cQ7_requireDate XX.2.2.2 e_2) (gS kw309 kw310 kw1 kw311) (by decide +kernel) ⟨by decide, by decide⟩ rfl hP hS rfl rfl hl.1 (Nat.le_of_ble_eq_true rfl) dX7_comes_7 ⟨by decide, by decide⟩ (by decide) (by decide)
    · refine xq (n := 1) XX (cQ7_requireDate XX.2.2.2 e_2) (gS kw309 kw310 kw1 kw311) (by decide +kernel) ⟨by decide, by decide⟩ hP hS rfl rfl hl.1 (Nat.le_of_ble_eq_true rfl) dX7_comes_7 ⟨by decide, by decide⟩ (fun H locs hP hS => ?_)
      refine W.widen (k := 2) (n := 12) (by decide) (by decide) ?_
      refine lv_aload_n hx hb dX7_comes_10 rfl (lv_at hl 0 rfl) ?_
      refine lv_iload_n hx hb dX7_comes_11 rfl (lv_at hl 3 rfl) ?_
      obtain ⟨r_3, e_3, hm⟩ := bd1_s hm
      refine goT_i (n := 1) X (cQ0_monthOf e_3) (gSx kw675 kw318 kw2 kw319) (by decide +kernel) ⟨by decide, by decide⟩ va_nil va_dnil hS rfl rfl hl.1 (Nat.le_of_ble_eq_true rfl) dX7_comes_12 ⟨by decide, by decide⟩ (fun H locs _ hk hS => ?_)
      have hP := va_keep hP hk
      obtain ⟨hg_5, hm⟩ := gl_s hm
      obtain ⟨hz_6, hm⟩ := gz_s hm
      obtain ⟨r_4, e_4, hm⟩ := bd1_s hm
      refine goV_i (n := 1) (C := RX6) X (cQ6_daysIn (κ := u_1) e_4) (gV kw676 kw677 kw678 kw20 kw679) (by decide +kernel) ⟨by decide, by decide⟩ (rc_T hK (zP hg_5 hz_6 hP)) (zP hg_5 hz_6 hP) (zD hg_5 hz_6 (dZ (q1 := q) hD)) hS rfl rfl hl.1 (Nat.le_of_ble_eq_true rfl) dX7_comes_15 ⟨by decide, by decide⟩ (fun H locs hP1 hk hS => ?_)
      have hP := zB hg_5 hz_6 hP (dZ (q1 := q) hD) hk hP1
      refine lv_iconst (v := 1) hx hb dX7_comes_18 (by decide) ?_
      refine lv_iload_n hx hb dX7_comes_19 rfl (lv_at hl 3 rfl) ?_
      obtain ⟨r_7, e_7, hm⟩ := bd1_s hm
      refine goT_i (n := 1) X (cQ0_dayOf e_7) (gSx kw680 kw527 kw2 kw528) (by decide +kernel) ⟨by decide, by decide⟩ va_nil va_dnil hS rfl rfl hl.1 (Nat.le_of_ble_eq_true rfl) dX7_comes_20 ⟨by decide, by decide⟩ (fun H locs _ hk hS => ?_)
      have hP := va_keep hP hk
      refine lv_ishl hx hb dX7_comes_23 ?_
      refine lv_iand hx hb dX7_comes_24 ?_
      refine lv_if_eq (tgt := 32) hx hb dX7_comes_25 (by decide) (fun c_8 => ?_) (fun c_8 => ?_)
      · have hm := (if_pos c_8).symm.trans hm
        refine lv_iconst (v := 0) hx hb dX7_comes_32 (by decide) ?_
        cases hm
        exact xret_z X (by decide) rfl hP hS dX7_comes_33
      · have hm := (if_neg c_8).symm.trans hm
        refine lv_iconst (v := 1) hx hb dX7_comes_28 (by decide) ?_
        refine lv_goto (tgt := 33) hx hb dX7_comes_29 (by decide) ?_
        cases hm
        exact xret_z X (by decide) rfl hP hS dX7_comes_33

-- next
def moQ7_next_L29 {α : Type} (n : Nat) (z : Pc4) (q : Pc4) (K0 : Option α) (K1 : Int32 → Int32 → Option α) : Nat → Nat → Int32 → Int32 → Int32 → Option α
  | 0, _, _, _, _ => none
  | k + 1, x3, x4, x5, x6 => (if 3600 ≤ x6 then (K0 ) else (gl x3 12 (gz (z.2.1 15 x3) (bd1 (moQ6_daysIn n x3 x6 z) fun r_6 => (if x6 = x4 then (if (r_6 &&& x5) = 0 then (moQ7_next_L29 n z q K0 K1 k x3 x4 x5 (x6 + 1) ) else (K1 x6 (r_6 &&& x5) )) else (if (r_6 &&& 2147483647) = 0 then (moQ7_next_L29 n z q K0 K1 k x3 x4 x5 (x6 + 1) ) else (K1 x6 (r_6 &&& 2147483647) )))))))
def moQ7_next (n : Nat) (z : Pc4) (x1 : Int32) (x2 : Int32) (q : Pc4) : Option (Nat ⊕ (Int32)) :=
  (bx (moQ7_knownThing n z x1 q) fun u_1 => (bx (moQ7_requireDate n x2) fun _ => (bd1 (moQ0_monthOf n x2) fun r_3 => (bd1 (moQ0_dayOf n x2) fun r_4 => (moQ7_next_L29 n z q (some (.inr (-1))) (fun z13_6 z13_7 => (bd1 (moQJ6_numberOfTrailingZeros_0f7a4 n z13_7) fun r_14 => (bd1 (moQ0_dateAt n z13_6 r_14) fun r_15 => (some (.inr r_15))))) n u_1 r_3 (slI (-2) r_4) r_3 )))))
set_option maxHeartbeats 4000000 in
set_option maxRecDepth 100000 in
theorem lpQ7_next_29 {p : Program} {l : Launch} {e : Env} {s : State} {m : MethodId} {args : Array Value} {below : List Frame} {meth : Method} {c : Code} {G : Ev} {a : Nat → Nat} {z : Pc4} {Q : State → Prop} {A : Nat → Prop} {q : Pc4} (XX : CXX p s m args meth c cX7_next 8 (some .int) RX7 (.code yX7_next cX7_next 8 (some .int)) G A l) (hD : va_D A (wZ G a z q)) {α : Type} {o : α} {n : Nat} {K0 : Option α} {K1 : Int32 → Int32 → Option α} (h0 : ∀ (H : Heap) (locs : List Loc) (ls : Array Slot), K0  = some o → va_P (DD G) vwCl (wZ G a z q) H → va_S A s.heap H locs → lv_has ls 8 [] → W p l e { frames := 7, cells := 2, slots := 12, locals := 111 } s m args below meth c H locs 2 12 Q (F0 m 82 ls [])) (h1 : ∀ (y6 : Int32) (y7 : Int32) (H : Heap) (locs : List Loc) (ls : Array Slot), K1 y6 y7  = some o → va_P (DD G) vwCl (wZ G a z q) H → va_S A s.heap H locs → lv_has ls 8 [(6, .int y6), (7, .int y7)] → W p l e { frames := 7, cells := 2, slots := 12, locals := 111 } s m args below meth c H locs 2 12 Q (F0 m 65 ls [])) : ∀ (k : Nat) (x3 : Nat) (x4 : Int32) (x5 : Int32) (x6 : Int32) (H : Heap) (locs : List Loc) (ls : Array Slot), moQ7_next_L29 n z q K0 K1 k x3 x4 x5 x6  = some o → va_P (DD G) vwCl (wZ G a z q) H → va_S A s.heap H locs → lv_has ls 8 [(3, .ref (a (100 + 4 * x3))), (4, .int x4), (5, .int x5), (6, .int x6)] → W p l e { frames := 7, cells := 2, slots := 12, locals := 111 } s m args below meth c H locs 2 12 Q (F0 m 29 ls []) := by
  have X := XX.1
  obtain ⟨⟨hx, hb, hml, hown, hts⟩, hK, hr, hlk, hA, hAs, hSta⟩ := id X
  intro k
  induction k with
  | zero =>
    intro x3 x4 x5 x6 H locs ls hm
    have hm : none = some o := hm
    cases hm
  | succ k ih =>
    intro x3 x4 x5 x6 H locs ls hm hP hS hl
    rw [moQ7_next_L29] at hm
    refine lv_iload hx hb dX7_next_29 (lv_at hl 3 rfl) ?_
    refine lv_sipush (v := 3600) hx hb dX7_next_31 (by decide) ?_
    refine lv_icmp_ge (tgt := 82) hx hb dX7_next_34 (by decide) (fun c_5 => ?_) (fun c_5 => ?_)
    · have hm := (if_pos c_5).symm.trans hm
      exact h0 _ _ _ hm hP hS (lv_sub hl [] rfl)
    · have hm := (if_neg c_5).symm.trans hm
      refine lv_aload_n hx hb dX7_next_37 rfl (lv_at hl 0 rfl) ?_
      refine lv_iload hx hb dX7_next_38 (lv_at hl 3 rfl) ?_
      obtain ⟨hg_7, hm⟩ := gl_s hm
      obtain ⟨hz_8, hm⟩ := gz_s hm
      obtain ⟨r_6, e_6, hm⟩ := bd1_s hm
      refine goV_i (n := 1) (C := RX6) X (cQ6_daysIn (κ := x3) e_6) (gV kw676 kw677 kw678 kw20 kw679) (by decide +kernel) ⟨by decide, by decide⟩ (rc_T hK (zP hg_7 hz_8 hP)) (zP hg_7 hz_8 hP) (zD hg_7 hz_8 (dZ (q1 := q) hD)) hS rfl rfl hl.1 (Nat.le_of_ble_eq_true rfl) dX7_next_40 ⟨by decide, by decide⟩ (fun H locs hP1 hk hS => ?_)
      have hP := zB hg_7 hz_8 hP (dZ (q1 := q) hD) hk hP1
      refine lv_iload hx hb dX7_next_43 (lv_at hl 3 rfl) ?_
      refine lv_iload hx hb dX7_next_45 (lv_at hl 1 rfl) ?_
      refine lv_icmp_ne (tgt := 55) hx hb dX7_next_47 (by decide) (fun c_9 => ?_) (fun c_9 => ?_)
      · have hm := (if_neg c_9).symm.trans hm
        refine lv_ldc (v := 2147483647) hx hb hown (hts _ (List.mem_cons_of_mem _ kw688)) dX7_next_55 ?_
        refine lv_iand hx hb dX7_next_57 ?_
        refine lv_istore (lv' := [(7, .int (r_6 &&& 2147483647)), (3, .ref (a (100 + 4 * x3))), (4, .int x4), (5, .int x5), (6, .int x6)]) hx hb dX7_next_58 hl (by decide) rfl (fun ls hl => ?_)
        refine lv_iload hx hb dX7_next_60 (lv_at hl 0 rfl) ?_
        refine lv_if_eq (tgt := 76) hx hb dX7_next_62 (by decide) (fun c_10 => ?_) (fun c_10 => ?_)
        · have hm := (if_pos c_10).symm.trans hm
          refine lv_iinc (v := (x6 + 1)) (lv' := [(6, .int (x6 + 1)), (7, .int (r_6 &&& 2147483647)), (3, .ref (a (100 + 4 * x3))), (4, .int x4), (5, .int x5)]) hx hb dX7_next_76 hl (k := 4) rfl (by first | rfl | decide) (by decide) rfl (fun ls hl => ?_)
          refine lv_goto (tgt := 29) hx hb dX7_next_79 (by decide) ?_
          exact ih _ _ _ _ _ _ _ hm hP hS (lv_sub hl [2, 3, 4, 0] rfl)
        · have hm := (if_neg c_10).symm.trans hm
          exact h1 _ _ _ _ _ hm hP hS (lv_sub hl [4, 0] rfl)
      · have hm := (if_pos c_9).symm.trans hm
        refine lv_iload hx hb dX7_next_50 (lv_at hl 2 rfl) ?_
        refine lv_goto (tgt := 57) hx hb dX7_next_52 (by decide) ?_
        refine lv_iand hx hb dX7_next_57 ?_
        refine lv_istore (lv' := [(7, .int (r_6 &&& x5)), (3, .ref (a (100 + 4 * x3))), (4, .int x4), (5, .int x5), (6, .int x6)]) hx hb dX7_next_58 hl (by decide) rfl (fun ls hl => ?_)
        refine lv_iload hx hb dX7_next_60 (lv_at hl 0 rfl) ?_
        refine lv_if_eq (tgt := 76) hx hb dX7_next_62 (by decide) (fun c_11 => ?_) (fun c_11 => ?_)
        · have hm := (if_pos c_11).symm.trans hm
          refine lv_iinc (v := (x6 + 1)) (lv' := [(6, .int (x6 + 1)), (7, .int (r_6 &&& x5)), (3, .ref (a (100 + 4 * x3))), (4, .int x4), (5, .int x5)]) hx hb dX7_next_76 hl (k := 4) rfl (by first | rfl | decide) (by decide) rfl (fun ls hl => ?_)
          refine lv_goto (tgt := 29) hx hb dX7_next_79 (by decide) ?_
          exact ih _ _ _ _ _ _ _ hm hP hS (lv_sub hl [2, 3, 4, 0] rfl)
        · have hm := (if_neg c_11).symm.trans hm
          exact h1 _ _ _ _ _ hm hP hS (lv_sub hl [4, 0] rfl)
set_option maxHeartbeats 4000000 in
set_option maxRecDepth 100000 in
theorem cQ7_next {l : Launch} {G : Ev} {a : Nat → Nat} {z : Pc4} {n : Nat} {q : Pc4} {x1 : Int32} {x2 : Int32} {res : Nat ⊕ (Int32)} (hst : l.stackTraces = false) (hm : moQ7_next n z x1 x2 q = some res) : XtI l G yX7_next cX7_next 8 (some .int) 7 111 2 12 [.ref (a 0), .int x1, .int x2] (wZ G a z q) (wZ G a z q) res := by
  intro sz
  refine enterX hst (by decide) (Nat.le_of_ble_eq_true rfl) ?_
  intro p e s m args below meth c ls XX hsz hP hD hS hl
  subst hsz
  have X := XX.1
  obtain ⟨⟨hx, hb, hml, hown, hts⟩, hK, hr, hlk, hA, hAs, hSta⟩ := id X
  have hl : lv_has ls 8 [(0, .ref (a 0)), (1, .int x1), (2, .int x2)] := hl
  unfold moQ7_next at hm
  refine lv_aload_n hx hb dX7_next_0 rfl (lv_at hl 0 rfl) ?_
  refine lv_iload_n hx hb dX7_next_1 rfl (lv_at hl 1 rfl) ?_
  rcases bx_s hm with ⟨k_1, e_1, h_1⟩ | ⟨u_1, e_1, hm⟩
  · subst h_1
    exact xt_t (n := 1) (C := RX7) k_1 XX (cQ7_knownThing (a := a) XX.2.2.2 e_1) (gV kw630 kw632 ks_yX7_knownThing kw1 kw633) (by decide +kernel) ⟨by decide, by decide⟩ (rc_cal hK hP) rfl hP (dZ (q1 := q) hD) hS rfl rfl hl.1 (Nat.le_of_ble_eq_true rfl) dX7_next_2 ⟨by decide, by decide⟩ (by decide) (by decide)
  · refine xt (n := 1) (C := RX7) (ad := fun k => a (100 + 4 * k)) (k := u_1) XX (cQ7_knownThing (a := a) XX.2.2.2 e_1) (gV kw630 kw632 ks_yX7_knownThing kw1 kw633) (by decide +kernel) ⟨by decide, by decide⟩ (rc_cal hK hP) hP (dZ (q1 := q) hD) hS rfl rfl hl.1 (Nat.le_of_ble_eq_true rfl) dX7_next_2 ⟨by decide, by decide⟩ (fun H locs hP hS => ?_)
    refine W.widen (k := 1) (n := 6) (by decide) (by decide) ?_
    refine lv_astore_n (lv' := [(3, .ref (a (100 + 4 * u_1))), (0, .ref (a 0)), (1, .int x1), (2, .int x2)]) hx hb dX7_next_5 rfl hl (by decide) rfl (fun ls hl => ?_)
    refine lv_iload_n hx hb dX7_next_6 rfl (lv_at hl 3 rfl) ?_
    rcases bx_s hm with ⟨k_2, e_2, h_2⟩ | ⟨u_2, e_2, hm⟩
    · subst h_2
      exact xq_t (n := 1) k_2 XX (cQ7_requireDate XX.2.2.2 e_2) (gS kw309 kw310 kw1 kw311) (by decide +kernel) ⟨by decide, by decide⟩ rfl hP hS rfl rfl hl.1 (Nat.le_of_ble_eq_true rfl) dX7_next_7 ⟨by decide, by decide⟩ (by decide) (by decide)
    · refine xq (n := 1) XX (cQ7_requireDate XX.2.2.2 e_2) (gS kw309 kw310 kw1 kw311) (by decide +kernel) ⟨by decide, by decide⟩ hP hS rfl rfl hl.1 (Nat.le_of_ble_eq_true rfl) dX7_next_7 ⟨by decide, by decide⟩ (fun H locs hP hS => ?_)
      refine W.widen (k := 2) (n := 12) (by decide) (by decide) ?_
      refine lv_iload_n hx hb dX7_next_10 rfl (lv_at hl 3 rfl) ?_
      obtain ⟨r_3, e_3, hm⟩ := bd1_s hm
      refine goT_i (n := 1) X (cQ0_monthOf e_3) (gSx kw675 kw318 kw2 kw319) (by decide +kernel) ⟨by decide, by decide⟩ va_nil va_dnil hS rfl rfl hl.1 (Nat.le_of_ble_eq_true rfl) dX7_next_11 ⟨by decide, by decide⟩ (fun H locs _ hk hS => ?_)
      have hP := va_keep hP hk
      refine lv_istore (lv' := [(4, .int r_3), (3, .ref (a (100 + 4 * u_1))), (0, .ref (a 0)), (1, .int x1), (2, .int x2)]) hx hb dX7_next_14 hl (by decide) rfl (fun ls hl => ?_)
      refine lv_bipush (v := (-2)) hx hb dX7_next_16 (by decide) ?_
      refine lv_iload_n hx hb dX7_next_18 rfl (lv_at hl 4 rfl) ?_
      obtain ⟨r_4, e_4, hm⟩ := bd1_s hm
      refine goT_i (n := 1) X (cQ0_dayOf e_4) (gSx kw680 kw527 kw2 kw528) (by decide +kernel) ⟨by decide, by decide⟩ va_nil va_dnil hS rfl rfl hl.1 (Nat.le_of_ble_eq_true rfl) dX7_next_19 ⟨by decide, by decide⟩ (fun H locs _ hk hS => ?_)
      have hP := va_keep hP hk
      refine lv_ishl hx hb dX7_next_22 ?_
      refine lv_istore (lv' := [(5, .int (slI (-2) r_4)), (4, .int r_3), (3, .ref (a (100 + 4 * u_1))), (0, .ref (a 0)), (1, .int x1), (2, .int x2)]) hx hb dX7_next_23 hl (by decide) rfl (fun ls hl => ?_)
      refine lv_iload hx hb dX7_next_25 (lv_at hl 1 rfl) ?_
      refine lv_istore (lv' := [(6, .int r_3), (5, .int (slI (-2) r_4)), (4, .int r_3), (3, .ref (a (100 + 4 * u_1))), (0, .ref (a 0)), (1, .int x1), (2, .int x2)]) hx hb dX7_next_27 hl (by decide) rfl (fun ls hl => ?_)
      refine lpQ7_next_29 XX hD (fun  H locs ls hm hP hS hl => ?_) (fun z13_6 z13_7 H locs ls hm hP hS hl => ?_) n _ _ _ _ _ _ _ hm hP hS (lv_sub hl [3, 2, 1, 0] rfl)
      · refine lv_iconst (v := (-1)) hx hb dX7_next_82 (by decide) ?_
        cases hm
        exact xret_i X rfl hP hS dX7_next_83
      · refine lv_iload hx hb dX7_next_65 (lv_at hl 0 rfl) ?_
        refine lv_iload hx hb dX7_next_67 (lv_at hl 1 rfl) ?_
        obtain ⟨r_14, e_14, hm⟩ := bd1_s hm
        refine goT_i (n := 1) X (cQJ6_numberOfTrailingZeros_0f7a4 e_14) (gSx kw689 kw596 kw21 kw597) (by decide +kernel) ⟨by decide, by decide⟩ va_nil va_dnil hS rfl rfl hl.1 (Nat.le_of_ble_eq_true rfl) dX7_next_69 ⟨by decide, by decide⟩ (fun H locs _ hk hS => ?_)
        have hP := va_keep hP hk
        obtain ⟨r_15, e_15, hm⟩ := bd1_s hm
        refine goT_i (n := 2) X (cQ0_dateAt e_15) (gSx kw690 kw691 kw2 kw692) (by decide +kernel) ⟨by decide, by decide⟩ va_nil va_dnil hS rfl rfl hl.1 (Nat.le_of_ble_eq_true rfl) dX7_next_72 ⟨by decide, by decide⟩ (fun H locs _ hk hS => ?_)
        have hP := va_keep hP hk
        cases hm
        exact xret_i X rfl hP hS dX7_next_75

-- date
def moQ7_date_L24 {α : Type} (n : Nat) (z : Pc4) (q : Pc4) (K0 : Option α) (K1 : Int32 → Int32 → Int32 → Option α) : Nat → Nat → Int32 → Int32 → Option α
  | 0, _, _, _ => none
  | k + 1, x3, x4, x5 => (if 3600 ≤ x5 then (K0 ) else (gl x3 12 (gz (z.2.1 15 x3) (bd1 (moQ6_daysIn n x3 x5 z) fun r_4 => (bd1 (moQJ6_bitCount_0f7a4 n r_4) fun r_7 => (if r_7 ≤ x4 then (moQ7_date_L24 n z q K0 K1 k x3 (x4 - r_7) (x5 + 1) ) else (K1 x4 x5 r_4 )))))))
def moQ7_date (n : Nat) (z : Pc4) (x1 : Int32) (x2 : Int32) (q : Pc4) : Option (Nat ⊕ (Int32)) :=
  (bx (moQ7_knownThing n z x1 q) fun u_1 => (if 0 ≤ x2 then (moQ7_date_L24 n z q (some (.inr (-1))) (fun z10_4 z10_5 z10_6 => (bd1 (moQ0_lowest n z10_6 z10_4) fun r_11 => (bd1 (moQJ6_numberOfTrailingZeros_0f7a4 n (z10_6 &&& (r_11 ^^^ (-1)))) fun r_12 => (bd1 (moQ0_dateAt n z10_5 r_12) fun r_13 => (some (.inr r_13)))))) n u_1 x2 0 ) else (some (.inl 0))))
set_option maxHeartbeats 4000000 in
set_option maxRecDepth 100000 in
theorem lpQ7_date_24 {p : Program} {l : Launch} {e : Env} {s : State} {m : MethodId} {args : Array Value} {below : List Frame} {meth : Method} {c : Code} {G : Ev} {a : Nat → Nat} {z : Pc4} {Q : State → Prop} {A : Nat → Prop} {q : Pc4} (XX : CXX p s m args meth c cX7_date 9 (some .int) RX7 (.code yX7_date cX7_date 9 (some .int)) G A l) (hD : va_D A (wZ G a z q)) {α : Type} {o : α} {n : Nat} {K0 : Option α} {K1 : Int32 → Int32 → Int32 → Option α} (h0 : ∀ (H : Heap) (locs : List Loc) (ls : Array Slot), K0  = some o → va_P (DD G) vwCl (wZ G a z q) H → va_S A s.heap H locs → lv_has ls 9 [] → W p l e { frames := 7, cells := 2, slots := 12, locals := 111 } s m args below meth c H locs 2 12 Q (F0 m 92 ls [])) (h1 : ∀ (y4 : Int32) (y5 : Int32) (y6 : Int32) (H : Heap) (locs : List Loc) (ls : Array Slot), K1 y4 y5 y6  = some o → va_P (DD G) vwCl (wZ G a z q) H → va_S A s.heap H locs → lv_has ls 9 [(4, .int y4), (5, .int y5), (6, .int y6)] → W p l e { frames := 7, cells := 2, slots := 12, locals := 111 } s m args below meth c H locs 2 12 Q (F0 m 54 ls [])) : ∀ (k : Nat) (x3 : Nat) (x4 : Int32) (x5 : Int32) (H : Heap) (locs : List Loc) (ls : Array Slot), moQ7_date_L24 n z q K0 K1 k x3 x4 x5  = some o → va_P (DD G) vwCl (wZ G a z q) H → va_S A s.heap H locs → lv_has ls 9 [(3, .ref (a (100 + 4 * x3))), (4, .int x4), (5, .int x5)] → W p l e { frames := 7, cells := 2, slots := 12, locals := 111 } s m args below meth c H locs 2 12 Q (F0 m 24 ls []) := by
  have X := XX.1
  obtain ⟨⟨hx, hb, hml, hown, hts⟩, hK, hr, hlk, hA, hAs, hSta⟩ := id X
  intro k
  induction k with
  | zero =>
    intro x3 x4 x5 H locs ls hm
    have hm : none = some o := hm
    cases hm
  | succ k ih =>
    intro x3 x4 x5 H locs ls hm hP hS hl
    rw [moQ7_date_L24] at hm
    refine lv_iload hx hb dX7_date_24 (lv_at hl 2 rfl) ?_
    refine lv_sipush (v := 3600) hx hb dX7_date_26 (by decide) ?_
    refine lv_icmp_ge (tgt := 92) hx hb dX7_date_29 (by decide) (fun c_3 => ?_) (fun c_3 => ?_)
    · have hm := (if_pos c_3).symm.trans hm
      exact h0 _ _ _ hm hP hS (lv_sub hl [] rfl)
    · have hm := (if_neg c_3).symm.trans hm
      refine lv_aload_n hx hb dX7_date_32 rfl (lv_at hl 0 rfl) ?_
      refine lv_iload hx hb dX7_date_33 (lv_at hl 2 rfl) ?_
      obtain ⟨hg_5, hm⟩ := gl_s hm
      obtain ⟨hz_6, hm⟩ := gz_s hm
      obtain ⟨r_4, e_4, hm⟩ := bd1_s hm
      refine goV_i (n := 1) (C := RX6) X (cQ6_daysIn (κ := x3) e_4) (gV kw676 kw677 kw678 kw20 kw679) (by decide +kernel) ⟨by decide, by decide⟩ (rc_T hK (zP hg_5 hz_6 hP)) (zP hg_5 hz_6 hP) (zD hg_5 hz_6 (dZ (q1 := q) hD)) hS rfl rfl hl.1 (Nat.le_of_ble_eq_true rfl) dX7_date_35 ⟨by decide, by decide⟩ (fun H locs hP1 hk hS => ?_)
      have hP := zB hg_5 hz_6 hP (dZ (q1 := q) hD) hk hP1
      refine lv_istore (lv' := [(6, .int r_4), (3, .ref (a (100 + 4 * x3))), (4, .int x4), (5, .int x5)]) hx hb dX7_date_38 hl (by decide) rfl (fun ls hl => ?_)
      refine lv_iload hx hb dX7_date_40 (lv_at hl 0 rfl) ?_
      obtain ⟨r_7, e_7, hm⟩ := bd1_s hm
      refine goT_i (n := 1) X (cQJ6_bitCount_0f7a4 e_7) (gSx kw700 kw590 kw21 kw591) (by decide +kernel) ⟨by decide, by decide⟩ va_nil va_dnil hS rfl rfl hl.1 (Nat.le_of_ble_eq_true rfl) dX7_date_42 ⟨by decide, by decide⟩ (fun H locs _ hk hS => ?_)
      have hP := va_keep hP hk
      refine lv_istore (lv' := [(7, .int r_7), (6, .int r_4), (3, .ref (a (100 + 4 * x3))), (4, .int x4), (5, .int x5)]) hx hb dX7_date_45 hl (by decide) rfl (fun ls hl => ?_)
      refine lv_iload hx hb dX7_date_47 (lv_at hl 3 rfl) ?_
      refine lv_iload hx hb dX7_date_49 (lv_at hl 0 rfl) ?_
      refine lv_icmp_ge (tgt := 79) hx hb dX7_date_51 (by decide) (fun c_8 => ?_) (fun c_8 => ?_)
      · have hm := (if_pos c_8).symm.trans hm
        refine lv_iload hx hb dX7_date_79 (lv_at hl 3 rfl) ?_
        refine lv_iload hx hb dX7_date_81 (lv_at hl 0 rfl) ?_
        refine lv_isub hx hb dX7_date_83 ?_
        refine lv_istore (lv' := [(4, .int (x4 - r_7)), (7, .int r_7), (6, .int r_4), (3, .ref (a (100 + 4 * x3))), (5, .int x5)]) hx hb dX7_date_84 hl (by decide) rfl (fun ls hl => ?_)
        refine lv_iinc (v := (x5 + 1)) (lv' := [(5, .int (x5 + 1)), (4, .int (x4 - r_7)), (7, .int r_7), (6, .int r_4), (3, .ref (a (100 + 4 * x3)))]) hx hb dX7_date_86 hl (k := 4) rfl (by first | rfl | decide) (by decide) rfl (fun ls hl => ?_)
        refine lv_goto (tgt := 24) hx hb dX7_date_89 (by decide) ?_
        exact ih _ _ _ _ _ _ hm hP hS (lv_sub hl [4, 1, 0] rfl)
      · have hm := (if_neg c_8).symm.trans hm
        exact h1 _ _ _ _ _ _ hm hP hS (lv_sub hl [3, 4, 1] rfl)
set_option maxHeartbeats 4000000 in
set_option maxRecDepth 100000 in
theorem cQ7_date {l : Launch} {G : Ev} {a : Nat → Nat} {z : Pc4} {n : Nat} {q : Pc4} {x1 : Int32} {x2 : Int32} {res : Nat ⊕ (Int32)} (hst : l.stackTraces = false) (hm : moQ7_date n z x1 x2 q = some res) : XtI l G yX7_date cX7_date 9 (some .int) 7 111 2 12 [.ref (a 0), .int x1, .int x2] (wZ G a z q) (wZ G a z q) res := by
  intro sz
  refine enterX hst (by decide) (Nat.le_of_ble_eq_true rfl) ?_
  intro p e s m args below meth c ls XX hsz hP hD hS hl
  subst hsz
  have X := XX.1
  obtain ⟨⟨hx, hb, hml, hown, hts⟩, hK, hr, hlk, hA, hAs, hSta⟩ := id X
  have hl : lv_has ls 9 [(0, .ref (a 0)), (1, .int x1), (2, .int x2)] := hl
  unfold moQ7_date at hm
  refine lv_aload_n hx hb dX7_date_0 rfl (lv_at hl 0 rfl) ?_
  refine lv_iload_n hx hb dX7_date_1 rfl (lv_at hl 1 rfl) ?_
  rcases bx_s hm with ⟨k_1, e_1, h_1⟩ | ⟨u_1, e_1, hm⟩
  · subst h_1
    exact xt_t (n := 1) (C := RX7) k_1 XX (cQ7_knownThing (a := a) XX.2.2.2 e_1) (gV kw630 kw632 ks_yX7_knownThing kw1 kw633) (by decide +kernel) ⟨by decide, by decide⟩ (rc_cal hK hP) rfl hP (dZ (q1 := q) hD) hS rfl rfl hl.1 (Nat.le_of_ble_eq_true rfl) dX7_date_2 ⟨by decide, by decide⟩ (by decide) (by decide)
  · refine xt (n := 1) (C := RX7) (ad := fun k => a (100 + 4 * k)) (k := u_1) XX (cQ7_knownThing (a := a) XX.2.2.2 e_1) (gV kw630 kw632 ks_yX7_knownThing kw1 kw633) (by decide +kernel) ⟨by decide, by decide⟩ (rc_cal hK hP) hP (dZ (q1 := q) hD) hS rfl rfl hl.1 (Nat.le_of_ble_eq_true rfl) dX7_date_2 ⟨by decide, by decide⟩ (fun H locs hP hS => ?_)
    refine W.widen (k := 1) (n := 6) (by decide) (by decide) ?_
    refine lv_astore_n (lv' := [(3, .ref (a (100 + 4 * u_1))), (0, .ref (a 0)), (1, .int x1), (2, .int x2)]) hx hb dX7_date_5 rfl hl (by decide) rfl (fun ls hl => ?_)
    refine lv_iload_n hx hb dX7_date_6 rfl (lv_at hl 3 rfl) ?_
    refine lv_if_ge (tgt := 18) hx hb dX7_date_7 (by decide) (fun c_2 => ?_) (fun c_2 => ?_)
    · have hm := (if_pos c_2).symm.trans hm
      refine lv_iload_n hx hb dX7_date_18 rfl (lv_at hl 3 rfl) ?_
      refine lv_istore (lv' := [(4, .int x2), (3, .ref (a (100 + 4 * u_1))), (0, .ref (a 0)), (1, .int x1), (2, .int x2)]) hx hb dX7_date_19 hl (by decide) rfl (fun ls hl => ?_)
      refine lv_iconst (v := 0) hx hb dX7_date_21 (by decide) ?_
      refine lv_istore (lv' := [(5, .int 0), (4, .int x2), (3, .ref (a (100 + 4 * u_1))), (0, .ref (a 0)), (1, .int x1), (2, .int x2)]) hx hb dX7_date_22 hl (by decide) rfl (fun ls hl => ?_)
      refine W.widen (k := 2) (n := 12) (by decide) (by decide) ?_
      refine lpQ7_date_24 XX hD (fun  H locs ls hm hP hS hl => ?_) (fun z10_4 z10_5 z10_6 H locs ls hm hP hS hl => ?_) n _ _ _ _ _ _ hm hP hS (lv_sub hl [2, 1, 0] rfl)
      · refine lv_iconst (v := (-1)) hx hb dX7_date_92 (by decide) ?_
        cases hm
        exact xret_i X rfl hP hS dX7_date_93
      · refine lv_iload hx hb dX7_date_54 (lv_at hl 2 rfl) ?_
        refine lv_iload hx hb dX7_date_56 (lv_at hl 2 rfl) ?_
        refine lv_iload hx hb dX7_date_58 (lv_at hl 0 rfl) ?_
        obtain ⟨r_11, e_11, hm⟩ := bd1_s hm
        refine goT_i (n := 2) X (cQ0_lowest e_11) (gSx kw701 kw620 kw2 kw621) (by decide +kernel) ⟨by decide, by decide⟩ va_nil va_dnil hS rfl rfl hl.1 (Nat.le_of_ble_eq_true rfl) dX7_date_60 ⟨by decide, by decide⟩ (fun H locs _ hk hS => ?_)
        have hP := va_keep hP hk
        refine lv_iconst (v := (-1)) hx hb dX7_date_63 (by decide) ?_
        refine lv_ixor hx hb dX7_date_64 ?_
        refine lv_iand hx hb dX7_date_65 ?_
        refine lv_istore (lv' := [(8, .int (z10_6 &&& (r_11 ^^^ (-1)))), (4, .int z10_4), (5, .int z10_5), (6, .int z10_6)]) hx hb dX7_date_66 hl (by decide) rfl (fun ls hl => ?_)
        refine lv_iload hx hb dX7_date_68 (lv_at hl 2 rfl) ?_
        refine lv_iload hx hb dX7_date_70 (lv_at hl 0 rfl) ?_
        obtain ⟨r_12, e_12, hm⟩ := bd1_s hm
        refine goT_i (n := 1) X (cQJ6_numberOfTrailingZeros_0f7a4 e_12) (gSx kw689 kw596 kw21 kw597) (by decide +kernel) ⟨by decide, by decide⟩ va_nil va_dnil hS rfl rfl hl.1 (Nat.le_of_ble_eq_true rfl) dX7_date_72 ⟨by decide, by decide⟩ (fun H locs _ hk hS => ?_)
        have hP := va_keep hP hk
        obtain ⟨r_13, e_13, hm⟩ := bd1_s hm
        refine goT_i (n := 2) X (cQ0_dateAt e_13) (gSx kw690 kw691 kw2 kw692) (by decide +kernel) ⟨by decide, by decide⟩ va_nil va_dnil hS rfl rfl hl.1 (Nat.le_of_ble_eq_true rfl) dX7_date_75 ⟨by decide, by decide⟩ (fun H locs _ hk hS => ?_)
        have hP := va_keep hP hk
        cases hm
        exact xret_i X rfl hP hS dX7_date_78
    · have hm := (if_neg c_2).symm.trans hm
      cases hm
      exact xthr0 XX rfl hP hS hl.1 dX7_date_10 dX7_date_13 dX7_date_14 dX7_date_17 (by decide) (Nat.le_of_ble_eq_true rfl) (by decide) (by decide) (by decide) (by decide)

-- times
def moQ7_times_L30 {α : Type} (n : Nat) (z : Pc4) (q : Pc4) (K0 : Int32 → Option α) : Nat → Int32 → Int32 → Nat → Int32 → Int32 → Int32 → Option α
  | 0, _, _, _, _, _, _ => none
  | k + 1, x2, x3, x4, x5, x6, x7 => (if x5 < x7 then (K0 x6 ) else (gl x4 12 (gz (z.2.1 15 x4) (bd1 (moQ6_daysIn n x4 x7 z) fun r_7 => (bd1 (moQ0_between n x7 x2 x3) fun r_10 => (bd1 (moQJ6_bitCount_0f7a4 n (r_7 &&& r_10)) fun r_11 => (moQ7_times_L30 n z q K0 k x2 x3 x4 x5 (x6 + r_11) (x7 + 1) )))))))
def moQ7_times (n : Nat) (z : Pc4) (x1 : Int32) (x2 : Int32) (x3 : Int32) (q : Pc4) : Option (Nat ⊕ (Int32)) :=
  (bx (moQ7_knownThing n z x1 q) fun u_1 => (bx (moQ7_requireDate n x2) fun _ => (bx (moQ7_requireDate n x3) fun _ => (bd1 (moQ0_monthOf n x3) fun r_4 => (bd1 (moQ0_monthOf n x2) fun r_5 => (moQ7_times_L30 n z q (fun z12_6 => (some (.inr z12_6))) n x2 x3 u_1 r_4 0 r_5 ))))))
set_option maxHeartbeats 4000000 in
set_option maxRecDepth 100000 in
theorem lpQ7_times_30 {p : Program} {l : Launch} {e : Env} {s : State} {m : MethodId} {args : Array Value} {below : List Frame} {meth : Method} {c : Code} {G : Ev} {a : Nat → Nat} {z : Pc4} {Q : State → Prop} {A : Nat → Prop} {q : Pc4} (XX : CXX p s m args meth c cX7_times 8 (some .int) RX7 (.code yX7_times cX7_times 8 (some .int)) G A l) (hD : va_D A (wZ G a z q)) {α : Type} {o : α} {n : Nat} {K0 : Int32 → Option α} (h0 : ∀ (y6 : Int32) (H : Heap) (locs : List Loc) (ls : Array Slot), K0 y6  = some o → va_P (DD G) vwCl (wZ G a z q) H → va_S A s.heap H locs → lv_has ls 8 [(6, .int y6)] → W p l e { frames := 7, cells := 3, slots := 18, locals := 111 } s m args below meth c H locs 3 18 Q (F0 m 66 ls [])) : ∀ (k : Nat) (x2 : Int32) (x3 : Int32) (x4 : Nat) (x5 : Int32) (x6 : Int32) (x7 : Int32) (H : Heap) (locs : List Loc) (ls : Array Slot), moQ7_times_L30 n z q K0 k x2 x3 x4 x5 x6 x7  = some o → va_P (DD G) vwCl (wZ G a z q) H → va_S A s.heap H locs → lv_has ls 8 [(2, .int x2), (3, .int x3), (4, .ref (a (100 + 4 * x4))), (5, .int x5), (6, .int x6), (7, .int x7)] → W p l e { frames := 7, cells := 3, slots := 18, locals := 111 } s m args below meth c H locs 3 18 Q (F0 m 30 ls []) := by
  have X := XX.1
  obtain ⟨⟨hx, hb, hml, hown, hts⟩, hK, hr, hlk, hA, hAs, hSta⟩ := id X
  intro k
  induction k with
  | zero =>
    intro x2 x3 x4 x5 x6 x7 H locs ls hm
    have hm : none = some o := hm
    cases hm
  | succ k ih =>
    intro x2 x3 x4 x5 x6 x7 H locs ls hm hP hS hl
    rw [moQ7_times_L30] at hm
    refine lv_iload hx hb dX7_times_30 (lv_at hl 5 rfl) ?_
    refine lv_iload hx hb dX7_times_32 (lv_at hl 3 rfl) ?_
    refine lv_icmp_gt (tgt := 66) hx hb dX7_times_34 (by decide) (fun c_6 => ?_) (fun c_6 => ?_)
    · have hm := (if_pos c_6).symm.trans hm
      exact h0 _ _ _ _ hm hP hS (lv_sub hl [4] rfl)
    · have hm := (if_neg c_6).symm.trans hm
      refine lv_iload hx hb dX7_times_37 (lv_at hl 4 rfl) ?_
      refine lv_aload hx hb dX7_times_39 (lv_at hl 2 rfl) ?_
      refine lv_iload hx hb dX7_times_41 (lv_at hl 5 rfl) ?_
      obtain ⟨hg_8, hm⟩ := gl_s hm
      obtain ⟨hz_9, hm⟩ := gz_s hm
      obtain ⟨r_7, e_7, hm⟩ := bd1_s hm
      refine goV_i (n := 1) (C := RX6) X (cQ6_daysIn (κ := x4) e_7) (gV kw676 kw677 kw678 kw20 kw679) (by decide +kernel) ⟨by decide, by decide⟩ (rc_T hK (zP hg_8 hz_9 hP)) (zP hg_8 hz_9 hP) (zD hg_8 hz_9 (dZ (q1 := q) hD)) hS rfl rfl hl.1 (Nat.le_of_ble_eq_true rfl) dX7_times_43 ⟨by decide, by decide⟩ (fun H locs hP1 hk hS => ?_)
      have hP := zB hg_8 hz_9 hP (dZ (q1 := q) hD) hk hP1
      refine lv_iload hx hb dX7_times_46 (lv_at hl 5 rfl) ?_
      refine lv_iload_n hx hb dX7_times_48 rfl (lv_at hl 0 rfl) ?_
      refine lv_iload_n hx hb dX7_times_49 rfl (lv_at hl 1 rfl) ?_
      obtain ⟨r_10, e_10, hm⟩ := bd1_s hm
      refine goT_i (n := 3) X (cQ0_between e_10) (gSx kw709 kw616 kw2 kw617) (by decide +kernel) ⟨by decide, by decide⟩ va_nil va_dnil hS rfl rfl hl.1 (Nat.le_of_ble_eq_true rfl) dX7_times_50 ⟨by decide, by decide⟩ (fun H locs _ hk hS => ?_)
      have hP := va_keep hP hk
      refine lv_iand hx hb dX7_times_53 ?_
      obtain ⟨r_11, e_11, hm⟩ := bd1_s hm
      refine goT_i (n := 1) X (cQJ6_bitCount_0f7a4 e_11) (gSx kw700 kw590 kw21 kw591) (by decide +kernel) ⟨by decide, by decide⟩ va_nil va_dnil hS rfl rfl hl.1 (Nat.le_of_ble_eq_true rfl) dX7_times_54 ⟨by decide, by decide⟩ (fun H locs _ hk hS => ?_)
      have hP := va_keep hP hk
      refine lv_iadd hx hb dX7_times_57 ?_
      refine lv_istore (lv' := [(6, .int (x6 + r_11)), (2, .int x2), (3, .int x3), (4, .ref (a (100 + 4 * x4))), (5, .int x5), (7, .int x7)]) hx hb dX7_times_58 hl (by decide) rfl (fun ls hl => ?_)
      refine lv_iinc (v := (x7 + 1)) (lv' := [(7, .int (x7 + 1)), (6, .int (x6 + r_11)), (2, .int x2), (3, .int x3), (4, .ref (a (100 + 4 * x4))), (5, .int x5)]) hx hb dX7_times_60 hl (k := 5) rfl (by first | rfl | decide) (by decide) rfl (fun ls hl => ?_)
      refine lv_goto (tgt := 30) hx hb dX7_times_63 (by decide) ?_
      exact ih _ _ _ _ _ _ _ _ _ hm hP hS (lv_sub hl [2, 3, 4, 5, 1, 0] rfl)
set_option maxHeartbeats 4000000 in
set_option maxRecDepth 100000 in
theorem cQ7_times {l : Launch} {G : Ev} {a : Nat → Nat} {z : Pc4} {n : Nat} {q : Pc4} {x1 : Int32} {x2 : Int32} {x3 : Int32} {res : Nat ⊕ (Int32)} (hst : l.stackTraces = false) (hm : moQ7_times n z x1 x2 x3 q = some res) : XtI l G yX7_times cX7_times 8 (some .int) 7 111 3 18 [.ref (a 0), .int x1, .int x2, .int x3] (wZ G a z q) (wZ G a z q) res := by
  intro sz
  refine enterX hst (by decide) (Nat.le_of_ble_eq_true rfl) ?_
  intro p e s m args below meth c ls XX hsz hP hD hS hl
  subst hsz
  have X := XX.1
  obtain ⟨⟨hx, hb, hml, hown, hts⟩, hK, hr, hlk, hA, hAs, hSta⟩ := id X
  have hl : lv_has ls 8 [(0, .ref (a 0)), (1, .int x1), (2, .int x2), (3, .int x3)] := hl
  unfold moQ7_times at hm
  refine lv_aload_n hx hb dX7_times_0 rfl (lv_at hl 0 rfl) ?_
  refine lv_iload_n hx hb dX7_times_1 rfl (lv_at hl 1 rfl) ?_
  rcases bx_s hm with ⟨k_1, e_1, h_1⟩ | ⟨u_1, e_1, hm⟩
  · subst h_1
    exact xt_t (n := 1) (C := RX7) k_1 XX (cQ7_knownThing (a := a) XX.2.2.2 e_1) (gV kw630 kw632 ks_yX7_knownThing kw1 kw633) (by decide +kernel) ⟨by decide, by decide⟩ (rc_cal hK hP) rfl hP (dZ (q1 := q) hD) hS rfl rfl hl.1 (Nat.le_of_ble_eq_true rfl) dX7_times_2 ⟨by decide, by decide⟩ (by decide) (by decide)
  · refine xt (n := 1) (C := RX7) (ad := fun k => a (100 + 4 * k)) (k := u_1) XX (cQ7_knownThing (a := a) XX.2.2.2 e_1) (gV kw630 kw632 ks_yX7_knownThing kw1 kw633) (by decide +kernel) ⟨by decide, by decide⟩ (rc_cal hK hP) hP (dZ (q1 := q) hD) hS rfl rfl hl.1 (Nat.le_of_ble_eq_true rfl) dX7_times_2 ⟨by decide, by decide⟩ (fun H locs hP hS => ?_)
    refine W.widen (k := 1) (n := 6) (by decide) (by decide) ?_
    refine lv_astore (lv' := [(4, .ref (a (100 + 4 * u_1))), (0, .ref (a 0)), (1, .int x1), (2, .int x2), (3, .int x3)]) hx hb dX7_times_5 hl (by decide) rfl (fun ls hl => ?_)
    refine lv_iload_n hx hb dX7_times_7 rfl (lv_at hl 3 rfl) ?_
    rcases bx_s hm with ⟨k_2, e_2, h_2⟩ | ⟨u_2, e_2, hm⟩
    · subst h_2
      exact xq_t (n := 1) k_2 XX (cQ7_requireDate XX.2.2.2 e_2) (gS kw309 kw310 kw1 kw311) (by decide +kernel) ⟨by decide, by decide⟩ rfl hP hS rfl rfl hl.1 (Nat.le_of_ble_eq_true rfl) dX7_times_8 ⟨by decide, by decide⟩ (by decide) (by decide)
    · refine xq (n := 1) XX (cQ7_requireDate XX.2.2.2 e_2) (gS kw309 kw310 kw1 kw311) (by decide +kernel) ⟨by decide, by decide⟩ hP hS rfl rfl hl.1 (Nat.le_of_ble_eq_true rfl) dX7_times_8 ⟨by decide, by decide⟩ (fun H locs hP hS => ?_)
      refine W.widen (k := 2) (n := 12) (by decide) (by decide) ?_
      refine lv_iload_n hx hb dX7_times_11 rfl (lv_at hl 4 rfl) ?_
      rcases bx_s hm with ⟨k_3, e_3, h_3⟩ | ⟨u_3, e_3, hm⟩
      · subst h_3
        exact xq_t (n := 1) k_3 XX (cQ7_requireDate XX.2.2.2 e_3) (gS kw309 kw310 kw1 kw311) (by decide +kernel) ⟨by decide, by decide⟩ rfl hP hS rfl rfl hl.1 (Nat.le_of_ble_eq_true rfl) dX7_times_12 ⟨by decide, by decide⟩ (by decide) (by decide)
      · refine xq (n := 1) XX (cQ7_requireDate XX.2.2.2 e_3) (gS kw309 kw310 kw1 kw311) (by decide +kernel) ⟨by decide, by decide⟩ hP hS rfl rfl hl.1 (Nat.le_of_ble_eq_true rfl) dX7_times_12 ⟨by decide, by decide⟩ (fun H locs hP hS => ?_)
        refine W.widen (k := 3) (n := 18) (by decide) (by decide) ?_
        refine lv_iload_n hx hb dX7_times_15 rfl (lv_at hl 4 rfl) ?_
        obtain ⟨r_4, e_4, hm⟩ := bd1_s hm
        refine goT_i (n := 1) X (cQ0_monthOf e_4) (gSx kw675 kw318 kw2 kw319) (by decide +kernel) ⟨by decide, by decide⟩ va_nil va_dnil hS rfl rfl hl.1 (Nat.le_of_ble_eq_true rfl) dX7_times_16 ⟨by decide, by decide⟩ (fun H locs _ hk hS => ?_)
        have hP := va_keep hP hk
        refine lv_istore (lv' := [(5, .int r_4), (4, .ref (a (100 + 4 * u_1))), (0, .ref (a 0)), (1, .int x1), (2, .int x2), (3, .int x3)]) hx hb dX7_times_19 hl (by decide) rfl (fun ls hl => ?_)
        refine lv_iconst (v := 0) hx hb dX7_times_21 (by decide) ?_
        refine lv_istore (lv' := [(6, .int 0), (5, .int r_4), (4, .ref (a (100 + 4 * u_1))), (0, .ref (a 0)), (1, .int x1), (2, .int x2), (3, .int x3)]) hx hb dX7_times_22 hl (by decide) rfl (fun ls hl => ?_)
        refine lv_iload_n hx hb dX7_times_24 rfl (lv_at hl 5 rfl) ?_
        obtain ⟨r_5, e_5, hm⟩ := bd1_s hm
        refine goT_i (n := 1) X (cQ0_monthOf e_5) (gSx kw675 kw318 kw2 kw319) (by decide +kernel) ⟨by decide, by decide⟩ va_nil va_dnil hS rfl rfl hl.1 (Nat.le_of_ble_eq_true rfl) dX7_times_25 ⟨by decide, by decide⟩ (fun H locs _ hk hS => ?_)
        have hP := va_keep hP hk
        refine lv_istore (lv' := [(7, .int r_5), (6, .int 0), (5, .int r_4), (4, .ref (a (100 + 4 * u_1))), (0, .ref (a 0)), (1, .int x1), (2, .int x2), (3, .int x3)]) hx hb dX7_times_28 hl (by decide) rfl (fun ls hl => ?_)
        refine lpQ7_times_30 XX hD (fun z12_6 H locs ls hm hP hS hl => ?_) n _ _ _ _ _ _ _ _ _ hm hP hS (lv_sub hl [6, 7, 3, 2, 1, 0] rfl)
        refine lv_iload hx hb dX7_times_66 (lv_at hl 0 rfl) ?_
        cases hm
        exact xret_i X rfl hP hS dX7_times_68

-- list
def moQ7_list_L24 {α : Type} (n : Nat) (z : Pc4) (K0 : Pc4 → Option α) : Nat → Int32 → Int32 → Int32 → Int32 → Pc4 → Option α
  | 0, _, _, _, _, _ => none
  | k + 1, x1, x2, x3, x4, q => (if x3 < x4 then (K0 q) else (if 300 ≤ (r4S q 1) then (K0 q) else (bd1 (moQ7_busyDays n z x4 q) fun r_7 => (bd1 (moQ0_between n x4 x1 x2) fun r_8 => (bd1 (moQ7_listMonth n z x4 (r_7 &&& r_8) q) fun q_9 => (moQ7_list_L24 n z K0 k x1 x2 x3 (x4 + 1) q_9))))))
def moQ7_list (n : Nat) (z : Pc4) (x1 : Int32) (x2 : Int32) (q : Pc4) : Option (Nat ⊕ (Int32 × Pc4)) :=
  (bx (moQ7_requireDate n x1) fun _ => (bx (moQ7_requireDate n x2) fun _ => (bd1 (moQ0_monthOf n x2) fun r_3 => (bd1 (moQ0_monthOf n x1) fun r_4 => (moQ7_list_L24 n z (fun q_10 => (some (.inr ((r4S q_10 1), q_10)))) n x1 x2 r_3 r_4 (s4S q 1 0))))))
set_option maxHeartbeats 4000000 in
set_option maxRecDepth 100000 in
theorem lpQ7_list_24 {p : Program} {l : Launch} {e : Env} {s : State} {m : MethodId} {args : Array Value} {below : List Frame} {meth : Method} {c : Code} {G : Ev} {a : Nat → Nat} {z : Pc4} {Q : State → Prop} {A : Nat → Prop} {q0 : Pc4} (XX : CXX p s m args meth c cX7_list 5 (some .int) RX7 (.code yX7_list cX7_list 5 (some .int)) G A l) (hD : va_D A (wZ G a z q0)) {α : Type} {o : α} {n : Nat} {K0 : Pc4 → Option α} (h0 : ∀ (q : Pc4) (H : Heap) (locs : List Loc) (ls : Array Slot), K0 q = some o → va_P (DD G) vwCl (wZ G a z q) H → va_S A s.heap H locs → lv_has ls 5 [(0, .ref (a 0))] → W p l e { frames := 7, cells := 2, slots := 12, locals := 109 } s m args below meth c H locs 2 12 Q (F0 m 66 ls [])) : ∀ (k : Nat) (x1 : Int32) (x2 : Int32) (x3 : Int32) (x4 : Int32) (q : Pc4) (H : Heap) (locs : List Loc) (ls : Array Slot), moQ7_list_L24 n z K0 k x1 x2 x3 x4 q = some o → va_P (DD G) vwCl (wZ G a z q) H → va_S A s.heap H locs → lv_has ls 5 [(0, .ref (a 0)), (1, .int x1), (2, .int x2), (3, .int x3), (4, .int x4)] → W p l e { frames := 7, cells := 2, slots := 12, locals := 109 } s m args below meth c H locs 2 12 Q (F0 m 24 ls []) := by
  have X := XX.1
  obtain ⟨⟨hx, hb, hml, hown, hts⟩, hK, hr, hlk, hA, hAs, hSta⟩ := id X
  intro k
  induction k with
  | zero =>
    intro x1 x2 x3 x4 q H locs ls hm
    have hm : none = some o := hm
    cases hm
  | succ k ih =>
    intro x1 x2 x3 x4 q H locs ls hm hP hS hl
    rw [moQ7_list_L24] at hm
    refine lv_iload hx hb dX7_list_24 (lv_at hl 4 rfl) ?_
    refine lv_iload_n hx hb dX7_list_26 rfl (lv_at hl 3 rfl) ?_
    refine lv_icmp_gt (tgt := 66) hx hb dX7_list_27 (by decide) (fun c_5 => ?_) (fun c_5 => ?_)
    · have hm := (if_pos c_5).symm.trans hm
      exact h0 _ _ _ _ hm hP hS (lv_sub hl [0] rfl)
    · have hm := (if_neg c_5).symm.trans hm
      refine lv_aload_n hx hb dX7_list_30 rfl (lv_at hl 0 rfl) ?_
      refine gC_cal_listedCount X kw196 hP dX7_list_31 ?_
      refine lv_sipush (v := 300) hx hb dX7_list_34 (by decide) ?_
      refine lv_icmp_ge (tgt := 66) hx hb dX7_list_37 (by decide) (fun c_6 => ?_) (fun c_6 => ?_)
      · have hm := (if_pos c_6).symm.trans hm
        exact h0 _ _ _ _ hm hP hS (lv_sub hl [0] rfl)
      · have hm := (if_neg c_6).symm.trans hm
        refine lv_aload_n hx hb dX7_list_40 rfl (lv_at hl 0 rfl) ?_
        refine lv_iload hx hb dX7_list_41 (lv_at hl 4 rfl) ?_
        refine lv_aload_n hx hb dX7_list_43 rfl (lv_at hl 0 rfl) ?_
        refine lv_iload hx hb dX7_list_44 (lv_at hl 4 rfl) ?_
        obtain ⟨r_7, e_7, hm⟩ := bd1_s hm
        refine goV_i (n := 1) (C := RX7) X (cQ7_busyDays e_7) (gV kw717 kw719 ks_yX7_busyDays kw1 kw720) (by decide +kernel) ⟨by decide, by decide⟩ (rc_cal hK hP) hP (dZ (q1 := q) hD) hS rfl rfl hl.1 (Nat.le_of_ble_eq_true rfl) dX7_list_46 ⟨by decide, by decide⟩ (fun H locs hP _ hS => ?_)
        refine lv_iload hx hb dX7_list_49 (lv_at hl 4 rfl) ?_
        refine lv_iload_n hx hb dX7_list_51 rfl (lv_at hl 1 rfl) ?_
        refine lv_iload_n hx hb dX7_list_52 rfl (lv_at hl 2 rfl) ?_
        obtain ⟨r_8, e_8, hm⟩ := bd1_s hm
        refine goT_i (n := 3) X (cQ0_between e_8) (gSx kw709 kw616 kw2 kw617) (by decide +kernel) ⟨by decide, by decide⟩ va_nil va_dnil hS rfl rfl hl.1 (Nat.le_of_ble_eq_true rfl) dX7_list_53 ⟨by decide, by decide⟩ (fun H locs _ hk hS => ?_)
        have hP := va_keep hP hk
        refine lv_iand hx hb dX7_list_56 ?_
        obtain ⟨q_9, e_9, hm⟩ := bd1_s hm
        refine goV_v (n := 2) (C := RX7) X (cQ7_listMonth e_9) (gV kw725 kw727 ks_yX7_listMonth kw1 kw728) (by decide +kernel) ⟨by decide, by decide⟩ (rc_cal hK hP) hP (dZ (q1 := q) hD) hS rfl rfl hl.1 (Nat.le_of_ble_eq_true rfl) dX7_list_57 ⟨by decide, by decide⟩ (fun H locs hP _ hS => ?_)
        refine lv_iinc (v := (x4 + 1)) (lv' := [(4, .int (x4 + 1)), (0, .ref (a 0)), (1, .int x1), (2, .int x2), (3, .int x3)]) hx hb dX7_list_60 hl (k := 4) rfl (by first | rfl | decide) (by decide) rfl (fun ls hl => ?_)
        refine lv_goto (tgt := 24) hx hb dX7_list_63 (by decide) ?_
        exact ih _ _ _ _ _ _ _ _ hm hP hS (lv_sub hl [1, 2, 3, 4, 0] rfl)
set_option maxHeartbeats 4000000 in
set_option maxRecDepth 100000 in
theorem cQ7_list {l : Launch} {G : Ev} {a : Nat → Nat} {z : Pc4} {n : Nat} {q : Pc4} {x1 : Int32} {x2 : Int32} {res : Nat ⊕ (Int32 × Pc4)} (hst : l.stackTraces = false) (hm : moQ7_list n z x1 x2 q = some res) : XtI l G yX7_list cX7_list 5 (some .int) 7 109 2 12 [.ref (a 0), .int x1, .int x2] (wZ G a z q) (xW (fun x => wZ G a z x.2) (wZ G a z q) res) (xm (fun x => x.1) res) := by
  intro sz
  refine enterX hst (by decide) (Nat.le_of_ble_eq_true rfl) ?_
  intro p e s m args below meth c ls XX hsz hP hD hS hl
  subst hsz
  have X := XX.1
  obtain ⟨⟨hx, hb, hml, hown, hts⟩, hK, hr, hlk, hA, hAs, hSta⟩ := id X
  have hl : lv_has ls 5 [(0, .ref (a 0)), (1, .int x1), (2, .int x2)] := hl
  unfold moQ7_list at hm
  refine lv_iload_n hx hb dX7_list_0 rfl (lv_at hl 1 rfl) ?_
  rcases bx_s hm with ⟨k_1, e_1, h_1⟩ | ⟨u_1, e_1, hm⟩
  · subst h_1
    exact xq_t (n := 1) k_1 XX (cQ7_requireDate XX.2.2.2 e_1) (gS kw309 kw310 kw1 kw311) (by decide +kernel) ⟨by decide, by decide⟩ rfl hP hS rfl rfl hl.1 (Nat.le_of_ble_eq_true rfl) dX7_list_1 ⟨by decide, by decide⟩ (by decide) (by decide)
  · refine xq (n := 1) XX (cQ7_requireDate XX.2.2.2 e_1) (gS kw309 kw310 kw1 kw311) (by decide +kernel) ⟨by decide, by decide⟩ hP hS rfl rfl hl.1 (Nat.le_of_ble_eq_true rfl) dX7_list_1 ⟨by decide, by decide⟩ (fun H locs hP hS => ?_)
    refine W.widen (k := 1) (n := 6) (by decide) (by decide) ?_
    refine lv_iload_n hx hb dX7_list_4 rfl (lv_at hl 2 rfl) ?_
    rcases bx_s hm with ⟨k_2, e_2, h_2⟩ | ⟨u_2, e_2, hm⟩
    · subst h_2
      exact xq_t (n := 1) k_2 XX (cQ7_requireDate XX.2.2.2 e_2) (gS kw309 kw310 kw1 kw311) (by decide +kernel) ⟨by decide, by decide⟩ rfl hP hS rfl rfl hl.1 (Nat.le_of_ble_eq_true rfl) dX7_list_5 ⟨by decide, by decide⟩ (by decide) (by decide)
    · refine xq (n := 1) XX (cQ7_requireDate XX.2.2.2 e_2) (gS kw309 kw310 kw1 kw311) (by decide +kernel) ⟨by decide, by decide⟩ hP hS rfl rfl hl.1 (Nat.le_of_ble_eq_true rfl) dX7_list_5 ⟨by decide, by decide⟩ (fun H locs hP hS => ?_)
      refine W.widen (k := 2) (n := 12) (by decide) (by decide) ?_
      refine lv_aload_n hx hb dX7_list_8 rfl (lv_at hl 0 rfl) ?_
      refine lv_iconst (v := 0) hx hb dX7_list_9 (by decide) ?_
      refine pC_cal_listedCount X kw196 hP (dZ (q1 := q) hD) hS dX7_list_10 (fun H locs hP hS => ?_)
      have hP : va_P (DD G) vwCl (wZ G a z (s4S q 1 0)) H := hP
      refine lv_iload_n hx hb dX7_list_13 rfl (lv_at hl 2 rfl) ?_
      obtain ⟨r_3, e_3, hm⟩ := bd1_s hm
      refine goT_i (n := 1) X (cQ0_monthOf e_3) (gSx kw675 kw318 kw2 kw319) (by decide +kernel) ⟨by decide, by decide⟩ va_nil va_dnil hS rfl rfl hl.1 (Nat.le_of_ble_eq_true rfl) dX7_list_14 ⟨by decide, by decide⟩ (fun H locs _ hk hS => ?_)
      have hP := va_keep hP hk
      refine lv_istore_n (lv' := [(3, .int r_3), (0, .ref (a 0)), (1, .int x1), (2, .int x2)]) hx hb dX7_list_17 rfl hl (by decide) rfl (fun ls hl => ?_)
      refine lv_iload_n hx hb dX7_list_18 rfl (lv_at hl 2 rfl) ?_
      obtain ⟨r_4, e_4, hm⟩ := bd1_s hm
      refine goT_i (n := 1) X (cQ0_monthOf e_4) (gSx kw675 kw318 kw2 kw319) (by decide +kernel) ⟨by decide, by decide⟩ va_nil va_dnil hS rfl rfl hl.1 (Nat.le_of_ble_eq_true rfl) dX7_list_19 ⟨by decide, by decide⟩ (fun H locs _ hk hS => ?_)
      have hP := va_keep hP hk
      refine lv_istore (lv' := [(4, .int r_4), (3, .int r_3), (0, .ref (a 0)), (1, .int x1), (2, .int x2)]) hx hb dX7_list_22 hl (by decide) rfl (fun ls hl => ?_)
      refine lpQ7_list_24 XX hD (fun q_10 H locs ls hm hP hS hl => ?_) n _ _ _ _ _ _ _ _ hm hP hS (lv_sub hl [2, 3, 4, 1, 0] rfl)
      refine lv_aload_n hx hb dX7_list_66 rfl (lv_at hl 0 rfl) ?_
      refine gC_cal_listedCount X kw196 hP dX7_list_67 ?_
      cases hm
      exact xret_i X rfl hP hS dX7_list_70

-- item
def moQ7_item (n : Nat) (z : Pc4) (x1 : Int32) (q : Pc4) : Option (Nat ⊕ (Int64)) :=
  (if x1 < 0 then (some (.inl 1)) else (if x1 < (r4S q 1) then (gi x1 300 (some (.inr (r4L q 12 x1)))) else (some (.inl 1))))
set_option maxHeartbeats 4000000 in
set_option maxRecDepth 100000 in
theorem cQ7_item {l : Launch} {G : Ev} {a : Nat → Nat} {z : Pc4} {n : Nat} {q : Pc4} {x1 : Int32} {res : Nat ⊕ (Int64)} (hst : l.stackTraces = false) (hm : moQ7_item n z x1 q = some res) : XtJ l G yX7_item cX7_item 2 (some .long) 6 89 1 6 [.ref (a 0), .int x1] (wZ G a z q) (wZ G a z q) res := by
  intro sz
  refine enterX hst (by decide) (Nat.le_of_ble_eq_true rfl) ?_
  intro p e s m args below meth c ls XX hsz hP hD hS hl
  subst hsz
  have X := XX.1
  obtain ⟨⟨hx, hb, hml, hown, hts⟩, hK, hr, hlk, hA, hAs, hSta⟩ := id X
  have hl : lv_has ls 2 [(0, .ref (a 0)), (1, .int x1)] := hl
  unfold moQ7_item at hm
  refine lv_iload_n hx hb dX7_item_0 rfl (lv_at hl 1 rfl) ?_
  refine lv_if_lt (tgt := 12) hx hb dX7_item_1 (by decide) (fun c_1 => ?_) (fun c_1 => ?_)
  · have hm := (if_pos c_1).symm.trans hm
    cases hm
    exact xthr1 XX rfl hP hS hl.1 dX7_item_12 dX7_item_15 dX7_item_16 dX7_item_19 (by decide) (Nat.le_of_ble_eq_true rfl) (by decide) (by decide) (by decide) (by decide)
  · have hm := (if_neg c_1).symm.trans hm
    refine lv_iload_n hx hb dX7_item_4 rfl (lv_at hl 1 rfl) ?_
    refine lv_aload_n hx hb dX7_item_5 rfl (lv_at hl 0 rfl) ?_
    refine gC_cal_listedCount X kw196 hP dX7_item_6 ?_
    refine lv_icmp_lt (tgt := 20) hx hb dX7_item_9 (by decide) (fun c_2 => ?_) (fun c_2 => ?_)
    · have hm := (if_pos c_2).symm.trans hm
      refine lv_aload_n hx hb dX7_item_20 rfl (lv_at hl 0 rfl) ?_
      refine gC_cal_listed X kw195 hP dX7_item_21 ?_
      refine lv_iload_n hx hb dX7_item_24 rfl (lv_at hl 1 rfl) ?_
      obtain ⟨hi_3, hm⟩ := gi_s hm
      refine ldC_listed X hP hi_3 dX7_item_25 ?_
      refine W.widen (k := 1) (n := 6) (by decide) (by decide) ?_
      cases hm
      exact xret_l X rfl hP hS dX7_item_26
    · have hm := (if_neg c_2).symm.trans hm
      cases hm
      exact xthr1 XX rfl hP hS hl.1 dX7_item_12 dX7_item_15 dX7_item_16 dX7_item_19 (by decide) (Nat.le_of_ble_eq_true rfl) (by decide) (by decide) (by decide) (by decide)

-- busiest
def moQ7_busiest_L54 {α : Type} (n : Nat) (z : Pc4) (K0 : Int32 → Int32 → Int32 → Int32 → Int32 → Int32 → Int32 → Int32 → Pc4 → Option α) : Nat → Int32 → Int32 → Int32 → Int32 → Int32 → Int32 → Int32 → Int32 → Int32 → Pc4 → Option α
  | 0, _, _, _, _, _, _, _, _, _, _ => none
  | k + 1, x1, x2, x3, x4, x5, x6, x7, x8, x9, q => (if x9 < 0 then (K0 x1 x2 x3 x4 x5 x6 x7 x8 q) else (gi x9 4 (if (x8 &&& (r4A q 13 x9)) = 0 then (moQ7_busiest_L54 n z K0 k x1 x2 x3 x4 x5 x6 x7 x8 (x9 + (-1)) q) else (gi x9 4 (moQ7_busiest_L54 n z K0 k x1 x2 x3 x4 x5 x6 (x7 ||| (slI 1 x9)) (x8 &&& (r4A q 13 x9)) (x9 + (-1)) q)))))
def moQ7_busiest_L25 {α : Type} (n : Nat) (z : Pc4) (K0 : Int32 → Pc4 → Option α) : Nat → Int32 → Int32 → Int32 → Int32 → Int32 → Int32 → Pc4 → Option α
  | 0, _, _, _, _, _, _, _ => none
  | k + 1, x1, x2, x3, x4, x5, x6, q => (if x3 < x6 then (K0 x4 q) else (bd1 (moQ0_between n x6 x1 x2) fun r_6 => (bd1 (moQ7_countThings n z x6 r_6 q) fun q_7 => (moQ7_busiest_L54 n z (fun z12_1 z12_2 z12_3 z12_4 z12_5 z12_6 z12_7 z12_8 q_12 => (if z12_7 ≤ z12_5 then (moQ7_busiest_L25 n z K0 k z12_1 z12_2 z12_3 z12_4 z12_5 (z12_6 + 1) q_12) else (bd1 (moQJ6_numberOfTrailingZeros_0f7a4 n z12_8) fun r_14 => (bd1 (moQ0_dateAt n z12_6 r_14) fun r_15 => (moQ7_busiest_L25 n z K0 k z12_1 z12_2 z12_3 r_15 z12_7 (z12_6 + 1) q_12))))) n x1 x2 x3 x4 x5 x6 0 2147483647 3 q_7))))
def moQ7_busiest (n : Nat) (z : Pc4) (x1 : Int32) (x2 : Int32) (q : Pc4) : Option (Nat ⊕ (Int32 × Pc4)) :=
  (bx (moQ7_requireDate n x1) fun _ => (bx (moQ7_requireDate n x2) fun _ => (bd1 (moQ0_monthOf n x2) fun r_3 => (bd1 (moQ0_monthOf n x1) fun r_4 => (moQ7_busiest_L25 n z (fun z16_4 q_16 => (some (.inr (z16_4, q_16)))) n x1 x2 r_3 (-1) 0 r_4 q)))))
set_option maxHeartbeats 4000000 in
set_option maxRecDepth 100000 in
theorem lpQ7_busiest_54 {p : Program} {l : Launch} {e : Env} {s : State} {m : MethodId} {args : Array Value} {below : List Frame} {meth : Method} {c : Code} {G : Ev} {a : Nat → Nat} {z : Pc4} {Q : State → Prop} {A : Nat → Prop} {q0 : Pc4} (XX : CXX p s m args meth c cX7_busiest 10 (some .int) RX7 (.code yX7_busiest cX7_busiest 10 (some .int)) G A l) (hD : va_D A (wZ G a z q0)) {α : Type} {o : α} {n : Nat} {K0 : Int32 → Int32 → Int32 → Int32 → Int32 → Int32 → Int32 → Int32 → Pc4 → Option α} (h0 : ∀ (y1 : Int32) (y2 : Int32) (y3 : Int32) (y4 : Int32) (y5 : Int32) (y6 : Int32) (y7 : Int32) (y8 : Int32) (q : Pc4) (H : Heap) (locs : List Loc) (ls : Array Slot), K0 y1 y2 y3 y4 y5 y6 y7 y8 q = some o → va_P (DD G) vwCl (wZ G a z q) H → va_S A s.heap H locs → lv_has ls 10 [(0, .ref (a 0)), (1, .int y1), (2, .int y2), (3, .int y3), (4, .int y4), (5, .int y5), (6, .int y6), (7, .int y7), (8, .int y8)] → W p l e { frames := 7, cells := 2, slots := 12, locals := 109 } s m args below meth c H locs 2 12 Q (F0 m 99 ls [])) : ∀ (k : Nat) (x1 : Int32) (x2 : Int32) (x3 : Int32) (x4 : Int32) (x5 : Int32) (x6 : Int32) (x7 : Int32) (x8 : Int32) (x9 : Int32) (q : Pc4) (H : Heap) (locs : List Loc) (ls : Array Slot), moQ7_busiest_L54 n z K0 k x1 x2 x3 x4 x5 x6 x7 x8 x9 q = some o → va_P (DD G) vwCl (wZ G a z q) H → va_S A s.heap H locs → lv_has ls 10 [(0, .ref (a 0)), (1, .int x1), (2, .int x2), (3, .int x3), (4, .int x4), (5, .int x5), (6, .int x6), (7, .int x7), (8, .int x8), (9, .int x9)] → W p l e { frames := 7, cells := 2, slots := 12, locals := 109 } s m args below meth c H locs 2 12 Q (F0 m 54 ls []) := by
  have X := XX.1
  obtain ⟨⟨hx, hb, hml, hown, hts⟩, hK, hr, hlk, hA, hAs, hSta⟩ := id X
  intro k
  induction k with
  | zero =>
    intro x1 x2 x3 x4 x5 x6 x7 x8 x9 q H locs ls hm
    have hm : none = some o := hm
    cases hm
  | succ k ih =>
    intro x1 x2 x3 x4 x5 x6 x7 x8 x9 q H locs ls hm hP hS hl
    rw [moQ7_busiest_L54] at hm
    refine lv_iload hx hb dX7_busiest_54 (lv_at hl 9 rfl) ?_
    refine lv_if_lt (tgt := 99) hx hb dX7_busiest_56 (by decide) (fun c_8 => ?_) (fun c_8 => ?_)
    · have hm := (if_pos c_8).symm.trans hm
      exact h0 _ _ _ _ _ _ _ _ _ _ _ _ hm hP hS (lv_sub hl [0, 1, 2, 3, 4, 5, 6, 7, 8] rfl)
    · have hm := (if_neg c_8).symm.trans hm
      refine lv_iload hx hb dX7_busiest_59 (lv_at hl 8 rfl) ?_
      refine lv_aload_n hx hb dX7_busiest_61 rfl (lv_at hl 0 rfl) ?_
      refine gC_cal_counts X kw197 hP dX7_busiest_62 ?_
      refine lv_iload hx hb dX7_busiest_65 (lv_at hl 9 rfl) ?_
      obtain ⟨hi_9, hm⟩ := gi_s hm
      refine ldC_counts X hP hi_9 dX7_busiest_67 ?_
      refine lv_iand hx hb dX7_busiest_68 ?_
      refine lv_if_eq (tgt := 93) hx hb dX7_busiest_69 (by decide) (fun c_10 => ?_) (fun c_10 => ?_)
      · have hm := (if_pos c_10).symm.trans hm
        refine lv_iinc (v := (x9 + (-1))) (lv' := [(9, .int (x9 + (-1))), (0, .ref (a 0)), (1, .int x1), (2, .int x2), (3, .int x3), (4, .int x4), (5, .int x5), (6, .int x6), (7, .int x7), (8, .int x8)]) hx hb dX7_busiest_93 hl (k := 9) rfl (by first | rfl | decide) (by decide) rfl (fun ls hl => ?_)
        refine lv_goto (tgt := 54) hx hb dX7_busiest_96 (by decide) ?_
        exact ih _ _ _ _ _ _ _ _ _ _ _ _ _ hm hP hS (lv_sub hl [1, 2, 3, 4, 5, 6, 7, 8, 9, 0] rfl)
      · have hm := (if_neg c_10).symm.trans hm
        refine lv_iload hx hb dX7_busiest_72 (lv_at hl 8 rfl) ?_
        refine lv_aload_n hx hb dX7_busiest_74 rfl (lv_at hl 0 rfl) ?_
        refine gC_cal_counts X kw197 hP dX7_busiest_75 ?_
        refine lv_iload hx hb dX7_busiest_78 (lv_at hl 9 rfl) ?_
        obtain ⟨hi_11, hm⟩ := gi_s hm
        refine ldC_counts X hP hi_11 dX7_busiest_80 ?_
        refine lv_iand hx hb dX7_busiest_81 ?_
        refine lv_istore (lv' := [(8, .int (x8 &&& (r4A q 13 x9))), (0, .ref (a 0)), (1, .int x1), (2, .int x2), (3, .int x3), (4, .int x4), (5, .int x5), (6, .int x6), (7, .int x7), (9, .int x9)]) hx hb dX7_busiest_82 hl (by decide) rfl (fun ls hl => ?_)
        refine lv_iload hx hb dX7_busiest_84 (lv_at hl 8 rfl) ?_
        refine lv_iconst (v := 1) hx hb dX7_busiest_86 (by decide) ?_
        refine lv_iload hx hb dX7_busiest_87 (lv_at hl 9 rfl) ?_
        refine lv_ishl hx hb dX7_busiest_89 ?_
        refine lv_ior hx hb dX7_busiest_90 ?_
        refine lv_istore (lv' := [(7, .int (x7 ||| (slI 1 x9))), (8, .int (x8 &&& (r4A q 13 x9))), (0, .ref (a 0)), (1, .int x1), (2, .int x2), (3, .int x3), (4, .int x4), (5, .int x5), (6, .int x6), (9, .int x9)]) hx hb dX7_busiest_91 hl (by decide) rfl (fun ls hl => ?_)
        refine lv_iinc (v := (x9 + (-1))) (lv' := [(9, .int (x9 + (-1))), (7, .int (x7 ||| (slI 1 x9))), (8, .int (x8 &&& (r4A q 13 x9))), (0, .ref (a 0)), (1, .int x1), (2, .int x2), (3, .int x3), (4, .int x4), (5, .int x5), (6, .int x6)]) hx hb dX7_busiest_93 hl (k := 9) rfl (by first | rfl | decide) (by decide) rfl (fun ls hl => ?_)
        refine lv_goto (tgt := 54) hx hb dX7_busiest_96 (by decide) ?_
        exact ih _ _ _ _ _ _ _ _ _ _ _ _ _ hm hP hS (lv_sub hl [3, 4, 5, 6, 7, 8, 9, 1, 2, 0] rfl)
set_option maxHeartbeats 4000000 in
set_option maxRecDepth 100000 in
theorem lpQ7_busiest_25 {p : Program} {l : Launch} {e : Env} {s : State} {m : MethodId} {args : Array Value} {below : List Frame} {meth : Method} {c : Code} {G : Ev} {a : Nat → Nat} {z : Pc4} {Q : State → Prop} {A : Nat → Prop} {q0 : Pc4} (XX : CXX p s m args meth c cX7_busiest 10 (some .int) RX7 (.code yX7_busiest cX7_busiest 10 (some .int)) G A l) (hD : va_D A (wZ G a z q0)) {α : Type} {o : α} {n : Nat} {K0 : Int32 → Pc4 → Option α} (h0 : ∀ (y4 : Int32) (q : Pc4) (H : Heap) (locs : List Loc) (ls : Array Slot), K0 y4 q = some o → va_P (DD G) vwCl (wZ G a z q) H → va_S A s.heap H locs → lv_has ls 10 [(4, .int y4)] → W p l e { frames := 7, cells := 2, slots := 12, locals := 109 } s m args below meth c H locs 2 12 Q (F0 m 128 ls [])) : ∀ (k : Nat) (x1 : Int32) (x2 : Int32) (x3 : Int32) (x4 : Int32) (x5 : Int32) (x6 : Int32) (q : Pc4) (H : Heap) (locs : List Loc) (ls : Array Slot), moQ7_busiest_L25 n z K0 k x1 x2 x3 x4 x5 x6 q = some o → va_P (DD G) vwCl (wZ G a z q) H → va_S A s.heap H locs → lv_has ls 10 [(0, .ref (a 0)), (1, .int x1), (2, .int x2), (3, .int x3), (4, .int x4), (5, .int x5), (6, .int x6)] → W p l e { frames := 7, cells := 2, slots := 12, locals := 109 } s m args below meth c H locs 2 12 Q (F0 m 25 ls []) := by
  have X := XX.1
  obtain ⟨⟨hx, hb, hml, hown, hts⟩, hK, hr, hlk, hA, hAs, hSta⟩ := id X
  intro k
  induction k with
  | zero =>
    intro x1 x2 x3 x4 x5 x6 q H locs ls hm
    have hm : none = some o := hm
    cases hm
  | succ k ih =>
    intro x1 x2 x3 x4 x5 x6 q H locs ls hm hP hS hl
    rw [moQ7_busiest_L25] at hm
    refine lv_iload hx hb dX7_busiest_25 (lv_at hl 6 rfl) ?_
    refine lv_iload_n hx hb dX7_busiest_27 rfl (lv_at hl 3 rfl) ?_
    refine lv_icmp_gt (tgt := 128) hx hb dX7_busiest_28 (by decide) (fun c_5 => ?_) (fun c_5 => ?_)
    · have hm := (if_pos c_5).symm.trans hm
      exact h0 _ _ _ _ _ hm hP hS (lv_sub hl [4] rfl)
    · have hm := (if_neg c_5).symm.trans hm
      refine lv_aload_n hx hb dX7_busiest_31 rfl (lv_at hl 0 rfl) ?_
      refine lv_iload hx hb dX7_busiest_32 (lv_at hl 6 rfl) ?_
      refine lv_iload hx hb dX7_busiest_34 (lv_at hl 6 rfl) ?_
      refine lv_iload_n hx hb dX7_busiest_36 rfl (lv_at hl 1 rfl) ?_
      refine lv_iload_n hx hb dX7_busiest_37 rfl (lv_at hl 2 rfl) ?_
      obtain ⟨r_6, e_6, hm⟩ := bd1_s hm
      refine goT_i (n := 3) X (cQ0_between e_6) (gSx kw709 kw616 kw2 kw617) (by decide +kernel) ⟨by decide, by decide⟩ va_nil va_dnil hS rfl rfl hl.1 (Nat.le_of_ble_eq_true rfl) dX7_busiest_38 ⟨by decide, by decide⟩ (fun H locs _ hk hS => ?_)
      have hP := va_keep hP hk
      obtain ⟨q_7, e_7, hm⟩ := bd1_s hm
      refine goV_v (n := 2) (C := RX7) X (cQ7_countThings e_7) (gV kw748 kw750 ks_yX7_countThings kw1 kw751) (by decide +kernel) ⟨by decide, by decide⟩ (rc_cal hK hP) hP (dZ (q1 := q) hD) hS rfl rfl hl.1 (Nat.le_of_ble_eq_true rfl) dX7_busiest_41 ⟨by decide, by decide⟩ (fun H locs hP _ hS => ?_)
      refine lv_iconst (v := 0) hx hb dX7_busiest_44 (by decide) ?_
      refine lv_istore (lv' := [(7, .int 0), (0, .ref (a 0)), (1, .int x1), (2, .int x2), (3, .int x3), (4, .int x4), (5, .int x5), (6, .int x6)]) hx hb dX7_busiest_45 hl (by decide) rfl (fun ls hl => ?_)
      refine lv_ldc (v := 2147483647) hx hb hown (hts _ (List.mem_cons_of_mem _ kw688)) dX7_busiest_47 ?_
      refine lv_istore (lv' := [(8, .int 2147483647), (7, .int 0), (0, .ref (a 0)), (1, .int x1), (2, .int x2), (3, .int x3), (4, .int x4), (5, .int x5), (6, .int x6)]) hx hb dX7_busiest_49 hl (by decide) rfl (fun ls hl => ?_)
      refine lv_iconst (v := 3) hx hb dX7_busiest_51 (by decide) ?_
      refine lv_istore (lv' := [(9, .int 3), (8, .int 2147483647), (7, .int 0), (0, .ref (a 0)), (1, .int x1), (2, .int x2), (3, .int x3), (4, .int x4), (5, .int x5), (6, .int x6)]) hx hb dX7_busiest_52 hl (by decide) rfl (fun ls hl => ?_)
      refine lpQ7_busiest_54 XX hD (fun z12_1 z12_2 z12_3 z12_4 z12_5 z12_6 z12_7 z12_8 q_12 H locs ls hm hP hS hl => ?_) n _ _ _ _ _ _ _ _ _ _ _ _ _ hm hP hS (lv_sub hl [3, 4, 5, 6, 7, 8, 9, 2, 1, 0] rfl)
      refine lv_iload hx hb dX7_busiest_99 (lv_at hl 7 rfl) ?_
      refine lv_iload hx hb dX7_busiest_101 (lv_at hl 5 rfl) ?_
      refine lv_icmp_le (tgt := 122) hx hb dX7_busiest_103 (by decide) (fun c_13 => ?_) (fun c_13 => ?_)
      · have hm := (if_pos c_13).symm.trans hm
        refine lv_iinc (v := (z12_6 + 1)) (lv' := [(6, .int (z12_6 + 1)), (0, .ref (a 0)), (1, .int z12_1), (2, .int z12_2), (3, .int z12_3), (4, .int z12_4), (5, .int z12_5), (7, .int z12_7), (8, .int z12_8)]) hx hb dX7_busiest_122 hl (k := 6) rfl (by first | rfl | decide) (by decide) rfl (fun ls hl => ?_)
        refine lv_goto (tgt := 25) hx hb dX7_busiest_125 (by decide) ?_
        exact ih _ _ _ _ _ _ _ _ _ _ hm hP hS (lv_sub hl [1, 2, 3, 4, 5, 6, 0] rfl)
      · have hm := (if_neg c_13).symm.trans hm
        refine lv_iload hx hb dX7_busiest_106 (lv_at hl 7 rfl) ?_
        refine lv_istore (lv' := [(5, .int z12_7), (0, .ref (a 0)), (1, .int z12_1), (2, .int z12_2), (3, .int z12_3), (4, .int z12_4), (6, .int z12_6), (7, .int z12_7), (8, .int z12_8)]) hx hb dX7_busiest_108 hl (by decide) rfl (fun ls hl => ?_)
        refine lv_iload hx hb dX7_busiest_110 (lv_at hl 6 rfl) ?_
        refine lv_iload hx hb dX7_busiest_112 (lv_at hl 8 rfl) ?_
        obtain ⟨r_14, e_14, hm⟩ := bd1_s hm
        refine goT_i (n := 1) X (cQJ6_numberOfTrailingZeros_0f7a4 e_14) (gSx kw689 kw596 kw21 kw597) (by decide +kernel) ⟨by decide, by decide⟩ va_nil va_dnil hS rfl rfl hl.1 (Nat.le_of_ble_eq_true rfl) dX7_busiest_114 ⟨by decide, by decide⟩ (fun H locs _ hk hS => ?_)
        have hP := va_keep hP hk
        obtain ⟨r_15, e_15, hm⟩ := bd1_s hm
        refine goT_i (n := 2) X (cQ0_dateAt e_15) (gSx kw690 kw691 kw2 kw692) (by decide +kernel) ⟨by decide, by decide⟩ va_nil va_dnil hS rfl rfl hl.1 (Nat.le_of_ble_eq_true rfl) dX7_busiest_117 ⟨by decide, by decide⟩ (fun H locs _ hk hS => ?_)
        have hP := va_keep hP hk
        refine lv_istore (lv' := [(4, .int r_15), (5, .int z12_7), (0, .ref (a 0)), (1, .int z12_1), (2, .int z12_2), (3, .int z12_3), (6, .int z12_6), (7, .int z12_7), (8, .int z12_8)]) hx hb dX7_busiest_120 hl (by decide) rfl (fun ls hl => ?_)
        refine lv_iinc (v := (z12_6 + 1)) (lv' := [(6, .int (z12_6 + 1)), (4, .int r_15), (5, .int z12_7), (0, .ref (a 0)), (1, .int z12_1), (2, .int z12_2), (3, .int z12_3), (7, .int z12_7), (8, .int z12_8)]) hx hb dX7_busiest_122 hl (k := 6) rfl (by first | rfl | decide) (by decide) rfl (fun ls hl => ?_)
        refine lv_goto (tgt := 25) hx hb dX7_busiest_125 (by decide) ?_
        exact ih _ _ _ _ _ _ _ _ _ _ hm hP hS (lv_sub hl [3, 4, 5, 6, 1, 2, 0] rfl)
set_option maxHeartbeats 4000000 in
set_option maxRecDepth 100000 in
theorem cQ7_busiest {l : Launch} {G : Ev} {a : Nat → Nat} {z : Pc4} {n : Nat} {q : Pc4} {x1 : Int32} {x2 : Int32} {res : Nat ⊕ (Int32 × Pc4)} (hst : l.stackTraces = false) (hm : moQ7_busiest n z x1 x2 q = some res) : XtI l G yX7_busiest cX7_busiest 10 (some .int) 7 109 2 12 [.ref (a 0), .int x1, .int x2] (wZ G a z q) (xW (fun x => wZ G a z x.2) (wZ G a z q) res) (xm (fun x => x.1) res) := by
  intro sz
  refine enterX hst (by decide) (Nat.le_of_ble_eq_true rfl) ?_
  intro p e s m args below meth c ls XX hsz hP hD hS hl
  subst hsz
  have X := XX.1
  obtain ⟨⟨hx, hb, hml, hown, hts⟩, hK, hr, hlk, hA, hAs, hSta⟩ := id X
  have hl : lv_has ls 10 [(0, .ref (a 0)), (1, .int x1), (2, .int x2)] := hl
  unfold moQ7_busiest at hm
  refine lv_iload_n hx hb dX7_busiest_0 rfl (lv_at hl 1 rfl) ?_
  rcases bx_s hm with ⟨k_1, e_1, h_1⟩ | ⟨u_1, e_1, hm⟩
  · subst h_1
    exact xq_t (n := 1) k_1 XX (cQ7_requireDate XX.2.2.2 e_1) (gS kw309 kw310 kw1 kw311) (by decide +kernel) ⟨by decide, by decide⟩ rfl hP hS rfl rfl hl.1 (Nat.le_of_ble_eq_true rfl) dX7_busiest_1 ⟨by decide, by decide⟩ (by decide) (by decide)
  · refine xq (n := 1) XX (cQ7_requireDate XX.2.2.2 e_1) (gS kw309 kw310 kw1 kw311) (by decide +kernel) ⟨by decide, by decide⟩ hP hS rfl rfl hl.1 (Nat.le_of_ble_eq_true rfl) dX7_busiest_1 ⟨by decide, by decide⟩ (fun H locs hP hS => ?_)
    refine W.widen (k := 1) (n := 6) (by decide) (by decide) ?_
    refine lv_iload_n hx hb dX7_busiest_4 rfl (lv_at hl 2 rfl) ?_
    rcases bx_s hm with ⟨k_2, e_2, h_2⟩ | ⟨u_2, e_2, hm⟩
    · subst h_2
      exact xq_t (n := 1) k_2 XX (cQ7_requireDate XX.2.2.2 e_2) (gS kw309 kw310 kw1 kw311) (by decide +kernel) ⟨by decide, by decide⟩ rfl hP hS rfl rfl hl.1 (Nat.le_of_ble_eq_true rfl) dX7_busiest_5 ⟨by decide, by decide⟩ (by decide) (by decide)
    · refine xq (n := 1) XX (cQ7_requireDate XX.2.2.2 e_2) (gS kw309 kw310 kw1 kw311) (by decide +kernel) ⟨by decide, by decide⟩ hP hS rfl rfl hl.1 (Nat.le_of_ble_eq_true rfl) dX7_busiest_5 ⟨by decide, by decide⟩ (fun H locs hP hS => ?_)
      refine W.widen (k := 2) (n := 12) (by decide) (by decide) ?_
      refine lv_iload_n hx hb dX7_busiest_8 rfl (lv_at hl 2 rfl) ?_
      obtain ⟨r_3, e_3, hm⟩ := bd1_s hm
      refine goT_i (n := 1) X (cQ0_monthOf e_3) (gSx kw675 kw318 kw2 kw319) (by decide +kernel) ⟨by decide, by decide⟩ va_nil va_dnil hS rfl rfl hl.1 (Nat.le_of_ble_eq_true rfl) dX7_busiest_9 ⟨by decide, by decide⟩ (fun H locs _ hk hS => ?_)
      have hP := va_keep hP hk
      refine lv_istore_n (lv' := [(3, .int r_3), (0, .ref (a 0)), (1, .int x1), (2, .int x2)]) hx hb dX7_busiest_12 rfl hl (by decide) rfl (fun ls hl => ?_)
      refine lv_iconst (v := (-1)) hx hb dX7_busiest_13 (by decide) ?_
      refine lv_istore (lv' := [(4, .int (-1)), (3, .int r_3), (0, .ref (a 0)), (1, .int x1), (2, .int x2)]) hx hb dX7_busiest_14 hl (by decide) rfl (fun ls hl => ?_)
      refine lv_iconst (v := 0) hx hb dX7_busiest_16 (by decide) ?_
      refine lv_istore (lv' := [(5, .int 0), (4, .int (-1)), (3, .int r_3), (0, .ref (a 0)), (1, .int x1), (2, .int x2)]) hx hb dX7_busiest_17 hl (by decide) rfl (fun ls hl => ?_)
      refine lv_iload_n hx hb dX7_busiest_19 rfl (lv_at hl 4 rfl) ?_
      obtain ⟨r_4, e_4, hm⟩ := bd1_s hm
      refine goT_i (n := 1) X (cQ0_monthOf e_4) (gSx kw675 kw318 kw2 kw319) (by decide +kernel) ⟨by decide, by decide⟩ va_nil va_dnil hS rfl rfl hl.1 (Nat.le_of_ble_eq_true rfl) dX7_busiest_20 ⟨by decide, by decide⟩ (fun H locs _ hk hS => ?_)
      have hP := va_keep hP hk
      refine lv_istore (lv' := [(6, .int r_4), (5, .int 0), (4, .int (-1)), (3, .int r_3), (0, .ref (a 0)), (1, .int x1), (2, .int x2)]) hx hb dX7_busiest_23 hl (by decide) rfl (fun ls hl => ?_)
      refine lpQ7_busiest_25 XX hD (fun z16_4 q_16 H locs ls hm hP hS hl => ?_) n _ _ _ _ _ _ _ _ _ _ hm hP hS (lv_sub hl [4, 5, 6, 3, 2, 1, 0] rfl)
      refine lv_iload hx hb dX7_busiest_128 (lv_at hl 0 rfl) ?_
      cases hm
      exact xret_i X rfl hP hS dX7_busiest_130

-- quiet
def moQ7_quiet_L83 {α : Type} (n : Nat) (z : Pc4) (q : Pc4) (K0 : Int32 → Int32 → Int32 → Int32 → Int32 → Option α) (K1 : Int32 → Option α) : Nat → Int32 → Int32 → Int32 → Int32 → Int32 → Int32 → Int32 → Option α
  | 0, _, _, _, _, _, _, _ => none
  | k + 1, x1, x2, x3, x4, x5, x6, x7 => (if x7 ≤ 0 then (K0 x1 x2 x3 x4 x5 ) else (gi x5 3601 (bd1 (moQJ6_numberOfTrailingZeros_0f7a4 n x6) fun r_12 => (if (((r4A q 3 x5) + r_12) - x4) < x2 then (moQ7_quiet_L83 n z q K0 K1 k x1 x2 x3 (((r4A q 3 x5) + r_12) + 1) x5 (x6 &&& (x6 - 1)) (x7 + (-1)) ) else (K1 x4 )))))
def moQ7_quiet_B73 {α : Type} (n : Nat) (z : Pc4) (q : Pc4) (K0 : Int32 → Int32 → Int32 → Int32 → Int32 → Option α) (K1 : Int32 → Option α) (x1 : Int32) (x2 : Int32) (x3 : Int32) (x4 : Int32) (x5 : Int32) (t0 : Int32) (t1 : Int32)  : Option α :=
  (bd1 (moQJ6_bitCount_0f7a4 n (t1 &&& t0)) fun r_9 => (moQ7_quiet_L83 n z q (fun z14_1 z14_2 z14_3 z14_4 z14_5 => (K0 z14_1 z14_2 z14_3 z14_4 (z14_5 + 1) )) (fun z15_4 => (K1 z15_4 )) n x1 x2 x3 x4 x5 (t1 &&& t0) r_9 ))
def moQ7_quiet_L42 {α : Type} (n : Nat) (z : Pc4) (q : Pc4) (K0 : Int32 → Int32 → Option α) (K1 : Int32 → Option α) : Nat → Int32 → Int32 → Int32 → Int32 → Int32 → Option α
  | 0, _, _, _, _, _ => none
  | k + 1, x1, x2, x3, x4, x5 => (if 3600 ≤ x5 then (K0 x2 x4 ) else (bd1 (moQ7_busyDays n z x5 q) fun r_7 => (if x5 = x3 then (bd1 (moQ0_dayOf n x1) fun r_18 => (moQ7_quiet_B73 n z q (fun z19_1 z19_2 z19_3 z19_4 z19_5 => (moQ7_quiet_L42 n z q K0 K1 k z19_1 z19_2 z19_3 z19_4 z19_5 )) (fun z20_4 => (K1 z20_4 )) x1 x2 x3 x4 x5 (slI (-1) r_18) r_7 )) else (moQ7_quiet_B73 n z q (fun z16_1 z16_2 z16_3 z16_4 z16_5 => (moQ7_quiet_L42 n z q K0 K1 k z16_1 z16_2 z16_3 z16_4 z16_5 )) (fun z17_4 => (K1 z17_4 )) x1 x2 x3 x4 x5 2147483647 r_7 ))))
def moQ7_quiet (n : Nat) (z : Pc4) (x1 : Int32) (x2 : Int32) (q : Pc4) : Option (Nat ⊕ (Int32)) :=
  (bx (moQ7_requireDate n x1) fun _ => (if x2 < 1 then (some (.inl 0)) else (if x2 ≤ 1000 then (bd1 (moQ0_monthOf n x1) fun r_4 => (bd1 (moQ0_numberOf n x1 q) fun r_5 => (moQ7_quiet_L42 n z q (fun z21_2 z21_4 => (gi 3600 3601 (if ((r4A q 3 3600) - z21_4) < z21_2 then (some (.inr (-1))) else (bd1 (moQ0_dateOf n z21_4 q) fun r_24 => (some (.inr r_24)))))) (fun z25_4 => (bd1 (moQ0_dateOf n z25_4 q) fun r_26 => (some (.inr r_26)))) n x1 x2 r_4 r_5 r_4 ))) else (some (.inl 0)))))
set_option maxHeartbeats 4000000 in
set_option maxRecDepth 100000 in
theorem lpQ7_quiet_83 {p : Program} {l : Launch} {e : Env} {s : State} {m : MethodId} {args : Array Value} {below : List Frame} {meth : Method} {c : Code} {G : Ev} {a : Nat → Nat} {z : Pc4} {Q : State → Prop} {A : Nat → Prop} {q : Pc4} (XX : CXX p s m args meth c cX7_quiet 9 (some .int) RX7 (.code yX7_quiet cX7_quiet 9 (some .int)) G A l) (hD : va_D A (wZ G a z q)) {α : Type} {o : α} {n : Nat} {K0 : Int32 → Int32 → Int32 → Int32 → Int32 → Option α} {K1 : Int32 → Option α} (h0 : ∀ (y1 : Int32) (y2 : Int32) (y3 : Int32) (y4 : Int32) (y5 : Int32) (H : Heap) (locs : List Loc) (ls : Array Slot), K0 y1 y2 y3 y4 y5  = some o → va_P (DD G) vwCl (wZ G a z q) H → va_S A s.heap H locs → lv_has ls 9 [(0, .ref (a 0)), (1, .int y1), (2, .int y2), (3, .int y3), (4, .int y4), (5, .int y5)] → W p l e { frames := 7, cells := 2, slots := 12, locals := 109 } s m args below meth c H locs 2 12 Q (F0 m 146 ls [])) (h1 : ∀ (y4 : Int32) (H : Heap) (locs : List Loc) (ls : Array Slot), K1 y4  = some o → va_P (DD G) vwCl (wZ G a z q) H → va_S A s.heap H locs → lv_has ls 9 [(0, .ref (a 0)), (4, .int y4)] → W p l e { frames := 7, cells := 2, slots := 12, locals := 109 } s m args below meth c H locs 2 12 Q (F0 m 115 ls [])) : ∀ (k : Nat) (x1 : Int32) (x2 : Int32) (x3 : Int32) (x4 : Int32) (x5 : Int32) (x6 : Int32) (x7 : Int32) (H : Heap) (locs : List Loc) (ls : Array Slot), moQ7_quiet_L83 n z q K0 K1 k x1 x2 x3 x4 x5 x6 x7  = some o → va_P (DD G) vwCl (wZ G a z q) H → va_S A s.heap H locs → lv_has ls 9 [(0, .ref (a 0)), (1, .int x1), (2, .int x2), (3, .int x3), (4, .int x4), (5, .int x5), (6, .int x6), (7, .int x7)] → W p l e { frames := 7, cells := 2, slots := 12, locals := 109 } s m args below meth c H locs 2 12 Q (F0 m 83 ls []) := by
  have X := XX.1
  obtain ⟨⟨hx, hb, hml, hown, hts⟩, hK, hr, hlk, hA, hAs, hSta⟩ := id X
  intro k
  induction k with
  | zero =>
    intro x1 x2 x3 x4 x5 x6 x7 H locs ls hm
    have hm : none = some o := hm
    cases hm
  | succ k ih =>
    intro x1 x2 x3 x4 x5 x6 x7 H locs ls hm hP hS hl
    rw [moQ7_quiet_L83] at hm
    refine lv_iload hx hb dX7_quiet_83 (lv_at hl 7 rfl) ?_
    refine lv_if_le (tgt := 146) hx hb dX7_quiet_85 (by decide) (fun c_10 => ?_) (fun c_10 => ?_)
    · have hm := (if_pos c_10).symm.trans hm
      exact h0 _ _ _ _ _ _ _ _ hm hP hS (lv_sub hl [0, 1, 2, 3, 4, 5] rfl)
    · have hm := (if_neg c_10).symm.trans hm
      refine lv_aload_n hx hb dX7_quiet_88 rfl (lv_at hl 0 rfl) ?_
      refine gC_cal_dayTable X kw190 hP dX7_quiet_89 ?_
      refine gC_days_first X kw47 hP dX7_quiet_92 ?_
      refine lv_iload hx hb dX7_quiet_95 (lv_at hl 5 rfl) ?_
      obtain ⟨hi_11, hm⟩ := gi_s hm
      refine ldC_first X hP hi_11 dX7_quiet_97 ?_
      refine lv_iload hx hb dX7_quiet_98 (lv_at hl 6 rfl) ?_
      obtain ⟨r_12, e_12, hm⟩ := bd1_s hm
      refine goT_i (n := 1) X (cQJ6_numberOfTrailingZeros_0f7a4 e_12) (gSx kw689 kw596 kw21 kw597) (by decide +kernel) ⟨by decide, by decide⟩ va_nil va_dnil hS rfl rfl hl.1 (Nat.le_of_ble_eq_true rfl) dX7_quiet_100 ⟨by decide, by decide⟩ (fun H locs _ hk hS => ?_)
      have hP := va_keep hP hk
      refine lv_iadd hx hb dX7_quiet_103 ?_
      refine lv_istore (lv' := [(8, .int ((r4A q 3 x5) + r_12)), (0, .ref (a 0)), (1, .int x1), (2, .int x2), (3, .int x3), (4, .int x4), (5, .int x5), (6, .int x6), (7, .int x7)]) hx hb dX7_quiet_104 hl (by decide) rfl (fun ls hl => ?_)
      refine lv_iload hx hb dX7_quiet_106 (lv_at hl 0 rfl) ?_
      refine lv_iload hx hb dX7_quiet_108 (lv_at hl 5 rfl) ?_
      refine lv_isub hx hb dX7_quiet_110 ?_
      refine lv_iload_n hx hb dX7_quiet_111 rfl (lv_at hl 3 rfl) ?_
      refine lv_icmp_lt (tgt := 125) hx hb dX7_quiet_112 (by decide) (fun c_13 => ?_) (fun c_13 => ?_)
      · have hm := (if_pos c_13).symm.trans hm
        refine lv_iload hx hb dX7_quiet_125 (lv_at hl 0 rfl) ?_
        refine lv_iconst (v := 1) hx hb dX7_quiet_127 (by decide) ?_
        refine lv_iadd hx hb dX7_quiet_128 ?_
        refine lv_istore (lv' := [(4, .int (((r4A q 3 x5) + r_12) + 1)), (8, .int ((r4A q 3 x5) + r_12)), (0, .ref (a 0)), (1, .int x1), (2, .int x2), (3, .int x3), (5, .int x5), (6, .int x6), (7, .int x7)]) hx hb dX7_quiet_129 hl (by decide) rfl (fun ls hl => ?_)
        refine lv_iload hx hb dX7_quiet_131 (lv_at hl 7 rfl) ?_
        refine lv_iload hx hb dX7_quiet_133 (lv_at hl 7 rfl) ?_
        refine lv_iconst (v := 1) hx hb dX7_quiet_135 (by decide) ?_
        refine lv_isub hx hb dX7_quiet_136 ?_
        refine lv_iand hx hb dX7_quiet_137 ?_
        refine lv_istore (lv' := [(6, .int (x6 &&& (x6 - 1))), (4, .int (((r4A q 3 x5) + r_12) + 1)), (8, .int ((r4A q 3 x5) + r_12)), (0, .ref (a 0)), (1, .int x1), (2, .int x2), (3, .int x3), (5, .int x5), (7, .int x7)]) hx hb dX7_quiet_138 hl (by decide) rfl (fun ls hl => ?_)
        refine lv_iinc (v := (x7 + (-1))) (lv' := [(7, .int (x7 + (-1))), (6, .int (x6 &&& (x6 - 1))), (4, .int (((r4A q 3 x5) + r_12) + 1)), (8, .int ((r4A q 3 x5) + r_12)), (0, .ref (a 0)), (1, .int x1), (2, .int x2), (3, .int x3), (5, .int x5)]) hx hb dX7_quiet_140 hl (k := 8) rfl (by first | rfl | decide) (by decide) rfl (fun ls hl => ?_)
        refine lv_goto (tgt := 83) hx hb dX7_quiet_143 (by decide) ?_
        exact ih _ _ _ _ _ _ _ _ _ _ hm hP hS (lv_sub hl [4, 5, 6, 7, 2, 8, 1, 0] rfl)
      · have hm := (if_neg c_13).symm.trans hm
        exact h1 _ _ _ _ hm hP hS (lv_sub hl [1, 5] rfl)
set_option maxHeartbeats 4000000 in
set_option maxRecDepth 100000 in
theorem bkQ7_quiet_73 {p : Program} {l : Launch} {e : Env} {s : State} {m : MethodId} {args : Array Value} {below : List Frame} {meth : Method} {c : Code} {G : Ev} {a : Nat → Nat} {z : Pc4} {Q : State → Prop} {A : Nat → Prop} {q : Pc4} (XX : CXX p s m args meth c cX7_quiet 9 (some .int) RX7 (.code yX7_quiet cX7_quiet 9 (some .int)) G A l) (hD : va_D A (wZ G a z q)) {α : Type} {o : α} {n : Nat} {K0 : Int32 → Int32 → Int32 → Int32 → Int32 → Option α} {K1 : Int32 → Option α} (h0 : ∀ (y1 : Int32) (y2 : Int32) (y3 : Int32) (y4 : Int32) (y5 : Int32) (H : Heap) (locs : List Loc) (ls : Array Slot), K0 y1 y2 y3 y4 y5  = some o → va_P (DD G) vwCl (wZ G a z q) H → va_S A s.heap H locs → lv_has ls 9 [(0, .ref (a 0)), (1, .int y1), (2, .int y2), (3, .int y3), (4, .int y4), (5, .int y5)] → W p l e { frames := 7, cells := 2, slots := 12, locals := 109 } s m args below meth c H locs 2 12 Q (F0 m 42 ls [])) (h1 : ∀ (y4 : Int32) (H : Heap) (locs : List Loc) (ls : Array Slot), K1 y4  = some o → va_P (DD G) vwCl (wZ G a z q) H → va_S A s.heap H locs → lv_has ls 9 [(0, .ref (a 0)), (4, .int y4)] → W p l e { frames := 7, cells := 2, slots := 12, locals := 109 } s m args below meth c H locs 2 12 Q (F0 m 115 ls [])) {H : Heap} {locs : List Loc} {ls : Array Slot} {x1 : Int32} {x2 : Int32} {x3 : Int32} {x4 : Int32} {x5 : Int32} {t0 : Int32} {t1 : Int32}  (hm : moQ7_quiet_B73 n z q K0 K1 x1 x2 x3 x4 x5 t0 t1  = some o) (hP : va_P (DD G) vwCl (wZ G a z q) H) (hS : va_S A s.heap H locs) (hl : lv_has ls 9 [(0, .ref (a 0)), (1, .int x1), (2, .int x2), (3, .int x3), (4, .int x4), (5, .int x5)]) : W p l e { frames := 7, cells := 2, slots := 12, locals := 109 } s m args below meth c H locs 2 12 Q (F0 m 73 ls [.int t0, .int t1]) := by
  have X := XX.1
  obtain ⟨⟨hx, hb, hml, hown, hts⟩, hK, hr, hlk, hA, hAs, hSta⟩ := id X
  unfold moQ7_quiet_B73 at hm
  refine lv_iand hx hb dX7_quiet_73 ?_
  refine lv_istore (lv' := [(6, .int (t1 &&& t0)), (0, .ref (a 0)), (1, .int x1), (2, .int x2), (3, .int x3), (4, .int x4), (5, .int x5)]) hx hb dX7_quiet_74 hl (by decide) rfl (fun ls hl => ?_)
  refine lv_iload hx hb dX7_quiet_76 (lv_at hl 0 rfl) ?_
  obtain ⟨r_9, e_9, hm⟩ := bd1_s hm
  refine goT_i (n := 1) X (cQJ6_bitCount_0f7a4 e_9) (gSx kw700 kw590 kw21 kw591) (by decide +kernel) ⟨by decide, by decide⟩ va_nil va_dnil hS rfl rfl hl.1 (Nat.le_of_ble_eq_true rfl) dX7_quiet_78 ⟨by decide, by decide⟩ (fun H locs _ hk hS => ?_)
  have hP := va_keep hP hk
  refine lv_istore (lv' := [(7, .int r_9), (6, .int (t1 &&& t0)), (0, .ref (a 0)), (1, .int x1), (2, .int x2), (3, .int x3), (4, .int x4), (5, .int x5)]) hx hb dX7_quiet_81 hl (by decide) rfl (fun ls hl => ?_)
  refine lpQ7_quiet_83 XX hD (fun z14_1 z14_2 z14_3 z14_4 z14_5 H locs ls hm hP hS hl => ?_) (fun z15_4 H locs ls hm hP hS hl => ?_) n _ _ _ _ _ _ _ _ _ _ hm hP hS (lv_sub hl [2, 3, 4, 5, 6, 7, 1, 0] rfl)
  · refine lv_iinc (v := (z14_5 + 1)) (lv' := [(5, .int (z14_5 + 1)), (0, .ref (a 0)), (1, .int z14_1), (2, .int z14_2), (3, .int z14_3), (4, .int z14_4)]) hx hb dX7_quiet_146 hl (k := 5) rfl (by first | rfl | decide) (by decide) rfl (fun ls hl => ?_)
    refine lv_goto (tgt := 42) hx hb dX7_quiet_149 (by decide) ?_
    exact h0 _ _ _ _ _ _ _ _ hm hP hS (lv_sub hl [1, 2, 3, 4, 5, 0] rfl)
  · exact h1 _ _ _ _ hm hP hS (lv_sub hl [0, 1] rfl)
set_option maxHeartbeats 4000000 in
set_option maxRecDepth 100000 in
theorem lpQ7_quiet_42 {p : Program} {l : Launch} {e : Env} {s : State} {m : MethodId} {args : Array Value} {below : List Frame} {meth : Method} {c : Code} {G : Ev} {a : Nat → Nat} {z : Pc4} {Q : State → Prop} {A : Nat → Prop} {q : Pc4} (XX : CXX p s m args meth c cX7_quiet 9 (some .int) RX7 (.code yX7_quiet cX7_quiet 9 (some .int)) G A l) (hD : va_D A (wZ G a z q)) {α : Type} {o : α} {n : Nat} {K0 : Int32 → Int32 → Option α} {K1 : Int32 → Option α} (h0 : ∀ (y2 : Int32) (y4 : Int32) (H : Heap) (locs : List Loc) (ls : Array Slot), K0 y2 y4  = some o → va_P (DD G) vwCl (wZ G a z q) H → va_S A s.heap H locs → lv_has ls 9 [(0, .ref (a 0)), (2, .int y2), (4, .int y4)] → W p l e { frames := 7, cells := 2, slots := 12, locals := 109 } s m args below meth c H locs 2 12 Q (F0 m 152 ls [])) (h1 : ∀ (y4 : Int32) (H : Heap) (locs : List Loc) (ls : Array Slot), K1 y4  = some o → va_P (DD G) vwCl (wZ G a z q) H → va_S A s.heap H locs → lv_has ls 9 [(0, .ref (a 0)), (4, .int y4)] → W p l e { frames := 7, cells := 2, slots := 12, locals := 109 } s m args below meth c H locs 2 12 Q (F0 m 115 ls [])) : ∀ (k : Nat) (x1 : Int32) (x2 : Int32) (x3 : Int32) (x4 : Int32) (x5 : Int32) (H : Heap) (locs : List Loc) (ls : Array Slot), moQ7_quiet_L42 n z q K0 K1 k x1 x2 x3 x4 x5  = some o → va_P (DD G) vwCl (wZ G a z q) H → va_S A s.heap H locs → lv_has ls 9 [(0, .ref (a 0)), (1, .int x1), (2, .int x2), (3, .int x3), (4, .int x4), (5, .int x5)] → W p l e { frames := 7, cells := 2, slots := 12, locals := 109 } s m args below meth c H locs 2 12 Q (F0 m 42 ls []) := by
  have X := XX.1
  obtain ⟨⟨hx, hb, hml, hown, hts⟩, hK, hr, hlk, hA, hAs, hSta⟩ := id X
  intro k
  induction k with
  | zero =>
    intro x1 x2 x3 x4 x5 H locs ls hm
    have hm : none = some o := hm
    cases hm
  | succ k ih =>
    intro x1 x2 x3 x4 x5 H locs ls hm hP hS hl
    rw [moQ7_quiet_L42] at hm
    refine lv_iload hx hb dX7_quiet_42 (lv_at hl 5 rfl) ?_
    refine lv_sipush (v := 3600) hx hb dX7_quiet_44 (by decide) ?_
    refine lv_icmp_ge (tgt := 152) hx hb dX7_quiet_47 (by decide) (fun c_6 => ?_) (fun c_6 => ?_)
    · have hm := (if_pos c_6).symm.trans hm
      exact h0 _ _ _ _ _ hm hP hS (lv_sub hl [0, 2, 4] rfl)
    · have hm := (if_neg c_6).symm.trans hm
      refine lv_aload_n hx hb dX7_quiet_50 rfl (lv_at hl 0 rfl) ?_
      refine lv_iload hx hb dX7_quiet_51 (lv_at hl 5 rfl) ?_
      obtain ⟨r_7, e_7, hm⟩ := bd1_s hm
      refine goV_i (n := 1) (C := RX7) X (cQ7_busyDays e_7) (gV kw717 kw719 ks_yX7_busyDays kw1 kw720) (by decide +kernel) ⟨by decide, by decide⟩ (rc_cal hK hP) hP (dZ (q1 := q) hD) hS rfl rfl hl.1 (Nat.le_of_ble_eq_true rfl) dX7_quiet_53 ⟨by decide, by decide⟩ (fun H locs hP _ hS => ?_)
      refine lv_iload hx hb dX7_quiet_56 (lv_at hl 5 rfl) ?_
      refine lv_iload_n hx hb dX7_quiet_58 rfl (lv_at hl 3 rfl) ?_
      refine lv_icmp_ne (tgt := 71) hx hb dX7_quiet_59 (by decide) (fun c_8 => ?_) (fun c_8 => ?_)
      · have hm := (if_neg c_8).symm.trans hm
        refine lv_ldc (v := 2147483647) hx hb hown (hts _ (List.mem_cons_of_mem _ kw688)) dX7_quiet_71 ?_
        refine bkQ7_quiet_73 XX hD (fun z16_1 z16_2 z16_3 z16_4 z16_5 H locs ls hm hP hS hl => ?_) (fun z17_4 H locs ls hm hP hS hl => ?_) hm hP hS (lv_sub hl [0, 1, 2, 3, 4, 5] rfl)
        · exact ih _ _ _ _ _ _ _ _ hm hP hS (lv_sub hl [0, 1, 2, 3, 4, 5] rfl)
        · exact h1 _ _ _ _ hm hP hS (lv_sub hl [0, 1] rfl)
      · have hm := (if_pos c_8).symm.trans hm
        refine lv_iconst (v := (-1)) hx hb dX7_quiet_62 (by decide) ?_
        refine lv_iload_n hx hb dX7_quiet_63 rfl (lv_at hl 1 rfl) ?_
        obtain ⟨r_18, e_18, hm⟩ := bd1_s hm
        refine goT_i (n := 1) X (cQ0_dayOf e_18) (gSx kw680 kw527 kw2 kw528) (by decide +kernel) ⟨by decide, by decide⟩ va_nil va_dnil hS rfl rfl hl.1 (Nat.le_of_ble_eq_true rfl) dX7_quiet_64 ⟨by decide, by decide⟩ (fun H locs _ hk hS => ?_)
        have hP := va_keep hP hk
        refine lv_ishl hx hb dX7_quiet_67 ?_
        refine lv_goto (tgt := 73) hx hb dX7_quiet_68 (by decide) ?_
        refine bkQ7_quiet_73 XX hD (fun z19_1 z19_2 z19_3 z19_4 z19_5 H locs ls hm hP hS hl => ?_) (fun z20_4 H locs ls hm hP hS hl => ?_) hm hP hS (lv_sub hl [0, 1, 2, 3, 4, 5] rfl)
        · exact ih _ _ _ _ _ _ _ _ hm hP hS (lv_sub hl [0, 1, 2, 3, 4, 5] rfl)
        · exact h1 _ _ _ _ hm hP hS (lv_sub hl [0, 1] rfl)
set_option maxHeartbeats 4000000 in
set_option maxRecDepth 100000 in
theorem cQ7_quiet {l : Launch} {G : Ev} {a : Nat → Nat} {z : Pc4} {n : Nat} {q : Pc4} {x1 : Int32} {x2 : Int32} {res : Nat ⊕ (Int32)} (hst : l.stackTraces = false) (hm : moQ7_quiet n z x1 x2 q = some res) : XtI l G yX7_quiet cX7_quiet 9 (some .int) 7 109 2 12 [.ref (a 0), .int x1, .int x2] (wZ G a z q) (wZ G a z q) res := by
  intro sz
  refine enterX hst (by decide) (Nat.le_of_ble_eq_true rfl) ?_
  intro p e s m args below meth c ls XX hsz hP hD hS hl
  subst hsz
  have X := XX.1
  obtain ⟨⟨hx, hb, hml, hown, hts⟩, hK, hr, hlk, hA, hAs, hSta⟩ := id X
  have hl : lv_has ls 9 [(0, .ref (a 0)), (1, .int x1), (2, .int x2)] := hl
  unfold moQ7_quiet at hm
  refine lv_iload_n hx hb dX7_quiet_0 rfl (lv_at hl 1 rfl) ?_
  rcases bx_s hm with ⟨k_1, e_1, h_1⟩ | ⟨u_1, e_1, hm⟩
  · subst h_1
    exact xq_t (n := 1) k_1 XX (cQ7_requireDate XX.2.2.2 e_1) (gS kw309 kw310 kw1 kw311) (by decide +kernel) ⟨by decide, by decide⟩ rfl hP hS rfl rfl hl.1 (Nat.le_of_ble_eq_true rfl) dX7_quiet_1 ⟨by decide, by decide⟩ (by decide) (by decide)
  · refine xq (n := 1) XX (cQ7_requireDate XX.2.2.2 e_1) (gS kw309 kw310 kw1 kw311) (by decide +kernel) ⟨by decide, by decide⟩ hP hS rfl rfl hl.1 (Nat.le_of_ble_eq_true rfl) dX7_quiet_1 ⟨by decide, by decide⟩ (fun H locs hP hS => ?_)
    refine W.widen (k := 1) (n := 6) (by decide) (by decide) ?_
    refine lv_iload_n hx hb dX7_quiet_4 rfl (lv_at hl 2 rfl) ?_
    refine lv_iconst (v := 1) hx hb dX7_quiet_5 (by decide) ?_
    refine lv_icmp_lt (tgt := 16) hx hb dX7_quiet_6 (by decide) (fun c_2 => ?_) (fun c_2 => ?_)
    · have hm := (if_pos c_2).symm.trans hm
      cases hm
      exact xthr0 XX rfl hP hS hl.1 dX7_quiet_16 dX7_quiet_19 dX7_quiet_20 dX7_quiet_23 (by decide) (Nat.le_of_ble_eq_true rfl) (by decide) (by decide) (by decide) (by decide)
    · have hm := (if_neg c_2).symm.trans hm
      refine lv_iload_n hx hb dX7_quiet_9 rfl (lv_at hl 2 rfl) ?_
      refine lv_sipush (v := 1000) hx hb dX7_quiet_10 (by decide) ?_
      refine lv_icmp_le (tgt := 24) hx hb dX7_quiet_13 (by decide) (fun c_3 => ?_) (fun c_3 => ?_)
      · have hm := (if_pos c_3).symm.trans hm
        refine lv_iload_n hx hb dX7_quiet_24 rfl (lv_at hl 1 rfl) ?_
        obtain ⟨r_4, e_4, hm⟩ := bd1_s hm
        refine goT_i (n := 1) X (cQ0_monthOf e_4) (gSx kw675 kw318 kw2 kw319) (by decide +kernel) ⟨by decide, by decide⟩ va_nil va_dnil hS rfl rfl hl.1 (Nat.le_of_ble_eq_true rfl) dX7_quiet_25 ⟨by decide, by decide⟩ (fun H locs _ hk hS => ?_)
        have hP := va_keep hP hk
        refine lv_istore_n (lv' := [(3, .int r_4), (0, .ref (a 0)), (1, .int x1), (2, .int x2)]) hx hb dX7_quiet_28 rfl hl (by decide) rfl (fun ls hl => ?_)
        refine lv_aload_n hx hb dX7_quiet_29 rfl (lv_at hl 1 rfl) ?_
        refine gC_cal_dayTable X kw190 hP dX7_quiet_30 ?_
        refine lv_iload_n hx hb dX7_quiet_33 rfl (lv_at hl 2 rfl) ?_
        obtain ⟨r_5, e_5, hm⟩ := bd1_s hm
        refine goV_i (n := 1) (C := RX0) X (cQ0_numberOf (T := (tls G a z)) e_5) (gV kw760 kw523 kw524 kw2 kw525) (by decide +kernel) ⟨by decide, by decide⟩ (rc_days hK hP) hP (show va_D _ (wC G a (tls G a z) q) from (dZ (q1 := q) hD)) hS rfl rfl hl.1 (Nat.le_of_ble_eq_true rfl) dX7_quiet_34 ⟨by decide, by decide⟩ (fun H locs hP _ hS => ?_)
        have hP : va_P (DD G) vwCl (wZ G a z q) H := hP
        refine lv_istore (lv' := [(4, .int r_5), (3, .int r_4), (0, .ref (a 0)), (1, .int x1), (2, .int x2)]) hx hb dX7_quiet_37 hl (by decide) rfl (fun ls hl => ?_)
        refine lv_iload_n hx hb dX7_quiet_39 rfl (lv_at hl 1 rfl) ?_
        refine lv_istore (lv' := [(5, .int r_4), (4, .int r_5), (3, .int r_4), (0, .ref (a 0)), (1, .int x1), (2, .int x2)]) hx hb dX7_quiet_40 hl (by decide) rfl (fun ls hl => ?_)
        refine W.widen (k := 2) (n := 12) (by decide) (by decide) ?_
        refine lpQ7_quiet_42 XX hD (fun z21_2 z21_4 H locs ls hm hP hS hl => ?_) (fun z25_4 H locs ls hm hP hS hl => ?_) n _ _ _ _ _ _ _ _ hm hP hS (lv_sub hl [3, 4, 5, 2, 1, 0] rfl)
        · refine lv_aload_n hx hb dX7_quiet_152 rfl (lv_at hl 0 rfl) ?_
          refine gC_cal_dayTable X kw190 hP dX7_quiet_153 ?_
          refine gC_days_first X kw47 hP dX7_quiet_156 ?_
          refine lv_sipush (v := 3600) hx hb dX7_quiet_159 (by decide) ?_
          obtain ⟨hi_22, hm⟩ := gi_s hm
          refine ldC_first X hP hi_22 dX7_quiet_162 ?_
          refine lv_iload hx hb dX7_quiet_163 (lv_at hl 2 rfl) ?_
          refine lv_isub hx hb dX7_quiet_165 ?_
          refine lv_iload_n hx hb dX7_quiet_166 rfl (lv_at hl 1 rfl) ?_
          refine lv_icmp_lt (tgt := 182) hx hb dX7_quiet_167 (by decide) (fun c_23 => ?_) (fun c_23 => ?_)
          · have hm := (if_pos c_23).symm.trans hm
            refine lv_iconst (v := (-1)) hx hb dX7_quiet_182 (by decide) ?_
            cases hm
            exact xret_i X rfl hP hS dX7_quiet_183
          · have hm := (if_neg c_23).symm.trans hm
            refine lv_aload_n hx hb dX7_quiet_170 rfl (lv_at hl 0 rfl) ?_
            refine gC_cal_dayTable X kw190 hP dX7_quiet_171 ?_
            refine lv_iload hx hb dX7_quiet_174 (lv_at hl 2 rfl) ?_
            obtain ⟨r_24, e_24, hm⟩ := bd1_s hm
            refine goV_i (n := 1) (C := RX0) X (cQ0_dateOf (T := (tls G a z)) e_24) (gV kw761 kw762 kw763 kw2 kw764) (by decide +kernel) ⟨by decide, by decide⟩ (rc_days hK hP) hP (show va_D _ (wC G a (tls G a z) q) from (dZ (q1 := q) hD)) hS rfl rfl hl.1 (Nat.le_of_ble_eq_true rfl) dX7_quiet_176 ⟨by decide, by decide⟩ (fun H locs hP _ hS => ?_)
            have hP : va_P (DD G) vwCl (wZ G a z q) H := hP
            refine lv_goto (tgt := 183) hx hb dX7_quiet_179 (by decide) ?_
            cases hm
            exact xret_i X rfl hP hS dX7_quiet_183
        · refine lv_aload_n hx hb dX7_quiet_115 rfl (lv_at hl 0 rfl) ?_
          refine gC_cal_dayTable X kw190 hP dX7_quiet_116 ?_
          refine lv_iload hx hb dX7_quiet_119 (lv_at hl 1 rfl) ?_
          obtain ⟨r_26, e_26, hm⟩ := bd1_s hm
          refine goV_i (n := 1) (C := RX0) X (cQ0_dateOf (T := (tls G a z)) e_26) (gV kw761 kw762 kw763 kw2 kw764) (by decide +kernel) ⟨by decide, by decide⟩ (rc_days hK hP) hP (show va_D _ (wC G a (tls G a z) q) from (dZ (q1 := q) hD)) hS rfl rfl hl.1 (Nat.le_of_ble_eq_true rfl) dX7_quiet_121 ⟨by decide, by decide⟩ (fun H locs hP _ hS => ?_)
          have hP : va_P (DD G) vwCl (wZ G a z q) H := hP
          cases hm
          exact xret_i X rfl hP hS dX7_quiet_124
      · have hm := (if_neg c_3).symm.trans hm
        cases hm
        exact xthr0 XX rfl hP hS hl.1 dX7_quiet_16 dX7_quiet_19 dX7_quiet_20 dX7_quiet_23 (by decide) (Nat.le_of_ble_eq_true rfl) (by decide) (by decide) (by decide) (by decide)

-- shifted
def moQ7_shifted (n : Nat) (z : Pc4) (x1 : Int32) (x2 : Int32) (q : Pc4) : Option (Nat ⊕ (Int32)) :=
  (bx (moQ7_requireDate n x1) fun _ => (bd1 (moQ0_numberOf n x1 q) fun r_2 => (if (lg_cmp ((Int32.toInt64 r_2) + (Int32.toInt64 x2)) 0) < 0 then (some (.inr (-1))) else (gi 3600 3601 (if (lg_cmp ((Int32.toInt64 r_2) + (Int32.toInt64 x2)) (Int32.toInt64 (r4A q 3 3600))) < 0 then (bd1 (moQ0_dateOf n (Int64.toInt32 ((Int32.toInt64 r_2) + (Int32.toInt64 x2))) q) fun r_6 => (some (.inr r_6))) else (some (.inr (-1))))))))
set_option maxHeartbeats 4000000 in
set_option maxRecDepth 100000 in
theorem cQ7_shifted {l : Launch} {G : Ev} {a : Nat → Nat} {z : Pc4} {n : Nat} {q : Pc4} {x1 : Int32} {x2 : Int32} {res : Nat ⊕ (Int32)} (hst : l.stackTraces = false) (hm : moQ7_shifted n z x1 x2 q = some res) : XtI l G yX7_shifted cX7_shifted 5 (some .int) 7 109 1 6 [.ref (a 0), .int x1, .int x2] (wZ G a z q) (wZ G a z q) res := by
  intro sz
  refine enterX hst (by decide) (Nat.le_of_ble_eq_true rfl) ?_
  intro p e s m args below meth c ls XX hsz hP hD hS hl
  subst hsz
  have X := XX.1
  obtain ⟨⟨hx, hb, hml, hown, hts⟩, hK, hr, hlk, hA, hAs, hSta⟩ := id X
  have hl : lv_has ls 5 [(0, .ref (a 0)), (1, .int x1), (2, .int x2)] := hl
  unfold moQ7_shifted at hm
  refine lv_iload_n hx hb dX7_shifted_0 rfl (lv_at hl 1 rfl) ?_
  rcases bx_s hm with ⟨k_1, e_1, h_1⟩ | ⟨u_1, e_1, hm⟩
  · subst h_1
    exact xq_t (n := 1) k_1 XX (cQ7_requireDate XX.2.2.2 e_1) (gS kw309 kw310 kw1 kw311) (by decide +kernel) ⟨by decide, by decide⟩ rfl hP hS rfl rfl hl.1 (Nat.le_of_ble_eq_true rfl) dX7_shifted_1 ⟨by decide, by decide⟩ (by decide) (by decide)
  · refine xq (n := 1) XX (cQ7_requireDate XX.2.2.2 e_1) (gS kw309 kw310 kw1 kw311) (by decide +kernel) ⟨by decide, by decide⟩ hP hS rfl rfl hl.1 (Nat.le_of_ble_eq_true rfl) dX7_shifted_1 ⟨by decide, by decide⟩ (fun H locs hP hS => ?_)
    refine W.widen (k := 1) (n := 6) (by decide) (by decide) ?_
    refine lv_aload_n hx hb dX7_shifted_4 rfl (lv_at hl 0 rfl) ?_
    refine gC_cal_dayTable X kw190 hP dX7_shifted_5 ?_
    refine lv_iload_n hx hb dX7_shifted_8 rfl (lv_at hl 1 rfl) ?_
    obtain ⟨r_2, e_2, hm⟩ := bd1_s hm
    refine goV_i (n := 1) (C := RX0) X (cQ0_numberOf (T := (tls G a z)) e_2) (gV kw760 kw523 kw524 kw2 kw525) (by decide +kernel) ⟨by decide, by decide⟩ (rc_days hK hP) hP (show va_D _ (wC G a (tls G a z) q) from (dZ (q1 := q) hD)) hS rfl rfl hl.1 (Nat.le_of_ble_eq_true rfl) dX7_shifted_9 ⟨by decide, by decide⟩ (fun H locs hP _ hS => ?_)
    have hP : va_P (DD G) vwCl (wZ G a z q) H := hP
    refine lv_i2l (v := (Int32.toInt64 r_2)) hx hb dX7_shifted_12 rfl ?_
    refine lv_iload_n hx hb dX7_shifted_13 rfl (lv_at hl 2 rfl) ?_
    refine lv_i2l (v := (Int32.toInt64 x2)) hx hb dX7_shifted_14 rfl ?_
    refine lv_ladd hx hb dX7_shifted_15 ?_
    refine lv_lstore_n (lv' := [(3, .long ((Int32.toInt64 r_2) + (Int32.toInt64 x2))), (0, .ref (a 0)), (1, .int x1), (2, .int x2)]) hx hb dX7_shifted_16 rfl hl (by decide) rfl (fun ls hl => ?_)
    refine lv_lload_n hx hb dX7_shifted_17 rfl (lv_at hl 0 rfl) ?_
    refine lv_lconst (v := 0) hx hb dX7_shifted_18 (by decide) ?_
    refine W.lcmp hx hb dX7_shifted_19 ?_
    refine lv_if_lt (tgt := 40) hx hb dX7_shifted_20 (by decide) (fun c_3 => ?_) (fun c_3 => ?_)
    · have hm := (if_pos c_3).symm.trans hm
      refine lv_iconst (v := (-1)) hx hb dX7_shifted_40 (by decide) ?_
      cases hm
      exact xret_i X rfl hP hS dX7_shifted_41
    · have hm := (if_neg c_3).symm.trans hm
      refine lv_lload_n hx hb dX7_shifted_23 rfl (lv_at hl 0 rfl) ?_
      refine lv_aload_n hx hb dX7_shifted_24 rfl (lv_at hl 1 rfl) ?_
      refine gC_cal_dayTable X kw190 hP dX7_shifted_25 ?_
      refine gC_days_first X kw47 hP dX7_shifted_28 ?_
      refine lv_sipush (v := 3600) hx hb dX7_shifted_31 (by decide) ?_
      obtain ⟨hi_4, hm⟩ := gi_s hm
      refine ldC_first X hP hi_4 dX7_shifted_34 ?_
      refine lv_i2l (v := (Int32.toInt64 (r4A q 3 3600))) hx hb dX7_shifted_35 rfl ?_
      refine W.lcmp hx hb dX7_shifted_36 ?_
      refine lv_if_lt (tgt := 42) hx hb dX7_shifted_37 (by decide) (fun c_5 => ?_) (fun c_5 => ?_)
      · have hm := (if_pos c_5).symm.trans hm
        refine lv_aload_n hx hb dX7_shifted_42 rfl (lv_at hl 1 rfl) ?_
        refine gC_cal_dayTable X kw190 hP dX7_shifted_43 ?_
        refine lv_lload_n hx hb dX7_shifted_46 rfl (lv_at hl 0 rfl) ?_
        refine lv_l2i (v := (Int64.toInt32 ((Int32.toInt64 r_2) + (Int32.toInt64 x2)))) hx hb dX7_shifted_47 rfl ?_
        obtain ⟨r_6, e_6, hm⟩ := bd1_s hm
        refine goV_i (n := 1) (C := RX0) X (cQ0_dateOf (T := (tls G a z)) e_6) (gV kw761 kw762 kw763 kw2 kw764) (by decide +kernel) ⟨by decide, by decide⟩ (rc_days hK hP) hP (show va_D _ (wC G a (tls G a z) q) from (dZ (q1 := q) hD)) hS rfl rfl hl.1 (Nat.le_of_ble_eq_true rfl) dX7_shifted_48 ⟨by decide, by decide⟩ (fun H locs hP _ hS => ?_)
        have hP : va_P (DD G) vwCl (wZ G a z q) H := hP
        cases hm
        exact xret_i X rfl hP hS dX7_shifted_51
      · have hm := (if_neg c_5).symm.trans hm
        refine lv_iconst (v := (-1)) hx hb dX7_shifted_40 (by decide) ?_
        cases hm
        exact xret_i X rfl hP hS dX7_shifted_41
