theorem kw1 : Cond.initialized "RuledCalendar" ∈ big := mb 1 (by decide +kernel) (by decide +kernel)
theorem kw20 : Cond.initialized "RuledCalendar$Thing" ∈ big := mb 20 (by decide +kernel) (by decide +kernel)
theorem kw139 : Cond.fieldLink "RuledCalendar" 83 "RuledCalendar$Reader" "faultKind" "I" ∈ big := mb 139 (by decide +kernel) (by decide +kernel)
theorem kw141 : Cond.fieldLink "RuledCalendar" 97 "RuledCalendar$Reader" "faultPlace" "I" ∈ big := mb 141 (by decide +kernel) (by decide +kernel)
theorem kw189 : Cond.fieldLink "RuledCalendar" 13 "RuledCalendar" "textLength" "I" ∈ big := mb 189 (by decide +kernel) (by decide +kernel)
theorem kw192 : Cond.fieldLink "RuledCalendar" 36 "RuledCalendar" "reader" "LRuledCalendar$Reader;" ∈ big := mb 192 (by decide +kernel) (by decide +kernel)
theorem kw194 : Cond.fieldLink "RuledCalendar" 51 "RuledCalendar" "things" "[LRuledCalendar$Thing;" ∈ big := mb 194 (by decide +kernel) (by decide +kernel)
theorem kw195 : Cond.fieldLink "RuledCalendar" 55 "RuledCalendar" "listed" "[J" ∈ big := mb 195 (by decide +kernel) (by decide +kernel)
theorem kw196 : Cond.fieldLink "RuledCalendar" 59 "RuledCalendar" "listedCount" "I" ∈ big := mb 196 (by decide +kernel) (by decide +kernel)
theorem kw197 : Cond.fieldLink "RuledCalendar" 62 "RuledCalendar" "counts" "[I" ∈ big := mb 197 (by decide +kernel) (by decide +kernel)
theorem kw490 : Cond.fieldLink "RuledCalendar$Thing" 9 "RuledCalendar$Thing" "ruled" "[I" ∈ big := mb 490 (by decide +kernel) (by decide +kernel)
theorem kw492 : Cond.fieldLink "RuledCalendar$Thing" 15 "RuledCalendar$Thing" "extras" "[I" ∈ big := mb 492 (by decide +kernel) (by decide +kernel)
theorem kw494 : Cond.fieldLink "RuledCalendar$Thing" 18 "RuledCalendar$Thing" "exceptions" "[I" ∈ big := mb 494 (by decide +kernel) (by decide +kernel)
theorem kw496 : Cond.fieldLink "RuledCalendar$Thing" 21 "RuledCalendar$Thing" "live" "Z" ∈ big := mb 496 (by decide +kernel) (by decide +kernel)
theorem kw497 : Cond.fieldLink "RuledCalendar" 104 "RuledCalendar$Thing" "live" "Z" ∈ big := mb 497 (by decide +kernel) (by decide +kernel)
theorem kw511 : Cond.methodLink "RuledCalendar$Thing" 25 ({ cls := "java/util/Arrays", name := "fill", desc := "([II)V" } : MethodName) ∈ big := mb 511 (by decide +kernel) (by decide +kernel)
theorem kw512 : Cond.static ({ cls := "java/util/Arrays", name := "fill", desc := "([II)V" } : MethodName) ∈ big := mb 512 (by decide +kernel) (by decide +kernel)
set_option maxRecDepth 20000 in
theorem kw513 : Cond.code yJ7_fill_53178 cJ7_fill_53178 4 none ∈ big := mb 513 rfl (by decide +kernel)
theorem kw659 : Cond.methodLink "RuledCalendar$Thing" 31 ({ cls := "RuledCalendar$Days", name := "monthOf", desc := "(I)I" } : MethodName) ∈ big := mb 659 (by decide +kernel) (by decide +kernel)
theorem kw660 : Cond.methodLink "RuledCalendar$Thing" 37 ({ cls := "RuledCalendar$Days", name := "dayOf", desc := "(I)I" } : MethodName) ∈ big := mb 660 (by decide +kernel) (by decide +kernel)
theorem kw676 : Cond.methodLink "RuledCalendar" 122 ({ cls := "RuledCalendar$Thing", name := "daysIn", desc := "(I)I" } : MethodName) ∈ big := mb 676 (by decide +kernel) (by decide +kernel)
theorem kw677 : Cond.instanceMethod ({ cls := "RuledCalendar$Thing", name := "daysIn", desc := "(I)I" } : MethodName) ∈ big := mb 677 (by decide +kernel) (by decide +kernel)
theorem kw678 : Cond.selects "RuledCalendar$Thing" ({ cls := "RuledCalendar$Thing", name := "daysIn", desc := "(I)I" } : MethodName) ({ cls := "RuledCalendar$Thing", name := "daysIn", desc := "(I)I" } : MethodName) ∈ big := mb 678 (by decide +kernel) (by decide +kernel)
set_option maxRecDepth 20000 in
theorem kw679 : Cond.code yX6_daysIn cX6_daysIn 2 (some .int) ∈ big := mb 679 rfl (by decide +kernel)
theorem kw689 : Cond.methodLink "RuledCalendar" 129 ({ cls := "java/lang/Integer", name := "numberOfTrailingZeros", desc := "(I)I" } : MethodName) ∈ big := mb 689 (by decide +kernel) (by decide +kernel)
theorem kw690 : Cond.methodLink "RuledCalendar" 134 ({ cls := "RuledCalendar$Days", name := "dateAt", desc := "(II)I" } : MethodName) ∈ big := mb 690 (by decide +kernel) (by decide +kernel)
theorem kw700 : Cond.methodLink "RuledCalendar" 138 ({ cls := "java/lang/Integer", name := "bitCount", desc := "(I)I" } : MethodName) ∈ big := mb 700 (by decide +kernel) (by decide +kernel)
theorem kw721 : Cond.methodLink "RuledCalendar" 174 ({ cls := "RuledCalendar", name := "daysOfThing", desc := "(II)I" } : MethodName) ∈ big := mb 721 (by decide +kernel) (by decide +kernel)
theorem kw723 : Cond.instanceMethod ({ cls := "RuledCalendar", name := "daysOfThing", desc := "(II)I" } : MethodName) ∈ big := mb 723 (by decide +kernel) (by decide +kernel)
set_option maxRecDepth 20000 in
theorem kw724 : Cond.code yX7_daysOfThing cX7_daysOfThing 4 (some .int) ∈ big := mb 724 rfl (by decide +kernel)
theorem kw729 : Cond.methodLink "RuledCalendar" 177 ({ cls := "RuledCalendar", name := "listDay", desc := "(II)V" } : MethodName) ∈ big := mb 729 (by decide +kernel) (by decide +kernel)
theorem kw731 : Cond.instanceMethod ({ cls := "RuledCalendar", name := "listDay", desc := "(II)V" } : MethodName) ∈ big := mb 731 (by decide +kernel) (by decide +kernel)
set_option maxRecDepth 20000 in
theorem kw732 : Cond.code yX7_listDay cX7_listDay 6 none ∈ big := mb 732 rfl (by decide +kernel)
theorem kw733 : Cond.constantLong "RuledCalendar" 180 (16 : Int64) ∈ big := mb 733 (by decide +kernel) (by decide +kernel)
theorem kw752 : Cond.methodLink "RuledCalendar" 182 ({ cls := "java/util/Arrays", name := "fill", desc := "([II)V" } : MethodName) ∈ big := mb 752 (by decide +kernel) (by decide +kernel)
theorem ks_yX7_daysOfThing : Cond.selects RX7 yX7_daysOfThing yX7_daysOfThing ∈ big := mbs (by decide +kernel) (by decide +kernel)
theorem ks_yX7_listDay : Cond.selects RX7 yX7_listDay yX7_listDay ∈ big := mbs (by decide +kernel) (by decide +kernel)
-- RuledCalendar$Thing.daysIn
def moQ6_daysIn (n : Nat) (κ : Nat) (x1 : Int32) (q : Pc4) : Option (Int32) :=
  (gi x1 3600 (gi x1 3600 (gi x1 3600 (some (((r4A q (101 + 4 * κ) x1) ||| (r4A q (102 + 4 * κ) x1)) &&& ((r4A q (103 + 4 * κ) x1) ^^^ (-1)))))))
set_option maxHeartbeats 4000000 in
set_option maxRecDepth 100000 in
theorem cQ6_daysIn {l : Launch} {G : Ev} {a : Nat → Nat} {κ : Nat} {n : Nat} {q : Pc4} {x1 : Int32} {r : Int32} (hm : moQ6_daysIn n κ x1 q = some r) : CtI l G yX6_daysIn cX6_daysIn 2 (some .int) 0 0 0 0 [.ref (a (100 + 4 * κ)), .int x1] (wT G a κ q) (wT G a κ q) r := by
  intro sz
  refine enter (by decide) (Nat.le_of_ble_eq_true rfl) ?_
  intro p e s m args below meth c ls X hsz hP hD hS hl
  subst hsz
  obtain ⟨⟨hx, hb, hml, hown, hts⟩, hK, hr, hlk, hA, hAs, hSta⟩ := id X
  have hl : lv_has ls 2 [(0, .ref (a (100 + 4 * κ))), (1, .int x1)] := hl
  unfold moQ6_daysIn at hm
  refine lv_aload_n hx hb dX6_daysIn_0 rfl (lv_at hl 0 rfl) ?_
  refine gT_ruled X kw490 hP dX6_daysIn_1 ?_
  refine lv_iload_n hx hb dX6_daysIn_4 rfl (lv_at hl 1 rfl) ?_
  obtain ⟨hi_1, hm⟩ := gi_s hm
  refine va_iald hx hb hK hP 1 2 rfl rfl hi_1 dX6_daysIn_5 ?_
  refine lv_aload_n hx hb dX6_daysIn_6 rfl (lv_at hl 0 rfl) ?_
  refine gT_extras X kw492 hP dX6_daysIn_7 ?_
  refine lv_iload_n hx hb dX6_daysIn_10 rfl (lv_at hl 1 rfl) ?_
  obtain ⟨hi_2, hm⟩ := gi_s hm
  refine va_iald hx hb hK hP 2 2 rfl rfl hi_2 dX6_daysIn_11 ?_
  refine lv_ior hx hb dX6_daysIn_12 ?_
  refine lv_aload_n hx hb dX6_daysIn_13 rfl (lv_at hl 0 rfl) ?_
  refine gT_exceptions X kw494 hP dX6_daysIn_14 ?_
  refine lv_iload_n hx hb dX6_daysIn_17 rfl (lv_at hl 1 rfl) ?_
  obtain ⟨hi_3, hm⟩ := gi_s hm
  refine va_iald hx hb hK hP 3 2 rfl rfl hi_3 dX6_daysIn_18 ?_
  refine lv_iconst (v := (-1)) hx hb dX6_daysIn_19 (by decide) ?_
  refine lv_ixor hx hb dX6_daysIn_20 ?_
  refine lv_iand hx hb dX6_daysIn_21 ?_
  exact ret_io (wf := wT G a κ) X hm hP hS dX6_daysIn_22

-- java/util/Arrays.J7_fill_53178
def moQJ7_fill_53178_L5 {α : Type} (n : Nat) (len : Nat) (K0 : (Nat → Int32) → Option α) : Nat → Int32 → Int32 → Int32 → (Nat → Int32) → Option α
  | 0, _, _, _, _ => none
  | k + 1, x1, x2, x3, q => (if x3 ≤ x2 then (K0 q) else (gi x2 len (moQJ7_fill_53178_L5 n len K0 k x1 (x2 + 1) x3 (upd q (Int32.toNatClampNeg x2) x1))))
def moQJ7_fill_53178 (n : Nat) (len : Nat) (x1 : Int32) (q : (Nat → Int32)) : Option ((Nat → Int32)) :=
  (moQJ7_fill_53178_L5 n len (fun q_3 => (some q_3)) n x1 0 (Int32.ofNat len) q)
set_option maxHeartbeats 4000000 in
set_option maxRecDepth 100000 in
theorem lpQJ7_fill_53178_5 {p : Program} {l : Launch} {e : Env} {s : State} {m : MethodId} {args : Array Value} {below : List Frame} {meth : Method} {c : Code} {G : Ev} {a0 len : Nat} {Q : State → Prop} {A : Nat → Prop} {q0 : (Nat → Int32)} (X : CX p s m args meth c cJ7_fill_53178 4 none RJ7 (.code yJ7_fill_53178 cJ7_fill_53178 4 none) G A) (hD : va_D A (wAI G a0 len q0)) {α : Type} {o : α} {n : Nat} {K0 : (Nat → Int32) → Option α} (h0 : ∀ (q : (Nat → Int32)) (H : Heap) (locs : List Loc) (ls : Array Slot), K0 q = some o → va_P (DD G) vwCl (wAI G a0 len q) H → va_S A s.heap H locs → lv_has ls 4 [] → W p l e { frames := 0, cells := 0, slots := 0, locals := 0 } s m args below meth c H locs 0 0 Q (F0 m 20 ls [])) : ∀ (k : Nat) (x1 : Int32) (x2 : Int32) (x3 : Int32) (q : (Nat → Int32)) (H : Heap) (locs : List Loc) (ls : Array Slot), moQJ7_fill_53178_L5 n len K0 k x1 x2 x3 q = some o → va_P (DD G) vwCl (wAI G a0 len q) H → va_S A s.heap H locs → lv_has ls 4 [(0, .ref a0), (1, .int x1), (2, .int x2), (3, .int x3)] → W p l e { frames := 0, cells := 0, slots := 0, locals := 0 } s m args below meth c H locs 0 0 Q (F0 m 5 ls []) := by
  obtain ⟨⟨hx, hb, hml, hown, hts⟩, hK, hr, hlk, hA, hAs, hSta⟩ := id X
  intro k
  induction k with
  | zero =>
    intro x1 x2 x3 q H locs ls hm
    have hm : none = some o := hm
    cases hm
  | succ k ih =>
    intro x1 x2 x3 q H locs ls hm hP hS hl
    rw [moQJ7_fill_53178_L5] at hm
    refine lv_iload_n hx hb dJ7_fill_53178_5 rfl (lv_at hl 2 rfl) ?_
    refine lv_iload_n hx hb dJ7_fill_53178_6 rfl (lv_at hl 3 rfl) ?_
    refine lv_icmp_ge (tgt := 20) hx hb dJ7_fill_53178_7 (by decide) (fun c_1 => ?_) (fun c_1 => ?_)
    · have hm := (if_pos c_1).symm.trans hm
      exact h0 _ _ _ _ hm hP hS (lv_sub hl [] rfl)
    · have hm := (if_neg c_1).symm.trans hm
      refine lv_aload_n hx hb dJ7_fill_53178_10 rfl (lv_at hl 0 rfl) ?_
      refine lv_iload_n hx hb dJ7_fill_53178_11 rfl (lv_at hl 2 rfl) ?_
      refine lv_iload_n hx hb dJ7_fill_53178_12 rfl (lv_at hl 1 rfl) ?_
      obtain ⟨hi_2, hm⟩ := gi_s hm
      refine va_iast hx hb hK hP (dAI (q1 := q) hD) hS 0 2 rfl rfl hi_2 dJ7_fill_53178_13 (fun H locs hP _ hS => ?_)
      have hP : va_P (DD G) vwCl (wAI G a0 len (upd q (Int32.toNatClampNeg x2) x1)) H := hP
      refine lv_iinc (v := (x2 + 1)) (lv' := [(2, .int (x2 + 1)), (0, .ref a0), (1, .int x1), (3, .int x3)]) hx hb dJ7_fill_53178_14 hl (k := 2) rfl (by first | rfl | decide) (by decide) rfl (fun ls hl => ?_)
      refine lv_goto (tgt := 5) hx hb dJ7_fill_53178_17 (by decide) ?_
      exact ih _ _ _ _ _ _ _ hm hP hS (lv_sub hl [1, 2, 0, 3] rfl)
set_option maxHeartbeats 4000000 in
set_option maxRecDepth 100000 in
theorem cQJ7_fill_53178 {l : Launch} {G : Ev} {a0 len : Nat} {n : Nat} {q : (Nat → Int32)} {x1 : Int32} {q' : (Nat → Int32)} (hm : moQJ7_fill_53178 n len x1 q = some q') : CtV l G yJ7_fill_53178 cJ7_fill_53178 4 none 0 0 0 0 [.ref a0, .int x1] (wAI G a0 len q) (wAI G a0 len q') := by
  intro sz
  refine enter (by decide) (Nat.le_of_ble_eq_true rfl) ?_
  intro p e s m args below meth c ls X hsz hP hD hS hl
  subst hsz
  obtain ⟨⟨hx, hb, hml, hown, hts⟩, hK, hr, hlk, hA, hAs, hSta⟩ := id X
  have hl : lv_has ls 4 [(0, .ref a0), (1, .int x1)] := hl
  unfold moQJ7_fill_53178 at hm
  refine lv_iconst (v := 0) hx hb dJ7_fill_53178_0 (by decide) ?_
  refine lv_istore_n (lv' := [(2, .int 0), (0, .ref a0), (1, .int x1)]) hx hb dJ7_fill_53178_1 rfl hl (by decide) rfl (fun ls hl => ?_)
  refine lv_aload_n hx hb dJ7_fill_53178_2 rfl (lv_at hl 1 rfl) ?_
  refine va_alen hx hb hK hP 0 2 rfl rfl rfl dJ7_fill_53178_3 ?_
  refine lv_istore_n (lv' := [(3, .int (Int32.ofNat len)), (2, .int 0), (0, .ref a0), (1, .int x1)]) hx hb dJ7_fill_53178_4 rfl hl (by decide) rfl (fun ls hl => ?_)
  refine lpQJ7_fill_53178_5 X hD (fun q_3 H locs ls hm hP hS hl => ?_) n _ _ _ _ _ _ _ hm hP hS (lv_sub hl [2, 3, 1, 0] rfl)
  exact ret_v (wf := wAI G a0 len) X hm hP hS dJ7_fill_53178_20

-- RuledCalendar$Thing.begin
def moQ6_begin (n : Nat) (κ : Nat) (q : Pc4) : Option (Pc4) :=
  (bd1 (moQJ7_fill_53178 n 3600 0 (q.2.1 (101 + 4 * κ))) fun f_1 => (bd1 (moQJ7_fill_53178 n 3600 0 ((s4F q (101 + 4 * κ) f_1).2.1 (102 + 4 * κ))) fun f_2 => (bd1 (moQJ7_fill_53178 n 3600 0 ((s4F (s4F q (101 + 4 * κ) f_1) (102 + 4 * κ) f_2).2.1 (103 + 4 * κ))) fun f_3 => (some (s4S (s4F (s4F (s4F q (101 + 4 * κ) f_1) (102 + 4 * κ) f_2) (103 + 4 * κ) f_3) (100 + 4 * κ) 1)))))
set_option maxHeartbeats 4000000 in
set_option maxRecDepth 100000 in
theorem cQ6_begin {l : Launch} {G : Ev} {a : Nat → Nat} {κ : Nat} {n : Nat} {q : Pc4} {q' : Pc4} (hm : moQ6_begin n κ q = some q') : CtV l G yX6_begin cX6_begin 1 none 1 23 0 0 [.ref (a (100 + 4 * κ))] (wT G a κ q) (wT G a κ q') := by
  intro sz
  refine enter (by decide) (Nat.le_of_ble_eq_true rfl) ?_
  intro p e s m args below meth c ls X hsz hP hD hS hl
  subst hsz
  obtain ⟨⟨hx, hb, hml, hown, hts⟩, hK, hr, hlk, hA, hAs, hSta⟩ := id X
  have hl : lv_has ls 1 [(0, .ref (a (100 + 4 * κ)))] := hl
  unfold moQ6_begin at hm
  refine lv_aload_n hx hb dX6_begin_0 rfl (lv_at hl 0 rfl) ?_
  refine gT_ruled X kw490 hP dX6_begin_1 ?_
  refine lv_iconst (v := 0) hx hb dX6_begin_4 (by decide) ?_
  obtain ⟨f_1, e_1, hm⟩ := bd1_s hm
  refine goT_v (n := 2) X (cQJ7_fill_53178 (a0 := a (101 + 4 * κ)) e_1) (gSx kw511 kw512 kw6 kw513) (by decide +kernel) ⟨by decide, by decide⟩ (hP.sub (ws' := (wAI G (a (101 + 4 * κ)) 3600 (q.2.1 (101 + 4 * κ)))) [1] rfl) (va_D.sub (dT (q1 := q) hD) (ws' := (wAI G (a (101 + 4 * κ)) 3600 (q.2.1 (101 + 4 * κ)))) [1] (by decide) rfl) hS rfl rfl hl.1 (Nat.le_of_ble_eq_true rfl) dX6_begin_5 ⟨Nat.le_refl _, Nat.le_refl _⟩ (fun H locs hP1 hk hS => ?_)
  have hP : va_P (DD G) vwCl (wT G a κ (s4F q (101 + 4 * κ) f_1)) H := by rw [wT_F1]; exact va_set1 (p := 1) hP (dT (q1 := q) hD) rfl hk hP1
  refine lv_aload_n hx hb dX6_begin_8 rfl (lv_at hl 0 rfl) ?_
  refine gT_extras X kw492 hP dX6_begin_9 ?_
  refine lv_iconst (v := 0) hx hb dX6_begin_12 (by decide) ?_
  obtain ⟨f_2, e_2, hm⟩ := bd1_s hm
  refine goT_v (n := 2) X (cQJ7_fill_53178 (a0 := a (102 + 4 * κ)) e_2) (gSx kw511 kw512 kw6 kw513) (by decide +kernel) ⟨by decide, by decide⟩ (hP.sub (ws' := (wAI G (a (102 + 4 * κ)) 3600 ((s4F q (101 + 4 * κ) f_1).2.1 (102 + 4 * κ)))) [2] rfl) (va_D.sub (dT (q1 := (s4F q (101 + 4 * κ) f_1)) hD) (ws' := (wAI G (a (102 + 4 * κ)) 3600 ((s4F q (101 + 4 * κ) f_1).2.1 (102 + 4 * κ)))) [2] (by decide) rfl) hS rfl rfl hl.1 (Nat.le_of_ble_eq_true rfl) dX6_begin_13 ⟨Nat.le_refl _, Nat.le_refl _⟩ (fun H locs hP1 hk hS => ?_)
  have hP : va_P (DD G) vwCl (wT G a κ (s4F (s4F q (101 + 4 * κ) f_1) (102 + 4 * κ) f_2)) H := by rw [wT_F2]; exact va_set1 (p := 2) hP (dT (q1 := (s4F q (101 + 4 * κ) f_1)) hD) rfl hk hP1
  refine lv_aload_n hx hb dX6_begin_16 rfl (lv_at hl 0 rfl) ?_
  refine gT_exceptions X kw494 hP dX6_begin_17 ?_
  refine lv_iconst (v := 0) hx hb dX6_begin_20 (by decide) ?_
  obtain ⟨f_3, e_3, hm⟩ := bd1_s hm
  refine goT_v (n := 2) X (cQJ7_fill_53178 (a0 := a (103 + 4 * κ)) e_3) (gSx kw511 kw512 kw6 kw513) (by decide +kernel) ⟨by decide, by decide⟩ (hP.sub (ws' := (wAI G (a (103 + 4 * κ)) 3600 ((s4F (s4F q (101 + 4 * κ) f_1) (102 + 4 * κ) f_2).2.1 (103 + 4 * κ)))) [3] rfl) (va_D.sub (dT (q1 := (s4F (s4F q (101 + 4 * κ) f_1) (102 + 4 * κ) f_2)) hD) (ws' := (wAI G (a (103 + 4 * κ)) 3600 ((s4F (s4F q (101 + 4 * κ) f_1) (102 + 4 * κ) f_2).2.1 (103 + 4 * κ)))) [3] (by decide) rfl) hS rfl rfl hl.1 (Nat.le_of_ble_eq_true rfl) dX6_begin_21 ⟨Nat.le_refl _, Nat.le_refl _⟩ (fun H locs hP1 hk hS => ?_)
  have hP : va_P (DD G) vwCl (wT G a κ (s4F (s4F (s4F q (101 + 4 * κ) f_1) (102 + 4 * κ) f_2) (103 + 4 * κ) f_3)) H := by rw [wT_F3]; exact va_set1 (p := 3) hP (dT (q1 := (s4F (s4F q (101 + 4 * κ) f_1) (102 + 4 * κ) f_2)) hD) rfl hk hP1
  refine lv_aload_n hx hb dX6_begin_24 rfl (lv_at hl 0 rfl) ?_
  refine lv_iconst (v := 1) hx hb dX6_begin_25 (by decide) ?_
  refine pT_live X kw496 (by decide) hP (dT (q1 := (s4F (s4F (s4F q (101 + 4 * κ) f_1) (102 + 4 * κ) f_2) (103 + 4 * κ) f_3)) hD) hS dX6_begin_26 (fun H locs hP hS => ?_)
  exact ret_v (wf := wT G a κ) X hm hP hS dX6_begin_29

-- RuledCalendar$Thing.mark
def moQ6_mark (n : Nat) (len : Nat) (x1 : Int32) (x2 : Int32) (q : (Nat → Int32)) : Option (Int32 × (Nat → Int32)) :=
  (bd1 (moQ0_monthOf n x1) fun r_1 => (bd1 (moQ0_dayOf n x1) fun r_2 => (gi r_1 len (if ((q (Int32.toNatClampNeg r_1)) &&& (slI 1 r_2)) = 0 then (if x2 = 0 then (gi r_1 len (gi r_1 len (some (0, (upd q (Int32.toNatClampNeg r_1) ((q (Int32.toNatClampNeg r_1)) &&& ((slI 1 r_2) ^^^ (-1)))))))) else (gi r_1 len (gi r_1 len (some (0, (upd q (Int32.toNatClampNeg r_1) ((q (Int32.toNatClampNeg r_1)) ||| (slI 1 r_2)))))))) else (if x2 = 0 then (gi r_1 len (gi r_1 len (some (1, (upd q (Int32.toNatClampNeg r_1) ((q (Int32.toNatClampNeg r_1)) &&& ((slI 1 r_2) ^^^ (-1)))))))) else (gi r_1 len (gi r_1 len (some (1, (upd q (Int32.toNatClampNeg r_1) ((q (Int32.toNatClampNeg r_1)) ||| (slI 1 r_2))))))))))))
set_option maxHeartbeats 4000000 in
set_option maxRecDepth 100000 in
theorem cQ6_mark {l : Launch} {G : Ev} {a0 len : Nat} {n : Nat} {q : (Nat → Int32)} {x1 : Int32} {x2 : Int32} {r : Int32} {q' : (Nat → Int32)} (hm : moQ6_mark n len x1 x2 q = some (r, q')) : CtI l G yX6_mark cX6_mark 6 (some .boolean) 1 20 0 0 [.ref a0, .int x1, .int x2] (wAI G a0 len q) (wAI G a0 len q') r := by
  intro sz
  refine enter (by decide) (Nat.le_of_ble_eq_true rfl) ?_
  intro p e s m args below meth c ls X hsz hP hD hS hl
  subst hsz
  obtain ⟨⟨hx, hb, hml, hown, hts⟩, hK, hr, hlk, hA, hAs, hSta⟩ := id X
  have hl : lv_has ls 6 [(0, .ref a0), (1, .int x1), (2, .int x2)] := hl
  unfold moQ6_mark at hm
  refine lv_iload_n hx hb dX6_mark_0 rfl (lv_at hl 1 rfl) ?_
  obtain ⟨r_1, e_1, hm⟩ := bd1_s hm
  refine goT_i (n := 1) X (cQ0_monthOf e_1) (gSx kw659 kw318 kw2 kw319) (by decide +kernel) ⟨by decide, by decide⟩ va_nil va_dnil hS rfl rfl hl.1 (Nat.le_of_ble_eq_true rfl) dX6_mark_1 ⟨Nat.le_refl _, Nat.le_refl _⟩ (fun H locs _ hk hS => ?_)
  have hP := va_keep hP hk
  refine lv_istore_n (lv' := [(3, .int r_1), (0, .ref a0), (1, .int x1), (2, .int x2)]) hx hb dX6_mark_4 rfl hl (by decide) rfl (fun ls hl => ?_)
  refine lv_iconst (v := 1) hx hb dX6_mark_5 (by decide) ?_
  refine lv_iload_n hx hb dX6_mark_6 rfl (lv_at hl 2 rfl) ?_
  obtain ⟨r_2, e_2, hm⟩ := bd1_s hm
  refine goT_i (n := 1) X (cQ0_dayOf e_2) (gSx kw660 kw527 kw2 kw528) (by decide +kernel) ⟨by decide, by decide⟩ va_nil va_dnil hS rfl rfl hl.1 (Nat.le_of_ble_eq_true rfl) dX6_mark_7 ⟨Nat.le_refl _, Nat.le_refl _⟩ (fun H locs _ hk hS => ?_)
  have hP := va_keep hP hk
  refine lv_ishl hx hb dX6_mark_10 ?_
  refine lv_istore (lv' := [(4, .int (slI 1 r_2)), (3, .int r_1), (0, .ref a0), (1, .int x1), (2, .int x2)]) hx hb dX6_mark_11 hl (by decide) rfl (fun ls hl => ?_)
  refine lv_aload_n hx hb dX6_mark_13 rfl (lv_at hl 2 rfl) ?_
  refine lv_iload_n hx hb dX6_mark_14 rfl (lv_at hl 1 rfl) ?_
  obtain ⟨hi_3, hm⟩ := gi_s hm
  refine va_iald hx hb hK hP 0 2 rfl rfl hi_3 dX6_mark_15 ?_
  refine lv_iload hx hb dX6_mark_16 (lv_at hl 0 rfl) ?_
  refine lv_iand hx hb dX6_mark_18 ?_
  refine lv_if_eq (tgt := 26) hx hb dX6_mark_19 (by decide) (fun c_4 => ?_) (fun c_4 => ?_)
  · have hm := (if_pos c_4).symm.trans hm
    refine lv_iconst (v := 0) hx hb dX6_mark_26 (by decide) ?_
    refine lv_istore (lv' := [(5, .int 0), (4, .int (slI 1 r_2)), (3, .int r_1), (0, .ref a0), (1, .int x1), (2, .int x2)]) hx hb dX6_mark_27 hl (by decide) rfl (fun ls hl => ?_)
    refine lv_aload_n hx hb dX6_mark_29 rfl (lv_at hl 3 rfl) ?_
    refine lv_iload_n hx hb dX6_mark_30 rfl (lv_at hl 2 rfl) ?_
    refine lv_iload_n hx hb dX6_mark_31 rfl (lv_at hl 5 rfl) ?_
    refine lv_if_eq (tgt := 44) hx hb dX6_mark_32 (by decide) (fun c_5 => ?_) (fun c_5 => ?_)
    · have hm := (if_pos c_5).symm.trans hm
      refine lv_aload_n hx hb dX6_mark_44 rfl (lv_at hl 3 rfl) ?_
      refine lv_iload_n hx hb dX6_mark_45 rfl (lv_at hl 2 rfl) ?_
      obtain ⟨hi_6, hm⟩ := gi_s hm
      refine va_iald hx hb hK hP 0 2 rfl rfl hi_6 dX6_mark_46 ?_
      refine lv_iload hx hb dX6_mark_47 (lv_at hl 1 rfl) ?_
      refine lv_iconst (v := (-1)) hx hb dX6_mark_49 (by decide) ?_
      refine lv_ixor hx hb dX6_mark_50 ?_
      refine lv_iand hx hb dX6_mark_51 ?_
      obtain ⟨hi_7, hm⟩ := gi_s hm
      refine va_iast hx hb hK hP (dAI (q1 := q) hD) hS 0 2 rfl rfl hi_7 dX6_mark_52 (fun H locs hP _ hS => ?_)
      have hP : va_P (DD G) vwCl (wAI G a0 len (upd q (Int32.toNatClampNeg r_1) ((q (Int32.toNatClampNeg r_1)) &&& ((slI 1 r_2) ^^^ (-1))))) H := hP
      refine lv_iload hx hb dX6_mark_53 (lv_at hl 0 rfl) ?_
      exact ret_z (wf := wAI G a0 len) X (by decide) hm hP hS dX6_mark_55
    · have hm := (if_neg c_5).symm.trans hm
      refine lv_aload_n hx hb dX6_mark_35 rfl (lv_at hl 3 rfl) ?_
      refine lv_iload_n hx hb dX6_mark_36 rfl (lv_at hl 2 rfl) ?_
      obtain ⟨hi_8, hm⟩ := gi_s hm
      refine va_iald hx hb hK hP 0 2 rfl rfl hi_8 dX6_mark_37 ?_
      refine lv_iload hx hb dX6_mark_38 (lv_at hl 1 rfl) ?_
      refine lv_ior hx hb dX6_mark_40 ?_
      refine lv_goto (tgt := 52) hx hb dX6_mark_41 (by decide) ?_
      obtain ⟨hi_9, hm⟩ := gi_s hm
      refine va_iast hx hb hK hP (dAI (q1 := q) hD) hS 0 2 rfl rfl hi_9 dX6_mark_52 (fun H locs hP _ hS => ?_)
      have hP : va_P (DD G) vwCl (wAI G a0 len (upd q (Int32.toNatClampNeg r_1) ((q (Int32.toNatClampNeg r_1)) ||| (slI 1 r_2)))) H := hP
      refine lv_iload hx hb dX6_mark_53 (lv_at hl 0 rfl) ?_
      exact ret_z (wf := wAI G a0 len) X (by decide) hm hP hS dX6_mark_55
  · have hm := (if_neg c_4).symm.trans hm
    refine lv_iconst (v := 1) hx hb dX6_mark_22 (by decide) ?_
    refine lv_goto (tgt := 27) hx hb dX6_mark_23 (by decide) ?_
    refine lv_istore (lv' := [(5, .int 1), (4, .int (slI 1 r_2)), (3, .int r_1), (0, .ref a0), (1, .int x1), (2, .int x2)]) hx hb dX6_mark_27 hl (by decide) rfl (fun ls hl => ?_)
    refine lv_aload_n hx hb dX6_mark_29 rfl (lv_at hl 3 rfl) ?_
    refine lv_iload_n hx hb dX6_mark_30 rfl (lv_at hl 2 rfl) ?_
    refine lv_iload_n hx hb dX6_mark_31 rfl (lv_at hl 5 rfl) ?_
    refine lv_if_eq (tgt := 44) hx hb dX6_mark_32 (by decide) (fun c_10 => ?_) (fun c_10 => ?_)
    · have hm := (if_pos c_10).symm.trans hm
      refine lv_aload_n hx hb dX6_mark_44 rfl (lv_at hl 3 rfl) ?_
      refine lv_iload_n hx hb dX6_mark_45 rfl (lv_at hl 2 rfl) ?_
      obtain ⟨hi_11, hm⟩ := gi_s hm
      refine va_iald hx hb hK hP 0 2 rfl rfl hi_11 dX6_mark_46 ?_
      refine lv_iload hx hb dX6_mark_47 (lv_at hl 1 rfl) ?_
      refine lv_iconst (v := (-1)) hx hb dX6_mark_49 (by decide) ?_
      refine lv_ixor hx hb dX6_mark_50 ?_
      refine lv_iand hx hb dX6_mark_51 ?_
      obtain ⟨hi_12, hm⟩ := gi_s hm
      refine va_iast hx hb hK hP (dAI (q1 := q) hD) hS 0 2 rfl rfl hi_12 dX6_mark_52 (fun H locs hP _ hS => ?_)
      have hP : va_P (DD G) vwCl (wAI G a0 len (upd q (Int32.toNatClampNeg r_1) ((q (Int32.toNatClampNeg r_1)) &&& ((slI 1 r_2) ^^^ (-1))))) H := hP
      refine lv_iload hx hb dX6_mark_53 (lv_at hl 0 rfl) ?_
      exact ret_z (wf := wAI G a0 len) X (by decide) hm hP hS dX6_mark_55
    · have hm := (if_neg c_10).symm.trans hm
      refine lv_aload_n hx hb dX6_mark_35 rfl (lv_at hl 3 rfl) ?_
      refine lv_iload_n hx hb dX6_mark_36 rfl (lv_at hl 2 rfl) ?_
      obtain ⟨hi_13, hm⟩ := gi_s hm
      refine va_iald hx hb hK hP 0 2 rfl rfl hi_13 dX6_mark_37 ?_
      refine lv_iload hx hb dX6_mark_38 (lv_at hl 1 rfl) ?_
      refine lv_ior hx hb dX6_mark_40 ?_
      refine lv_goto (tgt := 52) hx hb dX6_mark_41 (by decide) ?_
      obtain ⟨hi_14, hm⟩ := gi_s hm
      refine va_iast hx hb hK hP (dAI (q1 := q) hD) hS 0 2 rfl rfl hi_14 dX6_mark_52 (fun H locs hP _ hS => ?_)
      have hP : va_P (DD G) vwCl (wAI G a0 len (upd q (Int32.toNatClampNeg r_1) ((q (Int32.toNatClampNeg r_1)) ||| (slI 1 r_2)))) H := hP
      refine lv_iload hx hb dX6_mark_53 (lv_at hl 0 rfl) ?_
      exact ret_z (wf := wAI G a0 len) X (by decide) hm hP hS dX6_mark_55

-- RuledCalendar.wipe
def moQ7_wipe (n : Nat) (z : Pc4) (q : Pc4) : Option (Int32 × Pc4) :=
  (some ((r4S q 0), (s4S q 0 0)))
set_option maxHeartbeats 4000000 in
set_option maxRecDepth 100000 in
theorem cQ7_wipe {l : Launch} {G : Ev} {a : Nat → Nat} {z : Pc4} {n : Nat} {q : Pc4} {r : Int32} {q' : Pc4} (hm : moQ7_wipe n z q = some (r, q')) : CtI l G yX7_wipe cX7_wipe 2 (some .int) 0 0 0 0 [.ref (a 0)] (wZ G a z q) (wZ G a z q') r := by
  intro sz
  refine enter (by decide) (Nat.le_of_ble_eq_true rfl) ?_
  intro p e s m args below meth c ls X hsz hP hD hS hl
  subst hsz
  obtain ⟨⟨hx, hb, hml, hown, hts⟩, hK, hr, hlk, hA, hAs, hSta⟩ := id X
  have hl : lv_has ls 2 [(0, .ref (a 0))] := hl
  unfold moQ7_wipe at hm
  refine lv_aload_n hx hb dX7_wipe_0 rfl (lv_at hl 0 rfl) ?_
  refine gC_cal_textLength X kw189 hP dX7_wipe_1 ?_
  refine lv_istore_n (lv' := [(1, .int (r4S q 0)), (0, .ref (a 0))]) hx hb dX7_wipe_4 rfl hl (by decide) rfl (fun ls hl => ?_)
  refine lv_aload_n hx hb dX7_wipe_5 rfl (lv_at hl 1 rfl) ?_
  refine lv_iconst (v := 0) hx hb dX7_wipe_6 (by decide) ?_
  refine pC_cal_textLength X kw189 hP (dZ (q1 := q) hD) hS dX7_wipe_7 (fun H locs hP hS => ?_)
  have hP : va_P (DD G) vwCl (wZ G a z (s4S q 0 0)) H := hP
  refine lv_iload_n hx hb dX7_wipe_10 rfl (lv_at hl 0 rfl) ?_
  exact ret_i (wf := wZ G a z) X hm hP hS dX7_wipe_11

-- RuledCalendar.fault
def moQ7_fault (n : Nat) (z : Pc4) (q : Pc4) : Option (Int32) :=
  (some (r4S q 13))
set_option maxHeartbeats 4000000 in
set_option maxRecDepth 100000 in
theorem cQ7_fault {l : Launch} {G : Ev} {a : Nat → Nat} {z : Pc4} {n : Nat} {q : Pc4} {r : Int32} (hm : moQ7_fault n z q = some r) : CtI l G yX7_fault cX7_fault 1 (some .int) 0 0 0 0 [.ref (a 0)] (wZ G a z q) (wZ G a z q) r := by
  intro sz
  refine enter (by decide) (Nat.le_of_ble_eq_true rfl) ?_
  intro p e s m args below meth c ls X hsz hP hD hS hl
  subst hsz
  obtain ⟨⟨hx, hb, hml, hown, hts⟩, hK, hr, hlk, hA, hAs, hSta⟩ := id X
  have hl : lv_has ls 1 [(0, .ref (a 0))] := hl
  unfold moQ7_fault at hm
  refine lv_aload_n hx hb dX7_fault_0 rfl (lv_at hl 0 rfl) ?_
  refine gC_cal_reader X kw192 hP dX7_fault_1 ?_
  refine gC_reader_faultKind X kw139 hP dX7_fault_4 ?_
  exact ret_io (wf := wZ G a z) X hm hP hS dX7_fault_7

-- RuledCalendar.place
def moQ7_place (n : Nat) (z : Pc4) (q : Pc4) : Option (Int32) :=
  (some (r4S q 14))
set_option maxHeartbeats 4000000 in
set_option maxRecDepth 100000 in
theorem cQ7_place {l : Launch} {G : Ev} {a : Nat → Nat} {z : Pc4} {n : Nat} {q : Pc4} {r : Int32} (hm : moQ7_place n z q = some r) : CtI l G yX7_place cX7_place 1 (some .int) 0 0 0 0 [.ref (a 0)] (wZ G a z q) (wZ G a z q) r := by
  intro sz
  refine enter (by decide) (Nat.le_of_ble_eq_true rfl) ?_
  intro p e s m args below meth c ls X hsz hP hD hS hl
  subst hsz
  obtain ⟨⟨hx, hb, hml, hown, hts⟩, hK, hr, hlk, hA, hAs, hSta⟩ := id X
  have hl : lv_has ls 1 [(0, .ref (a 0))] := hl
  unfold moQ7_place at hm
  refine lv_aload_n hx hb dX7_place_0 rfl (lv_at hl 0 rfl) ?_
  refine gC_cal_reader X kw192 hP dX7_place_1 ?_
  refine gC_reader_faultPlace X kw141 hP dX7_place_4 ?_
  exact ret_io (wf := wZ G a z) X hm hP hS dX7_place_7

-- RuledCalendar.freeNumber
def moQ7_freeNumber_L2 {α : Type} (n : Nat) (z : Pc4) (q : Pc4) (K0 : Option α) (K1 : Int32 → Option α) : Nat → Int32 → Option α
  | 0, _ => none
  | k + 1, x1 => (if 12 ≤ x1 then (K0 ) else (gi x1 12 (if q.2.1 15 (Int32.toNatClampNeg x1) = 0 then (K1 x1 ) else (gl (Int32.toNatClampNeg x1) 12 (gz (z.2.1 15 (Int32.toNatClampNeg x1)) (if (r4S z (100 + 4 * (Int32.toNatClampNeg x1))) = 0 then (K1 x1 ) else (moQ7_freeNumber_L2 n z q K0 K1 k (x1 + 1) )))))))
def moQ7_freeNumber (n : Nat) (z : Pc4) (q : Pc4) : Option (Int32) :=
  (moQ7_freeNumber_L2 n z q (some (-1)) (fun z7_1 => (some z7_1)) n 0 )
set_option maxHeartbeats 4000000 in
set_option maxRecDepth 100000 in
theorem lpQ7_freeNumber_2 {p : Program} {l : Launch} {e : Env} {s : State} {m : MethodId} {args : Array Value} {below : List Frame} {meth : Method} {c : Code} {G : Ev} {a : Nat → Nat} {z : Pc4} {Q : State → Prop} {A : Nat → Prop} {q : Pc4} (X : CX p s m args meth c cX7_freeNumber 3 (some .int) RX7 (.code yX7_freeNumber cX7_freeNumber 3 (some .int)) G A) (hD : va_D A (wZ G a z q)) {α : Type} {o : α} {n : Nat} {K0 : Option α} {K1 : Int32 → Option α} (h0 : ∀ (H : Heap) (locs : List Loc) (ls : Array Slot), K0  = some o → va_P (DD G) vwCl (wZ G a z q) H → va_S A s.heap H locs → lv_has ls 3 [] → W p l e { frames := 0, cells := 0, slots := 0, locals := 0 } s m args below meth c H locs 0 0 Q (F0 m 34 ls [])) (h1 : ∀ (y1 : Int32) (H : Heap) (locs : List Loc) (ls : Array Slot), K1 y1  = some o → va_P (DD G) vwCl (wZ G a z q) H → va_S A s.heap H locs → lv_has ls 3 [(1, .int y1)] → W p l e { frames := 0, cells := 0, slots := 0, locals := 0 } s m args below meth c H locs 0 0 Q (F0 m 26 ls [])) : ∀ (k : Nat) (x1 : Int32) (H : Heap) (locs : List Loc) (ls : Array Slot), moQ7_freeNumber_L2 n z q K0 K1 k x1  = some o → va_P (DD G) vwCl (wZ G a z q) H → va_S A s.heap H locs → lv_has ls 3 [(0, .ref (a 0)), (1, .int x1)] → W p l e { frames := 0, cells := 0, slots := 0, locals := 0 } s m args below meth c H locs 0 0 Q (F0 m 2 ls []) := by
  obtain ⟨⟨hx, hb, hml, hown, hts⟩, hK, hr, hlk, hA, hAs, hSta⟩ := id X
  intro k
  induction k with
  | zero =>
    intro x1 H locs ls hm
    have hm : none = some o := hm
    cases hm
  | succ k ih =>
    intro x1 H locs ls hm hP hS hl
    rw [moQ7_freeNumber_L2] at hm
    refine lv_iload_n hx hb dX7_freeNumber_2 rfl (lv_at hl 1 rfl) ?_
    refine lv_bipush (v := 12) hx hb dX7_freeNumber_3 (by decide) ?_
    refine lv_icmp_ge (tgt := 34) hx hb dX7_freeNumber_5 (by decide) (fun c_1 => ?_) (fun c_1 => ?_)
    · have hm := (if_pos c_1).symm.trans hm
      exact h0 _ _ _ hm hP hS (lv_sub hl [] rfl)
    · have hm := (if_neg c_1).symm.trans hm
      refine lv_aload_n hx hb dX7_freeNumber_8 rfl (lv_at hl 0 rfl) ?_
      refine gC_cal_things X kw194 hP dX7_freeNumber_9 ?_
      refine lv_iload_n hx hb dX7_freeNumber_12 rfl (lv_at hl 1 rfl) ?_
      obtain ⟨hi_2, hm⟩ := gi_s hm
      refine ldZ_things X hP hi_2 dX7_freeNumber_13 (fun c_2 => ?_) (fun c_2 => ?_)
      · have hm := (if_pos c_2).symm.trans hm
        refine lv_astore_nN (lv' := [(2, .null), (0, .ref (a 0)), (1, .int x1)]) hx hb dX7_freeNumber_14 rfl hl (by decide) rfl (fun ls hl => ?_)
        refine lv_aload_nN hx hb dX7_freeNumber_15 rfl (lv_at hl 0 rfl) ?_
        refine lv_ifnullN (tgt := 26) hx hb dX7_freeNumber_16 (by decide) ?_
        exact h1 _ _ _ _ hm hP hS (lv_sub hl [2] rfl)
      · have hm := (if_neg c_2).symm.trans hm
        refine lv_astore_n (lv' := [(2, .ref (a (100 + 4 * (Int32.toNatClampNeg x1)))), (0, .ref (a 0)), (1, .int x1)]) hx hb dX7_freeNumber_14 rfl hl (by decide) rfl (fun ls hl => ?_)
        refine lv_aload_n hx hb dX7_freeNumber_15 rfl (lv_at hl 0 rfl) ?_
        refine lv_ifnull hx hb dX7_freeNumber_16 ?_
        refine lv_aload_n hx hb dX7_freeNumber_19 rfl (lv_at hl 0 rfl) ?_
        obtain ⟨hg_3, hm⟩ := gl_s hm
        obtain ⟨hz_4, hm⟩ := gz_s hm
        refine gT_live X kw497 (zP hg_3 hz_4 hP) dX7_freeNumber_20 ?_
        refine lv_if_ne (tgt := 28) hx hb dX7_freeNumber_23 (by decide) (fun c_5 => ?_) (fun c_5 => ?_)
        · have hm := (if_neg c_5).symm.trans hm
          refine lv_iinc (v := (x1 + 1)) (lv' := [(1, .int (x1 + 1)), (2, .ref (a (100 + 4 * (Int32.toNatClampNeg x1)))), (0, .ref (a 0))]) hx hb dX7_freeNumber_28 hl (k := 2) rfl (by first | rfl | decide) (by decide) rfl (fun ls hl => ?_)
          refine lv_goto (tgt := 2) hx hb dX7_freeNumber_31 (by decide) ?_
          exact ih _ _ _ _ hm hP hS (lv_sub hl [2, 0] rfl)
        · have hm := (if_pos c_5).symm.trans hm
          exact h1 _ _ _ _ hm hP hS (lv_sub hl [2] rfl)
set_option maxHeartbeats 4000000 in
set_option maxRecDepth 100000 in
theorem cQ7_freeNumber {l : Launch} {G : Ev} {a : Nat → Nat} {z : Pc4} {n : Nat} {q : Pc4} {r : Int32} (hm : moQ7_freeNumber n z q = some r) : CtI l G yX7_freeNumber cX7_freeNumber 3 (some .int) 0 0 0 0 [.ref (a 0)] (wZ G a z q) (wZ G a z q) r := by
  intro sz
  refine enter (by decide) (Nat.le_of_ble_eq_true rfl) ?_
  intro p e s m args below meth c ls X hsz hP hD hS hl
  subst hsz
  obtain ⟨⟨hx, hb, hml, hown, hts⟩, hK, hr, hlk, hA, hAs, hSta⟩ := id X
  have hl : lv_has ls 3 [(0, .ref (a 0))] := hl
  unfold moQ7_freeNumber at hm
  refine lv_iconst (v := 0) hx hb dX7_freeNumber_0 (by decide) ?_
  refine lv_istore_n (lv' := [(1, .int 0), (0, .ref (a 0))]) hx hb dX7_freeNumber_1 rfl hl (by decide) rfl (fun ls hl => ?_)
  refine lpQ7_freeNumber_2 X hD (fun  H locs ls hm hP hS hl => ?_) (fun z7_1 H locs ls hm hP hS hl => ?_) n _ _ _ _ hm hP hS (lv_sub hl [1, 0] rfl)
  · refine lv_iconst (v := (-1)) hx hb dX7_freeNumber_34 (by decide) ?_
    exact ret_io (wf := wZ G a z) X hm hP hS dX7_freeNumber_35
  · refine lv_iload_n hx hb dX7_freeNumber_26 rfl (lv_at hl 0 rfl) ?_
    exact ret_io (wf := wZ G a z) X hm hP hS dX7_freeNumber_27

-- RuledCalendar.daysOfThing
def moQ7_daysOfThing (n : Nat) (z : Pc4) (x1 : Int32) (x2 : Int32) (q : Pc4) : Option (Int32) :=
  (gi x1 12 (if q.2.1 15 (Int32.toNatClampNeg x1) = 0 then (some 0) else (gl (Int32.toNatClampNeg x1) 12 (gz (z.2.1 15 (Int32.toNatClampNeg x1)) (if (r4S z (100 + 4 * (Int32.toNatClampNeg x1))) = 0 then (some 0) else (gl (Int32.toNatClampNeg x1) 12 (gz (z.2.1 15 (Int32.toNatClampNeg x1)) (bd1 (moQ6_daysIn n (Int32.toNatClampNeg x1) x2 z) fun r_5 => (some r_5)))))))))
set_option maxHeartbeats 4000000 in
set_option maxRecDepth 100000 in
theorem cQ7_daysOfThing {l : Launch} {G : Ev} {a : Nat → Nat} {z : Pc4} {n : Nat} {q : Pc4} {x1 : Int32} {x2 : Int32} {r : Int32} (hm : moQ7_daysOfThing n z x1 x2 q = some r) : CtI l G yX7_daysOfThing cX7_daysOfThing 4 (some .int) 1 21 0 0 [.ref (a 0), .int x1, .int x2] (wZ G a z q) (wZ G a z q) r := by
  intro sz
  refine enter (by decide) (Nat.le_of_ble_eq_true rfl) ?_
  intro p e s m args below meth c ls X hsz hP hD hS hl
  subst hsz
  obtain ⟨⟨hx, hb, hml, hown, hts⟩, hK, hr, hlk, hA, hAs, hSta⟩ := id X
  have hl : lv_has ls 4 [(0, .ref (a 0)), (1, .int x1), (2, .int x2)] := hl
  unfold moQ7_daysOfThing at hm
  refine lv_aload_n hx hb dX7_daysOfThing_0 rfl (lv_at hl 0 rfl) ?_
  refine gC_cal_things X kw194 hP dX7_daysOfThing_1 ?_
  refine lv_iload_n hx hb dX7_daysOfThing_4 rfl (lv_at hl 1 rfl) ?_
  obtain ⟨hi_1, hm⟩ := gi_s hm
  refine ldZ_things X hP hi_1 dX7_daysOfThing_5 (fun c_1 => ?_) (fun c_1 => ?_)
  · have hm := (if_pos c_1).symm.trans hm
    refine lv_astore_nN (lv' := [(3, .null), (0, .ref (a 0)), (1, .int x1), (2, .int x2)]) hx hb dX7_daysOfThing_6 rfl hl (by decide) rfl (fun ls hl => ?_)
    refine lv_aload_nN hx hb dX7_daysOfThing_7 rfl (lv_at hl 0 rfl) ?_
    refine lv_ifnullN (tgt := 18) hx hb dX7_daysOfThing_8 (by decide) ?_
    refine lv_iconst (v := 0) hx hb dX7_daysOfThing_18 (by decide) ?_
    refine lv_goto (tgt := 27) hx hb dX7_daysOfThing_19 (by decide) ?_
    exact ret_io (wf := wZ G a z) X hm hP hS dX7_daysOfThing_27
  · have hm := (if_neg c_1).symm.trans hm
    refine lv_astore_n (lv' := [(3, .ref (a (100 + 4 * (Int32.toNatClampNeg x1)))), (0, .ref (a 0)), (1, .int x1), (2, .int x2)]) hx hb dX7_daysOfThing_6 rfl hl (by decide) rfl (fun ls hl => ?_)
    refine lv_aload_n hx hb dX7_daysOfThing_7 rfl (lv_at hl 0 rfl) ?_
    refine lv_ifnull hx hb dX7_daysOfThing_8 ?_
    refine lv_aload_n hx hb dX7_daysOfThing_11 rfl (lv_at hl 0 rfl) ?_
    obtain ⟨hg_2, hm⟩ := gl_s hm
    obtain ⟨hz_3, hm⟩ := gz_s hm
    refine gT_live X kw497 (zP hg_2 hz_3 hP) dX7_daysOfThing_12 ?_
    refine lv_if_ne (tgt := 22) hx hb dX7_daysOfThing_15 (by decide) (fun c_4 => ?_) (fun c_4 => ?_)
    · have hm := (if_neg c_4).symm.trans hm
      refine lv_aload_n hx hb dX7_daysOfThing_22 rfl (lv_at hl 0 rfl) ?_
      refine lv_iload_n hx hb dX7_daysOfThing_23 rfl (lv_at hl 3 rfl) ?_
      obtain ⟨hg_6, hm⟩ := gl_s hm
      obtain ⟨hz_7, hm⟩ := gz_s hm
      obtain ⟨r_5, e_5, hm⟩ := bd1_s hm
      refine goV_i (n := 1) (C := RX6) X (cQ6_daysIn (κ := (Int32.toNatClampNeg x1)) e_5) (gV kw676 kw677 kw678 kw20 kw679) (by decide +kernel) ⟨by decide, by decide⟩ (rc_T hK (zP hg_6 hz_7 hP)) (zP hg_6 hz_7 hP) (zD hg_6 hz_7 (dZ (q1 := q) hD)) hS rfl rfl hl.1 (Nat.le_of_ble_eq_true rfl) dX7_daysOfThing_24 ⟨Nat.le_refl _, Nat.le_refl _⟩ (fun H locs hP1 hk hS => ?_)
      have hP := zB hg_6 hz_7 hP (dZ (q1 := q) hD) hk hP1
      exact ret_io (wf := wZ G a z) X hm hP hS dX7_daysOfThing_27
    · have hm := (if_pos c_4).symm.trans hm
      refine lv_iconst (v := 0) hx hb dX7_daysOfThing_18 (by decide) ?_
      refine lv_goto (tgt := 27) hx hb dX7_daysOfThing_19 (by decide) ?_
      exact ret_io (wf := wZ G a z) X hm hP hS dX7_daysOfThing_27

-- RuledCalendar.busyDays
def moQ7_busyDays_L4 {α : Type} (n : Nat) (z : Pc4) (q : Pc4) (K0 : Int32 → Option α) : Nat → Int32 → Int32 → Int32 → Option α
  | 0, _, _, _ => none
  | k + 1, x1, x2, x3 => (if 12 ≤ x3 then (K0 x2 ) else (bd1 (moQ7_daysOfThing n z x3 x1 q) fun r_2 => (moQ7_busyDays_L4 n z q K0 k x1 (x2 ||| r_2) (x3 + 1) )))
def moQ7_busyDays (n : Nat) (z : Pc4) (x1 : Int32) (q : Pc4) : Option (Int32) :=
  (moQ7_busyDays_L4 n z q (fun z3_2 => (some z3_2)) n x1 0 0 )
set_option maxHeartbeats 4000000 in
set_option maxRecDepth 100000 in
theorem lpQ7_busyDays_4 {p : Program} {l : Launch} {e : Env} {s : State} {m : MethodId} {args : Array Value} {below : List Frame} {meth : Method} {c : Code} {G : Ev} {a : Nat → Nat} {z : Pc4} {Q : State → Prop} {A : Nat → Prop} {q : Pc4} (X : CX p s m args meth c cX7_busyDays 4 (some .int) RX7 (.code yX7_busyDays cX7_busyDays 4 (some .int)) G A) (hD : va_D A (wZ G a z q)) {α : Type} {o : α} {n : Nat} {K0 : Int32 → Option α} (h0 : ∀ (y2 : Int32) (H : Heap) (locs : List Loc) (ls : Array Slot), K0 y2  = some o → va_P (DD G) vwCl (wZ G a z q) H → va_S A s.heap H locs → lv_has ls 4 [(2, .int y2)] → W p l e { frames := 2, cells := 0, slots := 0, locals := 44 } s m args below meth c H locs 0 0 Q (F0 m 25 ls [])) : ∀ (k : Nat) (x1 : Int32) (x2 : Int32) (x3 : Int32) (H : Heap) (locs : List Loc) (ls : Array Slot), moQ7_busyDays_L4 n z q K0 k x1 x2 x3  = some o → va_P (DD G) vwCl (wZ G a z q) H → va_S A s.heap H locs → lv_has ls 4 [(0, .ref (a 0)), (1, .int x1), (2, .int x2), (3, .int x3)] → W p l e { frames := 2, cells := 0, slots := 0, locals := 44 } s m args below meth c H locs 0 0 Q (F0 m 4 ls []) := by
  obtain ⟨⟨hx, hb, hml, hown, hts⟩, hK, hr, hlk, hA, hAs, hSta⟩ := id X
  intro k
  induction k with
  | zero =>
    intro x1 x2 x3 H locs ls hm
    have hm : none = some o := hm
    cases hm
  | succ k ih =>
    intro x1 x2 x3 H locs ls hm hP hS hl
    rw [moQ7_busyDays_L4] at hm
    refine lv_iload_n hx hb dX7_busyDays_4 rfl (lv_at hl 3 rfl) ?_
    refine lv_bipush (v := 12) hx hb dX7_busyDays_5 (by decide) ?_
    refine lv_icmp_ge (tgt := 25) hx hb dX7_busyDays_7 (by decide) (fun c_1 => ?_) (fun c_1 => ?_)
    · have hm := (if_pos c_1).symm.trans hm
      exact h0 _ _ _ _ hm hP hS (lv_sub hl [2] rfl)
    · have hm := (if_neg c_1).symm.trans hm
      refine lv_iload_n hx hb dX7_busyDays_10 rfl (lv_at hl 2 rfl) ?_
      refine lv_aload_n hx hb dX7_busyDays_11 rfl (lv_at hl 0 rfl) ?_
      refine lv_iload_n hx hb dX7_busyDays_12 rfl (lv_at hl 3 rfl) ?_
      refine lv_iload_n hx hb dX7_busyDays_13 rfl (lv_at hl 1 rfl) ?_
      obtain ⟨r_2, e_2, hm⟩ := bd1_s hm
      refine goV_i (n := 2) (C := RX7) X (cQ7_daysOfThing e_2) (gV kw721 kw723 ks_yX7_daysOfThing kw1 kw724) (by decide +kernel) ⟨by decide, by decide⟩ (rc_cal hK hP) hP (dZ (q1 := q) hD) hS rfl rfl hl.1 (Nat.le_of_ble_eq_true rfl) dX7_busyDays_14 ⟨Nat.le_refl _, Nat.le_refl _⟩ (fun H locs hP _ hS => ?_)
      refine lv_ior hx hb dX7_busyDays_17 ?_
      refine lv_istore_n (lv' := [(2, .int (x2 ||| r_2)), (0, .ref (a 0)), (1, .int x1), (3, .int x3)]) hx hb dX7_busyDays_18 rfl hl (by decide) rfl (fun ls hl => ?_)
      refine lv_iinc (v := (x3 + 1)) (lv' := [(3, .int (x3 + 1)), (2, .int (x2 ||| r_2)), (0, .ref (a 0)), (1, .int x1)]) hx hb dX7_busyDays_19 hl (k := 3) rfl (by first | rfl | decide) (by decide) rfl (fun ls hl => ?_)
      refine lv_goto (tgt := 4) hx hb dX7_busyDays_22 (by decide) ?_
      exact ih _ _ _ _ _ _ hm hP hS (lv_sub hl [2, 3, 1, 0] rfl)
set_option maxHeartbeats 4000000 in
set_option maxRecDepth 100000 in
theorem cQ7_busyDays {l : Launch} {G : Ev} {a : Nat → Nat} {z : Pc4} {n : Nat} {q : Pc4} {x1 : Int32} {r : Int32} (hm : moQ7_busyDays n z x1 q = some r) : CtI l G yX7_busyDays cX7_busyDays 4 (some .int) 2 44 0 0 [.ref (a 0), .int x1] (wZ G a z q) (wZ G a z q) r := by
  intro sz
  refine enter (by decide) (Nat.le_of_ble_eq_true rfl) ?_
  intro p e s m args below meth c ls X hsz hP hD hS hl
  subst hsz
  obtain ⟨⟨hx, hb, hml, hown, hts⟩, hK, hr, hlk, hA, hAs, hSta⟩ := id X
  have hl : lv_has ls 4 [(0, .ref (a 0)), (1, .int x1)] := hl
  unfold moQ7_busyDays at hm
  refine lv_iconst (v := 0) hx hb dX7_busyDays_0 (by decide) ?_
  refine lv_istore_n (lv' := [(2, .int 0), (0, .ref (a 0)), (1, .int x1)]) hx hb dX7_busyDays_1 rfl hl (by decide) rfl (fun ls hl => ?_)
  refine lv_iconst (v := 0) hx hb dX7_busyDays_2 (by decide) ?_
  refine lv_istore_n (lv' := [(3, .int 0), (2, .int 0), (0, .ref (a 0)), (1, .int x1)]) hx hb dX7_busyDays_3 rfl hl (by decide) rfl (fun ls hl => ?_)
  refine lpQ7_busyDays_4 X hD (fun z3_2 H locs ls hm hP hS hl => ?_) n _ _ _ _ _ _ hm hP hS (lv_sub hl [2, 3, 1, 0] rfl)
  refine lv_iload_n hx hb dX7_busyDays_25 rfl (lv_at hl 0 rfl) ?_
  exact ret_io (wf := wZ G a z) X hm hP hS dX7_busyDays_26

-- RuledCalendar.listDay
def moQ7_listDay_L10 {α : Type} (n : Nat) (z : Pc4) (K0 : Pc4 → Option α) : Nat → Int32 → Int32 → Int64 → Int32 → Pc4 → Option α
  | 0, _, _, _, _, _ => none
  | k + 1, x1, x2, x3, x5, q => (if 12 ≤ x5 then (K0 q) else (if 300 ≤ (r4S q 1) then (K0 q) else (bd1 (moQ7_daysOfThing n z x5 x1 q) fun r_4 => (if (r_4 &&& (slI 1 x2)) = 0 then (moQ7_listDay_L10 n z K0 k x1 x2 x3 (x5 + 1) q) else (gi (r4S q 1) 300 (moQ7_listDay_L10 n z K0 k x1 x2 x3 (x5 + 1) (s4S (s4L q 12 (r4S q 1) ((16 * x3) + (Int32.toInt64 x5))) 1 ((r4S (s4L q 12 (r4S q 1) ((16 * x3) + (Int32.toInt64 x5))) 1) + 1))))))))
def moQ7_listDay (n : Nat) (z : Pc4) (x1 : Int32) (x2 : Int32) (q : Pc4) : Option (Pc4) :=
  (bd1 (moQ0_dateAt n x1 x2) fun r_1 => (moQ7_listDay_L10 n z (fun q_7 => (some q_7)) n x1 x2 (Int32.toInt64 r_1) 0 q))
set_option maxHeartbeats 4000000 in
set_option maxRecDepth 100000 in
theorem lpQ7_listDay_10 {p : Program} {l : Launch} {e : Env} {s : State} {m : MethodId} {args : Array Value} {below : List Frame} {meth : Method} {c : Code} {G : Ev} {a : Nat → Nat} {z : Pc4} {Q : State → Prop} {A : Nat → Prop} {q0 : Pc4} (X : CX p s m args meth c cX7_listDay 6 none RX7 (.code yX7_listDay cX7_listDay 6 none) G A) (hD : va_D A (wZ G a z q0)) {α : Type} {o : α} {n : Nat} {K0 : Pc4 → Option α} (h0 : ∀ (q : Pc4) (H : Heap) (locs : List Loc) (ls : Array Slot), K0 q = some o → va_P (DD G) vwCl (wZ G a z q) H → va_S A s.heap H locs → lv_has ls 6 [] → W p l e { frames := 2, cells := 0, slots := 0, locals := 44 } s m args below meth c H locs 0 0 Q (F0 m 75 ls [])) : ∀ (k : Nat) (x1 : Int32) (x2 : Int32) (x3 : Int64) (x5 : Int32) (q : Pc4) (H : Heap) (locs : List Loc) (ls : Array Slot), moQ7_listDay_L10 n z K0 k x1 x2 x3 x5 q = some o → va_P (DD G) vwCl (wZ G a z q) H → va_S A s.heap H locs → lv_has ls 6 [(0, .ref (a 0)), (1, .int x1), (2, .int x2), (3, .long x3), (5, .int x5)] → W p l e { frames := 2, cells := 0, slots := 0, locals := 44 } s m args below meth c H locs 0 0 Q (F0 m 10 ls []) := by
  obtain ⟨⟨hx, hb, hml, hown, hts⟩, hK, hr, hlk, hA, hAs, hSta⟩ := id X
  intro k
  induction k with
  | zero =>
    intro x1 x2 x3 x5 q H locs ls hm
    have hm : none = some o := hm
    cases hm
  | succ k ih =>
    intro x1 x2 x3 x5 q H locs ls hm hP hS hl
    rw [moQ7_listDay_L10] at hm
    refine lv_iload hx hb dX7_listDay_10 (lv_at hl 4 rfl) ?_
    refine lv_bipush (v := 12) hx hb dX7_listDay_12 (by decide) ?_
    refine lv_icmp_ge (tgt := 75) hx hb dX7_listDay_14 (by decide) (fun c_2 => ?_) (fun c_2 => ?_)
    · have hm := (if_pos c_2).symm.trans hm
      exact h0 _ _ _ _ hm hP hS (lv_sub hl [] rfl)
    · have hm := (if_neg c_2).symm.trans hm
      refine lv_aload_n hx hb dX7_listDay_17 rfl (lv_at hl 0 rfl) ?_
      refine gC_cal_listedCount X kw196 hP dX7_listDay_18 ?_
      refine lv_sipush (v := 300) hx hb dX7_listDay_21 (by decide) ?_
      refine lv_icmp_ge (tgt := 75) hx hb dX7_listDay_24 (by decide) (fun c_3 => ?_) (fun c_3 => ?_)
      · have hm := (if_pos c_3).symm.trans hm
        exact h0 _ _ _ _ hm hP hS (lv_sub hl [] rfl)
      · have hm := (if_neg c_3).symm.trans hm
        refine lv_aload_n hx hb dX7_listDay_27 rfl (lv_at hl 0 rfl) ?_
        refine lv_iload hx hb dX7_listDay_28 (lv_at hl 4 rfl) ?_
        refine lv_iload_n hx hb dX7_listDay_30 rfl (lv_at hl 1 rfl) ?_
        obtain ⟨r_4, e_4, hm⟩ := bd1_s hm
        refine goV_i (n := 2) (C := RX7) X (cQ7_daysOfThing e_4) (gV kw721 kw723 ks_yX7_daysOfThing kw1 kw724) (by decide +kernel) ⟨by decide, by decide⟩ (rc_cal hK hP) hP (dZ (q1 := q) hD) hS rfl rfl hl.1 (Nat.le_of_ble_eq_true rfl) dX7_listDay_31 ⟨Nat.le_refl _, Nat.le_refl _⟩ (fun H locs hP _ hS => ?_)
        refine lv_iconst (v := 1) hx hb dX7_listDay_34 (by decide) ?_
        refine lv_iload_n hx hb dX7_listDay_35 rfl (lv_at hl 2 rfl) ?_
        refine lv_ishl hx hb dX7_listDay_36 ?_
        refine lv_iand hx hb dX7_listDay_37 ?_
        refine lv_if_eq (tgt := 69) hx hb dX7_listDay_38 (by decide) (fun c_5 => ?_) (fun c_5 => ?_)
        · have hm := (if_pos c_5).symm.trans hm
          refine lv_iinc (v := (x5 + 1)) (lv' := [(5, .int (x5 + 1)), (0, .ref (a 0)), (1, .int x1), (2, .int x2), (3, .long x3)]) hx hb dX7_listDay_69 hl (k := 4) rfl (by first | rfl | decide) (by decide) rfl (fun ls hl => ?_)
          refine lv_goto (tgt := 10) hx hb dX7_listDay_72 (by decide) ?_
          exact ih _ _ _ _ _ _ _ _ hm hP hS (lv_sub hl [1, 2, 3, 4, 0] rfl)
        · have hm := (if_neg c_5).symm.trans hm
          refine lv_aload_n hx hb dX7_listDay_41 rfl (lv_at hl 0 rfl) ?_
          refine gC_cal_listed X kw195 hP dX7_listDay_42 ?_
          refine lv_aload_n hx hb dX7_listDay_45 rfl (lv_at hl 0 rfl) ?_
          refine gC_cal_listedCount X kw196 hP dX7_listDay_46 ?_
          refine lv_ldc2 (v := 16) hx hb hown (hts _ (List.mem_cons_of_mem _ kw733)) dX7_listDay_49 ?_
          refine lv_lload_n hx hb dX7_listDay_52 rfl (lv_at hl 3 rfl) ?_
          refine lv_lmul hx hb dX7_listDay_53 ?_
          refine lv_iload hx hb dX7_listDay_54 (lv_at hl 4 rfl) ?_
          refine lv_i2l (v := (Int32.toInt64 x5)) hx hb dX7_listDay_56 rfl ?_
          refine lv_ladd hx hb dX7_listDay_57 ?_
          obtain ⟨hi_6, hm⟩ := gi_s hm
          refine stC_listed X hP (dZ (q1 := q) hD) hS hi_6 dX7_listDay_58 (fun H locs hP hS => ?_)
          have hP : va_P (DD G) vwCl (wZ G a z (s4L q 12 (r4S q 1) ((16 * x3) + (Int32.toInt64 x5)))) H := hP
          refine lv_aload_n hx hb dX7_listDay_59 rfl (lv_at hl 0 rfl) ?_
          refine lv_dup hx hb dX7_listDay_60 rfl ?_
          refine gC_cal_listedCount X kw196 hP dX7_listDay_61 ?_
          refine lv_iconst (v := 1) hx hb dX7_listDay_64 (by decide) ?_
          refine lv_iadd hx hb dX7_listDay_65 ?_
          refine pC_cal_listedCount X kw196 hP (dZ (q1 := (s4L q 12 (r4S q 1) ((16 * x3) + (Int32.toInt64 x5)))) hD) hS dX7_listDay_66 (fun H locs hP hS => ?_)
          have hP : va_P (DD G) vwCl (wZ G a z (s4S (s4L q 12 (r4S q 1) ((16 * x3) + (Int32.toInt64 x5))) 1 ((r4S (s4L q 12 (r4S q 1) ((16 * x3) + (Int32.toInt64 x5))) 1) + 1))) H := hP
          refine lv_iinc (v := (x5 + 1)) (lv' := [(5, .int (x5 + 1)), (0, .ref (a 0)), (1, .int x1), (2, .int x2), (3, .long x3)]) hx hb dX7_listDay_69 hl (k := 4) rfl (by first | rfl | decide) (by decide) rfl (fun ls hl => ?_)
          refine lv_goto (tgt := 10) hx hb dX7_listDay_72 (by decide) ?_
          exact ih _ _ _ _ _ _ _ _ hm hP hS (lv_sub hl [1, 2, 3, 4, 0] rfl)
set_option maxHeartbeats 4000000 in
set_option maxRecDepth 100000 in
theorem cQ7_listDay {l : Launch} {G : Ev} {a : Nat → Nat} {z : Pc4} {n : Nat} {q : Pc4} {x1 : Int32} {x2 : Int32} {q' : Pc4} (hm : moQ7_listDay n z x1 x2 q = some q') : CtV l G yX7_listDay cX7_listDay 6 none 2 44 0 0 [.ref (a 0), .int x1, .int x2] (wZ G a z q) (wZ G a z q') := by
  intro sz
  refine enter (by decide) (Nat.le_of_ble_eq_true rfl) ?_
  intro p e s m args below meth c ls X hsz hP hD hS hl
  subst hsz
  obtain ⟨⟨hx, hb, hml, hown, hts⟩, hK, hr, hlk, hA, hAs, hSta⟩ := id X
  have hl : lv_has ls 6 [(0, .ref (a 0)), (1, .int x1), (2, .int x2)] := hl
  unfold moQ7_listDay at hm
  refine lv_iload_n hx hb dX7_listDay_0 rfl (lv_at hl 1 rfl) ?_
  refine lv_iload_n hx hb dX7_listDay_1 rfl (lv_at hl 2 rfl) ?_
  obtain ⟨r_1, e_1, hm⟩ := bd1_s hm
  refine goT_i (n := 2) X (cQ0_dateAt e_1) (gSx kw690 kw691 kw2 kw692) (by decide +kernel) ⟨by decide, by decide⟩ va_nil va_dnil hS rfl rfl hl.1 (Nat.le_of_ble_eq_true rfl) dX7_listDay_2 ⟨Nat.le_refl _, Nat.le_refl _⟩ (fun H locs _ hk hS => ?_)
  have hP := va_keep hP hk
  refine lv_i2l (v := (Int32.toInt64 r_1)) hx hb dX7_listDay_5 rfl ?_
  refine lv_lstore_n (lv' := [(3, .long (Int32.toInt64 r_1)), (0, .ref (a 0)), (1, .int x1), (2, .int x2)]) hx hb dX7_listDay_6 rfl hl (by decide) rfl (fun ls hl => ?_)
  refine lv_iconst (v := 0) hx hb dX7_listDay_7 (by decide) ?_
  refine lv_istore (lv' := [(5, .int 0), (3, .long (Int32.toInt64 r_1)), (0, .ref (a 0)), (1, .int x1), (2, .int x2)]) hx hb dX7_listDay_8 hl (by decide) rfl (fun ls hl => ?_)
  refine lpQ7_listDay_10 X hD (fun q_7 H locs ls hm hP hS hl => ?_) n _ _ _ _ _ _ _ _ hm hP hS (lv_sub hl [2, 3, 4, 1, 0] rfl)
  exact ret_v (wf := wZ G a z) X hm hP hS dX7_listDay_75

-- RuledCalendar.listMonth
def moQ7_listMonth_L8 {α : Type} (n : Nat) (z : Pc4) (K0 : Pc4 → Option α) : Nat → Int32 → Int32 → Int32 → Pc4 → Option α
  | 0, _, _, _, _ => none
  | k + 1, x1, x3, x4, q => (if x4 ≤ 0 then (K0 q) else (bd1 (moQJ6_numberOfTrailingZeros_0f7a4 n x3) fun r_3 => (bd1 (moQ7_listDay n z x1 r_3 q) fun q_4 => (moQ7_listMonth_L8 n z K0 k x1 (x3 &&& (x3 - 1)) (x4 + (-1)) q_4))))
def moQ7_listMonth (n : Nat) (z : Pc4) (x1 : Int32) (x2 : Int32) (q : Pc4) : Option (Pc4) :=
  (bd1 (moQJ6_bitCount_0f7a4 n x2) fun r_1 => (moQ7_listMonth_L8 n z (fun q_5 => (some q_5)) n x1 x2 r_1 q))
set_option maxHeartbeats 4000000 in
set_option maxRecDepth 100000 in
theorem lpQ7_listMonth_8 {p : Program} {l : Launch} {e : Env} {s : State} {m : MethodId} {args : Array Value} {below : List Frame} {meth : Method} {c : Code} {G : Ev} {a : Nat → Nat} {z : Pc4} {Q : State → Prop} {A : Nat → Prop} {q0 : Pc4} (X : CX p s m args meth c cX7_listMonth 5 none RX7 (.code yX7_listMonth cX7_listMonth 5 none) G A) (hD : va_D A (wZ G a z q0)) {α : Type} {o : α} {n : Nat} {K0 : Pc4 → Option α} (h0 : ∀ (q : Pc4) (H : Heap) (locs : List Loc) (ls : Array Slot), K0 q = some o → va_P (DD G) vwCl (wZ G a z q) H → va_S A s.heap H locs → lv_has ls 5 [] → W p l e { frames := 3, cells := 0, slots := 0, locals := 69 } s m args below meth c H locs 0 0 Q (F0 m 34 ls [])) : ∀ (k : Nat) (x1 : Int32) (x3 : Int32) (x4 : Int32) (q : Pc4) (H : Heap) (locs : List Loc) (ls : Array Slot), moQ7_listMonth_L8 n z K0 k x1 x3 x4 q = some o → va_P (DD G) vwCl (wZ G a z q) H → va_S A s.heap H locs → lv_has ls 5 [(0, .ref (a 0)), (1, .int x1), (3, .int x3), (4, .int x4)] → W p l e { frames := 3, cells := 0, slots := 0, locals := 69 } s m args below meth c H locs 0 0 Q (F0 m 8 ls []) := by
  obtain ⟨⟨hx, hb, hml, hown, hts⟩, hK, hr, hlk, hA, hAs, hSta⟩ := id X
  intro k
  induction k with
  | zero =>
    intro x1 x3 x4 q H locs ls hm
    have hm : none = some o := hm
    cases hm
  | succ k ih =>
    intro x1 x3 x4 q H locs ls hm hP hS hl
    rw [moQ7_listMonth_L8] at hm
    refine lv_iload hx hb dX7_listMonth_8 (lv_at hl 3 rfl) ?_
    refine lv_if_le (tgt := 34) hx hb dX7_listMonth_10 (by decide) (fun c_2 => ?_) (fun c_2 => ?_)
    · have hm := (if_pos c_2).symm.trans hm
      exact h0 _ _ _ _ hm hP hS (lv_sub hl [] rfl)
    · have hm := (if_neg c_2).symm.trans hm
      refine lv_aload_n hx hb dX7_listMonth_13 rfl (lv_at hl 0 rfl) ?_
      refine lv_iload_n hx hb dX7_listMonth_14 rfl (lv_at hl 1 rfl) ?_
      refine lv_iload_n hx hb dX7_listMonth_15 rfl (lv_at hl 2 rfl) ?_
      obtain ⟨r_3, e_3, hm⟩ := bd1_s hm
      refine goT_i (n := 1) X (cQJ6_numberOfTrailingZeros_0f7a4 e_3) (gSx kw689 kw596 kw21 kw597) (by decide +kernel) ⟨by decide, by decide⟩ va_nil va_dnil hS rfl rfl hl.1 (Nat.le_of_ble_eq_true rfl) dX7_listMonth_16 ⟨Nat.le_refl _, Nat.le_refl _⟩ (fun H locs _ hk hS => ?_)
      have hP := va_keep hP hk
      obtain ⟨q_4, e_4, hm⟩ := bd1_s hm
      refine goV_v (n := 2) (C := RX7) X (cQ7_listDay e_4) (gV kw729 kw731 ks_yX7_listDay kw1 kw732) (by decide +kernel) ⟨by decide, by decide⟩ (rc_cal hK hP) hP (dZ (q1 := q) hD) hS rfl rfl hl.1 (Nat.le_of_ble_eq_true rfl) dX7_listMonth_19 ⟨Nat.le_refl _, Nat.le_refl _⟩ (fun H locs hP _ hS => ?_)
      refine lv_iload_n hx hb dX7_listMonth_22 rfl (lv_at hl 2 rfl) ?_
      refine lv_iload_n hx hb dX7_listMonth_23 rfl (lv_at hl 2 rfl) ?_
      refine lv_iconst (v := 1) hx hb dX7_listMonth_24 (by decide) ?_
      refine lv_isub hx hb dX7_listMonth_25 ?_
      refine lv_iand hx hb dX7_listMonth_26 ?_
      refine lv_istore_n (lv' := [(3, .int (x3 &&& (x3 - 1))), (0, .ref (a 0)), (1, .int x1), (4, .int x4)]) hx hb dX7_listMonth_27 rfl hl (by decide) rfl (fun ls hl => ?_)
      refine lv_iinc (v := (x4 + (-1))) (lv' := [(4, .int (x4 + (-1))), (3, .int (x3 &&& (x3 - 1))), (0, .ref (a 0)), (1, .int x1)]) hx hb dX7_listMonth_28 hl (k := 3) rfl (by first | rfl | decide) (by decide) rfl (fun ls hl => ?_)
      refine lv_goto (tgt := 8) hx hb dX7_listMonth_31 (by decide) ?_
      exact ih _ _ _ _ _ _ _ hm hP hS (lv_sub hl [2, 3, 1, 0] rfl)
set_option maxHeartbeats 4000000 in
set_option maxRecDepth 100000 in
theorem cQ7_listMonth {l : Launch} {G : Ev} {a : Nat → Nat} {z : Pc4} {n : Nat} {q : Pc4} {x1 : Int32} {x2 : Int32} {q' : Pc4} (hm : moQ7_listMonth n z x1 x2 q = some q') : CtV l G yX7_listMonth cX7_listMonth 5 none 3 69 0 0 [.ref (a 0), .int x1, .int x2] (wZ G a z q) (wZ G a z q') := by
  intro sz
  refine enter (by decide) (Nat.le_of_ble_eq_true rfl) ?_
  intro p e s m args below meth c ls X hsz hP hD hS hl
  subst hsz
  obtain ⟨⟨hx, hb, hml, hown, hts⟩, hK, hr, hlk, hA, hAs, hSta⟩ := id X
  have hl : lv_has ls 5 [(0, .ref (a 0)), (1, .int x1), (2, .int x2)] := hl
  unfold moQ7_listMonth at hm
  refine lv_iload_n hx hb dX7_listMonth_0 rfl (lv_at hl 2 rfl) ?_
  refine lv_istore_n (lv' := [(3, .int x2), (0, .ref (a 0)), (1, .int x1), (2, .int x2)]) hx hb dX7_listMonth_1 rfl hl (by decide) rfl (fun ls hl => ?_)
  refine lv_iload_n hx hb dX7_listMonth_2 rfl (lv_at hl 3 rfl) ?_
  obtain ⟨r_1, e_1, hm⟩ := bd1_s hm
  refine goT_i (n := 1) X (cQJ6_bitCount_0f7a4 e_1) (gSx kw700 kw590 kw21 kw591) (by decide +kernel) ⟨by decide, by decide⟩ va_nil va_dnil hS rfl rfl hl.1 (Nat.le_of_ble_eq_true rfl) dX7_listMonth_3 ⟨Nat.le_refl _, Nat.le_refl _⟩ (fun H locs _ hk hS => ?_)
  have hP := va_keep hP hk
  refine lv_istore (lv' := [(4, .int r_1), (3, .int x2), (0, .ref (a 0)), (1, .int x1), (2, .int x2)]) hx hb dX7_listMonth_6 hl (by decide) rfl (fun ls hl => ?_)
  refine lpQ7_listMonth_8 X hD (fun q_5 H locs ls hm hP hS hl => ?_) n _ _ _ _ _ _ _ hm hP hS (lv_sub hl [2, 3, 1, 0] rfl)
  exact ret_v (wf := wZ G a z) X hm hP hS dX7_listMonth_34

-- RuledCalendar.countThings
def moQ7_countThings_L29 {α : Type} (n : Nat) (z : Pc4) (K0 : Int32 → Int32 → Int32 → Pc4 → Option α) : Nat → Int32 → Int32 → Int32 → Int32 → Int32 → Pc4 → Option α
  | 0, _, _, _, _, _, _ => none
  | k + 1, x1, x2, x3, x4, x5, q => (if 4 ≤ x5 then (K0 x1 x2 x3 q) else (gi x5 4 (gi x5 4 (gi x5 4 (moQ7_countThings_L29 n z K0 k x1 x2 x3 ((r4A q 13 x5) &&& x4) (x5 + 1) (s4A q 13 x5 ((r4A q 13 x5) ^^^ x4)))))))
def moQ7_countThings_L10 {α : Type} (n : Nat) (z : Pc4) (K0 : Pc4 → Option α) : Nat → Int32 → Int32 → Int32 → Pc4 → Option α
  | 0, _, _, _, _ => none
  | k + 1, x1, x2, x3, q => (if 12 ≤ x3 then (K0 q) else (bd1 (moQ7_daysOfThing n z x3 x1 q) fun r_3 => (moQ7_countThings_L29 n z (fun z8_1 z8_2 z8_3 q_8 => (moQ7_countThings_L10 n z K0 k z8_1 z8_2 (z8_3 + 1) q_8)) n x1 x2 x3 (r_3 &&& x2) 0 q)))
def moQ7_countThings (n : Nat) (z : Pc4) (x1 : Int32) (x2 : Int32) (q : Pc4) : Option (Pc4) :=
  (bd1 (moQJ7_fill_53178 n 4 0 (q.2.1 13)) fun f_1 => (moQ7_countThings_L10 n z (fun q_9 => (some q_9)) n x1 x2 0 (s4F q 13 f_1)))
set_option maxHeartbeats 4000000 in
set_option maxRecDepth 100000 in
theorem lpQ7_countThings_29 {p : Program} {l : Launch} {e : Env} {s : State} {m : MethodId} {args : Array Value} {below : List Frame} {meth : Method} {c : Code} {G : Ev} {a : Nat → Nat} {z : Pc4} {Q : State → Prop} {A : Nat → Prop} {q0 : Pc4} (X : CX p s m args meth c cX7_countThings 7 none RX7 (.code yX7_countThings cX7_countThings 7 none) G A) (hD : va_D A (wZ G a z q0)) {α : Type} {o : α} {n : Nat} {K0 : Int32 → Int32 → Int32 → Pc4 → Option α} (h0 : ∀ (y1 : Int32) (y2 : Int32) (y3 : Int32) (q : Pc4) (H : Heap) (locs : List Loc) (ls : Array Slot), K0 y1 y2 y3 q = some o → va_P (DD G) vwCl (wZ G a z q) H → va_S A s.heap H locs → lv_has ls 7 [(0, .ref (a 0)), (1, .int y1), (2, .int y2), (3, .int y3)] → W p l e { frames := 2, cells := 0, slots := 0, locals := 44 } s m args below meth c H locs 0 0 Q (F0 m 69 ls [])) : ∀ (k : Nat) (x1 : Int32) (x2 : Int32) (x3 : Int32) (x4 : Int32) (x5 : Int32) (q : Pc4) (H : Heap) (locs : List Loc) (ls : Array Slot), moQ7_countThings_L29 n z K0 k x1 x2 x3 x4 x5 q = some o → va_P (DD G) vwCl (wZ G a z q) H → va_S A s.heap H locs → lv_has ls 7 [(0, .ref (a 0)), (1, .int x1), (2, .int x2), (3, .int x3), (4, .int x4), (5, .int x5)] → W p l e { frames := 2, cells := 0, slots := 0, locals := 44 } s m args below meth c H locs 0 0 Q (F0 m 29 ls []) := by
  obtain ⟨⟨hx, hb, hml, hown, hts⟩, hK, hr, hlk, hA, hAs, hSta⟩ := id X
  intro k
  induction k with
  | zero =>
    intro x1 x2 x3 x4 x5 q H locs ls hm
    have hm : none = some o := hm
    cases hm
  | succ k ih =>
    intro x1 x2 x3 x4 x5 q H locs ls hm hP hS hl
    rw [moQ7_countThings_L29] at hm
    refine lv_iload hx hb dX7_countThings_29 (lv_at hl 5 rfl) ?_
    refine lv_iconst (v := 4) hx hb dX7_countThings_31 (by decide) ?_
    refine lv_icmp_ge (tgt := 69) hx hb dX7_countThings_32 (by decide) (fun c_4 => ?_) (fun c_4 => ?_)
    · have hm := (if_pos c_4).symm.trans hm
      exact h0 _ _ _ _ _ _ _ hm hP hS (lv_sub hl [0, 1, 2, 3] rfl)
    · have hm := (if_neg c_4).symm.trans hm
      refine lv_aload_n hx hb dX7_countThings_35 rfl (lv_at hl 0 rfl) ?_
      refine gC_cal_counts X kw197 hP dX7_countThings_36 ?_
      refine lv_iload hx hb dX7_countThings_39 (lv_at hl 5 rfl) ?_
      obtain ⟨hi_5, hm⟩ := gi_s hm
      refine ldC_counts X hP hi_5 dX7_countThings_41 ?_
      refine lv_iload hx hb dX7_countThings_42 (lv_at hl 4 rfl) ?_
      refine lv_iand hx hb dX7_countThings_44 ?_
      refine lv_istore (lv' := [(6, .int ((r4A q 13 x5) &&& x4)), (0, .ref (a 0)), (1, .int x1), (2, .int x2), (3, .int x3), (4, .int x4), (5, .int x5)]) hx hb dX7_countThings_45 hl (by decide) rfl (fun ls hl => ?_)
      refine lv_aload_n hx hb dX7_countThings_47 rfl (lv_at hl 1 rfl) ?_
      refine gC_cal_counts X kw197 hP dX7_countThings_48 ?_
      refine lv_iload hx hb dX7_countThings_51 (lv_at hl 6 rfl) ?_
      refine lv_dup2_11 hx hb dX7_countThings_53 rfl rfl ?_
      obtain ⟨hi_6, hm⟩ := gi_s hm
      refine ldC_counts X hP hi_6 dX7_countThings_54 ?_
      refine lv_iload hx hb dX7_countThings_55 (lv_at hl 5 rfl) ?_
      refine lv_ixor hx hb dX7_countThings_57 ?_
      obtain ⟨hi_7, hm⟩ := gi_s hm
      refine stC_counts X hP (dZ (q1 := q) hD) hS hi_7 dX7_countThings_58 (fun H locs hP hS => ?_)
      have hP : va_P (DD G) vwCl (wZ G a z (s4A q 13 x5 ((r4A q 13 x5) ^^^ x4))) H := hP
      refine lv_iload hx hb dX7_countThings_59 (lv_at hl 0 rfl) ?_
      refine lv_istore (lv' := [(4, .int ((r4A q 13 x5) &&& x4)), (6, .int ((r4A q 13 x5) &&& x4)), (0, .ref (a 0)), (1, .int x1), (2, .int x2), (3, .int x3), (5, .int x5)]) hx hb dX7_countThings_61 hl (by decide) rfl (fun ls hl => ?_)
      refine lv_iinc (v := (x5 + 1)) (lv' := [(5, .int (x5 + 1)), (4, .int ((r4A q 13 x5) &&& x4)), (6, .int ((r4A q 13 x5) &&& x4)), (0, .ref (a 0)), (1, .int x1), (2, .int x2), (3, .int x3)]) hx hb dX7_countThings_63 hl (k := 6) rfl (by first | rfl | decide) (by decide) rfl (fun ls hl => ?_)
      refine lv_goto (tgt := 29) hx hb dX7_countThings_66 (by decide) ?_
      exact ih _ _ _ _ _ _ _ _ _ hm hP hS (lv_sub hl [3, 4, 5, 6, 1, 0] rfl)
set_option maxHeartbeats 4000000 in
set_option maxRecDepth 100000 in
theorem lpQ7_countThings_10 {p : Program} {l : Launch} {e : Env} {s : State} {m : MethodId} {args : Array Value} {below : List Frame} {meth : Method} {c : Code} {G : Ev} {a : Nat → Nat} {z : Pc4} {Q : State → Prop} {A : Nat → Prop} {q0 : Pc4} (X : CX p s m args meth c cX7_countThings 7 none RX7 (.code yX7_countThings cX7_countThings 7 none) G A) (hD : va_D A (wZ G a z q0)) {α : Type} {o : α} {n : Nat} {K0 : Pc4 → Option α} (h0 : ∀ (q : Pc4) (H : Heap) (locs : List Loc) (ls : Array Slot), K0 q = some o → va_P (DD G) vwCl (wZ G a z q) H → va_S A s.heap H locs → lv_has ls 7 [] → W p l e { frames := 2, cells := 0, slots := 0, locals := 44 } s m args below meth c H locs 0 0 Q (F0 m 75 ls [])) : ∀ (k : Nat) (x1 : Int32) (x2 : Int32) (x3 : Int32) (q : Pc4) (H : Heap) (locs : List Loc) (ls : Array Slot), moQ7_countThings_L10 n z K0 k x1 x2 x3 q = some o → va_P (DD G) vwCl (wZ G a z q) H → va_S A s.heap H locs → lv_has ls 7 [(0, .ref (a 0)), (1, .int x1), (2, .int x2), (3, .int x3)] → W p l e { frames := 2, cells := 0, slots := 0, locals := 44 } s m args below meth c H locs 0 0 Q (F0 m 10 ls []) := by
  obtain ⟨⟨hx, hb, hml, hown, hts⟩, hK, hr, hlk, hA, hAs, hSta⟩ := id X
  intro k
  induction k with
  | zero =>
    intro x1 x2 x3 q H locs ls hm
    have hm : none = some o := hm
    cases hm
  | succ k ih =>
    intro x1 x2 x3 q H locs ls hm hP hS hl
    rw [moQ7_countThings_L10] at hm
    refine lv_iload_n hx hb dX7_countThings_10 rfl (lv_at hl 3 rfl) ?_
    refine lv_bipush (v := 12) hx hb dX7_countThings_11 (by decide) ?_
    refine lv_icmp_ge (tgt := 75) hx hb dX7_countThings_13 (by decide) (fun c_2 => ?_) (fun c_2 => ?_)
    · have hm := (if_pos c_2).symm.trans hm
      exact h0 _ _ _ _ hm hP hS (lv_sub hl [] rfl)
    · have hm := (if_neg c_2).symm.trans hm
      refine lv_aload_n hx hb dX7_countThings_16 rfl (lv_at hl 0 rfl) ?_
      refine lv_iload_n hx hb dX7_countThings_17 rfl (lv_at hl 3 rfl) ?_
      refine lv_iload_n hx hb dX7_countThings_18 rfl (lv_at hl 1 rfl) ?_
      obtain ⟨r_3, e_3, hm⟩ := bd1_s hm
      refine goV_i (n := 2) (C := RX7) X (cQ7_daysOfThing e_3) (gV kw721 kw723 ks_yX7_daysOfThing kw1 kw724) (by decide +kernel) ⟨by decide, by decide⟩ (rc_cal hK hP) hP (dZ (q1 := q) hD) hS rfl rfl hl.1 (Nat.le_of_ble_eq_true rfl) dX7_countThings_19 ⟨Nat.le_refl _, Nat.le_refl _⟩ (fun H locs hP _ hS => ?_)
      refine lv_iload_n hx hb dX7_countThings_22 rfl (lv_at hl 2 rfl) ?_
      refine lv_iand hx hb dX7_countThings_23 ?_
      refine lv_istore (lv' := [(4, .int (r_3 &&& x2)), (0, .ref (a 0)), (1, .int x1), (2, .int x2), (3, .int x3)]) hx hb dX7_countThings_24 hl (by decide) rfl (fun ls hl => ?_)
      refine lv_iconst (v := 0) hx hb dX7_countThings_26 (by decide) ?_
      refine lv_istore (lv' := [(5, .int 0), (4, .int (r_3 &&& x2)), (0, .ref (a 0)), (1, .int x1), (2, .int x2), (3, .int x3)]) hx hb dX7_countThings_27 hl (by decide) rfl (fun ls hl => ?_)
      refine lpQ7_countThings_29 X hD (fun z8_1 z8_2 z8_3 q_8 H locs ls hm hP hS hl => ?_) n _ _ _ _ _ _ _ _ _ hm hP hS (lv_sub hl [2, 3, 4, 5, 1, 0] rfl)
      refine lv_iinc (v := (z8_3 + 1)) (lv' := [(3, .int (z8_3 + 1)), (0, .ref (a 0)), (1, .int z8_1), (2, .int z8_2)]) hx hb dX7_countThings_69 hl (k := 3) rfl (by first | rfl | decide) (by decide) rfl (fun ls hl => ?_)
      refine lv_goto (tgt := 10) hx hb dX7_countThings_72 (by decide) ?_
      exact ih _ _ _ _ _ _ _ hm hP hS (lv_sub hl [1, 2, 3, 0] rfl)
set_option maxHeartbeats 4000000 in
set_option maxRecDepth 100000 in
theorem cQ7_countThings {l : Launch} {G : Ev} {a : Nat → Nat} {z : Pc4} {n : Nat} {q : Pc4} {x1 : Int32} {x2 : Int32} {q' : Pc4} (hm : moQ7_countThings n z x1 x2 q = some q') : CtV l G yX7_countThings cX7_countThings 7 none 2 44 0 0 [.ref (a 0), .int x1, .int x2] (wZ G a z q) (wZ G a z q') := by
  intro sz
  refine enter (by decide) (Nat.le_of_ble_eq_true rfl) ?_
  intro p e s m args below meth c ls X hsz hP hD hS hl
  subst hsz
  obtain ⟨⟨hx, hb, hml, hown, hts⟩, hK, hr, hlk, hA, hAs, hSta⟩ := id X
  have hl : lv_has ls 7 [(0, .ref (a 0)), (1, .int x1), (2, .int x2)] := hl
  unfold moQ7_countThings at hm
  refine lv_aload_n hx hb dX7_countThings_0 rfl (lv_at hl 0 rfl) ?_
  refine gC_cal_counts X kw197 hP dX7_countThings_1 ?_
  refine lv_iconst (v := 0) hx hb dX7_countThings_4 (by decide) ?_
  obtain ⟨f_1, e_1, hm⟩ := bd1_s hm
  refine goT_v (n := 2) X (cQJ7_fill_53178 (a0 := a 13) e_1) (gSx kw752 kw512 kw6 kw513) (by decide +kernel) ⟨by decide, by decide⟩ (hP.sub (ws' := (wAI G (a 13) 4 (q.2.1 13))) [13] rfl) (va_D.sub (dZ (q1 := q) hD) (ws' := (wAI G (a 13) 4 (q.2.1 13))) [13] (by decide) rfl) hS rfl rfl hl.1 (Nat.le_of_ble_eq_true rfl) dX7_countThings_5 ⟨Nat.le_refl _, Nat.le_refl _⟩ (fun H locs hP1 hk hS => ?_)
  have hP : va_P (DD G) vwCl (wZ G a z (s4F q 13 f_1)) H := va_set1 (p := 13) hP (dZ (q1 := q) hD) rfl hk hP1
  refine lv_iconst (v := 0) hx hb dX7_countThings_8 (by decide) ?_
  refine lv_istore_n (lv' := [(3, .int 0), (0, .ref (a 0)), (1, .int x1), (2, .int x2)]) hx hb dX7_countThings_9 rfl hl (by decide) rfl (fun ls hl => ?_)
  refine lpQ7_countThings_10 X hD (fun q_9 H locs ls hm hP hS hl => ?_) n _ _ _ _ _ _ _ hm hP hS (lv_sub hl [1, 2, 3, 0] rfl)
  exact ret_v (wf := wZ G a z) X hm hP hS dX7_countThings_75
