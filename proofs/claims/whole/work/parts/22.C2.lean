-- RuledCalendar$Rule.isChosen
def moQ5_isChosen (n : Nat) (x1 : Int32) (x2 : Int32) (q : Pc4) : Option (Int32) :=
  (gi ((366 + x1) + 1) 733 (if (r4A q 7 ((366 + x1) + 1)) = 0 then (gi ((366 + x1) - x2) 733 (if (r4A q 7 ((366 + x1) - x2)) = 0 then (some 0) else (some 1))) else (some 1)))
set_option maxHeartbeats 4000000 in
set_option maxRecDepth 100000 in
theorem cQ5_isChosen {l : Launch} {G : Ev} {a : Nat → Nat} {T : va_W} {n : Nat} {q : Pc4} {x1 : Int32} {x2 : Int32} {r : Int32} (hm : moQ5_isChosen n x1 x2 q = some r) : CtI l G yX5_isChosen cX5_isChosen 3 (some .boolean) 0 0 0 0 [.ref (a 4), .int x1, .int x2] (wC G a T q) (wC G a T q) r := by
  intro sz
  refine enter (by decide) (Nat.le_of_ble_eq_true rfl) ?_
  intro p e s m args below meth c ls X hsz hP hD hS hl
  subst hsz
  obtain ⟨⟨hx, hb, hml, hown, hts⟩, hK, hr, hlk, hA, hAs, hSta⟩ := id X
  have hl : lv_has ls 3 [(0, .ref (a 4)), (1, .int x1), (2, .int x2)] := hl
  unfold moQ5_isChosen at hm
  refine lv_aload_n hx hb dX5_isChosen_0 rfl (lv_at hl 0 rfl) ?_
  refine gC_rule_places X kw98 hP dX5_isChosen_1 ?_
  refine lv_sipush (v := 366) hx hb dX5_isChosen_4 (by decide) ?_
  refine lv_iload_n hx hb dX5_isChosen_7 rfl (lv_at hl 1 rfl) ?_
  refine lv_iadd hx hb dX5_isChosen_8 ?_
  refine lv_iconst (v := 1) hx hb dX5_isChosen_9 (by decide) ?_
  refine lv_iadd hx hb dX5_isChosen_10 ?_
  obtain ⟨hi_1, hm⟩ := gi_s hm
  refine ldC_places X hP hi_1 dX5_isChosen_11 ?_
  refine lv_if_ne (tgt := 30) hx hb dX5_isChosen_12 (by decide) (fun c_2 => ?_) (fun c_2 => ?_)
  · have hm := (if_neg c_2).symm.trans hm
    refine lv_iconst (v := 1) hx hb dX5_isChosen_30 (by decide) ?_
    refine lv_goto (tgt := 35) hx hb dX5_isChosen_31 (by decide) ?_
    exact ret_zo (wf := wC G a T) X (by decide) hm hP hS dX5_isChosen_35
  · have hm := (if_pos c_2).symm.trans hm
    refine lv_aload_n hx hb dX5_isChosen_15 rfl (lv_at hl 0 rfl) ?_
    refine gC_rule_places X kw98 hP dX5_isChosen_16 ?_
    refine lv_sipush (v := 366) hx hb dX5_isChosen_19 (by decide) ?_
    refine lv_iload_n hx hb dX5_isChosen_22 rfl (lv_at hl 1 rfl) ?_
    refine lv_iadd hx hb dX5_isChosen_23 ?_
    refine lv_iload_n hx hb dX5_isChosen_24 rfl (lv_at hl 2 rfl) ?_
    refine lv_isub hx hb dX5_isChosen_25 ?_
    obtain ⟨hi_3, hm⟩ := gi_s hm
    refine ldC_places X hP hi_3 dX5_isChosen_26 ?_
    refine lv_if_eq (tgt := 34) hx hb dX5_isChosen_27 (by decide) (fun c_4 => ?_) (fun c_4 => ?_)
    · have hm := (if_pos c_4).symm.trans hm
      refine lv_iconst (v := 0) hx hb dX5_isChosen_34 (by decide) ?_
      exact ret_zo (wf := wC G a T) X (by decide) hm hP hS dX5_isChosen_35
    · have hm := (if_neg c_4).symm.trans hm
      refine lv_iconst (v := 1) hx hb dX5_isChosen_30 (by decide) ?_
      refine lv_goto (tgt := 35) hx hb dX5_isChosen_31 (by decide) ?_
      exact ret_zo (wf := wC G a T) X (by decide) hm hP hS dX5_isChosen_35

-- RuledCalendar$Rule.goesTogether
def moQ5_goesTogether_B54 (n : Nat) (q : Pc4)  : Option (Int32) :=
  (if (r4S q 10) = 0 then (bd1 (moQ5_has n 6 q) fun r_8 => (if r_8 = 0 then (some 1) else (bd1 (moQ5_has n 4 q) fun r_10 => (if r_10 = 0 then (bd1 (moQ5_has n 5 q) fun r_12 => (if r_12 = 0 then (bd1 (moQ5_has n 7 q) fun r_14 => (if r_14 = 0 then (some 0) else (some 1))) else (some 1))) else (some 1))))) else (gl (r4I q 2) 4 (if (fwho (r4I q 2)) = 0 then (some 0) else (bd1 (moQ5_has n 5 q) fun r_18 => (if r_18 = 0 then (bd1 (moQ5_has n 6 q) fun r_20 => (if r_20 = 0 then (some 1) else (bd1 (moQ5_has n 4 q) fun r_22 => (if r_22 = 0 then (bd1 (moQ5_has n 5 q) fun r_24 => (if r_24 = 0 then (bd1 (moQ5_has n 7 q) fun r_26 => (if r_26 = 0 then (some 0) else (some 1))) else (some 1))) else (some 1))))) else (some 0))))))
def moQ5_goesTogether (n : Nat) (q : Pc4) : Option (Int32) :=
  (bd1 (moQ5_has n 0 q) fun r_1 => (if r_1 = 0 then (some 0) else (bd1 (moQ5_has n 2 q) fun r_3 => (if r_3 = 0 then (bd1 (moQ5_has n 5 q) fun r_5 => (if r_5 = 0 then (moQ5_goesTogether_B54 n q ) else (gl (r4I q 2) 4 (if (r4I q 2) = 1 then (some 0) else (moQ5_goesTogether_B54 n q ))))) else (bd1 (moQ5_has n 3 q) fun r_30 => (if r_30 = 0 then (bd1 (moQ5_has n 5 q) fun r_32 => (if r_32 = 0 then (moQ5_goesTogether_B54 n q ) else (gl (r4I q 2) 4 (if (r4I q 2) = 1 then (some 0) else (moQ5_goesTogether_B54 n q ))))) else (some 0)))))))
set_option maxHeartbeats 4000000 in
set_option maxRecDepth 100000 in
theorem bkQ5_goesTogether_54 {p : Program} {l : Launch} {e : Env} {s : State} {m : MethodId} {args : Array Value} {below : List Frame} {meth : Method} {c : Code} {G : Ev} {a : Nat → Nat} {T : va_W}  {q : Pc4} {L : List Nat} {r : Int32} {n : Nat} {H : Heap} {locs : List Loc} {ls : Array Slot} (X : CX p s m args meth c cX5_goesTogether 1 (some .boolean) RX5 (.code yX5_goesTogether cX5_goesTogether 1 (some .boolean)) G (AL L s.heap.size)) (hD : va_D (AL L s.heap.size) (wC G a T q)) (hm : moQ5_goesTogether_B54 n q  = some r) (hP : va_P (DD G) vwCl (wC G a T q) H) (hS : va_S (AL L s.heap.size) s.heap H locs) (hl : lv_has ls 1 [(0, .ref (a 4))]) : W p l e { frames := 1, cells := 0, slots := 0, locals := 21 } s m args below meth c H locs 0 0 (MQ below (va_Qi (fun r' (_ : Unit) => r' = r) (fun _ t => va_P (DD G) vwCl (wC G a T q) t.heap) (AL L s.heap.size)) args s 0 0 (AL L s.heap.size)) (F0 m 54 ls []) := by
  obtain ⟨⟨hx, hb, hml, hown, hts⟩, hK, hr, hlk, hA, hAs, hSta⟩ := id X
  unfold moQ5_goesTogether_B54 at hm
  refine lv_aload_n hx hb dX5_goesTogether_54 rfl (lv_at hl 0 rfl) ?_
  refine gC_rule_numberedWeekdays X kw92 hP dX5_goesTogether_55 ?_
  refine lv_if_eq (tgt := 83) hx hb dX5_goesTogether_58 (by decide) (fun c_7 => ?_) (fun c_7 => ?_)
  · have hm := (if_pos c_7).symm.trans hm
    refine lv_aload_n hx hb dX5_goesTogether_83 rfl (lv_at hl 0 rfl) ?_
    refine va_gets hx hb (zP_BYSETPOS X) hS hown (hts _ (List.mem_cons_of_mem _ kw472)) (fun _ h => h) dX5_goesTogether_84 ?_
    obtain ⟨r_8, e_8, hm⟩ := bd1_s hm
    refine goV_i (n := 1) (C := RX5) X (cQ5_has e_8) (gV kw479 kw407 kw408 kw3 kw409) (by decide +kernel) ⟨by decide, by decide⟩ (rc_rule hK hP) hP (dC (q1 := q) hD) hS rfl rfl hl.1 (Nat.le_of_ble_eq_true rfl) dX5_goesTogether_87 ⟨Nat.le_refl _, Nat.le_refl _⟩ (fun H locs hP _ hS => ?_)
    refine lv_if_eq (tgt := 123) hx hb dX5_goesTogether_90 (by decide) (fun c_9 => ?_) (fun c_9 => ?_)
    · have hm := (if_pos c_9).symm.trans hm
      refine lv_iconst (v := 1) hx hb dX5_goesTogether_123 (by decide) ?_
      refine lv_goto (tgt := 128) hx hb dX5_goesTogether_124 (by decide) ?_
      exact ret_zo (wf := wC G a T) X (by decide) hm hP hS dX5_goesTogether_128
    · have hm := (if_neg c_9).symm.trans hm
      refine lv_aload_n hx hb dX5_goesTogether_93 rfl (lv_at hl 0 rfl) ?_
      refine va_gets hx hb (zP_BYMONTH X) hS hown (hts _ (List.mem_cons_of_mem _ kw470)) (fun _ h => h) dX5_goesTogether_94 ?_
      obtain ⟨r_10, e_10, hm⟩ := bd1_s hm
      refine goV_i (n := 1) (C := RX5) X (cQ5_has e_10) (gV kw479 kw407 kw408 kw3 kw409) (by decide +kernel) ⟨by decide, by decide⟩ (rc_rule hK hP) hP (dC (q1 := q) hD) hS rfl rfl hl.1 (Nat.le_of_ble_eq_true rfl) dX5_goesTogether_97 ⟨Nat.le_refl _, Nat.le_refl _⟩ (fun H locs hP _ hS => ?_)
      refine lv_if_ne (tgt := 123) hx hb dX5_goesTogether_100 (by decide) (fun c_11 => ?_) (fun c_11 => ?_)
      · have hm := (if_neg c_11).symm.trans hm
        refine lv_iconst (v := 1) hx hb dX5_goesTogether_123 (by decide) ?_
        refine lv_goto (tgt := 128) hx hb dX5_goesTogether_124 (by decide) ?_
        exact ret_zo (wf := wC G a T) X (by decide) hm hP hS dX5_goesTogether_128
      · have hm := (if_pos c_11).symm.trans hm
        refine lv_aload_n hx hb dX5_goesTogether_103 rfl (lv_at hl 0 rfl) ?_
        refine va_gets hx hb (zP_BYMONTHDAY X) hS hown (hts _ (List.mem_cons_of_mem _ kw480)) (fun _ h => h) dX5_goesTogether_104 ?_
        obtain ⟨r_12, e_12, hm⟩ := bd1_s hm
        refine goV_i (n := 1) (C := RX5) X (cQ5_has e_12) (gV kw479 kw407 kw408 kw3 kw409) (by decide +kernel) ⟨by decide, by decide⟩ (rc_rule hK hP) hP (dC (q1 := q) hD) hS rfl rfl hl.1 (Nat.le_of_ble_eq_true rfl) dX5_goesTogether_107 ⟨Nat.le_refl _, Nat.le_refl _⟩ (fun H locs hP _ hS => ?_)
        refine lv_if_ne (tgt := 123) hx hb dX5_goesTogether_110 (by decide) (fun c_13 => ?_) (fun c_13 => ?_)
        · have hm := (if_neg c_13).symm.trans hm
          refine lv_iconst (v := 1) hx hb dX5_goesTogether_123 (by decide) ?_
          refine lv_goto (tgt := 128) hx hb dX5_goesTogether_124 (by decide) ?_
          exact ret_zo (wf := wC G a T) X (by decide) hm hP hS dX5_goesTogether_128
        · have hm := (if_pos c_13).symm.trans hm
          refine lv_aload_n hx hb dX5_goesTogether_113 rfl (lv_at hl 0 rfl) ?_
          refine va_gets hx hb (zP_BYDAY X) hS hown (hts _ (List.mem_cons_of_mem _ kw484)) (fun _ h => h) dX5_goesTogether_114 ?_
          obtain ⟨r_14, e_14, hm⟩ := bd1_s hm
          refine goV_i (n := 1) (C := RX5) X (cQ5_has e_14) (gV kw479 kw407 kw408 kw3 kw409) (by decide +kernel) ⟨by decide, by decide⟩ (rc_rule hK hP) hP (dC (q1 := q) hD) hS rfl rfl hl.1 (Nat.le_of_ble_eq_true rfl) dX5_goesTogether_117 ⟨Nat.le_refl _, Nat.le_refl _⟩ (fun H locs hP _ hS => ?_)
          refine lv_if_eq (tgt := 127) hx hb dX5_goesTogether_120 (by decide) (fun c_15 => ?_) (fun c_15 => ?_)
          · have hm := (if_pos c_15).symm.trans hm
            refine lv_iconst (v := 0) hx hb dX5_goesTogether_127 (by decide) ?_
            exact ret_zo (wf := wC G a T) X (by decide) hm hP hS dX5_goesTogether_128
          · have hm := (if_neg c_15).symm.trans hm
            refine lv_iconst (v := 1) hx hb dX5_goesTogether_123 (by decide) ?_
            refine lv_goto (tgt := 128) hx hb dX5_goesTogether_124 (by decide) ?_
            exact ret_zo (wf := wC G a T) X (by decide) hm hP hS dX5_goesTogether_128
  · have hm := (if_neg c_7).symm.trans hm
    refine lv_aload_n hx hb dX5_goesTogether_61 rfl (lv_at hl 0 rfl) ?_
    refine gC_rule_frequency X kw75 hP dX5_goesTogether_62 ?_
    obtain ⟨hg_16, hm⟩ := gl_s hm
    refine vk_getf hx hb (fF_wholeMonths X hg_16) hS hown (hts _ (List.mem_cons_of_mem _ kw1082)) (fun _ h => h) dX5_goesTogether_65 ?_
    refine lv_if_eq (tgt := 81) hx hb dX5_goesTogether_68 (by decide) (fun c_17 => ?_) (fun c_17 => ?_)
    · have hm := (if_pos c_17).symm.trans hm
      refine lv_iconst (v := 0) hx hb dX5_goesTogether_81 (by decide) ?_
      exact ret_zo (wf := wC G a T) X (by decide) hm hP hS dX5_goesTogether_82
    · have hm := (if_neg c_17).symm.trans hm
      refine lv_aload_n hx hb dX5_goesTogether_71 rfl (lv_at hl 0 rfl) ?_
      refine va_gets hx hb (zP_BYMONTHDAY X) hS hown (hts _ (List.mem_cons_of_mem _ kw480)) (fun _ h => h) dX5_goesTogether_72 ?_
      obtain ⟨r_18, e_18, hm⟩ := bd1_s hm
      refine goV_i (n := 1) (C := RX5) X (cQ5_has e_18) (gV kw479 kw407 kw408 kw3 kw409) (by decide +kernel) ⟨by decide, by decide⟩ (rc_rule hK hP) hP (dC (q1 := q) hD) hS rfl rfl hl.1 (Nat.le_of_ble_eq_true rfl) dX5_goesTogether_75 ⟨Nat.le_refl _, Nat.le_refl _⟩ (fun H locs hP _ hS => ?_)
      refine lv_if_eq (tgt := 83) hx hb dX5_goesTogether_78 (by decide) (fun c_19 => ?_) (fun c_19 => ?_)
      · have hm := (if_pos c_19).symm.trans hm
        refine lv_aload_n hx hb dX5_goesTogether_83 rfl (lv_at hl 0 rfl) ?_
        refine va_gets hx hb (zP_BYSETPOS X) hS hown (hts _ (List.mem_cons_of_mem _ kw472)) (fun _ h => h) dX5_goesTogether_84 ?_
        obtain ⟨r_20, e_20, hm⟩ := bd1_s hm
        refine goV_i (n := 1) (C := RX5) X (cQ5_has e_20) (gV kw479 kw407 kw408 kw3 kw409) (by decide +kernel) ⟨by decide, by decide⟩ (rc_rule hK hP) hP (dC (q1 := q) hD) hS rfl rfl hl.1 (Nat.le_of_ble_eq_true rfl) dX5_goesTogether_87 ⟨Nat.le_refl _, Nat.le_refl _⟩ (fun H locs hP _ hS => ?_)
        refine lv_if_eq (tgt := 123) hx hb dX5_goesTogether_90 (by decide) (fun c_21 => ?_) (fun c_21 => ?_)
        · have hm := (if_pos c_21).symm.trans hm
          refine lv_iconst (v := 1) hx hb dX5_goesTogether_123 (by decide) ?_
          refine lv_goto (tgt := 128) hx hb dX5_goesTogether_124 (by decide) ?_
          exact ret_zo (wf := wC G a T) X (by decide) hm hP hS dX5_goesTogether_128
        · have hm := (if_neg c_21).symm.trans hm
          refine lv_aload_n hx hb dX5_goesTogether_93 rfl (lv_at hl 0 rfl) ?_
          refine va_gets hx hb (zP_BYMONTH X) hS hown (hts _ (List.mem_cons_of_mem _ kw470)) (fun _ h => h) dX5_goesTogether_94 ?_
          obtain ⟨r_22, e_22, hm⟩ := bd1_s hm
          refine goV_i (n := 1) (C := RX5) X (cQ5_has e_22) (gV kw479 kw407 kw408 kw3 kw409) (by decide +kernel) ⟨by decide, by decide⟩ (rc_rule hK hP) hP (dC (q1 := q) hD) hS rfl rfl hl.1 (Nat.le_of_ble_eq_true rfl) dX5_goesTogether_97 ⟨Nat.le_refl _, Nat.le_refl _⟩ (fun H locs hP _ hS => ?_)
          refine lv_if_ne (tgt := 123) hx hb dX5_goesTogether_100 (by decide) (fun c_23 => ?_) (fun c_23 => ?_)
          · have hm := (if_neg c_23).symm.trans hm
            refine lv_iconst (v := 1) hx hb dX5_goesTogether_123 (by decide) ?_
            refine lv_goto (tgt := 128) hx hb dX5_goesTogether_124 (by decide) ?_
            exact ret_zo (wf := wC G a T) X (by decide) hm hP hS dX5_goesTogether_128
          · have hm := (if_pos c_23).symm.trans hm
            refine lv_aload_n hx hb dX5_goesTogether_103 rfl (lv_at hl 0 rfl) ?_
            refine va_gets hx hb (zP_BYMONTHDAY X) hS hown (hts _ (List.mem_cons_of_mem _ kw480)) (fun _ h => h) dX5_goesTogether_104 ?_
            obtain ⟨r_24, e_24, hm⟩ := bd1_s hm
            refine goV_i (n := 1) (C := RX5) X (cQ5_has e_24) (gV kw479 kw407 kw408 kw3 kw409) (by decide +kernel) ⟨by decide, by decide⟩ (rc_rule hK hP) hP (dC (q1 := q) hD) hS rfl rfl hl.1 (Nat.le_of_ble_eq_true rfl) dX5_goesTogether_107 ⟨Nat.le_refl _, Nat.le_refl _⟩ (fun H locs hP _ hS => ?_)
            refine lv_if_ne (tgt := 123) hx hb dX5_goesTogether_110 (by decide) (fun c_25 => ?_) (fun c_25 => ?_)
            · have hm := (if_neg c_25).symm.trans hm
              refine lv_iconst (v := 1) hx hb dX5_goesTogether_123 (by decide) ?_
              refine lv_goto (tgt := 128) hx hb dX5_goesTogether_124 (by decide) ?_
              exact ret_zo (wf := wC G a T) X (by decide) hm hP hS dX5_goesTogether_128
            · have hm := (if_pos c_25).symm.trans hm
              refine lv_aload_n hx hb dX5_goesTogether_113 rfl (lv_at hl 0 rfl) ?_
              refine va_gets hx hb (zP_BYDAY X) hS hown (hts _ (List.mem_cons_of_mem _ kw484)) (fun _ h => h) dX5_goesTogether_114 ?_
              obtain ⟨r_26, e_26, hm⟩ := bd1_s hm
              refine goV_i (n := 1) (C := RX5) X (cQ5_has e_26) (gV kw479 kw407 kw408 kw3 kw409) (by decide +kernel) ⟨by decide, by decide⟩ (rc_rule hK hP) hP (dC (q1 := q) hD) hS rfl rfl hl.1 (Nat.le_of_ble_eq_true rfl) dX5_goesTogether_117 ⟨Nat.le_refl _, Nat.le_refl _⟩ (fun H locs hP _ hS => ?_)
              refine lv_if_eq (tgt := 127) hx hb dX5_goesTogether_120 (by decide) (fun c_27 => ?_) (fun c_27 => ?_)
              · have hm := (if_pos c_27).symm.trans hm
                refine lv_iconst (v := 0) hx hb dX5_goesTogether_127 (by decide) ?_
                exact ret_zo (wf := wC G a T) X (by decide) hm hP hS dX5_goesTogether_128
              · have hm := (if_neg c_27).symm.trans hm
                refine lv_iconst (v := 1) hx hb dX5_goesTogether_123 (by decide) ?_
                refine lv_goto (tgt := 128) hx hb dX5_goesTogether_124 (by decide) ?_
                exact ret_zo (wf := wC G a T) X (by decide) hm hP hS dX5_goesTogether_128
      · have hm := (if_neg c_19).symm.trans hm
        refine lv_iconst (v := 0) hx hb dX5_goesTogether_81 (by decide) ?_
        exact ret_zo (wf := wC G a T) X (by decide) hm hP hS dX5_goesTogether_82
set_option maxHeartbeats 4000000 in
set_option maxRecDepth 100000 in
theorem cQ5_goesTogether {l : Launch} {G : Ev} {a : Nat → Nat} {T : va_W} {n : Nat} {q : Pc4} {r : Int32} (hm : moQ5_goesTogether n q = some r) : CtI l G yX5_goesTogether cX5_goesTogether 1 (some .boolean) 1 21 0 0 [.ref (a 4)] (wC G a T q) (wC G a T q) r := by
  intro sz
  refine enter (by decide) (Nat.le_of_ble_eq_true rfl) ?_
  intro p e s m args below meth c ls X hsz hP hD hS hl
  subst hsz
  obtain ⟨⟨hx, hb, hml, hown, hts⟩, hK, hr, hlk, hA, hAs, hSta⟩ := id X
  have hl : lv_has ls 1 [(0, .ref (a 4))] := hl
  unfold moQ5_goesTogether at hm
  refine lv_aload_n hx hb dX5_goesTogether_0 rfl (lv_at hl 0 rfl) ?_
  refine va_gets hx hb (zP_FREQ X) hS hown (hts _ (List.mem_cons_of_mem _ kw478)) (fun _ h => h) dX5_goesTogether_1 ?_
  obtain ⟨r_1, e_1, hm⟩ := bd1_s hm
  refine goV_i (n := 1) (C := RX5) X (cQ5_has e_1) (gV kw479 kw407 kw408 kw3 kw409) (by decide +kernel) ⟨by decide, by decide⟩ (rc_rule hK hP) hP (dC (q1 := q) hD) hS rfl rfl hl.1 (Nat.le_of_ble_eq_true rfl) dX5_goesTogether_4 ⟨Nat.le_refl _, Nat.le_refl _⟩ (fun H locs hP _ hS => ?_)
  refine lv_if_eq (tgt := 30) hx hb dX5_goesTogether_7 (by decide) (fun c_2 => ?_) (fun c_2 => ?_)
  · have hm := (if_pos c_2).symm.trans hm
    refine lv_iconst (v := 0) hx hb dX5_goesTogether_30 (by decide) ?_
    exact ret_zo (wf := wC G a T) X (by decide) hm hP hS dX5_goesTogether_31
  · have hm := (if_neg c_2).symm.trans hm
    refine lv_aload_n hx hb dX5_goesTogether_10 rfl (lv_at hl 0 rfl) ?_
    refine va_gets hx hb (zP_COUNT X) hS hown (hts _ (List.mem_cons_of_mem _ kw467)) (fun _ h => h) dX5_goesTogether_11 ?_
    obtain ⟨r_3, e_3, hm⟩ := bd1_s hm
    refine goV_i (n := 1) (C := RX5) X (cQ5_has e_3) (gV kw479 kw407 kw408 kw3 kw409) (by decide +kernel) ⟨by decide, by decide⟩ (rc_rule hK hP) hP (dC (q1 := q) hD) hS rfl rfl hl.1 (Nat.le_of_ble_eq_true rfl) dX5_goesTogether_14 ⟨Nat.le_refl _, Nat.le_refl _⟩ (fun H locs hP _ hS => ?_)
    refine lv_if_eq (tgt := 32) hx hb dX5_goesTogether_17 (by decide) (fun c_4 => ?_) (fun c_4 => ?_)
    · have hm := (if_pos c_4).symm.trans hm
      refine lv_aload_n hx hb dX5_goesTogether_32 rfl (lv_at hl 0 rfl) ?_
      refine va_gets hx hb (zP_BYMONTHDAY X) hS hown (hts _ (List.mem_cons_of_mem _ kw480)) (fun _ h => h) dX5_goesTogether_33 ?_
      obtain ⟨r_5, e_5, hm⟩ := bd1_s hm
      refine goV_i (n := 1) (C := RX5) X (cQ5_has e_5) (gV kw479 kw407 kw408 kw3 kw409) (by decide +kernel) ⟨by decide, by decide⟩ (rc_rule hK hP) hP (dC (q1 := q) hD) hS rfl rfl hl.1 (Nat.le_of_ble_eq_true rfl) dX5_goesTogether_36 ⟨Nat.le_refl _, Nat.le_refl _⟩ (fun H locs hP _ hS => ?_)
      refine lv_if_eq (tgt := 54) hx hb dX5_goesTogether_39 (by decide) (fun c_6 => ?_) (fun c_6 => ?_)
      · have hm := (if_pos c_6).symm.trans hm
        exact bkQ5_goesTogether_54 X hD hm hP hS (lv_sub hl [0] rfl)
      · have hm := (if_neg c_6).symm.trans hm
        refine lv_aload_n hx hb dX5_goesTogether_42 rfl (lv_at hl 0 rfl) ?_
        refine gC_rule_frequency X kw75 hP dX5_goesTogether_43 ?_
        refine va_gets hx hb (zF_WEEKLY X) hS hown (hts _ (List.mem_cons_of_mem _ kw482)) (fun _ h => h) dX5_goesTogether_46 ?_
        obtain ⟨hg_28, hm⟩ := gl_s hm
        refine acF (tgt := 54) X hg_28 (by decide) dX5_goesTogether_49 (by decide) (fun c_29 => ?_) (fun c_29 => ?_)
        · have hm := (if_neg c_29).symm.trans hm
          exact bkQ5_goesTogether_54 X hD hm hP hS (lv_sub hl [0] rfl)
        · have hm := (if_pos c_29).symm.trans hm
          refine lv_iconst (v := 0) hx hb dX5_goesTogether_52 (by decide) ?_
          exact ret_zo (wf := wC G a T) X (by decide) hm hP hS dX5_goesTogether_53
    · have hm := (if_neg c_4).symm.trans hm
      refine lv_aload_n hx hb dX5_goesTogether_20 rfl (lv_at hl 0 rfl) ?_
      refine va_gets hx hb (zP_UNTIL X) hS hown (hts _ (List.mem_cons_of_mem _ kw469)) (fun _ h => h) dX5_goesTogether_21 ?_
      obtain ⟨r_30, e_30, hm⟩ := bd1_s hm
      refine goV_i (n := 1) (C := RX5) X (cQ5_has e_30) (gV kw479 kw407 kw408 kw3 kw409) (by decide +kernel) ⟨by decide, by decide⟩ (rc_rule hK hP) hP (dC (q1 := q) hD) hS rfl rfl hl.1 (Nat.le_of_ble_eq_true rfl) dX5_goesTogether_24 ⟨Nat.le_refl _, Nat.le_refl _⟩ (fun H locs hP _ hS => ?_)
      refine lv_if_eq (tgt := 32) hx hb dX5_goesTogether_27 (by decide) (fun c_31 => ?_) (fun c_31 => ?_)
      · have hm := (if_pos c_31).symm.trans hm
        refine lv_aload_n hx hb dX5_goesTogether_32 rfl (lv_at hl 0 rfl) ?_
        refine va_gets hx hb (zP_BYMONTHDAY X) hS hown (hts _ (List.mem_cons_of_mem _ kw480)) (fun _ h => h) dX5_goesTogether_33 ?_
        obtain ⟨r_32, e_32, hm⟩ := bd1_s hm
        refine goV_i (n := 1) (C := RX5) X (cQ5_has e_32) (gV kw479 kw407 kw408 kw3 kw409) (by decide +kernel) ⟨by decide, by decide⟩ (rc_rule hK hP) hP (dC (q1 := q) hD) hS rfl rfl hl.1 (Nat.le_of_ble_eq_true rfl) dX5_goesTogether_36 ⟨Nat.le_refl _, Nat.le_refl _⟩ (fun H locs hP _ hS => ?_)
        refine lv_if_eq (tgt := 54) hx hb dX5_goesTogether_39 (by decide) (fun c_33 => ?_) (fun c_33 => ?_)
        · have hm := (if_pos c_33).symm.trans hm
          exact bkQ5_goesTogether_54 X hD hm hP hS (lv_sub hl [0] rfl)
        · have hm := (if_neg c_33).symm.trans hm
          refine lv_aload_n hx hb dX5_goesTogether_42 rfl (lv_at hl 0 rfl) ?_
          refine gC_rule_frequency X kw75 hP dX5_goesTogether_43 ?_
          refine va_gets hx hb (zF_WEEKLY X) hS hown (hts _ (List.mem_cons_of_mem _ kw482)) (fun _ h => h) dX5_goesTogether_46 ?_
          obtain ⟨hg_34, hm⟩ := gl_s hm
          refine acF (tgt := 54) X hg_34 (by decide) dX5_goesTogether_49 (by decide) (fun c_35 => ?_) (fun c_35 => ?_)
          · have hm := (if_neg c_35).symm.trans hm
            exact bkQ5_goesTogether_54 X hD hm hP hS (lv_sub hl [0] rfl)
          · have hm := (if_pos c_35).symm.trans hm
            refine lv_iconst (v := 0) hx hb dX5_goesTogether_52 (by decide) ?_
            exact ret_zo (wf := wC G a T) X (by decide) hm hP hS dX5_goesTogether_53
      · have hm := (if_neg c_31).symm.trans hm
        refine lv_iconst (v := 0) hx hb dX5_goesTogether_30 (by decide) ?_
        exact ret_zo (wf := wC G a T) X (by decide) hm hP hS dX5_goesTogether_31

-- RuledCalendar$Reader.seesLetter
def moQ4_seesLetter (n : Nat) (q : Pc4) : Option (Int32) :=
  (if (r4S q 11) ≤ (r4S q 12) then (some 0) else (ge (r4I q 0) 1 (gi (r4S q 12) 200 (if (r4A q 1 (r4S q 12)) < 65 then (some 0) else (ge (r4I q 0) 1 (gi (r4S q 12) 200 (if 90 < (r4A q 1 (r4S q 12)) then (some 0) else (some 1))))))))
set_option maxHeartbeats 4000000 in
set_option maxRecDepth 100000 in
theorem cQ4_seesLetter {l : Launch} {G : Ev} {a : Nat → Nat} {T : va_W} {n : Nat} {q : Pc4} {r : Int32} (hm : moQ4_seesLetter n q = some r) : CtI l G yX4_seesLetter cX4_seesLetter 1 (some .boolean) 0 0 0 0 [.ref (a 8)] (wC G a T q) (wC G a T q) r := by
  intro sz
  refine enter (by decide) (Nat.le_of_ble_eq_true rfl) ?_
  intro p e s m args below meth c ls X hsz hP hD hS hl
  subst hsz
  obtain ⟨⟨hx, hb, hml, hown, hts⟩, hK, hr, hlk, hA, hAs, hSta⟩ := id X
  have hl : lv_has ls 1 [(0, .ref (a 8))] := hl
  unfold moQ4_seesLetter at hm
  refine lv_aload_n hx hb dX4_seesLetter_0 rfl (lv_at hl 0 rfl) ?_
  refine gC_reader_at X kw137 hP dX4_seesLetter_1 ?_
  refine lv_aload_n hx hb dX4_seesLetter_4 rfl (lv_at hl 0 rfl) ?_
  refine gC_reader_length X kw136 hP dX4_seesLetter_5 ?_
  refine lv_icmp_ge (tgt := 43) hx hb dX4_seesLetter_8 (by decide) (fun c_1 => ?_) (fun c_1 => ?_)
  · have hm := (if_pos c_1).symm.trans hm
    refine lv_iconst (v := 0) hx hb dX4_seesLetter_43 (by decide) ?_
    exact ret_zo (wf := wC G a T) X (by decide) hm hP hS dX4_seesLetter_44
  · have hm := (if_neg c_1).symm.trans hm
    refine lv_aload_n hx hb dX4_seesLetter_11 rfl (lv_at hl 0 rfl) ?_
    refine gC_reader_text X kw135 hP dX4_seesLetter_12 ?_
    refine lv_aload_n hx hb dX4_seesLetter_15 rfl (lv_at hl 0 rfl) ?_
    refine gC_reader_at X kw137 hP dX4_seesLetter_16 ?_
    obtain ⟨hx_3, hm⟩ := ge_s hm
    obtain ⟨hi_2, hm⟩ := gi_s hm
    refine ldC_textx X hx_3 hP hi_2 dX4_seesLetter_19 ?_
    refine lv_bipush (v := 65) hx hb dX4_seesLetter_20 (by decide) ?_
    refine lv_icmp_lt (tgt := 43) hx hb dX4_seesLetter_22 (by decide) (fun c_4 => ?_) (fun c_4 => ?_)
    · have hm := (if_pos c_4).symm.trans hm
      refine lv_iconst (v := 0) hx hb dX4_seesLetter_43 (by decide) ?_
      exact ret_zo (wf := wC G a T) X (by decide) hm hP hS dX4_seesLetter_44
    · have hm := (if_neg c_4).symm.trans hm
      refine lv_aload_n hx hb dX4_seesLetter_25 rfl (lv_at hl 0 rfl) ?_
      refine gC_reader_text X kw135 hP dX4_seesLetter_26 ?_
      refine lv_aload_n hx hb dX4_seesLetter_29 rfl (lv_at hl 0 rfl) ?_
      refine gC_reader_at X kw137 hP dX4_seesLetter_30 ?_
      obtain ⟨hx_6, hm⟩ := ge_s hm
      obtain ⟨hi_5, hm⟩ := gi_s hm
      refine ldC_textx X hx_6 hP hi_5 dX4_seesLetter_33 ?_
      refine lv_bipush (v := 90) hx hb dX4_seesLetter_34 (by decide) ?_
      refine lv_icmp_gt (tgt := 43) hx hb dX4_seesLetter_36 (by decide) (fun c_7 => ?_) (fun c_7 => ?_)
      · have hm := (if_pos c_7).symm.trans hm
        refine lv_iconst (v := 0) hx hb dX4_seesLetter_43 (by decide) ?_
        exact ret_zo (wf := wC G a T) X (by decide) hm hP hS dX4_seesLetter_44
      · have hm := (if_neg c_7).symm.trans hm
        refine lv_iconst (v := 1) hx hb dX4_seesLetter_39 (by decide) ?_
        refine lv_goto (tgt := 44) hx hb dX4_seesLetter_40 (by decide) ?_
        exact ret_zo (wf := wC G a T) X (by decide) hm hP hS dX4_seesLetter_44

-- RuledCalendar$Reader.fail
def moQ4_fail (n : Nat) (x1 : Int32) (x2 : Int32) (q : Pc4) : Option (Pc4) :=
  (if (r4S q 13) = 0 then (some (s4S (s4S q 13 x1) 14 x2)) else (some q))
set_option maxHeartbeats 4000000 in
set_option maxRecDepth 100000 in
theorem cQ4_fail {l : Launch} {G : Ev} {a : Nat → Nat} {T : va_W} {n : Nat} {q : Pc4} {x1 : Int32} {x2 : Int32} {q' : Pc4} (hm : moQ4_fail n x1 x2 q = some q') : CtV l G yX4_fail cX4_fail 3 none 0 0 0 0 [.ref (a 8), .int x1, .int x2] (wC G a T q) (wC G a T q') := by
  intro sz
  refine enter (by decide) (Nat.le_of_ble_eq_true rfl) ?_
  intro p e s m args below meth c ls X hsz hP hD hS hl
  subst hsz
  obtain ⟨⟨hx, hb, hml, hown, hts⟩, hK, hr, hlk, hA, hAs, hSta⟩ := id X
  have hl : lv_has ls 3 [(0, .ref (a 8)), (1, .int x1), (2, .int x2)] := hl
  unfold moQ4_fail at hm
  refine lv_aload_n hx hb dX4_fail_0 rfl (lv_at hl 0 rfl) ?_
  refine gC_reader_faultKind X kw138 hP dX4_fail_1 ?_
  refine lv_if_ne (tgt := 17) hx hb dX4_fail_4 (by decide) (fun c_1 => ?_) (fun c_1 => ?_)
  · have hm := (if_neg c_1).symm.trans hm
    exact ret_v (wf := wC G a T) X hm hP hS dX4_fail_17
  · have hm := (if_pos c_1).symm.trans hm
    refine lv_aload_n hx hb dX4_fail_7 rfl (lv_at hl 0 rfl) ?_
    refine lv_iload_n hx hb dX4_fail_8 rfl (lv_at hl 1 rfl) ?_
    refine pC_reader_faultKind X kw138 hP (dC (q1 := q) hD) hS dX4_fail_9 (fun H locs hP hS => ?_)
    have hP : va_P (DD G) vwCl (wC G a T (s4S q 13 x1)) H := hP
    refine lv_aload_n hx hb dX4_fail_12 rfl (lv_at hl 0 rfl) ?_
    refine lv_iload_n hx hb dX4_fail_13 rfl (lv_at hl 2 rfl) ?_
    refine pC_reader_faultPlace X kw140 hP (dC (q1 := (s4S q 13 x1)) hD) hS dX4_fail_14 (fun H locs hP hS => ?_)
    have hP : va_P (DD G) vwCl (wC G a T (s4S (s4S q 13 x1) 14 x2)) H := hP
    exact ret_v (wf := wC G a T) X hm hP hS dX4_fail_17

-- RuledCalendar$Reader.takeLetters
def moQ4_takeLetters_L7 {α : Type} (n : Nat) (K0 : Int32 → Pc4 → Option α) : Nat → Int32 → Int32 → Int32 → Pc4 → Option α
  | 0, _, _, _, _ => none
  | k + 1, x1, x2, x3, q => (if x1 ≤ x3 then (K0 x2 q) else (bd1 (moQ4_seesLetter n q) fun r_2 => (if r_2 = 0 then (K0 x2 q) else (moQ4_takeLetters_L7 n K0 k x1 x2 (x3 + 1) (s4S q 12 ((r4S q 12) + 1))))))
def moQ4_takeLetters (n : Nat) (x1 : Int32) (q : Pc4) : Option (Int32 × Pc4) :=
  (moQ4_takeLetters_L7 n (fun z4_2 q_4 => (if (r4S q_4 12) = z4_2 then (bd1 (moQ4_fail n 1 (r4S q_4 12) q_4) fun q_6 => (some (z4_2, q_6))) else (some (z4_2, q_4)))) n x1 (r4S q 12) 0 q)
set_option maxHeartbeats 4000000 in
set_option maxRecDepth 100000 in
theorem lpQ4_takeLetters_7 {p : Program} {l : Launch} {e : Env} {s : State} {m : MethodId} {args : Array Value} {below : List Frame} {meth : Method} {c : Code} {G : Ev} {a : Nat → Nat} {T : va_W} {Q : State → Prop} {A : Nat → Prop} {q0 : Pc4} (X : CX p s m args meth c cX4_takeLetters 4 (some .int) RX4 (.code yX4_takeLetters cX4_takeLetters 4 (some .int)) G A) (hD : va_D A (wC G a T q0)) {α : Type} {o : α} {n : Nat} {K0 : Int32 → Pc4 → Option α} (h0 : ∀ (y2 : Int32) (q : Pc4) (H : Heap) (locs : List Loc) (ls : Array Slot), K0 y2 q = some o → va_P (DD G) vwCl (wC G a T q) H → va_S A s.heap H locs → lv_has ls 4 [(0, .ref (a 8)), (2, .int y2)] → W p l e { frames := 1, cells := 0, slots := 0, locals := 22 } s m args below meth c H locs 0 0 Q (F0 m 35 ls [])) : ∀ (k : Nat) (x1 : Int32) (x2 : Int32) (x3 : Int32) (q : Pc4) (H : Heap) (locs : List Loc) (ls : Array Slot), moQ4_takeLetters_L7 n K0 k x1 x2 x3 q = some o → va_P (DD G) vwCl (wC G a T q) H → va_S A s.heap H locs → lv_has ls 4 [(0, .ref (a 8)), (1, .int x1), (2, .int x2), (3, .int x3)] → W p l e { frames := 1, cells := 0, slots := 0, locals := 22 } s m args below meth c H locs 0 0 Q (F0 m 7 ls []) := by
  obtain ⟨⟨hx, hb, hml, hown, hts⟩, hK, hr, hlk, hA, hAs, hSta⟩ := id X
  intro k
  induction k with
  | zero =>
    intro x1 x2 x3 q H locs ls hm
    have hm : none = some o := hm
    cases hm
  | succ k ih =>
    intro x1 x2 x3 q H locs ls hm hP hS hl
    rw [moQ4_takeLetters_L7] at hm
    refine lv_iload_n hx hb dX4_takeLetters_7 rfl (lv_at hl 3 rfl) ?_
    refine lv_iload_n hx hb dX4_takeLetters_8 rfl (lv_at hl 1 rfl) ?_
    refine lv_icmp_ge (tgt := 35) hx hb dX4_takeLetters_9 (by decide) (fun c_1 => ?_) (fun c_1 => ?_)
    · have hm := (if_pos c_1).symm.trans hm
      exact h0 _ _ _ _ _ hm hP hS (lv_sub hl [0, 2] rfl)
    · have hm := (if_neg c_1).symm.trans hm
      refine lv_aload_n hx hb dX4_takeLetters_12 rfl (lv_at hl 0 rfl) ?_
      obtain ⟨r_2, e_2, hm⟩ := bd1_s hm
      refine goV_i (n := 0) (C := RX4) X (cQ4_seesLetter e_2) (gV kw340 kw342 ks_yX4_seesLetter kw7 kw343) (by decide +kernel) ⟨by decide, by decide⟩ (rc_reader hK hP) hP (dC (q1 := q) hD) hS rfl rfl hl.1 (Nat.le_of_ble_eq_true rfl) dX4_takeLetters_13 ⟨Nat.le_refl _, Nat.le_refl _⟩ (fun H locs hP _ hS => ?_)
      refine lv_if_eq (tgt := 35) hx hb dX4_takeLetters_16 (by decide) (fun c_3 => ?_) (fun c_3 => ?_)
      · have hm := (if_pos c_3).symm.trans hm
        exact h0 _ _ _ _ _ hm hP hS (lv_sub hl [0, 2] rfl)
      · have hm := (if_neg c_3).symm.trans hm
        refine lv_aload_n hx hb dX4_takeLetters_19 rfl (lv_at hl 0 rfl) ?_
        refine lv_dup hx hb dX4_takeLetters_20 rfl ?_
        refine gC_reader_at X kw137 hP dX4_takeLetters_21 ?_
        refine lv_iconst (v := 1) hx hb dX4_takeLetters_24 (by decide) ?_
        refine lv_iadd hx hb dX4_takeLetters_25 ?_
        refine pC_reader_at X kw137 hP (dC (q1 := q) hD) hS dX4_takeLetters_26 (fun H locs hP hS => ?_)
        have hP : va_P (DD G) vwCl (wC G a T (s4S q 12 ((r4S q 12) + 1))) H := hP
        refine lv_iinc (v := (x3 + 1)) (lv' := [(3, .int (x3 + 1)), (0, .ref (a 8)), (1, .int x1), (2, .int x2)]) hx hb dX4_takeLetters_29 hl (k := 3) rfl (by first | rfl | decide) (by decide) rfl (fun ls hl => ?_)
        refine lv_goto (tgt := 7) hx hb dX4_takeLetters_32 (by decide) ?_
        exact ih _ _ _ _ _ _ _ hm hP hS (lv_sub hl [1, 2, 3, 0] rfl)
set_option maxHeartbeats 4000000 in
set_option maxRecDepth 100000 in
theorem cQ4_takeLetters {l : Launch} {G : Ev} {a : Nat → Nat} {T : va_W} {n : Nat} {q : Pc4} {x1 : Int32} {r : Int32} {q' : Pc4} (hm : moQ4_takeLetters n x1 q = some (r, q')) : CtI l G yX4_takeLetters cX4_takeLetters 4 (some .int) 1 22 0 0 [.ref (a 8), .int x1] (wC G a T q) (wC G a T q') r := by
  intro sz
  refine enter (by decide) (Nat.le_of_ble_eq_true rfl) ?_
  intro p e s m args below meth c ls X hsz hP hD hS hl
  subst hsz
  obtain ⟨⟨hx, hb, hml, hown, hts⟩, hK, hr, hlk, hA, hAs, hSta⟩ := id X
  have hl : lv_has ls 4 [(0, .ref (a 8)), (1, .int x1)] := hl
  unfold moQ4_takeLetters at hm
  refine lv_aload_n hx hb dX4_takeLetters_0 rfl (lv_at hl 0 rfl) ?_
  refine gC_reader_at X kw137 hP dX4_takeLetters_1 ?_
  refine lv_istore_n (lv' := [(2, .int (r4S q 12)), (0, .ref (a 8)), (1, .int x1)]) hx hb dX4_takeLetters_4 rfl hl (by decide) rfl (fun ls hl => ?_)
  refine lv_iconst (v := 0) hx hb dX4_takeLetters_5 (by decide) ?_
  refine lv_istore_n (lv' := [(3, .int 0), (2, .int (r4S q 12)), (0, .ref (a 8)), (1, .int x1)]) hx hb dX4_takeLetters_6 rfl hl (by decide) rfl (fun ls hl => ?_)
  refine lpQ4_takeLetters_7 X hD (fun z4_2 q_4 H locs ls hm hP hS hl => ?_) n _ _ _ _ _ _ _ hm hP hS (lv_sub hl [2, 3, 1, 0] rfl)
  refine lv_aload_n hx hb dX4_takeLetters_35 rfl (lv_at hl 0 rfl) ?_
  refine gC_reader_at X kw137 hP dX4_takeLetters_36 ?_
  refine lv_iload_n hx hb dX4_takeLetters_39 rfl (lv_at hl 1 rfl) ?_
  refine lv_icmp_ne (tgt := 52) hx hb dX4_takeLetters_40 (by decide) (fun c_5 => ?_) (fun c_5 => ?_)
  · have hm := (if_neg c_5).symm.trans hm
    refine lv_iload_n hx hb dX4_takeLetters_52 rfl (lv_at hl 1 rfl) ?_
    exact ret_i (wf := wC G a T) X hm hP hS dX4_takeLetters_53
  · have hm := (if_pos c_5).symm.trans hm
    refine lv_aload_n hx hb dX4_takeLetters_43 rfl (lv_at hl 0 rfl) ?_
    refine lv_iconst (v := 1) hx hb dX4_takeLetters_44 (by decide) ?_
    refine lv_aload_n hx hb dX4_takeLetters_45 rfl (lv_at hl 0 rfl) ?_
    refine gC_reader_at X kw137 hP dX4_takeLetters_46 ?_
    obtain ⟨q_6, e_6, hm⟩ := bd1_s hm
    refine goV_v (n := 2) (C := RX4) X (cQ4_fail e_6) (gV kw344 kw346 ks_yX4_fail kw7 kw347) (by decide +kernel) ⟨by decide, by decide⟩ (rc_reader hK hP) hP (dC (q1 := q_4) hD) hS rfl rfl hl.1 (Nat.le_of_ble_eq_true rfl) dX4_takeLetters_49 ⟨Nat.le_refl _, Nat.le_refl _⟩ (fun H locs hP _ hS => ?_)
    refine lv_iload_n hx hb dX4_takeLetters_52 rfl (lv_at hl 1 rfl) ?_
    exact ret_i (wf := wC G a T) X hm hP hS dX4_takeLetters_53

-- java/lang/String.J0_coder_7d493
def moQJ0_coder_7d493 (n : Nat) (x0 : Nat) : Option (Int32) :=
  (gl x0 13 (some 0))
set_option maxHeartbeats 4000000 in
set_option maxRecDepth 100000 in
theorem cQJ0_coder_7d493 {l : Launch} {G : Ev}  {n : Nat} {x0 : Nat} {r : Int32} (hm : moQJ0_coder_7d493 n x0  = some r) : CtI l G yJ0_coder_7d493 cJ0_coder_7d493 1 (some .byte) 0 0 0 0 [.ref (sa G (30 + x0))] (wN ()) (wN ()) r := by
  intro sz
  refine enter (by decide) (Nat.le_of_ble_eq_true rfl) ?_
  intro p e s m args below meth c ls X hsz hP hD hS hl
  subst hsz
  obtain ⟨⟨hx, hb, hml, hown, hts⟩, hK, hr, hlk, hA, hAs, hSta⟩ := id X
  have hl : lv_has ls 1 [(0, .ref (sa G (30 + x0)))] := hl
  unfold moQJ0_coder_7d493 at hm
  refine va_gets hx hb (zCS X) hS hown (hts _ (List.mem_cons_of_mem _ kw366)) (fun _ h => h) dJ0_coder_7d493_0 ?_
  refine lv_if_eq (tgt := 13) hx hb dJ0_coder_7d493_3 (by decide) (fun c_0 => absurd c_0 (by decide)) (fun _ => ?_)
  refine lv_aload_n hx hb dJ0_coder_7d493_6 rfl (lv_at hl 0 rfl) ?_
  obtain ⟨hg_1, hm⟩ := gl_s hm
  refine vk_getf hx hb (fS_coder X hg_1) hS hown (hts _ (List.mem_cons_of_mem _ kw1074)) (fun _ h => h) dJ0_coder_7d493_7 ?_
  refine lv_goto (tgt := 14) hx hb dJ0_coder_7d493_10 (by decide) ?_
  exact ret_no (wf := wN) X (by decide) hm hP hS dJ0_coder_7d493_14

-- java/lang/String.J0_length_8abf5
def moQJ0_length_8abf5 (n : Nat) (x0 : Nat) : Option (Int32) :=
  (gl x0 13 (gl x0 13 (gl x0 13 (bd1 (moQJ0_coder_7d493 n x0) fun r_3 => (some (srI (Int32.ofNat (sbyt x0).length) r_3))))))
set_option maxHeartbeats 4000000 in
set_option maxRecDepth 100000 in
theorem cQJ0_length_8abf5 {l : Launch} {G : Ev}  {n : Nat} {x0 : Nat} {r : Int32} (hm : moQJ0_length_8abf5 n x0  = some r) : CtI l G yJ0_length_8abf5 cJ0_length_8abf5 1 (some .int) 1 20 0 0 [.ref (sa G (30 + x0))] (wN ()) (wN ()) r := by
  intro sz
  refine enter (by decide) (Nat.le_of_ble_eq_true rfl) ?_
  intro p e s m args below meth c ls X hsz hP hD hS hl
  subst hsz
  obtain ⟨⟨hx, hb, hml, hown, hts⟩, hK, hr, hlk, hA, hAs, hSta⟩ := id X
  have hl : lv_has ls 1 [(0, .ref (sa G (30 + x0)))] := hl
  unfold moQJ0_length_8abf5 at hm
  refine lv_aload_n hx hb dJ0_length_8abf5_0 rfl (lv_at hl 0 rfl) ?_
  obtain ⟨hg_1, hm⟩ := gl_s hm
  refine vk_getf hx hb (fS_value X hg_1) hS hown (hts _ (List.mem_cons_of_mem _ kw1073)) (fun _ h => h) dJ0_length_8abf5_1 ?_
  obtain ⟨hg_2, hm⟩ := gl_s hm
  refine va_tlen (v := (Int32.ofNat (sbyt x0).length)) hx hb (tSB X hg_2) hS rfl dJ0_length_8abf5_4 ?_
  refine lv_aload_n hx hb dJ0_length_8abf5_5 rfl (lv_at hl 0 rfl) ?_
  obtain ⟨hg_4, hm⟩ := gl_s hm
  obtain ⟨r_3, e_3, hm⟩ := bd1_s hm
  refine goV_i (n := 0) (C := RJ0) X (cQJ0_coder_7d493 e_3) (gV kw362 kw363 kw364 kw15 kw365) (by decide +kernel) ⟨by decide, by decide⟩ (rcO (oS X hg_4) hS) va_nil va_dnil hS rfl rfl hl.1 (Nat.le_of_ble_eq_true rfl) dJ0_length_8abf5_6 ⟨Nat.le_refl _, Nat.le_refl _⟩ (fun H locs _ hk hS => ?_)
  have hP : va_P (DD G) vwCl (wN ()) H := va_nil
  refine lv_ishr hx hb dJ0_length_8abf5_9 ?_
  exact ret_io (wf := wN) X hm hP hS dJ0_length_8abf5_10

-- java/lang/String.J0_isLatin1_aae02
def moQJ0_isLatin1_aae02 (n : Nat) (x0 : Nat) : Option (Int32) :=
  (gl x0 13 (some 1))
set_option maxHeartbeats 4000000 in
set_option maxRecDepth 100000 in
theorem cQJ0_isLatin1_aae02 {l : Launch} {G : Ev}  {n : Nat} {x0 : Nat} {r : Int32} (hm : moQJ0_isLatin1_aae02 n x0  = some r) : CtI l G yJ0_isLatin1_aae02 cJ0_isLatin1_aae02 1 (some .boolean) 0 0 0 0 [.ref (sa G (30 + x0))] (wN ()) (wN ()) r := by
  intro sz
  refine enter (by decide) (Nat.le_of_ble_eq_true rfl) ?_
  intro p e s m args below meth c ls X hsz hP hD hS hl
  subst hsz
  obtain ⟨⟨hx, hb, hml, hown, hts⟩, hK, hr, hlk, hA, hAs, hSta⟩ := id X
  have hl : lv_has ls 1 [(0, .ref (sa G (30 + x0)))] := hl
  unfold moQJ0_isLatin1_aae02 at hm
  refine va_gets hx hb (zCS X) hS hown (hts _ (List.mem_cons_of_mem _ kw366)) (fun _ h => h) dJ0_isLatin1_aae02_0 ?_
  refine lv_if_eq (tgt := 17) hx hb dJ0_isLatin1_aae02_3 (by decide) (fun c_0 => absurd c_0 (by decide)) (fun _ => ?_)
  refine lv_aload_n hx hb dJ0_isLatin1_aae02_6 rfl (lv_at hl 0 rfl) ?_
  obtain ⟨hg_1, hm⟩ := gl_s hm
  refine vk_getf hx hb (fS_coder X hg_1) hS hown (hts _ (List.mem_cons_of_mem _ kw1074)) (fun _ h => h) dJ0_isLatin1_aae02_7 ?_
  refine lv_if_ne (tgt := 17) hx hb dJ0_isLatin1_aae02_10 (by decide) (fun c_0 => absurd c_0 (by decide)) (fun _ => ?_)
  refine lv_iconst (v := 1) hx hb dJ0_isLatin1_aae02_13 (by decide) ?_
  refine lv_goto (tgt := 18) hx hb dJ0_isLatin1_aae02_14 (by decide) ?_
  exact ret_zo (wf := wN) X (by decide) hm hP hS dJ0_isLatin1_aae02_18

-- jdk/internal/util/Preconditions.J3_checkIndex_8e157
def moQJ3_checkIndex_8e157 (n : Nat) (x0 : Int32) (x1 : Int32) : Option (Int32) :=
  (if x0 < 0 then none else (if x0 < x1 then (some x0) else none))
set_option maxHeartbeats 4000000 in
set_option maxRecDepth 100000 in
theorem cQJ3_checkIndex_8e157_n {l : Launch} {G : Ev}  {n : Nat} {x0 : Int32} {x1 : Int32} {r : Int32} (hm : moQJ3_checkIndex_8e157 n x0 x1  = some r) : CtI l G yJ3_checkIndex_8e157 cJ3_checkIndex_8e157 3 (some .int) 0 0 0 0 [.int x0, .int x1, .null] (wN ()) (wN ()) r := by
  intro sz
  refine enter (by decide) (Nat.le_of_ble_eq_true rfl) ?_
  intro p e s m args below meth c ls X hsz hP hD hS hl
  subst hsz
  obtain ⟨⟨hx, hb, hml, hown, hts⟩, hK, hr, hlk, hA, hAs, hSta⟩ := id X
  have hl : lv_has ls 3 [(0, .int x0), (1, .int x1), (2, .null)] := hl
  unfold moQJ3_checkIndex_8e157 at hm
  refine lv_iload_n hx hb dJ3_checkIndex_8e157_0 rfl (lv_at hl 0 rfl) ?_
  refine lv_if_lt (tgt := 9) hx hb dJ3_checkIndex_8e157_1 (by decide) (fun c_1 => ?_) (fun c_1 => ?_)
  · have hm := (if_pos c_1).symm.trans hm
    refine lv_aload_nN hx hb dJ3_checkIndex_8e157_9 rfl (lv_at hl 2 rfl) ?_
    refine lv_iload_n hx hb dJ3_checkIndex_8e157_10 rfl (lv_at hl 0 rfl) ?_
    refine lv_iload_n hx hb dJ3_checkIndex_8e157_11 rfl (lv_at hl 1 rfl) ?_
    cases hm
  · have hm := (if_neg c_1).symm.trans hm
    refine lv_iload_n hx hb dJ3_checkIndex_8e157_4 rfl (lv_at hl 0 rfl) ?_
    refine lv_iload_n hx hb dJ3_checkIndex_8e157_5 rfl (lv_at hl 1 rfl) ?_
    refine lv_icmp_lt (tgt := 16) hx hb dJ3_checkIndex_8e157_6 (by decide) (fun c_2 => ?_) (fun c_2 => ?_)
    · have hm := (if_pos c_2).symm.trans hm
      refine lv_iload_n hx hb dJ3_checkIndex_8e157_16 rfl (lv_at hl 0 rfl) ?_
      exact ret_io (wf := wN) X hm hP hS dJ3_checkIndex_8e157_17
    · have hm := (if_neg c_2).symm.trans hm
      refine lv_aload_nN hx hb dJ3_checkIndex_8e157_9 rfl (lv_at hl 2 rfl) ?_
      refine lv_iload_n hx hb dJ3_checkIndex_8e157_10 rfl (lv_at hl 0 rfl) ?_
      refine lv_iload_n hx hb dJ3_checkIndex_8e157_11 rfl (lv_at hl 1 rfl) ?_
      cases hm
set_option maxHeartbeats 4000000 in
set_option maxRecDepth 100000 in
theorem cQJ3_checkIndex_8e157_r {l : Launch} {G : Ev}  {x2 : Nat} {n : Nat} {x0 : Int32} {x1 : Int32} {r : Int32} (hm : moQJ3_checkIndex_8e157 n x0 x1  = some r) : CtI l G yJ3_checkIndex_8e157 cJ3_checkIndex_8e157 3 (some .int) 0 0 0 0 [.int x0, .int x1, .ref x2] (wN ()) (wN ()) r := by
  intro sz
  refine enter (by decide) (Nat.le_of_ble_eq_true rfl) ?_
  intro p e s m args below meth c ls X hsz hP hD hS hl
  subst hsz
  obtain ⟨⟨hx, hb, hml, hown, hts⟩, hK, hr, hlk, hA, hAs, hSta⟩ := id X
  have hl : lv_has ls 3 [(0, .int x0), (1, .int x1), (2, .ref x2)] := hl
  unfold moQJ3_checkIndex_8e157 at hm
  refine lv_iload_n hx hb dJ3_checkIndex_8e157_0 rfl (lv_at hl 0 rfl) ?_
  refine lv_if_lt (tgt := 9) hx hb dJ3_checkIndex_8e157_1 (by decide) (fun c_1 => ?_) (fun c_1 => ?_)
  · have hm := (if_pos c_1).symm.trans hm
    refine lv_aload_n hx hb dJ3_checkIndex_8e157_9 rfl (lv_at hl 2 rfl) ?_
    refine lv_iload_n hx hb dJ3_checkIndex_8e157_10 rfl (lv_at hl 0 rfl) ?_
    refine lv_iload_n hx hb dJ3_checkIndex_8e157_11 rfl (lv_at hl 1 rfl) ?_
    cases hm
  · have hm := (if_neg c_1).symm.trans hm
    refine lv_iload_n hx hb dJ3_checkIndex_8e157_4 rfl (lv_at hl 0 rfl) ?_
    refine lv_iload_n hx hb dJ3_checkIndex_8e157_5 rfl (lv_at hl 1 rfl) ?_
    refine lv_icmp_lt (tgt := 16) hx hb dJ3_checkIndex_8e157_6 (by decide) (fun c_2 => ?_) (fun c_2 => ?_)
    · have hm := (if_pos c_2).symm.trans hm
      refine lv_iload_n hx hb dJ3_checkIndex_8e157_16 rfl (lv_at hl 0 rfl) ?_
      exact ret_io (wf := wN) X hm hP hS dJ3_checkIndex_8e157_17
    · have hm := (if_neg c_2).symm.trans hm
      refine lv_aload_n hx hb dJ3_checkIndex_8e157_9 rfl (lv_at hl 2 rfl) ?_
      refine lv_iload_n hx hb dJ3_checkIndex_8e157_10 rfl (lv_at hl 0 rfl) ?_
      refine lv_iload_n hx hb dJ3_checkIndex_8e157_11 rfl (lv_at hl 1 rfl) ?_
      cases hm

-- java/lang/String.J0_checkIndex_df160
def moQJ0_checkIndex_df160 (n : Nat) (x0 : Int32) (x1 : Int32) : Option (Unit) :=
  (bd1 (moQJ3_checkIndex_8e157 n x0 x1) fun r_1 => (some ()))
set_option maxHeartbeats 4000000 in
set_option maxRecDepth 100000 in
theorem cQJ0_checkIndex_df160 {l : Launch} {G : Ev}  {n : Nat} {x0 : Int32} {x1 : Int32}  (hm : moQJ0_checkIndex_df160 n x0 x1  = some ()) : CtV l G yJ0_checkIndex_df160 cJ0_checkIndex_df160 2 none 1 22 0 0 [.int x0, .int x1] (wN ()) (wN ()) := by
  intro sz
  refine enter (by decide) (Nat.le_of_ble_eq_true rfl) ?_
  intro p e s m args below meth c ls X hsz hP hD hS hl
  subst hsz
  obtain ⟨⟨hx, hb, hml, hown, hts⟩, hK, hr, hlk, hA, hAs, hSta⟩ := id X
  have hl : lv_has ls 2 [(0, .int x0), (1, .int x1)] := hl
  unfold moQJ0_checkIndex_df160 at hm
  refine lv_iload_n hx hb dJ0_checkIndex_df160_0 rfl (lv_at hl 0 rfl) ?_
  refine lv_iload_n hx hb dJ0_checkIndex_df160_1 rfl (lv_at hl 1 rfl) ?_
  refine va_gets hx hb (zFM X) hS hown (hts _ (List.mem_cons_of_mem _ kw382)) (fun _ h => h) dJ0_checkIndex_df160_2 ?_
  cases hf9 : fmt_G G with
  | none =>
    refine W.eq (g2 := F0 _ _ _ (.null :: _)) rfl ?_
    obtain ⟨r_1, e_1, hm⟩ := bd1_s hm
    refine goT_i (n := 3) X (cQJ3_checkIndex_8e157_n e_1) (gSx kw384 kw385 kw17 kw386) (by decide +kernel) ⟨by decide, by decide⟩ va_nil va_dnil hS rfl rfl hl.1 (Nat.le_of_ble_eq_true rfl) dJ0_checkIndex_df160_5 ⟨Nat.le_refl _, Nat.le_refl _⟩ (fun H locs _ hk hS => ?_)
    have hP : va_P (DD G) vwCl (wN ()) H := va_nil
    refine lv_pop hx hb dJ0_checkIndex_df160_8 rfl ?_
    exact ret_vo (wf := wN) X hP hS dJ0_checkIndex_df160_9
  | some f9 =>
    refine W.eq (g2 := F0 _ _ _ (.ref f9 :: _)) rfl ?_
    obtain ⟨r_2, e_2, hm⟩ := bd1_s hm
    refine goT_i (n := 3) X (cQJ3_checkIndex_8e157_r e_2) (gSx kw384 kw385 kw17 kw386) (by decide +kernel) ⟨by decide, by decide⟩ va_nil va_dnil hS rfl rfl hl.1 (Nat.le_of_ble_eq_true rfl) dJ0_checkIndex_df160_5 ⟨Nat.le_refl _, Nat.le_refl _⟩ (fun H locs _ hk hS => ?_)
    have hP : va_P (DD G) vwCl (wN ()) H := va_nil
    refine lv_pop hx hb dJ0_checkIndex_df160_8 rfl ?_
    exact ret_vo (wf := wN) X hP hS dJ0_checkIndex_df160_9

-- java/lang/StringLatin1.J1_charAt_3b067
def moQJ1_charAt_3b067 (n : Nat) (x0 : Nat) (x1 : Int32) : Option (Int32) :=
  (gl x0 13 (bd1 (moQJ0_checkIndex_df160 n x1 (Int32.ofNat (sbyt x0).length)) fun _ => (gl x0 13 (gi x1 (sbyt x0).length (some (i2cI (((sbyt x0).getD (Int32.toNatClampNeg x1) 0) &&& 255)))))))
set_option maxHeartbeats 4000000 in
set_option maxRecDepth 100000 in
theorem cQJ1_charAt_3b067 {l : Launch} {G : Ev}  {n : Nat} {x0 : Nat} {x1 : Int32} {r : Int32} (hm : moQJ1_charAt_3b067 n x0 x1  = some r) : CtI l G yJ1_charAt_3b067 cJ1_charAt_3b067 2 (some .char) 2 43 0 0 [.ref (sa G (50 + x0)), .int x1] (wN ()) (wN ()) r := by
  intro sz
  refine enter (by decide) (Nat.le_of_ble_eq_true rfl) ?_
  intro p e s m args below meth c ls X hsz hP hD hS hl
  subst hsz
  obtain ⟨⟨hx, hb, hml, hown, hts⟩, hK, hr, hlk, hA, hAs, hSta⟩ := id X
  have hl : lv_has ls 2 [(0, .ref (sa G (50 + x0))), (1, .int x1)] := hl
  unfold moQJ1_charAt_3b067 at hm
  refine lv_iload_n hx hb dJ1_charAt_3b067_0 rfl (lv_at hl 1 rfl) ?_
  refine lv_aload_n hx hb dJ1_charAt_3b067_1 rfl (lv_at hl 0 rfl) ?_
  obtain ⟨hg_1, hm⟩ := gl_s hm
  refine va_tlen (v := (Int32.ofNat (sbyt x0).length)) hx hb (tSB X hg_1) hS rfl dJ1_charAt_3b067_2 ?_
  obtain ⟨⟨⟩, e_2, hm⟩ := bd1_s hm
  refine goT_v (n := 2) X (cQJ0_checkIndex_df160 e_2) (gSx kw379 kw380 kw15 kw381) (by decide +kernel) ⟨by decide, by decide⟩ va_nil va_dnil hS rfl rfl hl.1 (Nat.le_of_ble_eq_true rfl) dJ1_charAt_3b067_3 ⟨Nat.le_refl _, Nat.le_refl _⟩ (fun H locs _ hk hS => ?_)
  have hP : va_P (DD G) vwCl (wN ()) H := va_nil
  refine lv_aload_n hx hb dJ1_charAt_3b067_6 rfl (lv_at hl 0 rfl) ?_
  refine lv_iload_n hx hb dJ1_charAt_3b067_7 rfl (lv_at hl 1 rfl) ?_
  obtain ⟨hg_4, hm⟩ := gl_s hm
  obtain ⟨hi_3, hm⟩ := gi_s hm
  refine va_tb (v := .int ((sbyt x0).getD (Int32.toNatClampNeg x1) 0)) hx hb (tSB X hg_4) hS hi_3 rfl dJ1_charAt_3b067_8 ?_
  refine lv_sipush (v := 255) hx hb dJ1_charAt_3b067_9 (by decide) ?_
  refine lv_iand hx hb dJ1_charAt_3b067_12 ?_
  refine lv_i2c (v := (i2cI (((sbyt x0).getD (Int32.toNatClampNeg x1) 0) &&& 255))) hx hb dJ1_charAt_3b067_13 rfl ?_
  exact ret_no (wf := wN) X (pk_nc _) hm hP hS dJ1_charAt_3b067_14

-- java/lang/String.J0_charAt_5068e
def moQJ0_charAt_5068e (n : Nat) (x0 : Nat) (x1 : Int32) : Option (Int32) :=
  (gl x0 13 (bd1 (moQJ0_isLatin1_aae02 n x0) fun r_1 => (if r_1 = 0 then (gl x0 13 none) else (gl x0 13 (bd1 (moQJ1_charAt_3b067 n x0 x1) fun r_6 => (gnr .char r_6 (some r_6)))))))
set_option maxHeartbeats 4000000 in
set_option maxRecDepth 100000 in
theorem cQJ0_charAt_5068e {l : Launch} {G : Ev}  {n : Nat} {x0 : Nat} {x1 : Int32} {r : Int32} (hm : moQJ0_charAt_5068e n x0 x1  = some r) : CtI l G yJ0_charAt_5068e cJ0_charAt_5068e 2 (some .char) 3 64 0 0 [.ref (sa G (30 + x0)), .int x1] (wN ()) (wN ()) r := by
  intro sz
  refine enter (by decide) (Nat.le_of_ble_eq_true rfl) ?_
  intro p e s m args below meth c ls X hsz hP hD hS hl
  subst hsz
  obtain ⟨⟨hx, hb, hml, hown, hts⟩, hK, hr, hlk, hA, hAs, hSta⟩ := id X
  have hl : lv_has ls 2 [(0, .ref (sa G (30 + x0))), (1, .int x1)] := hl
  unfold moQJ0_charAt_5068e at hm
  refine lv_aload_n hx hb dJ0_charAt_5068e_0 rfl (lv_at hl 0 rfl) ?_
  obtain ⟨hg_2, hm⟩ := gl_s hm
  obtain ⟨r_1, e_1, hm⟩ := bd1_s hm
  refine goV_i (n := 0) (C := RJ0) X (cQJ0_isLatin1_aae02 e_1) (gV kw372 kw373 kw374 kw15 kw375) (by decide +kernel) ⟨by decide, by decide⟩ (rcO (oS X hg_2) hS) va_nil va_dnil hS rfl rfl hl.1 (Nat.le_of_ble_eq_true rfl) dJ0_charAt_5068e_1 ⟨Nat.le_refl _, Nat.le_refl _⟩ (fun H locs _ hk hS => ?_)
  have hP : va_P (DD G) vwCl (wN ()) H := va_nil
  refine lv_if_eq (tgt := 16) hx hb dJ0_charAt_5068e_4 (by decide) (fun c_3 => ?_) (fun c_3 => ?_)
  · have hm := (if_pos c_3).symm.trans hm
    refine lv_aload_n hx hb dJ0_charAt_5068e_16 rfl (lv_at hl 0 rfl) ?_
    obtain ⟨hg_4, hm⟩ := gl_s hm
    refine vk_getf hx hb (fS_value X hg_4) hS hown (hts _ (List.mem_cons_of_mem _ kw1073)) (fun _ h => h) dJ0_charAt_5068e_17 ?_
    refine lv_iload_n hx hb dJ0_charAt_5068e_20 rfl (lv_at hl 1 rfl) ?_
    cases hm
  · have hm := (if_neg c_3).symm.trans hm
    refine lv_aload_n hx hb dJ0_charAt_5068e_7 rfl (lv_at hl 0 rfl) ?_
    obtain ⟨hg_5, hm⟩ := gl_s hm
    refine vk_getf hx hb (fS_value X hg_5) hS hown (hts _ (List.mem_cons_of_mem _ kw1073)) (fun _ h => h) dJ0_charAt_5068e_8 ?_
    refine lv_iload_n hx hb dJ0_charAt_5068e_11 rfl (lv_at hl 1 rfl) ?_
    obtain ⟨r_6, e_6, hm⟩ := bd1_s hm
    refine goT_i (n := 2) X (cQJ1_charAt_3b067 e_6) (gSx kw376 kw377 kw16 kw378) (by decide +kernel) ⟨by decide, by decide⟩ va_nil va_dnil hS rfl rfl hl.1 (Nat.le_of_ble_eq_true rfl) dJ0_charAt_5068e_12 ⟨Nat.le_refl _, Nat.le_refl _⟩ (fun H locs _ hk hS => ?_)
    have hP : va_P (DD G) vwCl (wN ()) H := va_nil
    obtain ⟨hz_7, hm⟩ := gnr_s hm
    exact ret_no (wf := wN) X hz_7 hm hP hS dJ0_charAt_5068e_15

-- RuledCalendar$Reader.isWord
def moQ4_isWord_L17 {α : Type} (n : Nat) (q : Pc4) (K0 : Option α) (K1 : Option α) : Nat → Nat → Int32 → Int32 → Option α
  | 0, _, _, _ => none
  | k + 1, x1, x2, x3 => (gl x1 13 (bd1 (moQJ0_length_8abf5 n x1) fun r_4 => (if r_4 ≤ x3 then (K0 ) else (gl x1 13 (bd1 (moQJ0_charAt_5068e n x1 x3) fun r_7 => (ge (r4I q 0) 1 (gi (x2 + x3) 200 (if r_7 = (r4A q 1 (x2 + x3)) then (moQ4_isWord_L17 n q K0 K1 k x1 x2 (x3 + 1) ) else (K1 )))))))))
def moQ4_isWord (n : Nat) (x1 : Nat) (x2 : Int32) (q : Pc4) : Option (Int32) :=
  (gl x1 13 (bd1 (moQJ0_length_8abf5 n x1) fun r_1 => (if r_1 = ((r4S q 12) - x2) then (moQ4_isWord_L17 n q (some 1) (some 0) n x1 x2 0 ) else (some 0))))
set_option maxHeartbeats 4000000 in
set_option maxRecDepth 100000 in
theorem lpQ4_isWord_17 {p : Program} {l : Launch} {e : Env} {s : State} {m : MethodId} {args : Array Value} {below : List Frame} {meth : Method} {c : Code} {G : Ev} {a : Nat → Nat} {T : va_W} {Q : State → Prop} {A : Nat → Prop} {q : Pc4} (X : CX p s m args meth c cX4_isWord 4 (some .boolean) RX4 (.code yX4_isWord cX4_isWord 4 (some .boolean)) G A) (hD : va_D A (wC G a T q)) {α : Type} {o : α} {n : Nat} {K0 : Option α} {K1 : Option α} (h0 : ∀ (H : Heap) (locs : List Loc) (ls : Array Slot), K0  = some o → va_P (DD G) vwCl (wC G a T q) H → va_S A s.heap H locs → lv_has ls 4 [] → W p l e { frames := 4, cells := 0, slots := 0, locals := 85 } s m args below meth c H locs 0 0 Q (F0 m 49 ls [])) (h1 : ∀ (H : Heap) (locs : List Loc) (ls : Array Slot), K1  = some o → va_P (DD G) vwCl (wC G a T q) H → va_S A s.heap H locs → lv_has ls 4 [] → W p l e { frames := 4, cells := 0, slots := 0, locals := 85 } s m args below meth c H locs 0 0 Q (F0 m 41 ls [])) : ∀ (k : Nat) (x1 : Nat) (x2 : Int32) (x3 : Int32) (H : Heap) (locs : List Loc) (ls : Array Slot), moQ4_isWord_L17 n q K0 K1 k x1 x2 x3  = some o → va_P (DD G) vwCl (wC G a T q) H → va_S A s.heap H locs → lv_has ls 4 [(0, .ref (a 8)), (1, .ref (sa G (30 + x1))), (2, .int x2), (3, .int x3)] → W p l e { frames := 4, cells := 0, slots := 0, locals := 85 } s m args below meth c H locs 0 0 Q (F0 m 17 ls []) := by
  obtain ⟨⟨hx, hb, hml, hown, hts⟩, hK, hr, hlk, hA, hAs, hSta⟩ := id X
  intro k
  induction k with
  | zero =>
    intro x1 x2 x3 H locs ls hm
    have hm : none = some o := hm
    cases hm
  | succ k ih =>
    intro x1 x2 x3 H locs ls hm hP hS hl
    rw [moQ4_isWord_L17] at hm
    refine lv_iload_n hx hb dX4_isWord_17 rfl (lv_at hl 3 rfl) ?_
    refine lv_aload_n hx hb dX4_isWord_18 rfl (lv_at hl 1 rfl) ?_
    obtain ⟨hg_5, hm⟩ := gl_s hm
    obtain ⟨r_4, e_4, hm⟩ := bd1_s hm
    refine goV_i (n := 0) (C := RJ0) X (cQJ0_length_8abf5 e_4) (gV kw358 kw359 kw360 kw15 kw361) (by decide +kernel) ⟨by decide, by decide⟩ (rcO (oS X hg_5) hS) va_nil va_dnil hS rfl rfl hl.1 (Nat.le_of_ble_eq_true rfl) dX4_isWord_19 ⟨Nat.le_refl _, Nat.le_refl _⟩ (fun H locs _ hk hS => ?_)
    have hP := va_keep hP hk
    refine lv_icmp_ge (tgt := 49) hx hb dX4_isWord_22 (by decide) (fun c_6 => ?_) (fun c_6 => ?_)
    · have hm := (if_pos c_6).symm.trans hm
      exact h0 _ _ _ hm hP hS (lv_sub hl [] rfl)
    · have hm := (if_neg c_6).symm.trans hm
      refine lv_aload_n hx hb dX4_isWord_25 rfl (lv_at hl 1 rfl) ?_
      refine lv_iload_n hx hb dX4_isWord_26 rfl (lv_at hl 3 rfl) ?_
      obtain ⟨hg_8, hm⟩ := gl_s hm
      obtain ⟨r_7, e_7, hm⟩ := bd1_s hm
      refine goV_i (n := 1) (C := RJ0) X (cQJ0_charAt_5068e e_7) (gV kw368 kw369 kw370 kw15 kw371) (by decide +kernel) ⟨by decide, by decide⟩ (rcO (oS X hg_8) hS) va_nil va_dnil hS rfl rfl hl.1 (Nat.le_of_ble_eq_true rfl) dX4_isWord_27 ⟨Nat.le_refl _, Nat.le_refl _⟩ (fun H locs _ hk hS => ?_)
      have hP := va_keep hP hk
      refine lv_aload_n hx hb dX4_isWord_30 rfl (lv_at hl 0 rfl) ?_
      refine gC_reader_text X kw135 hP dX4_isWord_31 ?_
      refine lv_iload_n hx hb dX4_isWord_34 rfl (lv_at hl 2 rfl) ?_
      refine lv_iload_n hx hb dX4_isWord_35 rfl (lv_at hl 3 rfl) ?_
      refine lv_iadd hx hb dX4_isWord_36 ?_
      obtain ⟨hx_10, hm⟩ := ge_s hm
      obtain ⟨hi_9, hm⟩ := gi_s hm
      refine ldC_textx X hx_10 hP hi_9 dX4_isWord_37 ?_
      refine lv_icmp_eq (tgt := 43) hx hb dX4_isWord_38 (by decide) (fun c_11 => ?_) (fun c_11 => ?_)
      · have hm := (if_pos c_11).symm.trans hm
        refine lv_iinc (v := (x3 + 1)) (lv' := [(3, .int (x3 + 1)), (0, .ref (a 8)), (1, .ref (sa G (30 + x1))), (2, .int x2)]) hx hb dX4_isWord_43 hl (k := 3) rfl (by first | rfl | decide) (by decide) rfl (fun ls hl => ?_)
        refine lv_goto (tgt := 17) hx hb dX4_isWord_46 (by decide) ?_
        exact ih _ _ _ _ _ _ hm hP hS (lv_sub hl [1, 2, 3, 0] rfl)
      · have hm := (if_neg c_11).symm.trans hm
        exact h1 _ _ _ hm hP hS (lv_sub hl [] rfl)
set_option maxHeartbeats 4000000 in
set_option maxRecDepth 100000 in
theorem cQ4_isWord {l : Launch} {G : Ev} {a : Nat → Nat} {T : va_W} {n : Nat} {q : Pc4} {x1 : Nat} {x2 : Int32} {r : Int32} (hm : moQ4_isWord n x1 x2 q = some r) : CtI l G yX4_isWord cX4_isWord 4 (some .boolean) 4 85 0 0 [.ref (a 8), .ref (sa G (30 + x1)), .int x2] (wC G a T q) (wC G a T q) r := by
  intro sz
  refine enter (by decide) (Nat.le_of_ble_eq_true rfl) ?_
  intro p e s m args below meth c ls X hsz hP hD hS hl
  subst hsz
  obtain ⟨⟨hx, hb, hml, hown, hts⟩, hK, hr, hlk, hA, hAs, hSta⟩ := id X
  have hl : lv_has ls 4 [(0, .ref (a 8)), (1, .ref (sa G (30 + x1))), (2, .int x2)] := hl
  unfold moQ4_isWord at hm
  refine lv_aload_n hx hb dX4_isWord_0 rfl (lv_at hl 1 rfl) ?_
  obtain ⟨hg_2, hm⟩ := gl_s hm
  obtain ⟨r_1, e_1, hm⟩ := bd1_s hm
  refine goV_i (n := 0) (C := RJ0) X (cQJ0_length_8abf5 e_1) (gV kw358 kw359 kw360 kw15 kw361) (by decide +kernel) ⟨by decide, by decide⟩ (rcO (oS X hg_2) hS) va_nil va_dnil hS rfl rfl hl.1 (Nat.le_of_ble_eq_true rfl) dX4_isWord_1 ⟨Nat.le_refl _, Nat.le_refl _⟩ (fun H locs _ hk hS => ?_)
  have hP := va_keep hP hk
  refine lv_aload_n hx hb dX4_isWord_4 rfl (lv_at hl 0 rfl) ?_
  refine gC_reader_at X kw137 hP dX4_isWord_5 ?_
  refine lv_iload_n hx hb dX4_isWord_8 rfl (lv_at hl 2 rfl) ?_
  refine lv_isub hx hb dX4_isWord_9 ?_
  refine lv_icmp_eq (tgt := 15) hx hb dX4_isWord_10 (by decide) (fun c_3 => ?_) (fun c_3 => ?_)
  · have hm := (if_pos c_3).symm.trans hm
    refine lv_iconst (v := 0) hx hb dX4_isWord_15 (by decide) ?_
    refine lv_istore_n (lv' := [(3, .int 0), (0, .ref (a 8)), (1, .ref (sa G (30 + x1))), (2, .int x2)]) hx hb dX4_isWord_16 rfl hl (by decide) rfl (fun ls hl => ?_)
    refine lpQ4_isWord_17 X hD (fun  H locs ls hm hP hS hl => ?_) (fun  H locs ls hm hP hS hl => ?_) n _ _ _ _ _ _ hm hP hS (lv_sub hl [1, 2, 3, 0] rfl)
    · refine lv_iconst (v := 1) hx hb dX4_isWord_49 (by decide) ?_
      exact ret_zo (wf := wC G a T) X (by decide) hm hP hS dX4_isWord_50
    · refine lv_iconst (v := 0) hx hb dX4_isWord_41 (by decide) ?_
      exact ret_zo (wf := wC G a T) X (by decide) hm hP hS dX4_isWord_42
  · have hm := (if_neg c_3).symm.trans hm
    refine lv_iconst (v := 0) hx hb dX4_isWord_13 (by decide) ?_
    exact ret_zo (wf := wC G a T) X (by decide) hm hP hS dX4_isWord_14

-- RuledCalendar$Reader.partNamed
def moQ4_partNamed_L2 {α : Type} (n : Nat) (q : Pc4) (K0 : Option α) (K1 : Int32 → Option α) : Nat → Int32 → Int32 → Option α
  | 0, _, _ => none
  | k + 1, x1, x2 => (if 8 ≤ x2 then (K0 ) else (gi x2 8 (gl (Int32.toNatClampNeg x2) 8 (bd1 (moQ4_isWord n (Int32.toNatClampNeg x2) x1 q) fun r_4 => (if r_4 = 0 then (moQ4_partNamed_L2 n q K0 K1 k x1 (x2 + 1) ) else (K1 x2 ))))))
def moQ4_partNamed (n : Nat) (x1 : Int32) (q : Pc4) : Option (Option Nat) :=
  (moQ4_partNamed_L2 n q (some none) (fun z7_2 => (gi z7_2 8 (some (some (Int32.toNatClampNeg z7_2))))) n x1 0 )
set_option maxHeartbeats 4000000 in
set_option maxRecDepth 100000 in
theorem lpQ4_partNamed_2 {p : Program} {l : Launch} {e : Env} {s : State} {m : MethodId} {args : Array Value} {below : List Frame} {meth : Method} {c : Code} {G : Ev} {a : Nat → Nat} {T : va_W} {Q : State → Prop} {A : Nat → Prop} {q : Pc4} (X : CX p s m args meth c cX4_partNamed 3 (some (.object "RuledCalendar$Part")) RX4 (.code yX4_partNamed cX4_partNamed 3 (some (.object "RuledCalendar$Part"))) G A) (hD : va_D A (wC G a T q)) {α : Type} {o : α} {n : Nat} {K0 : Option α} {K1 : Int32 → Option α} (h0 : ∀ (H : Heap) (locs : List Loc) (ls : Array Slot), K0  = some o → va_P (DD G) vwCl (wC G a T q) H → va_S A s.heap H locs → lv_has ls 3 [] → W p l e { frames := 5, cells := 0, slots := 0, locals := 108 } s m args below meth c H locs 0 0 Q (F0 m 38 ls [])) (h1 : ∀ (y2 : Int32) (H : Heap) (locs : List Loc) (ls : Array Slot), K1 y2  = some o → va_P (DD G) vwCl (wC G a T q) H → va_S A s.heap H locs → lv_has ls 3 [(2, .int y2)] → W p l e { frames := 5, cells := 0, slots := 0, locals := 108 } s m args below meth c H locs 0 0 Q (F0 m 26 ls [])) : ∀ (k : Nat) (x1 : Int32) (x2 : Int32) (H : Heap) (locs : List Loc) (ls : Array Slot), moQ4_partNamed_L2 n q K0 K1 k x1 x2  = some o → va_P (DD G) vwCl (wC G a T q) H → va_S A s.heap H locs → lv_has ls 3 [(0, .ref (a 8)), (1, .int x1), (2, .int x2)] → W p l e { frames := 5, cells := 0, slots := 0, locals := 108 } s m args below meth c H locs 0 0 Q (F0 m 2 ls []) := by
  obtain ⟨⟨hx, hb, hml, hown, hts⟩, hK, hr, hlk, hA, hAs, hSta⟩ := id X
  intro k
  induction k with
  | zero =>
    intro x1 x2 H locs ls hm
    have hm : none = some o := hm
    cases hm
  | succ k ih =>
    intro x1 x2 H locs ls hm hP hS hl
    rw [moQ4_partNamed_L2] at hm
    refine lv_iload_n hx hb dX4_partNamed_2 rfl (lv_at hl 2 rfl) ?_
    refine va_getsN hx hb (zPA X) hS hown (va_Nw.use rfl hSta.2.2.2.2.2.2.2.2.2.2.2.2.2.2.2.2.2.2.2.2.2.1.2.2.1) (fun _ h => h) dX4_partNamed_3 ?_
    refine va_tlen (v := 8) hx hb (tPA X) hS rfl dX4_partNamed_6 ?_
    refine lv_icmp_ge (tgt := 38) hx hb dX4_partNamed_7 (by decide) (fun c_1 => ?_) (fun c_1 => ?_)
    · have hm := (if_pos c_1).symm.trans hm
      exact h0 _ _ _ hm hP hS (lv_sub hl [] rfl)
    · have hm := (if_neg c_1).symm.trans hm
      refine lv_aload_n hx hb dX4_partNamed_10 rfl (lv_at hl 0 rfl) ?_
      refine va_getsN hx hb (zPA X) hS hown (va_Nw.use rfl hSta.2.2.2.2.2.2.2.2.2.2.2.2.2.2.2.2.2.2.2.2.2.1.2.2.1) (fun _ h => h) dX4_partNamed_11 ?_
      refine lv_iload_n hx hb dX4_partNamed_14 rfl (lv_at hl 2 rfl) ?_
      obtain ⟨hi_2, hm⟩ := gi_s hm
      refine vb_tq (v := .ref (sa G (10 + Int32.toNatClampNeg x2))) hx hb (tPA X) hS hi_2 rfl dX4_partNamed_15 ?_
      obtain ⟨hg_3, hm⟩ := gl_s hm
      refine vk_getf hx hb (fP_word X hg_3) hS hown (hts _ (List.mem_cons_of_mem _ kw1072)) (fun _ h => h) dX4_partNamed_16 ?_
      refine lv_iload_n hx hb dX4_partNamed_19 rfl (lv_at hl 1 rfl) ?_
      obtain ⟨r_4, e_4, hm⟩ := bd1_s hm
      refine goV_i (n := 2) (C := RX4) X (cQ4_isWord e_4) (gV kw354 kw356 ks_yX4_isWord kw7 kw357) (by decide +kernel) ⟨by decide, by decide⟩ (rc_reader hK hP) hP (dC (q1 := q) hD) hS rfl rfl hl.1 (Nat.le_of_ble_eq_true rfl) dX4_partNamed_20 ⟨Nat.le_refl _, Nat.le_refl _⟩ (fun H locs hP _ hS => ?_)
      refine lv_if_eq (tgt := 32) hx hb dX4_partNamed_23 (by decide) (fun c_5 => ?_) (fun c_5 => ?_)
      · have hm := (if_pos c_5).symm.trans hm
        refine lv_iinc (v := (x2 + 1)) (lv' := [(2, .int (x2 + 1)), (0, .ref (a 8)), (1, .int x1)]) hx hb dX4_partNamed_32 hl (k := 2) rfl (by first | rfl | decide) (by decide) rfl (fun ls hl => ?_)
        refine lv_goto (tgt := 2) hx hb dX4_partNamed_35 (by decide) ?_
        exact ih _ _ _ _ _ hm hP hS (lv_sub hl [1, 2, 0] rfl)
      · have hm := (if_neg c_5).symm.trans hm
        exact h1 _ _ _ _ hm hP hS (lv_sub hl [2] rfl)
set_option maxHeartbeats 4000000 in
set_option maxRecDepth 100000 in
theorem cQ4_partNamed {l : Launch} {G : Ev} {a : Nat → Nat} {T : va_W} {n : Nat} {q : Pc4} {x1 : Int32} {r : Option Nat} (hm : moQ4_partNamed n x1 q = some r) : CtO l G yX4_partNamed cX4_partNamed 3 (some (.object "RuledCalendar$Part")) 5 108 0 0 [.ref (a 8), .int x1] (wC G a T q) (wC G a T q) r := by
  intro sz
  refine enter (by decide) (Nat.le_of_ble_eq_true rfl) ?_
  intro p e s m args below meth c ls X hsz hP hD hS hl
  subst hsz
  obtain ⟨⟨hx, hb, hml, hown, hts⟩, hK, hr, hlk, hA, hAs, hSta⟩ := id X
  have hl : lv_has ls 3 [(0, .ref (a 8)), (1, .int x1)] := hl
  unfold moQ4_partNamed at hm
  refine lv_iconst (v := 0) hx hb dX4_partNamed_0 (by decide) ?_
  refine lv_istore_n (lv' := [(2, .int 0), (0, .ref (a 8)), (1, .int x1)]) hx hb dX4_partNamed_1 rfl hl (by decide) rfl (fun ls hl => ?_)
  refine lpQ4_partNamed_2 X hD (fun  H locs ls hm hP hS hl => ?_) (fun z7_2 H locs ls hm hP hS hl => ?_) n _ _ _ _ _ hm hP hS (lv_sub hl [1, 2, 0] rfl)
  · refine lv_null hx hb dX4_partNamed_38 ?_
    exact ret_oo (v := none) (wf := wC G a T) X rfl hm hP hS dX4_partNamed_39
  · refine va_getsN hx hb (zPA X) hS hown (va_Nw.use rfl hSta.2.2.2.2.2.2.2.2.2.2.2.2.2.2.2.2.2.2.2.2.2.1.2.2.1) (fun _ h => h) dX4_partNamed_26 ?_
    refine lv_iload_n hx hb dX4_partNamed_29 rfl (lv_at hl 0 rfl) ?_
    obtain ⟨hi_8, hm⟩ := gi_s hm
    refine vb_tq (v := .ref (sa G (10 + Int32.toNatClampNeg z7_2))) hx hb (tPA X) hS hi_8 rfl dX4_partNamed_30 ?_
    exact ret_oo (v := (some (Int32.toNatClampNeg z7_2))) (wf := wC G a T) X rfl hm hP hS dX4_partNamed_31

-- RuledCalendar$Reader.sees
def moQ4_sees (n : Nat) (x1 : Int32) (q : Pc4) : Option (Int32) :=
  (if (r4S q 11) ≤ (r4S q 12) then (some 0) else (ge (r4I q 0) 1 (gi (r4S q 12) 200 (if (r4A q 1 (r4S q 12)) = x1 then (some 1) else (some 0)))))
set_option maxHeartbeats 4000000 in
set_option maxRecDepth 100000 in
theorem cQ4_sees {l : Launch} {G : Ev} {a : Nat → Nat} {T : va_W} {n : Nat} {q : Pc4} {x1 : Int32} {r : Int32} (hm : moQ4_sees n x1 q = some r) : CtI l G yX4_sees cX4_sees 2 (some .boolean) 0 0 0 0 [.ref (a 8), .int x1] (wC G a T q) (wC G a T q) r := by
  intro sz
  refine enter (by decide) (Nat.le_of_ble_eq_true rfl) ?_
  intro p e s m args below meth c ls X hsz hP hD hS hl
  subst hsz
  obtain ⟨⟨hx, hb, hml, hown, hts⟩, hK, hr, hlk, hA, hAs, hSta⟩ := id X
  have hl : lv_has ls 2 [(0, .ref (a 8)), (1, .int x1)] := hl
  unfold moQ4_sees at hm
  refine lv_aload_n hx hb dX4_sees_0 rfl (lv_at hl 0 rfl) ?_
  refine gC_reader_at X kw137 hP dX4_sees_1 ?_
  refine lv_aload_n hx hb dX4_sees_4 rfl (lv_at hl 0 rfl) ?_
  refine gC_reader_length X kw136 hP dX4_sees_5 ?_
  refine lv_icmp_ge (tgt := 28) hx hb dX4_sees_8 (by decide) (fun c_1 => ?_) (fun c_1 => ?_)
  · have hm := (if_pos c_1).symm.trans hm
    refine lv_iconst (v := 0) hx hb dX4_sees_28 (by decide) ?_
    exact ret_zo (wf := wC G a T) X (by decide) hm hP hS dX4_sees_29
  · have hm := (if_neg c_1).symm.trans hm
    refine lv_aload_n hx hb dX4_sees_11 rfl (lv_at hl 0 rfl) ?_
    refine gC_reader_text X kw135 hP dX4_sees_12 ?_
    refine lv_aload_n hx hb dX4_sees_15 rfl (lv_at hl 0 rfl) ?_
    refine gC_reader_at X kw137 hP dX4_sees_16 ?_
    obtain ⟨hx_3, hm⟩ := ge_s hm
    obtain ⟨hi_2, hm⟩ := gi_s hm
    refine ldC_textx X hx_3 hP hi_2 dX4_sees_19 ?_
    refine lv_iload_n hx hb dX4_sees_20 rfl (lv_at hl 1 rfl) ?_
    refine lv_icmp_ne (tgt := 28) hx hb dX4_sees_21 (by decide) (fun c_4 => ?_) (fun c_4 => ?_)
    · have hm := (if_neg c_4).symm.trans hm
      refine lv_iconst (v := 0) hx hb dX4_sees_28 (by decide) ?_
      exact ret_zo (wf := wC G a T) X (by decide) hm hP hS dX4_sees_29
    · have hm := (if_pos c_4).symm.trans hm
      refine lv_iconst (v := 1) hx hb dX4_sees_24 (by decide) ?_
      refine lv_goto (tgt := 29) hx hb dX4_sees_25 (by decide) ?_
      exact ret_zo (wf := wC G a T) X (by decide) hm hP hS dX4_sees_29

-- RuledCalendar$Reader.take
def moQ4_take (n : Nat) (x1 : Int32) (q : Pc4) : Option (Pc4) :=
  (bd1 (moQ4_sees n x1 q) fun r_1 => (if r_1 = 0 then (bd1 (moQ4_fail n 1 (r4S q 12) q) fun q_3 => (some q_3)) else (some (s4S q 12 ((r4S q 12) + 1)))))
set_option maxHeartbeats 4000000 in
set_option maxRecDepth 100000 in
theorem cQ4_take {l : Launch} {G : Ev} {a : Nat → Nat} {T : va_W} {n : Nat} {q : Pc4} {x1 : Int32} {q' : Pc4} (hm : moQ4_take n x1 q = some q') : CtV l G yX4_take cX4_take 2 none 1 22 0 0 [.ref (a 8), .int x1] (wC G a T q) (wC G a T q') := by
  intro sz
  refine enter (by decide) (Nat.le_of_ble_eq_true rfl) ?_
  intro p e s m args below meth c ls X hsz hP hD hS hl
  subst hsz
  obtain ⟨⟨hx, hb, hml, hown, hts⟩, hK, hr, hlk, hA, hAs, hSta⟩ := id X
  have hl : lv_has ls 2 [(0, .ref (a 8)), (1, .int x1)] := hl
  unfold moQ4_take at hm
  refine lv_aload_n hx hb dX4_take_0 rfl (lv_at hl 0 rfl) ?_
  refine lv_iload_n hx hb dX4_take_1 rfl (lv_at hl 1 rfl) ?_
  obtain ⟨r_1, e_1, hm⟩ := bd1_s hm
  refine goV_i (n := 1) (C := RX4) X (cQ4_sees e_1) (gV kw414 kw416 ks_yX4_sees kw7 kw417) (by decide +kernel) ⟨by decide, by decide⟩ (rc_reader hK hP) hP (dC (q1 := q) hD) hS rfl rfl hl.1 (Nat.le_of_ble_eq_true rfl) dX4_take_2 ⟨Nat.le_refl _, Nat.le_refl _⟩ (fun H locs hP _ hS => ?_)
  refine lv_if_eq (tgt := 21) hx hb dX4_take_5 (by decide) (fun c_2 => ?_) (fun c_2 => ?_)
  · have hm := (if_pos c_2).symm.trans hm
    refine lv_aload_n hx hb dX4_take_21 rfl (lv_at hl 0 rfl) ?_
    refine lv_iconst (v := 1) hx hb dX4_take_22 (by decide) ?_
    refine lv_aload_n hx hb dX4_take_23 rfl (lv_at hl 0 rfl) ?_
    refine gC_reader_at X kw137 hP dX4_take_24 ?_
    obtain ⟨q_3, e_3, hm⟩ := bd1_s hm
    refine goV_v (n := 2) (C := RX4) X (cQ4_fail e_3) (gV kw344 kw346 ks_yX4_fail kw7 kw347) (by decide +kernel) ⟨by decide, by decide⟩ (rc_reader hK hP) hP (dC (q1 := q) hD) hS rfl rfl hl.1 (Nat.le_of_ble_eq_true rfl) dX4_take_27 ⟨Nat.le_refl _, Nat.le_refl _⟩ (fun H locs hP _ hS => ?_)
    exact ret_v (wf := wC G a T) X hm hP hS dX4_take_30
  · have hm := (if_neg c_2).symm.trans hm
    refine lv_aload_n hx hb dX4_take_8 rfl (lv_at hl 0 rfl) ?_
    refine lv_dup hx hb dX4_take_9 rfl ?_
    refine gC_reader_at X kw137 hP dX4_take_10 ?_
    refine lv_iconst (v := 1) hx hb dX4_take_13 (by decide) ?_
    refine lv_iadd hx hb dX4_take_14 ?_
    refine pC_reader_at X kw137 hP (dC (q1 := q) hD) hS dX4_take_15 (fun H locs hP hS => ?_)
    have hP : va_P (DD G) vwCl (wC G a T (s4S q 12 ((r4S q 12) + 1))) H := hP
    refine lv_goto (tgt := 30) hx hb dX4_take_18 (by decide) ?_
    exact ret_v (wf := wC G a T) X hm hP hS dX4_take_30

-- RuledCalendar$Reader.readFrequency
def moQ4_readFrequency_L10 {α : Type} (n : Nat) (K0 : Int32 → Pc4 → Option α) (K1 : Int32 → Pc4 → Option α) : Nat → Int32 → Int32 → Pc4 → Option α
  | 0, _, _, _ => none
  | k + 1, x1, x2, q => (if 4 ≤ x2 then (K0 x1 q) else (gi x2 4 (gl (Int32.toNatClampNeg x2) 4 (bd1 (moQ4_isWord n (8 + (Int32.toNatClampNeg x2)) x1 q) fun r_5 => (if r_5 = 0 then (moQ4_readFrequency_L10 n K0 K1 k x1 (x2 + 1) q) else (K1 x2 q))))))
def moQ4_readFrequency (n : Nat) (q : Pc4) : Option (Pc4) :=
  (bd2 (moQ4_takeLetters n 200 q) fun r_1 q_1 => (moQ4_readFrequency_L10 n (fun z7_1 q_7 => (bd1 (moQ4_fail n 1 z7_1 q_7) fun q_8 => (some q_8))) (fun z9_2 q_9 => (gi z9_2 4 (some (s4I q_9 2 (Int32.toNatClampNeg z9_2))))) n r_1 0 q_1))
set_option maxHeartbeats 4000000 in
set_option maxRecDepth 100000 in
theorem lpQ4_readFrequency_10 {p : Program} {l : Launch} {e : Env} {s : State} {m : MethodId} {args : Array Value} {below : List Frame} {meth : Method} {c : Code} {G : Ev} {a : Nat → Nat} {T : va_W} {Q : State → Prop} {A : Nat → Prop} {q0 : Pc4} (X : CX p s m args meth c cX4_readFrequency 3 none RX4 (.code yX4_readFrequency cX4_readFrequency 3 none) G A) (hD : va_D A (wC G a T q0)) {α : Type} {o : α} {n : Nat} {K0 : Int32 → Pc4 → Option α} {K1 : Int32 → Pc4 → Option α} (h0 : ∀ (y1 : Int32) (q : Pc4) (H : Heap) (locs : List Loc) (ls : Array Slot), K0 y1 q = some o → va_P (DD G) vwCl (wC G a T q) H → va_S A s.heap H locs → lv_has ls 3 [(0, .ref (a 8)), (1, .int y1)] → W p l e { frames := 5, cells := 0, slots := 0, locals := 108 } s m args below meth c H locs 0 0 Q (F0 m 53 ls [])) (h1 : ∀ (y2 : Int32) (q : Pc4) (H : Heap) (locs : List Loc) (ls : Array Slot), K1 y2 q = some o → va_P (DD G) vwCl (wC G a T q) H → va_S A s.heap H locs → lv_has ls 3 [(0, .ref (a 8)), (2, .int y2)] → W p l e { frames := 5, cells := 0, slots := 0, locals := 108 } s m args below meth c H locs 0 0 Q (F0 m 34 ls [])) : ∀ (k : Nat) (x1 : Int32) (x2 : Int32) (q : Pc4) (H : Heap) (locs : List Loc) (ls : Array Slot), moQ4_readFrequency_L10 n K0 K1 k x1 x2 q = some o → va_P (DD G) vwCl (wC G a T q) H → va_S A s.heap H locs → lv_has ls 3 [(0, .ref (a 8)), (1, .int x1), (2, .int x2)] → W p l e { frames := 5, cells := 0, slots := 0, locals := 108 } s m args below meth c H locs 0 0 Q (F0 m 10 ls []) := by
  obtain ⟨⟨hx, hb, hml, hown, hts⟩, hK, hr, hlk, hA, hAs, hSta⟩ := id X
  intro k
  induction k with
  | zero =>
    intro x1 x2 q H locs ls hm
    have hm : none = some o := hm
    cases hm
  | succ k ih =>
    intro x1 x2 q H locs ls hm hP hS hl
    rw [moQ4_readFrequency_L10] at hm
    refine lv_iload_n hx hb dX4_readFrequency_10 rfl (lv_at hl 2 rfl) ?_
    refine va_getsN hx hb (zFA X) hS hown (va_Nw.use rfl hSta.2.2.2.2.2.2.2.2.2.2.2.2.2.2.2.2.2.2.2.2.2.1.2.2.2.1) (fun _ h => h) dX4_readFrequency_11 ?_
    refine va_tlen (v := 4) hx hb (tFA X) hS rfl dX4_readFrequency_14 ?_
    refine lv_icmp_ge (tgt := 53) hx hb dX4_readFrequency_15 (by decide) (fun c_2 => ?_) (fun c_2 => ?_)
    · have hm := (if_pos c_2).symm.trans hm
      exact h0 _ _ _ _ _ hm hP hS (lv_sub hl [0, 1] rfl)
    · have hm := (if_neg c_2).symm.trans hm
      refine lv_aload_n hx hb dX4_readFrequency_18 rfl (lv_at hl 0 rfl) ?_
      refine va_getsN hx hb (zFA X) hS hown (va_Nw.use rfl hSta.2.2.2.2.2.2.2.2.2.2.2.2.2.2.2.2.2.2.2.2.2.1.2.2.2.1) (fun _ h => h) dX4_readFrequency_19 ?_
      refine lv_iload_n hx hb dX4_readFrequency_22 rfl (lv_at hl 2 rfl) ?_
      obtain ⟨hi_3, hm⟩ := gi_s hm
      refine vb_tq (v := .ref (sa G (20 + Int32.toNatClampNeg x2))) hx hb (tFA X) hS hi_3 rfl dX4_readFrequency_23 ?_
      obtain ⟨hg_4, hm⟩ := gl_s hm
      refine vk_getf hx hb (fFw X hg_4) hS hown (hts _ (List.mem_cons_of_mem _ kw1077)) (fun _ h => h) dX4_readFrequency_24 ?_
      refine lv_iload_n hx hb dX4_readFrequency_27 rfl (lv_at hl 1 rfl) ?_
      obtain ⟨r_5, e_5, hm⟩ := bd1_s hm
      refine goV_i (n := 2) (C := RX4) X (cQ4_isWord e_5) (gV kw354 kw356 ks_yX4_isWord kw7 kw357) (by decide +kernel) ⟨by decide, by decide⟩ (rc_reader hK hP) hP (dC (q1 := q) hD) hS rfl rfl hl.1 (Nat.le_of_ble_eq_true rfl) dX4_readFrequency_28 ⟨Nat.le_refl _, Nat.le_refl _⟩ (fun H locs hP _ hS => ?_)
      refine lv_if_eq (tgt := 47) hx hb dX4_readFrequency_31 (by decide) (fun c_6 => ?_) (fun c_6 => ?_)
      · have hm := (if_pos c_6).symm.trans hm
        refine lv_iinc (v := (x2 + 1)) (lv' := [(2, .int (x2 + 1)), (0, .ref (a 8)), (1, .int x1)]) hx hb dX4_readFrequency_47 hl (k := 2) rfl (by first | rfl | decide) (by decide) rfl (fun ls hl => ?_)
        refine lv_goto (tgt := 10) hx hb dX4_readFrequency_50 (by decide) ?_
        exact ih _ _ _ _ _ _ hm hP hS (lv_sub hl [1, 2, 0] rfl)
      · have hm := (if_neg c_6).symm.trans hm
        exact h1 _ _ _ _ _ hm hP hS (lv_sub hl [0, 2] rfl)
set_option maxHeartbeats 4000000 in
set_option maxRecDepth 100000 in
theorem cQ4_readFrequency {l : Launch} {G : Ev} {a : Nat → Nat} {T : va_W} {n : Nat} {q : Pc4} {q' : Pc4} (hm : moQ4_readFrequency n q = some q') : CtV l G yX4_readFrequency cX4_readFrequency 3 none 5 108 0 0 [.ref (a 8)] (wC G a T q) (wC G a T q') := by
  intro sz
  refine enter (by decide) (Nat.le_of_ble_eq_true rfl) ?_
  intro p e s m args below meth c ls X hsz hP hD hS hl
  subst hsz
  obtain ⟨⟨hx, hb, hml, hown, hts⟩, hK, hr, hlk, hA, hAs, hSta⟩ := id X
  have hl : lv_has ls 3 [(0, .ref (a 8))] := hl
  unfold moQ4_readFrequency at hm
  refine lv_aload_n hx hb dX4_readFrequency_0 rfl (lv_at hl 0 rfl) ?_
  refine lv_sipush (v := 200) hx hb dX4_readFrequency_1 (by decide) ?_
  obtain ⟨r_1, q_1, e_1, hm⟩ := bd2_s hm
  refine goV_i (n := 1) (C := RX4) X (cQ4_takeLetters e_1) (gV kw336 kw338 ks_yX4_takeLetters kw7 kw339) (by decide +kernel) ⟨by decide, by decide⟩ (rc_reader hK hP) hP (dC (q1 := q) hD) hS rfl rfl hl.1 (Nat.le_of_ble_eq_true rfl) dX4_readFrequency_4 ⟨Nat.le_refl _, Nat.le_refl _⟩ (fun H locs hP _ hS => ?_)
  refine lv_istore_n (lv' := [(1, .int r_1), (0, .ref (a 8))]) hx hb dX4_readFrequency_7 rfl hl (by decide) rfl (fun ls hl => ?_)
  refine lv_iconst (v := 0) hx hb dX4_readFrequency_8 (by decide) ?_
  refine lv_istore_n (lv' := [(2, .int 0), (1, .int r_1), (0, .ref (a 8))]) hx hb dX4_readFrequency_9 rfl hl (by decide) rfl (fun ls hl => ?_)
  refine lpQ4_readFrequency_10 X hD (fun z7_1 q_7 H locs ls hm hP hS hl => ?_) (fun z9_2 q_9 H locs ls hm hP hS hl => ?_) n _ _ _ _ _ _ hm hP hS (lv_sub hl [2, 1, 0] rfl)
  · refine lv_aload_n hx hb dX4_readFrequency_53 rfl (lv_at hl 0 rfl) ?_
    refine lv_iconst (v := 1) hx hb dX4_readFrequency_54 (by decide) ?_
    refine lv_iload_n hx hb dX4_readFrequency_55 rfl (lv_at hl 1 rfl) ?_
    obtain ⟨q_8, e_8, hm⟩ := bd1_s hm
    refine goV_v (n := 2) (C := RX4) X (cQ4_fail e_8) (gV kw344 kw346 ks_yX4_fail kw7 kw347) (by decide +kernel) ⟨by decide, by decide⟩ (rc_reader hK hP) hP (dC (q1 := q_7) hD) hS rfl rfl hl.1 (Nat.le_of_ble_eq_true rfl) dX4_readFrequency_56 ⟨Nat.le_refl _, Nat.le_refl _⟩ (fun H locs hP _ hS => ?_)
    exact ret_v (wf := wC G a T) X hm hP hS dX4_readFrequency_59
  · refine lv_aload_n hx hb dX4_readFrequency_34 rfl (lv_at hl 0 rfl) ?_
    refine gC_reader_rule X kw134 hP dX4_readFrequency_35 ?_
    refine va_getsN hx hb (zFA X) hS hown (va_Nw.use rfl hSta.2.2.2.2.2.2.2.2.2.2.2.2.2.2.2.2.2.2.2.2.2.1.2.2.2.1) (fun _ h => h) dX4_readFrequency_38 ?_
    refine lv_iload_n hx hb dX4_readFrequency_41 rfl (lv_at hl 1 rfl) ?_
    obtain ⟨hi_10, hm⟩ := gi_s hm
    refine vb_tq (v := .ref (sa G (20 + Int32.toNatClampNeg z9_2))) hx hb (tFA X) hS hi_10 rfl dX4_readFrequency_42 ?_
    refine pC_rule_frequency (v := (Int32.toNatClampNeg z9_2)) X kw77 hP (dC (q1 := q_9) hD) hS dX4_readFrequency_43 (fun H locs hP hS => ?_)
    have hP : va_P (DD G) vwCl (wC G a T (s4I q_9 2 (Int32.toNatClampNeg z9_2))) H := hP
    exact ret_v (wf := wC G a T) X hm hP hS dX4_readFrequency_46

-- RuledCalendar$Reader.seesFigure
def moQ4_seesFigure (n : Nat) (q : Pc4) : Option (Int32) :=
  (if (r4S q 11) ≤ (r4S q 12) then (some 0) else (ge (r4I q 0) 1 (gi (r4S q 12) 200 (if (r4A q 1 (r4S q 12)) < 48 then (some 0) else (ge (r4I q 0) 1 (gi (r4S q 12) 200 (if 57 < (r4A q 1 (r4S q 12)) then (some 0) else (some 1))))))))
set_option maxHeartbeats 4000000 in
set_option maxRecDepth 100000 in
theorem cQ4_seesFigure {l : Launch} {G : Ev} {a : Nat → Nat} {T : va_W} {n : Nat} {q : Pc4} {r : Int32} (hm : moQ4_seesFigure n q = some r) : CtI l G yX4_seesFigure cX4_seesFigure 1 (some .boolean) 0 0 0 0 [.ref (a 8)] (wC G a T q) (wC G a T q) r := by
  intro sz
  refine enter (by decide) (Nat.le_of_ble_eq_true rfl) ?_
  intro p e s m args below meth c ls X hsz hP hD hS hl
  subst hsz
  obtain ⟨⟨hx, hb, hml, hown, hts⟩, hK, hr, hlk, hA, hAs, hSta⟩ := id X
  have hl : lv_has ls 1 [(0, .ref (a 8))] := hl
  unfold moQ4_seesFigure at hm
  refine lv_aload_n hx hb dX4_seesFigure_0 rfl (lv_at hl 0 rfl) ?_
  refine gC_reader_at X kw137 hP dX4_seesFigure_1 ?_
  refine lv_aload_n hx hb dX4_seesFigure_4 rfl (lv_at hl 0 rfl) ?_
  refine gC_reader_length X kw136 hP dX4_seesFigure_5 ?_
  refine lv_icmp_ge (tgt := 43) hx hb dX4_seesFigure_8 (by decide) (fun c_1 => ?_) (fun c_1 => ?_)
  · have hm := (if_pos c_1).symm.trans hm
    refine lv_iconst (v := 0) hx hb dX4_seesFigure_43 (by decide) ?_
    exact ret_zo (wf := wC G a T) X (by decide) hm hP hS dX4_seesFigure_44
  · have hm := (if_neg c_1).symm.trans hm
    refine lv_aload_n hx hb dX4_seesFigure_11 rfl (lv_at hl 0 rfl) ?_
    refine gC_reader_text X kw135 hP dX4_seesFigure_12 ?_
    refine lv_aload_n hx hb dX4_seesFigure_15 rfl (lv_at hl 0 rfl) ?_
    refine gC_reader_at X kw137 hP dX4_seesFigure_16 ?_
    obtain ⟨hx_3, hm⟩ := ge_s hm
    obtain ⟨hi_2, hm⟩ := gi_s hm
    refine ldC_textx X hx_3 hP hi_2 dX4_seesFigure_19 ?_
    refine lv_bipush (v := 48) hx hb dX4_seesFigure_20 (by decide) ?_
    refine lv_icmp_lt (tgt := 43) hx hb dX4_seesFigure_22 (by decide) (fun c_4 => ?_) (fun c_4 => ?_)
    · have hm := (if_pos c_4).symm.trans hm
      refine lv_iconst (v := 0) hx hb dX4_seesFigure_43 (by decide) ?_
      exact ret_zo (wf := wC G a T) X (by decide) hm hP hS dX4_seesFigure_44
    · have hm := (if_neg c_4).symm.trans hm
      refine lv_aload_n hx hb dX4_seesFigure_25 rfl (lv_at hl 0 rfl) ?_
      refine gC_reader_text X kw135 hP dX4_seesFigure_26 ?_
      refine lv_aload_n hx hb dX4_seesFigure_29 rfl (lv_at hl 0 rfl) ?_
      refine gC_reader_at X kw137 hP dX4_seesFigure_30 ?_
      obtain ⟨hx_6, hm⟩ := ge_s hm
      obtain ⟨hi_5, hm⟩ := gi_s hm
      refine ldC_textx X hx_6 hP hi_5 dX4_seesFigure_33 ?_
      refine lv_bipush (v := 57) hx hb dX4_seesFigure_34 (by decide) ?_
      refine lv_icmp_gt (tgt := 43) hx hb dX4_seesFigure_36 (by decide) (fun c_7 => ?_) (fun c_7 => ?_)
      · have hm := (if_pos c_7).symm.trans hm
        refine lv_iconst (v := 0) hx hb dX4_seesFigure_43 (by decide) ?_
        exact ret_zo (wf := wC G a T) X (by decide) hm hP hS dX4_seesFigure_44
      · have hm := (if_neg c_7).symm.trans hm
        refine lv_iconst (v := 1) hx hb dX4_seesFigure_39 (by decide) ?_
        refine lv_goto (tgt := 44) hx hb dX4_seesFigure_40 (by decide) ?_
        exact ret_zo (wf := wC G a T) X (by decide) hm hP hS dX4_seesFigure_44
