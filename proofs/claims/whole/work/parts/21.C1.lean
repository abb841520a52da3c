-- RuledCalendar$Days.monthOf
def moQ0_monthOf (n : Nat) (x0 : Int32) : Option (Int32) :=
  (some (((((x0 / 10000) - 1900) * 12) + (rmI (x0 / 100) 100)) - 1))
set_option maxHeartbeats 4000000 in
set_option maxRecDepth 100000 in
theorem cQ0_monthOf {l : Launch} {G : Ev}  {n : Nat} {x0 : Int32} {r : Int32} (hm : moQ0_monthOf n x0  = some r) : CtI l G yX0_monthOf cX0_monthOf 1 (some .int) 0 0 0 0 [.int x0] (wN ()) (wN ()) r := by
  intro sz
  refine enter (by decide) (Nat.le_of_ble_eq_true rfl) ?_
  intro p e s m args below meth c ls X hsz hP hD hS hl
  subst hsz
  obtain ⟨⟨hx, hb, hml, hown, hts⟩, hK, hr, hlk, hA, hAs, hSta⟩ := id X
  have hl : lv_has ls 1 [(0, .int x0)] := hl
  unfold moQ0_monthOf at hm
  refine lv_iload_n hx hb dX0_monthOf_0 rfl (lv_at hl 0 rfl) ?_
  refine lv_sipush (v := 10000) hx hb dX0_monthOf_1 (by decide) ?_
  refine lv_idiv hx hb dX0_monthOf_4 (by decide) ?_
  refine lv_sipush (v := 1900) hx hb dX0_monthOf_5 (by decide) ?_
  refine lv_isub hx hb dX0_monthOf_8 ?_
  refine lv_bipush (v := 12) hx hb dX0_monthOf_9 (by decide) ?_
  refine lv_imul hx hb dX0_monthOf_11 ?_
  refine lv_iload_n hx hb dX0_monthOf_12 rfl (lv_at hl 0 rfl) ?_
  refine lv_bipush (v := 100) hx hb dX0_monthOf_13 (by decide) ?_
  refine lv_idiv hx hb dX0_monthOf_15 (by decide) ?_
  refine lv_bipush (v := 100) hx hb dX0_monthOf_16 (by decide) ?_
  refine lv_irem hx hb dX0_monthOf_18 (by decide) ?_
  refine lv_iadd hx hb dX0_monthOf_19 ?_
  refine lv_iconst (v := 1) hx hb dX0_monthOf_20 (by decide) ?_
  refine lv_isub hx hb dX0_monthOf_21 ?_
  exact ret_io (wf := wN) X hm hP hS dX0_monthOf_22

-- RuledCalendar$Days.isLeap
def moQ0_isLeap (n : Nat) (x0 : Int32) : Option (Int32) :=
  (if (rmI x0 4) = 0 then (if (rmI x0 100) = 0 then (if (rmI x0 400) = 0 then (some 1) else (some 0)) else (some 1)) else (if (rmI x0 400) = 0 then (some 1) else (some 0)))
set_option maxHeartbeats 4000000 in
set_option maxRecDepth 100000 in
theorem cQ0_isLeap {l : Launch} {G : Ev}  {n : Nat} {x0 : Int32} {r : Int32} (hm : moQ0_isLeap n x0  = some r) : CtI l G yX0_isLeap cX0_isLeap 1 (some .boolean) 0 0 0 0 [.int x0] (wN ()) (wN ()) r := by
  intro sz
  refine enter (by decide) (Nat.le_of_ble_eq_true rfl) ?_
  intro p e s m args below meth c ls X hsz hP hD hS hl
  subst hsz
  obtain ⟨⟨hx, hb, hml, hown, hts⟩, hK, hr, hlk, hA, hAs, hSta⟩ := id X
  have hl : lv_has ls 1 [(0, .int x0)] := hl
  unfold moQ0_isLeap at hm
  refine lv_iload_n hx hb dX0_isLeap_0 rfl (lv_at hl 0 rfl) ?_
  refine lv_iconst (v := 4) hx hb dX0_isLeap_1 (by decide) ?_
  refine lv_irem hx hb dX0_isLeap_2 (by decide) ?_
  refine lv_if_ne (tgt := 13) hx hb dX0_isLeap_3 (by decide) (fun c_1 => ?_) (fun c_1 => ?_)
  · have hm := (if_neg c_1).symm.trans hm
    refine lv_iload_n hx hb dX0_isLeap_13 rfl (lv_at hl 0 rfl) ?_
    refine lv_sipush (v := 400) hx hb dX0_isLeap_14 (by decide) ?_
    refine lv_irem hx hb dX0_isLeap_17 (by decide) ?_
    refine lv_if_ne (tgt := 25) hx hb dX0_isLeap_18 (by decide) (fun c_2 => ?_) (fun c_2 => ?_)
    · have hm := (if_neg c_2).symm.trans hm
      refine lv_iconst (v := 0) hx hb dX0_isLeap_25 (by decide) ?_
      exact ret_zo (wf := wN) X (by decide) hm hP hS dX0_isLeap_26
    · have hm := (if_pos c_2).symm.trans hm
      refine lv_iconst (v := 1) hx hb dX0_isLeap_21 (by decide) ?_
      refine lv_goto (tgt := 26) hx hb dX0_isLeap_22 (by decide) ?_
      exact ret_zo (wf := wN) X (by decide) hm hP hS dX0_isLeap_26
  · have hm := (if_pos c_1).symm.trans hm
    refine lv_iload_n hx hb dX0_isLeap_6 rfl (lv_at hl 0 rfl) ?_
    refine lv_bipush (v := 100) hx hb dX0_isLeap_7 (by decide) ?_
    refine lv_irem hx hb dX0_isLeap_9 (by decide) ?_
    refine lv_if_ne (tgt := 21) hx hb dX0_isLeap_10 (by decide) (fun c_3 => ?_) (fun c_3 => ?_)
    · have hm := (if_neg c_3).symm.trans hm
      refine lv_iconst (v := 1) hx hb dX0_isLeap_21 (by decide) ?_
      refine lv_goto (tgt := 26) hx hb dX0_isLeap_22 (by decide) ?_
      exact ret_zo (wf := wN) X (by decide) hm hP hS dX0_isLeap_26
    · have hm := (if_pos c_3).symm.trans hm
      refine lv_iload_n hx hb dX0_isLeap_13 rfl (lv_at hl 0 rfl) ?_
      refine lv_sipush (v := 400) hx hb dX0_isLeap_14 (by decide) ?_
      refine lv_irem hx hb dX0_isLeap_17 (by decide) ?_
      refine lv_if_ne (tgt := 25) hx hb dX0_isLeap_18 (by decide) (fun c_4 => ?_) (fun c_4 => ?_)
      · have hm := (if_neg c_4).symm.trans hm
        refine lv_iconst (v := 0) hx hb dX0_isLeap_25 (by decide) ?_
        exact ret_zo (wf := wN) X (by decide) hm hP hS dX0_isLeap_26
      · have hm := (if_pos c_4).symm.trans hm
        refine lv_iconst (v := 1) hx hb dX0_isLeap_21 (by decide) ?_
        refine lv_goto (tgt := 26) hx hb dX0_isLeap_22 (by decide) ?_
        exact ret_zo (wf := wN) X (by decide) hm hP hS dX0_isLeap_26

-- RuledCalendar$Days.lengthOf
def moQ0_lengthOf (n : Nat) (x0 : Int32) : Option (Int32) :=
  (if (rmI x0 12) = 1 then (bd1 (moQ0_isLeap n (1900 + (x0 / 12))) fun r_3 => (if r_3 = 0 then (gi (rmI x0 12) 12 (some (mlen (Int32.toNatClampNeg (rmI x0 12))))) else (some 29))) else (gi (rmI x0 12) 12 (some (mlen (Int32.toNatClampNeg (rmI x0 12))))))
set_option maxHeartbeats 4000000 in
set_option maxRecDepth 100000 in
theorem cQ0_lengthOf {l : Launch} {G : Ev}  {n : Nat} {x0 : Int32} {r : Int32} (hm : moQ0_lengthOf n x0  = some r) : CtI l G yX0_lengthOf cX0_lengthOf 2 (some .int) 1 20 0 0 [.int x0] (wN ()) (wN ()) r := by
  intro sz
  refine enter (by decide) (Nat.le_of_ble_eq_true rfl) ?_
  intro p e s m args below meth c ls X hsz hP hD hS hl
  subst hsz
  obtain ⟨⟨hx, hb, hml, hown, hts⟩, hK, hr, hlk, hA, hAs, hSta⟩ := id X
  have hl : lv_has ls 2 [(0, .int x0)] := hl
  unfold moQ0_lengthOf at hm
  refine lv_iload_n hx hb dX0_lengthOf_0 rfl (lv_at hl 0 rfl) ?_
  refine lv_bipush (v := 12) hx hb dX0_lengthOf_1 (by decide) ?_
  refine lv_irem hx hb dX0_lengthOf_3 (by decide) ?_
  refine lv_istore_n (lv' := [(1, .int (rmI x0 12)), (0, .int x0)]) hx hb dX0_lengthOf_4 rfl hl (by decide) rfl (fun ls hl => ?_)
  refine lv_iload_n hx hb dX0_lengthOf_5 rfl (lv_at hl 0 rfl) ?_
  refine lv_iconst (v := 1) hx hb dX0_lengthOf_6 (by decide) ?_
  refine lv_icmp_ne (tgt := 29) hx hb dX0_lengthOf_7 (by decide) (fun c_1 => ?_) (fun c_1 => ?_)
  · have hm := (if_neg c_1).symm.trans hm
    refine va_getsN hx hb (zML X) hS hown (va_Nw.use rfl hSta.2.2.2.2.2.2.2.2.2.2.2.2.2.2.2.2.2.2.2.2.2.1.1) (fun _ h => h) dX0_lengthOf_29 ?_
    refine lv_iload_n hx hb dX0_lengthOf_32 rfl (lv_at hl 0 rfl) ?_
    obtain ⟨hi_2, hm⟩ := gi_s hm
    refine va_ti (v := .int (mlen (Int32.toNatClampNeg (rmI x0 12)))) hx hb (tML X) hS hi_2 rfl dX0_lengthOf_33 ?_
    exact ret_io (wf := wN) X hm hP hS dX0_lengthOf_34
  · have hm := (if_pos c_1).symm.trans hm
    refine lv_sipush (v := 1900) hx hb dX0_lengthOf_10 (by decide) ?_
    refine lv_iload_n hx hb dX0_lengthOf_13 rfl (lv_at hl 1 rfl) ?_
    refine lv_bipush (v := 12) hx hb dX0_lengthOf_14 (by decide) ?_
    refine lv_idiv hx hb dX0_lengthOf_16 (by decide) ?_
    refine lv_iadd hx hb dX0_lengthOf_17 ?_
    obtain ⟨r_3, e_3, hm⟩ := bd1_s hm
    refine goS_i (n := 1) X (cQ0_isLeap e_3) (gS kw40 kw41 kw2 kw42) (by decide +kernel) ⟨by decide, by decide⟩ va_nil va_dnil hS rfl rfl hl.1 (Nat.le_of_ble_eq_true rfl) dX0_lengthOf_18 ⟨Nat.le_refl _, Nat.le_refl _⟩ (fun H locs _ hk hS => ?_)
    have hP : va_P (DD G) vwCl (wN ()) H := va_nil
    refine lv_if_eq (tgt := 29) hx hb dX0_lengthOf_21 (by decide) (fun c_4 => ?_) (fun c_4 => ?_)
    · have hm := (if_pos c_4).symm.trans hm
      refine va_getsN hx hb (zML X) hS hown (va_Nw.use rfl hSta.2.2.2.2.2.2.2.2.2.2.2.2.2.2.2.2.2.2.2.2.2.1.1) (fun _ h => h) dX0_lengthOf_29 ?_
      refine lv_iload_n hx hb dX0_lengthOf_32 rfl (lv_at hl 0 rfl) ?_
      obtain ⟨hi_5, hm⟩ := gi_s hm
      refine va_ti (v := .int (mlen (Int32.toNatClampNeg (rmI x0 12)))) hx hb (tML X) hS hi_5 rfl dX0_lengthOf_33 ?_
      exact ret_io (wf := wN) X hm hP hS dX0_lengthOf_34
    · have hm := (if_neg c_4).symm.trans hm
      refine lv_bipush (v := 29) hx hb dX0_lengthOf_24 (by decide) ?_
      refine lv_goto (tgt := 34) hx hb dX0_lengthOf_26 (by decide) ?_
      exact ret_io (wf := wN) X hm hP hS dX0_lengthOf_34

-- RuledCalendar$Days.isDate
def moQ0_isDate (n : Nat) (x0 : Int32) : Option (Int32) :=
  (if x0 < 19000101 then (some 0) else (if x0 ≤ 21991231 then (if (rmI (x0 / 100) 100) < 1 then (some 0) else (if 12 < (rmI (x0 / 100) 100) then (some 0) else (if (rmI x0 100) < 1 then (some 0) else (bd1 (moQ0_monthOf n x0) fun r_6 => (bd1 (moQ0_lengthOf n r_6) fun r_7 => (if r_7 < (rmI x0 100) then (some 0) else (some 1))))))) else (some 0)))
set_option maxHeartbeats 4000000 in
set_option maxRecDepth 100000 in
theorem cQ0_isDate {l : Launch} {G : Ev}  {n : Nat} {x0 : Int32} {r : Int32} (hm : moQ0_isDate n x0  = some r) : CtI l G yX0_isDate cX0_isDate 3 (some .boolean) 2 41 0 0 [.int x0] (wN ()) (wN ()) r := by
  intro sz
  refine enter (by decide) (Nat.le_of_ble_eq_true rfl) ?_
  intro p e s m args below meth c ls X hsz hP hD hS hl
  subst hsz
  obtain ⟨⟨hx, hb, hml, hown, hts⟩, hK, hr, hlk, hA, hAs, hSta⟩ := id X
  have hl : lv_has ls 3 [(0, .int x0)] := hl
  unfold moQ0_isDate at hm
  refine lv_iload_n hx hb dX0_isDate_0 rfl (lv_at hl 0 rfl) ?_
  refine lv_ldc (v := 19000101) hx hb hown (hts _ (List.mem_cons_of_mem _ kw315)) dX0_isDate_1 ?_
  refine lv_icmp_lt (tgt := 12) hx hb dX0_isDate_3 (by decide) (fun c_1 => ?_) (fun c_1 => ?_)
  · have hm := (if_pos c_1).symm.trans hm
    refine lv_iconst (v := 0) hx hb dX0_isDate_12 (by decide) ?_
    exact ret_zo (wf := wN) X (by decide) hm hP hS dX0_isDate_13
  · have hm := (if_neg c_1).symm.trans hm
    refine lv_iload_n hx hb dX0_isDate_6 rfl (lv_at hl 0 rfl) ?_
    refine lv_ldc (v := 21991231) hx hb hown (hts _ (List.mem_cons_of_mem _ kw316)) dX0_isDate_7 ?_
    refine lv_icmp_le (tgt := 14) hx hb dX0_isDate_9 (by decide) (fun c_2 => ?_) (fun c_2 => ?_)
    · have hm := (if_pos c_2).symm.trans hm
      refine lv_iload_n hx hb dX0_isDate_14 rfl (lv_at hl 0 rfl) ?_
      refine lv_bipush (v := 100) hx hb dX0_isDate_15 (by decide) ?_
      refine lv_idiv hx hb dX0_isDate_17 (by decide) ?_
      refine lv_bipush (v := 100) hx hb dX0_isDate_18 (by decide) ?_
      refine lv_irem hx hb dX0_isDate_20 (by decide) ?_
      refine lv_istore_n (lv' := [(1, .int (rmI (x0 / 100) 100)), (0, .int x0)]) hx hb dX0_isDate_21 rfl hl (by decide) rfl (fun ls hl => ?_)
      refine lv_iload_n hx hb dX0_isDate_22 rfl (lv_at hl 1 rfl) ?_
      refine lv_bipush (v := 100) hx hb dX0_isDate_23 (by decide) ?_
      refine lv_irem hx hb dX0_isDate_25 (by decide) ?_
      refine lv_istore_n (lv' := [(2, .int (rmI x0 100)), (1, .int (rmI (x0 / 100) 100)), (0, .int x0)]) hx hb dX0_isDate_26 rfl hl (by decide) rfl (fun ls hl => ?_)
      refine lv_iload_n hx hb dX0_isDate_27 rfl (lv_at hl 1 rfl) ?_
      refine lv_iconst (v := 1) hx hb dX0_isDate_28 (by decide) ?_
      refine lv_icmp_lt (tgt := 58) hx hb dX0_isDate_29 (by decide) (fun c_3 => ?_) (fun c_3 => ?_)
      · have hm := (if_pos c_3).symm.trans hm
        refine lv_iconst (v := 0) hx hb dX0_isDate_58 (by decide) ?_
        exact ret_zo (wf := wN) X (by decide) hm hP hS dX0_isDate_59
      · have hm := (if_neg c_3).symm.trans hm
        refine lv_iload_n hx hb dX0_isDate_32 rfl (lv_at hl 1 rfl) ?_
        refine lv_bipush (v := 12) hx hb dX0_isDate_33 (by decide) ?_
        refine lv_icmp_gt (tgt := 58) hx hb dX0_isDate_35 (by decide) (fun c_4 => ?_) (fun c_4 => ?_)
        · have hm := (if_pos c_4).symm.trans hm
          refine lv_iconst (v := 0) hx hb dX0_isDate_58 (by decide) ?_
          exact ret_zo (wf := wN) X (by decide) hm hP hS dX0_isDate_59
        · have hm := (if_neg c_4).symm.trans hm
          refine lv_iload_n hx hb dX0_isDate_38 rfl (lv_at hl 0 rfl) ?_
          refine lv_iconst (v := 1) hx hb dX0_isDate_39 (by decide) ?_
          refine lv_icmp_lt (tgt := 58) hx hb dX0_isDate_40 (by decide) (fun c_5 => ?_) (fun c_5 => ?_)
          · have hm := (if_pos c_5).symm.trans hm
            refine lv_iconst (v := 0) hx hb dX0_isDate_58 (by decide) ?_
            exact ret_zo (wf := wN) X (by decide) hm hP hS dX0_isDate_59
          · have hm := (if_neg c_5).symm.trans hm
            refine lv_iload_n hx hb dX0_isDate_43 rfl (lv_at hl 0 rfl) ?_
            refine lv_iload_n hx hb dX0_isDate_44 rfl (lv_at hl 2 rfl) ?_
            obtain ⟨r_6, e_6, hm⟩ := bd1_s hm
            refine goS_i (n := 1) X (cQ0_monthOf e_6) (gS kw317 kw318 kw2 kw319) (by decide +kernel) ⟨by decide, by decide⟩ va_nil va_dnil hS rfl rfl hl.1 (Nat.le_of_ble_eq_true rfl) dX0_isDate_45 ⟨Nat.le_refl _, Nat.le_refl _⟩ (fun H locs _ hk hS => ?_)
            have hP : va_P (DD G) vwCl (wN ()) H := va_nil
            obtain ⟨r_7, e_7, hm⟩ := bd1_s hm
            refine goS_i (n := 1) X (cQ0_lengthOf e_7) (gS kw37 kw38 kw2 kw39) (by decide +kernel) ⟨by decide, by decide⟩ va_nil va_dnil hS rfl rfl hl.1 (Nat.le_of_ble_eq_true rfl) dX0_isDate_48 ⟨Nat.le_refl _, Nat.le_refl _⟩ (fun H locs _ hk hS => ?_)
            have hP : va_P (DD G) vwCl (wN ()) H := va_nil
            refine lv_icmp_gt (tgt := 58) hx hb dX0_isDate_51 (by decide) (fun c_8 => ?_) (fun c_8 => ?_)
            · have hm := (if_pos c_8).symm.trans hm
              refine lv_iconst (v := 0) hx hb dX0_isDate_58 (by decide) ?_
              exact ret_zo (wf := wN) X (by decide) hm hP hS dX0_isDate_59
            · have hm := (if_neg c_8).symm.trans hm
              refine lv_iconst (v := 1) hx hb dX0_isDate_54 (by decide) ?_
              refine lv_goto (tgt := 59) hx hb dX0_isDate_55 (by decide) ?_
              exact ret_zo (wf := wN) X (by decide) hm hP hS dX0_isDate_59
    · have hm := (if_neg c_2).symm.trans hm
      refine lv_iconst (v := 0) hx hb dX0_isDate_12 (by decide) ?_
      exact ret_zo (wf := wN) X (by decide) hm hP hS dX0_isDate_13

-- RuledCalendar$Days.dayOf
def moQ0_dayOf (n : Nat) (x0 : Int32) : Option (Int32) :=
  (some ((rmI x0 100) - 1))
set_option maxHeartbeats 4000000 in
set_option maxRecDepth 100000 in
theorem cQ0_dayOf {l : Launch} {G : Ev}  {n : Nat} {x0 : Int32} {r : Int32} (hm : moQ0_dayOf n x0  = some r) : CtI l G yX0_dayOf cX0_dayOf 1 (some .int) 0 0 0 0 [.int x0] (wN ()) (wN ()) r := by
  intro sz
  refine enter (by decide) (Nat.le_of_ble_eq_true rfl) ?_
  intro p e s m args below meth c ls X hsz hP hD hS hl
  subst hsz
  obtain ⟨⟨hx, hb, hml, hown, hts⟩, hK, hr, hlk, hA, hAs, hSta⟩ := id X
  have hl : lv_has ls 1 [(0, .int x0)] := hl
  unfold moQ0_dayOf at hm
  refine lv_iload_n hx hb dX0_dayOf_0 rfl (lv_at hl 0 rfl) ?_
  refine lv_bipush (v := 100) hx hb dX0_dayOf_1 (by decide) ?_
  refine lv_irem hx hb dX0_dayOf_3 (by decide) ?_
  refine lv_iconst (v := 1) hx hb dX0_dayOf_4 (by decide) ?_
  refine lv_isub hx hb dX0_dayOf_5 ?_
  exact ret_io (wf := wN) X hm hP hS dX0_dayOf_6

-- RuledCalendar$Days.dateAt
def moQ0_dateAt (n : Nat) (x0 : Int32) (x1 : Int32) : Option (Int32) :=
  (some (((((1900 + (x0 / 12)) * 10000) + (((rmI x0 12) + 1) * 100)) + x1) + 1))
set_option maxHeartbeats 4000000 in
set_option maxRecDepth 100000 in
theorem cQ0_dateAt {l : Launch} {G : Ev}  {n : Nat} {x0 : Int32} {x1 : Int32} {r : Int32} (hm : moQ0_dateAt n x0 x1  = some r) : CtI l G yX0_dateAt cX0_dateAt 2 (some .int) 0 0 0 0 [.int x0, .int x1] (wN ()) (wN ()) r := by
  intro sz
  refine enter (by decide) (Nat.le_of_ble_eq_true rfl) ?_
  intro p e s m args below meth c ls X hsz hP hD hS hl
  subst hsz
  obtain ⟨⟨hx, hb, hml, hown, hts⟩, hK, hr, hlk, hA, hAs, hSta⟩ := id X
  have hl : lv_has ls 2 [(0, .int x0), (1, .int x1)] := hl
  unfold moQ0_dateAt at hm
  refine lv_sipush (v := 1900) hx hb dX0_dateAt_0 (by decide) ?_
  refine lv_iload_n hx hb dX0_dateAt_3 rfl (lv_at hl 0 rfl) ?_
  refine lv_bipush (v := 12) hx hb dX0_dateAt_4 (by decide) ?_
  refine lv_idiv hx hb dX0_dateAt_6 (by decide) ?_
  refine lv_iadd hx hb dX0_dateAt_7 ?_
  refine lv_sipush (v := 10000) hx hb dX0_dateAt_8 (by decide) ?_
  refine lv_imul hx hb dX0_dateAt_11 ?_
  refine lv_iload_n hx hb dX0_dateAt_12 rfl (lv_at hl 0 rfl) ?_
  refine lv_bipush (v := 12) hx hb dX0_dateAt_13 (by decide) ?_
  refine lv_irem hx hb dX0_dateAt_15 (by decide) ?_
  refine lv_iconst (v := 1) hx hb dX0_dateAt_16 (by decide) ?_
  refine lv_iadd hx hb dX0_dateAt_17 ?_
  refine lv_bipush (v := 100) hx hb dX0_dateAt_18 (by decide) ?_
  refine lv_imul hx hb dX0_dateAt_20 ?_
  refine lv_iadd hx hb dX0_dateAt_21 ?_
  refine lv_iload_n hx hb dX0_dateAt_22 rfl (lv_at hl 1 rfl) ?_
  refine lv_iadd hx hb dX0_dateAt_23 ?_
  refine lv_iconst (v := 1) hx hb dX0_dateAt_24 (by decide) ?_
  refine lv_iadd hx hb dX0_dateAt_25 ?_
  exact ret_io (wf := wN) X hm hP hS dX0_dateAt_26

-- RuledCalendar$Days.januaryOf
def moQ0_januaryOf (n : Nat) (x0 : Int32) : Option (Int32) :=
  (some (x0 - (rmI x0 12)))
set_option maxHeartbeats 4000000 in
set_option maxRecDepth 100000 in
theorem cQ0_januaryOf {l : Launch} {G : Ev}  {n : Nat} {x0 : Int32} {r : Int32} (hm : moQ0_januaryOf n x0  = some r) : CtI l G yX0_januaryOf cX0_januaryOf 1 (some .int) 0 0 0 0 [.int x0] (wN ()) (wN ()) r := by
  intro sz
  refine enter (by decide) (Nat.le_of_ble_eq_true rfl) ?_
  intro p e s m args below meth c ls X hsz hP hD hS hl
  subst hsz
  obtain ⟨⟨hx, hb, hml, hown, hts⟩, hK, hr, hlk, hA, hAs, hSta⟩ := id X
  have hl : lv_has ls 1 [(0, .int x0)] := hl
  unfold moQ0_januaryOf at hm
  refine lv_iload_n hx hb dX0_januaryOf_0 rfl (lv_at hl 0 rfl) ?_
  refine lv_iload_n hx hb dX0_januaryOf_1 rfl (lv_at hl 0 rfl) ?_
  refine lv_bipush (v := 12) hx hb dX0_januaryOf_2 (by decide) ?_
  refine lv_irem hx hb dX0_januaryOf_4 (by decide) ?_
  refine lv_isub hx hb dX0_januaryOf_5 ?_
  exact ret_io (wf := wN) X hm hP hS dX0_januaryOf_6

-- RuledCalendar$Days.between
def moQ0_between (n : Nat) (x0 : Int32) (x1 : Int32) (x2 : Int32) : Option (Int32) :=
  (bd1 (moQ0_monthOf n x1) fun r_1 => (if x0 = r_1 then (bd1 (moQ0_dayOf n x1) fun r_6 => (bd1 (moQ0_monthOf n x2) fun r_7 => (if x0 = r_7 then (bd1 (moQ0_dayOf n x2) fun r_9 => (some ((2147483647 &&& (slI (-1) r_6)) &&& ((slI 2 r_9) - 1)))) else (some (2147483647 &&& (slI (-1) r_6)))))) else (bd1 (moQ0_monthOf n x2) fun r_3 => (if x0 = r_3 then (bd1 (moQ0_dayOf n x2) fun r_5 => (some (2147483647 &&& ((slI 2 r_5) - 1)))) else (some 2147483647)))))
set_option maxHeartbeats 4000000 in
set_option maxRecDepth 100000 in
theorem cQ0_between {l : Launch} {G : Ev}  {n : Nat} {x0 : Int32} {x1 : Int32} {x2 : Int32} {r : Int32} (hm : moQ0_between n x0 x1 x2  = some r) : CtI l G yX0_between cX0_between 4 (some .int) 1 20 0 0 [.int x0, .int x1, .int x2] (wN ()) (wN ()) r := by
  intro sz
  refine enter (by decide) (Nat.le_of_ble_eq_true rfl) ?_
  intro p e s m args below meth c ls X hsz hP hD hS hl
  subst hsz
  obtain ⟨⟨hx, hb, hml, hown, hts⟩, hK, hr, hlk, hA, hAs, hSta⟩ := id X
  have hl : lv_has ls 4 [(0, .int x0), (1, .int x1), (2, .int x2)] := hl
  unfold moQ0_between at hm
  refine lv_ldc (v := 2147483647) hx hb hown (hts _ (List.mem_cons_of_mem _ kw618)) dX0_between_0 ?_
  refine lv_istore_n (lv' := [(3, .int 2147483647), (0, .int x0), (1, .int x1), (2, .int x2)]) hx hb dX0_between_2 rfl hl (by decide) rfl (fun ls hl => ?_)
  refine lv_iload_n hx hb dX0_between_3 rfl (lv_at hl 1 rfl) ?_
  refine lv_iload_n hx hb dX0_between_4 rfl (lv_at hl 2 rfl) ?_
  obtain ⟨r_1, e_1, hm⟩ := bd1_s hm
  refine goS_i (n := 1) X (cQ0_monthOf e_1) (gS kw317 kw318 kw2 kw319) (by decide +kernel) ⟨by decide, by decide⟩ va_nil va_dnil hS rfl rfl hl.1 (Nat.le_of_ble_eq_true rfl) dX0_between_5 ⟨Nat.le_refl _, Nat.le_refl _⟩ (fun H locs _ hk hS => ?_)
  have hP : va_P (DD G) vwCl (wN ()) H := va_nil
  refine lv_icmp_ne (tgt := 20) hx hb dX0_between_8 (by decide) (fun c_2 => ?_) (fun c_2 => ?_)
  · have hm := (if_neg c_2).symm.trans hm
    refine lv_iload_n hx hb dX0_between_20 rfl (lv_at hl 1 rfl) ?_
    refine lv_iload_n hx hb dX0_between_21 rfl (lv_at hl 3 rfl) ?_
    obtain ⟨r_3, e_3, hm⟩ := bd1_s hm
    refine goS_i (n := 1) X (cQ0_monthOf e_3) (gS kw317 kw318 kw2 kw319) (by decide +kernel) ⟨by decide, by decide⟩ va_nil va_dnil hS rfl rfl hl.1 (Nat.le_of_ble_eq_true rfl) dX0_between_22 ⟨Nat.le_refl _, Nat.le_refl _⟩ (fun H locs _ hk hS => ?_)
    have hP : va_P (DD G) vwCl (wN ()) H := va_nil
    refine lv_icmp_ne (tgt := 39) hx hb dX0_between_25 (by decide) (fun c_4 => ?_) (fun c_4 => ?_)
    · have hm := (if_neg c_4).symm.trans hm
      refine lv_iload_n hx hb dX0_between_39 rfl (lv_at hl 0 rfl) ?_
      exact ret_io (wf := wN) X hm hP hS dX0_between_40
    · have hm := (if_pos c_4).symm.trans hm
      refine lv_iload_n hx hb dX0_between_28 rfl (lv_at hl 0 rfl) ?_
      refine lv_iconst (v := 2) hx hb dX0_between_29 (by decide) ?_
      refine lv_iload_n hx hb dX0_between_30 rfl (lv_at hl 3 rfl) ?_
      obtain ⟨r_5, e_5, hm⟩ := bd1_s hm
      refine goS_i (n := 1) X (cQ0_dayOf e_5) (gS kw526 kw527 kw2 kw528) (by decide +kernel) ⟨by decide, by decide⟩ va_nil va_dnil hS rfl rfl hl.1 (Nat.le_of_ble_eq_true rfl) dX0_between_31 ⟨Nat.le_refl _, Nat.le_refl _⟩ (fun H locs _ hk hS => ?_)
      have hP : va_P (DD G) vwCl (wN ()) H := va_nil
      refine lv_ishl hx hb dX0_between_34 ?_
      refine lv_iconst (v := 1) hx hb dX0_between_35 (by decide) ?_
      refine lv_isub hx hb dX0_between_36 ?_
      refine lv_iand hx hb dX0_between_37 ?_
      refine lv_istore_n (lv' := [(3, .int (2147483647 &&& ((slI 2 r_5) - 1))), (0, .int x0), (1, .int x1), (2, .int x2)]) hx hb dX0_between_38 rfl hl (by decide) rfl (fun ls hl => ?_)
      refine lv_iload_n hx hb dX0_between_39 rfl (lv_at hl 0 rfl) ?_
      exact ret_io (wf := wN) X hm hP hS dX0_between_40
  · have hm := (if_pos c_2).symm.trans hm
    refine lv_iload_n hx hb dX0_between_11 rfl (lv_at hl 0 rfl) ?_
    refine lv_iconst (v := (-1)) hx hb dX0_between_12 (by decide) ?_
    refine lv_iload_n hx hb dX0_between_13 rfl (lv_at hl 2 rfl) ?_
    obtain ⟨r_6, e_6, hm⟩ := bd1_s hm
    refine goS_i (n := 1) X (cQ0_dayOf e_6) (gS kw526 kw527 kw2 kw528) (by decide +kernel) ⟨by decide, by decide⟩ va_nil va_dnil hS rfl rfl hl.1 (Nat.le_of_ble_eq_true rfl) dX0_between_14 ⟨Nat.le_refl _, Nat.le_refl _⟩ (fun H locs _ hk hS => ?_)
    have hP : va_P (DD G) vwCl (wN ()) H := va_nil
    refine lv_ishl hx hb dX0_between_17 ?_
    refine lv_iand hx hb dX0_between_18 ?_
    refine lv_istore_n (lv' := [(3, .int (2147483647 &&& (slI (-1) r_6))), (0, .int x0), (1, .int x1), (2, .int x2)]) hx hb dX0_between_19 rfl hl (by decide) rfl (fun ls hl => ?_)
    refine lv_iload_n hx hb dX0_between_20 rfl (lv_at hl 1 rfl) ?_
    refine lv_iload_n hx hb dX0_between_21 rfl (lv_at hl 3 rfl) ?_
    obtain ⟨r_7, e_7, hm⟩ := bd1_s hm
    refine goS_i (n := 1) X (cQ0_monthOf e_7) (gS kw317 kw318 kw2 kw319) (by decide +kernel) ⟨by decide, by decide⟩ va_nil va_dnil hS rfl rfl hl.1 (Nat.le_of_ble_eq_true rfl) dX0_between_22 ⟨Nat.le_refl _, Nat.le_refl _⟩ (fun H locs _ hk hS => ?_)
    have hP : va_P (DD G) vwCl (wN ()) H := va_nil
    refine lv_icmp_ne (tgt := 39) hx hb dX0_between_25 (by decide) (fun c_8 => ?_) (fun c_8 => ?_)
    · have hm := (if_neg c_8).symm.trans hm
      refine lv_iload_n hx hb dX0_between_39 rfl (lv_at hl 0 rfl) ?_
      exact ret_io (wf := wN) X hm hP hS dX0_between_40
    · have hm := (if_pos c_8).symm.trans hm
      refine lv_iload_n hx hb dX0_between_28 rfl (lv_at hl 0 rfl) ?_
      refine lv_iconst (v := 2) hx hb dX0_between_29 (by decide) ?_
      refine lv_iload_n hx hb dX0_between_30 rfl (lv_at hl 3 rfl) ?_
      obtain ⟨r_9, e_9, hm⟩ := bd1_s hm
      refine goS_i (n := 1) X (cQ0_dayOf e_9) (gS kw526 kw527 kw2 kw528) (by decide +kernel) ⟨by decide, by decide⟩ va_nil va_dnil hS rfl rfl hl.1 (Nat.le_of_ble_eq_true rfl) dX0_between_31 ⟨Nat.le_refl _, Nat.le_refl _⟩ (fun H locs _ hk hS => ?_)
      have hP : va_P (DD G) vwCl (wN ()) H := va_nil
      refine lv_ishl hx hb dX0_between_34 ?_
      refine lv_iconst (v := 1) hx hb dX0_between_35 (by decide) ?_
      refine lv_isub hx hb dX0_between_36 ?_
      refine lv_iand hx hb dX0_between_37 ?_
      refine lv_istore_n (lv' := [(3, .int ((2147483647 &&& (slI (-1) r_6)) &&& ((slI 2 r_9) - 1))), (0, .int x0), (1, .int x1), (2, .int x2)]) hx hb dX0_between_38 rfl hl (by decide) rfl (fun ls hl => ?_)
      refine lv_iload_n hx hb dX0_between_39 rfl (lv_at hl 0 rfl) ?_
      exact ret_io (wf := wN) X hm hP hS dX0_between_40

-- RuledCalendar$Days.lowest
def moQ0_lowest_L4 {α : Type} (n : Nat) (q : Unit) (K0 : Int32 → Int32 → Option α) : Nat → Int32 → Int32 → Int32 → Int32 → Option α
  | 0, _, _, _, _ => none
  | k + 1, x0, x1, x2, x3 => (if x1 ≤ x3 then (K0 x0 x2 ) else (if x2 = 0 then (K0 x0 x2 ) else (moQ0_lowest_L4 n q K0 k x0 x1 (x2 &&& (x2 - 1)) (x3 + 1) )))
def moQ0_lowest (n : Nat) (x0 : Int32) (x1 : Int32) : Option (Int32) :=
  (moQ0_lowest_L4 n () (fun z3_0 z3_2 => (some (z3_0 &&& (z3_2 ^^^ (-1))))) n x0 x1 x0 0 )
set_option maxHeartbeats 4000000 in
set_option maxRecDepth 100000 in
theorem lpQ0_lowest_4 {p : Program} {l : Launch} {e : Env} {s : State} {m : MethodId} {args : Array Value} {below : List Frame} {meth : Method} {c : Code} {G : Ev}  {Q : State → Prop} {A : Nat → Prop} {q : Unit} (X : CX p s m args meth c cX0_lowest 4 (some .int) RX0 (.code yX0_lowest cX0_lowest 4 (some .int)) G A) (hD : va_D A (wN q)) {α : Type} {o : α} {n : Nat} {K0 : Int32 → Int32 → Option α} (h0 : ∀ (y0 : Int32) (y2 : Int32) (H : Heap) (locs : List Loc) (ls : Array Slot), K0 y0 y2  = some o → va_P (DD G) vwCl (wN q) H → va_S A s.heap H locs → lv_has ls 4 [(0, .int y0), (2, .int y2)] → W p l e { frames := 0, cells := 0, slots := 0, locals := 0 } s m args below meth c H locs 0 0 Q (F0 m 25 ls [])) : ∀ (k : Nat) (x0 : Int32) (x1 : Int32) (x2 : Int32) (x3 : Int32) (H : Heap) (locs : List Loc) (ls : Array Slot), moQ0_lowest_L4 n q K0 k x0 x1 x2 x3  = some o → va_P (DD G) vwCl (wN q) H → va_S A s.heap H locs → lv_has ls 4 [(0, .int x0), (1, .int x1), (2, .int x2), (3, .int x3)] → W p l e { frames := 0, cells := 0, slots := 0, locals := 0 } s m args below meth c H locs 0 0 Q (F0 m 4 ls []) := by
  obtain ⟨⟨hx, hb, hml, hown, hts⟩, hK, hr, hlk, hA, hAs, hSta⟩ := id X
  intro k
  induction k with
  | zero =>
    intro x0 x1 x2 x3 H locs ls hm
    have hm : none = some o := hm
    cases hm
  | succ k ih =>
    intro x0 x1 x2 x3 H locs ls hm hP hS hl
    rw [moQ0_lowest_L4] at hm
    refine lv_iload_n hx hb dX0_lowest_4 rfl (lv_at hl 3 rfl) ?_
    refine lv_iload_n hx hb dX0_lowest_5 rfl (lv_at hl 1 rfl) ?_
    refine lv_icmp_ge (tgt := 25) hx hb dX0_lowest_6 (by decide) (fun c_1 => ?_) (fun c_1 => ?_)
    · have hm := (if_pos c_1).symm.trans hm
      exact h0 _ _ _ _ _ hm hP hS (lv_sub hl [0, 2] rfl)
    · have hm := (if_neg c_1).symm.trans hm
      refine lv_iload_n hx hb dX0_lowest_9 rfl (lv_at hl 2 rfl) ?_
      refine lv_if_eq (tgt := 25) hx hb dX0_lowest_10 (by decide) (fun c_2 => ?_) (fun c_2 => ?_)
      · have hm := (if_pos c_2).symm.trans hm
        exact h0 _ _ _ _ _ hm hP hS (lv_sub hl [0, 2] rfl)
      · have hm := (if_neg c_2).symm.trans hm
        refine lv_iload_n hx hb dX0_lowest_13 rfl (lv_at hl 2 rfl) ?_
        refine lv_iload_n hx hb dX0_lowest_14 rfl (lv_at hl 2 rfl) ?_
        refine lv_iconst (v := 1) hx hb dX0_lowest_15 (by decide) ?_
        refine lv_isub hx hb dX0_lowest_16 ?_
        refine lv_iand hx hb dX0_lowest_17 ?_
        refine lv_istore_n (lv' := [(2, .int (x2 &&& (x2 - 1))), (0, .int x0), (1, .int x1), (3, .int x3)]) hx hb dX0_lowest_18 rfl hl (by decide) rfl (fun ls hl => ?_)
        refine lv_iinc (v := (x3 + 1)) (lv' := [(3, .int (x3 + 1)), (2, .int (x2 &&& (x2 - 1))), (0, .int x0), (1, .int x1)]) hx hb dX0_lowest_19 hl (k := 3) rfl (by first | rfl | decide) (by decide) rfl (fun ls hl => ?_)
        refine lv_goto (tgt := 4) hx hb dX0_lowest_22 (by decide) ?_
        exact ih _ _ _ _ _ _ _ hm hP hS (lv_sub hl [2, 3, 1, 0] rfl)
set_option maxHeartbeats 4000000 in
set_option maxRecDepth 100000 in
theorem cQ0_lowest {l : Launch} {G : Ev}  {n : Nat} {x0 : Int32} {x1 : Int32} {r : Int32} (hm : moQ0_lowest n x0 x1  = some r) : CtI l G yX0_lowest cX0_lowest 4 (some .int) 0 0 0 0 [.int x0, .int x1] (wN ()) (wN ()) r := by
  intro sz
  refine enter (by decide) (Nat.le_of_ble_eq_true rfl) ?_
  intro p e s m args below meth c ls X hsz hP hD hS hl
  subst hsz
  obtain ⟨⟨hx, hb, hml, hown, hts⟩, hK, hr, hlk, hA, hAs, hSta⟩ := id X
  have hl : lv_has ls 4 [(0, .int x0), (1, .int x1)] := hl
  unfold moQ0_lowest at hm
  refine lv_iload_n hx hb dX0_lowest_0 rfl (lv_at hl 0 rfl) ?_
  refine lv_istore_n (lv' := [(2, .int x0), (0, .int x0), (1, .int x1)]) hx hb dX0_lowest_1 rfl hl (by decide) rfl (fun ls hl => ?_)
  refine lv_iconst (v := 0) hx hb dX0_lowest_2 (by decide) ?_
  refine lv_istore_n (lv' := [(3, .int 0), (2, .int x0), (0, .int x0), (1, .int x1)]) hx hb dX0_lowest_3 rfl hl (by decide) rfl (fun ls hl => ?_)
  refine lpQ0_lowest_4 X hD (fun z3_0 z3_2 H locs ls hm hP hS hl => ?_) n _ _ _ _ _ _ _ hm hP hS (lv_sub hl [2, 3, 1, 0] rfl)
  refine lv_iload_n hx hb dX0_lowest_25 rfl (lv_at hl 0 rfl) ?_
  refine lv_iload_n hx hb dX0_lowest_26 rfl (lv_at hl 1 rfl) ?_
  refine lv_iconst (v := (-1)) hx hb dX0_lowest_27 (by decide) ?_
  refine lv_ixor hx hb dX0_lowest_28 ?_
  refine lv_iand hx hb dX0_lowest_29 ?_
  exact ret_io (wf := wN) X hm hP hS dX0_lowest_30

-- RuledCalendar$Days.numberOf
def moQ0_numberOf (n : Nat) (x1 : Int32) (q : Pc4) : Option (Int32) :=
  (bd1 (moQ0_monthOf n x1) fun r_1 => (gi r_1 3601 (bd1 (moQ0_dayOf n x1) fun r_3 => (some ((r4A q 3 r_1) + r_3)))))
set_option maxHeartbeats 4000000 in
set_option maxRecDepth 100000 in
theorem cQ0_numberOf {l : Launch} {G : Ev} {a : Nat → Nat} {T : va_W} {n : Nat} {q : Pc4} {x1 : Int32} {r : Int32} (hm : moQ0_numberOf n x1 q = some r) : CtI l G yX0_numberOf cX0_numberOf 2 (some .int) 1 20 0 0 [.ref (a 2), .int x1] (wC G a T q) (wC G a T q) r := by
  intro sz
  refine enter (by decide) (Nat.le_of_ble_eq_true rfl) ?_
  intro p e s m args below meth c ls X hsz hP hD hS hl
  subst hsz
  obtain ⟨⟨hx, hb, hml, hown, hts⟩, hK, hr, hlk, hA, hAs, hSta⟩ := id X
  have hl : lv_has ls 2 [(0, .ref (a 2)), (1, .int x1)] := hl
  unfold moQ0_numberOf at hm
  refine lv_aload_n hx hb dX0_numberOf_0 rfl (lv_at hl 0 rfl) ?_
  refine gC_days_first X kw45 hP dX0_numberOf_1 ?_
  refine lv_iload_n hx hb dX0_numberOf_4 rfl (lv_at hl 1 rfl) ?_
  obtain ⟨r_1, e_1, hm⟩ := bd1_s hm
  refine goS_i (n := 1) X (cQ0_monthOf e_1) (gS kw317 kw318 kw2 kw319) (by decide +kernel) ⟨by decide, by decide⟩ va_nil va_dnil hS rfl rfl hl.1 (Nat.le_of_ble_eq_true rfl) dX0_numberOf_5 ⟨Nat.le_refl _, Nat.le_refl _⟩ (fun H locs _ hk hS => ?_)
  have hP := va_keep hP hk
  obtain ⟨hi_2, hm⟩ := gi_s hm
  refine ldC_first X hP hi_2 dX0_numberOf_8 ?_
  refine lv_iload_n hx hb dX0_numberOf_9 rfl (lv_at hl 1 rfl) ?_
  obtain ⟨r_3, e_3, hm⟩ := bd1_s hm
  refine goS_i (n := 1) X (cQ0_dayOf e_3) (gS kw526 kw527 kw2 kw528) (by decide +kernel) ⟨by decide, by decide⟩ va_nil va_dnil hS rfl rfl hl.1 (Nat.le_of_ble_eq_true rfl) dX0_numberOf_10 ⟨Nat.le_refl _, Nat.le_refl _⟩ (fun H locs _ hk hS => ?_)
  have hP := va_keep hP hk
  refine lv_iadd hx hb dX0_numberOf_13 ?_
  exact ret_io (wf := wC G a T) X hm hP hS dX0_numberOf_14

-- RuledCalendar$Days.dateOf
def moQ0_dateOf_L6 {α : Type} (n : Nat) (q : Pc4) (K0 : Int32 → Int32 → Option α) : Nat → Int32 → Int32 → Int32 → Option α
  | 0, _, _, _ => none
  | k + 1, x1, x2, x3 => (if x3 ≤ 0 then (K0 x1 x2 ) else (if 3600 ≤ (x2 + x3) then (moQ0_dateOf_L6 n q K0 k x1 x2 (x3 / 2) ) else (gi (x2 + x3) 3601 (if x1 < (r4A q 3 (x2 + x3)) then (moQ0_dateOf_L6 n q K0 k x1 x2 (x3 / 2) ) else (moQ0_dateOf_L6 n q K0 k x1 (x2 + x3) (x3 / 2) )))))
def moQ0_dateOf (n : Nat) (x1 : Int32) (q : Pc4) : Option (Int32) :=
  (moQ0_dateOf_L6 n q (fun z5_1 z5_2 => (gi z5_2 3601 (bd1 (moQ0_dateAt n z5_2 (z5_1 - (r4A q 3 z5_2))) fun r_7 => (some r_7)))) n x1 0 2048 )
set_option maxHeartbeats 4000000 in
set_option maxRecDepth 100000 in
theorem lpQ0_dateOf_6 {p : Program} {l : Launch} {e : Env} {s : State} {m : MethodId} {args : Array Value} {below : List Frame} {meth : Method} {c : Code} {G : Ev} {a : Nat → Nat} {T : va_W} {Q : State → Prop} {A : Nat → Prop} {q : Pc4} (X : CX p s m args meth c cX0_dateOf 4 (some .int) RX0 (.code yX0_dateOf cX0_dateOf 4 (some .int)) G A) (hD : va_D A (wC G a T q)) {α : Type} {o : α} {n : Nat} {K0 : Int32 → Int32 → Option α} (h0 : ∀ (y1 : Int32) (y2 : Int32) (H : Heap) (locs : List Loc) (ls : Array Slot), K0 y1 y2  = some o → va_P (DD G) vwCl (wC G a T q) H → va_S A s.heap H locs → lv_has ls 4 [(0, .ref (a 2)), (1, .int y1), (2, .int y2)] → W p l e { frames := 1, cells := 0, slots := 0, locals := 21 } s m args below meth c H locs 0 0 Q (F0 m 42 ls [])) : ∀ (k : Nat) (x1 : Int32) (x2 : Int32) (x3 : Int32) (H : Heap) (locs : List Loc) (ls : Array Slot), moQ0_dateOf_L6 n q K0 k x1 x2 x3  = some o → va_P (DD G) vwCl (wC G a T q) H → va_S A s.heap H locs → lv_has ls 4 [(0, .ref (a 2)), (1, .int x1), (2, .int x2), (3, .int x3)] → W p l e { frames := 1, cells := 0, slots := 0, locals := 21 } s m args below meth c H locs 0 0 Q (F0 m 6 ls []) := by
  obtain ⟨⟨hx, hb, hml, hown, hts⟩, hK, hr, hlk, hA, hAs, hSta⟩ := id X
  intro k
  induction k with
  | zero =>
    intro x1 x2 x3 H locs ls hm
    have hm : none = some o := hm
    cases hm
  | succ k ih =>
    intro x1 x2 x3 H locs ls hm hP hS hl
    rw [moQ0_dateOf_L6] at hm
    refine lv_iload_n hx hb dX0_dateOf_6 rfl (lv_at hl 3 rfl) ?_
    refine lv_if_le (tgt := 42) hx hb dX0_dateOf_7 (by decide) (fun c_1 => ?_) (fun c_1 => ?_)
    · have hm := (if_pos c_1).symm.trans hm
      exact h0 _ _ _ _ _ hm hP hS (lv_sub hl [0, 1, 2] rfl)
    · have hm := (if_neg c_1).symm.trans hm
      refine lv_iload_n hx hb dX0_dateOf_10 rfl (lv_at hl 2 rfl) ?_
      refine lv_iload_n hx hb dX0_dateOf_11 rfl (lv_at hl 3 rfl) ?_
      refine lv_iadd hx hb dX0_dateOf_12 ?_
      refine lv_sipush (v := 3600) hx hb dX0_dateOf_13 (by decide) ?_
      refine lv_icmp_ge (tgt := 35) hx hb dX0_dateOf_16 (by decide) (fun c_2 => ?_) (fun c_2 => ?_)
      · have hm := (if_pos c_2).symm.trans hm
        refine lv_iload_n hx hb dX0_dateOf_35 rfl (lv_at hl 3 rfl) ?_
        refine lv_iconst (v := 2) hx hb dX0_dateOf_36 (by decide) ?_
        refine lv_idiv hx hb dX0_dateOf_37 (by decide) ?_
        refine lv_istore_n (lv' := [(3, .int (x3 / 2)), (0, .ref (a 2)), (1, .int x1), (2, .int x2)]) hx hb dX0_dateOf_38 rfl hl (by decide) rfl (fun ls hl => ?_)
        refine lv_goto (tgt := 6) hx hb dX0_dateOf_39 (by decide) ?_
        exact ih _ _ _ _ _ _ hm hP hS (lv_sub hl [1, 2, 3, 0] rfl)
      · have hm := (if_neg c_2).symm.trans hm
        refine lv_aload_n hx hb dX0_dateOf_19 rfl (lv_at hl 0 rfl) ?_
        refine gC_days_first X kw45 hP dX0_dateOf_20 ?_
        refine lv_iload_n hx hb dX0_dateOf_23 rfl (lv_at hl 2 rfl) ?_
        refine lv_iload_n hx hb dX0_dateOf_24 rfl (lv_at hl 3 rfl) ?_
        refine lv_iadd hx hb dX0_dateOf_25 ?_
        obtain ⟨hi_3, hm⟩ := gi_s hm
        refine ldC_first X hP hi_3 dX0_dateOf_26 ?_
        refine lv_iload_n hx hb dX0_dateOf_27 rfl (lv_at hl 1 rfl) ?_
        refine lv_icmp_gt (tgt := 35) hx hb dX0_dateOf_28 (by decide) (fun c_4 => ?_) (fun c_4 => ?_)
        · have hm := (if_pos c_4).symm.trans hm
          refine lv_iload_n hx hb dX0_dateOf_35 rfl (lv_at hl 3 rfl) ?_
          refine lv_iconst (v := 2) hx hb dX0_dateOf_36 (by decide) ?_
          refine lv_idiv hx hb dX0_dateOf_37 (by decide) ?_
          refine lv_istore_n (lv' := [(3, .int (x3 / 2)), (0, .ref (a 2)), (1, .int x1), (2, .int x2)]) hx hb dX0_dateOf_38 rfl hl (by decide) rfl (fun ls hl => ?_)
          refine lv_goto (tgt := 6) hx hb dX0_dateOf_39 (by decide) ?_
          exact ih _ _ _ _ _ _ hm hP hS (lv_sub hl [1, 2, 3, 0] rfl)
        · have hm := (if_neg c_4).symm.trans hm
          refine lv_iload_n hx hb dX0_dateOf_31 rfl (lv_at hl 2 rfl) ?_
          refine lv_iload_n hx hb dX0_dateOf_32 rfl (lv_at hl 3 rfl) ?_
          refine lv_iadd hx hb dX0_dateOf_33 ?_
          refine lv_istore_n (lv' := [(2, .int (x2 + x3)), (0, .ref (a 2)), (1, .int x1), (3, .int x3)]) hx hb dX0_dateOf_34 rfl hl (by decide) rfl (fun ls hl => ?_)
          refine lv_iload_n hx hb dX0_dateOf_35 rfl (lv_at hl 3 rfl) ?_
          refine lv_iconst (v := 2) hx hb dX0_dateOf_36 (by decide) ?_
          refine lv_idiv hx hb dX0_dateOf_37 (by decide) ?_
          refine lv_istore_n (lv' := [(3, .int (x3 / 2)), (2, .int (x2 + x3)), (0, .ref (a 2)), (1, .int x1)]) hx hb dX0_dateOf_38 rfl hl (by decide) rfl (fun ls hl => ?_)
          refine lv_goto (tgt := 6) hx hb dX0_dateOf_39 (by decide) ?_
          exact ih _ _ _ _ _ _ hm hP hS (lv_sub hl [2, 3, 1, 0] rfl)
set_option maxHeartbeats 4000000 in
set_option maxRecDepth 100000 in
theorem cQ0_dateOf {l : Launch} {G : Ev} {a : Nat → Nat} {T : va_W} {n : Nat} {q : Pc4} {x1 : Int32} {r : Int32} (hm : moQ0_dateOf n x1 q = some r) : CtI l G yX0_dateOf cX0_dateOf 4 (some .int) 1 21 0 0 [.ref (a 2), .int x1] (wC G a T q) (wC G a T q) r := by
  intro sz
  refine enter (by decide) (Nat.le_of_ble_eq_true rfl) ?_
  intro p e s m args below meth c ls X hsz hP hD hS hl
  subst hsz
  obtain ⟨⟨hx, hb, hml, hown, hts⟩, hK, hr, hlk, hA, hAs, hSta⟩ := id X
  have hl : lv_has ls 4 [(0, .ref (a 2)), (1, .int x1)] := hl
  unfold moQ0_dateOf at hm
  refine lv_iconst (v := 0) hx hb dX0_dateOf_0 (by decide) ?_
  refine lv_istore_n (lv' := [(2, .int 0), (0, .ref (a 2)), (1, .int x1)]) hx hb dX0_dateOf_1 rfl hl (by decide) rfl (fun ls hl => ?_)
  refine lv_sipush (v := 2048) hx hb dX0_dateOf_2 (by decide) ?_
  refine lv_istore_n (lv' := [(3, .int 2048), (2, .int 0), (0, .ref (a 2)), (1, .int x1)]) hx hb dX0_dateOf_5 rfl hl (by decide) rfl (fun ls hl => ?_)
  refine lpQ0_dateOf_6 X hD (fun z5_1 z5_2 H locs ls hm hP hS hl => ?_) n _ _ _ _ _ _ hm hP hS (lv_sub hl [2, 3, 1, 0] rfl)
  refine lv_iload_n hx hb dX0_dateOf_42 rfl (lv_at hl 2 rfl) ?_
  refine lv_iload_n hx hb dX0_dateOf_43 rfl (lv_at hl 1 rfl) ?_
  refine lv_aload_n hx hb dX0_dateOf_44 rfl (lv_at hl 0 rfl) ?_
  refine gC_days_first X kw45 hP dX0_dateOf_45 ?_
  refine lv_iload_n hx hb dX0_dateOf_48 rfl (lv_at hl 2 rfl) ?_
  obtain ⟨hi_6, hm⟩ := gi_s hm
  refine ldC_first X hP hi_6 dX0_dateOf_49 ?_
  refine lv_isub hx hb dX0_dateOf_50 ?_
  obtain ⟨r_7, e_7, hm⟩ := bd1_s hm
  refine goS_i (n := 2) X (cQ0_dateAt e_7) (gS kw765 kw691 kw2 kw692) (by decide +kernel) ⟨by decide, by decide⟩ va_nil va_dnil hS rfl rfl hl.1 (Nat.le_of_ble_eq_true rfl) dX0_dateOf_51 ⟨Nat.le_refl _, Nat.le_refl _⟩ (fun H locs _ hk hS => ?_)
  have hP := va_keep hP hk
  exact ret_io (wf := wC G a T) X hm hP hS dX0_dateOf_54

-- RuledCalendar$Frequency.periodOf
def moQ2_periodOf (n : Nat) (x0 : Nat) (x1 : Int32) (x2 : Int32) : Option (Int32) :=
  (gl x0 4 (if x0 = 0 then (some x2) else (gl x0 4 (if x0 = 1 then (some (x2 / 7)) else (gl x0 4 (if x0 = 2 then (some x1) else (some (x1 / 12))))))))
set_option maxHeartbeats 4000000 in
set_option maxRecDepth 100000 in
theorem cQ2_periodOf {l : Launch} {G : Ev}  {n : Nat} {x0 : Nat} {x1 : Int32} {x2 : Int32} {r : Int32} (hm : moQ2_periodOf n x0 x1 x2  = some r) : CtI l G yX2_periodOf cX2_periodOf 3 (some .int) 0 0 0 0 [.ref (sa G (20 + x0)), .int x1, .int x2] (wN ()) (wN ()) r := by
  intro sz
  refine enter (by decide) (Nat.le_of_ble_eq_true rfl) ?_
  intro p e s m args below meth c ls X hsz hP hD hS hl
  subst hsz
  obtain ⟨⟨hx, hb, hml, hown, hts⟩, hK, hr, hlk, hA, hAs, hSta⟩ := id X
  have hl : lv_has ls 3 [(0, .ref (sa G (20 + x0))), (1, .int x1), (2, .int x2)] := hl
  unfold moQ2_periodOf at hm
  refine lv_aload_n hx hb dX2_periodOf_0 rfl (lv_at hl 0 rfl) ?_
  refine va_gets hx hb (zF_DAILY X) hS hown (hts _ (List.mem_cons_of_mem _ kw533)) (fun _ h => h) dX2_periodOf_1 ?_
  obtain ⟨hg_1, hm⟩ := gl_s hm
  refine acF (tgt := 9) X hg_1 (by decide) dX2_periodOf_4 (by decide) (fun c_2 => ?_) (fun c_2 => ?_)
  · have hm := (if_neg c_2).symm.trans hm
    refine lv_aload_n hx hb dX2_periodOf_9 rfl (lv_at hl 0 rfl) ?_
    refine va_gets hx hb (zF_WEEKLY X) hS hown (hts _ (List.mem_cons_of_mem _ kw534)) (fun _ h => h) dX2_periodOf_10 ?_
    obtain ⟨hg_3, hm⟩ := gl_s hm
    refine acF (tgt := 21) X hg_3 (by decide) dX2_periodOf_13 (by decide) (fun c_4 => ?_) (fun c_4 => ?_)
    · have hm := (if_neg c_4).symm.trans hm
      refine lv_aload_n hx hb dX2_periodOf_21 rfl (lv_at hl 0 rfl) ?_
      refine va_gets hx hb (zF_MONTHLY X) hS hown (hts _ (List.mem_cons_of_mem _ kw535)) (fun _ h => h) dX2_periodOf_22 ?_
      obtain ⟨hg_5, hm⟩ := gl_s hm
      refine acF (tgt := 32) X hg_5 (by decide) dX2_periodOf_25 (by decide) (fun c_6 => ?_) (fun c_6 => ?_)
      · have hm := (if_neg c_6).symm.trans hm
        refine lv_iload_n hx hb dX2_periodOf_32 rfl (lv_at hl 1 rfl) ?_
        refine lv_bipush (v := 12) hx hb dX2_periodOf_33 (by decide) ?_
        refine lv_idiv hx hb dX2_periodOf_35 (by decide) ?_
        exact ret_io (wf := wN) X hm hP hS dX2_periodOf_36
      · have hm := (if_pos c_6).symm.trans hm
        refine lv_iload_n hx hb dX2_periodOf_28 rfl (lv_at hl 1 rfl) ?_
        refine lv_goto (tgt := 36) hx hb dX2_periodOf_29 (by decide) ?_
        exact ret_io (wf := wN) X hm hP hS dX2_periodOf_36
    · have hm := (if_pos c_4).symm.trans hm
      refine lv_iload_n hx hb dX2_periodOf_16 rfl (lv_at hl 2 rfl) ?_
      refine lv_bipush (v := 7) hx hb dX2_periodOf_17 (by decide) ?_
      refine lv_idiv hx hb dX2_periodOf_19 (by decide) ?_
      exact ret_io (wf := wN) X hm hP hS dX2_periodOf_20
  · have hm := (if_pos c_2).symm.trans hm
    refine lv_iload_n hx hb dX2_periodOf_7 rfl (lv_at hl 2 rfl) ?_
    exact ret_io (wf := wN) X hm hP hS dX2_periodOf_8

-- RuledCalendar$Part.allows
def moQ3_allows (n : Nat) (x0 : Nat) (x1 : Int32) : Option (Int32) :=
  (gl x0 8 (if x1 < (plow x0) then (some 0) else (gl x0 8 (if (phig x0) < x1 then (some 0) else (if x1 = 0 then (some 0) else (some 1))))))
set_option maxHeartbeats 4000000 in
set_option maxRecDepth 100000 in
theorem cQ3_allows {l : Launch} {G : Ev}  {n : Nat} {x0 : Nat} {x1 : Int32} {r : Int32} (hm : moQ3_allows n x0 x1  = some r) : CtI l G yX3_allows cX3_allows 2 (some .boolean) 0 0 0 0 [.ref (sa G (10 + x0)), .int x1] (wN ()) (wN ()) r := by
  intro sz
  refine enter (by decide) (Nat.le_of_ble_eq_true rfl) ?_
  intro p e s m args below meth c ls X hsz hP hD hS hl
  subst hsz
  obtain ⟨⟨hx, hb, hml, hown, hts⟩, hK, hr, hlk, hA, hAs, hSta⟩ := id X
  have hl : lv_has ls 2 [(0, .ref (sa G (10 + x0))), (1, .int x1)] := hl
  unfold moQ3_allows at hm
  refine lv_iload_n hx hb dX3_allows_0 rfl (lv_at hl 1 rfl) ?_
  refine lv_aload_n hx hb dX3_allows_1 rfl (lv_at hl 0 rfl) ?_
  obtain ⟨hg_1, hm⟩ := gl_s hm
  refine vk_getf hx hb (fP_low X hg_1) hS hown (hts _ (List.mem_cons_of_mem _ kw1079)) (fun _ h => h) dX3_allows_2 ?_
  refine lv_icmp_lt (tgt := 24) hx hb dX3_allows_5 (by decide) (fun c_2 => ?_) (fun c_2 => ?_)
  · have hm := (if_pos c_2).symm.trans hm
    refine lv_iconst (v := 0) hx hb dX3_allows_24 (by decide) ?_
    exact ret_zo (wf := wN) X (by decide) hm hP hS dX3_allows_25
  · have hm := (if_neg c_2).symm.trans hm
    refine lv_iload_n hx hb dX3_allows_8 rfl (lv_at hl 1 rfl) ?_
    refine lv_aload_n hx hb dX3_allows_9 rfl (lv_at hl 0 rfl) ?_
    obtain ⟨hg_3, hm⟩ := gl_s hm
    refine vk_getf hx hb (fP_high X hg_3) hS hown (hts _ (List.mem_cons_of_mem _ kw1080)) (fun _ h => h) dX3_allows_10 ?_
    refine lv_icmp_gt (tgt := 24) hx hb dX3_allows_13 (by decide) (fun c_4 => ?_) (fun c_4 => ?_)
    · have hm := (if_pos c_4).symm.trans hm
      refine lv_iconst (v := 0) hx hb dX3_allows_24 (by decide) ?_
      exact ret_zo (wf := wN) X (by decide) hm hP hS dX3_allows_25
    · have hm := (if_neg c_4).symm.trans hm
      refine lv_iload_n hx hb dX3_allows_16 rfl (lv_at hl 1 rfl) ?_
      refine lv_if_eq (tgt := 24) hx hb dX3_allows_17 (by decide) (fun c_5 => ?_) (fun c_5 => ?_)
      · have hm := (if_pos c_5).symm.trans hm
        refine lv_iconst (v := 0) hx hb dX3_allows_24 (by decide) ?_
        exact ret_zo (wf := wN) X (by decide) hm hP hS dX3_allows_25
      · have hm := (if_neg c_5).symm.trans hm
        refine lv_iconst (v := 1) hx hb dX3_allows_20 (by decide) ?_
        refine lv_goto (tgt := 25) hx hb dX3_allows_21 (by decide) ?_
        exact ret_zo (wf := wN) X (by decide) hm hP hS dX3_allows_25

-- java/util/Arrays.J7_fill_d0a16
def moQJ7_fill_d0a16_L6 {α : Type} (n : Nat) (len : Nat) (K0 : (Nat → Int64) → Option α) : Nat → Int64 → Int32 → Int32 → (Nat → Int64) → Option α
  | 0, _, _, _, _ => none
  | k + 1, x1, x3, x4, q => (if x4 ≤ x3 then (K0 q) else (gi x3 len (moQJ7_fill_d0a16_L6 n len K0 k x1 (x3 + 1) x4 (vp_updL q (Int32.toNatClampNeg x3) x1))))
def moQJ7_fill_d0a16 (n : Nat) (len : Nat) (x1 : Int64) (q : (Nat → Int64)) : Option ((Nat → Int64)) :=
  (moQJ7_fill_d0a16_L6 n len (fun q_3 => (some q_3)) n x1 0 (Int32.ofNat len) q)
set_option maxHeartbeats 4000000 in
set_option maxRecDepth 100000 in
theorem lpQJ7_fill_d0a16_6 {p : Program} {l : Launch} {e : Env} {s : State} {m : MethodId} {args : Array Value} {below : List Frame} {meth : Method} {c : Code} {G : Ev} {a0 len : Nat} {Q : State → Prop} {A : Nat → Prop} {q0 : (Nat → Int64)} (X : CX p s m args meth c cJ7_fill_d0a16 5 none RJ7 (.code yJ7_fill_d0a16 cJ7_fill_d0a16 5 none) G A) (hD : va_D A (wAJ G a0 len q0)) {α : Type} {o : α} {n : Nat} {K0 : (Nat → Int64) → Option α} (h0 : ∀ (q : (Nat → Int64)) (H : Heap) (locs : List Loc) (ls : Array Slot), K0 q = some o → va_P (DD G) vwCl (wAJ G a0 len q) H → va_S A s.heap H locs → lv_has ls 5 [] → W p l e { frames := 0, cells := 0, slots := 0, locals := 0 } s m args below meth c H locs 0 0 Q (F0 m 22 ls [])) : ∀ (k : Nat) (x1 : Int64) (x3 : Int32) (x4 : Int32) (q : (Nat → Int64)) (H : Heap) (locs : List Loc) (ls : Array Slot), moQJ7_fill_d0a16_L6 n len K0 k x1 x3 x4 q = some o → va_P (DD G) vwCl (wAJ G a0 len q) H → va_S A s.heap H locs → lv_has ls 5 [(0, .ref a0), (1, .long x1), (3, .int x3), (4, .int x4)] → W p l e { frames := 0, cells := 0, slots := 0, locals := 0 } s m args below meth c H locs 0 0 Q (F0 m 6 ls []) := by
  obtain ⟨⟨hx, hb, hml, hown, hts⟩, hK, hr, hlk, hA, hAs, hSta⟩ := id X
  intro k
  induction k with
  | zero =>
    intro x1 x3 x4 q H locs ls hm
    have hm : none = some o := hm
    cases hm
  | succ k ih =>
    intro x1 x3 x4 q H locs ls hm hP hS hl
    rw [moQJ7_fill_d0a16_L6] at hm
    refine lv_iload_n hx hb dJ7_fill_d0a16_6 rfl (lv_at hl 2 rfl) ?_
    refine lv_iload hx hb dJ7_fill_d0a16_7 (lv_at hl 3 rfl) ?_
    refine lv_icmp_ge (tgt := 22) hx hb dJ7_fill_d0a16_9 (by decide) (fun c_1 => ?_) (fun c_1 => ?_)
    · have hm := (if_pos c_1).symm.trans hm
      exact h0 _ _ _ _ hm hP hS (lv_sub hl [] rfl)
    · have hm := (if_neg c_1).symm.trans hm
      refine lv_aload_n hx hb dJ7_fill_d0a16_12 rfl (lv_at hl 0 rfl) ?_
      refine lv_iload_n hx hb dJ7_fill_d0a16_13 rfl (lv_at hl 2 rfl) ?_
      refine lv_lload_n hx hb dJ7_fill_d0a16_14 rfl (lv_at hl 1 rfl) ?_
      obtain ⟨hi_2, hm⟩ := gi_s hm
      refine va_last hx hb hK hP (dAJ (q1 := q) hD) hS 0 3 rfl rfl hi_2 dJ7_fill_d0a16_15 (fun H locs hP _ hS => ?_)
      have hP : va_P (DD G) vwCl (wAJ G a0 len (vp_updL q (Int32.toNatClampNeg x3) x1)) H := hP
      refine lv_iinc (v := (x3 + 1)) (lv' := [(3, .int (x3 + 1)), (0, .ref a0), (1, .long x1), (4, .int x4)]) hx hb dJ7_fill_d0a16_16 hl (k := 2) rfl (by first | rfl | decide) (by decide) rfl (fun ls hl => ?_)
      refine lv_goto (tgt := 6) hx hb dJ7_fill_d0a16_19 (by decide) ?_
      exact ih _ _ _ _ _ _ _ hm hP hS (lv_sub hl [1, 2, 0, 3] rfl)
set_option maxHeartbeats 4000000 in
set_option maxRecDepth 100000 in
theorem cQJ7_fill_d0a16 {l : Launch} {G : Ev} {a0 len : Nat} {n : Nat} {q : (Nat → Int64)} {x1 : Int64} {q' : (Nat → Int64)} (hm : moQJ7_fill_d0a16 n len x1 q = some q') : CtV l G yJ7_fill_d0a16 cJ7_fill_d0a16 5 none 0 0 0 0 [.ref a0, .long x1] (wAJ G a0 len q) (wAJ G a0 len q') := by
  intro sz
  refine enter (by decide) (Nat.le_of_ble_eq_true rfl) ?_
  intro p e s m args below meth c ls X hsz hP hD hS hl
  subst hsz
  obtain ⟨⟨hx, hb, hml, hown, hts⟩, hK, hr, hlk, hA, hAs, hSta⟩ := id X
  have hl : lv_has ls 5 [(0, .ref a0), (1, .long x1)] := hl
  unfold moQJ7_fill_d0a16 at hm
  refine lv_iconst (v := 0) hx hb dJ7_fill_d0a16_0 (by decide) ?_
  refine lv_istore_n (lv' := [(3, .int 0), (0, .ref a0), (1, .long x1)]) hx hb dJ7_fill_d0a16_1 rfl hl (by decide) rfl (fun ls hl => ?_)
  refine lv_aload_n hx hb dJ7_fill_d0a16_2 rfl (lv_at hl 1 rfl) ?_
  refine va_alen hx hb hK hP 0 3 rfl rfl rfl dJ7_fill_d0a16_3 ?_
  refine lv_istore (lv' := [(4, .int (Int32.ofNat len)), (3, .int 0), (0, .ref a0), (1, .long x1)]) hx hb dJ7_fill_d0a16_4 hl (by decide) rfl (fun ls hl => ?_)
  refine lpQJ7_fill_d0a16_6 X hD (fun q_3 H locs ls hm hP hS hl => ?_) n _ _ _ _ _ _ _ hm hP hS (lv_sub hl [2, 3, 1, 0] rfl)
  exact ret_v (wf := wAJ G a0 len) X hm hP hS dJ7_fill_d0a16_22

-- java/util/Arrays.J7_fill_031fb
def moQJ7_fill_031fb_L5 {α : Type} (n : Nat) (len : Nat) (K0 : (Nat → Int32) → Option α) : Nat → Int32 → Int32 → Int32 → (Nat → Int32) → Option α
  | 0, _, _, _, _ => none
  | k + 1, x1, x2, x3, q => (if x3 ≤ x2 then (K0 q) else (gi x2 len (moQJ7_fill_031fb_L5 n len K0 k x1 (x2 + 1) x3 (upd q (Int32.toNatClampNeg x2) (vp_nar .byte x1)))))
def moQJ7_fill_031fb (n : Nat) (len : Nat) (x1 : Int32) (q : (Nat → Int32)) : Option ((Nat → Int32)) :=
  (moQJ7_fill_031fb_L5 n len (fun q_3 => (some q_3)) n x1 0 (Int32.ofNat len) q)
set_option maxHeartbeats 4000000 in
set_option maxRecDepth 100000 in
theorem lpQJ7_fill_031fb_5 {p : Program} {l : Launch} {e : Env} {s : State} {m : MethodId} {args : Array Value} {below : List Frame} {meth : Method} {c : Code} {G : Ev} {a0 len : Nat} {Q : State → Prop} {A : Nat → Prop} {q0 : (Nat → Int32)} (X : CX p s m args meth c cJ7_fill_031fb 4 none RJ7 (.code yJ7_fill_031fb cJ7_fill_031fb 4 none) G A) (hD : va_D A (wAB G a0 len q0)) {α : Type} {o : α} {n : Nat} {K0 : (Nat → Int32) → Option α} (h0 : ∀ (q : (Nat → Int32)) (H : Heap) (locs : List Loc) (ls : Array Slot), K0 q = some o → va_P (DD G) vwCl (wAB G a0 len q) H → va_S A s.heap H locs → lv_has ls 4 [] → W p l e { frames := 0, cells := 0, slots := 0, locals := 0 } s m args below meth c H locs 0 0 Q (F0 m 20 ls [])) : ∀ (k : Nat) (x1 : Int32) (x2 : Int32) (x3 : Int32) (q : (Nat → Int32)) (H : Heap) (locs : List Loc) (ls : Array Slot), moQJ7_fill_031fb_L5 n len K0 k x1 x2 x3 q = some o → va_P (DD G) vwCl (wAB G a0 len q) H → va_S A s.heap H locs → lv_has ls 4 [(0, .ref a0), (1, .int x1), (2, .int x2), (3, .int x3)] → W p l e { frames := 0, cells := 0, slots := 0, locals := 0 } s m args below meth c H locs 0 0 Q (F0 m 5 ls []) := by
  obtain ⟨⟨hx, hb, hml, hown, hts⟩, hK, hr, hlk, hA, hAs, hSta⟩ := id X
  intro k
  induction k with
  | zero =>
    intro x1 x2 x3 q H locs ls hm
    have hm : none = some o := hm
    cases hm
  | succ k ih =>
    intro x1 x2 x3 q H locs ls hm hP hS hl
    rw [moQJ7_fill_031fb_L5] at hm
    refine lv_iload_n hx hb dJ7_fill_031fb_5 rfl (lv_at hl 2 rfl) ?_
    refine lv_iload_n hx hb dJ7_fill_031fb_6 rfl (lv_at hl 3 rfl) ?_
    refine lv_icmp_ge (tgt := 20) hx hb dJ7_fill_031fb_7 (by decide) (fun c_1 => ?_) (fun c_1 => ?_)
    · have hm := (if_pos c_1).symm.trans hm
      exact h0 _ _ _ _ hm hP hS (lv_sub hl [] rfl)
    · have hm := (if_neg c_1).symm.trans hm
      refine lv_aload_n hx hb dJ7_fill_031fb_10 rfl (lv_at hl 0 rfl) ?_
      refine lv_iload_n hx hb dJ7_fill_031fb_11 rfl (lv_at hl 2 rfl) ?_
      refine lv_iload_n hx hb dJ7_fill_031fb_12 rfl (lv_at hl 1 rfl) ?_
      obtain ⟨hi_2, hm⟩ := gi_s hm
      refine va_bast hx hb hK hP (dAB (q1 := q) hD) hS 0 0 rfl rfl hi_2 dJ7_fill_031fb_13 (fun H locs hP _ hS => ?_)
      have hP : va_P (DD G) vwCl (wAB G a0 len (upd q (Int32.toNatClampNeg x2) (vp_nar .byte x1))) H := hP
      refine lv_iinc (v := (x2 + 1)) (lv' := [(2, .int (x2 + 1)), (0, .ref a0), (1, .int x1), (3, .int x3)]) hx hb dJ7_fill_031fb_14 hl (k := 2) rfl (by first | rfl | decide) (by decide) rfl (fun ls hl => ?_)
      refine lv_goto (tgt := 5) hx hb dJ7_fill_031fb_17 (by decide) ?_
      exact ih _ _ _ _ _ _ _ hm hP hS (lv_sub hl [1, 2, 0, 3] rfl)
set_option maxHeartbeats 4000000 in
set_option maxRecDepth 100000 in
theorem cQJ7_fill_031fb {l : Launch} {G : Ev} {a0 len : Nat} {n : Nat} {q : (Nat → Int32)} {x1 : Int32} {q' : (Nat → Int32)} (hm : moQJ7_fill_031fb n len x1 q = some q') : CtV l G yJ7_fill_031fb cJ7_fill_031fb 4 none 0 0 0 0 [.ref a0, .int x1] (wAB G a0 len q) (wAB G a0 len q') := by
  intro sz
  refine enter (by decide) (Nat.le_of_ble_eq_true rfl) ?_
  intro p e s m args below meth c ls X hsz hP hD hS hl
  subst hsz
  obtain ⟨⟨hx, hb, hml, hown, hts⟩, hK, hr, hlk, hA, hAs, hSta⟩ := id X
  have hl : lv_has ls 4 [(0, .ref a0), (1, .int x1)] := hl
  unfold moQJ7_fill_031fb at hm
  refine lv_iconst (v := 0) hx hb dJ7_fill_031fb_0 (by decide) ?_
  refine lv_istore_n (lv' := [(2, .int 0), (0, .ref a0), (1, .int x1)]) hx hb dJ7_fill_031fb_1 rfl hl (by decide) rfl (fun ls hl => ?_)
  refine lv_aload_n hx hb dJ7_fill_031fb_2 rfl (lv_at hl 1 rfl) ?_
  refine va_alen hx hb hK hP 0 0 rfl rfl rfl dJ7_fill_031fb_3 ?_
  refine lv_istore_n (lv' := [(3, .int (Int32.ofNat len)), (2, .int 0), (0, .ref a0), (1, .int x1)]) hx hb dJ7_fill_031fb_4 rfl hl (by decide) rfl (fun ls hl => ?_)
  refine lpQJ7_fill_031fb_5 X hD (fun q_3 H locs ls hm hP hS hl => ?_) n _ _ _ _ _ _ _ hm hP hS (lv_sub hl [2, 3, 1, 0] rfl)
  exact ret_v (wf := wAB G a0 len) X hm hP hS dJ7_fill_031fb_20

-- RuledCalendar$Rule.forget
def moQ5_forget (n : Nat) (q : Pc4) : Option (Pc4) :=
  (bd1 (moQJ7_fill_d0a16 n 7 0 ((s4S (s4S (s4S (s4S (s4S (s4S (s4S (s4S (s4I (s4S q 2 0) 2 0) 3 1) 4 1000000) 5 21991231) 6 0) 7 0) 8 0) 9 0) 10 0).2.2.1 5)) fun f_1 => (bd1 (moQJ7_fill_d0a16 n 7 0 ((s4G (s4S (s4S (s4S (s4S (s4S (s4S (s4S (s4S (s4I (s4S q 2 0) 2 0) 3 1) 4 1000000) 5 21991231) 6 0) 7 0) 8 0) 9 0) 10 0) 5 f_1).2.2.1 6)) fun f_2 => (bd1 (moQJ7_fill_031fb n 733 0 ((s4G (s4G (s4S (s4S (s4S (s4S (s4S (s4S (s4S (s4S (s4I (s4S q 2 0) 2 0) 3 1) 4 1000000) 5 21991231) 6 0) 7 0) 8 0) 9 0) 10 0) 5 f_1) 6 f_2).2.1 7)) fun f_3 => (some (s4F (s4G (s4G (s4S (s4S (s4S (s4S (s4S (s4S (s4S (s4S (s4I (s4S q 2 0) 2 0) 3 1) 4 1000000) 5 21991231) 6 0) 7 0) 8 0) 9 0) 10 0) 5 f_1) 6 f_2) 7 f_3)))))
set_option maxHeartbeats 4000000 in
set_option maxRecDepth 100000 in
theorem cQ5_forget {l : Launch} {G : Ev} {a : Nat → Nat} {T : va_W} {n : Nat} {q : Pc4} {q' : Pc4} (hm : moQ5_forget n q = some q') : CtV l G yX5_forget cX5_forget 1 none 1 24 0 0 [.ref (a 4)] (wC G a T q) (wC G a T q') := by
  intro sz
  refine enter (by decide) (Nat.le_of_ble_eq_true rfl) ?_
  intro p e s m args below meth c ls X hsz hP hD hS hl
  subst hsz
  obtain ⟨⟨hx, hb, hml, hown, hts⟩, hK, hr, hlk, hA, hAs, hSta⟩ := id X
  have hl : lv_has ls 1 [(0, .ref (a 4))] := hl
  unfold moQ5_forget at hm
  refine lv_aload_n hx hb dX5_forget_0 rfl (lv_at hl 0 rfl) ?_
  refine lv_iconst (v := 0) hx hb dX5_forget_1 (by decide) ?_
  refine pC_rule_present X kw73 hP (dC (q1 := q) hD) hS dX5_forget_2 (fun H locs hP hS => ?_)
  have hP : va_P (DD G) vwCl (wC G a T (s4S q 2 0)) H := hP
  refine lv_aload_n hx hb dX5_forget_5 rfl (lv_at hl 0 rfl) ?_
  refine va_gets hx hb (zF_DAILY X) hS hown (hts _ (List.mem_cons_of_mem _ kw63)) (fun _ h => h) dX5_forget_6 ?_
  refine pC_rule_frequency (v := 0) X kw75 hP (dC (q1 := (s4S q 2 0)) hD) hS dX5_forget_9 (fun H locs hP hS => ?_)
  have hP : va_P (DD G) vwCl (wC G a T (s4I (s4S q 2 0) 2 0)) H := hP
  refine lv_aload_n hx hb dX5_forget_12 rfl (lv_at hl 0 rfl) ?_
  refine lv_iconst (v := 1) hx hb dX5_forget_13 (by decide) ?_
  refine pC_rule_interval X kw78 hP (dC (q1 := (s4I (s4S q 2 0) 2 0)) hD) hS dX5_forget_14 (fun H locs hP hS => ?_)
  have hP : va_P (DD G) vwCl (wC G a T (s4S (s4I (s4S q 2 0) 2 0) 3 1)) H := hP
  refine lv_aload_n hx hb dX5_forget_17 rfl (lv_at hl 0 rfl) ?_
  refine lv_ldc (v := 1000000) hx hb hown (hts _ (List.mem_cons_of_mem _ kw65)) dX5_forget_18 ?_
  refine pC_rule_count X kw80 hP (dC (q1 := (s4S (s4I (s4S q 2 0) 2 0) 3 1)) hD) hS dX5_forget_20 (fun H locs hP hS => ?_)
  have hP : va_P (DD G) vwCl (wC G a T (s4S (s4S (s4I (s4S q 2 0) 2 0) 3 1) 4 1000000)) H := hP
  refine lv_aload_n hx hb dX5_forget_23 rfl (lv_at hl 0 rfl) ?_
  refine lv_ldc (v := 21991231) hx hb hown (hts _ (List.mem_cons_of_mem _ kw66)) dX5_forget_24 ?_
  refine pC_rule_until X kw82 hP (dC (q1 := (s4S (s4S (s4I (s4S q 2 0) 2 0) 3 1) 4 1000000)) hD) hS dX5_forget_26 (fun H locs hP hS => ?_)
  have hP : va_P (DD G) vwCl (wC G a T (s4S (s4S (s4S (s4I (s4S q 2 0) 2 0) 3 1) 4 1000000) 5 21991231)) H := hP
  refine lv_aload_n hx hb dX5_forget_29 rfl (lv_at hl 0 rfl) ?_
  refine lv_iconst (v := 0) hx hb dX5_forget_30 (by decide) ?_
  refine pC_rule_months X kw84 hP (dC (q1 := (s4S (s4S (s4S (s4I (s4S q 2 0) 2 0) 3 1) 4 1000000) 5 21991231)) hD) hS dX5_forget_31 (fun H locs hP hS => ?_)
  have hP : va_P (DD G) vwCl (wC G a T (s4S (s4S (s4S (s4S (s4I (s4S q 2 0) 2 0) 3 1) 4 1000000) 5 21991231) 6 0)) H := hP
  refine lv_aload_n hx hb dX5_forget_34 rfl (lv_at hl 0 rfl) ?_
  refine lv_iconst (v := 0) hx hb dX5_forget_35 (by decide) ?_
  refine pC_rule_monthDays X kw86 hP (dC (q1 := (s4S (s4S (s4S (s4S (s4I (s4S q 2 0) 2 0) 3 1) 4 1000000) 5 21991231) 6 0)) hD) hS dX5_forget_36 (fun H locs hP hS => ?_)
  have hP : va_P (DD G) vwCl (wC G a T (s4S (s4S (s4S (s4S (s4S (s4I (s4S q 2 0) 2 0) 3 1) 4 1000000) 5 21991231) 6 0) 7 0)) H := hP
  refine lv_aload_n hx hb dX5_forget_39 rfl (lv_at hl 0 rfl) ?_
  refine lv_iconst (v := 0) hx hb dX5_forget_40 (by decide) ?_
  refine pC_rule_monthDaysFromEnd X kw88 hP (dC (q1 := (s4S (s4S (s4S (s4S (s4S (s4I (s4S q 2 0) 2 0) 3 1) 4 1000000) 5 21991231) 6 0) 7 0)) hD) hS dX5_forget_41 (fun H locs hP hS => ?_)
  have hP : va_P (DD G) vwCl (wC G a T (s4S (s4S (s4S (s4S (s4S (s4S (s4I (s4S q 2 0) 2 0) 3 1) 4 1000000) 5 21991231) 6 0) 7 0) 8 0)) H := hP
  refine lv_aload_n hx hb dX5_forget_44 rfl (lv_at hl 0 rfl) ?_
  refine lv_iconst (v := 0) hx hb dX5_forget_45 (by decide) ?_
  refine pC_rule_weekdays X kw90 hP (dC (q1 := (s4S (s4S (s4S (s4S (s4S (s4S (s4I (s4S q 2 0) 2 0) 3 1) 4 1000000) 5 21991231) 6 0) 7 0) 8 0)) hD) hS dX5_forget_46 (fun H locs hP hS => ?_)
  have hP : va_P (DD G) vwCl (wC G a T (s4S (s4S (s4S (s4S (s4S (s4S (s4S (s4I (s4S q 2 0) 2 0) 3 1) 4 1000000) 5 21991231) 6 0) 7 0) 8 0) 9 0)) H := hP
  refine lv_aload_n hx hb dX5_forget_49 rfl (lv_at hl 0 rfl) ?_
  refine lv_iconst (v := 0) hx hb dX5_forget_50 (by decide) ?_
  refine pC_rule_numberedWeekdays X kw92 hP (dC (q1 := (s4S (s4S (s4S (s4S (s4S (s4S (s4S (s4I (s4S q 2 0) 2 0) 3 1) 4 1000000) 5 21991231) 6 0) 7 0) 8 0) 9 0)) hD) hS dX5_forget_51 (fun H locs hP hS => ?_)
  have hP : va_P (DD G) vwCl (wC G a T (s4S (s4S (s4S (s4S (s4S (s4S (s4S (s4S (s4I (s4S q 2 0) 2 0) 3 1) 4 1000000) 5 21991231) 6 0) 7 0) 8 0) 9 0) 10 0)) H := hP
  refine lv_aload_n hx hb dX5_forget_54 rfl (lv_at hl 0 rfl) ?_
  refine gC_rule_numbers X kw94 hP dX5_forget_55 ?_
  refine lv_lconst (v := 0) hx hb dX5_forget_58 (by decide) ?_
  obtain ⟨f_1, e_1, hm⟩ := bd1_s hm
  refine goT_v (n := 2) X (cQJ7_fill_d0a16 (a0 := a 5) e_1) (gSx kw67 kw68 kw6 kw69) (by decide +kernel) ⟨by decide, by decide⟩ (hP.sub (ws' := (wAJ G (a 5) 7 ((s4S (s4S (s4S (s4S (s4S (s4S (s4S (s4S (s4I (s4S q 2 0) 2 0) 3 1) 4 1000000) 5 21991231) 6 0) 7 0) 8 0) 9 0) 10 0).2.2.1 5))) [5] rfl) (va_D.sub (dC (q1 := (s4S (s4S (s4S (s4S (s4S (s4S (s4S (s4S (s4I (s4S q 2 0) 2 0) 3 1) 4 1000000) 5 21991231) 6 0) 7 0) 8 0) 9 0) 10 0)) hD) (ws' := (wAJ G (a 5) 7 ((s4S (s4S (s4S (s4S (s4S (s4S (s4S (s4S (s4I (s4S q 2 0) 2 0) 3 1) 4 1000000) 5 21991231) 6 0) 7 0) 8 0) 9 0) 10 0).2.2.1 5))) [5] (by decide) rfl) hS rfl rfl hl.1 (Nat.le_of_ble_eq_true rfl) dX5_forget_59 ⟨Nat.le_refl _, Nat.le_refl _⟩ (fun H locs hP1 hk hS => ?_)
  have hP : va_P (DD G) vwCl (wC G a T (s4G (s4S (s4S (s4S (s4S (s4S (s4S (s4S (s4S (s4I (s4S q 2 0) 2 0) 3 1) 4 1000000) 5 21991231) 6 0) 7 0) 8 0) 9 0) 10 0) 5 f_1)) H := va_set1 (p := 5) hP (dC (q1 := (s4S (s4S (s4S (s4S (s4S (s4S (s4S (s4S (s4I (s4S q 2 0) 2 0) 3 1) 4 1000000) 5 21991231) 6 0) 7 0) 8 0) 9 0) 10 0)) hD) rfl hk hP1
  refine lv_aload_n hx hb dX5_forget_62 rfl (lv_at hl 0 rfl) ?_
  refine gC_rule_numbersFromEnd X kw96 hP dX5_forget_63 ?_
  refine lv_lconst (v := 0) hx hb dX5_forget_66 (by decide) ?_
  obtain ⟨f_2, e_2, hm⟩ := bd1_s hm
  refine goT_v (n := 2) X (cQJ7_fill_d0a16 (a0 := a 6) e_2) (gSx kw67 kw68 kw6 kw69) (by decide +kernel) ⟨by decide, by decide⟩ (hP.sub (ws' := (wAJ G (a 6) 7 ((s4G (s4S (s4S (s4S (s4S (s4S (s4S (s4S (s4S (s4I (s4S q 2 0) 2 0) 3 1) 4 1000000) 5 21991231) 6 0) 7 0) 8 0) 9 0) 10 0) 5 f_1).2.2.1 6))) [6] rfl) (va_D.sub (dC (q1 := (s4G (s4S (s4S (s4S (s4S (s4S (s4S (s4S (s4S (s4I (s4S q 2 0) 2 0) 3 1) 4 1000000) 5 21991231) 6 0) 7 0) 8 0) 9 0) 10 0) 5 f_1)) hD) (ws' := (wAJ G (a 6) 7 ((s4G (s4S (s4S (s4S (s4S (s4S (s4S (s4S (s4S (s4I (s4S q 2 0) 2 0) 3 1) 4 1000000) 5 21991231) 6 0) 7 0) 8 0) 9 0) 10 0) 5 f_1).2.2.1 6))) [6] (by decide) rfl) hS rfl rfl hl.1 (Nat.le_of_ble_eq_true rfl) dX5_forget_67 ⟨Nat.le_refl _, Nat.le_refl _⟩ (fun H locs hP1 hk hS => ?_)
  have hP : va_P (DD G) vwCl (wC G a T (s4G (s4G (s4S (s4S (s4S (s4S (s4S (s4S (s4S (s4S (s4I (s4S q 2 0) 2 0) 3 1) 4 1000000) 5 21991231) 6 0) 7 0) 8 0) 9 0) 10 0) 5 f_1) 6 f_2)) H := va_set1 (p := 6) hP (dC (q1 := (s4G (s4S (s4S (s4S (s4S (s4S (s4S (s4S (s4S (s4I (s4S q 2 0) 2 0) 3 1) 4 1000000) 5 21991231) 6 0) 7 0) 8 0) 9 0) 10 0) 5 f_1)) hD) rfl hk hP1
  refine lv_aload_n hx hb dX5_forget_70 rfl (lv_at hl 0 rfl) ?_
  refine gC_rule_places X kw98 hP dX5_forget_71 ?_
  refine lv_iconst (v := 0) hx hb dX5_forget_74 (by decide) ?_
  obtain ⟨f_3, e_3, hm⟩ := bd1_s hm
  refine goT_v (n := 2) X (cQJ7_fill_031fb (a0 := a 7) e_3) (gSx kw70 kw71 kw6 kw72) (by decide +kernel) ⟨by decide, by decide⟩ (hP.sub (ws' := (wAB G (a 7) 733 ((s4G (s4G (s4S (s4S (s4S (s4S (s4S (s4S (s4S (s4S (s4I (s4S q 2 0) 2 0) 3 1) 4 1000000) 5 21991231) 6 0) 7 0) 8 0) 9 0) 10 0) 5 f_1) 6 f_2).2.1 7))) [7] rfl) (va_D.sub (dC (q1 := (s4G (s4G (s4S (s4S (s4S (s4S (s4S (s4S (s4S (s4S (s4I (s4S q 2 0) 2 0) 3 1) 4 1000000) 5 21991231) 6 0) 7 0) 8 0) 9 0) 10 0) 5 f_1) 6 f_2)) hD) (ws' := (wAB G (a 7) 733 ((s4G (s4G (s4S (s4S (s4S (s4S (s4S (s4S (s4S (s4S (s4I (s4S q 2 0) 2 0) 3 1) 4 1000000) 5 21991231) 6 0) 7 0) 8 0) 9 0) 10 0) 5 f_1) 6 f_2).2.1 7))) [7] (by decide) rfl) hS rfl rfl hl.1 (Nat.le_of_ble_eq_true rfl) dX5_forget_75 ⟨Nat.le_refl _, Nat.le_refl _⟩ (fun H locs hP1 hk hS => ?_)
  have hP : va_P (DD G) vwCl (wC G a T (s4F (s4G (s4G (s4S (s4S (s4S (s4S (s4S (s4S (s4S (s4S (s4I (s4S q 2 0) 2 0) 3 1) 4 1000000) 5 21991231) 6 0) 7 0) 8 0) 9 0) 10 0) 5 f_1) 6 f_2) 7 f_3)) H := va_set1 (p := 7) hP (dC (q1 := (s4G (s4G (s4S (s4S (s4S (s4S (s4S (s4S (s4S (s4S (s4I (s4S q 2 0) 2 0) 3 1) 4 1000000) 5 21991231) 6 0) 7 0) 8 0) 9 0) 10 0) 5 f_1) 6 f_2)) hD) rfl hk hP1
  exact ret_v (wf := wC G a T) X hm hP hS dX5_forget_78

-- RuledCalendar$Rule.has
def moQ5_has (n : Nat) (x1 : Nat) (q : Pc4) : Option (Int32) :=
  (gl x1 8 (if ((r4S q 2) &&& (pbit x1)) = 0 then (some 0) else (some 1)))
set_option maxHeartbeats 4000000 in
set_option maxRecDepth 100000 in
theorem cQ5_has {l : Launch} {G : Ev} {a : Nat → Nat} {T : va_W} {n : Nat} {q : Pc4} {x1 : Nat} {r : Int32} (hm : moQ5_has n x1 q = some r) : CtI l G yX5_has cX5_has 2 (some .boolean) 0 0 0 0 [.ref (a 4), .ref (sa G (10 + x1))] (wC G a T q) (wC G a T q) r := by
  intro sz
  refine enter (by decide) (Nat.le_of_ble_eq_true rfl) ?_
  intro p e s m args below meth c ls X hsz hP hD hS hl
  subst hsz
  obtain ⟨⟨hx, hb, hml, hown, hts⟩, hK, hr, hlk, hA, hAs, hSta⟩ := id X
  have hl : lv_has ls 2 [(0, .ref (a 4)), (1, .ref (sa G (10 + x1)))] := hl
  unfold moQ5_has at hm
  refine lv_aload_n hx hb dX5_has_0 rfl (lv_at hl 0 rfl) ?_
  refine gC_rule_present X kw73 hP dX5_has_1 ?_
  refine lv_aload_n hx hb dX5_has_4 rfl (lv_at hl 1 rfl) ?_
  obtain ⟨hg_1, hm⟩ := gl_s hm
  refine vk_getf hx hb (fP_bit X hg_1) hS hown (hts _ (List.mem_cons_of_mem _ kw1075)) (fun _ h => h) dX5_has_5 ?_
  refine lv_iand hx hb dX5_has_8 ?_
  refine lv_if_eq (tgt := 16) hx hb dX5_has_9 (by decide) (fun c_2 => ?_) (fun c_2 => ?_)
  · have hm := (if_pos c_2).symm.trans hm
    refine lv_iconst (v := 0) hx hb dX5_has_16 (by decide) ?_
    exact ret_zo (wf := wC G a T) X (by decide) hm hP hS dX5_has_17
  · have hm := (if_neg c_2).symm.trans hm
    refine lv_iconst (v := 1) hx hb dX5_has_12 (by decide) ?_
    refine lv_goto (tgt := 17) hx hb dX5_has_13 (by decide) ?_
    exact ret_zo (wf := wC G a T) X (by decide) hm hP hS dX5_has_17

-- RuledCalendar$Rule.addNumber
def moQ5_addNumber (n : Nat) (x1 : Nat) (x2 : Int32) (q : Pc4) : Option (Pc4) :=
  (gl x1 8 (if x1 = 1 then (some (s4S q 3 x2)) else (gl x1 8 (if x1 = 2 then (some (s4S q 4 x2)) else (gl x1 8 (if x1 = 3 then (some (s4S q 5 x2)) else (gl x1 8 (if x1 = 4 then (some (s4S q 6 ((r4S q 6) ||| (slI 1 x2)))) else (gl x1 8 (if x1 = 6 then (gi (366 + x2) 733 (some (s4A q 7 (366 + x2) (vp_nar .byte 1)))) else (if x2 ≤ 0 then (some (s4S q 8 ((r4S q 8) ||| (slI 1 (31 + x2))))) else (some (s4S q 7 ((r4S q 7) ||| (slI 1 (x2 - 1))))))))))))))))
set_option maxHeartbeats 4000000 in
set_option maxRecDepth 100000 in
theorem cQ5_addNumber {l : Launch} {G : Ev} {a : Nat → Nat} {T : va_W} {n : Nat} {q : Pc4} {x1 : Nat} {x2 : Int32} {q' : Pc4} (hm : moQ5_addNumber n x1 x2 q = some q') : CtV l G yX5_addNumber cX5_addNumber 3 none 0 0 0 0 [.ref (a 4), .ref (sa G (10 + x1)), .int x2] (wC G a T q) (wC G a T q') := by
  intro sz
  refine enter (by decide) (Nat.le_of_ble_eq_true rfl) ?_
  intro p e s m args below meth c ls X hsz hP hD hS hl
  subst hsz
  obtain ⟨⟨hx, hb, hml, hown, hts⟩, hK, hr, hlk, hA, hAs, hSta⟩ := id X
  have hl : lv_has ls 3 [(0, .ref (a 4)), (1, .ref (sa G (10 + x1))), (2, .int x2)] := hl
  unfold moQ5_addNumber at hm
  refine lv_aload_n hx hb dX5_addNumber_0 rfl (lv_at hl 1 rfl) ?_
  refine va_gets hx hb (zP_INTERVAL X) hS hown (hts _ (List.mem_cons_of_mem _ kw465)) (fun _ h => h) dX5_addNumber_1 ?_
  obtain ⟨hg_1, hm⟩ := gl_s hm
  refine acP (tgt := 15) X hg_1 (by decide) dX5_addNumber_4 (by decide) (fun c_2 => ?_) (fun c_2 => ?_)
  · have hm := (if_neg c_2).symm.trans hm
    refine lv_aload_n hx hb dX5_addNumber_15 rfl (lv_at hl 1 rfl) ?_
    refine va_gets hx hb (zP_COUNT X) hS hown (hts _ (List.mem_cons_of_mem _ kw467)) (fun _ h => h) dX5_addNumber_16 ?_
    obtain ⟨hg_3, hm⟩ := gl_s hm
    refine acP (tgt := 30) X hg_3 (by decide) dX5_addNumber_19 (by decide) (fun c_4 => ?_) (fun c_4 => ?_)
    · have hm := (if_neg c_4).symm.trans hm
      refine lv_aload_n hx hb dX5_addNumber_30 rfl (lv_at hl 1 rfl) ?_
      refine va_gets hx hb (zP_UNTIL X) hS hown (hts _ (List.mem_cons_of_mem _ kw469)) (fun _ h => h) dX5_addNumber_31 ?_
      obtain ⟨hg_5, hm⟩ := gl_s hm
      refine acP (tgt := 45) X hg_5 (by decide) dX5_addNumber_34 (by decide) (fun c_6 => ?_) (fun c_6 => ?_)
      · have hm := (if_neg c_6).symm.trans hm
        refine lv_aload_n hx hb dX5_addNumber_45 rfl (lv_at hl 1 rfl) ?_
        refine va_gets hx hb (zP_BYMONTH X) hS hown (hts _ (List.mem_cons_of_mem _ kw470)) (fun _ h => h) dX5_addNumber_46 ?_
        obtain ⟨hg_7, hm⟩ := gl_s hm
        refine acP (tgt := 67) X hg_7 (by decide) dX5_addNumber_49 (by decide) (fun c_8 => ?_) (fun c_8 => ?_)
        · have hm := (if_neg c_8).symm.trans hm
          refine lv_aload_n hx hb dX5_addNumber_67 rfl (lv_at hl 1 rfl) ?_
          refine va_gets hx hb (zP_BYSETPOS X) hS hown (hts _ (List.mem_cons_of_mem _ kw472)) (fun _ h => h) dX5_addNumber_68 ?_
          obtain ⟨hg_9, hm⟩ := gl_s hm
          refine acP (tgt := 88) X hg_9 (by decide) dX5_addNumber_71 (by decide) (fun c_10 => ?_) (fun c_10 => ?_)
          · have hm := (if_neg c_10).symm.trans hm
            refine lv_iload_n hx hb dX5_addNumber_88 rfl (lv_at hl 2 rfl) ?_
            refine lv_if_le (tgt := 109) hx hb dX5_addNumber_89 (by decide) (fun c_11 => ?_) (fun c_11 => ?_)
            · have hm := (if_pos c_11).symm.trans hm
              refine lv_aload_n hx hb dX5_addNumber_109 rfl (lv_at hl 0 rfl) ?_
              refine lv_dup hx hb dX5_addNumber_110 rfl ?_
              refine gC_rule_monthDaysFromEnd X kw88 hP dX5_addNumber_111 ?_
              refine lv_iconst (v := 1) hx hb dX5_addNumber_114 (by decide) ?_
              refine lv_bipush (v := 31) hx hb dX5_addNumber_115 (by decide) ?_
              refine lv_iload_n hx hb dX5_addNumber_117 rfl (lv_at hl 2 rfl) ?_
              refine lv_iadd hx hb dX5_addNumber_118 ?_
              refine lv_ishl hx hb dX5_addNumber_119 ?_
              refine lv_ior hx hb dX5_addNumber_120 ?_
              refine pC_rule_monthDaysFromEnd X kw88 hP (dC (q1 := q) hD) hS dX5_addNumber_121 (fun H locs hP hS => ?_)
              have hP : va_P (DD G) vwCl (wC G a T (s4S q 8 ((r4S q 8) ||| (slI 1 (31 + x2))))) H := hP
              exact ret_v (wf := wC G a T) X hm hP hS dX5_addNumber_124
            · have hm := (if_neg c_11).symm.trans hm
              refine lv_aload_n hx hb dX5_addNumber_92 rfl (lv_at hl 0 rfl) ?_
              refine lv_dup hx hb dX5_addNumber_93 rfl ?_
              refine gC_rule_monthDays X kw86 hP dX5_addNumber_94 ?_
              refine lv_iconst (v := 1) hx hb dX5_addNumber_97 (by decide) ?_
              refine lv_iload_n hx hb dX5_addNumber_98 rfl (lv_at hl 2 rfl) ?_
              refine lv_iconst (v := 1) hx hb dX5_addNumber_99 (by decide) ?_
              refine lv_isub hx hb dX5_addNumber_100 ?_
              refine lv_ishl hx hb dX5_addNumber_101 ?_
              refine lv_ior hx hb dX5_addNumber_102 ?_
              refine pC_rule_monthDays X kw86 hP (dC (q1 := q) hD) hS dX5_addNumber_103 (fun H locs hP hS => ?_)
              have hP : va_P (DD G) vwCl (wC G a T (s4S q 7 ((r4S q 7) ||| (slI 1 (x2 - 1))))) H := hP
              refine lv_goto (tgt := 124) hx hb dX5_addNumber_106 (by decide) ?_
              exact ret_v (wf := wC G a T) X hm hP hS dX5_addNumber_124
          · have hm := (if_pos c_10).symm.trans hm
            refine lv_aload_n hx hb dX5_addNumber_74 rfl (lv_at hl 0 rfl) ?_
            refine gC_rule_places X kw98 hP dX5_addNumber_75 ?_
            refine lv_sipush (v := 366) hx hb dX5_addNumber_78 (by decide) ?_
            refine lv_iload_n hx hb dX5_addNumber_81 rfl (lv_at hl 2 rfl) ?_
            refine lv_iadd hx hb dX5_addNumber_82 ?_
            refine lv_iconst (v := 1) hx hb dX5_addNumber_83 (by decide) ?_
            obtain ⟨hi_12, hm⟩ := gi_s hm
            refine stC_places X hP (dC (q1 := q) hD) hS hi_12 dX5_addNumber_84 (fun H locs hP hS => ?_)
            have hP : va_P (DD G) vwCl (wC G a T (s4A q 7 (366 + x2) (vp_nar .byte 1))) H := hP
            refine lv_goto (tgt := 124) hx hb dX5_addNumber_85 (by decide) ?_
            exact ret_v (wf := wC G a T) X hm hP hS dX5_addNumber_124
        · have hm := (if_pos c_8).symm.trans hm
          refine lv_aload_n hx hb dX5_addNumber_52 rfl (lv_at hl 0 rfl) ?_
          refine lv_dup hx hb dX5_addNumber_53 rfl ?_
          refine gC_rule_months X kw84 hP dX5_addNumber_54 ?_
          refine lv_iconst (v := 1) hx hb dX5_addNumber_57 (by decide) ?_
          refine lv_iload_n hx hb dX5_addNumber_58 rfl (lv_at hl 2 rfl) ?_
          refine lv_ishl hx hb dX5_addNumber_59 ?_
          refine lv_ior hx hb dX5_addNumber_60 ?_
          refine pC_rule_months X kw84 hP (dC (q1 := q) hD) hS dX5_addNumber_61 (fun H locs hP hS => ?_)
          have hP : va_P (DD G) vwCl (wC G a T (s4S q 6 ((r4S q 6) ||| (slI 1 x2)))) H := hP
          refine lv_goto (tgt := 124) hx hb dX5_addNumber_64 (by decide) ?_
          exact ret_v (wf := wC G a T) X hm hP hS dX5_addNumber_124
      · have hm := (if_pos c_6).symm.trans hm
        refine lv_aload_n hx hb dX5_addNumber_37 rfl (lv_at hl 0 rfl) ?_
        refine lv_iload_n hx hb dX5_addNumber_38 rfl (lv_at hl 2 rfl) ?_
        refine pC_rule_until X kw82 hP (dC (q1 := q) hD) hS dX5_addNumber_39 (fun H locs hP hS => ?_)
        have hP : va_P (DD G) vwCl (wC G a T (s4S q 5 x2)) H := hP
        refine lv_goto (tgt := 124) hx hb dX5_addNumber_42 (by decide) ?_
        exact ret_v (wf := wC G a T) X hm hP hS dX5_addNumber_124
    · have hm := (if_pos c_4).symm.trans hm
      refine lv_aload_n hx hb dX5_addNumber_22 rfl (lv_at hl 0 rfl) ?_
      refine lv_iload_n hx hb dX5_addNumber_23 rfl (lv_at hl 2 rfl) ?_
      refine pC_rule_count X kw80 hP (dC (q1 := q) hD) hS dX5_addNumber_24 (fun H locs hP hS => ?_)
      have hP : va_P (DD G) vwCl (wC G a T (s4S q 4 x2)) H := hP
      refine lv_goto (tgt := 124) hx hb dX5_addNumber_27 (by decide) ?_
      exact ret_v (wf := wC G a T) X hm hP hS dX5_addNumber_124
  · have hm := (if_pos c_2).symm.trans hm
    refine lv_aload_n hx hb dX5_addNumber_7 rfl (lv_at hl 0 rfl) ?_
    refine lv_iload_n hx hb dX5_addNumber_8 rfl (lv_at hl 2 rfl) ?_
    refine pC_rule_interval X kw78 hP (dC (q1 := q) hD) hS dX5_addNumber_9 (fun H locs hP hS => ?_)
    have hP : va_P (DD G) vwCl (wC G a T (s4S q 3 x2)) H := hP
    refine lv_goto (tgt := 124) hx hb dX5_addNumber_12 (by decide) ?_
    exact ret_v (wf := wC G a T) X hm hP hS dX5_addNumber_124

-- RuledCalendar$Rule.addWeekday
def moQ5_addWeekday (n : Nat) (x1 : Int32) (x2 : Int32) (q : Pc4) : Option (Pc4) :=
  (if x2 = 0 then (some (s4S q 9 ((r4S q 9) ||| (slI 1 x1)))) else (if x2 ≤ 0 then (gi x1 7 (gi x1 7 (some (s4L (s4S q 10 ((r4S q 10) ||| (slI 1 x1))) 6 x1 ((r4L (s4S q 10 ((r4S q 10) ||| (slI 1 x1))) 6 x1) ||| (slL 1 (-x2))))))) else (gi x1 7 (gi x1 7 (some (s4L (s4S q 10 ((r4S q 10) ||| (slI 1 x1))) 5 x1 ((r4L (s4S q 10 ((r4S q 10) ||| (slI 1 x1))) 5 x1) ||| (slL 1 x2))))))))
set_option maxHeartbeats 4000000 in
set_option maxRecDepth 100000 in
theorem cQ5_addWeekday {l : Launch} {G : Ev} {a : Nat → Nat} {T : va_W} {n : Nat} {q : Pc4} {x1 : Int32} {x2 : Int32} {q' : Pc4} (hm : moQ5_addWeekday n x1 x2 q = some q') : CtV l G yX5_addWeekday cX5_addWeekday 3 none 0 0 0 0 [.ref (a 4), .int x1, .int x2] (wC G a T q) (wC G a T q') := by
  intro sz
  refine enter (by decide) (Nat.le_of_ble_eq_true rfl) ?_
  intro p e s m args below meth c ls X hsz hP hD hS hl
  subst hsz
  obtain ⟨⟨hx, hb, hml, hown, hts⟩, hK, hr, hlk, hA, hAs, hSta⟩ := id X
  have hl : lv_has ls 3 [(0, .ref (a 4)), (1, .int x1), (2, .int x2)] := hl
  unfold moQ5_addWeekday at hm
  refine lv_iload_n hx hb dX5_addWeekday_0 rfl (lv_at hl 2 rfl) ?_
  refine lv_if_ne (tgt := 17) hx hb dX5_addWeekday_1 (by decide) (fun c_1 => ?_) (fun c_1 => ?_)
  · have hm := (if_neg c_1).symm.trans hm
    refine lv_aload_n hx hb dX5_addWeekday_17 rfl (lv_at hl 0 rfl) ?_
    refine lv_dup hx hb dX5_addWeekday_18 rfl ?_
    refine gC_rule_numberedWeekdays X kw92 hP dX5_addWeekday_19 ?_
    refine lv_iconst (v := 1) hx hb dX5_addWeekday_22 (by decide) ?_
    refine lv_iload_n hx hb dX5_addWeekday_23 rfl (lv_at hl 1 rfl) ?_
    refine lv_ishl hx hb dX5_addWeekday_24 ?_
    refine lv_ior hx hb dX5_addWeekday_25 ?_
    refine pC_rule_numberedWeekdays X kw92 hP (dC (q1 := q) hD) hS dX5_addWeekday_26 (fun H locs hP hS => ?_)
    have hP : va_P (DD G) vwCl (wC G a T (s4S q 10 ((r4S q 10) ||| (slI 1 x1)))) H := hP
    refine lv_iload_n hx hb dX5_addWeekday_29 rfl (lv_at hl 2 rfl) ?_
    refine lv_if_le (tgt := 48) hx hb dX5_addWeekday_30 (by decide) (fun c_2 => ?_) (fun c_2 => ?_)
    · have hm := (if_pos c_2).symm.trans hm
      refine lv_aload_n hx hb dX5_addWeekday_48 rfl (lv_at hl 0 rfl) ?_
      refine gC_rule_numbersFromEnd X kw96 hP dX5_addWeekday_49 ?_
      refine lv_iload_n hx hb dX5_addWeekday_52 rfl (lv_at hl 1 rfl) ?_
      refine lv_dup2_11 hx hb dX5_addWeekday_53 rfl rfl ?_
      obtain ⟨hi_3, hm⟩ := gi_s hm
      refine ldC_numbersFromEnd X hP hi_3 dX5_addWeekday_54 ?_
      refine lv_lconst (v := 1) hx hb dX5_addWeekday_55 (by decide) ?_
      refine lv_iload_n hx hb dX5_addWeekday_56 rfl (lv_at hl 2 rfl) ?_
      refine lv_ineg hx hb dX5_addWeekday_57 ?_
      refine lv_lshl (v := (slL 1 (-x2))) hx hb dX5_addWeekday_58 rfl ?_
      refine lv_lor hx hb dX5_addWeekday_59 ?_
      obtain ⟨hi_4, hm⟩ := gi_s hm
      refine stC_numbersFromEnd X hP (dC (q1 := (s4S q 10 ((r4S q 10) ||| (slI 1 x1)))) hD) hS hi_4 dX5_addWeekday_60 (fun H locs hP hS => ?_)
      have hP : va_P (DD G) vwCl (wC G a T (s4L (s4S q 10 ((r4S q 10) ||| (slI 1 x1))) 6 x1 ((r4L (s4S q 10 ((r4S q 10) ||| (slI 1 x1))) 6 x1) ||| (slL 1 (-x2))))) H := hP
      exact ret_v (wf := wC G a T) X hm hP hS dX5_addWeekday_61
    · have hm := (if_neg c_2).symm.trans hm
      refine lv_aload_n hx hb dX5_addWeekday_33 rfl (lv_at hl 0 rfl) ?_
      refine gC_rule_numbers X kw94 hP dX5_addWeekday_34 ?_
      refine lv_iload_n hx hb dX5_addWeekday_37 rfl (lv_at hl 1 rfl) ?_
      refine lv_dup2_11 hx hb dX5_addWeekday_38 rfl rfl ?_
      obtain ⟨hi_5, hm⟩ := gi_s hm
      refine ldC_numbers X hP hi_5 dX5_addWeekday_39 ?_
      refine lv_lconst (v := 1) hx hb dX5_addWeekday_40 (by decide) ?_
      refine lv_iload_n hx hb dX5_addWeekday_41 rfl (lv_at hl 2 rfl) ?_
      refine lv_lshl (v := (slL 1 x2)) hx hb dX5_addWeekday_42 rfl ?_
      refine lv_lor hx hb dX5_addWeekday_43 ?_
      obtain ⟨hi_6, hm⟩ := gi_s hm
      refine stC_numbers X hP (dC (q1 := (s4S q 10 ((r4S q 10) ||| (slI 1 x1)))) hD) hS hi_6 dX5_addWeekday_44 (fun H locs hP hS => ?_)
      have hP : va_P (DD G) vwCl (wC G a T (s4L (s4S q 10 ((r4S q 10) ||| (slI 1 x1))) 5 x1 ((r4L (s4S q 10 ((r4S q 10) ||| (slI 1 x1))) 5 x1) ||| (slL 1 x2)))) H := hP
      refine lv_goto (tgt := 61) hx hb dX5_addWeekday_45 (by decide) ?_
      exact ret_v (wf := wC G a T) X hm hP hS dX5_addWeekday_61
  · have hm := (if_pos c_1).symm.trans hm
    refine lv_aload_n hx hb dX5_addWeekday_4 rfl (lv_at hl 0 rfl) ?_
    refine lv_dup hx hb dX5_addWeekday_5 rfl ?_
    refine gC_rule_weekdays X kw90 hP dX5_addWeekday_6 ?_
    refine lv_iconst (v := 1) hx hb dX5_addWeekday_9 (by decide) ?_
    refine lv_iload_n hx hb dX5_addWeekday_10 rfl (lv_at hl 1 rfl) ?_
    refine lv_ishl hx hb dX5_addWeekday_11 ?_
    refine lv_ior hx hb dX5_addWeekday_12 ?_
    refine pC_rule_weekdays X kw90 hP (dC (q1 := q) hD) hS dX5_addWeekday_13 (fun H locs hP hS => ?_)
    have hP : va_P (DD G) vwCl (wC G a T (s4S q 9 ((r4S q 9) ||| (slI 1 x1)))) H := hP
    exact ret_v (wf := wC G a T) X hm hP hS dX5_addWeekday_16
