-- freqOf
def moN_freqOf_B106 (n : Nat) (q : Unit) (x0 : Int64) (x2 : Int32) (x5 : Int64) (x7 : Int64) (x9 : Int64)  : Option (Int32) :=
  (if x2 = 6 then (if (lg_cmp x0 x5) = 0 then (some 1) else (if x2 = 7 then (if (lg_cmp x0 x7) = 0 then (some 2) else (if x2 = 6 then (if (lg_cmp x0 x9) = 0 then (some 3) else (some (-1))) else (some (-1)))) else (if x2 = 6 then (if (lg_cmp x0 x9) = 0 then (some 3) else (some (-1))) else (some (-1))))) else (if x2 = 7 then (if (lg_cmp x0 x7) = 0 then (some 2) else (if x2 = 6 then (if (lg_cmp x0 x9) = 0 then (some 3) else (some (-1))) else (some (-1)))) else (if x2 = 6 then (if (lg_cmp x0 x9) = 0 then (some 3) else (some (-1))) else (some (-1)))))
def moN_freqOf (n : Nat) (x0 : Int64) (x2 : Int32) : Option (Int32) :=
  (bd1 (moN_word n 4 1 9 12) fun r_1 => (bd1 (moN_word n 23 5 5 11) fun r_2 => (bd1 (moN_word n 0 0 12 25) fun r_3 => (bd1 (moN_word n 13 15 14 20) fun r_4 => (bd1 (moN_word n 0 8 12 25) fun r_5 => (bd1 (moN_word n 25 5 1 18) fun r_6 => (bd1 (moN_word n 0 0 12 25) fun r_7 => (if x2 = 5 then (if (lg_cmp x0 ((slL r_1 5) ||| 25)) = 0 then (some 0) else (moN_freqOf_B106 n () x0 x2 ((slL r_2 10) ||| r_3) ((slL r_4 15) ||| r_5) ((slL r_6 10) ||| r_7) )) else (moN_freqOf_B106 n () x0 x2 ((slL r_2 10) ||| r_3) ((slL r_4 15) ||| r_5) ((slL r_6 10) ||| r_7) )))))))))
set_option maxHeartbeats 4000000 in
set_option maxRecDepth 100000 in
theorem bkN_freqOf_106 {p : Program} {l : Launch} {e : Env} {s : State} {m : MethodId} {args : Array Value} {below : List Frame} {meth : Method} {c : Code} {G : Ev}   {q : Unit} {L : List Nat} {r : Int32} {n : Nat} {x0 : Int64} {x2 : Int32} {x5 : Int64} {x7 : Int64} {x9 : Int64} {H : Heap} {locs : List Loc} {ls : Array Slot} (X : CX p s m args meth c cX8_freqOf 11 (some .int) RX8 (.code yX8_freqOf cX8_freqOf 11 (some .int)) G (AL L s.heap.size)) (hD : va_D (AL L s.heap.size) (wN q)) (hm : moN_freqOf_B106 n q x0 x2 x5 x7 x9  = some r) (hP : va_P (DD G) vwCl (wN q) H) (hS : va_S (AL L s.heap.size) s.heap H locs) (hl : lv_has ls 11 [(0, .long x0), (2, .int x2), (5, .long x5), (7, .long x7), (9, .long x9)]) : W p l e { frames := 1, cells := 0, slots := 0, locals := 23 } s m args below meth c H locs 0 0 (MQ below (va_Qi (fun r' (_ : Unit) => r' = r) (fun _ t => va_P (DD G) vwCl (wN q) t.heap) (AL L s.heap.size)) args s 0 0 (AL L s.heap.size)) (F0 m 106 ls []) := by
  obtain ⟨⟨hx, hb, hml, hown, hts⟩, hK, hr, hlk, hA, hAs, hSta⟩ := id X
  unfold moN_freqOf_B106 at hm
  refine lv_iload_n hx hb dX8_freqOf_106 rfl (lv_at hl 1 rfl) ?_
  refine lv_bipush (v := 6) hx hb dX8_freqOf_107 (by decide) ?_
  refine lv_icmp_ne (tgt := 123) hx hb dX8_freqOf_109 (by decide) (fun c_9 => ?_) (fun c_9 => ?_)
  · have hm := (if_neg c_9).symm.trans hm
    refine lv_iload_n hx hb dX8_freqOf_123 rfl (lv_at hl 1 rfl) ?_
    refine lv_bipush (v := 7) hx hb dX8_freqOf_124 (by decide) ?_
    refine lv_icmp_ne (tgt := 140) hx hb dX8_freqOf_126 (by decide) (fun c_10 => ?_) (fun c_10 => ?_)
    · have hm := (if_neg c_10).symm.trans hm
      refine lv_iload_n hx hb dX8_freqOf_140 rfl (lv_at hl 1 rfl) ?_
      refine lv_bipush (v := 6) hx hb dX8_freqOf_141 (by decide) ?_
      refine lv_icmp_ne (tgt := 157) hx hb dX8_freqOf_143 (by decide) (fun c_11 => ?_) (fun c_11 => ?_)
      · have hm := (if_neg c_11).symm.trans hm
        refine lv_iconst (v := (-1)) hx hb dX8_freqOf_157 (by decide) ?_
        exact ret_io (wf := wN) X hm hP hS dX8_freqOf_158
      · have hm := (if_pos c_11).symm.trans hm
        refine lv_lload_n hx hb dX8_freqOf_146 rfl (lv_at hl 0 rfl) ?_
        refine lv_lload hx hb dX8_freqOf_147 (lv_at hl 4 rfl) ?_
        refine W.lcmp hx hb dX8_freqOf_149 ?_
        refine lv_if_ne (tgt := 157) hx hb dX8_freqOf_150 (by decide) (fun c_12 => ?_) (fun c_12 => ?_)
        · have hm := (if_neg c_12).symm.trans hm
          refine lv_iconst (v := (-1)) hx hb dX8_freqOf_157 (by decide) ?_
          exact ret_io (wf := wN) X hm hP hS dX8_freqOf_158
        · have hm := (if_pos c_12).symm.trans hm
          refine lv_iconst (v := 3) hx hb dX8_freqOf_153 (by decide) ?_
          refine lv_goto (tgt := 158) hx hb dX8_freqOf_154 (by decide) ?_
          exact ret_io (wf := wN) X hm hP hS dX8_freqOf_158
    · have hm := (if_pos c_10).symm.trans hm
      refine lv_lload_n hx hb dX8_freqOf_129 rfl (lv_at hl 0 rfl) ?_
      refine lv_lload hx hb dX8_freqOf_130 (lv_at hl 3 rfl) ?_
      refine W.lcmp hx hb dX8_freqOf_132 ?_
      refine lv_if_ne (tgt := 140) hx hb dX8_freqOf_133 (by decide) (fun c_13 => ?_) (fun c_13 => ?_)
      · have hm := (if_neg c_13).symm.trans hm
        refine lv_iload_n hx hb dX8_freqOf_140 rfl (lv_at hl 1 rfl) ?_
        refine lv_bipush (v := 6) hx hb dX8_freqOf_141 (by decide) ?_
        refine lv_icmp_ne (tgt := 157) hx hb dX8_freqOf_143 (by decide) (fun c_14 => ?_) (fun c_14 => ?_)
        · have hm := (if_neg c_14).symm.trans hm
          refine lv_iconst (v := (-1)) hx hb dX8_freqOf_157 (by decide) ?_
          exact ret_io (wf := wN) X hm hP hS dX8_freqOf_158
        · have hm := (if_pos c_14).symm.trans hm
          refine lv_lload_n hx hb dX8_freqOf_146 rfl (lv_at hl 0 rfl) ?_
          refine lv_lload hx hb dX8_freqOf_147 (lv_at hl 4 rfl) ?_
          refine W.lcmp hx hb dX8_freqOf_149 ?_
          refine lv_if_ne (tgt := 157) hx hb dX8_freqOf_150 (by decide) (fun c_15 => ?_) (fun c_15 => ?_)
          · have hm := (if_neg c_15).symm.trans hm
            refine lv_iconst (v := (-1)) hx hb dX8_freqOf_157 (by decide) ?_
            exact ret_io (wf := wN) X hm hP hS dX8_freqOf_158
          · have hm := (if_pos c_15).symm.trans hm
            refine lv_iconst (v := 3) hx hb dX8_freqOf_153 (by decide) ?_
            refine lv_goto (tgt := 158) hx hb dX8_freqOf_154 (by decide) ?_
            exact ret_io (wf := wN) X hm hP hS dX8_freqOf_158
      · have hm := (if_pos c_13).symm.trans hm
        refine lv_iconst (v := 2) hx hb dX8_freqOf_136 (by decide) ?_
        refine lv_goto (tgt := 158) hx hb dX8_freqOf_137 (by decide) ?_
        exact ret_io (wf := wN) X hm hP hS dX8_freqOf_158
  · have hm := (if_pos c_9).symm.trans hm
    refine lv_lload_n hx hb dX8_freqOf_112 rfl (lv_at hl 0 rfl) ?_
    refine lv_lload hx hb dX8_freqOf_113 (lv_at hl 2 rfl) ?_
    refine W.lcmp hx hb dX8_freqOf_115 ?_
    refine lv_if_ne (tgt := 123) hx hb dX8_freqOf_116 (by decide) (fun c_16 => ?_) (fun c_16 => ?_)
    · have hm := (if_neg c_16).symm.trans hm
      refine lv_iload_n hx hb dX8_freqOf_123 rfl (lv_at hl 1 rfl) ?_
      refine lv_bipush (v := 7) hx hb dX8_freqOf_124 (by decide) ?_
      refine lv_icmp_ne (tgt := 140) hx hb dX8_freqOf_126 (by decide) (fun c_17 => ?_) (fun c_17 => ?_)
      · have hm := (if_neg c_17).symm.trans hm
        refine lv_iload_n hx hb dX8_freqOf_140 rfl (lv_at hl 1 rfl) ?_
        refine lv_bipush (v := 6) hx hb dX8_freqOf_141 (by decide) ?_
        refine lv_icmp_ne (tgt := 157) hx hb dX8_freqOf_143 (by decide) (fun c_18 => ?_) (fun c_18 => ?_)
        · have hm := (if_neg c_18).symm.trans hm
          refine lv_iconst (v := (-1)) hx hb dX8_freqOf_157 (by decide) ?_
          exact ret_io (wf := wN) X hm hP hS dX8_freqOf_158
        · have hm := (if_pos c_18).symm.trans hm
          refine lv_lload_n hx hb dX8_freqOf_146 rfl (lv_at hl 0 rfl) ?_
          refine lv_lload hx hb dX8_freqOf_147 (lv_at hl 4 rfl) ?_
          refine W.lcmp hx hb dX8_freqOf_149 ?_
          refine lv_if_ne (tgt := 157) hx hb dX8_freqOf_150 (by decide) (fun c_19 => ?_) (fun c_19 => ?_)
          · have hm := (if_neg c_19).symm.trans hm
            refine lv_iconst (v := (-1)) hx hb dX8_freqOf_157 (by decide) ?_
            exact ret_io (wf := wN) X hm hP hS dX8_freqOf_158
          · have hm := (if_pos c_19).symm.trans hm
            refine lv_iconst (v := 3) hx hb dX8_freqOf_153 (by decide) ?_
            refine lv_goto (tgt := 158) hx hb dX8_freqOf_154 (by decide) ?_
            exact ret_io (wf := wN) X hm hP hS dX8_freqOf_158
      · have hm := (if_pos c_17).symm.trans hm
        refine lv_lload_n hx hb dX8_freqOf_129 rfl (lv_at hl 0 rfl) ?_
        refine lv_lload hx hb dX8_freqOf_130 (lv_at hl 3 rfl) ?_
        refine W.lcmp hx hb dX8_freqOf_132 ?_
        refine lv_if_ne (tgt := 140) hx hb dX8_freqOf_133 (by decide) (fun c_20 => ?_) (fun c_20 => ?_)
        · have hm := (if_neg c_20).symm.trans hm
          refine lv_iload_n hx hb dX8_freqOf_140 rfl (lv_at hl 1 rfl) ?_
          refine lv_bipush (v := 6) hx hb dX8_freqOf_141 (by decide) ?_
          refine lv_icmp_ne (tgt := 157) hx hb dX8_freqOf_143 (by decide) (fun c_21 => ?_) (fun c_21 => ?_)
          · have hm := (if_neg c_21).symm.trans hm
            refine lv_iconst (v := (-1)) hx hb dX8_freqOf_157 (by decide) ?_
            exact ret_io (wf := wN) X hm hP hS dX8_freqOf_158
          · have hm := (if_pos c_21).symm.trans hm
            refine lv_lload_n hx hb dX8_freqOf_146 rfl (lv_at hl 0 rfl) ?_
            refine lv_lload hx hb dX8_freqOf_147 (lv_at hl 4 rfl) ?_
            refine W.lcmp hx hb dX8_freqOf_149 ?_
            refine lv_if_ne (tgt := 157) hx hb dX8_freqOf_150 (by decide) (fun c_22 => ?_) (fun c_22 => ?_)
            · have hm := (if_neg c_22).symm.trans hm
              refine lv_iconst (v := (-1)) hx hb dX8_freqOf_157 (by decide) ?_
              exact ret_io (wf := wN) X hm hP hS dX8_freqOf_158
            · have hm := (if_pos c_22).symm.trans hm
              refine lv_iconst (v := 3) hx hb dX8_freqOf_153 (by decide) ?_
              refine lv_goto (tgt := 158) hx hb dX8_freqOf_154 (by decide) ?_
              exact ret_io (wf := wN) X hm hP hS dX8_freqOf_158
        · have hm := (if_pos c_20).symm.trans hm
          refine lv_iconst (v := 2) hx hb dX8_freqOf_136 (by decide) ?_
          refine lv_goto (tgt := 158) hx hb dX8_freqOf_137 (by decide) ?_
          exact ret_io (wf := wN) X hm hP hS dX8_freqOf_158
    · have hm := (if_pos c_16).symm.trans hm
      refine lv_iconst (v := 1) hx hb dX8_freqOf_119 (by decide) ?_
      refine lv_goto (tgt := 158) hx hb dX8_freqOf_120 (by decide) ?_
      exact ret_io (wf := wN) X hm hP hS dX8_freqOf_158
set_option maxHeartbeats 4000000 in
set_option maxRecDepth 100000 in
theorem cN_freqOf {l : Launch} {G : Ev}  {n : Nat} {x0 : Int64} {x2 : Int32} {r : Int32} (hm : moN_freqOf n x0 x2  = some r) : CtI l G yX8_freqOf cX8_freqOf 11 (some .int) 1 23 0 0 [.long x0, .int x2] (wN ()) (wN ()) r := by
  intro sz
  refine enter (by decide) (Nat.le_of_ble_eq_true rfl) ?_
  intro p e s m args below meth c ls X hsz hP hD hS hl
  subst hsz
  obtain ⟨⟨hx, hb, hml, hown, hts⟩, hK, hr, hlk, hA, hAs, hSta⟩ := id X
  have hl : lv_has ls 11 [(0, .long x0), (2, .int x2)] := hl
  unfold moN_freqOf at hm
  refine lv_iconst (v := 4) hx hb dX8_freqOf_0 (by decide) ?_
  refine lv_iconst (v := 1) hx hb dX8_freqOf_1 (by decide) ?_
  refine lv_bipush (v := 9) hx hb dX8_freqOf_2 (by decide) ?_
  refine lv_bipush (v := 12) hx hb dX8_freqOf_4 (by decide) ?_
  obtain ⟨r_1, e_1, hm⟩ := bd1_s hm
  refine goS_l (n := 4) X (cN_word e_1) (gS kw920 kw921 kw9 kw922) (by decide +kernel) ⟨by decide, by decide⟩ va_nil va_dnil hS rfl rfl hl.1 (Nat.le_of_ble_eq_true rfl) dX8_freqOf_6 ⟨Nat.le_refl _, Nat.le_refl _⟩ (fun H locs _ hk hS => ?_)
  have hP := va_keep hP hk
  refine lv_iconst (v := 5) hx hb dX8_freqOf_9 (by decide) ?_
  refine lv_lshl (v := (slL r_1 5)) hx hb dX8_freqOf_10 rfl ?_
  refine lv_ldc2 (v := 25) hx hb hown (hts _ (List.mem_cons_of_mem _ kw926)) dX8_freqOf_11 ?_
  refine lv_lor hx hb dX8_freqOf_14 ?_
  refine lv_lstore_n (lv' := [(3, .long ((slL r_1 5) ||| 25)), (0, .long x0), (2, .int x2)]) hx hb dX8_freqOf_15 rfl hl (by decide) rfl (fun ls hl => ?_)
  refine lv_bipush (v := 23) hx hb dX8_freqOf_16 (by decide) ?_
  refine lv_iconst (v := 5) hx hb dX8_freqOf_18 (by decide) ?_
  refine lv_iconst (v := 5) hx hb dX8_freqOf_19 (by decide) ?_
  refine lv_bipush (v := 11) hx hb dX8_freqOf_20 (by decide) ?_
  obtain ⟨r_2, e_2, hm⟩ := bd1_s hm
  refine goS_l (n := 4) X (cN_word e_2) (gS kw920 kw921 kw9 kw922) (by decide +kernel) ⟨by decide, by decide⟩ va_nil va_dnil hS rfl rfl hl.1 (Nat.le_of_ble_eq_true rfl) dX8_freqOf_22 ⟨Nat.le_refl _, Nat.le_refl _⟩ (fun H locs _ hk hS => ?_)
  have hP := va_keep hP hk
  refine lv_bipush (v := 10) hx hb dX8_freqOf_25 (by decide) ?_
  refine lv_lshl (v := (slL r_2 10)) hx hb dX8_freqOf_27 rfl ?_
  refine lv_iconst (v := 0) hx hb dX8_freqOf_28 (by decide) ?_
  refine lv_iconst (v := 0) hx hb dX8_freqOf_29 (by decide) ?_
  refine lv_bipush (v := 12) hx hb dX8_freqOf_30 (by decide) ?_
  refine lv_bipush (v := 25) hx hb dX8_freqOf_32 (by decide) ?_
  obtain ⟨r_3, e_3, hm⟩ := bd1_s hm
  refine goS_l (n := 4) X (cN_word e_3) (gS kw920 kw921 kw9 kw922) (by decide +kernel) ⟨by decide, by decide⟩ va_nil va_dnil hS rfl rfl hl.1 (Nat.le_of_ble_eq_true rfl) dX8_freqOf_34 ⟨Nat.le_refl _, Nat.le_refl _⟩ (fun H locs _ hk hS => ?_)
  have hP := va_keep hP hk
  refine lv_lor hx hb dX8_freqOf_37 ?_
  refine lv_lstore (lv' := [(5, .long ((slL r_2 10) ||| r_3)), (3, .long ((slL r_1 5) ||| 25)), (0, .long x0), (2, .int x2)]) hx hb dX8_freqOf_38 hl (by decide) rfl (fun ls hl => ?_)
  refine lv_bipush (v := 13) hx hb dX8_freqOf_40 (by decide) ?_
  refine lv_bipush (v := 15) hx hb dX8_freqOf_42 (by decide) ?_
  refine lv_bipush (v := 14) hx hb dX8_freqOf_44 (by decide) ?_
  refine lv_bipush (v := 20) hx hb dX8_freqOf_46 (by decide) ?_
  obtain ⟨r_4, e_4, hm⟩ := bd1_s hm
  refine goS_l (n := 4) X (cN_word e_4) (gS kw920 kw921 kw9 kw922) (by decide +kernel) ⟨by decide, by decide⟩ va_nil va_dnil hS rfl rfl hl.1 (Nat.le_of_ble_eq_true rfl) dX8_freqOf_48 ⟨Nat.le_refl _, Nat.le_refl _⟩ (fun H locs _ hk hS => ?_)
  have hP := va_keep hP hk
  refine lv_bipush (v := 15) hx hb dX8_freqOf_51 (by decide) ?_
  refine lv_lshl (v := (slL r_4 15)) hx hb dX8_freqOf_53 rfl ?_
  refine lv_iconst (v := 0) hx hb dX8_freqOf_54 (by decide) ?_
  refine lv_bipush (v := 8) hx hb dX8_freqOf_55 (by decide) ?_
  refine lv_bipush (v := 12) hx hb dX8_freqOf_57 (by decide) ?_
  refine lv_bipush (v := 25) hx hb dX8_freqOf_59 (by decide) ?_
  obtain ⟨r_5, e_5, hm⟩ := bd1_s hm
  refine goS_l (n := 4) X (cN_word e_5) (gS kw920 kw921 kw9 kw922) (by decide +kernel) ⟨by decide, by decide⟩ va_nil va_dnil hS rfl rfl hl.1 (Nat.le_of_ble_eq_true rfl) dX8_freqOf_61 ⟨Nat.le_refl _, Nat.le_refl _⟩ (fun H locs _ hk hS => ?_)
  have hP := va_keep hP hk
  refine lv_lor hx hb dX8_freqOf_64 ?_
  refine lv_lstore (lv' := [(7, .long ((slL r_4 15) ||| r_5)), (5, .long ((slL r_2 10) ||| r_3)), (3, .long ((slL r_1 5) ||| 25)), (0, .long x0), (2, .int x2)]) hx hb dX8_freqOf_65 hl (by decide) rfl (fun ls hl => ?_)
  refine lv_bipush (v := 25) hx hb dX8_freqOf_67 (by decide) ?_
  refine lv_iconst (v := 5) hx hb dX8_freqOf_69 (by decide) ?_
  refine lv_iconst (v := 1) hx hb dX8_freqOf_70 (by decide) ?_
  refine lv_bipush (v := 18) hx hb dX8_freqOf_71 (by decide) ?_
  obtain ⟨r_6, e_6, hm⟩ := bd1_s hm
  refine goS_l (n := 4) X (cN_word e_6) (gS kw920 kw921 kw9 kw922) (by decide +kernel) ⟨by decide, by decide⟩ va_nil va_dnil hS rfl rfl hl.1 (Nat.le_of_ble_eq_true rfl) dX8_freqOf_73 ⟨Nat.le_refl _, Nat.le_refl _⟩ (fun H locs _ hk hS => ?_)
  have hP := va_keep hP hk
  refine lv_bipush (v := 10) hx hb dX8_freqOf_76 (by decide) ?_
  refine lv_lshl (v := (slL r_6 10)) hx hb dX8_freqOf_78 rfl ?_
  refine lv_iconst (v := 0) hx hb dX8_freqOf_79 (by decide) ?_
  refine lv_iconst (v := 0) hx hb dX8_freqOf_80 (by decide) ?_
  refine lv_bipush (v := 12) hx hb dX8_freqOf_81 (by decide) ?_
  refine lv_bipush (v := 25) hx hb dX8_freqOf_83 (by decide) ?_
  obtain ⟨r_7, e_7, hm⟩ := bd1_s hm
  refine goS_l (n := 4) X (cN_word e_7) (gS kw920 kw921 kw9 kw922) (by decide +kernel) ⟨by decide, by decide⟩ va_nil va_dnil hS rfl rfl hl.1 (Nat.le_of_ble_eq_true rfl) dX8_freqOf_85 ⟨Nat.le_refl _, Nat.le_refl _⟩ (fun H locs _ hk hS => ?_)
  have hP := va_keep hP hk
  refine lv_lor hx hb dX8_freqOf_88 ?_
  refine lv_lstore (lv' := [(9, .long ((slL r_6 10) ||| r_7)), (7, .long ((slL r_4 15) ||| r_5)), (5, .long ((slL r_2 10) ||| r_3)), (3, .long ((slL r_1 5) ||| 25)), (0, .long x0), (2, .int x2)]) hx hb dX8_freqOf_89 hl (by decide) rfl (fun ls hl => ?_)
  refine lv_iload_n hx hb dX8_freqOf_91 rfl (lv_at hl 5 rfl) ?_
  refine lv_iconst (v := 5) hx hb dX8_freqOf_92 (by decide) ?_
  refine lv_icmp_ne (tgt := 106) hx hb dX8_freqOf_93 (by decide) (fun c_8 => ?_) (fun c_8 => ?_)
  · have hm := (if_neg c_8).symm.trans hm
    exact bkN_freqOf_106 X hD hm hP hS (lv_sub hl [4, 5, 2, 1, 0] rfl)
  · have hm := (if_pos c_8).symm.trans hm
    refine lv_lload_n hx hb dX8_freqOf_96 rfl (lv_at hl 4 rfl) ?_
    refine lv_lload_n hx hb dX8_freqOf_97 rfl (lv_at hl 3 rfl) ?_
    refine W.lcmp hx hb dX8_freqOf_98 ?_
    refine lv_if_ne (tgt := 106) hx hb dX8_freqOf_99 (by decide) (fun c_23 => ?_) (fun c_23 => ?_)
    · have hm := (if_neg c_23).symm.trans hm
      exact bkN_freqOf_106 X hD hm hP hS (lv_sub hl [4, 5, 2, 1, 0] rfl)
    · have hm := (if_pos c_23).symm.trans hm
      refine lv_iconst (v := 0) hx hb dX8_freqOf_102 (by decide) ?_
      refine lv_goto (tgt := 158) hx hb dX8_freqOf_103 (by decide) ?_
      exact ret_io (wf := wN) X hm hP hS dX8_freqOf_158

-- capitals
def moM_capitals_L2 {α : Type} (n : Nat) (q : Pc3) (K0 : Int32 → Option α) : Nat → Int32 → Int32 → Option α
  | 0, _, _ => none
  | k + 1, x1, x2 => (bd1 (moM_byteAt n (x1 + x2) q) fun r_1 => (bd1 (moN_isCapital n r_1) fun r_2 => (if r_2 = 0 then (K0 x2 ) else (moM_capitals_L2 n q K0 k x1 (x2 + 1) ))))
def moM_capitals (n : Nat) (x1 : Int32) (q : Pc3) : Option (Int32) :=
  (moM_capitals_L2 n q (fun z4_2 => (some z4_2)) n x1 0 )
set_option maxHeartbeats 4000000 in
set_option maxRecDepth 100000 in
theorem lpM_capitals_2 {p : Program} {l : Launch} {e : Env} {s : State} {m : MethodId} {args : Array Value} {below : List Frame} {meth : Method} {c : Code} {G : Ev} {a : Nat → Nat} {Q : State → Prop} {A : Nat → Prop} {q : Pc3} (X : CX p s m args meth c cX8_capitals 3 (some .int) RX8 (.code yX8_capitals cX8_capitals 3 (some .int)) G A) (hD : va_D A (wM G a q)) {α : Type} {o : α} {n : Nat} {K0 : Int32 → Option α} (h0 : ∀ (y2 : Int32) (H : Heap) (locs : List Loc) (ls : Array Slot), K0 y2  = some o → va_P (DD G) vwCl (wM G a q) H → va_S A s.heap H locs → lv_has ls 3 [(2, .int y2)] → W p l e { frames := 1, cells := 0, slots := 0, locals := 21 } s m args below meth c H locs 0 0 Q (F0 m 21 ls [])) : ∀ (k : Nat) (x1 : Int32) (x2 : Int32) (H : Heap) (locs : List Loc) (ls : Array Slot), moM_capitals_L2 n q K0 k x1 x2  = some o → va_P (DD G) vwCl (wM G a q) H → va_S A s.heap H locs → lv_has ls 3 [(0, .ref (a 0)), (1, .int x1), (2, .int x2)] → W p l e { frames := 1, cells := 0, slots := 0, locals := 21 } s m args below meth c H locs 0 0 Q (F0 m 2 ls []) := by
  obtain ⟨⟨hx, hb, hml, hown, hts⟩, hK, hr, hlk, hA, hAs, hSta⟩ := id X
  intro k
  induction k with
  | zero =>
    intro x1 x2 H locs ls hm
    have hm : none = some o := hm
    cases hm
  | succ k ih =>
    intro x1 x2 H locs ls hm hP hS hl
    rw [moM_capitals_L2] at hm
    refine lv_aload_n hx hb dX8_capitals_2 rfl (lv_at hl 0 rfl) ?_
    refine lv_iload_n hx hb dX8_capitals_3 rfl (lv_at hl 1 rfl) ?_
    refine lv_iload_n hx hb dX8_capitals_4 rfl (lv_at hl 2 rfl) ?_
    refine lv_iadd hx hb dX8_capitals_5 ?_
    obtain ⟨r_1, e_1, hm⟩ := bd1_s hm
    refine goV_i (n := 1) (C := RX8) X (cM_byteAt e_1) (gV kw906 kw908 ks_yX8_byteAt kw9 kw909) (by decide +kernel) ⟨by decide, by decide⟩ (rcM hK hP) hP (dM hD) hS rfl rfl hl.1 (Nat.le_of_ble_eq_true rfl) dX8_capitals_6 ⟨Nat.le_refl _, Nat.le_refl _⟩ (fun H locs hP _ hS => ?_)
    obtain ⟨r_2, e_2, hm⟩ := bd1_s hm
    refine goS_i (n := 1) X (cN_isCapital e_2) (gS kw910 kw911 kw9 kw912) (by decide +kernel) ⟨by decide, by decide⟩ va_nil va_dnil hS rfl rfl hl.1 (Nat.le_of_ble_eq_true rfl) dX8_capitals_9 ⟨Nat.le_refl _, Nat.le_refl _⟩ (fun H locs _ hk hS => ?_)
    have hP := va_keep hP hk
    refine lv_if_eq (tgt := 21) hx hb dX8_capitals_12 (by decide) (fun c_3 => ?_) (fun c_3 => ?_)
    · have hm := (if_pos c_3).symm.trans hm
      exact h0 _ _ _ _ hm hP hS (lv_sub hl [2] rfl)
    · have hm := (if_neg c_3).symm.trans hm
      refine lv_iinc (v := (x2 + 1)) (lv' := [(2, .int (x2 + 1)), (0, .ref (a 0)), (1, .int x1)]) hx hb dX8_capitals_15 hl (k := 2) rfl (by first | rfl | decide) (by decide) rfl (fun ls hl => ?_)
      refine lv_goto (tgt := 2) hx hb dX8_capitals_18 (by decide) ?_
      exact ih _ _ _ _ _ hm hP hS (lv_sub hl [1, 2, 0] rfl)
set_option maxHeartbeats 4000000 in
set_option maxRecDepth 100000 in
theorem cM_capitals {l : Launch} {G : Ev} {a : Nat → Nat} {n : Nat} {q : Pc3} {x1 : Int32} {r : Int32} (hm : moM_capitals n x1 q = some r) : CtI l G yX8_capitals cX8_capitals 3 (some .int) 1 21 0 0 [.ref (a 0), .int x1] (wM G a q) (wM G a q) r := by
  intro sz
  refine enter (by decide) (Nat.le_of_ble_eq_true rfl) ?_
  intro p e s m args below meth c ls X hsz hP hD hS hl
  subst hsz
  obtain ⟨⟨hx, hb, hml, hown, hts⟩, hK, hr, hlk, hA, hAs, hSta⟩ := id X
  have hl : lv_has ls 3 [(0, .ref (a 0)), (1, .int x1)] := hl
  unfold moM_capitals at hm
  refine lv_iconst (v := 0) hx hb dX8_capitals_0 (by decide) ?_
  refine lv_istore_n (lv' := [(2, .int 0), (0, .ref (a 0)), (1, .int x1)]) hx hb dX8_capitals_1 rfl hl (by decide) rfl (fun ls hl => ?_)
  refine lpM_capitals_2 X hD (fun z4_2 H locs ls hm hP hS hl => ?_) n _ _ _ _ _ hm hP hS (lv_sub hl [1, 2, 0] rfl)
  refine lv_iload_n hx hb dX8_capitals_21 rfl (lv_at hl 0 rfl) ?_
  exact ret_io (wf := wM G a) X hm hP hS dX8_capitals_22

-- number
def moM_number_L96 {α : Type} (n : Nat) (K0 : Int32 → Int32 → Int32 → Int32 → Int64 → Pc3 → Option α) : Nat → Int32 → Int32 → Int32 → Int32 → Int64 → Pc3 → Option α
  | 0, _, _, _, _, _, _ => none
  | k + 1, x1, x2, x3, x4, x5, q => (bd1 (moM_byteAt n (rS q 7) q) fun r_5 => (bd1 (moN_isFigure n r_5) fun r_6 => (if r_6 = 0 then (K0 x1 x2 x3 x4 x5 q) else (bd1 (moM_byteAt n (rS q 7) q) fun r_8 => (if (lg_cmp (((x5 * 10) + (Int32.toInt64 r_8)) - 48) 99999999) ≤ 0 then (moM_number_L96 n K0 k x1 x2 x3 x4 (((x5 * 10) + (Int32.toInt64 r_8)) - 48) (sS q 7 ((rS q 7) + 1))) else (moM_number_L96 n K0 k x1 x2 x3 x4 99999999 (sS q 7 ((rS q 7) + 1))))))))
def moM_number_B177 (n : Nat) (x1 : Int32) (x2 : Int32) (x3 : Int32) (t0 : Int64) (q : Pc3) : Option (Int32 × Pc3) :=
  (if (lg_cmp t0 (Int32.toInt64 x1)) < 0 then (bd1 (moM_fail n 2 x3 q) fun q_13 => (some ((Int64.toInt32 t0), q_13))) else (if 0 < (lg_cmp t0 (Int32.toInt64 x2)) then (bd1 (moM_fail n 2 x3 q) fun q_15 => (some ((Int64.toInt32 t0), q_15))) else (if 0 ≤ x1 then (some ((Int64.toInt32 t0), q)) else (if (lg_cmp t0 0) = 0 then (bd1 (moM_fail n 2 x3 q) fun q_18 => (some ((Int64.toInt32 t0), q_18))) else (some ((Int64.toInt32 t0), q))))))
def moM_number_B68 (n : Nat) (x1 : Int32) (x2 : Int32) (x3 : Int32) (x4 : Int32) (q : Pc3) : Option (Int32 × Pc3) :=
  (bd1 (moM_byteAt n (rS q 7) q) fun r_2 => (bd1 (moN_isFigure n r_2) fun r_3 => (if r_3 = 0 then (bd1 (moM_fail n 1 (rS q 7) q) fun q_19 => (some (0, q_19))) else (moM_number_L96 n (fun z10_1 z10_2 z10_3 z10_4 z10_5 q_10 => (if z10_4 = 0 then (moM_number_B177 n z10_1 z10_2 z10_3 z10_5 q_10) else (moM_number_B177 n z10_1 z10_2 z10_3 (-z10_5) q_10))) n x1 x2 x3 x4 0 q))))
def moM_number (n : Nat) (x1 : Int32) (x2 : Int32) (q : Pc3) : Option (Int32 × Pc3) :=
  (if 0 ≤ x1 then (moM_number_B68 n x1 x2 (rS q 7) 0 q) else (bd1 (moM_byteAt n (rS q 7) q) fun r_20 => (if r_20 = 43 then (bd1 (moM_byteAt n (rS q 7) q) fun r_22 => (if r_22 = 45 then (moM_number_B68 n x1 x2 (rS q 7) 1 (sS q 7 ((rS q 7) + 1))) else (moM_number_B68 n x1 x2 (rS q 7) 0 (sS q 7 ((rS q 7) + 1))))) else (bd1 (moM_byteAt n (rS q 7) q) fun r_24 => (if r_24 = 45 then (bd1 (moM_byteAt n (rS q 7) q) fun r_26 => (if r_26 = 45 then (moM_number_B68 n x1 x2 (rS q 7) 1 (sS q 7 ((rS q 7) + 1))) else (moM_number_B68 n x1 x2 (rS q 7) 0 (sS q 7 ((rS q 7) + 1))))) else (moM_number_B68 n x1 x2 (rS q 7) 0 q))))))
set_option maxHeartbeats 4000000 in
set_option maxRecDepth 100000 in
theorem lpM_number_96 {p : Program} {l : Launch} {e : Env} {s : State} {m : MethodId} {args : Array Value} {below : List Frame} {meth : Method} {c : Code} {G : Ev} {a : Nat → Nat} {Q : State → Prop} {A : Nat → Prop} {q0 : Pc3} (X : CX p s m args meth c cX8_number 7 (some .int) RX8 (.code yX8_number cX8_number 7 (some .int)) G A) (hD : va_D A (wM G a q0)) {α : Type} {o : α} {n : Nat} {K0 : Int32 → Int32 → Int32 → Int32 → Int64 → Pc3 → Option α} (h0 : ∀ (y1 : Int32) (y2 : Int32) (y3 : Int32) (y4 : Int32) (y5 : Int64) (q : Pc3) (H : Heap) (locs : List Loc) (ls : Array Slot), K0 y1 y2 y3 y4 y5 q = some o → va_P (DD G) vwCl (wM G a q) H → va_S A s.heap H locs → lv_has ls 7 [(0, .ref (a 0)), (1, .int y1), (2, .int y2), (3, .int y3), (4, .int y4), (5, .long y5)] → W p l e { frames := 1, cells := 0, slots := 0, locals := 22 } s m args below meth c H locs 0 0 Q (F0 m 164 ls [])) : ∀ (k : Nat) (x1 : Int32) (x2 : Int32) (x3 : Int32) (x4 : Int32) (x5 : Int64) (q : Pc3) (H : Heap) (locs : List Loc) (ls : Array Slot), moM_number_L96 n K0 k x1 x2 x3 x4 x5 q = some o → va_P (DD G) vwCl (wM G a q) H → va_S A s.heap H locs → lv_has ls 7 [(0, .ref (a 0)), (1, .int x1), (2, .int x2), (3, .int x3), (4, .int x4), (5, .long x5)] → W p l e { frames := 1, cells := 0, slots := 0, locals := 22 } s m args below meth c H locs 0 0 Q (F0 m 96 ls []) := by
  obtain ⟨⟨hx, hb, hml, hown, hts⟩, hK, hr, hlk, hA, hAs, hSta⟩ := id X
  intro k
  induction k with
  | zero =>
    intro x1 x2 x3 x4 x5 q H locs ls hm
    have hm : none = some o := hm
    cases hm
  | succ k ih =>
    intro x1 x2 x3 x4 x5 q H locs ls hm hP hS hl
    rw [moM_number_L96] at hm
    refine lv_aload_n hx hb dX8_number_96 rfl (lv_at hl 0 rfl) ?_
    refine lv_aload_n hx hb dX8_number_97 rfl (lv_at hl 0 rfl) ?_
    refine gM_at X hP dX8_number_98 ?_
    obtain ⟨r_5, e_5, hm⟩ := bd1_s hm
    refine goV_i (n := 1) (C := RX8) X (cM_byteAt e_5) (gV kw906 kw908 ks_yX8_byteAt kw9 kw909) (by decide +kernel) ⟨by decide, by decide⟩ (rcM hK hP) hP (dM hD) hS rfl rfl hl.1 (Nat.le_of_ble_eq_true rfl) dX8_number_101 ⟨Nat.le_refl _, Nat.le_refl _⟩ (fun H locs hP _ hS => ?_)
    obtain ⟨r_6, e_6, hm⟩ := bd1_s hm
    refine goS_i (n := 1) X (cN_isFigure e_6) (gS kw942 kw943 kw9 kw944) (by decide +kernel) ⟨by decide, by decide⟩ va_nil va_dnil hS rfl rfl hl.1 (Nat.le_of_ble_eq_true rfl) dX8_number_104 ⟨Nat.le_refl _, Nat.le_refl _⟩ (fun H locs _ hk hS => ?_)
    have hP := va_keep hP hk
    refine lv_if_eq (tgt := 164) hx hb dX8_number_107 (by decide) (fun c_7 => ?_) (fun c_7 => ?_)
    · have hm := (if_pos c_7).symm.trans hm
      exact h0 _ _ _ _ _ _ _ _ _ hm hP hS (lv_sub hl [0, 1, 2, 3, 4, 5] rfl)
    · have hm := (if_neg c_7).symm.trans hm
      refine lv_lload hx hb dX8_number_110 (lv_at hl 5 rfl) ?_
      refine lv_ldc2 (v := 10) hx hb hown (hts _ (List.mem_cons_of_mem _ kw945)) dX8_number_112 ?_
      refine lv_lmul hx hb dX8_number_115 ?_
      refine lv_aload_n hx hb dX8_number_116 rfl (lv_at hl 0 rfl) ?_
      refine lv_aload_n hx hb dX8_number_117 rfl (lv_at hl 0 rfl) ?_
      refine gM_at X hP dX8_number_118 ?_
      obtain ⟨r_8, e_8, hm⟩ := bd1_s hm
      refine goV_i (n := 1) (C := RX8) X (cM_byteAt e_8) (gV kw906 kw908 ks_yX8_byteAt kw9 kw909) (by decide +kernel) ⟨by decide, by decide⟩ (rcM hK hP) hP (dM hD) hS rfl rfl hl.1 (Nat.le_of_ble_eq_true rfl) dX8_number_121 ⟨Nat.le_refl _, Nat.le_refl _⟩ (fun H locs hP _ hS => ?_)
      refine lv_i2l (v := (Int32.toInt64 r_8)) hx hb dX8_number_124 rfl ?_
      refine lv_ladd hx hb dX8_number_125 ?_
      refine lv_ldc2 (v := 48) hx hb hown (hts _ (List.mem_cons_of_mem _ kw946)) dX8_number_126 ?_
      refine lv_lsub hx hb dX8_number_129 ?_
      refine lv_lstore (lv' := [(5, .long (((x5 * 10) + (Int32.toInt64 r_8)) - 48)), (0, .ref (a 0)), (1, .int x1), (2, .int x2), (3, .int x3), (4, .int x4)]) hx hb dX8_number_130 hl (by decide) rfl (fun ls hl => ?_)
      refine lv_lload hx hb dX8_number_132 (lv_at hl 0 rfl) ?_
      refine lv_ldc2 (v := 99999999) hx hb hown (hts _ (List.mem_cons_of_mem _ kw947)) dX8_number_134 ?_
      refine W.lcmp hx hb dX8_number_137 ?_
      refine lv_if_le (tgt := 147) hx hb dX8_number_138 (by decide) (fun c_9 => ?_) (fun c_9 => ?_)
      · have hm := (if_pos c_9).symm.trans hm
        refine lv_lload hx hb dX8_number_147 (lv_at hl 0 rfl) ?_
        refine lv_lstore (lv' := [(5, .long (((x5 * 10) + (Int32.toInt64 r_8)) - 48)), (0, .ref (a 0)), (1, .int x1), (2, .int x2), (3, .int x3), (4, .int x4)]) hx hb dX8_number_149 hl (by decide) rfl (fun ls hl => ?_)
        refine lv_aload_n hx hb dX8_number_151 rfl (lv_at hl 1 rfl) ?_
        refine lv_dup hx hb dX8_number_152 rfl ?_
        refine gM_at X hP dX8_number_153 ?_
        refine lv_iconst (v := 1) hx hb dX8_number_156 (by decide) ?_
        refine lv_iadd hx hb dX8_number_157 ?_
        refine pM_at X hP (dM hD) hS dX8_number_158 (fun H locs hP hS => ?_)
        refine lv_goto (tgt := 96) hx hb dX8_number_161 (by decide) ?_
        exact ih _ _ _ _ _ _ _ _ _ hm hP hS (lv_sub hl [1, 2, 3, 4, 5, 0] rfl)
      · have hm := (if_neg c_9).symm.trans hm
        refine lv_ldc2 (v := 99999999) hx hb hown (hts _ (List.mem_cons_of_mem _ kw947)) dX8_number_141 ?_
        refine lv_goto (tgt := 149) hx hb dX8_number_144 (by decide) ?_
        refine lv_lstore (lv' := [(5, .long 99999999), (0, .ref (a 0)), (1, .int x1), (2, .int x2), (3, .int x3), (4, .int x4)]) hx hb dX8_number_149 hl (by decide) rfl (fun ls hl => ?_)
        refine lv_aload_n hx hb dX8_number_151 rfl (lv_at hl 1 rfl) ?_
        refine lv_dup hx hb dX8_number_152 rfl ?_
        refine gM_at X hP dX8_number_153 ?_
        refine lv_iconst (v := 1) hx hb dX8_number_156 (by decide) ?_
        refine lv_iadd hx hb dX8_number_157 ?_
        refine pM_at X hP (dM hD) hS dX8_number_158 (fun H locs hP hS => ?_)
        refine lv_goto (tgt := 96) hx hb dX8_number_161 (by decide) ?_
        exact ih _ _ _ _ _ _ _ _ _ hm hP hS (lv_sub hl [1, 2, 3, 4, 5, 0] rfl)
set_option maxHeartbeats 4000000 in
set_option maxRecDepth 100000 in
theorem bkM_number_177 {p : Program} {l : Launch} {e : Env} {s : State} {m : MethodId} {args : Array Value} {below : List Frame} {meth : Method} {c : Code} {G : Ev} {a : Nat → Nat}  {q0 : Pc3} {L : List Nat} {r : Int32} {q' : Pc3} {n : Nat} {x1 : Int32} {x2 : Int32} {x3 : Int32} {t0 : Int64} {q : Pc3} {H : Heap} {locs : List Loc} {ls : Array Slot} (X : CX p s m args meth c cX8_number 7 (some .int) RX8 (.code yX8_number cX8_number 7 (some .int)) G (AL L s.heap.size)) (hD : va_D (AL L s.heap.size) (wM G a q0)) (hm : moM_number_B177 n x1 x2 x3 t0 q = some (r, q')) (hP : va_P (DD G) vwCl (wM G a q) H) (hS : va_S (AL L s.heap.size) s.heap H locs) (hl : lv_has ls 7 [(0, .ref (a 0)), (1, .int x1), (2, .int x2), (3, .int x3)]) : W p l e { frames := 1, cells := 0, slots := 0, locals := 22 } s m args below meth c H locs 0 0 (MQ below (va_Qi (fun r' (_ : Unit) => r' = r) (fun _ t => va_P (DD G) vwCl (wM G a q') t.heap) (AL L s.heap.size)) args s 0 0 (AL L s.heap.size)) (F0 m 177 ls [.long t0]) := by
  obtain ⟨⟨hx, hb, hml, hown, hts⟩, hK, hr, hlk, hA, hAs, hSta⟩ := id X
  unfold moM_number_B177 at hm
  refine lv_lstore (lv' := [(5, .long t0), (0, .ref (a 0)), (1, .int x1), (2, .int x2), (3, .int x3)]) hx hb dX8_number_177 hl (by decide) rfl (fun ls hl => ?_)
  refine lv_lload hx hb dX8_number_179 (lv_at hl 0 rfl) ?_
  refine lv_iload_n hx hb dX8_number_181 rfl (lv_at hl 2 rfl) ?_
  refine lv_i2l (v := (Int32.toInt64 x1)) hx hb dX8_number_182 rfl ?_
  refine W.lcmp hx hb dX8_number_183 ?_
  refine lv_if_lt (tgt := 206) hx hb dX8_number_184 (by decide) (fun c_12 => ?_) (fun c_12 => ?_)
  · have hm := (if_pos c_12).symm.trans hm
    refine lv_aload_n hx hb dX8_number_206 rfl (lv_at hl 1 rfl) ?_
    refine lv_iconst (v := 2) hx hb dX8_number_207 (by decide) ?_
    refine lv_iload_n hx hb dX8_number_208 rfl (lv_at hl 4 rfl) ?_
    obtain ⟨q_13, e_13, hm⟩ := bd1_s hm
    refine goV_v (n := 2) (C := RX8) X (cM_fail e_13) (gV kw927 kw929 ks_yX8_fail kw9 kw930) (by decide +kernel) ⟨by decide, by decide⟩ (rcM hK hP) hP (dM hD) hS rfl rfl hl.1 (Nat.le_of_ble_eq_true rfl) dX8_number_209 ⟨Nat.le_refl _, Nat.le_refl _⟩ (fun H locs hP _ hS => ?_)
    refine lv_lload hx hb dX8_number_212 (lv_at hl 0 rfl) ?_
    refine lv_l2i (v := (Int64.toInt32 t0)) hx hb dX8_number_214 rfl ?_
    exact ret_i (wf := wM G a) X hm hP hS dX8_number_215
  · have hm := (if_neg c_12).symm.trans hm
    refine lv_lload hx hb dX8_number_187 (lv_at hl 0 rfl) ?_
    refine lv_iload_n hx hb dX8_number_189 rfl (lv_at hl 3 rfl) ?_
    refine lv_i2l (v := (Int32.toInt64 x2)) hx hb dX8_number_190 rfl ?_
    refine W.lcmp hx hb dX8_number_191 ?_
    refine lv_if_gt (tgt := 206) hx hb dX8_number_192 (by decide) (fun c_14 => ?_) (fun c_14 => ?_)
    · have hm := (if_pos c_14).symm.trans hm
      refine lv_aload_n hx hb dX8_number_206 rfl (lv_at hl 1 rfl) ?_
      refine lv_iconst (v := 2) hx hb dX8_number_207 (by decide) ?_
      refine lv_iload_n hx hb dX8_number_208 rfl (lv_at hl 4 rfl) ?_
      obtain ⟨q_15, e_15, hm⟩ := bd1_s hm
      refine goV_v (n := 2) (C := RX8) X (cM_fail e_15) (gV kw927 kw929 ks_yX8_fail kw9 kw930) (by decide +kernel) ⟨by decide, by decide⟩ (rcM hK hP) hP (dM hD) hS rfl rfl hl.1 (Nat.le_of_ble_eq_true rfl) dX8_number_209 ⟨Nat.le_refl _, Nat.le_refl _⟩ (fun H locs hP _ hS => ?_)
      refine lv_lload hx hb dX8_number_212 (lv_at hl 0 rfl) ?_
      refine lv_l2i (v := (Int64.toInt32 t0)) hx hb dX8_number_214 rfl ?_
      exact ret_i (wf := wM G a) X hm hP hS dX8_number_215
    · have hm := (if_neg c_14).symm.trans hm
      refine lv_iload_n hx hb dX8_number_195 rfl (lv_at hl 2 rfl) ?_
      refine lv_if_ge (tgt := 212) hx hb dX8_number_196 (by decide) (fun c_16 => ?_) (fun c_16 => ?_)
      · have hm := (if_pos c_16).symm.trans hm
        refine lv_lload hx hb dX8_number_212 (lv_at hl 0 rfl) ?_
        refine lv_l2i (v := (Int64.toInt32 t0)) hx hb dX8_number_214 rfl ?_
        exact ret_i (wf := wM G a) X hm hP hS dX8_number_215
      · have hm := (if_neg c_16).symm.trans hm
        refine lv_lload hx hb dX8_number_199 (lv_at hl 0 rfl) ?_
        refine lv_lconst (v := 0) hx hb dX8_number_201 (by decide) ?_
        refine W.lcmp hx hb dX8_number_202 ?_
        refine lv_if_ne (tgt := 212) hx hb dX8_number_203 (by decide) (fun c_17 => ?_) (fun c_17 => ?_)
        · have hm := (if_neg c_17).symm.trans hm
          refine lv_lload hx hb dX8_number_212 (lv_at hl 0 rfl) ?_
          refine lv_l2i (v := (Int64.toInt32 t0)) hx hb dX8_number_214 rfl ?_
          exact ret_i (wf := wM G a) X hm hP hS dX8_number_215
        · have hm := (if_pos c_17).symm.trans hm
          refine lv_aload_n hx hb dX8_number_206 rfl (lv_at hl 1 rfl) ?_
          refine lv_iconst (v := 2) hx hb dX8_number_207 (by decide) ?_
          refine lv_iload_n hx hb dX8_number_208 rfl (lv_at hl 4 rfl) ?_
          obtain ⟨q_18, e_18, hm⟩ := bd1_s hm
          refine goV_v (n := 2) (C := RX8) X (cM_fail e_18) (gV kw927 kw929 ks_yX8_fail kw9 kw930) (by decide +kernel) ⟨by decide, by decide⟩ (rcM hK hP) hP (dM hD) hS rfl rfl hl.1 (Nat.le_of_ble_eq_true rfl) dX8_number_209 ⟨Nat.le_refl _, Nat.le_refl _⟩ (fun H locs hP _ hS => ?_)
          refine lv_lload hx hb dX8_number_212 (lv_at hl 0 rfl) ?_
          refine lv_l2i (v := (Int64.toInt32 t0)) hx hb dX8_number_214 rfl ?_
          exact ret_i (wf := wM G a) X hm hP hS dX8_number_215
set_option maxHeartbeats 4000000 in
set_option maxRecDepth 100000 in
theorem bkM_number_68 {p : Program} {l : Launch} {e : Env} {s : State} {m : MethodId} {args : Array Value} {below : List Frame} {meth : Method} {c : Code} {G : Ev} {a : Nat → Nat}  {q0 : Pc3} {L : List Nat} {r : Int32} {q' : Pc3} {n : Nat} {x1 : Int32} {x2 : Int32} {x3 : Int32} {x4 : Int32} {q : Pc3} {H : Heap} {locs : List Loc} {ls : Array Slot} (X : CX p s m args meth c cX8_number 7 (some .int) RX8 (.code yX8_number cX8_number 7 (some .int)) G (AL L s.heap.size)) (hD : va_D (AL L s.heap.size) (wM G a q0)) (hm : moM_number_B68 n x1 x2 x3 x4 q = some (r, q')) (hP : va_P (DD G) vwCl (wM G a q) H) (hS : va_S (AL L s.heap.size) s.heap H locs) (hl : lv_has ls 7 [(0, .ref (a 0)), (1, .int x1), (2, .int x2), (3, .int x3), (4, .int x4)]) : W p l e { frames := 1, cells := 0, slots := 0, locals := 22 } s m args below meth c H locs 0 0 (MQ below (va_Qi (fun r' (_ : Unit) => r' = r) (fun _ t => va_P (DD G) vwCl (wM G a q') t.heap) (AL L s.heap.size)) args s 0 0 (AL L s.heap.size)) (F0 m 68 ls []) := by
  obtain ⟨⟨hx, hb, hml, hown, hts⟩, hK, hr, hlk, hA, hAs, hSta⟩ := id X
  unfold moM_number_B68 at hm
  refine lv_aload_n hx hb dX8_number_68 rfl (lv_at hl 0 rfl) ?_
  refine lv_aload_n hx hb dX8_number_69 rfl (lv_at hl 0 rfl) ?_
  refine gM_at X hP dX8_number_70 ?_
  obtain ⟨r_2, e_2, hm⟩ := bd1_s hm
  refine goV_i (n := 1) (C := RX8) X (cM_byteAt e_2) (gV kw906 kw908 ks_yX8_byteAt kw9 kw909) (by decide +kernel) ⟨by decide, by decide⟩ (rcM hK hP) hP (dM hD) hS rfl rfl hl.1 (Nat.le_of_ble_eq_true rfl) dX8_number_73 ⟨Nat.le_refl _, Nat.le_refl _⟩ (fun H locs hP _ hS => ?_)
  obtain ⟨r_3, e_3, hm⟩ := bd1_s hm
  refine goS_i (n := 1) X (cN_isFigure e_3) (gS kw942 kw943 kw9 kw944) (by decide +kernel) ⟨by decide, by decide⟩ va_nil va_dnil hS rfl rfl hl.1 (Nat.le_of_ble_eq_true rfl) dX8_number_76 ⟨Nat.le_refl _, Nat.le_refl _⟩ (fun H locs _ hk hS => ?_)
  have hP := va_keep hP hk
  refine lv_if_ne (tgt := 93) hx hb dX8_number_79 (by decide) (fun c_4 => ?_) (fun c_4 => ?_)
  · have hm := (if_neg c_4).symm.trans hm
    refine lv_lconst (v := 0) hx hb dX8_number_93 (by decide) ?_
    refine lv_lstore (lv' := [(5, .long 0), (0, .ref (a 0)), (1, .int x1), (2, .int x2), (3, .int x3), (4, .int x4)]) hx hb dX8_number_94 hl (by decide) rfl (fun ls hl => ?_)
    refine lpM_number_96 X hD (fun z10_1 z10_2 z10_3 z10_4 z10_5 q_10 H locs ls hm hP hS hl => ?_) n _ _ _ _ _ _ _ _ _ hm hP hS (lv_sub hl [1, 2, 3, 4, 5, 0] rfl)
    refine lv_iload hx hb dX8_number_164 (lv_at hl 4 rfl) ?_
    refine lv_if_eq (tgt := 175) hx hb dX8_number_166 (by decide) (fun c_11 => ?_) (fun c_11 => ?_)
    · have hm := (if_pos c_11).symm.trans hm
      refine lv_lload hx hb dX8_number_175 (lv_at hl 5 rfl) ?_
      exact bkM_number_177 X hD hm hP hS (lv_sub hl [0, 1, 2, 3] rfl)
    · have hm := (if_neg c_11).symm.trans hm
      refine lv_lload hx hb dX8_number_169 (lv_at hl 5 rfl) ?_
      refine lv_lneg hx hb dX8_number_171 ?_
      refine lv_goto (tgt := 177) hx hb dX8_number_172 (by decide) ?_
      exact bkM_number_177 X hD hm hP hS (lv_sub hl [0, 1, 2, 3] rfl)
  · have hm := (if_pos c_4).symm.trans hm
    refine lv_aload_n hx hb dX8_number_82 rfl (lv_at hl 0 rfl) ?_
    refine lv_iconst (v := 1) hx hb dX8_number_83 (by decide) ?_
    refine lv_aload_n hx hb dX8_number_84 rfl (lv_at hl 0 rfl) ?_
    refine gM_at X hP dX8_number_85 ?_
    obtain ⟨q_19, e_19, hm⟩ := bd1_s hm
    refine goV_v (n := 2) (C := RX8) X (cM_fail e_19) (gV kw927 kw929 ks_yX8_fail kw9 kw930) (by decide +kernel) ⟨by decide, by decide⟩ (rcM hK hP) hP (dM hD) hS rfl rfl hl.1 (Nat.le_of_ble_eq_true rfl) dX8_number_88 ⟨Nat.le_refl _, Nat.le_refl _⟩ (fun H locs hP _ hS => ?_)
    refine lv_iconst (v := 0) hx hb dX8_number_91 (by decide) ?_
    exact ret_i (wf := wM G a) X hm hP hS dX8_number_92
set_option maxHeartbeats 4000000 in
set_option maxRecDepth 100000 in
theorem cM_number {l : Launch} {G : Ev} {a : Nat → Nat} {n : Nat} {q : Pc3} {x1 : Int32} {x2 : Int32} {r : Int32} {q' : Pc3} (hm : moM_number n x1 x2 q = some (r, q')) : CtI l G yX8_number cX8_number 7 (some .int) 1 22 0 0 [.ref (a 0), .int x1, .int x2] (wM G a q) (wM G a q') r := by
  intro sz
  refine enter (by decide) (Nat.le_of_ble_eq_true rfl) ?_
  intro p e s m args below meth c ls X hsz hP hD hS hl
  subst hsz
  obtain ⟨⟨hx, hb, hml, hown, hts⟩, hK, hr, hlk, hA, hAs, hSta⟩ := id X
  have hl : lv_has ls 7 [(0, .ref (a 0)), (1, .int x1), (2, .int x2)] := hl
  unfold moM_number at hm
  refine lv_aload_n hx hb dX8_number_0 rfl (lv_at hl 0 rfl) ?_
  refine gM_at X hP dX8_number_1 ?_
  refine lv_istore_n (lv' := [(3, .int (rS q 7)), (0, .ref (a 0)), (1, .int x1), (2, .int x2)]) hx hb dX8_number_4 rfl hl (by decide) rfl (fun ls hl => ?_)
  refine lv_iconst (v := 0) hx hb dX8_number_5 (by decide) ?_
  refine lv_istore (lv' := [(4, .int 0), (3, .int (rS q 7)), (0, .ref (a 0)), (1, .int x1), (2, .int x2)]) hx hb dX8_number_6 hl (by decide) rfl (fun ls hl => ?_)
  refine lv_iload_n hx hb dX8_number_8 rfl (lv_at hl 3 rfl) ?_
  refine lv_if_ge (tgt := 68) hx hb dX8_number_9 (by decide) (fun c_1 => ?_) (fun c_1 => ?_)
  · have hm := (if_pos c_1).symm.trans hm
    exact bkM_number_68 X hD hm hP hS (lv_sub hl [2, 3, 4, 1, 0] rfl)
  · have hm := (if_neg c_1).symm.trans hm
    refine lv_aload_n hx hb dX8_number_12 rfl (lv_at hl 2 rfl) ?_
    refine lv_aload_n hx hb dX8_number_13 rfl (lv_at hl 2 rfl) ?_
    refine gM_at X hP dX8_number_14 ?_
    obtain ⟨r_20, e_20, hm⟩ := bd1_s hm
    refine goV_i (n := 1) (C := RX8) X (cM_byteAt e_20) (gV kw906 kw908 ks_yX8_byteAt kw9 kw909) (by decide +kernel) ⟨by decide, by decide⟩ (rcM hK hP) hP (dM hD) hS rfl rfl hl.1 (Nat.le_of_ble_eq_true rfl) dX8_number_17 ⟨Nat.le_refl _, Nat.le_refl _⟩ (fun H locs hP _ hS => ?_)
    refine lv_bipush (v := 43) hx hb dX8_number_20 (by decide) ?_
    refine lv_icmp_eq (tgt := 38) hx hb dX8_number_22 (by decide) (fun c_21 => ?_) (fun c_21 => ?_)
    · have hm := (if_pos c_21).symm.trans hm
      refine lv_aload_n hx hb dX8_number_38 rfl (lv_at hl 2 rfl) ?_
      refine lv_aload_n hx hb dX8_number_39 rfl (lv_at hl 2 rfl) ?_
      refine gM_at X hP dX8_number_40 ?_
      obtain ⟨r_22, e_22, hm⟩ := bd1_s hm
      refine goV_i (n := 1) (C := RX8) X (cM_byteAt e_22) (gV kw906 kw908 ks_yX8_byteAt kw9 kw909) (by decide +kernel) ⟨by decide, by decide⟩ (rcM hK hP) hP (dM hD) hS rfl rfl hl.1 (Nat.le_of_ble_eq_true rfl) dX8_number_43 ⟨Nat.le_refl _, Nat.le_refl _⟩ (fun H locs hP _ hS => ?_)
      refine lv_bipush (v := 45) hx hb dX8_number_46 (by decide) ?_
      refine lv_icmp_ne (tgt := 55) hx hb dX8_number_48 (by decide) (fun c_23 => ?_) (fun c_23 => ?_)
      · have hm := (if_neg c_23).symm.trans hm
        refine lv_iconst (v := 0) hx hb dX8_number_55 (by decide) ?_
        refine lv_istore (lv' := [(4, .int 0), (3, .int (rS q 7)), (0, .ref (a 0)), (1, .int x1), (2, .int x2)]) hx hb dX8_number_56 hl (by decide) rfl (fun ls hl => ?_)
        refine lv_aload_n hx hb dX8_number_58 rfl (lv_at hl 2 rfl) ?_
        refine lv_dup hx hb dX8_number_59 rfl ?_
        refine gM_at X hP dX8_number_60 ?_
        refine lv_iconst (v := 1) hx hb dX8_number_63 (by decide) ?_
        refine lv_iadd hx hb dX8_number_64 ?_
        refine pM_at X hP (dM hD) hS dX8_number_65 (fun H locs hP hS => ?_)
        exact bkM_number_68 X hD hm hP hS (lv_sub hl [2, 3, 4, 1, 0] rfl)
      · have hm := (if_pos c_23).symm.trans hm
        refine lv_iconst (v := 1) hx hb dX8_number_51 (by decide) ?_
        refine lv_goto (tgt := 56) hx hb dX8_number_52 (by decide) ?_
        refine lv_istore (lv' := [(4, .int 1), (3, .int (rS q 7)), (0, .ref (a 0)), (1, .int x1), (2, .int x2)]) hx hb dX8_number_56 hl (by decide) rfl (fun ls hl => ?_)
        refine lv_aload_n hx hb dX8_number_58 rfl (lv_at hl 2 rfl) ?_
        refine lv_dup hx hb dX8_number_59 rfl ?_
        refine gM_at X hP dX8_number_60 ?_
        refine lv_iconst (v := 1) hx hb dX8_number_63 (by decide) ?_
        refine lv_iadd hx hb dX8_number_64 ?_
        refine pM_at X hP (dM hD) hS dX8_number_65 (fun H locs hP hS => ?_)
        exact bkM_number_68 X hD hm hP hS (lv_sub hl [2, 3, 4, 1, 0] rfl)
    · have hm := (if_neg c_21).symm.trans hm
      refine lv_aload_n hx hb dX8_number_25 rfl (lv_at hl 2 rfl) ?_
      refine lv_aload_n hx hb dX8_number_26 rfl (lv_at hl 2 rfl) ?_
      refine gM_at X hP dX8_number_27 ?_
      obtain ⟨r_24, e_24, hm⟩ := bd1_s hm
      refine goV_i (n := 1) (C := RX8) X (cM_byteAt e_24) (gV kw906 kw908 ks_yX8_byteAt kw9 kw909) (by decide +kernel) ⟨by decide, by decide⟩ (rcM hK hP) hP (dM hD) hS rfl rfl hl.1 (Nat.le_of_ble_eq_true rfl) dX8_number_30 ⟨Nat.le_refl _, Nat.le_refl _⟩ (fun H locs hP _ hS => ?_)
      refine lv_bipush (v := 45) hx hb dX8_number_33 (by decide) ?_
      refine lv_icmp_ne (tgt := 68) hx hb dX8_number_35 (by decide) (fun c_25 => ?_) (fun c_25 => ?_)
      · have hm := (if_neg c_25).symm.trans hm
        exact bkM_number_68 X hD hm hP hS (lv_sub hl [2, 3, 4, 1, 0] rfl)
      · have hm := (if_pos c_25).symm.trans hm
        refine lv_aload_n hx hb dX8_number_38 rfl (lv_at hl 2 rfl) ?_
        refine lv_aload_n hx hb dX8_number_39 rfl (lv_at hl 2 rfl) ?_
        refine gM_at X hP dX8_number_40 ?_
        obtain ⟨r_26, e_26, hm⟩ := bd1_s hm
        refine goV_i (n := 1) (C := RX8) X (cM_byteAt e_26) (gV kw906 kw908 ks_yX8_byteAt kw9 kw909) (by decide +kernel) ⟨by decide, by decide⟩ (rcM hK hP) hP (dM hD) hS rfl rfl hl.1 (Nat.le_of_ble_eq_true rfl) dX8_number_43 ⟨Nat.le_refl _, Nat.le_refl _⟩ (fun H locs hP _ hS => ?_)
        refine lv_bipush (v := 45) hx hb dX8_number_46 (by decide) ?_
        refine lv_icmp_ne (tgt := 55) hx hb dX8_number_48 (by decide) (fun c_27 => ?_) (fun c_27 => ?_)
        · have hm := (if_neg c_27).symm.trans hm
          refine lv_iconst (v := 0) hx hb dX8_number_55 (by decide) ?_
          refine lv_istore (lv' := [(4, .int 0), (3, .int (rS q 7)), (0, .ref (a 0)), (1, .int x1), (2, .int x2)]) hx hb dX8_number_56 hl (by decide) rfl (fun ls hl => ?_)
          refine lv_aload_n hx hb dX8_number_58 rfl (lv_at hl 2 rfl) ?_
          refine lv_dup hx hb dX8_number_59 rfl ?_
          refine gM_at X hP dX8_number_60 ?_
          refine lv_iconst (v := 1) hx hb dX8_number_63 (by decide) ?_
          refine lv_iadd hx hb dX8_number_64 ?_
          refine pM_at X hP (dM hD) hS dX8_number_65 (fun H locs hP hS => ?_)
          exact bkM_number_68 X hD hm hP hS (lv_sub hl [2, 3, 4, 1, 0] rfl)
        · have hm := (if_pos c_27).symm.trans hm
          refine lv_iconst (v := 1) hx hb dX8_number_51 (by decide) ?_
          refine lv_goto (tgt := 56) hx hb dX8_number_52 (by decide) ?_
          refine lv_istore (lv' := [(4, .int 1), (3, .int (rS q 7)), (0, .ref (a 0)), (1, .int x1), (2, .int x2)]) hx hb dX8_number_56 hl (by decide) rfl (fun ls hl => ?_)
          refine lv_aload_n hx hb dX8_number_58 rfl (lv_at hl 2 rfl) ?_
          refine lv_dup hx hb dX8_number_59 rfl ?_
          refine gM_at X hP dX8_number_60 ?_
          refine lv_iconst (v := 1) hx hb dX8_number_63 (by decide) ?_
          refine lv_iadd hx hb dX8_number_64 ?_
          refine pM_at X hP (dM hD) hS dX8_number_65 (fun H locs hP hS => ?_)
          exact bkM_number_68 X hD hm hP hS (lv_sub hl [2, 3, 4, 1, 0] rfl)

-- untilDate
def moM_untilDate (n : Nat) (q : Pc3) : Option (Pc3) :=
  (bd2 (moM_number n 0 99999999 q) fun r_1 q_1 => (bd1 (moM_dayOf n r_1 q_1) fun r_2 => (if 0 ≤ (rS (sS q_1 12 r_2) 12) then (some (sS q_1 12 r_2)) else (bd1 (moM_fail n 2 (rS q 7) (sS q_1 12 r_2)) fun q_4 => (some q_4)))))
set_option maxHeartbeats 4000000 in
set_option maxRecDepth 100000 in
theorem cM_untilDate {l : Launch} {G : Ev} {a : Nat → Nat} {n : Nat} {q : Pc3} {q' : Pc3} (hm : moM_untilDate n q = some q') : CtV l G yX8_untilDate cX8_untilDate 2 none 2 48 0 0 [.ref (a 0)] (wM G a q) (wM G a q') := by
  intro sz
  refine enter (by decide) (Nat.le_of_ble_eq_true rfl) ?_
  intro p e s m args below meth c ls X hsz hP hD hS hl
  subst hsz
  obtain ⟨⟨hx, hb, hml, hown, hts⟩, hK, hr, hlk, hA, hAs, hSta⟩ := id X
  have hl : lv_has ls 2 [(0, .ref (a 0))] := hl
  unfold moM_untilDate at hm
  refine lv_aload_n hx hb dX8_untilDate_0 rfl (lv_at hl 0 rfl) ?_
  refine gM_at X hP dX8_untilDate_1 ?_
  refine lv_istore_n (lv' := [(1, .int (rS q 7)), (0, .ref (a 0))]) hx hb dX8_untilDate_4 rfl hl (by decide) rfl (fun ls hl => ?_)
  refine lv_aload_n hx hb dX8_untilDate_5 rfl (lv_at hl 1 rfl) ?_
  refine lv_aload_n hx hb dX8_untilDate_6 rfl (lv_at hl 1 rfl) ?_
  refine lv_aload_n hx hb dX8_untilDate_7 rfl (lv_at hl 1 rfl) ?_
  refine lv_iconst (v := 0) hx hb dX8_untilDate_8 (by decide) ?_
  refine lv_ldc (v := 99999999) hx hb hown (hts _ (List.mem_cons_of_mem _ kw952)) dX8_untilDate_9 ?_
  obtain ⟨r_1, q_1, e_1, hm⟩ := bd2_s hm
  refine goV_i (n := 2) (C := RX8) X (cM_number e_1) (gV kw938 kw940 ks_yX8_number kw9 kw941) (by decide +kernel) ⟨by decide, by decide⟩ (rcM hK hP) hP (dM hD) hS rfl rfl hl.1 (Nat.le_of_ble_eq_true rfl) dX8_untilDate_11 ⟨Nat.le_refl _, Nat.le_refl _⟩ (fun H locs hP _ hS => ?_)
  obtain ⟨r_2, e_2, hm⟩ := bd1_s hm
  refine goV_i (n := 1) (C := RX8) X (cM_dayOf e_2) (gV kw885 kw887 ks_yX8_dayOf kw9 kw888) (by decide +kernel) ⟨by decide, by decide⟩ (rcM hK hP) hP (dM hD) hS rfl rfl hl.1 (Nat.le_of_ble_eq_true rfl) dX8_untilDate_14 ⟨Nat.le_refl _, Nat.le_refl _⟩ (fun H locs hP _ hS => ?_)
  refine pM_until X hP (dM hD) hS dX8_untilDate_17 (fun H locs hP hS => ?_)
  refine lv_aload_n hx hb dX8_untilDate_20 rfl (lv_at hl 1 rfl) ?_
  refine gM_until X hP dX8_untilDate_21 ?_
  refine lv_if_ge (tgt := 33) hx hb dX8_untilDate_24 (by decide) (fun c_3 => ?_) (fun c_3 => ?_)
  · have hm := (if_pos c_3).symm.trans hm
    exact ret_v (wf := wM G a) X hm hP hS dX8_untilDate_33
  · have hm := (if_neg c_3).symm.trans hm
    refine lv_aload_n hx hb dX8_untilDate_27 rfl (lv_at hl 1 rfl) ?_
    refine lv_iconst (v := 2) hx hb dX8_untilDate_28 (by decide) ?_
    refine lv_iload_n hx hb dX8_untilDate_29 rfl (lv_at hl 0 rfl) ?_
    obtain ⟨q_4, e_4, hm⟩ := bd1_s hm
    refine goV_v (n := 2) (C := RX8) X (cM_fail e_4) (gV kw927 kw929 ks_yX8_fail kw9 kw930) (by decide +kernel) ⟨by decide, by decide⟩ (rcM hK hP) hP (dM hD) hS rfl rfl hl.1 (Nat.le_of_ble_eq_true rfl) dX8_untilDate_30 ⟨Nat.le_refl _, Nat.le_refl _⟩ (fun H locs hP _ hS => ?_)
    exact ret_v (wf := wM G a) X hm hP hS dX8_untilDate_33

-- weekday
def moN_weekday (n : Nat) (x0 : Int32) (x1 : Int32) : Option (Int32) :=
  (if ((100 * x0) + x1) = 7779 then (some 0) else (if ((100 * x0) + x1) = 8485 then (some 1) else (if ((100 * x0) + x1) = 8769 then (some 2) else (if ((100 * x0) + x1) = 8472 then (some 3) else (if ((100 * x0) + x1) = 7082 then (some 4) else (if ((100 * x0) + x1) = 8365 then (some 5) else (if ((100 * x0) + x1) = 8385 then (some 6) else (some (-1)))))))))
set_option maxHeartbeats 4000000 in
set_option maxRecDepth 100000 in
theorem cN_weekday {l : Launch} {G : Ev}  {n : Nat} {x0 : Int32} {x1 : Int32} {r : Int32} (hm : moN_weekday n x0 x1  = some r) : CtI l G yX8_weekday cX8_weekday 3 (some .int) 0 0 0 0 [.int x0, .int x1] (wN ()) (wN ()) r := by
  intro sz
  refine enter (by decide) (Nat.le_of_ble_eq_true rfl) ?_
  intro p e s m args below meth c ls X hsz hP hD hS hl
  subst hsz
  obtain ⟨⟨hx, hb, hml, hown, hts⟩, hK, hr, hlk, hA, hAs, hSta⟩ := id X
  have hl : lv_has ls 3 [(0, .int x0), (1, .int x1)] := hl
  unfold moN_weekday at hm
  refine lv_bipush (v := 100) hx hb dX8_weekday_0 (by decide) ?_
  refine lv_iload_n hx hb dX8_weekday_2 rfl (lv_at hl 0 rfl) ?_
  refine lv_imul hx hb dX8_weekday_3 ?_
  refine lv_iload_n hx hb dX8_weekday_4 rfl (lv_at hl 1 rfl) ?_
  refine lv_iadd hx hb dX8_weekday_5 ?_
  refine lv_istore_n (lv' := [(2, .int ((100 * x0) + x1)), (0, .int x0), (1, .int x1)]) hx hb dX8_weekday_6 rfl hl (by decide) rfl (fun ls hl => ?_)
  refine lv_iload_n hx hb dX8_weekday_7 rfl (lv_at hl 0 rfl) ?_
  refine lv_sipush (v := 7779) hx hb dX8_weekday_8 (by decide) ?_
  refine lv_icmp_ne (tgt := 18) hx hb dX8_weekday_11 (by decide) (fun c_1 => ?_) (fun c_1 => ?_)
  · have hm := (if_neg c_1).symm.trans hm
    refine lv_iload_n hx hb dX8_weekday_18 rfl (lv_at hl 0 rfl) ?_
    refine lv_sipush (v := 8485) hx hb dX8_weekday_19 (by decide) ?_
    refine lv_icmp_ne (tgt := 29) hx hb dX8_weekday_22 (by decide) (fun c_2 => ?_) (fun c_2 => ?_)
    · have hm := (if_neg c_2).symm.trans hm
      refine lv_iload_n hx hb dX8_weekday_29 rfl (lv_at hl 0 rfl) ?_
      refine lv_sipush (v := 8769) hx hb dX8_weekday_30 (by decide) ?_
      refine lv_icmp_ne (tgt := 40) hx hb dX8_weekday_33 (by decide) (fun c_3 => ?_) (fun c_3 => ?_)
      · have hm := (if_neg c_3).symm.trans hm
        refine lv_iload_n hx hb dX8_weekday_40 rfl (lv_at hl 0 rfl) ?_
        refine lv_sipush (v := 8472) hx hb dX8_weekday_41 (by decide) ?_
        refine lv_icmp_ne (tgt := 51) hx hb dX8_weekday_44 (by decide) (fun c_4 => ?_) (fun c_4 => ?_)
        · have hm := (if_neg c_4).symm.trans hm
          refine lv_iload_n hx hb dX8_weekday_51 rfl (lv_at hl 0 rfl) ?_
          refine lv_sipush (v := 7082) hx hb dX8_weekday_52 (by decide) ?_
          refine lv_icmp_ne (tgt := 62) hx hb dX8_weekday_55 (by decide) (fun c_5 => ?_) (fun c_5 => ?_)
          · have hm := (if_neg c_5).symm.trans hm
            refine lv_iload_n hx hb dX8_weekday_62 rfl (lv_at hl 0 rfl) ?_
            refine lv_sipush (v := 8365) hx hb dX8_weekday_63 (by decide) ?_
            refine lv_icmp_ne (tgt := 73) hx hb dX8_weekday_66 (by decide) (fun c_6 => ?_) (fun c_6 => ?_)
            · have hm := (if_neg c_6).symm.trans hm
              refine lv_iload_n hx hb dX8_weekday_73 rfl (lv_at hl 0 rfl) ?_
              refine lv_sipush (v := 8385) hx hb dX8_weekday_74 (by decide) ?_
              refine lv_icmp_ne (tgt := 85) hx hb dX8_weekday_77 (by decide) (fun c_7 => ?_) (fun c_7 => ?_)
              · have hm := (if_neg c_7).symm.trans hm
                refine lv_iconst (v := (-1)) hx hb dX8_weekday_85 (by decide) ?_
                exact ret_io (wf := wN) X hm hP hS dX8_weekday_86
              · have hm := (if_pos c_7).symm.trans hm
                refine lv_bipush (v := 6) hx hb dX8_weekday_80 (by decide) ?_
                refine lv_goto (tgt := 86) hx hb dX8_weekday_82 (by decide) ?_
                exact ret_io (wf := wN) X hm hP hS dX8_weekday_86
            · have hm := (if_pos c_6).symm.trans hm
              refine lv_iconst (v := 5) hx hb dX8_weekday_69 (by decide) ?_
              refine lv_goto (tgt := 86) hx hb dX8_weekday_70 (by decide) ?_
              exact ret_io (wf := wN) X hm hP hS dX8_weekday_86
          · have hm := (if_pos c_5).symm.trans hm
            refine lv_iconst (v := 4) hx hb dX8_weekday_58 (by decide) ?_
            refine lv_goto (tgt := 86) hx hb dX8_weekday_59 (by decide) ?_
            exact ret_io (wf := wN) X hm hP hS dX8_weekday_86
        · have hm := (if_pos c_4).symm.trans hm
          refine lv_iconst (v := 3) hx hb dX8_weekday_47 (by decide) ?_
          refine lv_goto (tgt := 86) hx hb dX8_weekday_48 (by decide) ?_
          exact ret_io (wf := wN) X hm hP hS dX8_weekday_86
      · have hm := (if_pos c_3).symm.trans hm
        refine lv_iconst (v := 2) hx hb dX8_weekday_36 (by decide) ?_
        refine lv_goto (tgt := 86) hx hb dX8_weekday_37 (by decide) ?_
        exact ret_io (wf := wN) X hm hP hS dX8_weekday_86
    · have hm := (if_pos c_2).symm.trans hm
      refine lv_iconst (v := 1) hx hb dX8_weekday_25 (by decide) ?_
      refine lv_goto (tgt := 86) hx hb dX8_weekday_26 (by decide) ?_
      exact ret_io (wf := wN) X hm hP hS dX8_weekday_86
  · have hm := (if_pos c_1).symm.trans hm
    refine lv_iconst (v := 0) hx hb dX8_weekday_14 (by decide) ?_
    refine lv_goto (tgt := 86) hx hb dX8_weekday_15 (by decide) ?_
    exact ret_io (wf := wN) X hm hP hS dX8_weekday_86

-- dayItem
def moM_dayItem_L52 {α : Type} (n : Nat) (K0 : Int32 → Int32 → Pc3 → Option α) : Nat → Int32 → Int32 → Int32 → Pc3 → Option α
  | 0, _, _, _, _ => none
  | k + 1, x1, x3, x4, q => (if 2 ≤ x4 then (K0 x1 x3 q) else (if (rS q 5) = 0 then (bd1 (moM_byteAt n (rS q 7) q) fun r_6 => (bd1 (moN_isCapital n r_6) fun r_7 => (if r_7 = 0 then (bd1 (moM_fail n 1 (rS q 7) q) fun q_9 => (moM_dayItem_L52 n K0 k x1 x3 (x4 + 1) (sS q_9 7 ((rS q_9 7) + 1)))) else (moM_dayItem_L52 n K0 k x1 x3 (x4 + 1) (sS q 7 ((rS q 7) + 1)))))) else (K0 x1 x3 q)))
def moM_dayItem_B44 (n : Nat) (x1 : Int32) (q : Pc3) : Option (Pc3) :=
  (moM_dayItem_L52 n (fun z10_1 z10_3 q_10 => (if (rS q_10 5) ≤ 0 then (bd1 (moM_byteAt n z10_3 q_10) fun r_12 => (bd1 (moM_byteAt n (z10_3 + 1) q_10) fun r_13 => (bd1 (moN_weekday n r_12 r_13) fun r_14 => (if 0 ≤ r_14 then (gi (((107 * r_14) + 53) + z10_1) 749 (some (sA q_10 16 (((107 * r_14) + 53) + z10_1) (vp_nar .boolean 1)))) else (bd1 (moM_fail n 1 z10_3 q_10) fun q_17 => (some q_17)))))) else (some q_10))) n x1 (rS q 7) 0 q)
def moM_dayItem (n : Nat) (q : Pc3) : Option (Pc3) :=
  (bd1 (moM_byteAt n (rS q 7) q) fun r_1 => (if r_1 = 43 then (bd2 (moM_number n (-53) 53 q) fun r_3 q_3 => (moM_dayItem_B44 n r_3 (sS q_3 17 1))) else (if r_1 = 45 then (bd2 (moM_number n (-53) 53 q) fun r_19 q_19 => (moM_dayItem_B44 n r_19 (sS q_19 17 1))) else (bd1 (moN_isFigure n r_1) fun r_20 => (if r_20 = 0 then (moM_dayItem_B44 n 0 q) else (bd2 (moM_number n (-53) 53 q) fun r_22 q_22 => (moM_dayItem_B44 n r_22 (sS q_22 17 1))))))))
set_option maxHeartbeats 4000000 in
set_option maxRecDepth 100000 in
theorem lpM_dayItem_52 {p : Program} {l : Launch} {e : Env} {s : State} {m : MethodId} {args : Array Value} {below : List Frame} {meth : Method} {c : Code} {G : Ev} {a : Nat → Nat} {Q : State → Prop} {A : Nat → Prop} {q0 : Pc3} (X : CX p s m args meth c cX8_dayItem 5 none RX8 (.code yX8_dayItem cX8_dayItem 5 none) G A) (hD : va_D A (wM G a q0)) {α : Type} {o : α} {n : Nat} {K0 : Int32 → Int32 → Pc3 → Option α} (h0 : ∀ (y1 : Int32) (y3 : Int32) (q : Pc3) (H : Heap) (locs : List Loc) (ls : Array Slot), K0 y1 y3 q = some o → va_P (DD G) vwCl (wM G a q) H → va_S A s.heap H locs → lv_has ls 5 [(0, .ref (a 0)), (1, .int y1), (3, .int y3)] → W p l e { frames := 2, cells := 0, slots := 0, locals := 48 } s m args below meth c H locs 0 0 Q (F0 m 104 ls [])) : ∀ (k : Nat) (x1 : Int32) (x3 : Int32) (x4 : Int32) (q : Pc3) (H : Heap) (locs : List Loc) (ls : Array Slot), moM_dayItem_L52 n K0 k x1 x3 x4 q = some o → va_P (DD G) vwCl (wM G a q) H → va_S A s.heap H locs → lv_has ls 5 [(0, .ref (a 0)), (1, .int x1), (3, .int x3), (4, .int x4)] → W p l e { frames := 2, cells := 0, slots := 0, locals := 48 } s m args below meth c H locs 0 0 Q (F0 m 52 ls []) := by
  obtain ⟨⟨hx, hb, hml, hown, hts⟩, hK, hr, hlk, hA, hAs, hSta⟩ := id X
  intro k
  induction k with
  | zero =>
    intro x1 x3 x4 q H locs ls hm
    have hm : none = some o := hm
    cases hm
  | succ k ih =>
    intro x1 x3 x4 q H locs ls hm hP hS hl
    rw [moM_dayItem_L52] at hm
    refine lv_iload hx hb dX8_dayItem_52 (lv_at hl 3 rfl) ?_
    refine lv_iconst (v := 2) hx hb dX8_dayItem_54 (by decide) ?_
    refine lv_icmp_ge (tgt := 104) hx hb dX8_dayItem_55 (by decide) (fun c_4 => ?_) (fun c_4 => ?_)
    · have hm := (if_pos c_4).symm.trans hm
      exact h0 _ _ _ _ _ _ hm hP hS (lv_sub hl [0, 1, 2] rfl)
    · have hm := (if_neg c_4).symm.trans hm
      refine lv_aload_n hx hb dX8_dayItem_58 rfl (lv_at hl 0 rfl) ?_
      refine gM_fault X hP dX8_dayItem_59 ?_
      refine lv_if_ne (tgt := 104) hx hb dX8_dayItem_62 (by decide) (fun c_5 => ?_) (fun c_5 => ?_)
      · have hm := (if_neg c_5).symm.trans hm
        exact h0 _ _ _ _ _ _ hm hP hS (lv_sub hl [0, 1, 2] rfl)
      · have hm := (if_pos c_5).symm.trans hm
        refine lv_aload_n hx hb dX8_dayItem_65 rfl (lv_at hl 0 rfl) ?_
        refine lv_aload_n hx hb dX8_dayItem_66 rfl (lv_at hl 0 rfl) ?_
        refine gM_at X hP dX8_dayItem_67 ?_
        obtain ⟨r_6, e_6, hm⟩ := bd1_s hm
        refine goV_i (n := 1) (C := RX8) X (cM_byteAt e_6) (gV kw906 kw908 ks_yX8_byteAt kw9 kw909) (by decide +kernel) ⟨by decide, by decide⟩ (rcM hK hP) hP (dM hD) hS rfl rfl hl.1 (Nat.le_of_ble_eq_true rfl) dX8_dayItem_70 ⟨Nat.le_refl _, Nat.le_refl _⟩ (fun H locs hP _ hS => ?_)
        obtain ⟨r_7, e_7, hm⟩ := bd1_s hm
        refine goS_i (n := 1) X (cN_isCapital e_7) (gS kw910 kw911 kw9 kw912) (by decide +kernel) ⟨by decide, by decide⟩ va_nil va_dnil hS rfl rfl hl.1 (Nat.le_of_ble_eq_true rfl) dX8_dayItem_73 ⟨Nat.le_refl _, Nat.le_refl _⟩ (fun H locs _ hk hS => ?_)
        have hP := va_keep hP hk
        refine lv_if_ne (tgt := 88) hx hb dX8_dayItem_76 (by decide) (fun c_8 => ?_) (fun c_8 => ?_)
        · have hm := (if_neg c_8).symm.trans hm
          refine lv_aload_n hx hb dX8_dayItem_88 rfl (lv_at hl 0 rfl) ?_
          refine lv_dup hx hb dX8_dayItem_89 rfl ?_
          refine gM_at X hP dX8_dayItem_90 ?_
          refine lv_iconst (v := 1) hx hb dX8_dayItem_93 (by decide) ?_
          refine lv_iadd hx hb dX8_dayItem_94 ?_
          refine pM_at X hP (dM hD) hS dX8_dayItem_95 (fun H locs hP hS => ?_)
          refine lv_iinc (v := (x4 + 1)) (lv' := [(4, .int (x4 + 1)), (0, .ref (a 0)), (1, .int x1), (3, .int x3)]) hx hb dX8_dayItem_98 hl (k := 3) rfl (by first | rfl | decide) (by decide) rfl (fun ls hl => ?_)
          refine lv_goto (tgt := 52) hx hb dX8_dayItem_101 (by decide) ?_
          exact ih _ _ _ _ _ _ _ hm hP hS (lv_sub hl [1, 2, 3, 0] rfl)
        · have hm := (if_pos c_8).symm.trans hm
          refine lv_aload_n hx hb dX8_dayItem_79 rfl (lv_at hl 0 rfl) ?_
          refine lv_iconst (v := 1) hx hb dX8_dayItem_80 (by decide) ?_
          refine lv_aload_n hx hb dX8_dayItem_81 rfl (lv_at hl 0 rfl) ?_
          refine gM_at X hP dX8_dayItem_82 ?_
          obtain ⟨q_9, e_9, hm⟩ := bd1_s hm
          refine goV_v (n := 2) (C := RX8) X (cM_fail e_9) (gV kw927 kw929 ks_yX8_fail kw9 kw930) (by decide +kernel) ⟨by decide, by decide⟩ (rcM hK hP) hP (dM hD) hS rfl rfl hl.1 (Nat.le_of_ble_eq_true rfl) dX8_dayItem_85 ⟨Nat.le_refl _, Nat.le_refl _⟩ (fun H locs hP _ hS => ?_)
          refine lv_aload_n hx hb dX8_dayItem_88 rfl (lv_at hl 0 rfl) ?_
          refine lv_dup hx hb dX8_dayItem_89 rfl ?_
          refine gM_at X hP dX8_dayItem_90 ?_
          refine lv_iconst (v := 1) hx hb dX8_dayItem_93 (by decide) ?_
          refine lv_iadd hx hb dX8_dayItem_94 ?_
          refine pM_at X hP (dM hD) hS dX8_dayItem_95 (fun H locs hP hS => ?_)
          refine lv_iinc (v := (x4 + 1)) (lv' := [(4, .int (x4 + 1)), (0, .ref (a 0)), (1, .int x1), (3, .int x3)]) hx hb dX8_dayItem_98 hl (k := 3) rfl (by first | rfl | decide) (by decide) rfl (fun ls hl => ?_)
          refine lv_goto (tgt := 52) hx hb dX8_dayItem_101 (by decide) ?_
          exact ih _ _ _ _ _ _ _ hm hP hS (lv_sub hl [1, 2, 3, 0] rfl)
set_option maxHeartbeats 4000000 in
set_option maxRecDepth 100000 in
theorem bkM_dayItem_44 {p : Program} {l : Launch} {e : Env} {s : State} {m : MethodId} {args : Array Value} {below : List Frame} {meth : Method} {c : Code} {G : Ev} {a : Nat → Nat}  {q0 : Pc3} {L : List Nat} {q' : Pc3} {n : Nat} {x1 : Int32} {q : Pc3} {H : Heap} {locs : List Loc} {ls : Array Slot} (X : CX p s m args meth c cX8_dayItem 5 none RX8 (.code yX8_dayItem cX8_dayItem 5 none) G (AL L s.heap.size)) (hD : va_D (AL L s.heap.size) (wM G a q0)) (hm : moM_dayItem_B44 n x1 q = some q') (hP : va_P (DD G) vwCl (wM G a q) H) (hS : va_S (AL L s.heap.size) s.heap H locs) (hl : lv_has ls 5 [(0, .ref (a 0)), (1, .int x1)]) : W p l e { frames := 2, cells := 0, slots := 0, locals := 48 } s m args below meth c H locs 0 0 (MQ below (va_Qv (fun _ : Unit => True) (fun _ t => va_P (DD G) vwCl (wM G a q') t.heap) (AL L s.heap.size)) args s 0 0 (AL L s.heap.size)) (F0 m 44 ls []) := by
  obtain ⟨⟨hx, hb, hml, hown, hts⟩, hK, hr, hlk, hA, hAs, hSta⟩ := id X
  unfold moM_dayItem_B44 at hm
  refine lv_aload_n hx hb dX8_dayItem_44 rfl (lv_at hl 0 rfl) ?_
  refine gM_at X hP dX8_dayItem_45 ?_
  refine lv_istore_n (lv' := [(3, .int (rS q 7)), (0, .ref (a 0)), (1, .int x1)]) hx hb dX8_dayItem_48 rfl hl (by decide) rfl (fun ls hl => ?_)
  refine lv_iconst (v := 0) hx hb dX8_dayItem_49 (by decide) ?_
  refine lv_istore (lv' := [(4, .int 0), (3, .int (rS q 7)), (0, .ref (a 0)), (1, .int x1)]) hx hb dX8_dayItem_50 hl (by decide) rfl (fun ls hl => ?_)
  refine lpM_dayItem_52 X hD (fun z10_1 z10_3 q_10 H locs ls hm hP hS hl => ?_) n _ _ _ _ _ _ _ hm hP hS (lv_sub hl [2, 3, 1, 0] rfl)
  refine lv_aload_n hx hb dX8_dayItem_104 rfl (lv_at hl 0 rfl) ?_
  refine gM_fault X hP dX8_dayItem_105 ?_
  refine lv_if_le (tgt := 112) hx hb dX8_dayItem_108 (by decide) (fun c_11 => ?_) (fun c_11 => ?_)
  · have hm := (if_pos c_11).symm.trans hm
    refine lv_aload_n hx hb dX8_dayItem_112 rfl (lv_at hl 0 rfl) ?_
    refine lv_iload_n hx hb dX8_dayItem_113 rfl (lv_at hl 2 rfl) ?_
    obtain ⟨r_12, e_12, hm⟩ := bd1_s hm
    refine goV_i (n := 1) (C := RX8) X (cM_byteAt e_12) (gV kw906 kw908 ks_yX8_byteAt kw9 kw909) (by decide +kernel) ⟨by decide, by decide⟩ (rcM hK hP) hP (dM hD) hS rfl rfl hl.1 (Nat.le_of_ble_eq_true rfl) dX8_dayItem_114 ⟨Nat.le_refl _, Nat.le_refl _⟩ (fun H locs hP _ hS => ?_)
    refine lv_aload_n hx hb dX8_dayItem_117 rfl (lv_at hl 0 rfl) ?_
    refine lv_iload_n hx hb dX8_dayItem_118 rfl (lv_at hl 2 rfl) ?_
    refine lv_iconst (v := 1) hx hb dX8_dayItem_119 (by decide) ?_
    refine lv_iadd hx hb dX8_dayItem_120 ?_
    obtain ⟨r_13, e_13, hm⟩ := bd1_s hm
    refine goV_i (n := 1) (C := RX8) X (cM_byteAt e_13) (gV kw906 kw908 ks_yX8_byteAt kw9 kw909) (by decide +kernel) ⟨by decide, by decide⟩ (rcM hK hP) hP (dM hD) hS rfl rfl hl.1 (Nat.le_of_ble_eq_true rfl) dX8_dayItem_121 ⟨Nat.le_refl _, Nat.le_refl _⟩ (fun H locs hP _ hS => ?_)
    obtain ⟨r_14, e_14, hm⟩ := bd1_s hm
    refine goS_i (n := 2) X (cN_weekday e_14) (gS kw961 kw962 kw9 kw963) (by decide +kernel) ⟨by decide, by decide⟩ va_nil va_dnil hS rfl rfl hl.1 (Nat.le_of_ble_eq_true rfl) dX8_dayItem_124 ⟨Nat.le_refl _, Nat.le_refl _⟩ (fun H locs _ hk hS => ?_)
    have hP := va_keep hP hk
    refine lv_istore (lv' := [(4, .int r_14), (0, .ref (a 0)), (1, .int z10_1), (3, .int z10_3)]) hx hb dX8_dayItem_127 hl (by decide) rfl (fun ls hl => ?_)
    refine lv_iload hx hb dX8_dayItem_129 (lv_at hl 0 rfl) ?_
    refine lv_if_ge (tgt := 143) hx hb dX8_dayItem_131 (by decide) (fun c_15 => ?_) (fun c_15 => ?_)
    · have hm := (if_pos c_15).symm.trans hm
      refine lv_aload_n hx hb dX8_dayItem_143 rfl (lv_at hl 1 rfl) ?_
      refine gM_weekdays X hP dX8_dayItem_144 ?_
      refine lv_bipush (v := 107) hx hb dX8_dayItem_147 (by decide) ?_
      refine lv_iload hx hb dX8_dayItem_149 (lv_at hl 0 rfl) ?_
      refine lv_imul hx hb dX8_dayItem_151 ?_
      refine lv_bipush (v := 53) hx hb dX8_dayItem_152 (by decide) ?_
      refine lv_iadd hx hb dX8_dayItem_154 ?_
      refine lv_iload_n hx hb dX8_dayItem_155 rfl (lv_at hl 2 rfl) ?_
      refine lv_iadd hx hb dX8_dayItem_156 ?_
      refine lv_iconst (v := 1) hx hb dX8_dayItem_157 (by decide) ?_
      obtain ⟨hi_16, hm⟩ := gi_s hm
      refine stM_weekdays X hP (dM hD) hS hi_16 dX8_dayItem_158 (fun H locs hP hS => ?_)
      exact ret_v (wf := wM G a) X hm hP hS dX8_dayItem_159
    · have hm := (if_neg c_15).symm.trans hm
      refine lv_aload_n hx hb dX8_dayItem_134 rfl (lv_at hl 1 rfl) ?_
      refine lv_iconst (v := 1) hx hb dX8_dayItem_135 (by decide) ?_
      refine lv_iload_n hx hb dX8_dayItem_136 rfl (lv_at hl 3 rfl) ?_
      obtain ⟨q_17, e_17, hm⟩ := bd1_s hm
      refine goV_v (n := 2) (C := RX8) X (cM_fail e_17) (gV kw927 kw929 ks_yX8_fail kw9 kw930) (by decide +kernel) ⟨by decide, by decide⟩ (rcM hK hP) hP (dM hD) hS rfl rfl hl.1 (Nat.le_of_ble_eq_true rfl) dX8_dayItem_137 ⟨Nat.le_refl _, Nat.le_refl _⟩ (fun H locs hP _ hS => ?_)
      refine lv_goto (tgt := 159) hx hb dX8_dayItem_140 (by decide) ?_
      exact ret_v (wf := wM G a) X hm hP hS dX8_dayItem_159
  · have hm := (if_neg c_11).symm.trans hm
    exact ret_v (wf := wM G a) X hm hP hS dX8_dayItem_111
set_option maxHeartbeats 4000000 in
set_option maxRecDepth 100000 in
theorem cM_dayItem {l : Launch} {G : Ev} {a : Nat → Nat} {n : Nat} {q : Pc3} {q' : Pc3} (hm : moM_dayItem n q = some q') : CtV l G yX8_dayItem cX8_dayItem 5 none 2 48 0 0 [.ref (a 0)] (wM G a q) (wM G a q') := by
  intro sz
  refine enter (by decide) (Nat.le_of_ble_eq_true rfl) ?_
  intro p e s m args below meth c ls X hsz hP hD hS hl
  subst hsz
  obtain ⟨⟨hx, hb, hml, hown, hts⟩, hK, hr, hlk, hA, hAs, hSta⟩ := id X
  have hl : lv_has ls 5 [(0, .ref (a 0))] := hl
  unfold moM_dayItem at hm
  refine lv_iconst (v := 0) hx hb dX8_dayItem_0 (by decide) ?_
  refine lv_istore_n (lv' := [(1, .int 0), (0, .ref (a 0))]) hx hb dX8_dayItem_1 rfl hl (by decide) rfl (fun ls hl => ?_)
  refine lv_aload_n hx hb dX8_dayItem_2 rfl (lv_at hl 1 rfl) ?_
  refine lv_aload_n hx hb dX8_dayItem_3 rfl (lv_at hl 1 rfl) ?_
  refine gM_at X hP dX8_dayItem_4 ?_
  obtain ⟨r_1, e_1, hm⟩ := bd1_s hm
  refine goV_i (n := 1) (C := RX8) X (cM_byteAt e_1) (gV kw906 kw908 ks_yX8_byteAt kw9 kw909) (by decide +kernel) ⟨by decide, by decide⟩ (rcM hK hP) hP (dM hD) hS rfl rfl hl.1 (Nat.le_of_ble_eq_true rfl) dX8_dayItem_7 ⟨Nat.le_refl _, Nat.le_refl _⟩ (fun H locs hP _ hS => ?_)
  refine lv_istore_n (lv' := [(2, .int r_1), (1, .int 0), (0, .ref (a 0))]) hx hb dX8_dayItem_10 rfl hl (by decide) rfl (fun ls hl => ?_)
  refine lv_iload_n hx hb dX8_dayItem_11 rfl (lv_at hl 0 rfl) ?_
  refine lv_bipush (v := 43) hx hb dX8_dayItem_12 (by decide) ?_
  refine lv_icmp_eq (tgt := 30) hx hb dX8_dayItem_14 (by decide) (fun c_2 => ?_) (fun c_2 => ?_)
  · have hm := (if_pos c_2).symm.trans hm
    refine lv_aload_n hx hb dX8_dayItem_30 rfl (lv_at hl 2 rfl) ?_
    refine lv_bipush (v := (-53)) hx hb dX8_dayItem_31 (by decide) ?_
    refine lv_bipush (v := 53) hx hb dX8_dayItem_33 (by decide) ?_
    obtain ⟨r_3, q_3, e_3, hm⟩ := bd2_s hm
    refine goV_i (n := 2) (C := RX8) X (cM_number e_3) (gV kw938 kw940 ks_yX8_number kw9 kw941) (by decide +kernel) ⟨by decide, by decide⟩ (rcM hK hP) hP (dM hD) hS rfl rfl hl.1 (Nat.le_of_ble_eq_true rfl) dX8_dayItem_35 ⟨Nat.le_refl _, Nat.le_refl _⟩ (fun H locs hP _ hS => ?_)
    refine lv_istore_n (lv' := [(1, .int r_3), (2, .int r_1), (0, .ref (a 0))]) hx hb dX8_dayItem_38 rfl hl (by decide) rfl (fun ls hl => ?_)
    refine lv_aload_n hx hb dX8_dayItem_39 rfl (lv_at hl 2 rfl) ?_
    refine lv_iconst (v := 1) hx hb dX8_dayItem_40 (by decide) ?_
    refine pM_numbered X (by decide) hP (dM hD) hS dX8_dayItem_41 (fun H locs hP hS => ?_)
    exact bkM_dayItem_44 X hD hm hP hS (lv_sub hl [2, 0] rfl)
  · have hm := (if_neg c_2).symm.trans hm
    refine lv_iload_n hx hb dX8_dayItem_17 rfl (lv_at hl 0 rfl) ?_
    refine lv_bipush (v := 45) hx hb dX8_dayItem_18 (by decide) ?_
    refine lv_icmp_eq (tgt := 30) hx hb dX8_dayItem_20 (by decide) (fun c_18 => ?_) (fun c_18 => ?_)
    · have hm := (if_pos c_18).symm.trans hm
      refine lv_aload_n hx hb dX8_dayItem_30 rfl (lv_at hl 2 rfl) ?_
      refine lv_bipush (v := (-53)) hx hb dX8_dayItem_31 (by decide) ?_
      refine lv_bipush (v := 53) hx hb dX8_dayItem_33 (by decide) ?_
      obtain ⟨r_19, q_19, e_19, hm⟩ := bd2_s hm
      refine goV_i (n := 2) (C := RX8) X (cM_number e_19) (gV kw938 kw940 ks_yX8_number kw9 kw941) (by decide +kernel) ⟨by decide, by decide⟩ (rcM hK hP) hP (dM hD) hS rfl rfl hl.1 (Nat.le_of_ble_eq_true rfl) dX8_dayItem_35 ⟨Nat.le_refl _, Nat.le_refl _⟩ (fun H locs hP _ hS => ?_)
      refine lv_istore_n (lv' := [(1, .int r_19), (2, .int r_1), (0, .ref (a 0))]) hx hb dX8_dayItem_38 rfl hl (by decide) rfl (fun ls hl => ?_)
      refine lv_aload_n hx hb dX8_dayItem_39 rfl (lv_at hl 2 rfl) ?_
      refine lv_iconst (v := 1) hx hb dX8_dayItem_40 (by decide) ?_
      refine pM_numbered X (by decide) hP (dM hD) hS dX8_dayItem_41 (fun H locs hP hS => ?_)
      exact bkM_dayItem_44 X hD hm hP hS (lv_sub hl [2, 0] rfl)
    · have hm := (if_neg c_18).symm.trans hm
      refine lv_iload_n hx hb dX8_dayItem_23 rfl (lv_at hl 0 rfl) ?_
      obtain ⟨r_20, e_20, hm⟩ := bd1_s hm
      refine goS_i (n := 1) X (cN_isFigure e_20) (gS kw942 kw943 kw9 kw944) (by decide +kernel) ⟨by decide, by decide⟩ va_nil va_dnil hS rfl rfl hl.1 (Nat.le_of_ble_eq_true rfl) dX8_dayItem_24 ⟨Nat.le_refl _, Nat.le_refl _⟩ (fun H locs _ hk hS => ?_)
      have hP := va_keep hP hk
      refine lv_if_eq (tgt := 44) hx hb dX8_dayItem_27 (by decide) (fun c_21 => ?_) (fun c_21 => ?_)
      · have hm := (if_pos c_21).symm.trans hm
        exact bkM_dayItem_44 X hD hm hP hS (lv_sub hl [2, 1] rfl)
      · have hm := (if_neg c_21).symm.trans hm
        refine lv_aload_n hx hb dX8_dayItem_30 rfl (lv_at hl 2 rfl) ?_
        refine lv_bipush (v := (-53)) hx hb dX8_dayItem_31 (by decide) ?_
        refine lv_bipush (v := 53) hx hb dX8_dayItem_33 (by decide) ?_
        obtain ⟨r_22, q_22, e_22, hm⟩ := bd2_s hm
        refine goV_i (n := 2) (C := RX8) X (cM_number e_22) (gV kw938 kw940 ks_yX8_number kw9 kw941) (by decide +kernel) ⟨by decide, by decide⟩ (rcM hK hP) hP (dM hD) hS rfl rfl hl.1 (Nat.le_of_ble_eq_true rfl) dX8_dayItem_35 ⟨Nat.le_refl _, Nat.le_refl _⟩ (fun H locs hP _ hS => ?_)
        refine lv_istore_n (lv' := [(1, .int r_22), (2, .int r_1), (0, .ref (a 0))]) hx hb dX8_dayItem_38 rfl hl (by decide) rfl (fun ls hl => ?_)
        refine lv_aload_n hx hb dX8_dayItem_39 rfl (lv_at hl 2 rfl) ?_
        refine lv_iconst (v := 1) hx hb dX8_dayItem_40 (by decide) ?_
        refine pM_numbered X (by decide) hP (dM hD) hS dX8_dayItem_41 (fun H locs hP hS => ?_)
        exact bkM_dayItem_44 X hD hm hP hS (lv_sub hl [2, 0] rfl)

-- oneItem
def moM_oneItem (n : Nat) (x1 : Int32) (q : Pc3) : Option (Pc3) :=
  (if x1 = 4 then (bd2 (moM_number n 1 12 q) fun r_11 q_11 => (if (rS q_11 5) = 0 then (gi r_11 13 (some (sA q_11 13 r_11 (vp_nar .boolean 1)))) else (some q_11))) else (if x1 = 5 then (bd2 (moM_number n (-31) 31 q) fun r_8 q_8 => (if (rS q_8 5) = 0 then (gi (31 + r_8) 63 (some (sA q_8 14 (31 + r_8) (vp_nar .boolean 1)))) else (some q_8))) else (if x1 = 6 then (bd2 (moM_number n (-366) 366 q) fun r_5 q_5 => (if (rS q_5 5) = 0 then (gi (366 + r_5) 733 (some (sA q_5 15 (366 + r_5) (vp_nar .boolean 1)))) else (some q_5))) else (bd1 (moM_dayItem n q) fun q_4 => (some q_4)))))
set_option maxHeartbeats 4000000 in
set_option maxRecDepth 100000 in
theorem cM_oneItem {l : Launch} {G : Ev} {a : Nat → Nat} {n : Nat} {q : Pc3} {x1 : Int32} {q' : Pc3} (hm : moM_oneItem n x1 q = some q') : CtV l G yX8_oneItem cX8_oneItem 3 none 3 72 0 0 [.ref (a 0), .int x1] (wM G a q) (wM G a q') := by
  intro sz
  refine enter (by decide) (Nat.le_of_ble_eq_true rfl) ?_
  intro p e s m args below meth c ls X hsz hP hD hS hl
  subst hsz
  obtain ⟨⟨hx, hb, hml, hown, hts⟩, hK, hr, hlk, hA, hAs, hSta⟩ := id X
  have hl : lv_has ls 3 [(0, .ref (a 0)), (1, .int x1)] := hl
  unfold moM_oneItem at hm
  refine lv_iload_n hx hb dX8_oneItem_0 rfl (lv_at hl 1 rfl) ?_
  refine lv_iconst (v := 4) hx hb dX8_oneItem_1 (by decide) ?_
  refine lv_icmp_ne (tgt := 30) hx hb dX8_oneItem_2 (by decide) (fun c_1 => ?_) (fun c_1 => ?_)
  · have hm := (if_neg c_1).symm.trans hm
    refine lv_iload_n hx hb dX8_oneItem_30 rfl (lv_at hl 1 rfl) ?_
    refine lv_iconst (v := 5) hx hb dX8_oneItem_31 (by decide) ?_
    refine lv_icmp_ne (tgt := 64) hx hb dX8_oneItem_32 (by decide) (fun c_2 => ?_) (fun c_2 => ?_)
    · have hm := (if_neg c_2).symm.trans hm
      refine lv_iload_n hx hb dX8_oneItem_64 rfl (lv_at hl 1 rfl) ?_
      refine lv_bipush (v := 6) hx hb dX8_oneItem_65 (by decide) ?_
      refine lv_icmp_ne (tgt := 102) hx hb dX8_oneItem_67 (by decide) (fun c_3 => ?_) (fun c_3 => ?_)
      · have hm := (if_neg c_3).symm.trans hm
        refine lv_aload_n hx hb dX8_oneItem_102 rfl (lv_at hl 0 rfl) ?_
        obtain ⟨q_4, e_4, hm⟩ := bd1_s hm
        refine goV_v (n := 0) (C := RX8) X (cM_dayItem e_4) (gV kw957 kw959 ks_yX8_dayItem kw9 kw960) (by decide +kernel) ⟨by decide, by decide⟩ (rcM hK hP) hP (dM hD) hS rfl rfl hl.1 (Nat.le_of_ble_eq_true rfl) dX8_oneItem_103 ⟨Nat.le_refl _, Nat.le_refl _⟩ (fun H locs hP _ hS => ?_)
        exact ret_v (wf := wM G a) X hm hP hS dX8_oneItem_106
      · have hm := (if_pos c_3).symm.trans hm
        refine lv_aload_n hx hb dX8_oneItem_70 rfl (lv_at hl 0 rfl) ?_
        refine lv_sipush (v := (-366)) hx hb dX8_oneItem_71 (by decide) ?_
        refine lv_sipush (v := 366) hx hb dX8_oneItem_74 (by decide) ?_
        obtain ⟨r_5, q_5, e_5, hm⟩ := bd2_s hm
        refine goV_i (n := 2) (C := RX8) X (cM_number e_5) (gV kw938 kw940 ks_yX8_number kw9 kw941) (by decide +kernel) ⟨by decide, by decide⟩ (rcM hK hP) hP (dM hD) hS rfl rfl hl.1 (Nat.le_of_ble_eq_true rfl) dX8_oneItem_77 ⟨Nat.le_refl _, Nat.le_refl _⟩ (fun H locs hP _ hS => ?_)
        refine lv_istore_n (lv' := [(2, .int r_5), (0, .ref (a 0)), (1, .int x1)]) hx hb dX8_oneItem_80 rfl hl (by decide) rfl (fun ls hl => ?_)
        refine lv_aload_n hx hb dX8_oneItem_81 rfl (lv_at hl 1 rfl) ?_
        refine gM_fault X hP dX8_oneItem_82 ?_
        refine lv_if_ne (tgt := 99) hx hb dX8_oneItem_85 (by decide) (fun c_6 => ?_) (fun c_6 => ?_)
        · have hm := (if_neg c_6).symm.trans hm
          refine lv_goto (tgt := 106) hx hb dX8_oneItem_99 (by decide) ?_
          exact ret_v (wf := wM G a) X hm hP hS dX8_oneItem_106
        · have hm := (if_pos c_6).symm.trans hm
          refine lv_aload_n hx hb dX8_oneItem_88 rfl (lv_at hl 1 rfl) ?_
          refine gM_places X hP dX8_oneItem_89 ?_
          refine lv_sipush (v := 366) hx hb dX8_oneItem_92 (by decide) ?_
          refine lv_iload_n hx hb dX8_oneItem_95 rfl (lv_at hl 0 rfl) ?_
          refine lv_iadd hx hb dX8_oneItem_96 ?_
          refine lv_iconst (v := 1) hx hb dX8_oneItem_97 (by decide) ?_
          obtain ⟨hi_7, hm⟩ := gi_s hm
          refine stM_places X hP (dM hD) hS hi_7 dX8_oneItem_98 (fun H locs hP hS => ?_)
          refine lv_goto (tgt := 106) hx hb dX8_oneItem_99 (by decide) ?_
          exact ret_v (wf := wM G a) X hm hP hS dX8_oneItem_106
    · have hm := (if_pos c_2).symm.trans hm
      refine lv_aload_n hx hb dX8_oneItem_35 rfl (lv_at hl 0 rfl) ?_
      refine lv_bipush (v := (-31)) hx hb dX8_oneItem_36 (by decide) ?_
      refine lv_bipush (v := 31) hx hb dX8_oneItem_38 (by decide) ?_
      obtain ⟨r_8, q_8, e_8, hm⟩ := bd2_s hm
      refine goV_i (n := 2) (C := RX8) X (cM_number e_8) (gV kw938 kw940 ks_yX8_number kw9 kw941) (by decide +kernel) ⟨by decide, by decide⟩ (rcM hK hP) hP (dM hD) hS rfl rfl hl.1 (Nat.le_of_ble_eq_true rfl) dX8_oneItem_40 ⟨Nat.le_refl _, Nat.le_refl _⟩ (fun H locs hP _ hS => ?_)
      refine lv_istore_n (lv' := [(2, .int r_8), (0, .ref (a 0)), (1, .int x1)]) hx hb dX8_oneItem_43 rfl hl (by decide) rfl (fun ls hl => ?_)
      refine lv_aload_n hx hb dX8_oneItem_44 rfl (lv_at hl 1 rfl) ?_
      refine gM_fault X hP dX8_oneItem_45 ?_
      refine lv_if_ne (tgt := 61) hx hb dX8_oneItem_48 (by decide) (fun c_9 => ?_) (fun c_9 => ?_)
      · have hm := (if_neg c_9).symm.trans hm
        refine lv_goto (tgt := 106) hx hb dX8_oneItem_61 (by decide) ?_
        exact ret_v (wf := wM G a) X hm hP hS dX8_oneItem_106
      · have hm := (if_pos c_9).symm.trans hm
        refine lv_aload_n hx hb dX8_oneItem_51 rfl (lv_at hl 1 rfl) ?_
        refine gM_monthDays X hP dX8_oneItem_52 ?_
        refine lv_bipush (v := 31) hx hb dX8_oneItem_55 (by decide) ?_
        refine lv_iload_n hx hb dX8_oneItem_57 rfl (lv_at hl 0 rfl) ?_
        refine lv_iadd hx hb dX8_oneItem_58 ?_
        refine lv_iconst (v := 1) hx hb dX8_oneItem_59 (by decide) ?_
        obtain ⟨hi_10, hm⟩ := gi_s hm
        refine stM_monthDays X hP (dM hD) hS hi_10 dX8_oneItem_60 (fun H locs hP hS => ?_)
        refine lv_goto (tgt := 106) hx hb dX8_oneItem_61 (by decide) ?_
        exact ret_v (wf := wM G a) X hm hP hS dX8_oneItem_106
  · have hm := (if_pos c_1).symm.trans hm
    refine lv_aload_n hx hb dX8_oneItem_5 rfl (lv_at hl 0 rfl) ?_
    refine lv_iconst (v := 1) hx hb dX8_oneItem_6 (by decide) ?_
    refine lv_bipush (v := 12) hx hb dX8_oneItem_7 (by decide) ?_
    obtain ⟨r_11, q_11, e_11, hm⟩ := bd2_s hm
    refine goV_i (n := 2) (C := RX8) X (cM_number e_11) (gV kw938 kw940 ks_yX8_number kw9 kw941) (by decide +kernel) ⟨by decide, by decide⟩ (rcM hK hP) hP (dM hD) hS rfl rfl hl.1 (Nat.le_of_ble_eq_true rfl) dX8_oneItem_9 ⟨Nat.le_refl _, Nat.le_refl _⟩ (fun H locs hP _ hS => ?_)
    refine lv_istore_n (lv' := [(2, .int r_11), (0, .ref (a 0)), (1, .int x1)]) hx hb dX8_oneItem_12 rfl hl (by decide) rfl (fun ls hl => ?_)
    refine lv_aload_n hx hb dX8_oneItem_13 rfl (lv_at hl 1 rfl) ?_
    refine gM_fault X hP dX8_oneItem_14 ?_
    refine lv_if_ne (tgt := 27) hx hb dX8_oneItem_17 (by decide) (fun c_12 => ?_) (fun c_12 => ?_)
    · have hm := (if_neg c_12).symm.trans hm
      refine lv_goto (tgt := 106) hx hb dX8_oneItem_27 (by decide) ?_
      exact ret_v (wf := wM G a) X hm hP hS dX8_oneItem_106
    · have hm := (if_pos c_12).symm.trans hm
      refine lv_aload_n hx hb dX8_oneItem_20 rfl (lv_at hl 1 rfl) ?_
      refine gM_months X hP dX8_oneItem_21 ?_
      refine lv_iload_n hx hb dX8_oneItem_24 rfl (lv_at hl 0 rfl) ?_
      refine lv_iconst (v := 1) hx hb dX8_oneItem_25 (by decide) ?_
      obtain ⟨hi_13, hm⟩ := gi_s hm
      refine stM_months X hP (dM hD) hS hi_13 dX8_oneItem_26 (fun H locs hP hS => ?_)
      refine lv_goto (tgt := 106) hx hb dX8_oneItem_27 (by decide) ?_
      exact ret_v (wf := wM G a) X hm hP hS dX8_oneItem_106
