-- RuledCalendar$Reader.readNumber
def moQ4_readNumber_L69 {α : Type} (n : Nat) (K0 : Nat → Int32 → Int32 → Int32 → Int32 → Pc4 → Option α) : Nat → Nat → Int32 → Int32 → Int32 → Int32 → Int32 → Pc4 → Option α
  | 0, _, _, _, _, _, _, _ => none
  | k + 1, x1, x2, x3, x4, x5, x6, q => (if 200 ≤ x6 then (K0 x1 x2 x3 x4 x5 q) else (bd1 (moQ4_seesFigure n q) fun r_5 => (if r_5 = 0 then (K0 x1 x2 x3 x4 x5 q) else (ge (r4I q 0) 1 (gi (r4S q 12) 200 (moQ4_readNumber_L69 n K0 k x1 x2 x3 x4 (minI 100000000 (((x5 * 10) + (r4A q 1 (r4S q 12))) - 48)) (x6 + 1) (s4S q 12 ((r4S q 12) + 1))))))))
def moQ4_readNumber_B125 (n : Nat) (x1 : Nat) (x2 : Int32) (x3 : Int32) (x4 : Int32) (x5 : Int32) (q : Pc4) : Option (Int32 × Pc4) :=
  (if (r4S q 12) = x4 then (bd1 (moQ4_fail n 1 (r4S q 12) q) fun q_20 => (if x3 = 0 then (gl x1 8 (bd1 (moQ3_allows n x1 x5) fun r_22 => (if r_22 = 0 then (bd1 (moQ4_fail n 2 x2 q_20) fun q_25 => (some (x5, q_25))) else (some (x5, q_20))))) else (gl x1 8 (bd1 (moQ3_allows n x1 (-x5)) fun r_26 => (if r_26 = 0 then (bd1 (moQ4_fail n 2 x2 q_20) fun q_29 => (some ((-x5), q_29))) else (some ((-x5), q_20))))))) else (if x3 = 0 then (gl x1 8 (bd1 (moQ3_allows n x1 x5) fun r_12 => (if r_12 = 0 then (bd1 (moQ4_fail n 2 x2 q) fun q_15 => (some (x5, q_15))) else (some (x5, q))))) else (gl x1 8 (bd1 (moQ3_allows n x1 (-x5)) fun r_16 => (if r_16 = 0 then (bd1 (moQ4_fail n 2 x2 q) fun q_19 => (some ((-x5), q_19))) else (some ((-x5), q)))))))
def moQ4_readNumber_B47 (n : Nat) (x1 : Nat) (x2 : Int32) (x3 : Int32) (q : Pc4) : Option (Int32 × Pc4) :=
  (moQ4_readNumber_L69 n (fun z9_1 z9_2 z9_3 z9_4 z9_5 q_9 => (moQ4_readNumber_B125 n z9_1 z9_2 z9_3 z9_4 z9_5 q_9)) n x1 x2 x3 (r4S (s4S q 12 ((r4S q 12) + 1)) 12) 0 0 (s4S q 12 ((r4S q 12) + 1)))
def moQ4_readNumber_B26 (n : Nat) (x1 : Nat) (x2 : Int32) (t0 : Int32) (q : Pc4) : Option (Int32 × Pc4) :=
  (if t0 = 0 then (gl x1 8 (if 0 ≤ (plow x1) then (moQ4_readNumber_L69 n (fun z32_1 z32_2 z32_3 z32_4 z32_5 q_32 => (moQ4_readNumber_B125 n z32_1 z32_2 z32_3 z32_4 z32_5 q_32)) n x1 x2 t0 (r4S q 12) 0 0 q) else (bd1 (moQ4_sees n 43 q) fun r_33 => (if r_33 = 0 then (moQ4_readNumber_L69 n (fun z35_1 z35_2 z35_3 z35_4 z35_5 q_35 => (moQ4_readNumber_B125 n z35_1 z35_2 z35_3 z35_4 z35_5 q_35)) n x1 x2 t0 (r4S q 12) 0 0 q) else (moQ4_readNumber_B47 n x1 x2 t0 q))))) else (moQ4_readNumber_B47 n x1 x2 t0 q))
def moQ4_readNumber (n : Nat) (x1 : Nat) (q : Pc4) : Option (Int32 × Pc4) :=
  (gl x1 8 (if 0 ≤ (plow x1) then (moQ4_readNumber_B26 n x1 (r4S q 12) 0 q) else (bd1 (moQ4_sees n 45 q) fun r_36 => (if r_36 = 0 then (moQ4_readNumber_B26 n x1 (r4S q 12) 0 q) else (moQ4_readNumber_B26 n x1 (r4S q 12) 1 q)))))
set_option maxHeartbeats 4000000 in
set_option maxRecDepth 100000 in
theorem lpQ4_readNumber_69 {p : Program} {l : Launch} {e : Env} {s : State} {m : MethodId} {args : Array Value} {below : List Frame} {meth : Method} {c : Code} {G : Ev} {a : Nat → Nat} {T : va_W} {Q : State → Prop} {A : Nat → Prop} {q0 : Pc4} (X : CX p s m args meth c cX4_readNumber 7 (some .int) RX4 (.code yX4_readNumber cX4_readNumber 7 (some .int)) G A) (hD : va_D A (wC G a T q0)) {α : Type} {o : α} {n : Nat} {K0 : Nat → Int32 → Int32 → Int32 → Int32 → Pc4 → Option α} (h0 : ∀ (y1 : Nat) (y2 : Int32) (y3 : Int32) (y4 : Int32) (y5 : Int32) (q : Pc4) (H : Heap) (locs : List Loc) (ls : Array Slot), K0 y1 y2 y3 y4 y5 q = some o → va_P (DD G) vwCl (wC G a T q) H → va_S A s.heap H locs → lv_has ls 7 [(0, .ref (a 8)), (1, .ref (sa G (10 + y1))), (2, .int y2), (3, .int y3), (4, .int y4), (5, .int y5)] → W p l e { frames := 1, cells := 0, slots := 0, locals := 22 } s m args below meth c H locs 0 0 Q (F0 m 125 ls [])) : ∀ (k : Nat) (x1 : Nat) (x2 : Int32) (x3 : Int32) (x4 : Int32) (x5 : Int32) (x6 : Int32) (q : Pc4) (H : Heap) (locs : List Loc) (ls : Array Slot), moQ4_readNumber_L69 n K0 k x1 x2 x3 x4 x5 x6 q = some o → va_P (DD G) vwCl (wC G a T q) H → va_S A s.heap H locs → lv_has ls 7 [(0, .ref (a 8)), (1, .ref (sa G (10 + x1))), (2, .int x2), (3, .int x3), (4, .int x4), (5, .int x5), (6, .int x6)] → W p l e { frames := 1, cells := 0, slots := 0, locals := 22 } s m args below meth c H locs 0 0 Q (F0 m 69 ls []) := by
  obtain ⟨⟨hx, hb, hml, hown, hts⟩, hK, hr, hlk, hA, hAs, hSta⟩ := id X
  intro k
  induction k with
  | zero =>
    intro x1 x2 x3 x4 x5 x6 q H locs ls hm
    have hm : none = some o := hm
    cases hm
  | succ k ih =>
    intro x1 x2 x3 x4 x5 x6 q H locs ls hm hP hS hl
    rw [moQ4_readNumber_L69] at hm
    refine lv_iload hx hb dX4_readNumber_69 (lv_at hl 6 rfl) ?_
    refine lv_sipush (v := 200) hx hb dX4_readNumber_71 (by decide) ?_
    refine lv_icmp_ge (tgt := 125) hx hb dX4_readNumber_74 (by decide) (fun c_4 => ?_) (fun c_4 => ?_)
    · have hm := (if_pos c_4).symm.trans hm
      exact h0 _ _ _ _ _ _ _ _ _ hm hP hS (lv_sub hl [0, 1, 2, 3, 4, 5] rfl)
    · have hm := (if_neg c_4).symm.trans hm
      refine lv_aload_n hx hb dX4_readNumber_77 rfl (lv_at hl 0 rfl) ?_
      obtain ⟨r_5, e_5, hm⟩ := bd1_s hm
      refine goV_i (n := 0) (C := RX4) X (cQ4_seesFigure e_5) (gV kw436 kw438 ks_yX4_seesFigure kw7 kw439) (by decide +kernel) ⟨by decide, by decide⟩ (rc_reader hK hP) hP (dC (q1 := q) hD) hS rfl rfl hl.1 (Nat.le_of_ble_eq_true rfl) dX4_readNumber_78 ⟨Nat.le_refl _, Nat.le_refl _⟩ (fun H locs hP _ hS => ?_)
      refine lv_if_eq (tgt := 125) hx hb dX4_readNumber_81 (by decide) (fun c_6 => ?_) (fun c_6 => ?_)
      · have hm := (if_pos c_6).symm.trans hm
        exact h0 _ _ _ _ _ _ _ _ _ hm hP hS (lv_sub hl [0, 1, 2, 3, 4, 5] rfl)
      · have hm := (if_neg c_6).symm.trans hm
        refine lv_ldc (v := 100000000) hx hb hown (hts _ (List.mem_cons_of_mem _ kw444)) dX4_readNumber_84 ?_
        refine lv_iload hx hb dX4_readNumber_86 (lv_at hl 5 rfl) ?_
        refine lv_bipush (v := 10) hx hb dX4_readNumber_88 (by decide) ?_
        refine lv_imul hx hb dX4_readNumber_90 ?_
        refine lv_aload_n hx hb dX4_readNumber_91 rfl (lv_at hl 0 rfl) ?_
        refine gC_reader_text X kw135 hP dX4_readNumber_92 ?_
        refine lv_aload_n hx hb dX4_readNumber_95 rfl (lv_at hl 0 rfl) ?_
        refine gC_reader_at X kw137 hP dX4_readNumber_96 ?_
        obtain ⟨hx_8, hm⟩ := ge_s hm
        obtain ⟨hi_7, hm⟩ := gi_s hm
        refine ldC_textx X hx_8 hP hi_7 dX4_readNumber_99 ?_
        refine lv_iadd hx hb dX4_readNumber_100 ?_
        refine lv_bipush (v := 48) hx hb dX4_readNumber_101 (by decide) ?_
        refine lv_isub hx hb dX4_readNumber_103 ?_
        refine va_mmin hx hb (by rw [hml]; exact hl.1.symm) hown (hts _ (List.mem_cons_of_mem _ kw328)) (hts _ (List.mem_cons_of_mem _ kw329)) (hts _ (List.mem_cons_of_mem _ kw14)) (hts _ (List.mem_cons_of_mem _ kMin)) (by decide) (Nat.le_of_ble_eq_true rfl) (Nat.le_refl _) (Nat.le_refl _) dX4_readNumber_104 ?_
        refine lv_istore (lv' := [(5, .int (minI 100000000 (((x5 * 10) + (r4A q 1 (r4S q 12))) - 48))), (0, .ref (a 8)), (1, .ref (sa G (10 + x1))), (2, .int x2), (3, .int x3), (4, .int x4), (6, .int x6)]) hx hb dX4_readNumber_107 hl (by decide) rfl (fun ls hl => ?_)
        refine lv_aload_n hx hb dX4_readNumber_109 rfl (lv_at hl 1 rfl) ?_
        refine lv_dup hx hb dX4_readNumber_110 rfl ?_
        refine gC_reader_at X kw137 hP dX4_readNumber_111 ?_
        refine lv_iconst (v := 1) hx hb dX4_readNumber_114 (by decide) ?_
        refine lv_iadd hx hb dX4_readNumber_115 ?_
        refine pC_reader_at X kw137 hP (dC (q1 := q) hD) hS dX4_readNumber_116 (fun H locs hP hS => ?_)
        have hP : va_P (DD G) vwCl (wC G a T (s4S q 12 ((r4S q 12) + 1))) H := hP
        refine lv_iinc (v := (x6 + 1)) (lv' := [(6, .int (x6 + 1)), (5, .int (minI 100000000 (((x5 * 10) + (r4A q 1 (r4S q 12))) - 48))), (0, .ref (a 8)), (1, .ref (sa G (10 + x1))), (2, .int x2), (3, .int x3), (4, .int x4)]) hx hb dX4_readNumber_119 hl (k := 6) rfl (by first | rfl | decide) (by decide) rfl (fun ls hl => ?_)
        refine lv_goto (tgt := 69) hx hb dX4_readNumber_122 (by decide) ?_
        exact ih _ _ _ _ _ _ _ _ _ _ hm hP hS (lv_sub hl [2, 3, 4, 5, 6, 1, 0] rfl)
set_option maxHeartbeats 4000000 in
set_option maxRecDepth 100000 in
theorem bkQ4_readNumber_125 {p : Program} {l : Launch} {e : Env} {s : State} {m : MethodId} {args : Array Value} {below : List Frame} {meth : Method} {c : Code} {G : Ev} {a : Nat → Nat} {T : va_W}  {q0 : Pc4} {L : List Nat} {r : Int32} {q' : Pc4} {n : Nat} {x1 : Nat} {x2 : Int32} {x3 : Int32} {x4 : Int32} {x5 : Int32} {q : Pc4} {H : Heap} {locs : List Loc} {ls : Array Slot} (X : CX p s m args meth c cX4_readNumber 7 (some .int) RX4 (.code yX4_readNumber cX4_readNumber 7 (some .int)) G (AL L s.heap.size)) (hD : va_D (AL L s.heap.size) (wC G a T q0)) (hm : moQ4_readNumber_B125 n x1 x2 x3 x4 x5 q = some (r, q')) (hP : va_P (DD G) vwCl (wC G a T q) H) (hS : va_S (AL L s.heap.size) s.heap H locs) (hl : lv_has ls 7 [(0, .ref (a 8)), (1, .ref (sa G (10 + x1))), (2, .int x2), (3, .int x3), (4, .int x4), (5, .int x5)]) : W p l e { frames := 1, cells := 0, slots := 0, locals := 22 } s m args below meth c H locs 0 0 (MQ below (va_Qi (fun r' (_ : Unit) => r' = r) (fun _ t => va_P (DD G) vwCl (wC G a T q') t.heap) (AL L s.heap.size)) args s 0 0 (AL L s.heap.size)) (F0 m 125 ls []) := by
  obtain ⟨⟨hx, hb, hml, hown, hts⟩, hK, hr, hlk, hA, hAs, hSta⟩ := id X
  unfold moQ4_readNumber_B125 at hm
  refine lv_aload_n hx hb dX4_readNumber_125 rfl (lv_at hl 0 rfl) ?_
  refine gC_reader_at X kw137 hP dX4_readNumber_126 ?_
  refine lv_iload hx hb dX4_readNumber_129 (lv_at hl 4 rfl) ?_
  refine lv_icmp_ne (tgt := 143) hx hb dX4_readNumber_131 (by decide) (fun c_10 => ?_) (fun c_10 => ?_)
  · have hm := (if_neg c_10).symm.trans hm
    refine lv_iload_n hx hb dX4_readNumber_143 rfl (lv_at hl 3 rfl) ?_
    refine lv_if_eq (tgt := 153) hx hb dX4_readNumber_144 (by decide) (fun c_11 => ?_) (fun c_11 => ?_)
    · have hm := (if_pos c_11).symm.trans hm
      refine lv_iload hx hb dX4_readNumber_153 (lv_at hl 5 rfl) ?_
      refine lv_istore (lv' := [(6, .int x5), (0, .ref (a 8)), (1, .ref (sa G (10 + x1))), (2, .int x2), (3, .int x3), (4, .int x4), (5, .int x5)]) hx hb dX4_readNumber_155 hl (by decide) rfl (fun ls hl => ?_)
      refine lv_aload_n hx hb dX4_readNumber_157 rfl (lv_at hl 2 rfl) ?_
      refine lv_iload hx hb dX4_readNumber_158 (lv_at hl 0 rfl) ?_
      obtain ⟨hg_13, hm⟩ := gl_s hm
      obtain ⟨r_12, e_12, hm⟩ := bd1_s hm
      refine goV_i (n := 1) (C := RX3) X (cQ3_allows e_12) (gV kw445 kw446 kw447 kw19 kw448) (by decide +kernel) ⟨by decide, by decide⟩ (rcO (oP X hg_13) hS) va_nil va_dnil hS rfl rfl hl.1 (Nat.le_of_ble_eq_true rfl) dX4_readNumber_160 ⟨Nat.le_refl _, Nat.le_refl _⟩ (fun H locs _ hk hS => ?_)
      have hP := va_keep hP hk
      refine lv_if_ne (tgt := 172) hx hb dX4_readNumber_163 (by decide) (fun c_14 => ?_) (fun c_14 => ?_)
      · have hm := (if_neg c_14).symm.trans hm
        refine lv_iload hx hb dX4_readNumber_172 (lv_at hl 0 rfl) ?_
        exact ret_i (wf := wC G a T) X hm hP hS dX4_readNumber_174
      · have hm := (if_pos c_14).symm.trans hm
        refine lv_aload_n hx hb dX4_readNumber_166 rfl (lv_at hl 1 rfl) ?_
        refine lv_iconst (v := 2) hx hb dX4_readNumber_167 (by decide) ?_
        refine lv_iload_n hx hb dX4_readNumber_168 rfl (lv_at hl 3 rfl) ?_
        obtain ⟨q_15, e_15, hm⟩ := bd1_s hm
        refine goV_v (n := 2) (C := RX4) X (cQ4_fail e_15) (gV kw344 kw346 ks_yX4_fail kw7 kw347) (by decide +kernel) ⟨by decide, by decide⟩ (rc_reader hK hP) hP (dC (q1 := q) hD) hS rfl rfl hl.1 (Nat.le_of_ble_eq_true rfl) dX4_readNumber_169 ⟨Nat.le_refl _, Nat.le_refl _⟩ (fun H locs hP _ hS => ?_)
        refine lv_iload hx hb dX4_readNumber_172 (lv_at hl 0 rfl) ?_
        exact ret_i (wf := wC G a T) X hm hP hS dX4_readNumber_174
    · have hm := (if_neg c_11).symm.trans hm
      refine lv_iload hx hb dX4_readNumber_147 (lv_at hl 5 rfl) ?_
      refine lv_ineg hx hb dX4_readNumber_149 ?_
      refine lv_goto (tgt := 155) hx hb dX4_readNumber_150 (by decide) ?_
      refine lv_istore (lv' := [(6, .int (-x5)), (0, .ref (a 8)), (1, .ref (sa G (10 + x1))), (2, .int x2), (3, .int x3), (4, .int x4), (5, .int x5)]) hx hb dX4_readNumber_155 hl (by decide) rfl (fun ls hl => ?_)
      refine lv_aload_n hx hb dX4_readNumber_157 rfl (lv_at hl 2 rfl) ?_
      refine lv_iload hx hb dX4_readNumber_158 (lv_at hl 0 rfl) ?_
      obtain ⟨hg_17, hm⟩ := gl_s hm
      obtain ⟨r_16, e_16, hm⟩ := bd1_s hm
      refine goV_i (n := 1) (C := RX3) X (cQ3_allows e_16) (gV kw445 kw446 kw447 kw19 kw448) (by decide +kernel) ⟨by decide, by decide⟩ (rcO (oP X hg_17) hS) va_nil va_dnil hS rfl rfl hl.1 (Nat.le_of_ble_eq_true rfl) dX4_readNumber_160 ⟨Nat.le_refl _, Nat.le_refl _⟩ (fun H locs _ hk hS => ?_)
      have hP := va_keep hP hk
      refine lv_if_ne (tgt := 172) hx hb dX4_readNumber_163 (by decide) (fun c_18 => ?_) (fun c_18 => ?_)
      · have hm := (if_neg c_18).symm.trans hm
        refine lv_iload hx hb dX4_readNumber_172 (lv_at hl 0 rfl) ?_
        exact ret_i (wf := wC G a T) X hm hP hS dX4_readNumber_174
      · have hm := (if_pos c_18).symm.trans hm
        refine lv_aload_n hx hb dX4_readNumber_166 rfl (lv_at hl 1 rfl) ?_
        refine lv_iconst (v := 2) hx hb dX4_readNumber_167 (by decide) ?_
        refine lv_iload_n hx hb dX4_readNumber_168 rfl (lv_at hl 3 rfl) ?_
        obtain ⟨q_19, e_19, hm⟩ := bd1_s hm
        refine goV_v (n := 2) (C := RX4) X (cQ4_fail e_19) (gV kw344 kw346 ks_yX4_fail kw7 kw347) (by decide +kernel) ⟨by decide, by decide⟩ (rc_reader hK hP) hP (dC (q1 := q) hD) hS rfl rfl hl.1 (Nat.le_of_ble_eq_true rfl) dX4_readNumber_169 ⟨Nat.le_refl _, Nat.le_refl _⟩ (fun H locs hP _ hS => ?_)
        refine lv_iload hx hb dX4_readNumber_172 (lv_at hl 0 rfl) ?_
        exact ret_i (wf := wC G a T) X hm hP hS dX4_readNumber_174
  · have hm := (if_pos c_10).symm.trans hm
    refine lv_aload_n hx hb dX4_readNumber_134 rfl (lv_at hl 0 rfl) ?_
    refine lv_iconst (v := 1) hx hb dX4_readNumber_135 (by decide) ?_
    refine lv_aload_n hx hb dX4_readNumber_136 rfl (lv_at hl 0 rfl) ?_
    refine gC_reader_at X kw137 hP dX4_readNumber_137 ?_
    obtain ⟨q_20, e_20, hm⟩ := bd1_s hm
    refine goV_v (n := 2) (C := RX4) X (cQ4_fail e_20) (gV kw344 kw346 ks_yX4_fail kw7 kw347) (by decide +kernel) ⟨by decide, by decide⟩ (rc_reader hK hP) hP (dC (q1 := q) hD) hS rfl rfl hl.1 (Nat.le_of_ble_eq_true rfl) dX4_readNumber_140 ⟨Nat.le_refl _, Nat.le_refl _⟩ (fun H locs hP _ hS => ?_)
    refine lv_iload_n hx hb dX4_readNumber_143 rfl (lv_at hl 3 rfl) ?_
    refine lv_if_eq (tgt := 153) hx hb dX4_readNumber_144 (by decide) (fun c_21 => ?_) (fun c_21 => ?_)
    · have hm := (if_pos c_21).symm.trans hm
      refine lv_iload hx hb dX4_readNumber_153 (lv_at hl 5 rfl) ?_
      refine lv_istore (lv' := [(6, .int x5), (0, .ref (a 8)), (1, .ref (sa G (10 + x1))), (2, .int x2), (3, .int x3), (4, .int x4), (5, .int x5)]) hx hb dX4_readNumber_155 hl (by decide) rfl (fun ls hl => ?_)
      refine lv_aload_n hx hb dX4_readNumber_157 rfl (lv_at hl 2 rfl) ?_
      refine lv_iload hx hb dX4_readNumber_158 (lv_at hl 0 rfl) ?_
      obtain ⟨hg_23, hm⟩ := gl_s hm
      obtain ⟨r_22, e_22, hm⟩ := bd1_s hm
      refine goV_i (n := 1) (C := RX3) X (cQ3_allows e_22) (gV kw445 kw446 kw447 kw19 kw448) (by decide +kernel) ⟨by decide, by decide⟩ (rcO (oP X hg_23) hS) va_nil va_dnil hS rfl rfl hl.1 (Nat.le_of_ble_eq_true rfl) dX4_readNumber_160 ⟨Nat.le_refl _, Nat.le_refl _⟩ (fun H locs _ hk hS => ?_)
      have hP := va_keep hP hk
      refine lv_if_ne (tgt := 172) hx hb dX4_readNumber_163 (by decide) (fun c_24 => ?_) (fun c_24 => ?_)
      · have hm := (if_neg c_24).symm.trans hm
        refine lv_iload hx hb dX4_readNumber_172 (lv_at hl 0 rfl) ?_
        exact ret_i (wf := wC G a T) X hm hP hS dX4_readNumber_174
      · have hm := (if_pos c_24).symm.trans hm
        refine lv_aload_n hx hb dX4_readNumber_166 rfl (lv_at hl 1 rfl) ?_
        refine lv_iconst (v := 2) hx hb dX4_readNumber_167 (by decide) ?_
        refine lv_iload_n hx hb dX4_readNumber_168 rfl (lv_at hl 3 rfl) ?_
        obtain ⟨q_25, e_25, hm⟩ := bd1_s hm
        refine goV_v (n := 2) (C := RX4) X (cQ4_fail e_25) (gV kw344 kw346 ks_yX4_fail kw7 kw347) (by decide +kernel) ⟨by decide, by decide⟩ (rc_reader hK hP) hP (dC (q1 := q_20) hD) hS rfl rfl hl.1 (Nat.le_of_ble_eq_true rfl) dX4_readNumber_169 ⟨Nat.le_refl _, Nat.le_refl _⟩ (fun H locs hP _ hS => ?_)
        refine lv_iload hx hb dX4_readNumber_172 (lv_at hl 0 rfl) ?_
        exact ret_i (wf := wC G a T) X hm hP hS dX4_readNumber_174
    · have hm := (if_neg c_21).symm.trans hm
      refine lv_iload hx hb dX4_readNumber_147 (lv_at hl 5 rfl) ?_
      refine lv_ineg hx hb dX4_readNumber_149 ?_
      refine lv_goto (tgt := 155) hx hb dX4_readNumber_150 (by decide) ?_
      refine lv_istore (lv' := [(6, .int (-x5)), (0, .ref (a 8)), (1, .ref (sa G (10 + x1))), (2, .int x2), (3, .int x3), (4, .int x4), (5, .int x5)]) hx hb dX4_readNumber_155 hl (by decide) rfl (fun ls hl => ?_)
      refine lv_aload_n hx hb dX4_readNumber_157 rfl (lv_at hl 2 rfl) ?_
      refine lv_iload hx hb dX4_readNumber_158 (lv_at hl 0 rfl) ?_
      obtain ⟨hg_27, hm⟩ := gl_s hm
      obtain ⟨r_26, e_26, hm⟩ := bd1_s hm
      refine goV_i (n := 1) (C := RX3) X (cQ3_allows e_26) (gV kw445 kw446 kw447 kw19 kw448) (by decide +kernel) ⟨by decide, by decide⟩ (rcO (oP X hg_27) hS) va_nil va_dnil hS rfl rfl hl.1 (Nat.le_of_ble_eq_true rfl) dX4_readNumber_160 ⟨Nat.le_refl _, Nat.le_refl _⟩ (fun H locs _ hk hS => ?_)
      have hP := va_keep hP hk
      refine lv_if_ne (tgt := 172) hx hb dX4_readNumber_163 (by decide) (fun c_28 => ?_) (fun c_28 => ?_)
      · have hm := (if_neg c_28).symm.trans hm
        refine lv_iload hx hb dX4_readNumber_172 (lv_at hl 0 rfl) ?_
        exact ret_i (wf := wC G a T) X hm hP hS dX4_readNumber_174
      · have hm := (if_pos c_28).symm.trans hm
        refine lv_aload_n hx hb dX4_readNumber_166 rfl (lv_at hl 1 rfl) ?_
        refine lv_iconst (v := 2) hx hb dX4_readNumber_167 (by decide) ?_
        refine lv_iload_n hx hb dX4_readNumber_168 rfl (lv_at hl 3 rfl) ?_
        obtain ⟨q_29, e_29, hm⟩ := bd1_s hm
        refine goV_v (n := 2) (C := RX4) X (cQ4_fail e_29) (gV kw344 kw346 ks_yX4_fail kw7 kw347) (by decide +kernel) ⟨by decide, by decide⟩ (rc_reader hK hP) hP (dC (q1 := q_20) hD) hS rfl rfl hl.1 (Nat.le_of_ble_eq_true rfl) dX4_readNumber_169 ⟨Nat.le_refl _, Nat.le_refl _⟩ (fun H locs hP _ hS => ?_)
        refine lv_iload hx hb dX4_readNumber_172 (lv_at hl 0 rfl) ?_
        exact ret_i (wf := wC G a T) X hm hP hS dX4_readNumber_174
set_option maxHeartbeats 4000000 in
set_option maxRecDepth 100000 in
theorem bkQ4_readNumber_47 {p : Program} {l : Launch} {e : Env} {s : State} {m : MethodId} {args : Array Value} {below : List Frame} {meth : Method} {c : Code} {G : Ev} {a : Nat → Nat} {T : va_W}  {q0 : Pc4} {L : List Nat} {r : Int32} {q' : Pc4} {n : Nat} {x1 : Nat} {x2 : Int32} {x3 : Int32} {q : Pc4} {H : Heap} {locs : List Loc} {ls : Array Slot} (X : CX p s m args meth c cX4_readNumber 7 (some .int) RX4 (.code yX4_readNumber cX4_readNumber 7 (some .int)) G (AL L s.heap.size)) (hD : va_D (AL L s.heap.size) (wC G a T q0)) (hm : moQ4_readNumber_B47 n x1 x2 x3 q = some (r, q')) (hP : va_P (DD G) vwCl (wC G a T q) H) (hS : va_S (AL L s.heap.size) s.heap H locs) (hl : lv_has ls 7 [(0, .ref (a 8)), (1, .ref (sa G (10 + x1))), (2, .int x2), (3, .int x3)]) : W p l e { frames := 1, cells := 0, slots := 0, locals := 22 } s m args below meth c H locs 0 0 (MQ below (va_Qi (fun r' (_ : Unit) => r' = r) (fun _ t => va_P (DD G) vwCl (wC G a T q') t.heap) (AL L s.heap.size)) args s 0 0 (AL L s.heap.size)) (F0 m 47 ls []) := by
  obtain ⟨⟨hx, hb, hml, hown, hts⟩, hK, hr, hlk, hA, hAs, hSta⟩ := id X
  unfold moQ4_readNumber_B47 at hm
  refine lv_aload_n hx hb dX4_readNumber_47 rfl (lv_at hl 0 rfl) ?_
  refine lv_dup hx hb dX4_readNumber_48 rfl ?_
  refine gC_reader_at X kw137 hP dX4_readNumber_49 ?_
  refine lv_iconst (v := 1) hx hb dX4_readNumber_52 (by decide) ?_
  refine lv_iadd hx hb dX4_readNumber_53 ?_
  refine pC_reader_at X kw137 hP (dC (q1 := q) hD) hS dX4_readNumber_54 (fun H locs hP hS => ?_)
  have hP : va_P (DD G) vwCl (wC G a T (s4S q 12 ((r4S q 12) + 1))) H := hP
  refine lv_aload_n hx hb dX4_readNumber_57 rfl (lv_at hl 0 rfl) ?_
  refine gC_reader_at X kw137 hP dX4_readNumber_58 ?_
  refine lv_istore (lv' := [(4, .int (r4S (s4S q 12 ((r4S q 12) + 1)) 12)), (0, .ref (a 8)), (1, .ref (sa G (10 + x1))), (2, .int x2), (3, .int x3)]) hx hb dX4_readNumber_61 hl (by decide) rfl (fun ls hl => ?_)
  refine lv_iconst (v := 0) hx hb dX4_readNumber_63 (by decide) ?_
  refine lv_istore (lv' := [(5, .int 0), (4, .int (r4S (s4S q 12 ((r4S q 12) + 1)) 12)), (0, .ref (a 8)), (1, .ref (sa G (10 + x1))), (2, .int x2), (3, .int x3)]) hx hb dX4_readNumber_64 hl (by decide) rfl (fun ls hl => ?_)
  refine lv_iconst (v := 0) hx hb dX4_readNumber_66 (by decide) ?_
  refine lv_istore (lv' := [(6, .int 0), (5, .int 0), (4, .int (r4S (s4S q 12 ((r4S q 12) + 1)) 12)), (0, .ref (a 8)), (1, .ref (sa G (10 + x1))), (2, .int x2), (3, .int x3)]) hx hb dX4_readNumber_67 hl (by decide) rfl (fun ls hl => ?_)
  refine lpQ4_readNumber_69 X hD (fun z9_1 z9_2 z9_3 z9_4 z9_5 q_9 H locs ls hm hP hS hl => ?_) n _ _ _ _ _ _ _ _ _ _ hm hP hS (lv_sub hl [3, 4, 5, 6, 2, 1, 0] rfl)
  exact bkQ4_readNumber_125 X hD hm hP hS (lv_sub hl [0, 1, 2, 3, 4, 5] rfl)
set_option maxHeartbeats 4000000 in
set_option maxRecDepth 100000 in
theorem bkQ4_readNumber_26 {p : Program} {l : Launch} {e : Env} {s : State} {m : MethodId} {args : Array Value} {below : List Frame} {meth : Method} {c : Code} {G : Ev} {a : Nat → Nat} {T : va_W}  {q0 : Pc4} {L : List Nat} {r : Int32} {q' : Pc4} {n : Nat} {x1 : Nat} {x2 : Int32} {t0 : Int32} {q : Pc4} {H : Heap} {locs : List Loc} {ls : Array Slot} (X : CX p s m args meth c cX4_readNumber 7 (some .int) RX4 (.code yX4_readNumber cX4_readNumber 7 (some .int)) G (AL L s.heap.size)) (hD : va_D (AL L s.heap.size) (wC G a T q0)) (hm : moQ4_readNumber_B26 n x1 x2 t0 q = some (r, q')) (hP : va_P (DD G) vwCl (wC G a T q) H) (hS : va_S (AL L s.heap.size) s.heap H locs) (hl : lv_has ls 7 [(0, .ref (a 8)), (1, .ref (sa G (10 + x1))), (2, .int x2)]) : W p l e { frames := 1, cells := 0, slots := 0, locals := 22 } s m args below meth c H locs 0 0 (MQ below (va_Qi (fun r' (_ : Unit) => r' = r) (fun _ t => va_P (DD G) vwCl (wC G a T q') t.heap) (AL L s.heap.size)) args s 0 0 (AL L s.heap.size)) (F0 m 26 ls [.int t0]) := by
  obtain ⟨⟨hx, hb, hml, hown, hts⟩, hK, hr, hlk, hA, hAs, hSta⟩ := id X
  unfold moQ4_readNumber_B26 at hm
  refine lv_istore_n (lv' := [(3, .int t0), (0, .ref (a 8)), (1, .ref (sa G (10 + x1))), (2, .int x2)]) hx hb dX4_readNumber_26 rfl hl (by decide) rfl (fun ls hl => ?_)
  refine lv_iload_n hx hb dX4_readNumber_27 rfl (lv_at hl 0 rfl) ?_
  refine lv_if_ne (tgt := 47) hx hb dX4_readNumber_28 (by decide) (fun c_3 => ?_) (fun c_3 => ?_)
  · have hm := (if_neg c_3).symm.trans hm
    exact bkQ4_readNumber_47 X hD hm hP hS (lv_sub hl [1, 2, 3, 0] rfl)
  · have hm := (if_pos c_3).symm.trans hm
    refine lv_aload_n hx hb dX4_readNumber_31 rfl (lv_at hl 2 rfl) ?_
    obtain ⟨hg_30, hm⟩ := gl_s hm
    refine vk_getf hx hb (fP_low X hg_30) hS hown (hts _ (List.mem_cons_of_mem _ kw1078)) (fun _ h => h) dX4_readNumber_32 ?_
    refine lv_if_ge (tgt := 57) hx hb dX4_readNumber_35 (by decide) (fun c_31 => ?_) (fun c_31 => ?_)
    · have hm := (if_pos c_31).symm.trans hm
      refine lv_aload_n hx hb dX4_readNumber_57 rfl (lv_at hl 1 rfl) ?_
      refine gC_reader_at X kw137 hP dX4_readNumber_58 ?_
      refine lv_istore (lv' := [(4, .int (r4S q 12)), (3, .int t0), (0, .ref (a 8)), (1, .ref (sa G (10 + x1))), (2, .int x2)]) hx hb dX4_readNumber_61 hl (by decide) rfl (fun ls hl => ?_)
      refine lv_iconst (v := 0) hx hb dX4_readNumber_63 (by decide) ?_
      refine lv_istore (lv' := [(5, .int 0), (4, .int (r4S q 12)), (3, .int t0), (0, .ref (a 8)), (1, .ref (sa G (10 + x1))), (2, .int x2)]) hx hb dX4_readNumber_64 hl (by decide) rfl (fun ls hl => ?_)
      refine lv_iconst (v := 0) hx hb dX4_readNumber_66 (by decide) ?_
      refine lv_istore (lv' := [(6, .int 0), (5, .int 0), (4, .int (r4S q 12)), (3, .int t0), (0, .ref (a 8)), (1, .ref (sa G (10 + x1))), (2, .int x2)]) hx hb dX4_readNumber_67 hl (by decide) rfl (fun ls hl => ?_)
      refine lpQ4_readNumber_69 X hD (fun z32_1 z32_2 z32_3 z32_4 z32_5 q_32 H locs ls hm hP hS hl => ?_) n _ _ _ _ _ _ _ _ _ _ hm hP hS (lv_sub hl [4, 5, 6, 3, 2, 1, 0] rfl)
      exact bkQ4_readNumber_125 X hD hm hP hS (lv_sub hl [0, 1, 2, 3, 4, 5] rfl)
    · have hm := (if_neg c_31).symm.trans hm
      refine lv_aload_n hx hb dX4_readNumber_38 rfl (lv_at hl 1 rfl) ?_
      refine lv_bipush (v := 43) hx hb dX4_readNumber_39 (by decide) ?_
      obtain ⟨r_33, e_33, hm⟩ := bd1_s hm
      refine goV_i (n := 1) (C := RX4) X (cQ4_sees e_33) (gV kw414 kw416 ks_yX4_sees kw7 kw417) (by decide +kernel) ⟨by decide, by decide⟩ (rc_reader hK hP) hP (dC (q1 := q) hD) hS rfl rfl hl.1 (Nat.le_of_ble_eq_true rfl) dX4_readNumber_41 ⟨Nat.le_refl _, Nat.le_refl _⟩ (fun H locs hP _ hS => ?_)
      refine lv_if_eq (tgt := 57) hx hb dX4_readNumber_44 (by decide) (fun c_34 => ?_) (fun c_34 => ?_)
      · have hm := (if_pos c_34).symm.trans hm
        refine lv_aload_n hx hb dX4_readNumber_57 rfl (lv_at hl 1 rfl) ?_
        refine gC_reader_at X kw137 hP dX4_readNumber_58 ?_
        refine lv_istore (lv' := [(4, .int (r4S q 12)), (3, .int t0), (0, .ref (a 8)), (1, .ref (sa G (10 + x1))), (2, .int x2)]) hx hb dX4_readNumber_61 hl (by decide) rfl (fun ls hl => ?_)
        refine lv_iconst (v := 0) hx hb dX4_readNumber_63 (by decide) ?_
        refine lv_istore (lv' := [(5, .int 0), (4, .int (r4S q 12)), (3, .int t0), (0, .ref (a 8)), (1, .ref (sa G (10 + x1))), (2, .int x2)]) hx hb dX4_readNumber_64 hl (by decide) rfl (fun ls hl => ?_)
        refine lv_iconst (v := 0) hx hb dX4_readNumber_66 (by decide) ?_
        refine lv_istore (lv' := [(6, .int 0), (5, .int 0), (4, .int (r4S q 12)), (3, .int t0), (0, .ref (a 8)), (1, .ref (sa G (10 + x1))), (2, .int x2)]) hx hb dX4_readNumber_67 hl (by decide) rfl (fun ls hl => ?_)
        refine lpQ4_readNumber_69 X hD (fun z35_1 z35_2 z35_3 z35_4 z35_5 q_35 H locs ls hm hP hS hl => ?_) n _ _ _ _ _ _ _ _ _ _ hm hP hS (lv_sub hl [4, 5, 6, 3, 2, 1, 0] rfl)
        exact bkQ4_readNumber_125 X hD hm hP hS (lv_sub hl [0, 1, 2, 3, 4, 5] rfl)
      · have hm := (if_neg c_34).symm.trans hm
        exact bkQ4_readNumber_47 X hD hm hP hS (lv_sub hl [1, 2, 3, 0] rfl)
set_option maxHeartbeats 4000000 in
set_option maxRecDepth 100000 in
theorem cQ4_readNumber {l : Launch} {G : Ev} {a : Nat → Nat} {T : va_W} {n : Nat} {q : Pc4} {x1 : Nat} {r : Int32} {q' : Pc4} (hm : moQ4_readNumber n x1 q = some (r, q')) : CtI l G yX4_readNumber cX4_readNumber 7 (some .int) 1 22 0 0 [.ref (a 8), .ref (sa G (10 + x1))] (wC G a T q) (wC G a T q') r := by
  intro sz
  refine enter (by decide) (Nat.le_of_ble_eq_true rfl) ?_
  intro p e s m args below meth c ls X hsz hP hD hS hl
  subst hsz
  obtain ⟨⟨hx, hb, hml, hown, hts⟩, hK, hr, hlk, hA, hAs, hSta⟩ := id X
  have hl : lv_has ls 7 [(0, .ref (a 8)), (1, .ref (sa G (10 + x1)))] := hl
  unfold moQ4_readNumber at hm
  refine lv_aload_n hx hb dX4_readNumber_0 rfl (lv_at hl 0 rfl) ?_
  refine gC_reader_at X kw137 hP dX4_readNumber_1 ?_
  refine lv_istore_n (lv' := [(2, .int (r4S q 12)), (0, .ref (a 8)), (1, .ref (sa G (10 + x1)))]) hx hb dX4_readNumber_4 rfl hl (by decide) rfl (fun ls hl => ?_)
  refine lv_aload_n hx hb dX4_readNumber_5 rfl (lv_at hl 2 rfl) ?_
  obtain ⟨hg_1, hm⟩ := gl_s hm
  refine vk_getf hx hb (fP_low X hg_1) hS hown (hts _ (List.mem_cons_of_mem _ kw1078)) (fun _ h => h) dX4_readNumber_6 ?_
  refine lv_if_ge (tgt := 25) hx hb dX4_readNumber_9 (by decide) (fun c_2 => ?_) (fun c_2 => ?_)
  · have hm := (if_pos c_2).symm.trans hm
    refine lv_iconst (v := 0) hx hb dX4_readNumber_25 (by decide) ?_
    exact bkQ4_readNumber_26 X hD hm hP hS (lv_sub hl [1, 2, 0] rfl)
  · have hm := (if_neg c_2).symm.trans hm
    refine lv_aload_n hx hb dX4_readNumber_12 rfl (lv_at hl 1 rfl) ?_
    refine lv_bipush (v := 45) hx hb dX4_readNumber_13 (by decide) ?_
    obtain ⟨r_36, e_36, hm⟩ := bd1_s hm
    refine goV_i (n := 1) (C := RX4) X (cQ4_sees e_36) (gV kw414 kw416 ks_yX4_sees kw7 kw417) (by decide +kernel) ⟨by decide, by decide⟩ (rc_reader hK hP) hP (dC (q1 := q) hD) hS rfl rfl hl.1 (Nat.le_of_ble_eq_true rfl) dX4_readNumber_15 ⟨Nat.le_refl _, Nat.le_refl _⟩ (fun H locs hP _ hS => ?_)
    refine lv_if_eq (tgt := 25) hx hb dX4_readNumber_18 (by decide) (fun c_37 => ?_) (fun c_37 => ?_)
    · have hm := (if_pos c_37).symm.trans hm
      refine lv_iconst (v := 0) hx hb dX4_readNumber_25 (by decide) ?_
      exact bkQ4_readNumber_26 X hD hm hP hS (lv_sub hl [1, 2, 0] rfl)
    · have hm := (if_neg c_37).symm.trans hm
      refine lv_iconst (v := 1) hx hb dX4_readNumber_21 (by decide) ?_
      refine lv_goto (tgt := 26) hx hb dX4_readNumber_22 (by decide) ?_
      exact bkQ4_readNumber_26 X hD hm hP hS (lv_sub hl [1, 2, 0] rfl)

-- RuledCalendar$Reader.weekdayAt
def moQ4_weekdayAt_L2 {α : Type} (n : Nat) (q : Pc4) (K0 : Option α) (K1 : Int32 → Option α) : Nat → Int32 → Int32 → Option α
  | 0, _, _ => none
  | k + 1, x1, x2 => (if 7 ≤ x2 then (K0 ) else (bd1 (moQJ0_charAt_5068e n 12 (2 * x2)) fun r_2 => (ge (r4I q 0) 1 (gi x1 200 (if r_2 = (r4A q 1 x1) then (bd1 (moQJ0_charAt_5068e n 12 ((2 * x2) + 1)) fun r_6 => (ge (r4I q 0) 1 (gi (x1 + 1) 200 (if r_6 = (r4A q 1 (x1 + 1)) then (K1 x2 ) else (moQ4_weekdayAt_L2 n q K0 K1 k x1 (x2 + 1) ))))) else (moQ4_weekdayAt_L2 n q K0 K1 k x1 (x2 + 1) ))))))
def moQ4_weekdayAt (n : Nat) (x1 : Int32) (q : Pc4) : Option (Int32) :=
  (moQ4_weekdayAt_L2 n q (some (-1)) (fun z11_2 => (some z11_2)) n x1 0 )
set_option maxHeartbeats 4000000 in
set_option maxRecDepth 100000 in
theorem lpQ4_weekdayAt_2 {p : Program} {l : Launch} {e : Env} {s : State} {m : MethodId} {args : Array Value} {below : List Frame} {meth : Method} {c : Code} {G : Ev} {a : Nat → Nat} {T : va_W} {Q : State → Prop} {A : Nat → Prop} {q : Pc4} (X : CX p s m args meth c cX4_weekdayAt 3 (some .int) RX4 (.code yX4_weekdayAt cX4_weekdayAt 3 (some .int)) G A) (hD : va_D A (wC G a T q)) {α : Type} {o : α} {n : Nat} {K0 : Option α} {K1 : Int32 → Option α} (h0 : ∀ (H : Heap) (locs : List Loc) (ls : Array Slot), K0  = some o → va_P (DD G) vwCl (wC G a T q) H → va_S A s.heap H locs → lv_has ls 3 [] → W p l e { frames := 4, cells := 0, slots := 0, locals := 85 } s m args below meth c H locs 0 0 Q (F0 m 54 ls [])) (h1 : ∀ (y2 : Int32) (H : Heap) (locs : List Loc) (ls : Array Slot), K1 y2  = some o → va_P (DD G) vwCl (wC G a T q) H → va_S A s.heap H locs → lv_has ls 3 [(2, .int y2)] → W p l e { frames := 4, cells := 0, slots := 0, locals := 85 } s m args below meth c H locs 0 0 Q (F0 m 46 ls [])) : ∀ (k : Nat) (x1 : Int32) (x2 : Int32) (H : Heap) (locs : List Loc) (ls : Array Slot), moQ4_weekdayAt_L2 n q K0 K1 k x1 x2  = some o → va_P (DD G) vwCl (wC G a T q) H → va_S A s.heap H locs → lv_has ls 3 [(0, .ref (a 8)), (1, .int x1), (2, .int x2)] → W p l e { frames := 4, cells := 0, slots := 0, locals := 85 } s m args below meth c H locs 0 0 Q (F0 m 2 ls []) := by
  obtain ⟨⟨hx, hb, hml, hown, hts⟩, hK, hr, hlk, hA, hAs, hSta⟩ := id X
  intro k
  induction k with
  | zero =>
    intro x1 x2 H locs ls hm
    have hm : none = some o := hm
    cases hm
  | succ k ih =>
    intro x1 x2 H locs ls hm hP hS hl
    rw [moQ4_weekdayAt_L2] at hm
    refine lv_iload_n hx hb dX4_weekdayAt_2 rfl (lv_at hl 2 rfl) ?_
    refine lv_bipush (v := 7) hx hb dX4_weekdayAt_3 (by decide) ?_
    refine lv_icmp_ge (tgt := 54) hx hb dX4_weekdayAt_5 (by decide) (fun c_1 => ?_) (fun c_1 => ?_)
    · have hm := (if_pos c_1).symm.trans hm
      exact h0 _ _ _ hm hP hS (lv_sub hl [] rfl)
    · have hm := (if_neg c_1).symm.trans hm
      refine va_ldcS hx hb hown (kWD X) dX4_weekdayAt_8 ?_
      refine lv_iconst (v := 2) hx hb dX4_weekdayAt_10 (by decide) ?_
      refine lv_iload_n hx hb dX4_weekdayAt_11 rfl (lv_at hl 2 rfl) ?_
      refine lv_imul hx hb dX4_weekdayAt_12 ?_
      obtain ⟨r_2, e_2, hm⟩ := bd1_s hm
      refine goV_i (n := 1) (C := RJ0) X (cQJ0_charAt_5068e e_2) (gV kw368 kw369 kw370 kw15 kw371) (by decide +kernel) ⟨by decide, by decide⟩ (rcO (oS X (by decide)) hS) va_nil va_dnil hS rfl rfl hl.1 (Nat.le_of_ble_eq_true rfl) dX4_weekdayAt_13 ⟨Nat.le_refl _, Nat.le_refl _⟩ (fun H locs _ hk hS => ?_)
      have hP := va_keep hP hk
      refine lv_aload_n hx hb dX4_weekdayAt_16 rfl (lv_at hl 0 rfl) ?_
      refine gC_reader_text X kw135 hP dX4_weekdayAt_17 ?_
      refine lv_iload_n hx hb dX4_weekdayAt_20 rfl (lv_at hl 1 rfl) ?_
      obtain ⟨hx_4, hm⟩ := ge_s hm
      obtain ⟨hi_3, hm⟩ := gi_s hm
      refine ldC_textx X hx_4 hP hi_3 dX4_weekdayAt_21 ?_
      refine lv_icmp_ne (tgt := 48) hx hb dX4_weekdayAt_22 (by decide) (fun c_5 => ?_) (fun c_5 => ?_)
      · have hm := (if_neg c_5).symm.trans hm
        refine lv_iinc (v := (x2 + 1)) (lv' := [(2, .int (x2 + 1)), (0, .ref (a 8)), (1, .int x1)]) hx hb dX4_weekdayAt_48 hl (k := 2) rfl (by first | rfl | decide) (by decide) rfl (fun ls hl => ?_)
        refine lv_goto (tgt := 2) hx hb dX4_weekdayAt_51 (by decide) ?_
        exact ih _ _ _ _ _ hm hP hS (lv_sub hl [1, 2, 0] rfl)
      · have hm := (if_pos c_5).symm.trans hm
        refine va_ldcS hx hb hown (kWD X) dX4_weekdayAt_25 ?_
        refine lv_iconst (v := 2) hx hb dX4_weekdayAt_27 (by decide) ?_
        refine lv_iload_n hx hb dX4_weekdayAt_28 rfl (lv_at hl 2 rfl) ?_
        refine lv_imul hx hb dX4_weekdayAt_29 ?_
        refine lv_iconst (v := 1) hx hb dX4_weekdayAt_30 (by decide) ?_
        refine lv_iadd hx hb dX4_weekdayAt_31 ?_
        obtain ⟨r_6, e_6, hm⟩ := bd1_s hm
        refine goV_i (n := 1) (C := RJ0) X (cQJ0_charAt_5068e e_6) (gV kw368 kw369 kw370 kw15 kw371) (by decide +kernel) ⟨by decide, by decide⟩ (rcO (oS X (by decide)) hS) va_nil va_dnil hS rfl rfl hl.1 (Nat.le_of_ble_eq_true rfl) dX4_weekdayAt_32 ⟨Nat.le_refl _, Nat.le_refl _⟩ (fun H locs _ hk hS => ?_)
        have hP := va_keep hP hk
        refine lv_aload_n hx hb dX4_weekdayAt_35 rfl (lv_at hl 0 rfl) ?_
        refine gC_reader_text X kw135 hP dX4_weekdayAt_36 ?_
        refine lv_iload_n hx hb dX4_weekdayAt_39 rfl (lv_at hl 1 rfl) ?_
        refine lv_iconst (v := 1) hx hb dX4_weekdayAt_40 (by decide) ?_
        refine lv_iadd hx hb dX4_weekdayAt_41 ?_
        obtain ⟨hx_8, hm⟩ := ge_s hm
        obtain ⟨hi_7, hm⟩ := gi_s hm
        refine ldC_textx X hx_8 hP hi_7 dX4_weekdayAt_42 ?_
        refine lv_icmp_ne (tgt := 48) hx hb dX4_weekdayAt_43 (by decide) (fun c_9 => ?_) (fun c_9 => ?_)
        · have hm := (if_neg c_9).symm.trans hm
          refine lv_iinc (v := (x2 + 1)) (lv' := [(2, .int (x2 + 1)), (0, .ref (a 8)), (1, .int x1)]) hx hb dX4_weekdayAt_48 hl (k := 2) rfl (by first | rfl | decide) (by decide) rfl (fun ls hl => ?_)
          refine lv_goto (tgt := 2) hx hb dX4_weekdayAt_51 (by decide) ?_
          exact ih _ _ _ _ _ hm hP hS (lv_sub hl [1, 2, 0] rfl)
        · have hm := (if_pos c_9).symm.trans hm
          exact h1 _ _ _ _ hm hP hS (lv_sub hl [2] rfl)
set_option maxHeartbeats 4000000 in
set_option maxRecDepth 100000 in
theorem cQ4_weekdayAt {l : Launch} {G : Ev} {a : Nat → Nat} {T : va_W} {n : Nat} {q : Pc4} {x1 : Int32} {r : Int32} (hm : moQ4_weekdayAt n x1 q = some r) : CtI l G yX4_weekdayAt cX4_weekdayAt 3 (some .int) 4 85 0 0 [.ref (a 8), .int x1] (wC G a T q) (wC G a T q) r := by
  intro sz
  refine enter (by decide) (Nat.le_of_ble_eq_true rfl) ?_
  intro p e s m args below meth c ls X hsz hP hD hS hl
  subst hsz
  obtain ⟨⟨hx, hb, hml, hown, hts⟩, hK, hr, hlk, hA, hAs, hSta⟩ := id X
  have hl : lv_has ls 3 [(0, .ref (a 8)), (1, .int x1)] := hl
  unfold moQ4_weekdayAt at hm
  refine lv_iconst (v := 0) hx hb dX4_weekdayAt_0 (by decide) ?_
  refine lv_istore_n (lv' := [(2, .int 0), (0, .ref (a 8)), (1, .int x1)]) hx hb dX4_weekdayAt_1 rfl hl (by decide) rfl (fun ls hl => ?_)
  refine lpQ4_weekdayAt_2 X hD (fun  H locs ls hm hP hS hl => ?_) (fun z11_2 H locs ls hm hP hS hl => ?_) n _ _ _ _ _ hm hP hS (lv_sub hl [1, 2, 0] rfl)
  · refine lv_iconst (v := (-1)) hx hb dX4_weekdayAt_54 (by decide) ?_
    exact ret_io (wf := wC G a T) X hm hP hS dX4_weekdayAt_55
  · refine lv_iload_n hx hb dX4_weekdayAt_46 rfl (lv_at hl 0 rfl) ?_
    exact ret_io (wf := wC G a T) X hm hP hS dX4_weekdayAt_47

-- RuledCalendar$Reader.readWeekday
def moQ4_readWeekday_B35 (n : Nat) (x1 : Int32) (q : Pc4) : Option (Pc4) :=
  (bd2 (moQ4_takeLetters n 2 q) fun r_4 q_4 => (if (r4S q_4 12) = (r_4 + 2) then (if (r4S q_4 13) = 0 then (bd1 (moQ4_weekdayAt n r_4 q_4) fun r_7 => (if r_7 = (-1) then (bd1 (moQ4_fail n 1 r_4 q_4) fun q_10 => (some q_10)) else (bd1 (moQ5_addWeekday n r_7 x1 q_4) fun q_9 => (some q_9)))) else (some q_4)) else (bd1 (moQ4_fail n 1 (r4S q_4 12) q_4) fun q_11 => (if (r4S q_11 13) = 0 then (bd1 (moQ4_weekdayAt n r_4 q_11) fun r_13 => (if r_13 = (-1) then (bd1 (moQ4_fail n 1 r_4 q_11) fun q_16 => (some q_16)) else (bd1 (moQ5_addWeekday n r_13 x1 q_11) fun q_15 => (some q_15)))) else (some q_11)))))
def moQ4_readWeekday (n : Nat) (q : Pc4) : Option (Pc4) :=
  (bd1 (moQ4_sees n 43 q) fun r_1 => (if r_1 = 0 then (bd1 (moQ4_sees n 45 q) fun r_17 => (if r_17 = 0 then (bd1 (moQ4_seesFigure n q) fun r_20 => (if r_20 = 0 then (moQ4_readWeekday_B35 n 0 q) else (bd2 (moQ4_readNumber n 7 q) fun r_22 q_22 => (moQ4_readWeekday_B35 n r_22 q_22)))) else (bd2 (moQ4_readNumber n 7 q) fun r_19 q_19 => (moQ4_readWeekday_B35 n r_19 q_19)))) else (bd2 (moQ4_readNumber n 7 q) fun r_3 q_3 => (moQ4_readWeekday_B35 n r_3 q_3))))
set_option maxHeartbeats 4000000 in
set_option maxRecDepth 100000 in
theorem bkQ4_readWeekday_35 {p : Program} {l : Launch} {e : Env} {s : State} {m : MethodId} {args : Array Value} {below : List Frame} {meth : Method} {c : Code} {G : Ev} {a : Nat → Nat} {T : va_W}  {q0 : Pc4} {L : List Nat} {q' : Pc4} {n : Nat} {x1 : Int32} {q : Pc4} {H : Heap} {locs : List Loc} {ls : Array Slot} (X : CX p s m args meth c cX4_readWeekday 4 none RX4 (.code yX4_readWeekday cX4_readWeekday 4 none) G (AL L s.heap.size)) (hD : va_D (AL L s.heap.size) (wC G a T q0)) (hm : moQ4_readWeekday_B35 n x1 q = some q') (hP : va_P (DD G) vwCl (wC G a T q) H) (hS : va_S (AL L s.heap.size) s.heap H locs) (hl : lv_has ls 4 [(0, .ref (a 8)), (1, .int x1)]) : W p l e { frames := 5, cells := 0, slots := 0, locals := 107 } s m args below meth c H locs 0 0 (MQ below (va_Qv (fun _ : Unit => True) (fun _ t => va_P (DD G) vwCl (wC G a T q') t.heap) (AL L s.heap.size)) args s 0 0 (AL L s.heap.size)) (F0 m 35 ls []) := by
  obtain ⟨⟨hx, hb, hml, hown, hts⟩, hK, hr, hlk, hA, hAs, hSta⟩ := id X
  unfold moQ4_readWeekday_B35 at hm
  refine lv_aload_n hx hb dX4_readWeekday_35 rfl (lv_at hl 0 rfl) ?_
  refine lv_iconst (v := 2) hx hb dX4_readWeekday_36 (by decide) ?_
  obtain ⟨r_4, q_4, e_4, hm⟩ := bd2_s hm
  refine goV_i (n := 1) (C := RX4) X (cQ4_takeLetters e_4) (gV kw336 kw338 ks_yX4_takeLetters kw7 kw339) (by decide +kernel) ⟨by decide, by decide⟩ (rc_reader hK hP) hP (dC (q1 := q) hD) hS rfl rfl hl.1 (Nat.le_of_ble_eq_true rfl) dX4_readWeekday_37 ⟨Nat.le_refl _, Nat.le_refl _⟩ (fun H locs hP _ hS => ?_)
  refine lv_istore_n (lv' := [(2, .int r_4), (0, .ref (a 8)), (1, .int x1)]) hx hb dX4_readWeekday_40 rfl hl (by decide) rfl (fun ls hl => ?_)
  refine lv_aload_n hx hb dX4_readWeekday_41 rfl (lv_at hl 1 rfl) ?_
  refine gC_reader_at X kw137 hP dX4_readWeekday_42 ?_
  refine lv_iload_n hx hb dX4_readWeekday_45 rfl (lv_at hl 0 rfl) ?_
  refine lv_iconst (v := 2) hx hb dX4_readWeekday_46 (by decide) ?_
  refine lv_iadd hx hb dX4_readWeekday_47 ?_
  refine lv_icmp_eq (tgt := 60) hx hb dX4_readWeekday_48 (by decide) (fun c_5 => ?_) (fun c_5 => ?_)
  · have hm := (if_pos c_5).symm.trans hm
    refine lv_aload_n hx hb dX4_readWeekday_60 rfl (lv_at hl 1 rfl) ?_
    refine gC_reader_faultKind X kw138 hP dX4_readWeekday_61 ?_
    refine lv_if_eq (tgt := 68) hx hb dX4_readWeekday_64 (by decide) (fun c_6 => ?_) (fun c_6 => ?_)
    · have hm := (if_pos c_6).symm.trans hm
      refine lv_aload_n hx hb dX4_readWeekday_68 rfl (lv_at hl 1 rfl) ?_
      refine lv_iload_n hx hb dX4_readWeekday_69 rfl (lv_at hl 0 rfl) ?_
      obtain ⟨r_7, e_7, hm⟩ := bd1_s hm
      refine goV_i (n := 1) (C := RX4) X (cQ4_weekdayAt e_7) (gV kw449 kw451 ks_yX4_weekdayAt kw7 kw452) (by decide +kernel) ⟨by decide, by decide⟩ (rc_reader hK hP) hP (dC (q1 := q_4) hD) hS rfl rfl hl.1 (Nat.le_of_ble_eq_true rfl) dX4_readWeekday_70 ⟨Nat.le_refl _, Nat.le_refl _⟩ (fun H locs hP _ hS => ?_)
      refine lv_istore_n (lv' := [(3, .int r_7), (2, .int r_4), (0, .ref (a 8)), (1, .int x1)]) hx hb dX4_readWeekday_73 rfl hl (by decide) rfl (fun ls hl => ?_)
      refine lv_iload_n hx hb dX4_readWeekday_74 rfl (lv_at hl 0 rfl) ?_
      refine lv_iconst (v := (-1)) hx hb dX4_readWeekday_75 (by decide) ?_
      refine lv_icmp_ne (tgt := 88) hx hb dX4_readWeekday_76 (by decide) (fun c_8 => ?_) (fun c_8 => ?_)
      · have hm := (if_neg c_8).symm.trans hm
        refine lv_aload_n hx hb dX4_readWeekday_88 rfl (lv_at hl 2 rfl) ?_
        refine gC_reader_rule X kw134 hP dX4_readWeekday_89 ?_
        refine lv_iload_n hx hb dX4_readWeekday_92 rfl (lv_at hl 0 rfl) ?_
        refine lv_iload_n hx hb dX4_readWeekday_93 rfl (lv_at hl 3 rfl) ?_
        obtain ⟨q_9, e_9, hm⟩ := bd1_s hm
        refine goV_v (n := 2) (C := RX5) X (cQ5_addWeekday e_9) (gV kw454 kw455 kw456 kw3 kw457) (by decide +kernel) ⟨by decide, by decide⟩ (rc_rule hK hP) hP (dC (q1 := q_4) hD) hS rfl rfl hl.1 (Nat.le_of_ble_eq_true rfl) dX4_readWeekday_94 ⟨Nat.le_refl _, Nat.le_refl _⟩ (fun H locs hP _ hS => ?_)
        exact ret_v (wf := wC G a T) X hm hP hS dX4_readWeekday_97
      · have hm := (if_pos c_8).symm.trans hm
        refine lv_aload_n hx hb dX4_readWeekday_79 rfl (lv_at hl 2 rfl) ?_
        refine lv_iconst (v := 1) hx hb dX4_readWeekday_80 (by decide) ?_
        refine lv_iload_n hx hb dX4_readWeekday_81 rfl (lv_at hl 1 rfl) ?_
        obtain ⟨q_10, e_10, hm⟩ := bd1_s hm
        refine goV_v (n := 2) (C := RX4) X (cQ4_fail e_10) (gV kw344 kw346 ks_yX4_fail kw7 kw347) (by decide +kernel) ⟨by decide, by decide⟩ (rc_reader hK hP) hP (dC (q1 := q_4) hD) hS rfl rfl hl.1 (Nat.le_of_ble_eq_true rfl) dX4_readWeekday_82 ⟨Nat.le_refl _, Nat.le_refl _⟩ (fun H locs hP _ hS => ?_)
        refine lv_goto (tgt := 97) hx hb dX4_readWeekday_85 (by decide) ?_
        exact ret_v (wf := wC G a T) X hm hP hS dX4_readWeekday_97
    · have hm := (if_neg c_6).symm.trans hm
      exact ret_v (wf := wC G a T) X hm hP hS dX4_readWeekday_67
  · have hm := (if_neg c_5).symm.trans hm
    refine lv_aload_n hx hb dX4_readWeekday_51 rfl (lv_at hl 1 rfl) ?_
    refine lv_iconst (v := 1) hx hb dX4_readWeekday_52 (by decide) ?_
    refine lv_aload_n hx hb dX4_readWeekday_53 rfl (lv_at hl 1 rfl) ?_
    refine gC_reader_at X kw137 hP dX4_readWeekday_54 ?_
    obtain ⟨q_11, e_11, hm⟩ := bd1_s hm
    refine goV_v (n := 2) (C := RX4) X (cQ4_fail e_11) (gV kw344 kw346 ks_yX4_fail kw7 kw347) (by decide +kernel) ⟨by decide, by decide⟩ (rc_reader hK hP) hP (dC (q1 := q_4) hD) hS rfl rfl hl.1 (Nat.le_of_ble_eq_true rfl) dX4_readWeekday_57 ⟨Nat.le_refl _, Nat.le_refl _⟩ (fun H locs hP _ hS => ?_)
    refine lv_aload_n hx hb dX4_readWeekday_60 rfl (lv_at hl 1 rfl) ?_
    refine gC_reader_faultKind X kw138 hP dX4_readWeekday_61 ?_
    refine lv_if_eq (tgt := 68) hx hb dX4_readWeekday_64 (by decide) (fun c_12 => ?_) (fun c_12 => ?_)
    · have hm := (if_pos c_12).symm.trans hm
      refine lv_aload_n hx hb dX4_readWeekday_68 rfl (lv_at hl 1 rfl) ?_
      refine lv_iload_n hx hb dX4_readWeekday_69 rfl (lv_at hl 0 rfl) ?_
      obtain ⟨r_13, e_13, hm⟩ := bd1_s hm
      refine goV_i (n := 1) (C := RX4) X (cQ4_weekdayAt e_13) (gV kw449 kw451 ks_yX4_weekdayAt kw7 kw452) (by decide +kernel) ⟨by decide, by decide⟩ (rc_reader hK hP) hP (dC (q1 := q_11) hD) hS rfl rfl hl.1 (Nat.le_of_ble_eq_true rfl) dX4_readWeekday_70 ⟨Nat.le_refl _, Nat.le_refl _⟩ (fun H locs hP _ hS => ?_)
      refine lv_istore_n (lv' := [(3, .int r_13), (2, .int r_4), (0, .ref (a 8)), (1, .int x1)]) hx hb dX4_readWeekday_73 rfl hl (by decide) rfl (fun ls hl => ?_)
      refine lv_iload_n hx hb dX4_readWeekday_74 rfl (lv_at hl 0 rfl) ?_
      refine lv_iconst (v := (-1)) hx hb dX4_readWeekday_75 (by decide) ?_
      refine lv_icmp_ne (tgt := 88) hx hb dX4_readWeekday_76 (by decide) (fun c_14 => ?_) (fun c_14 => ?_)
      · have hm := (if_neg c_14).symm.trans hm
        refine lv_aload_n hx hb dX4_readWeekday_88 rfl (lv_at hl 2 rfl) ?_
        refine gC_reader_rule X kw134 hP dX4_readWeekday_89 ?_
        refine lv_iload_n hx hb dX4_readWeekday_92 rfl (lv_at hl 0 rfl) ?_
        refine lv_iload_n hx hb dX4_readWeekday_93 rfl (lv_at hl 3 rfl) ?_
        obtain ⟨q_15, e_15, hm⟩ := bd1_s hm
        refine goV_v (n := 2) (C := RX5) X (cQ5_addWeekday e_15) (gV kw454 kw455 kw456 kw3 kw457) (by decide +kernel) ⟨by decide, by decide⟩ (rc_rule hK hP) hP (dC (q1 := q_11) hD) hS rfl rfl hl.1 (Nat.le_of_ble_eq_true rfl) dX4_readWeekday_94 ⟨Nat.le_refl _, Nat.le_refl _⟩ (fun H locs hP _ hS => ?_)
        exact ret_v (wf := wC G a T) X hm hP hS dX4_readWeekday_97
      · have hm := (if_pos c_14).symm.trans hm
        refine lv_aload_n hx hb dX4_readWeekday_79 rfl (lv_at hl 2 rfl) ?_
        refine lv_iconst (v := 1) hx hb dX4_readWeekday_80 (by decide) ?_
        refine lv_iload_n hx hb dX4_readWeekday_81 rfl (lv_at hl 1 rfl) ?_
        obtain ⟨q_16, e_16, hm⟩ := bd1_s hm
        refine goV_v (n := 2) (C := RX4) X (cQ4_fail e_16) (gV kw344 kw346 ks_yX4_fail kw7 kw347) (by decide +kernel) ⟨by decide, by decide⟩ (rc_reader hK hP) hP (dC (q1 := q_11) hD) hS rfl rfl hl.1 (Nat.le_of_ble_eq_true rfl) dX4_readWeekday_82 ⟨Nat.le_refl _, Nat.le_refl _⟩ (fun H locs hP _ hS => ?_)
        refine lv_goto (tgt := 97) hx hb dX4_readWeekday_85 (by decide) ?_
        exact ret_v (wf := wC G a T) X hm hP hS dX4_readWeekday_97
    · have hm := (if_neg c_12).symm.trans hm
      exact ret_v (wf := wC G a T) X hm hP hS dX4_readWeekday_67
set_option maxHeartbeats 4000000 in
set_option maxRecDepth 100000 in
theorem cQ4_readWeekday {l : Launch} {G : Ev} {a : Nat → Nat} {T : va_W} {n : Nat} {q : Pc4} {q' : Pc4} (hm : moQ4_readWeekday n q = some q') : CtV l G yX4_readWeekday cX4_readWeekday 4 none 5 107 0 0 [.ref (a 8)] (wC G a T q) (wC G a T q') := by
  intro sz
  refine enter (by decide) (Nat.le_of_ble_eq_true rfl) ?_
  intro p e s m args below meth c ls X hsz hP hD hS hl
  subst hsz
  obtain ⟨⟨hx, hb, hml, hown, hts⟩, hK, hr, hlk, hA, hAs, hSta⟩ := id X
  have hl : lv_has ls 4 [(0, .ref (a 8))] := hl
  unfold moQ4_readWeekday at hm
  refine lv_iconst (v := 0) hx hb dX4_readWeekday_0 (by decide) ?_
  refine lv_istore_n (lv' := [(1, .int 0), (0, .ref (a 8))]) hx hb dX4_readWeekday_1 rfl hl (by decide) rfl (fun ls hl => ?_)
  refine lv_aload_n hx hb dX4_readWeekday_2 rfl (lv_at hl 1 rfl) ?_
  refine lv_bipush (v := 43) hx hb dX4_readWeekday_3 (by decide) ?_
  obtain ⟨r_1, e_1, hm⟩ := bd1_s hm
  refine goV_i (n := 1) (C := RX4) X (cQ4_sees e_1) (gV kw414 kw416 ks_yX4_sees kw7 kw417) (by decide +kernel) ⟨by decide, by decide⟩ (rc_reader hK hP) hP (dC (q1 := q) hD) hS rfl rfl hl.1 (Nat.le_of_ble_eq_true rfl) dX4_readWeekday_5 ⟨Nat.le_refl _, Nat.le_refl _⟩ (fun H locs hP _ hS => ?_)
  refine lv_if_ne (tgt := 27) hx hb dX4_readWeekday_8 (by decide) (fun c_2 => ?_) (fun c_2 => ?_)
  · have hm := (if_neg c_2).symm.trans hm
    refine lv_aload_n hx hb dX4_readWeekday_27 rfl (lv_at hl 1 rfl) ?_
    refine va_gets hx hb (zP_BYDAY X) hS hown (hts _ (List.mem_cons_of_mem _ kw430)) (fun _ h => h) dX4_readWeekday_28 ?_
    obtain ⟨r_3, q_3, e_3, hm⟩ := bd2_s hm
    refine goV_i (n := 1) (C := RX4) X (cQ4_readNumber e_3) (gV kw440 kw442 ks_yX4_readNumber kw7 kw443) (by decide +kernel) ⟨by decide, by decide⟩ (rc_reader hK hP) hP (dC (q1 := q) hD) hS rfl rfl hl.1 (Nat.le_of_ble_eq_true rfl) dX4_readWeekday_31 ⟨Nat.le_refl _, Nat.le_refl _⟩ (fun H locs hP _ hS => ?_)
    refine lv_istore_n (lv' := [(1, .int r_3), (0, .ref (a 8))]) hx hb dX4_readWeekday_34 rfl hl (by decide) rfl (fun ls hl => ?_)
    exact bkQ4_readWeekday_35 X hD hm hP hS (lv_sub hl [1, 0] rfl)
  · have hm := (if_pos c_2).symm.trans hm
    refine lv_aload_n hx hb dX4_readWeekday_11 rfl (lv_at hl 1 rfl) ?_
    refine lv_bipush (v := 45) hx hb dX4_readWeekday_12 (by decide) ?_
    obtain ⟨r_17, e_17, hm⟩ := bd1_s hm
    refine goV_i (n := 1) (C := RX4) X (cQ4_sees e_17) (gV kw414 kw416 ks_yX4_sees kw7 kw417) (by decide +kernel) ⟨by decide, by decide⟩ (rc_reader hK hP) hP (dC (q1 := q) hD) hS rfl rfl hl.1 (Nat.le_of_ble_eq_true rfl) dX4_readWeekday_14 ⟨Nat.le_refl _, Nat.le_refl _⟩ (fun H locs hP _ hS => ?_)
    refine lv_if_ne (tgt := 27) hx hb dX4_readWeekday_17 (by decide) (fun c_18 => ?_) (fun c_18 => ?_)
    · have hm := (if_neg c_18).symm.trans hm
      refine lv_aload_n hx hb dX4_readWeekday_27 rfl (lv_at hl 1 rfl) ?_
      refine va_gets hx hb (zP_BYDAY X) hS hown (hts _ (List.mem_cons_of_mem _ kw430)) (fun _ h => h) dX4_readWeekday_28 ?_
      obtain ⟨r_19, q_19, e_19, hm⟩ := bd2_s hm
      refine goV_i (n := 1) (C := RX4) X (cQ4_readNumber e_19) (gV kw440 kw442 ks_yX4_readNumber kw7 kw443) (by decide +kernel) ⟨by decide, by decide⟩ (rc_reader hK hP) hP (dC (q1 := q) hD) hS rfl rfl hl.1 (Nat.le_of_ble_eq_true rfl) dX4_readWeekday_31 ⟨Nat.le_refl _, Nat.le_refl _⟩ (fun H locs hP _ hS => ?_)
      refine lv_istore_n (lv' := [(1, .int r_19), (0, .ref (a 8))]) hx hb dX4_readWeekday_34 rfl hl (by decide) rfl (fun ls hl => ?_)
      exact bkQ4_readWeekday_35 X hD hm hP hS (lv_sub hl [1, 0] rfl)
    · have hm := (if_pos c_18).symm.trans hm
      refine lv_aload_n hx hb dX4_readWeekday_20 rfl (lv_at hl 1 rfl) ?_
      obtain ⟨r_20, e_20, hm⟩ := bd1_s hm
      refine goV_i (n := 0) (C := RX4) X (cQ4_seesFigure e_20) (gV kw436 kw438 ks_yX4_seesFigure kw7 kw439) (by decide +kernel) ⟨by decide, by decide⟩ (rc_reader hK hP) hP (dC (q1 := q) hD) hS rfl rfl hl.1 (Nat.le_of_ble_eq_true rfl) dX4_readWeekday_21 ⟨Nat.le_refl _, Nat.le_refl _⟩ (fun H locs hP _ hS => ?_)
      refine lv_if_eq (tgt := 35) hx hb dX4_readWeekday_24 (by decide) (fun c_21 => ?_) (fun c_21 => ?_)
      · have hm := (if_pos c_21).symm.trans hm
        exact bkQ4_readWeekday_35 X hD hm hP hS (lv_sub hl [1, 0] rfl)
      · have hm := (if_neg c_21).symm.trans hm
        refine lv_aload_n hx hb dX4_readWeekday_27 rfl (lv_at hl 1 rfl) ?_
        refine va_gets hx hb (zP_BYDAY X) hS hown (hts _ (List.mem_cons_of_mem _ kw430)) (fun _ h => h) dX4_readWeekday_28 ?_
        obtain ⟨r_22, q_22, e_22, hm⟩ := bd2_s hm
        refine goV_i (n := 1) (C := RX4) X (cQ4_readNumber e_22) (gV kw440 kw442 ks_yX4_readNumber kw7 kw443) (by decide +kernel) ⟨by decide, by decide⟩ (rc_reader hK hP) hP (dC (q1 := q) hD) hS rfl rfl hl.1 (Nat.le_of_ble_eq_true rfl) dX4_readWeekday_31 ⟨Nat.le_refl _, Nat.le_refl _⟩ (fun H locs hP _ hS => ?_)
        refine lv_istore_n (lv' := [(1, .int r_22), (0, .ref (a 8))]) hx hb dX4_readWeekday_34 rfl hl (by decide) rfl (fun ls hl => ?_)
        exact bkQ4_readWeekday_35 X hD hm hP hS (lv_sub hl [1, 0] rfl)

-- RuledCalendar$Reader.readValue
def moQ4_readValue (n : Nat) (x1 : Nat) (q : Pc4) : Option (Pc4) :=
  (if (r4S q 13) = 0 then (gl x1 8 (if x1 = 0 then (bd1 (moQ4_readFrequency n q) fun q_19 => (some q_19)) else (gl x1 8 (if x1 = 7 then (bd1 (moQ4_readWeekday n q) fun q_18 => (some q_18)) else (bd2 (moQ4_readNumber n x1 q) fun r_6 q_6 => (gl x1 8 (if x1 = 3 then (bd1 (moQ0_isDate n r_6) fun r_11 => (if r_11 = 0 then (bd1 (moQ4_fail n 2 (r4S q 12) q_6) fun q_15 => (if (r4S q_15 13) = 0 then (bd1 (moQ5_addNumber n x1 r_6 q_15) fun q_17 => (some q_17)) else (some q_15))) else (if (r4S q_6 13) = 0 then (bd1 (moQ5_addNumber n x1 r_6 q_6) fun q_14 => (some q_14)) else (some q_6)))) else (if (r4S q_6 13) = 0 then (bd1 (moQ5_addNumber n x1 r_6 q_6) fun q_10 => (some q_10)) else (some q_6))))))))) else (some q))
set_option maxHeartbeats 4000000 in
set_option maxRecDepth 100000 in
theorem cQ4_readValue {l : Launch} {G : Ev} {a : Nat → Nat} {T : va_W} {n : Nat} {q : Pc4} {x1 : Nat} {q' : Pc4} (hm : moQ4_readValue n x1 q = some q') : CtV l G yX4_readValue cX4_readValue 4 none 6 130 0 0 [.ref (a 8), .ref (sa G (10 + x1))] (wC G a T q) (wC G a T q') := by
  intro sz
  refine enter (by decide) (Nat.le_of_ble_eq_true rfl) ?_
  intro p e s m args below meth c ls X hsz hP hD hS hl
  subst hsz
  obtain ⟨⟨hx, hb, hml, hown, hts⟩, hK, hr, hlk, hA, hAs, hSta⟩ := id X
  have hl : lv_has ls 4 [(0, .ref (a 8)), (1, .ref (sa G (10 + x1)))] := hl
  unfold moQ4_readValue at hm
  refine lv_aload_n hx hb dX4_readValue_0 rfl (lv_at hl 0 rfl) ?_
  refine gC_reader_faultKind X kw138 hP dX4_readValue_1 ?_
  refine lv_if_eq (tgt := 8) hx hb dX4_readValue_4 (by decide) (fun c_1 => ?_) (fun c_1 => ?_)
  · have hm := (if_pos c_1).symm.trans hm
    refine lv_aload_n hx hb dX4_readValue_8 rfl (lv_at hl 1 rfl) ?_
    refine va_gets hx hb (zP_FREQ X) hS hown (hts _ (List.mem_cons_of_mem _ kw422)) (fun _ h => h) dX4_readValue_9 ?_
    obtain ⟨hg_2, hm⟩ := gl_s hm
    refine acP (tgt := 22) X hg_2 (by decide) dX4_readValue_12 (by decide) (fun c_3 => ?_) (fun c_3 => ?_)
    · have hm := (if_neg c_3).symm.trans hm
      refine lv_aload_n hx hb dX4_readValue_22 rfl (lv_at hl 1 rfl) ?_
      refine va_gets hx hb (zP_BYDAY X) hS hown (hts _ (List.mem_cons_of_mem _ kw430)) (fun _ h => h) dX4_readValue_23 ?_
      obtain ⟨hg_4, hm⟩ := gl_s hm
      refine acP (tgt := 36) X hg_4 (by decide) dX4_readValue_26 (by decide) (fun c_5 => ?_) (fun c_5 => ?_)
      · have hm := (if_neg c_5).symm.trans hm
        refine lv_aload_n hx hb dX4_readValue_36 rfl (lv_at hl 0 rfl) ?_
        refine gC_reader_at X kw137 hP dX4_readValue_37 ?_
        refine lv_istore_n (lv' := [(2, .int (r4S q 12)), (0, .ref (a 8)), (1, .ref (sa G (10 + x1)))]) hx hb dX4_readValue_40 rfl hl (by decide) rfl (fun ls hl => ?_)
        refine lv_aload_n hx hb dX4_readValue_41 rfl (lv_at hl 1 rfl) ?_
        refine lv_aload_n hx hb dX4_readValue_42 rfl (lv_at hl 2 rfl) ?_
        obtain ⟨r_6, q_6, e_6, hm⟩ := bd2_s hm
        refine goV_i (n := 1) (C := RX4) X (cQ4_readNumber e_6) (gV kw440 kw442 ks_yX4_readNumber kw7 kw443) (by decide +kernel) ⟨by decide, by decide⟩ (rc_reader hK hP) hP (dC (q1 := q) hD) hS rfl rfl hl.1 (Nat.le_of_ble_eq_true rfl) dX4_readValue_43 ⟨Nat.le_refl _, Nat.le_refl _⟩ (fun H locs hP _ hS => ?_)
        refine lv_istore_n (lv' := [(3, .int r_6), (2, .int (r4S q 12)), (0, .ref (a 8)), (1, .ref (sa G (10 + x1)))]) hx hb dX4_readValue_46 rfl hl (by decide) rfl (fun ls hl => ?_)
        refine lv_aload_n hx hb dX4_readValue_47 rfl (lv_at hl 3 rfl) ?_
        refine va_gets hx hb (zP_UNTIL X) hS hown (hts _ (List.mem_cons_of_mem _ kw458)) (fun _ h => h) dX4_readValue_48 ?_
        obtain ⟨hg_7, hm⟩ := gl_s hm
        refine acP (tgt := 67) X hg_7 (by decide) dX4_readValue_51 (by decide) (fun c_8 => ?_) (fun c_8 => ?_)
        · have hm := (if_neg c_8).symm.trans hm
          refine lv_aload_n hx hb dX4_readValue_67 rfl (lv_at hl 2 rfl) ?_
          refine gC_reader_faultKind X kw138 hP dX4_readValue_68 ?_
          refine lv_if_ne (tgt := 83) hx hb dX4_readValue_71 (by decide) (fun c_9 => ?_) (fun c_9 => ?_)
          · have hm := (if_neg c_9).symm.trans hm
            exact ret_v (wf := wC G a T) X hm hP hS dX4_readValue_83
          · have hm := (if_pos c_9).symm.trans hm
            refine lv_aload_n hx hb dX4_readValue_74 rfl (lv_at hl 2 rfl) ?_
            refine gC_reader_rule X kw134 hP dX4_readValue_75 ?_
            refine lv_aload_n hx hb dX4_readValue_78 rfl (lv_at hl 3 rfl) ?_
            refine lv_iload_n hx hb dX4_readValue_79 rfl (lv_at hl 0 rfl) ?_
            obtain ⟨q_10, e_10, hm⟩ := bd1_s hm
            refine goV_v (n := 2) (C := RX5) X (cQ5_addNumber e_10) (gV kw461 kw462 kw463 kw3 kw464) (by decide +kernel) ⟨by decide, by decide⟩ (rc_rule hK hP) hP (dC (q1 := q_6) hD) hS rfl rfl hl.1 (Nat.le_of_ble_eq_true rfl) dX4_readValue_80 ⟨Nat.le_refl _, Nat.le_refl _⟩ (fun H locs hP _ hS => ?_)
            exact ret_v (wf := wC G a T) X hm hP hS dX4_readValue_83
        · have hm := (if_pos c_8).symm.trans hm
          refine lv_iload_n hx hb dX4_readValue_54 rfl (lv_at hl 0 rfl) ?_
          obtain ⟨r_11, e_11, hm⟩ := bd1_s hm
          refine goT_i (n := 1) X (cQ0_isDate e_11) (gSx kw460 kw313 kw2 kw314) (by decide +kernel) ⟨by decide, by decide⟩ va_nil va_dnil hS rfl rfl hl.1 (Nat.le_of_ble_eq_true rfl) dX4_readValue_55 ⟨Nat.le_refl _, Nat.le_refl _⟩ (fun H locs _ hk hS => ?_)
          have hP := va_keep hP hk
          refine lv_if_ne (tgt := 67) hx hb dX4_readValue_58 (by decide) (fun c_12 => ?_) (fun c_12 => ?_)
          · have hm := (if_neg c_12).symm.trans hm
            refine lv_aload_n hx hb dX4_readValue_67 rfl (lv_at hl 2 rfl) ?_
            refine gC_reader_faultKind X kw138 hP dX4_readValue_68 ?_
            refine lv_if_ne (tgt := 83) hx hb dX4_readValue_71 (by decide) (fun c_13 => ?_) (fun c_13 => ?_)
            · have hm := (if_neg c_13).symm.trans hm
              exact ret_v (wf := wC G a T) X hm hP hS dX4_readValue_83
            · have hm := (if_pos c_13).symm.trans hm
              refine lv_aload_n hx hb dX4_readValue_74 rfl (lv_at hl 2 rfl) ?_
              refine gC_reader_rule X kw134 hP dX4_readValue_75 ?_
              refine lv_aload_n hx hb dX4_readValue_78 rfl (lv_at hl 3 rfl) ?_
              refine lv_iload_n hx hb dX4_readValue_79 rfl (lv_at hl 0 rfl) ?_
              obtain ⟨q_14, e_14, hm⟩ := bd1_s hm
              refine goV_v (n := 2) (C := RX5) X (cQ5_addNumber e_14) (gV kw461 kw462 kw463 kw3 kw464) (by decide +kernel) ⟨by decide, by decide⟩ (rc_rule hK hP) hP (dC (q1 := q_6) hD) hS rfl rfl hl.1 (Nat.le_of_ble_eq_true rfl) dX4_readValue_80 ⟨Nat.le_refl _, Nat.le_refl _⟩ (fun H locs hP _ hS => ?_)
              exact ret_v (wf := wC G a T) X hm hP hS dX4_readValue_83
          · have hm := (if_pos c_12).symm.trans hm
            refine lv_aload_n hx hb dX4_readValue_61 rfl (lv_at hl 2 rfl) ?_
            refine lv_iconst (v := 2) hx hb dX4_readValue_62 (by decide) ?_
            refine lv_iload_n hx hb dX4_readValue_63 rfl (lv_at hl 1 rfl) ?_
            obtain ⟨q_15, e_15, hm⟩ := bd1_s hm
            refine goV_v (n := 2) (C := RX4) X (cQ4_fail e_15) (gV kw344 kw346 ks_yX4_fail kw7 kw347) (by decide +kernel) ⟨by decide, by decide⟩ (rc_reader hK hP) hP (dC (q1 := q_6) hD) hS rfl rfl hl.1 (Nat.le_of_ble_eq_true rfl) dX4_readValue_64 ⟨Nat.le_refl _, Nat.le_refl _⟩ (fun H locs hP _ hS => ?_)
            refine lv_aload_n hx hb dX4_readValue_67 rfl (lv_at hl 2 rfl) ?_
            refine gC_reader_faultKind X kw138 hP dX4_readValue_68 ?_
            refine lv_if_ne (tgt := 83) hx hb dX4_readValue_71 (by decide) (fun c_16 => ?_) (fun c_16 => ?_)
            · have hm := (if_neg c_16).symm.trans hm
              exact ret_v (wf := wC G a T) X hm hP hS dX4_readValue_83
            · have hm := (if_pos c_16).symm.trans hm
              refine lv_aload_n hx hb dX4_readValue_74 rfl (lv_at hl 2 rfl) ?_
              refine gC_reader_rule X kw134 hP dX4_readValue_75 ?_
              refine lv_aload_n hx hb dX4_readValue_78 rfl (lv_at hl 3 rfl) ?_
              refine lv_iload_n hx hb dX4_readValue_79 rfl (lv_at hl 0 rfl) ?_
              obtain ⟨q_17, e_17, hm⟩ := bd1_s hm
              refine goV_v (n := 2) (C := RX5) X (cQ5_addNumber e_17) (gV kw461 kw462 kw463 kw3 kw464) (by decide +kernel) ⟨by decide, by decide⟩ (rc_rule hK hP) hP (dC (q1 := q_15) hD) hS rfl rfl hl.1 (Nat.le_of_ble_eq_true rfl) dX4_readValue_80 ⟨Nat.le_refl _, Nat.le_refl _⟩ (fun H locs hP _ hS => ?_)
              exact ret_v (wf := wC G a T) X hm hP hS dX4_readValue_83
      · have hm := (if_pos c_5).symm.trans hm
        refine lv_aload_n hx hb dX4_readValue_29 rfl (lv_at hl 0 rfl) ?_
        obtain ⟨q_18, e_18, hm⟩ := bd1_s hm
        refine goV_v (n := 0) (C := RX4) X (cQ4_readWeekday e_18) (gV kw432 kw434 ks_yX4_readWeekday kw7 kw435) (by decide +kernel) ⟨by decide, by decide⟩ (rc_reader hK hP) hP (dC (q1 := q) hD) hS rfl rfl hl.1 (Nat.le_of_ble_eq_true rfl) dX4_readValue_30 ⟨Nat.le_refl _, Nat.le_refl _⟩ (fun H locs hP _ hS => ?_)
        refine lv_goto (tgt := 83) hx hb dX4_readValue_33 (by decide) ?_
        exact ret_v (wf := wC G a T) X hm hP hS dX4_readValue_83
    · have hm := (if_pos c_3).symm.trans hm
      refine lv_aload_n hx hb dX4_readValue_15 rfl (lv_at hl 0 rfl) ?_
      obtain ⟨q_19, e_19, hm⟩ := bd1_s hm
      refine goV_v (n := 0) (C := RX4) X (cQ4_readFrequency e_19) (gV kw424 kw426 ks_yX4_readFrequency kw7 kw427) (by decide +kernel) ⟨by decide, by decide⟩ (rc_reader hK hP) hP (dC (q1 := q) hD) hS rfl rfl hl.1 (Nat.le_of_ble_eq_true rfl) dX4_readValue_16 ⟨Nat.le_refl _, Nat.le_refl _⟩ (fun H locs hP _ hS => ?_)
      refine lv_goto (tgt := 83) hx hb dX4_readValue_19 (by decide) ?_
      exact ret_v (wf := wC G a T) X hm hP hS dX4_readValue_83
  · have hm := (if_neg c_1).symm.trans hm
    exact ret_v (wf := wC G a T) X hm hP hS dX4_readValue_7

-- RuledCalendar$Reader.readPart
def moQ4_readPart_L71 {α : Type} (n : Nat) (K0 : Pc4 → Option α) : Nat → Nat → Int32 → Pc4 → Option α
  | 0, _, _, _ => none
  | k + 1, x2, x3, q => (if 200 ≤ x3 then (K0 q) else (gl x2 8 (if (plis x2) = 0 then (K0 q) else (bd1 (moQ4_sees n 44 q) fun r_12 => (if r_12 = 0 then (K0 q) else (bd1 (moQ4_readValue n x2 (s4S q 12 ((r4S q 12) + 1))) fun q_14 => (moQ4_readPart_L71 n K0 k x2 (x3 + 1) q_14)))))))
def moQ4_readPart_B42 (n : Nat) (x2 : Nat) (q : Pc4) : Option (Pc4) :=
  (gl x2 8 (bd1 (moQ4_take n 61 (s4S q 2 ((r4S q 2) ||| (pbit x2)))) fun q_7 => (bd1 (moQ4_readValue n x2 q_7) fun q_8 => (moQ4_readPart_L71 n (fun q_15 => (if (r4S q_15 11) ≤ (r4S q_15 12) then (some q_15) else (bd1 (moQ4_sees n 59 q_15) fun r_17 => (if r_17 = 0 then (bd1 (moQ4_fail n 1 (r4S q_15 12) q_15) fun q_19 => (some q_19)) else (some q_15))))) n x2 0 q_8))))
def moQ4_readPart (n : Nat) (q : Pc4) : Option (Pc4) :=
  (bd2 (moQ4_takeLetters n 200 q) fun r_1 q_1 => (bd1 (moQ4_partNamed n r_1 q_1) fun o_2 => (oc o_2 (bd1 (moQ4_fail n 1 r_1 q_1) fun q_3 => (some q_3)) (fun p_2 => (bd1 (moQ5_has n p_2 q_1) fun r_4 => (if r_4 = 0 then (moQ4_readPart_B42 n p_2 q_1) else (bd1 (moQ4_fail n 3 r_1 q_1) fun q_20 => (moQ4_readPart_B42 n p_2 q_20))))))))
set_option maxHeartbeats 4000000 in
set_option maxRecDepth 100000 in
theorem lpQ4_readPart_71 {p : Program} {l : Launch} {e : Env} {s : State} {m : MethodId} {args : Array Value} {below : List Frame} {meth : Method} {c : Code} {G : Ev} {a : Nat → Nat} {T : va_W} {Q : State → Prop} {A : Nat → Prop} {q0 : Pc4} (X : CX p s m args meth c cX4_readPart 4 none RX4 (.code yX4_readPart cX4_readPart 4 none) G A) (hD : va_D A (wC G a T q0)) {α : Type} {o : α} {n : Nat} {K0 : Pc4 → Option α} (h0 : ∀ (q : Pc4) (H : Heap) (locs : List Loc) (ls : Array Slot), K0 q = some o → va_P (DD G) vwCl (wC G a T q) H → va_S A s.heap H locs → lv_has ls 4 [(0, .ref (a 8))] → W p l e { frames := 7, cells := 0, slots := 0, locals := 153 } s m args below meth c H locs 0 0 Q (F0 m 115 ls [])) : ∀ (k : Nat) (x2 : Nat) (x3 : Int32) (q : Pc4) (H : Heap) (locs : List Loc) (ls : Array Slot), moQ4_readPart_L71 n K0 k x2 x3 q = some o → va_P (DD G) vwCl (wC G a T q) H → va_S A s.heap H locs → lv_has ls 4 [(0, .ref (a 8)), (2, .ref (sa G (10 + x2))), (3, .int x3)] → W p l e { frames := 7, cells := 0, slots := 0, locals := 153 } s m args below meth c H locs 0 0 Q (F0 m 71 ls []) := by
  obtain ⟨⟨hx, hb, hml, hown, hts⟩, hK, hr, hlk, hA, hAs, hSta⟩ := id X
  intro k
  induction k with
  | zero =>
    intro x2 x3 q H locs ls hm
    have hm : none = some o := hm
    cases hm
  | succ k ih =>
    intro x2 x3 q H locs ls hm hP hS hl
    rw [moQ4_readPart_L71] at hm
    refine lv_iload_n hx hb dX4_readPart_71 rfl (lv_at hl 2 rfl) ?_
    refine lv_sipush (v := 200) hx hb dX4_readPart_72 (by decide) ?_
    refine lv_icmp_ge (tgt := 115) hx hb dX4_readPart_75 (by decide) (fun c_9 => ?_) (fun c_9 => ?_)
    · have hm := (if_pos c_9).symm.trans hm
      exact h0 _ _ _ _ hm hP hS (lv_sub hl [0] rfl)
    · have hm := (if_neg c_9).symm.trans hm
      refine lv_aload_n hx hb dX4_readPart_78 rfl (lv_at hl 1 rfl) ?_
      obtain ⟨hg_10, hm⟩ := gl_s hm
      refine vk_getf hx hb (fP_isList X hg_10) hS hown (hts _ (List.mem_cons_of_mem _ kw1081)) (fun _ h => h) dX4_readPart_79 ?_
      refine lv_if_eq (tgt := 115) hx hb dX4_readPart_82 (by decide) (fun c_11 => ?_) (fun c_11 => ?_)
      · have hm := (if_pos c_11).symm.trans hm
        exact h0 _ _ _ _ hm hP hS (lv_sub hl [0] rfl)
      · have hm := (if_neg c_11).symm.trans hm
        refine lv_aload_n hx hb dX4_readPart_85 rfl (lv_at hl 0 rfl) ?_
        refine lv_bipush (v := 44) hx hb dX4_readPart_86 (by decide) ?_
        obtain ⟨r_12, e_12, hm⟩ := bd1_s hm
        refine goV_i (n := 1) (C := RX4) X (cQ4_sees e_12) (gV kw414 kw416 ks_yX4_sees kw7 kw417) (by decide +kernel) ⟨by decide, by decide⟩ (rc_reader hK hP) hP (dC (q1 := q) hD) hS rfl rfl hl.1 (Nat.le_of_ble_eq_true rfl) dX4_readPart_88 ⟨Nat.le_refl _, Nat.le_refl _⟩ (fun H locs hP _ hS => ?_)
        refine lv_if_eq (tgt := 115) hx hb dX4_readPart_91 (by decide) (fun c_13 => ?_) (fun c_13 => ?_)
        · have hm := (if_pos c_13).symm.trans hm
          exact h0 _ _ _ _ hm hP hS (lv_sub hl [0] rfl)
        · have hm := (if_neg c_13).symm.trans hm
          refine lv_aload_n hx hb dX4_readPart_94 rfl (lv_at hl 0 rfl) ?_
          refine lv_dup hx hb dX4_readPart_95 rfl ?_
          refine gC_reader_at X kw137 hP dX4_readPart_96 ?_
          refine lv_iconst (v := 1) hx hb dX4_readPart_99 (by decide) ?_
          refine lv_iadd hx hb dX4_readPart_100 ?_
          refine pC_reader_at X kw137 hP (dC (q1 := q) hD) hS dX4_readPart_101 (fun H locs hP hS => ?_)
          have hP : va_P (DD G) vwCl (wC G a T (s4S q 12 ((r4S q 12) + 1))) H := hP
          refine lv_aload_n hx hb dX4_readPart_104 rfl (lv_at hl 0 rfl) ?_
          refine lv_aload_n hx hb dX4_readPart_105 rfl (lv_at hl 1 rfl) ?_
          obtain ⟨q_14, e_14, hm⟩ := bd1_s hm
          refine goV_v (n := 1) (C := RX4) X (cQ4_readValue e_14) (gV kw418 kw420 ks_yX4_readValue kw7 kw421) (by decide +kernel) ⟨by decide, by decide⟩ (rc_reader hK hP) hP (dC (q1 := (s4S q 12 ((r4S q 12) + 1))) hD) hS rfl rfl hl.1 (Nat.le_of_ble_eq_true rfl) dX4_readPart_106 ⟨Nat.le_refl _, Nat.le_refl _⟩ (fun H locs hP _ hS => ?_)
          refine lv_iinc (v := (x3 + 1)) (lv' := [(3, .int (x3 + 1)), (0, .ref (a 8)), (2, .ref (sa G (10 + x2)))]) hx hb dX4_readPart_109 hl (k := 2) rfl (by first | rfl | decide) (by decide) rfl (fun ls hl => ?_)
          refine lv_goto (tgt := 71) hx hb dX4_readPart_112 (by decide) ?_
          exact ih _ _ _ _ _ _ hm hP hS (lv_sub hl [1, 2, 0] rfl)
set_option maxHeartbeats 4000000 in
set_option maxRecDepth 100000 in
theorem bkQ4_readPart_42 {p : Program} {l : Launch} {e : Env} {s : State} {m : MethodId} {args : Array Value} {below : List Frame} {meth : Method} {c : Code} {G : Ev} {a : Nat → Nat} {T : va_W}  {q0 : Pc4} {L : List Nat} {q' : Pc4} {n : Nat} {x2 : Nat} {q : Pc4} {H : Heap} {locs : List Loc} {ls : Array Slot} (X : CX p s m args meth c cX4_readPart 4 none RX4 (.code yX4_readPart cX4_readPart 4 none) G (AL L s.heap.size)) (hD : va_D (AL L s.heap.size) (wC G a T q0)) (hm : moQ4_readPart_B42 n x2 q = some q') (hP : va_P (DD G) vwCl (wC G a T q) H) (hS : va_S (AL L s.heap.size) s.heap H locs) (hl : lv_has ls 4 [(0, .ref (a 8)), (2, .ref (sa G (10 + x2)))]) : W p l e { frames := 7, cells := 0, slots := 0, locals := 153 } s m args below meth c H locs 0 0 (MQ below (va_Qv (fun _ : Unit => True) (fun _ t => va_P (DD G) vwCl (wC G a T q') t.heap) (AL L s.heap.size)) args s 0 0 (AL L s.heap.size)) (F0 m 42 ls []) := by
  obtain ⟨⟨hx, hb, hml, hown, hts⟩, hK, hr, hlk, hA, hAs, hSta⟩ := id X
  unfold moQ4_readPart_B42 at hm
  refine lv_aload_n hx hb dX4_readPart_42 rfl (lv_at hl 0 rfl) ?_
  refine gC_reader_rule X kw134 hP dX4_readPart_43 ?_
  refine lv_dup hx hb dX4_readPart_46 rfl ?_
  refine gC_rule_present X kw74 hP dX4_readPart_47 ?_
  refine lv_aload_n hx hb dX4_readPart_50 rfl (lv_at hl 1 rfl) ?_
  obtain ⟨hg_6, hm⟩ := gl_s hm
  refine vk_getf hx hb (fP_bit X hg_6) hS hown (hts _ (List.mem_cons_of_mem _ kw1076)) (fun _ h => h) dX4_readPart_51 ?_
  refine lv_ior hx hb dX4_readPart_54 ?_
  refine pC_rule_present X kw74 hP (dC (q1 := q) hD) hS dX4_readPart_55 (fun H locs hP hS => ?_)
  have hP : va_P (DD G) vwCl (wC G a T (s4S q 2 ((r4S q 2) ||| (pbit x2)))) H := hP
  refine lv_aload_n hx hb dX4_readPart_58 rfl (lv_at hl 0 rfl) ?_
  refine lv_bipush (v := 61) hx hb dX4_readPart_59 (by decide) ?_
  obtain ⟨q_7, e_7, hm⟩ := bd1_s hm
  refine goV_v (n := 1) (C := RX4) X (cQ4_take e_7) (gV kw410 kw412 ks_yX4_take kw7 kw413) (by decide +kernel) ⟨by decide, by decide⟩ (rc_reader hK hP) hP (dC (q1 := (s4S q 2 ((r4S q 2) ||| (pbit x2)))) hD) hS rfl rfl hl.1 (Nat.le_of_ble_eq_true rfl) dX4_readPart_61 ⟨Nat.le_refl _, Nat.le_refl _⟩ (fun H locs hP _ hS => ?_)
  refine lv_aload_n hx hb dX4_readPart_64 rfl (lv_at hl 0 rfl) ?_
  refine lv_aload_n hx hb dX4_readPart_65 rfl (lv_at hl 1 rfl) ?_
  obtain ⟨q_8, e_8, hm⟩ := bd1_s hm
  refine goV_v (n := 1) (C := RX4) X (cQ4_readValue e_8) (gV kw418 kw420 ks_yX4_readValue kw7 kw421) (by decide +kernel) ⟨by decide, by decide⟩ (rc_reader hK hP) hP (dC (q1 := q_7) hD) hS rfl rfl hl.1 (Nat.le_of_ble_eq_true rfl) dX4_readPart_66 ⟨Nat.le_refl _, Nat.le_refl _⟩ (fun H locs hP _ hS => ?_)
  refine lv_iconst (v := 0) hx hb dX4_readPart_69 (by decide) ?_
  refine lv_istore_n (lv' := [(3, .int 0), (0, .ref (a 8)), (2, .ref (sa G (10 + x2)))]) hx hb dX4_readPart_70 rfl hl (by decide) rfl (fun ls hl => ?_)
  refine lpQ4_readPart_71 X hD (fun q_15 H locs ls hm hP hS hl => ?_) n _ _ _ _ _ _ hm hP hS (lv_sub hl [1, 2, 0] rfl)
  refine lv_aload_n hx hb dX4_readPart_115 rfl (lv_at hl 0 rfl) ?_
  refine gC_reader_at X kw137 hP dX4_readPart_116 ?_
  refine lv_aload_n hx hb dX4_readPart_119 rfl (lv_at hl 0 rfl) ?_
  refine gC_reader_length X kw136 hP dX4_readPart_120 ?_
  refine lv_icmp_ge (tgt := 144) hx hb dX4_readPart_123 (by decide) (fun c_16 => ?_) (fun c_16 => ?_)
  · have hm := (if_pos c_16).symm.trans hm
    exact ret_v (wf := wC G a T) X hm hP hS dX4_readPart_144
  · have hm := (if_neg c_16).symm.trans hm
    refine lv_aload_n hx hb dX4_readPart_126 rfl (lv_at hl 0 rfl) ?_
    refine lv_bipush (v := 59) hx hb dX4_readPart_127 (by decide) ?_
    obtain ⟨r_17, e_17, hm⟩ := bd1_s hm
    refine goV_i (n := 1) (C := RX4) X (cQ4_sees e_17) (gV kw414 kw416 ks_yX4_sees kw7 kw417) (by decide +kernel) ⟨by decide, by decide⟩ (rc_reader hK hP) hP (dC (q1 := q_15) hD) hS rfl rfl hl.1 (Nat.le_of_ble_eq_true rfl) dX4_readPart_129 ⟨Nat.le_refl _, Nat.le_refl _⟩ (fun H locs hP _ hS => ?_)
    refine lv_if_ne (tgt := 144) hx hb dX4_readPart_132 (by decide) (fun c_18 => ?_) (fun c_18 => ?_)
    · have hm := (if_neg c_18).symm.trans hm
      exact ret_v (wf := wC G a T) X hm hP hS dX4_readPart_144
    · have hm := (if_pos c_18).symm.trans hm
      refine lv_aload_n hx hb dX4_readPart_135 rfl (lv_at hl 0 rfl) ?_
      refine lv_iconst (v := 1) hx hb dX4_readPart_136 (by decide) ?_
      refine lv_aload_n hx hb dX4_readPart_137 rfl (lv_at hl 0 rfl) ?_
      refine gC_reader_at X kw137 hP dX4_readPart_138 ?_
      obtain ⟨q_19, e_19, hm⟩ := bd1_s hm
      refine goV_v (n := 2) (C := RX4) X (cQ4_fail e_19) (gV kw344 kw346 ks_yX4_fail kw7 kw347) (by decide +kernel) ⟨by decide, by decide⟩ (rc_reader hK hP) hP (dC (q1 := q_15) hD) hS rfl rfl hl.1 (Nat.le_of_ble_eq_true rfl) dX4_readPart_141 ⟨Nat.le_refl _, Nat.le_refl _⟩ (fun H locs hP _ hS => ?_)
      exact ret_v (wf := wC G a T) X hm hP hS dX4_readPart_144
set_option maxHeartbeats 4000000 in
set_option maxRecDepth 100000 in
theorem cQ4_readPart {l : Launch} {G : Ev} {a : Nat → Nat} {T : va_W} {n : Nat} {q : Pc4} {q' : Pc4} (hm : moQ4_readPart n q = some q') : CtV l G yX4_readPart cX4_readPart 4 none 7 153 0 0 [.ref (a 8)] (wC G a T q) (wC G a T q') := by
  intro sz
  refine enter (by decide) (Nat.le_of_ble_eq_true rfl) ?_
  intro p e s m args below meth c ls X hsz hP hD hS hl
  subst hsz
  obtain ⟨⟨hx, hb, hml, hown, hts⟩, hK, hr, hlk, hA, hAs, hSta⟩ := id X
  have hl : lv_has ls 4 [(0, .ref (a 8))] := hl
  unfold moQ4_readPart at hm
  refine lv_aload_n hx hb dX4_readPart_0 rfl (lv_at hl 0 rfl) ?_
  refine lv_sipush (v := 200) hx hb dX4_readPart_1 (by decide) ?_
  obtain ⟨r_1, q_1, e_1, hm⟩ := bd2_s hm
  refine goV_i (n := 1) (C := RX4) X (cQ4_takeLetters e_1) (gV kw336 kw338 ks_yX4_takeLetters kw7 kw339) (by decide +kernel) ⟨by decide, by decide⟩ (rc_reader hK hP) hP (dC (q1 := q) hD) hS rfl rfl hl.1 (Nat.le_of_ble_eq_true rfl) dX4_readPart_4 ⟨Nat.le_refl _, Nat.le_refl _⟩ (fun H locs hP _ hS => ?_)
  refine lv_istore_n (lv' := [(1, .int r_1), (0, .ref (a 8))]) hx hb dX4_readPart_7 rfl hl (by decide) rfl (fun ls hl => ?_)
  refine lv_aload_n hx hb dX4_readPart_8 rfl (lv_at hl 1 rfl) ?_
  refine lv_iload_n hx hb dX4_readPart_9 rfl (lv_at hl 0 rfl) ?_
  obtain ⟨o_2, e_2, hm⟩ := bd1_s hm
  refine goV_o (n := 1) (C := RX4) X (cQ4_partNamed e_2) (gV kw348 kw350 ks_yX4_partNamed kw7 kw351) (by decide +kernel) ⟨by decide, by decide⟩ (rc_reader hK hP) hP (dC (q1 := q_1) hD) hS rfl rfl hl.1 (Nat.le_of_ble_eq_true rfl) dX4_readPart_10 ⟨Nat.le_refl _, Nat.le_refl _⟩ (fun H locs hP _ hS => ?_)
  cases o_2 with
  | none =>
    have hm := oc_n hm
    refine W.eq (g2 := F0 _ _ _ (.null :: _)) rfl ?_
    refine lv_astore_nN (lv' := [(2, .null), (1, .int r_1), (0, .ref (a 8))]) hx hb dX4_readPart_13 rfl hl (by decide) rfl (fun ls hl => ?_)
    refine lv_aload_nN hx hb dX4_readPart_14 rfl (lv_at hl 0 rfl) ?_
    refine lv_ifnonnullN hx hb dX4_readPart_15 ?_
    refine lv_aload_n hx hb dX4_readPart_18 rfl (lv_at hl 2 rfl) ?_
    refine lv_iconst (v := 1) hx hb dX4_readPart_19 (by decide) ?_
    refine lv_iload_n hx hb dX4_readPart_20 rfl (lv_at hl 1 rfl) ?_
    obtain ⟨q_3, e_3, hm⟩ := bd1_s hm
    refine goV_v (n := 2) (C := RX4) X (cQ4_fail e_3) (gV kw344 kw346 ks_yX4_fail kw7 kw347) (by decide +kernel) ⟨by decide, by decide⟩ (rc_reader hK hP) hP (dC (q1 := q_1) hD) hS rfl rfl hl.1 (Nat.le_of_ble_eq_true rfl) dX4_readPart_21 ⟨Nat.le_refl _, Nat.le_refl _⟩ (fun H locs hP _ hS => ?_)
    exact ret_v (wf := wC G a T) X hm hP hS dX4_readPart_24
  | some p_2 =>
    have hm := oc_j hm
    refine W.eq (g2 := F0 _ _ _ (.ref (sa G (10 + p_2)) :: _)) rfl ?_
    refine lv_astore_n (lv' := [(2, .ref (sa G (10 + p_2))), (1, .int r_1), (0, .ref (a 8))]) hx hb dX4_readPart_13 rfl hl (by decide) rfl (fun ls hl => ?_)
    refine lv_aload_n hx hb dX4_readPart_14 rfl (lv_at hl 0 rfl) ?_
    refine lv_ifnonnull (tgt := 25) hx hb dX4_readPart_15 (by decide) ?_
    refine lv_aload_n hx hb dX4_readPart_25 rfl (lv_at hl 2 rfl) ?_
    refine gC_reader_rule X kw134 hP dX4_readPart_26 ?_
    refine lv_aload_n hx hb dX4_readPart_29 rfl (lv_at hl 0 rfl) ?_
    obtain ⟨r_4, e_4, hm⟩ := bd1_s hm
    refine goV_i (n := 1) (C := RX5) X (cQ5_has e_4) (gV kw406 kw407 kw408 kw3 kw409) (by decide +kernel) ⟨by decide, by decide⟩ (rc_rule hK hP) hP (dC (q1 := q_1) hD) hS rfl rfl hl.1 (Nat.le_of_ble_eq_true rfl) dX4_readPart_30 ⟨Nat.le_refl _, Nat.le_refl _⟩ (fun H locs hP _ hS => ?_)
    refine lv_if_eq (tgt := 42) hx hb dX4_readPart_33 (by decide) (fun c_5 => ?_) (fun c_5 => ?_)
    · have hm := (if_pos c_5).symm.trans hm
      exact bkQ4_readPart_42 X hD hm hP hS (lv_sub hl [2, 0] rfl)
    · have hm := (if_neg c_5).symm.trans hm
      refine lv_aload_n hx hb dX4_readPart_36 rfl (lv_at hl 2 rfl) ?_
      refine lv_iconst (v := 3) hx hb dX4_readPart_37 (by decide) ?_
      refine lv_iload_n hx hb dX4_readPart_38 rfl (lv_at hl 1 rfl) ?_
      obtain ⟨q_20, e_20, hm⟩ := bd1_s hm
      refine goV_v (n := 2) (C := RX4) X (cQ4_fail e_20) (gV kw344 kw346 ks_yX4_fail kw7 kw347) (by decide +kernel) ⟨by decide, by decide⟩ (rc_reader hK hP) hP (dC (q1 := q_1) hD) hS rfl rfl hl.1 (Nat.le_of_ble_eq_true rfl) dX4_readPart_39 ⟨Nat.le_refl _, Nat.le_refl _⟩ (fun H locs hP _ hS => ?_)
      exact bkQ4_readPart_42 X hD hm hP hS (lv_sub hl [2, 0] rfl)
