-- RuledCalendar$Reader.readRule
def moQ4_readRule_L43 {α : Type} (n : Nat) (K0 : Pc4 → Option α) : Nat → Int32 → Pc4 → Option α
  | 0, _, _ => none
  | k + 1, x3, q => (if 200 ≤ x3 then (K0 q) else (if (r4S q 13) = 0 then (if (r4S q 11) ≤ (r4S q 12) then (K0 q) else (bd1 (moQ4_take n 59 q) fun q_6 => (bd1 (moQ4_readPart n q_6) fun q_7 => (moQ4_readRule_L43 n K0 k (x3 + 1) q_7)))) else (K0 q)))
def moQ4_readRule (n : Nat) (x2 : Int32) (q : Pc4) : Option (Pc4) :=
  (bd1 (moQ5_forget n (s4S (s4S (s4S (s4S (s4I q 0 1) 11 (minI x2 200)) 12 0) 13 0) 14 (-1))) fun q_1 => (bd1 (moQ4_readPart n q_1) fun q_2 => (moQ4_readRule_L43 n (fun q_8 => (bd1 (moQ5_goesTogether n q_8) fun r_9 => (if r_9 = 0 then (bd1 (moQ4_fail n 4 (r4S q_8 11) q_8) fun q_11 => (some q_11)) else (some q_8)))) n 0 q_2)))
set_option maxHeartbeats 4000000 in
set_option maxRecDepth 100000 in
theorem lpQ4_readRule_43 {p : Program} {l : Launch} {e : Env} {s : State} {m : MethodId} {args : Array Value} {below : List Frame} {meth : Method} {c : Code} {G : Ev} {a : Nat → Nat} {T : va_W} {Q : State → Prop} {A : Nat → Prop} {q0 : Pc4} (X : CX p s m args meth c cX4_readRule 4 none RX4 (.code yX4_readRule cX4_readRule 4 none) G A) (hD : va_D A (wC G a T q0)) {α : Type} {o : α} {n : Nat} {K0 : Pc4 → Option α} (h0 : ∀ (q : Pc4) (H : Heap) (locs : List Loc) (ls : Array Slot), K0 q = some o → va_P (DD G) vwCl (wC G a T q) H → va_S A s.heap H locs → lv_has ls 4 [(0, .ref (a 8))] → W p l e { frames := 8, cells := 0, slots := 0, locals := 176 } s m args below meth c H locs 0 0 Q (F0 m 84 ls [])) : ∀ (k : Nat) (x3 : Int32) (q : Pc4) (H : Heap) (locs : List Loc) (ls : Array Slot), moQ4_readRule_L43 n K0 k x3 q = some o → va_P (DD G) vwCl (wC G a T q) H → va_S A s.heap H locs → lv_has ls 4 [(0, .ref (a 8)), (3, .int x3)] → W p l e { frames := 8, cells := 0, slots := 0, locals := 176 } s m args below meth c H locs 0 0 Q (F0 m 43 ls []) := by
  obtain ⟨⟨hx, hb, hml, hown, hts⟩, hK, hr, hlk, hA, hAs, hSta⟩ := id X
  intro k
  induction k with
  | zero =>
    intro x3 q H locs ls hm
    have hm : none = some o := hm
    cases hm
  | succ k ih =>
    intro x3 q H locs ls hm hP hS hl
    rw [moQ4_readRule_L43] at hm
    refine lv_iload_n hx hb dX4_readRule_43 rfl (lv_at hl 1 rfl) ?_
    refine lv_sipush (v := 200) hx hb dX4_readRule_44 (by decide) ?_
    refine lv_icmp_ge (tgt := 84) hx hb dX4_readRule_47 (by decide) (fun c_3 => ?_) (fun c_3 => ?_)
    · have hm := (if_pos c_3).symm.trans hm
      exact h0 _ _ _ _ hm hP hS (lv_sub hl [0] rfl)
    · have hm := (if_neg c_3).symm.trans hm
      refine lv_aload_n hx hb dX4_readRule_50 rfl (lv_at hl 0 rfl) ?_
      refine gC_reader_faultKind X kw138 hP dX4_readRule_51 ?_
      refine lv_if_ne (tgt := 84) hx hb dX4_readRule_54 (by decide) (fun c_4 => ?_) (fun c_4 => ?_)
      · have hm := (if_neg c_4).symm.trans hm
        exact h0 _ _ _ _ hm hP hS (lv_sub hl [0] rfl)
      · have hm := (if_pos c_4).symm.trans hm
        refine lv_aload_n hx hb dX4_readRule_57 rfl (lv_at hl 0 rfl) ?_
        refine gC_reader_at X kw137 hP dX4_readRule_58 ?_
        refine lv_aload_n hx hb dX4_readRule_61 rfl (lv_at hl 0 rfl) ?_
        refine gC_reader_length X kw136 hP dX4_readRule_62 ?_
        refine lv_icmp_ge (tgt := 84) hx hb dX4_readRule_65 (by decide) (fun c_5 => ?_) (fun c_5 => ?_)
        · have hm := (if_pos c_5).symm.trans hm
          exact h0 _ _ _ _ hm hP hS (lv_sub hl [0] rfl)
        · have hm := (if_neg c_5).symm.trans hm
          refine lv_aload_n hx hb dX4_readRule_68 rfl (lv_at hl 0 rfl) ?_
          refine lv_bipush (v := 59) hx hb dX4_readRule_69 (by decide) ?_
          obtain ⟨q_6, e_6, hm⟩ := bd1_s hm
          refine goV_v (n := 1) (C := RX4) X (cQ4_take e_6) (gV kw410 kw412 ks_yX4_take kw7 kw413) (by decide +kernel) ⟨by decide, by decide⟩ (rc_reader hK hP) hP (dC (q1 := q) hD) hS rfl rfl hl.1 (Nat.le_of_ble_eq_true rfl) dX4_readRule_71 ⟨Nat.le_refl _, Nat.le_refl _⟩ (fun H locs hP _ hS => ?_)
          refine lv_aload_n hx hb dX4_readRule_74 rfl (lv_at hl 0 rfl) ?_
          obtain ⟨q_7, e_7, hm⟩ := bd1_s hm
          refine goV_v (n := 0) (C := RX4) X (cQ4_readPart e_7) (gV kw332 kw334 ks_yX4_readPart kw7 kw335) (by decide +kernel) ⟨by decide, by decide⟩ (rc_reader hK hP) hP (dC (q1 := q_6) hD) hS rfl rfl hl.1 (Nat.le_of_ble_eq_true rfl) dX4_readRule_75 ⟨Nat.le_refl _, Nat.le_refl _⟩ (fun H locs hP _ hS => ?_)
          refine lv_iinc (v := (x3 + 1)) (lv' := [(3, .int (x3 + 1)), (0, .ref (a 8))]) hx hb dX4_readRule_78 hl (k := 1) rfl (by first | rfl | decide) (by decide) rfl (fun ls hl => ?_)
          refine lv_goto (tgt := 43) hx hb dX4_readRule_81 (by decide) ?_
          exact ih _ _ _ _ _ hm hP hS (lv_sub hl [1, 0] rfl)
set_option maxHeartbeats 4000000 in
set_option maxRecDepth 100000 in
theorem cQ4_readRule {l : Launch} {G : Ev} {a : Nat → Nat} {T : va_W} {n : Nat} {q : Pc4} {x2 : Int32} {q' : Pc4} (hm : moQ4_readRule n x2 q = some q') : CtV l G yX4_readRule cX4_readRule 4 none 8 176 0 0 [.ref (a 8), .ref (a 1), .int x2] (wC G a T q) (wC G a T q') := by
  intro sz
  refine enter (by decide) (Nat.le_of_ble_eq_true rfl) ?_
  intro p e s m args below meth c ls X hsz hP hD hS hl
  subst hsz
  obtain ⟨⟨hx, hb, hml, hown, hts⟩, hK, hr, hlk, hA, hAs, hSta⟩ := id X
  have hl : lv_has ls 4 [(0, .ref (a 8)), (1, .ref (a 1)), (2, .int x2)] := hl
  unfold moQ4_readRule at hm
  refine lv_aload_n hx hb dX4_readRule_0 rfl (lv_at hl 0 rfl) ?_
  refine lv_aload_n hx hb dX4_readRule_1 rfl (lv_at hl 1 rfl) ?_
  refine pC_reader_text (v := 1) X kw135 hP (dC (q1 := q) hD) hS dX4_readRule_2 (fun H locs hP hS => ?_)
  have hP : va_P (DD G) vwCl (wC G a T (s4I q 0 1)) H := hP
  refine lv_aload_n hx hb dX4_readRule_5 rfl (lv_at hl 0 rfl) ?_
  refine lv_iload_n hx hb dX4_readRule_6 rfl (lv_at hl 2 rfl) ?_
  refine lv_aload_n hx hb dX4_readRule_7 rfl (lv_at hl 1 rfl) ?_
  refine leC_text X hP dX4_readRule_8 ?_
  refine va_mmin hx hb (by rw [hml]; exact hl.1.symm) hown (hts _ (List.mem_cons_of_mem _ kw328)) (hts _ (List.mem_cons_of_mem _ kw329)) (hts _ (List.mem_cons_of_mem _ kw14)) (hts _ (List.mem_cons_of_mem _ kMin)) (by decide) (Nat.le_of_ble_eq_true rfl) (Nat.le_refl _) (Nat.le_refl _) dX4_readRule_9 ?_
  refine pC_reader_length X kw136 hP (dC (q1 := (s4I q 0 1)) hD) hS dX4_readRule_12 (fun H locs hP hS => ?_)
  have hP : va_P (DD G) vwCl (wC G a T (s4S (s4I q 0 1) 11 (minI x2 200))) H := hP
  refine lv_aload_n hx hb dX4_readRule_15 rfl (lv_at hl 0 rfl) ?_
  refine lv_iconst (v := 0) hx hb dX4_readRule_16 (by decide) ?_
  refine pC_reader_at X kw137 hP (dC (q1 := (s4S (s4I q 0 1) 11 (minI x2 200))) hD) hS dX4_readRule_17 (fun H locs hP hS => ?_)
  have hP : va_P (DD G) vwCl (wC G a T (s4S (s4S (s4I q 0 1) 11 (minI x2 200)) 12 0)) H := hP
  refine lv_aload_n hx hb dX4_readRule_20 rfl (lv_at hl 0 rfl) ?_
  refine lv_iconst (v := 0) hx hb dX4_readRule_21 (by decide) ?_
  refine pC_reader_faultKind X kw138 hP (dC (q1 := (s4S (s4S (s4I q 0 1) 11 (minI x2 200)) 12 0)) hD) hS dX4_readRule_22 (fun H locs hP hS => ?_)
  have hP : va_P (DD G) vwCl (wC G a T (s4S (s4S (s4S (s4I q 0 1) 11 (minI x2 200)) 12 0) 13 0)) H := hP
  refine lv_aload_n hx hb dX4_readRule_25 rfl (lv_at hl 0 rfl) ?_
  refine lv_iconst (v := (-1)) hx hb dX4_readRule_26 (by decide) ?_
  refine pC_reader_faultPlace X kw140 hP (dC (q1 := (s4S (s4S (s4S (s4I q 0 1) 11 (minI x2 200)) 12 0) 13 0)) hD) hS dX4_readRule_27 (fun H locs hP hS => ?_)
  have hP : va_P (DD G) vwCl (wC G a T (s4S (s4S (s4S (s4S (s4I q 0 1) 11 (minI x2 200)) 12 0) 13 0) 14 (-1))) H := hP
  refine lv_aload_n hx hb dX4_readRule_30 rfl (lv_at hl 0 rfl) ?_
  refine gC_reader_rule X kw134 hP dX4_readRule_31 ?_
  obtain ⟨q_1, e_1, hm⟩ := bd1_s hm
  refine goN_v (n := 0) (C := RX5) X (cQ5_forget e_1) hSta.2.2.2.2.2.2.2.2.2.2.2.2.2.2.2.2.2.2.2.2.2.1.2.1 kw61 ks_yX5_forget kw3 kw62 (by decide +kernel) ⟨by decide, by decide⟩ (rc_rule hK hP) hP (dC (q1 := (s4S (s4S (s4S (s4S (s4I q 0 1) 11 (minI x2 200)) 12 0) 13 0) 14 (-1))) hD) hS rfl rfl hl.1 (Nat.le_of_ble_eq_true rfl) dX4_readRule_34 ⟨Nat.le_refl _, Nat.le_refl _⟩ (fun H locs hP _ hS => ?_)
  refine lv_aload_n hx hb dX4_readRule_37 rfl (lv_at hl 0 rfl) ?_
  obtain ⟨q_2, e_2, hm⟩ := bd1_s hm
  refine goV_v (n := 0) (C := RX4) X (cQ4_readPart e_2) (gV kw332 kw334 ks_yX4_readPart kw7 kw335) (by decide +kernel) ⟨by decide, by decide⟩ (rc_reader hK hP) hP (dC (q1 := q_1) hD) hS rfl rfl hl.1 (Nat.le_of_ble_eq_true rfl) dX4_readRule_38 ⟨Nat.le_refl _, Nat.le_refl _⟩ (fun H locs hP _ hS => ?_)
  refine lv_iconst (v := 0) hx hb dX4_readRule_41 (by decide) ?_
  refine lv_istore_n (lv' := [(3, .int 0), (0, .ref (a 8)), (1, .ref (a 1)), (2, .int x2)]) hx hb dX4_readRule_42 rfl hl (by decide) rfl (fun ls hl => ?_)
  refine lpQ4_readRule_43 X hD (fun q_8 H locs ls hm hP hS hl => ?_) n _ _ _ _ _ hm hP hS (lv_sub hl [1, 0] rfl)
  refine lv_aload_n hx hb dX4_readRule_84 rfl (lv_at hl 0 rfl) ?_
  refine gC_reader_rule X kw134 hP dX4_readRule_85 ?_
  obtain ⟨r_9, e_9, hm⟩ := bd1_s hm
  refine goV_i (n := 0) (C := RX5) X (cQ5_goesTogether e_9) (gV kw474 kw475 kw476 kw3 kw477) (by decide +kernel) ⟨by decide, by decide⟩ (rc_rule hK hP) hP (dC (q1 := q_8) hD) hS rfl rfl hl.1 (Nat.le_of_ble_eq_true rfl) dX4_readRule_88 ⟨Nat.le_refl _, Nat.le_refl _⟩ (fun H locs hP _ hS => ?_)
  refine lv_if_ne (tgt := 103) hx hb dX4_readRule_91 (by decide) (fun c_10 => ?_) (fun c_10 => ?_)
  · have hm := (if_neg c_10).symm.trans hm
    exact ret_v (wf := wC G a T) X hm hP hS dX4_readRule_103
  · have hm := (if_pos c_10).symm.trans hm
    refine lv_aload_n hx hb dX4_readRule_94 rfl (lv_at hl 0 rfl) ?_
    refine lv_iconst (v := 4) hx hb dX4_readRule_95 (by decide) ?_
    refine lv_aload_n hx hb dX4_readRule_96 rfl (lv_at hl 0 rfl) ?_
    refine gC_reader_length X kw136 hP dX4_readRule_97 ?_
    obtain ⟨q_11, e_11, hm⟩ := bd1_s hm
    refine goV_v (n := 2) (C := RX4) X (cQ4_fail e_11) (gV kw344 kw346 ks_yX4_fail kw7 kw347) (by decide +kernel) ⟨by decide, by decide⟩ (rc_reader hK hP) hP (dC (q1 := q_8) hD) hS rfl rfl hl.1 (Nat.le_of_ble_eq_true rfl) dX4_readRule_100 ⟨Nat.le_refl _, Nat.le_refl _⟩ (fun H locs hP _ hS => ?_)
    exact ret_v (wf := wC G a T) X hm hP hS dX4_readRule_103

-- RuledCalendar$Filler.counts
def moQ1_counts (n : Nat) (ρ : Nat) (x1 : Int32) (x2 : Int32) (q : Pc4) : Option (Int32) :=
  (gl (r4I q 2) 4 (bd1 (moQ2_periodOf n (r4I q 2) x1 x2) fun r_1 => (gz (r4S q 16) (if (rmI (r_1 - (r4S q 17)) (r4S q 16)) = 0 then (some 1) else (some 0)))))
set_option maxHeartbeats 4000000 in
set_option maxRecDepth 100000 in
theorem cQ1_counts {l : Launch} {G : Ev} {a : Nat → Nat} {ρ : Nat} {T : va_W} {n : Nat} {q : Pc4} {x1 : Int32} {x2 : Int32} {r : Int32} (hm : moQ1_counts n ρ x1 x2 q = some r) : CtI l G yX1_counts cX1_counts 3 (some .boolean) 1 22 0 0 [.ref (a 9), .int x1, .int x2] (wF G a ρ T q) (wF G a ρ T q) r := by
  intro sz
  refine enter (by decide) (Nat.le_of_ble_eq_true rfl) ?_
  intro p e s m args below meth c ls X hsz hP hD hS hl
  subst hsz
  obtain ⟨⟨hx, hb, hml, hown, hts⟩, hK, hr, hlk, hA, hAs, hSta⟩ := id X
  have hl : lv_has ls 3 [(0, .ref (a 9)), (1, .int x1), (2, .int x2)] := hl
  unfold moQ1_counts at hm
  refine lv_aload_n hx hb dX1_counts_0 rfl (lv_at hl 0 rfl) ?_
  refine gC_filler_rule X kw162 hP dX1_counts_1 ?_
  refine gC_rule_frequency X kw76 hP dX1_counts_4 ?_
  refine lv_iload_n hx hb dX1_counts_7 rfl (lv_at hl 1 rfl) ?_
  refine lv_iload_n hx hb dX1_counts_8 rfl (lv_at hl 2 rfl) ?_
  obtain ⟨hg_2, hm⟩ := gl_s hm
  obtain ⟨r_1, e_1, hm⟩ := bd1_s hm
  refine goV_i (n := 2) (C := RX2) X (cQ2_periodOf e_1) (gV kw529 kw530 kw531 kw5 kw532) (by decide +kernel) ⟨by decide, by decide⟩ (rcO (oF X hg_2) hS) va_nil va_dnil hS rfl rfl hl.1 (Nat.le_of_ble_eq_true rfl) dX1_counts_9 ⟨Nat.le_refl _, Nat.le_refl _⟩ (fun H locs _ hk hS => ?_)
  have hP := va_keep hP hk
  refine lv_aload_n hx hb dX1_counts_12 rfl (lv_at hl 0 rfl) ?_
  refine gC_filler_startPeriod X kw166 hP dX1_counts_13 ?_
  refine lv_isub hx hb dX1_counts_16 ?_
  refine lv_aload_n hx hb dX1_counts_17 rfl (lv_at hl 0 rfl) ?_
  refine gC_filler_interval X kw165 hP dX1_counts_18 ?_
  obtain ⟨hz_3, hm⟩ := gz_s hm
  refine lv_irem hx hb dX1_counts_21 hz_3 ?_
  refine lv_if_ne (tgt := 29) hx hb dX1_counts_22 (by decide) (fun c_4 => ?_) (fun c_4 => ?_)
  · have hm := (if_neg c_4).symm.trans hm
    refine lv_iconst (v := 0) hx hb dX1_counts_29 (by decide) ?_
    exact ret_zo (wf := wF G a ρ T) X (by decide) hm hP hS dX1_counts_30
  · have hm := (if_pos c_4).symm.trans hm
    refine lv_iconst (v := 1) hx hb dX1_counts_25 (by decide) ?_
    refine lv_goto (tgt := 30) hx hb dX1_counts_26 (by decide) ?_
    exact ret_zo (wf := wF G a ρ T) X (by decide) hm hP hS dX1_counts_30

-- RuledCalendar$Filler.monthSuits
def moQ1_monthSuits (n : Nat) (ρ : Nat) (x1 : Int32) (q : Pc4) : Option (Int32) :=
  (bd1 (moQ5_has n 4 q) fun r_1 => (if r_1 = 0 then (gl (r4I q 2) 4 (if (r4I q 2) = 3 then (bd1 (moQ5_has n 5 q) fun r_5 => (if r_5 = 0 then (bd1 (moQ5_has n 7 q) fun r_7 => (if r_7 = 0 then (bd1 (moQ0_monthOf n (r4S q 15)) fun r_9 => (if (rmI x1 12) = (rmI r_9 12) then (some 1) else (some 0))) else (some 1))) else (some 1))) else (some 1))) else (if ((r4S q 6) &&& (slI 1 ((rmI x1 12) + 1))) = 0 then (some 0) else (some 1))))
set_option maxHeartbeats 4000000 in
set_option maxRecDepth 100000 in
theorem cQ1_monthSuits {l : Launch} {G : Ev} {a : Nat → Nat} {ρ : Nat} {T : va_W} {n : Nat} {q : Pc4} {x1 : Int32} {r : Int32} (hm : moQ1_monthSuits n ρ x1 q = some r) : CtI l G yX1_monthSuits cX1_monthSuits 3 (some .boolean) 1 21 0 0 [.ref (a 9), .int x1] (wF G a ρ T q) (wF G a ρ T q) r := by
  intro sz
  refine enter (by decide) (Nat.le_of_ble_eq_true rfl) ?_
  intro p e s m args below meth c ls X hsz hP hD hS hl
  subst hsz
  obtain ⟨⟨hx, hb, hml, hown, hts⟩, hK, hr, hlk, hA, hAs, hSta⟩ := id X
  have hl : lv_has ls 3 [(0, .ref (a 9)), (1, .int x1)] := hl
  unfold moQ1_monthSuits at hm
  refine lv_aload_n hx hb dX1_monthSuits_0 rfl (lv_at hl 0 rfl) ?_
  refine gC_filler_rule X kw162 hP dX1_monthSuits_1 ?_
  refine va_gets hx hb (zP_BYMONTH X) hS hown (hts _ (List.mem_cons_of_mem _ kw557)) (fun _ h => h) dX1_monthSuits_4 ?_
  obtain ⟨r_1, e_1, hm⟩ := bd1_s hm
  refine goV_i (n := 1) (C := RX5) X (cQ5_has (T := ((a ρ, cRow G (q.2.1 14)) :: T)) e_1) (gV kw558 kw407 kw408 kw3 kw409) (by decide +kernel) ⟨by decide, by decide⟩ (rc_rule hK hP) hP (show va_D _ (wC G a ((a ρ, cRow G (q.2.1 14)) :: T) q) from (dF (q1 := q) hD)) hS rfl rfl hl.1 (Nat.le_of_ble_eq_true rfl) dX1_monthSuits_7 ⟨Nat.le_refl _, Nat.le_refl _⟩ (fun H locs hP _ hS => ?_)
  have hP : va_P (DD G) vwCl (wF G a ρ T q) H := hP
  refine lv_if_eq (tgt := 38) hx hb dX1_monthSuits_10 (by decide) (fun c_2 => ?_) (fun c_2 => ?_)
  · have hm := (if_pos c_2).symm.trans hm
    refine lv_aload_n hx hb dX1_monthSuits_38 rfl (lv_at hl 0 rfl) ?_
    refine gC_filler_rule X kw162 hP dX1_monthSuits_39 ?_
    refine gC_rule_frequency X kw76 hP dX1_monthSuits_42 ?_
    refine va_gets hx hb (zF_YEARLY X) hS hown (hts _ (List.mem_cons_of_mem _ kw559)) (fun _ h => h) dX1_monthSuits_45 ?_
    obtain ⟨hg_3, hm⟩ := gl_s hm
    refine acF (tgt := 81) X hg_3 (by decide) dX1_monthSuits_48 (by decide) (fun c_4 => ?_) (fun c_4 => ?_)
    · have hm := (if_neg c_4).symm.trans hm
      refine lv_iconst (v := 0) hx hb dX1_monthSuits_81 (by decide) ?_
      refine lv_istore_n (lv' := [(2, .int 0), (0, .ref (a 9)), (1, .int x1)]) hx hb dX1_monthSuits_82 rfl hl (by decide) rfl (fun ls hl => ?_)
      refine lv_iload_n hx hb dX1_monthSuits_83 rfl (lv_at hl 0 rfl) ?_
      refine lv_if_eq (tgt := 104) hx hb dX1_monthSuits_84 (by decide) (fun _ => ?_) (fun c_0 => absurd c_0 (by decide))
      refine lv_iconst (v := 1) hx hb dX1_monthSuits_104 (by decide) ?_
      refine lv_goto (tgt := 109) hx hb dX1_monthSuits_105 (by decide) ?_
      exact ret_zo (wf := wF G a ρ T) X (by decide) hm hP hS dX1_monthSuits_109
    · have hm := (if_pos c_4).symm.trans hm
      refine lv_aload_n hx hb dX1_monthSuits_51 rfl (lv_at hl 0 rfl) ?_
      refine gC_filler_rule X kw162 hP dX1_monthSuits_52 ?_
      refine va_gets hx hb (zP_BYMONTHDAY X) hS hown (hts _ (List.mem_cons_of_mem _ kw561)) (fun _ h => h) dX1_monthSuits_55 ?_
      obtain ⟨r_5, e_5, hm⟩ := bd1_s hm
      refine goV_i (n := 1) (C := RX5) X (cQ5_has (T := ((a ρ, cRow G (q.2.1 14)) :: T)) e_5) (gV kw558 kw407 kw408 kw3 kw409) (by decide +kernel) ⟨by decide, by decide⟩ (rc_rule hK hP) hP (show va_D _ (wC G a ((a ρ, cRow G (q.2.1 14)) :: T) q) from (dF (q1 := q) hD)) hS rfl rfl hl.1 (Nat.le_of_ble_eq_true rfl) dX1_monthSuits_58 ⟨Nat.le_refl _, Nat.le_refl _⟩ (fun H locs hP _ hS => ?_)
      have hP : va_P (DD G) vwCl (wF G a ρ T q) H := hP
      refine lv_if_ne (tgt := 81) hx hb dX1_monthSuits_61 (by decide) (fun c_6 => ?_) (fun c_6 => ?_)
      · have hm := (if_neg c_6).symm.trans hm
        refine lv_iconst (v := 0) hx hb dX1_monthSuits_81 (by decide) ?_
        refine lv_istore_n (lv' := [(2, .int 0), (0, .ref (a 9)), (1, .int x1)]) hx hb dX1_monthSuits_82 rfl hl (by decide) rfl (fun ls hl => ?_)
        refine lv_iload_n hx hb dX1_monthSuits_83 rfl (lv_at hl 0 rfl) ?_
        refine lv_if_eq (tgt := 104) hx hb dX1_monthSuits_84 (by decide) (fun _ => ?_) (fun c_0 => absurd c_0 (by decide))
        refine lv_iconst (v := 1) hx hb dX1_monthSuits_104 (by decide) ?_
        refine lv_goto (tgt := 109) hx hb dX1_monthSuits_105 (by decide) ?_
        exact ret_zo (wf := wF G a ρ T) X (by decide) hm hP hS dX1_monthSuits_109
      · have hm := (if_pos c_6).symm.trans hm
        refine lv_aload_n hx hb dX1_monthSuits_64 rfl (lv_at hl 0 rfl) ?_
        refine gC_filler_rule X kw162 hP dX1_monthSuits_65 ?_
        refine va_gets hx hb (zP_BYDAY X) hS hown (hts _ (List.mem_cons_of_mem _ kw562)) (fun _ h => h) dX1_monthSuits_68 ?_
        obtain ⟨r_7, e_7, hm⟩ := bd1_s hm
        refine goV_i (n := 1) (C := RX5) X (cQ5_has (T := ((a ρ, cRow G (q.2.1 14)) :: T)) e_7) (gV kw558 kw407 kw408 kw3 kw409) (by decide +kernel) ⟨by decide, by decide⟩ (rc_rule hK hP) hP (show va_D _ (wC G a ((a ρ, cRow G (q.2.1 14)) :: T) q) from (dF (q1 := q) hD)) hS rfl rfl hl.1 (Nat.le_of_ble_eq_true rfl) dX1_monthSuits_71 ⟨Nat.le_refl _, Nat.le_refl _⟩ (fun H locs hP _ hS => ?_)
        have hP : va_P (DD G) vwCl (wF G a ρ T q) H := hP
        refine lv_if_ne (tgt := 81) hx hb dX1_monthSuits_74 (by decide) (fun c_8 => ?_) (fun c_8 => ?_)
        · have hm := (if_neg c_8).symm.trans hm
          refine lv_iconst (v := 0) hx hb dX1_monthSuits_81 (by decide) ?_
          refine lv_istore_n (lv' := [(2, .int 0), (0, .ref (a 9)), (1, .int x1)]) hx hb dX1_monthSuits_82 rfl hl (by decide) rfl (fun ls hl => ?_)
          refine lv_iload_n hx hb dX1_monthSuits_83 rfl (lv_at hl 0 rfl) ?_
          refine lv_if_eq (tgt := 104) hx hb dX1_monthSuits_84 (by decide) (fun _ => ?_) (fun c_0 => absurd c_0 (by decide))
          refine lv_iconst (v := 1) hx hb dX1_monthSuits_104 (by decide) ?_
          refine lv_goto (tgt := 109) hx hb dX1_monthSuits_105 (by decide) ?_
          exact ret_zo (wf := wF G a ρ T) X (by decide) hm hP hS dX1_monthSuits_109
        · have hm := (if_pos c_8).symm.trans hm
          refine lv_iconst (v := 1) hx hb dX1_monthSuits_77 (by decide) ?_
          refine lv_goto (tgt := 82) hx hb dX1_monthSuits_78 (by decide) ?_
          refine lv_istore_n (lv' := [(2, .int 1), (0, .ref (a 9)), (1, .int x1)]) hx hb dX1_monthSuits_82 rfl hl (by decide) rfl (fun ls hl => ?_)
          refine lv_iload_n hx hb dX1_monthSuits_83 rfl (lv_at hl 0 rfl) ?_
          refine lv_if_eq (tgt := 104) hx hb dX1_monthSuits_84 (by decide) (fun c_0 => absurd c_0 (by decide)) (fun _ => ?_)
          refine lv_iload_n hx hb dX1_monthSuits_87 rfl (lv_at hl 2 rfl) ?_
          refine lv_bipush (v := 12) hx hb dX1_monthSuits_88 (by decide) ?_
          refine lv_irem hx hb dX1_monthSuits_90 (by decide) ?_
          refine lv_aload_n hx hb dX1_monthSuits_91 rfl (lv_at hl 1 rfl) ?_
          refine gC_filler_start X kw164 hP dX1_monthSuits_92 ?_
          obtain ⟨r_9, e_9, hm⟩ := bd1_s hm
          refine goT_i (n := 1) X (cQ0_monthOf e_9) (gSx kw521 kw318 kw2 kw319) (by decide +kernel) ⟨by decide, by decide⟩ va_nil va_dnil hS rfl rfl hl.1 (Nat.le_of_ble_eq_true rfl) dX1_monthSuits_95 ⟨Nat.le_refl _, Nat.le_refl _⟩ (fun H locs _ hk hS => ?_)
          have hP := va_keep hP hk
          refine lv_bipush (v := 12) hx hb dX1_monthSuits_98 (by decide) ?_
          refine lv_irem hx hb dX1_monthSuits_100 (by decide) ?_
          refine lv_icmp_ne (tgt := 108) hx hb dX1_monthSuits_101 (by decide) (fun c_10 => ?_) (fun c_10 => ?_)
          · have hm := (if_neg c_10).symm.trans hm
            refine lv_iconst (v := 0) hx hb dX1_monthSuits_108 (by decide) ?_
            exact ret_zo (wf := wF G a ρ T) X (by decide) hm hP hS dX1_monthSuits_109
          · have hm := (if_pos c_10).symm.trans hm
            refine lv_iconst (v := 1) hx hb dX1_monthSuits_104 (by decide) ?_
            refine lv_goto (tgt := 109) hx hb dX1_monthSuits_105 (by decide) ?_
            exact ret_zo (wf := wF G a ρ T) X (by decide) hm hP hS dX1_monthSuits_109
  · have hm := (if_neg c_2).symm.trans hm
    refine lv_aload_n hx hb dX1_monthSuits_13 rfl (lv_at hl 0 rfl) ?_
    refine gC_filler_rule X kw162 hP dX1_monthSuits_14 ?_
    refine gC_rule_months X kw85 hP dX1_monthSuits_17 ?_
    refine lv_iconst (v := 1) hx hb dX1_monthSuits_20 (by decide) ?_
    refine lv_iload_n hx hb dX1_monthSuits_21 rfl (lv_at hl 1 rfl) ?_
    refine lv_bipush (v := 12) hx hb dX1_monthSuits_22 (by decide) ?_
    refine lv_irem hx hb dX1_monthSuits_24 (by decide) ?_
    refine lv_iconst (v := 1) hx hb dX1_monthSuits_25 (by decide) ?_
    refine lv_iadd hx hb dX1_monthSuits_26 ?_
    refine lv_ishl hx hb dX1_monthSuits_27 ?_
    refine lv_iand hx hb dX1_monthSuits_28 ?_
    refine lv_if_eq (tgt := 36) hx hb dX1_monthSuits_29 (by decide) (fun c_11 => ?_) (fun c_11 => ?_)
    · have hm := (if_pos c_11).symm.trans hm
      refine lv_iconst (v := 0) hx hb dX1_monthSuits_36 (by decide) ?_
      exact ret_zo (wf := wF G a ρ T) X (by decide) hm hP hS dX1_monthSuits_37
    · have hm := (if_neg c_11).symm.trans hm
      refine lv_iconst (v := 1) hx hb dX1_monthSuits_32 (by decide) ?_
      refine lv_goto (tgt := 37) hx hb dX1_monthSuits_33 (by decide) ?_
      exact ret_zo (wf := wF G a ρ T) X (by decide) hm hP hS dX1_monthSuits_37

-- RuledCalendar$Filler.byMonthDay
def moQ1_byMonthDay (n : Nat) (ρ : Nat) (x1 : Int32) (q : Pc4) : Option (Int32) :=
  (bd1 (moQ5_has n 5 q) fun r_1 => (if r_1 = 0 then (gl (r4I q 2) 4 (if (fwho (r4I q 2)) = 0 then (some 2147483647) else (bd1 (moQ5_has n 7 q) fun r_5 => (if r_5 = 0 then (bd1 (moQ0_dayOf n (r4S q 15)) fun r_7 => (some (slI 1 r_7))) else (some 2147483647))))) else (bd1 (moQ0_lengthOf n x1) fun r_8 => (some ((r4S q 7) ||| (urI (r4S q 8) (31 - r_8)))))))
set_option maxHeartbeats 4000000 in
set_option maxRecDepth 100000 in
theorem cQ1_byMonthDay {l : Launch} {G : Ev} {a : Nat → Nat} {ρ : Nat} {T : va_W} {n : Nat} {q : Pc4} {x1 : Int32} {r : Int32} (hm : moQ1_byMonthDay n ρ x1 q = some r) : CtI l G yX1_byMonthDay cX1_byMonthDay 3 (some .int) 2 41 0 0 [.ref (a 9), .int x1] (wF G a ρ T q) (wF G a ρ T q) r := by
  intro sz
  refine enter (by decide) (Nat.le_of_ble_eq_true rfl) ?_
  intro p e s m args below meth c ls X hsz hP hD hS hl
  subst hsz
  obtain ⟨⟨hx, hb, hml, hown, hts⟩, hK, hr, hlk, hA, hAs, hSta⟩ := id X
  have hl : lv_has ls 3 [(0, .ref (a 9)), (1, .int x1)] := hl
  unfold moQ1_byMonthDay at hm
  refine lv_aload_n hx hb dX1_byMonthDay_0 rfl (lv_at hl 0 rfl) ?_
  refine gC_filler_rule X kw162 hP dX1_byMonthDay_1 ?_
  refine va_gets hx hb (zP_BYMONTHDAY X) hS hown (hts _ (List.mem_cons_of_mem _ kw561)) (fun _ h => h) dX1_byMonthDay_4 ?_
  obtain ⟨r_1, e_1, hm⟩ := bd1_s hm
  refine goV_i (n := 1) (C := RX5) X (cQ5_has (T := ((a ρ, cRow G (q.2.1 14)) :: T)) e_1) (gV kw558 kw407 kw408 kw3 kw409) (by decide +kernel) ⟨by decide, by decide⟩ (rc_rule hK hP) hP (show va_D _ (wC G a ((a ρ, cRow G (q.2.1 14)) :: T) q) from (dF (q1 := q) hD)) hS rfl rfl hl.1 (Nat.le_of_ble_eq_true rfl) dX1_byMonthDay_7 ⟨Nat.le_refl _, Nat.le_refl _⟩ (fun H locs hP _ hS => ?_)
  have hP : va_P (DD G) vwCl (wF G a ρ T q) H := hP
  refine lv_if_eq (tgt := 39) hx hb dX1_byMonthDay_10 (by decide) (fun c_2 => ?_) (fun c_2 => ?_)
  · have hm := (if_pos c_2).symm.trans hm
    refine lv_aload_n hx hb dX1_byMonthDay_39 rfl (lv_at hl 0 rfl) ?_
    refine gC_filler_rule X kw162 hP dX1_byMonthDay_40 ?_
    refine gC_rule_frequency X kw76 hP dX1_byMonthDay_43 ?_
    obtain ⟨hg_3, hm⟩ := gl_s hm
    refine vk_getf hx hb (fF_wholeMonths X hg_3) hS hown (hts _ (List.mem_cons_of_mem _ kw1083)) (fun _ h => h) dX1_byMonthDay_46 ?_
    refine lv_if_eq (tgt := 69) hx hb dX1_byMonthDay_49 (by decide) (fun c_4 => ?_) (fun c_4 => ?_)
    · have hm := (if_pos c_4).symm.trans hm
      refine lv_iconst (v := 0) hx hb dX1_byMonthDay_69 (by decide) ?_
      refine lv_istore_n (lv' := [(2, .int 0), (0, .ref (a 9)), (1, .int x1)]) hx hb dX1_byMonthDay_70 rfl hl (by decide) rfl (fun ls hl => ?_)
      refine lv_iload_n hx hb dX1_byMonthDay_71 rfl (lv_at hl 0 rfl) ?_
      refine lv_if_eq (tgt := 87) hx hb dX1_byMonthDay_72 (by decide) (fun _ => ?_) (fun c_0 => absurd c_0 (by decide))
      refine lv_ldc (v := 2147483647) hx hb hown (hts _ (List.mem_cons_of_mem _ kw563)) dX1_byMonthDay_87 ?_
      exact ret_io (wf := wF G a ρ T) X hm hP hS dX1_byMonthDay_89
    · have hm := (if_neg c_4).symm.trans hm
      refine lv_aload_n hx hb dX1_byMonthDay_52 rfl (lv_at hl 0 rfl) ?_
      refine gC_filler_rule X kw162 hP dX1_byMonthDay_53 ?_
      refine va_gets hx hb (zP_BYDAY X) hS hown (hts _ (List.mem_cons_of_mem _ kw562)) (fun _ h => h) dX1_byMonthDay_56 ?_
      obtain ⟨r_5, e_5, hm⟩ := bd1_s hm
      refine goV_i (n := 1) (C := RX5) X (cQ5_has (T := ((a ρ, cRow G (q.2.1 14)) :: T)) e_5) (gV kw558 kw407 kw408 kw3 kw409) (by decide +kernel) ⟨by decide, by decide⟩ (rc_rule hK hP) hP (show va_D _ (wC G a ((a ρ, cRow G (q.2.1 14)) :: T) q) from (dF (q1 := q) hD)) hS rfl rfl hl.1 (Nat.le_of_ble_eq_true rfl) dX1_byMonthDay_59 ⟨Nat.le_refl _, Nat.le_refl _⟩ (fun H locs hP _ hS => ?_)
      have hP : va_P (DD G) vwCl (wF G a ρ T q) H := hP
      refine lv_if_ne (tgt := 69) hx hb dX1_byMonthDay_62 (by decide) (fun c_6 => ?_) (fun c_6 => ?_)
      · have hm := (if_neg c_6).symm.trans hm
        refine lv_iconst (v := 0) hx hb dX1_byMonthDay_69 (by decide) ?_
        refine lv_istore_n (lv' := [(2, .int 0), (0, .ref (a 9)), (1, .int x1)]) hx hb dX1_byMonthDay_70 rfl hl (by decide) rfl (fun ls hl => ?_)
        refine lv_iload_n hx hb dX1_byMonthDay_71 rfl (lv_at hl 0 rfl) ?_
        refine lv_if_eq (tgt := 87) hx hb dX1_byMonthDay_72 (by decide) (fun _ => ?_) (fun c_0 => absurd c_0 (by decide))
        refine lv_ldc (v := 2147483647) hx hb hown (hts _ (List.mem_cons_of_mem _ kw563)) dX1_byMonthDay_87 ?_
        exact ret_io (wf := wF G a ρ T) X hm hP hS dX1_byMonthDay_89
      · have hm := (if_pos c_6).symm.trans hm
        refine lv_iconst (v := 1) hx hb dX1_byMonthDay_65 (by decide) ?_
        refine lv_goto (tgt := 70) hx hb dX1_byMonthDay_66 (by decide) ?_
        refine lv_istore_n (lv' := [(2, .int 1), (0, .ref (a 9)), (1, .int x1)]) hx hb dX1_byMonthDay_70 rfl hl (by decide) rfl (fun ls hl => ?_)
        refine lv_iload_n hx hb dX1_byMonthDay_71 rfl (lv_at hl 0 rfl) ?_
        refine lv_if_eq (tgt := 87) hx hb dX1_byMonthDay_72 (by decide) (fun c_0 => absurd c_0 (by decide)) (fun _ => ?_)
        refine lv_iconst (v := 1) hx hb dX1_byMonthDay_75 (by decide) ?_
        refine lv_aload_n hx hb dX1_byMonthDay_76 rfl (lv_at hl 1 rfl) ?_
        refine gC_filler_start X kw164 hP dX1_byMonthDay_77 ?_
        obtain ⟨r_7, e_7, hm⟩ := bd1_s hm
        refine goT_i (n := 1) X (cQ0_dayOf e_7) (gSx kw569 kw527 kw2 kw528) (by decide +kernel) ⟨by decide, by decide⟩ va_nil va_dnil hS rfl rfl hl.1 (Nat.le_of_ble_eq_true rfl) dX1_byMonthDay_80 ⟨Nat.le_refl _, Nat.le_refl _⟩ (fun H locs _ hk hS => ?_)
        have hP := va_keep hP hk
        refine lv_ishl hx hb dX1_byMonthDay_83 ?_
        refine lv_goto (tgt := 89) hx hb dX1_byMonthDay_84 (by decide) ?_
        exact ret_io (wf := wF G a ρ T) X hm hP hS dX1_byMonthDay_89
  · have hm := (if_neg c_2).symm.trans hm
    refine lv_bipush (v := 31) hx hb dX1_byMonthDay_13 (by decide) ?_
    refine lv_iload_n hx hb dX1_byMonthDay_15 rfl (lv_at hl 1 rfl) ?_
    obtain ⟨r_8, e_8, hm⟩ := bd1_s hm
    refine goT_i (n := 1) X (cQ0_lengthOf e_8) (gSx kw564 kw38 kw2 kw39) (by decide +kernel) ⟨by decide, by decide⟩ va_nil va_dnil hS rfl rfl hl.1 (Nat.le_of_ble_eq_true rfl) dX1_byMonthDay_16 ⟨Nat.le_refl _, Nat.le_refl _⟩ (fun H locs _ hk hS => ?_)
    have hP := va_keep hP hk
    refine lv_isub hx hb dX1_byMonthDay_19 ?_
    refine lv_istore_n (lv' := [(2, .int (31 - r_8)), (0, .ref (a 9)), (1, .int x1)]) hx hb dX1_byMonthDay_20 rfl hl (by decide) rfl (fun ls hl => ?_)
    refine lv_aload_n hx hb dX1_byMonthDay_21 rfl (lv_at hl 1 rfl) ?_
    refine gC_filler_rule X kw162 hP dX1_byMonthDay_22 ?_
    refine gC_rule_monthDays X kw87 hP dX1_byMonthDay_25 ?_
    refine lv_aload_n hx hb dX1_byMonthDay_28 rfl (lv_at hl 1 rfl) ?_
    refine gC_filler_rule X kw162 hP dX1_byMonthDay_29 ?_
    refine gC_rule_monthDaysFromEnd X kw89 hP dX1_byMonthDay_32 ?_
    refine lv_iload_n hx hb dX1_byMonthDay_35 rfl (lv_at hl 0 rfl) ?_
    refine lv_iushr (v := (urI (r4S q 8) (31 - r_8))) hx hb dX1_byMonthDay_36 rfl ?_
    refine lv_ior hx hb dX1_byMonthDay_37 ?_
    exact ret_io (wf := wF G a ρ T) X hm hP hS dX1_byMonthDay_38

-- RuledCalendar$Filler.numberedWeekdays
def moQ1_numberedWeekdays_L75 {α : Type} (n : Nat) (ρ : Nat) (q : Pc4) (K0 : Int32 → Option α) : Nat → Int32 → Int32 → Int32 → Int32 → Int32 → Option α
  | 0, _, _, _, _, _ => none
  | k + 1, x1, x3, x4, x5, x6 => (gi (x1 + 1) 3601 (if (r4A q 3 (x1 + 1)) ≤ x6 then (K0 x5 ) else (gi x3 3601 (gi x4 3601 (gi (rmI x6 7) 7 (if (lg_cmp ((urL (r4L q 5 (rmI x6 7)) (((x6 - (r4A q 3 x3)) / 7) + 1)) &&& 1) 0) = 0 then (gi (rmI x6 7) 7 (if (lg_cmp ((urL (r4L q 6 (rmI x6 7)) (((((r4A q 3 x4) - 1) - x6) / 7) + 1)) &&& 1) 0) = 0 then (moQ1_numberedWeekdays_L75 n ρ q K0 k x1 x3 x4 x5 (x6 + 1) ) else (gi x1 3601 (moQ1_numberedWeekdays_L75 n ρ q K0 k x1 x3 x4 (x5 ||| (slI 1 (x6 - (r4A q 3 x1)))) (x6 + 1) )))) else (gi x1 3601 (moQ1_numberedWeekdays_L75 n ρ q K0 k x1 x3 x4 (x5 ||| (slI 1 (x6 - (r4A q 3 x1)))) (x6 + 1) ))))))))
def moQ1_numberedWeekdays_B59 (n : Nat) (ρ : Nat) (q : Pc4) (x1 : Int32) (x3 : Int32) (t0 : Int32)  : Option (Int32) :=
  (gi x1 3601 (moQ1_numberedWeekdays_L75 n ρ q (fun z14_5 => (some z14_5)) n x1 x3 t0 0 (r4A q 3 x1) ))
def moQ1_numberedWeekdays (n : Nat) (ρ : Nat) (x1 : Int32) (q : Pc4) : Option (Int32) :=
  (gl (r4I q 2) 4 (if (r4I q 2) = 2 then (moQ1_numberedWeekdays_B59 n ρ q x1 x1 (x1 + 1) ) else (bd1 (moQ5_has n 4 q) fun r_15 => (if r_15 = 0 then (bd1 (moQ0_januaryOf n x1) fun r_17 => (moQ1_numberedWeekdays_B59 n ρ q x1 r_17 (r_17 + 12) )) else (moQ1_numberedWeekdays_B59 n ρ q x1 x1 (x1 + 1) )))))
set_option maxHeartbeats 4000000 in
set_option maxRecDepth 100000 in
theorem lpQ1_numberedWeekdays_75 {p : Program} {l : Launch} {e : Env} {s : State} {m : MethodId} {args : Array Value} {below : List Frame} {meth : Method} {c : Code} {G : Ev} {a : Nat → Nat} {ρ : Nat} {T : va_W} {Q : State → Prop} {A : Nat → Prop} {q : Pc4} (X : CX p s m args meth c cX1_numberedWeekdays 10 (some .int) RX1 (.code yX1_numberedWeekdays cX1_numberedWeekdays 10 (some .int)) G A) (hD : va_D A (wF G a ρ T q)) {α : Type} {o : α} {n : Nat} {K0 : Int32 → Option α} (h0 : ∀ (y5 : Int32) (H : Heap) (locs : List Loc) (ls : Array Slot), K0 y5  = some o → va_P (DD G) vwCl (wF G a ρ T q) H → va_S A s.heap H locs → lv_has ls 10 [(5, .int y5)] → W p l e { frames := 1, cells := 0, slots := 0, locals := 21 } s m args below meth c H locs 0 0 Q (F0 m 204 ls [])) : ∀ (k : Nat) (x1 : Int32) (x3 : Int32) (x4 : Int32) (x5 : Int32) (x6 : Int32) (H : Heap) (locs : List Loc) (ls : Array Slot), moQ1_numberedWeekdays_L75 n ρ q K0 k x1 x3 x4 x5 x6  = some o → va_P (DD G) vwCl (wF G a ρ T q) H → va_S A s.heap H locs → lv_has ls 10 [(0, .ref (a 9)), (1, .int x1), (3, .int x3), (4, .int x4), (5, .int x5), (6, .int x6)] → W p l e { frames := 1, cells := 0, slots := 0, locals := 21 } s m args below meth c H locs 0 0 Q (F0 m 75 ls []) := by
  obtain ⟨⟨hx, hb, hml, hown, hts⟩, hK, hr, hlk, hA, hAs, hSta⟩ := id X
  intro k
  induction k with
  | zero =>
    intro x1 x3 x4 x5 x6 H locs ls hm
    have hm : none = some o := hm
    cases hm
  | succ k ih =>
    intro x1 x3 x4 x5 x6 H locs ls hm hP hS hl
    rw [moQ1_numberedWeekdays_L75] at hm
    refine lv_iload hx hb dX1_numberedWeekdays_75 (lv_at hl 5 rfl) ?_
    refine lv_aload_n hx hb dX1_numberedWeekdays_77 rfl (lv_at hl 0 rfl) ?_
    refine gC_filler_days X kw161 hP dX1_numberedWeekdays_78 ?_
    refine gC_days_first X kw46 hP dX1_numberedWeekdays_81 ?_
    refine lv_iload_n hx hb dX1_numberedWeekdays_84 rfl (lv_at hl 1 rfl) ?_
    refine lv_iconst (v := 1) hx hb dX1_numberedWeekdays_85 (by decide) ?_
    refine lv_iadd hx hb dX1_numberedWeekdays_86 ?_
    obtain ⟨hi_4, hm⟩ := gi_s hm
    refine ldC_first X hP hi_4 dX1_numberedWeekdays_87 ?_
    refine lv_icmp_ge (tgt := 204) hx hb dX1_numberedWeekdays_88 (by decide) (fun c_5 => ?_) (fun c_5 => ?_)
    · have hm := (if_pos c_5).symm.trans hm
      exact h0 _ _ _ _ hm hP hS (lv_sub hl [4] rfl)
    · have hm := (if_neg c_5).symm.trans hm
      refine lv_iload hx hb dX1_numberedWeekdays_91 (lv_at hl 5 rfl) ?_
      refine lv_aload_n hx hb dX1_numberedWeekdays_93 rfl (lv_at hl 0 rfl) ?_
      refine gC_filler_days X kw161 hP dX1_numberedWeekdays_94 ?_
      refine gC_days_first X kw46 hP dX1_numberedWeekdays_97 ?_
      refine lv_iload_n hx hb dX1_numberedWeekdays_100 rfl (lv_at hl 2 rfl) ?_
      obtain ⟨hi_6, hm⟩ := gi_s hm
      refine ldC_first X hP hi_6 dX1_numberedWeekdays_101 ?_
      refine lv_isub hx hb dX1_numberedWeekdays_102 ?_
      refine lv_bipush (v := 7) hx hb dX1_numberedWeekdays_103 (by decide) ?_
      refine lv_idiv hx hb dX1_numberedWeekdays_105 (by decide) ?_
      refine lv_iconst (v := 1) hx hb dX1_numberedWeekdays_106 (by decide) ?_
      refine lv_iadd hx hb dX1_numberedWeekdays_107 ?_
      refine lv_istore (lv' := [(7, .int (((x6 - (r4A q 3 x3)) / 7) + 1)), (0, .ref (a 9)), (1, .int x1), (3, .int x3), (4, .int x4), (5, .int x5), (6, .int x6)]) hx hb dX1_numberedWeekdays_108 hl (by decide) rfl (fun ls hl => ?_)
      refine lv_aload_n hx hb dX1_numberedWeekdays_110 rfl (lv_at hl 1 rfl) ?_
      refine gC_filler_days X kw161 hP dX1_numberedWeekdays_111 ?_
      refine gC_days_first X kw46 hP dX1_numberedWeekdays_114 ?_
      refine lv_iload hx hb dX1_numberedWeekdays_117 (lv_at hl 4 rfl) ?_
      obtain ⟨hi_7, hm⟩ := gi_s hm
      refine ldC_first X hP hi_7 dX1_numberedWeekdays_119 ?_
      refine lv_iconst (v := 1) hx hb dX1_numberedWeekdays_120 (by decide) ?_
      refine lv_isub hx hb dX1_numberedWeekdays_121 ?_
      refine lv_iload hx hb dX1_numberedWeekdays_122 (lv_at hl 6 rfl) ?_
      refine lv_isub hx hb dX1_numberedWeekdays_124 ?_
      refine lv_bipush (v := 7) hx hb dX1_numberedWeekdays_125 (by decide) ?_
      refine lv_idiv hx hb dX1_numberedWeekdays_127 (by decide) ?_
      refine lv_iconst (v := 1) hx hb dX1_numberedWeekdays_128 (by decide) ?_
      refine lv_iadd hx hb dX1_numberedWeekdays_129 ?_
      refine lv_istore (lv' := [(8, .int (((((r4A q 3 x4) - 1) - x6) / 7) + 1)), (7, .int (((x6 - (r4A q 3 x3)) / 7) + 1)), (0, .ref (a 9)), (1, .int x1), (3, .int x3), (4, .int x4), (5, .int x5), (6, .int x6)]) hx hb dX1_numberedWeekdays_130 hl (by decide) rfl (fun ls hl => ?_)
      refine lv_iload hx hb dX1_numberedWeekdays_132 (lv_at hl 7 rfl) ?_
      refine lv_bipush (v := 7) hx hb dX1_numberedWeekdays_134 (by decide) ?_
      refine lv_irem hx hb dX1_numberedWeekdays_136 (by decide) ?_
      refine lv_istore (lv' := [(9, .int (rmI x6 7)), (8, .int (((((r4A q 3 x4) - 1) - x6) / 7) + 1)), (7, .int (((x6 - (r4A q 3 x3)) / 7) + 1)), (0, .ref (a 9)), (1, .int x1), (3, .int x3), (4, .int x4), (5, .int x5), (6, .int x6)]) hx hb dX1_numberedWeekdays_137 hl (by decide) rfl (fun ls hl => ?_)
      refine lv_aload_n hx hb dX1_numberedWeekdays_139 rfl (lv_at hl 3 rfl) ?_
      refine gC_filler_rule X kw162 hP dX1_numberedWeekdays_140 ?_
      refine gC_rule_numbers X kw95 hP dX1_numberedWeekdays_143 ?_
      refine lv_iload hx hb dX1_numberedWeekdays_146 (lv_at hl 0 rfl) ?_
      obtain ⟨hi_8, hm⟩ := gi_s hm
      refine ldC_numbers X hP hi_8 dX1_numberedWeekdays_148 ?_
      refine lv_iload hx hb dX1_numberedWeekdays_149 (lv_at hl 2 rfl) ?_
      refine lv_lushr (v := (urL (r4L q 5 (rmI x6 7)) (((x6 - (r4A q 3 x3)) / 7) + 1))) hx hb dX1_numberedWeekdays_151 rfl ?_
      refine lv_lconst (v := 1) hx hb dX1_numberedWeekdays_152 (by decide) ?_
      refine lv_land hx hb dX1_numberedWeekdays_153 ?_
      refine lv_lconst (v := 0) hx hb dX1_numberedWeekdays_154 (by decide) ?_
      refine W.lcmp hx hb dX1_numberedWeekdays_155 ?_
      refine lv_if_ne (tgt := 179) hx hb dX1_numberedWeekdays_156 (by decide) (fun c_9 => ?_) (fun c_9 => ?_)
      · have hm := (if_neg c_9).symm.trans hm
        refine lv_iload hx hb dX1_numberedWeekdays_179 (lv_at hl 7 rfl) ?_
        refine lv_iconst (v := 1) hx hb dX1_numberedWeekdays_181 (by decide) ?_
        refine lv_iload hx hb dX1_numberedWeekdays_182 (lv_at hl 8 rfl) ?_
        refine lv_aload_n hx hb dX1_numberedWeekdays_184 rfl (lv_at hl 3 rfl) ?_
        refine gC_filler_days X kw161 hP dX1_numberedWeekdays_185 ?_
        refine gC_days_first X kw46 hP dX1_numberedWeekdays_188 ?_
        refine lv_iload_n hx hb dX1_numberedWeekdays_191 rfl (lv_at hl 4 rfl) ?_
        obtain ⟨hi_10, hm⟩ := gi_s hm
        refine ldC_first X hP hi_10 dX1_numberedWeekdays_192 ?_
        refine lv_isub hx hb dX1_numberedWeekdays_193 ?_
        refine lv_ishl hx hb dX1_numberedWeekdays_194 ?_
        refine lv_ior hx hb dX1_numberedWeekdays_195 ?_
        refine lv_istore (lv' := [(5, .int (x5 ||| (slI 1 (x6 - (r4A q 3 x1))))), (9, .int (rmI x6 7)), (8, .int (((((r4A q 3 x4) - 1) - x6) / 7) + 1)), (7, .int (((x6 - (r4A q 3 x3)) / 7) + 1)), (0, .ref (a 9)), (1, .int x1), (3, .int x3), (4, .int x4), (6, .int x6)]) hx hb dX1_numberedWeekdays_196 hl (by decide) rfl (fun ls hl => ?_)
        refine lv_iinc (v := (x6 + 1)) (lv' := [(6, .int (x6 + 1)), (5, .int (x5 ||| (slI 1 (x6 - (r4A q 3 x1))))), (9, .int (rmI x6 7)), (8, .int (((((r4A q 3 x4) - 1) - x6) / 7) + 1)), (7, .int (((x6 - (r4A q 3 x3)) / 7) + 1)), (0, .ref (a 9)), (1, .int x1), (3, .int x3), (4, .int x4)]) hx hb dX1_numberedWeekdays_198 hl (k := 8) rfl (by first | rfl | decide) (by decide) rfl (fun ls hl => ?_)
        refine lv_goto (tgt := 75) hx hb dX1_numberedWeekdays_201 (by decide) ?_
        exact ih _ _ _ _ _ _ _ _ hm hP hS (lv_sub hl [5, 6, 7, 8, 1, 0] rfl)
      · have hm := (if_pos c_9).symm.trans hm
        refine lv_aload_n hx hb dX1_numberedWeekdays_159 rfl (lv_at hl 3 rfl) ?_
        refine gC_filler_rule X kw162 hP dX1_numberedWeekdays_160 ?_
        refine gC_rule_numbersFromEnd X kw97 hP dX1_numberedWeekdays_163 ?_
        refine lv_iload hx hb dX1_numberedWeekdays_166 (lv_at hl 0 rfl) ?_
        obtain ⟨hi_11, hm⟩ := gi_s hm
        refine ldC_numbersFromEnd X hP hi_11 dX1_numberedWeekdays_168 ?_
        refine lv_iload hx hb dX1_numberedWeekdays_169 (lv_at hl 1 rfl) ?_
        refine lv_lushr (v := (urL (r4L q 6 (rmI x6 7)) (((((r4A q 3 x4) - 1) - x6) / 7) + 1))) hx hb dX1_numberedWeekdays_171 rfl ?_
        refine lv_lconst (v := 1) hx hb dX1_numberedWeekdays_172 (by decide) ?_
        refine lv_land hx hb dX1_numberedWeekdays_173 ?_
        refine lv_lconst (v := 0) hx hb dX1_numberedWeekdays_174 (by decide) ?_
        refine W.lcmp hx hb dX1_numberedWeekdays_175 ?_
        refine lv_if_eq (tgt := 198) hx hb dX1_numberedWeekdays_176 (by decide) (fun c_12 => ?_) (fun c_12 => ?_)
        · have hm := (if_pos c_12).symm.trans hm
          refine lv_iinc (v := (x6 + 1)) (lv' := [(6, .int (x6 + 1)), (9, .int (rmI x6 7)), (8, .int (((((r4A q 3 x4) - 1) - x6) / 7) + 1)), (7, .int (((x6 - (r4A q 3 x3)) / 7) + 1)), (0, .ref (a 9)), (1, .int x1), (3, .int x3), (4, .int x4), (5, .int x5)]) hx hb dX1_numberedWeekdays_198 hl (k := 8) rfl (by first | rfl | decide) (by decide) rfl (fun ls hl => ?_)
          refine lv_goto (tgt := 75) hx hb dX1_numberedWeekdays_201 (by decide) ?_
          exact ih _ _ _ _ _ _ _ _ hm hP hS (lv_sub hl [4, 5, 6, 7, 8, 0] rfl)
        · have hm := (if_neg c_12).symm.trans hm
          refine lv_iload hx hb dX1_numberedWeekdays_179 (lv_at hl 7 rfl) ?_
          refine lv_iconst (v := 1) hx hb dX1_numberedWeekdays_181 (by decide) ?_
          refine lv_iload hx hb dX1_numberedWeekdays_182 (lv_at hl 8 rfl) ?_
          refine lv_aload_n hx hb dX1_numberedWeekdays_184 rfl (lv_at hl 3 rfl) ?_
          refine gC_filler_days X kw161 hP dX1_numberedWeekdays_185 ?_
          refine gC_days_first X kw46 hP dX1_numberedWeekdays_188 ?_
          refine lv_iload_n hx hb dX1_numberedWeekdays_191 rfl (lv_at hl 4 rfl) ?_
          obtain ⟨hi_13, hm⟩ := gi_s hm
          refine ldC_first X hP hi_13 dX1_numberedWeekdays_192 ?_
          refine lv_isub hx hb dX1_numberedWeekdays_193 ?_
          refine lv_ishl hx hb dX1_numberedWeekdays_194 ?_
          refine lv_ior hx hb dX1_numberedWeekdays_195 ?_
          refine lv_istore (lv' := [(5, .int (x5 ||| (slI 1 (x6 - (r4A q 3 x1))))), (9, .int (rmI x6 7)), (8, .int (((((r4A q 3 x4) - 1) - x6) / 7) + 1)), (7, .int (((x6 - (r4A q 3 x3)) / 7) + 1)), (0, .ref (a 9)), (1, .int x1), (3, .int x3), (4, .int x4), (6, .int x6)]) hx hb dX1_numberedWeekdays_196 hl (by decide) rfl (fun ls hl => ?_)
          refine lv_iinc (v := (x6 + 1)) (lv' := [(6, .int (x6 + 1)), (5, .int (x5 ||| (slI 1 (x6 - (r4A q 3 x1))))), (9, .int (rmI x6 7)), (8, .int (((((r4A q 3 x4) - 1) - x6) / 7) + 1)), (7, .int (((x6 - (r4A q 3 x3)) / 7) + 1)), (0, .ref (a 9)), (1, .int x1), (3, .int x3), (4, .int x4)]) hx hb dX1_numberedWeekdays_198 hl (k := 8) rfl (by first | rfl | decide) (by decide) rfl (fun ls hl => ?_)
          refine lv_goto (tgt := 75) hx hb dX1_numberedWeekdays_201 (by decide) ?_
          exact ih _ _ _ _ _ _ _ _ hm hP hS (lv_sub hl [5, 6, 7, 8, 1, 0] rfl)
set_option maxHeartbeats 4000000 in
set_option maxRecDepth 100000 in
theorem bkQ1_numberedWeekdays_59 {p : Program} {l : Launch} {e : Env} {s : State} {m : MethodId} {args : Array Value} {below : List Frame} {meth : Method} {c : Code} {G : Ev} {a : Nat → Nat} {ρ : Nat} {T : va_W}  {q : Pc4} {L : List Nat} {r : Int32} {n : Nat} {x1 : Int32} {x3 : Int32} {t0 : Int32} {H : Heap} {locs : List Loc} {ls : Array Slot} (X : CX p s m args meth c cX1_numberedWeekdays 10 (some .int) RX1 (.code yX1_numberedWeekdays cX1_numberedWeekdays 10 (some .int)) G (AL L s.heap.size)) (hD : va_D (AL L s.heap.size) (wF G a ρ T q)) (hm : moQ1_numberedWeekdays_B59 n ρ q x1 x3 t0  = some r) (hP : va_P (DD G) vwCl (wF G a ρ T q) H) (hS : va_S (AL L s.heap.size) s.heap H locs) (hl : lv_has ls 10 [(0, .ref (a 9)), (1, .int x1), (3, .int x3)]) : W p l e { frames := 1, cells := 0, slots := 0, locals := 21 } s m args below meth c H locs 0 0 (MQ below (va_Qi (fun r' (_ : Unit) => r' = r) (fun _ t => va_P (DD G) vwCl (wF G a ρ T q) t.heap) (AL L s.heap.size)) args s 0 0 (AL L s.heap.size)) (F0 m 59 ls [.int t0]) := by
  obtain ⟨⟨hx, hb, hml, hown, hts⟩, hK, hr, hlk, hA, hAs, hSta⟩ := id X
  unfold moQ1_numberedWeekdays_B59 at hm
  refine lv_istore (lv' := [(4, .int t0), (0, .ref (a 9)), (1, .int x1), (3, .int x3)]) hx hb dX1_numberedWeekdays_59 hl (by decide) rfl (fun ls hl => ?_)
  refine lv_iconst (v := 0) hx hb dX1_numberedWeekdays_61 (by decide) ?_
  refine lv_istore (lv' := [(5, .int 0), (4, .int t0), (0, .ref (a 9)), (1, .int x1), (3, .int x3)]) hx hb dX1_numberedWeekdays_62 hl (by decide) rfl (fun ls hl => ?_)
  refine lv_aload_n hx hb dX1_numberedWeekdays_64 rfl (lv_at hl 2 rfl) ?_
  refine gC_filler_days X kw161 hP dX1_numberedWeekdays_65 ?_
  refine gC_days_first X kw46 hP dX1_numberedWeekdays_68 ?_
  refine lv_iload_n hx hb dX1_numberedWeekdays_71 rfl (lv_at hl 3 rfl) ?_
  obtain ⟨hi_3, hm⟩ := gi_s hm
  refine ldC_first X hP hi_3 dX1_numberedWeekdays_72 ?_
  refine lv_istore (lv' := [(6, .int (r4A q 3 x1)), (5, .int 0), (4, .int t0), (0, .ref (a 9)), (1, .int x1), (3, .int x3)]) hx hb dX1_numberedWeekdays_73 hl (by decide) rfl (fun ls hl => ?_)
  refine lpQ1_numberedWeekdays_75 X hD (fun z14_5 H locs ls hm hP hS hl => ?_) n _ _ _ _ _ _ _ _ hm hP hS (lv_sub hl [3, 4, 5, 2, 1, 0] rfl)
  refine lv_iload hx hb dX1_numberedWeekdays_204 (lv_at hl 0 rfl) ?_
  exact ret_io (wf := wF G a ρ T) X hm hP hS dX1_numberedWeekdays_206
set_option maxHeartbeats 4000000 in
set_option maxRecDepth 100000 in
theorem cQ1_numberedWeekdays {l : Launch} {G : Ev} {a : Nat → Nat} {ρ : Nat} {T : va_W} {n : Nat} {q : Pc4} {x1 : Int32} {r : Int32} (hm : moQ1_numberedWeekdays n ρ x1 q = some r) : CtI l G yX1_numberedWeekdays cX1_numberedWeekdays 10 (some .int) 1 21 0 0 [.ref (a 9), .int x1] (wF G a ρ T q) (wF G a ρ T q) r := by
  intro sz
  refine enter (by decide) (Nat.le_of_ble_eq_true rfl) ?_
  intro p e s m args below meth c ls X hsz hP hD hS hl
  subst hsz
  obtain ⟨⟨hx, hb, hml, hown, hts⟩, hK, hr, hlk, hA, hAs, hSta⟩ := id X
  have hl : lv_has ls 10 [(0, .ref (a 9)), (1, .int x1)] := hl
  unfold moQ1_numberedWeekdays at hm
  refine lv_aload_n hx hb dX1_numberedWeekdays_0 rfl (lv_at hl 0 rfl) ?_
  refine gC_filler_rule X kw162 hP dX1_numberedWeekdays_1 ?_
  refine gC_rule_frequency X kw76 hP dX1_numberedWeekdays_4 ?_
  refine va_gets hx hb (zF_MONTHLY X) hS hown (hts _ (List.mem_cons_of_mem _ kw578)) (fun _ h => h) dX1_numberedWeekdays_7 ?_
  obtain ⟨hg_1, hm⟩ := gl_s hm
  refine acFe (tgt := 26) X hg_1 (by decide) dX1_numberedWeekdays_10 (by decide) (fun c_2 => ?_) (fun c_2 => ?_)
  · have hm := (if_pos c_2).symm.trans hm
    refine lv_iconst (v := 1) hx hb dX1_numberedWeekdays_26 (by decide) ?_
    refine lv_goto (tgt := 31) hx hb dX1_numberedWeekdays_27 (by decide) ?_
    refine lv_istore_n (lv' := [(2, .int 1), (0, .ref (a 9)), (1, .int x1)]) hx hb dX1_numberedWeekdays_31 rfl hl (by decide) rfl (fun ls hl => ?_)
    refine lv_iload_n hx hb dX1_numberedWeekdays_32 rfl (lv_at hl 0 rfl) ?_
    refine lv_if_eq (tgt := 40) hx hb dX1_numberedWeekdays_33 (by decide) (fun c_0 => absurd c_0 (by decide)) (fun _ => ?_)
    refine lv_iload_n hx hb dX1_numberedWeekdays_36 rfl (lv_at hl 2 rfl) ?_
    refine lv_goto (tgt := 44) hx hb dX1_numberedWeekdays_37 (by decide) ?_
    refine lv_istore_n (lv' := [(3, .int x1), (2, .int 1), (0, .ref (a 9)), (1, .int x1)]) hx hb dX1_numberedWeekdays_44 rfl hl (by decide) rfl (fun ls hl => ?_)
    refine lv_iload_n hx hb dX1_numberedWeekdays_45 rfl (lv_at hl 1 rfl) ?_
    refine lv_if_eq (tgt := 55) hx hb dX1_numberedWeekdays_46 (by decide) (fun c_0 => absurd c_0 (by decide)) (fun _ => ?_)
    refine lv_iload_n hx hb dX1_numberedWeekdays_49 rfl (lv_at hl 3 rfl) ?_
    refine lv_iconst (v := 1) hx hb dX1_numberedWeekdays_50 (by decide) ?_
    refine lv_iadd hx hb dX1_numberedWeekdays_51 ?_
    refine lv_goto (tgt := 59) hx hb dX1_numberedWeekdays_52 (by decide) ?_
    exact bkQ1_numberedWeekdays_59 X hD hm hP hS (lv_sub hl [2, 3, 0] rfl)
  · have hm := (if_neg c_2).symm.trans hm
    refine lv_aload_n hx hb dX1_numberedWeekdays_13 rfl (lv_at hl 0 rfl) ?_
    refine gC_filler_rule X kw162 hP dX1_numberedWeekdays_14 ?_
    refine va_gets hx hb (zP_BYMONTH X) hS hown (hts _ (List.mem_cons_of_mem _ kw557)) (fun _ h => h) dX1_numberedWeekdays_17 ?_
    obtain ⟨r_15, e_15, hm⟩ := bd1_s hm
    refine goV_i (n := 1) (C := RX5) X (cQ5_has (T := ((a ρ, cRow G (q.2.1 14)) :: T)) e_15) (gV kw558 kw407 kw408 kw3 kw409) (by decide +kernel) ⟨by decide, by decide⟩ (rc_rule hK hP) hP (show va_D _ (wC G a ((a ρ, cRow G (q.2.1 14)) :: T) q) from (dF (q1 := q) hD)) hS rfl rfl hl.1 (Nat.le_of_ble_eq_true rfl) dX1_numberedWeekdays_20 ⟨Nat.le_refl _, Nat.le_refl _⟩ (fun H locs hP _ hS => ?_)
    have hP : va_P (DD G) vwCl (wF G a ρ T q) H := hP
    refine lv_if_eq (tgt := 30) hx hb dX1_numberedWeekdays_23 (by decide) (fun c_16 => ?_) (fun c_16 => ?_)
    · have hm := (if_pos c_16).symm.trans hm
      refine lv_iconst (v := 0) hx hb dX1_numberedWeekdays_30 (by decide) ?_
      refine lv_istore_n (lv' := [(2, .int 0), (0, .ref (a 9)), (1, .int x1)]) hx hb dX1_numberedWeekdays_31 rfl hl (by decide) rfl (fun ls hl => ?_)
      refine lv_iload_n hx hb dX1_numberedWeekdays_32 rfl (lv_at hl 0 rfl) ?_
      refine lv_if_eq (tgt := 40) hx hb dX1_numberedWeekdays_33 (by decide) (fun _ => ?_) (fun c_0 => absurd c_0 (by decide))
      refine lv_iload_n hx hb dX1_numberedWeekdays_40 rfl (lv_at hl 2 rfl) ?_
      obtain ⟨r_17, e_17, hm⟩ := bd1_s hm
      refine goT_i (n := 1) X (cQ0_januaryOf e_17) (gSx kw537 kw538 kw2 kw539) (by decide +kernel) ⟨by decide, by decide⟩ va_nil va_dnil hS rfl rfl hl.1 (Nat.le_of_ble_eq_true rfl) dX1_numberedWeekdays_41 ⟨Nat.le_refl _, Nat.le_refl _⟩ (fun H locs _ hk hS => ?_)
      have hP := va_keep hP hk
      refine lv_istore_n (lv' := [(3, .int r_17), (2, .int 0), (0, .ref (a 9)), (1, .int x1)]) hx hb dX1_numberedWeekdays_44 rfl hl (by decide) rfl (fun ls hl => ?_)
      refine lv_iload_n hx hb dX1_numberedWeekdays_45 rfl (lv_at hl 1 rfl) ?_
      refine lv_if_eq (tgt := 55) hx hb dX1_numberedWeekdays_46 (by decide) (fun _ => ?_) (fun c_0 => absurd c_0 (by decide))
      refine lv_iload_n hx hb dX1_numberedWeekdays_55 rfl (lv_at hl 0 rfl) ?_
      refine lv_bipush (v := 12) hx hb dX1_numberedWeekdays_56 (by decide) ?_
      refine lv_iadd hx hb dX1_numberedWeekdays_58 ?_
      exact bkQ1_numberedWeekdays_59 X hD hm hP hS (lv_sub hl [2, 3, 0] rfl)
    · have hm := (if_neg c_16).symm.trans hm
      refine lv_iconst (v := 1) hx hb dX1_numberedWeekdays_26 (by decide) ?_
      refine lv_goto (tgt := 31) hx hb dX1_numberedWeekdays_27 (by decide) ?_
      refine lv_istore_n (lv' := [(2, .int 1), (0, .ref (a 9)), (1, .int x1)]) hx hb dX1_numberedWeekdays_31 rfl hl (by decide) rfl (fun ls hl => ?_)
      refine lv_iload_n hx hb dX1_numberedWeekdays_32 rfl (lv_at hl 0 rfl) ?_
      refine lv_if_eq (tgt := 40) hx hb dX1_numberedWeekdays_33 (by decide) (fun c_0 => absurd c_0 (by decide)) (fun _ => ?_)
      refine lv_iload_n hx hb dX1_numberedWeekdays_36 rfl (lv_at hl 2 rfl) ?_
      refine lv_goto (tgt := 44) hx hb dX1_numberedWeekdays_37 (by decide) ?_
      refine lv_istore_n (lv' := [(3, .int x1), (2, .int 1), (0, .ref (a 9)), (1, .int x1)]) hx hb dX1_numberedWeekdays_44 rfl hl (by decide) rfl (fun ls hl => ?_)
      refine lv_iload_n hx hb dX1_numberedWeekdays_45 rfl (lv_at hl 1 rfl) ?_
      refine lv_if_eq (tgt := 55) hx hb dX1_numberedWeekdays_46 (by decide) (fun c_0 => absurd c_0 (by decide)) (fun _ => ?_)
      refine lv_iload_n hx hb dX1_numberedWeekdays_49 rfl (lv_at hl 3 rfl) ?_
      refine lv_iconst (v := 1) hx hb dX1_numberedWeekdays_50 (by decide) ?_
      refine lv_iadd hx hb dX1_numberedWeekdays_51 ?_
      refine lv_goto (tgt := 59) hx hb dX1_numberedWeekdays_52 (by decide) ?_
      exact bkQ1_numberedWeekdays_59 X hD hm hP hS (lv_sub hl [2, 3, 0] rfl)

-- RuledCalendar$Filler.plainWeekdays
def moQ1_plainWeekdays (n : Nat) (ρ : Nat) (x1 : Int32) (x2 : Int32) (q : Pc4) : Option (Int32) :=
  (gi x1 3601 (some (((((((urI x2 (rmI (r4A q 3 x1) 7)) ||| (slI x2 (7 - (rmI (r4A q 3 x1) 7)))) &&& 127) ||| (slI (((urI x2 (rmI (r4A q 3 x1) 7)) ||| (slI x2 (7 - (rmI (r4A q 3 x1) 7)))) &&& 127) 7)) ||| (slI (((urI x2 (rmI (r4A q 3 x1) 7)) ||| (slI x2 (7 - (rmI (r4A q 3 x1) 7)))) &&& 127) 14)) ||| (slI (((urI x2 (rmI (r4A q 3 x1) 7)) ||| (slI x2 (7 - (rmI (r4A q 3 x1) 7)))) &&& 127) 21)) ||| (slI (((urI x2 (rmI (r4A q 3 x1) 7)) ||| (slI x2 (7 - (rmI (r4A q 3 x1) 7)))) &&& 127) 28))))
set_option maxHeartbeats 4000000 in
set_option maxRecDepth 100000 in
theorem cQ1_plainWeekdays {l : Launch} {G : Ev} {a : Nat → Nat} {ρ : Nat} {T : va_W} {n : Nat} {q : Pc4} {x1 : Int32} {x2 : Int32} {r : Int32} (hm : moQ1_plainWeekdays n ρ x1 x2 q = some r) : CtI l G yX1_plainWeekdays cX1_plainWeekdays 6 (some .int) 0 0 0 0 [.ref (a 9), .int x1, .int x2] (wF G a ρ T q) (wF G a ρ T q) r := by
  intro sz
  refine enter (by decide) (Nat.le_of_ble_eq_true rfl) ?_
  intro p e s m args below meth c ls X hsz hP hD hS hl
  subst hsz
  obtain ⟨⟨hx, hb, hml, hown, hts⟩, hK, hr, hlk, hA, hAs, hSta⟩ := id X
  have hl : lv_has ls 6 [(0, .ref (a 9)), (1, .int x1), (2, .int x2)] := hl
  unfold moQ1_plainWeekdays at hm
  refine lv_aload_n hx hb dX1_plainWeekdays_0 rfl (lv_at hl 0 rfl) ?_
  refine gC_filler_days X kw161 hP dX1_plainWeekdays_1 ?_
  refine gC_days_first X kw46 hP dX1_plainWeekdays_4 ?_
  refine lv_iload_n hx hb dX1_plainWeekdays_7 rfl (lv_at hl 1 rfl) ?_
  obtain ⟨hi_1, hm⟩ := gi_s hm
  refine ldC_first X hP hi_1 dX1_plainWeekdays_8 ?_
  refine lv_bipush (v := 7) hx hb dX1_plainWeekdays_9 (by decide) ?_
  refine lv_irem hx hb dX1_plainWeekdays_11 (by decide) ?_
  refine lv_istore_n (lv' := [(3, .int (rmI (r4A q 3 x1) 7)), (0, .ref (a 9)), (1, .int x1), (2, .int x2)]) hx hb dX1_plainWeekdays_12 rfl hl (by decide) rfl (fun ls hl => ?_)
  refine lv_iload_n hx hb dX1_plainWeekdays_13 rfl (lv_at hl 3 rfl) ?_
  refine lv_iload_n hx hb dX1_plainWeekdays_14 rfl (lv_at hl 0 rfl) ?_
  refine lv_iushr (v := (urI x2 (rmI (r4A q 3 x1) 7))) hx hb dX1_plainWeekdays_15 rfl ?_
  refine lv_iload_n hx hb dX1_plainWeekdays_16 rfl (lv_at hl 3 rfl) ?_
  refine lv_bipush (v := 7) hx hb dX1_plainWeekdays_17 (by decide) ?_
  refine lv_iload_n hx hb dX1_plainWeekdays_19 rfl (lv_at hl 0 rfl) ?_
  refine lv_isub hx hb dX1_plainWeekdays_20 ?_
  refine lv_ishl hx hb dX1_plainWeekdays_21 ?_
  refine lv_ior hx hb dX1_plainWeekdays_22 ?_
  refine lv_bipush (v := 127) hx hb dX1_plainWeekdays_23 (by decide) ?_
  refine lv_iand hx hb dX1_plainWeekdays_25 ?_
  refine lv_istore (lv' := [(4, .int (((urI x2 (rmI (r4A q 3 x1) 7)) ||| (slI x2 (7 - (rmI (r4A q 3 x1) 7)))) &&& 127)), (3, .int (rmI (r4A q 3 x1) 7)), (0, .ref (a 9)), (1, .int x1), (2, .int x2)]) hx hb dX1_plainWeekdays_26 hl (by decide) rfl (fun ls hl => ?_)
  refine lv_iload hx hb dX1_plainWeekdays_28 (lv_at hl 0 rfl) ?_
  refine lv_iload hx hb dX1_plainWeekdays_30 (lv_at hl 0 rfl) ?_
  refine lv_bipush (v := 7) hx hb dX1_plainWeekdays_32 (by decide) ?_
  refine lv_ishl hx hb dX1_plainWeekdays_34 ?_
  refine lv_ior hx hb dX1_plainWeekdays_35 ?_
  refine lv_iload hx hb dX1_plainWeekdays_36 (lv_at hl 0 rfl) ?_
  refine lv_bipush (v := 14) hx hb dX1_plainWeekdays_38 (by decide) ?_
  refine lv_ishl hx hb dX1_plainWeekdays_40 ?_
  refine lv_ior hx hb dX1_plainWeekdays_41 ?_
  refine lv_iload hx hb dX1_plainWeekdays_42 (lv_at hl 0 rfl) ?_
  refine lv_bipush (v := 21) hx hb dX1_plainWeekdays_44 (by decide) ?_
  refine lv_ishl hx hb dX1_plainWeekdays_46 ?_
  refine lv_ior hx hb dX1_plainWeekdays_47 ?_
  refine lv_istore (lv' := [(5, .int ((((((urI x2 (rmI (r4A q 3 x1) 7)) ||| (slI x2 (7 - (rmI (r4A q 3 x1) 7)))) &&& 127) ||| (slI (((urI x2 (rmI (r4A q 3 x1) 7)) ||| (slI x2 (7 - (rmI (r4A q 3 x1) 7)))) &&& 127) 7)) ||| (slI (((urI x2 (rmI (r4A q 3 x1) 7)) ||| (slI x2 (7 - (rmI (r4A q 3 x1) 7)))) &&& 127) 14)) ||| (slI (((urI x2 (rmI (r4A q 3 x1) 7)) ||| (slI x2 (7 - (rmI (r4A q 3 x1) 7)))) &&& 127) 21))), (4, .int (((urI x2 (rmI (r4A q 3 x1) 7)) ||| (slI x2 (7 - (rmI (r4A q 3 x1) 7)))) &&& 127)), (3, .int (rmI (r4A q 3 x1) 7)), (0, .ref (a 9)), (1, .int x1), (2, .int x2)]) hx hb dX1_plainWeekdays_48 hl (by decide) rfl (fun ls hl => ?_)
  refine lv_iload hx hb dX1_plainWeekdays_50 (lv_at hl 0 rfl) ?_
  refine lv_iload hx hb dX1_plainWeekdays_52 (lv_at hl 1 rfl) ?_
  refine lv_bipush (v := 28) hx hb dX1_plainWeekdays_54 (by decide) ?_
  refine lv_ishl hx hb dX1_plainWeekdays_56 ?_
  refine lv_ior hx hb dX1_plainWeekdays_57 ?_
  exact ret_io (wf := wF G a ρ T) X hm hP hS dX1_plainWeekdays_58

-- RuledCalendar$Filler.byWeekday
def moQ1_byWeekday (n : Nat) (ρ : Nat) (x1 : Int32) (q : Pc4) : Option (Int32) :=
  (bd1 (moQ5_has n 7 q) fun r_1 => (if r_1 = 0 then (gl (r4I q 2) 4 (if (r4I q 2) = 1 then (bd1 (moQ0_numberOf n (r4S q 15) q) fun r_5 => (bd1 (moQ1_plainWeekdays n ρ x1 (slI 1 (rmI r_5 7)) q) fun r_6 => (some r_6))) else (some 2147483647))) else (if (r4S q 10) = 0 then (bd1 (moQ1_plainWeekdays n ρ x1 (r4S q 9) q) fun r_10 => (some (0 ||| r_10))) else (bd1 (moQ1_numberedWeekdays n ρ x1 q) fun r_8 => (bd1 (moQ1_plainWeekdays n ρ x1 (r4S q 9) q) fun r_9 => (some (r_8 ||| r_9)))))))
set_option maxHeartbeats 4000000 in
set_option maxRecDepth 100000 in
theorem cQ1_byWeekday {l : Launch} {G : Ev} {a : Nat → Nat} {ρ : Nat} {T : va_W} {n : Nat} {q : Pc4} {x1 : Int32} {r : Int32} (hm : moQ1_byWeekday n ρ x1 q = some r) : CtI l G yX1_byWeekday cX1_byWeekday 3 (some .int) 2 50 0 0 [.ref (a 9), .int x1] (wF G a ρ T q) (wF G a ρ T q) r := by
  intro sz
  refine enter (by decide) (Nat.le_of_ble_eq_true rfl) ?_
  intro p e s m args below meth c ls X hsz hP hD hS hl
  subst hsz
  obtain ⟨⟨hx, hb, hml, hown, hts⟩, hK, hr, hlk, hA, hAs, hSta⟩ := id X
  have hl : lv_has ls 3 [(0, .ref (a 9)), (1, .int x1)] := hl
  unfold moQ1_byWeekday at hm
  refine lv_aload_n hx hb dX1_byWeekday_0 rfl (lv_at hl 0 rfl) ?_
  refine gC_filler_rule X kw162 hP dX1_byWeekday_1 ?_
  refine va_gets hx hb (zP_BYDAY X) hS hown (hts _ (List.mem_cons_of_mem _ kw562)) (fun _ h => h) dX1_byWeekday_4 ?_
  obtain ⟨r_1, e_1, hm⟩ := bd1_s hm
  refine goV_i (n := 1) (C := RX5) X (cQ5_has (T := ((a ρ, cRow G (q.2.1 14)) :: T)) e_1) (gV kw558 kw407 kw408 kw3 kw409) (by decide +kernel) ⟨by decide, by decide⟩ (rc_rule hK hP) hP (show va_D _ (wC G a ((a ρ, cRow G (q.2.1 14)) :: T) q) from (dF (q1 := q) hD)) hS rfl rfl hl.1 (Nat.le_of_ble_eq_true rfl) dX1_byWeekday_7 ⟨Nat.le_refl _, Nat.le_refl _⟩ (fun H locs hP _ hS => ?_)
  have hP : va_P (DD G) vwCl (wF G a ρ T q) H := hP
  refine lv_if_eq (tgt := 48) hx hb dX1_byWeekday_10 (by decide) (fun c_2 => ?_) (fun c_2 => ?_)
  · have hm := (if_pos c_2).symm.trans hm
    refine lv_aload_n hx hb dX1_byWeekday_48 rfl (lv_at hl 0 rfl) ?_
    refine gC_filler_rule X kw162 hP dX1_byWeekday_49 ?_
    refine gC_rule_frequency X kw76 hP dX1_byWeekday_52 ?_
    refine va_gets hx hb (zF_WEEKLY X) hS hown (hts _ (List.mem_cons_of_mem _ kw583)) (fun _ h => h) dX1_byWeekday_55 ?_
    obtain ⟨hg_3, hm⟩ := gl_s hm
    refine acF (tgt := 83) X hg_3 (by decide) dX1_byWeekday_58 (by decide) (fun c_4 => ?_) (fun c_4 => ?_)
    · have hm := (if_neg c_4).symm.trans hm
      refine lv_ldc (v := 2147483647) hx hb hown (hts _ (List.mem_cons_of_mem _ kw563)) dX1_byWeekday_83 ?_
      exact ret_io (wf := wF G a ρ T) X hm hP hS dX1_byWeekday_85
    · have hm := (if_pos c_4).symm.trans hm
      refine lv_aload_n hx hb dX1_byWeekday_61 rfl (lv_at hl 0 rfl) ?_
      refine lv_iload_n hx hb dX1_byWeekday_62 rfl (lv_at hl 1 rfl) ?_
      refine lv_iconst (v := 1) hx hb dX1_byWeekday_63 (by decide) ?_
      refine lv_aload_n hx hb dX1_byWeekday_64 rfl (lv_at hl 0 rfl) ?_
      refine gC_filler_days X kw161 hP dX1_byWeekday_65 ?_
      refine lv_aload_n hx hb dX1_byWeekday_68 rfl (lv_at hl 0 rfl) ?_
      refine gC_filler_start X kw164 hP dX1_byWeekday_69 ?_
      obtain ⟨r_5, e_5, hm⟩ := bd1_s hm
      refine goV_i (n := 1) (C := RX0) X (cQ0_numberOf (T := ((a ρ, cRow G (q.2.1 14)) :: T)) e_5) (gV kw522 kw523 kw524 kw2 kw525) (by decide +kernel) ⟨by decide, by decide⟩ (rc_days hK hP) hP (show va_D _ (wC G a ((a ρ, cRow G (q.2.1 14)) :: T) q) from (dF (q1 := q) hD)) hS rfl rfl hl.1 (Nat.le_of_ble_eq_true rfl) dX1_byWeekday_72 ⟨Nat.le_refl _, Nat.le_refl _⟩ (fun H locs hP _ hS => ?_)
      have hP : va_P (DD G) vwCl (wF G a ρ T q) H := hP
      refine lv_bipush (v := 7) hx hb dX1_byWeekday_75 (by decide) ?_
      refine lv_irem hx hb dX1_byWeekday_77 (by decide) ?_
      refine lv_ishl hx hb dX1_byWeekday_78 ?_
      obtain ⟨r_6, e_6, hm⟩ := bd1_s hm
      refine goV_i (n := 2) (C := RX1) X (cQ1_plainWeekdays e_6) (gV kw579 kw581 ks_yX1_plainWeekdays kw8 kw582) (by decide +kernel) ⟨by decide, by decide⟩ (rc_filler hK hP) hP (dF (q1 := q) hD) hS rfl rfl hl.1 (Nat.le_of_ble_eq_true rfl) dX1_byWeekday_79 ⟨Nat.le_refl _, Nat.le_refl _⟩ (fun H locs hP _ hS => ?_)
      exact ret_io (wf := wF G a ρ T) X hm hP hS dX1_byWeekday_82
  · have hm := (if_neg c_2).symm.trans hm
    refine lv_aload_n hx hb dX1_byWeekday_13 rfl (lv_at hl 0 rfl) ?_
    refine gC_filler_rule X kw162 hP dX1_byWeekday_14 ?_
    refine gC_rule_numberedWeekdays X kw93 hP dX1_byWeekday_17 ?_
    refine lv_if_ne (tgt := 27) hx hb dX1_byWeekday_20 (by decide) (fun c_7 => ?_) (fun c_7 => ?_)
    · have hm := (if_neg c_7).symm.trans hm
      refine lv_aload_n hx hb dX1_byWeekday_27 rfl (lv_at hl 0 rfl) ?_
      refine lv_iload_n hx hb dX1_byWeekday_28 rfl (lv_at hl 1 rfl) ?_
      obtain ⟨r_8, e_8, hm⟩ := bd1_s hm
      refine goV_i (n := 1) (C := RX1) X (cQ1_numberedWeekdays e_8) (gV kw574 kw576 ks_yX1_numberedWeekdays kw8 kw577) (by decide +kernel) ⟨by decide, by decide⟩ (rc_filler hK hP) hP (dF (q1 := q) hD) hS rfl rfl hl.1 (Nat.le_of_ble_eq_true rfl) dX1_byWeekday_29 ⟨Nat.le_refl _, Nat.le_refl _⟩ (fun H locs hP _ hS => ?_)
      refine lv_istore_n (lv' := [(2, .int r_8), (0, .ref (a 9)), (1, .int x1)]) hx hb dX1_byWeekday_32 rfl hl (by decide) rfl (fun ls hl => ?_)
      refine lv_iload_n hx hb dX1_byWeekday_33 rfl (lv_at hl 0 rfl) ?_
      refine lv_aload_n hx hb dX1_byWeekday_34 rfl (lv_at hl 1 rfl) ?_
      refine lv_iload_n hx hb dX1_byWeekday_35 rfl (lv_at hl 2 rfl) ?_
      refine lv_aload_n hx hb dX1_byWeekday_36 rfl (lv_at hl 1 rfl) ?_
      refine gC_filler_rule X kw162 hP dX1_byWeekday_37 ?_
      refine gC_rule_weekdays X kw91 hP dX1_byWeekday_40 ?_
      obtain ⟨r_9, e_9, hm⟩ := bd1_s hm
      refine goV_i (n := 2) (C := RX1) X (cQ1_plainWeekdays e_9) (gV kw579 kw581 ks_yX1_plainWeekdays kw8 kw582) (by decide +kernel) ⟨by decide, by decide⟩ (rc_filler hK hP) hP (dF (q1 := q) hD) hS rfl rfl hl.1 (Nat.le_of_ble_eq_true rfl) dX1_byWeekday_43 ⟨Nat.le_refl _, Nat.le_refl _⟩ (fun H locs hP _ hS => ?_)
      refine lv_ior hx hb dX1_byWeekday_46 ?_
      exact ret_io (wf := wF G a ρ T) X hm hP hS dX1_byWeekday_47
    · have hm := (if_pos c_7).symm.trans hm
      refine lv_iconst (v := 0) hx hb dX1_byWeekday_23 (by decide) ?_
      refine lv_goto (tgt := 32) hx hb dX1_byWeekday_24 (by decide) ?_
      refine lv_istore_n (lv' := [(2, .int 0), (0, .ref (a 9)), (1, .int x1)]) hx hb dX1_byWeekday_32 rfl hl (by decide) rfl (fun ls hl => ?_)
      refine lv_iload_n hx hb dX1_byWeekday_33 rfl (lv_at hl 0 rfl) ?_
      refine lv_aload_n hx hb dX1_byWeekday_34 rfl (lv_at hl 1 rfl) ?_
      refine lv_iload_n hx hb dX1_byWeekday_35 rfl (lv_at hl 2 rfl) ?_
      refine lv_aload_n hx hb dX1_byWeekday_36 rfl (lv_at hl 1 rfl) ?_
      refine gC_filler_rule X kw162 hP dX1_byWeekday_37 ?_
      refine gC_rule_weekdays X kw91 hP dX1_byWeekday_40 ?_
      obtain ⟨r_10, e_10, hm⟩ := bd1_s hm
      refine goV_i (n := 2) (C := RX1) X (cQ1_plainWeekdays e_10) (gV kw579 kw581 ks_yX1_plainWeekdays kw8 kw582) (by decide +kernel) ⟨by decide, by decide⟩ (rc_filler hK hP) hP (dF (q1 := q) hD) hS rfl rfl hl.1 (Nat.le_of_ble_eq_true rfl) dX1_byWeekday_43 ⟨Nat.le_refl _, Nat.le_refl _⟩ (fun H locs hP _ hS => ?_)
      refine lv_ior hx hb dX1_byWeekday_46 ?_
      exact ret_io (wf := wF G a ρ T) X hm hP hS dX1_byWeekday_47

-- RuledCalendar$Filler.suitingDays
def moQ1_suitingDays (n : Nat) (ρ : Nat) (x1 : Int32) (q : Pc4) : Option (Int32) :=
  (bd1 (moQ1_monthSuits n ρ x1 q) fun r_1 => (if r_1 = 0 then (some 0) else (bd1 (moQ0_lengthOf n x1) fun r_3 => (bd1 (moQ1_byMonthDay n ρ x1 q) fun r_4 => (bd1 (moQ1_byWeekday n ρ x1 q) fun r_5 => (some (((urI 2147483647 (31 - r_3)) &&& r_4) &&& r_5)))))))
set_option maxHeartbeats 4000000 in
set_option maxRecDepth 100000 in
theorem cQ1_suitingDays {l : Launch} {G : Ev} {a : Nat → Nat} {ρ : Nat} {T : va_W} {n : Nat} {q : Pc4} {x1 : Int32} {r : Int32} (hm : moQ1_suitingDays n ρ x1 q = some r) : CtI l G yX1_suitingDays cX1_suitingDays 3 (some .int) 3 72 0 0 [.ref (a 9), .int x1] (wF G a ρ T q) (wF G a ρ T q) r := by
  intro sz
  refine enter (by decide) (Nat.le_of_ble_eq_true rfl) ?_
  intro p e s m args below meth c ls X hsz hP hD hS hl
  subst hsz
  obtain ⟨⟨hx, hb, hml, hown, hts⟩, hK, hr, hlk, hA, hAs, hSta⟩ := id X
  have hl : lv_has ls 3 [(0, .ref (a 9)), (1, .int x1)] := hl
  unfold moQ1_suitingDays at hm
  refine lv_aload_n hx hb dX1_suitingDays_0 rfl (lv_at hl 0 rfl) ?_
  refine lv_iload_n hx hb dX1_suitingDays_1 rfl (lv_at hl 1 rfl) ?_
  obtain ⟨r_1, e_1, hm⟩ := bd1_s hm
  refine goV_i (n := 1) (C := RX1) X (cQ1_monthSuits e_1) (gV kw553 kw555 ks_yX1_monthSuits kw8 kw556) (by decide +kernel) ⟨by decide, by decide⟩ (rc_filler hK hP) hP (dF (q1 := q) hD) hS rfl rfl hl.1 (Nat.le_of_ble_eq_true rfl) dX1_suitingDays_2 ⟨Nat.le_refl _, Nat.le_refl _⟩ (fun H locs hP _ hS => ?_)
  refine lv_if_ne (tgt := 10) hx hb dX1_suitingDays_5 (by decide) (fun c_2 => ?_) (fun c_2 => ?_)
  · have hm := (if_neg c_2).symm.trans hm
    refine lv_ldc (v := 2147483647) hx hb hown (hts _ (List.mem_cons_of_mem _ kw563)) dX1_suitingDays_10 ?_
    refine lv_bipush (v := 31) hx hb dX1_suitingDays_12 (by decide) ?_
    refine lv_iload_n hx hb dX1_suitingDays_14 rfl (lv_at hl 1 rfl) ?_
    obtain ⟨r_3, e_3, hm⟩ := bd1_s hm
    refine goT_i (n := 1) X (cQ0_lengthOf e_3) (gSx kw564 kw38 kw2 kw39) (by decide +kernel) ⟨by decide, by decide⟩ va_nil va_dnil hS rfl rfl hl.1 (Nat.le_of_ble_eq_true rfl) dX1_suitingDays_15 ⟨Nat.le_refl _, Nat.le_refl _⟩ (fun H locs _ hk hS => ?_)
    have hP := va_keep hP hk
    refine lv_isub hx hb dX1_suitingDays_18 ?_
    refine lv_iushr (v := (urI 2147483647 (31 - r_3))) hx hb dX1_suitingDays_19 rfl ?_
    refine lv_istore_n (lv' := [(2, .int (urI 2147483647 (31 - r_3))), (0, .ref (a 9)), (1, .int x1)]) hx hb dX1_suitingDays_20 rfl hl (by decide) rfl (fun ls hl => ?_)
    refine lv_iload_n hx hb dX1_suitingDays_21 rfl (lv_at hl 0 rfl) ?_
    refine lv_aload_n hx hb dX1_suitingDays_22 rfl (lv_at hl 1 rfl) ?_
    refine lv_iload_n hx hb dX1_suitingDays_23 rfl (lv_at hl 2 rfl) ?_
    obtain ⟨r_4, e_4, hm⟩ := bd1_s hm
    refine goV_i (n := 1) (C := RX1) X (cQ1_byMonthDay e_4) (gV kw565 kw567 ks_yX1_byMonthDay kw8 kw568) (by decide +kernel) ⟨by decide, by decide⟩ (rc_filler hK hP) hP (dF (q1 := q) hD) hS rfl rfl hl.1 (Nat.le_of_ble_eq_true rfl) dX1_suitingDays_24 ⟨Nat.le_refl _, Nat.le_refl _⟩ (fun H locs hP _ hS => ?_)
    refine lv_iand hx hb dX1_suitingDays_27 ?_
    refine lv_aload_n hx hb dX1_suitingDays_28 rfl (lv_at hl 1 rfl) ?_
    refine lv_iload_n hx hb dX1_suitingDays_29 rfl (lv_at hl 2 rfl) ?_
    obtain ⟨r_5, e_5, hm⟩ := bd1_s hm
    refine goV_i (n := 1) (C := RX1) X (cQ1_byWeekday e_5) (gV kw570 kw572 ks_yX1_byWeekday kw8 kw573) (by decide +kernel) ⟨by decide, by decide⟩ (rc_filler hK hP) hP (dF (q1 := q) hD) hS rfl rfl hl.1 (Nat.le_of_ble_eq_true rfl) dX1_suitingDays_30 ⟨Nat.le_refl _, Nat.le_refl _⟩ (fun H locs hP _ hS => ?_)
    refine lv_iand hx hb dX1_suitingDays_33 ?_
    exact ret_io (wf := wF G a ρ T) X hm hP hS dX1_suitingDays_34
  · have hm := (if_pos c_2).symm.trans hm
    refine lv_iconst (v := 0) hx hb dX1_suitingDays_8 (by decide) ?_
    exact ret_io (wf := wF G a ρ T) X hm hP hS dX1_suitingDays_9

-- RuledCalendar$Filler.countedDays
def moQ1_countedDays_L64 {α : Type} (n : Nat) (ρ : Nat) (q : Pc4) (K0 : Int32 → Option α) : Nat → Int32 → Int32 → Int32 → Int32 → Int32 → Option α
  | 0, _, _, _, _, _ => none
  | k + 1, x1, x2, x3, x4, x5 => (if 31 ≤ x5 then (K0 x4 ) else (if (x3 &&& (slI 1 x5)) = 0 then (moQ1_countedDays_L64 n ρ q K0 k x1 x2 x3 x4 (x5 + 1) ) else (bd1 (moQ1_counts n ρ x1 (x2 + x5) q) fun r_8 => (if r_8 = 0 then (moQ1_countedDays_L64 n ρ q K0 k x1 x2 x3 x4 (x5 + 1) ) else (moQ1_countedDays_L64 n ρ q K0 k x1 x2 x3 (x4 ||| (slI 1 x5)) (x5 + 1) )))))
def moQ1_countedDays (n : Nat) (ρ : Nat) (x1 : Int32) (q : Pc4) : Option (Int32) :=
  (gi x1 3601 (gl (r4I q 2) 4 (if (fwho (r4I q 2)) = 0 then (bd1 (moQ1_suitingDays n ρ x1 q) fun r_4 => (if (r4S q 16) = 1 then (some r_4) else (moQ1_countedDays_L64 n ρ q (fun z10_4 => (some z10_4)) n x1 (r4A q 3 x1) r_4 0 0 ))) else (bd1 (moQ1_counts n ρ x1 (r4A q 3 x1) q) fun r_11 => (if r_11 = 0 then (some 0) else (bd1 (moQ1_suitingDays n ρ x1 q) fun r_13 => (some r_13)))))))
set_option maxHeartbeats 4000000 in
set_option maxRecDepth 100000 in
theorem lpQ1_countedDays_64 {p : Program} {l : Launch} {e : Env} {s : State} {m : MethodId} {args : Array Value} {below : List Frame} {meth : Method} {c : Code} {G : Ev} {a : Nat → Nat} {ρ : Nat} {T : va_W} {Q : State → Prop} {A : Nat → Prop} {q : Pc4} (X : CX p s m args meth c cX1_countedDays 6 (some .int) RX1 (.code yX1_countedDays cX1_countedDays 6 (some .int)) G A) (hD : va_D A (wF G a ρ T q)) {α : Type} {o : α} {n : Nat} {K0 : Int32 → Option α} (h0 : ∀ (y4 : Int32) (H : Heap) (locs : List Loc) (ls : Array Slot), K0 y4  = some o → va_P (DD G) vwCl (wF G a ρ T q) H → va_S A s.heap H locs → lv_has ls 6 [(4, .int y4)] → W p l e { frames := 4, cells := 0, slots := 0, locals := 94 } s m args below meth c H locs 0 0 Q (F0 m 107 ls [])) : ∀ (k : Nat) (x1 : Int32) (x2 : Int32) (x3 : Int32) (x4 : Int32) (x5 : Int32) (H : Heap) (locs : List Loc) (ls : Array Slot), moQ1_countedDays_L64 n ρ q K0 k x1 x2 x3 x4 x5  = some o → va_P (DD G) vwCl (wF G a ρ T q) H → va_S A s.heap H locs → lv_has ls 6 [(0, .ref (a 9)), (1, .int x1), (2, .int x2), (3, .int x3), (4, .int x4), (5, .int x5)] → W p l e { frames := 4, cells := 0, slots := 0, locals := 94 } s m args below meth c H locs 0 0 Q (F0 m 64 ls []) := by
  obtain ⟨⟨hx, hb, hml, hown, hts⟩, hK, hr, hlk, hA, hAs, hSta⟩ := id X
  intro k
  induction k with
  | zero =>
    intro x1 x2 x3 x4 x5 H locs ls hm
    have hm : none = some o := hm
    cases hm
  | succ k ih =>
    intro x1 x2 x3 x4 x5 H locs ls hm hP hS hl
    rw [moQ1_countedDays_L64] at hm
    refine lv_iload hx hb dX1_countedDays_64 (lv_at hl 5 rfl) ?_
    refine lv_bipush (v := 31) hx hb dX1_countedDays_66 (by decide) ?_
    refine lv_icmp_ge (tgt := 107) hx hb dX1_countedDays_68 (by decide) (fun c_6 => ?_) (fun c_6 => ?_)
    · have hm := (if_pos c_6).symm.trans hm
      exact h0 _ _ _ _ hm hP hS (lv_sub hl [4] rfl)
    · have hm := (if_neg c_6).symm.trans hm
      refine lv_iload_n hx hb dX1_countedDays_71 rfl (lv_at hl 3 rfl) ?_
      refine lv_iconst (v := 1) hx hb dX1_countedDays_72 (by decide) ?_
      refine lv_iload hx hb dX1_countedDays_73 (lv_at hl 5 rfl) ?_
      refine lv_ishl hx hb dX1_countedDays_75 ?_
      refine lv_iand hx hb dX1_countedDays_76 ?_
      refine lv_if_eq (tgt := 101) hx hb dX1_countedDays_77 (by decide) (fun c_7 => ?_) (fun c_7 => ?_)
      · have hm := (if_pos c_7).symm.trans hm
        refine lv_iinc (v := (x5 + 1)) (lv' := [(5, .int (x5 + 1)), (0, .ref (a 9)), (1, .int x1), (2, .int x2), (3, .int x3), (4, .int x4)]) hx hb dX1_countedDays_101 hl (k := 5) rfl (by first | rfl | decide) (by decide) rfl (fun ls hl => ?_)
        refine lv_goto (tgt := 64) hx hb dX1_countedDays_104 (by decide) ?_
        exact ih _ _ _ _ _ _ _ _ hm hP hS (lv_sub hl [1, 2, 3, 4, 5, 0] rfl)
      · have hm := (if_neg c_7).symm.trans hm
        refine lv_aload_n hx hb dX1_countedDays_80 rfl (lv_at hl 0 rfl) ?_
        refine lv_iload_n hx hb dX1_countedDays_81 rfl (lv_at hl 1 rfl) ?_
        refine lv_iload_n hx hb dX1_countedDays_82 rfl (lv_at hl 2 rfl) ?_
        refine lv_iload hx hb dX1_countedDays_83 (lv_at hl 5 rfl) ?_
        refine lv_iadd hx hb dX1_countedDays_85 ?_
        obtain ⟨r_8, e_8, hm⟩ := bd1_s hm
        refine goV_i (n := 2) (C := RX1) X (cQ1_counts e_8) (gV kw545 kw547 ks_yX1_counts kw8 kw548) (by decide +kernel) ⟨by decide, by decide⟩ (rc_filler hK hP) hP (dF (q1 := q) hD) hS rfl rfl hl.1 (Nat.le_of_ble_eq_true rfl) dX1_countedDays_86 ⟨Nat.le_refl _, Nat.le_refl _⟩ (fun H locs hP _ hS => ?_)
        refine lv_if_eq (tgt := 101) hx hb dX1_countedDays_89 (by decide) (fun c_9 => ?_) (fun c_9 => ?_)
        · have hm := (if_pos c_9).symm.trans hm
          refine lv_iinc (v := (x5 + 1)) (lv' := [(5, .int (x5 + 1)), (0, .ref (a 9)), (1, .int x1), (2, .int x2), (3, .int x3), (4, .int x4)]) hx hb dX1_countedDays_101 hl (k := 5) rfl (by first | rfl | decide) (by decide) rfl (fun ls hl => ?_)
          refine lv_goto (tgt := 64) hx hb dX1_countedDays_104 (by decide) ?_
          exact ih _ _ _ _ _ _ _ _ hm hP hS (lv_sub hl [1, 2, 3, 4, 5, 0] rfl)
        · have hm := (if_neg c_9).symm.trans hm
          refine lv_iload hx hb dX1_countedDays_92 (lv_at hl 4 rfl) ?_
          refine lv_iconst (v := 1) hx hb dX1_countedDays_94 (by decide) ?_
          refine lv_iload hx hb dX1_countedDays_95 (lv_at hl 5 rfl) ?_
          refine lv_ishl hx hb dX1_countedDays_97 ?_
          refine lv_ior hx hb dX1_countedDays_98 ?_
          refine lv_istore (lv' := [(4, .int (x4 ||| (slI 1 x5))), (0, .ref (a 9)), (1, .int x1), (2, .int x2), (3, .int x3), (5, .int x5)]) hx hb dX1_countedDays_99 hl (by decide) rfl (fun ls hl => ?_)
          refine lv_iinc (v := (x5 + 1)) (lv' := [(5, .int (x5 + 1)), (4, .int (x4 ||| (slI 1 x5))), (0, .ref (a 9)), (1, .int x1), (2, .int x2), (3, .int x3)]) hx hb dX1_countedDays_101 hl (k := 5) rfl (by first | rfl | decide) (by decide) rfl (fun ls hl => ?_)
          refine lv_goto (tgt := 64) hx hb dX1_countedDays_104 (by decide) ?_
          exact ih _ _ _ _ _ _ _ _ hm hP hS (lv_sub hl [2, 3, 4, 5, 1, 0] rfl)
set_option maxHeartbeats 4000000 in
set_option maxRecDepth 100000 in
theorem cQ1_countedDays {l : Launch} {G : Ev} {a : Nat → Nat} {ρ : Nat} {T : va_W} {n : Nat} {q : Pc4} {x1 : Int32} {r : Int32} (hm : moQ1_countedDays n ρ x1 q = some r) : CtI l G yX1_countedDays cX1_countedDays 6 (some .int) 4 94 0 0 [.ref (a 9), .int x1] (wF G a ρ T q) (wF G a ρ T q) r := by
  intro sz
  refine enter (by decide) (Nat.le_of_ble_eq_true rfl) ?_
  intro p e s m args below meth c ls X hsz hP hD hS hl
  subst hsz
  obtain ⟨⟨hx, hb, hml, hown, hts⟩, hK, hr, hlk, hA, hAs, hSta⟩ := id X
  have hl : lv_has ls 6 [(0, .ref (a 9)), (1, .int x1)] := hl
  unfold moQ1_countedDays at hm
  refine lv_aload_n hx hb dX1_countedDays_0 rfl (lv_at hl 0 rfl) ?_
  refine gC_filler_days X kw161 hP dX1_countedDays_1 ?_
  refine gC_days_first X kw46 hP dX1_countedDays_4 ?_
  refine lv_iload_n hx hb dX1_countedDays_7 rfl (lv_at hl 1 rfl) ?_
  obtain ⟨hi_1, hm⟩ := gi_s hm
  refine ldC_first X hP hi_1 dX1_countedDays_8 ?_
  refine lv_istore_n (lv' := [(2, .int (r4A q 3 x1)), (0, .ref (a 9)), (1, .int x1)]) hx hb dX1_countedDays_9 rfl hl (by decide) rfl (fun ls hl => ?_)
  refine lv_aload_n hx hb dX1_countedDays_10 rfl (lv_at hl 1 rfl) ?_
  refine gC_filler_rule X kw162 hP dX1_countedDays_11 ?_
  refine gC_rule_frequency X kw76 hP dX1_countedDays_14 ?_
  obtain ⟨hg_2, hm⟩ := gl_s hm
  refine vk_getf hx hb (fF_wholeMonths X hg_2) hS hown (hts _ (List.mem_cons_of_mem _ kw1083)) (fun _ h => h) dX1_countedDays_17 ?_
  refine lv_if_eq (tgt := 42) hx hb dX1_countedDays_20 (by decide) (fun c_3 => ?_) (fun c_3 => ?_)
  · have hm := (if_pos c_3).symm.trans hm
    refine lv_aload_n hx hb dX1_countedDays_42 rfl (lv_at hl 1 rfl) ?_
    refine lv_iload_n hx hb dX1_countedDays_43 rfl (lv_at hl 2 rfl) ?_
    obtain ⟨r_4, e_4, hm⟩ := bd1_s hm
    refine goV_i (n := 1) (C := RX1) X (cQ1_suitingDays e_4) (gV kw549 kw551 ks_yX1_suitingDays kw8 kw552) (by decide +kernel) ⟨by decide, by decide⟩ (rc_filler hK hP) hP (dF (q1 := q) hD) hS rfl rfl hl.1 (Nat.le_of_ble_eq_true rfl) dX1_countedDays_44 ⟨Nat.le_refl _, Nat.le_refl _⟩ (fun H locs hP _ hS => ?_)
    refine lv_istore_n (lv' := [(3, .int r_4), (2, .int (r4A q 3 x1)), (0, .ref (a 9)), (1, .int x1)]) hx hb dX1_countedDays_47 rfl hl (by decide) rfl (fun ls hl => ?_)
    refine lv_aload_n hx hb dX1_countedDays_48 rfl (lv_at hl 2 rfl) ?_
    refine gC_filler_interval X kw165 hP dX1_countedDays_49 ?_
    refine lv_iconst (v := 1) hx hb dX1_countedDays_52 (by decide) ?_
    refine lv_icmp_ne (tgt := 58) hx hb dX1_countedDays_53 (by decide) (fun c_5 => ?_) (fun c_5 => ?_)
    · have hm := (if_neg c_5).symm.trans hm
      refine lv_iconst (v := 0) hx hb dX1_countedDays_58 (by decide) ?_
      refine lv_istore (lv' := [(4, .int 0), (3, .int r_4), (2, .int (r4A q 3 x1)), (0, .ref (a 9)), (1, .int x1)]) hx hb dX1_countedDays_59 hl (by decide) rfl (fun ls hl => ?_)
      refine lv_iconst (v := 0) hx hb dX1_countedDays_61 (by decide) ?_
      refine lv_istore (lv' := [(5, .int 0), (4, .int 0), (3, .int r_4), (2, .int (r4A q 3 x1)), (0, .ref (a 9)), (1, .int x1)]) hx hb dX1_countedDays_62 hl (by decide) rfl (fun ls hl => ?_)
      refine lpQ1_countedDays_64 X hD (fun z10_4 H locs ls hm hP hS hl => ?_) n _ _ _ _ _ _ _ _ hm hP hS (lv_sub hl [4, 5, 3, 2, 1, 0] rfl)
      refine lv_iload hx hb dX1_countedDays_107 (lv_at hl 0 rfl) ?_
      exact ret_io (wf := wF G a ρ T) X hm hP hS dX1_countedDays_109
    · have hm := (if_pos c_5).symm.trans hm
      refine lv_iload_n hx hb dX1_countedDays_56 rfl (lv_at hl 0 rfl) ?_
      exact ret_io (wf := wF G a ρ T) X hm hP hS dX1_countedDays_57
  · have hm := (if_neg c_3).symm.trans hm
    refine lv_aload_n hx hb dX1_countedDays_23 rfl (lv_at hl 1 rfl) ?_
    refine lv_iload_n hx hb dX1_countedDays_24 rfl (lv_at hl 2 rfl) ?_
    refine lv_iload_n hx hb dX1_countedDays_25 rfl (lv_at hl 0 rfl) ?_
    obtain ⟨r_11, e_11, hm⟩ := bd1_s hm
    refine goV_i (n := 2) (C := RX1) X (cQ1_counts e_11) (gV kw545 kw547 ks_yX1_counts kw8 kw548) (by decide +kernel) ⟨by decide, by decide⟩ (rc_filler hK hP) hP (dF (q1 := q) hD) hS rfl rfl hl.1 (Nat.le_of_ble_eq_true rfl) dX1_countedDays_26 ⟨Nat.le_refl _, Nat.le_refl _⟩ (fun H locs hP _ hS => ?_)
    refine lv_if_eq (tgt := 40) hx hb dX1_countedDays_29 (by decide) (fun c_12 => ?_) (fun c_12 => ?_)
    · have hm := (if_pos c_12).symm.trans hm
      refine lv_iconst (v := 0) hx hb dX1_countedDays_40 (by decide) ?_
      exact ret_io (wf := wF G a ρ T) X hm hP hS dX1_countedDays_41
    · have hm := (if_neg c_12).symm.trans hm
      refine lv_aload_n hx hb dX1_countedDays_32 rfl (lv_at hl 1 rfl) ?_
      refine lv_iload_n hx hb dX1_countedDays_33 rfl (lv_at hl 2 rfl) ?_
      obtain ⟨r_13, e_13, hm⟩ := bd1_s hm
      refine goV_i (n := 1) (C := RX1) X (cQ1_suitingDays e_13) (gV kw549 kw551 ks_yX1_suitingDays kw8 kw552) (by decide +kernel) ⟨by decide, by decide⟩ (rc_filler hK hP) hP (dF (q1 := q) hD) hS rfl rfl hl.1 (Nat.le_of_ble_eq_true rfl) dX1_countedDays_34 ⟨Nat.le_refl _, Nat.le_refl _⟩ (fun H locs hP _ hS => ?_)
      refine lv_goto (tgt := 41) hx hb dX1_countedDays_37 (by decide) ?_
      exact ret_io (wf := wF G a ρ T) X hm hP hS dX1_countedDays_41
