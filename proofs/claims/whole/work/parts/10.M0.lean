-- thrown
def moM_thrown (n : Nat) (q : Pc3) : Option (Int32) :=
  (some (rS q 0))
set_option maxHeartbeats 4000000 in
set_option maxRecDepth 100000 in
theorem cM_thrown {l : Launch} {G : Ev} {a : Nat → Nat} {n : Nat} {q : Pc3} {r : Int32} (hm : moM_thrown n q = some r) : CtI l G yX8_thrown cX8_thrown 1 (some .int) 0 0 0 0 [.ref (a 0)] (wM G a q) (wM G a q) r := by
  intro sz
  refine enter (by decide) (Nat.le_of_ble_eq_true rfl) ?_
  intro p e s m args below meth c ls X hsz hP hD hS hl
  subst hsz
  obtain ⟨⟨hx, hb, hml, hown, hts⟩, hK, hr, hlk, hA, hAs, hSta⟩ := id X
  have hl : lv_has ls 1 [(0, .ref (a 0))] := hl
  unfold moM_thrown at hm
  refine lv_aload_n hx hb dX8_thrown_0 rfl (lv_at hl 0 rfl) ?_
  refine gM_thrown X hP dX8_thrown_1 ?_
  exact ret_io (wf := wM G a) X hm hP hS dX8_thrown_4

-- isLeap
def moN_isLeap (n : Nat) (x0 : Int32) : Option (Int32) :=
  (if (rmI x0 4) = 0 then (if (rmI x0 100) = 0 then (if (rmI x0 400) = 0 then (some 1) else (some 0)) else (some 1)) else (if (rmI x0 400) = 0 then (some 1) else (some 0)))
set_option maxHeartbeats 4000000 in
set_option maxRecDepth 100000 in
theorem cN_isLeap {l : Launch} {G : Ev}  {n : Nat} {x0 : Int32} {r : Int32} (hm : moN_isLeap n x0  = some r) : CtI l G yX8_isLeap cX8_isLeap 1 (some .boolean) 0 0 0 0 [.int x0] (wN ()) (wN ()) r := by
  intro sz
  refine enter (by decide) (Nat.le_of_ble_eq_true rfl) ?_
  intro p e s m args below meth c ls X hsz hP hD hS hl
  subst hsz
  obtain ⟨⟨hx, hb, hml, hown, hts⟩, hK, hr, hlk, hA, hAs, hSta⟩ := id X
  have hl : lv_has ls 1 [(0, .int x0)] := hl
  unfold moN_isLeap at hm
  refine lv_iload_n hx hb dX8_isLeap_0 rfl (lv_at hl 0 rfl) ?_
  refine lv_iconst (v := 4) hx hb dX8_isLeap_1 (by decide) ?_
  refine lv_irem hx hb dX8_isLeap_2 (by decide) ?_
  refine lv_if_ne (tgt := 13) hx hb dX8_isLeap_3 (by decide) (fun c_1 => ?_) (fun c_1 => ?_)
  · have hm := (if_neg c_1).symm.trans hm
    refine lv_iload_n hx hb dX8_isLeap_13 rfl (lv_at hl 0 rfl) ?_
    refine lv_sipush (v := 400) hx hb dX8_isLeap_14 (by decide) ?_
    refine lv_irem hx hb dX8_isLeap_17 (by decide) ?_
    refine lv_if_ne (tgt := 25) hx hb dX8_isLeap_18 (by decide) (fun c_2 => ?_) (fun c_2 => ?_)
    · have hm := (if_neg c_2).symm.trans hm
      refine lv_iconst (v := 0) hx hb dX8_isLeap_25 (by decide) ?_
      exact ret_zo (wf := wN) X (by decide) hm hP hS dX8_isLeap_26
    · have hm := (if_pos c_2).symm.trans hm
      refine lv_iconst (v := 1) hx hb dX8_isLeap_21 (by decide) ?_
      refine lv_goto (tgt := 26) hx hb dX8_isLeap_22 (by decide) ?_
      exact ret_zo (wf := wN) X (by decide) hm hP hS dX8_isLeap_26
  · have hm := (if_pos c_1).symm.trans hm
    refine lv_iload_n hx hb dX8_isLeap_6 rfl (lv_at hl 0 rfl) ?_
    refine lv_bipush (v := 100) hx hb dX8_isLeap_7 (by decide) ?_
    refine lv_irem hx hb dX8_isLeap_9 (by decide) ?_
    refine lv_if_ne (tgt := 21) hx hb dX8_isLeap_10 (by decide) (fun c_3 => ?_) (fun c_3 => ?_)
    · have hm := (if_neg c_3).symm.trans hm
      refine lv_iconst (v := 1) hx hb dX8_isLeap_21 (by decide) ?_
      refine lv_goto (tgt := 26) hx hb dX8_isLeap_22 (by decide) ?_
      exact ret_zo (wf := wN) X (by decide) hm hP hS dX8_isLeap_26
    · have hm := (if_pos c_3).symm.trans hm
      refine lv_iload_n hx hb dX8_isLeap_13 rfl (lv_at hl 0 rfl) ?_
      refine lv_sipush (v := 400) hx hb dX8_isLeap_14 (by decide) ?_
      refine lv_irem hx hb dX8_isLeap_17 (by decide) ?_
      refine lv_if_ne (tgt := 25) hx hb dX8_isLeap_18 (by decide) (fun c_4 => ?_) (fun c_4 => ?_)
      · have hm := (if_neg c_4).symm.trans hm
        refine lv_iconst (v := 0) hx hb dX8_isLeap_25 (by decide) ?_
        exact ret_zo (wf := wN) X (by decide) hm hP hS dX8_isLeap_26
      · have hm := (if_pos c_4).symm.trans hm
        refine lv_iconst (v := 1) hx hb dX8_isLeap_21 (by decide) ?_
        refine lv_goto (tgt := 26) hx hb dX8_isLeap_22 (by decide) ?_
        exact ret_zo (wf := wN) X (by decide) hm hP hS dX8_isLeap_26

-- monthLength
def moM_monthLength (n : Nat) (x1 : Int32) (x2 : Int32) (q : Pc3) : Option (Int32) :=
  (if x2 = 2 then (bd1 (moN_isLeap n x1) fun r_3 => (if r_3 = 0 then (gi (x2 - 1) 12 (some (rA q 2 (x2 - 1)))) else (some 29))) else (gi (x2 - 1) 12 (some (rA q 2 (x2 - 1)))))
set_option maxHeartbeats 4000000 in
set_option maxRecDepth 100000 in
theorem cM_monthLength {l : Launch} {G : Ev} {a : Nat → Nat} {n : Nat} {q : Pc3} {x1 : Int32} {x2 : Int32} {r : Int32} (hm : moM_monthLength n x1 x2 q = some r) : CtI l G yX8_monthLength cX8_monthLength 3 (some .int) 1 20 0 0 [.ref (a 0), .int x1, .int x2] (wM G a q) (wM G a q) r := by
  intro sz
  refine enter (by decide) (Nat.le_of_ble_eq_true rfl) ?_
  intro p e s m args below meth c ls X hsz hP hD hS hl
  subst hsz
  obtain ⟨⟨hx, hb, hml, hown, hts⟩, hK, hr, hlk, hA, hAs, hSta⟩ := id X
  have hl : lv_has ls 3 [(0, .ref (a 0)), (1, .int x1), (2, .int x2)] := hl
  unfold moM_monthLength at hm
  refine lv_iload_n hx hb dX8_monthLength_0 rfl (lv_at hl 2 rfl) ?_
  refine lv_iconst (v := 2) hx hb dX8_monthLength_1 (by decide) ?_
  refine lv_icmp_ne (tgt := 17) hx hb dX8_monthLength_2 (by decide) (fun c_1 => ?_) (fun c_1 => ?_)
  · have hm := (if_neg c_1).symm.trans hm
    refine lv_aload_n hx hb dX8_monthLength_17 rfl (lv_at hl 0 rfl) ?_
    refine gM_lengths X hP dX8_monthLength_18 ?_
    refine lv_iload_n hx hb dX8_monthLength_21 rfl (lv_at hl 2 rfl) ?_
    refine lv_iconst (v := 1) hx hb dX8_monthLength_22 (by decide) ?_
    refine lv_isub hx hb dX8_monthLength_23 ?_
    obtain ⟨hi_2, hm⟩ := gi_s hm
    refine ldM_lengths X hP hi_2 dX8_monthLength_24 ?_
    exact ret_io (wf := wM G a) X hm hP hS dX8_monthLength_25
  · have hm := (if_pos c_1).symm.trans hm
    refine lv_iload_n hx hb dX8_monthLength_5 rfl (lv_at hl 1 rfl) ?_
    obtain ⟨r_3, e_3, hm⟩ := bd1_s hm
    refine goS_i (n := 1) X (cN_isLeap e_3) (gS kw785 kw786 kw9 kw787) (by decide +kernel) ⟨by decide, by decide⟩ va_nil va_dnil hS rfl rfl hl.1 (Nat.le_of_ble_eq_true rfl) dX8_monthLength_6 ⟨Nat.le_refl _, Nat.le_refl _⟩ (fun H locs _ hk hS => ?_)
    have hP := va_keep hP hk
    refine lv_if_eq (tgt := 17) hx hb dX8_monthLength_9 (by decide) (fun c_4 => ?_) (fun c_4 => ?_)
    · have hm := (if_pos c_4).symm.trans hm
      refine lv_aload_n hx hb dX8_monthLength_17 rfl (lv_at hl 0 rfl) ?_
      refine gM_lengths X hP dX8_monthLength_18 ?_
      refine lv_iload_n hx hb dX8_monthLength_21 rfl (lv_at hl 2 rfl) ?_
      refine lv_iconst (v := 1) hx hb dX8_monthLength_22 (by decide) ?_
      refine lv_isub hx hb dX8_monthLength_23 ?_
      obtain ⟨hi_5, hm⟩ := gi_s hm
      refine ldM_lengths X hP hi_5 dX8_monthLength_24 ?_
      exact ret_io (wf := wM G a) X hm hP hS dX8_monthLength_25
    · have hm := (if_neg c_4).symm.trans hm
      refine lv_bipush (v := 29) hx hb dX8_monthLength_12 (by decide) ?_
      refine lv_goto (tgt := 25) hx hb dX8_monthLength_14 (by decide) ?_
      exact ret_io (wf := wM G a) X hm hP hS dX8_monthLength_25

-- dayOf
def moM_dayOf_L5 {α : Type} (n : Nat) (q : Pc3) (K0 : Int32 → Int32 → Option α) : Nat → Int32 → Int32 → Int32 → Option α
  | 0, _, _, _ => none
  | k + 1, x1, x2, x3 => (if x3 ≤ x2 then (K0 x1 x2 ) else (gi ((x2 + x3) / 2) 109573 (if x1 ≤ (rA q 1 ((x2 + x3) / 2)) then (moM_dayOf_L5 n q K0 k x1 x2 ((x2 + x3) / 2) ) else (moM_dayOf_L5 n q K0 k x1 (((x2 + x3) / 2) + 1) x3 ))))
def moM_dayOf (n : Nat) (x1 : Int32) (q : Pc3) : Option (Int32) :=
  (moM_dayOf_L5 n q (fun z4_1 z4_2 => (if 109573 ≤ z4_2 then (some (-1)) else (gi z4_2 109573 (if (rA q 1 z4_2) = z4_1 then (some z4_2) else (some (-1)))))) n x1 0 109573 )
set_option maxHeartbeats 4000000 in
set_option maxRecDepth 100000 in
theorem lpM_dayOf_5 {p : Program} {l : Launch} {e : Env} {s : State} {m : MethodId} {args : Array Value} {below : List Frame} {meth : Method} {c : Code} {G : Ev} {a : Nat → Nat} {Q : State → Prop} {A : Nat → Prop} {q : Pc3} (X : CX p s m args meth c cX8_dayOf 5 (some .int) RX8 (.code yX8_dayOf cX8_dayOf 5 (some .int)) G A) (hD : va_D A (wM G a q)) {α : Type} {o : α} {n : Nat} {K0 : Int32 → Int32 → Option α} (h0 : ∀ (y1 : Int32) (y2 : Int32) (H : Heap) (locs : List Loc) (ls : Array Slot), K0 y1 y2  = some o → va_P (DD G) vwCl (wM G a q) H → va_S A s.heap H locs → lv_has ls 5 [(0, .ref (a 0)), (1, .int y1), (2, .int y2)] → W p l e { frames := 0, cells := 0, slots := 0, locals := 0 } s m args below meth c H locs 0 0 Q (F0 m 42 ls [])) : ∀ (k : Nat) (x1 : Int32) (x2 : Int32) (x3 : Int32) (H : Heap) (locs : List Loc) (ls : Array Slot), moM_dayOf_L5 n q K0 k x1 x2 x3  = some o → va_P (DD G) vwCl (wM G a q) H → va_S A s.heap H locs → lv_has ls 5 [(0, .ref (a 0)), (1, .int x1), (2, .int x2), (3, .int x3)] → W p l e { frames := 0, cells := 0, slots := 0, locals := 0 } s m args below meth c H locs 0 0 Q (F0 m 5 ls []) := by
  obtain ⟨⟨hx, hb, hml, hown, hts⟩, hK, hr, hlk, hA, hAs, hSta⟩ := id X
  intro k
  induction k with
  | zero =>
    intro x1 x2 x3 H locs ls hm
    have hm : none = some o := hm
    cases hm
  | succ k ih =>
    intro x1 x2 x3 H locs ls hm hP hS hl
    rw [moM_dayOf_L5] at hm
    refine lv_iload_n hx hb dX8_dayOf_5 rfl (lv_at hl 2 rfl) ?_
    refine lv_iload_n hx hb dX8_dayOf_6 rfl (lv_at hl 3 rfl) ?_
    refine lv_icmp_ge (tgt := 42) hx hb dX8_dayOf_7 (by decide) (fun c_1 => ?_) (fun c_1 => ?_)
    · have hm := (if_pos c_1).symm.trans hm
      exact h0 _ _ _ _ _ hm hP hS (lv_sub hl [0, 1, 2] rfl)
    · have hm := (if_neg c_1).symm.trans hm
      refine lv_iload_n hx hb dX8_dayOf_10 rfl (lv_at hl 2 rfl) ?_
      refine lv_iload_n hx hb dX8_dayOf_11 rfl (lv_at hl 3 rfl) ?_
      refine lv_iadd hx hb dX8_dayOf_12 ?_
      refine lv_iconst (v := 2) hx hb dX8_dayOf_13 (by decide) ?_
      refine lv_idiv hx hb dX8_dayOf_14 (by decide) ?_
      refine lv_istore (lv' := [(4, .int ((x2 + x3) / 2)), (0, .ref (a 0)), (1, .int x1), (2, .int x2), (3, .int x3)]) hx hb dX8_dayOf_15 hl (by decide) rfl (fun ls hl => ?_)
      refine lv_aload_n hx hb dX8_dayOf_17 rfl (lv_at hl 1 rfl) ?_
      refine gM_dates X hP dX8_dayOf_18 ?_
      refine lv_iload hx hb dX8_dayOf_21 (lv_at hl 0 rfl) ?_
      obtain ⟨hi_2, hm⟩ := gi_s hm
      refine ldM_dates X hP hi_2 dX8_dayOf_23 ?_
      refine lv_iload_n hx hb dX8_dayOf_24 rfl (lv_at hl 2 rfl) ?_
      refine lv_icmp_ge (tgt := 36) hx hb dX8_dayOf_25 (by decide) (fun c_3 => ?_) (fun c_3 => ?_)
      · have hm := (if_pos c_3).symm.trans hm
        refine lv_iload hx hb dX8_dayOf_36 (lv_at hl 0 rfl) ?_
        refine lv_istore_n (lv' := [(3, .int ((x2 + x3) / 2)), (4, .int ((x2 + x3) / 2)), (0, .ref (a 0)), (1, .int x1), (2, .int x2)]) hx hb dX8_dayOf_38 rfl hl (by decide) rfl (fun ls hl => ?_)
        refine lv_goto (tgt := 5) hx hb dX8_dayOf_39 (by decide) ?_
        exact ih _ _ _ _ _ _ hm hP hS (lv_sub hl [2, 3, 4, 0] rfl)
      · have hm := (if_neg c_3).symm.trans hm
        refine lv_iload hx hb dX8_dayOf_28 (lv_at hl 0 rfl) ?_
        refine lv_iconst (v := 1) hx hb dX8_dayOf_30 (by decide) ?_
        refine lv_iadd hx hb dX8_dayOf_31 ?_
        refine lv_istore_n (lv' := [(2, .int (((x2 + x3) / 2) + 1)), (4, .int ((x2 + x3) / 2)), (0, .ref (a 0)), (1, .int x1), (3, .int x3)]) hx hb dX8_dayOf_32 rfl hl (by decide) rfl (fun ls hl => ?_)
        refine lv_goto (tgt := 39) hx hb dX8_dayOf_33 (by decide) ?_
        refine lv_goto (tgt := 5) hx hb dX8_dayOf_39 (by decide) ?_
        exact ih _ _ _ _ _ _ hm hP hS (lv_sub hl [2, 3, 0, 4] rfl)
set_option maxHeartbeats 4000000 in
set_option maxRecDepth 100000 in
theorem cM_dayOf {l : Launch} {G : Ev} {a : Nat → Nat} {n : Nat} {q : Pc3} {x1 : Int32} {r : Int32} (hm : moM_dayOf n x1 q = some r) : CtI l G yX8_dayOf cX8_dayOf 5 (some .int) 0 0 0 0 [.ref (a 0), .int x1] (wM G a q) (wM G a q) r := by
  intro sz
  refine enter (by decide) (Nat.le_of_ble_eq_true rfl) ?_
  intro p e s m args below meth c ls X hsz hP hD hS hl
  subst hsz
  obtain ⟨⟨hx, hb, hml, hown, hts⟩, hK, hr, hlk, hA, hAs, hSta⟩ := id X
  have hl : lv_has ls 5 [(0, .ref (a 0)), (1, .int x1)] := hl
  unfold moM_dayOf at hm
  refine lv_iconst (v := 0) hx hb dX8_dayOf_0 (by decide) ?_
  refine lv_istore_n (lv' := [(2, .int 0), (0, .ref (a 0)), (1, .int x1)]) hx hb dX8_dayOf_1 rfl hl (by decide) rfl (fun ls hl => ?_)
  refine lv_ldc (v := 109573) hx hb hown (hts _ (List.mem_cons_of_mem _ kw779)) dX8_dayOf_2 ?_
  refine lv_istore_n (lv' := [(3, .int 109573), (2, .int 0), (0, .ref (a 0)), (1, .int x1)]) hx hb dX8_dayOf_4 rfl hl (by decide) rfl (fun ls hl => ?_)
  refine lpM_dayOf_5 X hD (fun z4_1 z4_2 H locs ls hm hP hS hl => ?_) n _ _ _ _ _ _ hm hP hS (lv_sub hl [2, 3, 1, 0] rfl)
  refine lv_iload_n hx hb dX8_dayOf_42 rfl (lv_at hl 2 rfl) ?_
  refine lv_ldc (v := 109573) hx hb hown (hts _ (List.mem_cons_of_mem _ kw779)) dX8_dayOf_43 ?_
  refine lv_icmp_ge (tgt := 62) hx hb dX8_dayOf_45 (by decide) (fun c_5 => ?_) (fun c_5 => ?_)
  · have hm := (if_pos c_5).symm.trans hm
    refine lv_iconst (v := (-1)) hx hb dX8_dayOf_62 (by decide) ?_
    exact ret_io (wf := wM G a) X hm hP hS dX8_dayOf_63
  · have hm := (if_neg c_5).symm.trans hm
    refine lv_aload_n hx hb dX8_dayOf_48 rfl (lv_at hl 0 rfl) ?_
    refine gM_dates X hP dX8_dayOf_49 ?_
    refine lv_iload_n hx hb dX8_dayOf_52 rfl (lv_at hl 2 rfl) ?_
    obtain ⟨hi_6, hm⟩ := gi_s hm
    refine ldM_dates X hP hi_6 dX8_dayOf_53 ?_
    refine lv_iload_n hx hb dX8_dayOf_54 rfl (lv_at hl 1 rfl) ?_
    refine lv_icmp_ne (tgt := 62) hx hb dX8_dayOf_55 (by decide) (fun c_7 => ?_) (fun c_7 => ?_)
    · have hm := (if_neg c_7).symm.trans hm
      refine lv_iconst (v := (-1)) hx hb dX8_dayOf_62 (by decide) ?_
      exact ret_io (wf := wM G a) X hm hP hS dX8_dayOf_63
    · have hm := (if_pos c_7).symm.trans hm
      refine lv_iload_n hx hb dX8_dayOf_58 rfl (lv_at hl 2 rfl) ?_
      refine lv_goto (tgt := 63) hx hb dX8_dayOf_59 (by decide) ?_
      exact ret_io (wf := wM G a) X hm hP hS dX8_dayOf_63

-- yearOf
def moM_yearOf (n : Nat) (x1 : Int32) (q : Pc3) : Option (Int32) :=
  (gi x1 109573 (some ((rA q 1 x1) / 10000)))
set_option maxHeartbeats 4000000 in
set_option maxRecDepth 100000 in
theorem cM_yearOf {l : Launch} {G : Ev} {a : Nat → Nat} {n : Nat} {q : Pc3} {x1 : Int32} {r : Int32} (hm : moM_yearOf n x1 q = some r) : CtI l G yX8_yearOf cX8_yearOf 2 (some .int) 0 0 0 0 [.ref (a 0), .int x1] (wM G a q) (wM G a q) r := by
  intro sz
  refine enter (by decide) (Nat.le_of_ble_eq_true rfl) ?_
  intro p e s m args below meth c ls X hsz hP hD hS hl
  subst hsz
  obtain ⟨⟨hx, hb, hml, hown, hts⟩, hK, hr, hlk, hA, hAs, hSta⟩ := id X
  have hl : lv_has ls 2 [(0, .ref (a 0)), (1, .int x1)] := hl
  unfold moM_yearOf at hm
  refine lv_aload_n hx hb dX8_yearOf_0 rfl (lv_at hl 0 rfl) ?_
  refine gM_dates X hP dX8_yearOf_1 ?_
  refine lv_iload_n hx hb dX8_yearOf_4 rfl (lv_at hl 1 rfl) ?_
  obtain ⟨hi_1, hm⟩ := gi_s hm
  refine ldM_dates X hP hi_1 dX8_yearOf_5 ?_
  refine lv_sipush (v := 10000) hx hb dX8_yearOf_6 (by decide) ?_
  refine lv_idiv hx hb dX8_yearOf_9 (by decide) ?_
  exact ret_io (wf := wM G a) X hm hP hS dX8_yearOf_10

-- monthOf
def moM_monthOf (n : Nat) (x1 : Int32) (q : Pc3) : Option (Int32) :=
  (gi x1 109573 (some (rmI ((rA q 1 x1) / 100) 100)))
set_option maxHeartbeats 4000000 in
set_option maxRecDepth 100000 in
theorem cM_monthOf {l : Launch} {G : Ev} {a : Nat → Nat} {n : Nat} {q : Pc3} {x1 : Int32} {r : Int32} (hm : moM_monthOf n x1 q = some r) : CtI l G yX8_monthOf cX8_monthOf 2 (some .int) 0 0 0 0 [.ref (a 0), .int x1] (wM G a q) (wM G a q) r := by
  intro sz
  refine enter (by decide) (Nat.le_of_ble_eq_true rfl) ?_
  intro p e s m args below meth c ls X hsz hP hD hS hl
  subst hsz
  obtain ⟨⟨hx, hb, hml, hown, hts⟩, hK, hr, hlk, hA, hAs, hSta⟩ := id X
  have hl : lv_has ls 2 [(0, .ref (a 0)), (1, .int x1)] := hl
  unfold moM_monthOf at hm
  refine lv_aload_n hx hb dX8_monthOf_0 rfl (lv_at hl 0 rfl) ?_
  refine gM_dates X hP dX8_monthOf_1 ?_
  refine lv_iload_n hx hb dX8_monthOf_4 rfl (lv_at hl 1 rfl) ?_
  obtain ⟨hi_1, hm⟩ := gi_s hm
  refine ldM_dates X hP hi_1 dX8_monthOf_5 ?_
  refine lv_bipush (v := 100) hx hb dX8_monthOf_6 (by decide) ?_
  refine lv_idiv hx hb dX8_monthOf_8 (by decide) ?_
  refine lv_bipush (v := 100) hx hb dX8_monthOf_9 (by decide) ?_
  refine lv_irem hx hb dX8_monthOf_11 (by decide) ?_
  exact ret_io (wf := wM G a) X hm hP hS dX8_monthOf_12

-- monthDayOf
def moM_monthDayOf (n : Nat) (x1 : Int32) (q : Pc3) : Option (Int32) :=
  (gi x1 109573 (some (rmI (rA q 1 x1) 100)))
set_option maxHeartbeats 4000000 in
set_option maxRecDepth 100000 in
theorem cM_monthDayOf {l : Launch} {G : Ev} {a : Nat → Nat} {n : Nat} {q : Pc3} {x1 : Int32} {r : Int32} (hm : moM_monthDayOf n x1 q = some r) : CtI l G yX8_monthDayOf cX8_monthDayOf 2 (some .int) 0 0 0 0 [.ref (a 0), .int x1] (wM G a q) (wM G a q) r := by
  intro sz
  refine enter (by decide) (Nat.le_of_ble_eq_true rfl) ?_
  intro p e s m args below meth c ls X hsz hP hD hS hl
  subst hsz
  obtain ⟨⟨hx, hb, hml, hown, hts⟩, hK, hr, hlk, hA, hAs, hSta⟩ := id X
  have hl : lv_has ls 2 [(0, .ref (a 0)), (1, .int x1)] := hl
  unfold moM_monthDayOf at hm
  refine lv_aload_n hx hb dX8_monthDayOf_0 rfl (lv_at hl 0 rfl) ?_
  refine gM_dates X hP dX8_monthDayOf_1 ?_
  refine lv_iload_n hx hb dX8_monthDayOf_4 rfl (lv_at hl 1 rfl) ?_
  obtain ⟨hi_1, hm⟩ := gi_s hm
  refine ldM_dates X hP hi_1 dX8_monthDayOf_5 ?_
  refine lv_bipush (v := 100) hx hb dX8_monthDayOf_6 (by decide) ?_
  refine lv_irem hx hb dX8_monthDayOf_8 (by decide) ?_
  exact ret_io (wf := wM G a) X hm hP hS dX8_monthDayOf_9

-- periodOf
def moM_periodOf (n : Nat) (x1 : Int32) (q : Pc3) : Option (Int32) :=
  (if (rS q 9) = 0 then (some x1) else (if (rS q 9) = 1 then (some (x1 / 7)) else (if (rS q 9) = 2 then (bd1 (moM_yearOf n x1 q) fun r_4 => (bd1 (moM_monthOf n x1 q) fun r_5 => (some ((12 * r_4) + r_5)))) else (bd1 (moM_yearOf n x1 q) fun r_6 => (some r_6)))))
set_option maxHeartbeats 4000000 in
set_option maxRecDepth 100000 in
theorem cM_periodOf {l : Launch} {G : Ev} {a : Nat → Nat} {n : Nat} {q : Pc3} {x1 : Int32} {r : Int32} (hm : moM_periodOf n x1 q = some r) : CtI l G yX8_periodOf cX8_periodOf 2 (some .int) 1 21 0 0 [.ref (a 0), .int x1] (wM G a q) (wM G a q) r := by
  intro sz
  refine enter (by decide) (Nat.le_of_ble_eq_true rfl) ?_
  intro p e s m args below meth c ls X hsz hP hD hS hl
  subst hsz
  obtain ⟨⟨hx, hb, hml, hown, hts⟩, hK, hr, hlk, hA, hAs, hSta⟩ := id X
  have hl : lv_has ls 2 [(0, .ref (a 0)), (1, .int x1)] := hl
  unfold moM_periodOf at hm
  refine lv_aload_n hx hb dX8_periodOf_0 rfl (lv_at hl 0 rfl) ?_
  refine gM_freq X hP dX8_periodOf_1 ?_
  by_cases c_1 : (rS q 9) = 0
  · have hm := (if_pos c_1).symm.trans hm
    refine lv_tableIn (tgt := 32) hx hb dX8_periodOf_4 (by rw [c_1]; decide) (by rw [c_1]; decide) (by rw [c_1]; rfl) (by decide) ?_
    refine lv_iload_n hx hb dX8_periodOf_32 rfl (lv_at hl 1 rfl) ?_
    exact ret_io (wf := wM G a) X hm hP hS dX8_periodOf_33
  · have hm := (if_neg c_1).symm.trans hm
    by_cases c_2 : (rS q 9) = 1
    · have hm := (if_pos c_2).symm.trans hm
      refine lv_tableIn (tgt := 34) hx hb dX8_periodOf_4 (by rw [c_2]; decide) (by rw [c_2]; decide) (by rw [c_2]; rfl) (by decide) ?_
      refine lv_iload_n hx hb dX8_periodOf_34 rfl (lv_at hl 1 rfl) ?_
      refine lv_bipush (v := 7) hx hb dX8_periodOf_35 (by decide) ?_
      refine lv_idiv hx hb dX8_periodOf_37 (by decide) ?_
      exact ret_io (wf := wM G a) X hm hP hS dX8_periodOf_38
    · have hm := (if_neg c_2).symm.trans hm
      by_cases c_3 : (rS q 9) = 2
      · have hm := (if_pos c_3).symm.trans hm
        refine lv_tableIn (tgt := 39) hx hb dX8_periodOf_4 (by rw [c_3]; decide) (by rw [c_3]; decide) (by rw [c_3]; rfl) (by decide) ?_
        refine lv_bipush (v := 12) hx hb dX8_periodOf_39 (by decide) ?_
        refine lv_aload_n hx hb dX8_periodOf_41 rfl (lv_at hl 0 rfl) ?_
        refine lv_iload_n hx hb dX8_periodOf_42 rfl (lv_at hl 1 rfl) ?_
        obtain ⟨r_4, e_4, hm⟩ := bd1_s hm
        refine goV_i (n := 1) (C := RX8) X (cM_yearOf e_4) (gV kw972 kw974 ks_yX8_yearOf kw9 kw975) (by decide +kernel) ⟨by decide, by decide⟩ (rcM hK hP) hP (dM hD) hS rfl rfl hl.1 (Nat.le_of_ble_eq_true rfl) dX8_periodOf_43 ⟨Nat.le_refl _, Nat.le_refl _⟩ (fun H locs hP _ hS => ?_)
        refine lv_imul hx hb dX8_periodOf_46 ?_
        refine lv_aload_n hx hb dX8_periodOf_47 rfl (lv_at hl 0 rfl) ?_
        refine lv_iload_n hx hb dX8_periodOf_48 rfl (lv_at hl 1 rfl) ?_
        obtain ⟨r_5, e_5, hm⟩ := bd1_s hm
        refine goV_i (n := 1) (C := RX8) X (cM_monthOf e_5) (gV kw976 kw978 ks_yX8_monthOf kw9 kw979) (by decide +kernel) ⟨by decide, by decide⟩ (rcM hK hP) hP (dM hD) hS rfl rfl hl.1 (Nat.le_of_ble_eq_true rfl) dX8_periodOf_49 ⟨Nat.le_refl _, Nat.le_refl _⟩ (fun H locs hP _ hS => ?_)
        refine lv_iadd hx hb dX8_periodOf_52 ?_
        exact ret_io (wf := wM G a) X hm hP hS dX8_periodOf_53
      · have hm := (if_neg c_3).symm.trans hm
        refine lv_tableOut (tgt := 54) hx hb dX8_periodOf_4 (tsw3 c_1 c_2 c_3) (by decide) ?_
        refine lv_aload_n hx hb dX8_periodOf_54 rfl (lv_at hl 0 rfl) ?_
        refine lv_iload_n hx hb dX8_periodOf_55 rfl (lv_at hl 1 rfl) ?_
        obtain ⟨r_6, e_6, hm⟩ := bd1_s hm
        refine goV_i (n := 1) (C := RX8) X (cM_yearOf e_6) (gV kw972 kw974 ks_yX8_yearOf kw9 kw975) (by decide +kernel) ⟨by decide, by decide⟩ (rcM hK hP) hP (dM hD) hS rfl rfl hl.1 (Nat.le_of_ble_eq_true rfl) dX8_periodOf_56 ⟨Nat.le_refl _, Nat.le_refl _⟩ (fun H locs hP _ hS => ?_)
        exact ret_io (wf := wM G a) X hm hP hS dX8_periodOf_59

-- feed
def moM_feed_L46 {α : Type} (n : Nat) (K0 : Pc3 → Option α) : Nat → Int32 → Int64 → Int32 → Pc3 → Option α
  | 0, _, _, _, _ => none
  | k + 1, x1, x2, x4, q => (if x1 ≤ x4 then (K0 q) else (gi (rS q 4) 200 (moM_feed_L46 n K0 k x1 x2 (x4 + 1) (sS (sA q 3 (rS q 4) (Int64.toInt32 ((srL x2 (8 * x4)) &&& 255))) 4 ((rS (sA q 3 (rS q 4) (Int64.toInt32 ((srL x2 (8 * x4)) &&& 255))) 4) + 1)))))
def moM_feed_B17 (n : Nat) (x1 : Int32) (x2 : Int64) (t0 : Int32) (q : Pc3) : Option (Int32 × Pc3) :=
  (if (rS (sS q 0 t0) 0) ≤ 0 then (if ((rS (sS q 0 t0) 4) + x1) ≤ 200 then (moM_feed_L46 n (fun q_6 => (some ((rS q_6 4), q_6))) n x1 x2 0 (sS q 0 t0)) else (some ((-1), (sS q 0 t0)))) else (some (0, (sS q 0 t0))))
def moM_feed (n : Nat) (x1 : Int32) (x2 : Int64) (q : Pc3) : Option (Int32 × Pc3) :=
  (if x1 < 1 then (moM_feed_B17 n x1 x2 1 q) else (if x1 ≤ 8 then (moM_feed_B17 n x1 x2 0 q) else (moM_feed_B17 n x1 x2 1 q)))
set_option maxHeartbeats 4000000 in
set_option maxRecDepth 100000 in
theorem lpM_feed_46 {p : Program} {l : Launch} {e : Env} {s : State} {m : MethodId} {args : Array Value} {below : List Frame} {meth : Method} {c : Code} {G : Ev} {a : Nat → Nat} {Q : State → Prop} {A : Nat → Prop} {q0 : Pc3} (X : CX p s m args meth c cX8_feed 5 (some .int) RX8 (.code yX8_feed cX8_feed 5 (some .int)) G A) (hD : va_D A (wM G a q0)) {α : Type} {o : α} {n : Nat} {K0 : Pc3 → Option α} (h0 : ∀ (q : Pc3) (H : Heap) (locs : List Loc) (ls : Array Slot), K0 q = some o → va_P (DD G) vwCl (wM G a q) H → va_S A s.heap H locs → lv_has ls 5 [(0, .ref (a 0))] → W p l e { frames := 0, cells := 0, slots := 0, locals := 0 } s m args below meth c H locs 0 0 Q (F0 m 89 ls [])) : ∀ (k : Nat) (x1 : Int32) (x2 : Int64) (x4 : Int32) (q : Pc3) (H : Heap) (locs : List Loc) (ls : Array Slot), moM_feed_L46 n K0 k x1 x2 x4 q = some o → va_P (DD G) vwCl (wM G a q) H → va_S A s.heap H locs → lv_has ls 5 [(0, .ref (a 0)), (1, .int x1), (2, .long x2), (4, .int x4)] → W p l e { frames := 0, cells := 0, slots := 0, locals := 0 } s m args below meth c H locs 0 0 Q (F0 m 46 ls []) := by
  obtain ⟨⟨hx, hb, hml, hown, hts⟩, hK, hr, hlk, hA, hAs, hSta⟩ := id X
  intro k
  induction k with
  | zero =>
    intro x1 x2 x4 q H locs ls hm
    have hm : none = some o := hm
    cases hm
  | succ k ih =>
    intro x1 x2 x4 q H locs ls hm hP hS hl
    rw [moM_feed_L46] at hm
    refine lv_iload hx hb dX8_feed_46 (lv_at hl 3 rfl) ?_
    refine lv_iload_n hx hb dX8_feed_48 rfl (lv_at hl 1 rfl) ?_
    refine lv_icmp_ge (tgt := 89) hx hb dX8_feed_49 (by decide) (fun c_4 => ?_) (fun c_4 => ?_)
    · have hm := (if_pos c_4).symm.trans hm
      exact h0 _ _ _ _ hm hP hS (lv_sub hl [0] rfl)
    · have hm := (if_neg c_4).symm.trans hm
      refine lv_aload_n hx hb dX8_feed_52 rfl (lv_at hl 0 rfl) ?_
      refine gM_text X hP dX8_feed_53 ?_
      refine lv_aload_n hx hb dX8_feed_56 rfl (lv_at hl 0 rfl) ?_
      refine gM_size X hP dX8_feed_57 ?_
      refine lv_lload_n hx hb dX8_feed_60 rfl (lv_at hl 2 rfl) ?_
      refine lv_bipush (v := 8) hx hb dX8_feed_61 (by decide) ?_
      refine lv_iload hx hb dX8_feed_63 (lv_at hl 3 rfl) ?_
      refine lv_imul hx hb dX8_feed_65 ?_
      refine lv_lshr (v := (srL x2 (8 * x4))) hx hb dX8_feed_66 rfl ?_
      refine lv_ldc2 (v := 255) hx hb hown (hts _ (List.mem_cons_of_mem _ kw876)) dX8_feed_67 ?_
      refine lv_land hx hb dX8_feed_70 ?_
      refine lv_l2i (v := (Int64.toInt32 ((srL x2 (8 * x4)) &&& 255))) hx hb dX8_feed_71 rfl ?_
      obtain ⟨hi_5, hm⟩ := gi_s hm
      refine stM_text X hP (dM hD) hS hi_5 dX8_feed_72 (fun H locs hP hS => ?_)
      refine lv_aload_n hx hb dX8_feed_73 rfl (lv_at hl 0 rfl) ?_
      refine lv_dup hx hb dX8_feed_74 rfl ?_
      refine gM_size X hP dX8_feed_75 ?_
      refine lv_iconst (v := 1) hx hb dX8_feed_78 (by decide) ?_
      refine lv_iadd hx hb dX8_feed_79 ?_
      refine pM_size X hP (dM hD) hS dX8_feed_80 (fun H locs hP hS => ?_)
      refine lv_iinc (v := (x4 + 1)) (lv' := [(4, .int (x4 + 1)), (0, .ref (a 0)), (1, .int x1), (2, .long x2)]) hx hb dX8_feed_83 hl (k := 3) rfl (by first | rfl | decide) (by decide) rfl (fun ls hl => ?_)
      refine lv_goto (tgt := 46) hx hb dX8_feed_86 (by decide) ?_
      exact ih _ _ _ _ _ _ _ hm hP hS (lv_sub hl [1, 2, 3, 0] rfl)
set_option maxHeartbeats 4000000 in
set_option maxRecDepth 100000 in
theorem bkM_feed_17 {p : Program} {l : Launch} {e : Env} {s : State} {m : MethodId} {args : Array Value} {below : List Frame} {meth : Method} {c : Code} {G : Ev} {a : Nat → Nat}  {q0 : Pc3} {L : List Nat} {r : Int32} {q' : Pc3} {n : Nat} {x1 : Int32} {x2 : Int64} {t0 : Int32} {q : Pc3} {H : Heap} {locs : List Loc} {ls : Array Slot} (X : CX p s m args meth c cX8_feed 5 (some .int) RX8 (.code yX8_feed cX8_feed 5 (some .int)) G (AL L s.heap.size)) (hD : va_D (AL L s.heap.size) (wM G a q0)) (hm : moM_feed_B17 n x1 x2 t0 q = some (r, q')) (hP : va_P (DD G) vwCl (wM G a q) H) (hS : va_S (AL L s.heap.size) s.heap H locs) (hl : lv_has ls 5 [(0, .ref (a 0)), (1, .int x1), (2, .long x2)]) : W p l e { frames := 0, cells := 0, slots := 0, locals := 0 } s m args below meth c H locs 0 0 (MQ below (va_Qi (fun r' (_ : Unit) => r' = r) (fun _ t => va_P (DD G) vwCl (wM G a q') t.heap) (AL L s.heap.size)) args s 0 0 (AL L s.heap.size)) (F0 m 17 ls [.int t0, .ref (a 0)]) := by
  obtain ⟨⟨hx, hb, hml, hown, hts⟩, hK, hr, hlk, hA, hAs, hSta⟩ := id X
  unfold moM_feed_B17 at hm
  refine pM_thrown X hP (dM hD) hS dX8_feed_17 (fun H locs hP hS => ?_)
  refine lv_aload_n hx hb dX8_feed_20 rfl (lv_at hl 0 rfl) ?_
  refine gM_thrown X hP dX8_feed_21 ?_
  refine lv_if_le (tgt := 29) hx hb dX8_feed_24 (by decide) (fun c_2 => ?_) (fun c_2 => ?_)
  · have hm := (if_pos c_2).symm.trans hm
    refine lv_aload_n hx hb dX8_feed_29 rfl (lv_at hl 0 rfl) ?_
    refine gM_size X hP dX8_feed_30 ?_
    refine lv_iload_n hx hb dX8_feed_33 rfl (lv_at hl 1 rfl) ?_
    refine lv_iadd hx hb dX8_feed_34 ?_
    refine lv_sipush (v := 200) hx hb dX8_feed_35 (by decide) ?_
    refine lv_icmp_le (tgt := 43) hx hb dX8_feed_38 (by decide) (fun c_3 => ?_) (fun c_3 => ?_)
    · have hm := (if_pos c_3).symm.trans hm
      refine lv_iconst (v := 0) hx hb dX8_feed_43 (by decide) ?_
      refine lv_istore (lv' := [(4, .int 0), (0, .ref (a 0)), (1, .int x1), (2, .long x2)]) hx hb dX8_feed_44 hl (by decide) rfl (fun ls hl => ?_)
      refine lpM_feed_46 X hD (fun q_6 H locs ls hm hP hS hl => ?_) n _ _ _ _ _ _ _ hm hP hS (lv_sub hl [1, 2, 3, 0] rfl)
      refine lv_aload_n hx hb dX8_feed_89 rfl (lv_at hl 0 rfl) ?_
      refine gM_size X hP dX8_feed_90 ?_
      exact ret_i (wf := wM G a) X hm hP hS dX8_feed_93
    · have hm := (if_neg c_3).symm.trans hm
      refine lv_iconst (v := (-1)) hx hb dX8_feed_41 (by decide) ?_
      exact ret_i (wf := wM G a) X hm hP hS dX8_feed_42
  · have hm := (if_neg c_2).symm.trans hm
    refine lv_iconst (v := 0) hx hb dX8_feed_27 (by decide) ?_
    exact ret_i (wf := wM G a) X hm hP hS dX8_feed_28
set_option maxHeartbeats 4000000 in
set_option maxRecDepth 100000 in
theorem cM_feed {l : Launch} {G : Ev} {a : Nat → Nat} {n : Nat} {q : Pc3} {x1 : Int32} {x2 : Int64} {r : Int32} {q' : Pc3} (hm : moM_feed n x1 x2 q = some (r, q')) : CtI l G yX8_feed cX8_feed 5 (some .int) 0 0 0 0 [.ref (a 0), .int x1, .long x2] (wM G a q) (wM G a q') r := by
  intro sz
  refine enter (by decide) (Nat.le_of_ble_eq_true rfl) ?_
  intro p e s m args below meth c ls X hsz hP hD hS hl
  subst hsz
  obtain ⟨⟨hx, hb, hml, hown, hts⟩, hK, hr, hlk, hA, hAs, hSta⟩ := id X
  have hl : lv_has ls 5 [(0, .ref (a 0)), (1, .int x1), (2, .long x2)] := hl
  unfold moM_feed at hm
  refine lv_aload_n hx hb dX8_feed_0 rfl (lv_at hl 0 rfl) ?_
  refine lv_iload_n hx hb dX8_feed_1 rfl (lv_at hl 1 rfl) ?_
  refine lv_iconst (v := 1) hx hb dX8_feed_2 (by decide) ?_
  refine lv_icmp_lt (tgt := 12) hx hb dX8_feed_3 (by decide) (fun c_1 => ?_) (fun c_1 => ?_)
  · have hm := (if_pos c_1).symm.trans hm
    refine lv_iconst (v := 1) hx hb dX8_feed_12 (by decide) ?_
    refine lv_goto (tgt := 17) hx hb dX8_feed_13 (by decide) ?_
    exact bkM_feed_17 X hD hm hP hS (lv_sub hl [0, 1, 2] rfl)
  · have hm := (if_neg c_1).symm.trans hm
    refine lv_iload_n hx hb dX8_feed_6 rfl (lv_at hl 1 rfl) ?_
    refine lv_bipush (v := 8) hx hb dX8_feed_7 (by decide) ?_
    refine lv_icmp_le (tgt := 16) hx hb dX8_feed_9 (by decide) (fun c_7 => ?_) (fun c_7 => ?_)
    · have hm := (if_pos c_7).symm.trans hm
      refine lv_iconst (v := 0) hx hb dX8_feed_16 (by decide) ?_
      exact bkM_feed_17 X hD hm hP hS (lv_sub hl [0, 1, 2] rfl)
    · have hm := (if_neg c_7).symm.trans hm
      refine lv_iconst (v := 1) hx hb dX8_feed_12 (by decide) ?_
      refine lv_goto (tgt := 17) hx hb dX8_feed_13 (by decide) ?_
      exact bkM_feed_17 X hD hm hP hS (lv_sub hl [0, 1, 2] rfl)

-- wipe
def moM_wipe (n : Nat) (q : Pc3) : Option (Int32 × Pc3) :=
  (some ((rS (sS q 0 0) 4), (sS (sS q 0 0) 4 0)))
set_option maxHeartbeats 4000000 in
set_option maxRecDepth 100000 in
theorem cM_wipe {l : Launch} {G : Ev} {a : Nat → Nat} {n : Nat} {q : Pc3} {r : Int32} {q' : Pc3} (hm : moM_wipe n q = some (r, q')) : CtI l G yX8_wipe cX8_wipe 2 (some .int) 0 0 0 0 [.ref (a 0)] (wM G a q) (wM G a q') r := by
  intro sz
  refine enter (by decide) (Nat.le_of_ble_eq_true rfl) ?_
  intro p e s m args below meth c ls X hsz hP hD hS hl
  subst hsz
  obtain ⟨⟨hx, hb, hml, hown, hts⟩, hK, hr, hlk, hA, hAs, hSta⟩ := id X
  have hl : lv_has ls 2 [(0, .ref (a 0))] := hl
  unfold moM_wipe at hm
  refine lv_aload_n hx hb dX8_wipe_0 rfl (lv_at hl 0 rfl) ?_
  refine lv_iconst (v := 0) hx hb dX8_wipe_1 (by decide) ?_
  refine pM_thrown X hP (dM hD) hS dX8_wipe_2 (fun H locs hP hS => ?_)
  refine lv_aload_n hx hb dX8_wipe_5 rfl (lv_at hl 0 rfl) ?_
  refine gM_size X hP dX8_wipe_6 ?_
  refine lv_istore_n (lv' := [(1, .int (rS (sS q 0 0) 4)), (0, .ref (a 0))]) hx hb dX8_wipe_9 rfl hl (by decide) rfl (fun ls hl => ?_)
  refine lv_aload_n hx hb dX8_wipe_10 rfl (lv_at hl 1 rfl) ?_
  refine lv_iconst (v := 0) hx hb dX8_wipe_11 (by decide) ?_
  refine pM_size X hP (dM hD) hS dX8_wipe_12 (fun H locs hP hS => ?_)
  refine lv_iload_n hx hb dX8_wipe_15 rfl (lv_at hl 0 rfl) ?_
  exact ret_i (wf := wM G a) X hm hP hS dX8_wipe_16

-- fail
def moM_fail (n : Nat) (x1 : Int32) (x2 : Int32) (q : Pc3) : Option (Pc3) :=
  (if (rS q 5) = 0 then (some (sS (sS q 5 x1) 6 x2)) else (some q))
set_option maxHeartbeats 4000000 in
set_option maxRecDepth 100000 in
theorem cM_fail {l : Launch} {G : Ev} {a : Nat → Nat} {n : Nat} {q : Pc3} {x1 : Int32} {x2 : Int32} {q' : Pc3} (hm : moM_fail n x1 x2 q = some q') : CtV l G yX8_fail cX8_fail 3 none 0 0 0 0 [.ref (a 0), .int x1, .int x2] (wM G a q) (wM G a q') := by
  intro sz
  refine enter (by decide) (Nat.le_of_ble_eq_true rfl) ?_
  intro p e s m args below meth c ls X hsz hP hD hS hl
  subst hsz
  obtain ⟨⟨hx, hb, hml, hown, hts⟩, hK, hr, hlk, hA, hAs, hSta⟩ := id X
  have hl : lv_has ls 3 [(0, .ref (a 0)), (1, .int x1), (2, .int x2)] := hl
  unfold moM_fail at hm
  refine lv_aload_n hx hb dX8_fail_0 rfl (lv_at hl 0 rfl) ?_
  refine gM_fault X hP dX8_fail_1 ?_
  refine lv_if_ne (tgt := 17) hx hb dX8_fail_4 (by decide) (fun c_1 => ?_) (fun c_1 => ?_)
  · have hm := (if_neg c_1).symm.trans hm
    exact ret_v (wf := wM G a) X hm hP hS dX8_fail_17
  · have hm := (if_pos c_1).symm.trans hm
    refine lv_aload_n hx hb dX8_fail_7 rfl (lv_at hl 0 rfl) ?_
    refine lv_iload_n hx hb dX8_fail_8 rfl (lv_at hl 1 rfl) ?_
    refine pM_fault X hP (dM hD) hS dX8_fail_9 (fun H locs hP hS => ?_)
    refine lv_aload_n hx hb dX8_fail_12 rfl (lv_at hl 0 rfl) ?_
    refine lv_iload_n hx hb dX8_fail_13 rfl (lv_at hl 2 rfl) ?_
    refine pM_place X hP (dM hD) hS dX8_fail_14 (fun H locs hP hS => ?_)
    exact ret_v (wf := wM G a) X hm hP hS dX8_fail_17

-- byteAt
def moM_byteAt (n : Nat) (x1 : Int32) (q : Pc3) : Option (Int32) :=
  (if (rS q 4) ≤ x1 then (some (-1)) else (gi x1 200 (some (rA q 3 x1))))
set_option maxHeartbeats 4000000 in
set_option maxRecDepth 100000 in
theorem cM_byteAt {l : Launch} {G : Ev} {a : Nat → Nat} {n : Nat} {q : Pc3} {x1 : Int32} {r : Int32} (hm : moM_byteAt n x1 q = some r) : CtI l G yX8_byteAt cX8_byteAt 2 (some .int) 0 0 0 0 [.ref (a 0), .int x1] (wM G a q) (wM G a q) r := by
  intro sz
  refine enter (by decide) (Nat.le_of_ble_eq_true rfl) ?_
  intro p e s m args below meth c ls X hsz hP hD hS hl
  subst hsz
  obtain ⟨⟨hx, hb, hml, hown, hts⟩, hK, hr, hlk, hA, hAs, hSta⟩ := id X
  have hl : lv_has ls 2 [(0, .ref (a 0)), (1, .int x1)] := hl
  unfold moM_byteAt at hm
  refine lv_iload_n hx hb dX8_byteAt_0 rfl (lv_at hl 1 rfl) ?_
  refine lv_aload_n hx hb dX8_byteAt_1 rfl (lv_at hl 0 rfl) ?_
  refine gM_size X hP dX8_byteAt_2 ?_
  refine lv_icmp_ge (tgt := 17) hx hb dX8_byteAt_5 (by decide) (fun c_1 => ?_) (fun c_1 => ?_)
  · have hm := (if_pos c_1).symm.trans hm
    refine lv_iconst (v := (-1)) hx hb dX8_byteAt_17 (by decide) ?_
    exact ret_io (wf := wM G a) X hm hP hS dX8_byteAt_18
  · have hm := (if_neg c_1).symm.trans hm
    refine lv_aload_n hx hb dX8_byteAt_8 rfl (lv_at hl 0 rfl) ?_
    refine gM_text X hP dX8_byteAt_9 ?_
    refine lv_iload_n hx hb dX8_byteAt_12 rfl (lv_at hl 1 rfl) ?_
    obtain ⟨hi_2, hm⟩ := gi_s hm
    refine ldM_text X hP hi_2 dX8_byteAt_13 ?_
    refine lv_goto (tgt := 18) hx hb dX8_byteAt_14 (by decide) ?_
    exact ret_io (wf := wM G a) X hm hP hS dX8_byteAt_18

-- isCapital
def moN_isCapital (n : Nat) (x0 : Int32) : Option (Int32) :=
  (if x0 < 65 then (some 0) else (if 90 < x0 then (some 0) else (some 1)))
set_option maxHeartbeats 4000000 in
set_option maxRecDepth 100000 in
theorem cN_isCapital {l : Launch} {G : Ev}  {n : Nat} {x0 : Int32} {r : Int32} (hm : moN_isCapital n x0  = some r) : CtI l G yX8_isCapital cX8_isCapital 1 (some .boolean) 0 0 0 0 [.int x0] (wN ()) (wN ()) r := by
  intro sz
  refine enter (by decide) (Nat.le_of_ble_eq_true rfl) ?_
  intro p e s m args below meth c ls X hsz hP hD hS hl
  subst hsz
  obtain ⟨⟨hx, hb, hml, hown, hts⟩, hK, hr, hlk, hA, hAs, hSta⟩ := id X
  have hl : lv_has ls 1 [(0, .int x0)] := hl
  unfold moN_isCapital at hm
  refine lv_iload_n hx hb dX8_isCapital_0 rfl (lv_at hl 0 rfl) ?_
  refine lv_bipush (v := 65) hx hb dX8_isCapital_1 (by decide) ?_
  refine lv_icmp_lt (tgt := 16) hx hb dX8_isCapital_3 (by decide) (fun c_1 => ?_) (fun c_1 => ?_)
  · have hm := (if_pos c_1).symm.trans hm
    refine lv_iconst (v := 0) hx hb dX8_isCapital_16 (by decide) ?_
    exact ret_zo (wf := wN) X (by decide) hm hP hS dX8_isCapital_17
  · have hm := (if_neg c_1).symm.trans hm
    refine lv_iload_n hx hb dX8_isCapital_6 rfl (lv_at hl 0 rfl) ?_
    refine lv_bipush (v := 90) hx hb dX8_isCapital_7 (by decide) ?_
    refine lv_icmp_gt (tgt := 16) hx hb dX8_isCapital_9 (by decide) (fun c_2 => ?_) (fun c_2 => ?_)
    · have hm := (if_pos c_2).symm.trans hm
      refine lv_iconst (v := 0) hx hb dX8_isCapital_16 (by decide) ?_
      exact ret_zo (wf := wN) X (by decide) hm hP hS dX8_isCapital_17
    · have hm := (if_neg c_2).symm.trans hm
      refine lv_iconst (v := 1) hx hb dX8_isCapital_12 (by decide) ?_
      refine lv_goto (tgt := 17) hx hb dX8_isCapital_13 (by decide) ?_
      exact ret_zo (wf := wN) X (by decide) hm hP hS dX8_isCapital_17

-- isFigure
def moN_isFigure (n : Nat) (x0 : Int32) : Option (Int32) :=
  (if x0 < 48 then (some 0) else (if 57 < x0 then (some 0) else (some 1)))
set_option maxHeartbeats 4000000 in
set_option maxRecDepth 100000 in
theorem cN_isFigure {l : Launch} {G : Ev}  {n : Nat} {x0 : Int32} {r : Int32} (hm : moN_isFigure n x0  = some r) : CtI l G yX8_isFigure cX8_isFigure 1 (some .boolean) 0 0 0 0 [.int x0] (wN ()) (wN ()) r := by
  intro sz
  refine enter (by decide) (Nat.le_of_ble_eq_true rfl) ?_
  intro p e s m args below meth c ls X hsz hP hD hS hl
  subst hsz
  obtain ⟨⟨hx, hb, hml, hown, hts⟩, hK, hr, hlk, hA, hAs, hSta⟩ := id X
  have hl : lv_has ls 1 [(0, .int x0)] := hl
  unfold moN_isFigure at hm
  refine lv_iload_n hx hb dX8_isFigure_0 rfl (lv_at hl 0 rfl) ?_
  refine lv_bipush (v := 48) hx hb dX8_isFigure_1 (by decide) ?_
  refine lv_icmp_lt (tgt := 16) hx hb dX8_isFigure_3 (by decide) (fun c_1 => ?_) (fun c_1 => ?_)
  · have hm := (if_pos c_1).symm.trans hm
    refine lv_iconst (v := 0) hx hb dX8_isFigure_16 (by decide) ?_
    exact ret_zo (wf := wN) X (by decide) hm hP hS dX8_isFigure_17
  · have hm := (if_neg c_1).symm.trans hm
    refine lv_iload_n hx hb dX8_isFigure_6 rfl (lv_at hl 0 rfl) ?_
    refine lv_bipush (v := 57) hx hb dX8_isFigure_7 (by decide) ?_
    refine lv_icmp_gt (tgt := 16) hx hb dX8_isFigure_9 (by decide) (fun c_2 => ?_) (fun c_2 => ?_)
    · have hm := (if_pos c_2).symm.trans hm
      refine lv_iconst (v := 0) hx hb dX8_isFigure_16 (by decide) ?_
      exact ret_zo (wf := wN) X (by decide) hm hP hS dX8_isFigure_17
    · have hm := (if_neg c_2).symm.trans hm
      refine lv_iconst (v := 1) hx hb dX8_isFigure_12 (by decide) ?_
      refine lv_goto (tgt := 17) hx hb dX8_isFigure_13 (by decide) ?_
      exact ret_zo (wf := wN) X (by decide) hm hP hS dX8_isFigure_17

-- lettersAt
def moM_lettersAt_L5 {α : Type} (n : Nat) (q : Pc3) (K0 : Int64 → Option α) : Nat → Int32 → Int64 → Int32 → Option α
  | 0, _, _, _ => none
  | k + 1, x1, x2, x4 => (if 12 ≤ x4 then (K0 x2 ) else (bd1 (moM_byteAt n (x1 + x4) q) fun r_2 => (bd1 (moN_isCapital n r_2) fun r_3 => (if r_3 = 0 then (K0 x2 ) else (bd1 (moM_byteAt n (x1 + x4) q) fun r_5 => (moM_lettersAt_L5 n q K0 k x1 ((slL x2 5) ||| (Int32.toInt64 (r_5 - 64))) (x4 + 1) ))))))
def moM_lettersAt (n : Nat) (x1 : Int32) (q : Pc3) : Option (Int64) :=
  (moM_lettersAt_L5 n q (fun z6_2 => (some z6_2)) n x1 0 0 )
set_option maxHeartbeats 4000000 in
set_option maxRecDepth 100000 in
theorem lpM_lettersAt_5 {p : Program} {l : Launch} {e : Env} {s : State} {m : MethodId} {args : Array Value} {below : List Frame} {meth : Method} {c : Code} {G : Ev} {a : Nat → Nat} {Q : State → Prop} {A : Nat → Prop} {q : Pc3} (X : CX p s m args meth c cX8_lettersAt 5 (some .long) RX8 (.code yX8_lettersAt cX8_lettersAt 5 (some .long)) G A) (hD : va_D A (wM G a q)) {α : Type} {o : α} {n : Nat} {K0 : Int64 → Option α} (h0 : ∀ (y2 : Int64) (H : Heap) (locs : List Loc) (ls : Array Slot), K0 y2  = some o → va_P (DD G) vwCl (wM G a q) H → va_S A s.heap H locs → lv_has ls 5 [(2, .long y2)] → W p l e { frames := 1, cells := 0, slots := 0, locals := 21 } s m args below meth c H locs 0 0 Q (F0 m 49 ls [])) : ∀ (k : Nat) (x1 : Int32) (x2 : Int64) (x4 : Int32) (H : Heap) (locs : List Loc) (ls : Array Slot), moM_lettersAt_L5 n q K0 k x1 x2 x4  = some o → va_P (DD G) vwCl (wM G a q) H → va_S A s.heap H locs → lv_has ls 5 [(0, .ref (a 0)), (1, .int x1), (2, .long x2), (4, .int x4)] → W p l e { frames := 1, cells := 0, slots := 0, locals := 21 } s m args below meth c H locs 0 0 Q (F0 m 5 ls []) := by
  obtain ⟨⟨hx, hb, hml, hown, hts⟩, hK, hr, hlk, hA, hAs, hSta⟩ := id X
  intro k
  induction k with
  | zero =>
    intro x1 x2 x4 H locs ls hm
    have hm : none = some o := hm
    cases hm
  | succ k ih =>
    intro x1 x2 x4 H locs ls hm hP hS hl
    rw [moM_lettersAt_L5] at hm
    refine lv_iload hx hb dX8_lettersAt_5 (lv_at hl 3 rfl) ?_
    refine lv_bipush (v := 12) hx hb dX8_lettersAt_7 (by decide) ?_
    refine lv_icmp_ge (tgt := 49) hx hb dX8_lettersAt_9 (by decide) (fun c_1 => ?_) (fun c_1 => ?_)
    · have hm := (if_pos c_1).symm.trans hm
      exact h0 _ _ _ _ hm hP hS (lv_sub hl [2] rfl)
    · have hm := (if_neg c_1).symm.trans hm
      refine lv_aload_n hx hb dX8_lettersAt_12 rfl (lv_at hl 0 rfl) ?_
      refine lv_iload_n hx hb dX8_lettersAt_13 rfl (lv_at hl 1 rfl) ?_
      refine lv_iload hx hb dX8_lettersAt_14 (lv_at hl 3 rfl) ?_
      refine lv_iadd hx hb dX8_lettersAt_16 ?_
      obtain ⟨r_2, e_2, hm⟩ := bd1_s hm
      refine goV_i (n := 1) (C := RX8) X (cM_byteAt e_2) (gV kw906 kw908 ks_yX8_byteAt kw9 kw909) (by decide +kernel) ⟨by decide, by decide⟩ (rcM hK hP) hP (dM hD) hS rfl rfl hl.1 (Nat.le_of_ble_eq_true rfl) dX8_lettersAt_17 ⟨Nat.le_refl _, Nat.le_refl _⟩ (fun H locs hP _ hS => ?_)
      obtain ⟨r_3, e_3, hm⟩ := bd1_s hm
      refine goS_i (n := 1) X (cN_isCapital e_3) (gS kw910 kw911 kw9 kw912) (by decide +kernel) ⟨by decide, by decide⟩ va_nil va_dnil hS rfl rfl hl.1 (Nat.le_of_ble_eq_true rfl) dX8_lettersAt_20 ⟨Nat.le_refl _, Nat.le_refl _⟩ (fun H locs _ hk hS => ?_)
      have hP := va_keep hP hk
      refine lv_if_eq (tgt := 49) hx hb dX8_lettersAt_23 (by decide) (fun c_4 => ?_) (fun c_4 => ?_)
      · have hm := (if_pos c_4).symm.trans hm
        exact h0 _ _ _ _ hm hP hS (lv_sub hl [2] rfl)
      · have hm := (if_neg c_4).symm.trans hm
        refine lv_lload_n hx hb dX8_lettersAt_26 rfl (lv_at hl 2 rfl) ?_
        refine lv_iconst (v := 5) hx hb dX8_lettersAt_27 (by decide) ?_
        refine lv_lshl (v := (slL x2 5)) hx hb dX8_lettersAt_28 rfl ?_
        refine lv_aload_n hx hb dX8_lettersAt_29 rfl (lv_at hl 0 rfl) ?_
        refine lv_iload_n hx hb dX8_lettersAt_30 rfl (lv_at hl 1 rfl) ?_
        refine lv_iload hx hb dX8_lettersAt_31 (lv_at hl 3 rfl) ?_
        refine lv_iadd hx hb dX8_lettersAt_33 ?_
        obtain ⟨r_5, e_5, hm⟩ := bd1_s hm
        refine goV_i (n := 1) (C := RX8) X (cM_byteAt e_5) (gV kw906 kw908 ks_yX8_byteAt kw9 kw909) (by decide +kernel) ⟨by decide, by decide⟩ (rcM hK hP) hP (dM hD) hS rfl rfl hl.1 (Nat.le_of_ble_eq_true rfl) dX8_lettersAt_34 ⟨Nat.le_refl _, Nat.le_refl _⟩ (fun H locs hP _ hS => ?_)
        refine lv_bipush (v := 64) hx hb dX8_lettersAt_37 (by decide) ?_
        refine lv_isub hx hb dX8_lettersAt_39 ?_
        refine lv_i2l (v := (Int32.toInt64 (r_5 - 64))) hx hb dX8_lettersAt_40 rfl ?_
        refine lv_lor hx hb dX8_lettersAt_41 ?_
        refine lv_lstore_n (lv' := [(2, .long ((slL x2 5) ||| (Int32.toInt64 (r_5 - 64)))), (0, .ref (a 0)), (1, .int x1), (4, .int x4)]) hx hb dX8_lettersAt_42 rfl hl (by decide) rfl (fun ls hl => ?_)
        refine lv_iinc (v := (x4 + 1)) (lv' := [(4, .int (x4 + 1)), (2, .long ((slL x2 5) ||| (Int32.toInt64 (r_5 - 64)))), (0, .ref (a 0)), (1, .int x1)]) hx hb dX8_lettersAt_43 hl (k := 3) rfl (by first | rfl | decide) (by decide) rfl (fun ls hl => ?_)
        refine lv_goto (tgt := 5) hx hb dX8_lettersAt_46 (by decide) ?_
        exact ih _ _ _ _ _ _ hm hP hS (lv_sub hl [2, 3, 1, 0] rfl)
set_option maxHeartbeats 4000000 in
set_option maxRecDepth 100000 in
theorem cM_lettersAt {l : Launch} {G : Ev} {a : Nat → Nat} {n : Nat} {q : Pc3} {x1 : Int32} {r : Int64} (hm : moM_lettersAt n x1 q = some r) : CtJ l G yX8_lettersAt cX8_lettersAt 5 (some .long) 1 21 0 0 [.ref (a 0), .int x1] (wM G a q) (wM G a q) r := by
  intro sz
  refine enter (by decide) (Nat.le_of_ble_eq_true rfl) ?_
  intro p e s m args below meth c ls X hsz hP hD hS hl
  subst hsz
  obtain ⟨⟨hx, hb, hml, hown, hts⟩, hK, hr, hlk, hA, hAs, hSta⟩ := id X
  have hl : lv_has ls 5 [(0, .ref (a 0)), (1, .int x1)] := hl
  unfold moM_lettersAt at hm
  refine lv_lconst (v := 0) hx hb dX8_lettersAt_0 (by decide) ?_
  refine lv_lstore_n (lv' := [(2, .long 0), (0, .ref (a 0)), (1, .int x1)]) hx hb dX8_lettersAt_1 rfl hl (by decide) rfl (fun ls hl => ?_)
  refine lv_iconst (v := 0) hx hb dX8_lettersAt_2 (by decide) ?_
  refine lv_istore (lv' := [(4, .int 0), (2, .long 0), (0, .ref (a 0)), (1, .int x1)]) hx hb dX8_lettersAt_3 hl (by decide) rfl (fun ls hl => ?_)
  refine lpM_lettersAt_5 X hD (fun z6_2 H locs ls hm hP hS hl => ?_) n _ _ _ _ _ _ hm hP hS (lv_sub hl [2, 3, 1, 0] rfl)
  refine lv_lload_n hx hb dX8_lettersAt_49 rfl (lv_at hl 0 rfl) ?_
  exact ret_lo (wf := wM G a) X hm hP hS dX8_lettersAt_50

-- word
def moN_word (n : Nat) (x0 : Int32) (x1 : Int32) (x2 : Int32) (x3 : Int32) : Option (Int64) :=
  (some (((((slL (Int32.toInt64 x0) 15) ||| (slL (Int32.toInt64 x1) 10)) ||| (slL (Int32.toInt64 x2) 5)) ||| (Int32.toInt64 x3)) &&& 1048575))
set_option maxHeartbeats 4000000 in
set_option maxRecDepth 100000 in
theorem cN_word {l : Launch} {G : Ev}  {n : Nat} {x0 : Int32} {x1 : Int32} {x2 : Int32} {x3 : Int32} {r : Int64} (hm : moN_word n x0 x1 x2 x3  = some r) : CtJ l G yX8_word cX8_word 4 (some .long) 0 0 0 0 [.int x0, .int x1, .int x2, .int x3] (wN ()) (wN ()) r := by
  intro sz
  refine enter (by decide) (Nat.le_of_ble_eq_true rfl) ?_
  intro p e s m args below meth c ls X hsz hP hD hS hl
  subst hsz
  obtain ⟨⟨hx, hb, hml, hown, hts⟩, hK, hr, hlk, hA, hAs, hSta⟩ := id X
  have hl : lv_has ls 4 [(0, .int x0), (1, .int x1), (2, .int x2), (3, .int x3)] := hl
  unfold moN_word at hm
  refine lv_iload_n hx hb dX8_word_0 rfl (lv_at hl 0 rfl) ?_
  refine lv_i2l (v := (Int32.toInt64 x0)) hx hb dX8_word_1 rfl ?_
  refine lv_bipush (v := 15) hx hb dX8_word_2 (by decide) ?_
  refine lv_lshl (v := (slL (Int32.toInt64 x0) 15)) hx hb dX8_word_4 rfl ?_
  refine lv_iload_n hx hb dX8_word_5 rfl (lv_at hl 1 rfl) ?_
  refine lv_i2l (v := (Int32.toInt64 x1)) hx hb dX8_word_6 rfl ?_
  refine lv_bipush (v := 10) hx hb dX8_word_7 (by decide) ?_
  refine lv_lshl (v := (slL (Int32.toInt64 x1) 10)) hx hb dX8_word_9 rfl ?_
  refine lv_lor hx hb dX8_word_10 ?_
  refine lv_iload_n hx hb dX8_word_11 rfl (lv_at hl 2 rfl) ?_
  refine lv_i2l (v := (Int32.toInt64 x2)) hx hb dX8_word_12 rfl ?_
  refine lv_iconst (v := 5) hx hb dX8_word_13 (by decide) ?_
  refine lv_lshl (v := (slL (Int32.toInt64 x2) 5)) hx hb dX8_word_14 rfl ?_
  refine lv_lor hx hb dX8_word_15 ?_
  refine lv_iload_n hx hb dX8_word_16 rfl (lv_at hl 3 rfl) ?_
  refine lv_i2l (v := (Int32.toInt64 x3)) hx hb dX8_word_17 rfl ?_
  refine lv_lor hx hb dX8_word_18 ?_
  refine lv_ldc2 (v := 1048575) hx hb hown (hts _ (List.mem_cons_of_mem _ kw923)) dX8_word_19 ?_
  refine lv_land hx hb dX8_word_22 ?_
  exact ret_lo (wf := wN) X hm hP hS dX8_word_23

-- nameOf
def moN_nameOf_B239 (n : Nat) (q : Unit) (x0 : Int64) (x2 : Int32) (x13 : Int64) (x15 : Int64) (x17 : Int64)  : Option (Int32) :=
  (if x2 = 10 then (if (lg_cmp x0 x13) = 0 then (some 5) else (if x2 = 8 then (if (lg_cmp x0 x15) = 0 then (some 6) else (if x2 = 5 then (if (lg_cmp x0 x17) = 0 then (some 7) else (some (-1))) else (some (-1)))) else (if x2 = 5 then (if (lg_cmp x0 x17) = 0 then (some 7) else (some (-1))) else (some (-1))))) else (if x2 = 8 then (if (lg_cmp x0 x15) = 0 then (some 6) else (if x2 = 5 then (if (lg_cmp x0 x17) = 0 then (some 7) else (some (-1))) else (some (-1)))) else (if x2 = 5 then (if (lg_cmp x0 x17) = 0 then (some 7) else (some (-1))) else (some (-1)))))
def moN_nameOf_B189 (n : Nat) (q : Unit) (x0 : Int64) (x2 : Int32) (x7 : Int64) (x9 : Int64) (x11 : Int64) (x13 : Int64) (x15 : Int64) (x17 : Int64)  : Option (Int32) :=
  (if x2 = 5 then (if (lg_cmp x0 x7) = 0 then (some 3) else (if x2 = 8 then (if (lg_cmp x0 x9) = 0 then (some 1) else (if x2 = 7 then (if (lg_cmp x0 x11) = 0 then (some 4) else (moN_nameOf_B239 n q x0 x2 x13 x15 x17 )) else (moN_nameOf_B239 n q x0 x2 x13 x15 x17 ))) else (if x2 = 7 then (if (lg_cmp x0 x11) = 0 then (some 4) else (moN_nameOf_B239 n q x0 x2 x13 x15 x17 )) else (moN_nameOf_B239 n q x0 x2 x13 x15 x17 )))) else (if x2 = 8 then (if (lg_cmp x0 x9) = 0 then (some 1) else (if x2 = 7 then (if (lg_cmp x0 x11) = 0 then (some 4) else (moN_nameOf_B239 n q x0 x2 x13 x15 x17 )) else (moN_nameOf_B239 n q x0 x2 x13 x15 x17 ))) else (if x2 = 7 then (if (lg_cmp x0 x11) = 0 then (some 4) else (moN_nameOf_B239 n q x0 x2 x13 x15 x17 )) else (moN_nameOf_B239 n q x0 x2 x13 x15 x17 ))))
def moN_nameOf (n : Nat) (x0 : Int64) (x2 : Int32) : Option (Int32) :=
  (bd1 (moN_word n 6 18 5 17) fun r_1 => (bd1 (moN_word n 3 15 21 14) fun r_2 => (bd1 (moN_word n 21 14 20 9) fun r_3 => (bd1 (moN_word n 9 14 20 5) fun r_4 => (bd1 (moN_word n 18 22 1 12) fun r_5 => (bd1 (moN_word n 2 25 13 15) fun r_6 => (bd1 (moN_word n 0 14 20 8) fun r_7 => (bd1 (moN_word n 0 4 1 25) fun r_8 => (bd1 (moN_word n 2 25 19 5) fun r_9 => (bd1 (moN_word n 20 16 15 19) fun r_10 => (bd1 (moN_word n 2 25 4 1) fun r_11 => (if x2 = 4 then (if (lg_cmp x0 r_1) = 0 then (some 0) else (if x2 = 5 then (if (lg_cmp x0 ((slL r_2 5) ||| 20)) = 0 then (some 2) else (moN_nameOf_B189 n () x0 x2 ((slL r_3 5) ||| 12) ((slL r_4 20) ||| r_5) ((slL r_6 15) ||| r_7) ((slL ((slL r_6 15) ||| r_7) 15) ||| r_8) ((slL r_9 20) ||| r_10) ((slL r_11 5) ||| 25) )) else (moN_nameOf_B189 n () x0 x2 ((slL r_3 5) ||| 12) ((slL r_4 20) ||| r_5) ((slL r_6 15) ||| r_7) ((slL ((slL r_6 15) ||| r_7) 15) ||| r_8) ((slL r_9 20) ||| r_10) ((slL r_11 5) ||| 25) ))) else (if x2 = 5 then (if (lg_cmp x0 ((slL r_2 5) ||| 20)) = 0 then (some 2) else (moN_nameOf_B189 n () x0 x2 ((slL r_3 5) ||| 12) ((slL r_4 20) ||| r_5) ((slL r_6 15) ||| r_7) ((slL ((slL r_6 15) ||| r_7) 15) ||| r_8) ((slL r_9 20) ||| r_10) ((slL r_11 5) ||| 25) )) else (moN_nameOf_B189 n () x0 x2 ((slL r_3 5) ||| 12) ((slL r_4 20) ||| r_5) ((slL r_6 15) ||| r_7) ((slL ((slL r_6 15) ||| r_7) 15) ||| r_8) ((slL r_9 20) ||| r_10) ((slL r_11 5) ||| 25) ))))))))))))))
set_option maxHeartbeats 4000000 in
set_option maxRecDepth 100000 in
theorem bkN_nameOf_239 {p : Program} {l : Launch} {e : Env} {s : State} {m : MethodId} {args : Array Value} {below : List Frame} {meth : Method} {c : Code} {G : Ev}   {q : Unit} {L : List Nat} {r : Int32} {n : Nat} {x0 : Int64} {x2 : Int32} {x13 : Int64} {x15 : Int64} {x17 : Int64} {H : Heap} {locs : List Loc} {ls : Array Slot} (X : CX p s m args meth c cX8_nameOf 19 (some .int) RX8 (.code yX8_nameOf cX8_nameOf 19 (some .int)) G (AL L s.heap.size)) (hD : va_D (AL L s.heap.size) (wN q)) (hm : moN_nameOf_B239 n q x0 x2 x13 x15 x17  = some r) (hP : va_P (DD G) vwCl (wN q) H) (hS : va_S (AL L s.heap.size) s.heap H locs) (hl : lv_has ls 19 [(0, .long x0), (2, .int x2), (13, .long x13), (15, .long x15), (17, .long x17)]) : W p l e { frames := 1, cells := 0, slots := 0, locals := 23 } s m args below meth c H locs 0 0 (MQ below (va_Qi (fun r' (_ : Unit) => r' = r) (fun _ t => va_P (DD G) vwCl (wN q) t.heap) (AL L s.heap.size)) args s 0 0 (AL L s.heap.size)) (F0 m 239 ls []) := by
  obtain ⟨⟨hx, hb, hml, hown, hts⟩, hK, hr, hlk, hA, hAs, hSta⟩ := id X
  unfold moN_nameOf_B239 at hm
  refine lv_iload_n hx hb dX8_nameOf_239 rfl (lv_at hl 1 rfl) ?_
  refine lv_bipush (v := 10) hx hb dX8_nameOf_240 (by decide) ?_
  refine lv_icmp_ne (tgt := 256) hx hb dX8_nameOf_242 (by decide) (fun c_17 => ?_) (fun c_17 => ?_)
  · have hm := (if_neg c_17).symm.trans hm
    refine lv_iload_n hx hb dX8_nameOf_256 rfl (lv_at hl 1 rfl) ?_
    refine lv_bipush (v := 8) hx hb dX8_nameOf_257 (by decide) ?_
    refine lv_icmp_ne (tgt := 274) hx hb dX8_nameOf_259 (by decide) (fun c_18 => ?_) (fun c_18 => ?_)
    · have hm := (if_neg c_18).symm.trans hm
      refine lv_iload_n hx hb dX8_nameOf_274 rfl (lv_at hl 1 rfl) ?_
      refine lv_iconst (v := 5) hx hb dX8_nameOf_275 (by decide) ?_
      refine lv_icmp_ne (tgt := 291) hx hb dX8_nameOf_276 (by decide) (fun c_19 => ?_) (fun c_19 => ?_)
      · have hm := (if_neg c_19).symm.trans hm
        refine lv_iconst (v := (-1)) hx hb dX8_nameOf_291 (by decide) ?_
        exact ret_io (wf := wN) X hm hP hS dX8_nameOf_292
      · have hm := (if_pos c_19).symm.trans hm
        refine lv_lload_n hx hb dX8_nameOf_279 rfl (lv_at hl 0 rfl) ?_
        refine lv_lload hx hb dX8_nameOf_280 (lv_at hl 4 rfl) ?_
        refine W.lcmp hx hb dX8_nameOf_282 ?_
        refine lv_if_ne (tgt := 291) hx hb dX8_nameOf_283 (by decide) (fun c_20 => ?_) (fun c_20 => ?_)
        · have hm := (if_neg c_20).symm.trans hm
          refine lv_iconst (v := (-1)) hx hb dX8_nameOf_291 (by decide) ?_
          exact ret_io (wf := wN) X hm hP hS dX8_nameOf_292
        · have hm := (if_pos c_20).symm.trans hm
          refine lv_bipush (v := 7) hx hb dX8_nameOf_286 (by decide) ?_
          refine lv_goto (tgt := 292) hx hb dX8_nameOf_288 (by decide) ?_
          exact ret_io (wf := wN) X hm hP hS dX8_nameOf_292
    · have hm := (if_pos c_18).symm.trans hm
      refine lv_lload_n hx hb dX8_nameOf_262 rfl (lv_at hl 0 rfl) ?_
      refine lv_lload hx hb dX8_nameOf_263 (lv_at hl 3 rfl) ?_
      refine W.lcmp hx hb dX8_nameOf_265 ?_
      refine lv_if_ne (tgt := 274) hx hb dX8_nameOf_266 (by decide) (fun c_21 => ?_) (fun c_21 => ?_)
      · have hm := (if_neg c_21).symm.trans hm
        refine lv_iload_n hx hb dX8_nameOf_274 rfl (lv_at hl 1 rfl) ?_
        refine lv_iconst (v := 5) hx hb dX8_nameOf_275 (by decide) ?_
        refine lv_icmp_ne (tgt := 291) hx hb dX8_nameOf_276 (by decide) (fun c_22 => ?_) (fun c_22 => ?_)
        · have hm := (if_neg c_22).symm.trans hm
          refine lv_iconst (v := (-1)) hx hb dX8_nameOf_291 (by decide) ?_
          exact ret_io (wf := wN) X hm hP hS dX8_nameOf_292
        · have hm := (if_pos c_22).symm.trans hm
          refine lv_lload_n hx hb dX8_nameOf_279 rfl (lv_at hl 0 rfl) ?_
          refine lv_lload hx hb dX8_nameOf_280 (lv_at hl 4 rfl) ?_
          refine W.lcmp hx hb dX8_nameOf_282 ?_
          refine lv_if_ne (tgt := 291) hx hb dX8_nameOf_283 (by decide) (fun c_23 => ?_) (fun c_23 => ?_)
          · have hm := (if_neg c_23).symm.trans hm
            refine lv_iconst (v := (-1)) hx hb dX8_nameOf_291 (by decide) ?_
            exact ret_io (wf := wN) X hm hP hS dX8_nameOf_292
          · have hm := (if_pos c_23).symm.trans hm
            refine lv_bipush (v := 7) hx hb dX8_nameOf_286 (by decide) ?_
            refine lv_goto (tgt := 292) hx hb dX8_nameOf_288 (by decide) ?_
            exact ret_io (wf := wN) X hm hP hS dX8_nameOf_292
      · have hm := (if_pos c_21).symm.trans hm
        refine lv_bipush (v := 6) hx hb dX8_nameOf_269 (by decide) ?_
        refine lv_goto (tgt := 292) hx hb dX8_nameOf_271 (by decide) ?_
        exact ret_io (wf := wN) X hm hP hS dX8_nameOf_292
  · have hm := (if_pos c_17).symm.trans hm
    refine lv_lload_n hx hb dX8_nameOf_245 rfl (lv_at hl 0 rfl) ?_
    refine lv_lload hx hb dX8_nameOf_246 (lv_at hl 2 rfl) ?_
    refine W.lcmp hx hb dX8_nameOf_248 ?_
    refine lv_if_ne (tgt := 256) hx hb dX8_nameOf_249 (by decide) (fun c_24 => ?_) (fun c_24 => ?_)
    · have hm := (if_neg c_24).symm.trans hm
      refine lv_iload_n hx hb dX8_nameOf_256 rfl (lv_at hl 1 rfl) ?_
      refine lv_bipush (v := 8) hx hb dX8_nameOf_257 (by decide) ?_
      refine lv_icmp_ne (tgt := 274) hx hb dX8_nameOf_259 (by decide) (fun c_25 => ?_) (fun c_25 => ?_)
      · have hm := (if_neg c_25).symm.trans hm
        refine lv_iload_n hx hb dX8_nameOf_274 rfl (lv_at hl 1 rfl) ?_
        refine lv_iconst (v := 5) hx hb dX8_nameOf_275 (by decide) ?_
        refine lv_icmp_ne (tgt := 291) hx hb dX8_nameOf_276 (by decide) (fun c_26 => ?_) (fun c_26 => ?_)
        · have hm := (if_neg c_26).symm.trans hm
          refine lv_iconst (v := (-1)) hx hb dX8_nameOf_291 (by decide) ?_
          exact ret_io (wf := wN) X hm hP hS dX8_nameOf_292
        · have hm := (if_pos c_26).symm.trans hm
          refine lv_lload_n hx hb dX8_nameOf_279 rfl (lv_at hl 0 rfl) ?_
          refine lv_lload hx hb dX8_nameOf_280 (lv_at hl 4 rfl) ?_
          refine W.lcmp hx hb dX8_nameOf_282 ?_
          refine lv_if_ne (tgt := 291) hx hb dX8_nameOf_283 (by decide) (fun c_27 => ?_) (fun c_27 => ?_)
          · have hm := (if_neg c_27).symm.trans hm
            refine lv_iconst (v := (-1)) hx hb dX8_nameOf_291 (by decide) ?_
            exact ret_io (wf := wN) X hm hP hS dX8_nameOf_292
          · have hm := (if_pos c_27).symm.trans hm
            refine lv_bipush (v := 7) hx hb dX8_nameOf_286 (by decide) ?_
            refine lv_goto (tgt := 292) hx hb dX8_nameOf_288 (by decide) ?_
            exact ret_io (wf := wN) X hm hP hS dX8_nameOf_292
      · have hm := (if_pos c_25).symm.trans hm
        refine lv_lload_n hx hb dX8_nameOf_262 rfl (lv_at hl 0 rfl) ?_
        refine lv_lload hx hb dX8_nameOf_263 (lv_at hl 3 rfl) ?_
        refine W.lcmp hx hb dX8_nameOf_265 ?_
        refine lv_if_ne (tgt := 274) hx hb dX8_nameOf_266 (by decide) (fun c_28 => ?_) (fun c_28 => ?_)
        · have hm := (if_neg c_28).symm.trans hm
          refine lv_iload_n hx hb dX8_nameOf_274 rfl (lv_at hl 1 rfl) ?_
          refine lv_iconst (v := 5) hx hb dX8_nameOf_275 (by decide) ?_
          refine lv_icmp_ne (tgt := 291) hx hb dX8_nameOf_276 (by decide) (fun c_29 => ?_) (fun c_29 => ?_)
          · have hm := (if_neg c_29).symm.trans hm
            refine lv_iconst (v := (-1)) hx hb dX8_nameOf_291 (by decide) ?_
            exact ret_io (wf := wN) X hm hP hS dX8_nameOf_292
          · have hm := (if_pos c_29).symm.trans hm
            refine lv_lload_n hx hb dX8_nameOf_279 rfl (lv_at hl 0 rfl) ?_
            refine lv_lload hx hb dX8_nameOf_280 (lv_at hl 4 rfl) ?_
            refine W.lcmp hx hb dX8_nameOf_282 ?_
            refine lv_if_ne (tgt := 291) hx hb dX8_nameOf_283 (by decide) (fun c_30 => ?_) (fun c_30 => ?_)
            · have hm := (if_neg c_30).symm.trans hm
              refine lv_iconst (v := (-1)) hx hb dX8_nameOf_291 (by decide) ?_
              exact ret_io (wf := wN) X hm hP hS dX8_nameOf_292
            · have hm := (if_pos c_30).symm.trans hm
              refine lv_bipush (v := 7) hx hb dX8_nameOf_286 (by decide) ?_
              refine lv_goto (tgt := 292) hx hb dX8_nameOf_288 (by decide) ?_
              exact ret_io (wf := wN) X hm hP hS dX8_nameOf_292
        · have hm := (if_pos c_28).symm.trans hm
          refine lv_bipush (v := 6) hx hb dX8_nameOf_269 (by decide) ?_
          refine lv_goto (tgt := 292) hx hb dX8_nameOf_271 (by decide) ?_
          exact ret_io (wf := wN) X hm hP hS dX8_nameOf_292
    · have hm := (if_pos c_24).symm.trans hm
      refine lv_iconst (v := 5) hx hb dX8_nameOf_252 (by decide) ?_
      refine lv_goto (tgt := 292) hx hb dX8_nameOf_253 (by decide) ?_
      exact ret_io (wf := wN) X hm hP hS dX8_nameOf_292
set_option maxHeartbeats 4000000 in
set_option maxRecDepth 100000 in
theorem bkN_nameOf_189 {p : Program} {l : Launch} {e : Env} {s : State} {m : MethodId} {args : Array Value} {below : List Frame} {meth : Method} {c : Code} {G : Ev}   {q : Unit} {L : List Nat} {r : Int32} {n : Nat} {x0 : Int64} {x2 : Int32} {x7 : Int64} {x9 : Int64} {x11 : Int64} {x13 : Int64} {x15 : Int64} {x17 : Int64} {H : Heap} {locs : List Loc} {ls : Array Slot} (X : CX p s m args meth c cX8_nameOf 19 (some .int) RX8 (.code yX8_nameOf cX8_nameOf 19 (some .int)) G (AL L s.heap.size)) (hD : va_D (AL L s.heap.size) (wN q)) (hm : moN_nameOf_B189 n q x0 x2 x7 x9 x11 x13 x15 x17  = some r) (hP : va_P (DD G) vwCl (wN q) H) (hS : va_S (AL L s.heap.size) s.heap H locs) (hl : lv_has ls 19 [(0, .long x0), (2, .int x2), (7, .long x7), (9, .long x9), (11, .long x11), (13, .long x13), (15, .long x15), (17, .long x17)]) : W p l e { frames := 1, cells := 0, slots := 0, locals := 23 } s m args below meth c H locs 0 0 (MQ below (va_Qi (fun r' (_ : Unit) => r' = r) (fun _ t => va_P (DD G) vwCl (wN q) t.heap) (AL L s.heap.size)) args s 0 0 (AL L s.heap.size)) (F0 m 189 ls []) := by
  obtain ⟨⟨hx, hb, hml, hown, hts⟩, hK, hr, hlk, hA, hAs, hSta⟩ := id X
  unfold moN_nameOf_B189 at hm
  refine lv_iload_n hx hb dX8_nameOf_189 rfl (lv_at hl 1 rfl) ?_
  refine lv_iconst (v := 5) hx hb dX8_nameOf_190 (by decide) ?_
  refine lv_icmp_ne (tgt := 205) hx hb dX8_nameOf_191 (by decide) (fun c_14 => ?_) (fun c_14 => ?_)
  · have hm := (if_neg c_14).symm.trans hm
    refine lv_iload_n hx hb dX8_nameOf_205 rfl (lv_at hl 1 rfl) ?_
    refine lv_bipush (v := 8) hx hb dX8_nameOf_206 (by decide) ?_
    refine lv_icmp_ne (tgt := 222) hx hb dX8_nameOf_208 (by decide) (fun c_15 => ?_) (fun c_15 => ?_)
    · have hm := (if_neg c_15).symm.trans hm
      refine lv_iload_n hx hb dX8_nameOf_222 rfl (lv_at hl 1 rfl) ?_
      refine lv_bipush (v := 7) hx hb dX8_nameOf_223 (by decide) ?_
      refine lv_icmp_ne (tgt := 239) hx hb dX8_nameOf_225 (by decide) (fun c_16 => ?_) (fun c_16 => ?_)
      · have hm := (if_neg c_16).symm.trans hm
        exact bkN_nameOf_239 X hD hm hP hS (lv_sub hl [0, 1, 5, 6, 7] rfl)
      · have hm := (if_pos c_16).symm.trans hm
        refine lv_lload_n hx hb dX8_nameOf_228 rfl (lv_at hl 0 rfl) ?_
        refine lv_lload hx hb dX8_nameOf_229 (lv_at hl 4 rfl) ?_
        refine W.lcmp hx hb dX8_nameOf_231 ?_
        refine lv_if_ne (tgt := 239) hx hb dX8_nameOf_232 (by decide) (fun c_31 => ?_) (fun c_31 => ?_)
        · have hm := (if_neg c_31).symm.trans hm
          exact bkN_nameOf_239 X hD hm hP hS (lv_sub hl [0, 1, 5, 6, 7] rfl)
        · have hm := (if_pos c_31).symm.trans hm
          refine lv_iconst (v := 4) hx hb dX8_nameOf_235 (by decide) ?_
          refine lv_goto (tgt := 292) hx hb dX8_nameOf_236 (by decide) ?_
          exact ret_io (wf := wN) X hm hP hS dX8_nameOf_292
    · have hm := (if_pos c_15).symm.trans hm
      refine lv_lload_n hx hb dX8_nameOf_211 rfl (lv_at hl 0 rfl) ?_
      refine lv_lload hx hb dX8_nameOf_212 (lv_at hl 3 rfl) ?_
      refine W.lcmp hx hb dX8_nameOf_214 ?_
      refine lv_if_ne (tgt := 222) hx hb dX8_nameOf_215 (by decide) (fun c_32 => ?_) (fun c_32 => ?_)
      · have hm := (if_neg c_32).symm.trans hm
        refine lv_iload_n hx hb dX8_nameOf_222 rfl (lv_at hl 1 rfl) ?_
        refine lv_bipush (v := 7) hx hb dX8_nameOf_223 (by decide) ?_
        refine lv_icmp_ne (tgt := 239) hx hb dX8_nameOf_225 (by decide) (fun c_33 => ?_) (fun c_33 => ?_)
        · have hm := (if_neg c_33).symm.trans hm
          exact bkN_nameOf_239 X hD hm hP hS (lv_sub hl [0, 1, 5, 6, 7] rfl)
        · have hm := (if_pos c_33).symm.trans hm
          refine lv_lload_n hx hb dX8_nameOf_228 rfl (lv_at hl 0 rfl) ?_
          refine lv_lload hx hb dX8_nameOf_229 (lv_at hl 4 rfl) ?_
          refine W.lcmp hx hb dX8_nameOf_231 ?_
          refine lv_if_ne (tgt := 239) hx hb dX8_nameOf_232 (by decide) (fun c_34 => ?_) (fun c_34 => ?_)
          · have hm := (if_neg c_34).symm.trans hm
            exact bkN_nameOf_239 X hD hm hP hS (lv_sub hl [0, 1, 5, 6, 7] rfl)
          · have hm := (if_pos c_34).symm.trans hm
            refine lv_iconst (v := 4) hx hb dX8_nameOf_235 (by decide) ?_
            refine lv_goto (tgt := 292) hx hb dX8_nameOf_236 (by decide) ?_
            exact ret_io (wf := wN) X hm hP hS dX8_nameOf_292
      · have hm := (if_pos c_32).symm.trans hm
        refine lv_iconst (v := 1) hx hb dX8_nameOf_218 (by decide) ?_
        refine lv_goto (tgt := 292) hx hb dX8_nameOf_219 (by decide) ?_
        exact ret_io (wf := wN) X hm hP hS dX8_nameOf_292
  · have hm := (if_pos c_14).symm.trans hm
    refine lv_lload_n hx hb dX8_nameOf_194 rfl (lv_at hl 0 rfl) ?_
    refine lv_lload hx hb dX8_nameOf_195 (lv_at hl 2 rfl) ?_
    refine W.lcmp hx hb dX8_nameOf_197 ?_
    refine lv_if_ne (tgt := 205) hx hb dX8_nameOf_198 (by decide) (fun c_35 => ?_) (fun c_35 => ?_)
    · have hm := (if_neg c_35).symm.trans hm
      refine lv_iload_n hx hb dX8_nameOf_205 rfl (lv_at hl 1 rfl) ?_
      refine lv_bipush (v := 8) hx hb dX8_nameOf_206 (by decide) ?_
      refine lv_icmp_ne (tgt := 222) hx hb dX8_nameOf_208 (by decide) (fun c_36 => ?_) (fun c_36 => ?_)
      · have hm := (if_neg c_36).symm.trans hm
        refine lv_iload_n hx hb dX8_nameOf_222 rfl (lv_at hl 1 rfl) ?_
        refine lv_bipush (v := 7) hx hb dX8_nameOf_223 (by decide) ?_
        refine lv_icmp_ne (tgt := 239) hx hb dX8_nameOf_225 (by decide) (fun c_37 => ?_) (fun c_37 => ?_)
        · have hm := (if_neg c_37).symm.trans hm
          exact bkN_nameOf_239 X hD hm hP hS (lv_sub hl [0, 1, 5, 6, 7] rfl)
        · have hm := (if_pos c_37).symm.trans hm
          refine lv_lload_n hx hb dX8_nameOf_228 rfl (lv_at hl 0 rfl) ?_
          refine lv_lload hx hb dX8_nameOf_229 (lv_at hl 4 rfl) ?_
          refine W.lcmp hx hb dX8_nameOf_231 ?_
          refine lv_if_ne (tgt := 239) hx hb dX8_nameOf_232 (by decide) (fun c_38 => ?_) (fun c_38 => ?_)
          · have hm := (if_neg c_38).symm.trans hm
            exact bkN_nameOf_239 X hD hm hP hS (lv_sub hl [0, 1, 5, 6, 7] rfl)
          · have hm := (if_pos c_38).symm.trans hm
            refine lv_iconst (v := 4) hx hb dX8_nameOf_235 (by decide) ?_
            refine lv_goto (tgt := 292) hx hb dX8_nameOf_236 (by decide) ?_
            exact ret_io (wf := wN) X hm hP hS dX8_nameOf_292
      · have hm := (if_pos c_36).symm.trans hm
        refine lv_lload_n hx hb dX8_nameOf_211 rfl (lv_at hl 0 rfl) ?_
        refine lv_lload hx hb dX8_nameOf_212 (lv_at hl 3 rfl) ?_
        refine W.lcmp hx hb dX8_nameOf_214 ?_
        refine lv_if_ne (tgt := 222) hx hb dX8_nameOf_215 (by decide) (fun c_39 => ?_) (fun c_39 => ?_)
        · have hm := (if_neg c_39).symm.trans hm
          refine lv_iload_n hx hb dX8_nameOf_222 rfl (lv_at hl 1 rfl) ?_
          refine lv_bipush (v := 7) hx hb dX8_nameOf_223 (by decide) ?_
          refine lv_icmp_ne (tgt := 239) hx hb dX8_nameOf_225 (by decide) (fun c_40 => ?_) (fun c_40 => ?_)
          · have hm := (if_neg c_40).symm.trans hm
            exact bkN_nameOf_239 X hD hm hP hS (lv_sub hl [0, 1, 5, 6, 7] rfl)
          · have hm := (if_pos c_40).symm.trans hm
            refine lv_lload_n hx hb dX8_nameOf_228 rfl (lv_at hl 0 rfl) ?_
            refine lv_lload hx hb dX8_nameOf_229 (lv_at hl 4 rfl) ?_
            refine W.lcmp hx hb dX8_nameOf_231 ?_
            refine lv_if_ne (tgt := 239) hx hb dX8_nameOf_232 (by decide) (fun c_41 => ?_) (fun c_41 => ?_)
            · have hm := (if_neg c_41).symm.trans hm
              exact bkN_nameOf_239 X hD hm hP hS (lv_sub hl [0, 1, 5, 6, 7] rfl)
            · have hm := (if_pos c_41).symm.trans hm
              refine lv_iconst (v := 4) hx hb dX8_nameOf_235 (by decide) ?_
              refine lv_goto (tgt := 292) hx hb dX8_nameOf_236 (by decide) ?_
              exact ret_io (wf := wN) X hm hP hS dX8_nameOf_292
        · have hm := (if_pos c_39).symm.trans hm
          refine lv_iconst (v := 1) hx hb dX8_nameOf_218 (by decide) ?_
          refine lv_goto (tgt := 292) hx hb dX8_nameOf_219 (by decide) ?_
          exact ret_io (wf := wN) X hm hP hS dX8_nameOf_292
    · have hm := (if_pos c_35).symm.trans hm
      refine lv_iconst (v := 3) hx hb dX8_nameOf_201 (by decide) ?_
      refine lv_goto (tgt := 292) hx hb dX8_nameOf_202 (by decide) ?_
      exact ret_io (wf := wN) X hm hP hS dX8_nameOf_292
set_option maxHeartbeats 4000000 in
set_option maxRecDepth 100000 in
theorem cN_nameOf {l : Launch} {G : Ev}  {n : Nat} {x0 : Int64} {x2 : Int32} {r : Int32} (hm : moN_nameOf n x0 x2  = some r) : CtI l G yX8_nameOf cX8_nameOf 19 (some .int) 1 23 0 0 [.long x0, .int x2] (wN ()) (wN ()) r := by
  intro sz
  refine enter (by decide) (Nat.le_of_ble_eq_true rfl) ?_
  intro p e s m args below meth c ls X hsz hP hD hS hl
  subst hsz
  obtain ⟨⟨hx, hb, hml, hown, hts⟩, hK, hr, hlk, hA, hAs, hSta⟩ := id X
  have hl : lv_has ls 19 [(0, .long x0), (2, .int x2)] := hl
  unfold moN_nameOf at hm
  refine lv_bipush (v := 6) hx hb dX8_nameOf_0 (by decide) ?_
  refine lv_bipush (v := 18) hx hb dX8_nameOf_2 (by decide) ?_
  refine lv_iconst (v := 5) hx hb dX8_nameOf_4 (by decide) ?_
  refine lv_bipush (v := 17) hx hb dX8_nameOf_5 (by decide) ?_
  obtain ⟨r_1, e_1, hm⟩ := bd1_s hm
  refine goS_l (n := 4) X (cN_word e_1) (gS kw920 kw921 kw9 kw922) (by decide +kernel) ⟨by decide, by decide⟩ va_nil va_dnil hS rfl rfl hl.1 (Nat.le_of_ble_eq_true rfl) dX8_nameOf_7 ⟨Nat.le_refl _, Nat.le_refl _⟩ (fun H locs _ hk hS => ?_)
  have hP := va_keep hP hk
  refine lv_lstore_n (lv' := [(3, .long r_1), (0, .long x0), (2, .int x2)]) hx hb dX8_nameOf_10 rfl hl (by decide) rfl (fun ls hl => ?_)
  refine lv_iconst (v := 3) hx hb dX8_nameOf_11 (by decide) ?_
  refine lv_bipush (v := 15) hx hb dX8_nameOf_12 (by decide) ?_
  refine lv_bipush (v := 21) hx hb dX8_nameOf_14 (by decide) ?_
  refine lv_bipush (v := 14) hx hb dX8_nameOf_16 (by decide) ?_
  obtain ⟨r_2, e_2, hm⟩ := bd1_s hm
  refine goS_l (n := 4) X (cN_word e_2) (gS kw920 kw921 kw9 kw922) (by decide +kernel) ⟨by decide, by decide⟩ va_nil va_dnil hS rfl rfl hl.1 (Nat.le_of_ble_eq_true rfl) dX8_nameOf_18 ⟨Nat.le_refl _, Nat.le_refl _⟩ (fun H locs _ hk hS => ?_)
  have hP := va_keep hP hk
  refine lv_iconst (v := 5) hx hb dX8_nameOf_21 (by decide) ?_
  refine lv_lshl (v := (slL r_2 5)) hx hb dX8_nameOf_22 rfl ?_
  refine lv_ldc2 (v := 20) hx hb hown (hts _ (List.mem_cons_of_mem _ kw924)) dX8_nameOf_23 ?_
  refine lv_lor hx hb dX8_nameOf_26 ?_
  refine lv_lstore (lv' := [(5, .long ((slL r_2 5) ||| 20)), (3, .long r_1), (0, .long x0), (2, .int x2)]) hx hb dX8_nameOf_27 hl (by decide) rfl (fun ls hl => ?_)
  refine lv_bipush (v := 21) hx hb dX8_nameOf_29 (by decide) ?_
  refine lv_bipush (v := 14) hx hb dX8_nameOf_31 (by decide) ?_
  refine lv_bipush (v := 20) hx hb dX8_nameOf_33 (by decide) ?_
  refine lv_bipush (v := 9) hx hb dX8_nameOf_35 (by decide) ?_
  obtain ⟨r_3, e_3, hm⟩ := bd1_s hm
  refine goS_l (n := 4) X (cN_word e_3) (gS kw920 kw921 kw9 kw922) (by decide +kernel) ⟨by decide, by decide⟩ va_nil va_dnil hS rfl rfl hl.1 (Nat.le_of_ble_eq_true rfl) dX8_nameOf_37 ⟨Nat.le_refl _, Nat.le_refl _⟩ (fun H locs _ hk hS => ?_)
  have hP := va_keep hP hk
  refine lv_iconst (v := 5) hx hb dX8_nameOf_40 (by decide) ?_
  refine lv_lshl (v := (slL r_3 5)) hx hb dX8_nameOf_41 rfl ?_
  refine lv_ldc2 (v := 12) hx hb hown (hts _ (List.mem_cons_of_mem _ kw925)) dX8_nameOf_42 ?_
  refine lv_lor hx hb dX8_nameOf_45 ?_
  refine lv_lstore (lv' := [(7, .long ((slL r_3 5) ||| 12)), (5, .long ((slL r_2 5) ||| 20)), (3, .long r_1), (0, .long x0), (2, .int x2)]) hx hb dX8_nameOf_46 hl (by decide) rfl (fun ls hl => ?_)
  refine lv_bipush (v := 9) hx hb dX8_nameOf_48 (by decide) ?_
  refine lv_bipush (v := 14) hx hb dX8_nameOf_50 (by decide) ?_
  refine lv_bipush (v := 20) hx hb dX8_nameOf_52 (by decide) ?_
  refine lv_iconst (v := 5) hx hb dX8_nameOf_54 (by decide) ?_
  obtain ⟨r_4, e_4, hm⟩ := bd1_s hm
  refine goS_l (n := 4) X (cN_word e_4) (gS kw920 kw921 kw9 kw922) (by decide +kernel) ⟨by decide, by decide⟩ va_nil va_dnil hS rfl rfl hl.1 (Nat.le_of_ble_eq_true rfl) dX8_nameOf_55 ⟨Nat.le_refl _, Nat.le_refl _⟩ (fun H locs _ hk hS => ?_)
  have hP := va_keep hP hk
  refine lv_bipush (v := 20) hx hb dX8_nameOf_58 (by decide) ?_
  refine lv_lshl (v := (slL r_4 20)) hx hb dX8_nameOf_60 rfl ?_
  refine lv_bipush (v := 18) hx hb dX8_nameOf_61 (by decide) ?_
  refine lv_bipush (v := 22) hx hb dX8_nameOf_63 (by decide) ?_
  refine lv_iconst (v := 1) hx hb dX8_nameOf_65 (by decide) ?_
  refine lv_bipush (v := 12) hx hb dX8_nameOf_66 (by decide) ?_
  obtain ⟨r_5, e_5, hm⟩ := bd1_s hm
  refine goS_l (n := 4) X (cN_word e_5) (gS kw920 kw921 kw9 kw922) (by decide +kernel) ⟨by decide, by decide⟩ va_nil va_dnil hS rfl rfl hl.1 (Nat.le_of_ble_eq_true rfl) dX8_nameOf_68 ⟨Nat.le_refl _, Nat.le_refl _⟩ (fun H locs _ hk hS => ?_)
  have hP := va_keep hP hk
  refine lv_lor hx hb dX8_nameOf_71 ?_
  refine lv_lstore (lv' := [(9, .long ((slL r_4 20) ||| r_5)), (7, .long ((slL r_3 5) ||| 12)), (5, .long ((slL r_2 5) ||| 20)), (3, .long r_1), (0, .long x0), (2, .int x2)]) hx hb dX8_nameOf_72 hl (by decide) rfl (fun ls hl => ?_)
  refine lv_iconst (v := 2) hx hb dX8_nameOf_74 (by decide) ?_
  refine lv_bipush (v := 25) hx hb dX8_nameOf_75 (by decide) ?_
  refine lv_bipush (v := 13) hx hb dX8_nameOf_77 (by decide) ?_
  refine lv_bipush (v := 15) hx hb dX8_nameOf_79 (by decide) ?_
  obtain ⟨r_6, e_6, hm⟩ := bd1_s hm
  refine goS_l (n := 4) X (cN_word e_6) (gS kw920 kw921 kw9 kw922) (by decide +kernel) ⟨by decide, by decide⟩ va_nil va_dnil hS rfl rfl hl.1 (Nat.le_of_ble_eq_true rfl) dX8_nameOf_81 ⟨Nat.le_refl _, Nat.le_refl _⟩ (fun H locs _ hk hS => ?_)
  have hP := va_keep hP hk
  refine lv_bipush (v := 15) hx hb dX8_nameOf_84 (by decide) ?_
  refine lv_lshl (v := (slL r_6 15)) hx hb dX8_nameOf_86 rfl ?_
  refine lv_iconst (v := 0) hx hb dX8_nameOf_87 (by decide) ?_
  refine lv_bipush (v := 14) hx hb dX8_nameOf_88 (by decide) ?_
  refine lv_bipush (v := 20) hx hb dX8_nameOf_90 (by decide) ?_
  refine lv_bipush (v := 8) hx hb dX8_nameOf_92 (by decide) ?_
  obtain ⟨r_7, e_7, hm⟩ := bd1_s hm
  refine goS_l (n := 4) X (cN_word e_7) (gS kw920 kw921 kw9 kw922) (by decide +kernel) ⟨by decide, by decide⟩ va_nil va_dnil hS rfl rfl hl.1 (Nat.le_of_ble_eq_true rfl) dX8_nameOf_94 ⟨Nat.le_refl _, Nat.le_refl _⟩ (fun H locs _ hk hS => ?_)
  have hP := va_keep hP hk
  refine lv_lor hx hb dX8_nameOf_97 ?_
  refine lv_lstore (lv' := [(11, .long ((slL r_6 15) ||| r_7)), (9, .long ((slL r_4 20) ||| r_5)), (7, .long ((slL r_3 5) ||| 12)), (5, .long ((slL r_2 5) ||| 20)), (3, .long r_1), (0, .long x0), (2, .int x2)]) hx hb dX8_nameOf_98 hl (by decide) rfl (fun ls hl => ?_)
  refine lv_lload hx hb dX8_nameOf_100 (lv_at hl 0 rfl) ?_
  refine lv_bipush (v := 15) hx hb dX8_nameOf_102 (by decide) ?_
  refine lv_lshl (v := (slL ((slL r_6 15) ||| r_7) 15)) hx hb dX8_nameOf_104 rfl ?_
  refine lv_iconst (v := 0) hx hb dX8_nameOf_105 (by decide) ?_
  refine lv_iconst (v := 4) hx hb dX8_nameOf_106 (by decide) ?_
  refine lv_iconst (v := 1) hx hb dX8_nameOf_107 (by decide) ?_
  refine lv_bipush (v := 25) hx hb dX8_nameOf_108 (by decide) ?_
  obtain ⟨r_8, e_8, hm⟩ := bd1_s hm
  refine goS_l (n := 4) X (cN_word e_8) (gS kw920 kw921 kw9 kw922) (by decide +kernel) ⟨by decide, by decide⟩ va_nil va_dnil hS rfl rfl hl.1 (Nat.le_of_ble_eq_true rfl) dX8_nameOf_110 ⟨Nat.le_refl _, Nat.le_refl _⟩ (fun H locs _ hk hS => ?_)
  have hP := va_keep hP hk
  refine lv_lor hx hb dX8_nameOf_113 ?_
  refine lv_lstore (lv' := [(13, .long ((slL ((slL r_6 15) ||| r_7) 15) ||| r_8)), (11, .long ((slL r_6 15) ||| r_7)), (9, .long ((slL r_4 20) ||| r_5)), (7, .long ((slL r_3 5) ||| 12)), (5, .long ((slL r_2 5) ||| 20)), (3, .long r_1), (0, .long x0), (2, .int x2)]) hx hb dX8_nameOf_114 hl (by decide) rfl (fun ls hl => ?_)
  refine lv_iconst (v := 2) hx hb dX8_nameOf_116 (by decide) ?_
  refine lv_bipush (v := 25) hx hb dX8_nameOf_117 (by decide) ?_
  refine lv_bipush (v := 19) hx hb dX8_nameOf_119 (by decide) ?_
  refine lv_iconst (v := 5) hx hb dX8_nameOf_121 (by decide) ?_
  obtain ⟨r_9, e_9, hm⟩ := bd1_s hm
  refine goS_l (n := 4) X (cN_word e_9) (gS kw920 kw921 kw9 kw922) (by decide +kernel) ⟨by decide, by decide⟩ va_nil va_dnil hS rfl rfl hl.1 (Nat.le_of_ble_eq_true rfl) dX8_nameOf_122 ⟨Nat.le_refl _, Nat.le_refl _⟩ (fun H locs _ hk hS => ?_)
  have hP := va_keep hP hk
  refine lv_bipush (v := 20) hx hb dX8_nameOf_125 (by decide) ?_
  refine lv_lshl (v := (slL r_9 20)) hx hb dX8_nameOf_127 rfl ?_
  refine lv_bipush (v := 20) hx hb dX8_nameOf_128 (by decide) ?_
  refine lv_bipush (v := 16) hx hb dX8_nameOf_130 (by decide) ?_
  refine lv_bipush (v := 15) hx hb dX8_nameOf_132 (by decide) ?_
  refine lv_bipush (v := 19) hx hb dX8_nameOf_134 (by decide) ?_
  obtain ⟨r_10, e_10, hm⟩ := bd1_s hm
  refine goS_l (n := 4) X (cN_word e_10) (gS kw920 kw921 kw9 kw922) (by decide +kernel) ⟨by decide, by decide⟩ va_nil va_dnil hS rfl rfl hl.1 (Nat.le_of_ble_eq_true rfl) dX8_nameOf_136 ⟨Nat.le_refl _, Nat.le_refl _⟩ (fun H locs _ hk hS => ?_)
  have hP := va_keep hP hk
  refine lv_lor hx hb dX8_nameOf_139 ?_
  refine lv_lstore (lv' := [(15, .long ((slL r_9 20) ||| r_10)), (13, .long ((slL ((slL r_6 15) ||| r_7) 15) ||| r_8)), (11, .long ((slL r_6 15) ||| r_7)), (9, .long ((slL r_4 20) ||| r_5)), (7, .long ((slL r_3 5) ||| 12)), (5, .long ((slL r_2 5) ||| 20)), (3, .long r_1), (0, .long x0), (2, .int x2)]) hx hb dX8_nameOf_140 hl (by decide) rfl (fun ls hl => ?_)
  refine lv_iconst (v := 2) hx hb dX8_nameOf_142 (by decide) ?_
  refine lv_bipush (v := 25) hx hb dX8_nameOf_143 (by decide) ?_
  refine lv_iconst (v := 4) hx hb dX8_nameOf_145 (by decide) ?_
  refine lv_iconst (v := 1) hx hb dX8_nameOf_146 (by decide) ?_
  obtain ⟨r_11, e_11, hm⟩ := bd1_s hm
  refine goS_l (n := 4) X (cN_word e_11) (gS kw920 kw921 kw9 kw922) (by decide +kernel) ⟨by decide, by decide⟩ va_nil va_dnil hS rfl rfl hl.1 (Nat.le_of_ble_eq_true rfl) dX8_nameOf_147 ⟨Nat.le_refl _, Nat.le_refl _⟩ (fun H locs _ hk hS => ?_)
  have hP := va_keep hP hk
  refine lv_iconst (v := 5) hx hb dX8_nameOf_150 (by decide) ?_
  refine lv_lshl (v := (slL r_11 5)) hx hb dX8_nameOf_151 rfl ?_
  refine lv_ldc2 (v := 25) hx hb hown (hts _ (List.mem_cons_of_mem _ kw926)) dX8_nameOf_152 ?_
  refine lv_lor hx hb dX8_nameOf_155 ?_
  refine lv_lstore (lv' := [(17, .long ((slL r_11 5) ||| 25)), (15, .long ((slL r_9 20) ||| r_10)), (13, .long ((slL ((slL r_6 15) ||| r_7) 15) ||| r_8)), (11, .long ((slL r_6 15) ||| r_7)), (9, .long ((slL r_4 20) ||| r_5)), (7, .long ((slL r_3 5) ||| 12)), (5, .long ((slL r_2 5) ||| 20)), (3, .long r_1), (0, .long x0), (2, .int x2)]) hx hb dX8_nameOf_156 hl (by decide) rfl (fun ls hl => ?_)
  refine lv_iload_n hx hb dX8_nameOf_158 rfl (lv_at hl 9 rfl) ?_
  refine lv_iconst (v := 4) hx hb dX8_nameOf_159 (by decide) ?_
  refine lv_icmp_ne (tgt := 173) hx hb dX8_nameOf_160 (by decide) (fun c_12 => ?_) (fun c_12 => ?_)
  · have hm := (if_neg c_12).symm.trans hm
    refine lv_iload_n hx hb dX8_nameOf_173 rfl (lv_at hl 9 rfl) ?_
    refine lv_iconst (v := 5) hx hb dX8_nameOf_174 (by decide) ?_
    refine lv_icmp_ne (tgt := 189) hx hb dX8_nameOf_175 (by decide) (fun c_13 => ?_) (fun c_13 => ?_)
    · have hm := (if_neg c_13).symm.trans hm
      exact bkN_nameOf_189 X hD hm hP hS (lv_sub hl [8, 9, 5, 4, 3, 2, 1, 0] rfl)
    · have hm := (if_pos c_13).symm.trans hm
      refine lv_lload_n hx hb dX8_nameOf_178 rfl (lv_at hl 8 rfl) ?_
      refine lv_lload hx hb dX8_nameOf_179 (lv_at hl 6 rfl) ?_
      refine W.lcmp hx hb dX8_nameOf_181 ?_
      refine lv_if_ne (tgt := 189) hx hb dX8_nameOf_182 (by decide) (fun c_42 => ?_) (fun c_42 => ?_)
      · have hm := (if_neg c_42).symm.trans hm
        exact bkN_nameOf_189 X hD hm hP hS (lv_sub hl [8, 9, 5, 4, 3, 2, 1, 0] rfl)
      · have hm := (if_pos c_42).symm.trans hm
        refine lv_iconst (v := 2) hx hb dX8_nameOf_185 (by decide) ?_
        refine lv_goto (tgt := 292) hx hb dX8_nameOf_186 (by decide) ?_
        exact ret_io (wf := wN) X hm hP hS dX8_nameOf_292
  · have hm := (if_pos c_12).symm.trans hm
    refine lv_lload_n hx hb dX8_nameOf_163 rfl (lv_at hl 8 rfl) ?_
    refine lv_lload_n hx hb dX8_nameOf_164 rfl (lv_at hl 7 rfl) ?_
    refine W.lcmp hx hb dX8_nameOf_165 ?_
    refine lv_if_ne (tgt := 173) hx hb dX8_nameOf_166 (by decide) (fun c_43 => ?_) (fun c_43 => ?_)
    · have hm := (if_neg c_43).symm.trans hm
      refine lv_iload_n hx hb dX8_nameOf_173 rfl (lv_at hl 9 rfl) ?_
      refine lv_iconst (v := 5) hx hb dX8_nameOf_174 (by decide) ?_
      refine lv_icmp_ne (tgt := 189) hx hb dX8_nameOf_175 (by decide) (fun c_44 => ?_) (fun c_44 => ?_)
      · have hm := (if_neg c_44).symm.trans hm
        exact bkN_nameOf_189 X hD hm hP hS (lv_sub hl [8, 9, 5, 4, 3, 2, 1, 0] rfl)
      · have hm := (if_pos c_44).symm.trans hm
        refine lv_lload_n hx hb dX8_nameOf_178 rfl (lv_at hl 8 rfl) ?_
        refine lv_lload hx hb dX8_nameOf_179 (lv_at hl 6 rfl) ?_
        refine W.lcmp hx hb dX8_nameOf_181 ?_
        refine lv_if_ne (tgt := 189) hx hb dX8_nameOf_182 (by decide) (fun c_45 => ?_) (fun c_45 => ?_)
        · have hm := (if_neg c_45).symm.trans hm
          exact bkN_nameOf_189 X hD hm hP hS (lv_sub hl [8, 9, 5, 4, 3, 2, 1, 0] rfl)
        · have hm := (if_pos c_45).symm.trans hm
          refine lv_iconst (v := 2) hx hb dX8_nameOf_185 (by decide) ?_
          refine lv_goto (tgt := 292) hx hb dX8_nameOf_186 (by decide) ?_
          exact ret_io (wf := wN) X hm hP hS dX8_nameOf_292
    · have hm := (if_pos c_43).symm.trans hm
      refine lv_iconst (v := 0) hx hb dX8_nameOf_169 (by decide) ?_
      refine lv_goto (tgt := 292) hx hb dX8_nameOf_170 (by decide) ?_
      exact ret_io (wf := wN) X hm hP hS dX8_nameOf_292
