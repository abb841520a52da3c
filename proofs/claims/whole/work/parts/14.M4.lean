-- makeAll
def moM_makeAll_L7 {α : Type} (n : Nat) (K0 : Int32 → Int32 → Int32 → Pc3 → Option α) : Nat → Int32 → Int32 → Int32 → Pc3 → Option α
  | 0, _, _, _, _ => none
  | k + 1, x1, x2, x3, q => (if x3 ≤ 0 then (K0 x1 x2 x3 q) else (bd1 (moM_periodOf n (x3 - 1) q) fun r_2 => (bd1 (moM_periodOf n (rS q 18) q) fun r_3 => (if r_2 = r_3 then (moM_makeAll_L7 n K0 k x1 x2 (x3 + (-1)) q) else (K0 x1 x2 x3 q)))))
def moM_makeAll_L56 {α : Type} (n : Nat) (K0 : Int32 → Int32 → Int32 → Int32 → Pc3 → Option α) : Nat → Int32 → Int32 → Int32 → Int32 → Int32 → Pc3 → Option α
  | 0, _, _, _, _, _, _ => none
  | k + 1, x1, x2, x4, x5, x6, q => (if 109573 ≤ x4 then (K0 x1 x2 x4 x6 q) else (bd1 (moM_periodOf n x4 q) fun r_9 => (if r_9 = x5 then (bd1 (moM_periodOf n (rS q 18) q) fun r_11 => (gz (rS q 10) (if (rmI (x5 - r_11) (rS q 10)) = 0 then (bd1 (moM_suits n x4 q) fun r_14 => (if r_14 = 0 then (moM_makeAll_L56 n K0 k x1 x2 (x4 + 1) x5 x6 q) else (gi x6 366 (moM_makeAll_L56 n K0 k x1 x2 (x4 + 1) x5 (x6 + 1) (sA q 23 x6 x4))))) else (moM_makeAll_L56 n K0 k x1 x2 (x4 + 1) x5 x6 q)))) else (K0 x1 x2 x4 x6 q))))
def moM_makeAll_B178 {α : Type} (n : Nat) (K0 : Int32 → Int32 → Int32 → Int32 → Int32 → Pc3 → Option α) (x1 : Int32) (x2 : Int32) (x4 : Int32) (x6 : Int32) (x7 : Int32) (t0 : Int32) (q : Pc3) : Option α :=
  (if t0 = 0 then (K0 x1 x2 x4 x6 (x7 + 1) q) else (gi x7 366 (if (rA q 23 x7) < (rS q 18) then (K0 x1 x2 x4 x6 (x7 + 1) q) else (gi x7 366 (if (rS q 12) < (rA q 23 x7) then (K0 x1 x2 x4 x6 (x7 + 1) q) else (if (rS q 11) ≤ x2 then (K0 x1 x2 x4 x6 (x7 + 1) q) else (gi x7 366 (bd1 (moB_setBit n x1 (rA q 23 x7) 1 (pB (q.2.1 20))) fun f_28 => (K0 x1 (x2 + 1) x4 x6 (x7 + 1) (sF q 20 (f_28.2.1 0)))))))))))
def moM_makeAll_L123 {α : Type} (n : Nat) (K0 : Int32 → Int32 → Int32 → Pc3 → Option α) : Nat → Int32 → Int32 → Int32 → Int32 → Int32 → Pc3 → Option α
  | 0, _, _, _, _, _, _ => none
  | k + 1, x1, x2, x4, x6, x7, q => (if x6 ≤ x7 then (K0 x1 x2 x4 q) else (gi 6 8 (if (rA q 8 6) = 0 then (moM_makeAll_B178 n (fun z29_1 z29_2 z29_4 z29_6 z29_7 q_29 => (moM_makeAll_L123 n K0 k z29_1 z29_2 z29_4 z29_6 z29_7 q_29)) x1 x2 x4 x6 x7 1 q) else (gi ((366 + x7) + 1) 733 (if (rA q 15 ((366 + x7) + 1)) = 0 then (gi (366 - (x6 - x7)) 733 (if (rA q 15 (366 - (x6 - x7))) = 0 then (moM_makeAll_B178 n (fun z35_1 z35_2 z35_4 z35_6 z35_7 q_35 => (moM_makeAll_L123 n K0 k z35_1 z35_2 z35_4 z35_6 z35_7 q_35)) x1 x2 x4 x6 x7 0 q) else (moM_makeAll_B178 n (fun z36_1 z36_2 z36_4 z36_6 z36_7 q_36 => (moM_makeAll_L123 n K0 k z36_1 z36_2 z36_4 z36_6 z36_7 q_36)) x1 x2 x4 x6 x7 1 q))) else (moM_makeAll_B178 n (fun z32_1 z32_2 z32_4 z32_6 z32_7 q_32 => (moM_makeAll_L123 n K0 k z32_1 z32_2 z32_4 z32_6 z32_7 q_32)) x1 x2 x4 x6 x7 1 q))))))
def moM_makeAll_B120 {α : Type} (n : Nat) (K0 : Int32 → Int32 → Int32 → Pc3 → Option α) (x1 : Int32) (x2 : Int32) (x4 : Int32) (x6 : Int32) (q : Pc3) : Option α :=
  (moM_makeAll_L123 n (fun z37_1 z37_2 z37_4 q_37 => (K0 z37_1 z37_2 z37_4 q_37)) n x1 x2 x4 x6 0 q)
def moM_makeAll_L38 {α : Type} (n : Nat) (K0 : Pc3 → Option α) : Nat → Int32 → Int32 → Int32 → Pc3 → Option α
  | 0, _, _, _, _ => none
  | k + 1, x1, x2, x4, q => (if 109573 ≤ x4 then (K0 q) else (bd1 (moM_periodOf n x4 q) fun r_7 => (moM_makeAll_L56 n (fun z17_1 z17_2 z17_4 z17_6 q_17 => (moM_makeAll_B120 n (fun z38_1 z38_2 z38_4 q_38 => (moM_makeAll_L38 n K0 k z38_1 z38_2 z38_4 q_38)) z17_1 z17_2 z17_4 z17_6 q_17)) n x1 x2 x4 r_7 0 q)))
def moM_makeAll_B35 (n : Nat) (x1 : Int32) (x2 : Int32) (x3 : Int32) (q : Pc3) : Option (Pc3) :=
  (moM_makeAll_L38 n (fun q_39 => (some q_39)) n x1 x2 x3 q)
def moM_makeAll (n : Nat) (x1 : Int32) (q : Pc3) : Option (Pc3) :=
  (moM_makeAll_L7 n (fun z5_1 z5_2 z5_3 q_5 => (moM_makeAll_B35 n z5_1 z5_2 z5_3 q_5)) n x1 0 (rS q 18) q)
set_option maxHeartbeats 4000000 in
set_option maxRecDepth 100000 in
theorem lpM_makeAll_7 {p : Program} {l : Launch} {e : Env} {s : State} {m : MethodId} {args : Array Value} {below : List Frame} {meth : Method} {c : Code} {G : Ev} {a : Nat → Nat} {Q : State → Prop} {A : Nat → Prop} {q0 : Pc3} (X : CX p s m args meth c cX8_makeAll 9 none RX8 (.code yX8_makeAll cX8_makeAll 9 none) G A) (hD : va_D A (wM G a q0)) {α : Type} {o : α} {n : Nat} {K0 : Int32 → Int32 → Int32 → Pc3 → Option α} (h0 : ∀ (y1 : Int32) (y2 : Int32) (y3 : Int32) (q : Pc3) (H : Heap) (locs : List Loc) (ls : Array Slot), K0 y1 y2 y3 q = some o → va_P (DD G) vwCl (wM G a q) H → va_S A s.heap H locs → lv_has ls 9 [(0, .ref (a 0)), (1, .int y1), (2, .int y2), (3, .int y3)] → W p l e { frames := 3, cells := 0, slots := 0, locals := 72 } s m args below meth c H locs 0 0 Q (F0 m 35 ls [])) : ∀ (k : Nat) (x1 : Int32) (x2 : Int32) (x3 : Int32) (q : Pc3) (H : Heap) (locs : List Loc) (ls : Array Slot), moM_makeAll_L7 n K0 k x1 x2 x3 q = some o → va_P (DD G) vwCl (wM G a q) H → va_S A s.heap H locs → lv_has ls 9 [(0, .ref (a 0)), (1, .int x1), (2, .int x2), (3, .int x3)] → W p l e { frames := 3, cells := 0, slots := 0, locals := 72 } s m args below meth c H locs 0 0 Q (F0 m 7 ls []) := by
  obtain ⟨⟨hx, hb, hml, hown, hts⟩, hK, hr, hlk, hA, hAs, hSta⟩ := id X
  intro k
  induction k with
  | zero =>
    intro x1 x2 x3 q H locs ls hm
    have hm : none = some o := hm
    cases hm
  | succ k ih =>
    intro x1 x2 x3 q H locs ls hm hP hS hl
    rw [moM_makeAll_L7] at hm
    refine lv_iload_n hx hb dX8_makeAll_7 rfl (lv_at hl 3 rfl) ?_
    refine lv_if_le (tgt := 35) hx hb dX8_makeAll_8 (by decide) (fun c_1 => ?_) (fun c_1 => ?_)
    · have hm := (if_pos c_1).symm.trans hm
      exact h0 _ _ _ _ _ _ _ hm hP hS (lv_sub hl [0, 1, 2, 3] rfl)
    · have hm := (if_neg c_1).symm.trans hm
      refine lv_aload_n hx hb dX8_makeAll_11 rfl (lv_at hl 0 rfl) ?_
      refine lv_iload_n hx hb dX8_makeAll_12 rfl (lv_at hl 3 rfl) ?_
      refine lv_iconst (v := 1) hx hb dX8_makeAll_13 (by decide) ?_
      refine lv_isub hx hb dX8_makeAll_14 ?_
      obtain ⟨r_2, e_2, hm⟩ := bd1_s hm
      refine goV_i (n := 1) (C := RX8) X (cM_periodOf e_2) (gV kw968 kw970 ks_yX8_periodOf kw9 kw971) (by decide +kernel) ⟨by decide, by decide⟩ (rcM hK hP) hP (dM hD) hS rfl rfl hl.1 (Nat.le_of_ble_eq_true rfl) dX8_makeAll_15 ⟨Nat.le_refl _, Nat.le_refl _⟩ (fun H locs hP _ hS => ?_)
      refine lv_aload_n hx hb dX8_makeAll_18 rfl (lv_at hl 0 rfl) ?_
      refine lv_aload_n hx hb dX8_makeAll_19 rfl (lv_at hl 0 rfl) ?_
      refine gM_start X hP dX8_makeAll_20 ?_
      obtain ⟨r_3, e_3, hm⟩ := bd1_s hm
      refine goV_i (n := 1) (C := RX8) X (cM_periodOf e_3) (gV kw968 kw970 ks_yX8_periodOf kw9 kw971) (by decide +kernel) ⟨by decide, by decide⟩ (rcM hK hP) hP (dM hD) hS rfl rfl hl.1 (Nat.le_of_ble_eq_true rfl) dX8_makeAll_23 ⟨Nat.le_refl _, Nat.le_refl _⟩ (fun H locs hP _ hS => ?_)
      refine lv_icmp_ne (tgt := 35) hx hb dX8_makeAll_26 (by decide) (fun c_4 => ?_) (fun c_4 => ?_)
      · have hm := (if_neg c_4).symm.trans hm
        exact h0 _ _ _ _ _ _ _ hm hP hS (lv_sub hl [0, 1, 2, 3] rfl)
      · have hm := (if_pos c_4).symm.trans hm
        refine lv_iinc (v := (x3 + (-1))) (lv' := [(3, .int (x3 + (-1))), (0, .ref (a 0)), (1, .int x1), (2, .int x2)]) hx hb dX8_makeAll_29 hl (k := 3) rfl (by first | rfl | decide) (by decide) rfl (fun ls hl => ?_)
        refine lv_goto (tgt := 7) hx hb dX8_makeAll_32 (by decide) ?_
        exact ih _ _ _ _ _ _ _ hm hP hS (lv_sub hl [1, 2, 3, 0] rfl)
set_option maxHeartbeats 4000000 in
set_option maxRecDepth 100000 in
theorem lpM_makeAll_56 {p : Program} {l : Launch} {e : Env} {s : State} {m : MethodId} {args : Array Value} {below : List Frame} {meth : Method} {c : Code} {G : Ev} {a : Nat → Nat} {Q : State → Prop} {A : Nat → Prop} {q0 : Pc3} (X : CX p s m args meth c cX8_makeAll 9 none RX8 (.code yX8_makeAll cX8_makeAll 9 none) G A) (hD : va_D A (wM G a q0)) {α : Type} {o : α} {n : Nat} {K0 : Int32 → Int32 → Int32 → Int32 → Pc3 → Option α} (h0 : ∀ (y1 : Int32) (y2 : Int32) (y4 : Int32) (y6 : Int32) (q : Pc3) (H : Heap) (locs : List Loc) (ls : Array Slot), K0 y1 y2 y4 y6 q = some o → va_P (DD G) vwCl (wM G a q) H → va_S A s.heap H locs → lv_has ls 9 [(0, .ref (a 0)), (1, .int y1), (2, .int y2), (4, .int y4), (6, .int y6)] → W p l e { frames := 3, cells := 0, slots := 0, locals := 72 } s m args below meth c H locs 0 0 Q (F0 m 120 ls [])) : ∀ (k : Nat) (x1 : Int32) (x2 : Int32) (x4 : Int32) (x5 : Int32) (x6 : Int32) (q : Pc3) (H : Heap) (locs : List Loc) (ls : Array Slot), moM_makeAll_L56 n K0 k x1 x2 x4 x5 x6 q = some o → va_P (DD G) vwCl (wM G a q) H → va_S A s.heap H locs → lv_has ls 9 [(0, .ref (a 0)), (1, .int x1), (2, .int x2), (4, .int x4), (5, .int x5), (6, .int x6)] → W p l e { frames := 3, cells := 0, slots := 0, locals := 72 } s m args below meth c H locs 0 0 Q (F0 m 56 ls []) := by
  obtain ⟨⟨hx, hb, hml, hown, hts⟩, hK, hr, hlk, hA, hAs, hSta⟩ := id X
  intro k
  induction k with
  | zero =>
    intro x1 x2 x4 x5 x6 q H locs ls hm
    have hm : none = some o := hm
    cases hm
  | succ k ih =>
    intro x1 x2 x4 x5 x6 q H locs ls hm hP hS hl
    rw [moM_makeAll_L56] at hm
    refine lv_iload hx hb dX8_makeAll_56 (lv_at hl 3 rfl) ?_
    refine lv_ldc (v := 109573) hx hb hown (hts _ (List.mem_cons_of_mem _ kw779)) dX8_makeAll_58 ?_
    refine lv_icmp_ge (tgt := 120) hx hb dX8_makeAll_60 (by decide) (fun c_8 => ?_) (fun c_8 => ?_)
    · have hm := (if_pos c_8).symm.trans hm
      exact h0 _ _ _ _ _ _ _ _ hm hP hS (lv_sub hl [0, 1, 2, 3, 5] rfl)
    · have hm := (if_neg c_8).symm.trans hm
      refine lv_aload_n hx hb dX8_makeAll_63 rfl (lv_at hl 0 rfl) ?_
      refine lv_iload hx hb dX8_makeAll_64 (lv_at hl 3 rfl) ?_
      obtain ⟨r_9, e_9, hm⟩ := bd1_s hm
      refine goV_i (n := 1) (C := RX8) X (cM_periodOf e_9) (gV kw968 kw970 ks_yX8_periodOf kw9 kw971) (by decide +kernel) ⟨by decide, by decide⟩ (rcM hK hP) hP (dM hD) hS rfl rfl hl.1 (Nat.le_of_ble_eq_true rfl) dX8_makeAll_66 ⟨Nat.le_refl _, Nat.le_refl _⟩ (fun H locs hP _ hS => ?_)
      refine lv_iload hx hb dX8_makeAll_69 (lv_at hl 4 rfl) ?_
      refine lv_icmp_ne (tgt := 120) hx hb dX8_makeAll_71 (by decide) (fun c_10 => ?_) (fun c_10 => ?_)
      · have hm := (if_neg c_10).symm.trans hm
        exact h0 _ _ _ _ _ _ _ _ hm hP hS (lv_sub hl [0, 1, 2, 3, 5] rfl)
      · have hm := (if_pos c_10).symm.trans hm
        refine lv_iload hx hb dX8_makeAll_74 (lv_at hl 4 rfl) ?_
        refine lv_aload_n hx hb dX8_makeAll_76 rfl (lv_at hl 0 rfl) ?_
        refine lv_aload_n hx hb dX8_makeAll_77 rfl (lv_at hl 0 rfl) ?_
        refine gM_start X hP dX8_makeAll_78 ?_
        obtain ⟨r_11, e_11, hm⟩ := bd1_s hm
        refine goV_i (n := 1) (C := RX8) X (cM_periodOf e_11) (gV kw968 kw970 ks_yX8_periodOf kw9 kw971) (by decide +kernel) ⟨by decide, by decide⟩ (rcM hK hP) hP (dM hD) hS rfl rfl hl.1 (Nat.le_of_ble_eq_true rfl) dX8_makeAll_81 ⟨Nat.le_refl _, Nat.le_refl _⟩ (fun H locs hP _ hS => ?_)
        refine lv_isub hx hb dX8_makeAll_84 ?_
        refine lv_aload_n hx hb dX8_makeAll_85 rfl (lv_at hl 0 rfl) ?_
        refine gM_interval X hP dX8_makeAll_86 ?_
        obtain ⟨hz_12, hm⟩ := gz_s hm
        refine lv_irem hx hb dX8_makeAll_89 hz_12 ?_
        refine lv_if_ne (tgt := 114) hx hb dX8_makeAll_90 (by decide) (fun c_13 => ?_) (fun c_13 => ?_)
        · have hm := (if_neg c_13).symm.trans hm
          refine lv_iinc (v := (x4 + 1)) (lv' := [(4, .int (x4 + 1)), (0, .ref (a 0)), (1, .int x1), (2, .int x2), (5, .int x5), (6, .int x6)]) hx hb dX8_makeAll_114 hl (k := 3) rfl (by first | rfl | decide) (by decide) rfl (fun ls hl => ?_)
          refine lv_goto (tgt := 56) hx hb dX8_makeAll_117 (by decide) ?_
          exact ih _ _ _ _ _ _ _ _ _ hm hP hS (lv_sub hl [1, 2, 3, 0, 4, 5] rfl)
        · have hm := (if_pos c_13).symm.trans hm
          refine lv_aload_n hx hb dX8_makeAll_93 rfl (lv_at hl 0 rfl) ?_
          refine lv_iload hx hb dX8_makeAll_94 (lv_at hl 3 rfl) ?_
          obtain ⟨r_14, e_14, hm⟩ := bd1_s hm
          refine goV_i (n := 1) (C := RX8) X (cM_suits e_14) (gV kw980 kw982 ks_yX8_suits kw9 kw983) (by decide +kernel) ⟨by decide, by decide⟩ (rcM hK hP) hP (dM hD) hS rfl rfl hl.1 (Nat.le_of_ble_eq_true rfl) dX8_makeAll_96 ⟨Nat.le_refl _, Nat.le_refl _⟩ (fun H locs hP _ hS => ?_)
          refine lv_if_eq (tgt := 114) hx hb dX8_makeAll_99 (by decide) (fun c_15 => ?_) (fun c_15 => ?_)
          · have hm := (if_pos c_15).symm.trans hm
            refine lv_iinc (v := (x4 + 1)) (lv' := [(4, .int (x4 + 1)), (0, .ref (a 0)), (1, .int x1), (2, .int x2), (5, .int x5), (6, .int x6)]) hx hb dX8_makeAll_114 hl (k := 3) rfl (by first | rfl | decide) (by decide) rfl (fun ls hl => ?_)
            refine lv_goto (tgt := 56) hx hb dX8_makeAll_117 (by decide) ?_
            exact ih _ _ _ _ _ _ _ _ _ hm hP hS (lv_sub hl [1, 2, 3, 0, 4, 5] rfl)
          · have hm := (if_neg c_15).symm.trans hm
            refine lv_aload_n hx hb dX8_makeAll_102 rfl (lv_at hl 0 rfl) ?_
            refine gM_suiting X hP dX8_makeAll_103 ?_
            refine lv_iload hx hb dX8_makeAll_106 (lv_at hl 5 rfl) ?_
            refine lv_iload hx hb dX8_makeAll_108 (lv_at hl 3 rfl) ?_
            obtain ⟨hi_16, hm⟩ := gi_s hm
            refine stM_suiting X hP (dM hD) hS hi_16 dX8_makeAll_110 (fun H locs hP hS => ?_)
            refine lv_iinc (v := (x6 + 1)) (lv' := [(6, .int (x6 + 1)), (0, .ref (a 0)), (1, .int x1), (2, .int x2), (4, .int x4), (5, .int x5)]) hx hb dX8_makeAll_111 hl (k := 5) rfl (by first | rfl | decide) (by decide) rfl (fun ls hl => ?_)
            refine lv_iinc (v := (x4 + 1)) (lv' := [(4, .int (x4 + 1)), (6, .int (x6 + 1)), (0, .ref (a 0)), (1, .int x1), (2, .int x2), (5, .int x5)]) hx hb dX8_makeAll_114 hl (k := 4) rfl (by first | rfl | decide) (by decide) rfl (fun ls hl => ?_)
            refine lv_goto (tgt := 56) hx hb dX8_makeAll_117 (by decide) ?_
            exact ih _ _ _ _ _ _ _ _ _ hm hP hS (lv_sub hl [2, 3, 4, 0, 5, 1] rfl)
set_option maxHeartbeats 4000000 in
set_option maxRecDepth 100000 in
theorem bkM_makeAll_178 {p : Program} {l : Launch} {e : Env} {s : State} {m : MethodId} {args : Array Value} {below : List Frame} {meth : Method} {c : Code} {G : Ev} {a : Nat → Nat} {Q : State → Prop} {A : Nat → Prop} {q0 : Pc3} (X : CX p s m args meth c cX8_makeAll 9 none RX8 (.code yX8_makeAll cX8_makeAll 9 none) G A) (hD : va_D A (wM G a q0)) {α : Type} {o : α} {n : Nat} {K0 : Int32 → Int32 → Int32 → Int32 → Int32 → Pc3 → Option α} (h0 : ∀ (y1 : Int32) (y2 : Int32) (y4 : Int32) (y6 : Int32) (y7 : Int32) (q : Pc3) (H : Heap) (locs : List Loc) (ls : Array Slot), K0 y1 y2 y4 y6 y7 q = some o → va_P (DD G) vwCl (wM G a q) H → va_S A s.heap H locs → lv_has ls 9 [(0, .ref (a 0)), (1, .int y1), (2, .int y2), (4, .int y4), (6, .int y6), (7, .int y7)] → W p l e { frames := 3, cells := 0, slots := 0, locals := 72 } s m args below meth c H locs 0 0 Q (F0 m 123 ls [])) {q : Pc3} {H : Heap} {locs : List Loc} {ls : Array Slot} {x1 : Int32} {x2 : Int32} {x4 : Int32} {x6 : Int32} {x7 : Int32} {t0 : Int32}  (hm : moM_makeAll_B178 n K0 x1 x2 x4 x6 x7 t0 q = some o) (hP : va_P (DD G) vwCl (wM G a q) H) (hS : va_S A s.heap H locs) (hl : lv_has ls 9 [(0, .ref (a 0)), (1, .int x1), (2, .int x2), (4, .int x4), (6, .int x6), (7, .int x7)]) : W p l e { frames := 3, cells := 0, slots := 0, locals := 72 } s m args below meth c H locs 0 0 Q (F0 m 178 ls [.int t0]) := by
  obtain ⟨⟨hx, hb, hml, hown, hts⟩, hK, hr, hlk, hA, hAs, hSta⟩ := id X
  unfold moM_makeAll_B178 at hm
  refine lv_istore (lv' := [(8, .int t0), (0, .ref (a 0)), (1, .int x1), (2, .int x2), (4, .int x4), (6, .int x6), (7, .int x7)]) hx hb dX8_makeAll_178 hl (by decide) rfl (fun ls hl => ?_)
  refine lv_iload hx hb dX8_makeAll_180 (lv_at hl 0 rfl) ?_
  refine lv_if_eq (tgt := 241) hx hb dX8_makeAll_182 (by decide) (fun c_21 => ?_) (fun c_21 => ?_)
  · have hm := (if_pos c_21).symm.trans hm
    refine lv_iinc (v := (x7 + 1)) (lv' := [(7, .int (x7 + 1)), (8, .int t0), (0, .ref (a 0)), (1, .int x1), (2, .int x2), (4, .int x4), (6, .int x6)]) hx hb dX8_makeAll_241 hl (k := 6) rfl (by first | rfl | decide) (by decide) rfl (fun ls hl => ?_)
    refine lv_goto (tgt := 123) hx hb dX8_makeAll_244 (by decide) ?_
    exact h0 _ _ _ _ _ _ _ _ _ hm hP hS (lv_sub hl [2, 3, 4, 5, 6, 0] rfl)
  · have hm := (if_neg c_21).symm.trans hm
    refine lv_aload_n hx hb dX8_makeAll_185 rfl (lv_at hl 1 rfl) ?_
    refine gM_suiting X hP dX8_makeAll_186 ?_
    refine lv_iload hx hb dX8_makeAll_189 (lv_at hl 6 rfl) ?_
    obtain ⟨hi_22, hm⟩ := gi_s hm
    refine ldM_suiting X hP hi_22 dX8_makeAll_191 ?_
    refine lv_aload_n hx hb dX8_makeAll_192 rfl (lv_at hl 1 rfl) ?_
    refine gM_start X hP dX8_makeAll_193 ?_
    refine lv_icmp_lt (tgt := 241) hx hb dX8_makeAll_196 (by decide) (fun c_23 => ?_) (fun c_23 => ?_)
    · have hm := (if_pos c_23).symm.trans hm
      refine lv_iinc (v := (x7 + 1)) (lv' := [(7, .int (x7 + 1)), (8, .int t0), (0, .ref (a 0)), (1, .int x1), (2, .int x2), (4, .int x4), (6, .int x6)]) hx hb dX8_makeAll_241 hl (k := 6) rfl (by first | rfl | decide) (by decide) rfl (fun ls hl => ?_)
      refine lv_goto (tgt := 123) hx hb dX8_makeAll_244 (by decide) ?_
      exact h0 _ _ _ _ _ _ _ _ _ hm hP hS (lv_sub hl [2, 3, 4, 5, 6, 0] rfl)
    · have hm := (if_neg c_23).symm.trans hm
      refine lv_aload_n hx hb dX8_makeAll_199 rfl (lv_at hl 1 rfl) ?_
      refine gM_suiting X hP dX8_makeAll_200 ?_
      refine lv_iload hx hb dX8_makeAll_203 (lv_at hl 6 rfl) ?_
      obtain ⟨hi_24, hm⟩ := gi_s hm
      refine ldM_suiting X hP hi_24 dX8_makeAll_205 ?_
      refine lv_aload_n hx hb dX8_makeAll_206 rfl (lv_at hl 1 rfl) ?_
      refine gM_until X hP dX8_makeAll_207 ?_
      refine lv_icmp_gt (tgt := 241) hx hb dX8_makeAll_210 (by decide) (fun c_25 => ?_) (fun c_25 => ?_)
      · have hm := (if_pos c_25).symm.trans hm
        refine lv_iinc (v := (x7 + 1)) (lv' := [(7, .int (x7 + 1)), (8, .int t0), (0, .ref (a 0)), (1, .int x1), (2, .int x2), (4, .int x4), (6, .int x6)]) hx hb dX8_makeAll_241 hl (k := 6) rfl (by first | rfl | decide) (by decide) rfl (fun ls hl => ?_)
        refine lv_goto (tgt := 123) hx hb dX8_makeAll_244 (by decide) ?_
        exact h0 _ _ _ _ _ _ _ _ _ hm hP hS (lv_sub hl [2, 3, 4, 5, 6, 0] rfl)
      · have hm := (if_neg c_25).symm.trans hm
        refine lv_iload_n hx hb dX8_makeAll_213 rfl (lv_at hl 3 rfl) ?_
        refine lv_aload_n hx hb dX8_makeAll_214 rfl (lv_at hl 1 rfl) ?_
        refine gM_count X hP dX8_makeAll_215 ?_
        refine lv_icmp_ge (tgt := 241) hx hb dX8_makeAll_218 (by decide) (fun c_26 => ?_) (fun c_26 => ?_)
        · have hm := (if_pos c_26).symm.trans hm
          refine lv_iinc (v := (x7 + 1)) (lv' := [(7, .int (x7 + 1)), (8, .int t0), (0, .ref (a 0)), (1, .int x1), (2, .int x2), (4, .int x4), (6, .int x6)]) hx hb dX8_makeAll_241 hl (k := 6) rfl (by first | rfl | decide) (by decide) rfl (fun ls hl => ?_)
          refine lv_goto (tgt := 123) hx hb dX8_makeAll_244 (by decide) ?_
          exact h0 _ _ _ _ _ _ _ _ _ hm hP hS (lv_sub hl [2, 3, 4, 5, 6, 0] rfl)
        · have hm := (if_neg c_26).symm.trans hm
          refine lv_aload_n hx hb dX8_makeAll_221 rfl (lv_at hl 1 rfl) ?_
          refine lv_aload_n hx hb dX8_makeAll_222 rfl (lv_at hl 1 rfl) ?_
          refine gM_rule X hP dX8_makeAll_223 ?_
          refine lv_iload_n hx hb dX8_makeAll_226 rfl (lv_at hl 2 rfl) ?_
          refine lv_aload_n hx hb dX8_makeAll_227 rfl (lv_at hl 1 rfl) ?_
          refine gM_suiting X hP dX8_makeAll_228 ?_
          refine lv_iload hx hb dX8_makeAll_231 (lv_at hl 6 rfl) ?_
          obtain ⟨hi_27, hm⟩ := gi_s hm
          refine ldM_suiting X hP hi_27 dX8_makeAll_233 ?_
          refine lv_iconst (v := 1) hx hb dX8_makeAll_234 (by decide) ?_
          obtain ⟨f_28, e_28, hm⟩ := bd1_s hm
          refine goV_v (n := 4) (C := RX8) X (cB_setBit (a := (fun j => if j = 0 then a 20 else a 0)) e_28) (gV kw992 kw994 ks_yX8_setBit kw9 kw995) (by decide +kernel) ⟨by decide, by decide⟩ (rcM hK hP) (hP.sub (ws' := (wB G (fun j => if j = 0 then a 20 else a 0) (pB (q.2.1 20)))) [10] rfl) ((dM hD : va_D _ (wM G a q)).sub (ws' := (wB G (fun j => if j = 0 then a 20 else a 0) (pB (q.2.1 20)))) [10] (by decide) rfl) hS rfl rfl hl.1 (Nat.le_of_ble_eq_true rfl) dX8_makeAll_235 ⟨Nat.le_refl _, Nat.le_refl _⟩ (fun H locs hP1 hk hS => ?_)
          have hP := bkM_rule (f := f_28.2.1 0) hP (dM hD) hk hP1
          refine lv_iinc (v := (x2 + 1)) (lv' := [(2, .int (x2 + 1)), (8, .int t0), (0, .ref (a 0)), (1, .int x1), (4, .int x4), (6, .int x6), (7, .int x7)]) hx hb dX8_makeAll_238 hl (k := 3) rfl (by first | rfl | decide) (by decide) rfl (fun ls hl => ?_)
          refine lv_iinc (v := (x7 + 1)) (lv' := [(7, .int (x7 + 1)), (2, .int (x2 + 1)), (8, .int t0), (0, .ref (a 0)), (1, .int x1), (4, .int x4), (6, .int x6)]) hx hb dX8_makeAll_241 hl (k := 6) rfl (by first | rfl | decide) (by decide) rfl (fun ls hl => ?_)
          refine lv_goto (tgt := 123) hx hb dX8_makeAll_244 (by decide) ?_
          exact h0 _ _ _ _ _ _ _ _ _ hm hP hS (lv_sub hl [3, 4, 1, 5, 6, 0] rfl)
set_option maxHeartbeats 4000000 in
set_option maxRecDepth 100000 in
theorem lpM_makeAll_123 {p : Program} {l : Launch} {e : Env} {s : State} {m : MethodId} {args : Array Value} {below : List Frame} {meth : Method} {c : Code} {G : Ev} {a : Nat → Nat} {Q : State → Prop} {A : Nat → Prop} {q0 : Pc3} (X : CX p s m args meth c cX8_makeAll 9 none RX8 (.code yX8_makeAll cX8_makeAll 9 none) G A) (hD : va_D A (wM G a q0)) {α : Type} {o : α} {n : Nat} {K0 : Int32 → Int32 → Int32 → Pc3 → Option α} (h0 : ∀ (y1 : Int32) (y2 : Int32) (y4 : Int32) (q : Pc3) (H : Heap) (locs : List Loc) (ls : Array Slot), K0 y1 y2 y4 q = some o → va_P (DD G) vwCl (wM G a q) H → va_S A s.heap H locs → lv_has ls 9 [(0, .ref (a 0)), (1, .int y1), (2, .int y2), (4, .int y4)] → W p l e { frames := 3, cells := 0, slots := 0, locals := 72 } s m args below meth c H locs 0 0 Q (F0 m 247 ls [])) : ∀ (k : Nat) (x1 : Int32) (x2 : Int32) (x4 : Int32) (x6 : Int32) (x7 : Int32) (q : Pc3) (H : Heap) (locs : List Loc) (ls : Array Slot), moM_makeAll_L123 n K0 k x1 x2 x4 x6 x7 q = some o → va_P (DD G) vwCl (wM G a q) H → va_S A s.heap H locs → lv_has ls 9 [(0, .ref (a 0)), (1, .int x1), (2, .int x2), (4, .int x4), (6, .int x6), (7, .int x7)] → W p l e { frames := 3, cells := 0, slots := 0, locals := 72 } s m args below meth c H locs 0 0 Q (F0 m 123 ls []) := by
  obtain ⟨⟨hx, hb, hml, hown, hts⟩, hK, hr, hlk, hA, hAs, hSta⟩ := id X
  intro k
  induction k with
  | zero =>
    intro x1 x2 x4 x6 x7 q H locs ls hm
    have hm : none = some o := hm
    cases hm
  | succ k ih =>
    intro x1 x2 x4 x6 x7 q H locs ls hm hP hS hl
    rw [moM_makeAll_L123] at hm
    refine lv_iload hx hb dX8_makeAll_123 (lv_at hl 5 rfl) ?_
    refine lv_iload hx hb dX8_makeAll_125 (lv_at hl 4 rfl) ?_
    refine lv_icmp_ge (tgt := 247) hx hb dX8_makeAll_127 (by decide) (fun c_18 => ?_) (fun c_18 => ?_)
    · have hm := (if_pos c_18).symm.trans hm
      exact h0 _ _ _ _ _ _ _ hm hP hS (lv_sub hl [0, 1, 2, 3] rfl)
    · have hm := (if_neg c_18).symm.trans hm
      refine lv_aload_n hx hb dX8_makeAll_130 rfl (lv_at hl 0 rfl) ?_
      refine gM_has X hP dX8_makeAll_131 ?_
      refine lv_bipush (v := 6) hx hb dX8_makeAll_134 (by decide) ?_
      obtain ⟨hi_19, hm⟩ := gi_s hm
      refine ldM_has X hP hi_19 dX8_makeAll_136 ?_
      refine lv_if_eq (tgt := 173) hx hb dX8_makeAll_137 (by decide) (fun c_20 => ?_) (fun c_20 => ?_)
      · have hm := (if_pos c_20).symm.trans hm
        refine lv_iconst (v := 1) hx hb dX8_makeAll_173 (by decide) ?_
        refine lv_goto (tgt := 178) hx hb dX8_makeAll_174 (by decide) ?_
        refine bkM_makeAll_178 X hD (fun z29_1 z29_2 z29_4 z29_6 z29_7 q_29 H locs ls hm hP hS hl => ?_) hm hP hS (lv_sub hl [0, 1, 2, 3, 4, 5] rfl)
        exact ih _ _ _ _ _ _ _ _ _ hm hP hS (lv_sub hl [0, 1, 2, 3, 4, 5] rfl)
      · have hm := (if_neg c_20).symm.trans hm
        refine lv_aload_n hx hb dX8_makeAll_140 rfl (lv_at hl 0 rfl) ?_
        refine gM_places X hP dX8_makeAll_141 ?_
        refine lv_sipush (v := 366) hx hb dX8_makeAll_144 (by decide) ?_
        refine lv_iload hx hb dX8_makeAll_147 (lv_at hl 5 rfl) ?_
        refine lv_iadd hx hb dX8_makeAll_149 ?_
        refine lv_iconst (v := 1) hx hb dX8_makeAll_150 (by decide) ?_
        refine lv_iadd hx hb dX8_makeAll_151 ?_
        obtain ⟨hi_30, hm⟩ := gi_s hm
        refine ldM_places X hP hi_30 dX8_makeAll_152 ?_
        refine lv_if_ne (tgt := 173) hx hb dX8_makeAll_153 (by decide) (fun c_31 => ?_) (fun c_31 => ?_)
        · have hm := (if_neg c_31).symm.trans hm
          refine lv_iconst (v := 1) hx hb dX8_makeAll_173 (by decide) ?_
          refine lv_goto (tgt := 178) hx hb dX8_makeAll_174 (by decide) ?_
          refine bkM_makeAll_178 X hD (fun z32_1 z32_2 z32_4 z32_6 z32_7 q_32 H locs ls hm hP hS hl => ?_) hm hP hS (lv_sub hl [0, 1, 2, 3, 4, 5] rfl)
          exact ih _ _ _ _ _ _ _ _ _ hm hP hS (lv_sub hl [0, 1, 2, 3, 4, 5] rfl)
        · have hm := (if_pos c_31).symm.trans hm
          refine lv_aload_n hx hb dX8_makeAll_156 rfl (lv_at hl 0 rfl) ?_
          refine gM_places X hP dX8_makeAll_157 ?_
          refine lv_sipush (v := 366) hx hb dX8_makeAll_160 (by decide) ?_
          refine lv_iload hx hb dX8_makeAll_163 (lv_at hl 4 rfl) ?_
          refine lv_iload hx hb dX8_makeAll_165 (lv_at hl 5 rfl) ?_
          refine lv_isub hx hb dX8_makeAll_167 ?_
          refine lv_isub hx hb dX8_makeAll_168 ?_
          obtain ⟨hi_33, hm⟩ := gi_s hm
          refine ldM_places X hP hi_33 dX8_makeAll_169 ?_
          refine lv_if_eq (tgt := 177) hx hb dX8_makeAll_170 (by decide) (fun c_34 => ?_) (fun c_34 => ?_)
          · have hm := (if_pos c_34).symm.trans hm
            refine lv_iconst (v := 0) hx hb dX8_makeAll_177 (by decide) ?_
            refine bkM_makeAll_178 X hD (fun z35_1 z35_2 z35_4 z35_6 z35_7 q_35 H locs ls hm hP hS hl => ?_) hm hP hS (lv_sub hl [0, 1, 2, 3, 4, 5] rfl)
            exact ih _ _ _ _ _ _ _ _ _ hm hP hS (lv_sub hl [0, 1, 2, 3, 4, 5] rfl)
          · have hm := (if_neg c_34).symm.trans hm
            refine lv_iconst (v := 1) hx hb dX8_makeAll_173 (by decide) ?_
            refine lv_goto (tgt := 178) hx hb dX8_makeAll_174 (by decide) ?_
            refine bkM_makeAll_178 X hD (fun z36_1 z36_2 z36_4 z36_6 z36_7 q_36 H locs ls hm hP hS hl => ?_) hm hP hS (lv_sub hl [0, 1, 2, 3, 4, 5] rfl)
            exact ih _ _ _ _ _ _ _ _ _ hm hP hS (lv_sub hl [0, 1, 2, 3, 4, 5] rfl)
set_option maxHeartbeats 4000000 in
set_option maxRecDepth 100000 in
theorem bkM_makeAll_120 {p : Program} {l : Launch} {e : Env} {s : State} {m : MethodId} {args : Array Value} {below : List Frame} {meth : Method} {c : Code} {G : Ev} {a : Nat → Nat} {Q : State → Prop} {A : Nat → Prop} {q0 : Pc3} (X : CX p s m args meth c cX8_makeAll 9 none RX8 (.code yX8_makeAll cX8_makeAll 9 none) G A) (hD : va_D A (wM G a q0)) {α : Type} {o : α} {n : Nat} {K0 : Int32 → Int32 → Int32 → Pc3 → Option α} (h0 : ∀ (y1 : Int32) (y2 : Int32) (y4 : Int32) (q : Pc3) (H : Heap) (locs : List Loc) (ls : Array Slot), K0 y1 y2 y4 q = some o → va_P (DD G) vwCl (wM G a q) H → va_S A s.heap H locs → lv_has ls 9 [(0, .ref (a 0)), (1, .int y1), (2, .int y2), (4, .int y4)] → W p l e { frames := 3, cells := 0, slots := 0, locals := 72 } s m args below meth c H locs 0 0 Q (F0 m 38 ls [])) {q : Pc3} {H : Heap} {locs : List Loc} {ls : Array Slot} {x1 : Int32} {x2 : Int32} {x4 : Int32} {x6 : Int32}  (hm : moM_makeAll_B120 n K0 x1 x2 x4 x6 q = some o) (hP : va_P (DD G) vwCl (wM G a q) H) (hS : va_S A s.heap H locs) (hl : lv_has ls 9 [(0, .ref (a 0)), (1, .int x1), (2, .int x2), (4, .int x4), (6, .int x6)]) : W p l e { frames := 3, cells := 0, slots := 0, locals := 72 } s m args below meth c H locs 0 0 Q (F0 m 120 ls []) := by
  obtain ⟨⟨hx, hb, hml, hown, hts⟩, hK, hr, hlk, hA, hAs, hSta⟩ := id X
  unfold moM_makeAll_B120 at hm
  refine lv_iconst (v := 0) hx hb dX8_makeAll_120 (by decide) ?_
  refine lv_istore (lv' := [(7, .int 0), (0, .ref (a 0)), (1, .int x1), (2, .int x2), (4, .int x4), (6, .int x6)]) hx hb dX8_makeAll_121 hl (by decide) rfl (fun ls hl => ?_)
  refine lpM_makeAll_123 X hD (fun z37_1 z37_2 z37_4 q_37 H locs ls hm hP hS hl => ?_) n _ _ _ _ _ _ _ _ _ hm hP hS (lv_sub hl [1, 2, 3, 4, 5, 0] rfl)
  refine lv_goto (tgt := 38) hx hb dX8_makeAll_247 (by decide) ?_
  exact h0 _ _ _ _ _ _ _ hm hP hS (lv_sub hl [0, 1, 2, 3] rfl)
set_option maxHeartbeats 4000000 in
set_option maxRecDepth 100000 in
theorem lpM_makeAll_38 {p : Program} {l : Launch} {e : Env} {s : State} {m : MethodId} {args : Array Value} {below : List Frame} {meth : Method} {c : Code} {G : Ev} {a : Nat → Nat} {Q : State → Prop} {A : Nat → Prop} {q0 : Pc3} (X : CX p s m args meth c cX8_makeAll 9 none RX8 (.code yX8_makeAll cX8_makeAll 9 none) G A) (hD : va_D A (wM G a q0)) {α : Type} {o : α} {n : Nat} {K0 : Pc3 → Option α} (h0 : ∀ (q : Pc3) (H : Heap) (locs : List Loc) (ls : Array Slot), K0 q = some o → va_P (DD G) vwCl (wM G a q) H → va_S A s.heap H locs → lv_has ls 9 [] → W p l e { frames := 3, cells := 0, slots := 0, locals := 72 } s m args below meth c H locs 0 0 Q (F0 m 250 ls [])) : ∀ (k : Nat) (x1 : Int32) (x2 : Int32) (x4 : Int32) (q : Pc3) (H : Heap) (locs : List Loc) (ls : Array Slot), moM_makeAll_L38 n K0 k x1 x2 x4 q = some o → va_P (DD G) vwCl (wM G a q) H → va_S A s.heap H locs → lv_has ls 9 [(0, .ref (a 0)), (1, .int x1), (2, .int x2), (4, .int x4)] → W p l e { frames := 3, cells := 0, slots := 0, locals := 72 } s m args below meth c H locs 0 0 Q (F0 m 38 ls []) := by
  obtain ⟨⟨hx, hb, hml, hown, hts⟩, hK, hr, hlk, hA, hAs, hSta⟩ := id X
  intro k
  induction k with
  | zero =>
    intro x1 x2 x4 q H locs ls hm
    have hm : none = some o := hm
    cases hm
  | succ k ih =>
    intro x1 x2 x4 q H locs ls hm hP hS hl
    rw [moM_makeAll_L38] at hm
    refine lv_iload hx hb dX8_makeAll_38 (lv_at hl 3 rfl) ?_
    refine lv_ldc (v := 109573) hx hb hown (hts _ (List.mem_cons_of_mem _ kw779)) dX8_makeAll_40 ?_
    refine lv_icmp_ge (tgt := 250) hx hb dX8_makeAll_42 (by decide) (fun c_6 => ?_) (fun c_6 => ?_)
    · have hm := (if_pos c_6).symm.trans hm
      exact h0 _ _ _ _ hm hP hS (lv_sub hl [] rfl)
    · have hm := (if_neg c_6).symm.trans hm
      refine lv_aload_n hx hb dX8_makeAll_45 rfl (lv_at hl 0 rfl) ?_
      refine lv_iload hx hb dX8_makeAll_46 (lv_at hl 3 rfl) ?_
      obtain ⟨r_7, e_7, hm⟩ := bd1_s hm
      refine goV_i (n := 1) (C := RX8) X (cM_periodOf e_7) (gV kw968 kw970 ks_yX8_periodOf kw9 kw971) (by decide +kernel) ⟨by decide, by decide⟩ (rcM hK hP) hP (dM hD) hS rfl rfl hl.1 (Nat.le_of_ble_eq_true rfl) dX8_makeAll_48 ⟨Nat.le_refl _, Nat.le_refl _⟩ (fun H locs hP _ hS => ?_)
      refine lv_istore (lv' := [(5, .int r_7), (0, .ref (a 0)), (1, .int x1), (2, .int x2), (4, .int x4)]) hx hb dX8_makeAll_51 hl (by decide) rfl (fun ls hl => ?_)
      refine lv_iconst (v := 0) hx hb dX8_makeAll_53 (by decide) ?_
      refine lv_istore (lv' := [(6, .int 0), (5, .int r_7), (0, .ref (a 0)), (1, .int x1), (2, .int x2), (4, .int x4)]) hx hb dX8_makeAll_54 hl (by decide) rfl (fun ls hl => ?_)
      refine lpM_makeAll_56 X hD (fun z17_1 z17_2 z17_4 z17_6 q_17 H locs ls hm hP hS hl => ?_) n _ _ _ _ _ _ _ _ _ hm hP hS (lv_sub hl [2, 3, 4, 5, 1, 0] rfl)
      refine bkM_makeAll_120 X hD (fun z38_1 z38_2 z38_4 q_38 H locs ls hm hP hS hl => ?_) hm hP hS (lv_sub hl [0, 1, 2, 3, 4] rfl)
      exact ih _ _ _ _ _ _ _ hm hP hS (lv_sub hl [0, 1, 2, 3] rfl)
set_option maxHeartbeats 4000000 in
set_option maxRecDepth 100000 in
theorem bkM_makeAll_35 {p : Program} {l : Launch} {e : Env} {s : State} {m : MethodId} {args : Array Value} {below : List Frame} {meth : Method} {c : Code} {G : Ev} {a : Nat → Nat}  {q0 : Pc3} {L : List Nat} {q' : Pc3} {n : Nat} {x1 : Int32} {x2 : Int32} {x3 : Int32} {q : Pc3} {H : Heap} {locs : List Loc} {ls : Array Slot} (X : CX p s m args meth c cX8_makeAll 9 none RX8 (.code yX8_makeAll cX8_makeAll 9 none) G (AL L s.heap.size)) (hD : va_D (AL L s.heap.size) (wM G a q0)) (hm : moM_makeAll_B35 n x1 x2 x3 q = some q') (hP : va_P (DD G) vwCl (wM G a q) H) (hS : va_S (AL L s.heap.size) s.heap H locs) (hl : lv_has ls 9 [(0, .ref (a 0)), (1, .int x1), (2, .int x2), (3, .int x3)]) : W p l e { frames := 3, cells := 0, slots := 0, locals := 72 } s m args below meth c H locs 0 0 (MQ below (va_Qv (fun _ : Unit => True) (fun _ t => va_P (DD G) vwCl (wM G a q') t.heap) (AL L s.heap.size)) args s 0 0 (AL L s.heap.size)) (F0 m 35 ls []) := by
  obtain ⟨⟨hx, hb, hml, hown, hts⟩, hK, hr, hlk, hA, hAs, hSta⟩ := id X
  unfold moM_makeAll_B35 at hm
  refine lv_iload_n hx hb dX8_makeAll_35 rfl (lv_at hl 3 rfl) ?_
  refine lv_istore (lv' := [(4, .int x3), (0, .ref (a 0)), (1, .int x1), (2, .int x2), (3, .int x3)]) hx hb dX8_makeAll_36 hl (by decide) rfl (fun ls hl => ?_)
  refine lpM_makeAll_38 X hD (fun q_39 H locs ls hm hP hS hl => ?_) n _ _ _ _ _ _ _ hm hP hS (lv_sub hl [1, 2, 3, 0] rfl)
  exact ret_v (wf := wM G a) X hm hP hS dX8_makeAll_250
set_option maxHeartbeats 4000000 in
set_option maxRecDepth 100000 in
theorem cM_makeAll {l : Launch} {G : Ev} {a : Nat → Nat} {n : Nat} {q : Pc3} {x1 : Int32} {q' : Pc3} (hm : moM_makeAll n x1 q = some q') : CtV l G yX8_makeAll cX8_makeAll 9 none 3 72 0 0 [.ref (a 0), .int x1] (wM G a q) (wM G a q') := by
  intro sz
  refine enter (by decide) (Nat.le_of_ble_eq_true rfl) ?_
  intro p e s m args below meth c ls X hsz hP hD hS hl
  subst hsz
  obtain ⟨⟨hx, hb, hml, hown, hts⟩, hK, hr, hlk, hA, hAs, hSta⟩ := id X
  have hl : lv_has ls 9 [(0, .ref (a 0)), (1, .int x1)] := hl
  unfold moM_makeAll at hm
  refine lv_iconst (v := 0) hx hb dX8_makeAll_0 (by decide) ?_
  refine lv_istore_n (lv' := [(2, .int 0), (0, .ref (a 0)), (1, .int x1)]) hx hb dX8_makeAll_1 rfl hl (by decide) rfl (fun ls hl => ?_)
  refine lv_aload_n hx hb dX8_makeAll_2 rfl (lv_at hl 1 rfl) ?_
  refine gM_start X hP dX8_makeAll_3 ?_
  refine lv_istore_n (lv' := [(3, .int (rS q 18)), (2, .int 0), (0, .ref (a 0)), (1, .int x1)]) hx hb dX8_makeAll_6 rfl hl (by decide) rfl (fun ls hl => ?_)
  refine lpM_makeAll_7 X hD (fun z5_1 z5_2 z5_3 q_5 H locs ls hm hP hS hl => ?_) n _ _ _ _ _ _ _ hm hP hS (lv_sub hl [2, 3, 1, 0] rfl)
  exact bkM_makeAll_35 X hD hm hP hS (lv_sub hl [0, 1, 2, 3] rfl)

-- thing
def moM_thing_L21 {α : Type} (n : Nat) (K0 : Int32 → Int32 → Pc3 → Option α) : Nat → Int32 → Int32 → Pc3 → Option α
  | 0, _, _, _ => none
  | k + 1, x2, x3, q => (if 12 ≤ x3 then (K0 x2 x3 q) else (gi x3 12 (if (rA q 19 x3) = 0 then (K0 x2 x3 q) else (moM_thing_L21 n K0 k x2 (x3 + 1) q))))
def moM_thing_L88 {α : Type} (n : Nat) (K0 : Int32 → Int32 → Pc3 → Option α) : Nat → Int32 → Int32 → Int32 → Pc3 → Option α
  | 0, _, _, _, _ => none
  | k + 1, x2, x3, x4, q => (if ((3425 * x3) + 3425) ≤ x4 then (K0 x2 x3 q) else (gi x4 41100 (gi x4 41100 (gi x4 41100 (moM_thing_L88 n K0 k x2 x3 (x4 + 1) (sA (sA (sA q 20 x4 0) 21 x4 0) 22 x4 0))))))
def moM_thing_B42 (n : Nat) (x2 : Int32) (x3 : Int32) (q : Pc3) : Option (Int32 × Pc3) :=
  (if 0 < (rS q 0) then (if (rS q 0) ≤ 0 then (some ((-1), q)) else (some (0, q))) else (if x3 = 12 then (if (rS q 0) ≤ 0 then (some ((-1), q)) else (some (0, q))) else (bd1 (moM_readRule n q) fun q_10 => (if (rS q_10 5) ≤ 0 then (moM_thing_L88 n (fun z16_2 z16_3 q_16 => (gi z16_3 12 (bd1 (moM_makeAll n z16_3 (sS (sA q_16 19 z16_3 (vp_nar .boolean 1)) 18 z16_2)) fun q_18 => (some (z16_3, q_18))))) n x2 x3 (3425 * x3) q_10) else (some ((-1), q_10))))))
def moM_thing (n : Nat) (x1 : Int32) (q : Pc3) : Option (Int32 × Pc3) :=
  (bd1 (moM_dayOf n x1 q) fun r_1 => (if 0 ≤ r_1 then (moM_thing_L21 n (fun z6_2 z6_3 q_6 => (moM_thing_B42 n z6_2 z6_3 q_6)) n r_1 0 (sS q 0 0)) else (moM_thing_L21 n (fun z20_2 z20_3 q_20 => (moM_thing_B42 n z20_2 z20_3 q_20)) n r_1 0 (sS q 0 1))))
set_option maxHeartbeats 4000000 in
set_option maxRecDepth 100000 in
theorem lpM_thing_21 {p : Program} {l : Launch} {e : Env} {s : State} {m : MethodId} {args : Array Value} {below : List Frame} {meth : Method} {c : Code} {G : Ev} {a : Nat → Nat} {Q : State → Prop} {A : Nat → Prop} {q0 : Pc3} (X : CX p s m args meth c cX8_thing 5 (some .int) RX8 (.code yX8_thing cX8_thing 5 (some .int)) G A) (hD : va_D A (wM G a q0)) {α : Type} {o : α} {n : Nat} {K0 : Int32 → Int32 → Pc3 → Option α} (h0 : ∀ (y2 : Int32) (y3 : Int32) (q : Pc3) (H : Heap) (locs : List Loc) (ls : Array Slot), K0 y2 y3 q = some o → va_P (DD G) vwCl (wM G a q) H → va_S A s.heap H locs → lv_has ls 5 [(0, .ref (a 0)), (2, .int y2), (3, .int y3)] → W p l e { frames := 7, cells := 0, slots := 0, locals := 160 } s m args below meth c H locs 0 0 Q (F0 m 42 ls [])) : ∀ (k : Nat) (x2 : Int32) (x3 : Int32) (q : Pc3) (H : Heap) (locs : List Loc) (ls : Array Slot), moM_thing_L21 n K0 k x2 x3 q = some o → va_P (DD G) vwCl (wM G a q) H → va_S A s.heap H locs → lv_has ls 5 [(0, .ref (a 0)), (2, .int x2), (3, .int x3)] → W p l e { frames := 7, cells := 0, slots := 0, locals := 160 } s m args below meth c H locs 0 0 Q (F0 m 21 ls []) := by
  obtain ⟨⟨hx, hb, hml, hown, hts⟩, hK, hr, hlk, hA, hAs, hSta⟩ := id X
  intro k
  induction k with
  | zero =>
    intro x2 x3 q H locs ls hm
    have hm : none = some o := hm
    cases hm
  | succ k ih =>
    intro x2 x3 q H locs ls hm hP hS hl
    rw [moM_thing_L21] at hm
    refine lv_iload_n hx hb dX8_thing_21 rfl (lv_at hl 2 rfl) ?_
    refine lv_bipush (v := 12) hx hb dX8_thing_22 (by decide) ?_
    refine lv_icmp_ge (tgt := 42) hx hb dX8_thing_24 (by decide) (fun c_3 => ?_) (fun c_3 => ?_)
    · have hm := (if_pos c_3).symm.trans hm
      exact h0 _ _ _ _ _ _ hm hP hS (lv_sub hl [0, 1, 2] rfl)
    · have hm := (if_neg c_3).symm.trans hm
      refine lv_aload_n hx hb dX8_thing_27 rfl (lv_at hl 0 rfl) ?_
      refine gM_there X hP dX8_thing_28 ?_
      refine lv_iload_n hx hb dX8_thing_31 rfl (lv_at hl 2 rfl) ?_
      obtain ⟨hi_4, hm⟩ := gi_s hm
      refine ldM_there X hP hi_4 dX8_thing_32 ?_
      refine lv_if_eq (tgt := 42) hx hb dX8_thing_33 (by decide) (fun c_5 => ?_) (fun c_5 => ?_)
      · have hm := (if_pos c_5).symm.trans hm
        exact h0 _ _ _ _ _ _ hm hP hS (lv_sub hl [0, 1, 2] rfl)
      · have hm := (if_neg c_5).symm.trans hm
        refine lv_iinc (v := (x3 + 1)) (lv' := [(3, .int (x3 + 1)), (0, .ref (a 0)), (2, .int x2)]) hx hb dX8_thing_36 hl (k := 2) rfl (by first | rfl | decide) (by decide) rfl (fun ls hl => ?_)
        refine lv_goto (tgt := 21) hx hb dX8_thing_39 (by decide) ?_
        exact ih _ _ _ _ _ _ hm hP hS (lv_sub hl [1, 2, 0] rfl)
set_option maxHeartbeats 4000000 in
set_option maxRecDepth 100000 in
theorem lpM_thing_88 {p : Program} {l : Launch} {e : Env} {s : State} {m : MethodId} {args : Array Value} {below : List Frame} {meth : Method} {c : Code} {G : Ev} {a : Nat → Nat} {Q : State → Prop} {A : Nat → Prop} {q0 : Pc3} (X : CX p s m args meth c cX8_thing 5 (some .int) RX8 (.code yX8_thing cX8_thing 5 (some .int)) G A) (hD : va_D A (wM G a q0)) {α : Type} {o : α} {n : Nat} {K0 : Int32 → Int32 → Pc3 → Option α} (h0 : ∀ (y2 : Int32) (y3 : Int32) (q : Pc3) (H : Heap) (locs : List Loc) (ls : Array Slot), K0 y2 y3 q = some o → va_P (DD G) vwCl (wM G a q) H → va_S A s.heap H locs → lv_has ls 5 [(0, .ref (a 0)), (2, .int y2), (3, .int y3)] → W p l e { frames := 7, cells := 0, slots := 0, locals := 160 } s m args below meth c H locs 0 0 Q (F0 m 132 ls [])) : ∀ (k : Nat) (x2 : Int32) (x3 : Int32) (x4 : Int32) (q : Pc3) (H : Heap) (locs : List Loc) (ls : Array Slot), moM_thing_L88 n K0 k x2 x3 x4 q = some o → va_P (DD G) vwCl (wM G a q) H → va_S A s.heap H locs → lv_has ls 5 [(0, .ref (a 0)), (2, .int x2), (3, .int x3), (4, .int x4)] → W p l e { frames := 7, cells := 0, slots := 0, locals := 160 } s m args below meth c H locs 0 0 Q (F0 m 88 ls []) := by
  obtain ⟨⟨hx, hb, hml, hown, hts⟩, hK, hr, hlk, hA, hAs, hSta⟩ := id X
  intro k
  induction k with
  | zero =>
    intro x2 x3 x4 q H locs ls hm
    have hm : none = some o := hm
    cases hm
  | succ k ih =>
    intro x2 x3 x4 q H locs ls hm hP hS hl
    rw [moM_thing_L88] at hm
    refine lv_iload hx hb dX8_thing_88 (lv_at hl 3 rfl) ?_
    refine lv_sipush (v := 3425) hx hb dX8_thing_90 (by decide) ?_
    refine lv_iload_n hx hb dX8_thing_93 rfl (lv_at hl 2 rfl) ?_
    refine lv_imul hx hb dX8_thing_94 ?_
    refine lv_sipush (v := 3425) hx hb dX8_thing_95 (by decide) ?_
    refine lv_iadd hx hb dX8_thing_98 ?_
    refine lv_icmp_ge (tgt := 132) hx hb dX8_thing_99 (by decide) (fun c_12 => ?_) (fun c_12 => ?_)
    · have hm := (if_pos c_12).symm.trans hm
      exact h0 _ _ _ _ _ _ hm hP hS (lv_sub hl [0, 1, 2] rfl)
    · have hm := (if_neg c_12).symm.trans hm
      refine lv_aload_n hx hb dX8_thing_102 rfl (lv_at hl 0 rfl) ?_
      refine gM_rule X hP dX8_thing_103 ?_
      refine lv_iload hx hb dX8_thing_106 (lv_at hl 3 rfl) ?_
      refine lv_iconst (v := 0) hx hb dX8_thing_108 (by decide) ?_
      obtain ⟨hi_13, hm⟩ := gi_s hm
      refine stM_rule X hP (dM hD) hS hi_13 dX8_thing_109 (fun H locs hP hS => ?_)
      refine lv_aload_n hx hb dX8_thing_110 rfl (lv_at hl 0 rfl) ?_
      refine gM_excepted X hP dX8_thing_111 ?_
      refine lv_iload hx hb dX8_thing_114 (lv_at hl 3 rfl) ?_
      refine lv_iconst (v := 0) hx hb dX8_thing_116 (by decide) ?_
      obtain ⟨hi_14, hm⟩ := gi_s hm
      refine stM_excepted X hP (dM hD) hS hi_14 dX8_thing_117 (fun H locs hP hS => ?_)
      refine lv_aload_n hx hb dX8_thing_118 rfl (lv_at hl 0 rfl) ?_
      refine gM_added X hP dX8_thing_119 ?_
      refine lv_iload hx hb dX8_thing_122 (lv_at hl 3 rfl) ?_
      refine lv_iconst (v := 0) hx hb dX8_thing_124 (by decide) ?_
      obtain ⟨hi_15, hm⟩ := gi_s hm
      refine stM_added X hP (dM hD) hS hi_15 dX8_thing_125 (fun H locs hP hS => ?_)
      refine lv_iinc (v := (x4 + 1)) (lv' := [(4, .int (x4 + 1)), (0, .ref (a 0)), (2, .int x2), (3, .int x3)]) hx hb dX8_thing_126 hl (k := 3) rfl (by first | rfl | decide) (by decide) rfl (fun ls hl => ?_)
      refine lv_goto (tgt := 88) hx hb dX8_thing_129 (by decide) ?_
      exact ih _ _ _ _ _ _ _ hm hP hS (lv_sub hl [1, 2, 3, 0] rfl)
set_option maxHeartbeats 4000000 in
set_option maxRecDepth 100000 in
theorem bkM_thing_42 {p : Program} {l : Launch} {e : Env} {s : State} {m : MethodId} {args : Array Value} {below : List Frame} {meth : Method} {c : Code} {G : Ev} {a : Nat → Nat}  {q0 : Pc3} {L : List Nat} {r : Int32} {q' : Pc3} {n : Nat} {x2 : Int32} {x3 : Int32} {q : Pc3} {H : Heap} {locs : List Loc} {ls : Array Slot} (X : CX p s m args meth c cX8_thing 5 (some .int) RX8 (.code yX8_thing cX8_thing 5 (some .int)) G (AL L s.heap.size)) (hD : va_D (AL L s.heap.size) (wM G a q0)) (hm : moM_thing_B42 n x2 x3 q = some (r, q')) (hP : va_P (DD G) vwCl (wM G a q) H) (hS : va_S (AL L s.heap.size) s.heap H locs) (hl : lv_has ls 5 [(0, .ref (a 0)), (2, .int x2), (3, .int x3)]) : W p l e { frames := 7, cells := 0, slots := 0, locals := 160 } s m args below meth c H locs 0 0 (MQ below (va_Qi (fun r' (_ : Unit) => r' = r) (fun _ t => va_P (DD G) vwCl (wM G a q') t.heap) (AL L s.heap.size)) args s 0 0 (AL L s.heap.size)) (F0 m 42 ls []) := by
  obtain ⟨⟨hx, hb, hml, hown, hts⟩, hK, hr, hlk, hA, hAs, hSta⟩ := id X
  unfold moM_thing_B42 at hm
  refine lv_aload_n hx hb dX8_thing_42 rfl (lv_at hl 0 rfl) ?_
  refine gM_thrown X hP dX8_thing_43 ?_
  refine lv_if_gt (tgt := 55) hx hb dX8_thing_46 (by decide) (fun c_7 => ?_) (fun c_7 => ?_)
  · have hm := (if_pos c_7).symm.trans hm
    refine lv_aload_n hx hb dX8_thing_55 rfl (lv_at hl 0 rfl) ?_
    refine gM_thrown X hP dX8_thing_56 ?_
    refine lv_if_le (tgt := 66) hx hb dX8_thing_59 (by decide) (fun c_8 => ?_) (fun c_8 => ?_)
    · have hm := (if_pos c_8).symm.trans hm
      refine lv_iconst (v := (-1)) hx hb dX8_thing_66 (by decide) ?_
      exact ret_i (wf := wM G a) X hm hP hS dX8_thing_67
    · have hm := (if_neg c_8).symm.trans hm
      refine lv_iconst (v := 0) hx hb dX8_thing_62 (by decide) ?_
      refine lv_goto (tgt := 67) hx hb dX8_thing_63 (by decide) ?_
      exact ret_i (wf := wM G a) X hm hP hS dX8_thing_67
  · have hm := (if_neg c_7).symm.trans hm
    refine lv_iload_n hx hb dX8_thing_49 rfl (lv_at hl 2 rfl) ?_
    refine lv_bipush (v := 12) hx hb dX8_thing_50 (by decide) ?_
    refine lv_icmp_ne (tgt := 68) hx hb dX8_thing_52 (by decide) (fun c_9 => ?_) (fun c_9 => ?_)
    · have hm := (if_neg c_9).symm.trans hm
      refine lv_aload_n hx hb dX8_thing_68 rfl (lv_at hl 0 rfl) ?_
      obtain ⟨q_10, e_10, hm⟩ := bd1_s hm
      refine goV_v (n := 0) (C := RX8) X (cM_readRule e_10) (gV kw889 kw891 ks_yX8_readRule kw9 kw892) (by decide +kernel) ⟨by decide, by decide⟩ (rcM hK hP) hP (dM hD) hS rfl rfl hl.1 (Nat.le_of_ble_eq_true rfl) dX8_thing_69 ⟨Nat.le_refl _, Nat.le_refl _⟩ (fun H locs hP _ hS => ?_)
      refine lv_aload_n hx hb dX8_thing_72 rfl (lv_at hl 0 rfl) ?_
      refine gM_fault X hP dX8_thing_73 ?_
      refine lv_if_le (tgt := 81) hx hb dX8_thing_76 (by decide) (fun c_11 => ?_) (fun c_11 => ?_)
      · have hm := (if_pos c_11).symm.trans hm
        refine lv_sipush (v := 3425) hx hb dX8_thing_81 (by decide) ?_
        refine lv_iload_n hx hb dX8_thing_84 rfl (lv_at hl 2 rfl) ?_
        refine lv_imul hx hb dX8_thing_85 ?_
        refine lv_istore (lv' := [(4, .int (3425 * x3)), (0, .ref (a 0)), (2, .int x2), (3, .int x3)]) hx hb dX8_thing_86 hl (by decide) rfl (fun ls hl => ?_)
        refine lpM_thing_88 X hD (fun z16_2 z16_3 q_16 H locs ls hm hP hS hl => ?_) n _ _ _ _ _ _ _ hm hP hS (lv_sub hl [1, 2, 3, 0] rfl)
        refine lv_aload_n hx hb dX8_thing_132 rfl (lv_at hl 0 rfl) ?_
        refine gM_there X hP dX8_thing_133 ?_
        refine lv_iload_n hx hb dX8_thing_136 rfl (lv_at hl 2 rfl) ?_
        refine lv_iconst (v := 1) hx hb dX8_thing_137 (by decide) ?_
        obtain ⟨hi_17, hm⟩ := gi_s hm
        refine stM_there X hP (dM hD) hS hi_17 dX8_thing_138 (fun H locs hP hS => ?_)
        refine lv_aload_n hx hb dX8_thing_139 rfl (lv_at hl 0 rfl) ?_
        refine lv_iload_n hx hb dX8_thing_140 rfl (lv_at hl 1 rfl) ?_
        refine pM_start X hP (dM hD) hS dX8_thing_141 (fun H locs hP hS => ?_)
        refine lv_aload_n hx hb dX8_thing_144 rfl (lv_at hl 0 rfl) ?_
        refine lv_iload_n hx hb dX8_thing_145 rfl (lv_at hl 2 rfl) ?_
        obtain ⟨q_18, e_18, hm⟩ := bd1_s hm
        refine goV_v (n := 1) (C := RX8) X (cM_makeAll e_18) (gV kw964 kw966 ks_yX8_makeAll kw9 kw967) (by decide +kernel) ⟨by decide, by decide⟩ (rcM hK hP) hP (dM hD) hS rfl rfl hl.1 (Nat.le_of_ble_eq_true rfl) dX8_thing_146 ⟨Nat.le_refl _, Nat.le_refl _⟩ (fun H locs hP _ hS => ?_)
        refine lv_iload_n hx hb dX8_thing_149 rfl (lv_at hl 2 rfl) ?_
        exact ret_i (wf := wM G a) X hm hP hS dX8_thing_150
      · have hm := (if_neg c_11).symm.trans hm
        refine lv_iconst (v := (-1)) hx hb dX8_thing_79 (by decide) ?_
        exact ret_i (wf := wM G a) X hm hP hS dX8_thing_80
    · have hm := (if_pos c_9).symm.trans hm
      refine lv_aload_n hx hb dX8_thing_55 rfl (lv_at hl 0 rfl) ?_
      refine gM_thrown X hP dX8_thing_56 ?_
      refine lv_if_le (tgt := 66) hx hb dX8_thing_59 (by decide) (fun c_19 => ?_) (fun c_19 => ?_)
      · have hm := (if_pos c_19).symm.trans hm
        refine lv_iconst (v := (-1)) hx hb dX8_thing_66 (by decide) ?_
        exact ret_i (wf := wM G a) X hm hP hS dX8_thing_67
      · have hm := (if_neg c_19).symm.trans hm
        refine lv_iconst (v := 0) hx hb dX8_thing_62 (by decide) ?_
        refine lv_goto (tgt := 67) hx hb dX8_thing_63 (by decide) ?_
        exact ret_i (wf := wM G a) X hm hP hS dX8_thing_67
set_option maxHeartbeats 4000000 in
set_option maxRecDepth 100000 in
theorem cM_thing {l : Launch} {G : Ev} {a : Nat → Nat} {n : Nat} {q : Pc3} {x1 : Int32} {r : Int32} {q' : Pc3} (hm : moM_thing n x1 q = some (r, q')) : CtI l G yX8_thing cX8_thing 5 (some .int) 7 160 0 0 [.ref (a 0), .int x1] (wM G a q) (wM G a q') r := by
  intro sz
  refine enter (by decide) (Nat.le_of_ble_eq_true rfl) ?_
  intro p e s m args below meth c ls X hsz hP hD hS hl
  subst hsz
  obtain ⟨⟨hx, hb, hml, hown, hts⟩, hK, hr, hlk, hA, hAs, hSta⟩ := id X
  have hl : lv_has ls 5 [(0, .ref (a 0)), (1, .int x1)] := hl
  unfold moM_thing at hm
  refine lv_aload_n hx hb dX8_thing_0 rfl (lv_at hl 0 rfl) ?_
  refine lv_iload_n hx hb dX8_thing_1 rfl (lv_at hl 1 rfl) ?_
  obtain ⟨r_1, e_1, hm⟩ := bd1_s hm
  refine goV_i (n := 1) (C := RX8) X (cM_dayOf e_1) (gV kw885 kw887 ks_yX8_dayOf kw9 kw888) (by decide +kernel) ⟨by decide, by decide⟩ (rcM hK hP) hP (dM hD) hS rfl rfl hl.1 (Nat.le_of_ble_eq_true rfl) dX8_thing_2 ⟨Nat.le_refl _, Nat.le_refl _⟩ (fun H locs hP _ hS => ?_)
  refine lv_istore_n (lv' := [(2, .int r_1), (0, .ref (a 0)), (1, .int x1)]) hx hb dX8_thing_5 rfl hl (by decide) rfl (fun ls hl => ?_)
  refine lv_aload_n hx hb dX8_thing_6 rfl (lv_at hl 1 rfl) ?_
  refine lv_iload_n hx hb dX8_thing_7 rfl (lv_at hl 0 rfl) ?_
  refine lv_if_ge (tgt := 15) hx hb dX8_thing_8 (by decide) (fun c_2 => ?_) (fun c_2 => ?_)
  · have hm := (if_pos c_2).symm.trans hm
    refine lv_iconst (v := 0) hx hb dX8_thing_15 (by decide) ?_
    refine pM_thrown X hP (dM hD) hS dX8_thing_16 (fun H locs hP hS => ?_)
    refine lv_iconst (v := 0) hx hb dX8_thing_19 (by decide) ?_
    refine lv_istore_n (lv' := [(3, .int 0), (2, .int r_1), (0, .ref (a 0)), (1, .int x1)]) hx hb dX8_thing_20 rfl hl (by decide) rfl (fun ls hl => ?_)
    refine lpM_thing_21 X hD (fun z6_2 z6_3 q_6 H locs ls hm hP hS hl => ?_) n _ _ _ _ _ _ hm hP hS (lv_sub hl [2, 1, 0] rfl)
    exact bkM_thing_42 X hD hm hP hS (lv_sub hl [0, 1, 2] rfl)
  · have hm := (if_neg c_2).symm.trans hm
    refine lv_iconst (v := 1) hx hb dX8_thing_11 (by decide) ?_
    refine lv_goto (tgt := 16) hx hb dX8_thing_12 (by decide) ?_
    refine pM_thrown X hP (dM hD) hS dX8_thing_16 (fun H locs hP hS => ?_)
    refine lv_iconst (v := 0) hx hb dX8_thing_19 (by decide) ?_
    refine lv_istore_n (lv' := [(3, .int 0), (2, .int r_1), (0, .ref (a 0)), (1, .int x1)]) hx hb dX8_thing_20 rfl hl (by decide) rfl (fun ls hl => ?_)
    refine lpM_thing_21 X hD (fun z20_2 z20_3 q_20 H locs ls hm hP hS hl => ?_) n _ _ _ _ _ _ hm hP hS (lv_sub hl [2, 1, 0] rfl)
    exact bkM_thing_42 X hD hm hP hS (lv_sub hl [0, 1, 2] rfl)

-- fault
def moM_fault (n : Nat) (q : Pc3) : Option (Int32 × Pc3) :=
  (some ((rS (sS q 0 0) 5), (sS q 0 0)))
set_option maxHeartbeats 4000000 in
set_option maxRecDepth 100000 in
theorem cM_fault {l : Launch} {G : Ev} {a : Nat → Nat} {n : Nat} {q : Pc3} {r : Int32} {q' : Pc3} (hm : moM_fault n q = some (r, q')) : CtI l G yX8_fault cX8_fault 1 (some .int) 0 0 0 0 [.ref (a 0)] (wM G a q) (wM G a q') r := by
  intro sz
  refine enter (by decide) (Nat.le_of_ble_eq_true rfl) ?_
  intro p e s m args below meth c ls X hsz hP hD hS hl
  subst hsz
  obtain ⟨⟨hx, hb, hml, hown, hts⟩, hK, hr, hlk, hA, hAs, hSta⟩ := id X
  have hl : lv_has ls 1 [(0, .ref (a 0))] := hl
  unfold moM_fault at hm
  refine lv_aload_n hx hb dX8_fault_0 rfl (lv_at hl 0 rfl) ?_
  refine lv_iconst (v := 0) hx hb dX8_fault_1 (by decide) ?_
  refine pM_thrown X hP (dM hD) hS dX8_fault_2 (fun H locs hP hS => ?_)
  refine lv_aload_n hx hb dX8_fault_5 rfl (lv_at hl 0 rfl) ?_
  refine gM_fault X hP dX8_fault_6 ?_
  exact ret_i (wf := wM G a) X hm hP hS dX8_fault_9

-- place
def moM_place (n : Nat) (q : Pc3) : Option (Int32 × Pc3) :=
  (some ((rS (sS q 0 0) 6), (sS q 0 0)))
set_option maxHeartbeats 4000000 in
set_option maxRecDepth 100000 in
theorem cM_place {l : Launch} {G : Ev} {a : Nat → Nat} {n : Nat} {q : Pc3} {r : Int32} {q' : Pc3} (hm : moM_place n q = some (r, q')) : CtI l G yX8_place cX8_place 1 (some .int) 0 0 0 0 [.ref (a 0)] (wM G a q) (wM G a q') r := by
  intro sz
  refine enter (by decide) (Nat.le_of_ble_eq_true rfl) ?_
  intro p e s m args below meth c ls X hsz hP hD hS hl
  subst hsz
  obtain ⟨⟨hx, hb, hml, hown, hts⟩, hK, hr, hlk, hA, hAs, hSta⟩ := id X
  have hl : lv_has ls 1 [(0, .ref (a 0))] := hl
  unfold moM_place at hm
  refine lv_aload_n hx hb dX8_place_0 rfl (lv_at hl 0 rfl) ?_
  refine lv_iconst (v := 0) hx hb dX8_place_1 (by decide) ?_
  refine pM_thrown X hP (dM hD) hS dX8_place_2 (fun H locs hP hS => ?_)
  refine lv_aload_n hx hb dX8_place_5 rfl (lv_at hl 0 rfl) ?_
  refine gM_place X hP dX8_place_6 ?_
  exact ret_i (wf := wM G a) X hm hP hS dX8_place_9

-- noThing
def moM_noThing (n : Nat) (x1 : Int32) (q : Pc3) : Option (Int32) :=
  (if x1 < 0 then (some 1) else (if 12 ≤ x1 then (some 1) else (gi x1 12 (if (rA q 19 x1) = 0 then (some 1) else (some 0)))))
set_option maxHeartbeats 4000000 in
set_option maxRecDepth 100000 in
theorem cM_noThing {l : Launch} {G : Ev} {a : Nat → Nat} {n : Nat} {q : Pc3} {x1 : Int32} {r : Int32} (hm : moM_noThing n x1 q = some r) : CtI l G yX8_noThing cX8_noThing 2 (some .boolean) 0 0 0 0 [.ref (a 0), .int x1] (wM G a q) (wM G a q) r := by
  intro sz
  refine enter (by decide) (Nat.le_of_ble_eq_true rfl) ?_
  intro p e s m args below meth c ls X hsz hP hD hS hl
  subst hsz
  obtain ⟨⟨hx, hb, hml, hown, hts⟩, hK, hr, hlk, hA, hAs, hSta⟩ := id X
  have hl : lv_has ls 2 [(0, .ref (a 0)), (1, .int x1)] := hl
  unfold moM_noThing at hm
  refine lv_iload_n hx hb dX8_noThing_0 rfl (lv_at hl 1 rfl) ?_
  refine lv_if_lt (tgt := 19) hx hb dX8_noThing_1 (by decide) (fun c_1 => ?_) (fun c_1 => ?_)
  · have hm := (if_pos c_1).symm.trans hm
    refine lv_iconst (v := 1) hx hb dX8_noThing_19 (by decide) ?_
    refine lv_goto (tgt := 24) hx hb dX8_noThing_20 (by decide) ?_
    exact ret_zo (wf := wM G a) X (by decide) hm hP hS dX8_noThing_24
  · have hm := (if_neg c_1).symm.trans hm
    refine lv_iload_n hx hb dX8_noThing_4 rfl (lv_at hl 1 rfl) ?_
    refine lv_bipush (v := 12) hx hb dX8_noThing_5 (by decide) ?_
    refine lv_icmp_ge (tgt := 19) hx hb dX8_noThing_7 (by decide) (fun c_2 => ?_) (fun c_2 => ?_)
    · have hm := (if_pos c_2).symm.trans hm
      refine lv_iconst (v := 1) hx hb dX8_noThing_19 (by decide) ?_
      refine lv_goto (tgt := 24) hx hb dX8_noThing_20 (by decide) ?_
      exact ret_zo (wf := wM G a) X (by decide) hm hP hS dX8_noThing_24
    · have hm := (if_neg c_2).symm.trans hm
      refine lv_aload_n hx hb dX8_noThing_10 rfl (lv_at hl 0 rfl) ?_
      refine gM_there X hP dX8_noThing_11 ?_
      refine lv_iload_n hx hb dX8_noThing_14 rfl (lv_at hl 1 rfl) ?_
      obtain ⟨hi_3, hm⟩ := gi_s hm
      refine ldM_there X hP hi_3 dX8_noThing_15 ?_
      refine lv_if_ne (tgt := 23) hx hb dX8_noThing_16 (by decide) (fun c_4 => ?_) (fun c_4 => ?_)
      · have hm := (if_neg c_4).symm.trans hm
        refine lv_iconst (v := 0) hx hb dX8_noThing_23 (by decide) ?_
        exact ret_zo (wf := wM G a) X (by decide) hm hP hS dX8_noThing_24
      · have hm := (if_pos c_4).symm.trans hm
        refine lv_iconst (v := 1) hx hb dX8_noThing_19 (by decide) ?_
        refine lv_goto (tgt := 24) hx hb dX8_noThing_20 (by decide) ?_
        exact ret_zo (wf := wM G a) X (by decide) hm hP hS dX8_noThing_24

-- drop
def moM_drop (n : Nat) (x1 : Int32) (q : Pc3) : Option (Pc3) :=
  (bd1 (moM_noThing n x1 q) fun r_1 => (if r_1 = 0 then (if (rS (sS q 0 0) 0) = 0 then (gi x1 12 (some (sA (sS q 0 0) 19 x1 (vp_nar .boolean 0)))) else (some (sS q 0 0))) else (if (rS (sS q 0 1) 0) = 0 then (gi x1 12 (some (sA (sS q 0 1) 19 x1 (vp_nar .boolean 0)))) else (some (sS q 0 1)))))
set_option maxHeartbeats 4000000 in
set_option maxRecDepth 100000 in
theorem cM_drop {l : Launch} {G : Ev} {a : Nat → Nat} {n : Nat} {q : Pc3} {x1 : Int32} {q' : Pc3} (hm : moM_drop n x1 q = some q') : CtV l G yX8_drop cX8_drop 2 none 1 21 0 0 [.ref (a 0), .int x1] (wM G a q) (wM G a q') := by
  intro sz
  refine enter (by decide) (Nat.le_of_ble_eq_true rfl) ?_
  intro p e s m args below meth c ls X hsz hP hD hS hl
  subst hsz
  obtain ⟨⟨hx, hb, hml, hown, hts⟩, hK, hr, hlk, hA, hAs, hSta⟩ := id X
  have hl : lv_has ls 2 [(0, .ref (a 0)), (1, .int x1)] := hl
  unfold moM_drop at hm
  refine lv_aload_n hx hb dX8_drop_0 rfl (lv_at hl 0 rfl) ?_
  refine lv_aload_n hx hb dX8_drop_1 rfl (lv_at hl 0 rfl) ?_
  refine lv_iload_n hx hb dX8_drop_2 rfl (lv_at hl 1 rfl) ?_
  obtain ⟨r_1, e_1, hm⟩ := bd1_s hm
  refine goV_i (n := 1) (C := RX8) X (cM_noThing e_1) (gV kw1008 kw1010 ks_yX8_noThing kw9 kw1011) (by decide +kernel) ⟨by decide, by decide⟩ (rcM hK hP) hP (dM hD) hS rfl rfl hl.1 (Nat.le_of_ble_eq_true rfl) dX8_drop_3 ⟨Nat.le_refl _, Nat.le_refl _⟩ (fun H locs hP _ hS => ?_)
  refine lv_if_eq (tgt := 13) hx hb dX8_drop_6 (by decide) (fun c_2 => ?_) (fun c_2 => ?_)
  · have hm := (if_pos c_2).symm.trans hm
    refine lv_iconst (v := 0) hx hb dX8_drop_13 (by decide) ?_
    refine pM_thrown X hP (dM hD) hS dX8_drop_14 (fun H locs hP hS => ?_)
    refine lv_aload_n hx hb dX8_drop_17 rfl (lv_at hl 0 rfl) ?_
    refine gM_thrown X hP dX8_drop_18 ?_
    refine lv_if_ne (tgt := 31) hx hb dX8_drop_21 (by decide) (fun c_3 => ?_) (fun c_3 => ?_)
    · have hm := (if_neg c_3).symm.trans hm
      exact ret_v (wf := wM G a) X hm hP hS dX8_drop_31
    · have hm := (if_pos c_3).symm.trans hm
      refine lv_aload_n hx hb dX8_drop_24 rfl (lv_at hl 0 rfl) ?_
      refine gM_there X hP dX8_drop_25 ?_
      refine lv_iload_n hx hb dX8_drop_28 rfl (lv_at hl 1 rfl) ?_
      refine lv_iconst (v := 0) hx hb dX8_drop_29 (by decide) ?_
      obtain ⟨hi_4, hm⟩ := gi_s hm
      refine stM_there X hP (dM hD) hS hi_4 dX8_drop_30 (fun H locs hP hS => ?_)
      exact ret_v (wf := wM G a) X hm hP hS dX8_drop_31
  · have hm := (if_neg c_2).symm.trans hm
    refine lv_iconst (v := 1) hx hb dX8_drop_9 (by decide) ?_
    refine lv_goto (tgt := 14) hx hb dX8_drop_10 (by decide) ?_
    refine pM_thrown X hP (dM hD) hS dX8_drop_14 (fun H locs hP hS => ?_)
    refine lv_aload_n hx hb dX8_drop_17 rfl (lv_at hl 0 rfl) ?_
    refine gM_thrown X hP dX8_drop_18 ?_
    refine lv_if_ne (tgt := 31) hx hb dX8_drop_21 (by decide) (fun c_5 => ?_) (fun c_5 => ?_)
    · have hm := (if_neg c_5).symm.trans hm
      exact ret_v (wf := wM G a) X hm hP hS dX8_drop_31
    · have hm := (if_pos c_5).symm.trans hm
      refine lv_aload_n hx hb dX8_drop_24 rfl (lv_at hl 0 rfl) ?_
      refine gM_there X hP dX8_drop_25 ?_
      refine lv_iload_n hx hb dX8_drop_28 rfl (lv_at hl 1 rfl) ?_
      refine lv_iconst (v := 0) hx hb dX8_drop_29 (by decide) ?_
      obtain ⟨hi_6, hm⟩ := gi_s hm
      refine stM_there X hP (dM hD) hS hi_6 dX8_drop_30 (fun H locs hP hS => ?_)
      exact ret_v (wf := wM G a) X hm hP hS dX8_drop_31

-- except
def moM_except (n : Nat) (x1 : Int32) (x2 : Int32) (x3 : Int32) (q : Pc3) : Option (Int32 × Pc3) :=
  (bd1 (moM_dayOf n x2 q) fun r_1 => (bd1 (moM_noThing n x1 q) fun r_2 => (if r_2 = 0 then (if 0 ≤ r_1 then (if (rS (sS q 0 0) 0) ≤ 0 then (bd1 (moB_hasBit n x1 r_1 (pB ((sS q 0 0).2.1 21))) fun r_6 => (bd1 (moB_setBit n x1 r_1 x3 (pB ((sS q 0 0).2.1 21))) fun f_7 => (gb r_6 (some (r_6, (sF (sS q 0 0) 21 (f_7.2.1 0))))))) else (some (0, (sS q 0 0)))) else (if (rS (sS q 0 2) 0) ≤ 0 then (bd1 (moB_hasBit n x1 r_1 (pB ((sS q 0 2).2.1 21))) fun r_10 => (bd1 (moB_setBit n x1 r_1 x3 (pB ((sS q 0 2).2.1 21))) fun f_11 => (gb r_10 (some (r_10, (sF (sS q 0 2) 21 (f_11.2.1 0))))))) else (some (0, (sS q 0 2))))) else (if (rS (sS q 0 1) 0) ≤ 0 then (bd1 (moB_hasBit n x1 r_1 (pB ((sS q 0 1).2.1 21))) fun r_14 => (bd1 (moB_setBit n x1 r_1 x3 (pB ((sS q 0 1).2.1 21))) fun f_15 => (gb r_14 (some (r_14, (sF (sS q 0 1) 21 (f_15.2.1 0))))))) else (some (0, (sS q 0 1)))))))
set_option maxHeartbeats 4000000 in
set_option maxRecDepth 100000 in
theorem cM_except {l : Launch} {G : Ev} {a : Nat → Nat} {n : Nat} {q : Pc3} {x1 : Int32} {x2 : Int32} {x3 : Int32} {r : Int32} {q' : Pc3} (hm : moM_except n x1 x2 x3 q = some (r, q')) : CtI l G yX8_except cX8_except 6 (some .boolean) 1 25 0 0 [.ref (a 0), .int x1, .int x2, .int x3] (wM G a q) (wM G a q') r := by
  intro sz
  refine enter (by decide) (Nat.le_of_ble_eq_true rfl) ?_
  intro p e s m args below meth c ls X hsz hP hD hS hl
  subst hsz
  obtain ⟨⟨hx, hb, hml, hown, hts⟩, hK, hr, hlk, hA, hAs, hSta⟩ := id X
  have hl : lv_has ls 6 [(0, .ref (a 0)), (1, .int x1), (2, .int x2), (3, .int x3)] := hl
  unfold moM_except at hm
  refine lv_aload_n hx hb dX8_except_0 rfl (lv_at hl 0 rfl) ?_
  refine lv_iload_n hx hb dX8_except_1 rfl (lv_at hl 2 rfl) ?_
  obtain ⟨r_1, e_1, hm⟩ := bd1_s hm
  refine goV_i (n := 1) (C := RX8) X (cM_dayOf e_1) (gV kw885 kw887 ks_yX8_dayOf kw9 kw888) (by decide +kernel) ⟨by decide, by decide⟩ (rcM hK hP) hP (dM hD) hS rfl rfl hl.1 (Nat.le_of_ble_eq_true rfl) dX8_except_2 ⟨Nat.le_refl _, Nat.le_refl _⟩ (fun H locs hP _ hS => ?_)
  refine lv_istore (lv' := [(4, .int r_1), (0, .ref (a 0)), (1, .int x1), (2, .int x2), (3, .int x3)]) hx hb dX8_except_5 hl (by decide) rfl (fun ls hl => ?_)
  refine lv_aload_n hx hb dX8_except_7 rfl (lv_at hl 1 rfl) ?_
  refine lv_aload_n hx hb dX8_except_8 rfl (lv_at hl 1 rfl) ?_
  refine lv_iload_n hx hb dX8_except_9 rfl (lv_at hl 2 rfl) ?_
  obtain ⟨r_2, e_2, hm⟩ := bd1_s hm
  refine goV_i (n := 1) (C := RX8) X (cM_noThing e_2) (gV kw1008 kw1010 ks_yX8_noThing kw9 kw1011) (by decide +kernel) ⟨by decide, by decide⟩ (rcM hK hP) hP (dM hD) hS rfl rfl hl.1 (Nat.le_of_ble_eq_true rfl) dX8_except_10 ⟨Nat.le_refl _, Nat.le_refl _⟩ (fun H locs hP _ hS => ?_)
  refine lv_if_eq (tgt := 20) hx hb dX8_except_13 (by decide) (fun c_3 => ?_) (fun c_3 => ?_)
  · have hm := (if_pos c_3).symm.trans hm
    refine lv_iload hx hb dX8_except_20 (lv_at hl 0 rfl) ?_
    refine lv_if_ge (tgt := 29) hx hb dX8_except_22 (by decide) (fun c_4 => ?_) (fun c_4 => ?_)
    · have hm := (if_pos c_4).symm.trans hm
      refine lv_iconst (v := 0) hx hb dX8_except_29 (by decide) ?_
      refine pM_thrown X hP (dM hD) hS dX8_except_30 (fun H locs hP hS => ?_)
      refine lv_aload_n hx hb dX8_except_33 rfl (lv_at hl 1 rfl) ?_
      refine gM_thrown X hP dX8_except_34 ?_
      refine lv_if_le (tgt := 42) hx hb dX8_except_37 (by decide) (fun c_5 => ?_) (fun c_5 => ?_)
      · have hm := (if_pos c_5).symm.trans hm
        refine lv_aload_n hx hb dX8_except_42 rfl (lv_at hl 1 rfl) ?_
        refine lv_aload_n hx hb dX8_except_43 rfl (lv_at hl 1 rfl) ?_
        refine gM_excepted X hP dX8_except_44 ?_
        refine lv_iload_n hx hb dX8_except_47 rfl (lv_at hl 2 rfl) ?_
        refine lv_iload hx hb dX8_except_48 (lv_at hl 0 rfl) ?_
        obtain ⟨r_6, e_6, hm⟩ := bd1_s hm
        refine goV_i (n := 3) (C := RX8) X (cB_hasBit (a := (fun j => if j = 0 then a 21 else a 0)) e_6) (gV kw1016 kw1018 ks_yX8_hasBit kw9 kw1019) (by decide +kernel) ⟨by decide, by decide⟩ (rcM hK hP) (hP.sub (ws' := (wB G (fun j => if j = 0 then a 21 else a 0) (pB ((sS q 0 0).2.1 21)))) [11] rfl) ((dM hD : va_D _ (wM G a (sS q 0 0))).sub (ws' := (wB G (fun j => if j = 0 then a 21 else a 0) (pB ((sS q 0 0).2.1 21)))) [11] (by decide) rfl) hS rfl rfl hl.1 (Nat.le_of_ble_eq_true rfl) dX8_except_50 ⟨Nat.le_refl _, Nat.le_refl _⟩ (fun H locs hP1 hk hS => ?_)
        have hP := bkMr_excepted hP (dM hD) hk hP1
        refine lv_istore (lv' := [(5, .int r_6), (4, .int r_1), (0, .ref (a 0)), (1, .int x1), (2, .int x2), (3, .int x3)]) hx hb dX8_except_53 hl (by decide) rfl (fun ls hl => ?_)
        refine lv_aload_n hx hb dX8_except_55 rfl (lv_at hl 2 rfl) ?_
        refine lv_aload_n hx hb dX8_except_56 rfl (lv_at hl 2 rfl) ?_
        refine gM_excepted X hP dX8_except_57 ?_
        refine lv_iload_n hx hb dX8_except_60 rfl (lv_at hl 3 rfl) ?_
        refine lv_iload hx hb dX8_except_61 (lv_at hl 1 rfl) ?_
        refine lv_iload_n hx hb dX8_except_63 rfl (lv_at hl 5 rfl) ?_
        obtain ⟨f_7, e_7, hm⟩ := bd1_s hm
        refine goV_v (n := 4) (C := RX8) X (cB_setBit (a := (fun j => if j = 0 then a 21 else a 0)) e_7) (gV kw992 kw994 ks_yX8_setBit kw9 kw995) (by decide +kernel) ⟨by decide, by decide⟩ (rcM hK hP) (hP.sub (ws' := (wB G (fun j => if j = 0 then a 21 else a 0) (pB ((sS q 0 0).2.1 21)))) [11] rfl) ((dM hD : va_D _ (wM G a (sS q 0 0))).sub (ws' := (wB G (fun j => if j = 0 then a 21 else a 0) (pB ((sS q 0 0).2.1 21)))) [11] (by decide) rfl) hS rfl rfl hl.1 (Nat.le_of_ble_eq_true rfl) dX8_except_64 ⟨Nat.le_refl _, Nat.le_refl _⟩ (fun H locs hP1 hk hS => ?_)
        have hP := bkM_excepted (f := f_7.2.1 0) hP (dM hD) hk hP1
        refine lv_iload hx hb dX8_except_67 (lv_at hl 0 rfl) ?_
        obtain ⟨hz_8, hm⟩ := gb_s hm
        exact ret_z (wf := wM G a) X hz_8 hm hP hS dX8_except_69
      · have hm := (if_neg c_5).symm.trans hm
        refine lv_iconst (v := 0) hx hb dX8_except_40 (by decide) ?_
        exact ret_z (wf := wM G a) X (by decide) hm hP hS dX8_except_41
    · have hm := (if_neg c_4).symm.trans hm
      refine lv_iconst (v := 2) hx hb dX8_except_25 (by decide) ?_
      refine lv_goto (tgt := 30) hx hb dX8_except_26 (by decide) ?_
      refine pM_thrown X hP (dM hD) hS dX8_except_30 (fun H locs hP hS => ?_)
      refine lv_aload_n hx hb dX8_except_33 rfl (lv_at hl 1 rfl) ?_
      refine gM_thrown X hP dX8_except_34 ?_
      refine lv_if_le (tgt := 42) hx hb dX8_except_37 (by decide) (fun c_9 => ?_) (fun c_9 => ?_)
      · have hm := (if_pos c_9).symm.trans hm
        refine lv_aload_n hx hb dX8_except_42 rfl (lv_at hl 1 rfl) ?_
        refine lv_aload_n hx hb dX8_except_43 rfl (lv_at hl 1 rfl) ?_
        refine gM_excepted X hP dX8_except_44 ?_
        refine lv_iload_n hx hb dX8_except_47 rfl (lv_at hl 2 rfl) ?_
        refine lv_iload hx hb dX8_except_48 (lv_at hl 0 rfl) ?_
        obtain ⟨r_10, e_10, hm⟩ := bd1_s hm
        refine goV_i (n := 3) (C := RX8) X (cB_hasBit (a := (fun j => if j = 0 then a 21 else a 0)) e_10) (gV kw1016 kw1018 ks_yX8_hasBit kw9 kw1019) (by decide +kernel) ⟨by decide, by decide⟩ (rcM hK hP) (hP.sub (ws' := (wB G (fun j => if j = 0 then a 21 else a 0) (pB ((sS q 0 2).2.1 21)))) [11] rfl) ((dM hD : va_D _ (wM G a (sS q 0 2))).sub (ws' := (wB G (fun j => if j = 0 then a 21 else a 0) (pB ((sS q 0 2).2.1 21)))) [11] (by decide) rfl) hS rfl rfl hl.1 (Nat.le_of_ble_eq_true rfl) dX8_except_50 ⟨Nat.le_refl _, Nat.le_refl _⟩ (fun H locs hP1 hk hS => ?_)
        have hP := bkMr_excepted hP (dM hD) hk hP1
        refine lv_istore (lv' := [(5, .int r_10), (4, .int r_1), (0, .ref (a 0)), (1, .int x1), (2, .int x2), (3, .int x3)]) hx hb dX8_except_53 hl (by decide) rfl (fun ls hl => ?_)
        refine lv_aload_n hx hb dX8_except_55 rfl (lv_at hl 2 rfl) ?_
        refine lv_aload_n hx hb dX8_except_56 rfl (lv_at hl 2 rfl) ?_
        refine gM_excepted X hP dX8_except_57 ?_
        refine lv_iload_n hx hb dX8_except_60 rfl (lv_at hl 3 rfl) ?_
        refine lv_iload hx hb dX8_except_61 (lv_at hl 1 rfl) ?_
        refine lv_iload_n hx hb dX8_except_63 rfl (lv_at hl 5 rfl) ?_
        obtain ⟨f_11, e_11, hm⟩ := bd1_s hm
        refine goV_v (n := 4) (C := RX8) X (cB_setBit (a := (fun j => if j = 0 then a 21 else a 0)) e_11) (gV kw992 kw994 ks_yX8_setBit kw9 kw995) (by decide +kernel) ⟨by decide, by decide⟩ (rcM hK hP) (hP.sub (ws' := (wB G (fun j => if j = 0 then a 21 else a 0) (pB ((sS q 0 2).2.1 21)))) [11] rfl) ((dM hD : va_D _ (wM G a (sS q 0 2))).sub (ws' := (wB G (fun j => if j = 0 then a 21 else a 0) (pB ((sS q 0 2).2.1 21)))) [11] (by decide) rfl) hS rfl rfl hl.1 (Nat.le_of_ble_eq_true rfl) dX8_except_64 ⟨Nat.le_refl _, Nat.le_refl _⟩ (fun H locs hP1 hk hS => ?_)
        have hP := bkM_excepted (f := f_11.2.1 0) hP (dM hD) hk hP1
        refine lv_iload hx hb dX8_except_67 (lv_at hl 0 rfl) ?_
        obtain ⟨hz_12, hm⟩ := gb_s hm
        exact ret_z (wf := wM G a) X hz_12 hm hP hS dX8_except_69
      · have hm := (if_neg c_9).symm.trans hm
        refine lv_iconst (v := 0) hx hb dX8_except_40 (by decide) ?_
        exact ret_z (wf := wM G a) X (by decide) hm hP hS dX8_except_41
  · have hm := (if_neg c_3).symm.trans hm
    refine lv_iconst (v := 1) hx hb dX8_except_16 (by decide) ?_
    refine lv_goto (tgt := 30) hx hb dX8_except_17 (by decide) ?_
    refine pM_thrown X hP (dM hD) hS dX8_except_30 (fun H locs hP hS => ?_)
    refine lv_aload_n hx hb dX8_except_33 rfl (lv_at hl 1 rfl) ?_
    refine gM_thrown X hP dX8_except_34 ?_
    refine lv_if_le (tgt := 42) hx hb dX8_except_37 (by decide) (fun c_13 => ?_) (fun c_13 => ?_)
    · have hm := (if_pos c_13).symm.trans hm
      refine lv_aload_n hx hb dX8_except_42 rfl (lv_at hl 1 rfl) ?_
      refine lv_aload_n hx hb dX8_except_43 rfl (lv_at hl 1 rfl) ?_
      refine gM_excepted X hP dX8_except_44 ?_
      refine lv_iload_n hx hb dX8_except_47 rfl (lv_at hl 2 rfl) ?_
      refine lv_iload hx hb dX8_except_48 (lv_at hl 0 rfl) ?_
      obtain ⟨r_14, e_14, hm⟩ := bd1_s hm
      refine goV_i (n := 3) (C := RX8) X (cB_hasBit (a := (fun j => if j = 0 then a 21 else a 0)) e_14) (gV kw1016 kw1018 ks_yX8_hasBit kw9 kw1019) (by decide +kernel) ⟨by decide, by decide⟩ (rcM hK hP) (hP.sub (ws' := (wB G (fun j => if j = 0 then a 21 else a 0) (pB ((sS q 0 1).2.1 21)))) [11] rfl) ((dM hD : va_D _ (wM G a (sS q 0 1))).sub (ws' := (wB G (fun j => if j = 0 then a 21 else a 0) (pB ((sS q 0 1).2.1 21)))) [11] (by decide) rfl) hS rfl rfl hl.1 (Nat.le_of_ble_eq_true rfl) dX8_except_50 ⟨Nat.le_refl _, Nat.le_refl _⟩ (fun H locs hP1 hk hS => ?_)
      have hP := bkMr_excepted hP (dM hD) hk hP1
      refine lv_istore (lv' := [(5, .int r_14), (4, .int r_1), (0, .ref (a 0)), (1, .int x1), (2, .int x2), (3, .int x3)]) hx hb dX8_except_53 hl (by decide) rfl (fun ls hl => ?_)
      refine lv_aload_n hx hb dX8_except_55 rfl (lv_at hl 2 rfl) ?_
      refine lv_aload_n hx hb dX8_except_56 rfl (lv_at hl 2 rfl) ?_
      refine gM_excepted X hP dX8_except_57 ?_
      refine lv_iload_n hx hb dX8_except_60 rfl (lv_at hl 3 rfl) ?_
      refine lv_iload hx hb dX8_except_61 (lv_at hl 1 rfl) ?_
      refine lv_iload_n hx hb dX8_except_63 rfl (lv_at hl 5 rfl) ?_
      obtain ⟨f_15, e_15, hm⟩ := bd1_s hm
      refine goV_v (n := 4) (C := RX8) X (cB_setBit (a := (fun j => if j = 0 then a 21 else a 0)) e_15) (gV kw992 kw994 ks_yX8_setBit kw9 kw995) (by decide +kernel) ⟨by decide, by decide⟩ (rcM hK hP) (hP.sub (ws' := (wB G (fun j => if j = 0 then a 21 else a 0) (pB ((sS q 0 1).2.1 21)))) [11] rfl) ((dM hD : va_D _ (wM G a (sS q 0 1))).sub (ws' := (wB G (fun j => if j = 0 then a 21 else a 0) (pB ((sS q 0 1).2.1 21)))) [11] (by decide) rfl) hS rfl rfl hl.1 (Nat.le_of_ble_eq_true rfl) dX8_except_64 ⟨Nat.le_refl _, Nat.le_refl _⟩ (fun H locs hP1 hk hS => ?_)
      have hP := bkM_excepted (f := f_15.2.1 0) hP (dM hD) hk hP1
      refine lv_iload hx hb dX8_except_67 (lv_at hl 0 rfl) ?_
      obtain ⟨hz_16, hm⟩ := gb_s hm
      exact ret_z (wf := wM G a) X hz_16 hm hP hS dX8_except_69
    · have hm := (if_neg c_13).symm.trans hm
      refine lv_iconst (v := 0) hx hb dX8_except_40 (by decide) ?_
      exact ret_z (wf := wM G a) X (by decide) hm hP hS dX8_except_41

-- besides
def moM_besides (n : Nat) (x1 : Int32) (x2 : Int32) (x3 : Int32) (q : Pc3) : Option (Int32 × Pc3) :=
  (bd1 (moM_dayOf n x2 q) fun r_1 => (bd1 (moM_noThing n x1 q) fun r_2 => (if r_2 = 0 then (if 0 ≤ r_1 then (if (rS (sS q 0 0) 0) ≤ 0 then (bd1 (moB_hasBit n x1 r_1 (pB ((sS q 0 0).2.1 22))) fun r_6 => (bd1 (moB_setBit n x1 r_1 x3 (pB ((sS q 0 0).2.1 22))) fun f_7 => (gb r_6 (some (r_6, (sF (sS q 0 0) 22 (f_7.2.1 0))))))) else (some (0, (sS q 0 0)))) else (if (rS (sS q 0 2) 0) ≤ 0 then (bd1 (moB_hasBit n x1 r_1 (pB ((sS q 0 2).2.1 22))) fun r_10 => (bd1 (moB_setBit n x1 r_1 x3 (pB ((sS q 0 2).2.1 22))) fun f_11 => (gb r_10 (some (r_10, (sF (sS q 0 2) 22 (f_11.2.1 0))))))) else (some (0, (sS q 0 2))))) else (if (rS (sS q 0 1) 0) ≤ 0 then (bd1 (moB_hasBit n x1 r_1 (pB ((sS q 0 1).2.1 22))) fun r_14 => (bd1 (moB_setBit n x1 r_1 x3 (pB ((sS q 0 1).2.1 22))) fun f_15 => (gb r_14 (some (r_14, (sF (sS q 0 1) 22 (f_15.2.1 0))))))) else (some (0, (sS q 0 1)))))))
set_option maxHeartbeats 4000000 in
set_option maxRecDepth 100000 in
theorem cM_besides {l : Launch} {G : Ev} {a : Nat → Nat} {n : Nat} {q : Pc3} {x1 : Int32} {x2 : Int32} {x3 : Int32} {r : Int32} {q' : Pc3} (hm : moM_besides n x1 x2 x3 q = some (r, q')) : CtI l G yX8_besides cX8_besides 6 (some .boolean) 1 25 0 0 [.ref (a 0), .int x1, .int x2, .int x3] (wM G a q) (wM G a q') r := by
  intro sz
  refine enter (by decide) (Nat.le_of_ble_eq_true rfl) ?_
  intro p e s m args below meth c ls X hsz hP hD hS hl
  subst hsz
  obtain ⟨⟨hx, hb, hml, hown, hts⟩, hK, hr, hlk, hA, hAs, hSta⟩ := id X
  have hl : lv_has ls 6 [(0, .ref (a 0)), (1, .int x1), (2, .int x2), (3, .int x3)] := hl
  unfold moM_besides at hm
  refine lv_aload_n hx hb dX8_besides_0 rfl (lv_at hl 0 rfl) ?_
  refine lv_iload_n hx hb dX8_besides_1 rfl (lv_at hl 2 rfl) ?_
  obtain ⟨r_1, e_1, hm⟩ := bd1_s hm
  refine goV_i (n := 1) (C := RX8) X (cM_dayOf e_1) (gV kw885 kw887 ks_yX8_dayOf kw9 kw888) (by decide +kernel) ⟨by decide, by decide⟩ (rcM hK hP) hP (dM hD) hS rfl rfl hl.1 (Nat.le_of_ble_eq_true rfl) dX8_besides_2 ⟨Nat.le_refl _, Nat.le_refl _⟩ (fun H locs hP _ hS => ?_)
  refine lv_istore (lv' := [(4, .int r_1), (0, .ref (a 0)), (1, .int x1), (2, .int x2), (3, .int x3)]) hx hb dX8_besides_5 hl (by decide) rfl (fun ls hl => ?_)
  refine lv_aload_n hx hb dX8_besides_7 rfl (lv_at hl 1 rfl) ?_
  refine lv_aload_n hx hb dX8_besides_8 rfl (lv_at hl 1 rfl) ?_
  refine lv_iload_n hx hb dX8_besides_9 rfl (lv_at hl 2 rfl) ?_
  obtain ⟨r_2, e_2, hm⟩ := bd1_s hm
  refine goV_i (n := 1) (C := RX8) X (cM_noThing e_2) (gV kw1008 kw1010 ks_yX8_noThing kw9 kw1011) (by decide +kernel) ⟨by decide, by decide⟩ (rcM hK hP) hP (dM hD) hS rfl rfl hl.1 (Nat.le_of_ble_eq_true rfl) dX8_besides_10 ⟨Nat.le_refl _, Nat.le_refl _⟩ (fun H locs hP _ hS => ?_)
  refine lv_if_eq (tgt := 20) hx hb dX8_besides_13 (by decide) (fun c_3 => ?_) (fun c_3 => ?_)
  · have hm := (if_pos c_3).symm.trans hm
    refine lv_iload hx hb dX8_besides_20 (lv_at hl 0 rfl) ?_
    refine lv_if_ge (tgt := 29) hx hb dX8_besides_22 (by decide) (fun c_4 => ?_) (fun c_4 => ?_)
    · have hm := (if_pos c_4).symm.trans hm
      refine lv_iconst (v := 0) hx hb dX8_besides_29 (by decide) ?_
      refine pM_thrown X hP (dM hD) hS dX8_besides_30 (fun H locs hP hS => ?_)
      refine lv_aload_n hx hb dX8_besides_33 rfl (lv_at hl 1 rfl) ?_
      refine gM_thrown X hP dX8_besides_34 ?_
      refine lv_if_le (tgt := 42) hx hb dX8_besides_37 (by decide) (fun c_5 => ?_) (fun c_5 => ?_)
      · have hm := (if_pos c_5).symm.trans hm
        refine lv_aload_n hx hb dX8_besides_42 rfl (lv_at hl 1 rfl) ?_
        refine lv_aload_n hx hb dX8_besides_43 rfl (lv_at hl 1 rfl) ?_
        refine gM_added X hP dX8_besides_44 ?_
        refine lv_iload_n hx hb dX8_besides_47 rfl (lv_at hl 2 rfl) ?_
        refine lv_iload hx hb dX8_besides_48 (lv_at hl 0 rfl) ?_
        obtain ⟨r_6, e_6, hm⟩ := bd1_s hm
        refine goV_i (n := 3) (C := RX8) X (cB_hasBit (a := (fun j => if j = 0 then a 22 else a 0)) e_6) (gV kw1016 kw1018 ks_yX8_hasBit kw9 kw1019) (by decide +kernel) ⟨by decide, by decide⟩ (rcM hK hP) (hP.sub (ws' := (wB G (fun j => if j = 0 then a 22 else a 0) (pB ((sS q 0 0).2.1 22)))) [12] rfl) ((dM hD : va_D _ (wM G a (sS q 0 0))).sub (ws' := (wB G (fun j => if j = 0 then a 22 else a 0) (pB ((sS q 0 0).2.1 22)))) [12] (by decide) rfl) hS rfl rfl hl.1 (Nat.le_of_ble_eq_true rfl) dX8_besides_50 ⟨Nat.le_refl _, Nat.le_refl _⟩ (fun H locs hP1 hk hS => ?_)
        have hP := bkMr_added hP (dM hD) hk hP1
        refine lv_istore (lv' := [(5, .int r_6), (4, .int r_1), (0, .ref (a 0)), (1, .int x1), (2, .int x2), (3, .int x3)]) hx hb dX8_besides_53 hl (by decide) rfl (fun ls hl => ?_)
        refine lv_aload_n hx hb dX8_besides_55 rfl (lv_at hl 2 rfl) ?_
        refine lv_aload_n hx hb dX8_besides_56 rfl (lv_at hl 2 rfl) ?_
        refine gM_added X hP dX8_besides_57 ?_
        refine lv_iload_n hx hb dX8_besides_60 rfl (lv_at hl 3 rfl) ?_
        refine lv_iload hx hb dX8_besides_61 (lv_at hl 1 rfl) ?_
        refine lv_iload_n hx hb dX8_besides_63 rfl (lv_at hl 5 rfl) ?_
        obtain ⟨f_7, e_7, hm⟩ := bd1_s hm
        refine goV_v (n := 4) (C := RX8) X (cB_setBit (a := (fun j => if j = 0 then a 22 else a 0)) e_7) (gV kw992 kw994 ks_yX8_setBit kw9 kw995) (by decide +kernel) ⟨by decide, by decide⟩ (rcM hK hP) (hP.sub (ws' := (wB G (fun j => if j = 0 then a 22 else a 0) (pB ((sS q 0 0).2.1 22)))) [12] rfl) ((dM hD : va_D _ (wM G a (sS q 0 0))).sub (ws' := (wB G (fun j => if j = 0 then a 22 else a 0) (pB ((sS q 0 0).2.1 22)))) [12] (by decide) rfl) hS rfl rfl hl.1 (Nat.le_of_ble_eq_true rfl) dX8_besides_64 ⟨Nat.le_refl _, Nat.le_refl _⟩ (fun H locs hP1 hk hS => ?_)
        have hP := bkM_added (f := f_7.2.1 0) hP (dM hD) hk hP1
        refine lv_iload hx hb dX8_besides_67 (lv_at hl 0 rfl) ?_
        obtain ⟨hz_8, hm⟩ := gb_s hm
        exact ret_z (wf := wM G a) X hz_8 hm hP hS dX8_besides_69
      · have hm := (if_neg c_5).symm.trans hm
        refine lv_iconst (v := 0) hx hb dX8_besides_40 (by decide) ?_
        exact ret_z (wf := wM G a) X (by decide) hm hP hS dX8_besides_41
    · have hm := (if_neg c_4).symm.trans hm
      refine lv_iconst (v := 2) hx hb dX8_besides_25 (by decide) ?_
      refine lv_goto (tgt := 30) hx hb dX8_besides_26 (by decide) ?_
      refine pM_thrown X hP (dM hD) hS dX8_besides_30 (fun H locs hP hS => ?_)
      refine lv_aload_n hx hb dX8_besides_33 rfl (lv_at hl 1 rfl) ?_
      refine gM_thrown X hP dX8_besides_34 ?_
      refine lv_if_le (tgt := 42) hx hb dX8_besides_37 (by decide) (fun c_9 => ?_) (fun c_9 => ?_)
      · have hm := (if_pos c_9).symm.trans hm
        refine lv_aload_n hx hb dX8_besides_42 rfl (lv_at hl 1 rfl) ?_
        refine lv_aload_n hx hb dX8_besides_43 rfl (lv_at hl 1 rfl) ?_
        refine gM_added X hP dX8_besides_44 ?_
        refine lv_iload_n hx hb dX8_besides_47 rfl (lv_at hl 2 rfl) ?_
        refine lv_iload hx hb dX8_besides_48 (lv_at hl 0 rfl) ?_
        obtain ⟨r_10, e_10, hm⟩ := bd1_s hm
        refine goV_i (n := 3) (C := RX8) X (cB_hasBit (a := (fun j => if j = 0 then a 22 else a 0)) e_10) (gV kw1016 kw1018 ks_yX8_hasBit kw9 kw1019) (by decide +kernel) ⟨by decide, by decide⟩ (rcM hK hP) (hP.sub (ws' := (wB G (fun j => if j = 0 then a 22 else a 0) (pB ((sS q 0 2).2.1 22)))) [12] rfl) ((dM hD : va_D _ (wM G a (sS q 0 2))).sub (ws' := (wB G (fun j => if j = 0 then a 22 else a 0) (pB ((sS q 0 2).2.1 22)))) [12] (by decide) rfl) hS rfl rfl hl.1 (Nat.le_of_ble_eq_true rfl) dX8_besides_50 ⟨Nat.le_refl _, Nat.le_refl _⟩ (fun H locs hP1 hk hS => ?_)
        have hP := bkMr_added hP (dM hD) hk hP1
        refine lv_istore (lv' := [(5, .int r_10), (4, .int r_1), (0, .ref (a 0)), (1, .int x1), (2, .int x2), (3, .int x3)]) hx hb dX8_besides_53 hl (by decide) rfl (fun ls hl => ?_)
        refine lv_aload_n hx hb dX8_besides_55 rfl (lv_at hl 2 rfl) ?_
        refine lv_aload_n hx hb dX8_besides_56 rfl (lv_at hl 2 rfl) ?_
        refine gM_added X hP dX8_besides_57 ?_
        refine lv_iload_n hx hb dX8_besides_60 rfl (lv_at hl 3 rfl) ?_
        refine lv_iload hx hb dX8_besides_61 (lv_at hl 1 rfl) ?_
        refine lv_iload_n hx hb dX8_besides_63 rfl (lv_at hl 5 rfl) ?_
        obtain ⟨f_11, e_11, hm⟩ := bd1_s hm
        refine goV_v (n := 4) (C := RX8) X (cB_setBit (a := (fun j => if j = 0 then a 22 else a 0)) e_11) (gV kw992 kw994 ks_yX8_setBit kw9 kw995) (by decide +kernel) ⟨by decide, by decide⟩ (rcM hK hP) (hP.sub (ws' := (wB G (fun j => if j = 0 then a 22 else a 0) (pB ((sS q 0 2).2.1 22)))) [12] rfl) ((dM hD : va_D _ (wM G a (sS q 0 2))).sub (ws' := (wB G (fun j => if j = 0 then a 22 else a 0) (pB ((sS q 0 2).2.1 22)))) [12] (by decide) rfl) hS rfl rfl hl.1 (Nat.le_of_ble_eq_true rfl) dX8_besides_64 ⟨Nat.le_refl _, Nat.le_refl _⟩ (fun H locs hP1 hk hS => ?_)
        have hP := bkM_added (f := f_11.2.1 0) hP (dM hD) hk hP1
        refine lv_iload hx hb dX8_besides_67 (lv_at hl 0 rfl) ?_
        obtain ⟨hz_12, hm⟩ := gb_s hm
        exact ret_z (wf := wM G a) X hz_12 hm hP hS dX8_besides_69
      · have hm := (if_neg c_9).symm.trans hm
        refine lv_iconst (v := 0) hx hb dX8_besides_40 (by decide) ?_
        exact ret_z (wf := wM G a) X (by decide) hm hP hS dX8_besides_41
  · have hm := (if_neg c_3).symm.trans hm
    refine lv_iconst (v := 1) hx hb dX8_besides_16 (by decide) ?_
    refine lv_goto (tgt := 30) hx hb dX8_besides_17 (by decide) ?_
    refine pM_thrown X hP (dM hD) hS dX8_besides_30 (fun H locs hP hS => ?_)
    refine lv_aload_n hx hb dX8_besides_33 rfl (lv_at hl 1 rfl) ?_
    refine gM_thrown X hP dX8_besides_34 ?_
    refine lv_if_le (tgt := 42) hx hb dX8_besides_37 (by decide) (fun c_13 => ?_) (fun c_13 => ?_)
    · have hm := (if_pos c_13).symm.trans hm
      refine lv_aload_n hx hb dX8_besides_42 rfl (lv_at hl 1 rfl) ?_
      refine lv_aload_n hx hb dX8_besides_43 rfl (lv_at hl 1 rfl) ?_
      refine gM_added X hP dX8_besides_44 ?_
      refine lv_iload_n hx hb dX8_besides_47 rfl (lv_at hl 2 rfl) ?_
      refine lv_iload hx hb dX8_besides_48 (lv_at hl 0 rfl) ?_
      obtain ⟨r_14, e_14, hm⟩ := bd1_s hm
      refine goV_i (n := 3) (C := RX8) X (cB_hasBit (a := (fun j => if j = 0 then a 22 else a 0)) e_14) (gV kw1016 kw1018 ks_yX8_hasBit kw9 kw1019) (by decide +kernel) ⟨by decide, by decide⟩ (rcM hK hP) (hP.sub (ws' := (wB G (fun j => if j = 0 then a 22 else a 0) (pB ((sS q 0 1).2.1 22)))) [12] rfl) ((dM hD : va_D _ (wM G a (sS q 0 1))).sub (ws' := (wB G (fun j => if j = 0 then a 22 else a 0) (pB ((sS q 0 1).2.1 22)))) [12] (by decide) rfl) hS rfl rfl hl.1 (Nat.le_of_ble_eq_true rfl) dX8_besides_50 ⟨Nat.le_refl _, Nat.le_refl _⟩ (fun H locs hP1 hk hS => ?_)
      have hP := bkMr_added hP (dM hD) hk hP1
      refine lv_istore (lv' := [(5, .int r_14), (4, .int r_1), (0, .ref (a 0)), (1, .int x1), (2, .int x2), (3, .int x3)]) hx hb dX8_besides_53 hl (by decide) rfl (fun ls hl => ?_)
      refine lv_aload_n hx hb dX8_besides_55 rfl (lv_at hl 2 rfl) ?_
      refine lv_aload_n hx hb dX8_besides_56 rfl (lv_at hl 2 rfl) ?_
      refine gM_added X hP dX8_besides_57 ?_
      refine lv_iload_n hx hb dX8_besides_60 rfl (lv_at hl 3 rfl) ?_
      refine lv_iload hx hb dX8_besides_61 (lv_at hl 1 rfl) ?_
      refine lv_iload_n hx hb dX8_besides_63 rfl (lv_at hl 5 rfl) ?_
      obtain ⟨f_15, e_15, hm⟩ := bd1_s hm
      refine goV_v (n := 4) (C := RX8) X (cB_setBit (a := (fun j => if j = 0 then a 22 else a 0)) e_15) (gV kw992 kw994 ks_yX8_setBit kw9 kw995) (by decide +kernel) ⟨by decide, by decide⟩ (rcM hK hP) (hP.sub (ws' := (wB G (fun j => if j = 0 then a 22 else a 0) (pB ((sS q 0 1).2.1 22)))) [12] rfl) ((dM hD : va_D _ (wM G a (sS q 0 1))).sub (ws' := (wB G (fun j => if j = 0 then a 22 else a 0) (pB ((sS q 0 1).2.1 22)))) [12] (by decide) rfl) hS rfl rfl hl.1 (Nat.le_of_ble_eq_true rfl) dX8_besides_64 ⟨Nat.le_refl _, Nat.le_refl _⟩ (fun H locs hP1 hk hS => ?_)
      have hP := bkM_added (f := f_15.2.1 0) hP (dM hD) hk hP1
      refine lv_iload hx hb dX8_besides_67 (lv_at hl 0 rfl) ?_
      obtain ⟨hz_16, hm⟩ := gb_s hm
      exact ret_z (wf := wM G a) X hz_16 hm hP hS dX8_besides_69
    · have hm := (if_neg c_13).symm.trans hm
      refine lv_iconst (v := 0) hx hb dX8_besides_40 (by decide) ?_
      exact ret_z (wf := wM G a) X (by decide) hm hP hS dX8_besides_41

-- comesAt
def moM_comesAt (n : Nat) (x1 : Int32) (x2 : Int32) (q : Pc3) : Option (Int32) :=
  (bd1 (moB_hasBit n x1 x2 (pB (q.2.1 20))) fun r_1 => (if r_1 = 0 then (bd1 (moB_hasBit n x1 x2 (pB (q.2.1 22))) fun r_5 => (if r_5 = 0 then (some 0) else (bd1 (moB_hasBit n x1 x2 (pB (q.2.1 21))) fun r_7 => (if r_7 = 0 then (some 1) else (some 0))))) else (bd1 (moB_hasBit n x1 x2 (pB (q.2.1 21))) fun r_3 => (if r_3 = 0 then (some 1) else (some 0)))))
set_option maxHeartbeats 4000000 in
set_option maxRecDepth 100000 in
theorem cM_comesAt {l : Launch} {G : Ev} {a : Nat → Nat} {n : Nat} {q : Pc3} {x1 : Int32} {x2 : Int32} {r : Int32} (hm : moM_comesAt n x1 x2 q = some r) : CtI l G yX8_comesAt cX8_comesAt 3 (some .boolean) 1 23 0 0 [.ref (a 0), .int x1, .int x2] (wM G a q) (wM G a q) r := by
  intro sz
  refine enter (by decide) (Nat.le_of_ble_eq_true rfl) ?_
  intro p e s m args below meth c ls X hsz hP hD hS hl
  subst hsz
  obtain ⟨⟨hx, hb, hml, hown, hts⟩, hK, hr, hlk, hA, hAs, hSta⟩ := id X
  have hl : lv_has ls 3 [(0, .ref (a 0)), (1, .int x1), (2, .int x2)] := hl
  unfold moM_comesAt at hm
  refine lv_aload_n hx hb dX8_comesAt_0 rfl (lv_at hl 0 rfl) ?_
  refine lv_aload_n hx hb dX8_comesAt_1 rfl (lv_at hl 0 rfl) ?_
  refine gM_rule X hP dX8_comesAt_2 ?_
  refine lv_iload_n hx hb dX8_comesAt_5 rfl (lv_at hl 1 rfl) ?_
  refine lv_iload_n hx hb dX8_comesAt_6 rfl (lv_at hl 2 rfl) ?_
  obtain ⟨r_1, e_1, hm⟩ := bd1_s hm
  refine goV_i (n := 3) (C := RX8) X (cB_hasBit (a := (fun j => if j = 0 then a 20 else a 0)) e_1) (gV kw1016 kw1018 ks_yX8_hasBit kw9 kw1019) (by decide +kernel) ⟨by decide, by decide⟩ (rcM hK hP) (hP.sub (ws' := (wB G (fun j => if j = 0 then a 20 else a 0) (pB (q.2.1 20)))) [10] rfl) ((dM hD : va_D _ (wM G a q)).sub (ws' := (wB G (fun j => if j = 0 then a 20 else a 0) (pB (q.2.1 20)))) [10] (by decide) rfl) hS rfl rfl hl.1 (Nat.le_of_ble_eq_true rfl) dX8_comesAt_7 ⟨Nat.le_refl _, Nat.le_refl _⟩ (fun H locs hP1 hk hS => ?_)
  have hP := bkMr_rule hP (dM hD) hk hP1
  refine lv_if_ne (tgt := 26) hx hb dX8_comesAt_10 (by decide) (fun c_2 => ?_) (fun c_2 => ?_)
  · have hm := (if_neg c_2).symm.trans hm
    refine lv_aload_n hx hb dX8_comesAt_26 rfl (lv_at hl 0 rfl) ?_
    refine lv_aload_n hx hb dX8_comesAt_27 rfl (lv_at hl 0 rfl) ?_
    refine gM_excepted X hP dX8_comesAt_28 ?_
    refine lv_iload_n hx hb dX8_comesAt_31 rfl (lv_at hl 1 rfl) ?_
    refine lv_iload_n hx hb dX8_comesAt_32 rfl (lv_at hl 2 rfl) ?_
    obtain ⟨r_3, e_3, hm⟩ := bd1_s hm
    refine goV_i (n := 3) (C := RX8) X (cB_hasBit (a := (fun j => if j = 0 then a 21 else a 0)) e_3) (gV kw1016 kw1018 ks_yX8_hasBit kw9 kw1019) (by decide +kernel) ⟨by decide, by decide⟩ (rcM hK hP) (hP.sub (ws' := (wB G (fun j => if j = 0 then a 21 else a 0) (pB (q.2.1 21)))) [11] rfl) ((dM hD : va_D _ (wM G a q)).sub (ws' := (wB G (fun j => if j = 0 then a 21 else a 0) (pB (q.2.1 21)))) [11] (by decide) rfl) hS rfl rfl hl.1 (Nat.le_of_ble_eq_true rfl) dX8_comesAt_33 ⟨Nat.le_refl _, Nat.le_refl _⟩ (fun H locs hP1 hk hS => ?_)
    have hP := bkMr_excepted hP (dM hD) hk hP1
    refine lv_if_ne (tgt := 43) hx hb dX8_comesAt_36 (by decide) (fun c_4 => ?_) (fun c_4 => ?_)
    · have hm := (if_neg c_4).symm.trans hm
      refine lv_iconst (v := 0) hx hb dX8_comesAt_43 (by decide) ?_
      exact ret_zo (wf := wM G a) X (by decide) hm hP hS dX8_comesAt_44
    · have hm := (if_pos c_4).symm.trans hm
      refine lv_iconst (v := 1) hx hb dX8_comesAt_39 (by decide) ?_
      refine lv_goto (tgt := 44) hx hb dX8_comesAt_40 (by decide) ?_
      exact ret_zo (wf := wM G a) X (by decide) hm hP hS dX8_comesAt_44
  · have hm := (if_pos c_2).symm.trans hm
    refine lv_aload_n hx hb dX8_comesAt_13 rfl (lv_at hl 0 rfl) ?_
    refine lv_aload_n hx hb dX8_comesAt_14 rfl (lv_at hl 0 rfl) ?_
    refine gM_added X hP dX8_comesAt_15 ?_
    refine lv_iload_n hx hb dX8_comesAt_18 rfl (lv_at hl 1 rfl) ?_
    refine lv_iload_n hx hb dX8_comesAt_19 rfl (lv_at hl 2 rfl) ?_
    obtain ⟨r_5, e_5, hm⟩ := bd1_s hm
    refine goV_i (n := 3) (C := RX8) X (cB_hasBit (a := (fun j => if j = 0 then a 22 else a 0)) e_5) (gV kw1016 kw1018 ks_yX8_hasBit kw9 kw1019) (by decide +kernel) ⟨by decide, by decide⟩ (rcM hK hP) (hP.sub (ws' := (wB G (fun j => if j = 0 then a 22 else a 0) (pB (q.2.1 22)))) [12] rfl) ((dM hD : va_D _ (wM G a q)).sub (ws' := (wB G (fun j => if j = 0 then a 22 else a 0) (pB (q.2.1 22)))) [12] (by decide) rfl) hS rfl rfl hl.1 (Nat.le_of_ble_eq_true rfl) dX8_comesAt_20 ⟨Nat.le_refl _, Nat.le_refl _⟩ (fun H locs hP1 hk hS => ?_)
    have hP := bkMr_added hP (dM hD) hk hP1
    refine lv_if_eq (tgt := 43) hx hb dX8_comesAt_23 (by decide) (fun c_6 => ?_) (fun c_6 => ?_)
    · have hm := (if_pos c_6).symm.trans hm
      refine lv_iconst (v := 0) hx hb dX8_comesAt_43 (by decide) ?_
      exact ret_zo (wf := wM G a) X (by decide) hm hP hS dX8_comesAt_44
    · have hm := (if_neg c_6).symm.trans hm
      refine lv_aload_n hx hb dX8_comesAt_26 rfl (lv_at hl 0 rfl) ?_
      refine lv_aload_n hx hb dX8_comesAt_27 rfl (lv_at hl 0 rfl) ?_
      refine gM_excepted X hP dX8_comesAt_28 ?_
      refine lv_iload_n hx hb dX8_comesAt_31 rfl (lv_at hl 1 rfl) ?_
      refine lv_iload_n hx hb dX8_comesAt_32 rfl (lv_at hl 2 rfl) ?_
      obtain ⟨r_7, e_7, hm⟩ := bd1_s hm
      refine goV_i (n := 3) (C := RX8) X (cB_hasBit (a := (fun j => if j = 0 then a 21 else a 0)) e_7) (gV kw1016 kw1018 ks_yX8_hasBit kw9 kw1019) (by decide +kernel) ⟨by decide, by decide⟩ (rcM hK hP) (hP.sub (ws' := (wB G (fun j => if j = 0 then a 21 else a 0) (pB (q.2.1 21)))) [11] rfl) ((dM hD : va_D _ (wM G a q)).sub (ws' := (wB G (fun j => if j = 0 then a 21 else a 0) (pB (q.2.1 21)))) [11] (by decide) rfl) hS rfl rfl hl.1 (Nat.le_of_ble_eq_true rfl) dX8_comesAt_33 ⟨Nat.le_refl _, Nat.le_refl _⟩ (fun H locs hP1 hk hS => ?_)
      have hP := bkMr_excepted hP (dM hD) hk hP1
      refine lv_if_ne (tgt := 43) hx hb dX8_comesAt_36 (by decide) (fun c_8 => ?_) (fun c_8 => ?_)
      · have hm := (if_neg c_8).symm.trans hm
        refine lv_iconst (v := 0) hx hb dX8_comesAt_43 (by decide) ?_
        exact ret_zo (wf := wM G a) X (by decide) hm hP hS dX8_comesAt_44
      · have hm := (if_pos c_8).symm.trans hm
        refine lv_iconst (v := 1) hx hb dX8_comesAt_39 (by decide) ?_
        refine lv_goto (tgt := 44) hx hb dX8_comesAt_40 (by decide) ?_
        exact ret_zo (wf := wM G a) X (by decide) hm hP hS dX8_comesAt_44
