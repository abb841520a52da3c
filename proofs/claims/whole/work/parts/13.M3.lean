-- hasNumberedWeekday
def moM_hasNumberedWeekday_B92 {α : Type} (n : Nat) (q : Pc3) (K0 : Int32 → Int32 → Int32 → Int32 → Int32 → Option α) (K1 : Int32 → Int32 → Int32 → Int32 → Int32 → Option α) (x1 : Int32) (x2 : Int32) (x3 : Int32) (x4 : Int32) (x5 : Int32)  : Option α :=
  (if x4 ≤ (x1 - 366) then (K1 x1 x2 x3 x4 x5 ) else (K0 x1 x2 x3 (x4 + (-1)) x5 ))
def moM_hasNumberedWeekday_L51 {α : Type} (n : Nat) (q : Pc3) (K0 : Int32 → Int32 → Int32 → Int32 → Int32 → Option α) : Nat → Int32 → Int32 → Int32 → Int32 → Int32 → Option α
  | 0, _, _, _, _, _ => none
  | k + 1, x1, x2, x3, x4, x5 => (if x4 ≤ 0 then (K0 x1 x2 x3 x4 x5 ) else (bd1 (moM_yearOf n (x4 - 1) q) fun r_5 => (bd1 (moM_yearOf n x1 q) fun r_6 => (if r_5 = r_6 then (if x3 = 0 then (moM_hasNumberedWeekday_B92 n q (fun z10_1 z10_2 z10_3 z10_4 z10_5 => (moM_hasNumberedWeekday_L51 n q K0 k z10_1 z10_2 z10_3 z10_4 z10_5 )) (fun z11_1 z11_2 z11_3 z11_4 z11_5 => (K0 z11_1 z11_2 z11_3 z11_4 z11_5 )) x1 x2 x3 x4 x5 ) else (bd1 (moM_monthOf n (x4 - 1) q) fun r_12 => (bd1 (moM_monthOf n x1 q) fun r_13 => (if r_12 = r_13 then (moM_hasNumberedWeekday_B92 n q (fun z15_1 z15_2 z15_3 z15_4 z15_5 => (moM_hasNumberedWeekday_L51 n q K0 k z15_1 z15_2 z15_3 z15_4 z15_5 )) (fun z16_1 z16_2 z16_3 z16_4 z16_5 => (K0 z16_1 z16_2 z16_3 z16_4 z16_5 )) x1 x2 x3 x4 x5 ) else (K0 x1 x2 x3 x4 x5 ))))) else (K0 x1 x2 x3 x4 x5 )))))
def moM_hasNumberedWeekday_L108 {α : Type} (n : Nat) (q : Pc3) (K0 : Int32 → Int32 → Int32 → Int32 → Option α) : Nat → Int32 → Int32 → Int32 → Int32 → Int32 → Option α
  | 0, _, _, _, _, _ => none
  | k + 1, x1, x2, x3, x4, x5 => (if 109573 ≤ (x5 + 1) then (K0 x1 x2 x4 x5 ) else (bd1 (moM_yearOf n (x5 + 1) q) fun r_19 => (bd1 (moM_yearOf n x1 q) fun r_20 => (if r_19 = r_20 then (if x3 = 0 then (moM_hasNumberedWeekday_L108 n q K0 k x1 x2 x3 x4 (x5 + 1) ) else (bd1 (moM_monthOf n (x5 + 1) q) fun r_23 => (bd1 (moM_monthOf n x1 q) fun r_24 => (if r_23 = r_24 then (moM_hasNumberedWeekday_L108 n q K0 k x1 x2 x3 x4 (x5 + 1) ) else (K0 x1 x2 x4 x5 ))))) else (K0 x1 x2 x4 x5 )))))
def moM_hasNumberedWeekday_B159 (n : Nat) (q : Pc3) (x1 : Int32) (x2 : Int32) (x4 : Int32) (x5 : Int32)  : Option (Int32) :=
  (if (rS q 17) = 0 then (some 0) else (gi (((107 * x2) + 53) + (((x1 - x4) / 7) + 1)) 749 (if (rA q 16 (((107 * x2) + 53) + (((x1 - x4) / 7) + 1))) = 0 then (gi (((107 * x2) + 53) - (((x5 - x1) / 7) + 1)) 749 (if (rA q 16 (((107 * x2) + 53) - (((x5 - x1) / 7) + 1))) = 0 then (some 0) else (some 1))) else (some 1))))
def moM_hasNumberedWeekday_B44 (n : Nat) (q : Pc3) (x1 : Int32) (x2 : Int32) (t0 : Int32)  : Option (Int32) :=
  (moM_hasNumberedWeekday_L51 n q (fun z17_1 z17_2 z17_3 z17_4 z17_5 => (moM_hasNumberedWeekday_L108 n q (fun z26_1 z26_2 z26_4 z26_5 => (moM_hasNumberedWeekday_B159 n q z26_1 z26_2 z26_4 z26_5 )) n z17_1 z17_2 z17_3 z17_4 z17_5 )) n x1 x2 t0 x1 x1 )
def moM_hasNumberedWeekday (n : Nat) (x1 : Int32) (q : Pc3) : Option (Int32) :=
  (gi ((107 * (rmI x1 7)) + 53) 749 (if (rA q 16 ((107 * (rmI x1 7)) + 53)) = 0 then (if (rS q 9) = 2 then (moM_hasNumberedWeekday_B44 n q x1 (rmI x1 7) 1 ) else (gi 4 8 (if (rA q 8 4) = 0 then (moM_hasNumberedWeekday_B44 n q x1 (rmI x1 7) 0 ) else (moM_hasNumberedWeekday_B44 n q x1 (rmI x1 7) 1 )))) else (some 1)))
set_option maxHeartbeats 4000000 in
set_option maxRecDepth 100000 in
theorem bkM_hasNumberedWeekday_92 {p : Program} {l : Launch} {e : Env} {s : State} {m : MethodId} {args : Array Value} {below : List Frame} {meth : Method} {c : Code} {G : Ev} {a : Nat → Nat} {Q : State → Prop} {A : Nat → Prop} {q : Pc3} (X : CX p s m args meth c cX8_hasNumberedWeekday 8 (some .boolean) RX8 (.code yX8_hasNumberedWeekday cX8_hasNumberedWeekday 8 (some .boolean)) G A) (hD : va_D A (wM G a q)) {α : Type} {o : α} {n : Nat} {K0 : Int32 → Int32 → Int32 → Int32 → Int32 → Option α} {K1 : Int32 → Int32 → Int32 → Int32 → Int32 → Option α} (h0 : ∀ (y1 : Int32) (y2 : Int32) (y3 : Int32) (y4 : Int32) (y5 : Int32) (H : Heap) (locs : List Loc) (ls : Array Slot), K0 y1 y2 y3 y4 y5  = some o → va_P (DD G) vwCl (wM G a q) H → va_S A s.heap H locs → lv_has ls 8 [(0, .ref (a 0)), (1, .int y1), (2, .int y2), (3, .int y3), (4, .int y4), (5, .int y5)] → W p l e { frames := 1, cells := 0, slots := 0, locals := 21 } s m args below meth c H locs 0 0 Q (F0 m 51 ls [])) (h1 : ∀ (y1 : Int32) (y2 : Int32) (y3 : Int32) (y4 : Int32) (y5 : Int32) (H : Heap) (locs : List Loc) (ls : Array Slot), K1 y1 y2 y3 y4 y5  = some o → va_P (DD G) vwCl (wM G a q) H → va_S A s.heap H locs → lv_has ls 8 [(0, .ref (a 0)), (1, .int y1), (2, .int y2), (3, .int y3), (4, .int y4), (5, .int y5)] → W p l e { frames := 1, cells := 0, slots := 0, locals := 21 } s m args below meth c H locs 0 0 Q (F0 m 108 ls [])) {H : Heap} {locs : List Loc} {ls : Array Slot} {x1 : Int32} {x2 : Int32} {x3 : Int32} {x4 : Int32} {x5 : Int32}  (hm : moM_hasNumberedWeekday_B92 n q K0 K1 x1 x2 x3 x4 x5  = some o) (hP : va_P (DD G) vwCl (wM G a q) H) (hS : va_S A s.heap H locs) (hl : lv_has ls 8 [(0, .ref (a 0)), (1, .int x1), (2, .int x2), (3, .int x3), (4, .int x4), (5, .int x5)]) : W p l e { frames := 1, cells := 0, slots := 0, locals := 21 } s m args below meth c H locs 0 0 Q (F0 m 92 ls []) := by
  obtain ⟨⟨hx, hb, hml, hown, hts⟩, hK, hr, hlk, hA, hAs, hSta⟩ := id X
  unfold moM_hasNumberedWeekday_B92 at hm
  refine lv_iload hx hb dX8_hasNumberedWeekday_92 (lv_at hl 4 rfl) ?_
  refine lv_iload_n hx hb dX8_hasNumberedWeekday_94 rfl (lv_at hl 1 rfl) ?_
  refine lv_sipush (v := 366) hx hb dX8_hasNumberedWeekday_95 (by decide) ?_
  refine lv_isub hx hb dX8_hasNumberedWeekday_98 ?_
  refine lv_icmp_le (tgt := 108) hx hb dX8_hasNumberedWeekday_99 (by decide) (fun c_9 => ?_) (fun c_9 => ?_)
  · have hm := (if_pos c_9).symm.trans hm
    exact h1 _ _ _ _ _ _ _ _ hm hP hS (lv_sub hl [0, 1, 2, 3, 4, 5] rfl)
  · have hm := (if_neg c_9).symm.trans hm
    refine lv_iinc (v := (x4 + (-1))) (lv' := [(4, .int (x4 + (-1))), (0, .ref (a 0)), (1, .int x1), (2, .int x2), (3, .int x3), (5, .int x5)]) hx hb dX8_hasNumberedWeekday_102 hl (k := 4) rfl (by first | rfl | decide) (by decide) rfl (fun ls hl => ?_)
    refine lv_goto (tgt := 51) hx hb dX8_hasNumberedWeekday_105 (by decide) ?_
    exact h0 _ _ _ _ _ _ _ _ hm hP hS (lv_sub hl [1, 2, 3, 4, 0, 5] rfl)
set_option maxHeartbeats 4000000 in
set_option maxRecDepth 100000 in
theorem lpM_hasNumberedWeekday_51 {p : Program} {l : Launch} {e : Env} {s : State} {m : MethodId} {args : Array Value} {below : List Frame} {meth : Method} {c : Code} {G : Ev} {a : Nat → Nat} {Q : State → Prop} {A : Nat → Prop} {q : Pc3} (X : CX p s m args meth c cX8_hasNumberedWeekday 8 (some .boolean) RX8 (.code yX8_hasNumberedWeekday cX8_hasNumberedWeekday 8 (some .boolean)) G A) (hD : va_D A (wM G a q)) {α : Type} {o : α} {n : Nat} {K0 : Int32 → Int32 → Int32 → Int32 → Int32 → Option α} (h0 : ∀ (y1 : Int32) (y2 : Int32) (y3 : Int32) (y4 : Int32) (y5 : Int32) (H : Heap) (locs : List Loc) (ls : Array Slot), K0 y1 y2 y3 y4 y5  = some o → va_P (DD G) vwCl (wM G a q) H → va_S A s.heap H locs → lv_has ls 8 [(0, .ref (a 0)), (1, .int y1), (2, .int y2), (3, .int y3), (4, .int y4), (5, .int y5)] → W p l e { frames := 1, cells := 0, slots := 0, locals := 21 } s m args below meth c H locs 0 0 Q (F0 m 108 ls [])) : ∀ (k : Nat) (x1 : Int32) (x2 : Int32) (x3 : Int32) (x4 : Int32) (x5 : Int32) (H : Heap) (locs : List Loc) (ls : Array Slot), moM_hasNumberedWeekday_L51 n q K0 k x1 x2 x3 x4 x5  = some o → va_P (DD G) vwCl (wM G a q) H → va_S A s.heap H locs → lv_has ls 8 [(0, .ref (a 0)), (1, .int x1), (2, .int x2), (3, .int x3), (4, .int x4), (5, .int x5)] → W p l e { frames := 1, cells := 0, slots := 0, locals := 21 } s m args below meth c H locs 0 0 Q (F0 m 51 ls []) := by
  obtain ⟨⟨hx, hb, hml, hown, hts⟩, hK, hr, hlk, hA, hAs, hSta⟩ := id X
  intro k
  induction k with
  | zero =>
    intro x1 x2 x3 x4 x5 H locs ls hm
    have hm : none = some o := hm
    cases hm
  | succ k ih =>
    intro x1 x2 x3 x4 x5 H locs ls hm hP hS hl
    rw [moM_hasNumberedWeekday_L51] at hm
    refine lv_iload hx hb dX8_hasNumberedWeekday_51 (lv_at hl 4 rfl) ?_
    refine lv_if_le (tgt := 108) hx hb dX8_hasNumberedWeekday_53 (by decide) (fun c_4 => ?_) (fun c_4 => ?_)
    · have hm := (if_pos c_4).symm.trans hm
      exact h0 _ _ _ _ _ _ _ _ hm hP hS (lv_sub hl [0, 1, 2, 3, 4, 5] rfl)
    · have hm := (if_neg c_4).symm.trans hm
      refine lv_aload_n hx hb dX8_hasNumberedWeekday_56 rfl (lv_at hl 0 rfl) ?_
      refine lv_iload hx hb dX8_hasNumberedWeekday_57 (lv_at hl 4 rfl) ?_
      refine lv_iconst (v := 1) hx hb dX8_hasNumberedWeekday_59 (by decide) ?_
      refine lv_isub hx hb dX8_hasNumberedWeekday_60 ?_
      obtain ⟨r_5, e_5, hm⟩ := bd1_s hm
      refine goV_i (n := 1) (C := RX8) X (cM_yearOf e_5) (gV kw972 kw974 ks_yX8_yearOf kw9 kw975) (by decide +kernel) ⟨by decide, by decide⟩ (rcM hK hP) hP (dM hD) hS rfl rfl hl.1 (Nat.le_of_ble_eq_true rfl) dX8_hasNumberedWeekday_61 ⟨Nat.le_refl _, Nat.le_refl _⟩ (fun H locs hP _ hS => ?_)
      refine lv_aload_n hx hb dX8_hasNumberedWeekday_64 rfl (lv_at hl 0 rfl) ?_
      refine lv_iload_n hx hb dX8_hasNumberedWeekday_65 rfl (lv_at hl 1 rfl) ?_
      obtain ⟨r_6, e_6, hm⟩ := bd1_s hm
      refine goV_i (n := 1) (C := RX8) X (cM_yearOf e_6) (gV kw972 kw974 ks_yX8_yearOf kw9 kw975) (by decide +kernel) ⟨by decide, by decide⟩ (rcM hK hP) hP (dM hD) hS rfl rfl hl.1 (Nat.le_of_ble_eq_true rfl) dX8_hasNumberedWeekday_66 ⟨Nat.le_refl _, Nat.le_refl _⟩ (fun H locs hP _ hS => ?_)
      refine lv_icmp_ne (tgt := 108) hx hb dX8_hasNumberedWeekday_69 (by decide) (fun c_7 => ?_) (fun c_7 => ?_)
      · have hm := (if_neg c_7).symm.trans hm
        exact h0 _ _ _ _ _ _ _ _ hm hP hS (lv_sub hl [0, 1, 2, 3, 4, 5] rfl)
      · have hm := (if_pos c_7).symm.trans hm
        refine lv_iload_n hx hb dX8_hasNumberedWeekday_72 rfl (lv_at hl 3 rfl) ?_
        refine lv_if_eq (tgt := 92) hx hb dX8_hasNumberedWeekday_73 (by decide) (fun c_8 => ?_) (fun c_8 => ?_)
        · have hm := (if_pos c_8).symm.trans hm
          refine bkM_hasNumberedWeekday_92 X hD (fun z10_1 z10_2 z10_3 z10_4 z10_5 H locs ls hm hP hS hl => ?_) (fun z11_1 z11_2 z11_3 z11_4 z11_5 H locs ls hm hP hS hl => ?_) hm hP hS (lv_sub hl [0, 1, 2, 3, 4, 5] rfl)
          · exact ih _ _ _ _ _ _ _ _ hm hP hS (lv_sub hl [0, 1, 2, 3, 4, 5] rfl)
          · exact h0 _ _ _ _ _ _ _ _ hm hP hS (lv_sub hl [0, 1, 2, 3, 4, 5] rfl)
        · have hm := (if_neg c_8).symm.trans hm
          refine lv_aload_n hx hb dX8_hasNumberedWeekday_76 rfl (lv_at hl 0 rfl) ?_
          refine lv_iload hx hb dX8_hasNumberedWeekday_77 (lv_at hl 4 rfl) ?_
          refine lv_iconst (v := 1) hx hb dX8_hasNumberedWeekday_79 (by decide) ?_
          refine lv_isub hx hb dX8_hasNumberedWeekday_80 ?_
          obtain ⟨r_12, e_12, hm⟩ := bd1_s hm
          refine goV_i (n := 1) (C := RX8) X (cM_monthOf e_12) (gV kw976 kw978 ks_yX8_monthOf kw9 kw979) (by decide +kernel) ⟨by decide, by decide⟩ (rcM hK hP) hP (dM hD) hS rfl rfl hl.1 (Nat.le_of_ble_eq_true rfl) dX8_hasNumberedWeekday_81 ⟨Nat.le_refl _, Nat.le_refl _⟩ (fun H locs hP _ hS => ?_)
          refine lv_aload_n hx hb dX8_hasNumberedWeekday_84 rfl (lv_at hl 0 rfl) ?_
          refine lv_iload_n hx hb dX8_hasNumberedWeekday_85 rfl (lv_at hl 1 rfl) ?_
          obtain ⟨r_13, e_13, hm⟩ := bd1_s hm
          refine goV_i (n := 1) (C := RX8) X (cM_monthOf e_13) (gV kw976 kw978 ks_yX8_monthOf kw9 kw979) (by decide +kernel) ⟨by decide, by decide⟩ (rcM hK hP) hP (dM hD) hS rfl rfl hl.1 (Nat.le_of_ble_eq_true rfl) dX8_hasNumberedWeekday_86 ⟨Nat.le_refl _, Nat.le_refl _⟩ (fun H locs hP _ hS => ?_)
          refine lv_icmp_ne (tgt := 108) hx hb dX8_hasNumberedWeekday_89 (by decide) (fun c_14 => ?_) (fun c_14 => ?_)
          · have hm := (if_neg c_14).symm.trans hm
            exact h0 _ _ _ _ _ _ _ _ hm hP hS (lv_sub hl [0, 1, 2, 3, 4, 5] rfl)
          · have hm := (if_pos c_14).symm.trans hm
            refine bkM_hasNumberedWeekday_92 X hD (fun z15_1 z15_2 z15_3 z15_4 z15_5 H locs ls hm hP hS hl => ?_) (fun z16_1 z16_2 z16_3 z16_4 z16_5 H locs ls hm hP hS hl => ?_) hm hP hS (lv_sub hl [0, 1, 2, 3, 4, 5] rfl)
            · exact ih _ _ _ _ _ _ _ _ hm hP hS (lv_sub hl [0, 1, 2, 3, 4, 5] rfl)
            · exact h0 _ _ _ _ _ _ _ _ hm hP hS (lv_sub hl [0, 1, 2, 3, 4, 5] rfl)
set_option maxHeartbeats 4000000 in
set_option maxRecDepth 100000 in
theorem lpM_hasNumberedWeekday_108 {p : Program} {l : Launch} {e : Env} {s : State} {m : MethodId} {args : Array Value} {below : List Frame} {meth : Method} {c : Code} {G : Ev} {a : Nat → Nat} {Q : State → Prop} {A : Nat → Prop} {q : Pc3} (X : CX p s m args meth c cX8_hasNumberedWeekday 8 (some .boolean) RX8 (.code yX8_hasNumberedWeekday cX8_hasNumberedWeekday 8 (some .boolean)) G A) (hD : va_D A (wM G a q)) {α : Type} {o : α} {n : Nat} {K0 : Int32 → Int32 → Int32 → Int32 → Option α} (h0 : ∀ (y1 : Int32) (y2 : Int32) (y4 : Int32) (y5 : Int32) (H : Heap) (locs : List Loc) (ls : Array Slot), K0 y1 y2 y4 y5  = some o → va_P (DD G) vwCl (wM G a q) H → va_S A s.heap H locs → lv_has ls 8 [(0, .ref (a 0)), (1, .int y1), (2, .int y2), (4, .int y4), (5, .int y5)] → W p l e { frames := 1, cells := 0, slots := 0, locals := 21 } s m args below meth c H locs 0 0 Q (F0 m 159 ls [])) : ∀ (k : Nat) (x1 : Int32) (x2 : Int32) (x3 : Int32) (x4 : Int32) (x5 : Int32) (H : Heap) (locs : List Loc) (ls : Array Slot), moM_hasNumberedWeekday_L108 n q K0 k x1 x2 x3 x4 x5  = some o → va_P (DD G) vwCl (wM G a q) H → va_S A s.heap H locs → lv_has ls 8 [(0, .ref (a 0)), (1, .int x1), (2, .int x2), (3, .int x3), (4, .int x4), (5, .int x5)] → W p l e { frames := 1, cells := 0, slots := 0, locals := 21 } s m args below meth c H locs 0 0 Q (F0 m 108 ls []) := by
  obtain ⟨⟨hx, hb, hml, hown, hts⟩, hK, hr, hlk, hA, hAs, hSta⟩ := id X
  intro k
  induction k with
  | zero =>
    intro x1 x2 x3 x4 x5 H locs ls hm
    have hm : none = some o := hm
    cases hm
  | succ k ih =>
    intro x1 x2 x3 x4 x5 H locs ls hm hP hS hl
    rw [moM_hasNumberedWeekday_L108] at hm
    refine lv_iload hx hb dX8_hasNumberedWeekday_108 (lv_at hl 5 rfl) ?_
    refine lv_iconst (v := 1) hx hb dX8_hasNumberedWeekday_110 (by decide) ?_
    refine lv_iadd hx hb dX8_hasNumberedWeekday_111 ?_
    refine lv_ldc (v := 109573) hx hb hown (hts _ (List.mem_cons_of_mem _ kw779)) dX8_hasNumberedWeekday_112 ?_
    refine lv_icmp_ge (tgt := 159) hx hb dX8_hasNumberedWeekday_114 (by decide) (fun c_18 => ?_) (fun c_18 => ?_)
    · have hm := (if_pos c_18).symm.trans hm
      exact h0 _ _ _ _ _ _ _ hm hP hS (lv_sub hl [0, 1, 2, 4, 5] rfl)
    · have hm := (if_neg c_18).symm.trans hm
      refine lv_aload_n hx hb dX8_hasNumberedWeekday_117 rfl (lv_at hl 0 rfl) ?_
      refine lv_iload hx hb dX8_hasNumberedWeekday_118 (lv_at hl 5 rfl) ?_
      refine lv_iconst (v := 1) hx hb dX8_hasNumberedWeekday_120 (by decide) ?_
      refine lv_iadd hx hb dX8_hasNumberedWeekday_121 ?_
      obtain ⟨r_19, e_19, hm⟩ := bd1_s hm
      refine goV_i (n := 1) (C := RX8) X (cM_yearOf e_19) (gV kw972 kw974 ks_yX8_yearOf kw9 kw975) (by decide +kernel) ⟨by decide, by decide⟩ (rcM hK hP) hP (dM hD) hS rfl rfl hl.1 (Nat.le_of_ble_eq_true rfl) dX8_hasNumberedWeekday_122 ⟨Nat.le_refl _, Nat.le_refl _⟩ (fun H locs hP _ hS => ?_)
      refine lv_aload_n hx hb dX8_hasNumberedWeekday_125 rfl (lv_at hl 0 rfl) ?_
      refine lv_iload_n hx hb dX8_hasNumberedWeekday_126 rfl (lv_at hl 1 rfl) ?_
      obtain ⟨r_20, e_20, hm⟩ := bd1_s hm
      refine goV_i (n := 1) (C := RX8) X (cM_yearOf e_20) (gV kw972 kw974 ks_yX8_yearOf kw9 kw975) (by decide +kernel) ⟨by decide, by decide⟩ (rcM hK hP) hP (dM hD) hS rfl rfl hl.1 (Nat.le_of_ble_eq_true rfl) dX8_hasNumberedWeekday_127 ⟨Nat.le_refl _, Nat.le_refl _⟩ (fun H locs hP _ hS => ?_)
      refine lv_icmp_ne (tgt := 159) hx hb dX8_hasNumberedWeekday_130 (by decide) (fun c_21 => ?_) (fun c_21 => ?_)
      · have hm := (if_neg c_21).symm.trans hm
        exact h0 _ _ _ _ _ _ _ hm hP hS (lv_sub hl [0, 1, 2, 4, 5] rfl)
      · have hm := (if_pos c_21).symm.trans hm
        refine lv_iload_n hx hb dX8_hasNumberedWeekday_133 rfl (lv_at hl 3 rfl) ?_
        refine lv_if_eq (tgt := 153) hx hb dX8_hasNumberedWeekday_134 (by decide) (fun c_22 => ?_) (fun c_22 => ?_)
        · have hm := (if_pos c_22).symm.trans hm
          refine lv_iinc (v := (x5 + 1)) (lv' := [(5, .int (x5 + 1)), (0, .ref (a 0)), (1, .int x1), (2, .int x2), (3, .int x3), (4, .int x4)]) hx hb dX8_hasNumberedWeekday_153 hl (k := 5) rfl (by first | rfl | decide) (by decide) rfl (fun ls hl => ?_)
          refine lv_goto (tgt := 108) hx hb dX8_hasNumberedWeekday_156 (by decide) ?_
          exact ih _ _ _ _ _ _ _ _ hm hP hS (lv_sub hl [1, 2, 3, 4, 5, 0] rfl)
        · have hm := (if_neg c_22).symm.trans hm
          refine lv_aload_n hx hb dX8_hasNumberedWeekday_137 rfl (lv_at hl 0 rfl) ?_
          refine lv_iload hx hb dX8_hasNumberedWeekday_138 (lv_at hl 5 rfl) ?_
          refine lv_iconst (v := 1) hx hb dX8_hasNumberedWeekday_140 (by decide) ?_
          refine lv_iadd hx hb dX8_hasNumberedWeekday_141 ?_
          obtain ⟨r_23, e_23, hm⟩ := bd1_s hm
          refine goV_i (n := 1) (C := RX8) X (cM_monthOf e_23) (gV kw976 kw978 ks_yX8_monthOf kw9 kw979) (by decide +kernel) ⟨by decide, by decide⟩ (rcM hK hP) hP (dM hD) hS rfl rfl hl.1 (Nat.le_of_ble_eq_true rfl) dX8_hasNumberedWeekday_142 ⟨Nat.le_refl _, Nat.le_refl _⟩ (fun H locs hP _ hS => ?_)
          refine lv_aload_n hx hb dX8_hasNumberedWeekday_145 rfl (lv_at hl 0 rfl) ?_
          refine lv_iload_n hx hb dX8_hasNumberedWeekday_146 rfl (lv_at hl 1 rfl) ?_
          obtain ⟨r_24, e_24, hm⟩ := bd1_s hm
          refine goV_i (n := 1) (C := RX8) X (cM_monthOf e_24) (gV kw976 kw978 ks_yX8_monthOf kw9 kw979) (by decide +kernel) ⟨by decide, by decide⟩ (rcM hK hP) hP (dM hD) hS rfl rfl hl.1 (Nat.le_of_ble_eq_true rfl) dX8_hasNumberedWeekday_147 ⟨Nat.le_refl _, Nat.le_refl _⟩ (fun H locs hP _ hS => ?_)
          refine lv_icmp_ne (tgt := 159) hx hb dX8_hasNumberedWeekday_150 (by decide) (fun c_25 => ?_) (fun c_25 => ?_)
          · have hm := (if_neg c_25).symm.trans hm
            exact h0 _ _ _ _ _ _ _ hm hP hS (lv_sub hl [0, 1, 2, 4, 5] rfl)
          · have hm := (if_pos c_25).symm.trans hm
            refine lv_iinc (v := (x5 + 1)) (lv' := [(5, .int (x5 + 1)), (0, .ref (a 0)), (1, .int x1), (2, .int x2), (3, .int x3), (4, .int x4)]) hx hb dX8_hasNumberedWeekday_153 hl (k := 5) rfl (by first | rfl | decide) (by decide) rfl (fun ls hl => ?_)
            refine lv_goto (tgt := 108) hx hb dX8_hasNumberedWeekday_156 (by decide) ?_
            exact ih _ _ _ _ _ _ _ _ hm hP hS (lv_sub hl [1, 2, 3, 4, 5, 0] rfl)
set_option maxHeartbeats 4000000 in
set_option maxRecDepth 100000 in
theorem bkM_hasNumberedWeekday_159 {p : Program} {l : Launch} {e : Env} {s : State} {m : MethodId} {args : Array Value} {below : List Frame} {meth : Method} {c : Code} {G : Ev} {a : Nat → Nat}  {q : Pc3} {L : List Nat} {r : Int32} {n : Nat} {x1 : Int32} {x2 : Int32} {x4 : Int32} {x5 : Int32} {H : Heap} {locs : List Loc} {ls : Array Slot} (X : CX p s m args meth c cX8_hasNumberedWeekday 8 (some .boolean) RX8 (.code yX8_hasNumberedWeekday cX8_hasNumberedWeekday 8 (some .boolean)) G (AL L s.heap.size)) (hD : va_D (AL L s.heap.size) (wM G a q)) (hm : moM_hasNumberedWeekday_B159 n q x1 x2 x4 x5  = some r) (hP : va_P (DD G) vwCl (wM G a q) H) (hS : va_S (AL L s.heap.size) s.heap H locs) (hl : lv_has ls 8 [(0, .ref (a 0)), (1, .int x1), (2, .int x2), (4, .int x4), (5, .int x5)]) : W p l e { frames := 1, cells := 0, slots := 0, locals := 21 } s m args below meth c H locs 0 0 (MQ below (va_Qi (fun r' (_ : Unit) => r' = r) (fun _ t => va_P (DD G) vwCl (wM G a q) t.heap) (AL L s.heap.size)) args s 0 0 (AL L s.heap.size)) (F0 m 159 ls []) := by
  obtain ⟨⟨hx, hb, hml, hown, hts⟩, hK, hr, hlk, hA, hAs, hSta⟩ := id X
  unfold moM_hasNumberedWeekday_B159 at hm
  refine lv_iload_n hx hb dX8_hasNumberedWeekday_159 rfl (lv_at hl 1 rfl) ?_
  refine lv_iload hx hb dX8_hasNumberedWeekday_160 (lv_at hl 3 rfl) ?_
  refine lv_isub hx hb dX8_hasNumberedWeekday_162 ?_
  refine lv_bipush (v := 7) hx hb dX8_hasNumberedWeekday_163 (by decide) ?_
  refine lv_idiv hx hb dX8_hasNumberedWeekday_165 (by decide) ?_
  refine lv_iconst (v := 1) hx hb dX8_hasNumberedWeekday_166 (by decide) ?_
  refine lv_iadd hx hb dX8_hasNumberedWeekday_167 ?_
  refine lv_istore (lv' := [(6, .int (((x1 - x4) / 7) + 1)), (0, .ref (a 0)), (1, .int x1), (2, .int x2), (4, .int x4), (5, .int x5)]) hx hb dX8_hasNumberedWeekday_168 hl (by decide) rfl (fun ls hl => ?_)
  refine lv_iload hx hb dX8_hasNumberedWeekday_170 (lv_at hl 5 rfl) ?_
  refine lv_iload_n hx hb dX8_hasNumberedWeekday_172 rfl (lv_at hl 2 rfl) ?_
  refine lv_isub hx hb dX8_hasNumberedWeekday_173 ?_
  refine lv_bipush (v := 7) hx hb dX8_hasNumberedWeekday_174 (by decide) ?_
  refine lv_idiv hx hb dX8_hasNumberedWeekday_176 (by decide) ?_
  refine lv_iconst (v := 1) hx hb dX8_hasNumberedWeekday_177 (by decide) ?_
  refine lv_iadd hx hb dX8_hasNumberedWeekday_178 ?_
  refine lv_istore (lv' := [(7, .int (((x5 - x1) / 7) + 1)), (6, .int (((x1 - x4) / 7) + 1)), (0, .ref (a 0)), (1, .int x1), (2, .int x2), (4, .int x4), (5, .int x5)]) hx hb dX8_hasNumberedWeekday_179 hl (by decide) rfl (fun ls hl => ?_)
  refine lv_aload_n hx hb dX8_hasNumberedWeekday_181 rfl (lv_at hl 2 rfl) ?_
  refine gM_numbered X hP dX8_hasNumberedWeekday_182 ?_
  refine lv_if_eq (tgt := 228) hx hb dX8_hasNumberedWeekday_185 (by decide) (fun c_27 => ?_) (fun c_27 => ?_)
  · have hm := (if_pos c_27).symm.trans hm
    refine lv_iconst (v := 0) hx hb dX8_hasNumberedWeekday_228 (by decide) ?_
    exact ret_zo (wf := wM G a) X (by decide) hm hP hS dX8_hasNumberedWeekday_229
  · have hm := (if_neg c_27).symm.trans hm
    refine lv_aload_n hx hb dX8_hasNumberedWeekday_188 rfl (lv_at hl 2 rfl) ?_
    refine gM_weekdays X hP dX8_hasNumberedWeekday_189 ?_
    refine lv_bipush (v := 107) hx hb dX8_hasNumberedWeekday_192 (by decide) ?_
    refine lv_iload_n hx hb dX8_hasNumberedWeekday_194 rfl (lv_at hl 4 rfl) ?_
    refine lv_imul hx hb dX8_hasNumberedWeekday_195 ?_
    refine lv_bipush (v := 53) hx hb dX8_hasNumberedWeekday_196 (by decide) ?_
    refine lv_iadd hx hb dX8_hasNumberedWeekday_198 ?_
    refine lv_iload hx hb dX8_hasNumberedWeekday_199 (lv_at hl 1 rfl) ?_
    refine lv_iadd hx hb dX8_hasNumberedWeekday_201 ?_
    obtain ⟨hi_28, hm⟩ := gi_s hm
    refine ldM_weekdays X hP hi_28 dX8_hasNumberedWeekday_202 ?_
    refine lv_if_ne (tgt := 224) hx hb dX8_hasNumberedWeekday_203 (by decide) (fun c_29 => ?_) (fun c_29 => ?_)
    · have hm := (if_neg c_29).symm.trans hm
      refine lv_iconst (v := 1) hx hb dX8_hasNumberedWeekday_224 (by decide) ?_
      refine lv_goto (tgt := 229) hx hb dX8_hasNumberedWeekday_225 (by decide) ?_
      exact ret_zo (wf := wM G a) X (by decide) hm hP hS dX8_hasNumberedWeekday_229
    · have hm := (if_pos c_29).symm.trans hm
      refine lv_aload_n hx hb dX8_hasNumberedWeekday_206 rfl (lv_at hl 2 rfl) ?_
      refine gM_weekdays X hP dX8_hasNumberedWeekday_207 ?_
      refine lv_bipush (v := 107) hx hb dX8_hasNumberedWeekday_210 (by decide) ?_
      refine lv_iload_n hx hb dX8_hasNumberedWeekday_212 rfl (lv_at hl 4 rfl) ?_
      refine lv_imul hx hb dX8_hasNumberedWeekday_213 ?_
      refine lv_bipush (v := 53) hx hb dX8_hasNumberedWeekday_214 (by decide) ?_
      refine lv_iadd hx hb dX8_hasNumberedWeekday_216 ?_
      refine lv_iload hx hb dX8_hasNumberedWeekday_217 (lv_at hl 0 rfl) ?_
      refine lv_isub hx hb dX8_hasNumberedWeekday_219 ?_
      obtain ⟨hi_30, hm⟩ := gi_s hm
      refine ldM_weekdays X hP hi_30 dX8_hasNumberedWeekday_220 ?_
      refine lv_if_eq (tgt := 228) hx hb dX8_hasNumberedWeekday_221 (by decide) (fun c_31 => ?_) (fun c_31 => ?_)
      · have hm := (if_pos c_31).symm.trans hm
        refine lv_iconst (v := 0) hx hb dX8_hasNumberedWeekday_228 (by decide) ?_
        exact ret_zo (wf := wM G a) X (by decide) hm hP hS dX8_hasNumberedWeekday_229
      · have hm := (if_neg c_31).symm.trans hm
        refine lv_iconst (v := 1) hx hb dX8_hasNumberedWeekday_224 (by decide) ?_
        refine lv_goto (tgt := 229) hx hb dX8_hasNumberedWeekday_225 (by decide) ?_
        exact ret_zo (wf := wM G a) X (by decide) hm hP hS dX8_hasNumberedWeekday_229
set_option maxHeartbeats 4000000 in
set_option maxRecDepth 100000 in
theorem bkM_hasNumberedWeekday_44 {p : Program} {l : Launch} {e : Env} {s : State} {m : MethodId} {args : Array Value} {below : List Frame} {meth : Method} {c : Code} {G : Ev} {a : Nat → Nat}  {q : Pc3} {L : List Nat} {r : Int32} {n : Nat} {x1 : Int32} {x2 : Int32} {t0 : Int32} {H : Heap} {locs : List Loc} {ls : Array Slot} (X : CX p s m args meth c cX8_hasNumberedWeekday 8 (some .boolean) RX8 (.code yX8_hasNumberedWeekday cX8_hasNumberedWeekday 8 (some .boolean)) G (AL L s.heap.size)) (hD : va_D (AL L s.heap.size) (wM G a q)) (hm : moM_hasNumberedWeekday_B44 n q x1 x2 t0  = some r) (hP : va_P (DD G) vwCl (wM G a q) H) (hS : va_S (AL L s.heap.size) s.heap H locs) (hl : lv_has ls 8 [(0, .ref (a 0)), (1, .int x1), (2, .int x2)]) : W p l e { frames := 1, cells := 0, slots := 0, locals := 21 } s m args below meth c H locs 0 0 (MQ below (va_Qi (fun r' (_ : Unit) => r' = r) (fun _ t => va_P (DD G) vwCl (wM G a q) t.heap) (AL L s.heap.size)) args s 0 0 (AL L s.heap.size)) (F0 m 44 ls [.int t0]) := by
  obtain ⟨⟨hx, hb, hml, hown, hts⟩, hK, hr, hlk, hA, hAs, hSta⟩ := id X
  unfold moM_hasNumberedWeekday_B44 at hm
  refine lv_istore_n (lv' := [(3, .int t0), (0, .ref (a 0)), (1, .int x1), (2, .int x2)]) hx hb dX8_hasNumberedWeekday_44 rfl hl (by decide) rfl (fun ls hl => ?_)
  refine lv_iload_n hx hb dX8_hasNumberedWeekday_45 rfl (lv_at hl 2 rfl) ?_
  refine lv_istore (lv' := [(4, .int x1), (3, .int t0), (0, .ref (a 0)), (1, .int x1), (2, .int x2)]) hx hb dX8_hasNumberedWeekday_46 hl (by decide) rfl (fun ls hl => ?_)
  refine lv_iload_n hx hb dX8_hasNumberedWeekday_48 rfl (lv_at hl 3 rfl) ?_
  refine lv_istore (lv' := [(5, .int x1), (4, .int x1), (3, .int t0), (0, .ref (a 0)), (1, .int x1), (2, .int x2)]) hx hb dX8_hasNumberedWeekday_49 hl (by decide) rfl (fun ls hl => ?_)
  refine lpM_hasNumberedWeekday_51 X hD (fun z17_1 z17_2 z17_3 z17_4 z17_5 H locs ls hm hP hS hl => ?_) n _ _ _ _ _ _ _ _ hm hP hS (lv_sub hl [3, 4, 5, 2, 1, 0] rfl)
  refine lpM_hasNumberedWeekday_108 X hD (fun z26_1 z26_2 z26_4 z26_5 H locs ls hm hP hS hl => ?_) n _ _ _ _ _ _ _ _ hm hP hS (lv_sub hl [0, 1, 2, 3, 4, 5] rfl)
  exact bkM_hasNumberedWeekday_159 X hD hm hP hS (lv_sub hl [0, 1, 2, 3, 4] rfl)
set_option maxHeartbeats 4000000 in
set_option maxRecDepth 100000 in
theorem cM_hasNumberedWeekday {l : Launch} {G : Ev} {a : Nat → Nat} {n : Nat} {q : Pc3} {x1 : Int32} {r : Int32} (hm : moM_hasNumberedWeekday n x1 q = some r) : CtI l G yX8_hasNumberedWeekday cX8_hasNumberedWeekday 8 (some .boolean) 1 21 0 0 [.ref (a 0), .int x1] (wM G a q) (wM G a q) r := by
  intro sz
  refine enter (by decide) (Nat.le_of_ble_eq_true rfl) ?_
  intro p e s m args below meth c ls X hsz hP hD hS hl
  subst hsz
  obtain ⟨⟨hx, hb, hml, hown, hts⟩, hK, hr, hlk, hA, hAs, hSta⟩ := id X
  have hl : lv_has ls 8 [(0, .ref (a 0)), (1, .int x1)] := hl
  unfold moM_hasNumberedWeekday at hm
  refine lv_iload_n hx hb dX8_hasNumberedWeekday_0 rfl (lv_at hl 1 rfl) ?_
  refine lv_bipush (v := 7) hx hb dX8_hasNumberedWeekday_1 (by decide) ?_
  refine lv_irem hx hb dX8_hasNumberedWeekday_3 (by decide) ?_
  refine lv_istore_n (lv' := [(2, .int (rmI x1 7)), (0, .ref (a 0)), (1, .int x1)]) hx hb dX8_hasNumberedWeekday_4 rfl hl (by decide) rfl (fun ls hl => ?_)
  refine lv_aload_n hx hb dX8_hasNumberedWeekday_5 rfl (lv_at hl 1 rfl) ?_
  refine gM_weekdays X hP dX8_hasNumberedWeekday_6 ?_
  refine lv_bipush (v := 107) hx hb dX8_hasNumberedWeekday_9 (by decide) ?_
  refine lv_iload_n hx hb dX8_hasNumberedWeekday_11 rfl (lv_at hl 0 rfl) ?_
  refine lv_imul hx hb dX8_hasNumberedWeekday_12 ?_
  refine lv_bipush (v := 53) hx hb dX8_hasNumberedWeekday_13 (by decide) ?_
  refine lv_iadd hx hb dX8_hasNumberedWeekday_15 ?_
  obtain ⟨hi_1, hm⟩ := gi_s hm
  refine ldM_weekdays X hP hi_1 dX8_hasNumberedWeekday_16 ?_
  refine lv_if_eq (tgt := 22) hx hb dX8_hasNumberedWeekday_17 (by decide) (fun c_2 => ?_) (fun c_2 => ?_)
  · have hm := (if_pos c_2).symm.trans hm
    refine lv_aload_n hx hb dX8_hasNumberedWeekday_22 rfl (lv_at hl 1 rfl) ?_
    refine gM_freq X hP dX8_hasNumberedWeekday_23 ?_
    refine lv_iconst (v := 2) hx hb dX8_hasNumberedWeekday_26 (by decide) ?_
    refine lv_icmp_eq (tgt := 39) hx hb dX8_hasNumberedWeekday_27 (by decide) (fun c_3 => ?_) (fun c_3 => ?_)
    · have hm := (if_pos c_3).symm.trans hm
      refine lv_iconst (v := 1) hx hb dX8_hasNumberedWeekday_39 (by decide) ?_
      refine lv_goto (tgt := 44) hx hb dX8_hasNumberedWeekday_40 (by decide) ?_
      exact bkM_hasNumberedWeekday_44 X hD hm hP hS (lv_sub hl [1, 2, 0] rfl)
    · have hm := (if_neg c_3).symm.trans hm
      refine lv_aload_n hx hb dX8_hasNumberedWeekday_30 rfl (lv_at hl 1 rfl) ?_
      refine gM_has X hP dX8_hasNumberedWeekday_31 ?_
      refine lv_iconst (v := 4) hx hb dX8_hasNumberedWeekday_34 (by decide) ?_
      obtain ⟨hi_32, hm⟩ := gi_s hm
      refine ldM_has X hP hi_32 dX8_hasNumberedWeekday_35 ?_
      refine lv_if_eq (tgt := 43) hx hb dX8_hasNumberedWeekday_36 (by decide) (fun c_33 => ?_) (fun c_33 => ?_)
      · have hm := (if_pos c_33).symm.trans hm
        refine lv_iconst (v := 0) hx hb dX8_hasNumberedWeekday_43 (by decide) ?_
        exact bkM_hasNumberedWeekday_44 X hD hm hP hS (lv_sub hl [1, 2, 0] rfl)
      · have hm := (if_neg c_33).symm.trans hm
        refine lv_iconst (v := 1) hx hb dX8_hasNumberedWeekday_39 (by decide) ?_
        refine lv_goto (tgt := 44) hx hb dX8_hasNumberedWeekday_40 (by decide) ?_
        exact bkM_hasNumberedWeekday_44 X hD hm hP hS (lv_sub hl [1, 2, 0] rfl)
  · have hm := (if_neg c_2).symm.trans hm
    refine lv_iconst (v := 1) hx hb dX8_hasNumberedWeekday_20 (by decide) ?_
    exact ret_zo (wf := wM G a) X (by decide) hm hP hS dX8_hasNumberedWeekday_21

-- suits
def moM_suits_B80 (n : Nat) (q : Pc3) (x1 : Int32)  : Option (Int32) :=
  (bd1 (moM_monthDayOf n x1 q) fun r_6 => (bd1 (moM_yearOf n x1 q) fun r_7 => (bd1 (moM_monthOf n x1 q) fun r_8 => (bd1 (moM_monthLength n r_7 r_8 q) fun r_9 => (gi 5 8 (if (rA q 8 5) = 0 then (if (rS q 9) < 2 then (gi 7 8 (if (rA q 8 7) = 0 then (if (rS q 9) = 1 then (if (rmI x1 7) = (rmI (rS q 18) 7) then (some 1) else (some 0)) else (some 1)) else (bd1 (moM_hasNumberedWeekday n x1 q) fun r_17 => (gb r_17 (some r_17))))) else (gi 7 8 (if (rA q 8 7) = 0 then (bd1 (moM_monthDayOf n (rS q 18) q) fun r_27 => (if r_6 = r_27 then (gi 7 8 (if (rA q 8 7) = 0 then (if (rS q 9) = 1 then (if (rmI x1 7) = (rmI (rS q 18) 7) then (some 1) else (some 0)) else (some 1)) else (bd1 (moM_hasNumberedWeekday n x1 q) fun r_33 => (gb r_33 (some r_33))))) else (some 0))) else (gi 7 8 (if (rA q 8 7) = 0 then (if (rS q 9) = 1 then (if (rmI x1 7) = (rmI (rS q 18) 7) then (some 1) else (some 0)) else (some 1)) else (bd1 (moM_hasNumberedWeekday n x1 q) fun r_25 => (gb r_25 (some r_25)))))))) else (gi (31 + r_6) 63 (if (rA q 14 (31 + r_6)) = 0 then (gi (31 - ((r_9 - r_6) + 1)) 63 (if (rA q 14 (31 - ((r_9 - r_6) + 1))) = 0 then (some 0) else (gi 7 8 (if (rA q 8 7) = 0 then (if (rS q 9) = 1 then (if (rmI x1 7) = (rmI (rS q 18) 7) then (some 1) else (some 0)) else (some 1)) else (bd1 (moM_hasNumberedWeekday n x1 q) fun r_49 => (gb r_49 (some r_49))))))) else (gi 7 8 (if (rA q 8 7) = 0 then (if (rS q 9) = 1 then (if (rmI x1 7) = (rmI (rS q 18) 7) then (some 1) else (some 0)) else (some 1)) else (bd1 (moM_hasNumberedWeekday n x1 q) fun r_41 => (gb r_41 (some r_41)))))))))))))
def moM_suits (n : Nat) (x1 : Int32) (q : Pc3) : Option (Int32) :=
  (gi 5 8 (if (rA q 8 5) = 0 then (gi 7 8 (if (rA q 8 7) = 0 then (gi 4 8 (if (rA q 8 4) = 0 then (if (rS q 9) = 3 then (bd1 (moM_monthOf n x1 q) fun r_65 => (bd1 (moM_monthOf n (rS q 18) q) fun r_66 => (if r_65 = r_66 then (moM_suits_B80 n q x1 ) else (some 0)))) else (moM_suits_B80 n q x1 )) else (bd1 (moM_monthOf n x1 q) fun r_68 => (gi r_68 13 (if (rA q 13 r_68) = 0 then (some 0) else (moM_suits_B80 n q x1 )))))) else (gi 4 8 (if (rA q 8 4) = 0 then (if (rS q 9) = 3 then (moM_suits_B80 n q x1 ) else (moM_suits_B80 n q x1 )) else (bd1 (moM_monthOf n x1 q) fun r_59 => (gi r_59 13 (if (rA q 13 r_59) = 0 then (some 0) else (moM_suits_B80 n q x1 )))))))) else (gi 4 8 (if (rA q 8 4) = 0 then (if (rS q 9) = 3 then (moM_suits_B80 n q x1 ) else (moM_suits_B80 n q x1 )) else (bd1 (moM_monthOf n x1 q) fun r_51 => (gi r_51 13 (if (rA q 13 r_51) = 0 then (some 0) else (moM_suits_B80 n q x1 ))))))))
set_option maxHeartbeats 4000000 in
set_option maxRecDepth 100000 in
theorem bkM_suits_80 {p : Program} {l : Launch} {e : Env} {s : State} {m : MethodId} {args : Array Value} {below : List Frame} {meth : Method} {c : Code} {G : Ev} {a : Nat → Nat}  {q : Pc3} {L : List Nat} {r : Int32} {n : Nat} {x1 : Int32} {H : Heap} {locs : List Loc} {ls : Array Slot} (X : CX p s m args meth c cX8_suits 5 (some .boolean) RX8 (.code yX8_suits cX8_suits 5 (some .boolean)) G (AL L s.heap.size)) (hD : va_D (AL L s.heap.size) (wM G a q)) (hm : moM_suits_B80 n q x1  = some r) (hP : va_P (DD G) vwCl (wM G a q) H) (hS : va_S (AL L s.heap.size) s.heap H locs) (hl : lv_has ls 5 [(0, .ref (a 0)), (1, .int x1)]) : W p l e { frames := 2, cells := 0, slots := 0, locals := 48 } s m args below meth c H locs 0 0 (MQ below (va_Qi (fun r' (_ : Unit) => r' = r) (fun _ t => va_P (DD G) vwCl (wM G a q) t.heap) (AL L s.heap.size)) args s 0 0 (AL L s.heap.size)) (F0 m 80 ls []) := by
  obtain ⟨⟨hx, hb, hml, hown, hts⟩, hK, hr, hlk, hA, hAs, hSta⟩ := id X
  unfold moM_suits_B80 at hm
  refine lv_aload_n hx hb dX8_suits_80 rfl (lv_at hl 0 rfl) ?_
  refine lv_iload_n hx hb dX8_suits_81 rfl (lv_at hl 1 rfl) ?_
  obtain ⟨r_6, e_6, hm⟩ := bd1_s hm
  refine goV_i (n := 1) (C := RX8) X (cM_monthDayOf e_6) (gV kw984 kw986 ks_yX8_monthDayOf kw9 kw987) (by decide +kernel) ⟨by decide, by decide⟩ (rcM hK hP) hP (dM hD) hS rfl rfl hl.1 (Nat.le_of_ble_eq_true rfl) dX8_suits_82 ⟨Nat.le_refl _, Nat.le_refl _⟩ (fun H locs hP _ hS => ?_)
  refine lv_istore_n (lv' := [(3, .int r_6), (0, .ref (a 0)), (1, .int x1)]) hx hb dX8_suits_85 rfl hl (by decide) rfl (fun ls hl => ?_)
  refine lv_aload_n hx hb dX8_suits_86 rfl (lv_at hl 1 rfl) ?_
  refine lv_aload_n hx hb dX8_suits_87 rfl (lv_at hl 1 rfl) ?_
  refine lv_iload_n hx hb dX8_suits_88 rfl (lv_at hl 2 rfl) ?_
  obtain ⟨r_7, e_7, hm⟩ := bd1_s hm
  refine goV_i (n := 1) (C := RX8) X (cM_yearOf e_7) (gV kw972 kw974 ks_yX8_yearOf kw9 kw975) (by decide +kernel) ⟨by decide, by decide⟩ (rcM hK hP) hP (dM hD) hS rfl rfl hl.1 (Nat.le_of_ble_eq_true rfl) dX8_suits_89 ⟨Nat.le_refl _, Nat.le_refl _⟩ (fun H locs hP _ hS => ?_)
  refine lv_aload_n hx hb dX8_suits_92 rfl (lv_at hl 1 rfl) ?_
  refine lv_iload_n hx hb dX8_suits_93 rfl (lv_at hl 2 rfl) ?_
  obtain ⟨r_8, e_8, hm⟩ := bd1_s hm
  refine goV_i (n := 1) (C := RX8) X (cM_monthOf e_8) (gV kw976 kw978 ks_yX8_monthOf kw9 kw979) (by decide +kernel) ⟨by decide, by decide⟩ (rcM hK hP) hP (dM hD) hS rfl rfl hl.1 (Nat.le_of_ble_eq_true rfl) dX8_suits_94 ⟨Nat.le_refl _, Nat.le_refl _⟩ (fun H locs hP _ hS => ?_)
  obtain ⟨r_9, e_9, hm⟩ := bd1_s hm
  refine goV_i (n := 2) (C := RX8) X (cM_monthLength e_9) (gV kw781 kw783 ks_yX8_monthLength kw9 kw784) (by decide +kernel) ⟨by decide, by decide⟩ (rcM hK hP) hP (dM hD) hS rfl rfl hl.1 (Nat.le_of_ble_eq_true rfl) dX8_suits_97 ⟨Nat.le_refl _, Nat.le_refl _⟩ (fun H locs hP _ hS => ?_)
  refine lv_iload_n hx hb dX8_suits_100 rfl (lv_at hl 0 rfl) ?_
  refine lv_isub hx hb dX8_suits_101 ?_
  refine lv_iconst (v := 1) hx hb dX8_suits_102 (by decide) ?_
  refine lv_iadd hx hb dX8_suits_103 ?_
  refine lv_istore (lv' := [(4, .int ((r_9 - r_6) + 1)), (3, .int r_6), (0, .ref (a 0)), (1, .int x1)]) hx hb dX8_suits_104 hl (by decide) rfl (fun ls hl => ?_)
  refine lv_aload_n hx hb dX8_suits_106 rfl (lv_at hl 2 rfl) ?_
  refine gM_has X hP dX8_suits_107 ?_
  refine lv_iconst (v := 5) hx hb dX8_suits_110 (by decide) ?_
  obtain ⟨hi_10, hm⟩ := gi_s hm
  refine ldM_has X hP hi_10 dX8_suits_111 ?_
  refine lv_if_eq (tgt := 143) hx hb dX8_suits_112 (by decide) (fun c_11 => ?_) (fun c_11 => ?_)
  · have hm := (if_pos c_11).symm.trans hm
    refine lv_aload_n hx hb dX8_suits_143 rfl (lv_at hl 2 rfl) ?_
    refine gM_freq X hP dX8_suits_144 ?_
    refine lv_iconst (v := 2) hx hb dX8_suits_147 (by decide) ?_
    refine lv_icmp_lt (tgt := 175) hx hb dX8_suits_148 (by decide) (fun c_12 => ?_) (fun c_12 => ?_)
    · have hm := (if_pos c_12).symm.trans hm
      refine lv_aload_n hx hb dX8_suits_175 rfl (lv_at hl 2 rfl) ?_
      refine gM_has X hP dX8_suits_176 ?_
      refine lv_bipush (v := 7) hx hb dX8_suits_179 (by decide) ?_
      obtain ⟨hi_13, hm⟩ := gi_s hm
      refine ldM_has X hP hi_13 dX8_suits_181 ?_
      refine lv_if_eq (tgt := 193) hx hb dX8_suits_182 (by decide) (fun c_14 => ?_) (fun c_14 => ?_)
      · have hm := (if_pos c_14).symm.trans hm
        refine lv_aload_n hx hb dX8_suits_193 rfl (lv_at hl 2 rfl) ?_
        refine gM_freq X hP dX8_suits_194 ?_
        refine lv_iconst (v := 1) hx hb dX8_suits_197 (by decide) ?_
        refine lv_icmp_ne (tgt := 215) hx hb dX8_suits_198 (by decide) (fun c_15 => ?_) (fun c_15 => ?_)
        · have hm := (if_neg c_15).symm.trans hm
          refine lv_iconst (v := 1) hx hb dX8_suits_215 (by decide) ?_
          refine lv_goto (tgt := 220) hx hb dX8_suits_216 (by decide) ?_
          exact ret_zo (wf := wM G a) X (by decide) hm hP hS dX8_suits_220
        · have hm := (if_pos c_15).symm.trans hm
          refine lv_iload_n hx hb dX8_suits_201 rfl (lv_at hl 3 rfl) ?_
          refine lv_bipush (v := 7) hx hb dX8_suits_202 (by decide) ?_
          refine lv_irem hx hb dX8_suits_204 (by decide) ?_
          refine lv_aload_n hx hb dX8_suits_205 rfl (lv_at hl 2 rfl) ?_
          refine gM_start X hP dX8_suits_206 ?_
          refine lv_bipush (v := 7) hx hb dX8_suits_209 (by decide) ?_
          refine lv_irem hx hb dX8_suits_211 (by decide) ?_
          refine lv_icmp_ne (tgt := 219) hx hb dX8_suits_212 (by decide) (fun c_16 => ?_) (fun c_16 => ?_)
          · have hm := (if_neg c_16).symm.trans hm
            refine lv_iconst (v := 0) hx hb dX8_suits_219 (by decide) ?_
            exact ret_zo (wf := wM G a) X (by decide) hm hP hS dX8_suits_220
          · have hm := (if_pos c_16).symm.trans hm
            refine lv_iconst (v := 1) hx hb dX8_suits_215 (by decide) ?_
            refine lv_goto (tgt := 220) hx hb dX8_suits_216 (by decide) ?_
            exact ret_zo (wf := wM G a) X (by decide) hm hP hS dX8_suits_220
      · have hm := (if_neg c_14).symm.trans hm
        refine lv_aload_n hx hb dX8_suits_185 rfl (lv_at hl 2 rfl) ?_
        refine lv_iload_n hx hb dX8_suits_186 rfl (lv_at hl 3 rfl) ?_
        obtain ⟨r_17, e_17, hm⟩ := bd1_s hm
        refine goV_i (n := 1) (C := RX8) X (cM_hasNumberedWeekday e_17) (gV kw988 kw990 ks_yX8_hasNumberedWeekday kw9 kw991) (by decide +kernel) ⟨by decide, by decide⟩ (rcM hK hP) hP (dM hD) hS rfl rfl hl.1 (Nat.le_of_ble_eq_true rfl) dX8_suits_187 ⟨Nat.le_refl _, Nat.le_refl _⟩ (fun H locs hP _ hS => ?_)
        refine lv_goto (tgt := 220) hx hb dX8_suits_190 (by decide) ?_
        obtain ⟨hz_18, hm⟩ := gb_s hm
        exact ret_zo (wf := wM G a) X hz_18 hm hP hS dX8_suits_220
    · have hm := (if_neg c_12).symm.trans hm
      refine lv_aload_n hx hb dX8_suits_151 rfl (lv_at hl 2 rfl) ?_
      refine gM_has X hP dX8_suits_152 ?_
      refine lv_bipush (v := 7) hx hb dX8_suits_155 (by decide) ?_
      obtain ⟨hi_19, hm⟩ := gi_s hm
      refine ldM_has X hP hi_19 dX8_suits_157 ?_
      refine lv_if_ne (tgt := 175) hx hb dX8_suits_158 (by decide) (fun c_20 => ?_) (fun c_20 => ?_)
      · have hm := (if_neg c_20).symm.trans hm
        refine lv_aload_n hx hb dX8_suits_175 rfl (lv_at hl 2 rfl) ?_
        refine gM_has X hP dX8_suits_176 ?_
        refine lv_bipush (v := 7) hx hb dX8_suits_179 (by decide) ?_
        obtain ⟨hi_21, hm⟩ := gi_s hm
        refine ldM_has X hP hi_21 dX8_suits_181 ?_
        refine lv_if_eq (tgt := 193) hx hb dX8_suits_182 (by decide) (fun c_22 => ?_) (fun c_22 => ?_)
        · have hm := (if_pos c_22).symm.trans hm
          refine lv_aload_n hx hb dX8_suits_193 rfl (lv_at hl 2 rfl) ?_
          refine gM_freq X hP dX8_suits_194 ?_
          refine lv_iconst (v := 1) hx hb dX8_suits_197 (by decide) ?_
          refine lv_icmp_ne (tgt := 215) hx hb dX8_suits_198 (by decide) (fun c_23 => ?_) (fun c_23 => ?_)
          · have hm := (if_neg c_23).symm.trans hm
            refine lv_iconst (v := 1) hx hb dX8_suits_215 (by decide) ?_
            refine lv_goto (tgt := 220) hx hb dX8_suits_216 (by decide) ?_
            exact ret_zo (wf := wM G a) X (by decide) hm hP hS dX8_suits_220
          · have hm := (if_pos c_23).symm.trans hm
            refine lv_iload_n hx hb dX8_suits_201 rfl (lv_at hl 3 rfl) ?_
            refine lv_bipush (v := 7) hx hb dX8_suits_202 (by decide) ?_
            refine lv_irem hx hb dX8_suits_204 (by decide) ?_
            refine lv_aload_n hx hb dX8_suits_205 rfl (lv_at hl 2 rfl) ?_
            refine gM_start X hP dX8_suits_206 ?_
            refine lv_bipush (v := 7) hx hb dX8_suits_209 (by decide) ?_
            refine lv_irem hx hb dX8_suits_211 (by decide) ?_
            refine lv_icmp_ne (tgt := 219) hx hb dX8_suits_212 (by decide) (fun c_24 => ?_) (fun c_24 => ?_)
            · have hm := (if_neg c_24).symm.trans hm
              refine lv_iconst (v := 0) hx hb dX8_suits_219 (by decide) ?_
              exact ret_zo (wf := wM G a) X (by decide) hm hP hS dX8_suits_220
            · have hm := (if_pos c_24).symm.trans hm
              refine lv_iconst (v := 1) hx hb dX8_suits_215 (by decide) ?_
              refine lv_goto (tgt := 220) hx hb dX8_suits_216 (by decide) ?_
              exact ret_zo (wf := wM G a) X (by decide) hm hP hS dX8_suits_220
        · have hm := (if_neg c_22).symm.trans hm
          refine lv_aload_n hx hb dX8_suits_185 rfl (lv_at hl 2 rfl) ?_
          refine lv_iload_n hx hb dX8_suits_186 rfl (lv_at hl 3 rfl) ?_
          obtain ⟨r_25, e_25, hm⟩ := bd1_s hm
          refine goV_i (n := 1) (C := RX8) X (cM_hasNumberedWeekday e_25) (gV kw988 kw990 ks_yX8_hasNumberedWeekday kw9 kw991) (by decide +kernel) ⟨by decide, by decide⟩ (rcM hK hP) hP (dM hD) hS rfl rfl hl.1 (Nat.le_of_ble_eq_true rfl) dX8_suits_187 ⟨Nat.le_refl _, Nat.le_refl _⟩ (fun H locs hP _ hS => ?_)
          refine lv_goto (tgt := 220) hx hb dX8_suits_190 (by decide) ?_
          obtain ⟨hz_26, hm⟩ := gb_s hm
          exact ret_zo (wf := wM G a) X hz_26 hm hP hS dX8_suits_220
      · have hm := (if_pos c_20).symm.trans hm
        refine lv_iload_n hx hb dX8_suits_161 rfl (lv_at hl 1 rfl) ?_
        refine lv_aload_n hx hb dX8_suits_162 rfl (lv_at hl 2 rfl) ?_
        refine lv_aload_n hx hb dX8_suits_163 rfl (lv_at hl 2 rfl) ?_
        refine gM_start X hP dX8_suits_164 ?_
        obtain ⟨r_27, e_27, hm⟩ := bd1_s hm
        refine goV_i (n := 1) (C := RX8) X (cM_monthDayOf e_27) (gV kw984 kw986 ks_yX8_monthDayOf kw9 kw987) (by decide +kernel) ⟨by decide, by decide⟩ (rcM hK hP) hP (dM hD) hS rfl rfl hl.1 (Nat.le_of_ble_eq_true rfl) dX8_suits_167 ⟨Nat.le_refl _, Nat.le_refl _⟩ (fun H locs hP _ hS => ?_)
        refine lv_icmp_eq (tgt := 175) hx hb dX8_suits_170 (by decide) (fun c_28 => ?_) (fun c_28 => ?_)
        · have hm := (if_pos c_28).symm.trans hm
          refine lv_aload_n hx hb dX8_suits_175 rfl (lv_at hl 2 rfl) ?_
          refine gM_has X hP dX8_suits_176 ?_
          refine lv_bipush (v := 7) hx hb dX8_suits_179 (by decide) ?_
          obtain ⟨hi_29, hm⟩ := gi_s hm
          refine ldM_has X hP hi_29 dX8_suits_181 ?_
          refine lv_if_eq (tgt := 193) hx hb dX8_suits_182 (by decide) (fun c_30 => ?_) (fun c_30 => ?_)
          · have hm := (if_pos c_30).symm.trans hm
            refine lv_aload_n hx hb dX8_suits_193 rfl (lv_at hl 2 rfl) ?_
            refine gM_freq X hP dX8_suits_194 ?_
            refine lv_iconst (v := 1) hx hb dX8_suits_197 (by decide) ?_
            refine lv_icmp_ne (tgt := 215) hx hb dX8_suits_198 (by decide) (fun c_31 => ?_) (fun c_31 => ?_)
            · have hm := (if_neg c_31).symm.trans hm
              refine lv_iconst (v := 1) hx hb dX8_suits_215 (by decide) ?_
              refine lv_goto (tgt := 220) hx hb dX8_suits_216 (by decide) ?_
              exact ret_zo (wf := wM G a) X (by decide) hm hP hS dX8_suits_220
            · have hm := (if_pos c_31).symm.trans hm
              refine lv_iload_n hx hb dX8_suits_201 rfl (lv_at hl 3 rfl) ?_
              refine lv_bipush (v := 7) hx hb dX8_suits_202 (by decide) ?_
              refine lv_irem hx hb dX8_suits_204 (by decide) ?_
              refine lv_aload_n hx hb dX8_suits_205 rfl (lv_at hl 2 rfl) ?_
              refine gM_start X hP dX8_suits_206 ?_
              refine lv_bipush (v := 7) hx hb dX8_suits_209 (by decide) ?_
              refine lv_irem hx hb dX8_suits_211 (by decide) ?_
              refine lv_icmp_ne (tgt := 219) hx hb dX8_suits_212 (by decide) (fun c_32 => ?_) (fun c_32 => ?_)
              · have hm := (if_neg c_32).symm.trans hm
                refine lv_iconst (v := 0) hx hb dX8_suits_219 (by decide) ?_
                exact ret_zo (wf := wM G a) X (by decide) hm hP hS dX8_suits_220
              · have hm := (if_pos c_32).symm.trans hm
                refine lv_iconst (v := 1) hx hb dX8_suits_215 (by decide) ?_
                refine lv_goto (tgt := 220) hx hb dX8_suits_216 (by decide) ?_
                exact ret_zo (wf := wM G a) X (by decide) hm hP hS dX8_suits_220
          · have hm := (if_neg c_30).symm.trans hm
            refine lv_aload_n hx hb dX8_suits_185 rfl (lv_at hl 2 rfl) ?_
            refine lv_iload_n hx hb dX8_suits_186 rfl (lv_at hl 3 rfl) ?_
            obtain ⟨r_33, e_33, hm⟩ := bd1_s hm
            refine goV_i (n := 1) (C := RX8) X (cM_hasNumberedWeekday e_33) (gV kw988 kw990 ks_yX8_hasNumberedWeekday kw9 kw991) (by decide +kernel) ⟨by decide, by decide⟩ (rcM hK hP) hP (dM hD) hS rfl rfl hl.1 (Nat.le_of_ble_eq_true rfl) dX8_suits_187 ⟨Nat.le_refl _, Nat.le_refl _⟩ (fun H locs hP _ hS => ?_)
            refine lv_goto (tgt := 220) hx hb dX8_suits_190 (by decide) ?_
            obtain ⟨hz_34, hm⟩ := gb_s hm
            exact ret_zo (wf := wM G a) X hz_34 hm hP hS dX8_suits_220
        · have hm := (if_neg c_28).symm.trans hm
          refine lv_iconst (v := 0) hx hb dX8_suits_173 (by decide) ?_
          exact ret_zo (wf := wM G a) X (by decide) hm hP hS dX8_suits_174
  · have hm := (if_neg c_11).symm.trans hm
    refine lv_aload_n hx hb dX8_suits_115 rfl (lv_at hl 2 rfl) ?_
    refine gM_monthDays X hP dX8_suits_116 ?_
    refine lv_bipush (v := 31) hx hb dX8_suits_119 (by decide) ?_
    refine lv_iload_n hx hb dX8_suits_121 rfl (lv_at hl 1 rfl) ?_
    refine lv_iadd hx hb dX8_suits_122 ?_
    obtain ⟨hi_35, hm⟩ := gi_s hm
    refine ldM_monthDays X hP hi_35 dX8_suits_123 ?_
    refine lv_if_ne (tgt := 175) hx hb dX8_suits_124 (by decide) (fun c_36 => ?_) (fun c_36 => ?_)
    · have hm := (if_neg c_36).symm.trans hm
      refine lv_aload_n hx hb dX8_suits_175 rfl (lv_at hl 2 rfl) ?_
      refine gM_has X hP dX8_suits_176 ?_
      refine lv_bipush (v := 7) hx hb dX8_suits_179 (by decide) ?_
      obtain ⟨hi_37, hm⟩ := gi_s hm
      refine ldM_has X hP hi_37 dX8_suits_181 ?_
      refine lv_if_eq (tgt := 193) hx hb dX8_suits_182 (by decide) (fun c_38 => ?_) (fun c_38 => ?_)
      · have hm := (if_pos c_38).symm.trans hm
        refine lv_aload_n hx hb dX8_suits_193 rfl (lv_at hl 2 rfl) ?_
        refine gM_freq X hP dX8_suits_194 ?_
        refine lv_iconst (v := 1) hx hb dX8_suits_197 (by decide) ?_
        refine lv_icmp_ne (tgt := 215) hx hb dX8_suits_198 (by decide) (fun c_39 => ?_) (fun c_39 => ?_)
        · have hm := (if_neg c_39).symm.trans hm
          refine lv_iconst (v := 1) hx hb dX8_suits_215 (by decide) ?_
          refine lv_goto (tgt := 220) hx hb dX8_suits_216 (by decide) ?_
          exact ret_zo (wf := wM G a) X (by decide) hm hP hS dX8_suits_220
        · have hm := (if_pos c_39).symm.trans hm
          refine lv_iload_n hx hb dX8_suits_201 rfl (lv_at hl 3 rfl) ?_
          refine lv_bipush (v := 7) hx hb dX8_suits_202 (by decide) ?_
          refine lv_irem hx hb dX8_suits_204 (by decide) ?_
          refine lv_aload_n hx hb dX8_suits_205 rfl (lv_at hl 2 rfl) ?_
          refine gM_start X hP dX8_suits_206 ?_
          refine lv_bipush (v := 7) hx hb dX8_suits_209 (by decide) ?_
          refine lv_irem hx hb dX8_suits_211 (by decide) ?_
          refine lv_icmp_ne (tgt := 219) hx hb dX8_suits_212 (by decide) (fun c_40 => ?_) (fun c_40 => ?_)
          · have hm := (if_neg c_40).symm.trans hm
            refine lv_iconst (v := 0) hx hb dX8_suits_219 (by decide) ?_
            exact ret_zo (wf := wM G a) X (by decide) hm hP hS dX8_suits_220
          · have hm := (if_pos c_40).symm.trans hm
            refine lv_iconst (v := 1) hx hb dX8_suits_215 (by decide) ?_
            refine lv_goto (tgt := 220) hx hb dX8_suits_216 (by decide) ?_
            exact ret_zo (wf := wM G a) X (by decide) hm hP hS dX8_suits_220
      · have hm := (if_neg c_38).symm.trans hm
        refine lv_aload_n hx hb dX8_suits_185 rfl (lv_at hl 2 rfl) ?_
        refine lv_iload_n hx hb dX8_suits_186 rfl (lv_at hl 3 rfl) ?_
        obtain ⟨r_41, e_41, hm⟩ := bd1_s hm
        refine goV_i (n := 1) (C := RX8) X (cM_hasNumberedWeekday e_41) (gV kw988 kw990 ks_yX8_hasNumberedWeekday kw9 kw991) (by decide +kernel) ⟨by decide, by decide⟩ (rcM hK hP) hP (dM hD) hS rfl rfl hl.1 (Nat.le_of_ble_eq_true rfl) dX8_suits_187 ⟨Nat.le_refl _, Nat.le_refl _⟩ (fun H locs hP _ hS => ?_)
        refine lv_goto (tgt := 220) hx hb dX8_suits_190 (by decide) ?_
        obtain ⟨hz_42, hm⟩ := gb_s hm
        exact ret_zo (wf := wM G a) X hz_42 hm hP hS dX8_suits_220
    · have hm := (if_pos c_36).symm.trans hm
      refine lv_aload_n hx hb dX8_suits_127 rfl (lv_at hl 2 rfl) ?_
      refine gM_monthDays X hP dX8_suits_128 ?_
      refine lv_bipush (v := 31) hx hb dX8_suits_131 (by decide) ?_
      refine lv_iload hx hb dX8_suits_133 (lv_at hl 0 rfl) ?_
      refine lv_isub hx hb dX8_suits_135 ?_
      obtain ⟨hi_43, hm⟩ := gi_s hm
      refine ldM_monthDays X hP hi_43 dX8_suits_136 ?_
      refine lv_if_ne (tgt := 175) hx hb dX8_suits_137 (by decide) (fun c_44 => ?_) (fun c_44 => ?_)
      · have hm := (if_neg c_44).symm.trans hm
        refine lv_aload_n hx hb dX8_suits_175 rfl (lv_at hl 2 rfl) ?_
        refine gM_has X hP dX8_suits_176 ?_
        refine lv_bipush (v := 7) hx hb dX8_suits_179 (by decide) ?_
        obtain ⟨hi_45, hm⟩ := gi_s hm
        refine ldM_has X hP hi_45 dX8_suits_181 ?_
        refine lv_if_eq (tgt := 193) hx hb dX8_suits_182 (by decide) (fun c_46 => ?_) (fun c_46 => ?_)
        · have hm := (if_pos c_46).symm.trans hm
          refine lv_aload_n hx hb dX8_suits_193 rfl (lv_at hl 2 rfl) ?_
          refine gM_freq X hP dX8_suits_194 ?_
          refine lv_iconst (v := 1) hx hb dX8_suits_197 (by decide) ?_
          refine lv_icmp_ne (tgt := 215) hx hb dX8_suits_198 (by decide) (fun c_47 => ?_) (fun c_47 => ?_)
          · have hm := (if_neg c_47).symm.trans hm
            refine lv_iconst (v := 1) hx hb dX8_suits_215 (by decide) ?_
            refine lv_goto (tgt := 220) hx hb dX8_suits_216 (by decide) ?_
            exact ret_zo (wf := wM G a) X (by decide) hm hP hS dX8_suits_220
          · have hm := (if_pos c_47).symm.trans hm
            refine lv_iload_n hx hb dX8_suits_201 rfl (lv_at hl 3 rfl) ?_
            refine lv_bipush (v := 7) hx hb dX8_suits_202 (by decide) ?_
            refine lv_irem hx hb dX8_suits_204 (by decide) ?_
            refine lv_aload_n hx hb dX8_suits_205 rfl (lv_at hl 2 rfl) ?_
            refine gM_start X hP dX8_suits_206 ?_
            refine lv_bipush (v := 7) hx hb dX8_suits_209 (by decide) ?_
            refine lv_irem hx hb dX8_suits_211 (by decide) ?_
            refine lv_icmp_ne (tgt := 219) hx hb dX8_suits_212 (by decide) (fun c_48 => ?_) (fun c_48 => ?_)
            · have hm := (if_neg c_48).symm.trans hm
              refine lv_iconst (v := 0) hx hb dX8_suits_219 (by decide) ?_
              exact ret_zo (wf := wM G a) X (by decide) hm hP hS dX8_suits_220
            · have hm := (if_pos c_48).symm.trans hm
              refine lv_iconst (v := 1) hx hb dX8_suits_215 (by decide) ?_
              refine lv_goto (tgt := 220) hx hb dX8_suits_216 (by decide) ?_
              exact ret_zo (wf := wM G a) X (by decide) hm hP hS dX8_suits_220
        · have hm := (if_neg c_46).symm.trans hm
          refine lv_aload_n hx hb dX8_suits_185 rfl (lv_at hl 2 rfl) ?_
          refine lv_iload_n hx hb dX8_suits_186 rfl (lv_at hl 3 rfl) ?_
          obtain ⟨r_49, e_49, hm⟩ := bd1_s hm
          refine goV_i (n := 1) (C := RX8) X (cM_hasNumberedWeekday e_49) (gV kw988 kw990 ks_yX8_hasNumberedWeekday kw9 kw991) (by decide +kernel) ⟨by decide, by decide⟩ (rcM hK hP) hP (dM hD) hS rfl rfl hl.1 (Nat.le_of_ble_eq_true rfl) dX8_suits_187 ⟨Nat.le_refl _, Nat.le_refl _⟩ (fun H locs hP _ hS => ?_)
          refine lv_goto (tgt := 220) hx hb dX8_suits_190 (by decide) ?_
          obtain ⟨hz_50, hm⟩ := gb_s hm
          exact ret_zo (wf := wM G a) X hz_50 hm hP hS dX8_suits_220
      · have hm := (if_pos c_44).symm.trans hm
        refine lv_goto (tgt := 173) hx hb dX8_suits_140 (by decide) ?_
        refine lv_iconst (v := 0) hx hb dX8_suits_173 (by decide) ?_
        exact ret_zo (wf := wM G a) X (by decide) hm hP hS dX8_suits_174
set_option maxHeartbeats 4000000 in
set_option maxRecDepth 100000 in
theorem cM_suits {l : Launch} {G : Ev} {a : Nat → Nat} {n : Nat} {q : Pc3} {x1 : Int32} {r : Int32} (hm : moM_suits n x1 q = some r) : CtI l G yX8_suits cX8_suits 5 (some .boolean) 2 48 0 0 [.ref (a 0), .int x1] (wM G a q) (wM G a q) r := by
  intro sz
  refine enter (by decide) (Nat.le_of_ble_eq_true rfl) ?_
  intro p e s m args below meth c ls X hsz hP hD hS hl
  subst hsz
  obtain ⟨⟨hx, hb, hml, hown, hts⟩, hK, hr, hlk, hA, hAs, hSta⟩ := id X
  have hl : lv_has ls 5 [(0, .ref (a 0)), (1, .int x1)] := hl
  unfold moM_suits at hm
  refine lv_aload_n hx hb dX8_suits_0 rfl (lv_at hl 0 rfl) ?_
  refine gM_has X hP dX8_suits_1 ?_
  refine lv_iconst (v := 5) hx hb dX8_suits_4 (by decide) ?_
  obtain ⟨hi_1, hm⟩ := gi_s hm
  refine ldM_has X hP hi_1 dX8_suits_5 ?_
  refine lv_if_ne (tgt := 23) hx hb dX8_suits_6 (by decide) (fun c_2 => ?_) (fun c_2 => ?_)
  · have hm := (if_neg c_2).symm.trans hm
    refine lv_iconst (v := 0) hx hb dX8_suits_23 (by decide) ?_
    refine lv_istore_n (lv' := [(2, .int 0), (0, .ref (a 0)), (1, .int x1)]) hx hb dX8_suits_24 rfl hl (by decide) rfl (fun ls hl => ?_)
    refine lv_aload_n hx hb dX8_suits_25 rfl (lv_at hl 1 rfl) ?_
    refine gM_has X hP dX8_suits_26 ?_
    refine lv_iconst (v := 4) hx hb dX8_suits_29 (by decide) ?_
    obtain ⟨hi_3, hm⟩ := gi_s hm
    refine ldM_has X hP hi_3 dX8_suits_30 ?_
    refine lv_if_eq (tgt := 50) hx hb dX8_suits_31 (by decide) (fun c_4 => ?_) (fun c_4 => ?_)
    · have hm := (if_pos c_4).symm.trans hm
      refine lv_aload_n hx hb dX8_suits_50 rfl (lv_at hl 1 rfl) ?_
      refine gM_freq X hP dX8_suits_51 ?_
      refine lv_iconst (v := 3) hx hb dX8_suits_54 (by decide) ?_
      refine lv_icmp_ne (tgt := 80) hx hb dX8_suits_55 (by decide) (fun c_5 => ?_) (fun c_5 => ?_)
      · have hm := (if_neg c_5).symm.trans hm
        exact bkM_suits_80 X hD hm hP hS (lv_sub hl [1, 2] rfl)
      · have hm := (if_pos c_5).symm.trans hm
        refine lv_iload_n hx hb dX8_suits_58 rfl (lv_at hl 0 rfl) ?_
        refine lv_if_eq (tgt := 80) hx hb dX8_suits_59 (by decide) (fun _ => ?_) (fun c_0 => absurd c_0 (by decide))
        exact bkM_suits_80 X hD hm hP hS (lv_sub hl [1, 2] rfl)
    · have hm := (if_neg c_4).symm.trans hm
      refine lv_aload_n hx hb dX8_suits_34 rfl (lv_at hl 1 rfl) ?_
      refine gM_months X hP dX8_suits_35 ?_
      refine lv_aload_n hx hb dX8_suits_38 rfl (lv_at hl 1 rfl) ?_
      refine lv_iload_n hx hb dX8_suits_39 rfl (lv_at hl 2 rfl) ?_
      obtain ⟨r_51, e_51, hm⟩ := bd1_s hm
      refine goV_i (n := 1) (C := RX8) X (cM_monthOf e_51) (gV kw976 kw978 ks_yX8_monthOf kw9 kw979) (by decide +kernel) ⟨by decide, by decide⟩ (rcM hK hP) hP (dM hD) hS rfl rfl hl.1 (Nat.le_of_ble_eq_true rfl) dX8_suits_40 ⟨Nat.le_refl _, Nat.le_refl _⟩ (fun H locs hP _ hS => ?_)
      obtain ⟨hi_52, hm⟩ := gi_s hm
      refine ldM_months X hP hi_52 dX8_suits_43 ?_
      refine lv_if_ne (tgt := 80) hx hb dX8_suits_44 (by decide) (fun c_53 => ?_) (fun c_53 => ?_)
      · have hm := (if_neg c_53).symm.trans hm
        exact bkM_suits_80 X hD hm hP hS (lv_sub hl [1, 2] rfl)
      · have hm := (if_pos c_53).symm.trans hm
        refine lv_goto (tgt := 78) hx hb dX8_suits_47 (by decide) ?_
        refine lv_iconst (v := 0) hx hb dX8_suits_78 (by decide) ?_
        exact ret_zo (wf := wM G a) X (by decide) hm hP hS dX8_suits_79
  · have hm := (if_pos c_2).symm.trans hm
    refine lv_aload_n hx hb dX8_suits_9 rfl (lv_at hl 0 rfl) ?_
    refine gM_has X hP dX8_suits_10 ?_
    refine lv_bipush (v := 7) hx hb dX8_suits_13 (by decide) ?_
    obtain ⟨hi_54, hm⟩ := gi_s hm
    refine ldM_has X hP hi_54 dX8_suits_15 ?_
    refine lv_if_ne (tgt := 23) hx hb dX8_suits_16 (by decide) (fun c_55 => ?_) (fun c_55 => ?_)
    · have hm := (if_neg c_55).symm.trans hm
      refine lv_iconst (v := 0) hx hb dX8_suits_23 (by decide) ?_
      refine lv_istore_n (lv' := [(2, .int 0), (0, .ref (a 0)), (1, .int x1)]) hx hb dX8_suits_24 rfl hl (by decide) rfl (fun ls hl => ?_)
      refine lv_aload_n hx hb dX8_suits_25 rfl (lv_at hl 1 rfl) ?_
      refine gM_has X hP dX8_suits_26 ?_
      refine lv_iconst (v := 4) hx hb dX8_suits_29 (by decide) ?_
      obtain ⟨hi_56, hm⟩ := gi_s hm
      refine ldM_has X hP hi_56 dX8_suits_30 ?_
      refine lv_if_eq (tgt := 50) hx hb dX8_suits_31 (by decide) (fun c_57 => ?_) (fun c_57 => ?_)
      · have hm := (if_pos c_57).symm.trans hm
        refine lv_aload_n hx hb dX8_suits_50 rfl (lv_at hl 1 rfl) ?_
        refine gM_freq X hP dX8_suits_51 ?_
        refine lv_iconst (v := 3) hx hb dX8_suits_54 (by decide) ?_
        refine lv_icmp_ne (tgt := 80) hx hb dX8_suits_55 (by decide) (fun c_58 => ?_) (fun c_58 => ?_)
        · have hm := (if_neg c_58).symm.trans hm
          exact bkM_suits_80 X hD hm hP hS (lv_sub hl [1, 2] rfl)
        · have hm := (if_pos c_58).symm.trans hm
          refine lv_iload_n hx hb dX8_suits_58 rfl (lv_at hl 0 rfl) ?_
          refine lv_if_eq (tgt := 80) hx hb dX8_suits_59 (by decide) (fun _ => ?_) (fun c_0 => absurd c_0 (by decide))
          exact bkM_suits_80 X hD hm hP hS (lv_sub hl [1, 2] rfl)
      · have hm := (if_neg c_57).symm.trans hm
        refine lv_aload_n hx hb dX8_suits_34 rfl (lv_at hl 1 rfl) ?_
        refine gM_months X hP dX8_suits_35 ?_
        refine lv_aload_n hx hb dX8_suits_38 rfl (lv_at hl 1 rfl) ?_
        refine lv_iload_n hx hb dX8_suits_39 rfl (lv_at hl 2 rfl) ?_
        obtain ⟨r_59, e_59, hm⟩ := bd1_s hm
        refine goV_i (n := 1) (C := RX8) X (cM_monthOf e_59) (gV kw976 kw978 ks_yX8_monthOf kw9 kw979) (by decide +kernel) ⟨by decide, by decide⟩ (rcM hK hP) hP (dM hD) hS rfl rfl hl.1 (Nat.le_of_ble_eq_true rfl) dX8_suits_40 ⟨Nat.le_refl _, Nat.le_refl _⟩ (fun H locs hP _ hS => ?_)
        obtain ⟨hi_60, hm⟩ := gi_s hm
        refine ldM_months X hP hi_60 dX8_suits_43 ?_
        refine lv_if_ne (tgt := 80) hx hb dX8_suits_44 (by decide) (fun c_61 => ?_) (fun c_61 => ?_)
        · have hm := (if_neg c_61).symm.trans hm
          exact bkM_suits_80 X hD hm hP hS (lv_sub hl [1, 2] rfl)
        · have hm := (if_pos c_61).symm.trans hm
          refine lv_goto (tgt := 78) hx hb dX8_suits_47 (by decide) ?_
          refine lv_iconst (v := 0) hx hb dX8_suits_78 (by decide) ?_
          exact ret_zo (wf := wM G a) X (by decide) hm hP hS dX8_suits_79
    · have hm := (if_pos c_55).symm.trans hm
      refine lv_iconst (v := 1) hx hb dX8_suits_19 (by decide) ?_
      refine lv_goto (tgt := 24) hx hb dX8_suits_20 (by decide) ?_
      refine lv_istore_n (lv' := [(2, .int 1), (0, .ref (a 0)), (1, .int x1)]) hx hb dX8_suits_24 rfl hl (by decide) rfl (fun ls hl => ?_)
      refine lv_aload_n hx hb dX8_suits_25 rfl (lv_at hl 1 rfl) ?_
      refine gM_has X hP dX8_suits_26 ?_
      refine lv_iconst (v := 4) hx hb dX8_suits_29 (by decide) ?_
      obtain ⟨hi_62, hm⟩ := gi_s hm
      refine ldM_has X hP hi_62 dX8_suits_30 ?_
      refine lv_if_eq (tgt := 50) hx hb dX8_suits_31 (by decide) (fun c_63 => ?_) (fun c_63 => ?_)
      · have hm := (if_pos c_63).symm.trans hm
        refine lv_aload_n hx hb dX8_suits_50 rfl (lv_at hl 1 rfl) ?_
        refine gM_freq X hP dX8_suits_51 ?_
        refine lv_iconst (v := 3) hx hb dX8_suits_54 (by decide) ?_
        refine lv_icmp_ne (tgt := 80) hx hb dX8_suits_55 (by decide) (fun c_64 => ?_) (fun c_64 => ?_)
        · have hm := (if_neg c_64).symm.trans hm
          exact bkM_suits_80 X hD hm hP hS (lv_sub hl [1, 2] rfl)
        · have hm := (if_pos c_64).symm.trans hm
          refine lv_iload_n hx hb dX8_suits_58 rfl (lv_at hl 0 rfl) ?_
          refine lv_if_eq (tgt := 80) hx hb dX8_suits_59 (by decide) (fun c_0 => absurd c_0 (by decide)) (fun _ => ?_)
          refine lv_aload_n hx hb dX8_suits_62 rfl (lv_at hl 1 rfl) ?_
          refine lv_iload_n hx hb dX8_suits_63 rfl (lv_at hl 2 rfl) ?_
          obtain ⟨r_65, e_65, hm⟩ := bd1_s hm
          refine goV_i (n := 1) (C := RX8) X (cM_monthOf e_65) (gV kw976 kw978 ks_yX8_monthOf kw9 kw979) (by decide +kernel) ⟨by decide, by decide⟩ (rcM hK hP) hP (dM hD) hS rfl rfl hl.1 (Nat.le_of_ble_eq_true rfl) dX8_suits_64 ⟨Nat.le_refl _, Nat.le_refl _⟩ (fun H locs hP _ hS => ?_)
          refine lv_aload_n hx hb dX8_suits_67 rfl (lv_at hl 1 rfl) ?_
          refine lv_aload_n hx hb dX8_suits_68 rfl (lv_at hl 1 rfl) ?_
          refine gM_start X hP dX8_suits_69 ?_
          obtain ⟨r_66, e_66, hm⟩ := bd1_s hm
          refine goV_i (n := 1) (C := RX8) X (cM_monthOf e_66) (gV kw976 kw978 ks_yX8_monthOf kw9 kw979) (by decide +kernel) ⟨by decide, by decide⟩ (rcM hK hP) hP (dM hD) hS rfl rfl hl.1 (Nat.le_of_ble_eq_true rfl) dX8_suits_72 ⟨Nat.le_refl _, Nat.le_refl _⟩ (fun H locs hP _ hS => ?_)
          refine lv_icmp_eq (tgt := 80) hx hb dX8_suits_75 (by decide) (fun c_67 => ?_) (fun c_67 => ?_)
          · have hm := (if_pos c_67).symm.trans hm
            exact bkM_suits_80 X hD hm hP hS (lv_sub hl [1, 2] rfl)
          · have hm := (if_neg c_67).symm.trans hm
            refine lv_iconst (v := 0) hx hb dX8_suits_78 (by decide) ?_
            exact ret_zo (wf := wM G a) X (by decide) hm hP hS dX8_suits_79
      · have hm := (if_neg c_63).symm.trans hm
        refine lv_aload_n hx hb dX8_suits_34 rfl (lv_at hl 1 rfl) ?_
        refine gM_months X hP dX8_suits_35 ?_
        refine lv_aload_n hx hb dX8_suits_38 rfl (lv_at hl 1 rfl) ?_
        refine lv_iload_n hx hb dX8_suits_39 rfl (lv_at hl 2 rfl) ?_
        obtain ⟨r_68, e_68, hm⟩ := bd1_s hm
        refine goV_i (n := 1) (C := RX8) X (cM_monthOf e_68) (gV kw976 kw978 ks_yX8_monthOf kw9 kw979) (by decide +kernel) ⟨by decide, by decide⟩ (rcM hK hP) hP (dM hD) hS rfl rfl hl.1 (Nat.le_of_ble_eq_true rfl) dX8_suits_40 ⟨Nat.le_refl _, Nat.le_refl _⟩ (fun H locs hP _ hS => ?_)
        obtain ⟨hi_69, hm⟩ := gi_s hm
        refine ldM_months X hP hi_69 dX8_suits_43 ?_
        refine lv_if_ne (tgt := 80) hx hb dX8_suits_44 (by decide) (fun c_70 => ?_) (fun c_70 => ?_)
        · have hm := (if_neg c_70).symm.trans hm
          exact bkM_suits_80 X hD hm hP hS (lv_sub hl [1, 2] rfl)
        · have hm := (if_pos c_70).symm.trans hm
          refine lv_goto (tgt := 78) hx hb dX8_suits_47 (by decide) ?_
          refine lv_iconst (v := 0) hx hb dX8_suits_78 (by decide) ?_
          exact ret_zo (wf := wM G a) X (by decide) hm hP hS dX8_suits_79

-- setBit
def moB_setBit (n : Nat) (x2 : Int32) (x3 : Int32) (x4 : Int32) (q : Pc3) : Option (Pc3) :=
  (if x4 = 0 then (gi ((3425 * x2) + (x3 / 32)) 41100 (gi ((3425 * x2) + (x3 / 32)) 41100 (some (sA q 0 ((3425 * x2) + (x3 / 32)) ((rA q 0 ((3425 * x2) + (x3 / 32))) &&& ((slI 1 (rmI x3 32)) ^^^ (-1))))))) else (gi ((3425 * x2) + (x3 / 32)) 41100 (gi ((3425 * x2) + (x3 / 32)) 41100 (some (sA q 0 ((3425 * x2) + (x3 / 32)) ((rA q 0 ((3425 * x2) + (x3 / 32))) ||| (slI 1 (rmI x3 32))))))))
set_option maxHeartbeats 4000000 in
set_option maxRecDepth 100000 in
theorem cB_setBit {l : Launch} {G : Ev} {a : Nat → Nat} {n : Nat} {q : Pc3} {x2 : Int32} {x3 : Int32} {x4 : Int32} {q' : Pc3} (hm : moB_setBit n x2 x3 x4 q = some q') : CtV l G yX8_setBit cX8_setBit 6 none 0 0 0 0 [.ref (a 1), .ref (a 0), .int x2, .int x3, .int x4] (wB G a q) (wB G a q') := by
  intro sz
  refine enter (by decide) (Nat.le_of_ble_eq_true rfl) ?_
  intro p e s m args below meth c ls X hsz hP hD hS hl
  subst hsz
  obtain ⟨⟨hx, hb, hml, hown, hts⟩, hK, hr, hlk, hA, hAs, hSta⟩ := id X
  have hl : lv_has ls 6 [(0, .ref (a 1)), (1, .ref (a 0)), (2, .int x2), (3, .int x3), (4, .int x4)] := hl
  unfold moB_setBit at hm
  refine lv_sipush (v := 3425) hx hb dX8_setBit_0 (by decide) ?_
  refine lv_iload_n hx hb dX8_setBit_3 rfl (lv_at hl 2 rfl) ?_
  refine lv_imul hx hb dX8_setBit_4 ?_
  refine lv_iload_n hx hb dX8_setBit_5 rfl (lv_at hl 3 rfl) ?_
  refine lv_bipush (v := 32) hx hb dX8_setBit_6 (by decide) ?_
  refine lv_idiv hx hb dX8_setBit_8 (by decide) ?_
  refine lv_iadd hx hb dX8_setBit_9 ?_
  refine lv_istore (lv' := [(5, .int ((3425 * x2) + (x3 / 32))), (0, .ref (a 1)), (1, .ref (a 0)), (2, .int x2), (3, .int x3), (4, .int x4)]) hx hb dX8_setBit_10 hl (by decide) rfl (fun ls hl => ?_)
  refine lv_aload_n hx hb dX8_setBit_12 rfl (lv_at hl 2 rfl) ?_
  refine lv_iload hx hb dX8_setBit_13 (lv_at hl 0 rfl) ?_
  refine lv_iload hx hb dX8_setBit_15 (lv_at hl 5 rfl) ?_
  refine lv_if_eq (tgt := 34) hx hb dX8_setBit_17 (by decide) (fun c_1 => ?_) (fun c_1 => ?_)
  · have hm := (if_pos c_1).symm.trans hm
    refine lv_aload_n hx hb dX8_setBit_34 rfl (lv_at hl 2 rfl) ?_
    refine lv_iload hx hb dX8_setBit_35 (lv_at hl 0 rfl) ?_
    obtain ⟨hi_2, hm⟩ := gi_s hm
    refine ldB X hP hi_2 dX8_setBit_37 ?_
    refine lv_iconst (v := 1) hx hb dX8_setBit_38 (by decide) ?_
    refine lv_iload_n hx hb dX8_setBit_39 rfl (lv_at hl 4 rfl) ?_
    refine lv_bipush (v := 32) hx hb dX8_setBit_40 (by decide) ?_
    refine lv_irem hx hb dX8_setBit_42 (by decide) ?_
    refine lv_ishl hx hb dX8_setBit_43 ?_
    refine lv_iconst (v := (-1)) hx hb dX8_setBit_44 (by decide) ?_
    refine lv_ixor hx hb dX8_setBit_45 ?_
    refine lv_iand hx hb dX8_setBit_46 ?_
    obtain ⟨hi_3, hm⟩ := gi_s hm
    refine stB X hP (dB hD) hS hi_3 dX8_setBit_47 (fun H locs hP hS => ?_)
    exact ret_v (wf := wB G a) X hm hP hS dX8_setBit_48
  · have hm := (if_neg c_1).symm.trans hm
    refine lv_aload_n hx hb dX8_setBit_20 rfl (lv_at hl 2 rfl) ?_
    refine lv_iload hx hb dX8_setBit_21 (lv_at hl 0 rfl) ?_
    obtain ⟨hi_4, hm⟩ := gi_s hm
    refine ldB X hP hi_4 dX8_setBit_23 ?_
    refine lv_iconst (v := 1) hx hb dX8_setBit_24 (by decide) ?_
    refine lv_iload_n hx hb dX8_setBit_25 rfl (lv_at hl 4 rfl) ?_
    refine lv_bipush (v := 32) hx hb dX8_setBit_26 (by decide) ?_
    refine lv_irem hx hb dX8_setBit_28 (by decide) ?_
    refine lv_ishl hx hb dX8_setBit_29 ?_
    refine lv_ior hx hb dX8_setBit_30 ?_
    refine lv_goto (tgt := 47) hx hb dX8_setBit_31 (by decide) ?_
    obtain ⟨hi_5, hm⟩ := gi_s hm
    refine stB X hP (dB hD) hS hi_5 dX8_setBit_47 (fun H locs hP hS => ?_)
    exact ret_v (wf := wB G a) X hm hP hS dX8_setBit_48

-- hasBit
def moB_hasBit (n : Nat) (x2 : Int32) (x3 : Int32) (q : Pc3) : Option (Int32) :=
  (gi ((3425 * x2) + (x3 / 32)) 41100 (if ((srI (rA q 0 ((3425 * x2) + (x3 / 32))) (rmI x3 32)) &&& 1) = 1 then (some 1) else (some 0)))
set_option maxHeartbeats 4000000 in
set_option maxRecDepth 100000 in
theorem cB_hasBit {l : Launch} {G : Ev} {a : Nat → Nat} {n : Nat} {q : Pc3} {x2 : Int32} {x3 : Int32} {r : Int32} (hm : moB_hasBit n x2 x3 q = some r) : CtI l G yX8_hasBit cX8_hasBit 4 (some .boolean) 0 0 0 0 [.ref (a 1), .ref (a 0), .int x2, .int x3] (wB G a q) (wB G a q) r := by
  intro sz
  refine enter (by decide) (Nat.le_of_ble_eq_true rfl) ?_
  intro p e s m args below meth c ls X hsz hP hD hS hl
  subst hsz
  obtain ⟨⟨hx, hb, hml, hown, hts⟩, hK, hr, hlk, hA, hAs, hSta⟩ := id X
  have hl : lv_has ls 4 [(0, .ref (a 1)), (1, .ref (a 0)), (2, .int x2), (3, .int x3)] := hl
  unfold moB_hasBit at hm
  refine lv_aload_n hx hb dX8_hasBit_0 rfl (lv_at hl 1 rfl) ?_
  refine lv_sipush (v := 3425) hx hb dX8_hasBit_1 (by decide) ?_
  refine lv_iload_n hx hb dX8_hasBit_4 rfl (lv_at hl 2 rfl) ?_
  refine lv_imul hx hb dX8_hasBit_5 ?_
  refine lv_iload_n hx hb dX8_hasBit_6 rfl (lv_at hl 3 rfl) ?_
  refine lv_bipush (v := 32) hx hb dX8_hasBit_7 (by decide) ?_
  refine lv_idiv hx hb dX8_hasBit_9 (by decide) ?_
  refine lv_iadd hx hb dX8_hasBit_10 ?_
  obtain ⟨hi_1, hm⟩ := gi_s hm
  refine ldB X hP hi_1 dX8_hasBit_11 ?_
  refine lv_iload_n hx hb dX8_hasBit_12 rfl (lv_at hl 3 rfl) ?_
  refine lv_bipush (v := 32) hx hb dX8_hasBit_13 (by decide) ?_
  refine lv_irem hx hb dX8_hasBit_15 (by decide) ?_
  refine lv_ishr hx hb dX8_hasBit_16 ?_
  refine lv_iconst (v := 1) hx hb dX8_hasBit_17 (by decide) ?_
  refine lv_iand hx hb dX8_hasBit_18 ?_
  refine lv_iconst (v := 1) hx hb dX8_hasBit_19 (by decide) ?_
  refine lv_icmp_ne (tgt := 27) hx hb dX8_hasBit_20 (by decide) (fun c_2 => ?_) (fun c_2 => ?_)
  · have hm := (if_neg c_2).symm.trans hm
    refine lv_iconst (v := 0) hx hb dX8_hasBit_27 (by decide) ?_
    exact ret_zo (wf := wB G a) X (by decide) hm hP hS dX8_hasBit_28
  · have hm := (if_pos c_2).symm.trans hm
    refine lv_iconst (v := 1) hx hb dX8_hasBit_23 (by decide) ?_
    refine lv_goto (tgt := 28) hx hb dX8_hasBit_24 (by decide) ?_
    exact ret_zo (wf := wB G a) X (by decide) hm hP hS dX8_hasBit_28
