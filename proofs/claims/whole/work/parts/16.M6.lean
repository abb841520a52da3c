-- quiet
def moM_quiet_L46 {α : Type} (n : Nat) (K0 : Pc3 → Option α) (K1 : Int32 → Int32 → Pc3 → Option α) : Nat → Int32 → Int32 → Int32 → Pc3 → Option α
  | 0, _, _, _, _ => none
  | k + 1, x2, x4, x5, q => (if 109573 ≤ x5 then (K0 q) else (bd1 (moM_manyAt n x5 q) fun r_5 => (if r_5 = 0 then (if (x4 + 1) = x2 then (K1 x2 x5 q) else (moM_quiet_L46 n K0 K1 k x2 (x4 + 1) (x5 + 1) q)) else (if 0 = x2 then (K1 x2 x5 q) else (moM_quiet_L46 n K0 K1 k x2 0 (x5 + 1) q)))))
def moM_quiet_B28 (n : Nat) (x2 : Int32) (x3 : Int32) (t0 : Int32) (q : Pc3) : Option (Int32 × Pc3) :=
  (if (rS (sS q 0 t0) 0) ≤ 0 then (moM_quiet_L46 n (fun q_9 => (some ((-1), q_9))) (fun z10_2 z10_5 q_10 => (gi ((z10_5 - z10_2) + 1) 109573 (some ((rA q_10 1 ((z10_5 - z10_2) + 1)), q_10)))) n x2 0 x3 (sS q 0 t0)) else (some (0, (sS q 0 t0))))
def moM_quiet (n : Nat) (x1 : Int32) (x2 : Int32) (q : Pc3) : Option (Int32 × Pc3) :=
  (bd1 (moM_dayOf n x1 q) fun r_1 => (if r_1 < 0 then (moM_quiet_B28 n x2 r_1 1 q) else (if x2 < 1 then (moM_quiet_B28 n x2 r_1 1 q) else (if x2 ≤ 1000 then (moM_quiet_B28 n x2 r_1 0 q) else (moM_quiet_B28 n x2 r_1 1 q)))))
set_option maxHeartbeats 4000000 in
set_option maxRecDepth 100000 in
theorem lpM_quiet_46 {p : Program} {l : Launch} {e : Env} {s : State} {m : MethodId} {args : Array Value} {below : List Frame} {meth : Method} {c : Code} {G : Ev} {a : Nat → Nat} {Q : State → Prop} {A : Nat → Prop} {q0 : Pc3} (X : CX p s m args meth c cX8_quiet 6 (some .int) RX8 (.code yX8_quiet cX8_quiet 6 (some .int)) G A) (hD : va_D A (wM G a q0)) {α : Type} {o : α} {n : Nat} {K0 : Pc3 → Option α} {K1 : Int32 → Int32 → Pc3 → Option α} (h0 : ∀ (q : Pc3) (H : Heap) (locs : List Loc) (ls : Array Slot), K0 q = some o → va_P (DD G) vwCl (wM G a q) H → va_S A s.heap H locs → lv_has ls 6 [] → W p l e { frames := 3, cells := 0, slots := 0, locals := 68 } s m args below meth c H locs 0 0 Q (F0 m 96 ls [])) (h1 : ∀ (y2 : Int32) (y5 : Int32) (q : Pc3) (H : Heap) (locs : List Loc) (ls : Array Slot), K1 y2 y5 q = some o → va_P (DD G) vwCl (wM G a q) H → va_S A s.heap H locs → lv_has ls 6 [(0, .ref (a 0)), (2, .int y2), (5, .int y5)] → W p l e { frames := 3, cells := 0, slots := 0, locals := 68 } s m args below meth c H locs 0 0 Q (F0 m 78 ls [])) : ∀ (k : Nat) (x2 : Int32) (x4 : Int32) (x5 : Int32) (q : Pc3) (H : Heap) (locs : List Loc) (ls : Array Slot), moM_quiet_L46 n K0 K1 k x2 x4 x5 q = some o → va_P (DD G) vwCl (wM G a q) H → va_S A s.heap H locs → lv_has ls 6 [(0, .ref (a 0)), (2, .int x2), (4, .int x4), (5, .int x5)] → W p l e { frames := 3, cells := 0, slots := 0, locals := 68 } s m args below meth c H locs 0 0 Q (F0 m 46 ls []) := by
  obtain ⟨⟨hx, hb, hml, hown, hts⟩, hK, hr, hlk, hA, hAs, hSta⟩ := id X
  intro k
  induction k with
  | zero =>
    intro x2 x4 x5 q H locs ls hm
    have hm : none = some o := hm
    cases hm
  | succ k ih =>
    intro x2 x4 x5 q H locs ls hm hP hS hl
    rw [moM_quiet_L46] at hm
    refine lv_iload hx hb dX8_quiet_46 (lv_at hl 3 rfl) ?_
    refine lv_ldc (v := 109573) hx hb hown (hts _ (List.mem_cons_of_mem _ kw779)) dX8_quiet_48 ?_
    refine lv_icmp_ge (tgt := 96) hx hb dX8_quiet_50 (by decide) (fun c_4 => ?_) (fun c_4 => ?_)
    · have hm := (if_pos c_4).symm.trans hm
      exact h0 _ _ _ _ hm hP hS (lv_sub hl [] rfl)
    · have hm := (if_neg c_4).symm.trans hm
      refine lv_aload_n hx hb dX8_quiet_53 rfl (lv_at hl 0 rfl) ?_
      refine lv_iload hx hb dX8_quiet_54 (lv_at hl 3 rfl) ?_
      obtain ⟨r_5, e_5, hm⟩ := bd1_s hm
      refine goV_i (n := 1) (C := RX8) X (cM_manyAt e_5) (gV kw1057 kw1059 ks_yX8_manyAt kw9 kw1060) (by decide +kernel) ⟨by decide, by decide⟩ (rcM hK hP) hP (dM hD) hS rfl rfl hl.1 (Nat.le_of_ble_eq_true rfl) dX8_quiet_56 ⟨Nat.le_refl _, Nat.le_refl _⟩ (fun H locs hP _ hS => ?_)
      refine lv_if_ne (tgt := 69) hx hb dX8_quiet_59 (by decide) (fun c_6 => ?_) (fun c_6 => ?_)
      · have hm := (if_neg c_6).symm.trans hm
        refine lv_iconst (v := 0) hx hb dX8_quiet_69 (by decide) ?_
        refine lv_istore (lv' := [(4, .int 0), (0, .ref (a 0)), (2, .int x2), (5, .int x5)]) hx hb dX8_quiet_70 hl (by decide) rfl (fun ls hl => ?_)
        refine lv_iload hx hb dX8_quiet_72 (lv_at hl 0 rfl) ?_
        refine lv_iload_n hx hb dX8_quiet_74 rfl (lv_at hl 2 rfl) ?_
        refine lv_icmp_ne (tgt := 90) hx hb dX8_quiet_75 (by decide) (fun c_7 => ?_) (fun c_7 => ?_)
        · have hm := (if_neg c_7).symm.trans hm
          refine lv_iinc (v := (x5 + 1)) (lv' := [(5, .int (x5 + 1)), (4, .int 0), (0, .ref (a 0)), (2, .int x2)]) hx hb dX8_quiet_90 hl (k := 3) rfl (by first | rfl | decide) (by decide) rfl (fun ls hl => ?_)
          refine lv_goto (tgt := 46) hx hb dX8_quiet_93 (by decide) ?_
          exact ih _ _ _ _ _ _ _ hm hP hS (lv_sub hl [2, 3, 1, 0] rfl)
        · have hm := (if_pos c_7).symm.trans hm
          exact h1 _ _ _ _ _ _ hm hP hS (lv_sub hl [1, 2, 3] rfl)
      · have hm := (if_pos c_6).symm.trans hm
        refine lv_iload hx hb dX8_quiet_62 (lv_at hl 2 rfl) ?_
        refine lv_iconst (v := 1) hx hb dX8_quiet_64 (by decide) ?_
        refine lv_iadd hx hb dX8_quiet_65 ?_
        refine lv_goto (tgt := 70) hx hb dX8_quiet_66 (by decide) ?_
        refine lv_istore (lv' := [(4, .int (x4 + 1)), (0, .ref (a 0)), (2, .int x2), (5, .int x5)]) hx hb dX8_quiet_70 hl (by decide) rfl (fun ls hl => ?_)
        refine lv_iload hx hb dX8_quiet_72 (lv_at hl 0 rfl) ?_
        refine lv_iload_n hx hb dX8_quiet_74 rfl (lv_at hl 2 rfl) ?_
        refine lv_icmp_ne (tgt := 90) hx hb dX8_quiet_75 (by decide) (fun c_8 => ?_) (fun c_8 => ?_)
        · have hm := (if_neg c_8).symm.trans hm
          refine lv_iinc (v := (x5 + 1)) (lv' := [(5, .int (x5 + 1)), (4, .int (x4 + 1)), (0, .ref (a 0)), (2, .int x2)]) hx hb dX8_quiet_90 hl (k := 3) rfl (by first | rfl | decide) (by decide) rfl (fun ls hl => ?_)
          refine lv_goto (tgt := 46) hx hb dX8_quiet_93 (by decide) ?_
          exact ih _ _ _ _ _ _ _ hm hP hS (lv_sub hl [2, 3, 1, 0] rfl)
        · have hm := (if_pos c_8).symm.trans hm
          exact h1 _ _ _ _ _ _ hm hP hS (lv_sub hl [1, 2, 3] rfl)
set_option maxHeartbeats 4000000 in
set_option maxRecDepth 100000 in
theorem bkM_quiet_28 {p : Program} {l : Launch} {e : Env} {s : State} {m : MethodId} {args : Array Value} {below : List Frame} {meth : Method} {c : Code} {G : Ev} {a : Nat → Nat}  {q0 : Pc3} {L : List Nat} {r : Int32} {q' : Pc3} {n : Nat} {x2 : Int32} {x3 : Int32} {t0 : Int32} {q : Pc3} {H : Heap} {locs : List Loc} {ls : Array Slot} (X : CX p s m args meth c cX8_quiet 6 (some .int) RX8 (.code yX8_quiet cX8_quiet 6 (some .int)) G (AL L s.heap.size)) (hD : va_D (AL L s.heap.size) (wM G a q0)) (hm : moM_quiet_B28 n x2 x3 t0 q = some (r, q')) (hP : va_P (DD G) vwCl (wM G a q) H) (hS : va_S (AL L s.heap.size) s.heap H locs) (hl : lv_has ls 6 [(0, .ref (a 0)), (2, .int x2), (3, .int x3)]) : W p l e { frames := 3, cells := 0, slots := 0, locals := 68 } s m args below meth c H locs 0 0 (MQ below (va_Qi (fun r' (_ : Unit) => r' = r) (fun _ t => va_P (DD G) vwCl (wM G a q') t.heap) (AL L s.heap.size)) args s 0 0 (AL L s.heap.size)) (F0 m 28 ls [.int t0, .ref (a 0)]) := by
  obtain ⟨⟨hx, hb, hml, hown, hts⟩, hK, hr, hlk, hA, hAs, hSta⟩ := id X
  unfold moM_quiet_B28 at hm
  refine pM_thrown X hP (dM hD) hS dX8_quiet_28 (fun H locs hP hS => ?_)
  refine lv_aload_n hx hb dX8_quiet_31 rfl (lv_at hl 0 rfl) ?_
  refine gM_thrown X hP dX8_quiet_32 ?_
  refine lv_if_le (tgt := 40) hx hb dX8_quiet_35 (by decide) (fun c_3 => ?_) (fun c_3 => ?_)
  · have hm := (if_pos c_3).symm.trans hm
    refine lv_iconst (v := 0) hx hb dX8_quiet_40 (by decide) ?_
    refine lv_istore (lv' := [(4, .int 0), (0, .ref (a 0)), (2, .int x2), (3, .int x3)]) hx hb dX8_quiet_41 hl (by decide) rfl (fun ls hl => ?_)
    refine lv_iload_n hx hb dX8_quiet_43 rfl (lv_at hl 3 rfl) ?_
    refine lv_istore (lv' := [(5, .int x3), (4, .int 0), (0, .ref (a 0)), (2, .int x2), (3, .int x3)]) hx hb dX8_quiet_44 hl (by decide) rfl (fun ls hl => ?_)
    refine lpM_quiet_46 X hD (fun q_9 H locs ls hm hP hS hl => ?_) (fun z10_2 z10_5 q_10 H locs ls hm hP hS hl => ?_) n _ _ _ _ _ _ _ hm hP hS (lv_sub hl [2, 3, 1, 0] rfl)
    · refine lv_iconst (v := (-1)) hx hb dX8_quiet_96 (by decide) ?_
      exact ret_i (wf := wM G a) X hm hP hS dX8_quiet_97
    · refine lv_aload_n hx hb dX8_quiet_78 rfl (lv_at hl 0 rfl) ?_
      refine gM_dates X hP dX8_quiet_79 ?_
      refine lv_iload hx hb dX8_quiet_82 (lv_at hl 2 rfl) ?_
      refine lv_iload_n hx hb dX8_quiet_84 rfl (lv_at hl 1 rfl) ?_
      refine lv_isub hx hb dX8_quiet_85 ?_
      refine lv_iconst (v := 1) hx hb dX8_quiet_86 (by decide) ?_
      refine lv_iadd hx hb dX8_quiet_87 ?_
      obtain ⟨hi_11, hm⟩ := gi_s hm
      refine ldM_dates X hP hi_11 dX8_quiet_88 ?_
      exact ret_i (wf := wM G a) X hm hP hS dX8_quiet_89
  · have hm := (if_neg c_3).symm.trans hm
    refine lv_iconst (v := 0) hx hb dX8_quiet_38 (by decide) ?_
    exact ret_i (wf := wM G a) X hm hP hS dX8_quiet_39
set_option maxHeartbeats 4000000 in
set_option maxRecDepth 100000 in
theorem cM_quiet {l : Launch} {G : Ev} {a : Nat → Nat} {n : Nat} {q : Pc3} {x1 : Int32} {x2 : Int32} {r : Int32} {q' : Pc3} (hm : moM_quiet n x1 x2 q = some (r, q')) : CtI l G yX8_quiet cX8_quiet 6 (some .int) 3 68 0 0 [.ref (a 0), .int x1, .int x2] (wM G a q) (wM G a q') r := by
  intro sz
  refine enter (by decide) (Nat.le_of_ble_eq_true rfl) ?_
  intro p e s m args below meth c ls X hsz hP hD hS hl
  subst hsz
  obtain ⟨⟨hx, hb, hml, hown, hts⟩, hK, hr, hlk, hA, hAs, hSta⟩ := id X
  have hl : lv_has ls 6 [(0, .ref (a 0)), (1, .int x1), (2, .int x2)] := hl
  unfold moM_quiet at hm
  refine lv_aload_n hx hb dX8_quiet_0 rfl (lv_at hl 0 rfl) ?_
  refine lv_iload_n hx hb dX8_quiet_1 rfl (lv_at hl 1 rfl) ?_
  obtain ⟨r_1, e_1, hm⟩ := bd1_s hm
  refine goV_i (n := 1) (C := RX8) X (cM_dayOf e_1) (gV kw885 kw887 ks_yX8_dayOf kw9 kw888) (by decide +kernel) ⟨by decide, by decide⟩ (rcM hK hP) hP (dM hD) hS rfl rfl hl.1 (Nat.le_of_ble_eq_true rfl) dX8_quiet_2 ⟨Nat.le_refl _, Nat.le_refl _⟩ (fun H locs hP _ hS => ?_)
  refine lv_istore_n (lv' := [(3, .int r_1), (0, .ref (a 0)), (1, .int x1), (2, .int x2)]) hx hb dX8_quiet_5 rfl hl (by decide) rfl (fun ls hl => ?_)
  refine lv_aload_n hx hb dX8_quiet_6 rfl (lv_at hl 1 rfl) ?_
  refine lv_iload_n hx hb dX8_quiet_7 rfl (lv_at hl 0 rfl) ?_
  refine lv_if_lt (tgt := 23) hx hb dX8_quiet_8 (by decide) (fun c_2 => ?_) (fun c_2 => ?_)
  · have hm := (if_pos c_2).symm.trans hm
    refine lv_iconst (v := 1) hx hb dX8_quiet_23 (by decide) ?_
    refine lv_goto (tgt := 28) hx hb dX8_quiet_24 (by decide) ?_
    exact bkM_quiet_28 X hD hm hP hS (lv_sub hl [1, 3, 0] rfl)
  · have hm := (if_neg c_2).symm.trans hm
    refine lv_iload_n hx hb dX8_quiet_11 rfl (lv_at hl 3 rfl) ?_
    refine lv_iconst (v := 1) hx hb dX8_quiet_12 (by decide) ?_
    refine lv_icmp_lt (tgt := 23) hx hb dX8_quiet_13 (by decide) (fun c_12 => ?_) (fun c_12 => ?_)
    · have hm := (if_pos c_12).symm.trans hm
      refine lv_iconst (v := 1) hx hb dX8_quiet_23 (by decide) ?_
      refine lv_goto (tgt := 28) hx hb dX8_quiet_24 (by decide) ?_
      exact bkM_quiet_28 X hD hm hP hS (lv_sub hl [1, 3, 0] rfl)
    · have hm := (if_neg c_12).symm.trans hm
      refine lv_iload_n hx hb dX8_quiet_16 rfl (lv_at hl 3 rfl) ?_
      refine lv_sipush (v := 1000) hx hb dX8_quiet_17 (by decide) ?_
      refine lv_icmp_le (tgt := 27) hx hb dX8_quiet_20 (by decide) (fun c_13 => ?_) (fun c_13 => ?_)
      · have hm := (if_pos c_13).symm.trans hm
        refine lv_iconst (v := 0) hx hb dX8_quiet_27 (by decide) ?_
        exact bkM_quiet_28 X hD hm hP hS (lv_sub hl [1, 3, 0] rfl)
      · have hm := (if_neg c_13).symm.trans hm
        refine lv_iconst (v := 1) hx hb dX8_quiet_23 (by decide) ?_
        refine lv_goto (tgt := 28) hx hb dX8_quiet_24 (by decide) ?_
        exact bkM_quiet_28 X hD hm hP hS (lv_sub hl [1, 3, 0] rfl)

-- shifted
def moM_shifted (n : Nat) (x1 : Int32) (x2 : Int32) (q : Pc3) : Option (Int32 × Pc3) :=
  (bd1 (moM_dayOf n x1 q) fun r_1 => (if 0 ≤ r_1 then (if (rS (sS q 0 0) 0) ≤ 0 then (if (lg_cmp ((Int32.toInt64 r_1) + (Int32.toInt64 x2)) 0) < 0 then (some ((-1), (sS q 0 0))) else (if (lg_cmp ((Int32.toInt64 r_1) + (Int32.toInt64 x2)) 109573) < 0 then (gi (Int64.toInt32 ((Int32.toInt64 r_1) + (Int32.toInt64 x2))) 109573 (some ((rA (sS q 0 0) 1 (Int64.toInt32 ((Int32.toInt64 r_1) + (Int32.toInt64 x2)))), (sS q 0 0)))) else (some ((-1), (sS q 0 0))))) else (some (0, (sS q 0 0)))) else (if (rS (sS q 0 1) 0) ≤ 0 then (if (lg_cmp ((Int32.toInt64 r_1) + (Int32.toInt64 x2)) 0) < 0 then (some ((-1), (sS q 0 1))) else (if (lg_cmp ((Int32.toInt64 r_1) + (Int32.toInt64 x2)) 109573) < 0 then (gi (Int64.toInt32 ((Int32.toInt64 r_1) + (Int32.toInt64 x2))) 109573 (some ((rA (sS q 0 1) 1 (Int64.toInt32 ((Int32.toInt64 r_1) + (Int32.toInt64 x2)))), (sS q 0 1)))) else (some ((-1), (sS q 0 1))))) else (some (0, (sS q 0 1))))))
set_option maxHeartbeats 4000000 in
set_option maxRecDepth 100000 in
theorem cM_shifted {l : Launch} {G : Ev} {a : Nat → Nat} {n : Nat} {q : Pc3} {x1 : Int32} {x2 : Int32} {r : Int32} {q' : Pc3} (hm : moM_shifted n x1 x2 q = some (r, q')) : CtI l G yX8_shifted cX8_shifted 6 (some .int) 1 24 0 0 [.ref (a 0), .int x1, .int x2] (wM G a q) (wM G a q') r := by
  intro sz
  refine enter (by decide) (Nat.le_of_ble_eq_true rfl) ?_
  intro p e s m args below meth c ls X hsz hP hD hS hl
  subst hsz
  obtain ⟨⟨hx, hb, hml, hown, hts⟩, hK, hr, hlk, hA, hAs, hSta⟩ := id X
  have hl : lv_has ls 6 [(0, .ref (a 0)), (1, .int x1), (2, .int x2)] := hl
  unfold moM_shifted at hm
  refine lv_aload_n hx hb dX8_shifted_0 rfl (lv_at hl 0 rfl) ?_
  refine lv_iload_n hx hb dX8_shifted_1 rfl (lv_at hl 1 rfl) ?_
  obtain ⟨r_1, e_1, hm⟩ := bd1_s hm
  refine goV_i (n := 1) (C := RX8) X (cM_dayOf e_1) (gV kw885 kw887 ks_yX8_dayOf kw9 kw888) (by decide +kernel) ⟨by decide, by decide⟩ (rcM hK hP) hP (dM hD) hS rfl rfl hl.1 (Nat.le_of_ble_eq_true rfl) dX8_shifted_2 ⟨Nat.le_refl _, Nat.le_refl _⟩ (fun H locs hP _ hS => ?_)
  refine lv_istore_n (lv' := [(3, .int r_1), (0, .ref (a 0)), (1, .int x1), (2, .int x2)]) hx hb dX8_shifted_5 rfl hl (by decide) rfl (fun ls hl => ?_)
  refine lv_aload_n hx hb dX8_shifted_6 rfl (lv_at hl 1 rfl) ?_
  refine lv_iload_n hx hb dX8_shifted_7 rfl (lv_at hl 0 rfl) ?_
  refine lv_if_ge (tgt := 15) hx hb dX8_shifted_8 (by decide) (fun c_2 => ?_) (fun c_2 => ?_)
  · have hm := (if_pos c_2).symm.trans hm
    refine lv_iconst (v := 0) hx hb dX8_shifted_15 (by decide) ?_
    refine pM_thrown X hP (dM hD) hS dX8_shifted_16 (fun H locs hP hS => ?_)
    refine lv_aload_n hx hb dX8_shifted_19 rfl (lv_at hl 1 rfl) ?_
    refine gM_thrown X hP dX8_shifted_20 ?_
    refine lv_if_le (tgt := 28) hx hb dX8_shifted_23 (by decide) (fun c_3 => ?_) (fun c_3 => ?_)
    · have hm := (if_pos c_3).symm.trans hm
      refine lv_iload_n hx hb dX8_shifted_28 rfl (lv_at hl 0 rfl) ?_
      refine lv_i2l (v := (Int32.toInt64 r_1)) hx hb dX8_shifted_29 rfl ?_
      refine lv_iload_n hx hb dX8_shifted_30 rfl (lv_at hl 3 rfl) ?_
      refine lv_i2l (v := (Int32.toInt64 x2)) hx hb dX8_shifted_31 rfl ?_
      refine lv_ladd hx hb dX8_shifted_32 ?_
      refine lv_lstore (lv' := [(4, .long ((Int32.toInt64 r_1) + (Int32.toInt64 x2))), (3, .int r_1), (0, .ref (a 0)), (1, .int x1), (2, .int x2)]) hx hb dX8_shifted_33 hl (by decide) rfl (fun ls hl => ?_)
      refine lv_lload hx hb dX8_shifted_35 (lv_at hl 0 rfl) ?_
      refine lv_lconst (v := 0) hx hb dX8_shifted_37 (by decide) ?_
      refine W.lcmp hx hb dX8_shifted_38 ?_
      refine lv_if_lt (tgt := 51) hx hb dX8_shifted_39 (by decide) (fun c_4 => ?_) (fun c_4 => ?_)
      · have hm := (if_pos c_4).symm.trans hm
        refine lv_iconst (v := (-1)) hx hb dX8_shifted_51 (by decide) ?_
        refine lv_goto (tgt := 63) hx hb dX8_shifted_52 (by decide) ?_
        exact ret_i (wf := wM G a) X hm hP hS dX8_shifted_63
      · have hm := (if_neg c_4).symm.trans hm
        refine lv_lload hx hb dX8_shifted_42 (lv_at hl 0 rfl) ?_
        refine lv_ldc2 (v := 109573) hx hb hown (hts _ (List.mem_cons_of_mem _ kw1069)) dX8_shifted_44 ?_
        refine W.lcmp hx hb dX8_shifted_47 ?_
        refine lv_if_lt (tgt := 55) hx hb dX8_shifted_48 (by decide) (fun c_5 => ?_) (fun c_5 => ?_)
        · have hm := (if_pos c_5).symm.trans hm
          refine lv_aload_n hx hb dX8_shifted_55 rfl (lv_at hl 2 rfl) ?_
          refine gM_dates X hP dX8_shifted_56 ?_
          refine lv_lload hx hb dX8_shifted_59 (lv_at hl 0 rfl) ?_
          refine lv_l2i (v := (Int64.toInt32 ((Int32.toInt64 r_1) + (Int32.toInt64 x2)))) hx hb dX8_shifted_61 rfl ?_
          obtain ⟨hi_6, hm⟩ := gi_s hm
          refine ldM_dates X hP hi_6 dX8_shifted_62 ?_
          exact ret_i (wf := wM G a) X hm hP hS dX8_shifted_63
        · have hm := (if_neg c_5).symm.trans hm
          refine lv_iconst (v := (-1)) hx hb dX8_shifted_51 (by decide) ?_
          refine lv_goto (tgt := 63) hx hb dX8_shifted_52 (by decide) ?_
          exact ret_i (wf := wM G a) X hm hP hS dX8_shifted_63
    · have hm := (if_neg c_3).symm.trans hm
      refine lv_iconst (v := 0) hx hb dX8_shifted_26 (by decide) ?_
      exact ret_i (wf := wM G a) X hm hP hS dX8_shifted_27
  · have hm := (if_neg c_2).symm.trans hm
    refine lv_iconst (v := 1) hx hb dX8_shifted_11 (by decide) ?_
    refine lv_goto (tgt := 16) hx hb dX8_shifted_12 (by decide) ?_
    refine pM_thrown X hP (dM hD) hS dX8_shifted_16 (fun H locs hP hS => ?_)
    refine lv_aload_n hx hb dX8_shifted_19 rfl (lv_at hl 1 rfl) ?_
    refine gM_thrown X hP dX8_shifted_20 ?_
    refine lv_if_le (tgt := 28) hx hb dX8_shifted_23 (by decide) (fun c_7 => ?_) (fun c_7 => ?_)
    · have hm := (if_pos c_7).symm.trans hm
      refine lv_iload_n hx hb dX8_shifted_28 rfl (lv_at hl 0 rfl) ?_
      refine lv_i2l (v := (Int32.toInt64 r_1)) hx hb dX8_shifted_29 rfl ?_
      refine lv_iload_n hx hb dX8_shifted_30 rfl (lv_at hl 3 rfl) ?_
      refine lv_i2l (v := (Int32.toInt64 x2)) hx hb dX8_shifted_31 rfl ?_
      refine lv_ladd hx hb dX8_shifted_32 ?_
      refine lv_lstore (lv' := [(4, .long ((Int32.toInt64 r_1) + (Int32.toInt64 x2))), (3, .int r_1), (0, .ref (a 0)), (1, .int x1), (2, .int x2)]) hx hb dX8_shifted_33 hl (by decide) rfl (fun ls hl => ?_)
      refine lv_lload hx hb dX8_shifted_35 (lv_at hl 0 rfl) ?_
      refine lv_lconst (v := 0) hx hb dX8_shifted_37 (by decide) ?_
      refine W.lcmp hx hb dX8_shifted_38 ?_
      refine lv_if_lt (tgt := 51) hx hb dX8_shifted_39 (by decide) (fun c_8 => ?_) (fun c_8 => ?_)
      · have hm := (if_pos c_8).symm.trans hm
        refine lv_iconst (v := (-1)) hx hb dX8_shifted_51 (by decide) ?_
        refine lv_goto (tgt := 63) hx hb dX8_shifted_52 (by decide) ?_
        exact ret_i (wf := wM G a) X hm hP hS dX8_shifted_63
      · have hm := (if_neg c_8).symm.trans hm
        refine lv_lload hx hb dX8_shifted_42 (lv_at hl 0 rfl) ?_
        refine lv_ldc2 (v := 109573) hx hb hown (hts _ (List.mem_cons_of_mem _ kw1069)) dX8_shifted_44 ?_
        refine W.lcmp hx hb dX8_shifted_47 ?_
        refine lv_if_lt (tgt := 55) hx hb dX8_shifted_48 (by decide) (fun c_9 => ?_) (fun c_9 => ?_)
        · have hm := (if_pos c_9).symm.trans hm
          refine lv_aload_n hx hb dX8_shifted_55 rfl (lv_at hl 2 rfl) ?_
          refine gM_dates X hP dX8_shifted_56 ?_
          refine lv_lload hx hb dX8_shifted_59 (lv_at hl 0 rfl) ?_
          refine lv_l2i (v := (Int64.toInt32 ((Int32.toInt64 r_1) + (Int32.toInt64 x2)))) hx hb dX8_shifted_61 rfl ?_
          obtain ⟨hi_10, hm⟩ := gi_s hm
          refine ldM_dates X hP hi_10 dX8_shifted_62 ?_
          exact ret_i (wf := wM G a) X hm hP hS dX8_shifted_63
        · have hm := (if_neg c_9).symm.trans hm
          refine lv_iconst (v := (-1)) hx hb dX8_shifted_51 (by decide) ?_
          refine lv_goto (tgt := 63) hx hb dX8_shifted_52 (by decide) ?_
          exact ret_i (wf := wM G a) X hm hP hS dX8_shifted_63
    · have hm := (if_neg c_7).symm.trans hm
      refine lv_iconst (v := 0) hx hb dX8_shifted_26 (by decide) ?_
      exact ret_i (wf := wM G a) X hm hP hS dX8_shifted_27
