-- comes
def moM_comes (n : Nat) (x1 : Int32) (x2 : Int32) (q : Pc3) : Option (Int32 × Pc3) :=
  (bd1 (moM_dayOf n x2 q) fun r_1 => (bd1 (moM_noThing n x1 q) fun r_2 => (if r_2 = 0 then (if 0 ≤ r_1 then (if (rS (sS q 0 0) 0) = 0 then (bd1 (moM_comesAt n x1 r_1 (sS q 0 0)) fun r_6 => (if r_6 = 0 then (some (0, (sS q 0 0))) else (some (1, (sS q 0 0))))) else (some (0, (sS q 0 0)))) else (if (rS (sS q 0 2) 0) = 0 then (bd1 (moM_comesAt n x1 r_1 (sS q 0 2)) fun r_9 => (if r_9 = 0 then (some (0, (sS q 0 2))) else (some (1, (sS q 0 2))))) else (some (0, (sS q 0 2))))) else (if (rS (sS q 0 1) 0) = 0 then (bd1 (moM_comesAt n x1 r_1 (sS q 0 1)) fun r_12 => (if r_12 = 0 then (some (0, (sS q 0 1))) else (some (1, (sS q 0 1))))) else (some (0, (sS q 0 1)))))))
set_option maxHeartbeats 4000000 in
set_option maxRecDepth 100000 in
theorem cM_comes {l : Launch} {G : Ev} {a : Nat → Nat} {n : Nat} {q : Pc3} {x1 : Int32} {x2 : Int32} {r : Int32} {q' : Pc3} (hm : moM_comes n x1 x2 q = some (r, q')) : CtI l G yX8_comes cX8_comes 4 (some .boolean) 2 45 0 0 [.ref (a 0), .int x1, .int x2] (wM G a q) (wM G a q') r := by
  intro sz
  refine enter (by decide) (Nat.le_of_ble_eq_true rfl) ?_
  intro p e s m args below meth c ls X hsz hP hD hS hl
  subst hsz
  obtain ⟨⟨hx, hb, hml, hown, hts⟩, hK, hr, hlk, hA, hAs, hSta⟩ := id X
  have hl : lv_has ls 4 [(0, .ref (a 0)), (1, .int x1), (2, .int x2)] := hl
  unfold moM_comes at hm
  refine lv_aload_n hx hb dX8_comes_0 rfl (lv_at hl 0 rfl) ?_
  refine lv_iload_n hx hb dX8_comes_1 rfl (lv_at hl 2 rfl) ?_
  obtain ⟨r_1, e_1, hm⟩ := bd1_s hm
  refine goV_i (n := 1) (C := RX8) X (cM_dayOf e_1) (gV kw885 kw887 ks_yX8_dayOf kw9 kw888) (by decide +kernel) ⟨by decide, by decide⟩ (rcM hK hP) hP (dM hD) hS rfl rfl hl.1 (Nat.le_of_ble_eq_true rfl) dX8_comes_2 ⟨Nat.le_refl _, Nat.le_refl _⟩ (fun H locs hP _ hS => ?_)
  refine lv_istore_n (lv' := [(3, .int r_1), (0, .ref (a 0)), (1, .int x1), (2, .int x2)]) hx hb dX8_comes_5 rfl hl (by decide) rfl (fun ls hl => ?_)
  refine lv_aload_n hx hb dX8_comes_6 rfl (lv_at hl 1 rfl) ?_
  refine lv_aload_n hx hb dX8_comes_7 rfl (lv_at hl 1 rfl) ?_
  refine lv_iload_n hx hb dX8_comes_8 rfl (lv_at hl 2 rfl) ?_
  obtain ⟨r_2, e_2, hm⟩ := bd1_s hm
  refine goV_i (n := 1) (C := RX8) X (cM_noThing e_2) (gV kw1008 kw1010 ks_yX8_noThing kw9 kw1011) (by decide +kernel) ⟨by decide, by decide⟩ (rcM hK hP) hP (dM hD) hS rfl rfl hl.1 (Nat.le_of_ble_eq_true rfl) dX8_comes_9 ⟨Nat.le_refl _, Nat.le_refl _⟩ (fun H locs hP _ hS => ?_)
  refine lv_if_eq (tgt := 19) hx hb dX8_comes_12 (by decide) (fun c_3 => ?_) (fun c_3 => ?_)
  · have hm := (if_pos c_3).symm.trans hm
    refine lv_iload_n hx hb dX8_comes_19 rfl (lv_at hl 0 rfl) ?_
    refine lv_if_ge (tgt := 27) hx hb dX8_comes_20 (by decide) (fun c_4 => ?_) (fun c_4 => ?_)
    · have hm := (if_pos c_4).symm.trans hm
      refine lv_iconst (v := 0) hx hb dX8_comes_27 (by decide) ?_
      refine pM_thrown X hP (dM hD) hS dX8_comes_28 (fun H locs hP hS => ?_)
      refine lv_aload_n hx hb dX8_comes_31 rfl (lv_at hl 1 rfl) ?_
      refine gM_thrown X hP dX8_comes_32 ?_
      refine lv_if_ne (tgt := 51) hx hb dX8_comes_35 (by decide) (fun c_5 => ?_) (fun c_5 => ?_)
      · have hm := (if_neg c_5).symm.trans hm
        refine lv_iconst (v := 0) hx hb dX8_comes_51 (by decide) ?_
        exact ret_z (wf := wM G a) X (by decide) hm hP hS dX8_comes_52
      · have hm := (if_pos c_5).symm.trans hm
        refine lv_aload_n hx hb dX8_comes_38 rfl (lv_at hl 1 rfl) ?_
        refine lv_iload_n hx hb dX8_comes_39 rfl (lv_at hl 2 rfl) ?_
        refine lv_iload_n hx hb dX8_comes_40 rfl (lv_at hl 0 rfl) ?_
        obtain ⟨r_6, e_6, hm⟩ := bd1_s hm
        refine goV_i (n := 2) (C := RX8) X (cM_comesAt e_6) (gV kw1028 kw1030 ks_yX8_comesAt kw9 kw1031) (by decide +kernel) ⟨by decide, by decide⟩ (rcM hK hP) hP (dM hD) hS rfl rfl hl.1 (Nat.le_of_ble_eq_true rfl) dX8_comes_41 ⟨Nat.le_refl _, Nat.le_refl _⟩ (fun H locs hP _ hS => ?_)
        refine lv_if_eq (tgt := 51) hx hb dX8_comes_44 (by decide) (fun c_7 => ?_) (fun c_7 => ?_)
        · have hm := (if_pos c_7).symm.trans hm
          refine lv_iconst (v := 0) hx hb dX8_comes_51 (by decide) ?_
          exact ret_z (wf := wM G a) X (by decide) hm hP hS dX8_comes_52
        · have hm := (if_neg c_7).symm.trans hm
          refine lv_iconst (v := 1) hx hb dX8_comes_47 (by decide) ?_
          refine lv_goto (tgt := 52) hx hb dX8_comes_48 (by decide) ?_
          exact ret_z (wf := wM G a) X (by decide) hm hP hS dX8_comes_52
    · have hm := (if_neg c_4).symm.trans hm
      refine lv_iconst (v := 2) hx hb dX8_comes_23 (by decide) ?_
      refine lv_goto (tgt := 28) hx hb dX8_comes_24 (by decide) ?_
      refine pM_thrown X hP (dM hD) hS dX8_comes_28 (fun H locs hP hS => ?_)
      refine lv_aload_n hx hb dX8_comes_31 rfl (lv_at hl 1 rfl) ?_
      refine gM_thrown X hP dX8_comes_32 ?_
      refine lv_if_ne (tgt := 51) hx hb dX8_comes_35 (by decide) (fun c_8 => ?_) (fun c_8 => ?_)
      · have hm := (if_neg c_8).symm.trans hm
        refine lv_iconst (v := 0) hx hb dX8_comes_51 (by decide) ?_
        exact ret_z (wf := wM G a) X (by decide) hm hP hS dX8_comes_52
      · have hm := (if_pos c_8).symm.trans hm
        refine lv_aload_n hx hb dX8_comes_38 rfl (lv_at hl 1 rfl) ?_
        refine lv_iload_n hx hb dX8_comes_39 rfl (lv_at hl 2 rfl) ?_
        refine lv_iload_n hx hb dX8_comes_40 rfl (lv_at hl 0 rfl) ?_
        obtain ⟨r_9, e_9, hm⟩ := bd1_s hm
        refine goV_i (n := 2) (C := RX8) X (cM_comesAt e_9) (gV kw1028 kw1030 ks_yX8_comesAt kw9 kw1031) (by decide +kernel) ⟨by decide, by decide⟩ (rcM hK hP) hP (dM hD) hS rfl rfl hl.1 (Nat.le_of_ble_eq_true rfl) dX8_comes_41 ⟨Nat.le_refl _, Nat.le_refl _⟩ (fun H locs hP _ hS => ?_)
        refine lv_if_eq (tgt := 51) hx hb dX8_comes_44 (by decide) (fun c_10 => ?_) (fun c_10 => ?_)
        · have hm := (if_pos c_10).symm.trans hm
          refine lv_iconst (v := 0) hx hb dX8_comes_51 (by decide) ?_
          exact ret_z (wf := wM G a) X (by decide) hm hP hS dX8_comes_52
        · have hm := (if_neg c_10).symm.trans hm
          refine lv_iconst (v := 1) hx hb dX8_comes_47 (by decide) ?_
          refine lv_goto (tgt := 52) hx hb dX8_comes_48 (by decide) ?_
          exact ret_z (wf := wM G a) X (by decide) hm hP hS dX8_comes_52
  · have hm := (if_neg c_3).symm.trans hm
    refine lv_iconst (v := 1) hx hb dX8_comes_15 (by decide) ?_
    refine lv_goto (tgt := 28) hx hb dX8_comes_16 (by decide) ?_
    refine pM_thrown X hP (dM hD) hS dX8_comes_28 (fun H locs hP hS => ?_)
    refine lv_aload_n hx hb dX8_comes_31 rfl (lv_at hl 1 rfl) ?_
    refine gM_thrown X hP dX8_comes_32 ?_
    refine lv_if_ne (tgt := 51) hx hb dX8_comes_35 (by decide) (fun c_11 => ?_) (fun c_11 => ?_)
    · have hm := (if_neg c_11).symm.trans hm
      refine lv_iconst (v := 0) hx hb dX8_comes_51 (by decide) ?_
      exact ret_z (wf := wM G a) X (by decide) hm hP hS dX8_comes_52
    · have hm := (if_pos c_11).symm.trans hm
      refine lv_aload_n hx hb dX8_comes_38 rfl (lv_at hl 1 rfl) ?_
      refine lv_iload_n hx hb dX8_comes_39 rfl (lv_at hl 2 rfl) ?_
      refine lv_iload_n hx hb dX8_comes_40 rfl (lv_at hl 0 rfl) ?_
      obtain ⟨r_12, e_12, hm⟩ := bd1_s hm
      refine goV_i (n := 2) (C := RX8) X (cM_comesAt e_12) (gV kw1028 kw1030 ks_yX8_comesAt kw9 kw1031) (by decide +kernel) ⟨by decide, by decide⟩ (rcM hK hP) hP (dM hD) hS rfl rfl hl.1 (Nat.le_of_ble_eq_true rfl) dX8_comes_41 ⟨Nat.le_refl _, Nat.le_refl _⟩ (fun H locs hP _ hS => ?_)
      refine lv_if_eq (tgt := 51) hx hb dX8_comes_44 (by decide) (fun c_13 => ?_) (fun c_13 => ?_)
      · have hm := (if_pos c_13).symm.trans hm
        refine lv_iconst (v := 0) hx hb dX8_comes_51 (by decide) ?_
        exact ret_z (wf := wM G a) X (by decide) hm hP hS dX8_comes_52
      · have hm := (if_neg c_13).symm.trans hm
        refine lv_iconst (v := 1) hx hb dX8_comes_47 (by decide) ?_
        refine lv_goto (tgt := 52) hx hb dX8_comes_48 (by decide) ?_
        exact ret_z (wf := wM G a) X (by decide) hm hP hS dX8_comes_52

-- next
def moM_next_L45 {α : Type} (n : Nat) (K0 : Pc3 → Option α) (K1 : Int32 → Pc3 → Option α) : Nat → Int32 → Int32 → Pc3 → Option α
  | 0, _, _, _ => none
  | k + 1, x1, x4, q => (if 109573 ≤ x4 then (K0 q) else (bd1 (moM_comesAt n x1 x4 q) fun r_7 => (if r_7 = 0 then (moM_next_L45 n K0 K1 k x1 (x4 + 1) q) else (K1 x4 q))))
def moM_next (n : Nat) (x1 : Int32) (x2 : Int32) (q : Pc3) : Option (Int32 × Pc3) :=
  (bd1 (moM_dayOf n x2 q) fun r_1 => (bd1 (moM_noThing n x1 q) fun r_2 => (if r_2 = 0 then (if 0 ≤ r_1 then (if (rS (sS q 0 0) 0) ≤ 0 then (moM_next_L45 n (fun q_9 => (some ((-1), q_9))) (fun z10_4 q_10 => (gi z10_4 109573 (some ((rA q_10 1 z10_4), q_10)))) n x1 (r_1 + 1) (sS q 0 0)) else (some (0, (sS q 0 0)))) else (if (rS (sS q 0 2) 0) ≤ 0 then (moM_next_L45 n (fun q_13 => (some ((-1), q_13))) (fun z14_4 q_14 => (gi z14_4 109573 (some ((rA q_14 1 z14_4), q_14)))) n x1 (r_1 + 1) (sS q 0 2)) else (some (0, (sS q 0 2))))) else (if (rS (sS q 0 1) 0) ≤ 0 then (moM_next_L45 n (fun q_17 => (some ((-1), q_17))) (fun z18_4 q_18 => (gi z18_4 109573 (some ((rA q_18 1 z18_4), q_18)))) n x1 (r_1 + 1) (sS q 0 1)) else (some (0, (sS q 0 1)))))))
set_option maxHeartbeats 4000000 in
set_option maxRecDepth 100000 in
theorem lpM_next_45 {p : Program} {l : Launch} {e : Env} {s : State} {m : MethodId} {args : Array Value} {below : List Frame} {meth : Method} {c : Code} {G : Ev} {a : Nat → Nat} {Q : State → Prop} {A : Nat → Prop} {q0 : Pc3} (X : CX p s m args meth c cX8_next 5 (some .int) RX8 (.code yX8_next cX8_next 5 (some .int)) G A) (hD : va_D A (wM G a q0)) {α : Type} {o : α} {n : Nat} {K0 : Pc3 → Option α} {K1 : Int32 → Pc3 → Option α} (h0 : ∀ (q : Pc3) (H : Heap) (locs : List Loc) (ls : Array Slot), K0 q = some o → va_P (DD G) vwCl (wM G a q) H → va_S A s.heap H locs → lv_has ls 5 [] → W p l e { frames := 2, cells := 0, slots := 0, locals := 45 } s m args below meth c H locs 0 0 Q (F0 m 76 ls [])) (h1 : ∀ (y4 : Int32) (q : Pc3) (H : Heap) (locs : List Loc) (ls : Array Slot), K1 y4 q = some o → va_P (DD G) vwCl (wM G a q) H → va_S A s.heap H locs → lv_has ls 5 [(0, .ref (a 0)), (4, .int y4)] → W p l e { frames := 2, cells := 0, slots := 0, locals := 45 } s m args below meth c H locs 0 0 Q (F0 m 62 ls [])) : ∀ (k : Nat) (x1 : Int32) (x4 : Int32) (q : Pc3) (H : Heap) (locs : List Loc) (ls : Array Slot), moM_next_L45 n K0 K1 k x1 x4 q = some o → va_P (DD G) vwCl (wM G a q) H → va_S A s.heap H locs → lv_has ls 5 [(0, .ref (a 0)), (1, .int x1), (4, .int x4)] → W p l e { frames := 2, cells := 0, slots := 0, locals := 45 } s m args below meth c H locs 0 0 Q (F0 m 45 ls []) := by
  obtain ⟨⟨hx, hb, hml, hown, hts⟩, hK, hr, hlk, hA, hAs, hSta⟩ := id X
  intro k
  induction k with
  | zero =>
    intro x1 x4 q H locs ls hm
    have hm : none = some o := hm
    cases hm
  | succ k ih =>
    intro x1 x4 q H locs ls hm hP hS hl
    rw [moM_next_L45] at hm
    refine lv_iload hx hb dX8_next_45 (lv_at hl 2 rfl) ?_
    refine lv_ldc (v := 109573) hx hb hown (hts _ (List.mem_cons_of_mem _ kw779)) dX8_next_47 ?_
    refine lv_icmp_ge (tgt := 76) hx hb dX8_next_49 (by decide) (fun c_6 => ?_) (fun c_6 => ?_)
    · have hm := (if_pos c_6).symm.trans hm
      exact h0 _ _ _ _ hm hP hS (lv_sub hl [] rfl)
    · have hm := (if_neg c_6).symm.trans hm
      refine lv_aload_n hx hb dX8_next_52 rfl (lv_at hl 0 rfl) ?_
      refine lv_iload_n hx hb dX8_next_53 rfl (lv_at hl 1 rfl) ?_
      refine lv_iload hx hb dX8_next_54 (lv_at hl 2 rfl) ?_
      obtain ⟨r_7, e_7, hm⟩ := bd1_s hm
      refine goV_i (n := 2) (C := RX8) X (cM_comesAt e_7) (gV kw1028 kw1030 ks_yX8_comesAt kw9 kw1031) (by decide +kernel) ⟨by decide, by decide⟩ (rcM hK hP) hP (dM hD) hS rfl rfl hl.1 (Nat.le_of_ble_eq_true rfl) dX8_next_56 ⟨Nat.le_refl _, Nat.le_refl _⟩ (fun H locs hP _ hS => ?_)
      refine lv_if_eq (tgt := 70) hx hb dX8_next_59 (by decide) (fun c_8 => ?_) (fun c_8 => ?_)
      · have hm := (if_pos c_8).symm.trans hm
        refine lv_iinc (v := (x4 + 1)) (lv' := [(4, .int (x4 + 1)), (0, .ref (a 0)), (1, .int x1)]) hx hb dX8_next_70 hl (k := 2) rfl (by first | rfl | decide) (by decide) rfl (fun ls hl => ?_)
        refine lv_goto (tgt := 45) hx hb dX8_next_73 (by decide) ?_
        exact ih _ _ _ _ _ _ hm hP hS (lv_sub hl [1, 2, 0] rfl)
      · have hm := (if_neg c_8).symm.trans hm
        exact h1 _ _ _ _ _ hm hP hS (lv_sub hl [0, 2] rfl)
set_option maxHeartbeats 4000000 in
set_option maxRecDepth 100000 in
theorem cM_next {l : Launch} {G : Ev} {a : Nat → Nat} {n : Nat} {q : Pc3} {x1 : Int32} {x2 : Int32} {r : Int32} {q' : Pc3} (hm : moM_next n x1 x2 q = some (r, q')) : CtI l G yX8_next cX8_next 5 (some .int) 2 45 0 0 [.ref (a 0), .int x1, .int x2] (wM G a q) (wM G a q') r := by
  intro sz
  refine enter (by decide) (Nat.le_of_ble_eq_true rfl) ?_
  intro p e s m args below meth c ls X hsz hP hD hS hl
  subst hsz
  obtain ⟨⟨hx, hb, hml, hown, hts⟩, hK, hr, hlk, hA, hAs, hSta⟩ := id X
  have hl : lv_has ls 5 [(0, .ref (a 0)), (1, .int x1), (2, .int x2)] := hl
  unfold moM_next at hm
  refine lv_aload_n hx hb dX8_next_0 rfl (lv_at hl 0 rfl) ?_
  refine lv_iload_n hx hb dX8_next_1 rfl (lv_at hl 2 rfl) ?_
  obtain ⟨r_1, e_1, hm⟩ := bd1_s hm
  refine goV_i (n := 1) (C := RX8) X (cM_dayOf e_1) (gV kw885 kw887 ks_yX8_dayOf kw9 kw888) (by decide +kernel) ⟨by decide, by decide⟩ (rcM hK hP) hP (dM hD) hS rfl rfl hl.1 (Nat.le_of_ble_eq_true rfl) dX8_next_2 ⟨Nat.le_refl _, Nat.le_refl _⟩ (fun H locs hP _ hS => ?_)
  refine lv_istore_n (lv' := [(3, .int r_1), (0, .ref (a 0)), (1, .int x1), (2, .int x2)]) hx hb dX8_next_5 rfl hl (by decide) rfl (fun ls hl => ?_)
  refine lv_aload_n hx hb dX8_next_6 rfl (lv_at hl 1 rfl) ?_
  refine lv_aload_n hx hb dX8_next_7 rfl (lv_at hl 1 rfl) ?_
  refine lv_iload_n hx hb dX8_next_8 rfl (lv_at hl 2 rfl) ?_
  obtain ⟨r_2, e_2, hm⟩ := bd1_s hm
  refine goV_i (n := 1) (C := RX8) X (cM_noThing e_2) (gV kw1008 kw1010 ks_yX8_noThing kw9 kw1011) (by decide +kernel) ⟨by decide, by decide⟩ (rcM hK hP) hP (dM hD) hS rfl rfl hl.1 (Nat.le_of_ble_eq_true rfl) dX8_next_9 ⟨Nat.le_refl _, Nat.le_refl _⟩ (fun H locs hP _ hS => ?_)
  refine lv_if_eq (tgt := 19) hx hb dX8_next_12 (by decide) (fun c_3 => ?_) (fun c_3 => ?_)
  · have hm := (if_pos c_3).symm.trans hm
    refine lv_iload_n hx hb dX8_next_19 rfl (lv_at hl 0 rfl) ?_
    refine lv_if_ge (tgt := 27) hx hb dX8_next_20 (by decide) (fun c_4 => ?_) (fun c_4 => ?_)
    · have hm := (if_pos c_4).symm.trans hm
      refine lv_iconst (v := 0) hx hb dX8_next_27 (by decide) ?_
      refine pM_thrown X hP (dM hD) hS dX8_next_28 (fun H locs hP hS => ?_)
      refine lv_aload_n hx hb dX8_next_31 rfl (lv_at hl 1 rfl) ?_
      refine gM_thrown X hP dX8_next_32 ?_
      refine lv_if_le (tgt := 40) hx hb dX8_next_35 (by decide) (fun c_5 => ?_) (fun c_5 => ?_)
      · have hm := (if_pos c_5).symm.trans hm
        refine lv_iload_n hx hb dX8_next_40 rfl (lv_at hl 0 rfl) ?_
        refine lv_iconst (v := 1) hx hb dX8_next_41 (by decide) ?_
        refine lv_iadd hx hb dX8_next_42 ?_
        refine lv_istore (lv' := [(4, .int (r_1 + 1)), (3, .int r_1), (0, .ref (a 0)), (1, .int x1), (2, .int x2)]) hx hb dX8_next_43 hl (by decide) rfl (fun ls hl => ?_)
        refine lpM_next_45 X hD (fun q_9 H locs ls hm hP hS hl => ?_) (fun z10_4 q_10 H locs ls hm hP hS hl => ?_) n _ _ _ _ _ _ hm hP hS (lv_sub hl [2, 3, 0] rfl)
        · refine lv_iconst (v := (-1)) hx hb dX8_next_76 (by decide) ?_
          exact ret_i (wf := wM G a) X hm hP hS dX8_next_77
        · refine lv_aload_n hx hb dX8_next_62 rfl (lv_at hl 0 rfl) ?_
          refine gM_dates X hP dX8_next_63 ?_
          refine lv_iload hx hb dX8_next_66 (lv_at hl 1 rfl) ?_
          obtain ⟨hi_11, hm⟩ := gi_s hm
          refine ldM_dates X hP hi_11 dX8_next_68 ?_
          exact ret_i (wf := wM G a) X hm hP hS dX8_next_69
      · have hm := (if_neg c_5).symm.trans hm
        refine lv_iconst (v := 0) hx hb dX8_next_38 (by decide) ?_
        exact ret_i (wf := wM G a) X hm hP hS dX8_next_39
    · have hm := (if_neg c_4).symm.trans hm
      refine lv_iconst (v := 2) hx hb dX8_next_23 (by decide) ?_
      refine lv_goto (tgt := 28) hx hb dX8_next_24 (by decide) ?_
      refine pM_thrown X hP (dM hD) hS dX8_next_28 (fun H locs hP hS => ?_)
      refine lv_aload_n hx hb dX8_next_31 rfl (lv_at hl 1 rfl) ?_
      refine gM_thrown X hP dX8_next_32 ?_
      refine lv_if_le (tgt := 40) hx hb dX8_next_35 (by decide) (fun c_12 => ?_) (fun c_12 => ?_)
      · have hm := (if_pos c_12).symm.trans hm
        refine lv_iload_n hx hb dX8_next_40 rfl (lv_at hl 0 rfl) ?_
        refine lv_iconst (v := 1) hx hb dX8_next_41 (by decide) ?_
        refine lv_iadd hx hb dX8_next_42 ?_
        refine lv_istore (lv' := [(4, .int (r_1 + 1)), (3, .int r_1), (0, .ref (a 0)), (1, .int x1), (2, .int x2)]) hx hb dX8_next_43 hl (by decide) rfl (fun ls hl => ?_)
        refine lpM_next_45 X hD (fun q_13 H locs ls hm hP hS hl => ?_) (fun z14_4 q_14 H locs ls hm hP hS hl => ?_) n _ _ _ _ _ _ hm hP hS (lv_sub hl [2, 3, 0] rfl)
        · refine lv_iconst (v := (-1)) hx hb dX8_next_76 (by decide) ?_
          exact ret_i (wf := wM G a) X hm hP hS dX8_next_77
        · refine lv_aload_n hx hb dX8_next_62 rfl (lv_at hl 0 rfl) ?_
          refine gM_dates X hP dX8_next_63 ?_
          refine lv_iload hx hb dX8_next_66 (lv_at hl 1 rfl) ?_
          obtain ⟨hi_15, hm⟩ := gi_s hm
          refine ldM_dates X hP hi_15 dX8_next_68 ?_
          exact ret_i (wf := wM G a) X hm hP hS dX8_next_69
      · have hm := (if_neg c_12).symm.trans hm
        refine lv_iconst (v := 0) hx hb dX8_next_38 (by decide) ?_
        exact ret_i (wf := wM G a) X hm hP hS dX8_next_39
  · have hm := (if_neg c_3).symm.trans hm
    refine lv_iconst (v := 1) hx hb dX8_next_15 (by decide) ?_
    refine lv_goto (tgt := 28) hx hb dX8_next_16 (by decide) ?_
    refine pM_thrown X hP (dM hD) hS dX8_next_28 (fun H locs hP hS => ?_)
    refine lv_aload_n hx hb dX8_next_31 rfl (lv_at hl 1 rfl) ?_
    refine gM_thrown X hP dX8_next_32 ?_
    refine lv_if_le (tgt := 40) hx hb dX8_next_35 (by decide) (fun c_16 => ?_) (fun c_16 => ?_)
    · have hm := (if_pos c_16).symm.trans hm
      refine lv_iload_n hx hb dX8_next_40 rfl (lv_at hl 0 rfl) ?_
      refine lv_iconst (v := 1) hx hb dX8_next_41 (by decide) ?_
      refine lv_iadd hx hb dX8_next_42 ?_
      refine lv_istore (lv' := [(4, .int (r_1 + 1)), (3, .int r_1), (0, .ref (a 0)), (1, .int x1), (2, .int x2)]) hx hb dX8_next_43 hl (by decide) rfl (fun ls hl => ?_)
      refine lpM_next_45 X hD (fun q_17 H locs ls hm hP hS hl => ?_) (fun z18_4 q_18 H locs ls hm hP hS hl => ?_) n _ _ _ _ _ _ hm hP hS (lv_sub hl [2, 3, 0] rfl)
      · refine lv_iconst (v := (-1)) hx hb dX8_next_76 (by decide) ?_
        exact ret_i (wf := wM G a) X hm hP hS dX8_next_77
      · refine lv_aload_n hx hb dX8_next_62 rfl (lv_at hl 0 rfl) ?_
        refine gM_dates X hP dX8_next_63 ?_
        refine lv_iload hx hb dX8_next_66 (lv_at hl 1 rfl) ?_
        obtain ⟨hi_19, hm⟩ := gi_s hm
        refine ldM_dates X hP hi_19 dX8_next_68 ?_
        exact ret_i (wf := wM G a) X hm hP hS dX8_next_69
    · have hm := (if_neg c_16).symm.trans hm
      refine lv_iconst (v := 0) hx hb dX8_next_38 (by decide) ?_
      exact ret_i (wf := wM G a) X hm hP hS dX8_next_39

-- date
def moM_date_L30 {α : Type} (n : Nat) (K0 : Pc3 → Option α) (K1 : Int32 → Pc3 → Option α) : Nat → Int32 → Int32 → Int32 → Pc3 → Option α
  | 0, _, _, _, _ => none
  | k + 1, x1, x3, x4, q => (if 109573 ≤ x4 then (K0 q) else (if (rS q 0) = 0 then (bd1 (moM_comesAt n x1 x4 q) fun r_6 => (if r_6 = 0 then (moM_date_L30 n K0 K1 k x1 x3 (x4 + 1) q) else (if x3 = 0 then (K1 x4 q) else (moM_date_L30 n K0 K1 k x1 (x3 + (-1)) (x4 + 1) q)))) else (K0 q)))
def moM_date_B22 (n : Nat) (x1 : Int32) (x2 : Int32) (t0 : Int32) (q : Pc3) : Option (Int32 × Pc3) :=
  (moM_date_L30 n (fun q_9 => (if (rS q_9 0) ≤ 0 then (some ((-1), q_9)) else (some (0, q_9)))) (fun z11_4 q_11 => (gi z11_4 109573 (some ((rA q_11 1 z11_4), q_11)))) n x1 x2 0 (sS q 0 t0))
def moM_date (n : Nat) (x1 : Int32) (x2 : Int32) (q : Pc3) : Option (Int32 × Pc3) :=
  (bd1 (moM_noThing n x1 q) fun r_1 => (if r_1 = 0 then (if 0 ≤ x2 then (moM_date_B22 n x1 x2 0 q) else (moM_date_B22 n x1 x2 2 q)) else (moM_date_B22 n x1 x2 1 q)))
set_option maxHeartbeats 4000000 in
set_option maxRecDepth 100000 in
theorem lpM_date_30 {p : Program} {l : Launch} {e : Env} {s : State} {m : MethodId} {args : Array Value} {below : List Frame} {meth : Method} {c : Code} {G : Ev} {a : Nat → Nat} {Q : State → Prop} {A : Nat → Prop} {q0 : Pc3} (X : CX p s m args meth c cX8_date 5 (some .int) RX8 (.code yX8_date cX8_date 5 (some .int)) G A) (hD : va_D A (wM G a q0)) {α : Type} {o : α} {n : Nat} {K0 : Pc3 → Option α} {K1 : Int32 → Pc3 → Option α} (h0 : ∀ (q : Pc3) (H : Heap) (locs : List Loc) (ls : Array Slot), K0 q = some o → va_P (DD G) vwCl (wM G a q) H → va_S A s.heap H locs → lv_has ls 5 [(0, .ref (a 0))] → W p l e { frames := 2, cells := 0, slots := 0, locals := 45 } s m args below meth c H locs 0 0 Q (F0 m 75 ls [])) (h1 : ∀ (y4 : Int32) (q : Pc3) (H : Heap) (locs : List Loc) (ls : Array Slot), K1 y4 q = some o → va_P (DD G) vwCl (wM G a q) H → va_S A s.heap H locs → lv_has ls 5 [(0, .ref (a 0)), (4, .int y4)] → W p l e { frames := 2, cells := 0, slots := 0, locals := 45 } s m args below meth c H locs 0 0 Q (F0 m 58 ls [])) : ∀ (k : Nat) (x1 : Int32) (x3 : Int32) (x4 : Int32) (q : Pc3) (H : Heap) (locs : List Loc) (ls : Array Slot), moM_date_L30 n K0 K1 k x1 x3 x4 q = some o → va_P (DD G) vwCl (wM G a q) H → va_S A s.heap H locs → lv_has ls 5 [(0, .ref (a 0)), (1, .int x1), (3, .int x3), (4, .int x4)] → W p l e { frames := 2, cells := 0, slots := 0, locals := 45 } s m args below meth c H locs 0 0 Q (F0 m 30 ls []) := by
  obtain ⟨⟨hx, hb, hml, hown, hts⟩, hK, hr, hlk, hA, hAs, hSta⟩ := id X
  intro k
  induction k with
  | zero =>
    intro x1 x3 x4 q H locs ls hm
    have hm : none = some o := hm
    cases hm
  | succ k ih =>
    intro x1 x3 x4 q H locs ls hm hP hS hl
    rw [moM_date_L30] at hm
    refine lv_iload hx hb dX8_date_30 (lv_at hl 3 rfl) ?_
    refine lv_ldc (v := 109573) hx hb hown (hts _ (List.mem_cons_of_mem _ kw779)) dX8_date_32 ?_
    refine lv_icmp_ge (tgt := 75) hx hb dX8_date_34 (by decide) (fun c_4 => ?_) (fun c_4 => ?_)
    · have hm := (if_pos c_4).symm.trans hm
      exact h0 _ _ _ _ hm hP hS (lv_sub hl [0] rfl)
    · have hm := (if_neg c_4).symm.trans hm
      refine lv_aload_n hx hb dX8_date_37 rfl (lv_at hl 0 rfl) ?_
      refine gM_thrown X hP dX8_date_38 ?_
      refine lv_if_ne (tgt := 75) hx hb dX8_date_41 (by decide) (fun c_5 => ?_) (fun c_5 => ?_)
      · have hm := (if_neg c_5).symm.trans hm
        exact h0 _ _ _ _ hm hP hS (lv_sub hl [0] rfl)
      · have hm := (if_pos c_5).symm.trans hm
        refine lv_aload_n hx hb dX8_date_44 rfl (lv_at hl 0 rfl) ?_
        refine lv_iload_n hx hb dX8_date_45 rfl (lv_at hl 1 rfl) ?_
        refine lv_iload hx hb dX8_date_46 (lv_at hl 3 rfl) ?_
        obtain ⟨r_6, e_6, hm⟩ := bd1_s hm
        refine goV_i (n := 2) (C := RX8) X (cM_comesAt e_6) (gV kw1028 kw1030 ks_yX8_comesAt kw9 kw1031) (by decide +kernel) ⟨by decide, by decide⟩ (rcM hK hP) hP (dM hD) hS rfl rfl hl.1 (Nat.le_of_ble_eq_true rfl) dX8_date_48 ⟨Nat.le_refl _, Nat.le_refl _⟩ (fun H locs hP _ hS => ?_)
        refine lv_if_eq (tgt := 69) hx hb dX8_date_51 (by decide) (fun c_7 => ?_) (fun c_7 => ?_)
        · have hm := (if_pos c_7).symm.trans hm
          refine lv_iinc (v := (x4 + 1)) (lv' := [(4, .int (x4 + 1)), (0, .ref (a 0)), (1, .int x1), (3, .int x3)]) hx hb dX8_date_69 hl (k := 3) rfl (by first | rfl | decide) (by decide) rfl (fun ls hl => ?_)
          refine lv_goto (tgt := 30) hx hb dX8_date_72 (by decide) ?_
          exact ih _ _ _ _ _ _ _ hm hP hS (lv_sub hl [1, 2, 3, 0] rfl)
        · have hm := (if_neg c_7).symm.trans hm
          refine lv_iload_n hx hb dX8_date_54 rfl (lv_at hl 2 rfl) ?_
          refine lv_if_ne (tgt := 66) hx hb dX8_date_55 (by decide) (fun c_8 => ?_) (fun c_8 => ?_)
          · have hm := (if_neg c_8).symm.trans hm
            refine lv_iinc (v := (x3 + (-1))) (lv' := [(3, .int (x3 + (-1))), (0, .ref (a 0)), (1, .int x1), (4, .int x4)]) hx hb dX8_date_66 hl (k := 2) rfl (by first | rfl | decide) (by decide) rfl (fun ls hl => ?_)
            refine lv_iinc (v := (x4 + 1)) (lv' := [(4, .int (x4 + 1)), (3, .int (x3 + (-1))), (0, .ref (a 0)), (1, .int x1)]) hx hb dX8_date_69 hl (k := 3) rfl (by first | rfl | decide) (by decide) rfl (fun ls hl => ?_)
            refine lv_goto (tgt := 30) hx hb dX8_date_72 (by decide) ?_
            exact ih _ _ _ _ _ _ _ hm hP hS (lv_sub hl [2, 3, 1, 0] rfl)
          · have hm := (if_pos c_8).symm.trans hm
            exact h1 _ _ _ _ _ hm hP hS (lv_sub hl [0, 3] rfl)
set_option maxHeartbeats 4000000 in
set_option maxRecDepth 100000 in
theorem bkM_date_22 {p : Program} {l : Launch} {e : Env} {s : State} {m : MethodId} {args : Array Value} {below : List Frame} {meth : Method} {c : Code} {G : Ev} {a : Nat → Nat}  {q0 : Pc3} {L : List Nat} {r : Int32} {q' : Pc3} {n : Nat} {x1 : Int32} {x2 : Int32} {t0 : Int32} {q : Pc3} {H : Heap} {locs : List Loc} {ls : Array Slot} (X : CX p s m args meth c cX8_date 5 (some .int) RX8 (.code yX8_date cX8_date 5 (some .int)) G (AL L s.heap.size)) (hD : va_D (AL L s.heap.size) (wM G a q0)) (hm : moM_date_B22 n x1 x2 t0 q = some (r, q')) (hP : va_P (DD G) vwCl (wM G a q) H) (hS : va_S (AL L s.heap.size) s.heap H locs) (hl : lv_has ls 5 [(0, .ref (a 0)), (1, .int x1), (2, .int x2)]) : W p l e { frames := 2, cells := 0, slots := 0, locals := 45 } s m args below meth c H locs 0 0 (MQ below (va_Qi (fun r' (_ : Unit) => r' = r) (fun _ t => va_P (DD G) vwCl (wM G a q') t.heap) (AL L s.heap.size)) args s 0 0 (AL L s.heap.size)) (F0 m 22 ls [.int t0, .ref (a 0)]) := by
  obtain ⟨⟨hx, hb, hml, hown, hts⟩, hK, hr, hlk, hA, hAs, hSta⟩ := id X
  unfold moM_date_B22 at hm
  refine pM_thrown X hP (dM hD) hS dX8_date_22 (fun H locs hP hS => ?_)
  refine lv_iload_n hx hb dX8_date_25 rfl (lv_at hl 2 rfl) ?_
  refine lv_istore_n (lv' := [(3, .int x2), (0, .ref (a 0)), (1, .int x1), (2, .int x2)]) hx hb dX8_date_26 rfl hl (by decide) rfl (fun ls hl => ?_)
  refine lv_iconst (v := 0) hx hb dX8_date_27 (by decide) ?_
  refine lv_istore (lv' := [(4, .int 0), (3, .int x2), (0, .ref (a 0)), (1, .int x1), (2, .int x2)]) hx hb dX8_date_28 hl (by decide) rfl (fun ls hl => ?_)
  refine lpM_date_30 X hD (fun q_9 H locs ls hm hP hS hl => ?_) (fun z11_4 q_11 H locs ls hm hP hS hl => ?_) n _ _ _ _ _ _ _ hm hP hS (lv_sub hl [2, 3, 1, 0] rfl)
  · refine lv_aload_n hx hb dX8_date_75 rfl (lv_at hl 0 rfl) ?_
    refine gM_thrown X hP dX8_date_76 ?_
    refine lv_if_le (tgt := 86) hx hb dX8_date_79 (by decide) (fun c_10 => ?_) (fun c_10 => ?_)
    · have hm := (if_pos c_10).symm.trans hm
      refine lv_iconst (v := (-1)) hx hb dX8_date_86 (by decide) ?_
      exact ret_i (wf := wM G a) X hm hP hS dX8_date_87
    · have hm := (if_neg c_10).symm.trans hm
      refine lv_iconst (v := 0) hx hb dX8_date_82 (by decide) ?_
      refine lv_goto (tgt := 87) hx hb dX8_date_83 (by decide) ?_
      exact ret_i (wf := wM G a) X hm hP hS dX8_date_87
  · refine lv_aload_n hx hb dX8_date_58 rfl (lv_at hl 0 rfl) ?_
    refine gM_dates X hP dX8_date_59 ?_
    refine lv_iload hx hb dX8_date_62 (lv_at hl 1 rfl) ?_
    obtain ⟨hi_12, hm⟩ := gi_s hm
    refine ldM_dates X hP hi_12 dX8_date_64 ?_
    exact ret_i (wf := wM G a) X hm hP hS dX8_date_65
set_option maxHeartbeats 4000000 in
set_option maxRecDepth 100000 in
theorem cM_date {l : Launch} {G : Ev} {a : Nat → Nat} {n : Nat} {q : Pc3} {x1 : Int32} {x2 : Int32} {r : Int32} {q' : Pc3} (hm : moM_date n x1 x2 q = some (r, q')) : CtI l G yX8_date cX8_date 5 (some .int) 2 45 0 0 [.ref (a 0), .int x1, .int x2] (wM G a q) (wM G a q') r := by
  intro sz
  refine enter (by decide) (Nat.le_of_ble_eq_true rfl) ?_
  intro p e s m args below meth c ls X hsz hP hD hS hl
  subst hsz
  obtain ⟨⟨hx, hb, hml, hown, hts⟩, hK, hr, hlk, hA, hAs, hSta⟩ := id X
  have hl : lv_has ls 5 [(0, .ref (a 0)), (1, .int x1), (2, .int x2)] := hl
  unfold moM_date at hm
  refine lv_aload_n hx hb dX8_date_0 rfl (lv_at hl 0 rfl) ?_
  refine lv_aload_n hx hb dX8_date_1 rfl (lv_at hl 0 rfl) ?_
  refine lv_iload_n hx hb dX8_date_2 rfl (lv_at hl 1 rfl) ?_
  obtain ⟨r_1, e_1, hm⟩ := bd1_s hm
  refine goV_i (n := 1) (C := RX8) X (cM_noThing e_1) (gV kw1008 kw1010 ks_yX8_noThing kw9 kw1011) (by decide +kernel) ⟨by decide, by decide⟩ (rcM hK hP) hP (dM hD) hS rfl rfl hl.1 (Nat.le_of_ble_eq_true rfl) dX8_date_3 ⟨Nat.le_refl _, Nat.le_refl _⟩ (fun H locs hP _ hS => ?_)
  refine lv_if_eq (tgt := 13) hx hb dX8_date_6 (by decide) (fun c_2 => ?_) (fun c_2 => ?_)
  · have hm := (if_pos c_2).symm.trans hm
    refine lv_iload_n hx hb dX8_date_13 rfl (lv_at hl 2 rfl) ?_
    refine lv_if_ge (tgt := 21) hx hb dX8_date_14 (by decide) (fun c_3 => ?_) (fun c_3 => ?_)
    · have hm := (if_pos c_3).symm.trans hm
      refine lv_iconst (v := 0) hx hb dX8_date_21 (by decide) ?_
      exact bkM_date_22 X hD hm hP hS (lv_sub hl [0, 1, 2] rfl)
    · have hm := (if_neg c_3).symm.trans hm
      refine lv_iconst (v := 2) hx hb dX8_date_17 (by decide) ?_
      refine lv_goto (tgt := 22) hx hb dX8_date_18 (by decide) ?_
      exact bkM_date_22 X hD hm hP hS (lv_sub hl [0, 1, 2] rfl)
  · have hm := (if_neg c_2).symm.trans hm
    refine lv_iconst (v := 1) hx hb dX8_date_9 (by decide) ?_
    refine lv_goto (tgt := 22) hx hb dX8_date_10 (by decide) ?_
    exact bkM_date_22 X hD hm hP hS (lv_sub hl [0, 1, 2] rfl)

-- times
def moM_times_L52 {α : Type} (n : Nat) (K0 : Int32 → Pc3 → Option α) : Nat → Int32 → Int32 → Int32 → Int32 → Pc3 → Option α
  | 0, _, _, _, _, _ => none
  | k + 1, x1, x5, x6, x7, q => (if x5 < x7 then (K0 x6 q) else (if (rS q 0) = 0 then (bd1 (moM_comesAt n x1 x7 q) fun r_8 => (if r_8 = 0 then (moM_times_L52 n K0 k x1 x5 x6 (x7 + 1) q) else (moM_times_L52 n K0 k x1 x5 (x6 + 1) (x7 + 1) q))) else (K0 x6 q)))
def moM_times (n : Nat) (x1 : Int32) (x2 : Int32) (x3 : Int32) (q : Pc3) : Option (Int32 × Pc3) :=
  (bd1 (moM_dayOf n x2 q) fun r_1 => (bd1 (moM_dayOf n x3 q) fun r_2 => (bd1 (moM_noThing n x1 q) fun r_3 => (if r_3 = 0 then (if r_1 < 0 then (moM_times_L52 n (fun z10_6 q_10 => (some (z10_6, q_10))) n x1 r_2 0 r_1 (sS q 0 2)) else (if 0 ≤ r_2 then (moM_times_L52 n (fun z12_6 q_12 => (some (z12_6, q_12))) n x1 r_2 0 r_1 (sS q 0 0)) else (moM_times_L52 n (fun z13_6 q_13 => (some (z13_6, q_13))) n x1 r_2 0 r_1 (sS q 0 2)))) else (moM_times_L52 n (fun z14_6 q_14 => (some (z14_6, q_14))) n x1 r_2 0 r_1 (sS q 0 1))))))
set_option maxHeartbeats 4000000 in
set_option maxRecDepth 100000 in
theorem lpM_times_52 {p : Program} {l : Launch} {e : Env} {s : State} {m : MethodId} {args : Array Value} {below : List Frame} {meth : Method} {c : Code} {G : Ev} {a : Nat → Nat} {Q : State → Prop} {A : Nat → Prop} {q0 : Pc3} (X : CX p s m args meth c cX8_times 8 (some .int) RX8 (.code yX8_times cX8_times 8 (some .int)) G A) (hD : va_D A (wM G a q0)) {α : Type} {o : α} {n : Nat} {K0 : Int32 → Pc3 → Option α} (h0 : ∀ (y6 : Int32) (q : Pc3) (H : Heap) (locs : List Loc) (ls : Array Slot), K0 y6 q = some o → va_P (DD G) vwCl (wM G a q) H → va_S A s.heap H locs → lv_has ls 8 [(6, .int y6)] → W p l e { frames := 2, cells := 0, slots := 0, locals := 45 } s m args below meth c H locs 0 0 Q (F0 m 93 ls [])) : ∀ (k : Nat) (x1 : Int32) (x5 : Int32) (x6 : Int32) (x7 : Int32) (q : Pc3) (H : Heap) (locs : List Loc) (ls : Array Slot), moM_times_L52 n K0 k x1 x5 x6 x7 q = some o → va_P (DD G) vwCl (wM G a q) H → va_S A s.heap H locs → lv_has ls 8 [(0, .ref (a 0)), (1, .int x1), (5, .int x5), (6, .int x6), (7, .int x7)] → W p l e { frames := 2, cells := 0, slots := 0, locals := 45 } s m args below meth c H locs 0 0 Q (F0 m 52 ls []) := by
  obtain ⟨⟨hx, hb, hml, hown, hts⟩, hK, hr, hlk, hA, hAs, hSta⟩ := id X
  intro k
  induction k with
  | zero =>
    intro x1 x5 x6 x7 q H locs ls hm
    have hm : none = some o := hm
    cases hm
  | succ k ih =>
    intro x1 x5 x6 x7 q H locs ls hm hP hS hl
    rw [moM_times_L52] at hm
    refine lv_iload hx hb dX8_times_52 (lv_at hl 4 rfl) ?_
    refine lv_iload hx hb dX8_times_54 (lv_at hl 2 rfl) ?_
    refine lv_icmp_gt (tgt := 93) hx hb dX8_times_56 (by decide) (fun c_6 => ?_) (fun c_6 => ?_)
    · have hm := (if_pos c_6).symm.trans hm
      exact h0 _ _ _ _ _ hm hP hS (lv_sub hl [3] rfl)
    · have hm := (if_neg c_6).symm.trans hm
      refine lv_aload_n hx hb dX8_times_59 rfl (lv_at hl 0 rfl) ?_
      refine gM_thrown X hP dX8_times_60 ?_
      refine lv_if_ne (tgt := 93) hx hb dX8_times_63 (by decide) (fun c_7 => ?_) (fun c_7 => ?_)
      · have hm := (if_neg c_7).symm.trans hm
        exact h0 _ _ _ _ _ hm hP hS (lv_sub hl [3] rfl)
      · have hm := (if_pos c_7).symm.trans hm
        refine lv_aload_n hx hb dX8_times_66 rfl (lv_at hl 0 rfl) ?_
        refine lv_iload_n hx hb dX8_times_67 rfl (lv_at hl 1 rfl) ?_
        refine lv_iload hx hb dX8_times_68 (lv_at hl 4 rfl) ?_
        obtain ⟨r_8, e_8, hm⟩ := bd1_s hm
        refine goV_i (n := 2) (C := RX8) X (cM_comesAt e_8) (gV kw1028 kw1030 ks_yX8_comesAt kw9 kw1031) (by decide +kernel) ⟨by decide, by decide⟩ (rcM hK hP) hP (dM hD) hS rfl rfl hl.1 (Nat.le_of_ble_eq_true rfl) dX8_times_70 ⟨Nat.le_refl _, Nat.le_refl _⟩ (fun H locs hP _ hS => ?_)
        refine lv_if_eq (tgt := 83) hx hb dX8_times_73 (by decide) (fun c_9 => ?_) (fun c_9 => ?_)
        · have hm := (if_pos c_9).symm.trans hm
          refine lv_iload hx hb dX8_times_83 (lv_at hl 3 rfl) ?_
          refine lv_istore (lv' := [(6, .int x6), (0, .ref (a 0)), (1, .int x1), (5, .int x5), (7, .int x7)]) hx hb dX8_times_85 hl (by decide) rfl (fun ls hl => ?_)
          refine lv_iinc (v := (x7 + 1)) (lv' := [(7, .int (x7 + 1)), (6, .int x6), (0, .ref (a 0)), (1, .int x1), (5, .int x5)]) hx hb dX8_times_87 hl (k := 4) rfl (by first | rfl | decide) (by decide) rfl (fun ls hl => ?_)
          refine lv_goto (tgt := 52) hx hb dX8_times_90 (by decide) ?_
          exact ih _ _ _ _ _ _ _ _ hm hP hS (lv_sub hl [2, 3, 4, 1, 0] rfl)
        · have hm := (if_neg c_9).symm.trans hm
          refine lv_iload hx hb dX8_times_76 (lv_at hl 3 rfl) ?_
          refine lv_iconst (v := 1) hx hb dX8_times_78 (by decide) ?_
          refine lv_iadd hx hb dX8_times_79 ?_
          refine lv_goto (tgt := 85) hx hb dX8_times_80 (by decide) ?_
          refine lv_istore (lv' := [(6, .int (x6 + 1)), (0, .ref (a 0)), (1, .int x1), (5, .int x5), (7, .int x7)]) hx hb dX8_times_85 hl (by decide) rfl (fun ls hl => ?_)
          refine lv_iinc (v := (x7 + 1)) (lv' := [(7, .int (x7 + 1)), (6, .int (x6 + 1)), (0, .ref (a 0)), (1, .int x1), (5, .int x5)]) hx hb dX8_times_87 hl (k := 4) rfl (by first | rfl | decide) (by decide) rfl (fun ls hl => ?_)
          refine lv_goto (tgt := 52) hx hb dX8_times_90 (by decide) ?_
          exact ih _ _ _ _ _ _ _ _ hm hP hS (lv_sub hl [2, 3, 4, 1, 0] rfl)
set_option maxHeartbeats 4000000 in
set_option maxRecDepth 100000 in
theorem cM_times {l : Launch} {G : Ev} {a : Nat → Nat} {n : Nat} {q : Pc3} {x1 : Int32} {x2 : Int32} {x3 : Int32} {r : Int32} {q' : Pc3} (hm : moM_times n x1 x2 x3 q = some (r, q')) : CtI l G yX8_times cX8_times 8 (some .int) 2 45 0 0 [.ref (a 0), .int x1, .int x2, .int x3] (wM G a q) (wM G a q') r := by
  intro sz
  refine enter (by decide) (Nat.le_of_ble_eq_true rfl) ?_
  intro p e s m args below meth c ls X hsz hP hD hS hl
  subst hsz
  obtain ⟨⟨hx, hb, hml, hown, hts⟩, hK, hr, hlk, hA, hAs, hSta⟩ := id X
  have hl : lv_has ls 8 [(0, .ref (a 0)), (1, .int x1), (2, .int x2), (3, .int x3)] := hl
  unfold moM_times at hm
  refine lv_aload_n hx hb dX8_times_0 rfl (lv_at hl 0 rfl) ?_
  refine lv_iload_n hx hb dX8_times_1 rfl (lv_at hl 2 rfl) ?_
  obtain ⟨r_1, e_1, hm⟩ := bd1_s hm
  refine goV_i (n := 1) (C := RX8) X (cM_dayOf e_1) (gV kw885 kw887 ks_yX8_dayOf kw9 kw888) (by decide +kernel) ⟨by decide, by decide⟩ (rcM hK hP) hP (dM hD) hS rfl rfl hl.1 (Nat.le_of_ble_eq_true rfl) dX8_times_2 ⟨Nat.le_refl _, Nat.le_refl _⟩ (fun H locs hP _ hS => ?_)
  refine lv_istore (lv' := [(4, .int r_1), (0, .ref (a 0)), (1, .int x1), (2, .int x2), (3, .int x3)]) hx hb dX8_times_5 hl (by decide) rfl (fun ls hl => ?_)
  refine lv_aload_n hx hb dX8_times_7 rfl (lv_at hl 1 rfl) ?_
  refine lv_iload_n hx hb dX8_times_8 rfl (lv_at hl 4 rfl) ?_
  obtain ⟨r_2, e_2, hm⟩ := bd1_s hm
  refine goV_i (n := 1) (C := RX8) X (cM_dayOf e_2) (gV kw885 kw887 ks_yX8_dayOf kw9 kw888) (by decide +kernel) ⟨by decide, by decide⟩ (rcM hK hP) hP (dM hD) hS rfl rfl hl.1 (Nat.le_of_ble_eq_true rfl) dX8_times_9 ⟨Nat.le_refl _, Nat.le_refl _⟩ (fun H locs hP _ hS => ?_)
  refine lv_istore (lv' := [(5, .int r_2), (4, .int r_1), (0, .ref (a 0)), (1, .int x1), (2, .int x2), (3, .int x3)]) hx hb dX8_times_12 hl (by decide) rfl (fun ls hl => ?_)
  refine lv_aload_n hx hb dX8_times_14 rfl (lv_at hl 2 rfl) ?_
  refine lv_aload_n hx hb dX8_times_15 rfl (lv_at hl 2 rfl) ?_
  refine lv_iload_n hx hb dX8_times_16 rfl (lv_at hl 3 rfl) ?_
  obtain ⟨r_3, e_3, hm⟩ := bd1_s hm
  refine goV_i (n := 1) (C := RX8) X (cM_noThing e_3) (gV kw1008 kw1010 ks_yX8_noThing kw9 kw1011) (by decide +kernel) ⟨by decide, by decide⟩ (rcM hK hP) hP (dM hD) hS rfl rfl hl.1 (Nat.le_of_ble_eq_true rfl) dX8_times_17 ⟨Nat.le_refl _, Nat.le_refl _⟩ (fun H locs hP _ hS => ?_)
  refine lv_if_eq (tgt := 27) hx hb dX8_times_20 (by decide) (fun c_4 => ?_) (fun c_4 => ?_)
  · have hm := (if_pos c_4).symm.trans hm
    refine lv_iload hx hb dX8_times_27 (lv_at hl 1 rfl) ?_
    refine lv_if_lt (tgt := 37) hx hb dX8_times_29 (by decide) (fun c_5 => ?_) (fun c_5 => ?_)
    · have hm := (if_pos c_5).symm.trans hm
      refine lv_iconst (v := 2) hx hb dX8_times_37 (by decide) ?_
      refine lv_goto (tgt := 42) hx hb dX8_times_38 (by decide) ?_
      refine pM_thrown X hP (dM hD) hS dX8_times_42 (fun H locs hP hS => ?_)
      refine lv_iconst (v := 0) hx hb dX8_times_45 (by decide) ?_
      refine lv_istore (lv' := [(6, .int 0), (5, .int r_2), (4, .int r_1), (0, .ref (a 0)), (1, .int x1), (2, .int x2), (3, .int x3)]) hx hb dX8_times_46 hl (by decide) rfl (fun ls hl => ?_)
      refine lv_iload hx hb dX8_times_48 (lv_at hl 2 rfl) ?_
      refine lv_istore (lv' := [(7, .int r_1), (6, .int 0), (5, .int r_2), (4, .int r_1), (0, .ref (a 0)), (1, .int x1), (2, .int x2), (3, .int x3)]) hx hb dX8_times_50 hl (by decide) rfl (fun ls hl => ?_)
      refine lpM_times_52 X hD (fun z10_6 q_10 H locs ls hm hP hS hl => ?_) n _ _ _ _ _ _ _ _ hm hP hS (lv_sub hl [4, 5, 2, 1, 0] rfl)
      refine lv_iload hx hb dX8_times_93 (lv_at hl 0 rfl) ?_
      exact ret_i (wf := wM G a) X hm hP hS dX8_times_95
    · have hm := (if_neg c_5).symm.trans hm
      refine lv_iload hx hb dX8_times_32 (lv_at hl 0 rfl) ?_
      refine lv_if_ge (tgt := 41) hx hb dX8_times_34 (by decide) (fun c_11 => ?_) (fun c_11 => ?_)
      · have hm := (if_pos c_11).symm.trans hm
        refine lv_iconst (v := 0) hx hb dX8_times_41 (by decide) ?_
        refine pM_thrown X hP (dM hD) hS dX8_times_42 (fun H locs hP hS => ?_)
        refine lv_iconst (v := 0) hx hb dX8_times_45 (by decide) ?_
        refine lv_istore (lv' := [(6, .int 0), (5, .int r_2), (4, .int r_1), (0, .ref (a 0)), (1, .int x1), (2, .int x2), (3, .int x3)]) hx hb dX8_times_46 hl (by decide) rfl (fun ls hl => ?_)
        refine lv_iload hx hb dX8_times_48 (lv_at hl 2 rfl) ?_
        refine lv_istore (lv' := [(7, .int r_1), (6, .int 0), (5, .int r_2), (4, .int r_1), (0, .ref (a 0)), (1, .int x1), (2, .int x2), (3, .int x3)]) hx hb dX8_times_50 hl (by decide) rfl (fun ls hl => ?_)
        refine lpM_times_52 X hD (fun z12_6 q_12 H locs ls hm hP hS hl => ?_) n _ _ _ _ _ _ _ _ hm hP hS (lv_sub hl [4, 5, 2, 1, 0] rfl)
        refine lv_iload hx hb dX8_times_93 (lv_at hl 0 rfl) ?_
        exact ret_i (wf := wM G a) X hm hP hS dX8_times_95
      · have hm := (if_neg c_11).symm.trans hm
        refine lv_iconst (v := 2) hx hb dX8_times_37 (by decide) ?_
        refine lv_goto (tgt := 42) hx hb dX8_times_38 (by decide) ?_
        refine pM_thrown X hP (dM hD) hS dX8_times_42 (fun H locs hP hS => ?_)
        refine lv_iconst (v := 0) hx hb dX8_times_45 (by decide) ?_
        refine lv_istore (lv' := [(6, .int 0), (5, .int r_2), (4, .int r_1), (0, .ref (a 0)), (1, .int x1), (2, .int x2), (3, .int x3)]) hx hb dX8_times_46 hl (by decide) rfl (fun ls hl => ?_)
        refine lv_iload hx hb dX8_times_48 (lv_at hl 2 rfl) ?_
        refine lv_istore (lv' := [(7, .int r_1), (6, .int 0), (5, .int r_2), (4, .int r_1), (0, .ref (a 0)), (1, .int x1), (2, .int x2), (3, .int x3)]) hx hb dX8_times_50 hl (by decide) rfl (fun ls hl => ?_)
        refine lpM_times_52 X hD (fun z13_6 q_13 H locs ls hm hP hS hl => ?_) n _ _ _ _ _ _ _ _ hm hP hS (lv_sub hl [4, 5, 2, 1, 0] rfl)
        refine lv_iload hx hb dX8_times_93 (lv_at hl 0 rfl) ?_
        exact ret_i (wf := wM G a) X hm hP hS dX8_times_95
  · have hm := (if_neg c_4).symm.trans hm
    refine lv_iconst (v := 1) hx hb dX8_times_23 (by decide) ?_
    refine lv_goto (tgt := 42) hx hb dX8_times_24 (by decide) ?_
    refine pM_thrown X hP (dM hD) hS dX8_times_42 (fun H locs hP hS => ?_)
    refine lv_iconst (v := 0) hx hb dX8_times_45 (by decide) ?_
    refine lv_istore (lv' := [(6, .int 0), (5, .int r_2), (4, .int r_1), (0, .ref (a 0)), (1, .int x1), (2, .int x2), (3, .int x3)]) hx hb dX8_times_46 hl (by decide) rfl (fun ls hl => ?_)
    refine lv_iload hx hb dX8_times_48 (lv_at hl 2 rfl) ?_
    refine lv_istore (lv' := [(7, .int r_1), (6, .int 0), (5, .int r_2), (4, .int r_1), (0, .ref (a 0)), (1, .int x1), (2, .int x2), (3, .int x3)]) hx hb dX8_times_50 hl (by decide) rfl (fun ls hl => ?_)
    refine lpM_times_52 X hD (fun z14_6 q_14 H locs ls hm hP hS hl => ?_) n _ _ _ _ _ _ _ _ hm hP hS (lv_sub hl [4, 5, 2, 1, 0] rfl)
    refine lv_iload hx hb dX8_times_93 (lv_at hl 0 rfl) ?_
    exact ret_i (wf := wM G a) X hm hP hS dX8_times_95

-- list
def moM_list_L58 {α : Type} (n : Nat) (K0 : Int32 → Int32 → Pc3 → Option α) : Nat → Int32 → Int32 → Int32 → Pc3 → Option α
  | 0, _, _, _, _ => none
  | k + 1, x4, x5, x6, q => (if 12 ≤ x6 then (K0 x4 x5 q) else (if 300 ≤ (rS q 25) then (K0 x4 x5 q) else (gi x6 12 (if (rA q 19 x6) = 0 then (moM_list_L58 n K0 k x4 x5 (x6 + 1) q) else (bd1 (moM_comesAt n x6 x5 q) fun r_10 => (if r_10 = 0 then (moM_list_L58 n K0 k x4 x5 (x6 + 1) q) else (gi x5 109573 (gi (rS q 25) 300 (moM_list_L58 n K0 k x4 x5 (x6 + 1) (sS (sL q 24 (rS q 25) ((Int32.toInt64 x6) + (16 * (Int32.toInt64 (rA q 1 x5))))) 25 ((rS (sL q 24 (rS q 25) ((Int32.toInt64 x6) + (16 * (Int32.toInt64 (rA q 1 x5))))) 25) + 1)))))))))))
def moM_list_L48 {α : Type} (n : Nat) (K0 : Pc3 → Option α) : Nat → Int32 → Int32 → Pc3 → Option α
  | 0, _, _, _ => none
  | k + 1, x4, x5, q => (if x4 < x5 then (K0 q) else (moM_list_L58 n (fun z14_4 z14_5 q_14 => (moM_list_L48 n K0 k z14_4 (z14_5 + 1) q_14)) n x4 x5 0 q))
def moM_list_B28 (n : Nat) (x3 : Int32) (x4 : Int32) (t0 : Int32) (q : Pc3) : Option (Int32 × Pc3) :=
  (if (rS (sS q 0 t0) 0) ≤ 0 then (moM_list_L48 n (fun q_15 => (some ((rS q_15 25), q_15))) n x4 x3 (sS (sS q 0 t0) 25 0)) else (some (0, (sS q 0 t0))))
def moM_list (n : Nat) (x1 : Int32) (x2 : Int32) (q : Pc3) : Option (Int32 × Pc3) :=
  (bd1 (moM_dayOf n x1 q) fun r_1 => (bd1 (moM_dayOf n x2 q) fun r_2 => (if r_1 < 0 then (moM_list_B28 n r_1 r_2 1 q) else (if 0 ≤ r_2 then (moM_list_B28 n r_1 r_2 0 q) else (moM_list_B28 n r_1 r_2 1 q)))))
set_option maxHeartbeats 4000000 in
set_option maxRecDepth 100000 in
theorem lpM_list_58 {p : Program} {l : Launch} {e : Env} {s : State} {m : MethodId} {args : Array Value} {below : List Frame} {meth : Method} {c : Code} {G : Ev} {a : Nat → Nat} {Q : State → Prop} {A : Nat → Prop} {q0 : Pc3} (X : CX p s m args meth c cX8_list 7 (some .int) RX8 (.code yX8_list cX8_list 7 (some .int)) G A) (hD : va_D A (wM G a q0)) {α : Type} {o : α} {n : Nat} {K0 : Int32 → Int32 → Pc3 → Option α} (h0 : ∀ (y4 : Int32) (y5 : Int32) (q : Pc3) (H : Heap) (locs : List Loc) (ls : Array Slot), K0 y4 y5 q = some o → va_P (DD G) vwCl (wM G a q) H → va_S A s.heap H locs → lv_has ls 7 [(0, .ref (a 0)), (4, .int y4), (5, .int y5)] → W p l e { frames := 2, cells := 0, slots := 0, locals := 45 } s m args below meth c H locs 0 0 Q (F0 m 137 ls [])) : ∀ (k : Nat) (x4 : Int32) (x5 : Int32) (x6 : Int32) (q : Pc3) (H : Heap) (locs : List Loc) (ls : Array Slot), moM_list_L58 n K0 k x4 x5 x6 q = some o → va_P (DD G) vwCl (wM G a q) H → va_S A s.heap H locs → lv_has ls 7 [(0, .ref (a 0)), (4, .int x4), (5, .int x5), (6, .int x6)] → W p l e { frames := 2, cells := 0, slots := 0, locals := 45 } s m args below meth c H locs 0 0 Q (F0 m 58 ls []) := by
  obtain ⟨⟨hx, hb, hml, hown, hts⟩, hK, hr, hlk, hA, hAs, hSta⟩ := id X
  intro k
  induction k with
  | zero =>
    intro x4 x5 x6 q H locs ls hm
    have hm : none = some o := hm
    cases hm
  | succ k ih =>
    intro x4 x5 x6 q H locs ls hm hP hS hl
    rw [moM_list_L58] at hm
    refine lv_iload hx hb dX8_list_58 (lv_at hl 3 rfl) ?_
    refine lv_bipush (v := 12) hx hb dX8_list_60 (by decide) ?_
    refine lv_icmp_ge (tgt := 137) hx hb dX8_list_62 (by decide) (fun c_6 => ?_) (fun c_6 => ?_)
    · have hm := (if_pos c_6).symm.trans hm
      exact h0 _ _ _ _ _ _ hm hP hS (lv_sub hl [0, 1, 2] rfl)
    · have hm := (if_neg c_6).symm.trans hm
      refine lv_aload_n hx hb dX8_list_65 rfl (lv_at hl 0 rfl) ?_
      refine gM_listed X hP dX8_list_66 ?_
      refine lv_sipush (v := 300) hx hb dX8_list_69 (by decide) ?_
      refine lv_icmp_ge (tgt := 137) hx hb dX8_list_72 (by decide) (fun c_7 => ?_) (fun c_7 => ?_)
      · have hm := (if_pos c_7).symm.trans hm
        exact h0 _ _ _ _ _ _ hm hP hS (lv_sub hl [0, 1, 2] rfl)
      · have hm := (if_neg c_7).symm.trans hm
        refine lv_aload_n hx hb dX8_list_75 rfl (lv_at hl 0 rfl) ?_
        refine gM_there X hP dX8_list_76 ?_
        refine lv_iload hx hb dX8_list_79 (lv_at hl 3 rfl) ?_
        obtain ⟨hi_8, hm⟩ := gi_s hm
        refine ldM_there X hP hi_8 dX8_list_81 ?_
        refine lv_if_eq (tgt := 131) hx hb dX8_list_82 (by decide) (fun c_9 => ?_) (fun c_9 => ?_)
        · have hm := (if_pos c_9).symm.trans hm
          refine lv_iinc (v := (x6 + 1)) (lv' := [(6, .int (x6 + 1)), (0, .ref (a 0)), (4, .int x4), (5, .int x5)]) hx hb dX8_list_131 hl (k := 3) rfl (by first | rfl | decide) (by decide) rfl (fun ls hl => ?_)
          refine lv_goto (tgt := 58) hx hb dX8_list_134 (by decide) ?_
          exact ih _ _ _ _ _ _ _ hm hP hS (lv_sub hl [1, 2, 3, 0] rfl)
        · have hm := (if_neg c_9).symm.trans hm
          refine lv_aload_n hx hb dX8_list_85 rfl (lv_at hl 0 rfl) ?_
          refine lv_iload hx hb dX8_list_86 (lv_at hl 3 rfl) ?_
          refine lv_iload hx hb dX8_list_88 (lv_at hl 2 rfl) ?_
          obtain ⟨r_10, e_10, hm⟩ := bd1_s hm
          refine goV_i (n := 2) (C := RX8) X (cM_comesAt e_10) (gV kw1028 kw1030 ks_yX8_comesAt kw9 kw1031) (by decide +kernel) ⟨by decide, by decide⟩ (rcM hK hP) hP (dM hD) hS rfl rfl hl.1 (Nat.le_of_ble_eq_true rfl) dX8_list_90 ⟨Nat.le_refl _, Nat.le_refl _⟩ (fun H locs hP _ hS => ?_)
          refine lv_if_eq (tgt := 131) hx hb dX8_list_93 (by decide) (fun c_11 => ?_) (fun c_11 => ?_)
          · have hm := (if_pos c_11).symm.trans hm
            refine lv_iinc (v := (x6 + 1)) (lv' := [(6, .int (x6 + 1)), (0, .ref (a 0)), (4, .int x4), (5, .int x5)]) hx hb dX8_list_131 hl (k := 3) rfl (by first | rfl | decide) (by decide) rfl (fun ls hl => ?_)
            refine lv_goto (tgt := 58) hx hb dX8_list_134 (by decide) ?_
            exact ih _ _ _ _ _ _ _ hm hP hS (lv_sub hl [1, 2, 3, 0] rfl)
          · have hm := (if_neg c_11).symm.trans hm
            refine lv_aload_n hx hb dX8_list_96 rfl (lv_at hl 0 rfl) ?_
            refine gM_items X hP dX8_list_97 ?_
            refine lv_aload_n hx hb dX8_list_100 rfl (lv_at hl 0 rfl) ?_
            refine gM_listed X hP dX8_list_101 ?_
            refine lv_iload hx hb dX8_list_104 (lv_at hl 3 rfl) ?_
            refine lv_i2l (v := (Int32.toInt64 x6)) hx hb dX8_list_106 rfl ?_
            refine lv_ldc2 (v := 16) hx hb hown (hts _ (List.mem_cons_of_mem _ kw1048)) dX8_list_107 ?_
            refine lv_aload_n hx hb dX8_list_110 rfl (lv_at hl 0 rfl) ?_
            refine gM_dates X hP dX8_list_111 ?_
            refine lv_iload hx hb dX8_list_114 (lv_at hl 2 rfl) ?_
            obtain ⟨hi_12, hm⟩ := gi_s hm
            refine ldM_dates X hP hi_12 dX8_list_116 ?_
            refine lv_i2l (v := (Int32.toInt64 (rA q 1 x5))) hx hb dX8_list_117 rfl ?_
            refine lv_lmul hx hb dX8_list_118 ?_
            refine lv_ladd hx hb dX8_list_119 ?_
            obtain ⟨hi_13, hm⟩ := gi_s hm
            refine stM_items X hP (dM hD) hS hi_13 dX8_list_120 (fun H locs hP hS => ?_)
            refine lv_aload_n hx hb dX8_list_121 rfl (lv_at hl 0 rfl) ?_
            refine lv_dup hx hb dX8_list_122 rfl ?_
            refine gM_listed X hP dX8_list_123 ?_
            refine lv_iconst (v := 1) hx hb dX8_list_126 (by decide) ?_
            refine lv_iadd hx hb dX8_list_127 ?_
            refine pM_listed X hP (dM hD) hS dX8_list_128 (fun H locs hP hS => ?_)
            refine lv_iinc (v := (x6 + 1)) (lv' := [(6, .int (x6 + 1)), (0, .ref (a 0)), (4, .int x4), (5, .int x5)]) hx hb dX8_list_131 hl (k := 3) rfl (by first | rfl | decide) (by decide) rfl (fun ls hl => ?_)
            refine lv_goto (tgt := 58) hx hb dX8_list_134 (by decide) ?_
            exact ih _ _ _ _ _ _ _ hm hP hS (lv_sub hl [1, 2, 3, 0] rfl)
set_option maxHeartbeats 4000000 in
set_option maxRecDepth 100000 in
theorem lpM_list_48 {p : Program} {l : Launch} {e : Env} {s : State} {m : MethodId} {args : Array Value} {below : List Frame} {meth : Method} {c : Code} {G : Ev} {a : Nat → Nat} {Q : State → Prop} {A : Nat → Prop} {q0 : Pc3} (X : CX p s m args meth c cX8_list 7 (some .int) RX8 (.code yX8_list cX8_list 7 (some .int)) G A) (hD : va_D A (wM G a q0)) {α : Type} {o : α} {n : Nat} {K0 : Pc3 → Option α} (h0 : ∀ (q : Pc3) (H : Heap) (locs : List Loc) (ls : Array Slot), K0 q = some o → va_P (DD G) vwCl (wM G a q) H → va_S A s.heap H locs → lv_has ls 7 [(0, .ref (a 0))] → W p l e { frames := 2, cells := 0, slots := 0, locals := 45 } s m args below meth c H locs 0 0 Q (F0 m 143 ls [])) : ∀ (k : Nat) (x4 : Int32) (x5 : Int32) (q : Pc3) (H : Heap) (locs : List Loc) (ls : Array Slot), moM_list_L48 n K0 k x4 x5 q = some o → va_P (DD G) vwCl (wM G a q) H → va_S A s.heap H locs → lv_has ls 7 [(0, .ref (a 0)), (4, .int x4), (5, .int x5)] → W p l e { frames := 2, cells := 0, slots := 0, locals := 45 } s m args below meth c H locs 0 0 Q (F0 m 48 ls []) := by
  obtain ⟨⟨hx, hb, hml, hown, hts⟩, hK, hr, hlk, hA, hAs, hSta⟩ := id X
  intro k
  induction k with
  | zero =>
    intro x4 x5 q H locs ls hm
    have hm : none = some o := hm
    cases hm
  | succ k ih =>
    intro x4 x5 q H locs ls hm hP hS hl
    rw [moM_list_L48] at hm
    refine lv_iload hx hb dX8_list_48 (lv_at hl 2 rfl) ?_
    refine lv_iload hx hb dX8_list_50 (lv_at hl 1 rfl) ?_
    refine lv_icmp_gt (tgt := 143) hx hb dX8_list_52 (by decide) (fun c_5 => ?_) (fun c_5 => ?_)
    · have hm := (if_pos c_5).symm.trans hm
      exact h0 _ _ _ _ hm hP hS (lv_sub hl [0] rfl)
    · have hm := (if_neg c_5).symm.trans hm
      refine lv_iconst (v := 0) hx hb dX8_list_55 (by decide) ?_
      refine lv_istore (lv' := [(6, .int 0), (0, .ref (a 0)), (4, .int x4), (5, .int x5)]) hx hb dX8_list_56 hl (by decide) rfl (fun ls hl => ?_)
      refine lpM_list_58 X hD (fun z14_4 z14_5 q_14 H locs ls hm hP hS hl => ?_) n _ _ _ _ _ _ _ hm hP hS (lv_sub hl [1, 2, 3, 0] rfl)
      refine lv_iinc (v := (z14_5 + 1)) (lv' := [(5, .int (z14_5 + 1)), (0, .ref (a 0)), (4, .int z14_4)]) hx hb dX8_list_137 hl (k := 2) rfl (by first | rfl | decide) (by decide) rfl (fun ls hl => ?_)
      refine lv_goto (tgt := 48) hx hb dX8_list_140 (by decide) ?_
      exact ih _ _ _ _ _ _ hm hP hS (lv_sub hl [1, 2, 0] rfl)
set_option maxHeartbeats 4000000 in
set_option maxRecDepth 100000 in
theorem bkM_list_28 {p : Program} {l : Launch} {e : Env} {s : State} {m : MethodId} {args : Array Value} {below : List Frame} {meth : Method} {c : Code} {G : Ev} {a : Nat → Nat}  {q0 : Pc3} {L : List Nat} {r : Int32} {q' : Pc3} {n : Nat} {x3 : Int32} {x4 : Int32} {t0 : Int32} {q : Pc3} {H : Heap} {locs : List Loc} {ls : Array Slot} (X : CX p s m args meth c cX8_list 7 (some .int) RX8 (.code yX8_list cX8_list 7 (some .int)) G (AL L s.heap.size)) (hD : va_D (AL L s.heap.size) (wM G a q0)) (hm : moM_list_B28 n x3 x4 t0 q = some (r, q')) (hP : va_P (DD G) vwCl (wM G a q) H) (hS : va_S (AL L s.heap.size) s.heap H locs) (hl : lv_has ls 7 [(0, .ref (a 0)), (3, .int x3), (4, .int x4)]) : W p l e { frames := 2, cells := 0, slots := 0, locals := 45 } s m args below meth c H locs 0 0 (MQ below (va_Qi (fun r' (_ : Unit) => r' = r) (fun _ t => va_P (DD G) vwCl (wM G a q') t.heap) (AL L s.heap.size)) args s 0 0 (AL L s.heap.size)) (F0 m 28 ls [.int t0, .ref (a 0)]) := by
  obtain ⟨⟨hx, hb, hml, hown, hts⟩, hK, hr, hlk, hA, hAs, hSta⟩ := id X
  unfold moM_list_B28 at hm
  refine pM_thrown X hP (dM hD) hS dX8_list_28 (fun H locs hP hS => ?_)
  refine lv_aload_n hx hb dX8_list_31 rfl (lv_at hl 0 rfl) ?_
  refine gM_thrown X hP dX8_list_32 ?_
  refine lv_if_le (tgt := 40) hx hb dX8_list_35 (by decide) (fun c_4 => ?_) (fun c_4 => ?_)
  · have hm := (if_pos c_4).symm.trans hm
    refine lv_aload_n hx hb dX8_list_40 rfl (lv_at hl 0 rfl) ?_
    refine lv_iconst (v := 0) hx hb dX8_list_41 (by decide) ?_
    refine pM_listed X hP (dM hD) hS dX8_list_42 (fun H locs hP hS => ?_)
    refine lv_iload_n hx hb dX8_list_45 rfl (lv_at hl 1 rfl) ?_
    refine lv_istore (lv' := [(5, .int x3), (0, .ref (a 0)), (3, .int x3), (4, .int x4)]) hx hb dX8_list_46 hl (by decide) rfl (fun ls hl => ?_)
    refine lpM_list_48 X hD (fun q_15 H locs ls hm hP hS hl => ?_) n _ _ _ _ _ _ hm hP hS (lv_sub hl [1, 3, 0] rfl)
    refine lv_aload_n hx hb dX8_list_143 rfl (lv_at hl 0 rfl) ?_
    refine gM_listed X hP dX8_list_144 ?_
    exact ret_i (wf := wM G a) X hm hP hS dX8_list_147
  · have hm := (if_neg c_4).symm.trans hm
    refine lv_iconst (v := 0) hx hb dX8_list_38 (by decide) ?_
    exact ret_i (wf := wM G a) X hm hP hS dX8_list_39
set_option maxHeartbeats 4000000 in
set_option maxRecDepth 100000 in
theorem cM_list {l : Launch} {G : Ev} {a : Nat → Nat} {n : Nat} {q : Pc3} {x1 : Int32} {x2 : Int32} {r : Int32} {q' : Pc3} (hm : moM_list n x1 x2 q = some (r, q')) : CtI l G yX8_list cX8_list 7 (some .int) 2 45 0 0 [.ref (a 0), .int x1, .int x2] (wM G a q) (wM G a q') r := by
  intro sz
  refine enter (by decide) (Nat.le_of_ble_eq_true rfl) ?_
  intro p e s m args below meth c ls X hsz hP hD hS hl
  subst hsz
  obtain ⟨⟨hx, hb, hml, hown, hts⟩, hK, hr, hlk, hA, hAs, hSta⟩ := id X
  have hl : lv_has ls 7 [(0, .ref (a 0)), (1, .int x1), (2, .int x2)] := hl
  unfold moM_list at hm
  refine lv_aload_n hx hb dX8_list_0 rfl (lv_at hl 0 rfl) ?_
  refine lv_iload_n hx hb dX8_list_1 rfl (lv_at hl 1 rfl) ?_
  obtain ⟨r_1, e_1, hm⟩ := bd1_s hm
  refine goV_i (n := 1) (C := RX8) X (cM_dayOf e_1) (gV kw885 kw887 ks_yX8_dayOf kw9 kw888) (by decide +kernel) ⟨by decide, by decide⟩ (rcM hK hP) hP (dM hD) hS rfl rfl hl.1 (Nat.le_of_ble_eq_true rfl) dX8_list_2 ⟨Nat.le_refl _, Nat.le_refl _⟩ (fun H locs hP _ hS => ?_)
  refine lv_istore_n (lv' := [(3, .int r_1), (0, .ref (a 0)), (1, .int x1), (2, .int x2)]) hx hb dX8_list_5 rfl hl (by decide) rfl (fun ls hl => ?_)
  refine lv_aload_n hx hb dX8_list_6 rfl (lv_at hl 1 rfl) ?_
  refine lv_iload_n hx hb dX8_list_7 rfl (lv_at hl 3 rfl) ?_
  obtain ⟨r_2, e_2, hm⟩ := bd1_s hm
  refine goV_i (n := 1) (C := RX8) X (cM_dayOf e_2) (gV kw885 kw887 ks_yX8_dayOf kw9 kw888) (by decide +kernel) ⟨by decide, by decide⟩ (rcM hK hP) hP (dM hD) hS rfl rfl hl.1 (Nat.le_of_ble_eq_true rfl) dX8_list_8 ⟨Nat.le_refl _, Nat.le_refl _⟩ (fun H locs hP _ hS => ?_)
  refine lv_istore (lv' := [(4, .int r_2), (3, .int r_1), (0, .ref (a 0)), (1, .int x1), (2, .int x2)]) hx hb dX8_list_11 hl (by decide) rfl (fun ls hl => ?_)
  refine lv_aload_n hx hb dX8_list_13 rfl (lv_at hl 2 rfl) ?_
  refine lv_iload_n hx hb dX8_list_14 rfl (lv_at hl 1 rfl) ?_
  refine lv_if_lt (tgt := 23) hx hb dX8_list_15 (by decide) (fun c_3 => ?_) (fun c_3 => ?_)
  · have hm := (if_pos c_3).symm.trans hm
    refine lv_iconst (v := 1) hx hb dX8_list_23 (by decide) ?_
    refine lv_goto (tgt := 28) hx hb dX8_list_24 (by decide) ?_
    exact bkM_list_28 X hD hm hP hS (lv_sub hl [2, 1, 0] rfl)
  · have hm := (if_neg c_3).symm.trans hm
    refine lv_iload hx hb dX8_list_18 (lv_at hl 0 rfl) ?_
    refine lv_if_ge (tgt := 27) hx hb dX8_list_20 (by decide) (fun c_16 => ?_) (fun c_16 => ?_)
    · have hm := (if_pos c_16).symm.trans hm
      refine lv_iconst (v := 0) hx hb dX8_list_27 (by decide) ?_
      exact bkM_list_28 X hD hm hP hS (lv_sub hl [2, 1, 0] rfl)
    · have hm := (if_neg c_16).symm.trans hm
      refine lv_iconst (v := 1) hx hb dX8_list_23 (by decide) ?_
      refine lv_goto (tgt := 28) hx hb dX8_list_24 (by decide) ?_
      exact bkM_list_28 X hD hm hP hS (lv_sub hl [2, 1, 0] rfl)

-- item
def moM_item (n : Nat) (x1 : Int32) (q : Pc3) : Option (Int64 × Pc3) :=
  (if x1 < 0 then (if (rS (sS q 0 1) 0) ≤ 0 then (gi x1 300 (some ((rL (sS q 0 1) 24 x1), (sS q 0 1)))) else (some (0, (sS q 0 1)))) else (if x1 < (rS q 25) then (if (rS (sS q 0 0) 0) ≤ 0 then (gi x1 300 (some ((rL (sS q 0 0) 24 x1), (sS q 0 0)))) else (some (0, (sS q 0 0)))) else (if (rS (sS q 0 1) 0) ≤ 0 then (gi x1 300 (some ((rL (sS q 0 1) 24 x1), (sS q 0 1)))) else (some (0, (sS q 0 1))))))
set_option maxHeartbeats 4000000 in
set_option maxRecDepth 100000 in
theorem cM_item {l : Launch} {G : Ev} {a : Nat → Nat} {n : Nat} {q : Pc3} {x1 : Int32} {r : Int64} {q' : Pc3} (hm : moM_item n x1 q = some (r, q')) : CtJ l G yX8_item cX8_item 2 (some .long) 0 0 0 0 [.ref (a 0), .int x1] (wM G a q) (wM G a q') r := by
  intro sz
  refine enter (by decide) (Nat.le_of_ble_eq_true rfl) ?_
  intro p e s m args below meth c ls X hsz hP hD hS hl
  subst hsz
  obtain ⟨⟨hx, hb, hml, hown, hts⟩, hK, hr, hlk, hA, hAs, hSta⟩ := id X
  have hl : lv_has ls 2 [(0, .ref (a 0)), (1, .int x1)] := hl
  unfold moM_item at hm
  refine lv_aload_n hx hb dX8_item_0 rfl (lv_at hl 0 rfl) ?_
  refine lv_iload_n hx hb dX8_item_1 rfl (lv_at hl 1 rfl) ?_
  refine lv_if_lt (tgt := 13) hx hb dX8_item_2 (by decide) (fun c_1 => ?_) (fun c_1 => ?_)
  · have hm := (if_pos c_1).symm.trans hm
    refine lv_iconst (v := 1) hx hb dX8_item_13 (by decide) ?_
    refine lv_goto (tgt := 18) hx hb dX8_item_14 (by decide) ?_
    refine pM_thrown X hP (dM hD) hS dX8_item_18 (fun H locs hP hS => ?_)
    refine lv_aload_n hx hb dX8_item_21 rfl (lv_at hl 0 rfl) ?_
    refine gM_thrown X hP dX8_item_22 ?_
    refine lv_if_le (tgt := 32) hx hb dX8_item_25 (by decide) (fun c_2 => ?_) (fun c_2 => ?_)
    · have hm := (if_pos c_2).symm.trans hm
      refine lv_aload_n hx hb dX8_item_32 rfl (lv_at hl 0 rfl) ?_
      refine gM_items X hP dX8_item_33 ?_
      refine lv_iload_n hx hb dX8_item_36 rfl (lv_at hl 1 rfl) ?_
      obtain ⟨hi_3, hm⟩ := gi_s hm
      refine ldM_items X hP hi_3 dX8_item_37 ?_
      exact ret_l (wf := wM G a) X hm hP hS dX8_item_38
    · have hm := (if_neg c_2).symm.trans hm
      refine lv_lconst (v := 0) hx hb dX8_item_28 (by decide) ?_
      refine lv_goto (tgt := 38) hx hb dX8_item_29 (by decide) ?_
      exact ret_l (wf := wM G a) X hm hP hS dX8_item_38
  · have hm := (if_neg c_1).symm.trans hm
    refine lv_iload_n hx hb dX8_item_5 rfl (lv_at hl 1 rfl) ?_
    refine lv_aload_n hx hb dX8_item_6 rfl (lv_at hl 0 rfl) ?_
    refine gM_listed X hP dX8_item_7 ?_
    refine lv_icmp_lt (tgt := 17) hx hb dX8_item_10 (by decide) (fun c_4 => ?_) (fun c_4 => ?_)
    · have hm := (if_pos c_4).symm.trans hm
      refine lv_iconst (v := 0) hx hb dX8_item_17 (by decide) ?_
      refine pM_thrown X hP (dM hD) hS dX8_item_18 (fun H locs hP hS => ?_)
      refine lv_aload_n hx hb dX8_item_21 rfl (lv_at hl 0 rfl) ?_
      refine gM_thrown X hP dX8_item_22 ?_
      refine lv_if_le (tgt := 32) hx hb dX8_item_25 (by decide) (fun c_5 => ?_) (fun c_5 => ?_)
      · have hm := (if_pos c_5).symm.trans hm
        refine lv_aload_n hx hb dX8_item_32 rfl (lv_at hl 0 rfl) ?_
        refine gM_items X hP dX8_item_33 ?_
        refine lv_iload_n hx hb dX8_item_36 rfl (lv_at hl 1 rfl) ?_
        obtain ⟨hi_6, hm⟩ := gi_s hm
        refine ldM_items X hP hi_6 dX8_item_37 ?_
        exact ret_l (wf := wM G a) X hm hP hS dX8_item_38
      · have hm := (if_neg c_5).symm.trans hm
        refine lv_lconst (v := 0) hx hb dX8_item_28 (by decide) ?_
        refine lv_goto (tgt := 38) hx hb dX8_item_29 (by decide) ?_
        exact ret_l (wf := wM G a) X hm hP hS dX8_item_38
    · have hm := (if_neg c_4).symm.trans hm
      refine lv_iconst (v := 1) hx hb dX8_item_13 (by decide) ?_
      refine lv_goto (tgt := 18) hx hb dX8_item_14 (by decide) ?_
      refine pM_thrown X hP (dM hD) hS dX8_item_18 (fun H locs hP hS => ?_)
      refine lv_aload_n hx hb dX8_item_21 rfl (lv_at hl 0 rfl) ?_
      refine gM_thrown X hP dX8_item_22 ?_
      refine lv_if_le (tgt := 32) hx hb dX8_item_25 (by decide) (fun c_7 => ?_) (fun c_7 => ?_)
      · have hm := (if_pos c_7).symm.trans hm
        refine lv_aload_n hx hb dX8_item_32 rfl (lv_at hl 0 rfl) ?_
        refine gM_items X hP dX8_item_33 ?_
        refine lv_iload_n hx hb dX8_item_36 rfl (lv_at hl 1 rfl) ?_
        obtain ⟨hi_8, hm⟩ := gi_s hm
        refine ldM_items X hP hi_8 dX8_item_37 ?_
        exact ret_l (wf := wM G a) X hm hP hS dX8_item_38
      · have hm := (if_neg c_7).symm.trans hm
        refine lv_lconst (v := 0) hx hb dX8_item_28 (by decide) ?_
        refine lv_goto (tgt := 38) hx hb dX8_item_29 (by decide) ?_
        exact ret_l (wf := wM G a) X hm hP hS dX8_item_38

-- manyAt
def moM_manyAt_L4 {α : Type} (n : Nat) (q : Pc3) (K0 : Int32 → Option α) : Nat → Int32 → Int32 → Int32 → Option α
  | 0, _, _, _ => none
  | k + 1, x1, x2, x3 => (if 12 ≤ x3 then (K0 x2 ) else (gi x3 12 (if (rA q 19 x3) = 0 then (moM_manyAt_L4 n q K0 k x1 x2 (x3 + 1) ) else (bd1 (moM_comesAt n x3 x1 q) fun r_4 => (if r_4 = 0 then (moM_manyAt_L4 n q K0 k x1 x2 (x3 + 1) ) else (moM_manyAt_L4 n q K0 k x1 (x2 + 1) (x3 + 1) ))))))
def moM_manyAt (n : Nat) (x1 : Int32) (q : Pc3) : Option (Int32) :=
  (moM_manyAt_L4 n q (fun z6_2 => (some z6_2)) n x1 0 0 )
set_option maxHeartbeats 4000000 in
set_option maxRecDepth 100000 in
theorem lpM_manyAt_4 {p : Program} {l : Launch} {e : Env} {s : State} {m : MethodId} {args : Array Value} {below : List Frame} {meth : Method} {c : Code} {G : Ev} {a : Nat → Nat} {Q : State → Prop} {A : Nat → Prop} {q : Pc3} (X : CX p s m args meth c cX8_manyAt 4 (some .int) RX8 (.code yX8_manyAt cX8_manyAt 4 (some .int)) G A) (hD : va_D A (wM G a q)) {α : Type} {o : α} {n : Nat} {K0 : Int32 → Option α} (h0 : ∀ (y2 : Int32) (H : Heap) (locs : List Loc) (ls : Array Slot), K0 y2  = some o → va_P (DD G) vwCl (wM G a q) H → va_S A s.heap H locs → lv_has ls 4 [(2, .int y2)] → W p l e { frames := 2, cells := 0, slots := 0, locals := 45 } s m args below meth c H locs 0 0 Q (F0 m 42 ls [])) : ∀ (k : Nat) (x1 : Int32) (x2 : Int32) (x3 : Int32) (H : Heap) (locs : List Loc) (ls : Array Slot), moM_manyAt_L4 n q K0 k x1 x2 x3  = some o → va_P (DD G) vwCl (wM G a q) H → va_S A s.heap H locs → lv_has ls 4 [(0, .ref (a 0)), (1, .int x1), (2, .int x2), (3, .int x3)] → W p l e { frames := 2, cells := 0, slots := 0, locals := 45 } s m args below meth c H locs 0 0 Q (F0 m 4 ls []) := by
  obtain ⟨⟨hx, hb, hml, hown, hts⟩, hK, hr, hlk, hA, hAs, hSta⟩ := id X
  intro k
  induction k with
  | zero =>
    intro x1 x2 x3 H locs ls hm
    have hm : none = some o := hm
    cases hm
  | succ k ih =>
    intro x1 x2 x3 H locs ls hm hP hS hl
    rw [moM_manyAt_L4] at hm
    refine lv_iload_n hx hb dX8_manyAt_4 rfl (lv_at hl 3 rfl) ?_
    refine lv_bipush (v := 12) hx hb dX8_manyAt_5 (by decide) ?_
    refine lv_icmp_ge (tgt := 42) hx hb dX8_manyAt_7 (by decide) (fun c_1 => ?_) (fun c_1 => ?_)
    · have hm := (if_pos c_1).symm.trans hm
      exact h0 _ _ _ _ hm hP hS (lv_sub hl [2] rfl)
    · have hm := (if_neg c_1).symm.trans hm
      refine lv_aload_n hx hb dX8_manyAt_10 rfl (lv_at hl 0 rfl) ?_
      refine gM_there X hP dX8_manyAt_11 ?_
      refine lv_iload_n hx hb dX8_manyAt_14 rfl (lv_at hl 3 rfl) ?_
      obtain ⟨hi_2, hm⟩ := gi_s hm
      refine ldM_there X hP hi_2 dX8_manyAt_15 ?_
      refine lv_if_eq (tgt := 34) hx hb dX8_manyAt_16 (by decide) (fun c_3 => ?_) (fun c_3 => ?_)
      · have hm := (if_pos c_3).symm.trans hm
        refine lv_iload_n hx hb dX8_manyAt_34 rfl (lv_at hl 2 rfl) ?_
        refine lv_istore_n (lv' := [(2, .int x2), (0, .ref (a 0)), (1, .int x1), (3, .int x3)]) hx hb dX8_manyAt_35 rfl hl (by decide) rfl (fun ls hl => ?_)
        refine lv_iinc (v := (x3 + 1)) (lv' := [(3, .int (x3 + 1)), (2, .int x2), (0, .ref (a 0)), (1, .int x1)]) hx hb dX8_manyAt_36 hl (k := 3) rfl (by first | rfl | decide) (by decide) rfl (fun ls hl => ?_)
        refine lv_goto (tgt := 4) hx hb dX8_manyAt_39 (by decide) ?_
        exact ih _ _ _ _ _ _ hm hP hS (lv_sub hl [2, 3, 1, 0] rfl)
      · have hm := (if_neg c_3).symm.trans hm
        refine lv_aload_n hx hb dX8_manyAt_19 rfl (lv_at hl 0 rfl) ?_
        refine lv_iload_n hx hb dX8_manyAt_20 rfl (lv_at hl 3 rfl) ?_
        refine lv_iload_n hx hb dX8_manyAt_21 rfl (lv_at hl 1 rfl) ?_
        obtain ⟨r_4, e_4, hm⟩ := bd1_s hm
        refine goV_i (n := 2) (C := RX8) X (cM_comesAt e_4) (gV kw1028 kw1030 ks_yX8_comesAt kw9 kw1031) (by decide +kernel) ⟨by decide, by decide⟩ (rcM hK hP) hP (dM hD) hS rfl rfl hl.1 (Nat.le_of_ble_eq_true rfl) dX8_manyAt_22 ⟨Nat.le_refl _, Nat.le_refl _⟩ (fun H locs hP _ hS => ?_)
        refine lv_if_eq (tgt := 34) hx hb dX8_manyAt_25 (by decide) (fun c_5 => ?_) (fun c_5 => ?_)
        · have hm := (if_pos c_5).symm.trans hm
          refine lv_iload_n hx hb dX8_manyAt_34 rfl (lv_at hl 2 rfl) ?_
          refine lv_istore_n (lv' := [(2, .int x2), (0, .ref (a 0)), (1, .int x1), (3, .int x3)]) hx hb dX8_manyAt_35 rfl hl (by decide) rfl (fun ls hl => ?_)
          refine lv_iinc (v := (x3 + 1)) (lv' := [(3, .int (x3 + 1)), (2, .int x2), (0, .ref (a 0)), (1, .int x1)]) hx hb dX8_manyAt_36 hl (k := 3) rfl (by first | rfl | decide) (by decide) rfl (fun ls hl => ?_)
          refine lv_goto (tgt := 4) hx hb dX8_manyAt_39 (by decide) ?_
          exact ih _ _ _ _ _ _ hm hP hS (lv_sub hl [2, 3, 1, 0] rfl)
        · have hm := (if_neg c_5).symm.trans hm
          refine lv_iload_n hx hb dX8_manyAt_28 rfl (lv_at hl 2 rfl) ?_
          refine lv_iconst (v := 1) hx hb dX8_manyAt_29 (by decide) ?_
          refine lv_iadd hx hb dX8_manyAt_30 ?_
          refine lv_goto (tgt := 35) hx hb dX8_manyAt_31 (by decide) ?_
          refine lv_istore_n (lv' := [(2, .int (x2 + 1)), (0, .ref (a 0)), (1, .int x1), (3, .int x3)]) hx hb dX8_manyAt_35 rfl hl (by decide) rfl (fun ls hl => ?_)
          refine lv_iinc (v := (x3 + 1)) (lv' := [(3, .int (x3 + 1)), (2, .int (x2 + 1)), (0, .ref (a 0)), (1, .int x1)]) hx hb dX8_manyAt_36 hl (k := 3) rfl (by first | rfl | decide) (by decide) rfl (fun ls hl => ?_)
          refine lv_goto (tgt := 4) hx hb dX8_manyAt_39 (by decide) ?_
          exact ih _ _ _ _ _ _ hm hP hS (lv_sub hl [2, 3, 1, 0] rfl)
set_option maxHeartbeats 4000000 in
set_option maxRecDepth 100000 in
theorem cM_manyAt {l : Launch} {G : Ev} {a : Nat → Nat} {n : Nat} {q : Pc3} {x1 : Int32} {r : Int32} (hm : moM_manyAt n x1 q = some r) : CtI l G yX8_manyAt cX8_manyAt 4 (some .int) 2 45 0 0 [.ref (a 0), .int x1] (wM G a q) (wM G a q) r := by
  intro sz
  refine enter (by decide) (Nat.le_of_ble_eq_true rfl) ?_
  intro p e s m args below meth c ls X hsz hP hD hS hl
  subst hsz
  obtain ⟨⟨hx, hb, hml, hown, hts⟩, hK, hr, hlk, hA, hAs, hSta⟩ := id X
  have hl : lv_has ls 4 [(0, .ref (a 0)), (1, .int x1)] := hl
  unfold moM_manyAt at hm
  refine lv_iconst (v := 0) hx hb dX8_manyAt_0 (by decide) ?_
  refine lv_istore_n (lv' := [(2, .int 0), (0, .ref (a 0)), (1, .int x1)]) hx hb dX8_manyAt_1 rfl hl (by decide) rfl (fun ls hl => ?_)
  refine lv_iconst (v := 0) hx hb dX8_manyAt_2 (by decide) ?_
  refine lv_istore_n (lv' := [(3, .int 0), (2, .int 0), (0, .ref (a 0)), (1, .int x1)]) hx hb dX8_manyAt_3 rfl hl (by decide) rfl (fun ls hl => ?_)
  refine lpM_manyAt_4 X hD (fun z6_2 H locs ls hm hP hS hl => ?_) n _ _ _ _ _ _ hm hP hS (lv_sub hl [2, 3, 1, 0] rfl)
  refine lv_iload_n hx hb dX8_manyAt_42 rfl (lv_at hl 0 rfl) ?_
  exact ret_io (wf := wM G a) X hm hP hS dX8_manyAt_43

-- busiest
def moM_busiest_L40 {α : Type} (n : Nat) (K0 : Int32 → Pc3 → Option α) : Nat → Int32 → Int32 → Int32 → Int32 → Pc3 → Option α
  | 0, _, _, _, _, _ => none
  | k + 1, x4, x5, x6, x7, q => (if x4 < x7 then (K0 x6 q) else (if (rS q 0) = 0 then (bd1 (moM_manyAt n x7 q) fun r_6 => (if r_6 ≤ x5 then (moM_busiest_L40 n K0 k x4 x5 x6 (x7 + 1) q) else (gi x7 109573 (moM_busiest_L40 n K0 k x4 r_6 (rA q 1 x7) (x7 + 1) q)))) else (K0 x6 q)))
def moM_busiest_B28 (n : Nat) (x3 : Int32) (x4 : Int32) (t0 : Int32) (q : Pc3) : Option (Int32 × Pc3) :=
  (moM_busiest_L40 n (fun z9_6 q_9 => (if (rS q_9 0) ≤ 0 then (some (z9_6, q_9)) else (some (0, q_9)))) n x4 0 (-1) x3 (sS q 0 t0))
def moM_busiest (n : Nat) (x1 : Int32) (x2 : Int32) (q : Pc3) : Option (Int32 × Pc3) :=
  (bd1 (moM_dayOf n x1 q) fun r_1 => (bd1 (moM_dayOf n x2 q) fun r_2 => (if r_1 < 0 then (moM_busiest_B28 n r_1 r_2 1 q) else (if 0 ≤ r_2 then (moM_busiest_B28 n r_1 r_2 0 q) else (moM_busiest_B28 n r_1 r_2 1 q)))))
set_option maxHeartbeats 4000000 in
set_option maxRecDepth 100000 in
theorem lpM_busiest_40 {p : Program} {l : Launch} {e : Env} {s : State} {m : MethodId} {args : Array Value} {below : List Frame} {meth : Method} {c : Code} {G : Ev} {a : Nat → Nat} {Q : State → Prop} {A : Nat → Prop} {q0 : Pc3} (X : CX p s m args meth c cX8_busiest 9 (some .int) RX8 (.code yX8_busiest cX8_busiest 9 (some .int)) G A) (hD : va_D A (wM G a q0)) {α : Type} {o : α} {n : Nat} {K0 : Int32 → Pc3 → Option α} (h0 : ∀ (y6 : Int32) (q : Pc3) (H : Heap) (locs : List Loc) (ls : Array Slot), K0 y6 q = some o → va_P (DD G) vwCl (wM G a q) H → va_S A s.heap H locs → lv_has ls 9 [(0, .ref (a 0)), (6, .int y6)] → W p l e { frames := 3, cells := 0, slots := 0, locals := 68 } s m args below meth c H locs 0 0 Q (F0 m 88 ls [])) : ∀ (k : Nat) (x4 : Int32) (x5 : Int32) (x6 : Int32) (x7 : Int32) (q : Pc3) (H : Heap) (locs : List Loc) (ls : Array Slot), moM_busiest_L40 n K0 k x4 x5 x6 x7 q = some o → va_P (DD G) vwCl (wM G a q) H → va_S A s.heap H locs → lv_has ls 9 [(0, .ref (a 0)), (4, .int x4), (5, .int x5), (6, .int x6), (7, .int x7)] → W p l e { frames := 3, cells := 0, slots := 0, locals := 68 } s m args below meth c H locs 0 0 Q (F0 m 40 ls []) := by
  obtain ⟨⟨hx, hb, hml, hown, hts⟩, hK, hr, hlk, hA, hAs, hSta⟩ := id X
  intro k
  induction k with
  | zero =>
    intro x4 x5 x6 x7 q H locs ls hm
    have hm : none = some o := hm
    cases hm
  | succ k ih =>
    intro x4 x5 x6 x7 q H locs ls hm hP hS hl
    rw [moM_busiest_L40] at hm
    refine lv_iload hx hb dX8_busiest_40 (lv_at hl 4 rfl) ?_
    refine lv_iload hx hb dX8_busiest_42 (lv_at hl 1 rfl) ?_
    refine lv_icmp_gt (tgt := 88) hx hb dX8_busiest_44 (by decide) (fun c_4 => ?_) (fun c_4 => ?_)
    · have hm := (if_pos c_4).symm.trans hm
      exact h0 _ _ _ _ _ hm hP hS (lv_sub hl [0, 3] rfl)
    · have hm := (if_neg c_4).symm.trans hm
      refine lv_aload_n hx hb dX8_busiest_47 rfl (lv_at hl 0 rfl) ?_
      refine gM_thrown X hP dX8_busiest_48 ?_
      refine lv_if_ne (tgt := 88) hx hb dX8_busiest_51 (by decide) (fun c_5 => ?_) (fun c_5 => ?_)
      · have hm := (if_neg c_5).symm.trans hm
        exact h0 _ _ _ _ _ hm hP hS (lv_sub hl [0, 3] rfl)
      · have hm := (if_pos c_5).symm.trans hm
        refine lv_aload_n hx hb dX8_busiest_54 rfl (lv_at hl 0 rfl) ?_
        refine lv_iload hx hb dX8_busiest_55 (lv_at hl 4 rfl) ?_
        obtain ⟨r_6, e_6, hm⟩ := bd1_s hm
        refine goV_i (n := 1) (C := RX8) X (cM_manyAt e_6) (gV kw1057 kw1059 ks_yX8_manyAt kw9 kw1060) (by decide +kernel) ⟨by decide, by decide⟩ (rcM hK hP) hP (dM hD) hS rfl rfl hl.1 (Nat.le_of_ble_eq_true rfl) dX8_busiest_57 ⟨Nat.le_refl _, Nat.le_refl _⟩ (fun H locs hP _ hS => ?_)
        refine lv_istore (lv' := [(8, .int r_6), (0, .ref (a 0)), (4, .int x4), (5, .int x5), (6, .int x6), (7, .int x7)]) hx hb dX8_busiest_60 hl (by decide) rfl (fun ls hl => ?_)
        refine lv_iload hx hb dX8_busiest_62 (lv_at hl 0 rfl) ?_
        refine lv_iload hx hb dX8_busiest_64 (lv_at hl 3 rfl) ?_
        refine lv_icmp_le (tgt := 82) hx hb dX8_busiest_66 (by decide) (fun c_7 => ?_) (fun c_7 => ?_)
        · have hm := (if_pos c_7).symm.trans hm
          refine lv_iinc (v := (x7 + 1)) (lv' := [(7, .int (x7 + 1)), (8, .int r_6), (0, .ref (a 0)), (4, .int x4), (5, .int x5), (6, .int x6)]) hx hb dX8_busiest_82 hl (k := 5) rfl (by first | rfl | decide) (by decide) rfl (fun ls hl => ?_)
          refine lv_goto (tgt := 40) hx hb dX8_busiest_85 (by decide) ?_
          exact ih _ _ _ _ _ _ _ _ hm hP hS (lv_sub hl [2, 3, 4, 5, 0] rfl)
        · have hm := (if_neg c_7).symm.trans hm
          refine lv_iload hx hb dX8_busiest_69 (lv_at hl 0 rfl) ?_
          refine lv_istore (lv' := [(5, .int r_6), (8, .int r_6), (0, .ref (a 0)), (4, .int x4), (6, .int x6), (7, .int x7)]) hx hb dX8_busiest_71 hl (by decide) rfl (fun ls hl => ?_)
          refine lv_aload_n hx hb dX8_busiest_73 rfl (lv_at hl 2 rfl) ?_
          refine gM_dates X hP dX8_busiest_74 ?_
          refine lv_iload hx hb dX8_busiest_77 (lv_at hl 5 rfl) ?_
          obtain ⟨hi_8, hm⟩ := gi_s hm
          refine ldM_dates X hP hi_8 dX8_busiest_79 ?_
          refine lv_istore (lv' := [(6, .int (rA q 1 x7)), (5, .int r_6), (8, .int r_6), (0, .ref (a 0)), (4, .int x4), (7, .int x7)]) hx hb dX8_busiest_80 hl (by decide) rfl (fun ls hl => ?_)
          refine lv_iinc (v := (x7 + 1)) (lv' := [(7, .int (x7 + 1)), (6, .int (rA q 1 x7)), (5, .int r_6), (8, .int r_6), (0, .ref (a 0)), (4, .int x4)]) hx hb dX8_busiest_82 hl (k := 5) rfl (by first | rfl | decide) (by decide) rfl (fun ls hl => ?_)
          refine lv_goto (tgt := 40) hx hb dX8_busiest_85 (by decide) ?_
          exact ih _ _ _ _ _ _ _ _ hm hP hS (lv_sub hl [4, 5, 2, 1, 0] rfl)
set_option maxHeartbeats 4000000 in
set_option maxRecDepth 100000 in
theorem bkM_busiest_28 {p : Program} {l : Launch} {e : Env} {s : State} {m : MethodId} {args : Array Value} {below : List Frame} {meth : Method} {c : Code} {G : Ev} {a : Nat → Nat}  {q0 : Pc3} {L : List Nat} {r : Int32} {q' : Pc3} {n : Nat} {x3 : Int32} {x4 : Int32} {t0 : Int32} {q : Pc3} {H : Heap} {locs : List Loc} {ls : Array Slot} (X : CX p s m args meth c cX8_busiest 9 (some .int) RX8 (.code yX8_busiest cX8_busiest 9 (some .int)) G (AL L s.heap.size)) (hD : va_D (AL L s.heap.size) (wM G a q0)) (hm : moM_busiest_B28 n x3 x4 t0 q = some (r, q')) (hP : va_P (DD G) vwCl (wM G a q) H) (hS : va_S (AL L s.heap.size) s.heap H locs) (hl : lv_has ls 9 [(0, .ref (a 0)), (3, .int x3), (4, .int x4)]) : W p l e { frames := 3, cells := 0, slots := 0, locals := 68 } s m args below meth c H locs 0 0 (MQ below (va_Qi (fun r' (_ : Unit) => r' = r) (fun _ t => va_P (DD G) vwCl (wM G a q') t.heap) (AL L s.heap.size)) args s 0 0 (AL L s.heap.size)) (F0 m 28 ls [.int t0, .ref (a 0)]) := by
  obtain ⟨⟨hx, hb, hml, hown, hts⟩, hK, hr, hlk, hA, hAs, hSta⟩ := id X
  unfold moM_busiest_B28 at hm
  refine pM_thrown X hP (dM hD) hS dX8_busiest_28 (fun H locs hP hS => ?_)
  refine lv_iconst (v := 0) hx hb dX8_busiest_31 (by decide) ?_
  refine lv_istore (lv' := [(5, .int 0), (0, .ref (a 0)), (3, .int x3), (4, .int x4)]) hx hb dX8_busiest_32 hl (by decide) rfl (fun ls hl => ?_)
  refine lv_iconst (v := (-1)) hx hb dX8_busiest_34 (by decide) ?_
  refine lv_istore (lv' := [(6, .int (-1)), (5, .int 0), (0, .ref (a 0)), (3, .int x3), (4, .int x4)]) hx hb dX8_busiest_35 hl (by decide) rfl (fun ls hl => ?_)
  refine lv_iload_n hx hb dX8_busiest_37 rfl (lv_at hl 3 rfl) ?_
  refine lv_istore (lv' := [(7, .int x3), (6, .int (-1)), (5, .int 0), (0, .ref (a 0)), (3, .int x3), (4, .int x4)]) hx hb dX8_busiest_38 hl (by decide) rfl (fun ls hl => ?_)
  refine lpM_busiest_40 X hD (fun z9_6 q_9 H locs ls hm hP hS hl => ?_) n _ _ _ _ _ _ _ _ hm hP hS (lv_sub hl [3, 5, 2, 1, 0] rfl)
  refine lv_aload_n hx hb dX8_busiest_88 rfl (lv_at hl 0 rfl) ?_
  refine gM_thrown X hP dX8_busiest_89 ?_
  refine lv_if_le (tgt := 99) hx hb dX8_busiest_92 (by decide) (fun c_10 => ?_) (fun c_10 => ?_)
  · have hm := (if_pos c_10).symm.trans hm
    refine lv_iload hx hb dX8_busiest_99 (lv_at hl 1 rfl) ?_
    exact ret_i (wf := wM G a) X hm hP hS dX8_busiest_101
  · have hm := (if_neg c_10).symm.trans hm
    refine lv_iconst (v := 0) hx hb dX8_busiest_95 (by decide) ?_
    refine lv_goto (tgt := 101) hx hb dX8_busiest_96 (by decide) ?_
    exact ret_i (wf := wM G a) X hm hP hS dX8_busiest_101
set_option maxHeartbeats 4000000 in
set_option maxRecDepth 100000 in
theorem cM_busiest {l : Launch} {G : Ev} {a : Nat → Nat} {n : Nat} {q : Pc3} {x1 : Int32} {x2 : Int32} {r : Int32} {q' : Pc3} (hm : moM_busiest n x1 x2 q = some (r, q')) : CtI l G yX8_busiest cX8_busiest 9 (some .int) 3 68 0 0 [.ref (a 0), .int x1, .int x2] (wM G a q) (wM G a q') r := by
  intro sz
  refine enter (by decide) (Nat.le_of_ble_eq_true rfl) ?_
  intro p e s m args below meth c ls X hsz hP hD hS hl
  subst hsz
  obtain ⟨⟨hx, hb, hml, hown, hts⟩, hK, hr, hlk, hA, hAs, hSta⟩ := id X
  have hl : lv_has ls 9 [(0, .ref (a 0)), (1, .int x1), (2, .int x2)] := hl
  unfold moM_busiest at hm
  refine lv_aload_n hx hb dX8_busiest_0 rfl (lv_at hl 0 rfl) ?_
  refine lv_iload_n hx hb dX8_busiest_1 rfl (lv_at hl 1 rfl) ?_
  obtain ⟨r_1, e_1, hm⟩ := bd1_s hm
  refine goV_i (n := 1) (C := RX8) X (cM_dayOf e_1) (gV kw885 kw887 ks_yX8_dayOf kw9 kw888) (by decide +kernel) ⟨by decide, by decide⟩ (rcM hK hP) hP (dM hD) hS rfl rfl hl.1 (Nat.le_of_ble_eq_true rfl) dX8_busiest_2 ⟨Nat.le_refl _, Nat.le_refl _⟩ (fun H locs hP _ hS => ?_)
  refine lv_istore_n (lv' := [(3, .int r_1), (0, .ref (a 0)), (1, .int x1), (2, .int x2)]) hx hb dX8_busiest_5 rfl hl (by decide) rfl (fun ls hl => ?_)
  refine lv_aload_n hx hb dX8_busiest_6 rfl (lv_at hl 1 rfl) ?_
  refine lv_iload_n hx hb dX8_busiest_7 rfl (lv_at hl 3 rfl) ?_
  obtain ⟨r_2, e_2, hm⟩ := bd1_s hm
  refine goV_i (n := 1) (C := RX8) X (cM_dayOf e_2) (gV kw885 kw887 ks_yX8_dayOf kw9 kw888) (by decide +kernel) ⟨by decide, by decide⟩ (rcM hK hP) hP (dM hD) hS rfl rfl hl.1 (Nat.le_of_ble_eq_true rfl) dX8_busiest_8 ⟨Nat.le_refl _, Nat.le_refl _⟩ (fun H locs hP _ hS => ?_)
  refine lv_istore (lv' := [(4, .int r_2), (3, .int r_1), (0, .ref (a 0)), (1, .int x1), (2, .int x2)]) hx hb dX8_busiest_11 hl (by decide) rfl (fun ls hl => ?_)
  refine lv_aload_n hx hb dX8_busiest_13 rfl (lv_at hl 2 rfl) ?_
  refine lv_iload_n hx hb dX8_busiest_14 rfl (lv_at hl 1 rfl) ?_
  refine lv_if_lt (tgt := 23) hx hb dX8_busiest_15 (by decide) (fun c_3 => ?_) (fun c_3 => ?_)
  · have hm := (if_pos c_3).symm.trans hm
    refine lv_iconst (v := 1) hx hb dX8_busiest_23 (by decide) ?_
    refine lv_goto (tgt := 28) hx hb dX8_busiest_24 (by decide) ?_
    exact bkM_busiest_28 X hD hm hP hS (lv_sub hl [2, 1, 0] rfl)
  · have hm := (if_neg c_3).symm.trans hm
    refine lv_iload hx hb dX8_busiest_18 (lv_at hl 0 rfl) ?_
    refine lv_if_ge (tgt := 27) hx hb dX8_busiest_20 (by decide) (fun c_11 => ?_) (fun c_11 => ?_)
    · have hm := (if_pos c_11).symm.trans hm
      refine lv_iconst (v := 0) hx hb dX8_busiest_27 (by decide) ?_
      exact bkM_busiest_28 X hD hm hP hS (lv_sub hl [2, 1, 0] rfl)
    · have hm := (if_neg c_11).symm.trans hm
      refine lv_iconst (v := 1) hx hb dX8_busiest_23 (by decide) ?_
      refine lv_goto (tgt := 28) hx hb dX8_busiest_24 (by decide) ?_
      exact bkM_busiest_28 X hD hm hP hS (lv_sub hl [2, 1, 0] rfl)
