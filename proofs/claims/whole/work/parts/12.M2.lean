-- value
def moM_value_L115 {α : Type} (n : Nat) (K0 : Pc3 → Option α) : Nat → Int32 → Pc3 → Option α
  | 0, _, _ => none
  | k + 1, x1, q => (if (rS q 5) = 0 then (bd1 (moM_byteAt n (rS q 7) q) fun r_7 => (if r_7 = 44 then (bd1 (moM_oneItem n x1 (sS q 7 ((rS q 7) + 1))) fun q_9 => (moM_value_L115 n K0 k x1 q_9)) else (K0 q))) else (K0 q))
def moM_value (n : Nat) (x1 : Int32) (q : Pc3) : Option (Pc3) :=
  (if x1 = 0 then (bd1 (moM_capitals n (rS q 7) q) fun r_14 => (bd1 (moM_lettersAt n (rS q 7) q) fun r_15 => (bd1 (moN_freqOf n r_15 r_14) fun r_16 => (if 0 ≤ (rS (sS q 9 r_16) 9) then (some (sS (sS q 9 r_16) 7 ((rS (sS q 9 r_16) 7) + r_14))) else (bd1 (moM_fail n 1 (rS (sS q 9 r_16) 7) (sS q 9 r_16)) fun q_18 => (some (sS q_18 7 ((rS q_18 7) + r_14)))))))) else (if x1 = 1 then (bd2 (moM_number n 1 400 q) fun r_13 q_13 => (some (sS q_13 10 r_13))) else (if x1 = 2 then (bd2 (moM_number n 1 999 q) fun r_12 q_12 => (some (sS q_12 11 r_12))) else (if x1 = 3 then (bd1 (moM_untilDate n q) fun q_11 => (some q_11)) else (bd1 (moM_oneItem n x1 q) fun q_5 => (moM_value_L115 n (fun q_10 => (some q_10)) n x1 q_5))))))
set_option maxHeartbeats 4000000 in
set_option maxRecDepth 100000 in
theorem lpM_value_115 {p : Program} {l : Launch} {e : Env} {s : State} {m : MethodId} {args : Array Value} {below : List Frame} {meth : Method} {c : Code} {G : Ev} {a : Nat → Nat} {Q : State → Prop} {A : Nat → Prop} {q0 : Pc3} (X : CX p s m args meth c cX8_value 3 none RX8 (.code yX8_value cX8_value 3 none) G A) (hD : va_D A (wM G a q0)) {α : Type} {o : α} {n : Nat} {K0 : Pc3 → Option α} (h0 : ∀ (q : Pc3) (H : Heap) (locs : List Loc) (ls : Array Slot), K0 q = some o → va_P (DD G) vwCl (wM G a q) H → va_S A s.heap H locs → lv_has ls 3 [] → W p l e { frames := 4, cells := 0, slots := 0, locals := 94 } s m args below meth c H locs 0 0 Q (F0 m 153 ls [])) : ∀ (k : Nat) (x1 : Int32) (q : Pc3) (H : Heap) (locs : List Loc) (ls : Array Slot), moM_value_L115 n K0 k x1 q = some o → va_P (DD G) vwCl (wM G a q) H → va_S A s.heap H locs → lv_has ls 3 [(0, .ref (a 0)), (1, .int x1)] → W p l e { frames := 4, cells := 0, slots := 0, locals := 94 } s m args below meth c H locs 0 0 Q (F0 m 115 ls []) := by
  obtain ⟨⟨hx, hb, hml, hown, hts⟩, hK, hr, hlk, hA, hAs, hSta⟩ := id X
  intro k
  induction k with
  | zero =>
    intro x1 q H locs ls hm
    have hm : none = some o := hm
    cases hm
  | succ k ih =>
    intro x1 q H locs ls hm hP hS hl
    rw [moM_value_L115] at hm
    refine lv_aload_n hx hb dX8_value_115 rfl (lv_at hl 0 rfl) ?_
    refine gM_fault X hP dX8_value_116 ?_
    refine lv_if_ne (tgt := 153) hx hb dX8_value_119 (by decide) (fun c_6 => ?_) (fun c_6 => ?_)
    · have hm := (if_neg c_6).symm.trans hm
      exact h0 _ _ _ _ hm hP hS (lv_sub hl [] rfl)
    · have hm := (if_pos c_6).symm.trans hm
      refine lv_aload_n hx hb dX8_value_122 rfl (lv_at hl 0 rfl) ?_
      refine lv_aload_n hx hb dX8_value_123 rfl (lv_at hl 0 rfl) ?_
      refine gM_at X hP dX8_value_124 ?_
      obtain ⟨r_7, e_7, hm⟩ := bd1_s hm
      refine goV_i (n := 1) (C := RX8) X (cM_byteAt e_7) (gV kw906 kw908 ks_yX8_byteAt kw9 kw909) (by decide +kernel) ⟨by decide, by decide⟩ (rcM hK hP) hP (dM hD) hS rfl rfl hl.1 (Nat.le_of_ble_eq_true rfl) dX8_value_127 ⟨Nat.le_refl _, Nat.le_refl _⟩ (fun H locs hP _ hS => ?_)
      refine lv_bipush (v := 44) hx hb dX8_value_130 (by decide) ?_
      refine lv_icmp_ne (tgt := 153) hx hb dX8_value_132 (by decide) (fun c_8 => ?_) (fun c_8 => ?_)
      · have hm := (if_neg c_8).symm.trans hm
        exact h0 _ _ _ _ hm hP hS (lv_sub hl [] rfl)
      · have hm := (if_pos c_8).symm.trans hm
        refine lv_aload_n hx hb dX8_value_135 rfl (lv_at hl 0 rfl) ?_
        refine lv_dup hx hb dX8_value_136 rfl ?_
        refine gM_at X hP dX8_value_137 ?_
        refine lv_iconst (v := 1) hx hb dX8_value_140 (by decide) ?_
        refine lv_iadd hx hb dX8_value_141 ?_
        refine pM_at X hP (dM hD) hS dX8_value_142 (fun H locs hP hS => ?_)
        refine lv_aload_n hx hb dX8_value_145 rfl (lv_at hl 0 rfl) ?_
        refine lv_iload_n hx hb dX8_value_146 rfl (lv_at hl 1 rfl) ?_
        obtain ⟨q_9, e_9, hm⟩ := bd1_s hm
        refine goV_v (n := 1) (C := RX8) X (cM_oneItem e_9) (gV kw953 kw955 ks_yX8_oneItem kw9 kw956) (by decide +kernel) ⟨by decide, by decide⟩ (rcM hK hP) hP (dM hD) hS rfl rfl hl.1 (Nat.le_of_ble_eq_true rfl) dX8_value_147 ⟨Nat.le_refl _, Nat.le_refl _⟩ (fun H locs hP _ hS => ?_)
        refine lv_goto (tgt := 115) hx hb dX8_value_150 (by decide) ?_
        exact ih _ _ _ _ _ hm hP hS (lv_sub hl [0, 1] rfl)
set_option maxHeartbeats 4000000 in
set_option maxRecDepth 100000 in
theorem cM_value {l : Launch} {G : Ev} {a : Nat → Nat} {n : Nat} {q : Pc3} {x1 : Int32} {q' : Pc3} (hm : moM_value n x1 q = some q') : CtV l G yX8_value cX8_value 3 none 4 94 0 0 [.ref (a 0), .int x1] (wM G a q) (wM G a q') := by
  intro sz
  refine enter (by decide) (Nat.le_of_ble_eq_true rfl) ?_
  intro p e s m args below meth c ls X hsz hP hD hS hl
  subst hsz
  obtain ⟨⟨hx, hb, hml, hown, hts⟩, hK, hr, hlk, hA, hAs, hSta⟩ := id X
  have hl : lv_has ls 3 [(0, .ref (a 0)), (1, .int x1)] := hl
  unfold moM_value at hm
  refine lv_iload_n hx hb dX8_value_0 rfl (lv_at hl 1 rfl) ?_
  refine lv_if_ne (tgt := 58) hx hb dX8_value_1 (by decide) (fun c_1 => ?_) (fun c_1 => ?_)
  · have hm := (if_neg c_1).symm.trans hm
    refine lv_iload_n hx hb dX8_value_58 rfl (lv_at hl 1 rfl) ?_
    refine lv_iconst (v := 1) hx hb dX8_value_59 (by decide) ?_
    refine lv_icmp_ne (tgt := 78) hx hb dX8_value_60 (by decide) (fun c_2 => ?_) (fun c_2 => ?_)
    · have hm := (if_neg c_2).symm.trans hm
      refine lv_iload_n hx hb dX8_value_78 rfl (lv_at hl 1 rfl) ?_
      refine lv_iconst (v := 2) hx hb dX8_value_79 (by decide) ?_
      refine lv_icmp_ne (tgt := 98) hx hb dX8_value_80 (by decide) (fun c_3 => ?_) (fun c_3 => ?_)
      · have hm := (if_neg c_3).symm.trans hm
        refine lv_iload_n hx hb dX8_value_98 rfl (lv_at hl 1 rfl) ?_
        refine lv_iconst (v := 3) hx hb dX8_value_99 (by decide) ?_
        refine lv_icmp_ne (tgt := 110) hx hb dX8_value_100 (by decide) (fun c_4 => ?_) (fun c_4 => ?_)
        · have hm := (if_neg c_4).symm.trans hm
          refine lv_aload_n hx hb dX8_value_110 rfl (lv_at hl 0 rfl) ?_
          refine lv_iload_n hx hb dX8_value_111 rfl (lv_at hl 1 rfl) ?_
          obtain ⟨q_5, e_5, hm⟩ := bd1_s hm
          refine goV_v (n := 1) (C := RX8) X (cM_oneItem e_5) (gV kw953 kw955 ks_yX8_oneItem kw9 kw956) (by decide +kernel) ⟨by decide, by decide⟩ (rcM hK hP) hP (dM hD) hS rfl rfl hl.1 (Nat.le_of_ble_eq_true rfl) dX8_value_112 ⟨Nat.le_refl _, Nat.le_refl _⟩ (fun H locs hP _ hS => ?_)
          refine lpM_value_115 X hD (fun q_10 H locs ls hm hP hS hl => ?_) n _ _ _ _ _ hm hP hS (lv_sub hl [0, 1] rfl)
          exact ret_v (wf := wM G a) X hm hP hS dX8_value_153
        · have hm := (if_pos c_4).symm.trans hm
          refine lv_aload_n hx hb dX8_value_103 rfl (lv_at hl 0 rfl) ?_
          obtain ⟨q_11, e_11, hm⟩ := bd1_s hm
          refine goV_v (n := 0) (C := RX8) X (cM_untilDate e_11) (gV kw948 kw950 ks_yX8_untilDate kw9 kw951) (by decide +kernel) ⟨by decide, by decide⟩ (rcM hK hP) hP (dM hD) hS rfl rfl hl.1 (Nat.le_of_ble_eq_true rfl) dX8_value_104 ⟨Nat.le_refl _, Nat.le_refl _⟩ (fun H locs hP _ hS => ?_)
          refine lv_goto (tgt := 153) hx hb dX8_value_107 (by decide) ?_
          exact ret_v (wf := wM G a) X hm hP hS dX8_value_153
      · have hm := (if_pos c_3).symm.trans hm
        refine lv_aload_n hx hb dX8_value_83 rfl (lv_at hl 0 rfl) ?_
        refine lv_aload_n hx hb dX8_value_84 rfl (lv_at hl 0 rfl) ?_
        refine lv_iconst (v := 1) hx hb dX8_value_85 (by decide) ?_
        refine lv_sipush (v := 999) hx hb dX8_value_86 (by decide) ?_
        obtain ⟨r_12, q_12, e_12, hm⟩ := bd2_s hm
        refine goV_i (n := 2) (C := RX8) X (cM_number e_12) (gV kw938 kw940 ks_yX8_number kw9 kw941) (by decide +kernel) ⟨by decide, by decide⟩ (rcM hK hP) hP (dM hD) hS rfl rfl hl.1 (Nat.le_of_ble_eq_true rfl) dX8_value_89 ⟨Nat.le_refl _, Nat.le_refl _⟩ (fun H locs hP _ hS => ?_)
        refine pM_count X hP (dM hD) hS dX8_value_92 (fun H locs hP hS => ?_)
        refine lv_goto (tgt := 153) hx hb dX8_value_95 (by decide) ?_
        exact ret_v (wf := wM G a) X hm hP hS dX8_value_153
    · have hm := (if_pos c_2).symm.trans hm
      refine lv_aload_n hx hb dX8_value_63 rfl (lv_at hl 0 rfl) ?_
      refine lv_aload_n hx hb dX8_value_64 rfl (lv_at hl 0 rfl) ?_
      refine lv_iconst (v := 1) hx hb dX8_value_65 (by decide) ?_
      refine lv_sipush (v := 400) hx hb dX8_value_66 (by decide) ?_
      obtain ⟨r_13, q_13, e_13, hm⟩ := bd2_s hm
      refine goV_i (n := 2) (C := RX8) X (cM_number e_13) (gV kw938 kw940 ks_yX8_number kw9 kw941) (by decide +kernel) ⟨by decide, by decide⟩ (rcM hK hP) hP (dM hD) hS rfl rfl hl.1 (Nat.le_of_ble_eq_true rfl) dX8_value_69 ⟨Nat.le_refl _, Nat.le_refl _⟩ (fun H locs hP _ hS => ?_)
      refine pM_interval X hP (dM hD) hS dX8_value_72 (fun H locs hP hS => ?_)
      refine lv_goto (tgt := 153) hx hb dX8_value_75 (by decide) ?_
      exact ret_v (wf := wM G a) X hm hP hS dX8_value_153
  · have hm := (if_pos c_1).symm.trans hm
    refine lv_aload_n hx hb dX8_value_4 rfl (lv_at hl 0 rfl) ?_
    refine lv_aload_n hx hb dX8_value_5 rfl (lv_at hl 0 rfl) ?_
    refine gM_at X hP dX8_value_6 ?_
    obtain ⟨r_14, e_14, hm⟩ := bd1_s hm
    refine goV_i (n := 1) (C := RX8) X (cM_capitals e_14) (gV kw902 kw904 ks_yX8_capitals kw9 kw905) (by decide +kernel) ⟨by decide, by decide⟩ (rcM hK hP) hP (dM hD) hS rfl rfl hl.1 (Nat.le_of_ble_eq_true rfl) dX8_value_9 ⟨Nat.le_refl _, Nat.le_refl _⟩ (fun H locs hP _ hS => ?_)
    refine lv_istore_n (lv' := [(2, .int r_14), (0, .ref (a 0)), (1, .int x1)]) hx hb dX8_value_12 rfl hl (by decide) rfl (fun ls hl => ?_)
    refine lv_aload_n hx hb dX8_value_13 rfl (lv_at hl 1 rfl) ?_
    refine lv_aload_n hx hb dX8_value_14 rfl (lv_at hl 1 rfl) ?_
    refine lv_aload_n hx hb dX8_value_15 rfl (lv_at hl 1 rfl) ?_
    refine gM_at X hP dX8_value_16 ?_
    obtain ⟨r_15, e_15, hm⟩ := bd1_s hm
    refine goV_l (n := 1) (C := RX8) X (cM_lettersAt e_15) (gV kw913 kw915 ks_yX8_lettersAt kw9 kw916) (by decide +kernel) ⟨by decide, by decide⟩ (rcM hK hP) hP (dM hD) hS rfl rfl hl.1 (Nat.le_of_ble_eq_true rfl) dX8_value_19 ⟨Nat.le_refl _, Nat.le_refl _⟩ (fun H locs hP _ hS => ?_)
    refine lv_iload_n hx hb dX8_value_22 rfl (lv_at hl 0 rfl) ?_
    obtain ⟨r_16, e_16, hm⟩ := bd1_s hm
    refine goS_i (n := 2) X (cN_freqOf e_16) (gS kw935 kw936 kw9 kw937) (by decide +kernel) ⟨by decide, by decide⟩ va_nil va_dnil hS rfl rfl hl.1 (Nat.le_of_ble_eq_true rfl) dX8_value_23 ⟨Nat.le_refl _, Nat.le_refl _⟩ (fun H locs _ hk hS => ?_)
    have hP := va_keep hP hk
    refine pM_freq X hP (dM hD) hS dX8_value_26 (fun H locs hP hS => ?_)
    refine lv_aload_n hx hb dX8_value_29 rfl (lv_at hl 1 rfl) ?_
    refine gM_freq X hP dX8_value_30 ?_
    refine lv_if_ge (tgt := 45) hx hb dX8_value_33 (by decide) (fun c_17 => ?_) (fun c_17 => ?_)
    · have hm := (if_pos c_17).symm.trans hm
      refine lv_aload_n hx hb dX8_value_45 rfl (lv_at hl 1 rfl) ?_
      refine lv_aload_n hx hb dX8_value_46 rfl (lv_at hl 1 rfl) ?_
      refine gM_at X hP dX8_value_47 ?_
      refine lv_iload_n hx hb dX8_value_50 rfl (lv_at hl 0 rfl) ?_
      refine lv_iadd hx hb dX8_value_51 ?_
      refine pM_at X hP (dM hD) hS dX8_value_52 (fun H locs hP hS => ?_)
      refine lv_goto (tgt := 153) hx hb dX8_value_55 (by decide) ?_
      exact ret_v (wf := wM G a) X hm hP hS dX8_value_153
    · have hm := (if_neg c_17).symm.trans hm
      refine lv_aload_n hx hb dX8_value_36 rfl (lv_at hl 1 rfl) ?_
      refine lv_iconst (v := 1) hx hb dX8_value_37 (by decide) ?_
      refine lv_aload_n hx hb dX8_value_38 rfl (lv_at hl 1 rfl) ?_
      refine gM_at X hP dX8_value_39 ?_
      obtain ⟨q_18, e_18, hm⟩ := bd1_s hm
      refine goV_v (n := 2) (C := RX8) X (cM_fail e_18) (gV kw927 kw929 ks_yX8_fail kw9 kw930) (by decide +kernel) ⟨by decide, by decide⟩ (rcM hK hP) hP (dM hD) hS rfl rfl hl.1 (Nat.le_of_ble_eq_true rfl) dX8_value_42 ⟨Nat.le_refl _, Nat.le_refl _⟩ (fun H locs hP _ hS => ?_)
      refine lv_aload_n hx hb dX8_value_45 rfl (lv_at hl 1 rfl) ?_
      refine lv_aload_n hx hb dX8_value_46 rfl (lv_at hl 1 rfl) ?_
      refine gM_at X hP dX8_value_47 ?_
      refine lv_iload_n hx hb dX8_value_50 rfl (lv_at hl 0 rfl) ?_
      refine lv_iadd hx hb dX8_value_51 ?_
      refine pM_at X hP (dM hD) hS dX8_value_52 (fun H locs hP hS => ?_)
      refine lv_goto (tgt := 153) hx hb dX8_value_55 (by decide) ?_
      exact ret_v (wf := wM G a) X hm hP hS dX8_value_153

-- part
def moM_part (n : Nat) (q : Pc3) : Option (Pc3) :=
  (bd1 (moM_capitals n (rS q 7) q) fun r_1 => (bd1 (moM_lettersAt n (rS q 7) q) fun r_2 => (bd1 (moN_nameOf n r_2 r_1) fun r_3 => (if 0 ≤ r_3 then (gi r_3 8 (if (rA q 8 r_3) = 0 then (gi r_3 8 (bd1 (moM_byteAt n (rS (sS (sA q 8 r_3 (vp_nar .boolean 1)) 7 ((rS (sA q 8 r_3 (vp_nar .boolean 1)) 7) + r_1)) 7) (sS (sA q 8 r_3 (vp_nar .boolean 1)) 7 ((rS (sA q 8 r_3 (vp_nar .boolean 1)) 7) + r_1))) fun r_8 => (if r_8 = 61 then (bd1 (moM_value n r_3 (sS (sS (sA q 8 r_3 (vp_nar .boolean 1)) 7 ((rS (sA q 8 r_3 (vp_nar .boolean 1)) 7) + r_1)) 7 ((rS (sS (sA q 8 r_3 (vp_nar .boolean 1)) 7 ((rS (sA q 8 r_3 (vp_nar .boolean 1)) 7) + r_1)) 7) + 1))) fun q_10 => (some q_10)) else (bd1 (moM_fail n 1 (rS (sS (sA q 8 r_3 (vp_nar .boolean 1)) 7 ((rS (sA q 8 r_3 (vp_nar .boolean 1)) 7) + r_1)) 7) (sS (sA q 8 r_3 (vp_nar .boolean 1)) 7 ((rS (sA q 8 r_3 (vp_nar .boolean 1)) 7) + r_1))) fun q_11 => (some q_11))))) else (bd1 (moM_fail n 3 (rS q 7) q) fun q_12 => (some q_12)))) else (bd1 (moM_fail n 1 (rS q 7) q) fun q_13 => (some q_13))))))
set_option maxHeartbeats 4000000 in
set_option maxRecDepth 100000 in
theorem cM_part {l : Launch} {G : Ev} {a : Nat → Nat} {n : Nat} {q : Pc3} {q' : Pc3} (hm : moM_part n q = some q') : CtV l G yX8_part cX8_part 3 none 5 116 0 0 [.ref (a 0)] (wM G a q) (wM G a q') := by
  intro sz
  refine enter (by decide) (Nat.le_of_ble_eq_true rfl) ?_
  intro p e s m args below meth c ls X hsz hP hD hS hl
  subst hsz
  obtain ⟨⟨hx, hb, hml, hown, hts⟩, hK, hr, hlk, hA, hAs, hSta⟩ := id X
  have hl : lv_has ls 3 [(0, .ref (a 0))] := hl
  unfold moM_part at hm
  refine lv_aload_n hx hb dX8_part_0 rfl (lv_at hl 0 rfl) ?_
  refine lv_aload_n hx hb dX8_part_1 rfl (lv_at hl 0 rfl) ?_
  refine gM_at X hP dX8_part_2 ?_
  obtain ⟨r_1, e_1, hm⟩ := bd1_s hm
  refine goV_i (n := 1) (C := RX8) X (cM_capitals e_1) (gV kw902 kw904 ks_yX8_capitals kw9 kw905) (by decide +kernel) ⟨by decide, by decide⟩ (rcM hK hP) hP (dM hD) hS rfl rfl hl.1 (Nat.le_of_ble_eq_true rfl) dX8_part_5 ⟨Nat.le_refl _, Nat.le_refl _⟩ (fun H locs hP _ hS => ?_)
  refine lv_istore_n (lv' := [(1, .int r_1), (0, .ref (a 0))]) hx hb dX8_part_8 rfl hl (by decide) rfl (fun ls hl => ?_)
  refine lv_aload_n hx hb dX8_part_9 rfl (lv_at hl 1 rfl) ?_
  refine lv_aload_n hx hb dX8_part_10 rfl (lv_at hl 1 rfl) ?_
  refine gM_at X hP dX8_part_11 ?_
  obtain ⟨r_2, e_2, hm⟩ := bd1_s hm
  refine goV_l (n := 1) (C := RX8) X (cM_lettersAt e_2) (gV kw913 kw915 ks_yX8_lettersAt kw9 kw916) (by decide +kernel) ⟨by decide, by decide⟩ (rcM hK hP) hP (dM hD) hS rfl rfl hl.1 (Nat.le_of_ble_eq_true rfl) dX8_part_14 ⟨Nat.le_refl _, Nat.le_refl _⟩ (fun H locs hP _ hS => ?_)
  refine lv_iload_n hx hb dX8_part_17 rfl (lv_at hl 0 rfl) ?_
  obtain ⟨r_3, e_3, hm⟩ := bd1_s hm
  refine goS_i (n := 2) X (cN_nameOf e_3) (gS kw917 kw918 kw9 kw919) (by decide +kernel) ⟨by decide, by decide⟩ va_nil va_dnil hS rfl rfl hl.1 (Nat.le_of_ble_eq_true rfl) dX8_part_18 ⟨Nat.le_refl _, Nat.le_refl _⟩ (fun H locs _ hk hS => ?_)
  have hP := va_keep hP hk
  refine lv_istore_n (lv' := [(2, .int r_3), (1, .int r_1), (0, .ref (a 0))]) hx hb dX8_part_21 rfl hl (by decide) rfl (fun ls hl => ?_)
  refine lv_iload_n hx hb dX8_part_22 rfl (lv_at hl 0 rfl) ?_
  refine lv_if_ge (tgt := 36) hx hb dX8_part_23 (by decide) (fun c_4 => ?_) (fun c_4 => ?_)
  · have hm := (if_pos c_4).symm.trans hm
    refine lv_aload_n hx hb dX8_part_36 rfl (lv_at hl 2 rfl) ?_
    refine gM_has X hP dX8_part_37 ?_
    refine lv_iload_n hx hb dX8_part_40 rfl (lv_at hl 0 rfl) ?_
    obtain ⟨hi_5, hm⟩ := gi_s hm
    refine ldM_has X hP hi_5 dX8_part_41 ?_
    refine lv_if_eq (tgt := 55) hx hb dX8_part_42 (by decide) (fun c_6 => ?_) (fun c_6 => ?_)
    · have hm := (if_pos c_6).symm.trans hm
      refine lv_aload_n hx hb dX8_part_55 rfl (lv_at hl 2 rfl) ?_
      refine gM_has X hP dX8_part_56 ?_
      refine lv_iload_n hx hb dX8_part_59 rfl (lv_at hl 0 rfl) ?_
      refine lv_iconst (v := 1) hx hb dX8_part_60 (by decide) ?_
      obtain ⟨hi_7, hm⟩ := gi_s hm
      refine stM_has X hP (dM hD) hS hi_7 dX8_part_61 (fun H locs hP hS => ?_)
      refine lv_aload_n hx hb dX8_part_62 rfl (lv_at hl 2 rfl) ?_
      refine lv_aload_n hx hb dX8_part_63 rfl (lv_at hl 2 rfl) ?_
      refine gM_at X hP dX8_part_64 ?_
      refine lv_iload_n hx hb dX8_part_67 rfl (lv_at hl 1 rfl) ?_
      refine lv_iadd hx hb dX8_part_68 ?_
      refine pM_at X hP (dM hD) hS dX8_part_69 (fun H locs hP hS => ?_)
      refine lv_aload_n hx hb dX8_part_72 rfl (lv_at hl 2 rfl) ?_
      refine lv_aload_n hx hb dX8_part_73 rfl (lv_at hl 2 rfl) ?_
      refine gM_at X hP dX8_part_74 ?_
      obtain ⟨r_8, e_8, hm⟩ := bd1_s hm
      refine goV_i (n := 1) (C := RX8) X (cM_byteAt e_8) (gV kw906 kw908 ks_yX8_byteAt kw9 kw909) (by decide +kernel) ⟨by decide, by decide⟩ (rcM hK hP) hP (dM hD) hS rfl rfl hl.1 (Nat.le_of_ble_eq_true rfl) dX8_part_77 ⟨Nat.le_refl _, Nat.le_refl _⟩ (fun H locs hP _ hS => ?_)
      refine lv_bipush (v := 61) hx hb dX8_part_80 (by decide) ?_
      refine lv_icmp_eq (tgt := 95) hx hb dX8_part_82 (by decide) (fun c_9 => ?_) (fun c_9 => ?_)
      · have hm := (if_pos c_9).symm.trans hm
        refine lv_aload_n hx hb dX8_part_95 rfl (lv_at hl 2 rfl) ?_
        refine lv_dup hx hb dX8_part_96 rfl ?_
        refine gM_at X hP dX8_part_97 ?_
        refine lv_iconst (v := 1) hx hb dX8_part_100 (by decide) ?_
        refine lv_iadd hx hb dX8_part_101 ?_
        refine pM_at X hP (dM hD) hS dX8_part_102 (fun H locs hP hS => ?_)
        refine lv_aload_n hx hb dX8_part_105 rfl (lv_at hl 2 rfl) ?_
        refine lv_iload_n hx hb dX8_part_106 rfl (lv_at hl 0 rfl) ?_
        obtain ⟨q_10, e_10, hm⟩ := bd1_s hm
        refine goV_v (n := 1) (C := RX8) X (cM_value e_10) (gV kw931 kw933 ks_yX8_value kw9 kw934) (by decide +kernel) ⟨by decide, by decide⟩ (rcM hK hP) hP (dM hD) hS rfl rfl hl.1 (Nat.le_of_ble_eq_true rfl) dX8_part_107 ⟨Nat.le_refl _, Nat.le_refl _⟩ (fun H locs hP _ hS => ?_)
        exact ret_v (wf := wM G a) X hm hP hS dX8_part_110
      · have hm := (if_neg c_9).symm.trans hm
        refine lv_aload_n hx hb dX8_part_85 rfl (lv_at hl 2 rfl) ?_
        refine lv_iconst (v := 1) hx hb dX8_part_86 (by decide) ?_
        refine lv_aload_n hx hb dX8_part_87 rfl (lv_at hl 2 rfl) ?_
        refine gM_at X hP dX8_part_88 ?_
        obtain ⟨q_11, e_11, hm⟩ := bd1_s hm
        refine goV_v (n := 2) (C := RX8) X (cM_fail e_11) (gV kw927 kw929 ks_yX8_fail kw9 kw930) (by decide +kernel) ⟨by decide, by decide⟩ (rcM hK hP) hP (dM hD) hS rfl rfl hl.1 (Nat.le_of_ble_eq_true rfl) dX8_part_91 ⟨Nat.le_refl _, Nat.le_refl _⟩ (fun H locs hP _ hS => ?_)
        exact ret_v (wf := wM G a) X hm hP hS dX8_part_94
    · have hm := (if_neg c_6).symm.trans hm
      refine lv_aload_n hx hb dX8_part_45 rfl (lv_at hl 2 rfl) ?_
      refine lv_iconst (v := 3) hx hb dX8_part_46 (by decide) ?_
      refine lv_aload_n hx hb dX8_part_47 rfl (lv_at hl 2 rfl) ?_
      refine gM_at X hP dX8_part_48 ?_
      obtain ⟨q_12, e_12, hm⟩ := bd1_s hm
      refine goV_v (n := 2) (C := RX8) X (cM_fail e_12) (gV kw927 kw929 ks_yX8_fail kw9 kw930) (by decide +kernel) ⟨by decide, by decide⟩ (rcM hK hP) hP (dM hD) hS rfl rfl hl.1 (Nat.le_of_ble_eq_true rfl) dX8_part_51 ⟨Nat.le_refl _, Nat.le_refl _⟩ (fun H locs hP _ hS => ?_)
      exact ret_v (wf := wM G a) X hm hP hS dX8_part_54
  · have hm := (if_neg c_4).symm.trans hm
    refine lv_aload_n hx hb dX8_part_26 rfl (lv_at hl 2 rfl) ?_
    refine lv_iconst (v := 1) hx hb dX8_part_27 (by decide) ?_
    refine lv_aload_n hx hb dX8_part_28 rfl (lv_at hl 2 rfl) ?_
    refine gM_at X hP dX8_part_29 ?_
    obtain ⟨q_13, e_13, hm⟩ := bd1_s hm
    refine goV_v (n := 2) (C := RX8) X (cM_fail e_13) (gV kw927 kw929 ks_yX8_fail kw9 kw930) (by decide +kernel) ⟨by decide, by decide⟩ (rcM hK hP) hP (dM hD) hS rfl rfl hl.1 (Nat.le_of_ble_eq_true rfl) dX8_part_32 ⟨Nat.le_refl _, Nat.le_refl _⟩ (fun H locs hP _ hS => ?_)
    exact ret_v (wf := wM G a) X hm hP hS dX8_part_35

-- forget
def moM_forget_L44 {α : Type} (n : Nat) (K0 : Pc3 → Option α) : Nat → Int32 → Pc3 → Option α
  | 0, _, _ => none
  | k + 1, x1, q => (if 749 ≤ x1 then (K0 q) else (gi x1 749 (moM_forget_L44 n K0 k (x1 + 1) (sA q 16 x1 (vp_nar .boolean 0)))))
def moM_forget_L66 {α : Type} (n : Nat) (K0 : Pc3 → Option α) : Nat → Int32 → Pc3 → Option α
  | 0, _, _ => none
  | k + 1, x1, q => (if 733 ≤ x1 then (K0 q) else (gi x1 733 (moM_forget_L66 n K0 k (x1 + 1) (sA q 15 x1 (vp_nar .boolean 0)))))
def moM_forget_L88 {α : Type} (n : Nat) (K0 : Pc3 → Option α) : Nat → Int32 → Pc3 → Option α
  | 0, _, _ => none
  | k + 1, x1, q => (if 63 ≤ x1 then (K0 q) else (gi x1 63 (moM_forget_L88 n K0 k (x1 + 1) (sA q 14 x1 (vp_nar .boolean 0)))))
def moM_forget_L109 {α : Type} (n : Nat) (K0 : Pc3 → Option α) : Nat → Int32 → Pc3 → Option α
  | 0, _, _ => none
  | k + 1, x1, q => (if 13 ≤ x1 then (K0 q) else (gi x1 13 (moM_forget_L109 n K0 k (x1 + 1) (sA q 13 x1 (vp_nar .boolean 0)))))
def moM_forget_L130 {α : Type} (n : Nat) (K0 : Pc3 → Option α) : Nat → Int32 → Pc3 → Option α
  | 0, _, _ => none
  | k + 1, x1, q => (if 8 ≤ x1 then (K0 q) else (gi x1 8 (moM_forget_L130 n K0 k (x1 + 1) (sA q 8 x1 (vp_nar .boolean 0)))))
def moM_forget (n : Nat) (q : Pc3) : Option (Pc3) :=
  (moM_forget_L44 n (fun q_3 => (moM_forget_L66 n (fun q_6 => (moM_forget_L88 n (fun q_9 => (moM_forget_L109 n (fun q_12 => (moM_forget_L130 n (fun q_15 => (some q_15)) n 0 q_12)) n 0 q_9)) n 0 q_6)) n 0 q_3)) n 0 (sS (sS (sS (sS (sS (sS (sS (sS q 5 0) 6 (-1)) 7 0) 9 (-1)) 10 1) 11 1000000) 12 109573) 17 0))
set_option maxHeartbeats 4000000 in
set_option maxRecDepth 100000 in
theorem lpM_forget_44 {p : Program} {l : Launch} {e : Env} {s : State} {m : MethodId} {args : Array Value} {below : List Frame} {meth : Method} {c : Code} {G : Ev} {a : Nat → Nat} {Q : State → Prop} {A : Nat → Prop} {q0 : Pc3} (X : CX p s m args meth c cX8_forget 2 none RX8 (.code yX8_forget cX8_forget 2 none) G A) (hD : va_D A (wM G a q0)) {α : Type} {o : α} {n : Nat} {K0 : Pc3 → Option α} (h0 : ∀ (q : Pc3) (H : Heap) (locs : List Loc) (ls : Array Slot), K0 q = some o → va_P (DD G) vwCl (wM G a q) H → va_S A s.heap H locs → lv_has ls 2 [(0, .ref (a 0))] → W p l e { frames := 0, cells := 0, slots := 0, locals := 0 } s m args below meth c H locs 0 0 Q (F0 m 64 ls [])) : ∀ (k : Nat) (x1 : Int32) (q : Pc3) (H : Heap) (locs : List Loc) (ls : Array Slot), moM_forget_L44 n K0 k x1 q = some o → va_P (DD G) vwCl (wM G a q) H → va_S A s.heap H locs → lv_has ls 2 [(0, .ref (a 0)), (1, .int x1)] → W p l e { frames := 0, cells := 0, slots := 0, locals := 0 } s m args below meth c H locs 0 0 Q (F0 m 44 ls []) := by
  obtain ⟨⟨hx, hb, hml, hown, hts⟩, hK, hr, hlk, hA, hAs, hSta⟩ := id X
  intro k
  induction k with
  | zero =>
    intro x1 q H locs ls hm
    have hm : none = some o := hm
    cases hm
  | succ k ih =>
    intro x1 q H locs ls hm hP hS hl
    rw [moM_forget_L44] at hm
    refine lv_iload_n hx hb dX8_forget_44 rfl (lv_at hl 1 rfl) ?_
    refine lv_sipush (v := 749) hx hb dX8_forget_45 (by decide) ?_
    refine lv_icmp_ge (tgt := 64) hx hb dX8_forget_48 (by decide) (fun c_1 => ?_) (fun c_1 => ?_)
    · have hm := (if_pos c_1).symm.trans hm
      exact h0 _ _ _ _ hm hP hS (lv_sub hl [0] rfl)
    · have hm := (if_neg c_1).symm.trans hm
      refine lv_aload_n hx hb dX8_forget_51 rfl (lv_at hl 0 rfl) ?_
      refine gM_weekdays X hP dX8_forget_52 ?_
      refine lv_iload_n hx hb dX8_forget_55 rfl (lv_at hl 1 rfl) ?_
      refine lv_iconst (v := 0) hx hb dX8_forget_56 (by decide) ?_
      obtain ⟨hi_2, hm⟩ := gi_s hm
      refine stM_weekdays X hP (dM hD) hS hi_2 dX8_forget_57 (fun H locs hP hS => ?_)
      refine lv_iinc (v := (x1 + 1)) (lv' := [(1, .int (x1 + 1)), (0, .ref (a 0))]) hx hb dX8_forget_58 hl (k := 1) rfl (by first | rfl | decide) (by decide) rfl (fun ls hl => ?_)
      refine lv_goto (tgt := 44) hx hb dX8_forget_61 (by decide) ?_
      exact ih _ _ _ _ _ hm hP hS (lv_sub hl [1, 0] rfl)
set_option maxHeartbeats 4000000 in
set_option maxRecDepth 100000 in
theorem lpM_forget_66 {p : Program} {l : Launch} {e : Env} {s : State} {m : MethodId} {args : Array Value} {below : List Frame} {meth : Method} {c : Code} {G : Ev} {a : Nat → Nat} {Q : State → Prop} {A : Nat → Prop} {q0 : Pc3} (X : CX p s m args meth c cX8_forget 2 none RX8 (.code yX8_forget cX8_forget 2 none) G A) (hD : va_D A (wM G a q0)) {α : Type} {o : α} {n : Nat} {K0 : Pc3 → Option α} (h0 : ∀ (q : Pc3) (H : Heap) (locs : List Loc) (ls : Array Slot), K0 q = some o → va_P (DD G) vwCl (wM G a q) H → va_S A s.heap H locs → lv_has ls 2 [(0, .ref (a 0))] → W p l e { frames := 0, cells := 0, slots := 0, locals := 0 } s m args below meth c H locs 0 0 Q (F0 m 86 ls [])) : ∀ (k : Nat) (x1 : Int32) (q : Pc3) (H : Heap) (locs : List Loc) (ls : Array Slot), moM_forget_L66 n K0 k x1 q = some o → va_P (DD G) vwCl (wM G a q) H → va_S A s.heap H locs → lv_has ls 2 [(0, .ref (a 0)), (1, .int x1)] → W p l e { frames := 0, cells := 0, slots := 0, locals := 0 } s m args below meth c H locs 0 0 Q (F0 m 66 ls []) := by
  obtain ⟨⟨hx, hb, hml, hown, hts⟩, hK, hr, hlk, hA, hAs, hSta⟩ := id X
  intro k
  induction k with
  | zero =>
    intro x1 q H locs ls hm
    have hm : none = some o := hm
    cases hm
  | succ k ih =>
    intro x1 q H locs ls hm hP hS hl
    rw [moM_forget_L66] at hm
    refine lv_iload_n hx hb dX8_forget_66 rfl (lv_at hl 1 rfl) ?_
    refine lv_sipush (v := 733) hx hb dX8_forget_67 (by decide) ?_
    refine lv_icmp_ge (tgt := 86) hx hb dX8_forget_70 (by decide) (fun c_4 => ?_) (fun c_4 => ?_)
    · have hm := (if_pos c_4).symm.trans hm
      exact h0 _ _ _ _ hm hP hS (lv_sub hl [0] rfl)
    · have hm := (if_neg c_4).symm.trans hm
      refine lv_aload_n hx hb dX8_forget_73 rfl (lv_at hl 0 rfl) ?_
      refine gM_places X hP dX8_forget_74 ?_
      refine lv_iload_n hx hb dX8_forget_77 rfl (lv_at hl 1 rfl) ?_
      refine lv_iconst (v := 0) hx hb dX8_forget_78 (by decide) ?_
      obtain ⟨hi_5, hm⟩ := gi_s hm
      refine stM_places X hP (dM hD) hS hi_5 dX8_forget_79 (fun H locs hP hS => ?_)
      refine lv_iinc (v := (x1 + 1)) (lv' := [(1, .int (x1 + 1)), (0, .ref (a 0))]) hx hb dX8_forget_80 hl (k := 1) rfl (by first | rfl | decide) (by decide) rfl (fun ls hl => ?_)
      refine lv_goto (tgt := 66) hx hb dX8_forget_83 (by decide) ?_
      exact ih _ _ _ _ _ hm hP hS (lv_sub hl [1, 0] rfl)
set_option maxHeartbeats 4000000 in
set_option maxRecDepth 100000 in
theorem lpM_forget_88 {p : Program} {l : Launch} {e : Env} {s : State} {m : MethodId} {args : Array Value} {below : List Frame} {meth : Method} {c : Code} {G : Ev} {a : Nat → Nat} {Q : State → Prop} {A : Nat → Prop} {q0 : Pc3} (X : CX p s m args meth c cX8_forget 2 none RX8 (.code yX8_forget cX8_forget 2 none) G A) (hD : va_D A (wM G a q0)) {α : Type} {o : α} {n : Nat} {K0 : Pc3 → Option α} (h0 : ∀ (q : Pc3) (H : Heap) (locs : List Loc) (ls : Array Slot), K0 q = some o → va_P (DD G) vwCl (wM G a q) H → va_S A s.heap H locs → lv_has ls 2 [(0, .ref (a 0))] → W p l e { frames := 0, cells := 0, slots := 0, locals := 0 } s m args below meth c H locs 0 0 Q (F0 m 107 ls [])) : ∀ (k : Nat) (x1 : Int32) (q : Pc3) (H : Heap) (locs : List Loc) (ls : Array Slot), moM_forget_L88 n K0 k x1 q = some o → va_P (DD G) vwCl (wM G a q) H → va_S A s.heap H locs → lv_has ls 2 [(0, .ref (a 0)), (1, .int x1)] → W p l e { frames := 0, cells := 0, slots := 0, locals := 0 } s m args below meth c H locs 0 0 Q (F0 m 88 ls []) := by
  obtain ⟨⟨hx, hb, hml, hown, hts⟩, hK, hr, hlk, hA, hAs, hSta⟩ := id X
  intro k
  induction k with
  | zero =>
    intro x1 q H locs ls hm
    have hm : none = some o := hm
    cases hm
  | succ k ih =>
    intro x1 q H locs ls hm hP hS hl
    rw [moM_forget_L88] at hm
    refine lv_iload_n hx hb dX8_forget_88 rfl (lv_at hl 1 rfl) ?_
    refine lv_bipush (v := 63) hx hb dX8_forget_89 (by decide) ?_
    refine lv_icmp_ge (tgt := 107) hx hb dX8_forget_91 (by decide) (fun c_7 => ?_) (fun c_7 => ?_)
    · have hm := (if_pos c_7).symm.trans hm
      exact h0 _ _ _ _ hm hP hS (lv_sub hl [0] rfl)
    · have hm := (if_neg c_7).symm.trans hm
      refine lv_aload_n hx hb dX8_forget_94 rfl (lv_at hl 0 rfl) ?_
      refine gM_monthDays X hP dX8_forget_95 ?_
      refine lv_iload_n hx hb dX8_forget_98 rfl (lv_at hl 1 rfl) ?_
      refine lv_iconst (v := 0) hx hb dX8_forget_99 (by decide) ?_
      obtain ⟨hi_8, hm⟩ := gi_s hm
      refine stM_monthDays X hP (dM hD) hS hi_8 dX8_forget_100 (fun H locs hP hS => ?_)
      refine lv_iinc (v := (x1 + 1)) (lv' := [(1, .int (x1 + 1)), (0, .ref (a 0))]) hx hb dX8_forget_101 hl (k := 1) rfl (by first | rfl | decide) (by decide) rfl (fun ls hl => ?_)
      refine lv_goto (tgt := 88) hx hb dX8_forget_104 (by decide) ?_
      exact ih _ _ _ _ _ hm hP hS (lv_sub hl [1, 0] rfl)
set_option maxHeartbeats 4000000 in
set_option maxRecDepth 100000 in
theorem lpM_forget_109 {p : Program} {l : Launch} {e : Env} {s : State} {m : MethodId} {args : Array Value} {below : List Frame} {meth : Method} {c : Code} {G : Ev} {a : Nat → Nat} {Q : State → Prop} {A : Nat → Prop} {q0 : Pc3} (X : CX p s m args meth c cX8_forget 2 none RX8 (.code yX8_forget cX8_forget 2 none) G A) (hD : va_D A (wM G a q0)) {α : Type} {o : α} {n : Nat} {K0 : Pc3 → Option α} (h0 : ∀ (q : Pc3) (H : Heap) (locs : List Loc) (ls : Array Slot), K0 q = some o → va_P (DD G) vwCl (wM G a q) H → va_S A s.heap H locs → lv_has ls 2 [(0, .ref (a 0))] → W p l e { frames := 0, cells := 0, slots := 0, locals := 0 } s m args below meth c H locs 0 0 Q (F0 m 128 ls [])) : ∀ (k : Nat) (x1 : Int32) (q : Pc3) (H : Heap) (locs : List Loc) (ls : Array Slot), moM_forget_L109 n K0 k x1 q = some o → va_P (DD G) vwCl (wM G a q) H → va_S A s.heap H locs → lv_has ls 2 [(0, .ref (a 0)), (1, .int x1)] → W p l e { frames := 0, cells := 0, slots := 0, locals := 0 } s m args below meth c H locs 0 0 Q (F0 m 109 ls []) := by
  obtain ⟨⟨hx, hb, hml, hown, hts⟩, hK, hr, hlk, hA, hAs, hSta⟩ := id X
  intro k
  induction k with
  | zero =>
    intro x1 q H locs ls hm
    have hm : none = some o := hm
    cases hm
  | succ k ih =>
    intro x1 q H locs ls hm hP hS hl
    rw [moM_forget_L109] at hm
    refine lv_iload_n hx hb dX8_forget_109 rfl (lv_at hl 1 rfl) ?_
    refine lv_bipush (v := 13) hx hb dX8_forget_110 (by decide) ?_
    refine lv_icmp_ge (tgt := 128) hx hb dX8_forget_112 (by decide) (fun c_10 => ?_) (fun c_10 => ?_)
    · have hm := (if_pos c_10).symm.trans hm
      exact h0 _ _ _ _ hm hP hS (lv_sub hl [0] rfl)
    · have hm := (if_neg c_10).symm.trans hm
      refine lv_aload_n hx hb dX8_forget_115 rfl (lv_at hl 0 rfl) ?_
      refine gM_months X hP dX8_forget_116 ?_
      refine lv_iload_n hx hb dX8_forget_119 rfl (lv_at hl 1 rfl) ?_
      refine lv_iconst (v := 0) hx hb dX8_forget_120 (by decide) ?_
      obtain ⟨hi_11, hm⟩ := gi_s hm
      refine stM_months X hP (dM hD) hS hi_11 dX8_forget_121 (fun H locs hP hS => ?_)
      refine lv_iinc (v := (x1 + 1)) (lv' := [(1, .int (x1 + 1)), (0, .ref (a 0))]) hx hb dX8_forget_122 hl (k := 1) rfl (by first | rfl | decide) (by decide) rfl (fun ls hl => ?_)
      refine lv_goto (tgt := 109) hx hb dX8_forget_125 (by decide) ?_
      exact ih _ _ _ _ _ hm hP hS (lv_sub hl [1, 0] rfl)
set_option maxHeartbeats 4000000 in
set_option maxRecDepth 100000 in
theorem lpM_forget_130 {p : Program} {l : Launch} {e : Env} {s : State} {m : MethodId} {args : Array Value} {below : List Frame} {meth : Method} {c : Code} {G : Ev} {a : Nat → Nat} {Q : State → Prop} {A : Nat → Prop} {q0 : Pc3} (X : CX p s m args meth c cX8_forget 2 none RX8 (.code yX8_forget cX8_forget 2 none) G A) (hD : va_D A (wM G a q0)) {α : Type} {o : α} {n : Nat} {K0 : Pc3 → Option α} (h0 : ∀ (q : Pc3) (H : Heap) (locs : List Loc) (ls : Array Slot), K0 q = some o → va_P (DD G) vwCl (wM G a q) H → va_S A s.heap H locs → lv_has ls 2 [] → W p l e { frames := 0, cells := 0, slots := 0, locals := 0 } s m args below meth c H locs 0 0 Q (F0 m 149 ls [])) : ∀ (k : Nat) (x1 : Int32) (q : Pc3) (H : Heap) (locs : List Loc) (ls : Array Slot), moM_forget_L130 n K0 k x1 q = some o → va_P (DD G) vwCl (wM G a q) H → va_S A s.heap H locs → lv_has ls 2 [(0, .ref (a 0)), (1, .int x1)] → W p l e { frames := 0, cells := 0, slots := 0, locals := 0 } s m args below meth c H locs 0 0 Q (F0 m 130 ls []) := by
  obtain ⟨⟨hx, hb, hml, hown, hts⟩, hK, hr, hlk, hA, hAs, hSta⟩ := id X
  intro k
  induction k with
  | zero =>
    intro x1 q H locs ls hm
    have hm : none = some o := hm
    cases hm
  | succ k ih =>
    intro x1 q H locs ls hm hP hS hl
    rw [moM_forget_L130] at hm
    refine lv_iload_n hx hb dX8_forget_130 rfl (lv_at hl 1 rfl) ?_
    refine lv_bipush (v := 8) hx hb dX8_forget_131 (by decide) ?_
    refine lv_icmp_ge (tgt := 149) hx hb dX8_forget_133 (by decide) (fun c_13 => ?_) (fun c_13 => ?_)
    · have hm := (if_pos c_13).symm.trans hm
      exact h0 _ _ _ _ hm hP hS (lv_sub hl [] rfl)
    · have hm := (if_neg c_13).symm.trans hm
      refine lv_aload_n hx hb dX8_forget_136 rfl (lv_at hl 0 rfl) ?_
      refine gM_has X hP dX8_forget_137 ?_
      refine lv_iload_n hx hb dX8_forget_140 rfl (lv_at hl 1 rfl) ?_
      refine lv_iconst (v := 0) hx hb dX8_forget_141 (by decide) ?_
      obtain ⟨hi_14, hm⟩ := gi_s hm
      refine stM_has X hP (dM hD) hS hi_14 dX8_forget_142 (fun H locs hP hS => ?_)
      refine lv_iinc (v := (x1 + 1)) (lv' := [(1, .int (x1 + 1)), (0, .ref (a 0))]) hx hb dX8_forget_143 hl (k := 1) rfl (by first | rfl | decide) (by decide) rfl (fun ls hl => ?_)
      refine lv_goto (tgt := 130) hx hb dX8_forget_146 (by decide) ?_
      exact ih _ _ _ _ _ hm hP hS (lv_sub hl [1, 0] rfl)
set_option maxHeartbeats 4000000 in
set_option maxRecDepth 100000 in
theorem cM_forget {l : Launch} {G : Ev} {a : Nat → Nat} {n : Nat} {q : Pc3} {q' : Pc3} (hm : moM_forget n q = some q') : CtV l G yX8_forget cX8_forget 2 none 0 0 0 0 [.ref (a 0)] (wM G a q) (wM G a q') := by
  intro sz
  refine enter (by decide) (Nat.le_of_ble_eq_true rfl) ?_
  intro p e s m args below meth c ls X hsz hP hD hS hl
  subst hsz
  obtain ⟨⟨hx, hb, hml, hown, hts⟩, hK, hr, hlk, hA, hAs, hSta⟩ := id X
  have hl : lv_has ls 2 [(0, .ref (a 0))] := hl
  unfold moM_forget at hm
  refine lv_aload_n hx hb dX8_forget_0 rfl (lv_at hl 0 rfl) ?_
  refine lv_iconst (v := 0) hx hb dX8_forget_1 (by decide) ?_
  refine pM_fault X hP (dM hD) hS dX8_forget_2 (fun H locs hP hS => ?_)
  refine lv_aload_n hx hb dX8_forget_5 rfl (lv_at hl 0 rfl) ?_
  refine lv_iconst (v := (-1)) hx hb dX8_forget_6 (by decide) ?_
  refine pM_place X hP (dM hD) hS dX8_forget_7 (fun H locs hP hS => ?_)
  refine lv_aload_n hx hb dX8_forget_10 rfl (lv_at hl 0 rfl) ?_
  refine lv_iconst (v := 0) hx hb dX8_forget_11 (by decide) ?_
  refine pM_at X hP (dM hD) hS dX8_forget_12 (fun H locs hP hS => ?_)
  refine lv_aload_n hx hb dX8_forget_15 rfl (lv_at hl 0 rfl) ?_
  refine lv_iconst (v := (-1)) hx hb dX8_forget_16 (by decide) ?_
  refine pM_freq X hP (dM hD) hS dX8_forget_17 (fun H locs hP hS => ?_)
  refine lv_aload_n hx hb dX8_forget_20 rfl (lv_at hl 0 rfl) ?_
  refine lv_iconst (v := 1) hx hb dX8_forget_21 (by decide) ?_
  refine pM_interval X hP (dM hD) hS dX8_forget_22 (fun H locs hP hS => ?_)
  refine lv_aload_n hx hb dX8_forget_25 rfl (lv_at hl 0 rfl) ?_
  refine lv_ldc (v := 1000000) hx hb hown (hts _ (List.mem_cons_of_mem _ kw897)) dX8_forget_26 ?_
  refine pM_count X hP (dM hD) hS dX8_forget_28 (fun H locs hP hS => ?_)
  refine lv_aload_n hx hb dX8_forget_31 rfl (lv_at hl 0 rfl) ?_
  refine lv_ldc (v := 109573) hx hb hown (hts _ (List.mem_cons_of_mem _ kw779)) dX8_forget_32 ?_
  refine pM_until X hP (dM hD) hS dX8_forget_34 (fun H locs hP hS => ?_)
  refine lv_aload_n hx hb dX8_forget_37 rfl (lv_at hl 0 rfl) ?_
  refine lv_iconst (v := 0) hx hb dX8_forget_38 (by decide) ?_
  refine pM_numbered X (by decide) hP (dM hD) hS dX8_forget_39 (fun H locs hP hS => ?_)
  refine lv_iconst (v := 0) hx hb dX8_forget_42 (by decide) ?_
  refine lv_istore_n (lv' := [(1, .int 0), (0, .ref (a 0))]) hx hb dX8_forget_43 rfl hl (by decide) rfl (fun ls hl => ?_)
  refine lpM_forget_44 X hD (fun q_3 H locs ls hm hP hS hl => ?_) n _ _ _ _ _ hm hP hS (lv_sub hl [1, 0] rfl)
  refine lv_iconst (v := 0) hx hb dX8_forget_64 (by decide) ?_
  refine lv_istore_n (lv' := [(1, .int 0), (0, .ref (a 0))]) hx hb dX8_forget_65 rfl hl (by decide) rfl (fun ls hl => ?_)
  refine lpM_forget_66 X hD (fun q_6 H locs ls hm hP hS hl => ?_) n _ _ _ _ _ hm hP hS (lv_sub hl [1, 0] rfl)
  refine lv_iconst (v := 0) hx hb dX8_forget_86 (by decide) ?_
  refine lv_istore_n (lv' := [(1, .int 0), (0, .ref (a 0))]) hx hb dX8_forget_87 rfl hl (by decide) rfl (fun ls hl => ?_)
  refine lpM_forget_88 X hD (fun q_9 H locs ls hm hP hS hl => ?_) n _ _ _ _ _ hm hP hS (lv_sub hl [1, 0] rfl)
  refine lv_iconst (v := 0) hx hb dX8_forget_107 (by decide) ?_
  refine lv_istore_n (lv' := [(1, .int 0), (0, .ref (a 0))]) hx hb dX8_forget_108 rfl hl (by decide) rfl (fun ls hl => ?_)
  refine lpM_forget_109 X hD (fun q_12 H locs ls hm hP hS hl => ?_) n _ _ _ _ _ hm hP hS (lv_sub hl [1, 0] rfl)
  refine lv_iconst (v := 0) hx hb dX8_forget_128 (by decide) ?_
  refine lv_istore_n (lv' := [(1, .int 0), (0, .ref (a 0))]) hx hb dX8_forget_129 rfl hl (by decide) rfl (fun ls hl => ?_)
  refine lpM_forget_130 X hD (fun q_15 H locs ls hm hP hS hl => ?_) n _ _ _ _ _ hm hP hS (lv_sub hl [1, 0] rfl)
  exact ret_v (wf := wM G a) X hm hP hS dX8_forget_149

-- readRule
def moM_readRule_L8 {α : Type} (n : Nat) (K0 : Pc3 → Option α) : Nat → Pc3 → Option α
  | 0, _ => none
  | k + 1, q => (if (rS q 5) = 0 then (if (rS q 4) ≤ (rS q 7) then (K0 q) else (bd1 (moM_byteAt n (rS q 7) q) fun r_5 => (if r_5 = 59 then (bd1 (moM_part n (sS q 7 ((rS q 7) + 1))) fun q_7 => (moM_readRule_L8 n K0 k q_7)) else (bd1 (moM_fail n 1 (rS q 7) q) fun q_8 => (moM_readRule_L8 n K0 k q_8))))) else (K0 q))
def moM_readRule_B169 (n : Nat) (x1 : Int32) (x2 : Int32) (q : Pc3) : Option (Pc3) :=
  (gi 5 8 (if (rA q 8 5) = 0 then (if x1 = 0 then (if x2 = 0 then (some q) else (bd1 (moM_fail n 4 (rS q 4) q) fun q_23 => (some q_23))) else (bd1 (moM_fail n 4 (rS q 4) q) fun q_21 => (some q_21))) else (if (rS q 9) = 1 then (bd1 (moM_fail n 4 (rS q 4) q) fun q_25 => (some q_25)) else (if x1 = 0 then (if x2 = 0 then (some q) else (bd1 (moM_fail n 4 (rS q 4) q) fun q_29 => (some q_29))) else (bd1 (moM_fail n 4 (rS q 4) q) fun q_27 => (some q_27))))))
def moM_readRule_B97 (n : Nat) (t0 : Int32) (q : Pc3) : Option (Pc3) :=
  (gi 6 8 (if (rA q 8 6) = 0 then (gi 0 8 (if (rA q 8 0) = 0 then (bd1 (moM_fail n 4 (rS q 4) q) fun q_15 => (some q_15)) else (gi 2 8 (if (rA q 8 2) = 0 then (moM_readRule_B169 n t0 0 q) else (gi 3 8 (if (rA q 8 3) = 0 then (moM_readRule_B169 n t0 0 q) else (bd1 (moM_fail n 4 (rS q 4) q) fun q_32 => (some q_32)))))))) else (gi 4 8 (if (rA q 8 4) = 0 then (gi 5 8 (if (rA q 8 5) = 0 then (gi 7 8 (if (rA q 8 7) = 0 then (gi 0 8 (if (rA q 8 0) = 0 then (bd1 (moM_fail n 4 (rS q 4) q) fun q_65 => (some q_65)) else (gi 2 8 (if (rA q 8 2) = 0 then (moM_readRule_B169 n t0 1 q) else (gi 3 8 (if (rA q 8 3) = 0 then (moM_readRule_B169 n t0 1 q) else (bd1 (moM_fail n 4 (rS q 4) q) fun q_70 => (some q_70)))))))) else (gi 0 8 (if (rA q 8 0) = 0 then (bd1 (moM_fail n 4 (rS q 4) q) fun q_57 => (some q_57)) else (gi 2 8 (if (rA q 8 2) = 0 then (moM_readRule_B169 n t0 0 q) else (gi 3 8 (if (rA q 8 3) = 0 then (moM_readRule_B169 n t0 0 q) else (bd1 (moM_fail n 4 (rS q 4) q) fun q_62 => (some q_62)))))))))) else (gi 0 8 (if (rA q 8 0) = 0 then (bd1 (moM_fail n 4 (rS q 4) q) fun q_47 => (some q_47)) else (gi 2 8 (if (rA q 8 2) = 0 then (moM_readRule_B169 n t0 0 q) else (gi 3 8 (if (rA q 8 3) = 0 then (moM_readRule_B169 n t0 0 q) else (bd1 (moM_fail n 4 (rS q 4) q) fun q_52 => (some q_52)))))))))) else (gi 0 8 (if (rA q 8 0) = 0 then (bd1 (moM_fail n 4 (rS q 4) q) fun q_37 => (some q_37)) else (gi 2 8 (if (rA q 8 2) = 0 then (moM_readRule_B169 n t0 0 q) else (gi 3 8 (if (rA q 8 3) = 0 then (moM_readRule_B169 n t0 0 q) else (bd1 (moM_fail n 4 (rS q 4) q) fun q_42 => (some q_42))))))))))))
def moM_readRule (n : Nat) (q : Pc3) : Option (Pc3) :=
  (bd1 (moM_forget n q) fun q_1 => (bd1 (moM_part n q_1) fun q_2 => (moM_readRule_L8 n (fun q_9 => (if (rS q_9 17) = 0 then (moM_readRule_B97 n 0 q_9) else (if (rS q_9 9) < 2 then (moM_readRule_B97 n 1 q_9) else (gi 5 8 (if (rA q_9 8 5) = 0 then (moM_readRule_B97 n 0 q_9) else (moM_readRule_B97 n 1 q_9)))))) n q_2)))
set_option maxHeartbeats 4000000 in
set_option maxRecDepth 100000 in
theorem lpM_readRule_8 {p : Program} {l : Launch} {e : Env} {s : State} {m : MethodId} {args : Array Value} {below : List Frame} {meth : Method} {c : Code} {G : Ev} {a : Nat → Nat} {Q : State → Prop} {A : Nat → Prop} {q0 : Pc3} (X : CX p s m args meth c cX8_readRule 3 none RX8 (.code yX8_readRule cX8_readRule 3 none) G A) (hD : va_D A (wM G a q0)) {α : Type} {o : α} {n : Nat} {K0 : Pc3 → Option α} (h0 : ∀ (q : Pc3) (H : Heap) (locs : List Loc) (ls : Array Slot), K0 q = some o → va_P (DD G) vwCl (wM G a q) H → va_S A s.heap H locs → lv_has ls 3 [(0, .ref (a 0))] → W p l e { frames := 6, cells := 0, slots := 0, locals := 138 } s m args below meth c H locs 0 0 Q (F0 m 68 ls [])) : ∀ (k : Nat) (q : Pc3) (H : Heap) (locs : List Loc) (ls : Array Slot), moM_readRule_L8 n K0 k q = some o → va_P (DD G) vwCl (wM G a q) H → va_S A s.heap H locs → lv_has ls 3 [(0, .ref (a 0))] → W p l e { frames := 6, cells := 0, slots := 0, locals := 138 } s m args below meth c H locs 0 0 Q (F0 m 8 ls []) := by
  obtain ⟨⟨hx, hb, hml, hown, hts⟩, hK, hr, hlk, hA, hAs, hSta⟩ := id X
  intro k
  induction k with
  | zero =>
    intro q H locs ls hm
    have hm : none = some o := hm
    cases hm
  | succ k ih =>
    intro q H locs ls hm hP hS hl
    rw [moM_readRule_L8] at hm
    refine lv_aload_n hx hb dX8_readRule_8 rfl (lv_at hl 0 rfl) ?_
    refine gM_fault X hP dX8_readRule_9 ?_
    refine lv_if_ne (tgt := 68) hx hb dX8_readRule_12 (by decide) (fun c_3 => ?_) (fun c_3 => ?_)
    · have hm := (if_neg c_3).symm.trans hm
      exact h0 _ _ _ _ hm hP hS (lv_sub hl [0] rfl)
    · have hm := (if_pos c_3).symm.trans hm
      refine lv_aload_n hx hb dX8_readRule_15 rfl (lv_at hl 0 rfl) ?_
      refine gM_at X hP dX8_readRule_16 ?_
      refine lv_aload_n hx hb dX8_readRule_19 rfl (lv_at hl 0 rfl) ?_
      refine gM_size X hP dX8_readRule_20 ?_
      refine lv_icmp_ge (tgt := 68) hx hb dX8_readRule_23 (by decide) (fun c_4 => ?_) (fun c_4 => ?_)
      · have hm := (if_pos c_4).symm.trans hm
        exact h0 _ _ _ _ hm hP hS (lv_sub hl [0] rfl)
      · have hm := (if_neg c_4).symm.trans hm
        refine lv_aload_n hx hb dX8_readRule_26 rfl (lv_at hl 0 rfl) ?_
        refine lv_aload_n hx hb dX8_readRule_27 rfl (lv_at hl 0 rfl) ?_
        refine gM_at X hP dX8_readRule_28 ?_
        obtain ⟨r_5, e_5, hm⟩ := bd1_s hm
        refine goV_i (n := 1) (C := RX8) X (cM_byteAt e_5) (gV kw906 kw908 ks_yX8_byteAt kw9 kw909) (by decide +kernel) ⟨by decide, by decide⟩ (rcM hK hP) hP (dM hD) hS rfl rfl hl.1 (Nat.le_of_ble_eq_true rfl) dX8_readRule_31 ⟨Nat.le_refl _, Nat.le_refl _⟩ (fun H locs hP _ hS => ?_)
        refine lv_bipush (v := 59) hx hb dX8_readRule_34 (by decide) ?_
        refine lv_icmp_eq (tgt := 51) hx hb dX8_readRule_36 (by decide) (fun c_6 => ?_) (fun c_6 => ?_)
        · have hm := (if_pos c_6).symm.trans hm
          refine lv_aload_n hx hb dX8_readRule_51 rfl (lv_at hl 0 rfl) ?_
          refine lv_dup hx hb dX8_readRule_52 rfl ?_
          refine gM_at X hP dX8_readRule_53 ?_
          refine lv_iconst (v := 1) hx hb dX8_readRule_56 (by decide) ?_
          refine lv_iadd hx hb dX8_readRule_57 ?_
          refine pM_at X hP (dM hD) hS dX8_readRule_58 (fun H locs hP hS => ?_)
          refine lv_aload_n hx hb dX8_readRule_61 rfl (lv_at hl 0 rfl) ?_
          obtain ⟨q_7, e_7, hm⟩ := bd1_s hm
          refine goV_v (n := 0) (C := RX8) X (cM_part e_7) (gV kw898 kw900 ks_yX8_part kw9 kw901) (by decide +kernel) ⟨by decide, by decide⟩ (rcM hK hP) hP (dM hD) hS rfl rfl hl.1 (Nat.le_of_ble_eq_true rfl) dX8_readRule_62 ⟨Nat.le_refl _, Nat.le_refl _⟩ (fun H locs hP _ hS => ?_)
          refine lv_goto (tgt := 8) hx hb dX8_readRule_65 (by decide) ?_
          exact ih _ _ _ _ hm hP hS (lv_sub hl [0] rfl)
        · have hm := (if_neg c_6).symm.trans hm
          refine lv_aload_n hx hb dX8_readRule_39 rfl (lv_at hl 0 rfl) ?_
          refine lv_iconst (v := 1) hx hb dX8_readRule_40 (by decide) ?_
          refine lv_aload_n hx hb dX8_readRule_41 rfl (lv_at hl 0 rfl) ?_
          refine gM_at X hP dX8_readRule_42 ?_
          obtain ⟨q_8, e_8, hm⟩ := bd1_s hm
          refine goV_v (n := 2) (C := RX8) X (cM_fail e_8) (gV kw927 kw929 ks_yX8_fail kw9 kw930) (by decide +kernel) ⟨by decide, by decide⟩ (rcM hK hP) hP (dM hD) hS rfl rfl hl.1 (Nat.le_of_ble_eq_true rfl) dX8_readRule_45 ⟨Nat.le_refl _, Nat.le_refl _⟩ (fun H locs hP _ hS => ?_)
          refine lv_goto (tgt := 8) hx hb dX8_readRule_48 (by decide) ?_
          exact ih _ _ _ _ hm hP hS (lv_sub hl [0] rfl)
set_option maxHeartbeats 4000000 in
set_option maxRecDepth 100000 in
theorem bkM_readRule_169 {p : Program} {l : Launch} {e : Env} {s : State} {m : MethodId} {args : Array Value} {below : List Frame} {meth : Method} {c : Code} {G : Ev} {a : Nat → Nat}  {q0 : Pc3} {L : List Nat} {q' : Pc3} {n : Nat} {x1 : Int32} {x2 : Int32} {q : Pc3} {H : Heap} {locs : List Loc} {ls : Array Slot} (X : CX p s m args meth c cX8_readRule 3 none RX8 (.code yX8_readRule cX8_readRule 3 none) G (AL L s.heap.size)) (hD : va_D (AL L s.heap.size) (wM G a q0)) (hm : moM_readRule_B169 n x1 x2 q = some q') (hP : va_P (DD G) vwCl (wM G a q) H) (hS : va_S (AL L s.heap.size) s.heap H locs) (hl : lv_has ls 3 [(0, .ref (a 0)), (1, .int x1), (2, .int x2)]) : W p l e { frames := 6, cells := 0, slots := 0, locals := 138 } s m args below meth c H locs 0 0 (MQ below (va_Qv (fun _ : Unit => True) (fun _ t => va_P (DD G) vwCl (wM G a q') t.heap) (AL L s.heap.size)) args s 0 0 (AL L s.heap.size)) (F0 m 169 ls []) := by
  obtain ⟨⟨hx, hb, hml, hown, hts⟩, hK, hr, hlk, hA, hAs, hSta⟩ := id X
  unfold moM_readRule_B169 at hm
  refine lv_aload_n hx hb dX8_readRule_169 rfl (lv_at hl 0 rfl) ?_
  refine gM_has X hP dX8_readRule_170 ?_
  refine lv_iconst (v := 5) hx hb dX8_readRule_173 (by decide) ?_
  obtain ⟨hi_18, hm⟩ := gi_s hm
  refine ldM_has X hP hi_18 dX8_readRule_174 ?_
  refine lv_if_eq (tgt := 186) hx hb dX8_readRule_175 (by decide) (fun c_19 => ?_) (fun c_19 => ?_)
  · have hm := (if_pos c_19).symm.trans hm
    refine lv_iload_n hx hb dX8_readRule_186 rfl (lv_at hl 1 rfl) ?_
    refine lv_if_ne (tgt := 194) hx hb dX8_readRule_187 (by decide) (fun c_20 => ?_) (fun c_20 => ?_)
    · have hm := (if_neg c_20).symm.trans hm
      refine lv_aload_n hx hb dX8_readRule_194 rfl (lv_at hl 0 rfl) ?_
      refine lv_iconst (v := 4) hx hb dX8_readRule_195 (by decide) ?_
      refine lv_aload_n hx hb dX8_readRule_196 rfl (lv_at hl 0 rfl) ?_
      refine gM_size X hP dX8_readRule_197 ?_
      obtain ⟨q_21, e_21, hm⟩ := bd1_s hm
      refine goV_v (n := 2) (C := RX8) X (cM_fail e_21) (gV kw927 kw929 ks_yX8_fail kw9 kw930) (by decide +kernel) ⟨by decide, by decide⟩ (rcM hK hP) hP (dM hD) hS rfl rfl hl.1 (Nat.le_of_ble_eq_true rfl) dX8_readRule_200 ⟨Nat.le_refl _, Nat.le_refl _⟩ (fun H locs hP _ hS => ?_)
      exact ret_v (wf := wM G a) X hm hP hS dX8_readRule_203
    · have hm := (if_pos c_20).symm.trans hm
      refine lv_iload_n hx hb dX8_readRule_190 rfl (lv_at hl 2 rfl) ?_
      refine lv_if_eq (tgt := 203) hx hb dX8_readRule_191 (by decide) (fun c_22 => ?_) (fun c_22 => ?_)
      · have hm := (if_pos c_22).symm.trans hm
        exact ret_v (wf := wM G a) X hm hP hS dX8_readRule_203
      · have hm := (if_neg c_22).symm.trans hm
        refine lv_aload_n hx hb dX8_readRule_194 rfl (lv_at hl 0 rfl) ?_
        refine lv_iconst (v := 4) hx hb dX8_readRule_195 (by decide) ?_
        refine lv_aload_n hx hb dX8_readRule_196 rfl (lv_at hl 0 rfl) ?_
        refine gM_size X hP dX8_readRule_197 ?_
        obtain ⟨q_23, e_23, hm⟩ := bd1_s hm
        refine goV_v (n := 2) (C := RX8) X (cM_fail e_23) (gV kw927 kw929 ks_yX8_fail kw9 kw930) (by decide +kernel) ⟨by decide, by decide⟩ (rcM hK hP) hP (dM hD) hS rfl rfl hl.1 (Nat.le_of_ble_eq_true rfl) dX8_readRule_200 ⟨Nat.le_refl _, Nat.le_refl _⟩ (fun H locs hP _ hS => ?_)
        exact ret_v (wf := wM G a) X hm hP hS dX8_readRule_203
  · have hm := (if_neg c_19).symm.trans hm
    refine lv_aload_n hx hb dX8_readRule_178 rfl (lv_at hl 0 rfl) ?_
    refine gM_freq X hP dX8_readRule_179 ?_
    refine lv_iconst (v := 1) hx hb dX8_readRule_182 (by decide) ?_
    refine lv_icmp_eq (tgt := 194) hx hb dX8_readRule_183 (by decide) (fun c_24 => ?_) (fun c_24 => ?_)
    · have hm := (if_pos c_24).symm.trans hm
      refine lv_aload_n hx hb dX8_readRule_194 rfl (lv_at hl 0 rfl) ?_
      refine lv_iconst (v := 4) hx hb dX8_readRule_195 (by decide) ?_
      refine lv_aload_n hx hb dX8_readRule_196 rfl (lv_at hl 0 rfl) ?_
      refine gM_size X hP dX8_readRule_197 ?_
      obtain ⟨q_25, e_25, hm⟩ := bd1_s hm
      refine goV_v (n := 2) (C := RX8) X (cM_fail e_25) (gV kw927 kw929 ks_yX8_fail kw9 kw930) (by decide +kernel) ⟨by decide, by decide⟩ (rcM hK hP) hP (dM hD) hS rfl rfl hl.1 (Nat.le_of_ble_eq_true rfl) dX8_readRule_200 ⟨Nat.le_refl _, Nat.le_refl _⟩ (fun H locs hP _ hS => ?_)
      exact ret_v (wf := wM G a) X hm hP hS dX8_readRule_203
    · have hm := (if_neg c_24).symm.trans hm
      refine lv_iload_n hx hb dX8_readRule_186 rfl (lv_at hl 1 rfl) ?_
      refine lv_if_ne (tgt := 194) hx hb dX8_readRule_187 (by decide) (fun c_26 => ?_) (fun c_26 => ?_)
      · have hm := (if_neg c_26).symm.trans hm
        refine lv_aload_n hx hb dX8_readRule_194 rfl (lv_at hl 0 rfl) ?_
        refine lv_iconst (v := 4) hx hb dX8_readRule_195 (by decide) ?_
        refine lv_aload_n hx hb dX8_readRule_196 rfl (lv_at hl 0 rfl) ?_
        refine gM_size X hP dX8_readRule_197 ?_
        obtain ⟨q_27, e_27, hm⟩ := bd1_s hm
        refine goV_v (n := 2) (C := RX8) X (cM_fail e_27) (gV kw927 kw929 ks_yX8_fail kw9 kw930) (by decide +kernel) ⟨by decide, by decide⟩ (rcM hK hP) hP (dM hD) hS rfl rfl hl.1 (Nat.le_of_ble_eq_true rfl) dX8_readRule_200 ⟨Nat.le_refl _, Nat.le_refl _⟩ (fun H locs hP _ hS => ?_)
        exact ret_v (wf := wM G a) X hm hP hS dX8_readRule_203
      · have hm := (if_pos c_26).symm.trans hm
        refine lv_iload_n hx hb dX8_readRule_190 rfl (lv_at hl 2 rfl) ?_
        refine lv_if_eq (tgt := 203) hx hb dX8_readRule_191 (by decide) (fun c_28 => ?_) (fun c_28 => ?_)
        · have hm := (if_pos c_28).symm.trans hm
          exact ret_v (wf := wM G a) X hm hP hS dX8_readRule_203
        · have hm := (if_neg c_28).symm.trans hm
          refine lv_aload_n hx hb dX8_readRule_194 rfl (lv_at hl 0 rfl) ?_
          refine lv_iconst (v := 4) hx hb dX8_readRule_195 (by decide) ?_
          refine lv_aload_n hx hb dX8_readRule_196 rfl (lv_at hl 0 rfl) ?_
          refine gM_size X hP dX8_readRule_197 ?_
          obtain ⟨q_29, e_29, hm⟩ := bd1_s hm
          refine goV_v (n := 2) (C := RX8) X (cM_fail e_29) (gV kw927 kw929 ks_yX8_fail kw9 kw930) (by decide +kernel) ⟨by decide, by decide⟩ (rcM hK hP) hP (dM hD) hS rfl rfl hl.1 (Nat.le_of_ble_eq_true rfl) dX8_readRule_200 ⟨Nat.le_refl _, Nat.le_refl _⟩ (fun H locs hP _ hS => ?_)
          exact ret_v (wf := wM G a) X hm hP hS dX8_readRule_203
set_option maxHeartbeats 4000000 in
set_option maxRecDepth 100000 in
theorem bkM_readRule_97 {p : Program} {l : Launch} {e : Env} {s : State} {m : MethodId} {args : Array Value} {below : List Frame} {meth : Method} {c : Code} {G : Ev} {a : Nat → Nat}  {q0 : Pc3} {L : List Nat} {q' : Pc3} {n : Nat} {t0 : Int32} {q : Pc3} {H : Heap} {locs : List Loc} {ls : Array Slot} (X : CX p s m args meth c cX8_readRule 3 none RX8 (.code yX8_readRule cX8_readRule 3 none) G (AL L s.heap.size)) (hD : va_D (AL L s.heap.size) (wM G a q0)) (hm : moM_readRule_B97 n t0 q = some q') (hP : va_P (DD G) vwCl (wM G a q) H) (hS : va_S (AL L s.heap.size) s.heap H locs) (hl : lv_has ls 3 [(0, .ref (a 0))]) : W p l e { frames := 6, cells := 0, slots := 0, locals := 138 } s m args below meth c H locs 0 0 (MQ below (va_Qv (fun _ : Unit => True) (fun _ t => va_P (DD G) vwCl (wM G a q') t.heap) (AL L s.heap.size)) args s 0 0 (AL L s.heap.size)) (F0 m 97 ls [.int t0]) := by
  obtain ⟨⟨hx, hb, hml, hown, hts⟩, hK, hr, hlk, hA, hAs, hSta⟩ := id X
  unfold moM_readRule_B97 at hm
  refine lv_istore_n (lv' := [(1, .int t0), (0, .ref (a 0))]) hx hb dX8_readRule_97 rfl hl (by decide) rfl (fun ls hl => ?_)
  refine lv_aload_n hx hb dX8_readRule_98 rfl (lv_at hl 1 rfl) ?_
  refine gM_has X hP dX8_readRule_99 ?_
  refine lv_bipush (v := 6) hx hb dX8_readRule_102 (by decide) ?_
  obtain ⟨hi_11, hm⟩ := gi_s hm
  refine ldM_has X hP hi_11 dX8_readRule_104 ?_
  refine lv_if_eq (tgt := 140) hx hb dX8_readRule_105 (by decide) (fun c_12 => ?_) (fun c_12 => ?_)
  · have hm := (if_pos c_12).symm.trans hm
    refine lv_iconst (v := 0) hx hb dX8_readRule_140 (by decide) ?_
    refine lv_istore_n (lv' := [(2, .int 0), (1, .int t0), (0, .ref (a 0))]) hx hb dX8_readRule_141 rfl hl (by decide) rfl (fun ls hl => ?_)
    refine lv_aload_n hx hb dX8_readRule_142 rfl (lv_at hl 2 rfl) ?_
    refine gM_has X hP dX8_readRule_143 ?_
    refine lv_iconst (v := 0) hx hb dX8_readRule_146 (by decide) ?_
    obtain ⟨hi_13, hm⟩ := gi_s hm
    refine ldM_has X hP hi_13 dX8_readRule_147 ?_
    refine lv_if_eq (tgt := 194) hx hb dX8_readRule_148 (by decide) (fun c_14 => ?_) (fun c_14 => ?_)
    · have hm := (if_pos c_14).symm.trans hm
      refine lv_aload_n hx hb dX8_readRule_194 rfl (lv_at hl 2 rfl) ?_
      refine lv_iconst (v := 4) hx hb dX8_readRule_195 (by decide) ?_
      refine lv_aload_n hx hb dX8_readRule_196 rfl (lv_at hl 2 rfl) ?_
      refine gM_size X hP dX8_readRule_197 ?_
      obtain ⟨q_15, e_15, hm⟩ := bd1_s hm
      refine goV_v (n := 2) (C := RX8) X (cM_fail e_15) (gV kw927 kw929 ks_yX8_fail kw9 kw930) (by decide +kernel) ⟨by decide, by decide⟩ (rcM hK hP) hP (dM hD) hS rfl rfl hl.1 (Nat.le_of_ble_eq_true rfl) dX8_readRule_200 ⟨Nat.le_refl _, Nat.le_refl _⟩ (fun H locs hP _ hS => ?_)
      exact ret_v (wf := wM G a) X hm hP hS dX8_readRule_203
    · have hm := (if_neg c_14).symm.trans hm
      refine lv_aload_n hx hb dX8_readRule_151 rfl (lv_at hl 2 rfl) ?_
      refine gM_has X hP dX8_readRule_152 ?_
      refine lv_iconst (v := 2) hx hb dX8_readRule_155 (by decide) ?_
      obtain ⟨hi_16, hm⟩ := gi_s hm
      refine ldM_has X hP hi_16 dX8_readRule_156 ?_
      refine lv_if_eq (tgt := 169) hx hb dX8_readRule_157 (by decide) (fun c_17 => ?_) (fun c_17 => ?_)
      · have hm := (if_pos c_17).symm.trans hm
        exact bkM_readRule_169 X hD hm hP hS (lv_sub hl [2, 1, 0] rfl)
      · have hm := (if_neg c_17).symm.trans hm
        refine lv_aload_n hx hb dX8_readRule_160 rfl (lv_at hl 2 rfl) ?_
        refine gM_has X hP dX8_readRule_161 ?_
        refine lv_iconst (v := 3) hx hb dX8_readRule_164 (by decide) ?_
        obtain ⟨hi_30, hm⟩ := gi_s hm
        refine ldM_has X hP hi_30 dX8_readRule_165 ?_
        refine lv_if_ne (tgt := 194) hx hb dX8_readRule_166 (by decide) (fun c_31 => ?_) (fun c_31 => ?_)
        · have hm := (if_neg c_31).symm.trans hm
          refine lv_aload_n hx hb dX8_readRule_194 rfl (lv_at hl 2 rfl) ?_
          refine lv_iconst (v := 4) hx hb dX8_readRule_195 (by decide) ?_
          refine lv_aload_n hx hb dX8_readRule_196 rfl (lv_at hl 2 rfl) ?_
          refine gM_size X hP dX8_readRule_197 ?_
          obtain ⟨q_32, e_32, hm⟩ := bd1_s hm
          refine goV_v (n := 2) (C := RX8) X (cM_fail e_32) (gV kw927 kw929 ks_yX8_fail kw9 kw930) (by decide +kernel) ⟨by decide, by decide⟩ (rcM hK hP) hP (dM hD) hS rfl rfl hl.1 (Nat.le_of_ble_eq_true rfl) dX8_readRule_200 ⟨Nat.le_refl _, Nat.le_refl _⟩ (fun H locs hP _ hS => ?_)
          exact ret_v (wf := wM G a) X hm hP hS dX8_readRule_203
        · have hm := (if_pos c_31).symm.trans hm
          exact bkM_readRule_169 X hD hm hP hS (lv_sub hl [2, 1, 0] rfl)
  · have hm := (if_neg c_12).symm.trans hm
    refine lv_aload_n hx hb dX8_readRule_108 rfl (lv_at hl 1 rfl) ?_
    refine gM_has X hP dX8_readRule_109 ?_
    refine lv_iconst (v := 4) hx hb dX8_readRule_112 (by decide) ?_
    obtain ⟨hi_33, hm⟩ := gi_s hm
    refine ldM_has X hP hi_33 dX8_readRule_113 ?_
    refine lv_if_ne (tgt := 140) hx hb dX8_readRule_114 (by decide) (fun c_34 => ?_) (fun c_34 => ?_)
    · have hm := (if_neg c_34).symm.trans hm
      refine lv_iconst (v := 0) hx hb dX8_readRule_140 (by decide) ?_
      refine lv_istore_n (lv' := [(2, .int 0), (1, .int t0), (0, .ref (a 0))]) hx hb dX8_readRule_141 rfl hl (by decide) rfl (fun ls hl => ?_)
      refine lv_aload_n hx hb dX8_readRule_142 rfl (lv_at hl 2 rfl) ?_
      refine gM_has X hP dX8_readRule_143 ?_
      refine lv_iconst (v := 0) hx hb dX8_readRule_146 (by decide) ?_
      obtain ⟨hi_35, hm⟩ := gi_s hm
      refine ldM_has X hP hi_35 dX8_readRule_147 ?_
      refine lv_if_eq (tgt := 194) hx hb dX8_readRule_148 (by decide) (fun c_36 => ?_) (fun c_36 => ?_)
      · have hm := (if_pos c_36).symm.trans hm
        refine lv_aload_n hx hb dX8_readRule_194 rfl (lv_at hl 2 rfl) ?_
        refine lv_iconst (v := 4) hx hb dX8_readRule_195 (by decide) ?_
        refine lv_aload_n hx hb dX8_readRule_196 rfl (lv_at hl 2 rfl) ?_
        refine gM_size X hP dX8_readRule_197 ?_
        obtain ⟨q_37, e_37, hm⟩ := bd1_s hm
        refine goV_v (n := 2) (C := RX8) X (cM_fail e_37) (gV kw927 kw929 ks_yX8_fail kw9 kw930) (by decide +kernel) ⟨by decide, by decide⟩ (rcM hK hP) hP (dM hD) hS rfl rfl hl.1 (Nat.le_of_ble_eq_true rfl) dX8_readRule_200 ⟨Nat.le_refl _, Nat.le_refl _⟩ (fun H locs hP _ hS => ?_)
        exact ret_v (wf := wM G a) X hm hP hS dX8_readRule_203
      · have hm := (if_neg c_36).symm.trans hm
        refine lv_aload_n hx hb dX8_readRule_151 rfl (lv_at hl 2 rfl) ?_
        refine gM_has X hP dX8_readRule_152 ?_
        refine lv_iconst (v := 2) hx hb dX8_readRule_155 (by decide) ?_
        obtain ⟨hi_38, hm⟩ := gi_s hm
        refine ldM_has X hP hi_38 dX8_readRule_156 ?_
        refine lv_if_eq (tgt := 169) hx hb dX8_readRule_157 (by decide) (fun c_39 => ?_) (fun c_39 => ?_)
        · have hm := (if_pos c_39).symm.trans hm
          exact bkM_readRule_169 X hD hm hP hS (lv_sub hl [2, 1, 0] rfl)
        · have hm := (if_neg c_39).symm.trans hm
          refine lv_aload_n hx hb dX8_readRule_160 rfl (lv_at hl 2 rfl) ?_
          refine gM_has X hP dX8_readRule_161 ?_
          refine lv_iconst (v := 3) hx hb dX8_readRule_164 (by decide) ?_
          obtain ⟨hi_40, hm⟩ := gi_s hm
          refine ldM_has X hP hi_40 dX8_readRule_165 ?_
          refine lv_if_ne (tgt := 194) hx hb dX8_readRule_166 (by decide) (fun c_41 => ?_) (fun c_41 => ?_)
          · have hm := (if_neg c_41).symm.trans hm
            refine lv_aload_n hx hb dX8_readRule_194 rfl (lv_at hl 2 rfl) ?_
            refine lv_iconst (v := 4) hx hb dX8_readRule_195 (by decide) ?_
            refine lv_aload_n hx hb dX8_readRule_196 rfl (lv_at hl 2 rfl) ?_
            refine gM_size X hP dX8_readRule_197 ?_
            obtain ⟨q_42, e_42, hm⟩ := bd1_s hm
            refine goV_v (n := 2) (C := RX8) X (cM_fail e_42) (gV kw927 kw929 ks_yX8_fail kw9 kw930) (by decide +kernel) ⟨by decide, by decide⟩ (rcM hK hP) hP (dM hD) hS rfl rfl hl.1 (Nat.le_of_ble_eq_true rfl) dX8_readRule_200 ⟨Nat.le_refl _, Nat.le_refl _⟩ (fun H locs hP _ hS => ?_)
            exact ret_v (wf := wM G a) X hm hP hS dX8_readRule_203
          · have hm := (if_pos c_41).symm.trans hm
            exact bkM_readRule_169 X hD hm hP hS (lv_sub hl [2, 1, 0] rfl)
    · have hm := (if_pos c_34).symm.trans hm
      refine lv_aload_n hx hb dX8_readRule_117 rfl (lv_at hl 1 rfl) ?_
      refine gM_has X hP dX8_readRule_118 ?_
      refine lv_iconst (v := 5) hx hb dX8_readRule_121 (by decide) ?_
      obtain ⟨hi_43, hm⟩ := gi_s hm
      refine ldM_has X hP hi_43 dX8_readRule_122 ?_
      refine lv_if_ne (tgt := 140) hx hb dX8_readRule_123 (by decide) (fun c_44 => ?_) (fun c_44 => ?_)
      · have hm := (if_neg c_44).symm.trans hm
        refine lv_iconst (v := 0) hx hb dX8_readRule_140 (by decide) ?_
        refine lv_istore_n (lv' := [(2, .int 0), (1, .int t0), (0, .ref (a 0))]) hx hb dX8_readRule_141 rfl hl (by decide) rfl (fun ls hl => ?_)
        refine lv_aload_n hx hb dX8_readRule_142 rfl (lv_at hl 2 rfl) ?_
        refine gM_has X hP dX8_readRule_143 ?_
        refine lv_iconst (v := 0) hx hb dX8_readRule_146 (by decide) ?_
        obtain ⟨hi_45, hm⟩ := gi_s hm
        refine ldM_has X hP hi_45 dX8_readRule_147 ?_
        refine lv_if_eq (tgt := 194) hx hb dX8_readRule_148 (by decide) (fun c_46 => ?_) (fun c_46 => ?_)
        · have hm := (if_pos c_46).symm.trans hm
          refine lv_aload_n hx hb dX8_readRule_194 rfl (lv_at hl 2 rfl) ?_
          refine lv_iconst (v := 4) hx hb dX8_readRule_195 (by decide) ?_
          refine lv_aload_n hx hb dX8_readRule_196 rfl (lv_at hl 2 rfl) ?_
          refine gM_size X hP dX8_readRule_197 ?_
          obtain ⟨q_47, e_47, hm⟩ := bd1_s hm
          refine goV_v (n := 2) (C := RX8) X (cM_fail e_47) (gV kw927 kw929 ks_yX8_fail kw9 kw930) (by decide +kernel) ⟨by decide, by decide⟩ (rcM hK hP) hP (dM hD) hS rfl rfl hl.1 (Nat.le_of_ble_eq_true rfl) dX8_readRule_200 ⟨Nat.le_refl _, Nat.le_refl _⟩ (fun H locs hP _ hS => ?_)
          exact ret_v (wf := wM G a) X hm hP hS dX8_readRule_203
        · have hm := (if_neg c_46).symm.trans hm
          refine lv_aload_n hx hb dX8_readRule_151 rfl (lv_at hl 2 rfl) ?_
          refine gM_has X hP dX8_readRule_152 ?_
          refine lv_iconst (v := 2) hx hb dX8_readRule_155 (by decide) ?_
          obtain ⟨hi_48, hm⟩ := gi_s hm
          refine ldM_has X hP hi_48 dX8_readRule_156 ?_
          refine lv_if_eq (tgt := 169) hx hb dX8_readRule_157 (by decide) (fun c_49 => ?_) (fun c_49 => ?_)
          · have hm := (if_pos c_49).symm.trans hm
            exact bkM_readRule_169 X hD hm hP hS (lv_sub hl [2, 1, 0] rfl)
          · have hm := (if_neg c_49).symm.trans hm
            refine lv_aload_n hx hb dX8_readRule_160 rfl (lv_at hl 2 rfl) ?_
            refine gM_has X hP dX8_readRule_161 ?_
            refine lv_iconst (v := 3) hx hb dX8_readRule_164 (by decide) ?_
            obtain ⟨hi_50, hm⟩ := gi_s hm
            refine ldM_has X hP hi_50 dX8_readRule_165 ?_
            refine lv_if_ne (tgt := 194) hx hb dX8_readRule_166 (by decide) (fun c_51 => ?_) (fun c_51 => ?_)
            · have hm := (if_neg c_51).symm.trans hm
              refine lv_aload_n hx hb dX8_readRule_194 rfl (lv_at hl 2 rfl) ?_
              refine lv_iconst (v := 4) hx hb dX8_readRule_195 (by decide) ?_
              refine lv_aload_n hx hb dX8_readRule_196 rfl (lv_at hl 2 rfl) ?_
              refine gM_size X hP dX8_readRule_197 ?_
              obtain ⟨q_52, e_52, hm⟩ := bd1_s hm
              refine goV_v (n := 2) (C := RX8) X (cM_fail e_52) (gV kw927 kw929 ks_yX8_fail kw9 kw930) (by decide +kernel) ⟨by decide, by decide⟩ (rcM hK hP) hP (dM hD) hS rfl rfl hl.1 (Nat.le_of_ble_eq_true rfl) dX8_readRule_200 ⟨Nat.le_refl _, Nat.le_refl _⟩ (fun H locs hP _ hS => ?_)
              exact ret_v (wf := wM G a) X hm hP hS dX8_readRule_203
            · have hm := (if_pos c_51).symm.trans hm
              exact bkM_readRule_169 X hD hm hP hS (lv_sub hl [2, 1, 0] rfl)
      · have hm := (if_pos c_44).symm.trans hm
        refine lv_aload_n hx hb dX8_readRule_126 rfl (lv_at hl 1 rfl) ?_
        refine gM_has X hP dX8_readRule_127 ?_
        refine lv_bipush (v := 7) hx hb dX8_readRule_130 (by decide) ?_
        obtain ⟨hi_53, hm⟩ := gi_s hm
        refine ldM_has X hP hi_53 dX8_readRule_132 ?_
        refine lv_if_ne (tgt := 140) hx hb dX8_readRule_133 (by decide) (fun c_54 => ?_) (fun c_54 => ?_)
        · have hm := (if_neg c_54).symm.trans hm
          refine lv_iconst (v := 0) hx hb dX8_readRule_140 (by decide) ?_
          refine lv_istore_n (lv' := [(2, .int 0), (1, .int t0), (0, .ref (a 0))]) hx hb dX8_readRule_141 rfl hl (by decide) rfl (fun ls hl => ?_)
          refine lv_aload_n hx hb dX8_readRule_142 rfl (lv_at hl 2 rfl) ?_
          refine gM_has X hP dX8_readRule_143 ?_
          refine lv_iconst (v := 0) hx hb dX8_readRule_146 (by decide) ?_
          obtain ⟨hi_55, hm⟩ := gi_s hm
          refine ldM_has X hP hi_55 dX8_readRule_147 ?_
          refine lv_if_eq (tgt := 194) hx hb dX8_readRule_148 (by decide) (fun c_56 => ?_) (fun c_56 => ?_)
          · have hm := (if_pos c_56).symm.trans hm
            refine lv_aload_n hx hb dX8_readRule_194 rfl (lv_at hl 2 rfl) ?_
            refine lv_iconst (v := 4) hx hb dX8_readRule_195 (by decide) ?_
            refine lv_aload_n hx hb dX8_readRule_196 rfl (lv_at hl 2 rfl) ?_
            refine gM_size X hP dX8_readRule_197 ?_
            obtain ⟨q_57, e_57, hm⟩ := bd1_s hm
            refine goV_v (n := 2) (C := RX8) X (cM_fail e_57) (gV kw927 kw929 ks_yX8_fail kw9 kw930) (by decide +kernel) ⟨by decide, by decide⟩ (rcM hK hP) hP (dM hD) hS rfl rfl hl.1 (Nat.le_of_ble_eq_true rfl) dX8_readRule_200 ⟨Nat.le_refl _, Nat.le_refl _⟩ (fun H locs hP _ hS => ?_)
            exact ret_v (wf := wM G a) X hm hP hS dX8_readRule_203
          · have hm := (if_neg c_56).symm.trans hm
            refine lv_aload_n hx hb dX8_readRule_151 rfl (lv_at hl 2 rfl) ?_
            refine gM_has X hP dX8_readRule_152 ?_
            refine lv_iconst (v := 2) hx hb dX8_readRule_155 (by decide) ?_
            obtain ⟨hi_58, hm⟩ := gi_s hm
            refine ldM_has X hP hi_58 dX8_readRule_156 ?_
            refine lv_if_eq (tgt := 169) hx hb dX8_readRule_157 (by decide) (fun c_59 => ?_) (fun c_59 => ?_)
            · have hm := (if_pos c_59).symm.trans hm
              exact bkM_readRule_169 X hD hm hP hS (lv_sub hl [2, 1, 0] rfl)
            · have hm := (if_neg c_59).symm.trans hm
              refine lv_aload_n hx hb dX8_readRule_160 rfl (lv_at hl 2 rfl) ?_
              refine gM_has X hP dX8_readRule_161 ?_
              refine lv_iconst (v := 3) hx hb dX8_readRule_164 (by decide) ?_
              obtain ⟨hi_60, hm⟩ := gi_s hm
              refine ldM_has X hP hi_60 dX8_readRule_165 ?_
              refine lv_if_ne (tgt := 194) hx hb dX8_readRule_166 (by decide) (fun c_61 => ?_) (fun c_61 => ?_)
              · have hm := (if_neg c_61).symm.trans hm
                refine lv_aload_n hx hb dX8_readRule_194 rfl (lv_at hl 2 rfl) ?_
                refine lv_iconst (v := 4) hx hb dX8_readRule_195 (by decide) ?_
                refine lv_aload_n hx hb dX8_readRule_196 rfl (lv_at hl 2 rfl) ?_
                refine gM_size X hP dX8_readRule_197 ?_
                obtain ⟨q_62, e_62, hm⟩ := bd1_s hm
                refine goV_v (n := 2) (C := RX8) X (cM_fail e_62) (gV kw927 kw929 ks_yX8_fail kw9 kw930) (by decide +kernel) ⟨by decide, by decide⟩ (rcM hK hP) hP (dM hD) hS rfl rfl hl.1 (Nat.le_of_ble_eq_true rfl) dX8_readRule_200 ⟨Nat.le_refl _, Nat.le_refl _⟩ (fun H locs hP _ hS => ?_)
                exact ret_v (wf := wM G a) X hm hP hS dX8_readRule_203
              · have hm := (if_pos c_61).symm.trans hm
                exact bkM_readRule_169 X hD hm hP hS (lv_sub hl [2, 1, 0] rfl)
        · have hm := (if_pos c_54).symm.trans hm
          refine lv_iconst (v := 1) hx hb dX8_readRule_136 (by decide) ?_
          refine lv_goto (tgt := 141) hx hb dX8_readRule_137 (by decide) ?_
          refine lv_istore_n (lv' := [(2, .int 1), (1, .int t0), (0, .ref (a 0))]) hx hb dX8_readRule_141 rfl hl (by decide) rfl (fun ls hl => ?_)
          refine lv_aload_n hx hb dX8_readRule_142 rfl (lv_at hl 2 rfl) ?_
          refine gM_has X hP dX8_readRule_143 ?_
          refine lv_iconst (v := 0) hx hb dX8_readRule_146 (by decide) ?_
          obtain ⟨hi_63, hm⟩ := gi_s hm
          refine ldM_has X hP hi_63 dX8_readRule_147 ?_
          refine lv_if_eq (tgt := 194) hx hb dX8_readRule_148 (by decide) (fun c_64 => ?_) (fun c_64 => ?_)
          · have hm := (if_pos c_64).symm.trans hm
            refine lv_aload_n hx hb dX8_readRule_194 rfl (lv_at hl 2 rfl) ?_
            refine lv_iconst (v := 4) hx hb dX8_readRule_195 (by decide) ?_
            refine lv_aload_n hx hb dX8_readRule_196 rfl (lv_at hl 2 rfl) ?_
            refine gM_size X hP dX8_readRule_197 ?_
            obtain ⟨q_65, e_65, hm⟩ := bd1_s hm
            refine goV_v (n := 2) (C := RX8) X (cM_fail e_65) (gV kw927 kw929 ks_yX8_fail kw9 kw930) (by decide +kernel) ⟨by decide, by decide⟩ (rcM hK hP) hP (dM hD) hS rfl rfl hl.1 (Nat.le_of_ble_eq_true rfl) dX8_readRule_200 ⟨Nat.le_refl _, Nat.le_refl _⟩ (fun H locs hP _ hS => ?_)
            exact ret_v (wf := wM G a) X hm hP hS dX8_readRule_203
          · have hm := (if_neg c_64).symm.trans hm
            refine lv_aload_n hx hb dX8_readRule_151 rfl (lv_at hl 2 rfl) ?_
            refine gM_has X hP dX8_readRule_152 ?_
            refine lv_iconst (v := 2) hx hb dX8_readRule_155 (by decide) ?_
            obtain ⟨hi_66, hm⟩ := gi_s hm
            refine ldM_has X hP hi_66 dX8_readRule_156 ?_
            refine lv_if_eq (tgt := 169) hx hb dX8_readRule_157 (by decide) (fun c_67 => ?_) (fun c_67 => ?_)
            · have hm := (if_pos c_67).symm.trans hm
              exact bkM_readRule_169 X hD hm hP hS (lv_sub hl [2, 1, 0] rfl)
            · have hm := (if_neg c_67).symm.trans hm
              refine lv_aload_n hx hb dX8_readRule_160 rfl (lv_at hl 2 rfl) ?_
              refine gM_has X hP dX8_readRule_161 ?_
              refine lv_iconst (v := 3) hx hb dX8_readRule_164 (by decide) ?_
              obtain ⟨hi_68, hm⟩ := gi_s hm
              refine ldM_has X hP hi_68 dX8_readRule_165 ?_
              refine lv_if_ne (tgt := 194) hx hb dX8_readRule_166 (by decide) (fun c_69 => ?_) (fun c_69 => ?_)
              · have hm := (if_neg c_69).symm.trans hm
                refine lv_aload_n hx hb dX8_readRule_194 rfl (lv_at hl 2 rfl) ?_
                refine lv_iconst (v := 4) hx hb dX8_readRule_195 (by decide) ?_
                refine lv_aload_n hx hb dX8_readRule_196 rfl (lv_at hl 2 rfl) ?_
                refine gM_size X hP dX8_readRule_197 ?_
                obtain ⟨q_70, e_70, hm⟩ := bd1_s hm
                refine goV_v (n := 2) (C := RX8) X (cM_fail e_70) (gV kw927 kw929 ks_yX8_fail kw9 kw930) (by decide +kernel) ⟨by decide, by decide⟩ (rcM hK hP) hP (dM hD) hS rfl rfl hl.1 (Nat.le_of_ble_eq_true rfl) dX8_readRule_200 ⟨Nat.le_refl _, Nat.le_refl _⟩ (fun H locs hP _ hS => ?_)
                exact ret_v (wf := wM G a) X hm hP hS dX8_readRule_203
              · have hm := (if_pos c_69).symm.trans hm
                exact bkM_readRule_169 X hD hm hP hS (lv_sub hl [2, 1, 0] rfl)
set_option maxHeartbeats 4000000 in
set_option maxRecDepth 100000 in
theorem cM_readRule {l : Launch} {G : Ev} {a : Nat → Nat} {n : Nat} {q : Pc3} {q' : Pc3} (hm : moM_readRule n q = some q') : CtV l G yX8_readRule cX8_readRule 3 none 6 138 0 0 [.ref (a 0)] (wM G a q) (wM G a q') := by
  intro sz
  refine enter (by decide) (Nat.le_of_ble_eq_true rfl) ?_
  intro p e s m args below meth c ls X hsz hP hD hS hl
  subst hsz
  obtain ⟨⟨hx, hb, hml, hown, hts⟩, hK, hr, hlk, hA, hAs, hSta⟩ := id X
  have hl : lv_has ls 3 [(0, .ref (a 0))] := hl
  unfold moM_readRule at hm
  refine lv_aload_n hx hb dX8_readRule_0 rfl (lv_at hl 0 rfl) ?_
  obtain ⟨q_1, e_1, hm⟩ := bd1_s hm
  refine goV_v (n := 0) (C := RX8) X (cM_forget e_1) (gV kw893 kw895 ks_yX8_forget kw9 kw896) (by decide +kernel) ⟨by decide, by decide⟩ (rcM hK hP) hP (dM hD) hS rfl rfl hl.1 (Nat.le_of_ble_eq_true rfl) dX8_readRule_1 ⟨Nat.le_refl _, Nat.le_refl _⟩ (fun H locs hP _ hS => ?_)
  refine lv_aload_n hx hb dX8_readRule_4 rfl (lv_at hl 0 rfl) ?_
  obtain ⟨q_2, e_2, hm⟩ := bd1_s hm
  refine goV_v (n := 0) (C := RX8) X (cM_part e_2) (gV kw898 kw900 ks_yX8_part kw9 kw901) (by decide +kernel) ⟨by decide, by decide⟩ (rcM hK hP) hP (dM hD) hS rfl rfl hl.1 (Nat.le_of_ble_eq_true rfl) dX8_readRule_5 ⟨Nat.le_refl _, Nat.le_refl _⟩ (fun H locs hP _ hS => ?_)
  refine lpM_readRule_8 X hD (fun q_9 H locs ls hm hP hS hl => ?_) n _ _ _ _ hm hP hS (lv_sub hl [0] rfl)
  refine lv_aload_n hx hb dX8_readRule_68 rfl (lv_at hl 0 rfl) ?_
  refine gM_numbered X hP dX8_readRule_69 ?_
  refine lv_if_eq (tgt := 96) hx hb dX8_readRule_72 (by decide) (fun c_10 => ?_) (fun c_10 => ?_)
  · have hm := (if_pos c_10).symm.trans hm
    refine lv_iconst (v := 0) hx hb dX8_readRule_96 (by decide) ?_
    exact bkM_readRule_97 X hD hm hP hS (lv_sub hl [0] rfl)
  · have hm := (if_neg c_10).symm.trans hm
    refine lv_aload_n hx hb dX8_readRule_75 rfl (lv_at hl 0 rfl) ?_
    refine gM_freq X hP dX8_readRule_76 ?_
    refine lv_iconst (v := 2) hx hb dX8_readRule_79 (by decide) ?_
    refine lv_icmp_lt (tgt := 92) hx hb dX8_readRule_80 (by decide) (fun c_71 => ?_) (fun c_71 => ?_)
    · have hm := (if_pos c_71).symm.trans hm
      refine lv_iconst (v := 1) hx hb dX8_readRule_92 (by decide) ?_
      refine lv_goto (tgt := 97) hx hb dX8_readRule_93 (by decide) ?_
      exact bkM_readRule_97 X hD hm hP hS (lv_sub hl [0] rfl)
    · have hm := (if_neg c_71).symm.trans hm
      refine lv_aload_n hx hb dX8_readRule_83 rfl (lv_at hl 0 rfl) ?_
      refine gM_has X hP dX8_readRule_84 ?_
      refine lv_iconst (v := 5) hx hb dX8_readRule_87 (by decide) ?_
      obtain ⟨hi_72, hm⟩ := gi_s hm
      refine ldM_has X hP hi_72 dX8_readRule_88 ?_
      refine lv_if_eq (tgt := 96) hx hb dX8_readRule_89 (by decide) (fun c_73 => ?_) (fun c_73 => ?_)
      · have hm := (if_pos c_73).symm.trans hm
        refine lv_iconst (v := 0) hx hb dX8_readRule_96 (by decide) ?_
        exact bkM_readRule_97 X hD hm hP hS (lv_sub hl [0] rfl)
      · have hm := (if_neg c_73).symm.trans hm
        refine lv_iconst (v := 1) hx hb dX8_readRule_92 (by decide) ?_
        refine lv_goto (tgt := 97) hx hb dX8_readRule_93 (by decide) ?_
        exact bkM_readRule_97 X hD hm hP hS (lv_sub hl [0] rfl)
