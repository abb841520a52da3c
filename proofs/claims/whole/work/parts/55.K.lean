theorem kw493 : Cond.fieldLink "RuledCalendar" 115 "RuledCalendar$Thing" "extras" "[I" ∈ big := mb 493 (by decide +kernel) (by decide +kernel)
theorem kw495 : Cond.fieldLink "RuledCalendar" 108 "RuledCalendar$Thing" "exceptions" "[I" ∈ big := mb 495 (by decide +kernel) (by decide +kernel)
theorem kw656 : Cond.methodLink "RuledCalendar" 111 ({ cls := "RuledCalendar$Thing", name := "mark", desc := "([IIZ)Z" } : MethodName) ∈ big := mb 656 (by decide +kernel) (by decide +kernel)
theorem kw657 : Cond.static ({ cls := "RuledCalendar$Thing", name := "mark", desc := "([IIZ)Z" } : MethodName) ∈ big := mb 657 (by decide +kernel) (by decide +kernel)
set_option maxRecDepth 20000 in
theorem kw658 : Cond.code yX6_mark cX6_mark 6 (some .boolean) ∈ big := mb 658 rfl (by decide +kernel)
theorem va_P_mid {D : va_G} {cl : List vw_C} {ws : va_W} {H : Heap} {x : Nat × va_E} (h : va_P D cl ws H) (i : Nat) (hi : ws[i]? = some x) : va_P D cl [x] H := by
  intro k q hq
  match k, hq with
  | 0, hq => cases hq; exact h i x hi
theorem va_D_mid {A : Nat → Prop} {ws : va_W} {x : Nat × va_E} (h : va_D A ws) (i : Nat) (hi : ws[i]? = some x) : va_D A [x] := by
  refine ⟨fun i j p q a b _ => ?_, fun k q hq => ?_⟩
  · match i, j, a, b with
    | 0, 0, _, _ => rfl
  · match k, hq with
    | 0, hq => cases hq; exact h.2 i x hi
def moQ7_drop (n : Nat) (z : Pc4) (x1 : Int32) (q : Pc4) : Option (Nat ⊕ Pc4) :=
  bx (moQ7_knownThing n z x1 q) fun k => gl k 12 (gz (z.2.1 15 k) (some (.inr (s4S z (100 + 4 * k) 0))))
set_option maxHeartbeats 4000000 in
set_option maxRecDepth 100000 in
theorem cQ7_drop {l : Launch} {G : Ev} {a : Nat → Nat} {z : Pc4} {n : Nat} {q : Pc4} {x1 : Int32} {res : Nat ⊕ Pc4} (hst : l.stackTraces = false) (hm : moQ7_drop n z x1 q = some res) : XtV l G yX7_drop cX7_drop 2 none 7 111 1 6 [.ref (a 0), .int x1] (wZ G a z q) (xW (fun z1 => wZ G a z1 q) (wZ G a z q) res) (xk res) := by
  intro sz
  refine enterX hst (by decide) (Nat.le_of_ble_eq_true rfl) ?_
  intro p e s m args below meth c ls XX hsz hP hD hS hl
  subst hsz
  have X := XX.1
  obtain ⟨⟨hx, hb, hml, hown, hts⟩, hK, hr, hlk, hA, hAs, hSta⟩ := id X
  have hl : lv_has ls 2 [(0, .ref (a 0)), (1, .int x1)] := hl
  unfold moQ7_drop at hm
  refine lv_aload_n hx hb dX7_drop_0 rfl (lv_at hl 0 rfl) ?_
  refine lv_iload_n hx hb dX7_drop_1 rfl (lv_at hl 1 rfl) ?_
  rcases bx_s hm with ⟨k_1, e_1, h_1⟩ | ⟨u_1, e_1, hm⟩
  · subst h_1
    exact xt_t (n := 1) (C := RX7) k_1 XX (cQ7_knownThing (a := a) XX.2.2.2 e_1) (gV kw630 kw632 ks_yX7_knownThing kw1 kw633) (by decide +kernel) ⟨by decide, by decide⟩ (rc_cal hK hP) rfl hP hD hS rfl rfl hl.1 (Nat.le_of_ble_eq_true rfl) dX7_drop_2 ⟨by decide, by decide⟩ (by decide) (by decide)
  · refine xt (n := 1) (C := RX7) (ad := fun k => a (100 + 4 * k)) (k := u_1) XX (cQ7_knownThing (a := a) XX.2.2.2 e_1) (gV kw630 kw632 ks_yX7_knownThing kw1 kw633) (by decide +kernel) ⟨by decide, by decide⟩ (rc_cal hK hP) hP hD hS rfl rfl hl.1 (Nat.le_of_ble_eq_true rfl) dX7_drop_2 ⟨by decide, by decide⟩ (fun H locs hP hS => ?_)
    refine W.widen (k := 1) (n := 6) (by decide) (by decide) ?_
    obtain ⟨hg_1, hm⟩ := gl_s hm
    obtain ⟨hz_1, hm⟩ := gz_s hm
    refine lv_iconst (v := 0) hx hb dX7_drop_5 (by decide) ?_
    refine pZ_live X kw497 (by decide) hg_1 hz_1 hP hD hS dX7_drop_6 (fun H locs hP hS => ?_)
    cases hm
    exact xret_v X rfl hP hS dX7_drop_9

def moQ7_except (n : Nat) (z : Pc4) (x1 : Int32) (x2 : Int32) (x3 : Int32) (q : Pc4) : Option (Nat ⊕ (Int32 × Pc4)) :=
  bx (moQ7_knownThing n z x1 q) fun k => bx (moQ7_requireDate n x2) fun _ => gl k 12 (gz (z.2.1 15 k) (bd2 (moQ6_mark n 3600 x2 x3 (z.2.1 (103 + 4 * k))) fun r f => gb r (some (.inr (r, s4F z (103 + 4 * k) f)))))
set_option maxHeartbeats 4000000 in
set_option maxRecDepth 100000 in
theorem cQ7_except {l : Launch} {G : Ev} {a : Nat → Nat} {z : Pc4} {n : Nat} {q : Pc4} {x1 x2 x3 : Int32} {res : Nat ⊕ (Int32 × Pc4)} (hst : l.stackTraces = false) (hm : moQ7_except n z x1 x2 x3 q = some res) : XtI l G yX7_except cX7_except 5 (some .boolean) 7 111 2 12 [.ref (a 0), .int x1, .int x2, .int x3] (wZ G a z q) (xW (fun x => wZ G a x.2 q) (wZ G a z q) res) (xm (fun x => x.1) res) := by
  intro sz
  refine enterX hst (by decide) (Nat.le_of_ble_eq_true rfl) ?_
  intro p e s m args below meth c ls XX hsz hP hD hS hl
  subst hsz
  have X := XX.1
  obtain ⟨⟨hx, hb, hml, hown, hts⟩, hK, hr, hlk, hA, hAs, hSta⟩ := id X
  have hl : lv_has ls 5 [(0, .ref (a 0)), (1, .int x1), (2, .int x2), (3, .int x3)] := hl
  unfold moQ7_except at hm
  refine lv_aload_n hx hb dX7_except_0 rfl (lv_at hl 0 rfl) ?_
  refine lv_iload_n hx hb dX7_except_1 rfl (lv_at hl 1 rfl) ?_
  rcases bx_s hm with ⟨k_1, e_1, h_1⟩ | ⟨u_1, e_1, hm⟩
  · subst h_1
    exact xt_t (n := 1) (C := RX7) k_1 XX (cQ7_knownThing (a := a) XX.2.2.2 e_1) (gV kw630 kw632 ks_yX7_knownThing kw1 kw633) (by decide +kernel) ⟨by decide, by decide⟩ (rc_cal hK hP) rfl hP hD hS rfl rfl hl.1 (Nat.le_of_ble_eq_true rfl) dX7_except_2 ⟨by decide, by decide⟩ (by decide) (by decide)
  · refine xt (n := 1) (C := RX7) (ad := fun k => a (100 + 4 * k)) (k := u_1) XX (cQ7_knownThing (a := a) XX.2.2.2 e_1) (gV kw630 kw632 ks_yX7_knownThing kw1 kw633) (by decide +kernel) ⟨by decide, by decide⟩ (rc_cal hK hP) hP hD hS rfl rfl hl.1 (Nat.le_of_ble_eq_true rfl) dX7_except_2 ⟨by decide, by decide⟩ (fun H locs hP hS => ?_)
    refine W.widen (k := 1) (n := 6) (by decide) (by decide) ?_
    refine lv_astore (lv' := [(4, .ref (a (100 + 4 * u_1))), (0, .ref (a 0)), (1, .int x1), (2, .int x2), (3, .int x3)]) hx hb dX7_except_5 hl (by decide) rfl (fun ls hl => ?_)
    refine lv_iload_n hx hb dX7_except_7 rfl (lv_at hl 3 rfl) ?_
    rcases bx_s hm with ⟨k_2, e_2, h_2⟩ | ⟨u_2, e_2, hm⟩
    · subst h_2
      exact xq_t (n := 1) k_2 XX (cQ7_requireDate XX.2.2.2 e_2) (gS kw309 kw310 kw1 kw311) (by decide +kernel) ⟨by decide, by decide⟩ rfl hP hS rfl rfl hl.1 (Nat.le_of_ble_eq_true rfl) dX7_except_8 ⟨by decide, by decide⟩ (by decide) (by decide)
    · refine xq (n := 1) XX (cQ7_requireDate XX.2.2.2 e_2) (gS kw309 kw310 kw1 kw311) (by decide +kernel) ⟨by decide, by decide⟩ hP hS rfl rfl hl.1 (Nat.le_of_ble_eq_true rfl) dX7_except_8 ⟨by decide, by decide⟩ (fun H locs hP hS => ?_)
      refine W.widen (k := 2) (n := 12) (by decide) (by decide) ?_
      obtain ⟨hg_1, hm⟩ := gl_s hm
      obtain ⟨hz_1, hm⟩ := gz_s hm
      obtain ⟨r_3, f_3, e_3, hm⟩ := bd2_s hm
      refine lv_aload hx hb dX7_except_11 (lv_at hl 0 rfl) ?_
      refine gT_exceptions X kw495 (zP hg_1 hz_1 hP) dX7_except_13 ?_
      refine lv_iload_n hx hb dX7_except_16 rfl (lv_at hl 3 rfl) ?_
      refine lv_iload_n hx hb dX7_except_17 rfl (lv_at hl 4 rfl) ?_
      refine goT_i (n := 3) X (cQ6_mark (a0 := a (103 + 4 * u_1)) e_3) (gSx kw656 kw657 kw20 kw658) (by decide +kernel) ⟨by decide, by decide⟩ (va_P_mid (zP hg_1 hz_1 hP) 3 rfl) (va_D_mid (zD hg_1 hz_1 hD) 3 rfl) hS rfl rfl hl.1 (Nat.le_of_ble_eq_true rfl) dX7_except_18 ⟨by decide, by decide⟩ (fun H locs hP1 hk hS => ?_)
      have hP := zM3 hg_1 hz_1 hP hD hk hP1
      obtain ⟨hb_1, hm⟩ := gb_s hm
      cases hm
      exact xret_z X hb_1 rfl hP hS dX7_except_21

def moQ7_besides (n : Nat) (z : Pc4) (x1 : Int32) (x2 : Int32) (x3 : Int32) (q : Pc4) : Option (Nat ⊕ (Int32 × Pc4)) :=
  bx (moQ7_knownThing n z x1 q) fun k => bx (moQ7_requireDate n x2) fun _ => gl k 12 (gz (z.2.1 15 k) (bd2 (moQ6_mark n 3600 x2 x3 (z.2.1 (102 + 4 * k))) fun r f => gb r (some (.inr (r, s4F z (102 + 4 * k) f)))))
set_option maxHeartbeats 4000000 in
set_option maxRecDepth 100000 in
theorem cQ7_besides {l : Launch} {G : Ev} {a : Nat → Nat} {z : Pc4} {n : Nat} {q : Pc4} {x1 x2 x3 : Int32} {res : Nat ⊕ (Int32 × Pc4)} (hst : l.stackTraces = false) (hm : moQ7_besides n z x1 x2 x3 q = some res) : XtI l G yX7_besides cX7_besides 5 (some .boolean) 7 111 2 12 [.ref (a 0), .int x1, .int x2, .int x3] (wZ G a z q) (xW (fun x => wZ G a x.2 q) (wZ G a z q) res) (xm (fun x => x.1) res) := by
  intro sz
  refine enterX hst (by decide) (Nat.le_of_ble_eq_true rfl) ?_
  intro p e s m args below meth c ls XX hsz hP hD hS hl
  subst hsz
  have X := XX.1
  obtain ⟨⟨hx, hb, hml, hown, hts⟩, hK, hr, hlk, hA, hAs, hSta⟩ := id X
  have hl : lv_has ls 5 [(0, .ref (a 0)), (1, .int x1), (2, .int x2), (3, .int x3)] := hl
  unfold moQ7_besides at hm
  refine lv_aload_n hx hb dX7_besides_0 rfl (lv_at hl 0 rfl) ?_
  refine lv_iload_n hx hb dX7_besides_1 rfl (lv_at hl 1 rfl) ?_
  rcases bx_s hm with ⟨k_1, e_1, h_1⟩ | ⟨u_1, e_1, hm⟩
  · subst h_1
    exact xt_t (n := 1) (C := RX7) k_1 XX (cQ7_knownThing (a := a) XX.2.2.2 e_1) (gV kw630 kw632 ks_yX7_knownThing kw1 kw633) (by decide +kernel) ⟨by decide, by decide⟩ (rc_cal hK hP) rfl hP hD hS rfl rfl hl.1 (Nat.le_of_ble_eq_true rfl) dX7_besides_2 ⟨by decide, by decide⟩ (by decide) (by decide)
  · refine xt (n := 1) (C := RX7) (ad := fun k => a (100 + 4 * k)) (k := u_1) XX (cQ7_knownThing (a := a) XX.2.2.2 e_1) (gV kw630 kw632 ks_yX7_knownThing kw1 kw633) (by decide +kernel) ⟨by decide, by decide⟩ (rc_cal hK hP) hP hD hS rfl rfl hl.1 (Nat.le_of_ble_eq_true rfl) dX7_besides_2 ⟨by decide, by decide⟩ (fun H locs hP hS => ?_)
    refine W.widen (k := 1) (n := 6) (by decide) (by decide) ?_
    refine lv_astore (lv' := [(4, .ref (a (100 + 4 * u_1))), (0, .ref (a 0)), (1, .int x1), (2, .int x2), (3, .int x3)]) hx hb dX7_besides_5 hl (by decide) rfl (fun ls hl => ?_)
    refine lv_iload_n hx hb dX7_besides_7 rfl (lv_at hl 3 rfl) ?_
    rcases bx_s hm with ⟨k_2, e_2, h_2⟩ | ⟨u_2, e_2, hm⟩
    · subst h_2
      exact xq_t (n := 1) k_2 XX (cQ7_requireDate XX.2.2.2 e_2) (gS kw309 kw310 kw1 kw311) (by decide +kernel) ⟨by decide, by decide⟩ rfl hP hS rfl rfl hl.1 (Nat.le_of_ble_eq_true rfl) dX7_besides_8 ⟨by decide, by decide⟩ (by decide) (by decide)
    · refine xq (n := 1) XX (cQ7_requireDate XX.2.2.2 e_2) (gS kw309 kw310 kw1 kw311) (by decide +kernel) ⟨by decide, by decide⟩ hP hS rfl rfl hl.1 (Nat.le_of_ble_eq_true rfl) dX7_besides_8 ⟨by decide, by decide⟩ (fun H locs hP hS => ?_)
      refine W.widen (k := 2) (n := 12) (by decide) (by decide) ?_
      obtain ⟨hg_1, hm⟩ := gl_s hm
      obtain ⟨hz_1, hm⟩ := gz_s hm
      obtain ⟨r_3, f_3, e_3, hm⟩ := bd2_s hm
      refine lv_aload hx hb dX7_besides_11 (lv_at hl 0 rfl) ?_
      refine gT_extras X kw493 (zP hg_1 hz_1 hP) dX7_besides_13 ?_
      refine lv_iload_n hx hb dX7_besides_16 rfl (lv_at hl 3 rfl) ?_
      refine lv_iload_n hx hb dX7_besides_17 rfl (lv_at hl 4 rfl) ?_
      refine goT_i (n := 3) X (cQ6_mark (a0 := a (102 + 4 * u_1)) e_3) (gSx kw656 kw657 kw20 kw658) (by decide +kernel) ⟨by decide, by decide⟩ (va_P_mid (zP hg_1 hz_1 hP) 2 rfl) (va_D_mid (zD hg_1 hz_1 hD) 2 rfl) hS rfl rfl hl.1 (Nat.le_of_ble_eq_true rfl) dX7_besides_18 ⟨by decide, by decide⟩ (fun H locs hP1 hk hS => ?_)
      have hP := zM2 hg_1 hz_1 hP hD hk hP1
      obtain ⟨hb_1, hm⟩ := gb_s hm
      cases hm
      exact xret_z X hb_1 rfl hP hS dX7_besides_21
