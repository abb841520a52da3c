theorem kw23 : Cond.classLink "RuledCalendarLaw" 8 "RuledCalendar" ∈ big := mb 23 (by decide +kernel) (by decide +kernel)
theorem kw24 : Cond.instantiable "RuledCalendar" 10 ∈ big := mb 24 (by decide +kernel) (by decide +kernel)
theorem kw25 : Cond.methodLink "RuledCalendarLaw" 63 ({ cls := "RuledCalendar", name := "<init>", desc := "()V" } : MethodName) ∈ big := mb 25 (by decide +kernel) (by decide +kernel)
theorem kw26 : Cond.instanceMethod ({ cls := "RuledCalendar", name := "<init>", desc := "()V" } : MethodName) ∈ big := mb 26 (by decide +kernel) (by decide +kernel)
set_option maxRecDepth 20000 in
theorem kw27 : Cond.code yX7_init cX7_init 1 none ∈ big := mb 27 rfl (by decide +kernel)
theorem kw773 : Cond.classLink "RuledCalendarLaw" 64 "RuledCalendarModel" ∈ big := mb 773 (by decide +kernel) (by decide +kernel)
theorem kw774 : Cond.instantiable "RuledCalendarModel" 26 ∈ big := mb 774 (by decide +kernel) (by decide +kernel)
theorem kw775 : Cond.methodLink "RuledCalendarLaw" 66 ({ cls := "RuledCalendarModel", name := "<init>", desc := "()V" } : MethodName) ∈ big := mb 775 (by decide +kernel) (by decide +kernel)
theorem kw776 : Cond.instanceMethod ({ cls := "RuledCalendarModel", name := "<init>", desc := "()V" } : MethodName) ∈ big := mb 776 (by decide +kernel) (by decide +kernel)
set_option maxRecDepth 20000 in
theorem kw777 : Cond.code yX8_init cX8_init 5 none ∈ big := mb 777 rfl (by decide +kernel)
/-! From the law's entry to its loop. -/
theorem tls_z {G : Ev} {a : Nat → Nat} : tls G a qz = [] := by
  unfold tls
  simp [tC, qz]
set_option maxHeartbeats 4000000 in
set_option maxRecDepth 100000 in
theorem law_start {p : Program} {e : Env} {s : State} {m : MethodId} {below : List Frame} {meth : Method} {c : Code} (l : Launch) (hst : l.stackTraces = false) {b L : Nat} {xs : Nat → Int32} (hL : L ≤ 2048) (C0 : lw_At p s m meth c b L xs) {n : Nat} {qd qr : Pc4} {qm0 : Pc3} {I : Pc3 → Pc4 → Pc4 → Prop} (hd9 : moQ0_init n qz = some qd) (hr9 : moQR_forget n qzR = some qr) (h29 : qr.2.2.2 2 = 0) (hM : moM_init n qM0 = some qm0) (hI : I qm0 qz (qI qd qr)) (hsim : Sim n I) :
    W p l e room_1 s m #[Value.ref b] below meth c s.heap [] 0 0 (lw_Z below #[Value.ref b] s) (entryFrame m ([Value.ref b] : List Value).toArray 8) := by
  obtain ⟨hx, hb, hr, hml, hown, hts, hX, hbl, hlocks, hgv⟩ := id C0
  obtain ⟨G, hK, h0, hSta, hStx, hNc⟩ := sta_start hts hgv
  have hbig : ∀ w : Cond, w ∈ Cond.initialized "RuledCalendarLaw" :: big → w ∈ lw_tbl := fun w hw => (List.mem_cons.mp hw).elim (fun e => e ▸ (by decide +kernel)) (fun h => (List.mem_filter.mp h).1)
  have X : CX p s m #[Value.ref b] meth c code 8 ret RL (.initialized "RuledCalendarLaw") G (lA s) := ⟨⟨hx, hb, hml, hown, fun w hw => hts w (hbig w hw)⟩, hK, hr, hlocks, fun q h => h, fun q h => by rw [h0]; exact h, hSta⟩
  have X0 : LX p l s m #[Value.ref b] meth c G b L xs := ⟨X, hStx, hNc, hX, hbl, hst, hL⟩
  have hts9 : ∀ w : Cond, w ∈ big → w.before #[Value.ref b] s = true := fun w hw => hts w (List.mem_filter.mp hw).1
  have hS : va_S (lA s) s.heap s.heap [] := va_S.rf
  have hP : va_P (DD G) vwCl [] s.heap := va_nil
  have hD : va_D (lA s) [] := va_dnil
  have hl := lv_entry ([.ref b]) (n := 8) (Nat.le_of_ble_eq_true rfl)
  rw [lg_entry_eq]
  generalize (lg_sl ([.ref b]) ++ List.replicate (8 - (lg_sl ([.ref b])).length) Slot.unset).toArray = ls at hl ⊢
  have hl : lv_has ls 8 [(0, .ref b)] := hl
  refine va_new (ci := 5) (fs := [.null, .int 0, .null, .null, .null, .null, .null, .null, .int 0, .null]) (C := RX7) (T := TX7) (N := 10) hx hb X.1.2.2.2.2 inX7_u tyX7 tyX7_ok hown (hts9 _ kw23) (hts9 _ kw24) (hts9 _ kw1) hK hP hD hS X.2.2.2.2.1 rfl (fun j hj => by rcases (show j = 0 ∨ j = 1 ∨ j = 2 ∨ j = 3 ∨ j = 4 ∨ j = 5 ∨ j = 6 ∨ j = 7 ∨ j = 8 ∨ j = 9 by omega) with rfl | rfl | rfl | rfl | rfl | rfl | rfl | rfl | rfl | rfl <;> rfl) (by decide) (by decide) dL_law_0 (fun o1 H hP hD hS => ?_)
  refine W.widen (k := 1) (n := 10) (by decide) (by decide) ?_
  refine lv_dup hx hb dL_law_3 rfl ?_
  refine goI_end (n := 0) (ws := []) X (cQ7_init (o := o1) hd9 hr9 h29) kw25 kw26 kw1 kw27 rfl (by decide +kernel) ⟨by decide, by decide⟩ hP hD hS rfl rfl hl.1 (Nat.le_of_ble_eq_true rfl) dL_law_4 ⟨by decide, by decide⟩ (fun a1 H locs hP hD hS => ?_)
  refine W.widen (k := 16) (n := 5268) (by decide) (by decide) ?_
  have hP : va_P (DD G) vwCl (wC0 G (a0u a1 o1) (qI qd qr)) H := hP
  have hD : va_D (lA s) (wC0 G (a0u a1 o1) (qI qd qr)) := hD
  refine lv_astore_n (lv' := [(1, .ref o1), (0, .ref b)]) hx hb dL_law_7 rfl hl (by decide) rfl (fun ls hl => ?_)
  refine va_new (ci := 6) (fs := [.int 0, .null, .null, .null, .int 0, .int 0, .int 0, .int 0, .null, .int 0, .int 0, .int 0, .int 0, .null, .null, .null, .null, .int 0, .int 0, .null, .null, .null, .null, .null, .null, .int 0]) (C := RX8) (T := TX8) (N := 26) hx hb X.1.2.2.2.2 inM tyX8 tyX8_ok hown (hts9 _ kw773) (hts9 _ kw774) (hts9 _ kw9) hK hP hD hS X.2.2.2.2.1 rfl (fun j hj => by rcases (show j = 0 ∨ j = 1 ∨ j = 2 ∨ j = 3 ∨ j = 4 ∨ j = 5 ∨ j = 6 ∨ j = 7 ∨ j = 8 ∨ j = 9 ∨ j = 10 ∨ j = 11 ∨ j = 12 ∨ j = 13 ∨ j = 14 ∨ j = 15 ∨ j = 16 ∨ j = 17 ∨ j = 18 ∨ j = 19 ∨ j = 20 ∨ j = 21 ∨ j = 22 ∨ j = 23 ∨ j = 24 ∨ j = 25 by omega) with rfl | rfl | rfl | rfl | rfl | rfl | rfl | rfl | rfl | rfl | rfl | rfl | rfl | rfl | rfl | rfl | rfl | rfl | rfl | rfl | rfl | rfl | rfl | rfl | rfl | rfl <;> rfl) (by decide) (by decide) dL_law_8 (fun o2 H hP hD hS => ?_)
  refine W.widen (k := 17) (n := 5294) (by decide) (by decide) ?_
  refine lv_dup hx hb dL_law_11 rfl ?_
  refine goI_end (n := 0) (ws := wC0 G (a0u a1 o1) (qI qd qr)) X (cM_init (o := o2) hM) kw775 kw776 kw9 kw777 rfl (by decide +kernel) ⟨by decide, by decide⟩ hP hD hS rfl rfl hl.1 (Nat.le_of_ble_eq_true rfl) dL_law_12 ⟨by decide, by decide⟩ (fun b1 H locs hP hD hS => ?_)
  refine W.widen (k := 31) (n := 240623) (by decide) (by decide) ?_
  refine lv_astore_n (lv' := [(2, .ref o2), (1, .ref o1), (0, .ref b)]) hx hb dL_law_15 rfl hl (by decide) rfl (fun ls hl => ?_)
  refine lv_iconst (v := 1) hx hb dL_law_16 (by decide) ?_
  refine newJ (N := 1) X kw126 hP hD hS (by decide) (by decide) (by decide) (by decide) (by decide) dL_law_17 (fun o H hP hD hS => ?_)
  refine W.widen (k := 32) (n := 240624) (by decide) (by decide) ?_
  refine lv_astore_n (lv' := [(3, .ref o), (2, .ref o2), (1, .ref o1), (0, .ref b)]) hx hb dL_law_19 rfl hl (by decide) rfl (fun ls hl => ?_)
  refine lv_iconst (v := 0) hx hb dL_law_20 (by decide) ?_
  refine lv_istore (lv' := [(4, .int 0), (3, .ref o), (2, .ref o2), (1, .ref o1), (0, .ref b)]) hx hb dL_law_21 hl (by decide) rfl (fun ls hl => ?_)
  have ew : WW G (a0u b1 o2) qm0 (a0u a1 o1) qz (qI qd qr) o (fun _ => 0) = (wC0 G (a0u a1 o1) (qI qd qr) ++ [(o, .inl (cA G 3, 1, .inr (.inl (fun _ => 0))))]) ++ wM G (a0u b1 o2) qm0 := by
    unfold WW wL wZ
    rw [tls_z, List.append_nil]
    rfl
  have hP : va_P (DD G) vwCl (WW G (a0u b1 o2) qm0 (a0u a1 o1) qz (qI qd qr) o (fun _ => 0)) H := by rw [ew]; exact va_P.swap hP
  have hD : va_D (lA s) (WW G (a0u b1 o2) qm0 (a0u a1 o1) qz (qI qd qr) o (fun _ => 0)) := by rw [ew]; exact va_D.swap hD
  refine W.widen (k := 100 + 5 * 0) (n := 300000 + 10810 * 0) (by decide) (by decide) ?_
  exact law_loop (b := a0u b1 o2) hsim X0 o1 L 0 (by omega) (by omega) (a0u a1 o1) qm0 qz (qI qd qr) (fun _ => 0) H locs ls rfl hI hP hD hS (lv_sub hl [0, 4, 3, 2, 1] rfl)
