/-! The calendar's world with the things' picture held apart (z): for methods that leave the things alone. -/
def wZ (G : Ev) (a : Nat → Nat) (z : Pc4) (q : Pc4) : va_W := wC0 G a q ++ tls G a z
theorem dZ {A : Nat → Prop} {G : Ev} {a : Nat → Nat} {z q q1 : Pc4} (h : va_D A (wZ G a z q)) : va_D A (wZ G a z q1) := by
  refine va_D_same (ws := wZ G a z q) ?_ h
  unfold wZ
  rw [fs_app, fs_app]
  rfl
theorem tls_split {G : Ev} {a : Nat → Nat} {z : Pc4} {k : Nat} (hk : k < 12) (hm : ¬ z.2.1 15 k = 0) : ∃ X Y : va_W, tls G a z = X ++ (wT G a k z ++ Y) := by
  obtain ⟨l1, l2, he, -⟩ := range_split hk
  refine ⟨l1.flatMap (tC G a z), l2.flatMap (tC G a z), ?_⟩
  unfold tls
  rw [he, List.flatMap_append, List.flatMap_append]
  simp only [List.flatMap_cons, List.flatMap_nil, List.append_nil]
  rw [show tC G a z k = wT G a k z from if_neg hm]
theorem wZ_split {G : Ev} {a : Nat → Nat} {z q : Pc4} {k : Nat} (hk : k < 12) (hm : ¬ z.2.1 15 k = 0) : ∃ X Y : va_W, wZ G a z q = X ++ (wT G a k z ++ Y) := by
  obtain ⟨X, Y, e⟩ := tls_split (G := G) (a := a) hk hm
  exact ⟨wC0 G a q ++ X, Y, by unfold wZ; rw [e, List.append_assoc]⟩
theorem zP {G : Ev} {a : Nat → Nat} {z q : Pc4} {k : Nat} {H : Heap} (hk : k < 12) (hm : ¬ z.2.1 15 k = 0) (hP : va_P (DD G) vwCl (wZ G a z q) H) : va_P (DD G) vwCl (wT G a k z) H := by
  obtain ⟨X, Y, e⟩ := wZ_split (G := G) (a := a) (q := q) hk hm
  rw [e] at hP; exact mid_P hP
theorem zD {G : Ev} {a : Nat → Nat} {z q : Pc4} {k : Nat} {A : Nat → Prop} (hk : k < 12) (hm : ¬ z.2.1 15 k = 0) (hD : va_D A (wZ G a z q)) : va_D A (wT G a k z) := by
  obtain ⟨X, Y, e⟩ := wZ_split (G := G) (a := a) (q := q) hk hm
  rw [e] at hD; exact mid_D hD
theorem zB {G : Ev} {a : Nat → Nat} {z q : Pc4} {k : Nat} {A : Nat → Prop} {H H1 : Heap} (hk : k < 12) (hm : ¬ z.2.1 15 k = 0) (hP : va_P (DD G) vwCl (wZ G a z q) H) (hD : va_D A (wZ G a z q)) (hf : ∀ x : Nat, x < H.size → x ∉ fs (wT G a k z) → H1[x]? = H[x]?) (hP1 : va_P (DD G) vwCl (wT G a k z) H1) : va_P (DD G) vwCl (wZ G a z q) H1 := by
  obtain ⟨X, Y, e⟩ := wZ_split (G := G) (a := a) (q := q) hk hm
  rw [e] at hP hD ⊢
  exact mid_B hP hD hf rfl hP1
section
variable {p : Program} {l : Launch} {e : Env} {R : Room} {s : State} {m : MethodId} {args : Array Value} {below : List Frame} {meth : Method} {c : Code} {H : Heap} {locs : List Loc} {cells slots : Nat} {Q : State → Prop} {cc : ByteArray} {nL : Nat} {rt : Option FieldType} {c0 : Cond} {G : Ev} {pc : Nat} {ls : Array Slot} {rest : List Value} {A : Nat → Prop} {a : Nat → Nat} {q z : Pc4} {T : va_W} {own : String} {idx κ : Nat}
theorem gT_ruled (X : CX p s m args meth c cc nL rt own c0 G A) (hk : Cond.fieldLink own idx "RuledCalendar$Thing" "ruled" "[I" ∈ big) (hP : va_P (DD G) vwCl (wT G a κ q) H) (hdg : decode cc pc = .ok (.getfield idx, 3)) (kk : W p l e R s m args below meth c H locs cells slots Q (F0 m (pc + 3) ls (.ref (a (101 + 4 * κ)) :: rest))) : W p l e R s m args below meth c H locs cells slots Q (F0 m pc ls (.ref (a (100 + 4 * κ)) :: rest)) :=
  va_get (D := DD G) (ci := 4) (v := .ref (a (101 + 4 * κ))) (C := RX6) (T := TX6) (N := 4) X.1.1 X.1.2.1 X.1.2.2.2.2 inX6_u X.1.2.2.2.1 X.2.1 hP 0 rfl rfl 0 (by decide) (X.1.2.2.2.2 _ (List.mem_cons_of_mem _ hk)) (fun _ h => h) rfl hdg kk
theorem gT_extras (X : CX p s m args meth c cc nL rt own c0 G A) (hk : Cond.fieldLink own idx "RuledCalendar$Thing" "extras" "[I" ∈ big) (hP : va_P (DD G) vwCl (wT G a κ q) H) (hdg : decode cc pc = .ok (.getfield idx, 3)) (kk : W p l e R s m args below meth c H locs cells slots Q (F0 m (pc + 3) ls (.ref (a (102 + 4 * κ)) :: rest))) : W p l e R s m args below meth c H locs cells slots Q (F0 m pc ls (.ref (a (100 + 4 * κ)) :: rest)) :=
  va_get (D := DD G) (ci := 4) (v := .ref (a (102 + 4 * κ))) (C := RX6) (T := TX6) (N := 4) X.1.1 X.1.2.1 X.1.2.2.2.2 inX6_u X.1.2.2.2.1 X.2.1 hP 0 rfl rfl 1 (by decide) (X.1.2.2.2.2 _ (List.mem_cons_of_mem _ hk)) (fun _ h => h) rfl hdg kk
theorem gT_exceptions (X : CX p s m args meth c cc nL rt own c0 G A) (hk : Cond.fieldLink own idx "RuledCalendar$Thing" "exceptions" "[I" ∈ big) (hP : va_P (DD G) vwCl (wT G a κ q) H) (hdg : decode cc pc = .ok (.getfield idx, 3)) (kk : W p l e R s m args below meth c H locs cells slots Q (F0 m (pc + 3) ls (.ref (a (103 + 4 * κ)) :: rest))) : W p l e R s m args below meth c H locs cells slots Q (F0 m pc ls (.ref (a (100 + 4 * κ)) :: rest)) :=
  va_get (D := DD G) (ci := 4) (v := .ref (a (103 + 4 * κ))) (C := RX6) (T := TX6) (N := 4) X.1.1 X.1.2.1 X.1.2.2.2.2 inX6_u X.1.2.2.2.1 X.2.1 hP 0 rfl rfl 2 (by decide) (X.1.2.2.2.2 _ (List.mem_cons_of_mem _ hk)) (fun _ h => h) rfl hdg kk
theorem gT_live (X : CX p s m args meth c cc nL rt own c0 G A) (hk : Cond.fieldLink own idx "RuledCalendar$Thing" "live" "Z" ∈ big) (hP : va_P (DD G) vwCl (wT G a κ q) H) (hdg : decode cc pc = .ok (.getfield idx, 3)) (kk : W p l e R s m args below meth c H locs cells slots Q (F0 m (pc + 3) ls (.int (r4S q (100 + 4 * κ)) :: rest))) : W p l e R s m args below meth c H locs cells slots Q (F0 m pc ls (.ref (a (100 + 4 * κ)) :: rest)) :=
  va_get (D := DD G) (ci := 4) (v := .int (r4S q (100 + 4 * κ))) (C := RX6) (T := TX6) (N := 4) X.1.1 X.1.2.1 X.1.2.2.2.2 inX6_u X.1.2.2.2.1 X.2.1 hP 0 rfl rfl 3 (by decide) (X.1.2.2.2.2 _ (List.mem_cons_of_mem _ hk)) (fun _ h => h) rfl hdg kk
theorem wT_S {v : Int32} : wT G a κ (s4S q (100 + 4 * κ) v) = [(a (100 + 4 * κ), .inr (4, [.ref (a (101 + 4 * κ)), .ref (a (102 + 4 * κ)), .ref (a (103 + 4 * κ)), .int v])), (a (101 + 4 * κ), cRow G (q.2.1 (101 + 4 * κ))), (a (102 + 4 * κ), cRow G (q.2.1 (102 + 4 * κ))), (a (103 + 4 * κ), cRow G (q.2.1 (103 + 4 * κ)))] := by
  unfold wT s4S
  dsimp only
  rw [show upd q.1 (100 + 4 * κ) v (100 + 4 * κ) = v from if_pos rfl]
theorem pT_live (X : CX p s m args meth c cc nL rt own c0 G A) (hk : Cond.fieldLink own idx "RuledCalendar$Thing" "live" "Z" ∈ big) {v : Int32} (hn : narrow .boolean (.int v) = .int v) (hP : va_P (DD G) vwCl (wT G a κ q) H) (hD : va_D A (wT G a κ q)) (hS : va_S A s.heap H locs) (hdg : decode cc pc = .ok (.putfield idx, 3)) (kk : ∀ (H1 : Heap) (locs1 : List Loc), va_P (DD G) vwCl (wT G a κ (s4S q (100 + 4 * κ) v)) H1 → va_S A s.heap H1 locs1 → W p l e R s m args below meth c H1 locs1 cells slots Q (F0 m (pc + 3) ls rest)) : W p l e R s m args below meth c H locs cells slots Q (F0 m pc ls (.int v :: .ref (a (100 + 4 * κ)) :: rest)) :=
  va_put (D := DD G) (ci := 4) (v := .int v) (ty := .boolean) (C := RX6) (T := TX6) (N := 4) X.1.1 X.1.2.1 X.1.2.2.2.2 inX6_u tyX6 tyX6_ok nmX6 X.1.2.2.2.1 X.2.1 hP hD hS 0 rfl rfl 3 (by decide) (X.1.2.2.2.2 _ (List.mem_cons_of_mem _ hk)) (fun _ h => h) rfl (by decide +kernel) hn (zfit hn) (Nat.le_of_ble_eq_true rfl) hdg (fun H1 locs1 hP1 _ hS1 => kk H1 locs1 (by rw [wT_S]; exact hP1) hS1)
theorem wT_F1 {f : Nat → Int32} : wT G a κ (s4F q (101 + 4 * κ) f) = (wT G a κ q).set 1 (a (101 + 4 * κ), cRow G f) := by
  unfold wT s4F
  dsimp only
  rw [va_up_self, va_up_ne _ _ (show 102 + 4 * κ ≠ 101 + 4 * κ by omega), va_up_ne _ _ (show 103 + 4 * κ ≠ 101 + 4 * κ by omega)]
  rfl
theorem wT_F2 {f : Nat → Int32} : wT G a κ (s4F q (102 + 4 * κ) f) = (wT G a κ q).set 2 (a (102 + 4 * κ), cRow G f) := by
  unfold wT s4F
  dsimp only
  rw [va_up_self, va_up_ne _ _ (show 101 + 4 * κ ≠ 102 + 4 * κ by omega), va_up_ne _ _ (show 103 + 4 * κ ≠ 102 + 4 * κ by omega)]
  rfl
theorem wT_F3 {f : Nat → Int32} : wT G a κ (s4F q (103 + 4 * κ) f) = (wT G a κ q).set 3 (a (103 + 4 * κ), cRow G f) := by
  unfold wT s4F
  dsimp only
  rw [va_up_self, va_up_ne _ _ (show 101 + 4 * κ ≠ 103 + 4 * κ by omega), va_up_ne _ _ (show 102 + 4 * κ ≠ 103 + 4 * κ by omega)]
  rfl
theorem ldZ_things (X : CX p s m args meth c cc nL rt own c0 G A) (hP : va_P (DD G) vwCl (wC0 G a q ++ T) H) {i : Int32} (hin : vp_in i 12) (hdg : decode cc pc = .ok (.aaload, 1)) (kn : q.2.1 15 i.toNatClampNeg = 0 → W p l e R s m args below meth c H locs cells slots Q (F0 m (pc + 1) ls (.null :: rest))) (ks : ¬ q.2.1 15 i.toNatClampNeg = 0 → W p l e R s m args below meth c H locs cells slots Q (F0 m (pc + 1) ls (.ref (a (100 + 4 * i.toNatClampNeg)) :: rest))) : W p l e R s m args below meth c H locs cells slots Q (F0 m pc ls (.int i :: .ref (a 11) :: rest)) := by
  refine va_aldq (C := "RuledCalendar$Thing") X.1.1 X.1.2.1 X.2.1 hP 11 5 rfl rfl hin hdg ?_
  by_cases h : q.2.1 15 i.toNatClampNeg = 0
  · have e9 : va_rf (thF a q i.toNatClampNeg) = .null := by simp [thF, h, va_rf]
    rw [e9]; exact kn h
  · have e9 : va_rf (thF a q i.toNatClampNeg) = .ref (a (100 + 4 * i.toNatClampNeg)) := by simp [thF, h, va_rf]
    rw [e9]; exact ks h
theorem rc_T (hK : va_K (DD G) vwCl (TY G) s) (hP : va_P (DD G) vwCl (wT G a κ q) H) : ∃ cell : Cell, H[a (100 + 4 * κ)]? = some cell ∧ cell.vm.isStatics = false ∧ s.vm.findClass RX6 = some cell.cls := va_recv hK hP (ci := 4) (q0 := 0) rfl rfl
end
