/-! drop, except, besides: the things' picture z changes. -/
theorem tls_split2 {G : Ev} {a : Nat → Nat} {z : Pc4} {k : Nat} (hk : k < 12) (hm : ¬ z.2.1 15 k = 0) : ∃ X Y : va_W, tls G a z = X ++ (wT G a k z ++ Y) ∧ ∀ z1 : Pc4, z1.2.1 15 k = z.2.1 15 k → (∀ j, j < 12 → j ≠ k → tC G a z1 j = tC G a z j) → tls G a z1 = X ++ (wT G a k z1 ++ Y) := by
  obtain ⟨l1, l2, he, h1, h2, h3, h4⟩ := range_split hk
  refine ⟨l1.flatMap (tC G a z), l2.flatMap (tC G a z), ?_, ?_⟩
  · unfold tls
    rw [he, List.flatMap_append, List.flatMap_append]
    simp only [List.flatMap_cons, List.flatMap_nil, List.append_nil]
    rw [show tC G a z k = wT G a k z from if_neg hm]
  · intro z1 e1 e2
    have cg : ∀ L : List Nat, (∀ j ∈ L, j < 12) → (∀ j ∈ L, j ≠ k) → L.flatMap (tC G a z1) = L.flatMap (tC G a z) := by
      intro L
      induction L with
      | nil => intro _ _; rfl
      | cons x L ih =>
        intro hL hn
        simp only [List.flatMap_cons]
        rw [e2 x (hL x List.mem_cons_self) (hn x List.mem_cons_self), ih (fun j hj => hL j (List.mem_cons_of_mem _ hj)) (fun j hj => hn j (List.mem_cons_of_mem _ hj))]
    unfold tls
    rw [he, List.flatMap_append, List.flatMap_append, cg l1 h3 h1, cg l2 h4 h2]
    simp only [List.flatMap_cons, List.flatMap_nil, List.append_nil]
    rw [show tC G a z1 k = wT G a k z1 from if_neg (by rw [e1]; exact hm)]
theorem zU {G : Ev} {a : Nat → Nat} {z z1 q : Pc4} {k : Nat} {A : Nat → Prop} {H H1 : Heap} (hk : k < 12) (hm : ¬ z.2.1 15 k = 0) (hP : va_P (DD G) vwCl (wZ G a z q) H) (hD : va_D A (wZ G a z q)) (hf : ∀ x : Nat, x < H.size → x ∉ fs (wT G a k z) → H1[x]? = H[x]?) (hP1 : va_P (DD G) vwCl (wT G a k z1) H1)
    (e1 : z1.2.1 15 k = z.2.1 15 k) (e2 : ∀ j, j < 12 → j ≠ k → tC G a z1 j = tC G a z j) : va_P (DD G) vwCl (wZ G a z1 q) H1 := by
  obtain ⟨X, Y, e, h⟩ := tls_split2 (G := G) (a := a) hk hm
  have e3 : wZ G a z q = (wC0 G a q ++ X) ++ (wT G a k z ++ Y) := by unfold wZ; rw [e, List.append_assoc]
  have e4 : wZ G a z1 q = (wC0 G a q ++ X) ++ (wT G a k z1 ++ Y) := by unfold wZ; rw [h z1 e1 e2, List.append_assoc]
  rw [e3] at hP hD
  rw [e4]
  exact mid_B hP hD hf rfl hP1
theorem tC_S {G : Ev} {a : Nat → Nat} {z : Pc4} {k j : Nat} {v : Int32} (h : j ≠ k) : tC G a (s4S z (100 + 4 * k) v) j = tC G a z j := tC_congr rfl (by simp only [s4S]; exact if_neg (by omega)) rfl rfl rfl
theorem tC_F {G : Ev} {a : Nat → Nat} {z : Pc4} {k j b : Nat} {f : Nat → Int32} (hb : 101 ≤ b) (hb2 : b ≤ 103) (h : j ≠ k) : tC G a (s4F z (b + 4 * k) f) j = tC G a z j := tC_congr (by simp only [s4F]; rw [va_up_ne _ _ (by omega)]) rfl (by simp only [s4F]; rw [va_up_ne _ _ (by omega)]) (by simp only [s4F]; rw [va_up_ne _ _ (by omega)]) (by simp only [s4F]; rw [va_up_ne _ _ (by omega)])
theorem fl_F {z : Pc4} {k b : Nat} {f : Nat → Int32} (hb : 101 ≤ b) : (s4F z (b + 4 * k) f).2.1 15 = z.2.1 15 := by simp only [s4F]; rw [va_up_ne _ _ (by omega)]
/-- behind Thing.mark on one of a thing's rows -/
theorem zM2 {G : Ev} {a : Nat → Nat} {z q : Pc4} {k : Nat} {A : Nat → Prop} {H H1 : Heap} {f : Nat → Int32} (hk : k < 12) (hm : ¬ z.2.1 15 k = 0) (hP : va_P (DD G) vwCl (wZ G a z q) H) (hD : va_D A (wZ G a z q)) (hf : ∀ x : Nat, x < H.size → x ∉ fs (wAI G (a (102 + 4 * k)) 3600 (z.2.1 (102 + 4 * k))) → H1[x]? = H[x]?) (hP1 : va_P (DD G) vwCl (wAI G (a (102 + 4 * k)) 3600 f) H1) : va_P (DD G) vwCl (wZ G a (s4F z (102 + 4 * k) f) q) H1 := by
  refine zU hk hm hP hD (fun x h1 h2 => hf x h1 (fun h3 => h2 ?_)) ?_ (by rw [fl_F (by omega)]) (fun j _ hj => tC_F (by omega) (by omega) hj)
  · simp only [fs, wAI, wT, List.map_cons, List.map_nil, List.mem_cons, List.not_mem_nil, or_false] at h3 ⊢
    exact Or.inr (Or.inr (Or.inl h3))
  · rw [wT_F2]; exact va_set1 (p := 2) (zP hk hm hP) (zD hk hm hD) rfl hf hP1
theorem zM3 {G : Ev} {a : Nat → Nat} {z q : Pc4} {k : Nat} {A : Nat → Prop} {H H1 : Heap} {f : Nat → Int32} (hk : k < 12) (hm : ¬ z.2.1 15 k = 0) (hP : va_P (DD G) vwCl (wZ G a z q) H) (hD : va_D A (wZ G a z q)) (hf : ∀ x : Nat, x < H.size → x ∉ fs (wAI G (a (103 + 4 * k)) 3600 (z.2.1 (103 + 4 * k))) → H1[x]? = H[x]?) (hP1 : va_P (DD G) vwCl (wAI G (a (103 + 4 * k)) 3600 f) H1) : va_P (DD G) vwCl (wZ G a (s4F z (103 + 4 * k) f) q) H1 := by
  refine zU hk hm hP hD (fun x h1 h2 => hf x h1 (fun h3 => h2 ?_)) ?_ (by rw [fl_F (by omega)]) (fun j _ hj => tC_F (by omega) (by omega) hj)
  · simp only [fs, wAI, wT, List.map_cons, List.map_nil, List.mem_cons, List.not_mem_nil, or_false] at h3 ⊢
    exact Or.inr (Or.inr (Or.inr h3))
  · rw [wT_F3]; exact va_set1 (p := 3) (zP hk hm hP) (zD hk hm hD) rfl hf hP1
section
variable {p : Program} {l : Launch} {e : Env} {R : Room} {s : State} {m : MethodId} {args : Array Value} {below : List Frame} {meth : Method} {c : Code} {H : Heap} {locs : List Loc} {cells slots : Nat} {Q : State → Prop} {cc : ByteArray} {nL : Nat} {rt : Option FieldType} {c0 : Cond} {G : Ev} {pc : Nat} {ls : Array Slot} {rest : List Value} {A : Nat → Prop} {a : Nat → Nat} {q z : Pc4} {own : String} {idx k : Nat}
/-- putfield live in the calendar's world: the row itself, with the cells that it left alone -/
theorem pZ_live (X : CX p s m args meth c cc nL rt own c0 G A) (hw : Cond.fieldLink own idx "RuledCalendar$Thing" "live" "Z" ∈ big) {v : Int32} (hn : narrow .boolean (.int v) = .int v) (hk : k < 12) (hm : ¬ z.2.1 15 k = 0) (hP : va_P (DD G) vwCl (wZ G a z q) H) (hD : va_D A (wZ G a z q)) (hS : va_S A s.heap H locs) (hdg : decode cc pc = .ok (.putfield idx, 3)) (kk : ∀ (H1 : Heap) (locs1 : List Loc), va_P (DD G) vwCl (wZ G a (s4S z (100 + 4 * k) v) q) H1 → va_S A s.heap H1 locs1 → W p l e R s m args below meth c H1 locs1 cells slots Q (F0 m (pc + 3) ls rest)) : W p l e R s m args below meth c H locs cells slots Q (F0 m pc ls (.int v :: .ref (a (100 + 4 * k)) :: rest)) := by
  obtain ⟨X0, Y0, e, h⟩ := tls_split2 (G := G) (a := a) hk hm
  have e3 : wZ G a z q = (wC0 G a q ++ X0) ++ (wT G a k z ++ Y0) := by unfold wZ; rw [e, List.append_assoc]
  have e4 : wZ G a (s4S z (100 + 4 * k) v) q = (wC0 G a q ++ X0) ++ (wT G a k (s4S z (100 + 4 * k) v) ++ Y0) := by unfold wZ; rw [h (s4S z (100 + 4 * k) v) rfl (fun j _ hj => tC_S hj), List.append_assoc]
  rw [e3] at hP hD
  have hix : ((wC0 G a q ++ X0) ++ (wT G a k z ++ Y0))[(wC0 G a q ++ X0).length + 0]? = some (a (100 + 4 * k), .inr (4, [.ref (a (101 + 4 * k)), .ref (a (102 + 4 * k)), .ref (a (103 + 4 * k)), .int (z.1 (100 + 4 * k))])) := (mid_ix 0 (by simp [wT])).trans rfl
  refine va_put (D := DD G) (ci := 4) (v := .int v) (ty := .boolean) (C := RX6) (T := TX6) (N := 4) X.1.1 X.1.2.1 X.1.2.2.2.2 inX6_u tyX6 tyX6_ok nmX6 X.1.2.2.2.1 X.2.1 hP hD hS _ hix rfl 3 (by decide) (X.1.2.2.2.2 _ (List.mem_cons_of_mem _ hw)) (fun _ h => h) rfl (by decide +kernel) hn (zfit hn) (Nat.le_of_ble_eq_true rfl) hdg (fun H1 locs1 hP1 _ hS1 => kk H1 locs1 ?_ hS1)
  rw [e4, wT_S]
  have e5 : ∀ (X Y w : va_W) (y : Nat × va_E), 0 < w.length → (X ++ (w ++ Y)).set (X.length + 0) y = X ++ (w.set 0 y ++ Y) := by
    intro X Y w y hw
    rw [Nat.add_zero, List.set_append_right _ _ (Nat.le_refl _), Nat.sub_self, List.set_append_left _ _ hw]
  rw [e5 _ _ _ _ (by simp [wT])] at hP1
  exact hP1
end
