theorem kw320 : Cond.methodLink "RuledCalendar" 75 ({ cls := "RuledCalendar", name := "freeNumber", desc := "()I" } : MethodName) ∈ big := mb 320 (by decide +kernel) (by decide +kernel)
theorem kw322 : Cond.instanceMethod ({ cls := "RuledCalendar", name := "freeNumber", desc := "()I" } : MethodName) ∈ big := mb 322 (by decide +kernel) (by decide +kernel)
set_option maxRecDepth 20000 in
theorem kw323 : Cond.code yX7_freeNumber cX7_freeNumber 3 (some .int) ∈ big := mb 323 rfl (by decide +kernel)
theorem kw324 : Cond.methodLink "RuledCalendar" 79 ({ cls := "RuledCalendar$Reader", name := "readRule", desc := "([CI)V" } : MethodName) ∈ big := mb 324 (by decide +kernel) (by decide +kernel)
theorem kw325 : Cond.instanceMethod ({ cls := "RuledCalendar$Reader", name := "readRule", desc := "([CI)V" } : MethodName) ∈ big := mb 325 (by decide +kernel) (by decide +kernel)
theorem kw326 : Cond.selects "RuledCalendar$Reader" ({ cls := "RuledCalendar$Reader", name := "readRule", desc := "([CI)V" } : MethodName) ({ cls := "RuledCalendar$Reader", name := "readRule", desc := "([CI)V" } : MethodName) ∈ big := mb 326 (by decide +kernel) (by decide +kernel)
set_option maxRecDepth 20000 in
theorem kw327 : Cond.code yX4_readRule cX4_readRule 4 none ∈ big := mb 327 rfl (by decide +kernel)
theorem kw485 : Cond.instantiable "RuledCalendar$Thing" 4 ∈ big := mb 485 (by decide +kernel) (by decide +kernel)
theorem kw486 : Cond.methodLink "RuledCalendar" 86 ({ cls := "RuledCalendar$Thing", name := "<init>", desc := "()V" } : MethodName) ∈ big := mb 486 (by decide +kernel) (by decide +kernel)
theorem kw487 : Cond.instanceMethod ({ cls := "RuledCalendar$Thing", name := "<init>", desc := "()V" } : MethodName) ∈ big := mb 487 (by decide +kernel) (by decide +kernel)
set_option maxRecDepth 20000 in
theorem kw488 : Cond.code yX6_init cX6_init 1 none ∈ big := mb 488 rfl (by decide +kernel)
theorem kw491 : Cond.fieldLink "RuledCalendar" 90 "RuledCalendar$Thing" "ruled" "[I" ∈ big := mb 491 (by decide +kernel) (by decide +kernel)
theorem kw507 : Cond.methodLink "RuledCalendar" 87 ({ cls := "RuledCalendar$Thing", name := "begin", desc := "()V" } : MethodName) ∈ big := mb 507 (by decide +kernel) (by decide +kernel)
theorem kw508 : Cond.instanceMethod ({ cls := "RuledCalendar$Thing", name := "begin", desc := "()V" } : MethodName) ∈ big := mb 508 (by decide +kernel) (by decide +kernel)
theorem kw509 : Cond.selects "RuledCalendar$Thing" ({ cls := "RuledCalendar$Thing", name := "begin", desc := "()V" } : MethodName) ({ cls := "RuledCalendar$Thing", name := "begin", desc := "()V" } : MethodName) ∈ big := mb 509 (by decide +kernel) (by decide +kernel)
set_option maxRecDepth 20000 in
theorem kw510 : Cond.code yX6_begin cX6_begin 1 none ∈ big := mb 510 rfl (by decide +kernel)
theorem kw514 : Cond.methodLink "RuledCalendar" 93 ({ cls := "RuledCalendar$Filler", name := "fillRow", desc := "([II)V" } : MethodName) ∈ big := mb 514 (by decide +kernel) (by decide +kernel)
theorem kw515 : Cond.instanceMethod ({ cls := "RuledCalendar$Filler", name := "fillRow", desc := "([II)V" } : MethodName) ∈ big := mb 515 (by decide +kernel) (by decide +kernel)
theorem kw516 : Cond.selects "RuledCalendar$Filler" ({ cls := "RuledCalendar$Filler", name := "fillRow", desc := "([II)V" } : MethodName) ({ cls := "RuledCalendar$Filler", name := "fillRow", desc := "([II)V" } : MethodName) ∈ big := mb 516 (by decide +kernel) (by decide +kernel)
set_option maxRecDepth 20000 in
theorem kw517 : Cond.code yX1_fillRow cX1_fillRow 6 none ∈ big := mb 517 rfl (by decide +kernel)
theorem ks_yX7_freeNumber : Cond.selects RX7 yX7_freeNumber yX7_freeNumber ∈ big := mbs (by decide +kernel) (by decide +kernel)
/-! thing: it may make a new Thing; the address table changes then. -/
theorem va_P_mem {D : va_G} {cl : List vw_C} {ws ws' : va_W} {H : Heap} (h : va_P D cl ws H) (hs : ∀ x ∈ ws', x ∈ ws) : va_P D cl ws' H := by
  intro k q hk
  obtain ⟨i, hi⟩ := List.getElem?_of_mem (hs q (List.mem_of_getElem? hk))
  exact h i q hi
theorem va_D_nd {A : Nat → Prop} {ws : va_W} : va_D A ws ↔ (fs ws).Nodup ∧ ∀ x ∈ fs ws, A x := by
  constructor
  · intro h
    refine ⟨?_, fun x hx => va_D_in h hx⟩
    refine List.pairwise_iff_getElem.mpr (fun i j hi hj hij e => ?_)
    have hi' : i < ws.length := by simpa [fs] using hi
    have hj' : j < ws.length := by simpa [fs] using hj
    have := h.1 i j ws[i] ws[j] (List.getElem?_eq_getElem hi') (List.getElem?_eq_getElem hj') (by simpa [fs] using e)
    omega
  · rintro ⟨h1, h2⟩
    refine ⟨fun i j p q hi hj e => ?_, fun k q hk => h2 q.1 (List.mem_map.mpr ⟨q, List.mem_of_getElem? hk, rfl⟩)⟩
    obtain ⟨hi', ei⟩ := List.getElem?_eq_some_iff.mp hi
    obtain ⟨hj', ej⟩ := List.getElem?_eq_some_iff.mp hj
    have h3 := List.pairwise_iff_getElem.mp h1
    have li : i < (fs ws).length := by simpa [fs] using hi'
    have lj : j < (fs ws).length := by simpa [fs] using hj'
    have gi : (fs ws)[i] = p.1 := by simp [fs, ei]
    have gj : (fs ws)[j] = q.1 := by simp [fs, ej]
    by_cases c : i < j
    · exact absurd (by rw [gi, gj]; exact e) (h3 i j li lj c)
    · by_cases c2 : j < i
      · exact absurd (by rw [gi, gj]; exact e.symm) (h3 j i lj li c2)
      · omega
theorem va_P_perm {D : va_G} {cl : List vw_C} {ws ws' : va_W} {H : Heap} (hp : ws'.Perm ws) (h : va_P D cl ws H) : va_P D cl ws' H := va_P_mem h (fun x hx => hp.mem_iff.mp hx)
theorem va_D_perm {A : Nat → Prop} {ws ws' : va_W} (hp : ws'.Perm ws) (h : va_D A ws) : va_D A ws' := by
  have hf : (fs ws').Perm (fs ws) := hp.map _
  obtain ⟨h1, h2⟩ := va_D_nd.mp h
  exact va_D_nd.mpr ⟨hf.nodup_iff.mpr h1, fun x hx => h2 x (hf.mem_iff.mp hx)⟩
theorem perm1 {W0 X Y : va_W} {c0 c1 c2 c3 : Nat × va_E} : (W0 ++ (c1 :: (X ++ ([c0, c2, c3] ++ Y)))).Perm (W0 ++ (X ++ ([c0, c1, c2, c3] ++ Y))) := by
  refine List.Perm.append_left _ ?_
  have h : (X ++ [c0] ++ c1 :: (c2 :: c3 :: Y)).Perm (c1 :: (X ++ [c0] ++ (c2 :: c3 :: Y))) := List.perm_middle
  simpa using h.symm
theorem perm2 {P X Y B : va_W} : (P ++ (X ++ (B ++ Y))).Perm (P ++ (X ++ Y) ++ B) := by
  rw [List.append_assoc]
  refine List.Perm.append_left _ ?_
  rw [List.append_assoc]
  exact List.Perm.append_left _ List.perm_append_comm
theorem s4F_self {q : Pc4} {k : Nat} {f : Nat → Int32} : (s4F q k f).2.1 k = f := va_up_self q.2.1 k f
def aN (a : Nat → Nat) (k o b1 b2 b3 : Nat) : Nat → Nat := fun i => if i = 100 + 4 * k then o else if i = 101 + 4 * k then b1 else if i = 102 + 4 * k then b2 else if i = 103 + 4 * k then b3 else a i
theorem aN_ne {a : Nat → Nat} {k o b1 b2 b3 i : Nat} (h : i < 100 + 4 * k ∨ 103 + 4 * k < i) : aN a k o b1 b2 b3 i = a i := by
  unfold aN
  rw [if_neg (by omega), if_neg (by omega), if_neg (by omega), if_neg (by omega)]
def zN (z : Pc4) (k : Nat) : Pc4 := s4F (s4F (s4F (s4F (s4S z (100 + 4 * k) 0) (101 + 4 * k) (fun _ => 0)) (102 + 4 * k) (fun _ => 0)) (103 + 4 * k) (fun _ => 0)) 15 (upd (z.2.1 15) k 1)
def qN (q : Pc4) (k : Nat) : Pc4 := s4F q 15 (upd (q.2.1 15) k 1)
theorem upd_s {f : Nat → Int32} {k : Nat} {v : Int32} : upd f k v k = v := if_pos rfl
theorem upd_n {f : Nat → Int32} {k j : Nat} {v : Int32} (h : j ≠ k) : upd f k v j = f j := if_neg h
theorem wC0_N {G : Ev} {a : Nat → Nat} {q : Pc4} {k o b1 b2 b3 : Nat} (h0 : q.2.2.2 0 < 100 + 4 * k ∨ 103 + 4 * k < q.2.2.2 0) (h1 : q.2.2.2 1 < 100 + 4 * k ∨ 103 + 4 * k < q.2.2.2 1) : wC0 G (aN a k o b1 b2 b3) (qN q k) = (wC0 G a q).set 11 (a 11, .inl (cA G 5, 12, .inr (.inr (.inr (.inr (va_up (thF a q) k (some o))))))) := by
  have e : ∀ j, j ≠ 15 → (qN q k).2.1 j = q.2.1 j := fun j hj => va_up_ne _ _ hj
  have ea : ∀ j, j < 100 → aN a k o b1 b2 b3 j = a j := fun j hj => aN_ne (by omega)
  have et : thF (aN a k o b1 b2 b3) (qN q k) = va_up (thF a q) k (some o) := by
    funext j
    unfold thF
    have e15 : (qN q k).2.1 15 = upd (q.2.1 15) k 1 := s4F_self
    rw [e15]
    by_cases c : j = k
    · subst c
      rw [va_up_self, upd_s, if_neg (by decide)]
      simp [aN]
    · rw [va_up_ne _ _ c, upd_n c, aN_ne (by omega)]
  unfold wC0
  rw [et, e 1 (by decide), e 3 (by decide), e 7 (by decide), e 10 (by decide), e 13 (by decide)]
  rw [show (qN q k).2.2.2 = q.2.2.2 from rfl, show (qN q k).2.2.1 = q.2.2.1 from rfl, show (qN q k).1 = q.1 from rfl, aN_ne h0, aN_ne h1]
  rw [ea 0 (by decide), ea 1 (by decide), ea 2 (by decide), ea 3 (by decide), ea 4 (by decide), ea 5 (by decide), ea 6 (by decide), ea 7 (by decide), ea 8 (by decide), ea 9 (by decide), ea 10 (by decide), ea 11 (by decide), ea 12 (by decide), ea 13 (by decide)]
  rfl
theorem zN_fl {z : Pc4} {k : Nat} : (zN z k).2.1 15 = upd (z.2.1 15) k 1 := s4F_self
theorem zN_row {z : Pc4} {k j : Nat} (h : j < 100 + 4 * k ∨ 103 + 4 * k < j) (h2 : j ≠ 15) : (zN z k).2.1 j = z.2.1 j := by
  unfold zN
  simp only [s4F, s4S]
  rw [va_up_ne _ _ h2, va_up_ne _ _ (by omega), va_up_ne _ _ (by omega), va_up_ne _ _ (by omega)]
theorem tC_N {G : Ev} {a : Nat → Nat} {z : Pc4} {k o b1 b2 b3 j : Nat} (hj : j ≠ k) : tC G (aN a k o b1 b2 b3) (zN z k) j = tC G a z j := by
  unfold tC wT
  rw [zN_fl, upd_n hj, aN_ne (by omega), aN_ne (by omega), aN_ne (by omega), aN_ne (by omega), zN_row (by omega) (by omega), zN_row (by omega) (by omega), zN_row (by omega) (by omega), show (zN z k).1 (100 + 4 * j) = z.1 (100 + 4 * j) from if_neg (by omega)]
theorem wT_N {G : Ev} {a : Nat → Nat} {z : Pc4} {k o b1 b2 b3 : Nat} : wT G (aN a k o b1 b2 b3) k (zN z k) = [(o, .inr (4, [.ref b1, .ref b2, .ref b3, .int 0])), (b1, cRow G (fun _ => 0)), (b2, cRow G (fun _ => 0)), (b3, cRow G (fun _ => 0))] := by
  have r1 : (zN z k).2.1 (101 + 4 * k) = fun _ => 0 := by
    unfold zN
    simp only [s4F, s4S]
    rw [va_up_ne _ _ (by omega), va_up_ne _ _ (by omega), va_up_ne _ _ (by omega), va_up_self]
  have r2 : (zN z k).2.1 (102 + 4 * k) = fun _ => 0 := by
    unfold zN
    simp only [s4F, s4S]
    rw [va_up_ne _ _ (by omega), va_up_ne _ _ (by omega), va_up_self]
  have r3 : (zN z k).2.1 (103 + 4 * k) = fun _ => 0 := by
    unfold zN
    simp only [s4F, s4S]
    rw [va_up_ne _ _ (by omega), va_up_self]
  have a0 : aN a k o b1 b2 b3 (100 + 4 * k) = o := if_pos rfl
  have a1 : aN a k o b1 b2 b3 (101 + 4 * k) = b1 := by unfold aN; rw [if_neg (by omega), if_pos rfl]
  have a2 : aN a k o b1 b2 b3 (102 + 4 * k) = b2 := by unfold aN; rw [if_neg (by omega), if_neg (by omega), if_pos rfl]
  have a3 : aN a k o b1 b2 b3 (103 + 4 * k) = b3 := by unfold aN; rw [if_neg (by omega), if_neg (by omega), if_neg (by omega), if_pos rfl]
  unfold wT
  rw [r1, r2, r3, a0, a1, a2, a3, show (zN z k).1 (100 + 4 * k) = 0 from if_pos rfl]
theorem wZ_N {G : Ev} {a : Nat → Nat} {z q : Pc4} {k o b1 b2 b3 : Nat} (hk : k < 12) (hz : z.2.1 15 k = 0) (h0 : q.2.2.2 0 < 100 + 4 * k ∨ 103 + 4 * k < q.2.2.2 0) (h1 : q.2.2.2 1 < 100 + 4 * k ∨ 103 + 4 * k < q.2.2.2 1) :
    (wZ G (aN a k o b1 b2 b3) (zN z k) (qN q k)).Perm ((wC0 G a q).set 11 (a 11, .inl (cA G 5, 12, .inr (.inr (.inr (.inr (va_up (thF a q) k (some o))))))) ++ tls G a z ++ [(o, .inr (4, [.ref b1, .ref b2, .ref b3, .int 0])), (b1, cRow G (fun _ => 0)), (b2, cRow G (fun _ => 0)), (b3, cRow G (fun _ => 0))]) := by
  obtain ⟨l1, l2, he, n1, n2, h3, h4⟩ := range_split hk
  have cg : ∀ L : List Nat, (∀ j ∈ L, j ≠ k) → L.flatMap (tC G (aN a k o b1 b2 b3) (zN z k)) = L.flatMap (tC G a z) := by
    intro L
    induction L with
    | nil => intro _; rfl
    | cons x L ih =>
      intro hn
      simp only [List.flatMap_cons]
      rw [tC_N (hn x List.mem_cons_self), ih (fun j hj => hn j (List.mem_cons_of_mem _ hj))]
  unfold wZ
  rw [wC0_N h0 h1]
  have e1 : tls G a z = l1.flatMap (tC G a z) ++ l2.flatMap (tC G a z) := by
    unfold tls
    rw [he, List.flatMap_append, List.flatMap_append]
    simp only [List.flatMap_cons, List.flatMap_nil, List.append_nil]
    rw [show tC G a z k = [] from if_pos hz, List.nil_append]
  have e2 : tls G (aN a k o b1 b2 b3) (zN z k) = l1.flatMap (tC G a z) ++ (wT G (aN a k o b1 b2 b3) k (zN z k) ++ l2.flatMap (tC G a z)) := by
    unfold tls
    rw [he, List.flatMap_append, List.flatMap_append, cg l1 n1, cg l2 n2]
    simp only [List.flatMap_cons, List.flatMap_nil, List.append_nil]
    rw [show tC G (aN a k o b1 b2 b3) (zN z k) k = wT G (aN a k o b1 b2 b3) k (zN z k) from if_neg (by rw [zN_fl, upd_s]; decide)]
  rw [e1, e2, wT_N]
  exact perm2
theorem wC0_14 {G : Ev} {a : Nat → Nat} {q : Pc4} {f : Nat → Int32} : wC0 G a (s4F q 14 f) = wC0 G a q := by
  have e : ∀ j, j ≠ 14 → (s4F q 14 f).2.1 j = q.2.1 j := fun j hj => va_up_ne _ _ hj
  have et : thF a (s4F q 14 f) = thF a q := by
    unfold thF
    rw [e 15 (by decide)]
  unfold wC0
  rw [e 1 (by decide), e 3 (by decide), e 7 (by decide), e 10 (by decide), e 13 (by decide), et]
  rfl
def gp {α : Type} (p : Prop) [Decidable p] (f : Option α) : Option α := if p then f else none
theorem gp_s {α : Type} {p : Prop} [Decidable p] {f : Option α} {r : α} (h : gp p f = some r) : p ∧ f = some r := by
  unfold gp at h
  split at h
  · exact ⟨by assumption, h⟩
  · cases h
section
variable {p : Program} {l : Launch} {e : Env} {R : Room} {s : State} {m : MethodId} {args : Array Value} {below : List Frame} {meth : Method} {c : Code} {H : Heap} {locs : List Loc} {cells slots : Nat} {Q : State → Prop} {cc : ByteArray} {nL : Nat} {rt : Option FieldType} {own : String} {c0 : Cond} {G : Ev} {pc : Nat} {ls : Array Slot} {rest st0 : List Value} {A : Nat → Prop} {ws wr wc : va_W}
theorem goI_end {y : MethodName} {b : ByteArray} {mL fr lo mc ms n ad idx : Nat} {As : List Value} {e0 : va_E} {B : (Nat → Nat) → va_W} (X : CX p s m args meth c cc nL rt own c0 G A) (hc : CtN l G y b mL fr lo mc ms (.ref ad :: As) [(ad, e0)] B)
    (w1 : Cond.methodLink own idx y ∈ big) (w2 : Cond.instanceMethod y ∈ big) (w3 : Cond.initialized y.cls ∈ big) (w4 : Cond.code y b mL none ∈ big) (hy : y.name = "<init>") (hd : y.cls ≠ "java/lang/invoke/MethodHandle" ∧ y.cls ≠ "java/lang/invoke/VarHandle" ∧ (parseMethodDescriptor y.desc).map (fun d => d.parameters.length) = some n) (hR : fr + 1 ≤ R.frames ∧ 8 + (mL + 11) + lo ≤ R.locals)
    (hP : va_P (DD G) vwCl (ws ++ [(ad, e0)]) H) (hD : va_D A (ws ++ [(ad, e0)])) (hS : va_S A s.heap H locs)
    (hst : st0 = As.reverse ++ .ref ad :: rest) (hn : As.length = n) (hl : ls.size = nL) (hW : (rest.map fun v => v.category).sum ≤ 8) (hdg : decode cc pc = .ok (.invokespecial idx, 3)) (hf : cells + mc ≤ R.cells ∧ slots + ms ≤ R.slots)
    (kk : ∀ (a : Nat → Nat) (H1 : Heap) (locs1 : List Loc), va_P (DD G) vwCl (ws ++ B a) H1 → va_D A (ws ++ B a) → va_S A s.heap H1 locs1 → W p l e R s m args below meth c H1 locs1 (cells + mc) (slots + ms) Q (F0 m (pc + 3) ls rest)) : W p l e R s m args below meth c H locs cells slots Q (F0 m pc ls st0) := by
  have h1 : (ws ++ [(ad, e0)])[ws.length]? = some (ad, e0) := by simp
  refine goI (ws := ws ++ [(ad, e0)]) (wr := ws) X hc w1 w2 w3 w4 hy hd hR hP hD hS [ws.length] (List.range ws.length) (by simp) ?_ ?_ ?_ (va_P_mid hP ws.length h1) (va_D_mid hD ws.length h1) hst hn hl hW hdg hf kk
  · apply List.ext_getElem
    · simp
    · intro i h2 h3
      simp only [List.length_map, List.length_range] at h2
      simp [List.getElem?_append_left h2, List.getElem?_eq_getElem h2]
  · have key : ∀ (n s : Nat), va_nd (List.range' s n) = true := by
      intro n
      induction n with
      | zero => intro s; rfl
      | succ n ih => intro s; simp [List.range'_succ, va_nd, ih, List.mem_range']; omega
    rw [List.range_eq_range']; exact key _ _
  · intro i hi
    have := List.mem_range.mp hi
    simp; omega
end
def moQ7_thing_T (n : Nat) (x1 : Int32) (k : Int32) (z q : Pc4) : Option (Nat ⊕ (Int32 × Pc4 × Pc4)) :=
  bd1 (moQ6_begin n k.toNatClampNeg z) fun z1 => bd1 (moQ1_fillRow n (101 + 4 * k.toNatClampNeg) x1 (s4F q 14 (z1.2.1 (101 + 4 * k.toNatClampNeg)))) fun q3 => some (.inr (k, s4F z1 (101 + 4 * k.toNatClampNeg) (q3.2.1 14), q3))
def moQ7_thing (n : Nat) (z : Pc4) (x1 : Int32) (q : Pc4) : Option (Nat ⊕ (Int32 × Pc4 × Pc4)) :=
  bx (moQ7_requireDate n x1) fun _ => bd1 (moQ7_freeNumber n z q) fun k => if k = -1 then some (.inr (-1, z, q)) else bd1 (moQ4_readRule n (r4S q 0) q) fun q1 => if r4S q1 13 = 0 then gi k 12 (if q1.2.1 15 k.toNatClampNeg = 0 then gp (z.2.1 15 k.toNatClampNeg = 0 ∧ (q1.2.2.2 0 < 100 + 4 * k.toNatClampNeg ∨ 103 + 4 * k.toNatClampNeg < q1.2.2.2 0) ∧ (q1.2.2.2 1 < 100 + 4 * k.toNatClampNeg ∨ 103 + 4 * k.toNatClampNeg < q1.2.2.2 1)) (moQ7_thing_T n x1 k (zN z k.toNatClampNeg) (qN q1 k.toNatClampNeg)) else gz (z.2.1 15 k.toNatClampNeg) (moQ7_thing_T n x1 k z q1)) else some (.inr (-1, z, q1))
def XtT (l : Launch) (G : Ev) (y : MethodName) (b : ByteArray) (mL : Nat) (rt : Option FieldType) (fr lo mc ms : Nat) (As : List Value) (a : Nat → Nat) (ws : va_W) (res : Nat ⊕ (Int32 × Pc4 × Pc4)) : Prop :=
  ∀ sz : Nat, vx_Met l y (wU y b mL rt) { frames := fr, cells := mc, slots := ms, locals := lo } (va_Pc As (PreX G ws sz)) (va_Qi (fun r' (a1 : Nat → Nat) => xm (fun x => x.1) res = .inr r' ∧ a1 0 = a 0) (fun a1 t => va_P (DD G) vwCl (xW (fun x => wZ G a1 x.2.1 x.2.2) ws res) t.heap ∧ va_D (AL (fs ws) sz) (xW (fun x => wZ G a1 x.2.1 x.2.2) ws res)) (AL (fs ws) sz)) (XC9 G (xk res) ws (AL (fs ws) sz)) mc ms (AL (fs ws) sz)
theorem tret {p : Program} {l : Launch} {e : Env} {R : Room} {s : State} {m : MethodId} {args : Array Value} {below : List Frame} {meth : Method} {c : Code} {H : Heap} {locs : List Loc} {cells slots : Nat} {cc : ByteArray} {nL : Nat} {own : String} {c0 : Cond} {G : Ev} {pc : Nat} {ls : Array Slot} {A : Nat → Prop} {ws : va_W} {L : List Nat} {v : Int32} {a : Nat → Nat} {r : Nat ⊕ (Int32 × Pc4 × Pc4)} {z1 q1 : Pc4} {XC : String → State → State → Prop} (a1 : Nat → Nat) (X : CX p s m args meth c cc nL (some .int) own c0 G A) (hr : r = .inr (v, z1, q1)) (ha : a1 0 = a 0) (hP : va_P (DD G) vwCl (wZ G a1 z1 q1) H) (hD : va_D (AL L s.heap.size) (wZ G a1 z1 q1)) (hS : va_S (AL L s.heap.size) s.heap H locs) (hdg : decode cc pc = .ok (.ireturn, 1)) :
    W p l e R s m args below meth c H locs cells slots (vx_MQ below (va_Qi (fun r' (a1 : Nat → Nat) => xm (fun x => x.1) r = .inr r' ∧ a1 0 = a 0) (fun a1 t => va_P (DD G) vwCl (xW (fun x => wZ G a1 x.2.1 x.2.2) ws r) t.heap ∧ va_D (AL L s.heap.size) (xW (fun x => wZ G a1 x.2.1 x.2.2) ws r)) (AL L s.heap.size)) XC args s cells slots (AL L s.heap.size)) (F0 m pc ls [.int v]) := by
  subst hr
  exact vx_ret (W.iret X.1.1 X.1.2.1 X.2.2.1 (fun t ht hW => ⟨⟨v, a1, rfl, ⟨rfl, ha⟩, by subst ht; exact hP, hD⟩, hS.F ht⟩) hS.2.2 hdg X.2.2.2.1)
set_option maxHeartbeats 4000000 in
set_option maxRecDepth 100000 in
theorem thTail {p : Program} {l : Launch} {e : Env} {s : State} {m : MethodId} {args : Array Value} {below : List Frame} {meth : Method} {c : Code} {H : Heap} {locs : List Loc} {G : Ev} {Q : State → Prop} {A : Nat → Prop} {n : Nat} {a : Nat → Nat} {z z1 q q3 : Pc4} {ls : Array Slot} {x1 k : Int32}
    (XX : CXX p s m args meth c cX7_thing 4 (some .int) RX7 (.code yX7_thing cX7_thing 4 (some .int)) G A l) (hg : k.toNatClampNeg < 12) (hz : ¬ z.2.1 15 k.toNatClampNeg = 0) (e1 : moQ6_begin n k.toNatClampNeg z = some z1) (e2 : moQ1_fillRow n (101 + 4 * k.toNatClampNeg) x1 (s4F q 14 (z1.2.1 (101 + 4 * k.toNatClampNeg))) = some q3)
    (hP : va_P (DD G) vwCl (wZ G a z q) H) (hD : va_D A (wZ G a z q)) (hS : va_S A s.heap H locs) (hl : lv_has ls 4 [(3, .ref (a (100 + 4 * k.toNatClampNeg))), (0, .ref (a 0)), (1, .int x1), (2, .int k)])
    (kk : ∀ (H : Heap) (locs : List Loc), va_P (DD G) vwCl (wZ G a (s4F z1 (101 + 4 * k.toNatClampNeg) (q3.2.1 14)) q3) H → va_D A (wZ G a (s4F z1 (101 + 4 * k.toNatClampNeg) (q3.2.1 14)) q3) → va_S A s.heap H locs → W p l e { frames := 9, cells := 5, slots := 10810, locals := 199 } s m args below meth c H locs 5 10810 Q (F0 m 85 ls [])) :
    W p l e { frames := 9, cells := 5, slots := 10810, locals := 199 } s m args below meth c H locs 5 10810 Q (F0 m 69 ls []) := by
  have X := XX.1
  obtain ⟨⟨hx, hb, hml, hown, hts⟩, hK, hr, hlk, hA, hAs, hSta⟩ := id X
  refine lv_aload_n hx hb dX7_thing_69 rfl (lv_at hl 0 rfl) ?_
  refine goV_v (n := 0) (C := RX6) X (cQ6_begin (κ := k.toNatClampNeg) e1) (gV kw507 kw508 kw509 kw20 kw510) (by decide +kernel) ⟨by decide, by decide⟩ (rc_T hK (zP hg hz hP)) (zP hg hz hP) (zD hg hz hD) hS rfl rfl hl.1 (Nat.le_of_ble_eq_true rfl) dX7_thing_70 ⟨by decide, by decide⟩ (fun H locs hP1 hk hS => ?_)
  obtain ⟨f1, -, e1⟩ := bd1_s e1
  obtain ⟨f2, -, e1⟩ := bd1_s e1
  obtain ⟨f3, -, e1⟩ := bd1_s e1
  have e1 := (Option.some.inj e1).symm
  have g1 : z1.2.1 15 = z.2.1 15 := by
    rw [e1]
    show (s4F (s4F (s4F z (101 + 4 * k.toNatClampNeg) f1) (102 + 4 * k.toNatClampNeg) f2) (103 + 4 * k.toNatClampNeg) f3).2.1 15 = z.2.1 15
    rw [fl_F (by omega), fl_F (by omega), fl_F (by omega)]
  have g2 : ∀ j, j < 12 → j ≠ k.toNatClampNeg → tC G a z1 j = tC G a z j := fun j _ hj => by rw [e1, tC_S hj, tC_F (by omega) (by omega) hj, tC_F (by omega) (by omega) hj, tC_F (by omega) (by omega) hj]
  have hz1 : ¬ z1.2.1 15 k.toNatClampNeg = 0 := by rw [g1]; exact hz
  have hP := zU hg hz hP hD hk hP1 (by rw [g1]) g2
  have hD : va_D A (wZ G a z1 q) := by
    refine va_D_same (ws := wZ G a z q) ?_ hD
    unfold wZ
    rw [fs_app, fs_app, fs_tls (q := z) (q1 := z1) (fun k _ => by rw [g1])]
  refine lv_aload_n hx hb dX7_thing_73 rfl (lv_at hl 1 rfl) ?_
  refine gC_cal_filler X kw193 hP dX7_thing_74 ?_
  refine lv_aload_n hx hb dX7_thing_77 rfl (lv_at hl 0 rfl) ?_
  refine gT_ruled X kw491 (zP hg hz1 hP) dX7_thing_78 ?_
  refine lv_iload_n hx hb dX7_thing_81 rfl (lv_at hl 2 rfl) ?_
  obtain ⟨X0, Y0, es, h⟩ := tls_split2 (G := G) (a := a) hg hz1
  have hp : ∀ (q' : Pc4), (wF G a (101 + 4 * k.toNatClampNeg) (X0 ++ ([(a (100 + 4 * k.toNatClampNeg), .inr (4, [.ref (a (101 + 4 * k.toNatClampNeg)), .ref (a (102 + 4 * k.toNatClampNeg)), .ref (a (103 + 4 * k.toNatClampNeg)), .int (z1.1 (100 + 4 * k.toNatClampNeg))])), (a (102 + 4 * k.toNatClampNeg), cRow G (z1.2.1 (102 + 4 * k.toNatClampNeg))), (a (103 + 4 * k.toNatClampNeg), cRow G (z1.2.1 (103 + 4 * k.toNatClampNeg)))] ++ Y0)) q').Perm (wZ G a (s4F z1 (101 + 4 * k.toNatClampNeg) (q'.2.1 14)) q') := by
    intro q'
    unfold wZ wF
    rw [h (s4F z1 (101 + 4 * k.toNatClampNeg) (q'.2.1 14)) (by rw [fl_F (by omega)]) (fun j _ hj => tC_F (by omega) (by omega) hj), wT_F1]
    exact perm1
  have hp0 := hp (s4F q 14 (z1.2.1 (101 + 4 * k.toNatClampNeg)))
  have ew : wZ G a (s4F z1 (101 + 4 * k.toNatClampNeg) ((s4F q 14 (z1.2.1 (101 + 4 * k.toNatClampNeg))).2.1 14)) (s4F q 14 (z1.2.1 (101 + 4 * k.toNatClampNeg))) = wZ G a z1 q := by
    have e14 : (s4F q 14 (z1.2.1 (101 + 4 * k.toNatClampNeg))).2.1 14 = z1.2.1 (101 + 4 * k.toNatClampNeg) := s4F_self
    rw [e14]
    unfold wZ
    rw [wC0_14]
    congr 1
    have : s4F z1 (101 + 4 * k.toNatClampNeg) (z1.2.1 (101 + 4 * k.toNatClampNeg)) = z1 := by
      have : va_up z1.2.1 (101 + 4 * k.toNatClampNeg) (z1.2.1 (101 + 4 * k.toNatClampNeg)) = z1.2.1 := by
        funext j
        by_cases c : j = 101 + 4 * k.toNatClampNeg
        · subst c; exact va_up_self _ _ _
        · exact va_up_ne _ _ c
      unfold s4F
      rw [this]
    rw [this]
  rw [ew] at hp0
  refine goV_v (n := 2) (C := RX1) X (cQ1_fillRow (a := a) (ρ := 101 + 4 * k.toNatClampNeg) e2) (gV kw514 kw515 kw516 kw8 kw517) (by decide +kernel) ⟨by decide, by decide⟩ (rc_filler hK hP) (va_P_perm hp0 hP) (va_D_perm hp0 hD) hS rfl rfl hl.1 (Nat.le_of_ble_eq_true rfl) dX7_thing_82 ⟨by decide, by decide⟩ (fun H locs hP1 hk hS => ?_)
  exact kk H locs (va_P_perm (hp q3).symm hP1) (va_D_perm (hp q3).symm (dF (va_D_perm hp0 hD))) hS
set_option maxHeartbeats 4000000 in
set_option maxRecDepth 100000 in
theorem cQ7_thing {l : Launch} {G : Ev} {a : Nat → Nat} {z : Pc4} {n : Nat} {q : Pc4} {x1 : Int32} {res : Nat ⊕ (Int32 × Pc4 × Pc4)} (hst : l.stackTraces = false) (hm : moQ7_thing n z x1 q = some res) : XtT l G yX7_thing cX7_thing 4 (some .int) 9 199 5 10810 [.ref (a 0), .int x1] a (wZ G a z q) res := by
  intro sz
  refine enterX hst (by decide) (Nat.le_of_ble_eq_true rfl) ?_
  intro p e s m args below meth c ls XX hsz hP hD hS hl
  subst hsz
  have X := XX.1
  obtain ⟨⟨hx, hb, hml, hown, hts⟩, hK, hr, hlk, hA, hAs, hSta⟩ := id X
  have hl : lv_has ls 4 [(0, .ref (a 0)), (1, .int x1)] := hl
  unfold moQ7_thing at hm
  refine lv_iload_n hx hb dX7_thing_0 rfl (lv_at hl 1 rfl) ?_
  rcases bx_s hm with ⟨k_1, e_1, h_1⟩ | ⟨u_1, e_1, hm⟩
  · subst h_1
    exact xq_t (n := 1) k_1 XX (cQ7_requireDate XX.2.2.2 e_1) (gS kw309 kw310 kw1 kw311) (by decide +kernel) ⟨by decide, by decide⟩ rfl hP hS rfl rfl hl.1 (Nat.le_of_ble_eq_true rfl) dX7_thing_1 ⟨by decide, by decide⟩ (by decide) (by decide)
  · refine xq (n := 1) XX (cQ7_requireDate XX.2.2.2 e_1) (gS kw309 kw310 kw1 kw311) (by decide +kernel) ⟨by decide, by decide⟩ hP hS rfl rfl hl.1 (Nat.le_of_ble_eq_true rfl) dX7_thing_1 ⟨by decide, by decide⟩ (fun H locs hP hS => ?_)
    refine W.widen (k := 1) (n := 6) (by decide) (by decide) ?_
    refine lv_aload_n hx hb dX7_thing_4 rfl (lv_at hl 0 rfl) ?_
    obtain ⟨k, e_2, hm⟩ := bd1_s hm
    refine goV_i (n := 0) (C := RX7) X (cQ7_freeNumber (a := a) e_2) (gV kw320 kw322 ks_yX7_freeNumber kw1 kw323) (by decide +kernel) ⟨by decide, by decide⟩ (rc_cal hK hP) hP hD hS rfl rfl hl.1 (Nat.le_of_ble_eq_true rfl) dX7_thing_5 ⟨by decide, by decide⟩ (fun H locs hP hk hS => ?_)
    refine lv_istore_n (lv' := [(2, .int k), (0, .ref (a 0)), (1, .int x1)]) hx hb dX7_thing_8 rfl hl (by decide) rfl (fun ls hl => ?_)
    refine lv_iload_n hx hb dX7_thing_9 rfl (lv_at hl 0 rfl) ?_
    refine lv_iconst (v := (-1)) hx hb dX7_thing_10 (by decide) ?_
    refine lv_icmp_ne (tgt := 16) hx hb dX7_thing_11 (by decide) (fun c_1 => ?_) (fun c_1 => ?_)
    · have hm := (if_neg c_1).symm.trans hm
      refine lv_aload_n hx hb dX7_thing_16 rfl (lv_at hl 1 rfl) ?_
      refine gC_cal_reader X kw192 hP dX7_thing_17 ?_
      refine lv_aload_n hx hb dX7_thing_20 rfl (lv_at hl 1 rfl) ?_
      refine gC_cal_text X kw188 hP dX7_thing_21 ?_
      refine lv_aload_n hx hb dX7_thing_24 rfl (lv_at hl 1 rfl) ?_
      refine gC_cal_textLength X kw189 hP dX7_thing_25 ?_
      obtain ⟨q1, e_3, hm⟩ := bd1_s hm
      refine goV_v (n := 2) (C := RX4) X (cQ4_readRule (a := a) (T := tls G a z) e_3) (gV kw324 kw325 kw326 kw7 kw327) (by decide +kernel) ⟨by decide, by decide⟩ (rc_reader hK hP) hP hD hS rfl rfl hl.1 (Nat.le_of_ble_eq_true rfl) dX7_thing_28 ⟨by decide, by decide⟩ (fun H locs hP hk hS => ?_)
      have hP : va_P (DD G) vwCl (wZ G a z q1) H := hP
      have hD : va_D (AL (fs (wZ G a z q)) s.heap.size) (wZ G a z q1) := dZ hD
      refine lv_aload_n hx hb dX7_thing_31 rfl (lv_at hl 1 rfl) ?_
      refine gC_cal_reader X kw192 hP dX7_thing_32 ?_
      refine gC_reader_faultKind X kw139 hP dX7_thing_35 ?_
      refine lv_if_eq (tgt := 43) hx hb dX7_thing_38 (by decide) (fun c_2 => ?_) (fun c_2 => ?_)
      · have hm := (if_pos c_2).symm.trans hm
        refine lv_aload_n hx hb dX7_thing_43 rfl (lv_at hl 1 rfl) ?_
        refine gC_cal_things X kw194 hP dX7_thing_44 ?_
        refine lv_iload_n hx hb dX7_thing_47 rfl (lv_at hl 0 rfl) ?_
        obtain ⟨hi_3, hm⟩ := gi_s hm
        have hg : k.toNatClampNeg < 12 := Nat.not_le.mp fun q => hi_3 (Or.inr q)
        refine ldZ_things X hP hi_3 dX7_thing_48 (fun c_3 => ?_) (fun c_3 => ?_)
        · have hm := (if_pos c_3).symm.trans hm
          obtain ⟨⟨hz0, hx0, hx1⟩, hm⟩ := gp_s hm
          refine lv_astore_nN (lv' := [(3, .null), (2, .int k), (0, .ref (a 0)), (1, .int x1)]) hx hb dX7_thing_49 rfl hl (by decide) rfl (fun ls hl => ?_)
          refine lv_aload_nN hx hb dX7_thing_50 rfl (lv_at hl 0 rfl) ?_
          refine lv_ifnonnullN hx hb dX7_thing_51 ?_
          refine va_new (ci := 4) (fs := [.null, .null, .null, .int 0]) (C := RX6) (T := TX6) (N := 4) hx hb hts inX6_u tyX6 tyX6_ok hown (hts _ (List.mem_cons_of_mem _ kw186)) (hts _ (List.mem_cons_of_mem _ kw485)) (hts _ (List.mem_cons_of_mem _ kw20)) hK hP hD hS hA rfl (fun j hj => by rcases (show j = 0 ∨ j = 1 ∨ j = 2 ∨ j = 3 by omega) with rfl | rfl | rfl | rfl <;> rfl) (by decide) (by decide) dX7_thing_54 (fun o H hP hD hS => ?_)
          refine W.widen (k := 2) (n := 10) (by decide) (by decide) ?_
          refine lv_dup hx hb dX7_thing_57 rfl ?_
          refine goI_end (n := 0) (ws := wZ G a z q1) X (cQ6_init (o := o)) kw486 kw487 kw20 kw488 rfl (by decide +kernel) ⟨by decide, by decide⟩ hP hD hS rfl rfl hl.1 (Nat.le_of_ble_eq_true rfl) dX7_thing_58 ⟨by decide, by decide⟩ (fun b H locs hP hD hS => ?_)
          refine W.widen (k := 5) (n := 10810) (by decide) (by decide) ?_
          refine lv_astore_n (lv' := [(3, .ref o), (2, .int k), (0, .ref (a 0)), (1, .int x1)]) hx hb dX7_thing_61 rfl hl (by decide) rfl (fun ls hl => ?_)
          refine lv_aload_n hx hb dX7_thing_62 rfl (lv_at hl 2 rfl) ?_
          have hP : va_P (DD G) vwCl (wC0 G a q1 ++ (tls G a z ++ [(o, .inr (4, [.ref (b 1), .ref (b 2), .ref (b 3), .int 0])), (b 1, cRow G (fun _ => 0)), (b 2, cRow G (fun _ => 0)), (b 3, cRow G (fun _ => 0))])) H := by
            rw [← List.append_assoc]; exact hP
          have hD : va_D (AL (fs (wZ G a z q)) s.heap.size) (wC0 G a q1 ++ (tls G a z ++ [(o, .inr (4, [.ref (b 1), .ref (b 2), .ref (b 3), .int 0])), (b 1, cRow G (fun _ => 0)), (b 2, cRow G (fun _ => 0)), (b 3, cRow G (fun _ => 0))])) := by
            rw [← List.append_assoc]; exact hD
          refine gC_cal_things X kw194 hP dX7_thing_63 ?_
          refine lv_iload_n hx hb dX7_thing_66 rfl (lv_at hl 1 rfl) ?_
          refine lv_aload_n hx hb dX7_thing_67 rfl (lv_at hl 0 rfl) ?_
          have hix : (wC0 G a q1 ++ (tls G a z ++ [(o, .inr (4, [.ref (b 1), .ref (b 2), .ref (b 3), .int 0])), (b 1, cRow G (fun _ => 0)), (b 2, cRow G (fun _ => 0)), (b 3, cRow G (fun _ => 0))]))[14 + ((tls G a z).length + 0)]? = some (o, .inr (4, [.ref (b 1), .ref (b 2), .ref (b 3), .int 0])) := by
            rw [List.getElem?_append_right (by simp [wC0])]
            rw [show 14 + ((tls G a z).length + 0) - (wC0 G a q1).length = (tls G a z).length + 0 by simp [wC0]]
            rw [List.getElem?_append_right (by omega)]
            simp
          refine va_astq (D := DD G) (tys := TY G) (r := (RX6, TX6, 4)) hx hb hK hP hD hS 11 5 _ 4 rfl rfl hix rfl hi_3 dX7_thing_68 (fun H locs hP hD hS => ?_)
          have hs : (wC0 G a q1 ++ (tls G a z ++ [(o, .inr (4, [.ref (b 1), .ref (b 2), .ref (b 3), .int 0])), (b 1, cRow G (fun _ => 0)), (b 2, cRow G (fun _ => 0)), (b 3, cRow G (fun _ => 0))])).set 11 (a 11, .inl (cA G 5, 12, .inr (.inr (.inr (.inr (va_up (thF a q1) k.toNatClampNeg (some o))))))) = (wC0 G a q1).set 11 (a 11, .inl (cA G 5, 12, .inr (.inr (.inr (.inr (va_up (thF a q1) k.toNatClampNeg (some o))))))) ++ tls G a z ++ [(o, .inr (4, [.ref (b 1), .ref (b 2), .ref (b 3), .int 0])), (b 1, cRow G (fun _ => 0)), (b 2, cRow G (fun _ => 0)), (b 3, cRow G (fun _ => 0))] := by
            rw [List.set_append_left _ _ (by simp [wC0]), List.append_assoc]
          rw [hs] at hP hD
          have hpm := wZ_N (G := G) (a := a) (o := o) (b1 := b 1) (b2 := b 2) (b3 := b 3) hg hz0 hx0 hx1
          have hP := va_P_perm hpm hP
          have hD := va_D_perm hpm hD
          obtain ⟨z1, e_4, hm⟩ := bd1_s hm
          obtain ⟨q3, e_5, hm⟩ := bd1_s hm
          have a0 : aN a k.toNatClampNeg o (b 1) (b 2) (b 3) (100 + 4 * k.toNatClampNeg) = o := if_pos rfl
          have a00 : aN a k.toNatClampNeg o (b 1) (b 2) (b 3) 0 = a 0 := aN_ne (by omega)
          refine thTail (a := aN a k.toNatClampNeg o (b 1) (b 2) (b 3)) XX hg (by rw [zN_fl, upd_s]; decide) e_4 e_5 hP hD hS (by rw [a0, a00]; exact lv_sub hl [0, 2, 3, 1] rfl) (fun H locs hP hD hS => ?_)
          refine lv_iload_n hx hb dX7_thing_85 rfl (lv_at hl 1 rfl) ?_
          exact tret _ X (Option.some.inj hm).symm a00 hP hD hS dX7_thing_86
        · have hm := (if_neg c_3).symm.trans hm
          obtain ⟨hz_1, hm⟩ := gz_s hm
          refine lv_astore_n (lv' := [(3, .ref (a (100 + 4 * k.toNatClampNeg))), (2, .int k), (0, .ref (a 0)), (1, .int x1)]) hx hb dX7_thing_49 rfl hl (by decide) rfl (fun ls hl => ?_)
          refine lv_aload_n hx hb dX7_thing_50 rfl (lv_at hl 0 rfl) ?_
          refine lv_ifnonnull (tgt := 69) hx hb dX7_thing_51 (by decide) ?_
          refine W.widen (k := 5) (n := 10810) (by decide) (by decide) ?_
          obtain ⟨z1, e_4, hm⟩ := bd1_s hm
          obtain ⟨q3, e_5, hm⟩ := bd1_s hm
          refine thTail XX hg hz_1 e_4 e_5 hP hD hS (lv_sub hl [0, 2, 3, 1] rfl) (fun H locs hP hD hS => ?_)
          refine lv_iload_n hx hb dX7_thing_85 rfl (lv_at hl 1 rfl) ?_
          exact tret _ X (Option.some.inj hm).symm rfl hP hD hS dX7_thing_86
      · have hm := (if_neg c_2).symm.trans hm
        refine lv_iconst (v := (-1)) hx hb dX7_thing_41 (by decide) ?_
        refine W.widen (k := 5) (n := 10810) (by decide) (by decide) ?_
        exact tret _ X (Option.some.inj hm).symm rfl hP hD hS dX7_thing_42
    · have hm := (if_pos c_1).symm.trans hm
      refine lv_iconst (v := (-1)) hx hb dX7_thing_14 (by decide) ?_
      refine W.widen (k := 5) (n := 10810) (by decide) (by decide) ?_
      exact tret _ X (Option.some.inj hm).symm rfl hP hD hS dX7_thing_15
