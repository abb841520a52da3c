/-! The law's wrappers: they catch what the class throws. -/
def oA (G : Ev) (o : Nat) (f : Nat → Int64) : Nat × va_E := (o, .inl (cA G 3, 1, .inr (.inl f)))
def wL (G : Ev) (a : Nat → Nat) (z q : Pc4) (o : Nat) (f : Nat → Int64) : va_W := wZ G a z q ++ [oA G o f]
abbrev LRes : Type := Int32 × Pc4 × Pc4 × (Nat → Int64)
def wUH (y : MethodName) (b : ByteArray) (n : Nat) (hh : List (Nat × Nat × Nat × Nat)) : List Cond := .codeWith y b n (some .int) hh :: big
abbrev PreL (G : Ev) (ws : va_W) (sz : Nat) : State → Prop := fun U => PreX G ws sz U ∧ va_Nc (exn 0) (exn 1) U
theorem blindL {As : List Value} {G : Ev} {ws : va_W} {sz : Nat} : FrameBlind (va_Pc As (PreL G ws sz)) := fun a U g mk q => by
  obtain ⟨q0, q1, q2⟩ := q
  obtain ⟨e1, e2⟩ := blindX a U g mk ⟨q0, q1⟩
  exact ⟨e1, e2, va_Nc.moved (u := U) (U := U.calling g mk a) (Vm.Alike.refl U.vm) q2⟩
def CtL (l : Launch) (G : Ev) (y : MethodName) (b : ByteArray) (mL : Nat) (hh : List (Nat × Nat × Nat × Nat)) (fr lo mc ms : Nat) (As : List Value) (a : Nat → Nat) (ws : va_W) (o : Nat) (res : LRes) : Prop :=
  ∀ sz : Nat, Met l y (wUH y b mL hh) { frames := fr, cells := mc, slots := ms, locals := lo } (va_Pc As (PreL G ws sz)) (va_Qi (fun r' (a1 : Nat → Nat) => r' = res.1 ∧ a1 0 = a 0) (fun a1 t => va_P (DD G) vwCl (wL G a1 res.2.1 res.2.2.1 o res.2.2.2) t.heap ∧ va_D (AL (fs ws) sz) (wL G a1 res.2.1 res.2.2.1 o res.2.2.2)) (AL (fs ws) sz)) mc ms (AL (fs ws) sz)
def CXL (p : Program) (s : State) (m : MethodId) (args : Array Value) (meth : Method) (c : Code) (cc : ByteArray) (nL : Nat) (own : String) (c0 : Cond) (G : Ev) (A : Nat → Prop) (hh : List (Nat × Nat × Nat × Nat)) : Prop :=
  CX p s m args meth c cc nL (some .int) own c0 G A ∧ c.exceptionTable.toList = tableOf hh ∧ Stx G s s.heap ∧ va_Nc (exn 0) (exn 1) s
theorem enterL {l : Launch} {G : Ev} {y : MethodName} {b : ByteArray} {mL : Nat} {hh : List (Nat × Nat × Nat × Nat)} {fr lo mc ms sz : Nat} {As : List Value} {ws : va_W} {Qc : Array Value → State → Outcome → State → Prop} (hpl : plainName y.cls = true) (hlen : (lg_sl As).length ≤ mL)
    (body : ∀ (p : Program) (e : Env) (s : State) (m : MethodId) (args : Array Value) (below : List Frame) (meth : Method) (c : Code) (ls : Array Slot), CXL p s m args meth c b mL y.cls (.codeWith y b mL (some .int) hh) G (AL (fs ws) s.heap.size) hh → sz = s.heap.size → va_P (DD G) vwCl ws s.heap → va_D (AL (fs ws) s.heap.size) ws → va_S (AL (fs ws) s.heap.size) s.heap s.heap [] → lv_has ls mL (lv_args 0 As) →
      W p l e { frames := fr, cells := mc, slots := ms, locals := lo } s m args below meth c s.heap [] 0 0 (MQ below Qc args s mc ms (AL (fs ws) sz)) (F0 m 0 ls [])) :
    Met l y (wUH y b mL hh) { frames := fr, cells := mc, slots := ms, locals := lo } (va_Pc As (PreL G ws sz)) Qc mc ms (AL (fs ws) sz) := by
  refine va_MetW (cc := b) (maxL := mL) (ret := some .int) (hh := hh) hpl rfl ?_
  intro p e s m args below meth c s₁ B hml hv
  obtain ⟨rfl, ⟨⟨hsz, hP, hK, hD0, hS0, hS1, hS2⟩, hX⟩, hN⟩ := hv
  have hts := atoms_spec (ws := wUH y b mL hh) B.pre
  have ht : c.exceptionTable.toList = tableOf hh := vx_table (x := y) B (hts _ List.mem_cons_self)
  have hl := lv_entry As (n := mL) hlen
  rw [lg_entry_eq]
  exact body p e s m As.toArray below meth c _ ⟨⟨⟨B.exec, B.bytes, hml, findClass_of_methodNamed B.named, hts⟩, hK, B.returns, B.notSynchronized, fun x h => Or.inr h, fun x h => h.elim (hS2 x) (fun h => Nat.le_trans (by rw [hsz]; exact hS1) h), hS0⟩, ht, hX, hN⟩ hsz.symm hP (va_D_AL hD0) va_S.rf hl
theorem va_P_pre {D : va_G} {cl : List vw_C} {w v : va_W} {H : Heap} (h : va_P D cl (w ++ v) H) : va_P D cl w H := va_P_mem h (fun _ hx => List.mem_append_left _ hx)
theorem va_D_pre {A : Nat → Prop} {w v : va_W} (h : va_D A (w ++ v)) : va_D A w := by
  obtain ⟨h1, h2⟩ := va_D_nd.mp h
  rw [fs_app] at h1 h2
  exact va_D_nd.mpr ⟨(List.nodup_append.mp h1).1, fun x hx => h2 x (List.mem_append_left _ hx)⟩
/-- behind a call on the world's first part -/
theorem va_glue {A : Nat → Prop} {D : va_G} {cl : List vw_C} {wc wc' wr : va_W} {H H1 : Heap} (hP : va_P D cl (wc ++ wr) H) (hD : va_D A (wc ++ wr)) (hk : ∀ q : Nat, q < H.size → q ∉ fs wc → H1[q]? = H[q]?) (hA : ∀ q, AL (fs wc) H.size q → A q) (hP1 : va_P D cl wc' H1) (hD1 : va_D (AL (fs wc) H.size) wc') : va_P D cl (wc' ++ wr) H1 ∧ va_D A (wc' ++ wr) := by
  obtain ⟨n1, n2⟩ := va_D_nd.mp hD
  rw [fs_app] at n1 n2
  obtain ⟨-, b2, b3⟩ := List.nodup_append.mp n1
  have hr : ∀ (k : Nat) (q : Nat × va_E), wr[k]? = some q → q.1 < H.size ∧ q.1 ∉ fs wc := by
    intro k q hq
    have hm : q ∈ wr := List.mem_of_getElem? hq
    obtain ⟨i, hi⟩ := List.getElem?_of_mem (List.mem_append_right wc hm)
    exact ⟨(hP i q hi).lt, fun hx => b3 q.1 hx q.1 (List.mem_map.mpr ⟨q, hm, rfl⟩) rfl⟩
  refine ⟨va_P.app hP1 (fun k q hq => ?_), va_D.app (hD1.weaken (fun _ _ _ h => hA _ h)) (va_D_nd.mpr ⟨b2, fun x hx => n2 x (List.mem_append_right _ hx)⟩) (fun i j p q hp hq e => ?_)⟩
  · obtain ⟨i, hi⟩ := List.getElem?_of_mem (List.mem_append_right wc (List.mem_of_getElem? hq))
    exact (hP i q hi).kept (hk q.1 (hr k q hq).1 (hr k q hq).2)
  · obtain ⟨g1, g2⟩ := hr j q hq
    rcases hD1.2 i p hp with h | h
    · exact g2 (e ▸ h)
    · rw [e] at h; omega
theorem fs_wZ {G : Ev} {a : Nat → Nat} {z z1 q q1 : Pc4} (hz : z1.2.1 15 = z.2.1 15) : fs (wZ G a z1 q1) = fs (wZ G a z q) := by
  unfold wZ
  rw [fs_app, fs_app, fs_tls (q := z) (q1 := z1) (fun k _ => by rw [hz])]
  rfl
theorem zD_AL {G : Ev} {A : Nat → Prop} {a : Nat → Nat} {z z1 q q1 : Pc4} {sz : Nat} (hz : z1.2.1 15 = z.2.1 15) (h : va_D A (wZ G a z q)) : va_D (AL (fs (wZ G a z q)) sz) (wZ G a z1 q1) := va_D_same (fs_wZ hz) (va_D_AL h)
section
variable {p : Program} {l : Launch} {e : Env} {R : Room} {s : State} {m : MethodId} {args : Array Value} {below : List Frame} {meth : Method} {c : Code} {H : Heap} {locs : List Loc} {cells slots : Nat} {Q : State → Prop} {cc : ByteArray} {nL : Nat} {rt : Option FieldType} {own : String} {c0 : Cond} {G : Ev} {pc : Nat} {ls : Array Slot} {rest st0 : List Value} {A : Nat → Prop} {ws wc wc' wr : va_W}
theorem pre_ofY (X : CX p s m args meth c cc nL rt own c0 G A) (hX : Stx G s s.heap) (hS : va_S A s.heap H locs) (hPc : va_P (DD G) vwCl wc H) (hDc : va_D A wc) (As : List Value) : ∀ U : State, U.heap = H → s.WarmedH U.vm → va_Pc As (PreX G wc H.size) As.toArray U := fun U hU hW =>
  ⟨rfl, (pre_of X hS hPc hDc As U hU hW).2, by rw [hU]; exact hX.go hW (fun x h1 h2 => hS.2.1 x h1 (fun z => h2 (X.2.2.2.2.2.1 x z)))⟩
theorem lret {L : List Nat} {v : Int32} {a : Nat → Nat} {o : Nat} {res : LRes} (a1 : Nat → Nat) (X : CX p s m args meth c cc nL (some .int) own c0 G A) (hr : v = res.1) (ha : a1 0 = a 0) (hP : va_P (DD G) vwCl (wL G a1 res.2.1 res.2.2.1 o res.2.2.2) H) (hD : va_D (AL L s.heap.size) (wL G a1 res.2.1 res.2.2.1 o res.2.2.2)) (hS : va_S (AL L s.heap.size) s.heap H locs) (hdg : decode cc pc = .ok (.ireturn, 1)) :
    W p l e R s m args below meth c H locs cells slots (MQ below (va_Qi (fun r' (a1 : Nat → Nat) => r' = res.1 ∧ a1 0 = a 0) (fun a1 t => va_P (DD G) vwCl (wL G a1 res.2.1 res.2.2.1 o res.2.2.2) t.heap ∧ va_D (AL L s.heap.size) (wL G a1 res.2.1 res.2.2.1 o res.2.2.2)) (AL L s.heap.size)) args s cells slots (AL L s.heap.size)) (F0 m pc ls [.int v]) :=
  W.iret X.1.1 X.1.2.1 X.2.2.1 (fun t ht hW => ⟨⟨v, a1, rfl, ⟨hr, ha⟩, by subst ht; exact hP, hD⟩, hS.F ht⟩) hS.2.2 hdg X.2.2.2.1
theorem outSt {a : Nat → Nat} {z q : Pc4} {o : Nat} {f : Nat → Int64} {v : Int64} (X : CX p s m args meth c cc nL rt own c0 G A) (hP : va_P (DD G) vwCl (wL G a z q o f) H) (hD : va_D A (wL G a z q o f)) (hS : va_S A s.heap H locs) (hdg : decode cc pc = .ok (.lastore, 1))
    (kk : ∀ (H1 : Heap) (locs1 : List Loc), va_P (DD G) vwCl (wL G a z q o (vp_updL f 0 v)) H1 → va_D A (wL G a z q o (vp_updL f 0 v)) → va_S A s.heap H1 locs1 → W p l e R s m args below meth c H1 locs1 cells slots Q (F0 m (pc + 1) ls rest)) : W p l e R s m args below meth c H locs cells slots Q (F0 m pc ls (.long v :: .int 0 :: .ref o :: rest)) := by
  have hs : ∀ y : Nat × va_E, (wL G a z q o f).set (wZ G a z q).length y = wZ G a z q ++ [y] := by
    intro y
    unfold wL
    rw [List.set_append_right _ _ (Nat.le_refl _), Nat.sub_self]
    rfl
  refine va_last (D := DD G) (tys := TY G) X.1.1 X.1.2.1 X.2.1 hP hD hS (wZ G a z q).length 3 (cA := cA G 3) (n := 1) (f := f) (by unfold wL; simp [oA]) rfl (by unfold vp_in; decide) hdg (fun H1 locs1 hP1 hD1 hS1 => ?_)
  rw [hs] at hP1 hD1
  exact kk H1 locs1 hP1 hD1 hS1
theorem lcI_t {y : MethodName} {b : ByteArray} {mL : Nat} {rt2 : Option FieldType} {fr lo mc ms n ad idx : Nat} {As : List Value} {C : String} (k : Nat) (X : CX p s m args meth c cc nL rt own c0 G A) (hX : Stx G s s.heap) (hc : XtI l G y b mL rt2 fr lo mc ms (.ref ad :: As) wc wc' (.inl k))
    (hG : GoodIn (c0 :: big) (wsV own idx C y (wU y b mL rt2))) (hd : y.cls = C ∧ y.cls ≠ "java/lang/invoke/MethodHandle" ∧ y.cls ≠ "java/lang/invoke/VarHandle" ∧ (parseMethodDescriptor y.desc).map (fun d => d.parameters.length) = some n) (hR : fr + 1 ≤ R.frames ∧ 8 + (mL + 11) + lo ≤ R.locals)
    (hrecv : ∃ cell : Cell, H[ad]? = some cell ∧ cell.vm.isStatics = false ∧ s.vm.findClass C = some cell.cls) (hPc : va_P (DD G) vwCl wc H) (hDc : va_D A wc) (hS : va_S A s.heap H locs)
    (hst : st0 = As.reverse ++ .ref ad :: rest) (hn : As.length = n) (hl : ls.size = nL) (hW : (rest.map fun v => v.category).sum ≤ 8) (hdg : decode cc pc = .ok (.invokevirtual idx, 3)) (hf : cells + mc ≤ R.cells ∧ slots + ms ≤ R.slots)
    (kx : ∀ (ce : Cell) (q9 : Addr) (H1 : Heap) (locs1 : List Loc), va_P (DD G) vwCl wc H1 → (∀ q : Nat, q < H.size → q ∉ fs wc → H1[q]? = H[q]?) → va_S A s.heap H1 locs1 → H1[q9]? = some ce → ce.vm = .none → s.vm.findClass (exn k) = some ce.cls → vx_W p l e R s m args below meth c H1 locs1 (cells + mc) (slots + ms) Q (F0 m pc ls rest) q9) : W p l e R s m args below meth c H locs cells slots Q (F0 m pc ls st0) := by
  have hA := AL_sub hS X.2.2.2.2.1 hDc
  refine vx_calli (vx_runV (As := As) (rest := rest) X.1 (hc H.size) (cwV n X.1.2.2.2.2 hG rfl rfl rfl hd hR) ⟨blindX, hrecv, pre_ofY X hX hS hPc hDc (.ref ad :: As)⟩ rfl hn hl hst (lv_room hW) hdg hf) hS (fun q _ h => hA q h) hA (fun q _ h => hA q h) (fun E ce q9 u t H1 locs1 ht hvm hp hB hz hk hS1 g1 g2 g3 => ?_) (fun r1 u t H1 locs1 ht hvm hw hB hz1 hk1 hS1 => by cases hw)
  obtain ⟨⟨k', e1, e2⟩, hB⟩ := hB
  cases e1
  subst ht; subst e2
  exact kx ce q9 _ _ hB (fun q h1 h2 => hk q h1 (fun z => z.elim h2 (fun z => absurd h1 (Nat.not_lt.mpr z)))) hS1 g1 g2 g3
theorem lcI {y : MethodName} {b : ByteArray} {mL : Nat} {rt2 : Option FieldType} {fr lo mc ms n ad idx : Nat} {As : List Value} {C : String} {v : Int32} (X : CX p s m args meth c cc nL rt own c0 G A) (hX : Stx G s s.heap) (hc : XtI l G y b mL rt2 fr lo mc ms (.ref ad :: As) wc wc' (.inr v))
    (hG : GoodIn (c0 :: big) (wsV own idx C y (wU y b mL rt2))) (hd : y.cls = C ∧ y.cls ≠ "java/lang/invoke/MethodHandle" ∧ y.cls ≠ "java/lang/invoke/VarHandle" ∧ (parseMethodDescriptor y.desc).map (fun d => d.parameters.length) = some n) (hR : fr + 1 ≤ R.frames ∧ 8 + (mL + 11) + lo ≤ R.locals)
    (hrecv : ∃ cell : Cell, H[ad]? = some cell ∧ cell.vm.isStatics = false ∧ s.vm.findClass C = some cell.cls) (hPc : va_P (DD G) vwCl wc H) (hDc : va_D A wc) (hS : va_S A s.heap H locs)
    (hst : st0 = As.reverse ++ .ref ad :: rest) (hn : As.length = n) (hl : ls.size = nL) (hW : (rest.map fun v => v.category).sum ≤ 8) (hdg : decode cc pc = .ok (.invokevirtual idx, 3)) (hf : cells + mc ≤ R.cells ∧ slots + ms ≤ R.slots)
    (kk : ∀ (H1 : Heap) (locs1 : List Loc), va_P (DD G) vwCl wc' H1 → (∀ q : Nat, q < H.size → q ∉ fs wc → H1[q]? = H[q]?) → va_S A s.heap H1 locs1 → W p l e R s m args below meth c H1 locs1 (cells + mc) (slots + ms) Q (F0 m (pc + 3) ls (.int v :: rest))) : W p l e R s m args below meth c H locs cells slots Q (F0 m pc ls st0) := by
  have hA := AL_sub hS X.2.2.2.2.1 hDc
  refine vx_calli (vx_runV (As := As) (rest := rest) X.1 (hc H.size) (cwV n X.1.2.2.2.2 hG rfl rfl rfl hd hR) ⟨blindX, hrecv, pre_ofY X hX hS hPc hDc (.ref ad :: As)⟩ rfl hn hl hst (lv_room hW) hdg hf) hS (fun q _ h => hA q h) hA (fun q _ h => hA q h) (fun E ce q9 u t H1 locs1 ht hvm hp hB hz hk hS1 g1 g2 g3 => by obtain ⟨⟨k', e1, -⟩, -⟩ := hB; cases e1) (fun r1 u t H1 locs1 ht hvm hw hB hz1 hk1 hS1 => ?_)
  cases hw
  subst ht
  exact kk _ _ hB (fun q h1 h2 => hk1 q h1 (fun z => z.elim h2 (fun z => absurd h1 (Nat.not_lt.mpr z)))) hS1
theorem lcJ_t {y : MethodName} {b : ByteArray} {mL : Nat} {rt2 : Option FieldType} {fr lo mc ms n ad idx : Nat} {As : List Value} {C : String} (k : Nat) (X : CX p s m args meth c cc nL rt own c0 G A) (hX : Stx G s s.heap) (hc : XtJ l G y b mL rt2 fr lo mc ms (.ref ad :: As) wc wc' (.inl k))
    (hG : GoodIn (c0 :: big) (wsV own idx C y (wU y b mL rt2))) (hd : y.cls = C ∧ y.cls ≠ "java/lang/invoke/MethodHandle" ∧ y.cls ≠ "java/lang/invoke/VarHandle" ∧ (parseMethodDescriptor y.desc).map (fun d => d.parameters.length) = some n) (hR : fr + 1 ≤ R.frames ∧ 8 + (mL + 11) + lo ≤ R.locals)
    (hrecv : ∃ cell : Cell, H[ad]? = some cell ∧ cell.vm.isStatics = false ∧ s.vm.findClass C = some cell.cls) (hPc : va_P (DD G) vwCl wc H) (hDc : va_D A wc) (hS : va_S A s.heap H locs)
    (hst : st0 = As.reverse ++ .ref ad :: rest) (hn : As.length = n) (hl : ls.size = nL) (hW : (rest.map fun v => v.category).sum ≤ 8) (hdg : decode cc pc = .ok (.invokevirtual idx, 3)) (hf : cells + mc ≤ R.cells ∧ slots + ms ≤ R.slots)
    (kx : ∀ (ce : Cell) (q9 : Addr) (H1 : Heap) (locs1 : List Loc), va_P (DD G) vwCl wc H1 → (∀ q : Nat, q < H.size → q ∉ fs wc → H1[q]? = H[q]?) → va_S A s.heap H1 locs1 → H1[q9]? = some ce → ce.vm = .none → s.vm.findClass (exn k) = some ce.cls → vx_W p l e R s m args below meth c H1 locs1 (cells + mc) (slots + ms) Q (F0 m pc ls rest) q9) : W p l e R s m args below meth c H locs cells slots Q (F0 m pc ls st0) := by
  have hA := AL_sub hS X.2.2.2.2.1 hDc
  refine vx_calll (vx_runV (As := As) (rest := rest) X.1 (hc H.size) (cwV n X.1.2.2.2.2 hG rfl rfl rfl hd hR) ⟨blindX, hrecv, pre_ofY X hX hS hPc hDc (.ref ad :: As)⟩ rfl hn hl hst (lv_room hW) hdg hf) hS (fun q _ h => hA q h) hA (fun q _ h => hA q h) (fun E ce q9 u t H1 locs1 ht hvm hp hB hz hk hS1 g1 g2 g3 => ?_) (fun r1 u t H1 locs1 ht hvm hw hB hz1 hk1 hS1 => by cases hw)
  obtain ⟨⟨k', e1, e2⟩, hB⟩ := hB
  cases e1
  subst ht; subst e2
  exact kx ce q9 _ _ hB (fun q h1 h2 => hk q h1 (fun z => z.elim h2 (fun z => absurd h1 (Nat.not_lt.mpr z)))) hS1 g1 g2 g3
theorem lcJ {y : MethodName} {b : ByteArray} {mL : Nat} {rt2 : Option FieldType} {fr lo mc ms n ad idx : Nat} {As : List Value} {C : String} {v : Int64} (X : CX p s m args meth c cc nL rt own c0 G A) (hX : Stx G s s.heap) (hc : XtJ l G y b mL rt2 fr lo mc ms (.ref ad :: As) wc wc' (.inr v))
    (hG : GoodIn (c0 :: big) (wsV own idx C y (wU y b mL rt2))) (hd : y.cls = C ∧ y.cls ≠ "java/lang/invoke/MethodHandle" ∧ y.cls ≠ "java/lang/invoke/VarHandle" ∧ (parseMethodDescriptor y.desc).map (fun d => d.parameters.length) = some n) (hR : fr + 1 ≤ R.frames ∧ 8 + (mL + 11) + lo ≤ R.locals)
    (hrecv : ∃ cell : Cell, H[ad]? = some cell ∧ cell.vm.isStatics = false ∧ s.vm.findClass C = some cell.cls) (hPc : va_P (DD G) vwCl wc H) (hDc : va_D A wc) (hS : va_S A s.heap H locs)
    (hst : st0 = As.reverse ++ .ref ad :: rest) (hn : As.length = n) (hl : ls.size = nL) (hW : (rest.map fun v => v.category).sum ≤ 8) (hdg : decode cc pc = .ok (.invokevirtual idx, 3)) (hf : cells + mc ≤ R.cells ∧ slots + ms ≤ R.slots)
    (kk : ∀ (H1 : Heap) (locs1 : List Loc), va_P (DD G) vwCl wc' H1 → (∀ q : Nat, q < H.size → q ∉ fs wc → H1[q]? = H[q]?) → va_S A s.heap H1 locs1 → W p l e R s m args below meth c H1 locs1 (cells + mc) (slots + ms) Q (F0 m (pc + 3) ls (.long v :: rest))) : W p l e R s m args below meth c H locs cells slots Q (F0 m pc ls st0) := by
  have hA := AL_sub hS X.2.2.2.2.1 hDc
  refine vx_calll (vx_runV (As := As) (rest := rest) X.1 (hc H.size) (cwV n X.1.2.2.2.2 hG rfl rfl rfl hd hR) ⟨blindX, hrecv, pre_ofY X hX hS hPc hDc (.ref ad :: As)⟩ rfl hn hl hst (lv_room hW) hdg hf) hS (fun q _ h => hA q h) hA (fun q _ h => hA q h) (fun E ce q9 u t H1 locs1 ht hvm hp hB hz hk hS1 g1 g2 g3 => by obtain ⟨⟨k', e1, -⟩, -⟩ := hB; cases e1) (fun r1 u t H1 locs1 ht hvm hw hB hz1 hk1 hS1 => ?_)
  cases hw
  subst ht
  exact kk _ _ hB (fun q h1 h2 => hk1 q h1 (fun z => z.elim h2 (fun z => absurd h1 (Nat.not_lt.mpr z)))) hS1
theorem lcV_t {y : MethodName} {b : ByteArray} {mL : Nat} {rt2 : Option FieldType} {fr lo mc ms n ad idx : Nat} {As : List Value} {C : String} (k : Nat) (X : CX p s m args meth c cc nL rt own c0 G A) (hX : Stx G s s.heap) (hc : XtV l G y b mL rt2 fr lo mc ms (.ref ad :: As) wc wc' (some k))
    (hG : GoodIn (c0 :: big) (wsV own idx C y (wU y b mL rt2))) (hd : y.cls = C ∧ y.cls ≠ "java/lang/invoke/MethodHandle" ∧ y.cls ≠ "java/lang/invoke/VarHandle" ∧ (parseMethodDescriptor y.desc).map (fun d => d.parameters.length) = some n) (hR : fr + 1 ≤ R.frames ∧ 8 + (mL + 11) + lo ≤ R.locals)
    (hrecv : ∃ cell : Cell, H[ad]? = some cell ∧ cell.vm.isStatics = false ∧ s.vm.findClass C = some cell.cls) (hPc : va_P (DD G) vwCl wc H) (hDc : va_D A wc) (hS : va_S A s.heap H locs)
    (hst : st0 = As.reverse ++ .ref ad :: rest) (hn : As.length = n) (hl : ls.size = nL) (hW : (rest.map fun v => v.category).sum ≤ 8) (hdg : decode cc pc = .ok (.invokevirtual idx, 3)) (hf : cells + mc ≤ R.cells ∧ slots + ms ≤ R.slots)
    (kx : ∀ (ce : Cell) (q9 : Addr) (H1 : Heap) (locs1 : List Loc), va_P (DD G) vwCl wc H1 → (∀ q : Nat, q < H.size → q ∉ fs wc → H1[q]? = H[q]?) → va_S A s.heap H1 locs1 → H1[q9]? = some ce → ce.vm = .none → s.vm.findClass (exn k) = some ce.cls → vx_W p l e R s m args below meth c H1 locs1 (cells + mc) (slots + ms) Q (F0 m pc ls rest) q9) : W p l e R s m args below meth c H locs cells slots Q (F0 m pc ls st0) := by
  have hA := AL_sub hS X.2.2.2.2.1 hDc
  refine vx_callv (vx_runV (As := As) (rest := rest) X.1 (hc H.size) (cwV n X.1.2.2.2.2 hG rfl rfl rfl hd hR) ⟨blindX, hrecv, pre_ofY X hX hS hPc hDc (.ref ad :: As)⟩ rfl hn hl hst (lv_room hW) hdg hf) hS (fun q _ h => hA q h) hA (fun q _ h => hA q h) (fun E ce q9 u t H1 locs1 ht hvm hp hB hz hk hS1 g1 g2 g3 => ?_) (fun u t H1 locs1 ht hvm hw hB hz1 hk1 hS1 => by cases hw)
  obtain ⟨⟨k', e1, e2⟩, hB⟩ := hB
  cases e1
  subst ht; subst e2
  exact kx ce q9 _ _ hB (fun q h1 h2 => hk q h1 (fun z => z.elim h2 (fun z => absurd h1 (Nat.not_lt.mpr z)))) hS1 g1 g2 g3
theorem lcV {y : MethodName} {b : ByteArray} {mL : Nat} {rt2 : Option FieldType} {fr lo mc ms n ad idx : Nat} {As : List Value} {C : String} (X : CX p s m args meth c cc nL rt own c0 G A) (hX : Stx G s s.heap) (hc : XtV l G y b mL rt2 fr lo mc ms (.ref ad :: As) wc wc' none)
    (hG : GoodIn (c0 :: big) (wsV own idx C y (wU y b mL rt2))) (hd : y.cls = C ∧ y.cls ≠ "java/lang/invoke/MethodHandle" ∧ y.cls ≠ "java/lang/invoke/VarHandle" ∧ (parseMethodDescriptor y.desc).map (fun d => d.parameters.length) = some n) (hR : fr + 1 ≤ R.frames ∧ 8 + (mL + 11) + lo ≤ R.locals)
    (hrecv : ∃ cell : Cell, H[ad]? = some cell ∧ cell.vm.isStatics = false ∧ s.vm.findClass C = some cell.cls) (hPc : va_P (DD G) vwCl wc H) (hDc : va_D A wc) (hS : va_S A s.heap H locs)
    (hst : st0 = As.reverse ++ .ref ad :: rest) (hn : As.length = n) (hl : ls.size = nL) (hW : (rest.map fun v => v.category).sum ≤ 8) (hdg : decode cc pc = .ok (.invokevirtual idx, 3)) (hf : cells + mc ≤ R.cells ∧ slots + ms ≤ R.slots)
    (kk : ∀ (H1 : Heap) (locs1 : List Loc), va_P (DD G) vwCl wc' H1 → (∀ q : Nat, q < H.size → q ∉ fs wc → H1[q]? = H[q]?) → va_S A s.heap H1 locs1 → W p l e R s m args below meth c H1 locs1 (cells + mc) (slots + ms) Q (F0 m (pc + 3) ls rest)) : W p l e R s m args below meth c H locs cells slots Q (F0 m pc ls st0) := by
  have hA := AL_sub hS X.2.2.2.2.1 hDc
  refine vx_callv (vx_runV (As := As) (rest := rest) X.1 (hc H.size) (cwV n X.1.2.2.2.2 hG rfl rfl rfl hd hR) ⟨blindX, hrecv, pre_ofY X hX hS hPc hDc (.ref ad :: As)⟩ rfl hn hl hst (lv_room hW) hdg hf) hS (fun q _ h => hA q h) hA (fun q _ h => hA q h) (fun E ce q9 u t H1 locs1 ht hvm hp hB hz hk hS1 g1 g2 g3 => by obtain ⟨⟨k', e1, -⟩, -⟩ := hB; cases e1) (fun u t H1 locs1 ht hvm hw hB hz1 hk1 hS1 => ?_)
  subst ht
  exact kk _ _ hB (fun q h1 h2 => hk1 q h1 (fun z => z.elim h2 (fun z => absurd h1 (Nat.not_lt.mpr z)))) hS1
theorem lcT_t {y : MethodName} {b : ByteArray} {mL : Nat} {rt2 : Option FieldType} {fr lo mc ms n ad idx : Nat} {As : List Value} {C : String} {a : Nat → Nat} (k : Nat) (X : CX p s m args meth c cc nL rt own c0 G A) (hX : Stx G s s.heap) (hc : XtT l G y b mL rt2 fr lo mc ms (.ref ad :: As) a wc (.inl k))
    (hG : GoodIn (c0 :: big) (wsV own idx C y (wU y b mL rt2))) (hd : y.cls = C ∧ y.cls ≠ "java/lang/invoke/MethodHandle" ∧ y.cls ≠ "java/lang/invoke/VarHandle" ∧ (parseMethodDescriptor y.desc).map (fun d => d.parameters.length) = some n) (hR : fr + 1 ≤ R.frames ∧ 8 + (mL + 11) + lo ≤ R.locals)
    (hrecv : ∃ cell : Cell, H[ad]? = some cell ∧ cell.vm.isStatics = false ∧ s.vm.findClass C = some cell.cls) (hPc : va_P (DD G) vwCl wc H) (hDc : va_D A wc) (hS : va_S A s.heap H locs)
    (hst : st0 = As.reverse ++ .ref ad :: rest) (hn : As.length = n) (hl : ls.size = nL) (hW : (rest.map fun v => v.category).sum ≤ 8) (hdg : decode cc pc = .ok (.invokevirtual idx, 3)) (hf : cells + mc ≤ R.cells ∧ slots + ms ≤ R.slots)
    (kx : ∀ (ce : Cell) (q9 : Addr) (H1 : Heap) (locs1 : List Loc), va_P (DD G) vwCl wc H1 → (∀ q : Nat, q < H.size → q ∉ fs wc → H1[q]? = H[q]?) → va_S A s.heap H1 locs1 → H1[q9]? = some ce → ce.vm = .none → s.vm.findClass (exn k) = some ce.cls → vx_W p l e R s m args below meth c H1 locs1 (cells + mc) (slots + ms) Q (F0 m pc ls rest) q9) : W p l e R s m args below meth c H locs cells slots Q (F0 m pc ls st0) := by
  have hA := AL_sub hS X.2.2.2.2.1 hDc
  refine vx_calli (vx_runV (As := As) (rest := rest) X.1 (hc H.size) (cwV n X.1.2.2.2.2 hG rfl rfl rfl hd hR) ⟨blindX, hrecv, pre_ofY X hX hS hPc hDc (.ref ad :: As)⟩ rfl hn hl hst (lv_room hW) hdg hf) hS (fun q _ h => hA q h) hA (fun q _ h => hA q h) (fun E ce q9 u t H1 locs1 ht hvm hp hB hz hk hS1 g1 g2 g3 => ?_) (fun r1 a1 t H1 locs1 ht hvm hw hB hz1 hk1 hS1 => by cases hw.1)
  obtain ⟨⟨k', e1, e2⟩, hB⟩ := hB
  cases e1
  subst ht; subst e2
  exact kx ce q9 _ _ hB (fun q h1 h2 => hk q h1 (fun z => z.elim h2 (fun z => absurd h1 (Nat.not_lt.mpr z)))) hS1 g1 g2 g3
theorem lcT {y : MethodName} {b : ByteArray} {mL : Nat} {rt2 : Option FieldType} {fr lo mc ms n ad idx : Nat} {As : List Value} {C : String} {a : Nat → Nat} {v : Int32} {z1 q1 : Pc4} (X : CX p s m args meth c cc nL rt own c0 G A) (hX : Stx G s s.heap) (hc : XtT l G y b mL rt2 fr lo mc ms (.ref ad :: As) a wc (.inr (v, z1, q1)))
    (hG : GoodIn (c0 :: big) (wsV own idx C y (wU y b mL rt2))) (hd : y.cls = C ∧ y.cls ≠ "java/lang/invoke/MethodHandle" ∧ y.cls ≠ "java/lang/invoke/VarHandle" ∧ (parseMethodDescriptor y.desc).map (fun d => d.parameters.length) = some n) (hR : fr + 1 ≤ R.frames ∧ 8 + (mL + 11) + lo ≤ R.locals)
    (hrecv : ∃ cell : Cell, H[ad]? = some cell ∧ cell.vm.isStatics = false ∧ s.vm.findClass C = some cell.cls) (hPc : va_P (DD G) vwCl wc H) (hDc : va_D A wc) (hS : va_S A s.heap H locs)
    (hst : st0 = As.reverse ++ .ref ad :: rest) (hn : As.length = n) (hl : ls.size = nL) (hW : (rest.map fun v => v.category).sum ≤ 8) (hdg : decode cc pc = .ok (.invokevirtual idx, 3)) (hf : cells + mc ≤ R.cells ∧ slots + ms ≤ R.slots)
    (kk : ∀ (a1 : Nat → Nat) (H1 : Heap) (locs1 : List Loc), a1 0 = a 0 → va_P (DD G) vwCl (wZ G a1 z1 q1) H1 → va_D (AL (fs wc) H.size) (wZ G a1 z1 q1) → (∀ q : Nat, q < H.size → q ∉ fs wc → H1[q]? = H[q]?) → va_S A s.heap H1 locs1 → W p l e R s m args below meth c H1 locs1 (cells + mc) (slots + ms) Q (F0 m (pc + 3) ls (.int v :: rest))) : W p l e R s m args below meth c H locs cells slots Q (F0 m pc ls st0) := by
  have hA := AL_sub hS X.2.2.2.2.1 hDc
  refine vx_calli (vx_runV (As := As) (rest := rest) X.1 (hc H.size) (cwV n X.1.2.2.2.2 hG rfl rfl rfl hd hR) ⟨blindX, hrecv, pre_ofY X hX hS hPc hDc (.ref ad :: As)⟩ rfl hn hl hst (lv_room hW) hdg hf) hS (fun q _ h => hA q h) hA (fun q _ h => hA q h) (fun E ce q9 u t H1 locs1 ht hvm hp hB hz hk hS1 g1 g2 g3 => by obtain ⟨⟨k', e1, -⟩, -⟩ := hB; cases e1) (fun r1 a1 t H1 locs1 ht hvm hw hB hz1 hk1 hS1 => ?_)
  obtain ⟨e1, e2⟩ := hw
  cases e1
  subst ht
  exact kk a1 _ _ e2 hB.1 hB.2 (fun q h1 h2 => hk1 q h1 (fun z => z.elim h2 (fun z => absurd h1 (Nat.not_lt.mpr z)))) hS1
end
def hL1 {α : Type} (k0 : Nat) (r : Option (Nat ⊕ α)) (z q : Pc4) (f : Nat → Int64) (g : α → LRes) : Option LRes := match r with | none => none | some (.inl k) => if k = k0 then some (1, z, q, f) else none | some (.inr x) => some (g x)
theorem hL1_s {α : Type} {k0 : Nat} {r : Option (Nat ⊕ α)} {z q : Pc4} {f : Nat → Int64} {g : α → LRes} {res : LRes} (h : hL1 k0 r z q f g = some res) : (r = some (.inl k0) ∧ res = (1, z, q, f)) ∨ ∃ x, r = some (.inr x) ∧ res = g x := by
  match r, h with
  | some (.inl k), h2 =>
    by_cases c : k = k0
    · subst c
      have h3 : some (1, z, q, f) = some res := (if_pos rfl).symm.trans h2
      exact Or.inl ⟨rfl, (Option.some.inj h3).symm⟩
    · have h3 : none = some res := (if_neg c).symm.trans h2
      cases h3
  | some (.inr x), h2 => exact Or.inr ⟨x, rfl, (Option.some.inj h2).symm⟩
def hL2 {α : Type} (r : Option (Nat ⊕ α)) (z q : Pc4) (f : Nat → Int64) (g : α → LRes) : Option LRes := match r with | none => none | some (.inl k) => if k = 1 then some (1, z, q, f) else if k = 0 then some (2, z, q, f) else none | some (.inr x) => some (g x)
theorem hL2_s {α : Type} {r : Option (Nat ⊕ α)} {z q : Pc4} {f : Nat → Int64} {g : α → LRes} {res : LRes} (h : hL2 r z q f g = some res) : (r = some (.inl 1) ∧ res = (1, z, q, f)) ∨ (r = some (.inl 0) ∧ res = (2, z, q, f)) ∨ ∃ x, r = some (.inr x) ∧ res = g x := by
  match r, h with
  | some (.inl k), h2 =>
    by_cases c : k = 1
    · subst c
      have h3 : some (1, z, q, f) = some res := h2
      exact Or.inl ⟨rfl, (Option.some.inj h3).symm⟩
    · have h3 := (if_neg c).symm.trans h2
      by_cases c2 : k = 0
      · subst c2
        have h3 : some (2, z, q, f) = some res := h2
        exact Or.inr (Or.inl ⟨rfl, (Option.some.inj h3).symm⟩)
      · have h3 : none = some res := (if_neg c2).symm.trans h3
        cases h3
  | some (.inr x), h2 => exact Or.inr (Or.inr ⟨x, rfl, (Option.some.inj h2).symm⟩)
theorem drop_fl {n : Nat} {z q z1 : Pc4} {x1 : Int32} (h : moQ7_drop n z x1 q = some (.inr z1)) : z1.2.1 15 = z.2.1 15 := by
  unfold moQ7_drop at h
  rcases bx_s h with ⟨k, -, h⟩ | ⟨k, -, h⟩
  · cases h
  · obtain ⟨-, h⟩ := gl_s h
    obtain ⟨-, h⟩ := gz_s h
    have h := Sum.inr.inj (Option.some.inj h)
    rw [← h]
    rfl
theorem except_fl {n : Nat} {z q : Pc4} {x1 x2 x3 : Int32} {r : Int32 × Pc4} (h : moQ7_except n z x1 x2 x3 q = some (.inr r)) : r.2.2.1 15 = z.2.1 15 := by
  unfold moQ7_except at h
  rcases bx_s h with ⟨k, -, h⟩ | ⟨k, -, h⟩
  · cases h
  · rcases bx_s h with ⟨k, -, h⟩ | ⟨-, -, h⟩
    · cases h
    · obtain ⟨-, h⟩ := gl_s h
      obtain ⟨-, h⟩ := gz_s h
      obtain ⟨v, f, -, h⟩ := bd2_s h
      obtain ⟨-, h⟩ := gb_s h
      have h := Sum.inr.inj (Option.some.inj h)
      rw [← h]
      exact fl_F (by omega)
theorem besides_fl {n : Nat} {z q : Pc4} {x1 x2 x3 : Int32} {r : Int32 × Pc4} (h : moQ7_besides n z x1 x2 x3 q = some (.inr r)) : r.2.2.1 15 = z.2.1 15 := by
  unfold moQ7_besides at h
  rcases bx_s h with ⟨k, -, h⟩ | ⟨k, -, h⟩
  · cases h
  · rcases bx_s h with ⟨k, -, h⟩ | ⟨-, -, h⟩
    · cases h
    · obtain ⟨-, h⟩ := gl_s h
      obtain ⟨-, h⟩ := gz_s h
      obtain ⟨v, f, -, h⟩ := bd2_s h
      obtain ⟨-, h⟩ := gb_s h
      have h := Sum.inr.inj (Option.some.inj h)
      rw [← h]
      exact fl_F (by omega)
