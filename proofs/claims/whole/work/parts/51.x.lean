/-! Methods that may throw: their contract's form, entry, ends, throws. -/
def exn (k : Nat) : String := if k = 0 then "java/lang/IllegalArgumentException" else "java/lang/IndexOutOfBoundsException"
def dcl (c : String) : MethodName := ⟨c, "<init>", "()V"⟩
def Stx (G : Ev) (U : State) (H : Heap) : Prop :=
  vx_Zq Bundle.tN "UNASSIGNED_STACK" Bundle.steD (sN G) U H ∧ vx_Zq Bundle.tN "SUPPRESSED_SENTINEL" Bundle.listD (sN G) U H ∧
  va_Nw (.declares (dcl "java/lang/RuntimeException")) U ∧ va_Nw (.declares (dcl "java/lang/Exception")) U ∧ va_Nw (.declares (dcl "java/lang/Throwable")) U ∧
  va_Nw (.castable (exn 0) (exn 0)) U ∧ va_Nw (.castable (exn 1) (exn 1)) U
theorem Stx.go {G : Ev} {u U : State} {H H1 : Heap} (hW : u.WarmedH U.vm) (hq : ∀ x : Nat, x < H.size → ¬ sN G x → H1[x]? = H[x]?) (h : Stx G u H) : Stx G U H1 := by
  obtain ⟨a, b, c1, c2, c3, d1, d2⟩ := h
  exact ⟨(a.moved hW.alike).kept hq, (b.moved hW.alike).kept hq, c1.warmD hW, c2.warmD hW, c3.warmD hW, d1.warmC hW, d2.warmC hW⟩
abbrev PreX (G : Ev) (ws : va_W) (sz : Nat) : State → Prop := fun U => Pre G ws sz U ∧ Stx G U U.heap
theorem blindX {As : List Value} {G : Ev} {ws : va_W} {sz : Nat} : FrameBlind (va_Pc As (PreX G ws sz)) := fun a U g mk q => by
  obtain ⟨q0, q1, q2⟩ := q
  obtain ⟨e1, e2⟩ := blind a U g mk ⟨q0, q1⟩
  exact ⟨e1, e2, q2.go (U := U.calling g mk a) (State.WarmedH.refl U) (fun _ _ _ => rfl)⟩
abbrev XC9 (G : Ev) (o : Option Nat) (ws : va_W) (A : Nat → Prop) : String → State → State → Prop := vx_X (fun _ : Unit => True) (fun E _ t => (∃ k, o = some k ∧ E = exn k) ∧ va_P (DD G) vwCl ws t.heap) A
def xk {α : Type} (r : Nat ⊕ α) : Option Nat := match r with | .inl k => some k | .inr _ => none
def xW {α : Type} (wf : α → va_W) (w : va_W) (r : Nat ⊕ α) : va_W := match r with | .inl _ => w | .inr x => wf x
def xm {α β : Type} (f : α → β) (r : Nat ⊕ α) : Nat ⊕ β := match r with | .inl k => .inl k | .inr x => .inr (f x)
def CXX (p : Program) (s : State) (m : MethodId) (args : Array Value) (meth : Method) (c : Code) (cc : ByteArray) (nL : Nat) (rt : Option FieldType) (own : String) (c0 : Cond) (G : Ev) (A : Nat → Prop) (l : Launch) : Prop :=
  CX p s m args meth c cc nL rt own c0 G A ∧ (∀ x ∈ c.exceptionTable.toList, False) ∧ Stx G s s.heap ∧ l.stackTraces = false
def XtI (l : Launch) (G : Ev) (y : MethodName) (b : ByteArray) (mL : Nat) (rt : Option FieldType) (fr lo mc ms : Nat) (As : List Value) (ws ws' : va_W) (r : Nat ⊕ Int32) : Prop :=
  ∀ sz : Nat, vx_Met l y (wU y b mL rt) { frames := fr, cells := mc, slots := ms, locals := lo } (va_Pc As (PreX G ws sz)) (va_Qi (fun r' (_ : Unit) => r = .inr r') (fun _ t => va_P (DD G) vwCl ws' t.heap) (AL (fs ws) sz)) (XC9 G (xk r) ws (AL (fs ws) sz)) mc ms (AL (fs ws) sz)
def XtJ (l : Launch) (G : Ev) (y : MethodName) (b : ByteArray) (mL : Nat) (rt : Option FieldType) (fr lo mc ms : Nat) (As : List Value) (ws ws' : va_W) (r : Nat ⊕ Int64) : Prop :=
  ∀ sz : Nat, vx_Met l y (wU y b mL rt) { frames := fr, cells := mc, slots := ms, locals := lo } (va_Pc As (PreX G ws sz)) (va_Ql (fun r' (_ : Unit) => r = .inr r') (fun _ t => va_P (DD G) vwCl ws' t.heap) (AL (fs ws) sz)) (XC9 G (xk r) ws (AL (fs ws) sz)) mc ms (AL (fs ws) sz)
def XtV (l : Launch) (G : Ev) (y : MethodName) (b : ByteArray) (mL : Nat) (rt : Option FieldType) (fr lo mc ms : Nat) (As : List Value) (ws ws' : va_W) (o : Option Nat) : Prop :=
  ∀ sz : Nat, vx_Met l y (wU y b mL rt) { frames := fr, cells := mc, slots := ms, locals := lo } (va_Pc As (PreX G ws sz)) (va_Qv (fun _ : Unit => o = none) (fun _ t => va_P (DD G) vwCl ws' t.heap) (AL (fs ws) sz)) (XC9 G o ws (AL (fs ws) sz)) mc ms (AL (fs ws) sz)
def XtR (l : Launch) (G : Ev) (y : MethodName) (b : ByteArray) (mL : Nat) (rt : Option FieldType) (fr lo mc ms : Nat) (As : List Value) (ws ws' : va_W) (ad : Nat → Nat) (r : Nat ⊕ Nat) : Prop :=
  ∀ sz : Nat, vx_Met l y (wU y b mL rt) { frames := fr, cells := mc, slots := ms, locals := lo } (va_Pc As (PreX G ws sz)) (va_Qe ad (fun r' (_ : Unit) => ∃ k, r' = some k ∧ r = .inr k) (fun _ t => va_P (DD G) vwCl ws' t.heap) (AL (fs ws) sz)) (XC9 G (xk r) ws (AL (fs ws) sz)) mc ms (AL (fs ws) sz)
theorem enterX {l : Launch} {G : Ev} {y : MethodName} {b : ByteArray} {mL : Nat} {rt : Option FieldType} {fr lo mc ms sz : Nat} {As : List Value} {ws : va_W} {Qc : Array Value → State → Outcome → State → Prop} {XC : String → State → State → Prop} (hst : l.stackTraces = false) (hpl : plainName y.cls = true) (hlen : (lg_sl As).length ≤ mL)
    (body : ∀ (p : Program) (e : Env) (s : State) (m : MethodId) (args : Array Value) (below : List Frame) (meth : Method) (c : Code) (ls : Array Slot), CXX p s m args meth c b mL rt y.cls (.code y b mL rt) G (AL (fs ws) s.heap.size) l → sz = s.heap.size → va_P (DD G) vwCl ws s.heap → va_D (AL (fs ws) s.heap.size) ws → va_S (AL (fs ws) s.heap.size) s.heap s.heap [] → lv_has ls mL (lv_args 0 As) →
      W p l e { frames := fr, cells := mc, slots := ms, locals := lo } s m args below meth c s.heap [] 0 0 (vx_MQ below Qc XC args s mc ms (AL (fs ws) sz)) (F0 m 0 ls [])) :
    vx_Met l y (wU y b mL rt) { frames := fr, cells := mc, slots := ms, locals := lo } (va_Pc As (PreX G ws sz)) Qc XC mc ms (AL (fs ws) sz) := by
  refine vx_ofW (cc := b) (maxL := mL) (ret := rt) hpl rfl ?_
  intro p e s m args below meth c s₁ B hml hnt hv
  obtain ⟨rfl, ⟨hsz, hP, hK, hD0, hS0, hS1, hS2⟩, hX⟩ := hv
  have hts := atoms_spec (ws := wU y b mL rt) B.pre
  have hl := lv_entry As (n := mL) hlen
  rw [lg_entry_eq]
  exact body p e s m As.toArray below meth c _ ⟨⟨⟨B.exec, B.bytes, hml, findClass_of_methodNamed B.named, hts⟩, hK, B.returns, B.notSynchronized, fun x h => Or.inr h, fun x h => h.elim (hS2 x) (fun h => Nat.le_trans (by rw [hsz]; exact hS1) h), hS0⟩, hnt, hX, hst⟩ hsz.symm hP (va_D_AL hD0) va_S.rf hl
section
variable {p : Program} {l : Launch} {e : Env} {R : Room} {s : State} {m : MethodId} {args : Array Value} {below : List Frame} {meth : Method} {c : Code} {H : Heap} {locs : List Loc} {cells slots mc ms : Nat} {Q : State → Prop} {cc : ByteArray} {nL : Nat} {rt : Option FieldType} {own : String} {c0 : Cond} {G : Ev} {pc : Nat} {ls : Array Slot} {rest st0 : List Value} {A : Nat → Prop} {ws wc wc' : va_W}
theorem xret_i {L : List Nat} {v : Int32} {r : Nat ⊕ Int32} {XC : String → State → State → Prop} (X : CX p s m args meth c cc nL (some .int) own c0 G A) (hr : r = .inr v) (hP : va_P (DD G) vwCl ws H) (hS : va_S (AL L s.heap.size) s.heap H locs) (hdg : decode cc pc = .ok (.ireturn, 1)) :
    W p l e R s m args below meth c H locs cells slots (vx_MQ below (va_Qi (fun r' (_ : Unit) => r = .inr r') (fun _ t => va_P (DD G) vwCl ws t.heap) (AL L s.heap.size)) XC args s cells slots (AL L s.heap.size)) (F0 m pc ls [.int v]) :=
  vx_ret (W.iret X.1.1 X.1.2.1 X.2.2.1 (fun t ht hW => ⟨⟨v, (), rfl, hr, by subst ht; exact hP⟩, hS.F ht⟩) hS.2.2 hdg X.2.2.2.1)
theorem xret_z {L : List Nat} {v : Int32} {r : Nat ⊕ Int32} {XC : String → State → State → Prop} (X : CX p s m args meth c cc nL (some .boolean) own c0 G A) (hn : narrow .boolean (.int v) = .int v) (hr : r = .inr v) (hP : va_P (DD G) vwCl ws H) (hS : va_S (AL L s.heap.size) s.heap H locs) (hdg : decode cc pc = .ok (.ireturn, 1)) :
    W p l e R s m args below meth c H locs cells slots (vx_MQ below (va_Qi (fun r' (_ : Unit) => r = .inr r') (fun _ t => va_P (DD G) vwCl ws t.heap) (AL L s.heap.size)) XC args s cells slots (AL L s.heap.size)) (F0 m pc ls [.int v]) :=
  vx_ret (W.zret X.1.1 X.1.2.1 X.2.2.1 hn (fun t ht hW => ⟨⟨v, (), rfl, hr, by subst ht; exact hP⟩, hS.F ht⟩) hS.2.2 hdg X.2.2.2.1)
theorem xret_l {L : List Nat} {v : Int64} {r : Nat ⊕ Int64} {XC : String → State → State → Prop} (X : CX p s m args meth c cc nL (some .long) own c0 G A) (hr : r = .inr v) (hP : va_P (DD G) vwCl ws H) (hS : va_S (AL L s.heap.size) s.heap H locs) (hdg : decode cc pc = .ok (.lreturn, 1)) :
    W p l e R s m args below meth c H locs cells slots (vx_MQ below (va_Ql (fun r' (_ : Unit) => r = .inr r') (fun _ t => va_P (DD G) vwCl ws t.heap) (AL L s.heap.size)) XC args s cells slots (AL L s.heap.size)) (F0 m pc ls [.long v]) :=
  vx_ret (W.lret X.1.1 X.1.2.1 X.2.2.1 (fun t ht hW => ⟨⟨v, (), rfl, hr, by subst ht; exact hP⟩, hS.F ht⟩) hS.2.2 hdg X.2.2.2.1)
theorem xret_v {L : List Nat} {o : Option Nat} {XC : String → State → State → Prop} (X : CX p s m args meth c cc nL none own c0 G A) (hr : o = none) (hP : va_P (DD G) vwCl ws H) (hS : va_S (AL L s.heap.size) s.heap H locs) (hdg : decode cc pc = .ok (.return_, 1)) :
    W p l e R s m args below meth c H locs cells slots (vx_MQ below (va_Qv (fun _ : Unit => o = none) (fun _ t => va_P (DD G) vwCl ws t.heap) (AL L s.heap.size)) XC args s cells slots (AL L s.heap.size)) (F0 m pc ls []) :=
  vx_ret (W.vret X.1.1 X.1.2.1 X.2.2.1 (fun t ht hW => ⟨⟨(), rfl, hr, by subst ht; exact hP⟩, hS.F ht⟩) hS.2.2 hdg X.2.2.2.1)
theorem xret_r {L : List Nat} {k : Nat} {ad : Nat → Nat} {r : Nat ⊕ Nat} {nm : String} {XC : String → State → State → Prop} (X : CX p s m args meth c cc nL (some (.object nm)) own c0 G A) (hr : r = .inr k) (hP : va_P (DD G) vwCl ws H) (hS : va_S (AL L s.heap.size) s.heap H locs) (hdg : decode cc pc = .ok (.areturn, 1)) :
    W p l e R s m args below meth c H locs cells slots (vx_MQ below (va_Qe ad (fun r' (_ : Unit) => ∃ k, r' = some k ∧ r = .inr k) (fun _ t => va_P (DD G) vwCl ws t.heap) (AL L s.heap.size)) XC args s cells slots (AL L s.heap.size)) (F0 m pc ls [.ref (ad k)]) :=
  vx_ret (W.aret X.1.1 X.1.2.1 X.2.2.1 (Or.inl ⟨nm, rfl⟩) (Or.inr ⟨_, rfl⟩) (fun t ht hW => ⟨⟨some k, (), rfl, ⟨k, rfl, hr⟩, by subst ht; exact hP⟩, hS.F ht⟩) hS.2.2 hdg X.2.2.2.1)
/-- 'throw new E()' in RuledCalendar -/
theorem xthr {L : List Nat} {o : Option Nat} {Qc : Array Value → State → Outcome → State → Prop} (k : Nat) {ik ic : Nat} (XX : CXX p s m args meth c cc nL rt own c0 G (AL L s.heap.size) l) (hk2 : k = 0 ∨ k = 1)
    (hk : Cond.classLink own ik (exn k) ∈ big) (hini : Cond.initialized (exn k) ∈ big) (hat : ∀ w ∈ (vx_at0 own ic (exn k) ["java/lang/RuntimeException", "java/lang/Exception"]).filter goodWord, w ∈ big)
    (hng : ∀ w ∈ (vx_at0 own ic (exn k) ["java/lang/RuntimeException", "java/lang/Exception"]).filter (fun w => !goodWord w), w ∈ ([.declares (dcl "java/lang/RuntimeException"), .declares (dcl "java/lang/Exception"), .declares (dcl "java/lang/Throwable"), .castable (exn 0) (exn 0), .castable (exn 1) (exn 1)] : List Cond))
    (hot : ∀ w ∈ Cond.classLink own ik (exn k) :: Cond.initialized (exn k) :: vx_at0 own ic (exn k) ["java/lang/RuntimeException", "java/lang/Exception"], vx_ot w = true)
    (ho : o = some k) (hP : va_P (DD G) vwCl ws H) (hS : va_S (AL L s.heap.size) s.heap H locs) (hl : ls.size = nL)
    (d0 : decode cc pc = .ok (.new ik, 3)) (d3 : decode cc (pc + 3) = .ok (.dup, 1)) (d4 : decode cc (pc + 4) = .ok (.invokespecial ic, 3)) (d7 : decode cc (pc + 7) = .ok (.athrow, 1))
    (hRf : 5 < R.frames) (hRl : (rest.map fun v => v.category).sum + 81 ≤ R.locals) (hRc : cells + 1 ≤ R.cells) (hRs : slots + 6 ≤ R.slots) (hc : cells + 1 ≤ mc) (hs : slots + 6 ≤ ms) :
    W p l e R s m args below meth c H locs cells slots (vx_MQ below Qc (XC9 G o ws (AL L s.heap.size)) args s mc ms (AL L s.heap.size)) (F0 m pc ls rest) := by
  obtain ⟨X, hnt, hX, hst⟩ := XX
  have hts := X.1.2.2.2.2
  have hAs := X.2.2.2.2.2.1
  have nw : ∀ w ∈ ([.declares (dcl "java/lang/RuntimeException"), .declares (dcl "java/lang/Exception"), .declares (dcl "java/lang/Throwable"), .castable (exn 0) (exn 0), .castable (exn 1) (exn 1)] : List Cond), w.before args s = true := by
    intro w hw
    simp only [List.mem_cons, List.not_mem_nil, or_false] at hw
    rcases hw with e | e | e | e | e <;> subst e
    · exact va_Nw.use rfl hX.2.2.1
    · exact va_Nw.use rfl hX.2.2.2.1
    · exact va_Nw.use rfl hX.2.2.2.2.1
    · exact va_Nw.use rfl hX.2.2.2.2.2.1
    · exact va_Nw.use rfl hX.2.2.2.2.2.2
  refine vx_throw0 (A := AL L s.heap.size) (names := ["java/lang/RuntimeException", "java/lang/Exception"]) X.1.1 X.1.2.1 hst X.1.2.2.2.1 (by rcases hk2 with e | e <;> subst e <;> decide +kernel) (by decide +kernel) (hts _ (List.mem_cons_of_mem _ hk)) (hts _ (List.mem_cons_of_mem _ hini))
    (vx_hat (fun w hw => hts _ (List.mem_cons_of_mem _ (hat w hw))) hng nw) hot (hX.1.narrow hAs) (hX.2.1.narrow hAs) hS (by rw [X.1.2.2.1]; exact hl) d0 d3 d4 d7 (fun x hx => (hnt x hx).elim) hRf hRl hRc hRs X.2.2.2.1 ?_ hS.2.2 hc hs
  intro t ht hz hkp
  refine ⟨(), trivial, ⟨⟨k, ho, rfl⟩, fun j q hq => (hP j q hq).kept (hkp q.1 (hP j q hq).lt)⟩, Nat.le_trans hS.1 hz, fun q h1 h2 => ?_⟩
  rw [hkp q (Nat.lt_of_lt_of_le h1 hS.1)]
  exact hS.2.1 q h1 h2
end
