/-! Constructors: their contract's form, rows of making. -/
theorem va_A_AL {ws : va_W} {sz x : Nat} : va_A ws sz x ↔ AL (fs ws) sz x := by
  constructor
  · rintro (⟨k, e, h⟩ | h)
    · exact Or.inl (List.mem_map.mpr ⟨(x, e), List.mem_of_getElem? h, rfl⟩)
    · exact Or.inr h
  · rintro (h | h)
    · obtain ⟨y, hy, rfl⟩ := List.mem_map.mp h
      obtain ⟨k, hk⟩ := List.getElem?_of_mem hy
      exact Or.inl ⟨k, y.2, hk⟩
    · exact Or.inr h
def CtN (l : Launch) (G : Ev) (y : MethodName) (b : ByteArray) (mL : Nat) (fr lo mc ms : Nat) (As : List Value) (ws : va_W) (B : (Nat → Nat) → va_W) : Prop :=
  ∀ sz : Nat, Met l y (wU y b mL none) { frames := fr, cells := mc, slots := ms, locals := lo } (va_Pc As (Pre G ws sz)) (va_Qv (fun _ : Nat → Nat => True) (fun a t => va_P (DD G) vwCl (B a) t.heap ∧ va_D (AL (fs ws) sz) (B a)) (AL (fs ws) sz)) mc ms (AL (fs ws) sz)
theorem enterI {l : Launch} {G : Ev} {y : MethodName} {b : ByteArray} {mL : Nat} {rt : Option FieldType} {fr lo mc ms sz : Nat} {As : List Value} {ws : va_W} {Qc : Array Value → State → Outcome → State → Prop} (hpl : plainName y.cls = true) (hlen : (lg_sl As).length ≤ mL)
    (body : ∀ (p : Program) (e : Env) (s : State) (m : MethodId) (args : Array Value) (below : List Frame) (meth : Method) (c : Code) (ls : Array Slot), CX p s m args meth c b mL rt y.cls (.code y b mL rt) G (AL (fs ws) s.heap.size) → meth.name = y.name → sz = s.heap.size → va_P (DD G) vwCl ws s.heap → va_D (AL (fs ws) s.heap.size) ws → va_S (AL (fs ws) s.heap.size) s.heap s.heap [] → lv_has ls mL (lv_args 0 As) →
      W p l e { frames := fr, cells := mc, slots := ms, locals := lo } s m args below meth c s.heap [] 0 0 (MQ below Qc args s mc ms (AL (fs ws) sz)) (F0 m 0 ls [])) :
    Met l y (wU y b mL rt) { frames := fr, cells := mc, slots := ms, locals := lo } (va_Pc As (Pre G ws sz)) Qc mc ms (AL (fs ws) sz) := by
  refine Met.ofW (cc := b) (maxL := mL) (ret := rt) hpl rfl ?_
  intro p e s m args below meth c s₁ B hml hv
  obtain ⟨rfl, hsz, hP, hK, hD0, hS0, hS1, hS2⟩ := hv
  have hts := atoms_spec (ws := wU y b mL rt) B.pre
  have hl := lv_entry As (n := mL) hlen
  rw [lg_entry_eq]
  exact body p e s m As.toArray below meth c _ ⟨⟨B.exec, B.bytes, hml, findClass_of_methodNamed B.named, hts⟩, hK, B.returns, B.notSynchronized, fun x h => Or.inr h, fun x h => h.elim (hS2 x) (fun h => Nat.le_trans (by rw [hsz]; exact hS1) h), hS0⟩ (name_of_methodNamed B.named B.method).1 hsz.symm hP (va_D_AL hD0) va_S.rf hl
section
variable {p : Program} {l : Launch} {e : Env} {R : Room} {s : State} {m : MethodId} {args : Array Value} {below : List Frame} {meth : Method} {c : Code} {H : Heap} {locs : List Loc} {cells slots : Nat} {Q : State → Prop} {cc : ByteArray} {nL : Nat} {rt : Option FieldType} {own : String} {c0 : Cond} {G : Ev} {pc : Nat} {ls : Array Slot} {rest st0 : List Value} {A : Nat → Prop} {ws wr wc : va_W}
theorem ret_new {B : (Nat → Nat) → va_W} {L : List Nat} (a : Nat → Nat) (C : CX p s m args meth c cc nL none own c0 G A) (hP : va_P (DD G) vwCl (B a) H) (hD : va_D (AL L s.heap.size) (B a)) (hS : va_S (AL L s.heap.size) s.heap H locs) (hdg : decode cc pc = .ok (.return_, 1)) :
    W p l e R s m args below meth c H locs cells slots (MQ below (va_Qv (fun _ : Nat → Nat => True) (fun a t => va_P (DD G) vwCl (B a) t.heap ∧ va_D (AL L s.heap.size) (B a)) (AL L s.heap.size)) args s cells slots (AL L s.heap.size)) (F0 m pc ls []) :=
  W.vret C.1.1 C.1.2.1 C.2.2.1 (fun t ht hW => ⟨⟨a, rfl, trivial, by subst ht; exact hP, hD⟩, hS.F ht⟩) hS.2.2 hdg C.2.2.2.1
theorem goI {y : MethodName} {b : ByteArray} {mL fr lo mc ms n ad idx : Nat} {As : List Value} {e0 : va_E} {B : (Nat → Nat) → va_W} (X : CX p s m args meth c cc nL rt own c0 G A) (hc : CtN l G y b mL fr lo mc ms (.ref ad :: As) [(ad, e0)] B)
    (w1 : Cond.methodLink own idx y ∈ big) (w2 : Cond.instanceMethod y ∈ big) (w3 : Cond.initialized y.cls ∈ big) (w4 : Cond.code y b mL none ∈ big) (hy : y.name = "<init>") (hd : y.cls ≠ "java/lang/invoke/MethodHandle" ∧ y.cls ≠ "java/lang/invoke/VarHandle" ∧ (parseMethodDescriptor y.desc).map (fun d => d.parameters.length) = some n) (hR : fr + 1 ≤ R.frames ∧ 8 + (mL + 11) + lo ≤ R.locals)
    (hP : va_P (DD G) vwCl ws H) (hD : va_D A ws) (hS : va_S A s.heap H locs) (isC isR : List Nat) (hC : isC.map (fun i => ws[i]?) = [(ad, e0)].map some) (hRr : isR.map (fun i => ws[i]?) = wr.map some) (hnd : va_nd isR = true) (hdis : ∀ i ∈ isR, i ∉ isC) (hPc : va_P (DD G) vwCl [(ad, e0)] H) (hDc : va_D A [(ad, e0)])
    (hst : st0 = As.reverse ++ .ref ad :: rest) (hn : As.length = n) (hl : ls.size = nL) (hW : (rest.map fun v => v.category).sum ≤ 8) (hdg : decode cc pc = .ok (.invokespecial idx, 3)) (hf : cells + mc ≤ R.cells ∧ slots + ms ≤ R.slots)
    (kk : ∀ (a : Nat → Nat) (H1 : Heap) (locs1 : List Loc), va_P (DD G) vwCl (wr ++ B a) H1 → va_D A (wr ++ B a) → va_S A s.heap H1 locs1 → W p l e R s m args below meth c H1 locs1 (cells + mc) (slots + ms) Q (F0 m (pc + 3) ls rest)) : W p l e R s m args below meth c H locs cells slots Q (F0 m pc ls st0) := by
  have hts := X.1.2.2.2.2
  refine va_callv (va_runI (As := As) (rest := rest) X.1 (hc H.size) (cwI n hts (gU w4) rfl rfl rfl (hts _ (List.mem_cons_of_mem _ w3)) (hts _ (List.mem_cons_of_mem _ w1)) (hts _ (List.mem_cons_of_mem _ w2)) hy hd hR) ⟨blind, pre_of X hS hPc hDc (.ref ad :: As)⟩ rfl hn hl hst (lv_room hW) hdg hf) hS (fun q _ h => AL_sub hS X.2.2.2.2.1 hDc q h) (AL_sub hS X.2.2.2.2.1 hDc) (fun a t H1 locs1 ht hvm hw hB hz1 hk1 hS1 => ?_)
  subst ht
  obtain ⟨hP1, hD1⟩ := va_join (wr := wr) (w1 := B a) hP hD isC isR hC hRr hnd hdis (fun q h1 h2 => hk1 q h1 (fun z => h2 (va_A_AL.mpr z))) (fun q h => AL_sub hS X.2.2.2.2.1 hDc q (va_A_AL.mp h)) hB.1 (hB.2.weaken (fun _ _ _ h => va_A_AL.mpr h))
  exact kk a _ _ hP1 hD1 hS1
theorem newI {n : Int32} {N : Nat} (X : CX p s m args meth c cc nL rt own c0 G A) (hw : Cond.arrayClass .int ∈ big) (hP : va_P (DD G) vwCl ws H) (hD : va_D A ws) (hS : va_S A s.heap H locs) (hn : ¬ n < 0) (hN : n.toNatClampNeg = N) (hb : N * 4 ≤ 536870912) (hc : cells + 1 ≤ R.cells) (hs : slots + N ≤ R.slots) (hdg : decode cc pc = .ok (.newarray .int, 2))
    (kk : ∀ (q : Nat) (H1 : Heap), va_P (DD G) vwCl (ws ++ [(q, .inl (cA G 2, N, .inl (fun _ => 0)))]) H1 → va_D A (ws ++ [(q, .inl (cA G 2, N, .inl (fun _ => 0)))]) → va_S A s.heap H1 locs → W p l e R s m args below meth c H1 locs (cells + 1) (slots + N) Q (F0 m (pc + 2) ls (.ref q :: rest))) : W p l e R s m args below meth c H locs cells slots Q (F0 m pc ls (.int n :: rest)) := by
  refine va_newa (atype := .int) (ty := .int) (a0 := (N, .inl (fun _ => 0))) X.1.1 X.1.2.1 (X.1.2.2.2.2 _ (List.mem_cons_of_mem _ hw)) rfl X.2.1 hP hD hS X.2.2.2.2.1 (fun cB => rfl) hn hN hb hc hs hdg (fun q cB H1 hK1 hP1 hD1 hS1 => ?_)
  have e1 : s.vm.findClass "[I" = some cB := (hK1.2 6 (cB, .int) rfl).2
  have e2 : s.vm.findClass "[I" = some (cA G 2) := (X.2.1.2 2 (cA G 2, .int) rfl).2
  cases e1.symm.trans e2
  exact kk q H1 hP1 hD1 hS1
theorem newZ {n : Int32} {N : Nat} (X : CX p s m args meth c cc nL rt own c0 G A) (hw : Cond.arrayClass .boolean ∈ big) (hP : va_P (DD G) vwCl ws H) (hD : va_D A ws) (hS : va_S A s.heap H locs) (hn : ¬ n < 0) (hN : n.toNatClampNeg = N) (hb : N * 1 ≤ 536870912) (hc : cells + 1 ≤ R.cells) (hs : slots + N ≤ R.slots) (hdg : decode cc pc = .ok (.newarray .boolean, 2))
    (kk : ∀ (q : Nat) (H1 : Heap), va_P (DD G) vwCl (ws ++ [(q, .inl (cA G 4, N, .inl (fun _ => 0)))]) H1 → va_D A (ws ++ [(q, .inl (cA G 4, N, .inl (fun _ => 0)))]) → va_S A s.heap H1 locs → W p l e R s m args below meth c H1 locs (cells + 1) (slots + N) Q (F0 m (pc + 2) ls (.ref q :: rest))) : W p l e R s m args below meth c H locs cells slots Q (F0 m pc ls (.int n :: rest)) := by
  refine va_newa (atype := .boolean) (ty := .boolean) (a0 := (N, .inl (fun _ => 0))) X.1.1 X.1.2.1 (X.1.2.2.2.2 _ (List.mem_cons_of_mem _ hw)) rfl X.2.1 hP hD hS X.2.2.2.2.1 (fun cB => rfl) hn hN hb hc hs hdg (fun q cB H1 hK1 hP1 hD1 hS1 => ?_)
  have e1 : s.vm.findClass "[Z" = some cB := (hK1.2 6 (cB, .boolean) rfl).2
  have e2 : s.vm.findClass "[Z" = some (cA G 4) := (X.2.1.2 4 (cA G 4, .boolean) rfl).2
  cases e1.symm.trans e2
  exact kk q H1 hP1 hD1 hS1
theorem newC {n : Int32} {N : Nat} (X : CX p s m args meth c cc nL rt own c0 G A) (hw : Cond.arrayClass .char ∈ big) (hP : va_P (DD G) vwCl ws H) (hD : va_D A ws) (hS : va_S A s.heap H locs) (hn : ¬ n < 0) (hN : n.toNatClampNeg = N) (hb : N * 2 ≤ 536870912) (hc : cells + 1 ≤ R.cells) (hs : slots + N ≤ R.slots) (hdg : decode cc pc = .ok (.newarray .char, 2))
    (kk : ∀ (q : Nat) (H1 : Heap), va_P (DD G) vwCl (ws ++ [(q, .inl (cA G 1, N, .inl (fun _ => 0)))]) H1 → va_D A (ws ++ [(q, .inl (cA G 1, N, .inl (fun _ => 0)))]) → va_S A s.heap H1 locs → W p l e R s m args below meth c H1 locs (cells + 1) (slots + N) Q (F0 m (pc + 2) ls (.ref q :: rest))) : W p l e R s m args below meth c H locs cells slots Q (F0 m pc ls (.int n :: rest)) := by
  refine va_newa (atype := .char) (ty := .char) (a0 := (N, .inl (fun _ => 0))) X.1.1 X.1.2.1 (X.1.2.2.2.2 _ (List.mem_cons_of_mem _ hw)) rfl X.2.1 hP hD hS X.2.2.2.2.1 (fun cB => rfl) hn hN hb hc hs hdg (fun q cB H1 hK1 hP1 hD1 hS1 => ?_)
  have e1 : s.vm.findClass "[C" = some cB := (hK1.2 6 (cB, .char) rfl).2
  have e2 : s.vm.findClass "[C" = some (cA G 1) := (X.2.1.2 1 (cA G 1, .char) rfl).2
  cases e1.symm.trans e2
  exact kk q H1 hP1 hD1 hS1
theorem newB {n : Int32} {N : Nat} (X : CX p s m args meth c cc nL rt own c0 G A) (hw : Cond.arrayClass .byte ∈ big) (hP : va_P (DD G) vwCl ws H) (hD : va_D A ws) (hS : va_S A s.heap H locs) (hn : ¬ n < 0) (hN : n.toNatClampNeg = N) (hb : N * 1 ≤ 536870912) (hc : cells + 1 ≤ R.cells) (hs : slots + N ≤ R.slots) (hdg : decode cc pc = .ok (.newarray .byte, 2))
    (kk : ∀ (q : Nat) (H1 : Heap), va_P (DD G) vwCl (ws ++ [(q, .inl (cA G 0, N, .inl (fun _ => 0)))]) H1 → va_D A (ws ++ [(q, .inl (cA G 0, N, .inl (fun _ => 0)))]) → va_S A s.heap H1 locs → W p l e R s m args below meth c H1 locs (cells + 1) (slots + N) Q (F0 m (pc + 2) ls (.ref q :: rest))) : W p l e R s m args below meth c H locs cells slots Q (F0 m pc ls (.int n :: rest)) := by
  refine va_newa (atype := .byte) (ty := .byte) (a0 := (N, .inl (fun _ => 0))) X.1.1 X.1.2.1 (X.1.2.2.2.2 _ (List.mem_cons_of_mem _ hw)) rfl X.2.1 hP hD hS X.2.2.2.2.1 (fun cB => rfl) hn hN hb hc hs hdg (fun q cB H1 hK1 hP1 hD1 hS1 => ?_)
  have e1 : s.vm.findClass "[B" = some cB := (hK1.2 6 (cB, .byte) rfl).2
  have e2 : s.vm.findClass "[B" = some (cA G 0) := (X.2.1.2 0 (cA G 0, .byte) rfl).2
  cases e1.symm.trans e2
  exact kk q H1 hP1 hD1 hS1
theorem newJ {n : Int32} {N : Nat} (X : CX p s m args meth c cc nL rt own c0 G A) (hw : Cond.arrayClass .long ∈ big) (hP : va_P (DD G) vwCl ws H) (hD : va_D A ws) (hS : va_S A s.heap H locs) (hn : ¬ n < 0) (hN : n.toNatClampNeg = N) (hb : N * 8 ≤ 536870912) (hc : cells + 1 ≤ R.cells) (hs : slots + N ≤ R.slots) (hdg : decode cc pc = .ok (.newarray .long, 2))
    (kk : ∀ (q : Nat) (H1 : Heap), va_P (DD G) vwCl (ws ++ [(q, .inl (cA G 3, N, .inr (.inl (fun _ => 0))))]) H1 → va_D A (ws ++ [(q, .inl (cA G 3, N, .inr (.inl (fun _ => 0))))]) → va_S A s.heap H1 locs → W p l e R s m args below meth c H1 locs (cells + 1) (slots + N) Q (F0 m (pc + 2) ls (.ref q :: rest))) : W p l e R s m args below meth c H locs cells slots Q (F0 m pc ls (.int n :: rest)) := by
  refine va_newa (atype := .long) (ty := .long) (a0 := (N, .inr (.inl (fun _ => 0)))) X.1.1 X.1.2.1 (X.1.2.2.2.2 _ (List.mem_cons_of_mem _ hw)) rfl X.2.1 hP hD hS X.2.2.2.2.1 (fun cB => rfl) hn hN hb hc hs hdg (fun q cB H1 hK1 hP1 hD1 hS1 => ?_)
  have e1 : s.vm.findClass "[J" = some cB := (hK1.2 6 (cB, .long) rfl).2
  have e2 : s.vm.findClass "[J" = some (cA G 3) := (X.2.1.2 3 (cA G 3, .long) rfl).2
  cases e1.symm.trans e2
  exact kk q H1 hP1 hD1 hS1
end
