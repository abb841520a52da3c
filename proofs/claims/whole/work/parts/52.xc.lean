/-! Calls of requireDate and of knownThing: they return, or throw on. -/
def bx {α β : Type} (o : Option (Nat ⊕ α)) (f : α → Option (Nat ⊕ β)) : Option (Nat ⊕ β) := match o with | none => none | some (.inl k) => some (.inl k) | some (.inr x) => f x
theorem bx_s {α β : Type} {o : Option (Nat ⊕ α)} {f : α → Option (Nat ⊕ β)} {r : Nat ⊕ β} (h : bx o f = some r) : (∃ k, o = some (.inl k) ∧ r = .inl k) ∨ ∃ x, o = some (.inr x) ∧ f x = some r := by
  match o, h with
  | some (.inl k), h => exact Or.inl ⟨k, rfl, (Option.some.inj h).symm⟩
  | some (.inr x), h => exact Or.inr ⟨x, rfl, h⟩
section
variable {p : Program} {l : Launch} {e : Env} {R : Room} {s : State} {m : MethodId} {args : Array Value} {below : List Frame} {meth : Method} {c : Code} {H : Heap} {locs : List Loc} {cells slots mc ms : Nat} {Q : State → Prop} {cc : ByteArray} {nL : Nat} {rt : Option FieldType} {own : String} {c0 : Cond} {G : Ev} {pc : Nat} {ls : Array Slot} {rest st0 : List Value} {A : Nat → Prop} {ws wc wc' : va_W}
theorem pre_ofX (XX : CXX p s m args meth c cc nL rt own c0 G A l) (hS : va_S A s.heap H locs) (hPc : va_P (DD G) vwCl wc H) (hDc : va_D A wc) (As : List Value) : ∀ U : State, U.heap = H → s.WarmedH U.vm → va_Pc As (PreX G wc H.size) As.toArray U := fun U hU hW =>
  ⟨rfl, (pre_of XX.1 hS hPc hDc As U hU hW).2, by rw [hU]; exact XX.2.2.1.go hW (fun x h1 h2 => hS.2.1 x h1 (fun z => h2 (XX.1.2.2.2.2.2.1 x z)))⟩
theorem vx_calle {S SX : Type} {ad : Nat → Nat} {post : Option Nat → S → Prop} {px : SX → Prop} {B : S → State → Prop} {BX : String → SX → State → Prop} {AX A1 A0 : Nat → Prop} {H0 : Heap} {a : Array Value} {free : Addr → Prop} (hr : vx_Run p l e R s m args below meth c H locs cells slots mc ms (F0 m pc ls st0) rest (va_Qe ad post B A1 a) (vx_X px BX AX) free) (hS : va_S A0 H0 H locs) (hA : ∀ q, q < H.size → A1 q → A0 q) (hf : ∀ q, free q → A0 q) (hAX : ∀ q, q < H.size → AX q → A0 q)
    (kx : ∀ (E : String) (ce : Cell) (q9 : Addr) (u : SX) (t : State) (H1 : Heap) (locs1 : List Loc), t.heap = H1 → s.vm.Alike t.vm → px u → BX E u t → H.size ≤ H1.size → (∀ q : Nat, q < H.size → ¬ AX q → H1[q]? = H[q]?) → va_S A0 H0 H1 locs1 → H1[q9]? = some ce → ce.vm = .none → s.vm.findClass E = some ce.cls → vx_W p l e R s m args below meth c H1 locs1 (cells + mc) (slots + ms) Q (F0 m pc ls rest) q9)
    (kk : ∀ (r : Option Nat) (u : S) (t : State) (H1 : Heap) (locs1 : List Loc), t.heap = H1 → s.vm.Alike t.vm → post r u → B u t → H.size ≤ H1.size → (∀ q : Nat, q < H.size → ¬ A1 q → H1[q]? = H[q]?) → va_S A0 H0 H1 locs1 → W p l e R s m args below meth c H1 locs1 (cells + mc) (slots + ms) Q (F0 m (pc + 3) ls (va_re ad r :: rest))) : W p l e R s m args below meth c H locs cells slots Q (F0 m pc ls st0) := by
  intro T hT X
  rcases hr T hT X with ⟨v, st₀, t, T', L, h0, X', hL, e1, e2, ⟨⟨r, u, hv, hp, hb⟩, hF⟩, st⟩ | ⟨q, st₀, t, T', L, E, ce, h0, X', hL, e1, e2, ⟨u, hp, hb, hF⟩, hce, hcv, hcl, st⟩
  · cases hv
    obtain ⟨k1, k2, k3⟩ := vx_keep h0 e1 hS hA hf hL hF
    obtain ⟨t2, a1, b1⟩ := kk r u t T'.heap (locs ++ L) e1.symm (by rw [← e2]; exact X'.warmed.alike) hp hb k1 k2 k3 T' rfl X'
    exact ⟨t2, st t2 a1, b1⟩
  · obtain ⟨k1, k2, k3⟩ := vx_keep h0 e1 hS hAX hf hL hF
    obtain ⟨t2, a1, b1⟩ := kx E ce q u t T'.heap (locs ++ L) e1.symm (by rw [← e2]; exact X'.warmed.alike) hp hb k1 k2 k3 (by rw [e1]; exact hce) hcv hcl T' rfl X'
    exact ⟨t2, st.trans a1, b1⟩
/-- a throw goes on to the caller: what it owes -/
theorem xout {L : List Nat} {o : Option Nat} {Qc : Array Value → State → Outcome → State → Prop} {E : String} {ce : Cell} {q9 : Addr} {k : Nat} (XX : CXX p s m args meth c cc nL rt own c0 G A l) (ho : o = some k) (hE : E = exn k) (hP : va_P (DD G) vwCl ws H) (hS : va_S (AL L s.heap.size) s.heap H locs) (h1 : H[q9]? = some ce) (h2 : ce.vm = .none) (h3 : s.vm.findClass E = some ce.cls) (hc : cells ≤ mc) (hs : slots ≤ ms) :
    vx_W p l e R s m args below meth c H locs cells slots (vx_MQ below Qc (XC9 G o ws (AL L s.heap.size)) args s mc ms (AL L s.heap.size)) (F0 m pc ls rest) q9 :=
  vx_out (fun x hx => (XX.2.1 x hx).elim) XX.1.2.2.2.1 h1 h2 h3 (fun t ht _ => ⟨(), trivial, ⟨⟨k, ho, hE⟩, by subst ht; exact hP⟩, hS.F ht⟩) hS.2.2 hc hs
theorem xq_t {y : MethodName} {b : ByteArray} {mL : Nat} {rt2 : Option FieldType} {fr lo mc' ms' n idx : Nat} {As : List Value} {L : List Nat} {o : Option Nat} {Qc : Array Value → State → Outcome → State → Prop} (k : Nat) (XX : CXX p s m args meth c cc nL rt own c0 G (AL L s.heap.size) l) (hc : XtV l G y b mL rt2 fr lo mc' ms' As [] [] (some k))
    (hG : GoodIn (c0 :: big) (wsS own idx y (wU y b mL rt2))) (hd : y.cls = own ∧ y.cls ≠ "java/lang/invoke/MethodHandle" ∧ y.cls ≠ "java/lang/invoke/VarHandle" ∧ (parseMethodDescriptor y.desc).map (fun d => d.parameters.length) = some n) (hR : fr + 1 ≤ R.frames ∧ 8 + (mL + 11) + lo ≤ R.locals)
    (ho : o = some k) (hP : va_P (DD G) vwCl ws H) (hS : va_S (AL L s.heap.size) s.heap H locs) (hst : st0 = As.reverse ++ rest) (hn : As.length = n) (hl : ls.size = nL) (hW : (rest.map fun v => v.category).sum ≤ 8) (hdg : decode cc pc = .ok (.invokestatic idx, 3)) (hf : cells + mc' ≤ R.cells ∧ slots + ms' ≤ R.slots) (hm1 : cells + mc' ≤ mc) (hm2 : slots + ms' ≤ ms) :
    W p l e R s m args below meth c H locs cells slots (vx_MQ below Qc (XC9 G o ws (AL L s.heap.size)) args s mc ms (AL L s.heap.size)) (F0 m pc ls st0) := by
  have X := XX.1
  have hA := AL_sub hS X.2.2.2.2.1 (va_dnil (A := AL L s.heap.size))
  refine vx_callv (vx_runS (As := As) (rest := rest) X.1 (hc H.size) (cwS n X.1.2.2.2.2 hG rfl rfl rfl hd hR) ⟨blindX, pre_ofX XX hS va_nil va_dnil As⟩ rfl hn hl hst (lv_room hW) hdg hf) hS (fun q _ h => hA q h) hA (fun q _ h => hA q h) (fun E ce q9 u t H1 locs1 ht hvm hp hB hz hk hS1 g1 g2 g3 => ?_) (fun u t H1 locs1 ht hvm hw hB hz1 hk1 hS1 => nomatch hw)
  obtain ⟨⟨k', e1, e2⟩, -⟩ := hB
  cases e1
  exact xout XX ho e2 (fun j q hq => (hP j q hq).kept (hk q.1 (hP j q hq).lt (fun z => z.elim (fun z => by simp [fs] at z) (fun z => absurd (hP j q hq).lt (Nat.not_lt.mpr z))))) hS1 g1 g2 g3 hm1 hm2
theorem xq {y : MethodName} {b : ByteArray} {mL : Nat} {rt2 : Option FieldType} {fr lo mc' ms' n idx : Nat} {As : List Value} (XX : CXX p s m args meth c cc nL rt own c0 G A l) (hc : XtV l G y b mL rt2 fr lo mc' ms' As [] [] none)
    (hG : GoodIn (c0 :: big) (wsS own idx y (wU y b mL rt2))) (hd : y.cls = own ∧ y.cls ≠ "java/lang/invoke/MethodHandle" ∧ y.cls ≠ "java/lang/invoke/VarHandle" ∧ (parseMethodDescriptor y.desc).map (fun d => d.parameters.length) = some n) (hR : fr + 1 ≤ R.frames ∧ 8 + (mL + 11) + lo ≤ R.locals)
    (hP : va_P (DD G) vwCl ws H) (hS : va_S A s.heap H locs) (hst : st0 = As.reverse ++ rest) (hn : As.length = n) (hl : ls.size = nL) (hW : (rest.map fun v => v.category).sum ≤ 8) (hdg : decode cc pc = .ok (.invokestatic idx, 3)) (hf : cells + mc' ≤ R.cells ∧ slots + ms' ≤ R.slots)
    (kk : ∀ (H1 : Heap) (locs1 : List Loc), va_P (DD G) vwCl ws H1 → va_S A s.heap H1 locs1 → W p l e R s m args below meth c H1 locs1 (cells + mc') (slots + ms') Q (F0 m (pc + 3) ls rest)) : W p l e R s m args below meth c H locs cells slots Q (F0 m pc ls st0) := by
  have X := XX.1
  have hA := AL_sub hS X.2.2.2.2.1 (va_dnil (A := A))
  refine vx_callv (vx_runS (As := As) (rest := rest) X.1 (hc H.size) (cwS n X.1.2.2.2.2 hG rfl rfl rfl hd hR) ⟨blindX, pre_ofX XX hS va_nil va_dnil As⟩ rfl hn hl hst (lv_room hW) hdg hf) hS (fun q _ h => hA q h) hA (fun q _ h => hA q h) (fun E ce q9 u t H1 locs1 ht hvm hp hB hz hk hS1 g1 g2 g3 => ?_) (fun u t H1 locs1 ht hvm hw hB hz1 hk1 hS1 => ?_)
  · obtain ⟨⟨k', e1, e2⟩, -⟩ := hB
    cases e1
  · exact kk H1 locs1 (fun j q hq => (hP j q hq).kept (hk1 q.1 (hP j q hq).lt (fun z => z.elim (fun z => by simp [fs] at z) (fun z => absurd (hP j q hq).lt (Nat.not_lt.mpr z))))) hS1
theorem xt_t {y : MethodName} {b : ByteArray} {mL : Nat} {rt2 : Option FieldType} {fr lo mc' ms' n idx ad0 : Nat} {As : List Value} {L : List Nat} {o : Option Nat} {ad : Nat → Nat} {C : String} {Qc : Array Value → State → Outcome → State → Prop} (k : Nat) (XX : CXX p s m args meth c cc nL rt own c0 G (AL L s.heap.size) l) (hc : XtR l G y b mL rt2 fr lo mc' ms' (.ref ad0 :: As) ws ws ad (.inl k))
    (hG : GoodIn (c0 :: big) (wsV own idx C y (wU y b mL rt2))) (hd : y.cls = C ∧ y.cls ≠ "java/lang/invoke/MethodHandle" ∧ y.cls ≠ "java/lang/invoke/VarHandle" ∧ (parseMethodDescriptor y.desc).map (fun d => d.parameters.length) = some n) (hR : fr + 1 ≤ R.frames ∧ 8 + (mL + 11) + lo ≤ R.locals)
    (hrecv : ∃ cell : Cell, H[ad0]? = some cell ∧ cell.vm.isStatics = false ∧ s.vm.findClass C = some cell.cls) (ho : o = some k) (hP : va_P (DD G) vwCl ws H) (hD : va_D (AL L s.heap.size) ws) (hS : va_S (AL L s.heap.size) s.heap H locs) (hst : st0 = As.reverse ++ .ref ad0 :: rest) (hn : As.length = n) (hl : ls.size = nL) (hW : (rest.map fun v => v.category).sum ≤ 8) (hdg : decode cc pc = .ok (.invokevirtual idx, 3)) (hf : cells + mc' ≤ R.cells ∧ slots + ms' ≤ R.slots) (hm1 : cells + mc' ≤ mc) (hm2 : slots + ms' ≤ ms) :
    W p l e R s m args below meth c H locs cells slots (vx_MQ below Qc (XC9 G o ws (AL L s.heap.size)) args s mc ms (AL L s.heap.size)) (F0 m pc ls st0) := by
  have X := XX.1
  have hA := AL_sub hS X.2.2.2.2.1 hD
  refine vx_calle (vx_runV (As := As) (rest := rest) X.1 (hc H.size) (cwV n X.1.2.2.2.2 hG rfl rfl rfl hd hR) ⟨blindX, hrecv, pre_ofX XX hS hP hD (.ref ad0 :: As)⟩ rfl hn hl hst (lv_room hW) hdg hf) hS (fun q _ h => hA q h) hA (fun q _ h => hA q h) (fun E ce q9 u t H1 locs1 ht hvm hp hB hz hk hS1 g1 g2 g3 => ?_) (fun r u t H1 locs1 ht hvm hw hB hz1 hk1 hS1 => by obtain ⟨k', -, e1⟩ := hw; cases e1)
  obtain ⟨⟨k', e1, e2⟩, hB⟩ := hB
  cases e1
  subst ht
  exact xout XX ho e2 hB hS1 g1 g2 g3 hm1 hm2
theorem xt {y : MethodName} {b : ByteArray} {mL : Nat} {rt2 : Option FieldType} {fr lo mc' ms' n idx ad0 k : Nat} {As : List Value} {ad : Nat → Nat} {C : String} (XX : CXX p s m args meth c cc nL rt own c0 G A l) (hc : XtR l G y b mL rt2 fr lo mc' ms' (.ref ad0 :: As) ws ws ad (.inr k))
    (hG : GoodIn (c0 :: big) (wsV own idx C y (wU y b mL rt2))) (hd : y.cls = C ∧ y.cls ≠ "java/lang/invoke/MethodHandle" ∧ y.cls ≠ "java/lang/invoke/VarHandle" ∧ (parseMethodDescriptor y.desc).map (fun d => d.parameters.length) = some n) (hR : fr + 1 ≤ R.frames ∧ 8 + (mL + 11) + lo ≤ R.locals)
    (hrecv : ∃ cell : Cell, H[ad0]? = some cell ∧ cell.vm.isStatics = false ∧ s.vm.findClass C = some cell.cls) (hP : va_P (DD G) vwCl ws H) (hD : va_D A ws) (hS : va_S A s.heap H locs) (hst : st0 = As.reverse ++ .ref ad0 :: rest) (hn : As.length = n) (hl : ls.size = nL) (hW : (rest.map fun v => v.category).sum ≤ 8) (hdg : decode cc pc = .ok (.invokevirtual idx, 3)) (hf : cells + mc' ≤ R.cells ∧ slots + ms' ≤ R.slots)
    (kk : ∀ (H1 : Heap) (locs1 : List Loc), va_P (DD G) vwCl ws H1 → va_S A s.heap H1 locs1 → W p l e R s m args below meth c H1 locs1 (cells + mc') (slots + ms') Q (F0 m (pc + 3) ls (.ref (ad k) :: rest))) : W p l e R s m args below meth c H locs cells slots Q (F0 m pc ls st0) := by
  have X := XX.1
  have hA := AL_sub hS X.2.2.2.2.1 hD
  refine vx_calle (vx_runV (As := As) (rest := rest) X.1 (hc H.size) (cwV n X.1.2.2.2.2 hG rfl rfl rfl hd hR) ⟨blindX, hrecv, pre_ofX XX hS hP hD (.ref ad0 :: As)⟩ rfl hn hl hst (lv_room hW) hdg hf) hS (fun q _ h => hA q h) hA (fun q _ h => hA q h) (fun E ce q9 u t H1 locs1 ht hvm hp hB hz hk hS1 g1 g2 g3 => by obtain ⟨⟨k', e1, -⟩, -⟩ := hB; cases e1) (fun r u t H1 locs1 ht hvm hw hB hz1 hk1 hS1 => ?_)
  obtain ⟨k', e0, e1⟩ := hw
  cases e1
  subst e0; subst ht
  exact kk _ _ hB hS1
end
