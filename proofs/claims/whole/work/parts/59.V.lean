/-! The law's body. -/
def WW (G : Ev) (b : Nat → Nat) (qm : Pc3) (a : Nat → Nat) (z q : Pc4) (o : Nat) (f : Nat → Int64) : va_W := wL G a z q o f ++ wM G b qm
abbrev lA (s : State) : Nat → Prop := fun q => s.heap.size ≤ q
def LX (p : Program) (l : Launch) (s : State) (m : MethodId) (args : Array Value) (meth : Method) (c : Code) (G : Ev) (sb L : Nat) (xs : Nat → Int32) : Prop :=
  CX p s m args meth c code 8 ret RL (.initialized "RuledCalendarLaw") G (lA s) ∧ Stx G s s.heap ∧ va_Nc (exn 0) (exn 1) s ∧ va_X sb L xs s s.heap ∧ sb < s.heap.size ∧ l.stackTraces = false ∧ L ≤ 2048
section
variable {p : Program} {l : Launch} {e : Env} {R : Room} {s : State} {m : MethodId} {args : Array Value} {below : List Frame} {meth : Method} {c : Code} {H H1 : Heap} {locs : List Loc} {cells slots : Nat} {Q : State → Prop} {cc : ByteArray} {nL : Nat} {rt : Option FieldType} {own : String} {c0 : Cond} {G : Ev} {pc : Nat} {ls : Array Slot} {rest st0 : List Value} {A : Nat → Prop} {ws wc wc' wr : va_W} {b a : Nat → Nat} {qm qm' : Pc3} {z q q' : Pc4} {o : Nat} {f : Nat → Int64} {sb L : Nat} {xs : Nat → Int32}
theorem ww_MP (h : va_P (DD G) vwCl (WW G b qm a z q o f) H) : va_P (DD G) vwCl (wM G b qm) H := va_P_mem h (fun _ hx => List.mem_append_right _ hx)
theorem ww_MD (h : va_D A (WW G b qm a z q o f)) : va_D A (wM G b qm) := va_D_pre (v := wL G a z q o f) (va_D_perm List.perm_append_comm h)
theorem ww_ZP (h : va_P (DD G) vwCl (WW G b qm a z q o f) H) : va_P (DD G) vwCl (wZ G a z q) H := va_P_pre (va_P_pre h)
theorem ww_ZD (h : va_D A (WW G b qm a z q o f)) : va_D A (wZ G a z q) := va_D_pre (va_D_pre h)
theorem ww_glM (hP : va_P (DD G) vwCl (WW G b qm a z q o f) H) (hD : va_D A (WW G b qm a z q o f)) (hk : ∀ q : Nat, q < H.size → q ∉ fs (wM G b qm) → H1[q]? = H[q]?) (hA : ∀ q, AL (fs (wM G b qm)) H.size q → A q) (hP1 : va_P (DD G) vwCl (wM G b qm') H1) : va_P (DD G) vwCl (WW G b qm' a z q o f) H1 ∧ va_D A (WW G b qm' a z q o f) := by
  obtain ⟨h1, h2⟩ := va_glue (va_P_perm (ws' := wM G b qm ++ wL G a z q o f) List.perm_append_comm hP) (va_D_perm (ws' := wM G b qm ++ wL G a z q o f) List.perm_append_comm hD) hk hA hP1 (va_D_same (ws := wM G b qm) rfl (va_D_AL (ww_MD hD)))
  exact ⟨va_P_perm List.perm_append_comm h1, va_D_perm List.perm_append_comm h2⟩
theorem ww_glZ (hP : va_P (DD G) vwCl (WW G b qm a z q o f) H) (hD : va_D A (WW G b qm a z q o f)) (hk : ∀ q1 : Nat, q1 < H.size → q1 ∉ fs (wZ G a z q) → H1[q1]? = H[q1]?) (hA : ∀ q1, AL (fs (wZ G a z q)) H.size q1 → A q1) (hP1 : va_P (DD G) vwCl (wZ G a z q') H1) : va_P (DD G) vwCl (WW G b qm a z q' o f) H1 ∧ va_D A (WW G b qm a z q' o f) := by
  have e : ∀ q : Pc4, WW G b qm a z q o f = wZ G a z q ++ ([oA G o f] ++ wM G b qm) := fun q => List.append_assoc _ _ _
  have hZ := ww_ZD hD
  rw [e] at hP hD ⊢
  exact va_glue hP hD hk hA hP1 (zD_AL rfl hZ)
theorem goW {y : MethodName} {bc : ByteArray} {mL : Nat} {hh : List (Nat × Nat × Nat × Nat)} {fr lo mc ms n idx : Nat} {As : List Value} {res : LRes} (X : CX p s m args meth c cc nL rt own c0 G A) (hX : Stx G s s.heap) (hN : va_Nc (exn 0) (exn 1) s) (hc : CtL l G y bc mL hh fr lo mc ms As a wc o res)
    (hG : GoodIn (c0 :: big) (va_wsS own idx y (wUH y bc mL hh))) (hd : y.cls ≠ "java/lang/invoke/MethodHandle" ∧ y.cls ≠ "java/lang/invoke/VarHandle" ∧ (parseMethodDescriptor y.desc).map (fun d => d.parameters.length) = some n) (hR : fr + 1 ≤ R.frames ∧ 8 + (mL + 11) + lo ≤ R.locals)
    (hPc : va_P (DD G) vwCl wc H) (hDc : va_D A wc) (hS : va_S A s.heap H locs)
    (hst : st0 = As.reverse ++ rest) (hn : As.length = n) (hl : ls.size = nL) (hW : (rest.map fun v => v.category).sum ≤ 8) (hdg : decode cc pc = .ok (.invokestatic idx, 3)) (hf : cells + mc ≤ R.cells ∧ slots + ms ≤ R.slots)
    (kk : ∀ (a1 : Nat → Nat) (H1 : Heap) (locs1 : List Loc), a1 0 = a 0 → va_P (DD G) vwCl (wL G a1 res.2.1 res.2.2.1 o res.2.2.2) H1 → va_D (AL (fs wc) H.size) (wL G a1 res.2.1 res.2.2.1 o res.2.2.2) → (∀ q : Nat, q < H.size → q ∉ fs wc → H1[q]? = H[q]?) → va_S A s.heap H1 locs1 → W p l e R s m args below meth c H1 locs1 (cells + mc) (slots + ms) Q (F0 m (pc + 3) ls (.int res.1 :: rest))) : W p l e R s m args below meth c H locs cells slots Q (F0 m pc ls st0) := by
  have hA := AL_sub hS X.2.2.2.2.1 hDc
  refine va_calli (vx_runSW (As := As) (rest := rest) X.1 (hc H.size) (vx_cwSW n X.1.2.2.2.2 hG rfl rfl rfl hd hR) ⟨blindL, fun U hU hW => ⟨rfl, (pre_ofY X hX hS hPc hDc As U hU hW).2, hN.moved hW.alike⟩⟩ rfl hn hl hst (lv_room hW) hdg hf) hS (fun q _ h => hA q h) hA (fun r1 a1 t H1 locs1 ht hvm hw hB hz1 hk1 hS1 => ?_)
  obtain ⟨e1, e2⟩ := hw
  subst e1; subst ht
  exact kk a1 _ _ e2 hB.1 hB.2 (fun q h1 h2 => hk1 q h1 (fun z => z.elim h2 (fun z => absurd h1 (Nat.not_lt.mpr z)))) hS1
theorem sld (X : LX p l s m args meth c G sb L xs) (hS : va_S (lA s) s.heap H locs) (i : Nat) (hi : i < L) {v : Int32} (hv : v = nI i) (hdg : decode code pc = .ok (.iaload, 1)) (kk : W p l e R s m args below meth c H locs cells slots Q (F0 m (pc + 1) ls (.int (xs i) :: rest))) : W p l e R s m args below meth c H locs cells slots Q (F0 m pc ls (.int v :: .ref sb :: rest)) := by
  subst hv
  have hL := X.2.2.2.2.2.2
  refine va_sld X.1.1.1 X.1.1.2.1 X.2.2.2.1 X.2.2.2.2.1 (Nat.not_le.mpr X.2.2.2.2.1) hS (vp_in_nI hi (by omega)) hdg ?_
  rw [nI_clamp (by omega)]
  exact kk
theorem outLd (X : CX p s m args meth c cc nL rt own c0 G A) (hP : va_P (DD G) vwCl (WW G b qm a z q o f) H) (hdg : decode cc pc = .ok (.laload, 1)) (kk : W p l e R s m args below meth c H locs cells slots Q (F0 m (pc + 1) ls (.long (f 0) :: rest))) : W p l e R s m args below meth c H locs cells slots Q (F0 m pc ls (.int 0 :: .ref o :: rest)) :=
  va_lald (D := DD G) (tys := TY G) X.1.1 X.1.2.1 X.2.1 hP (wZ G a z q).length 3 (cA := cA G 3) (n := 1) (f := f) (by unfold WW wL; simp [oA]) rfl (by unfold vp_in; decide) hdg kk
theorem gW {y : MethodName} {bc : ByteArray} {mL idx : Nat} {hh : List (Nat × Nat × Nat × Nat)} (h1 : Cond.methodLink own idx y ∈ big) (h2 : Cond.static y ∈ big) (h4 : Cond.initialized y.cls ∈ big) (h : Cond.codeWith y bc mL (some .int) hh ∈ big) : GoodIn (c0 :: big) (va_wsS own idx y (wUH y bc mL hh)) := by
  unfold va_wsS
  intro w hw
  have hw2 : w ∈ big := by
    rcases List.mem_append.mp hw with hw | hw
    · simp only [List.mem_cons, List.not_mem_nil, or_false] at hw
      rcases hw with e | e | e <;> subst e <;> assumption
    · rcases List.mem_cons.mp hw with e | hw
      · subst e; exact h
      · exact hw
  exact ⟨List.mem_cons_of_mem _ hw2, big_good hw2⟩
theorem cmp0 {x y : Int64} (h : x = y) : lg_cmp x y = 0 := by subst h; simp [lg_cmp]
end
def SK_feed (n : Nat) (qm : Pc3) (z q : Pc4) (f : Nat → Int64) (x1 : Int32) (x2 : Int64) (K : Pc3 → Pc4 → Pc4 → (Nat → Int64) → Prop) : Prop := ∃ res r qm1, moL_feed n z q f x1 x2 = some res ∧ moM_feed n x1 x2 qm = some (r, qm1) ∧ moM_thrown n qm1 = some res.1 ∧ (res.1 = 0 → res.2.2.2 0 = r.toInt64) ∧ K qm1 res.2.1 res.2.2.1 res.2.2.2
def SK_wipe (n : Nat) (qm : Pc3) (z q : Pc4) (f : Nat → Int64) (K : Pc3 → Pc4 → Pc4 → (Nat → Int64) → Prop) : Prop := ∃ r q1 qm1, moQ7_wipe n z q = some (r, q1) ∧ moM_wipe n qm = some (r, qm1) ∧ K qm1 z q1 f
def SK_thing (n : Nat) (qm : Pc3) (z q : Pc4) (f : Nat → Int64) (x1 : Int32) (K : Pc3 → Pc4 → Pc4 → (Nat → Int64) → Prop) : Prop := ∃ res r qm1, moL_thing n z q f x1 = some res ∧ moM_thing n x1 qm = some (r, qm1) ∧ moM_thrown n qm1 = some res.1 ∧ (res.1 = 0 → res.2.2.2 0 = r.toInt64) ∧ K qm1 res.2.1 res.2.2.1 res.2.2.2
def SK_fault (n : Nat) (qm : Pc3) (z q : Pc4) (f : Nat → Int64) (K : Pc3 → Pc4 → Pc4 → (Nat → Int64) → Prop) : Prop := ∃ r qm1, moQ7_fault n z q = some r ∧ moM_fault n qm = some (r, qm1) ∧ K qm1 z q f
def SK_place (n : Nat) (qm : Pc3) (z q : Pc4) (f : Nat → Int64) (K : Pc3 → Pc4 → Pc4 → (Nat → Int64) → Prop) : Prop := ∃ r qm1, moQ7_place n z q = some r ∧ moM_place n qm = some (r, qm1) ∧ K qm1 z q f
def SK_drop (n : Nat) (qm : Pc3) (z q : Pc4) (f : Nat → Int64) (x1 : Int32) (K : Pc3 → Pc4 → Pc4 → (Nat → Int64) → Prop) : Prop := ∃ res qm1, moL_drop n z q f x1 = some res ∧ moM_drop n x1 qm = some qm1 ∧ moM_thrown n qm1 = some res.1 ∧ K qm1 res.2.1 res.2.2.1 res.2.2.2
def SK_except (n : Nat) (qm : Pc3) (z q : Pc4) (f : Nat → Int64) (x1 : Int32) (x2 : Int32) (x3 : Int32) (K : Pc3 → Pc4 → Pc4 → (Nat → Int64) → Prop) : Prop := ∃ res r qm1, moL_except n z q f x1 x2 x3 = some res ∧ moM_except n x1 x2 x3 qm = some (r, qm1) ∧ moM_thrown n qm1 = some res.1 ∧ (res.1 = 0 → res.2.2.2 0 = if r = 0 then 0 else 1) ∧ K qm1 res.2.1 res.2.2.1 res.2.2.2
def SK_besides (n : Nat) (qm : Pc3) (z q : Pc4) (f : Nat → Int64) (x1 : Int32) (x2 : Int32) (x3 : Int32) (K : Pc3 → Pc4 → Pc4 → (Nat → Int64) → Prop) : Prop := ∃ res r qm1, moL_besides n z q f x1 x2 x3 = some res ∧ moM_besides n x1 x2 x3 qm = some (r, qm1) ∧ moM_thrown n qm1 = some res.1 ∧ (res.1 = 0 → res.2.2.2 0 = if r = 0 then 0 else 1) ∧ K qm1 res.2.1 res.2.2.1 res.2.2.2
def SK_comes (n : Nat) (qm : Pc3) (z q : Pc4) (f : Nat → Int64) (x1 : Int32) (x2 : Int32) (K : Pc3 → Pc4 → Pc4 → (Nat → Int64) → Prop) : Prop := ∃ res r qm1, moL_comes n z q f x1 x2 = some res ∧ moM_comes n x1 x2 qm = some (r, qm1) ∧ moM_thrown n qm1 = some res.1 ∧ (res.1 = 0 → res.2.2.2 0 = if r = 0 then 0 else 1) ∧ K qm1 res.2.1 res.2.2.1 res.2.2.2
def SK_next (n : Nat) (qm : Pc3) (z q : Pc4) (f : Nat → Int64) (x1 : Int32) (x2 : Int32) (K : Pc3 → Pc4 → Pc4 → (Nat → Int64) → Prop) : Prop := ∃ res r qm1, moL_next n z q f x1 x2 = some res ∧ moM_next n x1 x2 qm = some (r, qm1) ∧ moM_thrown n qm1 = some res.1 ∧ (res.1 = 0 → res.2.2.2 0 = r.toInt64) ∧ K qm1 res.2.1 res.2.2.1 res.2.2.2
def SK_date (n : Nat) (qm : Pc3) (z q : Pc4) (f : Nat → Int64) (x1 : Int32) (x2 : Int32) (K : Pc3 → Pc4 → Pc4 → (Nat → Int64) → Prop) : Prop := ∃ res r qm1, moL_date n z q f x1 x2 = some res ∧ moM_date n x1 x2 qm = some (r, qm1) ∧ moM_thrown n qm1 = some res.1 ∧ (res.1 = 0 → res.2.2.2 0 = r.toInt64) ∧ K qm1 res.2.1 res.2.2.1 res.2.2.2
def SK_times (n : Nat) (qm : Pc3) (z q : Pc4) (f : Nat → Int64) (x1 : Int32) (x2 : Int32) (x3 : Int32) (K : Pc3 → Pc4 → Pc4 → (Nat → Int64) → Prop) : Prop := ∃ res r qm1, moL_times n z q f x1 x2 x3 = some res ∧ moM_times n x1 x2 x3 qm = some (r, qm1) ∧ moM_thrown n qm1 = some res.1 ∧ (res.1 = 0 → res.2.2.2 0 = r.toInt64) ∧ K qm1 res.2.1 res.2.2.1 res.2.2.2
def SK_list (n : Nat) (qm : Pc3) (z q : Pc4) (f : Nat → Int64) (x1 : Int32) (x2 : Int32) (K : Pc3 → Pc4 → Pc4 → (Nat → Int64) → Prop) : Prop := ∃ res r qm1, moL_list n z q f x1 x2 = some res ∧ moM_list n x1 x2 qm = some (r, qm1) ∧ moM_thrown n qm1 = some res.1 ∧ (res.1 = 0 → res.2.2.2 0 = r.toInt64) ∧ K qm1 res.2.1 res.2.2.1 res.2.2.2
def SK_item (n : Nat) (qm : Pc3) (z q : Pc4) (f : Nat → Int64) (x1 : Int32) (K : Pc3 → Pc4 → Pc4 → (Nat → Int64) → Prop) : Prop := ∃ res r qm1, moL_item n z q f x1 = some res ∧ moM_item n x1 qm = some (r, qm1) ∧ moM_thrown n qm1 = some res.1 ∧ (res.1 = 0 → res.2.2.2 0 = r) ∧ K qm1 res.2.1 res.2.2.1 res.2.2.2
def SK_busiest (n : Nat) (qm : Pc3) (z q : Pc4) (f : Nat → Int64) (x1 : Int32) (x2 : Int32) (K : Pc3 → Pc4 → Pc4 → (Nat → Int64) → Prop) : Prop := ∃ res r qm1, moL_busiest n z q f x1 x2 = some res ∧ moM_busiest n x1 x2 qm = some (r, qm1) ∧ moM_thrown n qm1 = some res.1 ∧ (res.1 = 0 → res.2.2.2 0 = r.toInt64) ∧ K qm1 res.2.1 res.2.2.1 res.2.2.2
def SK_quiet (n : Nat) (qm : Pc3) (z q : Pc4) (f : Nat → Int64) (x1 : Int32) (x2 : Int32) (K : Pc3 → Pc4 → Pc4 → (Nat → Int64) → Prop) : Prop := ∃ res r qm1, moL_quiet n z q f x1 x2 = some res ∧ moM_quiet n x1 x2 qm = some (r, qm1) ∧ moM_thrown n qm1 = some res.1 ∧ (res.1 = 0 → res.2.2.2 0 = r.toInt64) ∧ K qm1 res.2.1 res.2.2.1 res.2.2.2
def SK_shifted (n : Nat) (qm : Pc3) (z q : Pc4) (f : Nat → Int64) (x1 : Int32) (x2 : Int32) (K : Pc3 → Pc4 → Pc4 → (Nat → Int64) → Prop) : Prop := ∃ res r qm1, moL_shifted n z q f x1 x2 = some res ∧ moM_shifted n x1 x2 qm = some (r, qm1) ∧ moM_thrown n qm1 = some res.1 ∧ (res.1 = 0 → res.2.2.2 0 = r.toInt64) ∧ K qm1 res.2.1 res.2.2.1 res.2.2.2
