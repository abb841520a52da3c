/-! Our own words: one list of words for all methods, a contract's form, the rows of calls and ends over it. -/
abbrev Ev : Type := (Nat → ClassId) × (Nat → Nat → Nat) × (Nat → ClassId) × (Nat → Nat)
abbrev cA (G : Ev) (k : Nat) : ClassId := G.2.2.1 k
abbrev sa (G : Ev) (k : Nat) : Nat := G.2.2.2 k
abbrev TY (G : Ev) : List (ClassId × FieldType) := [(cA G 0, .byte), (cA G 1, .char), (cA G 2, .int), (cA G 3, .long), (cA G 4, .boolean), (cA G 5, .object "RuledCalendar$Thing")]
abbrev DD (G : Ev) : va_G := (G.1, G.2.1)
def big : List Cond := lw_tbl.filter goodWord
def wU (y : MethodName) (b : ByteArray) (n : Nat) (r : Option FieldType) : List Cond := .code y b n r :: big
theorem mb {w : Cond} (i : Nat) (h : tables_1[i]? = some w) (hg : goodWord w = true) : w ∈ big := List.mem_filter.mpr ⟨List.mem_append_right _ (List.mem_of_getElem? h), hg⟩
theorem mbs {w : Cond} (h : w ∈ k2_sels lw_privs) (hg : goodWord w = true) : w ∈ big := List.mem_filter.mpr ⟨List.mem_append_left _ h, hg⟩
theorem big_good {w : Cond} (h : w ∈ big) : (w.onTables && w.keeps) = true ∨ ∃ ty, w = .arrayClass ty := good_of_word (List.mem_filter.mp h).2
theorem gU {c0 : Cond} {y : MethodName} {b : ByteArray} {n : Nat} {r : Option FieldType} (h : Cond.code y b n r ∈ big) : GoodIn (c0 :: big) (wU y b n r) := by
  intro w hw
  rcases List.mem_cons.mp hw with e | hw
  · subst e; exact ⟨List.mem_cons_of_mem _ h, big_good h⟩
  · exact ⟨List.mem_cons_of_mem _ hw, big_good hw⟩
theorem gIn {c0 : Cond} {y : MethodName} {b : ByteArray} {n : Nat} {r : Option FieldType} (ks : List Cond) (hk : ∀ w ∈ ks, w ∈ big) (h : Cond.code y b n r ∈ big) : GoodIn (c0 :: big) (ks ++ wU y b n r) := by
  intro w hw
  rcases List.mem_append.mp hw with hw | hw
  · exact ⟨List.mem_cons_of_mem _ (hk w hw), big_good (hk w hw)⟩
  · exact gU h w hw
theorem gV {c0 : Cond} {own C : String} {idx : Nat} {y : MethodName} {b : ByteArray} {n : Nat} {r : Option FieldType} (h1 : Cond.methodLink own idx y ∈ big) (h2 : Cond.instanceMethod y ∈ big) (h3 : Cond.selects C y y ∈ big) (h4 : Cond.initialized C ∈ big) (h : Cond.code y b n r ∈ big) : GoodIn (c0 :: big) (wsV own idx C y (wU y b n r)) := by
  unfold wsV
  refine gIn _ ?_ h
  intro w hw
  simp only [List.mem_cons, List.not_mem_nil, or_false] at hw
  rcases hw with e | e | e | e <;> subst e <;> assumption
theorem gS {c0 : Cond} {own : String} {idx : Nat} {y : MethodName} {b : ByteArray} {n : Nat} {r : Option FieldType} (h1 : Cond.methodLink own idx y ∈ big) (h2 : Cond.static y ∈ big) (h4 : Cond.initialized own ∈ big) (h : Cond.code y b n r ∈ big) : GoodIn (c0 :: big) (wsS own idx y (wU y b n r)) := by
  unfold wsS
  refine gIn _ ?_ h
  intro w hw
  simp only [List.mem_cons, List.not_mem_nil, or_false] at hw
  rcases hw with e | e | e <;> subst e <;> assumption
-- worlds
def AL (L : List Nat) (sz : Nat) : Nat → Prop := fun x => x ∈ L ∨ sz ≤ x
abbrev fs (ws : va_W) : List Nat := ws.map (fun x => x.1)
theorem va_D_same {A : Nat → Prop} {ws ws' : va_W} (h : fs ws' = fs ws) (hD : va_D A ws) : va_D A ws' := by
  have key : ∀ (i : Nat) (p : Nat × va_E), ws'[i]? = some p → ∃ p0, ws[i]? = some p0 ∧ p0.1 = p.1 := by
    intro i p hi
    have h1 : (fs ws)[i]? = some p.1 := by rw [← h]; simp [fs, hi]
    simpa [fs] using h1
  refine ⟨fun i j p q hi hj e => ?_, fun k q hk => ?_⟩
  · obtain ⟨p0, a1, a2⟩ := key i p hi
    obtain ⟨q0, b1, b2⟩ := key j q hj
    exact hD.1 i j p0 q0 a1 b1 (by rw [a2, b2, e])
  · obtain ⟨q0, b1, b2⟩ := key k q hk
    rw [← b2]; exact hD.2 k q0 b1
theorem va_D_in {A : Nat → Prop} {ws : va_W} (hD : va_D A ws) {x : Nat} (h : x ∈ fs ws) : A x := by
  obtain ⟨q, hq, rfl⟩ := List.mem_map.mp h
  obtain ⟨k, hk⟩ := List.getElem?_of_mem hq
  exact hD.2 k q hk
theorem va_D_AL {B : Nat → Prop} {ws : va_W} {sz : Nat} (hD : va_D B ws) : va_D (AL (fs ws) sz) ws := ⟨hD.1, fun k q hk => Or.inl (List.mem_map.mpr ⟨q, List.mem_of_getElem? hk, rfl⟩)⟩
/-- behind a call: a world made of the callee's and of what it left alone -/
theorem va_back {D : va_G} {cl : List vw_C} {ws wc wc' ws2 : va_W} {H H1 : Heap} (hP : va_P D cl ws H) (hk : ∀ q : Nat, q < H.size → q ∉ fs wc → H1[q]? = H[q]?) (hP1 : va_P D cl wc' H1) (hs : ∀ (k : Nat) (q : Nat × va_E), ws2[k]? = some q → (∃ j : Nat, wc'[j]? = some q) ∨ ∃ j : Nat, ws[j]? = some q ∧ q.1 ∉ fs wc) : va_P D cl ws2 H1 := by
  intro k q hq
  rcases hs k q hq with ⟨j, hj⟩ | ⟨j, hj, hn⟩
  · exact hP1 j q hj
  · exact (hP j q hj).kept (hk q.1 (hP j q hj).lt hn)
theorem va_keep {D : va_G} {cl : List vw_C} {ws : va_W} {H H1 : Heap} (hP : va_P D cl ws H) (hk : ∀ q : Nat, q < H.size → q ∉ fs ([] : va_W) → H1[q]? = H[q]?) : va_P D cl ws H1 := fun k q hq => (hP k q hq).kept (hk q.1 (hP k q hq).lt (by simp [fs]))
-- what stands in the statics
abbrev sN (G : Ev) : Nat → Prop := fun q => sa G 0 ≤ q
def mlen (j : Nat) : Int32 := ([31, 28, 31, 30, 31, 30, 31, 31, 30, 31, 30, 31] : List Int32).getD j 0
def pnm (j : Nat) : String := (["FREQ", "INTERVAL", "COUNT", "UNTIL", "BYMONTH", "BYMONTHDAY", "BYSETPOS", "BYDAY"] : List String).getD j ""
def fnm (j : Nat) : String := (["DAILY", "WEEKLY", "MONTHLY", "YEARLY"] : List String).getD j ""
def pbit (j : Nat) : Int32 := ([1, 2, 4, 8, 16, 32, 64, 128] : List Int32).getD j 0
def plis (j : Nat) : Int32 := ([0, 0, 0, 0, 1, 1, 1, 1] : List Int32).getD j 0
def plow (j : Nat) : Int32 := ([0, 1, 1, 19000101, 1, (-31), (-366), (-53)] : List Int32).getD j 0
def phig (j : Nat) : Int32 := ([0, 400, 999, 21991231, 12, 31, 366, 53] : List Int32).getD j 0
def fwho (j : Nat) : Int32 := ([0, 0, 1, 1] : List Int32).getD j 0
def sbyt (j : Nat) : List Int32 := ([[70, 82, 69, 81], [73, 78, 84, 69, 82, 86, 65, 76], [67, 79, 85, 78, 84], [85, 78, 84, 73, 76], [66, 89, 77, 79, 78, 84, 72], [66, 89, 77, 79, 78, 84, 72, 68, 65, 89], [66, 89, 83, 69, 84, 80, 79, 83], [66, 89, 68, 65, 89], [68, 65, 73, 76, 89], [87, 69, 69, 75, 76, 89], [77, 79, 78, 84, 72, 76, 89], [89, 69, 65, 82, 76, 89], [77, 79, 84, 85, 87, 69, 84, 72, 70, 82, 83, 65, 83, 85]] : List (List Int32)).getD j []
def fmt_G (G : Ev) : Option Nat := if sa G 8 = 0 then none else some (sa G 9)
def Sta (G : Ev) (U : State) (H : Heap) : Prop :=
  (va_Z "RuledCalendar" "MONTH_LENGTHS" "[I" (.ref (sa G 1)) (sN G) U H ∧ va_T .int (sa G 1) 12 (fun j => .int (mlen j)) (sN G) U H) ∧
  (va_Z "RuledCalendar" "PARTS" "[LRuledCalendar$Part;" (.ref (sa G 2)) (sN G) U H ∧ va_T (.object "RuledCalendar$Part") (sa G 2) 8 (fun j => .ref (sa G (10 + j))) (sN G) U H) ∧
  (va_Z "RuledCalendar" "FREQUENCIES" "[LRuledCalendar$Frequency;" (.ref (sa G 3)) (sN G) U H ∧ va_T (.object "RuledCalendar$Frequency") (sa G 3) 4 (fun j => .ref (sa G (20 + j))) (sN G) U H) ∧
  (∀ i, i < 8 → va_Z "RuledCalendar$Part" (pnm i) "LRuledCalendar$Part;" (.ref (sa G (10 + i))) (sN G) U H) ∧
  (∀ i, i < 4 → va_Z "RuledCalendar$Frequency" (fnm i) "LRuledCalendar$Frequency;" (.ref (sa G (20 + i))) (sN G) U H) ∧
  (∀ i, i < 8 → va_O "RuledCalendar$Part" (sa G (10 + i)) (sN G) U H) ∧
  (∀ i, i < 4 → va_O "RuledCalendar$Frequency" (sa G (20 + i)) (sN G) U H) ∧
  (∀ i, i < 8 → va_OF "RuledCalendar$Part" "word" "Ljava/lang/String;" (.ref (sa G (30 + i))) (sa G (10 + i)) (sN G) U H) ∧
  (∀ i, i < 8 → va_OF "RuledCalendar$Part" "bit" "I" (.int (pbit i)) (sa G (10 + i)) (sN G) U H) ∧
  (∀ i, i < 8 → va_OF "RuledCalendar$Part" "isList" "Z" (.int (plis i)) (sa G (10 + i)) (sN G) U H) ∧
  (∀ i, i < 8 → va_OF "RuledCalendar$Part" "low" "I" (.int (plow i)) (sa G (10 + i)) (sN G) U H) ∧
  (∀ i, i < 8 → va_OF "RuledCalendar$Part" "high" "I" (.int (phig i)) (sa G (10 + i)) (sN G) U H) ∧
  (∀ i, i < 4 → va_OF "RuledCalendar$Frequency" "word" "Ljava/lang/String;" (.ref (sa G (38 + i))) (sa G (20 + i)) (sN G) U H) ∧
  (∀ i, i < 4 → va_OF "RuledCalendar$Frequency" "wholeMonths" "Z" (.int (fwho i)) (sa G (20 + i)) (sN G) U H) ∧
  (∀ i, i < 13 → va_O "java/lang/String" (sa G (30 + i)) (sN G) U H) ∧
  (∀ i, i < 13 → va_OF "java/lang/String" "value" "[B" (.ref (sa G (50 + i))) (sa G (30 + i)) (sN G) U H) ∧
  (∀ i, i < 13 → va_OF "java/lang/String" "coder" "B" (.int 0) (sa G (30 + i)) (sN G) U H) ∧
  (∀ i, i < 13 → va_T .byte (sa G (50 + i)) (sbyt i).length (fun j => .int ((sbyt i).getD j 0)) (sN G) U H) ∧
  va_Z "java/lang/String" "COMPACT_STRINGS" "Z" (.int 1) (sN G) U H ∧
  vk_R "RuledCalendar$Reader" 171 "MOTUWETHFRSASU" (sa G 42) U ∧
  va_Z "jdk/internal/util/Preconditions" "SIOOBE_FORMATTER" "Ljava/util/function/BiFunction;" (va_rf (fmt_G G)) (sN G) U H ∧
  (va_Nw (.fieldLinkNest "RuledCalendar$Days" 28 "RuledCalendar" "MONTH_LENGTHS" "[I" "RuledCalendar") U ∧ va_Nw (.methodLinkNest "RuledCalendar$Reader" 38 ({ cls := "RuledCalendar$Rule", name := "forget", desc := "()V" } : MethodName) "RuledCalendar") U ∧ va_Nw (.fieldLinkNest "RuledCalendar$Reader" 102 "RuledCalendar" "PARTS" "[LRuledCalendar$Part;" "RuledCalendar") U ∧ va_Nw (.fieldLinkNest "RuledCalendar$Reader" 144 "RuledCalendar" "FREQUENCIES" "[LRuledCalendar$Frequency;" "RuledCalendar") U ∧ va_AO "RuledCalendar$Thing" U) ∧
  ((∀ i j, i < 8 → j < 8 → sa G (10 + i) = sa G (10 + j) → i = j) ∧ (∀ i j, i < 4 → j < 4 → sa G (20 + i) = sa G (20 + j) → i = j))
theorem Sta.go {G : Ev} {u U : State} {H H1 : Heap} (hW : u.WarmedH U.vm) (hq : ∀ x : Nat, x < H.size → ¬ sN G x → H1[x]? = H[x]?) (h : Sta G u H) : Sta G U H1 := by
  obtain ⟨⟨a1, a2⟩, ⟨b1, b2⟩, ⟨c1, c2⟩, d, e, f, g, p1, p2, p3, p4, p5, q1, q2, r1, r2, r3, r4, t, k, fm, nw, inj⟩ := h
  have M := hW.alike
  exact ⟨⟨(a1.moved M).kept hq, (a2.moved M).kept hq⟩, ⟨(b1.moved M).kept hq, (b2.moved M).kept hq⟩, ⟨(c1.moved M).kept hq, (c2.moved M).kept hq⟩,
    fun i hi => ((d i hi).moved M).kept hq, fun i hi => ((e i hi).moved M).kept hq, fun i hi => ((f i hi).moved M).kept hq, fun i hi => ((g i hi).moved M).kept hq,
    fun i hi => ((p1 i hi).moved M).kept hq, fun i hi => ((p2 i hi).moved M).kept hq, fun i hi => ((p3 i hi).moved M).kept hq, fun i hi => ((p4 i hi).moved M).kept hq, fun i hi => ((p5 i hi).moved M).kept hq,
    fun i hi => ((q1 i hi).moved M).kept hq, fun i hi => ((q2 i hi).moved M).kept hq, fun i hi => ((r1 i hi).moved M).kept hq, fun i hi => ((r2 i hi).moved M).kept hq, fun i hi => ((r3 i hi).moved M).kept hq, fun i hi => ((r4 i hi).moved M).kept hq,
    (t.moved M).kept hq, k.warm hW, (fm.moved M).kept hq, ⟨va_Nw.warmF hW nw.1, va_Nw.warmM hW nw.2.1, va_Nw.warmF hW nw.2.2.1, va_Nw.warmF hW nw.2.2.2.1, va_AO.moved M nw.2.2.2.2⟩, inj⟩
-- contracts
def Stb (G : Ev) (U : State) (L : List Nat) (sz : Nat) : Prop := Sta G U U.heap ∧ sa G 0 ≤ sz ∧ ∀ x ∈ L, sa G 0 ≤ x
abbrev Pre (G : Ev) (ws : va_W) (sz : Nat) : State → Prop := fun U => U.heap.size = sz ∧ va_P (DD G) vwCl ws U.heap ∧ va_K (DD G) vwCl (TY G) U ∧ va_D (fun _ => True) ws ∧ Stb G U (fs ws) sz
def CtI (l : Launch) (G : Ev) (y : MethodName) (b : ByteArray) (mL : Nat) (rt : Option FieldType) (fr lo mc ms : Nat) (As : List Value) (ws ws' : va_W) (r : Int32) : Prop :=
  ∀ sz : Nat, Met l y (wU y b mL rt) { frames := fr, cells := mc, slots := ms, locals := lo } (va_Pc As (Pre G ws sz)) (va_Qi (fun r' (_ : Unit) => r' = r) (fun _ t => va_P (DD G) vwCl ws' t.heap) (AL (fs ws) sz)) mc ms (AL (fs ws) sz)
def CtJ (l : Launch) (G : Ev) (y : MethodName) (b : ByteArray) (mL : Nat) (rt : Option FieldType) (fr lo mc ms : Nat) (As : List Value) (ws ws' : va_W) (r : Int64) : Prop :=
  ∀ sz : Nat, Met l y (wU y b mL rt) { frames := fr, cells := mc, slots := ms, locals := lo } (va_Pc As (Pre G ws sz)) (va_Ql (fun r' (_ : Unit) => r' = r) (fun _ t => va_P (DD G) vwCl ws' t.heap) (AL (fs ws) sz)) mc ms (AL (fs ws) sz)
def CtV (l : Launch) (G : Ev) (y : MethodName) (b : ByteArray) (mL : Nat) (rt : Option FieldType) (fr lo mc ms : Nat) (As : List Value) (ws ws' : va_W) : Prop :=
  ∀ sz : Nat, Met l y (wU y b mL rt) { frames := fr, cells := mc, slots := ms, locals := lo } (va_Pc As (Pre G ws sz)) (va_Qv (fun _ : Unit => True) (fun _ t => va_P (DD G) vwCl ws' t.heap) (AL (fs ws) sz)) mc ms (AL (fs ws) sz)
theorem blind {As : List Value} {G : Ev} {ws : va_W} {sz : Nat} : FrameBlind (va_Pc As (Pre G ws sz)) := fun a U g mk q => by
  obtain ⟨q0, q1, qP, qK, qD, qS, qS1⟩ := q; exact ⟨q0, q1, qP, va_K.moved (u := U) (U := U.calling g mk a) (Vm.Alike.refl U.vm) qK, qD, qS.go (U := U.calling g mk a) (State.WarmedH.refl U) (fun _ _ _ => rfl), qS1⟩
/-- the machine inside a method -/
def CX (p : Program) (s : State) (m : MethodId) (args : Array Value) (meth : Method) (c : Code) (cc : ByteArray) (nL : Nat) (rt : Option FieldType) (own : String) (c0 : Cond) (G : Ev) (A : Nat → Prop) : Prop :=
  (p.tables.exec = Jvm.exec ∧ c.code = cc ∧ c.maxLocals = nL ∧ s.vm.findClass own = some m.cls ∧ ∀ w ∈ c0 :: big, w.before args s = true) ∧ va_K (DD G) vwCl (TY G) s ∧ meth.sig.returnType = rt ∧ meth.locks = false ∧ (∀ q, s.heap.size ≤ q → A q) ∧ (∀ q, A q → sa G 0 ≤ q) ∧ Sta G s s.heap
theorem enter {l : Launch} {G : Ev} {y : MethodName} {b : ByteArray} {mL : Nat} {rt : Option FieldType} {fr lo mc ms sz : Nat} {As : List Value} {ws : va_W} {Qc : Array Value → State → Outcome → State → Prop} (hpl : plainName y.cls = true) (hlen : (lg_sl As).length ≤ mL)
    (body : ∀ (p : Program) (e : Env) (s : State) (m : MethodId) (args : Array Value) (below : List Frame) (meth : Method) (c : Code) (ls : Array Slot), CX p s m args meth c b mL rt y.cls (.code y b mL rt) G (AL (fs ws) s.heap.size) → sz = s.heap.size → va_P (DD G) vwCl ws s.heap → va_D (AL (fs ws) s.heap.size) ws → va_S (AL (fs ws) s.heap.size) s.heap s.heap [] → lv_has ls mL (lv_args 0 As) →
      W p l e { frames := fr, cells := mc, slots := ms, locals := lo } s m args below meth c s.heap [] 0 0 (MQ below Qc args s mc ms (AL (fs ws) sz)) (F0 m 0 ls [])) :
    Met l y (wU y b mL rt) { frames := fr, cells := mc, slots := ms, locals := lo } (va_Pc As (Pre G ws sz)) Qc mc ms (AL (fs ws) sz) := by
  refine Met.ofW (cc := b) (maxL := mL) (ret := rt) hpl rfl ?_
  intro p e s m args below meth c s₁ B hml hv
  obtain ⟨rfl, hsz, hP, hK, hD0, hS0, hS1, hS2⟩ := hv
  have hts := atoms_spec (ws := wU y b mL rt) B.pre
  have hl := lv_entry As (n := mL) hlen
  rw [lg_entry_eq]
  exact body p e s m As.toArray below meth c _ ⟨⟨B.exec, B.bytes, hml, findClass_of_methodNamed B.named, hts⟩, hK, B.returns, B.notSynchronized, fun x h => Or.inr h, fun x h => h.elim (hS2 x) (fun h => Nat.le_trans (by rw [hsz]; exact hS1) h), hS0⟩ hsz.symm hP (va_D_AL hD0) va_S.rf hl
section
variable {p : Program} {l : Launch} {e : Env} {R : Room} {s : State} {m : MethodId} {args : Array Value} {below : List Frame} {meth : Method} {c : Code} {H : Heap} {locs : List Loc} {cells slots : Nat} {Q : State → Prop}
variable {cc : ByteArray} {nL : Nat} {rt : Option FieldType} {own : String} {c0 : Cond} {G : Ev} {pc : Nat} {ls : Array Slot} {rest st0 : List Value} {A : Nat → Prop} {H0 : Heap} {ws wc wc' : va_W}
theorem ret_i {σ : Type} {wf : σ → va_W} {L : List Nat} {v r : Int32} {q1 q' : σ} (C : CX p s m args meth c cc nL (some .int) own c0 G A) (hm : some (v, q1) = some (r, q')) (hP : va_P (DD G) vwCl (wf q1) H) (hS : va_S (AL L s.heap.size) s.heap H locs) (hdg : decode cc pc = .ok (.ireturn, 1)) :
    W p l e R s m args below meth c H locs cells slots (MQ below (va_Qi (fun r' (_ : Unit) => r' = r) (fun _ t => va_P (DD G) vwCl (wf q') t.heap) (AL L s.heap.size)) args s cells slots (AL L s.heap.size)) (F0 m pc ls [.int v]) := by
  cases hm
  exact W.iret C.1.1 C.1.2.1 C.2.2.1 (fun t ht hW => ⟨⟨v, (), rfl, rfl, by subst ht; exact hP⟩, hS.F ht⟩) hS.2.2 hdg C.2.2.2.1
theorem ret_z {σ : Type} {wf : σ → va_W} {L : List Nat} {v r : Int32} {q1 q' : σ} (C : CX p s m args meth c cc nL (some .boolean) own c0 G A) (hn : narrow .boolean (.int v) = .int v) (hm : some (v, q1) = some (r, q')) (hP : va_P (DD G) vwCl (wf q1) H) (hS : va_S (AL L s.heap.size) s.heap H locs) (hdg : decode cc pc = .ok (.ireturn, 1)) :
    W p l e R s m args below meth c H locs cells slots (MQ below (va_Qi (fun r' (_ : Unit) => r' = r) (fun _ t => va_P (DD G) vwCl (wf q') t.heap) (AL L s.heap.size)) args s cells slots (AL L s.heap.size)) (F0 m pc ls [.int v]) := by
  cases hm
  exact W.zret C.1.1 C.1.2.1 C.2.2.1 hn (fun t ht hW => ⟨⟨v, (), rfl, rfl, by subst ht; exact hP⟩, hS.F ht⟩) hS.2.2 hdg C.2.2.2.1
theorem ret_l {σ : Type} {wf : σ → va_W} {L : List Nat} {v r : Int64} {q1 q' : σ} (C : CX p s m args meth c cc nL (some .long) own c0 G A) (hm : some (v, q1) = some (r, q')) (hP : va_P (DD G) vwCl (wf q1) H) (hS : va_S (AL L s.heap.size) s.heap H locs) (hdg : decode cc pc = .ok (.lreturn, 1)) :
    W p l e R s m args below meth c H locs cells slots (MQ below (va_Ql (fun r' (_ : Unit) => r' = r) (fun _ t => va_P (DD G) vwCl (wf q') t.heap) (AL L s.heap.size)) args s cells slots (AL L s.heap.size)) (F0 m pc ls [.long v]) := by
  cases hm
  exact W.lret C.1.1 C.1.2.1 C.2.2.1 (fun t ht hW => ⟨⟨v, (), rfl, rfl, by subst ht; exact hP⟩, hS.F ht⟩) hS.2.2 hdg C.2.2.2.1
theorem ret_v {σ : Type} {wf : σ → va_W} {L : List Nat} {q1 q' : σ} (C : CX p s m args meth c cc nL none own c0 G A) (hm : some q1 = some q') (hP : va_P (DD G) vwCl (wf q1) H) (hS : va_S (AL L s.heap.size) s.heap H locs) (hdg : decode cc pc = .ok (.return_, 1)) :
    W p l e R s m args below meth c H locs cells slots (MQ below (va_Qv (fun _ : Unit => True) (fun _ t => va_P (DD G) vwCl (wf q') t.heap) (AL L s.heap.size)) args s cells slots (AL L s.heap.size)) (F0 m pc ls []) := by
  cases hm
  exact W.vret C.1.1 C.1.2.1 C.2.2.1 (fun t ht hW => ⟨⟨(), rfl, trivial, by subst ht; exact hP⟩, hS.F ht⟩) hS.2.2 hdg C.2.2.2.1
theorem ret_io {σ : Type} {wf : σ → va_W} {L : List Nat} {v r : Int32} {q1 : σ} (C : CX p s m args meth c cc nL (some .int) own c0 G A) (hm : some v = some r) (hP : va_P (DD G) vwCl (wf q1) H) (hS : va_S (AL L s.heap.size) s.heap H locs) (hdg : decode cc pc = .ok (.ireturn, 1)) :
    W p l e R s m args below meth c H locs cells slots (MQ below (va_Qi (fun r' (_ : Unit) => r' = r) (fun _ t => va_P (DD G) vwCl (wf q1) t.heap) (AL L s.heap.size)) args s cells slots (AL L s.heap.size)) (F0 m pc ls [.int v]) := by
  cases hm
  exact ret_i (wf := wf) (q1 := q1) C rfl hP hS hdg
theorem ret_zo {σ : Type} {wf : σ → va_W} {L : List Nat} {v r : Int32} {q1 : σ} (C : CX p s m args meth c cc nL (some .boolean) own c0 G A) (hn : narrow .boolean (.int v) = .int v) (hm : some v = some r) (hP : va_P (DD G) vwCl (wf q1) H) (hS : va_S (AL L s.heap.size) s.heap H locs) (hdg : decode cc pc = .ok (.ireturn, 1)) :
    W p l e R s m args below meth c H locs cells slots (MQ below (va_Qi (fun r' (_ : Unit) => r' = r) (fun _ t => va_P (DD G) vwCl (wf q1) t.heap) (AL L s.heap.size)) args s cells slots (AL L s.heap.size)) (F0 m pc ls [.int v]) := by
  cases hm
  exact ret_z (wf := wf) (q1 := q1) C hn rfl hP hS hdg
theorem ret_lo {σ : Type} {wf : σ → va_W} {L : List Nat} {v r : Int64} {q1 : σ} (C : CX p s m args meth c cc nL (some .long) own c0 G A) (hm : some v = some r) (hP : va_P (DD G) vwCl (wf q1) H) (hS : va_S (AL L s.heap.size) s.heap H locs) (hdg : decode cc pc = .ok (.lreturn, 1)) :
    W p l e R s m args below meth c H locs cells slots (MQ below (va_Ql (fun r' (_ : Unit) => r' = r) (fun _ t => va_P (DD G) vwCl (wf q1) t.heap) (AL L s.heap.size)) args s cells slots (AL L s.heap.size)) (F0 m pc ls [.long v]) := by
  cases hm
  exact ret_l (wf := wf) (q1 := q1) C rfl hP hS hdg
theorem AL_sub (hS : va_S A H0 H locs) (hA : ∀ q, H0.size ≤ q → A q) (hDc : va_D A wc) : ∀ q, AL (fs wc) H.size q → A q := fun q h => h.elim (va_D_in hDc) (fun h => hA q (Nat.le_trans hS.1 h))
theorem pre_of (X : CX p s m args meth c cc nL rt own c0 G A) (hS : va_S A s.heap H locs) (hPc : va_P (DD G) vwCl wc H) (hDc : va_D A wc) (As : List Value) : ∀ U : State, U.heap = H → s.WarmedH U.vm → va_Pc As (Pre G wc H.size) As.toArray U := fun U hU hW => ⟨rfl, by rw [hU], by rw [hU]; exact hPc, va_K.moved hW.alike X.2.1, hDc.weaken (fun _ _ _ _ => trivial), by rw [hU]; exact X.2.2.2.2.2.2.go hW (fun x h1 h2 => hS.2.1 x h1 (fun z => h2 (X.2.2.2.2.2.1 x z))), X.2.2.2.2.2.1 _ (X.2.2.2.2.1 _ hS.1), fun x h => X.2.2.2.2.2.1 x (va_D_in hDc h)⟩
theorem goV_i {y : MethodName} {b : ByteArray} {mL : Nat} {rt2 : Option FieldType} {fr lo mc ms n ad idx : Nat} {As : List Value} {r : Int32} {C : String} (X : CX p s m args meth c cc nL rt own c0 G A) (hc : CtI l G y b mL rt2 fr lo mc ms (.ref ad :: As) wc wc' r)
    (hG : GoodIn (c0 :: big) (wsV own idx C y (wU y b mL rt2))) (hd : y.cls = C ∧ y.cls ≠ "java/lang/invoke/MethodHandle" ∧ y.cls ≠ "java/lang/invoke/VarHandle" ∧ (parseMethodDescriptor y.desc).map (fun d => d.parameters.length) = some n) (hR : fr + 1 ≤ R.frames ∧ 8 + (mL + 11) + lo ≤ R.locals)
    (hrecv : ∃ cell : Cell, H[ad]? = some cell ∧ cell.vm.isStatics = false ∧ s.vm.findClass C = some cell.cls) (hPc : va_P (DD G) vwCl wc H) (hDc : va_D A wc) (hS : va_S A s.heap H locs)
    (hst : st0 = As.reverse ++ .ref ad :: rest) (hn : As.length = n) (hl : ls.size = nL) (hW : (rest.map fun v => v.category).sum ≤ 8) (hdg : decode cc pc = .ok (.invokevirtual idx, 3)) (hf : cells + mc ≤ R.cells ∧ slots + ms ≤ R.slots)
    (kk : ∀ (H1 : Heap) (locs1 : List Loc), va_P (DD G) vwCl wc' H1 → (∀ q : Nat, q < H.size → q ∉ fs wc → H1[q]? = H[q]?) → va_S A s.heap H1 locs1 → W p l e R s m args below meth c H1 locs1 (cells + mc) (slots + ms) Q (F0 m (pc + 3) ls (.int r :: rest))) : W p l e R s m args below meth c H locs cells slots Q (F0 m pc ls st0) := by
  refine va_calli (va_runV (As := As) (rest := rest) X.1 (hc H.size) (cwV n X.1.2.2.2.2 hG rfl rfl rfl hd hR) ⟨blind, hrecv, pre_of X hS hPc hDc (.ref ad :: As)⟩ rfl hn hl hst (lv_room hW) hdg hf) hS (fun q _ h => AL_sub hS X.2.2.2.2.1 hDc q h) (AL_sub hS X.2.2.2.2.1 hDc) (fun r1 u t H1 locs1 ht hvm hw hB hz1 hk1 hS1 => ?_)
  subst hw; subst ht
  exact kk _ _ hB (fun q h1 h2 => hk1 q h1 (fun z => z.elim h2 (fun z => absurd h1 (Nat.not_lt.mpr z)))) hS1
theorem goV_l {y : MethodName} {b : ByteArray} {mL : Nat} {rt2 : Option FieldType} {fr lo mc ms n ad idx : Nat} {As : List Value} {r : Int64} {C : String} (X : CX p s m args meth c cc nL rt own c0 G A) (hc : CtJ l G y b mL rt2 fr lo mc ms (.ref ad :: As) wc wc' r)
    (hG : GoodIn (c0 :: big) (wsV own idx C y (wU y b mL rt2))) (hd : y.cls = C ∧ y.cls ≠ "java/lang/invoke/MethodHandle" ∧ y.cls ≠ "java/lang/invoke/VarHandle" ∧ (parseMethodDescriptor y.desc).map (fun d => d.parameters.length) = some n) (hR : fr + 1 ≤ R.frames ∧ 8 + (mL + 11) + lo ≤ R.locals)
    (hrecv : ∃ cell : Cell, H[ad]? = some cell ∧ cell.vm.isStatics = false ∧ s.vm.findClass C = some cell.cls) (hPc : va_P (DD G) vwCl wc H) (hDc : va_D A wc) (hS : va_S A s.heap H locs)
    (hst : st0 = As.reverse ++ .ref ad :: rest) (hn : As.length = n) (hl : ls.size = nL) (hW : (rest.map fun v => v.category).sum ≤ 8) (hdg : decode cc pc = .ok (.invokevirtual idx, 3)) (hf : cells + mc ≤ R.cells ∧ slots + ms ≤ R.slots)
    (kk : ∀ (H1 : Heap) (locs1 : List Loc), va_P (DD G) vwCl wc' H1 → (∀ q : Nat, q < H.size → q ∉ fs wc → H1[q]? = H[q]?) → va_S A s.heap H1 locs1 → W p l e R s m args below meth c H1 locs1 (cells + mc) (slots + ms) Q (F0 m (pc + 3) ls (.long r :: rest))) : W p l e R s m args below meth c H locs cells slots Q (F0 m pc ls st0) := by
  refine va_calll (va_runV (As := As) (rest := rest) X.1 (hc H.size) (cwV n X.1.2.2.2.2 hG rfl rfl rfl hd hR) ⟨blind, hrecv, pre_of X hS hPc hDc (.ref ad :: As)⟩ rfl hn hl hst (lv_room hW) hdg hf) hS (fun q _ h => AL_sub hS X.2.2.2.2.1 hDc q h) (AL_sub hS X.2.2.2.2.1 hDc) (fun r1 u t H1 locs1 ht hvm hw hB hz1 hk1 hS1 => ?_)
  subst hw; subst ht
  exact kk _ _ hB (fun q h1 h2 => hk1 q h1 (fun z => z.elim h2 (fun z => absurd h1 (Nat.not_lt.mpr z)))) hS1
theorem goV_v {y : MethodName} {b : ByteArray} {mL : Nat} {rt2 : Option FieldType} {fr lo mc ms n ad idx : Nat} {As : List Value} {C : String} (X : CX p s m args meth c cc nL rt own c0 G A) (hc : CtV l G y b mL rt2 fr lo mc ms (.ref ad :: As) wc wc')
    (hG : GoodIn (c0 :: big) (wsV own idx C y (wU y b mL rt2))) (hd : y.cls = C ∧ y.cls ≠ "java/lang/invoke/MethodHandle" ∧ y.cls ≠ "java/lang/invoke/VarHandle" ∧ (parseMethodDescriptor y.desc).map (fun d => d.parameters.length) = some n) (hR : fr + 1 ≤ R.frames ∧ 8 + (mL + 11) + lo ≤ R.locals)
    (hrecv : ∃ cell : Cell, H[ad]? = some cell ∧ cell.vm.isStatics = false ∧ s.vm.findClass C = some cell.cls) (hPc : va_P (DD G) vwCl wc H) (hDc : va_D A wc) (hS : va_S A s.heap H locs)
    (hst : st0 = As.reverse ++ .ref ad :: rest) (hn : As.length = n) (hl : ls.size = nL) (hW : (rest.map fun v => v.category).sum ≤ 8) (hdg : decode cc pc = .ok (.invokevirtual idx, 3)) (hf : cells + mc ≤ R.cells ∧ slots + ms ≤ R.slots)
    (kk : ∀ (H1 : Heap) (locs1 : List Loc), va_P (DD G) vwCl wc' H1 → (∀ q : Nat, q < H.size → q ∉ fs wc → H1[q]? = H[q]?) → va_S A s.heap H1 locs1 → W p l e R s m args below meth c H1 locs1 (cells + mc) (slots + ms) Q (F0 m (pc + 3) ls rest)) : W p l e R s m args below meth c H locs cells slots Q (F0 m pc ls st0) := by
  refine va_callv (va_runV (As := As) (rest := rest) X.1 (hc H.size) (cwV n X.1.2.2.2.2 hG rfl rfl rfl hd hR) ⟨blind, hrecv, pre_of X hS hPc hDc (.ref ad :: As)⟩ rfl hn hl hst (lv_room hW) hdg hf) hS (fun q _ h => AL_sub hS X.2.2.2.2.1 hDc q h) (AL_sub hS X.2.2.2.2.1 hDc) (fun u t H1 locs1 ht hvm hw hB hz1 hk1 hS1 => ?_)
  subst ht
  exact kk _ _ hB (fun q h1 h2 => hk1 q h1 (fun z => z.elim h2 (fun z => absurd h1 (Nat.not_lt.mpr z)))) hS1
theorem goS_i {y : MethodName} {b : ByteArray} {mL : Nat} {rt2 : Option FieldType} {fr lo mc ms n idx : Nat} {As : List Value} {r : Int32} (X : CX p s m args meth c cc nL rt own c0 G A) (hc : CtI l G y b mL rt2 fr lo mc ms As wc wc' r)
    (hG : GoodIn (c0 :: big) (wsS own idx y (wU y b mL rt2))) (hd : y.cls = own ∧ y.cls ≠ "java/lang/invoke/MethodHandle" ∧ y.cls ≠ "java/lang/invoke/VarHandle" ∧ (parseMethodDescriptor y.desc).map (fun d => d.parameters.length) = some n) (hR : fr + 1 ≤ R.frames ∧ 8 + (mL + 11) + lo ≤ R.locals)
    (hPc : va_P (DD G) vwCl wc H) (hDc : va_D A wc) (hS : va_S A s.heap H locs)
    (hst : st0 = As.reverse ++ rest) (hn : As.length = n) (hl : ls.size = nL) (hW : (rest.map fun v => v.category).sum ≤ 8) (hdg : decode cc pc = .ok (.invokestatic idx, 3)) (hf : cells + mc ≤ R.cells ∧ slots + ms ≤ R.slots)
    (kk : ∀ (H1 : Heap) (locs1 : List Loc), va_P (DD G) vwCl wc' H1 → (∀ q : Nat, q < H.size → q ∉ fs wc → H1[q]? = H[q]?) → va_S A s.heap H1 locs1 → W p l e R s m args below meth c H1 locs1 (cells + mc) (slots + ms) Q (F0 m (pc + 3) ls (.int r :: rest))) : W p l e R s m args below meth c H locs cells slots Q (F0 m pc ls st0) := by
  refine va_calli (va_runS (As := As) (rest := rest) X.1 (hc H.size) (cwS n X.1.2.2.2.2 hG rfl rfl rfl hd hR) ⟨blind, pre_of X hS hPc hDc As⟩ rfl hn hl hst (lv_room hW) hdg hf) hS (fun q _ h => AL_sub hS X.2.2.2.2.1 hDc q h) (AL_sub hS X.2.2.2.2.1 hDc) (fun r1 u t H1 locs1 ht hvm hw hB hz1 hk1 hS1 => ?_)
  subst hw; subst ht
  exact kk _ _ hB (fun q h1 h2 => hk1 q h1 (fun z => z.elim h2 (fun z => absurd h1 (Nat.not_lt.mpr z)))) hS1
theorem goS_l {y : MethodName} {b : ByteArray} {mL : Nat} {rt2 : Option FieldType} {fr lo mc ms n idx : Nat} {As : List Value} {r : Int64} (X : CX p s m args meth c cc nL rt own c0 G A) (hc : CtJ l G y b mL rt2 fr lo mc ms As wc wc' r)
    (hG : GoodIn (c0 :: big) (wsS own idx y (wU y b mL rt2))) (hd : y.cls = own ∧ y.cls ≠ "java/lang/invoke/MethodHandle" ∧ y.cls ≠ "java/lang/invoke/VarHandle" ∧ (parseMethodDescriptor y.desc).map (fun d => d.parameters.length) = some n) (hR : fr + 1 ≤ R.frames ∧ 8 + (mL + 11) + lo ≤ R.locals)
    (hPc : va_P (DD G) vwCl wc H) (hDc : va_D A wc) (hS : va_S A s.heap H locs)
    (hst : st0 = As.reverse ++ rest) (hn : As.length = n) (hl : ls.size = nL) (hW : (rest.map fun v => v.category).sum ≤ 8) (hdg : decode cc pc = .ok (.invokestatic idx, 3)) (hf : cells + mc ≤ R.cells ∧ slots + ms ≤ R.slots)
    (kk : ∀ (H1 : Heap) (locs1 : List Loc), va_P (DD G) vwCl wc' H1 → (∀ q : Nat, q < H.size → q ∉ fs wc → H1[q]? = H[q]?) → va_S A s.heap H1 locs1 → W p l e R s m args below meth c H1 locs1 (cells + mc) (slots + ms) Q (F0 m (pc + 3) ls (.long r :: rest))) : W p l e R s m args below meth c H locs cells slots Q (F0 m pc ls st0) := by
  refine va_calll (va_runS (As := As) (rest := rest) X.1 (hc H.size) (cwS n X.1.2.2.2.2 hG rfl rfl rfl hd hR) ⟨blind, pre_of X hS hPc hDc As⟩ rfl hn hl hst (lv_room hW) hdg hf) hS (fun q _ h => AL_sub hS X.2.2.2.2.1 hDc q h) (AL_sub hS X.2.2.2.2.1 hDc) (fun r1 u t H1 locs1 ht hvm hw hB hz1 hk1 hS1 => ?_)
  subst hw; subst ht
  exact kk _ _ hB (fun q h1 h2 => hk1 q h1 (fun z => z.elim h2 (fun z => absurd h1 (Nat.not_lt.mpr z)))) hS1
end
-- a model's guards
def gi {α : Type} (i : Int32) (n : Nat) (f : Option α) : Option α := if ¬ (i < 0 ∨ n ≤ i.toNatClampNeg) then f else none
theorem gi_s {α : Type} {i : Int32} {n : Nat} {f : Option α} {r : α} (h : gi i n f = some r) : vp_in i n ∧ f = some r := by
  unfold gi at h
  by_cases c : ¬ (i < 0 ∨ n ≤ i.toNatClampNeg)
  · rw [if_pos c] at h; exact ⟨c, h⟩
  · rw [if_neg c] at h; cases h
def gz {α : Type} (y : Int32) (f : Option α) : Option α := if y = 0 then none else f
theorem gz_s {α : Type} {y : Int32} {f : Option α} {r : α} (h : gz y f = some r) : ¬ y = 0 ∧ f = some r := by
  unfold gz at h
  by_cases c : y = 0
  · rw [if_pos c] at h; cases h
  · rw [if_neg c] at h; exact ⟨c, h⟩
def gb {α : Type} (v : Int32) (f : Option α) : Option α := if vp_nar .boolean v = v then f else none
theorem gb_s {α : Type} {v : Int32} {f : Option α} {r : α} (h : gb v f = some r) : narrow .boolean (.int v) = .int v ∧ f = some r := by
  unfold gb at h
  by_cases c : vp_nar .boolean v = v
  · rw [if_pos c] at h
    refine ⟨?_, h⟩
    have e : narrow .boolean (.int v) = .int (vp_nar .boolean v) := rfl
    rw [e, c]
  · rw [if_neg c] at h; cases h
theorem bd_s {α β : Type} {o : Option α} {f : α → Option β} {r : β} (h : o.bind f = some r) : ∃ x, o = some x ∧ f x = some r := by
  cases o with
  | none => cases h
  | some x => exact ⟨x, rfl, h⟩
def rmI (x y : Int32) : Int32 := x - x / y * y
def slI (x y : Int32) : Int32 := x <<< (y &&& 31)
def srI (x y : Int32) : Int32 := x >>> (y &&& 31)
def urI (x y : Int32) : Int32 := (x.toUInt32 >>> (y.toUInt32 &&& Int32.toUInt32 31)).toInt32
def slL (x : Int64) (y : Int32) : Int64 := x <<< (y.toInt64 &&& 63)
def srL (x : Int64) (y : Int32) : Int64 := x >>> (y.toInt64 &&& 63)
def urL (x : Int64) (y : Int32) : Int64 := (x.toUInt64 >>> (y.toInt64.toUInt64 &&& Int64.toUInt64 63)).toInt64
def xchg (x : Int32) : Int32 := x ^^^ (-1)
abbrev Pc3 : Type := (Nat → Int32) × (Nat → Nat → Int32) × (Nat → Nat → Int64)
def sS (q : Pc3) (k : Nat) (v : Int32) : Pc3 := (upd q.1 k v, q.2.1, q.2.2)
def sA (q : Pc3) (k : Nat) (i v : Int32) : Pc3 := (q.1, va_up q.2.1 k (upd (q.2.1 k) i.toNatClampNeg v), q.2.2)
def sL (q : Pc3) (k : Nat) (i : Int32) (v : Int64) : Pc3 := (q.1, q.2.1, va_up q.2.2 k (vp_updL (q.2.2 k) i.toNatClampNeg v))
abbrev rS (q : Pc3) (k : Nat) : Int32 := q.1 k
abbrev rA (q : Pc3) (k : Nat) (i : Int32) : Int32 := q.2.1 k i.toNatClampNeg
abbrev rL (q : Pc3) (k : Nat) (i : Int32) : Int64 := q.2.2 k i.toNatClampNeg
