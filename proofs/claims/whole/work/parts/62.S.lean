/-! What stands at the start. -/
def pnms : List String := ["FREQ", "INTERVAL", "COUNT", "UNTIL", "BYMONTH", "BYMONTHDAY", "BYSETPOS", "BYDAY"]
def fnms : List String := ["DAILY", "WEEKLY", "MONTHLY", "YEARLY"]
def strT (i : Nat) : Term := ([.string "RuledCalendar$Part" 67, .string "RuledCalendar$Part" 71, .string "RuledCalendar$Part" 72, .string "RuledCalendar$Part" 73, .string "RuledCalendar$Part" 76, .string "RuledCalendar$Part" 77, .string "RuledCalendar$Part" 78, .string "RuledCalendar$Part" 79, .string "RuledCalendar$Frequency" 45, .string "RuledCalendar$Frequency" 49, .string "RuledCalendar$Frequency" 50, .string "RuledCalendar$Frequency" 51, .string "RuledCalendar$Reader" 171] : List Term).getD i (.string "" 0)
def strL : List Nat := [4, 8, 5, 5, 7, 10, 8, 5, 5, 6, 7, 6, 14]
def strB : List (List Int32) := [[70, 82, 69, 81], [73, 78, 84, 69, 82, 86, 65, 76], [67, 79, 85, 78, 84], [85, 78, 84, 73, 76], [66, 89, 77, 79, 78, 84, 72], [66, 89, 77, 79, 78, 84, 72, 68, 65, 89], [66, 89, 83, 69, 84, 80, 79, 83], [66, 89, 68, 65, 89], [68, 65, 73, 76, 89], [87, 69, 69, 75, 76, 89], [77, 79, 78, 84, 72, 76, 89], [89, 69, 65, 82, 76, 89], [77, 79, 84, 85, 87, 69, 84, 72, 70, 82, 83, 65, 83, 85]]
theorem arrK {args : Array Value} {s : State} {ty : FieldType} (h : (Cond.arrayClass ty).before args s = true) : ∃ cA : ClassId, ArrOfT s cA ty ∧ s.vm.findClass ("[" ++ ty.toString) = some cA := by
  obtain ⟨cA, kA, comp, h1, h2, h3⟩ := Cond.arrayClass_spec h
  exact ⟨cA, fun n z => ⟨fun k h => (by cases h), kA, h2, comp, h3⟩, h1⟩
theorem arrO {s : State} {C : String} (h : va_AO C s) : ∃ cA : ClassId, ArrOfT s cA (.object C) ∧ va_RA s cA (.object C) := by
  obtain ⟨comp, c, k, h1, h2, h3, h4, h5⟩ := Cond.arrayOver_spec h
  exact ⟨c, fun n z => ⟨fun k h => (by cases h), k, h3, comp, h4⟩, k, comp, h3, h4, h1, h5⟩
theorem strs_of {args : Array Value} {s : State} {N : Nat} {tm : Nat → Term} {len : List Nat} {byt : List (List Int32)} {A : Nat → Prop} (hN : ∀ i : Nat, i < N → len.getD i 0 < 2 ^ 31) (hex : ∀ i : Nat, i < N → (Cond.exactly (tm i) "java/lang/String").before args s = true) (hco : ∀ i : Nat, i < N → (Cond.eq (.field (tm i) "java/lang/String" "coder" "B") (.int 0)).before args s = true)
    (har : ∀ i : Nat, i < N → (Cond.arrayOf (.field (tm i) "java/lang/String" "value" "[B") .byte).before args s = true) (hle : ∀ i : Nat, i < N → (Cond.eq (.length (.field (tm i) "java/lang/String" "value" "[B")) (.int (Int32.ofNat (len.getD i 0)))).before args s = true)
    (hel : ∀ i : Nat, i < N → ∀ j : Nat, j < len.getD i 0 → (Cond.eq (.elem (.field (tm i) "java/lang/String" "value" "[B") (.int (Int32.ofNat j))) (.int ((byt.getD i []).getD j 0))).before args s = true) (hA : ∀ a : Nat, a < s.heap.size → ¬ A a) :
    ∃ adK adV : Nat → Nat, (∀ i : Nat, i < N → va_O "java/lang/String" (adK i) A s s.heap ∧ va_OF "java/lang/String" "coder" "B" (.int 0) (adK i) A s s.heap ∧ va_OF "java/lang/String" "value" "[B" (.ref (adV i)) (adK i) A s s.heap ∧ va_T .byte (adV i) (len.getD i 0) (fun j => .int ((byt.getD i []).getD j 0)) A s s.heap) ∧ ∀ i : Nat, i < N → (tm i).eval args s none [] s = some (.ref (adK i)) := by
  have h0 : ∀ i : Nat, ∃ q : Nat × Nat, i < N → (va_O "java/lang/String" q.1 A s s.heap ∧ va_OF "java/lang/String" "coder" "B" (.int 0) q.1 A s s.heap ∧ va_OF "java/lang/String" "value" "[B" (.ref q.2) q.1 A s s.heap ∧ va_T .byte q.2 (len.getD i 0) (fun j => .int ((byt.getD i []).getD j 0)) A s s.heap) ∧ (tm i).eval args s none [] s = some (.ref q.1) := by
    intro i
    by_cases hi : i < N
    · obtain ⟨a, c, cA, kA, q1, -⟩ := Cond.exactly_spec (args := args) (first := s) (o := none) (s := s) (idx := []) (t := tm i) (cls := "java/lang/String") (hex i hi)
      obtain ⟨t, ht, hT⟩ := va_Tof (f := fun j => .int ((byt.getD i []).getD j 0)) (A := A) (hN i hi) (har i hi) (va_eqt (hle i hi)) (fun j hj => va_eqt (hel i hi j hj)) hA
      exact ⟨(a, t), fun _ => ⟨⟨va_Oof (hex i hi) q1 hA, vk_OFof q1 (va_eqt (hco i hi)) hA, vk_OFof q1 ht hA, hT⟩, q1⟩⟩
    · exact ⟨(0, 0), fun h => absurd h hi⟩
  obtain ⟨ad, had⟩ := Classical.axiomOfChoice h0
  exact ⟨fun i => (ad i).1, fun i => (ad i).2, fun i hi => (had i hi).1, fun i hi => (had i hi).2⟩
def saF (hz tM tP tF f8 f9 : Nat) (adP adF adK adV : Nat → Nat) : Nat → Nat := fun k => if k = 0 then hz else if k = 1 then tM else if k = 2 then tP else if k = 3 then tF else if k = 8 then f8 else if k = 9 then f9 else if k < 18 then adP (k - 10) else if k < 24 then adF (k - 20) else if k < 43 then adK (k - 30) else adV (k - 50)
section
variable {hz tM tP tF f8 f9 : Nat} {adP adF adK adV : Nat → Nat} {i : Nat}
theorem saF_P (hi : i < 8) : saF hz tM tP tF f8 f9 adP adF adK adV (10 + i) = adP i := by
  unfold saF
  rw [if_neg (by omega), if_neg (by omega), if_neg (by omega), if_neg (by omega), if_neg (by omega), if_neg (by omega), if_pos (by omega), show 10 + i - 10 = i by omega]
theorem saF_F (hi : i < 4) : saF hz tM tP tF f8 f9 adP adF adK adV (20 + i) = adF i := by
  unfold saF
  rw [if_neg (by omega), if_neg (by omega), if_neg (by omega), if_neg (by omega), if_neg (by omega), if_neg (by omega), if_neg (by omega), if_pos (by omega), show 20 + i - 20 = i by omega]
theorem saF_K (hi : i < 13) : saF hz tM tP tF f8 f9 adP adF adK adV (30 + i) = adK i := by
  unfold saF
  rw [if_neg (by omega), if_neg (by omega), if_neg (by omega), if_neg (by omega), if_neg (by omega), if_neg (by omega), if_neg (by omega), if_neg (by omega), if_pos (by omega), show 30 + i - 30 = i by omega]
theorem saF_V (hi : i < 13) : saF hz tM tP tF f8 f9 adP adF adK adV (50 + i) = adV i := by
  unfold saF
  rw [if_neg (by omega), if_neg (by omega), if_neg (by omega), if_neg (by omega), if_neg (by omega), if_neg (by omega), if_neg (by omega), if_neg (by omega), if_neg (by omega), show 50 + i - 50 = i by omega]
end
set_option maxHeartbeats 8000000 in
set_option maxRecDepth 100000 in
theorem sta_start {args : Array Value} {s : State} (hts : ∀ w ∈ lw_tbl, w.before args s = true) (hgv : (Jvm.Cond.and given_1 narrow_1).before args s = true) : ∃ G : Ev, va_K (DD G) vwCl (TY G) s ∧ sa G 0 = s.heap.size ∧ Sta G s s.heap ∧ Stx G s s.heap ∧ va_Nc (exn 0) (exn 1) s := by
  have hs := flat_of_before _ hgv
  have hbig : ∀ w : Cond, w ∈ Cond.initialized "RuledCalendarLaw" :: big → w ∈ lw_tbl := fun w hw => (List.mem_cons.mp hw).elim (fun e => e ▸ (by decide +kernel)) (fun h => (List.mem_filter.mp h).1)
  have hA : ∀ a : Nat, a < s.heap.size → ¬ (fun q => s.heap.size ≤ q) a := fun a h => Nat.not_le.mpr h
  obtain ⟨c0, i0, k0⟩ := u_known (C := RX0) (T := TX0) (N := 1) (n := 1) hts (fun w hw => hbig w (inX0_u w hw)) (hts (.instantiable RX0 1) (by decide +kernel))
  obtain ⟨c1, i1, k1⟩ := u_known (C := RX1) (T := TX1) (N := 8) (n := 8) hts (fun w hw => hbig w (inX1_u w hw)) (hts (.instantiable RX1 8) (by decide +kernel))
  obtain ⟨c2, i2, k2⟩ := u_known (C := RX4) (T := TX4) (N := 6) (n := 6) hts (fun w hw => hbig w (inX4_u w hw)) (hts (.instantiable RX4 6) (by decide +kernel))
  obtain ⟨c3, i3, k3⟩ := u_known (C := RX5) (T := TX5) (N := 13) (n := 13) hts (fun w hw => hbig w (inX5_u w hw)) (hts (.instantiable RX5 13) (by decide +kernel))
  obtain ⟨c4, i4, k4⟩ := u_known (C := RX6) (T := TX6) (N := 4) (n := 4) hts (fun w hw => hbig w (inX6_u w hw)) (hts (.instantiable RX6 4) (by decide +kernel))
  obtain ⟨c5, i5, k5⟩ := u_known (C := RX7) (T := TX7) (N := 10) (n := 10) hts (fun w hw => hbig w (inX7_u w hw)) (hts (.instantiable RX7 10) (by decide +kernel))
  obtain ⟨c6, i6, k6⟩ := u_known (C := RX8) (T := TX8) (N := 26) (n := 26) hts (fun w hw => hbig w (inM w hw)) (hts (.instantiable RX8 26) (by decide +kernel))
  obtain ⟨a0, ka0, kb0⟩ := arrK (hts (.arrayClass .byte) (by decide +kernel))
  obtain ⟨a1, ka1, kb1⟩ := arrK (hts (.arrayClass .char) (by decide +kernel))
  obtain ⟨a2, ka2, kb2⟩ := arrK (hts (.arrayClass .int) (by decide +kernel))
  obtain ⟨a3, ka3, kb3⟩ := arrK (hts (.arrayClass .long) (by decide +kernel))
  obtain ⟨a4, ka4, kb4⟩ := arrK (hts (.arrayClass .boolean) (by decide +kernel))
  have hao : va_AO "RuledCalendar$Thing" s := va_AO.of (hts (.arrayOver (.object "RuledCalendar$Thing")) (by decide +kernel))
  obtain ⟨a5, ka5, kb5⟩ := arrO hao
  have h13 : ∀ i, i < 13 → ∀ j, j < strL.getD i 0 → Cond.eq (((strT i).field "java/lang/String" "value" "[B").elem (Term.int (Int32.ofNat j))) (Term.int ((strB.getD i []).getD j 0)) ∈ flatC (Jvm.Cond.and given_1 narrow_1) := by decide +kernel
  obtain ⟨adK, adV, hSt, hKe⟩ := strs_of (args := args) (s := s) (N := 13) (tm := strT) (len := strL) (byt := strB) (A := fun q => s.heap.size ≤ q) (by decide +kernel) (fun i hi => hs _ (by revert i; decide +kernel)) (fun i hi => hs _ (by revert i; decide +kernel)) (fun i hi => hs _ (by revert i; decide +kernel)) (fun i hi => hs _ (by revert i; decide +kernel)) (fun i hi j hj => hs _ (h13 i hi j hj)) hA
  have hhd : ∀ i j : Nat, i < pnms.length → j < pnms.length → i ≠ j → (Cond.not (.eq (.static "RuledCalendar$Part" (pnms.getD i "") "LRuledCalendar$Part;") (.static "RuledCalendar$Part" (pnms.getD j "") "LRuledCalendar$Part;"))).before args s = true ∨ (Cond.not (.eq (.static "RuledCalendar$Part" (pnms.getD j "") "LRuledCalendar$Part;") (.static "RuledCalendar$Part" (pnms.getD i "") "LRuledCalendar$Part;"))).before args s = true := by
    have h9 : ∀ i, i < pnms.length → ∀ j, j < pnms.length → i ≠ j → Cond.not (Cond.eq (.static "RuledCalendar$Part" (pnms.getD i "") "LRuledCalendar$Part;") (.static "RuledCalendar$Part" (pnms.getD j "") "LRuledCalendar$Part;")) ∈ flatC (Jvm.Cond.and given_1 narrow_1) ∨ Cond.not (Cond.eq (.static "RuledCalendar$Part" (pnms.getD j "") "LRuledCalendar$Part;") (.static "RuledCalendar$Part" (pnms.getD i "") "LRuledCalendar$Part;")) ∈ flatC (Jvm.Cond.and given_1 narrow_1) := by decide +kernel
    intro i j hi hj hij
    exact (h9 i hi j hj hij).imp (fun h => hs _ h) (fun h => hs _ h)
  obtain ⟨adP, ⟨hEp, hPi⟩, hPe⟩ := va_Enof2 (args := args) (s := s) (E := "RuledCalendar$Part") (d := "LRuledCalendar$Part;") (nm := pnms) (F := [("RuledCalendar$Part", "bit", "I", [1, 2, 4, 8, 16, 32, 64, 128]), ("RuledCalendar$Part", "isList", "Z", [0, 0, 0, 0, 1, 1, 1, 1]), ("RuledCalendar$Part", "low", "I", [0, 1, 1, 19000101, 1, (-31), (-366), (-53)]), ("RuledCalendar$Part", "high", "I", [0, 400, 999, 21991231, 12, 31, 366, 53])]) (A := fun q => s.heap.size ≤ q) (fun i hi => hts _ (by revert i; decide +kernel)) (hts _ (by decide +kernel)) (fun i hi => hs _ (by revert i; decide +kernel)) (fun q hq i hi => hs _ (by revert i; revert q; decide +kernel)) hhd hA
  have hhd2 : ∀ i j : Nat, i < fnms.length → j < fnms.length → i ≠ j → (Cond.not (.eq (.static "RuledCalendar$Frequency" (fnms.getD i "") "LRuledCalendar$Frequency;") (.static "RuledCalendar$Frequency" (fnms.getD j "") "LRuledCalendar$Frequency;"))).before args s = true ∨ (Cond.not (.eq (.static "RuledCalendar$Frequency" (fnms.getD j "") "LRuledCalendar$Frequency;") (.static "RuledCalendar$Frequency" (fnms.getD i "") "LRuledCalendar$Frequency;"))).before args s = true := by
    have h9 : ∀ i, i < fnms.length → ∀ j, j < fnms.length → i ≠ j → Cond.not (Cond.eq (.static "RuledCalendar$Frequency" (fnms.getD i "") "LRuledCalendar$Frequency;") (.static "RuledCalendar$Frequency" (fnms.getD j "") "LRuledCalendar$Frequency;")) ∈ flatC (Jvm.Cond.and given_1 narrow_1) ∨ Cond.not (Cond.eq (.static "RuledCalendar$Frequency" (fnms.getD j "") "LRuledCalendar$Frequency;") (.static "RuledCalendar$Frequency" (fnms.getD i "") "LRuledCalendar$Frequency;")) ∈ flatC (Jvm.Cond.and given_1 narrow_1) := by decide +kernel
    intro i j hi hj hij
    exact (h9 i hi j hj hij).imp (fun h => hs _ h) (fun h => hs _ h)
  obtain ⟨adF, ⟨hEf, hFi⟩, hFe⟩ := va_Enof2 (args := args) (s := s) (E := "RuledCalendar$Frequency") (d := "LRuledCalendar$Frequency;") (nm := fnms) (F := [("RuledCalendar$Frequency", "wholeMonths", "Z", [0, 0, 1, 1])]) (A := fun q => s.heap.size ≤ q) (fun i hi => hts _ (by revert i; decide +kernel)) (hts _ (by decide +kernel)) (fun i hi => hs _ (by revert i; decide +kernel)) (fun q hq i hi => hs _ (by revert i; revert q; decide +kernel)) hhd2 hA
  obtain ⟨tM, hM1, hM2⟩ := va_Tof (args := args) (s := s) (tm := .static "RuledCalendar" "MONTH_LENGTHS" "[I") (ty := .int) (N := 12) (f := fun j => .int (mlen j)) (A := fun q => s.heap.size ≤ q) (by decide) (hs _ (by decide +kernel)) (va_eqt (hs _ (by decide +kernel))) (fun j hj => va_eqt (hs _ (by revert j; decide +kernel))) hA
  obtain ⟨tP, hP1, hP2⟩ := va_Tof (args := args) (s := s) (tm := .static "RuledCalendar" "PARTS" "[LRuledCalendar$Part;") (ty := .object "RuledCalendar$Part") (N := 8) (f := fun j => .ref (adP j)) (A := fun q => s.heap.size ≤ q) (by decide) (hs _ (by decide +kernel)) (va_eqt (hs _ (by decide +kernel))) (fun j hj => va_eqv (u := .static "RuledCalendar$Part" (pnms.getD j "") "LRuledCalendar$Part;") (hs _ (by revert j; decide +kernel)) (hPe j hj)) hA
  obtain ⟨tF, hF1, hF2⟩ := va_Tof (args := args) (s := s) (tm := .static "RuledCalendar" "FREQUENCIES" "[LRuledCalendar$Frequency;") (ty := .object "RuledCalendar$Frequency") (N := 4) (f := fun j => .ref (adF j)) (A := fun q => s.heap.size ≤ q) (by decide) (hs _ (by decide +kernel)) (va_eqt (hs _ (by decide +kernel))) (fun j hj => va_eqv (u := .static "RuledCalendar$Frequency" (fnms.getD j "") "LRuledCalendar$Frequency;") (hs _ (by revert j; decide +kernel)) (hFe j hj)) hA
  have hPw : va_Ef 8 "RuledCalendar$Part" "word" "Ljava/lang/String;" (fun i => .ref (adK i)) adP (fun q => s.heap.size ≤ q) s s.heap := va_Efof (nm := pnms) (tm := strT) hPe (fun i hi => hs _ (by revert i; decide +kernel)) (fun i hi => hKe i (by omega)) hA
  have hFw : va_Ef 4 "RuledCalendar$Frequency" "word" "Ljava/lang/String;" (fun i => .ref (adK (8 + i))) adF (fun q => s.heap.size ≤ q) s s.heap := va_Efof (nm := fnms) (tm := fun i => strT (8 + i)) hFe (fun i hi => hs _ (by revert i; decide +kernel)) (fun i hi => hKe (8 + i) (by omega)) hA
  obtain ⟨f8, f9, hfm⟩ : ∃ f8 f9 : Nat, va_Z "jdk/internal/util/Preconditions" "SIOOBE_FORMATTER" "Ljava/util/function/BiFunction;" (va_rf (if f8 = 0 then none else some f9)) (fun q => s.heap.size ≤ q) s s.heap := by
    rcases va_Zqof (args := args) (C := "jdk/internal/util/Preconditions") (n := "SIOOBE_FORMATTER") (d := "Ljava/util/function/BiFunction;") (hts _ (by decide +kernel)) (hts _ (by decide +kernel)) (hs _ (by decide +kernel)) hA with h | ⟨t, h⟩
    · exact ⟨0, 0, h⟩
    · exact ⟨1, t, h⟩
  refine ⟨(fun k => if k = 0 then c0 else if k = 1 then c1 else if k = 2 then c2 else if k = 3 then c3 else if k = 4 then c4 else if k = 5 then c5 else c6, fun k => if k = 0 then i0 else if k = 1 then i1 else if k = 2 then i2 else if k = 3 then i3 else if k = 4 then i4 else if k = 5 then i5 else i6, fun k => if k = 0 then a0 else if k = 1 then a1 else if k = 2 then a2 else if k = 3 then a3 else if k = 4 then a4 else a5, saF s.heap.size tM tP tF f8 f9 adP adF adK adV), ⟨?_, ?_⟩, rfl, ?_, ?_, va_Nc.of (hs _ (by decide +kernel))⟩
  · intro k q hq
    match k, hq with
    | 0, hq => cases hq; exact k0
    | 1, hq => cases hq; exact k1
    | 2, hq => cases hq; exact k2
    | 3, hq => cases hq; exact k3
    | 4, hq => cases hq; exact k4
    | 5, hq => cases hq; exact k5
    | 6, hq => cases hq; exact k6
    | k + 7, hq => simp [vwCl] at hq
  · intro k q hq
    match k, hq with
    | 0, hq => cases hq; exact ⟨ka0, kb0⟩
    | 1, hq => cases hq; exact ⟨ka1, kb1⟩
    | 2, hq => cases hq; exact ⟨ka2, kb2⟩
    | 3, hq => cases hq; exact ⟨ka3, kb3⟩
    | 4, hq => cases hq; exact ⟨ka4, kb4⟩
    | 5, hq => cases hq; exact ⟨ka5, kb5⟩
    | k + 6, hq => simp [TY] at hq
  · have eP : ∀ i, i < 8 → saF s.heap.size tM tP tF f8 f9 adP adF adK adV (10 + i) = adP i := fun i hi => saF_P hi
    have eF : ∀ i, i < 4 → saF s.heap.size tM tP tF f8 f9 adP adF adK adV (20 + i) = adF i := fun i hi => saF_F hi
    have eK : ∀ i, i < 13 → saF s.heap.size tM tP tF f8 f9 adP adF adK adV (30 + i) = adK i := fun i hi => saF_K hi
    have eV : ∀ i, i < 13 → saF s.heap.size tM tP tF f8 f9 adP adF adK adV (50 + i) = adV i := fun i hi => saF_V hi
    refine ⟨⟨va_Zref (hts _ (by decide +kernel)) (hts _ (by decide +kernel)) hM1 hA, hM2⟩, ⟨va_Zref (hts _ (by decide +kernel)) (hts _ (by decide +kernel)) hP1 hA, ?_⟩, ⟨va_Zref (hts _ (by decide +kernel)) (hts _ (by decide +kernel)) hF1 hA, ?_⟩, ?_, ?_, ?_, ?_, ?_, ?_, ?_, ?_, ?_, ?_, ?_, ?_, ?_, ?_, ?_, va_Zof (hts _ (by decide +kernel)) (hts _ (by decide +kernel)) (va_eqi (hs _ (by decide +kernel))) hA, ?_, hfm, ⟨va_Nw.of rfl (hts _ (by decide +kernel)), va_Nw.of rfl (hts _ (by decide +kernel)), va_Nw.of rfl (hts _ (by decide +kernel)), va_Nw.of rfl (hts _ (by decide +kernel)), hao⟩, ?_, ?_⟩
    · obtain ⟨cell, h1, h2, h3, h4, h5, h6, h7⟩ := hP2
      exact ⟨cell, h1, h2, h3, h4, h5, fun j hj => by rw [h6 j hj]; exact congrArg (fun x => some (Value.ref x)) (eP j hj).symm, h7⟩
    · obtain ⟨cell, h1, h2, h3, h4, h5, h6, h7⟩ := hF2
      exact ⟨cell, h1, h2, h3, h4, h5, fun j hj => by rw [h6 j hj]; exact congrArg (fun x => some (Value.ref x)) (eF j hj).symm, h7⟩
    · intro i hi
      show va_Z _ _ _ (.ref (saF s.heap.size tM tP tF f8 f9 adP adF adK adV (10 + i))) _ s s.heap
      rw [eP i hi]; exact (hEp i hi).1
    · intro i hi
      show va_Z _ _ _ (.ref (saF s.heap.size tM tP tF f8 f9 adP adF adK adV (20 + i))) _ s s.heap
      rw [eF i hi]; exact (hEf i hi).1
    · intro i hi
      show va_O _ (saF s.heap.size tM tP tF f8 f9 adP adF adK adV (10 + i)) _ s s.heap
      rw [eP i hi]; exact (hEp i hi).2.1
    · intro i hi
      show va_O _ (saF s.heap.size tM tP tF f8 f9 adP adF adK adV (20 + i)) _ s s.heap
      rw [eF i hi]; exact (hEf i hi).2.1
    · intro i hi
      show va_OF _ _ _ (.ref (saF s.heap.size tM tP tF f8 f9 adP adF adK adV (30 + i))) (saF s.heap.size tM tP tF f8 f9 adP adF adK adV (10 + i)) _ s s.heap
      rw [eP i hi, eK i (by omega)]; exact hPw i hi
    · intro i hi
      show va_OF _ _ _ _ (saF s.heap.size tM tP tF f8 f9 adP adF adK adV (10 + i)) _ s s.heap
      rw [eP i hi]; exact (hEp i hi).2.2 ("RuledCalendar$Part", "bit", "I", [1, 2, 4, 8, 16, 32, 64, 128]) (by decide)
    · intro i hi
      show va_OF _ _ _ _ (saF s.heap.size tM tP tF f8 f9 adP adF adK adV (10 + i)) _ s s.heap
      rw [eP i hi]; exact (hEp i hi).2.2 ("RuledCalendar$Part", "isList", "Z", [0, 0, 0, 0, 1, 1, 1, 1]) (by decide)
    · intro i hi
      show va_OF _ _ _ _ (saF s.heap.size tM tP tF f8 f9 adP adF adK adV (10 + i)) _ s s.heap
      rw [eP i hi]; exact (hEp i hi).2.2 ("RuledCalendar$Part", "low", "I", [0, 1, 1, 19000101, 1, (-31), (-366), (-53)]) (by decide)
    · intro i hi
      show va_OF _ _ _ _ (saF s.heap.size tM tP tF f8 f9 adP adF adK adV (10 + i)) _ s s.heap
      rw [eP i hi]; exact (hEp i hi).2.2 ("RuledCalendar$Part", "high", "I", [0, 400, 999, 21991231, 12, 31, 366, 53]) (by decide)
    · intro i hi
      show va_OF _ _ _ (.ref (saF s.heap.size tM tP tF f8 f9 adP adF adK adV (38 + i))) (saF s.heap.size tM tP tF f8 f9 adP adF adK adV (20 + i)) _ s s.heap
      rw [eF i hi, show 38 + i = 30 + (8 + i) by omega, eK (8 + i) (by omega)]; exact hFw i hi
    · intro i hi
      show va_OF _ _ _ _ (saF s.heap.size tM tP tF f8 f9 adP adF adK adV (20 + i)) _ s s.heap
      rw [eF i hi]; exact (hEf i hi).2.2 ("RuledCalendar$Frequency", "wholeMonths", "Z", [0, 0, 1, 1]) (by decide)
    · intro i hi
      show va_O _ (saF s.heap.size tM tP tF f8 f9 adP adF adK adV (30 + i)) _ s s.heap
      rw [eK i hi]; exact (hSt i hi).1
    · intro i hi
      show va_OF _ _ _ (.ref (saF s.heap.size tM tP tF f8 f9 adP adF adK adV (50 + i))) (saF s.heap.size tM tP tF f8 f9 adP adF adK adV (30 + i)) _ s s.heap
      rw [eK i hi, eV i hi]; exact (hSt i hi).2.2.1
    · intro i hi
      show va_OF _ _ _ _ (saF s.heap.size tM tP tF f8 f9 adP adF adK adV (30 + i)) _ s s.heap
      rw [eK i hi]; exact (hSt i hi).2.1
    · intro i hi
      show va_T _ (saF s.heap.size tM tP tF f8 f9 adP adF adK adV (50 + i)) _ _ _ s s.heap
      rw [eV i hi]
      have h := (hSt i hi).2.2.2
      have e1 : ∀ i, i < 13 → strL.getD i 0 = (sbyt i).length := by decide
      have e2 : strB.getD i [] = sbyt i := rfl
      rw [e1 i hi, e2] at h
      exact h
    · show vk_R _ _ _ (saF s.heap.size tM tP tF f8 f9 adP adF adK adV (30 + 12)) s
      rw [eK 12 (by decide)]
      exact vk_R.of (hts (.stringRef "RuledCalendar$Reader" 171 "MOTUWETHFRSASU") (by decide +kernel)) (hKe 12 (by decide))
    · intro i j hi hj h
      have h : saF s.heap.size tM tP tF f8 f9 adP adF adK adV (10 + i) = saF s.heap.size tM tP tF f8 f9 adP adF adK adV (10 + j) := h
      rw [eP i hi, eP j hj] at h
      exact hPi i j hi hj h
    · intro i j hi hj h
      have h : saF s.heap.size tM tP tF f8 f9 adP adF adK adV (20 + i) = saF s.heap.size tM tP tF f8 f9 adP adF adK adV (20 + j) := h
      rw [eF i hi, eF j hj] at h
      exact hFi i j hi hj h
  · exact ⟨vx_Zqof (args := args) (hts _ (by decide +kernel)) (hts _ (by decide +kernel)) (hs _ (by decide +kernel)) hA, vx_Zqof (args := args) (hts _ (by decide +kernel)) (hts _ (by decide +kernel)) (hs _ (by decide +kernel)) hA, va_Nw.of rfl (hts _ (by decide +kernel)), va_Nw.of rfl (hts _ (by decide +kernel)), va_Nw.of rfl (hts _ (by decide +kernel)), va_Nw.of rfl (hts _ (by decide +kernel)), va_Nw.of rfl (hts _ (by decide +kernel))⟩
