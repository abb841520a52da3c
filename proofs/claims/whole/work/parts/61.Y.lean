/-! THE CLAIM OUT OF ONE WALK OF THE LAW'S BODY. Your part is whole_start (and what it stands on); all else here is the same for every law, but numbers. -/
def R_law : String := "RuledCalendarLaw"
def lw_P (b : Addr) (xs : List Int32) (args : Array Value) (s : State) : Prop := args = #[.ref b] ∧ s.IntsAt b xs ∧ xs.length ≤ 2048 ∧ (Jvm.Cond.and given_1 narrow_1).before args s = true
def lw_Q (_ : Array Value) (s : State) (o : Outcome) (t : State) : Prop := o = .returned (some (.int 1)) ∧ Framed s o t [] 601024 7293034
def lw_Z (below : List Frame) (a : Array Value) (s : State) : State → Prop := fun t => ∃ o, t.status = .running ∧ Ended t below o ∧ lw_Q a s o t
/-- the law's own end, with 1 on the stack, nothing written that was there before, its room as the claim has it -/
theorem lw_ret {p : Program} {l : Launch} {e : Env} {s : State} {m : MethodId} {below : List Frame} {meth : Method} {c : Code} {b : Nat} (hx : p.tables.exec = Jvm.exec) (hb : c.code = code) (hr : meth.sig.returnType = ret) (hlocks : meth.locks = false) {pc : Nat} {H : Heap} {ls : Array Slot} (hdg : decode code pc = .ok (.ireturn, 1)) : W p l e room_1 s m #[Value.ref b] below meth c H [] 601024 7293034 (lw_Z below #[Value.ref b] s) (F0 m pc ls [.int 1]) := by
  intro T hT X
  obtain ⟨fs, hret, hrun, hended, hW, hframe⟩ := X.leave (v := some (.int 1)) (hlocks := hlocks) (fun h => by rw [hr] at h; cases h)
  have hmeth' : T.vm.method? m = some meth := X.method'
  refine ⟨T.setFrames fs, ?_, .returned (some (.int 1)), hrun, hended, rfl, ⟨_, rfl⟩, hW, hframe⟩
  jvm_step X.here [X.here.top, hx, hb, hdg, hmeth', hr, ret, narrow_b1]
  (try refine ⟨rfl, ?_⟩); (try refine ⟨rfl, ?_⟩)
  first | (intro acts; rw [hret _ acts rfl rfl rfl]) | rw [hret _ _ rfl rfl rfl]
  exact Steps.refl _
/-- what holds at the law's entry: the machine, the code, the tables' words (any of lw_tbl by 'hts w (by decide +kernel)'), the script of L ints xs at the cell b, what the Statement gives of the start (any of its parts by flat_of_before) -/
def lw_At (p : Program) (s : State) (m : MethodId) (meth : Method) (c : Code) (b L : Nat) (xs : Nat → Int32) : Prop :=
  p.tables.exec = Jvm.exec ∧ c.code = code ∧ meth.sig.returnType = ret ∧ c.maxLocals = 8 ∧ s.vm.findClass R_law = some m.cls ∧ (∀ w ∈ lw_tbl, w.before #[Value.ref b] s = true) ∧ va_X b L xs s s.heap ∧ b < s.heap.size ∧ meth.locks = false ∧ (Jvm.Cond.and given_1 narrow_1).before #[Value.ref b] s = true
/-! The law's loop. -/
def Sim (n : Nat) (I : Pc3 → Pc4 → Pc4 → Prop) : Prop := ∀ (qm : Pc3) (z q : Pc4) (f : Nat → Int64), I qm z q →
  (∀ (x1 : Int32) (x2 : Int64), SK_feed n qm z q f x1 x2 (fun qm z q _ => I qm z q)) ∧
  SK_wipe n qm z q f (fun qm z q _ => I qm z q) ∧
  (∀ (x1 : Int32), SK_thing n qm z q f x1 (fun qm z q _ => I qm z q)) ∧
  SK_fault n qm z q f (fun qm z q _ => I qm z q) ∧
  SK_place n qm z q f (fun qm z q _ => I qm z q) ∧
  (∀ (x1 : Int32), SK_drop n qm z q f x1 (fun qm z q _ => I qm z q)) ∧
  (∀ (x1 : Int32) (x2 : Int32) (x3 : Int32), x3 = 0 ∨ x3 = 1 → SK_except n qm z q f x1 x2 x3 (fun qm z q _ => I qm z q)) ∧
  (∀ (x1 : Int32) (x2 : Int32) (x3 : Int32), x3 = 0 ∨ x3 = 1 → SK_besides n qm z q f x1 x2 x3 (fun qm z q _ => I qm z q)) ∧
  (∀ (x1 : Int32) (x2 : Int32), SK_comes n qm z q f x1 x2 (fun qm z q _ => I qm z q)) ∧
  (∀ (x1 : Int32) (x2 : Int32), SK_next n qm z q f x1 x2 (fun qm z q _ => I qm z q)) ∧
  (∀ (x1 : Int32) (x2 : Int32), SK_date n qm z q f x1 x2 (fun qm z q _ => I qm z q)) ∧
  (∀ (x1 : Int32) (x2 : Int32) (x3 : Int32), SK_times n qm z q f x1 x2 x3 (fun qm z q _ => I qm z q)) ∧
  (∀ (x1 : Int32) (x2 : Int32), SK_list n qm z q f x1 x2 (fun qm z q _ => I qm z q)) ∧
  (∀ (x1 : Int32), SK_item n qm z q f x1 (fun qm z q _ => I qm z q)) ∧
  (∀ (x1 : Int32) (x2 : Int32), SK_busiest n qm z q f x1 x2 (fun qm z q _ => I qm z q)) ∧
  (∀ (x1 : Int32) (x2 : Int32), SK_quiet n qm z q f x1 x2 (fun qm z q _ => I qm z q)) ∧
  (∀ (x1 : Int32) (x2 : Int32), SK_shifted n qm z q f x1 x2 (fun qm z q _ => I qm z q))
theorem lw_cond {L j : Nat} (hL : L ≤ 2048) : Int32.ofNat L - 4 < nI (4 * j) ∧ 4 * j ≤ L ∧ L < 4 * j + 4 ∨ ¬ Int32.ofNat L - 4 < nI (4 * j) ∧ 4 * j + 4 ≤ L ∨ L < 4 * j := by
  by_cases c : L < 4 * j
  · exact Or.inr (Or.inr c)
  · have h1 : (nI L - nI 4).toInt = (L : Int) - 4 := pk_sub_toInt (by omega) (by omega)
    have h2 : (nI (4 * j)).toInt = ((4 * j : Nat) : Int) := nI_toInt (by omega)
    have e : Int32.ofNat L - 4 = nI L - nI 4 := rfl
    rw [e, Int32.lt_iff_toInt_lt, h1, h2]
    by_cases c2 : 4 * j + 4 ≤ L
    · exact Or.inr (Or.inl ⟨by omega, c2⟩)
    · exact Or.inl ⟨by omega, by omega, by omega⟩
set_option maxHeartbeats 4000000 in
set_option maxRecDepth 100000 in
theorem law_loop {p : Program} {l : Launch} {e : Env} {s : State} {m : MethodId} {below : List Frame} {meth : Method} {c : Code} {G : Ev} {b : Nat → Nat} {o : Nat} {sb L : Nat} {xs : Nat → Int32} {n : Nat} {I : Pc3 → Pc4 → Pc4 → Prop} (hsim : Sim n I) (X0 : LX p l s m #[Value.ref sb] meth c G sb L xs) (a0 : Nat) :
    ∀ (r j : Nat), 4 * j ≤ L → L < 4 * (j + r) + 4 → ∀ (a : Nat → Nat) (qm : Pc3) (z q : Pc4) (f : Nat → Int64) (H : Heap) (locs : List Loc) (ls : Array Slot), a 0 = a0 → I qm z q → va_P (DD G) vwCl (WW G b qm a z q o f) H → va_D (lA s) (WW G b qm a z q o f) → va_S (lA s) s.heap H locs → lv_has ls 8 [(4, .int (nI (4 * j))), (0, .ref sb), (1, .ref a0), (2, .ref (b 0)), (3, .ref o)] →
      W p l e room_1 s m #[Value.ref sb] below meth c H locs (100 + 5 * j) (300000 + 10810 * j) (lw_Z below #[Value.ref sb] s) (F0 m 23 ls []) := by
  obtain ⟨X, hX, hN, hsx, hsb, hst, hL⟩ := id X0
  obtain ⟨⟨hx, hb, hml, hown, hts⟩, hK, hr, hlk, hA, hAs, hSta⟩ := id X
  have hbA : ¬ lA s sb := Nat.not_le.mpr hsb
  intro r
  induction r with
  | zero =>
    intro j hj1 hj2 a qm z q f H locs ls ha hI hP hD hS hl
    refine lv_iload hx hb dL_law_23 (lv_at hl 0 rfl) ?_
    refine lv_aload_n hx hb dL_law_25 rfl (lv_at hl 1 rfl) ?_
    refine va_slen hx hb hsx hsb hbA hS dL_law_26 ?_
    refine lv_iconst (v := 4) hx hb dL_law_27 (by decide) ?_
    refine lv_isub hx hb dL_law_28 ?_
    refine lv_icmp_gt (tgt := 1181) hx hb dL_law_29 (by decide) (fun _ => ?_) (fun c1 => ?_)
    · refine lv_iconst (v := 1) hx hb dL_law_1181 (by decide) ?_
      refine va_forget (fun q hq => hS.2.2 q hq) ?_
      refine W.widen (k := 601024) (n := 7293034) (by omega) (by omega) ?_
      exact lw_ret hx hb hr hlk dL_law_1182
    · rcases lw_cond (j := j) hL with ⟨g1, -⟩ | ⟨-, g2⟩ | g3
      · exact absurd g1 c1
      · omega
      · omega
  | succ r ih =>
    intro j hj1 hj2 a qm z q f H locs ls ha hI hP hD hS hl
    refine lv_iload hx hb dL_law_23 (lv_at hl 0 rfl) ?_
    refine lv_aload_n hx hb dL_law_25 rfl (lv_at hl 1 rfl) ?_
    refine va_slen hx hb hsx hsb hbA hS dL_law_26 ?_
    refine lv_iconst (v := 4) hx hb dL_law_27 (by decide) ?_
    refine lv_isub hx hb dL_law_28 ?_
    refine lv_icmp_gt (tgt := 1181) hx hb dL_law_29 (by decide) (fun _ => ?_) (fun c1 => ?_)
    · refine lv_iconst (v := 1) hx hb dL_law_1181 (by decide) ?_
      refine va_forget (fun q hq => hS.2.2 q hq) ?_
      refine W.widen (k := 601024) (n := 7293034) (by omega) (by omega) ?_
      exact lw_ret hx hb hr hlk dL_law_1182
    · have hj : 4 * j + 4 ≤ L := by
        rcases lw_cond (j := j) hL with ⟨g1, -⟩ | ⟨-, g2⟩ | g3
        · exact absurd g1 c1
        · exact g2
        · omega
      subst ha
      have kk : ∀ (a1 : Nat → Nat) (qm' : Pc3) (z' q' : Pc4) (f' : Nat → Int64) (H : Heap) (locs : List Loc) (ls : Array Slot), a1 0 = a 0 → I qm' z' q' → va_P (DD G) vwCl (WW G b qm' a1 z' q' o f') H → va_D (lA s) (WW G b qm' a1 z' q' o f') → va_S (lA s) s.heap H locs → lv_has ls 8 [(4, .int (nI (4 * j))), (0, .ref sb), (1, .ref (a 0)), (2, .ref (b 0)), (3, .ref o)] → W p l e room_1 s m #[Value.ref sb] below meth c H locs (100 + 5 * j + 5) (300000 + 10810 * j + 10810) (lw_Z below #[Value.ref sb] s) (F0 m 1175 ls []) := by
        intro a1 qm' z' q' f' H locs ls ha1 hI' hP hD hS hl
        refine lv_iinc (k := 0) (x := nI (4 * j)) (v := nI (4 * (j + 1))) (lv' := [(4, .int (nI (4 * (j + 1)))), (0, .ref sb), (1, .ref (a 0)), (2, .ref (b 0)), (3, .ref o)]) hx hb dL_law_1175 hl rfl (nI_add (4 * j) 4) (by decide) rfl (fun ls hl => ?_)
        refine lv_goto (tgt := 23) hx hb dL_law_1178 (by decide) ?_
        exact ih (j + 1) (by omega) (by omega) a1 qm' z' q' f' H locs ls ha1 hI' hP hD hS hl
      have hsk := hsim qm z q f hI
      obtain ⟨k0, k1, k2, k3, k4, k5, k6, k7, k8, k9, k10, k11, k12, k13, k14, k15, k16⟩ := hsk
      refine lv_aload_n hx hb dL_law_32 rfl (lv_at hl 1 rfl) ?_
      refine lv_iload hx hb dL_law_33 (lv_at hl 0 rfl) ?_
      refine sld X0 hS (4 * j) (by omega) rfl dL_law_35 ?_
      refine lv_bipush (v := 31) hx hb dL_law_36 (by decide) ?_
      refine lv_iand hx hb dL_law_38 ?_
      obtain ⟨t, ht, et⟩ := pk_andE (xs (4 * j)) (m := 31) 5 (by decide)
      rw [et]
      have hRf : 14 ≤ room_1.frames := by decide
      have hRl : 532 ≤ room_1.locals := by decide
      have hRc : 100 + 5 * j + 5 ≤ room_1.cells := by show _ ≤ 601024; omega
      have hRs : 300000 + 10810 * j + 10810 ≤ room_1.slots := by show _ ≤ 7293034; omega
      by_cases c17 : 16 < t
      · refine lv_tableOut (tgt := 1175) hx hb dL_law_39 (Or.inr ?_) (by decide) ?_
        · rw [nI_toInt (by omega)]; omega
        · refine W.widen (k := 100 + 5 * j + 5) (n := 300000 + 10810 * j + 10810) (by omega) (by omega) ?_
          exact kk a qm z q f H locs ls rfl hI hP hD hS hl
      · rcases (show t = 0 ∨ t = 1 ∨ t = 2 ∨ t = 3 ∨ t = 4 ∨ t = 5 ∨ t = 6 ∨ t = 7 ∨ t = 8 ∨ t = 9 ∨ t = 10 ∨ t = 11 ∨ t = 12 ∨ t = 13 ∨ t = 14 ∨ t = 15 ∨ t = 16 by omega) with rfl | rfl | rfl | rfl | rfl | rfl | rfl | rfl | rfl | rfl | rfl | rfl | rfl | rfl | rfl | rfl | rfl
        · refine lv_tableIn (off := 81) (tgt := 120) hx hb dL_law_39 (by decide) (by decide) (by decide) (by decide) ?_
          exact lawC_feed X0 hj hRf hRl hRc hRs (k0 (xs (4 * j + 1))) hP hD hS hl kk
        · refine lv_tableIn (off := 181) (tgt := 220) hx hb dL_law_39 (by decide) (by decide) (by decide) (by decide) ?_
          exact lawC_wipe X0 hj hRf hRl hRc hRs k1 hP hD hS hl kk
        · refine lv_tableIn (off := 194) (tgt := 233) hx hb dL_law_39 (by decide) (by decide) (by decide) (by decide) ?_
          exact lawC_thing X0 hj hRf hRl hRc hRs (k2 (xs (4 * j + 1))) hP hD hS hl kk
        · refine lv_tableIn (off := 250) (tgt := 289) hx hb dL_law_39 (by decide) (by decide) (by decide) (by decide) ?_
          exact lawC_fault X0 hj hRf hRl hRc hRs k3 hP hD hS hl kk
        · refine lv_tableIn (off := 263) (tgt := 302) hx hb dL_law_39 (by decide) (by decide) (by decide) (by decide) ?_
          exact lawC_place X0 hj hRf hRl hRc hRs k4 hP hD hS hl kk
        · refine lv_tableIn (off := 276) (tgt := 315) hx hb dL_law_39 (by decide) (by decide) (by decide) (by decide) ?_
          exact lawC_drop X0 hj hRf hRl hRc hRs (k5 (xs (4 * j + 1))) hP hD hS hl kk
        · refine lv_tableIn (off := 312) (tgt := 351) hx hb dL_law_39 (by decide) (by decide) (by decide) (by decide) ?_
          exact lawC_except X0 hj hRf hRl hRc hRs (k6 (xs (4 * j + 1)) (xs (4 * j + 2))) hP hD hS hl kk
        · refine lv_tableIn (off := 415) (tgt := 454) hx hb dL_law_39 (by decide) (by decide) (by decide) (by decide) ?_
          exact lawC_besides X0 hj hRf hRl hRc hRs (k7 (xs (4 * j + 1)) (xs (4 * j + 2))) hP hD hS hl kk
        · refine lv_tableIn (off := 518) (tgt := 557) hx hb dL_law_39 (by decide) (by decide) (by decide) (by decide) ?_
          exact lawC_comes X0 hj hRf hRl hRc hRs (k8 (xs (4 * j + 1)) (xs (4 * j + 2))) hP hD hS hl kk
        · refine lv_tableIn (off := 593) (tgt := 632) hx hb dL_law_39 (by decide) (by decide) (by decide) (by decide) ?_
          exact lawC_next X0 hj hRf hRl hRc hRs (k9 (xs (4 * j + 1)) (xs (4 * j + 2))) hP hD hS hl kk
        · refine lv_tableIn (off := 661) (tgt := 700) hx hb dL_law_39 (by decide) (by decide) (by decide) (by decide) ?_
          exact lawC_date X0 hj hRf hRl hRc hRs (k10 (xs (4 * j + 1)) (xs (4 * j + 2))) hP hD hS hl kk
        · refine lv_tableIn (off := 729) (tgt := 768) hx hb dL_law_39 (by decide) (by decide) (by decide) (by decide) ?_
          exact lawC_times X0 hj hRf hRl hRc hRs (k11 (xs (4 * j + 1)) (xs (4 * j + 2)) (xs (4 * j + 3))) hP hD hS hl kk
        · refine lv_tableIn (off := 809) (tgt := 848) hx hb dL_law_39 (by decide) (by decide) (by decide) (by decide) ?_
          exact lawC_list X0 hj hRf hRl hRc hRs (k12 (xs (4 * j + 1)) (xs (4 * j + 2))) hP hD hS hl kk
        · refine lv_tableIn (off := 877) (tgt := 916) hx hb dL_law_39 (by decide) (by decide) (by decide) (by decide) ?_
          exact lawC_item X0 hj hRf hRl hRc hRs (k13 (xs (4 * j + 1))) hP hD hS hl kk
        · refine lv_tableIn (off := 932) (tgt := 971) hx hb dL_law_39 (by decide) (by decide) (by decide) (by decide) ?_
          exact lawC_busiest X0 hj hRf hRl hRc hRs (k14 (xs (4 * j + 1)) (xs (4 * j + 2))) hP hD hS hl kk
        · refine lv_tableIn (off := 1000) (tgt := 1039) hx hb dL_law_39 (by decide) (by decide) (by decide) (by decide) ?_
          exact lawC_quiet X0 hj hRf hRl hRc hRs (k15 (xs (4 * j + 1)) (xs (4 * j + 2))) hP hD hS hl kk
        · refine lv_tableIn (off := 1068) (tgt := 1107) hx hb dL_law_39 (by decide) (by decide) (by decide) (by decide) ?_
          exact lawC_shifted X0 hj hRf hRl hRc hRs (k16 (xs (4 * j + 1)) (xs (4 * j + 2))) hP hD hS hl kk
