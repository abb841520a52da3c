-- java/lang/Integer.J6_bitCount_0f7a4
def moQJ6_bitCount_0f7a4 (n : Nat) (x0 : Int32) : Option (Int32) :=
  (some ((((((((x0 - ((urI x0 1) &&& 1431655765)) &&& 858993459) + ((urI (x0 - ((urI x0 1) &&& 1431655765)) 2) &&& 858993459)) + (urI (((x0 - ((urI x0 1) &&& 1431655765)) &&& 858993459) + ((urI (x0 - ((urI x0 1) &&& 1431655765)) 2) &&& 858993459)) 4)) &&& 252645135) + (urI (((((x0 - ((urI x0 1) &&& 1431655765)) &&& 858993459) + ((urI (x0 - ((urI x0 1) &&& 1431655765)) 2) &&& 858993459)) + (urI (((x0 - ((urI x0 1) &&& 1431655765)) &&& 858993459) + ((urI (x0 - ((urI x0 1) &&& 1431655765)) 2) &&& 858993459)) 4)) &&& 252645135) 8)) + (urI ((((((x0 - ((urI x0 1) &&& 1431655765)) &&& 858993459) + ((urI (x0 - ((urI x0 1) &&& 1431655765)) 2) &&& 858993459)) + (urI (((x0 - ((urI x0 1) &&& 1431655765)) &&& 858993459) + ((urI (x0 - ((urI x0 1) &&& 1431655765)) 2) &&& 858993459)) 4)) &&& 252645135) + (urI (((((x0 - ((urI x0 1) &&& 1431655765)) &&& 858993459) + ((urI (x0 - ((urI x0 1) &&& 1431655765)) 2) &&& 858993459)) + (urI (((x0 - ((urI x0 1) &&& 1431655765)) &&& 858993459) + ((urI (x0 - ((urI x0 1) &&& 1431655765)) 2) &&& 858993459)) 4)) &&& 252645135) 8)) 16)) &&& 63))
set_option maxHeartbeats 4000000 in
set_option maxRecDepth 100000 in
theorem cQJ6_bitCount_0f7a4 {l : Launch} {G : Ev}  {n : Nat} {x0 : Int32} {r : Int32} (hm : moQJ6_bitCount_0f7a4 n x0  = some r) : CtI l G yJ6_bitCount_0f7a4 cJ6_bitCount_0f7a4 1 (some .int) 0 0 0 0 [.int x0] (wN ()) (wN ()) r := by
  intro sz
  refine enter (by decide) (Nat.le_of_ble_eq_true rfl) ?_
  intro p e s m args below meth c ls X hsz hP hD hS hl
  subst hsz
  obtain ⟨⟨hx, hb, hml, hown, hts⟩, hK, hr, hlk, hA, hAs, hSta⟩ := id X
  have hl : lv_has ls 1 [(0, .int x0)] := hl
  unfold moQJ6_bitCount_0f7a4 at hm
  refine lv_iload_n hx hb dJ6_bitCount_0f7a4_0 rfl (lv_at hl 0 rfl) ?_
  refine lv_iload_n hx hb dJ6_bitCount_0f7a4_1 rfl (lv_at hl 0 rfl) ?_
  refine lv_iconst (v := 1) hx hb dJ6_bitCount_0f7a4_2 (by decide) ?_
  refine lv_iushr (v := (urI x0 1)) hx hb dJ6_bitCount_0f7a4_3 rfl ?_
  refine lv_ldcw (v := 1431655765) hx hb hown (hts _ (List.mem_cons_of_mem _ kw592)) dJ6_bitCount_0f7a4_4 ?_
  refine lv_iand hx hb dJ6_bitCount_0f7a4_7 ?_
  refine lv_isub hx hb dJ6_bitCount_0f7a4_8 ?_
  refine lv_istore_n (lv' := [(0, .int (x0 - ((urI x0 1) &&& 1431655765)))]) hx hb dJ6_bitCount_0f7a4_9 rfl hl (by decide) rfl (fun ls hl => ?_)
  refine lv_iload_n hx hb dJ6_bitCount_0f7a4_10 rfl (lv_at hl 0 rfl) ?_
  refine lv_ldcw (v := 858993459) hx hb hown (hts _ (List.mem_cons_of_mem _ kw593)) dJ6_bitCount_0f7a4_11 ?_
  refine lv_iand hx hb dJ6_bitCount_0f7a4_14 ?_
  refine lv_iload_n hx hb dJ6_bitCount_0f7a4_15 rfl (lv_at hl 0 rfl) ?_
  refine lv_iconst (v := 2) hx hb dJ6_bitCount_0f7a4_16 (by decide) ?_
  refine lv_iushr (v := (urI (x0 - ((urI x0 1) &&& 1431655765)) 2)) hx hb dJ6_bitCount_0f7a4_17 rfl ?_
  refine lv_ldcw (v := 858993459) hx hb hown (hts _ (List.mem_cons_of_mem _ kw593)) dJ6_bitCount_0f7a4_18 ?_
  refine lv_iand hx hb dJ6_bitCount_0f7a4_21 ?_
  refine lv_iadd hx hb dJ6_bitCount_0f7a4_22 ?_
  refine lv_istore_n (lv' := [(0, .int (((x0 - ((urI x0 1) &&& 1431655765)) &&& 858993459) + ((urI (x0 - ((urI x0 1) &&& 1431655765)) 2) &&& 858993459)))]) hx hb dJ6_bitCount_0f7a4_23 rfl hl (by decide) rfl (fun ls hl => ?_)
  refine lv_iload_n hx hb dJ6_bitCount_0f7a4_24 rfl (lv_at hl 0 rfl) ?_
  refine lv_iload_n hx hb dJ6_bitCount_0f7a4_25 rfl (lv_at hl 0 rfl) ?_
  refine lv_iconst (v := 4) hx hb dJ6_bitCount_0f7a4_26 (by decide) ?_
  refine lv_iushr (v := (urI (((x0 - ((urI x0 1) &&& 1431655765)) &&& 858993459) + ((urI (x0 - ((urI x0 1) &&& 1431655765)) 2) &&& 858993459)) 4)) hx hb dJ6_bitCount_0f7a4_27 rfl ?_
  refine lv_iadd hx hb dJ6_bitCount_0f7a4_28 ?_
  refine lv_ldcw (v := 252645135) hx hb hown (hts _ (List.mem_cons_of_mem _ kw594)) dJ6_bitCount_0f7a4_29 ?_
  refine lv_iand hx hb dJ6_bitCount_0f7a4_32 ?_
  refine lv_istore_n (lv' := [(0, .int (((((x0 - ((urI x0 1) &&& 1431655765)) &&& 858993459) + ((urI (x0 - ((urI x0 1) &&& 1431655765)) 2) &&& 858993459)) + (urI (((x0 - ((urI x0 1) &&& 1431655765)) &&& 858993459) + ((urI (x0 - ((urI x0 1) &&& 1431655765)) 2) &&& 858993459)) 4)) &&& 252645135))]) hx hb dJ6_bitCount_0f7a4_33 rfl hl (by decide) rfl (fun ls hl => ?_)
  refine lv_iload_n hx hb dJ6_bitCount_0f7a4_34 rfl (lv_at hl 0 rfl) ?_
  refine lv_iload_n hx hb dJ6_bitCount_0f7a4_35 rfl (lv_at hl 0 rfl) ?_
  refine lv_bipush (v := 8) hx hb dJ6_bitCount_0f7a4_36 (by decide) ?_
  refine lv_iushr (v := (urI (((((x0 - ((urI x0 1) &&& 1431655765)) &&& 858993459) + ((urI (x0 - ((urI x0 1) &&& 1431655765)) 2) &&& 858993459)) + (urI (((x0 - ((urI x0 1) &&& 1431655765)) &&& 858993459) + ((urI (x0 - ((urI x0 1) &&& 1431655765)) 2) &&& 858993459)) 4)) &&& 252645135) 8)) hx hb dJ6_bitCount_0f7a4_38 rfl ?_
  refine lv_iadd hx hb dJ6_bitCount_0f7a4_39 ?_
  refine lv_istore_n (lv' := [(0, .int ((((((x0 - ((urI x0 1) &&& 1431655765)) &&& 858993459) + ((urI (x0 - ((urI x0 1) &&& 1431655765)) 2) &&& 858993459)) + (urI (((x0 - ((urI x0 1) &&& 1431655765)) &&& 858993459) + ((urI (x0 - ((urI x0 1) &&& 1431655765)) 2) &&& 858993459)) 4)) &&& 252645135) + (urI (((((x0 - ((urI x0 1) &&& 1431655765)) &&& 858993459) + ((urI (x0 - ((urI x0 1) &&& 1431655765)) 2) &&& 858993459)) + (urI (((x0 - ((urI x0 1) &&& 1431655765)) &&& 858993459) + ((urI (x0 - ((urI x0 1) &&& 1431655765)) 2) &&& 858993459)) 4)) &&& 252645135) 8)))]) hx hb dJ6_bitCount_0f7a4_40 rfl hl (by decide) rfl (fun ls hl => ?_)
  refine lv_iload_n hx hb dJ6_bitCount_0f7a4_41 rfl (lv_at hl 0 rfl) ?_
  refine lv_iload_n hx hb dJ6_bitCount_0f7a4_42 rfl (lv_at hl 0 rfl) ?_
  refine lv_bipush (v := 16) hx hb dJ6_bitCount_0f7a4_43 (by decide) ?_
  refine lv_iushr (v := (urI ((((((x0 - ((urI x0 1) &&& 1431655765)) &&& 858993459) + ((urI (x0 - ((urI x0 1) &&& 1431655765)) 2) &&& 858993459)) + (urI (((x0 - ((urI x0 1) &&& 1431655765)) &&& 858993459) + ((urI (x0 - ((urI x0 1) &&& 1431655765)) 2) &&& 858993459)) 4)) &&& 252645135) + (urI (((((x0 - ((urI x0 1) &&& 1431655765)) &&& 858993459) + ((urI (x0 - ((urI x0 1) &&& 1431655765)) 2) &&& 858993459)) + (urI (((x0 - ((urI x0 1) &&& 1431655765)) &&& 858993459) + ((urI (x0 - ((urI x0 1) &&& 1431655765)) 2) &&& 858993459)) 4)) &&& 252645135) 8)) 16)) hx hb dJ6_bitCount_0f7a4_45 rfl ?_
  refine lv_iadd hx hb dJ6_bitCount_0f7a4_46 ?_
  refine lv_istore_n (lv' := [(0, .int (((((((x0 - ((urI x0 1) &&& 1431655765)) &&& 858993459) + ((urI (x0 - ((urI x0 1) &&& 1431655765)) 2) &&& 858993459)) + (urI (((x0 - ((urI x0 1) &&& 1431655765)) &&& 858993459) + ((urI (x0 - ((urI x0 1) &&& 1431655765)) 2) &&& 858993459)) 4)) &&& 252645135) + (urI (((((x0 - ((urI x0 1) &&& 1431655765)) &&& 858993459) + ((urI (x0 - ((urI x0 1) &&& 1431655765)) 2) &&& 858993459)) + (urI (((x0 - ((urI x0 1) &&& 1431655765)) &&& 858993459) + ((urI (x0 - ((urI x0 1) &&& 1431655765)) 2) &&& 858993459)) 4)) &&& 252645135) 8)) + (urI ((((((x0 - ((urI x0 1) &&& 1431655765)) &&& 858993459) + ((urI (x0 - ((urI x0 1) &&& 1431655765)) 2) &&& 858993459)) + (urI (((x0 - ((urI x0 1) &&& 1431655765)) &&& 858993459) + ((urI (x0 - ((urI x0 1) &&& 1431655765)) 2) &&& 858993459)) 4)) &&& 252645135) + (urI (((((x0 - ((urI x0 1) &&& 1431655765)) &&& 858993459) + ((urI (x0 - ((urI x0 1) &&& 1431655765)) 2) &&& 858993459)) + (urI (((x0 - ((urI x0 1) &&& 1431655765)) &&& 858993459) + ((urI (x0 - ((urI x0 1) &&& 1431655765)) 2) &&& 858993459)) 4)) &&& 252645135) 8)) 16)))]) hx hb dJ6_bitCount_0f7a4_47 rfl hl (by decide) rfl (fun ls hl => ?_)
  refine lv_iload_n hx hb dJ6_bitCount_0f7a4_48 rfl (lv_at hl 0 rfl) ?_
  refine lv_bipush (v := 63) hx hb dJ6_bitCount_0f7a4_49 (by decide) ?_
  refine lv_iand hx hb dJ6_bitCount_0f7a4_51 ?_
  exact ret_io (wf := wN) X hm hP hS dJ6_bitCount_0f7a4_52

-- java/lang/Integer.J6_numberOfTrailingZeros_0f7a4
def moQJ6_numberOfTrailingZeros_0f7a4_B49 (n : Nat) (q : Unit) (x0 : Int32) (x1 : Int32)  : Option (Int32) :=
  (if x0 ≤ 16 then (if x0 ≤ 4 then (some (x1 + (urI x0 1))) else (some ((x1 + 2) + (urI (urI x0 2) 1)))) else (if (urI x0 4) ≤ 4 then (some ((x1 + 4) + (urI (urI x0 4) 1))) else (some (((x1 + 4) + 2) + (urI (urI (urI x0 4) 2) 1)))))
def moQJ6_numberOfTrailingZeros_0f7a4 (n : Nat) (x0 : Int32) : Option (Int32) :=
  (if 0 < ((x0 ^^^ (-1)) &&& (x0 - 1)) then (if ((x0 ^^^ (-1)) &&& (x0 - 1)) ≤ 65536 then (if ((x0 ^^^ (-1)) &&& (x0 - 1)) ≤ 256 then (moQJ6_numberOfTrailingZeros_0f7a4_B49 n () ((x0 ^^^ (-1)) &&& (x0 - 1)) 1 ) else (moQJ6_numberOfTrailingZeros_0f7a4_B49 n () (urI ((x0 ^^^ (-1)) &&& (x0 - 1)) 8) 9 )) else (if (urI ((x0 ^^^ (-1)) &&& (x0 - 1)) 16) ≤ 256 then (moQJ6_numberOfTrailingZeros_0f7a4_B49 n () (urI ((x0 ^^^ (-1)) &&& (x0 - 1)) 16) 17 ) else (moQJ6_numberOfTrailingZeros_0f7a4_B49 n () (urI (urI ((x0 ^^^ (-1)) &&& (x0 - 1)) 16) 8) 25 ))) else (some (((x0 ^^^ (-1)) &&& (x0 - 1)) &&& 32)))
set_option maxHeartbeats 4000000 in
set_option maxRecDepth 100000 in
theorem bkQJ6_numberOfTrailingZeros_0f7a4_49 {p : Program} {l : Launch} {e : Env} {s : State} {m : MethodId} {args : Array Value} {below : List Frame} {meth : Method} {c : Code} {G : Ev}   {q : Unit} {L : List Nat} {r : Int32} {n : Nat} {x0 : Int32} {x1 : Int32} {H : Heap} {locs : List Loc} {ls : Array Slot} (X : CX p s m args meth c cJ6_numberOfTrailingZeros_0f7a4 2 (some .int) RJ6 (.code yJ6_numberOfTrailingZeros_0f7a4 cJ6_numberOfTrailingZeros_0f7a4 2 (some .int)) G (AL L s.heap.size)) (hD : va_D (AL L s.heap.size) (wN q)) (hm : moQJ6_numberOfTrailingZeros_0f7a4_B49 n q x0 x1  = some r) (hP : va_P (DD G) vwCl (wN q) H) (hS : va_S (AL L s.heap.size) s.heap H locs) (hl : lv_has ls 2 [(0, .int x0), (1, .int x1)]) : W p l e { frames := 0, cells := 0, slots := 0, locals := 0 } s m args below meth c H locs 0 0 (MQ below (va_Qi (fun r' (_ : Unit) => r' = r) (fun _ t => va_P (DD G) vwCl (wN q) t.heap) (AL L s.heap.size)) args s 0 0 (AL L s.heap.size)) (F0 m 49 ls []) := by
  obtain ⟨⟨hx, hb, hml, hown, hts⟩, hK, hr, hlk, hA, hAs, hSta⟩ := id X
  unfold moQJ6_numberOfTrailingZeros_0f7a4_B49 at hm
  refine lv_iload_n hx hb dJ6_numberOfTrailingZeros_0f7a4_49 rfl (lv_at hl 0 rfl) ?_
  refine lv_bipush (v := 16) hx hb dJ6_numberOfTrailingZeros_0f7a4_50 (by decide) ?_
  refine lv_icmp_le (tgt := 62) hx hb dJ6_numberOfTrailingZeros_0f7a4_52 (by decide) (fun c_4 => ?_) (fun c_4 => ?_)
  · have hm := (if_pos c_4).symm.trans hm
    refine lv_iload_n hx hb dJ6_numberOfTrailingZeros_0f7a4_62 rfl (lv_at hl 0 rfl) ?_
    refine lv_iconst (v := 4) hx hb dJ6_numberOfTrailingZeros_0f7a4_63 (by decide) ?_
    refine lv_icmp_le (tgt := 74) hx hb dJ6_numberOfTrailingZeros_0f7a4_64 (by decide) (fun c_5 => ?_) (fun c_5 => ?_)
    · have hm := (if_pos c_5).symm.trans hm
      refine lv_iload_n hx hb dJ6_numberOfTrailingZeros_0f7a4_74 rfl (lv_at hl 1 rfl) ?_
      refine lv_iload_n hx hb dJ6_numberOfTrailingZeros_0f7a4_75 rfl (lv_at hl 0 rfl) ?_
      refine lv_iconst (v := 1) hx hb dJ6_numberOfTrailingZeros_0f7a4_76 (by decide) ?_
      refine lv_iushr (v := (urI x0 1)) hx hb dJ6_numberOfTrailingZeros_0f7a4_77 rfl ?_
      refine lv_iadd hx hb dJ6_numberOfTrailingZeros_0f7a4_78 ?_
      exact ret_io (wf := wN) X hm hP hS dJ6_numberOfTrailingZeros_0f7a4_79
    · have hm := (if_neg c_5).symm.trans hm
      refine lv_iinc (v := (x1 + 2)) (lv' := [(1, .int (x1 + 2)), (0, .int x0)]) hx hb dJ6_numberOfTrailingZeros_0f7a4_67 hl (k := 1) rfl (by first | rfl | decide) (by decide) rfl (fun ls hl => ?_)
      refine lv_iload_n hx hb dJ6_numberOfTrailingZeros_0f7a4_70 rfl (lv_at hl 1 rfl) ?_
      refine lv_iconst (v := 2) hx hb dJ6_numberOfTrailingZeros_0f7a4_71 (by decide) ?_
      refine lv_iushr (v := (urI x0 2)) hx hb dJ6_numberOfTrailingZeros_0f7a4_72 rfl ?_
      refine lv_istore_n (lv' := [(0, .int (urI x0 2)), (1, .int (x1 + 2))]) hx hb dJ6_numberOfTrailingZeros_0f7a4_73 rfl hl (by decide) rfl (fun ls hl => ?_)
      refine lv_iload_n hx hb dJ6_numberOfTrailingZeros_0f7a4_74 rfl (lv_at hl 1 rfl) ?_
      refine lv_iload_n hx hb dJ6_numberOfTrailingZeros_0f7a4_75 rfl (lv_at hl 0 rfl) ?_
      refine lv_iconst (v := 1) hx hb dJ6_numberOfTrailingZeros_0f7a4_76 (by decide) ?_
      refine lv_iushr (v := (urI (urI x0 2) 1)) hx hb dJ6_numberOfTrailingZeros_0f7a4_77 rfl ?_
      refine lv_iadd hx hb dJ6_numberOfTrailingZeros_0f7a4_78 ?_
      exact ret_io (wf := wN) X hm hP hS dJ6_numberOfTrailingZeros_0f7a4_79
  · have hm := (if_neg c_4).symm.trans hm
    refine lv_iinc (v := (x1 + 4)) (lv' := [(1, .int (x1 + 4)), (0, .int x0)]) hx hb dJ6_numberOfTrailingZeros_0f7a4_55 hl (k := 1) rfl (by first | rfl | decide) (by decide) rfl (fun ls hl => ?_)
    refine lv_iload_n hx hb dJ6_numberOfTrailingZeros_0f7a4_58 rfl (lv_at hl 1 rfl) ?_
    refine lv_iconst (v := 4) hx hb dJ6_numberOfTrailingZeros_0f7a4_59 (by decide) ?_
    refine lv_iushr (v := (urI x0 4)) hx hb dJ6_numberOfTrailingZeros_0f7a4_60 rfl ?_
    refine lv_istore_n (lv' := [(0, .int (urI x0 4)), (1, .int (x1 + 4))]) hx hb dJ6_numberOfTrailingZeros_0f7a4_61 rfl hl (by decide) rfl (fun ls hl => ?_)
    refine lv_iload_n hx hb dJ6_numberOfTrailingZeros_0f7a4_62 rfl (lv_at hl 0 rfl) ?_
    refine lv_iconst (v := 4) hx hb dJ6_numberOfTrailingZeros_0f7a4_63 (by decide) ?_
    refine lv_icmp_le (tgt := 74) hx hb dJ6_numberOfTrailingZeros_0f7a4_64 (by decide) (fun c_6 => ?_) (fun c_6 => ?_)
    · have hm := (if_pos c_6).symm.trans hm
      refine lv_iload_n hx hb dJ6_numberOfTrailingZeros_0f7a4_74 rfl (lv_at hl 1 rfl) ?_
      refine lv_iload_n hx hb dJ6_numberOfTrailingZeros_0f7a4_75 rfl (lv_at hl 0 rfl) ?_
      refine lv_iconst (v := 1) hx hb dJ6_numberOfTrailingZeros_0f7a4_76 (by decide) ?_
      refine lv_iushr (v := (urI (urI x0 4) 1)) hx hb dJ6_numberOfTrailingZeros_0f7a4_77 rfl ?_
      refine lv_iadd hx hb dJ6_numberOfTrailingZeros_0f7a4_78 ?_
      exact ret_io (wf := wN) X hm hP hS dJ6_numberOfTrailingZeros_0f7a4_79
    · have hm := (if_neg c_6).symm.trans hm
      refine lv_iinc (v := ((x1 + 4) + 2)) (lv' := [(1, .int ((x1 + 4) + 2)), (0, .int (urI x0 4))]) hx hb dJ6_numberOfTrailingZeros_0f7a4_67 hl (k := 1) rfl (by first | rfl | decide) (by decide) rfl (fun ls hl => ?_)
      refine lv_iload_n hx hb dJ6_numberOfTrailingZeros_0f7a4_70 rfl (lv_at hl 1 rfl) ?_
      refine lv_iconst (v := 2) hx hb dJ6_numberOfTrailingZeros_0f7a4_71 (by decide) ?_
      refine lv_iushr (v := (urI (urI x0 4) 2)) hx hb dJ6_numberOfTrailingZeros_0f7a4_72 rfl ?_
      refine lv_istore_n (lv' := [(0, .int (urI (urI x0 4) 2)), (1, .int ((x1 + 4) + 2))]) hx hb dJ6_numberOfTrailingZeros_0f7a4_73 rfl hl (by decide) rfl (fun ls hl => ?_)
      refine lv_iload_n hx hb dJ6_numberOfTrailingZeros_0f7a4_74 rfl (lv_at hl 1 rfl) ?_
      refine lv_iload_n hx hb dJ6_numberOfTrailingZeros_0f7a4_75 rfl (lv_at hl 0 rfl) ?_
      refine lv_iconst (v := 1) hx hb dJ6_numberOfTrailingZeros_0f7a4_76 (by decide) ?_
      refine lv_iushr (v := (urI (urI (urI x0 4) 2) 1)) hx hb dJ6_numberOfTrailingZeros_0f7a4_77 rfl ?_
      refine lv_iadd hx hb dJ6_numberOfTrailingZeros_0f7a4_78 ?_
      exact ret_io (wf := wN) X hm hP hS dJ6_numberOfTrailingZeros_0f7a4_79
set_option maxHeartbeats 4000000 in
set_option maxRecDepth 100000 in
theorem cQJ6_numberOfTrailingZeros_0f7a4 {l : Launch} {G : Ev}  {n : Nat} {x0 : Int32} {r : Int32} (hm : moQJ6_numberOfTrailingZeros_0f7a4 n x0  = some r) : CtI l G yJ6_numberOfTrailingZeros_0f7a4 cJ6_numberOfTrailingZeros_0f7a4 2 (some .int) 0 0 0 0 [.int x0] (wN ()) (wN ()) r := by
  intro sz
  refine enter (by decide) (Nat.le_of_ble_eq_true rfl) ?_
  intro p e s m args below meth c ls X hsz hP hD hS hl
  subst hsz
  obtain ⟨⟨hx, hb, hml, hown, hts⟩, hK, hr, hlk, hA, hAs, hSta⟩ := id X
  have hl : lv_has ls 2 [(0, .int x0)] := hl
  unfold moQJ6_numberOfTrailingZeros_0f7a4 at hm
  refine lv_iload_n hx hb dJ6_numberOfTrailingZeros_0f7a4_0 rfl (lv_at hl 0 rfl) ?_
  refine lv_iconst (v := (-1)) hx hb dJ6_numberOfTrailingZeros_0f7a4_1 (by decide) ?_
  refine lv_ixor hx hb dJ6_numberOfTrailingZeros_0f7a4_2 ?_
  refine lv_iload_n hx hb dJ6_numberOfTrailingZeros_0f7a4_3 rfl (lv_at hl 0 rfl) ?_
  refine lv_iconst (v := 1) hx hb dJ6_numberOfTrailingZeros_0f7a4_4 (by decide) ?_
  refine lv_isub hx hb dJ6_numberOfTrailingZeros_0f7a4_5 ?_
  refine lv_iand hx hb dJ6_numberOfTrailingZeros_0f7a4_6 ?_
  refine lv_istore_n (lv' := [(0, .int ((x0 ^^^ (-1)) &&& (x0 - 1)))]) hx hb dJ6_numberOfTrailingZeros_0f7a4_7 rfl hl (by decide) rfl (fun ls hl => ?_)
  refine lv_iload_n hx hb dJ6_numberOfTrailingZeros_0f7a4_8 rfl (lv_at hl 0 rfl) ?_
  refine lv_if_gt (tgt := 17) hx hb dJ6_numberOfTrailingZeros_0f7a4_9 (by decide) (fun c_1 => ?_) (fun c_1 => ?_)
  · have hm := (if_pos c_1).symm.trans hm
    refine lv_iconst (v := 1) hx hb dJ6_numberOfTrailingZeros_0f7a4_17 (by decide) ?_
    refine lv_istore_n (lv' := [(1, .int 1), (0, .int ((x0 ^^^ (-1)) &&& (x0 - 1)))]) hx hb dJ6_numberOfTrailingZeros_0f7a4_18 rfl hl (by decide) rfl (fun ls hl => ?_)
    refine lv_iload_n hx hb dJ6_numberOfTrailingZeros_0f7a4_19 rfl (lv_at hl 1 rfl) ?_
    refine lv_ldcw (v := 65536) hx hb hown (hts _ (List.mem_cons_of_mem _ kw598)) dJ6_numberOfTrailingZeros_0f7a4_20 ?_
    refine lv_icmp_le (tgt := 34) hx hb dJ6_numberOfTrailingZeros_0f7a4_23 (by decide) (fun c_2 => ?_) (fun c_2 => ?_)
    · have hm := (if_pos c_2).symm.trans hm
      refine lv_iload_n hx hb dJ6_numberOfTrailingZeros_0f7a4_34 rfl (lv_at hl 1 rfl) ?_
      refine lv_sipush (v := 256) hx hb dJ6_numberOfTrailingZeros_0f7a4_35 (by decide) ?_
      refine lv_icmp_le (tgt := 49) hx hb dJ6_numberOfTrailingZeros_0f7a4_38 (by decide) (fun c_3 => ?_) (fun c_3 => ?_)
      · have hm := (if_pos c_3).symm.trans hm
        exact bkQJ6_numberOfTrailingZeros_0f7a4_49 X hD hm hP hS (lv_sub hl [1, 0] rfl)
      · have hm := (if_neg c_3).symm.trans hm
        refine lv_iinc (v := 9) (lv' := [(1, .int 9), (0, .int ((x0 ^^^ (-1)) &&& (x0 - 1)))]) hx hb dJ6_numberOfTrailingZeros_0f7a4_41 hl (k := 0) rfl (by first | rfl | decide) (by decide) rfl (fun ls hl => ?_)
        refine lv_iload_n hx hb dJ6_numberOfTrailingZeros_0f7a4_44 rfl (lv_at hl 1 rfl) ?_
        refine lv_bipush (v := 8) hx hb dJ6_numberOfTrailingZeros_0f7a4_45 (by decide) ?_
        refine lv_iushr (v := (urI ((x0 ^^^ (-1)) &&& (x0 - 1)) 8)) hx hb dJ6_numberOfTrailingZeros_0f7a4_47 rfl ?_
        refine lv_istore_n (lv' := [(0, .int (urI ((x0 ^^^ (-1)) &&& (x0 - 1)) 8)), (1, .int 9)]) hx hb dJ6_numberOfTrailingZeros_0f7a4_48 rfl hl (by decide) rfl (fun ls hl => ?_)
        exact bkQJ6_numberOfTrailingZeros_0f7a4_49 X hD hm hP hS (lv_sub hl [0, 1] rfl)
    · have hm := (if_neg c_2).symm.trans hm
      refine lv_iinc (v := 17) (lv' := [(1, .int 17), (0, .int ((x0 ^^^ (-1)) &&& (x0 - 1)))]) hx hb dJ6_numberOfTrailingZeros_0f7a4_26 hl (k := 0) rfl (by first | rfl | decide) (by decide) rfl (fun ls hl => ?_)
      refine lv_iload_n hx hb dJ6_numberOfTrailingZeros_0f7a4_29 rfl (lv_at hl 1 rfl) ?_
      refine lv_bipush (v := 16) hx hb dJ6_numberOfTrailingZeros_0f7a4_30 (by decide) ?_
      refine lv_iushr (v := (urI ((x0 ^^^ (-1)) &&& (x0 - 1)) 16)) hx hb dJ6_numberOfTrailingZeros_0f7a4_32 rfl ?_
      refine lv_istore_n (lv' := [(0, .int (urI ((x0 ^^^ (-1)) &&& (x0 - 1)) 16)), (1, .int 17)]) hx hb dJ6_numberOfTrailingZeros_0f7a4_33 rfl hl (by decide) rfl (fun ls hl => ?_)
      refine lv_iload_n hx hb dJ6_numberOfTrailingZeros_0f7a4_34 rfl (lv_at hl 0 rfl) ?_
      refine lv_sipush (v := 256) hx hb dJ6_numberOfTrailingZeros_0f7a4_35 (by decide) ?_
      refine lv_icmp_le (tgt := 49) hx hb dJ6_numberOfTrailingZeros_0f7a4_38 (by decide) (fun c_7 => ?_) (fun c_7 => ?_)
      · have hm := (if_pos c_7).symm.trans hm
        exact bkQJ6_numberOfTrailingZeros_0f7a4_49 X hD hm hP hS (lv_sub hl [0, 1] rfl)
      · have hm := (if_neg c_7).symm.trans hm
        refine lv_iinc (v := 25) (lv' := [(1, .int 25), (0, .int (urI ((x0 ^^^ (-1)) &&& (x0 - 1)) 16))]) hx hb dJ6_numberOfTrailingZeros_0f7a4_41 hl (k := 1) rfl (by first | rfl | decide) (by decide) rfl (fun ls hl => ?_)
        refine lv_iload_n hx hb dJ6_numberOfTrailingZeros_0f7a4_44 rfl (lv_at hl 1 rfl) ?_
        refine lv_bipush (v := 8) hx hb dJ6_numberOfTrailingZeros_0f7a4_45 (by decide) ?_
        refine lv_iushr (v := (urI (urI ((x0 ^^^ (-1)) &&& (x0 - 1)) 16) 8)) hx hb dJ6_numberOfTrailingZeros_0f7a4_47 rfl ?_
        refine lv_istore_n (lv' := [(0, .int (urI (urI ((x0 ^^^ (-1)) &&& (x0 - 1)) 16) 8)), (1, .int 25)]) hx hb dJ6_numberOfTrailingZeros_0f7a4_48 rfl hl (by decide) rfl (fun ls hl => ?_)
        exact bkQJ6_numberOfTrailingZeros_0f7a4_49 X hD hm hP hS (lv_sub hl [0, 1] rfl)
  · have hm := (if_neg c_1).symm.trans hm
    refine lv_iload_n hx hb dJ6_numberOfTrailingZeros_0f7a4_12 rfl (lv_at hl 0 rfl) ?_
    refine lv_bipush (v := 32) hx hb dJ6_numberOfTrailingZeros_0f7a4_13 (by decide) ?_
    refine lv_iand hx hb dJ6_numberOfTrailingZeros_0f7a4_15 ?_
    exact ret_io (wf := wN) X hm hP hS dJ6_numberOfTrailingZeros_0f7a4_16

-- RuledCalendar$Filler.keepChosen
def moQ1_keepChosen_L2 {α : Type} (n : Nat) (ρ : Nat) (K0 : Pc4 → Option α) : Nat → Int32 → Pc4 → Option α
  | 0, _, _ => none
  | k + 1, x1, q => (if (r4S q 18) ≤ x1 then (K0 q) else (bd1 (moQ5_isChosen n x1 (r4S q 18) q) fun r_2 => (if r_2 = 0 then (moQ1_keepChosen_L2 n ρ K0 k (x1 + 1) q) else (gi x1 366 (ge (r4I q 1) ρ (gi ((r4A q 10 x1) / 32) 3600 (gi x1 366 (ge (r4I q 1) ρ (gi ((r4A q 10 x1) / 32) 3600 (moQ1_keepChosen_L2 n ρ K0 k (x1 + 1) (s4A q 14 ((r4A q 10 x1) / 32) ((r4A q 14 ((r4A q 10 x1) / 32)) ||| (slI 1 (rmI (r4A q 10 x1) 32))))))))))))))
def moQ1_keepChosen (n : Nat) (ρ : Nat) (q : Pc4) : Option (Pc4) :=
  (moQ1_keepChosen_L2 n ρ (fun q_10 => (some (s4S q_10 18 0))) n 0 q)
set_option maxHeartbeats 4000000 in
set_option maxRecDepth 100000 in
theorem lpQ1_keepChosen_2 {p : Program} {l : Launch} {e : Env} {s : State} {m : MethodId} {args : Array Value} {below : List Frame} {meth : Method} {c : Code} {G : Ev} {a : Nat → Nat} {ρ : Nat} {T : va_W} {Q : State → Prop} {A : Nat → Prop} {q0 : Pc4} (X : CX p s m args meth c cX1_keepChosen 2 none RX1 (.code yX1_keepChosen cX1_keepChosen 2 none) G A) (hD : va_D A (wF G a ρ T q0)) {α : Type} {o : α} {n : Nat} {K0 : Pc4 → Option α} (h0 : ∀ (q : Pc4) (H : Heap) (locs : List Loc) (ls : Array Slot), K0 q = some o → va_P (DD G) vwCl (wF G a ρ T q) H → va_S A s.heap H locs → lv_has ls 2 [(0, .ref (a 9))] → W p l e { frames := 1, cells := 0, slots := 0, locals := 22 } s m args below meth c H locs 0 0 Q (F0 m 59 ls [])) : ∀ (k : Nat) (x1 : Int32) (q : Pc4) (H : Heap) (locs : List Loc) (ls : Array Slot), moQ1_keepChosen_L2 n ρ K0 k x1 q = some o → va_P (DD G) vwCl (wF G a ρ T q) H → va_S A s.heap H locs → lv_has ls 2 [(0, .ref (a 9)), (1, .int x1)] → W p l e { frames := 1, cells := 0, slots := 0, locals := 22 } s m args below meth c H locs 0 0 Q (F0 m 2 ls []) := by
  obtain ⟨⟨hx, hb, hml, hown, hts⟩, hK, hr, hlk, hA, hAs, hSta⟩ := id X
  intro k
  induction k with
  | zero =>
    intro x1 q H locs ls hm
    have hm : none = some o := hm
    cases hm
  | succ k ih =>
    intro x1 q H locs ls hm hP hS hl
    rw [moQ1_keepChosen_L2] at hm
    refine lv_iload_n hx hb dX1_keepChosen_2 rfl (lv_at hl 1 rfl) ?_
    refine lv_aload_n hx hb dX1_keepChosen_3 rfl (lv_at hl 0 rfl) ?_
    refine gC_filler_gatheredCount X kw168 hP dX1_keepChosen_4 ?_
    refine lv_icmp_ge (tgt := 59) hx hb dX1_keepChosen_7 (by decide) (fun c_1 => ?_) (fun c_1 => ?_)
    · have hm := (if_pos c_1).symm.trans hm
      exact h0 _ _ _ _ hm hP hS (lv_sub hl [0] rfl)
    · have hm := (if_neg c_1).symm.trans hm
      refine lv_aload_n hx hb dX1_keepChosen_10 rfl (lv_at hl 0 rfl) ?_
      refine gC_filler_rule X kw162 hP dX1_keepChosen_11 ?_
      refine lv_iload_n hx hb dX1_keepChosen_14 rfl (lv_at hl 1 rfl) ?_
      refine lv_aload_n hx hb dX1_keepChosen_15 rfl (lv_at hl 0 rfl) ?_
      refine gC_filler_gatheredCount X kw168 hP dX1_keepChosen_16 ?_
      obtain ⟨r_2, e_2, hm⟩ := bd1_s hm
      refine goV_i (n := 2) (C := RX5) X (cQ5_isChosen (T := ((a ρ, cRow G (q.2.1 14)) :: T)) e_2) (gV kw603 kw604 kw605 kw3 kw606) (by decide +kernel) ⟨by decide, by decide⟩ (rc_rule hK hP) hP (show va_D _ (wC G a ((a ρ, cRow G (q.2.1 14)) :: T) q) from (dF (q1 := q) hD)) hS rfl rfl hl.1 (Nat.le_of_ble_eq_true rfl) dX1_keepChosen_19 ⟨Nat.le_refl _, Nat.le_refl _⟩ (fun H locs hP _ hS => ?_)
      have hP : va_P (DD G) vwCl (wF G a ρ T q) H := hP
      refine lv_if_eq (tgt := 53) hx hb dX1_keepChosen_22 (by decide) (fun c_3 => ?_) (fun c_3 => ?_)
      · have hm := (if_pos c_3).symm.trans hm
        refine lv_iinc (v := (x1 + 1)) (lv' := [(1, .int (x1 + 1)), (0, .ref (a 9))]) hx hb dX1_keepChosen_53 hl (k := 1) rfl (by first | rfl | decide) (by decide) rfl (fun ls hl => ?_)
        refine lv_goto (tgt := 2) hx hb dX1_keepChosen_56 (by decide) ?_
        exact ih _ _ _ _ _ hm hP hS (lv_sub hl [1, 0] rfl)
      · have hm := (if_neg c_3).symm.trans hm
        refine lv_aload_n hx hb dX1_keepChosen_25 rfl (lv_at hl 0 rfl) ?_
        refine gC_filler_row X kw163 hP dX1_keepChosen_26 ?_
        refine lv_aload_n hx hb dX1_keepChosen_29 rfl (lv_at hl 0 rfl) ?_
        refine gC_filler_gathered X kw167 hP dX1_keepChosen_30 ?_
        refine lv_iload_n hx hb dX1_keepChosen_33 rfl (lv_at hl 1 rfl) ?_
        obtain ⟨hi_4, hm⟩ := gi_s hm
        refine ldC_gathered X hP hi_4 dX1_keepChosen_34 ?_
        refine lv_bipush (v := 32) hx hb dX1_keepChosen_35 (by decide) ?_
        refine lv_idiv hx hb dX1_keepChosen_37 (by decide) ?_
        refine lv_dup2_11 hx hb dX1_keepChosen_38 rfl rfl ?_
        obtain ⟨hx_6, hm⟩ := ge_s hm
        obtain ⟨hi_5, hm⟩ := gi_s hm
        refine ldF_row X hx_6 hP hi_5 dX1_keepChosen_39 ?_
        refine lv_iconst (v := 1) hx hb dX1_keepChosen_40 (by decide) ?_
        refine lv_aload_n hx hb dX1_keepChosen_41 rfl (lv_at hl 0 rfl) ?_
        refine gC_filler_gathered X kw167 hP dX1_keepChosen_42 ?_
        refine lv_iload_n hx hb dX1_keepChosen_45 rfl (lv_at hl 1 rfl) ?_
        obtain ⟨hi_7, hm⟩ := gi_s hm
        refine ldC_gathered X hP hi_7 dX1_keepChosen_46 ?_
        refine lv_bipush (v := 32) hx hb dX1_keepChosen_47 (by decide) ?_
        refine lv_irem hx hb dX1_keepChosen_49 (by decide) ?_
        refine lv_ishl hx hb dX1_keepChosen_50 ?_
        refine lv_ior hx hb dX1_keepChosen_51 ?_
        obtain ⟨hx_9, hm⟩ := ge_s hm
        obtain ⟨hi_8, hm⟩ := gi_s hm
        refine stF_row X hx_9 hP (dF (q1 := q) hD) hS hi_8 dX1_keepChosen_52 (fun H locs hP hS => ?_)
        refine lv_iinc (v := (x1 + 1)) (lv' := [(1, .int (x1 + 1)), (0, .ref (a 9))]) hx hb dX1_keepChosen_53 hl (k := 1) rfl (by first | rfl | decide) (by decide) rfl (fun ls hl => ?_)
        refine lv_goto (tgt := 2) hx hb dX1_keepChosen_56 (by decide) ?_
        exact ih _ _ _ _ _ hm hP hS (lv_sub hl [1, 0] rfl)
set_option maxHeartbeats 4000000 in
set_option maxRecDepth 100000 in
theorem cQ1_keepChosen {l : Launch} {G : Ev} {a : Nat → Nat} {ρ : Nat} {T : va_W} {n : Nat} {q : Pc4} {q' : Pc4} (hm : moQ1_keepChosen n ρ q = some q') : CtV l G yX1_keepChosen cX1_keepChosen 2 none 1 22 0 0 [.ref (a 9)] (wF G a ρ T q) (wF G a ρ T q') := by
  intro sz
  refine enter (by decide) (Nat.le_of_ble_eq_true rfl) ?_
  intro p e s m args below meth c ls X hsz hP hD hS hl
  subst hsz
  obtain ⟨⟨hx, hb, hml, hown, hts⟩, hK, hr, hlk, hA, hAs, hSta⟩ := id X
  have hl : lv_has ls 2 [(0, .ref (a 9))] := hl
  unfold moQ1_keepChosen at hm
  refine lv_iconst (v := 0) hx hb dX1_keepChosen_0 (by decide) ?_
  refine lv_istore_n (lv' := [(1, .int 0), (0, .ref (a 9))]) hx hb dX1_keepChosen_1 rfl hl (by decide) rfl (fun ls hl => ?_)
  refine lpQ1_keepChosen_2 X hD (fun q_10 H locs ls hm hP hS hl => ?_) n _ _ _ _ _ hm hP hS (lv_sub hl [1, 0] rfl)
  refine lv_aload_n hx hb dX1_keepChosen_59 rfl (lv_at hl 0 rfl) ?_
  refine lv_iconst (v := 0) hx hb dX1_keepChosen_60 (by decide) ?_
  refine pC_filler_gatheredCount X kw168 hP (dF (q1 := q_10) hD) hS dX1_keepChosen_61 (fun H locs hP hS => ?_)
  have hP : va_P (DD G) vwCl (wF G a ρ T (s4S q_10 18 0)) H := hP
  exact ret_v (wf := wF G a ρ T) X hm hP hS dX1_keepChosen_64

-- RuledCalendar$Filler.gather
def moQ1_gather (n : Nat) (ρ : Nat) (x1 : Int32) (x2 : Int32) (q : Pc4) : Option (Pc4) :=
  (if 366 ≤ (r4S q 18) then (some q) else (gi (r4S q 18) 366 (some (s4S (s4A q 10 (r4S q 18) ((32 * x1) + x2)) 18 ((r4S (s4A q 10 (r4S q 18) ((32 * x1) + x2)) 18) + 1)))))
set_option maxHeartbeats 4000000 in
set_option maxRecDepth 100000 in
theorem cQ1_gather {l : Launch} {G : Ev} {a : Nat → Nat} {ρ : Nat} {T : va_W} {n : Nat} {q : Pc4} {x1 : Int32} {x2 : Int32} {q' : Pc4} (hm : moQ1_gather n ρ x1 x2 q = some q') : CtV l G yX1_gather cX1_gather 3 none 0 0 0 0 [.ref (a 9), .int x1, .int x2] (wF G a ρ T q) (wF G a ρ T q') := by
  intro sz
  refine enter (by decide) (Nat.le_of_ble_eq_true rfl) ?_
  intro p e s m args below meth c ls X hsz hP hD hS hl
  subst hsz
  obtain ⟨⟨hx, hb, hml, hown, hts⟩, hK, hr, hlk, hA, hAs, hSta⟩ := id X
  have hl : lv_has ls 3 [(0, .ref (a 9)), (1, .int x1), (2, .int x2)] := hl
  unfold moQ1_gather at hm
  refine lv_aload_n hx hb dX1_gather_0 rfl (lv_at hl 0 rfl) ?_
  refine gC_filler_gatheredCount X kw168 hP dX1_gather_1 ?_
  refine lv_aload_n hx hb dX1_gather_4 rfl (lv_at hl 0 rfl) ?_
  refine gC_filler_gathered X kw167 hP dX1_gather_5 ?_
  refine leC_gathered X hP dX1_gather_8 ?_
  refine lv_icmp_ge (tgt := 37) hx hb dX1_gather_9 (by decide) (fun c_1 => ?_) (fun c_1 => ?_)
  · have hm := (if_pos c_1).symm.trans hm
    exact ret_v (wf := wF G a ρ T) X hm hP hS dX1_gather_37
  · have hm := (if_neg c_1).symm.trans hm
    refine lv_aload_n hx hb dX1_gather_12 rfl (lv_at hl 0 rfl) ?_
    refine gC_filler_gathered X kw167 hP dX1_gather_13 ?_
    refine lv_aload_n hx hb dX1_gather_16 rfl (lv_at hl 0 rfl) ?_
    refine gC_filler_gatheredCount X kw168 hP dX1_gather_17 ?_
    refine lv_bipush (v := 32) hx hb dX1_gather_20 (by decide) ?_
    refine lv_iload_n hx hb dX1_gather_22 rfl (lv_at hl 1 rfl) ?_
    refine lv_imul hx hb dX1_gather_23 ?_
    refine lv_iload_n hx hb dX1_gather_24 rfl (lv_at hl 2 rfl) ?_
    refine lv_iadd hx hb dX1_gather_25 ?_
    obtain ⟨hi_2, hm⟩ := gi_s hm
    refine stC_gathered X hP (dF (q1 := q) hD) hS hi_2 dX1_gather_26 (fun H locs hP hS => ?_)
    have hP : va_P (DD G) vwCl (wF G a ρ T (s4A q 10 (r4S q 18) ((32 * x1) + x2))) H := hP
    refine lv_aload_n hx hb dX1_gather_27 rfl (lv_at hl 0 rfl) ?_
    refine lv_dup hx hb dX1_gather_28 rfl ?_
    refine gC_filler_gatheredCount X kw168 hP dX1_gather_29 ?_
    refine lv_iconst (v := 1) hx hb dX1_gather_32 (by decide) ?_
    refine lv_iadd hx hb dX1_gather_33 ?_
    refine pC_filler_gatheredCount X kw168 hP (dF (q1 := (s4A q 10 (r4S q 18) ((32 * x1) + x2))) hD) hS dX1_gather_34 (fun H locs hP hS => ?_)
    have hP : va_P (DD G) vwCl (wF G a ρ T (s4S (s4A q 10 (r4S q 18) ((32 * x1) + x2)) 18 ((r4S (s4A q 10 (r4S q 18) ((32 * x1) + x2)) 18) + 1))) H := hP
    exact ret_v (wf := wF G a ρ T) X hm hP hS dX1_gather_37

-- RuledCalendar$Filler.choosePlaces
def moQ1_choosePlaces_L40 {α : Type} (n : Nat) (ρ : Nat) (K0 : Int32 → Int32 → Int32 → Pc4 → Option α) : Nat → Int32 → Int32 → Int32 → Int32 → Int32 → Pc4 → Option α
  | 0, _, _, _, _, _, _ => none
  | k + 1, x2, x3, x4, x5, x6, q => (if x6 ≤ 0 then (K0 x2 x3 x4 q) else (bd1 (moQJ6_numberOfTrailingZeros_0f7a4 n x5) fun r_8 => (gi x4 3601 (gl (r4I q 2) 4 (bd1 (moQ2_periodOf n (r4I q 2) x4 ((r4A q 3 x4) + r_8)) fun r_10 => (if r_10 = x3 then (bd1 (moQ1_gather n ρ x4 r_8 q) fun q_13 => (moQ1_choosePlaces_L40 n ρ K0 k x2 x3 x4 (x5 &&& (x5 - 1)) (x6 + (-1)) q_13)) else (bd1 (moQ1_keepChosen n ρ q) fun q_14 => (bd1 (moQ1_gather n ρ x4 r_8 q_14) fun q_15 => (moQ1_choosePlaces_L40 n ρ K0 k x2 r_10 x4 (x5 &&& (x5 - 1)) (x6 + (-1)) q_15)))))))))
def moQ1_choosePlaces_L10 {α : Type} (n : Nat) (ρ : Nat) (K0 : Pc4 → Option α) : Nat → Int32 → Int32 → Int32 → Pc4 → Option α
  | 0, _, _, _, _ => none
  | k + 1, x2, x3, x4, q => (if x2 < x4 then (K0 q) else (ge (r4I q 1) ρ (gi x4 3600 (ge (r4I q 1) ρ (gi x4 3600 (bd1 (moQJ6_bitCount_0f7a4 n (r4A q 14 x4)) fun r_6 => (moQ1_choosePlaces_L40 n ρ (fun z16_2 z16_3 z16_4 q_16 => (moQ1_choosePlaces_L10 n ρ K0 k z16_2 z16_3 (z16_4 + 1) q_16)) n x2 x3 x4 (r4A q 14 x4) r_6 (s4A q 14 x4 0))))))))
def moQ1_choosePlaces (n : Nat) (ρ : Nat) (x1 : Int32) (x2 : Int32) (q : Pc4) : Option (Pc4) :=
  (moQ1_choosePlaces_L10 n ρ (fun q_17 => (bd1 (moQ1_keepChosen n ρ q_17) fun q_18 => (some q_18))) n x2 (-1) x1 (s4S q 18 0))
set_option maxHeartbeats 4000000 in
set_option maxRecDepth 100000 in
theorem lpQ1_choosePlaces_40 {p : Program} {l : Launch} {e : Env} {s : State} {m : MethodId} {args : Array Value} {below : List Frame} {meth : Method} {c : Code} {G : Ev} {a : Nat → Nat} {ρ : Nat} {T : va_W} {Q : State → Prop} {A : Nat → Prop} {q0 : Pc4} (X : CX p s m args meth c cX1_choosePlaces 9 none RX1 (.code yX1_choosePlaces cX1_choosePlaces 9 none) G A) (hD : va_D A (wF G a ρ T q0)) {α : Type} {o : α} {n : Nat} {K0 : Int32 → Int32 → Int32 → Pc4 → Option α} (h0 : ∀ (y2 : Int32) (y3 : Int32) (y4 : Int32) (q : Pc4) (H : Heap) (locs : List Loc) (ls : Array Slot), K0 y2 y3 y4 q = some o → va_P (DD G) vwCl (wF G a ρ T q) H → va_S A s.heap H locs → lv_has ls 9 [(0, .ref (a 9)), (2, .int y2), (3, .int y3), (4, .int y4)] → W p l e { frames := 2, cells := 0, slots := 0, locals := 43 } s m args below meth c H locs 0 0 Q (F0 m 115 ls [])) : ∀ (k : Nat) (x2 : Int32) (x3 : Int32) (x4 : Int32) (x5 : Int32) (x6 : Int32) (q : Pc4) (H : Heap) (locs : List Loc) (ls : Array Slot), moQ1_choosePlaces_L40 n ρ K0 k x2 x3 x4 x5 x6 q = some o → va_P (DD G) vwCl (wF G a ρ T q) H → va_S A s.heap H locs → lv_has ls 9 [(0, .ref (a 9)), (2, .int x2), (3, .int x3), (4, .int x4), (5, .int x5), (6, .int x6)] → W p l e { frames := 2, cells := 0, slots := 0, locals := 43 } s m args below meth c H locs 0 0 Q (F0 m 40 ls []) := by
  obtain ⟨⟨hx, hb, hml, hown, hts⟩, hK, hr, hlk, hA, hAs, hSta⟩ := id X
  intro k
  induction k with
  | zero =>
    intro x2 x3 x4 x5 x6 q H locs ls hm
    have hm : none = some o := hm
    cases hm
  | succ k ih =>
    intro x2 x3 x4 x5 x6 q H locs ls hm hP hS hl
    rw [moQ1_choosePlaces_L40] at hm
    refine lv_iload hx hb dX1_choosePlaces_40 (lv_at hl 5 rfl) ?_
    refine lv_if_le (tgt := 115) hx hb dX1_choosePlaces_42 (by decide) (fun c_7 => ?_) (fun c_7 => ?_)
    · have hm := (if_pos c_7).symm.trans hm
      exact h0 _ _ _ _ _ _ _ hm hP hS (lv_sub hl [0, 1, 2, 3] rfl)
    · have hm := (if_neg c_7).symm.trans hm
      refine lv_iload hx hb dX1_choosePlaces_45 (lv_at hl 4 rfl) ?_
      obtain ⟨r_8, e_8, hm⟩ := bd1_s hm
      refine goT_i (n := 1) X (cQJ6_numberOfTrailingZeros_0f7a4 e_8) (gSx kw595 kw596 kw21 kw597) (by decide +kernel) ⟨by decide, by decide⟩ va_nil va_dnil hS rfl rfl hl.1 (Nat.le_of_ble_eq_true rfl) dX1_choosePlaces_47 ⟨Nat.le_refl _, Nat.le_refl _⟩ (fun H locs _ hk hS => ?_)
      have hP := va_keep hP hk
      refine lv_istore (lv' := [(7, .int r_8), (0, .ref (a 9)), (2, .int x2), (3, .int x3), (4, .int x4), (5, .int x5), (6, .int x6)]) hx hb dX1_choosePlaces_50 hl (by decide) rfl (fun ls hl => ?_)
      refine lv_aload_n hx hb dX1_choosePlaces_52 rfl (lv_at hl 1 rfl) ?_
      refine gC_filler_rule X kw162 hP dX1_choosePlaces_53 ?_
      refine gC_rule_frequency X kw76 hP dX1_choosePlaces_56 ?_
      refine lv_iload hx hb dX1_choosePlaces_59 (lv_at hl 4 rfl) ?_
      refine lv_aload_n hx hb dX1_choosePlaces_61 rfl (lv_at hl 1 rfl) ?_
      refine gC_filler_days X kw161 hP dX1_choosePlaces_62 ?_
      refine gC_days_first X kw46 hP dX1_choosePlaces_65 ?_
      refine lv_iload hx hb dX1_choosePlaces_68 (lv_at hl 4 rfl) ?_
      obtain ⟨hi_9, hm⟩ := gi_s hm
      refine ldC_first X hP hi_9 dX1_choosePlaces_70 ?_
      refine lv_iload hx hb dX1_choosePlaces_71 (lv_at hl 0 rfl) ?_
      refine lv_iadd hx hb dX1_choosePlaces_73 ?_
      obtain ⟨hg_11, hm⟩ := gl_s hm
      obtain ⟨r_10, e_10, hm⟩ := bd1_s hm
      refine goV_i (n := 2) (C := RX2) X (cQ2_periodOf e_10) (gV kw529 kw530 kw531 kw5 kw532) (by decide +kernel) ⟨by decide, by decide⟩ (rcO (oF X hg_11) hS) va_nil va_dnil hS rfl rfl hl.1 (Nat.le_of_ble_eq_true rfl) dX1_choosePlaces_74 ⟨Nat.le_refl _, Nat.le_refl _⟩ (fun H locs _ hk hS => ?_)
      have hP := va_keep hP hk
      refine lv_istore (lv' := [(8, .int r_10), (7, .int r_8), (0, .ref (a 9)), (2, .int x2), (3, .int x3), (4, .int x4), (5, .int x5), (6, .int x6)]) hx hb dX1_choosePlaces_77 hl (by decide) rfl (fun ls hl => ?_)
      refine lv_iload hx hb dX1_choosePlaces_79 (lv_at hl 0 rfl) ?_
      refine lv_iload_n hx hb dX1_choosePlaces_81 rfl (lv_at hl 4 rfl) ?_
      refine lv_icmp_eq (tgt := 92) hx hb dX1_choosePlaces_82 (by decide) (fun c_12 => ?_) (fun c_12 => ?_)
      · have hm := (if_pos c_12).symm.trans hm
        refine lv_aload_n hx hb dX1_choosePlaces_92 rfl (lv_at hl 2 rfl) ?_
        refine lv_iload hx hb dX1_choosePlaces_93 (lv_at hl 5 rfl) ?_
        refine lv_iload hx hb dX1_choosePlaces_95 (lv_at hl 1 rfl) ?_
        obtain ⟨q_13, e_13, hm⟩ := bd1_s hm
        refine goV_v (n := 2) (C := RX1) X (cQ1_gather e_13) (gV kw607 kw609 ks_yX1_gather kw8 kw610) (by decide +kernel) ⟨by decide, by decide⟩ (rc_filler hK hP) hP (dF (q1 := q) hD) hS rfl rfl hl.1 (Nat.le_of_ble_eq_true rfl) dX1_choosePlaces_97 ⟨Nat.le_refl _, Nat.le_refl _⟩ (fun H locs hP _ hS => ?_)
        refine lv_iload hx hb dX1_choosePlaces_100 (lv_at hl 6 rfl) ?_
        refine lv_iload hx hb dX1_choosePlaces_102 (lv_at hl 6 rfl) ?_
        refine lv_iconst (v := 1) hx hb dX1_choosePlaces_104 (by decide) ?_
        refine lv_isub hx hb dX1_choosePlaces_105 ?_
        refine lv_iand hx hb dX1_choosePlaces_106 ?_
        refine lv_istore (lv' := [(5, .int (x5 &&& (x5 - 1))), (8, .int r_10), (7, .int r_8), (0, .ref (a 9)), (2, .int x2), (3, .int x3), (4, .int x4), (6, .int x6)]) hx hb dX1_choosePlaces_107 hl (by decide) rfl (fun ls hl => ?_)
        refine lv_iinc (v := (x6 + (-1))) (lv' := [(6, .int (x6 + (-1))), (5, .int (x5 &&& (x5 - 1))), (8, .int r_10), (7, .int r_8), (0, .ref (a 9)), (2, .int x2), (3, .int x3), (4, .int x4)]) hx hb dX1_choosePlaces_109 hl (k := 7) rfl (by first | rfl | decide) (by decide) rfl (fun ls hl => ?_)
        refine lv_goto (tgt := 40) hx hb dX1_choosePlaces_112 (by decide) ?_
        exact ih _ _ _ _ _ _ _ _ _ hm hP hS (lv_sub hl [4, 5, 6, 7, 1, 0] rfl)
      · have hm := (if_neg c_12).symm.trans hm
        refine lv_aload_n hx hb dX1_choosePlaces_85 rfl (lv_at hl 2 rfl) ?_
        obtain ⟨q_14, e_14, hm⟩ := bd1_s hm
        refine goV_v (n := 0) (C := RX1) X (cQ1_keepChosen e_14) (gV kw599 kw601 ks_yX1_keepChosen kw8 kw602) (by decide +kernel) ⟨by decide, by decide⟩ (rc_filler hK hP) hP (dF (q1 := q) hD) hS rfl rfl hl.1 (Nat.le_of_ble_eq_true rfl) dX1_choosePlaces_86 ⟨Nat.le_refl _, Nat.le_refl _⟩ (fun H locs hP _ hS => ?_)
        refine lv_iload hx hb dX1_choosePlaces_89 (lv_at hl 0 rfl) ?_
        refine lv_istore_n (lv' := [(3, .int r_10), (8, .int r_10), (7, .int r_8), (0, .ref (a 9)), (2, .int x2), (4, .int x4), (5, .int x5), (6, .int x6)]) hx hb dX1_choosePlaces_91 rfl hl (by decide) rfl (fun ls hl => ?_)
        refine lv_aload_n hx hb dX1_choosePlaces_92 rfl (lv_at hl 3 rfl) ?_
        refine lv_iload hx hb dX1_choosePlaces_93 (lv_at hl 5 rfl) ?_
        refine lv_iload hx hb dX1_choosePlaces_95 (lv_at hl 2 rfl) ?_
        obtain ⟨q_15, e_15, hm⟩ := bd1_s hm
        refine goV_v (n := 2) (C := RX1) X (cQ1_gather e_15) (gV kw607 kw609 ks_yX1_gather kw8 kw610) (by decide +kernel) ⟨by decide, by decide⟩ (rc_filler hK hP) hP (dF (q1 := q_14) hD) hS rfl rfl hl.1 (Nat.le_of_ble_eq_true rfl) dX1_choosePlaces_97 ⟨Nat.le_refl _, Nat.le_refl _⟩ (fun H locs hP _ hS => ?_)
        refine lv_iload hx hb dX1_choosePlaces_100 (lv_at hl 6 rfl) ?_
        refine lv_iload hx hb dX1_choosePlaces_102 (lv_at hl 6 rfl) ?_
        refine lv_iconst (v := 1) hx hb dX1_choosePlaces_104 (by decide) ?_
        refine lv_isub hx hb dX1_choosePlaces_105 ?_
        refine lv_iand hx hb dX1_choosePlaces_106 ?_
        refine lv_istore (lv' := [(5, .int (x5 &&& (x5 - 1))), (3, .int r_10), (8, .int r_10), (7, .int r_8), (0, .ref (a 9)), (2, .int x2), (4, .int x4), (6, .int x6)]) hx hb dX1_choosePlaces_107 hl (by decide) rfl (fun ls hl => ?_)
        refine lv_iinc (v := (x6 + (-1))) (lv' := [(6, .int (x6 + (-1))), (5, .int (x5 &&& (x5 - 1))), (3, .int r_10), (8, .int r_10), (7, .int r_8), (0, .ref (a 9)), (2, .int x2), (4, .int x4)]) hx hb dX1_choosePlaces_109 hl (k := 7) rfl (by first | rfl | decide) (by decide) rfl (fun ls hl => ?_)
        refine lv_goto (tgt := 40) hx hb dX1_choosePlaces_112 (by decide) ?_
        exact ih _ _ _ _ _ _ _ _ _ hm hP hS (lv_sub hl [5, 6, 2, 7, 1, 0] rfl)
set_option maxHeartbeats 4000000 in
set_option maxRecDepth 100000 in
theorem lpQ1_choosePlaces_10 {p : Program} {l : Launch} {e : Env} {s : State} {m : MethodId} {args : Array Value} {below : List Frame} {meth : Method} {c : Code} {G : Ev} {a : Nat → Nat} {ρ : Nat} {T : va_W} {Q : State → Prop} {A : Nat → Prop} {q0 : Pc4} (X : CX p s m args meth c cX1_choosePlaces 9 none RX1 (.code yX1_choosePlaces cX1_choosePlaces 9 none) G A) (hD : va_D A (wF G a ρ T q0)) {α : Type} {o : α} {n : Nat} {K0 : Pc4 → Option α} (h0 : ∀ (q : Pc4) (H : Heap) (locs : List Loc) (ls : Array Slot), K0 q = some o → va_P (DD G) vwCl (wF G a ρ T q) H → va_S A s.heap H locs → lv_has ls 9 [(0, .ref (a 9))] → W p l e { frames := 2, cells := 0, slots := 0, locals := 43 } s m args below meth c H locs 0 0 Q (F0 m 121 ls [])) : ∀ (k : Nat) (x2 : Int32) (x3 : Int32) (x4 : Int32) (q : Pc4) (H : Heap) (locs : List Loc) (ls : Array Slot), moQ1_choosePlaces_L10 n ρ K0 k x2 x3 x4 q = some o → va_P (DD G) vwCl (wF G a ρ T q) H → va_S A s.heap H locs → lv_has ls 9 [(0, .ref (a 9)), (2, .int x2), (3, .int x3), (4, .int x4)] → W p l e { frames := 2, cells := 0, slots := 0, locals := 43 } s m args below meth c H locs 0 0 Q (F0 m 10 ls []) := by
  obtain ⟨⟨hx, hb, hml, hown, hts⟩, hK, hr, hlk, hA, hAs, hSta⟩ := id X
  intro k
  induction k with
  | zero =>
    intro x2 x3 x4 q H locs ls hm
    have hm : none = some o := hm
    cases hm
  | succ k ih =>
    intro x2 x3 x4 q H locs ls hm hP hS hl
    rw [moQ1_choosePlaces_L10] at hm
    refine lv_iload hx hb dX1_choosePlaces_10 (lv_at hl 3 rfl) ?_
    refine lv_iload_n hx hb dX1_choosePlaces_12 rfl (lv_at hl 1 rfl) ?_
    refine lv_icmp_gt (tgt := 121) hx hb dX1_choosePlaces_13 (by decide) (fun c_1 => ?_) (fun c_1 => ?_)
    · have hm := (if_pos c_1).symm.trans hm
      exact h0 _ _ _ _ hm hP hS (lv_sub hl [0] rfl)
    · have hm := (if_neg c_1).symm.trans hm
      refine lv_aload_n hx hb dX1_choosePlaces_16 rfl (lv_at hl 0 rfl) ?_
      refine gC_filler_row X kw163 hP dX1_choosePlaces_17 ?_
      refine lv_iload hx hb dX1_choosePlaces_20 (lv_at hl 3 rfl) ?_
      obtain ⟨hx_3, hm⟩ := ge_s hm
      obtain ⟨hi_2, hm⟩ := gi_s hm
      refine ldF_row X hx_3 hP hi_2 dX1_choosePlaces_22 ?_
      refine lv_istore (lv' := [(5, .int (r4A q 14 x4)), (0, .ref (a 9)), (2, .int x2), (3, .int x3), (4, .int x4)]) hx hb dX1_choosePlaces_23 hl (by decide) rfl (fun ls hl => ?_)
      refine lv_aload_n hx hb dX1_choosePlaces_25 rfl (lv_at hl 1 rfl) ?_
      refine gC_filler_row X kw163 hP dX1_choosePlaces_26 ?_
      refine lv_iload hx hb dX1_choosePlaces_29 (lv_at hl 4 rfl) ?_
      refine lv_iconst (v := 0) hx hb dX1_choosePlaces_31 (by decide) ?_
      obtain ⟨hx_5, hm⟩ := ge_s hm
      obtain ⟨hi_4, hm⟩ := gi_s hm
      refine stF_row X hx_5 hP (dF (q1 := q) hD) hS hi_4 dX1_choosePlaces_32 (fun H locs hP hS => ?_)
      refine lv_iload hx hb dX1_choosePlaces_33 (lv_at hl 0 rfl) ?_
      obtain ⟨r_6, e_6, hm⟩ := bd1_s hm
      refine goT_i (n := 1) X (cQJ6_bitCount_0f7a4 e_6) (gSx kw589 kw590 kw21 kw591) (by decide +kernel) ⟨by decide, by decide⟩ va_nil va_dnil hS rfl rfl hl.1 (Nat.le_of_ble_eq_true rfl) dX1_choosePlaces_35 ⟨Nat.le_refl _, Nat.le_refl _⟩ (fun H locs _ hk hS => ?_)
      have hP := va_keep hP hk
      refine lv_istore (lv' := [(6, .int r_6), (5, .int (r4A q 14 x4)), (0, .ref (a 9)), (2, .int x2), (3, .int x3), (4, .int x4)]) hx hb dX1_choosePlaces_38 hl (by decide) rfl (fun ls hl => ?_)
      refine lpQ1_choosePlaces_40 X hD (fun z16_2 z16_3 z16_4 q_16 H locs ls hm hP hS hl => ?_) n _ _ _ _ _ _ _ _ _ hm hP hS (lv_sub hl [2, 3, 4, 5, 1, 0] rfl)
      refine lv_iinc (v := (z16_4 + 1)) (lv' := [(4, .int (z16_4 + 1)), (0, .ref (a 9)), (2, .int z16_2), (3, .int z16_3)]) hx hb dX1_choosePlaces_115 hl (k := 3) rfl (by first | rfl | decide) (by decide) rfl (fun ls hl => ?_)
      refine lv_goto (tgt := 10) hx hb dX1_choosePlaces_118 (by decide) ?_
      exact ih _ _ _ _ _ _ _ hm hP hS (lv_sub hl [1, 2, 3, 0] rfl)
set_option maxHeartbeats 4000000 in
set_option maxRecDepth 100000 in
theorem cQ1_choosePlaces {l : Launch} {G : Ev} {a : Nat → Nat} {ρ : Nat} {T : va_W} {n : Nat} {q : Pc4} {x1 : Int32} {x2 : Int32} {q' : Pc4} (hm : moQ1_choosePlaces n ρ x1 x2 q = some q') : CtV l G yX1_choosePlaces cX1_choosePlaces 9 none 2 43 0 0 [.ref (a 9), .int x1, .int x2] (wF G a ρ T q) (wF G a ρ T q') := by
  intro sz
  refine enter (by decide) (Nat.le_of_ble_eq_true rfl) ?_
  intro p e s m args below meth c ls X hsz hP hD hS hl
  subst hsz
  obtain ⟨⟨hx, hb, hml, hown, hts⟩, hK, hr, hlk, hA, hAs, hSta⟩ := id X
  have hl : lv_has ls 9 [(0, .ref (a 9)), (1, .int x1), (2, .int x2)] := hl
  unfold moQ1_choosePlaces at hm
  refine lv_aload_n hx hb dX1_choosePlaces_0 rfl (lv_at hl 0 rfl) ?_
  refine lv_iconst (v := 0) hx hb dX1_choosePlaces_1 (by decide) ?_
  refine pC_filler_gatheredCount X kw168 hP (dF (q1 := q) hD) hS dX1_choosePlaces_2 (fun H locs hP hS => ?_)
  have hP : va_P (DD G) vwCl (wF G a ρ T (s4S q 18 0)) H := hP
  refine lv_iconst (v := (-1)) hx hb dX1_choosePlaces_5 (by decide) ?_
  refine lv_istore_n (lv' := [(3, .int (-1)), (0, .ref (a 9)), (1, .int x1), (2, .int x2)]) hx hb dX1_choosePlaces_6 rfl hl (by decide) rfl (fun ls hl => ?_)
  refine lv_iload_n hx hb dX1_choosePlaces_7 rfl (lv_at hl 2 rfl) ?_
  refine lv_istore (lv' := [(4, .int x1), (3, .int (-1)), (0, .ref (a 9)), (1, .int x1), (2, .int x2)]) hx hb dX1_choosePlaces_8 hl (by decide) rfl (fun ls hl => ?_)
  refine lpQ1_choosePlaces_10 X hD (fun q_17 H locs ls hm hP hS hl => ?_) n _ _ _ _ _ _ _ hm hP hS (lv_sub hl [2, 4, 1, 0] rfl)
  refine lv_aload_n hx hb dX1_choosePlaces_121 rfl (lv_at hl 0 rfl) ?_
  obtain ⟨q_18, e_18, hm⟩ := bd1_s hm
  refine goV_v (n := 0) (C := RX1) X (cQ1_keepChosen e_18) (gV kw599 kw601 ks_yX1_keepChosen kw8 kw602) (by decide +kernel) ⟨by decide, by decide⟩ (rc_filler hK hP) hP (dF (q1 := q_17) hD) hS rfl rfl hl.1 (Nat.le_of_ble_eq_true rfl) dX1_choosePlaces_122 ⟨Nat.le_refl _, Nat.le_refl _⟩ (fun H locs hP _ hS => ?_)
  exact ret_v (wf := wF G a ρ T) X hm hP hS dX1_choosePlaces_125

-- RuledCalendar$Filler.cutEnds
def moQ1_cutEnds_B56 {α : Type} (n : Nat) (ρ : Nat) (K0 : Int32 → Int32 → Int32 → Int32 → Int32 → Pc4 → Option α) (x2 : Int32) (x3 : Int32) (x4 : Int32) (x5 : Int32) (x6 : Int32) (t0 : Int32) (q : Pc4) : Option α :=
  (if t0 = 0 then (ge (r4I q 1) ρ (gi x6 3600 (bd1 (moQ0_between n x6 (r4S q 15) (r4S q 5)) fun r_8 => (bd1 (moQ0_lowest n ((r4A q 14 x6) &&& r_8) x5) fun r_9 => (ge (r4I q 1) ρ (gi x6 3600 (ge (r4I (s4A q 14 x6 r_9) 1) ρ (gi x6 3600 (bd1 (moQJ6_bitCount_0f7a4 n (r4A (s4A q 14 x6 r_9) 14 x6)) fun r_14 => (K0 x2 x3 x4 (x5 - r_14) (x6 + 1) (s4A q 14 x6 r_9))))))))))) else (bd1 (moQ0_lowest n 0 x5) fun r_15 => (ge (r4I q 1) ρ (gi x6 3600 (ge (r4I (s4A q 14 x6 r_15) 1) ρ (gi x6 3600 (bd1 (moQJ6_bitCount_0f7a4 n (r4A (s4A q 14 x6 r_15) 14 x6)) fun r_20 => (K0 x2 x3 x4 (x5 - r_20) (x6 + 1) (s4A q 14 x6 r_15)))))))))
def moQ1_cutEnds_L32 {α : Type} (n : Nat) (ρ : Nat) (K0 : Pc4 → Option α) : Nat → Int32 → Int32 → Int32 → Int32 → Int32 → Pc4 → Option α
  | 0, _, _, _, _, _, _ => none
  | k + 1, x2, x3, x4, x5, x6, q => (if x2 < x6 then (K0 q) else (if x6 < x3 then (moQ1_cutEnds_B56 n ρ (fun z21_2 z21_3 z21_4 z21_5 z21_6 q_21 => (moQ1_cutEnds_L32 n ρ K0 k z21_2 z21_3 z21_4 z21_5 z21_6 q_21)) x2 x3 x4 x5 x6 1 q) else (if x6 ≤ x4 then (moQ1_cutEnds_B56 n ρ (fun z23_2 z23_3 z23_4 z23_5 z23_6 q_23 => (moQ1_cutEnds_L32 n ρ K0 k z23_2 z23_3 z23_4 z23_5 z23_6 q_23)) x2 x3 x4 x5 x6 0 q) else (moQ1_cutEnds_B56 n ρ (fun z24_2 z24_3 z24_4 z24_5 z24_6 q_24 => (moQ1_cutEnds_L32 n ρ K0 k z24_2 z24_3 z24_4 z24_5 z24_6 q_24)) x2 x3 x4 x5 x6 1 q))))
def moQ1_cutEnds (n : Nat) (ρ : Nat) (x1 : Int32) (x2 : Int32) (q : Pc4) : Option (Pc4) :=
  (bd1 (moQ0_monthOf n (r4S q 15)) fun r_1 => (bd1 (moQ0_monthOf n (r4S q 5)) fun r_2 => (moQ1_cutEnds_L32 n ρ (fun q_25 => (some q_25)) n x2 r_1 r_2 (r4S q 4) x1 q)))
set_option maxHeartbeats 4000000 in
set_option maxRecDepth 100000 in
theorem bkQ1_cutEnds_56 {p : Program} {l : Launch} {e : Env} {s : State} {m : MethodId} {args : Array Value} {below : List Frame} {meth : Method} {c : Code} {G : Ev} {a : Nat → Nat} {ρ : Nat} {T : va_W} {Q : State → Prop} {A : Nat → Prop} {q0 : Pc4} (X : CX p s m args meth c cX1_cutEnds 9 none RX1 (.code yX1_cutEnds cX1_cutEnds 9 none) G A) (hD : va_D A (wF G a ρ T q0)) {α : Type} {o : α} {n : Nat} {K0 : Int32 → Int32 → Int32 → Int32 → Int32 → Pc4 → Option α} (h0 : ∀ (y2 : Int32) (y3 : Int32) (y4 : Int32) (y5 : Int32) (y6 : Int32) (q : Pc4) (H : Heap) (locs : List Loc) (ls : Array Slot), K0 y2 y3 y4 y5 y6 q = some o → va_P (DD G) vwCl (wF G a ρ T q) H → va_S A s.heap H locs → lv_has ls 9 [(0, .ref (a 9)), (2, .int y2), (3, .int y3), (4, .int y4), (5, .int y5), (6, .int y6)] → W p l e { frames := 2, cells := 0, slots := 0, locals := 43 } s m args below meth c H locs 0 0 Q (F0 m 32 ls [])) {q : Pc4} {H : Heap} {locs : List Loc} {ls : Array Slot} {x2 : Int32} {x3 : Int32} {x4 : Int32} {x5 : Int32} {x6 : Int32} {t0 : Int32}  (hm : moQ1_cutEnds_B56 n ρ K0 x2 x3 x4 x5 x6 t0 q = some o) (hP : va_P (DD G) vwCl (wF G a ρ T q) H) (hS : va_S A s.heap H locs) (hl : lv_has ls 9 [(0, .ref (a 9)), (2, .int x2), (3, .int x3), (4, .int x4), (5, .int x5), (6, .int x6)]) : W p l e { frames := 2, cells := 0, slots := 0, locals := 43 } s m args below meth c H locs 0 0 Q (F0 m 56 ls [.int t0]) := by
  obtain ⟨⟨hx, hb, hml, hown, hts⟩, hK, hr, hlk, hA, hAs, hSta⟩ := id X
  unfold moQ1_cutEnds_B56 at hm
  refine lv_istore (lv' := [(7, .int t0), (0, .ref (a 9)), (2, .int x2), (3, .int x3), (4, .int x4), (5, .int x5), (6, .int x6)]) hx hb dX1_cutEnds_56 hl (by decide) rfl (fun ls hl => ?_)
  refine lv_iload hx hb dX1_cutEnds_58 (lv_at hl 0 rfl) ?_
  refine lv_if_eq (tgt := 67) hx hb dX1_cutEnds_60 (by decide) (fun c_5 => ?_) (fun c_5 => ?_)
  · have hm := (if_pos c_5).symm.trans hm
    refine lv_aload_n hx hb dX1_cutEnds_67 rfl (lv_at hl 1 rfl) ?_
    refine gC_filler_row X kw163 hP dX1_cutEnds_68 ?_
    refine lv_iload hx hb dX1_cutEnds_71 (lv_at hl 6 rfl) ?_
    obtain ⟨hx_7, hm⟩ := ge_s hm
    obtain ⟨hi_6, hm⟩ := gi_s hm
    refine ldF_row X hx_7 hP hi_6 dX1_cutEnds_73 ?_
    refine lv_iload hx hb dX1_cutEnds_74 (lv_at hl 6 rfl) ?_
    refine lv_aload_n hx hb dX1_cutEnds_76 rfl (lv_at hl 1 rfl) ?_
    refine gC_filler_start X kw164 hP dX1_cutEnds_77 ?_
    refine lv_aload_n hx hb dX1_cutEnds_80 rfl (lv_at hl 1 rfl) ?_
    refine gC_filler_rule X kw162 hP dX1_cutEnds_81 ?_
    refine gC_rule_until X kw83 hP dX1_cutEnds_84 ?_
    obtain ⟨r_8, e_8, hm⟩ := bd1_s hm
    refine goT_i (n := 3) X (cQ0_between e_8) (gSx kw615 kw616 kw2 kw617) (by decide +kernel) ⟨by decide, by decide⟩ va_nil va_dnil hS rfl rfl hl.1 (Nat.le_of_ble_eq_true rfl) dX1_cutEnds_87 ⟨Nat.le_refl _, Nat.le_refl _⟩ (fun H locs _ hk hS => ?_)
    have hP := va_keep hP hk
    refine lv_iand hx hb dX1_cutEnds_90 ?_
    refine lv_istore (lv' := [(8, .int ((r4A q 14 x6) &&& r_8)), (7, .int t0), (0, .ref (a 9)), (2, .int x2), (3, .int x3), (4, .int x4), (5, .int x5), (6, .int x6)]) hx hb dX1_cutEnds_91 hl (by decide) rfl (fun ls hl => ?_)
    refine lv_aload_n hx hb dX1_cutEnds_93 rfl (lv_at hl 2 rfl) ?_
    refine gC_filler_row X kw163 hP dX1_cutEnds_94 ?_
    refine lv_iload hx hb dX1_cutEnds_97 (lv_at hl 7 rfl) ?_
    refine lv_iload hx hb dX1_cutEnds_99 (lv_at hl 0 rfl) ?_
    refine lv_iload hx hb dX1_cutEnds_101 (lv_at hl 6 rfl) ?_
    obtain ⟨r_9, e_9, hm⟩ := bd1_s hm
    refine goT_i (n := 2) X (cQ0_lowest e_9) (gSx kw619 kw620 kw2 kw621) (by decide +kernel) ⟨by decide, by decide⟩ va_nil va_dnil hS rfl rfl hl.1 (Nat.le_of_ble_eq_true rfl) dX1_cutEnds_103 ⟨Nat.le_refl _, Nat.le_refl _⟩ (fun H locs _ hk hS => ?_)
    have hP := va_keep hP hk
    obtain ⟨hx_11, hm⟩ := ge_s hm
    obtain ⟨hi_10, hm⟩ := gi_s hm
    refine stF_row X hx_11 hP (dF (q1 := q) hD) hS hi_10 dX1_cutEnds_106 (fun H locs hP hS => ?_)
    refine lv_iload hx hb dX1_cutEnds_107 (lv_at hl 6 rfl) ?_
    refine lv_aload_n hx hb dX1_cutEnds_109 rfl (lv_at hl 2 rfl) ?_
    refine gC_filler_row X kw163 hP dX1_cutEnds_110 ?_
    refine lv_iload hx hb dX1_cutEnds_113 (lv_at hl 7 rfl) ?_
    obtain ⟨hx_13, hm⟩ := ge_s hm
    obtain ⟨hi_12, hm⟩ := gi_s hm
    refine ldF_row X hx_13 hP hi_12 dX1_cutEnds_115 ?_
    obtain ⟨r_14, e_14, hm⟩ := bd1_s hm
    refine goT_i (n := 1) X (cQJ6_bitCount_0f7a4 e_14) (gSx kw589 kw590 kw21 kw591) (by decide +kernel) ⟨by decide, by decide⟩ va_nil va_dnil hS rfl rfl hl.1 (Nat.le_of_ble_eq_true rfl) dX1_cutEnds_116 ⟨Nat.le_refl _, Nat.le_refl _⟩ (fun H locs _ hk hS => ?_)
    have hP := va_keep hP hk
    refine lv_isub hx hb dX1_cutEnds_119 ?_
    refine lv_istore (lv' := [(5, .int (x5 - r_14)), (8, .int ((r4A q 14 x6) &&& r_8)), (7, .int t0), (0, .ref (a 9)), (2, .int x2), (3, .int x3), (4, .int x4), (6, .int x6)]) hx hb dX1_cutEnds_120 hl (by decide) rfl (fun ls hl => ?_)
    refine lv_iinc (v := (x6 + 1)) (lv' := [(6, .int (x6 + 1)), (5, .int (x5 - r_14)), (8, .int ((r4A q 14 x6) &&& r_8)), (7, .int t0), (0, .ref (a 9)), (2, .int x2), (3, .int x3), (4, .int x4)]) hx hb dX1_cutEnds_122 hl (k := 7) rfl (by first | rfl | decide) (by decide) rfl (fun ls hl => ?_)
    refine lv_goto (tgt := 32) hx hb dX1_cutEnds_125 (by decide) ?_
    exact h0 _ _ _ _ _ _ _ _ _ hm hP hS (lv_sub hl [4, 5, 6, 7, 1, 0] rfl)
  · have hm := (if_neg c_5).symm.trans hm
    refine lv_iconst (v := 0) hx hb dX1_cutEnds_63 (by decide) ?_
    refine lv_goto (tgt := 91) hx hb dX1_cutEnds_64 (by decide) ?_
    refine lv_istore (lv' := [(8, .int 0), (7, .int t0), (0, .ref (a 9)), (2, .int x2), (3, .int x3), (4, .int x4), (5, .int x5), (6, .int x6)]) hx hb dX1_cutEnds_91 hl (by decide) rfl (fun ls hl => ?_)
    refine lv_aload_n hx hb dX1_cutEnds_93 rfl (lv_at hl 2 rfl) ?_
    refine gC_filler_row X kw163 hP dX1_cutEnds_94 ?_
    refine lv_iload hx hb dX1_cutEnds_97 (lv_at hl 7 rfl) ?_
    refine lv_iload hx hb dX1_cutEnds_99 (lv_at hl 0 rfl) ?_
    refine lv_iload hx hb dX1_cutEnds_101 (lv_at hl 6 rfl) ?_
    obtain ⟨r_15, e_15, hm⟩ := bd1_s hm
    refine goT_i (n := 2) X (cQ0_lowest e_15) (gSx kw619 kw620 kw2 kw621) (by decide +kernel) ⟨by decide, by decide⟩ va_nil va_dnil hS rfl rfl hl.1 (Nat.le_of_ble_eq_true rfl) dX1_cutEnds_103 ⟨Nat.le_refl _, Nat.le_refl _⟩ (fun H locs _ hk hS => ?_)
    have hP := va_keep hP hk
    obtain ⟨hx_17, hm⟩ := ge_s hm
    obtain ⟨hi_16, hm⟩ := gi_s hm
    refine stF_row X hx_17 hP (dF (q1 := q) hD) hS hi_16 dX1_cutEnds_106 (fun H locs hP hS => ?_)
    refine lv_iload hx hb dX1_cutEnds_107 (lv_at hl 6 rfl) ?_
    refine lv_aload_n hx hb dX1_cutEnds_109 rfl (lv_at hl 2 rfl) ?_
    refine gC_filler_row X kw163 hP dX1_cutEnds_110 ?_
    refine lv_iload hx hb dX1_cutEnds_113 (lv_at hl 7 rfl) ?_
    obtain ⟨hx_19, hm⟩ := ge_s hm
    obtain ⟨hi_18, hm⟩ := gi_s hm
    refine ldF_row X hx_19 hP hi_18 dX1_cutEnds_115 ?_
    obtain ⟨r_20, e_20, hm⟩ := bd1_s hm
    refine goT_i (n := 1) X (cQJ6_bitCount_0f7a4 e_20) (gSx kw589 kw590 kw21 kw591) (by decide +kernel) ⟨by decide, by decide⟩ va_nil va_dnil hS rfl rfl hl.1 (Nat.le_of_ble_eq_true rfl) dX1_cutEnds_116 ⟨Nat.le_refl _, Nat.le_refl _⟩ (fun H locs _ hk hS => ?_)
    have hP := va_keep hP hk
    refine lv_isub hx hb dX1_cutEnds_119 ?_
    refine lv_istore (lv' := [(5, .int (x5 - r_20)), (8, .int 0), (7, .int t0), (0, .ref (a 9)), (2, .int x2), (3, .int x3), (4, .int x4), (6, .int x6)]) hx hb dX1_cutEnds_120 hl (by decide) rfl (fun ls hl => ?_)
    refine lv_iinc (v := (x6 + 1)) (lv' := [(6, .int (x6 + 1)), (5, .int (x5 - r_20)), (8, .int 0), (7, .int t0), (0, .ref (a 9)), (2, .int x2), (3, .int x3), (4, .int x4)]) hx hb dX1_cutEnds_122 hl (k := 7) rfl (by first | rfl | decide) (by decide) rfl (fun ls hl => ?_)
    refine lv_goto (tgt := 32) hx hb dX1_cutEnds_125 (by decide) ?_
    exact h0 _ _ _ _ _ _ _ _ _ hm hP hS (lv_sub hl [4, 5, 6, 7, 1, 0] rfl)
set_option maxHeartbeats 4000000 in
set_option maxRecDepth 100000 in
theorem lpQ1_cutEnds_32 {p : Program} {l : Launch} {e : Env} {s : State} {m : MethodId} {args : Array Value} {below : List Frame} {meth : Method} {c : Code} {G : Ev} {a : Nat → Nat} {ρ : Nat} {T : va_W} {Q : State → Prop} {A : Nat → Prop} {q0 : Pc4} (X : CX p s m args meth c cX1_cutEnds 9 none RX1 (.code yX1_cutEnds cX1_cutEnds 9 none) G A) (hD : va_D A (wF G a ρ T q0)) {α : Type} {o : α} {n : Nat} {K0 : Pc4 → Option α} (h0 : ∀ (q : Pc4) (H : Heap) (locs : List Loc) (ls : Array Slot), K0 q = some o → va_P (DD G) vwCl (wF G a ρ T q) H → va_S A s.heap H locs → lv_has ls 9 [] → W p l e { frames := 2, cells := 0, slots := 0, locals := 43 } s m args below meth c H locs 0 0 Q (F0 m 128 ls [])) : ∀ (k : Nat) (x2 : Int32) (x3 : Int32) (x4 : Int32) (x5 : Int32) (x6 : Int32) (q : Pc4) (H : Heap) (locs : List Loc) (ls : Array Slot), moQ1_cutEnds_L32 n ρ K0 k x2 x3 x4 x5 x6 q = some o → va_P (DD G) vwCl (wF G a ρ T q) H → va_S A s.heap H locs → lv_has ls 9 [(0, .ref (a 9)), (2, .int x2), (3, .int x3), (4, .int x4), (5, .int x5), (6, .int x6)] → W p l e { frames := 2, cells := 0, slots := 0, locals := 43 } s m args below meth c H locs 0 0 Q (F0 m 32 ls []) := by
  obtain ⟨⟨hx, hb, hml, hown, hts⟩, hK, hr, hlk, hA, hAs, hSta⟩ := id X
  intro k
  induction k with
  | zero =>
    intro x2 x3 x4 x5 x6 q H locs ls hm
    have hm : none = some o := hm
    cases hm
  | succ k ih =>
    intro x2 x3 x4 x5 x6 q H locs ls hm hP hS hl
    rw [moQ1_cutEnds_L32] at hm
    refine lv_iload hx hb dX1_cutEnds_32 (lv_at hl 5 rfl) ?_
    refine lv_iload_n hx hb dX1_cutEnds_34 rfl (lv_at hl 1 rfl) ?_
    refine lv_icmp_gt (tgt := 128) hx hb dX1_cutEnds_35 (by decide) (fun c_3 => ?_) (fun c_3 => ?_)
    · have hm := (if_pos c_3).symm.trans hm
      exact h0 _ _ _ _ hm hP hS (lv_sub hl [] rfl)
    · have hm := (if_neg c_3).symm.trans hm
      refine lv_iload hx hb dX1_cutEnds_38 (lv_at hl 5 rfl) ?_
      refine lv_iload_n hx hb dX1_cutEnds_40 rfl (lv_at hl 2 rfl) ?_
      refine lv_icmp_lt (tgt := 51) hx hb dX1_cutEnds_41 (by decide) (fun c_4 => ?_) (fun c_4 => ?_)
      · have hm := (if_pos c_4).symm.trans hm
        refine lv_iconst (v := 1) hx hb dX1_cutEnds_51 (by decide) ?_
        refine lv_goto (tgt := 56) hx hb dX1_cutEnds_52 (by decide) ?_
        refine bkQ1_cutEnds_56 X hD (fun z21_2 z21_3 z21_4 z21_5 z21_6 q_21 H locs ls hm hP hS hl => ?_) hm hP hS (lv_sub hl [0, 1, 2, 3, 4, 5] rfl)
        exact ih _ _ _ _ _ _ _ _ _ hm hP hS (lv_sub hl [0, 1, 2, 3, 4, 5] rfl)
      · have hm := (if_neg c_4).symm.trans hm
        refine lv_iload hx hb dX1_cutEnds_44 (lv_at hl 5 rfl) ?_
        refine lv_iload hx hb dX1_cutEnds_46 (lv_at hl 3 rfl) ?_
        refine lv_icmp_le (tgt := 55) hx hb dX1_cutEnds_48 (by decide) (fun c_22 => ?_) (fun c_22 => ?_)
        · have hm := (if_pos c_22).symm.trans hm
          refine lv_iconst (v := 0) hx hb dX1_cutEnds_55 (by decide) ?_
          refine bkQ1_cutEnds_56 X hD (fun z23_2 z23_3 z23_4 z23_5 z23_6 q_23 H locs ls hm hP hS hl => ?_) hm hP hS (lv_sub hl [0, 1, 2, 3, 4, 5] rfl)
          exact ih _ _ _ _ _ _ _ _ _ hm hP hS (lv_sub hl [0, 1, 2, 3, 4, 5] rfl)
        · have hm := (if_neg c_22).symm.trans hm
          refine lv_iconst (v := 1) hx hb dX1_cutEnds_51 (by decide) ?_
          refine lv_goto (tgt := 56) hx hb dX1_cutEnds_52 (by decide) ?_
          refine bkQ1_cutEnds_56 X hD (fun z24_2 z24_3 z24_4 z24_5 z24_6 q_24 H locs ls hm hP hS hl => ?_) hm hP hS (lv_sub hl [0, 1, 2, 3, 4, 5] rfl)
          exact ih _ _ _ _ _ _ _ _ _ hm hP hS (lv_sub hl [0, 1, 2, 3, 4, 5] rfl)
set_option maxHeartbeats 4000000 in
set_option maxRecDepth 100000 in
theorem cQ1_cutEnds {l : Launch} {G : Ev} {a : Nat → Nat} {ρ : Nat} {T : va_W} {n : Nat} {q : Pc4} {x1 : Int32} {x2 : Int32} {q' : Pc4} (hm : moQ1_cutEnds n ρ x1 x2 q = some q') : CtV l G yX1_cutEnds cX1_cutEnds 9 none 2 43 0 0 [.ref (a 9), .int x1, .int x2] (wF G a ρ T q) (wF G a ρ T q') := by
  intro sz
  refine enter (by decide) (Nat.le_of_ble_eq_true rfl) ?_
  intro p e s m args below meth c ls X hsz hP hD hS hl
  subst hsz
  obtain ⟨⟨hx, hb, hml, hown, hts⟩, hK, hr, hlk, hA, hAs, hSta⟩ := id X
  have hl : lv_has ls 9 [(0, .ref (a 9)), (1, .int x1), (2, .int x2)] := hl
  unfold moQ1_cutEnds at hm
  refine lv_aload_n hx hb dX1_cutEnds_0 rfl (lv_at hl 0 rfl) ?_
  refine gC_filler_start X kw164 hP dX1_cutEnds_1 ?_
  obtain ⟨r_1, e_1, hm⟩ := bd1_s hm
  refine goT_i (n := 1) X (cQ0_monthOf e_1) (gSx kw521 kw318 kw2 kw319) (by decide +kernel) ⟨by decide, by decide⟩ va_nil va_dnil hS rfl rfl hl.1 (Nat.le_of_ble_eq_true rfl) dX1_cutEnds_4 ⟨Nat.le_refl _, Nat.le_refl _⟩ (fun H locs _ hk hS => ?_)
  have hP := va_keep hP hk
  refine lv_istore_n (lv' := [(3, .int r_1), (0, .ref (a 9)), (1, .int x1), (2, .int x2)]) hx hb dX1_cutEnds_7 rfl hl (by decide) rfl (fun ls hl => ?_)
  refine lv_aload_n hx hb dX1_cutEnds_8 rfl (lv_at hl 1 rfl) ?_
  refine gC_filler_rule X kw162 hP dX1_cutEnds_9 ?_
  refine gC_rule_until X kw83 hP dX1_cutEnds_12 ?_
  obtain ⟨r_2, e_2, hm⟩ := bd1_s hm
  refine goT_i (n := 1) X (cQ0_monthOf e_2) (gSx kw521 kw318 kw2 kw319) (by decide +kernel) ⟨by decide, by decide⟩ va_nil va_dnil hS rfl rfl hl.1 (Nat.le_of_ble_eq_true rfl) dX1_cutEnds_15 ⟨Nat.le_refl _, Nat.le_refl _⟩ (fun H locs _ hk hS => ?_)
  have hP := va_keep hP hk
  refine lv_istore (lv' := [(4, .int r_2), (3, .int r_1), (0, .ref (a 9)), (1, .int x1), (2, .int x2)]) hx hb dX1_cutEnds_18 hl (by decide) rfl (fun ls hl => ?_)
  refine lv_aload_n hx hb dX1_cutEnds_20 rfl (lv_at hl 2 rfl) ?_
  refine gC_filler_rule X kw162 hP dX1_cutEnds_21 ?_
  refine gC_rule_count X kw81 hP dX1_cutEnds_24 ?_
  refine lv_istore (lv' := [(5, .int (r4S q 4)), (4, .int r_2), (3, .int r_1), (0, .ref (a 9)), (1, .int x1), (2, .int x2)]) hx hb dX1_cutEnds_27 hl (by decide) rfl (fun ls hl => ?_)
  refine lv_iload_n hx hb dX1_cutEnds_29 rfl (lv_at hl 4 rfl) ?_
  refine lv_istore (lv' := [(6, .int x1), (5, .int (r4S q 4)), (4, .int r_2), (3, .int r_1), (0, .ref (a 9)), (1, .int x1), (2, .int x2)]) hx hb dX1_cutEnds_30 hl (by decide) rfl (fun ls hl => ?_)
  refine lpQ1_cutEnds_32 X hD (fun q_25 H locs ls hm hP hS hl => ?_) n _ _ _ _ _ _ _ _ _ hm hP hS (lv_sub hl [4, 6, 3, 2, 1, 0] rfl)
  exact ret_v (wf := wF G a ρ T) X hm hP hS dX1_cutEnds_128

-- RuledCalendar$Filler.fillRow
def moQ1_fillRow_L93 {α : Type} (n : Nat) (ρ : Nat) (K0 : Int32 → Int32 → Pc4 → Option α) : Nat → Int32 → Int32 → Int32 → Pc4 → Option α
  | 0, _, _, _, _ => none
  | k + 1, x3, x4, x5, q => (if x4 < x5 then (K0 x3 x4 q) else (bd1 (moQ1_countedDays n ρ x5 q) fun r_10 => (gi x5 3600 (moQ1_fillRow_L93 n ρ K0 k x3 x4 (x5 + 1) (s4A q 14 x5 r_10)))))
def moQ1_fillRow (n : Nat) (ρ : Nat) (x2 : Int32) (q : Pc4) : Option (Pc4) :=
  (bd1 (moQ0_monthOf n x2) fun r_1 => (bd1 (moQ0_numberOf n x2 (s4S (s4S (s4I q 1 ρ) 15 x2) 16 (maxI 1 (r4S (s4S (s4I q 1 ρ) 15 x2) 3)))) fun r_2 => (gl (r4I (s4S (s4S (s4I q 1 ρ) 15 x2) 16 (maxI 1 (r4S (s4S (s4I q 1 ρ) 15 x2) 3))) 2) 4 (bd1 (moQ2_periodOf n (r4I (s4S (s4S (s4I q 1 ρ) 15 x2) 16 (maxI 1 (r4S (s4S (s4I q 1 ρ) 15 x2) 3))) 2) r_1 r_2) fun r_3 => (bd1 (moQ0_monthOf n x2) fun r_5 => (bd1 (moQ0_januaryOf n r_5) fun r_6 => (bd1 (moQ0_monthOf n (r4S (s4S (s4S (s4S (s4I q 1 ρ) 15 x2) 16 (maxI 1 (r4S (s4S (s4I q 1 ρ) 15 x2) 3))) 17 r_3) 5)) fun r_7 => (bd1 (moQ0_januaryOf n r_7) fun r_8 => (moQ1_fillRow_L93 n ρ (fun z12_3 z12_4 q_12 => (bd1 (moQ5_has n 6 q_12) fun r_13 => (if r_13 = 0 then (bd1 (moQ1_cutEnds n ρ z12_3 z12_4 q_12) fun q_15 => (some q_15)) else (bd1 (moQ1_choosePlaces n ρ z12_3 z12_4 q_12) fun q_16 => (bd1 (moQ1_cutEnds n ρ z12_3 z12_4 q_16) fun q_17 => (some q_17)))))) n (maxI 0 (r_6 - 1)) (minI (3600 - 1) (r_8 + 12)) (maxI 0 (r_6 - 1)) (s4S (s4S (s4S (s4I q 1 ρ) 15 x2) 16 (maxI 1 (r4S (s4S (s4I q 1 ρ) 15 x2) 3))) 17 r_3))))))))))
set_option maxHeartbeats 4000000 in
set_option maxRecDepth 100000 in
theorem lpQ1_fillRow_93 {p : Program} {l : Launch} {e : Env} {s : State} {m : MethodId} {args : Array Value} {below : List Frame} {meth : Method} {c : Code} {G : Ev} {a : Nat → Nat} {ρ : Nat} {T : va_W} {Q : State → Prop} {A : Nat → Prop} {q0 : Pc4} (X : CX p s m args meth c cX1_fillRow 6 none RX1 (.code yX1_fillRow cX1_fillRow 6 none) G A) (hD : va_D A (wF G a ρ T q0)) {α : Type} {o : α} {n : Nat} {K0 : Int32 → Int32 → Pc4 → Option α} (h0 : ∀ (y3 : Int32) (y4 : Int32) (q : Pc4) (H : Heap) (locs : List Loc) (ls : Array Slot), K0 y3 y4 q = some o → va_P (DD G) vwCl (wF G a ρ T q) H → va_S A s.heap H locs → lv_has ls 6 [(0, .ref (a 9)), (3, .int y3), (4, .int y4)] → W p l e { frames := 5, cells := 0, slots := 0, locals := 119 } s m args below meth c H locs 0 0 Q (F0 m 116 ls [])) : ∀ (k : Nat) (x3 : Int32) (x4 : Int32) (x5 : Int32) (q : Pc4) (H : Heap) (locs : List Loc) (ls : Array Slot), moQ1_fillRow_L93 n ρ K0 k x3 x4 x5 q = some o → va_P (DD G) vwCl (wF G a ρ T q) H → va_S A s.heap H locs → lv_has ls 6 [(0, .ref (a 9)), (1, .ref (a ρ)), (3, .int x3), (4, .int x4), (5, .int x5)] → W p l e { frames := 5, cells := 0, slots := 0, locals := 119 } s m args below meth c H locs 0 0 Q (F0 m 93 ls []) := by
  obtain ⟨⟨hx, hb, hml, hown, hts⟩, hK, hr, hlk, hA, hAs, hSta⟩ := id X
  intro k
  induction k with
  | zero =>
    intro x3 x4 x5 q H locs ls hm
    have hm : none = some o := hm
    cases hm
  | succ k ih =>
    intro x3 x4 x5 q H locs ls hm hP hS hl
    rw [moQ1_fillRow_L93] at hm
    refine lv_iload hx hb dX1_fillRow_93 (lv_at hl 4 rfl) ?_
    refine lv_iload hx hb dX1_fillRow_95 (lv_at hl 3 rfl) ?_
    refine lv_icmp_gt (tgt := 116) hx hb dX1_fillRow_97 (by decide) (fun c_9 => ?_) (fun c_9 => ?_)
    · have hm := (if_pos c_9).symm.trans hm
      exact h0 _ _ _ _ _ _ hm hP hS (lv_sub hl [0, 2, 3] rfl)
    · have hm := (if_neg c_9).symm.trans hm
      refine lv_aload_n hx hb dX1_fillRow_100 rfl (lv_at hl 1 rfl) ?_
      refine lv_iload hx hb dX1_fillRow_101 (lv_at hl 4 rfl) ?_
      refine lv_aload_n hx hb dX1_fillRow_103 rfl (lv_at hl 0 rfl) ?_
      refine lv_iload hx hb dX1_fillRow_104 (lv_at hl 4 rfl) ?_
      obtain ⟨r_10, e_10, hm⟩ := bd1_s hm
      refine goV_i (n := 1) (C := RX1) X (cQ1_countedDays e_10) (gV kw541 kw543 ks_yX1_countedDays kw8 kw544) (by decide +kernel) ⟨by decide, by decide⟩ (rc_filler hK hP) hP (dF (q1 := q) hD) hS rfl rfl hl.1 (Nat.le_of_ble_eq_true rfl) dX1_fillRow_106 ⟨Nat.le_refl _, Nat.le_refl _⟩ (fun H locs hP _ hS => ?_)
      obtain ⟨hi_11, hm⟩ := gi_s hm
      refine stF_rowp X hP (dF (q1 := q) hD) hS hi_11 dX1_fillRow_109 (fun H locs hP hS => ?_)
      refine lv_iinc (v := (x5 + 1)) (lv' := [(5, .int (x5 + 1)), (0, .ref (a 9)), (1, .ref (a ρ)), (3, .int x3), (4, .int x4)]) hx hb dX1_fillRow_110 hl (k := 4) rfl (by first | rfl | decide) (by decide) rfl (fun ls hl => ?_)
      refine lv_goto (tgt := 93) hx hb dX1_fillRow_113 (by decide) ?_
      exact ih _ _ _ _ _ _ _ hm hP hS (lv_sub hl [1, 2, 3, 4, 0] rfl)
set_option maxHeartbeats 4000000 in
set_option maxRecDepth 100000 in
theorem cQ1_fillRow {l : Launch} {G : Ev} {a : Nat → Nat} {ρ : Nat} {T : va_W} {n : Nat} {q : Pc4} {x2 : Int32} {q' : Pc4} (hm : moQ1_fillRow n ρ x2 q = some q') : CtV l G yX1_fillRow cX1_fillRow 6 none 5 119 0 0 [.ref (a 9), .ref (a ρ), .int x2] (wF G a ρ T q) (wF G a ρ T q') := by
  intro sz
  refine enter (by decide) (Nat.le_of_ble_eq_true rfl) ?_
  intro p e s m args below meth c ls X hsz hP hD hS hl
  subst hsz
  obtain ⟨⟨hx, hb, hml, hown, hts⟩, hK, hr, hlk, hA, hAs, hSta⟩ := id X
  have hl : lv_has ls 6 [(0, .ref (a 9)), (1, .ref (a ρ)), (2, .int x2)] := hl
  unfold moQ1_fillRow at hm
  refine lv_aload_n hx hb dX1_fillRow_0 rfl (lv_at hl 0 rfl) ?_
  refine lv_aload_n hx hb dX1_fillRow_1 rfl (lv_at hl 1 rfl) ?_
  refine pC_filler_row (v := ρ) X kw163 hP (dF (q1 := q) hD) hS dX1_fillRow_2 (fun H locs hP hS => ?_)
  have hP : va_P (DD G) vwCl (wF G a ρ T (s4I q 1 ρ)) H := hP
  refine lv_aload_n hx hb dX1_fillRow_5 rfl (lv_at hl 0 rfl) ?_
  refine lv_iload_n hx hb dX1_fillRow_6 rfl (lv_at hl 2 rfl) ?_
  refine pC_filler_start X kw164 hP (dF (q1 := (s4I q 1 ρ)) hD) hS dX1_fillRow_7 (fun H locs hP hS => ?_)
  have hP : va_P (DD G) vwCl (wF G a ρ T (s4S (s4I q 1 ρ) 15 x2)) H := hP
  refine lv_aload_n hx hb dX1_fillRow_10 rfl (lv_at hl 0 rfl) ?_
  refine lv_iconst (v := 1) hx hb dX1_fillRow_11 (by decide) ?_
  refine lv_aload_n hx hb dX1_fillRow_12 rfl (lv_at hl 0 rfl) ?_
  refine gC_filler_rule X kw162 hP dX1_fillRow_13 ?_
  refine gC_rule_interval X kw79 hP dX1_fillRow_16 ?_
  refine va_mmax hx hb (by rw [hml]; exact hl.1.symm) hown (hts _ (List.mem_cons_of_mem _ kw518)) (hts _ (List.mem_cons_of_mem _ kw519)) (hts _ (List.mem_cons_of_mem _ kw14)) (hts _ (List.mem_cons_of_mem _ kMax)) (by decide) (Nat.le_of_ble_eq_true rfl) (Nat.le_refl _) (Nat.le_refl _) dX1_fillRow_19 ?_
  refine pC_filler_interval X kw165 hP (dF (q1 := (s4S (s4I q 1 ρ) 15 x2)) hD) hS dX1_fillRow_22 (fun H locs hP hS => ?_)
  have hP : va_P (DD G) vwCl (wF G a ρ T (s4S (s4S (s4I q 1 ρ) 15 x2) 16 (maxI 1 (r4S (s4S (s4I q 1 ρ) 15 x2) 3)))) H := hP
  refine lv_aload_n hx hb dX1_fillRow_25 rfl (lv_at hl 0 rfl) ?_
  refine lv_aload_n hx hb dX1_fillRow_26 rfl (lv_at hl 0 rfl) ?_
  refine gC_filler_rule X kw162 hP dX1_fillRow_27 ?_
  refine gC_rule_frequency X kw76 hP dX1_fillRow_30 ?_
  refine lv_iload_n hx hb dX1_fillRow_33 rfl (lv_at hl 2 rfl) ?_
  obtain ⟨r_1, e_1, hm⟩ := bd1_s hm
  refine goT_i (n := 1) X (cQ0_monthOf e_1) (gSx kw521 kw318 kw2 kw319) (by decide +kernel) ⟨by decide, by decide⟩ va_nil va_dnil hS rfl rfl hl.1 (Nat.le_of_ble_eq_true rfl) dX1_fillRow_34 ⟨Nat.le_refl _, Nat.le_refl _⟩ (fun H locs _ hk hS => ?_)
  have hP := va_keep hP hk
  refine lv_aload_n hx hb dX1_fillRow_37 rfl (lv_at hl 0 rfl) ?_
  refine gC_filler_days X kw161 hP dX1_fillRow_38 ?_
  refine lv_iload_n hx hb dX1_fillRow_41 rfl (lv_at hl 2 rfl) ?_
  obtain ⟨r_2, e_2, hm⟩ := bd1_s hm
  refine goV_i (n := 1) (C := RX0) X (cQ0_numberOf (T := ((a ρ, cRow G ((s4S (s4S (s4I q 1 ρ) 15 x2) 16 (maxI 1 (r4S (s4S (s4I q 1 ρ) 15 x2) 3))).2.1 14)) :: T)) e_2) (gV kw522 kw523 kw524 kw2 kw525) (by decide +kernel) ⟨by decide, by decide⟩ (rc_days hK hP) hP (show va_D _ (wC G a ((a ρ, cRow G ((s4S (s4S (s4I q 1 ρ) 15 x2) 16 (maxI 1 (r4S (s4S (s4I q 1 ρ) 15 x2) 3))).2.1 14)) :: T) (s4S (s4S (s4I q 1 ρ) 15 x2) 16 (maxI 1 (r4S (s4S (s4I q 1 ρ) 15 x2) 3)))) from (dF (q1 := (s4S (s4S (s4I q 1 ρ) 15 x2) 16 (maxI 1 (r4S (s4S (s4I q 1 ρ) 15 x2) 3)))) hD)) hS rfl rfl hl.1 (Nat.le_of_ble_eq_true rfl) dX1_fillRow_42 ⟨Nat.le_refl _, Nat.le_refl _⟩ (fun H locs hP _ hS => ?_)
  have hP : va_P (DD G) vwCl (wF G a ρ T (s4S (s4S (s4I q 1 ρ) 15 x2) 16 (maxI 1 (r4S (s4S (s4I q 1 ρ) 15 x2) 3)))) H := hP
  obtain ⟨hg_4, hm⟩ := gl_s hm
  obtain ⟨r_3, e_3, hm⟩ := bd1_s hm
  refine goV_i (n := 2) (C := RX2) X (cQ2_periodOf e_3) (gV kw529 kw530 kw531 kw5 kw532) (by decide +kernel) ⟨by decide, by decide⟩ (rcO (oF X hg_4) hS) va_nil va_dnil hS rfl rfl hl.1 (Nat.le_of_ble_eq_true rfl) dX1_fillRow_45 ⟨Nat.le_refl _, Nat.le_refl _⟩ (fun H locs _ hk hS => ?_)
  have hP := va_keep hP hk
  refine pC_filler_startPeriod X kw166 hP (dF (q1 := (s4S (s4S (s4I q 1 ρ) 15 x2) 16 (maxI 1 (r4S (s4S (s4I q 1 ρ) 15 x2) 3)))) hD) hS dX1_fillRow_48 (fun H locs hP hS => ?_)
  have hP : va_P (DD G) vwCl (wF G a ρ T (s4S (s4S (s4S (s4I q 1 ρ) 15 x2) 16 (maxI 1 (r4S (s4S (s4I q 1 ρ) 15 x2) 3))) 17 r_3)) H := hP
  refine lv_iconst (v := 0) hx hb dX1_fillRow_51 (by decide) ?_
  refine lv_iload_n hx hb dX1_fillRow_52 rfl (lv_at hl 2 rfl) ?_
  obtain ⟨r_5, e_5, hm⟩ := bd1_s hm
  refine goT_i (n := 1) X (cQ0_monthOf e_5) (gSx kw521 kw318 kw2 kw319) (by decide +kernel) ⟨by decide, by decide⟩ va_nil va_dnil hS rfl rfl hl.1 (Nat.le_of_ble_eq_true rfl) dX1_fillRow_53 ⟨Nat.le_refl _, Nat.le_refl _⟩ (fun H locs _ hk hS => ?_)
  have hP := va_keep hP hk
  obtain ⟨r_6, e_6, hm⟩ := bd1_s hm
  refine goT_i (n := 1) X (cQ0_januaryOf e_6) (gSx kw537 kw538 kw2 kw539) (by decide +kernel) ⟨by decide, by decide⟩ va_nil va_dnil hS rfl rfl hl.1 (Nat.le_of_ble_eq_true rfl) dX1_fillRow_56 ⟨Nat.le_refl _, Nat.le_refl _⟩ (fun H locs _ hk hS => ?_)
  have hP := va_keep hP hk
  refine lv_iconst (v := 1) hx hb dX1_fillRow_59 (by decide) ?_
  refine lv_isub hx hb dX1_fillRow_60 ?_
  refine va_mmax hx hb (by rw [hml]; exact hl.1.symm) hown (hts _ (List.mem_cons_of_mem _ kw518)) (hts _ (List.mem_cons_of_mem _ kw519)) (hts _ (List.mem_cons_of_mem _ kw14)) (hts _ (List.mem_cons_of_mem _ kMax)) (by decide) (Nat.le_of_ble_eq_true rfl) (Nat.le_refl _) (Nat.le_refl _) dX1_fillRow_61 ?_
  refine lv_istore_n (lv' := [(3, .int (maxI 0 (r_6 - 1))), (0, .ref (a 9)), (1, .ref (a ρ)), (2, .int x2)]) hx hb dX1_fillRow_64 rfl hl (by decide) rfl (fun ls hl => ?_)
  refine lv_aload_n hx hb dX1_fillRow_65 rfl (lv_at hl 2 rfl) ?_
  refine leF_row X hP dX1_fillRow_66 ?_
  refine lv_iconst (v := 1) hx hb dX1_fillRow_67 (by decide) ?_
  refine lv_isub hx hb dX1_fillRow_68 ?_
  refine lv_aload_n hx hb dX1_fillRow_69 rfl (lv_at hl 1 rfl) ?_
  refine gC_filler_rule X kw162 hP dX1_fillRow_70 ?_
  refine gC_rule_until X kw83 hP dX1_fillRow_73 ?_
  obtain ⟨r_7, e_7, hm⟩ := bd1_s hm
  refine goT_i (n := 1) X (cQ0_monthOf e_7) (gSx kw521 kw318 kw2 kw319) (by decide +kernel) ⟨by decide, by decide⟩ va_nil va_dnil hS rfl rfl hl.1 (Nat.le_of_ble_eq_true rfl) dX1_fillRow_76 ⟨Nat.le_refl _, Nat.le_refl _⟩ (fun H locs _ hk hS => ?_)
  have hP := va_keep hP hk
  obtain ⟨r_8, e_8, hm⟩ := bd1_s hm
  refine goT_i (n := 1) X (cQ0_januaryOf e_8) (gSx kw537 kw538 kw2 kw539) (by decide +kernel) ⟨by decide, by decide⟩ va_nil va_dnil hS rfl rfl hl.1 (Nat.le_of_ble_eq_true rfl) dX1_fillRow_79 ⟨Nat.le_refl _, Nat.le_refl _⟩ (fun H locs _ hk hS => ?_)
  have hP := va_keep hP hk
  refine lv_bipush (v := 12) hx hb dX1_fillRow_82 (by decide) ?_
  refine lv_iadd hx hb dX1_fillRow_84 ?_
  refine va_mmin hx hb (by rw [hml]; exact hl.1.symm) hown (hts _ (List.mem_cons_of_mem _ kw540)) (hts _ (List.mem_cons_of_mem _ kw329)) (hts _ (List.mem_cons_of_mem _ kw14)) (hts _ (List.mem_cons_of_mem _ kMin)) (by decide) (Nat.le_of_ble_eq_true rfl) (Nat.le_refl _) (Nat.le_refl _) dX1_fillRow_85 ?_
  refine lv_istore (lv' := [(4, .int (minI (3600 - 1) (r_8 + 12))), (3, .int (maxI 0 (r_6 - 1))), (0, .ref (a 9)), (1, .ref (a ρ)), (2, .int x2)]) hx hb dX1_fillRow_88 hl (by decide) rfl (fun ls hl => ?_)
  refine lv_iload_n hx hb dX1_fillRow_90 rfl (lv_at hl 1 rfl) ?_
  refine lv_istore (lv' := [(5, .int (maxI 0 (r_6 - 1))), (4, .int (minI (3600 - 1) (r_8 + 12))), (3, .int (maxI 0 (r_6 - 1))), (0, .ref (a 9)), (1, .ref (a ρ)), (2, .int x2)]) hx hb dX1_fillRow_91 hl (by decide) rfl (fun ls hl => ?_)
  refine lpQ1_fillRow_93 X hD (fun z12_3 z12_4 q_12 H locs ls hm hP hS hl => ?_) n _ _ _ _ _ _ _ hm hP hS (lv_sub hl [3, 4, 2, 1, 0] rfl)
  refine lv_aload_n hx hb dX1_fillRow_116 rfl (lv_at hl 0 rfl) ?_
  refine gC_filler_rule X kw162 hP dX1_fillRow_117 ?_
  refine va_gets hx hb (zP_BYSETPOS X) hS hown (hts _ (List.mem_cons_of_mem _ kw584)) (fun _ h => h) dX1_fillRow_120 ?_
  obtain ⟨r_13, e_13, hm⟩ := bd1_s hm
  refine goV_i (n := 1) (C := RX5) X (cQ5_has (T := ((a ρ, cRow G (q_12.2.1 14)) :: T)) e_13) (gV kw558 kw407 kw408 kw3 kw409) (by decide +kernel) ⟨by decide, by decide⟩ (rc_rule hK hP) hP (show va_D _ (wC G a ((a ρ, cRow G (q_12.2.1 14)) :: T) q_12) from (dF (q1 := q_12) hD)) hS rfl rfl hl.1 (Nat.le_of_ble_eq_true rfl) dX1_fillRow_123 ⟨Nat.le_refl _, Nat.le_refl _⟩ (fun H locs hP _ hS => ?_)
  have hP : va_P (DD G) vwCl (wF G a ρ T q_12) H := hP
  refine lv_if_eq (tgt := 136) hx hb dX1_fillRow_126 (by decide) (fun c_14 => ?_) (fun c_14 => ?_)
  · have hm := (if_pos c_14).symm.trans hm
    refine lv_aload_n hx hb dX1_fillRow_136 rfl (lv_at hl 0 rfl) ?_
    refine lv_iload_n hx hb dX1_fillRow_137 rfl (lv_at hl 1 rfl) ?_
    refine lv_iload hx hb dX1_fillRow_138 (lv_at hl 2 rfl) ?_
    obtain ⟨q_15, e_15, hm⟩ := bd1_s hm
    refine goV_v (n := 2) (C := RX1) X (cQ1_cutEnds e_15) (gV kw611 kw613 ks_yX1_cutEnds kw8 kw614) (by decide +kernel) ⟨by decide, by decide⟩ (rc_filler hK hP) hP (dF (q1 := q_12) hD) hS rfl rfl hl.1 (Nat.le_of_ble_eq_true rfl) dX1_fillRow_140 ⟨Nat.le_refl _, Nat.le_refl _⟩ (fun H locs hP _ hS => ?_)
    exact ret_v (wf := wF G a ρ T) X hm hP hS dX1_fillRow_143
  · have hm := (if_neg c_14).symm.trans hm
    refine lv_aload_n hx hb dX1_fillRow_129 rfl (lv_at hl 0 rfl) ?_
    refine lv_iload_n hx hb dX1_fillRow_130 rfl (lv_at hl 1 rfl) ?_
    refine lv_iload hx hb dX1_fillRow_131 (lv_at hl 2 rfl) ?_
    obtain ⟨q_16, e_16, hm⟩ := bd1_s hm
    refine goV_v (n := 2) (C := RX1) X (cQ1_choosePlaces e_16) (gV kw585 kw587 ks_yX1_choosePlaces kw8 kw588) (by decide +kernel) ⟨by decide, by decide⟩ (rc_filler hK hP) hP (dF (q1 := q_12) hD) hS rfl rfl hl.1 (Nat.le_of_ble_eq_true rfl) dX1_fillRow_133 ⟨Nat.le_refl _, Nat.le_refl _⟩ (fun H locs hP _ hS => ?_)
    refine lv_aload_n hx hb dX1_fillRow_136 rfl (lv_at hl 0 rfl) ?_
    refine lv_iload_n hx hb dX1_fillRow_137 rfl (lv_at hl 1 rfl) ?_
    refine lv_iload hx hb dX1_fillRow_138 (lv_at hl 2 rfl) ?_
    obtain ⟨q_17, e_17, hm⟩ := bd1_s hm
    refine goV_v (n := 2) (C := RX1) X (cQ1_cutEnds e_17) (gV kw611 kw613 ks_yX1_cutEnds kw8 kw614) (by decide +kernel) ⟨by decide, by decide⟩ (rc_filler hK hP) hP (dF (q1 := q_16) hD) hS rfl rfl hl.1 (Nat.le_of_ble_eq_true rfl) dX1_fillRow_140 ⟨Nat.le_refl _, Nat.le_refl _⟩ (fun H locs hP _ hS => ?_)
    exact ret_v (wf := wF G a ρ T) X hm hP hS dX1_fillRow_143
