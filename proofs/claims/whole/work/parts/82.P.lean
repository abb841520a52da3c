/-! Pure: reading a rule: values. -/
theorem neg_i {c : Nat} (h : c < 2 ^ 31) : (-(nI c)).toInt = -(c : Int) := by
  rw [Int32.toInt_neg, nI_toInt h, Int.bmod_def]
  split <;> omega
theorem neg_l {c : Nat} (h : c < 2 ^ 31) : (-(lN c)).toInt = -(c : Int) := by
  rw [Int64.toInt_neg, lN_toInt h, Int.bmod_def]
  split <;> omega
theorem B177_r {n : Nat} {x1 x2 w : Int32} {t : Int64} {q : Pc3} (h : q.1 5 = 0) : moM_number_B177 n x1 x2 w t q = some (t.toInt32, if x1.toInt ≤ t.toInt ∧ t.toInt ≤ x2.toInt ∧ (x1.toInt < 0 → t.toInt ≠ 0) then q else flM q 2 w) := by
  unfold moM_number_B177
  rw [fail_r0 h, b1]
  have e1 : (lg_cmp t x1.toInt64 < 0) ↔ t.toInt < x1.toInt := by rw [lg_cmp_lt, Int64.lt_iff_toInt_lt, Int32.toInt_toInt64]
  have e2 : (0 < lg_cmp t x2.toInt64) ↔ x2.toInt < t.toInt := by rw [lg_cmp_gt, Int64.lt_iff_toInt_lt, Int32.toInt_toInt64]
  have e3 : ((0 : Int32) ≤ x1) ↔ 0 ≤ x1.toInt := by rw [Int32.le_iff_toInt_le]; exact Iff.rfl
  have e4 : (lg_cmp t 0 = 0) ↔ t.toInt = 0 := by rw [lg_cmp_eq, ← Int64.toInt_inj]; exact Iff.rfl
  by_cases c1 : t.toInt < x1.toInt
  · rw [if_pos (e1.mpr c1), if_neg (fun w => by omega)]
  · rw [if_neg (fun w => c1 (e1.mp w))]
    by_cases c2 : x2.toInt < t.toInt
    · rw [if_pos (e2.mpr c2), if_neg (fun w => by omega)]
    · rw [if_neg (fun w => c2 (e2.mp w))]
      by_cases c3 : 0 ≤ x1.toInt
      · rw [if_pos (e3.mpr c3), if_pos ⟨by omega, by omega, fun w => by omega⟩]
      · rw [if_neg (fun w => c3 (e3.mp w))]
        by_cases c4 : t.toInt = 0
        · rw [if_pos (e4.mpr c4), if_neg (fun w => w.2.2 (by omega) c4)]
        · rw [if_neg (fun w => c4 (e4.mp w)), if_pos ⟨by omega, by omega, fun _ => c4⟩]
theorem lo_b : ∀ k, k < 8 → k ≠ 0 → k ≠ 3 → -999 ≤ (plow k).toInt ∧ (phig k).toInt ≤ 999 ∧ (plow k).toInt ≠ 0 := by decide +kernel
theorem number_rc {n k p sz : Nat} {tx : Nat → Nat} {qm : Pc3} {q : Pc4} (hn : 200000 ≤ n) (hk : k < 8) (hk0 : k ≠ 0) (hk3 : k ≠ 3) (h : RS tx sz qm q p) : ∃ r r' qm' q', moM_number n (plow k) (phig k) qm = some (r', qm') ∧ moQ4_readNumber n k q = some (r, q') ∧ ((∃ p', p < p' ∧ p' ≤ sz ∧ qm' = sS qm 7 (nI p') ∧ q' = s4S q 12 (nI p') ∧ r = r' ∧ plow k ≤ r ∧ r ≤ phig k ∧ r ≠ 0) ∨ (∃ p' u kf w, ¬ kf ≤ (0 : Int32) ∧ p' ≤ sz ∧ q' = flQ (s4S q 12 (nI p')) kf w ∧ qm' = flM (sS qm 7 u) kf w)) := by
  obtain ⟨hQ, hM, h13, h5, h6, hT, hD⟩ := h
  have hs := hQ.1
  obtain ⟨l1, l2, l3⟩ := lo_b k hk hk0 hk3
  obtain ⟨p1, D, neg, g1, g2, g3, g4, gc, gr0, gr1⟩ := num_core (n := n) (x1 := plow k) (x2 := phig k) hn hk Iff.rfl hQ hM h5
  obtain ⟨c0, c1⟩ := num_cls (n := n) (p := p) (p1 := p1) (D := D) (sz := sz) (v := nI (min (dg tx p1 D) 100000000)) (neg := neg) hk h13 (by omega)
  rcases Nat.eq_zero_or_pos D with e | e
  · obtain ⟨r, er⟩ := c0 e
    rw [gc, er, gr0 e]
    exact ⟨_, _, _, _, rfl, rfl, Or.inr ⟨p1, _, _, _, by decide, by omega, rfl, rfl⟩⟩
  · rw [gc, c1 e, gr1 e, B177_r (show (sS qm 7 (nI (p1 + D))).1 5 = 0 from h5)]
    generalize dg tx p1 D = E at *
    have lo : (0 : Int32) ≤ plow k ↔ 0 ≤ (plow k).toInt := by rw [Int32.le_iff_toInt_le]; exact Iff.rfl
    have vT : (if neg = true then -(nI (min E 100000000)) else nI (min E 100000000)).toInt = if neg = true then -((min E 100000000 : Nat) : Int) else ((min E 100000000 : Nat) : Int) := by
      cases neg with
      | true => exact neg_i (by omega)
      | false => exact nI_toInt (by omega)
    have tT : (if neg = true then -(lN (min E 99999999)) else lN (min E 99999999)).toInt = if neg = true then -((min E 99999999 : Nat) : Int) else ((min E 99999999 : Nat) : Int) := by
      cases neg with
      | true => exact neg_l (by omega)
      | false => exact lN_toInt (by omega)
    have okc : (plow k ≤ (if neg = true then -(nI (min E 100000000)) else nI (min E 100000000)) ∧ (if neg = true then -(nI (min E 100000000)) else nI (min E 100000000)) ≤ phig k ∧ (if neg = true then -(nI (min E 100000000)) else nI (min E 100000000)) ≠ 0) ↔ ((plow k).toInt ≤ (if neg = true then -((min E 100000000 : Nat) : Int) else ((min E 100000000 : Nat) : Int)) ∧ (if neg = true then -((min E 100000000 : Nat) : Int) else ((min E 100000000 : Nat) : Int)) ≤ (phig k).toInt ∧ (if neg = true then -((min E 100000000 : Nat) : Int) else ((min E 100000000 : Nat) : Int)) ≠ 0) := by
      rw [Int32.le_iff_toInt_le, Int32.le_iff_toInt_le, vT, Ne, Ne, ← Int32.toInt_inj, vT]
      exact Iff.rfl
    rw [tT]
    have bb : ∀ b : Bool, b = true ∨ b = false := by decide
    have fV : ((if neg = true then -((min E 99999999 : Nat) : Int) else ((min E 99999999 : Nat) : Int)).natAbs ≤ 999 ∨ (if neg = true then -((min E 100000000 : Nat) : Int) else ((min E 100000000 : Nat) : Int)).natAbs ≤ 999) → E ≤ 999 := by
      rcases bb neg with b | b <;> subst b
      · rw [if_pos rfl, if_pos rfl]; omega
      · rw [if_neg (by decide), if_neg (by decide)]; omega
    have fE : E ≤ 999 → (if neg = true then -((min E 99999999 : Nat) : Int) else ((min E 99999999 : Nat) : Int)) = (if neg = true then -((min E 100000000 : Nat) : Int) else ((min E 100000000 : Nat) : Int)) := fun g => by rw [show min E 99999999 = min E 100000000 by omega]
    have fR : E ≤ 999 → (if neg = true then -(nI (min E 100000000)) else nI (min E 100000000)) = (if neg = true then -(lN (min E 99999999)) else lN (min E 99999999)).toInt32 := fun g => by
      rcases bb neg with b | b <;> subst b
      · rw [if_pos rfl, if_pos rfl, Int64.toInt32_neg, lN_i, show min E 99999999 = min E 100000000 by omega]
      · rw [if_neg (by decide), if_neg (by decide), lN_i, show min E 99999999 = min E 100000000 by omega]
    generalize (if neg = true then -(nI (min E 100000000)) else nI (min E 100000000)) = v at *
    generalize (if neg = true then -(lN (min E 99999999)) else lN (min E 99999999)) = t at *
    generalize (if neg = true then -((min E 100000000 : Nat) : Int) else ((min E 100000000 : Nat) : Int)) = V at *
    generalize (if neg = true then -((min E 99999999 : Nat) : Int) else ((min E 99999999 : Nat) : Int)) = T at *
    by_cases c : plow k ≤ v ∧ v ≤ phig k ∧ v ≠ 0
    · have c' := okc.mp c
      have hE := fV (Or.inr (by omega))
      have eT := fE hE
      rw [if_pos c, if_pos (show (plow k).toInt ≤ T ∧ T ≤ (phig k).toInt ∧ ((plow k).toInt < 0 → T ≠ 0) by omega)]
      exact ⟨_, _, _, _, rfl, rfl, Or.inl ⟨p1 + D, by omega, g2, rfl, rfl, fR hE, c⟩⟩
    · rw [if_neg c, if_neg (show ¬ ((plow k).toInt ≤ T ∧ T ≤ (phig k).toInt ∧ ((plow k).toInt < 0 → T ≠ 0)) from fun w => c (okc.mpr (by
        have hE := fV (Or.inl (by omega))
        have eT := fE hE
        omega)))]
      exact ⟨_, _, _, _, rfl, rfl, Or.inr ⟨p1 + D, _, _, _, by decide, g2, rfl, rfl⟩⟩
def Res (tx : Nat → Nat) (sz : Nat) (qm : Pc3) (q : Pc4) (p : Nat) (om : Option Pc3) (oq : Option Pc4) : Prop := ∃ qm' q', om = some qm' ∧ oq = some q' ∧ FM qm qm' ∧ FQ q q' ∧ ((∃ p', p < p' ∧ RS tx sz qm' q' p') ∨ FS tx sz qm' q')
theorem RS.at {tx : Nat → Nat} {sz p p' : Nat} {qm : Pc3} {q : Pc4} (h : RS tx sz qm q p) (hp : p' ≤ sz) : RS tx sz (sS qm 7 (nI p')) (s4S q 12 (nI p')) p' := ⟨h.1.at hp, h.2.1.at, h.2.2.1, h.2.2.2.1, h.2.2.2.2.1, h.2.2.2.2.2.1, h.2.2.2.2.2.2⟩
theorem RS.up {tx : Nat → Nat} {sz p : Nat} {qm qm' : Pc3} {q q' : Pc4} (h : RS tx sz qm q p) (hm : FM qm qm') (hq : FQ q q') (e12 : q'.1 12 = q.1 12) (e7 : qm'.1 7 = qm.1 7) (e13 : q'.1 13 = q.1 13) (e5 : qm'.1 5 = qm.1 5) (e14 : q'.1 14 = q.1 14) (e6 : qm'.1 6 = qm.1 6) (hT : RT qm' q') : RS tx sz qm' q' p := ⟨h.1.fr hq (e12.trans h.1.2.2.2.2.2.1) h.1.2.2.2.2.2.2, h.2.1.fr hm (e7.trans h.2.1.2.2.2.2), e13.trans h.2.2.1, e5.trans h.2.2.2.1, e14.trans (h.2.2.2.2.1.trans e6.symm), hT, by
  unfold Dts
  rw [hm.2.1 1 (by decide)]
  exact h.2.2.2.2.2.2⟩
theorem RS.i4 {tx : Nat → Nat} {sz p : Nat} {qm : Pc3} {q : Pc4} (h : RS tx sz qm q p) : q.2.2.2 2 < 4 := h.2.2.2.2.2.1.2.1.1
-- what a value adds
theorem nb1 : vp_nar .boolean 1 = 1 ∧ vp_nar .boolean 0 = 0 ∧ vp_nar .byte 1 = 1 ∧ vp_nar .byte 0 = 0 := by decide +kernel
theorem ok_n {k : Nat} {r : Int32} (hk : k < 8) (hk0 : k ≠ 0) (hk3 : k ≠ 3) (h1 : plow k ≤ r) (h2 : r ≤ phig k) (h3 : r ≠ 0) : ∃ e, 1 ≤ e ∧ e ≤ 999 ∧ (r = nI e ∧ (e : Int) ≤ (phig k).toInt ∧ (plow k).toInt ≤ e ∨ r = -(nI e) ∧ (plow k).toInt ≤ -(e : Int)) := by
  obtain ⟨l1, l2, l3⟩ := lo_b k hk hk0 hk3
  rw [Int32.le_iff_toInt_le] at h1 h2
  have h3 : r.toInt ≠ 0 := fun e => h3 (Int32.toInt_inj.mp (by rw [e]; rfl))
  rcases Int.lt_or_le r.toInt 0 with c | c
  · refine ⟨(-r.toInt).toNat, by omega, by omega, Or.inr ⟨Int32.toInt_inj.mp ?_, by omega⟩⟩
    rw [neg_i (by omega)]; omega
  · refine ⟨r.toInt.toNat, by omega, by omega, Or.inl ⟨Int32.toInt_inj.mp ?_, by omega, by omega⟩⟩
    rw [nI_toInt (by omega)]; omega
theorem or_bt {x : Int32} {v i : Nat} (hv : v < 32) (hi : i < 32) : bt (x ||| slI 1 (nI v)) i = (bt x i || decide (i = v)) := by rw [b_or, bt_sl1 hv hi]
theorem or_ne {x : Int32} {v : Nat} (hv : v < 32) : ¬ (x ||| slI 1 (nI v)) = 0 := fun e => by
  have := (bt_zero _).mp e v hv
  rw [or_bt hv hv, decide_eq_true rfl, Bool.or_true] at this
  cases this
theorem set_iff {f : Nat → Int32} {i j : Nat} {b : Bool} (h : f i = 0 ↔ b = false) : (upd f j 1 i = 0 ↔ (b || decide (i = j)) = false) := by
  by_cases c : i = j
  · subst c
    rw [upd_self, decide_eq_true rfl, Bool.or_true]
    exact ⟨fun e => absurd e (by decide), fun e => by cases e⟩
  · rw [upd_ne c, decide_eq_false c, Bool.or_false]; exact h
theorem add_month {qm : Pc3} {q : Pc4} {e : Nat} (h : RT qm q) (h1 : 1 ≤ e) (h2 : e ≤ 12) : RT (sA qm 13 (nI e) 1) (s4S q 6 (q.1 6 ||| slI 1 (nI e))) := by
  obtain ⟨r1, r2, r3, r4, r5, r6, r7, r8, r9, r10⟩ := h
  refine ⟨r1, r2, r3, r4, r5, fun v v1 v2 => ?_, r7, r8, r9, r10⟩
  rw [sA_k (by omega)]
  show _ ↔ bt (q.1 6 ||| slI 1 (nI e)) v = false
  rw [or_bt (by omega) (by omega)]
  exact set_iff (r6 v v1 v2)
theorem add_dayP {qm : Pc3} {q : Pc4} {e : Nat} (h : RT qm q) (h1 : 1 ≤ e) (h2 : e ≤ 31) : RT (sA qm 14 (nI (31 + e)) 1) (s4S q 7 (q.1 7 ||| slI 1 (nI (e - 1)))) := by
  obtain ⟨r1, r2, r3, r4, r5, r6, r7, r8, r9, r10⟩ := h
  refine ⟨r1, r2, r3, r4, r5, r6, fun v v1 v2 => ?_, r8, r9, r10⟩
  rw [sA_k (by omega)]
  obtain ⟨s1, s2⟩ := r7 v v1 v2
  constructor
  · show _ ↔ bt (q.1 7 ||| slI 1 (nI (e - 1))) (v - 1) = false
    rw [or_bt (by omega) (by omega), show decide (v - 1 = e - 1) = decide (31 + v = 31 + e) from decide_eq_decide.mpr ⟨fun g => by omega, fun g => by omega⟩]
    exact set_iff s1
  · rw [upd_ne (by omega)]; exact s2
theorem add_dayN {qm : Pc3} {q : Pc4} {e : Nat} (h : RT qm q) (h1 : 1 ≤ e) (h2 : e ≤ 31) : RT (sA qm 14 (nI (31 - e)) 1) (s4S q 8 (q.1 8 ||| slI 1 (nI (31 - e)))) := by
  obtain ⟨r1, r2, r3, r4, r5, r6, r7, r8, r9, r10⟩ := h
  refine ⟨r1, r2, r3, r4, r5, r6, fun v v1 v2 => ?_, r8, r9, r10⟩
  rw [sA_k (by omega)]
  obtain ⟨s1, s2⟩ := r7 v v1 v2
  constructor
  · rw [upd_ne (by omega)]; exact s1
  · show _ ↔ bt (q.1 8 ||| slI 1 (nI (31 - e))) (31 - v) = false
    rw [or_bt (by omega) (by omega)]
    exact set_iff s2
theorem add_place {qm : Pc3} {q : Pc4} {i : Nat} (h : RT qm q) (hi : i < 733) : RT (sA qm 15 (nI i) 1) (s4A q 7 (nI i) 1) := by
  obtain ⟨r1, r2, r3, r4, r5, r6, r7, r8, r9, r10⟩ := h
  refine ⟨r1, r2, r3, r4, r5, r6, r7, fun v v1 => ?_, r9, r10⟩
  rw [sA_k (by omega), s4A_k (by omega)]
  by_cases c : v = i
  · subst c; rw [upd_self, upd_self]
  · rw [upd_ne c, upd_ne c]; exact r8 v v1
theorem bL_or (x y : Int64) (i : Nat) : bL (x ||| y) i = (bL x i || bL y i) := by unfold bL; rw [Int64.toBitVec_or, BitVec.getLsbD_or]
theorem bL_sl : ∀ e, e < 54 → ∀ i, i < 54 → bL (slL 1 (nI e)) i = decide (i = e) := by decide +kernel
theorem add_wd0 {qm : Pc3} {q : Pc4} {w : Nat} (h : RT qm q) (hw : w < 7) : RT (sA qm 16 (nI (107 * w + 53)) 1) (s4S q 9 (q.1 9 ||| slI 1 (nI w))) := by
  obtain ⟨r1, r2, r3, r4, r5, r6, r7, r8, r9, r10⟩ := h
  refine ⟨r1, r2, r3, r4, r5, r6, r7, r8, fun u hu => ?_, r10.1, fun i h7 h32 => by
    show bt (q.1 9 ||| slI 1 (nI w)) i = false
    rw [or_bt (by omega) h32, r10.2 i h7 h32, decide_eq_false (by omega)]; rfl⟩
  rw [sA_k (by omega)]
  obtain ⟨s1, s2⟩ := r9 u hu
  refine ⟨?_, fun v v1 v2 => ?_⟩
  · show _ ↔ bt (q.1 9 ||| slI 1 (nI w)) u = false
    rw [or_bt (by omega) (by omega), show decide (u = w) = decide (107 * u + 53 = 107 * w + 53) from decide_eq_decide.mpr ⟨fun g => by omega, fun g => by omega⟩]
    exact set_iff s1
  · rw [upd_ne (by omega), upd_ne (by omega)]; exact s2 v v1 v2
theorem s4L_k {q : Pc4} {k i : Nat} {v : Int64} (h : i < 2 ^ 31) : (s4L q k (nI i) v).2.2.1 k = vp_updL (q.2.2.1 k) i v := by
  have e : (s4L q k (nI i) v).2.2.1 k = vp_updL (q.2.2.1 k) (nI i).toNatClampNeg v := va_up_self q.2.2.1 k _
  rw [e, nI_clamp h]
theorem s4L_ne {q : Pc4} {k j : Nat} {i : Int32} {v : Int64} (h : j ≠ k) : (s4L q k i v).2.2.1 j = q.2.2.1 j := va_up_ne q.2.2.1 _ h
theorem updL_self {f : Nat → Int64} {k : Nat} {v : Int64} : vp_updL f k v k = v := if_pos rfl
theorem updL_ne {f : Nat → Int64} {k j : Nat} {v : Int64} (h : j ≠ k) : vp_updL f k v j = f j := if_neg h
theorem add_wdP {qm : Pc3} {q : Pc4} {w e : Nat} (h : RT qm q) (hw : w < 7) (h1 : 1 ≤ e) (h2 : e ≤ 53) : RT (sA (sS qm 17 1) 16 (nI (107 * w + 53 + e)) 1) (s4L (s4S q 10 (q.1 10 ||| slI 1 (nI w))) 5 (nI w) (q.2.2.1 5 w ||| slL 1 (nI e))) := by
  obtain ⟨r1, r2, r3, r4, r5, r6, r7, r8, r9, r10⟩ := h
  refine ⟨r1, r2, r3, r4, r5, r6, r7, r8, fun u hu => ?_, ⟨⟨fun g => absurd g (by decide : ¬ (1 : Int32) = 0), fun g => absurd g (or_ne (by omega))⟩, r10.2⟩⟩
  obtain ⟨s1, s2⟩ := r9 u hu
  rw [sA_k (by omega), s4L_k (by omega), s4L_ne (by decide)]
  refine ⟨?_, fun v v1 v2 => ?_⟩
  · rw [upd_ne (by omega)]; exact s1
  · obtain ⟨t1, t2⟩ := s2 v v1 v2
    constructor
    · by_cases c : u = w
      · subst c
        rw [updL_self, bL_or, bL_sl e (by omega) v (by omega), show decide (v = e) = decide (107 * u + 53 + v = 107 * u + 53 + e) from decide_eq_decide.mpr ⟨fun g => by omega, fun g => by omega⟩]
        exact set_iff t1
      · rw [updL_ne c, upd_ne (by omega)]; exact t1
    · rw [upd_ne (by omega)]; exact t2
theorem add_wdN {qm : Pc3} {q : Pc4} {w e : Nat} (h : RT qm q) (hw : w < 7) (h1 : 1 ≤ e) (h2 : e ≤ 53) : RT (sA (sS qm 17 1) 16 (nI (107 * w + 53 - e)) 1) (s4L (s4S q 10 (q.1 10 ||| slI 1 (nI w))) 6 (nI w) (q.2.2.1 6 w ||| slL 1 (nI e))) := by
  obtain ⟨r1, r2, r3, r4, r5, r6, r7, r8, r9, r10⟩ := h
  refine ⟨r1, r2, r3, r4, r5, r6, r7, r8, fun u hu => ?_, ⟨⟨fun g => absurd g (by decide : ¬ (1 : Int32) = 0), fun g => absurd g (or_ne (by omega))⟩, r10.2⟩⟩
  obtain ⟨s1, s2⟩ := r9 u hu
  rw [sA_k (by omega), s4L_k (by omega), s4L_ne (by decide)]
  refine ⟨?_, fun v v1 v2 => ?_⟩
  · rw [upd_ne (by omega)]; exact s1
  · obtain ⟨t1, t2⟩ := s2 v v1 v2
    constructor
    · rw [upd_ne (by omega)]; exact t1
    · by_cases c : u = w
      · subst c
        rw [updL_self, bL_or, bL_sl e (by omega) v (by omega), show decide (v = e) = decide (107 * u + 53 - v = 107 * u + 53 - e) from decide_eq_decide.mpr ⟨fun g => by omega, fun g => by omega⟩]
        exact set_iff t2
      · rw [updL_ne c, upd_ne (by omega)]; exact t2
