/-! Pure: reading a rule: weekdays, lists, frequencies. -/
theorem add2 {p : Nat} : nI p + (2 : Int32) = nI (p + 2) := nI_add p 2
theorem nI_m1 {w : Nat} (h : w < 2 ^ 31) : ¬ nI w = (-1 : Int32) := fun e => absurd (show nI w < 0 from e ▸ (by decide : (-1 : Int32) < 0)) (nI_pos h)
theorem day_idle {n p sz : Nat} {r : Int32} {tx : Nat → Nat} {q : Pc4} (hn : 200000 ≤ n) (h : CQ tx sz q p) (h13 : ¬ q.1 13 = 0) : ∃ p', p' ≤ sz ∧ moQ4_readWeekday_B35 n r q = some (s4S q 12 (nI p')) := by
  have hs := h.1
  have hps := h.2.2.2.2.2.2
  obtain ⟨L, hL, hpL⟩ := run_ex (cap_hi (tx := tx) (sz := sz)) sz p (by omega)
  have hpL := hpL hps
  unfold moQ4_readWeekday_B35
  rw [show moQ4_takeLetters n 2 q = _ from take_c (M := 2) hn h hL hpL (by decide) (by decide)]
  by_cases c : L = 0
  · rw [if_pos c, fail_c1 h13, b1, b2, add2, show r4S q 12 = nI p from h.2.2.2.2.2.1, if_neg (fun w => by have := (nI_eq (by omega) (by omega)).mp w; omega), fail_c1 h13, b1, if_neg (show ¬ r4S q 13 = 0 from h13)]
    exact ⟨p, hps, by rw [s4S_id h.2.2.2.2.2.1]⟩
  · rw [if_neg c, b2, add2]
    have h13' : ¬ (s4S q 12 (nI (p + min 2 L))).1 13 = 0 := h13
    refine ⟨p + min 2 L, by omega, ?_⟩
    by_cases c2 : r4S (s4S q 12 (nI (p + min 2 L))) 12 = nI (p + 2)
    · rw [if_pos c2, if_neg (show ¬ r4S (s4S q 12 (nI (p + min 2 L))) 13 = 0 from h13)]
    · rw [if_neg c2, fail_c1 h13', b1, if_neg (show ¬ r4S (s4S q 12 (nI (p + min 2 L))) 13 = 0 from h13)]
theorem wk_item {n p sz : Nat} {r : Int32} {tx : Nat → Nat} {qm qm0 : Pc3} {q : Pc4} (hn : 200000 ≤ n) (h : RS tx sz qm q p) (hM : CM tx sz qm0 p) (h5 : qm0.1 5 = 0) (hF0 : FM qm qm0) (hadd : ∀ w, w < 7 → ∀ p', p' ≤ sz → ∃ qm' q', gi (((107 * nI w) + 53) + r) 749 (some (sA (sS qm0 7 (nI p')) 16 (((107 * nI w) + 53) + r) (vp_nar .boolean 1))) = some qm' ∧ moQ5_addWeekday n (nI w) r (s4S q 12 (nI p')) = some q' ∧ FM qm qm' ∧ FQ q q' ∧ RS tx sz qm' q' p') : Res tx sz qm q p (moM_dayItem_B44 n r qm0) (moQ4_readWeekday_B35 n r q) := by
  have hQ := h.1
  have h13 : q.1 13 = 0 := h.2.2.1
  have hi4 := h.i4
  have hs := hQ.1
  have ht := hQ.2.1
  have hps := hQ.2.2.2.2.2.2
  obtain ⟨L, hL, hpL⟩ := run_ex (cap_hi (tx := tx) (sz := sz)) sz p (by omega)
  have hpL := hpL hps
  have at7 : rS qm0 7 = nI p := hM.2.2.2.2
  unfold Res moQ4_readWeekday_B35 moM_dayItem_B44
  rw [show moQ4_takeLetters n 2 q = _ from take_c (M := 2) hn hQ hL hpL (by decide) (by decide), at7]
  have hM1 := hM.at (p' := p + 1)
  have hM2 := hM.at (p' := p + 2)
  -- the reference's two letters
  have r0 : L = 0 → ∀ (K0 : Int32 → Int32 → Pc3 → Option Pc3) fuel, 3 ≤ fuel → moM_dayItem_L52 n K0 fuel r (nI p) 0 qm0 = K0 r (nI p) (sS (flM qm0 1 (nI p)) 7 (nI (p + 1))) := by
    intro e K0 fuel hf
    obtain ⟨u, rfl⟩ : ∃ u, fuel = u + 3 := ⟨fuel - 3, by omega⟩
    subst e
    rw [moM_dayItem_L52, if_neg (by decide), if_pos (show rS qm0 5 = 0 from h5), at7, byteAt_r hM (by omega), b1, isCap_r ht, b1, show cap tx sz p = false from hL.2, if_pos (by decide), fail_r0 h5, b1, show rS (flM qm0 1 (nI p)) 7 = nI p from at7, nI_1, moM_dayItem_L52, if_neg (by decide), if_neg (show ¬ rS (sS (flM qm0 1 (nI p)) 7 (nI (p + 1))) 5 = 0 from n_10)]
  have r1 : L = 1 → ∀ (K0 : Int32 → Int32 → Pc3 → Option Pc3) fuel, 3 ≤ fuel → moM_dayItem_L52 n K0 fuel r (nI p) 0 qm0 = K0 r (nI p) (sS (flM (sS qm0 7 (nI (p + 1))) 1 (nI (p + 1))) 7 (nI (p + 2))) := by
    intro e K0 fuel hf
    obtain ⟨u, rfl⟩ : ∃ u, fuel = u + 3 := ⟨fuel - 3, by omega⟩
    subst e
    rw [moM_dayItem_L52, if_neg (by decide), if_pos (show rS qm0 5 = 0 from h5), at7, byteAt_r hM (by omega), b1, isCap_r ht, b1, show cap tx sz p = true from hL.1 0 (by decide), if_neg (by decide), nI_1, moM_dayItem_L52, if_neg (by decide), if_pos (show rS (sS qm0 7 (nI (p + 1))) 5 = 0 from h5), show rS (sS qm0 7 (nI (p + 1))) 7 = nI (p + 1) from rfl, byteAt_r hM1 (by omega), b1, isCap_r ht, b1, show cap tx sz (p + 1) = false from hL.2, if_pos (by decide), fail_r0 (show (sS qm0 7 (nI (p + 1))).1 5 = 0 from h5), b1, show rS (flM (sS qm0 7 (nI (p + 1))) 1 (nI (p + 1))) 7 = nI (p + 1) from rfl, nI_1, moM_dayItem_L52, if_pos (by decide)]
  have r2 : 2 ≤ L → ∀ (K0 : Int32 → Int32 → Pc3 → Option Pc3) fuel, 3 ≤ fuel → moM_dayItem_L52 n K0 fuel r (nI p) 0 qm0 = K0 r (nI p) (sS qm0 7 (nI (p + 2))) := by
    intro e K0 fuel hf
    obtain ⟨u, rfl⟩ : ∃ u, fuel = u + 3 := ⟨fuel - 3, by omega⟩
    rw [moM_dayItem_L52, if_neg (by decide), if_pos (show rS qm0 5 = 0 from h5), at7, byteAt_r hM (by omega), b1, isCap_r ht, b1, show cap tx sz p = true from hL.1 0 (by omega), if_neg (by decide), nI_1, moM_dayItem_L52, if_neg (by decide), if_pos (show rS (sS qm0 7 (nI (p + 1))) 5 = 0 from h5), show rS (sS qm0 7 (nI (p + 1))) 7 = nI (p + 1) from rfl, byteAt_r hM1 (by omega), b1, isCap_r ht, b1, show cap tx sz (p + 1) = true from hL.1 1 (by omega), if_neg (by decide), nI_1, sS_ss, moM_dayItem_L52, if_pos (by decide)]
  by_cases c0 : L = 0
  · rw [r0 c0 _ n (by omega), if_neg (show ¬ rS (sS (flM qm0 1 (nI p)) 7 (nI (p + 1))) 5 ≤ 0 from by show ¬ (1 : Int32) ≤ 0; decide), if_pos c0, fail_c0 h13, b1, b2, add2, if_neg (show ¬ r4S (flQ q 1 (nI p)) 12 = nI (p + 2) from fun w => by
      have w : q.1 12 = nI (p + 2) := w
      rw [hQ.2.2.2.2.2.1] at w
      have := (nI_eq (by omega) (by omega)).mp w
      omega), fail_c1 (show ¬ (flQ q 1 (nI p)).1 13 = 0 from n_10), b1, if_neg (show ¬ r4S (flQ q 1 (nI p)) 13 = 0 from n_10)]
    exact ⟨_, _, rfl, rfl, (hF0.f).S (by decide), FQ.rf.f, Or.inr ⟨⟨p, hQ⟩, by show ¬ (1 : Int32) ≤ 0; decide, rfl, rfl, hi4⟩⟩
  · rw [if_neg c0, b2, add2]
    by_cases c1 : L = 1
    · rw [r1 c1 _ n (by omega), if_neg (show ¬ rS (sS (flM (sS qm0 7 (nI (p + 1))) 1 (nI (p + 1))) 7 (nI (p + 2))) 5 ≤ 0 from by show ¬ (1 : Int32) ≤ 0; decide), show min 2 L = 1 by omega, if_neg (show ¬ r4S (s4S q 12 (nI (p + 1))) 12 = nI (p + 2) from fun w => by
        have w : nI (p + 1) = nI (p + 2) := w
        have := (nI_eq (by omega) (by omega)).mp w
        omega), show r4S (s4S q 12 (nI (p + 1))) 12 = nI (p + 1) from rfl, fail_c0 (show (s4S q 12 (nI (p + 1))).1 13 = 0 from h13), b1, if_neg (show ¬ r4S (flQ (s4S q 12 (nI (p + 1))) 1 (nI (p + 1))) 13 = 0 from n_10)]
      exact ⟨_, _, rfl, rfl, ((hF0.S (by decide)).f).S (by decide), (FQ.rf.S (by decide)).f, Or.inr ⟨⟨p + 1, hQ.at (by omega)⟩, by show ¬ (1 : Int32) ≤ 0; decide, rfl, rfl, hi4⟩⟩
    · have k0 := hL.1 0 (by omega)
      have k1 := hL.1 1 (by omega)
      have k0 : p < sz ∧ 65 ≤ tx p ∧ tx p ≤ 90 := of_decide_eq_true k0
      have k1 : p + 1 < sz ∧ 65 ≤ tx (p + 1) ∧ tx (p + 1) ≤ 90 := of_decide_eq_true k1
      rw [r2 (by omega) _ n (by omega), if_pos (show rS (sS qm0 7 (nI (p + 2))) 5 ≤ 0 from by show qm0.1 5 ≤ 0; rw [h5]; decide), nI_1, byteAt_r hM2 (by omega), b1, byteAt_r hM2 (by omega), b1, show ba tx sz p = nI (tx p) from if_pos k0.1, show ba tx sz (p + 1) = nI (tx (p + 1)) from if_pos k1.1, show min 2 L = 2 by omega, if_pos (show r4S (s4S q 12 (nI (p + 2))) 12 = nI (p + 2) from rfl), if_pos (show r4S (s4S q 12 (nI (p + 2))) 13 = 0 from h13)]
      have cw := weekdayAt_c (n := n) (a := p) hn (hQ.at (show p + 2 ≤ sz by omega)) (by omega)
      have rw_ := weekday_r (n := n) (x := tx p) (y := tx (p + 1)) k0.2 k1.2
      by_cases ce : ∃ w, w < 7 ∧ tx p = (wdN 12).getD (2 * w) 0 ∧ tx (p + 1) = (wdN 12).getD (2 * w + 1) 0
      · obtain ⟨w, hw, e1, e2⟩ := ce
        obtain ⟨qm', q', f1, f2, f3, f4, f5⟩ := hadd w hw (p + 2) (by omega)
        rw [cw.1 w hw e1 e2, b1, rw_.1 w hw e1 e2, b1, if_pos (show (0 : Int32) ≤ nI w from nI_pos' (by omega)), if_neg (nI_m1 (by omega)), f1, f2, b1]
        exact ⟨_, _, rfl, rfl, f3, f4, Or.inl ⟨p + 2, by omega, f5⟩⟩
      · have hno : ∀ w, w < 7 → ¬ (tx p = (wdN 12).getD (2 * w) 0 ∧ tx (p + 1) = (wdN 12).getD (2 * w + 1) 0) := fun w hw g => ce ⟨w, hw, g⟩
        rw [cw.2 hno, b1, rw_.2 hno, b1, if_neg (show ¬ (0 : Int32) ≤ -1 by decide), if_pos rfl, fail_r0 (show (sS qm0 7 (nI (p + 2))).1 5 = 0 from h5), fail_c0 (show (s4S q 12 (nI (p + 2))).1 13 = 0 from h13), b1, b1]
        exact ⟨_, _, rfl, rfl, (hF0.S (by decide)).f, (FQ.rf.S (by decide)).f, Or.inr (FS_mk (hQ.at (by omega)) (by decide) hi4)⟩
theorem ix_w {w : Nat} : ((107 : Int32) * nI w) + 53 = nI (107 * w + 53) := by rw [show (107 : Int32) * nI w = nI (107 * w) from pk_mul 107 w]; exact nI_add _ 53
theorem r4L_n {q : Pc4} {k w : Nat} (h : w < 2 ^ 31) : r4L q k (nI w) = q.2.2.1 k w := by
  show q.2.2.1 k (nI w).toNatClampNeg = _
  rw [nI_clamp h]
theorem wk_num {n p sz : Nat} {tx : Nat → Nat} {qm : Pc3} {q : Pc4} (hn : 200000 ≤ n) (h : RS tx sz qm q p) : Res tx sz qm q p (bd2 (moM_number n (-53) 53 qm) fun r_3 q_3 => (moM_dayItem_B44 n r_3 (sS q_3 17 1))) (bd2 (moQ4_readNumber n 7 q) fun r_3 q_3 => (moQ4_readWeekday_B35 n r_3 q_3)) := by
  obtain ⟨r, r', qm1, q1, e1, e2, e3⟩ := number_rc (n := n) (k := 7) hn (by decide) (by decide) (by decide) h
  unfold Res
  rw [show moM_number n (-53) 53 qm = _ from e1, b2, e2, b2]
  rcases e3 with ⟨p', l1, l2, rfl, rfl, rfl, l3, l4, l5⟩ | ⟨p', u, kf, w, l1, l2, rfl, rfl⟩
  · obtain ⟨e, g1, g2, g3⟩ := ok_n (k := 7) (by decide) (by decide) (by decide) l3 l4 l5
    have lb : (plow 7).toInt = -53 ∧ (phig 7).toInt = 53 := by decide
    have hA := h.at l2
    obtain ⟨qm', q', f1, f2, f3, f4, f5⟩ := wk_item (n := n) (r := r) (qm0 := sS (sS qm 7 (nI p')) 17 1) hn hA hA.2.1 h.2.2.2.1 (FM.rf.S (by decide)) (fun w hw p'' hp'' => by
      have hT : RT (sS (sS qm 7 (nI p')) 7 (nI p'')) (s4S (s4S q 12 (nI p')) 12 (nI p'')) := h.2.2.2.2.2.1
      unfold moQ5_addWeekday
      rw [ix_w, nb1.1]
      rcases g3 with ⟨rfl, k1, k2⟩ | ⟨rfl, k1⟩
      · rw [nI_add, gi_in (by omega) (by decide), if_neg (nI_ne0 (by omega) (by omega)), if_neg (nI_nle (by omega) (by omega)), gi_in (by omega) (by decide), gi_in (by omega) (by decide), r4L_n (by omega)]
        refine ⟨_, _, rfl, rfl, ((FM.rf.S (by decide)).S (by decide)).A (by decide), ((FQ.rf.S (by decide)).S (by decide)).L (Or.inl rfl), (hA.at hp'').up ?_ ((FQ.rf.S (by decide)).L (Or.inl rfl)) rfl rfl rfl rfl rfl rfl (add_wdP (qm := sS (sS qm 7 (nI p')) 7 (nI p'')) (q := s4S (s4S q 12 (nI p')) 12 (nI p'')) hT hw g1 (by omega))⟩
        refine ⟨fun i gi => ?_, fun a ga => ?_, rfl⟩
        · exact (((FM.rf (q := sS qm 7 (nI p'))).S (i := 17) (v := 1) (by decide)).S (i := 7) (v := nI p'') (by decide)).1 i gi |>.trans ((((FM.rf (q := sS qm 7 (nI p'))).S (i := 7) (v := nI p'') (by decide))).1 i gi).symm
        · exact sA_ne (fun e => by rw [e] at ga; cases ga)
      · rw [← Int32.sub_eq_add_neg, pk_sub (by omega), gi_in (by omega) (by decide), if_neg (show ¬ -(nI e) = 0 from l5), if_pos (show -(nI e) ≤ (0 : Int32) from by rw [Int32.le_iff_toInt_le, neg_i (by omega), show (0 : Int32).toInt = 0 from by decide]; omega), gi_in (by omega) (by decide), gi_in (by omega) (by decide), r4L_n (by omega), Int32.neg_neg]
        refine ⟨_, _, rfl, rfl, ((FM.rf.S (by decide)).S (by decide)).A (by decide), ((FQ.rf.S (by decide)).S (by decide)).L (Or.inr rfl), (hA.at hp'').up ?_ ((FQ.rf.S (by decide)).L (Or.inr rfl)) rfl rfl rfl rfl rfl rfl (add_wdN (qm := sS (sS qm 7 (nI p')) 7 (nI p'')) (q := s4S (s4S q 12 (nI p')) 12 (nI p'')) hT hw g1 (by omega))⟩
        refine ⟨fun i gi => ?_, fun a ga => ?_, rfl⟩
        · exact (((FM.rf (q := sS qm 7 (nI p'))).S (i := 17) (v := 1) (by decide)).S (i := 7) (v := nI p'') (by decide)).1 i gi |>.trans ((((FM.rf (q := sS qm 7 (nI p'))).S (i := 7) (v := nI p'') (by decide))).1 i gi).symm
        · exact sA_ne (fun e => by rw [e] at ga; cases ga))
    refine ⟨qm', q', f1, f2, (FM.rf.S (by decide)).trans f3, (FQ.rf.S (by decide)).trans f4, ?_⟩
    rcases f5 with ⟨p'', i1, i2⟩ | i2
    · exact Or.inl ⟨p'', by omega, i2⟩
    · exact Or.inr i2
  · have hF : ¬ kf = 0 := fun e => l1 (by rw [e]; decide)
    obtain ⟨p'', k1, k2⟩ := day_idle (n := n) (r := r) (q := flQ (s4S q 12 (nI p')) kf w) hn (show CQ tx sz (flQ (s4S q 12 (nI p')) kf w) p' from h.1.at l2) hF
    rw [k2]
    have hr : ∀ (K0 : Int32 → Int32 → Pc3 → Option Pc3) (a b : Int32) fuel, 1 ≤ fuel → moM_dayItem_L52 n K0 fuel a b 0 (sS (flM (sS qm 7 u) kf w) 17 1) = K0 a b (sS (flM (sS qm 7 u) kf w) 17 1) := by
      intro K0 a b fuel hf
      obtain ⟨v, rfl⟩ : ∃ v, fuel = v + 1 := ⟨fuel - 1, by omega⟩
      rw [moM_dayItem_L52, if_neg (by decide), if_neg (show ¬ rS (sS (flM (sS qm 7 u) kf w) 17 1) 5 = 0 from hF)]
    unfold moM_dayItem_B44
    rw [hr _ _ _ n (by omega), if_neg (show ¬ rS (sS (flM (sS qm 7 u) kf w) 17 1) 5 ≤ 0 from l1)]
    exact ⟨_, _, rfl, rfl, ((FM.rf.S (by decide)).f).S (by decide), ((FQ.rf.S (by decide)).f).S (by decide), Or.inr ⟨⟨p'', (h.1.at l2).fr ((FQ.rf.f).S (by decide)) rfl k1⟩, l1, rfl, rfl, h.i4⟩⟩
theorem item7 {n p sz : Nat} {tx : Nat → Nat} {qm : Pc3} {q : Pc4} (hn : 200000 ≤ n) (h : RS tx sz qm q p) : Res tx sz qm q p (moM_oneItem n 7 qm) (moQ4_readValue n 7 q) := by
  have hM := h.2.1
  have ht := h.1.2.1
  have hs := h.1.1
  have hps := h.1.2.2.2.2.2.2
  have e43 : (ba tx sz p = 43) ↔ sg tx sz 43 p = true := ba_eq (c := 43) ht (by decide)
  have e45 : (ba tx sz p = 45) ↔ sg tx sz 45 p = true := ba_eq (c := 45) ht (by decide)
  have key : Res tx sz qm q p (moM_dayItem n qm) (moQ4_readWeekday n q) := by
    unfold moM_dayItem moQ4_readWeekday
    rw [show rS qm 7 = nI p from hM.2.2.2.2, byteAt_r hM (by omega), b1, isFig_r ht, b1, show moQ4_sees n 43 q = _ from sees_c (c := 43) h.1 (by decide), b1, show moQ4_sees n 45 q = _ from sees_c (c := 45) h.1 (by decide), b1, seesF_c h.1, b1]
    cases g43 : sg tx sz 43 p with
    | true =>
      rw [if_neg (show ¬ (if true = true then (1 : Int32) else 0) = 0 by decide), if_pos (e43.mpr g43)]
      exact wk_num hn h
    | false =>
      rw [if_pos (show (if false = true then (1 : Int32) else 0) = 0 by decide), if_neg (fun w => by rw [e43.mp w] at g43; cases g43)]
      cases g45 : sg tx sz 45 p with
      | true =>
        rw [if_neg (show ¬ (if true = true then (1 : Int32) else 0) = 0 by decide), if_pos (e45.mpr g45)]
        exact wk_num hn h
      | false =>
        rw [if_pos (show (if false = true then (1 : Int32) else 0) = 0 by decide), if_neg (fun w => by rw [e45.mp w] at g45; cases g45)]
        cases gf : fig tx sz p with
        | true =>
          rw [if_neg (show ¬ (if true = true then (1 : Int32) else 0) = 0 by decide)]
          exact wk_num hn h
        | false =>
          rw [if_pos (show (if false = true then (1 : Int32) else 0) = 0 by decide)]
          refine wk_item hn h hM h.2.2.2.1 FM.rf (fun w hw p' hp' => ?_)
          have hT : RT (sS qm 7 (nI p')) (s4S q 12 (nI p')) := h.2.2.2.2.2.1
          unfold moQ5_addWeekday
          rw [ix_w, nb1.1, show nI (107 * w + 53) + 0 = nI (107 * w + 53) from nI_add _ 0, gi_in (by omega) (by decide), if_pos rfl]
          exact ⟨_, _, rfl, rfl, (FM.rf.S (by decide)).A (by decide), (FQ.rf.S (by decide)).S (by decide), (h.at hp').up (FM.rf.A (by decide)) (FQ.rf.S (by decide)) rfl rfl rfl rfl rfl rfl (add_wd0 hT hw)⟩
  obtain ⟨qm', q', f1, f2, f3⟩ := key
  unfold moM_oneItem moQ4_readValue
  rw [if_neg (by decide), if_neg (by decide), if_neg (by decide), f1, b1, show r4S q 13 = 0 from h.2.2.1, if_pos rfl, gl_in (by decide), if_neg (by decide), gl_in (by decide), if_pos rfl, f2, b1]
  exact ⟨qm', q', rfl, rfl, f3⟩
