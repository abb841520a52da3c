/-! Pure: reading a rule: UNTIL, numbers, weekdays. -/
theorem dt_rng {m k : Nat} (hm : m < 3600) (hk : k < 31) : 19000101 ≤ dtN m k ∧ dtN m k ≤ 21991231 := by unfold dtN; omega
theorem val3 {n p sz : Nat} {tx : Nat → Nat} {qm : Pc3} {q : Pc4} (hn : 200000 ≤ n) (h : RS tx sz qm q p) : Res tx sz qm q p (moM_untilDate n qm) (moQ4_readValue n 3 q) := by
  have hRS := h
  have hi4 := h.i4
  obtain ⟨hQ, hM, h13, h5, h6, hT, hD⟩ := h
  have hs := hQ.1
  obtain ⟨p1, D, neg, g1, g2, g3, g4, gc, gr0, gr1⟩ := num_core (n := n) (k := 3) (x1 := 0) (x2 := 99999999) hn (by decide) (by decide) hQ hM h5
  obtain ⟨c0, c1⟩ := num_cls (n := n) (k := 3) (p := p) (p1 := p1) (D := D) (sz := sz) (v := nI (min (dg tx p1 D) 100000000)) (neg := neg) (by decide) h13 (by omega)
  unfold Res moM_untilDate moQ4_readValue
  rw [show r4S q 13 = 0 from h13, if_pos rfl, gl_in (by decide), if_neg (by decide), gl_in (by decide), if_neg (by decide), gc, show rS qm 7 = nI p from hM.2.2.2.2, show r4S q 12 = nI p from hQ.2.2.2.2.2.1]
  rcases Nat.eq_zero_or_pos D with e | e
  · obtain ⟨r, er⟩ := c0 e
    rw [er, b2, gr0 e, b2, gl_in (by decide), if_pos rfl]
    have hF : ¬ (flQ (s4S q 12 (nI p1)) 1 (nI p1)).1 13 = 0 := n_10
    have hG : ¬ (flM (sS qm 7 (nI p1)) 1 (nI p1)).1 5 = 0 := n_10
    obtain ⟨r2, e2⟩ : ∃ r2, moM_dayOf n 0 (flM (sS qm 7 (nI p1)) 1 (nI p1)) = some r2 := by
      rcases date_or hn (qm := flM (sS qm 7 (nI p1)) 1 (nI p1)) hD 0 with ⟨m, kk, _, _, e4, _⟩ | ⟨_, e4⟩
      · exact ⟨_, e4⟩
      · exact ⟨_, e4⟩
    rw [e2, b1]
    refine ⟨sS (flM (sS qm 7 (nI p1)) 1 (nI p1)) 12 r2, flQ (s4S q 12 (nI p1)) 1 (nI p1), ?_, ?_, ((FM.rf.S (by decide)).f).S (by decide), (FQ.rf.S (by decide)).f, Or.inr ⟨⟨p1, hQ.at (by omega)⟩, by show ¬ (1 : Int32) ≤ 0; decide, rfl, rfl, hi4⟩⟩
    · by_cases c : (0 : Int32) ≤ rS (sS (flM (sS qm 7 (nI p1)) 1 (nI p1)) 12 r2) 12
      · rw [if_pos c]
      · rw [if_neg c, fail_r1 (show ¬ (sS (flM (sS qm 7 (nI p1)) 1 (nI p1)) 12 r2).1 5 = 0 from hG), b1]
    · rcases isDate_or (n := n) r with ⟨m, k, _, e3⟩ | ⟨_, e3⟩
      · rw [e3, b1, if_neg n_10, if_neg (show ¬ r4S (flQ (s4S q 12 (nI p1)) 1 (nI p1)) 13 = 0 from hF)]
      · rw [e3, b1, if_pos rfl, fail_c1 hF, b1, if_neg (show ¬ r4S (flQ (s4S q 12 (nI p1)) 1 (nI p1)) 13 = 0 from hF)]
  · have hneg : neg = false := by
      cases neg with
      | false => rfl
      | true => exact absurd (show (0 : Int32) ≤ plow 3 by decide) (g3 rfl)
    subst hneg
    rw [c1 e, b2, gr1 e, if_neg (show ¬ false = true by decide), B177_r (show (sS qm 7 (nI (p1 + D))).1 5 = 0 from h5), if_neg (show ¬ false = true by decide), if_pos (show (0 : Int32).toInt ≤ (lN (min (dg tx p1 D) 99999999)).toInt ∧ (lN (min (dg tx p1 D) 99999999)).toInt ≤ (99999999 : Int32).toInt ∧ ((0 : Int32).toInt < 0 → (lN (min (dg tx p1 D) 99999999)).toInt ≠ 0) from by
      rw [lN_toInt (by omega), show (0 : Int32).toInt = 0 from by decide, show (99999999 : Int32).toInt = 99999999 from by decide]
      exact ⟨by omega, by omega, fun g => by omega⟩), b2, lN_i, gl_in (by decide), if_pos rfl]
    generalize dg tx p1 D = E at *
    have hday := dayOf_r (n := n) (q := sS qm 7 (nI (p1 + D))) hn hD (nI (min E 99999999))
    rcases isDate_or (n := n) (nI (min E 99999999)) with ⟨m, k, hd, e3⟩ | ⟨hno, e3⟩
    · have hk31 := hd.k31
      have hr := dt_rng hd.1 hk31
      have hE : min E 99999999 = dtN m k := (nI_eq (by omega) (by omega)).mp hd.2.2
      have hE2 : min E 100000000 = min E 99999999 := by omega
      have hin := cum_in hd.1 hd.2.1
      rw [hE2, e3, b1, if_neg n_10, hday.1 m k hd, b1, if_pos (show (0 : Int32) ≤ rS (sS (sS qm 7 (nI (p1 + D))) 12 (nI (cumN m + k))) 12 from ge0 hin)]
      have ok : plow 3 ≤ nI (min E 99999999) ∧ nI (min E 99999999) ≤ phig 3 ∧ nI (min E 99999999) ≠ 0 := ⟨show (19000101 : Int32) ≤ nI (min E 99999999) from nI_le (a := 19000101) (by omega) (by omega), show nI (min E 99999999) ≤ (21991231 : Int32) from nI_le (b := 21991231) (by omega) (by decide), nI_ne0 (by omega) (by omega)⟩
      rw [if_pos ok, if_pos (show r4S (s4S q 12 (nI (p1 + D))) 13 = 0 from h13)]
      unfold moQ5_addNumber
      rw [gl_in (by decide), if_neg (by decide), gl_in (by decide), if_neg (by decide), gl_in (by decide), if_pos rfl, b1]
      refine ⟨_, _, rfl, rfl, (FM.rf.S (by decide)).S (by decide), (FQ.rf.S (by decide)).S (by decide), Or.inl ⟨p1 + D, by omega, (hRS.at g2).up (FM.rf.S (by decide)) (FQ.rf.S (by decide)) rfl rfl rfl rfl rfl rfl ?_⟩⟩
      obtain ⟨r1, r2, r3, r4, r5, r6, r7, r8, r9, r10⟩ := hT
      exact ⟨r1, r2, r3, r4, ⟨m, k, hd, Or.inl rfl⟩, r6, r7, r8, r9, r10⟩
    · have hno2 : moQ0_isDate n (nI (min E 100000000)) = some 0 := by
        rcases isDate_or (n := n) (nI (min E 100000000)) with ⟨m, k, hd, e4⟩ | ⟨_, e4⟩
        · have hr := dt_rng hd.1 hd.k31
          have hE : min E 100000000 = dtN m k := (nI_eq (by omega) (by omega)).mp hd.2.2
          have hE2 : min E 99999999 = min E 100000000 := by omega
          rw [hE2] at hno
          exact absurd hd (hno m k)
        · exact e4
      rw [hno2, b1, if_pos rfl, hday.2 hno, b1, if_neg (show ¬ (0 : Int32) ≤ rS (sS (sS qm 7 (nI (p1 + D))) 12 (-1)) 12 from by show ¬ (0 : Int32) ≤ -1; decide), fail_r0 (show (sS (sS qm 7 (nI (p1 + D))) 12 (-1)).1 5 = 0 from h5), b1]
      have hF : moQ4_fail n 2 (nI p) (if plow 3 ≤ nI (min E 100000000) ∧ nI (min E 100000000) ≤ phig 3 ∧ nI (min E 100000000) ≠ 0 then s4S q 12 (nI (p1 + D)) else flQ (s4S q 12 (nI (p1 + D))) 2 (nI p)) = some (flQ (s4S q 12 (nI (p1 + D))) 2 (nI p)) := by
        by_cases c : plow 3 ≤ nI (min E 100000000) ∧ nI (min E 100000000) ≤ phig 3 ∧ nI (min E 100000000) ≠ 0
        · rw [if_pos c]; exact fail_c0 h13
        · rw [if_neg c]; exact fail_c1 n_20
      rw [hF, b1, if_neg (show ¬ r4S (flQ (s4S q 12 (nI (p1 + D))) 2 (nI p)) 13 = 0 from n_20)]
      exact ⟨_, _, rfl, rfl, ((FM.rf.S (by decide)).S (by decide)).f, (FQ.rf.S (by decide)).f, Or.inr (FS_mk (hQ.at g2) (by decide) hi4)⟩
-- numbers
theorem val_num {n k p sz : Nat} {tx : Nat → Nat} {qm : Pc3} {q : Pc4} (hn : 200000 ≤ n) (hk : k = 1 ∨ k = 2 ∨ k = 4 ∨ k = 5 ∨ k = 6) (h : RS tx sz qm q p) (K : Int32 → Pc3 → Option Pc3) (hKf : ∀ r u kf w, ¬ kf ≤ (0 : Int32) → ∃ qm', K r (flM (sS qm 7 u) kf w) = some qm' ∧ FM qm qm' ∧ qm'.1 5 = kf ∧ qm'.1 6 = w) (hK : ∀ r p', p' ≤ sz → plow k ≤ r → r ≤ phig k → r ≠ 0 → ∃ qm' q', K r (sS qm 7 (nI p')) = some qm' ∧ moQ5_addNumber n k r (s4S q 12 (nI p')) = some q' ∧ FM (sS qm 7 (nI p')) qm' ∧ FQ (s4S q 12 (nI p')) q' ∧ q'.1 12 = nI p' ∧ qm'.1 7 = nI p' ∧ q'.1 13 = 0 ∧ qm'.1 5 = 0 ∧ q'.1 14 = q.1 14 ∧ qm'.1 6 = qm.1 6 ∧ RT qm' q') : Res tx sz qm q p (bd2 (moM_number n (plow k) (phig k) qm) K) (moQ4_readValue n k q) := by
  have hk8 : k < 8 := by omega
  obtain ⟨r, r', qm1, q1, e1, e2, e3⟩ := number_rc (n := n) (k := k) hn hk8 (by omega) (by omega) h
  have h13 : q.1 13 = 0 := h.2.2.1
  unfold Res moQ4_readValue
  rw [e1, b2, show r4S q 13 = 0 from h13, if_pos rfl, gl_in hk8, if_neg (by omega), gl_in hk8, if_neg (by omega), e2, b2, gl_in hk8, if_neg (by omega)]
  rcases e3 with ⟨p', l1, l2, rfl, rfl, rfl, l3, l4, l5⟩ | ⟨p', u, kf, w, l1, l2, rfl, rfl⟩
  · obtain ⟨qm', q', f1, f2, f3, f4, f5, f6, f7, f8, f9, f10, f11⟩ := hK r p' l2 l3 l4 l5
    rw [if_pos (show r4S (s4S q 12 (nI p')) 13 = 0 from h13), f1, f2, b1]
    refine ⟨_, _, rfl, rfl, (FM.rf.S (by decide)).trans f3, (FQ.rf.S (by decide)).trans f4, Or.inl ⟨p', l1, (h.at l2).up f3 f4 f5 f6 ?_ ?_ f9 f10 f11⟩⟩
    · exact f7.trans h13.symm
    · exact f8.trans h.2.2.2.1.symm
  · obtain ⟨qm', f1, f2, f3, f4⟩ := hKf r' u kf w l1
    have hF : ¬ kf = 0 := fun e => l1 (by rw [e]; decide)
    rw [if_neg (show ¬ r4S (flQ (s4S q 12 (nI p')) kf w) 13 = 0 from hF), f1]
    exact ⟨_, _, rfl, rfl, f2, (FQ.rf.S (by decide)).f, Or.inr ⟨⟨p', h.1.at l2⟩, l1, f3.symm, f4.symm, h.i4⟩⟩
theorem val1 {n p sz : Nat} {tx : Nat → Nat} {qm : Pc3} {q : Pc4} (hn : 200000 ≤ n) (h : RS tx sz qm q p) : Res tx sz qm q p (bd2 (moM_number n 1 400 qm) fun r_13 q_13 => (some (sS q_13 10 r_13))) (moQ4_readValue n 1 q) := by
  refine val_num (k := 1) hn (Or.inl rfl) h _ (fun r u kf w hk => ⟨_, rfl, ((FM.rf.S (by decide)).f).S (by decide), rfl, rfl⟩) (fun r p' hp h1 h2 h3 => ?_)
  obtain ⟨e, e1, e2, e3⟩ := ok_n (k := 1) (by decide) (by decide) (by decide) h1 h2 h3
  have l1 : (plow 1).toInt = 1 ∧ (phig 1).toInt = 400 := by decide
  unfold moQ5_addNumber
  rw [gl_in (by decide), if_pos rfl]
  refine ⟨_, _, rfl, rfl, FM.rf.S (by decide), FQ.rf.S (by decide), rfl, rfl, h.2.2.1, h.2.2.2.1, rfl, rfl, ?_⟩
  obtain ⟨r1, r2, r3, r4, r5, r6, r7, r8, r9, r10⟩ := h.2.2.2.2.2.1
  exact ⟨r1, r2, ⟨rfl, e, e1, by omega, by rcases e3 with g | g <;> first | exact g.1 | omega⟩, r4, r5, r6, r7, r8, r9, r10⟩
theorem val2 {n p sz : Nat} {tx : Nat → Nat} {qm : Pc3} {q : Pc4} (hn : 200000 ≤ n) (h : RS tx sz qm q p) : Res tx sz qm q p (bd2 (moM_number n 1 999 qm) fun r_12 q_12 => (some (sS q_12 11 r_12))) (moQ4_readValue n 2 q) := by
  refine val_num (k := 2) hn (Or.inr (Or.inl rfl)) h _ (fun r u kf w hk => ⟨_, rfl, ((FM.rf.S (by decide)).f).S (by decide), rfl, rfl⟩) (fun r p' hp h1 h2 h3 => ?_)
  obtain ⟨e, e1, e2, e3⟩ := ok_n (k := 2) (by decide) (by decide) (by decide) h1 h2 h3
  have l1 : (plow 2).toInt = 1 ∧ (phig 2).toInt = 999 := by decide
  unfold moQ5_addNumber
  rw [gl_in (by decide), if_neg (by decide), gl_in (by decide), if_pos rfl]
  refine ⟨_, _, rfl, rfl, FM.rf.S (by decide), FQ.rf.S (by decide), rfl, rfl, h.2.2.1, h.2.2.2.1, rfl, rfl, ?_⟩
  obtain ⟨r1, r2, r3, r4, r5, r6, r7, r8, r9, r10⟩ := h.2.2.2.2.2.1
  exact ⟨r1, r2, r3, ⟨rfl, e, by omega, by rcases e3 with g | g <;> first | exact g.1 | omega⟩, r5, r6, r7, r8, r9, r10⟩
theorem item4 {n p sz : Nat} {tx : Nat → Nat} {qm : Pc3} {q : Pc4} (hn : 200000 ≤ n) (h : RS tx sz qm q p) : Res tx sz qm q p (moM_oneItem n 4 qm) (moQ4_readValue n 4 q) := by
  unfold moM_oneItem
  rw [if_pos rfl]
  refine val_num (k := 4) hn (Or.inr (Or.inr (Or.inl rfl))) h _ (fun r u kf w hk => ⟨_, if_neg (show ¬ kf = 0 from fun e => hk (by rw [e]; decide)), (FM.rf.S (by decide)).f, rfl, rfl⟩) (fun r p' hp h1 h2 h3 => ?_)
  obtain ⟨e, e1, e2, e3⟩ := ok_n (k := 4) (by decide) (by decide) (by decide) h1 h2 h3
  have l1 : (plow 4).toInt = 1 ∧ (phig 4).toInt = 12 := by decide
  obtain ⟨rfl, e4⟩ : r = nI e ∧ e ≤ 12 := by
    rcases e3 with g | g
    · exact ⟨g.1, by omega⟩
    · omega
  unfold moQ5_addNumber
  rw [if_pos (show rS (sS qm 7 (nI p')) 5 = 0 from h.2.2.2.1), gl_in (by decide), if_neg (by decide), gl_in (by decide), if_neg (by decide), gl_in (by decide), if_neg (by decide), gl_in (by decide), if_pos rfl, gi_in (by omega) (by decide), nb1.1]
  exact ⟨_, _, rfl, rfl, FM.rf.A (by decide), FQ.rf.S (by decide), rfl, rfl, h.2.2.1, h.2.2.2.1, rfl, rfl, add_month (qm := sS qm 7 (nI p')) (q := s4S q 12 (nI p')) h.2.2.2.2.2.1 e1 e4⟩
theorem item5 {n p sz : Nat} {tx : Nat → Nat} {qm : Pc3} {q : Pc4} (hn : 200000 ≤ n) (h : RS tx sz qm q p) : Res tx sz qm q p (moM_oneItem n 5 qm) (moQ4_readValue n 5 q) := by
  unfold moM_oneItem
  rw [if_neg (by decide), if_pos rfl]
  refine val_num (k := 5) hn (Or.inr (Or.inr (Or.inr (Or.inl rfl)))) h _ (fun r u kf w hk => ⟨_, if_neg (show ¬ kf = 0 from fun e => hk (by rw [e]; decide)), (FM.rf.S (by decide)).f, rfl, rfl⟩) (fun r p' hp h1 h2 h3 => ?_)
  obtain ⟨e, e1, e2, e3⟩ := ok_n (k := 5) (by decide) (by decide) (by decide) h1 h2 h3
  have l1 : (plow 5).toInt = -31 ∧ (phig 5).toInt = 31 := by decide
  unfold moQ5_addNumber
  rw [if_pos (show rS (sS qm 7 (nI p')) 5 = 0 from h.2.2.2.1), gl_in (by decide), if_neg (by decide), gl_in (by decide), if_neg (by decide), gl_in (by decide), if_neg (by decide), gl_in (by decide), if_neg (by decide), gl_in (by decide), if_neg (by decide), nb1.1]
  rcases e3 with ⟨rfl, g1, g2⟩ | ⟨rfl, g1⟩
  · rw [show (31 : Int32) + nI e = nI (31 + e) from nI_add 31 e, gi_in (by omega) (by decide), if_neg (nI_nle (by omega) (by omega)), show nI e - (1 : Int32) = nI (e - 1) from pk_sub (b := 1) e1]
    exact ⟨_, _, rfl, rfl, FM.rf.A (by decide), FQ.rf.S (by decide), rfl, rfl, h.2.2.1, h.2.2.2.1, rfl, rfl, add_dayP (qm := sS qm 7 (nI p')) (q := s4S q 12 (nI p')) h.2.2.2.2.2.1 e1 (by omega)⟩
  · rw [show (31 : Int32) + -(nI e) = nI (31 - e) from by rw [← Int32.sub_eq_add_neg]; exact pk_sub (a := 31) (by omega), gi_in (by omega) (by decide), if_pos (show -(nI e) ≤ (0 : Int32) from by rw [Int32.le_iff_toInt_le, neg_i (by omega), show (0 : Int32).toInt = 0 from by decide]; omega)]
    exact ⟨_, _, rfl, rfl, FM.rf.A (by decide), FQ.rf.S (by decide), rfl, rfl, h.2.2.1, h.2.2.2.1, rfl, rfl, add_dayN (qm := sS qm 7 (nI p')) (q := s4S q 12 (nI p')) h.2.2.2.2.2.1 e1 (by omega)⟩
theorem item6 {n p sz : Nat} {tx : Nat → Nat} {qm : Pc3} {q : Pc4} (hn : 200000 ≤ n) (h : RS tx sz qm q p) : Res tx sz qm q p (moM_oneItem n 6 qm) (moQ4_readValue n 6 q) := by
  unfold moM_oneItem
  rw [if_neg (by decide), if_neg (by decide), if_pos rfl]
  refine val_num (k := 6) hn (Or.inr (Or.inr (Or.inr (Or.inr rfl)))) h _ (fun r u kf w hk => ⟨_, if_neg (show ¬ kf = 0 from fun e => hk (by rw [e]; decide)), (FM.rf.S (by decide)).f, rfl, rfl⟩) (fun r p' hp h1 h2 h3 => ?_)
  obtain ⟨e, e1, e2, e3⟩ := ok_n (k := 6) (by decide) (by decide) (by decide) h1 h2 h3
  have l1 : (plow 6).toInt = -366 ∧ (phig 6).toInt = 366 := by decide
  unfold moQ5_addNumber
  rw [if_pos (show rS (sS qm 7 (nI p')) 5 = 0 from h.2.2.2.1), gl_in (by decide), if_neg (by decide), gl_in (by decide), if_neg (by decide), gl_in (by decide), if_neg (by decide), gl_in (by decide), if_neg (by decide), gl_in (by decide), if_pos rfl, nb1.1, nb1.2.2.1]
  obtain ⟨i, hi, ei⟩ : ∃ i, i < 733 ∧ (366 : Int32) + r = nI i := by
    rcases e3 with ⟨rfl, g1, g2⟩ | ⟨rfl, g1⟩
    · exact ⟨366 + e, by omega, nI_add 366 e⟩
    · exact ⟨366 - e, by omega, by rw [← Int32.sub_eq_add_neg]; exact pk_sub (a := 366) (by omega)⟩
  rw [ei, gi_in hi (by decide), gi_in hi (by decide)]
  exact ⟨_, _, rfl, rfl, FM.rf.A (by decide), FQ.rf.A, rfl, rfl, h.2.2.1, h.2.2.2.1, rfl, rfl, add_place (qm := sS qm 7 (nI p')) (q := s4S q 12 (nI p')) h.2.2.2.2.2.1 hi⟩
-- weekdays
theorem wd_l : (wdN 12).length = 14 := by decide
theorem wd_ne : ∀ w, w < 7 → ∀ w', w' < 7 → (wdN 12).getD (2 * w) 0 = (wdN 12).getD (2 * w') 0 → (wdN 12).getD (2 * w + 1) 0 = (wdN 12).getD (2 * w' + 1) 0 → w = w' := by decide +kernel
theorem weekdayAt_c {n a p sz : Nat} {tx : Nat → Nat} {q : Pc4} (hn : 200000 ≤ n) (h : CQ tx sz q p) (ha : a + 2 ≤ sz) : (∀ w, w < 7 → tx a = (wdN 12).getD (2 * w) 0 → tx (a + 1) = (wdN 12).getD (2 * w + 1) 0 → moQ4_weekdayAt n (nI a) q = some (nI w)) ∧ ((∀ w, w < 7 → ¬ (tx a = (wdN 12).getD (2 * w) 0 ∧ tx (a + 1) = (wdN 12).getD (2 * w + 1) 0)) → moQ4_weekdayAt n (nI a) q = some (-1)) := by
  obtain ⟨h1, h2, h3, h4, h5, h6, h7⟩ := h
  have t0 := h2 a (by omega)
  have t1 := h2 (a + 1) (by omega)
  have key : ∀ (fuel i : Nat), i ≤ 7 → 7 - i < fuel → (∀ j, j < i → ¬ (tx a = (wdN 12).getD (2 * j) 0 ∧ tx (a + 1) = (wdN 12).getD (2 * j + 1) 0)) → (∀ w, w < 7 → tx a = (wdN 12).getD (2 * w) 0 → tx (a + 1) = (wdN 12).getD (2 * w + 1) 0 → moQ4_weekdayAt_L2 n q (some (-1)) (fun z11_2 => (some z11_2)) fuel (nI a) (nI i) = some (nI w)) ∧ ((∀ w, w < 7 → ¬ (tx a = (wdN 12).getD (2 * w) 0 ∧ tx (a + 1) = (wdN 12).getD (2 * w + 1) 0)) → moQ4_weekdayAt_L2 n q (some (-1)) (fun z11_2 => (some z11_2)) fuel (nI a) (nI i) = some (-1)) := by
    intro fuel
    induction fuel with
    | zero => intro i _ h; omega
    | succ u ih =>
      intro i hi hf hpre
      rw [moQ4_weekdayAt_L2]
      by_cases c : 7 ≤ i
      · rw [if_pos (show (7 : Int32) ≤ nI i from nI_le (a := 7) c (by omega))]
        exact ⟨fun w hw e1 e2 => absurd ⟨e1, e2⟩ (hpre w (by omega)), fun _ => rfl⟩
      · have w0 := wdN_c 12 (by decide) (2 * i) (by rw [wd_l]; omega)
        have w1 := wdN_c 12 (by decide) (2 * i + 1) (by rw [wd_l]; omega)
        rw [if_neg (show ¬ (7 : Int32) ≤ nI i from nI_ge (b := 7) (by omega) (by decide)), show (2 : Int32) * nI i = nI (2 * i) from pk_mul 2 i, nI_1, nI_1, nI_1, charAt_w (by decide) (by rw [wd_l]; omega), b1, charAt_w (by decide) (by rw [wd_l]; omega), b1, show r4I q 0 = 1 from h3, ge1, ge1, gi_in (by omega) (by decide), gi_in (by omega) (by decide), r4n (by omega), r4n (by omega), h5 a (by omega), h5 (a + 1) (by omega)]
        have nxt := fun (hno : ¬ (tx a = (wdN 12).getD (2 * i) 0 ∧ tx (a + 1) = (wdN 12).getD (2 * i + 1) 0)) => ih (i + 1) (by omega) (by omega) (fun j hj => by
          rcases Nat.lt_or_ge j i with g | g
          · exact hpre j g
          · rw [show j = i by omega]; exact hno)
        by_cases e1 : (wdN 12).getD (2 * i) 0 = tx a
        · rw [if_pos (by rw [e1])]
          by_cases e2 : (wdN 12).getD (2 * i + 1) 0 = tx (a + 1)
          · rw [if_pos (by rw [e2])]
            exact ⟨fun w hw g1 g2 => by rw [wd_ne i (by omega) w hw (by rw [e1, g1]) (by rw [e2, g2])], fun hall => absurd ⟨e1.symm, e2.symm⟩ (hall i (by omega))⟩
          · rw [if_neg (fun w => e2 ((nI_eq (by omega) (by omega)).mp w))]
            exact nxt (fun g => e2 g.2.symm)
        · rw [if_neg (fun w => e1 ((nI_eq (by omega) (by omega)).mp w))]
          exact nxt (fun g => e1 g.1.symm)
  exact key n 0 (by omega) (by omega) (fun j hj => by omega)
theorem wd_v : ∀ w, w < 7 → moN_weekday 0 (nI ((wdN 12).getD (2 * w) 0)) (nI ((wdN 12).getD (2 * w + 1) 0)) = some (nI w) := by decide +kernel
theorem weekday_r {n x y : Nat} (hx : 65 ≤ x ∧ x ≤ 90) (hy : 65 ≤ y ∧ y ≤ 90) : (∀ w, w < 7 → x = (wdN 12).getD (2 * w) 0 → y = (wdN 12).getD (2 * w + 1) 0 → moN_weekday n (nI x) (nI y) = some (nI w)) ∧ ((∀ w, w < 7 → ¬ (x = (wdN 12).getD (2 * w) 0 ∧ y = (wdN 12).getD (2 * w + 1) 0)) → moN_weekday n (nI x) (nI y) = some (-1)) := by
  constructor
  · rintro w hw rfl rfl
    exact wd_v w hw
  · intro hall
    unfold moN_weekday
    rw [show (100 : Int32) * nI x = nI (100 * x) from pk_mul 100 x, nI_add]
    have ne : ∀ c d, c ≤ 90 → 65 ≤ d → d ≤ 90 → ¬ (x = c ∧ y = d) → ¬ nI (100 * x + y) = nI (100 * c + d) := fun c d g0 g1 g2 g w => by
      have := (nI_eq (by omega) (by omega)).mp w
      exact g (by omega)
    rw [if_neg (show ¬ nI (100 * x + y) = (7779 : Int32) from ne 77 79 (by decide) (by decide) (by decide) (hall 0 (by decide))), if_neg (show ¬ nI (100 * x + y) = (8485 : Int32) from ne 84 85 (by decide) (by decide) (by decide) (hall 1 (by decide))), if_neg (show ¬ nI (100 * x + y) = (8769 : Int32) from ne 87 69 (by decide) (by decide) (by decide) (hall 2 (by decide))), if_neg (show ¬ nI (100 * x + y) = (8472 : Int32) from ne 84 72 (by decide) (by decide) (by decide) (hall 3 (by decide))), if_neg (show ¬ nI (100 * x + y) = (7082 : Int32) from ne 70 82 (by decide) (by decide) (by decide) (hall 4 (by decide))), if_neg (show ¬ nI (100 * x + y) = (8365 : Int32) from ne 83 65 (by decide) (by decide) (by decide) (hall 5 (by decide))), if_neg (show ¬ nI (100 * x + y) = (8385 : Int32) from ne 83 85 (by decide) (by decide) (by decide) (hall 6 (by decide)))]
