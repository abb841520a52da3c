/-! Pure: a new thing. -/
theorem begin_c {n k : Nat} {z : Pc4} (hn : 200000 ≤ n) : ∃ z1, moQ6_begin n k z = some z1 ∧ (∀ m, m < 3600 → z1.2.1 (101 + 4 * k) m = 0 ∧ z1.2.1 (102 + 4 * k) m = 0 ∧ z1.2.1 (103 + 4 * k) m = 0) ∧ z1.1 (100 + 4 * k) = 1 ∧ (∀ i, i ≠ 100 + 4 * k → z1.1 i = z.1 i) ∧ (∀ a, a ≠ 101 + 4 * k → a ≠ 102 + 4 * k → a ≠ 103 + 4 * k → z1.2.1 a = z.2.1 a) := by
  unfold moQ6_begin
  obtain ⟨f1, e1, h1⟩ := fillI_n (n := n) (len := 3600) (v := 0) (f := z.2.1 (101 + 4 * k)) (by omega) (by decide)
  rw [e1, b1]
  obtain ⟨f2, e2, h2⟩ := fillI_n (n := n) (len := 3600) (v := 0) (f := (s4F z (101 + 4 * k) f1).2.1 (102 + 4 * k)) (by omega) (by decide)
  rw [e2, b1]
  obtain ⟨f3, e3, h3⟩ := fillI_n (n := n) (len := 3600) (v := 0) (f := (s4F (s4F z (101 + 4 * k) f1) (102 + 4 * k) f2).2.1 (103 + 4 * k)) (by omega) (by decide)
  rw [e3, b1]
  have a3 : (s4F (s4F (s4F z (101 + 4 * k) f1) (102 + 4 * k) f2) (103 + 4 * k) f3).2.1 (103 + 4 * k) = f3 := s4F_self
  have a2 : (s4F (s4F (s4F z (101 + 4 * k) f1) (102 + 4 * k) f2) (103 + 4 * k) f3).2.1 (102 + 4 * k) = f2 := by rw [s4F_ne (by omega)]; exact s4F_self
  have a1 : (s4F (s4F (s4F z (101 + 4 * k) f1) (102 + 4 * k) f2) (103 + 4 * k) f3).2.1 (101 + 4 * k) = f1 := by rw [s4F_ne (by omega), s4F_ne (by omega)]; exact s4F_self
  refine ⟨_, rfl, fun m hm => ⟨?_, ?_, ?_⟩, upd_self, fun i hi => upd_ne hi, fun a g1 g2 g3 => ?_⟩
  · show (s4F (s4F (s4F z (101 + 4 * k) f1) (102 + 4 * k) f2) (103 + 4 * k) f3).2.1 (101 + 4 * k) m = 0
    rw [a1, h1, if_pos hm]
  · show (s4F (s4F (s4F z (101 + 4 * k) f1) (102 + 4 * k) f2) (103 + 4 * k) f3).2.1 (102 + 4 * k) m = 0
    rw [a2, h2, if_pos hm]
  · show (s4F (s4F (s4F z (101 + 4 * k) f1) (102 + 4 * k) f2) (103 + 4 * k) f3).2.1 (103 + 4 * k) m = 0
    rw [a3, h3, if_pos hm]
  · show (s4F (s4F (s4F z (101 + 4 * k) f1) (102 + 4 * k) f2) (103 + 4 * k) f3).2.1 a = z.2.1 a
    rw [s4F_ne g3, s4F_ne g2, s4F_ne g1]
theorem su_eq {q q' : Pc4} {ms ks d : Nat} (h1 : q'.1 = q.1) (h2 : q'.2.2 = q.2.2) : su q' ms ks d = su q ms ks d := by
  unfold su mOk dOk wOk nOk inMo hsB
  rw [h1, h2]
theorem inv_read {qm qm' : Pc3} {z q q' : Pc4} (hI : Inv qm z q) (hm : FM qm qm') (hq : FR q q') (h5 : q'.1 13 = qm'.1 5) (h6 : q'.1 14 = qm'.1 6) (h0 : q'.2.2.2 0 = 1) : Inv qm' z q' := by
  obtain ⟨i1, i2, i3, i4, i5, i6, i7, i8, i9⟩ := hI
  unfold Inv Dts Fst Th1 Rw at *
  rw [hm.2.1 1 (by decide), hm.2.1 2 (by decide), hm.2.1 3 (by decide), hm.2.1 19 (by decide), hm.2.1 20 (by decide), hm.2.1 21 (by decide), hm.2.1 22 (by decide), hm.1 4 (by decide), hm.1 25 (by decide), hm.2.2, hq.1 0 (by decide), hq.1 1 (by decide), hq.2.1 1 (by decide), hq.2.1 3 (by decide), hq.2.1 15 (by decide), hq.2.2.1 12 (by decide) (by decide), hq.2.2.2 1 (by decide) (by decide), h0]
  exact ⟨i1, i2, i3, i4, ⟨h5, h6⟩, i6, i7, by decide, i9⟩
theorem hb_z {f g : Nat → Int32} {k : Nat} (h : ∀ j, f j = if 3425 * k ≤ j ∧ j < 3425 * k + 3425 then 0 else g j) : (∀ d, d < 109573 → hb f k d = false) ∧ (∀ k', k' ≠ k → ∀ d, d < 109573 → hb f k' d = hb g k' d) := by
  constructor
  · intro d hd
    unfold hb
    rw [h, if_pos (by omega)]
    exact b_0 _
  · intro k' hk d hd
    unfold hb
    rw [h, if_neg (by omega)]
/-- the row is made, on both sides -/
theorem thing_T_rc {n k ms ks : Nat} {x1 : Int32} {qm qmA : Pc3} {z z' q q1 q' : Pc4} (hn : 200000 ≤ n) (hk : k < 12) (hx : isD x1 ms ks) (hI : Inv qm z q) (hfm : FM qm qmA) (hfr : FR q q1) (h5 : q1.1 13 = qmA.1 5) (h6 : q1.1 14 = qmA.1 6) (h0 : q1.2.2.2 0 = 1) (hT : RT qmA q1) (hfq : ¬ qmA.2.1 8 0 = 0) (c1 : q'.1 = q1.1) (c2 : q'.2.2 = q1.2.2) (c3 : ∀ a, a ≠ 15 → q'.2.1 a = q1.2.1 a) (c4 : ∀ k', k' ≠ k → q'.2.1 15 k' = q1.2.1 15 k') (c5 : ¬ q'.2.1 15 k = 0) (d1 : ∀ k', k' < 12 → k' ≠ k → z'.1 (100 + 4 * k') = z.1 (100 + 4 * k') ∧ z'.2.1 15 k' = z.2.1 15 k' ∧ z'.2.1 (101 + 4 * k') = z.2.1 (101 + 4 * k') ∧ z'.2.1 (102 + 4 * k') = z.2.1 (102 + 4 * k') ∧ z'.2.1 (103 + 4 * k') = z.2.1 (103 + 4 * k')) (d2 : ¬ z'.2.1 15 k = 0) : ∃ qm2 z2 q3, moQ7_thing_T n x1 (nI k) z' q' = some (.inr (nI k, z2, q3)) ∧ (moM_thing_L88 n (fun z16_2 z16_3 q_16 => (gi z16_3 12 (bd1 (moM_makeAll n z16_3 (sS (sA q_16 19 z16_3 (vp_nar .boolean 1)) 18 z16_2)) fun q_18 => (some (z16_3, q_18))))) n (nI (cumN ms + ks)) (nI k) (3425 * nI k) qmA) = some (nI k, qm2) ∧ qm2.1 0 = qmA.1 0 ∧ Inv qm2 z2 q3 := by
  have hRead := inv_read hI hfm hfr h5 h6 h0
  have hT' := hT
  obtain ⟨r1, r2, ⟨r3, v, v1, v2, r3v⟩, ⟨r4, C, hC, r4C⟩, ⟨mu, ku, hu, hU⟩, -, -, -, -, r10⟩ := hT
  have hin := cum_in hu.1 hu.2.1
  have hS := cum_in hx.1 hx.2.1
  -- the class
  unfold moQ7_thing_T
  rw [nI_clamp (show k < 2 ^ 31 by omega)]
  obtain ⟨z1, e1, zr, zl, zs, za⟩ := begin_c (n := n) (k := k) (z := z') hn
  rw [e1, b1]
  have F1 : (s4F q' 14 (z1.2.1 (101 + 4 * k))).1 = q1.1 := c1
  have F2 : (s4F q' 14 (z1.2.1 (101 + 4 * k))).2.2 = q1.2.2 := c2
  have F14 : (s4F q' 14 (z1.2.1 (101 + 4 * k))).2.1 14 = z1.2.1 (101 + 4 * k) := s4F_self
  have Fa : ∀ a, a ≠ 14 → a ≠ 15 → (s4F q' 14 (z1.2.1 (101 + 4 * k))).2.1 a = q1.2.1 a := fun a g1 g2 => (s4F_ne g1).trans (c3 a g2)
  have F15 : (s4F q' 14 (z1.2.1 (101 + 4 * k))).2.1 15 = q'.2.1 15 := s4F_ne (by decide)
  have hF2 : (s4F q' 14 (z1.2.1 (101 + 4 * k))).2.2.2 2 = q1.2.2.2 2 := by rw [F2]
  obtain ⟨q3, e3, kf, kρ, wb⟩ := fillRow_c (n := n) (ρ := 101 + 4 * k) (v := v) (C := C) (q := s4F q' 14 (z1.2.1 (101 + 4 * k))) hn hx (by unfold Fst; rw [Fa 3 (by decide) (by decide)]; exact hRead.2.2.1) (by rw [hF2]; exact r2.1) (by rw [F1]; exact r10.2) ⟨v1, v2⟩ (by rw [F1]; exact r3v) hC (by rw [F1]; exact r4C) (by rw [F1]; exact hu) (fun m hm => by rw [F14]; exact (zr m hm).1) (fun d => cc (q1.2.2.2 2) (nI v) (cumN ms + ks) d && su q1 ms ks d) (fun d => by rw [hF2, su_eq F1 F2]) (fun r T => (!decide (q1.2.1 7 (366 + r + 1) = 0) || !decide (q1.2.1 7 (366 + r - T) = 0))) (fun r T _ _ => by rw [Fa 7 (by decide) (by decide)]) (XD (fun d => cc (q1.2.2.2 2) (nI v) (cumN ms + ks) d && su q1 ms ks d) (q1.2.2.2 2) (hsB q1 6) (fun r T => (!decide (q1.2.1 7 (366 + r + 1) = 0) || !decide (q1.2.1 7 (366 + r - T) = 0))) (cumN ms + ks) (cumN mu + ku)) (fun d => by unfold hsB; rw [hF2, F1])
  rw [e3, b1]
  -- the reference
  rw [show (3425 : Int32) * nI k = nI (3425 * k) from pk_mul 3425 k]
  obtain ⟨qmB, b0, b1', b2', b3, b4⟩ := zero88 (n := n) (k := k) (x2 := nI (cumN ms + ks)) (K0 := fun z16_2 z16_3 q_16 => (gi z16_3 12 (bd1 (moM_makeAll n z16_3 (sS (sA q_16 19 z16_3 (vp_nar .boolean 1)) 18 z16_2)) fun q_18 => (some (z16_3, q_18))))) (q := qmA) hk n (3425 * k) qmA (Nat.le_refl _) (by omega) (by omega) rfl rfl (fun _ _ _ _ => rfl) (fun a _ j => by rw [if_neg (by omega)])
  rw [b0, gi_in hk (by decide), nb1.1]
  have z20 := hb_z (b4 20 (Or.inl rfl))
  have z21 := hb_z (b4 21 (Or.inr (Or.inl rfl)))
  have z22 := hb_z (b4 22 (Or.inr (Or.inr rfl)))
  have C1 : ∀ i, i ≠ 18 → (sS (sA qmB 19 (nI k) 1) 18 (nI (cumN ms + ks))).1 i = qmA.1 i := fun i hi => (upd_ne hi).trans (by show qmB.1 i = _; rw [b1'])
  have Ca : ∀ a, a ≠ 19 → (sS (sA qmB 19 (nI k) 1) 18 (nI (cumN ms + ks))).2.1 a = qmB.2.1 a := fun a ha => sA_ne ha
  have Cb : ∀ a, a ≠ 19 → a ≠ 20 → a ≠ 21 → a ≠ 22 → (sS (sA qmB 19 (nI k) 1) 18 (nI (cumN ms + ks))).2.1 a = qmA.2.1 a := fun a h1 h2 h3 h4 => (Ca a h1).trans (b3 a h2 h3 h4)
  have C19 : (sS (sA qmB 19 (nI k) 1) 18 (nI (cumN ms + ks))).2.1 19 = upd (qmA.2.1 19) k 1 := by
    show (sA qmB 19 (nI k) 1).2.1 19 = _
    rw [sA_k (by omega), b3 19 (by decide) (by decide) (by decide)]
  have C18 : (sS (sA qmB 19 (nI k) 1) 18 (nI (cumN ms + ks))).1 18 = nI (cumN ms + ks) := rfl
  have C22 : (sS (sA qmB 19 (nI k) 1) 18 (nI (cumN ms + ks))).2.2 = qmA.2.2 := b2'
  generalize (sS (sA qmB 19 (nI k) 1) 18 (nI (cumN ms + ks))) = qmC at *
  have hRC : RC qmC q1 ms ks := by
    refine ⟨?_, ?_, ?_, ?_, C18, hx.1, hx.2.1⟩
    · unfold RT at *
      rw [Cb 8 (by decide) (by decide) (by decide) (by decide), Cb 13 (by decide) (by decide) (by decide) (by decide), Cb 14 (by decide) (by decide) (by decide) (by decide), Cb 15 (by decide) (by decide) (by decide) (by decide), Cb 16 (by decide) (by decide) (by decide) (by decide), C1 9 (by decide), C1 10 (by decide), C1 11 (by decide), C1 12 (by decide), C1 17 (by decide)]
      exact hT'
    · rw [C1 9 (by decide)]; exact r2.2 hfq
    · unfold Dts; rw [Cb 1 (by decide) (by decide) (by decide) (by decide)]; exact hRead.1
    · rw [Cb 2 (by decide) (by decide) (by decide) (by decide)]; exact hRead.2.1
  obtain ⟨qm2, m1, km, rb⟩ := makeAll_r (n := n) (k := k) (S := cumN ms + ks) (U := cumN mu + ku) (C := C) (I := nI v) (h6 := hsB q1 6) hn hk hRC rfl (by rw [C1 10 (by decide), r3, r3v]) (nI_ne0 (by omega) (by omega)) hC (by rw [C1 11 (by decide), r4, r4C]) ⟨hin, by rw [C1 12 (by decide)]; exact hU⟩ rfl (fun d => cc (q1.2.2.2 2) (nI v) (cumN ms + ks) d && su q1 ms ks d) (fun d => rfl) (fun r T => (!decide (q1.2.1 7 (366 + r + 1) = 0) || !decide (q1.2.1 7 (366 + r - T) = 0))) (fun r T _ _ => rfl) (XD (fun d => cc (q1.2.2.2 2) (nI v) (cumN ms + ks) d && su q1 ms ks d) (q1.2.2.2 2) (hsB q1 6) (fun r T => (!decide (q1.2.1 7 (366 + r + 1) = 0) || !decide (q1.2.1 7 (366 + r - T) = 0))) (cumN ms + ks) (cumN mu + ku)) (fun d => rfl) (fun d hd => by rw [Ca 20 (by decide)]; exact z20.1 d hd)
  rw [m1, b1]
  refine ⟨qm2, _, q3, rfl, rfl, by rw [km.1]; exact C1 0 (by decide), ?_⟩
  -- the tie
  obtain ⟨i1, i2, i3, i4, i5, i6, i7, i8, i9⟩ := hRead
  have Q1 : ∀ i, i < 15 ∨ 18 < i → q3.1 i = q1.1 i := fun i hi => (kf.1 i hi).trans (by rw [F1])
  have Qa : ∀ a, a ≠ 10 → a ≠ 14 → a ≠ 15 → q3.2.1 a = q1.2.1 a := fun a g1 g2 g3 => (kf.2.1 a g1 g2).trans (Fa a g2 g3)
  have Q15 : q3.2.1 15 = q'.2.1 15 := (kf.2.1 15 (by decide) (by decide)).trans F15
  have M1 : ∀ i, i ≠ 18 → qm2.1 i = qmA.1 i := fun i hi => by rw [km.1]; exact C1 i hi
  have Ma : ∀ a, a ≠ 19 → a ≠ 20 → a ≠ 21 → a ≠ 22 → a ≠ 23 → qm2.2.1 a = qmA.2.1 a := fun a g1 g2 g3 g4 g5 => (km.2.1 a g2 g5).trans (Cb a g1 g2 g3 g4)
  have M19 : qm2.2.1 19 = upd (qmA.2.1 19) k 1 := (km.2.1 19 (by decide) (by decide)).trans C19
  have M21 : qm2.2.1 21 = qmB.2.1 21 := (km.2.1 21 (by decide) (by decide)).trans (Ca 21 (by decide))
  have M22 : qm2.2.1 22 = qmB.2.1 22 := (km.2.1 22 (by decide) (by decide)).trans (Ca 22 (by decide))
  refine ⟨?_, ?_, ?_, ?_, ?_, ?_, fun k' hk' => ?_, ?_, ?_⟩
  · unfold Dts; rw [Ma 1 (by decide) (by decide) (by decide) (by decide) (by decide)]; exact i1
  · rw [Ma 2 (by decide) (by decide) (by decide) (by decide) (by decide)]; exact i2
  · unfold Fst; rw [Qa 3 (by decide) (by decide) (by decide)]; exact i3
  · rw [Q1 0 (by decide), M1 4 (by decide), Qa 1 (by decide) (by decide) (by decide), Ma 3 (by decide) (by decide) (by decide) (by decide) (by decide)]; exact i4
  · rw [Q1 13 (by decide), Q1 14 (by decide), M1 5 (by decide), M1 6 (by decide)]; exact i5
  · rw [Q1 1 (by decide), M1 25 (by decide), kf.2.2.1, F2, km.2.2, C22]; exact i6
  · by_cases c : k' = k
    · subst c
      have z15 : (s4F z1 (101 + 4 * k') (q3.2.1 14)).2.1 15 k' = z'.2.1 15 k' := by rw [s4F_ne (by omega), za 15 (by omega) (by omega) (by omega)]
      have z101 : (s4F z1 (101 + 4 * k') (q3.2.1 14)).2.1 (101 + 4 * k') = q3.2.1 14 := s4F_self
      have z102 : (s4F z1 (101 + 4 * k') (q3.2.1 14)).2.1 (102 + 4 * k') = z1.2.1 (102 + 4 * k') := s4F_ne (by omega)
      have z103 : (s4F z1 (101 + 4 * k') (q3.2.1 14)).2.1 (103 + 4 * k') = z1.2.1 (103 + 4 * k') := s4F_ne (by omega)
      refine ⟨?_, ?_, fun _ => ⟨?_, ?_, ?_⟩⟩
      · rw [z15, Q15]
        exact ⟨fun g => absurd g c5, fun g => absurd g d2⟩
      · rw [M19, upd_self, Q15]
        exact ⟨fun _ => ⟨c5, by show ¬ z1.1 (100 + 4 * k') = 0; rw [zl]; decide⟩, fun _ => by decide⟩
      · rw [z101]
        intro m hm j hj
        rw [wb m hm j hj]
        by_cases cj : j < mlN m
        · have hd := cum_in hm cj
          rw [rb.1 _ hd, decide_eq_true hd, Bool.true_and]
        · rw [decide_eq_false cj]; rfl
      · rw [z102, M22]
        intro m hm j hj
        rw [(zr m hm).2.1, b_0]
        by_cases cj : j < mlN m
        · rw [z22.1 _ (cum_in hm cj), Bool.and_false]
        · rw [decide_eq_false cj]; rfl
      · rw [z103, M21]
        intro m hm j hj
        rw [(zr m hm).2.2, b_0]
        by_cases cj : j < mlN m
        · rw [z21.1 _ (cum_in hm cj), Bool.and_false]
        · rw [decide_eq_false cj]; rfl
    · obtain ⟨t1, t2, t3⟩ := i7 k' hk'
      obtain ⟨dz0, dz1, dz2, dz3, dz4⟩ := d1 k' hk' c
      have z15 : (s4F z1 (101 + 4 * k) (q3.2.1 14)).2.1 15 k' = z.2.1 15 k' := by rw [s4F_ne (by omega), za 15 (by omega) (by omega) (by omega)]; exact dz1
      have z100 : (s4F z1 (101 + 4 * k) (q3.2.1 14)).1 (100 + 4 * k') = z.1 (100 + 4 * k') := by
        show z1.1 (100 + 4 * k') = _
        rw [zs _ (by omega)]; exact dz0
      have z101 : (s4F z1 (101 + 4 * k) (q3.2.1 14)).2.1 (101 + 4 * k') = z.2.1 (101 + 4 * k') := by rw [s4F_ne (by omega), za _ (by omega) (by omega) (by omega)]; exact dz2
      have z102 : (s4F z1 (101 + 4 * k) (q3.2.1 14)).2.1 (102 + 4 * k') = z.2.1 (102 + 4 * k') := by rw [s4F_ne (by omega), za _ (by omega) (by omega) (by omega)]; exact dz3
      have z103 : (s4F z1 (101 + 4 * k) (q3.2.1 14)).2.1 (103 + 4 * k') = z.2.1 (103 + 4 * k') := by rw [s4F_ne (by omega), za _ (by omega) (by omega) (by omega)]; exact dz4
      refine ⟨?_, ?_, fun g => ?_⟩
      · rw [z15, Q15, c4 k' c]; exact t1
      · rw [M19, upd_ne c, Q15, c4 k' c, z100]; exact t2
      · rw [M19, upd_ne c] at g
        obtain ⟨w1, w2, w3⟩ := t3 g
        unfold Rw
        rw [z101, z102, z103, M22, M21]
        refine ⟨fun m hm j hj => ?_, fun m hm j hj => ?_, fun m hm j hj => ?_⟩
        · rw [w1 m hm j hj]
          by_cases cj : j < mlN m
          · rw [rb.2 k' hk' c _ (cum_in hm cj), Ca 20 (by decide), z20.2 k' c _ (cum_in hm cj)]
          · rw [decide_eq_false cj]; rfl
        · rw [w2 m hm j hj]
          by_cases cj : j < mlN m
          · rw [z22.2 k' c _ (cum_in hm cj)]
          · rw [decide_eq_false cj]; rfl
        · rw [w3 m hm j hj]
          by_cases cj : j < mlN m
          · rw [z21.2 k' c _ (cum_in hm cj)]
          · rw [decide_eq_false cj]; rfl
  · rw [kf.2.2.2 0 (by decide), F2, h0]; decide
  · exact Or.inr ⟨k, hk, kρ, by rw [Q15]; exact c5⟩
theorem k_thing {n : Nat} (hn : 200000 ≤ n) {qm : Pc3} {z q : Pc4} (f : Nat → Int64) (hI : Inv qm z q) (x1 : Int32) : SK_thing n qm z q f x1 (fun qm z q _ => Inv qm z q) := by
  unfold SK_thing moL_thing moM_thing moQ7_thing
  rcases date_or hn hI.1 x1 with ⟨ms, ks, hD, e3, e4, hdd, h31⟩ | ⟨e3, e4⟩
  · have hI0 : Inv (sS qm 0 0) z q := hI
    rw [e3, bxr, e4, b1, if_pos (ge0 hdd)]
    rcases free_rc (n := n) (qm := sS qm 0 0) (x2 := nI (cumN ms + ks)) (K0 := fun z6_2 z6_3 q_6 => (moM_thing_B42 n z6_2 z6_3 q_6)) hn hI0.2.2.2.2.2.2.1 with ⟨k, hk, h19, g1, g2⟩ | ⟨g1, g2⟩
    · rw [g1, b1, g2, if_neg (nI_m1 (by omega))]
      unfold moM_thing_B42
      rw [if_neg (show ¬ (0 : Int32) < rS (sS qm 0 0) 0 from by show ¬ (0 : Int32) < 0; decide), if_neg (show ¬ nI k = (12 : Int32) from fun w => by have := (nI_eq (b := 12) (by omega) (by decide)).mp w; omega)]
      obtain ⟨qmA, q1, p1, p2, p3, p4, p5, p6, p7, p8⟩ := read_rc (n := n) hn hI0
      rw [p1, b1, show moQ4_readRule n (r4S q 0) q = some q1 from p2, b1]
      rcases p8 with ⟨p8, pT, pF⟩ | p8
      · rw [if_pos (show rS qmA 5 ≤ 0 from by show qmA.1 5 ≤ 0; rw [p8]; decide), if_pos (show r4S q1 13 = 0 from by show q1.1 13 = 0; rw [p5]; exact p8), gi_in hk (by decide), nI_clamp (show k < 2 ^ 31 by omega)]
        have e15 : q1.2.1 15 = q.2.1 15 := p4.2.1 15 (by decide)
        have ix1 : q1.2.2.2 1 = q.2.2.2 1 := p4.2.2.2 1 (by decide) (by decide)
        obtain ⟨t1, t2, t3⟩ := hI0.2.2.2.2.2.2.1 k hk
        have fin : ∀ z' q', q'.1 = q1.1 → q'.2.2 = q1.2.2 → (∀ a, a ≠ 15 → q'.2.1 a = q1.2.1 a) → (∀ k', k' ≠ k → q'.2.1 15 k' = q1.2.1 15 k') → ¬ q'.2.1 15 k = 0 → (∀ k', k' < 12 → k' ≠ k → z'.1 (100 + 4 * k') = z.1 (100 + 4 * k') ∧ z'.2.1 15 k' = z.2.1 15 k' ∧ z'.2.1 (101 + 4 * k') = z.2.1 (101 + 4 * k') ∧ z'.2.1 (102 + 4 * k') = z.2.1 (102 + 4 * k') ∧ z'.2.1 (103 + 4 * k') = z.2.1 (103 + 4 * k')) → ¬ z'.2.1 15 k = 0 → ∃ res r qm1, hL1 0 (moQ7_thing_T n x1 (nI k) z' q') z q f (fun x => (0, x.2.1, x.2.2, vp_updL f 0 x.1.toInt64)) = some res ∧ (moM_thing_L88 n (fun z16_2 z16_3 q_16 => (gi z16_3 12 (bd1 (moM_makeAll n z16_3 (sS (sA q_16 19 z16_3 (vp_nar .boolean 1)) 18 z16_2)) fun q_18 => (some (z16_3, q_18))))) n (nI (cumN ms + ks)) (nI k) (3425 * nI k) qmA) = some (r, qm1) ∧ moM_thrown n qm1 = some res.1 ∧ (res.1 = 0 → res.2.2.2 0 = r.toInt64) ∧ Inv qm1 res.2.1 res.2.2.1 := by
          intro z' q' c1 c2 c3 c4 c5 d1 d2
          obtain ⟨qm2, z2, q3, m1, m2, m3, m4⟩ := thing_T_rc (n := n) hn hk hD hI0 p3 p4 p5 p6 p7 pT pF c1 c2 c3 c4 c5 d1 d2
          rw [m1, m2]
          refine ⟨_, _, _, rfl, rfl, ?_, fun _ => upL_0 (f := f), m4⟩
          show some (qm2.1 0) = some 0
          rw [m3, p3.1 0 (by decide)]
          rfl
        by_cases c15 : q.2.1 15 k = 0
        · rw [if_pos (by rw [e15]; exact c15)]
          have z15 : z.2.1 15 k = 0 := t1.mp c15
          have gd : z.2.1 15 k = 0 ∧ (q1.2.2.2 0 < 100 + 4 * k ∨ 103 + 4 * k < q1.2.2.2 0) ∧ (q1.2.2.2 1 < 100 + 4 * k ∨ 103 + 4 * k < q1.2.2.2 1) := by
            refine ⟨z15, by rw [p7]; omega, ?_⟩
            rw [ix1]
            rcases hI0.2.2.2.2.2.2.2.2 with g | ⟨j, hj, gj, gf⟩
            · omega
            · have : j ≠ k := fun e => by rw [e] at gf; exact gf c15
              omega
          unfold gp
          rw [if_pos gd]
          refine fin (zN z k) (qN q1 k) rfl rfl (fun a ha => s4F_ne ha) (fun k' hk' => ?_) ?_ (fun k' hk' hne => ⟨?_, ?_, ?_, ?_, ?_⟩) ?_
          · show (s4F q1 15 (upd (q1.2.1 15) k 1)).2.1 15 k' = _
            rw [s4F_self, upd_ne hk']
          · show ¬ (s4F q1 15 (upd (q1.2.1 15) k 1)).2.1 15 k = 0
            rw [s4F_self, upd_self]; decide
          · show upd z.1 (100 + 4 * k) 0 (100 + 4 * k') = _
            rw [upd_ne (by omega)]
          · unfold zN; rw [s4F_self, upd_ne hne]
          · unfold zN; rw [s4F_ne (by omega), s4F_ne (by omega), s4F_ne (by omega), s4F_ne (by omega)]; rfl
          · unfold zN; rw [s4F_ne (by omega), s4F_ne (by omega), s4F_ne (by omega), s4F_ne (by omega)]; rfl
          · unfold zN; rw [s4F_ne (by omega), s4F_ne (by omega), s4F_ne (by omega), s4F_ne (by omega)]; rfl
          · unfold zN; rw [s4F_self, upd_self]; decide
        · have z15 : ¬ z.2.1 15 k = 0 := fun g => c15 (t1.mpr g)
          rw [if_neg (by rw [e15]; exact c15), gz_in z15]
          exact fin z q1 rfl rfl (fun _ _ => rfl) (fun _ _ => rfl) (by rw [e15]; exact c15) (fun _ _ _ => ⟨rfl, rfl, rfl, rfl, rfl⟩) z15
      · have h13 : ¬ q1.1 13 = 0 := fun e => p8 (by rw [← p5, e]; decide)
        rw [if_neg (show ¬ rS qmA 5 ≤ 0 from p8), if_neg (show ¬ r4S q1 13 = 0 from h13)]
        refine ⟨_, _, _, rfl, rfl, ?_, fun _ => upL_0 (f := f), inv_read hI0 p3 p4 p5 p6 p7⟩
        show some (qmA.1 0) = some 0
        rw [p3.1 0 (by decide)]
        rfl
    · rw [g1, b1, g2, if_pos rfl]
      unfold moM_thing_B42
      rw [if_neg (show ¬ (0 : Int32) < rS (sS qm 0 0) 0 from by show ¬ (0 : Int32) < 0; decide), if_pos rfl, if_pos (show rS (sS qm 0 0) 0 ≤ 0 from by show (0 : Int32) ≤ 0; decide)]
      exact ⟨_, _, _, rfl, rfl, rfl, fun _ => upL_0 (f := f), hI⟩
  · have hI1 : Inv (sS qm 0 1) z q := hI
    have fin : ∀ (x2 x3 : Int32), moM_thing_B42 n x2 x3 (sS qm 0 1) = some (0, sS qm 0 1) := fun x2 x3 => by
      unfold moM_thing_B42
      rw [if_pos (show (0 : Int32) < rS (sS qm 0 1) 0 from by show (0 : Int32) < 1; decide), if_neg (show ¬ rS (sS qm 0 1) 0 ≤ 0 from by show ¬ (1 : Int32) ≤ 0; decide)]
    rw [e3, bxl, e4, b1, if_neg (show ¬ (0 : Int32) ≤ -1 by decide)]
    rcases free_rc (n := n) (qm := sS qm 0 1) (x2 := -1) (K0 := fun z20_2 z20_3 q_20 => (moM_thing_B42 n z20_2 z20_3 q_20)) hn hI1.2.2.2.2.2.2.1 with ⟨k, hk, h19, g1, g2⟩ | ⟨g1, g2⟩
    · rw [g2, fin]
      exact ⟨_, _, _, rfl, rfl, rfl, fun w => absurd w n_10, hI⟩
    · rw [g2, fin]
      exact ⟨_, _, _, rfl, rfl, rfl, fun w => absurd w n_10, hI⟩
