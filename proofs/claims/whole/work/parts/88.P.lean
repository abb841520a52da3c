/-! Pure: reading a rule: all of it. -/
theorem gi8 {α : Type} {f : Option α} : gi 0 8 f = f ∧ gi 2 8 f = f ∧ gi 3 8 f = f ∧ gi 4 8 f = f ∧ gi 5 8 f = f ∧ gi 6 8 f = f ∧ gi 7 8 f = f := ⟨gi_in (i := 0) (by decide) (by decide), gi_in (i := 2) (by decide) (by decide), gi_in (i := 3) (by decide) (by decide), gi_in (i := 4) (by decide) (by decide), gi_in (i := 5) (by decide) (by decide), gi_in (i := 6) (by decide) (by decide), gi_in (i := 7) (by decide) (by decide)⟩
theorem tog_169 {n : Nat} {q F : Pc3} {a5 fw s t : Bool} (hF : moM_fail n 4 (rS q 4) q = some F) (h5 : (rA q 8 5 = 0) = (a5 = false)) (hw : (rS q 9 = 1) = (fw = true)) : moM_readRule_B169 n (sgI s) (sgI t) q = some (if ((a5 && fw) || s || t) = true then F else q) := by
  unfold moM_readRule_B169
  rw [gi8.2.2.2.2.1, hF, b1]
  have e0 : ∀ b : Bool, (sgI b = 0) = (b = false) := by intro b; cases b <;> decide
  simp only [h5, hw, e0]
  cases a5 <;> cases fw <;> cases s <;> cases t <;> rfl
def okc (a0 a2 a3 a4 a5 a6 a7 fw s : Bool) : Bool := a0 && !(a2 && a3) && !(a5 && fw) && !s && !(a6 && !a4 && !a5 && !a7)
theorem tog_97 {n : Nat} {q F : Pc3} {a0 a2 a3 a4 a5 a6 a7 fw s : Bool} (hF : moM_fail n 4 (rS q 4) q = some F) (h0 : (rA q 8 0 = 0) = (a0 = false)) (h2 : (rA q 8 2 = 0) = (a2 = false)) (h3 : (rA q 8 3 = 0) = (a3 = false)) (h4 : (rA q 8 4 = 0) = (a4 = false)) (h5 : (rA q 8 5 = 0) = (a5 = false)) (h6 : (rA q 8 6 = 0) = (a6 = false)) (h7 : (rA q 8 7 = 0) = (a7 = false)) (hw : (rS q 9 = 1) = (fw = true)) : moM_readRule_B97 n (sgI s) q = some (if okc a0 a2 a3 a4 a5 a6 a7 fw s = true then q else F) := by
  unfold moM_readRule_B97
  have k0 : moM_readRule_B169 n (sgI s) 0 q = some (if ((a5 && fw) || s || false) = true then F else q) := tog_169 (t := false) hF h5 hw
  have k1 : moM_readRule_B169 n (sgI s) 1 q = some (if ((a5 && fw) || s || true) = true then F else q) := tog_169 (t := true) hF h5 hw
  rw [hF, b1, k0, k1]
  simp only [gi8.1, gi8.2.1, gi8.2.2.1, gi8.2.2.2.1, gi8.2.2.2.2.1, gi8.2.2.2.2.2.1, gi8.2.2.2.2.2.2, h0, h2, h3, h4, h5, h6, h7]
  cases a0 <;> cases a2 <;> cases a3 <;> cases a4 <;> cases a5 <;> cases a6 <;> cases a7 <;> cases fw <;> cases s <;> rfl
theorem tog_r {n : Nat} {q F : Pc3} {a0 a2 a3 a4 a5 a6 a7 fw fl nb : Bool} (hF : moM_fail n 4 (rS q 4) q = some F) (h0 : (rA q 8 0 = 0) = (a0 = false)) (h2 : (rA q 8 2 = 0) = (a2 = false)) (h3 : (rA q 8 3 = 0) = (a3 = false)) (h4 : (rA q 8 4 = 0) = (a4 = false)) (h5 : (rA q 8 5 = 0) = (a5 = false)) (h6 : (rA q 8 6 = 0) = (a6 = false)) (h7 : (rA q 8 7 = 0) = (a7 = false)) (hw : (rS q 9 = 1) = (fw = true)) (hl : (rS q 9 < 2) = (fl = true)) (hb : (rS q 17 = 0) = (nb = false)) : (if (rS q 17) = 0 then (moM_readRule_B97 n 0 q) else (if (rS q 9) < 2 then (moM_readRule_B97 n 1 q) else (gi 5 8 (if (rA q 8 5) = 0 then (moM_readRule_B97 n 0 q) else (moM_readRule_B97 n 1 q))))) = some (if okb a0 a2 a3 a4 a5 a6 a7 fw fl nb = true then q else F) := by
  have k0 : moM_readRule_B97 n 0 q = some (if okc a0 a2 a3 a4 a5 a6 a7 fw false = true then q else F) := tog_97 (s := false) hF h0 h2 h3 h4 h5 h6 h7 hw
  have k1 : moM_readRule_B97 n 1 q = some (if okc a0 a2 a3 a4 a5 a6 a7 fw true = true then q else F) := tog_97 (s := true) hF h0 h2 h3 h4 h5 h6 h7 hw
  rw [k0, k1]
  simp only [gi8.2.2.2.2.1, h5, hl, hb]
  cases nb <;> cases fl <;> cases a5 <;> rfl
def FR (q q' : Pc4) : Prop := (∀ i, i < 2 ∨ 14 < i → q'.1 i = q.1 i) ∧ (∀ a, a ≠ 7 → q'.2.1 a = q.2.1 a) ∧ (∀ a, a ≠ 5 → a ≠ 6 → q'.2.2.1 a = q.2.2.1 a) ∧ (∀ i, i ≠ 2 → i ≠ 0 → q'.2.2.2 i = q.2.2.2 i)
theorem last_d : isD 21991231 3599 30 ∧ cumN 3599 + 30 = 109572 := by
  have h1 : mlN 3599 = 31 := by decide
  have h2 := cum_s 3599
  rw [show cumN (3599 + 1) = 109573 from cum_top, h1] at h2
  exact ⟨⟨by decide, by rw [h1]; decide, by decide⟩, by omega⟩
theorem RT_0 {qm : Pc3} {q : Pc4} (m10 : qm.1 10 = 1) (m11 : qm.1 11 = 1000000) (m12 : qm.1 12 = 109573) (m17 : qm.1 17 = 0) (a16 : ∀ j, j < 749 → qm.2.1 16 j = 0) (a15 : ∀ j, j < 733 → qm.2.1 15 j = 0) (a14 : ∀ j, j < 63 → qm.2.1 14 j = 0) (a13 : ∀ j, j < 13 → qm.2.1 13 j = 0) (a8 : ∀ j, j < 8 → qm.2.1 8 j = 0) (c2 : q.1 2 = 0) (cI : q.2.2.2 2 = 0) (c3 : q.1 3 = 1) (c4 : q.1 4 = 1000000) (c5 : q.1 5 = 21991231) (c6 : q.1 6 = 0) (c7 : q.1 7 = 0) (c8 : q.1 8 = 0) (c9 : q.1 9 = 0) (c10 : q.1 10 = 0) (cw : ∀ w, w < 7 → q.2.2.1 5 w = 0 ∧ q.2.2.1 6 w = 0) (cp : ∀ j, j < 733 → q.2.1 7 j = 0) : RT qm q := by
  have bL0 : ∀ i, bL 0 i = false := fun i => BitVec.getLsbD_zero
  refine ⟨fun k hk => ?_, ⟨by rw [cI]; decide, fun g => absurd (a8 0 (by decide)) g⟩, ⟨by rw [m10, c3], 1, by decide, by decide, c3⟩, ⟨by rw [m11, c4], 1000000, by decide, c4⟩, ⟨3599, 30, by rw [c5]; exact last_d.1, Or.inr ⟨last_d.2, m12⟩⟩, fun v h1 h2 => ?_, fun v h1 h2 => ⟨?_, ?_⟩, fun i hi => ?_, fun w hw => ⟨?_, fun v h1 h2 => ⟨?_, ?_⟩⟩, ?_⟩
  · rw [a8 k hk, c2, b_0]; exact ⟨fun _ => rfl, fun _ => rfl⟩
  · rw [a13 v (by omega), c6, b_0]; exact ⟨fun _ => rfl, fun _ => rfl⟩
  · rw [a14 _ (by omega), c7, b_0]; exact ⟨fun _ => rfl, fun _ => rfl⟩
  · rw [a14 _ (by omega), c8, b_0]; exact ⟨fun _ => rfl, fun _ => rfl⟩
  · rw [a15 i hi, cp i hi]
  · rw [a16 _ (by omega), c9, b_0]; exact ⟨fun _ => rfl, fun _ => rfl⟩
  · rw [a16 _ (by omega), (cw w hw).1, bL0]; exact ⟨fun _ => rfl, fun _ => rfl⟩
  · rw [a16 _ (by omega), (cw w hw).2, bL0]; exact ⟨fun _ => rfl, fun _ => rfl⟩
  · rw [m17, c10, c9]; exact ⟨Iff.rfl, fun i _ _ => b_0 i⟩
theorem read_rc {n : Nat} {qm : Pc3} {z q : Pc4} (hn : 200000 ≤ n) (hI : Inv qm z q) : ∃ qm' q', moM_readRule n qm = some qm' ∧ moQ4_readRule n (q.1 0) q = some q' ∧ FM qm qm' ∧ FR q q' ∧ q'.1 13 = qm'.1 5 ∧ q'.1 14 = qm'.1 6 ∧ q'.2.2.2 0 = 1 ∧ ((qm'.1 5 = 0 ∧ RT qm' q' ∧ ¬ qm'.2.1 8 0 = 0) ∨ ¬ qm'.1 5 ≤ 0) := by
  obtain ⟨t, ht, e0, e4, htx⟩ := hI.2.2.2.1
  have hDts := hI.1
  unfold moM_readRule moQ4_readRule
  have emin : minI (q.1 0) 200 = nI t := by
    rw [e0]
    unfold minI
    rw [if_neg (show ¬ (200 : Int32) < nI t from nI_nlt (a := 200) ht (by decide))]
  rw [emin]
  obtain ⟨qm1, f0, fm, m5, m6, m7, m10, m11, m12, m17, a16, a15, a14, a13, a8⟩ := forget_r (n := n) (q := qm) hn
  obtain ⟨q1, g0, fq, c2, cI, c3, c4, c5, c6, c7, c8, c9, c10, c12, c13, c14, cw, cp⟩ := forget_c (n := n) (q := s4S (s4S (s4S (s4S (s4I q 0 1) 11 (nI t)) 12 0) 13 0) 14 (-1)) hn
  rw [f0, b1, g0, b1]
  have hfr0 : ∀ q', FQ (s4S (s4S (s4S (s4S (s4I q 0 1) 11 (nI t)) 12 0) 13 0) 14 (-1)) q' → FR q q' := fun q' h => by
    refine ⟨fun i hi => ?_, h.2.1, h.2.2.1, fun i h2 h0 => ?_⟩
    · rw [h.1 i (decide_eq_false (fun w => by omega))]
      show upd (upd (upd (upd q.1 11 (nI t)) 12 0) 13 0) 14 (-1) i = q.1 i
      rw [upd_ne (by omega), upd_ne (by omega), upd_ne (by omega), upd_ne (by omega)]
    · rw [h.2.2.2 i h2]
      exact va_up_ne q.2.2.2 1 h0
  have hix0 : ∀ q', FQ (s4S (s4S (s4S (s4S (s4I q 0 1) 11 (nI t)) 12 0) 13 0) 14 (-1)) q' → q'.2.2.2 0 = 1 := fun q' h => (h.2.2.2 0 (by decide)).trans (va_up_self q.2.2.2 0 1)
  have htx2 : ∀ i, i < t → (qm.2.1 3 i).toNatClampNeg < 256 ∧ qm.2.1 3 i = nI (qm.2.1 3 i).toNatClampNeg := fun i hi => by
    obtain ⟨_, v, hv, e⟩ := htx i hi
    rw [e, nI_clamp (by omega)]
    exact ⟨hv, rfl⟩
  have hRS : RS (fun i => (qm.2.1 3 i).toNatClampNeg) t qm1 q1 0 := by
    refine ⟨⟨ht, fun i hi => (htx2 i hi).1, hix0 q1 fq, (fq.1 11 (by decide)).trans rfl, fun i hi => ?_, c12, Nat.zero_le _⟩, ⟨ht, fun i hi => (htx2 i hi).1, (fm.1 4 (by decide)).trans e4, fun i hi => ?_, m7⟩, c13, m5, ?_, RT_0 m10 m11 m12 m17 a16 a15 a14 a13 a8 c2 cI c3 c4 c5 c6 c7 c8 c9 c10 cw cp, ?_⟩
    · rw [fq.2.1 1 (by decide)]
      show q.2.1 1 i = _
      rw [(htx i hi).1]; exact (htx2 i hi).2
    · rw [fm.2.1 3 (by decide)]; exact (htx2 i hi).2
    · rw [c14, m6]; rfl
    · unfold Dts; rw [fm.2.1 1 (by decide)]; exact hDts
  obtain ⟨qm2, q2, p1, p2, p3, p4, p5⟩ := part_rc (n := n) hn hRS
  obtain ⟨qm3, q3, j1, j2, j3, j4, j5⟩ := rule_L (n := n) hn n 0 0 qm2 q2 (Nat.le_refl _) (by omega) (by omega) p5
  rw [p1, b1, j1, p2, b1, show moQ4_readRule_L43 n _ n 0 q2 = _ from j2 _]
  have hfm : FM qm qm3 := (fm.trans p3).trans j3
  have hfq : FQ (s4S (s4S (s4S (s4S (s4I q 0 1) 11 (nI t)) 12 0) 13 0) 14 (-1)) q3 := (fq.trans p4).trans j4
  have hb : ∀ (k : Nat) (x : Int32), x = nI k → k < 8 → rA qm3 8 x = qm3.2.1 8 k := fun k x e hk => by subst e; exact r3n (by omega)
  have bool0 : ∀ y : Int32, (y = 0) = ((!decide (y = 0)) = false) := fun y => propext ⟨fun e => by rw [decide_eq_true e]; rfl, fun e => by
    cases h : decide (y = 0) with
    | true => exact of_decide_eq_true h
    | false => rw [h] at e; cases e⟩
  rcases j5 with ⟨p', h⟩ | h
  · have hT := h.2.2.2.2.2.1
    have h13 := h.2.2.1
    have h5 := h.2.2.2.1
    have hs4 : rS qm3 4 = nI t := h.2.1.2.2.1
    have hs11 : r4S q3 11 = nI t := h.1.2.2.2.1
    have hbit : ∀ k, k < 8 → (qm3.2.1 8 k = 0) = (bt (q3.1 2) k = false) := fun k hk => propext (hT.1 k hk)
    have hr := tog_r (n := n) (q := qm3) (F := flM qm3 4 (nI t)) (a0 := bt (q3.1 2) 0) (a2 := bt (q3.1 2) 2) (a3 := bt (q3.1 2) 3) (a4 := bt (q3.1 2) 4) (a5 := bt (q3.1 2) 5) (a6 := bt (q3.1 2) 6) (a7 := bt (q3.1 2) 7) (fw := decide (rS qm3 9 = 1)) (fl := decide (rS qm3 9 < 2)) (nb := !decide (rS qm3 17 = 0)) (by rw [hs4]; exact fail_r0 h5) (by rw [hb 0 0 rfl (by decide)]; exact hbit 0 (by decide)) (by rw [hb 2 2 rfl (by decide)]; exact hbit 2 (by decide)) (by rw [hb 3 3 rfl (by decide)]; exact hbit 3 (by decide)) (by rw [hb 4 4 rfl (by decide)]; exact hbit 4 (by decide)) (by rw [hb 5 5 rfl (by decide)]; exact hbit 5 (by decide)) (by rw [hb 6 6 rfl (by decide)]; exact hbit 6 (by decide)) (by rw [hb 7 7 rfl (by decide)]; exact hbit 7 (by decide)) (propext decide_eq_true_iff.symm) (propext decide_eq_true_iff.symm) (bool0 _)
    rw [hr, tog_c hT.2.1.1, b1, hs11]
    have eq : okb (bt (q3.1 2) 0) (bt (q3.1 2) 2) (bt (q3.1 2) 3) (bt (q3.1 2) 4) (bt (q3.1 2) 5) (bt (q3.1 2) 6) (bt (q3.1 2) 7) (decide (rS qm3 9 = 1)) (decide (rS qm3 9 < 2)) (!decide (rS qm3 17 = 0)) = okb (bt (q3.1 2) 0) (bt (q3.1 2) 2) (bt (q3.1 2) 3) (bt (q3.1 2) 4) (bt (q3.1 2) 5) (bt (q3.1 2) 6) (bt (q3.1 2) 7) (decide (q3.2.2.2 2 = 1)) (decide (q3.2.2.2 2 < 2)) (!decide (q3.1 10 = 0)) := by
      cases h0 : bt (q3.1 2) 0 with
      | false => rfl
      | true =>
        have h9 : rS qm3 9 = nI (q3.2.2.2 2) := hT.2.1.2 (fun w => by rw [hbit 0 (by decide)] at w; rw [w] at h0; cases h0)
        have h4 := hT.2.1.1
        rw [h9]
        congr 1
        · exact decide_eq_decide.mpr (nI_eq (b := 1) (by omega) (by decide))
        · exact decide_eq_decide.mpr (nI_ltI (b := 2) (by omega) (by decide))
        · exact congrArg not (decide_eq_decide.mpr hT.2.2.2.2.2.2.2.2.2.1)
    rw [eq]
    cases ho : okb (bt (q3.1 2) 0) (bt (q3.1 2) 2) (bt (q3.1 2) 3) (bt (q3.1 2) 4) (bt (q3.1 2) 5) (bt (q3.1 2) 6) (bt (q3.1 2) 7) (decide (q3.2.2.2 2 = 1)) (decide (q3.2.2.2 2 < 2)) (!decide (q3.1 10 = 0)) with
    | true =>
      refine ⟨qm3, q3, by rw [if_pos rfl], by rw [if_neg (by decide)], hfm, hfr0 q3 hfq, by rw [h13, h5], h.2.2.2.2.1, hix0 q3 hfq, Or.inl ⟨h5, hT, fun w => ?_⟩⟩
      rw [hbit 0 (by decide)] at w
      rw [w] at ho
      cases ho
    | false =>
      refine ⟨flM qm3 4 (nI t), flQ q3 4 (nI t), by rw [if_neg (by decide)], by rw [if_pos (by decide), fail_c0 h13, b1], hfm.f, hfr0 _ hfq.f, rfl, rfl, hix0 _ hfq.f, Or.inr (by show ¬ (4 : Int32) ≤ 0; decide)⟩
  · have hr := tog_r (n := n) (q := qm3) (F := qm3) (a0 := !decide (rA qm3 8 0 = 0)) (a2 := !decide (rA qm3 8 2 = 0)) (a3 := !decide (rA qm3 8 3 = 0)) (a4 := !decide (rA qm3 8 4 = 0)) (a5 := !decide (rA qm3 8 5 = 0)) (a6 := !decide (rA qm3 8 6 = 0)) (a7 := !decide (rA qm3 8 7 = 0)) (fw := decide (rS qm3 9 = 1)) (fl := decide (rS qm3 9 < 2)) (nb := !decide (rS qm3 17 = 0)) (fail_r1 h.nm.1) (bool0 _) (bool0 _) (bool0 _) (bool0 _) (bool0 _) (bool0 _) (bool0 _) (propext decide_eq_true_iff.symm) (propext decide_eq_true_iff.symm) (bool0 _)
    rw [hr, tog_c h.2.2.2.2, b1, fail_c1 h.ne, b1]
    refine ⟨qm3, q3, by split <;> rfl, by split <;> rfl, hfm, hfr0 q3 hfq, h.2.2.1, h.2.2.2.1, hix0 q3 hfq, Or.inr h.nm.2⟩
