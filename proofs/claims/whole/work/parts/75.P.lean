/-! Pure: drop, except, besides, shifted, feed. -/
theorem k_drop {n : Nat} {qm : Pc3} {z q : Pc4} (f : Nat → Int64) (hI : Inv qm z q) (x1 : Int32) : SK_drop n qm z q f x1 (fun qm z q _ => Inv qm z q) := by
  unfold SK_drop moL_drop moM_drop moQ7_drop
  rcases known_or (n := n) hI x1 with ⟨k, hk, rfl, g1, g2, g3, g4, e1, e2⟩ | ⟨e1, e2⟩
  · rw [e1, bxr, gl_in hk, gz_in g3, e2, b1, if_pos rfl, if_pos (show rS (sS qm 0 0) 0 = 0 from rfl), gi_in hk (by decide)]
    refine ⟨_, _, rfl, rfl, rfl, hI.1, hI.2.1, hI.2.2.1, hI.2.2.2.1, hI.2.2.2.2.1, hI.2.2.2.2.2.1, fun k' hk' => ?_, hI.2.2.2.2.2.2.2⟩
    obtain ⟨t1, t2, t3⟩ := hI.2.2.2.2.2.2.1 k' hk'
    have e19 : (sA (sS qm 0 0) 19 (nI k) (vp_nar .boolean 0)).2.1 19 k' = upd (qm.2.1 19) k 0 k' := by rw [sA_k (by omega)]; rfl
    by_cases c : k' = k
    · subst c
      refine ⟨t1, ?_, fun w => absurd ?_ w⟩
      · rw [e19, upd_self]
        exact ⟨fun w => absurd rfl w, fun w => absurd (show upd z.1 (100 + 4 * k') 0 (100 + 4 * k') = 0 from if_pos rfl) w.2⟩
      · rw [e19, upd_self]
    · refine ⟨t1, ?_, fun w => t3 (by rw [e19, upd_ne c] at w; exact w)⟩
      rw [e19, upd_ne c]
      have : (s4S z (100 + 4 * k) 0).1 (100 + 4 * k') = z.1 (100 + 4 * k') := if_neg (by omega)
      rw [this]
      exact t2
  · rw [e1, bxl, e2, b1, if_neg n_10, if_neg (show ¬ rS (sS qm 0 1) 0 = 0 from n_10)]
    exact ⟨_, _, rfl, rfl, rfl, hI⟩
theorem mark_n {n : Nat} {x2 : Int32} {m kk : Nat} (w : Nat → Int32) (x3 : Int32) (hD : isD x2 m kk) : ∃ v, moQ6_mark n 3600 x2 x3 w = some (if bt (w m) kk = true then 1 else 0, upd w m v) ∧ ∀ j, j < 32 → bt v j = if j = kk then !decide (x3 = 0) else bt (w m) j := by
  have h31 := hD.k31
  unfold moQ6_mark
  rw [monthOf_d hD, b1, dayOf_d hD, b1]
  have hm := hD.1
  simp only [gi_in hm (show 3600 < 2 ^ 31 by decide), nI_clamp (show m < 2 ^ 31 by omega)]
  have hb0 : ((w m) &&& slI 1 (nI kk)) = 0 ↔ bt (w m) kk = false := and_bit (by omega)
  have k0 : ∀ j, j < 32 → bt (w m &&& (slI 1 (nI kk) ^^^ (-1))) j = if j = kk then false else bt (w m) j := by
    intro j hj
    rw [b_and, bt_not hj, bt_sl1 (by omega) hj]
    by_cases c : j = kk
    · rw [if_pos c, decide_eq_true c]; simp
    · rw [if_neg c, decide_eq_false c]; simp
  have k1 : ∀ j, j < 32 → bt (w m ||| slI 1 (nI kk)) j = if j = kk then true else bt (w m) j := by
    intro j hj
    rw [b_or, bt_sl1 (by omega) hj]
    by_cases c : j = kk
    · rw [if_pos c, decide_eq_true c]; simp
    · rw [if_neg c, decide_eq_false c]; simp
  by_cases c3 : x3 = 0
  · refine ⟨w m &&& (slI 1 (nI kk) ^^^ (-1)), ?_, fun j hj => by rw [k0 j hj, decide_eq_true c3]; rfl⟩
    by_cases c : bt (w m) kk = true
    · rw [if_neg (fun g => by rw [hb0.mp g] at c; cases c), if_pos c3, if_pos c]
    · rw [if_pos (hb0.mpr (Bool.eq_false_iff.mpr c)), if_pos c3, if_neg c]
  · refine ⟨w m ||| slI 1 (nI kk), ?_, fun j hj => by rw [k1 j hj, decide_eq_false c3]; rfl⟩
    by_cases c : bt (w m) kk = true
    · rw [if_neg (fun g => by rw [hb0.mp g] at c; cases c), if_neg c3, if_pos c]
    · rw [if_pos (hb0.mpr (Bool.eq_false_iff.mpr c)), if_neg c3, if_neg c]
theorem cum_inj {m m' j j' : Nat} (hj : j < mlN m) (hj' : j' < mlN m') (h : cumN m + j = cumN m' + j') : m = m' ∧ j = j' := by
  have e : m = m' := by rw [← moD_mk hj, ← moD_mk hj', h]
  subst e
  exact ⟨rfl, by omega⟩
theorem Rb_mark {w g g' : Nat → Int32} {k m kk : Nat} {v : Int32} {b : Bool} (h : Rb w g k) (hm : m < 3600) (hk : kk < mlN m) (hk12 : k < 12) (hv : ∀ j, j < 32 → bt v j = if j = kk then b else bt (w m) j) (hg : ∀ k' d', k' < 12 → d' < 109573 → hb g' k' d' = if k' = k ∧ d' = cumN m + kk then b else hb g k' d') : Rb (upd w m v) g' k := by
  intro m' hm' j hj
  by_cases cj : j < mlN m'
  · rw [hg k _ hk12 (cum_in hm' cj), decide_eq_true cj, Bool.true_and]
    by_cases c : m' = m
    · subst c
      rw [upd_self, hv j hj]
      by_cases c2 : j = kk
      · rw [if_pos c2, if_pos ⟨rfl, by rw [c2]⟩]
      · rw [if_neg c2, if_neg (fun z => c2 (by omega)), h m' hm' j hj, decide_eq_true cj, Bool.true_and]
    · rw [upd_ne c, if_neg (fun z => c (cum_inj cj hk z.2).1), h m' hm' j hj, decide_eq_true cj, Bool.true_and]
  · rw [decide_eq_false cj, Bool.false_and]
    by_cases c : m' = m
    · subst c
      rw [upd_self, hv j hj, if_neg (by omega), h m' hm' j hj, decide_eq_false cj, Bool.false_and]
    · rw [upd_ne c, h m' hm' j hj, decide_eq_false cj, Bool.false_and]
theorem Rb_other {w g g' : Nat → Int32} {k k0 d0 : Nat} {b : Bool} (h : Rb w g k) (hk : k < 12) (hne : k ≠ k0) (hg : ∀ k' d', k' < 12 → d' < 109573 → hb g' k' d' = if k' = k0 ∧ d' = d0 then b else hb g k' d') : Rb w g' k := by
  intro m hm j hj
  rw [h m hm j hj]
  by_cases cj : j < mlN m
  · rw [hg k _ hk (cum_in hm cj), if_neg (fun z => hne z.1)]
  · rw [decide_eq_false cj]; rfl
theorem nb01 {c : Prop} [Decidable c] {α : Type} {g : Option α} : gb (if c then (1 : Int32) else 0) g = g := by
  by_cases h : c
  · rw [if_pos h]; rfl
  · rw [if_neg h]; rfl
theorem s4F_ne {q : Pc4} {k j : Nat} {g : Nat → Int32} (h : j ≠ k) : (s4F q k g).2.1 j = q.2.1 j := va_up_ne q.2.1 g h
theorem k_except {n : Nat} (hn : 200000 ≤ n) {qm : Pc3} {z q : Pc4} (f : Nat → Int64) (hI : Inv qm z q) (x1 x2 x3 : Int32) : SK_except n qm z q f x1 x2 x3 (fun qm z q _ => Inv qm z q) := by
  unfold SK_except moL_except moM_except moQ7_except
  rcases known_or (n := n) hI x1 with ⟨k, hk, rfl, g1, g2, g3, g4, e1, e2⟩ | ⟨e1, e2⟩
  · rcases date_or hn hI.1 x2 with ⟨m, kk, hD, e3, e4, hdd, h31⟩ | ⟨e3, e4⟩
    · obtain ⟨v, em, hv⟩ := mark_n (n := n) (z.2.1 (103 + 4 * k)) x3 hD
      obtain ⟨f', ⟨g, eg, hg⟩, hf'⟩ := setBit_r (n := n) (f := qm.2.1 21) x3 hk hdd
      have hR := (hI.2.2.2.2.2.2.1 k hk).2.2 g1
      have hbit : bt (z.2.1 (103 + 4 * k) m) kk = hb (qm.2.1 21) k (cumN m + kk) := by
        rw [hR.2.2 m hD.1 kk (by omega), decide_eq_true hD.2.1, Bool.true_and]
      rw [e1, bxr, e3, bxr, gl_in hk, gz_in g3, em, b2, nb01, e2, e4, b1, b1, if_pos rfl, if_pos (ge0 hdd), if_pos (show rS (sS qm 0 0) 0 ≤ 0 from by show (0 : Int32) ≤ 0; decide), hasBit_r hk hdd, b1, show (sS qm 0 0).2.1 21 = qm.2.1 21 from rfl, eg, b1, nb01, hbit]
      refine ⟨_, _, _, rfl, rfl, rfl, fun _ => ?_, hI.1, hI.2.1, hI.2.2.1, hI.2.2.2.1, hI.2.2.2.2.1, hI.2.2.2.2.2.1, fun k' hk' => ?_, hI.2.2.2.2.2.2.2⟩
      · rfl
      · obtain ⟨t1, t2, t3⟩ := hI.2.2.2.2.2.2.1 k' hk'
        refine ⟨t1.trans (by rw [show (s4F z (103 + 4 * k) (upd (z.2.1 (103 + 4 * k)) m v)).2.1 15 = z.2.1 15 from fl_F (by omega)]), t2, fun w => ?_⟩
        obtain ⟨r1, r2, r3⟩ := t3 w
        refine ⟨?_, ?_, ?_⟩
        · rw [s4F_ne (by omega)]; exact r1
        · rw [s4F_ne (by omega)]; exact r2
        · show Rb _ (g.2.1 0) k'
          rw [hg]
          by_cases c : k' = k
          · subst c
            rw [s4F_self]
            exact Rb_mark hR.2.2 hD.1 hD.2.1 hk' hv hf'
          · rw [s4F_ne (by omega)]
            exact Rb_other r3 hk' c hf'
    · rw [e1, bxr, e3, bxl, e2, e4, b1, b1, if_pos rfl, if_neg (show ¬ (0 : Int32) ≤ -1 by decide), if_neg (show ¬ rS (sS qm 0 2) 0 ≤ 0 from by show ¬ (2 : Int32) ≤ 0; decide)]
      exact ⟨_, _, _, rfl, rfl, rfl, fun w => absurd w n_20, hI⟩
  · obtain ⟨r, er⟩ : ∃ r, moM_dayOf n x2 qm = some r := by
      rcases date_or hn hI.1 x2 with ⟨m, kk, hD, e3, e4, hdd, h31⟩ | ⟨e3, e4⟩
      · exact ⟨_, e4⟩
      · exact ⟨_, e4⟩
    rw [e1, bxl, er, b1, e2, b1, if_neg n_10, if_neg (show ¬ rS (sS qm 0 1) 0 ≤ 0 from by show ¬ (1 : Int32) ≤ 0; decide)]
    exact ⟨_, _, _, rfl, rfl, rfl, fun w => absurd w n_10, hI⟩
theorem k_besides {n : Nat} (hn : 200000 ≤ n) {qm : Pc3} {z q : Pc4} (f : Nat → Int64) (hI : Inv qm z q) (x1 x2 x3 : Int32) : SK_besides n qm z q f x1 x2 x3 (fun qm z q _ => Inv qm z q) := by
  unfold SK_besides moL_besides moM_besides moQ7_besides
  rcases known_or (n := n) hI x1 with ⟨k, hk, rfl, g1, g2, g3, g4, e1, e2⟩ | ⟨e1, e2⟩
  · rcases date_or hn hI.1 x2 with ⟨m, kk, hD, e3, e4, hdd, h31⟩ | ⟨e3, e4⟩
    · obtain ⟨v, em, hv⟩ := mark_n (n := n) (z.2.1 (102 + 4 * k)) x3 hD
      obtain ⟨f', ⟨g, eg, hg⟩, hf'⟩ := setBit_r (n := n) (f := qm.2.1 22) x3 hk hdd
      have hR := (hI.2.2.2.2.2.2.1 k hk).2.2 g1
      have hbit : bt (z.2.1 (102 + 4 * k) m) kk = hb (qm.2.1 22) k (cumN m + kk) := by
        rw [hR.2.1 m hD.1 kk (by omega), decide_eq_true hD.2.1, Bool.true_and]
      rw [e1, bxr, e3, bxr, gl_in hk, gz_in g3, em, b2, nb01, e2, e4, b1, b1, if_pos rfl, if_pos (ge0 hdd), if_pos (show rS (sS qm 0 0) 0 ≤ 0 from by show (0 : Int32) ≤ 0; decide), hasBit_r hk hdd, b1, show (sS qm 0 0).2.1 22 = qm.2.1 22 from rfl, eg, b1, nb01, hbit]
      refine ⟨_, _, _, rfl, rfl, rfl, fun _ => ?_, hI.1, hI.2.1, hI.2.2.1, hI.2.2.2.1, hI.2.2.2.2.1, hI.2.2.2.2.2.1, fun k' hk' => ?_, hI.2.2.2.2.2.2.2⟩
      · rfl
      · obtain ⟨t1, t2, t3⟩ := hI.2.2.2.2.2.2.1 k' hk'
        refine ⟨t1.trans (by rw [show (s4F z (102 + 4 * k) (upd (z.2.1 (102 + 4 * k)) m v)).2.1 15 = z.2.1 15 from fl_F (by omega)]), t2, fun w => ?_⟩
        obtain ⟨r1, r2, r3⟩ := t3 w
        refine ⟨?_, ?_, ?_⟩
        · rw [s4F_ne (by omega)]; exact r1
        · show Rb _ (g.2.1 0) k'
          rw [hg]
          by_cases c : k' = k
          · subst c
            rw [s4F_self]
            exact Rb_mark hR.2.1 hD.1 hD.2.1 hk' hv hf'
          · rw [s4F_ne (by omega)]
            exact Rb_other r2 hk' c hf'
        · rw [s4F_ne (by omega)]; exact r3
    · rw [e1, bxr, e3, bxl, e2, e4, b1, b1, if_pos rfl, if_neg (show ¬ (0 : Int32) ≤ -1 by decide), if_neg (show ¬ rS (sS qm 0 2) 0 ≤ 0 from by show ¬ (2 : Int32) ≤ 0; decide)]
      exact ⟨_, _, _, rfl, rfl, rfl, fun w => absurd w n_20, hI⟩
  · obtain ⟨r, er⟩ : ∃ r, moM_dayOf n x2 qm = some r := by
      rcases date_or hn hI.1 x2 with ⟨m, kk, hD, e3, e4, hdd, h31⟩ | ⟨e3, e4⟩
      · exact ⟨_, e4⟩
      · exact ⟨_, e4⟩
    rw [e1, bxl, er, b1, e2, b1, if_neg n_10, if_neg (show ¬ rS (sS qm 0 1) 0 ≤ 0 from by show ¬ (1 : Int32) ≤ 0; decide)]
    exact ⟨_, _, _, rfl, rfl, rfl, fun w => absurd w n_10, hI⟩
theorem l_in {t : Int64} (h1 : ¬ lg_cmp t 0 < 0) (h2 : lg_cmp t 109573 < 0) : ∃ d, d < 109573 ∧ t.toInt32 = nI d := by
  rw [lg_cmp_lt, Int64.lt_iff_toInt_lt, show (0 : Int64).toInt = 0 from by decide] at h1
  rw [lg_cmp_lt, Int64.lt_iff_toInt_lt, show (109573 : Int64).toInt = 109573 from by decide] at h2
  have e : t = lN t.toInt.toNat := Int64.toInt_inj.mp (by rw [lN_toInt (by omega)]; omega)
  refine ⟨t.toInt.toNat, by omega, ?_⟩
  rw [e, lN_i, ← e]
theorem k_shifted {n : Nat} (hn : 200000 ≤ n) {qm : Pc3} {z q : Pc4} (f : Nat → Int64) (hI : Inv qm z q) (x1 x2 : Int32) : SK_shifted n qm z q f x1 x2 (fun qm z q _ => Inv qm z q) := by
  unfold SK_shifted moL_shifted moM_shifted moQ7_shifted
  rcases date_or hn hI.1 x1 with ⟨m, kk, hD, e3, e4, hdd, h31⟩ | ⟨e3, e4⟩
  · have hF := hI.2.2.1
    rw [e3, bxr, numberOf_d hF hD, b1, e4, b1, if_pos (ge0 hdd), if_pos (show rS (sS qm 0 0) 0 ≤ 0 from by show (0 : Int32) ≤ 0; decide)]
    rw [show gi (3600 : Int32) 3601 (if (lg_cmp ((Int32.toInt64 (nI (cumN m + kk))) + (Int32.toInt64 x2)) (Int32.toInt64 (r4A q 3 3600))) < 0 then (bd1 (moQ0_dateOf n (Int64.toInt32 ((Int32.toInt64 (nI (cumN m + kk))) + (Int32.toInt64 x2))) q) fun r_6 => (some (Sum.inr r_6 : Nat ⊕ Int32))) else (some (.inr (-1)))) = (if (lg_cmp ((Int32.toInt64 (nI (cumN m + kk))) + (Int32.toInt64 x2)) (Int32.toInt64 (r4A q 3 3600))) < 0 then (bd1 (moQ0_dateOf n (Int64.toInt32 ((Int32.toInt64 (nI (cumN m + kk))) + (Int32.toInt64 x2))) q) fun r_6 => (some (Sum.inr r_6 : Nat ⊕ Int32))) else (some (.inr (-1)))) from gi_in (i := 3600) (by decide) (by decide)]
    have e5 : Int32.toInt64 (r4A q 3 3600) = 109573 := by
      have : r4A q 3 3600 = nI (cumN 3600) := (r4n (i := 3600) (by decide)).trans (hF 3600 (Nat.le_refl _))
      rw [this, cum_top]
      decide
    rw [e5]
    generalize Int32.toInt64 (nI (cumN m + kk)) + Int32.toInt64 x2 = t
    by_cases c1 : lg_cmp t 0 < 0
    · rw [if_pos c1, if_pos c1]
      exact ⟨_, _, _, rfl, rfl, rfl, fun _ => rfl, hI⟩
    · rw [if_neg c1, if_neg c1]
      by_cases c2 : lg_cmp t 109573 < 0
      · obtain ⟨d, hd, ed⟩ := l_in c1 c2
        rw [if_pos c2, if_pos c2, ed, dateOf_d hn hF hd, b1, gi_in hd (by decide)]
        refine ⟨_, _, _, rfl, rfl, rfl, fun _ => ?_, hI⟩
        show vp_updL f 0 (nI (dvN d)).toInt64 0 = (rA (sS qm 0 0) 1 (nI d)).toInt64
        rw [upL_0, r3n (by omega), show (sS qm 0 0).2.1 1 d = nI (dvN d) from hI.1 d hd]
      · rw [if_neg c2, if_neg c2]
        exact ⟨_, _, _, rfl, rfl, rfl, fun _ => rfl, hI⟩
  · rw [e3, bxl, e4, b1, if_neg (show ¬ (0 : Int32) ≤ -1 by decide), if_neg (show ¬ rS (sS qm 0 1) 0 ≤ 0 from by show ¬ (1 : Int32) ≤ 0; decide)]
    exact ⟨_, _, _, rfl, rfl, rfl, fun w => absurd w n_10, hI⟩

-- feed
theorem byte_eq (x : Int64) {i : Nat} (hi : i < 8) : urL x (nI (8 * i)) &&& 255 = srL x (nI (8 * i)) &&& 255 := by
  have hs : ((nI (8 * i)).toInt64 &&& 63).toBitVec.smod 64 = BitVec.ofNat 64 (8 * i) := by revert i; decide
  have hu : ((nI (8 * i)).toInt64.toUInt64 &&& Int64.toUInt64 63).toNat % 64 = 8 * i := by revert i; decide
  have h255 : ∀ j, j < 64 → (255 : Int64).toBitVec.getLsbD j = decide (j < 8) := by decide
  apply Int64.toBitVec_inj.mp
  apply BitVec.eq_of_getLsbD_eq
  intro j hj
  rw [Int64.toBitVec_and, Int64.toBitVec_and, BitVec.getLsbD_and, BitVec.getLsbD_and, h255 j hj]
  by_cases c : j < 8
  · rw [decide_eq_true c, Bool.and_true, Bool.and_true]
    have e1 : (urL x (nI (8 * i))).toBitVec = x.toBitVec >>> (8 * i) := by
      apply BitVec.eq_of_toNat_eq
      show (x.toUInt64 >>> ((nI (8 * i)).toInt64.toUInt64 &&& Int64.toUInt64 63)).toNat = _
      rw [UInt64.toNat_shiftRight, hu, BitVec.toNat_ushiftRight]
      rfl
    have e2 : (srL x (nI (8 * i))).toBitVec = x.toBitVec.sshiftRight (8 * i) := by
      unfold srL
      rw [Int64.toBitVec_shiftRight]
      show x.toBitVec.sshiftRight (((nI (8 * i)).toInt64 &&& 63).toBitVec.smod 64).toNat = _
      rw [hs, BitVec.toNat_ofNat, Nat.mod_eq_of_lt (by omega)]
    rw [e1, e2, BitVec.getLsbD_ushiftRight, BitVec.getLsbD_sshiftRight]
    simp [show ¬ 64 ≤ j by omega, show 8 * i + j < 64 by omega]
  · rw [decide_eq_false c, Bool.and_false, Bool.and_false]
theorem byte_v (x : Int64) : ∃ v, v < 256 ∧ (x &&& 255).toInt32 = nI v ∧ vp_nar .char (i2cI (x &&& 255).toInt32) = nI v := by
  have e : x &&& 255 = lN (x.toBitVec.toNat % 256) := by
    apply Int64.toBitVec_inj.mp
    apply BitVec.eq_of_toNat_eq
    rw [Int64.toBitVec_and, BitVec.toNat_and]
    show x.toBitVec.toNat &&& 255 = (BitVec.ofNat 64 (x.toBitVec.toNat % 256)).toNat
    rw [BitVec.toNat_ofNat, show (255 : Nat) = 2 ^ 8 - 1 from rfl, Nat.and_two_pow_sub_one_eq_mod]
    exact (Nat.mod_eq_of_lt (Nat.lt_trans (Nat.mod_lt _ (by decide)) (by decide))).symm
  refine ⟨x.toBitVec.toNat % 256, Nat.mod_lt _ (by decide), by rw [e, lN_i], ?_⟩
  rw [e, lN_i]
  have h : x.toBitVec.toNat % 256 < 256 := Nat.mod_lt _ (by decide)
  revert h
  generalize x.toBitVec.toNat % 256 = v
  exact (by decide +kernel : ∀ v, v < 256 → vp_nar .char (i2cI (nI v)) = nI v) v
theorem feed_L {α β : Type} {n : Nat} {z : Pc4} {K0 : Int32 → Pc4 → Option α} {M0 : Pc3 → Option β} {t N : Nat} (x : Int64) (hN : N ≤ 8) (ht : t + N ≤ 200) : ∀ (r i : Nat) (fu fv : Nat) (q : Pc4) (qm : Pc3), i + r = N → r < fu → r < fv → q.1 0 = nI t → qm.1 4 = nI (t + i) → (∀ j, j < t + i → q.2.1 1 j = qm.2.1 3 j ∧ ∃ v, v < 256 ∧ qm.2.1 3 j = nI v) →
    ∃ g h, (∀ j, j < t + N → g j = h j ∧ ∃ v, v < 256 ∧ h j = nI v) ∧ moQ7_feed_L36 n z K0 fu (nI N) x (nI i) q = K0 (nI N) (s4F q 1 g) ∧ moM_feed_L46 n M0 fv (nI N) x (nI i) qm = M0 (sS (sF qm 3 h) 4 (nI (t + N))) := by
  intro r
  induction r with
  | zero =>
    intro i fu fv q qm hi h1 h2 hq hm hx
    obtain ⟨fu, rfl⟩ : ∃ k, fu = k + 1 := ⟨fu - 1, by omega⟩
    obtain ⟨fv, rfl⟩ : ∃ k, fv = k + 1 := ⟨fv - 1, by omega⟩
    have : i = N := by omega
    subst this
    rw [moQ7_feed_L36, moM_feed_L46, if_pos (nI_le (Nat.le_refl _) (by omega)), if_pos (nI_le (Nat.le_refl _) (by omega))]
    refine ⟨q.2.1 1, qm.2.1 3, hx, ?_, ?_⟩
    · have : s4F q 1 (q.2.1 1) = q := by
        unfold s4F
        rw [show va_up q.2.1 1 (q.2.1 1) = q.2.1 from funext fun j => by
          by_cases c : j = 1
          · subst c; exact va_up_self _ _ _
          · exact va_up_ne _ _ c]
      rw [this]
    · have : sS (sF qm 3 (qm.2.1 3)) 4 (nI (t + i)) = qm := by
        unfold sS sF
        rw [show va_up qm.2.1 3 (qm.2.1 3) = qm.2.1 from funext fun j => by
          by_cases c : j = 3
          · subst c; exact va_up_self _ _ _
          · exact va_up_ne _ _ c]
        rw [← hm]
        have : upd qm.1 4 (qm.1 4) = qm.1 := funext fun j => by
          by_cases c : j = 4
          · subst c; exact upd_self
          · exact upd_ne c
        show (upd qm.1 4 (qm.1 4), qm.2.1, qm.2.2) = qm
        rw [this]
      rw [this]
  | succ r ih =>
    intro i fu fv q qm hi h1 h2 hq hm hx
    obtain ⟨fu, rfl⟩ : ∃ k, fu = k + 1 := ⟨fu - 1, by omega⟩
    obtain ⟨fv, rfl⟩ : ∃ k, fv = k + 1 := ⟨fv - 1, by omega⟩
    rw [moQ7_feed_L36, moM_feed_L46, if_neg (nI_ge (by omega) (by omega)), if_neg (nI_ge (by omega) (by omega)), show r4S q 0 = nI t from hq, show rS qm 4 = nI (t + i) from hm, nI_add, gi_in (by omega) (by decide), gi_in (by omega) (by decide), show (8 : Int32) * nI i = nI (8 * i) from pk_mul 8 i, byte_eq x (by omega), nI_1]
    obtain ⟨v, hv, ev, ev2⟩ := byte_v (srL x (nI (8 * i)))
    rw [ev2, ev]
    have hs4 : rS (sA qm 3 (nI (t + i)) (nI v)) 4 + 1 = nI (t + (i + 1)) := by
      show qm.1 4 + 1 = _
      rw [hm, nI_1]; rfl
    rw [hs4]
    obtain ⟨g, h, hg, e1, e2⟩ := ih (i + 1) fu fv (s4A q 1 (nI (t + i)) (nI v)) (sS (sA qm 3 (nI (t + i)) (nI v)) 4 (nI (t + (i + 1)))) (by omega) (by omega) (by omega) hq rfl (fun j hj => by
      show (s4A q 1 (nI (t + i)) (nI v)).2.1 1 j = (sA qm 3 (nI (t + i)) (nI v)).2.1 3 j ∧ ∃ w, w < 256 ∧ (sA qm 3 (nI (t + i)) (nI v)).2.1 3 j = nI w
      rw [s4A_k (by omega), sA_k (by omega)]
      by_cases c : j = t + i
      · subst c; rw [upd_self, upd_self]; exact ⟨rfl, v, hv, rfl⟩
      · rw [upd_ne c, upd_ne c]; exact hx j (by omega))
    refine ⟨g, h, hg, ?_, ?_⟩
    · rw [e1]
      congr 1
      unfold s4A s4F
      exact congrArg (fun y => (q.1, y, q.2.2.1, q.2.2.2)) (funext fun j => by
        by_cases c : j = 1
        · subst c; rw [va_up_self, va_up_self]
        · rw [va_up_ne _ _ c, va_up_ne _ _ c]; exact va_up_ne _ _ c)
    · rw [e2]
      congr 1
      unfold sS sF sA
      refine Prod.ext (funext fun j => ?_) (Prod.ext (funext fun j => ?_) rfl)
      · show upd (upd qm.1 4 (nI (t + (i + 1)))) 4 (nI (t + N)) j = upd qm.1 4 (nI (t + N)) j
        by_cases c : j = 4
        · subst c; rw [upd_self, upd_self]
        · rw [upd_ne c, upd_ne c, upd_ne c]
      · show va_up (va_up qm.2.1 3 _) 3 h j = va_up qm.2.1 3 h j
        by_cases c : j = 3
        · subst c; rw [va_up_self, va_up_self]
        · rw [va_up_ne _ _ c, va_up_ne _ _ c, va_up_ne _ _ c]
theorem k_feed {n : Nat} (hn : 200000 ≤ n) {qm : Pc3} {z q : Pc4} (f : Nat → Int64) (hI : Inv qm z q) (x1 : Int32) (x2 : Int64) : SK_feed n qm z q f x1 x2 (fun qm z q _ => Inv qm z q) := by
  unfold SK_feed moL_feed moM_feed moQ7_feed
  have hb1 : moM_feed_B17 n x1 x2 1 qm = some (0, sS qm 0 1) := by
    unfold moM_feed_B17
    rw [if_neg (show ¬ rS (sS qm 0 1) 0 ≤ 0 from by show ¬ (1 : Int32) ≤ 0; decide)]
  by_cases c1 : x1 < 1
  · rw [if_pos c1, if_pos c1, hb1]
    exact ⟨_, _, _, rfl, rfl, rfl, fun w => absurd w n_10, hI⟩
  · rw [if_neg c1, if_neg c1]
    by_cases c2 : x1 ≤ 8
    · rw [if_pos c2, if_pos c2]
      have hp : ¬ x1 < 0 := fun h => c1 (Int32.lt_iff_toInt_lt.mpr (by
        have := Int32.lt_iff_toInt_lt.mp h
        rw [show (0 : Int32).toInt = 0 from by decide] at this
        rw [show (1 : Int32).toInt = 1 from by decide]; omega))
      obtain ⟨N, hN, rfl⟩ := nI_of2 (M := 8) (n := 8) (by decide) hp c2
      obtain ⟨t, ht, h1, h2, h3⟩ := hI.2.2.2.1
      unfold moM_feed_B17
      rw [if_pos (show rS (sS qm 0 0) 0 ≤ 0 from by show (0 : Int32) ≤ 0; decide), show r4S q 0 = nI t from h1, show rS (sS qm 0 0) 4 = nI t from h2, nI_add]
      by_cases c3 : t + N ≤ 200
      · rw [if_pos (show nI (t + N) ≤ (200 : Int32) from nI_le (b := 200) c3 (by decide)), if_pos (show nI (t + N) ≤ (200 : Int32) from nI_le (b := 200) c3 (by decide))]
        obtain ⟨g, h, hg, e1, e2⟩ := feed_L (n := n) (z := z) (K0 := fun z6_1 q_6 => (some (Sum.inr ((r4S (s4S q_6 0 ((r4S q_6 0) + z6_1)) 0), (s4S q_6 0 ((r4S q_6 0) + z6_1))) : Nat ⊕ (Int32 × Pc4)))) (M0 := fun q_6 => (some ((rS q_6 4), q_6))) x2 hN c3 N 0 n n q (sS qm 0 0) (by omega) (by omega) (by omega) h1 h2 h3
        have e1 : moQ7_feed_L36 n z (fun z6_1 q_6 => (some (Sum.inr ((r4S (s4S q_6 0 ((r4S q_6 0) + z6_1)) 0), (s4S q_6 0 ((r4S q_6 0) + z6_1))) : Nat ⊕ (Int32 × Pc4)))) n (nI N) x2 0 q = _ := e1
        have e2 : moM_feed_L46 n (fun q_6 => (some ((rS q_6 4), q_6))) n (nI N) x2 0 (sS qm 0 0) = _ := e2
        rw [e1, e2]
        have e3 : r4S (s4F q 1 g) 0 + nI N = nI (t + N) := by
          show q.1 0 + nI N = _
          rw [h1, nI_add]
        rw [e3]
        refine ⟨_, _, _, rfl, rfl, rfl, fun _ => rfl, hI.1, hI.2.1, hI.2.2.1, ⟨t + N, c3, rfl, rfl, hg⟩, hI.2.2.2.2⟩
      · rw [if_neg (show ¬ nI (t + N) ≤ (200 : Int32) from nI_ge (a := 200) (by omega) (by omega)), if_neg (show ¬ nI (t + N) ≤ (200 : Int32) from nI_ge (a := 200) (by omega) (by omega))]
        exact ⟨_, _, _, rfl, rfl, rfl, fun _ => rfl, hI⟩
    · rw [if_neg c2, if_neg c2, hb1]
      exact ⟨_, _, _, rfl, rfl, rfl, fun w => absurd w n_10, hI⟩
