/-! Pure: list. -/
def pk (qm : Pc3) (k d : Nat) : Bool := !decide (qm.2.1 19 k = 0) && cm qm k d
def an (qm : Pc3) (d : Nat) : Nat → Bool
  | 0 => false
  | k + 1 => an qm d k || pk qm k d
theorem an_s {qm : Pc3} {d k : Nat} : an qm d (k + 1) = (an qm d k || pk qm k d) := rfl
theorem dT_n {n k m : Nat} {qm : Pc3} {z q : Pc4} (hT : ∀ k, k < 12 → Th1 qm z q k) (hk : k < 12) (hm : m < 3600) : ∃ w, moQ7_daysOfThing n z (nI k) (nI m) q = some w ∧ ∀ j, j < 32 → bt w j = (decide (j < mlN m) && pk qm k (cumN m + j)) := by
  obtain ⟨h1, h2, h3⟩ := hT k hk
  unfold moQ7_daysOfThing pk
  rw [gi_in hk (by decide), nI_clamp (show k < 2 ^ 31 by omega)]
  by_cases c1 : q.2.1 15 k = 0
  · have : qm.2.1 19 k = 0 := Classical.byContradiction fun g => (h2.mp g).1 c1
    rw [if_pos c1]
    exact ⟨0, rfl, fun j hj => by rw [decide_eq_true this, b_0]; simp⟩
  · have c1' : ¬ z.2.1 15 k = 0 := fun g => c1 (h1.mpr g)
    rw [if_neg c1, gl_in hk, gl_in hk, gz_in c1', gz_in c1']
    by_cases c2 : z.1 (100 + 4 * k) = 0
    · have : qm.2.1 19 k = 0 := Classical.byContradiction fun g => (h2.mp g).2 c2
      rw [if_pos (show r4S z (100 + 4 * k) = 0 from c2)]
      exact ⟨0, rfl, fun j hj => by rw [decide_eq_true this, b_0]; simp⟩
    · have g := h2.mpr ⟨c1, c2⟩
      rw [if_neg (show ¬ r4S z (100 + 4 * k) = 0 from c2), daysIn_n hm, b1]
      exact ⟨_, rfl, fun j hj => by rw [dw_bt (h3 g) hm hj, decide_eq_false g]; simp⟩
theorem busy_L {α : Type} {n m : Nat} {qm : Pc3} {z q : Pc4} {K0 : Int32 → Option α} (hT : ∀ k, k < 12 → Th1 qm z q k) (hm : m < 3600) : ∀ (fuel k : Nat) (y : Int32), k ≤ 12 → 12 - k < fuel → (∀ j, j < 32 → bt y j = (decide (j < mlN m) && an qm (cumN m + j) k)) → ∃ w, moQ7_busyDays_L4 n z q K0 fuel (nI m) y (nI k) = K0 w ∧ ∀ j, j < 32 → bt w j = (decide (j < mlN m) && an qm (cumN m + j) 12) := by
  intro fuel
  induction fuel with
  | zero => intro k y _ h; omega
  | succ u ih =>
    intro k y hk hf hy
    rw [moQ7_busyDays_L4]
    by_cases c : 12 ≤ k
    · have : k = 12 := by omega
      subst this
      rw [if_pos (show (12 : Int32) ≤ nI 12 by decide)]
      exact ⟨y, rfl, hy⟩
    · obtain ⟨w, ew, hw⟩ := dT_n (n := n) hT (show k < 12 by omega) hm
      rw [if_neg (show ¬ (12 : Int32) ≤ nI k from nI_ge (b := 12) (by omega) (by decide)), ew, b1, nI_1]
      refine ih (k + 1) _ (by omega) (by omega) (fun j hj => ?_)
      rw [b_or, hy j hj, hw j hj, an_s]
      cases decide (j < mlN m) <;> rfl
theorem busy_n {n m : Nat} {qm : Pc3} {z q : Pc4} (hn : 200000 ≤ n) (hT : ∀ k, k < 12 → Th1 qm z q k) (hm : m < 3600) : ∃ w, moQ7_busyDays n z (nI m) q = some w ∧ ∀ j, j < 32 → bt w j = (decide (j < mlN m) && an qm (cumN m + j) 12) := by
  unfold moQ7_busyDays
  exact busy_L (n := n) (K0 := fun z3_2 => some z3_2) hT hm n 0 0 (by omega) (by omega) (fun j hj => by rw [b_0, show an qm (cumN m + j) 0 = false from rfl, Bool.and_false])
-- what is listed
def stp (qm : Pc3) (d k : Nat) (T : Nat × (Nat → Int64)) : Nat × (Nat → Int64) := if T.1 < 300 ∧ pk qm k d = true then (T.1 + 1, vp_updL T.2 T.1 (16 * (nI (dvN d)).toInt64 + (nI k).toInt64)) else T
def stK (qm : Pc3) (d : Nat) (T : Nat × (Nat → Int64)) : Nat → Nat × (Nat → Int64)
  | 0 => T
  | k + 1 => stp qm d k (stK qm d T k)
def stD (qm : Pc3) (a b : Nat) : Nat → Nat × (Nat → Int64)
  | 0 => (0, fun _ => 0)
  | d + 1 => if a ≤ d ∧ d ≤ b then stK qm d (stD qm a b d) 12 else stD qm a b d
def Ag (c : Int32) (g : Nat → Int64) (T : Nat × (Nat → Int64)) : Prop := T.1 ≤ 300 ∧ c = nI T.1 ∧ ∀ i, i < T.1 → g i = T.2 i
theorem stK_s {qm : Pc3} {d k : Nat} {T : Nat × (Nat → Int64)} : stK qm d T (k + 1) = stp qm d k (stK qm d T k) := rfl
theorem stD_s {qm : Pc3} {a b d : Nat} : stD qm a b (d + 1) = if a ≤ d ∧ d ≤ b then stK qm d (stD qm a b d) 12 else stD qm a b d := rfl
theorem stK_full {qm : Pc3} {d k : Nat} {T : Nat × (Nat → Int64)} (h : 300 ≤ (stK qm d T k).1) : ∀ e, stK qm d T (k + e) = stK qm d T k := by
  intro e
  induction e with
  | zero => rfl
  | succ e ih => rw [← Nat.add_assoc, stK_s, ih]; exact if_neg (fun w => by omega)
theorem stK_none {qm : Pc3} {d k : Nat} {T : Nat × (Nat → Int64)} (h : an qm d k = false) : stK qm d T k = T := by
  induction k with
  | zero => rfl
  | succ k ih =>
    rw [an_s, Bool.or_eq_false_iff] at h
    rw [stK_s, ih h.1]
    exact if_neg (fun w => by rw [h.2] at w; cases w.2)
theorem stD_full {qm : Pc3} {a b d : Nat} (h : 300 ≤ (stD qm a b d).1) : ∀ e, stD qm a b (d + e) = stD qm a b d := by
  intro e
  induction e with
  | zero => rfl
  | succ e ih =>
    rw [← Nat.add_assoc, stD_s, ih]
    have := stK_full (qm := qm) (d := d + e) (k := 0) (T := stD qm a b d) h 12
    rw [show stK qm (d + e) (stD qm a b d) 12 = stD qm a b d from this]
    split <;> rfl
theorem stD_skip {qm : Pc3} {a b x y : Nat} (h : x ≤ y) (hz : ∀ i, x ≤ i → i < y → (a ≤ i ∧ i ≤ b) → an qm i 12 = false) : stD qm a b y = stD qm a b x := by
  induction y with
  | zero => rw [Nat.le_zero.mp h]
  | succ y ih =>
    rcases Nat.lt_or_ge x (y + 1) with c | c
    · rw [stD_s, ih (by omega) (fun i g1 g2 => hz i g1 (by omega))]
      by_cases g : a ≤ y ∧ y ≤ b
      · rw [if_pos g, stK_none (hz y (by omega) (by omega) g)]
      · rw [if_neg g]
    · rw [show x = y + 1 by omega]
theorem Ag_put {qm : Pc3} {d k : Nat} {c : Int32} {g : Nat → Int64} {T : Nat × (Nat → Int64)} (h : Ag c g T) (h3 : T.1 < 300) (hp : pk qm k d = true) : Ag (c + 1) (vp_updL g T.1 (16 * (nI (dvN d)).toInt64 + (nI k).toInt64)) (stp qm d k T) := by
  obtain ⟨h1, rfl, h2⟩ := h
  unfold stp
  rw [if_pos ⟨h3, hp⟩]
  refine ⟨h3, nI_1 _, fun i hi => ?_⟩
  have hi : i < T.1 + 1 := hi
  show (if i = T.1 then _ else g i) = (if i = T.1 then _ else T.2 i)
  by_cases c : i = T.1
  · rw [if_pos c, if_pos c]
  · rw [if_neg c, if_neg c]; exact h2 i (by omega)
theorem stp_no {qm : Pc3} {d k : Nat} {T : Nat × (Nat → Int64)} (hp : pk qm k d = false) : stp qm d k T = T := if_neg (fun w => by rw [hp] at w; cases w.2)
/-- all but the list is kept -/
def Kp (q q' : Pc4) : Prop := q'.2.1 = q.2.1 ∧ q'.2.2.2 = q.2.2.2 ∧ ∀ i, i ≠ 1 → q'.1 i = q.1 i
theorem Kp.rfl' {q : Pc4} : Kp q q := ⟨rfl, rfl, fun _ _ => rfl⟩
theorem Kp.trans {q q' q'' : Pc4} (h : Kp q q') (h' : Kp q' q'') : Kp q q'' := ⟨h'.1.trans h.1, h'.2.1.trans h.2.1, fun i hi => (h'.2.2 i hi).trans (h.2.2 i hi)⟩
theorem Kp.th {qm : Pc3} {z q q' : Pc4} (h : Kp q q') (hT : ∀ k, k < 12 → Th1 qm z q k) : ∀ k, k < 12 → Th1 qm z q' k := by
  intro k hk
  unfold Th1
  rw [h.1]
  exact hT k hk
theorem listDay_L {α : Type} {n m j : Nat} {qm : Pc3} {z : Pc4} {K0 : Pc4 → Option α} {T0 : Nat × (Nat → Int64)} (hm : m < 3600) (hj : j < mlN m) : ∀ (fuel k : Nat) (q : Pc4), k ≤ 12 → 12 - k < fuel → (∀ k, k < 12 → Th1 qm z q k) → Ag (q.1 1) (q.2.2.1 12) (stK qm (cumN m + j) T0 k) → ∃ q', moQ7_listDay_L10 n z K0 fuel (nI m) (nI j) (nI (dvN (cumN m + j))).toInt64 (nI k) q = K0 q' ∧ Ag (q'.1 1) (q'.2.2.1 12) (stK qm (cumN m + j) T0 12) ∧ Kp q q' := by
  intro fuel
  induction fuel with
  | zero => intro k y _ h; omega
  | succ u ih =>
    intro k q hk hf hT hA
    have hl := mlN_b m
    rw [moQ7_listDay_L10]
    by_cases c : 12 ≤ k
    · have : k = 12 := by omega
      subst this
      rw [if_pos (show (12 : Int32) ≤ nI 12 by decide)]
      exact ⟨q, rfl, hA, Kp.rfl'⟩
    · rw [if_neg (show ¬ (12 : Int32) ≤ nI k from nI_ge (b := 12) (by omega) (by decide))]
      obtain ⟨a1, a2, a3⟩ := hA
      rw [show r4S q 1 = nI (stK qm (cumN m + j) T0 k).1 from a2]
      by_cases c3 : 300 ≤ (stK qm (cumN m + j) T0 k).1
      · rw [if_pos (show (300 : Int32) ≤ nI _ from nI_le (a := 300) c3 (by omega))]
        have := stK_full c3 (12 - k)
        rw [show k + (12 - k) = 12 by omega] at this
        rw [this]
        exact ⟨q, rfl, ⟨a1, a2, a3⟩, Kp.rfl'⟩
      · obtain ⟨w, ew, hw⟩ := dT_n (n := n) hT (show k < 12 by omega) hm
        have hwj := hw j (by omega)
        rw [decide_eq_true hj, Bool.true_and] at hwj
        rw [if_neg (show ¬ (300 : Int32) ≤ nI _ from nI_ge (b := 300) (by omega) (by decide)), ew, b1]
        cases hp : pk qm k (cumN m + j) with
        | false =>
          rw [hp] at hwj
          rw [if_pos ((and_bit (by omega)).mpr hwj), nI_1]
          exact ih (k + 1) q (by omega) (by omega) hT (by rw [stK_s, stp_no hp]; exact ⟨a1, a2, a3⟩)
        | true =>
          rw [hp] at hwj
          rw [if_neg (fun g => by rw [and_bit (by omega), hwj] at g; cases g), nI_1, gi_in (by omega) (by decide)]
          obtain ⟨q', e', A', K'⟩ := ih (k + 1) (s4S (s4L q 12 (nI (stK qm (cumN m + j) T0 k).1) ((16 * (nI (dvN (cumN m + j))).toInt64) + (nI k).toInt64)) 1 ((r4S (s4L q 12 (nI (stK qm (cumN m + j) T0 k).1) ((16 * (nI (dvN (cumN m + j))).toInt64) + (nI k).toInt64)) 1) + 1)) (by omega) (by omega) hT (by
            have := Ag_put ⟨a1, a2, a3⟩ (show (stK qm (cumN m + j) T0 k).1 < 300 by omega) hp
            rw [stK_s]
            have e1 : (s4S (s4L q 12 (nI (stK qm (cumN m + j) T0 k).1) ((16 * (nI (dvN (cumN m + j))).toInt64) + (nI k).toInt64)) 1 ((r4S (s4L q 12 (nI (stK qm (cumN m + j) T0 k).1) ((16 * (nI (dvN (cumN m + j))).toInt64) + (nI k).toInt64)) 1) + 1)).2.2.1 12 = vp_updL (q.2.2.1 12) (nI (stK qm (cumN m + j) T0 k).1).toNatClampNeg ((16 * (nI (dvN (cumN m + j))).toInt64) + (nI k).toInt64) := va_up_self q.2.2.1 12 _
            rw [e1, nI_clamp (by omega)]
            exact this)
          exact ⟨q', e', A', K'.1, K'.2.1, fun i hi => (K'.2.2 i hi).trans (upd_ne hi)⟩
theorem listDay_n {n m j : Nat} {qm : Pc3} {z q : Pc4} {T0 : Nat × (Nat → Int64)} (hn : 200000 ≤ n) (hm : m < 3600) (hj : j < mlN m) (hT : ∀ k, k < 12 → Th1 qm z q k) (hA : Ag (q.1 1) (q.2.2.1 12) T0) : ∃ q', moQ7_listDay n z (nI m) (nI j) q = some q' ∧ Ag (q'.1 1) (q'.2.2.1 12) (stK qm (cumN m + j) T0 12) ∧ Kp q q' := by
  unfold moQ7_listDay
  rw [dateAt_n hm (by have := mlN_b m; omega), b1, ← dv_mk hj]
  exact listDay_L (n := n) (K0 := fun q_7 => some q_7) hm hj n 0 q (by omega) (by omega) hT hA
theorem pc_low {y : Int32} {k : Nat} (hk : k < 32) (h1 : bt y k = true) (h3 : ∀ i, i < 32 → bt (y &&& (y - 1)) i = (bt y i && !decide (i = k))) : pcN y = pcN (y &&& (y - 1)) + 1 := by
  unfold pcN
  rw [cN_del hk h1, cN_congr h3]
theorem listMonth_L {α : Type} {n m a b : Nat} {qm : Pc3} {z : Pc4} {K0 : Pc4 → Option α} (hn : 200000 ≤ n) (hm : m < 3600) : ∀ (fuel j0 : Nat) (y : Int32) (q : Pc4), j0 ≤ mlN m → pcN y < fuel → (∀ i, i < 32 → bt y i = (decide (j0 ≤ i ∧ i < mlN m) && (decide (a ≤ cumN m + i ∧ cumN m + i ≤ b) && an qm (cumN m + i) 12))) → (∀ k, k < 12 → Th1 qm z q k) → Ag (q.1 1) (q.2.2.1 12) (stD qm a b (cumN m + j0)) → ∃ q', moQ7_listMonth_L8 n z K0 fuel (nI m) y (nI (pcN y)) q = K0 q' ∧ Ag (q'.1 1) (q'.2.2.1 12) (stD qm a b (cumN (m + 1))) ∧ Kp q q' := by
  intro fuel
  induction fuel with
  | zero => intro k y q _ h; omega
  | succ u ih =>
    intro j0 y q hj0 hf hy hT hA
    have hl := mlN_b m
    have hp : pcN y ≤ 32 := cN_le _ _
    rw [moQ7_listMonth_L8]
    by_cases c : y = 0
    · have hp0 : pcN y = 0 := pc_zero.mpr c
      rw [hp0, if_pos (show nI 0 ≤ (0 : Int32) by decide)]
      refine ⟨q, rfl, ?_, Kp.rfl'⟩
      rw [stD_skip (x := cumN m + j0) (y := cumN (m + 1)) (by rw [cum_s]; omega) (fun i g1 g2 g3 => ?_)]
      · exact hA
      · rw [cum_s] at g2
        obtain ⟨j, rfl⟩ : ∃ j, i = cumN m + j := ⟨i - cumN m, by omega⟩
        have h1 := hy j (by omega)
        rw [(bt_zero y).mp c j (by omega), decide_eq_true (show j0 ≤ j ∧ j < mlN m by omega), decide_eq_true g3] at h1
        exact h1.symm
    · obtain ⟨k, hk, h1, h2, h3, h4⟩ := ntz_n (n := n) c
      have hpc := pc_low hk h1 h3
      have hyk := hy k hk
      rw [h1] at hyk
      have hyk : (j0 ≤ k ∧ k < mlN m) ∧ (a ≤ cumN m + k ∧ cumN m + k ≤ b) ∧ an qm (cumN m + k) 12 = true := by
        have := hyk.symm
        rw [Bool.and_eq_true, Bool.and_eq_true, decide_eq_true_iff, decide_eq_true_iff] at this
        exact this
      rw [if_neg (show ¬ nI (pcN y) ≤ (0 : Int32) from nI_ge (a := 0) (by omega) (by omega)), h4, b1]
      have e1 : stD qm a b (cumN m + k) = stD qm a b (cumN m + j0) := stD_skip (by omega) (fun i g1 g2 g3 => by
        obtain ⟨j, rfl⟩ : ∃ j, i = cumN m + j := ⟨i - cumN m, by omega⟩
        have h1 := hy j (by omega)
        rw [h2 j (by omega), decide_eq_true (show j0 ≤ j ∧ j < mlN m by omega), decide_eq_true g3] at h1
        exact h1.symm)
      obtain ⟨q1, e', A', K'⟩ := listDay_n (n := n) (qm := qm) (z := z) (q := q) (T0 := stD qm a b (cumN m + k)) hn hm hyk.1.2 hT (by rw [e1]; exact hA)
      rw [e', b1, dec_n (by omega), show pcN y - 1 = pcN (y &&& (y - 1)) by omega]
      obtain ⟨q2, e2, A2, K2⟩ := ih (k + 1) (y &&& (y - 1)) q1 (by omega) (by omega) (fun i hi => by
        rw [h3 i hi]
        by_cases g : i ≤ k
        · rw [decide_eq_false (show ¬ (k + 1 ≤ i ∧ i < mlN m) by omega)]
          rcases Nat.lt_or_ge i k with g' | g'
          · rw [h2 i g']; rfl
          · rw [decide_eq_true (show i = k by omega)]; simp
        · rw [hy i hi, decide_eq_false (show ¬ i = k by omega)]
          by_cases g2 : i < mlN m
          · rw [decide_eq_true (show j0 ≤ i ∧ i < mlN m by omega), decide_eq_true (show k + 1 ≤ i ∧ i < mlN m by omega)]; simp
          · rw [decide_eq_false (show ¬ (j0 ≤ i ∧ i < mlN m) by omega), decide_eq_false (show ¬ (k + 1 ≤ i ∧ i < mlN m) by omega)]; rfl) (K'.th hT) (by
        rw [← Nat.add_assoc, stD_s, if_pos hyk.2.1]; exact A')
      exact ⟨q2, e2, A2, K'.trans K2⟩
theorem list_c {α : Type} {n m1 m2 k1 k2 : Nat} {x1 x2 : Int32} {qm : Pc3} {z : Pc4} {K0 : Pc4 → Option α} (hn : 200000 ≤ n) (h1 : isD x1 m1 k1) (h2 : isD x2 m2 k2) : ∀ (fuel m : Nat) (q : Pc4), m ≤ 3600 → m1 ≤ m → 3600 - m < fuel → (∀ k, k < 12 → Th1 qm z q k) → Ag (q.1 1) (q.2.2.1 12) (stD qm (cumN m1 + k1) (cumN m2 + k2) (cumN m)) → ∃ q', moQ7_list_L24 n z K0 fuel x1 x2 (nI m2) (nI m) q = K0 q' ∧ Ag (q'.1 1) (q'.2.2.1 12) (stD qm (cumN m1 + k1) (cumN m2 + k2) 109573) ∧ Kp q q' := by
  intro fuel
  induction fuel with
  | zero => intro k q _ _ h; omega
  | succ u ih =>
    intro m q hm ha hf hT hA
    have l2 := h2.1
    rw [moQ7_list_L24]
    by_cases c1 : m2 < m
    · rw [if_pos (nI_lt c1 (by omega)), stD_skip (x := cumN m) (y := 109573) (cum_le hm) (fun i g1 g2 g3 => by
        have := cum_lt c1
        have := h2.2.1
        omega)]
      exact ⟨q, rfl, hA, Kp.rfl'⟩
    · have hm3 : m < 3600 := by omega
      rw [if_neg (nI_nlt (by omega) (by omega))]
      obtain ⟨a1, a2, a3⟩ := hA
      rw [show r4S q 1 = nI (stD qm (cumN m1 + k1) (cumN m2 + k2) (cumN m)).1 from a2]
      by_cases c3 : 300 ≤ (stD qm (cumN m1 + k1) (cumN m2 + k2) (cumN m)).1
      · rw [if_pos (show (300 : Int32) ≤ nI _ from nI_le (a := 300) c3 (by omega))]
        have := stD_full c3 (109573 - cumN m)
        rw [show cumN m + (109573 - cumN m) = 109573 from by have := cum_le hm; omega] at this
        rw [this]
        exact ⟨q, rfl, ⟨a1, a2, a3⟩, Kp.rfl'⟩
      · obtain ⟨w, ew, hw⟩ := betw_n (n := n) h1 h2 ha (show m ≤ m2 by omega)
        obtain ⟨v, ev, hv⟩ := busy_n (n := n) hn hT hm3
        rw [if_neg (show ¬ (300 : Int32) ≤ nI _ from nI_ge (b := 300) (by omega) (by decide)), ev, b1, ew, b1]
        unfold moQ7_listMonth
        rw [bitCount_n, b1]
        have hp : pcN (v &&& w) ≤ 32 := cN_le _ _
        obtain ⟨q1, e1, A1, K1⟩ := listMonth_L (n := n) (m := m) (a := cumN m1 + k1) (b := cumN m2 + k2) (qm := qm) (z := z) (K0 := fun q_5 => some q_5) hn hm3 n 0 (v &&& w) q (by omega) (by omega) (fun i hi => by
          rw [b_and, hv i hi]
          by_cases g : i < mlN m
          · rw [hw i g, decide_eq_true g, decide_eq_true (show 0 ≤ i ∧ i < mlN m by omega)]
            cases an qm (cumN m + i) 12 <;> simp
          · rw [decide_eq_false g, decide_eq_false (show ¬ (0 ≤ i ∧ i < mlN m) by omega)]; rfl) hT ⟨a1, a2, a3⟩
        rw [e1, b1, nI_1]
        obtain ⟨q2, e2, A2, K2⟩ := ih (m + 1) q1 (by omega) (by omega) (by omega) (K1.th hT) A1
        exact ⟨q2, e2, A2, K1.trans K2⟩
-- the reference's
def Km (q q' : Pc3) : Prop := q'.2.1 = q.2.1 ∧ ∀ i, i ≠ 25 → q'.1 i = q.1 i
theorem Km.trans {q q' q'' : Pc3} (h : Km q q') (h' : Km q' q'') : Km q q'' := ⟨h'.1.trans h.1, fun i hi => (h'.2 i hi).trans (h.2 i hi)⟩
theorem cm_c {q q' : Pc3} {k d : Nat} (h : q'.2.1 = q.2.1) : cm q' k d = cm q k d := by unfold cm; rw [h]
theorem list_r58 {α : Type} {n d : Nat} {x4 : Int32} {qm : Pc3} {K0 : Int32 → Int32 → Pc3 → Option α} {T0 : Nat × (Nat → Int64)} (hD : Dts qm) (hd : d < 109573) : ∀ (fuel k : Nat) (q : Pc3), k ≤ 12 → 12 - k < fuel → q.2.1 = qm.2.1 → Ag (q.1 25) (q.2.2 24) (stK qm d T0 k) → ∃ q', moM_list_L58 n K0 fuel x4 (nI d) (nI k) q = K0 x4 (nI d) q' ∧ Ag (q'.1 25) (q'.2.2 24) (stK qm d T0 12) ∧ Km q q' := by
  intro fuel
  induction fuel with
  | zero => intro k y _ h; omega
  | succ u ih =>
    intro k q hk hf hq hA
    rw [moM_list_L58]
    by_cases c : 12 ≤ k
    · have : k = 12 := by omega
      subst this
      rw [if_pos (show (12 : Int32) ≤ nI 12 by decide)]
      exact ⟨q, rfl, hA, rfl, fun _ _ => rfl⟩
    · rw [if_neg (show ¬ (12 : Int32) ≤ nI k from nI_ge (b := 12) (by omega) (by decide))]
      obtain ⟨a1, a2, a3⟩ := hA
      rw [show rS q 25 = nI (stK qm d T0 k).1 from a2]
      by_cases c3 : 300 ≤ (stK qm d T0 k).1
      · rw [if_pos (show (300 : Int32) ≤ nI _ from nI_le (a := 300) c3 (by omega))]
        have := stK_full c3 (12 - k)
        rw [show k + (12 - k) = 12 by omega] at this
        rw [this]
        exact ⟨q, rfl, ⟨a1, a2, a3⟩, rfl, fun _ _ => rfl⟩
      · rw [if_neg (show ¬ (300 : Int32) ≤ nI _ from nI_ge (b := 300) (by omega) (by decide)), gi_in (by omega) (by decide), r3n (by omega), comesAt_r (by omega) hd, b1, nI_1, cm_c hq, hq]
        have no : pk qm k d = false → ∃ q', moM_list_L58 n K0 u x4 (nI d) (nI (k + 1)) q = K0 x4 (nI d) q' ∧ Ag (q'.1 25) (q'.2.2 24) (stK qm d T0 12) ∧ Km q q' := fun hp => ih (k + 1) q (by omega) (by omega) hq (by rw [stK_s, stp_no hp]; exact ⟨a1, a2, a3⟩)
        by_cases c4 : qm.2.1 19 k = 0
        · rw [if_pos c4]
          exact no (by unfold pk; rw [decide_eq_true c4]; rfl)
        · rw [if_neg c4]
          cases hc : cm qm k d with
          | false =>
            rw [if_pos (i01.mpr rfl)]
            exact no (by unfold pk; rw [hc, Bool.and_false])
          | true =>
            have hp : pk qm k d = true := by unfold pk; rw [hc, decide_eq_false c4]; rfl
            rw [if_neg (fun w => by rw [i01] at w; cases w), gi_in hd (by decide), gi_in (by omega) (by decide), r3n (by omega), hq, hD d hd, Int64.add_comm (nI k).toInt64]
            obtain ⟨q', e', A', K'⟩ := ih (k + 1) (sS (sL q 24 (nI (stK qm d T0 k).1) ((16 * (nI (dvN d)).toInt64) + (nI k).toInt64)) 25 ((rS (sL q 24 (nI (stK qm d T0 k).1) ((16 * (nI (dvN d)).toInt64) + (nI k).toInt64)) 25) + 1)) (by omega) (by omega) hq (by
              have := Ag_put ⟨a1, a2, a3⟩ (show (stK qm d T0 k).1 < 300 by omega) hp
              rw [stK_s]
              have e1 : (sS (sL q 24 (nI (stK qm d T0 k).1) ((16 * (nI (dvN d)).toInt64) + (nI k).toInt64)) 25 ((rS (sL q 24 (nI (stK qm d T0 k).1) ((16 * (nI (dvN d)).toInt64) + (nI k).toInt64)) 25) + 1)).2.2 24 = vp_updL (q.2.2 24) (nI (stK qm d T0 k).1).toNatClampNeg ((16 * (nI (dvN d)).toInt64) + (nI k).toInt64) := va_up_self q.2.2 24 _
              rw [e1, nI_clamp (by omega)]
              exact this)
            exact ⟨q', e', A', K'.1, fun i hi => (K'.2 i hi).trans (upd_ne hi)⟩
theorem list_r {α : Type} {n a b : Nat} {qm : Pc3} {K0 : Pc3 → Option α} (hn : 200000 ≤ n) (hD : Dts qm) (hb : b < 109573) : ∀ (fuel d : Nat) (q : Pc3), d ≤ 109573 → a ≤ d → 109573 - d < fuel → q.2.1 = qm.2.1 → Ag (q.1 25) (q.2.2 24) (stD qm a b d) → ∃ q', moM_list_L48 n K0 fuel (nI b) (nI d) q = K0 q' ∧ Ag (q'.1 25) (q'.2.2 24) (stD qm a b 109573) ∧ Km q q' := by
  intro fuel
  induction fuel with
  | zero => intro k q _ _ h; omega
  | succ u ih =>
    intro d q hd ha hf hq hA
    rw [moM_list_L48]
    by_cases c1 : b < d
    · rw [if_pos (nI_lt c1 (by omega)), stD_skip (x := d) (y := 109573) hd (fun i g1 g2 g3 => by omega)]
      exact ⟨q, rfl, hA, rfl, fun _ _ => rfl⟩
    · rw [if_neg (nI_nlt (by omega) (by omega))]
      obtain ⟨q1, e1, A1, K1⟩ := list_r58 (n := n) (x4 := nI b) (K0 := fun z14_4 z14_5 q_14 => (moM_list_L48 n K0 u z14_4 (z14_5 + 1) q_14)) hD (show d < 109573 by omega) n 0 q (by omega) (by omega) hq hA
      have e1 : moM_list_L58 n (fun z14_4 z14_5 q_14 => (moM_list_L48 n K0 u z14_4 (z14_5 + 1) q_14)) n (nI b) (nI d) 0 q = moM_list_L48 n K0 u (nI b) (nI d + 1) q1 := e1
      rw [e1, nI_1]
      obtain ⟨q2, e2, A2, K2⟩ := ih (d + 1) q1 (by omega) (by omega) (by omega) (K1.1.trans hq) (by rw [stD_s, if_pos (by omega)]; exact A1)
      exact ⟨q2, e2, A2, K1.trans K2⟩
theorem k_list {n : Nat} (hn : 200000 ≤ n) {qm : Pc3} {z q : Pc4} (f : Nat → Int64) (hI : Inv qm z q) (x1 x2 : Int32) : SK_list n qm z q f x1 x2 (fun qm z q _ => Inv qm z q) := by
  unfold SK_list moL_list moM_list moQ7_list moM_list_B28
  have t1 : ¬ rS (sS qm 0 1) 0 ≤ 0 := by show ¬ (1 : Int32) ≤ 0; decide
  rcases date_or hn hI.1 x1 with ⟨m1, k1, hD, e3, e4, hdd, h31⟩ | ⟨e3, e4⟩
  · rcases date_or hn hI.1 x2 with ⟨m2, k2, hD', e3', e4', hdd', h31'⟩ | ⟨e3', e4'⟩
    · have s0 : ∀ d, d ≤ cumN m1 + k1 → stD qm (cumN m1 + k1) (cumN m2 + k2) d = (0, fun _ => 0) := fun d hd => stD_skip (x := 0) (by omega) (fun i g1 g2 g3 => by omega)
      obtain ⟨q1, e1, A1, K1⟩ := list_c (n := n) (qm := qm) (z := z) (K0 := fun q_10 => (some (.inr ((r4S q_10 1), q_10)) : Option (Nat ⊕ (Int32 × Pc4)))) hn hD hD' n m1 (s4S q 1 0) (by have := hD.1; omega) (Nat.le_refl _) (by omega) hI.2.2.2.2.2.2.1 (by rw [s0 _ (by omega)]; exact ⟨by decide, rfl, fun i hi => by omega⟩)
      obtain ⟨qm1, e2, A2, K2⟩ := list_r (n := n) (a := cumN m1 + k1) (qm := qm) (K0 := fun q_15 => some ((rS q_15 25), q_15)) hn hI.1 hdd' n (cumN m1 + k1) (sS (sS qm 0 0) 25 0) (by omega) (Nat.le_refl _) (by omega) rfl (by rw [s0 _ (by omega)]; exact ⟨by decide, rfl, fun i hi => by omega⟩)
      rw [e3, bxr, e3', bxr, monthOf_d hD', b1, monthOf_d hD, b1, e1, e4, b1, e4', b1, if_neg (show ¬ nI (cumN m1 + k1) < (0 : Int32) from nI_nlt (b := 0) (by omega) (by omega)), if_pos (ge0 hdd'), if_pos (show rS (sS qm 0 0) 0 ≤ 0 from by show (0 : Int32) ≤ 0; decide), e2]
      have k0 : qm1.1 0 = 0 := K2.2 0 (by decide)
      refine ⟨_, _, _, rfl, rfl, ?_, fun _ => ?_, ?_⟩
      · show some (qm1.1 0) = some 0
        rw [k0]
      · show vp_updL f 0 (q1.1 1).toInt64 0 = (qm1.1 25).toInt64
        rw [upL_0, A1.2.1, A2.2.1]
      · show Inv qm1 z q1
        unfold Inv Dts Fst Th1 Rw
        rw [K1.1, K1.2.1, K2.1, K1.2.2 0 (by decide), K1.2.2 13 (by decide), K1.2.2 14 (by decide), K2.2 4 (by decide), K2.2 5 (by decide), K2.2 6 (by decide)]
        exact ⟨hI.1, hI.2.1, hI.2.2.1, hI.2.2.2.1, hI.2.2.2.2.1, ⟨_, A1.1, A1.2.1, A2.2.1, fun i hi => by rw [A1.2.2 i hi, A2.2.2 i hi]⟩, hI.2.2.2.2.2.2.1, hI.2.2.2.2.2.2.2⟩
    · rw [e3, bxr, e3', bxl, e4, b1, e4', b1, if_neg (show ¬ nI (cumN m1 + k1) < (0 : Int32) from nI_nlt (b := 0) (by omega) (by omega)), if_neg (show ¬ (0 : Int32) ≤ -1 by decide), if_neg t1]
      exact ⟨_, _, _, rfl, rfl, rfl, fun w => absurd w n_10, hI⟩
  · obtain ⟨r, er⟩ : ∃ r, moM_dayOf n x2 qm = some r := by
      rcases date_or hn hI.1 x2 with ⟨m, kk, hD, e3, e4, hdd, h31⟩ | ⟨e3, e4⟩
      · exact ⟨_, e4⟩
      · exact ⟨_, e4⟩
    rw [e3, bxl, e4, b1, er, b1, if_pos (show (-1 : Int32) < 0 by decide), if_neg t1]
    exact ⟨_, _, _, rfl, rfl, rfl, fun w => absurd w n_10, hI⟩
