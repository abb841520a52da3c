/-! Pure: next, date, times. -/
theorem b_max : ∀ j, j < 32 → bt 2147483647 j = decide (j < 31) := by decide +kernel
theorem b_beh : ∀ k, k < 31 → ∀ j, j < 32 → bt (slI (-2) (nI k)) j = decide (k < j) := by decide +kernel
theorem b_frm : ∀ k, k < 31 → ∀ j, j < 32 → bt (slI (-1) (nI k)) j = decide (k ≤ j) := by decide +kernel
theorem b_upt : ∀ k, k < 31 → ∀ j, j < 32 → bt (slI 2 (nI k) - 1) j = decide (j ≤ k) := by decide +kernel
def Fi (P : Nat → Bool) (a e : Nat) : Prop := a ≤ e ∧ e < 109573 ∧ P e = true ∧ ∀ i, a ≤ i → i < e → P i = false
theorem Fi_uniq {P : Nat → Bool} {a e e' : Nat} (h : Fi P a e) (h' : Fi P a e') : e = e' := by
  rcases Nat.lt_trichotomy e e' with c | c | c
  · have := h'.2.2.2 e h.1 c; rw [h.2.2.1] at this; cases this
  · exact c
  · have := h.2.2.2 e' h'.1 c; rw [h'.2.2.1] at this; cases this
theorem i01 {c : Bool} : ((if c = true then (1 : Int32) else 0) = 0) ↔ c = false := by cases c <;> decide
theorem next_r {α : Type} {n k : Nat} {q : Pc3} {K0 : Pc3 → Option α} {K1 : Int32 → Pc3 → Option α} (hk : k < 12) : ∀ (fuel d : Nat), d < 2 ^ 30 → 109573 - d < fuel → (∃ e, Fi (cm q k) d e ∧ moM_next_L45 n K0 K1 fuel (nI k) (nI d) q = K1 (nI e) q) ∨ ((∀ i, d ≤ i → i < 109573 → cm q k i = false) ∧ moM_next_L45 n K0 K1 fuel (nI k) (nI d) q = K0 q) := by
  intro fuel
  induction fuel with
  | zero => intro d _ h; omega
  | succ u ih =>
    intro d h30 hf
    rw [moM_next_L45]
    by_cases c : 109573 ≤ d
    · rw [if_pos (show (109573 : Int32) ≤ nI d from nI_le (a := 109573) c (by omega))]
      exact Or.inr ⟨fun i h1 h2 => by omega, rfl⟩
    · rw [if_neg (show ¬ (109573 : Int32) ≤ nI d from nI_ge (b := 109573) (by omega) (by decide)), comesAt_r hk (by omega), b1]
      cases hc : cm q k d with
      | true =>
        rw [if_neg (fun w => by rw [i01] at w; cases w)]
        exact Or.inl ⟨d, ⟨Nat.le_refl _, by omega, hc, fun i h1 h2 => by omega⟩, rfl⟩
      | false =>
        rw [if_pos (i01.mpr rfl), nI_1]
        rcases ih (d + 1) (by omega) (by omega) with ⟨e, ⟨h1, h2, h3, h4⟩, h5⟩ | ⟨h1, h2⟩
        · exact Or.inl ⟨e, ⟨by omega, h2, h3, fun i g1 g2 => by
            rcases Nat.lt_or_ge d i with g | g
            · exact h4 i g g2
            · rw [show i = d by omega]; exact hc⟩, h5⟩
        · exact Or.inr ⟨fun i g1 g2 => by
            rcases Nat.lt_or_ge d i with g | g
            · exact h1 i g g2
            · rw [show i = d by omega]; exact hc, h2⟩
theorem mk_of {d m : Nat} (h1 : cumN m ≤ d) (h2 : d < cumN (m + 1)) : ∃ j, j < mlN m ∧ d = cumN m + j := ⟨d - cumN m, by rw [cum_s] at h2; omega, by omega⟩
theorem next_c {α : Type} {n k m0 kk : Nat} {qm : Pc3} {z q : Pc4} {K0 : Option α} {K1 : Int32 → Int32 → Option α} (hk : k < 12) (hz : ¬ z.2.1 15 k = 0) (hR : Rw qm z k) (hm0 : m0 < 3600) (hkk : kk < mlN m0) : ∀ (fuel m : Nat), m0 ≤ m → m ≤ 3600 → 3600 - m < fuel → (∀ i, cumN m0 + kk < i → i < cumN m → cm qm k i = false) →
    (∃ e w, Fi (cm qm k) (cumN m0 + kk + 1) e ∧ moQ7_next_L29 n z q K0 K1 fuel k (nI m0) (slI (-2) (nI kk)) (nI m) = K1 (nI (moD e)) w ∧ moQJ6_numberOfTrailingZeros_0f7a4 n w = some (nI (e - cumN (moD e)))) ∨ ((∀ i, cumN m0 + kk < i → i < 109573 → cm qm k i = false) ∧ moQ7_next_L29 n z q K0 K1 fuel k (nI m0) (slI (-2) (nI kk)) (nI m) = K0) := by
  intro fuel
  induction fuel with
  | zero => intro m _ _ h; omega
  | succ u ih =>
    intro m h1 h2 hf hno
    have hl0 := mlN_b m0
    have hlm := mlN_b m
    rw [moQ7_next_L29]
    by_cases c : 3600 ≤ m
    · rw [if_pos (show (3600 : Int32) ≤ nI m from nI_le (a := 3600) c (by omega))]
      have : m = 3600 := by omega
      subst this
      rw [cum_top] at hno
      exact Or.inr ⟨hno, rfl⟩
    · have hm : m < 3600 := by omega
      rw [if_neg (show ¬ (3600 : Int32) ≤ nI m from nI_ge (b := 3600) (by omega) (by decide)), gl_in hk, gz_in hz, daysIn_n hm, b1]
      -- the masked word
      have key : ∀ mask : Int32, (∀ j, j < mlN m → bt mask j = (!decide (m = m0) || decide (kk < j))) → (∀ j, j < 32 → bt (dw z k m &&& mask) j = true → j < mlN m ∧ cm qm k (cumN m + j) = true ∧ (m = m0 → kk < j)) ∧ (∀ j, j < mlN m → cm qm k (cumN m + j) = true → (m = m0 → kk < j) → bt (dw z k m &&& mask) j = true) := by
        intro mask hmask
        constructor
        · intro j hj hb
          rw [b_and, dw_bt hR hm hj] at hb
          by_cases cj : j < mlN m
          · rw [decide_eq_true cj, hmask j cj] at hb
            simp at hb
            exact ⟨cj, hb.1, fun e => hb.2.resolve_left (fun g => g e)⟩
          · rw [decide_eq_false cj] at hb; simp at hb
        · intro j hj hc he
          rw [b_and, dw_bt hR hm (by omega), decide_eq_true hj, hc, hmask j hj]
          by_cases e : m = m0
          · rw [decide_eq_true (he e)]; simp
          · rw [decide_eq_false e]; rfl
      have fin : ∀ mask : Int32, (∀ j, j < mlN m → bt mask j = (!decide (m = m0) || decide (kk < j))) → ((∃ e w, Fi (cm qm k) (cumN m0 + kk + 1) e ∧ (if (dw z k m &&& mask) = 0 then moQ7_next_L29 n z q K0 K1 u k (nI m0) (slI (-2) (nI kk)) (nI m + 1) else K1 (nI m) (dw z k m &&& mask)) = K1 (nI (moD e)) w ∧ moQJ6_numberOfTrailingZeros_0f7a4 n w = some (nI (e - cumN (moD e)))) ∨ ((∀ i, cumN m0 + kk < i → i < 109573 → cm qm k i = false) ∧ (if (dw z k m &&& mask) = 0 then moQ7_next_L29 n z q K0 K1 u k (nI m0) (slI (-2) (nI kk)) (nI m + 1) else K1 (nI m) (dw z k m &&& mask)) = K0)) := by
        intro mask hmask
        obtain ⟨ka, kb⟩ := key mask hmask
        by_cases c0 : (dw z k m &&& mask) = 0
        · rw [if_pos c0, nI_1]
          refine ih (m + 1) (by omega) (by omega) (by omega) (fun i g1 g2 => ?_)
          rcases Nat.lt_or_ge i (cumN m) with g | g
          · exact hno i g1 g
          · obtain ⟨j, hj, rfl⟩ := mk_of g g2
            cases hc : cm qm k (cumN m + j) with
            | false => rfl
            | true =>
              have := kb j hj hc (fun e => by subst e; omega)
              rw [(bt_zero _).mp c0 j (by omega)] at this
              cases this
        · rw [if_neg c0]
          obtain ⟨j, hj, hb, hlow, -, hntz⟩ := ntz_n (n := n) c0
          obtain ⟨g1, g2, g3⟩ := ka j hj hb
          refine Or.inl ⟨cumN m + j, _, ⟨?_, cum_in hm g1, g2, fun i i1 i2 => ?_⟩, by rw [moD_mk g1], by rw [moD_mk g1, hntz]; congr 2; omega⟩
          · rcases Nat.lt_or_ge m0 m with gg | gg
            · have := cum_lt gg; omega
            · have : m = m0 := by omega
              subst this
              have := g3 rfl
              omega
          · rcases Nat.lt_or_ge i (cumN m) with g | g
            · exact hno i (by omega) g
            · obtain ⟨j', hj', rfl⟩ := mk_of (m := m) g (by rw [cum_s]; omega)
              cases hc : cm qm k (cumN m + j') with
              | false => rfl
              | true =>
                have := kb j' hj' hc (fun e => by subst e; omega)
                rw [hlow j' (by omega)] at this
                cases this
      by_cases ce : m = m0
      · rw [if_pos (by rw [ce])]
        exact fin _ (fun j hj => by rw [b_beh kk (by omega) j (by omega), decide_eq_true ce]; simp)
      · rw [if_neg (fun w => ce ((nI_eq (by omega) (by omega)).mp w))]
        exact fin _ (fun j hj => by rw [b_max j (by omega), decide_eq_false ce, decide_eq_true (by omega)]; simp)
theorem k_next {n : Nat} (hn : 200000 ≤ n) {qm : Pc3} {z q : Pc4} (f : Nat → Int64) (hI : Inv qm z q) (x1 x2 : Int32) : SK_next n qm z q f x1 x2 (fun qm z q _ => Inv qm z q) := by
  unfold SK_next moL_next moM_next moQ7_next
  rcases known_or (n := n) hI x1 with ⟨k, hk, rfl, g1, g2, g3, g4, e1, e2⟩ | ⟨e1, e2⟩
  · rcases date_or hn hI.1 x2 with ⟨m, kk, hD, e3, e4, hdd, h31⟩ | ⟨e3, e4⟩
    · have hR := (hI.2.2.2.2.2.2.1 k hk).2.2 g1
      rw [e1, bxr, e3, bxr, monthOf_d hD, b1, dayOf_d hD, b1, e2, e4, b1, b1, if_pos rfl, if_pos (ge0 hdd), if_pos (show rS (sS qm 0 0) 0 ≤ 0 from by show (0 : Int32) ≤ 0; decide), nI_1]
      rcases next_r (n := n) (q := sS qm 0 0) (K0 := fun q_9 => some ((-1 : Int32), q_9)) (K1 := fun z10_4 q_10 => (gi z10_4 109573 (some ((rA q_10 1 z10_4), q_10)))) hk n (cumN m + kk + 1) (by omega) (by omega) with ⟨e, he, er⟩ | ⟨hno, er⟩
      · rcases next_c (n := n) (q := q) (K0 := (some (.inr (-1)) : Option (Nat ⊕ Int32))) (K1 := fun z13_6 z13_7 => (bd1 (moQJ6_numberOfTrailingZeros_0f7a4 n z13_7) fun r_14 => (bd1 (moQ0_dateAt n z13_6 r_14) fun r_15 => (some (.inr r_15))))) hk g3 hR hD.1 hD.2.1 n m (Nat.le_refl _) (by have := hD.1; omega) (by omega) (fun i i1 i2 => by omega) with ⟨e', w, he', ec, ew⟩ | ⟨hno', ec⟩
        · have := Fi_uniq he he'
          subst this
          rw [er, ec, ew, b1, dateAt_n (moD_lt he.2.1) (Nat.lt_of_lt_of_le (kd_lt e) (mlN_b _).2), b1, gi_in he.2.1 (by decide)]
          refine ⟨_, _, _, rfl, rfl, rfl, fun _ => ?_, hI⟩
          show vp_updL f 0 (nI (dtN (moD e) (e - cumN (moD e)))).toInt64 0 = (rA (sS qm 0 0) 1 (nI e)).toInt64
          have h109 := he.2.1
          rw [upL_0, r3n (by omega), show (sS qm 0 0).2.1 1 e = nI (dvN e) from hI.1 e he.2.1]
          rfl
        · have := hno' e (by have := he.1; omega) he.2.1
          have h3 := he.2.2.1
          rw [show cm (sS qm 0 0) k e = cm qm k e from rfl, this] at h3
          cases h3
      · rcases next_c (n := n) (q := q) (K0 := (some (.inr (-1)) : Option (Nat ⊕ Int32))) (K1 := fun z13_6 z13_7 => (bd1 (moQJ6_numberOfTrailingZeros_0f7a4 n z13_7) fun r_14 => (bd1 (moQ0_dateAt n z13_6 r_14) fun r_15 => (some (.inr r_15))))) hk g3 hR hD.1 hD.2.1 n m (Nat.le_refl _) (by have := hD.1; omega) (by omega) (fun i i1 i2 => by omega) with ⟨e', w, he', ec, ew⟩ | ⟨hno', ec⟩
        · have h3 := he'.2.2.1
          have := hno e' he'.1 he'.2.1
          rw [show cm (sS qm 0 0) k e' = cm qm k e' from rfl, h3] at this
          cases this
        · rw [er, ec]
          exact ⟨_, _, _, rfl, rfl, rfl, fun _ => rfl, hI⟩
    · rw [e1, bxr, e3, bxl, e2, e4, b1, b1, if_pos rfl, if_neg (show ¬ (0 : Int32) ≤ -1 by decide), if_neg (show ¬ rS (sS qm 0 2) 0 ≤ 0 from by show ¬ (2 : Int32) ≤ 0; decide)]
      exact ⟨_, _, _, rfl, rfl, rfl, fun w => absurd w n_20, hI⟩
  · obtain ⟨r, er⟩ : ∃ r, moM_dayOf n x2 qm = some r := by
      rcases date_or hn hI.1 x2 with ⟨m, kk, hD, e3, e4, hdd, h31⟩ | ⟨e3, e4⟩
      · exact ⟨_, e4⟩
      · exact ⟨_, e4⟩
    rw [e1, bxl, er, b1, e2, b1, if_neg n_10, if_neg (show ¬ rS (sS qm 0 1) 0 ≤ 0 from by show ¬ (1 : Int32) ≤ 0; decide)]
    exact ⟨_, _, _, rfl, rfl, rfl, fun w => absurd w n_10, hI⟩
