/-! Pure: date, times. -/
theorem cN_tail {f : Nat → Bool} {a n : Nat} (h : a ≤ n) (hz : ∀ i, a ≤ i → i < n → f i = false) : cN f n = cN f a := by
  obtain ⟨c, rfl⟩ : ∃ c, n = a + c := ⟨n - a, by omega⟩
  rw [cN_add, cN_none (f := fun i => f (a + i)) (fun i hi => hz (a + i) (by omega) (by omega)), Nat.add_zero]
theorem cN_hit {f : Nat → Bool} {c n : Nat} (h : c < cN f n) : ∃ j, j < n ∧ f j = true ∧ cN f j = c := by
  induction n with
  | zero => exact absurd h (Nat.not_lt_zero c)
  | succ n ih =>
    rw [cN_s] at h
    by_cases g : c < cN f n
    · obtain ⟨j, h1, h2⟩ := ih g
      exact ⟨j, by omega, h2⟩
    · cases hf : f n with
      | true => rw [hf, if_pos rfl] at h; exact ⟨n, by omega, hf, by omega⟩
      | false => rw [hf, if_neg (by decide)] at h; exact absurd h g
theorem cN_lt {f : Nat → Bool} {i j : Nat} (hf : f i = true) (h : i < j) : cN f i < cN f j := by
  have := cN_mono f (show i + 1 ≤ j from h)
  rw [cN_s, hf, if_pos rfl] at this
  omega
theorem cN_inj {f : Nat → Bool} {i j : Nat} (hi : f i = true) (hj : f j = true) (h : cN f i = cN f j) : i = j := by
  rcases Nat.lt_trichotomy i j with c | c | c
  · have := cN_lt hi c; omega
  · exact c
  · have := cN_lt hj c; omega
theorem cN_low {f : Nat → Bool} {c k : Nat} (h2 : c ≤ cN f k) (h3 : ∀ j, j < k → f j = true → cN f j < c) : cN f k = c := by
  rcases Nat.lt_or_ge c (cN f k) with g | g
  · obtain ⟨j, j1, j2, j3⟩ := cN_hit g
    have := h3 j j1 j2
    omega
  · omega
theorem lowest_L {α : Type} {n c : Nat} {x : Int32} {K0 : Int32 → Int32 → Option α} (hc : c < 2 ^ 31) : ∀ (fuel i : Nat) (y : Int32), 32 - i < fuel → i ≤ 32 → i ≤ c → (∀ j, j < 32 → bt y j = (bt x j && decide (i ≤ cN (bt x) j))) → ∃ y', moQ0_lowest_L4 n () K0 fuel x (nI c) y (nI i) = K0 x y' ∧ ∀ j, j < 32 → bt y' j = (bt x j && decide (c ≤ cN (bt x) j)) := by
  intro fuel
  induction fuel with
  | zero => intro i y h; omega
  | succ u ih =>
    intro i y hf h32 hic hy
    rw [moQ0_lowest_L4]
    by_cases c1 : c ≤ i
    · rw [if_pos (nI_le c1 (by omega))]
      exact ⟨y, rfl, by rw [show c = i by omega]; exact hy⟩
    · rw [if_neg (nI_ge (by omega) (by omega))]
      by_cases c2 : y = 0
      · rw [if_pos c2]
        refine ⟨y, rfl, fun j hj => ?_⟩
        have h0 := (bt_zero y).mp c2 j hj
        have h1 := hy j hj
        rw [h0] at h1
        rw [h0]
        cases hb : bt x j with
        | false => rfl
        | true =>
          rw [hb, Bool.true_and] at h1
          rw [Bool.true_and, decide_eq_false (fun g => by rw [decide_eq_true (show i ≤ cN (bt x) j by omega)] at h1; cases h1)]
      · rw [if_neg c2, nI_1]
        obtain ⟨k, hk, h1, h2, h3, -⟩ := lowbit c2
        have hyk := hy k hk
        rw [h1] at hyk
        have hx : bt x k = true ∧ i ≤ cN (bt x) k := by
          have := hyk.symm
          simp at this
          exact this
        have hck : cN (bt x) k = i := cN_low hx.2 (fun j hj hb => by
          have := h2 j hj
          rw [hy j (by omega), hb] at this
          simp at this
          exact this)
        have hb := cN_le (bt x) k
        refine ih (i + 1) _ (by omega) (by omega) (by omega) (fun j hj => ?_)
        rw [h3 j hj, hy j hj]
        cases hb : bt x j with
        | false => rfl
        | true =>
          by_cases e : j = k
          · subst e
            rw [decide_eq_true rfl, decide_eq_false (show ¬ i + 1 ≤ cN (bt x) j by omega)]; simp
          · have : cN (bt x) j ≠ i := fun w => e (cN_inj hb hx.1 (by rw [w, hck]))
            rw [decide_eq_false e]
            by_cases g : i ≤ cN (bt x) j
            · rw [decide_eq_true g, decide_eq_true (show i + 1 ≤ cN (bt x) j by omega)]; rfl
            · rw [decide_eq_false g, decide_eq_false (show ¬ i + 1 ≤ cN (bt x) j by omega)]; rfl
theorem lowest_n {n c : Nat} {x : Int32} (hn : 200000 ≤ n) (hc : c < 2 ^ 31) : ∃ w, moQ0_lowest n x (nI c) = some w ∧ ∀ j, j < 32 → bt w j = (bt x j && decide (cN (bt x) j < c)) := by
  unfold moQ0_lowest
  obtain ⟨y, e, h⟩ := lowest_L (n := n) (x := x) (K0 := fun z3_0 z3_2 => (some (z3_0 &&& (z3_2 ^^^ (-1))))) hc n 0 x (by omega) (by omega) (by omega) (fun j hj => by simp)
  have e : moQ0_lowest_L4 n () (fun z3_0 z3_2 => (some (z3_0 &&& (z3_2 ^^^ (-1))))) n x (nI c) x 0 = _ := e
  rw [e]
  refine ⟨_, rfl, fun j hj => ?_⟩
  rw [b_and, bt_not hj, h j hj]
  by_cases g : c ≤ cN (bt x) j
  · rw [decide_eq_true g, decide_eq_false (show ¬ cN (bt x) j < c by omega)]; cases bt x j <;> rfl
  · rw [decide_eq_false g, decide_eq_true (show cN (bt x) j < c by omega)]; cases bt x j <;> rfl
theorem pick_n {n c j : Nat} {w : Int32} (hn : 200000 ≤ n) (hc : c < 2 ^ 31) (hj : j < 32) (hb : bt w j = true) (hcj : cN (bt w) j = c) : ∃ r, moQ0_lowest n w (nI c) = some r ∧ moQJ6_numberOfTrailingZeros_0f7a4 n (w &&& (r ^^^ (-1))) = some (nI j) := by
  obtain ⟨r, e, h⟩ := lowest_n (x := w) hn hc
  refine ⟨r, e, ?_⟩
  have hx : ∀ i, i < 32 → bt (w &&& (r ^^^ (-1))) i = (bt w i && decide (c ≤ cN (bt w) i)) := fun i hi => by
    rw [b_and, bt_not hi, h i hi]
    by_cases g : c ≤ cN (bt w) i
    · rw [decide_eq_true g, decide_eq_false (show ¬ cN (bt w) i < c by omega)]; cases bt w i <;> rfl
    · rw [decide_eq_false g, decide_eq_true (show cN (bt w) i < c by omega)]; cases bt w i <;> rfl
  have h0 : (w &&& (r ^^^ (-1))) ≠ 0 := fun g => by
    have := (bt_zero _).mp g j hj
    rw [hx j hj, hb, decide_eq_true (show c ≤ cN (bt w) j by omega)] at this
    cases this
  obtain ⟨k, hk, h1, h2, -, h4⟩ := ntz_n (n := n) h0
  rw [hx k hk] at h1
  have h1 : bt w k = true ∧ c ≤ cN (bt w) k := by simp at h1; exact h1
  have h5 : cN (bt w) k = c := cN_low h1.2 (fun i hi hbi => by
    have := h2 i hi
    rw [hx i (by omega), hbi] at this
    simp at this
    exact this)
  rw [h4, cN_inj h1.1 hb (by rw [h5, hcj])]
theorem pc_m {w : Int32} {m : Nat} {P : Nat → Bool} (h : ∀ j, j < 32 → bt w j = (decide (j < mlN m) && P (cumN m + j))) : cN P (cumN (m + 1)) = cN P (cumN m) + pcN w ∧ ∀ j, j ≤ mlN m → cN P (cumN m + j) = cN P (cumN m) + cN (bt w) j := by
  have hl := mlN_b m
  have key : ∀ j, j ≤ mlN m → cN P (cumN m + j) = cN P (cumN m) + cN (bt w) j := fun j hj => by
    rw [cN_add]
    congr 1
    refine (cN_congr (fun i hi => ?_)).symm
    rw [h i (by omega), decide_eq_true (show i < mlN m by omega), Bool.true_and]
  refine ⟨?_, key⟩
  rw [cum_s, key _ (Nat.le_refl _)]
  unfold pcN
  rw [cN_tail (f := bt w) (a := mlN m) (n := 32) (by omega) (fun i h1 h2 => by rw [h i h2, decide_eq_false (show ¬ i < mlN m by omega)]; rfl)]
theorem dec_n {v : Nat} (h : 0 < v) : nI v + (-1) = nI (v - 1) := by
  obtain ⟨u, rfl⟩ : ∃ u, v = u + 1 := ⟨v - 1, by omega⟩
  have := nI_pred u
  rw [Int32.sub_eq_add_neg] at this
  exact this
theorem date_c {α : Type} {n k c : Nat} {qm : Pc3} {z q : Pc4} {K0 : Option α} {K1 : Int32 → Int32 → Int32 → Option α} (hk : k < 12) (hz : ¬ z.2.1 15 k = 0) (hR : Rw qm z k) (hc : c < 2 ^ 31) : ∀ (fuel m : Nat), m ≤ 3600 → 3600 - m < fuel → cN (cm qm k) (cumN m) ≤ c →
    (∃ m' j w c', m' < 3600 ∧ j < mlN m' ∧ cm qm k (cumN m' + j) = true ∧ cN (cm qm k) (cumN m' + j) = c ∧ moQ7_date_L24 n z q K0 K1 fuel k (nI (c - cN (cm qm k) (cumN m))) (nI m) = K1 (nI c') (nI m') w ∧ c' < 2 ^ 31 ∧ bt w j = true ∧ cN (bt w) j = c') ∨ (cN (cm qm k) 109573 ≤ c ∧ moQ7_date_L24 n z q K0 K1 fuel k (nI (c - cN (cm qm k) (cumN m))) (nI m) = K0) := by
  intro fuel
  induction fuel with
  | zero => intro m _ h; omega
  | succ u ih =>
    intro m hm hf hcm
    rw [moQ7_date_L24]
    by_cases c1 : 3600 ≤ m
    · have : m = 3600 := by omega
      subst this
      rw [if_pos (show (3600 : Int32) ≤ nI 3600 by decide)]
      rw [cum_top] at hcm
      exact Or.inr ⟨hcm, rfl⟩
    · have hm3 : m < 3600 := by omega
      have hb := fun j (hj : j < 32) => dw_bt hR hm3 hj
      obtain ⟨p1, p2⟩ := pc_m hb
      have hl := mlN_b m
      have hp : pcN (dw z k m) ≤ 32 := cN_le _ _
      rw [if_neg (show ¬ (3600 : Int32) ≤ nI m from nI_ge (b := 3600) hm3 (by decide)), gl_in hk, gz_in hz, daysIn_n hm3, b1, bitCount_n, b1]
      by_cases c2 : pcN (dw z k m) ≤ c - cN (cm qm k) (cumN m)
      · rw [if_pos (nI_le c2 (by omega)), pk_sub c2, nI_1, show c - cN (cm qm k) (cumN m) - pcN (dw z k m) = c - cN (cm qm k) (cumN (m + 1)) by omega]
        exact ih (m + 1) (by omega) (by omega) (by omega)
      · rw [if_neg (nI_ge (by omega) (by omega))]
        obtain ⟨j, j1, j2, j3⟩ := cN_hit (f := bt (dw z k m)) (n := 32) (c := c - cN (cm qm k) (cumN m)) (by unfold pcN at c2; omega)
        have hbj := hb j j1
        rw [j2] at hbj
        have hbj : j < mlN m ∧ cm qm k (cumN m + j) = true := by
          have := hbj.symm
          simp at this
          exact this
        exact Or.inl ⟨m, j, _, _, hm3, hbj.1, hbj.2, by rw [p2 j (by omega), j3]; omega, rfl, by omega, j2, j3⟩
theorem date_r {α : Type} {n k c : Nat} {q : Pc3} {K0 : Pc3 → Option α} {K1 : Int32 → Pc3 → Option α} (hk : k < 12) (hc : c < 2 ^ 31) (ht : rS q 0 = 0) : ∀ (fuel d : Nat), d ≤ 109573 → 109573 - d < fuel → cN (cm q k) d ≤ c →
    (∃ e, e < 109573 ∧ cm q k e = true ∧ cN (cm q k) e = c ∧ moM_date_L30 n K0 K1 fuel (nI k) (nI (c - cN (cm q k) d)) (nI d) q = K1 (nI e) q) ∨ (cN (cm q k) 109573 ≤ c ∧ moM_date_L30 n K0 K1 fuel (nI k) (nI (c - cN (cm q k) d)) (nI d) q = K0 q) := by
  intro fuel
  induction fuel with
  | zero => intro d _ h; omega
  | succ u ih =>
    intro d hd hf hcd
    rw [moM_date_L30]
    by_cases c1 : 109573 ≤ d
    · have : d = 109573 := by omega
      subst this
      rw [if_pos (show (109573 : Int32) ≤ nI 109573 by decide)]
      exact Or.inr ⟨hcd, rfl⟩
    · have hd3 : d < 109573 := by omega
      rw [if_neg (show ¬ (109573 : Int32) ≤ nI d from nI_ge (b := 109573) hd3 (by decide)), if_pos ht, comesAt_r hk hd3, b1]
      have hs : cN (cm q k) (d + 1) = _ := cN_s
      cases hcm : cm q k d with
      | false =>
        rw [hcm, if_neg (by decide)] at hs
        rw [if_pos (i01.mpr rfl), nI_1, show c - cN (cm q k) d = c - cN (cm q k) (d + 1) by omega]
        exact ih (d + 1) (by omega) (by omega) (by omega)
      | true =>
        rw [hcm, if_pos rfl] at hs
        rw [if_neg (fun w => by rw [i01] at w; cases w)]
        by_cases c2 : cN (cm q k) d = c
        · rw [if_pos (show nI (c - cN (cm q k) d) = 0 from by rw [c2, Nat.sub_self]; rfl)]
          exact Or.inl ⟨d, hd3, hcm, c2, rfl⟩
        · rw [if_neg (show ¬ nI (c - cN (cm q k) d) = 0 from fun w => by have := (nI_eq (b := 0) (by omega) (by decide)).mp w; omega), dec_n (by omega), nI_1, show c - cN (cm q k) d - 1 = c - cN (cm q k) (d + 1) by omega]
          exact ih (d + 1) (by omega) (by omega) (by omega)
theorem k_date {n : Nat} (hn : 200000 ≤ n) {qm : Pc3} {z q : Pc4} (f : Nat → Int64) (hI : Inv qm z q) (x1 x2 : Int32) : SK_date n qm z q f x1 x2 (fun qm z q _ => Inv qm z q) := by
  unfold SK_date moL_date moM_date moQ7_date moM_date_B22
  have thr : ∀ (t : Int32), ¬ t = 0 → ∀ (K0 : Pc3 → Option (Int32 × Pc3)) K1, moM_date_L30 n K0 K1 n x1 x2 0 (sS qm 0 t) = K0 (sS qm 0 t) := by
    intro t ht K0 K1
    obtain ⟨u, rfl⟩ : ∃ u, n = u + 1 := ⟨n - 1, by omega⟩
    rw [moM_date_L30, if_neg (by decide), if_neg (show ¬ rS (sS qm 0 t) 0 = 0 from ht)]
  rcases known_or (n := n) hI x1 with ⟨k, hk, rfl, g1, g2, g3, g4, e1, e2⟩ | ⟨e1, e2⟩
  · rw [e1, bxr, e2, b1, if_pos rfl]
    by_cases c0 : (0 : Int32) ≤ x2
    · rw [if_pos c0, if_pos c0]
      obtain ⟨c, hc, rfl⟩ := nI_of (x := x2) (fun w => by
        have h1 := Int32.lt_iff_toInt_lt.mp w
        have h2 := Int32.le_iff_toInt_le.mp c0
        omega)
      have hR := (hI.2.2.2.2.2.2.1 k hk).2.2 g1
      have er := date_r (n := n) (q := sS qm 0 0) (K0 := fun q_9 => (if (rS q_9 0) ≤ 0 then (some ((-1 : Int32), q_9)) else (some (0, q_9)))) (K1 := fun z11_4 q_11 => (gi z11_4 109573 (some ((rA q_11 1 z11_4), q_11)))) hk hc rfl n 0 (by omega) (by omega) (Nat.zero_le _)
      have ec := date_c (n := n) (q := q) (K0 := (some (.inr (-1)) : Option (Nat ⊕ Int32))) (K1 := fun z10_4 z10_5 z10_6 => (bd1 (moQ0_lowest n z10_6 z10_4) fun r_11 => (bd1 (moQJ6_numberOfTrailingZeros_0f7a4 n (z10_6 &&& (r_11 ^^^ (-1)))) fun r_12 => (bd1 (moQ0_dateAt n z10_5 r_12) fun r_13 => (some (.inr r_13)))))) hk g3 hR hc n 0 (by omega) (by omega) (Nat.zero_le _)
      have z0 : c - cN (cm qm k) (cumN 0) = c := Nat.sub_zero c
      have z1 : c - cN (cm (sS qm 0 0) k) 0 = c := Nat.sub_zero c
      rw [z0] at ec
      rw [z1] at er
      rcases er with ⟨e, h1, h2, h3, er⟩ | ⟨hno, er⟩
      · rcases ec with ⟨m, j, w, c', i1, i2, i3, i4, ec, i5, i6, i7⟩ | ⟨hno', ec⟩
        · have ee : e = cumN m + j := cN_inj (f := cm qm k) h2 i3 (by rw [i4]; exact h3)
          obtain ⟨r, p1, p2⟩ := pick_n (n := n) hn i5 (by have := mlN_b m; omega) i6 i7
          have er : moM_date_L30 n (fun q_9 => (if (rS q_9 0) ≤ 0 then (some ((-1 : Int32), q_9)) else (some (0, q_9)))) (fun z11_4 q_11 => (gi z11_4 109573 (some ((rA q_11 1 z11_4), q_11)))) n (nI k) (nI c) 0 (sS qm 0 0) = _ := er
          have ec : moQ7_date_L24 n z q (some (.inr (-1)) : Option (Nat ⊕ Int32)) (fun z10_4 z10_5 z10_6 => (bd1 (moQ0_lowest n z10_6 z10_4) fun r_11 => (bd1 (moQJ6_numberOfTrailingZeros_0f7a4 n (z10_6 &&& (r_11 ^^^ (-1)))) fun r_12 => (bd1 (moQ0_dateAt n z10_5 r_12) fun r_13 => (some (.inr r_13)))))) n k (nI c) 0 = _ := ec
          rw [er, ec, p1, b1, p2, b1, dateAt_n i1 (by have := mlN_b m; omega), b1, gi_in h1 (by decide)]
          refine ⟨_, _, _, rfl, rfl, rfl, fun _ => ?_, hI⟩
          show vp_updL f 0 (nI (dtN m j)).toInt64 0 = (rA (sS qm 0 0) 1 (nI e)).toInt64
          rw [upL_0, r3n (by omega), show (sS qm 0 0).2.1 1 e = nI (dvN e) from hI.1 e h1, ee, dv_mk i2]
        · have h4 := cN_lt (f := cm (sS qm 0 0) k) h2 h1
          have h5 : cN (cm (sS qm 0 0) k) 109573 = cN (cm qm k) 109573 := rfl
          omega
      · rcases ec with ⟨m, j, w, c', i1, i2, i3, i4, ec, i5, i6, i7⟩ | ⟨hno', ec⟩
        · have h4 := cN_lt i3 (cum_in i1 i2)
          have h5 : cN (cm (sS qm 0 0) k) 109573 = cN (cm qm k) 109573 := rfl
          omega
        · have er : moM_date_L30 n (fun q_9 => (if (rS q_9 0) ≤ 0 then (some ((-1 : Int32), q_9)) else (some (0, q_9)))) (fun z11_4 q_11 => (gi z11_4 109573 (some ((rA q_11 1 z11_4), q_11)))) n (nI k) (nI c) 0 (sS qm 0 0) = _ := er
          have ec : moQ7_date_L24 n z q (some (.inr (-1)) : Option (Nat ⊕ Int32)) (fun z10_4 z10_5 z10_6 => (bd1 (moQ0_lowest n z10_6 z10_4) fun r_11 => (bd1 (moQJ6_numberOfTrailingZeros_0f7a4 n (z10_6 &&& (r_11 ^^^ (-1)))) fun r_12 => (bd1 (moQ0_dateAt n z10_5 r_12) fun r_13 => (some (.inr r_13)))))) n k (nI c) 0 = _ := ec
          rw [er, ec]
          exact ⟨_, _, _, rfl, if_pos (show rS (sS qm 0 0) 0 ≤ 0 from by show (0 : Int32) ≤ 0; decide), rfl, fun _ => rfl, hI⟩
    · rw [if_neg c0, if_neg c0, thr 2 n_20]
      exact ⟨_, _, _, rfl, if_neg (show ¬ rS (sS qm 0 2) 0 ≤ 0 from by show ¬ (2 : Int32) ≤ 0; decide), rfl, fun w => absurd w n_20, hI⟩
  · rw [e1, bxl, e2, b1, if_neg n_10, thr 1 n_10]
    exact ⟨_, _, _, rfl, if_neg (show ¬ rS (sS qm 0 1) 0 ≤ 0 from by show ¬ (1 : Int32) ≤ 0; decide), rfl, fun w => absurd w n_10, hI⟩
-- between two dates
theorem in_betw {m m1 m2 k1 k2 j : Nat} (h1 : k1 < mlN m1) (h2 : k2 < mlN m2) (hj : j < mlN m) (a : m1 ≤ m) (b : m ≤ m2) : (cumN m1 + k1 ≤ cumN m + j ↔ (m = m1 → k1 ≤ j)) ∧ (cumN m + j ≤ cumN m2 + k2 ↔ (m = m2 → j ≤ k2)) := by
  constructor
  · rcases Nat.lt_or_ge m1 m with c | c
    · have := cum_lt c
      exact ⟨fun _ e => by omega, fun _ => by omega⟩
    · have : m = m1 := by omega
      subst this
      exact ⟨fun g _ => by omega, fun g => by have := g rfl; omega⟩
  · rcases Nat.lt_or_ge m m2 with c | c
    · have := cum_lt c
      exact ⟨fun _ e => by omega, fun _ => by omega⟩
    · have : m = m2 := by omega
      subst this
      exact ⟨fun g _ => by omega, fun g => by have := g rfl; omega⟩
theorem betw_n {n m m1 m2 k1 k2 : Nat} {x1 x2 : Int32} (h1 : isD x1 m1 k1) (h2 : isD x2 m2 k2) (a : m1 ≤ m) (b : m ≤ m2) : ∃ w, moQ0_between n (nI m) x1 x2 = some w ∧ ∀ j, j < mlN m → bt w j = decide (cumN m1 + k1 ≤ cumN m + j ∧ cumN m + j ≤ cumN m2 + k2) := by
  have g1 := h1.k31
  have g2 := h2.k31
  have l1 := h1.1
  have l2 := h2.1
  have hl := mlN_b m
  unfold moQ0_between
  rw [monthOf_d h1, b1, dayOf_d h1, b1, monthOf_d h2, b1, dayOf_d h2, b1]
  have fin : ∀ w : Int32, (∀ j, j < 31 → bt w j = (decide (m = m1 → k1 ≤ j) && decide (m = m2 → j ≤ k2))) → ∀ j, j < mlN m → bt w j = decide (cumN m1 + k1 ≤ cumN m + j ∧ cumN m + j ≤ cumN m2 + k2) := by
    intro w hw j hj
    obtain ⟨i1, i2⟩ := in_betw h1.2.1 h2.2.1 hj a b
    rw [hw j (by omega), Bool.decide_and]
    congr 1
    · exact decide_eq_decide.mpr i1.symm
    · exact decide_eq_decide.mpr i2.symm
  by_cases c1 : m = m1
  · rw [if_pos (by rw [c1])]
    by_cases c2 : m = m2
    · rw [if_pos (by rw [c2])]
      refine ⟨_, rfl, fin _ (fun j hj => ?_)⟩
      rw [b_and, b_and, b_max j (by omega), b_frm k1 g1 j (by omega), b_upt k2 g2 j (by omega), decide_eq_true hj]
      simp [← c1, ← c2]
    · rw [if_neg (fun w => c2 ((nI_eq (by omega) (by omega)).mp w))]
      refine ⟨_, rfl, fin _ (fun j hj => ?_)⟩
      rw [b_and, b_max j (by omega), b_frm k1 g1 j (by omega), decide_eq_true hj]
      simp [← c1, c2]
  · rw [if_neg (fun w => c1 ((nI_eq (by omega) (by omega)).mp w)), b1]
    by_cases c2 : m = m2
    · rw [if_pos (show nI m = nI m2 by rw [c2]), b1]
      refine ⟨_, rfl, fin _ (fun j hj => ?_)⟩
      rw [b_and, b_max j (by omega), b_upt k2 g2 j (by omega), decide_eq_true hj]
      simp [c1, ← c2]
    · rw [if_neg (fun w => c2 ((nI_eq (by omega) (by omega)).mp w))]
      refine ⟨_, rfl, fin _ (fun j hj => ?_)⟩
      rw [b_max j (by omega), decide_eq_true hj]
      simp [c1, c2]
theorem times_c {α : Type} {n k m1 m2 k1 k2 : Nat} {x1 x2 : Int32} {qm : Pc3} {z q : Pc4} {K0 : Int32 → Option α} (hk : k < 12) (hz : ¬ z.2.1 15 k = 0) (hR : Rw qm z k) (h1 : isD x1 m1 k1) (h2 : isD x2 m2 k2) (P : Nat → Bool) (hP : ∀ d, P d = (cm qm k d && decide (cumN m1 + k1 ≤ d ∧ d ≤ cumN m2 + k2))) : ∀ (fuel m : Nat), m ≤ 3600 → m1 ≤ m → 3600 - m < fuel →
    moQ7_times_L30 n z q K0 fuel x1 x2 k (nI m2) (nI (cN P (cumN m))) (nI m) = K0 (nI (cN P 109573)) := by
  intro fuel
  induction fuel with
  | zero => intro m _ _ h; omega
  | succ u ih =>
    intro m hm ha hf
    have l2 := h2.1
    rw [moQ7_times_L30]
    by_cases c1 : m2 < m
    · rw [if_pos (nI_lt c1 (by omega)), cN_tail (f := P) (a := cumN m) (n := 109573) (cum_le hm) (fun i g1 g2 => ?_)]
      have := cum_lt c1
      have := h2.2.1
      rw [hP, decide_eq_false (fun w => by omega), Bool.and_false]
    · have hm3 : m < 3600 := by omega
      obtain ⟨w, ew, hw⟩ := betw_n (n := n) h1 h2 ha (show m ≤ m2 by omega)
      rw [if_neg (nI_nlt (by omega) (by omega)), gl_in hk, gz_in hz, daysIn_n hm3, b1, ew, b1, bitCount_n, b1, nI_add, nI_1]
      have hb : ∀ j, j < 32 → bt (dw z k m &&& w) j = (decide (j < mlN m) && P (cumN m + j)) := fun j hj => by
        rw [b_and, dw_bt hR hm3 hj, hP]
        by_cases cj : j < mlN m
        · rw [decide_eq_true cj, hw j cj]; rfl
        · rw [decide_eq_false cj]; rfl
      rw [← (pc_m hb).1]
      exact ih (m + 1) (by omega) (by omega) (by omega)
theorem times_r {α : Type} {n k a b : Nat} {q : Pc3} {K0 : Int32 → Pc3 → Option α} (hk : k < 12) (ht : rS q 0 = 0) (hb : b < 109573) (P : Nat → Bool) (hP : ∀ d, P d = (cm q k d && decide (a ≤ d ∧ d ≤ b))) : ∀ (fuel d : Nat), d ≤ 109573 → a ≤ d → 109573 - d < fuel →
    moM_times_L52 n K0 fuel (nI k) (nI b) (nI (cN P d)) (nI d) q = K0 (nI (cN P 109573)) q := by
  intro fuel
  induction fuel with
  | zero => intro m _ _ h; omega
  | succ u ih =>
    intro d hd ha hf
    rw [moM_times_L52]
    by_cases c1 : b < d
    · rw [if_pos (nI_lt c1 (by omega)), cN_tail (f := P) (a := d) (n := 109573) hd (fun i g1 g2 => ?_)]
      rw [hP, decide_eq_false (fun w => by omega), Bool.and_false]
    · rw [if_neg (nI_nlt (by omega) (by omega)), if_pos ht, comesAt_r hk (by omega), b1]
      have hs : cN P (d + 1) = _ := cN_s
      rw [hP d, decide_eq_true (show a ≤ d ∧ d ≤ b by omega), Bool.and_true] at hs
      cases hc : cm q k d with
      | false =>
        rw [hc, if_neg (by decide)] at hs
        rw [if_pos (i01.mpr rfl), nI_1, show cN P d = cN P (d + 1) by omega]
        exact ih (d + 1) (by omega) (by omega) (by omega)
      | true =>
        rw [hc, if_pos rfl] at hs
        rw [if_neg (fun w => by rw [i01] at w; cases w), nI_1, nI_1, ← hs]
        exact ih (d + 1) (by omega) (by omega) (by omega)
theorem k_times {n : Nat} (hn : 200000 ≤ n) {qm : Pc3} {z q : Pc4} (f : Nat → Int64) (hI : Inv qm z q) (x1 x2 x3 : Int32) : SK_times n qm z q f x1 x2 x3 (fun qm z q _ => Inv qm z q) := by
  unfold SK_times moL_times moM_times moQ7_times
  have thr : ∀ (t : Int32), ¬ t = 0 → ∀ (x y v w : Int32) (K0 : Int32 → Pc3 → Option (Int32 × Pc3)), moM_times_L52 n K0 n x y v w (sS qm 0 t) = K0 v (sS qm 0 t) := by
    intro t ht x y v w K0
    obtain ⟨u, rfl⟩ : ∃ u, n = u + 1 := ⟨n - 1, by omega⟩
    rw [moM_times_L52]
    by_cases c : y < w
    · rw [if_pos c]
    · rw [if_neg c, if_neg (show ¬ rS (sS qm 0 t) 0 = 0 from ht)]
  rcases known_or (n := n) hI x1 with ⟨k, hk, rfl, g1, g2, g3, g4, e1, e2⟩ | ⟨e1, e2⟩
  · rcases date_or hn hI.1 x2 with ⟨m1, k1, hD, e3, e4, hdd, h31⟩ | ⟨e3, e4⟩
    · rcases date_or hn hI.1 x3 with ⟨m2, k2, hD', e3', e4', hdd', h31'⟩ | ⟨e3', e4'⟩
      · have hR := (hI.2.2.2.2.2.2.1 k hk).2.2 g1
        rw [e1, bxr, e3, bxr, e3', bxr, monthOf_d hD', b1, monthOf_d hD, b1, e4, b1, e4', b1, e2, b1, if_pos rfl, if_neg (show ¬ nI (cumN m1 + k1) < (0 : Int32) from nI_nlt (b := 0) (by omega) (by omega)), if_pos (ge0 hdd')]
        have ec := times_c (n := n) (q := q) (K0 := fun z12_6 => (some (.inr z12_6) : Option (Nat ⊕ Int32))) hk g3 hR hD hD' (fun d => (cm qm k d && decide (cumN m1 + k1 ≤ d ∧ d ≤ cumN m2 + k2))) (fun d => rfl) n m1 (by have := hD.1; omega) (Nat.le_refl _) (by omega)
        have er := times_r (n := n) (q := sS qm 0 0) (K0 := fun z12_6 q_12 => some (z12_6, q_12)) hk rfl hdd' (fun d => (cm qm k d && decide (cumN m1 + k1 ≤ d ∧ d ≤ cumN m2 + k2))) (fun d => rfl) n (cumN m1 + k1) (by omega) (Nat.le_refl _) (by omega)
        rw [cN_none (f := fun d => (cm qm k d && decide (cumN m1 + k1 ≤ d ∧ d ≤ cumN m2 + k2))) (n := cumN m1) (fun i hi => by
          show (cm qm k i && decide (cumN m1 + k1 ≤ i ∧ i ≤ cumN m2 + k2)) = false
          rw [decide_eq_false (fun w => by omega), Bool.and_false])] at ec
        rw [cN_none (f := fun d => (cm qm k d && decide (cumN m1 + k1 ≤ d ∧ d ≤ cumN m2 + k2))) (n := cumN m1 + k1) (fun i hi => by
          show (cm qm k i && decide (cumN m1 + k1 ≤ i ∧ i ≤ cumN m2 + k2)) = false
          rw [decide_eq_false (fun w => by omega), Bool.and_false])] at er
        have ec : moQ7_times_L30 n z q (fun z12_6 => (some (.inr z12_6) : Option (Nat ⊕ Int32))) n x2 x3 k (nI m2) 0 (nI m1) = _ := ec
        have er : moM_times_L52 n (fun z12_6 q_12 => some (z12_6, q_12)) n (nI k) (nI (cumN m2 + k2)) 0 (nI (cumN m1 + k1)) (sS qm 0 0) = _ := er
        rw [ec, er]
        exact ⟨_, _, _, rfl, rfl, rfl, fun _ => rfl, hI⟩
      · rw [e1, bxr, e3, bxr, e3', bxl, e4, b1, e4', b1, e2, b1, if_pos rfl, if_neg (show ¬ nI (cumN m1 + k1) < (0 : Int32) from nI_nlt (b := 0) (by omega) (by omega)), if_neg (show ¬ (0 : Int32) ≤ -1 by decide), thr 2 n_20]
        exact ⟨_, _, _, rfl, rfl, rfl, fun w => absurd w n_20, hI⟩
    · obtain ⟨r, er⟩ : ∃ r, moM_dayOf n x3 qm = some r := by
        rcases date_or hn hI.1 x3 with ⟨m, kk, hD, e3, e4, hdd, h31⟩ | ⟨e3, e4⟩
        · exact ⟨_, e4⟩
        · exact ⟨_, e4⟩
      rw [e1, bxr, e3, bxl, e4, b1, er, b1, e2, b1, if_pos rfl, if_pos (show (-1 : Int32) < 0 by decide), thr 2 n_20]
      exact ⟨_, _, _, rfl, rfl, rfl, fun w => absurd w n_20, hI⟩
  · obtain ⟨r, er⟩ : ∃ r, moM_dayOf n x2 qm = some r := by
      rcases date_or hn hI.1 x2 with ⟨m, kk, hD, e3, e4, hdd, h31⟩ | ⟨e3, e4⟩
      · exact ⟨_, e4⟩
      · exact ⟨_, e4⟩
    obtain ⟨r', er'⟩ : ∃ r, moM_dayOf n x3 qm = some r := by
      rcases date_or hn hI.1 x3 with ⟨m, kk, hD, e3, e4, hdd, h31⟩ | ⟨e3, e4⟩
      · exact ⟨_, e4⟩
      · exact ⟨_, e4⟩
    rw [e1, bxl, er, b1, er', b1, e2, b1, if_neg n_10, thr 1 n_10]
    exact ⟨_, _, _, rfl, rfl, rfl, fun w => absurd w n_10, hI⟩
