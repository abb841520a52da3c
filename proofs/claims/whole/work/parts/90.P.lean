/-! Pure: the days that suit: the class. -/
def CF (q : Pc4) (ms ks : Nat) : Prop := Fst q ∧ q.2.2.2 2 < 4 ∧ isD (q.1 15) ms ks ∧ (∀ i, 7 ≤ i → i < 32 → bt (q.1 9) i = false)
theorem bt_ur {x : Int32} {k i : Nat} (hk : k < 32) : bt (urI x (nI k)) i = bt x (k + i) := b_ushr k hk x i
theorem bt_sl {x : Int32} {k i : Nat} (hk : k < 32) (hi : i < 32) : bt (slI x (nI k)) i = (decide (k ≤ i) && bt x (i - k)) := b_shl k hk x hi
theorem monthSuits_c {n ρ m ms ks : Nat} {q : Pc4} (h : CF q ms ks) (hm : m < 3600) : moQ1_monthSuits n ρ (nI m) q = some (if mOk q ms m = true then 1 else 0) := by
  obtain ⟨hF, h4, hs, -⟩ := h
  have hms := hs.1
  unfold moQ1_monthSuits
  rw [has_c (by decide), b1, has_c (by decide), b1, has_c (by decide), b1, gl_in (show r4I q 2 < 4 from h4), show moQ0_monthOf n (r4S q 15) = some (nI ms) from monthOf_d hs, b1, show rmI (nI m) 12 = nI (m % 12) from rm_n (by omega) (by decide) (by decide), show rmI (nI ms) 12 = nI (ms % 12) from rm_n (by omega) (by decide) (by decide), nI_1]
  unfold mOk hsB
  cases g4 : bt (q.1 2) 4 with
  | true =>
    rw [if_neg (show ¬ (if true = true then (1 : Int32) else 0) = 0 by decide), if_pos rfl]
    cases g6 : bt (q.1 6) (m % 12 + 1) with
    | true => rw [if_neg (fun w => by rw [and_bit (by omega)] at w; rw [show bt (r4S q 6) (m % 12 + 1) = bt (q.1 6) (m % 12 + 1) from rfl, g6] at w; cases w)]; rfl
    | false => rw [if_pos ((and_bit (by omega)).mpr g6)]; rfl
  | false =>
    rw [if_pos (show (if false = true then (1 : Int32) else 0) = 0 by decide), if_neg (show ¬ false = true by decide)]
    by_cases c3 : q.2.2.2 2 = 3
    · rw [if_pos (show r4I q 2 = 3 from c3), decide_eq_true c3]
      cases g5 : bt (q.1 2) 5 with
      | true => rw [if_neg (show ¬ (if true = true then (1 : Int32) else 0) = 0 by decide)]; rfl
      | false =>
        rw [if_pos (show (if false = true then (1 : Int32) else 0) = 0 by decide)]
        cases g7 : bt (q.1 2) 7 with
        | true => rw [if_neg (show ¬ (if true = true then (1 : Int32) else 0) = 0 by decide)]; rfl
        | false =>
          rw [if_pos (show (if false = true then (1 : Int32) else 0) = 0 by decide)]
          by_cases c : m % 12 = ms % 12
          · rw [if_pos (by rw [c]), decide_eq_true c]; rfl
          · rw [if_neg (fun w => c ((nI_eq (by omega) (by omega)).mp w)), decide_eq_false c]; rfl
    · rw [if_neg (show ¬ r4I q 2 = 3 from c3), decide_eq_false c3]; rfl
theorem fw_n : ∀ f, f < 4 → (fwho f = 0 ↔ f < 2) := by decide
theorem byMonthDay_c {n ρ m ms ks : Nat} {q : Pc4} (h : CF q ms ks) (hm : m < 3600) : ∃ w, moQ1_byMonthDay n ρ (nI m) q = some w ∧ ∀ j, j < mlN m → bt w j = dOk q ks m j := by
  obtain ⟨hF, h4, hs, -⟩ := h
  have hb := mlN_b m
  have hk := hs.k31
  unfold moQ1_byMonthDay
  rw [has_c (by decide), b1, has_c (by decide), b1, gl_in (show r4I q 2 < 4 from h4), show moQ0_dayOf n (r4S q 15) = some (nI ks) from dayOf_d hs, b1, length_n (by omega), b1, show (31 : Int32) - nI (mlN m) = nI (31 - mlN m) from pk_sub (a := 31) (by omega)]
  unfold dOk hsB
  have all : ∀ j, j < mlN m → bt 2147483647 j = true := fun j hj => by rw [b_max j (by omega), decide_eq_true (by omega)]
  cases g5 : bt (q.1 2) 5 with
  | true =>
    rw [if_neg (show ¬ (if true = true then (1 : Int32) else 0) = 0 by decide)]
    refine ⟨_, rfl, fun j hj => ?_⟩
    rw [if_pos rfl, b_or, bt_ur (by omega), show 31 - mlN m + j = j + 31 - mlN m by omega]
  | false =>
    rw [if_pos (show (if false = true then (1 : Int32) else 0) = 0 by decide)]
    have hw := fw_n _ h4
    by_cases c : q.2.2.2 2 < 2
    · rw [if_pos (show fwho (r4I q 2) = 0 from hw.mpr c)]
      exact ⟨_, rfl, fun j hj => by rw [if_neg (show ¬ false = true by decide), decide_eq_false (show ¬ 2 ≤ q.2.2.2 2 by omega), all j hj]; rfl⟩
    · rw [if_neg (show ¬ fwho (r4I q 2) = 0 from fun w => c (hw.mp w))]
      cases g7 : bt (q.1 2) 7 with
      | true =>
        rw [if_neg (show ¬ (if true = true then (1 : Int32) else 0) = 0 by decide)]
        exact ⟨_, rfl, fun j hj => by rw [if_neg (show ¬ false = true by decide), all j hj, decide_eq_true (show 2 ≤ q.2.2.2 2 by omega)]; rfl⟩
      | false =>
        rw [if_pos (show (if false = true then (1 : Int32) else 0) = 0 by decide)]
        exact ⟨_, rfl, fun j hj => by rw [if_neg (show ¬ false = true by decide), bt_sl1 (by omega) (by omega), decide_eq_true (show 2 ≤ q.2.2.2 2 by omega)]; rfl⟩
theorem weeks {w0 : Int32} (h : ∀ i, 7 ≤ i → i < 32 → bt w0 i = false) : ∀ j, j < 32 → bt ((((w0 ||| slI w0 7) ||| slI w0 14) ||| slI w0 21) ||| slI w0 28) j = bt w0 (j % 7) := by
  intro j hj
  rw [b_or, b_or, b_or, b_or, show slI w0 7 = slI w0 (nI 7) from rfl, show slI w0 14 = slI w0 (nI 14) from rfl, show slI w0 21 = slI w0 (nI 21) from rfl, show slI w0 28 = slI w0 (nI 28) from rfl, bt_sl (by decide) hj, bt_sl (by decide) hj, bt_sl (by decide) hj, bt_sl (by decide) hj]
  have hc : j / 7 = 0 ∨ j / 7 = 1 ∨ j / 7 = 2 ∨ j / 7 = 3 ∨ j / 7 = 4 := by omega
  rcases hc with c | c | c | c | c
  · rw [decide_eq_false (show ¬ 7 ≤ j by omega), decide_eq_false (show ¬ 14 ≤ j by omega), decide_eq_false (show ¬ 21 ≤ j by omega), decide_eq_false (show ¬ 28 ≤ j by omega), show j % 7 = j by omega]; simp
  · rw [decide_eq_true (show 7 ≤ j by omega), decide_eq_false (show ¬ 14 ≤ j by omega), decide_eq_false (show ¬ 21 ≤ j by omega), decide_eq_false (show ¬ 28 ≤ j by omega), show j % 7 = j - 7 by omega, h j (by omega) hj]; simp
  · rw [decide_eq_true (show 7 ≤ j by omega), decide_eq_true (show 14 ≤ j by omega), decide_eq_false (show ¬ 21 ≤ j by omega), decide_eq_false (show ¬ 28 ≤ j by omega), show j % 7 = j - 14 by omega, h j (by omega) hj, h (j - 7) (by omega) (by omega)]; simp
  · rw [decide_eq_true (show 7 ≤ j by omega), decide_eq_true (show 14 ≤ j by omega), decide_eq_true (show 21 ≤ j by omega), decide_eq_false (show ¬ 28 ≤ j by omega), show j % 7 = j - 21 by omega, h j (by omega) hj, h (j - 7) (by omega) (by omega), h (j - 14) (by omega) (by omega)]; simp
  · rw [decide_eq_true (show 7 ≤ j by omega), decide_eq_true (show 14 ≤ j by omega), decide_eq_true (show 21 ≤ j by omega), decide_eq_true (show 28 ≤ j by omega), show j % 7 = j - 28 by omega, h j (by omega) hj, h (j - 7) (by omega) (by omega), h (j - 14) (by omega) (by omega), h (j - 21) (by omega) (by omega)]; simp
theorem b_127 : ∀ i, i < 32 → bt 127 i = decide (i < 7) := by decide +kernel
theorem plain_c {n ρ m : Nat} {q : Pc4} {wd : Int32} (hF : Fst q) (hm : m < 3600) (h : ∀ i, 7 ≤ i → i < 32 → bt wd i = false) : ∃ w, moQ1_plainWeekdays n ρ (nI m) wd q = some w ∧ ∀ j, j < 32 → bt w j = bt wd ((cumN m + j) % 7) := by
  unfold moQ1_plainWeekdays
  have hc := cum_le (show m ≤ 3600 by omega)
  have hf : cumN m % 7 < 7 := Nat.mod_lt _ (by decide)
  rw [gi_in (by omega) (by decide), r4n (by omega), hF m (by omega), show rmI (nI (cumN m)) 7 = nI (cumN m % 7) from rm_n (by omega) (by decide) (by decide), show (7 : Int32) - nI (cumN m % 7) = nI (7 - cumN m % 7) from pk_sub (a := 7) (by omega)]
  generalize hfw : cumN m % 7 = fw at *
  refine ⟨_, rfl, fun j hj => ?_⟩
  have b0 : ∀ i, i < 32 → bt (((urI wd (nI fw)) ||| (slI wd (nI (7 - fw)))) &&& 127) i = (decide (i < 7) && bt wd ((i + fw) % 7)) := fun i hi => by
    rw [b_and, b_or, bt_ur (by omega), bt_sl (by omega) hi, b_127 i hi]
    by_cases c : i < 7
    · rw [decide_eq_true c, Bool.and_true, Bool.true_and]
      by_cases c2 : fw + i < 7
      · rw [decide_eq_false (show ¬ 7 - fw ≤ i by omega), show (i + fw) % 7 = fw + i by omega]; simp
      · rw [decide_eq_true (show 7 - fw ≤ i by omega), h (fw + i) (by omega) (by omega), show (i + fw) % 7 = i - (7 - fw) by omega]; simp
    · rw [decide_eq_false c]; simp
  rw [weeks (fun i h7 h32 => by rw [b0 i h32, decide_eq_false (by omega)]; rfl) j hj, b0 _ (by omega), decide_eq_true (show j % 7 < 7 by omega), Bool.true_and]
  congr 1
  omega
-- numbers of weekdays
theorem s_u64 : ∀ n, n < 64 → (((nI n).toInt64.toUInt64 &&& Int64.toUInt64 63).toBitVec % 64).toNat = n := by decide +kernel
theorem bL_ur {x : Int64} {k : Nat} (hk : k < 64) (i : Nat) : bL (urL x (nI k)) i = bL x (k + i) := by
  show (x.toUInt64 >>> ((nI k).toInt64.toUInt64 &&& Int64.toUInt64 63)).toBitVec.getLsbD i = x.toUInt64.toBitVec.getLsbD (k + i)
  rw [UInt64.toBitVec_shiftRight]
  show (x.toUInt64.toBitVec >>> (((nI k).toInt64.toUInt64 &&& Int64.toUInt64 63).toBitVec % 64).toNat).getLsbD i = _
  rw [s_u64 k hk, BitVec.getLsbD_ushiftRight]
theorem bL_1 : ∀ i, i < 64 → bL 1 i = decide (i = 0) := by decide +kernel
theorem ur1 {x : Int64} {v : Nat} (hv : v < 64) : (lg_cmp ((urL x (nI v)) &&& 1) 0 = 0) ↔ bL x v = false := by
  rw [lg_cmp_eq]
  have hb : ∀ i, i < 64 → bL ((urL x (nI v)) &&& 1) i = (bL x (v + i) && decide (i = 0)) := fun i hi => by
    have : bL ((urL x (nI v)) &&& 1) i = (bL (urL x (nI v)) i && bL 1 i) := by unfold bL; rw [Int64.toBitVec_and, BitVec.getLsbD_and]
    rw [this, bL_ur hv, bL_1 i hi]
  constructor
  · intro e
    have := hb 0 (by decide)
    rw [e, decide_eq_true rfl, Bool.and_true, Nat.add_zero] at this
    rw [← this]
    exact BitVec.getLsbD_zero
  · intro e
    apply Int64.toBitVec_inj.mp
    apply BitVec.eq_of_getLsbD_eq
    intro i hi
    show bL ((urL x (nI v)) &&& 1) i = bL 0 i
    rw [hb i hi, show bL 0 i = false from BitVec.getLsbD_zero]
    by_cases c : i = 0
    · subst c; rw [Nat.add_zero, e]; rfl
    · rw [decide_eq_false c, Bool.and_false]
theorem num75 {α : Type} {n ρ m : Nat} {q : Pc4} {K0 : Int32 → Option α} (hF : Fst q) (hm : m < 3600) : ∀ (fuel j : Nat) (x5 : Int32), j ≤ mlN m → mlN m - j < fuel → (∀ i, i < 32 → bt x5 i = (decide (i < j) && nOk q (cumN m + i))) → ∃ w, moQ1_numberedWeekdays_L75 n ρ q K0 fuel (nI m) (nI (bgB (inMo q) m)) (nI (enB (inMo q) m)) x5 (nI (cumN m + j)) = K0 w ∧ ∀ i, i < 32 → bt w i = (decide (i < mlN m) && nOk q (cumN m + i)) := by
  intro fuel
  induction fuel with
  | zero => intro j _ _ h; omega
  | succ u ih =>
    intro j x5 hj hf hx
    have hb := mlN_b m
    have hc := cum_le (show m + 1 ≤ 3600 by omega)
    rw [cum_s] at hc
    have hen : enB (inMo q) m ≤ 3600 := by
      unfold enB
      split <;> omega
    have hbg : bgB (inMo q) m ≤ 3600 := by
      unfold bgB
      split <;> omega
    rw [moQ1_numberedWeekdays_L75, nI_1, gi_in (by omega) (by decide), r4n (by omega), hF (m + 1) (by omega), cum_s]
    by_cases c : mlN m ≤ j
    · have : j = mlN m := by omega
      rw [if_pos (nI_le (by omega) (by omega))]
      exact ⟨x5, rfl, by rw [this] at hx; exact hx⟩
    · have hd : cumN m + j < 109573 := by omega
      have hmo : moD (cumN m + j) = m := moD_mk (by omega)
      obtain ⟨g1, g2, g3, g4⟩ := grp_b (im := inMo q) hd
      rw [hmo] at g1 g2 g3 g4
      have h7 : (cumN m + j) % 7 < 7 := Nat.mod_lt _ (by decide)
      rw [if_neg (nI_ge (by omega) (by omega)), gi_in (by omega) (by decide), gi_in (by omega) (by decide), show rmI (nI (cumN m + j)) 7 = nI ((cumN m + j) % 7) from rm_n (by omega) (by decide) (by decide), gi_in h7 (by decide), gi_in h7 (by decide), gi_in (by omega) (by decide), r4n (by omega), r4n (by omega), r4n (by omega), hF _ hbg, hF _ hen, hF m (by omega), pk_sub g1, show nI (cumN (enB (inMo q) m)) - (1 : Int32) = nI (cumN (enB (inMo q) m) - 1) from pk_sub (b := 1) (by omega), pk_sub (show cumN m + j ≤ cumN (enB (inMo q) m) - 1 by omega), show nI (cumN m + j - cumN (bgB (inMo q) m)) / (7 : Int32) = nI ((cumN m + j - cumN (bgB (inMo q) m)) / 7) from pk_div (by omega) (by decide) (by decide), show nI (cumN (enB (inMo q) m) - 1 - (cumN m + j)) / (7 : Int32) = nI ((cumN (enB (inMo q) m) - 1 - (cumN m + j)) / 7) from pk_div (by omega) (by decide) (by decide), nI_1, nI_1, nI_1, r4L_n (by omega), r4L_n (by omega), pk_sub (show cumN m ≤ cumN m + j by omega), show cumN m + j - cumN m = j by omega, Nat.add_assoc]
      have u1 := ur1 (x := q.2.2.1 5 ((cumN m + j) % 7)) (v := (cumN m + j - cumN (bgB (inMo q) m)) / 7 + 1) (by omega)
      have u2 := ur1 (x := q.2.2.1 6 ((cumN m + j) % 7)) (v := (cumN (enB (inMo q) m) - 1 - (cumN m + j)) / 7 + 1) (by omega)
      have en : nOk q (cumN m + j) = (bL (q.2.2.1 5 ((cumN m + j) % 7)) ((cumN m + j - cumN (bgB (inMo q) m)) / 7 + 1) || bL (q.2.2.1 6 ((cumN m + j) % 7)) ((cumN (enB (inMo q) m) - 1 - (cumN m + j)) / 7 + 1)) := by unfold nOk; rw [hmo]
      have set1 : nOk q (cumN m + j) = true → ∀ i, i < 32 → bt (x5 ||| slI 1 (nI j)) i = (decide (i < j + 1) && nOk q (cumN m + i)) := fun hy i hi => by
        rw [or_bt (by omega) hi, hx i hi]
        by_cases e : i = j
        · subst e; rw [hy, decide_eq_true (show i < i + 1 by omega)]; simp
        · rw [decide_eq_false e, Bool.or_false]
          congr 1
          exact decide_eq_decide.mpr ⟨fun g => by omega, fun g => by omega⟩
      have set0 : nOk q (cumN m + j) = false → ∀ i, i < 32 → bt x5 i = (decide (i < j + 1) && nOk q (cumN m + i)) := fun hy i hi => by
        rw [hx i hi]
        by_cases e : i = j
        · subst e; rw [hy]; simp
        · congr 1
          exact decide_eq_decide.mpr ⟨fun g => by omega, fun g => by omega⟩
      cases t1 : bL (q.2.2.1 5 ((cumN m + j) % 7)) ((cumN m + j - cumN (bgB (inMo q) m)) / 7 + 1) with
      | true =>
        rw [if_neg (fun w => by rw [u1.mp w] at t1; cases t1)]
        exact ih (j + 1) _ (by omega) (by omega) (set1 (by rw [en, t1]; rfl))
      | false =>
        rw [if_pos (u1.mpr t1)]
        cases t2 : bL (q.2.2.1 6 ((cumN m + j) % 7)) ((cumN (enB (inMo q) m) - 1 - (cumN m + j)) / 7 + 1) with
        | true =>
          rw [if_neg (fun w => by rw [u2.mp w] at t2; cases t2)]
          exact ih (j + 1) _ (by omega) (by omega) (set1 (by rw [en, t2, Bool.or_true]))
        | false =>
          rw [if_pos (u2.mpr t2)]
          exact ih (j + 1) _ (by omega) (by omega) (set0 (by rw [en, t1, t2]; rfl))
theorem jan_n {n m : Nat} (hm : m < 3600) : moQ0_januaryOf n (nI m) = some (nI (m - m % 12)) := by
  unfold moQ0_januaryOf
  rw [show rmI (nI m) 12 = nI (m % 12) from rm_n (by omega) (by decide) (by decide), pk_sub (Nat.mod_le m 12)]
theorem numbered_c {n ρ m ms ks : Nat} {q : Pc4} (hn : 200000 ≤ n) (h : CF q ms ks) (hm : m < 3600) : ∃ w, moQ1_numberedWeekdays n ρ (nI m) q = some w ∧ ∀ i, i < 32 → bt w i = (decide (i < mlN m) && nOk q (cumN m + i)) := by
  obtain ⟨hF, h4, hs, -⟩ := h
  have hb := mlN_b m
  have key : ∃ w, moQ1_numberedWeekdays_B59 n ρ q (nI m) (nI (bgB (inMo q) m)) (nI (enB (inMo q) m)) = some w ∧ ∀ i, i < 32 → bt w i = (decide (i < mlN m) && nOk q (cumN m + i)) := by
    unfold moQ1_numberedWeekdays_B59
    rw [gi_in (by omega) (by decide), r4n (by omega), hF m (by omega)]
    exact num75 (n := n) (ρ := ρ) (K0 := fun z14_5 => some z14_5) hF hm n 0 0 (by omega) (by omega) (fun i hi => by rw [b_0]; rfl)
  unfold moQ1_numberedWeekdays
  rw [gl_in (show r4I q 2 < 4 from h4), has_c (by decide), b1, jan_n hm, b1, nI_1, show nI (m - m % 12) + (12 : Int32) = nI (m - m % 12 + 12) from nI_add _ 12]
  by_cases c : q.2.2.2 2 = 2
  · have e : inMo q = true := by unfold inMo; rw [decide_eq_true c]; rfl
    rw [if_pos (show r4I q 2 = 2 from c)]
    rw [e] at key
    exact key
  · rw [if_neg (show ¬ r4I q 2 = 2 from c)]
    cases g4 : bt (q.1 2) 4 with
    | true =>
      have e : inMo q = true := by unfold inMo hsB; rw [g4, Bool.or_true]
      rw [if_neg (show ¬ (if true = true then (1 : Int32) else 0) = 0 by decide)]
      rw [e] at key
      exact key
    | false =>
      have e : inMo q = false := by unfold inMo hsB; rw [g4, decide_eq_false c]; rfl
      rw [if_pos (show (if false = true then (1 : Int32) else 0) = 0 by decide)]
      rw [e] at key
      exact key
theorem byWeekday_c {n ρ m ms ks : Nat} {q : Pc4} (hn : 200000 ≤ n) (h : CF q ms ks) (hm : m < 3600) : ∃ w, moQ1_byWeekday n ρ (nI m) q = some w ∧ ∀ j, j < mlN m → bt w j = wOk q (cumN ms + ks) (cumN m + j) := by
  have hnum := numbered_c (n := n) (ρ := ρ) hn h hm
  obtain ⟨hF, h4, hs, h9⟩ := h
  have hb := mlN_b m
  have hS := cum_in hs.1 hs.2.1
  unfold moQ1_byWeekday
  rw [has_c (by decide), b1, gl_in (show r4I q 2 < 4 from h4), show moQ0_numberOf n (r4S q 15) q = some (nI (cumN ms + ks)) from numberOf_d hF hs, b1, show rmI (nI (cumN ms + ks)) 7 = nI ((cumN ms + ks) % 7) from rm_n (by omega) (by decide) (by decide)]
  obtain ⟨w1, e1, k1⟩ := plain_c (n := n) (ρ := ρ) (wd := r4S q 9) hF hm h9
  obtain ⟨w2, e2, k2⟩ := plain_c (n := n) (ρ := ρ) (wd := slI 1 (nI ((cumN ms + ks) % 7))) hF hm (fun i g1 g2 => by rw [bt_sl1 (by omega) g2, decide_eq_false (by omega)])
  obtain ⟨w3, e3, k3⟩ := hnum
  rw [e1, b1, e2, b1, e3, b1, b1]
  unfold wOk hsB
  cases g7 : bt (q.1 2) 7 with
  | true =>
    rw [if_neg (show ¬ (if true = true then (1 : Int32) else 0) = 0 by decide)]
    by_cases c : q.1 10 = 0
    · rw [if_pos (show r4S q 10 = 0 from c)]
      refine ⟨_, rfl, fun j hj => ?_⟩
      rw [if_pos rfl, b_or, b_0, k1 j (by omega), decide_eq_true c]
      show _ = (bt (q.1 9) ((cumN m + j) % 7) || (!true && nOk q (cumN m + j)))
      rw [show bt (r4S q 9) ((cumN m + j) % 7) = bt (q.1 9) ((cumN m + j) % 7) from rfl]
      cases bt (q.1 9) ((cumN m + j) % 7) <;> rfl
    · rw [if_neg (show ¬ r4S q 10 = 0 from c)]
      refine ⟨_, rfl, fun j hj => ?_⟩
      rw [if_pos rfl, b_or, k3 j (by omega), k1 j (by omega), decide_eq_true hj, decide_eq_false c, show bt (r4S q 9) ((cumN m + j) % 7) = bt (q.1 9) ((cumN m + j) % 7) from rfl]
      cases bt (q.1 9) ((cumN m + j) % 7) <;> cases nOk q (cumN m + j) <;> rfl
  | false =>
    rw [if_pos (show (if false = true then (1 : Int32) else 0) = 0 by decide)]
    by_cases c : q.2.2.2 2 = 1
    · rw [if_pos (show r4I q 2 = 1 from c)]
      refine ⟨_, rfl, fun j hj => ?_⟩
      rw [if_neg (show ¬ false = true by decide), k2 j (by omega), bt_sl1 (by omega) (by omega), decide_eq_true c]
      rfl
    · rw [if_neg (show ¬ r4I q 2 = 1 from c)]
      refine ⟨_, rfl, fun j hj => ?_⟩
      rw [if_neg (show ¬ false = true by decide), b_max j (by omega), decide_eq_true (show j < 31 by omega), decide_eq_false c]
      rfl
theorem suiting_c {n ρ m ms ks : Nat} {q : Pc4} (hn : 200000 ≤ n) (h : CF q ms ks) (hm : m < 3600) : ∃ w, moQ1_suitingDays n ρ (nI m) q = some w ∧ ∀ j, j < 32 → bt w j = (decide (j < mlN m) && su q ms ks (cumN m + j)) := by
  obtain ⟨w1, e1, k1⟩ := byMonthDay_c (n := n) (ρ := ρ) h hm
  obtain ⟨w2, e2, k2⟩ := byWeekday_c (n := n) (ρ := ρ) hn h hm
  have hb := mlN_b m
  unfold moQ1_suitingDays
  rw [monthSuits_c h hm, b1, length_n (by omega), b1, e1, b1, e2, b1, show (31 : Int32) - nI (mlN m) = nI (31 - mlN m) from pk_sub (a := 31) (by omega)]
  have hsu : ∀ j, j < mlN m → su q ms ks (cumN m + j) = (mOk q ms m && (dOk q ks m j && wOk q (cumN ms + ks) (cumN m + j))) := fun j hj => by
    unfold su
    rw [moD_mk hj, show cumN m + j - cumN m = j by omega]
  cases g : mOk q ms m with
  | false =>
    rw [if_pos (show (if false = true then (1 : Int32) else 0) = 0 by decide)]
    refine ⟨0, rfl, fun j hj => ?_⟩
    rw [b_0]
    by_cases c : j < mlN m
    · rw [hsu j c, g]; simp
    · rw [decide_eq_false c]; rfl
  | true =>
    rw [if_neg (show ¬ (if true = true then (1 : Int32) else 0) = 0 by decide)]
    refine ⟨_, rfl, fun j hj => ?_⟩
    rw [b_and, b_and, bt_ur (by omega)]
    by_cases c : j < mlN m
    · rw [hsu j c, g, k1 j c, k2 j c, b_max _ (by omega), decide_eq_true (show 31 - mlN m + j < 31 by omega), decide_eq_true c]; rfl
    · rw [decide_eq_false c]
      by_cases c2 : 31 - mlN m + j < 32
      · rw [b_max _ c2, decide_eq_false (show ¬ 31 - mlN m + j < 31 by omega)]; rfl
      · rw [b_big (by omega)]; rfl
-- the periods that count
def pe (F d : Nat) : Nat := if F = 0 then d else if F = 1 then d / 7 else if F = 2 then moD d else moD d / 12
def cc (F : Nat) (I : Int32) (S d : Nat) : Bool := decide (rmI (nI (pe F d) - nI (pe F S)) I = 0)
theorem period_c {n F d : Nat} (hF : F < 4) (hd : d < 2 ^ 31) : moQ2_periodOf n F (nI (moD d)) (nI d) = some (nI (pe F d)) := by
  have hm : moD d ≤ d := by
    have h := (moD_s d).1
    have : ∀ m, m ≤ cumN m := by
      intro m
      induction m with
      | zero => exact Nat.le_refl _
      | succ m ih => rw [cum_s]; have := mlN_b m; omega
    have := this (moD d)
    omega
  unfold moQ2_periodOf pe
  rw [gl_in hF, gl_in hF, gl_in hF]
  by_cases c0 : F = 0
  · rw [if_pos c0, if_pos c0]
  · rw [if_neg c0, if_neg c0]
    by_cases c1 : F = 1
    · rw [if_pos c1, if_pos c1, show nI d / (7 : Int32) = nI (d / 7) from pk_div hd (by decide) (by decide)]
    · rw [if_neg c1, if_neg c1]
      by_cases c2 : F = 2
      · rw [if_pos c2, if_pos c2]
      · rw [if_neg c2, if_neg c2, show nI (moD d) / (12 : Int32) = nI (moD d / 12) from pk_div (by omega) (by decide) (by decide)]
def CI (q : Pc4) (I : Int32) (S : Nat) : Prop := q.1 16 = I ∧ ¬ I = 0 ∧ q.1 17 = nI (pe (q.2.2.2 2) S)
theorem counts_c {n ρ m j S : Nat} {I : Int32} {q : Pc4} (h4 : q.2.2.2 2 < 4) (h : CI q I S) (hm : m < 3600) (hj : j < mlN m) : moQ1_counts n ρ (nI m) (nI (cumN m + j)) q = some (if cc (q.2.2.2 2) I S (cumN m + j) = true then 1 else 0) := by
  have hd := cum_in hm hj
  have hp := period_c (n := n) (d := cumN m + j) h4 (by omega)
  rw [moD_mk hj] at hp
  unfold moQ1_counts
  rw [gl_in (show r4I q 2 < 4 from h4), show moQ2_periodOf n (r4I q 2) (nI m) (nI (cumN m + j)) = _ from hp, b1, show r4S q 16 = I from h.1, gz_in h.2.1, show r4S q 17 = nI (pe (q.2.2.2 2) S) from h.2.2]
  unfold cc
  by_cases c : rmI (nI (pe (q.2.2.2 2) (cumN m + j)) - nI (pe (q.2.2.2 2) S)) I = 0
  · rw [if_pos c, decide_eq_true c]; rfl
  · rw [if_neg c, decide_eq_false c]; rfl
theorem rm_1 (x : Int32) : rmI x 1 = 0 := by
  unfold rmI
  rw [Int32.div_one, Int32.mul_one, Int32.sub_self]
theorem pe_m {F m j j' : Nat} (hF : 2 ≤ F) (hj : j < mlN m) (hj' : j' < mlN m) : pe F (cumN m + j) = pe F (cumN m + j') := by
  unfold pe
  have e0 : ¬ F = 0 := by omega
  have e1 : ¬ F = 1 := by omega
  rw [if_neg e0, if_neg e0, if_neg e1, if_neg e1, moD_mk hj, moD_mk hj']
theorem cnt64 {α : Type} {n ρ m S : Nat} {I : Int32} {q : Pc4} {x3 : Int32} {K0 : Int32 → Option α} (h4 : q.2.2.2 2 < 4) (h : CI q I S) (hm : m < 3600) (P : Nat → Bool) (h3 : ∀ j, j < 32 → bt x3 j = (decide (j < mlN m) && P j)) : ∀ (fuel j : Nat) (x4 : Int32), j ≤ 31 → 31 - j < fuel → (∀ i, i < 32 → bt x4 i = (decide (i < j) && (decide (i < mlN m) && (cc (q.2.2.2 2) I S (cumN m + i) && P i)))) → ∃ w, moQ1_countedDays_L64 n ρ q K0 fuel (nI m) (nI (cumN m)) x3 x4 (nI j) = K0 w ∧ ∀ i, i < 32 → bt w i = (decide (i < mlN m) && (cc (q.2.2.2 2) I S (cumN m + i) && P i)) := by
  intro fuel
  induction fuel with
  | zero => intro j _ _ h; omega
  | succ u ih =>
    intro j x4 hj hf hx
    have hb := mlN_b m
    rw [moQ1_countedDays_L64]
    by_cases c : 31 ≤ j
    · have : j = 31 := by omega
      subst this
      rw [if_pos (show (31 : Int32) ≤ nI 31 by decide)]
      refine ⟨x4, rfl, fun i hi => ?_⟩
      rw [hx i hi]
      by_cases c2 : i < mlN m
      · rw [decide_eq_true (show i < 31 by omega)]; simp
      · rw [decide_eq_false c2]; simp
    · rw [if_neg (show ¬ (31 : Int32) ≤ nI j from nI_ge (b := 31) (by omega) (by decide)), nI_add, nI_1]
      have skip : (decide (j < mlN m) && (cc (q.2.2.2 2) I S (cumN m + j) && P j)) = false → ∀ i, i < 32 → bt x4 i = (decide (i < j + 1) && (decide (i < mlN m) && (cc (q.2.2.2 2) I S (cumN m + i) && P i))) := fun g i hi => by
        rw [hx i hi]
        by_cases e : i = j
        · subst e; rw [g]; simp
        · congr 1
          exact decide_eq_decide.mpr ⟨fun g => by omega, fun g => by omega⟩
      cases g3 : bt x3 j with
      | false =>
        rw [if_pos ((and_bit (by omega)).mpr g3)]
        refine ih (j + 1) x4 (by omega) (by omega) (skip ?_)
        rw [h3 j (by omega)] at g3
        cases t1 : decide (j < mlN m) with
        | false => rfl
        | true => rw [t1, Bool.true_and] at g3; rw [g3]; simp
      | true =>
        rw [h3 j (by omega), Bool.and_eq_true, decide_eq_true_iff] at g3
        rw [if_neg (fun w => by rw [and_bit (by omega), h3 j (by omega), g3.2, decide_eq_true g3.1] at w; cases w), counts_c h4 h hm g3.1, b1]
        cases gc : cc (q.2.2.2 2) I S (cumN m + j) with
        | false =>
          rw [if_pos (show (if false = true then (1 : Int32) else 0) = 0 by decide)]
          exact ih (j + 1) x4 (by omega) (by omega) (skip (by rw [gc]; simp))
        | true =>
          rw [if_neg (show ¬ (if true = true then (1 : Int32) else 0) = 0 by decide)]
          refine ih (j + 1) _ (by omega) (by omega) (fun i hi => ?_)
          rw [or_bt (by omega) hi, hx i hi]
          by_cases e : i = j
          · subst e; rw [gc, g3.2, decide_eq_true g3.1, decide_eq_true rfl, decide_eq_true (show i < i + 1 by omega)]; simp
          · rw [decide_eq_false e, Bool.or_false]
            congr 1
            exact decide_eq_decide.mpr ⟨fun g => by omega, fun g => by omega⟩
theorem counted_c {n ρ m ms ks : Nat} {I : Int32} {q : Pc4} (hn : 200000 ≤ n) (h : CF q ms ks) (hI : CI q I (cumN ms + ks)) (hm : m < 3600) : ∃ w, moQ1_countedDays n ρ (nI m) q = some w ∧ ∀ j, j < 32 → bt w j = (decide (j < mlN m) && (cc (q.2.2.2 2) I (cumN ms + ks) (cumN m + j) && su q ms ks (cumN m + j))) := by
  obtain ⟨w, ew, hw⟩ := suiting_c (n := n) (ρ := ρ) hn h hm
  have hF := h.1
  have h4 := h.2.1
  have hb := mlN_b m
  unfold moQ1_countedDays
  rw [gi_in (by omega) (by decide), gl_in (show r4I q 2 < 4 from h4), ew, b1, r4n (by omega), hF m (by omega), b1, show r4S q 16 = I from hI.1]
  have hfw := fw_n _ h4
  by_cases c : q.2.2.2 2 < 2
  · rw [if_pos (show fwho (r4I q 2) = 0 from hfw.mpr c)]
    by_cases c1 : I = 1
    · rw [if_pos c1]
      refine ⟨w, rfl, fun j hj => ?_⟩
      rw [hw j hj, show cc (q.2.2.2 2) I (cumN ms + ks) (cumN m + j) = true from by unfold cc; rw [c1]; exact decide_eq_true (rm_1 _), Bool.true_and]
    · rw [if_neg c1]
      exact cnt64 (n := n) (ρ := ρ) (K0 := fun z10_4 => some z10_4) h4 hI hm (fun j => su q ms ks (cumN m + j)) hw n 0 0 (by omega) (by omega) (fun i hi => by rw [b_0]; rfl)
  · rw [if_neg (show ¬ fwho (r4I q 2) = 0 from fun w => c (hfw.mp w))]
    have hc := counts_c (n := n) (ρ := ρ) (m := m) (j := 0) h4 hI hm (by omega)
    rw [Nat.add_zero] at hc
    have hcc : ∀ j, j < mlN m → cc (q.2.2.2 2) I (cumN ms + ks) (cumN m + j) = cc (q.2.2.2 2) I (cumN ms + ks) (cumN m) := fun j hj => by
      unfold cc
      rw [pe_m (j' := 0) (by omega) hj (by omega), Nat.add_zero]
    rw [hc, b1]
    cases g : cc (q.2.2.2 2) I (cumN ms + ks) (cumN m) with
    | false =>
      rw [if_pos (show (if false = true then (1 : Int32) else 0) = 0 by decide)]
      refine ⟨0, rfl, fun j hj => ?_⟩
      rw [b_0]
      by_cases cj : j < mlN m
      · rw [hcc j cj, g]; simp
      · rw [decide_eq_false cj]; rfl
    | true =>
      rw [if_neg (show ¬ (if true = true then (1 : Int32) else 0) = 0 by decide)]
      refine ⟨w, rfl, fun j hj => ?_⟩
      rw [hw j hj]
      by_cases cj : j < mlN m
      · rw [hcc j cj, g, Bool.true_and]
      · rw [decide_eq_false cj]; rfl
