/-! Pure: the tables of days, searches in them, their making. -/
theorem s4A_k {q : Pc4} {k i : Nat} {v : Int32} (h : i < 2 ^ 31) : (s4A q k (nI i) v).2.1 k = upd (q.2.1 k) i v := by
  have e : (s4A q k (nI i) v).2.1 k = upd (q.2.1 k) (nI i).toNatClampNeg v := va_up_self q.2.1 k _
  rw [e, nI_clamp h]
theorem s4A_ne {q : Pc4} {k j : Nat} {i v : Int32} (h : j ≠ k) : (s4A q k i v).2.1 j = q.2.1 j := va_up_ne q.2.1 _ h
theorem sA_k {q : Pc3} {k i : Nat} {v : Int32} (h : i < 2 ^ 31) : (sA q k (nI i) v).2.1 k = upd (q.2.1 k) i v := by
  have e : (sA q k (nI i) v).2.1 k = upd (q.2.1 k) (nI i).toNatClampNeg v := va_up_self q.2.1 k _
  rw [e, nI_clamp h]
theorem sA_ne {q : Pc3} {k j : Nat} {i v : Int32} (h : j ≠ k) : (sA q k i v).2.1 j = q.2.1 j := va_up_ne q.2.1 _ h
def Dts (q : Pc3) : Prop := ∀ d, d < 109573 → q.2.1 1 d = nI (dvN d)
def Fst (q : Pc4) : Prop := ∀ m, m ≤ 3600 → q.2.1 3 m = nI (cumN m)
theorem dv_int {d : Nat} (h : d < 109573) : (nI (dvN d)).toInt = (dvN d : Int) := nI_toInt (by have := dv_lt h; omega)
theorem dayOf_L {α : Type} {n : Nat} {q : Pc3} {K0 : Int32 → Int32 → Option α} (hq : Dts q) (x : Int32) : ∀ (fuel lo hi : Nat), hi - lo < fuel → lo ≤ hi → hi ≤ 109573 → (∀ d, d < lo → (dvN d : Int) < x.toInt) → (∀ d, hi ≤ d → d < 109573 → x.toInt ≤ (dvN d : Int)) →
    ∃ r, r ≤ 109573 ∧ (∀ d, d < r → (dvN d : Int) < x.toInt) ∧ (∀ d, r ≤ d → d < 109573 → x.toInt ≤ (dvN d : Int)) ∧ moM_dayOf_L5 n q K0 fuel x (nI lo) (nI hi) = K0 x (nI r) := by
  intro fuel
  induction fuel with
  | zero => intro lo hi h; omega
  | succ k ih =>
    intro lo hi hf h1 h2 hl hh
    rw [moM_dayOf_L5]
    by_cases c : hi ≤ lo
    · have : hi = lo := by omega
      subst this
      rw [if_pos (nI_le (Nat.le_refl _) (by omega))]
      exact ⟨hi, h2, hl, hh, rfl⟩
    · rw [if_neg (nI_ge (by omega) (by omega)), nI_add, show nI (lo + hi) / (2 : Int32) = nI ((lo + hi) / 2) from pk_div (by omega) (by decide) (by decide)]
      have hm : (lo + hi) / 2 < 109573 := by omega
      have e1 : rA q 1 (nI ((lo + hi) / 2)) = nI (dvN ((lo + hi) / 2)) := by
        show q.2.1 1 (nI ((lo + hi) / 2)).toNatClampNeg = _
        rw [nI_clamp (by omega), hq _ hm]
      rw [gi_in hm (by decide), e1]
      by_cases c2 : x.toInt ≤ (dvN ((lo + hi) / 2) : Int)
      · rw [if_pos (Int32.le_iff_toInt_le.mpr (by rw [dv_int hm]; exact c2))]
        refine ih lo ((lo + hi) / 2) (by omega) (by omega) (by omega) hl (fun d hd hd2 => ?_)
        rcases Nat.lt_or_ge ((lo + hi) / 2) d with g | g
        · have := dv_mono g; omega
        · rw [show d = (lo + hi) / 2 by omega]; exact c2
      · rw [if_neg (fun z => c2 (by have := Int32.le_iff_toInt_le.mp z; rw [dv_int hm] at this; exact this)), show nI ((lo + hi) / 2) + (1 : Int32) = nI ((lo + hi) / 2 + 1) from nI_1 _]
        refine ih ((lo + hi) / 2 + 1) hi (by omega) (by omega) h2 (fun d hd => ?_) hh
        rcases Nat.lt_or_ge d ((lo + hi) / 2) with g | g
        · have := dv_mono g; omega
        · rw [show d = (lo + hi) / 2 by omega]; omega
theorem dayOf_r {n : Nat} {q : Pc3} (hn : 200000 ≤ n) (hq : Dts q) (x : Int32) : (∀ m k, isD x m k → moM_dayOf n x q = some (nI (cumN m + k))) ∧ ((∀ m k, ¬ isD x m k) → moM_dayOf n x q = some (-1)) := by
  unfold moM_dayOf
  obtain ⟨r, h1, h2, h3, e⟩ := dayOf_L (n := n) (K0 := fun z4_1 z4_2 => (if 109573 ≤ z4_2 then (some (-1)) else (gi z4_2 109573 (if (rA q 1 z4_2) = z4_1 then (some z4_2) else (some (-1)))))) hq x n 0 109573 (by omega) (by omega) (by omega) (fun d hd => by omega) (fun d h1 h2 => by omega)
  have e : moM_dayOf_L5 n q (fun z4_1 z4_2 => (if 109573 ≤ z4_2 then (some (-1)) else (gi z4_2 109573 (if (rA q 1 z4_2) = z4_1 then (some z4_2) else (some (-1)))))) n x 0 109573 = _ := e
  rw [e]
  constructor
  · rintro m k ⟨hm, hk, rfl⟩
    have hd := cum_in hm hk
    have ex : (nI (dtN m k)).toInt = (dvN (cumN m + k) : Int) := by rw [← dv_mk hk]; exact dv_int hd
    have er : r = cumN m + k := by
      rcases Nat.lt_trichotomy r (cumN m + k) with c | c | c
      · have g1 := h3 r (Nat.le_refl _) (by omega)
        have g2 := dv_mono c
        omega
      · exact c
      · have g1 := h2 (cumN m + k) c
        omega
    subst er
    rw [if_neg (show ¬ (109573 : Int32) ≤ nI (cumN m + k) from nI_ge (b := 109573) hd (by decide)), gi_in hd (by decide)]
    have e1 : rA q 1 (nI (cumN m + k)) = nI (dtN m k) := by
      show q.2.1 1 (nI (cumN m + k)).toNatClampNeg = _
      rw [nI_clamp (by omega), hq _ hd, dv_mk hk]
    rw [e1, if_pos rfl]
  · intro hno
    by_cases c : 109573 ≤ r
    · rw [if_pos (show (109573 : Int32) ≤ nI r from nI_le (a := 109573) c (by omega))]
    · rw [if_neg (show ¬ (109573 : Int32) ≤ nI r from nI_ge (b := 109573) (by omega) (by decide)), gi_in (by omega) (by decide)]
      have e1 : rA q 1 (nI r) = nI (dvN r) := by
        show q.2.1 1 (nI r).toNatClampNeg = _
        rw [nI_clamp (by omega), hq _ (by omega)]
      rw [e1, if_neg (fun z => hno (moD r) (r - cumN (moD r)) ⟨moD_lt (by omega), kd_lt r, z.symm⟩)]
theorem r4n {q : Pc4} {k i : Nat} (h : i < 2 ^ 31) : r4A q k (nI i) = q.2.1 k i := by
  show q.2.1 k (nI i).toNatClampNeg = _
  rw [nI_clamp h]
theorem r3n {q : Pc3} {k i : Nat} (h : i < 2 ^ 31) : rA q k (nI i) = q.2.1 k i := by
  show q.2.1 k (nI i).toNatClampNeg = _
  rw [nI_clamp h]
theorem cum_le {m : Nat} (h : m ≤ 3600) : cumN m ≤ 109573 := by rw [← cum_top]; exact cum_mono h
theorem numberOf_d {n : Nat} {x : Int32} {m k : Nat} {q : Pc4} (hq : Fst q) (h : isD x m k) : moQ0_numberOf n x q = some (nI (cumN m + k)) := by
  unfold moQ0_numberOf
  rw [monthOf_d h, b1, gi_in (by have := h.1; omega) (by decide), dayOf_d h, b1, r4n (by have := h.1; omega), hq m (by have := h.1; omega), nI_add]
theorem dateAt_n {n m k : Nat} (hm : m < 3600) (hk : k < 31) : moQ0_dateAt n (nI m) (nI k) = some (nI (dtN m k)) := by
  unfold moQ0_dateAt
  rw [show nI m / (12 : Int32) = nI (m / 12) from pk_div (by omega) (by decide) (by decide), show (1900 : Int32) + nI (m / 12) = nI (1900 + m / 12) from nI_add 1900 _, show nI (1900 + m / 12) * (10000 : Int32) = nI ((1900 + m / 12) * 10000) from pk_mul _ 10000, show rmI (nI m) 12 = nI (m % 12) from rm_n (by omega) (by decide) (by decide), show nI (m % 12) + (1 : Int32) = nI (m % 12 + 1) from nI_1 _, show nI (m % 12 + 1) * (100 : Int32) = nI ((m % 12 + 1) * 100) from pk_mul _ 100, nI_add, nI_add, nI_1]
  exact congrArg (fun v => some (nI v)) (by unfold dtN; omega)
theorem dateOf_L {α : Type} {n d : Nat} {q : Pc4} {K0 : Int32 → Int32 → Option α} (hq : Fst q) (hd : d < 109573) : ∀ (j fuel mo : Nat), j < 20 → j < fuel → cumN mo ≤ d → mo < 3600 → (3600 ≤ mo + 2 ^ j ∨ d < cumN (mo + 2 ^ j)) → moQ0_dateOf_L6 n q K0 fuel (nI d) (nI mo) (nI (2 ^ j / 2)) = K0 (nI d) (nI (moD d)) := by
  intro j
  induction j with
  | zero =>
    intro fuel mo hj hf h1 h2 h3
    obtain ⟨k, rfl⟩ : ∃ k, fuel = k + 1 := ⟨fuel - 1, by omega⟩
    rw [moQ0_dateOf_L6, if_pos (show nI (2 ^ 0 / 2) ≤ (0 : Int32) from nI_le (b := 0) (by decide) (by decide))]
    have h4 : d < cumN (mo + 1) := by
      rcases h3 with h3 | h3
      · have : mo = 3599 := by omega
        subst this
        show d < cumN 3600
        rw [cum_top]; exact hd
      · exact h3
    rw [cum_uniq (moD_s d).1 (moD_s d).2 h1 h4]
  | succ j ih =>
    intro fuel mo hj hf h1 h2 h3
    obtain ⟨k, rfl⟩ : ∃ k, fuel = k + 1 := ⟨fuel - 1, by omega⟩
    have e0 : 2 ^ (j + 1) / 2 = 2 ^ j := by rw [Nat.pow_succ]; omega
    have hp : 0 < 2 ^ j := Nat.two_pow_pos j
    have hp2 : 2 ^ j ≤ 2 ^ 19 := Nat.pow_le_pow_right (by decide) (by omega)
    have hp3 : (2 : Nat) ^ 19 = 524288 := by decide
    rw [e0, moQ0_dateOf_L6, if_neg (show ¬ nI (2 ^ j) ≤ (0 : Int32) from nI_ge (a := 0) hp (by omega)), nI_add, show nI (2 ^ j) / (2 : Int32) = nI (2 ^ j / 2) from pk_div (by omega) (by decide) (by decide)]
    have e2 : 2 ^ (j + 1) = 2 ^ j + 2 ^ j := by rw [Nat.pow_succ]; omega
    by_cases c : 3600 ≤ mo + 2 ^ j
    · rw [if_pos (show (3600 : Int32) ≤ nI (mo + 2 ^ j) from nI_le (a := 3600) c (by omega))]
      exact ih k mo (by omega) (by omega) h1 h2 (Or.inl c)
    · rw [if_neg (show ¬ (3600 : Int32) ≤ nI (mo + 2 ^ j) from nI_ge (b := 3600) (by omega) (by decide)), gi_in (by omega) (by decide), r4n (by omega), hq _ (by omega)]
      have hb := cum_le (m := mo + 2 ^ j) (by omega)
      by_cases c2 : d < cumN (mo + 2 ^ j)
      · rw [if_pos (nI_lt c2 (by omega))]
        exact ih k mo (by omega) (by omega) h1 h2 (Or.inr c2)
      · rw [if_neg (nI_nlt (by omega) (by omega))]
        refine ih k (mo + 2 ^ j) (by omega) (by omega) (by omega) (by omega) ?_
        rcases h3 with h3 | h3
        · exact Or.inl (by omega)
        · exact Or.inr (by rw [show mo + 2 ^ j + 2 ^ j = mo + 2 ^ (j + 1) by omega]; exact h3)
theorem dateOf_d {n d : Nat} {q : Pc4} (hn : 200000 ≤ n) (hq : Fst q) (hd : d < 109573) : moQ0_dateOf n (nI d) q = some (nI (dvN d)) := by
  unfold moQ0_dateOf
  have h := dateOf_L (n := n) (K0 := (fun z5_1 z5_2 => (gi z5_2 3601 (bd1 (moQ0_dateAt n z5_2 (z5_1 - (r4A q 3 z5_2))) fun r_7 => (some r_7))))) hq hd 12 n 0 (by decide) (by omega) (Nat.zero_le _) (by decide) (Or.inl (by decide))
  have h : moQ0_dateOf_L6 n q (fun z5_1 z5_2 => (gi z5_2 3601 (bd1 (moQ0_dateAt n z5_2 (z5_1 - (r4A q 3 z5_2))) fun r_7 => (some r_7)))) n (nI d) 0 2048 = _ := h
  rw [h]
  have hm := moD_lt hd
  have hk := kd_lt d
  have hl := mlN_b (moD d)
  have hs := moD_s d
  rw [gi_in (by omega) (by decide), r4n (by omega), hq _ (by omega), pk_sub hs.1, dateAt_n hm (by omega), b1]
  rfl
-- making the tables
theorem days_L {α : Type} {n : Nat} {K0 : Pc4 → Option α} : ∀ (fuel m : Nat) (q : Pc4), 3600 - m < fuel → m ≤ 3600 → (∀ i, i ≤ m → q.2.1 3 i = nI (cumN i)) → ∃ q', Fst q' ∧ moQD_init_L15 n K0 fuel (nI m) q = K0 q' := by
  intro fuel
  induction fuel with
  | zero => intro m q h; omega
  | succ k ih =>
    intro m q hf hm hq
    rw [moQD_init_L15]
    by_cases c : 3600 ≤ m
    · rw [if_pos (show (3600 : Int32) ≤ nI m from nI_le (a := 3600) c (by omega))]
      exact ⟨q, fun i hi => hq i (by omega), rfl⟩
    · rw [if_neg (show ¬ (3600 : Int32) ≤ nI m from nI_ge (b := 3600) (by omega) (by decide)), gi_in (by omega) (by decide), length_n (by omega), b1, nI_1, gi_in (by omega) (by decide), r4n (by omega), hq m (Nat.le_refl _), nI_add]
      refine ih (m + 1) _ (by omega) (by omega) (fun i hi => ?_)
      rw [s4A_k (by omega)]
      rcases Nat.lt_or_ge i (m + 1) with g | g
      · rw [upd_ne (by omega)]; exact hq i (by omega)
      · rw [show i = m + 1 by omega, upd_self]; rfl
theorem days_init {n : Nat} (hn : 200000 ≤ n) : ∃ qd, moQ0_init n qz = some qd ∧ Fst qd := by
  obtain ⟨q', h1, h2⟩ := days_L (n := n) (K0 := fun q_5 => (fun q_6 => (some q_6)) q_5) n 0 qz (by omega) (by omega) (fun i hi => by rw [show i = 0 by omega]; rfl)
  exact ⟨q', h2, h1⟩
def sD (f : Nat → Int32) : Pc3 := (qM0.1, va_up qM0.2.1 1 f, qM0.2.2)
theorem sD_A {f : Nat → Int32} {i : Nat} {v : Int32} (h : i < 2 ^ 31) : sA (sD f) 1 (nI i) v = sD (upd f i v) := by
  have e : (sA (sD f) 1 (nI i) v).2.1 = (sD (upd f i v)).2.1 := by
    funext j
    by_cases c : j = 1
    · subst c
      rw [sA_k h, show (sD f).2.1 1 = f from va_up_self qM0.2.1 1 f, show (sD (upd f i v)).2.1 1 = upd f i v from va_up_self qM0.2.1 1 _]
    · rw [sA_ne c, show (sD f).2.1 j = qM0.2.1 j from va_up_ne qM0.2.1 f c, show (sD (upd f i v)).2.1 j = qM0.2.1 j from va_up_ne qM0.2.1 _ c]
  exact Prod.ext rfl (Prod.ext e rfl)
theorem sD_len {f : Nat → Int32} : ∀ j, j < 12 → (sD f).2.1 2 j = mlen j := by
  intro j hj
  have : (sD f).2.1 2 = qM0.2.1 2 := va_up_ne (k := 1) (j := 2) qM0.2.1 f (by decide)
  rw [this]
  exact (by decide : ∀ j, j < 12 → qM0.2.1 2 j = mlen j) j hj
def upTo (f : Nat → Int32) (c : Nat) : Prop := ∀ d, d < c → f d = nI (dvN d)
theorem mlN_yj {y j : Nat} (hj : j < 12) : mlN (12 * y + j) = if j = 1 ∧ lpN (1900 + y) = true then 29 else mdN j := by
  unfold mlN
  rw [show (12 * y + j) % 12 = j by omega, show (12 * y + j) / 12 = y by omega]
theorem mi_216 {α : Type} {n : Nat} {K0 : Int32 → Int32 → Int32 → Pc3 → Option α} {y j : Nat} (hy : y < 300) (hj : j < 12) : ∀ (fuel k : Nat) (f : Nat → Int32), 40 - k < fuel → k ≤ mlN (12 * y + j) → upTo f (cumN (12 * y + j) + k) → ∃ f', upTo f' (cumN (12 * y + j + 1)) ∧ moM_init_L216 n K0 fuel (nI (cumN (12 * y + j) + k)) (nI (1900 + y)) (nI (j + 1)) (nI (k + 1)) (sD f) = K0 (nI (cumN (12 * y + j + 1))) (nI (1900 + y)) (nI (j + 1)) (sD f') := by
  intro fuel
  induction fuel with
  | zero => intro k f h; omega
  | succ u ih =>
    intro k f hf hk hu
    have hl := mlN_b (12 * y + j)
    rw [moM_init_L216, mlenth_r sD_len (by omega) hj, b1, ← mlN_yj hj]
    by_cases c : mlN (12 * y + j) < k + 1
    · have : k = mlN (12 * y + j) := by omega
      subst this
      rw [if_pos (nI_lt c (by omega))]
      exact ⟨f, hu, rfl⟩
    · rw [if_neg (nI_nlt (by omega) (by omega))]
      have hd := cum_in (m := 12 * y + j) (k := k) (by omega) (by omega)
      rw [gi_in hd (by decide), show (10000 : Int32) * nI (1900 + y) = nI (10000 * (1900 + y)) from pk_mul 10000 _, show (100 : Int32) * nI (j + 1) = nI (100 * (j + 1)) from pk_mul 100 _, nI_add, nI_add, sD_A (by omega), nI_1, nI_1]
      refine ih (k + 1) _ (by omega) (by omega) (fun d hd2 => ?_)
      rcases Nat.lt_or_ge d (cumN (12 * y + j) + k) with g | g
      · rw [upd_ne (by omega)]; exact hu d g
      · rw [show d = cumN (12 * y + j) + k by omega, upd_self, dv_mk (by omega)]
        congr 1
        unfold dtN
        omega
theorem mi_207 {α : Type} {n : Nat} {K0 : Int32 → Int32 → Pc3 → Option α} (hn : 200000 ≤ n) {y : Nat} (hy : y < 300) : ∀ (fuel j : Nat) (f : Nat → Int32), 12 - j < fuel → j ≤ 12 → upTo f (cumN (12 * y + j)) → ∃ f', upTo f' (cumN (12 * (y + 1))) ∧ moM_init_L207 n K0 fuel (nI (cumN (12 * y + j))) (nI (1900 + y)) (nI (j + 1)) (sD f) = K0 (nI (cumN (12 * (y + 1)))) (nI (1900 + y)) (sD f') := by
  intro fuel
  induction fuel with
  | zero => intro j f h; omega
  | succ u ih =>
    intro j f hf hj hu
    rw [moM_init_L207]
    by_cases c : 12 ≤ j
    · have : j = 12 := by omega
      subst this
      rw [if_pos (show (13 : Int32) ≤ nI (12 + 1) from nI_le (a := 13) (by omega) (by omega))]
      exact ⟨f, hu, rfl⟩
    · rw [if_neg (show ¬ (13 : Int32) ≤ nI (j + 1) from nI_ge (b := 13) (by omega) (by decide))]
      obtain ⟨f1, hu1, e1⟩ := mi_216 (n := n) (K0 := fun z6_1 z6_2 z6_3 q_6 => moM_init_L207 n K0 u z6_1 z6_2 (z6_3 + 1) q_6) hy (show j < 12 by omega) n 0 f (by omega) (Nat.zero_le _) hu
      have e1 : moM_init_L216 n (fun z6_1 z6_2 z6_3 q_6 => moM_init_L207 n K0 u z6_1 z6_2 (z6_3 + 1) q_6) n (nI (cumN (12 * y + j))) (nI (1900 + y)) (nI (j + 1)) 1 (sD f) = _ := e1
      rw [e1, nI_1]
      exact ih (j + 1) f1 (by omega) (by omega) hu1
theorem mi_198 {α : Type} {n : Nat} {K0 : Pc3 → Option α} (hn : 200000 ≤ n) : ∀ (fuel y : Nat) (f : Nat → Int32), 300 - y < fuel → y ≤ 300 → upTo f (cumN (12 * y)) → ∃ f', upTo f' 109573 ∧ moM_init_L198 n K0 fuel (nI (cumN (12 * y))) (nI (1900 + y)) (sD f) = K0 (sD f') := by
  intro fuel
  induction fuel with
  | zero => intro y f h; omega
  | succ u ih =>
    intro y f hf hy hu
    rw [moM_init_L198]
    by_cases c : 300 ≤ y
    · have : y = 300 := by omega
      subst this
      rw [if_pos (show (2200 : Int32) ≤ nI (1900 + 300) from nI_le (a := 2200) (by omega) (by omega))]
      exact ⟨f, by rw [show 12 * 300 = 3600 from rfl, cum_top] at hu; exact hu, rfl⟩
    · rw [if_neg (show ¬ (2200 : Int32) ≤ nI (1900 + y) from nI_ge (b := 2200) (by omega) (by decide))]
      obtain ⟨f1, hu1, e1⟩ := mi_207 (n := n) (K0 := fun z7_1 z7_2 q_7 => moM_init_L198 n K0 u z7_1 (z7_2 + 1) q_7) hn (show y < 300 by omega) n 0 f (by omega) (Nat.zero_le _) hu
      have e1 : moM_init_L207 n (fun z7_1 z7_2 q_7 => moM_init_L198 n K0 u z7_1 (z7_2 + 1) q_7) n (nI (cumN (12 * y))) (nI (1900 + y)) 1 (sD f) = _ := e1
      rw [e1, nI_1]
      exact ih (y + 1) f1 (by omega) (by omega) hu1
theorem ref_init {n : Nat} (hn : 200000 ≤ n) : ∃ f, moM_init n qM0 = some (sD f) ∧ Dts (sD f) := by
  obtain ⟨f', h1, h2⟩ := mi_198 (n := n) (K0 := fun q_8 => (fun q_9 => (some q_9)) q_8) hn n 0 (qM0.2.1 1) (by omega) (by omega) (fun d hd => by have : cumN (12 * 0) = 0 := rfl; omega)
  have e : sD (qM0.2.1 1) = qM0 := by
    unfold sD
    have : va_up qM0.2.1 1 (qM0.2.1 1) = qM0.2.1 := by
      funext j
      by_cases c : j = 1
      · subst c; exact va_up_self _ _ _
      · exact va_up_ne _ _ c
    rw [this]
  rw [e] at h2
  refine ⟨f', h2, fun d hd => ?_⟩
  have : (sD f').2.1 1 = f' := va_up_self qM0.2.1 1 f'
  rw [this]
  exact h1 d hd
