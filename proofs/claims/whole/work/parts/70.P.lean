/-! Pure: numbers, dates. -/
theorem gi_in {α : Type} {i N : Nat} {f : Option α} (h : i < N) (hN : N < 2 ^ 31) : gi (nI i) N f = f := if_pos (vp_in_nI h hN)
theorem gi_x {α : Type} {x : Int32} {N : Nat} {f : Option α} (i : Nat) (h : i < N) (hN : N < 2 ^ 31) (hx : x = nI i) : gi x N f = f := by subst hx; exact gi_in h hN
theorem b1 {β γ : Type} {x : β} {f : β → Option γ} : bd1 (some x) f = f x := rfl
theorem b2 {α β γ : Type} {x : α} {y : β} {f : α → β → Option γ} : bd2 (some (x, y)) f = f x y := rfl
theorem gl_in {α : Type} {x N : Nat} {f : Option α} (h : x < N) : gl x N f = f := if_pos h
theorem gz_in {α : Type} {y : Int32} {f : Option α} (h : ¬ y = 0) : gz y f = f := if_neg h
theorem rm_n {a d : Nat} (ha : a < 2 ^ 31) (h0 : 0 < d) (hd : d < 2 ^ 31) : rmI (nI a) (nI d) = nI (a % d) := pk_rem ha h0 hd
theorem upd_self {f : Nat → Int32} {k : Nat} {v : Int32} : upd f k v k = v := if_pos rfl
theorem upd_ne {f : Nat → Int32} {k j : Nat} {v : Int32} (h : j ≠ k) : upd f k v j = f j := if_neg h
-- the calendar
def lpN (y : Nat) : Bool := (y % 4 == 0 && y % 100 != 0) || y % 400 == 0
def mdN (j : Nat) : Nat := ([31, 28, 31, 30, 31, 30, 31, 31, 30, 31, 30, 31] : List Nat).getD j 0
def mlN (m : Nat) : Nat := if m % 12 = 1 ∧ lpN (1900 + m / 12) = true then 29 else mdN (m % 12)
def cumN : Nat → Nat
  | 0 => 0
  | m + 1 => cumN m + mlN m
def dtN (m k : Nat) : Nat := (1900 + m / 12) * 10000 + (m % 12 + 1) * 100 + (k + 1)
theorem mdN_b : ∀ j, j < 12 → 28 ≤ mdN j ∧ mdN j ≤ 31 := by decide
theorem mlN_b (m : Nat) : 28 ≤ mlN m ∧ mlN m ≤ 31 := by
  unfold mlN
  split
  · omega
  · exact mdN_b _ (Nat.mod_lt _ (by decide))
theorem cum_s (m : Nat) : cumN (m + 1) = cumN m + mlN m := rfl
theorem cum_mono {m m' : Nat} (h : m ≤ m') : cumN m ≤ cumN m' := by
  induction m' with
  | zero => rw [Nat.le_zero.mp h]; exact Nat.le_refl _
  | succ k ih =>
    rcases Nat.lt_or_ge m (k + 1) with c | c
    · have := ih (by omega)
      rw [cum_s]; omega
    · rw [show m = k + 1 by omega]; exact Nat.le_refl _
theorem cum_lt {m m' : Nat} (h : m < m') : cumN m + mlN m ≤ cumN m' := by
  rw [← cum_s]; exact cum_mono h
theorem cum_uniq {m m' d : Nat} (h1 : cumN m ≤ d) (h2 : d < cumN (m + 1)) (h3 : cumN m' ≤ d) (h4 : d < cumN (m' + 1)) : m = m' := by
  rcases Nat.lt_trichotomy m m' with c | c | c
  · have := cum_mono (show m + 1 ≤ m' by omega); omega
  · exact c
  · have := cum_mono (show m' + 1 ≤ m by omega); omega
theorem cum_top : cumN 3600 = 109573 := by decide +kernel
def moD : Nat → Nat
  | 0 => 0
  | d + 1 => if d + 1 < cumN (moD d + 1) then moD d else moD d + 1
theorem moD_s (d : Nat) : cumN (moD d) ≤ d ∧ d < cumN (moD d + 1) := by
  induction d with
  | zero => exact ⟨Nat.le_refl _, by have := mlN_b 0; rw [show moD 0 = 0 from rfl, cum_s]; omega⟩
  | succ d ih =>
    unfold moD
    have := mlN_b (moD d + 1)
    split
    · omega
    · rw [cum_s (moD d + 1)]; omega
theorem moD_lt {d : Nat} (h : d < 109573) : moD d < 3600 := by
  rcases Nat.lt_or_ge (moD d) 3600 with c | c
  · exact c
  · have := cum_mono c
    have := (moD_s d).1
    rw [cum_top] at *; omega
theorem moD_mk {m k : Nat} (hk : k < mlN m) : moD (cumN m + k) = m := cum_uniq (moD_s _).1 (moD_s _).2 (by omega) (by rw [cum_s]; omega)
theorem cum_in {m k : Nat} (hm : m < 3600) (hk : k < mlN m) : cumN m + k < 109573 := by
  have := cum_lt hm
  rw [cum_top] at this; omega
def dvN (d : Nat) : Nat := dtN (moD d) (d - cumN (moD d))
theorem dv_mk {m k : Nat} (hk : k < mlN m) : dvN (cumN m + k) = dtN m k := by
  unfold dvN
  rw [moD_mk hk, show cumN m + k - cumN m = k by omega]
theorem dt_lt {m k : Nat} (hm : m < 3600) (hk : k < 31) : dtN m k < 22000000 := by
  unfold dtN
  have : m / 12 < 300 := by omega
  omega
theorem kd_lt (d : Nat) : d - cumN (moD d) < mlN (moD d) := by
  have := moD_s d
  rw [cum_s] at this; omega
theorem dv_lt {d : Nat} (h : d < 109573) : dvN d < 22000000 := dt_lt (moD_lt h) (Nat.lt_of_lt_of_le (kd_lt d) (mlN_b _).2)
theorem dv_succ (d : Nat) : dvN d < dvN (d + 1) := by
  have h1 := moD_s d
  have hk := kd_lt d
  have hl := mlN_b (moD d)
  by_cases c : d + 1 < cumN (moD d + 1)
  · have e : moD (d + 1) = moD d := by show (if d + 1 < cumN (moD d + 1) then moD d else moD d + 1) = _; rw [if_pos c]
    unfold dvN
    rw [e]
    unfold dtN
    omega
  · have e : moD (d + 1) = moD d + 1 := by show (if d + 1 < cumN (moD d + 1) then moD d else moD d + 1) = _; rw [if_neg c]
    unfold dvN
    rw [e]
    unfold dtN
    generalize d + 1 - cumN (moD d + 1) = k'
    generalize d - cumN (moD d) = k at *
    generalize moD d = m at *
    omega
theorem dv_mono {d e : Nat} (h : d < e) : dvN d < dvN e := by
  induction e with
  | zero => omega
  | succ e ih =>
    rcases Nat.lt_or_ge d e with c | c
    · exact Nat.lt_trans (ih c) (dv_succ e)
    · rw [show d = e by omega]; exact dv_succ e
def isD (x : Int32) (m k : Nat) : Prop := m < 3600 ∧ k < mlN m ∧ x = nI (dtN m k)
-- leap years, lengths of months: both sides
theorem leap_n {n y : Nat} (h : y < 2 ^ 31) : moQ0_isLeap n (nI y) = some (if lpN y = true then 1 else 0) := by
  unfold moQ0_isLeap
  rw [show rmI (nI y) 4 = nI (y % 4) from rm_n h (by decide) (by decide), show rmI (nI y) 100 = nI (y % 100) from rm_n h (by decide) (by decide), show rmI (nI y) 400 = nI (y % 400) from rm_n h (by decide) (by decide)]
  have e4 : (nI (y % 4) = 0) ↔ y % 4 = 0 := nI_eq (b := 0) (by omega) (by decide)
  have e1 : (nI (y % 100) = 0) ↔ y % 100 = 0 := nI_eq (b := 0) (by omega) (by decide)
  have e2 : (nI (y % 400) = 0) ↔ y % 400 = 0 := nI_eq (b := 0) (by omega) (by decide)
  unfold lpN
  by_cases c4 : y % 4 = 0 <;> by_cases c1 : y % 100 = 0 <;> by_cases c2 : y % 400 = 0 <;> simp [e4, e1, e2, c4, c1, c2, nI_0]
theorem leap_r {n y : Nat} (h : y < 2 ^ 31) : moN_isLeap n (nI y) = some (if lpN y = true then 1 else 0) := leap_n (n := n) h
theorem mlen_n : ∀ j, j < 12 → mlen j = nI (mdN j) := by decide
theorem length_n {n m : Nat} (h : m < 100000) : moQ0_lengthOf n (nI m) = some (nI (mlN m)) := by
  unfold moQ0_lengthOf
  have hj : m % 12 < 12 := Nat.mod_lt _ (by decide)
  have e1 : rmI (nI m) 12 = nI (m % 12) := rm_n (by omega) (by decide) (by decide)
  have e2 : (1900 : Int32) + nI m / 12 = nI (1900 + m / 12) := by
    rw [show nI m / (12 : Int32) = nI (m / 12) from pk_div (by omega) (by decide) (by decide)]; exact nI_add 1900 (m / 12)
  have e3 : mlen (nI (m % 12)).toNatClampNeg = nI (mdN (m % 12)) := by rw [nI_clamp (by omega)]; exact mlen_n _ hj
  have e4 : (nI (m % 12) = 1) ↔ m % 12 = 1 := nI_eq (b := 1) (by omega) (by decide)
  rw [e1, e2, e3, gi_in hj (by decide), leap_n (by omega), b1]
  unfold mlN
  by_cases c : m % 12 = 1
  · rw [if_pos (e4.mpr c)]
    by_cases c2 : lpN (1900 + m / 12) = true
    · rw [if_pos c2, if_neg (by decide), if_pos ⟨c, c2⟩]; rfl
    · rw [if_neg c2, if_pos rfl, if_neg (fun z => c2 z.2)]
  · rw [if_neg (fun z => c (e4.mp z)), if_neg (fun z => c z.1)]
theorem mlenth_r {n y j : Nat} {q : Pc3} (hq : ∀ j, j < 12 → q.2.1 2 j = mlen j) (hy : y < 2 ^ 31) (hj : j < 12) : moM_monthLength n (nI y) (nI (j + 1)) q = some (nI (if j = 1 ∧ lpN y = true then 29 else mdN j)) := by
  unfold moM_monthLength
  have e1 : nI (j + 1) - 1 = nI j := nI_pred j
  have e2 : rA q 2 (nI j) = nI (mdN j) := by
    show q.2.1 2 (nI j).toNatClampNeg = _
    rw [nI_clamp (by omega), hq j hj]; exact mlen_n j hj
  have e4 : (nI (j + 1) = 2) ↔ j = 1 := (nI_eq (b := 2) (by omega) (by decide)).trans ⟨fun h => by omega, fun h => by omega⟩
  rw [e1, e2, gi_in hj (by decide), leap_r hy, b1]
  by_cases c : j = 1
  · rw [if_pos (e4.mpr c)]
    by_cases c2 : lpN y = true
    · rw [if_pos c2, if_neg (by decide), if_pos ⟨c, c2⟩]; rfl
    · rw [if_neg c2, if_pos rfl, if_neg (fun z => c2 z.2)]
  · rw [if_neg (fun z => c (e4.mp z)), if_neg (fun z => c z.1)]
-- a date's parts
theorem dt_y {m k : Nat} (hk : k < 31) : dtN m k / 10000 = 1900 + m / 12 := by unfold dtN; omega
theorem dt_m {m k : Nat} (hk : k < 31) : dtN m k / 100 % 100 = m % 12 + 1 := by unfold dtN; omega
theorem dt_d {m k : Nat} (hk : k < 31) : dtN m k % 100 = k + 1 := by unfold dtN; omega
theorem isD.k31 {x : Int32} {m k : Nat} (h : isD x m k) : k < 31 := Nat.lt_of_lt_of_le h.2.1 (mlN_b m).2
theorem monthOf_n {n v : Nat} (hv : v < 2 ^ 31) (h1 : 1900 ≤ v / 10000) (h2 : 1 ≤ v / 100 % 100) : moQ0_monthOf n (nI v) = some (nI ((v / 10000 - 1900) * 12 + v / 100 % 100 - 1)) := by
  unfold moQ0_monthOf
  rw [show nI v / (10000 : Int32) = nI (v / 10000) from pk_div hv (by decide) (by decide), show nI v / (100 : Int32) = nI (v / 100) from pk_div hv (by decide) (by decide), show rmI (nI (v / 100)) 100 = nI (v / 100 % 100) from rm_n (by omega) (by decide) (by decide),
    show nI (v / 10000) - (1900 : Int32) = nI (v / 10000 - 1900) from pk_sub h1, show nI (v / 10000 - 1900) * (12 : Int32) = nI ((v / 10000 - 1900) * 12) from pk_mul _ 12, nI_add, show nI ((v / 10000 - 1900) * 12 + v / 100 % 100) - (1 : Int32) = nI ((v / 10000 - 1900) * 12 + v / 100 % 100 - 1) from pk_sub (b := 1) (by omega)]
theorem monthOf_d {n : Nat} {x : Int32} {m k : Nat} (h : isD x m k) : moQ0_monthOf n x = some (nI m) := by
  obtain ⟨hm, hk, rfl⟩ := h
  have h31 : k < 31 := Nat.lt_of_lt_of_le hk (mlN_b m).2
  have hv := dt_lt hm h31
  rw [monthOf_n (by omega) (by rw [dt_y h31]; omega) (by rw [dt_m h31]; omega), dt_y h31, dt_m h31]
  congr 2
  omega
theorem dayOf_d {n : Nat} {x : Int32} {m k : Nat} (h : isD x m k) : moQ0_dayOf n x = some (nI k) := by
  have h31 := h.k31
  obtain ⟨hm, hk, rfl⟩ := h
  have hv := dt_lt hm h31
  unfold moQ0_dayOf
  rw [show rmI (nI (dtN m k)) 100 = nI (dtN m k % 100) from rm_n (by omega) (by decide) (by decide), dt_d h31]
  congr 1
  exact nI_pred k
theorem isDate_or {n : Nat} (x : Int32) : (∃ m k, isD x m k ∧ moQ0_isDate n x = some 1) ∨ ((∀ m k, ¬ isD x m k) ∧ moQ0_isDate n x = some 0) := by
  have key : (∃ m k, isD x m k) ∨ moQ0_isDate n x = some 0 := by
    unfold moQ0_isDate
    by_cases c1 : x < 19000101
    · exact Or.inr (if_pos c1)
    · by_cases c2 : x ≤ 21991231
      · rw [if_neg c1, if_pos c2]
        have hp : ¬ x < 0 := fun h => c1 (Int32.lt_iff_toInt_lt.mpr (by
          have := Int32.lt_iff_toInt_lt.mp h
          rw [show (0 : Int32).toInt = 0 from by decide] at this
          rw [show (19000101 : Int32).toInt = 19000101 from by decide]; omega))
        obtain ⟨v, hv, rfl⟩ := nI_of2 (M := 21991231) (n := 21991231) (by decide) hp c2
        have hlo : 19000101 ≤ v := by
          rcases Nat.lt_or_ge v 19000101 with c | c
          · exact absurd (show nI v < nI 19000101 from nI_lt c (by decide)) c1
          · exact c
        rw [show nI v / (100 : Int32) = nI (v / 100) from pk_div (by omega) (by decide) (by decide), show rmI (nI (v / 100)) 100 = nI (v / 100 % 100) from rm_n (by omega) (by decide) (by decide), show rmI (nI v) 100 = nI (v % 100) from rm_n (by omega) (by decide) (by decide)]
        by_cases c3 : v / 100 % 100 < 1
        · exact Or.inr (if_pos (show nI (v / 100 % 100) < nI 1 from nI_lt c3 (by decide)))
        · rw [if_neg (show ¬ nI (v / 100 % 100) < (1 : Int32) from nI_nlt (b := 1) (by omega) (by omega))]
          by_cases c4 : 12 < v / 100 % 100
          · exact Or.inr (if_pos (show nI 12 < nI (v / 100 % 100) from nI_lt c4 (by omega)))
          · rw [if_neg (show ¬ (12 : Int32) < nI (v / 100 % 100) from nI_nlt (a := 12) (by omega) (by decide))]
            by_cases c5 : v % 100 < 1
            · exact Or.inr (if_pos (show nI (v % 100) < nI 1 from nI_lt c5 (by decide)))
            · rw [if_neg (show ¬ nI (v % 100) < (1 : Int32) from nI_nlt (b := 1) (by omega) (by omega)), monthOf_n (by omega) (by omega) (by omega), b1, length_n (by omega), b1]
              by_cases c6 : mlN ((v / 10000 - 1900) * 12 + v / 100 % 100 - 1) < v % 100
              · exact Or.inr (if_pos (nI_lt c6 (by omega)))
              · refine Or.inl ⟨(v / 10000 - 1900) * 12 + v / 100 % 100 - 1, v % 100 - 1, by omega, by omega, ?_⟩
                congr 1
                unfold dtN
                omega
      · exact Or.inr (by rw [if_neg c1, if_neg c2])
  have yes : ∀ m k, isD x m k → moQ0_isDate n x = some 1 := by
    intro m k h
    have h31 := h.k31
    have hmo := monthOf_d (n := n) h
    obtain ⟨hm, hk, rfl⟩ := h
    have hv := dt_lt hm h31
    have h1900 : 19000101 ≤ dtN m k := by unfold dtN; omega
    have hhi : dtN m k ≤ 21991231 := by unfold dtN; omega
    unfold moQ0_isDate
    rw [hmo, b1, length_n (by omega), b1, show nI (dtN m k) / (100 : Int32) = nI (dtN m k / 100) from pk_div (by omega) (by decide) (by decide), show rmI (nI (dtN m k / 100)) 100 = nI (dtN m k / 100 % 100) from rm_n (by omega) (by decide) (by decide), show rmI (nI (dtN m k)) 100 = nI (dtN m k % 100) from rm_n (by omega) (by decide) (by decide), dt_m h31, dt_d h31]
    have hl := mlN_b m
    rw [if_neg (show ¬ nI (dtN m k) < (19000101 : Int32) from nI_nlt (b := 19000101) h1900 (by omega)), if_pos (show nI (dtN m k) ≤ (21991231 : Int32) from nI_le (b := 21991231) hhi (by decide)), if_neg (show ¬ nI (m % 12 + 1) < (1 : Int32) from nI_nlt (b := 1) (by omega) (by omega)), if_neg (show ¬ (12 : Int32) < nI (m % 12 + 1) from nI_nlt (a := 12) (by omega) (by decide)), if_neg (show ¬ nI (k + 1) < (1 : Int32) from nI_nlt (b := 1) (by omega) (by omega)), if_neg (nI_nlt (by omega) (by omega))]
  rcases key with ⟨m, k, h⟩ | h
  · exact Or.inl ⟨m, k, h, yes m k h⟩
  · by_cases c : ∃ m k, isD x m k
    · obtain ⟨m, k, hd⟩ := c
      exact Or.inl ⟨m, k, hd, yes m k hd⟩
    · exact Or.inr ⟨fun m k hd => c ⟨m, k, hd⟩, h⟩
theorem reqDate_or {n : Nat} (x : Int32) : (∃ m k, isD x m k ∧ moQ7_requireDate n x = some (.inr ())) ∨ ((∀ m k, ¬ isD x m k) ∧ moQ7_requireDate n x = some (.inl 0)) := by
  rcases isDate_or (n := n) x with ⟨m, k, h, e⟩ | ⟨h, e⟩
  · exact Or.inl ⟨m, k, h, by unfold moQ7_requireDate; rw [e]; rfl⟩
  · exact Or.inr ⟨h, by unfold moQ7_requireDate; rw [e]; rfl⟩
