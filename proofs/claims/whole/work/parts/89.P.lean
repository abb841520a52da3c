/-! Pure: the days that suit: the reference. -/
def hsB (q : Pc4) (k : Nat) : Bool := bt (q.1 2) k
def inMo (q : Pc4) : Bool := decide (q.2.2.2 2 = 2) || hsB q 4
def bgB (im : Bool) (m : Nat) : Nat := if im = true then m else m - m % 12
def enB (im : Bool) (m : Nat) : Nat := if im = true then m + 1 else m - m % 12 + 12
def mOk (q : Pc4) (ms m : Nat) : Bool := if hsB q 4 = true then bt (q.1 6) (m % 12 + 1) else (!(decide (q.2.2.2 2 = 3) && !hsB q 5 && !hsB q 7) || decide (m % 12 = ms % 12))
def dOk (q : Pc4) (ks m k : Nat) : Bool := if hsB q 5 = true then (bt (q.1 7) k || bt (q.1 8) (k + 31 - mlN m)) else (!(decide (2 ≤ q.2.2.2 2) && !hsB q 7) || decide (k = ks))
def nOk (q : Pc4) (d : Nat) : Bool := bL (q.2.2.1 5 (d % 7)) ((d - cumN (bgB (inMo q) (moD d))) / 7 + 1) || bL (q.2.2.1 6 (d % 7)) ((cumN (enB (inMo q) (moD d)) - 1 - d) / 7 + 1)
def wOk (q : Pc4) (S d : Nat) : Bool := if hsB q 7 = true then (bt (q.1 9) (d % 7) || (!decide (q.1 10 = 0) && nOk q d)) else (!decide (q.2.2.2 2 = 1) || decide (d % 7 = S % 7))
def su (q : Pc4) (ms ks d : Nat) : Bool := mOk q ms (moD d) && (dOk q ks (moD d) (d - cumN (moD d)) && wOk q (cumN ms + ks) d)
def RC (qm : Pc3) (q : Pc4) (ms ks : Nat) : Prop := RT qm q ∧ qm.1 9 = nI (q.2.2.2 2) ∧ Dts qm ∧ (∀ j, j < 12 → qm.2.1 2 j = mlen j) ∧ qm.1 18 = nI (cumN ms + ks) ∧ ms < 3600 ∧ ks < mlN ms
theorem dv_k31 (d : Nat) : d - cumN (moD d) < 31 := Nat.lt_of_lt_of_le (kd_lt d) (mlN_b _).2
theorem yearOf_rr {n d : Nat} {q : Pc3} (hD : Dts q) (hd : d < 109573) : moM_yearOf n (nI d) q = some (nI (1900 + moD d / 12)) := by
  unfold moM_yearOf
  have := dv_lt hd
  rw [gi_in hd (by decide), r3n (by omega), hD d hd, show nI (dvN d) / (10000 : Int32) = nI (dvN d / 10000) from pk_div (by omega) (by decide) (by decide), show dvN d / 10000 = 1900 + moD d / 12 from dt_y (dv_k31 d)]
theorem monthOf_rr {n d : Nat} {q : Pc3} (hD : Dts q) (hd : d < 109573) : moM_monthOf n (nI d) q = some (nI (moD d % 12 + 1)) := by
  unfold moM_monthOf
  have := dv_lt hd
  rw [gi_in hd (by decide), r3n (by omega), hD d hd, show nI (dvN d) / (100 : Int32) = nI (dvN d / 100) from pk_div (by omega) (by decide) (by decide), show rmI (nI (dvN d / 100)) 100 = nI (dvN d / 100 % 100) from rm_n (by omega) (by decide) (by decide), show dvN d / 100 % 100 = moD d % 12 + 1 from dt_m (dv_k31 d)]
theorem mdayOf_rr {n d : Nat} {q : Pc3} (hD : Dts q) (hd : d < 109573) : moM_monthDayOf n (nI d) q = some (nI (d - cumN (moD d) + 1)) := by
  unfold moM_monthDayOf
  have := dv_lt hd
  rw [gi_in hd (by decide), r3n (by omega), hD d hd, show rmI (nI (dvN d)) 100 = nI (dvN d % 100) from rm_n (by omega) (by decide) (by decide), show dvN d % 100 = d - cumN (moD d) + 1 from dt_d (dv_k31 d)]
theorem cum_le_iff {b e : Nat} : cumN b ≤ e ↔ b ≤ moD e := by
  have h := moD_s e
  constructor
  · intro g
    rcases Nat.lt_or_ge (moD e) b with c | c
    · have := cum_mono (show moD e + 1 ≤ b from c); omega
    · exact c
  · intro g
    have := cum_mono g; omega
theorem cum_lt_iff {b e : Nat} : e < cumN b ↔ moD e < b := by
  have := cum_le_iff (b := b) (e := e)
  omega
theorem grp {im : Bool} {m e : Nat} : (moD e / 12 = m / 12 ∧ (im = true → moD e % 12 = m % 12)) ↔ (cumN (bgB im m) ≤ e ∧ e < cumN (enB im m)) := by
  rw [cum_le_iff, cum_lt_iff]
  unfold bgB enB
  cases im with
  | true =>
    rw [if_pos rfl, if_pos rfl]
    exact ⟨fun h => by have := h.2 rfl; omega, fun h => ⟨by omega, fun _ => by omega⟩⟩
  | false =>
    rw [if_neg (by decide), if_neg (by decide)]
    exact ⟨fun h => by omega, fun h => ⟨by omega, fun g => by cases g⟩⟩
theorem ml_le (m : Nat) : mlN m ≤ if m % 12 = 1 then 29 else mdN (m % 12) := by
  unfold mlN
  by_cases c : m % 12 = 1
  · rw [if_pos c]
    split
    · exact Nat.le_refl _
    · rw [c]; decide
  · rw [if_neg c, if_neg (fun g => c g.1)]; exact Nat.le_refl _
theorem yr_len (y : Nat) : cumN (12 * y + 12) ≤ cumN (12 * y) + 366 := by
  have key : ∀ j, j < 12 → mlN (12 * y + j) ≤ ([31, 29, 31, 30, 31, 30, 31, 31, 30, 31, 30, 31] : List Nat).getD j 0 := fun j hj => by
    have h := ml_le (12 * y + j)
    rw [show (12 * y + j) % 12 = j by omega] at h
    have t : ∀ j, j < 12 → (if j = 1 then 29 else mdN j) = ([31, 29, 31, 30, 31, 30, 31, 31, 30, 31, 30, 31] : List Nat).getD j 0 := by decide
    rw [t j hj] at h
    exact h
  have k0 : mlN (12 * y) ≤ 31 := key 0 (by decide)
  have k1 : mlN (12 * y + 1) ≤ 29 := key 1 (by decide)
  have k2 : mlN (12 * y + 2) ≤ 31 := key 2 (by decide)
  have k3 : mlN (12 * y + 3) ≤ 30 := key 3 (by decide)
  have k4 : mlN (12 * y + 4) ≤ 31 := key 4 (by decide)
  have k5 : mlN (12 * y + 5) ≤ 30 := key 5 (by decide)
  have k6 : mlN (12 * y + 6) ≤ 31 := key 6 (by decide)
  have k7 : mlN (12 * y + 7) ≤ 31 := key 7 (by decide)
  have k8 : mlN (12 * y + 8) ≤ 30 := key 8 (by decide)
  have k9 : mlN (12 * y + 9) ≤ 31 := key 9 (by decide)
  have k10 : mlN (12 * y + 10) ≤ 30 := key 10 (by decide)
  have k11 : mlN (12 * y + 11) ≤ 31 := key 11 (by decide)
  have e : cumN (12 * y + 12) = cumN (12 * y) + mlN (12 * y) + mlN (12 * y + 1) + mlN (12 * y + 2) + mlN (12 * y + 3) + mlN (12 * y + 4) + mlN (12 * y + 5) + mlN (12 * y + 6) + mlN (12 * y + 7) + mlN (12 * y + 8) + mlN (12 * y + 9) + mlN (12 * y + 10) + mlN (12 * y + 11) := rfl
  omega
theorem grp_b {im : Bool} {d : Nat} (hd : d < 109573) : cumN (bgB im (moD d)) ≤ d ∧ d < cumN (enB im (moD d)) ∧ cumN (enB im (moD d)) ≤ cumN (bgB im (moD d)) + 366 ∧ cumN (enB im (moD d)) ≤ 109573 := by
  have g := (grp (im := im) (m := moD d) (e := d)).mp ⟨rfl, fun _ => rfl⟩
  have hm := moD_lt hd
  refine ⟨g.1, g.2, ?_, ?_⟩
  · unfold bgB enB
    cases im with
    | true =>
      rw [if_pos rfl, if_pos rfl, cum_s]
      have := mlN_b (moD d)
      omega
    | false =>
      rw [if_neg (by decide), if_neg (by decide)]
      have := yr_len (moD d / 12)
      rw [show 12 * (moD d / 12) = moD d - moD d % 12 by omega] at this
      exact this
  · refine cum_le ?_
    unfold enB
    cases im with
    | true => rw [if_pos rfl]; omega
    | false => rw [if_neg (by decide)]; omega
theorem sg0 (b : Bool) : (sgI b = 0) ↔ b = false := by cases b <;> decide
theorem sub366 {d : Nat} (hd : d < 109573) : (nI d - 366).toInt = (d : Int) - 366 := by
  rw [Int32.toInt_sub, nI_toInt (by omega), show (366 : Int32).toInt = 366 from by decide, Int.bmod_def]
  split <;> omega
theorem num51 {α : Type} {n d : Nat} {im : Bool} {q : Pc3} {x2 x5 : Int32} {K0 : Int32 → Int32 → Int32 → Int32 → Int32 → Option α} (hD : Dts q) (hd : d < 109573) : ∀ (fuel f : Nat), cumN (bgB im (moD d)) ≤ f → f ≤ d → f - cumN (bgB im (moD d)) < fuel → moM_hasNumberedWeekday_L51 n q K0 fuel (nI d) x2 (sgI im) (nI f) x5 = K0 (nI d) x2 (sgI im) (nI (cumN (bgB im (moD d)))) x5 := by
  obtain ⟨b1', b2', b3, b4⟩ := grp_b (im := im) hd
  have hm := moD_lt hd
  intro fuel
  induction fuel with
  | zero => intro f _ _ h; omega
  | succ u ih =>
    intro f h1 h2 hf
    rw [moM_hasNumberedWeekday_L51]
    by_cases c : f = 0
    · subst c
      rw [if_pos (show nI 0 ≤ (0 : Int32) by decide), show cumN (bgB im (moD d)) = 0 by omega]
    · have hm1 := moD_lt (show f - 1 < 109573 by omega)
      rw [if_neg (nI_nle (by omega) (by omega)), show nI f - (1 : Int32) = nI (f - 1) from pk_sub (b := 1) (by omega), yearOf_rr hD (by omega), b1, yearOf_rr hD hd, b1, monthOf_rr hD (by omega), b1, monthOf_rr hD hd, b1]
      have g := grp (im := im) (m := moD d) (e := f - 1)
      unfold moM_hasNumberedWeekday_B92
      have c366 : ¬ f = cumN (bgB im (moD d)) → ¬ nI f ≤ nI d - 366 := fun _ w => by
        rw [Int32.le_iff_toInt_le, sub366 hd, nI_toInt (by omega)] at w
        omega
      by_cases cin : f = cumN (bgB im (moD d))
      · have hno : ¬ (moD (f - 1) / 12 = moD d / 12 ∧ (im = true → moD (f - 1) % 12 = moD d % 12)) := fun w => by have := (g.mp w).1; omega
        by_cases cy : moD (f - 1) / 12 = moD d / 12
        · rw [if_pos (by rw [cy])]
          have him : im = true := by
            cases h : im with
            | true => rfl
            | false => exact absurd ⟨cy, fun w => by rw [h] at w; cases w⟩ hno
          have cmo : ¬ moD (f - 1) % 12 = moD d % 12 := fun w => hno ⟨cy, fun _ => w⟩
          rw [if_neg (fun w => by rw [sg0, him] at w; cases w), if_neg (fun w => by have := (nI_eq (by omega) (by omega)).mp w; omega), cin]
        · rw [if_neg (fun w => by have := (nI_eq (by omega) (by omega)).mp w; omega), cin]
      · have hyes := g.mpr ⟨by omega, by omega⟩
        rw [if_pos (by rw [hyes.1]), if_neg (c366 cin), dec_n (by omega)]
        have nx := ih (f - 1) (by omega) (by omega) (by omega)
        cases h : im with
        | false =>
          rw [h] at nx
          rw [if_pos ((sg0 false).mpr rfl)]
          exact nx
        | true =>
          rw [h] at nx
          rw [if_neg (fun w => by rw [sg0] at w; cases w), if_pos (by rw [hyes.2 h])]
          exact nx
theorem num108 {α : Type} {n d : Nat} {im : Bool} {q : Pc3} {x2 x4 : Int32} {K0 : Int32 → Int32 → Int32 → Int32 → Option α} (hD : Dts q) (hd : d < 109573) : ∀ (fuel l : Nat), d ≤ l → l < cumN (enB im (moD d)) → cumN (enB im (moD d)) - l < fuel → moM_hasNumberedWeekday_L108 n q K0 fuel (nI d) x2 (sgI im) x4 (nI l) = K0 (nI d) x2 x4 (nI (cumN (enB im (moD d)) - 1)) := by
  obtain ⟨b1', b2', b3, b4⟩ := grp_b (im := im) hd
  have hm := moD_lt hd
  intro fuel
  induction fuel with
  | zero => intro f _ _ h; omega
  | succ u ih =>
    intro l h1 h2 hf
    rw [moM_hasNumberedWeekday_L108, nI_1]
    by_cases c : 109573 ≤ l + 1
    · rw [if_pos (show (109573 : Int32) ≤ nI (l + 1) from nI_le (a := 109573) c (by omega)), show cumN (enB im (moD d)) - 1 = l by omega]
    · have hm1 := moD_lt (show l + 1 < 109573 by omega)
      rw [if_neg (show ¬ (109573 : Int32) ≤ nI (l + 1) from nI_ge (b := 109573) (by omega) (by decide)), yearOf_rr hD (by omega), b1, yearOf_rr hD hd, b1, monthOf_rr hD (by omega), b1, monthOf_rr hD hd, b1]
      have g := grp (im := im) (m := moD d) (e := l + 1)
      by_cases cin : l + 1 = cumN (enB im (moD d))
      · have hno : ¬ (moD (l + 1) / 12 = moD d / 12 ∧ (im = true → moD (l + 1) % 12 = moD d % 12)) := fun w => by have := (g.mp w).2; omega
        have el : cumN (enB im (moD d)) - 1 = l := by omega
        by_cases cy : moD (l + 1) / 12 = moD d / 12
        · rw [if_pos (by rw [cy])]
          have him : im = true := by
            cases h : im with
            | true => rfl
            | false => exact absurd ⟨cy, fun w => by rw [h] at w; cases w⟩ hno
          have cmo : ¬ moD (l + 1) % 12 = moD d % 12 := fun w => hno ⟨cy, fun _ => w⟩
          rw [if_neg (fun w => by rw [sg0, him] at w; cases w), if_neg (fun w => by have := (nI_eq (by omega) (by omega)).mp w; omega), el]
        · rw [if_neg (fun w => by have := (nI_eq (by omega) (by omega)).mp w; omega), el]
      · have hyes := g.mpr ⟨by omega, by omega⟩
        rw [if_pos (by rw [hyes.1])]
        have nx := ih (l + 1) (by omega) (by omega) (by omega)
        cases h : im with
        | false =>
          rw [h] at nx
          rw [if_pos ((sg0 false).mpr rfl)]
          exact nx
        | true =>
          rw [h] at nx
          rw [if_neg (fun w => by rw [sg0] at w; cases w), if_pos (by rw [hyes.2 h])]
          exact nx
theorem i10 (b : Bool) : ((if b = true then (1 : Int32) else 0) = 0) ↔ b = false := i01
theorem hasNum_r {n d ms ks : Nat} {qm : Pc3} {q : Pc4} (hn : 200000 ≤ n) (h : RC qm q ms ks) (hd : d < 109573) : moM_hasNumberedWeekday n (nI d) qm = some (if (bt (q.1 9) (d % 7) || (!decide (q.1 10 = 0) && nOk q d)) = true then 1 else 0) := by
  obtain ⟨hT, h9, hD, -, -, -, -⟩ := h
  have r9 := hT.2.2.2.2.2.2.2.2.1 (d % 7) (Nat.mod_lt _ (by decide))
  have hF := hT.2.1.1
  have hw7 : d % 7 < 7 := Nat.mod_lt _ (by decide)
  have key : ∀ im : Bool, im = inMo q → moM_hasNumberedWeekday_B44 n qm (nI d) (nI (d % 7)) (sgI im) = some (if (!decide (q.1 10 = 0) && nOk q d) = true then 1 else 0) := by
    intro im him
    obtain ⟨b1', b2', b3, b4⟩ := grp_b (im := im) hd
    unfold moM_hasNumberedWeekday_B44
    rw [num51 hD hd n d b1' (Nat.le_refl _) (by omega), num108 hD hd n d (Nat.le_refl _) b2' (by omega)]
    unfold moM_hasNumberedWeekday_B159
    by_cases c : q.1 10 = 0
    · rw [if_pos (show rS qm 17 = 0 from hT.2.2.2.2.2.2.2.2.2.1.mpr c), decide_eq_true c]; rfl
    · rw [if_neg (show ¬ rS qm 17 = 0 from fun w => c (hT.2.2.2.2.2.2.2.2.2.1.mp w)), decide_eq_false c, ix_w, pk_sub b1', pk_sub (show d ≤ cumN (enB im (moD d)) - 1 by omega), show nI (d - cumN (bgB im (moD d))) / (7 : Int32) = nI ((d - cumN (bgB im (moD d))) / 7) from pk_div (by omega) (by decide) (by decide), show nI (cumN (enB im (moD d)) - 1 - d) / (7 : Int32) = nI ((cumN (enB im (moD d)) - 1 - d) / 7) from pk_div (by omega) (by decide) (by decide), nI_1, nI_1, nI_add, pk_sub (show (cumN (enB im (moD d)) - 1 - d) / 7 + 1 ≤ 107 * (d % 7) + 53 by omega), gi_in (by omega) (by decide), gi_in (by omega) (by decide), r3n (by omega), r3n (by omega)]
      have s1 := (r9.2 ((d - cumN (bgB im (moD d))) / 7 + 1) (by omega) (by omega)).1
      have s2 := (r9.2 ((cumN (enB im (moD d)) - 1 - d) / 7 + 1) (by omega) (by omega)).2
      have en : nOk q d = (bL (q.2.2.1 5 (d % 7)) ((d - cumN (bgB im (moD d))) / 7 + 1) || bL (q.2.2.1 6 (d % 7)) ((cumN (enB im (moD d)) - 1 - d) / 7 + 1)) := by unfold nOk; rw [him]
      rw [en]
      cases g1 : bL (q.2.2.1 5 (d % 7)) ((d - cumN (bgB im (moD d))) / 7 + 1) with
      | true => rw [if_neg (fun w => by rw [s1.mp w] at g1; cases g1)]; rfl
      | false =>
        rw [if_pos (s1.mpr g1)]
        cases g2 : bL (q.2.2.1 6 (d % 7)) ((cumN (enB im (moD d)) - 1 - d) / 7 + 1) with
        | true => rw [if_neg (fun w => by rw [s2.mp w] at g2; cases g2)]; rfl
        | false => rw [if_pos (s2.mpr g2)]; rfl
  unfold moM_hasNumberedWeekday
  rw [show rmI (nI d) 7 = nI (d % 7) from rm_n (by omega) (by decide) (by decide), ix_w, gi_in (by omega) (by decide), r3n (by omega)]
  cases g0 : bt (q.1 9) (d % 7) with
  | true => rw [if_neg (fun w => by rw [r9.1.mp w] at g0; cases g0)]; rfl
  | false =>
    rw [if_pos (r9.1.mpr g0), show rS qm 9 = nI (q.2.2.2 2) from h9, gi8.2.2.2.1, show rA qm 8 4 = qm.2.1 8 4 from r3n (i := 4) (by decide)]
    have h84 := hT.1 4 (by decide)
    rw [Bool.false_or]
    by_cases c2 : q.2.2.2 2 = 2
    · rw [if_pos (show nI (q.2.2.2 2) = (2 : Int32) from by rw [c2]; rfl)]
      exact key true (by unfold inMo; rw [decide_eq_true c2]; rfl)
    · rw [if_neg (show ¬ nI (q.2.2.2 2) = (2 : Int32) from fun w => c2 ((nI_eq (b := 2) (by omega) (by decide)).mp w))]
      cases g4 : bt (q.1 2) 4 with
      | true =>
        rw [if_neg (fun w => by rw [h84.mp w] at g4; cases g4)]
        exact key true (by unfold inMo hsB; rw [g4, Bool.or_true])
      | false =>
        rw [if_pos (h84.mpr g4)]
        exact key false (by unfold inMo hsB; rw [g4, decide_eq_false c2]; rfl)
theorem gb_b {b : Bool} : gb (if b = true then (1 : Int32) else 0) (some (if b = true then (1 : Int32) else 0)) = some (if b = true then 1 else 0) := by
  cases b
  · exact if_pos nb1.2.1
  · exact if_pos nb1.1
theorem suits_80 {n d ms ks : Nat} {qm : Pc3} {q : Pc4} (hn : 200000 ≤ n) (h : RC qm q ms ks) (hd : d < 109573) : moM_suits_B80 n qm (nI d) = some (if (dOk q ks (moD d) (d - cumN (moD d)) && wOk q (cumN ms + ks) d) = true then 1 else 0) := by
  have hnum := hasNum_r (n := n) hn h hd
  obtain ⟨hT, h9, hD, hl, h18, hms, hks⟩ := h
  have hF := hT.2.1.1
  have hS := cum_in hms hks
  have hm := moD_lt hd
  have hk := kd_lt d
  have hb := mlN_b (moD d)
  have hmk : moD (cumN ms + ks) = ms := moD_mk hks
  have hlen : moM_monthLength n (nI (1900 + moD d / 12)) (nI (moD d % 12 + 1)) qm = some (nI (mlN (moD d))) := by
    rw [mlenth_r hl (by omega) (Nat.mod_lt _ (by decide))]; rfl
  -- the weekday's part
  have W : (gi 7 8 (if (rA qm 8 7) = 0 then (if (rS qm 9) = 1 then (if (rmI (nI d) 7) = (rmI (rS qm 18) 7) then (some (1 : Int32)) else (some 0)) else (some 1)) else (bd1 (moM_hasNumberedWeekday n (nI d) qm) fun r_17 => (gb r_17 (some r_17))))) = some (if wOk q (cumN ms + ks) d = true then 1 else 0) := by
    rw [gi8.2.2.2.2.2.2, hnum, b1, gb_b, show rS qm 9 = nI (q.2.2.2 2) from h9, show rS qm 18 = nI (cumN ms + ks) from h18, show rmI (nI d) 7 = nI (d % 7) from rm_n (by omega) (by decide) (by decide), show rmI (nI (cumN ms + ks)) 7 = nI ((cumN ms + ks) % 7) from rm_n (by omega) (by decide) (by decide), show rA qm 8 7 = qm.2.1 8 7 from r3n (i := 7) (by decide)]
    have h87 := hT.1 7 (by decide)
    unfold wOk hsB
    cases g7 : bt (q.1 2) 7 with
    | true => rw [if_neg (fun w => by rw [h87.mp w] at g7; cases g7), if_pos rfl]
    | false =>
      rw [if_pos (h87.mpr g7), if_neg (show ¬ false = true by decide)]
      by_cases c1 : q.2.2.2 2 = 1
      · rw [if_pos (show nI (q.2.2.2 2) = (1 : Int32) from by rw [c1]; rfl), decide_eq_true c1]
        by_cases c2 : d % 7 = (cumN ms + ks) % 7
        · rw [if_pos (by rw [c2]), decide_eq_true c2]; rfl
        · rw [if_neg (fun w => c2 ((nI_eq (by omega) (by omega)).mp w)), decide_eq_false c2]; rfl
      · rw [if_neg (show ¬ nI (q.2.2.2 2) = (1 : Int32) from fun w => c1 ((nI_eq (b := 1) (by omega) (by decide)).mp w)), decide_eq_false c1]; rfl
  unfold moM_suits_B80
  rw [W, mdayOf_rr hD hd, b1, yearOf_rr hD hd, b1, monthOf_rr hD hd, b1, hlen, b1, gi8.2.2.2.2.1, show rS qm 18 = nI (cumN ms + ks) from h18, mdayOf_rr hD hS, b1, hmk, show cumN ms + ks - cumN ms = ks by omega, show rS qm 9 = nI (q.2.2.2 2) from h9, show rA qm 8 5 = qm.2.1 8 5 from r3n (i := 5) (by decide)]
  have h85 := hT.1 5 (by decide)
  have h87 := hT.1 7 (by decide)
  have z0 : ∀ b : Bool, some (if (false && b) = true then (1 : Int32) else 0) = some 0 := fun b => rfl
  have z1 : ∀ b : Bool, some (if (true && b) = true then (1 : Int32) else 0) = some (if b = true then 1 else 0) := fun b => rfl
  unfold dOk hsB
  cases g5 : bt (q.1 2) 5 with
  | false =>
    rw [if_pos (h85.mpr g5), if_neg (show ¬ false = true by decide)]
    by_cases c2 : q.2.2.2 2 < 2
    · rw [if_pos (show nI (q.2.2.2 2) < (2 : Int32) from nI_lt (b := 2) c2 (by decide)), decide_eq_false (show ¬ 2 ≤ q.2.2.2 2 by omega)]
      exact (z1 _).symm
    · rw [if_neg (show ¬ nI (q.2.2.2 2) < (2 : Int32) from nI_nlt (b := 2) (by omega) (by omega)), decide_eq_true (show 2 ≤ q.2.2.2 2 by omega), gi8.2.2.2.2.2.2, show rA qm 8 7 = qm.2.1 8 7 from r3n (i := 7) (by decide)]
      cases g7 : bt (q.1 2) 7 with
      | true =>
        rw [if_neg (fun w => by rw [h87.mp w] at g7; cases g7)]
        exact (z1 _).symm
      | false =>
        rw [if_pos (h87.mpr g7)]
        by_cases c3 : d - cumN (moD d) = ks
        · rw [if_pos (by rw [c3]), decide_eq_true c3]
          exact (z1 _).symm
        · rw [if_neg (fun w => c3 (by have := (nI_eq (by omega) (by omega)).mp w; omega)), decide_eq_false c3]
          exact (z0 _).symm
  | true =>
    have r7 := hT.2.2.2.2.2.2.1
    have s1 := (r7 (d - cumN (moD d) + 1) (by omega) (by omega)).1
    have s2 := (r7 (mlN (moD d) - (d - cumN (moD d))) (by omega) (by omega)).2
    rw [if_neg (fun w => by rw [h85.mp w] at g5; cases g5), if_pos rfl, show (31 : Int32) + nI (d - cumN (moD d) + 1) = nI (31 + (d - cumN (moD d) + 1)) from nI_add 31 _, gi_in (by omega) (by decide), r3n (by omega), pk_sub (show d - cumN (moD d) + 1 ≤ mlN (moD d) by omega), nI_1, show (31 : Int32) - nI (mlN (moD d) - (d - cumN (moD d) + 1) + 1) = nI (31 - (mlN (moD d) - (d - cumN (moD d) + 1) + 1)) from pk_sub (a := 31) (by omega), show mlN (moD d) - (d - cumN (moD d) + 1) + 1 = mlN (moD d) - (d - cumN (moD d)) by omega, gi_in (by omega) (by decide), r3n (by omega)]
    rw [show d - cumN (moD d) + 1 - 1 = d - cumN (moD d) by omega] at s1
    rw [show 31 - (mlN (moD d) - (d - cumN (moD d))) = d - cumN (moD d) + 31 - mlN (moD d) by omega] at s2 ⊢
    cases t1 : bt (q.1 7) (d - cumN (moD d)) with
    | true =>
      rw [if_neg (fun w => by rw [s1.mp w] at t1; cases t1)]
      exact (z1 _).symm
    | false =>
      rw [if_pos (s1.mpr t1)]
      cases t2 : bt (q.1 8) (d - cumN (moD d) + 31 - mlN (moD d)) with
      | true =>
        rw [if_neg (fun w => by rw [s2.mp w] at t2; cases t2)]
        exact (z1 _).symm
      | false =>
        rw [if_pos (s2.mpr t2)]
        exact (z0 _).symm
theorem suits_r {n d ms ks : Nat} {qm : Pc3} {q : Pc4} (hn : 200000 ≤ n) (h : RC qm q ms ks) (hd : d < 109573) : moM_suits n (nI d) qm = some (if su q ms ks d = true then 1 else 0) := by
  have h80 := suits_80 (n := n) hn h hd
  obtain ⟨hT, h9, hD, hl, h18, hms, hks⟩ := h
  have hF := hT.2.1.1
  have hS := cum_in hms hks
  have hm := moD_lt hd
  have hmk : moD (cumN ms + ks) = ms := moD_mk hks
  have h84 := hT.1 4 (by decide)
  have h85 := hT.1 5 (by decide)
  have h87 := hT.1 7 (by decide)
  have r6 := hT.2.2.2.2.2.1 (moD d % 12 + 1) (by omega) (by omega)
  unfold moM_suits
  rw [h80, show rS qm 18 = nI (cumN ms + ks) from h18, monthOf_rr hD hd, b1, monthOf_rr hD hS, b1, hmk, show rS qm 9 = nI (q.2.2.2 2) from h9]
  simp only [b1, gi8.2.2.2.1, gi8.2.2.2.2.1, gi8.2.2.2.2.2.2, gi_in (show moD d % 12 + 1 < 13 by omega) (show 13 < 2 ^ 31 by decide), r3n (show moD d % 12 + 1 < 2 ^ 31 by omega)]
  rw [show rA qm 8 4 = qm.2.1 8 4 from r3n (i := 4) (by decide), show rA qm 8 5 = qm.2.1 8 5 from r3n (i := 5) (by decide), show rA qm 8 7 = qm.2.1 8 7 from r3n (i := 7) (by decide)]
  unfold su mOk hsB
  generalize (dOk q ks (moD d) (d - cumN (moD d)) && wOk q (cumN ms + ks) d) = x
  have z0 : ∀ b : Bool, some (if (false && b) = true then (1 : Int32) else 0) = some 0 := fun b => rfl
  have z1 : ∀ b : Bool, some (if (true && b) = true then (1 : Int32) else 0) = some (if b = true then 1 else 0) := fun b => rfl
  have B4 : (if qm.2.1 13 (moD d % 12 + 1) = 0 then (some (0 : Int32)) else (some (if x = true then 1 else 0))) = some (if (bt (q.1 6) (moD d % 12 + 1) && x) = true then 1 else 0) := by
    cases g6 : bt (q.1 6) (moD d % 12 + 1) with
    | true => rw [if_neg (fun w => by rw [r6.mp w] at g6; cases g6)]; rfl
    | false => rw [if_pos (r6.mpr g6)]; rfl
  rw [B4]
  have sm : ∀ (c : Prop) [Decidable c] (y : Option Int32), (if c then y else y) = y := fun c _ y => by split <;> rfl
  rw [sm]
  cases g4 : bt (q.1 2) 4 with
  | true =>
    have n4 : ¬ qm.2.1 8 4 = 0 := fun w => by rw [h84.mp w] at g4; cases g4
    rw [if_neg n4, if_neg n4, if_pos rfl]
    rw [sm, sm]
  | false =>
    rw [if_pos (h84.mpr g4), if_pos (h84.mpr g4), if_neg (show ¬ false = true by decide)]
    cases g5 : bt (q.1 2) 5 with
    | true =>
      rw [if_neg (fun w => by rw [h85.mp w] at g5; cases g5)]
      simp
    | false =>
      rw [if_pos (h85.mpr g5)]
      cases g7 : bt (q.1 2) 7 with
      | true =>
        rw [if_neg (fun w => by rw [h87.mp w] at g7; cases g7)]
        simp
      | false =>
        rw [if_pos (h87.mpr g7)]
        by_cases c3 : q.2.2.2 2 = 3
        · rw [if_pos (show nI (q.2.2.2 2) = (3 : Int32) from by rw [c3]; rfl), decide_eq_true c3]
          by_cases c4 : moD d % 12 = ms % 12
          · rw [if_pos (by rw [c4]), decide_eq_true c4]; rfl
          · rw [if_neg (fun w => c4 (by have := (nI_eq (by omega) (by omega)).mp w; omega)), decide_eq_false c4]; rfl
        · rw [if_neg (show ¬ nI (q.2.2.2 2) = (3 : Int32) from fun w => c3 ((nI_eq (b := 3) (by omega) (by decide)).mp w)), decide_eq_false c3]; rfl
