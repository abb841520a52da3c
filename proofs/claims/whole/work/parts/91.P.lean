/-! Pure: making all days of a rule: the reference. -/
def DP (D : Nat → Bool) (F P e : Nat) : Bool := D e && decide (pe F e = P)
def chD (D : Nat → Bool) (F : Nat) (h6 : Bool) (pl : Nat → Nat → Bool) (d : Nat) : Bool := D d && (!h6 || pl (cN (DP D F (pe F d)) d) (cN (DP D F (pe F d)) 109573))
def XD (D : Nat → Bool) (F : Nat) (h6 : Bool) (pl : Nat → Nat → Bool) (S U d : Nat) : Bool := chD D F h6 pl d && decide (S ≤ d ∧ d ≤ U)
def fB (X : Nat → Bool) (C d : Nat) : Bool := X d && decide (cN X d < C)
theorem moD_mono {d e : Nat} (h : d ≤ e) : moD d ≤ moD e := cum_le_iff.mp (by have := (moD_s d).1; omega)
theorem pe_mono {F d e : Nat} (h : d ≤ e) : pe F d ≤ pe F e := by
  unfold pe
  have := moD_mono h
  split
  · exact h
  · split
    · omega
    · split
      · exact this
      · omega
theorem moD_le (d : Nat) : moD d ≤ d := by
  have h := (moD_s d).1
  have : ∀ m, m ≤ cumN m := by
    intro m
    induction m with
    | zero => exact Nat.le_refl _
    | succ m ih => rw [cum_s]; have := mlN_b m; omega
  have := this (moD d)
  omega
theorem pe_le (F d : Nat) : pe F d ≤ d := by
  unfold pe
  have := moD_le d
  split
  · omega
  · split
    · omega
    · split <;> omega
theorem pe_len {F x y : Nat} (h : pe F x = pe F y) (hxy : x ≤ y) : y < x + 366 := by
  unfold pe at h
  split at h
  · omega
  · split at h
    · omega
    · have h1 := moD_s x
      have h2 := moD_s y
      have b1 := mlN_b (moD x)
      split at h
      · rw [← h, cum_s] at h2; omega
      · have hy := yr_len (moD x / 12)
        have c1 := cum_mono (show 12 * (moD x / 12) ≤ moD x by omega)
        have c2 := cum_mono (show moD y + 1 ≤ 12 * (moD x / 12) + 12 by omega)
        omega
theorem cN_int {f : Nat → Bool} {a b : Nat} (h : ∀ i, f i = true → a ≤ i ∧ i < b) : ∀ n, cN f n ≤ min n b - a := by
  intro n
  induction n with
  | zero => exact Nat.zero_le _
  | succ n ih =>
    rw [cN_s]
    by_cases c : f n = true
    · have := h n c
      rw [if_pos c]; omega
    · rw [if_neg c]; omega
theorem dp_366 {D : Nat → Bool} {F P n : Nat} : cN (DP D F P) n ≤ 366 := by
  rcases Nat.eq_zero_or_pos (cN (DP D F P) n) with c | c
  · omega
  · obtain ⟨j, h1, h2, h3⟩ := cN_hit (f := DP D F P) (c := 0) c
    have hz := cN_zero h3
    have hj : pe F j = P := by
      unfold DP at h2
      rw [Bool.and_eq_true, decide_eq_true_iff] at h2
      exact h2.2
    have := cN_int (f := DP D F P) (a := j) (b := j + 366) (fun i hi => by
      have hi2 : pe F i = P := by
        unfold DP at hi
        rw [Bool.and_eq_true, decide_eq_true_iff] at hi
        exact hi.2
      have hji : j ≤ i := by
        rcases Nat.lt_or_ge i j with g | g
        · rw [hz i g] at hi; cases hi
        · exact g
      exact ⟨hji, pe_len (by rw [hj, hi2]) hji⟩) n
    omega
def po (F : Nat) : Nat := if F = 2 then 22801 else if F = 3 then 1900 else 0
theorem period_r {n d ms ks : Nat} {qm : Pc3} {q : Pc4} (h : RC qm q ms ks) (hd : d < 109573) : moM_periodOf n (nI d) qm = some (nI (pe (q.2.2.2 2) d + po (q.2.2.2 2))) := by
  obtain ⟨hT, h9, hD, -⟩ := h
  have hF := hT.2.1.1
  have hm := moD_lt hd
  unfold moM_periodOf pe po
  rw [show rS qm 9 = nI (q.2.2.2 2) from h9, yearOf_rr hD hd, b1, monthOf_rr hD hd, b1, b1]
  have eq : ∀ c, c < 4 → (nI (q.2.2.2 2) = nI c ↔ q.2.2.2 2 = c) := fun c hc => nI_eq (by omega) (by omega)
  by_cases c0 : q.2.2.2 2 = 0
  · rw [if_pos (show nI (q.2.2.2 2) = (0 : Int32) from (eq 0 (by decide)).mpr c0), if_pos c0, if_neg (by omega), if_neg (by omega), Nat.add_zero]
  · rw [if_neg (show ¬ nI (q.2.2.2 2) = (0 : Int32) from fun w => c0 ((eq 0 (by decide)).mp w)), if_neg c0]
    by_cases c1 : q.2.2.2 2 = 1
    · rw [if_pos (show nI (q.2.2.2 2) = (1 : Int32) from (eq 1 (by decide)).mpr c1), if_pos c1, if_neg (by omega), if_neg (by omega), Nat.add_zero, show nI d / (7 : Int32) = nI (d / 7) from pk_div (by omega) (by decide) (by decide)]
    · rw [if_neg (show ¬ nI (q.2.2.2 2) = (1 : Int32) from fun w => c1 ((eq 1 (by decide)).mp w)), if_neg c1]
      by_cases c2 : q.2.2.2 2 = 2
      · rw [if_pos (show nI (q.2.2.2 2) = (2 : Int32) from (eq 2 (by decide)).mpr c2), if_pos c2, if_pos c2, show (12 : Int32) * nI (1900 + moD d / 12) = nI (12 * (1900 + moD d / 12)) from pk_mul 12 _, nI_add, show 12 * (1900 + moD d / 12) + (moD d % 12 + 1) = moD d + 22801 by omega]
      · rw [if_neg (show ¬ nI (q.2.2.2 2) = (2 : Int32) from fun w => c2 ((eq 2 (by decide)).mp w)), if_neg c2, if_neg c2, if_pos (show q.2.2.2 2 = 3 by omega), show 1900 + moD d / 12 = moD d / 12 + 1900 by omega]
theorem po_le (F : Nat) : po F ≤ 22801 := by
  unfold po
  split
  · exact Nat.le_refl _
  · split <;> omega
theorem po_eq {F a b : Nat} (ha : a < 2 ^ 30) (hb : b < 2 ^ 30) : (nI (a + po F) = nI (b + po F)) ↔ a = b := by
  have := po_le F
  rw [nI_eq (by omega) (by omega)]
  omega
theorem po_sub {F a b : Nat} : nI (a + po F) - nI (b + po F) = nI a - nI b := by
  rw [← nI_add, ← nI_add, Int32.sub_eq_iff_eq_add, ← Int32.add_assoc, Int32.sub_add_cancel]
def KM (q q' : Pc3) : Prop := q'.1 = q.1 ∧ (∀ a, a ≠ 20 → a ≠ 23 → q'.2.1 a = q.2.1 a) ∧ q'.2.2 = q.2.2
theorem KM.rf {q : Pc3} : KM q q := ⟨rfl, fun _ _ _ => rfl, rfl⟩
theorem KM.rc {qm qm' : Pc3} {q : Pc4} {ms ks : Nat} (h : KM qm qm') (hr : RC qm q ms ks) : RC qm' q ms ks := by
  unfold RC RT Dts at *
  rw [h.1, h.2.1 1 (by decide) (by decide), h.2.1 2 (by decide) (by decide), h.2.1 8 (by decide) (by decide), h.2.1 13 (by decide) (by decide), h.2.1 14 (by decide) (by decide), h.2.1 15 (by decide) (by decide), h.2.1 16 (by decide) (by decide)]
  exact hr
theorem mk7 {α : Type} {n S ms ks : Nat} {qm : Pc3} {q : Pc4} {x1 x2 : Int32} {K0 : Int32 → Int32 → Int32 → Pc3 → Option α} (h : RC qm q ms ks) (hS : S = cumN ms + ks) : ∀ (fuel f : Nat), f ≤ S → f < fuel → (∀ e, f ≤ e → e ≤ S → pe (q.2.2.2 2) e = pe (q.2.2.2 2) S) → ∃ f0, f0 ≤ S ∧ moM_makeAll_L7 n K0 fuel x1 x2 (nI f) qm = K0 x1 x2 (nI f0) qm ∧ (∀ e, f0 ≤ e → e ≤ S → pe (q.2.2.2 2) e = pe (q.2.2.2 2) S) ∧ ∀ e, e < f0 → pe (q.2.2.2 2) e < pe (q.2.2.2 2) S := by
  have hin := cum_in h.2.2.2.2.2.1 h.2.2.2.2.2.2
  intro fuel
  induction fuel with
  | zero => intro f _ h; omega
  | succ u ih =>
    intro f hf hu hall
    rw [moM_makeAll_L7]
    by_cases c : f = 0
    · subst c
      rw [if_pos (show nI 0 ≤ (0 : Int32) by decide)]
      exact ⟨0, Nat.zero_le _, rfl, hall, fun e he => by omega⟩
    · have p1 := pe_le (q.2.2.2 2) (f - 1)
      have p2 := pe_le (q.2.2.2 2) S
      rw [if_neg (nI_nle (by omega) (by omega)), show nI f - (1 : Int32) = nI (f - 1) from pk_sub (b := 1) (by omega), period_r h (by omega), b1, show rS qm 18 = nI S from by rw [hS]; exact h.2.2.2.2.1, period_r h (by omega), b1]
      by_cases c2 : pe (q.2.2.2 2) (f - 1) = pe (q.2.2.2 2) S
      · rw [if_pos (by rw [c2]), dec_n (by omega)]
        exact ih (f - 1) (by omega) (by omega) (fun e g1 g2 => by
          rcases Nat.lt_or_ge e f with g | g
          · rw [show e = f - 1 by omega]; exact c2
          · exact hall e g g2)
      · rw [if_neg (fun w => c2 ((po_eq (by omega) (by omega)).mp w))]
        refine ⟨f, hf, rfl, hall, fun e he => ?_⟩
        have q1 := pe_mono (F := q.2.2.2 2) (show e ≤ f - 1 by omega)
        have q2 := pe_mono (F := q.2.2.2 2) (show f - 1 ≤ S by omega)
        omega
/-- the days of one period that suit -/
theorem mk56 {α : Type} {n x ms ks : Nat} {I : Int32} {qm : Pc3} {q : Pc4} {x1 x2 : Int32} {K0 : Int32 → Int32 → Int32 → Int32 → Pc3 → Option α} (hn : 200000 ≤ n) (h : RC qm q ms ks) (hI : qm.1 10 = I) (hI0 : ¬ I = 0) (D : Nat → Bool) (hD : ∀ d, D d = (cc (q.2.2.2 2) I (cumN ms + ks) d && su q ms ks d)) (hx : ∀ e, e < x → pe (q.2.2.2 2) e < pe (q.2.2.2 2) x) : ∀ (fuel y : Nat) (qm1 : Pc3), x ≤ y → y ≤ 109573 → 109573 - y < fuel → KM qm qm1 → qm1.2.1 20 = qm.2.1 20 → (∀ e, x ≤ e → e < y → pe (q.2.2.2 2) e = pe (q.2.2.2 2) x) → (∀ d, d < y → DP D (q.2.2.2 2) (pe (q.2.2.2 2) x) d = true → qm1.2.1 23 (cN (DP D (q.2.2.2 2) (pe (q.2.2.2 2) x)) d) = nI d) →
    ∃ y' qm2, y ≤ y' ∧ (y < 109573 → y = x → x < y') ∧ y' ≤ 109573 ∧ moM_makeAll_L56 n K0 fuel x1 x2 (nI y) (nI (pe (q.2.2.2 2) x + po (q.2.2.2 2))) (nI (cN (DP D (q.2.2.2 2) (pe (q.2.2.2 2) x)) y)) qm1 = K0 x1 x2 (nI y') (nI (cN (DP D (q.2.2.2 2) (pe (q.2.2.2 2) x)) y')) qm2 ∧ KM qm qm2 ∧ qm2.2.1 20 = qm.2.1 20 ∧ (∀ e, x ≤ e → e < y' → pe (q.2.2.2 2) e = pe (q.2.2.2 2) x) ∧ (∀ e, y' ≤ e → e < 109573 → pe (q.2.2.2 2) x < pe (q.2.2.2 2) e) ∧ (∀ d, d < y' → DP D (q.2.2.2 2) (pe (q.2.2.2 2) x) d = true → qm2.2.1 23 (cN (DP D (q.2.2.2 2) (pe (q.2.2.2 2) x)) d) = nI d) := by
  have hin := cum_in h.2.2.2.2.2.1 h.2.2.2.2.2.2
  intro fuel
  induction fuel with
  | zero => intro y _ _ _ h; omega
  | succ u ih =>
    intro y qm1 hxy hy hf hk h20 hall harr
    have h1 := hk.rc h
    rw [moM_makeAll_L56]
    by_cases c : 109573 ≤ y
    · rw [if_pos (show (109573 : Int32) ≤ nI y from nI_le (a := 109573) c (by omega))]
      exact ⟨y, qm1, Nat.le_refl _, fun g => by omega, hy, rfl, hk, h20, hall, fun e g1 g2 => by omega, harr⟩
    · have p1 := pe_le (q.2.2.2 2) y
      have p2 := pe_le (q.2.2.2 2) x
      have p3 := pe_le (q.2.2.2 2) (cumN ms + ks)
      rw [if_neg (show ¬ (109573 : Int32) ≤ nI y from nI_ge (b := 109573) (by omega) (by decide)), period_r h1 (by omega), b1]
      by_cases cp : pe (q.2.2.2 2) y = pe (q.2.2.2 2) x
      · rw [if_pos (by rw [cp]), show rS qm1 18 = nI (cumN ms + ks) from h1.2.2.2.2.1, period_r h1 hin, b1, show rS qm1 10 = I from by show qm1.1 10 = I; rw [hk.1]; exact hI, gz_in hI0, po_sub, suits_r hn h1 (by omega), b1, nI_1, nI_1]
        have hdp : DP D (q.2.2.2 2) (pe (q.2.2.2 2) x) y = D y := by unfold DP; rw [decide_eq_true cp, Bool.and_true]
        have hcc : cc (q.2.2.2 2) I (cumN ms + ks) y = decide (rmI (nI (pe (q.2.2.2 2) x) - nI (pe (q.2.2.2 2) (cumN ms + ks))) I = 0) := by unfold cc; rw [cp]
        have hs : cN (DP D (q.2.2.2 2) (pe (q.2.2.2 2) x)) (y + 1) = _ := cN_s
        have nxt : ∀ e, x ≤ e → e < y + 1 → pe (q.2.2.2 2) e = pe (q.2.2.2 2) x := fun e g1 g2 => by
          rcases Nat.lt_or_ge e y with g | g
          · exact hall e g1 g
          · rw [show e = y by omega]; exact cp
        have no : D y = false → ∃ y' qm2, y ≤ y' ∧ (y < 109573 → y = x → x < y') ∧ y' ≤ 109573 ∧ moM_makeAll_L56 n K0 u x1 x2 (nI (y + 1)) (nI (pe (q.2.2.2 2) x + po (q.2.2.2 2))) (nI (cN (DP D (q.2.2.2 2) (pe (q.2.2.2 2) x)) y)) qm1 = K0 x1 x2 (nI y') (nI (cN (DP D (q.2.2.2 2) (pe (q.2.2.2 2) x)) y')) qm2 ∧ KM qm qm2 ∧ qm2.2.1 20 = qm.2.1 20 ∧ (∀ e, x ≤ e → e < y' → pe (q.2.2.2 2) e = pe (q.2.2.2 2) x) ∧ (∀ e, y' ≤ e → e < 109573 → pe (q.2.2.2 2) x < pe (q.2.2.2 2) e) ∧ (∀ d, d < y' → DP D (q.2.2.2 2) (pe (q.2.2.2 2) x) d = true → qm2.2.1 23 (cN (DP D (q.2.2.2 2) (pe (q.2.2.2 2) x)) d) = nI d) := by
          intro g
          rw [hdp, g, if_neg (by decide)] at hs
          rw [show cN (DP D (q.2.2.2 2) (pe (q.2.2.2 2) x)) y = cN (DP D (q.2.2.2 2) (pe (q.2.2.2 2) x)) (y + 1) by omega]
          obtain ⟨y', qm2, a1, a2, a3, a4⟩ := ih (y + 1) qm1 (by omega) (by omega) (by omega) hk h20 nxt (fun d hd hdd => by
            rcases Nat.lt_or_ge d y with g' | g'
            · exact harr d g' hdd
            · rw [show d = y by omega, hdp, g] at hdd; cases hdd)
          exact ⟨y', qm2, by omega, fun _ _ => by omega, a3, a4⟩
        by_cases cr : rmI (nI (pe (q.2.2.2 2) x) - nI (pe (q.2.2.2 2) (cumN ms + ks))) I = 0
        · rw [if_pos cr]
          rw [decide_eq_true cr] at hcc
          cases gs : su q ms ks y with
          | false =>
            rw [if_pos (show (if false = true then (1 : Int32) else 0) = 0 by decide)]
            exact no (by rw [hD, gs, Bool.and_false])
          | true =>
            have hDy : D y = true := by rw [hD, gs, hcc]; rfl
            have hb := dp_366 (D := D) (F := q.2.2.2 2) (P := pe (q.2.2.2 2) x) (n := y + 1)
            rw [hdp, hDy, if_pos rfl] at hs
            rw [if_neg (show ¬ (if true = true then (1 : Int32) else 0) = 0 by decide), gi_in (by omega) (by decide), ← hs]
            have hk' : KM qm (sA qm1 23 (nI (cN (DP D (q.2.2.2 2) (pe (q.2.2.2 2) x)) y)) (nI y)) := ⟨hk.1, fun a g1 g2 => (sA_ne g2).trans (hk.2.1 a g1 g2), hk.2.2⟩
            obtain ⟨y', qm2, a1, a2, a3, a4⟩ := ih (y + 1) (sA qm1 23 (nI (cN (DP D (q.2.2.2 2) (pe (q.2.2.2 2) x)) y)) (nI y)) (by omega) (by omega) (by omega) hk' ((sA_ne (by decide)).trans h20) nxt (fun d hd hdd => by
              rw [sA_k (by omega)]
              rcases Nat.lt_or_ge d y with g' | g'
              · have := cN_lt hdd g'
                rw [upd_ne (by omega)]
                exact harr d g' hdd
              · rw [show d = y by omega, upd_self])
            exact ⟨y', qm2, by omega, fun _ _ => by omega, a3, a4⟩
        · rw [if_neg cr]
          rw [decide_eq_false cr] at hcc
          exact no (by rw [hD, hcc]; rfl)
      · rw [if_neg (fun w => cp ((po_eq (by omega) (by omega)).mp w))]
        have hgt : pe (q.2.2.2 2) x < pe (q.2.2.2 2) y := by
          have := pe_mono (F := q.2.2.2 2) hxy
          omega
        exact ⟨y, qm1, Nat.le_refl _, fun _ g => by rw [g] at cp; exact absurd rfl cp, by omega, rfl, hk, h20, hall, fun e g1 g2 => by have := pe_mono (F := q.2.2.2 2) g1; omega, harr⟩
def RB (X : Nat → Bool) (C k y : Nat) (f0 f : Nat → Int32) : Prop := (∀ d, d < 109573 → hb f k d = (decide (d < y) && fB X C d)) ∧ ∀ k', k' < 12 → k' ≠ k → ∀ d, d < 109573 → hb f k' d = hb f0 k' d
theorem RB.go {X : Nat → Bool} {C k y z : Nat} {f0 f : Nat → Int32} (h : RB X C k y f0 f) (hyz : y ≤ z) (hX : ∀ e, y ≤ e → e < z → X e = false) : RB X C k z f0 f ∧ cN X z = cN X y := by
  refine ⟨⟨fun d hd => ?_, h.2⟩, cN_tail hyz hX⟩
  rw [h.1 d hd]
  by_cases c : d < y
  · rw [decide_eq_true c, decide_eq_true (show d < z by omega)]
  · rw [decide_eq_false c]
    by_cases c2 : d < z
    · unfold fB; rw [hX d (by omega) c2]; simp
    · rw [decide_eq_false c2]
def UT (x : Int32) (U : Nat) : Prop := U < 109573 ∧ (x = nI U ∨ (U = 109572 ∧ x = nI 109573))
theorem mk123 {α : Type} {n k x y' ms ks S U C : Nat} {qm : Pc3} {q : Pc4} {h6 : Bool} {K0 : Int32 → Int32 → Int32 → Pc3 → Option α} {f0 : Nat → Int32} (hn : 200000 ≤ n) (hk : k < 12) (h : RC qm q ms ks) (hS : S = cumN ms + ks) (hC : C ≤ 1000000) (hqC : qm.1 11 = nI C) (hqU : UT (qm.1 12) U) (h6e : hsB q 6 = h6) (D : Nat → Bool) (pl : Nat → Nat → Bool) (hpl : ∀ r T, r < T → T ≤ 366 → pl r T = (!decide (q.2.1 7 (366 + r + 1) = 0) || !decide (q.2.1 7 (366 + r - T) = 0))) (X : Nat → Bool) (hX : ∀ d, X d = XD D (q.2.2.2 2) h6 pl S U d) (hxy : x ≤ y') (hy' : y' ≤ 109573) (hbe : ∀ e, e < x → pe (q.2.2.2 2) e < pe (q.2.2.2 2) x) (hall : ∀ e, x ≤ e → e < y' → pe (q.2.2.2 2) e = pe (q.2.2.2 2) x) (haft : ∀ e, y' ≤ e → e < 109573 → pe (q.2.2.2 2) x < pe (q.2.2.2 2) e) :
    ∀ (fuel y : Nat) (qm1 : Pc3), x ≤ y → y ≤ y' → cN (DP D (q.2.2.2 2) (pe (q.2.2.2 2) x)) y' - cN (DP D (q.2.2.2 2) (pe (q.2.2.2 2) x)) y < fuel → KM qm qm1 → (∀ d, d < y' → DP D (q.2.2.2 2) (pe (q.2.2.2 2) x) d = true → qm1.2.1 23 (cN (DP D (q.2.2.2 2) (pe (q.2.2.2 2) x)) d) = nI d) → RB X C k y f0 (qm1.2.1 20) →
    ∃ qm2, moM_makeAll_L123 n K0 fuel (nI k) (nI (min C (cN X y))) (nI y') (nI (cN (DP D (q.2.2.2 2) (pe (q.2.2.2 2) x)) y')) (nI (cN (DP D (q.2.2.2 2) (pe (q.2.2.2 2) x)) y)) qm1 = K0 (nI k) (nI (min C (cN X y'))) (nI y') qm2 ∧ KM qm qm2 ∧ RB X C k y' f0 (qm2.2.1 20) := by
  have hin := cum_in h.2.2.2.2.2.1 h.2.2.2.2.2.2
  have hXD : ∀ e, D e = false → X e = false := fun e g => by rw [hX]; unfold XD chD; rw [g]; rfl
  intro fuel
  induction fuel with
  | zero => intro y _ _ _ h; omega
  | succ u ih =>
    intro y qm1 hxy1 hyy hf hkm harr hRB
    have hg := dp_366 (D := D) (F := q.2.2.2 2) (P := pe (q.2.2.2 2) x) (n := y')
    have hmono := cN_mono (DP D (q.2.2.2 2) (pe (q.2.2.2 2) x)) hyy
    rw [moM_makeAll_L123]
    by_cases c : cN (DP D (q.2.2.2 2) (pe (q.2.2.2 2) x)) y' ≤ cN (DP D (q.2.2.2 2) (pe (q.2.2.2 2) x)) y
    · rw [if_pos (nI_le c (by omega))]
      have hno : ∀ e, y ≤ e → e < y' → X e = false := fun e g1 g2 => by
        cases gd : D e with
        | false => exact hXD e gd
        | true =>
          have : DP D (q.2.2.2 2) (pe (q.2.2.2 2) x) e = true := by unfold DP; rw [gd, hall e (by omega) g2, decide_eq_true rfl]; rfl
          have t1 := cN_lt this g2
          have t2 := cN_mono (DP D (q.2.2.2 2) (pe (q.2.2.2 2) x)) g1
          omega
      obtain ⟨r1, r2⟩ := hRB.go hyy hno
      rw [r2]
      exact ⟨qm1, rfl, hkm, r1⟩
    · obtain ⟨d0, d1, d2, d3⟩ := cN_hit (f := DP D (q.2.2.2 2) (pe (q.2.2.2 2) x)) (n := y') (c := cN (DP D (q.2.2.2 2) (pe (q.2.2.2 2) x)) y) (by omega)
      have hyd : y ≤ d0 := by
        rcases Nat.lt_or_ge d0 y with g | g
        · have := cN_lt d2 g; omega
        · exact g
      have hDd : D d0 = true ∧ pe (q.2.2.2 2) d0 = pe (q.2.2.2 2) x := by
        unfold DP at d2
        rw [Bool.and_eq_true, decide_eq_true_iff] at d2
        exact d2
      have hno : ∀ e, y ≤ e → e < d0 → X e = false := fun e g1 g2 => by
        cases gd : D e with
        | false => exact hXD e gd
        | true =>
          have : DP D (q.2.2.2 2) (pe (q.2.2.2 2) x) e = true := by unfold DP; rw [gd, hall e (by omega) (by omega), decide_eq_true rfl]; rfl
          have t1 := cN_lt this g2
          have t2 := cN_mono (DP D (q.2.2.2 2) (pe (q.2.2.2 2) x)) g1
          omega
      obtain ⟨r1, r2⟩ := hRB.go hyd hno
      have hd9 : d0 < 109573 := by omega
      have htot : cN (DP D (q.2.2.2 2) (pe (q.2.2.2 2) x)) 109573 = cN (DP D (q.2.2.2 2) (pe (q.2.2.2 2) x)) y' := cN_tail hy' (fun e g1 g2 => by
        have := haft e g1 g2
        unfold DP
        rw [decide_eq_false (by omega), Bool.and_false])
      have hXd : X d0 = ((!h6 || pl (cN (DP D (q.2.2.2 2) (pe (q.2.2.2 2) x)) d0) (cN (DP D (q.2.2.2 2) (pe (q.2.2.2 2) x)) y')) && decide (S ≤ d0 ∧ d0 ≤ U)) := by
        rw [hX]; unfold XD chD
        rw [hDd.1, hDd.2, htot]; rfl
      have hs : cN (DP D (q.2.2.2 2) (pe (q.2.2.2 2) x)) (d0 + 1) = cN (DP D (q.2.2.2 2) (pe (q.2.2.2 2) x)) d0 + 1 := by rw [cN_s, d2, if_pos rfl]
      have hsX : cN X (d0 + 1) = _ := cN_s
      rw [if_neg (nI_ge (by omega) (by omega)), ← d3, ← r2]
      -- what follows
      have nextN : fB X C d0 = false → RB X C k (d0 + 1) f0 (qm1.2.1 20) := fun g => ⟨fun d hd => by
        rw [r1.1 d hd]
        by_cases e : d = d0
        · subst e; rw [g]; simp
        · congr 1
          exact decide_eq_decide.mpr ⟨fun g => by omega, fun g => by omega⟩, r1.2⟩
      have contN : fB X C d0 = false → min C (cN X d0) = min C (cN X (d0 + 1)) → ∃ qm2, moM_makeAll_L123 n K0 u (nI k) (nI (min C (cN X d0))) (nI y') (nI (cN (DP D (q.2.2.2 2) (pe (q.2.2.2 2) x)) y')) (nI (cN (DP D (q.2.2.2 2) (pe (q.2.2.2 2) x)) d0 + 1)) qm1 = K0 (nI k) (nI (min C (cN X y'))) (nI y') qm2 ∧ KM qm qm2 ∧ RB X C k y' f0 (qm2.2.1 20) := fun g1 g2 => by
        rw [g2, ← hs]
        exact ih (d0 + 1) qm1 (by omega) (by omega) (by omega) hkm harr (nextN g1)
      have XF : X d0 = false → fB X C d0 = false ∧ min C (cN X d0) = min C (cN X (d0 + 1)) := fun g => by
        rw [g, if_neg (by decide)] at hsX
        exact ⟨by unfold fB; rw [g]; rfl, by omega⟩
      have h1 := hkm.rc h
      -- one place
      have place : ∀ t : Bool, (t = true ↔ (!h6 || pl (cN (DP D (q.2.2.2 2) (pe (q.2.2.2 2) x)) d0) (cN (DP D (q.2.2.2 2) (pe (q.2.2.2 2) x)) y')) = true) → ∃ qm2, moM_makeAll_B178 n (fun z29_1 z29_2 z29_4 z29_6 z29_7 q_29 => (moM_makeAll_L123 n K0 u z29_1 z29_2 z29_4 z29_6 z29_7 q_29)) (nI k) (nI (min C (cN X d0))) (nI y') (nI (cN (DP D (q.2.2.2 2) (pe (q.2.2.2 2) x)) y')) (nI (cN (DP D (q.2.2.2 2) (pe (q.2.2.2 2) x)) d0)) (sgI t) qm1 = K0 (nI k) (nI (min C (cN X y'))) (nI y') qm2 ∧ KM qm qm2 ∧ RB X C k y' f0 (qm2.2.1 20) := by
        intro t ht
        have hbd : cN (DP D (q.2.2.2 2) (pe (q.2.2.2 2) x)) d0 < 366 := by omega
        unfold moM_makeAll_B178
        rw [nI_1]
        cases t with
        | false =>
          rw [if_pos (show sgI false = 0 from rfl)]
          have hp : (!h6 || pl (cN (DP D (q.2.2.2 2) (pe (q.2.2.2 2) x)) d0) (cN (DP D (q.2.2.2 2) (pe (q.2.2.2 2) x)) y')) = false := by
            cases gp : (!h6 || pl (cN (DP D (q.2.2.2 2) (pe (q.2.2.2 2) x)) d0) (cN (DP D (q.2.2.2 2) (pe (q.2.2.2 2) x)) y')) with
            | false => rfl
            | true => exact Bool.noConfusion (ht.mpr gp)
          have := XF (by rw [hXd, hp]; rfl)
          exact contN this.1 this.2
        | true =>
          have hp := ht.mp rfl
          rw [hp, Bool.true_and] at hXd
          rw [if_neg (show ¬ sgI true = 0 from by decide), gi_in hbd (by decide), gi_in hbd (by decide), gi_in hbd (by decide), r3n (by omega), harr d0 d1 d2, show rS qm1 18 = nI S from by rw [hS]; exact h1.2.2.2.2.1]
          by_cases c1 : d0 < S
          · rw [if_pos (nI_lt c1 (by omega))]
            have := XF (by rw [hXd, decide_eq_false (by omega)])
            exact contN this.1 this.2
          · rw [if_neg (nI_nlt (by omega) (by omega))]
            have hu : (rS qm1 12 < nI d0) ↔ U < d0 := by
              show (qm1.1 12 < nI d0) ↔ _
              rw [hkm.1]
              obtain ⟨u1, u2⟩ := hqU
              rcases u2 with e | ⟨e1, e2⟩
              · rw [e, nI_ltI (by omega) (by omega)]
              · rw [e2, nI_ltI (by omega) (by omega)]; omega
            by_cases c2 : U < d0
            · rw [if_pos (hu.mpr c2)]
              have := XF (by rw [hXd, decide_eq_false (by omega)])
              exact contN this.1 this.2
            · rw [if_neg (fun w => c2 (hu.mp w)), show rS qm1 11 = nI C from by show qm1.1 11 = _; rw [hkm.1]; exact hqC]
              have hXt : X d0 = true := by rw [hXd]; exact decide_eq_true (by omega)
              rw [hXt, if_pos rfl] at hsX
              by_cases c3 : C ≤ cN X d0
              · rw [if_pos (nI_le (by omega) (by omega))]
                exact contN (by unfold fB; rw [decide_eq_false (by omega), Bool.and_false]) (by omega)
              · rw [if_neg (nI_ge (by omega) (by omega)), nI_1]
                obtain ⟨f', ⟨g, eg, hg⟩, hf'⟩ := setBit_r (n := n) (k := k) (d := d0) (f := qm1.2.1 20) 1 hk hd9
                rw [eg, b1, show min C (cN X d0) + 1 = min C (cN X (d0 + 1)) by omega, ← hs]
                have hkm' : KM qm (sF qm1 20 (g.2.1 0)) := ⟨hkm.1, fun a g1 g2 => (va_up_ne qm1.2.1 _ g1).trans (hkm.2.1 a g1 g2), hkm.2.2⟩
                have e20 : (sF qm1 20 (g.2.1 0)).2.1 20 = f' := (va_up_self qm1.2.1 20 _).trans hg
                have e23 : (sF qm1 20 (g.2.1 0)).2.1 23 = qm1.2.1 23 := va_up_ne qm1.2.1 (g.2.1 0) (show 23 ≠ 20 by decide)
                have hfb : fB X C d0 = true := by unfold fB; rw [hXt, decide_eq_true (by omega)]; rfl
                refine ih (d0 + 1) (sF qm1 20 (g.2.1 0)) (by omega) (by omega) (by omega) hkm' (by rw [e23]; exact harr) ?_
                rw [e20]
                refine ⟨fun d hd => ?_, fun k' hk' hne d hd => ?_⟩
                · rw [hf' k d hk hd]
                  by_cases e : d = d0
                  · subst e; rw [if_pos ⟨rfl, rfl⟩, hfb, decide_eq_true (show d < d + 1 by omega)]; rfl
                  · rw [if_neg (fun w => e w.2), r1.1 d hd]
                    congr 1
                    exact decide_eq_decide.mpr ⟨fun g => by omega, fun g => by omega⟩
                · rw [hf' k' d hk' hd, if_neg (fun w => hne w.1)]
                  exact r1.2 k' hk' hne d hd
      have hT := h1.1
      rw [gi8.2.2.2.2.2.1, show rA qm1 8 6 = qm1.2.1 8 6 from r3n (i := 6) (by decide)]
      have h86 := hT.1 6 (by decide)
      have hh6 : bt (q.1 2) 6 = h6 := h6e
      cases g6 : h6 with
      | false =>
        rw [if_pos (h86.mpr (by rw [hh6, g6]))]
        exact place true (by rw [g6]; exact ⟨fun _ => rfl, fun _ => rfl⟩)
      | true =>
        rw [if_neg (fun w => by rw [h86.mp w, g6] at hh6; cases hh6)]
        have hp := hpl (cN (DP D (q.2.2.2 2) (pe (q.2.2.2 2) x)) d0) (cN (DP D (q.2.2.2 2) (pe (q.2.2.2 2) x)) y') (by omega) hg
        have r8 := hT.2.2.2.2.2.2.2.1
        have s1 := r8 (366 + cN (DP D (q.2.2.2 2) (pe (q.2.2.2 2) x)) d0 + 1) (by omega)
        have s2 := r8 (366 + cN (DP D (q.2.2.2 2) (pe (q.2.2.2 2) x)) d0 - cN (DP D (q.2.2.2 2) (pe (q.2.2.2 2) x)) y') (by omega)
        rw [show (366 : Int32) + nI (cN (DP D (q.2.2.2 2) (pe (q.2.2.2 2) x)) d0) = nI (366 + cN (DP D (q.2.2.2 2) (pe (q.2.2.2 2) x)) d0) from nI_add 366 _, nI_1, gi_in (by omega) (by decide), r3n (by omega), pk_sub (show cN (DP D (q.2.2.2 2) (pe (q.2.2.2 2) x)) d0 ≤ cN (DP D (q.2.2.2 2) (pe (q.2.2.2 2) x)) y' by omega), show (366 : Int32) - nI (cN (DP D (q.2.2.2 2) (pe (q.2.2.2 2) x)) y' - cN (DP D (q.2.2.2 2) (pe (q.2.2.2 2) x)) d0) = nI (366 - (cN (DP D (q.2.2.2 2) (pe (q.2.2.2 2) x)) y' - cN (DP D (q.2.2.2 2) (pe (q.2.2.2 2) x)) d0)) from pk_sub (a := 366) (by omega), show 366 - (cN (DP D (q.2.2.2 2) (pe (q.2.2.2 2) x)) y' - cN (DP D (q.2.2.2 2) (pe (q.2.2.2 2) x)) d0) = 366 + cN (DP D (q.2.2.2 2) (pe (q.2.2.2 2) x)) d0 - cN (DP D (q.2.2.2 2) (pe (q.2.2.2 2) x)) y' by omega, gi_in (by omega) (by decide), r3n (by omega)]
        by_cases t1 : q.2.1 7 (366 + cN (DP D (q.2.2.2 2) (pe (q.2.2.2 2) x)) d0 + 1) = 0
        · rw [if_pos (s1.mpr t1)]
          by_cases t2 : q.2.1 7 (366 + cN (DP D (q.2.2.2 2) (pe (q.2.2.2 2) x)) d0 - cN (DP D (q.2.2.2 2) (pe (q.2.2.2 2) x)) y') = 0
          · rw [if_pos (s2.mpr t2)]
            exact place false (by rw [g6, hp, decide_eq_true t1, decide_eq_true t2]; decide)
          · rw [if_neg (fun w => t2 (s2.mp w))]
            exact place true (by rw [g6, hp, decide_eq_false t2]; simp)
        · rw [if_neg (fun w => t1 (s1.mp w))]
          exact place true (by rw [g6, hp, decide_eq_false t1]; simp)
theorem mk38 {n k ms ks S U C : Nat} {I : Int32} {qm : Pc3} {q : Pc4} {h6 : Bool} {f0 : Nat → Int32} (hn : 200000 ≤ n) (hk : k < 12) (h : RC qm q ms ks) (hS : S = cumN ms + ks) (hI : qm.1 10 = I) (hI0 : ¬ I = 0) (hC : C ≤ 1000000) (hqC : qm.1 11 = nI C) (hqU : UT (qm.1 12) U) (h6e : hsB q 6 = h6) (D : Nat → Bool) (hD : ∀ d, D d = (cc (q.2.2.2 2) I (cumN ms + ks) d && su q ms ks d)) (pl : Nat → Nat → Bool) (hpl : ∀ r T, r < T → T ≤ 366 → pl r T = (!decide (q.2.1 7 (366 + r + 1) = 0) || !decide (q.2.1 7 (366 + r - T) = 0))) (X : Nat → Bool) (hX : ∀ d, X d = XD D (q.2.2.2 2) h6 pl S U d) :
    ∀ (fuel x : Nat) (qm1 : Pc3), x ≤ 109573 → 109573 - x < fuel → KM qm qm1 → (x < 109573 → ∀ e, e < x → pe (q.2.2.2 2) e < pe (q.2.2.2 2) x) → RB X C k x f0 (qm1.2.1 20) → ∃ qm2, moM_makeAll_L38 n (fun q_39 => (some q_39)) fuel (nI k) (nI (min C (cN X x))) (nI x) qm1 = some qm2 ∧ KM qm qm2 ∧ RB X C k 109573 f0 (qm2.2.1 20) := by
  intro fuel
  induction fuel with
  | zero => intro x _ _ h; omega
  | succ u ih =>
    intro x qm1 hx hf hkm hbe hRB
    have h1 := hkm.rc h
    rw [moM_makeAll_L38]
    by_cases c : 109573 ≤ x
    · have : x = 109573 := by omega
      subst this
      rw [if_pos (show (109573 : Int32) ≤ nI 109573 by decide)]
      exact ⟨qm1, rfl, hkm, hRB⟩
    · have hx9 : x < 109573 := by omega
      have hbe := hbe hx9
      rw [if_neg (show ¬ (109573 : Int32) ≤ nI x from nI_ge (b := 109573) hx9 (by decide)), period_r h1 hx9, b1]
      have z0 : cN (DP D (q.2.2.2 2) (pe (q.2.2.2 2) x)) x = 0 := cN_none (fun e he => by
        have := hbe e he
        unfold DP
        rw [decide_eq_false (by omega), Bool.and_false])
      obtain ⟨y', qm2, a1, a2, a3, a4, a5, a6, a7, a8, a9⟩ := mk56 (n := n) (x := x) (x1 := nI k) (x2 := nI (min C (cN X x))) (K0 := fun z17_1 z17_2 z17_4 z17_6 q_17 => (moM_makeAll_B120 n (fun z38_1 z38_2 z38_4 q_38 => (moM_makeAll_L38 n (fun q_39 => (some q_39)) u z38_1 z38_2 z38_4 q_38)) z17_1 z17_2 z17_4 z17_6 q_17)) hn h1 (I := I) (by rw [hkm.1]; exact hI) hI0 D hD hbe n x qm1 (Nat.le_refl _) hx (by omega) KM.rf rfl (fun e g1 g2 => by omega) (fun d hd hdd => by
        have := hbe d hd
        unfold DP at hdd
        rw [decide_eq_false (by omega), Bool.and_false] at hdd
        cases hdd)
      have a2 := a2 hx9 rfl
      rw [z0] at a4
      have a4 : moM_makeAll_L56 n (fun z17_1 z17_2 z17_4 z17_6 q_17 => (moM_makeAll_B120 n (fun z38_1 z38_2 z38_4 q_38 => (moM_makeAll_L38 n (fun q_39 => (some q_39)) u z38_1 z38_2 z38_4 q_38)) z17_1 z17_2 z17_4 z17_6 q_17)) n (nI k) (nI (min C (cN X x))) (nI x) (nI (pe (q.2.2.2 2) x + po (q.2.2.2 2))) 0 qm1 = _ := a4
      rw [a4]
      unfold moM_makeAll_B120
      have hkm2 : KM qm qm2 := ⟨a5.1.trans hkm.1, fun a g1 g2 => (a5.2.1 a g1 g2).trans (hkm.2.1 a g1 g2), a5.2.2.trans hkm.2.2⟩
      obtain ⟨qm3, b1', b2', b3⟩ := mk123 (n := n) (k := k) (x := x) (y' := y') (K0 := fun z37_1 z37_2 z37_4 q_37 => (moM_makeAll_L38 n (fun q_39 => (some q_39)) u z37_1 z37_2 z37_4 q_37)) (f0 := f0) hn hk h hS hC hqC hqU h6e D pl hpl X hX a1 a3 hbe a7 a8 n x qm2 (Nat.le_refl _) a1 (by have := dp_366 (D := D) (F := q.2.2.2 2) (P := pe (q.2.2.2 2) x) (n := y'); omega) hkm2 a9 (by rw [a6]; exact hRB)
      rw [z0] at b1'
      have b1' : moM_makeAll_L123 n (fun z37_1 z37_2 z37_4 q_37 => (moM_makeAll_L38 n (fun q_39 => (some q_39)) u z37_1 z37_2 z37_4 q_37)) n (nI k) (nI (min C (cN X x))) (nI y') (nI (cN (DP D (q.2.2.2 2) (pe (q.2.2.2 2) x)) y')) 0 qm2 = moM_makeAll_L38 n (fun q_39 => (some q_39)) u (nI k) (nI (min C (cN X y'))) (nI y') qm3 := b1'
      rw [b1']
      exact ih y' qm3 a3 (by omega) b2' (fun hy e he => by
        have t1 := a8 y' (Nat.le_refl _) hy
        rcases Nat.lt_or_ge e x with g | g
        · have := hbe e g; omega
        · rw [a7 e g he]; exact t1) b3
theorem makeAll_r {n k ms ks S U C : Nat} {I : Int32} {qm : Pc3} {q : Pc4} {h6 : Bool} (hn : 200000 ≤ n) (hk : k < 12) (h : RC qm q ms ks) (hS : S = cumN ms + ks) (hI : qm.1 10 = I) (hI0 : ¬ I = 0) (hC : C ≤ 1000000) (hqC : qm.1 11 = nI C) (hqU : UT (qm.1 12) U) (h6e : hsB q 6 = h6) (D : Nat → Bool) (hD : ∀ d, D d = (cc (q.2.2.2 2) I (cumN ms + ks) d && su q ms ks d)) (pl : Nat → Nat → Bool) (hpl : ∀ r T, r < T → T ≤ 366 → pl r T = (!decide (q.2.1 7 (366 + r + 1) = 0) || !decide (q.2.1 7 (366 + r - T) = 0))) (X : Nat → Bool) (hX : ∀ d, X d = XD D (q.2.2.2 2) h6 pl S U d) (hz : ∀ d, d < 109573 → hb (qm.2.1 20) k d = false) : ∃ qm2, moM_makeAll n (nI k) qm = some qm2 ∧ KM qm qm2 ∧ RB X C k 109573 (qm.2.1 20) (qm2.2.1 20) := by
  have hin := cum_in h.2.2.2.2.2.1 h.2.2.2.2.2.2
  unfold moM_makeAll
  rw [show rS qm 18 = nI S from by rw [hS]; exact h.2.2.2.2.1]
  obtain ⟨f0, g1, g2, g3, g4⟩ := mk7 (n := n) (x1 := nI k) (x2 := 0) (K0 := fun z5_1 z5_2 z5_3 q_5 => (moM_makeAll_B35 n z5_1 z5_2 z5_3 q_5)) h hS n S (Nat.le_refl _) (by omega) (fun e e1 e2 => by rw [show e = S by omega])
  rw [g2]
  unfold moM_makeAll_B35
  have x0 : ∀ e, e < S → X e = false := fun e he => by rw [hX]; unfold XD; rw [decide_eq_false (by omega), Bool.and_false]
  have c0 : cN X f0 = 0 := cN_none (fun e he => x0 e (by omega))
  have key := mk38 (n := n) (k := k) (f0 := qm.2.1 20) hn hk h hS hI hI0 hC hqC hqU h6e D hD pl hpl X hX n f0 qm (by omega) (by omega) KM.rf (fun _ e he => by
    rw [g3 f0 (Nat.le_refl _) g1]
    exact g4 e he) ⟨fun d hd => by
      rw [hz d hd]
      by_cases c : d < f0
      · unfold fB; rw [x0 d (by omega)]; simp
      · rw [decide_eq_false c]; rfl, fun k' _ _ d _ => rfl⟩
  rw [c0, Nat.min_zero] at key
  exact key
