/-! Pure: a row of days, both sides. -/
theorem per_in {F ms ks mu ku d e : Nat} (hks : ks < mlN ms) (hku : ku < mlN mu) (h1 : cumN ms + ks ≤ d) (h2 : d ≤ cumN mu + ku) (he : e < 109573) (hp : pe F e = pe F d) : ms - ms % 12 - 1 ≤ moD e ∧ moD e ≤ min 3599 (mu - mu % 12 + 12) := by
  have m1 : ms ≤ moD d := by
    have := moD_mono h1
    rw [moD_mk hks] at this
    exact this
  have m2 : moD d ≤ mu := by
    have := moD_mono h2
    rw [moD_mk hku] at this
    exact this
  have m3 := moD_lt he
  unfold pe at hp
  split at hp
  · subst hp; omega
  · split at hp
    · have hs := moD_s d
      constructor
      · rcases Nat.eq_zero_or_pos (ms - ms % 12) with c | c
        · omega
        · apply cum_le_iff.mp
          have t1 := cum_s (ms - ms % 12 - 1)
          rw [show ms - ms % 12 - 1 + 1 = ms - ms % 12 by omega] at t1
          have t2 := mlN_b (ms - ms % 12 - 1)
          have t3 := cum_mono (show ms - ms % 12 ≤ moD d by omega)
          omega
      · have : moD e < mu - mu % 12 + 12 + 1 := by
          apply cum_lt_iff.mp
          rw [cum_s]
          have t2 := mlN_b (mu - mu % 12 + 12)
          have t3 := cum_mono (show moD d + 1 ≤ mu - mu % 12 + 12 by omega)
          omega
        omega
    · split at hp
      · omega
      · omega
def KF (q q' : Pc4) : Prop := (∀ i, i < 15 ∨ 18 < i → q'.1 i = q.1 i) ∧ (∀ a, a ≠ 10 → a ≠ 14 → q'.2.1 a = q.2.1 a) ∧ q'.2.2.1 = q.2.2.1 ∧ (∀ i, i ≠ 1 → q'.2.2.2 i = q.2.2.2 i)
theorem fillRow_c {n ρ ms ks mu ku v C : Nat} {x2 : Int32} {q : Pc4} (hn : 200000 ≤ n) (hx : isD x2 ms ks) (hF : Fst q) (h4 : q.2.2.2 2 < 4) (h9 : ∀ i, 7 ≤ i → i < 32 → bt (q.1 9) i = false) (hv : 1 ≤ v ∧ v ≤ 400) (hq3 : q.1 3 = nI v) (hC : C ≤ 1000000) (hq4 : q.1 4 = nI C) (hu : isD (q.1 5) mu ku) (hz : ∀ m, m < 3600 → q.2.1 14 m = 0) (D : Nat → Bool) (hD : ∀ d, D d = (cc (q.2.2.2 2) (nI v) (cumN ms + ks) d && su q ms ks d)) (pl : Nat → Nat → Bool) (hpl : ∀ r T, r < T → T ≤ 366 → pl r T = (!decide (q.2.1 7 (366 + r + 1) = 0) || !decide (q.2.1 7 (366 + r - T) = 0))) (X : Nat → Bool) (hX : ∀ d, X d = XD D (q.2.2.2 2) (hsB q 6) pl (cumN ms + ks) (cumN mu + ku) d) : ∃ q', moQ1_fillRow n ρ x2 q = some q' ∧ KF q q' ∧ q'.2.2.2 1 = ρ ∧ WB (q'.2.1 14) (fB X C) := by
  have hS := cum_in hx.1 hx.2.1
  have hms := hx.1
  have hmu := hu.1
  unfold moQ1_fillRow
  have eiv : maxI 1 (r4S (s4S (s4I q 1 ρ) 15 x2) 3) = nI v := by
    rw [show r4S (s4S (s4I q 1 ρ) 15 x2) 3 = nI v from hq3]
    unfold maxI
    by_cases c : 1 < v
    · rw [if_pos (show (1 : Int32) < nI v from nI_lt (a := 1) c (by omega))]
    · rw [if_neg (show ¬ (1 : Int32) < nI v from nI_nlt (a := 1) (by omega) (by decide)), show v = 1 by omega]; rfl
  have hper := period_c (n := n) (d := cumN ms + ks) h4 (by omega)
  rw [moD_mk hx.2.1] at hper
  rw [eiv, monthOf_d hx, b1, show moQ0_numberOf n x2 (s4S (s4S (s4I q 1 ρ) 15 x2) 16 (nI v)) = some (nI (cumN ms + ks)) from numberOf_d hF hx, b1, gl_in (show r4I (s4S (s4S (s4I q 1 ρ) 15 x2) 16 (nI v)) 2 < 4 from h4), show moQ2_periodOf n (r4I (s4S (s4S (s4I q 1 ρ) 15 x2) 16 (nI v)) 2) (nI ms) (nI (cumN ms + ks)) = _ from hper, b1, b1, jan_n hms, b1, show moQ0_monthOf n (r4S (s4S (s4S (s4S (s4I q 1 ρ) 15 x2) 16 (nI v)) 17 (nI (pe (q.2.2.2 2) (cumN ms + ks)))) 5) = some (nI mu) from monthOf_d hu, b1, jan_n hmu, b1]
  have efr : maxI 0 (nI (ms - ms % 12) - 1) = nI (ms - ms % 12 - 1) := by
    unfold maxI
    rcases Nat.eq_zero_or_pos (ms - ms % 12) with c | c
    · rw [c]; decide
    · rw [show nI (ms - ms % 12) - (1 : Int32) = nI (ms - ms % 12 - 1) from pk_sub (b := 1) c]
      by_cases c2 : 0 < ms - ms % 12 - 1
      · rw [if_pos (show (0 : Int32) < nI (ms - ms % 12 - 1) from nI_lt (a := 0) c2 (by omega))]
      · rw [if_neg (show ¬ (0 : Int32) < nI (ms - ms % 12 - 1) from nI_nlt (a := 0) (by omega) (by decide)), show ms - ms % 12 - 1 = 0 by omega]; rfl
  have eto : minI (3600 - 1) (nI (mu - mu % 12) + 12) = nI (min 3599 (mu - mu % 12 + 12)) := by
    rw [show nI (mu - mu % 12) + (12 : Int32) = nI (mu - mu % 12 + 12) from nI_add _ 12, show (3600 : Int32) - 1 = nI 3599 from by decide]
    unfold minI
    by_cases c : mu - mu % 12 + 12 < 3599
    · rw [if_pos (nI_lt c (by decide)), show min 3599 (mu - mu % 12 + 12) = mu - mu % 12 + 12 by omega]
    · rw [if_neg (nI_nlt (by omega) (by omega)), show min 3599 (mu - mu % 12 + 12) = 3599 by omega]
  rw [efr, eto]
  generalize hfr : ms - ms % 12 - 1 = fr at *
  generalize hto : min 3599 (mu - mu % 12 + 12) = to at *
  have hto3 : to < 3600 := by omega
  have hfr3 : fr ≤ 3600 := by omega
  generalize hq0 : s4S (s4S (s4S (s4I q 1 ρ) 15 x2) 16 (nI v)) 17 (nI (pe (q.2.2.2 2) (cumN ms + ks))) = q0 at *
  have f2 : q0.2.2.2 2 = q.2.2.2 2 := by subst hq0; rfl
  have f1 : q0.2.2.2 1 = ρ := by subst hq0; rfl
  have hcf : CF q0 ms ks := by subst hq0; exact ⟨hF, h4, hx, h9⟩
  have hci : CI q0 (nI v) (cumN ms + ks) := by subst hq0; exact ⟨rfl, nI_ne0 (by omega) (by omega), rfl⟩
  have hsu : ∀ d, su q0 ms ks d = su q ms ks d := by subst hq0; intro d; rfl
  have hkf : KF q q0 := by
    subst hq0
    refine ⟨fun i hi => ?_, fun _ _ _ => rfl, rfl, fun i hi => va_up_ne q.2.2.2 ρ hi⟩
    show upd (upd (upd q.1 15 x2) 16 (nI v)) 17 _ i = q.1 i
    rw [upd_ne (by omega), upd_ne (by omega), upd_ne (by omega)]
  have f14 : q0.2.1 14 = q.2.1 14 := by subst hq0; rfl
  have f7 : q0.2.1 7 = q.2.1 7 := by subst hq0; rfl
  have f5 : q0.1 5 = q.1 5 := by subst hq0; rfl
  have f15 : q0.1 15 = x2 := by subst hq0; rfl
  have f4 : q0.1 4 = q.1 4 := by subst hq0; rfl
  have fF : Fst q0 := by subst hq0; exact hF
  have fp : q0.1 2 = q.1 2 := by subst hq0; rfl
  obtain ⟨q1, e1, k1, w1⟩ := fill93 (n := n) (ρ := ρ) (fr := fr) (to := to) (K0 := fun z12_3 z12_4 q_12 => (bd1 (moQ5_has n 6 q_12) fun r_13 => (if r_13 = 0 then (bd1 (moQ1_cutEnds n ρ z12_3 z12_4 q_12) fun q_15 => (some q_15)) else (bd1 (moQ1_choosePlaces n ρ z12_3 z12_4 q_12) fun q_16 => (bd1 (moQ1_cutEnds n ρ z12_3 z12_4 q_16) fun q_17 => (some q_17)))))) hn hto3 hcf hci D (fun d => by rw [hD, hsu, f2]) n fr q0 (Nat.le_refl _) hfr3 (by omega) KL.rf (fun m hm j hj => by
    rw [f14, hz m hm, b_0]
    by_cases cj : j < mlN m
    · show false = (decide (j < mlN m) && (D (cumN m + j) && decide (fr ≤ moD (cumN m + j) ∧ moD (cumN m + j) < fr ∧ moD (cumN m + j) ≤ to)))
      rw [moD_mk cj, decide_eq_false (show ¬ (fr ≤ m ∧ m < fr ∧ m ≤ to) by omega)]; simp
    · rw [decide_eq_false cj]; rfl)
  rw [e1, has_c (by decide), b1]
  -- the days of the months that were looked at
  have hR : ∀ d, (D d && decide (fr ≤ moD d ∧ moD d ≤ to)) = true → fr ≤ moD d ∧ moD d ≤ to := fun d h => by
    rw [Bool.and_eq_true, decide_eq_true_iff] at h
    exact h.2
  generalize hRd : (fun d => D d && decide (fr ≤ moD d ∧ moD d ≤ to)) = R at *
  have hRe : ∀ d, R d = (D d && decide (fr ≤ moD d ∧ moD d ≤ to)) := fun d => by rw [← hRd]
  have hR : ∀ d, R d = true → fr ≤ moD d ∧ moD d ≤ to := fun d h => hR d (by rw [← hRe]; exact h)
  have hk1u : isD (q1.1 5) mu ku := by rw [k1.1 5 (by decide), f5]; exact hu
  have hk1s : isD (q1.1 15) ms ks := by rw [k1.1 15 (by decide), f15]; exact hx
  have hk1c : q1.1 4 = nI C := by rw [k1.1 4 (by decide), f4]; exact hq4
  have hk1r : q1.2.2.2 1 = ρ := by rw [k1.2.2]; exact f1
  have hk12 : q1.2.2.2 2 = q.2.2.2 2 := by rw [k1.2.2]; exact f2
  have hYX : ∀ d, d < 109573 → X d = (chD R (q.2.2.2 2) (hsB q 6) pl d && decide (cumN ms + ks ≤ d ∧ d ≤ cumN mu + ku)) := fun d hd => by
    rw [hX]
    unfold XD
    by_cases c : cumN ms + ks ≤ d ∧ d ≤ cumN mu + ku
    · have hin : ∀ e, e < 109573 → pe (q.2.2.2 2) e = pe (q.2.2.2 2) d → R e = D e := fun e he hp => by
        have := per_in hx.2.1 hu.2.1 c.1 c.2 he hp
        rw [hfr, hto] at this
        rw [hRe, decide_eq_true this, Bool.and_true]
      have hdp : ∀ e, e < 109573 → DP R (q.2.2.2 2) (pe (q.2.2.2 2) d) e = DP D (q.2.2.2 2) (pe (q.2.2.2 2) d) e := fun e he => by
        unfold DP
        by_cases cp : pe (q.2.2.2 2) e = pe (q.2.2.2 2) d
        · rw [hin e he cp]
        · rw [decide_eq_false cp, Bool.and_false, Bool.and_false]
      congr 1
      unfold chD
      rw [hin d hd rfl, cN_congr (f := DP R (q.2.2.2 2) (pe (q.2.2.2 2) d)) (n := d) (fun i hi => hdp i (by omega)), cN_congr (f := DP R (q.2.2.2 2) (pe (q.2.2.2 2) d)) (n := 109573) hdp]
    · rw [decide_eq_false c, Bool.and_false, Bool.and_false]
  have hfb : ∀ Y : Nat → Bool, (∀ d, d < 109573 → X d = Y d) → ∀ d, d < 109573 → fB X C d = fB Y C d := fun Y h d hd => by
    unfold fB
    rw [h d hd, cN_congr (f := X) (g := Y) (fun i hi => h i (by omega))]
  have hcut : ∀ q2, KL q1 q2 → WB (q2.2.1 14) (chD R (q.2.2.2 2) (hsB q 6) pl) → ∃ q', (bd1 (moQ1_cutEnds n ρ (nI fr) (nI to) q2) fun q_15 => (some q_15)) = some q' ∧ KF q q' ∧ q'.2.2.2 1 = ρ ∧ WB (q'.2.1 14) (fB X C) := fun q2 k2 w2 => by
    obtain ⟨q3, e3, k3, w3⟩ := cut_c (n := n) (ρ := ρ) (fr := fr) (to := to) (ms := ms) (ks := ks) (mu := mu) (ku := ku) (C := C) (q := q2) (G := chD R (q.2.2.2 2) (hsB q 6) pl) hn (by rw [k2.2.2]; exact hk1r) hto3 hfr3 (by rw [k2.1 15 (by decide)]; exact hk1s) (by rw [k2.1 5 (by decide)]; exact hk1u) hC (by rw [k2.1 4 (by decide)]; exact hk1c) (fun d => (chD R (q.2.2.2 2) (hsB q 6) pl d && decide (cumN ms + ks ≤ d ∧ d ≤ cumN mu + ku))) (fun d => rfl) (fun d hd => by
      unfold chD at hd
      rw [Bool.and_eq_true] at hd
      exact hR d hd.1) w2
    have kk := (k1.trans k2).trans k3
    rw [e3, b1]
    refine ⟨q3, rfl, ⟨fun i hi => ?_, fun a g1 g2 => (kk.2.1 a g1 g2).trans (hkf.2.1 a g1 g2), ?_, fun i hi => ?_⟩, ?_, w3.congr (hfb _ hYX)⟩
    · rw [kk.1 i (by omega)]; exact hkf.1 i hi
    · rw [kk.2.2]; exact hkf.2.2.1
    · rw [kk.2.2]; exact hkf.2.2.2 i hi
    · rw [kk.2.2]; exact f1
  have h6e : bt (q1.1 2) 6 = hsB q 6 := by rw [k1.1 2 (by decide), fp]; rfl
  rw [h6e]
  cases g6 : hsB q 6 with
  | false =>
    rw [if_pos (show (if false = true then (1 : Int32) else 0) = 0 by decide)]
    rw [g6] at hcut
    refine hcut q1 KL.rf (w1.congr (fun d hd => ?_))
    unfold chD
    simp
  | true =>
    rw [if_neg (show ¬ (if true = true then (1 : Int32) else 0) = 0 by decide)]
    rw [g6] at hcut
    obtain ⟨q2, e2, k2, w2⟩ := places_c (n := n) (ρ := ρ) (fr := fr) (to := to) (q := q1) (R := R) (pl := pl) hn hk1r (by rw [hk12]; exact h4) (k1.cf hcf).1 hto3 hfr3 (by rw [k1.2.1 7 (by decide) (by decide), f7]; exact hpl) hR w1
    rw [hk12] at w2
    rw [e2, b1]
    exact hcut q2 k2 w2
-- a new thing
theorem free_rc {α : Type} {n : Nat} {qm : Pc3} {z q : Pc4} {x2 : Int32} {K0 : Int32 → Int32 → Pc3 → Option α} (hn : 200000 ≤ n) (hT : ∀ k, k < 12 → Th1 qm z q k) : (∃ k, k < 12 ∧ qm.2.1 19 k = 0 ∧ moQ7_freeNumber n z q = some (nI k) ∧ moM_thing_L21 n K0 n x2 0 qm = K0 x2 (nI k) qm) ∨ (moQ7_freeNumber n z q = some (-1) ∧ moM_thing_L21 n K0 n x2 0 qm = K0 x2 12 qm) := by
  unfold moQ7_freeNumber
  have key : ∀ (fuel i : Nat), i ≤ 12 → 12 - i < fuel → (∃ k, k < 12 ∧ qm.2.1 19 k = 0 ∧ moQ7_freeNumber_L2 n z q (some (-1)) (fun z7_1 => (some z7_1)) fuel (nI i) = some (nI k) ∧ moM_thing_L21 n K0 fuel x2 (nI i) qm = K0 x2 (nI k) qm) ∨ (moQ7_freeNumber_L2 n z q (some (-1)) (fun z7_1 => (some z7_1)) fuel (nI i) = some (-1) ∧ moM_thing_L21 n K0 fuel x2 (nI i) qm = K0 x2 12 qm) := by
    intro fuel
    induction fuel with
    | zero => intro i _ h; omega
    | succ u ih =>
      intro i hi hf
      rw [moQ7_freeNumber_L2, moM_thing_L21]
      by_cases c : 12 ≤ i
      · have : i = 12 := by omega
        subst this
        rw [if_pos (show (12 : Int32) ≤ nI 12 by decide), if_pos (show (12 : Int32) ≤ nI 12 by decide)]
        exact Or.inr ⟨rfl, rfl⟩
      · have hi12 : i < 12 := by omega
        obtain ⟨h1, h2, h3⟩ := hT i hi12
        have c' : ¬ (12 : Int32) ≤ nI i := nI_ge (b := 12) hi12 (by decide)
        rw [if_neg c', if_neg c', gi_in hi12 (by decide), gi_in hi12 (by decide), nI_clamp (by omega), r3n (by omega), nI_1]
        by_cases c1 : q.2.1 15 i = 0
        · have : qm.2.1 19 i = 0 := Classical.byContradiction fun g => (h2.mp g).1 c1
          rw [if_pos c1, if_pos this]
          exact Or.inl ⟨i, hi12, this, rfl, rfl⟩
        · rw [if_neg c1, gl_in hi12, gz_in (fun g => c1 (h1.mpr g))]
          by_cases c2 : z.1 (100 + 4 * i) = 0
          · have : qm.2.1 19 i = 0 := Classical.byContradiction fun g => (h2.mp g).2 c2
            rw [if_pos (show r4S z (100 + 4 * i) = 0 from c2), if_pos this]
            exact Or.inl ⟨i, hi12, this, rfl, rfl⟩
          · rw [if_neg (show ¬ r4S z (100 + 4 * i) = 0 from c2), if_neg (h2.mpr ⟨c1, c2⟩)]
            exact ih (i + 1) (by omega) (by omega)
  exact key n 0 (by omega) (by omega)
theorem zero88 {α : Type} {n k : Nat} {x2 : Int32} {K0 : Int32 → Int32 → Pc3 → Option α} {q : Pc3} (hk : k < 12) : ∀ (fuel i : Nat) (q1 : Pc3), 3425 * k ≤ i → i ≤ 3425 * k + 3425 → 3425 * k + 3425 - i < fuel → q1.1 = q.1 → q1.2.2 = q.2.2 → (∀ a, a ≠ 20 → a ≠ 21 → a ≠ 22 → q1.2.1 a = q.2.1 a) → (∀ a, a = 20 ∨ a = 21 ∨ a = 22 → ∀ j, q1.2.1 a j = if 3425 * k ≤ j ∧ j < i then 0 else q.2.1 a j) → ∃ q2, moM_thing_L88 n K0 fuel x2 (nI k) (nI i) q1 = K0 x2 (nI k) q2 ∧ q2.1 = q.1 ∧ q2.2.2 = q.2.2 ∧ (∀ a, a ≠ 20 → a ≠ 21 → a ≠ 22 → q2.2.1 a = q.2.1 a) ∧ (∀ a, a = 20 ∨ a = 21 ∨ a = 22 → ∀ j, q2.2.1 a j = if 3425 * k ≤ j ∧ j < 3425 * k + 3425 then 0 else q.2.1 a j) := by
  intro fuel
  induction fuel with
  | zero => intro i _ _ _ h; omega
  | succ u ih =>
    intro i q1 h1 h2 hf e1 e2 e3 e4
    rw [moM_thing_L88, show (3425 : Int32) * nI k = nI (3425 * k) from pk_mul 3425 k, show nI (3425 * k) + (3425 : Int32) = nI (3425 * k + 3425) from nI_add _ 3425]
    by_cases c : 3425 * k + 3425 ≤ i
    · rw [if_pos (nI_le c (by omega))]
      have : i = 3425 * k + 3425 := by omega
      subst this
      exact ⟨q1, rfl, e1, e2, e3, e4⟩
    · rw [if_neg (nI_ge (by omega) (by omega)), gi_in (by omega) (by decide), gi_in (by omega) (by decide), gi_in (by omega) (by decide), nI_1]
      refine ih (i + 1) (sA (sA (sA q1 20 (nI i) 0) 21 (nI i) 0) 22 (nI i) 0) (by omega) (by omega) (by omega) e1 e2 (fun a g1 g2 g3 => by rw [sA_ne g3, sA_ne g2, sA_ne g1]; exact e3 a g1 g2 g3) (fun a ha j => ?_)
      have put : ∀ f : Nat → Int32, (∀ j, f j = if 3425 * k ≤ j ∧ j < i then 0 else q.2.1 a j) → upd f i 0 j = if 3425 * k ≤ j ∧ j < i + 1 then 0 else q.2.1 a j := fun f hf => by
        by_cases g : j = i
        · subst g; rw [upd_self, if_pos (by omega)]
        · rw [upd_ne g, hf j]
          by_cases g2 : 3425 * k ≤ j ∧ j < i
          · rw [if_pos g2, if_pos (by omega)]
          · rw [if_neg g2, if_neg (by omega)]
      rcases ha with rfl | rfl | rfl
      · rw [sA_ne (by decide), sA_ne (by decide), sA_k (by omega)]; exact put _ (e4 20 (Or.inl rfl))
      · rw [sA_ne (by decide), sA_k (by omega), sA_ne (by decide)]; exact put _ (e4 21 (Or.inr (Or.inl rfl)))
      · rw [sA_k (by omega), sA_ne (by decide), sA_ne (by decide)]; exact put _ (e4 22 (Or.inr (Or.inr rfl)))
