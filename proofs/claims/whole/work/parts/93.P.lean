/-! Pure: making all days of a rule: the class. -/
def ST (R : Nat → Bool) (F : Nat) (pl : Nat → Nat → Bool) (x c P : Nat) (x3 : Int32) (q : Pc4) : Prop := PI R F x P x3 ∧ q.1 18 = nI (cN (DP R F P) x) ∧ GA R F x P (q.2.1 10) ∧ WB (q.2.1 14) (RI R F x c P pl)
theorem ST.go {R : Nat → Bool} {F x y c P : Nat} {pl : Nat → Nat → Bool} {x3 : Int32} {q : Pc4} (h : ST R F pl x c P x3 q) (hxy : x ≤ y) (hno : ∀ e, x ≤ e → e < y → R e = false) : ST R F pl y c P x3 q := by
  obtain ⟨h1, h2, h3, h4⟩ := h
  have hlt : ∀ e, e < y → R e = true → e < x := fun e g1 g2 => by
    rcases Nat.lt_or_ge e x with g | g
    · exact g
    · rw [hno e g g1] at g2; cases g2
  refine ⟨?_, ?_, fun d hd hdp => ?_, h4.congr (fun d hd => ?_)⟩
  · rcases h1 with ⟨a1, ⟨e, a2, a3⟩, a4, a5⟩ | ⟨a1, a2, a3⟩
    · exact Or.inl ⟨a1, ⟨e, by omega, a3⟩, a4, fun e g1 g2 => a5 e (hlt e g1 g2) g2⟩
    · refine Or.inr ⟨a1, a2, fun e g1 => ?_⟩
      cases gr : R e with
      | false => rfl
      | true => have := a3 e (hlt e g1 gr); rw [gr] at this; cases this
  · rw [h2, cN_tail (f := DP R F P) hxy (fun e g1 g2 => by unfold DP; rw [hno e g1 g2]; rfl)]
  · have hr : R d = true := by
      unfold DP at hdp
      rw [Bool.and_eq_true] at hdp
      exact hdp.1
    exact h3 d (hlt d hd hr) hdp
  · unfold RI
    by_cases c1 : d < x
    · rw [if_pos c1, if_pos (show d < y by omega)]
    · rw [if_neg c1]
      by_cases c2 : d < y
      · rw [if_pos c2, hno d (by omega) c2, Bool.and_false]
        unfold chD
        rw [hno d (by omega) c2]; rfl
      · rw [if_neg c2]
theorem gather_c {n ρ m k g : Nat} {q : Pc4} (h : q.1 18 = nI g) (hg : g < 366) : moQ1_gather n ρ (nI m) (nI k) q = some (s4S (s4A q 10 (nI g) (nI (32 * m + k))) 18 (nI (g + 1))) := by
  unfold moQ1_gather
  rw [show r4S q 18 = nI g from h, if_neg (show ¬ (366 : Int32) ≤ nI g from nI_ge (b := 366) hg (by decide)), gi_in hg (by decide), show r4S (s4A q 10 (nI g) ((32 * nI m) + nI k)) 18 = nI g from h, nI_1, show (32 : Int32) * nI m = nI (32 * m) from pk_mul 32 m, nI_add]
theorem KL.ge {α : Type} {q q' : Pc4} {ρ : Nat} {f : Option α} (h : KL q q') (hρ : q.2.2.2 1 = ρ) : ge (r4I q' 1) ρ f = f := if_pos (by show q'.2.2.2 1 = ρ; rw [h.2.2]; exact hρ)
theorem ch40 {α : Type} {n ρ m : Nat} {x2 : Int32} {q : Pc4} {R : Nat → Bool} {pl : Nat → Nat → Bool} {K0 : Int32 → Int32 → Int32 → Pc4 → Option α} (hn : 200000 ≤ n) (hρ : q.2.2.2 1 = ρ) (hF4 : q.2.2.2 2 < 4) (hFst : Fst q) (hm : m < 3600) (hpl : ∀ r T, r < T → T ≤ 366 → pl r T = (!decide (q.2.1 7 (366 + r + 1) = 0) || !decide (q.2.1 7 (366 + r - T) = 0))) : ∀ (fuel j0 : Nat) (y x3 : Int32) (P : Nat) (q1 : Pc4), j0 ≤ mlN m → pcN y < fuel → (∀ i, i < 32 → bt y i = (decide (j0 ≤ i ∧ i < mlN m) && R (cumN m + i))) → KL q q1 → ST R (q.2.2.2 2) pl (cumN m + j0) (m + 1) P x3 q1 → ∃ x3' P' q2, moQ1_choosePlaces_L40 n ρ K0 fuel x2 x3 (nI m) y (nI (pcN y)) q1 = K0 x2 x3' (nI m) q2 ∧ KL q q2 ∧ ST R (q.2.2.2 2) pl (cumN (m + 1)) (m + 1) P' x3' q2 := by
  have hl := mlN_b m
  have hcm := cum_le (show m + 1 ≤ 3600 by omega)
  rw [cum_s] at hcm
  intro fuel
  induction fuel with
  | zero => intro j0 y _ _ _ _ h; omega
  | succ u ih =>
    intro j0 y x3 P q1 hj0 hf hy hk hS
    have hp : pcN y ≤ 32 := cN_le _ _
    rw [moQ1_choosePlaces_L40]
    by_cases c : y = 0
    · have hp0 : pcN y = 0 := pc_zero.mpr c
      rw [hp0, if_pos (show nI 0 ≤ (0 : Int32) by decide)]
      refine ⟨x3, P, q1, rfl, hk, hS.go (by rw [cum_s]; omega) (fun e g1 g2 => ?_)⟩
      rw [cum_s] at g2
      obtain ⟨j, rfl⟩ : ∃ j, e = cumN m + j := ⟨e - cumN m, by omega⟩
      have h1 := hy j (by omega)
      rw [(bt_zero y).mp c j (by omega), decide_eq_true (show j0 ≤ j ∧ j < mlN m by omega)] at h1
      exact h1.symm
    · obtain ⟨k, hk32, h1, h2, h3, h4⟩ := ntz_n (n := n) c
      have hpc := pc_low hk32 h1 h3
      have hyk := hy k hk32
      rw [h1] at hyk
      have hyk : (j0 ≤ k ∧ k < mlN m) ∧ R (cumN m + k) = true := by
        have := hyk.symm
        rw [Bool.and_eq_true, decide_eq_true_iff] at this
        exact this
      have hd9 : cumN m + k < 109573 := by omega
      have hmo : moD (cumN m + k) = m := moD_mk hyk.1.2
      have hper := period_c (n := n) (d := cumN m + k) hF4 (by omega)
      rw [hmo] at hper
      have pl1 := pe_le (q.2.2.2 2) (cumN m + k)
      rw [if_neg (show ¬ nI (pcN y) ≤ (0 : Int32) from nI_ge (a := 0) (by omega) (by omega)), h4, b1, gi_in (by omega) (by decide), gl_in (show r4I q1 2 < 4 from by show q1.2.2.2 2 < 4; rw [hk.2.2]; exact hF4), r4n (by omega), show q1.2.1 3 m = nI (cumN m) from by rw [hk.2.1 3 (by decide) (by decide)]; exact hFst m (by omega), nI_add, show r4I q1 2 = q.2.2.2 2 from by show q1.2.2.2 2 = _; rw [hk.2.2], hper, b1, dec_n (by omega), show pcN y - 1 = pcN (y &&& (y - 1)) by omega]
      have hS1 : ST R (q.2.2.2 2) pl (cumN m + k) (m + 1) P x3 q1 := hS.go (by omega) (fun e g1 g2 => by
        obtain ⟨j, rfl⟩ : ∃ j, e = cumN m + j := ⟨e - cumN m, by omega⟩
        have h1 := hy j (by omega)
        rw [h2 j (by omega), decide_eq_true (show j0 ≤ j ∧ j < mlN m by omega)] at h1
        exact h1.symm)
      have hy' : ∀ i, i < 32 → bt (y &&& (y - 1)) i = (decide (k + 1 ≤ i ∧ i < mlN m) && R (cumN m + i)) := fun i hi => by
        rw [h3 i hi]
        by_cases g : i ≤ k
        · rw [decide_eq_false (show ¬ (k + 1 ≤ i ∧ i < mlN m) by omega)]
          rcases Nat.lt_or_ge i k with g' | g'
          · rw [h2 i g']; rfl
          · rw [decide_eq_true (show i = k by omega)]; simp
        · rw [hy i hi, decide_eq_false (show ¬ i = k by omega)]
          by_cases g2 : i < mlN m
          · rw [decide_eq_true (show j0 ≤ i ∧ i < mlN m by omega), decide_eq_true (show k + 1 ≤ i ∧ i < mlN m by omega)]; simp
          · rw [decide_eq_false (show ¬ (j0 ≤ i ∧ i < mlN m) by omega), decide_eq_false (show ¬ (k + 1 ≤ i ∧ i < mlN m) by omega)]; rfl
      obtain ⟨i1, i2, i3, i4⟩ := hS1
      generalize hdd : cumN m + k = d0 at *
      have hcode : 32 * m + k = 32 * moD d0 + (d0 - cumN (moD d0)) := by rw [hmo, ← hdd]; omega
      have hx3 : (nI (pe (q.2.2.2 2) d0) = x3) ↔ pe (q.2.2.2 2) d0 = P := by
        rcases i1 with ⟨a1, -, a4, -⟩ | ⟨a1, a2, -⟩
        · rw [a1, nI_eq (by omega) (by omega)]
        · rw [a1, a2]
          exact ⟨fun w => absurd w (nI_m1 (by omega)), fun w => by omega⟩
      by_cases cp : pe (q.2.2.2 2) d0 = P
      · rw [if_pos (hx3.mpr cp)]
        have hdp : DP R (q.2.2.2 2) P d0 = true := by unfold DP; rw [hyk.2, decide_eq_true cp]; rfl
        have hs : cN (DP R (q.2.2.2 2) P) (d0 + 1) = cN (DP R (q.2.2.2 2) P) d0 + 1 := by rw [cN_s, hdp, if_pos rfl]
        have hb := dp_366 (D := R) (F := q.2.2.2 2) (P := P) (n := d0 + 1)
        rw [gather_c i2 (by omega), b1]
        refine ih (k + 1) (y &&& (y - 1)) x3 P (s4S (s4A q1 10 (nI (cN (DP R (q.2.2.2 2) P) d0)) (nI (32 * m + k))) 18 (nI (cN (DP R (q.2.2.2 2) P) d0 + 1))) (by omega) (by omega) hy' ((hk.A (Or.inl rfl)).S) ?_
        rw [show cumN m + (k + 1) = d0 + 1 by omega]
        refine ⟨?_, ?_, fun d hd hdp' => ?_, ?_⟩
        · rcases i1 with ⟨a1, ⟨e, a2, a3⟩, a4, a5⟩ | ⟨a1, a2, -⟩
          · refine Or.inl ⟨a1, ⟨e, by omega, a3⟩, a4, fun e g1 g2 => ?_⟩
            rcases Nat.lt_or_ge e d0 with g | g
            · exact a5 e g g2
            · rw [show e = d0 by omega, cp]; exact Nat.le_refl _
          · omega
        · rw [hs]; rfl
        · show (s4A q1 10 (nI (cN (DP R (q.2.2.2 2) P) d0)) (nI (32 * m + k))).2.1 10 _ = _
          rw [s4A_k (by omega)]
          rcases Nat.lt_or_ge d d0 with g | g
          · have := cN_lt hdp' g
            rw [upd_ne (by omega)]
            exact i3 d g hdp'
          · rw [show d = d0 by omega, upd_self, hcode]
        · show WB ((s4A q1 10 (nI (cN (DP R (q.2.2.2 2) P) d0)) (nI (32 * m + k))).2.1 14) _
          rw [s4A_ne (by decide)]
          refine i4.congr (fun d hd => ?_)
          unfold RI
          rcases Nat.lt_trichotomy d d0 with g | g | g
          · rw [if_pos g, if_pos (show d < d0 + 1 by omega)]
          · subst g; rw [if_pos (show d < d + 1 by omega), if_neg (Nat.lt_irrefl d), decide_eq_true cp, hmo, decide_eq_false (show ¬ m + 1 ≤ m by omega)]; simp
          · rw [if_neg (show ¬ d < d0 + 1 by omega), if_neg (show ¬ d < d0 by omega)]
      · rw [if_neg (fun w => cp (hx3.mp w))]
        have hPd : ∀ e, e < d0 → R e = true → pe (q.2.2.2 2) e < pe (q.2.2.2 2) d0 := fun e g1 g2 => by
          rcases i1 with ⟨a1, ⟨e', a2, a3⟩, a4, a5⟩ | ⟨a1, a2, a3⟩
          · have t1 := a5 e g1 g2
            have t2 := pe_mono (F := q.2.2.2 2) (show e' ≤ d0 by omega)
            omega
          · rw [a3 e g1] at g2; cases g2
        obtain ⟨q2, k1, k2, k3, k4⟩ := keep_c (n := n) (ρ := ρ) (x := d0) (c := m + 1) (P := P) (q := q1) (R := R) (pl := pl) hn (by rw [hk.2.2]; exact hρ) (by omega) (q.2.2.2 2) (by rw [hk.2.1 7 (by decide) (by decide)]; exact hpl) i2 i3 i4 (fun e g1 g2 gr => by
          rcases i1 with ⟨a1, ⟨e', a2, a3⟩, a4, a5⟩ | ⟨a1, a2, a3⟩
          · have t2 := pe_mono (F := q.2.2.2 2) (show e' ≤ d0 by omega)
            have t3 := pe_mono (F := q.2.2.2 2) g1
            omega
          · have := pe_le (q.2.2.2 2) e
            omega)
        rw [k1, b1, gather_c (g := 0) k3 (by decide), b1]
        have z0 : cN (DP R (q.2.2.2 2) (pe (q.2.2.2 2) d0)) d0 = 0 := cN_none (fun e he => by
          unfold DP
          cases gr : R e with
          | false => rfl
          | true => have := hPd e he gr; rw [decide_eq_false (by omega)]; rfl)
        have hdp : DP R (q.2.2.2 2) (pe (q.2.2.2 2) d0) d0 = true := by unfold DP; rw [hyk.2, decide_eq_true rfl]; rfl
        refine ih (k + 1) (y &&& (y - 1)) (nI (pe (q.2.2.2 2) d0)) (pe (q.2.2.2 2) d0) (s4S (s4A q2 10 (nI 0) (nI (32 * m + k))) 18 (nI (0 + 1))) (by omega) (by omega) hy' (((hk.trans k2).A (Or.inl rfl)).S) ?_
        rw [show cumN m + (k + 1) = d0 + 1 by omega]
        refine ⟨Or.inl ⟨rfl, ⟨d0, by omega, rfl⟩, by omega, fun e g1 g2 => pe_mono (by omega)⟩, ?_, fun d hd hdp' => ?_, ?_⟩
        · rw [cN_s, hdp, if_pos rfl, z0]; rfl
        · show (s4A q2 10 (nI 0) (nI (32 * m + k))).2.1 10 _ = _
          rw [s4A_k (by decide)]
          rcases Nat.lt_or_ge d d0 with g | g
          · have := cN_lt hdp' g
            omega
          · rw [show d = d0 by omega, z0, upd_self, hcode]
        · show WB ((s4A q2 10 (nI 0) (nI (32 * m + k))).2.1 14) _
          rw [s4A_ne (by decide)]
          refine k4.congr (fun d hd => ?_)
          unfold RI
          show _ = (if d < d0 then chD R (q.2.2.2 2) true pl d else (decide (m + 1 ≤ moD d) && R d))
          rcases Nat.lt_trichotomy d d0 with g | g | g
          · rw [if_pos g, if_pos (show d < d0 + 1 by omega)]
            cases gr : R d with
            | false => unfold chD; rw [gr]; rfl
            | true => have := hPd d g gr; rw [decide_eq_false (by omega)]; simp
          · subst g; rw [if_pos (show d < d + 1 by omega), if_neg (Nat.lt_irrefl d), hmo, decide_eq_false (show ¬ m + 1 ≤ m by omega), decide_eq_true rfl]; simp
          · rw [if_neg (show ¬ d < d0 + 1 by omega), if_neg (show ¬ d < d0 by omega)]
theorem ch10 {n ρ fr to : Nat} {q : Pc4} {R : Nat → Bool} {pl : Nat → Nat → Bool} (hn : 200000 ≤ n) (hρ : q.2.2.2 1 = ρ) (hF4 : q.2.2.2 2 < 4) (hFst : Fst q) (hto : to < 3600) (hpl : ∀ r T, r < T → T ≤ 366 → pl r T = (!decide (q.2.1 7 (366 + r + 1) = 0) || !decide (q.2.1 7 (366 + r - T) = 0))) (hR : ∀ d, R d = true → fr ≤ moD d ∧ moD d ≤ to) : ∀ (fuel m : Nat) (x3 : Int32) (P : Nat) (q1 : Pc4), m ≤ 3600 → 3600 - m < fuel → KL q q1 → ST R (q.2.2.2 2) pl (cumN m) m P x3 q1 → ∃ q2, moQ1_choosePlaces_L10 n ρ (fun q_17 => (bd1 (moQ1_keepChosen n ρ q_17) fun q_18 => (some q_18))) fuel (nI to) x3 (nI m) q1 = some q2 ∧ KL q q2 ∧ WB (q2.2.1 14) (chD R (q.2.2.2 2) true pl) := by
  intro fuel
  induction fuel with
  | zero => intro m _ _ _ _ h; omega
  | succ u ih =>
    intro m x3 P q1 hm hf hk hS
    rw [moQ1_choosePlaces_L10]
    by_cases c : to < m
    · rw [if_pos (nI_lt c (by omega))]
      obtain ⟨i1, i2, i3, i4⟩ := hS
      obtain ⟨q2, k1, k2, k3, k4⟩ := keep_c (n := n) (ρ := ρ) (x := cumN m) (c := m) (P := P) (q := q1) (R := R) (pl := pl) hn (by rw [hk.2.2]; exact hρ) (cum_le hm) (q.2.2.2 2) (by rw [hk.2.1 7 (by decide) (by decide)]; exact hpl) i2 i3 i4 (fun e g1 g2 gr => by
        have := hR e gr
        rw [cum_le_iff] at g1
        omega)
      rw [k1, b1]
      refine ⟨q2, rfl, hk.trans k2, k4.congr (fun d hd => ?_)⟩
      show _ = (if d < cumN m then chD R (q.2.2.2 2) true pl d else (decide (m ≤ moD d) && R d))
      by_cases cd : d < cumN m
      · rw [if_pos cd]
      · rw [if_neg cd]
        have hr : R d = false := by
          cases gr : R d with
          | false => rfl
          | true =>
            have := hR d gr
            have := cum_le_iff.mp (show cumN m ≤ d by omega)
            omega
        unfold chD
        rw [hr, Bool.and_false]; rfl
    · have hm3 : m < 3600 := by omega
      have hl := mlN_b m
      rw [if_neg (nI_nlt (by omega) (by omega)), hk.ge hρ, gi_in hm3 (by decide), hk.ge hρ, gi_in hm3 (by decide), bitCount_n, b1, r4n (by omega)]
      obtain ⟨i1, i2, i3, i4⟩ := hS
      have hy : ∀ i, i < 32 → bt (q1.2.1 14 m) i = (decide (0 ≤ i ∧ i < mlN m) && R (cumN m + i)) := fun i hi => by
        rw [i4 m hm3 i hi]
        unfold RI
        by_cases cj : i < mlN m
        · rw [if_neg (show ¬ cumN m + i < cumN m by omega), moD_mk cj, decide_eq_true cj, decide_eq_true (Nat.le_refl m), decide_eq_true (show 0 ≤ i ∧ i < mlN m by omega)]; rfl
        · rw [decide_eq_false cj, decide_eq_false (show ¬ (0 ≤ i ∧ i < mlN m) by omega)]; rfl
      have hp : pcN (q1.2.1 14 m) ≤ 32 := cN_le _ _
      obtain ⟨x3', P', q2, e1, e2, e3⟩ := ch40 (n := n) (ρ := ρ) (m := m) (x2 := nI to) (R := R) (pl := pl) (K0 := fun z16_2 z16_3 z16_4 q_16 => (moQ1_choosePlaces_L10 n ρ (fun q_17 => (bd1 (moQ1_keepChosen n ρ q_17) fun q_18 => (some q_18))) u z16_2 z16_3 (z16_4 + 1) q_16)) hn hρ hF4 hFst hm3 hpl n 0 (q1.2.1 14 m) x3 P (s4A q1 14 (nI m) 0) (by omega) (by omega) hy (hk.A (Or.inr rfl)) ⟨i1, i2, by
          show GA R (q.2.2.2 2) (cumN m + 0) P ((s4A q1 14 (nI m) 0).2.1 10)
          rw [s4A_ne (by decide)]; exact i3, by
          rw [s4A_k (by omega)]
          refine i4.set (fun j hj => ?_) (fun d hd => ?_)
          · rw [b_0]
            unfold RI
            by_cases cj : j < mlN m
            · rw [if_neg (show ¬ cumN m + j < cumN m + 0 by omega), moD_mk cj, decide_eq_false (show ¬ m + 1 ≤ m by omega)]; simp
            · rw [decide_eq_false cj]; rfl
          · unfold RI
            show (if d < cumN m then _ else _) = _
            by_cases cd : d < cumN m
            · rw [if_pos cd, if_pos cd]
            · rw [if_neg cd, if_neg cd]
              have := cum_le_iff.mp (show cumN m ≤ d by omega)
              congr 1
              exact decide_eq_decide.mpr ⟨fun g => by omega, fun g => by omega⟩⟩
      rw [e1, nI_1]
      exact ih (m + 1) x3' P' q2 (by omega) (by omega) e2 e3
theorem places_c {n ρ fr to : Nat} {q : Pc4} {R : Nat → Bool} {pl : Nat → Nat → Bool} (hn : 200000 ≤ n) (hρ : q.2.2.2 1 = ρ) (hF4 : q.2.2.2 2 < 4) (hFst : Fst q) (hto : to < 3600) (hfr : fr ≤ 3600) (hpl : ∀ r T, r < T → T ≤ 366 → pl r T = (!decide (q.2.1 7 (366 + r + 1) = 0) || !decide (q.2.1 7 (366 + r - T) = 0))) (hR : ∀ d, R d = true → fr ≤ moD d ∧ moD d ≤ to) (hW : WB (q.2.1 14) R) : ∃ q2, moQ1_choosePlaces n ρ (nI fr) (nI to) q = some q2 ∧ KL q q2 ∧ WB (q2.2.1 14) (chD R (q.2.2.2 2) true pl) := by
  have r0 : ∀ e, e < cumN fr → R e = false := fun e he => by
    cases gr : R e with
    | false => rfl
    | true =>
      have := (hR e gr).1
      have := cum_lt_iff.mp he
      omega
  unfold moQ1_choosePlaces
  refine ch10 hn hρ hF4 hFst hto hpl hR n fr (-1) (2 ^ 31) (s4S q 18 0) hfr (by omega) KL.rf.S ⟨Or.inr ⟨rfl, rfl, r0⟩, ?_, fun d hd hdp => ?_, ?_⟩
  · rw [cN_none (fun e he => by unfold DP; rw [r0 e he]; rfl)]; rfl
  · unfold DP at hdp
    rw [r0 d hd] at hdp
    cases hdp
  · refine WB.congr (G := R) hW (fun d hd => ?_)
    unfold RI
    by_cases cd : d < cumN fr
    · rw [if_pos cd, r0 d cd]
      unfold chD
      rw [r0 d cd]; rfl
    · rw [if_neg cd, decide_eq_true (cum_le_iff.mp (show cumN fr ≤ d by omega)), Bool.true_and]
-- the ends
theorem cN_min {f : Nat → Bool} {c : Nat} : ∀ n, cN (fun j => f j && decide (cN f j < c)) n = min c (cN f n) := by
  intro n
  induction n with
  | zero => exact (Nat.min_zero c).symm
  | succ n ih =>
    rw [cN_s, cN_s, ih]
    show min c (cN f n) + (if (f n && decide (cN f n < c)) = true then 1 else 0) = min c (cN f n + (if f n = true then 1 else 0))
    cases f n with
    | false => rfl
    | true =>
      by_cases g : cN f n < c
      · rw [decide_eq_true g]
        show min c (cN f n) + 1 = min c (cN f n + 1)
        omega
      · rw [decide_eq_false g]
        show min c (cN f n) + 0 = min c (cN f n + 1)
        omega
theorem cut32 {n ρ fr to ms ks mu ku C : Nat} {q : Pc4} {G : Nat → Bool} (hn : 200000 ≤ n) (hρ : q.2.2.2 1 = ρ) (hto : to < 3600) (hs : isD (q.1 15) ms ks) (hu : isD (q.1 5) mu ku) (hC : C ≤ 1000000) (Y : Nat → Bool) (hY : ∀ d, Y d = (G d && decide (cumN ms + ks ≤ d ∧ d ≤ cumN mu + ku))) (hG : ∀ d, G d = true → moD d ≤ to) : ∀ (fuel m : Nat) (q1 : Pc4), m ≤ 3600 → 3600 - m < fuel → KL q q1 → WB (q1.2.1 14) (fun d => if moD d < m then fB Y C d else G d) → ∃ q2, moQ1_cutEnds_L32 n ρ (fun q_25 => (some q_25)) fuel (nI to) (nI ms) (nI mu) (nI (C - cN Y (cumN m))) (nI m) q1 = some q2 ∧ KL q q2 ∧ WB (q2.2.1 14) (fB Y C) := by
  have hms := hs.1
  have hmu := hu.1
  intro fuel
  induction fuel with
  | zero => intro m _ _ h; omega
  | succ u ih =>
    intro m q1 hm hf hk hW
    rw [moQ1_cutEnds_L32]
    by_cases c : to < m
    · rw [if_pos (nI_lt c (by omega))]
      refine ⟨q1, rfl, hk, hW.congr (fun d hd => ?_)⟩
      show _ = (if moD d < m then fB Y C d else G d)
      by_cases cd : moD d < m
      · rw [if_pos cd]
      · rw [if_neg cd]
        have hg : G d = false := by
          cases gr : G d with
          | false => rfl
          | true => have := hG d gr; omega
        unfold fB
        rw [hY, hg]; rfl
    · have hm3 : m < 3600 := by omega
      have hl := mlN_b m
      have hrow : ∀ j, j < 32 → bt (q1.2.1 14 m) j = (decide (j < mlN m) && G (cumN m + j)) := fun j hj => by
        rw [hW m hm3 j hj]
        by_cases cj : j < mlN m
        · show (decide (j < mlN m) && (if moD (cumN m + j) < m then fB Y C (cumN m + j) else G (cumN m + j))) = _
          rw [moD_mk cj, if_neg (Nat.lt_irrefl m)]
        · rw [decide_eq_false cj]; rfl
      -- a month whose word is w
      have month : ∀ (w v : Int32), (∀ j, j < 32 → bt v j = (decide (j < mlN m) && Y (cumN m + j))) → moQ0_lowest n v (nI (C - cN Y (cumN m))) = some w → (∀ j, j < 32 → bt w j = (bt v j && decide (cN (bt v) j < C - cN Y (cumN m)))) → ∃ q2, (bd1 (moQJ6_bitCount_0f7a4 n (r4A (s4A q1 14 (nI m) w) 14 (nI m))) fun r_14 => (moQ1_cutEnds_L32 n ρ (fun q_25 => (some q_25)) u (nI to) (nI ms) (nI mu) (nI (C - cN Y (cumN m)) - r_14) (nI m + 1) (s4A q1 14 (nI m) w))) = some q2 ∧ KL q q2 ∧ WB (q2.2.1 14) (fB Y C) := by
        intro w v hv ew hw
        have hpc := pc_m hv
        have hpw : pcN w = min (C - cN Y (cumN m)) (pcN v) := by
          unfold pcN
          rw [cN_congr (g := fun j => bt v j && decide (cN (bt v) j < C - cN Y (cumN m))) (fun i hi => hw i hi), cN_min]
        have h32 : pcN v ≤ 32 := cN_le _ _
        rw [r4n (by omega), s4A_k (by omega), upd_self, bitCount_n, b1, pk_sub (show pcN w ≤ C - cN Y (cumN m) by omega), nI_1, show C - cN Y (cumN m) - pcN w = C - cN Y (cumN (m + 1)) by omega]
        refine ih (m + 1) (s4A q1 14 (nI m) w) (by omega) (by omega) (hk.A (Or.inr rfl)) ?_
        rw [s4A_k (by omega)]
        refine hW.set (fun j hj => ?_) (fun d hd => ?_)
        · rw [hw j hj, hv j hj]
          by_cases cj : j < mlN m
          · show _ = (decide (j < mlN m) && (if moD (cumN m + j) < m + 1 then fB Y C (cumN m + j) else G (cumN m + j)))
            rw [moD_mk cj, if_pos (show m < m + 1 by omega), decide_eq_true cj]
            unfold fB
            rw [hpc.2 j (by omega)]
            rw [Bool.true_and, Bool.true_and]
            congr 1
            exact decide_eq_decide.mpr ⟨fun g => by omega, fun g => by omega⟩
          · rw [decide_eq_false cj]; rfl
        · show (if moD d < m + 1 then fB Y C d else G d) = (if moD d < m then fB Y C d else G d)
          by_cases cd : moD d < m
          · rw [if_pos cd, if_pos (by omega)]
          · rw [if_neg cd, if_neg (by omega)]
      have out : (m < ms ∨ mu < m) → ∃ q2, moQ1_cutEnds_B56 n ρ (fun z21_2 z21_3 z21_4 z21_5 z21_6 q_21 => (moQ1_cutEnds_L32 n ρ (fun q_25 => (some q_25)) u z21_2 z21_3 z21_4 z21_5 z21_6 q_21)) (nI to) (nI ms) (nI mu) (nI (C - cN Y (cumN m))) (nI m) 1 q1 = some q2 ∧ KL q q2 ∧ WB (q2.2.1 14) (fB Y C) := by
        intro ho
        obtain ⟨w, ew, hw⟩ := lowest_n (n := n) (c := C - cN Y (cumN m)) (x := 0) hn (by omega)
        unfold moQ1_cutEnds_B56
        rw [if_neg n_10, ew, b1, hk.ge hρ, gi_in hm3 (by decide), (hk.A (k := 14) (i := nI m) (v := w) (Or.inr rfl)).ge hρ, gi_in hm3 (by decide)]
        refine month w 0 (fun j hj => ?_) ew hw
        rw [b_0]
        by_cases cj : j < mlN m
        · rw [hY, decide_eq_false (show ¬ (cumN ms + ks ≤ cumN m + j ∧ cumN m + j ≤ cumN mu + ku) from fun g => by
            rcases ho with ho | ho
            · have := cum_lt ho; omega
            · have := cum_lt ho
              have := hu.2.1
              omega)]; simp
        · rw [decide_eq_false cj]; rfl
      rw [if_neg (nI_nlt (by omega) (by omega))]
      by_cases c1 : m < ms
      · rw [if_pos (nI_lt c1 (by omega))]
        exact out (Or.inl c1)
      · rw [if_neg (nI_nlt (by omega) (by omega))]
        by_cases c2 : m ≤ mu
        · rw [if_pos (nI_le c2 (by omega))]
          obtain ⟨b, eb, hb⟩ := betw_n (n := n) hs hu (show ms ≤ m by omega) c2
          obtain ⟨w, ew, hw⟩ := lowest_n (n := n) (c := C - cN Y (cumN m)) (x := q1.2.1 14 m &&& b) hn (by omega)
          unfold moQ1_cutEnds_B56
          rw [if_pos rfl, hk.ge hρ, gi_in hm3 (by decide), show r4S q1 15 = q.1 15 from hk.1 15 (by decide), show r4S q1 5 = q.1 5 from hk.1 5 (by decide), eb, b1, r4n (by omega), ew, b1, hk.ge hρ, gi_in hm3 (by decide), (hk.A (k := 14) (i := nI m) (v := w) (Or.inr rfl)).ge hρ, gi_in hm3 (by decide)]
          refine month w (q1.2.1 14 m &&& b) (fun j hj => ?_) ew hw
          rw [b_and, hrow j hj]
          by_cases cj : j < mlN m
          · rw [decide_eq_true cj, hb j cj, hY]; rfl
          · rw [decide_eq_false cj]; rfl
        · rw [if_neg (nI_ge (by omega) (by omega))]
          exact out (Or.inr (by omega))
theorem cut_c {n ρ fr to ms ks mu ku C : Nat} {q : Pc4} {G : Nat → Bool} (hn : 200000 ≤ n) (hρ : q.2.2.2 1 = ρ) (hto : to < 3600) (hfr : fr ≤ 3600) (hs : isD (q.1 15) ms ks) (hu : isD (q.1 5) mu ku) (hC : C ≤ 1000000) (hqC : q.1 4 = nI C) (Y : Nat → Bool) (hY : ∀ d, Y d = (G d && decide (cumN ms + ks ≤ d ∧ d ≤ cumN mu + ku))) (hG : ∀ d, G d = true → fr ≤ moD d ∧ moD d ≤ to) (hW : WB (q.2.1 14) G) : ∃ q2, moQ1_cutEnds n ρ (nI fr) (nI to) q = some q2 ∧ KL q q2 ∧ WB (q2.2.1 14) (fB Y C) := by
  have g0 : ∀ d, moD d < fr → G d = false := fun d hd => by
    cases gr : G d with
    | false => rfl
    | true => have := (hG d gr).1; omega
  unfold moQ1_cutEnds
  rw [show moQ0_monthOf n (r4S q 15) = some (nI ms) from monthOf_d hs, b1, show moQ0_monthOf n (r4S q 5) = some (nI mu) from monthOf_d hu, b1, show r4S q 4 = nI C from hqC]
  have key := cut32 (n := n) (fr := fr) hn hρ hto hs hu hC Y hY (fun d hd => (hG d hd).2) n fr q hfr (by omega) KL.rf (hW.congr (fun d hd => by
    show (if moD d < fr then fB Y C d else G d) = G d
    by_cases cd : moD d < fr
    · rw [if_pos cd, g0 d cd]
      unfold fB
      rw [hY, g0 d cd]; rfl
    · rw [if_neg cd]))
  rw [cN_none (f := Y) (n := cumN fr) (fun e he => by rw [hY, g0 e (cum_lt_iff.mp he)]; rfl), Nat.sub_zero] at key
  exact key
