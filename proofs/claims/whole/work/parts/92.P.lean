/-! Pure: making all days of a rule: the class's rows, places. -/
def WB (row : Nat → Int32) (G : Nat → Bool) : Prop := ∀ m, m < 3600 → ∀ j, j < 32 → bt (row m) j = (decide (j < mlN m) && G (cumN m + j))
theorem WB.set {row : Nat → Int32} {G G' : Nat → Bool} {m : Nat} {w : Int32} (h : WB row G) (hw : ∀ j, j < 32 → bt w j = (decide (j < mlN m) && G' (cumN m + j))) (hG : ∀ d, moD d ≠ m → G' d = G d) : WB (upd row m w) G' := by
  intro m' hm' j hj
  by_cases c : m' = m
  · subst c; rw [upd_self]; exact hw j hj
  · rw [upd_ne c, h m' hm' j hj]
    by_cases cj : j < mlN m'
    · rw [hG _ (by rw [moD_mk cj]; exact c)]
    · rw [decide_eq_false cj]; rfl
theorem WB.congr {row : Nat → Int32} {G G' : Nat → Bool} (h : WB row G) (hG : ∀ d, d < 109573 → G' d = G d) : WB row G' := by
  intro m hm j hj
  rw [h m hm j hj]
  by_cases cj : j < mlN m
  · rw [hG _ (cum_in hm cj)]
  · rw [decide_eq_false cj]; rfl
def KL (q q' : Pc4) : Prop := (∀ i, i ≠ 18 → q'.1 i = q.1 i) ∧ (∀ a, a ≠ 10 → a ≠ 14 → q'.2.1 a = q.2.1 a) ∧ q'.2.2 = q.2.2
theorem KL.rf {q : Pc4} : KL q q := ⟨fun _ _ => rfl, fun _ _ _ => rfl, rfl⟩
theorem KL.trans {q q' q'' : Pc4} (h : KL q q') (h' : KL q' q'') : KL q q'' := ⟨fun i g => (h'.1 i g).trans (h.1 i g), fun a g g' => (h'.2.1 a g g').trans (h.2.1 a g g'), h'.2.2.trans h.2.2⟩
theorem KL.A {q q' : Pc4} {k : Nat} {i v : Int32} (h : KL q q') (hk : k = 10 ∨ k = 14) : KL q (s4A q' k i v) := ⟨h.1, fun a g g' => (s4A_ne (by omega)).trans (h.2.1 a g g'), h.2.2⟩
theorem KL.S {q q' : Pc4} {v : Int32} (h : KL q q') : KL q (s4S q' 18 v) := ⟨fun i g => (upd_ne g).trans (h.1 i g), h.2.1, h.2.2⟩
theorem KL.suE {q q' : Pc4} {ms ks d : Nat} (h : KL q q') : su q' ms ks d = su q ms ks d := by
  unfold su mOk dOk wOk nOk inMo hsB
  rw [h.2.2, h.1 2 (by decide), h.1 6 (by decide), h.1 7 (by decide), h.1 8 (by decide), h.1 9 (by decide), h.1 10 (by decide)]
theorem KL.cf {q q' : Pc4} {ms ks : Nat} (h : KL q q') (hc : CF q ms ks) : CF q' ms ks := by
  unfold CF Fst at *
  rw [h.2.2, h.2.1 3 (by decide) (by decide), h.1 15 (by decide), h.1 9 (by decide)]
  exact hc
theorem KL.ci {q q' : Pc4} {I : Int32} {S : Nat} (h : KL q q') (hc : CI q I S) : CI q' I S := by
  unfold CI at *
  rw [h.2.2, h.1 16 (by decide), h.1 17 (by decide)]
  exact hc
theorem fill93 {α : Type} {n ρ fr to ms ks : Nat} {I : Int32} {q : Pc4} {K0 : Int32 → Int32 → Pc4 → Option α} (hn : 200000 ≤ n) (hto : to < 3600) (h : CF q ms ks) (hI : CI q I (cumN ms + ks)) (D : Nat → Bool) (hD : ∀ d, D d = (cc (q.2.2.2 2) I (cumN ms + ks) d && su q ms ks d)) : ∀ (fuel m : Nat) (q1 : Pc4), fr ≤ m → m ≤ 3600 → 3600 - m < fuel → KL q q1 → WB (q1.2.1 14) (fun d => D d && decide (fr ≤ moD d ∧ moD d < m ∧ moD d ≤ to)) → ∃ q2, moQ1_fillRow_L93 n ρ K0 fuel (nI fr) (nI to) (nI m) q1 = K0 (nI fr) (nI to) q2 ∧ KL q q2 ∧ WB (q2.2.1 14) (fun d => D d && decide (fr ≤ moD d ∧ moD d ≤ to)) := by
  intro fuel
  induction fuel with
  | zero => intro m _ _ _ h; omega
  | succ u ih =>
    intro m q1 hfm hm hf hk hW
    rw [moQ1_fillRow_L93]
    by_cases c : to < m
    · rw [if_pos (nI_lt c (by omega))]
      refine ⟨q1, rfl, hk, hW.congr (fun d hd => ?_)⟩
      congr 1
      exact decide_eq_decide.mpr ⟨fun g => by omega, fun g => by omega⟩
    · have hm3 : m < 3600 := by omega
      obtain ⟨w, ew, hw⟩ := counted_c (n := n) (ρ := ρ) hn (hk.cf h) (hk.ci hI) hm3
      rw [if_neg (nI_nlt (by omega) (by omega)), ew, b1, gi_in hm3 (by decide), nI_1]
      refine ih (m + 1) (s4A q1 14 (nI m) w) (by omega) (by omega) (by omega) (hk.A (Or.inr rfl)) ?_
      rw [s4A_k (by omega)]
      refine hW.set (fun j hj => ?_) (fun d hd => ?_)
      · rw [hw j hj]
        by_cases cj : j < mlN m
        · rw [moD_mk cj, decide_eq_true (show fr ≤ m ∧ m < m + 1 ∧ m ≤ to by omega), Bool.and_true, hD, hk.suE, hk.2.2]
        · rw [decide_eq_false cj]; rfl
      · congr 1
        exact decide_eq_decide.mpr ⟨fun g => by omega, fun g => by omega⟩
-- places
def RI (R : Nat → Bool) (F x c P : Nat) (pl : Nat → Nat → Bool) (d : Nat) : Bool := if d < x then (chD R F true pl d && !decide (pe F d = P)) else (decide (c ≤ moD d) && R d)
def GA (R : Nat → Bool) (F x P : Nat) (arr : Nat → Int32) : Prop := ∀ d, d < x → DP R F P d = true → arr (cN (DP R F P) d) = nI (32 * moD d + (d - cumN (moD d)))
def PI (R : Nat → Bool) (F x P : Nat) (x3 : Int32) : Prop := (x3 = nI P ∧ (∃ e, e < x ∧ pe F e = P) ∧ P < 2 ^ 30 ∧ ∀ e, e < x → R e = true → pe F e ≤ P) ∨ (x3 = -1 ∧ P = 2 ^ 31 ∧ ∀ e, e < x → R e = false)
theorem code_n {d : Nat} (hd : d < 109573) : nI (32 * moD d + (d - cumN (moD d))) / (32 : Int32) = nI (moD d) ∧ rmI (nI (32 * moD d + (d - cumN (moD d)))) 32 = nI (d - cumN (moD d)) := by
  have hm := moD_lt hd
  have hk := dv_k31 d
  constructor
  · rw [show nI (32 * moD d + (d - cumN (moD d))) / (32 : Int32) = nI ((32 * moD d + (d - cumN (moD d))) / 32) from pk_div (by omega) (by decide) (by decide), show (32 * moD d + (d - cumN (moD d))) / 32 = moD d by omega]
  · rw [show rmI (nI (32 * moD d + (d - cumN (moD d)))) 32 = nI ((32 * moD d + (d - cumN (moD d))) % 32) from rm_n (by omega) (by decide) (by decide), show (32 * moD d + (d - cumN (moD d))) % 32 = d - cumN (moD d) by omega]
theorem chosen_c {n i g : Nat} {q : Pc4} {pl : Nat → Nat → Bool} (hpl : ∀ r T, r < T → T ≤ 366 → pl r T = (!decide (q.2.1 7 (366 + r + 1) = 0) || !decide (q.2.1 7 (366 + r - T) = 0))) (hi : i < g) (hg : g ≤ 366) : moQ5_isChosen n (nI i) (nI g) q = some (if pl i g = true then 1 else 0) := by
  unfold moQ5_isChosen
  rw [show (366 : Int32) + nI i = nI (366 + i) from nI_add 366 i, nI_1, pk_sub (show g ≤ 366 + i by omega), gi_in (by omega) (by decide), gi_in (by omega) (by decide), r4n (by omega), r4n (by omega), hpl i g hi hg]
  by_cases t1 : q.2.1 7 (366 + i + 1) = 0
  · rw [if_pos t1, decide_eq_true t1]
    by_cases t2 : q.2.1 7 (366 + i - g) = 0
    · rw [if_pos t2, decide_eq_true t2]; rfl
    · rw [if_neg t2, decide_eq_false t2]; rfl
  · rw [if_neg t1, decide_eq_false t1]; rfl
/-- the days of a period that is through -/
theorem keep_c {n ρ x c P : Nat} {q : Pc4} {R : Nat → Bool} {pl : Nat → Nat → Bool} (hn : 200000 ≤ n) (hρ : q.2.2.2 1 = ρ) (hx : x ≤ 109573) (F : Nat) (hpl : ∀ r T, r < T → T ≤ 366 → pl r T = (!decide (q.2.1 7 (366 + r + 1) = 0) || !decide (q.2.1 7 (366 + r - T) = 0))) (hg : q.1 18 = nI (cN (DP R F P) x)) (hA : GA R F x P (q.2.1 10)) (hW : WB (q.2.1 14) (RI R F x c P pl)) (hno : ∀ e, x ≤ e → e < 109573 → R e = true → pe F e ≠ P) : ∃ q', moQ1_keepChosen n ρ q = some q' ∧ KL q q' ∧ q'.1 18 = 0 ∧ WB (q'.2.1 14) (fun d => if d < x then chD R F true pl d else (decide (c ≤ moD d) && R d)) := by
  have hg366 := dp_366 (D := R) (F := F) (P := P) (n := x)
  have htot : cN (DP R F P) 109573 = cN (DP R F P) x := cN_tail hx (fun e g1 g2 => by
    unfold DP
    cases gr : R e with
    | false => rfl
    | true => rw [decide_eq_false (hno e g1 g2 gr)]; rfl)
  have key : ∀ (fuel i : Nat) (q1 : Pc4), i ≤ cN (DP R F P) x → cN (DP R F P) x - i < fuel → KL q q1 → q1.1 18 = q.1 18 → q1.2.1 10 = q.2.1 10 → WB (q1.2.1 14) (fun d => if d < x then (chD R F true pl d && (!decide (pe F d = P) || decide (cN (DP R F P) d < i))) else (decide (c ≤ moD d) && R d)) → ∃ q', moQ1_keepChosen_L2 n ρ (fun q_10 => (some (s4S q_10 18 0))) fuel (nI i) q1 = some q' ∧ KL q q' ∧ q'.1 18 = 0 ∧ WB (q'.2.1 14) (fun d => if d < x then chD R F true pl d else (decide (c ≤ moD d) && R d)) := by
    intro fuel
    induction fuel with
    | zero => intro i _ _ h; omega
    | succ u ih =>
      intro i q1 hi hf hk h18 h10 hW1
      rw [moQ1_keepChosen_L2, show r4S q1 18 = nI (cN (DP R F P) x) from h18.trans hg]
      by_cases ci : cN (DP R F P) x ≤ i
      · rw [if_pos (nI_le ci (by omega))]
        refine ⟨_, rfl, hk.S, rfl, WB.congr (G := fun d => if d < x then (chD R F true pl d && (!decide (pe F d = P) || decide (cN (DP R F P) d < i))) else (decide (c ≤ moD d) && R d)) hW1 (fun d hd => ?_)⟩
        show (if d < x then chD R F true pl d else (decide (c ≤ moD d) && R d)) = (if d < x then (chD R F true pl d && (!decide (pe F d = P) || decide (cN (DP R F P) d < i))) else (decide (c ≤ moD d) && R d))
        by_cases cx : d < x
        · rw [if_pos cx, if_pos cx]
          cases gr : R d with
          | false => unfold chD; rw [gr]; rfl
          | true =>
            by_cases cp : pe F d = P
            · have : DP R F P d = true := by unfold DP; rw [gr, decide_eq_true cp]; rfl
              have := cN_lt this cx
              rw [decide_eq_true (show cN (DP R F P) d < i by omega)]; simp
            · rw [decide_eq_false cp]; simp
        · rw [if_neg cx, if_neg cx]
      · have hil : i < cN (DP R F P) x := by omega
        obtain ⟨d0, e1, e2, e3⟩ := cN_hit hil
        have hd9 : d0 < 109573 := by omega
        have hm := moD_lt hd9
        have hk31 := dv_k31 d0
        have hDd : R d0 = true ∧ pe F d0 = P := by
          unfold DP at e2
          rw [Bool.and_eq_true, decide_eq_true_iff] at e2
          exact e2
        have hch : chD R F true pl d0 = pl i (cN (DP R F P) x) := by unfold chD; rw [hDd.1, hDd.2, e3, htot]; rfl
        have hcode : q1.2.1 10 i = nI (32 * moD d0 + (d0 - cumN (moD d0))) := by rw [h10, ← e3]; exact hA d0 e1 e2
        rw [if_neg (nI_ge (by omega) (by omega)), chosen_c (q := q1) (by rw [hk.2.1 7 (by decide) (by decide)]; exact hpl) hil hg366, b1, nI_1]
        have step : ∀ (w : Nat → Int32), WB w (fun d => if d < x then (chD R F true pl d && (!decide (pe F d = P) || decide (cN (DP R F P) d < i + 1))) else (decide (c ≤ moD d) && R d)) → True := fun _ _ => trivial
        cases gp : pl i (cN (DP R F P) x) with
        | false =>
          rw [if_pos (show (if false = true then (1 : Int32) else 0) = 0 by decide)]
          refine ih (i + 1) q1 (by omega) (by omega) hk h18 h10 (hW1.congr (fun d hd => ?_))
          show (if d < x then (chD R F true pl d && (!decide (pe F d = P) || decide (cN (DP R F P) d < i + 1))) else (decide (c ≤ moD d) && R d)) = (if d < x then (chD R F true pl d && (!decide (pe F d = P) || decide (cN (DP R F P) d < i))) else (decide (c ≤ moD d) && R d))
          by_cases cx : d < x
          · rw [if_pos cx, if_pos cx]
            by_cases ce : d = d0
            · subst ce; rw [hch, gp]; rfl
            · cases gr : R d with
              | false => unfold chD; rw [gr]; rfl
              | true =>
                by_cases cp : pe F d = P
                · have hdp : DP R F P d = true := by unfold DP; rw [gr, decide_eq_true cp]; rfl
                  have : cN (DP R F P) d ≠ i := fun g => ce (cN_inj hdp e2 (by rw [g, e3]))
                  congr 2
                  exact decide_eq_decide.mpr ⟨fun g => by omega, fun g => by omega⟩
                · rw [decide_eq_false cp]; simp
          · rw [if_neg cx, if_neg cx]
        | true =>
          rw [if_neg (show ¬ (if true = true then (1 : Int32) else 0) = 0 by decide), gi_in (by omega) (by decide), gi_in (by omega) (by decide), show r4I q1 1 = ρ from by show q1.2.2.2 1 = ρ; rw [hk.2.2]; exact hρ, r4n (by omega), hcode, (code_n hd9).1, (code_n hd9).2, show ge ρ ρ (gi (nI (moD d0)) 3600 (ge ρ ρ (gi (nI (moD d0)) 3600 (moQ1_keepChosen_L2 n ρ (fun q_10 => (some (s4S q_10 18 0))) u (nI (i + 1)) (s4A q1 14 (nI (moD d0)) ((r4A q1 14 (nI (moD d0))) ||| (slI 1 (nI (d0 - cumN (moD d0)))))))))) = _ from if_pos rfl, gi_in hm (by decide), show ge ρ ρ (gi (nI (moD d0)) 3600 (moQ1_keepChosen_L2 n ρ (fun q_10 => (some (s4S q_10 18 0))) u (nI (i + 1)) (s4A q1 14 (nI (moD d0)) ((r4A q1 14 (nI (moD d0))) ||| (slI 1 (nI (d0 - cumN (moD d0)))))))) = _ from if_pos rfl, gi_in hm (by decide), r4n (by omega)]
          refine ih (i + 1) (s4A q1 14 (nI (moD d0)) ((q1.2.1 14 (moD d0)) ||| (slI 1 (nI (d0 - cumN (moD d0)))))) (by omega) (by omega) (hk.A (Or.inr rfl)) h18 ((s4A_ne (by decide)).trans h10) ?_
          rw [s4A_k (by omega)]
          intro m' hm' j hj
          have hl := mlN_b m'
          by_cases cm : m' = moD d0
          · subst cm
            rw [upd_self, or_bt (by omega) hj, hW1 _ hm' j hj]
            by_cases cj : j < mlN (moD d0)
            · have hmk : moD (cumN (moD d0) + j) = moD d0 := moD_mk cj
              rw [decide_eq_true cj, Bool.true_and, Bool.true_and]
              show ((if cumN (moD d0) + j < x then (chD R F true pl (cumN (moD d0) + j) && (!decide (pe F (cumN (moD d0) + j) = P) || decide (cN (DP R F P) (cumN (moD d0) + j) < i))) else (decide (c ≤ moD (cumN (moD d0) + j)) && R (cumN (moD d0) + j))) || decide (j = d0 - cumN (moD d0))) = (if cumN (moD d0) + j < x then (chD R F true pl (cumN (moD d0) + j) && (!decide (pe F (cumN (moD d0) + j) = P) || decide (cN (DP R F P) (cumN (moD d0) + j) < i + 1))) else (decide (c ≤ moD (cumN (moD d0) + j)) && R (cumN (moD d0) + j)))
              have hs := (moD_s d0).1
              by_cases ce : cumN (moD d0) + j = d0
              · rw [ce, if_pos e1, if_pos e1, decide_eq_true (show j = d0 - cumN (moD d0) by omega), hch, gp, e3, decide_eq_true (show i < i + 1 by omega)]; simp
              · rw [decide_eq_false (show ¬ j = d0 - cumN (moD d0) by omega), Bool.or_false]
                by_cases cx : cumN (moD d0) + j < x
                · rw [if_pos cx, if_pos cx]
                  cases gr : R (cumN (moD d0) + j) with
                  | false => unfold chD; rw [gr]; rfl
                  | true =>
                    by_cases cp : pe F (cumN (moD d0) + j) = P
                    · have hdp : DP R F P (cumN (moD d0) + j) = true := by unfold DP; rw [gr, decide_eq_true cp]; rfl
                      have : cN (DP R F P) (cumN (moD d0) + j) ≠ i := fun g => ce (cN_inj hdp e2 (by rw [g, e3]))
                      congr 2
                      exact decide_eq_decide.mpr ⟨fun g => by omega, fun g => by omega⟩
                    · rw [decide_eq_false cp]; simp
                · rw [if_neg cx, if_neg cx]
            · rw [decide_eq_false cj, decide_eq_false (show ¬ j = d0 - cumN (moD d0) from fun g => cj (by rw [g]; exact kd_lt d0))]; rfl
          · rw [upd_ne cm, hW1 m' hm' j hj]
            by_cases cj : j < mlN m'
            · rw [decide_eq_true cj, Bool.true_and, Bool.true_and]
              show (if cumN m' + j < x then (chD R F true pl (cumN m' + j) && (!decide (pe F (cumN m' + j) = P) || decide (cN (DP R F P) (cumN m' + j) < i))) else (decide (c ≤ moD (cumN m' + j)) && R (cumN m' + j))) = (if cumN m' + j < x then (chD R F true pl (cumN m' + j) && (!decide (pe F (cumN m' + j) = P) || decide (cN (DP R F P) (cumN m' + j) < i + 1))) else (decide (c ≤ moD (cumN m' + j)) && R (cumN m' + j)))
              have ce : cumN m' + j ≠ d0 := fun g => cm (by rw [← g, moD_mk cj])
              by_cases cx : cumN m' + j < x
              · rw [if_pos cx, if_pos cx]
                cases gr : R (cumN m' + j) with
                | false => unfold chD; rw [gr]; rfl
                | true =>
                  by_cases cp : pe F (cumN m' + j) = P
                  · have hdp : DP R F P (cumN m' + j) = true := by unfold DP; rw [gr, decide_eq_true cp]; rfl
                    have : cN (DP R F P) (cumN m' + j) ≠ i := fun g => ce (cN_inj hdp e2 (by rw [g, e3]))
                    congr 2
                    exact decide_eq_decide.mpr ⟨fun g => by omega, fun g => by omega⟩
                  · rw [decide_eq_false cp]; simp
              · rw [if_neg cx, if_neg cx]
            · rw [decide_eq_false cj]; rfl
  unfold moQ1_keepChosen
  refine key n 0 q (Nat.zero_le _) (by omega) KL.rf rfl rfl (hW.congr (fun d hd => ?_))
  unfold RI
  show (if d < x then (chD R F true pl d && (!decide (pe F d = P) || decide (cN (DP R F P) d < 0))) else (decide (c ≤ moD d) && R d)) = _
  rw [decide_eq_false (show ¬ cN (DP R F P) d < 0 by omega), Bool.or_false]
