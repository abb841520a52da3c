/-! Pure: reading a rule: forgetting, what goes together, all. -/
theorem fg_L44 {α : Type} {n : Nat} {K0 : Pc3 → Option α} : ∀ (fuel i : Nat) (q : Pc3), i ≤ 749 → 749 - i < fuel → (∀ j, j < i → q.2.1 16 j = 0) → ∃ q', moM_forget_L44 n K0 fuel (nI i) q = K0 q' ∧ (∀ j, j < 749 → q'.2.1 16 j = 0) ∧ q'.1 = q.1 ∧ (∀ a, a ≠ 16 → q'.2.1 a = q.2.1 a) ∧ q'.2.2 = q.2.2 := by
  intro fuel
  induction fuel with
  | zero => intro i q _ h; omega
  | succ u ih =>
    intro i q hi hf hq
    rw [moM_forget_L44]
    by_cases c : 749 ≤ i
    · rw [if_pos (show (749 : Int32) ≤ nI i from nI_le (a := 749) c (by omega))]
      exact ⟨q, rfl, fun j hj => hq j (by omega), rfl, fun _ _ => rfl, rfl⟩
    · rw [if_neg (show ¬ (749 : Int32) ≤ nI i from nI_ge (b := 749) (by omega) (by decide)), gi_in (by omega) (by decide), nb1.2.1, nI_1]
      obtain ⟨q', e, h1, h2, h3, h4⟩ := ih (i + 1) (sA q 16 (nI i) 0) (by omega) (by omega) (fun j hj => by
        rw [sA_k (by omega)]
        by_cases g : j = i
        · subst g; rw [upd_self]
        · rw [upd_ne g]; exact hq j (by omega))
      exact ⟨q', e, h1, h2, fun a ha => (h3 a ha).trans (sA_ne ha), h4⟩
theorem fg_L66 {α : Type} {n : Nat} {K0 : Pc3 → Option α} : ∀ (fuel i : Nat) (q : Pc3), i ≤ 733 → 733 - i < fuel → (∀ j, j < i → q.2.1 15 j = 0) → ∃ q', moM_forget_L66 n K0 fuel (nI i) q = K0 q' ∧ (∀ j, j < 733 → q'.2.1 15 j = 0) ∧ q'.1 = q.1 ∧ (∀ a, a ≠ 15 → q'.2.1 a = q.2.1 a) ∧ q'.2.2 = q.2.2 := by
  intro fuel
  induction fuel with
  | zero => intro i q _ h; omega
  | succ u ih =>
    intro i q hi hf hq
    rw [moM_forget_L66]
    by_cases c : 733 ≤ i
    · rw [if_pos (show (733 : Int32) ≤ nI i from nI_le (a := 733) c (by omega))]
      exact ⟨q, rfl, fun j hj => hq j (by omega), rfl, fun _ _ => rfl, rfl⟩
    · rw [if_neg (show ¬ (733 : Int32) ≤ nI i from nI_ge (b := 733) (by omega) (by decide)), gi_in (by omega) (by decide), nb1.2.1, nI_1]
      obtain ⟨q', e, h1, h2, h3, h4⟩ := ih (i + 1) (sA q 15 (nI i) 0) (by omega) (by omega) (fun j hj => by
        rw [sA_k (by omega)]
        by_cases g : j = i
        · subst g; rw [upd_self]
        · rw [upd_ne g]; exact hq j (by omega))
      exact ⟨q', e, h1, h2, fun a ha => (h3 a ha).trans (sA_ne ha), h4⟩
theorem fg_L88 {α : Type} {n : Nat} {K0 : Pc3 → Option α} : ∀ (fuel i : Nat) (q : Pc3), i ≤ 63 → 63 - i < fuel → (∀ j, j < i → q.2.1 14 j = 0) → ∃ q', moM_forget_L88 n K0 fuel (nI i) q = K0 q' ∧ (∀ j, j < 63 → q'.2.1 14 j = 0) ∧ q'.1 = q.1 ∧ (∀ a, a ≠ 14 → q'.2.1 a = q.2.1 a) ∧ q'.2.2 = q.2.2 := by
  intro fuel
  induction fuel with
  | zero => intro i q _ h; omega
  | succ u ih =>
    intro i q hi hf hq
    rw [moM_forget_L88]
    by_cases c : 63 ≤ i
    · rw [if_pos (show (63 : Int32) ≤ nI i from nI_le (a := 63) c (by omega))]
      exact ⟨q, rfl, fun j hj => hq j (by omega), rfl, fun _ _ => rfl, rfl⟩
    · rw [if_neg (show ¬ (63 : Int32) ≤ nI i from nI_ge (b := 63) (by omega) (by decide)), gi_in (by omega) (by decide), nb1.2.1, nI_1]
      obtain ⟨q', e, h1, h2, h3, h4⟩ := ih (i + 1) (sA q 14 (nI i) 0) (by omega) (by omega) (fun j hj => by
        rw [sA_k (by omega)]
        by_cases g : j = i
        · subst g; rw [upd_self]
        · rw [upd_ne g]; exact hq j (by omega))
      exact ⟨q', e, h1, h2, fun a ha => (h3 a ha).trans (sA_ne ha), h4⟩
theorem fg_L109 {α : Type} {n : Nat} {K0 : Pc3 → Option α} : ∀ (fuel i : Nat) (q : Pc3), i ≤ 13 → 13 - i < fuel → (∀ j, j < i → q.2.1 13 j = 0) → ∃ q', moM_forget_L109 n K0 fuel (nI i) q = K0 q' ∧ (∀ j, j < 13 → q'.2.1 13 j = 0) ∧ q'.1 = q.1 ∧ (∀ a, a ≠ 13 → q'.2.1 a = q.2.1 a) ∧ q'.2.2 = q.2.2 := by
  intro fuel
  induction fuel with
  | zero => intro i q _ h; omega
  | succ u ih =>
    intro i q hi hf hq
    rw [moM_forget_L109]
    by_cases c : 13 ≤ i
    · rw [if_pos (show (13 : Int32) ≤ nI i from nI_le (a := 13) c (by omega))]
      exact ⟨q, rfl, fun j hj => hq j (by omega), rfl, fun _ _ => rfl, rfl⟩
    · rw [if_neg (show ¬ (13 : Int32) ≤ nI i from nI_ge (b := 13) (by omega) (by decide)), gi_in (by omega) (by decide), nb1.2.1, nI_1]
      obtain ⟨q', e, h1, h2, h3, h4⟩ := ih (i + 1) (sA q 13 (nI i) 0) (by omega) (by omega) (fun j hj => by
        rw [sA_k (by omega)]
        by_cases g : j = i
        · subst g; rw [upd_self]
        · rw [upd_ne g]; exact hq j (by omega))
      exact ⟨q', e, h1, h2, fun a ha => (h3 a ha).trans (sA_ne ha), h4⟩
theorem fg_L130 {α : Type} {n : Nat} {K0 : Pc3 → Option α} : ∀ (fuel i : Nat) (q : Pc3), i ≤ 8 → 8 - i < fuel → (∀ j, j < i → q.2.1 8 j = 0) → ∃ q', moM_forget_L130 n K0 fuel (nI i) q = K0 q' ∧ (∀ j, j < 8 → q'.2.1 8 j = 0) ∧ q'.1 = q.1 ∧ (∀ a, a ≠ 8 → q'.2.1 a = q.2.1 a) ∧ q'.2.2 = q.2.2 := by
  intro fuel
  induction fuel with
  | zero => intro i q _ h; omega
  | succ u ih =>
    intro i q hi hf hq
    rw [moM_forget_L130]
    by_cases c : 8 ≤ i
    · rw [if_pos (show (8 : Int32) ≤ nI i from nI_le (a := 8) c (by omega))]
      exact ⟨q, rfl, fun j hj => hq j (by omega), rfl, fun _ _ => rfl, rfl⟩
    · rw [if_neg (show ¬ (8 : Int32) ≤ nI i from nI_ge (b := 8) (by omega) (by decide)), gi_in (by omega) (by decide), nb1.2.1, nI_1]
      obtain ⟨q', e, h1, h2, h3, h4⟩ := ih (i + 1) (sA q 8 (nI i) 0) (by omega) (by omega) (fun j hj => by
        rw [sA_k (by omega)]
        by_cases g : j = i
        · subst g; rw [upd_self]
        · rw [upd_ne g]; exact hq j (by omega))
      exact ⟨q', e, h1, h2, fun a ha => (h3 a ha).trans (sA_ne ha), h4⟩
theorem forget_r {n : Nat} {q : Pc3} (hn : 200000 ≤ n) : ∃ q', moM_forget n q = some q' ∧ FM q q' ∧ q'.1 5 = 0 ∧ q'.1 6 = -1 ∧ q'.1 7 = 0 ∧ q'.1 10 = 1 ∧ q'.1 11 = 1000000 ∧ q'.1 12 = 109573 ∧ q'.1 17 = 0 ∧ (∀ j, j < 749 → q'.2.1 16 j = 0) ∧ (∀ j, j < 733 → q'.2.1 15 j = 0) ∧ (∀ j, j < 63 → q'.2.1 14 j = 0) ∧ (∀ j, j < 13 → q'.2.1 13 j = 0) ∧ (∀ j, j < 8 → q'.2.1 8 j = 0) := by
  unfold moM_forget
  have hF0 : FM q (sS (sS (sS (sS (sS (sS (sS (sS q 5 0) 6 (-1)) 7 0) 9 (-1)) 10 1) 11 1000000) 12 109573) 17 0) := (((((((FM.rf.S (by decide)).S (by decide)).S (by decide)).S (by decide)).S (by decide)).S (by decide)).S (by decide)).S (by decide)
  generalize hq0 : (sS (sS (sS (sS (sS (sS (sS (sS q 5 0) 6 (-1)) 7 0) 9 (-1)) 10 1) 11 1000000) 12 109573) 17 0) = q0 at *
  have s0 : q0.1 5 = 0 ∧ q0.1 6 = -1 ∧ q0.1 7 = 0 ∧ q0.1 10 = 1 ∧ q0.1 11 = 1000000 ∧ q0.1 12 = 109573 ∧ q0.1 17 = 0 := by subst hq0; exact ⟨rfl, rfl, rfl, rfl, rfl, rfl, rfl⟩
  obtain ⟨q1, e1, a1, b1', c1, d1⟩ := fg_L44 (n := n) (K0 := fun q_3 => (moM_forget_L66 n (fun q_6 => (moM_forget_L88 n (fun q_9 => (moM_forget_L109 n (fun q_12 => (moM_forget_L130 n (fun q_15 => (some q_15)) n 0 q_12)) n 0 q_9)) n 0 q_6)) n 0 q_3)) n 0 q0 (by omega) (by omega) (fun j hj => by omega)
  obtain ⟨q2, e2, a2, b2', c2, d2⟩ := fg_L66 (n := n) (K0 := fun q_6 => (moM_forget_L88 n (fun q_9 => (moM_forget_L109 n (fun q_12 => (moM_forget_L130 n (fun q_15 => (some q_15)) n 0 q_12)) n 0 q_9)) n 0 q_6)) n 0 q1 (by omega) (by omega) (fun j hj => by omega)
  obtain ⟨q3, e3, a3, b3, c3, d3⟩ := fg_L88 (n := n) (K0 := fun q_9 => (moM_forget_L109 n (fun q_12 => (moM_forget_L130 n (fun q_15 => (some q_15)) n 0 q_12)) n 0 q_9)) n 0 q2 (by omega) (by omega) (fun j hj => by omega)
  obtain ⟨q4, e4, a4, b4, c4, d4⟩ := fg_L109 (n := n) (K0 := fun q_12 => (moM_forget_L130 n (fun q_15 => (some q_15)) n 0 q_12)) n 0 q3 (by omega) (by omega) (fun j hj => by omega)
  obtain ⟨q5, e5, a5, b5, c5, d5⟩ := fg_L130 (n := n) (K0 := fun q_15 => some q_15) n 0 q4 (by omega) (by omega) (fun j hj => by omega)
  have es : q5.1 = q0.1 := by rw [b5, b4, b3, b2', b1']
  refine ⟨q5, ?_, hF0.trans ⟨fun i _ => by rw [es], fun a ha => ?_, by rw [d5, d4, d3, d2, d1]⟩, by rw [es]; exact s0.1, by rw [es]; exact s0.2.1, by rw [es]; exact s0.2.2.1, by rw [es]; exact s0.2.2.2.1, by rw [es]; exact s0.2.2.2.2.1, by rw [es]; exact s0.2.2.2.2.2.1, by rw [es]; exact s0.2.2.2.2.2.2, ?_, ?_, ?_, ?_, a5⟩
  · exact e1.trans (e2.trans (e3.trans (e4.trans e5)))
  · have n8 : a ≠ 8 := fun e => by rw [e] at ha; cases ha
    have n13 : a ≠ 13 := fun e => by rw [e] at ha; cases ha
    have n14 : a ≠ 14 := fun e => by rw [e] at ha; cases ha
    have n15 : a ≠ 15 := fun e => by rw [e] at ha; cases ha
    have n16 : a ≠ 16 := fun e => by rw [e] at ha; cases ha
    rw [c5 a n8, c4 a n13, c3 a n14, c2 a n15, c1 a n16]
  · intro j hj; rw [c5 16 (by decide), c4 16 (by decide), c3 16 (by decide), c2 16 (by decide)]; exact a1 j hj
  · intro j hj; rw [c5 15 (by decide), c4 15 (by decide), c3 15 (by decide)]; exact a2 j hj
  · intro j hj; rw [c5 14 (by decide), c4 14 (by decide)]; exact a3 j hj
  · intro j hj; rw [c5 13 (by decide)]; exact a4 j hj
theorem fillL_L {α : Type} {n len : Nat} {v : Int64} {f : Nat → Int64} {K0 : (Nat → Int64) → Option α} (hl : len < 2 ^ 31) : ∀ (fuel i : Nat) (q : Nat → Int64), i ≤ len → len - i < fuel → (∀ j, q j = if j < i then v else f j) → ∃ g, moQJ7_fill_d0a16_L6 n len K0 fuel v (nI i) (nI len) q = K0 g ∧ ∀ j, g j = if j < len then v else f j := by
  intro fuel
  induction fuel with
  | zero => intro i q _ h; omega
  | succ u ih =>
    intro i q hi hf hq
    rw [moQJ7_fill_d0a16_L6]
    by_cases c : len ≤ i
    · have : i = len := by omega
      subst this
      rw [if_pos (nI_le (Nat.le_refl _) hl)]
      exact ⟨q, rfl, hq⟩
    · rw [if_neg (nI_ge (by omega) hl), gi_in (by omega) hl, nI_1, nI_clamp (by omega)]
      refine ih (i + 1) _ (by omega) (by omega) (fun j => ?_)
      by_cases g : j = i
      · subst g; rw [updL_self, if_pos (by omega)]
      · rw [updL_ne g, hq j]
        by_cases g2 : j < i
        · rw [if_pos g2, if_pos (by omega)]
        · rw [if_neg g2, if_neg (by omega)]
theorem fillL_n {n len : Nat} {v : Int64} {f : Nat → Int64} (hn : len < n) (hl : len < 2 ^ 31) : ∃ g, moQJ7_fill_d0a16 n len v f = some g ∧ ∀ j, g j = if j < len then v else f j :=
  fillL_L (n := n) (K0 := fun q_3 => some q_3) hl n 0 f (by omega) (by omega) (fun j => by rw [if_neg (by omega)])
theorem fillB_L {α : Type} {n len : Nat} {f : Nat → Int32} {K0 : (Nat → Int32) → Option α} (hl : len < 2 ^ 31) : ∀ (fuel i : Nat) (q : Nat → Int32), i ≤ len → len - i < fuel → (∀ j, q j = if j < i then 0 else f j) → ∃ g, moQJ7_fill_031fb_L5 n len K0 fuel 0 (nI i) (nI len) q = K0 g ∧ ∀ j, g j = if j < len then 0 else f j := by
  intro fuel
  induction fuel with
  | zero => intro i q _ h; omega
  | succ u ih =>
    intro i q hi hf hq
    rw [moQJ7_fill_031fb_L5]
    by_cases c : len ≤ i
    · have : i = len := by omega
      subst this
      rw [if_pos (nI_le (Nat.le_refl _) hl)]
      exact ⟨q, rfl, hq⟩
    · rw [if_neg (nI_ge (by omega) hl), gi_in (by omega) hl, nI_1, nI_clamp (by omega), nb1.2.2.2]
      refine ih (i + 1) _ (by omega) (by omega) (fun j => ?_)
      by_cases g : j = i
      · subst g; rw [upd_self, if_pos (by omega)]
      · rw [upd_ne g, hq j]
        by_cases g2 : j < i
        · rw [if_pos g2, if_pos (by omega)]
        · rw [if_neg g2, if_neg (by omega)]
theorem fillB_n {n len : Nat} {f : Nat → Int32} (hn : len < n) (hl : len < 2 ^ 31) : ∃ g, moQJ7_fill_031fb n len 0 f = some g ∧ ∀ j, g j = if j < len then 0 else f j :=
  fillB_L (n := n) (K0 := fun q_3 => some q_3) hl n 0 f (by omega) (by omega) (fun j => by rw [if_neg (by omega)])
theorem forget_c {n : Nat} {q : Pc4} (hn : 200000 ≤ n) : ∃ q', moQ5_forget n q = some q' ∧ FQ q q' ∧ q'.1 2 = 0 ∧ q'.2.2.2 2 = 0 ∧ q'.1 3 = 1 ∧ q'.1 4 = 1000000 ∧ q'.1 5 = 21991231 ∧ q'.1 6 = 0 ∧ q'.1 7 = 0 ∧ q'.1 8 = 0 ∧ q'.1 9 = 0 ∧ q'.1 10 = 0 ∧ q'.1 12 = q.1 12 ∧ q'.1 13 = q.1 13 ∧ q'.1 14 = q.1 14 ∧ (∀ w, w < 7 → q'.2.2.1 5 w = 0 ∧ q'.2.2.1 6 w = 0) ∧ (∀ j, j < 733 → q'.2.1 7 j = 0) := by
  unfold moQ5_forget
  obtain ⟨f1, e1, h1⟩ := fillL_n (n := n) (len := 7) (v := 0) (f := q.2.2.1 5) (by omega) (by decide)
  obtain ⟨f2, e2, h2⟩ := fillL_n (n := n) (len := 7) (v := 0) (f := q.2.2.1 6) (by omega) (by decide)
  obtain ⟨f3, e3, h3⟩ := fillB_n (n := n) (len := 733) (f := q.2.1 7) (by omega) (by decide)
  have e1' : moQJ7_fill_d0a16 n 7 0 ((s4S (s4S (s4S (s4S (s4S (s4S (s4S (s4S (s4I (s4S q 2 0) 2 0) 3 1) 4 1000000) 5 21991231) 6 0) 7 0) 8 0) 9 0) 10 0).2.2.1 5) = some f1 := e1
  have e2' : moQJ7_fill_d0a16 n 7 0 ((s4G (s4S (s4S (s4S (s4S (s4S (s4S (s4S (s4S (s4I (s4S q 2 0) 2 0) 3 1) 4 1000000) 5 21991231) 6 0) 7 0) 8 0) 9 0) 10 0) 5 f1).2.2.1 6) = some f2 := e2
  have e3' : moQJ7_fill_031fb n 733 0 ((s4G (s4G (s4S (s4S (s4S (s4S (s4S (s4S (s4S (s4S (s4I (s4S q 2 0) 2 0) 3 1) 4 1000000) 5 21991231) 6 0) 7 0) 8 0) 9 0) 10 0) 5 f1) 6 f2).2.1 7) = some f3 := e3
  rw [e1', b1, e2', b1, e3', b1]
  have hF0 : FQ q (s4S (s4S (s4S (s4S (s4S (s4S (s4S (s4S (s4I (s4S q 2 0) 2 0) 3 1) 4 1000000) 5 21991231) 6 0) 7 0) 8 0) 9 0) 10 0) := ((((((((((FQ.rf.S (by decide)).I).S (by decide)).S (by decide)).S (by decide)).S (by decide)).S (by decide)).S (by decide)).S (by decide)).S (by decide))
  refine ⟨_, rfl, ⟨hF0.1, fun a ha => (s4F_ne ha).trans (hF0.2.1 a ha), fun a h5 h6 => ?_, hF0.2.2.2⟩, rfl, rfl, rfl, rfl, rfl, rfl, rfl, rfl, rfl, rfl, rfl, rfl, rfl, fun w hw => ⟨?_, ?_⟩, fun j hj => ?_⟩
  · show va_up (va_up _ 5 f1) 6 f2 a = q.2.2.1 a
    rw [va_up_ne _ f2 h6, va_up_ne _ f1 h5]; rfl
  · show f1 w = 0
    rw [h1, if_pos hw]
  · show f2 w = 0
    rw [h2, if_pos hw]
  · show f3 j = 0
    rw [h3, if_pos hj]
-- what goes together
def okb (a0 a2 a3 a4 a5 a6 a7 fw fl nb : Bool) : Bool := a0 && !(a2 && a3) && !(a5 && fw) && !(nb && (fl || a5)) && !(a6 && !a4 && !a5 && !a7)
theorem tog_B54 {n : Nat} {q : Pc4} (h4 : q.2.2.2 2 < 4) : moQ5_goesTogether_B54 n q = some (if okb true false false (bt (q.1 2) 4) (bt (q.1 2) 5) (bt (q.1 2) 6) (bt (q.1 2) 7) false (decide (q.2.2.2 2 < 2)) (!decide (q.1 10 = 0)) = true then 1 else 0) := by
  unfold moQ5_goesTogether_B54
  have hw : ∀ f, f < 4 → ((fwho f = 0) ↔ decide (f < 2) = true) := by decide
  rw [has_c (by decide), b1, has_c (by decide), b1, has_c (by decide), b1, has_c (by decide), b1, gl_in (show r4I q 2 < 4 from h4)]
  have hw := hw _ h4
  by_cases c : q.1 10 = 0
  · rw [if_pos (show r4S q 10 = 0 from c), decide_eq_true c]
    cases bt (q.1 2) 4 <;> cases bt (q.1 2) 5 <;> cases bt (q.1 2) 6 <;> cases bt (q.1 2) 7 <;> rfl
  · rw [if_neg (show ¬ r4S q 10 = 0 from c), decide_eq_false c]
    by_cases c2 : q.2.2.2 2 < 2
    · rw [if_pos (show fwho (r4I q 2) = 0 from hw.mpr (decide_eq_true c2)), decide_eq_true c2]
      cases bt (q.1 2) 4 <;> cases bt (q.1 2) 5 <;> cases bt (q.1 2) 6 <;> cases bt (q.1 2) 7 <;> rfl
    · rw [if_neg (show ¬ fwho (r4I q 2) = 0 from fun w => c2 (of_decide_eq_true (hw.mp w))), decide_eq_false c2]
      cases bt (q.1 2) 4 <;> cases bt (q.1 2) 5 <;> cases bt (q.1 2) 6 <;> cases bt (q.1 2) 7 <;> rfl
theorem tog_c {n : Nat} {q : Pc4} (h4 : q.2.2.2 2 < 4) : moQ5_goesTogether n q = some (if okb (bt (q.1 2) 0) (bt (q.1 2) 2) (bt (q.1 2) 3) (bt (q.1 2) 4) (bt (q.1 2) 5) (bt (q.1 2) 6) (bt (q.1 2) 7) (decide (q.2.2.2 2 = 1)) (decide (q.2.2.2 2 < 2)) (!decide (q.1 10 = 0)) = true then 1 else 0) := by
  unfold moQ5_goesTogether
  rw [has_c (by decide), b1, has_c (by decide), b1, has_c (by decide), b1, has_c (by decide), b1, gl_in (show r4I q 2 < 4 from h4), tog_B54 h4]
  generalize (!decide (q.1 10 = 0)) = nb
  generalize (decide (q.2.2.2 2 < 2)) = fl
  by_cases c : q.2.2.2 2 = 1
  · rw [if_pos (show r4I q 2 = 1 from c), decide_eq_true c]
    cases bt (q.1 2) 0 <;> cases bt (q.1 2) 2 <;> cases bt (q.1 2) 3 <;> cases bt (q.1 2) 5 <;> simp [okb]
  · rw [if_neg (show ¬ r4I q 2 = 1 from c), decide_eq_false c]
    cases bt (q.1 2) 0 <;> cases bt (q.1 2) 2 <;> cases bt (q.1 2) 3 <;> cases bt (q.1 2) 5 <;> simp [okb]
