/-! Pure: reading a rule: lists, frequencies, parts. -/
theorem item_rc {n k p sz : Nat} {tx : Nat → Nat} {qm : Pc3} {q : Pc4} (hn : 200000 ≤ n) (h4 : 4 ≤ k) (h8 : k < 8) (h : RS tx sz qm q p) : Res tx sz qm q p (moM_oneItem n (nI k) qm) (moQ4_readValue n k q) := by
  have : k = 4 ∨ k = 5 ∨ k = 6 ∨ k = 7 := by omega
  rcases this with rfl | rfl | rfl | rfl
  · exact item4 hn h
  · exact item5 hn h
  · exact item6 hn h
  · exact item7 hn h
theorem plis_n : ∀ k, k < 8 → (plis k = 0 ↔ k < 4) := by decide
theorem idle_v {n k : Nat} {q : Pc4} (h : ¬ q.1 13 = 0) : moQ4_readValue n k q = some q := if_neg h
theorem idle71 {n k sz : Nat} {tx : Nat → Nat} (hk : k < 8) : ∀ (fuel i p : Nat) (q : Pc4), CQ tx sz q p → ¬ q.1 13 = 0 → i ≤ 200 → 200 - i < fuel → ∃ p', p' ≤ sz ∧ ∀ K : Pc4 → Option Pc4, moQ4_readPart_L71 n K fuel k (nI i) q = K (s4S q 12 (nI p')) := by
  intro fuel
  induction fuel with
  | zero => intro i p q _ _ _ h; omega
  | succ u ih =>
    intro i p q h h13 hi hf
    have hs := h.1
    have idq : s4S q 12 (nI p) = q := s4S_id h.2.2.2.2.2.1
    by_cases c : 200 ≤ i
    · exact ⟨p, h.2.2.2.2.2.2, fun K => by rw [moQ4_readPart_L71, if_pos (show (200 : Int32) ≤ nI i from nI_le (a := 200) c (by omega)), idq]⟩
    · have c' : ¬ (200 : Int32) ≤ nI i := nI_ge (b := 200) (by omega) (by decide)
      by_cases c1 : plis k = 0
      · exact ⟨p, h.2.2.2.2.2.2, fun K => by rw [moQ4_readPart_L71, if_neg c', gl_in hk, if_pos c1, idq]⟩
      · cases g : sg tx sz 44 p with
        | false => exact ⟨p, h.2.2.2.2.2.2, fun K => by rw [moQ4_readPart_L71, if_neg c', gl_in hk, if_neg c1, show moQ4_sees n 44 q = _ from sees_c (c := 44) h (by decide), b1, g, if_pos (show (if false = true then (1 : Int32) else 0) = 0 by decide), idq]⟩
        | true =>
          have hp := (of_decide_eq_true g).1
          obtain ⟨p', e1, e2⟩ := ih (i + 1) (p + 1) (s4S q 12 (nI (p + 1))) (h.at (by omega)) h13 (by omega) (by omega)
          refine ⟨p', e1, fun K => ?_⟩
          have e2 := e2 K
          rw [s4S_ss] at e2
          rw [moQ4_readPart_L71, if_neg c', gl_in hk, if_neg c1, show moQ4_sees n 44 q = _ from sees_c (c := 44) h (by decide), b1, g, if_neg (show ¬ (if true = true then (1 : Int32) else 0) = 0 by decide), show r4S q 12 = nI p from h.2.2.2.2.2.1, nI_1, idle_v (show ¬ (s4S q 12 (nI (p + 1))).1 13 = 0 from h13), b1, nI_1]
          exact e2
theorem FS.at {tx : Nat → Nat} {sz p : Nat} {qm : Pc3} {q : Pc4} (h : FS tx sz qm q) (hp : p ≤ sz) : FS tx sz qm (s4S q 12 (nI p)) := by
  obtain ⟨⟨p0, h0⟩, h1, h2, h3, h4⟩ := h
  exact ⟨⟨p, h0.at hp⟩, h1, h2, h3, h4⟩
theorem list_rc {n k sz : Nat} {tx : Nat → Nat} (hn : 200000 ≤ n) (h4 : 4 ≤ k) (h8 : k < 8) : ∀ (fuel i p : Nat) (qm : Pc3) (q : Pc4), RS tx sz qm q p → i ≤ p → 201 + sz - p < fuel → ∃ qm' q', moM_value_L115 n (fun q_10 => (some q_10)) fuel (nI k) qm = some qm' ∧ (∀ K : Pc4 → Option Pc4, moQ4_readPart_L71 n K fuel k (nI i) q = K q') ∧ FM qm qm' ∧ FQ q q' ∧ ((∃ p', p ≤ p' ∧ RS tx sz qm' q' p') ∨ FS tx sz qm' q') := by
  intro fuel
  induction fuel with
  | zero => intro i p qm q _ _ h; omega
  | succ u ih =>
    intro i p qm q h hi hf
    have hs := h.1.1
    have hps := h.1.2.2.2.2.2.2
    have e44 : (ba tx sz p = 44) ↔ sg tx sz 44 p = true := ba_eq (c := 44) h.1.2.1 (by decide)
    rw [moM_value_L115, if_pos (show rS qm 5 = 0 from h.2.2.2.1), show rS qm 7 = nI p from h.2.1.2.2.2.2, byteAt_r h.2.1 (by omega), b1, nI_1]
    have hK : ∀ K : Pc4 → Option Pc4, moQ4_readPart_L71 n K (u + 1) k (nI i) q = (if 200 ≤ i then K q else if sg tx sz 44 p = true then (bd1 (moQ4_readValue n k (s4S q 12 (nI (p + 1)))) fun q_14 => (moQ4_readPart_L71 n K u k (nI (i + 1)) q_14)) else K q) := by
      intro K
      rw [moQ4_readPart_L71]
      by_cases c : 200 ≤ i
      · rw [if_pos (show (200 : Int32) ≤ nI i from nI_le (a := 200) c (by omega)), if_pos c]
      · rw [if_neg (show ¬ (200 : Int32) ≤ nI i from nI_ge (b := 200) (by omega) (by decide)), if_neg c, gl_in h8, if_neg (fun w => by have := (plis_n k h8).mp w; omega), show moQ4_sees n 44 q = _ from sees_c (c := 44) h.1 (by decide), b1, show r4S q 12 = nI p from h.1.2.2.2.2.2.1, nI_1, nI_1]
        cases sg tx sz 44 p with
        | true => rw [if_neg (by decide), if_pos rfl]
        | false => rw [if_pos (by decide), if_neg (by decide)]
    cases g : sg tx sz 44 p with
    | false =>
      rw [if_neg (fun w => by rw [e44.mp w] at g; cases g)]
      refine ⟨qm, q, rfl, fun K => ?_, FM.rf, FQ.rf, Or.inl ⟨p, Nat.le_refl _, h⟩⟩
      rw [hK K, g, if_neg (show ¬ false = true by decide)]
      split <;> rfl
    | true =>
      have hp := (of_decide_eq_true g).1
      obtain ⟨qm1, q1, f1, f2, f3, f4, f5⟩ := item_rc (n := n) hn h4 h8 (h.at (show p + 1 ≤ sz by omega))
      rw [if_pos (e44.mpr g), f1, b1]
      have hm1 : FM qm qm1 := (FM.rf.S (by decide)).trans f3
      have hq1 : FQ q q1 := (FQ.rf.S (by decide)).trans f4
      rcases f5 with ⟨p', i1, i2⟩ | i2
      · obtain ⟨qm2, q2, j1, j2, j3, j4, j5⟩ := ih (i + 1) p' qm1 q1 i2 (by omega) (by omega)
        refine ⟨qm2, q2, j1, fun K => ?_, hm1.trans j3, hq1.trans j4, ?_⟩
        · rw [hK K, if_neg (by omega), g, if_pos rfl, f2, b1, j2 K]
        · rcases j5 with ⟨p'', k1, k2⟩ | k2
          · exact Or.inl ⟨p'', by omega, k2⟩
          · exact Or.inr k2
      · obtain ⟨pq, hpq⟩ := i2.1
        obtain ⟨p', k1, k2⟩ := idle71 (n := n) (k := k) h8 u (i + 1) pq q1 hpq i2.ne (by omega) (by omega)
        have hr : moM_value_L115 n (fun q_10 => (some q_10)) u (nI k) qm1 = some qm1 := by
          obtain ⟨v, rfl⟩ : ∃ v, u = v + 1 := ⟨u - 1, by omega⟩
          rw [moM_value_L115, if_neg (show ¬ rS qm1 5 = 0 from i2.nm.1)]
        refine ⟨qm1, s4S q1 12 (nI p'), hr, fun K => ?_, hm1, hq1.S (by decide), Or.inr (i2.at k1)⟩
        rw [hK K, if_neg (by omega), g, if_pos rfl, f2, b1, k2 K]
theorem L71_0 {n k : Nat} {q : Pc4} {K : Pc4 → Option Pc4} (hn : 200000 ≤ n) (hk : k < 4) : moQ4_readPart_L71 n K n k 0 q = K q := by
  have : ∀ fuel, 1 ≤ fuel → moQ4_readPart_L71 n K fuel k 0 q = K q := by
    intro fuel hf
    obtain ⟨v, rfl⟩ : ∃ v, fuel = v + 1 := ⟨fuel - 1, by omega⟩
    rw [moQ4_readPart_L71, if_neg (by decide), gl_in (by omega), if_pos ((plis_n k (by omega)).mpr hk)]
  exact this n (by omega)
/-- a value and the list's rest -/
theorem val_rc {n k p sz : Nat} {tx : Nat → Nat} {qm : Pc3} {q : Pc4} (hn : 200000 ≤ n) (h1 : 1 ≤ k) (h8 : k < 8) (h : RS tx sz qm q p) : ∃ qm' q', moM_value n (nI k) qm = some qm' ∧ (∀ K : Pc4 → Option Pc4, (bd1 (moQ4_readValue n k q) fun q_8 => (moQ4_readPart_L71 n K n k 0 q_8)) = K q') ∧ FM qm qm' ∧ FQ q q' ∧ ((∃ p', p < p' ∧ RS tx sz qm' q' p') ∨ FS tx sz qm' q') := by
  by_cases c4 : k < 4
  · have key : Res tx sz qm q p (moM_value n (nI k) qm) (moQ4_readValue n k q) := by
      unfold moM_value
      have : k = 1 ∨ k = 2 ∨ k = 3 := by omega
      rcases this with rfl | rfl | rfl
      · rw [if_neg (by decide), if_pos (by decide)]
        exact val1 hn h
      · rw [if_neg (by decide), if_neg (by decide), if_pos (by decide)]
        exact val2 hn h
      · rw [if_neg (by decide), if_neg (by decide), if_neg (by decide), if_pos (by decide)]
        obtain ⟨qm', q', f1, f2, f3⟩ := val3 (n := n) hn h
        rw [f1, b1]
        exact ⟨qm', q', rfl, f2, f3⟩
    obtain ⟨qm', q', f1, f2, f3, f4, f5⟩ := key
    exact ⟨qm', q', f1, fun K => by rw [f2, b1, L71_0 hn c4], f3, f4, f5⟩
  · obtain ⟨qm1, q1, f1, f2, f3, f4, f5⟩ := item_rc (n := n) hn (show 4 ≤ k by omega) h8 h
    have hs := h.1.1
    have ne : ∀ j, j < 4 → ¬ nI k = nI j := fun j hj w => by have := (nI_eq (by omega) (by omega)).mp w; omega
    unfold moM_value
    rw [if_neg (show ¬ nI k = (0 : Int32) from ne 0 (by decide)), if_neg (show ¬ nI k = (1 : Int32) from ne 1 (by decide)), if_neg (show ¬ nI k = (2 : Int32) from ne 2 (by decide)), if_neg (show ¬ nI k = (3 : Int32) from ne 3 (by decide)), f1, b1]
    rcases f5 with ⟨p', i1, i2⟩ | i2
    · obtain ⟨qm2, q2, j1, j2, j3, j4, j5⟩ := list_rc (n := n) hn (show 4 ≤ k by omega) h8 n 0 p' qm1 q1 i2 (by omega) (by omega)
      refine ⟨qm2, q2, j1, fun K => ?_, f3.trans j3, f4.trans j4, ?_⟩
      · rw [f2, b1]; exact j2 K
      · rcases j5 with ⟨p'', k1, k2⟩ | k2
        · exact Or.inl ⟨p'', by omega, k2⟩
        · exact Or.inr k2
    · obtain ⟨pq, hpq⟩ := i2.1
      obtain ⟨p', k1, k2⟩ := idle71 (n := n) (k := k) h8 n 0 pq q1 hpq i2.ne (by omega) (by omega)
      have hr : ∀ u, 1 ≤ u → moM_value_L115 n (fun q_10 => (some q_10)) u (nI k) qm1 = some qm1 := by
        intro u hu
        obtain ⟨v, rfl⟩ : ∃ v, u = v + 1 := ⟨u - 1, by omega⟩
        rw [moM_value_L115, if_neg (show ¬ rS qm1 5 = 0 from i2.nm.1)]
      refine ⟨qm1, s4S q1 12 (nI p'), hr n (by omega), fun K => ?_, f3, f4.S (by decide), Or.inr (i2.at k1)⟩
      rw [f2, b1]; exact k2 K
-- the frequency
theorem mt_0 {tx : Nat → Nat} {a k : Nat} (hk : k < 12) : mt tx a 0 k = false := decide_eq_false (fun w => by have := (wdN_l k hk).1; omega)
theorem val0 {n p sz : Nat} {tx : Nat → Nat} {qm : Pc3} {q : Pc4} (hn : 200000 ≤ n) (hQ : CQ tx sz q p) (hM : CM tx sz qm p) (h13 : q.1 13 = 0) (h5 : qm.1 5 = 0) : (∃ k p', k < 4 ∧ p < p' ∧ p' ≤ sz ∧ moM_value n 0 qm = some (sS (sS qm 9 (nI k)) 7 (nI p')) ∧ moQ4_readValue n 0 q = some (s4I (s4S q 12 (nI p')) 2 k)) ∨ (∃ p' u, p' ≤ sz ∧ moM_value n 0 qm = some (sS (flM (sS qm 9 (-1)) 1 (nI p)) 7 u) ∧ moQ4_readValue n 0 q = some (flQ (s4S q 12 (nI p')) 1 (nI p))) := by
  have hs := hQ.1
  have hps := hQ.2.2.2.2.2.2
  obtain ⟨L, hL, hpL⟩ := run_ex (cap_hi (tx := tx) (sz := sz)) sz p (by omega)
  have hpL := hpL hps
  unfold moM_value moQ4_readValue moQ4_readFrequency
  rw [if_pos rfl, show rS qm 7 = nI p from hM.2.2.2.2, caps_r hn hM hL hpL, b1, letters_r hn hM hL hpL, b1, show r4S q 13 = 0 from h13, if_pos rfl, gl_in (by decide), if_pos rfl, show moQ4_takeLetters n 200 q = _ from take_c (M := 200) hn hQ hL hpL (by decide) (by decide)]
  by_cases c : L = 0
  · subst c
    have hno : ∀ k, k < 4 → mt tx p 0 (8 + k) = false := fun k hk => mt_0 (by omega)
    have hF : ¬ (flQ q 1 (nI p)).1 13 = 0 := n_10
    rw [if_pos rfl, fail_c0 h13, b1, b2, (freqd_c (n := n) (a := p) (q := flQ q 1 (nI p)) hn (show CQ tx sz (flQ q 1 (nI p)) p from hQ) (Nat.le_refl p)).2 (by rw [Nat.sub_self]; exact hno), fail_c1 hF, b1, b1]
    rcases freqOf_r (n := n) hL hpL hs with ⟨k, hk, h1, h2⟩ | ⟨h1, h2⟩
    · rw [hno k hk] at h1; cases h1
    · rw [h2, b1, if_neg (show ¬ (0 : Int32) ≤ rS (sS qm 9 (-1)) 9 from by show ¬ (0 : Int32) ≤ -1; decide), show rS (sS qm 9 (-1)) 7 = nI p from hM.2.2.2.2, fail_r0 (show (sS qm 9 (-1)).1 5 = 0 from h5), b1]
      exact Or.inr ⟨p, _, hps, rfl, by rw [s4S_id hQ.2.2.2.2.2.1]⟩
  · rw [if_neg c, b2, show min 200 L = L by omega]
    have hQ' := hQ.at hpL
    have fc := freqd_c (n := n) (a := p) (K0 := fun z7_1 q_7 => (bd1 (moQ4_fail n 1 z7_1 q_7) fun q_8 => (some q_8))) (K1 := fun z9_2 q_9 => (gi z9_2 4 (some (s4I q_9 2 (Int32.toNatClampNeg z9_2))))) hn hQ' (show p ≤ p + L by omega)
    rw [show p + L - p = L by omega] at fc
    rcases freqOf_r (n := n) hL hpL hs with ⟨k, hk, h1, h2⟩ | ⟨h1, h2⟩
    · rw [h2, b1, fc.1 k hk h1, gi_in hk (by decide), nI_clamp (by omega), b1, if_pos (show (0 : Int32) ≤ rS (sS qm 9 (nI k)) 9 from nI_pos' (by omega)), show rS (sS qm 9 (nI k)) 7 = nI p from hM.2.2.2.2, nI_add]
      exact Or.inl ⟨k, p + L, hk, by omega, hpL, rfl, rfl⟩
    · rw [h2, b1, fc.2 h1, fail_c0 (show (s4S q 12 (nI (p + L))).1 13 = 0 from h13), b1, b1, if_neg (show ¬ (0 : Int32) ≤ rS (sS qm 9 (-1)) 9 from by show ¬ (0 : Int32) ≤ -1; decide), show rS (sS qm 9 (-1)) 7 = nI p from hM.2.2.2.2, fail_r0 (show (sS qm 9 (-1)).1 5 = 0 from h5), b1]
      exact Or.inr ⟨p + L, _, hpL, rfl, rfl⟩
