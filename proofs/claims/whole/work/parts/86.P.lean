/-! Pure: reading a rule: parts, the whole text. -/
def eE (n : Nat) (q_15 : Pc4) : Option Pc4 := (if (r4S q_15 11) ≤ (r4S q_15 12) then (some q_15) else (bd1 (moQ4_sees n 59 q_15) fun r_17 => (if r_17 = 0 then (bd1 (moQ4_fail n 1 (r4S q_15 12) q_15) fun q_19 => (some q_19)) else (some q_15))))
theorem B42_eq {n k : Nat} {q : Pc4} : moQ4_readPart_B42 n k q = gl k 8 (bd1 (moQ4_take n 61 (s4S q 2 ((r4S q 2) ||| (pbit k)))) fun q_7 => (bd1 (moQ4_readValue n k q_7) fun q_8 => (moQ4_readPart_L71 n (eE n) n k 0 q_8))) := rfl
theorem eE_idle {n p sz : Nat} {tx : Nat → Nat} {q : Pc4} (h : CQ tx sz q p) (h13 : ¬ q.1 13 = 0) : eE n q = some q := by
  unfold eE
  rw [show moQ4_sees n 59 q = _ from sees_c (c := 59) h (by decide), b1, fail_c1 h13, b1]
  split
  · rfl
  · split <;> rfl
theorem eE_go {n p sz : Nat} {tx : Nat → Nat} {q : Pc4} (h : CQ tx sz q p) (h13 : q.1 13 = 0) : (p < sz ∧ sg tx sz 59 p = false ∧ eE n q = some (flQ q 1 (nI p))) ∨ ((p = sz ∨ sg tx sz 59 p = true) ∧ eE n q = some q) := by
  have hs := h.1
  have hps := h.2.2.2.2.2.2
  unfold eE
  rw [show moQ4_sees n 59 q = _ from sees_c (c := 59) h (by decide), b1, fail_c0 h13, b1, show r4S q 11 = nI sz from h.2.2.2.1, show r4S q 12 = nI p from h.2.2.2.2.2.1]
  by_cases c : p < sz
  · rw [if_neg (nI_ge c (by omega))]
    cases g : sg tx sz 59 p with
    | true => rw [if_neg (show ¬ (if true = true then (1 : Int32) else 0) = 0 by decide)]; exact Or.inr ⟨Or.inr rfl, rfl⟩
    | false => rw [if_pos (show (if false = true then (1 : Int32) else 0) = 0 by decide)]; exact Or.inl ⟨c, rfl, rfl⟩
  · rw [if_pos (nI_le (by omega) (by omega))]; exact Or.inr ⟨Or.inl (by omega), rfl⟩
theorem taken_c {n c p sz : Nat} {tx : Nat → Nat} {q : Pc4} (h : CQ tx sz q p) (hc : c < 256) : moQ4_take n (nI c) q = if sg tx sz c p = true then some (s4S q 12 (nI (p + 1))) else (bd1 (moQ4_fail n 1 (nI p) q) fun q_3 => (some q_3)) := by
  unfold moQ4_take
  rw [sees_c h hc, b1, show r4S q 12 = nI p from h.2.2.2.2.2.1, nI_1]
  cases sg tx sz c p with
  | true => rw [if_neg (by decide), if_pos rfl]
  | false => rw [if_pos (by decide), if_neg (by decide)]
theorem B42_idle {n k p sz : Nat} {tx : Nat → Nat} {q : Pc4} (hn : 200000 ≤ n) (hk : k < 8) (h : CQ tx sz q p) (h13 : ¬ q.1 13 = 0) : ∃ q', moQ4_readPart_B42 n k q = some q' ∧ FQ q q' ∧ q'.1 13 = q.1 13 ∧ q'.1 14 = q.1 14 ∧ q'.2.2.2 2 = q.2.2.2 2 ∧ ∃ p', CQ tx sz q' p' := by
  rw [B42_eq, gl_in hk]
  have h0 : CQ tx sz (s4S q 2 ((r4S q 2) ||| (pbit k))) p := h
  have h130 : ¬ (s4S q 2 ((r4S q 2) ||| (pbit k))).1 13 = 0 := h13
  rw [show moQ4_take n 61 (s4S q 2 ((r4S q 2) ||| (pbit k))) = _ from taken_c (c := 61) h0 (by decide)]
  have rest : ∀ q1 p1, CQ tx sz q1 p1 → FQ q q1 → q1.1 13 = q.1 13 → q1.1 14 = q.1 14 → q1.2.2.2 2 = q.2.2.2 2 → ∃ q', (bd1 (moQ4_readValue n k q1) fun q_8 => (moQ4_readPart_L71 n (eE n) n k 0 q_8)) = some q' ∧ FQ q q' ∧ q'.1 13 = q.1 13 ∧ q'.1 14 = q.1 14 ∧ q'.2.2.2 2 = q.2.2.2 2 ∧ ∃ p', CQ tx sz q' p' := by
    intro q1 p1 h1 h2 h3 h4 h5
    have h13' : ¬ q1.1 13 = 0 := by rw [h3]; exact h13
    rw [idle_v h13', b1]
    obtain ⟨p', k1, k2⟩ := idle71 (n := n) (k := k) hk n 0 p1 q1 h1 h13' (by omega) (by omega)
    rw [show moQ4_readPart_L71 n (eE n) n k 0 q1 = _ from k2 (eE n), eE_idle (h1.at k1) (show ¬ (s4S q1 12 (nI p')).1 13 = 0 from h13')]
    exact ⟨_, rfl, h2.S (by decide), h3, h4, h5, p', h1.at k1⟩
  by_cases c : sg tx sz 61 p = true
  · rw [if_pos c, b1]
    have hp := (of_decide_eq_true c).1
    exact rest _ (p + 1) (h0.at (by omega)) ((FQ.rf.S (by decide)).S (by decide)) rfl rfl rfl
  · rw [if_neg c, fail_c1 h130, b1, b1]
    exact rest _ p h0 (FQ.rf.S (by decide)) rfl rfl rfl
def PO (tx : Nat → Nat) (sz p : Nat) (qm : Pc3) (q : Pc4) : Prop := (∃ p', p < p' ∧ RS tx sz qm q p' ∧ (p' = sz ∨ sg tx sz 59 p' = true)) ∨ FS tx sz qm q ∨ (∃ p', p' < sz ∧ sg tx sz 59 p' = false ∧ CM tx sz qm p' ∧ qm.1 5 = 0 ∧ (∃ p'', CQ tx sz q p'') ∧ q.1 13 = 1 ∧ q.1 14 = nI p' ∧ q.2.2.2 2 < 4)
theorem fin_po {n p sz : Nat} {tx : Nat → Nat} {qm : Pc3} {q : Pc4} (h : (∃ p', p < p' ∧ RS tx sz qm q p') ∨ FS tx sz qm q) : ∃ q', eE n q = some q' ∧ FQ q q' ∧ PO tx sz p qm q' := by
  rcases h with ⟨p', h1, h2⟩ | h
  · rcases eE_go (n := n) h2.1 h2.2.2.1 with ⟨g1, g2, g3⟩ | ⟨g1, g2⟩
    · exact ⟨_, g3, FQ.rf.f, Or.inr (Or.inr ⟨p', g1, g2, h2.2.1, h2.2.2.2.1, ⟨p', h2.1⟩, rfl, rfl, h2.i4⟩)⟩
    · exact ⟨_, g2, FQ.rf, Or.inl ⟨p', h1, h2, g1⟩⟩
  · obtain ⟨p', hp⟩ := h.1
    exact ⟨_, eE_idle hp h.ne, FQ.rf, Or.inr (Or.inl h)⟩
theorem pbit_n : ∀ k, k < 8 → pbit k = slI 1 (nI k) := by decide +kernel
theorem has_c {n k : Nat} {q : Pc4} (hk : k < 8) : moQ5_has n k q = some (if bt (q.1 2) k = true then 1 else 0) := by
  unfold moQ5_has
  rw [gl_in hk, pbit_n k hk]
  cases h : bt (q.1 2) k with
  | true => rw [if_neg (fun w => by rw [and_bit (by omega)] at w; rw [show bt (r4S q 2) k = bt (q.1 2) k from rfl, h] at w; cases w)]; rfl
  | false => rw [if_pos ((and_bit (by omega)).mpr h)]; rfl
theorem add_has {qm : Pc3} {q : Pc4} {k : Nat} (h : RT qm q) (h1 : 1 ≤ k) (hk : k < 8) : RT (sA qm 8 (nI k) 1) (s4S q 2 (q.1 2 ||| slI 1 (nI k))) := by
  obtain ⟨r1, r2, r3, r4, r5, r6, r7, r8, r9, r10⟩ := h
  refine ⟨fun v v1 => ?_, ⟨r2.1, fun g => r2.2 ?_⟩, r3, r4, r5, r6, r7, r8, r9, r10⟩
  · rw [sA_k (by omega)]
    show _ ↔ bt (q.1 2 ||| slI 1 (nI k)) v = false
    rw [or_bt (by omega) (by omega)]
    exact set_iff (r1 v v1)
  · rw [sA_k (by omega), upd_ne (by omega)] at g
    exact g
theorem add_freq {qm : Pc3} {q : Pc4} {f : Nat} (h : RT qm q) (hf : f < 4) : RT (sS (sA qm 8 (nI 0) 1) 9 (nI f)) (s4I (s4S q 2 (q.1 2 ||| slI 1 (nI 0))) 2 f) := by
  obtain ⟨r1, r2, r3, r4, r5, r6, r7, r8, r9, r10⟩ := h
  refine ⟨fun v v1 => ?_, ⟨hf, fun g => rfl⟩, r3, r4, r5, r6, r7, r8, r9, r10⟩
  show (sA qm 8 (nI 0) 1).2.1 8 v = 0 ↔ bt (q.1 2 ||| slI 1 (nI 0)) v = false
  rw [sA_k (by omega), or_bt (by omega) (by omega)]
  exact set_iff (r1 v v1)
theorem part_rc {n p sz : Nat} {tx : Nat → Nat} {qm : Pc3} {q : Pc4} (hn : 200000 ≤ n) (h : RS tx sz qm q p) : ∃ qm' q', moM_part n qm = some qm' ∧ moQ4_readPart n q = some q' ∧ FM qm qm' ∧ FQ q q' ∧ PO tx sz p qm' q' := by
  have hRS := h
  have hi4 := h.i4
  obtain ⟨hQ, hM, h13, h5, h6, hT, hD⟩ := h
  have hs := hQ.1
  have ht := hQ.2.1
  have hps := hQ.2.2.2.2.2.2
  obtain ⟨L, hL, hpL⟩ := run_ex (cap_hi (tx := tx) (sz := sz)) sz p (by omega)
  have hpL := hpL hps
  have at7 : rS qm 7 = nI p := hM.2.2.2.2
  unfold moM_part moQ4_readPart
  rw [at7, caps_r hn hM hL hpL, b1, letters_r hn hM hL hpL, b1, show moQ4_takeLetters n 200 q = _ from take_c (M := 200) hn hQ hL hpL (by decide) (by decide)]
  by_cases c : L = 0
  · subst c
    have hF : ¬ (flQ q 1 (nI p)).1 13 = 0 := n_10
    have hno : ∀ k, k < 8 → mt tx p 0 k = false := fun k hk => mt_0 (by omega)
    rw [if_pos rfl, fail_c0 h13, b1, b2, (named_c (n := n) (a := p) (q := flQ q 1 (nI p)) hn (show CQ tx sz (flQ q 1 (nI p)) p from hQ) (Nat.le_refl p)).2 (by rw [Nat.sub_self]; exact hno), b1]
    rcases nameOf_r (n := n) hL hpL hs with ⟨k, hk, h1, h2⟩ | ⟨h1, h2⟩
    · rw [hno k hk] at h1; cases h1
    · rw [h2, b1, if_neg (show ¬ (0 : Int32) ≤ -1 by decide), fail_r0 h5, b1]
      show ∃ qm' q', some (flM qm 1 (nI p)) = some qm' ∧ (bd1 (moQ4_fail n 1 (nI p) (flQ q 1 (nI p))) fun q_3 => (some q_3)) = some q' ∧ FM qm qm' ∧ FQ q q' ∧ PO tx sz p qm' q'
      rw [fail_c1 hF, b1]
      exact ⟨_, _, rfl, rfl, FM.rf.f, FQ.rf.f, Or.inr (Or.inl (FS_mk hQ (by decide) hi4))⟩
  · rw [if_neg c, b2, show min 200 L = L by omega]
    have hQ1 := hQ.at hpL
    have nc := named_c (n := n) (a := p) hn hQ1 (show p ≤ p + L by omega)
    rw [show p + L - p = L by omega] at nc
    rcases nameOf_r (n := n) hL hpL hs with ⟨k, hk, h1, h2⟩ | ⟨h1, h2⟩
    · rw [nc.1 k hk h1, b1, h2, b1, if_pos (show (0 : Int32) ≤ nI k from nI_pos' (by omega)), gi_in hk (by decide), gi_in hk (by decide), r3n (by omega), nb1.1]
      show ∃ qm' q', _ = some qm' ∧ (bd1 (moQ5_has n k (s4S q 12 (nI (p + L)))) fun r_4 => (if r_4 = 0 then (moQ4_readPart_B42 n k (s4S q 12 (nI (p + L)))) else (bd1 (moQ4_fail n 3 (nI p) (s4S q 12 (nI (p + L)))) fun q_20 => (moQ4_readPart_B42 n k q_20)))) = some q' ∧ _
      rw [has_c hk, b1, show (s4S q 12 (nI (p + L))).1 2 = q.1 2 from rfl]
      have r1 := hT.1 k hk
      cases hb : bt (q.1 2) k with
      | true =>
        rw [if_neg (show ¬ (if true = true then (1 : Int32) else 0) = 0 by decide), if_neg (fun w => by rw [r1.mp w] at hb; cases hb), fail_r0 h5, b1, fail_c0 (show (s4S q 12 (nI (p + L))).1 13 = 0 from h13), b1]
        obtain ⟨q', f1, f2, f3, f4, f5, f6⟩ := B42_idle (n := n) (k := k) (q := flQ (s4S q 12 (nI (p + L))) 3 (nI p)) hn hk (show CQ tx sz (flQ (s4S q 12 (nI (p + L))) 3 (nI p)) (p + L) from hQ1) (show ¬ (3 : Int32) = 0 by decide)
        rw [f1]
        exact ⟨_, _, rfl, rfl, FM.rf.f, ((FQ.rf.S (by decide)).f).trans f2, Or.inr (Or.inl ⟨f6, by rw [f3]; show ¬ (3 : Int32) ≤ 0; decide, f3, f4, by rw [f5]; exact hi4⟩)⟩
      | false =>
        rw [if_pos (show (if false = true then (1 : Int32) else 0) = 0 by decide), if_pos (r1.mpr hb), show rS (sA qm 8 (nI k) 1) 7 = nI p from at7, nI_add, show rS (sS (sA qm 8 (nI k) 1) 7 (nI (p + L))) 7 = nI (p + L) from rfl, nI_1, B42_eq, gl_in hk, pbit_n k hk, show r4S (s4S q 12 (nI (p + L))) 2 = q.1 2 from rfl]
        have hfM : FM qm (sS (sA qm 8 (nI k) 1) 7 (nI (p + L))) := (FM.rf.A (by decide)).S (by decide)
        have hfQ : FQ q (s4S (s4S q 12 (nI (p + L))) 2 (q.1 2 ||| slI 1 (nI k))) := (FQ.rf.S (by decide)).S (by decide)
        have hM1 : CM tx sz (sS (sA qm 8 (nI k) 1) 7 (nI (p + L))) (p + L) := hM.fr hfM rfl
        have hQ2 : CQ tx sz (s4S (s4S q 12 (nI (p + L))) 2 (q.1 2 ||| slI 1 (nI k))) (p + L) := hQ.fr hfQ rfl hpL
        have e61 : (ba tx sz (p + L) = 61) ↔ sg tx sz 61 (p + L) = true := ba_eq (c := 61) ht (by decide)
        rw [byteAt_r hM1 (by omega), b1, show moQ4_take n 61 (s4S (s4S q 12 (nI (p + L))) 2 (q.1 2 ||| slI 1 (nI k))) = _ from taken_c (c := 61) hQ2 (by decide)]
        cases g61 : sg tx sz 61 (p + L) with
        | false =>
          rw [if_neg (fun w => by rw [e61.mp w] at g61; cases g61), fail_r0 (show (sS (sA qm 8 (nI k) 1) 7 (nI (p + L))).1 5 = 0 from h5), b1, if_neg (show ¬ false = true by decide), fail_c0 (show (s4S (s4S q 12 (nI (p + L))) 2 (q.1 2 ||| slI 1 (nI k))).1 13 = 0 from h13), b1, b1]
          have hF : ¬ (flQ (s4S (s4S q 12 (nI (p + L))) 2 (q.1 2 ||| slI 1 (nI k))) 1 (nI (p + L))).1 13 = 0 := n_10
          rw [idle_v hF, b1]
          obtain ⟨p', k1, k2⟩ := idle71 (n := n) (k := k) hk n 0 (p + L) (flQ (s4S (s4S q 12 (nI (p + L))) 2 (q.1 2 ||| slI 1 (nI k))) 1 (nI (p + L))) hQ2 hF (by omega) (by omega)
          have hQ3 : CQ tx sz (s4S (flQ (s4S (s4S q 12 (nI (p + L))) 2 (q.1 2 ||| slI 1 (nI k))) 1 (nI (p + L))) 12 (nI p')) p' := CQ.at (q := flQ (s4S (s4S q 12 (nI (p + L))) 2 (q.1 2 ||| slI 1 (nI k))) 1 (nI (p + L))) hQ2 k1
          rw [show moQ4_readPart_L71 n (eE n) n k 0 (flQ (s4S (s4S q 12 (nI (p + L))) 2 (q.1 2 ||| slI 1 (nI k))) 1 (nI (p + L))) = _ from k2 (eE n), eE_idle hQ3 (show ¬ (1 : Int32) = 0 by decide)]
          exact ⟨_, _, rfl, rfl, hfM.f, (hfQ.f).S (by decide), Or.inr (Or.inl ⟨⟨p', hQ3⟩, by show ¬ (1 : Int32) ≤ 0; decide, rfl, rfl, hi4⟩)⟩
        | true =>
          have hp61 := (of_decide_eq_true g61).1
          rw [if_pos (e61.mpr g61), sS_ss, if_pos rfl, b1]
          have hfM' : FM qm (sS (sA qm 8 (nI k) 1) 7 (nI (p + L + 1))) := (FM.rf.A (by decide)).S (by decide)
          have hfQ' : FQ q (s4S (s4S (s4S q 12 (nI (p + L))) 2 (q.1 2 ||| slI 1 (nI k))) 12 (nI (p + L + 1))) := hfQ.S (by decide)
          have hM3 : CM tx sz (sS (sA qm 8 (nI k) 1) 7 (nI (p + L + 1))) (p + L + 1) := hM.fr hfM' rfl
          have hQ3 : CQ tx sz (s4S (s4S (s4S q 12 (nI (p + L))) 2 (q.1 2 ||| slI 1 (nI k))) 12 (nI (p + L + 1))) (p + L + 1) := hQ.fr hfQ' rfl (by omega)
          by_cases ck : k = 0
          · subst ck
            rcases val0 (n := n) hn hQ3 hM3 h13 h5 with ⟨f, p', g1, g2, g3, g4, g5⟩ | ⟨p', u, g3, g4, g5⟩
            · rw [show moM_value n (nI 0) (sS (sA qm 8 (nI 0) 1) 7 (nI (p + L + 1))) = _ from g4, b1, g5, b1, L71_0 hn (by decide)]
              have hfM4 : FM qm (sS (sS (sS (sA qm 8 (nI 0) 1) 7 (nI (p + L + 1))) 9 (nI f)) 7 (nI p')) := (hfM'.S (by decide)).S (by decide)
              have hfQ4 : FQ q (s4I (s4S (s4S (s4S (s4S q 12 (nI (p + L))) 2 (q.1 2 ||| slI 1 (nI 0))) 12 (nI (p + L + 1))) 12 (nI p')) 2 f) := (hfQ'.S (by decide)).I
              have hR : RS tx sz (sS (sS (sS (sA qm 8 (nI 0) 1) 7 (nI (p + L + 1))) 9 (nI f)) 7 (nI p')) (s4I (s4S (s4S (s4S (s4S q 12 (nI (p + L))) 2 (q.1 2 ||| slI 1 (nI 0))) 12 (nI (p + L + 1))) 12 (nI p')) 2 f) p' := ⟨hQ.fr hfQ4 rfl g3, hM.fr hfM4 rfl, h13, h5, h6, add_freq (qm := qm) (q := q) hT g1, hD⟩
              obtain ⟨q', k1, k2, k3⟩ := fin_po (n := n) (p := p) (Or.inl ⟨p', by omega, hR⟩)
              exact ⟨_, _, rfl, k1, hfM4, hfQ4.trans k2, k3⟩
            · rw [show moM_value n (nI 0) (sS (sA qm 8 (nI 0) 1) 7 (nI (p + L + 1))) = _ from g4, b1, g5, b1, L71_0 hn (by decide)]
              have hQ5 : CQ tx sz (flQ (s4S (s4S (s4S (s4S q 12 (nI (p + L))) 2 (q.1 2 ||| slI 1 (nI 0))) 12 (nI (p + L + 1))) 12 (nI p')) 1 (nI (p + L + 1))) p' := hQ3.fr ((FQ.rf.S (by decide)).f) rfl g3
              rw [eE_idle hQ5 (show ¬ (1 : Int32) = 0 by decide)]
              exact ⟨_, _, rfl, rfl, ((hfM'.S (by decide)).f).S (by decide), (hfQ'.S (by decide)).f, Or.inr (Or.inl ⟨⟨p', hQ5⟩, by show ¬ (1 : Int32) ≤ 0; decide, rfl, rfl, hi4⟩)⟩
          · have hR : RS tx sz (sS (sA qm 8 (nI k) 1) 7 (nI (p + L + 1))) (s4S (s4S (s4S q 12 (nI (p + L))) 2 (q.1 2 ||| slI 1 (nI k))) 12 (nI (p + L + 1))) (p + L + 1) := ⟨hQ3, hM3, h13, h5, h6, add_has (qm := qm) (q := q) hT (by omega) hk, hD⟩
            obtain ⟨qm1, q1, j1, j2, j3, j4, j5⟩ := val_rc (n := n) hn (show 1 ≤ k by omega) hk hR
            rw [j1, b1, j2 (eE n)]
            obtain ⟨q', k1, k2, k3⟩ := fin_po (n := n) (p := p) (qm := qm1) (q := q1) (tx := tx) (sz := sz) (by
              rcases j5 with ⟨p', i1, i2⟩ | i2
              · exact Or.inl ⟨p', by omega, i2⟩
              · exact Or.inr i2)
            exact ⟨_, _, rfl, k1, hfM'.trans j3, (hfQ'.trans j4).trans k2, k3⟩
    · rw [nc.2 h1, b1, h2, b1, if_neg (show ¬ (0 : Int32) ≤ -1 by decide), fail_r0 h5, b1]
      show ∃ qm' q', some (flM qm 1 (nI p)) = some qm' ∧ (bd1 (moQ4_fail n 1 (nI p) (s4S q 12 (nI (p + L)))) fun q_3 => (some q_3)) = some q' ∧ FM qm qm' ∧ FQ q q' ∧ PO tx sz p qm' q'
      rw [fail_c0 (show (s4S q 12 (nI (p + L))).1 13 = 0 from h13), b1]
      exact ⟨_, _, rfl, rfl, FM.rf.f, (FQ.rf.S (by decide)).f, Or.inr (Or.inl (FS_mk hQ1 (by decide) hi4))⟩
theorem rule_L {n sz : Nat} {tx : Nat → Nat} (hn : 200000 ≤ n) : ∀ (fuel i p0 : Nat) (qm : Pc3) (q : Pc4), i ≤ p0 → sz + 5 - p0 ≤ fuel → 2 ≤ fuel → PO tx sz p0 qm q → ∃ qm' q', (∀ K : Pc3 → Option Pc3, moM_readRule_L8 n K fuel qm = K qm') ∧ (∀ K : Pc4 → Option Pc4, moQ4_readRule_L43 n K fuel (nI i) q = K q') ∧ FM qm qm' ∧ FQ q q' ∧ ((∃ p', RS tx sz qm' q' p') ∨ FS tx sz qm' q') := by
  intro fuel
  induction fuel with
  | zero => intro i p0 qm q _ _ h; omega
  | succ u ih =>
    intro i p0 qm q hi hf h2 hP
    have idle : ¬ q.1 13 = 0 → ∀ K : Pc4 → Option Pc4, moQ4_readRule_L43 n K (u + 1) (nI i) q = K q := fun g K => by
      rw [moQ4_readRule_L43, if_neg (show ¬ r4S q 13 = 0 from g)]
      split <;> rfl
    rcases hP with ⟨p', h1, h, h3⟩ | h | ⟨p', g1, g2, g3, g4, g5, g6, g7, g8⟩
    · have hs := h.1.1
      have hps := h.1.2.2.2.2.2.2
      by_cases c : p' = sz
      · subst c
        refine ⟨qm, q, fun K => ?_, fun K => ?_, FM.rf, FQ.rf, Or.inl ⟨p', h⟩⟩
        · rw [moM_readRule_L8, if_pos (show rS qm 5 = 0 from h.2.2.2.1), show rS qm 4 = nI p' from h.2.1.2.2.1, show rS qm 7 = nI p' from h.2.1.2.2.2.2, if_pos (nI_le (Nat.le_refl _) (by omega))]
        · rw [moQ4_readRule_L43, if_pos (show r4S q 13 = 0 from h.2.2.1), show r4S q 11 = nI p' from h.1.2.2.2.1, show r4S q 12 = nI p' from h.1.2.2.2.2.2.1, if_pos (nI_le (Nat.le_refl _) (by omega))]
          split <;> rfl
      · have g59 : sg tx sz 59 p' = true := h3.resolve_left c
        have e59 : (ba tx sz p' = 59) ↔ sg tx sz 59 p' = true := ba_eq (c := 59) h.1.2.1 (by decide)
        obtain ⟨qm1, q1, f1, f2, f3, f4, f5⟩ := part_rc (n := n) hn (h.at (show p' + 1 ≤ sz by omega))
        obtain ⟨qm2, q2, j1, j2, j3, j4, j5⟩ := ih (i + 1) (p' + 1) qm1 q1 (by omega) (by omega) (by omega) f5
        refine ⟨qm2, q2, fun K => ?_, fun K => ?_, ((FM.rf.S (by decide)).trans f3).trans j3, ((FQ.rf.S (by decide)).trans f4).trans j4, j5⟩
        · rw [moM_readRule_L8, if_pos (show rS qm 5 = 0 from h.2.2.2.1), show rS qm 4 = nI sz from h.2.1.2.2.1, show rS qm 7 = nI p' from h.2.1.2.2.2.2, if_neg (nI_ge (by omega) (by omega)), byteAt_r h.2.1 (by omega), b1, if_pos (e59.mpr g59), nI_1, f1, b1, j1 K]
        · rw [moQ4_readRule_L43, if_neg (show ¬ (200 : Int32) ≤ nI i from nI_ge (b := 200) (by omega) (by decide)), if_pos (show r4S q 13 = 0 from h.2.2.1), show r4S q 11 = nI sz from h.1.2.2.2.1, show r4S q 12 = nI p' from h.1.2.2.2.2.2.1, if_neg (nI_ge (by omega) (by omega)), show moQ4_take n 59 q = _ from taken_c (c := 59) h.1 (by decide), if_pos g59, b1, f2, b1, nI_1, j2 K]
    · refine ⟨qm, q, fun K => ?_, idle h.ne, FM.rf, FQ.rf, Or.inr h⟩
      rw [moM_readRule_L8, if_neg (show ¬ rS qm 5 = 0 from h.nm.1)]
    · have hs := g3.1
      have e59 : (ba tx sz p' = 59) ↔ sg tx sz 59 p' = true := ba_eq (c := 59) g3.2.1 (by decide)
      refine ⟨flM qm 1 (nI p'), q, fun K => ?_, idle (by rw [g6]; exact n_10), FM.rf.f, FQ.rf, Or.inr ⟨g5, by rw [g6]; decide, g6, g7, g8⟩⟩
      rw [moM_readRule_L8, if_pos (show rS qm 5 = 0 from g4), show rS qm 4 = nI sz from g3.2.2.1, show rS qm 7 = nI p' from g3.2.2.2.2, if_neg (nI_ge (by omega) (by omega)), byteAt_r g3 (by omega), b1, if_neg (fun w => by rw [e59.mp w] at g2; cases g2), fail_r0 g4, b1]
      obtain ⟨v, rfl⟩ : ∃ v, u = v + 1 := ⟨u - 1, by omega⟩
      rw [moM_readRule_L8, if_neg (show ¬ rS (flM qm 1 (nI p')) 5 = 0 from n_10)]
