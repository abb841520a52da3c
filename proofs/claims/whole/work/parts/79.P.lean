/-! Pure: busiest, quiet. -/
theorem fillI_L {α : Type} {n len : Nat} {v : Int32} {f : Nat → Int32} {K0 : (Nat → Int32) → Option α} (hl : len < 2 ^ 31) : ∀ (fuel i : Nat) (q : Nat → Int32), i ≤ len → len - i < fuel → (∀ j, q j = if j < i then v else f j) → ∃ g, moQJ7_fill_53178_L5 n len K0 fuel v (nI i) (nI len) q = K0 g ∧ ∀ j, g j = if j < len then v else f j := by
  intro fuel
  induction fuel with
  | zero => intro i q _ h; omega
  | succ u ih =>
    intro i q hi hf hq
    rw [moQJ7_fill_53178_L5]
    by_cases c : len ≤ i
    · have : i = len := by omega
      subst this
      rw [if_pos (nI_le (Nat.le_refl _) hl)]
      exact ⟨q, rfl, hq⟩
    · rw [if_neg (nI_ge (by omega) hl), gi_in (by omega) hl, nI_1, nI_clamp (by omega)]
      refine ih (i + 1) _ (by omega) (by omega) (fun j => ?_)
      by_cases g : j = i
      · subst g; rw [upd_self, if_pos (by omega)]
      · rw [upd_ne g, hq j]
        by_cases g2 : j < i
        · rw [if_pos g2, if_pos (by omega)]
        · rw [if_neg g2, if_neg (by omega)]
theorem fillI_n {n len : Nat} {v : Int32} {f : Nat → Int32} (hn : len < n) (hl : len < 2 ^ 31) : ∃ g, moQJ7_fill_53178 n len v f = some g ∧ ∀ j, g j = if j < len then v else f j :=
  fillI_L (n := n) (K0 := fun q_3 => some q_3) hl n 0 f (by omega) (by omega) (fun j => by rw [if_neg (by omega)])
def mnN (qm : Pc3) (d : Nat) : Nat := cN (fun k => pk qm k d) 12
theorem many_L {α : Type} {n d : Nat} {q : Pc3} {K0 : Int32 → Option α} (hd : d < 109573) : ∀ (fuel k : Nat), k ≤ 12 → 12 - k < fuel → moM_manyAt_L4 n q K0 fuel (nI d) (nI (cN (fun k => pk q k d) k)) (nI k) = K0 (nI (mnN q d)) := by
  intro fuel
  induction fuel with
  | zero => intro i _ h; omega
  | succ u ih =>
    intro k hk hf
    rw [moM_manyAt_L4]
    by_cases c : 12 ≤ k
    · have : k = 12 := by omega
      subst this
      rw [if_pos (show (12 : Int32) ≤ nI 12 by decide)]
      rfl
    · have hs : cN (fun k => pk q k d) (k + 1) = _ := cN_s
      rw [if_neg (show ¬ (12 : Int32) ≤ nI k from nI_ge (b := 12) (by omega) (by decide)), gi_in (by omega) (by decide), r3n (by omega), comesAt_r (by omega) hd, b1, nI_1, nI_1]
      have hi := ih (k + 1) (by omega) (by omega)
      by_cases c4 : q.2.1 19 k = 0
      · rw [if_pos c4]
        rw [hs, show pk q k d = false from by unfold pk; rw [decide_eq_true c4]; rfl, if_neg (by decide)] at hi
        exact hi
      · rw [if_neg c4]
        cases hc : cm q k d with
        | false =>
          rw [if_pos (i01.mpr rfl)]
          rw [hs, show pk q k d = false from by unfold pk; rw [hc, Bool.and_false], if_neg (by decide)] at hi
          exact hi
        | true =>
          rw [if_neg (fun w => by rw [i01] at w; cases w)]
          rw [hs, show pk q k d = true from by unfold pk; rw [hc, decide_eq_false c4]; rfl, if_pos rfl] at hi
          exact hi
theorem many_n {n d : Nat} {q : Pc3} (hn : 200000 ≤ n) (hd : d < 109573) : moM_manyAt n (nI d) q = some (nI (mnN q d)) :=
  many_L (n := n) (K0 := fun z6_2 => some z6_2) hd n 0 (by omega) (by omega)
theorem mn_le (qm : Pc3) (d : Nat) : mnN qm d ≤ 12 := cN_le _ _
def bD (qm : Pc3) (a b : Nat) : Nat → Nat × Int32
  | 0 => (0, -1)
  | d + 1 => if (a ≤ d ∧ d ≤ b) ∧ (bD qm a b d).1 < mnN qm d then (mnN qm d, nI (dvN d)) else bD qm a b d
theorem bD_s {qm : Pc3} {a b d : Nat} : bD qm a b (d + 1) = if (a ≤ d ∧ d ≤ b) ∧ (bD qm a b d).1 < mnN qm d then (mnN qm d, nI (dvN d)) else bD qm a b d := rfl
theorem bD_le (qm : Pc3) (a b d : Nat) : (bD qm a b d).1 ≤ 12 := by
  induction d with
  | zero => exact Nat.zero_le _
  | succ d ih =>
    rw [bD_s]
    split
    · exact mn_le qm d
    · exact ih
theorem bD_c {qm : Pc3} {t : Int32} {a b d : Nat} : bD (sS qm 0 t) a b d = bD qm a b d := by
  induction d with
  | zero => rfl
  | succ d ih => rw [bD_s, bD_s, ih]; rfl
theorem bD_skip {qm : Pc3} {a b x y : Nat} (h : x ≤ y) (hz : ∀ i, x ≤ i → i < y → (a ≤ i ∧ i ≤ b) → mnN qm i ≤ (bD qm a b x).1) : bD qm a b y = bD qm a b x := by
  induction y with
  | zero => rw [Nat.le_zero.mp h]
  | succ y ih =>
    rcases Nat.lt_or_ge x (y + 1) with c | c
    · rw [bD_s, ih (by omega) (fun i g1 g2 => hz i g1 (by omega))]
      exact if_neg (fun w => by have := hz y (by omega) (by omega) w.1; omega)
    · rw [show x = y + 1 by omega]
theorem bD_top {qm : Pc3} {a b x y i0 M : Nat} (h1 : x ≤ i0) (h2 : i0 < y) (h3 : a ≤ i0 ∧ i0 ≤ b) (hM : mnN qm i0 = M) (hB : (bD qm a b x).1 < M) (h4 : ∀ i, x ≤ i → i < i0 → (a ≤ i ∧ i ≤ b) → mnN qm i < M) (h5 : ∀ i, i0 ≤ i → i < y → (a ≤ i ∧ i ≤ b) → mnN qm i ≤ M) : bD qm a b y = (M, nI (dvN i0)) := by
  have key : ∀ e, x + e ≤ i0 → (bD qm a b (x + e)).1 < M := by
    intro e
    induction e with
    | zero => intro _; exact hB
    | succ e ih =>
      intro he
      rw [← Nat.add_assoc, bD_s]
      split
      · rename_i g
        exact h4 (x + e) (by omega) (by omega) g.1
      · exact ih (by omega)
  have k0 := key (i0 - x) (by omega)
  rw [show x + (i0 - x) = i0 by omega] at k0
  have k1 : bD qm a b (i0 + 1) = (M, nI (dvN i0)) := by rw [bD_s, hM, if_pos ⟨h3, k0⟩]
  rw [bD_skip (x := i0 + 1) (y := y) (by omega) (fun i g1 g2 g3 => by rw [k1]; exact h5 i (by omega) g2 g3), k1]
theorem busiest_r {α : Type} {n a b : Nat} {q : Pc3} {K0 : Int32 → Pc3 → Option α} (hn : 200000 ≤ n) (hD : Dts q) (ht : rS q 0 = 0) (hb : b < 109573) : ∀ (fuel d : Nat), d ≤ 109573 → a ≤ d → 109573 - d < fuel → moM_busiest_L40 n K0 fuel (nI b) (nI (bD q a b d).1) (bD q a b d).2 (nI d) q = K0 (bD q a b 109573).2 q := by
  intro fuel
  induction fuel with
  | zero => intro i _ _ h; omega
  | succ u ih =>
    intro d hd ha hf
    have l1 := bD_le q a b d
    have l2 := mn_le q d
    rw [moM_busiest_L40]
    by_cases c1 : b < d
    · rw [if_pos (nI_lt c1 (by omega)), bD_skip (x := d) (y := 109573) hd (fun i g1 g2 g3 => by omega)]
    · have hi := ih (d + 1) (by omega) (by omega) (by omega)
      rw [if_neg (nI_nlt (by omega) (by omega)), if_pos ht, many_n hn (by omega), b1, nI_1]
      by_cases c2 : mnN q d ≤ (bD q a b d).1
      · rw [if_pos (nI_le c2 (by omega))]
        rw [bD_s, if_neg (fun w => by omega)] at hi
        exact hi
      · rw [if_neg (nI_ge (by omega) (by omega)), gi_in (by omega) (by decide), r3n (by omega), hD d (by omega)]
        rw [bD_s, if_pos ⟨⟨ha, by omega⟩, by omega⟩] at hi
        exact hi
-- the counters
def cr (v : Nat) (b : Bool) : Nat → Bool
  | 0 => b
  | i + 1 => v.testBit i && cr v b i
theorem cr_add : ∀ v, v < 15 → ∀ b : Bool, ∀ i, i < 4 → (v + (if b = true then 1 else 0)).testBit i = (v.testBit i ^^ cr v b i) := by decide +kernel
def Kc (q q' : Pc4) : Prop := q'.1 = q.1 ∧ (∀ a, a ≠ 13 → q'.2.1 a = q.2.1 a) ∧ q'.2.2 = q.2.2
theorem Kc.trans {q q' q'' : Pc4} (h : Kc q q') (h' : Kc q' q'') : Kc q q'' := ⟨h'.1.trans h.1, fun i hi => (h'.2.1 i hi).trans (h.2.1 i hi), h'.2.2.trans h.2.2⟩
theorem Kc.th {qm : Pc3} {z q q' : Pc4} (h : Kc q q') (hT : ∀ k, k < 12 → Th1 qm z q k) : ∀ k, k < 12 → Th1 qm z q' k := by
  intro k hk
  unfold Th1
  rw [h.2.1 15 (by decide)]
  exact hT k hk
theorem ct29 {α : Type} {n : Nat} {z : Pc4} {K0 : Int32 → Int32 → Int32 → Pc4 → Option α} {x1 x2 x3 : Int32} {v : Nat → Nat} {b : Nat → Bool} (hv : ∀ j, j < 32 → v j < 15) : ∀ (fuel i : Nat) (x4 : Int32) (q : Pc4), i ≤ 4 → 4 - i < fuel → (∀ j, j < 32 → bt x4 j = cr (v j) (b j) i) → (∀ i', i' < 4 → ∀ j, j < 32 → bt (q.2.1 13 i') j = if i' < i then (v j + (if b j = true then 1 else 0)).testBit i' else (v j).testBit i') → ∃ q', moQ7_countThings_L29 n z K0 fuel x1 x2 x3 x4 (nI i) q = K0 x1 x2 x3 q' ∧ (∀ i', i' < 4 → ∀ j, j < 32 → bt (q'.2.1 13 i') j = (v j + (if b j = true then 1 else 0)).testBit i') ∧ Kc q q' := by
  intro fuel
  induction fuel with
  | zero => intro i _ _ _ h; omega
  | succ u ih =>
    intro i x4 q hi hf hx hq
    rw [moQ7_countThings_L29]
    by_cases c : 4 ≤ i
    · have : i = 4 := by omega
      subst this
      rw [if_pos (show (4 : Int32) ≤ nI 4 by decide)]
      exact ⟨q, rfl, fun i' h' j hj => by rw [hq i' h' j hj, if_pos h'], rfl, fun _ _ => rfl, rfl⟩
    · have hi4 : i < 4 := by omega
      rw [if_neg (show ¬ (4 : Int32) ≤ nI i from nI_ge (b := 4) hi4 (by decide)), gi_in hi4 (by decide), gi_in hi4 (by decide), gi_in hi4 (by decide), r4n (by omega), nI_1]
      obtain ⟨q', e', A', K'⟩ := ih (i + 1) (q.2.1 13 i &&& x4) (s4A q 13 (nI i) (q.2.1 13 i ^^^ x4)) (by omega) (by omega) (fun j hj => by
        rw [b_and, hq i hi4 j hj, hx j hj, if_neg (Nat.lt_irrefl i)]; rfl) (fun i' h' j hj => by
        rw [s4A_k (by omega)]
        by_cases g : i' = i
        · subst g
          rw [upd_self, if_pos (by omega), b_xor, hq i' h' j hj, hx j hj, if_neg (Nat.lt_irrefl i'), cr_add _ (hv j hj) _ _ h']
        · rw [upd_ne g, hq i' h' j hj]
          by_cases g2 : i' < i
          · rw [if_pos g2, if_pos (show i' < i + 1 by omega)]
          · rw [if_neg g2, if_neg (show ¬ i' < i + 1 by omega)])
      exact ⟨q', e', A', K'.1, fun a ha => (K'.2.1 a ha).trans (s4A_ne ha), K'.2.2⟩
theorem ct10 {α : Type} {n m : Nat} {qm : Pc3} {z : Pc4} {K0 : Pc4 → Option α} {x2 : Int32} (hn : 200000 ≤ n) (hm : m < 3600) : ∀ (fuel k : Nat) (q : Pc4), k ≤ 12 → 12 - k < fuel → (∀ k, k < 12 → Th1 qm z q k) → (∀ i, i < 4 → ∀ j, j < 32 → bt (q.2.1 13 i) j = (cN (fun k => (bt x2 j && decide (j < mlN m)) && pk qm k (cumN m + j)) k).testBit i) → ∃ q', moQ7_countThings_L10 n z K0 fuel (nI m) x2 (nI k) q = K0 q' ∧ (∀ i, i < 4 → ∀ j, j < 32 → bt (q'.2.1 13 i) j = (cN (fun k => (bt x2 j && decide (j < mlN m)) && pk qm k (cumN m + j)) 12).testBit i) ∧ Kc q q' := by
  intro fuel
  induction fuel with
  | zero => intro i _ _ h; omega
  | succ u ih =>
    intro k q hk hf hT hq
    rw [moQ7_countThings_L10]
    by_cases c : 12 ≤ k
    · have : k = 12 := by omega
      subst this
      rw [if_pos (show (12 : Int32) ≤ nI 12 by decide)]
      exact ⟨q, rfl, hq, rfl, fun _ _ => rfl, rfl⟩
    · obtain ⟨w, ew, hw⟩ := dT_n (n := n) hT (show k < 12 by omega) hm
      rw [if_neg (show ¬ (12 : Int32) ≤ nI k from nI_ge (b := 12) (by omega) (by decide)), ew, b1]
      obtain ⟨q1, e1, A1, K1⟩ := ct29 (n := n) (z := z) (K0 := fun z8_1 z8_2 z8_3 q_8 => (moQ7_countThings_L10 n z K0 u z8_1 z8_2 (z8_3 + 1) q_8)) (x1 := nI m) (x2 := x2) (x3 := nI k) (v := fun j => cN (fun k => (bt x2 j && decide (j < mlN m)) && pk qm k (cumN m + j)) k) (b := fun j => (bt x2 j && decide (j < mlN m)) && pk qm k (cumN m + j)) (fun j hj => by have := cN_le (fun k => (bt x2 j && decide (j < mlN m)) && pk qm k (cumN m + j)) k; omega) n 0 (w &&& x2) q (by omega) (by omega) (fun j hj => by
        rw [b_and, hw j hj]
        show _ = ((bt x2 j && decide (j < mlN m)) && pk qm k (cumN m + j))
        cases bt x2 j <;> simp) (fun i hi j hj => by rw [if_neg (by omega)]; exact hq i hi j hj)
      have e1 : moQ7_countThings_L29 n z (fun z8_1 z8_2 z8_3 q_8 => (moQ7_countThings_L10 n z K0 u z8_1 z8_2 (z8_3 + 1) q_8)) n (nI m) x2 (nI k) (w &&& x2) 0 q = moQ7_countThings_L10 n z K0 u (nI m) x2 (nI k + 1) q1 := e1
      rw [e1, nI_1]
      obtain ⟨q2, e2, A2, K2⟩ := ih (k + 1) q1 (by omega) (by omega) (K1.th hT) A1
      exact ⟨q2, e2, A2, K1.trans K2⟩
theorem ct_n {n m : Nat} {qm : Pc3} {z q : Pc4} {x2 : Int32} (hn : 200000 ≤ n) (hm : m < 3600) (hT : ∀ k, k < 12 → Th1 qm z q k) : ∃ q', moQ7_countThings n z (nI m) x2 q = some q' ∧ (∀ i, i < 4 → ∀ j, j < 32 → bt (q'.2.1 13 i) j = (cN (fun k => (bt x2 j && decide (j < mlN m)) && pk qm k (cumN m + j)) 12).testBit i) ∧ Kc q q' := by
  unfold moQ7_countThings
  obtain ⟨g, eg, hg⟩ := fillI_n (n := n) (len := 4) (v := 0) (f := q.2.1 13) (by omega) (by decide)
  rw [eg, b1]
  have k0 : Kc q (s4F q 13 g) := ⟨rfl, fun a ha => s4F_ne ha, rfl⟩
  obtain ⟨q', e', A', K'⟩ := ct10 (n := n) (m := m) (qm := qm) (z := z) (K0 := fun q_9 => some q_9) (x2 := x2) hn hm n 0 (s4F q 13 g) (by omega) (by omega) (k0.th hT) (fun i hi j hj => by
    rw [show (s4F q 13 g).2.1 13 = g from va_up_self q.2.1 13 g, hg i, if_pos hi, b_0]
    exact (Nat.zero_testBit i).symm)
  exact ⟨q', e', A', k0.trans K'⟩
theorem or_bit : ∀ i, i < 4 → ∀ h, h < 16 → h * 2 ^ (i + 1) < 16 → nI (h * 2 ^ (i + 1)) ||| slI 1 (nI i) = nI ((2 * h + 1) * 2 ^ i) := by decide +kernel
theorem mx54 {α : Type} {n : Nat} {z q : Pc4} {K0 : Int32 → Int32 → Int32 → Int32 → Int32 → Int32 → Int32 → Int32 → Pc4 → Option α} {x1 x2 x3 x4 x5 x6 : Int32} {v : Nat → Nat} (hv : ∀ j, j < 32 → v j < 16) (hq : ∀ i, i < 4 → ∀ j, j < 32 → bt (q.2.1 13 i) j = (v j).testBit i) : ∀ (i fuel h : Nat) (x8 x9 : Int32), i ≤ 4 → i < fuel → x9 = nI i + (-1) → h * 2 ^ i < 16 → (∀ j, j < 32 → bt x8 j = (decide (j < 31) && decide (v j / 2 ^ i = h))) → (∃ j, j < 31 ∧ v j / 2 ^ i = h) → (∀ j, j < 31 → v j / 2 ^ i ≤ h) → ∃ M x8', moQ7_busiest_L54 n z K0 fuel x1 x2 x3 x4 x5 x6 (nI (h * 2 ^ i)) x8 x9 q = K0 x1 x2 x3 x4 x5 x6 (nI M) x8' q ∧ M < 16 ∧ (∀ j, j < 32 → bt x8' j = (decide (j < 31) && decide (v j = M))) ∧ (∃ j, j < 31 ∧ v j = M) ∧ (∀ j, j < 31 → v j ≤ M) := by
  intro i
  induction i with
  | zero =>
    intro fuel h x8 x9 _ hf e9 hh h8 hex hle
    obtain ⟨u, rfl⟩ : ∃ u, fuel = u + 1 := ⟨fuel - 1, by omega⟩
    subst e9
    rw [moQ7_busiest_L54, if_pos (show nI 0 + (-1) < 0 by decide)]
    simp only [Nat.pow_zero, Nat.mul_one, Nat.div_one] at *
    exact ⟨h, x8, rfl, hh, h8, hex, hle⟩
  | succ i ih =>
    intro fuel h x8 x9 hi4 hf e9 hh h8 hex hle
    obtain ⟨u, rfl⟩ : ∃ u, fuel = u + 1 := ⟨fuel - 1, by omega⟩
    subst e9
    have hp : 0 < 2 ^ i := Nat.two_pow_pos i
    have e2 : h * 2 ^ (i + 1) = 2 * h * 2 ^ i := by rw [Nat.pow_succ, Nat.mul_comm (2 ^ i) 2, ← Nat.mul_assoc, Nat.mul_comm h 2]
    have hdiv : ∀ j, v j / 2 ^ (i + 1) = v j / 2 ^ i / 2 := fun j => by rw [Nat.pow_succ, Nat.div_div_eq_div_mul]
    have htb : ∀ j, (v j).testBit i = decide (v j / 2 ^ i % 2 = 1) := fun j => Nat.testBit_eq_decide_div_mod_eq
    have hc : ∀ j, j < 32 → bt (x8 &&& q.2.1 13 i) j = ((decide (j < 31) && decide (v j / 2 ^ i / 2 = h)) && decide (v j / 2 ^ i % 2 = 1)) := fun j hj => by
      rw [b_and, h8 j hj, hq i (by omega) j hj, hdiv, htb]
    rw [dec_n (by omega), show i + 1 - 1 = i by omega, moQ7_busiest_L54, if_neg (show ¬ nI i < (0 : Int32) from nI_nlt (b := 0) (by omega) (by omega)), gi_in (by omega) (by decide), gi_in (by omega) (by decide), r4n (by omega)]
    by_cases c0 : (x8 &&& q.2.1 13 i) = 0
    · rw [if_pos c0, e2]
      have hz : ∀ j, j < 31 → v j / 2 ^ i / 2 = h → v j / 2 ^ i % 2 = 0 := fun j hj e => by
        have h1 := (bt_zero _).mp c0 j (by omega)
        rw [hc j (by omega), decide_eq_true hj, decide_eq_true e] at h1
        have h1 : ¬ v j / 2 ^ i % 2 = 1 := of_decide_eq_false h1
        omega
      refine ih u (2 * h) x8 _ (by omega) (by omega) rfl (by rw [← e2]; exact hh) (fun j hj => ?_) ?_ (fun j hj => ?_)
      · rw [h8 j hj, hdiv]
        by_cases g : j < 31
        · congr 1
          refine decide_eq_decide.mpr ⟨fun e => ?_, fun e => by omega⟩
          have := hz j g e
          omega
        · rw [decide_eq_false g]; rfl
      · obtain ⟨j, hj, e⟩ := hex
        rw [hdiv] at e
        have := hz j hj e
        exact ⟨j, hj, by omega⟩
      · have h1 := hle j hj
        rw [hdiv] at h1
        by_cases e : v j / 2 ^ i / 2 = h
        · have := hz j hj e
          omega
        · omega
    · rw [if_neg c0]
      obtain ⟨j0, hj0, hb0, -⟩ := lowbit c0
      rw [hc j0 hj0] at hb0
      have hb0 : (j0 < 31 ∧ v j0 / 2 ^ i / 2 = h) ∧ v j0 / 2 ^ i % 2 = 1 := by
        rw [Bool.and_eq_true, Bool.and_eq_true, decide_eq_true_iff, decide_eq_true_iff, decide_eq_true_iff] at hb0
        exact hb0
      have e0 : v j0 / 2 ^ i = 2 * h + 1 := by omega
      have h15 : (2 * h + 1) * 2 ^ i < 16 := by
        have h1 := Nat.div_mul_le_self (v j0) (2 ^ i)
        rw [e0] at h1
        have := hv j0 hj0
        omega
      have hh16 : h < 16 := by
        have := Nat.le_mul_of_pos_right h (Nat.two_pow_pos (i + 1))
        omega
      rw [or_bit i (by omega) h hh16 hh]
      refine ih u (2 * h + 1) (x8 &&& q.2.1 13 i) _ (by omega) (by omega) rfl h15 (fun j hj => ?_) ⟨j0, hb0.1.1, e0⟩ (fun j hj => ?_)
      · rw [hc j hj, Bool.and_assoc]
        congr 1
        rw [← Bool.decide_and]
        exact decide_eq_decide.mpr ⟨fun e => by omega, fun e => by omega⟩
      · have h1 := hle j hj
        rw [hdiv] at h1
        omega
theorem busiest_c {α : Type} {n m1 m2 k1 k2 : Nat} {x1 x2 : Int32} {qm : Pc3} {z : Pc4} {K0 : Int32 → Pc4 → Option α} (hn : 200000 ≤ n) (h1 : isD x1 m1 k1) (h2 : isD x2 m2 k2) : ∀ (fuel m : Nat) (q : Pc4), m ≤ 3600 → m1 ≤ m → 3600 - m < fuel → (∀ k, k < 12 → Th1 qm z q k) → ∃ q', moQ7_busiest_L25 n z K0 fuel x1 x2 (nI m2) (bD qm (cumN m1 + k1) (cumN m2 + k2) (cumN m)).2 (nI (bD qm (cumN m1 + k1) (cumN m2 + k2) (cumN m)).1) (nI m) q = K0 (bD qm (cumN m1 + k1) (cumN m2 + k2) 109573).2 q' ∧ Kc q q' := by
  intro fuel
  induction fuel with
  | zero => intro i _ _ _ h; omega
  | succ u ih =>
    intro m q hm ha hf hT
    have l2 := h2.1
    rw [moQ7_busiest_L25]
    by_cases c1 : m2 < m
    · rw [if_pos (nI_lt c1 (by omega)), bD_skip (x := cumN m) (y := 109573) (cum_le hm) (fun i g1 g2 g3 => by
        have := cum_lt c1
        have := h2.2.1
        omega)]
      exact ⟨q, rfl, rfl, fun _ _ => rfl, rfl⟩
    · have hm3 : m < 3600 := by omega
      have hl := mlN_b m
      obtain ⟨w, ew, hw⟩ := betw_n (n := n) h1 h2 ha (show m ≤ m2 by omega)
      obtain ⟨q1, e1, A1, K1⟩ := ct_n (n := n) (x2 := w) hn hm3 hT
      rw [if_neg (nI_nlt (by omega) (by omega)), ew, b1, e1, b1]
      generalize hvd : (fun j => cN (fun k => (bt w j && decide (j < mlN m)) && pk qm k (cumN m + j)) 12) = v at *
      have hv1 : ∀ j, v j = cN (fun k => (bt w j && decide (j < mlN m)) && pk qm k (cumN m + j)) 12 := fun j => by rw [← hvd]
      have hv12 : ∀ j, v j ≤ 12 := fun j => by rw [hv1]; exact cN_le _ _
      have hvin : ∀ j, j < mlN m → (cumN m1 + k1 ≤ cumN m + j ∧ cumN m + j ≤ cumN m2 + k2) → v j = mnN qm (cumN m + j) := fun j hj hr => by
        rw [hv1]
        exact cN_congr (fun k _ => by rw [hw j hj, decide_eq_true hr, decide_eq_true hj]; rfl)
      have hvout : ∀ j, v j ≠ 0 → j < mlN m ∧ (cumN m1 + k1 ≤ cumN m + j ∧ cumN m + j ≤ cumN m2 + k2) := fun j hj => by
        by_cases g : j < mlN m
        · refine ⟨g, Classical.byContradiction fun g2 => hj ?_⟩
          rw [hv1]
          exact cN_none (fun k _ => by rw [hw j g, decide_eq_false g2]; rfl)
        · exfalso
          apply hj
          rw [hv1]
          exact cN_none (fun k _ => by rw [decide_eq_false g, Bool.and_false]; rfl)
      obtain ⟨M, x8, e8, hM, hb8, ⟨j1, hj1, hj1M⟩, hle⟩ := mx54 (n := n) (z := z) (q := q1) (K0 := fun z12_1 z12_2 z12_3 z12_4 z12_5 z12_6 z12_7 z12_8 q_12 => (if z12_7 ≤ z12_5 then (moQ7_busiest_L25 n z K0 u z12_1 z12_2 z12_3 z12_4 z12_5 (z12_6 + 1) q_12) else (bd1 (moQJ6_numberOfTrailingZeros_0f7a4 n z12_8) fun r_14 => (bd1 (moQ0_dateAt n z12_6 r_14) fun r_15 => (moQ7_busiest_L25 n z K0 u z12_1 z12_2 z12_3 r_15 z12_7 (z12_6 + 1) q_12))))) (x1 := x1) (x2 := x2) (x3 := nI m2) (x4 := (bD qm (cumN m1 + k1) (cumN m2 + k2) (cumN m)).2) (x5 := nI (bD qm (cumN m1 + k1) (cumN m2 + k2) (cumN m)).1) (x6 := nI m) (v := v) (fun j hj => by have := hv12 j; omega) (fun i hi j hj => by rw [hv1]; exact A1 i hi j hj) 4 n 0 2147483647 3 (by omega) (by omega) (by decide) (by decide) (fun j hj => by
          rw [b_max j hj, show v j / 2 ^ 4 = 0 from by have := hv12 j; omega, decide_eq_true (show (0 : Nat) = 0 from rfl), Bool.and_true]) ⟨0, by decide, by have := hv12 0; omega⟩ (fun j _ => by have := hv12 j; omega)
      have e8 : moQ7_busiest_L54 n z (fun z12_1 z12_2 z12_3 z12_4 z12_5 z12_6 z12_7 z12_8 q_12 => (if z12_7 ≤ z12_5 then (moQ7_busiest_L25 n z K0 u z12_1 z12_2 z12_3 z12_4 z12_5 (z12_6 + 1) q_12) else (bd1 (moQJ6_numberOfTrailingZeros_0f7a4 n z12_8) fun r_14 => (bd1 (moQ0_dateAt n z12_6 r_14) fun r_15 => (moQ7_busiest_L25 n z K0 u z12_1 z12_2 z12_3 r_15 z12_7 (z12_6 + 1) q_12))))) n x1 x2 (nI m2) (bD qm (cumN m1 + k1) (cumN m2 + k2) (cumN m)).2 (nI (bD qm (cumN m1 + k1) (cumN m2 + k2) (cumN m)).1) (nI m) 0 2147483647 3 q1 = _ := e8
      rw [e8]
      have lB := bD_le qm (cumN m1 + k1) (cumN m2 + k2) (cumN m)
      have hmo : ∀ i, cumN m ≤ i → i < cumN (m + 1) → (cumN m1 + k1 ≤ i ∧ i ≤ cumN m2 + k2) → ∃ j, j < mlN m ∧ i = cumN m + j ∧ v j = mnN qm i := fun i g1 g2 g3 => by
        obtain ⟨j, hj, rfl⟩ := mk_of g1 g2
        exact ⟨j, hj, rfl, hvin j hj g3⟩
      obtain ⟨q2, e2, K2⟩ := ih (m + 1) q1 (by omega) (by omega) (by omega) (K1.th hT)
      refine ⟨q2, ?_, K1.trans K2⟩
      by_cases c2 : M ≤ (bD qm (cumN m1 + k1) (cumN m2 + k2) (cumN m)).1
      · rw [bD_skip (x := cumN m) (y := cumN (m + 1)) (by rw [cum_s]; omega) (fun i g1 g2 g3 => by
          obtain ⟨j, hj, rfl, e⟩ := hmo i g1 g2 g3
          have := hle j (by omega)
          omega)] at e2
        show (if nI M ≤ nI (bD qm (cumN m1 + k1) (cumN m2 + k2) (cumN m)).1 then _ else _) = _
        rw [if_pos (nI_le c2 (by omega)), nI_1]
        exact e2
      · have hx8 : x8 ≠ 0 := fun g => by
          have := (bt_zero x8).mp g j1 (by omega)
          rw [hb8 j1 (by omega), decide_eq_true hj1, decide_eq_true hj1M] at this
          cases this
        obtain ⟨j, hj, hbj, hlow, -, hntz⟩ := ntz_n (n := n) hx8
        rw [hb8 j hj, Bool.and_eq_true, decide_eq_true_iff, decide_eq_true_iff] at hbj
        obtain ⟨o1, o2⟩ := hvout j (by rw [hbj.2]; omega)
        have hmn : mnN qm (cumN m + j) = M := by rw [← hvin j o1 o2]; exact hbj.2
        rw [bD_top (x := cumN m) (y := cumN (m + 1)) (i0 := cumN m + j) (M := M) (by omega) (by rw [cum_s]; omega) o2 hmn (by omega) (fun i g1 g2 g3 => by
          obtain ⟨j', hj', rfl, e⟩ := hmo i g1 (by rw [cum_s]; omega) g3
          have t1 := hle j' (by omega)
          have t2 := hlow j' (by omega)
          rw [hb8 j' (by omega), decide_eq_true (show j' < 31 by omega), Bool.true_and] at t2
          have t2 := of_decide_eq_false t2
          omega) (fun i g1 g2 g3 => by
          obtain ⟨j', hj', rfl, e⟩ := hmo i (by omega) g2 g3
          have t1 := hle j' (by omega)
          omega)] at e2
        show (if nI M ≤ nI (bD qm (cumN m1 + k1) (cumN m2 + k2) (cumN m)).1 then _ else _) = _
        rw [if_neg (nI_ge (by omega) (by omega)), hntz, b1, dateAt_n hm3 (by omega), b1, nI_1, ← dv_mk o1]
        exact e2
theorem k_busiest {n : Nat} (hn : 200000 ≤ n) {qm : Pc3} {z q : Pc4} (f : Nat → Int64) (hI : Inv qm z q) (x1 x2 : Int32) : SK_busiest n qm z q f x1 x2 (fun qm z q _ => Inv qm z q) := by
  unfold SK_busiest moL_busiest moM_busiest moQ7_busiest moM_busiest_B28
  have thr : ∀ (x y v w : Int32) (K0 : Int32 → Pc3 → Option (Int32 × Pc3)), moM_busiest_L40 n K0 n x y v w (sS qm 0 1) = K0 v (sS qm 0 1) := by
    intro x y v w K0
    obtain ⟨u, rfl⟩ : ∃ u, n = u + 1 := ⟨n - 1, by omega⟩
    rw [moM_busiest_L40]
    by_cases c : x < w
    · rw [if_pos c]
    · rw [if_neg c, if_neg (show ¬ rS (sS qm 0 1) 0 = 0 from n_10)]
  have t1 : ¬ rS (sS qm 0 1) 0 ≤ 0 := by show ¬ (1 : Int32) ≤ 0; decide
  rcases date_or hn hI.1 x1 with ⟨m1, k1, hD, e3, e4, hdd, h31⟩ | ⟨e3, e4⟩
  · rcases date_or hn hI.1 x2 with ⟨m2, k2, hD', e3', e4', hdd', h31'⟩ | ⟨e3', e4'⟩
    · have s0 : ∀ d, d ≤ cumN m1 + k1 → bD qm (cumN m1 + k1) (cumN m2 + k2) d = (0, -1) := fun d hd => bD_skip (x := 0) (by omega) (fun i g1 g2 g3 => by omega)
      obtain ⟨q1, e1, K1⟩ := busiest_c (n := n) (qm := qm) (z := z) (K0 := fun z16_4 q_16 => (some (.inr (z16_4, q_16)) : Option (Nat ⊕ (Int32 × Pc4)))) hn hD hD' n m1 q (by have := hD.1; omega) (Nat.le_refl _) (by omega) hI.2.2.2.2.2.2.1
      have e2 := busiest_r (n := n) (a := cumN m1 + k1) (q := sS qm 0 0) (K0 := fun z9_6 q_9 => (if (rS q_9 0) ≤ 0 then (some (z9_6, q_9)) else (some (0, q_9)))) hn hI.1 rfl hdd' n (cumN m1 + k1) (by omega) (Nat.le_refl _) (by omega)
      rw [s0 _ (by omega)] at e1
      rw [bD_c, bD_c, s0 _ (Nat.le_refl _)] at e2
      have e1 : moQ7_busiest_L25 n z (fun z16_4 q_16 => (some (.inr (z16_4, q_16)) : Option (Nat ⊕ (Int32 × Pc4)))) n x1 x2 (nI m2) (-1) 0 (nI m1) q = _ := e1
      have e2 : moM_busiest_L40 n (fun z9_6 q_9 => (if (rS q_9 0) ≤ 0 then (some (z9_6, q_9)) else (some (0, q_9)))) n (nI (cumN m2 + k2)) 0 (-1) (nI (cumN m1 + k1)) (sS qm 0 0) = _ := e2
      rw [e3, bxr, e3', bxr, monthOf_d hD', b1, monthOf_d hD, b1, e1, e4, b1, e4', b1, if_neg (show ¬ nI (cumN m1 + k1) < (0 : Int32) from nI_nlt (b := 0) (by omega) (by omega)), if_pos (ge0 hdd'), e2]
      refine ⟨_, _, _, rfl, if_pos (show rS (sS qm 0 0) 0 ≤ 0 from by show (0 : Int32) ≤ 0; decide), rfl, fun _ => upL_0 (f := f), ?_⟩
      show Inv (sS qm 0 0) z q1
      have hI2 : Inv (sS qm 0 0) z q := hI
      revert hI2
      unfold Inv Fst Th1
      rw [K1.1, K1.2.2, K1.2.1 1 (by decide), K1.2.1 3 (by decide), K1.2.1 15 (by decide)]
      exact id
    · rw [e3, bxr, e3', bxl, e4, b1, e4', b1, if_neg (show ¬ nI (cumN m1 + k1) < (0 : Int32) from nI_nlt (b := 0) (by omega) (by omega)), if_neg (show ¬ (0 : Int32) ≤ -1 by decide), thr]
      exact ⟨_, _, _, rfl, if_neg t1, rfl, fun w => absurd w n_10, hI⟩
  · obtain ⟨r, er⟩ : ∃ r, moM_dayOf n x2 qm = some r := by
      rcases date_or hn hI.1 x2 with ⟨m, kk, hD, e3, e4, hdd, h31⟩ | ⟨e3, e4⟩
      · exact ⟨_, e4⟩
      · exact ⟨_, e4⟩
    rw [e3, bxl, e4, b1, er, b1, if_pos (show (-1 : Int32) < 0 by decide), thr]
    exact ⟨_, _, _, rfl, if_neg t1, rfl, fun w => absurd w n_10, hI⟩
-- quiet
def QW (qm : Pc3) (a w s : Nat) : Prop := a ≤ s ∧ s + w ≤ 109573 ∧ ∀ i, s ≤ i → i < s + w → an qm i 12 = false
def QV (qm : Pc3) (a w s : Nat) : Prop := QW qm a w s ∧ ∀ s', QW qm a w s' → s ≤ s'
def QI (qm : Pc3) (a w s p : Nat) : Prop := a ≤ s ∧ (s ≤ p ∨ s = a) ∧ (∀ i, s ≤ i → i < p → an qm i 12 = false) ∧ ∀ s', QW qm a w s' → s ≤ s'
theorem an_mn {qm : Pc3} {d : Nat} : ∀ k, (an qm d k = false ↔ cN (fun k => pk qm k d) k = 0) := by
  intro k
  induction k with
  | zero => exact ⟨fun _ => rfl, fun _ => rfl⟩
  | succ k ih =>
    rw [an_s, cN_s, Bool.or_eq_false_iff, ih]
    show _ ↔ cN (fun k => pk qm k d) k + (if pk qm k d = true then 1 else 0) = 0
    cases pk qm k d <;> simp
theorem quiet83 {α : Type} {n m a w : Nat} {x1 x3 : Int32} {qm : Pc3} {z q : Pc4} {K0 : Int32 → Int32 → Int32 → Int32 → Int32 → Option α} {K1 : Int32 → Option α} (hF : Fst q) (hm : m < 3600) (hw : w ≤ 1000) (ha : a < 109573) : ∀ (fuel j0 : Nat) (y : Int32) (s : Nat), j0 ≤ mlN m → pcN y < fuel → (∀ i, i < 32 → bt y i = (decide (j0 ≤ i ∧ i < mlN m) && (decide (a ≤ cumN m + i) && an qm (cumN m + i) 12))) → QI qm a w s (cumN m + j0) →
    (∃ s', s' < 109573 ∧ QV qm a w s' ∧ moQ7_quiet_L83 n z q K0 K1 fuel x1 (nI w) x3 (nI s) (nI m) y (nI (pcN y)) = K1 (nI s')) ∨ (∃ s', QI qm a w s' (cumN (m + 1)) ∧ moQ7_quiet_L83 n z q K0 K1 fuel x1 (nI w) x3 (nI s) (nI m) y (nI (pcN y)) = K0 x1 (nI w) x3 (nI s') (nI m)) := by
  intro fuel
  induction fuel with
  | zero => intro k y q _ h; omega
  | succ u ih =>
    intro j0 y s hj0 hf hy hQ
    have hl := mlN_b m
    have hp : pcN y ≤ 32 := cN_le _ _
    have hcm := cum_le (show m + 1 ≤ 3600 by omega)
    rw [cum_s] at hcm
    rw [moQ7_quiet_L83]
    obtain ⟨q1, q2, q3, q4⟩ := hQ
    have free : ∀ i, cumN m + j0 ≤ i → i < cumN m + mlN m → a ≤ i → bt y (i - cumN m) = false → an qm i 12 = false := fun i g1 g2 g3 g4 => by
      obtain ⟨j, rfl⟩ : ∃ j, i = cumN m + j := ⟨i - cumN m, by omega⟩
      have h1 := hy j (by omega)
      rw [show cumN m + j - cumN m = j by omega] at g4
      rw [g4, decide_eq_true (show j0 ≤ j ∧ j < mlN m by omega), decide_eq_true g3] at h1
      exact h1.symm
    by_cases c : y = 0
    · have hp0 : pcN y = 0 := pc_zero.mpr c
      rw [hp0, if_pos (show nI 0 ≤ (0 : Int32) by decide)]
      refine Or.inr ⟨s, ⟨q1, ?_, fun i g1 g2 => ?_, q4⟩, rfl⟩
      · rcases q2 with g | g
        · exact Or.inl (by rw [cum_s]; omega)
        · exact Or.inr g
      · rw [cum_s] at g2
        rcases Nat.lt_or_ge i (cumN m + j0) with g | g
        · exact q3 i g1 g
        · exact free i g g2 (by omega) ((bt_zero y).mp c _ (by omega))
    · obtain ⟨k, hk, h1, h2, h3, h4⟩ := ntz_n (n := n) c
      have hpc := pc_low hk h1 h3
      have hyk := hy k hk
      rw [h1] at hyk
      have hyk : (j0 ≤ k ∧ k < mlN m) ∧ a ≤ cumN m + k ∧ an qm (cumN m + k) 12 = true := by
        have := hyk.symm
        rw [Bool.and_eq_true, Bool.and_eq_true, decide_eq_true_iff, decide_eq_true_iff] at this
        exact this
      have hse : s ≤ cumN m + k := by omega
      rw [if_neg (show ¬ nI (pcN y) ≤ (0 : Int32) from nI_ge (a := 0) (by omega) (by omega)), gi_in (by omega) (by decide), h4, b1, r4n (by omega), hF m (by omega), nI_add, pk_sub hse, nI_1]
      have fr : ∀ i, s ≤ i → i < cumN m + k → an qm i 12 = false := fun i g1 g2 => by
        rcases Nat.lt_or_ge i (cumN m + j0) with g | g
        · exact q3 i g1 g
        · exact free i g (by omega) (by omega) (h2 _ (by omega))
      by_cases c2 : cumN m + k - s < w
      · rw [if_pos (nI_lt c2 (by omega)), dec_n (by omega), show pcN y - 1 = pcN (y &&& (y - 1)) by omega]
        refine ih (k + 1) (y &&& (y - 1)) (cumN m + k + 1) (by omega) (by omega) (fun i hi => ?_) ⟨by omega, Or.inl (by omega), fun i g1 g2 => by omega, fun s' hs' => ?_⟩
        · rw [h3 i hi]
          by_cases g : i ≤ k
          · rw [decide_eq_false (show ¬ (k + 1 ≤ i ∧ i < mlN m) by omega)]
            rcases Nat.lt_or_ge i k with g' | g'
            · rw [h2 i g']; rfl
            · rw [decide_eq_true (show i = k by omega)]; simp
          · rw [hy i hi, decide_eq_false (show ¬ i = k by omega)]
            by_cases g2 : i < mlN m
            · rw [decide_eq_true (show j0 ≤ i ∧ i < mlN m by omega), decide_eq_true (show k + 1 ≤ i ∧ i < mlN m by omega)]; simp
            · rw [decide_eq_false (show ¬ (j0 ≤ i ∧ i < mlN m) by omega), decide_eq_false (show ¬ (k + 1 ≤ i ∧ i < mlN m) by omega)]; rfl
        · have t1 := q4 s' hs'
          rcases Nat.lt_or_ge (cumN m + k) s' with t | t
          · omega
          · have := hs'.2.2 (cumN m + k) t (by omega)
            rw [hyk.2.2] at this
            cases this
      · rw [if_neg (nI_nlt (by omega) (by omega))]
        exact Or.inl ⟨s, by omega, ⟨⟨q1, by omega, fun i g1 g2 => fr i g1 (by omega)⟩, q4⟩, rfl⟩
theorem quiet_c {α : Type} {n m1 k1 w : Nat} {x1 : Int32} {qm : Pc3} {z q : Pc4} {K0 : Int32 → Int32 → Option α} {K1 : Int32 → Option α} (hn : 200000 ≤ n) (hF : Fst q) (hT : ∀ k, k < 12 → Th1 qm z q k) (h1 : isD x1 m1 k1) (hw : w ≤ 1000) : ∀ (fuel m s : Nat), m ≤ 3600 → m1 ≤ m → 3600 - m < fuel → QI qm (cumN m1 + k1) w s (cumN m) →
    (∃ s', s' < 109573 ∧ QV qm (cumN m1 + k1) w s' ∧ moQ7_quiet_L42 n z q K0 K1 fuel x1 (nI w) (nI m1) (nI s) (nI m) = K1 (nI s')) ∨ (∃ s', QI qm (cumN m1 + k1) w s' 109573 ∧ moQ7_quiet_L42 n z q K0 K1 fuel x1 (nI w) (nI m1) (nI s) (nI m) = K0 (nI w) (nI s')) := by
  intro fuel
  induction fuel with
  | zero => intro i _ _ _ h; omega
  | succ u ih =>
    intro m s hm ha hf hQ
    rw [moQ7_quiet_L42]
    by_cases c1 : 3600 ≤ m
    · have : m = 3600 := by omega
      subst this
      rw [if_pos (show (3600 : Int32) ≤ nI 3600 by decide)]
      rw [cum_top] at hQ
      exact Or.inr ⟨s, hQ, rfl⟩
    · have hm3 : m < 3600 := by omega
      have hl := mlN_b m
      obtain ⟨v, ev, hv⟩ := busy_n (n := n) hn hT hm3
      have l1 := h1.1
      have g31 := h1.k31
      rw [if_neg (show ¬ (3600 : Int32) ≤ nI m from nI_ge (b := 3600) hm3 (by decide)), ev, b1, dayOf_d h1, b1]
      have fin : ∀ mask : Int32, (∀ j, j < mlN m → bt mask j = decide (cumN m1 + k1 ≤ cumN m + j)) → (∃ s', s' < 109573 ∧ QV qm (cumN m1 + k1) w s' ∧ moQ7_quiet_B73 n z q (fun z19_1 z19_2 z19_3 z19_4 z19_5 => (moQ7_quiet_L42 n z q K0 K1 u z19_1 z19_2 z19_3 z19_4 z19_5 )) (fun z20_4 => (K1 z20_4 )) x1 (nI w) (nI m1) (nI s) (nI m) mask v = K1 (nI s')) ∨ (∃ s', QI qm (cumN m1 + k1) w s' 109573 ∧ moQ7_quiet_B73 n z q (fun z19_1 z19_2 z19_3 z19_4 z19_5 => (moQ7_quiet_L42 n z q K0 K1 u z19_1 z19_2 z19_3 z19_4 z19_5 )) (fun z20_4 => (K1 z20_4 )) x1 (nI w) (nI m1) (nI s) (nI m) mask v = K0 (nI w) (nI s')) := by
        intro mask hmask
        unfold moQ7_quiet_B73
        rw [bitCount_n, b1]
        have hp : pcN (v &&& mask) ≤ 32 := cN_le _ _
        rcases quiet83 (n := n) (m := m) (a := cumN m1 + k1) (w := w) (x1 := x1) (x3 := nI m1) (qm := qm) (z := z) (q := q) (K0 := fun z14_1 z14_2 z14_3 z14_4 z14_5 => (moQ7_quiet_L42 n z q K0 K1 u z14_1 z14_2 z14_3 z14_4 (z14_5 + 1) )) (K1 := fun z15_4 => (K1 z15_4 )) hF hm3 hw (cum_in h1.1 h1.2.1) n 0 (v &&& mask) s (by omega) (by omega) (fun i hi => by
          rw [b_and, hv i hi]
          by_cases g : i < mlN m
          · rw [hmask i g, decide_eq_true g, decide_eq_true (show 0 ≤ i ∧ i < mlN m by omega)]
            cases an qm (cumN m + i) 12 <;> simp
          · rw [decide_eq_false g, decide_eq_false (show ¬ (0 ≤ i ∧ i < mlN m) by omega)]; rfl) hQ with ⟨s', i1, i2, i3⟩ | ⟨s', i2, i3⟩
        · exact Or.inl ⟨s', i1, i2, i3⟩
        · have := ih (m + 1) s' (by omega) (by omega) (by omega) i2
          rw [i3]
          show (∃ s'', s'' < 109573 ∧ QV qm (cumN m1 + k1) w s'' ∧ moQ7_quiet_L42 n z q K0 K1 u x1 (nI w) (nI m1) (nI s') (nI m + 1) = K1 (nI s'')) ∨ (∃ s'', QI qm (cumN m1 + k1) w s'' 109573 ∧ moQ7_quiet_L42 n z q K0 K1 u x1 (nI w) (nI m1) (nI s') (nI m + 1) = K0 (nI w) (nI s''))
          rw [nI_1]
          exact this
      by_cases ce : m = m1
      · rw [if_pos (by rw [ce])]
        exact fin _ (fun j hj => by
          rw [b_frm k1 g31 j (by omega)]
          subst ce
          exact decide_eq_decide.mpr ⟨fun h => by omega, fun h => by omega⟩)
      · rw [if_neg (fun w => ce ((nI_eq (by omega) (by omega)).mp w))]
        exact fin _ (fun j hj => by
          rw [b_max j (by omega), decide_eq_true (show j < 31 by omega)]
          have := cum_lt (show m1 < m by omega)
          have := h1.2.1
          exact (decide_eq_true (by omega)).symm)
theorem quiet_r {α : Type} {n a w : Nat} {q : Pc3} {K0 : Pc3 → Option α} {K1 : Int32 → Int32 → Pc3 → Option α} (hn : 200000 ≤ n) (hw : 1 ≤ w ∧ w ≤ 1000) : ∀ (fuel d r : Nat), d ≤ 109573 → a + r ≤ d → 109573 - d < fuel → r < w → (∀ i, d - r ≤ i → i < d → an q i 12 = false) → (d - r = a ∨ ∃ e, e + 1 = d - r ∧ an q e 12 = true) → (∀ s', QW q a w s' → d < s' + w) →
    (∃ s, QV q a w s ∧ moM_quiet_L46 n K0 K1 fuel (nI w) (nI r) (nI d) q = K1 (nI w) (nI (s + w - 1)) q) ∨ ((∀ s', ¬ QW q a w s') ∧ moM_quiet_L46 n K0 K1 fuel (nI w) (nI r) (nI d) q = K0 q) := by
  intro fuel
  induction fuel with
  | zero => intro i _ _ _ h; omega
  | succ u ih =>
    intro d r hd har hf hr hfree hst hno
    rw [moM_quiet_L46]
    by_cases c1 : 109573 ≤ d
    · rw [if_pos (show (109573 : Int32) ≤ nI d from nI_le (a := 109573) c1 (by omega))]
      exact Or.inr ⟨fun s' hs' => by have := hno s' hs'; have := hs'.2.1; omega, rfl⟩
    · have hm := mn_le q d
      rw [if_neg (show ¬ (109573 : Int32) ≤ nI d from nI_ge (b := 109573) (by omega) (by decide)), many_n hn (by omega), b1, nI_1, nI_1]
      by_cases c2 : mnN q d = 0
      · have hfd : an q d 12 = false := (an_mn 12).mpr c2
        rw [if_pos (show nI (mnN q d) = 0 from by rw [c2]; rfl)]
        by_cases c3 : r + 1 = w
        · rw [if_pos (by rw [c3])]
          refine Or.inl ⟨d - r, ⟨⟨by omega, by omega, fun i g1 g2 => ?_⟩, fun s' hs' => by have := hno s' hs'; omega⟩, by rw [show d - r + w - 1 = d by omega]⟩
          rcases Nat.lt_or_ge i d with g | g
          · exact hfree i g1 g
          · rw [show i = d by omega]; exact hfd
        · rw [if_neg (fun g => c3 ((nI_eq (by omega) (by omega)).mp g))]
          refine ih (d + 1) (r + 1) (by omega) (by omega) (by omega) (by omega) (fun i g1 g2 => ?_) ?_ (fun s' hs' => ?_)
          · rcases Nat.lt_or_ge i d with g | g
            · exact hfree i (by omega) g
            · rw [show i = d by omega]; exact hfd
          · rcases hst with g | ⟨e, g1, g2⟩
            · exact Or.inl (by omega)
            · exact Or.inr ⟨e, by omega, g2⟩
          · have t := hno s' hs'
            rcases Nat.lt_or_ge (d + 1) (s' + w) with g | g
            · exact g
            · exfalso
              rcases hst with g' | ⟨e, g1, g2⟩
              · have := hs'.1; omega
              · have := hs'.2.2 e (by omega) (by omega)
                rw [g2] at this
                cases this
      · have hbd : an q d 12 = true := by
          cases h : an q d 12 with
          | true => rfl
          | false => exact absurd ((an_mn 12).mp h) c2
        rw [if_neg (show ¬ nI (mnN q d) = 0 from fun g => c2 ((nI_eq (b := 0) (by omega) (by decide)).mp g)), if_neg (show ¬ (0 : Int32) = nI w from fun g => by have := (nI_eq (a := 0) (by decide) (by omega)).mp g; omega)]
        refine ih (d + 1) 0 (by omega) (by omega) (by omega) (by omega) (fun i g1 g2 => by omega) (Or.inr ⟨d, by omega, hbd⟩) (fun s' hs' => ?_)
        have t := hno s' hs'
        rcases Nat.lt_or_ge (d + 1) (s' + w) with g | g
        · exact g
        · have := hs'.2.2 d (by omega) (by omega)
          rw [hbd] at this
          cases this
theorem sub_1 {x y : Int32} : (x - y) + 1 = (x + 1) - y := by
  rw [Int32.sub_eq_add_neg, Int32.sub_eq_add_neg, Int32.add_assoc, Int32.add_comm (-y), ← Int32.add_assoc]
theorem k_quiet {n : Nat} (hn : 200000 ≤ n) {qm : Pc3} {z q : Pc4} (f : Nat → Int64) (hI : Inv qm z q) (x1 x2 : Int32) : SK_quiet n qm z q f x1 x2 (fun qm z q _ => Inv qm z q) := by
  unfold SK_quiet moL_quiet moM_quiet moQ7_quiet moM_quiet_B28
  have t1 : ¬ rS (sS qm 0 1) 0 ≤ 0 := by show ¬ (1 : Int32) ≤ 0; decide
  rcases date_or hn hI.1 x1 with ⟨m1, k1, hD, e3, e4, hdd, h31⟩ | ⟨e3, e4⟩
  · rw [e3, bxr, e4, b1, if_neg (show ¬ nI (cumN m1 + k1) < (0 : Int32) from nI_nlt (b := 0) (by omega) (by omega)), monthOf_d hD, b1, numberOf_d hI.2.2.1 hD, b1]
    by_cases c1 : x2 < 1
    · rw [if_pos c1, if_pos c1, if_neg t1]
      exact ⟨_, _, _, rfl, rfl, rfl, fun w => absurd w n_10, hI⟩
    · rw [if_neg c1, if_neg c1]
      by_cases c2 : x2 ≤ 1000
      · have hp : ¬ x2 < 0 := fun h => c1 (Int32.lt_iff_toInt_lt.mpr (by
          have := Int32.lt_iff_toInt_lt.mp h
          rw [show (0 : Int32).toInt = 0 from by decide] at this
          rw [show (1 : Int32).toInt = 1 from by decide]; omega))
        obtain ⟨w, hw, rfl⟩ := nI_of2 (M := 1000) (n := 1000) (by decide) hp c2
        have hw1 : 1 ≤ w := by
          rcases Nat.lt_or_ge w 1 with c | c
          · exact absurd (show nI w < nI 1 from nI_lt c (by decide)) c1
          · exact c
        have er := quiet_r (n := n) (a := cumN m1 + k1) (w := w) (q := sS qm 0 0) (K0 := fun q_9 => some ((-1 : Int32), q_9)) (K1 := fun z10_2 z10_5 q_10 => (gi ((z10_5 - z10_2) + 1) 109573 (some ((rA q_10 1 ((z10_5 - z10_2) + 1)), q_10)))) hn ⟨hw1, by omega⟩ n (cumN m1 + k1) 0 (by omega) (by omega) (by omega) (by omega) (fun i g1 g2 => by omega) (Or.inl (by omega)) (fun s' hs' => by have := hs'.1; omega)
        have ec := quiet_c (n := n) (w := w) (qm := qm) (z := z) (q := q) (K0 := fun z21_2 z21_4 => (gi 3600 3601 (if ((r4A q 3 3600) - z21_4) < z21_2 then (some (.inr (-1)) : Option (Nat ⊕ Int32)) else (bd1 (moQ0_dateOf n z21_4 q) fun r_24 => (some (.inr r_24)))))) (K1 := fun z25_4 => (bd1 (moQ0_dateOf n z25_4 q) fun r_26 => (some (.inr r_26)))) hn hI.2.2.1 hI.2.2.2.2.2.2.1 hD (by omega) n m1 (cumN m1 + k1) (by have := hD.1; omega) (Nat.le_refl _) (by omega) ⟨Nat.le_refl _, Or.inr rfl, fun i g1 g2 => by omega, fun s' hs' => hs'.1⟩
        rw [if_pos c2, if_pos c2, if_pos (show rS (sS qm 0 0) 0 ≤ 0 from by show (0 : Int32) ≤ 0; decide)]
        have yes : ∀ s, QV (sS qm 0 0) (cumN m1 + k1) w s → gi ((nI (s + w - 1) - nI w) + 1) 109573 (some ((rA (sS qm 0 0) 1 ((nI (s + w - 1) - nI w) + 1)), (sS qm 0 0))) = some (nI (dvN s), sS qm 0 0) := fun s hs => by
          have h1 := hs.1.2.1
          rw [sub_1, nI_1, pk_sub (show w ≤ s + w - 1 + 1 by omega), show s + w - 1 + 1 - w = s by omega, gi_in (by omega) (by decide), r3n (by omega), show (sS qm 0 0).2.1 1 s = nI (dvN s) from hI.1 s (by omega)]
        have top : r4A q 3 3600 = nI 109573 := by
          have := hI.2.2.1 3600 (Nat.le_refl _)
          rw [cum_top] at this
          rw [show (3600 : Int32) = nI 3600 from rfl, r4n (by decide)]
          exact this
        have fin : ∀ s, s < 109573 → QV qm (cumN m1 + k1) w s → ∀ o, o = (bd1 (moQ0_dateOf n (nI s) q) fun r_26 => (some (.inr r_26) : Option (Nat ⊕ Int32))) → ∃ res r qm1, hL1 0 o z q f (fun x => (0, z, q, vp_updL f 0 x.toInt64)) = some res ∧ moM_quiet_L46 n (fun q_9 => some ((-1 : Int32), q_9)) (fun z10_2 z10_5 q_10 => (gi ((z10_5 - z10_2) + 1) 109573 (some ((rA q_10 1 ((z10_5 - z10_2) + 1)), q_10)))) n (nI w) 0 (nI (cumN m1 + k1)) (sS qm 0 0) = some (r, qm1) ∧ moM_thrown n qm1 = some res.1 ∧ (res.1 = 0 → res.2.2.2 0 = r.toInt64) ∧ Inv qm1 res.2.1 res.2.2.1 := by
          intro s hs hQ o ho
          subst ho
          rw [dateOf_d hn hI.2.2.1 hs, b1]
          rcases er with ⟨s', hs', er⟩ | ⟨hno, er⟩
          · have es : s' = s := Nat.le_antisymm (hs'.2 s hQ.1) (hQ.2 s' hs'.1)
            subst es
            have er : moM_quiet_L46 n (fun q_9 => some ((-1 : Int32), q_9)) (fun z10_2 z10_5 q_10 => (gi ((z10_5 - z10_2) + 1) 109573 (some ((rA q_10 1 ((z10_5 - z10_2) + 1)), q_10)))) n (nI w) 0 (nI (cumN m1 + k1)) (sS qm 0 0) = _ := er
            rw [er]
            exact ⟨_, _, _, rfl, yes s' hs', rfl, fun _ => upL_0 (f := f), hI⟩
          · exact absurd hQ.1 (hno s)
        rcases ec with ⟨s, i1, i2, ec⟩ | ⟨s, i2, ec⟩
        · exact fin s i1 i2 _ ec
        · by_cases c3 : 109573 - s < w
          · have hs9 : s ≤ 109573 := by
              rcases i2.2.1 with g | g
              · exact g
              · omega
            have ec : _ = gi 3600 3601 (if ((r4A q 3 3600) - nI s) < nI w then (some (.inr (-1)) : Option (Nat ⊕ Int32)) else (bd1 (moQ0_dateOf n (nI s) q) fun r_24 => (some (.inr r_24)))) := ec
            rw [ec, show (3600 : Int32) = nI 3600 from rfl, gi_in (by decide) (by decide), show r4A q 3 (nI 3600) = nI 109573 from top, pk_sub hs9, if_pos (nI_lt c3 (by omega))]
            rcases er with ⟨s', hs', er⟩ | ⟨hno, er⟩
            · have := i2.2.2.2 s' hs'.1
              have := hs'.1.2.1
              omega
            · have er : moM_quiet_L46 n (fun q_9 => some ((-1 : Int32), q_9)) (fun z10_2 z10_5 q_10 => (gi ((z10_5 - z10_2) + 1) 109573 (some ((rA q_10 1 ((z10_5 - z10_2) + 1)), q_10)))) n (nI w) 0 (nI (cumN m1 + k1)) (sS qm 0 0) = _ := er
              rw [er]
              exact ⟨_, _, _, rfl, rfl, rfl, fun _ => upL_0 (f := f), hI⟩
          · refine fin s (by omega) ⟨⟨i2.1, by omega, fun i g1 g2 => i2.2.2.1 i g1 (by omega)⟩, i2.2.2.2⟩ _ ?_
            rw [ec]
            show gi (nI 3600) 3601 (if ((r4A q 3 (nI 3600)) - nI s) < nI w then (some (.inr (-1)) : Option (Nat ⊕ Int32)) else (bd1 (moQ0_dateOf n (nI s) q) fun r_24 => (some (.inr r_24)))) = _
            rw [gi_in (by decide) (by decide), show r4A q 3 (nI 3600) = nI 109573 from top, pk_sub (by omega), if_neg (nI_nlt (by omega) (by omega))]
      · rw [if_neg c2, if_neg c2, if_neg t1]
        exact ⟨_, _, _, rfl, rfl, rfl, fun w => absurd w n_10, hI⟩
  · rw [e3, bxl, e4, b1, if_pos (show (-1 : Int32) < 0 by decide), if_neg t1]
    exact ⟨_, _, _, rfl, rfl, rfl, fun w => absurd w n_10, hI⟩
