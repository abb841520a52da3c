/-! Pure: reading a rule: the text, its letters, the names. -/
def ba (tx : Nat → Nat) (sz i : Nat) : Int32 := if i < sz then nI (tx i) else -1
def cap (tx : Nat → Nat) (sz i : Nat) : Bool := decide (i < sz ∧ 65 ≤ tx i ∧ tx i ≤ 90)
def fig (tx : Nat → Nat) (sz i : Nat) : Bool := decide (i < sz ∧ 48 ≤ tx i ∧ tx i ≤ 57)
def sg (tx : Nat → Nat) (sz c i : Nat) : Bool := decide (i < sz ∧ tx i = c)
def CQ (tx : Nat → Nat) (sz : Nat) (q : Pc4) (p : Nat) : Prop := sz ≤ 200 ∧ (∀ i, i < sz → tx i < 256) ∧ q.2.2.2 0 = 1 ∧ q.1 11 = nI sz ∧ (∀ i, i < sz → q.2.1 1 i = nI (tx i)) ∧ q.1 12 = nI p ∧ p ≤ sz
def CM (tx : Nat → Nat) (sz : Nat) (q : Pc3) (p : Nat) : Prop := sz ≤ 200 ∧ (∀ i, i < sz → tx i < 256) ∧ q.1 4 = nI sz ∧ (∀ i, i < sz → q.2.1 3 i = nI (tx i)) ∧ q.1 7 = nI p
theorem byteAt_r {n i p sz : Nat} {tx : Nat → Nat} {q : Pc3} (h : CM tx sz q p) (hi : i < 2 ^ 30) : moM_byteAt n (nI i) q = some (ba tx sz i) := by
  have hs := h.1
  unfold moM_byteAt ba
  rw [show rS q 4 = nI sz from h.2.2.1]
  by_cases c : i < sz
  · rw [if_neg (nI_ge c (by omega)), gi_in (by omega) (by decide), r3n (by omega), h.2.2.2.1 i c, if_pos c]
  · rw [if_pos (nI_le (by omega) (by omega)), if_neg c]
theorem isCap_r {n i sz : Nat} {tx : Nat → Nat} (h : ∀ i, i < sz → tx i < 256) : moN_isCapital n (ba tx sz i) = some (if cap tx sz i = true then 1 else 0) := by
  unfold moN_isCapital ba cap
  by_cases c : i < sz
  · have h2 := h i c
    rw [if_pos c]
    by_cases c1 : tx i < 65
    · rw [if_pos (show nI (tx i) < (65 : Int32) from nI_lt (b := 65) c1 (by decide)), decide_eq_false (fun w => by omega)]; rfl
    · rw [if_neg (show ¬ nI (tx i) < (65 : Int32) from nI_nlt (b := 65) (by omega) (by omega))]
      by_cases c2 : 90 < tx i
      · rw [if_pos (show (90 : Int32) < nI (tx i) from nI_lt (a := 90) c2 (by omega)), decide_eq_false (fun w => by omega)]; rfl
      · rw [if_neg (show ¬ (90 : Int32) < nI (tx i) from nI_nlt (a := 90) (by omega) (by decide)), decide_eq_true (by omega)]; rfl
  · rw [if_neg c, if_pos (by decide), decide_eq_false (fun w => c w.1)]; rfl
theorem isFig_r {n i sz : Nat} {tx : Nat → Nat} (h : ∀ i, i < sz → tx i < 256) : moN_isFigure n (ba tx sz i) = some (if fig tx sz i = true then 1 else 0) := by
  unfold moN_isFigure ba fig
  by_cases c : i < sz
  · have h2 := h i c
    rw [if_pos c]
    by_cases c1 : tx i < 48
    · rw [if_pos (show nI (tx i) < (48 : Int32) from nI_lt (b := 48) c1 (by decide)), decide_eq_false (fun w => by omega)]; rfl
    · rw [if_neg (show ¬ nI (tx i) < (48 : Int32) from nI_nlt (b := 48) (by omega) (by omega))]
      by_cases c2 : 57 < tx i
      · rw [if_pos (show (57 : Int32) < nI (tx i) from nI_lt (a := 57) c2 (by omega)), decide_eq_false (fun w => by omega)]; rfl
      · rw [if_neg (show ¬ (57 : Int32) < nI (tx i) from nI_nlt (a := 57) (by omega) (by decide)), decide_eq_true (by omega)]; rfl
  · rw [if_neg c, if_pos (by decide), decide_eq_false (fun w => c w.1)]; rfl
theorem ba_eq {c i sz : Nat} {tx : Nat → Nat} (h : ∀ i, i < sz → tx i < 256) (hc : c < 256) : ba tx sz i = nI c ↔ sg tx sz c i = true := by
  unfold ba sg
  rw [decide_eq_true_iff]
  by_cases g : i < sz
  · have := h i g
    rw [if_pos g, nI_eq (by omega) (by omega)]
    exact ⟨fun e => ⟨g, e⟩, fun e => e.2⟩
  · rw [if_neg g]
    exact ⟨fun e => absurd (show nI c < 0 from e ▸ (by decide : (-1 : Int32) < 0)) (nI_pos (by omega)), fun e => absurd e.1 g⟩
theorem ge1 {α : Type} {f : Option α} : ge 1 1 f = f := if_pos rfl
theorem sees_c {n c p sz : Nat} {tx : Nat → Nat} {q : Pc4} (h : CQ tx sz q p) (hc : c < 256) : moQ4_sees n (nI c) q = some (if sg tx sz c p = true then 1 else 0) := by
  obtain ⟨h1, h2, h3, h4, h5, h6, h7⟩ := h
  unfold moQ4_sees sg
  rw [show r4S q 11 = nI sz from h4, show r4S q 12 = nI p from h6, show r4I q 0 = 1 from h3]
  by_cases g : p < sz
  · have := h2 p g
    rw [if_neg (nI_ge g (by omega)), ge1, gi_in (by omega) (by decide), r4n (by omega), h5 p g]
    by_cases e : tx p = c
    · rw [if_pos (by rw [e]), decide_eq_true ⟨g, e⟩]; rfl
    · rw [if_neg (fun w => e ((nI_eq (by omega) (by omega)).mp w)), decide_eq_false (fun w => e w.2)]; rfl
  · rw [if_pos (nI_le (by omega) (by omega)), decide_eq_false (fun w => g w.1)]; rfl
theorem seesL_c {n p sz : Nat} {tx : Nat → Nat} {q : Pc4} (h : CQ tx sz q p) : moQ4_seesLetter n q = some (if cap tx sz p = true then 1 else 0) := by
  obtain ⟨h1, h2, h3, h4, h5, h6, h7⟩ := h
  unfold moQ4_seesLetter cap
  rw [show r4S q 11 = nI sz from h4, show r4S q 12 = nI p from h6, show r4I q 0 = 1 from h3]
  by_cases g : p < sz
  · have := h2 p g
    rw [if_neg (nI_ge g (by omega)), ge1, ge1, gi_in (by omega) (by decide), gi_in (by omega) (by decide), r4n (by omega), h5 p g]
    by_cases c1 : tx p < 65
    · rw [if_pos (show nI (tx p) < (65 : Int32) from nI_lt (b := 65) c1 (by decide)), decide_eq_false (fun w => by omega)]; rfl
    · rw [if_neg (show ¬ nI (tx p) < (65 : Int32) from nI_nlt (b := 65) (by omega) (by omega))]
      by_cases c2 : 90 < tx p
      · rw [if_pos (show (90 : Int32) < nI (tx p) from nI_lt (a := 90) c2 (by omega)), decide_eq_false (fun w => by omega)]; rfl
      · rw [if_neg (show ¬ (90 : Int32) < nI (tx p) from nI_nlt (a := 90) (by omega) (by decide)), decide_eq_true (by omega)]; rfl
  · rw [if_pos (nI_le (by omega) (by omega)), decide_eq_false (fun w => g w.1)]; rfl
theorem seesF_c {n p sz : Nat} {tx : Nat → Nat} {q : Pc4} (h : CQ tx sz q p) : moQ4_seesFigure n q = some (if fig tx sz p = true then 1 else 0) := by
  obtain ⟨h1, h2, h3, h4, h5, h6, h7⟩ := h
  unfold moQ4_seesFigure fig
  rw [show r4S q 11 = nI sz from h4, show r4S q 12 = nI p from h6, show r4I q 0 = 1 from h3]
  by_cases g : p < sz
  · have := h2 p g
    rw [if_neg (nI_ge g (by omega)), ge1, ge1, gi_in (by omega) (by decide), gi_in (by omega) (by decide), r4n (by omega), h5 p g]
    by_cases c1 : tx p < 48
    · rw [if_pos (show nI (tx p) < (48 : Int32) from nI_lt (b := 48) c1 (by decide)), decide_eq_false (fun w => by omega)]; rfl
    · rw [if_neg (show ¬ nI (tx p) < (48 : Int32) from nI_nlt (b := 48) (by omega) (by omega))]
      by_cases c2 : 57 < tx p
      · rw [if_pos (show (57 : Int32) < nI (tx p) from nI_lt (a := 57) c2 (by omega)), decide_eq_false (fun w => by omega)]; rfl
      · rw [if_neg (show ¬ (57 : Int32) < nI (tx p) from nI_nlt (a := 57) (by omega) (by decide)), decide_eq_true (by omega)]; rfl
  · rw [if_pos (nI_le (by omega) (by omega)), decide_eq_false (fun w => g w.1)]; rfl
-- runs
def Run (f : Nat → Bool) (p L : Nat) : Prop := (∀ j, j < L → f (p + j) = true) ∧ f (p + L) = false
theorem run_ex {f : Nat → Bool} {sz : Nat} (hf : ∀ i, sz ≤ i → f i = false) : ∀ k p, sz - p ≤ k → ∃ L, Run f p L ∧ (p ≤ sz → p + L ≤ sz) := by
  intro k
  induction k with
  | zero => intro p h; exact ⟨0, ⟨fun j hj => absurd hj (Nat.not_lt_zero j), hf (p + 0) (by omega)⟩, fun h => h⟩
  | succ k ih =>
    intro p h
    cases hp : f p with
    | false => exact ⟨0, ⟨fun j hj => absurd hj (Nat.not_lt_zero j), hp⟩, fun h => h⟩
    | true =>
      have hps : p < sz := by
        rcases Nat.lt_or_ge p sz with c | c
        · exact c
        · rw [hf p c] at hp; cases hp
      obtain ⟨L, ⟨h1, h2⟩, h3⟩ := ih (p + 1) (by omega)
      refine ⟨L + 1, ⟨fun j hj => ?_, by rw [show p + (L + 1) = p + 1 + L by omega]; exact h2⟩, fun _ => by have := h3 (by omega); omega⟩
      rcases Nat.eq_zero_or_pos j with c | c
      · subst c; exact hp
      · rw [show p + j = p + 1 + (j - 1) by omega]; exact h1 _ (by omega)
theorem cap_hi {tx : Nat → Nat} {sz : Nat} : ∀ i, sz ≤ i → cap tx sz i = false := fun i h => decide_eq_false (fun w => by omega)
theorem fig_hi {tx : Nat → Nat} {sz : Nat} : ∀ i, sz ≤ i → fig tx sz i = false := fun i h => decide_eq_false (fun w => by omega)
theorem caps_r {n a L p sz : Nat} {tx : Nat → Nat} {q : Pc3} (hn : 200000 ≤ n) (h : CM tx sz q p) (hL : Run (cap tx sz) a L) (ha : a + L ≤ sz) : moM_capitals n (nI a) q = some (nI L) := by
  have hs := h.1
  have key : ∀ (fuel j : Nat), j ≤ L → L - j < fuel → moM_capitals_L2 n q (fun z4_2 => some z4_2) fuel (nI a) (nI j) = some (nI L) := by
    intro fuel
    induction fuel with
    | zero => intro j _ h; omega
    | succ u ih =>
      intro j hj hf
      rw [moM_capitals_L2, nI_add, byteAt_r h (by omega), b1, isCap_r h.2.1, b1, nI_1]
      by_cases c : j < L
      · rw [hL.1 j c, if_neg (by decide)]
        exact ih (j + 1) (by omega) (by omega)
      · have : j = L := by omega
        subst this
        rw [hL.2, if_pos (by decide)]
  exact key n 0 (by omega) (by omega)
-- letters packed
def pkN (f : Nat → Nat) : Nat → Nat
  | 0 => 0
  | k + 1 => pkN f k * 32 + f k
theorem pkN_inj {f g : Nat → Nat} {n : Nat} (hf : ∀ i, i < n → f i < 32) (hg : ∀ i, i < n → g i < 32) (h : pkN f n = pkN g n) : ∀ i, i < n → f i = g i := by
  induction n with
  | zero => intro i hi; omega
  | succ n ih =>
    have h : pkN f n * 32 + f n = pkN g n * 32 + g n := h
    have h1 := hf n (by omega)
    have h2 := hg n (by omega)
    intro i hi
    rcases Nat.lt_or_ge i n with c | c
    · exact ih (fun i hi => hf i (by omega)) (fun i hi => hg i (by omega)) (by omega) i c
    · rw [show i = n by omega]; omega
theorem pkN_lt {f : Nat → Nat} {n : Nat} (hf : ∀ i, i < n → f i < 32) : pkN f n < 32 ^ n := by
  induction n with
  | zero => exact Nat.one_pos
  | succ n ih =>
    have h1 := hf n (by omega)
    have h2 := ih (fun i hi => hf i (by omega))
    show pkN f n * 32 + f n < 32 ^ (n + 1)
    rw [Nat.pow_succ]
    omega
theorem pkN_congr {f g : Nat → Nat} {n : Nat} (h : ∀ i, i < n → f i = g i) : pkN f n = pkN g n := by
  induction n with
  | zero => rfl
  | succ n ih =>
    show pkN f n * 32 + f n = pkN g n * 32 + g n
    rw [ih (fun i hi => h i (by omega)), h n (by omega)]
theorem lN_or (a b : Nat) : lN a ||| lN b = lN (a ||| b) := by
  apply Int64.toBitVec_inj.1
  show BitVec.ofNat 64 a ||| BitVec.ofNat 64 b = BitVec.ofNat 64 (a ||| b)
  apply BitVec.eq_of_getLsbD_eq
  intro i hi
  simp [hi]
theorem sl5 {v l : Nat} (hl : l < 32) : slL (lN v) 5 ||| lN l = lN (v * 32 + l) := by
  have e1 : slL (lN v) 5 = lN (v <<< 5) := by
    unfold slL
    apply Int64.toBitVec_inj.1
    rw [Int64.toBitVec_shiftLeft]
    show (BitVec.ofNat 64 v) <<< ((Int32.toInt64 5 &&& 63).toBitVec.smod 64).toNat = BitVec.ofNat 64 (v <<< 5)
    rw [show ((Int32.toInt64 5 &&& 63).toBitVec.smod 64).toNat = 5 from by decide +kernel]
    apply BitVec.eq_of_getLsbD_eq
    intro i hi
    rw [BitVec.getLsbD_shiftLeft, BitVec.getLsbD_ofNat, BitVec.getLsbD_ofNat, Nat.testBit_shiftLeft]
    by_cases c : 5 ≤ i
    · simp [c, hi, Nat.not_lt.mpr c]; omega
    · simp [c, hi, Nat.lt_of_not_le c]
  rw [e1, lN_or, ← Nat.shiftLeft_add_eq_or_of_lt (show l < 2 ^ 5 from hl), Nat.shiftLeft_eq]
theorem letters_r {n a L p sz : Nat} {tx : Nat → Nat} {q : Pc3} (hn : 200000 ≤ n) (h : CM tx sz q p) (hL : Run (cap tx sz) a L) (ha : a + L ≤ sz) : moM_lettersAt n (nI a) q = some (lN (pkN (fun j => tx (a + j) - 64) (min L 12))) := by
  have hs := h.1
  have key : ∀ (fuel j : Nat), j ≤ min L 12 → min L 12 - j < fuel → moM_lettersAt_L5 n q (fun z6_2 => some z6_2) fuel (nI a) (lN (pkN (fun j => tx (a + j) - 64) j)) (nI j) = some (lN (pkN (fun j => tx (a + j) - 64) (min L 12))) := by
    intro fuel
    induction fuel with
    | zero => intro j _ h; omega
    | succ u ih =>
      intro j hj hf
      rw [moM_lettersAt_L5]
      by_cases c12 : 12 ≤ j
      · rw [if_pos (show (12 : Int32) ≤ nI j from nI_le (a := 12) c12 (by omega)), show min L 12 = j by omega]
      · rw [if_neg (show ¬ (12 : Int32) ≤ nI j from nI_ge (b := 12) (by omega) (by decide)), nI_add, byteAt_r h (by omega), b1, isCap_r h.2.1, b1, b1, nI_1]
        by_cases c : j < L
        · have hc := hL.1 j c
          have hc2 : a + j < sz ∧ 65 ≤ tx (a + j) ∧ tx (a + j) ≤ 90 := of_decide_eq_true hc
          rw [hc, if_neg (by decide), show ba tx sz (a + j) = nI (tx (a + j)) from if_pos hc2.1, show nI (tx (a + j)) - (64 : Int32) = nI (tx (a + j) - 64) from pk_sub (b := 64) (by omega), nI_l (by omega), sl5 (by omega)]
          exact ih (j + 1) (by omega) (by omega)
        · have hjL : j = L := by omega
          rw [show cap tx sz (a + j) = false from by rw [hjL]; exact hL.2, if_pos (by decide), show min L 12 = j by omega]
  exact key n 0 (by omega) (by omega)
-- names
def wdN (k : Nat) : List Nat := ([[70, 82, 69, 81], [73, 78, 84, 69, 82, 86, 65, 76], [67, 79, 85, 78, 84], [85, 78, 84, 73, 76], [66, 89, 77, 79, 78, 84, 72], [66, 89, 77, 79, 78, 84, 72, 68, 65, 89], [66, 89, 83, 69, 84, 80, 79, 83], [66, 89, 68, 65, 89], [68, 65, 73, 76, 89], [87, 69, 69, 75, 76, 89], [77, 79, 78, 84, 72, 76, 89], [89, 69, 65, 82, 76, 89], [77, 79, 84, 85, 87, 69, 84, 72, 70, 82, 83, 65, 83, 85]] : List (List Nat)).getD k []
def mt (tx : Nat → Nat) (a L k : Nat) : Bool := decide (L = (wdN k).length ∧ ∀ i, i < L → tx (a + i) = (wdN k).getD i 0)
theorem wdN_c : ∀ k, k < 13 → ∀ i, i < (wdN k).length → 65 ≤ (wdN k).getD i 0 ∧ (wdN k).getD i 0 ≤ 90 := by decide +kernel
theorem wdN_l : ∀ k, k < 12 → 4 ≤ (wdN k).length ∧ (wdN k).length ≤ 10 := by decide +kernel
theorem wdN_ne : ∀ k, k < 12 → ∀ k', k' < 12 → k ≠ k' → (wdN k).length ≠ (wdN k').length ∨ ∃ i, i < (wdN k).length ∧ (wdN k).getD i 0 ≠ (wdN k').getD i 0 := by decide +kernel
theorem mt_uniq {tx : Nat → Nat} {a L k k' : Nat} (hk : k < 12) (hk' : k' < 12) (h : mt tx a L k = true) (h' : mt tx a L k' = true) : k = k' := by
  have h := of_decide_eq_true h
  have h' := of_decide_eq_true h'
  refine Classical.byContradiction fun c => ?_
  rcases wdN_ne k hk k' hk' c with g | ⟨i, g1, g2⟩
  · omega
  · exact g2 (by rw [← h.2 i (by omega), ← h'.2 i (by omega)])
theorem mt_cmp {tx : Nat → Nat} {a L sz k : Nat} (hk : k < 12) (hL : Run (cap tx sz) a L) (ha : a + L ≤ sz) (hs : sz ≤ 200) : (nI L = nI (wdN k).length ∧ lg_cmp (lN (pkN (fun j => tx (a + j) - 64) (min L 12))) (lN (pkN (fun j => (wdN k).getD j 0 - 64) (wdN k).length)) = 0) ↔ mt tx a L k = true := by
  have hl := wdN_l k hk
  have hw := wdN_c k (by omega)
  have hc : ∀ j, j < L → 65 ≤ tx (a + j) ∧ tx (a + j) ≤ 90 := fun j hj => (of_decide_eq_true (hL.1 j hj)).2
  unfold mt
  rw [decide_eq_true_iff, nI_eq (by omega) (by omega), lg_cmp_eq]
  constructor
  · rintro ⟨e, h⟩
    refine ⟨e, fun i hi => ?_⟩
    rw [show min L 12 = L by omega] at h
    have f1 : ∀ i, i < L → (fun j => tx (a + j) - 64) i < 32 := fun i hi => by have := hc i hi; show tx (a + i) - 64 < 32; omega
    have f2 : ∀ i, i < (wdN k).length → (fun j => (wdN k).getD j 0 - 64) i < 32 := fun i hi => by have := hw i hi; show (wdN k).getD i 0 - 64 < 32; omega
    have b1 := pkN_lt f1
    have b2 := pkN_lt f2
    have p1 : 32 ^ L ≤ 32 ^ 10 := Nat.pow_le_pow_right (by decide) (by omega)
    have p2 : 32 ^ (wdN k).length ≤ 32 ^ 10 := Nat.pow_le_pow_right (by decide) (by omega)
    have p3 : (32 : Nat) ^ 10 < 2 ^ 63 := by decide
    have h := congrArg (fun x : Int64 => x.toBitVec.toNat) h
    have h : (lN (pkN (fun j => tx (a + j) - 64) L)).toBitVec.toNat = (lN (pkN (fun j => (wdN k).getD j 0 - 64) (wdN k).length)).toBitVec.toNat := h
    rw [show (lN (pkN (fun j => tx (a + j) - 64) L)).toBitVec.toNat = pkN (fun j => tx (a + j) - 64) L from Nat.mod_eq_of_lt (by omega), show (lN (pkN (fun j => (wdN k).getD j 0 - 64) (wdN k).length)).toBitVec.toNat = pkN (fun j => (wdN k).getD j 0 - 64) (wdN k).length from Nat.mod_eq_of_lt (by omega), ← e] at h
    have := pkN_inj f1 (by rw [e]; exact f2) h i hi
    have this : tx (a + i) - 64 = (wdN k).getD i 0 - 64 := this
    have := hc i hi
    have := hw i (by omega)
    omega
  · rintro ⟨e, h⟩
    refine ⟨e, ?_⟩
    rw [show min L 12 = L by omega, ← e, pkN_congr (fun i hi => by show tx (a + i) - 64 = _; rw [h i hi])]
theorem ite_r {α : Type} {a b : Prop} [Decidable a] [Decidable b] {x y : α} : (if a then (if b then x else y) else y) = if a ∧ b then x else y := by
  by_cases ha : a
  · by_cases hb : b
    · rw [if_pos ha, if_pos hb, if_pos ⟨ha, hb⟩]
    · rw [if_pos ha, if_neg hb, if_neg (fun w => hb w.2)]
  · rw [if_neg ha, if_neg (fun w => ha w.1)]
theorem pkw : pkN (fun j => (wdN 0).getD j 0 - 64) (wdN 0).length = 215217 ∧ pkN (fun j => (wdN 1).getD j 0 - 64) (wdN 1).length = 324946974764 ∧ pkN (fun j => (wdN 2).getD j 0 - 64) (wdN 2).length = 3659220 ∧ pkN (fun j => (wdN 3).getD j 0 - 64) (wdN 3).length = 22499628 ∧ pkN (fun j => (wdN 4).getD j 0 - 64) (wdN 4).length = 3000482440 ∧ pkN (fun j => (wdN 5).getD j 0 - 64) (wdN 5).length = 98319808598073 ∧ pkN (fun j => (wdN 6).getD j 0 - 64) (wdN 6).length = 96206471667 ∧ pkN (fun j => (wdN 7).getD j 0 - 64) (wdN 7).length = 2920505 ∧ pkN (fun j => (wdN 8).getD j 0 - 64) (wdN 8).length = 4236697 ∧ pkN (fun j => (wdN 9).getD j 0 - 64) (wdN 9).length = 777170329 ∧ pkN (fun j => (wdN 10).getD j 0 - 64) (wdN 10).length = 14477304217 ∧ pkN (fun j => (wdN 11).getD j 0 - 64) (wdN 11).length = 844155289 := by decide +kernel
theorem nameOf_c {n : Nat} (x0 : Int64) (x2 : Int32) : moN_nameOf n x0 x2 = (if x2 = 4 ∧ lg_cmp x0 (lN 215217) = 0 then some 0 else if x2 = 5 ∧ lg_cmp x0 (lN 3659220) = 0 then some 2 else if x2 = 5 ∧ lg_cmp x0 (lN 22499628) = 0 then some 3 else if x2 = 8 ∧ lg_cmp x0 (lN 324946974764) = 0 then some 1 else if x2 = 7 ∧ lg_cmp x0 (lN 3000482440) = 0 then some 4 else if x2 = 10 ∧ lg_cmp x0 (lN 98319808598073) = 0 then some 5 else if x2 = 8 ∧ lg_cmp x0 (lN 96206471667) = 0 then some 6 else if x2 = 5 ∧ lg_cmp x0 (lN 2920505) = 0 then some 7 else some (-1)) := by
  unfold moN_nameOf moN_nameOf_B189 moN_nameOf_B239
  rw [show moN_word n 6 18 5 17 = some (lN 215217) from congrArg some (by decide +kernel), show moN_word n 3 15 21 14 = some (lN 114350) from congrArg some (by decide +kernel), show moN_word n 21 14 20 9 = some (lN 703113) from congrArg some (by decide +kernel), show moN_word n 9 14 20 5 = some (lN 309893) from congrArg some (by decide +kernel), show moN_word n 18 22 1 12 = some (lN 612396) from congrArg some (by decide +kernel), show moN_word n 2 25 13 15 = some (lN 91567) from congrArg some (by decide +kernel), show moN_word n 0 14 20 8 = some (lN 14984) from congrArg some (by decide +kernel), show moN_word n 0 4 1 25 = some (lN 4153) from congrArg some (by decide +kernel), show moN_word n 2 25 19 5 = some (lN 91749) from congrArg some (by decide +kernel), show moN_word n 20 16 15 19 = some (lN 672243) from congrArg some (by decide +kernel), show moN_word n 2 25 4 1 = some (lN 91265) from congrArg some (by decide +kernel)]
  rw [b1, b1, b1, b1, b1, b1, b1, b1, b1, b1, b1]
  rw [show (slL (lN 114350) 5 ||| 20 : Int64) = lN 3659220 from by decide +kernel, show (slL (lN 703113) 5 ||| 12 : Int64) = lN 22499628 from by decide +kernel, show (slL (lN 309893) 20 ||| lN 612396 : Int64) = lN 324946974764 from by decide +kernel, show (slL (lN 91567) 15 ||| lN 14984 : Int64) = lN 3000482440 from by decide +kernel, show (slL (lN 3000482440) 15 ||| lN 4153 : Int64) = lN 98319808598073 from by decide +kernel, show (slL (lN 91749) 20 ||| lN 672243 : Int64) = lN 96206471667 from by decide +kernel, show (slL (lN 91265) 5 ||| 25 : Int64) = lN 2920505 from by decide +kernel]
  simp only [ite_r]
theorem freqOf_c {n : Nat} (x0 : Int64) (x2 : Int32) : moN_freqOf n x0 x2 = (if x2 = 5 ∧ lg_cmp x0 (lN 4236697) = 0 then some 0 else if x2 = 6 ∧ lg_cmp x0 (lN 777170329) = 0 then some 1 else if x2 = 7 ∧ lg_cmp x0 (lN 14477304217) = 0 then some 2 else if x2 = 6 ∧ lg_cmp x0 (lN 844155289) = 0 then some 3 else some (-1)) := by
  unfold moN_freqOf moN_freqOf_B106
  rw [show moN_word n 4 1 9 12 = some (lN 132396) from congrArg some (by decide +kernel), show moN_word n 23 5 5 11 = some (lN 758955) from congrArg some (by decide +kernel), show moN_word n 0 0 12 25 = some (lN 409) from congrArg some (by decide +kernel), show moN_word n 13 15 14 20 = some (lN 441812) from congrArg some (by decide +kernel), show moN_word n 0 8 12 25 = some (lN 8601) from congrArg some (by decide +kernel), show moN_word n 25 5 1 18 = some (lN 824370) from congrArg some (by decide +kernel)]
  rw [b1, b1, b1, b1, b1, b1, b1]
  rw [show (slL (lN 132396) 5 ||| 25 : Int64) = lN 4236697 from by decide +kernel, show (slL (lN 758955) 10 ||| lN 409 : Int64) = lN 777170329 from by decide +kernel, show (slL (lN 441812) 15 ||| lN 8601 : Int64) = lN 14477304217 from by decide +kernel, show (slL (lN 824370) 10 ||| lN 409 : Int64) = lN 844155289 from by decide +kernel]
  simp only [ite_r]
theorem nameOf_r {n a L sz : Nat} {tx : Nat → Nat} (hL : Run (cap tx sz) a L) (ha : a + L ≤ sz) (hs : sz ≤ 200) : (∃ k, k < 8 ∧ mt tx a L k = true ∧ moN_nameOf n (lN (pkN (fun j => tx (a + j) - 64) (min L 12))) (nI L) = some (nI k)) ∨ ((∀ k, k < 8 → mt tx a L k = false) ∧ moN_nameOf n (lN (pkN (fun j => tx (a + j) - 64) (min L 12))) (nI L) = some (-1)) := by
  obtain ⟨p0, p1, p2, p3, p4, p5, p6, p7, -⟩ := pkw
  have c0 := mt_cmp (k := 0) (by decide) hL ha hs
  have c1 := mt_cmp (k := 1) (by decide) hL ha hs
  have c2 := mt_cmp (k := 2) (by decide) hL ha hs
  have c3 := mt_cmp (k := 3) (by decide) hL ha hs
  have c4 := mt_cmp (k := 4) (by decide) hL ha hs
  have c5 := mt_cmp (k := 5) (by decide) hL ha hs
  have c6 := mt_cmp (k := 6) (by decide) hL ha hs
  have c7 := mt_cmp (k := 7) (by decide) hL ha hs
  rw [p0, show nI (wdN 0).length = 4 from rfl] at c0
  rw [p1, show nI (wdN 1).length = 8 from rfl] at c1
  rw [p2, show nI (wdN 2).length = 5 from rfl] at c2
  rw [p3, show nI (wdN 3).length = 5 from rfl] at c3
  rw [p4, show nI (wdN 4).length = 7 from rfl] at c4
  rw [p5, show nI (wdN 5).length = 10 from rfl] at c5
  rw [p6, show nI (wdN 6).length = 8 from rfl] at c6
  rw [p7, show nI (wdN 7).length = 5 from rfl] at c7
  rw [nameOf_c]
  by_cases g0 : mt tx a L 0 = true
  · exact Or.inl ⟨0, by decide, g0, if_pos (c0.mpr g0)⟩
  rw [if_neg (fun w => g0 (c0.mp w))]
  by_cases g2 : mt tx a L 2 = true
  · exact Or.inl ⟨2, by decide, g2, if_pos (c2.mpr g2)⟩
  rw [if_neg (fun w => g2 (c2.mp w))]
  by_cases g3 : mt tx a L 3 = true
  · exact Or.inl ⟨3, by decide, g3, if_pos (c3.mpr g3)⟩
  rw [if_neg (fun w => g3 (c3.mp w))]
  by_cases g1 : mt tx a L 1 = true
  · exact Or.inl ⟨1, by decide, g1, if_pos (c1.mpr g1)⟩
  rw [if_neg (fun w => g1 (c1.mp w))]
  by_cases g4 : mt tx a L 4 = true
  · exact Or.inl ⟨4, by decide, g4, if_pos (c4.mpr g4)⟩
  rw [if_neg (fun w => g4 (c4.mp w))]
  by_cases g5 : mt tx a L 5 = true
  · exact Or.inl ⟨5, by decide, g5, if_pos (c5.mpr g5)⟩
  rw [if_neg (fun w => g5 (c5.mp w))]
  by_cases g6 : mt tx a L 6 = true
  · exact Or.inl ⟨6, by decide, g6, if_pos (c6.mpr g6)⟩
  rw [if_neg (fun w => g6 (c6.mp w))]
  by_cases g7 : mt tx a L 7 = true
  · exact Or.inl ⟨7, by decide, g7, if_pos (c7.mpr g7)⟩
  rw [if_neg (fun w => g7 (c7.mp w))]
  refine Or.inr ⟨fun k hk => ?_, rfl⟩
  have all : ∀ k, k < 8 → k = 0 ∨ k = 1 ∨ k = 2 ∨ k = 3 ∨ k = 4 ∨ k = 5 ∨ k = 6 ∨ k = 7 := by intro k hk; omega
  rcases all k hk with rfl | rfl | rfl | rfl | rfl | rfl | rfl | rfl <;> exact Bool.eq_false_iff.mpr (by assumption)
theorem freqOf_r {n a L sz : Nat} {tx : Nat → Nat} (hL : Run (cap tx sz) a L) (ha : a + L ≤ sz) (hs : sz ≤ 200) : (∃ k, k < 4 ∧ mt tx a L (8 + k) = true ∧ moN_freqOf n (lN (pkN (fun j => tx (a + j) - 64) (min L 12))) (nI L) = some (nI k)) ∨ ((∀ k, k < 4 → mt tx a L (8 + k) = false) ∧ moN_freqOf n (lN (pkN (fun j => tx (a + j) - 64) (min L 12))) (nI L) = some (-1)) := by
  obtain ⟨-, -, -, -, -, -, -, -, p0, p1, p2, p3⟩ := pkw
  have c0 := mt_cmp (k := 8) (by decide) hL ha hs
  have c1 := mt_cmp (k := 9) (by decide) hL ha hs
  have c2 := mt_cmp (k := 10) (by decide) hL ha hs
  have c3 := mt_cmp (k := 11) (by decide) hL ha hs
  rw [p0, show nI (wdN 8).length = 5 from rfl] at c0
  rw [p1, show nI (wdN 9).length = 6 from rfl] at c1
  rw [p2, show nI (wdN 10).length = 7 from rfl] at c2
  rw [p3, show nI (wdN 11).length = 6 from rfl] at c3
  rw [freqOf_c]
  by_cases g0 : mt tx a L 8 = true
  · exact Or.inl ⟨0, by decide, g0, if_pos (c0.mpr g0)⟩
  rw [if_neg (fun w => g0 (c0.mp w))]
  by_cases g1 : mt tx a L 9 = true
  · exact Or.inl ⟨1, by decide, g1, if_pos (c1.mpr g1)⟩
  rw [if_neg (fun w => g1 (c1.mp w))]
  by_cases g2 : mt tx a L 10 = true
  · exact Or.inl ⟨2, by decide, g2, if_pos (c2.mpr g2)⟩
  rw [if_neg (fun w => g2 (c2.mp w))]
  by_cases g3 : mt tx a L 11 = true
  · exact Or.inl ⟨3, by decide, g3, if_pos (c3.mpr g3)⟩
  rw [if_neg (fun w => g3 (c3.mp w))]
  refine Or.inr ⟨fun k hk => ?_, rfl⟩
  have all : ∀ k, k < 4 → k = 0 ∨ k = 1 ∨ k = 2 ∨ k = 3 := by intro k hk; omega
  rcases all k hk with rfl | rfl | rfl | rfl <;> exact Bool.eq_false_iff.mpr (by assumption)
-- words in the class
theorem len_w : ∀ k, k < 13 → srI (Int32.ofNat (sbyt k).length) 0 = nI (wdN k).length ∧ (sbyt k).length = (wdN k).length ∧ (wdN k).length < 100 := by decide +kernel
theorem chr_w : ∀ k, k < 13 → ∀ i, i < (wdN k).length → i2cI ((sbyt k).getD i 0 &&& 255) = nI ((wdN k).getD i 0) ∧ vp_nar .char (nI ((wdN k).getD i 0)) = nI ((wdN k).getD i 0) := by decide +kernel
theorem length_w {n k : Nat} (hk : k < 13) : moQJ0_length_8abf5 n k = some (nI (wdN k).length) := by
  unfold moQJ0_length_8abf5 moQJ0_coder_7d493
  rw [gl_in hk, gl_in hk, gl_in hk, gl_in hk, b1, (len_w k hk).1]
theorem charAt_w {n k i : Nat} (hk : k < 13) (hi : i < (wdN k).length) : moQJ0_charAt_5068e n k (nI i) = some (nI ((wdN k).getD i 0)) := by
  obtain ⟨l1, l2, l3⟩ := len_w k hk
  obtain ⟨h1, h2⟩ := chr_w k hk i hi
  unfold moQJ0_charAt_5068e moQJ0_isLatin1_aae02 moQJ1_charAt_3b067 moQJ0_checkIndex_df160 moQJ3_checkIndex_8e157
  rw [l2, gl_in hk, gl_in hk, b1, if_neg (by decide), gl_in hk, gl_in hk, if_neg (nI_pos (by omega)), if_pos (show nI i < Int32.ofNat (wdN k).length from nI_lt hi (by omega)), b1, b1, gl_in hk, gi_in hi (by omega), b1, nI_clamp (by omega), h1]
  exact if_pos h2
theorem isWord_c {n k a p sz : Nat} {tx : Nat → Nat} {q : Pc4} (hn : 200000 ≤ n) (h : CQ tx sz q p) (hk : k < 12) (ha : a ≤ p) : moQ4_isWord n k (nI a) q = some (if mt tx a (p - a) k = true then 1 else 0) := by
  obtain ⟨h1, h2, h3, h4, h5, h6, h7⟩ := h
  have hl := wdN_l k hk
  unfold moQ4_isWord
  rw [gl_in (by omega), length_w (by omega), b1, show r4S q 12 = nI p from h6, pk_sub ha]
  by_cases c : (wdN k).length = p - a
  · rw [if_pos (by rw [c])]
    have key : ∀ (fuel i : Nat), i ≤ (wdN k).length → (wdN k).length - i < fuel → (∀ j, j < i → tx (a + j) = (wdN k).getD j 0) → moQ4_isWord_L17 n q (some 1) (some 0) fuel k (nI a) (nI i) = some (if mt tx a (p - a) k = true then (1 : Int32) else 0) := by
      intro fuel
      induction fuel with
      | zero => intro i _ h; omega
      | succ u ih =>
        intro i hi hf hpre
        rw [moQ4_isWord_L17, gl_in (by omega), length_w (by omega), b1]
        by_cases ci : (wdN k).length ≤ i
        · rw [if_pos (nI_le ci (by omega)), show mt tx a (p - a) k = true from decide_eq_true ⟨c.symm, fun j hj => hpre j (by omega)⟩]; rfl
        · have hin : a + i < sz := by omega
          have := h2 (a + i) hin
          have := wdN_c k (by omega) i (by omega)
          rw [if_neg (nI_ge (by omega) (by omega)), gl_in (by omega), charAt_w (by omega) (by omega), b1, show r4I q 0 = 1 from h3, ge1, nI_add, gi_in (by omega) (by decide), r4n (by omega), h5 _ hin, nI_1]
          by_cases e : (wdN k).getD i 0 = tx (a + i)
          · rw [if_pos (by rw [e])]
            exact ih (i + 1) (by omega) (by omega) (fun j hj => by
              rcases Nat.lt_or_ge j i with g | g
              · exact hpre j g
              · rw [show j = i by omega]; exact e.symm)
          · rw [if_neg (fun w => e ((nI_eq (by omega) (by omega)).mp w)), show mt tx a (p - a) k = false from decide_eq_false (fun w => e (w.2 i (by omega)).symm)]; rfl
    exact key n 0 (by omega) (by omega) (fun j hj => by omega)
  · rw [if_neg (fun w => c ((nI_eq (by omega) (by omega)).mp w)), show mt tx a (p - a) k = false from decide_eq_false (fun w => c w.1.symm)]; rfl
theorem named_c {n a p sz : Nat} {tx : Nat → Nat} {q : Pc4} (hn : 200000 ≤ n) (h : CQ tx sz q p) (ha : a ≤ p) : (∀ k, k < 8 → mt tx a (p - a) k = true → moQ4_partNamed n (nI a) q = some (some k)) ∧ ((∀ k, k < 8 → mt tx a (p - a) k = false) → moQ4_partNamed n (nI a) q = some none) := by
  have key : ∀ (fuel i : Nat), i ≤ 8 → 8 - i < fuel → (∀ j, j < i → mt tx a (p - a) j = false) → (∀ k, k < 8 → mt tx a (p - a) k = true → moQ4_partNamed_L2 n q (some none) (fun z7_2 => (gi z7_2 8 (some (some (Int32.toNatClampNeg z7_2))))) fuel (nI a) (nI i) = some (some k)) ∧ ((∀ k, k < 8 → mt tx a (p - a) k = false) → moQ4_partNamed_L2 n q (some none) (fun z7_2 => (gi z7_2 8 (some (some (Int32.toNatClampNeg z7_2))))) fuel (nI a) (nI i) = some none) := by
    intro fuel
    induction fuel with
    | zero => intro i _ h; omega
    | succ u ih =>
      intro i hi hf hpre
      rw [moQ4_partNamed_L2]
      by_cases c : 8 ≤ i
      · rw [if_pos (show (8 : Int32) ≤ nI i from nI_le (a := 8) c (by omega))]
        exact ⟨fun k hk hm => absurd hm (by rw [hpre k (by omega)]; decide), fun _ => rfl⟩
      · rw [if_neg (show ¬ (8 : Int32) ≤ nI i from nI_ge (b := 8) (by omega) (by decide)), gi_in (by omega) (by decide), nI_clamp (by omega), gl_in (by omega), isWord_c hn h (by omega) ha, b1, nI_1]
        cases hm : mt tx a (p - a) i with
        | true =>
          rw [if_neg (by decide), gi_in (by omega) (by decide)]
          exact ⟨fun k hk hk2 => by rw [mt_uniq (show i < 12 by omega) (show k < 12 by omega) hm hk2], fun hall => absurd hm (by rw [hall i (by omega)]; decide)⟩
        | false =>
          rw [if_pos (by decide)]
          exact ih (i + 1) (by omega) (by omega) (fun j hj => by
            rcases Nat.lt_or_ge j i with g | g
            · exact hpre j g
            · rw [show j = i by omega]; exact hm)
  exact key n 0 (by omega) (by omega) (fun j hj => by omega)
theorem freqd_c {α : Type} {n a p sz : Nat} {tx : Nat → Nat} {q : Pc4} {K0 K1 : Int32 → Pc4 → Option α} (hn : 200000 ≤ n) (h : CQ tx sz q p) (ha : a ≤ p) : (∀ k, k < 4 → mt tx a (p - a) (8 + k) = true → moQ4_readFrequency_L10 n K0 K1 n (nI a) 0 q = K1 (nI k) q) ∧ ((∀ k, k < 4 → mt tx a (p - a) (8 + k) = false) → moQ4_readFrequency_L10 n K0 K1 n (nI a) 0 q = K0 (nI a) q) := by
  have key : ∀ (fuel i : Nat), i ≤ 4 → 4 - i < fuel → (∀ j, j < i → mt tx a (p - a) (8 + j) = false) → (∀ k, k < 4 → mt tx a (p - a) (8 + k) = true → moQ4_readFrequency_L10 n K0 K1 fuel (nI a) (nI i) q = K1 (nI k) q) ∧ ((∀ k, k < 4 → mt tx a (p - a) (8 + k) = false) → moQ4_readFrequency_L10 n K0 K1 fuel (nI a) (nI i) q = K0 (nI a) q) := by
    intro fuel
    induction fuel with
    | zero => intro i _ h; omega
    | succ u ih =>
      intro i hi hf hpre
      rw [moQ4_readFrequency_L10]
      by_cases c : 4 ≤ i
      · rw [if_pos (show (4 : Int32) ≤ nI i from nI_le (a := 4) c (by omega))]
        exact ⟨fun k hk hm => absurd hm (by rw [hpre k (by omega)]; decide), fun _ => rfl⟩
      · rw [if_neg (show ¬ (4 : Int32) ≤ nI i from nI_ge (b := 4) (by omega) (by decide)), gi_in (by omega) (by decide), nI_clamp (by omega), gl_in (by omega), isWord_c hn h (by omega) ha, b1, nI_1]
        cases hm : mt tx a (p - a) (8 + i) with
        | true =>
          rw [if_neg (by decide)]
          exact ⟨fun k hk hk2 => by rw [show i = k from by have := mt_uniq (show 8 + i < 12 by omega) (show 8 + k < 12 by omega) hm hk2; omega], fun hall => absurd hm (by rw [hall i (by omega)]; decide)⟩
        | false =>
          rw [if_pos (by decide)]
          exact ih (i + 1) (by omega) (by omega) (fun j hj => by
            rcases Nat.lt_or_ge j i with g | g
            · exact hpre j g
            · rw [show j = i by omega]; exact hm)
  exact key n 0 (by omega) (by omega) (fun j hj => by omega)
