/-! Pure: bits of words. -/
def bt (x : Int32) (i : Nat) : Bool := x.toBitVec.getLsbD i
theorem b_ext {x y : Int32} (h : ∀ i, i < 32 → bt x i = bt y i) : x = y := Int32.toBitVec_inj.mp (BitVec.eq_of_getLsbD_eq (fun i hi => h i hi))
theorem b_or (x y : Int32) (i : Nat) : bt (x ||| y) i = (bt x i || bt y i) := by unfold bt; rw [Int32.toBitVec_or, BitVec.getLsbD_or]
theorem b_and (x y : Int32) (i : Nat) : bt (x &&& y) i = (bt x i && bt y i) := by unfold bt; rw [Int32.toBitVec_and, BitVec.getLsbD_and]
theorem b_xor (x y : Int32) (i : Nat) : bt (x ^^^ y) i = (bt x i ^^ bt y i) := by unfold bt; rw [Int32.toBitVec_xor, BitVec.getLsbD_xor]
theorem b_big {x : Int32} {i : Nat} (h : 32 ≤ i) : bt x i = false := BitVec.getLsbD_of_ge _ _ h
theorem b_255 (i : Nat) : bt 255 i = decide (i < 8) := by
  rcases Nat.lt_or_ge i 32 with h | h
  · exact (by decide +kernel : ∀ i, i < 32 → bt 255 i = decide (i < 8)) i h
  · rw [b_big h, decide_eq_false (by omega)]
theorem b_65535 (i : Nat) : bt 65535 i = decide (i < 16) := by
  rcases Nat.lt_or_ge i 32 with h | h
  · exact (by decide +kernel : ∀ i, i < 32 → bt 65535 i = decide (i < 16)) i h
  · rw [b_big h, decide_eq_false (by omega)]
theorem b_m1 : ∀ i, i < 32 → bt (-1) i = true := by decide +kernel
theorem b_0 (i : Nat) : bt 0 i = false := BitVec.getLsbD_zero
theorem s_l : ∀ n, n < 32 → ((nI n &&& 31).toBitVec.smod 32).toNat = n := by decide +kernel
theorem s_u : ∀ n, n < 32 → (((nI n).toUInt32 &&& Int32.toUInt32 31).toBitVec % 32).toNat = n := by decide +kernel
theorem b_shl (n : Nat) (hn : n < 32) (x : Int32) {i : Nat} (hi : i < 32) : bt (x <<< (nI n &&& 31)) i = (decide (n ≤ i) && bt x (i - n)) := by
  unfold bt
  rw [Int32.toBitVec_shiftLeft]
  show (x.toBitVec <<< ((nI n &&& 31).toBitVec.smod 32).toNat).getLsbD i = _
  rw [s_l n hn, BitVec.getLsbD_shiftLeft]
  rcases Nat.lt_or_ge i n with h | h
  · simp [h, Nat.not_le.mpr h]
  · simp [hi, h, Nat.not_lt.mpr h]
theorem b_ushr (n : Nat) (hn : n < 32) (x : Int32) (i : Nat) : bt ((x.toUInt32 >>> ((nI n).toUInt32 &&& Int32.toUInt32 31)).toInt32) i = bt x (n + i) := by
  show (x.toUInt32 >>> ((nI n).toUInt32 &&& Int32.toUInt32 31)).toBitVec.getLsbD i = x.toUInt32.toBitVec.getLsbD (n + i)
  rw [UInt32.toBitVec_shiftRight]
  show (x.toUInt32.toBitVec >>> (((nI n).toUInt32 &&& Int32.toUInt32 31).toBitVec % 32).toNat).getLsbD i = _
  rw [s_u n hn, BitVec.getLsbD_ushiftRight]
theorem b_sshr (n : Nat) (hn : n < 32) (x : Int32) {i : Nat} (hi : i < 32) : bt (x >>> (nI n &&& 31)) i = if n + i < 32 then bt x (n + i) else bt x 31 := by
  unfold bt
  rw [Int32.toBitVec_shiftRight]
  show (x.toBitVec.sshiftRight ((nI n &&& 31).toBitVec.smod 32).toNat).getLsbD i = _
  rw [s_l n hn, BitVec.getLsbD_sshiftRight, BitVec.msb_eq_getLsbD_last]
  simp [hi]

theorem nx_and (a b : Nat) : nI a &&& nI b = nI (a &&& b) := by
  apply Int32.toBitVec_inj.1
  show BitVec.ofNat 32 a &&& BitVec.ofNat 32 b = BitVec.ofNat 32 (a &&& b)
  apply BitVec.eq_of_getLsbD_eq
  intro i hi
  simp [hi]
theorem bt_n {v i : Nat} (h : i < 32) : bt (nI v) i = v.testBit i := by
  show (BitVec.ofNat 32 v).getLsbD i = _
  rw [BitVec.getLsbD_ofNat]
  simp [h]
theorem bt_ofI (x : Int32) : ∃ v, v < 2 ^ 32 ∧ x = nI v := ⟨x.toBitVec.toNat, x.toBitVec.isLt, Int32.toBitVec_inj.mp (by show _ = BitVec.ofNat 32 _; simp)⟩
theorem bt_zero (x : Int32) : x = 0 ↔ ∀ i, i < 32 → bt x i = false := ⟨fun h i _ => by rw [h]; exact b_0 i, fun h => b_ext (fun i hi => by rw [h i hi, b_0])⟩
theorem bt_1 : ∀ j, j < 32 → bt 1 j = decide (j = 0) := by decide +kernel
theorem bt_sl1 {k i : Nat} (hk : k < 32) (hi : i < 32) : bt (slI 1 (nI k)) i = decide (i = k) := by
  unfold slI
  rw [b_shl k hk 1 hi]
  by_cases c : k ≤ i
  · rw [bt_1 _ (by omega), decide_eq_true c, Bool.true_and]
    exact decide_eq_decide.mpr ⟨fun h => by omega, fun h => by omega⟩
  · rw [decide_eq_false c, Bool.false_and, decide_eq_false (by omega)]
theorem bt_not {x : Int32} {i : Nat} (hi : i < 32) : bt (x ^^^ (-1)) i = !bt x i := by rw [b_xor, b_m1 i hi, Bool.xor_true]
theorem and_bit {x : Int32} {k : Nat} (hk : k < 32) : (x &&& slI 1 (nI k)) = 0 ↔ bt x k = false := by
  rw [bt_zero]
  constructor
  · intro h
    have := h k hk
    rw [b_and, bt_sl1 hk hk, decide_eq_true rfl, Bool.and_true] at this
    exact this
  · intro h i hi
    rw [b_and, bt_sl1 hk hi]
    by_cases c : i = k
    · subst c; rw [h, Bool.false_and]
    · rw [decide_eq_false c, Bool.and_false]
-- the lowest bit
theorem odd_part : ∀ v : Nat, v ≠ 0 → ∃ k y, v = 2 ^ k * (2 * y) + 2 ^ k := by
  intro v
  induction v using Nat.strongRecOn with
  | ind v ih =>
    intro h
    rcases Nat.mod_two_eq_zero_or_one v with c | c
    · obtain ⟨k, y, e⟩ := ih (v / 2) (by omega) (by omega)
      refine ⟨k + 1, y, ?_⟩
      rw [Nat.pow_succ]
      have e2 : v = 2 * (v / 2) := by omega
      rw [e2, e]
      have : 2 ^ k * 2 * (2 * y) = 2 * (2 ^ k * (2 * y)) := by rw [Nat.mul_comm (2 ^ k) 2, Nat.mul_assoc]
      omega
    · exact ⟨0, v / 2, by simp; omega⟩
theorem lowbit {x : Int32} (h : x ≠ 0) : ∃ k, k < 32 ∧ bt x k = true ∧ (∀ j, j < k → bt x j = false) ∧ (∀ i, i < 32 → bt (x &&& (x - 1)) i = (bt x i && !decide (i = k))) ∧ (x ^^^ (-1)) &&& (x - 1) = nI (2 ^ k - 1) := by
  obtain ⟨v, hv, rfl⟩ := bt_ofI x
  have h0 : v ≠ 0 := fun e => h (by rw [e]; rfl)
  obtain ⟨k, y, e⟩ := odd_part v h0
  have hp : 0 < 2 ^ k := Nat.two_pow_pos k
  have hk : k < 32 := by
    rcases Nat.lt_or_ge k 32 with c | c
    · exact c
    · have := Nat.pow_le_pow_right (show 0 < 2 by decide) c
      omega
  have e1 : nI v - 1 = nI (v - 1) := by
    have : nI (v - 1 + 1) - 1 = nI (v - 1) := nI_pred (v - 1)
    rw [show v - 1 + 1 = v by omega] at this
    exact this
  have e2 : v - 1 = 2 ^ k * (2 * y) + (2 ^ k - 1) := by omega
  have e3 : v = 2 ^ k * (2 * y + 1) + 0 := by rw [e, Nat.mul_add, Nat.mul_one, Nat.add_zero]
  have hv2 : ∀ i, i < 32 → bt (nI v) i = if i < k then false else (2 * y + 1).testBit (i - k) := by
    intro i hi
    rw [bt_n hi, e3, Nat.testBit_two_pow_mul_add _ hp]
    by_cases c : i < k
    · rw [if_pos c, if_pos c]; exact Nat.zero_testBit i
    · rw [if_neg c, if_neg c]
  have hm : ∀ i, i < 32 → bt (nI v - 1) i = if i < k then true else (2 * y).testBit (i - k) := by
    intro i hi
    rw [e1, bt_n hi, e2, Nat.testBit_two_pow_mul_add _ (by omega)]
    by_cases c : i < k
    · rw [if_pos c, if_pos c, Nat.testBit_two_pow_sub_one, decide_eq_true c]
    · rw [if_neg c, if_neg c]
  have t0 : (2 * y + 1).testBit 0 = true := by simp [Nat.testBit_zero]
  have t0' : (2 * y).testBit 0 = false := by simp [Nat.testBit_zero]
  have ts : ∀ j, 0 < j → (2 * y + 1).testBit j = (2 * y).testBit j := by
    intro j hj
    obtain ⟨j', rfl⟩ : ∃ j', j = j' + 1 := ⟨j - 1, by omega⟩
    rw [Nat.testBit_succ, Nat.testBit_succ]
    congr 1
    omega
  refine ⟨k, hk, ?_, ?_, ?_, ?_⟩
  · rw [hv2 k hk, if_neg (Nat.lt_irrefl k), Nat.sub_self]; exact t0
  · intro j hj
    rw [hv2 j (by omega), if_pos hj]
  · intro i hi
    rw [b_and, hv2 i hi, hm i hi]
    by_cases c : i < k
    · rw [if_pos c, if_pos c]; rfl
    · rw [if_neg c, if_neg c]
      by_cases c2 : i = k
      · subst c2; rw [Nat.sub_self, t0, t0', decide_eq_true rfl]; rfl
      · rw [ts _ (by omega), decide_eq_false c2]
        cases (2 * y).testBit (i - k) <;> rfl
  · refine b_ext (fun i hi => ?_)
    rw [b_and, bt_not hi, hv2 i hi, hm i hi, bt_n hi, Nat.testBit_two_pow_sub_one]
    by_cases c : i < k
    · rw [if_pos c, if_pos c, decide_eq_true c]; rfl
    · rw [if_neg c, if_neg c, decide_eq_false c]
      by_cases c2 : i = k
      · subst c2; rw [Nat.sub_self, t0]; rfl
      · rw [ts _ (by omega)]
        cases (2 * y).testBit (i - k) <;> rfl
theorem ntz_n {n : Nat} {x : Int32} (h : x ≠ 0) : ∃ k, k < 32 ∧ bt x k = true ∧ (∀ j, j < k → bt x j = false) ∧ (∀ i, i < 32 → bt (x &&& (x - 1)) i = (bt x i && !decide (i = k))) ∧ moQJ6_numberOfTrailingZeros_0f7a4 n x = some (nI k) := by
  obtain ⟨k, hk, h1, h2, h3, h4⟩ := lowbit h
  refine ⟨k, hk, h1, h2, h3, ?_⟩
  unfold moQJ6_numberOfTrailingZeros_0f7a4
  rw [h4]
  unfold moQJ6_numberOfTrailingZeros_0f7a4_B49
  revert k
  intro k hk _ _ _ _
  exact (by decide +kernel : ∀ k, k < 32 → (if 0 < nI (2 ^ k - 1) then (if nI (2 ^ k - 1) ≤ 65536 then (if nI (2 ^ k - 1) ≤ 256 then (if nI (2 ^ k - 1) ≤ 16 then (if nI (2 ^ k - 1) ≤ 4 then (some (1 + (urI (nI (2 ^ k - 1)) 1))) else (some ((1 + 2) + (urI (urI (nI (2 ^ k - 1)) 2) 1)))) else (if (urI (nI (2 ^ k - 1)) 4) ≤ 4 then (some ((1 + 4) + (urI (urI (nI (2 ^ k - 1)) 4) 1))) else (some (((1 + 4) + 2) + (urI (urI (urI (nI (2 ^ k - 1)) 4) 2) 1))))) else (if (urI (nI (2 ^ k - 1)) 8) ≤ 16 then (if (urI (nI (2 ^ k - 1)) 8) ≤ 4 then (some (9 + (urI (urI (nI (2 ^ k - 1)) 8) 1))) else (some ((9 + 2) + (urI (urI (urI (nI (2 ^ k - 1)) 8) 2) 1)))) else (if (urI (urI (nI (2 ^ k - 1)) 8) 4) ≤ 4 then (some ((9 + 4) + (urI (urI (urI (nI (2 ^ k - 1)) 8) 4) 1))) else (some (((9 + 4) + 2) + (urI (urI (urI (urI (nI (2 ^ k - 1)) 8) 4) 2) 1)))))) else (if (urI (nI (2 ^ k - 1)) 16) ≤ 256 then (if (urI (nI (2 ^ k - 1)) 16) ≤ 16 then (if (urI (nI (2 ^ k - 1)) 16) ≤ 4 then (some (17 + (urI (urI (nI (2 ^ k - 1)) 16) 1))) else (some ((17 + 2) + (urI (urI (urI (nI (2 ^ k - 1)) 16) 2) 1)))) else (if (urI (urI (nI (2 ^ k - 1)) 16) 4) ≤ 4 then (some ((17 + 4) + (urI (urI (urI (nI (2 ^ k - 1)) 16) 4) 1))) else (some (((17 + 4) + 2) + (urI (urI (urI (urI (nI (2 ^ k - 1)) 16) 4) 2) 1))))) else (if (urI (urI (nI (2 ^ k - 1)) 16) 8) ≤ 16 then (if (urI (urI (nI (2 ^ k - 1)) 16) 8) ≤ 4 then (some (25 + (urI (urI (urI (nI (2 ^ k - 1)) 16) 8) 1))) else (some ((25 + 2) + (urI (urI (urI (urI (nI (2 ^ k - 1)) 16) 8) 2) 1)))) else (if (urI (urI (urI (nI (2 ^ k - 1)) 16) 8) 4) ≤ 4 then (some ((25 + 4) + (urI (urI (urI (urI (nI (2 ^ k - 1)) 16) 8) 4) 1))) else (some (((25 + 4) + 2) + (urI (urI (urI (urI (urI (nI (2 ^ k - 1)) 16) 8) 4) 2) 1))))))) else (some (nI (2 ^ k - 1) &&& 32))) = some (nI k)) k hk
-- counting
def cN (f : Nat → Bool) : Nat → Nat
  | 0 => 0
  | n + 1 => cN f n + (if f n = true then 1 else 0)
theorem cN_s {f : Nat → Bool} {n : Nat} : cN f (n + 1) = cN f n + (if f n = true then 1 else 0) := rfl
theorem cN_le (f : Nat → Bool) (n : Nat) : cN f n ≤ n := by
  induction n with
  | zero => exact Nat.le_refl _
  | succ n ih => rw [cN_s]; split <;> omega
theorem cN_congr {f g : Nat → Bool} {n : Nat} (h : ∀ i, i < n → f i = g i) : cN f n = cN g n := by
  induction n with
  | zero => rfl
  | succ n ih => rw [cN_s, cN_s, ih (fun i hi => h i (by omega)), h n (by omega)]
theorem cN_add (f : Nat → Bool) (a b : Nat) : cN f (a + b) = cN f a + cN (fun i => f (a + i)) b := by
  induction b with
  | zero => rfl
  | succ b ih => rw [← Nat.add_assoc, cN_s, cN_s, ih]; omega
theorem cN_mono (f : Nat → Bool) {a b : Nat} (h : a ≤ b) : cN f a ≤ cN f b := by
  obtain ⟨c, rfl⟩ : ∃ c, b = a + c := ⟨b - a, by omega⟩
  rw [cN_add]; omega
theorem cN_none {f : Nat → Bool} {n : Nat} (h : ∀ i, i < n → f i = false) : cN f n = 0 := by
  induction n with
  | zero => rfl
  | succ n ih => rw [cN_s, ih (fun i hi => h i (by omega)), h n (by omega)]; rfl
theorem cN_zero {f : Nat → Bool} {n : Nat} (h : cN f n = 0) : ∀ i, i < n → f i = false := by
  induction n with
  | zero => intro i hi; omega
  | succ n ih =>
    rw [cN_s] at h
    intro i hi
    rcases Nat.lt_or_ge i n with c | c
    · exact ih (by omega) i c
    · rw [show i = n by omega]
      cases hf : f n with
      | false => rfl
      | true => rw [hf] at h; simp at h
/-- without one of its members -/
theorem cN_del {f : Nat → Bool} {n k : Nat} (hk : k < n) (hf : f k = true) : cN f n = cN (fun i => f i && !decide (i = k)) n + 1 := by
  obtain ⟨c, rfl⟩ : ∃ c, n = k + 1 + c := ⟨n - (k + 1), by omega⟩
  rw [cN_add, cN_add (fun i => f i && !decide (i = k)), cN_s, cN_s, hf]
  have e1 : cN (fun i => f i && !decide (i = k)) k = cN f k := cN_congr (fun i hi => by rw [decide_eq_false (by omega)]; simp)
  have e2 : cN (fun i => (fun i => f i && !decide (i = k)) (k + 1 + i)) c = cN (fun i => f (k + 1 + i)) c := cN_congr (fun i hi => by simp; omega)
  rw [e1, e2]
  simp
  omega
def pcN (x : Int32) : Nat := cN (bt x) 32
theorem pc_zero {x : Int32} : pcN x = 0 ↔ x = 0 := by
  rw [bt_zero]
  exact ⟨fun h => cN_zero h, fun h => cN_none h⟩
