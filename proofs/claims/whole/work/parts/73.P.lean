/-! Pure: the JDK's count of bits. -/
theorem and_cat {a m x y : Nat} (ha : a < 256) (hm : m < 256) : (256 * x + a) &&& (256 * y + m) = 256 * (x &&& y) + (a &&& m) := by
  have ha' : a < 2 ^ 8 := ha
  have hm' : m < 2 ^ 8 := hm
  have hb : a &&& m < 2 ^ 8 := Nat.lt_of_le_of_lt Nat.and_le_left ha'
  apply Nat.eq_of_testBit_eq
  intro i
  rw [Nat.testBit_and, show 256 = 2 ^ 8 from rfl, Nat.testBit_two_pow_mul_add _ ha', Nat.testBit_two_pow_mul_add _ hm', Nat.testBit_two_pow_mul_add _ hb, Nat.testBit_and, Nat.testBit_and]
  split <;> rfl
def s8 (a : Nat) : Nat := a / 2 &&& 85
def p8 (a : Nat) : Nat := a - s8 a
def q8 (a : Nat) : Nat := (p8 a &&& 51) + (p8 a / 4 &&& 51)
def r8 (a : Nat) : Nat := (q8 a + q8 a / 16) % 16
theorem s8_c : ∀ a, a < 256 → ∀ b, b < 2 → (a / 2 + 128 * b) &&& 85 = s8 a := by decide +kernel
theorem s8_le : ∀ a, a < 256 → s8 a ≤ a := by decide +kernel
theorem q8_c : ∀ a, a < 256 → ∀ b, b < 4 → (p8 a / 4 + 64 * b) &&& 51 = p8 a / 4 &&& 51 := by decide +kernel
theorem q8_b : ∀ a, a < 256 → q8 a ≤ 68 ∧ q8 a % 16 ≤ 4 := by decide +kernel
theorem r8_c : ∀ a, a < 256 → ∀ c, c < 5 → (q8 a + q8 a / 16 + 16 * c) &&& 15 = r8 a := by decide +kernel
theorem r8_b : ∀ a, a < 256 → r8 a ≤ 8 := by decide +kernel
theorem r8_n : ∀ a, a < 256 → r8 a = cN (fun i => a.testBit i) 8 := by decide +kernel
theorem swar1 {a x : Nat} {M : Nat} (ha : a < 256) : (256 * x + a) / 2 &&& (256 * M + 85) = 256 * (x / 2 &&& M) + s8 a := by
  rw [show (256 * x + a) / 2 = 256 * (x / 2) + (a / 2 + 128 * (x % 2)) by omega, and_cat (by omega) (by decide), s8_c a ha _ (by omega)]
theorem swar2 {a x : Nat} {M : Nat} (ha : a < 256) : (256 * x + p8 a) / 4 &&& (256 * M + 51) = 256 * (x / 4 &&& M) + (p8 a / 4 &&& 51) := by
  have : p8 a < 256 := by unfold p8; omega
  rw [show (256 * x + p8 a) / 4 = 256 * (x / 4) + (p8 a / 4 + 64 * (x % 4)) by omega, and_cat (by omega) (by decide), q8_c a ha _ (by omega)]
theorem fold4 {a b c d t3 t4 t5 : Nat} (ha : a ≤ 8) (hb : b ≤ 8) (hc : c ≤ 8) (hd : d ≤ 8) (h3 : t3 = 256 * (256 * (256 * d + c) + b) + a) (h4 : t4 = t3 + t3 / 256) (h5 : t5 = t4 + t4 / 65536) : t5 % 64 = a + b + c + d := by
  have e1 : t3 / 256 = 256 * (256 * d + c) + b := by omega
  have e2 : t4 = 65536 * (256 * d + (c + d)) + (256 * (b + c) + (a + b)) := by omega
  have e3 : t4 / 65536 = 256 * d + (c + d) := by omega
  have e4 : t5 = 64 * (1024 * (256 * d + (c + d)) + 4 * (b + c) + 4 * d) + (a + b + c + d) := by omega
  omega
theorem swar {a b c d : Nat} (ha : a < 256) (hb : b < 256) (hc : c < 256) (hd : d < 256) {v t1 t2 t3 t4 t5 : Nat} (hv : v = 256 * (256 * (256 * d + c) + b) + a) (h1 : t1 = v - (v / 2 &&& 1431655765)) (h2 : t2 = (t1 &&& 858993459) + (t1 / 4 &&& 858993459)) (h3 : t3 = (t2 + t2 / 16) &&& 252645135) (h4 : t4 = t3 + t3 / 256) (h5 : t5 = t4 + t4 / 65536) :
    t5 &&& 63 = r8 a + r8 b + r8 c + r8 d ∧ (v / 2 &&& 1431655765) ≤ v ∧ t1 < 2 ^ 32 ∧ t2 < 2 ^ 31 ∧ t2 + t2 / 16 < 2 ^ 31 ∧ t3 < 2 ^ 28 ∧ t4 < 2 ^ 29 ∧ t5 < 2 ^ 30 := by
  have g1 : v / 2 &&& 1431655765 = 256 * (256 * (256 * s8 d + s8 c) + s8 b) + s8 a := by
    rw [hv, show 1431655765 = 256 * 5592405 + 85 from rfl, swar1 ha, show 5592405 = 256 * 21845 + 85 from rfl, swar1 hb, show 21845 = 256 * 85 + 85 from rfl, swar1 hc]
    rfl
  have la := s8_le a ha
  have lb := s8_le b hb
  have lc := s8_le c hc
  have ld := s8_le d hd
  have g2 : t1 = 256 * (256 * (256 * p8 d + p8 c) + p8 b) + p8 a := by
    rw [h1, g1, hv]
    unfold p8
    omega
  have pa : p8 a < 256 := by unfold p8; omega
  have pb : p8 b < 256 := by unfold p8; omega
  have pc : p8 c < 256 := by unfold p8; omega
  have pd : p8 d < 256 := by unfold p8; omega
  have g3 : t1 &&& 858993459 = 256 * (256 * (256 * (p8 d &&& 51) + (p8 c &&& 51)) + (p8 b &&& 51)) + (p8 a &&& 51) := by
    rw [g2, show 858993459 = 256 * (256 * (256 * 51 + 51) + 51) + 51 from rfl, and_cat pa (by decide), and_cat pb (by decide), and_cat pc (by decide)]
  have g4 : t1 / 4 &&& 858993459 = 256 * (256 * (256 * (p8 d / 4 &&& 51) + (p8 c / 4 &&& 51)) + (p8 b / 4 &&& 51)) + (p8 a / 4 &&& 51) := by
    rw [g2, show 858993459 = 256 * (256 * (256 * 51 + 51) + 51) + 51 from rfl, swar2 ha, swar2 hb, swar2 hc]
  have g5 : t2 = 256 * (256 * (256 * q8 d + q8 c) + q8 b) + q8 a := by
    rw [h2, g3, g4]
    unfold q8
    omega
  have qa := q8_b a ha
  have qb := q8_b b hb
  have qc := q8_b c hc
  have qd := q8_b d hd
  have g6 : t2 + t2 / 16 = 256 * (256 * (256 * (q8 d + q8 d / 16 + 16 * 0) + (q8 c + q8 c / 16 + 16 * (q8 d % 16))) + (q8 b + q8 b / 16 + 16 * (q8 c % 16))) + (q8 a + q8 a / 16 + 16 * (q8 b % 16)) := by
    rw [g5]
    omega
  have g7 : t3 = 256 * (256 * (256 * r8 d + r8 c) + r8 b) + r8 a := by
    rw [h3, g6, show 252645135 = 256 * (256 * (256 * 15 + 15) + 15) + 15 from rfl, and_cat (by omega) (by decide), and_cat (by omega) (by decide), and_cat (by omega) (by decide), r8_c a ha _ (by omega), r8_c b hb _ (by omega), r8_c c hc _ (by omega), r8_c d hd 0 (by decide)]
  have ra := r8_b a ha
  have rb := r8_b b hb
  have rc := r8_b c hc
  have rd := r8_b d hd
  have g8 : t5 % 64 = r8 a + r8 b + r8 c + r8 d := by
    exact fold4 ra rb rc rd g7 h4 h5
  refine ⟨?_, by omega, by omega, by omega, by omega, by omega, by omega, by omega⟩
  rw [show 63 = 2 ^ 6 - 1 from rfl, Nat.and_two_pow_sub_one_eq_mod]
  exact g8
theorem urI_n {v k : Nat} (hv : v < 2 ^ 32) (hk : k < 32) : urI (nI v) (nI k) = nI (v / 2 ^ k) := pk_ushrN hv (nI k) k (s_u k hk)
theorem pc_bytes {a b c d : Nat} (ha : a < 256) (hb : b < 256) (hc : c < 256) (hd : d < 256) : pcN (nI (256 * (256 * (256 * d + c) + b) + a)) = r8 a + r8 b + r8 c + r8 d := by
  unfold pcN
  have key : ∀ (x y : Nat), y < 256 → ∀ i, (256 * x + y).testBit i = if i < 8 then y.testBit i else x.testBit (i - 8) := fun x y hy i => Nat.testBit_two_pow_mul_add (i := 8) x hy i
  rw [show (32 : Nat) = 8 + (8 + (8 + 8)) from rfl, cN_add, cN_add, cN_add, r8_n a ha, r8_n b hb, r8_n c hc, r8_n d hd]
  have e0 : cN (bt (nI (256 * (256 * (256 * d + c) + b) + a))) 8 = cN (fun i => a.testBit i) 8 := cN_congr (fun i hi => by rw [bt_n (by omega), key _ _ ha, if_pos hi])
  have e1 : cN (fun i => bt (nI (256 * (256 * (256 * d + c) + b) + a)) (8 + i)) 8 = cN (fun i => b.testBit i) 8 := cN_congr (fun i hi => by rw [bt_n (by omega), key _ _ ha, if_neg (by omega), show 8 + i - 8 = i by omega, key _ _ hb, if_pos hi])
  have e2 : cN (fun i => (fun i => bt (nI (256 * (256 * (256 * d + c) + b) + a)) (8 + i)) (8 + i)) 8 = cN (fun i => c.testBit i) 8 := cN_congr (fun i hi => by
    show bt (nI (256 * (256 * (256 * d + c) + b) + a)) (8 + (8 + i)) = _
    rw [bt_n (by omega), key _ _ ha, if_neg (by omega), show 8 + (8 + i) - 8 = 8 + i by omega, key _ _ hb, if_neg (by omega), show 8 + i - 8 = i by omega, key _ _ hc, if_pos hi])
  have e3 : cN (fun i => (fun i => (fun i => bt (nI (256 * (256 * (256 * d + c) + b) + a)) (8 + i)) (8 + i)) (8 + i)) 8 = cN (fun i => d.testBit i) 8 := cN_congr (fun i hi => by
    show bt (nI (256 * (256 * (256 * d + c) + b) + a)) (8 + (8 + (8 + i))) = _
    rw [bt_n (by omega), key _ _ ha, if_neg (by omega), show 8 + (8 + (8 + i)) - 8 = 8 + (8 + i) by omega, key _ _ hb, if_neg (by omega), show 8 + (8 + i) - 8 = 8 + i by omega, key _ _ hc, if_neg (by omega), show 8 + i - 8 = i by omega])
  rw [e0, e1, e2, e3]
  omega
theorem bitCount_n {n : Nat} (x : Int32) : moQJ6_bitCount_0f7a4 n x = some (nI (pcN x)) := by
  obtain ⟨v, hv, rfl⟩ := bt_ofI x
  obtain ⟨a, b, c, d, ha, hb, hc, hd, e⟩ : ∃ a b c d : Nat, a < 256 ∧ b < 256 ∧ c < 256 ∧ d < 256 ∧ v = 256 * (256 * (256 * d + c) + b) + a := ⟨v % 256, v / 256 % 256, v / 65536 % 256, v / 16777216, by omega, by omega, by omega, by omega, by omega⟩
  obtain ⟨h, l0, l1, l2, l23, l3, l4, l5⟩ := swar ha hb hc hd (v := v) e rfl rfl rfl rfl rfl
  unfold moQJ6_bitCount_0f7a4
  rw [show urI (nI v) 1 = nI (v / 2) from urI_n (k := 1) hv (by decide), show nI (v / 2) &&& (1431655765 : Int32) = nI (v / 2 &&& 1431655765) from nx_and _ 1431655765, pk_sub l0]
  generalize ht1 : v - (v / 2 &&& 1431655765) = t1 at *
  rw [show nI t1 &&& (858993459 : Int32) = nI (t1 &&& 858993459) from nx_and _ 858993459, show urI (nI t1) 2 = nI (t1 / 4) from urI_n (k := 2) l1 (by decide), show nI (t1 / 4) &&& (858993459 : Int32) = nI (t1 / 4 &&& 858993459) from nx_and _ 858993459, nI_add]
  generalize ht2 : (t1 &&& 858993459) + (t1 / 4 &&& 858993459) = t2 at *
  rw [show urI (nI t2) 4 = nI (t2 / 16) from urI_n (k := 4) (by omega) (by decide), nI_add, show nI (t2 + t2 / 16) &&& (252645135 : Int32) = nI ((t2 + t2 / 16) &&& 252645135) from nx_and _ 252645135]
  generalize ht3 : (t2 + t2 / 16) &&& 252645135 = t3 at *
  rw [show urI (nI t3) 8 = nI (t3 / 256) from urI_n (k := 8) (by omega) (by decide), nI_add]
  generalize ht4 : t3 + t3 / 256 = t4 at *
  rw [show urI (nI t4) 16 = nI (t4 / 65536) from urI_n (k := 16) (by omega) (by decide), nI_add, show nI (t4 + t4 / 65536) &&& (63 : Int32) = nI ((t4 + t4 / 65536) &&& 63) from nx_and _ 63, h, e, pc_bytes ha hb hc hd]
