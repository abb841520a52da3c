/-! Pure: reading a rule: states, numbers. -/
def smQ (i : Nat) : Bool := decide (2 ≤ i ∧ i ≤ 14 ∧ i ≠ 11)
def FQ (q q' : Pc4) : Prop := (∀ i, smQ i = false → q'.1 i = q.1 i) ∧ (∀ a, a ≠ 7 → q'.2.1 a = q.2.1 a) ∧ (∀ a, a ≠ 5 → a ≠ 6 → q'.2.2.1 a = q.2.2.1 a) ∧ (∀ i, i ≠ 2 → q'.2.2.2 i = q.2.2.2 i)
def smM (i : Nat) : Bool := ([5, 6, 7, 9, 10, 11, 12, 17] : List Nat).contains i
def amM (i : Nat) : Bool := ([8, 13, 14, 15, 16] : List Nat).contains i
def FM (q q' : Pc3) : Prop := (∀ i, smM i = false → q'.1 i = q.1 i) ∧ (∀ a, amM a = false → q'.2.1 a = q.2.1 a) ∧ q'.2.2 = q.2.2
theorem FQ.rf {q : Pc4} : FQ q q := ⟨fun _ _ => rfl, fun _ _ => rfl, fun _ _ _ => rfl, fun _ _ => rfl⟩
theorem FM.rf {q : Pc3} : FM q q := ⟨fun _ _ => rfl, fun _ _ => rfl, rfl⟩
theorem FQ.trans {q q' q'' : Pc4} (h : FQ q q') (h' : FQ q' q'') : FQ q q'' := ⟨fun i g => (h'.1 i g).trans (h.1 i g), fun i g => (h'.2.1 i g).trans (h.2.1 i g), fun i g g' => (h'.2.2.1 i g g').trans (h.2.2.1 i g g'), fun i g => (h'.2.2.2 i g).trans (h.2.2.2 i g)⟩
theorem FM.trans {q q' q'' : Pc3} (h : FM q q') (h' : FM q' q'') : FM q q'' := ⟨fun i g => (h'.1 i g).trans (h.1 i g), fun i g => (h'.2.1 i g).trans (h.2.1 i g), h'.2.2.trans h.2.2⟩
theorem FQ.S {q q' : Pc4} {i : Nat} {v : Int32} (h : FQ q q') (hi : smQ i = true) : FQ q (s4S q' i v) := ⟨fun j g => (upd_ne (fun e => by rw [e, hi] at g; cases g)).trans (h.1 j g), h.2.1, h.2.2.1, h.2.2.2⟩
theorem FQ.A {q q' : Pc4} {i v : Int32} (h : FQ q q') : FQ q (s4A q' 7 i v) := ⟨h.1, fun a g => (s4A_ne g).trans (h.2.1 a g), h.2.2.1, h.2.2.2⟩
theorem FQ.L {q q' : Pc4} {k : Nat} {i : Int32} {v : Int64} (h : FQ q q') (hk : k = 5 ∨ k = 6) : FQ q (s4L q' k i v) := ⟨h.1, h.2.1, fun a g g' => (va_up_ne q'.2.2.1 _ (by rcases hk with e | e <;> rw [e] <;> assumption)).trans (h.2.2.1 a g g'), h.2.2.2⟩
theorem FQ.I {q q' : Pc4} {v : Nat} (h : FQ q q') : FQ q (s4I q' 2 v) := ⟨h.1, h.2.1, h.2.2.1, fun i g => (va_up_ne q'.2.2.2 _ g).trans (h.2.2.2 i g)⟩
theorem FM.S {q q' : Pc3} {i : Nat} {v : Int32} (h : FM q q') (hi : smM i = true) : FM q (sS q' i v) := ⟨fun j g => (upd_ne (fun e => by rw [e, hi] at g; cases g)).trans (h.1 j g), h.2.1, h.2.2⟩
theorem FM.A {q q' : Pc3} {k : Nat} {i v : Int32} (h : FM q q') (hk : amM k = true) : FM q (sA q' k i v) := ⟨h.1, fun a g => (sA_ne (fun e => by rw [e, hk] at g; cases g)).trans (h.2.1 a g), h.2.2⟩
theorem CQ.fr {tx : Nat → Nat} {sz p p' : Nat} {q q' : Pc4} (h : CQ tx sz q p) (hf : FQ q q') (he : q'.1 12 = nI p') (hp : p' ≤ sz) : CQ tx sz q' p' := ⟨h.1, h.2.1, (hf.2.2.2 0 (by decide)).trans h.2.2.1, (hf.1 11 (by decide)).trans h.2.2.2.1, by rw [hf.2.1 1 (by decide)]; exact h.2.2.2.2.1, he, hp⟩
theorem CM.fr {tx : Nat → Nat} {sz p p' : Nat} {q q' : Pc3} (h : CM tx sz q p) (hf : FM q q') (he : q'.1 7 = nI p') : CM tx sz q' p' := ⟨h.1, h.2.1, (hf.1 4 (by decide)).trans h.2.2.1, by rw [hf.2.1 3 (by decide)]; exact h.2.2.2.1, he⟩
theorem CQ.at {tx : Nat → Nat} {sz p p' : Nat} {q : Pc4} (h : CQ tx sz q p) (hp : p' ≤ sz) : CQ tx sz (s4S q 12 (nI p')) p' := h.fr (FQ.rf.S (by decide)) rfl hp
theorem CM.at {tx : Nat → Nat} {sz p p' : Nat} {q : Pc3} (h : CM tx sz q p) : CM tx sz (sS q 7 (nI p')) p' := h.fr (FM.rf.S (by decide)) rfl
theorem upd_upd {f : Nat → Int32} {k : Nat} {a b : Int32} : upd (upd f k a) k b = upd f k b := by
  funext j
  by_cases c : j = k
  · subst c; rw [upd_self, upd_self]
  · rw [upd_ne c, upd_ne c, upd_ne c]
theorem upd_id {f : Nat → Int32} {k : Nat} {a : Int32} (h : f k = a) : upd f k a = f := by
  funext j
  by_cases c : j = k
  · subst c; rw [upd_self, h]
  · rw [upd_ne c]
theorem s4S_ss {q : Pc4} {k : Nat} {a b : Int32} : s4S (s4S q k a) k b = s4S q k b := by
  show (upd (upd q.1 k a) k b, _) = (upd q.1 k b, _)
  rw [upd_upd]; rfl
theorem s4S_id {q : Pc4} {k : Nat} {a : Int32} (h : q.1 k = a) : s4S q k a = q := by
  show (upd q.1 k a, _) = q
  rw [upd_id h]
theorem sS_ss {q : Pc3} {k : Nat} {a b : Int32} : sS (sS q k a) k b = sS q k b := by
  show (upd (upd q.1 k a) k b, _) = (upd q.1 k b, _)
  rw [upd_upd]; rfl
theorem sS_id {q : Pc3} {k : Nat} {a : Int32} (h : q.1 k = a) : sS q k a = q := by
  show (upd q.1 k a, _) = q
  rw [upd_id h]
def bL (x : Int64) (i : Nat) : Bool := x.toBitVec.getLsbD i
def RT (qm : Pc3) (q : Pc4) : Prop :=
  (∀ k, k < 8 → (qm.2.1 8 k = 0 ↔ bt (q.1 2) k = false)) ∧
  (q.2.2.2 2 < 4 ∧ (¬ qm.2.1 8 0 = 0 → qm.1 9 = nI (q.2.2.2 2))) ∧
  (qm.1 10 = q.1 3 ∧ ∃ v, 1 ≤ v ∧ v ≤ 400 ∧ q.1 3 = nI v) ∧
  (qm.1 11 = q.1 4 ∧ ∃ v, v ≤ 1000000 ∧ q.1 4 = nI v) ∧
  (∃ m k, isD (q.1 5) m k ∧ (qm.1 12 = nI (cumN m + k) ∨ (cumN m + k = 109572 ∧ qm.1 12 = nI 109573))) ∧
  (∀ v, 1 ≤ v → v ≤ 12 → (qm.2.1 13 v = 0 ↔ bt (q.1 6) v = false)) ∧
  (∀ v, 1 ≤ v → v ≤ 31 → (qm.2.1 14 (31 + v) = 0 ↔ bt (q.1 7) (v - 1) = false) ∧ (qm.2.1 14 (31 - v) = 0 ↔ bt (q.1 8) (31 - v) = false)) ∧
  (∀ i, i < 733 → (qm.2.1 15 i = 0 ↔ q.2.1 7 i = 0)) ∧
  (∀ w, w < 7 → (qm.2.1 16 (107 * w + 53) = 0 ↔ bt (q.1 9) w = false) ∧ ∀ v, 1 ≤ v → v ≤ 53 → (qm.2.1 16 (107 * w + 53 + v) = 0 ↔ bL (q.2.2.1 5 w) v = false) ∧ (qm.2.1 16 (107 * w + 53 - v) = 0 ↔ bL (q.2.2.1 6 w) v = false)) ∧
  ((qm.1 17 = 0 ↔ q.1 10 = 0) ∧ ∀ i, 7 ≤ i → i < 32 → bt (q.1 9) i = false)
def RS (tx : Nat → Nat) (sz : Nat) (qm : Pc3) (q : Pc4) (p : Nat) : Prop := CQ tx sz q p ∧ CM tx sz qm p ∧ q.1 13 = 0 ∧ qm.1 5 = 0 ∧ q.1 14 = qm.1 6 ∧ RT qm q ∧ Dts qm
def FS (tx : Nat → Nat) (sz : Nat) (qm : Pc3) (q : Pc4) : Prop := (∃ p, CQ tx sz q p) ∧ ¬ q.1 13 ≤ 0 ∧ q.1 13 = qm.1 5 ∧ q.1 14 = qm.1 6 ∧ q.2.2.2 2 < 4
def flQ (q : Pc4) (k w : Int32) : Pc4 := s4S (s4S q 13 k) 14 w
def flM (q : Pc3) (k w : Int32) : Pc3 := sS (sS q 5 k) 6 w
theorem fail_c0 {n : Nat} {q : Pc4} {k w : Int32} (h : q.1 13 = 0) : moQ4_fail n k w q = some (flQ q k w) := if_pos h
theorem fail_c1 {n : Nat} {q : Pc4} {k w : Int32} (h : ¬ q.1 13 = 0) : moQ4_fail n k w q = some q := if_neg h
theorem fail_r0 {n : Nat} {q : Pc3} {k w : Int32} (h : q.1 5 = 0) : moM_fail n k w q = some (flM q k w) := if_pos h
theorem fail_r1 {n : Nat} {q : Pc3} {k w : Int32} (h : ¬ q.1 5 = 0) : moM_fail n k w q = some q := if_neg h
theorem FQ.f {q q' : Pc4} {k w : Int32} (h : FQ q q') : FQ q (flQ q' k w) := (h.S (by decide)).S (by decide)
theorem FM.f {q q' : Pc3} {k w : Int32} (h : FM q q') : FM q (flM q' k w) := (h.S (by decide)).S (by decide)
theorem FS_mk {tx : Nat → Nat} {sz p : Nat} {qm : Pc3} {q : Pc4} {k w : Int32} (h : CQ tx sz q p) (hk : ¬ k ≤ 0) (h4 : q.2.2.2 2 < 4) : FS tx sz (flM qm k w) (flQ q k w) := ⟨⟨p, h⟩, hk, rfl, rfl, h4⟩
theorem FS.ne {tx : Nat → Nat} {sz : Nat} {qm : Pc3} {q : Pc4} (h : FS tx sz qm q) : ¬ q.1 13 = 0 := fun e => h.2.1 (by rw [e]; decide)
theorem FS.nm {tx : Nat → Nat} {sz : Nat} {qm : Pc3} {q : Pc4} (h : FS tx sz qm q) : ¬ qm.1 5 = 0 ∧ ¬ qm.1 5 ≤ 0 := ⟨fun e => h.ne (h.2.2.1.trans e), by rw [← h.2.2.1]; exact h.2.1⟩
-- letters
theorem take_c {n M L p sz : Nat} {tx : Nat → Nat} {q : Pc4} (hn : 200000 ≤ n) (h : CQ tx sz q p) (hL : Run (cap tx sz) p L) (hp : p + L ≤ sz) (hM : 0 < M) (hM2 : M ≤ 200) : moQ4_takeLetters n (nI M) q = if L = 0 then (bd1 (moQ4_fail n 1 (nI p) q) fun q_6 => some (nI p, q_6)) else some (nI p, s4S q 12 (nI (p + min M L))) := by
  have hs := h.1
  unfold moQ4_takeLetters
  have key : ∀ (fuel i : Nat), i ≤ min M L → min M L - i < fuel → moQ4_takeLetters_L7 n (fun z4_2 q_4 => (if (r4S q_4 12) = z4_2 then (bd1 (moQ4_fail n 1 (r4S q_4 12) q_4) fun q_6 => (some (z4_2, q_6))) else (some (z4_2, q_4)))) fuel (nI M) (nI p) (nI i) (s4S q 12 (nI (p + i))) = (if nI (p + min M L) = nI p then (bd1 (moQ4_fail n 1 (nI (p + min M L)) (s4S q 12 (nI (p + min M L)))) fun q_6 => (some (nI p, q_6))) else (some (nI p, s4S q 12 (nI (p + min M L))))) := by
    intro fuel
    induction fuel with
    | zero => intro i _ h; omega
    | succ u ih =>
      intro i hi hf
      rw [moQ4_takeLetters_L7]
      by_cases c : M ≤ i
      · have : i = min M L := by omega
        rw [if_pos (nI_le c (by omega)), ← this]
        rfl
      · rw [if_neg (nI_ge (by omega) (by omega)), seesL_c (h.at (show p + i ≤ sz by omega)), b1]
        by_cases c2 : i < L
        · rw [hL.1 i c2, if_neg (by decide), nI_1, show r4S (s4S q 12 (nI (p + i))) 12 = nI (p + i) from rfl, nI_1, s4S_ss]
          exact ih (i + 1) (by omega) (by omega)
        · have : i = L := by omega
          rw [show cap tx sz (p + i) = false from by rw [this]; exact hL.2, if_pos (by decide), show min M L = i by omega]
          rfl
  have k0 := key n 0 (by omega) (by omega)
  rw [Nat.add_zero, s4S_id h.2.2.2.2.2.1] at k0
  rw [show r4S q 12 = nI p from h.2.2.2.2.2.1]
  refine Eq.trans k0 ?_
  by_cases c : L = 0
  · rw [if_pos c, c, Nat.min_zero, Nat.add_zero, if_pos rfl, s4S_id h.2.2.2.2.2.1]
  · rw [if_neg c, if_neg (fun w => by have := (nI_eq (by omega) (by omega)).mp w; omega)]
-- figures
def dg (tx : Nat → Nat) (p : Nat) : Nat → Nat
  | 0 => 0
  | k + 1 => dg tx p k * 10 + (tx (p + k) - 48)
theorem digits_c {α : Type} {n p D sz : Nat} {tx : Nat → Nat} {q : Pc4} {K0 : Nat → Int32 → Int32 → Int32 → Int32 → Pc4 → Option α} {x1 : Nat} {x2 x3 x4 : Int32} (hn : 200000 ≤ n) (h : CQ tx sz q p) (hD : Run (fig tx sz) p D) (hp : p + D ≤ sz) : moQ4_readNumber_L69 n K0 n x1 x2 x3 x4 0 0 q = K0 x1 x2 x3 x4 (nI (min (dg tx p D) 100000000)) (s4S q 12 (nI (p + D))) := by
  have hs := h.1
  have key : ∀ (fuel j : Nat), j ≤ D → D - j < fuel → moQ4_readNumber_L69 n K0 fuel x1 x2 x3 x4 (nI (min (dg tx p j) 100000000)) (nI j) (s4S q 12 (nI (p + j))) = K0 x1 x2 x3 x4 (nI (min (dg tx p D) 100000000)) (s4S q 12 (nI (p + D))) := by
    intro fuel
    induction fuel with
    | zero => intro i _ h; omega
    | succ u ih =>
      intro j hj hf
      rw [moQ4_readNumber_L69]
      by_cases c : 200 ≤ j
      · rw [if_pos (show (200 : Int32) ≤ nI j from nI_le (a := 200) c (by omega)), show j = D by omega]
      · have hat := h.at (show p + j ≤ sz by omega)
        rw [if_neg (show ¬ (200 : Int32) ≤ nI j from nI_ge (b := 200) (by omega) (by decide)), seesF_c hat, b1]
        by_cases c2 : j < D
        · have hf2 := hD.1 j c2
          have hf3 : p + j < sz ∧ 48 ≤ tx (p + j) ∧ tx (p + j) ≤ 57 := of_decide_eq_true hf2
          rw [hf2, if_neg (by decide), show r4I (s4S q 12 (nI (p + j))) 0 = 1 from hat.2.2.1, ge1, show r4S (s4S q 12 (nI (p + j))) 12 = nI (p + j) from rfl, gi_in (by omega) (by decide), r4n (by omega), show (s4S q 12 (nI (p + j))).2.1 1 (p + j) = nI (tx (p + j)) from hat.2.2.2.2.1 _ hf3.1, nI_1, nI_1, s4S_ss, show nI (min (dg tx p j) 100000000) * (10 : Int32) = nI (min (dg tx p j) 100000000 * 10) from pk_mul _ 10, nI_add, show nI (min (dg tx p j) 100000000 * 10 + tx (p + j)) - (48 : Int32) = nI (min (dg tx p j) 100000000 * 10 + tx (p + j) - 48) from pk_sub (b := 48) (by omega)]
          have hm : minI 100000000 (nI (min (dg tx p j) 100000000 * 10 + tx (p + j) - 48)) = nI (min (dg tx p (j + 1)) 100000000) := by
            have e : dg tx p (j + 1) = dg tx p j * 10 + (tx (p + j) - 48) := rfl
            unfold minI
            by_cases g : min (dg tx p j) 100000000 * 10 + tx (p + j) - 48 < 100000000
            · rw [if_pos (show nI (min (dg tx p j) 100000000 * 10 + tx (p + j) - 48) < (100000000 : Int32) from nI_lt (b := 100000000) g (by decide))]
              congr 1; omega
            · rw [if_neg (show ¬ nI (min (dg tx p j) 100000000 * 10 + tx (p + j) - 48) < (100000000 : Int32) from nI_nlt (b := 100000000) (by omega) (by omega))]
              show nI 100000000 = _
              congr 1; omega
          rw [hm]
          exact ih (j + 1) (by omega) (by omega)
        · have : j = D := by omega
          rw [show fig tx sz (p + j) = false from by rw [this]; exact hD.2, if_pos (by decide), this]
  have k0 := key n 0 (by omega) (by omega)
  rw [Nat.add_zero, s4S_id h.2.2.2.2.2.1] at k0
  exact k0
theorem digits_r {α : Type} {n p D sz : Nat} {tx : Nat → Nat} {q : Pc3} {K0 : Int32 → Int32 → Int32 → Int32 → Int64 → Pc3 → Option α} {x1 x2 x3 x4 : Int32} (hn : 200000 ≤ n) (h : CM tx sz q p) (hD : Run (fig tx sz) p D) (hp : p + D ≤ sz) : moM_number_L96 n K0 n x1 x2 x3 x4 0 q = K0 x1 x2 x3 x4 (lN (min (dg tx p D) 99999999)) (sS q 7 (nI (p + D))) := by
  have hs := h.1
  have key : ∀ (fuel j : Nat), j ≤ D → D - j < fuel → moM_number_L96 n K0 fuel x1 x2 x3 x4 (lN (min (dg tx p j) 99999999)) (sS q 7 (nI (p + j))) = K0 x1 x2 x3 x4 (lN (min (dg tx p D) 99999999)) (sS q 7 (nI (p + D))) := by
    intro fuel
    induction fuel with
    | zero => intro i _ h; omega
    | succ u ih =>
      intro j hj hf
      have hat := h.at (p' := p + j)
      rw [moM_number_L96, show rS (sS q 7 (nI (p + j))) 7 = nI (p + j) from rfl, byteAt_r hat (by omega), b1, isFig_r h.2.1, b1, b1, nI_1, sS_ss]
      by_cases c2 : j < D
      · have hf2 := hD.1 j c2
        have hf3 : p + j < sz ∧ 48 ≤ tx (p + j) ∧ tx (p + j) ≤ 57 := of_decide_eq_true hf2
        have e : dg tx p (j + 1) = dg tx p j * 10 + (tx (p + j) - 48) := rfl
        rw [hf2, if_neg (by decide), show ba tx sz (p + j) = nI (tx (p + j)) from if_pos hf3.1, nI_l (by omega), show lN (min (dg tx p j) 99999999) * (10 : Int64) = lN (min (dg tx p j) 99999999 * 10) from lN_mul _ 10, lN_add, show lN (min (dg tx p j) 99999999 * 10 + tx (p + j)) - (48 : Int64) = lN (min (dg tx p j) 99999999 * 10 + tx (p + j) - 48) from lN_sub (b := 48) (by omega)]
        by_cases g : min (dg tx p j) 99999999 * 10 + tx (p + j) - 48 ≤ 99999999
        · rw [if_pos (show lg_cmp (lN (min (dg tx p j) 99999999 * 10 + tx (p + j) - 48)) 99999999 ≤ 0 from by rw [lg_cmp_le]; exact (lN_le (b := 99999999) (by omega) (by decide)).mpr g), show min (dg tx p j) 99999999 * 10 + tx (p + j) - 48 = min (dg tx p (j + 1)) 99999999 by omega]
          exact ih (j + 1) (by omega) (by omega)
        · rw [if_neg (show ¬ lg_cmp (lN (min (dg tx p j) 99999999 * 10 + tx (p + j) - 48)) 99999999 ≤ 0 from fun w => by rw [lg_cmp_le] at w; exact g ((lN_le (b := 99999999) (by omega) (by decide)).mp w)), show (99999999 : Int64) = lN (min (dg tx p (j + 1)) 99999999) from by rw [show min (dg tx p (j + 1)) 99999999 = 99999999 by omega]; rfl]
          exact ih (j + 1) (by omega) (by omega)
      · have : j = D := by omega
        rw [show fig tx sz (p + j) = false from by rw [this]; exact hD.2, if_pos (by decide), this]
  have k0 := key n 0 (by omega) (by omega)
  rw [Nat.add_zero, sS_id h.2.2.2.2] at k0
  exact k0
def sgI (b : Bool) : Int32 := if b = true then 1 else 0
theorem num_core {n k p sz : Nat} {x1 x2 : Int32} {tx : Nat → Nat} {qm : Pc3} {q : Pc4} (hn : 200000 ≤ n) (hk : k < 8) (hx : (0 : Int32) ≤ x1 ↔ (0 : Int32) ≤ plow k) (hQ : CQ tx sz q p) (hM : CM tx sz qm p) (h5 : qm.1 5 = 0) : ∃ p1 D neg, p ≤ p1 ∧ p1 + D ≤ sz ∧ (neg = true → ¬ (0 : Int32) ≤ plow k) ∧ (p1 = p ∨ ¬ (0 : Int32) ≤ plow k) ∧ moQ4_readNumber n k q = moQ4_readNumber_B125 n k (nI p) (sgI neg) (nI p1) (nI (min (dg tx p1 D) 100000000)) (s4S q 12 (nI (p1 + D))) ∧ (D = 0 → moM_number n x1 x2 qm = some (0, flM (sS qm 7 (nI p1)) 1 (nI p1))) ∧ (0 < D → moM_number n x1 x2 qm = moM_number_B177 n x1 x2 (nI p) (if neg = true then -lN (min (dg tx p1 D) 99999999) else lN (min (dg tx p1 D) 99999999)) (sS qm 7 (nI (p1 + D)))) := by
  have hs := hQ.1
  have hps := hQ.2.2.2.2.2.2
  have ht := hQ.2.1
  have at7 : rS qm 7 = nI p := hM.2.2.2.2
  have at12 : r4S q 12 = nI p := hQ.2.2.2.2.2.1
  -- from a place on
  have ref : ∀ p1, p1 ≤ sz → ∀ neg D, Run (fig tx sz) p1 D → p1 + D ≤ sz → (D = 0 → moM_number_B68 n x1 x2 (nI p) (sgI neg) (sS qm 7 (nI p1)) = some (0, flM (sS qm 7 (nI p1)) 1 (nI p1))) ∧ (0 < D → moM_number_B68 n x1 x2 (nI p) (sgI neg) (sS qm 7 (nI p1)) = moM_number_B177 n x1 x2 (nI p) (if neg = true then -lN (min (dg tx p1 D) 99999999) else lN (min (dg tx p1 D) 99999999)) (sS qm 7 (nI (p1 + D)))) := by
    intro p1 h1 neg D hD hpD
    have hat := hM.at (p' := p1)
    unfold moM_number_B68
    rw [show rS (sS qm 7 (nI p1)) 7 = nI p1 from rfl, byteAt_r hat (by omega), b1, isFig_r ht, b1]
    constructor
    · intro e
      subst e
      rw [show fig tx sz p1 = false from hD.2, if_pos (by decide), fail_r0 (show (sS qm 7 (nI p1)).1 5 = 0 from h5), b1]
    · intro e
      have := hD.1 0 e
      rw [Nat.add_zero] at this
      rw [this, if_neg (by decide), digits_r hn hat hD hpD, sS_ss]
      cases neg with
      | false => rw [if_pos (show sgI false = 0 from rfl), if_neg (by decide)]
      | true => rw [if_neg (show ¬ sgI true = 0 from by decide), if_pos rfl]
  have cls : ∀ p1, p1 ≤ sz → ∀ neg D, Run (fig tx sz) p1 D → p1 + D ≤ sz → moQ4_readNumber_L69 n (fun z9_1 z9_2 z9_3 z9_4 z9_5 q_9 => (moQ4_readNumber_B125 n z9_1 z9_2 z9_3 z9_4 z9_5 q_9)) n k (nI p) (sgI neg) (nI p1) 0 0 (s4S q 12 (nI p1)) = moQ4_readNumber_B125 n k (nI p) (sgI neg) (nI p1) (nI (min (dg tx p1 D) 100000000)) (s4S q 12 (nI (p1 + D))) := by
    intro p1 h1 neg D hD hpD
    rw [digits_c hn (hQ.at h1) hD hpD, s4S_ss]
  have idQ : s4S q 12 (nI p) = q := s4S_id at12
  have idM : sS qm 7 (nI p) = qm := sS_id at7
  unfold moQ4_readNumber moM_number
  rw [gl_in hk, at7, at12]
  by_cases c0 : (0 : Int32) ≤ plow k
  · obtain ⟨D, hD, hpD⟩ := run_ex (fig_hi (tx := tx) (sz := sz)) sz p (by omega)
    have hpD := hpD hps
    rw [if_pos c0, if_pos (hx.mpr c0)]
    unfold moQ4_readNumber_B26
    rw [if_pos rfl, gl_in hk, if_pos c0, at12]
    have c := cls p hps false D hD hpD
    have r := ref p hps false D hD hpD
    rw [idQ] at c
    rw [idM] at r
    exact ⟨p, D, false, Nat.le_refl _, hpD, (fun g => Bool.noConfusion g), Or.inl rfl, c, fun e => by rw [idM]; exact r.1 e, r.2⟩
  · rw [if_neg c0, if_neg (fun w => c0 (hx.mp w)), show moQ4_sees n 45 q = _ from sees_c (c := 45) hQ (by decide), b1, byteAt_r hM (by omega), b1, b1, b1]
    have e43 : (ba tx sz p = 43) ↔ sg tx sz 43 p = true := ba_eq (c := 43) ht (by decide)
    have e45 : (ba tx sz p = 45) ↔ sg tx sz 45 p = true := ba_eq (c := 45) ht (by decide)
    unfold moQ4_readNumber_B26 moQ4_readNumber_B47
    rw [at12, nI_1, show r4S (s4S q 12 (nI (p + 1))) 12 = nI (p + 1) from rfl]
    cases g45 : sg tx sz 45 p with
    | true =>
      have hlt : p < sz := (of_decide_eq_true g45).1
      have g43 : sg tx sz 43 p = false := decide_eq_false (fun w => by have := (of_decide_eq_true g45).2; omega)
      obtain ⟨D, hD, hpD⟩ := run_ex (fig_hi (tx := tx) (sz := sz)) sz (p + 1) (by omega)
      have hpD := hpD (by omega)
      rw [if_neg (show ¬ (if true = true then (1 : Int32) else 0) = 0 by decide), if_neg (show ¬ (1 : Int32) = 0 by decide), if_neg (fun w => by rw [e43.mp w] at g43; cases g43), if_pos (e45.mpr g45), if_pos (e45.mpr g45)]
      have r := ref (p + 1) (by omega) true D hD hpD
      exact ⟨p + 1, D, true, by omega, hpD, fun _ => c0, Or.inr c0, cls (p + 1) (by omega) true D hD hpD, r.1, r.2⟩
    | false =>
      rw [if_pos (show (if false = true then (1 : Int32) else 0) = 0 by decide), if_pos (show (0 : Int32) = 0 from rfl), gl_in hk, if_neg c0, show moQ4_sees n 43 q = _ from sees_c (c := 43) hQ (by decide), b1]
      cases g43 : sg tx sz 43 p with
      | true =>
        have hlt : p < sz := (of_decide_eq_true g43).1
        obtain ⟨D, hD, hpD⟩ := run_ex (fig_hi (tx := tx) (sz := sz)) sz (p + 1) (by omega)
        have hpD := hpD (by omega)
        rw [if_neg (show ¬ (if true = true then (1 : Int32) else 0) = 0 by decide), if_pos (e43.mpr g43), if_neg (fun w => by rw [e45.mp w] at g45; cases g45)]
        have r := ref (p + 1) (by omega) false D hD hpD
        exact ⟨p + 1, D, false, by omega, hpD, (fun g => Bool.noConfusion g), Or.inr c0, cls (p + 1) (by omega) false D hD hpD, r.1, r.2⟩
      | false =>
        obtain ⟨D, hD, hpD⟩ := run_ex (fig_hi (tx := tx) (sz := sz)) sz p (by omega)
        have hpD := hpD hps
        rw [if_pos (show (if false = true then (1 : Int32) else 0) = 0 by decide), if_neg (fun w => by rw [e43.mp w] at g43; cases g43), if_neg (fun w => by rw [e45.mp w] at g45; cases g45)]
        have c := cls p hps false D hD hpD
        have r := ref p hps false D hD hpD
        rw [idQ] at c
        rw [idM] at r
        exact ⟨p, D, false, Nat.le_refl _, hpD, (fun g => Bool.noConfusion g), Or.inl rfl, c, fun e => by rw [idM]; exact r.1 e, r.2⟩
theorem allows_c {n k : Nat} {v : Int32} (hk : k < 8) : moQ3_allows n k v = some (if plow k ≤ v ∧ v ≤ phig k ∧ v ≠ 0 then 1 else 0) := by
  unfold moQ3_allows
  rw [gl_in hk, gl_in hk]
  have nlt : ∀ a b : Int32, ¬ a < b ↔ b ≤ a := fun a b => by rw [Int32.lt_iff_toInt_lt, Int32.le_iff_toInt_le]; omega
  by_cases c1 : v < plow k
  · rw [if_pos c1, if_neg (fun w => (nlt _ _).mpr w.1 c1)]
  · rw [if_neg c1]
    by_cases c2 : phig k < v
    · rw [if_pos c2, if_neg (fun w => (nlt _ _).mpr w.2.1 c2)]
    · rw [if_neg c2]
      by_cases c3 : v = 0
      · rw [if_pos c3, if_neg (fun w => w.2.2 c3)]
      · rw [if_neg c3, if_pos ⟨(nlt _ _).mp c1, (nlt _ _).mp c2, c3⟩]
/-- behind the figures: no figure at all, or what the number is -/
theorem num_cls {n k p p1 D sz : Nat} {v : Int32} {neg : Bool} {q : Pc4} (hk : k < 8) (hq : q.1 13 = 0) (hs : p1 + D < 2 ^ 30) : (D = 0 → ∃ r, moQ4_readNumber_B125 n k (nI p) (sgI neg) (nI p1) v (s4S q 12 (nI (p1 + D))) = some (r, flQ (s4S q 12 (nI p1)) 1 (nI p1))) ∧ (0 < D → moQ4_readNumber_B125 n k (nI p) (sgI neg) (nI p1) v (s4S q 12 (nI (p1 + D))) = some ((if neg = true then -v else v), if plow k ≤ (if neg = true then -v else v) ∧ (if neg = true then -v else v) ≤ phig k ∧ (if neg = true then -v else v) ≠ 0 then s4S q 12 (nI (p1 + D)) else flQ (s4S q 12 (nI (p1 + D))) 2 (nI p))) := by
  have h13 : ∀ x, (s4S q 12 x).1 13 = 0 := fun x => hq
  unfold moQ4_readNumber_B125
  rw [show r4S (s4S q 12 (nI (p1 + D))) 12 = nI (p1 + D) from rfl]
  constructor
  · intro e
    subst e
    rw [Nat.add_zero, if_pos rfl, fail_c0 (h13 _), b1]
    have h13' : ¬ (flQ (s4S q 12 (nI p1)) 1 (nI p1)).1 13 = 0 := n_10
    cases neg with
    | false =>
      rw [if_pos (show sgI false = 0 from rfl), gl_in hk, allows_c hk, b1, fail_c1 h13', b1]
      exact ⟨v, by split <;> rfl⟩
    | true =>
      rw [if_neg (show ¬ sgI true = 0 from by decide), gl_in hk, allows_c hk, b1, fail_c1 h13', b1]
      exact ⟨-v, by split <;> rfl⟩
  · intro e
    rw [if_neg (fun w => by have := (nI_eq (by omega) (by omega)).mp w; omega)]
    cases neg with
    | false =>
      rw [if_pos (show sgI false = 0 from rfl), gl_in hk, allows_c hk, b1, fail_c0 (h13 _), b1, if_neg (show ¬ false = true by decide)]
      by_cases c : plow k ≤ v ∧ v ≤ phig k ∧ v ≠ 0
      · rw [if_pos c, if_pos c, if_neg (by decide)]
      · rw [if_neg c, if_neg c, if_pos rfl]
    | true =>
      rw [if_neg (show ¬ sgI true = 0 from by decide), gl_in hk, allows_c hk, b1, fail_c0 (h13 _), b1, if_pos (show true = true from rfl)]
      by_cases c : plow k ≤ -v ∧ -v ≤ phig k ∧ -v ≠ 0
      · rw [if_pos c, if_pos c, if_neg (by decide)]
      · rw [if_neg c, if_neg c, if_pos rfl]
