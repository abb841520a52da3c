/-! Pure: what ties the two pictures; bits of things; the small calls. -/
def hb (f : Nat → Int32) (k d : Nat) : Bool := bt (f (3425 * k + d / 32)) (d % 32)
theorem and1 (y : Int32) : (y &&& 1) = 1 ↔ bt y 0 = true := by
  constructor
  · intro h
    have := congrArg (fun w => bt w 0) h
    simp only [b_and] at this
    rw [show bt 1 0 = true from by decide, Bool.and_true] at this
    exact this
  · intro h
    refine b_ext (fun i hi => ?_)
    rw [b_and, bt_1 i hi]
    by_cases c : i = 0
    · subst c; rw [h]; rfl
    · rw [decide_eq_false c, Bool.and_false]
theorem ix_n {k d : Nat} (hk : k < 12) (hd : d < 109573) : (3425 * nI k) + (nI d / 32) = nI (3425 * k + d / 32) ∧ 3425 * k + d / 32 < 41100 := by
  rw [show nI d / (32 : Int32) = nI (d / 32) from pk_div (by omega) (by decide) (by decide), show (3425 : Int32) * nI k = nI (3425 * k) from pk_mul 3425 k, nI_add]
  exact ⟨rfl, by omega⟩
theorem hasBit_r {n k d : Nat} {f : Nat → Int32} (hk : k < 12) (hd : d < 109573) : moB_hasBit n (nI k) (nI d) (pB f) = some (if hb f k d = true then 1 else 0) := by
  obtain ⟨e1, h1⟩ := ix_n hk hd
  unfold moB_hasBit
  rw [e1, gi_in h1 (by decide), show rmI (nI d) 32 = nI (d % 32) from rm_n (by omega) (by decide) (by decide), r3n (by omega)]
  have e2 : ((srI ((pB f).2.1 0 (3425 * k + d / 32)) (nI (d % 32))) &&& 1 = 1) ↔ hb f k d = true := by
    rw [and1]
    unfold srI
    rw [b_sshr (d % 32) (by omega) _ (show 0 < 32 by decide), if_pos (by omega)]
    exact Iff.rfl
  by_cases c : hb f k d = true
  · rw [if_pos (e2.mpr c), if_pos c]
  · rw [if_neg (fun z => c (e2.mp z)), if_neg c]
theorem setBit_r {n k d : Nat} {f : Nat → Int32} (x : Int32) (hk : k < 12) (hd : d < 109573) : ∃ f', (∃ g, moB_setBit n (nI k) (nI d) x (pB f) = some g ∧ g.2.1 0 = f') ∧ ∀ k' d', k' < 12 → d' < 109573 → hb f' k' d' = if k' = k ∧ d' = d then (!decide (x = 0)) else hb f k' d' := by
  obtain ⟨e1, h1⟩ := ix_n hk hd
  have e9 : rmI (nI d) 32 = nI (d % 32) := rm_n (by omega) (by decide) (by decide)
  have key : ∀ w : Int32, (∀ i, i < 32 → bt w i = if i = d % 32 then (!decide (x = 0)) else bt (f (3425 * k + d / 32)) i) → ∀ k' d', k' < 12 → d' < 109573 → hb (upd f (3425 * k + d / 32) w) k' d' = if k' = k ∧ d' = d then (!decide (x = 0)) else hb f k' d' := by
    intro w hw k' d' hk' hd'
    unfold hb
    by_cases c : 3425 * k' + d' / 32 = 3425 * k + d / 32
    · have ck : k' = k := by omega
      subst ck
      have cd : d' / 32 = d / 32 := by omega
      rw [cd, upd_self, hw _ (by omega)]
      by_cases c2 : d' % 32 = d % 32
      · rw [if_pos c2, if_pos ⟨rfl, by omega⟩]
      · rw [if_neg c2, if_neg (fun z => c2 (by rw [z.2]))]
    · rw [upd_ne c, if_neg (fun z => c (by rw [z.1, z.2]))]
  unfold moB_setBit
  rw [e1, gi_in h1 (by decide), gi_in h1 (by decide), gi_in h1 (by decide), gi_in h1 (by decide), e9, r3n (by omega)]
  by_cases c : x = 0
  · rw [if_pos c]
    refine ⟨_, ⟨_, rfl, sA_k (by omega)⟩, key _ (fun i hi => ?_)⟩
    rw [b_and, bt_not hi, bt_sl1 (by omega) hi, decide_eq_true c]
    by_cases c2 : i = d % 32
    · rw [if_pos c2, decide_eq_true c2]; simp
    · rw [if_neg c2, decide_eq_false c2]; simp; rfl
  · rw [if_neg c]
    refine ⟨_, ⟨_, rfl, sA_k (by omega)⟩, key _ (fun i hi => ?_)⟩
    rw [b_or, bt_sl1 (by omega) hi, decide_eq_false c]
    by_cases c2 : i = d % 32
    · rw [if_pos c2, decide_eq_true c2]; simp
    · rw [if_neg c2, decide_eq_false c2]; simp; rfl
def cm (q : Pc3) (k d : Nat) : Bool := (hb (q.2.1 20) k d || hb (q.2.1 22) k d) && !hb (q.2.1 21) k d
theorem comesAt_r {n k d : Nat} {q : Pc3} (hk : k < 12) (hd : d < 109573) : moM_comesAt n (nI k) (nI d) q = some (if cm q k d = true then 1 else 0) := by
  unfold moM_comesAt cm
  rw [hasBit_r hk hd, hasBit_r hk hd, hasBit_r hk hd, b1, b1, b1]
  cases hb (q.2.1 20) k d <;> cases hb (q.2.1 22) k d <;> cases hb (q.2.1 21) k d <;> rfl
-- the tie
def Rb (w g : Nat → Int32) (k : Nat) : Prop := ∀ m, m < 3600 → ∀ j, j < 32 → bt (w m) j = (decide (j < mlN m) && hb g k (cumN m + j))
def Rw (qm : Pc3) (z : Pc4) (k : Nat) : Prop := Rb (z.2.1 (101 + 4 * k)) (qm.2.1 20) k ∧ Rb (z.2.1 (102 + 4 * k)) (qm.2.1 22) k ∧ Rb (z.2.1 (103 + 4 * k)) (qm.2.1 21) k
def Th1 (qm : Pc3) (z q : Pc4) (k : Nat) : Prop := (q.2.1 15 k = 0 ↔ z.2.1 15 k = 0) ∧ (¬ qm.2.1 19 k = 0 ↔ (¬ q.2.1 15 k = 0 ∧ ¬ z.1 (100 + 4 * k) = 0)) ∧ (¬ qm.2.1 19 k = 0 → Rw qm z k)
def Inv (qm : Pc3) (z q : Pc4) : Prop :=
  Dts qm ∧ (∀ j, j < 12 → qm.2.1 2 j = mlen j) ∧ Fst q ∧
  (∃ t, t ≤ 200 ∧ q.1 0 = nI t ∧ qm.1 4 = nI t ∧ ∀ i, i < t → q.2.1 1 i = qm.2.1 3 i ∧ ∃ v, v < 256 ∧ qm.2.1 3 i = nI v) ∧
  (q.1 13 = qm.1 5 ∧ q.1 14 = qm.1 6) ∧
  (∃ c, c ≤ 300 ∧ q.1 1 = nI c ∧ qm.1 25 = nI c ∧ ∀ i, i < c → q.2.2.1 12 i = qm.2.2 24 i) ∧
  (∀ k, k < 12 → Th1 qm z q k) ∧
  (q.2.2.2 0 < 100 ∧ (q.2.2.2 1 < 100 ∨ ∃ j, j < 12 ∧ q.2.2.2 1 = 101 + 4 * j ∧ ¬ q.2.1 15 j = 0))
theorem Inv.thr {qm : Pc3} {z q : Pc4} {t : Int32} (h : Inv qm z q) : Inv (sS qm 0 t) z q := h
theorem thr_n {n : Nat} {qm : Pc3} {t : Int32} : moM_thrown n (sS qm 0 t) = some t := rfl
theorem known_or {n : Nat} {qm : Pc3} {z q : Pc4} (hI : Inv qm z q) (x : Int32) : (∃ k, k < 12 ∧ x = nI k ∧ ¬ qm.2.1 19 k = 0 ∧ ¬ q.2.1 15 k = 0 ∧ ¬ z.2.1 15 k = 0 ∧ ¬ z.1 (100 + 4 * k) = 0 ∧ moQ7_knownThing n z x q = some (.inr k) ∧ moM_noThing n x qm = some 0) ∨ (moQ7_knownThing n z x q = some (.inl 1) ∧ moM_noThing n x qm = some 1) := by
  unfold moQ7_knownThing moM_noThing
  by_cases c1 : x < 0
  · rw [if_pos c1, if_pos c1]; exact Or.inr ⟨rfl, rfl⟩
  · rw [if_neg c1, if_neg c1]
    obtain ⟨k, hk, rfl⟩ := nI_of c1
    by_cases c2 : k < 12
    · rw [if_pos (show nI k < (12 : Int32) from nI_lt (b := 12) c2 (by decide)), if_neg (show ¬ (12 : Int32) ≤ nI k from nI_ge (b := 12) c2 (by decide)), gi_in c2 (by decide), gi_in c2 (by decide), nI_clamp hk, r3n hk, gl_in c2]
      obtain ⟨h1, h2, h3⟩ := hI.2.2.2.2.2.2.1 k c2
      by_cases c3 : q.2.1 15 k = 0
      · have : qm.2.1 19 k = 0 := Classical.byContradiction fun g => (h2.mp g).1 c3
        rw [if_pos c3, if_pos this]; exact Or.inr ⟨rfl, rfl⟩
      · have c3' : ¬ z.2.1 15 k = 0 := fun g => c3 (h1.mpr g)
        rw [if_neg c3, gz_in c3']
        by_cases c4 : z.1 (100 + 4 * k) = 0
        · have : qm.2.1 19 k = 0 := Classical.byContradiction fun g => (h2.mp g).2 c4
          rw [if_pos c4, if_pos this]; exact Or.inr ⟨rfl, rfl⟩
        · have g := h2.mpr ⟨c3, c4⟩
          rw [if_neg c4, if_neg g]; exact Or.inl ⟨k, c2, rfl, g, c3, c3', c4, rfl, rfl⟩
    · rw [if_neg (show ¬ nI k < (12 : Int32) from nI_nlt (b := 12) (by omega) hk), if_pos (show (12 : Int32) ≤ nI k from nI_le (a := 12) (by omega) hk)]; exact Or.inr ⟨rfl, rfl⟩
/-- the days of a month at which a thing comes -/
def dw (z : Pc4) (k m : Nat) : Int32 := (z.2.1 (101 + 4 * k) m ||| z.2.1 (102 + 4 * k) m) &&& (z.2.1 (103 + 4 * k) m ^^^ (-1))
theorem daysIn_n {n k m : Nat} {z : Pc4} (hm : m < 3600) : moQ6_daysIn n k (nI m) z = some (dw z k m) := by
  unfold moQ6_daysIn
  rw [gi_in hm (by decide), gi_in hm (by decide), gi_in hm (by decide), r4n (by omega), r4n (by omega), r4n (by omega)]
  rfl
theorem dw_bt {qm : Pc3} {z : Pc4} {k m j : Nat} (h : Rw qm z k) (hm : m < 3600) (hj : j < 32) : bt (dw z k m) j = (decide (j < mlN m) && cm qm k (cumN m + j)) := by
  unfold dw cm
  rw [b_and, b_or, bt_not hj, h.1 m hm j hj, h.2.1 m hm j hj, h.2.2 m hm j hj]
  cases decide (j < mlN m) <;> simp
theorem int01 {c : Prop} [Decidable c] : ((if c then (1 : Int32) else 0) = 0) ↔ ¬ c := by
  by_cases h : c
  · rw [if_pos h]; exact ⟨fun g => absurd g (by decide), fun g => absurd h g⟩
  · rw [if_neg h]; exact ⟨fun _ => h, fun _ => rfl⟩
theorem upL_0 {f : Nat → Int64} {v : Int64} : vp_updL f 0 v 0 = v := if_pos rfl
theorem n_10 : ¬ (1 : Int32) = 0 := by decide
theorem n_20 : ¬ (2 : Int32) = 0 := by decide
theorem date_or {n : Nat} (hn : 200000 ≤ n) {qm : Pc3} (hq : Dts qm) (x : Int32) : (∃ m k, isD x m k ∧ moQ7_requireDate n x = some (.inr ()) ∧ moM_dayOf n x qm = some (nI (cumN m + k)) ∧ cumN m + k < 109573 ∧ k < 31) ∨ (moQ7_requireDate n x = some (.inl 0) ∧ moM_dayOf n x qm = some (-1)) := by
  have hd := dayOf_r (n := n) hn hq x
  rcases reqDate_or (n := n) x with ⟨m, k, hD, e⟩ | ⟨hD, e⟩
  · exact Or.inl ⟨m, k, hD, e, hd.1 m k hD, cum_in hD.1 hD.2.1, hD.k31⟩
  · exact Or.inr ⟨e, hd.2 hD⟩
theorem bxr {α β : Type} {x : α} {f : α → Option (Nat ⊕ β)} : bx (some (.inr x)) f = f x := rfl
theorem bxl {α β : Type} {k : Nat} {f : α → Option (Nat ⊕ β)} : bx (some (.inl k)) f = some (.inl k) := rfl
theorem ge0 {d : Nat} (h : d < 109573) : (0 : Int32) ≤ nI d := nI_pos' (by omega)
theorem k_comes {n : Nat} (hn : 200000 ≤ n) {qm : Pc3} {z q : Pc4} (f : Nat → Int64) (hI : Inv qm z q) (x1 x2 : Int32) : SK_comes n qm z q f x1 x2 (fun qm z q _ => Inv qm z q) := by
  unfold SK_comes moL_comes moM_comes moQ7_comes
  rcases known_or (n := n) hI x1 with ⟨k, hk, rfl, g1, g2, g3, g4, e1, e2⟩ | ⟨e1, e2⟩
  · rcases date_or hn hI.1 x2 with ⟨m, kk, hD, e3, e4, hdd, h31⟩ | ⟨e3, e4⟩
    · have hR := (hI.2.2.2.2.2.2.1 k hk).2.2 g1
      have e5 := dw_bt hR hD.1 (show kk < 32 by omega)
      rw [decide_eq_true hD.2.1, Bool.true_and] at e5
      rw [e1, bxr, e3, bxr, monthOf_d hD, b1, gl_in hk, gz_in g3, daysIn_n hD.1, b1, dayOf_d hD, b1, e2, e4, b1, b1, if_pos rfl, if_pos (ge0 hdd), if_pos (show rS (sS qm 0 0) 0 = 0 from rfl), comesAt_r hk hdd, b1]
      have e6 : cm (sS qm 0 0) k (cumN m + kk) = cm qm k (cumN m + kk) := rfl
      rw [e6]
      by_cases c : cm qm k (cumN m + kk) = true
      · rw [if_pos c, if_neg (fun w => by rw [and_bit (by omega)] at w; rw [w] at e5; rw [c] at e5; cases e5), if_neg (show ¬ (1 : Int32) = 0 by decide)]
        exact ⟨_, _, _, rfl, rfl, rfl, fun _ => rfl, hI⟩
      · rw [if_neg c, if_pos ((and_bit (by omega)).mpr (by rw [e5]; exact Bool.eq_false_iff.mpr c)), if_pos rfl]
        exact ⟨_, _, _, rfl, rfl, rfl, fun _ => rfl, hI⟩
    · rw [e1, bxr, e3, bxl, e2, e4, b1, b1, if_pos rfl, if_neg (show ¬ (0 : Int32) ≤ -1 by decide), if_neg (show ¬ rS (sS qm 0 2) 0 = 0 from by show ¬ (2 : Int32) = 0; decide)]
      exact ⟨_, _, _, rfl, rfl, rfl, fun w => absurd w n_20, hI⟩
  · obtain ⟨r, er⟩ : ∃ r, moM_dayOf n x2 qm = some r := by
      rcases date_or hn hI.1 x2 with ⟨m, kk, hD, e3, e4, hdd, h31⟩ | ⟨e3, e4⟩
      · exact ⟨_, e4⟩
      · exact ⟨_, e4⟩
    rw [e1, bxl, er, b1, e2, b1, if_neg (show ¬ (1 : Int32) = 0 by decide), if_neg (show ¬ rS (sS qm 0 1) 0 = 0 from by show ¬ (1 : Int32) = 0; decide)]
    exact ⟨_, _, _, rfl, rfl, rfl, fun w => absurd w n_10, hI⟩
theorem k_wipe {n : Nat} {qm : Pc3} {z q : Pc4} (f : Nat → Int64) (hI : Inv qm z q) : SK_wipe n qm z q f (fun qm z q _ => Inv qm z q) := by
  obtain ⟨t, ht, h1, h2, h3⟩ := hI.2.2.2.1
  refine ⟨nI t, s4S q 0 0, sS (sS qm 0 0) 4 0, ?_, ?_, ?_⟩
  · unfold moQ7_wipe; rw [show r4S q 0 = nI t from h1]
  · unfold moM_wipe; rw [show rS (sS qm 0 0) 4 = nI t from h2]
  · exact ⟨hI.1, hI.2.1, hI.2.2.1, ⟨0, by decide, rfl, rfl, fun i hi => by omega⟩, hI.2.2.2.2⟩
theorem k_fault {n : Nat} {qm : Pc3} {z q : Pc4} (f : Nat → Int64) (hI : Inv qm z q) : SK_fault n qm z q f (fun qm z q _ => Inv qm z q) :=
  ⟨q.1 13, sS qm 0 0, rfl, by unfold moM_fault; rw [show rS (sS qm 0 0) 5 = q.1 13 from hI.2.2.2.2.1.1.symm], hI⟩
theorem k_place {n : Nat} {qm : Pc3} {z q : Pc4} (f : Nat → Int64) (hI : Inv qm z q) : SK_place n qm z q f (fun qm z q _ => Inv qm z q) :=
  ⟨q.1 14, sS qm 0 0, rfl, by unfold moM_place; rw [show rS (sS qm 0 0) 6 = q.1 14 from hI.2.2.2.2.1.2.symm], hI⟩
theorem k_item {n : Nat} {qm : Pc3} {z q : Pc4} (f : Nat → Int64) (hI : Inv qm z q) (x1 : Int32) : SK_item n qm z q f x1 (fun qm z q _ => Inv qm z q) := by
  unfold SK_item moL_item moM_item moQ7_item
  obtain ⟨c, hc, h1, h2, h3⟩ := hI.2.2.2.2.2.1
  have t1 : ¬ rS (sS qm 0 1) 0 ≤ 0 := by show ¬ (1 : Int32) ≤ 0; decide
  by_cases c1 : x1 < 0
  · rw [if_pos c1, if_pos c1, if_neg t1]
    exact ⟨_, _, _, rfl, rfl, rfl, fun w => absurd w n_10, hI⟩
  · rw [if_neg c1, if_neg c1]
    obtain ⟨i, hi, rfl⟩ := nI_of c1
    rw [show r4S q 1 = nI c from h1, show rS qm 25 = nI c from h2]
    by_cases c2 : i < c
    · rw [if_pos (nI_lt c2 (by omega)), if_pos (nI_lt c2 (by omega)), gi_in (by omega) (by decide), if_pos (show rS (sS qm 0 0) 0 ≤ 0 from by show (0 : Int32) ≤ 0; decide), gi_in (by omega) (by decide)]
      refine ⟨_, _, _, rfl, rfl, rfl, fun _ => ?_, hI⟩
      show vp_updL f 0 (q.2.2.1 12 (nI i).toNatClampNeg) 0 = qm.2.2 24 (nI i).toNatClampNeg
      rw [upL_0, nI_clamp hi, h3 i c2]
    · rw [if_neg (nI_nlt (by omega) hi), if_neg (nI_nlt (by omega) hi), if_neg t1]
      exact ⟨_, _, _, rfl, rfl, rfl, fun w => absurd w n_10, hI⟩
