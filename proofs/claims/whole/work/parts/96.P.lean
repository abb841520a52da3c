/-! Pure: the calls together; the beginning. -/
theorem sim_inv {n : Nat} (hn : 200000 ≤ n) : Sim n Inv := fun qm z q f hI => ⟨fun x1 x2 => k_feed hn f hI x1 x2, k_wipe f hI, fun x1 => k_thing hn f hI x1, k_fault f hI, k_place f hI, fun x1 => k_drop f hI x1, fun x1 x2 x3 _ => k_except hn f hI x1 x2 x3, fun x1 x2 x3 _ => k_besides hn f hI x1 x2 x3, fun x1 x2 => k_comes hn f hI x1 x2, fun x1 x2 => k_next hn f hI x1 x2, fun x1 x2 => k_date hn f hI x1 x2, fun x1 x2 x3 => k_times hn f hI x1 x2 x3, fun x1 x2 => k_list hn f hI x1 x2, fun x1 => k_item f hI x1, fun x1 x2 => k_busiest hn f hI x1 x2, fun x1 x2 => k_quiet hn f hI x1 x2, fun x1 x2 => k_shifted hn f hI x1 x2⟩
theorem forget_init {n : Nat} (hn : 200000 ≤ n) : ∃ qr, moQR_forget n qzR = some qr ∧ qr.2.2.2 2 = 0 := by
  obtain ⟨q', h1, -, -, h2, -⟩ := forget_c (n := n) (q := qzR) hn
  exact ⟨q', h1, h2⟩
theorem inv_0 {qd qr : Pc4} {f : Nat → Int32} (hd : Fst qd) (hf : Dts (sD f)) : Inv (sD f) qz (qI qd qr) := by
  have e19 : (sD f).2.1 19 = fun _ => 0 := va_up_ne (k := 1) (j := 19) qM0.2.1 f (by decide)
  refine ⟨hf, sD_len, hd, ⟨0, by decide, rfl, rfl, fun i hi => by omega⟩, ⟨rfl, rfl⟩, ⟨0, by decide, rfl, rfl, fun i hi => by omega⟩, fun k hk => ⟨⟨fun _ => rfl, fun _ => rfl⟩, ⟨fun g => ?_, fun g => ?_⟩, fun g => ?_⟩, ?_, Or.inl ?_⟩
  · rw [e19] at g; exact absurd rfl g
  · exact absurd rfl g.1
  · rw [e19] at g; exact absurd rfl g
  · show 20 < 100; decide
  · show 21 < 100; decide
