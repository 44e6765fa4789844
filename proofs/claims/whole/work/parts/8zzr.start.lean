/-! the start -/
theorem hk_i1 : ∀ k, k < 125 → (hk_s2.2.1 34 k = 0 ∧ hk_s2.2.1 35 k = 0 ∧ hk_s2.2.1 36 k = 0 ∧ hk_s2.2.1 114 k = 0 ∧ hk_s2.2.1 8 k = 0) := by decide +kernel
theorem hk_i2 : hk_s2.2.1 3 2 = 0 ∧ hk_s2.2.1 3 3 = 3 ∧ hk_s2.2.1 3 4 = 0 ∧ hk_s2.2.1 3 5 = 0 ∧ hk_s2.2.1 33 3 = 0 ∧ hk_s2.2.1 33 4 = 0 ∧ hk_s2.2.1 33 5 = 1 ∧ hk_s2.2.1 9 1 = 0 := by decide +kernel
theorem hk_i3 : hk_s2.2.1 101 25 = 0 ∧ hk_s2.2.1 104 0 = 3 ∧ hk_s2.2.1 105 0 = 0 ∧ hk_s2.2.1 106 0 = 0 ∧ hk_s2.2.1 107 0 = 0 ∧ hk_s2.2.1 101 27 = 0 ∧ hk_s2.2.1 101 28 = 0 ∧ hk_s2.2.1 101 29 = 1 ∧ hk_s2.2.1 101 37 = 0 ∧ ∀ p, p < 5 → hk_s2.2.1 117 p = 0 := by decide +kernel
theorem hk_i4 : hk_s2.2.1 1 1 = 0 ∧ hk_s2.2.1 101 2 = 0 ∧ hk_s2.2.1 1 2 = hk_s2.2.1 101 4 ∧ hk_s2.2.1 1 3 = hk_s2.2.1 101 5 ∧ (∀ q, q < 3 → hk_s2.2.1 38 q = 0 ∧ hk_s2.2.1 129 q = -1) ∧ hk_s2.2.1 86 2 = 0 ∧ hk_s2.2.1 101 74 = 0 ∧ hk_s2.2.1 72 8 = 0 ∧ hk_s2.2.1 101 71 = 0 ∧ hk_s2.2.1 51 9 = 0 ∧ hk_s2.2.1 72 11 = 0 ∧ hk_s2.2.1 72 14 = 0 ∧ hk_s2.2.1 72 16 = 0 := by decide +kernel
theorem Inv_0 : Inv hk_s0 := by
  have e : hk_s0.1 = hk_s2.2.1 := by rw [hk_s0_eq]
  obtain ⟨c1, c2, c3, c4, c5, c6, c7, c8⟩ := hk_i2
  obtain ⟨d1, d2, d3, d4, d5, d6, d7, d8, d9, d10⟩ := hk_i3
  obtain ⟨t1, t2, t3, t4, t5, t6, t7, t8, t9, t10, t11, t12, t13⟩ := hk_i4
  rw [← e] at c1 c2 c3 c4 c5 c6 c7 c8 d1 d2 d3 d4 d5 d6 d7 d8 d9 t1 t2 t3 t4 t6 t7 t8 t9 t10 t11 t12 t13
  have i1 : ∀ k, k < 125 → (hk_s0.1 34 k = 0 ∧ hk_s0.1 35 k = 0 ∧ hk_s0.1 36 k = 0 ∧ hk_s0.1 114 k = 0 ∧ hk_s0.1 8 k = 0) := fun k hk => by rw [e]; exact hk_i1 k hk
  have i5 : ∀ q, q < 3 → hk_s0.1 38 q = 0 ∧ hk_s0.1 129 q = -1 := fun q hq => by rw [e]; exact t5 q hq
  have i10 : ∀ p, p < 5 → hk_s0.1 117 p = 0 := fun p hp => by rw [e]; exact d10 p hp
  have ch : chg hk_s0 := ⟨t10.trans iz0, t11.trans iz0, t12.trans iz0, t13.trans iz0⟩
  refine ⟨0, 3, 0, 0, 0, ((fun _ => 0), iz 0, iz 1), (fun _ => 0), (fun _ => 0), iz 0, 0, R00, 0, (fun _ => (0, 0, 0, 0, 0)), ⟨⟨c1.trans iz0, c2.trans iz3, c3.trans iz0, c4.trans iz0, fun k hk => ?_, ⟨fun k hk => (i1 k (by omega)).1.trans iz0, c6.trans iz0, c7.trans iz1⟩, c5.trans iz0, c8.trans iz0, fun r hr => absurd hr (Nat.not_lt_zero r)⟩, ⟨⟨?_, by omega, d2.trans iz3, ?_, by omega, by omega⟩, d3.trans iz0, d4.trans iz0, d5.trans iz0, ⟨fun k hk => ⟨fun u => absurd u.2.1 (Nat.not_lt_zero _), (i1 k (by omega)).2.2.2.1.trans iz0⟩, fun p hp => Or.inl ⟨i10 p (by omega), fun _ _ => rfl⟩⟩, ⟨fun k hk => absurd hk.2.1 (Nat.not_lt_zero _), d7.trans iz0, d8.trans iz1⟩, d6.trans iz0, d9.trans iz0, fun r hr => absurd hr (Nat.not_lt_zero r), fun c hc => (i1 (100 + c) (by omega)).2.2.2.1.trans iz0, (i10 4 (by omega)).trans iz0⟩, ⟨by omega, by omega, by omega, by decide, by decide, by decide, by decide, fun k hk => ⟨(show (-1010 : Int) ≤ 0 by decide), (show (0 : Int) ≤ 99 by decide)⟩, fun k hk => ⟨Int.le_refl 0, (show (0 : Int) ≤ 99 by decide), Int.le_refl 0, (show (0 : Int) ≤ 72 by decide)⟩, by omega, fun r hr => absurd hr (Nat.not_lt_zero r)⟩⟩, ⟨⟨0, by omega, t1.trans iz0, t2.trans iz0, fun k hk => absurd hk (Nat.not_lt_zero k), t3, t4⟩, TpB.z (t1.trans iz0), fun k hk => ⟨0, (i1 k (by omega)).2.2.2.2.trans iz0, by decide, by decide⟩, fun p hp => absurd hp (Nat.not_lt_zero p), fun q hq => Or.inl ⟨(i5 q hq).1.trans iz0, (i5 q hq).2.trans izm1⟩, ⟨0, by omega, t6.trans iz0, t7.trans iz0, fun k hk => absurd hk (Nat.not_lt_zero k)⟩, ⟨by omega, t8.trans iz0, t9.trans iz0, fun k hk => absurd hk (Nat.not_lt_zero k)⟩⟩, Be_chg ch, Wl_chg ch⟩
  · exact ⟨(i1 k (by omega)).1.trans iz0, (i1 k (by omega)).2.1.trans iz0, (i1 k (by omega)).2.2.1.trans iz0⟩
  · rw [d1]; rfl
  · exact iz_t (by omega) (by omega)
