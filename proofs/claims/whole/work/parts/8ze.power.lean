/-! the power with exponent P - 2: the class -/
theorem pw_sh : ∀ k, k < 20 → (iz ((1000001 / 2 ^ k : Nat) : Int)) >>> ((1 : Int32) &&& 31) = iz ((1000001 / 2 ^ (k + 1) : Nat) : Int) := by decide +kernel
theorem pw_od : ∀ k, k < 20 → (((iz ((1000001 / 2 ^ k : Nat) : Int)) &&& (1 : Int32)) = 0 ↔ 1000001 / 2 ^ k % 2 = 0) := by decide +kernel
theorem pw_po : ∀ k, k < 20 → 0 < 1000001 / 2 ^ k ∧ 1000001 / 2 ^ k ≤ 1000001 ∧ 1000001 / 2 ^ (k + 1) = 1000001 / 2 ^ k / 2 := by decide +kernel
theorem pw_b {a b : Nat} (ha : a < 1000003) (hb : b < 1000003) : a * b ≤ 1000006000009 := Nat.mul_le_mul (show a ≤ 1000003 by omega) (show b ≤ 1000003 by omega)
theorem pw_ev {a b e p : Nat} (h : e % 2 = 0) : a * (b * b % p) ^ (e / 2) % p = a * b ^ e % p := by
  rw [Nat.mul_mod, ← Nat.pow_mod, ← Nat.mul_mod]
  congr 2
  rw [← Nat.pow_two, ← Nat.pow_mul]
  congr 1
  omega
theorem pw_o {a b e p : Nat} (h : e % 2 = 1) : (a * b % p) * (b * b % p) ^ (e / 2) % p = a * b ^ e % p := by
  rw [Nat.mul_mod, ← Nat.pow_mod, Nat.mod_mod, ← Nat.mul_mod]
  congr 1
  rw [← Nat.pow_two, ← Nat.pow_mul, Nat.mul_assoc, ← Nat.pow_succ']
  congr 2
  omega
theorem iz_le_f0 {e : Nat} (h0 : 0 < e) (h1 : e ≤ 1000001) : ¬ iz (e : Int) ≤ 0 := by
  rw [iz0, Int32.le_iff_toInt_le, iz_t (by omega) (by omega), iz_t (by omega) (by omega)]
  omega
theorem ce_pow (s : xS) : ∀ (m k a b C : Nat), k + m = 20 → a < 1000003 → b < 1000003 → (∀ E, E = 1000001 / 2 ^ k → a * b ^ E % 1000003 = C) → ∃ r : Nat, r < 1000003 ∧ r = C ∧ whl (fun q : (Int64 × Int64 × Int32 × xS) => f19_9 q.1 q.2.1 q.2.2.1 q.2.2.2) (lz b, lz a, iz ((1000001 / 2 ^ k : Nat) : Int), s) = some (s, lz r)
  | 0, k, a, b, C, hk, ha, hb, hC => by
    have : k = 20 := by omega
    subst this
    refine ⟨a, ha, ?_, ?_⟩
    · rw [← hC 0 (by decide), Nat.pow_zero, Nat.mul_one]
      exact (Nat.mod_eq_of_lt ha).symm
    · refine whl_inr ?_
      unfold f19_9
      rw [show iz ((1000001 / 2 ^ 20 : Nat) : Int) = iz 0 by decide +kernel]
      simp (disch := omega) only [iz0, iz1, iz2, iz3, iz4, iz5, iz7, iz8, iz9, iz10, iz15, iz20, iz25, iz30, iz40, iz49, iz99, iz100, iz300, iz343, iz500, iz999, iz1000, iz1200, iz_add, iz_sub, iz_mul, iz_neg, it_le_t, it_le_f, it_lt_t, it_lt_f, it_eq_t, it_eq_f, bz0, bz1, ifg_T, or_true, true_or, if_true, if_false, Option.bind_some, Option.map_some]
  | m + 1, k, a, b, C, hk, ha, hb, hC => by
    obtain ⟨p1, p2, p3⟩ := pw_po k (by omega)
    have b1 := pw_b hb hb
    have b2 := pw_b ha hb
    have lt := fun x => Nat.mod_lt x (show 0 < 1000003 by omega)
    have LP : (1000003 : Int64) = lz ((1000003 : Nat) : Int) := rfl
    have e2 : lrm (lz b * lz b) (1000003 : Int64) = lz ((b * b % 1000003 : Nat) : Int) := by
      rw [LP, lz_mul, ← Int.natCast_mul, lz_remN (by omega) (by omega) (by omega)]
    have e3 : lrm (lz a * lz b) (1000003 : Int64) = lz ((a * b % 1000003 : Nat) : Int) := by
      rw [LP, lz_mul, ← Int.natCast_mul, lz_remN (by omega) (by omega) (by omega)]
    have sh := pw_sh k (by omega)
    have od := pw_od k (by omega)
    by_cases q : 1000001 / 2 ^ k % 2 = 0
    · have st : f19_9 (lz b) (lz a) (iz ((1000001 / 2 ^ k : Nat) : Int)) s = some (Sum.inl (lz ((b * b % 1000003 : Nat) : Int), lz a, iz ((1000001 / 2 ^ (k + 1) : Nat) : Int), s)) := by
        unfold f19_9 f19_31
        rw [if_neg (show ¬ iz ((1000001 / 2 ^ k : Nat) : Int) ≤ 0 from iz_le_f0 p1 p2), if_pos (od.mpr q), e2, sh]
      rw [whl_inl st]
      exact ce_pow s m (k + 1) a (b * b % 1000003) C (by omega) ha (lt _) (fun E hE => by rw [hE, p3, pw_ev q]; exact hC _ rfl)
    · have st : f19_9 (lz b) (lz a) (iz ((1000001 / 2 ^ k : Nat) : Int)) s = some (Sum.inl (lz ((b * b % 1000003 : Nat) : Int), lz ((a * b % 1000003 : Nat) : Int), iz ((1000001 / 2 ^ (k + 1) : Nat) : Int), s)) := by
        unfold f19_9 f19_31
        rw [if_neg (show ¬ iz ((1000001 / 2 ^ k : Nat) : Int) ≤ 0 from iz_le_f0 p1 p2), if_neg (fun w => q (od.mp w)), e2, e3, sh]
      rw [whl_inl st]
      exact ce_pow s m (k + 1) (a * b % 1000003) (b * b % 1000003) C (by omega) (lt _) (lt _) (fun E hE => by rw [hE, p3, pw_o (by omega)]; exact hC _ rfl)
theorem pw_sm : ∀ k, k < 20 → (iz ((1000001 / 2 ^ k : Nat) : Int)) / (2 : Int32) = iz ((1000001 / 2 ^ (k + 1) : Nat) : Int) := by decide +kernel
theorem pw_om : ∀ k, k < 20 → (irm (iz ((1000001 / 2 ^ k : Nat) : Int)) (2 : Int32) = (1 : Int32) ↔ 1000001 / 2 ^ k % 2 = 1) := by decide +kernel
/-- the same: the model -/
theorem me_pow (s : xS) : ∀ (m k a b C : Nat), k + m = 20 → a < 1000003 → b < 1000003 → (∀ E, E = 1000001 / 2 ^ k → a * b ^ E % 1000003 = C) → ∃ r : Nat, r < 1000003 ∧ r = C ∧ whl (fun q : (Int64 × Int64 × Int32 × xS) => f239_8 q.1 q.2.1 q.2.2.1 q.2.2.2) (lz a, lz b, iz ((1000001 / 2 ^ k : Nat) : Int), s) = some (s, lz r)
  | 0, k, a, b, C, hk, ha, hb, hC => by
    have : k = 20 := by omega
    subst this
    refine ⟨a, ha, ?_, ?_⟩
    · rw [← hC 0 (by decide), Nat.pow_zero, Nat.mul_one]
      exact (Nat.mod_eq_of_lt ha).symm
    · refine whl_inr ?_
      unfold f239_8
      rw [show iz ((1000001 / 2 ^ 20 : Nat) : Int) = iz 0 by decide +kernel]
      simp (disch := omega) only [iz0, iz1, iz2, iz3, iz4, iz5, iz7, iz8, iz9, iz10, iz15, iz20, iz25, iz30, iz40, iz49, iz99, iz100, iz300, iz343, iz500, iz999, iz1000, iz1200, iz_add, iz_sub, iz_mul, iz_neg, it_le_t, it_le_f, it_lt_t, it_lt_f, it_eq_t, it_eq_f, bz0, bz1, ifg_T, or_true, true_or, if_true, if_false, Option.bind_some, Option.map_some]
  | m + 1, k, a, b, C, hk, ha, hb, hC => by
    obtain ⟨p1, p2, p3⟩ := pw_po k (by omega)
    have b1 := pw_b hb hb
    have b2 := pw_b ha hb
    have lt := fun x => Nat.mod_lt x (show 0 < 1000003 by omega)
    have LP : (1000003 : Int64) = lz ((1000003 : Nat) : Int) := rfl
    have e2 : lrm (lz b * lz b) (1000003 : Int64) = lz ((b * b % 1000003 : Nat) : Int) := by
      rw [LP, lz_mul, ← Int.natCast_mul, lz_remN (by omega) (by omega) (by omega)]
    have e3 : lrm (lz a * lz b) (1000003 : Int64) = lz ((a * b % 1000003 : Nat) : Int) := by
      rw [LP, lz_mul, ← Int.natCast_mul, lz_remN (by omega) (by omega) (by omega)]
    have sh := pw_sm k (by omega)
    have od := pw_om k (by omega)
    by_cases q : 1000001 / 2 ^ k % 2 = 1
    · have st : f239_8 (lz a) (lz b) (iz ((1000001 / 2 ^ k : Nat) : Int)) s = some (Sum.inl (lz ((a * b % 1000003 : Nat) : Int), lz ((b * b % 1000003 : Nat) : Int), iz ((1000001 / 2 ^ (k + 1) : Nat) : Int), s)) := by
        unfold f239_8 f239_30
        rw [if_neg (show ¬ iz ((1000001 / 2 ^ k : Nat) : Int) ≤ 0 from iz_le_f0 p1 p2), if_pos (od.mpr q), e2, e3, sh]
      rw [whl_inl st]
      exact me_pow s m (k + 1) (a * b % 1000003) (b * b % 1000003) C (by omega) (lt _) (lt _) (fun E hE => by rw [hE, p3, pw_o q]; exact hC _ rfl)
    · have st : f239_8 (lz a) (lz b) (iz ((1000001 / 2 ^ k : Nat) : Int)) s = some (Sum.inl (lz a, lz ((b * b % 1000003 : Nat) : Int), iz ((1000001 / 2 ^ (k + 1) : Nat) : Int), s)) := by
        unfold f239_8 f239_30
        rw [if_neg (show ¬ iz ((1000001 / 2 ^ k : Nat) : Int) ≤ 0 from iz_le_f0 p1 p2), if_neg (fun w => q (od.mp w)), e2, sh]
      rw [whl_inl st]
      exact me_pow s m (k + 1) a (b * b % 1000003) C (by omega) ha (lt _) (fun E hE => by rw [hE, p3, pw_ev (by omega)]; exact hC _ rfl)
/-- the inverse mod P -/
theorem P_inv {x C : Nat} (hx : ¬ 1000003 ∣ x) (h : ∀ E, E = 1000001 → x ^ E % 1000003 = C) : C * x % 1000003 = 1 := by
  have f := P_pr.fermat hx
  obtain ⟨E, hE⟩ : ∃ E, E = 1000001 := ⟨_, rfl⟩
  rw [← h E hE, Nat.mod_mul_mod, ← Nat.pow_succ]
  rw [show 1000003 - 1 = E + 1 by omega] at f
  exact f
