/-! hidden: keep at the class -/
def F834 (id _k : Nat) : Bool := id == 83 || id == 84
theorem ce_keep {s : xS} {c K : Nat} {R : Nat → Nat} (hc : c < K) (hK : K ≤ 130) (hR : ∀ j, j < K → s.1 85 j = iz (R j) ∧ R j < 1000003) (hx : R c ≠ 0) : ok (f18 82 (iz c) (iz K) s) (fun r => fr F834 s r.1 ∧ (∀ k, k ≠ c → r.1.1 84 k = s.1 84 k) ∧ r.1.1 84 c = iz 1 ∧ (∀ k, ¬ (c * 130 ≤ k ∧ k < c * 130 + 130) → r.1.1 83 k = s.1 83 k) ∧ ∃ t : Nat, t < 1000003 ∧ t * R c % 1000003 = 1 ∧ ∀ j, c ≤ j → j < K → r.1.1 83 (c * 130 + j) = iz ((t * R j % 1000003 : Nat) : Int)) := by
  have LL : (1000003 : Int64) = lz ((1000003 : Nat) : Int) := rfl
  have L130 : (130 : Int32) = iz ((130 : Nat) : Int) := rfl
  have rc := hR c hc
  obtain ⟨E, hE⟩ : ∃ E, E = 1000001 := ⟨_, rfl⟩
  obtain ⟨t, t1, t2, t3⟩ := ce_pow s 20 0 1 (R c) (R c ^ E % 1000003) (by omega) (by omega) rc.2 (fun E' h' => by
    have : E' = E := by rw [h', hE]
    rw [this, Nat.one_mul])
  have ti : t * R c % 1000003 = 1 := by
    rw [t2]
    refine P_inv (fun d => ?_) (fun E' h' => by rw [h', ← hE])
    have := Nat.le_of_dvd (by omega) d
    omega
  have f19e : f19 (lz (R c)) s = some (s, lz t) := t3
  unfold f18
  rw [ifg_pos O_82]
  simp (disch := omega) only [R_82_5, A_85, iz_in, iz_n, nat_toNat, iz0, iz1, iz2, iz3, iz4, iz5, iz7, iz8, iz9, iz10, iz15, iz20, iz25, iz30, iz40, iz49, iz99, iz100, iz300, iz343, iz500, iz999, iz1000, iz1200, iz_add, iz_sub, iz_mul, iz_neg, it_le_t, it_le_f, it_lt_t, it_lt_f, it_eq_t, it_eq_f, bz0, bz1, ifg_T, or_true, true_or, if_true, if_false, Option.bind_some, Option.map_some, rc.1, L130, iz_l, f19e]
  refine (forz (fun m w => fr F834 s w ∧ (∀ k, w.1 84 k = s.1 84 k) ∧ (∀ k, ¬ (c * 130 ≤ k ∧ k < c * 130 + 130) → w.1 83 k = s.1 83 k) ∧ ∀ j, c ≤ j → j < m → w.1 83 (c * 130 + j) = iz ((t * R j % 1000003 : Nat) : Int)) c K (by omega) (by omega) ⟨fr.rf _ _, fun _ => rfl, fun _ _ => rfl, fun j h1 h2 => by omega⟩ (fun m w m0 hm ⟨h1, h2, h3, h4⟩ => ?_) (fun w ⟨h1, h2, h3, h4⟩ => ?_))
  · obtain ⟨g1, g2⟩ := hR m hm
    have k1 : w.1 85 m = iz (R m) := by rw [h1.i 85 _ rfl]; exact g1
    have ei : (c : Int) * ((130 : Nat) : Int) + m = ((c * 130 + m : Nat) : Int) := by push_cast; omega
    have b2 := Nat.mul_le_mul (show t ≤ 1000003 by omega) (show R m ≤ 1000003 by omega)
    have lt := Nat.mod_lt (t * R m) (show 0 < 1000003 by omega)
    have hv : (lrm (lz t * lz (R m)) (1000003 : Int64)).toInt32 = iz ((t * R m % 1000003 : Nat) : Int) := by
      rw [lz_mul, ← Int.natCast_mul, LL, lz_remN (by omega) (by omega) (by omega), lz_i (by omega) (by omega)]
    unfold f18_21
    simp (disch := omega) only [iz0, iz1, iz2, iz3, iz4, iz5, iz7, iz8, iz9, iz10, iz15, iz20, iz25, iz30, iz40, iz49, iz99, iz100, iz300, iz343, iz500, iz999, iz1000, iz1200, iz_add, iz_sub, iz_mul, iz_neg, it_le_t, it_le_f, it_lt_t, it_lt_f, it_eq_t, it_eq_f, bz0, bz1, ifg_T, or_true, true_or, if_true, if_false, Option.bind_some, Option.map_some, R_82_3, R_82_5, A_85, W_83, ei, iz_in, iz_n, nat_toNat, k1, iz_l, hv, ok_some, ok_map, lp_l, lp_r, lpA_l, lpA_r, true_and]
    refine ⟨h1.ui rfl, fun k => ?_, fun k hk => ?_, fun j j0 hj => ?_⟩
    · rw [up_id _ _ (by omega)]; exact h2 k
    · rw [up_ix _ _ (by omega)]; exact h3 k hk
    · by_cases q : j = m
      · subst q
        rw [up_eq]
      · rw [up_ix _ _ (by omega)]
        exact h4 j j0 (by omega)
  · unfold f18_21
    simp (disch := omega) only [iz0, iz1, iz2, iz3, iz4, iz5, iz7, iz8, iz9, iz10, iz15, iz20, iz25, iz30, iz40, iz49, iz99, iz100, iz300, iz343, iz500, iz999, iz1000, iz1200, iz_add, iz_sub, iz_mul, iz_neg, it_le_t, it_le_f, it_lt_t, it_lt_f, it_eq_t, it_eq_f, bz0, bz1, ifg_T, or_true, true_or, if_true, if_false, Option.bind_some, Option.map_some, R_82_4, W_84, iz_in, iz_n, nat_toNat, ok_some, ok_map, lp_l, lp_r, lpA_l, lpA_r, true_and]
    refine ⟨h1.ui rfl, fun k hk => ?_, ?_, fun k hk => ?_, t, t1, ti, fun j j0 hj => ?_⟩
    · rw [up_ix _ _ hk]; exact h2 k
    · rw [up_eq]; decide +kernel
    · rw [up_id _ _ (by omega)]; exact h3 k hk
    · rw [up_id _ _ (by omega)]; exact h4 j j0 hj
