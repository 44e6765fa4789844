/-! feed, end, fault, about, square -/
theorem sh_s : ∀ k, k < 32 → ((iz (k : Nat) &&& 31).toBitVec.smod 32#32) = BitVec.ofNat 32 k := by decide +kernel
theorem by_eq (v : Int32) {k : Nat} (hk : k ≤ 24) : (xm_ush v (iz k)).toInt8 = (v >>> (iz k &&& 31)).toInt8 := by
  refine Int8.toBitVec_inj.mp ?_
  rw [Int32.toBitVec_toInt8, Int32.toBitVec_toInt8]
  have e1 : (xm_ush v (iz k)).toBitVec = v.toBitVec >>> k := by
    unfold xm_ush
    rw [UInt32.toBitVec_toInt32, UInt32.toBitVec_shiftRight]
    show v.toBitVec >>> (((iz k).toUInt32 &&& Int32.toUInt32 31).toBitVec % 32#32) = _
    rw [hb_usa k (by omega), BitVec.ushiftRight_eq']
    congr 1
    rw [BitVec.toNat_ofNat]
    exact Nat.mod_eq_of_lt (by omega)
  have e2 : (v >>> (iz k &&& 31)).toBitVec = v.toBitVec.sshiftRight k := by
    rw [Int32.toBitVec_shiftRight]
    rw [show ((iz k &&& 31).toBitVec.smod 32) = BitVec.ofNat 32 k from sh_s k (by omega), BitVec.sshiftRight_eq']
    congr 1
    rw [BitVec.toNat_ofNat]
    exact Nat.mod_eq_of_lt (by omega)
  rw [e1, e2]
  refine BitVec.eq_of_getLsbD_eq (fun i hi => ?_)
  have h0 : i < 32 := by omega
  have h1 : ¬ 32 ≤ i := by omega
  have h2 : k + i < 32 := by omega
  rw [BitVec.getLsbD_signExtend, BitVec.getLsbD_signExtend, if_pos h0, if_pos h0, BitVec.getLsbD_ushiftRight, BitVec.getLsbD_sshiftRight]
  simp [h1, h2]
/-- byte j of a number, the highest first -/
def bt (v : Int32) (j : Nat) : Int32 := vp_nar .byte ((v >>> (iz ((24 - 8 * j : Nat) : Int) &&& 31)).toInt8.toInt32)
def FTp (id k : Nat) : Bool := (id == 1 && k == 1) || id == 2
def FTm (id k : Nat) : Bool := (id == 101 && k == 2) || id == 102
section FE
variable {s : xS}
theorem ap_step {w : xS} {T j : Nat} (h : w.1 1 1 = iz T) (hT : T < 1200) (hj : j < 4) (v : Int32) : f77_3 1 v (iz ((24 - 8 * j : Nat) : Int)) w = some (.inl (iz (((24 - 8 * j : Nat) : Int) - 8), (xm_up (xm_up w.1 2 T (bt v j)) 1 1 (iz ((T : Int) + 1)), w.2))) := by
  unfold f77_3 f77_40 bt
  rw [by_eq v (show 24 - 8 * j ≤ 24 by omega), show (-8 : Int32) = iz (-8) by decide]
  simp (disch := omega) only [h, R_1_0, W_2, iz0, iz1, iz2, iz3, iz4, iz5, iz7, iz8, iz9, iz10, iz15, iz20, iz25, iz30, iz40, iz49, iz99, iz100, iz300, iz343, iz500, iz999, iz1000, iz1200, iz_add, iz_sub, iz_mul, iz_neg, it_le_t, it_le_f, it_lt_t, it_lt_f, it_eq_t, it_eq_f, bz0, bz1, ifg_T, or_true, true_or, if_true, if_false, Option.bind_some, Option.map_some, iz_in, iz_n, nat_toNat, up_id, pI]
  rfl
theorem cl_append {T : Nat} (h : s.1 1 1 = iz T) (hT : T + 4 ≤ 1200) (v : Int32) : ok (f77 1 v s) (fun r => fr FTp s r.1 ∧ r.1.1 1 1 = iz ((T + 4 : Nat) : Int) ∧ (∀ j, j < 4 → r.1.1 2 (T + j) = bt v j) ∧ ∀ k, k < T → r.1.1 2 k = s.1 2 k) := by
  unfold f77
  rw [ifg_pos O_1, show (24 : Int32) = iz ((24 - 8 * 0 : Nat) : Int) by decide]
  have e0 := ap_step h (show T < 1200 by omega) (show 0 < 4 by omega) v
  have e1 := ap_step (w := (xm_up (xm_up s.1 2 T (bt v 0)) 1 1 (iz ((T : Int) + 1)), s.2)) (T := T + 1) (by dsimp only; rw [up_eq]; rfl) (by omega) (show 1 < 4 by omega) v
  have e2 := ap_step (w := (xm_up (xm_up (xm_up (xm_up s.1 2 T (bt v 0)) 1 1 (iz ((T : Int) + 1))) 2 (T + 1) (bt v 1)) 1 1 (iz (((T + 1 : Nat) : Int) + 1)), s.2)) (T := T + 2) (by dsimp only; rw [up_eq]; rfl) (by omega) (show 2 < 4 by omega) v
  have e3 := ap_step (w := (xm_up (xm_up (xm_up (xm_up (xm_up (xm_up s.1 2 T (bt v 0)) 1 1 (iz ((T : Int) + 1))) 2 (T + 1) (bt v 1)) 1 1 (iz (((T + 1 : Nat) : Int) + 1))) 2 (T + 2) (bt v 2)) 1 1 (iz (((T + 2 : Nat) : Int) + 1)), s.2)) (T := T + 3) (by dsimp only; rw [up_eq]; rfl) (by omega) (show 3 < 4 by omega) v
  refine ok.eq (a := ((xm_up (xm_up (xm_up (xm_up (xm_up (xm_up (xm_up (xm_up s.1 2 T (bt v 0)) 1 1 (iz ((T : Int) + 1))) 2 (T + 1) (bt v 1)) 1 1 (iz (((T + 1 : Nat) : Int) + 1))) 2 (T + 2) (bt v 2)) 1 1 (iz (((T + 2 : Nat) : Int) + 1))) 2 (T + 3) (bt v 3)) 1 1 (iz (((T + 3 : Nat) : Int) + 1)), s.2), ())) ?_ ?_
  · refine (whl_inl (body := fun q : (Int32 × xS) => f77_3 1 v q.1 q.2) e0).trans ?_
    refine (whl_inl (body := fun q : (Int32 × xS) => f77_3 1 v q.1 q.2) e1).trans ?_
    refine (whl_inl (body := fun q : (Int32 × xS) => f77_3 1 v q.1 q.2) e2).trans ?_
    refine (whl_inl (body := fun q : (Int32 × xS) => f77_3 1 v q.1 q.2) e3).trans ?_
    refine whl_inr ?_
    dsimp only
    unfold f77_3
    rw [if_pos (by decide)]
    rfl
  · refine ⟨((((((((fr.rf _ _).ui rfl).ui rfl).ui rfl).ui rfl).ui rfl).ui rfl).ui rfl).ui rfl, by dsimp only; rw [up_eq]; rfl, fun j hj => ?_, fun k hk => ?_⟩
    · rcases (show j = 0 ∨ j = 1 ∨ j = 2 ∨ j = 3 by omega) with rfl | rfl | rfl | rfl
      · simp (disch := omega) only [up_id, up_ix, up_eq, Nat.add_zero]
      · simp (disch := omega) only [up_id, up_ix, up_eq]
      · simp (disch := omega) only [up_id, up_ix, up_eq]
      · simp (disch := omega) only [up_id, up_ix, up_eq]
    · simp (disch := omega) only [up_id, up_ix]
theorem and3 : ∀ k, k < 20 → (iz (k : Nat) &&& (3 : Int32)) = iz ((k % 4 : Nat) : Int) := by decide +kernel
def wd5 (a b c d e : Int32) (j : Nat) : Int32 := if j < 4 then a else if j < 8 then b else if j < 12 then c else if j < 16 then d else e
theorem mo_feed {T : Nat} (h : s.1 101 2 = iz T) (hT : T + 20 ≤ 1200) (a b c d e : Int32) : ok (f282 101 a b c d e s) (fun r => fr FTm s r.1 ∧ r.1.1 101 2 = iz ((T + 20 : Nat) : Int) ∧ (∀ j, j < 20 → r.1.1 102 (T + j) = bt (wd5 a b c d e j) (j % 4)) ∧ (∀ k, k < T → r.1.1 102 k = s.1 102 k) ∧ r.2 = iz ((T + 20 : Nat) : Int)) := by
  unfold f282
  rw [ifg_pos O_101]
  simp (disch := omega) only [h, iz0, iz1, iz2, iz3, iz4, iz5, iz7, iz8, iz9, iz10, iz15, iz20, iz25, iz30, iz40, iz49, iz99, iz100, iz300, iz343, iz500, iz999, iz1000, iz1200, iz_add, iz_sub, iz_mul, iz_neg, it_le_t, it_le_f, it_lt_t, it_lt_f, it_eq_t, it_eq_f, bz0, bz1, ifg_T, or_true, true_or, if_true, if_false, Option.bind_some, Option.map_some]
  refine forz (fun j w => fr (fun id _ => id == 102) s w ∧ (∀ i, i < j → w.1 102 (T + i) = bt (wd5 a b c d e i) (i % 4)) ∧ ∀ k, k < T → w.1 102 k = s.1 102 k) 0 20 (by omega) (by omega) ⟨fr.rf _ _, fun i hi => by omega, fun k hk => rfl⟩ (fun j w _ hj ⟨h1, h2, h3⟩ => ?_) (fun w ⟨h1, h2, h3⟩ => ?_)
  · have h4 : w.1 101 2 = iz T := by rw [h1.i _ _ rfl]; exact h
    have m4 : j % 4 < 4 := Nat.mod_lt _ (by omega)
    have e24 : iz (24 - 8 * ((j % 4 : Nat) : Int)) = iz ((24 - 8 * (j % 4) : Nat) : Int) := by congr 1; omega
    have main : ∀ v, v = wd5 a b c d e j → ok (f282_71 101 a b c d e (iz j) v w) (lp ((j : Int) + 1) (fun w => fr (fun id _ => id == 102) s w ∧ (∀ i, i < j + 1 → w.1 102 (T + i) = bt (wd5 a b c d e i) (i % 4)) ∧ ∀ k, k < T → w.1 102 k = s.1 102 k) (fun r : xS × Int32 => fr FTm s r.1 ∧ r.1.1 101 2 = iz ((T + 20 : Nat) : Int) ∧ (∀ j, j < 20 → r.1.1 102 (T + j) = bt (wd5 a b c d e j) (j % 4)) ∧ (∀ k, k < T → r.1.1 102 k = s.1 102 k) ∧ r.2 = iz ((T + 20 : Nat) : Int))) := by
      intro v hv
      have en : ((T : Int) + j).toNat = T + j := by omega
      unfold f282_71
      rw [and3 j hj, show (24 : Int32) = iz 24 by decide]
      simp (disch := omega) only [h4, R_101_0, W_102, iz0, iz1, iz2, iz3, iz4, iz5, iz7, iz8, iz9, iz10, iz15, iz20, iz25, iz30, iz40, iz49, iz99, iz100, iz300, iz343, iz500, iz999, iz1000, iz1200, iz_add, iz_sub, iz_mul, iz_neg, it_le_t, it_le_f, it_lt_t, it_lt_f, it_eq_t, it_eq_f, bz0, bz1, ifg_T, or_true, true_or, if_true, if_false, Option.bind_some, Option.map_some, iz_in, iz_n, nat_toNat, en, e24, ok_some, ok_map, lp_l, lp_r, lpA_l, lpA_r, true_and]
      refine ⟨h1.ui rfl, fun i hi => ?_, fun k hk => ?_⟩
      · by_cases q : i = j
        · rw [q, up_eq, ← hv]
          rfl
        · rw [up_ix _ _ (by omega)]
          exact h2 i (by omega)
      · rw [up_ix _ _ (by omega)]
        exact h3 k hk
    unfold f282_18
    rw [show (12 : Int32) = iz 12 by decide, show (16 : Int32) = iz 16 by decide, iz20, iz4, iz8, it_le_f (by omega) (by omega) (by omega)]
    by_cases q1 : j < 4
    · rw [it_le_f (by omega) (by omega) (by omega)]
      exact main a (by unfold wd5; rw [if_pos q1])
    · rw [it_le_t (by omega) (by omega) (by omega)]
      by_cases q2 : j < 8
      · rw [it_le_f (by omega) (by omega) (by omega)]
        exact main b (by unfold wd5; rw [if_neg q1, if_pos q2])
      · rw [it_le_t (by omega) (by omega) (by omega)]
        by_cases q3 : j < 12
        · rw [it_le_f (by omega) (by omega) (by omega)]
          exact main c (by unfold wd5; rw [if_neg q1, if_neg q2, if_pos q3])
        · rw [it_le_t (by omega) (by omega) (by omega)]
          by_cases q4 : j < 16
          · rw [it_le_f (by omega) (by omega) (by omega)]
            exact main d (by unfold wd5; rw [if_neg q1, if_neg q2, if_neg q3, if_pos q4])
          · rw [it_le_t (by omega) (by omega) (by omega)]
            exact main e (by unfold wd5; rw [if_neg q1, if_neg q2, if_neg q3, if_neg q4])
  · have h4 : w.1 101 2 = iz T := by rw [h1.i _ _ rfl]; exact h
    unfold f282_18
    simp (disch := omega) only [h4, iz0, iz1, iz2, iz3, iz4, iz5, iz7, iz8, iz9, iz10, iz15, iz20, iz25, iz30, iz40, iz49, iz99, iz100, iz300, iz343, iz500, iz999, iz1000, iz1200, iz_add, iz_sub, iz_mul, iz_neg, it_le_t, it_le_f, it_lt_t, it_lt_f, it_eq_t, it_eq_f, bz0, bz1, ifg_T, or_true, true_or, if_true, if_false, Option.bind_some, Option.map_some, pI, up_eq, ok_some, ok_map, lp_l, lp_r, lpA_l, lpA_r, true_and]
    refine ⟨(h1.mono (fun id k hk => ?_)).ui rfl, rfl, fun j hj => ?_, fun k hk => ?_, rfl⟩
    · rw [beq_iff_eq] at hk
      subst hk
      rfl
    · rw [up_id _ _ (by omega)]; exact h2 j hj
    · rw [up_id _ _ (by omega)]; exact h3 k hk
end FE
