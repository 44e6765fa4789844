/-! round, run, hides -/
def FH (id k : Nat) : Bool := (id == 51 && k == 9) || (id == 72 && (k == 11 || k == 14 || k == 16))
/-- nothing kept of dear answers -/
def chg (s : xS) : Prop := s.1 51 9 = iz 0 ∧ s.1 72 11 = iz 0 ∧ s.1 72 14 = iz 0 ∧ s.1 72 16 = iz 0
theorem chg.fr {F : Nat → Nat → Bool} {s s' : xS} (h : chg s) (hf : fr F s s') (h1 : F 51 9 = false) (h2 : F 72 11 = false) (h3 : F 72 14 = false) (h4 : F 72 16 = false) : chg s' := ⟨by rw [hf.i _ _ h1]; exact h.1, by rw [hf.i _ _ h2]; exact h.2.1, by rw [hf.i _ _ h3]; exact h.2.2.1, by rw [hf.i _ _ h4]; exact h.2.2.2⟩
theorem cl_changed (s : xS) : ok (f164 0 s) (fun r => fr FH s r.1 ∧ chg r.1) := by
  unfold f164 f108
  rw [ifg_pos O_0]
  simp only [R_0_9, R_0_10, Option.bind_some, pI]
  rw [ifg_pos O_72]
  simp only [Option.bind_some, ok_some, iz0]
  refine ⟨((((fr.rf _ _).ui rfl).ui rfl).ui rfl).ui rfl, ?_, ?_, ?_, ?_⟩
  · simp (disch := omega) only [up_id, up_eq]
  · simp (disch := omega) only [up_id, up_ix, up_eq]
  · simp (disch := omega) only [up_id, up_ix, up_eq]
  · dsimp only
    exact up_eq _ _ _ _
def FRc (id k : Nat) : Bool := FC 33 id k || FH id k || FW id k
theorem FC_c (id k : Nat) (h : FC 33 id k = true) : FRc id k = true := by unfold FRc; rw [h]; rfl
theorem FH_c (id k : Nat) (h : FH id k = true) : FRc id k = true := by unfold FRc; rw [h, Bool.or_true]; rfl
theorem FW_c (id k : Nat) (h : FW id k = true) : FRc id k = true := by unfold FRc; rw [h, Bool.or_true]
section RR
variable {s : xS} {b n pl : Nat} {red slip : Int} {x : sS} {W S : Nat → Int} {st : Int32} {rc : Nat} {Rs : Nat → Rn}
theorem KC_H {s' : xS} (h : KC s n pl red slip x W S st rc Rs) (hf : fr FH s s') (hrc : rc ≤ 10) : KC s' n pl red slip x W S st rc Rs := by
  refine h.fr hf (fun _ => rfl) (fun _ => rfl) (fun _ => rfl) (fun _ => rfl) (fun _ => rfl) rfl (fun id k h1 h2 => ?_) hrc
  have : id = 11 ∨ id = 12 ∨ id = 13 ∨ id = 14 ∨ id = 15 ∨ id = 16 ∨ id = 17 ∨ id = 18 ∨ id = 19 ∨ id = 20 := by omega
  rcases this with rfl | rfl | rfl | rfl | rfl | rfl | rfl | rfl | rfl | rfl <;> rfl
theorem KM_H {s' : xS} (h : KM s b n pl red slip x W S st rc Rs) (hf : fr FH s s') (hrc : rc ≤ 10) : KM s' b n pl red slip x W S st rc Rs := by
  refine h.fr hf ⟨rfl, rfl, rfl, rfl, rfl⟩ (fun _ => rfl) (fun _ => rfl) (fun _ => rfl) (fun _ => rfl) (fun _ _ => rfl) (fun _ => rfl) (fun _ => rfl) (fun _ => rfl) (fun _ => rfl) (fun id k h1 h2 _ => ?_) hrc
  have : id = 118 ∨ id = 119 ∨ id = 120 ∨ id = 121 ∨ id = 122 ∨ id = 123 ∨ id = 124 := by omega
  rcases this with rfl | rfl | rfl | rfl | rfl | rfl | rfl <;> rfl
theorem KM_C {s' : xS} (h : KM s b n pl red slip x W S st rc Rs) (hf : fr (FC 33) s s') (hrc : rc ≤ 10) : KM s' b n pl red slip x W S st rc Rs := h.fr hf ⟨rfl, rfl, rfl, rfl, rfl⟩ (fun _ => rfl) (fun _ => rfl) (fun _ => rfl) (fun _ => rfl) (fun _ _ => rfl) (fun _ => rfl) (fun _ => rfl) (fun _ => rfl) (fun _ => rfl) FC_118 hrc
theorem KC_W {s' : xS} (h : KC s n pl red slip x W S st rc Rs) (hf : fr FW s s') (hrc : rc ≤ 10) : KC s' n pl red slip x W S st rc Rs := h.fr hf (fun _ => rfl) (fun _ => rfl) (fun _ => rfl) (fun _ => rfl) (fun _ => rfl) rfl FW_R hrc
theorem Core.rc10 (h : Core s b n pl red slip x W S st rc Rs) : rc ≤ 10 := h.2.2.2.2.2.2.2.2.2.2.2.1
/-- what a call leaves that does rounds -/
def RdP (s s' : xS) (b n pl : Nat) (red slip : Int) (W S : Nat → Int) (rc : Nat) (Rs : Nat → Rn) : Prop := fr Fz s s' ∨ (fr FRc s s' ∧ chg s' ∧ ∃ x' st', Core s' b n pl red slip x' W S st' rc Rs)
theorem g_has_t (h : s.1 9 1 = iz rc) (hrc : rc ≤ 10) {i : Int} (i0 : -2147483648 ≤ i) (i1 : i ≤ 2147483647) (g : 0 ≤ i ∧ i < rc) : f39 9 (iz i) s = some (s, iz 1) := by
  unfold f39 f39_16 f39_17
  rw [ifg_pos O_9, h]
  simp (disch := omega) only [iz0, iz1, iz2, iz3, iz4, iz5, iz7, iz8, iz9, iz10, iz15, iz20, iz25, iz30, iz40, iz49, iz99, iz100, iz300, iz343, iz500, iz999, iz1000, iz1200, iz_add, iz_sub, iz_mul, iz_neg, it_le_t, it_le_f, it_lt_t, it_lt_f, it_eq_t, it_eq_f, bz0, bz1, ifg_T, or_true, true_or, if_true, if_false, Option.bind_some, Option.map_some]
theorem g_has_f (h : s.1 9 1 = iz rc) (hrc : rc ≤ 10) {i : Int} (i0 : -2147483648 ≤ i) (i1 : i ≤ 2147483647) (g : ¬ (0 ≤ i ∧ i < rc)) : f39 9 (iz i) s = some (s, iz 0) := by
  unfold f39 f39_16 f39_17
  rw [ifg_pos O_9, h]
  by_cases g0 : 0 ≤ i
  case neg => simp (disch := omega) only [iz0, iz1, iz2, iz3, iz4, iz5, iz7, iz8, iz9, iz10, iz15, iz20, iz25, iz30, iz40, iz49, iz99, iz100, iz300, iz343, iz500, iz999, iz1000, iz1200, iz_add, iz_sub, iz_mul, iz_neg, it_le_t, it_le_f, it_lt_t, it_lt_f, it_eq_t, it_eq_f, bz0, bz1, ifg_T, or_true, true_or, if_true, if_false, Option.bind_some, Option.map_some]
  simp (disch := omega) only [iz0, iz1, iz2, iz3, iz4, iz5, iz7, iz8, iz9, iz10, iz15, iz20, iz25, iz30, iz40, iz49, iz99, iz100, iz300, iz343, iz500, iz999, iz1000, iz1200, iz_add, iz_sub, iz_mul, iz_neg, it_le_t, it_le_f, it_lt_t, it_lt_f, it_eq_t, it_eq_f, bz0, bz1, ifg_T, or_true, true_or, if_true, if_false, Option.bind_some, Option.map_some]
theorem c_round (h : Core s b n pl red slip x W S st rc Rs) {i : Int} (i0 : -2147483648 ≤ i) (i1 : i ≤ 2147483647) : ok (f135 0 (iz i) s) (fun r1 => ok (f230 101 (iz i) r1.1) (fun r2 => r2.2 = r1.2 ∧ RdP s r2.1 b n pl red slip W S rc Rs)) := by
  have hrc := h.rc10
  have c9 := h.1.2.2.2.2.2.2.2.1
  have m37 := h.2.1.2.2.2.2.2.2.2.1
  unfold f135
  rw [ifg_pos O_0]
  by_cases g : 0 ≤ i ∧ i < rc
  · obtain ⟨r, rfl⟩ : ∃ r : Nat, i = r := ⟨i.toNat, by omega⟩
    have hr : r < rc := by omega
    simp (disch := omega) only [R_0_3, iz0, iz1, iz2, iz3, iz4, iz5, iz7, iz8, iz9, iz10, iz15, iz20, iz25, iz30, iz40, iz49, iz99, iz100, iz300, iz343, iz500, iz999, iz1000, iz1200, iz_add, iz_sub, iz_mul, iz_neg, it_le_t, it_le_f, it_lt_t, it_lt_f, it_eq_t, it_eq_f, bz0, bz1, ifg_T, or_true, true_or, if_true, if_false, Option.bind_some, Option.map_some, g_has_t c9 hrc]
    refine (cl_changed s).bind (fun q0 ⟨a1, a2⟩ => ?_)
    have hC := KC_H h.1 a1 hrc
    have hM := KM_H h.2.1 a1 hrc
    simp only [R_0_8, R_0_5, R_9_0, Option.bind_some, AR_10 (show r < 10 by omega)]
    rw [ifg_pos (R_O (isR_of (show r < 10 by omega)))]
    refine (KC_round hC h.2.2 hr).bind (fun q1 ⟨b1, b2, b3⟩ => ?_)
    rw [ok_some]
    have hM1 := KM_C hM b1 hrc
    unfold f230 f230_23
    rw [ifg_pos O_101]
    have m37' := hM1.2.2.2.2.2.2.2.1
    simp (disch := omega) only [m37', iz0, iz1, iz2, iz3, iz4, iz5, iz7, iz8, iz9, iz10, iz15, iz20, iz25, iz30, iz40, iz49, iz99, iz100, iz300, iz343, iz500, iz999, iz1000, iz1200, iz_add, iz_sub, iz_mul, iz_neg, it_le_t, it_le_f, it_lt_t, it_lt_f, it_eq_t, it_eq_f, bz0, bz1, ifg_T, or_true, true_or, if_true, if_false, Option.bind_some, Option.map_some, g_in_t]
    refine (KM_round hM1 h.2.2 hr).bind (fun q2 ⟨d1, d2, d3⟩ => ?_)
    rw [ok_some]
    refine ⟨by rw [d3, b3], Or.inr ⟨((a1.mono FH_c).tr (b1.mono FC_c)).tr (d1.mono FW_c), (a2.fr b1 rfl rfl rfl rfl).fr d1 rfl rfl rfl rfl, _, _, KC_W b2 d1 hrc, d2, KV_round h.2.2 hr⟩⟩
  · simp (disch := omega) only [R_0_3, iz0, iz1, iz2, iz3, iz4, iz5, iz7, iz8, iz9, iz10, iz15, iz20, iz25, iz30, iz40, iz49, iz99, iz100, iz300, iz343, iz500, iz999, iz1000, iz1200, iz_add, iz_sub, iz_mul, iz_neg, it_le_t, it_le_f, it_lt_t, it_lt_f, it_eq_t, it_eq_f, bz0, bz1, ifg_T, or_true, true_or, if_true, if_false, Option.bind_some, Option.map_some, g_has_f c9 hrc, ok_some]
    unfold f230 f230_23
    rw [ifg_pos O_101]
    simp (disch := omega) only [m37, iz0, iz1, iz2, iz3, iz4, iz5, iz7, iz8, iz9, iz10, iz15, iz20, iz25, iz30, iz40, iz49, iz99, iz100, iz300, iz343, iz500, iz999, iz1000, iz1200, iz_add, iz_sub, iz_mul, iz_neg, it_le_t, it_le_f, it_lt_t, it_lt_f, it_eq_t, it_eq_f, bz0, bz1, ifg_T, or_true, true_or, if_true, if_false, Option.bind_some, Option.map_some, g_in_f, ok_some, true_and]
    exact Or.inl (fr.rf _ _)
/-- rounds one behind the other -/
noncomputable def itR (n : Nat) (red slip : Int) (W S : Nat → Int) (rc : Nat) (Rs : Nat → Rn) : Nat → sS × Int32 → sS × Int32
  | 0, y => y
  | m + 1, y => ((dRd n red slip W S (Rs (m % rc)) (itR n red slip W S rc Rs m y).1).1, (itR n red slip W S rc Rs m y).2 + iz (dRd n red slip W S (Rs (m % rc)) (itR n red slip W S rc Rs m y).1).2)
theorem KV_it (h : KV n pl red slip x W S rc Rs) (hrc : 0 < rc) (st : Int32) : ∀ m, KV n pl red slip (itR n red slip W S rc Rs m (x, st)).1 W S rc Rs := by
  intro m
  induction m with
  | zero => exact h
  | succ m ih => exact KV_round ih (Nat.mod_lt _ hrc)
theorem cl_after (h : s.1 9 1 = iz rc) (h0 : 0 < rc) (hrc : rc ≤ 10) {m : Nat} (hm : m ≤ 1000) : f40 9 (iz m) s = some (s, 11 + m % rc) := by
  have hmm : m % rc < rc := Nat.mod_lt _ h0
  have hR := AR_10 (show m % rc < 10 by omega)
  have hO := R_O (isR_of (show m % rc < 10 by omega))
  unfold f40 f40_25
  rw [ifg_pos O_9, h]
  simp (disch := omega) only [R_9_0, iz0, iz1, iz2, iz3, iz4, iz5, iz7, iz8, iz9, iz10, iz15, iz20, iz25, iz30, iz40, iz49, iz99, iz100, iz300, iz343, iz500, iz999, iz1000, iz1200, iz_add, iz_sub, iz_mul, iz_neg, it_le_t, it_le_f, it_lt_t, it_lt_f, it_eq_t, it_eq_f, bz0, bz1, ifg_T, or_true, true_or, if_true, if_false, Option.bind_some, Option.map_some, nz', iz_remN, hR]
  rw [ifg_pos hO]
theorem c_run (h : Core s b n pl red slip x W S st rc Rs) {i : Int} (i0 : -2147483648 ≤ i) (i1 : i ≤ 2147483647) : ok (f136 0 (iz i) s) (fun r1 => ok (f231 101 (iz i) r1.1) (fun r2 => r2.2 = r1.2 ∧ RdP s r2.1 b n pl red slip W S rc Rs)) := by
  have hrc := h.rc10
  have c9 := h.1.2.2.2.2.2.2.2.1
  have m37 := h.2.1.2.2.2.2.2.2.2.1
  unfold f136 f136_21
  rw [ifg_pos O_0]
  by_cases g : 0 ≤ i ∧ i ≤ 300
  · by_cases g0 : rc = 0
    · subst g0
      simp (disch := omega) only [R_0_3, c9, iz0, iz1, iz2, iz3, iz4, iz5, iz7, iz8, iz9, iz10, iz15, iz20, iz25, iz30, iz40, iz49, iz99, iz100, iz300, iz343, iz500, iz999, iz1000, iz1200, iz_add, iz_sub, iz_mul, iz_neg, it_le_t, it_le_f, it_lt_t, it_lt_f, it_eq_t, it_eq_f, bz0, bz1, ifg_T, or_true, true_or, if_true, if_false, Option.bind_some, Option.map_some, ok_some]
      unfold f231 f231_18
      rw [ifg_pos O_101]
      simp (disch := omega) only [m37, iz0, iz1, iz2, iz3, iz4, iz5, iz7, iz8, iz9, iz10, iz15, iz20, iz25, iz30, iz40, iz49, iz99, iz100, iz300, iz343, iz500, iz999, iz1000, iz1200, iz_add, iz_sub, iz_mul, iz_neg, it_le_t, it_le_f, it_lt_t, it_lt_f, it_eq_t, it_eq_f, bz0, bz1, ifg_T, or_true, true_or, if_true, if_false, Option.bind_some, Option.map_some, g_in_t, ok_some, true_and]
      exact Or.inl (fr.rf _ _)
    · obtain ⟨m, rfl⟩ : ∃ m : Nat, i = m := ⟨i.toNat, by omega⟩
      simp (disch := omega) only [R_0_3, c9, iz0, iz1, iz2, iz3, iz4, iz5, iz7, iz8, iz9, iz10, iz15, iz20, iz25, iz30, iz40, iz49, iz99, iz100, iz300, iz343, iz500, iz999, iz1000, iz1200, iz_add, iz_sub, iz_mul, iz_neg, it_le_t, it_le_f, it_lt_t, it_lt_f, it_eq_t, it_eq_f, bz0, bz1, ifg_T, or_true, true_or, if_true, if_false, Option.bind_some, Option.map_some]
      refine (cl_changed s).bind (fun q0 ⟨a1, a2⟩ => ?_)
      have hC := KC_H h.1 a1 hrc
      have hM := KM_H h.2.1 a1 hrc
      refine forz (fun j w => fr (FC 33) q0.1 w ∧ KC w n pl red slip (itR n red slip W S rc Rs j (x, st)).1 W S (itR n red slip W S rc Rs j (x, st)).2 rc Rs) 0 m (by omega) (by omega) ⟨fr.rf _ _, hC⟩ (fun j w _ hj ⟨h1, h2⟩ => ?_) (fun w ⟨h1, h2⟩ => ?_)
      · unfold f136_29
        simp (disch := omega) only [R_0_8, R_0_5, R_0_3, iz0, iz1, iz2, iz3, iz4, iz5, iz7, iz8, iz9, iz10, iz15, iz20, iz25, iz30, iz40, iz49, iz99, iz100, iz300, iz343, iz500, iz999, iz1000, iz1200, iz_add, iz_sub, iz_mul, iz_neg, it_le_t, it_le_f, it_lt_t, it_lt_f, it_eq_t, it_eq_f, bz0, bz1, ifg_T, or_true, true_or, if_true, if_false, Option.bind_some, Option.map_some, cl_after h2.2.2.2.2.2.2.2.1 (show 0 < rc by omega) hrc]
        have hjr : j % rc < rc := Nat.mod_lt _ (by omega)
        rw [ifg_pos (R_O (isR_of (show j % rc < 10 by omega)))]
        refine (KC_round h2 (KV_it h.2.2 (by omega) st j) hjr).bind (fun q1 ⟨b1, b2, b3⟩ => ?_)
        simp only [ok_some, ok_map, lp_l, lp_r, lpA_l, lpA_r, true_and]
        exact ⟨h1.tr b1, b2⟩
      · unfold f136_29
        rw [it_le_t (Int.le_refl _) (by omega) (by omega)]
        simp only [R_0_5, Option.bind_some, ok_some, ok_map, lp_l, lp_r, lpA_l, lpA_r, true_and]
        have hM1 := KM_C hM h1 hrc
        unfold f231 f231_18
        rw [ifg_pos O_101]
        have m37' := hM1.2.2.2.2.2.2.2.1
        simp (disch := omega) only [m37', iz0, iz1, iz2, iz3, iz4, iz5, iz7, iz8, iz9, iz10, iz15, iz20, iz25, iz30, iz40, iz49, iz99, iz100, iz300, iz343, iz500, iz999, iz1000, iz1200, iz_add, iz_sub, iz_mul, iz_neg, it_le_t, it_le_f, it_lt_t, it_lt_f, it_eq_t, it_eq_f, bz0, bz1, ifg_T, or_true, true_or, if_true, if_false, Option.bind_some, Option.map_some, g_in_t]
        refine forz (fun j w' => fr FW w w' ∧ KM w' b n pl red slip (itR n red slip W S rc Rs j (x, st)).1 W S (itR n red slip W S rc Rs j (x, st)).2 rc Rs) 0 m (by omega) (by omega) ⟨fr.rf _ _, hM1⟩ (fun j w' _ hj ⟨k1, k2⟩ => ?_) (fun w' ⟨k1, k2⟩ => ?_)
        · have hjr : j % rc < rc := Nat.mod_lt _ (by omega)
          have m38 := k2.2.2.2.2.2.2.2.1
          unfold f231_22
          simp (disch := omega) only [m38, iz0, iz1, iz2, iz3, iz4, iz5, iz7, iz8, iz9, iz10, iz15, iz20, iz25, iz30, iz40, iz49, iz99, iz100, iz300, iz343, iz500, iz999, iz1000, iz1200, iz_add, iz_sub, iz_mul, iz_neg, it_le_t, it_le_f, it_lt_t, it_lt_f, it_eq_t, it_eq_f, bz0, bz1, ifg_T, or_true, true_or, if_true, if_false, Option.bind_some, Option.map_some, nz', iz_remN]
          refine (KM_round k2 (KV_it h.2.2 (by omega) st j) hjr).bind (fun q2 ⟨d1, d2, d3⟩ => ?_)
          have hcn : (dRd n red slip W S (Rs (j % rc)) (itR n red slip W S rc Rs j (x, st)).1).2 ≤ n * n := scr_n _
          have sq := h.cn.sq
          rw [d3, it_le_t (by omega) (by omega) (by omega)]
          simp only [ok_some, ok_map, lp_l, lp_r, lpA_l, lpA_r, true_and]
          exact ⟨k1.tr d1, d2⟩
        · unfold f231_22
          rw [it_le_t (Int.le_refl _) (by omega) (by omega)]
          simp only [ok_some, ok_map, lp_l, lp_r, lpA_l, lpA_r, true_and]
          have e1 := h2.2.2.2.2.2.2.1
          have e2 := k2.2.2.2.2.2.2.1
          refine ⟨by rw [e1, e2], Or.inr ⟨((a1.mono FH_c).tr (h1.mono FC_c)).tr (k1.mono FW_c), (a2.fr h1 rfl rfl rfl rfl).fr k1 rfl rfl rfl rfl, _, _, KC_W h2 k1 hrc, k2, KV_it h.2.2 (by omega) st m⟩⟩
  · have fin : ok (f231 101 (iz i) s) (fun r2 => r2.2 = iz (-1) ∧ RdP s r2.1 b n pl red slip W S rc Rs) := by
      unfold f231 f231_18
      rw [ifg_pos O_101]
      simp (disch := omega) only [iz0, iz1, iz2, iz3, iz4, iz5, iz7, iz8, iz9, iz10, iz15, iz20, iz25, iz30, iz40, iz49, iz99, iz100, iz300, iz343, iz500, iz999, iz1000, iz1200, iz_add, iz_sub, iz_mul, iz_neg, it_le_t, it_le_f, it_lt_t, it_lt_f, it_eq_t, it_eq_f, bz0, bz1, ifg_T, or_true, true_or, if_true, if_false, Option.bind_some, Option.map_some, g_in_f, ok_some, true_and]
      exact Or.inl (fr.rf _ _)
    by_cases g1 : 0 ≤ i
    · simp (disch := omega) only [iz0, iz1, iz2, iz3, iz4, iz5, iz7, iz8, iz9, iz10, iz15, iz20, iz25, iz30, iz40, iz49, iz99, iz100, iz300, iz343, iz500, iz999, iz1000, iz1200, iz_add, iz_sub, iz_mul, iz_neg, it_le_t, it_le_f, it_lt_t, it_lt_f, it_eq_t, it_eq_f, bz0, bz1, ifg_T, or_true, true_or, if_true, if_false, Option.bind_some, Option.map_some, ok_some]
      exact fin
    · simp (disch := omega) only [iz0, iz1, iz2, iz3, iz4, iz5, iz7, iz8, iz9, iz10, iz15, iz20, iz25, iz30, iz40, iz49, iz99, iz100, iz300, iz343, iz500, iz999, iz1000, iz1200, iz_add, iz_sub, iz_mul, iz_neg, it_le_t, it_le_f, it_lt_t, it_lt_f, it_eq_t, it_eq_f, bz0, bz1, ifg_T, or_true, true_or, if_true, if_false, Option.bind_some, Option.map_some, ok_some]
      exact fin
end RR
