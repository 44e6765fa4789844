/-! best: rows at the class -/
def FQb (id k : Nat) : Bool := Fz id k || (id == 51 && Nat.ble 8 k && Nat.ble k 11) || id == 55
theorem Fz_Q (id k : Nat) (h : Fz id k = true) : FQb id k = true := by unfold FQb; rw [h]; rfl
theorem FQb_R (id k : Nat) (h1 : 11 ≤ id) (h2 : id ≤ 20) : FQb id k = false := by
  have : id = 11 ∨ id = 12 ∨ id = 13 ∨ id = 14 ∨ id = 15 ∨ id = 16 ∨ id = 17 ∨ id = 18 ∨ id = 19 ∨ id = 20 := by omega
  rcases this with rfl | rfl | rfl | rfl | rfl | rfl | rfl | rfl | rfl | rfl <;> rfl
theorem FQb_113 (k : Nat) (h : k < 100) : FQb 113 k = false := by unfold FQb; rw [Fz_113 k h]; rfl
theorem FQb_118 (id k : Nat) (h1 : 118 ≤ id) (h2 : id ≤ 124) (h : k < 10) : FQb id k = false := by
  unfold FQb
  rw [Fz_118 id k h1 h2 h, show (id == 51) = false by rw [beq_eq_false_iff_ne]; omega, show (id == 55) = false by rw [beq_eq_false_iff_ne]; omega]
  rfl
def FTb (dep id k : Nat) : Bool := FL id k || (Nat.ble (60 + 4 * dep) id && Nat.ble id 71) || (id == 54 && Nat.ble dep k) || (id == 51 && k == 8) || id == 55
theorem FL_T {dep : Nat} (id k : Nat) (h : FL id k = true) : FTb dep id k = true := by unfold FTb; rw [h]; simp only [Bool.true_or]
theorem FTb_no {dep id k : Nat} (h1 : 56 ≤ id) (h2 : id < 60 + 4 * dep) : FTb dep id k = false := by
  unfold FTb FL
  rw [ble_f (show 50 < id by omega), ble_f h2, show (id == 39) = false by rw [beq_eq_false_iff_ne]; omega, show (id == 54) = false by rw [beq_eq_false_iff_ne]; omega, show (id == 51) = false by rw [beq_eq_false_iff_ne]; omega, show (id == 55) = false by rw [beq_eq_false_iff_ne]; omega, Bool.and_false]
  rfl
theorem FTb_Q {dep : Nat} (id k : Nat) (h : FTb dep id k = true) : FQb id k = true := by
  unfold FTb at h
  simp only [Bool.or_eq_true, Bool.and_eq_true, beq_iff_eq, Nat.ble_eq] at h
  rcases h with (((h | ⟨h1, h2⟩) | ⟨rfl, -⟩) | ⟨rfl, rfl⟩) | rfl
  · exact Fz_Q _ _ (FL_z _ _ h)
  · refine Fz_Q _ _ (Fy_z _ _ ?_)
    unfold Fy
    rw [bleT (show 56 ≤ id by omega), bleT (show id ≤ 71 by omega)]
    simp only [Bool.and_true, Bool.or_true, Bool.true_or]
  · exact Fz_Q _ _ (Fy_z _ _ (by unfold Fy; simp only [beq_self_eq_true, Bool.or_true, Bool.true_or]))
  · rfl
  · unfold FQb; simp only [beq_self_eq_true, Bool.or_true]
theorem FTb_up {dep : Nat} (id k : Nat) (h : FTb (dep + 1) id k = true) : FTb dep id k = true := by
  unfold FTb at h
  simp only [Bool.or_eq_true, Bool.and_eq_true, beq_iff_eq, Nat.ble_eq] at h
  unfold FTb
  simp only [Bool.or_eq_true, Bool.and_eq_true, beq_iff_eq, Nat.ble_eq]
  rcases h with (((h | ⟨h1, h2⟩) | ⟨h1, h2⟩) | h) | h
  · exact Or.inl (Or.inl (Or.inl (Or.inl h)))
  · exact Or.inl (Or.inl (Or.inl (Or.inr ⟨by omega, h2⟩)))
  · exact Or.inl (Or.inl (Or.inr ⟨h1, by omega⟩))
  · exact Or.inl (Or.inr h)
  · exact Or.inr h
theorem FBm_T {dep : Nat} (hd : dep ≤ 2) (id k : Nat) (h : FBm (60 + 4 * dep) id k = true) : FTb dep id k = true := by
  unfold FBm at h
  simp only [Bool.or_eq_true, beq_iff_eq] at h
  unfold FTb
  rw [bleT (show 60 + 4 * dep ≤ id by omega), bleT (show id ≤ 71 by omega)]
  simp only [Bool.and_true, Bool.or_true, Bool.true_or]
theorem FC_T {dep : Nat} (hd : dep ≤ 2) (id k : Nat) (h : FC (60 + 4 * dep) id k = true) : FTb dep id k = true := by
  unfold FC at h
  rw [Bool.or_eq_true] at h
  rcases h with h | h
  · exact FL_T id k h
  · refine FBm_T hd id k ?_
    unfold FB at h
    simp only [Bool.or_eq_true, Bool.and_eq_true, beq_iff_eq] at h
    unfold FBm
    rcases h with h | ⟨⟨h, -⟩, -⟩
    · subst h; simp
    · subst h; simp
theorem isB_t {dep : Nat} (h : dep ≤ 3) : isB (56 + 4 * dep) := by
  have : dep = 0 ∨ dep = 1 ∨ dep = 2 ∨ dep = 3 := by omega
  unfold isB
  rcases this with rfl | rfl | rfl | rfl <;> omega
section CB
variable {s : xS} {b n pl : Nat} {red slip : Int} {x : sS} {W S : Nat → Int} {st : Int32} {rc : Nat} {Rs : Nat → Rn}
theorem Core_Q {s' : xS} (h : Core s b n pl red slip x W S st rc Rs) (hf : fr FQb s s') : Core s' b n pl red slip x W S st rc Rs :=
  ⟨h.1.fr hf (fun _ => rfl) (fun _ => rfl) (fun _ => rfl) (fun _ => rfl) (fun _ => rfl) rfl FQb_R h.rc10, h.2.1.fr hf ⟨rfl, rfl, rfl, rfl, rfl⟩ (fun _ => rfl) (fun _ => rfl) (fun _ => rfl) (fun _ => rfl) FQb_113 (fun _ => rfl) (fun _ => rfl) (fun _ => rfl) (fun _ => rfl) FQb_118 h.rc10, h.2.2⟩
theorem ct_scr {m q : Nat} {D : Nat → Nat} (hC : ∀ r, r < rc → CR s (11 + r) (Rs r)) (hrc : rc ≤ 10) (hm : m ≤ 3) (hq : q < 4) (h10 : s.1 51 10 = iz m) (h54 : ∀ j, j < m → s.1 54 j = iz (D j) ∧ D j < rc) (hsc : ∀ r, r < rc → (Rs r).2.2.2.2.2.1 < 4) :
    ∃ v, f104 51 (iz q) s = some (s, v) ∧ ((v = iz 1 ∧ ∃ j, j < m ∧ (Rs (D j)).2.2.2.2.2.1 = q) ∨ (v = iz 0 ∧ ∀ j, j < m → (Rs (D j)).2.2.2.2.2.1 ≠ q)) := by
  have key : ok (f104 51 (iz q) s) (fun r => r.1 = s ∧ ((r.2 = iz 1 ∧ ∃ j, j < m ∧ (Rs (D j)).2.2.2.2.2.1 = q) ∨ (r.2 = iz 0 ∧ ∀ j, j < m → (Rs (D j)).2.2.2.2.2.1 ≠ q))) := by
    unfold f104
    rw [ifg_pos O_51]
    simp only [iz0]
    refine forz (fun j w => w = s ∧ ∀ i, i < j → (Rs (D i)).2.2.2.2.2.1 ≠ q) 0 m (by omega) (by omega) ⟨rfl, fun i hi => by omega⟩ (fun j w _ hj ⟨e1, e2⟩ => ?_) (fun w ⟨e1, e2⟩ => ?_)
    · subst e1
      obtain ⟨g1, g2⟩ := h54 j hj
      have g3 := (hC (D j) g2).2.2.2.2.2.1
      have g4 := hsc (D j) g2
      unfold f104_2
      simp (disch := omega) only [h10, iz0, iz1, iz2, iz3, iz4, iz5, iz7, iz8, iz9, iz10, iz15, iz20, iz25, iz30, iz40, iz49, iz99, iz100, iz300, iz343, iz500, iz999, iz1000, iz1200, iz_add, iz_sub, iz_mul, iz_neg, it_le_t, it_le_f, it_lt_t, it_lt_f, it_eq_t, it_eq_f, bz0, bz1, ifg_T, or_true, true_or, if_true, if_false, Option.bind_some, Option.map_some, R_51_1, R_9_0, R_51_6, A_54, iz_in, iz_n, nat_toNat, g1, AR_10 (show D j < 10 by omega)]
      rw [ifg_pos (R_O (isR_of (show D j < 10 by omega))), g3]
      by_cases e : (Rs (D j)).2.2.2.2.2.1 = q
      · rw [it_eq_t (by rw [e])]
        simp only [ok_some, ok_map, lp_l, lp_r, lpA_l, lpA_r, true_and]
        exact Or.inl ⟨j, hj, e⟩
      · rw [it_eq_f (by omega) (by omega) (by omega) (by omega) (by omega)]
        simp only [ok_some, ok_map, lp_l, lp_r, lpA_l, lpA_r, true_and]
        intro i hi
        by_cases r : i = j
        · rw [r]; exact e
        · exact e2 i (by omega)
    · subst e1
      unfold f104_2
      simp (disch := omega) only [h10, iz0, iz1, iz2, iz3, iz4, iz5, iz7, iz8, iz9, iz10, iz15, iz20, iz25, iz30, iz40, iz49, iz99, iz100, iz300, iz343, iz500, iz999, iz1000, iz1200, iz_add, iz_sub, iz_mul, iz_neg, it_le_t, it_le_f, it_lt_t, it_lt_f, it_eq_t, it_eq_f, bz0, bz1, ifg_T, or_true, true_or, if_true, if_false, Option.bind_some, Option.map_some, ok_some, ok_map, lp_l, lp_r, lpA_l, lpA_r, true_and]
      exact Or.inr e2
  obtain ⟨r, e1, e2, e3⟩ := key
  exact ⟨r.2, by rw [e1, ← e2], e3⟩
theorem ct_flat (h : Core s b n pl red slip x W S st rc Rs) {m id : Nat} {D : Nat → Nat} {y : sS} {st' : Int32} {k : Int} (k0 : 0 ≤ k) (k9 : k ≤ 999) (hm : m ≤ 3) (hB : isB id) (hid : 51 ≤ id) (h10 : s.1 51 10 = iz m) (h11 : s.1 51 11 = iz k) (h54 : ∀ j, j < m → s.1 54 j = iz (D j) ∧ D j < rc) (hF : Fn s n pl x.1 k) (hy : BxC s id y W S st') (hHy : Hb y) :
    ok (f103 51 id s) (fun r => fr FL s r.1 ∧ ((r.2 = iz 1 ∧ ∀ q, q < pl → ((∃ j, j < m ∧ (Rs (D j)).2.2.2.2.2.1 = q) → flP n y.1 q k = true) ∧ ((∀ j, j < m → (Rs (D j)).2.2.2.2.2.1 ≠ q) → flP n x.1 q k = true)) ∨ (r.2 = iz 0 ∧ ¬ ∀ q, q < pl → ((∃ j, j < m ∧ (Rs (D j)).2.2.2.2.2.1 = q) → flP n y.1 q k = true) ∧ ((∀ j, j < m → (Rs (D j)).2.2.2.2.2.1 ≠ q) → flP n x.1 q k = true)))) := by
  have hpl := h.p4
  have hrc := h.rc10
  have hV := h.2.2
  have hsc : ∀ r, r < rc → (Rs r).2.2.2.2.2.1 < 4 := fun r hr => by
    have hRv := hV.2.2.2.2.2.2.2.2.2.2 r hr
    have r1 := hRv.1
    have r2 := hRv.2.1
    rcases hRv.2.2.2.2.1 with q | q <;> rw [q] <;> omega
  have e32 := h.1.1
  unfold f103
  rw [ifg_pos O_51, ifg_pos (B_O hB)]
  simp only [iz0]
  refine forz (fun p w => w = s ∧ ∀ q, q < p → ((∀ j, j < m → (Rs (D j)).2.2.2.2.2.1 ≠ q) → flP n x.1 q k = true)) 0 pl (by omega) (by omega) ⟨rfl, fun q hq => by omega⟩ (fun p w _ hp ⟨e1, e2⟩ => ?_) (fun w ⟨e1, e2⟩ => ?_)
  · subst e1
    have e3 := hF p hp
    obtain ⟨v, v1, v2⟩ := ct_scr h.1.2.2.2.2.2.2.2.2 hrc hm (show p < 4 by omega) h10 h54 hsc
    unfold f103_2 f103_32
    simp (disch := omega) only [R_51_0, R_51_5, e32, A_53, iz0, iz1, iz2, iz3, iz4, iz5, iz7, iz8, iz9, iz10, iz15, iz20, iz25, iz30, iz40, iz49, iz99, iz100, iz300, iz343, iz500, iz999, iz1000, iz1200, iz_add, iz_sub, iz_mul, iz_neg, it_le_t, it_le_f, it_lt_t, it_lt_f, it_eq_t, it_eq_f, bz0, bz1, ifg_T, or_true, true_or, if_true, if_false, Option.bind_some, Option.map_some, iz_in, iz_n, nat_toNat, e3]
    by_cases q : flP n x.1 p k = true
    · rw [if_pos q]
      simp (disch := omega) only [iz0, iz1, iz2, iz3, iz4, iz5, iz7, iz8, iz9, iz10, iz15, iz20, iz25, iz30, iz40, iz49, iz99, iz100, iz300, iz343, iz500, iz999, iz1000, iz1200, iz_add, iz_sub, iz_mul, iz_neg, it_le_t, it_le_f, it_lt_t, it_lt_f, it_eq_t, it_eq_f, bz0, bz1, ifg_T, or_true, true_or, if_true, if_false, Option.bind_some, Option.map_some, ok_some, ok_map, lp_l, lp_r, lpA_l, lpA_r, true_and]
      intro j hj
      by_cases r : j = p
      · rw [r]; exact fun _ => q
      · exact e2 j (by omega)
    · rw [if_neg q]
      simp (disch := omega) only [iz0, iz1, iz2, iz3, iz4, iz5, iz7, iz8, iz9, iz10, iz15, iz20, iz25, iz30, iz40, iz49, iz99, iz100, iz300, iz343, iz500, iz999, iz1000, iz1200, iz_add, iz_sub, iz_mul, iz_neg, it_le_t, it_le_f, it_lt_t, it_lt_f, it_eq_t, it_eq_f, bz0, bz1, ifg_T, or_true, true_or, if_true, if_false, Option.bind_some, Option.map_some, v1]
      rcases v2 with ⟨rfl, v3⟩ | ⟨rfl, v3⟩
      · simp (disch := omega) only [iz0, iz1, iz2, iz3, iz4, iz5, iz7, iz8, iz9, iz10, iz15, iz20, iz25, iz30, iz40, iz49, iz99, iz100, iz300, iz343, iz500, iz999, iz1000, iz1200, iz_add, iz_sub, iz_mul, iz_neg, it_le_t, it_le_f, it_lt_t, it_lt_f, it_eq_t, it_eq_f, bz0, bz1, ifg_T, or_true, true_or, if_true, if_false, Option.bind_some, Option.map_some, ok_some, ok_map, lp_l, lp_r, lpA_l, lpA_r, true_and]
        intro j hj
        by_cases r : j = p
        · rw [r]
          intro w
          obtain ⟨i, i1, i2⟩ := v3
          exact absurd i2 (w i i1)
        · exact e2 j (by omega)
      · simp (disch := omega) only [iz0, iz1, iz2, iz3, iz4, iz5, iz7, iz8, iz9, iz10, iz15, iz20, iz25, iz30, iz40, iz49, iz99, iz100, iz300, iz343, iz500, iz999, iz1000, iz1200, iz_add, iz_sub, iz_mul, iz_neg, it_le_t, it_le_f, it_lt_t, it_lt_f, it_eq_t, it_eq_f, bz0, bz1, ifg_T, or_true, true_or, if_true, if_false, Option.bind_some, Option.map_some, ok_some, ok_map, lp_l, lp_r, lpA_l, lpA_r, true_and]
        exact ⟨fr.rf _ _, Or.inr (fun r => q ((r p hp).2 v3))⟩
  · subst e1
    unfold f103_2
    simp (disch := omega) only [R_51_0, e32, iz0, iz1, iz2, iz3, iz4, iz5, iz7, iz8, iz9, iz10, iz15, iz20, iz25, iz30, iz40, iz49, iz99, iz100, iz300, iz343, iz500, iz999, iz1000, iz1200, iz_add, iz_sub, iz_mul, iz_neg, it_le_t, it_le_f, it_lt_t, it_lt_f, it_eq_t, it_eq_f, bz0, bz1, ifg_T, or_true, true_or, if_true, if_false, Option.bind_some, Option.map_some, ok_map, lp_r]
    refine forz (fun p z => fr FL w z ∧ ∀ q, q < p → ((∃ j, j < m ∧ (Rs (D j)).2.2.2.2.2.1 = q) → flP n y.1 q k = true)) 0 pl (by omega) (by omega) ⟨fr.rf _ _, fun q hq => by omega⟩ (fun p z _ hp ⟨g1, g2⟩ => ?_) (fun z ⟨g1, g2⟩ => ?_)
    · have hz := Core_scr h (g1.mono FL_z)
      have z32 := hz.1.1
      have z10 : z.1 51 10 = iz m := by rw [g1.i _ _ rfl]; exact h10
      have z11 : z.1 51 11 = iz k := by rw [g1.i _ _ rfl]; exact h11
      obtain ⟨v, v1, v2⟩ := ct_scr (s := z) hz.1.2.2.2.2.2.2.2.2 hrc hm (show p < 4 by omega) z10 (fun j hj => by rw [g1.i 54 j rfl]; exact h54 j hj) hsc
      unfold f103_40 f103_74
      simp (disch := omega) only [R_51_0, z32, iz0, iz1, iz2, iz3, iz4, iz5, iz7, iz8, iz9, iz10, iz15, iz20, iz25, iz30, iz40, iz49, iz99, iz100, iz300, iz343, iz500, iz999, iz1000, iz1200, iz_add, iz_sub, iz_mul, iz_neg, it_le_t, it_le_f, it_lt_t, it_lt_f, it_eq_t, it_eq_f, bz0, bz1, ifg_T, or_true, true_or, if_true, if_false, Option.bind_some, Option.map_some, v1]
      rcases v2 with ⟨rfl, v3⟩ | ⟨rfl, v3⟩
      · simp (disch := omega) only [iz0, iz1, iz2, iz3, iz4, iz5, iz7, iz8, iz9, iz10, iz15, iz20, iz25, iz30, iz40, iz49, iz99, iz100, iz300, iz343, iz500, iz999, iz1000, iz1200, iz_add, iz_sub, iz_mul, iz_neg, it_le_t, it_le_f, it_lt_t, it_lt_f, it_eq_t, it_eq_f, bz0, bz1, ifg_T, or_true, true_or, if_true, if_false, Option.bind_some, Option.map_some, z11]
        have hyz : BxC z id y W S st' := hy.fr g1 (fun a k h1 h2 => by
          have := FLf_f (id := a) (k := k)
          unfold FL
          rw [ble_f (show 50 < a by omega), Bool.and_false, show (a == 39) = false by rw [beq_eq_false_iff_ne]; omega]
          rfl)
        refine (cl_isFlat hz.cn hB hyz.1 (Hb.bd hHy hV.2.2.2.2.2.2.2.2.1) (show p < 4 by omega) k0 k9).bind (fun t4 ⟨l1, l2⟩ => ?_)
        rw [l2]
        by_cases q : flP n y.1 p k = true
        · rw [if_pos q]
          simp (disch := omega) only [iz0, iz1, iz2, iz3, iz4, iz5, iz7, iz8, iz9, iz10, iz15, iz20, iz25, iz30, iz40, iz49, iz99, iz100, iz300, iz343, iz500, iz999, iz1000, iz1200, iz_add, iz_sub, iz_mul, iz_neg, it_le_t, it_le_f, it_lt_t, it_lt_f, it_eq_t, it_eq_f, bz0, bz1, ifg_T, or_true, true_or, if_true, if_false, Option.bind_some, Option.map_some, ok_some, ok_map, lp_l, lp_r, lpA_l, lpA_r, true_and]
          refine ⟨g1.tr l1, fun j hj => ?_⟩
          by_cases r : j = p
          · rw [r]; exact fun _ => q
          · exact g2 j (by omega)
        · rw [if_neg q]
          simp (disch := omega) only [iz0, iz1, iz2, iz3, iz4, iz5, iz7, iz8, iz9, iz10, iz15, iz20, iz25, iz30, iz40, iz49, iz99, iz100, iz300, iz343, iz500, iz999, iz1000, iz1200, iz_add, iz_sub, iz_mul, iz_neg, it_le_t, it_le_f, it_lt_t, it_lt_f, it_eq_t, it_eq_f, bz0, bz1, ifg_T, or_true, true_or, if_true, if_false, Option.bind_some, Option.map_some, ok_some, ok_map, lp_l, lp_r, lpA_l, lpA_r, true_and]
          exact ⟨g1.tr l1, Or.inr (fun r => q ((r p hp).1 v3))⟩
      · simp (disch := omega) only [iz0, iz1, iz2, iz3, iz4, iz5, iz7, iz8, iz9, iz10, iz15, iz20, iz25, iz30, iz40, iz49, iz99, iz100, iz300, iz343, iz500, iz999, iz1000, iz1200, iz_add, iz_sub, iz_mul, iz_neg, it_le_t, it_le_f, it_lt_t, it_lt_f, it_eq_t, it_eq_f, bz0, bz1, ifg_T, or_true, true_or, if_true, if_false, Option.bind_some, Option.map_some, ok_some, ok_map, lp_l, lp_r, lpA_l, lpA_r, true_and]
        refine ⟨g1, fun j hj => ?_⟩
        by_cases r : j = p
        · rw [r]
          rintro ⟨i, i1, i2⟩
          exact absurd i2 (v3 i i1)
        · exact g2 j (by omega)
    · have hz := Core_scr h (g1.mono FL_z)
      have z32 := hz.1.1
      unfold f103_40
      simp (disch := omega) only [R_51_0, z32, iz0, iz1, iz2, iz3, iz4, iz5, iz7, iz8, iz9, iz10, iz15, iz20, iz25, iz30, iz40, iz49, iz99, iz100, iz300, iz343, iz500, iz999, iz1000, iz1200, iz_add, iz_sub, iz_mul, iz_neg, it_le_t, it_le_f, it_lt_t, it_lt_f, it_eq_t, it_eq_f, bz0, bz1, ifg_T, or_true, true_or, if_true, if_false, Option.bind_some, Option.map_some, ok_some, ok_map, lp_l, lp_r, lpA_l, lpA_r, true_and]
      exact ⟨g1, Or.inl (fun q hq => ⟨g2 q hq, e2 q hq⟩)⟩
end CB
