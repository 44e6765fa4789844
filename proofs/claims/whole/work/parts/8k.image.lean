/-! image and back -/
def FI (id k : Nat) : Bool := (Nat.ble 89 id && Nat.ble id 100) || id == 38 || (Nat.ble 129 id && Nat.ble id 137)
section IM
variable {s : xS} {b n pl : Nat} {red slip : Int} {x y : sS} {W S W' S' : Nat → Int} {st st' : Int32} {rc : Nat} {Rs : Nat → Rn}
theorem BxC.fr {F : Nat → Nat → Bool} {s' : xS} {id : Nat} (h : BxC s id y W S st) (hf : fr F s s') (h0 : ∀ a k, id ≤ a → a ≤ id + 3 → F a k = false) : BxC s' id y W S st := ⟨h.1.fr hf (fun k => h0 _ k (by omega) (by omega)) (fun k => h0 _ k (by omega) (by omega)) (fun k => h0 _ k (by omega) (by omega)), ⟨fun k hk => by rw [hf.i _ _ (h0 _ _ (by omega) (by omega))]; exact h.2.1.1 k hk, by rw [hf.i _ _ (h0 _ _ (by omega) (by omega))]; exact h.2.1.2.1, by rw [hf.i _ _ (h0 _ _ (by omega) (by omega))]; exact h.2.1.2.2⟩, by rw [hf.i _ _ (h0 _ _ (by omega) (by omega))]; exact h.2.2⟩
theorem FK_id (q id k : Nat) (h : id < 129 ∨ 137 < id) : FK q id k = false := by
  unfold FK
  rw [show (id == 129) = false by rw [beq_eq_false_iff_ne]; omega, show (id == 130) = false by rw [beq_eq_false_iff_ne]; omega, show (id == 131) = false by rw [beq_eq_false_iff_ne]; omega, show (id == 132) = false by rw [beq_eq_false_iff_ne]; omega, show (id == 133) = false by rw [beq_eq_false_iff_ne]; omega, show (id == 134) = false by rw [beq_eq_false_iff_ne]; omega, show (id == 135) = false by rw [beq_eq_false_iff_ne]; omega, show (id == 136) = false by rw [beq_eq_false_iff_ne]; omega, show (id == 137) = false by rw [beq_eq_false_iff_ne]; omega]
  rfl
theorem FK_o {q r : Nat} (h : r ≠ q) : FK q 129 r = false ∧ FK q 132 r = false ∧ FK q 133 r = false ∧ FK q 134 r = false := by
  unfold FK
  rw [show (r == q) = false by rw [beq_eq_false_iff_ne]; exact h]
  exact ⟨rfl, rfl, rfl, rfl⟩
theorem FK_o1 {q r k : Nat} (h : r ≠ q) (hk : k < 100) : FK q 130 (100 * r + k) = false ∧ FK q 131 (100 * r + k) = false := by
  unfold FK
  by_cases e : r < q
  · rw [ble_f (show 100 * r + k < 100 * q by omega)]
    exact ⟨rfl, rfl⟩
  · rw [ble_f (show 100 * q + 100 < 100 * r + k + 1 by omega), Bool.and_false, Bool.and_false]
    exact ⟨rfl, rfl⟩
theorem FK_o2 {q r k : Nat} (h : r ≠ q) (hk : k < 15) : FK q 135 (15 * r + k) = false := by
  unfold FK
  by_cases e : r < q
  · rw [ble_f (show 15 * r + k < 15 * q by omega)]
    rfl
  · rw [ble_f (show 15 * q + 15 < 15 * r + k + 1 by omega), Bool.and_false]
    rfl
theorem FK_o3 {q r k : Nat} (h : r ≠ q) (hk : k < 5) : FK q 136 (5 * r + k) = false ∧ FK q 137 (5 * r + k) = false := by
  unfold FK
  by_cases e : r < q
  · rw [ble_f (show 5 * r + k < 5 * q by omega)]
    exact ⟨rfl, rfl⟩
  · rw [ble_f (show 5 * q + 5 < 5 * r + k + 1 by omega), Bool.and_false, Bool.and_false]
    exact ⟨rfl, rfl⟩
theorem BxM.fr {F : Nat → Nat → Bool} {s' : xS} {r : Nat} (h : BxM s r n pl y W S st) (hf : fr F s s') (h1 : F 132 r = false ∧ F 133 r = false ∧ F 134 r = false) (h2 : ∀ k, k < 100 → F 130 (100 * r + k) = false ∧ F 131 (100 * r + k) = false) (h3 : ∀ k, k < 15 → F 135 (15 * r + k) = false) (h4 : ∀ k, k < 5 → F 136 (5 * r + k) = false ∧ F 137 (5 * r + k) = false) : BxM s' r n pl y W S st := by
  obtain ⟨g1, g2, g3, g4, g5, g6⟩ := h
  exact ⟨fun k hk => by rw [hf.i _ _ (h2 k hk).1, hf.i _ _ (h2 k hk).2]; exact g1 k hk, g2.congr (fun k hk => hf.i _ _ (h3 k (by omega))) (fun k hk => hf.i _ _ (h4 k (by omega)).1) (fun k hk => hf.i _ _ (h4 k (by omega)).2), by rw [hf.i _ _ (h4 4 (by omega)).2]; exact g3, by rw [hf.i _ _ h1.1]; exact g4, by rw [hf.i _ _ h1.2.1]; exact g5, by rw [hf.i _ _ h1.2.2]; exact g6⟩
def F38 (id _k : Nat) : Bool := id == 38
theorem KC_i {s' : xS} {F : Nat → Nat → Bool} (h : KC s n pl red slip x W S st rc Rs) (hf : fr F s s') (hrc : rc ≤ 10) (h0 : ∀ id k, id ≤ 36 → F id k = false) : KC s' n pl red slip x W S st rc Rs := h.fr hf (fun _ => h0 _ _ (by omega)) (fun _ => h0 _ _ (by omega)) (fun _ => h0 _ _ (by omega)) (fun _ => h0 _ _ (by omega)) (fun _ => h0 _ _ (by omega)) (h0 _ _ (by omega)) (fun id k h1 h2 => h0 _ _ (by omega)) hrc
theorem KM_i {s' : xS} {F : Nat → Nat → Bool} (h : KM s b n pl red slip x W S st rc Rs) (hf : fr F s s') (hrc : rc ≤ 10) (h0 : ∀ id k, 101 ≤ id → id ≤ 124 → F id k = false) : KM s' b n pl red slip x W S st rc Rs := h.fr hf ⟨h0 _ _ (by omega) (by omega), h0 _ _ (by omega) (by omega), h0 _ _ (by omega) (by omega), h0 _ _ (by omega) (by omega), h0 _ _ (by omega) (by omega)⟩ (fun _ => h0 _ _ (by omega) (by omega)) (fun _ => h0 _ _ (by omega) (by omega)) (fun _ => h0 _ _ (by omega) (by omega)) (fun _ => h0 _ _ (by omega) (by omega)) (fun _ _ => h0 _ _ (by omega) (by omega)) (fun _ => h0 _ _ (by omega) (by omega)) (fun _ => h0 _ _ (by omega) (by omega)) (fun _ => h0 _ _ (by omega) (by omega)) (fun _ => h0 _ _ (by omega) (by omega)) (fun id k h1 h2 _ => h0 _ _ (by omega) (by omega)) hrc
theorem F38_f (id k : Nat) (h : id ≠ 38) : F38 id k = false := by unfold F38; rw [beq_eq_false_iff_ne]; exact h
theorem c_image (h : Core s b n pl red slip x W S st rc Rs) (hB : BxI s n pl) {q : Int} (q0 : -2147483648 ≤ q) (q1 : q ≤ 2147483647) : ok (f161 0 (iz q) s) (fun r1 => ok (f279 101 (iz q) r1.1) (fun r2 => r2.2 = r1.2 ∧ Core r2.1 b n pl red slip x W S st rc Rs ∧ BxI r2.1 n pl ∧ fr FI s r2.1)) := by
  have hrc := h.rc10
  have hpl := h.p4
  unfold f161 f161_9
  rw [ifg_pos O_0]
  by_cases g : 0 ≤ q ∧ q ≤ 2
  · obtain ⟨r, rfl⟩ : ∃ r : Nat, q = r := ⟨q.toNat, by omega⟩
    have hr : r < 3 := by omega
    have hid := isBq hr
    simp (disch := omega) only [R_0_6, R_0_5, R_0_7, R_0_1, iz0, iz1, iz2, iz3, iz4, iz5, iz7, iz8, iz9, iz10, iz15, iz20, iz25, iz30, iz40, iz49, iz99, iz100, iz300, iz343, iz500, iz999, iz1000, iz1200, iz_add, iz_sub, iz_mul, iz_neg, it_le_t, it_le_f, it_lt_t, it_lt_f, it_eq_t, it_eq_f, bz0, bz1, ifg_T, or_true, true_or, if_true, if_false, Option.bind_some, Option.map_some, AR_37 hr]
    rw [ifg_pos (B_O hid)]
    refine (cl_become hid is33 (by omega) (KC_bx h.1)).bind (fun t1 ⟨a1, a2⟩ => ?_)
    simp (disch := omega) only [W_38, iz0, iz1, iz2, iz3, iz4, iz5, iz7, iz8, iz9, iz10, iz15, iz20, iz25, iz30, iz40, iz49, iz99, iz100, iz300, iz343, iz500, iz999, iz1000, iz1200, iz_add, iz_sub, iz_mul, iz_neg, it_le_t, it_le_f, it_lt_t, it_lt_f, it_eq_t, it_eq_f, bz0, bz1, ifg_T, or_true, true_or, if_true, if_false, Option.bind_some, Option.map_some, iz_in, iz_n, nat_toNat, nb1, ok_some]
    have a3 : fr F38 t1.1 (xm_up t1.1.1 38 r (iz 1), t1.1.2) := (fr.rf _ _).ui rfl
    generalize hS : (xm_up t1.1.1 38 r (iz 1), t1.1.2) = T at a3
    have hT38 : T.1 38 r = iz 1 := by rw [← hS]; dsimp only; exact up_eq _ _ _ _
    have hT38' : ∀ j, j ≠ r → T.1 38 j = s.1 38 j := fun j hj => by rw [← hS]; dsimp only; rw [up_ix _ _ hj, a1.i _ _ (FBm_f (Or.inl (by omega)))]
    have hT2 : xm_up t1.1.1 38 r (iz 1) 3 2 = T.1 3 2 := by rw [← hS]
    rw [hT2]
    have hC : KC T n pl red slip x W S st rc Rs := KC_i (KC_i h.1 a1 hrc (fun id k hi => FBm_f (Or.inl (by omega)))) a3 hrc (fun id k hi => F38_f id k (by omega))
    have hM : KM T b n pl red slip x W S st rc Rs := KM_i (KM_i h.2.1 a1 hrc (fun id k h1 h2 => FBm_f (Or.inr (by omega)))) a3 hrc (fun id k h1 h2 => F38_f id k (by omega))
    have hbx := a2.fr a3 (fun a k h1 h2 => F38_f a k (by omega))
    unfold f279
    rw [ifg_pos O_101]
    simp (disch := omega) only [iz0, iz1, iz2, iz3, iz4, iz5, iz7, iz8, iz9, iz10, iz15, iz20, iz25, iz30, iz40, iz49, iz99, iz100, iz300, iz343, iz500, iz999, iz1000, iz1200, iz_add, iz_sub, iz_mul, iz_neg, it_le_t, it_le_f, it_lt_t, it_lt_f, it_eq_t, it_eq_f, bz0, bz1, ifg_T, or_true, true_or, if_true, if_false, Option.bind_some, Option.map_some, g_in_t]
    refine (mo_keep hM (show r < 4 by omega) hpl).bind (fun t2 ⟨e1, e2, e3⟩ => ?_)
    have hC2 := KC_i hC e1 hrc (fun id k hi => FK_id r id k (Or.inl (by omega)))
    have hM2 := KM_i hM e1 hrc (fun id k h1 h2 => FK_id r id k (Or.inl (by omega)))
    simp only [R_101_12, A_105, hM2.1.b_in, hM2.1.b_nat, hM2.2.1, Option.bind_some, if_true, ok_some]
    refine ⟨hC.1.symm, ⟨hC2, hM2, h.2.2⟩, fun j hj => ?_, ?_⟩
    · by_cases e : j = r
      · subst e
        refine Or.inr ⟨by rw [e1.i _ _ (FK_id j _ _ (Or.inl (by omega)))]; exact hT38, by rw [e3, iz_t (by omega) (by omega)]; omega, x, W, S, st, hbx.fr e1 (fun a k h1 h2 => FK_id j a k (Or.inl (by omega))), e2, h.2.2.2.2.2.2.2.2.2.1, h.2.2.2.2.2.2.2.2.2.2.1⟩
      · have f129 : t2.1.1 129 j = s.1 129 j := by rw [e1.i _ _ (FK_o e).1, a3.i _ _ (F38_f _ _ (by omega)), a1.i _ _ (FBm_f (Or.inr (by omega)))]
        rw [e1.i _ _ (FK_id r _ _ (Or.inl (by omega))), hT38' j e, f129]
        rcases hB j hj with hb | ⟨k1, k2, y, W', S', st', k3, k4, k5⟩
        · exact Or.inl hb
        · refine Or.inr ⟨k1, k2, y, W', S', st', ((k3.fr a1 (fun a k h1 h2 => FBm_f (by omega))).fr a3 (fun a k h1 h2 => F38_f a k (by omega))).fr e1 (fun a k h1 h2 => FK_id r a k (Or.inl (by omega))), ?_, k5⟩
          refine ((k4.fr a1 ⟨FBm_f (Or.inr (by omega)), FBm_f (Or.inr (by omega)), FBm_f (Or.inr (by omega))⟩ (fun k hk => ⟨FBm_f (Or.inr (by omega)), FBm_f (Or.inr (by omega))⟩) (fun k hk => FBm_f (Or.inr (by omega))) (fun k hk => ⟨FBm_f (Or.inr (by omega)), FBm_f (Or.inr (by omega))⟩)).fr a3 ⟨F38_f _ _ (by omega), F38_f _ _ (by omega), F38_f _ _ (by omega)⟩ (fun k hk => ⟨F38_f _ _ (by omega), F38_f _ _ (by omega)⟩) (fun k hk => F38_f _ _ (by omega)) (fun k hk => ⟨F38_f _ _ (by omega), F38_f _ _ (by omega)⟩)).fr e1 ⟨(FK_o e).2.1, (FK_o e).2.2.1, (FK_o e).2.2.2⟩ (fun k hk => FK_o1 e hk) (fun k hk => FK_o2 e hk) (fun k hk => FK_o3 e hk)
    · refine ((a1.mono (fun id k hk => ?_)).tr (a3.mono (fun id k hk => ?_))).tr (e1.mono (fun id k hk => ?_))
      · cases hI : FI id k with
        | true => rfl
        | false =>
          exfalso
          have : id < 89 + 4 * r ∨ 89 + 4 * r + 3 < id := by
            unfold FI at hI
            simp only [Bool.or_eq_false_iff, Bool.and_eq_false_iff] at hI
            rcases hI.1.1 with hI | hI
            · have := Nat.not_le.mp (fun hh => by rw [bleT hh] at hI; exact absurd hI (by decide)) ; omega
            · have := Nat.not_le.mp (fun hh => by rw [bleT hh] at hI; exact absurd hI (by decide)) ; omega
          rw [FBm_f this] at hk
          exact absurd hk (by decide)
      · unfold F38 at hk
        rw [beq_iff_eq] at hk
        subst hk
        rfl
      · cases hI : FI id k with
        | true => rfl
        | false =>
          exfalso
          have : id < 129 ∨ 137 < id := by
            unfold FI at hI
            simp only [Bool.or_eq_false_iff, Bool.and_eq_false_iff] at hI
            rcases hI.2 with hI | hI
            · have := Nat.not_le.mp (fun hh => by rw [bleT hh] at hI; exact absurd hI (by decide)) ; omega
            · have := Nat.not_le.mp (fun hh => by rw [bleT hh] at hI; exact absurd hI (by decide)) ; omega
          rw [FK_id r id k this] at hk
          exact absurd hk (by decide)
  · have fin : ok (f279 101 (iz q) s) (fun r2 => r2.2 = iz (-1) ∧ Core r2.1 b n pl red slip x W S st rc Rs ∧ BxI r2.1 n pl ∧ fr FI s r2.1) := by
      unfold f279
      rw [ifg_pos O_101]
      simp (disch := omega) only [iz0, iz1, iz2, iz3, iz4, iz5, iz7, iz8, iz9, iz10, iz15, iz20, iz25, iz30, iz40, iz49, iz99, iz100, iz300, iz343, iz500, iz999, iz1000, iz1200, iz_add, iz_sub, iz_mul, iz_neg, it_le_t, it_le_f, it_lt_t, it_lt_f, it_eq_t, it_eq_f, bz0, bz1, ifg_T, or_true, true_or, if_true, if_false, Option.bind_some, Option.map_some, g_in_f, ok_some, true_and]
      exact ⟨h, hB, fr.rf _ _⟩
    by_cases g1 : 0 ≤ q
    · simp (disch := omega) only [iz0, iz1, iz2, iz3, iz4, iz5, iz7, iz8, iz9, iz10, iz15, iz20, iz25, iz30, iz40, iz49, iz99, iz100, iz300, iz343, iz500, iz999, iz1000, iz1200, iz_add, iz_sub, iz_mul, iz_neg, it_le_t, it_le_f, it_lt_t, it_lt_f, it_eq_t, it_eq_f, bz0, bz1, ifg_T, or_true, true_or, if_true, if_false, Option.bind_some, Option.map_some, ok_some]
      exact fin
    · simp (disch := omega) only [iz0, iz1, iz2, iz3, iz4, iz5, iz7, iz8, iz9, iz10, iz15, iz20, iz25, iz30, iz40, iz49, iz99, iz100, iz300, iz343, iz500, iz999, iz1000, iz1200, iz_add, iz_sub, iz_mul, iz_neg, it_le_t, it_le_f, it_lt_t, it_lt_f, it_eq_t, it_eq_f, bz0, bz1, ifg_T, or_true, true_or, if_true, if_false, Option.bind_some, Option.map_some, ok_some]
      exact fin
/-- back: what box is kept comes -/
theorem c_back (h : Core s b n pl red slip x W S st rc Rs) (hB : BxI s n pl) {q : Int} (q0 : -2147483648 ≤ q) (q1 : q ≤ 2147483647) : ok (f162 0 (iz q) s) (fun r1 => ok (f280 101 (iz q) r1.1) (fun r2 => r2.2 = r1.2 ∧ ChP s r2.1 b n pl red slip rc Rs)) := by
  have hrc := h.rc10
  have hpl := h.p4
  unfold f162 f162_18
  rw [ifg_pos O_0]
  by_cases g : 0 ≤ q ∧ q ≤ 2
  · obtain ⟨r, rfl⟩ : ∃ r : Nat, q = r := ⟨q.toNat, by omega⟩
    have hr : r < 3 := by omega
    have hid := isBq hr
    rcases hB r hr with ⟨k1, k2⟩ | ⟨k1, k2, y, W', S', st', k3, k4, k5, k6⟩
    · simp (disch := omega) only [R_0_7, A_38, iz0, iz1, iz2, iz3, iz4, iz5, iz7, iz8, iz9, iz10, iz15, iz20, iz25, iz30, iz40, iz49, iz99, iz100, iz300, iz343, iz500, iz999, iz1000, iz1200, iz_add, iz_sub, iz_mul, iz_neg, it_le_t, it_le_f, it_lt_t, it_lt_f, it_eq_t, it_eq_f, bz0, bz1, ifg_T, or_true, true_or, if_true, if_false, Option.bind_some, Option.map_some, iz_in, iz_n, nat_toNat, k1, ok_some]
      unfold f280 f280_18
      rw [ifg_pos O_101]
      simp (disch := omega) only [R_101_52, A_129, iz0, iz1, iz2, iz3, iz4, iz5, iz7, iz8, iz9, iz10, iz15, iz20, iz25, iz30, iz40, iz49, iz99, iz100, iz300, iz343, iz500, iz999, iz1000, iz1200, iz_add, iz_sub, iz_mul, iz_neg, it_le_t, it_le_f, it_lt_t, it_lt_f, it_eq_t, it_eq_f, bz0, bz1, ifg_T, or_true, true_or, if_true, if_false, Option.bind_some, Option.map_some, iz_in, iz_n, nat_toNat, g_in_t, k2, ok_some, true_and]
      exact Or.inl (fr.rf _ _)
    · obtain ⟨z, hz⟩ : ∃ z : Int, s.1 129 r = iz z ∧ 0 ≤ z ∧ z ≤ 2147483647 := ⟨(s.1 129 r).toInt, (iz_self _).symm, k2, (i_bd _).2⟩
      simp (disch := omega) only [R_0_7, R_0_6, R_0_5, R_0_1, A_38, iz0, iz1, iz2, iz3, iz4, iz5, iz7, iz8, iz9, iz10, iz15, iz20, iz25, iz30, iz40, iz49, iz99, iz100, iz300, iz343, iz500, iz999, iz1000, iz1200, iz_add, iz_sub, iz_mul, iz_neg, it_le_t, it_le_f, it_lt_t, it_lt_f, it_eq_t, it_eq_f, bz0, bz1, ifg_T, or_true, true_or, if_true, if_false, Option.bind_some, Option.map_some, iz_in, iz_n, nat_toNat, k1, AR_37 hr]
      rw [ifg_pos (B_O hid)]
      refine (cl_become is33 hid (by omega) k3).bind (fun t1 ⟨a1, a2⟩ => ?_)
      refine (cl_changed t1.1).bind (fun t2 ⟨b1, b2⟩ => ?_)
      rw [ok_some]
      have hC1 := KC_becomes h.1 a1 a2 hrc
      have hC2 := KC_H hC1 b1 hrc
      have hM1 : KM t1.1 b n pl red slip x W S st rc Rs := KM_i h.2.1 a1 hrc (fun id k h1 h2 => FBm_f (Or.inr (by omega)))
      have hM2 := KM_H hM1 b1 hrc
      have e129 : t2.1.1 129 r = iz z := by rw [b1.i _ _ rfl, a1.i _ _ (FBm_f (Or.inr (by omega)))]; exact hz.1
      have k4' := (k4.fr a1 ⟨FBm_f (Or.inr (by omega)), FBm_f (Or.inr (by omega)), FBm_f (Or.inr (by omega))⟩ (fun k hk => ⟨FBm_f (Or.inr (by omega)), FBm_f (Or.inr (by omega))⟩) (fun k hk => FBm_f (Or.inr (by omega))) (fun k hk => ⟨FBm_f (Or.inr (by omega)), FBm_f (Or.inr (by omega))⟩)).fr b1 ⟨rfl, rfl, rfl⟩ (fun k hk => ⟨rfl, rfl⟩) (fun k hk => rfl) (fun k hk => ⟨rfl, rfl⟩)
      unfold f280
      rw [ifg_pos O_101]
      simp (disch := omega) only [R_101_52, A_129, iz0, iz1, iz2, iz3, iz4, iz5, iz7, iz8, iz9, iz10, iz15, iz20, iz25, iz30, iz40, iz49, iz99, iz100, iz300, iz343, iz500, iz999, iz1000, iz1200, iz_add, iz_sub, iz_mul, iz_neg, it_le_t, it_le_f, it_lt_t, it_lt_f, it_eq_t, it_eq_f, bz0, bz1, ifg_T, or_true, true_or, if_true, if_false, Option.bind_some, Option.map_some, iz_in, iz_n, nat_toNat, g_in_t, e129]
      refine (mo_bring hM2 (show r < 4 by omega) k4').bind (fun t3 ⟨d1, d2⟩ => ?_)
      simp only [R_101_12, A_105, d2.1.b_in, d2.1.b_nat, d2.2.1, Option.bind_some, if_true, ok_some]
      refine ⟨hC2.1.symm, Or.inr ⟨((a1.mono (fun id k hk => ?_)).tr (b1.mono FH_A)).tr (d1.mono (fun id k hk => ?_)), b2.fr d1 rfl rfl rfl rfl, y, W', S', st', ?_, d2, ?_⟩⟩
      · unfold FBm at hk
        simp only [Bool.or_eq_true, beq_iff_eq] at hk
        unfold FA
        rcases hk with ((rfl | rfl) | rfl) | rfl <;> simp only [Bool.or_true, Bool.true_or, beq_self_eq_true]
      · unfold FG at hk
        simp only [Bool.or_eq_true, Bool.and_eq_true, beq_iff_eq] at hk
        unfold FA
        rcases hk with ((((⟨rfl, -⟩ | ⟨rfl, -⟩) | rfl) | rfl) | rfl) | ⟨rfl, (rfl | rfl) | rfl⟩
        · rfl
        all_goals first | rfl | simp only [Bool.or_true, Bool.true_or, beq_self_eq_true]
      · refine KC_i hC2 d1 hrc (fun id k hi => ?_)
        unfold FG
        rw [show (id == 113) = false by rw [beq_eq_false_iff_ne]; omega, show (id == 114) = false by rw [beq_eq_false_iff_ne]; omega, show (id == 115) = false by rw [beq_eq_false_iff_ne]; omega, show (id == 116) = false by rw [beq_eq_false_iff_ne]; omega, show (id == 117) = false by rw [beq_eq_false_iff_ne]; omega, show (id == 101) = false by rw [beq_eq_false_iff_ne]; omega]
        rfl
      · obtain ⟨a1, a2, a3, a4, a5, a6, a7, a8, a9, a10, a11⟩ := h.2.2
        exact ⟨a1, a2, a3, a4, a5, a6, a7, k5, k6, a10, a11⟩
  · have fin : ok (f280 101 (iz q) s) (fun r2 => r2.2 = iz (-1) ∧ ChP s r2.1 b n pl red slip rc Rs) := by
      unfold f280 f280_18
      rw [ifg_pos O_101]
      simp (disch := omega) only [iz0, iz1, iz2, iz3, iz4, iz5, iz7, iz8, iz9, iz10, iz15, iz20, iz25, iz30, iz40, iz49, iz99, iz100, iz300, iz343, iz500, iz999, iz1000, iz1200, iz_add, iz_sub, iz_mul, iz_neg, it_le_t, it_le_f, it_lt_t, it_lt_f, it_eq_t, it_eq_f, bz0, bz1, ifg_T, or_true, true_or, if_true, if_false, Option.bind_some, Option.map_some, g_in_f, ok_some, true_and]
      exact Or.inl (fr.rf _ _)
    by_cases g1 : 0 ≤ q
    · simp (disch := omega) only [iz0, iz1, iz2, iz3, iz4, iz5, iz7, iz8, iz9, iz10, iz15, iz20, iz25, iz30, iz40, iz49, iz99, iz100, iz300, iz343, iz500, iz999, iz1000, iz1200, iz_add, iz_sub, iz_mul, iz_neg, it_le_t, it_le_f, it_lt_t, it_lt_f, it_eq_t, it_eq_f, bz0, bz1, ifg_T, or_true, true_or, if_true, if_false, Option.bind_some, Option.map_some, ok_some]
      exact fin
    · simp (disch := omega) only [iz0, iz1, iz2, iz3, iz4, iz5, iz7, iz8, iz9, iz10, iz15, iz20, iz25, iz30, iz40, iz49, iz99, iz100, iz300, iz343, iz500, iz999, iz1000, iz1200, iz_add, iz_sub, iz_mul, iz_neg, it_le_t, it_le_f, it_lt_t, it_lt_f, it_eq_t, it_eq_f, bz0, bz1, ifg_T, or_true, true_or, if_true, if_false, Option.bind_some, Option.map_some, ok_some]
      exact fin
end IM
