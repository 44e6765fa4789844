/-! hands: cut, clear, fits, tight -/
def letB (m : Nat) (A T : Nat → Int) (f sl : Int) : Bool := (List.range m).all (fun k => decide ((A k * f).tdiv 10 ≤ T k) && decide (T k ≤ (A k * f).tdiv 10 + sl))
def cI (m : Nat) (A T : Nat → Int) (sl : Nat) : Nat → Nat
  | 0 => 0
  | f + 1 => cI m A T sl f + (if letB m A T ((f + 1 : Nat) : Int) sl = true then 1 else 0)
def cO (m : Nat) (A T : Nat → Int) : Nat → Nat
  | 0 => 0
  | sl + 1 => cO m A T sl + cI m A T sl 30
theorem cI_le (m : Nat) (A T : Nat → Int) (sl f : Nat) : cI m A T sl f ≤ f := by
  induction f with
  | zero => exact Nat.le_refl _
  | succ f ih => simp only [cI]; split <;> omega
theorem cO_le (m : Nat) (A T : Nat → Int) (sl : Nat) : cO m A T sl ≤ 30 * sl := by
  induction sl with
  | zero => exact Nat.le_refl _
  | succ sl ih => have := cI_le m A T sl 30; simp only [cO]; omega
/-- the first pair that lets all -/
def tgt (m : Nat) (A T : Nat → Int) (w : Int) (v : Int32) : Prop := (∃ sl f : Nat, sl ≤ 5 ∧ 1 ≤ f ∧ f ≤ 30 ∧ letB m A T f sl = true ∧ (∀ sl' f' : Nat, 1 ≤ f' → f' ≤ 30 → (sl' < sl ∨ (sl' = sl ∧ f' < f)) → ¬ letB m A T f' sl' = true) ∧ v = if w = 0 then iz sl else iz f) ∨ (v = iz (-1) ∧ ∀ sl f : Nat, sl ≤ 5 → 1 ≤ f → f ≤ 30 → ¬ letB m A T f sl = true)
theorem tgt_u {m : Nat} {A T : Nat → Int} {w : Int} {v v' : Int32} (h : tgt m A T w v) (h' : tgt m A T w v') : v = v' := by
  rcases h with ⟨sl, f, a1, a2, a3, a4, a5, a6⟩ | ⟨a1, a2⟩
  · rcases h' with ⟨sl', f', b1, b2, b3, b4, b5, b6⟩ | ⟨b1, b2⟩
    · have e : sl = sl' ∧ f = f' := by
        by_cases q : sl' < sl ∨ (sl' = sl ∧ f' < f)
        · exact absurd b4 (a5 sl' f' b2 b3 q)
        · by_cases q2 : sl < sl' ∨ (sl = sl' ∧ f < f')
          · exact absurd a4 (b5 sl f a2 a3 q2)
          · omega
      rw [a6, b6, e.1, e.2]
    · exact absurd a4 (b2 sl f a1 a2 a3)
  · rcases h' with ⟨sl', f', b1, b2, b3, b4, b5, b6⟩ | ⟨b1, b2⟩
    · exact absurd b4 (a2 sl' f' b1 b2 b3)
    · rw [a1, b1]
/-- cuts, as one side holds them -/
def Ct (s : xS) (o k ia it m : Nat) (A T : Nat → Int) : Prop := m ≤ 40 ∧ s.1 o k = iz m ∧ ∀ j, j < m → s.1 ia j = iz (A j) ∧ s.1 it j = iz (T j) ∧ 1 ≤ A j ∧ A j ≤ 9 ∧ 0 ≤ T j ∧ T j ≤ 99
section HA
variable {s : xS} {m : Nat} {A T : Nat → Int}
theorem hc_let (h : Ct s 86 2 87 88 m A T) {f sl : Nat} (hf : f ≤ 30) (hs : sl ≤ 5) : f22 86 (iz f) (iz sl) s = some (s, if letB m A T f sl = true then iz 1 else iz 0) := by
  obtain ⟨m40, h0, hk⟩ := h
  have key : ok (f22 86 (iz f) (iz sl) s) (fun r => r = (s, if letB m A T f sl = true then iz 1 else iz 0)) := by
    unfold f22
    rw [ifg_pos O_86]
    simp only [iz0]
    refine forz (fun j w => w = s ∧ ∀ i, i < j → (A i * f).tdiv 10 ≤ T i ∧ T i ≤ (A i * f).tdiv 10 + sl) 0 m (by omega) (by omega) ⟨rfl, fun i hi => by omega⟩ (fun j w _ hj ⟨e1, e2⟩ => ?_) (fun w ⟨e1, e2⟩ => ?_)
    · subst e1
      obtain ⟨g1, g2, g3, g4, g5, g6⟩ := hk j hj
      have hm := mbd (B := 9) (C := 30) (x := A j) (y := (f : Int)) (by omega) g4 (by omega) (by omega)
      have hnn : 0 ≤ A j * f := Int.mul_nonneg (by omega) (by omega)
      have hd := td_bd (x := A j * f) (y := 10) (by omega)
      have hd1 := hd.1 hnn
      have bad : ¬ ((A j * f).tdiv 10 ≤ T j ∧ T j ≤ (A j * f).tdiv 10 + sl) → ¬ letB m A T f sl = true := by
        intro q r
        unfold letB at r
        rw [List.all_eq_true] at r
        have := r j (List.mem_range.mpr hj)
        simp only [Bool.and_eq_true, decide_eq_true_eq] at this
        exact q this
      unfold f22_2 f22_47
      simp (disch := omega) only [R_86_0, R_86_1, A_87, A_88, h0, iz0, iz1, iz2, iz3, iz4, iz5, iz7, iz8, iz9, iz10, iz15, iz20, iz25, iz30, iz40, iz49, iz99, iz100, iz300, iz343, iz500, iz999, iz1000, iz1200, iz_add, iz_sub, iz_mul, iz_neg, it_le_t, it_le_f, it_lt_t, it_lt_f, it_eq_t, it_eq_f, bz0, bz1, ifg_T, or_true, true_or, if_true, if_false, Option.bind_some, Option.map_some, iz_in, iz_n, nat_toNat, g1, g2, iz_div]
      by_cases q1 : (A j * f).tdiv 10 ≤ T j
      · rw [it_lt_f q1 (by omega) (by omega)]
        by_cases q2 : T j ≤ (A j * f).tdiv 10 + sl
        · rw [it_le_t q2 (by omega) (by omega)]
          simp only [ok_some, ok_map, lp_l, lp_r, lpA_l, lpA_r, true_and]
          intro i hi
          by_cases e : i = j
          · rw [e]; exact ⟨q1, q2⟩
          · exact e2 i (by omega)
        · rw [it_le_f (by omega) (by omega) (by omega)]
          simp only [ok_some, ok_map, lp_l, lp_r, lpA_l, lpA_r, true_and]
          rw [if_neg (bad (fun r => q2 r.2))]
      · rw [it_lt_t (by omega) (by omega) (by omega)]
        simp only [ok_some, ok_map, lp_l, lp_r, lpA_l, lpA_r, true_and]
        rw [if_neg (bad (fun r => q1 r.1))]
    · subst e1
      unfold f22_2
      simp (disch := omega) only [h0, iz0, iz1, iz2, iz3, iz4, iz5, iz7, iz8, iz9, iz10, iz15, iz20, iz25, iz30, iz40, iz49, iz99, iz100, iz300, iz343, iz500, iz999, iz1000, iz1200, iz_add, iz_sub, iz_mul, iz_neg, it_le_t, it_le_f, it_lt_t, it_lt_f, it_eq_t, it_eq_f, bz0, bz1, ifg_T, or_true, true_or, if_true, if_false, Option.bind_some, Option.map_some, ok_some, ok_map, lp_l, lp_r, lpA_l, lpA_r, true_and]
      have : letB m A T f sl = true := by
        unfold letB
        rw [List.all_eq_true]
        intro i hi
        have := e2 i (List.mem_range.mp hi)
        simp only [Bool.and_eq_true, decide_eq_true_eq]
        exact this
      rw [if_pos this]
  obtain ⟨r, e1, e2⟩ := key
  rw [e1, e2]
theorem hc_fits (h : Ct s 86 2 87 88 m A T) : f23 86 s = some (s, iz (cO m A T 6)) := by
  have key : ok (f23 86 s) (fun r => r = (s, iz (cO m A T 6))) := by
    unfold f23
    rw [ifg_pos O_86]
    simp only [iz0]
    refine forzA (A := Int32) (fun sl L w => w = s ∧ L = iz (cO m A T sl)) 0 6 (by omega) (by omega) ⟨rfl, rfl⟩ (fun sl L w _ hsl ⟨e1, e2⟩ => ?_) (fun L w ⟨e1, e2⟩ => ?_)
    · subst e1 e2
      have b1 := cO_le m A T sl
      unfold f23_4
      simp (disch := omega) only [iz0, iz1, iz2, iz3, iz4, iz5, iz7, iz8, iz9, iz10, iz15, iz20, iz25, iz30, iz40, iz49, iz99, iz100, iz300, iz343, iz500, iz999, iz1000, iz1200, iz_add, iz_sub, iz_mul, iz_neg, it_le_t, it_le_f, it_lt_t, it_lt_f, it_eq_t, it_eq_f, bz0, bz1, ifg_T, or_true, true_or, if_true, if_false, Option.bind_some, Option.map_some]
      have hin := forzA (A := Int32) (body := fun q : (Int32 × Int32 × xS) => f23_11 86 q.1 (iz sl) q.2.1 q.2.2) (fun f L u => u = w ∧ L = iz ((cO m A T sl : Nat) + (cI m A T sl (f - 1) : Nat) : Int)) 1 31 (Q := fun r : (Int32 × Int32 × xS) ⊕ (xS × Int32) => r = .inl (iz ((cO m A T sl : Nat) + (cI m A T sl 30 : Nat) : Int), iz ((sl : Int) + 1), w)) (c0 := iz (cO m A T sl)) (s0 := w) (by omega) (by omega) ⟨rfl, by show iz (cO m A T sl) = iz ((cO m A T sl : Int) + (0 : Nat)); congr 1⟩ (fun f L u hf1 hf ⟨u1, u2⟩ => ?_) (fun L u ⟨u1, u2⟩ => ?_)
      · refine hin.mono (fun r hr => ?_)
        subst hr
        refine ⟨rfl, rfl, ?_⟩
        rw [cO]
        rfl
      · subst u1 u2
        have e3 := hc_let h (f := f) (sl := sl) (by omega) (by omega)
        have b2 := cI_le m A T sl (f - 1)
        obtain ⟨g, rfl⟩ : ∃ g, f = g + 1 := ⟨f - 1, by omega⟩
        unfold f23_11 f23_29
        simp (disch := omega) only [iz0, iz1, iz2, iz3, iz4, iz5, iz7, iz8, iz9, iz10, iz15, iz20, iz25, iz30, iz40, iz49, iz99, iz100, iz300, iz343, iz500, iz999, iz1000, iz1200, iz_add, iz_sub, iz_mul, iz_neg, it_le_t, it_le_f, it_lt_t, it_lt_f, it_eq_t, it_eq_f, bz0, bz1, ifg_T, or_true, true_or, if_true, if_false, Option.bind_some, Option.map_some, e3]
        simp only [Nat.add_sub_cancel] at b2 ⊢
        by_cases q : letB m A T ((g + 1 : Nat) : Int) sl = true
        · rw [if_pos q]
          simp (disch := omega) only [iz0, iz1, iz2, iz3, iz4, iz5, iz7, iz8, iz9, iz10, iz15, iz20, iz25, iz30, iz40, iz49, iz99, iz100, iz300, iz343, iz500, iz999, iz1000, iz1200, iz_add, iz_sub, iz_mul, iz_neg, it_le_t, it_le_f, it_lt_t, it_lt_f, it_eq_t, it_eq_f, bz0, bz1, ifg_T, or_true, true_or, if_true, if_false, Option.bind_some, Option.map_some, ok_some, ok_map, lp_l, lp_r, lpA_l, lpA_r, true_and]
          rw [cI, if_pos q]
          congr 1
        · rw [if_neg q]
          simp (disch := omega) only [iz0, iz1, iz2, iz3, iz4, iz5, iz7, iz8, iz9, iz10, iz15, iz20, iz25, iz30, iz40, iz49, iz99, iz100, iz300, iz343, iz500, iz999, iz1000, iz1200, iz_add, iz_sub, iz_mul, iz_neg, it_le_t, it_le_f, it_lt_t, it_lt_f, it_eq_t, it_eq_f, bz0, bz1, ifg_T, or_true, true_or, if_true, if_false, Option.bind_some, Option.map_some, ok_some, ok_map, lp_l, lp_r, lpA_l, lpA_r, true_and]
          rw [cI, if_neg q]
          congr 1
      · subst u1 u2
        unfold f23_11
        simp (disch := omega) only [iz0, iz1, iz2, iz3, iz4, iz5, iz7, iz8, iz9, iz10, iz15, iz20, iz25, iz30, iz40, iz49, iz99, iz100, iz300, iz343, iz500, iz999, iz1000, iz1200, iz_add, iz_sub, iz_mul, iz_neg, it_le_t, it_le_f, it_lt_t, it_lt_f, it_eq_t, it_eq_f, bz0, bz1, ifg_T, or_true, true_or, if_true, if_false, Option.bind_some, Option.map_some, ok_some, ok_map, lp_l, lp_r, lpA_l, lpA_r, true_and]
    · subst e1 e2
      unfold f23_4
      simp (disch := omega) only [iz0, iz1, iz2, iz3, iz4, iz5, iz7, iz8, iz9, iz10, iz15, iz20, iz25, iz30, iz40, iz49, iz99, iz100, iz300, iz343, iz500, iz999, iz1000, iz1200, iz_add, iz_sub, iz_mul, iz_neg, it_le_t, it_le_f, it_lt_t, it_lt_f, it_eq_t, it_eq_f, bz0, bz1, ifg_T, or_true, true_or, if_true, if_false, Option.bind_some, Option.map_some, ok_some, ok_map, lp_l, lp_r, lpA_l, lpA_r, true_and]
  obtain ⟨r, e1, e2⟩ := key
  rw [e1, e2]
theorem hm_let (h : Ct s 101 74 144 145 m A T) {f sl : Nat} (hf : f ≤ 30) (hs : sl ≤ 5) : f275 101 (iz f) (iz sl) s = some (s, if letB m A T f sl = true then iz 1 else iz 0) := by
  obtain ⟨m40, h0, hk⟩ := h
  have key : ok (f275 101 (iz f) (iz sl) s) (fun r => r = (s, if letB m A T f sl = true then iz 1 else iz 0)) := by
    unfold f275
    rw [ifg_pos O_101]
    simp only [iz0]
    refine forz (fun j w => w = s ∧ ∀ i, i < j → (A i * f).tdiv 10 ≤ T i ∧ T i ≤ (A i * f).tdiv 10 + sl) 0 m (by omega) (by omega) ⟨rfl, fun i hi => by omega⟩ (fun j w _ hj ⟨e1, e2⟩ => ?_) (fun w ⟨e1, e2⟩ => ?_)
    · subst e1
      obtain ⟨g1, g2, g3, g4, g5, g6⟩ := hk j hj
      have hm := mbd (B := 9) (C := 30) (x := A j) (y := (f : Int)) (by omega) g4 (by omega) (by omega)
      have hnn : 0 ≤ A j * f := Int.mul_nonneg (by omega) (by omega)
      have hd := td_bd (x := A j * f) (y := 10) (by omega)
      have hd1 := hd.1 hnn
      have bad : ¬ ((A j * f).tdiv 10 ≤ T j ∧ T j ≤ (A j * f).tdiv 10 + sl) → ¬ letB m A T f sl = true := by
        intro q r
        unfold letB at r
        rw [List.all_eq_true] at r
        have := r j (List.mem_range.mpr hj)
        simp only [Bool.and_eq_true, decide_eq_true_eq] at this
        exact q this
      unfold f275_2 f275_47
      simp (disch := omega) only [R_101_72, R_101_73, A_144, A_145, h0, iz0, iz1, iz2, iz3, iz4, iz5, iz7, iz8, iz9, iz10, iz15, iz20, iz25, iz30, iz40, iz49, iz99, iz100, iz300, iz343, iz500, iz999, iz1000, iz1200, iz_add, iz_sub, iz_mul, iz_neg, it_le_t, it_le_f, it_lt_t, it_lt_f, it_eq_t, it_eq_f, bz0, bz1, ifg_T, or_true, true_or, if_true, if_false, Option.bind_some, Option.map_some, iz_in, iz_n, nat_toNat, g1, g2, iz_div]
      by_cases q1 : (A j * f).tdiv 10 ≤ T j
      · rw [it_lt_f q1 (by omega) (by omega)]
        by_cases q2 : T j ≤ (A j * f).tdiv 10 + sl
        · rw [it_le_t q2 (by omega) (by omega)]
          simp only [ok_some, ok_map, lp_l, lp_r, lpA_l, lpA_r, true_and]
          intro i hi
          by_cases e : i = j
          · rw [e]; exact ⟨q1, q2⟩
          · exact e2 i (by omega)
        · rw [it_le_f (by omega) (by omega) (by omega)]
          simp only [ok_some, ok_map, lp_l, lp_r, lpA_l, lpA_r, true_and]
          rw [if_neg (bad (fun r => q2 r.2))]
      · rw [it_lt_t (by omega) (by omega) (by omega)]
        simp only [ok_some, ok_map, lp_l, lp_r, lpA_l, lpA_r, true_and]
        rw [if_neg (bad (fun r => q1 r.1))]
    · subst e1
      unfold f275_2
      simp (disch := omega) only [h0, iz0, iz1, iz2, iz3, iz4, iz5, iz7, iz8, iz9, iz10, iz15, iz20, iz25, iz30, iz40, iz49, iz99, iz100, iz300, iz343, iz500, iz999, iz1000, iz1200, iz_add, iz_sub, iz_mul, iz_neg, it_le_t, it_le_f, it_lt_t, it_lt_f, it_eq_t, it_eq_f, bz0, bz1, ifg_T, or_true, true_or, if_true, if_false, Option.bind_some, Option.map_some, ok_some, ok_map, lp_l, lp_r, lpA_l, lpA_r, true_and]
      have : letB m A T f sl = true := by
        unfold letB
        rw [List.all_eq_true]
        intro i hi
        have := e2 i (List.mem_range.mp hi)
        simp only [Bool.and_eq_true, decide_eq_true_eq]
        exact this
      rw [if_pos this]
  obtain ⟨r, e1, e2⟩ := key
  rw [e1, e2]
theorem hm_fits (h : Ct s 101 74 144 145 m A T) : f276 101 s = some (s, iz (cO m A T 6)) := by
  have key : ok (f276 101 s) (fun r => r = (s, iz (cO m A T 6))) := by
    unfold f276
    rw [ifg_pos O_101]
    simp only [iz0]
    refine forzA (A := Int32) (fun sl L w => w = s ∧ L = iz (cO m A T sl)) 0 6 (by omega) (by omega) ⟨rfl, rfl⟩ (fun sl L w _ hsl ⟨e1, e2⟩ => ?_) (fun L w ⟨e1, e2⟩ => ?_)
    · subst e1 e2
      have b1 := cO_le m A T sl
      unfold f276_4
      simp (disch := omega) only [iz0, iz1, iz2, iz3, iz4, iz5, iz7, iz8, iz9, iz10, iz15, iz20, iz25, iz30, iz40, iz49, iz99, iz100, iz300, iz343, iz500, iz999, iz1000, iz1200, iz_add, iz_sub, iz_mul, iz_neg, it_le_t, it_le_f, it_lt_t, it_lt_f, it_eq_t, it_eq_f, bz0, bz1, ifg_T, or_true, true_or, if_true, if_false, Option.bind_some, Option.map_some]
      have hin := forzA (A := Int32) (body := fun q : (Int32 × Int32 × xS) => f276_11 101 q.1 (iz sl) q.2.1 q.2.2) (fun f L u => u = w ∧ L = iz ((cO m A T sl : Nat) + (cI m A T sl (f - 1) : Nat) : Int)) 1 31 (Q := fun r : (Int32 × Int32 × xS) ⊕ (xS × Int32) => r = .inl (iz ((cO m A T sl : Nat) + (cI m A T sl 30 : Nat) : Int), iz ((sl : Int) + 1), w)) (c0 := iz (cO m A T sl)) (s0 := w) (by omega) (by omega) ⟨rfl, by show iz (cO m A T sl) = iz ((cO m A T sl : Int) + (0 : Nat)); congr 1⟩ (fun f L u hf1 hf ⟨u1, u2⟩ => ?_) (fun L u ⟨u1, u2⟩ => ?_)
      · refine hin.mono (fun r hr => ?_)
        subst hr
        refine ⟨rfl, rfl, ?_⟩
        rw [cO]
        rfl
      · subst u1 u2
        have e3 := hm_let h (f := f) (sl := sl) (by omega) (by omega)
        have b2 := cI_le m A T sl (f - 1)
        obtain ⟨g, rfl⟩ : ∃ g, f = g + 1 := ⟨f - 1, by omega⟩
        unfold f276_11 f276_32
        simp (disch := omega) only [iz0, iz1, iz2, iz3, iz4, iz5, iz7, iz8, iz9, iz10, iz15, iz20, iz25, iz30, iz40, iz49, iz99, iz100, iz300, iz343, iz500, iz999, iz1000, iz1200, iz_add, iz_sub, iz_mul, iz_neg, it_le_t, it_le_f, it_lt_t, it_lt_f, it_eq_t, it_eq_f, bz0, bz1, ifg_T, or_true, true_or, if_true, if_false, Option.bind_some, Option.map_some, e3]
        simp only [Nat.add_sub_cancel] at b2 ⊢
        by_cases q : letB m A T ((g + 1 : Nat) : Int) sl = true
        · rw [if_pos q]
          simp (disch := omega) only [iz0, iz1, iz2, iz3, iz4, iz5, iz7, iz8, iz9, iz10, iz15, iz20, iz25, iz30, iz40, iz49, iz99, iz100, iz300, iz343, iz500, iz999, iz1000, iz1200, iz_add, iz_sub, iz_mul, iz_neg, it_le_t, it_le_f, it_lt_t, it_lt_f, it_eq_t, it_eq_f, bz0, bz1, ifg_T, or_true, true_or, if_true, if_false, Option.bind_some, Option.map_some, ok_some, ok_map, lp_l, lp_r, lpA_l, lpA_r, true_and]
          rw [cI, if_pos q]
          congr 1
        · rw [if_neg q]
          simp (disch := omega) only [iz0, iz1, iz2, iz3, iz4, iz5, iz7, iz8, iz9, iz10, iz15, iz20, iz25, iz30, iz40, iz49, iz99, iz100, iz300, iz343, iz500, iz999, iz1000, iz1200, iz_add, iz_sub, iz_mul, iz_neg, it_le_t, it_le_f, it_lt_t, it_lt_f, it_eq_t, it_eq_f, bz0, bz1, ifg_T, or_true, true_or, if_true, if_false, Option.bind_some, Option.map_some, ok_some, ok_map, lp_l, lp_r, lpA_l, lpA_r, true_and]
          rw [cI, if_neg q]
          congr 1
      · subst u1 u2
        unfold f276_11
        simp (disch := omega) only [iz0, iz1, iz2, iz3, iz4, iz5, iz7, iz8, iz9, iz10, iz15, iz20, iz25, iz30, iz40, iz49, iz99, iz100, iz300, iz343, iz500, iz999, iz1000, iz1200, iz_add, iz_sub, iz_mul, iz_neg, it_le_t, it_le_f, it_lt_t, it_lt_f, it_eq_t, it_eq_f, bz0, bz1, ifg_T, or_true, true_or, if_true, if_false, Option.bind_some, Option.map_some, ok_some, ok_map, lp_l, lp_r, lpA_l, lpA_r, true_and]
    · subst e1 e2
      unfold f276_4
      simp (disch := omega) only [iz0, iz1, iz2, iz3, iz4, iz5, iz7, iz8, iz9, iz10, iz15, iz20, iz25, iz30, iz40, iz49, iz99, iz100, iz300, iz343, iz500, iz999, iz1000, iz1200, iz_add, iz_sub, iz_mul, iz_neg, it_le_t, it_le_f, it_lt_t, it_lt_f, it_eq_t, it_eq_f, bz0, bz1, ifg_T, or_true, true_or, if_true, if_false, Option.bind_some, Option.map_some, ok_some, ok_map, lp_l, lp_r, lpA_l, lpA_r, true_and]
  obtain ⟨r, e1, e2⟩ := key
  rw [e1, e2]
theorem hc_tight (h : Ct s 86 2 87 88 m A T) {w : Int} (hw : w = 0 ∨ w = 1) : ok (whl (fun q : (Int32 × xS) => f24_2 86 (if w = 0 then iz 1 else iz 0) q.1 q.2) (iz 0, s)) (fun r => r.1 = s ∧ tgt m A T w r.2) := by
  refine forz (fun sl u => u = s ∧ ∀ sl' f' : Nat, sl' < sl → 1 ≤ f' → f' ≤ 30 → ¬ letB m A T f' sl' = true) 0 6 (by omega) (by omega) ⟨rfl, fun sl' f' q => by omega⟩ (fun sl u _ hsl ⟨e1, e2⟩ => ?_) (fun u ⟨e1, e2⟩ => ?_)
  · subst e1
    unfold f24_2
    simp (disch := omega) only [iz0, iz1, iz2, iz3, iz4, iz5, iz7, iz8, iz9, iz10, iz15, iz20, iz25, iz30, iz40, iz49, iz99, iz100, iz300, iz343, iz500, iz999, iz1000, iz1200, iz_add, iz_sub, iz_mul, iz_neg, it_le_t, it_le_f, it_lt_t, it_lt_f, it_eq_t, it_eq_f, bz0, bz1, ifg_T, or_true, true_or, if_true, if_false, Option.bind_some, Option.map_some]
    have hin := forz (body := fun q : (Int32 × xS) => f24_9 86 (if w = 0 then iz 1 else iz 0) (iz sl) q.1 q.2) (fun f v => v = u ∧ ∀ f' : Nat, 1 ≤ f' → f' < f → ¬ letB m A T f' sl = true) 1 31 (Q := fun r : (Int32 × xS) ⊕ (xS × Int32) => (r = .inl (iz ((sl : Int) + 1), u) ∧ ∀ f' : Nat, 1 ≤ f' → f' ≤ 30 → ¬ letB m A T f' sl = true) ∨ ∃ v, r = .inr (u, v) ∧ tgt m A T w v) (s0 := u) (by omega) (by omega) ⟨rfl, fun f' q1 q2 => by omega⟩ (fun f v hf1 hf ⟨u1, u2⟩ => ?_) (fun v ⟨u1, u2⟩ => ?_)
    · refine hin.mono (fun r hr => ?_)
      rcases hr with ⟨rfl, hr⟩ | ⟨v, rfl, hr⟩
      · refine ⟨rfl, rfl, fun sl' f' q1 q2 q3 => ?_⟩
        by_cases q : sl' = sl
        · rw [q]; exact hr f' q2 q3
        · exact e2 sl' f' (by omega) q2 q3
      · exact ⟨rfl, hr⟩
    · subst u1
      have e3 := hc_let h (f := f) (sl := sl) (by omega) (by omega)
      unfold f24_9 f24_33
      simp (disch := omega) only [iz0, iz1, iz2, iz3, iz4, iz5, iz7, iz8, iz9, iz10, iz15, iz20, iz25, iz30, iz40, iz49, iz99, iz100, iz300, iz343, iz500, iz999, iz1000, iz1200, iz_add, iz_sub, iz_mul, iz_neg, it_le_t, it_le_f, it_lt_t, it_lt_f, it_eq_t, it_eq_f, bz0, bz1, ifg_T, or_true, true_or, if_true, if_false, Option.bind_some, Option.map_some, e3]
      by_cases q : letB m A T f sl = true
      · rw [if_pos q]
        have hv : tgt m A T w (if w = 0 then iz sl else iz f) := Or.inl ⟨sl, f, by omega, hf1, by omega, q, fun sl' f' q1 q2 q3 => by
          by_cases e : sl' = sl
          · rw [e]; exact u2 f' q1 (by omega)
          · exact e2 sl' f' (by omega) q1 q2, rfl⟩
        by_cases q0 : w = 0
        · rw [if_pos q0] at hv
          simp (disch := omega) only [iz0, iz1, iz2, iz3, iz4, iz5, iz7, iz8, iz9, iz10, iz15, iz20, iz25, iz30, iz40, iz49, iz99, iz100, iz300, iz343, iz500, iz999, iz1000, iz1200, iz_add, iz_sub, iz_mul, iz_neg, it_le_t, it_le_f, it_lt_t, it_lt_f, it_eq_t, it_eq_f, bz0, bz1, ifg_T, or_true, true_or, if_true, if_false, Option.bind_some, Option.map_some, q0, ok_some, ok_map, lp_l, lp_r, lpA_l, lpA_r, true_and]
          exact Or.inr ⟨_, rfl, by rw [q0] at hv; exact hv⟩
        · rw [if_neg q0] at hv
          simp (disch := omega) only [iz0, iz1, iz2, iz3, iz4, iz5, iz7, iz8, iz9, iz10, iz15, iz20, iz25, iz30, iz40, iz49, iz99, iz100, iz300, iz343, iz500, iz999, iz1000, iz1200, iz_add, iz_sub, iz_mul, iz_neg, it_le_t, it_le_f, it_lt_t, it_lt_f, it_eq_t, it_eq_f, bz0, bz1, ifg_T, or_true, true_or, if_true, if_false, Option.bind_some, Option.map_some, q0, ok_some, ok_map, lp_l, lp_r, lpA_l, lpA_r, true_and]
          exact Or.inr ⟨_, rfl, hv⟩
      · rw [if_neg q]
        simp (disch := omega) only [iz0, iz1, iz2, iz3, iz4, iz5, iz7, iz8, iz9, iz10, iz15, iz20, iz25, iz30, iz40, iz49, iz99, iz100, iz300, iz343, iz500, iz999, iz1000, iz1200, iz_add, iz_sub, iz_mul, iz_neg, it_le_t, it_le_f, it_lt_t, it_lt_f, it_eq_t, it_eq_f, bz0, bz1, ifg_T, or_true, true_or, if_true, if_false, Option.bind_some, Option.map_some, ok_some, ok_map, lp_l, lp_r, lpA_l, lpA_r, true_and]
        intro f' q1 q2
        by_cases e : f' = f
        · rw [e]; exact q
        · exact u2 f' q1 (by omega)
    · subst u1
      unfold f24_9
      simp (disch := omega) only [iz0, iz1, iz2, iz3, iz4, iz5, iz7, iz8, iz9, iz10, iz15, iz20, iz25, iz30, iz40, iz49, iz99, iz100, iz300, iz343, iz500, iz999, iz1000, iz1200, iz_add, iz_sub, iz_mul, iz_neg, it_le_t, it_le_f, it_lt_t, it_lt_f, it_eq_t, it_eq_f, bz0, bz1, ifg_T, or_true, true_or, if_true, if_false, Option.bind_some, Option.map_some, ok_some, ok_map, lp_l, lp_r, lpA_l, lpA_r, true_and]
      exact Or.inl (fun f' q1 q2 => u2 f' q1 (by omega))
  · subst e1
    unfold f24_2
    simp (disch := omega) only [iz0, iz1, iz2, iz3, iz4, iz5, iz7, iz8, iz9, iz10, iz15, iz20, iz25, iz30, iz40, iz49, iz99, iz100, iz300, iz343, iz500, iz999, iz1000, iz1200, iz_add, iz_sub, iz_mul, iz_neg, it_le_t, it_le_f, it_lt_t, it_lt_f, it_eq_t, it_eq_f, bz0, bz1, ifg_T, or_true, true_or, if_true, if_false, Option.bind_some, Option.map_some, ok_some, ok_map, lp_l, lp_r, lpA_l, lpA_r, true_and]
    exact Or.inr ⟨rfl, fun sl f q1 q2 q3 => e2 sl f (by omega) q2 q3⟩
theorem hm_tight (h : Ct s 101 74 144 145 m A T) {w : Int} (hw : w = 0 ∨ w = 1) : ok (whl (fun q : (Int32 × xS) => f277_13 101 (iz w) q.1 q.2) (iz 0, s)) (fun r => r.1 = s ∧ tgt m A T w r.2) := by
  refine forz (fun sl u => u = s ∧ ∀ sl' f' : Nat, sl' < sl → 1 ≤ f' → f' ≤ 30 → ¬ letB m A T f' sl' = true) 0 6 (by omega) (by omega) ⟨rfl, fun sl' f' q => by omega⟩ (fun sl u _ hsl ⟨e1, e2⟩ => ?_) (fun u ⟨e1, e2⟩ => ?_)
  · subst e1
    unfold f277_13
    simp (disch := omega) only [iz0, iz1, iz2, iz3, iz4, iz5, iz7, iz8, iz9, iz10, iz15, iz20, iz25, iz30, iz40, iz49, iz99, iz100, iz300, iz343, iz500, iz999, iz1000, iz1200, iz_add, iz_sub, iz_mul, iz_neg, it_le_t, it_le_f, it_lt_t, it_lt_f, it_eq_t, it_eq_f, bz0, bz1, ifg_T, or_true, true_or, if_true, if_false, Option.bind_some, Option.map_some]
    have hin := forz (body := fun q : (Int32 × xS) => f277_20 101 (iz w) (iz sl) q.1 q.2) (fun f v => v = u ∧ ∀ f' : Nat, 1 ≤ f' → f' < f → ¬ letB m A T f' sl = true) 1 31 (Q := fun r : (Int32 × xS) ⊕ (xS × Int32) => (r = .inl (iz ((sl : Int) + 1), u) ∧ ∀ f' : Nat, 1 ≤ f' → f' ≤ 30 → ¬ letB m A T f' sl = true) ∨ ∃ v, r = .inr (u, v) ∧ tgt m A T w v) (s0 := u) (by omega) (by omega) ⟨rfl, fun f' q1 q2 => by omega⟩ (fun f v hf1 hf ⟨u1, u2⟩ => ?_) (fun v ⟨u1, u2⟩ => ?_)
    · refine hin.mono (fun r hr => ?_)
      rcases hr with ⟨rfl, hr⟩ | ⟨v, rfl, hr⟩
      · refine ⟨rfl, rfl, fun sl' f' q1 q2 q3 => ?_⟩
        by_cases q : sl' = sl
        · rw [q]; exact hr f' q2 q3
        · exact e2 sl' f' (by omega) q2 q3
      · exact ⟨rfl, hr⟩
    · subst u1
      have e3 := hm_let h (f := f) (sl := sl) (by omega) (by omega)
      unfold f277_20 f277_44
      simp (disch := omega) only [iz0, iz1, iz2, iz3, iz4, iz5, iz7, iz8, iz9, iz10, iz15, iz20, iz25, iz30, iz40, iz49, iz99, iz100, iz300, iz343, iz500, iz999, iz1000, iz1200, iz_add, iz_sub, iz_mul, iz_neg, it_le_t, it_le_f, it_lt_t, it_lt_f, it_eq_t, it_eq_f, bz0, bz1, ifg_T, or_true, true_or, if_true, if_false, Option.bind_some, Option.map_some, e3]
      by_cases q : letB m A T f sl = true
      · rw [if_pos q]
        have hv : tgt m A T w (if w = 0 then iz sl else iz f) := Or.inl ⟨sl, f, by omega, hf1, by omega, q, fun sl' f' q1 q2 q3 => by
          by_cases e : sl' = sl
          · rw [e]; exact u2 f' q1 (by omega)
          · exact e2 sl' f' (by omega) q1 q2, rfl⟩
        by_cases q0 : w = 0
        · rw [if_pos q0] at hv
          simp (disch := omega) only [iz0, iz1, iz2, iz3, iz4, iz5, iz7, iz8, iz9, iz10, iz15, iz20, iz25, iz30, iz40, iz49, iz99, iz100, iz300, iz343, iz500, iz999, iz1000, iz1200, iz_add, iz_sub, iz_mul, iz_neg, it_le_t, it_le_f, it_lt_t, it_lt_f, it_eq_t, it_eq_f, bz0, bz1, ifg_T, or_true, true_or, if_true, if_false, Option.bind_some, Option.map_some, q0, ok_some, ok_map, lp_l, lp_r, lpA_l, lpA_r, true_and]
          exact Or.inr ⟨_, rfl, by rw [q0] at hv; exact hv⟩
        · rw [if_neg q0] at hv
          simp (disch := omega) only [iz0, iz1, iz2, iz3, iz4, iz5, iz7, iz8, iz9, iz10, iz15, iz20, iz25, iz30, iz40, iz49, iz99, iz100, iz300, iz343, iz500, iz999, iz1000, iz1200, iz_add, iz_sub, iz_mul, iz_neg, it_le_t, it_le_f, it_lt_t, it_lt_f, it_eq_t, it_eq_f, bz0, bz1, ifg_T, or_true, true_or, if_true, if_false, Option.bind_some, Option.map_some, q0, ok_some, ok_map, lp_l, lp_r, lpA_l, lpA_r, true_and]
          exact Or.inr ⟨_, rfl, hv⟩
      · rw [if_neg q]
        simp (disch := omega) only [iz0, iz1, iz2, iz3, iz4, iz5, iz7, iz8, iz9, iz10, iz15, iz20, iz25, iz30, iz40, iz49, iz99, iz100, iz300, iz343, iz500, iz999, iz1000, iz1200, iz_add, iz_sub, iz_mul, iz_neg, it_le_t, it_le_f, it_lt_t, it_lt_f, it_eq_t, it_eq_f, bz0, bz1, ifg_T, or_true, true_or, if_true, if_false, Option.bind_some, Option.map_some, ok_some, ok_map, lp_l, lp_r, lpA_l, lpA_r, true_and]
        intro f' q1 q2
        by_cases e : f' = f
        · rw [e]; exact q
        · exact u2 f' q1 (by omega)
    · subst u1
      unfold f277_20
      simp (disch := omega) only [iz0, iz1, iz2, iz3, iz4, iz5, iz7, iz8, iz9, iz10, iz15, iz20, iz25, iz30, iz40, iz49, iz99, iz100, iz300, iz343, iz500, iz999, iz1000, iz1200, iz_add, iz_sub, iz_mul, iz_neg, it_le_t, it_le_f, it_lt_t, it_lt_f, it_eq_t, it_eq_f, bz0, bz1, ifg_T, or_true, true_or, if_true, if_false, Option.bind_some, Option.map_some, ok_some, ok_map, lp_l, lp_r, lpA_l, lpA_r, true_and]
      exact Or.inl (fun f' q1 q2 => u2 f' q1 (by omega))
  · subst e1
    unfold f277_13
    simp (disch := omega) only [iz0, iz1, iz2, iz3, iz4, iz5, iz7, iz8, iz9, iz10, iz15, iz20, iz25, iz30, iz40, iz49, iz99, iz100, iz300, iz343, iz500, iz999, iz1000, iz1200, iz_add, iz_sub, iz_mul, iz_neg, it_le_t, it_le_f, it_lt_t, it_lt_f, it_eq_t, it_eq_f, bz0, bz1, ifg_T, or_true, true_or, if_true, if_false, Option.bind_some, Option.map_some, ok_some, ok_map, lp_l, lp_r, lpA_l, lpA_r, true_and]
    exact Or.inr ⟨rfl, fun sl f q1 q2 q3 => e2 sl f (by omega) q2 q3⟩
end HA
