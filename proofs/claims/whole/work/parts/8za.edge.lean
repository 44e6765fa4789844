/-! edge: the class -/
section EC
variable {s : xS} {n : Nat}
def tr : Nat → Int
  | 0 => 0
  | k + 1 => tr k + k
def EPt (s : xS) (z : Nat → Int) (k : Nat) : Prop := s.1 40 5 = iz k ∧ s.1 40 6 = iz (tr k) ∧ ∀ j, j < k → s.1 41 j = iz j ∧ s.1 42 j = iz 0 ∧ s.1 43 j = iz (z j)
def FEq (id k : Nat) : Bool := (id == 40 && Nat.ble 8 k) || id == 45
theorem FEq_FL (id k : Nat) (h : FEq id k = true) : FL id k = true := by
  unfold FEq at h
  unfold FL
  simp only [Bool.or_eq_true, Bool.and_eq_true, beq_iff_eq, Nat.ble_eq] at h ⊢
  omega
theorem EPt.fr {s' : xS} {z : Nat → Int} {k : Nat} (h : EPt s z k) (hf : fr FEq s s') : EPt s' z k := ⟨by rw [hf.i 40 5 rfl]; exact h.1, by rw [hf.i 40 6 rfl]; exact h.2.1, fun j hj => by rw [hf.i 41 j rfl, hf.i 42 j rfl, hf.i 43 j rfl]; exact h.2.2 j hj⟩
def ES (s : xS) (z : Nat → Int) (i j : Nat) : Prop := s.1 40 11 = iz ((j : Int) - i) ∧ s.1 40 9 = iz (z j - z i) ∧ s.1 40 10 = iz 0 ∧ s.1 40 8 = iz (z i * ((j : Int) - i) - (z j - z i) * i)
theorem ce_str {z : Nat → Int} (h : EPt s z n) (n5 : n ≤ 5) {i j : Nat} (hi : i < n) (hj : j < n) : ok (f58 40 (iz i) (iz j) s) (fun r => fr FEq s r.1 ∧ ES r.1 z i j) := by
  obtain ⟨x1, y1, z1⟩ := h.2.2 i hi
  obtain ⟨x2, y2, z2⟩ := h.2.2 j hj
  unfold f58
  rw [ifg_pos O_40]
  simp (disch := omega) only [R_40_0, R_40_2, A_41, A_43, iz0, iz1, iz2, iz3, iz4, iz5, iz7, iz8, iz9, iz10, iz15, iz20, iz25, iz30, iz40, iz49, iz99, iz100, iz300, iz343, iz500, iz999, iz1000, iz1200, iz_add, iz_sub, iz_mul, iz_neg, it_le_t, it_le_f, it_lt_t, it_lt_f, it_eq_t, it_eq_f, bz0, bz1, ifg_T, or_true, true_or, if_true, if_false, Option.bind_some, Option.map_some, iz_in, iz_n, nat_toNat, pI, x1, x2, z1, z2, up_id, up_ix, up_eq, ok_some]
  refine ⟨((((fr.rf _ _).ui rfl).ui rfl).ui rfl).ui rfl, ?_, ?_, ?_, ?_⟩
  all_goals simp (disch := omega) only [up_ix, up_eq]
theorem ce_above {z : Nat → Int} (h : EPt s z n) (hz : Zy n z) (n5 : n ≤ 5) {i j : Nat} (hi : i < j) (hj : j < n) (hE : ES s z i j) : ok (f51 40 s) (fun r => fr FEq s r.1 ∧ ES r.1 z i j ∧ r.2 = (if va z n i j = true then iz (-1) else r.2) ∧ (va z n i j = false → ∃ m : Nat, m < n ∧ r.2 = iz m) ∧ (va z n i j = true → ∀ k, k < n → r.1.1 45 k = iz (gp z i j k))) := by
  unfold f51
  rw [ifg_pos O_40]
  simp only [iz0]
  refine forz (fun k w => fr FEq s w ∧ ES w z i j ∧ ∀ m, m < k → 0 ≤ gp z i j m ∧ w.1 45 m = iz (gp z i j m)) 0 n (by omega) (by omega) ⟨fr.rf _ _, hE, fun m hm => by omega⟩ (fun k w _ hk ⟨h1, h2, h3⟩ => ?_) (fun w ⟨h1, h2, h3⟩ => ?_)
  · have hw := h.fr h1
    obtain ⟨x1, y1, z1⟩ := hw.2.2 k hk
    obtain ⟨e1, e2, e3, e4⟩ := h2
    have gb := gp_bd hz n5 hi hj hk
    have ge : iz ((z i * ((j : Int) - i) - (z j - z i) * i) + (z j - z i) * k + 0 * 0 - z k * ((j : Int) - i)) = iz (gp z i j k) := rfl
    unfold f51_2
    simp (disch := omega) only [iz0, iz1, iz2, iz3, iz4, iz5, iz7, iz8, iz9, iz10, iz15, iz20, iz25, iz30, iz40, iz49, iz99, iz100, iz300, iz343, iz500, iz999, iz1000, iz1200, iz_add, iz_sub, iz_mul, iz_neg, it_le_t, it_le_f, it_lt_t, it_lt_f, it_eq_t, it_eq_f, bz0, bz1, ifg_T, or_true, true_or, if_true, if_false, Option.bind_some, Option.map_some, iz_in, iz_n, nat_toNat, hw.1, R_40_4, R_40_0, R_40_1, R_40_2, A_41, A_42, A_43, x1, y1, z1, e1, e2, e3, e4, W_45, A_45, up_eq, ge]
    have f1 : fr FEq s (xm_up w.1 45 k (iz (gp z i j k)), w.2) := h1.ui rfl
    have f2 : ES (xm_up w.1 45 k (iz (gp z i j k)), w.2) z i j := by
      refine ⟨?_, ?_, ?_, ?_⟩ <;> simp (disch := omega) only [up_id, e1, e2, e3, e4]
    by_cases q : 0 ≤ gp z i j k
    · simp (disch := omega) only [iz0, iz1, iz2, iz3, iz4, iz5, iz7, iz8, iz9, iz10, iz15, iz20, iz25, iz30, iz40, iz49, iz99, iz100, iz300, iz343, iz500, iz999, iz1000, iz1200, iz_add, iz_sub, iz_mul, iz_neg, it_le_t, it_le_f, it_lt_t, it_lt_f, it_eq_t, it_eq_f, bz0, bz1, ifg_T, or_true, true_or, if_true, if_false, Option.bind_some, Option.map_some, ok_some, ok_map, lp_l, lp_r, lpA_l, lpA_r, true_and]
      refine ⟨f1, f2, fun m hm => ?_⟩
      by_cases r : m = k
      · subst r
        exact ⟨q, by simp only [up_eq]⟩
      · simp (disch := omega) only [up_ix]
        exact h3 m (by omega)
    · have : va z n i j = false := by
        unfold va
        rw [decide_eq_false_iff_not]
        exact fun r => q (r k hk)
      simp (disch := omega) only [iz0, iz1, iz2, iz3, iz4, iz5, iz7, iz8, iz9, iz10, iz15, iz20, iz25, iz30, iz40, iz49, iz99, iz100, iz300, iz343, iz500, iz999, iz1000, iz1200, iz_add, iz_sub, iz_mul, iz_neg, it_le_t, it_le_f, it_lt_t, it_lt_f, it_eq_t, it_eq_f, bz0, bz1, ifg_T, or_true, true_or, if_true, if_false, Option.bind_some, Option.map_some, ok_some, ok_map, lp_l, lp_r, lpA_l, lpA_r, true_and]
      rw [this]
      exact ⟨f1, f2, by rw [if_neg (by decide)], fun _ => ⟨k, hk, rfl⟩, fun r => by cases r⟩
  · have hw := h.fr h1
    have : va z n i j = true := by
      unfold va
      rw [decide_eq_true_eq]
      exact fun k hk => (h3 k hk).1
    unfold f51_2
    simp (disch := omega) only [iz0, iz1, iz2, iz3, iz4, iz5, iz7, iz8, iz9, iz10, iz15, iz20, iz25, iz30, iz40, iz49, iz99, iz100, iz300, iz343, iz500, iz999, iz1000, iz1200, iz_add, iz_sub, iz_mul, iz_neg, it_le_t, it_le_f, it_lt_t, it_lt_f, it_eq_t, it_eq_f, bz0, bz1, ifg_T, or_true, true_or, if_true, if_false, Option.bind_some, Option.map_some, hw.1, ok_some, ok_map, lp_l, lp_r, lpA_l, lpA_r, true_and]
    rw [this]
    exact ⟨h1, h2, by rw [if_pos rfl], (fun r => by cases r), fun _ k hk => (h3 k hk).2⟩
def lev (z : Nat → Int) (n i j : Nat) : Int := (z i * ((j : Int) - i) - (z j - z i) * i) * n + (z j - z i) * tr n
theorem lev_bd {z : Nat → Int} (hz : Zy n z) (n3 : 3 ≤ n) (n5 : n ≤ 5) {i j : Nat} (hi : i < j) (hj : j < n) : -100000 ≤ lev z n i j ∧ lev z n i j ≤ 100000 := by
  have a1 := hz i (by omega)
  have a2 := hz j hj
  have b1 := pb (x := z i) (y := (j : Int) - i) (B := 1010) (C := 4) (by omega) (by omega) (by omega) (by omega)
  have b2 := pb (x := z j - z i) (y := (i : Int)) (B := 2020) (C := 4) (by omega) (by omega) (by omega) (by omega)
  have b3 := pb (x := z i * ((j : Int) - i) - (z j - z i) * i) (y := (n : Int)) (B := 12120) (C := 5) (by omega) (by omega) (by omega) (by omega)
  have ht : 0 ≤ tr n ∧ tr n ≤ 10 := by
    have : n = 3 ∨ n = 4 ∨ n = 5 := by omega
    rcases this with rfl | rfl | rfl <;> decide
  have b4 := pb (x := z j - z i) (y := tr n) (B := 2020) (C := 10) (by omega) (by omega) (by omega) (by omega)
  unfold lev
  omega
theorem lev_md (z : Nat → Int) (n3 : 3 ≤ n) (n5 : n ≤ 5) (i j : Nat) (t : Int) : 2 * (lev z n i j * t) = n * (md z n i j * t) := by
  have ht : 2 * tr n = n * ((n : Int) - 1) := by
    have : n = 3 ∨ n = 4 ∨ n = 5 := by omega
    rcases this with rfl | rfl | rfl <;> decide
  have : 2 * lev z n i j = n * md z n i j := by
    unfold lev md
    generalize tr n = T at ht ⊢
    grind
  rw [← Int.mul_assoc, this, Int.mul_assoc]
theorem lev_lt (z : Nat → Int) (n3 : 3 ≤ n) (n5 : n ≤ 5) (i j a b : Nat) (t u : Int) : md z n i j * t < md z n a b * u ↔ lev z n i j * t < lev z n a b * u := by
  have h1 := lev_md z n3 n5 i j t
  have h2 := lev_md z n3 n5 a b u
  have : n = 3 ∨ n = 4 ∨ n = 5 := by omega
  rcases this with rfl | rfl | rfl <;> omega
def eC (z : Nat → Int) (n : Nat) : Option (Nat × Nat) → Int32 × Int32 × Int32 × Int32
  | none => (iz (-1), iz (-1), iz 0, iz 0)
  | some q => (iz q.2, iz q.1, iz (lev z n q.1 q.2), iz ((q.2 : Int) - q.1))
theorem ce_89 {z : Nat → Int} (h : EPt s z n) (hz : Zy n z) (n5 : n ≤ 5) {i j : Nat} (hi : i < j) (hj : j < n) (hE : ES s z i j) (x1 x2 x3 x4 L : Int32) :
    ∃ w, f57_89 40 x1 x2 x3 x4 (iz i) (iz j) L (iz 1) s = some (Sum.inl ((if va z n i j = true then (iz j, iz i, L, iz ((j : Int) - i)) else (x1, x2, x3, x4)).1, (if va z n i j = true then (iz j, iz i, L, iz ((j : Int) - i)) else (x1, x2, x3, x4)).2.1, (if va z n i j = true then (iz j, iz i, L, iz ((j : Int) - i)) else (x1, x2, x3, x4)).2.2.1, (if va z n i j = true then (iz j, iz i, L, iz ((j : Int) - i)) else (x1, x2, x3, x4)).2.2.2, iz ((j : Int) + 1), w)) ∧ fr FEq s w := by
  obtain ⟨r, e1, e2, e3, e4, e5, e6⟩ := ce_above h hz n5 hi hj hE
  unfold f57_89 f57_119
  simp (disch := omega) only [iz0, iz1, iz2, iz3, iz4, iz5, iz7, iz8, iz9, iz10, iz15, iz20, iz25, iz30, iz40, iz49, iz99, iz100, iz300, iz343, iz500, iz999, iz1000, iz1200, iz_add, iz_sub, iz_mul, iz_neg, it_le_t, it_le_f, it_lt_t, it_lt_f, it_eq_t, it_eq_f, bz0, bz1, ifg_T, or_true, true_or, if_true, if_false, Option.bind_some, Option.map_some, e1]
  cases q : va z n i j with
  | true =>
    rw [q, if_pos rfl] at e4
    refine ⟨r.1, ?_, e2⟩
    simp (disch := omega) only [iz0, iz1, iz2, iz3, iz4, iz5, iz7, iz8, iz9, iz10, iz15, iz20, iz25, iz30, iz40, iz49, iz99, iz100, iz300, iz343, iz500, iz999, iz1000, iz1200, iz_add, iz_sub, iz_mul, iz_neg, it_le_t, it_le_f, it_lt_t, it_lt_f, it_eq_t, it_eq_f, bz0, bz1, ifg_T, or_true, true_or, if_true, if_false, Option.bind_some, Option.map_some, e4, e3.1]
  | false =>
    obtain ⟨m, m1, m2⟩ := e5 q
    refine ⟨r.1, ?_, e2⟩
    simp (disch := omega) only [iz0, iz1, iz2, iz3, iz4, iz5, iz7, iz8, iz9, iz10, iz15, iz20, iz25, iz30, iz40, iz49, iz99, iz100, iz300, iz343, iz500, iz999, iz1000, iz1200, iz_add, iz_sub, iz_mul, iz_neg, it_le_t, it_le_f, it_lt_t, it_lt_f, it_eq_t, it_eq_f, bz0, bz1, ifg_T, or_true, true_or, if_true, if_false, Option.bind_some, Option.map_some, m2, Bool.false_eq_true]
theorem ce_in {z : Nat → Int} (h : EPt s z n) (hz : Zy n z) (n3 : 3 ≤ n) (n5 : n ≤ 5) {i : Nat} (hi : i < n) {st : Option (Nat × Nat)} (hw : wf z n st) {s0 : xS} (hf : fr FEq s0 s) :
    ok (whl (fun q : (Int32 × Int32 × Int32 × Int32 × Int32 × xS) => f57_27 40 q.1 q.2.1 q.2.2.1 q.2.2.2.1 (iz i) q.2.2.2.2.1 q.2.2.2.2.2) ((eC z n st).1, (eC z n st).2.1, (eC z n st).2.2.1, (eC z n st).2.2.2, iz ((i + 1 : Nat) : Int), s)) (fun r => ∃ w, r = Sum.inl ((eC z n (inn z n i n st)).1, (eC z n (inn z n i n st)).2.1, (eC z n (inn z n i n st)).2.2.1, (eC z n (inn z n i n st)).2.2.2, iz ((i : Int) + 1), w) ∧ fr FEq s0 w) := by
  refine forzG (fun (c : Int32 × Int32 × Int32 × Int32) i s => (c.1, c.2.1, c.2.2.1, c.2.2.2, i, s)) (fun j c v => fr FEq s v ∧ c = eC z n (inn z n i j st)) (i + 1) n (by omega) ⟨fr.rf _ _, by rw [inn_lo (Nat.le_refl _)]⟩ (fun j c v j0 hj ⟨h1, h2⟩ => ?_) (fun c v ⟨h1, h2⟩ => ?_)
  · subst h2
    have hs := inn_wf (i := i) hw (Nat.le_of_lt hj)
    have hv := h.fr h1
    rw [inn, if_pos (show i < j by omega)]
    generalize inn z n i j st = u at hs ⊢
    obtain ⟨r, e1, e2, e3⟩ := ce_str hv n5 (show i < n by omega) hj
    have hr := hv.fr e2
    have el : iz ((z i * ((j : Int) - i) - (z j - z i) * i) * n + (z j - z i) * tr n) = iz (lev z n i j) := rfl
    unfold f57_27 f57_84
    simp (disch := omega) only [iz0, iz1, iz2, iz3, iz4, iz5, iz7, iz8, iz9, iz10, iz15, iz20, iz25, iz30, iz40, iz49, iz99, iz100, iz300, iz343, iz500, iz999, iz1000, iz1200, iz_add, iz_sub, iz_mul, iz_neg, it_le_t, it_le_f, it_lt_t, it_lt_f, it_eq_t, it_eq_f, bz0, bz1, ifg_T, or_true, true_or, if_true, if_false, Option.bind_some, Option.map_some, hv.1, e1, e3.1, e3.2.1, e3.2.2.2, hr.1, hr.2.1, el]
    unfold ud
    cases u with
    | none =>
      obtain ⟨w, g1, g2⟩ := ce_89 hr hz n5 (show i < j by omega) hj e3 (iz (-1)) (iz (-1)) (iz 0) (iz 0) (iz (lev z n i j))
      refine ⟨_, w, ?_, (h1.tr e2).tr g2, rfl⟩
      simp (disch := omega) only [eC, btr, iz0, iz1, iz2, iz3, iz4, iz5, iz7, iz8, iz9, iz10, iz15, iz20, iz25, iz30, iz40, iz49, iz99, iz100, iz300, iz343, iz500, iz999, iz1000, iz1200, iz_add, iz_sub, iz_mul, iz_neg, it_le_t, it_le_f, it_lt_t, it_lt_f, it_eq_t, it_eq_f, bz0, bz1, ifg_T, or_true, true_or, if_true, if_false, Option.bind_some, Option.map_some, g1]
      split <;> rfl
    | some a =>
      obtain ⟨a1, a2, a3⟩ := hs a rfl
      have m1 := lev_bd hz n3 n5 (show i < j by omega) hj
      have m2 := lev_bd hz n3 n5 a1 a2
      have p1 := pb (x := lev z n i j) (y := (a.2 : Int) - a.1) (B := 100000) (C := 4) (by omega) (by omega) (by omega) (by omega)
      have p2 := pb (x := lev z n a.1 a.2) (y := (j : Int) - i) (B := 100000) (C := 4) (by omega) (by omega) (by omega) (by omega)
      have ll := lev_lt z n3 n5 i j a.1 a.2 ((a.2 : Int) - a.1) ((j : Int) - i)
      simp (disch := omega) only [eC, btr, iz0, iz1, iz2, iz3, iz4, iz5, iz7, iz8, iz9, iz10, iz15, iz20, iz25, iz30, iz40, iz49, iz99, iz100, iz300, iz343, iz500, iz999, iz1000, iz1200, iz_add, iz_sub, iz_mul, iz_neg, it_le_t, it_le_f, it_lt_t, it_lt_f, it_eq_t, it_eq_f, bz0, bz1, ifg_T, or_true, true_or, if_true, if_false, Option.bind_some, Option.map_some, decide_eq_true_eq]
      by_cases r1 : md z n i j * ((a.2 : Int) - a.1) < md z n a.1 a.2 * ((j : Int) - i)
      · have r2 := ll.mp r1
        obtain ⟨w, g1, g2⟩ := ce_89 hr hz n5 (show i < j by omega) hj e3 (iz a.2) (iz a.1) (iz (lev z n a.1 a.2)) (iz ((a.2 : Int) - a.1)) (iz (lev z n i j))
        refine ⟨_, w, ?_, (h1.tr e2).tr g2, rfl⟩
        simp (disch := omega) only [iz0, iz1, iz2, iz3, iz4, iz5, iz7, iz8, iz9, iz10, iz15, iz20, iz25, iz30, iz40, iz49, iz99, iz100, iz300, iz343, iz500, iz999, iz1000, iz1200, iz_add, iz_sub, iz_mul, iz_neg, it_le_t, it_le_f, it_lt_t, it_lt_f, it_eq_t, it_eq_f, bz0, bz1, ifg_T, or_true, true_or, if_true, if_false, Option.bind_some, Option.map_some, g1, if_pos r1]
        split <;> rfl
      · have r2 : ¬ lev z n i j * ((a.2 : Int) - a.1) < lev z n a.1 a.2 * ((j : Int) - i) := fun q => r1 (ll.mpr q)
        refine ⟨_, r.1, ?_, h1.tr e2, rfl⟩
        unfold f57_89 f57_119
        simp (disch := omega) only [iz0, iz1, iz2, iz3, iz4, iz5, iz7, iz8, iz9, iz10, iz15, iz20, iz25, iz30, iz40, iz49, iz99, iz100, iz300, iz343, iz500, iz999, iz1000, iz1200, iz_add, iz_sub, iz_mul, iz_neg, it_le_t, it_le_f, it_lt_t, it_lt_f, it_eq_t, it_eq_f, bz0, bz1, ifg_T, or_true, true_or, if_true, if_false, Option.bind_some, Option.map_some, if_neg r1]
  · subst h2
    have hv := h.fr h1
    refine ⟨_, ?_, v, rfl, hf.tr h1⟩
    unfold f57_27
    simp (disch := omega) only [iz0, iz1, iz2, iz3, iz4, iz5, iz7, iz8, iz9, iz10, iz15, iz20, iz25, iz30, iz40, iz49, iz99, iz100, iz300, iz343, iz500, iz999, iz1000, iz1200, iz_add, iz_sub, iz_mul, iz_neg, it_le_t, it_le_f, it_lt_t, it_lt_f, it_eq_t, it_eq_f, bz0, bz1, ifg_T, or_true, true_or, if_true, if_false, Option.bind_some, Option.map_some, hv.1]
end EC
