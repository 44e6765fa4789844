/-! edge: the model -/
section EM
variable {s : xS} {b n : Nat} {N : Int32}
def Zr (s : xS) (n : Nat) (B T : Int32) (z : Nat → Int) : Prop := ∀ k, k < n → aI s 113 (B + T * iz k) = some (iz (z k))
def Zy (n : Nat) (z : Nat → Int) : Prop := ∀ k, k < n → -1010 ≤ z k ∧ z k ≤ 1010
theorem gp_bd {z : Nat → Int} (hz : Zy n z) (n5 : n ≤ 5) {i j k : Nat} (hi : i < j) (hj : j < n) (hk : k < n) : -100000 ≤ gp z i j k ∧ gp z i j k ≤ 100000 := by
  have a1 := hz i (by omega)
  have a2 := hz j hj
  have a3 := hz k hk
  have b1 := pb (x := z i) (y := (j : Int) - i) (B := 1010) (C := 4) (by omega) (by omega) (by omega) (by omega)
  have b2 := pb (x := z j - z i) (y := (i : Int)) (B := 2020) (C := 4) (by omega) (by omega) (by omega) (by omega)
  have b3 := pb (x := z j - z i) (y := (k : Int)) (B := 2020) (C := 4) (by omega) (by omega) (by omega) (by omega)
  have b4 := pb (x := z k) (y := (j : Int) - i) (B := 1010) (C := 4) (by omega) (by omega) (by omega) (by omega)
  unfold gp
  omega
theorem md_bd {z : Nat → Int} (hz : Zy n z) (n3 : 3 ≤ n) (n5 : n ≤ 5) {i j : Nat} (hi : i < j) (hj : j < n) : -100000 ≤ md z n i j ∧ md z n i j ≤ 100000 := by
  have a1 := hz i (by omega)
  have a2 := hz j hj
  have b1 := pb (x := 2 * z i) (y := (j : Int) - i) (B := 2020) (C := 4) (by omega) (by omega) (by omega) (by omega)
  have b2 := pb (x := z j - z i) (y := (n : Int) - 1) (B := 2020) (C := 4) (by omega) (by omega) (by omega) (by omega)
  have b3 := pb (x := z j - z i) (y := 2 * (i : Int)) (B := 2020) (C := 8) (by omega) (by omega) (by omega) (by omega)
  unfold md
  rw [show (z j - z i) * ((n : Int) - 1 - 2 * i) = (z j - z i) * ((n : Int) - 1) - (z j - z i) * (2 * (i : Int)) by grind]
  omega
theorem me_over {B T : Int32} {z : Nat → Int} (h : Zr s n B T z) (hz : Zy n z) (n5 : n ≤ 5) {i j k : Nat} (hi : i < n) (hj : j < n) (hk : k < n) : f257 101 B T (iz i) (iz j) (iz k) s = some (s, lz (gp z i j k)) := by
  have a1 := hz i hi
  have a2 := hz j hj
  have a3 := hz k hk
  unfold f257
  rw [ifg_pos O_101]
  simp only [R_101_20, Option.bind_some, h i hi, h j hj, h k hk]
  simp (disch := omega) only [iz0, iz1, iz2, iz3, iz4, iz5, iz7, iz8, iz9, iz10, iz15, iz20, iz25, iz30, iz40, iz49, iz99, iz100, iz300, iz343, iz500, iz999, iz1000, iz1200, iz_add, iz_sub, iz_mul, iz_neg, it_le_t, it_le_f, it_lt_t, it_lt_f, it_eq_t, it_eq_f, bz0, bz1, ifg_T, or_true, true_or, if_true, if_false, Option.bind_some, Option.map_some, lz0, lz1, lz_add, lz_sub, lz_mul, lz_neg, lk_le_t, lk_le_f, lk_lt_t, lk_lt_f, lk_gt_t, lk_gt_f, lk_ge_t, lk_ge_f, lk_eq_t, lk_eq_f, lnz, iz_l, lz_i]
  rw [show (z i - z k) * ((j : Int) - i) + (z j - z i) * ((k : Int) - i) = gp z i j k by unfold gp; grind]
theorem me_mid (hn : Mn s b N n) {B T : Int32} {z : Nat → Int} (h : Zr s n B T z) (hz : Zy n z) {i j : Nat} (hi : i < n) (hj : j < n) : f258 101 B T (iz i) (iz j) s = some (s, lz (md z n i j)) := by
  have n5 := hn.2.2.2.2.2
  have a1 := hz i hi
  have a2 := hz j hj
  unfold f258
  rw [ifg_pos O_101]
  simp only [R_101_20, Option.bind_some, h i hi, h j hj, hn.zn]
  simp (disch := omega) only [iz0, iz1, iz2, iz3, iz4, iz5, iz7, iz8, iz9, iz10, iz15, iz20, iz25, iz30, iz40, iz49, iz99, iz100, iz300, iz343, iz500, iz999, iz1000, iz1200, iz_add, iz_sub, iz_mul, iz_neg, it_le_t, it_le_f, it_lt_t, it_lt_f, it_eq_t, it_eq_f, bz0, bz1, ifg_T, or_true, true_or, if_true, if_false, Option.bind_some, Option.map_some, lz0, lz1, lz_add, lz_sub, lz_mul, lz_neg, lk_le_t, lk_le_f, lk_lt_t, lk_lt_f, lk_gt_t, lk_gt_f, lk_ge_t, lk_ge_f, lk_eq_t, lk_eq_f, lnz, iz_l, lz_i, show (2 : Int64) = lz 2 from rfl]
  rfl
theorem me_line (hn : Mn s b N n) {B T : Int32} {z : Nat → Int} (h : Zr s n B T z) (hz : Zy n z) {i j : Nat} (hi : i < j) (hj : j < n) : f259 101 B T (iz i) (iz j) s = some (s, if va z n i j = true then iz 1 else iz 0) := by
  have n5 := hn.2.2.2.2.2
  have key : ok (f259 101 B T (iz i) (iz j) s) (fun r => r = (s, if va z n i j = true then iz 1 else iz 0)) := by
    unfold f259
    rw [ifg_pos O_101]
    simp only [iz0]
    refine forz (fun k w => w = s ∧ ∀ m, m < k → 0 ≤ gp z i j m) 0 n (by omega) (by omega) ⟨rfl, fun m hm => by omega⟩ (fun k w _ hk ⟨h1, h2⟩ => ?_) (fun w ⟨h1, h2⟩ => ?_)
    · subst h1
      have gb := gp_bd hz n5 hi hj hk
      unfold f259_3
      simp (disch := omega) only [iz0, iz1, iz2, iz3, iz4, iz5, iz7, iz8, iz9, iz10, iz15, iz20, iz25, iz30, iz40, iz49, iz99, iz100, iz300, iz343, iz500, iz999, iz1000, iz1200, iz_add, iz_sub, iz_mul, iz_neg, it_le_t, it_le_f, it_lt_t, it_lt_f, it_eq_t, it_eq_f, bz0, bz1, ifg_T, or_true, true_or, if_true, if_false, Option.bind_some, Option.map_some, hn.zn, me_over h hz n5 (show i < n by omega) hj hk]
      by_cases q : 0 ≤ gp z i j k
      · simp (disch := omega) only [iz0, iz1, iz2, iz3, iz4, iz5, iz7, iz8, iz9, iz10, iz15, iz20, iz25, iz30, iz40, iz49, iz99, iz100, iz300, iz343, iz500, iz999, iz1000, iz1200, iz_add, iz_sub, iz_mul, iz_neg, it_le_t, it_le_f, it_lt_t, it_lt_f, it_eq_t, it_eq_f, bz0, bz1, ifg_T, or_true, true_or, if_true, if_false, Option.bind_some, Option.map_some, lz0, lz1, lz_add, lz_sub, lz_mul, lz_neg, lk_le_t, lk_le_f, lk_lt_t, lk_lt_f, lk_gt_t, lk_gt_f, lk_ge_t, lk_ge_f, lk_eq_t, lk_eq_f, lnz, iz_l, lz_i, ok_some, ok_map, lp_l, lp_r, lpA_l, lpA_r, true_and]
        intro m hm
        by_cases r : m = k
        · subst r; exact q
        · exact h2 m (by omega)
      · have : ¬ va z n i j = true := by
          unfold va
          rw [decide_eq_true_eq]
          exact fun r => q (r k hk)
        simp (disch := omega) only [iz0, iz1, iz2, iz3, iz4, iz5, iz7, iz8, iz9, iz10, iz15, iz20, iz25, iz30, iz40, iz49, iz99, iz100, iz300, iz343, iz500, iz999, iz1000, iz1200, iz_add, iz_sub, iz_mul, iz_neg, it_le_t, it_le_f, it_lt_t, it_lt_f, it_eq_t, it_eq_f, bz0, bz1, ifg_T, or_true, true_or, if_true, if_false, Option.bind_some, Option.map_some, lz0, lz1, lz_add, lz_sub, lz_mul, lz_neg, lk_le_t, lk_le_f, lk_lt_t, lk_lt_f, lk_gt_t, lk_gt_f, lk_ge_t, lk_ge_f, lk_eq_t, lk_eq_f, lnz, iz_l, lz_i, ok_some, ok_map, lp_l, lp_r, lpA_l, lpA_r, true_and]
        rw [if_neg this]
    · subst h1
      have : va z n i j = true := by
        unfold va
        rw [decide_eq_true_eq]
        exact h2
      unfold f259_3
      simp (disch := omega) only [iz0, iz1, iz2, iz3, iz4, iz5, iz7, iz8, iz9, iz10, iz15, iz20, iz25, iz30, iz40, iz49, iz99, iz100, iz300, iz343, iz500, iz999, iz1000, iz1200, iz_add, iz_sub, iz_mul, iz_neg, it_le_t, it_le_f, it_lt_t, it_lt_f, it_eq_t, it_eq_f, bz0, bz1, ifg_T, or_true, true_or, if_true, if_false, Option.bind_some, Option.map_some, hn.zn, ok_some, ok_map, lp_l, lp_r, lpA_l, lpA_r, true_and]
      rw [if_pos this]
  obtain ⟨r, e1, e2⟩ := key
  rw [e1, e2]
def eM : Option (Nat × Nat) → Int32 × Int32
  | none => (iz (-1), iz (-1))
  | some q => (iz q.1, iz q.2)
theorem me_in (hn : Mn s b N n) {B T : Int32} {z : Nat → Int} (h : Zr s n B T z) (hz : Zy n z) {w : Int32} {i : Nat} (hi : i < n) {st : Option (Nat × Nat)} (hw : wf z n st) :
    ok (whl (fun q : (Int32 × Int32 × Int32 × xS) => f260_91 101 w B T q.1 q.2.1 (iz i) q.2.2.1 q.2.2.2) ((eM st).1, (eM st).2, iz ((i + 1 : Nat) : Int), s)) (fun r => r = Sum.inl ((eM (inn z n i n st)).1, (eM (inn z n i n st)).2, iz ((i : Int) + 1), s)) := by
  have n5 := hn.2.2.2.2.2
  have n3 := hn.2.2.2.2.1
  refine forzG (fun (c : Int32 × Int32) i s => (c.1, c.2, i, s)) (fun j c v => v = s ∧ c = eM (inn z n i j st)) (i + 1) n (by omega) ⟨rfl, by rw [inn_lo (Nat.le_refl _)]⟩ (fun j c v j0 hj ⟨h1, h2⟩ => ?_) (fun c v ⟨h1, h2⟩ => ?_)
  · subst h1 h2
    have hs := inn_wf (i := i) hw (Nat.le_of_lt hj)
    refine ⟨eM (inn z n i (j + 1) st), v, ?_, rfl, rfl⟩
    rw [inn, if_pos (show i < j by omega)]
    generalize inn z n i j st = u at hs ⊢
    unfold f260_91 f260_168 f260_176
    simp (disch := omega) only [iz0, iz1, iz2, iz3, iz4, iz5, iz7, iz8, iz9, iz10, iz15, iz20, iz25, iz30, iz40, iz49, iz99, iz100, iz300, iz343, iz500, iz999, iz1000, iz1200, iz_add, iz_sub, iz_mul, iz_neg, it_le_t, it_le_f, it_lt_t, it_lt_f, it_eq_t, it_eq_f, bz0, bz1, ifg_T, or_true, true_or, if_true, if_false, Option.bind_some, Option.map_some, hn.zn, me_line hn h hz (show i < j by omega) hj]
    unfold ud
    by_cases q : va z n i j = true
    · simp (disch := omega) only [if_pos q, iz0, iz1, iz2, iz3, iz4, iz5, iz7, iz8, iz9, iz10, iz15, iz20, iz25, iz30, iz40, iz49, iz99, iz100, iz300, iz343, iz500, iz999, iz1000, iz1200, iz_add, iz_sub, iz_mul, iz_neg, it_le_t, it_le_f, it_lt_t, it_lt_f, it_eq_t, it_eq_f, bz0, bz1, ifg_T, or_true, true_or, if_true, if_false, Option.bind_some, Option.map_some]
      cases u with
      | none =>
        simp (disch := omega) only [eM, btr, iz0, iz1, iz2, iz3, iz4, iz5, iz7, iz8, iz9, iz10, iz15, iz20, iz25, iz30, iz40, iz49, iz99, iz100, iz300, iz343, iz500, iz999, iz1000, iz1200, iz_add, iz_sub, iz_mul, iz_neg, it_le_t, it_le_f, it_lt_t, it_lt_f, it_eq_t, it_eq_f, bz0, bz1, ifg_T, or_true, true_or, if_true, if_false, Option.bind_some, Option.map_some]
      | some a =>
        obtain ⟨a1, a2, a3⟩ := hs a rfl
        have m1 := md_bd hz n3 n5 (show i < j by omega) hj
        have m2 := md_bd hz n3 n5 a1 a2
        have p1 := pb (x := md z n i j) (y := (a.2 : Int) - a.1) (B := 100000) (C := 4) (by omega) (by omega) (by omega) (by omega)
        have p2 := pb (x := md z n a.1 a.2) (y := (j : Int) - i) (B := 100000) (C := 4) (by omega) (by omega) (by omega) (by omega)
        simp (disch := omega) only [eM, btr, iz0, iz1, iz2, iz3, iz4, iz5, iz7, iz8, iz9, iz10, iz15, iz20, iz25, iz30, iz40, iz49, iz99, iz100, iz300, iz343, iz500, iz999, iz1000, iz1200, iz_add, iz_sub, iz_mul, iz_neg, it_le_t, it_le_f, it_lt_t, it_lt_f, it_eq_t, it_eq_f, bz0, bz1, ifg_T, or_true, true_or, if_true, if_false, Option.bind_some, Option.map_some, me_mid hn h hz (show i < n by omega) hj, me_mid hn h hz (show a.1 < n by omega) a2]
        simp (disch := omega) only [lz0, lz1, lz_add, lz_sub, lz_mul, lz_neg, lk_le_t, lk_le_f, lk_lt_t, lk_lt_f, lk_gt_t, lk_gt_f, lk_ge_t, lk_ge_f, lk_eq_t, lk_eq_f, lnz, iz_l, lz_i, decide_eq_true_eq]
        by_cases r : md z n i j * ((a.2 : Int) - a.1) < md z n a.1 a.2 * ((j : Int) - i)
        · simp (disch := omega) only [iz0, iz1, iz2, iz3, iz4, iz5, iz7, iz8, iz9, iz10, iz15, iz20, iz25, iz30, iz40, iz49, iz99, iz100, iz300, iz343, iz500, iz999, iz1000, iz1200, iz_add, iz_sub, iz_mul, iz_neg, it_le_t, it_le_f, it_lt_t, it_lt_f, it_eq_t, it_eq_f, bz0, bz1, ifg_T, or_true, true_or, if_true, if_false, Option.bind_some, Option.map_some, lz0, lz1, lz_add, lz_sub, lz_mul, lz_neg, lk_le_t, lk_le_f, lk_lt_t, lk_lt_f, lk_gt_t, lk_gt_f, lk_ge_t, lk_ge_f, lk_eq_t, lk_eq_f, lnz, iz_l, lz_i, if_pos r]
        · simp (disch := omega) only [iz0, iz1, iz2, iz3, iz4, iz5, iz7, iz8, iz9, iz10, iz15, iz20, iz25, iz30, iz40, iz49, iz99, iz100, iz300, iz343, iz500, iz999, iz1000, iz1200, iz_add, iz_sub, iz_mul, iz_neg, it_le_t, it_le_f, it_lt_t, it_lt_f, it_eq_t, it_eq_f, bz0, bz1, ifg_T, or_true, true_or, if_true, if_false, Option.bind_some, Option.map_some, lz0, lz1, lz_add, lz_sub, lz_mul, lz_neg, lk_le_t, lk_le_f, lk_lt_t, lk_lt_f, lk_gt_t, lk_gt_f, lk_ge_t, lk_ge_f, lk_eq_t, lk_eq_f, lnz, iz_l, lz_i, if_neg r]
    · simp (disch := omega) only [if_neg q, iz0, iz1, iz2, iz3, iz4, iz5, iz7, iz8, iz9, iz10, iz15, iz20, iz25, iz30, iz40, iz49, iz99, iz100, iz300, iz343, iz500, iz999, iz1000, iz1200, iz_add, iz_sub, iz_mul, iz_neg, it_le_t, it_le_f, it_lt_t, it_lt_f, it_eq_t, it_eq_f, bz0, bz1, ifg_T, or_true, true_or, if_true, if_false, Option.bind_some, Option.map_some, ite_self]
  · subst h1 h2
    refine ⟨_, ?_, rfl⟩
    unfold f260_91
    simp (disch := omega) only [iz0, iz1, iz2, iz3, iz4, iz5, iz7, iz8, iz9, iz10, iz15, iz20, iz25, iz30, iz40, iz49, iz99, iz100, iz300, iz343, iz500, iz999, iz1000, iz1200, iz_add, iz_sub, iz_mul, iz_neg, it_le_t, it_le_f, it_lt_t, it_lt_f, it_eq_t, it_eq_f, bz0, bz1, ifg_T, or_true, true_or, if_true, if_false, Option.bind_some, Option.map_some, hn.zn]
theorem me_edge (hn : Mn s b N n) {B T : Int32} {z : Nat → Int} (h : Zr s n B T z) (hz : Zy n z) {w : Int} (w0 : -2147483648 ≤ w) (w1 : w ≤ 2147483647) {q : Nat × Nat} (hq : outn z n n = some q) :
    f260_65 101 (iz w) B T s = some (s, (lz (prt (mN (gp z q.1 q.2) n) ((q.2 : Int) - q.1).toNat w)).toInt32) := by
  have n5 := hn.2.2.2.2.2
  have n3 := hn.2.2.2.2.1
  obtain ⟨q1, q2, q3⟩ := outn_wf (z := z) (n := n) (m := n) q hq
  have hb : ∀ k, k ≤ n → 0 ≤ mN (gp z q.1 q.2) k ∧ mN (gp z q.1 q.2) k ≤ 100000 := by
    intro k
    induction k with
    | zero => intro _; simp [mN]
    | succ k ih =>
      intro hk
      have := ih (by omega)
      have := gp_bd hz n5 q1 q2 (show k < n by omega)
      rw [mN]
      split <;> omega
  have key : ok (f260_65 101 (iz w) B T s) (fun r => r = (s, (lz (prt (mN (gp z q.1 q.2) n) ((q.2 : Int) - q.1).toNat w)).toInt32)) := by
    unfold f260_65
    simp only [iz0, iz1, iz_neg]
    refine forzG (fun (c : Int32 × Int32) i s => (c.1, c.2, i, s)) (fun i c v => v = s ∧ c = eM (outn z n i)) 0 n (c0 := (iz (-1), iz (-1))) (by omega) ⟨rfl, rfl⟩ (fun i c v _ hi ⟨h1, h2⟩ => ?_) (fun c v ⟨h1, h2⟩ => ?_)
    · subst h1 h2
      refine ⟨eM (outn z n (i + 1)), v, ?_, rfl, rfl⟩
      obtain ⟨r, e1, e2⟩ := me_in hn h hz (w := iz w) hi (outn_wf (m := i))
      unfold f260_76
      simp (disch := omega) only [iz0, iz1, iz2, iz3, iz4, iz5, iz7, iz8, iz9, iz10, iz15, iz20, iz25, iz30, iz40, iz49, iz99, iz100, iz300, iz343, iz500, iz999, iz1000, iz1200, iz_add, iz_sub, iz_mul, iz_neg, it_le_t, it_le_f, it_lt_t, it_lt_f, it_eq_t, it_eq_f, bz0, bz1, ifg_T, or_true, true_or, if_true, if_false, Option.bind_some, Option.map_some, hn.zn]
      rw [show ((i : Int) + 1) = ((i + 1 : Nat) : Int) from rfl, e1, e2]
      rfl
    · subst h1 h2
      refine ⟨_, ?_, rfl⟩
      rw [hq]
      unfold f260_76
      have k2 : ok (whl (fun u : (Int64 × Int32 × xS) => f260_194 101 (iz w) B T (iz q.1) (iz q.2) u.1 u.2.1 u.2.2) (lz 0, iz ((0 : Nat) : Int), v)) (fun r => r = (v, (lz (prt (mN (gp z q.1 q.2) n) ((q.2 : Int) - q.1).toNat w)).toInt32)) := by
        refine forzA (A := Int64) (fun k L u => u = v ∧ L = lz (mN (gp z q.1 q.2) k)) 0 n (by omega) (by omega) ⟨rfl, rfl⟩ (fun k L u _ hk ⟨h1, h2⟩ => ?_) (fun L u ⟨h1, h2⟩ => ?_)
        · subst h1 h2
          have g1 := hb k (by omega)
          have g2 := gp_bd hz n5 q1 q2 hk
          unfold f260_194 f260_239
          simp (disch := omega) only [iz0, iz1, iz2, iz3, iz4, iz5, iz7, iz8, iz9, iz10, iz15, iz20, iz25, iz30, iz40, iz49, iz99, iz100, iz300, iz343, iz500, iz999, iz1000, iz1200, iz_add, iz_sub, iz_mul, iz_neg, it_le_t, it_le_f, it_lt_t, it_lt_f, it_eq_t, it_eq_f, bz0, bz1, ifg_T, or_true, true_or, if_true, if_false, Option.bind_some, Option.map_some, hn.zn, me_over h hz n5 (show q.1 < n by omega) q2 hk]
          rw [mN]
          by_cases r : mN (gp z q.1 q.2) k < gp z q.1 q.2 k
          · simp (disch := omega) only [iz0, iz1, iz2, iz3, iz4, iz5, iz7, iz8, iz9, iz10, iz15, iz20, iz25, iz30, iz40, iz49, iz99, iz100, iz300, iz343, iz500, iz999, iz1000, iz1200, iz_add, iz_sub, iz_mul, iz_neg, it_le_t, it_le_f, it_lt_t, it_lt_f, it_eq_t, it_eq_f, bz0, bz1, ifg_T, or_true, true_or, if_true, if_false, Option.bind_some, Option.map_some, lz0, lz1, lz_add, lz_sub, lz_mul, lz_neg, lk_le_t, lk_le_f, lk_lt_t, lk_lt_f, lk_gt_t, lk_gt_f, lk_ge_t, lk_ge_f, lk_eq_t, lk_eq_f, lnz, iz_l, lz_i, ok_some, ok_map, lp_l, lp_r, lpA_l, lpA_r, true_and, if_pos r]
          · simp (disch := omega) only [iz0, iz1, iz2, iz3, iz4, iz5, iz7, iz8, iz9, iz10, iz15, iz20, iz25, iz30, iz40, iz49, iz99, iz100, iz300, iz343, iz500, iz999, iz1000, iz1200, iz_add, iz_sub, iz_mul, iz_neg, it_le_t, it_le_f, it_lt_t, it_lt_f, it_eq_t, it_eq_f, bz0, bz1, ifg_T, or_true, true_or, if_true, if_false, Option.bind_some, Option.map_some, lz0, lz1, lz_add, lz_sub, lz_mul, lz_neg, lk_le_t, lk_le_f, lk_lt_t, lk_lt_f, lk_gt_t, lk_gt_f, lk_ge_t, lk_ge_f, lk_eq_t, lk_eq_f, lnz, iz_l, lz_i, ok_some, ok_map, lp_l, lp_r, lpA_l, lpA_r, true_and, if_neg r]
        · subst h1 h2
          have g1 := hb n (by omega)
          unfold f260_194
          simp (disch := omega) only [iz0, iz1, iz2, iz3, iz4, iz5, iz7, iz8, iz9, iz10, iz15, iz20, iz25, iz30, iz40, iz49, iz99, iz100, iz300, iz343, iz500, iz999, iz1000, iz1200, iz_add, iz_sub, iz_mul, iz_neg, it_le_t, it_le_f, it_lt_t, it_lt_f, it_eq_t, it_eq_f, bz0, bz1, ifg_T, or_true, true_or, if_true, if_false, Option.bind_some, Option.map_some, hn.zn, iz_l, lowM, ok_some, ok_map, lp_l, lp_r, lpA_l, lpA_r, true_and]
      obtain ⟨r, e1, e2⟩ := k2
      simp (disch := omega) only [iz0, iz1, iz2, iz3, iz4, iz5, iz7, iz8, iz9, iz10, iz15, iz20, iz25, iz30, iz40, iz49, iz99, iz100, iz300, iz343, iz500, iz999, iz1000, iz1200, iz_add, iz_sub, iz_mul, iz_neg, it_le_t, it_le_f, it_lt_t, it_lt_f, it_eq_t, it_eq_f, bz0, bz1, ifg_T, or_true, true_or, if_true, if_false, Option.bind_some, Option.map_some, hn.zn, eM, lz0]
      rw [show iz 0 = iz ((0 : Nat) : Int) from rfl, e1, e2]
      rfl
  obtain ⟨r, e1, e2⟩ := key
  rw [e1, e2]
end EM
