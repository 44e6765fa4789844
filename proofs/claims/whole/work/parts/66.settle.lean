/-- how the class's settle ends: the plane, its gaps, and the first three cells, which it touches -/
def RRes (X Y Z : Nat → Int) (m : Nat) (x y : Int) (s0 u : xS) : Prop := Rz s0 u ∧ ∃ P Q R D, RP u P Q R D ∧ ge_ov X Y Z m P Q R D ∧ (∀ n, n < m → (u.1 45 n).toInt = P + Q * X n + R * Y n - D * Z n) ∧ ∃ i j k, fi_1 X Y Z m x y m i j k ∧ P + Q * X i + R * Y i = D * Z i ∧ P + Q * X j + R * Y j = D * Z j ∧ P + Q * X k + R * Y k = D * Z k
theorem pairN {X Y : Nat → Int} {p i j k : Nat} (h1 : i < j) (h2 : j < k) (hd : ge_d X Y i j k ≠ 0) : ∃ a b, a < b ∧ ge_d X Y p a b ≠ 0 ∧ (a = i ∨ a = j ∨ a = k) ∧ (b = i ∨ b = j ∨ b = k) := by
  have e := ge_d_add (X := X) (Y := Y) p i j k
  have e2 := ge_d_sw (X := X) (Y := Y) p i k
  by_cases q1 : ge_d X Y p i j = 0
  · by_cases q2 : ge_d X Y p j k = 0
    · exact ⟨i, k, by omega, by omega, Or.inl rfl, Or.inr (Or.inr rfl)⟩
    · exact ⟨j, k, h2, q2, Or.inr (Or.inl rfl), Or.inr (Or.inr rfl)⟩
  · exact ⟨i, j, h1, q1, Or.inl rfl, Or.inr (Or.inl rfl)⟩
theorem pairQ {X Y : Nat → Int} {p q i j k : Nat} (hne : ¬ (X p = X q ∧ Y p = Y q)) (hd : ge_d X Y i j k ≠ 0) : ∃ c, ge_d X Y p q c ≠ 0 ∧ (c = i ∨ c = j ∨ c = k) := by
  by_cases q1 : ge_d X Y p q i = 0
  · by_cases q2 : ge_d X Y p q j = 0
    · by_cases q3 : ge_d X Y p q k = 0
      · exact absurd (col_all q1 q2 q3 hne) hd
      · exact ⟨k, q3, Or.inr (Or.inr rfl)⟩
    · exact ⟨j, q2, Or.inr (Or.inl rfl)⟩
  · exact ⟨i, q1, Or.inl rfl⟩
/-- the end of chooseAmongLike, with what it chose -/
theorem res_of {X Y Z : Nat → Int} {m : Nat} {x y : Int} {s0 u' : xS} {a b c p j k r : Nat} (hm25 : m ≤ 25) (hpt : ∀ i j, i < m → j < m → X i = X j → Y i = Y j → i = j) (hT : fi_T X Y Z m x y m a b c) (hz : Rz s0 u') (hF : RFin X Y Z m u' p j k) (hc : tr_cand X Y Z m p j k) (hr : tr_code X Y Z m p j k r)
    (hh : fi_h X Y Z x y m a b c (fi_s X Y p j k * ge_p X Y Z p j k) (fi_s X Y p j k * ge_q Y Z p j k) (fi_s X Y p j k * ge_r X Z p j k) (fi_D X Y p j k))
    (hmin : ∀ P' Q' R' D' i' j' k', 0 < D' → ge_ov X Y Z m P' Q' R' D' → fi_h X Y Z x y m a b c P' Q' R' D' → gr_t X Y m (fun n => P' + Q' * X n + R' * Y n = D' * Z n) i' j' k' → r ≤ (i' * 25 + j') * 25 + k') : RRes X Y Z m x y s0 u' := by
  have hfe : ∀ n, fi_f X Y Z p j k (X n) (Y n) 1 = fi_s X Y p j k * ge_p X Y Z p j k + fi_s X Y p j k * ge_q Y Z p j k * X n + fi_s X Y p j k * ge_r X Z p j k * Y n := fun n => by rw [fi_f_eq, Int.one_mul]
  obtain ⟨i1, j1, k1, hg, rfl⟩ := hr
  have hov : ge_ov X Y Z m (fi_s X Y p j k * ge_p X Y Z p j k) (fi_s X Y p j k * ge_q Y Z p j k) (fi_s X Y p j k * ge_r X Z p j k) (fi_D X Y p j k) := fun n hn => by rw [← hfe]; exact hc.2 n hn
  have hg2 : gr_t X Y m (fun n => fi_s X Y p j k * ge_p X Y Z p j k + fi_s X Y p j k * ge_q Y Z p j k * X n + fi_s X Y p j k * ge_r X Z p j k * Y n = fi_D X Y p j k * Z n) i1 j1 k1 := gr_congr (fun n _ => by rw [hfe]) hg
  have h1 : fi_1 X Y Z m x y m i1 j1 k1 := by
    refine fi_like hpt hT (fi_Dpos hc.1) hov hh hg2 (fun P' Q' R' D' i' j' k' t1 t2 t3 t4 => ?_)
    have := hmin P' Q' R' D' i' j' k' t1 t2 t3 t4
    have g1 := hg.1
    have g2 := hg.2.1
    have g3 := hg.2.2.1
    have g4 := t4.1
    have g5 := t4.2.1
    have g6 := t4.2.2.1
    exact code_le this (by omega) (by omega) (by omega) (by omega)
  refine ⟨hz, _, _, _, _, hF.1, hov, fun n hn => by rw [hF.2 n hn, hfe], i1, j1, k1, h1, hg2.2.2.2.1, hg2.2.2.2.2.1, hg2.2.2.2.2.2.1⟩
theorem fi_T_ex {X Y Z : Nat → Int} {m : Nat} {x y : Int} {a b c : Nat} (hpt : ∀ i j, i < m → j < m → X i = X j → Y i = Y j → i = j) (hT : fi_T X Y Z m x y m a b c) : ∃ i j k, gr_t X Y m (fun n => ge_p X Y Z a b c + ge_q Y Z a b c * X n + ge_r X Z a b c * Y n = ge_d X Y a b c * Z n) i j k := by
  have hd : ge_d X Y a b c ≠ 0 := by have := hT.1; omega
  exact gr_ex hpt hT.2.1 hT.2.2.1 hT.2.2.2.1 (ge_at_a a b c) (ge_at_b a b c) (ge_at_c a b c) hd
theorem res_N {s0 u : xS} {m : Nat} {X Y Z : Nat → Int} {x y : Int} (hs0 : RS s0 m X Y Z) (hpt : ∀ i j, i < m → j < m → X i = X j → Y i = Y j → i = j) (hz : Rz s0 u) {a b c p : Nat} {x1 : Int32} (h1 : x1.toInt = p) (hp : p < m) (hT : fi_T X Y Z m x y m a b c)
    (hpl : ge_p X Y Z a b c + ge_q Y Z a b c * X p + ge_r X Z a b c * Y p = ge_d X Y a b c * Z p)
    (hiff : ∀ P Q R D, fi_h X Y Z x y m a b c P Q R D ↔ P + Q * X p + R * Y p = D * Z p) : ∃ u', f55 40 x1 (-1) u = some (u', ()) ∧ RRes X Y Z m x y s0 u' := by
  have key : ∀ P' Q' R' D' i' j' k', 0 < D' → ge_ov X Y Z m P' Q' R' D' → P' + Q' * X p + R' * Y p = D' * Z p → gr_t X Y m (fun n => P' + Q' * X n + R' * Y n = D' * Z n) i' j' k' → ∃ j k, j < k ∧ k < m ∧ tr_cand X Y Z m p j k ∧ tr_code X Y Z m p j k ((i' * 25 + j') * 25 + k') := by
    intro P' Q' R' D' i' j' k' t1 t2 t3 t4
    obtain ⟨g1, g2, g3, g4, g5, g6, g7, -⟩ := id t4
    obtain ⟨ja, ka, q1, q2, q3, q4⟩ := pairN (p := p) g1 g2 g7
    have tj : P' + Q' * X ja + R' * Y ja = D' * Z ja := by rcases q3 with rfl | rfl | rfl <;> assumption
    have tk : P' + Q' * X ka + R' * Y ka = D' * Z ka := by rcases q4 with rfl | rfl | rfl <;> assumption
    have := tr_pair t1 t2 q2 t3 tj tk t4
    exact ⟨ja, ka, q1, by omega, this.1, this.2⟩
  obtain ⟨i0, j0, k0, g0⟩ := fi_T_ex hpt hT
  obtain ⟨j1, k1, e1, e2, e3, -⟩ := key _ _ _ _ i0 j0 k0 hT.1 hT.2.2.2.2.2.2.2 hpl g0
  obtain ⟨u', j, k, r, f1, f2, -, f4, f5, f6, f7, f8, f9⟩ := rs_chooseN hs0 hpt hz h1 hp ⟨j1, k1, e1, e2, e3⟩
  refine ⟨u', f1, res_of hs0.2.2.1 hpt hT f2 f4 f7 f8 ((hiff _ _ _ _).mpr ?_) (fun P' Q' R' D' i' j' k' t1 t2 t3 t4 => ?_)⟩
  · have := fi_at (X := X) (Y := Y) (Z := Z) (i := p) (j := j) (k := k) (n := p) (Or.inl rfl)
    rw [fi_f_eq, Int.one_mul] at this
    exact this
  · obtain ⟨ja, ka, q1, q2, q3, q4⟩ := key P' Q' R' D' i' j' k' t1 t2 ((hiff _ _ _ _).mp t3) t4
    exact f9 ja ka _ q1 q2 q3 q4
theorem res_Q {s0 u : xS} {m : Nat} {X Y Z : Nat → Int} {x y : Int} (hs0 : RS s0 m X Y Z) (hpt : ∀ i j, i < m → j < m → X i = X j → Y i = Y j → i = j) (hz : Rz s0 u) {a b c p qq : Nat} {x1 x2 : Int32} (h1 : x1.toInt = p) (h2 : x2.toInt = qq) (hp : p < m) (hq : qq < m) (hpq : p ≠ qq) (hT : fi_T X Y Z m x y m a b c)
    (hpl : ge_p X Y Z a b c + ge_q Y Z a b c * X p + ge_r X Z a b c * Y p = ge_d X Y a b c * Z p) (hql : ge_p X Y Z a b c + ge_q Y Z a b c * X qq + ge_r X Z a b c * Y qq = ge_d X Y a b c * Z qq)
    (hiff : ∀ P Q R D, fi_h X Y Z x y m a b c P Q R D ↔ (P + Q * X p + R * Y p = D * Z p ∧ P + Q * X qq + R * Y qq = D * Z qq)) : ∃ u', f55 40 x1 x2 u = some (u', ()) ∧ RRes X Y Z m x y s0 u' := by
  have hne : ¬ (X p = X qq ∧ Y p = Y qq) := fun q => hpq (hpt p qq hp hq q.1 q.2)
  have key : ∀ P' Q' R' D' i' j' k', 0 < D' → ge_ov X Y Z m P' Q' R' D' → (P' + Q' * X p + R' * Y p = D' * Z p ∧ P' + Q' * X qq + R' * Y qq = D' * Z qq) → gr_t X Y m (fun n => P' + Q' * X n + R' * Y n = D' * Z n) i' j' k' → ∃ k, k < m ∧ tr_cand X Y Z m p qq k ∧ tr_code X Y Z m p qq k ((i' * 25 + j') * 25 + k') := by
    intro P' Q' R' D' i' j' k' t1 t2 t3 t4
    obtain ⟨g1, g2, g3, g4, g5, g6, g7, -⟩ := id t4
    obtain ⟨ka, q2, q4⟩ := pairQ (p := p) (q := qq) hne g7
    have tk : P' + Q' * X ka + R' * Y ka = D' * Z ka := by rcases q4 with rfl | rfl | rfl <;> assumption
    have := tr_pair t1 t2 q2 t3.1 t3.2 tk t4
    exact ⟨ka, by omega, this.1, this.2⟩
  obtain ⟨i0, j0, k0, g0⟩ := fi_T_ex hpt hT
  obtain ⟨k1, e2, e3, -⟩ := key _ _ _ _ i0 j0 k0 hT.1 hT.2.2.2.2.2.2.2 ⟨hpl, hql⟩ g0
  obtain ⟨u', k, r, f1, f2, -, f4, f6, f7, f8, f9⟩ := rs_chooseQ hs0 hpt hz h1 h2 hp hq ⟨k1, e2, e3⟩
  refine ⟨u', f1, res_of hs0.2.2.1 hpt hT f2 f4 f7 f8 ((hiff _ _ _ _).mpr ⟨?_, ?_⟩) (fun P' Q' R' D' i' j' k' t1 t2 t3 t4 => ?_)⟩
  · have := fi_at (X := X) (Y := Y) (Z := Z) (i := p) (j := qq) (k := k) (n := p) (Or.inl rfl)
    rw [fi_f_eq, Int.one_mul] at this
    exact this
  · have := fi_at (X := X) (Y := Y) (Z := Z) (i := p) (j := qq) (k := k) (n := qq) (Or.inr (Or.inl rfl))
    rw [fi_f_eq, Int.one_mul] at this
    exact this
  · obtain ⟨ka, q2, q3, q4⟩ := key P' Q' R' D' i' j' k' t1 t2 ((hiff _ _ _ _).mp t3) t4
    exact f9 ka _ q2 q3 q4
set_option maxHeartbeats 1000000 in
theorem rs_91 {s0 : xS} {m : Nat} {X Y Z : Nat → Int} {x y : Int} (hs0 : RS s0 m X Y Z) (hpt : ∀ i j, i < m → j < m → X i = X j → Y i = Y j → i = j) (hx : (s0.1 40 6).toInt = x) (hy : (s0.1 40 7).toInt = y) (x0 : 0 ≤ x) (x9 : x ≤ 100) (y0 : 0 ≤ y) (y9 : y ≤ 100) (u : xS) (C : Nat → Nat) (hE : REx s0 m X Y Z x y u C) : ∃ r, f49_91 40 u = some (r, ()) ∧ RRes X Y Z m x y s0 r := by
  obtain ⟨hz, hC, hT, hRP, hgap⟩ := hE
  have hs := hs0.rz hz
  obtain ⟨e0, e1, e2⟩ := rs_hold hs hC (x := x) (y := y) (by rw [hz.2.2 6 (by omega)]; exact hx) (by rw [hz.2.2 7 (by omega)]; exact hy) x0 x9 y0 y9
  obtain ⟨c0, l0⟩ := hC 0 (by omega)
  obtain ⟨c1, l1⟩ := hC 1 (by omega)
  obtain ⟨c2, l2⟩ := hC 2 (by omega)
  have neg1 : (-1 : Int32).toInt = -1 := rfl
  have n0 : ¬ u.1 44 0 = -1 := fun q => by rw [q] at c0; omega
  have n1 : ¬ u.1 44 1 = -1 := fun q => by rw [q] at c1; omega
  have n2 : ¬ u.1 44 2 = -1 := fun q => by rw [q] at c2; omega
  have hd : ge_d X Y (C 0) (C 1) (C 2) ≠ 0 := by have := hT.1; omega
  obtain ⟨d1, d2, d3⟩ := ge_dne hd
  have w0 : hd_w X Y C x y m 0 = ge_o X Y (C 1) (C 2) x y m := rfl
  have w1 : hd_w X Y C x y m 1 = ge_o X Y (C 2) (C 0) x y m := rfl
  have w2 : hd_w X Y C x y m 2 = ge_o X Y (C 0) (C 1) x y m := rfl
  rw [w0, w1, w2] at e0 e1 e2
  have hsum := ge_sum (X := X) (Y := Y) (C 0) (C 1) (C 2) x y m
  have hpos : 0 < (m : Int) * ge_d X Y (C 0) (C 1) (C 2) := Int.mul_pos (by have := hs0.2.1; omega) hT.1
  have ga := ge_at_a (X := X) (Y := Y) (Z := Z) (C 0) (C 1) (C 2)
  have gb := ge_at_b (X := X) (Y := Y) (Z := Z) (C 0) (C 1) (C 2)
  have gc := ge_at_c (X := X) (Y := Y) (Z := Z) (C 0) (C 1) (C 2)
  have t1 := hT.2.2.2.2.1
  have t2 := hT.2.2.2.2.2.1
  have t3 := hT.2.2.2.2.2.2.1
  have fin : ∀ (p q : Int32), f54 40 0 u = some (u, p) → f54 40 1 u = some (u, q) → ¬ p = -1 → f54 40 2 u = some (u, -1) → (∃ u', f55 40 p q u = some (u', ()) ∧ RRes X Y Z m x y s0 u') → ∃ r, f49_91 40 u = some (r, ()) ∧ RRes X Y Z m x y s0 r := by
    intro p q a1 a2 a3 a4 ⟨u', a5, a6⟩
    refine ⟨u', ?_, a6⟩
    unfold f49_91
    simp only [a1, a2, a4, Option.bind_some, if_neg a3, if_true, a5, f49_123]
  by_cases p0 : 0 < ge_o X Y (C 1) (C 2) x y m
  · by_cases p1 : 0 < ge_o X Y (C 2) (C 0) x y m
    · by_cases p2 : 0 < ge_o X Y (C 0) (C 1) x y m
      · rw [if_pos p0] at e0
        rw [if_pos p0, if_pos p1, if_pos p2] at e2
        obtain ⟨i, j, k, hg⟩ := fi_T_ex hpt hT
        refine ⟨u, ?_, hz, _, _, _, _, hRP, hT.2.2.2.2.2.2.2, hgap, i, j, k, fi_three1 hpt hT p0 p1 p2 hg, hg.2.2.2.1, hg.2.2.2.2.1, hg.2.2.2.2.2.1⟩
        unfold f49_91
        simp only [e0, e2, Option.bind_some, if_neg n0, if_neg n2, f49_123]
      · rw [if_pos p0] at e0
        rw [if_pos p0, if_pos p1] at e1
        rw [if_pos p0, if_pos p1, if_neg p2] at e2
        refine fin _ _ e0 e1 n0 e2 (res_Q hs0 hpt hz c0 c1 l0 l1 d1 hT ga gb (fun P Q R D => ?_))
        exact ⟨fun h => ⟨h.1 p0, h.2.1 p1⟩, fun h => ⟨fun _ => h.1, fun _ => h.2, fun q => absurd q p2⟩⟩
    · by_cases p2 : 0 < ge_o X Y (C 0) (C 1) x y m
      · rw [if_pos p0] at e0
        rw [if_pos p0, if_neg p1, if_pos p2] at e1
        rw [if_pos p0, if_neg p1] at e2
        refine fin _ _ e0 e1 n0 e2 (res_Q hs0 hpt hz c0 c2 l0 l2 (by omega) hT ga gc (fun P Q R D => ?_))
        exact ⟨fun h => ⟨h.1 p0, h.2.2 p2⟩, fun h => ⟨fun _ => h.1, fun q => absurd q p1, fun _ => h.2⟩⟩
      · rw [if_pos p0] at e0
        rw [if_pos p0, if_neg p1, if_neg p2] at e1
        rw [if_pos p0, if_neg p1] at e2
        refine fin _ _ e0 e1 n0 e2 (res_N hs0 hpt hz c0 l0 hT ga (fun P Q R D => ?_))
        exact ⟨fun h => h.1 p0, fun h => ⟨fun _ => h, fun q => absurd q p1, fun q => absurd q p2⟩⟩
  · rw [if_neg p0] at e0 e1 e2
    by_cases p1 : 0 < ge_o X Y (C 2) (C 0) x y m
    · by_cases p2 : 0 < ge_o X Y (C 0) (C 1) x y m
      · rw [if_pos p1] at e0
        rw [if_pos p1, if_pos p2] at e1
        refine fin _ _ e0 e1 n1 e2 (res_Q hs0 hpt hz c1 c2 l1 l2 (by omega) hT gb gc (fun P Q R D => ?_))
        exact ⟨fun h => ⟨h.2.1 p1, h.2.2 p2⟩, fun h => ⟨fun q => absurd q p0, fun _ => h.1, fun _ => h.2⟩⟩
      · rw [if_pos p1] at e0
        rw [if_pos p1, if_neg p2] at e1
        refine fin _ _ e0 e1 n1 e2 (res_N hs0 hpt hz c1 l1 hT gb (fun P Q R D => ?_))
        exact ⟨fun h => h.2.1 p1, fun h => ⟨fun q => absurd q p0, fun _ => h, fun q => absurd q p2⟩⟩
    · by_cases p2 : 0 < ge_o X Y (C 0) (C 1) x y m
      · rw [if_neg p1, if_pos p2] at e0
        rw [if_neg p1] at e1
        refine fin _ _ e0 e1 n2 e2 (res_N hs0 hpt hz c2 l2 hT gc (fun P Q R D => ?_))
        exact ⟨fun h => h.2.2 p2, fun h => ⟨fun q => absurd q p0, fun q => absurd q p1, fun _ => h⟩⟩
      · exfalso
        omega
/-- the class's settle over points of a rectangle -/
theorem rs_settle {s0 : xS} {m : Nat} {X Y Z : Nat → Int} {x y : Int} (hs0 : RS s0 m X Y Z) (hpt : ∀ i j, i < m → j < m → X i = X j → Y i = Y j → i = j) (hm : m ≤ 24 ∨ (m = 25 ∧ ge_d X Y 0 1 2 = 0)) (hx : (s0.1 40 6).toInt = x) (hy : (s0.1 40 7).toInt = y) (x0 : 0 ≤ x) (x9 : x ≤ 100) (y0 : 0 ≤ y) (y9 : y ≤ 100)
    (hd : 0 < ge_d X Y 0 1 (m - 1)) (w0 : 0 ≤ ge_o X Y 1 (m - 1) x y m) (w1 : 0 ≤ ge_o X Y (m - 1) 0 x y m) (w2 : 0 ≤ ge_o X Y 0 1 x y m) : ∃ r, f49 40 s0 = some (r, ()) ∧ RRes X Y Z m x y s0 r := by
  have m4 := hs0.2.1
  have h5 := hs0.1
  have h3 : (3 : Int32) < s0.1 40 5 := i_lt.mpr (by rw [h5]; have : (3 : Int32).toInt = 3 := rfl; omega)
  have z0 : (0 : Int32).toNatClampNeg = 0 := by decide +kernel
  have z1 : (1 : Int32).toNatClampNeg = 1 := by decide +kernel
  have z2 : (2 : Int32).toNatClampNeg = 2 := by decide +kernel
  have y0' : xm_in (0 : Int32) 3 = true := by decide +kernel
  have y1' : xm_in (1 : Int32) 3 = true := by decide +kernel
  have y2' : xm_in (2 : Int32) 3 = true := by decide +kernel
  have hz : Rz s0 (xm_up (xm_up (xm_up s0.1 44 0 0) 44 1 1) 44 2 (s0.1 40 5 - 1), s0.2) := ((Rz.of44 s0 0 0).tr (Rz.of44 _ 1 1)).tr (Rz.of44 _ 2 _)
  have hsub : (s0.1 40 5 - 1).toInt = ((m - 1 : Nat) : Int) := by
    have := i_sub h5 (show (1 : Int32).toInt = 1 from rfl) (by omega) (by omega)
    omega
  have hl := rs_loop hs0 hm hx hy x0 x9 y0 y9 (Qf := RRes X Y Z m x y s0) (fun u C h => rs_91 hs0 hpt hx hy x0 x9 y0 y9 u C h) hz (C0 := fun n => if n = 0 then 0 else if n = 1 then 1 else m - 1) ⟨fun n hn => ?_, hd, w0, w1, w2⟩
  · obtain ⟨r, e1, e2⟩ := hl
    refine ⟨r, ?_, e2⟩
    unfold f49
    rw [ifg_pos O_40, if_pos h3]
    simp only [R_40_3, Option.bind_some, W_44, y0', y1', y2', if_true, z0, z1, z2]
    rw [← e1]
    rfl
  · rcases (show n = 0 ∨ n = 1 ∨ n = 2 by omega) with rfl | rfl | rfl
    · exact ⟨rfl, by show 0 < m; omega⟩
    · exact ⟨rfl, by show 1 < m; omega⟩
    · exact ⟨hsub, by show m - 1 < m; omega⟩
