theorem ge_d_add {X Y : Nat → Int} (p i j k : Nat) : ge_d X Y i j k = ge_d X Y p i j + ge_d X Y p j k + ge_d X Y p k i := by
  unfold ge_d
  grind
/-- two planes through p, j, k: what the one touches the other touches -/
theorem tr_same {X Y Z : Nat → Int} {p j k : Nat} {P Q R D : Int} (hD : 0 < D) (hd : ge_d X Y p j k ≠ 0) (hp : P + Q * X p + R * Y p = D * Z p) (hj : P + Q * X j + R * Y j = D * Z j) (hk : P + Q * X k + R * Y k = D * Z k) (n : Nat) : P + Q * X n + R * Y n = D * Z n ↔ fi_f X Y Z p j k (X n) (Y n) 1 = fi_D X Y p j k * Z n := by
  have h := fi_prop hd hp hj hk (X n) (Y n) 1
  rw [Int.one_mul] at h
  have hp2 := fi_Dpos (X := X) (Y := Y) hd
  constructor
  · intro q
    rw [q] at h
    refine Int.eq_of_mul_eq_mul_left (a := D) (by omega) ?_
    rw [h]
    grind
  · intro q
    rw [q] at h
    refine Int.eq_of_mul_eq_mul_left (a := fi_D X Y p j k) (by omega) ?_
    rw [← h]
    grind
/-- a plane over all that touches p and has first cells i', j', k': some pair of later cells with p gives it, and its code -/
theorem tr_pair {X Y Z : Nat → Int} {m p j k i' j' k' : Nat} {P Q R D : Int} (hD : 0 < D) (ho : ge_ov X Y Z m P Q R D) (hd : ge_d X Y p j k ≠ 0) (hp : P + Q * X p + R * Y p = D * Z p) (hj : P + Q * X j + R * Y j = D * Z j) (hk : P + Q * X k + R * Y k = D * Z k) (hg : gr_t X Y m (fun n => P + Q * X n + R * Y n = D * Z n) i' j' k') : tr_cand X Y Z m p j k ∧ tr_code X Y Z m p j k ((i' * 25 + j') * 25 + k') :=
  ⟨⟨hd, fi_ov hD hd hp hj hk ho⟩, i', j', k', gr_congr (fun n _ => tr_same hD hd hp hj hk n) hg, rfl⟩
/-- codes are in the order of the cells -/
theorem code_le {i j k i' j' k' : Nat} (h : (i * 25 + j) * 25 + k ≤ (i' * 25 + j') * 25 + k') (a1 : j < 25) (a2 : k < 25) (b1 : j' < 25) (b2 : k' < 25) : i < i' ∨ (i = i' ∧ (j < j' ∨ (j = j' ∧ k ≤ k'))) := by omega
set_option maxHeartbeats 1000000 in
/-- with one corner that holds the middle -/
theorem rs_chooseN {s0 u : xS} {m : Nat} {X Y Z : Nat → Int} (hs0 : RS s0 m X Y Z) (hpt : ∀ i j, i < m → j < m → X i = X j → Y i = Y j → i = j) (hz : Rz s0 u) {p : Nat} {x1 : Int32} (h1 : x1.toInt = p) (hp : p < m) (hex : ∃ j k, j < k ∧ k < m ∧ tr_cand X Y Z m p j k) :
    ∃ u' j k r, f55 40 x1 (-1) u = some (u', ()) ∧ Rz s0 u' ∧ u'.1 44 = u.1 44 ∧ RFin X Y Z m u' p j k ∧ j < m ∧ k < m ∧ tr_cand X Y Z m p j k ∧ tr_code X Y Z m p j k r ∧ ∀ j' k' r', j' < k' → k' < m → tr_cand X Y Z m p j' k' → tr_code X Y Z m p j' k' r' → r ≤ r' := by
  have hm := hs0.1
  have m4 := hs0.2.1
  have m25 := hs0.2.2.1
  have hm1 : (u.1 40 5).toInt = m := by rw [hz.2.2 5 (by omega)]; exact hm
  have h6 : (u.1 40 5 - 1).toInt = m - 1 := i_sub hm1 rfl (by omega) (by omega)
  have hO := rs_outer hs0 hpt hz (p := p) (lo := 0) (hi := m) (x1 := x1) (x2 := -1) (x4 := u.1 44 0) (x5 := u.1 44 1) (x6 := u.1 40 5 - 1) (y0 := 0) (kf := fun J => J + 1) h1 (by rw [h6]; omega) rfl hp (Nat.zero_le _) (Nat.le_refl _) ?_ ?_
  · obtain ⟨u', j, k, r, e1, e2, e3, e4, e5, e6, e7, e8, e9⟩ := hO
    refine ⟨u', j, k, r, ?_, e2, e3, e4, e5.2, e6, e7, e8, fun j' k' r' t1 t2 t3 t4 => e9 j' k' r' (Nat.zero_le _) (by omega) (by omega) t2 t3 t4⟩
    unfold f55
    rw [ifg_pos O_40]
    have z0 : (0 : Int32).toNatClampNeg = 0 := by decide +kernel
    have z1 : (1 : Int32).toNatClampNeg = 1 := by decide +kernel
    have y0 : xm_in (0 : Int32) 3 = true := by decide +kernel
    have y1 : xm_in (1 : Int32) 3 = true := by decide +kernel
    simp only [R_40_3, Option.bind_some, A_44, y0, y1, if_true, z0, z1]
    unfold f55_34
    rw [if_pos rfl]
    exact e1
  · intro J x7 hJ hJm
    refine ⟨by omega, x7 + 1, by rw [i_add hJ (show (1 : Int32).toInt = 1 from rfl) (by omega) (by omega)]; omega, fun x3 x4 x5 v => ?_⟩
    unfold f55_48
    simp only [if_true]
  · obtain ⟨j, k, t1, t2, t3⟩ := hex
    exact ⟨j, k, Nat.zero_le _, by omega, by omega, t2, t3⟩
set_option maxHeartbeats 1000000 in
/-- with two -/
theorem rs_chooseQ {s0 u : xS} {m : Nat} {X Y Z : Nat → Int} (hs0 : RS s0 m X Y Z) (hpt : ∀ i j, i < m → j < m → X i = X j → Y i = Y j → i = j) (hz : Rz s0 u) {p qq : Nat} {x1 x2 : Int32} (h1 : x1.toInt = p) (h2 : x2.toInt = qq) (hp : p < m) (hq : qq < m) (hex : ∃ k, k < m ∧ tr_cand X Y Z m p qq k) :
    ∃ u' k r, f55 40 x1 x2 u = some (u', ()) ∧ Rz s0 u' ∧ u'.1 44 = u.1 44 ∧ RFin X Y Z m u' p qq k ∧ k < m ∧ tr_cand X Y Z m p qq k ∧ tr_code X Y Z m p qq k r ∧ ∀ k' r', k' < m → tr_cand X Y Z m p qq k' → tr_code X Y Z m p qq k' r' → r ≤ r' := by
  have hx2 : ¬ x2 = -1 := fun q => by rw [q] at h2; have : (-1 : Int32).toInt = -1 := rfl; omega
  have hO := rs_outer hs0 hpt hz (p := p) (lo := qq) (hi := qq + 1) (x1 := x1) (x2 := x2) (x4 := u.1 44 0) (x5 := u.1 44 1) (x6 := x2) (y0 := x2) (kf := fun _ => 0) h1 (by rw [h2]; omega) h2 hp (by omega) (by omega) ?_ ?_
  · obtain ⟨u', j, k, r, e1, e2, e3, e4, e5, e6, e7, e8, e9⟩ := hO
    have ej : j = qq := by omega
    subst ej
    refine ⟨u', k, r, ?_, e2, e3, e4, e6, e7, e8, fun k' r' t1 t2 t3 => e9 j k' r' (Nat.le_refl _) (by omega) (Nat.zero_le _) t1 t2 t3⟩
    unfold f55
    rw [ifg_pos O_40]
    have z0 : (0 : Int32).toNatClampNeg = 0 := by decide +kernel
    have z1 : (1 : Int32).toNatClampNeg = 1 := by decide +kernel
    have y0 : xm_in (0 : Int32) 3 = true := by decide +kernel
    have y1 : xm_in (1 : Int32) 3 = true := by decide +kernel
    simp only [R_40_3, Option.bind_some, A_44, y0, y1, if_true, z0, z1]
    unfold f55_34
    rw [if_neg hx2, if_neg hx2]
    exact e1
  · intro J x7 hJ hJm
    refine ⟨Nat.zero_le _, 0, rfl, fun x3 x4 x5 v => ?_⟩
    unfold f55_48
    rw [if_neg hx2]
  · obtain ⟨k, t1, t2⟩ := hex
    exact ⟨qq, k, Nat.le_refl _, by omega, Nat.zero_le _, t1, t2⟩
