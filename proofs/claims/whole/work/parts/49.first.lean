/-! the plane that the trial of all threes finds, and the plane of a triangle below the middle -/
section FI
variable (X Y Z : Nat → Int) (m : Nat) (x y t : Int)
def fi_s (i j k : Nat) : Int := if ge_d X Y i j k < 0 then -1 else 1
/-- the plane through three points, its denominator above 0: value at (px, py), times pt -/
def fi_D (i j k : Nat) : Int := fi_s X Y i j k * ge_d X Y i j k
def fi_f (i j k : Nat) (px py pt : Int) : Int := fi_s X Y i j k * (pt * ge_p X Y Z i j k + ge_q Y Z i j k * px + ge_r X Z i j k * py)
/-- three cells, not in one line, whose plane is over all -/
def fi_c (i j k : Nat) : Prop := i < j ∧ j < k ∧ k < m ∧ ge_d X Y i j k ≠ 0 ∧ ∀ n, n < m → fi_D X Y i j k * Z n ≤ fi_f X Y Z i j k (X n) (Y n) 1
/-- and none is lower over the middle -/
def fi_l (i j k : Nat) : Prop := fi_c X Y Z m i j k ∧ ∀ i' j' k', fi_c X Y Z m i' j' k' → fi_f X Y Z i j k x y t * fi_D X Y i' j' k' ≤ fi_f X Y Z i' j' k' x y t * fi_D X Y i j k
/-- the first such three cells -/
def fi_1 (i j k : Nat) : Prop := fi_l X Y Z m x y t i j k ∧ ∀ i' j' k', fi_l X Y Z m x y t i' j' k' → i < i' ∨ (i = i' ∧ (j < j' ∨ (j = j' ∧ k ≤ k')))
end FI
section FJ
variable {X Y Z : Nat → Int} {m : Nat} {x y t : Int}
theorem fi_Dpos {i j k : Nat} (h : ge_d X Y i j k ≠ 0) : 0 < fi_D X Y i j k := by
  unfold fi_D fi_s
  split <;> omega
theorem fi_1_unique {i j k i' j' k' : Nat} (h : fi_1 X Y Z m x y t i j k) (h' : fi_1 X Y Z m x y t i' j' k') : i = i' ∧ j = j' ∧ k = k' := by
  have h1 := h.2 i' j' k' h'.1
  have h2 := h'.2 i j k h.1
  omega
/-- the plane goes through its points -/
theorem fi_at {i j k n : Nat} (hn : n = i ∨ n = j ∨ n = k) : fi_f X Y Z i j k (X n) (Y n) 1 = fi_D X Y i j k * Z n := by
  unfold fi_f fi_D
  have : 1 * ge_p X Y Z i j k + ge_q Y Z i j k * X n + ge_r X Z i j k * Y n = ge_d X Y i j k * Z n := by
    rw [Int.one_mul]
    rcases hn with rfl | rfl | rfl
    · exact ge_at_a _ _ _
    · exact ge_at_b _ _ _
    · exact ge_at_c _ _ _
  rw [this, Int.mul_assoc]
/-- fi_f as a plane (P, Q, R) -/
theorem fi_f_eq (i j k : Nat) (px py pt : Int) : fi_f X Y Z i j k px py pt = pt * (fi_s X Y i j k * ge_p X Y Z i j k) + (fi_s X Y i j k * ge_q Y Z i j k) * px + (fi_s X Y i j k * ge_r X Z i j k) * py := by
  unfold fi_f
  generalize fi_s X Y i j k = s
  grind
/-- a plane over all through three points, not in one line, in any order: it is the plane of the three in order -/
theorem fi_prop {i j k : Nat} {P Q R D : Int} (hd : ge_d X Y i j k ≠ 0) (hi : P + Q * X i + R * Y i = D * Z i) (hj : P + Q * X j + R * Y j = D * Z j) (hk : P + Q * X k + R * Y k = D * Z k) (px py pt : Int) : D * fi_f X Y Z i j k px py pt = fi_D X Y i j k * (pt * P + Q * px + R * py) := by
  have e1 : ∀ n, (n = i ∨ n = j ∨ n = k) → fi_s X Y i j k * ge_p X Y Z i j k + fi_s X Y i j k * ge_q Y Z i j k * X n + fi_s X Y i j k * ge_r X Z i j k * Y n = fi_D X Y i j k * Z n := by
    intro n hn
    have h1 := fi_at (X := X) (Y := Y) (Z := Z) hn
    rw [fi_f_eq, Int.one_mul] at h1
    exact h1
  rw [fi_f_eq]
  exact ge_same hd (e1 i (Or.inl rfl)) (e1 j (Or.inr (Or.inl rfl))) (e1 k (Or.inr (Or.inr rfl))) hi hj hk px py pt
theorem fi_ov {i j k : Nat} {P Q R D : Int} (hD : 0 < D) (hd : ge_d X Y i j k ≠ 0) (hi : P + Q * X i + R * Y i = D * Z i) (hj : P + Q * X j + R * Y j = D * Z j) (hk : P + Q * X k + R * Y k = D * Z k) (ho : ge_ov X Y Z m P Q R D) : ∀ n, n < m → fi_D X Y i j k * Z n ≤ fi_f X Y Z i j k (X n) (Y n) 1 := by
  intro n hn
  have h1 := fi_prop hd hi hj hk (X n) (Y n) 1
  have h2 := ho n hn
  have h3 := fi_Dpos (X := X) (Y := Y) hd
  have h4 := Int.mul_le_mul_of_nonneg_left h2 (show 0 ≤ fi_D X Y i j k by omega)
  refine Int.le_of_mul_le_mul_left (a := D) ?_ hD
  rw [h1, Int.one_mul]
  have h5 : D * (fi_D X Y i j k * Z n) = fi_D X Y i j k * (D * Z n) := by grind
  omega
/-- three points not in one line can be put in order -/
theorem fi_sort {a b c : Nat} (hd : ge_d X Y a b c ≠ 0) : ∃ i j k, i < j ∧ j < k ∧ ge_d X Y i j k ≠ 0 ∧ (∀ n, (n = i ∨ n = j ∨ n = k) ↔ (n = a ∨ n = b ∨ n = c)) := by
  obtain ⟨n1, n2, n3⟩ := ge_dne hd
  obtain ⟨i, j, k, p1, p2, -, p4⟩ := tr_cs a b c n1 n2 n3
  have r1 := ge_d_rot (X := X) (Y := Y) i j k
  have r2 := ge_d_rot (X := X) (Y := Y) j k i
  have r3 := ge_d_sw (X := X) (Y := Y) i j k
  have r4 := ge_d_rot (X := X) (Y := Y) i k j
  have r5 := ge_d_rot (X := X) (Y := Y) k j i
  refine ⟨i, j, k, p1, p2, ?_, ?_⟩
  · rcases p4 with ⟨rfl, rfl, rfl⟩ | ⟨rfl, rfl, rfl⟩ | ⟨rfl, rfl, rfl⟩ | ⟨rfl, rfl, rfl⟩ | ⟨rfl, rfl, rfl⟩ | ⟨rfl, rfl, rfl⟩ <;> omega
  · intro n
    rcases p4 with ⟨rfl, rfl, rfl⟩ | ⟨rfl, rfl, rfl⟩ | ⟨rfl, rfl, rfl⟩ | ⟨rfl, rfl, rfl⟩ | ⟨rfl, rfl, rfl⟩ | ⟨rfl, rfl, rfl⟩ <;> omega
/-- a triangle below the middle: its weights, its plane over all -/
def fi_T (X Y Z : Nat → Int) (m : Nat) (x y t : Int) (a b c : Nat) : Prop := 0 < ge_d X Y a b c ∧ a < m ∧ b < m ∧ c < m ∧ 0 ≤ ge_o X Y b c x y t ∧ 0 ≤ ge_o X Y c a x y t ∧ 0 ≤ ge_o X Y a b x y t ∧ ge_ov X Y Z m (ge_p X Y Z a b c) (ge_q Y Z a b c) (ge_r X Z a b c) (ge_d X Y a b c)
/-- it touches what holds the middle -/
def fi_h (X Y Z : Nat → Int) (x y t : Int) (a b c : Nat) (P Q R D : Int) : Prop := (0 < ge_o X Y b c x y t → P + Q * X a + R * Y a = D * Z a) ∧ (0 < ge_o X Y c a x y t → P + Q * X b + R * Y b = D * Z b) ∧ (0 < ge_o X Y a b x y t → P + Q * X c + R * Y c = D * Z c)
theorem fi_h_val {a b c : Nat} {P Q R D : Int} (hT : fi_T X Y Z m x y t a b c) (hh : fi_h X Y Z x y t a b c P Q R D) : D * bl_v X Y Z x y t a b c = ge_d X Y a b c * (t * P + Q * x + R * y) := by
  obtain ⟨-, -, -, -, w1, w2, w3, -⟩ := hT
  rw [ge_bary]
  unfold bl_v
  have e1 : ge_o X Y b c x y t * (P + Q * X a + R * Y a) = ge_o X Y b c x y t * (D * Z a) := by
    by_cases q : 0 < ge_o X Y b c x y t
    · rw [hh.1 q]
    · rw [show ge_o X Y b c x y t = 0 by omega]; simp
  have e2 : ge_o X Y c a x y t * (P + Q * X b + R * Y b) = ge_o X Y c a x y t * (D * Z b) := by
    by_cases q : 0 < ge_o X Y c a x y t
    · rw [hh.2.1 q]
    · rw [show ge_o X Y c a x y t = 0 by omega]; simp
  have e3 : ge_o X Y a b x y t * (P + Q * X c + R * Y c) = ge_o X Y a b x y t * (D * Z c) := by
    by_cases q : 0 < ge_o X Y a b x y t
    · rw [hh.2.2 q]
    · rw [show ge_o X Y a b x y t = 0 by omega]; simp
  rw [e1, e2, e3]
  grind
theorem fi_val_h {a b c : Nat} {P Q R D : Int} (hT : fi_T X Y Z m x y t a b c) (ho : ge_ov X Y Z m P Q R D) (he : D * bl_v X Y Z x y t a b c = ge_d X Y a b c * (t * P + Q * x + R * y)) : fi_h X Y Z x y t a b c P Q R D := by
  obtain ⟨-, ha, hb, hc, w1, w2, w3, -⟩ := hT
  exact ge_touch ha hb hc w1 w2 w3 ho rfl he
/-- three cells whose plane is over all are lowest just if their plane touches what holds the middle -/
theorem fi_l_iff {a b c i j k : Nat} (hT : fi_T X Y Z m x y t a b c) (hc : fi_c X Y Z m i j k) : fi_l X Y Z m x y t i j k ↔ fi_h X Y Z x y t a b c (fi_s X Y i j k * ge_p X Y Z i j k) (fi_s X Y i j k * ge_q Y Z i j k) (fi_s X Y i j k * ge_r X Z i j k) (fi_D X Y i j k) := by
  have ovOf : ∀ i j k, fi_c X Y Z m i j k → ge_ov X Y Z m (fi_s X Y i j k * ge_p X Y Z i j k) (fi_s X Y i j k * ge_q Y Z i j k) (fi_s X Y i j k * ge_r X Z i j k) (fi_D X Y i j k) := by
    intro i j k h n hn
    have := h.2.2.2.2 n hn
    rw [fi_f_eq, Int.one_mul] at this
    exact this
  have lowOf : ∀ i j k, fi_c X Y Z m i j k → fi_D X Y i j k * bl_v X Y Z x y t a b c ≤ ge_d X Y a b c * fi_f X Y Z i j k x y t := by
    intro i j k h
    rw [fi_f_eq]
    exact ge_low (fi_Dpos h.2.2.2.1) hT.1 hT.2.1 hT.2.2.1 hT.2.2.2.1 hT.2.2.2.2.1 hT.2.2.2.2.2.1 hT.2.2.2.2.2.2.1 (ovOf i j k h) rfl
  have hTd : ge_d X Y a b c ≠ 0 := by have := hT.1; omega
  obtain ⟨a1, b1, c1, q1, q2, q3, q4⟩ := fi_sort hTd
  have hT1 : fi_c X Y Z m a1 b1 c1 := by
    have m1 := (q4 a1).mp (Or.inl rfl)
    have m2 := (q4 b1).mp (Or.inr (Or.inl rfl))
    have m3 := (q4 c1).mp (Or.inr (Or.inr rfl))
    have thr : ∀ n, (n = a ∨ n = b ∨ n = c) → ge_p X Y Z a b c + ge_q Y Z a b c * X n + ge_r X Z a b c * Y n = ge_d X Y a b c * Z n := by
      intro n hn
      rcases hn with rfl | rfl | rfl
      · exact ge_at_a _ _ _
      · exact ge_at_b _ _ _
      · exact ge_at_c _ _ _
    have hb := hT.2.1
    have hb2 := hT.2.2.1
    have hb3 := hT.2.2.2.1
    exact ⟨q1, q2, by omega, q3, fi_ov hT.1 q3 (thr a1 m1) (thr b1 m2) (thr c1 m3) hT.2.2.2.2.2.2.2⟩
  have valT : fi_D X Y a1 b1 c1 * bl_v X Y Z x y t a b c = ge_d X Y a b c * fi_f X Y Z a1 b1 c1 x y t := by
    rw [fi_f_eq]
    refine fi_h_val hT ⟨fun _ => ?_, fun _ => ?_, fun _ => ?_⟩
    · have := fi_at (X := X) (Y := Y) (Z := Z) ((q4 a).mpr (Or.inl rfl)); rw [fi_f_eq, Int.one_mul] at this; exact this
    · have := fi_at (X := X) (Y := Y) (Z := Z) ((q4 b).mpr (Or.inr (Or.inl rfl))); rw [fi_f_eq, Int.one_mul] at this; exact this
    · have := fi_at (X := X) (Y := Y) (Z := Z) ((q4 c).mpr (Or.inr (Or.inr rfl))); rw [fi_f_eq, Int.one_mul] at this; exact this
  have hGp := hT.1
  constructor
  · intro h
    refine fi_val_h hT (ovOf i j k hc) ?_
    have h1 := h.2 a1 b1 c1 hT1
    have h2 := lowOf i j k hc
    rw [← fi_f_eq]
    have p1 := fi_Dpos (X := X) (Y := Y) hT1.2.2.2.1
    refine Int.le_antisymm h2 ?_
    have h3 := Int.mul_le_mul_of_nonneg_left h1 (show 0 ≤ ge_d X Y a b c by omega)
    refine Int.le_of_mul_le_mul_left (a := fi_D X Y a1 b1 c1) ?_ p1
    generalize fi_D X Y a1 b1 c1 = D1 at *
    generalize fi_D X Y i j k = D0 at *
    generalize fi_f X Y Z a1 b1 c1 x y t = F1 at *
    generalize fi_f X Y Z i j k x y t = F0 at *
    generalize ge_d X Y a b c = G at *
    generalize bl_v X Y Z x y t a b c = V at *
    have k1 : G * (F1 * D0) = D0 * (D1 * V) := by rw [valT]; grind
    have k2 : G * (F0 * D1) = D1 * (G * F0) := by grind
    have k3 : D1 * (D0 * V) = D0 * (D1 * V) := by grind
    omega
  · intro h
    have h1 := fi_h_val hT h
    rw [← fi_f_eq] at h1
    refine ⟨hc, fun i' j' k' hc' => ?_⟩
    have h2 := lowOf i' j' k' hc'
    have p1 := fi_Dpos (X := X) (Y := Y) hc.2.2.2.1
    have h3 := Int.mul_le_mul_of_nonneg_left h2 (show 0 ≤ fi_D X Y i j k by omega)
    refine Int.le_of_mul_le_mul_left (a := ge_d X Y a b c) ?_ hGp
    generalize fi_D X Y i' j' k' = D1 at *
    generalize fi_D X Y i j k = D0 at *
    generalize fi_f X Y Z i' j' k' x y t = F1 at *
    generalize fi_f X Y Z i j k x y t = F0 at *
    generalize ge_d X Y a b c = G at *
    generalize bl_v X Y Z x y t a b c = V at *
    have k1 : G * (F0 * D1) = D1 * (D0 * V) := by rw [h1]; grind
    have k2 : D0 * (D1 * V) = D1 * (D0 * V) := by grind
    have k3 : G * (F1 * D0) = D0 * (G * F1) := by grind
    omega
end FJ
