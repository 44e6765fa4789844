/-! planes over points of a grid: pure geometry. A plane (P, Q, R, D): D times the height at (x, y) is P + Q x + R y -/
section GE
variable (X Y Z : Nat → Int)
def ge_o (a b : Nat) (x y t : Int) : Int := t * (X a * Y b - X b * Y a) + y * (X b - X a) - x * (Y b - Y a)
def ge_d (a b c : Nat) : Int := (X b - X a) * (Y c - Y a) - (X c - X a) * (Y b - Y a)
def ge_q (a b c : Nat) : Int := (Z b - Z a) * (Y c - Y a) - (Z c - Z a) * (Y b - Y a)
def ge_r (a b c : Nat) : Int := (X b - X a) * (Z c - Z a) - (X c - X a) * (Z b - Z a)
def ge_p (a b c : Nat) : Int := Z a * ge_d X Y a b c - ge_q Y Z a b c * X a - ge_r X Z a b c * Y a
/-- over all the first m points -/
def ge_ov (m : Nat) (P Q R D : Int) : Prop := ∀ k, k < m → D * Z k ≤ P + Q * X k + R * Y k
end GE
section GF
variable {X Y Z : Nat → Int} {m : Nat}
theorem ge_o_d (a b c : Nat) : ge_o X Y a b (X c) (Y c) 1 = ge_d X Y a b c := by
  unfold ge_o ge_d
  grind
theorem ge_d_rot (a b c : Nat) : ge_d X Y b c a = ge_d X Y a b c := by
  unfold ge_d
  grind
theorem ge_d_sw (a b c : Nat) : ge_d X Y a c b = -ge_d X Y a b c := by
  unfold ge_d
  grind
theorem ge_d_sw2 (a b c : Nat) : ge_d X Y b a c = -ge_d X Y a b c := by
  unfold ge_d
  grind
/-- a plane at a point, by the three corners -/
theorem ge_bary (a b c : Nat) (P Q R x y t : Int) : ge_d X Y a b c * (t * P + Q * x + R * y) = ge_o X Y b c x y t * (P + Q * X a + R * Y a) + ge_o X Y c a x y t * (P + Q * X b + R * Y b) + ge_o X Y a b x y t * (P + Q * X c + R * Y c) := by
  unfold ge_o ge_d
  grind
theorem ge_sum (a b c : Nat) (x y t : Int) : ge_o X Y b c x y t + ge_o X Y c a x y t + ge_o X Y a b x y t = t * ge_d X Y a b c := by
  unfold ge_o ge_d
  grind
/-- the plane through three points goes through them -/
theorem ge_at_a (a b c : Nat) : ge_p X Y Z a b c + ge_q Y Z a b c * X a + ge_r X Z a b c * Y a = ge_d X Y a b c * Z a := by
  unfold ge_p
  grind
theorem ge_at_b (a b c : Nat) : ge_p X Y Z a b c + ge_q Y Z a b c * X b + ge_r X Z a b c * Y b = ge_d X Y a b c * Z b := by
  unfold ge_p ge_q ge_r ge_d
  grind
theorem ge_at_c (a b c : Nat) : ge_p X Y Z a b c + ge_q Y Z a b c * X c + ge_r X Z a b c * Y c = ge_d X Y a b c * Z c := by
  unfold ge_p ge_q ge_r ge_d
  grind
theorem ge_same0 {G A B w1 w2 w3 za zb zc D D' : Int} (h1 : G * A = w1 * (D * za) + w2 * (D * zb) + w3 * (D * zc)) (h2 : G * B = w1 * (D' * za) + w2 * (D' * zb) + w3 * (D' * zc)) : G * (D' * A) = G * (D * B) := by grind
/-- two planes through the same three points, not in one line, are the same but for a factor -/
theorem ge_same {a b c : Nat} {P Q R D P' Q' R' D' : Int} (hd : ge_d X Y a b c ≠ 0) (ha : P + Q * X a + R * Y a = D * Z a) (hb : P + Q * X b + R * Y b = D * Z b) (hc : P + Q * X c + R * Y c = D * Z c)
    (ha' : P' + Q' * X a + R' * Y a = D' * Z a) (hb' : P' + Q' * X b + R' * Y b = D' * Z b) (hc' : P' + Q' * X c + R' * Y c = D' * Z c) (x y t : Int) : D' * (t * P + Q * x + R * y) = D * (t * P' + Q' * x + R' * y) := by
  have h1 := ge_bary (X := X) (Y := Y) a b c P Q R x y t
  have h2 := ge_bary (X := X) (Y := Y) a b c P' Q' R' x y t
  rw [ha, hb, hc] at h1
  rw [ha', hb', hc'] at h2
  have h3 := ge_same0 h1 h2
  exact Int.eq_of_mul_eq_mul_left hd h3
/-- a triangle below the middle whose plane is over all: no plane over all is lower there -/
theorem ge_low {a b c : Nat} {P Q R D x y t V : Int} (hD : 0 < D) (hd : 0 < ge_d X Y a b c) (ha : a < m) (hb : b < m) (hc : c < m) (w1 : 0 ≤ ge_o X Y b c x y t) (w2 : 0 ≤ ge_o X Y c a x y t) (w3 : 0 ≤ ge_o X Y a b x y t)
    (ho : ge_ov X Y Z m P Q R D) (hV : V = ge_o X Y b c x y t * Z a + ge_o X Y c a x y t * Z b + ge_o X Y a b x y t * Z c) : D * V ≤ ge_d X Y a b c * (t * P + Q * x + R * y) := by
  rw [ge_bary, hV]
  have e1 := Int.mul_le_mul_of_nonneg_left (ho a ha) w1
  have e2 := Int.mul_le_mul_of_nonneg_left (ho b hb) w2
  have e3 := Int.mul_le_mul_of_nonneg_left (ho c hc) w3
  grind
/-- and one that is as low touches each corner that holds the middle -/
theorem ge_touch {a b c : Nat} {P Q R D x y t V : Int} (ha : a < m) (hb : b < m) (hc : c < m) (w1 : 0 ≤ ge_o X Y b c x y t) (w2 : 0 ≤ ge_o X Y c a x y t) (w3 : 0 ≤ ge_o X Y a b x y t)
    (ho : ge_ov X Y Z m P Q R D) (hV : V = ge_o X Y b c x y t * Z a + ge_o X Y c a x y t * Z b + ge_o X Y a b x y t * Z c) (he : D * V = ge_d X Y a b c * (t * P + Q * x + R * y)) :
    (0 < ge_o X Y b c x y t → P + Q * X a + R * Y a = D * Z a) ∧ (0 < ge_o X Y c a x y t → P + Q * X b + R * Y b = D * Z b) ∧ (0 < ge_o X Y a b x y t → P + Q * X c + R * Y c = D * Z c) := by
  rw [ge_bary, hV] at he
  have e1 := ho a ha
  have e2 := ho b hb
  have e3 := ho c hc
  have f1 := Int.mul_nonneg w1 (show 0 ≤ P + Q * X a + R * Y a - D * Z a by omega)
  have f2 := Int.mul_nonneg w2 (show 0 ≤ P + Q * X b + R * Y b - D * Z b by omega)
  have f3 := Int.mul_nonneg w3 (show 0 ≤ P + Q * X c + R * Y c - D * Z c by omega)
  have fs : ge_o X Y b c x y t * (P + Q * X a + R * Y a - D * Z a) + ge_o X Y c a x y t * (P + Q * X b + R * Y b - D * Z b) + ge_o X Y a b x y t * (P + Q * X c + R * Y c - D * Z c) = 0 := by grind
  have z1 : ge_o X Y b c x y t * (P + Q * X a + R * Y a - D * Z a) = 0 := by omega
  have z2 : ge_o X Y c a x y t * (P + Q * X b + R * Y b - D * Z b) = 0 := by omega
  have z3 : ge_o X Y a b x y t * (P + Q * X c + R * Y c - D * Z c) = 0 := by omega
  refine ⟨fun h => ?_, fun h => ?_, fun h => ?_⟩
  · rcases Int.mul_eq_zero.mp z1 with q | q <;> omega
  · rcases Int.mul_eq_zero.mp z2 with q | q <;> omega
  · rcases Int.mul_eq_zero.mp z3 with q | q <;> omega
/-- the value of the triangle's own plane at the middle -/
theorem ge_val (a b c : Nat) (x y t : Int) (hd : ge_d X Y a b c ≠ 0) : t * ge_p X Y Z a b c + ge_q Y Z a b c * x + ge_r X Z a b c * y = ge_o X Y b c x y t * Z a + ge_o X Y c a x y t * Z b + ge_o X Y a b x y t * Z c := by
  have h := ge_bary (X := X) (Y := Y) a b c (ge_p X Y Z a b c) (ge_q Y Z a b c) (ge_r X Z a b c) x y t
  rw [ge_at_a, ge_at_b, ge_at_c] at h
  have h2 : ge_d X Y a b c * (t * ge_p X Y Z a b c + ge_q Y Z a b c * x + ge_r X Z a b c * y) = ge_d X Y a b c * (ge_o X Y b c x y t * Z a + ge_o X Y c a x y t * Z b + ge_o X Y a b x y t * Z c) := by grind
  exact Int.eq_of_mul_eq_mul_left hd h2
/-- a corner exchanged for the point e: the weights of any point in the new triangle (e, b, c) -/
theorem ge_ex_b (a b c e : Nat) (x y t : Int) : ge_d X Y a b c * ge_o X Y c e x y t = ge_o X Y c a x y t * ge_d X Y b c e - ge_o X Y b c x y t * ge_d X Y c a e := by
  unfold ge_o ge_d
  grind
theorem ge_ex_c (a b c e : Nat) (x y t : Int) : ge_d X Y a b c * ge_o X Y e b x y t = ge_o X Y a b x y t * ge_d X Y b c e - ge_o X Y b c x y t * ge_d X Y a b e := by
  unfold ge_o ge_d
  grind
end GF
