/-! the exchange of corners never comes back (Bland): pure -/
section BL
variable (X Y Z : Nat → Int) (x y t : Int)
/-- the plane of a triangle at point k -/
def bl_f (a b c k : Nat) : Int := ge_p X Y Z a b c + ge_q Y Z a b c * X k + ge_r X Z a b c * Y k
/-- one exchange: a goes out of the triangle (a, b, c), e comes in -/
def bl_st (a b c e : Nat) : Prop := 0 < ge_d X Y a b c ∧ 0 ≤ ge_o X Y b c x y t ∧ 0 ≤ ge_o X Y c a x y t ∧ 0 ≤ ge_o X Y a b x y t ∧ bl_f X Y Z a b c e < ge_d X Y a b c * Z e ∧ (∀ k, k < e → ge_d X Y a b c * Z k ≤ bl_f X Y Z a b c k) ∧ 0 < ge_d X Y b c e ∧
  (0 < ge_d X Y c a e → ge_o X Y b c x y t * ge_d X Y c a e < ge_o X Y c a x y t * ge_d X Y b c e ∨ (ge_o X Y b c x y t * ge_d X Y c a e = ge_o X Y c a x y t * ge_d X Y b c e ∧ a < b)) ∧
  (0 < ge_d X Y a b e → ge_o X Y b c x y t * ge_d X Y a b e < ge_o X Y a b x y t * ge_d X Y b c e ∨ (ge_o X Y b c x y t * ge_d X Y a b e = ge_o X Y a b x y t * ge_d X Y b c e ∧ a < c))
/-- the value of the triangle at the middle -/
def bl_v (a b c : Nat) : Int := ge_o X Y b c x y t * Z a + ge_o X Y c a x y t * Z b + ge_o X Y a b x y t * Z c
/-- the weight of a point in the triangle -/
def bl_y (a b c k : Nat) : Int := if k = a then ge_o X Y b c x y t else if k = b then ge_o X Y c a x y t else if k = c then ge_o X Y a b x y t else 0
end BL
/-- the same triangle, turned -/
def bl_rot (a b c a' b' c' : Nat) : Prop := (a' = a ∧ b' = b ∧ c' = c) ∨ (a' = b ∧ b' = c ∧ c' = a) ∨ (a' = c ∧ b' = a ∧ c' = b)
section BM
variable {X Y Z : Nat → Int} {x y t : Int}
theorem ge_dne {a b c : Nat} (h : ge_d X Y a b c ≠ 0) : a ≠ b ∧ b ≠ c ∧ a ≠ c := by
  refine ⟨fun e => h ?_, fun e => h ?_, fun e => h ?_⟩ <;> subst e <;> unfold ge_d <;> grind
theorem bl_rot_d {a b c a' b' c' : Nat} (h : bl_rot a b c a' b' c') : ge_d X Y a' b' c' = ge_d X Y a b c := by
  rcases h with ⟨rfl, rfl, rfl⟩ | ⟨rfl, rfl, rfl⟩ | ⟨rfl, rfl, rfl⟩
  · rfl
  · exact ge_d_rot _ _ _
  · exact (ge_d_rot _ _ _).symm
theorem bl_rot_v {a b c a' b' c' : Nat} (h : bl_rot a b c a' b' c') : bl_v X Y Z x y t a' b' c' = bl_v X Y Z x y t a b c := by
  rcases h with ⟨rfl, rfl, rfl⟩ | ⟨rfl, rfl, rfl⟩ | ⟨rfl, rfl, rfl⟩ <;> unfold bl_v <;> grind
theorem bl_rot_y {a b c a' b' c' : Nat} (hd : ge_d X Y a b c ≠ 0) (h : bl_rot a b c a' b' c') (k : Nat) : bl_y X Y x y t a' b' c' k = bl_y X Y x y t a b c k := by
  obtain ⟨h1, h2, h3⟩ := ge_dne hd
  unfold bl_y
  rcases h with ⟨q1, q2, q3⟩ | ⟨q1, q2, q3⟩ | ⟨q1, q2, q3⟩
  · rw [q1, q2, q3]
  · rw [q1, q2, q3]
    clear q1 q2 q3 hd
    grind
  · rw [q1, q2, q3]
    clear q1 q2 q3 hd
    grind
theorem bl_rot_in {a b c a' b' c' : Nat} (h : bl_rot a b c a' b' c') (k : Nat) : (k = a' ∨ k = b' ∨ k = c') ↔ (k = a ∨ k = b ∨ k = c) := by
  rcases h with ⟨rfl, rfl, rfl⟩ | ⟨rfl, rfl, rfl⟩ | ⟨rfl, rfl, rfl⟩ <;> grind
/-- the new triangle -/
theorem bl_new_d (b c e : Nat) : ge_d X Y e b c = ge_d X Y b c e := by unfold ge_d; grind
theorem bl_fe (a b c e : Nat) (hd : ge_d X Y a b c ≠ 0) : bl_f X Y Z a b c e = ge_d X Y b c e * Z a + ge_d X Y c a e * Z b + ge_d X Y a b e * Z c := by
  have h := ge_val (X := X) (Y := Y) (Z := Z) a b c (X e) (Y e) 1 hd
  rw [ge_o_d, ge_o_d, ge_o_d] at h
  unfold bl_f
  omega
theorem bl_step_v {a b c e : Nat} (h : bl_st X Y Z x y t a b c e) : bl_v X Y Z x y t e b c * ge_d X Y a b c - bl_v X Y Z x y t a b c * ge_d X Y e b c = ge_o X Y b c x y t * (ge_d X Y a b c * Z e - bl_f X Y Z a b c e) := by
  obtain ⟨hd, -⟩ := h
  rw [bl_fe a b c e (by omega), bl_new_d (X := X) (Y := Y) b c e]
  have h1 := ge_ex_b (X := X) (Y := Y) a b c e x y t
  have h2 := ge_ex_c (X := X) (Y := Y) a b c e x y t
  unfold bl_v
  generalize ge_d X Y a b c = G at *
  generalize ge_o X Y b c x y t = wa at *
  generalize ge_o X Y c a x y t = wb at *
  generalize ge_o X Y a b x y t = wc at *
  generalize ge_o X Y c e x y t = wb' at *
  generalize ge_o X Y e b x y t = wc' at *
  generalize ge_d X Y b c e = la at *
  generalize ge_d X Y c a e = lb at *
  generalize ge_d X Y a b e = lc at *
  grind
theorem bl_step_y {a b c e : Nat} (h : bl_st X Y Z x y t a b c e) (h0 : ge_o X Y b c x y t = 0) (hea : e ≠ a) (heb : e ≠ b) (hec : e ≠ c) (k : Nat) : bl_y X Y x y t e b c k * ge_d X Y a b c = bl_y X Y x y t a b c k * ge_d X Y e b c := by
  have hd := h.1
  have hne := ge_dne (X := X) (Y := Y) (show ge_d X Y a b c ≠ 0 by omega)
  rw [bl_new_d (X := X) (Y := Y) b c e]
  have h1 := ge_ex_b (X := X) (Y := Y) a b c e x y t
  have h2 := ge_ex_c (X := X) (Y := Y) a b c e x y t
  rw [h0] at h1 h2
  unfold bl_y
  by_cases q1 : k = e
  · subst q1
    simp [hea, heb, hec, h0]
  · by_cases q2 : k = a
    · subst q2
      simp [q1, hne, h0]
    · by_cases q3 : k = b
      · subst q3
        simp [q1, q2]
        grind
      · by_cases q4 : k = c
        · subst q4
          simp [q1, q2, q3]
          grind
        · simp [q1, q2, q3, q4]
theorem bl_ein {a b c e : Nat} (h : bl_st X Y Z x y t a b c e) : e ≠ a ∧ e ≠ b ∧ e ≠ c := by
  obtain ⟨hd, -, -, -, he, -⟩ := h
  refine ⟨fun q => ?_, fun q => ?_, fun q => ?_⟩
  · subst q
    unfold bl_f at he
    rw [ge_at_a] at he
    omega
  · subst q
    unfold bl_f at he
    rw [ge_at_b] at he
    omega
  · subst q
    unfold bl_f at he
    rw [ge_at_c] at he
    omega
/-- the core of the argument, at two moments: M goes out of (M, b, c) for r, M comes into (a', b', c') -/
theorem bl_core {M b c r a' b' c' : Nat} (h : bl_st X Y Z x y t M b c r) (h' : bl_st X Y Z x y t a' b' c' M) (h0 : ge_o X Y b c x y t = 0) (hr : r < M)
    (fb : ¬ (b = a' ∨ b = b' ∨ b = c') → b < M ∧ ge_o X Y c M x y t = 0) (fc : ¬ (c = a' ∨ c = b' ∨ c = c') → c < M ∧ ge_o X Y M b x y t = 0) : False := by
  obtain ⟨hd, w1, w2, w3, he, -, hl, rb, rc⟩ := h
  obtain ⟨hd', -, -, -, he', hk', -⟩ := h'
  have e1 := hk' r hr
  have e2 := bl_fe (X := X) (Y := Y) (Z := Z) M b c r (by omega)
  have e3 := ge_bary (X := X) (Y := Y) M b c (ge_p X Y Z a' b' c') (ge_q Y Z a' b' c') (ge_r X Z a' b' c') (X r) (Y r) 1
  rw [ge_o_d, ge_o_d, ge_o_d, Int.one_mul] at e3
  change ge_d X Y M b c * bl_f X Y Z a' b' c' r = ge_d X Y b c r * bl_f X Y Z a' b' c' M + ge_d X Y c M r * bl_f X Y Z a' b' c' b + ge_d X Y M b r * bl_f X Y Z a' b' c' c at e3
  have inT : ∀ k, (k = a' ∨ k = b' ∨ k = c') → bl_f X Y Z a' b' c' k = ge_d X Y a' b' c' * Z k := by
    intro k hk
    unfold bl_f
    rcases hk with rfl | rfl | rfl
    · exact ge_at_a _ _ _
    · exact ge_at_b _ _ _
    · exact ge_at_c _ _ _
  have tb : ge_d X Y c M r * (bl_f X Y Z a' b' c' b - ge_d X Y a' b' c' * Z b) ≤ 0 := by
    by_cases q : b = a' ∨ b = b' ∨ b = c'
    · rw [inT b q]; simp
    · obtain ⟨q1, q2⟩ := fb q
      have q3 := hk' b q1
      by_cases q4 : 0 < ge_d X Y c M r
      · exfalso
        rcases rb q4 with q5 | ⟨q5, q6⟩
        · rw [h0, q2] at q5; simp at q5
        · omega
      · exact Int.mul_nonpos_of_nonpos_of_nonneg (by omega) (by omega)
  have tc : ge_d X Y M b r * (bl_f X Y Z a' b' c' c - ge_d X Y a' b' c' * Z c) ≤ 0 := by
    by_cases q : c = a' ∨ c = b' ∨ c = c'
    · rw [inT c q]; simp
    · obtain ⟨q1, q2⟩ := fc q
      have q3 := hk' c q1
      by_cases q4 : 0 < ge_d X Y M b r
      · exfalso
        rcases rc q4 with q5 | ⟨q5, q6⟩
        · rw [h0, q2] at q5; simp at q5
        · omega
      · exact Int.mul_nonpos_of_nonpos_of_nonneg (by omega) (by omega)
  have tM : ge_d X Y b c r * (bl_f X Y Z a' b' c' M - ge_d X Y a' b' c' * Z M) < 0 := Int.mul_neg_of_pos_of_neg hl (by omega)
  have s1 : ge_d X Y a' b' c' * bl_f X Y Z M b c r < ge_d X Y a' b' c' * (ge_d X Y M b c * Z r) := Int.mul_lt_mul_of_pos_left he hd'
  have s2 : ge_d X Y M b c * (ge_d X Y a' b' c' * Z r) ≤ ge_d X Y M b c * bl_f X Y Z a' b' c' r := Int.mul_le_mul_of_nonneg_left e1 (by omega)
  rw [e2] at s1
  generalize ge_d X Y M b c = G at *
  generalize ge_d X Y a' b' c' = G' at *
  generalize bl_f X Y Z a' b' c' r = fr at *
  generalize bl_f X Y Z a' b' c' M = fM at *
  generalize bl_f X Y Z a' b' c' b = fb at *
  generalize bl_f X Y Z a' b' c' c = fc at *
  generalize ge_d X Y b c r = la at *
  generalize ge_d X Y c M r = lb at *
  generalize ge_d X Y M b r = lc at *
  have k1 : la * (fM - G' * Z M) + lb * (fb - G' * Z b) + lc * (fc - G' * Z c) = G * fr - G' * (la * Z M + lb * Z b + lc * Z c) := by grind
  have k2 : G' * (G * Z r) = G * (G' * Z r) := by grind
  omega
end BM
