/-! ints and longs as whole numbers -/
theorem i_bd (a : Int32) : -2147483648 ≤ a.toInt ∧ a.toInt ≤ 2147483647 := by
  have h1 := Int32.le_toInt a
  have h2 := Int32.toInt_lt a
  omega
theorem l_bd (a : Int64) : -9223372036854775808 ≤ a.toInt ∧ a.toInt ≤ 9223372036854775807 := by
  have h1 := Int64.le_toInt a
  have h2 := Int64.toInt_lt a
  omega
theorem bm32 {x : Int} (h1 : -2147483648 ≤ x) (h2 : x ≤ 2147483647) : x.bmod (2 ^ 32) = x := by
  rw [Int.bmod_def]
  split
  · omega
  · omega
theorem bm64 {x : Int} (h1 : -9223372036854775808 ≤ x) (h2 : x ≤ 9223372036854775807) : x.bmod (2 ^ 64) = x := by
  rw [Int.bmod_def]
  split
  · omega
  · omega
theorem i_add {a b : Int32} {x y : Int} (ha : a.toInt = x) (hb : b.toInt = y) (h1 : -2147483648 ≤ x + y) (h2 : x + y ≤ 2147483647) : (a + b).toInt = x + y := by
  rw [Int32.toInt_add, ha, hb]
  exact bm32 h1 h2
theorem i_sub {a b : Int32} {x y : Int} (ha : a.toInt = x) (hb : b.toInt = y) (h1 : -2147483648 ≤ x - y) (h2 : x - y ≤ 2147483647) : (a - b).toInt = x - y := by
  rw [Int32.toInt_sub, ha, hb]
  exact bm32 h1 h2
theorem i_mul {a b : Int32} {x y : Int} (ha : a.toInt = x) (hb : b.toInt = y) (h1 : -2147483648 ≤ x * y) (h2 : x * y ≤ 2147483647) : (a * b).toInt = x * y := by
  rw [Int32.toInt_mul, ha, hb]
  exact bm32 h1 h2
theorem i_neg {a : Int32} {x : Int} (ha : a.toInt = x) (h1 : -2147483648 < x) : (-a).toInt = -x := by
  have := i_bd a
  rw [Int32.toInt_neg, ha]
  exact bm32 (by omega) (by omega)
theorem l_add {a b : Int64} {x y : Int} (ha : a.toInt = x) (hb : b.toInt = y) (h1 : -9223372036854775808 ≤ x + y) (h2 : x + y ≤ 9223372036854775807) : (a + b).toInt = x + y := by
  rw [Int64.toInt_add, ha, hb]
  exact bm64 h1 h2
theorem l_sub {a b : Int64} {x y : Int} (ha : a.toInt = x) (hb : b.toInt = y) (h1 : -9223372036854775808 ≤ x - y) (h2 : x - y ≤ 9223372036854775807) : (a - b).toInt = x - y := by
  rw [Int64.toInt_sub, ha, hb]
  exact bm64 h1 h2
theorem l_mul {a b : Int64} {x y : Int} (ha : a.toInt = x) (hb : b.toInt = y) (h1 : -9223372036854775808 ≤ x * y) (h2 : x * y ≤ 9223372036854775807) : (a * b).toInt = x * y := by
  rw [Int64.toInt_mul, ha, hb]
  exact bm64 h1 h2
theorem l_neg {a : Int64} {x : Int} (ha : a.toInt = x) (h1 : -9223372036854775808 < x) : (-a).toInt = -x := by
  have := l_bd a
  rw [Int64.toInt_neg, ha]
  exact bm64 (by omega) (by omega)
theorem td_bd {x y : Int} (hy : 0 < y) : (0 ≤ x → 0 ≤ x.tdiv y ∧ x.tdiv y ≤ x) ∧ (x ≤ 0 → x ≤ x.tdiv y ∧ x.tdiv y ≤ 0) := by
  have key : ∀ z : Int, 0 ≤ z → 0 ≤ z.tdiv y ∧ z.tdiv y ≤ z := by
    intro z hz
    rw [Int.tdiv_eq_ediv_of_nonneg hz]
    exact ⟨Int.ediv_nonneg hz (by omega), Int.ediv_le_self _ hz⟩
  refine ⟨key x, fun hx => ?_⟩
  have h := key (-x) (by omega)
  rw [Int.neg_tdiv] at h
  omega
theorem i_div {a b : Int32} {x y : Int} (ha : a.toInt = x) (hb : b.toInt = y) (hy : 0 < y) : (a / b).toInt = x.tdiv y := by
  have h0 := i_bd a
  have h1 := td_bd (x := x) hy
  rw [Int32.toInt_div, ha, hb]
  refine bm32 ?_ ?_
  · rcases Int.le_total 0 x with h | h
    · have := h1.1 h; omega
    · have := h1.2 h; omega
  · rcases Int.le_total 0 x with h | h
    · have := h1.1 h; omega
    · have := h1.2 h; omega
theorem l_div {a b : Int64} {x y : Int} (ha : a.toInt = x) (hb : b.toInt = y) (hy : 0 < y) : (a / b).toInt = x.tdiv y := by
  have h0 := l_bd a
  have h1 := td_bd (x := x) hy
  rw [Int64.toInt_div, ha, hb]
  refine bm64 ?_ ?_
  · rcases Int.le_total 0 x with h | h
    · have := h1.1 h; omega
    · have := h1.2 h; omega
  · rcases Int.le_total 0 x with h | h
    · have := h1.1 h; omega
    · have := h1.2 h; omega
theorem tm_bd {x y : Int} (hy : 0 < y) : (0 ≤ x → 0 ≤ x.tdiv y * y ∧ x.tdiv y * y ≤ x) ∧ (x ≤ 0 → x ≤ x.tdiv y * y ∧ x.tdiv y * y ≤ 0) := by
  have key : ∀ z : Int, 0 ≤ z → 0 ≤ z.tdiv y * y ∧ z.tdiv y * y ≤ z := by
    intro z hz
    rw [Int.tdiv_eq_ediv_of_nonneg hz]
    exact ⟨Int.mul_nonneg (Int.ediv_nonneg hz (by omega)) (by omega), Int.ediv_mul_le _ (by omega)⟩
  refine ⟨key x, fun hx => ?_⟩
  have h := key (-x) (by omega)
  rw [Int.neg_tdiv, Int.neg_mul] at h
  omega
theorem i_rem {a b : Int32} {x y : Int} (ha : a.toInt = x) (hb : b.toInt = y) (hy : 0 < y) : (irm a b).toInt = x.tmod y := by
  have h0 := i_bd a
  have h1 := tm_bd (x := x) hy
  have h2 : (a / b * b).toInt = x.tdiv y * y := by
    refine i_mul (i_div ha hb hy) hb ?_ ?_
    · rcases Int.le_total 0 x with h | h
      · have := h1.1 h; omega
      · have := h1.2 h; omega
    · rcases Int.le_total 0 x with h | h
      · have := h1.1 h; omega
      · have := h1.2 h; omega
  have h4 : x.tmod y = x - x.tdiv y * y := by rw [Int.tmod_def, Int.mul_comm]
  rw [h4]
  refine i_sub ha h2 ?_ ?_
  · rcases Int.le_total 0 x with h | h
    · have := h1.1 h; omega
    · have := h1.2 h; omega
  · rcases Int.le_total 0 x with h | h
    · have := h1.1 h; omega
    · have := h1.2 h; omega
theorem l_rem {a b : Int64} {x y : Int} (ha : a.toInt = x) (hb : b.toInt = y) (hy : 0 < y) : (lrm a b).toInt = x.tmod y := by
  have h0 := l_bd a
  have h1 := tm_bd (x := x) hy
  have h2 : (a / b * b).toInt = x.tdiv y * y := by
    refine l_mul (l_div ha hb hy) hb ?_ ?_
    · rcases Int.le_total 0 x with h | h
      · have := h1.1 h; omega
      · have := h1.2 h; omega
    · rcases Int.le_total 0 x with h | h
      · have := h1.1 h; omega
      · have := h1.2 h; omega
  have h4 : x.tmod y = x - x.tdiv y * y := by rw [Int.tmod_def, Int.mul_comm]
  rw [h4]
  refine l_sub ha h2 ?_ ?_
  · rcases Int.le_total 0 x with h | h
    · have := h1.1 h; omega
    · have := h1.2 h; omega
  · rcases Int.le_total 0 x with h | h
    · have := h1.1 h; omega
    · have := h1.2 h; omega
theorem i_lt {a b : Int32} : a < b ↔ a.toInt < b.toInt := Int32.lt_iff_toInt_lt
theorem i_le {a b : Int32} : a ≤ b ↔ a.toInt ≤ b.toInt := Int32.le_iff_toInt_le
theorem i_eq {a b : Int32} : a = b ↔ a.toInt = b.toInt := Int32.toInt_inj.symm
theorem l_lt {a b : Int64} : a < b ↔ a.toInt < b.toInt := Int64.lt_iff_toInt_lt
theorem l_le {a b : Int64} : a ≤ b ↔ a.toInt ≤ b.toInt := Int64.le_iff_toInt_le
theorem l_eq {a b : Int64} : a = b ↔ a.toInt = b.toInt := Int64.toInt_inj.symm
theorem i2l {a : Int32} {x : Int} (h : a.toInt = x) : a.toInt64.toInt = x := by rw [Int32.toInt_toInt64, h]
theorem l2i {a : Int64} {x : Int} (h : a.toInt = x) (h1 : -2147483648 ≤ x) (h2 : x ≤ 2147483647) : a.toInt32.toInt = x := by
  rw [Int64.toInt_toInt32, h]
  exact bm32 h1 h2
theorem l_cmp {a b : Int64} {x y : Int} (ha : a.toInt = x) (hb : b.toInt = y) : lg_cmp a b = if y < x then 1 else if x = y then 0 else -1 := by
  unfold lg_cmp
  have h1 : (a > b) ↔ y < x := by rw [← ha, ← hb]; exact l_lt
  have h2 : (a = b) ↔ x = y := by rw [← ha, ← hb]; exact l_eq
  simp only [h1, h2]
theorem cmp_lt {a b : Int64} : lg_cmp a b < 0 ↔ a.toInt < b.toInt := by
  rw [l_cmp rfl rfl]
  split
  · constructor
    · intro h; exact absurd h (by decide)
    · intro h; omega
  · split
    · constructor
      · intro h; exact absurd h (by decide)
      · intro h; omega
    · constructor
      · intro h; omega
      · intro h; decide
theorem cmp_eq {a b : Int64} : lg_cmp a b = 0 ↔ a.toInt = b.toInt := by
  rw [l_cmp rfl rfl]
  split
  · constructor
    · intro h; exact absurd h (by decide)
    · intro h; omega
  · split
    · constructor
      · intro h; assumption
      · intro h; rfl
    · constructor
      · intro h; exact absurd h (by decide)
      · intro h; contradiction
theorem cmp_ge {a b : Int64} : 0 ≤ lg_cmp a b ↔ b.toInt ≤ a.toInt := by
  have h := cmp_lt (a := a) (b := b)
  rw [i_lt] at h
  rw [i_le]
  have e : (0 : Int32).toInt = 0 := rfl
  rw [e] at h ⊢
  constructor
  · intro h1; exact Int.not_lt.mp fun h2 => by have := h.mpr h2; omega
  · intro h1; exact Int.not_lt.mp fun h2 => by have := h.mp h2; omega
theorem cmp_gt {a b : Int64} : 0 < lg_cmp a b ↔ b.toInt < a.toInt := by
  have h1 := cmp_ge (a := a) (b := b)
  have h2 := cmp_eq (a := a) (b := b)
  rw [i_le] at h1
  rw [i_eq] at h2
  rw [i_lt]
  have e : (0 : Int32).toInt = 0 := rfl
  rw [e] at h1 h2 ⊢
  omega
theorem cmp_le {a b : Int64} : lg_cmp a b ≤ 0 ↔ a.toInt ≤ b.toInt := by
  have h1 := cmp_gt (a := a) (b := b)
  rw [i_lt] at h1
  rw [i_le]
  have e : (0 : Int32).toInt = 0 := rfl
  rw [e] at h1 ⊢
  omega
/-- an index in its row -/
theorem in_ok {i : Int32} {n : Nat} {x : Int} (h : i.toInt = x) (h0 : 0 ≤ x) (h1 : x < n) : xm_in i n = true := by
  unfold xm_in
  simp only [Bool.and_eq_true, decide_eq_true_eq]
  refine ⟨i_le.mpr ?_, ?_⟩
  · rw [h]; exact h0
  · show i.toInt.toNat < n
    rw [h]
    omega
theorem in_no {i : Int32} {n : Nat} {x : Int} (h : i.toInt = x) (h0 : x < 0 ∨ (n : Int) ≤ x) : xm_in i n = false := by
  unfold xm_in
  rw [Bool.and_eq_false_iff, decide_eq_false_iff_not, decide_eq_false_iff_not]
  rcases h0 with h0 | h0
  · left
    intro h1
    have := i_le.mp h1
    rw [h] at this
    have e : (0 : Int32).toInt = 0 := rfl
    omega
  · right
    intro h1
    have : i.toInt.toNat < n := h1
    rw [h] at this
    omega
theorem cl_nat {i : Int32} {x : Int} (h : i.toInt = x) : i.toNatClampNeg = x.toNat := by
  show i.toInt.toNat = _
  rw [h]
