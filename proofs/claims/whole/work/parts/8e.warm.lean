/-! warm, rest, seed; benches that become others -/
def wm1 (W : Nat → Int) (a : Nat) (m : Int) : Nat → Int := fun k => if k = a then (if W a + m ≤ 99 then W a + m else 99) else W k
theorem wm1_b {W : Nat → Int} (h : ∀ k, k < 100 → 0 ≤ W k ∧ W k ≤ 99) {a : Nat} (ha : a < 100) {m : Int} (m0 : 0 ≤ m) : ∀ k, k < 100 → 0 ≤ wm1 W a m k ∧ wm1 W a m k ≤ 99 := by
  intro k hk
  have h1 := h k hk
  have h2 := h a ha
  unfold wm1
  split
  · split <;> omega
  · exact h1
def isW (s : xS) (id : Nat) (W : Nat → Int) : Prop := (∀ k, k < 100 → s.1 id k = iz (W k)) ∧ ∀ k, k < 100 → 0 ≤ W k ∧ W k ≤ 99
def F1 (a id _k : Nat) : Bool := id == a
theorem F1_s (a k : Nat) : F1 a a k = true := by simp [F1]
theorem cl_warm1 {s : xS} {W : Nat → Int} (h : isW s 35 W) {a : Nat} (ha : a < 100) {m : Int} (m0 : 0 ≤ m) (m20 : m ≤ 20) : ok (f7 33 (iz a) (iz m) s) (fun r => fr (F1 35) s r.1 ∧ isW r.1 35 (wm1 W a m)) := by
  have e := h.1 a ha
  have hb := h.2 a ha
  unfold f7
  rw [ifg_pos O_33]
  simp (disch := omega) only [R_33_1, A_35, W_35, iz0, iz1, iz2, iz3, iz4, iz5, iz7, iz8, iz9, iz10, iz15, iz20, iz25, iz30, iz40, iz49, iz99, iz100, iz300, iz343, iz500, iz999, iz1000, iz1200, iz_add, iz_sub, iz_mul, iz_neg, it_le_t, it_le_f, it_lt_t, it_lt_f, it_eq_t, it_eq_f, bz0, bz1, ifg_T, or_true, true_or, if_true, if_false, Option.bind_some, Option.map_some, iz_in, iz_n, nat_toNat, e, ok_some]
  refine ⟨(fr.rf _ _).ui rfl, fun k hk => ?_, wm1_b h.2 ha m0⟩
  unfold wm1
  dsimp only
  by_cases q : k = a
  · subst q
    rw [if_pos rfl]
    by_cases q2 : W k + m < 99
    · rw [up_eq, it_lt_t q2 (by omega) (by omega), if_pos (by omega)]
    · rw [up_eq, it_lt_f (by omega) (by omega) (by omega)]
      split
      · congr 1; omega
      · rfl
  · rw [up_ix _ _ q, if_neg q]; exact h.1 k hk
theorem mo_warm1 {s : xS} {W : Nat → Int} (h : isW s 114 W) {a : Nat} (ha : a < 100) {m : Int} (m0 : 0 ≤ m) (m20 : m ≤ 20) : ok (f236 101 (iz a) (iz m) s) (fun r => fr (fun id k => id == 114 && Nat.ble (k + 1) 100) s r.1 ∧ isW r.1 114 (wm1 W a m)) := by
  have e := h.1 a ha
  have hb := h.2 a ha
  have hF : (fun id k => id == 114 && Nat.ble (k + 1) 100) 114 a = true := by
    show (114 == 114 && Nat.ble (a + 1) 100) = true
    rw [Nat.ble_eq_true_of_le (by omega)]
    rfl
  unfold f236 f236_31
  rw [ifg_pos O_101]
  by_cases q2 : W a + m ≤ 99
  · simp (disch := omega) only [R_101_21, A_114, W_114, iz0, iz1, iz2, iz3, iz4, iz5, iz7, iz8, iz9, iz10, iz15, iz20, iz25, iz30, iz40, iz49, iz99, iz100, iz300, iz343, iz500, iz999, iz1000, iz1200, iz_add, iz_sub, iz_mul, iz_neg, it_le_t, it_le_f, it_lt_t, it_lt_f, it_eq_t, it_eq_f, bz0, bz1, ifg_T, or_true, true_or, if_true, if_false, Option.bind_some, Option.map_some, iz_in, iz_n, nat_toNat, e, ok_some]
    refine ⟨(fr.rf _ _).ui hF, fun k hk => ?_, wm1_b h.2 ha m0⟩
    unfold wm1
    dsimp only
    by_cases q : k = a
    · subst q
      rw [if_pos rfl, up_eq, if_pos q2]
    · rw [up_ix _ _ q, if_neg q]; exact h.1 k hk
  · simp (disch := omega) only [R_101_21, A_114, W_114, iz0, iz1, iz2, iz3, iz4, iz5, iz7, iz8, iz9, iz10, iz15, iz20, iz25, iz30, iz40, iz49, iz99, iz100, iz300, iz343, iz500, iz999, iz1000, iz1200, iz_add, iz_sub, iz_mul, iz_neg, it_le_t, it_le_f, it_lt_t, it_lt_f, it_eq_t, it_eq_f, bz0, bz1, ifg_T, or_true, true_or, if_true, if_false, Option.bind_some, Option.map_some, iz_in, iz_n, nat_toNat, e, ok_some]
    refine ⟨(fr.rf _ _).ui hF, fun k hk => ?_, wm1_b h.2 ha m0⟩
    unfold wm1
    dsimp only
    by_cases q : k = a
    · subst q
      rw [if_pos rfl, up_eq, if_neg q2]
    · rw [up_ix _ _ q, if_neg q]; exact h.1 k hk
/-- the four beside it, one behind the other -/
def wm5 (n : Nat) (W : Nat → Int) (b y : Nat) (h : Int) : Nat → Int := if n - 1 ≤ y then W else wm1 W (b + n) h
def wm4 (n : Nat) (W : Nat → Int) (b y : Nat) (h : Int) : Nat → Int := wm5 n (if y ≤ 0 then W else wm1 W (b - n) h) b y h
def wm3 (n : Nat) (W : Nat → Int) (b x y : Nat) (h : Int) : Nat → Int := wm4 n (if n - 1 ≤ x then W else wm1 W (b + 1) h) b y h
def wm2 (n : Nat) (W : Nat → Int) (b x y : Nat) (m h : Int) : Nat → Int := wm3 n (if x ≤ 0 then wm1 W b m else wm1 (wm1 W b m) (b - 1) h) b x y h
section WA
variable {s : xS} {n p c : Nat} {W : Nat → Int} {m : Int}
theorem cell_pos {n c x y : Nat} (hc : c < n * n) (ex : c % n = x) (ey : c / n = y) : x < n ∧ y < n ∧ c = n * y + x := by
  subst ex ey
  have e := Nat.div_add_mod c n
  have h0 : 0 < n := Nat.pos_of_ne_zero (fun q => by subst q; omega)
  exact ⟨Nat.mod_lt _ h0, Nat.div_lt_of_lt_mul hc, e.symm⟩
theorem up_ok {n x y : Nat} (hx : x < n) (hy : ¬ n - 1 ≤ y) (hyn : y < n) : n * y + x + n < n * n := by
  have := Nat.mul_le_mul_left n (show y + 1 + 1 ≤ n by omega)
  rw [Nat.mul_add, Nat.mul_add, Nat.mul_one] at this
  omega
theorem dn_ok {n x y : Nat} (hy : ¬ y ≤ 0) : n ≤ n * y + x := by
  have := Nat.mul_le_mul_left n (show 1 ≤ y by omega)
  rw [Nat.mul_one] at this
  omega
theorem cl_w5 (n3 : 3 ≤ n) (n5 : n ≤ 5) {b x y : Nat} (hb : b + n * n ≤ 100) (h : isW s 35 W) {hh : Int} (m0 : 0 ≤ hh) (m20 : hh ≤ 20) (hx : x < n) (hy : y < n) {m : Int} (em : m.tdiv 2 = hh) (mb : 0 ≤ m ∧ m ≤ 20) : ok (f6_80 33 (iz m) (iz n) (iz y) (iz ((b + (n * y + x) : Nat) : Int)) s) (fun r => fr (F1 35) s r.1 ∧ isW r.1 35 (wm5 n W (b + (n * y + x)) y hh)) := by
  unfold f6_80 f6_101 wm5
  by_cases q : n - 1 ≤ y
  · simp (disch := omega) only [iz0, iz1, iz2, iz3, iz4, iz5, iz7, iz8, iz9, iz10, iz15, iz20, iz25, iz30, iz40, iz49, iz99, iz100, iz300, iz343, iz500, iz999, iz1000, iz1200, iz_add, iz_sub, iz_mul, iz_neg, it_le_t, it_le_f, it_lt_t, it_lt_f, it_eq_t, it_eq_f, bz0, bz1, ifg_T, or_true, true_or, if_true, if_false, Option.bind_some, Option.map_some, if_pos q, ok_some]
    exact ⟨fr.rf _ _, h⟩
  · have hu := up_ok hx q hy
    have e : iz (((b + (n * y + x) : Nat) : Int) + n) = iz ((b + (n * y + x) + n : Nat) : Int) := by congr 1
    simp (disch := omega) only [iz0, iz1, iz2, iz3, iz4, iz5, iz7, iz8, iz9, iz10, iz15, iz20, iz25, iz30, iz40, iz49, iz99, iz100, iz300, iz343, iz500, iz999, iz1000, iz1200, iz_add, iz_sub, iz_mul, iz_neg, it_le_t, it_le_f, it_lt_t, it_lt_f, it_eq_t, it_eq_f, bz0, bz1, ifg_T, or_true, true_or, if_true, if_false, Option.bind_some, Option.map_some, if_neg q, iz_div, em, e]
    refine (cl_warm1 h (show b + (n * y + x) + n < 100 by omega) m0 m20).bind (fun r ⟨a1, a2⟩ => ?_)
    rw [ok_some]
    exact ⟨a1, a2⟩
theorem cl_w4 (n3 : 3 ≤ n) (n5 : n ≤ 5) {b x y : Nat} (hb : b + n * n ≤ 100) (h : isW s 35 W) {hh : Int} (m0 : 0 ≤ hh) (m20 : hh ≤ 20) (hx : x < n) (hy : y < n) (hxy : n * y + x < n * n) {m : Int} (em : m.tdiv 2 = hh) (mb : 0 ≤ m ∧ m ≤ 20) : ok (f6_63 33 (iz m) (iz n) (iz y) (iz ((b + (n * y + x) : Nat) : Int)) s) (fun r => fr (F1 35) s r.1 ∧ isW r.1 35 (wm4 n W (b + (n * y + x)) y hh)) := by
  unfold f6_63 wm4
  by_cases q : y ≤ 0
  · simp (disch := omega) only [iz0, iz1, iz2, iz3, iz4, iz5, iz7, iz8, iz9, iz10, iz15, iz20, iz25, iz30, iz40, iz49, iz99, iz100, iz300, iz343, iz500, iz999, iz1000, iz1200, iz_add, iz_sub, iz_mul, iz_neg, it_le_t, it_le_f, it_lt_t, it_lt_f, it_eq_t, it_eq_f, bz0, bz1, ifg_T, or_true, true_or, if_true, if_false, Option.bind_some, Option.map_some, if_pos q]
    exact cl_w5 n3 n5 hb h m0 m20 hx hy em mb
  · have hd := dn_ok (n := n) (x := x) q
    have e : iz (((b + (n * y + x) : Nat) : Int) - n) = iz ((b + (n * y + x) - n : Nat) : Int) := by congr 1; omega
    simp (disch := omega) only [iz0, iz1, iz2, iz3, iz4, iz5, iz7, iz8, iz9, iz10, iz15, iz20, iz25, iz30, iz40, iz49, iz99, iz100, iz300, iz343, iz500, iz999, iz1000, iz1200, iz_add, iz_sub, iz_mul, iz_neg, it_le_t, it_le_f, it_lt_t, it_lt_f, it_eq_t, it_eq_f, bz0, bz1, ifg_T, or_true, true_or, if_true, if_false, Option.bind_some, Option.map_some, if_neg q, iz_div, em, e]
    refine (cl_warm1 h (show b + (n * y + x) - n < 100 by omega) m0 m20).bind (fun r ⟨a1, a2⟩ => ?_)
    exact (cl_w5 n3 n5 hb a2 m0 m20 hx hy em mb).mono (fun r' ⟨c1, c2⟩ => ⟨a1.tr c1, c2⟩)
theorem cl_w3 (n3 : 3 ≤ n) (n5 : n ≤ 5) {b x y : Nat} (hb : b + n * n ≤ 100) (h : isW s 35 W) {hh : Int} (m0 : 0 ≤ hh) (m20 : hh ≤ 20) (hx : x < n) (hy : y < n) (hxy : n * y + x < n * n) {m : Int} (em : m.tdiv 2 = hh) (mb : 0 ≤ m ∧ m ≤ 20) : ok (f6_43 33 (iz m) (iz n) (iz x) (iz y) (iz ((b + (n * y + x) : Nat) : Int)) s) (fun r => fr (F1 35) s r.1 ∧ isW r.1 35 (wm3 n W (b + (n * y + x)) x y hh)) := by
  unfold f6_43 wm3
  by_cases q : n - 1 ≤ x
  · simp (disch := omega) only [iz0, iz1, iz2, iz3, iz4, iz5, iz7, iz8, iz9, iz10, iz15, iz20, iz25, iz30, iz40, iz49, iz99, iz100, iz300, iz343, iz500, iz999, iz1000, iz1200, iz_add, iz_sub, iz_mul, iz_neg, it_le_t, it_le_f, it_lt_t, it_lt_f, it_eq_t, it_eq_f, bz0, bz1, ifg_T, or_true, true_or, if_true, if_false, Option.bind_some, Option.map_some, if_pos q]
    exact cl_w4 n3 n5 hb h m0 m20 hx hy hxy em mb
  · have hr : n * y + x + 1 < n * n := by
      have := Nat.mul_le_mul_left n (show y + 1 ≤ n by omega)
      rw [Nat.mul_add, Nat.mul_one] at this
      omega
    have e : iz (((b + (n * y + x) : Nat) : Int) + 1) = iz ((b + (n * y + x) + 1 : Nat) : Int) := by congr 1
    simp (disch := omega) only [iz0, iz1, iz2, iz3, iz4, iz5, iz7, iz8, iz9, iz10, iz15, iz20, iz25, iz30, iz40, iz49, iz99, iz100, iz300, iz343, iz500, iz999, iz1000, iz1200, iz_add, iz_sub, iz_mul, iz_neg, it_le_t, it_le_f, it_lt_t, it_lt_f, it_eq_t, it_eq_f, bz0, bz1, ifg_T, or_true, true_or, if_true, if_false, Option.bind_some, Option.map_some, if_neg q, iz_div, em, e]
    refine (cl_warm1 h (show b + (n * y + x) + 1 < 100 by omega) m0 m20).bind (fun r ⟨a1, a2⟩ => ?_)
    exact (cl_w4 n3 n5 hb a2 m0 m20 hx hy hxy em mb).mono (fun r' ⟨c1, c2⟩ => ⟨a1.tr c1, c2⟩)
theorem cl_w2 (n3 : 3 ≤ n) (n5 : n ≤ 5) {p x y : Nat} (hp : p < 4) (h : isW s 35 W) (hx : x < n) (hy : y < n) (hxy : n * y + x < n * n) {m : Int} (mb : 1 ≤ m ∧ m ≤ 20) : ok (f6 33 (iz p) (iz (n * y + x : Nat)) (iz m) (iz n) s) (fun r => fr (F1 35) s r.1 ∧ isW r.1 35 (wm2 n W (25 * p + (n * y + x)) x y m (m.tdiv 2))) := by
  have sq : n * n ≤ 25 := mul_le_nat n5 n5
  have hm2 : 0 ≤ m.tdiv 2 ∧ m.tdiv 2 ≤ 20 := by rw [Int.tdiv_eq_ediv_of_nonneg (by omega)]; omega
  have ex : (n * y + x) % n = x := by rw [Nat.mul_add_mod]; exact Nat.mod_eq_of_lt hx
  have ey : (n * y + x) / n = y := by rw [Nat.mul_add_div (by omega), Nat.div_eq_of_lt hx, Nat.add_zero]
  have e1 : iz ((p : Int) * 25 + ((n * y + x : Nat) : Int)) = iz ((25 * p + (n * y + x) : Nat) : Int) := by congr 1; omega
  unfold f6 wm2
  rw [ifg_pos O_33]
  rw [nz (by omega) (by omega) (by omega), nz (by omega) (by omega) (by omega), iz25, iz_mul, iz_add, e1, iz_remN (by omega) (by omega) (by omega), iz_divN (by omega) (by omega) (by omega), ex, ey]
  refine (cl_warm1 h (show 25 * p + (n * y + x) < 100 by omega) (show 0 ≤ m by omega) mb.2).bind (fun r ⟨a1, a2⟩ => ?_)
  by_cases q : x ≤ 0
  · simp (disch := omega) only [iz0, iz1, iz2, iz3, iz4, iz5, iz7, iz8, iz9, iz10, iz15, iz20, iz25, iz30, iz40, iz49, iz99, iz100, iz300, iz343, iz500, iz999, iz1000, iz1200, iz_add, iz_sub, iz_mul, iz_neg, it_le_t, it_le_f, it_lt_t, it_lt_f, it_eq_t, it_eq_f, bz0, bz1, ifg_T, or_true, true_or, if_true, if_false, Option.bind_some, Option.map_some, if_pos q]
    exact (cl_w3 n3 n5 (show 25 * p + n * n ≤ 100 by omega) a2 hm2.1 hm2.2 hx hy hxy rfl ⟨by omega, mb.2⟩).mono (fun r' ⟨c1, c2⟩ => ⟨a1.tr c1, c2⟩)
  · have e : iz (((25 * p + (n * y + x) : Nat) : Int) - 1) = iz ((25 * p + (n * y + x) - 1 : Nat) : Int) := by congr 1; omega
    simp (disch := omega) only [iz0, iz1, iz2, iz3, iz4, iz5, iz7, iz8, iz9, iz10, iz15, iz20, iz25, iz30, iz40, iz49, iz99, iz100, iz300, iz343, iz500, iz999, iz1000, iz1200, iz_add, iz_sub, iz_mul, iz_neg, it_le_t, it_le_f, it_lt_t, it_lt_f, it_eq_t, it_eq_f, bz0, bz1, ifg_T, or_true, true_or, if_true, if_false, Option.bind_some, Option.map_some, if_neg q, iz_div, e]
    refine (cl_warm1 a2 (show 25 * p + (n * y + x) - 1 < 100 by omega) hm2.1 hm2.2).bind (fun r ⟨b1, b2⟩ => ?_)
    exact (cl_w3 n3 n5 (show 25 * p + n * n ≤ 100 by omega) b2 hm2.1 hm2.2 hx hy hxy rfl ⟨by omega, mb.2⟩).mono (fun r' ⟨c1, c2⟩ => ⟨(a1.tr b1).tr c1, c2⟩)
end WA
