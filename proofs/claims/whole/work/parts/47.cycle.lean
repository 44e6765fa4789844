/-! the exchange of corners never comes back: the argument over time -/
section CY
variable {X Y Z : Nat → Int} {x y t : Int} {N : Nat} {a b c e : Nat → Nat}
variable (hs : ∀ u, u < N → bl_st X Y Z x y t (a u) (b u) (c u) (e u)) (hr : ∀ u, u + 1 < N → bl_rot (e u) (b u) (c u) (a (u + 1)) (b (u + 1)) (c (u + 1)))
theorem cy_next {u : Nat} (h : u + 1 < N) (hr : ∀ u, u + 1 < N → bl_rot (e u) (b u) (c u) (a (u + 1)) (b (u + 1)) (c (u + 1))) : bl_v X Y Z x y t (a (u + 1)) (b (u + 1)) (c (u + 1)) = bl_v X Y Z x y t (e u) (b u) (c u) ∧ ge_d X Y (a (u + 1)) (b (u + 1)) (c (u + 1)) = ge_d X Y (e u) (b u) (c u) := ⟨bl_rot_v (hr u h), bl_rot_d (hr u h)⟩
theorem cy_step (hs : ∀ u, u < N → bl_st X Y Z x y t (a u) (b u) (c u) (e u)) (hr : ∀ u, u + 1 < N → bl_rot (e u) (b u) (c u) (a (u + 1)) (b (u + 1)) (c (u + 1))) {u : Nat} (h : u + 1 < N) : bl_v X Y Z x y t (a (u + 1)) (b (u + 1)) (c (u + 1)) * ge_d X Y (a u) (b u) (c u) - bl_v X Y Z x y t (a u) (b u) (c u) * ge_d X Y (a (u + 1)) (b (u + 1)) (c (u + 1)) = ge_o X Y (b u) (c u) x y t * (ge_d X Y (a u) (b u) (c u) * Z (e u) - bl_f X Y Z (a u) (b u) (c u) (e u)) := by
  obtain ⟨h1, h2⟩ := cy_next (X := X) (Y := Y) (Z := Z) (x := x) (y := y) (t := t) h hr
  rw [h1, h2]
  exact bl_step_v (hs u (by omega))
theorem cy_mul {v1 d1 v2 d2 v3 d3 : Int} (p1 : 0 < d1) (p2 : 0 < d2) (p3 : 0 < d3) (h1 : v1 * d2 ≤ v2 * d1) (h2 : v2 * d3 ≤ v3 * d2) : v1 * d3 ≤ v3 * d1 := by
  have e1 := Int.mul_le_mul_of_nonneg_right h1 (show 0 ≤ d3 by omega)
  have e2 := Int.mul_le_mul_of_nonneg_right h2 (show 0 ≤ d1 by omega)
  have e3 : d2 * (v1 * d3) ≤ d2 * (v3 * d1) := by
    have k1 : d2 * (v1 * d3) = v1 * d2 * d3 := by grind
    have k2 : v2 * d1 * d3 = v2 * d3 * d1 := by grind
    have k3 : d2 * (v3 * d1) = v3 * d2 * d1 := by grind
    omega
  exact Int.le_of_mul_le_mul_left e3 p2
theorem cy_chain (hs : ∀ u, u < N → bl_st X Y Z x y t (a u) (b u) (c u) (e u)) (hr : ∀ u, u + 1 < N → bl_rot (e u) (b u) (c u) (a (u + 1)) (b (u + 1)) (c (u + 1))) (k : Nat) : ∀ u, u + k < N → bl_v X Y Z x y t (a u) (b u) (c u) * ge_d X Y (a (u + k)) (b (u + k)) (c (u + k)) ≤ bl_v X Y Z x y t (a (u + k)) (b (u + k)) (c (u + k)) * ge_d X Y (a u) (b u) (c u) := by
  induction k with
  | zero => intro u _; exact Int.le_refl _
  | succ k ih =>
    intro u h
    have h1 := ih u (by omega)
    have h2 := cy_step hs hr (u := u + k) (by omega)
    have s1 := hs (u + k) (by omega)
    have h3 := Int.mul_nonneg s1.2.1 (show 0 ≤ ge_d X Y (a (u + k)) (b (u + k)) (c (u + k)) * Z (e (u + k)) - bl_f X Y Z (a (u + k)) (b (u + k)) (c (u + k)) (e (u + k)) by have := s1.2.2.2.2.1; omega)
    exact cy_mul (hs u (by omega)).1 s1.1 (hs (u + (k + 1)) (by omega)).1 h1 (by have e9 : u + (k + 1) = u + k + 1 := rfl; rw [e9]; omega)
theorem cy_zero (hs : ∀ u, u < N → bl_st X Y Z x y t (a u) (b u) (c u) (e u)) (hr : ∀ u, u + 1 < N → bl_rot (e u) (b u) (c u) (a (u + 1)) (b (u + 1)) (c (u + 1))) {s f : Nat} (hf : f < N) (hrot : bl_rot (a s) (b s) (c s) (a f) (b f) (c f)) {u : Nat} (h1 : s ≤ u) (h2 : u < f) : ge_o X Y (b u) (c u) x y t = 0 := by
  have su := hs u (by omega)
  have w := su.2.1
  by_cases h0 : ge_o X Y (b u) (c u) x y t = 0
  · exact h0
  · exfalso
    have st := cy_step hs hr (u := u) (by omega)
    have hp := Int.mul_pos (show 0 < ge_o X Y (b u) (c u) x y t by omega) (show 0 < ge_d X Y (a u) (b u) (c u) * Z (e u) - bl_f X Y Z (a u) (b u) (c u) (e u) by have := su.2.2.2.2.1; omega)
    have c1 := cy_chain hs hr (u - s) s (by omega)
    have c2 := cy_chain hs hr (f - (u + 1)) (u + 1) (by omega)
    rw [show s + (u - s) = u by omega] at c1
    rw [show u + 1 + (f - (u + 1)) = f by omega] at c2
    rw [bl_rot_v hrot, bl_rot_d hrot] at c2
    have c3 := cy_mul (hs (u + 1) (by omega)).1 (hs s (by omega)).1 su.1 c2 c1
    omega
theorem cy_y (hs : ∀ u, u < N → bl_st X Y Z x y t (a u) (b u) (c u) (e u)) (hr : ∀ u, u + 1 < N → bl_rot (e u) (b u) (c u) (a (u + 1)) (b (u + 1)) (c (u + 1))) {s f : Nat} (hf : f < N) (hrot : bl_rot (a s) (b s) (c s) (a f) (b f) (c f)) (k j : Nat) : s + j ≤ f → bl_y X Y x y t (a (s + j)) (b (s + j)) (c (s + j)) k * ge_d X Y (a s) (b s) (c s) = bl_y X Y x y t (a s) (b s) (c s) k * ge_d X Y (a (s + j)) (b (s + j)) (c (s + j)) := by
  induction j with
  | zero => intro _; rfl
  | succ j ih =>
    intro h
    have h1 := ih (by omega)
    have hz := cy_zero hs hr hf hrot (u := s + j) (by omega) (by omega)
    have sj := hs (s + j) (by omega)
    have hro := hr (s + j) (by omega)
    obtain ⟨n1, n2, n3⟩ := bl_ein sj
    have h2 := bl_step_y sj hz n1 n2 n3 k
    have dpos : 0 < ge_d X Y (e (s + j)) (b (s + j)) (c (s + j)) := by rw [bl_new_d]; exact sj.2.2.2.2.2.2.1
    have e1 : bl_y X Y x y t (a (s + (j + 1))) (b (s + (j + 1))) (c (s + (j + 1))) k = bl_y X Y x y t (e (s + j)) (b (s + j)) (c (s + j)) k := bl_rot_y (by omega) hro k
    have e2 : ge_d X Y (a (s + (j + 1))) (b (s + (j + 1))) (c (s + (j + 1))) = ge_d X Y (e (s + j)) (b (s + j)) (c (s + j)) := bl_rot_d hro
    rw [e1, e2]
    have dp := sj.1
    refine Int.eq_of_mul_eq_mul_left (show ge_d X Y (a (s + j)) (b (s + j)) (c (s + j)) ≠ 0 by omega) ?_
    generalize ge_d X Y (a (s + j)) (b (s + j)) (c (s + j)) = G at *
    generalize ge_d X Y (e (s + j)) (b (s + j)) (c (s + j)) = G' at *
    generalize ge_d X Y (a s) (b s) (c s) = G0 at *
    generalize bl_y X Y x y t (e (s + j)) (b (s + j)) (c (s + j)) k = y1 at *
    generalize bl_y X Y x y t (a (s + j)) (b (s + j)) (c (s + j)) k = y0 at *
    generalize bl_y X Y x y t (a s) (b s) (c s) k = ys at *
    clear e1 e2 hs hr sj hro hrot ih hz
    grind
/-- k is a corner at time u -/
def cy_in (a b c : Nat → Nat) (u k : Nat) : Prop := k = a u ∨ k = b u ∨ k = c u
theorem cy_stay (hr : ∀ u, u + 1 < N → bl_rot (e u) (b u) (c u) (a (u + 1)) (b (u + 1)) (c (u + 1))) {u k : Nat} (j : Nat) : u + j < N → cy_in a b c u k → (∀ w, u ≤ w → w < u + j → a w ≠ k) → cy_in a b c (u + j) k := by
  induction j with
  | zero => intro _ h _; exact h
  | succ j ih =>
    intro h1 h2 h3
    have h4 := ih (by omega) h2 (fun w q1 q2 => h3 w q1 (by omega))
    have h5 := h3 (u + j) (by omega) (by omega)
    refine (bl_rot_in (hr (u + j) (by omega)) k).mpr ?_
    rcases h4 with h4 | h4 | h4
    · exact absurd h4.symm h5
    · exact Or.inr (Or.inl h4)
    · exact Or.inr (Or.inr h4)
theorem cy_away (hr : ∀ u, u + 1 < N → bl_rot (e u) (b u) (c u) (a (u + 1)) (b (u + 1)) (c (u + 1))) {u k : Nat} (j : Nat) : u + j < N → ¬ cy_in a b c u k → (∀ w, u ≤ w → w < u + j → e w ≠ k) → ¬ cy_in a b c (u + j) k := by
  induction j with
  | zero => intro _ h _; exact h
  | succ j ih =>
    intro h1 h2 h3 h6
    have h4 := ih (by omega) h2 (fun w q1 q2 => h3 w q1 (by omega))
    have h5 := h3 (u + j) (by omega) (by omega)
    have h7 := (bl_rot_in (hr (u + j) (by omega)) k).mp h6
    rcases h7 with h7 | h7 | h7
    · exact h5 h7.symm
    · exact h4 (Or.inr (Or.inl h7))
    · exact h4 (Or.inr (Or.inr h7))
theorem cy_max (a : Nat → Nat) (s : Nat) (j : Nat) : ∃ u, s ≤ u ∧ u ≤ s + j ∧ ∀ w, s ≤ w → w ≤ s + j → a w ≤ a u := by
  induction j with
  | zero => exact ⟨s, Nat.le_refl _, Nat.le_refl _, fun w h1 h2 => by rw [show w = s by omega]; exact Nat.le_refl _⟩
  | succ j ih =>
    obtain ⟨u, h1, h2, h3⟩ := ih
    by_cases h : a (s + (j + 1)) ≤ a u
    · refine ⟨u, h1, by omega, fun w q1 q2 => ?_⟩
      by_cases q3 : w = s + (j + 1)
      · rw [q3]; exact h
      · exact h3 w q1 (by omega)
    · refine ⟨s + (j + 1), by omega, Nat.le_refl _, fun w q1 q2 => ?_⟩
      by_cases q3 : w = s + (j + 1)
      · rw [q3]; exact Nat.le_refl _
      · have := h3 w q1 (by omega)
        omega
/-- no triangle comes twice -/
theorem cy_no (hs : ∀ u, u < N → bl_st X Y Z x y t (a u) (b u) (c u) (e u)) (hr : ∀ u, u + 1 < N → bl_rot (e u) (b u) (c u) (a (u + 1)) (b (u + 1)) (c (u + 1))) {s f : Nat} (hsf : s < f) (hf : f < N) (hrot : bl_rot (a s) (b s) (c s) (a f) (b f) (c f)) : False := by
  have inST : ∀ k, cy_in a b c f k ↔ cy_in a b c s k := bl_rot_in hrot
  have hz := fun u (h1 : s ≤ u) (h2 : u < f) => cy_zero hs hr hf hrot h1 h2
  have leave : ∀ k u v, s ≤ u → u ≤ f → s ≤ v → v ≤ f → cy_in a b c u k → ¬ cy_in a b c v k → ∃ w, s ≤ w ∧ w < f ∧ a w = k := by
    intro k u v hu1 hu2 hv1 hv2 hku hkv
    by_cases hn : ∃ w, s ≤ w ∧ w < f ∧ a w = k
    · exact hn
    · exfalso
      have hn2 : ∀ w, s ≤ w → w < f → a w ≠ k := fun w q1 q2 q3 => hn ⟨w, q1, q2, q3⟩
      by_cases huv : u ≤ v
      · refine hkv ?_
        have := cy_stay hr (u := u) (k := k) (v - u) (by omega) hku (fun w q1 q2 => hn2 w (by omega) (by omega))
        rw [show u + (v - u) = v by omega] at this
        exact this
      · have h1 := cy_stay hr (u := u) (k := k) (f - u) (by omega) hku (fun w q1 q2 => hn2 w (by omega) (by omega))
        rw [show u + (f - u) = f by omega] at h1
        have h2 := cy_stay hr (u := s) (k := k) (v - s) (by omega) ((inST k).mp h1) (fun w q1 q2 => hn2 w (by omega) (by omega))
        rw [show s + (v - s) = v by omega] at h2
        exact hkv h2
  have outNext : ∀ u, s ≤ u → u < f → ¬ cy_in a b c (u + 1) (a u) := by
    intro u h1 h2 h3
    have su := hs u (by omega)
    obtain ⟨n1, n2, n3⟩ := bl_ein su
    have d := ge_dne (X := X) (Y := Y) (show ge_d X Y (a u) (b u) (c u) ≠ 0 by have := su.1; omega)
    rcases (bl_rot_in (hr u (by omega)) (a u)).mp h3 with q | q | q
    · exact n1 q.symm
    · exact d.1 q
    · exact d.2.2 q
  have enter : ∀ u, s ≤ u → u < f → ∃ w, s ≤ w ∧ w < f ∧ e w = a u := by
    intro u h1 h2
    by_cases hn : ∃ w, s ≤ w ∧ w < f ∧ e w = a u
    · exact hn
    · exfalso
      have hn2 : ∀ w, s ≤ w → w < f → e w ≠ a u := fun w q1 q2 q3 => hn ⟨w, q1, q2, q3⟩
      have h4 := cy_away hr (u := u + 1) (k := a u) (f - (u + 1)) (by omega) (outNext u h1 h2) (fun w q1 q2 => hn2 w (by omega) (by omega))
      rw [show u + 1 + (f - (u + 1)) = f by omega] at h4
      have h5 := cy_away hr (u := s) (k := a u) (u - s) (by omega) (fun q => h4 ((inST _).mpr q)) (fun w q1 q2 => hn2 w (by omega) (by omega))
      rw [show s + (u - s) = u by omega] at h5
      exact h5 (Or.inl rfl)
  obtain ⟨u0, p1, p2, p3⟩ := cy_max a s (f - 1 - s)
  have p2 : u0 < f := by omega
  have p3 : ∀ w, s ≤ w → w < f → a w ≤ a u0 := fun w q1 q2 => p3 w q1 (by omega)
  obtain ⟨v0, r1, r2, r3⟩ := enter u0 p1 p2
  have su := hs u0 (by omega)
  obtain ⟨n1, n2, n3⟩ := bl_ein su
  have hd : ge_d X Y (a u0) (b u0) (c u0) ≠ 0 := by have := su.1; omega
  have dd := ge_dne (X := X) (Y := Y) hd
  have eIn : cy_in a b c (u0 + 1) (e u0) := (bl_rot_in (hr u0 (by omega)) (e u0)).mpr (Or.inl rfl)
  have eOut : ¬ cy_in a b c u0 (e u0) := by
    intro q
    rcases q with q | q | q
    · exact n1 q
    · exact n2 q
    · exact n3 q
  obtain ⟨w1, q1, q2, q3⟩ := leave (e u0) (u0 + 1) u0 (by omega) (by omega) p1 (by omega) eIn eOut
  have hrM : e u0 < a u0 := by
    have := p3 w1 q1 q2
    omega
  have yz : ∀ k w, s ≤ w → w < f → a w = k → bl_y X Y x y t (a u0) (b u0) (c u0) k = 0 := by
    intro k w h1 h2 h3
    have e1 := cy_y hs hr hf hrot k (w - s) (by omega)
    have e2 := cy_y hs hr hf hrot k (u0 - s) (by omega)
    rw [show s + (w - s) = w by omega] at e1
    rw [show s + (u0 - s) = u0 by omega] at e2
    have e3 : bl_y X Y x y t (a w) (b w) (c w) k = 0 := by
      unfold bl_y
      rw [if_pos h3.symm]
      exact hz w h1 h2
    rw [e3] at e1
    have dw := (hs w (by omega)).1
    have ds := (hs s (by omega)).1
    have e4 : bl_y X Y x y t (a s) (b s) (c s) k = 0 := by
      rcases Int.mul_eq_zero.mp (show bl_y X Y x y t (a s) (b s) (c s) k * ge_d X Y (a w) (b w) (c w) = 0 by omega) with q | q
      · exact q
      · omega
    rw [e4] at e2
    rcases Int.mul_eq_zero.mp (show bl_y X Y x y t (a u0) (b u0) (c u0) k * ge_d X Y (a s) (b s) (c s) = 0 by omega) with q | q
    · exact q
    · omega
  have sv := hs v0 (by omega)
  rw [r3] at sv
  refine bl_core su sv (hz u0 p1 p2) hrM (fun q => ?_) (fun q => ?_)
  · obtain ⟨w, h1, h2, h3⟩ := leave (b u0) u0 v0 p1 (by omega) r1 (by omega) (Or.inr (Or.inl rfl)) q
    have h4 := p3 w h1 h2
    have h5 := yz (b u0) w h1 h2 h3
    refine ⟨by have := dd.1; omega, ?_⟩
    unfold bl_y at h5
    rw [if_neg (fun q => dd.1 q.symm), if_pos rfl] at h5
    exact h5
  · obtain ⟨w, h1, h2, h3⟩ := leave (c u0) u0 v0 p1 (by omega) r1 (by omega) (Or.inr (Or.inr rfl)) q
    have h4 := p3 w h1 h2
    have h5 := yz (c u0) w h1 h2 h3
    refine ⟨by have := dd.2.2; omega, ?_⟩
    unfold bl_y at h5
    rw [if_neg (fun q => dd.2.2 q.symm), if_neg (fun q => dd.2.1 q.symm), if_pos rfl] at h5
    exact h5
end CY
