/-! among planes as low: the first cells that a plane touches -/
section LI
variable {X Y Z : Nat → Int} {m : Nat} {x y t : Int}
theorem fi_three {a b c i j k : Nat} (hT : fi_T X Y Z m x y t a b c) (w1 : 0 < ge_o X Y b c x y t) (w2 : 0 < ge_o X Y c a x y t) (w3 : 0 < ge_o X Y a b x y t) (h : fi_l X Y Z m x y t i j k) {n : Nat} (hn : n = i ∨ n = j ∨ n = k) : ge_p X Y Z a b c + ge_q Y Z a b c * X n + ge_r X Z a b c * Y n = ge_d X Y a b c * Z n := by
  have hh := (fi_l_iff hT h.1).mp h
  have hd : ge_d X Y a b c ≠ 0 := by have := hT.1; omega
  have e := ge_same hd (ge_at_a (X := X) (Y := Y) (Z := Z) a b c) (ge_at_b a b c) (ge_at_c a b c) (hh.1 w1) (hh.2.1 w2) (hh.2.2 w3) (X n) (Y n) 1
  rw [Int.one_mul, Int.one_mul] at e
  have e2 := fi_at (X := X) (Y := Y) (Z := Z) hn
  rw [fi_f_eq, Int.one_mul] at e2
  rw [e2] at e
  have hp := fi_Dpos (X := X) (Y := Y) h.1.2.2.2.1
  refine Int.eq_of_mul_eq_mul_left (a := fi_D X Y i j k) (by omega) ?_
  rw [e]
  grind
/-- the first three cells, not in one line, among those that Tc names -/
def gr_t (X Y : Nat → Int) (m : Nat) (Tc : Nat → Prop) (i j k : Nat) : Prop := i < j ∧ j < k ∧ k < m ∧ Tc i ∧ Tc j ∧ Tc k ∧ ge_d X Y i j k ≠ 0 ∧ (∀ n, n < i → ¬ Tc n) ∧ (∀ n, i < n → n < j → ¬ Tc n) ∧ (∀ n, j < n → n < k → Tc n → ge_d X Y i j n = 0)
theorem gr_le {Tc : Nat → Prop} {i j k i' j' k' : Nat} (h : gr_t X Y m Tc i j k) (h1 : i' < j') (h2 : j' < k') (t1 : Tc i') (t2 : Tc j') (t3 : Tc k') (hd : ge_d X Y i' j' k' ≠ 0) : i < i' ∨ (i = i' ∧ (j < j' ∨ (j = j' ∧ k ≤ k'))) := by
  obtain ⟨g1, g2, g3, g4, g5, g6, g7, g8, g9, g10⟩ := h
  have a1 : i ≤ i' := Nat.not_lt.mp fun q => g8 i' q t1
  by_cases e1 : i = i'
  · subst e1
    have a2 : j ≤ j' := Nat.not_lt.mp fun q => g9 j' h1 q t2
    by_cases e2 : j = j'
    · subst e2
      have a3 : k ≤ k' := Nat.not_lt.mp fun q => hd (g10 k' h2 q t3)
      omega
    · omega
  · omega
theorem first_ex (Tc : Nat → Prop) (n : Nat) : ∀ l : Nat, (∃ i, l ≤ i ∧ i < l + n ∧ Tc i) → ∃ i, l ≤ i ∧ i < l + n ∧ Tc i ∧ ∀ r, l ≤ r → r < i → ¬ Tc r := by
  induction n with
  | zero => intro l h; obtain ⟨i, h1, h2, -⟩ := h; omega
  | succ n ih =>
    intro l h
    by_cases hl : Tc l
    · exact ⟨l, Nat.le_refl _, by omega, hl, fun r h1 h2 => by omega⟩
    · obtain ⟨i, h1, h2, h3⟩ := h
      have hi : l ≠ i := fun e => hl (e ▸ h3)
      obtain ⟨i', q1, q2, q3, q4⟩ := ih (l + 1) ⟨i, by omega, by omega, h3⟩
      refine ⟨i', by omega, by omega, q3, fun r r1 r2 => ?_⟩
      by_cases e : r = l
      · rw [e]; exact hl
      · exact q4 r (by omega) r2
theorem col_all {i j a b c : Nat} (hij : ge_d X Y i j a = 0) (hb : ge_d X Y i j b = 0) (hc : ge_d X Y i j c = 0) (hne : ¬ (X i = X j ∧ Y i = Y j)) : ge_d X Y a b c = 0 := by
  unfold ge_d at *
  have h1 : (X j - X i) * ((X b - X a) * (Y c - Y a) - (X c - X a) * (Y b - Y a)) = 0 := by grind
  have h2 : (Y j - Y i) * ((X b - X a) * (Y c - Y a) - (X c - X a) * (Y b - Y a)) = 0 := by grind
  rcases Int.mul_eq_zero.mp h1 with q1 | q1
  · rcases Int.mul_eq_zero.mp h2 with q2 | q2
    · exact absurd ⟨by omega, by omega⟩ hne
    · exact q2
  · exact q1
theorem gr_ex {Tc : Nat → Prop} {a b c : Nat} (hpt : ∀ i j, i < m → j < m → X i = X j → Y i = Y j → i = j) (ha : a < m) (hb : b < m) (hc : c < m) (ta : Tc a) (tb : Tc b) (tc : Tc c) (hd : ge_d X Y a b c ≠ 0) : ∃ i j k, gr_t X Y m Tc i j k := by
  obtain ⟨n1, n2, n3⟩ := ge_dne hd
  obtain ⟨i, -, i2, i3, i4⟩ := first_ex Tc m 0 ⟨a, by omega, by omega, ta⟩
  have le : ∀ n, Tc n → i ≤ n := fun n hn => Nat.not_lt.mp fun q => i4 n (by omega) q hn
  have exj : ∃ n, i + 1 ≤ n ∧ n < i + 1 + (m - (i + 1)) ∧ Tc n := by
    have q1 := le a ta
    have q2 := le b tb
    by_cases e : a = i
    · exact ⟨b, by omega, by omega, tb⟩
    · exact ⟨a, by omega, by omega, ta⟩
  obtain ⟨j, j1, j2, j3, j4⟩ := first_ex Tc (m - (i + 1)) (i + 1) exj
  have hne : ¬ (X i = X j ∧ Y i = Y j) := fun q => by have := hpt i j (by omega) (by omega) q.1 q.2; omega
  have hij : ge_d X Y i j i = 0 := by unfold ge_d; grind
  have hjj : ge_d X Y i j j = 0 := by unfold ge_d; grind
  have exk : ∃ n, j + 1 ≤ n ∧ n < j + 1 + (m - (j + 1)) ∧ (Tc n ∧ ge_d X Y i j n ≠ 0) := by
    by_cases hn : ∃ n, j + 1 ≤ n ∧ n < j + 1 + (m - (j + 1)) ∧ (Tc n ∧ ge_d X Y i j n ≠ 0)
    · exact hn
    · exfalso
      have col : ∀ n, n < m → Tc n → ge_d X Y i j n = 0 := by
        intro n hn1 hn2
        by_cases e0 : ge_d X Y i j n = 0
        · exact e0
        · exfalso
          have q1 := le n hn2
          by_cases e1 : n = i
          · rw [e1] at e0; exact e0 hij
          · by_cases e2 : n < j
            · exact j4 n (by omega) e2 hn2
            · by_cases e3 : n = j
              · rw [e3] at e0; exact e0 hjj
              · exact hn ⟨n, by omega, by omega, hn2, e0⟩
      exact hd (col_all (col a ha ta) (col b hb tb) (col c hc tc) hne)
  obtain ⟨k, k1, k2, k3, k4⟩ := first_ex (fun n => Tc n ∧ ge_d X Y i j n ≠ 0) (m - (j + 1)) (j + 1) exk
  refine ⟨i, j, k, by omega, by omega, by omega, i3, j3, k3.1, k3.2, fun n h => i4 n (by omega) h, fun n h1 h2 => j4 n (by omega) h2, fun n h1 h2 h3 => ?_⟩
  by_cases e0 : ge_d X Y i j n = 0
  · exact e0
  · exact absurd ⟨h3, e0⟩ (k4 n (by omega) h2)
/-- a plane over all that touches what holds the middle, and whose first cells are ahead of those of every other such plane: they are the first of all -/
theorem fi_like {a b c i j k : Nat} {P Q R D : Int} (hpt : ∀ i j, i < m → j < m → X i = X j → Y i = Y j → i = j) (hT : fi_T X Y Z m x y t a b c) (hD : 0 < D) (ho : ge_ov X Y Z m P Q R D) (hh : fi_h X Y Z x y t a b c P Q R D) (hg : gr_t X Y m (fun n => P + Q * X n + R * Y n = D * Z n) i j k)
    (hmin : ∀ P' Q' R' D' i' j' k', 0 < D' → ge_ov X Y Z m P' Q' R' D' → fi_h X Y Z x y t a b c P' Q' R' D' → gr_t X Y m (fun n => P' + Q' * X n + R' * Y n = D' * Z n) i' j' k' → i < i' ∨ (i = i' ∧ (j < j' ∨ (j = j' ∧ k ≤ k')))) : fi_1 X Y Z m x y t i j k := by
  have hg0 := hg
  obtain ⟨g1, g2, g3, g4, g5, g6, g7, -⟩ := hg0
  have hc : fi_c X Y Z m i j k := ⟨g1, g2, g3, g7, fi_ov hD g7 g4 g5 g6 ho⟩
  have touch : ∀ n, P + Q * X n + R * Y n = D * Z n → fi_s X Y i j k * ge_p X Y Z i j k + fi_s X Y i j k * ge_q Y Z i j k * X n + fi_s X Y i j k * ge_r X Z i j k * Y n = fi_D X Y i j k * Z n := by
    intro n hn
    have h1 := fi_prop g7 g4 g5 g6 (X n) (Y n) 1
    rw [fi_f_eq, Int.one_mul, Int.one_mul, hn] at h1
    refine Int.eq_of_mul_eq_mul_left (a := D) (by omega) ?_
    rw [h1]
    grind
  have hl : fi_l X Y Z m x y t i j k := (fi_l_iff hT hc).mpr ⟨fun q => touch a (hh.1 q), fun q => touch b (hh.2.1 q), fun q => touch c (hh.2.2 q)⟩
  refine ⟨hl, fun i' j' k' hl' => ?_⟩
  have hh' := (fi_l_iff hT hl'.1).mp hl'
  obtain ⟨c1, c2, c3, c4, c5⟩ := hl'.1
  have at' : ∀ n, (n = i' ∨ n = j' ∨ n = k') → fi_s X Y i' j' k' * ge_p X Y Z i' j' k' + fi_s X Y i' j' k' * ge_q Y Z i' j' k' * X n + fi_s X Y i' j' k' * ge_r X Z i' j' k' * Y n = fi_D X Y i' j' k' * Z n := by
    intro n hn
    have h1 := fi_at (X := X) (Y := Y) (Z := Z) hn
    rw [fi_f_eq, Int.one_mul] at h1
    exact h1
  have ho' : ge_ov X Y Z m (fi_s X Y i' j' k' * ge_p X Y Z i' j' k') (fi_s X Y i' j' k' * ge_q Y Z i' j' k') (fi_s X Y i' j' k' * ge_r X Z i' j' k') (fi_D X Y i' j' k') := by
    intro n hn
    have := c5 n hn
    rw [fi_f_eq, Int.one_mul] at this
    exact this
  obtain ⟨i2, j2, k2, hg2⟩ := gr_ex (X := X) (Y := Y) (m := m) (Tc := fun n => fi_s X Y i' j' k' * ge_p X Y Z i' j' k' + fi_s X Y i' j' k' * ge_q Y Z i' j' k' * X n + fi_s X Y i' j' k' * ge_r X Z i' j' k' * Y n = fi_D X Y i' j' k' * Z n) hpt (show i' < m by omega) (show j' < m by omega) c3 (at' i' (Or.inl rfl)) (at' j' (Or.inr (Or.inl rfl))) (at' k' (Or.inr (Or.inr rfl))) c4
  have l1 := hmin _ _ _ _ i2 j2 k2 (fi_Dpos c4) ho' hh' hg2
  have l2 := gr_le hg2 c1 c2 (at' i' (Or.inl rfl)) (at' j' (Or.inr (Or.inl rfl))) (at' k' (Or.inr (Or.inr rfl))) c4
  omega
/-- with three that hold the middle, the first cells that the triangle's plane touches are the first of all -/
theorem fi_three1 {a b c i j k : Nat} (hpt : ∀ i j, i < m → j < m → X i = X j → Y i = Y j → i = j) (hT : fi_T X Y Z m x y t a b c) (w1 : 0 < ge_o X Y b c x y t) (w2 : 0 < ge_o X Y c a x y t) (w3 : 0 < ge_o X Y a b x y t)
    (hg : gr_t X Y m (fun n => ge_p X Y Z a b c + ge_q Y Z a b c * X n + ge_r X Z a b c * Y n = ge_d X Y a b c * Z n) i j k) : fi_1 X Y Z m x y t i j k := by
  have hd : ge_d X Y a b c ≠ 0 := by have := hT.1; omega
  refine fi_like hpt hT hT.1 hT.2.2.2.2.2.2.2 ⟨fun _ => ge_at_a _ _ _, fun _ => ge_at_b _ _ _, fun _ => ge_at_c _ _ _⟩ hg ?_
  intro P' Q' R' D' i' j' k' hD' ho' hh' hg'
  obtain ⟨g1, g2, g3, g4, g5, g6, g7, -⟩ := hg'
  have tr : ∀ n, P' + Q' * X n + R' * Y n = D' * Z n → ge_p X Y Z a b c + ge_q Y Z a b c * X n + ge_r X Z a b c * Y n = ge_d X Y a b c * Z n := by
    intro n hn
    have e := ge_same hd (ge_at_a (X := X) (Y := Y) (Z := Z) a b c) (ge_at_b a b c) (ge_at_c a b c) (hh'.1 w1) (hh'.2.1 w2) (hh'.2.2 w3) (X n) (Y n) 1
    rw [Int.one_mul, Int.one_mul, hn] at e
    refine Int.eq_of_mul_eq_mul_left (a := D') (by omega) ?_
    rw [e]
    grind
  exact gr_le hg g1 g2 (tr i' g4) (tr j' g5) (tr k' g6) g7
end LI
