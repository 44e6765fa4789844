set_option maxHeartbeats 2000000 in
theorem rs_touched {s : xS} {m : Nat} {X Y Z : Nat → Int} (hs : RS s m X Y Z) (hpt : ∀ i j, i < m → j < m → X i = X j → Y i = Y j → i = j) (hex : ∃ i j k, gr_t X Y m (fun n => (s.1 45 n).toInt = 0) i j k) : ∃ i j k r, gr_t X Y m (fun n => (s.1 45 n).toInt = 0) i j k ∧ f56 40 s = some (s, r) ∧ r.toInt = ((i * 25 + j) * 25 + k : Nat) := by
  obtain ⟨hm, m4, m25, hp⟩ := hs
  obtain ⟨i0, j0, k0, g1, g2, g3, g4, g5, g6, g7, -⟩ := hex
  have hw := whl_rule (body := fun q : Int32 × Int32 × Int32 × xS => f56_6 40 q.1 q.2.1 q.2.2.1 q.2.2.2)
    (fun q => q.2.2.2 = s ∧ ∃ n : Nat, n ≤ m ∧ q.2.2.1.toInt = n ∧ ((q.1 = -1 ∧ q.2.1 = -1 ∧ ∀ r, r < n → ¬ (s.1 45 r).toInt = 0) ∨
      (∃ a : Nat, q.1.toInt = a ∧ q.2.1 = -1 ∧ a < n ∧ (s.1 45 a).toInt = 0 ∧ (∀ r, r < a → ¬ (s.1 45 r).toInt = 0) ∧ ∀ r, a < r → r < n → ¬ (s.1 45 r).toInt = 0) ∨
      (∃ a b : Nat, q.1.toInt = a ∧ q.2.1.toInt = b ∧ a < b ∧ b < n ∧ (s.1 45 a).toInt = 0 ∧ (s.1 45 b).toInt = 0 ∧ (∀ r, r < a → ¬ (s.1 45 r).toInt = 0) ∧ (∀ r, a < r → r < b → ¬ (s.1 45 r).toInt = 0) ∧ ∀ r, b < r → r < n → (s.1 45 r).toInt = 0 → ge_d X Y a b r = 0)))
    (fun q => m - q.2.2.1.toInt.toNat) (fun r : xS × Int32 => r.1 = s ∧ ∃ i j k, gr_t X Y m (fun n => (s.1 45 n).toInt = 0) i j k ∧ r.2.toInt = ((i * 25 + j) * 25 + k : Nat)) ?_ (-1, -1, 0, s) ⟨rfl, 0, by omega, rfl, Or.inl ⟨rfl, rfl, fun r h => by omega⟩⟩
  · obtain ⟨⟨u, r⟩, h1, h2, i, j, k, h3, h4⟩ := hw
    dsimp only at h2
    subst h2
    refine ⟨i, j, k, r, h3, ?_, h4⟩
    unfold f56
    rw [ifg_pos O_40]
    exact h1
  · rintro ⟨x1, x2, x3, u⟩ ⟨hu, n, n1, n2, n3⟩
    dsimp only at hu n2 n3 ⊢
    subst hu
    by_cases hn : n = m
    · exfalso
      subst hn
      rcases n3 with ⟨-, -, q⟩ | ⟨a, -, -, q1, q2, q3, q4⟩ | ⟨a, b, -, -, q1, q2, q3, q4, q5, q6, q7⟩
      · exact q i0 (by omega) g4
      · have e1 : i0 = a := by
          rcases Nat.lt_trichotomy i0 a with r | r | r
          · exact absurd g4 (q3 i0 r)
          · exact r
          · exact absurd g4 (q4 i0 r (by omega))
        exact q4 j0 (by omega) (by omega) g5
      · have low : ∀ r, r < n → (u.1 45 r).toInt = 0 → r = a ∨ r = b ∨ b < r := by
          intro r h1 h2
          rcases Nat.lt_trichotomy r a with t | t | t
          · exact absurd h2 (q5 r t)
          · exact Or.inl t
          · rcases Nat.lt_trichotomy r b with t2 | t2 | t2
            · exact absurd h2 (q6 r t t2)
            · exact Or.inr (Or.inl t2)
            · exact Or.inr (Or.inr t2)
        have z1 : ge_d X Y a b a = 0 := by unfold ge_d; grind
        have z2 : ge_d X Y a b b = 0 := by unfold ge_d; grind
        have col : ∀ r, r < n → (u.1 45 r).toInt = 0 → ge_d X Y a b r = 0 := by
          intro r h1 h2
          rcases low r h1 h2 with t | t | t
          · rw [t]; exact z1
          · rw [t]; exact z2
          · exact q7 r t h1 h2
        have hne : ¬ (X a = X b ∧ Y a = Y b) := fun q => by have := hpt a b (by omega) (by omega) q.1 q.2; omega
        exact g7 (col_all (col i0 (by omega) g4) (col j0 (by omega) g5) (col k0 g3 g6) hne)
    · obtain ⟨xn, yn, -, xn0, xn4, yn0, yn4, -, -⟩ := hp n (by omega)
      have i3 : xm_in x3 25 = true := in_ok n2 (by omega) (by omega)
      have c3 : x3.toNatClampNeg = n := by rw [cl_nat n2]; rfl
      have hlt : ¬ (u.1 40 5) ≤ x3 := fun q => by have := i_le.mp q; rw [hm, n2] at this; omega
      have hi1 : (x3 + 1).toInt = n + 1 := i_add n2 rfl (by omega) (by omega)
      have hnI : ((n + 1 : Nat) : Int) = (n : Int) + 1 := by omega
      have hmeas : m - (x3 + 1).toInt.toNat < m - x3.toInt.toNat := by rw [hi1, n2]; omega
      have start : f56_6 40 x1 x2 x3 u = if (u.1 45 n) = 0 then (if x1 = (-1 : Int32) then (f56_115 40 x3 x2 x3 u) else (if x2 = (-1 : Int32) then (f56_115 40 x1 x3 x3 u) else ((hk_R 40 0).bind fun a9 => (aI u a9 x2).bind fun v11 => (hk_R 40 0).bind fun a13 => (aI u a13 x1).bind fun v15 => (hk_R 40 1).bind fun a17 => (aI u a17 x3).bind fun v19 => (hk_R 40 1).bind fun a21 => (aI u a21 x1).bind fun v23 => (hk_R 40 0).bind fun a25 => (aI u a25 x3).bind fun v27 => (hk_R 40 0).bind fun a29 => (aI u a29 x1).bind fun v31 => (hk_R 40 1).bind fun a33 => (aI u a33 x2).bind fun v35 => (hk_R 40 1).bind fun a37 => (aI u a37 x1).bind fun v39 => if ((v11 - v15) * (v19 - v23)) = ((v27 - v31) * (v35 - v39)) then (f56_115 40 x1 x2 x3 u) else (Option.map Sum.inr (some (u, ((((x1 * (25 : Int32)) + x2) * (25 : Int32)) + x3))))))) else (f56_115 40 x1 x2 x3 u) := by
        unfold f56_6
        rw [if_neg hlt]
        simp only [R_40_4, Option.bind_some, A_45, i3, if_true, c3]
      have go : ∀ p q, f56_115 40 p q x3 u = some (Sum.inl (p, q, x3 + 1, u)) := fun _ _ => rfl
      have hz : (u.1 45 n = 0) ↔ (u.1 45 n).toInt = 0 := by rw [i_eq]; exact Iff.rfl
      by_cases h0 : (u.1 45 n).toInt = 0
      · rw [start, if_pos (hz.mpr h0)]
        rcases n3 with ⟨q1, q2, q3⟩ | ⟨a, q1, q2, q3, q4, q5, q6⟩ | ⟨a, b, q1, q2, q3, q4, q5, q6, q7, q8, q9⟩
        · left
          rw [if_pos q1, go]
          exact ⟨_, rfl, ⟨rfl, n + 1, by omega, by rw [hnI]; exact hi1, Or.inr (Or.inl ⟨n, n2, q2, by omega, h0, q3, fun r r1 r2 => by omega⟩)⟩, hmeas⟩
        · left
          have hx1 : ¬ x1 = -1 := fun q => by rw [q] at q1; have : (-1 : Int32).toInt = -1 := rfl; omega
          rw [if_neg hx1, if_pos q2, go]
          exact ⟨_, rfl, ⟨rfl, n + 1, by omega, by rw [hnI]; exact hi1, Or.inr (Or.inr ⟨a, n, q1, n2, q3, by omega, q4, h0, q5, q6, fun r r1 r2 => by omega⟩)⟩, hmeas⟩
        · have hx1 : ¬ x1 = -1 := fun q => by rw [q] at q1; have : (-1 : Int32).toInt = -1 := rfl; omega
          have hx2 : ¬ x2 = -1 := fun q => by rw [q] at q2; have : (-1 : Int32).toInt = -1 := rfl; omega
          obtain ⟨xa, ya, -, xa0, xa4, ya0, ya4, -, -⟩ := hp a (by omega)
          obtain ⟨xb, yb, -, xb0, xb4, yb0, yb4, -, -⟩ := hp b (by omega)
          have i1 : xm_in x1 25 = true := in_ok q1 (by omega) (by omega)
          have i2 : xm_in x2 25 = true := in_ok q2 (by omega) (by omega)
          have c1 : x1.toNatClampNeg = a := by rw [cl_nat q1]; rfl
          have c2 : x2.toNatClampNeg = b := by rw [cl_nat q2]; rfl
          have b1 := mb4 (x := X b - X a) (y := Y n - Y a) (by omega) (by omega) (by omega) (by omega)
          have b2 := mb4 (x := X n - X a) (y := Y b - Y a) (by omega) (by omega) (by omega) (by omega)
          have e1 := i_mul (i_sub xb xa (by omega) (by omega)) (i_sub yn ya (by omega) (by omega)) (by omega) (by omega)
          have e2 := i_mul (i_sub xn xa (by omega) (by omega)) (i_sub yb ya (by omega) (by omega)) (by omega) (by omega)
          have heq : ((u.1 41 b - u.1 41 a) * (u.1 42 n - u.1 42 a) = (u.1 41 n - u.1 41 a) * (u.1 42 b - u.1 42 a)) ↔ ge_d X Y a b n = 0 := by
            rw [i_eq, e1, e2]
            unfold ge_d
            omega
          rw [if_neg hx1, if_neg hx2]
          simp only [R_40_0, R_40_1, Option.bind_some, A_41, A_42, i1, i2, i3, if_true, c1, c2, c3]
          by_cases hd : ge_d X Y a b n = 0
          · left
            rw [if_pos (heq.mpr hd), go]
            refine ⟨_, rfl, ⟨rfl, n + 1, by omega, by rw [hnI]; exact hi1, Or.inr (Or.inr ⟨a, b, q1, q2, q3, by omega, q5, q6, q7, q8, fun r r1 r2 r3 => ?_⟩)⟩, hmeas⟩
            by_cases t : r = n
            · rw [t]; exact hd
            · exact q9 r r1 (by omega) r3
          · right
            rw [if_neg (fun q => hd (heq.mp q))]
            refine ⟨_, rfl, rfl, a, b, n, ⟨q3, q4, by omega, q5, q6, h0, hd, q7, q8, fun r r1 r2 r3 => q9 r r1 r2 r3⟩, ?_⟩
            have k1 := i_mul q1 (show (25 : Int32).toInt = 25 from rfl) (by omega) (by omega)
            have k2 := i_add k1 q2 (by omega) (by omega)
            have k3 := i_mul k2 (show (25 : Int32).toInt = 25 from rfl) (by omega) (by omega)
            have k4 := i_add k3 n2 (by omega) (by omega)
            show (((x1 * 25) + x2) * 25 + x3).toInt = _
            rw [k4]
            omega
      · left
        rw [start, if_neg (fun q => h0 (hz.mp q)), go]
        refine ⟨_, rfl, ⟨rfl, n + 1, by omega, by rw [hnI]; exact hi1, ?_⟩, hmeas⟩
        rcases n3 with ⟨q1, q2, q3⟩ | ⟨a, q1, q2, q3, q4, q5, q6⟩ | ⟨a, b, q1, q2, q3, q4, q5, q6, q7, q8, q9⟩
        · refine Or.inl ⟨q1, q2, fun r h => ?_⟩
          by_cases t : r = n
          · rw [t]; exact h0
          · exact q3 r (by omega)
        · refine Or.inr (Or.inl ⟨a, q1, q2, by omega, q4, q5, fun r r1 r2 => ?_⟩)
          by_cases t : r = n
          · rw [t]; exact h0
          · exact q6 r r1 (by omega)
        · refine Or.inr (Or.inr ⟨a, b, q1, q2, q3, by omega, q5, q6, q7, q8, fun r r1 r2 r3 => ?_⟩)
          by_cases t : r = n
          · rw [t] at r3; exact absurd r3 h0
          · exact q9 r r1 (by omega) r3
