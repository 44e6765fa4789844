theorem tr_code_u {X Y Z : Nat → Int} {m p j k r r' : Nat} (h : tr_code X Y Z m p j k r) (h' : tr_code X Y Z m p j k r') : r = r' := by
  obtain ⟨a, b, c, g, rfl⟩ := h
  obtain ⟨a', b', c', g', rfl⟩ := h'
  have l1 := gr_le g g'.1 g'.2.1 g'.2.2.2.1 g'.2.2.2.2.1 g'.2.2.2.2.2.1 g'.2.2.2.2.2.2.1
  have l2 := gr_le g' g.1 g.2.1 g.2.2.2.1 g.2.2.2.2.1 g.2.2.2.2.2.1 g.2.2.2.2.2.2.1
  have e : a = a' ∧ b = b' ∧ c = c' := by omega
  obtain ⟨rfl, rfl, rfl⟩ := e
  rfl
theorem tr_code_b {X Y Z : Nat → Int} {m p j k r : Nat} (hm : m ≤ 25) (h : tr_code X Y Z m p j k r) : r < 15625 := by
  obtain ⟨a, b, c, g, rfl⟩ := h
  have := g.1
  have := g.2.1
  have := g.2.2.1
  omega
/-- the best of the pairs tried so far -/
def BI (X Y Z : Nat → Int) (m p : Nat) (Pr : Nat → Nat → Prop) (x3 x4 x5 : Int32) : Prop := (x3 = 2147483647 ∧ ∀ j k, Pr j k → ¬ tr_cand X Y Z m p j k) ∨ ∃ j k r, Pr j k ∧ tr_cand X Y Z m p j k ∧ tr_code X Y Z m p j k r ∧ x3.toInt = (r : Nat) ∧ x4.toInt = (j : Nat) ∧ x5.toInt = (k : Nat) ∧ ∀ j' k' r', Pr j' k' → tr_cand X Y Z m p j' k' → tr_code X Y Z m p j' k' r' → r ≤ r'
theorem BI.congr {X Y Z : Nat → Int} {m p : Nat} {Pr Pr' : Nat → Nat → Prop} {x3 x4 x5 : Int32} (h : BI X Y Z m p Pr x3 x4 x5) (he : ∀ j k, Pr j k ↔ Pr' j k) : BI X Y Z m p Pr' x3 x4 x5 := by
  rcases h with ⟨h1, h2⟩ | ⟨j, k, r, h1, h2, h3, h4, h5, h6, h7⟩
  · exact Or.inl ⟨h1, fun j k q => h2 j k ((he j k).mpr q)⟩
  · exact Or.inr ⟨j, k, r, (he j k).mp h1, h2, h3, h4, h5, h6, fun j' k' r' q => h7 j' k' r' ((he j' k').mpr q)⟩
theorem BI.add {X Y Z : Nat → Int} {m p : Nat} {Pr : Nat → Nat → Prop} {x3 x4 x5 a3 a4 a5 x7 x8 : Int32} {j k : Nat} (hm : m ≤ 25) (h : BI X Y Z m p Pr x3 x4 x5) (h7 : x7.toInt = j) (h8 : x8.toInt = k)
    (hs : (¬ tr_cand X Y Z m p j k ∧ a3 = x3 ∧ a4 = x4 ∧ a5 = x5) ∨ (tr_cand X Y Z m p j k ∧ ∃ r, tr_code X Y Z m p j k r ∧ ((x3.toInt ≤ r ∧ a3 = x3 ∧ a4 = x4 ∧ a5 = x5) ∨ ((r : Int) < x3.toInt ∧ a3.toInt = r ∧ a4 = x7 ∧ a5 = x8)))) : BI X Y Z m p (fun j' k' => Pr j' k' ∨ (j' = j ∧ k' = k)) a3 a4 a5 := by
  rcases hs with ⟨q1, rfl, rfl, rfl⟩ | ⟨q1, r, q2, q3⟩
  · rcases h with ⟨h1, h2⟩ | ⟨j0, k0, r0, h1, h2, h3, h4, h5, h6, h9⟩
    · refine Or.inl ⟨h1, fun j' k' t => ?_⟩
      rcases t with t | ⟨rfl, rfl⟩
      · exact h2 j' k' t
      · exact q1
    · refine Or.inr ⟨j0, k0, r0, Or.inl h1, h2, h3, h4, h5, h6, fun j' k' r' t t2 t3 => ?_⟩
      rcases t with t | ⟨rfl, rfl⟩
      · exact h9 j' k' r' t t2 t3
      · exact absurd t2 q1
  · have hb := tr_code_b hm q2
    rcases q3 with ⟨p1, rfl, rfl, rfl⟩ | ⟨p1, p2, rfl, rfl⟩
    · rcases h with ⟨h1, h2⟩ | ⟨j0, k0, r0, h1, h2, h3, h4, h5, h6, h9⟩
      · exfalso
        rw [h1] at p1
        have : (2147483647 : Int32).toInt = 2147483647 := rfl
        omega
      · refine Or.inr ⟨j0, k0, r0, Or.inl h1, h2, h3, h4, h5, h6, fun j' k' r' t t2 t3 => ?_⟩
        rcases t with t | ⟨rfl, rfl⟩
        · exact h9 j' k' r' t t2 t3
        · have := tr_code_u t3 q2
          omega
    · refine Or.inr ⟨j, k, r, Or.inr ⟨rfl, rfl⟩, q1, q2, p2, h7, h8, fun j' k' r' t t2 t3 => ?_⟩
      rcases t with t | ⟨rfl, rfl⟩
      · rcases h with ⟨h1, h2⟩ | ⟨j0, k0, r0, h1, h2, h3, h4, h5, h6, h9⟩
        · exact absurd t2 (h2 j' k' t)
        · have := h9 j' k' r' t t2 t3
          omega
      · have := tr_code_u t3 q2
        omega
set_option maxHeartbeats 1000000 in
/-- the inner loop: all k from k0 on -/
theorem rs_row {s0 u : xS} {m : Nat} {X Y Z : Nat → Int} (hs0 : RS s0 m X Y Z) (hpt : ∀ i j, i < m → j < m → X i = X j → Y i = Y j → i = j) (hz : Rz s0 u) {p j k0 : Nat} {x1 x2 x3 x4 x5 x6 x7 y0 : Int32} {Pr : Nat → Nat → Prop} (h1 : x1.toInt = p) (h7 : x7.toInt = j) (h8 : y0.toInt = k0) (hp : p < m) (hj : j < m) (hk0 : k0 ≤ m) (hB : BI X Y Z m p Pr x3 x4 x5) :
    ∃ u' a3 a4 a5, f55_68 40 x1 x2 x3 x4 x5 x6 x7 y0 u = some (.inl (a3, a4, a5, x7 + 1, u')) ∧ Rz s0 u' ∧ u'.1 44 = u.1 44 ∧ BI X Y Z m p (fun j' k' => Pr j' k' ∨ (j' = j ∧ k0 ≤ k' ∧ k' < m)) a3 a4 a5 := by
  have m25 := hs0.2.2.1
  have hm := hs0.1
  have hw := whl_rule (body := fun q : Int32 × Int32 × Int32 × Int32 × xS => f55_70 40 x1 x2 q.1 q.2.1 q.2.2.1 x6 x7 q.2.2.2.1 q.2.2.2.2)
    (fun q => Rz s0 q.2.2.2.2 ∧ q.2.2.2.2.1 44 = u.1 44 ∧ ∃ n : Nat, k0 ≤ n ∧ n ≤ m ∧ q.2.2.2.1.toInt = n ∧ BI X Y Z m p (fun j' k' => Pr j' k' ∨ (j' = j ∧ k0 ≤ k' ∧ k' < n)) q.1 q.2.1 q.2.2.1)
    (fun q => m - q.2.2.2.1.toInt.toNat) (fun r : (Int32 × Int32 × Int32 × Int32 × xS) ⊕ (xS × Unit) => ∃ u' a3 a4 a5, r = .inl (a3, a4, a5, x7 + 1, u') ∧ Rz s0 u' ∧ u'.1 44 = u.1 44 ∧ BI X Y Z m p (fun j' k' => Pr j' k' ∨ (j' = j ∧ k0 ≤ k' ∧ k' < m)) a3 a4 a5) ?_ (x3, x4, x5, y0, u) ⟨hz, rfl, k0, Nat.le_refl _, hk0, h8, hB.congr (fun j' k' => ⟨Or.inl, fun t => t.elim id (fun t2 => absurd t2.2 (by omega))⟩)⟩
  · obtain ⟨r, e1, u', a3, a4, a5, rfl, e3, e4, e5⟩ := hw
    exact ⟨u', a3, a4, a5, e1, e3, e4, e5⟩
  · rintro ⟨b3, b4, b5, i, v⟩ ⟨v1, v2, n, n0, n1, n2, n3⟩
    dsimp only at v1 v2 n2 n3 ⊢
    by_cases hn : n = m
    · right
      subst hn
      refine ⟨.inl (b3, b4, b5, x7 + 1, v), ?_, v, b3, b4, b5, rfl, v1, v2, n3⟩
      unfold f55_70
      rw [if_pos (i_le.mpr (by rw [v1.2.2 5 (by omega), hm, n2]; omega))]
      rfl
    · left
      obtain ⟨u', a3, a4, a5, e1, e2, e3, e4⟩ := rs_try hs0 hpt v1 (x2 := x2) (x3 := b3) (x4 := b4) (x5 := b5) (x6 := x6) h1 h7 n2 hp hj (show n < m by omega)
      have hi1 : (i + 1).toInt = n + 1 := i_add n2 rfl (by omega) (by omega)
      refine ⟨_, e1, ⟨e2, e3.trans v2, n + 1, by omega, by omega, by rw [hi1]; omega, ?_⟩, ?_⟩
      · refine (n3.add m25 h7 n2 e4).congr (fun j' k' => ?_)
        constructor
        · rintro ((t | ⟨t1, t2, t3⟩) | ⟨t1, t2⟩)
          · exact Or.inl t
          · exact Or.inr ⟨t1, t2, by omega⟩
          · exact Or.inr ⟨t1, by omega, by omega⟩
        · rintro (t | ⟨t1, t2, t3⟩)
          · exact Or.inl (Or.inl t)
          · by_cases q : k' = n
            · exact Or.inr ⟨t1, q⟩
            · exact Or.inl (Or.inr ⟨t1, t2, by omega⟩)
      · dsimp only
        rw [hi1, n2]
        omega
