/-! frames: what a function leaves as it was; loops that count -/
def fr (F : Nat → Nat → Bool) (s s' : xS) : Prop := ∀ id k, F id k = false → s'.1 id k = s.1 id k ∧ s'.2 id k = s.2 id k
theorem fr.rf (F : Nat → Nat → Bool) (s : xS) : fr F s s := fun _ _ _ => ⟨rfl, rfl⟩
theorem fr.tr {F : Nat → Nat → Bool} {s s1 s2 : xS} (h1 : fr F s s1) (h2 : fr F s1 s2) : fr F s s2 := fun id k h => ⟨(h2 id k h).1.trans (h1 id k h).1, (h2 id k h).2.trans (h1 id k h).2⟩
theorem fr.mono {F G : Nat → Nat → Bool} {s s' : xS} (h : fr F s s') (hm : ∀ id k, F id k = true → G id k = true) : fr G s s' := fun id k hk => h id k (by cases e : F id k with | false => rfl | true => rw [hm id k e] at hk; exact absurd hk (by decide))
theorem fr.i {F : Nat → Nat → Bool} {s s' : xS} (h : fr F s s') (id k : Nat) (hk : F id k = false) : s'.1 id k = s.1 id k := (h id k hk).1
theorem fr.l {F : Nat → Nat → Bool} {s s' : xS} (h : fr F s s') (id k : Nat) (hk : F id k = false) : s'.2 id k = s.2 id k := (h id k hk).2
theorem fr.ci {F : Nat → Nat → Bool} {s s' : xS} (h : fr F s s') (id : Nat) (hk : ∀ k, F id k = false) : s'.1 id = s.1 id := funext fun k => (h id k (hk k)).1
theorem fr.cl {F : Nat → Nat → Bool} {s s' : xS} (h : fr F s s') (id : Nat) (hk : ∀ k, F id k = false) : s'.2 id = s.2 id := funext fun k => (h id k (hk k)).2
theorem fr.ui {F : Nat → Nat → Bool} {s s' : xS} (h : fr F s s') {id k : Nat} {v : Int32} (hk : F id k = true) : fr F s (xm_up s'.1 id k v, s'.2) := fun a b hab => by
  have hn : ¬ (a = id ∧ b = k) := fun q => by rw [q.1, q.2, hk] at hab; exact absurd hab (by decide)
  exact ⟨(up_ne _ _ hn).trans (h a b hab).1, (h a b hab).2⟩
theorem fr.ul {F : Nat → Nat → Bool} {s s' : xS} (h : fr F s s') {id k : Nat} {v : Int64} (hk : F id k = true) : fr F s (s'.1, xm_up s'.2 id k v) := fun a b hab => by
  have hn : ¬ (a = id ∧ b = k) := fun q => by rw [q.1, q.2, hk] at hab; exact absurd hab (by decide)
  exact ⟨(h a b hab).1, (up_ne _ _ hn).trans (h a b hab).2⟩
/-- a loop that counts up, with something carried -/
theorem for_ruleA {A R : Type} {body : A × Int32 × xS → Option ((A × Int32 × xS) ⊕ R)} (I : Nat → A → xS → Prop) (a b : Nat) (Q : R → Prop) (hab : a ≤ b) (hb : b < 2147483647)
    (hstep : ∀ (n : Nat) (c : A) (i : Int32) (s : xS), a ≤ n → n < b → i.toInt = (n : Int) → (i + 1).toInt = ((n + 1 : Nat) : Int) → I n c s → (∃ c' s', body (c, i, s) = some (.inl (c', i + 1, s')) ∧ I (n + 1) c' s') ∨ ∃ r, body (c, i, s) = some (.inr r) ∧ Q r)
    (hend : ∀ (c : A) (i : Int32) (s : xS), i.toInt = (b : Int) → I b c s → ∃ r, body (c, i, s) = some (.inr r) ∧ Q r)
    {c0 : A} {i0 : Int32} {s0 : xS} (h0 : i0.toInt = (a : Int)) (hI : I a c0 s0) : ∃ r, whl body (c0, i0, s0) = some r ∧ Q r := by
  refine whl_rule (fun q : A × Int32 × xS => ∃ n : Nat, a ≤ n ∧ n ≤ b ∧ q.2.1.toInt = n ∧ I n q.1 q.2.2) (fun q => b - q.2.1.toInt.toNat) Q ?_ (c0, i0, s0) ⟨a, Nat.le_refl _, hab, h0, hI⟩
  rintro ⟨c, i, s⟩ ⟨n, n1, n2, n3, n4⟩
  dsimp only at n3 n4 ⊢
  by_cases hn : n = b
  · subst hn
    exact Or.inr (hend c i s n3 n4)
  · have hi : (i + 1).toInt = ((n + 1 : Nat) : Int) := by
      rw [i_add n3 (show (1 : Int32).toInt = 1 from rfl) (by omega) (by omega)]
      omega
    rcases hstep n c i s n1 (by omega) n3 hi n4 with ⟨c', s', e1, e2⟩ | e
    · exact Or.inl ⟨(c', i + 1, s'), e1, ⟨n + 1, by omega, by omega, hi, e2⟩, by dsimp only; rw [hi, n3]; omega⟩
    · exact Or.inr e
/-- a loop that counts up -/
theorem for_rule {R : Type} {body : Int32 × xS → Option ((Int32 × xS) ⊕ R)} (I : Nat → xS → Prop) (a b : Nat) (Q : R → Prop) (hab : a ≤ b) (hb : b < 2147483647)
    (hstep : ∀ (n : Nat) (i : Int32) (s : xS), a ≤ n → n < b → i.toInt = (n : Int) → (i + 1).toInt = ((n + 1 : Nat) : Int) → I n s → (∃ s', body (i, s) = some (.inl (i + 1, s')) ∧ I (n + 1) s') ∨ ∃ r, body (i, s) = some (.inr r) ∧ Q r)
    (hend : ∀ (i : Int32) (s : xS), i.toInt = (b : Int) → I b s → ∃ r, body (i, s) = some (.inr r) ∧ Q r)
    {i0 : Int32} {s0 : xS} (h0 : i0.toInt = (a : Int)) (hI : I a s0) : ∃ r, whl body (i0, s0) = some r ∧ Q r := by
  refine whl_rule (fun q : Int32 × xS => ∃ n : Nat, a ≤ n ∧ n ≤ b ∧ q.1.toInt = n ∧ I n q.2) (fun q => b - q.1.toInt.toNat) Q ?_ (i0, s0) ⟨a, Nat.le_refl _, hab, h0, hI⟩
  rintro ⟨i, s⟩ ⟨n, n1, n2, n3, n4⟩
  dsimp only at n3 n4 ⊢
  by_cases hn : n = b
  · subst hn
    exact Or.inr (hend i s n3 n4)
  · have hi : (i + 1).toInt = ((n + 1 : Nat) : Int) := by
      rw [i_add n3 (show (1 : Int32).toInt = 1 from rfl) (by omega) (by omega)]
      omega
    rcases hstep n i s n1 (by omega) n3 hi n4 with ⟨s', e1, e2⟩ | e
    · exact Or.inl ⟨(i + 1, s'), e1, ⟨n + 1, by omega, by omega, hi, e2⟩, by dsimp only; rw [hi, n3]; omega⟩
    · exact Or.inr e
theorem i_remN {a b : Int32} {x y : Nat} (ha : a.toInt = x) (hb : b.toInt = y) (hy : 0 < y) : (irm a b).toInt = ((x % y : Nat) : Int) := by
  rw [i_rem ha hb (by omega), Int.tmod_eq_emod_of_nonneg (by omega)]
  exact (Int.natCast_emod x y).symm
theorem i_divN {a b : Int32} {x y : Nat} (ha : a.toInt = x) (hb : b.toInt = y) (hy : 0 < y) : (a / b).toInt = ((x / y : Nat) : Int) := by
  rw [i_div ha hb (by omega), Int.tdiv_eq_ediv_of_nonneg (by omega)]
  exact (Int.natCast_ediv x y).symm
theorem mul_le_nat {a b c d : Nat} (h1 : a ≤ c) (h2 : b ≤ d) : a * b ≤ c * d := Nat.mul_le_mul h1 h2
/-- the model's size -/
def Mn (s : xS) (b : Nat) (N : Int32) (n : Nat) : Prop := (s.1 101 25).toInt = b ∧ b < 2 ∧ s.1 104 b = N ∧ N.toInt = n ∧ 3 ≤ n ∧ n ≤ 5
theorem Mn.b_in {s : xS} {b : Nat} {N : Int32} {n : Nat} (h : Mn s b N n) : xm_in (s.1 101 25) 2 = true := in_ok h.1 (by omega) (by have := h.2.1; omega)
theorem Mn.b_nat {s : xS} {b : Nat} {N : Int32} {n : Nat} (h : Mn s b N n) : (s.1 101 25).toNatClampNeg = b := by rw [cl_nat h.1]; rfl
theorem Mn.n {s : xS} {b : Nat} {N : Int32} {n : Nat} (h : Mn s b N n) : f196 101 s = some (s, N) := by
  unfold f196
  rw [ifg_pos O_101]
  simp only [R_101_11, Option.bind_some, A_104, h.b_in, if_true, h.b_nat, h.2.2.1]
theorem Mn.ne {s : xS} {b : Nat} {N : Int32} {n : Nat} (h : Mn s b N n) : ¬ N = 0 := fun q => by
  have h1 := h.2.2.2.1
  have h2 := h.2.2.2.2.1
  rw [q] at h1
  have : (0 : Int32).toInt = 0 := rfl
  omega
theorem Mn.cells {s : xS} {b : Nat} {N : Int32} {n : Nat} (h : Mn s b N n) : f197 101 s = some (s, N * N) := by
  unfold f197
  rw [ifg_pos O_101]
  simp only [h.n, Option.bind_some]
theorem Mn.sq {s : xS} {b : Nat} {N : Int32} {n : Nat} (h : Mn s b N n) : (N * N).toInt = ((n * n : Nat) : Int) := by
  have h1 := h.2.2.2.1
  have h3 := h.2.2.2.2.2
  have h4 : n * n ≤ 25 := mul_le_nat h3 h3
  have h5 : ((n * n : Nat) : Int) = (n : Int) * n := Int.natCast_mul n n
  rw [h5]
  exact i_mul h1 h1 (by omega) (by omega)
theorem Mn.sq25 {s : xS} {b : Nat} {N : Int32} {n : Nat} (h : Mn s b N n) : n * n ≤ 25 := mul_le_nat h.2.2.2.2.2 h.2.2.2.2.2
theorem Mn.fr {F : Nat → Nat → Bool} {s s' : xS} {b : Nat} {N : Int32} {n : Nat} (h : Mn s b N n) (hf : fr F s s') (h1 : F 101 25 = false) (h2 : ∀ k, F 104 k = false) : Mn s' b N n := ⟨by rw [hf.i 101 25 h1]; exact h.1, h.2.1, by rw [hf.i 104 b (h2 b)]; exact h.2.2.1, h.2.2.2⟩
