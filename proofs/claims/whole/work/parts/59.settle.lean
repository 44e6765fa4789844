/-- the exchanges so far -/
def RTc (m : Nat) (X Y Z : Nat → Int) (x y : Int) (N : Nat) (C : Nat → Nat) : Prop := ∃ a b c e : Nat → Nat, (∀ v, v < N → bl_st X Y Z x y m (a v) (b v) (c v) (e v)) ∧ (∀ v, v + 1 < N → bl_rot (e v) (b v) (c v) (a (v + 1)) (b (v + 1)) (c (v + 1))) ∧ (∀ v, v < N → a v < m ∧ b v < m ∧ c v < m) ∧ (∀ v, v + 1 = N → bl_rot (e v) (b v) (c v) (C 0) (C 1) (C 2))
theorem RTc.zero (m : Nat) (X Y Z : Nat → Int) (x y : Int) (C : Nat → Nat) : RTc m X Y Z x y 0 C := ⟨fun _ => 0, fun _ => 0, fun _ => 0, fun _ => 0, fun v h => by omega, fun v h => by omega, fun v h => by omega, fun v h => by omega⟩
theorem RTc.next {m : Nat} {X Y Z : Nat → Int} {x y : Int} {N : Nat} {C C' : Nat → Nat} {o e : Nat} (h : RTc m X Y Z x y N C) (ho : o < 3) (hC : ∀ n, n < 3 → C n < m) (hst : bl_st X Y Z x y m (C o) (C ((o + 1) % 3)) (C ((o + 2) % 3)) e) (hr : bl_rot e (C ((o + 1) % 3)) (C ((o + 2) % 3)) (C' 0) (C' 1) (C' 2)) : RTc m X Y Z x y (N + 1) C' := by
  obtain ⟨a, b, c, ee, h1, h2, h3, h4⟩ := h
  have hrot : bl_rot (C 0) (C 1) (C 2) (C o) (C ((o + 1) % 3)) (C ((o + 2) % 3)) := by
    rcases (show o = 0 ∨ o = 1 ∨ o = 2 by omega) with rfl | rfl | rfl
    · exact Or.inl ⟨rfl, rfl, rfl⟩
    · exact Or.inr (Or.inl ⟨rfl, rfl, rfl⟩)
    · exact Or.inr (Or.inr ⟨rfl, rfl, rfl⟩)
  refine ⟨fun v => if v = N then C o else a v, fun v => if v = N then C ((o + 1) % 3) else b v, fun v => if v = N then C ((o + 2) % 3) else c v, fun v => if v = N then e else ee v, fun v hv => ?_, fun v hv => ?_, fun v hv => ?_, fun v hv => ?_⟩
  · dsimp only
    by_cases q : v = N
    · rw [if_pos q, if_pos q, if_pos q, if_pos q]; exact hst
    · rw [if_neg q, if_neg q, if_neg q, if_neg q]; exact h1 v (by omega)
  · dsimp only
    have q0 : v ≠ N := by omega
    rw [if_neg q0, if_neg q0, if_neg q0]
    by_cases q : v + 1 = N
    · rw [if_pos q, if_pos q, if_pos q]; exact bl_rot_tr (h4 v q) hrot
    · rw [if_neg q, if_neg q, if_neg q]; exact h2 v (by omega)
  · dsimp only
    by_cases q : v = N
    · rw [if_pos q, if_pos q, if_pos q]; exact ⟨hC o ho, hC _ (by omega), hC _ (by omega)⟩
    · rw [if_neg q, if_neg q, if_neg q]; exact h3 v (by omega)
  · dsimp only
    have q : v = N := by omega
    rw [if_pos q, if_pos q, if_pos q]; exact hr
theorem RTc.few {m : Nat} {X Y Z : Nat → Int} {x y : Int} {N : Nat} {C : Nat → Nat} (hm : m ≤ 24 ∨ (m = 25 ∧ ge_d X Y 0 1 2 = 0)) (h : RTc m X Y Z x y N C) : N ≤ 2299 := by
  obtain ⟨a, b, c, e, h1, h2, h3, -⟩ := h
  exact tr_few hm h1 h2 h3
/-- the loop of exchanges comes to an end, and there the triangle's plane is over all -/
theorem rs_loop {s0 : xS} {m : Nat} {X Y Z : Nat → Int} {x y : Int} {C0 : Nat → Nat} (hs0 : RS s0 m X Y Z) (hm : m ≤ 24 ∨ (m = 25 ∧ ge_d X Y 0 1 2 = 0)) (hx : (s0.1 40 6).toInt = x) (hy : (s0.1 40 7).toInt = y) (x0 : 0 ≤ x) (x9 : x ≤ 100) (y0 : 0 ≤ y) (y9 : y ≤ 100) {Qf : xS → Prop}
    (h91 : ∀ u C, REx s0 m X Y Z x y u C → ∃ r, f49_91 40 u = some (r, ()) ∧ Qf r) {u : xS} (hz : Rz s0 u) (hT : RTr m X Y x y u C0) : ∃ r, whl (fun q : Int32 × xS => f49_37 40 q.1 q.2) (0, u) = some (r, ()) ∧ Qf r := by
  have hw := whl_rule (body := fun q : Int32 × xS => f49_37 40 q.1 q.2) (fun q => ∃ (N : Nat) (C : Nat → Nat), q.1.toInt = N ∧ Rz s0 q.2 ∧ RTr m X Y x y q.2 C ∧ RTc m X Y Z x y N C) (fun q => 2300 - q.1.toInt.toNat) (fun r : xS × Unit => Qf r.1) ?_ (0, u) ⟨0, C0, rfl, hz, hT, RTc.zero _ _ _ _ _ _ _⟩
  · obtain ⟨⟨r, v⟩, h1, h2⟩ := hw
    exact ⟨r, h1, h2⟩
  · rintro ⟨i, v⟩ ⟨N, C, n1, n2, n3, n4⟩
    dsimp only at n1 n2 n3 n4 ⊢
    have hN := n4.few hm
    have hi : ¬ (2300 : Int32) ≤ i := fun q => by have := i_le.mp q; rw [n1] at this; have e : (2300 : Int32).toInt = 2300 := rfl; omega
    rcases rs_turn hs0 n2 n3 hx hy x0 x9 y0 y9 hi with ⟨u', h1, h2⟩ | ⟨u', C', o, e, h1, h2, h3, h4, h5, h6, h7⟩
    · right
      obtain ⟨r, r1, r2⟩ := h91 u' C h2
      exact ⟨(r, ()), by rw [h1, r1]; rfl, r2⟩
    · left
      have hi1 : (i + 1).toInt = N + 1 := i_add n1 rfl (by omega) (by omega)
      refine ⟨_, h1, ⟨N + 1, C', by rw [hi1]; omega, h2, h3, n4.next h4 (fun n hn => (n3.1 n hn).2) h6 h7⟩, ?_⟩
      dsimp only
      rw [hi1, n1]
      omega
