/-- nothing changed but cell c -/
def onlyA (c : Nat) (s s' : xS) : Prop := s'.2 = s.2 ∧ ∀ id, id ≠ c → s'.1 id = s.1 id
theorem onlyA.rf (c : Nat) (s : xS) : onlyA c s s := ⟨rfl, fun _ _ => rfl⟩
theorem onlyA.tr {c : Nat} {s s1 s2 : xS} (h1 : onlyA c s s1) (h2 : onlyA c s1 s2) : onlyA c s s2 := ⟨h2.1.trans h1.1, fun id h => (h2.2 id h).trans (h1.2 id h)⟩
theorem onlyA.up {c : Nat} (s : xS) (k : Nat) (v : Int32) : onlyA c s (xm_up s.1 c k v, s.2) := ⟨rfl, fun _ h => xm_up_ne h⟩
theorem i_lit {i : Int32} {n : Int32} (h : i.toInt = n.toInt) : i = n := i_eq.mpr h
set_option maxHeartbeats 1000000 in
theorem rs_weight {s : xS} {m : Nat} {X Y Z : Nat → Int} (hs : RS s m X Y Z) {C : Nat → Nat} (hC : ∀ n, n < 3 → (s.1 44 n).toInt = C n ∧ C n < m) {n : Nat} (hn : n < 3) {i px py pt : Int32} {x y t : Int} (hi : i.toInt = n) (hx : px.toInt = x) (hy : py.toInt = y) (ht : pt.toInt = t) (x0 : 0 ≤ x) (x1 : x ≤ 100) (y0 : 0 ≤ y) (y1 : y ≤ 100) (t0 : 0 ≤ t) (t1 : t ≤ 25) :
    ∃ w, f53 40 i px py pt s = some (s, w) ∧ w.toInt = ge_o X Y (C ((n + 1) % 3)) (C ((n + 2) % 3)) x y t := by
  obtain ⟨hm, m4, m25, hp⟩ := hs
  have key : ∀ a b : Nat, a < 3 → b < 3 → irm (i + 1) 3 = Int32.ofNat a → irm (i + 2) 3 = Int32.ofNat b → ∃ w, f53 40 i px py pt s = some (s, w) ∧ w.toInt = ge_o X Y (C a) (C b) x y t := by
    intro a b ha hb ea eb
    obtain ⟨ca, la⟩ := hC a ha
    obtain ⟨cb, lb⟩ := hC b hb
    obtain ⟨xa, ya, -, xa0, xa1, ya0, ya1, -, -⟩ := hp (C a) la
    obtain ⟨xb, yb, -, xb0, xb1, yb0, yb1, -, -⟩ := hp (C b) lb
    have ta : (Int32.ofNat a).toInt = a := by rcases (show a = 0 ∨ a = 1 ∨ a = 2 by omega) with rfl | rfl | rfl <;> rfl
    have tb : (Int32.ofNat b).toInt = b := by rcases (show b = 0 ∨ b = 1 ∨ b = 2 by omega) with rfl | rfl | rfl <;> rfl
    have ia : xm_in (Int32.ofNat a) 3 = true := in_ok ta (by omega) (by omega)
    have ib : xm_in (Int32.ofNat b) 3 = true := in_ok tb (by omega) (by omega)
    have na : (Int32.ofNat a).toNatClampNeg = a := by rw [cl_nat ta]; rfl
    have nb : (Int32.ofNat b).toNatClampNeg = b := by rw [cl_nat tb]; rfl
    have ja : xm_in (s.1 44 a) 25 = true := in_ok ca (by omega) (by omega)
    have jb : xm_in (s.1 44 b) 25 = true := in_ok cb (by omega) (by omega)
    have ka : (s.1 44 a).toNatClampNeg = C a := by rw [cl_nat ca]; rfl
    have kb : (s.1 44 b).toNatClampNeg = C b := by rw [cl_nat cb]; rfl
    have b1 := mb4 (x := X (C a)) (y := Y (C b)) (by omega) (by omega) (by omega) (by omega)
    have b2 := mb4 (x := X (C b)) (y := Y (C a)) (by omega) (by omega) (by omega) (by omega)
    have e1 := i_sub (i_mul xa yb (by omega) (by omega)) (i_mul xb ya (by omega) (by omega)) (by omega) (by omega)
    have b3 := mbd (B := 25) (C := 32) (show -25 ≤ t by omega) t1 (show -32 ≤ X (C a) * Y (C b) - X (C b) * Y (C a) by omega) (by omega)
    have b4 := mbd (B := 100) (C := 4) (show -100 ≤ y by omega) y1 (show -4 ≤ X (C b) - X (C a) by omega) (by omega)
    have b5 := mbd (B := 100) (C := 4) (show -100 ≤ x by omega) x1 (show -4 ≤ Y (C b) - Y (C a) by omega) (by omega)
    have e2 := i_mul ht e1 (by omega) (by omega)
    have e3 := i_mul hy (i_sub xb xa (by omega) (by omega)) (by omega) (by omega)
    have e4 := i_mul hx (i_sub yb ya (by omega) (by omega)) (by omega) (by omega)
    have e5 := i_sub (i_add e2 e3 (by omega) (by omega)) e4 (by omega) (by omega)
    refine ⟨pt * (s.1 41 (C a) * s.1 42 (C b) - s.1 41 (C b) * s.1 42 (C a)) + py * (s.1 41 (C b) - s.1 41 (C a)) - px * (s.1 42 (C b) - s.1 42 (C a)), ?_, ?_⟩
    · unfold f53
      rw [ifg_pos O_40]
      simp only [R_40_0, R_40_1, R_40_3, Option.bind_some, A_41, A_42, A_44, ea, eb, ia, ib, na, nb, ja, jb, ka, kb, if_true]
    · unfold ge_o
      exact e5
  rcases (show n = 0 ∨ n = 1 ∨ n = 2 by omega) with rfl | rfl | rfl
  · obtain rfl : i = 0 := i_lit hi
    exact key 1 2 (by decide) (by decide) (by decide +kernel) (by decide +kernel)
  · obtain rfl : i = 1 := i_lit hi
    exact key 2 0 (by decide) (by decide) (by decide +kernel) (by decide +kernel)
  · obtain rfl : i = 2 := i_lit hi
    exact key 0 1 (by decide) (by decide) (by decide +kernel) (by decide +kernel)
/-- the plane in the fields 8 to 11 -/
def RP (s : xS) (P Q R D : Int) : Prop := (s.1 40 8).toInt = P ∧ (s.1 40 9).toInt = Q ∧ (s.1 40 10).toInt = R ∧ (s.1 40 11).toInt = D ∧ -1000000 ≤ P ∧ P ≤ 1000000 ∧ -100000 ≤ Q ∧ Q ≤ 100000 ∧ -100000 ≤ R ∧ R ≤ 100000 ∧ 0 < D ∧ D ≤ 32
set_option maxHeartbeats 1000000 in
theorem rs_above {s : xS} {m : Nat} {X Y Z : Nat → Int} (hs : RS s m X Y Z) {P Q R D : Int} (hP : RP s P Q R D) :
    ∃ s' r, f51 40 s = some (s', r) ∧ onlyA 45 s s' ∧ ((r = -1 ∧ ∀ k, k < m → D * Z k ≤ P + Q * X k + R * Y k ∧ (s'.1 45 k).toInt = P + Q * X k + R * Y k - D * Z k) ∨ ∃ e, e < m ∧ r.toInt = e ∧ P + Q * X e + R * Y e < D * Z e ∧ ∀ k, k < e → D * Z k ≤ P + Q * X k + R * Y k) := by
  obtain ⟨hm, m4, m25, hp⟩ := hs
  obtain ⟨p1, p2, p3, p4, c1, c2, c3, c4, c5, c6, c7, c8⟩ := hP
  have hw := whl_rule (body := fun q : Int32 × xS => f51_2 40 q.1 q.2) (fun q => ∃ n : Nat, n ≤ m ∧ q.1.toInt = n ∧ onlyA 45 s q.2 ∧ ∀ k, k < n → D * Z k ≤ P + Q * X k + R * Y k ∧ (q.2.1 45 k).toInt = P + Q * X k + R * Y k - D * Z k) (fun q => m - q.1.toInt.toNat)
    (fun r : xS × Int32 => onlyA 45 s r.1 ∧ ((r.2 = -1 ∧ ∀ k, k < m → D * Z k ≤ P + Q * X k + R * Y k ∧ (r.1.1 45 k).toInt = P + Q * X k + R * Y k - D * Z k) ∨ ∃ e : Nat, e < m ∧ r.2.toInt = e ∧ P + Q * X e + R * Y e < D * Z e ∧ ∀ k, k < e → D * Z k ≤ P + Q * X k + R * Y k)) ?_ (0, s) ⟨0, by omega, rfl, onlyA.rf _ _, fun k h => by omega⟩
  · obtain ⟨⟨s', r⟩, h1, h2⟩ := hw
    refine ⟨s', r, ?_, h2.1, h2.2⟩
    unfold f51
    rw [ifg_pos O_40]
    exact h1
  · rintro ⟨i, u⟩ ⟨n, n1, n2, n3, n4⟩
    dsimp only at n2 n3 n4 ⊢
    have f40 : u.1 40 = s.1 40 := n3.2 40 (by decide)
    have f41 : u.1 41 = s.1 41 := n3.2 41 (by decide)
    have f42 : u.1 42 = s.1 42 := n3.2 42 (by decide)
    have f43 : u.1 43 = s.1 43 := n3.2 43 (by decide)
    by_cases hn : n = m
    · right
      refine ⟨(u, -1), ?_, n3, Or.inl ⟨rfl, fun k hk => n4 k (by omega)⟩⟩
      unfold f51_2
      rw [if_pos (i_le.mpr (by rw [f40, hm, n2]; omega))]
      rfl
    · obtain ⟨x1, y1, z1, x0, x4, y0, y4, z0, z4⟩ := hp n (by omega)
      have ii : xm_in i 25 = true := in_ok n2 (by omega) (by omega)
      have ni : i.toNatClampNeg = n := by rw [cl_nat n2]; rfl
      have b1 := mbd (B := 100000) (C := 4) c3 c4 (show -4 ≤ X n by omega) x4
      have b2 := mbd (B := 100000) (C := 4) c5 c6 (show -4 ≤ Y n by omega) y4
      have b3 := mbd (B := 5000) (C := 32) z0 z4 (show -32 ≤ D by omega) c8
      have e1 := i_sub (i_add (i_add p1 (i_mul p2 x1 (by omega) (by omega)) (by omega) (by omega)) (i_mul p3 y1 (by omega) (by omega)) (by omega) (by omega)) (i_mul z1 p4 (by omega) (by omega)) (by omega) (by omega)
      have hev : f51_2 40 i u = if 0 ≤ (s.1 40 8 + s.1 40 9 * s.1 41 n + s.1 40 10 * s.1 42 n - s.1 43 n * s.1 40 11) then some (Sum.inl (i + 1, (xm_up u.1 45 n (s.1 40 8 + s.1 40 9 * s.1 41 n + s.1 40 10 * s.1 42 n - s.1 43 n * s.1 40 11), u.2))) else some (Sum.inr ((xm_up u.1 45 n (s.1 40 8 + s.1 40 9 * s.1 41 n + s.1 40 10 * s.1 42 n - s.1 43 n * s.1 40 11), u.2), i)) := by
        unfold f51_2
        rw [if_neg (fun q => by have := i_le.mp q; rw [f40, hm, n2] at this; omega)]
        simp only [R_40_0, R_40_1, R_40_2, R_40_4, Option.bind_some, A_41, A_42, A_43, A_45, W_45, ii, if_true, ni, f40, f41, f42, f43, up_eq]
        rfl
      have hZD : Z n * D = D * Z n := Int.mul_comm _ _
      rw [hZD] at e1
      generalize hg : (s.1 40 8 + s.1 40 9 * s.1 41 n + s.1 40 10 * s.1 42 n - s.1 43 n * s.1 40 11) = g at *
      have hle : (0 ≤ g) ↔ 0 ≤ P + Q * X n + R * Y n - D * Z n := by rw [i_le, e1]; exact Iff.rfl
      have hon := n3.tr (onlyA.up u n g)
      by_cases hgz : 0 ≤ g
      · left
        rw [hev, if_pos hgz]
        have hi1 : (i + 1).toInt = n + 1 := i_add n2 rfl (by omega) (by omega)
        refine ⟨_, rfl, ⟨n + 1, by omega, by rw [hi1]; omega, hon, fun k hk => ?_⟩, ?_⟩
        · dsimp only
          by_cases e : k = n
          · subst e
            rw [up_eq]
            have := hle.mp hgz
            exact ⟨by omega, e1⟩
          · rw [up_ne _ _ (by omega)]
            exact n4 k (by omega)
        · dsimp only
          rw [hi1, n2]
          omega
      · right
        rw [hev, if_neg hgz]
        have : ¬ 0 ≤ P + Q * X n + R * Y n - D * Z n := fun q => hgz (hle.mpr q)
        exact ⟨_, rfl, hon, Or.inr ⟨n, by omega, n2, by omega, fun k hk => (n4 k hk).1⟩⟩
