/-! the class's resting plane: cell 40 and its rows 41 to 45 -/
def RS (s : xS) (m : Nat) (X Y Z : Nat → Int) : Prop := (s.1 40 5).toInt = m ∧ 4 ≤ m ∧ m ≤ 25 ∧ ∀ k, k < m → (s.1 41 k).toInt = X k ∧ (s.1 42 k).toInt = Y k ∧ (s.1 43 k).toInt = Z k ∧ 0 ≤ X k ∧ X k ≤ 4 ∧ 0 ≤ Y k ∧ Y k ≤ 4 ∧ -5000 ≤ Z k ∧ Z k ≤ 5000
/-- nothing changed but fields lo to hi of cell c -/
def only (c lo hi : Nat) (s s' : xS) : Prop := s'.2 = s.2 ∧ ∀ id k, ¬ (id = c ∧ lo ≤ k ∧ k ≤ hi) → s'.1 id k = s.1 id k
theorem up_eq {α : Type} (f : Nat → Nat → α) (a i : Nat) (v : α) : xm_up f a i v a i = v := by simp [xm_up]
theorem up_ne {α : Type} (f : Nat → Nat → α) {a i b j : Nat} (v : α) (h : ¬ (b = a ∧ j = i)) : xm_up f a i v b j = f b j := by
  unfold xm_up
  split
  · rename_i e
    rw [if_neg (fun q => h ⟨e, q⟩)]
  · rfl
theorem mb4 {x y : Int} (hx0 : -4 ≤ x) (hx1 : x ≤ 4) (hy0 : -4 ≤ y) (hy1 : y ≤ 4) : -16 ≤ x * y ∧ x * y ≤ 16 := by
  have h1 : 0 ≤ (4 - x) * (4 - y) := Int.mul_nonneg (by omega) (by omega)
  have h2 : 0 ≤ (4 + x) * (4 + y) := Int.mul_nonneg (by omega) (by omega)
  have h3 : 0 ≤ (4 - x) * (4 + y) := Int.mul_nonneg (by omega) (by omega)
  have h4 : 0 ≤ (4 + x) * (4 - y) := Int.mul_nonneg (by omega) (by omega)
  have e1 : (4 - x) * (4 - y) = 16 - 4 * x - 4 * y + x * y := by grind
  have e2 : (4 + x) * (4 + y) = 16 + 4 * x + 4 * y + x * y := by grind
  have e3 : (4 - x) * (4 + y) = 16 - 4 * x + 4 * y - x * y := by grind
  have e4 : (4 + x) * (4 - y) = 16 + 4 * x - 4 * y - x * y := by grind
  omega
/-- a product of bounded numbers -/
theorem mbd {x y B C : Int} (hx0 : -B ≤ x) (hx1 : x ≤ B) (hy0 : -C ≤ y) (hy1 : y ≤ C) : -(B * C) ≤ x * y ∧ x * y ≤ B * C := by
  have h1 : 0 ≤ (B - x) * (C - y) := Int.mul_nonneg (by omega) (by omega)
  have h2 : 0 ≤ (B + x) * (C + y) := Int.mul_nonneg (by omega) (by omega)
  have h3 : 0 ≤ (B - x) * (C + y) := Int.mul_nonneg (by omega) (by omega)
  have h4 : 0 ≤ (B + x) * (C - y) := Int.mul_nonneg (by omega) (by omega)
  have e1 : (B - x) * (C - y) = B * C - B * y - x * C + x * y := by grind
  have e2 : (B + x) * (C + y) = B * C + B * y + x * C + x * y := by grind
  have e3 : (B - x) * (C + y) = B * C + B * y - x * C - x * y := by grind
  have e4 : (B + x) * (C - y) = B * C - B * y + x * C - x * y := by grind
  omega
set_option maxHeartbeats 1000000 in
theorem rs_span {s : xS} {m : Nat} {X Y Z : Nat → Int} (hs : RS s m X Y Z) {i j k : Int32} {a b c : Nat} (hi : i.toInt = a) (hj : j.toInt = b) (hk : k.toInt = c) (ha : a < m) (hb : b < m) (hc : c < m) :
    (ge_d X Y a b c = 0 → f50 40 i j k s = some (s, 0)) ∧ (ge_d X Y a b c ≠ 0 → ∃ s', f50 40 i j k s = some (s', 1) ∧ only 40 8 11 s s' ∧ (s'.1 40 11).toInt = fi_D X Y a b c ∧ (s'.1 40 9).toInt = fi_s X Y a b c * ge_q Y Z a b c ∧ (s'.1 40 10).toInt = fi_s X Y a b c * ge_r X Z a b c ∧ (s'.1 40 8).toInt = fi_s X Y a b c * ge_p X Y Z a b c) := by
  obtain ⟨hm, m4, m25, hp⟩ := hs
  obtain ⟨xa, ya, za, xa0, xa1, ya0, ya1, za0, za1⟩ := hp a ha
  obtain ⟨xb, yb, zb, xb0, xb1, yb0, yb1, zb0, zb1⟩ := hp b hb
  obtain ⟨xc, yc, zc, xc0, xc1, yc0, yc1, zc0, zc1⟩ := hp c hc
  have ii : xm_in i 25 = true := in_ok hi (by omega) (by omega)
  have ij : xm_in j 25 = true := in_ok hj (by omega) (by omega)
  have ik : xm_in k 25 = true := in_ok hk (by omega) (by omega)
  have ni : i.toNatClampNeg = a := by rw [cl_nat hi]; rfl
  have nj : j.toNatClampNeg = b := by rw [cl_nat hj]; rfl
  have nk : k.toNatClampNeg = c := by rw [cl_nat hk]; rfl
  have d1 := i_sub xb xa (by omega) (by omega)
  have d2 := i_sub yb ya (by omega) (by omega)
  have d3 := i_sub xc xa (by omega) (by omega)
  have d4 := i_sub yc ya (by omega) (by omega)
  have b1 := mb4 (x := X b - X a) (y := Y c - Y a) (by omega) (by omega) (by omega) (by omega)
  have b2 := mb4 (x := X c - X a) (y := Y b - Y a) (by omega) (by omega) (by omega) (by omega)
  have e1 := i_mul d1 d4 (by omega) (by omega)
  have e2 := i_mul d3 d2 (by omega) (by omega)
  have ed : ((s.1 41 b - s.1 41 a) * (s.1 42 c - s.1 42 a) - (s.1 41 c - s.1 41 a) * (s.1 42 b - s.1 42 a)).toInt = ge_d X Y a b c := i_sub e1 e2 (by omega) (by omega)
  have hev : f50 40 i j k s = if ((s.1 41 b - s.1 41 a) * (s.1 42 c - s.1 42 a) - (s.1 41 c - s.1 41 a) * (s.1 42 b - s.1 42 a)) = 0 then some (s, 0) else (if 0 ≤ ((s.1 41 b - s.1 41 a) * (s.1 42 c - s.1 42 a) - (s.1 41 c - s.1 41 a) * (s.1 42 b - s.1 42 a)) then f50_90 40 i j k (s.1 41 b - s.1 41 a) (s.1 42 b - s.1 42 a) (s.1 41 c - s.1 41 a) (s.1 42 c - s.1 42 a) ((s.1 41 b - s.1 41 a) * (s.1 42 c - s.1 42 a) - (s.1 41 c - s.1 41 a) * (s.1 42 b - s.1 42 a)) 1 s else f50_90 40 i j k (s.1 41 b - s.1 41 a) (s.1 42 b - s.1 42 a) (s.1 41 c - s.1 41 a) (s.1 42 c - s.1 42 a) ((s.1 41 b - s.1 41 a) * (s.1 42 c - s.1 42 a) - (s.1 41 c - s.1 41 a) * (s.1 42 b - s.1 42 a)) (-1) s) := by
    unfold f50
    rw [ifg_pos O_40]
    simp only [R_40_0, R_40_1, Option.bind_some, A_41, A_42, ii, ij, ik, if_true, ni, nj, nk]
  generalize hdd : ((s.1 41 b - s.1 41 a) * (s.1 42 c - s.1 42 a) - (s.1 41 c - s.1 41 a) * (s.1 42 b - s.1 42 a)) = dd at *
  have hz : (dd = 0) ↔ ge_d X Y a b c = 0 := by rw [i_eq, ed]; exact Iff.rfl
  constructor
  · intro h0
    rw [hev, if_pos (hz.mpr h0)]
  · intro h0
    rw [hev, if_neg (fun q => h0 (hz.mp q))]
    have hgd : -32 ≤ ge_d X Y a b c ∧ ge_d X Y a b c ≤ 32 := by unfold ge_d; omega
    have main : ∀ (y0 : Int32) (σ : Int), y0.toInt = σ → (σ = 1 ∨ σ = -1) → σ = fi_s X Y a b c → ∃ s', f50_90 40 i j k (s.1 41 b - s.1 41 a) (s.1 42 b - s.1 42 a) (s.1 41 c - s.1 41 a) (s.1 42 c - s.1 42 a) dd y0 s = some (s', 1) ∧ only 40 8 11 s s' ∧ (s'.1 40 11).toInt = fi_D X Y a b c ∧ (s'.1 40 9).toInt = fi_s X Y a b c * ge_q Y Z a b c ∧ (s'.1 40 10).toInt = fi_s X Y a b c * ge_r X Z a b c ∧ (s'.1 40 8).toInt = fi_s X Y a b c * ge_p X Y Z a b c := by
      intro y0 σ hy hσ hfs
      have js := i_sub zb za (by omega) (by omega)
      have ks := i_sub zc za (by omega) (by omega)
      have js1 := i_mul hy js (by rcases hσ with rfl | rfl <;> omega) (by rcases hσ with rfl | rfl <;> omega)
      have ks1 := i_mul hy ks (by rcases hσ with rfl | rfl <;> omega) (by rcases hσ with rfl | rfl <;> omega)
      have jb : -10000 ≤ σ * (Z b - Z a) ∧ σ * (Z b - Z a) ≤ 10000 := by rcases hσ with rfl | rfl <;> omega
      have kb : -10000 ≤ σ * (Z c - Z a) ∧ σ * (Z c - Z a) ≤ 10000 := by rcases hσ with rfl | rfl <;> omega
      have p1 := mbd (B := 10000) (C := 4) jb.1 jb.2 (show -4 ≤ Y c - Y a by omega) (by omega)
      have p2 := mbd (B := 10000) (C := 4) kb.1 kb.2 (show -4 ≤ Y b - Y a by omega) (by omega)
      have p3 := mbd (B := 4) (C := 10000) (show -4 ≤ X b - X a by omega) (by omega) kb.1 kb.2
      have p4 := mbd (B := 4) (C := 10000) (show -4 ≤ X c - X a by omega) (by omega) jb.1 jb.2
      have sx := i_sub (i_mul js1 d4 (by omega) (by omega)) (i_mul ks1 d2 (by omega) (by omega)) (by omega) (by omega)
      have sy := i_sub (i_mul d1 ks1 (by omega) (by omega)) (i_mul d3 js1 (by omega) (by omega)) (by omega) (by omega)
      have dn := i_mul hy ed (by rcases hσ with rfl | rfl <;> omega) (by rcases hσ with rfl | rfl <;> omega)
      have dnb : -32 ≤ σ * ge_d X Y a b c ∧ σ * ge_d X Y a b c ≤ 32 := by rcases hσ with rfl | rfl <;> omega
      have sxe : σ * (Z b - Z a) * (Y c - Y a) - σ * (Z c - Z a) * (Y b - Y a) = σ * ge_q Y Z a b c := by unfold ge_q; grind
      have sye : (X b - X a) * (σ * (Z c - Z a)) - (X c - X a) * (σ * (Z b - Z a)) = σ * ge_r X Z a b c := by unfold ge_r; grind
      have q1 := mbd (B := 5000) (C := 32) za0 za1 dnb.1 dnb.2
      have q2 := mbd (B := 80000) (C := 4) (x := σ * ge_q Y Z a b c) (by omega) (by omega) (show -4 ≤ X a by omega) (by omega)
      have q3 := mbd (B := 80000) (C := 4) (x := σ * ge_r X Z a b c) (by omega) (by omega) (show -4 ≤ Y a by omega) (by omega)
      rw [sxe] at sx
      rw [sye] at sy
      have bs := i_sub (i_sub (i_mul za dn (by omega) (by omega)) (i_mul sx xa (by omega) (by omega)) (by omega) (by omega)) (i_mul sy ya (by omega) (by omega)) (by omega) (by omega)
      refine ⟨(xm_up (xm_up (xm_up (xm_up s.1 40 11 (y0 * dd)) 40 9 (y0 * (s.1 43 b - s.1 43 a) * (s.1 42 c - s.1 42 a) - y0 * (s.1 43 c - s.1 43 a) * (s.1 42 b - s.1 42 a))) 40 10 ((s.1 41 b - s.1 41 a) * (y0 * (s.1 43 c - s.1 43 a)) - (s.1 41 c - s.1 41 a) * (y0 * (s.1 43 b - s.1 43 a)))) 40 8 (s.1 43 a * (y0 * dd) - (y0 * (s.1 43 b - s.1 43 a) * (s.1 42 c - s.1 42 a) - y0 * (s.1 43 c - s.1 43 a) * (s.1 42 b - s.1 42 a)) * s.1 41 a - ((s.1 41 b - s.1 41 a) * (y0 * (s.1 43 c - s.1 43 a)) - (s.1 41 c - s.1 41 a) * (y0 * (s.1 43 b - s.1 43 a))) * s.1 42 a), s.2), ?_, ?_⟩
      · unfold f50_90
        simp only [R_40_0, R_40_1, R_40_2, Option.bind_some, A_41, A_42, A_43, ii, ij, ik, if_true, ni, nj, nk, pI]
        simp [xm_up]
      · refine ⟨⟨rfl, fun id n hn => ?_⟩, ?_, ?_, ?_, ?_⟩
        · dsimp only
          rw [up_ne _ _ (by omega), up_ne _ _ (by omega), up_ne _ _ (by omega), up_ne _ _ (by omega)]
        · rw [show fi_D X Y a b c = σ * ge_d X Y a b c by unfold fi_D; rw [hfs]]
          simpa [xm_up] using dn
        · rw [← hfs]
          simpa [xm_up] using sx
        · rw [← hfs]
          simpa [xm_up] using sy
        · rw [← hfs]
          have : σ * ge_p X Y Z a b c = Z a * (σ * ge_d X Y a b c) - σ * ge_q Y Z a b c * X a - σ * ge_r X Z a b c * Y a := by unfold ge_p; grind
          rw [this]
          simpa [xm_up] using bs
    have hle : (0 ≤ dd) ↔ 0 ≤ ge_d X Y a b c := by rw [i_le, ed]; exact Iff.rfl
    split
    · rename_i q
      refine main 1 1 rfl (Or.inl rfl) ?_
      unfold fi_s
      have := hle.mp q
      rw [if_neg (by omega)]
    · rename_i q
      refine main (-1) (-1) rfl (Or.inr rfl) ?_
      unfold fi_s
      have : ¬ 0 ≤ ge_d X Y a b c := fun h => q (hle.mpr h)
      rw [if_pos (by omega)]
