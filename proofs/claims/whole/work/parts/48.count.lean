/-! how many triangles there are -/
theorem ph_hole (n : Nat) : ∀ (N : Nat) (f : Nat → Nat), (∀ u, u < N → f u < n) → (∀ u v, u < N → v < N → f u = f v → u = v) → N ≤ n := by
  induction n with
  | zero =>
    intro N f h1 _
    by_cases h : N = 0
    · omega
    · have := h1 0 (by omega)
      omega
  | succ n ih =>
    intro N f h1 h2
    by_cases h : ∃ u, u < N ∧ f u = n
    · obtain ⟨u0, p1, p2⟩ := h
      have h3 := ih (N - 1) (fun u => if u < u0 then f u else f (u + 1)) (fun u hu => ?_) (fun u v hu hv he => ?_)
      · omega
      · show (if u < u0 then f u else f (u + 1)) < n
        split
        · rename_i q
          have q1 := h1 u (by omega)
          have q2 : f u ≠ n := fun e => by have := h2 u u0 (by omega) p1 (by omega); omega
          omega
        · rename_i q
          have q1 := h1 (u + 1) (by omega)
          have q2 : f (u + 1) ≠ n := fun e => by have := h2 (u + 1) u0 (by omega) p1 (by omega); omega
          omega
      · split at he <;> split at he
        · exact h2 u v (by omega) (by omega) he
        · have := h2 u (v + 1) (by omega) (by omega) he; omega
        · have := h2 (u + 1) v (by omega) (by omega) he; omega
        · have := h2 (u + 1) (v + 1) (by omega) (by omega) he; omega
    · have h3 := ih N f (fun u hu => ?_) h2
      · omega
      · have q1 := h1 u hu
        have q2 : f u ≠ n := fun e => h ⟨u, hu, e⟩
        omega
def tr_2 : Nat → Nat
  | 0 => 0
  | n + 1 => tr_2 n + n
def tr_3 : Nat → Nat
  | 0 => 0
  | n + 1 => tr_3 n + tr_2 n
theorem tr_2m {a b : Nat} (h : a ≤ b) : tr_2 a ≤ tr_2 b := by
  induction b with
  | zero => rw [show a = 0 by omega]; exact Nat.le_refl _
  | succ b ih =>
    by_cases q : a = b + 1
    · rw [q]; exact Nat.le_refl _
    · have := ih (by omega)
      simp only [tr_2]
      omega
theorem tr_3m {a b : Nat} (h : a ≤ b) : tr_3 a ≤ tr_3 b := by
  induction b with
  | zero => rw [show a = 0 by omega]; exact Nat.le_refl _
  | succ b ih =>
    by_cases q : a = b + 1
    · rw [q]; exact Nat.le_refl _
    · have := ih (by omega)
      simp only [tr_3]
      omega
theorem tr_lt2 {i j : Nat} (h : i < j) : tr_2 j + i < tr_2 (j + 1) := by simp only [tr_2]; omega
theorem tr_lt3 {i j k : Nat} (h : i < j) (h2 : j < k) : tr_3 k + tr_2 j + i < tr_3 (k + 1) := by
  have h3 := tr_lt2 h
  have h4 := tr_2m (show j + 1 ≤ k by omega)
  simp only [tr_3]
  omega
theorem tr_inj {i j k i' j' k' : Nat} (h1 : i < j) (h2 : j < k) (h1' : i' < j') (h2' : j' < k') (he : tr_3 k + tr_2 j + i = tr_3 k' + tr_2 j' + i') : i = i' ∧ j = j' ∧ k = k' := by
  have a1 := tr_lt3 h1 h2
  have a2 := tr_lt3 h1' h2'
  have hk : k = k' := by
    rcases Nat.lt_trichotomy k k' with q | q | q
    · have := tr_3m (show k + 1 ≤ k' by omega); omega
    · exact q
    · have := tr_3m (show k' + 1 ≤ k by omega); omega
  subst hk
  have b1 := tr_lt2 h1
  have b2 := tr_lt2 h1'
  have hj : j = j' := by
    rcases Nat.lt_trichotomy j j' with q | q | q
    · have := tr_2m (show j + 1 ≤ j' by omega); omega
    · exact q
    · have := tr_2m (show j' + 1 ≤ j by omega); omega
  subst hj
  omega
/-- the number of a set of three -/
def tr_c (a b c : Nat) : Nat := tr_3 (max a (max b c)) + tr_2 (a + b + c - min a (min b c) - max a (max b c)) + min a (min b c)
theorem tr_cs (a b c : Nat) (h1 : a ≠ b) (h2 : b ≠ c) (h3 : a ≠ c) : ∃ i j k, i < j ∧ j < k ∧ tr_c a b c = tr_3 k + tr_2 j + i ∧ ((a = i ∧ b = j ∧ c = k) ∨ (a = j ∧ b = k ∧ c = i) ∨ (a = k ∧ b = i ∧ c = j) ∨ (a = i ∧ b = k ∧ c = j) ∨ (a = j ∧ b = i ∧ c = k) ∨ (a = k ∧ b = j ∧ c = i)) := by
  refine ⟨min a (min b c), a + b + c - min a (min b c) - max a (max b c), max a (max b c), by omega, by omega, rfl, by omega⟩
theorem tr_rot {X Y : Nat → Int} {a b c a' b' c' : Nat} (h : 0 < ge_d X Y a b c) (h' : 0 < ge_d X Y a' b' c') (he : tr_c a b c = tr_c a' b' c') : bl_rot a b c a' b' c' := by
  obtain ⟨n1, n2, n3⟩ := ge_dne (X := X) (Y := Y) (show ge_d X Y a b c ≠ 0 by omega)
  obtain ⟨n1', n2', n3'⟩ := ge_dne (X := X) (Y := Y) (show ge_d X Y a' b' c' ≠ 0 by omega)
  obtain ⟨i, j, k, p1, p2, p3, p4⟩ := tr_cs a b c n1 n2 n3
  obtain ⟨i', j', k', q1, q2, q3, q4⟩ := tr_cs a' b' c' n1' n2' n3'
  obtain ⟨rfl, rfl, rfl⟩ := tr_inj p1 p2 q1 q2 (by omega)
  have r1 := ge_d_rot (X := X) (Y := Y) i j k
  have r2 := ge_d_rot (X := X) (Y := Y) j k i
  have r3 := ge_d_sw (X := X) (Y := Y) i j k
  have r4 := ge_d_rot (X := X) (Y := Y) i k j
  have r5 := ge_d_rot (X := X) (Y := Y) k j i
  unfold bl_rot
  rcases p4 with ⟨rfl, rfl, rfl⟩ | ⟨rfl, rfl, rfl⟩ | ⟨rfl, rfl, rfl⟩ | ⟨rfl, rfl, rfl⟩ | ⟨rfl, rfl, rfl⟩ | ⟨rfl, rfl, rfl⟩ <;>
    rcases q4 with ⟨rfl, rfl, rfl⟩ | ⟨rfl, rfl, rfl⟩ | ⟨rfl, rfl, rfl⟩ | ⟨rfl, rfl, rfl⟩ | ⟨rfl, rfl, rfl⟩ | ⟨rfl, rfl, rfl⟩ <;> first | omega | (exfalso; omega)
theorem tr_b {a b c m : Nat} (h1 : a ≠ b) (h2 : b ≠ c) (h3 : a ≠ c) (ha : a < m) (hb : b < m) (hc : c < m) : tr_c a b c < tr_3 m := by
  obtain ⟨i, j, k, p1, p2, p3, p4⟩ := tr_cs a b c h1 h2 h3
  have := tr_lt3 p1 p2
  have := tr_3m (show k + 1 ≤ m by omega)
  omega
theorem tr_0 {X Y : Nat → Int} {a b c : Nat} (h : 0 < ge_d X Y a b c) (h0 : ge_d X Y 0 1 2 = 0) : tr_c a b c ≠ 0 := by
  intro he
  obtain ⟨n1, n2, n3⟩ := ge_dne (X := X) (Y := Y) (show ge_d X Y a b c ≠ 0 by omega)
  obtain ⟨i, j, k, p1, p2, p3, p4⟩ := tr_cs a b c n1 n2 n3
  have e0 : tr_3 2 + tr_2 1 + 0 = 0 := rfl
  obtain ⟨rfl, rfl, rfl⟩ := tr_inj p1 p2 (show 0 < 1 by decide) (show 1 < 2 by decide) (by omega)
  have r1 := ge_d_rot (X := X) (Y := Y) 0 1 2
  have r2 := ge_d_rot (X := X) (Y := Y) 1 2 0
  have r3 := ge_d_sw (X := X) (Y := Y) 0 1 2
  have r4 := ge_d_rot (X := X) (Y := Y) 0 2 1
  have r5 := ge_d_rot (X := X) (Y := Y) 2 1 0
  rcases p4 with ⟨rfl, rfl, rfl⟩ | ⟨rfl, rfl, rfl⟩ | ⟨rfl, rfl, rfl⟩ | ⟨rfl, rfl, rfl⟩ | ⟨rfl, rfl, rfl⟩ | ⟨rfl, rfl, rfl⟩ <;> omega
/-- fewer than 2300 exchanges -/
theorem tr_few {X Y Z : Nat → Int} {x y t : Int} {N m : Nat} {a b c e : Nat → Nat} (hm : m ≤ 24 ∨ (m = 25 ∧ ge_d X Y 0 1 2 = 0)) (hs : ∀ u, u < N → bl_st X Y Z x y t (a u) (b u) (c u) (e u)) (hr : ∀ u, u + 1 < N → bl_rot (e u) (b u) (c u) (a (u + 1)) (b (u + 1)) (c (u + 1))) (hb : ∀ u, u < N → a u < m ∧ b u < m ∧ c u < m) : N ≤ 2299 := by
  have hne := fun u (h : u < N) => ge_dne (X := X) (Y := Y) (show ge_d X Y (a u) (b u) (c u) ≠ 0 by have := (hs u h).1; omega)
  have hi : ∀ u v, u < N → v < N → tr_c (a u) (b u) (c u) = tr_c (a v) (b v) (c v) → u = v := by
    intro u v hu hv he
    rcases Nat.lt_trichotomy u v with q | q | q
    · exact absurd (cy_no hs hr q hv (tr_rot (hs u hu).1 (hs v hv).1 he)) (fun f => f)
    · exact q
    · exact absurd (cy_no hs hr q hu (tr_rot (hs v hv).1 (hs u hu).1 he.symm)) (fun f => f)
  rcases hm with hm | ⟨hm, h0⟩
  · have h1 := ph_hole (tr_3 m) N (fun u => tr_c (a u) (b u) (c u)) (fun u hu => tr_b (hne u hu).1 (hne u hu).2.1 (hne u hu).2.2 (hb u hu).1 (hb u hu).2.1 (hb u hu).2.2) hi
    have h2 := tr_3m hm
    have h3 : tr_3 24 = 2024 := by decide +kernel
    omega
  · subst hm
    have h3 : tr_3 25 = 2300 := by decide +kernel
    refine ph_hole 2299 N (fun u => tr_c (a u) (b u) (c u) - 1) (fun u hu => ?_) (fun u v hu hv he => ?_)
    · have q1 := tr_b (hne u hu).1 (hne u hu).2.1 (hne u hu).2.2 (hb u hu).1 (hb u hu).2.1 (hb u hu).2.2
      have q2 := tr_0 (hs u hu).1 h0
      omega
    · have q2 := tr_0 (hs u hu).1 h0
      have q3 := tr_0 (hs v hv).1 h0
      exact hi u v hu hv (by omega)
