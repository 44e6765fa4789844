theorem whl_eq {S R : Type} (body : S → Option (S ⊕ R)) (s : S) : whl body s = (match body s with | none => none | some (.inl s') => whl body s' | some (.inr r) => some r) := by
  split
  · rename_i h
    refine Option.ext fun r => ?_
    rw [whl_iff]
    constructor
    · rintro ⟨n, hn⟩
      cases n with
      | zero => cases hn
      | succ n => simp only [wh_it, h] at hn; cases hn
    · intro q; cases q
  · rename_i s' h; exact whl_inl h
  · rename_i r h; exact whl_inr h
/-- which corners hold the middle -/
def hd_w (X Y : Nat → Int) (C : Nat → Nat) (x y t : Int) (n : Nat) : Int := ge_o X Y (C ((n + 1) % 3)) (C ((n + 2) % 3)) x y t
set_option maxHeartbeats 1000000 in
theorem rs_hold {s : xS} {m : Nat} {X Y Z : Nat → Int} (hs : RS s m X Y Z) {C : Nat → Nat} (hC : ∀ n, n < 3 → (s.1 44 n).toInt = C n ∧ C n < m) {x y : Int} (hx : (s.1 40 6).toInt = x) (hy : (s.1 40 7).toInt = y) (x0 : 0 ≤ x) (x9 : x ≤ 100) (y0 : 0 ≤ y) (y9 : y ≤ 100) :
    f54 40 0 s = some (s, if 0 < hd_w X Y C x y m 0 then s.1 44 0 else if 0 < hd_w X Y C x y m 1 then s.1 44 1 else if 0 < hd_w X Y C x y m 2 then s.1 44 2 else -1) ∧
    f54 40 1 s = some (s, if 0 < hd_w X Y C x y m 0 then (if 0 < hd_w X Y C x y m 1 then s.1 44 1 else if 0 < hd_w X Y C x y m 2 then s.1 44 2 else -1) else if 0 < hd_w X Y C x y m 1 then (if 0 < hd_w X Y C x y m 2 then s.1 44 2 else -1) else -1) ∧
    f54 40 2 s = some (s, if 0 < hd_w X Y C x y m 0 then (if 0 < hd_w X Y C x y m 1 then (if 0 < hd_w X Y C x y m 2 then s.1 44 2 else -1) else -1) else -1) := by
  have hs0 := hs
  obtain ⟨hm, m4, m25, hp⟩ := hs
  have step : ∀ (n : Nat) (i : Int32) (x1 x2 : Int32), n < 3 → i.toInt = n → f54_4 40 x1 x2 i s = if 0 < hd_w X Y C x y m n then (if x2 = x1 then some (Sum.inr (s, s.1 44 n)) else some (Sum.inl (x2 + 1, i + 1, s))) else some (Sum.inl (x2, i + 1, s)) := by
    intro n i x1 x2 hn hi
    obtain ⟨w, hw1, hw2⟩ := rs_weight hs0 hC hn hi hx hy hm x0 x9 y0 y9 (by omega) (by omega)
    have h3 : ¬ (3 : Int32) ≤ i := fun q => by have := i_le.mp q; rw [hi] at this; have : (3 : Int32).toInt = 3 := rfl; omega
    have ii : xm_in i 3 = true := in_ok hi (by omega) (by omega)
    have ni : i.toNatClampNeg = n := by rw [cl_nat hi]; rfl
    have hle : (w ≤ 0) ↔ ¬ 0 < hd_w X Y C x y m n := by
      rw [i_le, hw2]
      show _ ≤ (0 : Int) ↔ _
      unfold hd_w
      omega
    unfold f54_4
    rw [if_neg h3]
    simp only [hw1, Option.bind_some]
    by_cases q : 0 < hd_w X Y C x y m n
    · rw [if_neg (fun r => (hle.mp r) q), if_pos q]
      by_cases q2 : x2 = x1
      · rw [if_pos q2, if_pos q2]
        simp only [R_40_3, Option.bind_some, A_44, ii, if_true, ni]
        rfl
      · rw [if_neg q2, if_neg q2]
        rfl
    · rw [if_pos (hle.mpr q), if_neg q]
      rfl
  have last : ∀ x1 x2 : Int32, f54_4 40 x1 x2 3 s = some (Sum.inr (s, -1)) := by
    intro x1 x2
    unfold f54_4
    rw [if_pos (by decide)]
    rfl
  have s0 := fun x1 x2 => step 0 0 x1 x2 (by decide) rfl
  have s1 := fun x1 x2 => step 1 1 x1 x2 (by decide) rfl
  have s2 := fun x1 x2 => step 2 2 x1 x2 (by decide) rfl
  have a1 : (0 : Int32) + 1 = 1 := by decide
  have a2 : (1 : Int32) + 1 = 2 := by decide
  have a3 : (2 : Int32) + 1 = 3 := by decide
  rw [a1] at s0
  rw [a2] at s1
  rw [a3] at s2
  have d01 : ¬ (0 : Int32) = 1 := by decide
  have d02 : ¬ (0 : Int32) = 2 := by decide
  have d12 : ¬ (1 : Int32) = 2 := by decide
  have d10 : ¬ (1 : Int32) = 0 := by decide
  refine ⟨?_, ?_, ?_⟩
  · unfold f54
    rw [ifg_pos O_40, whl_eq]
    dsimp only
    rw [s0]
    by_cases p0 : 0 < hd_w X Y C x y m 0
    · simp only [p0, if_true]
    · simp only [p0, if_false]
      rw [whl_eq]
      dsimp only
      rw [s1]
      by_cases p1 : 0 < hd_w X Y C x y m 1
      · simp only [p1, if_true]
      · simp only [p1, if_false]
        rw [whl_eq]
        dsimp only
        rw [s2]
        by_cases p2 : 0 < hd_w X Y C x y m 2
        · simp only [p2, if_true]
        · simp only [p2, if_false]
          rw [whl_eq]
          dsimp only
          rw [last]
  · unfold f54
    rw [ifg_pos O_40, whl_eq]
    dsimp only
    rw [s0]
    by_cases p0 : 0 < hd_w X Y C x y m 0
    · simp only [p0, if_true, d01, if_false, a1]
      rw [whl_eq]
      dsimp only
      rw [s1]
      by_cases p1 : 0 < hd_w X Y C x y m 1
      · simp only [p1, if_true]
      · simp only [p1, if_false]
        rw [whl_eq]
        dsimp only
        rw [s2]
        by_cases p2 : 0 < hd_w X Y C x y m 2
        · simp only [p2, if_true]
        · simp only [p2, if_false]
          rw [whl_eq]
          dsimp only
          rw [last]
    · simp only [p0, if_false]
      rw [whl_eq]
      dsimp only
      rw [s1]
      by_cases p1 : 0 < hd_w X Y C x y m 1
      · simp only [p1, if_true, d01, if_false, a1]
        rw [whl_eq]
        dsimp only
        rw [s2]
        by_cases p2 : 0 < hd_w X Y C x y m 2
        · simp only [p2, if_true]
        · simp only [p2, if_false]
          rw [whl_eq]
          dsimp only
          rw [last]
      · simp only [p1, if_false]
        rw [whl_eq]
        dsimp only
        rw [s2]
        by_cases p2 : 0 < hd_w X Y C x y m 2
        · simp only [p2, if_true, d01, if_false]
          rw [whl_eq]
          dsimp only
          rw [last]
        · simp only [p2, if_false]
          rw [whl_eq]
          dsimp only
          rw [last]
  · unfold f54
    rw [ifg_pos O_40, whl_eq]
    dsimp only
    rw [s0]
    by_cases p0 : 0 < hd_w X Y C x y m 0
    · simp only [p0, if_true, d02, if_false, a1]
      rw [whl_eq]
      dsimp only
      rw [s1]
      by_cases p1 : 0 < hd_w X Y C x y m 1
      · simp only [p1, if_true, d12, if_false, a2]
        rw [whl_eq]
        dsimp only
        rw [s2]
        by_cases p2 : 0 < hd_w X Y C x y m 2
        · simp only [p2, if_true]
        · simp only [p2, if_false]
          rw [whl_eq]
          dsimp only
          rw [last]
      · simp only [p1, if_false]
        rw [whl_eq]
        dsimp only
        rw [s2]
        by_cases p2 : 0 < hd_w X Y C x y m 2
        · simp only [p2, if_true, d12, if_false]
          rw [whl_eq]
          dsimp only
          rw [last]
        · simp only [p2, if_false]
          rw [whl_eq]
          dsimp only
          rw [last]
    · simp only [p0, if_false]
      rw [whl_eq]
      dsimp only
      rw [s1]
      by_cases p1 : 0 < hd_w X Y C x y m 1
      · simp only [p1, if_true, d02, if_false, a1]
        rw [whl_eq]
        dsimp only
        rw [s2]
        by_cases p2 : 0 < hd_w X Y C x y m 2
        · simp only [p2, if_true, d12, if_false]
          rw [whl_eq]
          dsimp only
          rw [last]
        · simp only [p2, if_false]
          rw [whl_eq]
          dsimp only
          rw [last]
      · simp only [p1, if_false]
        rw [whl_eq]
        dsimp only
        rw [s2]
        by_cases p2 : 0 < hd_w X Y C x y m 2
        · simp only [p2, if_true, d02, if_false]
          rw [whl_eq]
          dsimp only
          rw [last]
        · simp only [p2, if_false]
          rw [whl_eq]
          dsimp only
          rw [last]
