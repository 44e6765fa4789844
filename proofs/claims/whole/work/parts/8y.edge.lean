/-! edge: the pure choice -/
theorem forzG {S A R : Type} {body : S → Option (S ⊕ R)} (mk : A → Int32 → xS → S) (I : Nat → A → xS → Prop) (a b : Nat) {Q : R → Prop} {c0 : A} {s0 : xS} (hab : a ≤ b) (h0 : I a c0 s0)
    (hstep : ∀ (n : Nat) (c : A) (s : xS), a ≤ n → n < b → I n c s → ∃ c' s', body (mk c (iz n) s) = some (.inl (mk c' (iz ((n : Int) + 1)) s')) ∧ I (n + 1) c' s')
    (hend : ∀ (c : A) (s : xS), I b c s → ∃ v, body (mk c (iz b) s) = some (.inr v) ∧ Q v) : ok (whl body (mk c0 (iz a) s0)) Q := by
  have key : ∀ m n c s, n + m = b → a ≤ n → I n c s → ok (whl body (mk c (iz n) s)) Q := by
    intro m
    induction m with
    | zero =>
      intro n c s h1 h2 h3
      have : n = b := by omega
      subst this
      obtain ⟨v, e1, e2⟩ := hend c s h3
      exact ⟨v, whl_inr e1, e2⟩
    | succ m ih =>
      intro n c s h1 h2 h3
      obtain ⟨c', s', e1, e2⟩ := hstep n c s h2 (by omega) h3
      rw [whl_inl e1]
      exact ih (n + 1) c' s' (by omega) (by omega) e2
  exact key (b - a) a c0 s0 (by omega) (Nat.le_refl _) h0
theorem pb {x y B C : Int} (h1 : -B ≤ x) (h2 : x ≤ B) (h3 : 0 ≤ y) (h4 : y ≤ C) : -(B * C) ≤ x * y ∧ x * y ≤ B * C := by
  have a1 := Int.mul_le_mul_of_nonneg_right h2 h3
  have a2 := Int.mul_le_mul_of_nonneg_left h4 (show 0 ≤ B by omega)
  have a3 := Int.mul_le_mul_of_nonneg_right h1 h3
  rw [Int.neg_mul] at a3
  omega
def gp (z : Nat → Int) (i j k : Nat) : Int := ((z i * ((j : Int) - i) - (z j - z i) * i) + (z j - z i) * k + 0 * 0) - z k * ((j : Int) - i)
def va (z : Nat → Int) (n i j : Nat) : Bool := decide (∀ k, k < n → 0 ≤ gp z i j k)
def md (z : Nat → Int) (n i j : Nat) : Int := 2 * z i * ((j : Int) - i) + (z j - z i) * ((n : Int) - 1 - 2 * i)
def btr (z : Nat → Int) (n : Nat) : Option (Nat × Nat) → Nat → Nat → Bool
  | none, _, _ => true
  | some q, i, j => decide (md z n i j * ((q.2 : Int) - q.1) < md z n q.1 q.2 * ((j : Int) - i))
def ud (z : Nat → Int) (n : Nat) (st : Option (Nat × Nat)) (i j : Nat) : Option (Nat × Nat) := if btr z n st i j = true then (if va z n i j = true then some (i, j) else st) else st
def inn (z : Nat → Int) (n i : Nat) : Nat → Option (Nat × Nat) → Option (Nat × Nat)
  | 0, st => st
  | m + 1, st => if i < m then ud z n (inn z n i m st) i m else inn z n i m st
def outn (z : Nat → Int) (n : Nat) : Nat → Option (Nat × Nat)
  | 0 => none
  | i + 1 => inn z n i n (outn z n i)
def wf (z : Nat → Int) (n : Nat) (st : Option (Nat × Nat)) : Prop := ∀ q, st = some q → q.1 < q.2 ∧ q.2 < n ∧ va z n q.1 q.2 = true
theorem ud_wf {z : Nat → Int} {n : Nat} {st : Option (Nat × Nat)} (h : wf z n st) {i j : Nat} (h1 : i < j) (h2 : j < n) : wf z n (ud z n st i j) := by
  unfold ud
  split
  · split
    · rename_i q
      intro w hw
      cases hw
      exact ⟨h1, h2, q⟩
    · exact h
  · exact h
theorem inn_lo {z : Nat → Int} {n i : Nat} {st : Option (Nat × Nat)} : ∀ {m}, m ≤ i + 1 → inn z n i m st = st
  | 0, _ => rfl
  | m + 1, h => by
    rw [inn, if_neg (by omega)]
    exact inn_lo (by omega)
theorem inn_wf {z : Nat → Int} {n i : Nat} {st : Option (Nat × Nat)} (h : wf z n st) : ∀ {m}, m ≤ n → wf z n (inn z n i m st)
  | 0, _ => h
  | m + 1, hm => by
    rw [inn]
    split
    · exact ud_wf (inn_wf h (by omega)) (by omega) (by omega)
    · exact inn_wf h (by omega)
theorem outn_wf {z : Nat → Int} {n : Nat} : ∀ {m}, wf z n (outn z n m)
  | 0 => fun q h => by cases h
  | _ + 1 => inn_wf outn_wf (Nat.le_refl _)
theorem ud_some {z : Nat → Int} {n : Nat} {st : Option (Nat × Nat)} (h : st.isSome = true) (i j : Nat) : (ud z n st i j).isSome = true := by
  unfold ud
  split
  · split
    · rfl
    · exact h
  · exact h
theorem inn_some {z : Nat → Int} {n i : Nat} {st : Option (Nat × Nat)} (h : st.isSome = true) : ∀ {m}, (inn z n i m st).isSome = true
  | 0 => h
  | m + 1 => by
    rw [inn]
    split
    · exact ud_some (inn_some h) _ _
    · exact inn_some h
theorem inn_new {z : Nat → Int} {n i j : Nat} {st : Option (Nat × Nat)} (h1 : i < j) (hv : va z n i j = true) : ∀ {m}, j < m → (inn z n i m st).isSome = true
  | 0, h => by omega
  | m + 1, h => by
    rw [inn]
    by_cases q : j = m
    · subst q
      rw [if_pos h1]
      cases e : inn z n i j st with
      | none => unfold ud; rw [if_pos (show btr z n none i j = true from rfl), if_pos hv]; rfl
      | some w => exact ud_some rfl _ _
    · split
      · exact ud_some (inn_new h1 hv (by omega)) _ _
      · exact inn_new h1 hv (by omega)
theorem mx_ex (f : Nat → Int) : ∀ m, 1 ≤ m → ∃ j, 1 ≤ j ∧ j ≤ m ∧ ∀ k, 1 ≤ k → k ≤ m → f k ≤ f j
  | 0, h => by omega
  | 1, _ => ⟨1, by omega, by omega, fun k h1 h2 => by rw [show k = 1 by omega]; exact Int.le_refl _⟩
  | m + 2, _ => by
    obtain ⟨j, h1, h2, h3⟩ := mx_ex f (m + 1) (by omega)
    by_cases q : f j < f (m + 2)
    · refine ⟨m + 2, by omega, by omega, fun k k1 k2 => ?_⟩
      by_cases r : k = m + 2
      · subst r; omega
      · have := h3 k k1 (by omega); omega
    · refine ⟨j, by omega, by omega, fun k k1 k2 => ?_⟩
      by_cases r : k = m + 2
      · subst r; omega
      · exact h3 k k1 (by omega)
theorem va_ex (z : Nat → Int) {n : Nat} (n3 : 3 ≤ n) (n5 : n ≤ 5) : ∃ j, 0 < j ∧ j < n ∧ va z n 0 j = true := by
  obtain ⟨j, h1, h2, h3⟩ := mx_ex (fun j => (z j - z 0) * ((12 / j : Nat) : Int)) (n - 1) (by omega)
  refine ⟨j, by omega, by omega, ?_⟩
  unfold va
  rw [decide_eq_true_eq]
  intro k hk
  unfold gp
  by_cases q : k = 0
  · subst q
    rw [show (z 0 * ((j : Int) - (0 : Nat)) - (z j - z 0) * (0 : Nat) + (z j - z 0) * (0 : Nat) + 0 * 0 - z 0 * ((j : Int) - (0 : Nat))) = 0 by grind]
    omega
  · have := h3 k (by omega) (by omega)
    have hj : j = 1 ∨ j = 2 ∨ j = 3 ∨ j = 4 := by omega
    have hk' : k = 1 ∨ k = 2 ∨ k = 3 ∨ k = 4 := by omega
    rcases hj with rfl | rfl | rfl | rfl <;> rcases hk' with rfl | rfl | rfl | rfl <;> simp only [Nat.reduceDiv] at this <;> omega
theorem outn_some (z : Nat → Int) {n : Nat} (n3 : 3 ≤ n) (n5 : n ≤ 5) : ∃ q, outn z n n = some q := by
  obtain ⟨j, h1, h2, h3⟩ := va_ex z n3 n5
  have key : ∀ m, (outn z n (m + 1)).isSome = true := by
    intro m
    induction m with
    | zero => exact inn_new h1 h3 h2
    | succ m ih => exact inn_some ih
  have := key (n - 1)
  rw [show n - 1 + 1 = n by omega] at this
  exact Option.isSome_iff_exists.mp this
