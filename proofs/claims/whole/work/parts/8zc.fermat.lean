/-! Fermat's inverse at 1000003 -/
def pN (f : Nat → Nat) : Nat → Nat
  | 0 => 1
  | m + 1 => pN f m * f m
theorem pN_cg {f g : Nat → Nat} : ∀ {m}, (∀ k, k < m → f k = g k) → pN f m = pN g m
  | 0, _ => rfl
  | m + 1, h => by rw [pN, pN, pN_cg (fun k hk => h k (by omega)), h m (by omega)]
/-- one value set anew -/
def st1 (f : Nat → Nat) (i v k : Nat) : Nat := if k = i then v else f k
theorem pN_st {f : Nat → Nat} {i v : Nat} : ∀ {m}, i < m → pN (st1 f i v) m * f i = pN f m * v
  | 0, h => by omega
  | m + 1, h => by
    rw [pN, pN]
    by_cases q : i = m
    · subst q
      rw [pN_cg (f := st1 f i v) (g := f) (fun k hk => by unfold st1; rw [if_neg (by omega)])]
      rw [show st1 f i v i = v by unfold st1; rw [if_pos rfl]]
      grind
    · have := pN_st (f := f) (i := i) (v := v) (m := m) (by omega)
      rw [show st1 f i v m = f m by unfold st1; rw [if_neg (by omega)]]
      grind
/-- an injective map of the first m numbers into themselves keeps a product -/
theorem pN_perm (g : Nat → Nat) : ∀ (m : Nat) (f : Nat → Nat), (∀ k, k < m → f k < m) → (∀ k l, k < m → l < m → f k = f l → k = l) → pN (fun k => g (f k)) m = pN g m
  | 0, _, _, _ => rfl
  | m + 1, f, h1, h2 => by
    by_cases q : f m = m
    · rw [pN, pN, q]
      congr 1
      refine pN_perm g m f (fun k hk => ?_) (fun k l hk hl e => h2 k l (by omega) (by omega) e)
      have := h1 k (by omega)
      have : f k ≠ m := fun r => by
        have := h2 k m (by omega) (by omega) (by omega)
        omega
      omega
    · by_cases q2 : ∃ i, i < m ∧ f i = m
      · obtain ⟨i, hi, fi⟩ := q2
        have fm := h1 m (by omega)
        have key := pN_perm g m (st1 f i (f m)) (fun k hk => by
          unfold st1
          split
          · omega
          · rename_i r
            have := h1 k (by omega)
            have : f k ≠ m := fun w => r (h2 k i (by omega) (by omega) (by omega))
            omega) (fun k l hk hl e => by
          unfold st1 at e
          split at e <;> split at e
          · omega
          · have := h2 m l (by omega) (by omega) e
            omega
          · have := h2 k m (by omega) (by omega) e
            omega
          · exact h2 k l (by omega) (by omega) e)
        rw [pN, pN, ← key]
        have e1 := pN_st (f := fun k => g (f k)) (i := i) (v := g (f m)) hi
        have e2 : pN (st1 (fun k => g (f k)) i (g (f m))) m = pN (fun k => g (st1 f i (f m) k)) m := pN_cg (fun k hk => by
          unfold st1
          split <;> rfl)
        rw [e2, fi] at e1
        exact e1.symm
      · exfalso
        have fm := h1 m (by omega)
        have hb : ∀ k, k < m → f k < m := fun k hk => by
          have := h1 k (by omega)
          have : f k ≠ m := fun w => q2 ⟨k, hk, w⟩
          omega
        exact ph f m hb (by omega) h2
where
  ph (f : Nat → Nat) (m : Nat) (hb : ∀ k, k < m → f k < m) (fm : f m < m) (h2 : ∀ k l, k < m + 1 → l < m + 1 → f k = f l → k = l) : False := by
    induction m generalizing f with
    | zero => omega
    | succ m ih =>
      by_cases q : f (m + 1) = m
      · refine ih f (fun k hk => ?_) ?_ (fun k l hk hl e => h2 k l (by omega) (by omega) e)
        · have := hb k (by omega)
          have : f k ≠ m := fun w => by
            have := h2 k (m + 1) (by omega) (by omega) (by omega)
            omega
          omega
        · have := hb m (by omega)
          have : f m ≠ m := fun w => by
            have := h2 m (m + 1) (by omega) (by omega) (by omega)
            omega
          omega
      · by_cases q2 : ∃ i, i < m + 1 ∧ f i = m
        · obtain ⟨i, hi, fi⟩ := q2
          refine ih (st1 f i (f (m + 1))) (fun k hk => ?_) ?_ (fun k l hk hl e => ?_)
          · unfold st1
            split
            · omega
            · rename_i r
              have := hb k (by omega)
              have : f k ≠ m := fun w => r (h2 k i (by omega) (by omega) (by omega))
              omega
          · unfold st1
            split
            · omega
            · rename_i r
              have := hb m (by omega)
              have : f m ≠ m := fun w => r (h2 m i (by omega) (by omega) (by omega))
              omega
          · unfold st1 at e
            split at e <;> split at e
            · omega
            · have := h2 (m + 1) l (by omega) (by omega) e
              omega
            · have := h2 k (m + 1) (by omega) (by omega) e
              omega
            · exact h2 k l (by omega) (by omega) e
        · refine ih f (fun k hk => ?_) ?_ (fun k l hk hl e => h2 k l (by omega) (by omega) e)
          · have := hb k (by omega)
            have : f k ≠ m := fun w => q2 ⟨k, by omega, w⟩
            omega
          · have := hb m (by omega)
            have : f m ≠ m := fun w => q2 ⟨m, by omega, w⟩
            omega
def Pr (p : Nat) : Prop := 1 < p ∧ ∀ d, d ∣ p → d = 1 ∨ d = p
theorem Pr.dvd {p a b : Nat} (hp : Pr p) (h : p ∣ a * b) (ha : ¬ p ∣ a) : p ∣ b := by
  have hc : Nat.gcd p a = 1 := by
    rcases hp.2 _ (Nat.gcd_dvd_left p a) with q | q
    · exact q
    · exact absurd (q ▸ Nat.gcd_dvd_right p a) ha
  exact Nat.Coprime.dvd_of_dvd_mul_left hc h
theorem Pr.fac {p : Nat} (hp : Pr p) : ∀ {m}, m < p → ¬ p ∣ pN (fun k => k + 1) m
  | 0, _ => fun h => by
    have := Nat.le_of_dvd (by decide) h
    have h2 := hp.1
    simp only [pN] at this
    omega
  | m + 1, hm => fun h => by
    rw [pN] at h
    have := hp.dvd h (Pr.fac hp (by omega))
    have := Nat.le_of_dvd (by omega) this
    omega
theorem pN_pow (a p : Nat) (f : Nat → Nat) : ∀ m, pN (fun k => a * f k % p) m % p = a ^ m * pN f m % p
  | 0 => by simp [pN]
  | m + 1 => by
    rw [pN, pN, Nat.mul_mod, pN_pow a p f m, Nat.mod_mod, ← Nat.mul_mod]
    congr 1
    rw [Nat.pow_succ]
    grind
theorem Pr.fermat {p a : Nat} (hp : Pr p) (ha : ¬ p ∣ a) : a ^ (p - 1) % p = 1 := by
  have h1 := hp.1
  have inj : ∀ k l, k < p - 1 → l < p - 1 → a * (k + 1) % p = a * (l + 1) % p → k = l := by
    have w : ∀ k l, k ≤ l → l < p - 1 → a * (k + 1) % p = a * (l + 1) % p → k = l := by
      intro k l hk hl e
      have d : p ∣ a * (l + 1) - a * (k + 1) := Nat.dvd_of_mod_eq_zero (Nat.sub_mod_eq_zero_of_mod_eq e.symm)
      rw [← Nat.mul_sub] at d
      have d2 := hp.dvd d ha
      by_cases q : k = l
      · exact q
      · have := Nat.le_of_dvd (by omega) d2
        omega
    intro k l hk hl e
    rcases Nat.le_total k l with q | q
    · exact w k l q hl e
    · exact (w l k q hk e.symm).symm
  have pos : ∀ k, k < p - 1 → 0 < a * (k + 1) % p := by
    intro k hk
    refine Nat.pos_of_ne_zero (fun q => ?_)
    have := hp.dvd (Nat.dvd_of_mod_eq_zero q) ha
    have := Nat.le_of_dvd (by omega) this
    omega
  have e1 := pN_perm (fun k => k + 1) (p - 1) (fun k => a * (k + 1) % p - 1) (fun k hk => by
    have := pos k hk
    have := Nat.mod_lt (a * (k + 1)) (show 0 < p by omega)
    omega) (fun k l hk hl e => inj k l hk hl (by
    have := pos k hk
    have := pos l hl
    omega))
  have e2 : pN (fun k => a * (k + 1) % p - 1 + 1) (p - 1) = pN (fun k => a * (k + 1) % p) (p - 1) := pN_cg (fun k hk => by have := pos k hk; omega)
  have e3 := pN_pow a p (fun k => k + 1) (p - 1)
  rw [← e2, e1] at e3
  have hf := Pr.fac hp (show p - 1 < p by omega)
  generalize pN (fun k => k + 1) (p - 1) = F at e3 hf
  generalize a ^ (p - 1) = A at e3 ⊢
  have e4 : F * A % p = F * 1 % p := by rw [Nat.mul_one, Nat.mul_comm]; exact e3.symm
  by_cases q : A = 0
  · subst q
    rw [Nat.mul_zero, Nat.zero_mod, Nat.mul_one] at e4
    exact absurd (Nat.dvd_of_mod_eq_zero e4.symm) hf
  · have d : p ∣ F * A - F * 1 := Nat.dvd_of_mod_eq_zero (Nat.sub_mod_eq_zero_of_mod_eq e4)
    rw [← Nat.mul_sub] at d
    obtain ⟨c, hc⟩ := hp.dvd d hf
    have : A = 1 + p * c := by omega
    rw [this, Nat.add_mul_mod_self_left]
    exact Nat.mod_eq_of_lt h1
theorem P_tr : ∀ d, d < 1001 → 2 ≤ d → 1000003 % d ≠ 0 := by decide +kernel
theorem P_pr : Pr 1000003 := by
  refine ⟨by omega, fun d hd => ?_⟩
  obtain ⟨e, he⟩ := hd
  have d0 : d ≠ 0 := fun q => by subst q; omega
  have e0 : e ≠ 0 := fun q => by subst q; omega
  by_cases q : d < 1001
  · by_cases r : 2 ≤ d
    · exact absurd (by rw [he]; exact Nat.mul_mod_right d e) (P_tr d q r)
    · left; omega
  · by_cases r : e < 1001
    · by_cases r2 : 2 ≤ e
      · exact absurd (by rw [he]; exact Nat.mul_mod_left d e) (P_tr e r r2)
      · right
        have : e = 1 := by omega
        subst this
        omega
    · have := Nat.mul_le_mul (show 1001 ≤ d by omega) (show 1001 ≤ e by omega)
      omega
