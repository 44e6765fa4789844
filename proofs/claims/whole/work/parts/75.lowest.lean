/-! fractions in lowest terms: both sides -/
/-- the Euclid of both sides, on whole numbers -/
theorem gcd_step {p q : Nat} (h : 0 < q) : Nat.gcd q (p % q) = Nat.gcd p q := by rw [Nat.gcd_comm q (p % q), ← Nat.gcd_rec, Nat.gcd_comm]
theorem lz_remN {a b : Nat} (h0 : 0 < b) (h1 : a ≤ 9223372036854775807) (h2 : b ≤ 9223372036854775807) : lrm (lz a) (lz b) = lz ((a % b : Nat) : Int) := by
  rw [lz_rem (by omega) (by omega) (by omega) (by omega), Int.tmod_eq_emod_of_nonneg (by omega)]
  rfl
theorem mo_common {a b : Int} {A B : Nat} (hA : A = a.natAbs) (hb : b = B) (h1 : A ≤ 1000000000000) (h2 : B ≤ 1000000000000) (s : xS) : f215 (lz a) (lz b) s = some (s, lz (Nat.gcd A B)) := by
  have key : ∀ (P Q : Nat), P ≤ 1000000000000 → Q ≤ 1000000000000 → whl (fun q : (Int64 × Int64 × xS) => f215_17 q.1 q.2.1 q.2.2) (lz P, lz Q, s) = some (s, lz (Nat.gcd P Q)) := by
    intro P Q hP hQ
    have hw := whl_rule (body := fun q : (Int64 × Int64 × xS) => f215_17 q.1 q.2.1 q.2.2) (fun q => ∃ p w : Nat, q = (lz p, lz w, s) ∧ p ≤ 1000000000000 ∧ w ≤ 1000000000000 ∧ Nat.gcd p w = Nat.gcd P Q) (fun q => q.2.1.toInt.toNat) (fun r => r = (s, lz (Nat.gcd P Q))) ?_ (lz P, lz Q, s) ⟨P, Q, rfl, hP, hQ, rfl⟩
    · obtain ⟨r, e1, e2⟩ := hw
      rw [e1, e2]
    · rintro q ⟨p, w, rfl, q1, q2, q3⟩
      dsimp only
      unfold f215_17
      simp only [lz0]
      by_cases hw : w = 0
      · right
        subst hw
        rw [if_pos (show lg_cmp (lz ((0 : Nat) : Int)) (lz 0) = 0 by decide +kernel)]
        exact ⟨_, rfl, by rw [← q3, Nat.gcd_zero_right]⟩
      · left
        rw [if_neg (fun q => hw (by have := (lc_eq (by omega) (by omega) (by omega) (by omega)).mp q; omega))]
        rw [ifg_pos (fun q => hw (by have := (lz_eq (by omega) (by omega) (by omega) (by omega)).mp q; omega))]
        rw [lz_remN (by omega) (by omega) (by omega)]
        have hm : p % w < w := Nat.mod_lt _ (by omega)
        refine ⟨_, rfl, ⟨w, p % w, rfl, q2, by omega, by rw [gcd_step (by omega)]; exact q3⟩, ?_⟩
        dsimp only
        rw [lz_t (by omega) (by omega), lz_t (by omega) (by omega)]
        omega
  unfold f215 f215_12
  simp only [lz0]
  subst hb
  by_cases h : 0 ≤ a
  · rw [if_pos ((lc_ge (by omega) (by omega) (by omega) (by omega)).mpr h), show a = ((A : Nat) : Int) by omega]
    exact key A B h1 h2
  · rw [if_neg (fun q => h ((lc_ge (by omega) (by omega) (by omega) (by omega)).mp q)), lz_neg, show -a = ((A : Nat) : Int) by omega]
    exact key A B h1 h2
/-- the upper or the lower part in lowest terms -/
def prt (a : Int) (b : Nat) (p : Int) : Int := if p = 0 then a.tdiv (Nat.gcd a.natAbs b : Nat) else (b : Int).tdiv (Nat.gcd a.natAbs b : Nat)
theorem mo_part {a : Int} {b : Nat} {p : Int} (h1 : a.natAbs ≤ 1000000000000) (h2 : b ≤ 1000000000000) (hb : 0 < b) (p0 : -2147483648 ≤ p) (p1 : p ≤ 2147483647) (s : xS) : f216 (lz a) (lz b) (iz p) s = some (s, lz (prt a b p)) := by
  have hg : 0 < Nat.gcd a.natAbs b := Nat.gcd_pos_of_pos_right _ hb
  have hg2 : Nat.gcd a.natAbs b ≤ b := Nat.gcd_le_right _ hb
  unfold f216 f216_23
  rw [mo_common rfl rfl h1 h2]
  simp only [Option.bind_some, iz0, lz0]
  have hne : ¬ lz (Nat.gcd a.natAbs b) = lz 0 := fun q => by have := (lz_eq (by omega) (by omega) (by omega) (by omega)).mp q; omega
  rw [ifg_pos hne, ifg_pos hne]
  unfold prt
  by_cases hp : p = 0
  · rw [it_eq_t hp, if_pos hp, lz_div (by omega) (by omega) (by omega) (by omega)]
  · rw [it_eq_f hp p0 p1 (by omega) (by omega), if_neg hp, lz_div (by omega) (by omega) (by omega) (by omega)]
theorem eu_le (k : Nat) : ∀ (p w : Nat), w ≤ p → p < 2 ^ k → ∀ j, 2 * k ≤ j → True := fun _ _ _ _ _ _ => trivial
/-- twice as many steps as bits are enough -/
theorem cl_lowest {a : Int} {b : Nat} {p : Int} (h1 : a.natAbs ≤ 1000000000000) (h2 : b ≤ 1000000000000) (hb : 0 < b) (p0 : -2147483648 ≤ p) (p1 : p ≤ 2147483647) (s : xS) : f171 (lz a) (lz b) (iz p) s = some (s, lz (prt a b p)) := by
  have hg : 0 < Nat.gcd a.natAbs b := Nat.gcd_pos_of_pos_right _ hb
  have hg2 : Nat.gcd a.natAbs b ≤ b := Nat.gcd_le_right _ hb
  have fin : ∀ g : Nat, g = Nat.gcd a.natAbs b → f171_51 (lz a) (lz b) (iz p) (lz g) s = some (s, lz (prt a b p)) := by
    intro g e
    unfold f171_51 f171_85
    simp only [lz0, iz0]
    have hne : ¬ lz (g : Nat) = lz 0 := fun q => by have := (lz_eq (by omega) (by omega) (by omega) (by omega)).mp q; omega
    rw [if_neg (fun q => by have := (lc_eq (by omega) (by omega) (by omega) (by omega)).mp q; omega)]
    rw [ifg_pos hne, ifg_pos hne]
    unfold prt
    rw [← e]
    by_cases hp : p = 0
    · rw [it_eq_t hp, if_pos hp, lz_div (by omega) (by omega) (by omega) (by omega)]
    · rw [it_eq_f hp p0 p1 (by omega) (by omega), if_neg hp, lz_div (by omega) (by omega) (by omega) (by omega)]
  have hst : ((if 0 < lz a then lz a else -lz a) : Int64) = lz (a.natAbs : Nat) := by
    have h0 : (0 : Int64) < lz a ↔ 0 < a := by rw [l_lt, lz_t (by omega) (by omega)]; exact Iff.rfl
    by_cases h : 0 < a
    · rw [if_pos (h0.mpr h)]; congr 1; omega
    · rw [if_neg (fun q => h (h0.mp q)), lz_neg]; congr 1; omega
  have hst2 : ((if 0 < lz b then lz b else -lz b) : Int64) = lz b := by
    have h0 : (0 : Int64) < lz b ↔ (0 : Int) < b := by rw [l_lt, lz_t (by omega) (by omega)]; exact Iff.rfl
    rw [if_pos (h0.mpr (by omega))]
  have hw := whl_rule (body := fun q : (Int64 × Int64 × Int32 × xS) => f171_15 (lz a) (lz b) (iz p) q.1 q.2.1 q.2.2.1 q.2.2.2) (fun q => ∃ P w n : Nat, q = (lz P, lz w, iz n, s) ∧ P ≤ 1000000000000 ∧ w ≤ 1000000000000 ∧ Nat.gcd P w = Nat.gcd a.natAbs b ∧ n ≤ 190 ∧ (n = 0 ∨ (w < P ∧ ∃ j, n = 2 * j + 1 ∧ w * 2 ^ j ≤ 1000000000000 ∨ n = 2 * j + 2 ∧ P * 2 ^ j ≤ 1000000000000)))
    (fun q => q.2.1.toInt.toNat) (fun r => r = (s, lz (prt a b p))) ?_ (lz (a.natAbs : Nat), lz b, iz 0, s) ⟨a.natAbs, b, 0, rfl, h1, h2, rfl, by omega, Or.inl rfl⟩
  · obtain ⟨r, e1, e2⟩ := hw
    unfold f171
    rw [hst, hst2]
    simp only [iz0]
    rw [e1, e2]
  · rintro q ⟨P, w, n, rfl, q1, q2, q3, q4, q5⟩
    dsimp only
    unfold f171_15
    simp only [lz0, iz1]
    rw [show (200 : Int32) = iz 200 from rfl, it_le_f (by omega) (by omega) (by omega)]
    by_cases hw : w = 0
    · right
      subst hw
      rw [if_pos (show lg_cmp (lz ((0 : Nat) : Int)) (lz 0) = 0 by decide +kernel)]
      rw [Nat.gcd_zero_right] at q3
      exact ⟨_, by rw [fin P q3]; rfl, rfl⟩
    · left
      rw [if_neg (fun q => hw (by have := (lc_eq (by omega) (by omega) (by omega) (by omega)).mp q; omega))]
      rw [ifg_pos (fun q => hw (by have := (lz_eq (by omega) (by omega) (by omega) (by omega)).mp q; omega))]
      rw [lz_remN (by omega) (by omega) (by omega), iz_add]
      have hm : P % w < w := Nat.mod_lt _ (by omega)
      have hpow : ∀ j, 41 ≤ j → 1000000000000 < 2 ^ j := fun j hj => Nat.lt_of_lt_of_le (show 1000000000000 < 2 ^ 41 by decide) (Nat.pow_le_pow_right (by decide) hj)
      have hnew : n + 1 ≤ 190 ∧ ((w : Nat) > P % w ∧ ∃ j, n + 1 = 2 * j + 1 ∧ P % w * 2 ^ j ≤ 1000000000000 ∨ n + 1 = 2 * j + 2 ∧ w * 2 ^ j ≤ 1000000000000) := by
        rcases q5 with q5 | ⟨q5, j, q6 | q6⟩
        · subst q5
          exact ⟨by omega, hm, 0, Or.inl ⟨rfl, Nat.le_trans (Nat.le_of_eq (Nat.mul_one _)) (by omega)⟩⟩
        · have h3 : j < 41 := Nat.not_le.mp fun h => by
            have h4 := hpow j h
            have h5 : 1 * 2 ^ j ≤ w * 2 ^ j := Nat.mul_le_mul_right _ (by omega)
            omega
          exact ⟨by omega, hm, j, Or.inr ⟨by omega, q6.2⟩⟩
        · have h3 : j < 41 := Nat.not_le.mp fun h => by
            have h4 := hpow j h
            have h5 : 1 * 2 ^ j ≤ P * 2 ^ j := Nat.mul_le_mul_right _ (by omega)
            omega
          have h6 : 2 * (P % w) ≤ P := by
            have e := Nat.div_add_mod P w
            have : 1 ≤ P / w := Nat.div_pos (by omega) (by omega)
            have h7 : w * 1 ≤ w * (P / w) := Nat.mul_le_mul_left _ this
            omega
          refine ⟨by omega, hm, j + 1, Or.inl ⟨by omega, ?_⟩⟩
          have h8 : P % w * 2 ^ (j + 1) = 2 * (P % w) * 2 ^ j := by rw [Nat.pow_succ]; rw [Nat.mul_comm 2 (P % w), Nat.mul_assoc, Nat.mul_comm (2 ^ j) 2]
          have h9 : 2 * (P % w) * 2 ^ j ≤ P * 2 ^ j := Nat.mul_le_mul_right _ h6
          omega
      refine ⟨_, rfl, ⟨w, P % w, n + 1, rfl, q2, by omega, by rw [gcd_step (by omega)]; exact q3, hnew.1, Or.inr hnew.2⟩, ?_⟩
      dsimp only
      rw [lz_t (by omega) (by omega), lz_t (by omega) (by omega)]
      omega
/-- like fractions have like parts -/
theorem prt_eq {a c : Int} {b e : Nat} (hb : 0 < b) (he : 0 < e) (h : a * e = c * b) (p : Int) : prt a b p = prt c e p := by
  have hga : 0 < Nat.gcd a.natAbs b := Nat.gcd_pos_of_pos_right _ hb
  have hgc : 0 < Nat.gcd c.natAbs e := Nat.gcd_pos_of_pos_right _ he
  obtain ⟨a', ha⟩ : ∃ a', a = a' * (Nat.gcd a.natAbs b : Nat) := by
    have : ((Nat.gcd a.natAbs b : Nat) : Int) ∣ a := by
      have := Nat.gcd_dvd_left a.natAbs b
      exact Int.natAbs_dvd_natAbs.mp (by simpa using this)
    obtain ⟨q, hq⟩ := this
    exact ⟨q, by rw [Int.mul_comm]; exact hq⟩
  obtain ⟨c', hc⟩ : ∃ c', c = c' * (Nat.gcd c.natAbs e : Nat) := by
    have : ((Nat.gcd c.natAbs e : Nat) : Int) ∣ c := by
      have := Nat.gcd_dvd_left c.natAbs e
      exact Int.natAbs_dvd_natAbs.mp (by simpa using this)
    obtain ⟨q, hq⟩ := this
    exact ⟨q, by rw [Int.mul_comm]; exact hq⟩
  obtain ⟨b', hb'⟩ : ∃ b', b = b' * Nat.gcd a.natAbs b := by
    obtain ⟨q, hq⟩ := Nat.gcd_dvd_right a.natAbs b
    exact ⟨q, by rw [Nat.mul_comm]; exact hq⟩
  obtain ⟨e', he'⟩ : ∃ e', e = e' * Nat.gcd c.natAbs e := by
    obtain ⟨q, hq⟩ := Nat.gcd_dvd_right c.natAbs e
    exact ⟨q, by rw [Nat.mul_comm]; exact hq⟩
  have hcop1 : Nat.gcd a'.natAbs b' = 1 := by
    have h1 : a.natAbs = a'.natAbs * Nat.gcd a.natAbs b := by
      have := congrArg Int.natAbs ha
      rw [Int.natAbs_mul] at this
      simpa using this
    have h2 : Nat.gcd (a'.natAbs * Nat.gcd a.natAbs b) (b' * Nat.gcd a.natAbs b) = Nat.gcd a.natAbs b := by rw [← h1, ← hb']
    rw [Nat.gcd_mul_right] at h2
    exact Nat.eq_of_mul_eq_mul_right hga (by omega)
  have hcop2 : Nat.gcd c'.natAbs e' = 1 := by
    have h1 : c.natAbs = c'.natAbs * Nat.gcd c.natAbs e := by
      have := congrArg Int.natAbs hc
      rw [Int.natAbs_mul] at this
      simpa using this
    have h2 : Nat.gcd (c'.natAbs * Nat.gcd c.natAbs e) (e' * Nat.gcd c.natAbs e) = Nat.gcd c.natAbs e := by rw [← h1, ← he']
    rw [Nat.gcd_mul_right] at h2
    exact Nat.eq_of_mul_eq_mul_right hgc (by omega)
  generalize hg1 : Nat.gcd a.natAbs b = g1 at *
  generalize hg2 : Nat.gcd c.natAbs e = g2 at *
  have hkey : a' * e' = c' * b' := by
    have h1 : (a' * e') * ((g1 : Int) * g2) = (c' * b') * ((g1 : Int) * g2) := by
      have e1 : a * e = (a' * e') * ((g1 : Int) * g2) := by rw [ha, he']; push_cast; grind
      have e2 : c * b = (c' * b') * ((g1 : Int) * g2) := by rw [hc, hb']; push_cast; grind
      rw [← e1, ← e2, h]
    exact Int.eq_of_mul_eq_mul_right (by have : (0 : Int) < (g1 : Int) * g2 := Int.mul_pos (by omega) (by omega); omega) h1
  have hbp : 0 < b' := Nat.pos_of_ne_zero (fun q => by rw [q] at hb'; omega)
  have hep : 0 < e' := Nat.pos_of_ne_zero (fun q => by rw [q] at he'; omega)
  have hnat : a'.natAbs * e' = c'.natAbs * b' := by
    have := congrArg Int.natAbs hkey
    rw [Int.natAbs_mul, Int.natAbs_mul] at this
    simpa using this
  have hbe : b' = e' := by
    have d1 : b' ∣ e' := by
      have : b' ∣ a'.natAbs * e' := ⟨c'.natAbs, by rw [hnat, Nat.mul_comm]⟩
      exact (Nat.Coprime.dvd_of_dvd_mul_left (show Nat.Coprime b' a'.natAbs by rw [Nat.Coprime, Nat.gcd_comm]; exact hcop1) this)
    have d2 : e' ∣ b' := by
      have : e' ∣ c'.natAbs * b' := ⟨a'.natAbs, by rw [← hnat, Nat.mul_comm]⟩
      exact (Nat.Coprime.dvd_of_dvd_mul_left (show Nat.Coprime e' c'.natAbs by rw [Nat.Coprime, Nat.gcd_comm]; exact hcop2) this)
    exact Nat.dvd_antisymm d1 d2
  have hac : a' = c' := by
    rw [hbe] at hkey
    exact Int.eq_of_mul_eq_mul_right (by omega) hkey
  have t1 : a.tdiv (g1 : Int) = a' := by rw [ha]; exact Int.mul_tdiv_cancel _ (by omega)
  have t2 : c.tdiv (g2 : Int) = c' := by rw [hc]; exact Int.mul_tdiv_cancel _ (by omega)
  have t3 : (b : Int).tdiv (g1 : Int) = b' := by rw [hb']; push_cast; exact Int.mul_tdiv_cancel _ (by omega)
  have t4 : (e : Int).tdiv (g2 : Int) = e' := by rw [he']; push_cast; exact Int.mul_tdiv_cancel _ (by omega)
  unfold prt
  rw [hg1, hg2, t1, t2, t3, t4, hac, hbe]
