/-! rank: leading columns of a span -/
theorem P_int {x y : Int} (h : (1000003 : Int) ∣ x * y) (hx : ¬ (1000003 : Int) ∣ x) : (1000003 : Int) ∣ y := by
  have h1 : (1000003 : Nat) ∣ x.natAbs * y.natAbs := by
    rw [← Int.natAbs_mul]
    exact Int.natAbs_dvd_natAbs.mpr h
  have h2 : ¬ (1000003 : Nat) ∣ x.natAbs := fun q => hx (Int.natAbs_dvd_natAbs.mp q)
  exact Int.natAbs_dvd_natAbs.mp (P_pr.dvd h1 h2)
def Clo (K : Nat) (V : (Nat → Int) → Prop) : Prop := (∀ v : Nat → Int, (∀ c, c < K → (1000003 : Int) ∣ v c) → V v) ∧ ∀ (u v w : Nat → Int) (a : Int), V u → V v → (∀ c, c < K → (1000003 : Int) ∣ w c - (u c + a * v c)) → V w
def Sp (K : Nat) (G : (Nat → Int) → Prop) (v : Nat → Int) : Prop := ∀ V : (Nat → Int) → Prop, Clo K V → (∀ u, G u → V u) → V v
theorem Sp.z {K : Nat} {G : (Nat → Int) → Prop} (v : Nat → Int) (h : ∀ c, c < K → (1000003 : Int) ∣ v c) : Sp K G v := fun _ h1 _ => h1.1 v h
theorem Sp.g {K : Nat} {G : (Nat → Int) → Prop} (v : Nat → Int) (h : G v) : Sp K G v := fun _ _ h2 => h2 v h
theorem Sp.lc {K : Nat} {G : (Nat → Int) → Prop} (u v w : Nat → Int) (a : Int) (h1 : Sp K G u) (h2 : Sp K G v) (h : ∀ c, c < K → (1000003 : Int) ∣ w c - (u c + a * v c)) : Sp K G w := fun V g1 g2 => g1.2 u v w a (h1 V g1 g2) (h2 V g1 g2) h
theorem Sp.cl {K : Nat} {G : (Nat → Int) → Prop} : Clo K (Sp K G) := ⟨fun v h => .z v h, fun u v w a h1 h2 h => .lc u v w a h1 h2 h⟩
theorem Sp.mono {K : Nat} {G H : (Nat → Int) → Prop} (h : ∀ v, G v → Sp K H v) {v : Nat → Int} (hv : Sp K G v) : Sp K H v := hv _ Sp.cl h
theorem Sp.mul {K : Nat} {G : (Nat → Int) → Prop} {v w : Nat → Int} (h : Sp K G v) (a : Int) (e : ∀ c, c < K → (1000003 : Int) ∣ w c - a * v c) : Sp K G w :=
  .lc (fun _ => 0) v w a (.z _ (fun _ _ => Int.dvd_zero _)) h (fun c hc => by rw [Int.zero_add]; exact e c hc)
theorem Sp.cg {K : Nat} {G : (Nat → Int) → Prop} {v w : Nat → Int} (h : Sp K G v) (e : ∀ c, c < K → (1000003 : Int) ∣ w c - v c) : Sp K G w := h.mul 1 (fun c hc => by rw [Int.one_mul]; exact e c hc)
/-- a column where some row of the span begins -/
def Ld (K : Nat) (V : (Nat → Int) → Prop) (c : Nat) : Prop := c < K ∧ ∃ v, V v ∧ (∀ k, k < c → (1000003 : Int) ∣ v k) ∧ ¬ (1000003 : Int) ∣ v c
def sR (a : Nat → Int) (e : Nat → Nat → Int) (c : Nat) : Nat → Int
  | 0 => 0
  | k + 1 => sR a e c k + a k * e k c
theorem sR_0 {e : Nat → Nat → Int} {c : Nat} : ∀ k, sR (fun _ => 0) e c k = 0
  | 0 => rfl
  | k + 1 => by rw [sR, sR_0 k]; simp
theorem sR_lc {a b : Nat → Int} {t : Int} {e : Nat → Nat → Int} {c : Nat} : ∀ k, sR (fun j => a j + t * b j) e c k = sR a e c k + t * sR b e c k
  | 0 => by simp [sR]
  | k + 1 => by rw [sR, sR, sR, sR_lc k]; grind
theorem sR_one {e : Nat → Nat → Int} {c m : Nat} : ∀ k, sR (fun j => if j = m then 1 else 0) e c k = if m < k then e m c else 0
  | 0 => by simp [sR]
  | k + 1 => by
    rw [sR, sR_one k]
    by_cases q : k = m
    · subst q
      rw [if_neg (by omega), if_pos rfl, if_pos (by omega)]
      omega
    · rw [if_neg q]
      by_cases r : m < k
      · rw [if_pos r, if_pos (by omega)]; omega
      · rw [if_neg r, if_neg (by omega)]; omega
theorem sR_dvd {a : Nat → Int} {e : Nat → Nat → Int} {c m : Nat} : ∀ k, (∀ j, j < k → j ≠ m → (1000003 : Int) ∣ a j * e j c) → (1000003 : Int) ∣ sR a e c k - (if m < k then a m * e m c else 0)
  | 0, _ => by simp [sR]
  | k + 1, h => by
    have ih := sR_dvd (m := m) k (fun j hj hm => h j (by omega) hm)
    rw [sR]
    by_cases q : k = m
    · subst q
      rw [if_neg (by omega)] at ih
      rw [if_pos (by omega)]
      omega
    · have := h k (by omega) q
      by_cases r : m < k
      · rw [if_pos r] at ih; rw [if_pos (by omega)]; omega
      · rw [if_neg r] at ih; rw [if_neg (by omega)]; omega
/-- a row for each marked column, that begins there -/
def Ec (K : Nat) (d : Nat → Bool) (e : Nat → Nat → Int) : Prop := ∀ c, c < K → d c = true → (∀ k, k < c → (1000003 : Int) ∣ e c k) ∧ ¬ (1000003 : Int) ∣ e c c
def Gn (K : Nat) (d : Nat → Bool) (e : Nat → Nat → Int) (v : Nat → Int) : Prop := ∃ c, c < K ∧ d c = true ∧ v = e c
theorem Sp_sum {K : Nat} {d : Nat → Bool} {e : Nat → Nat → Int} {v : Nat → Int} (h : Sp K (Gn K d e) v) : ∃ a : Nat → Int, (∀ j, d j = false → a j = 0) ∧ ∀ c, c < K → (1000003 : Int) ∣ v c - sR a e c K := by
  refine h (fun v => ∃ a : Nat → Int, (∀ j, d j = false → a j = 0) ∧ ∀ c, c < K → (1000003 : Int) ∣ v c - sR a e c K) ⟨fun v q => ?_, fun u v w t i1 i2 q => ?_⟩ (fun v q => ?_)
  · exact ⟨fun _ => 0, fun _ _ => rfl, fun c hc => by rw [sR_0, Int.sub_zero]; exact q c hc⟩
  rotate_left
  · obtain ⟨m, h1, h2, rfl⟩ := q
    refine ⟨fun j => if j = m then 1 else 0, fun j hj => ?_, fun c hc => ?_⟩
    · dsimp only
      rw [if_neg (fun r => by subst r; rw [h2] at hj; cases hj)]
    · rw [sR_one, if_pos h1, Int.sub_self]
      exact Int.dvd_zero _
  · obtain ⟨a, a1, a2⟩ := i1
    obtain ⟨b, b1, b2⟩ := i2
    refine ⟨fun j => a j + t * b j, fun j hj => by dsimp only; rw [a1 j hj, b1 j hj]; simp, fun c hc => ?_⟩
    rw [sR_lc]
    have h1 := a2 c hc
    have h2 := q c hc
    have h3 := Int.dvd_mul_of_dvd_right (b2 c hc) (b := t)
    rw [Int.mul_sub] at h3
    generalize t * v c = X at *
    generalize t * sR b e c K = Y at *
    omega
theorem Ec_ld {K : Nat} {d : Nat → Bool} {e : Nat → Nat → Int} (h : Ec K d e) (c : Nat) : Ld K (Sp K (Gn K d e)) c ↔ c < K ∧ d c = true := by
  constructor
  · rintro ⟨hc, v, hv, h1, h2⟩
    refine ⟨hc, ?_⟩
    cases hd : d c with
    | true => rfl
    | false =>
      exfalso
      obtain ⟨a, a1, a2⟩ := Sp_sum hv
      have far : ∀ j k, k < j → j < K → (1000003 : Int) ∣ a j * e j k := fun j k hk hj => by
        cases q : d j with
        | true => exact Int.dvd_mul_of_dvd_right ((h j hj q).1 k hk)
        | false => rw [a1 j q, Int.zero_mul]; exact Int.dvd_zero _
      have low : ∀ m k, k < m → m ≤ c → (1000003 : Int) ∣ a k := by
        intro m
        induction m with
        | zero => intro k hk; omega
        | succ m ih =>
          intro k hk hm
          by_cases q : k < m
          · exact ih k q (by omega)
          · have : k = m := by omega
            subst this
            cases qd : d k with
            | false => rw [a1 k qd]; exact Int.dvd_zero _
            | true =>
              have s1 := sR_dvd (a := a) (e := e) (c := k) (m := k) K (fun j hj hne => by
                by_cases r : j < k
                · exact Int.dvd_mul_of_dvd_left (ih j r (by omega))
                · exact far j k (by omega) hj)
              rw [if_pos (by omega)] at s1
              have s2 := a2 k (by omega)
              have s3 := h1 k (by omega)
              have s4 : (1000003 : Int) ∣ e k k * a k := by rw [Int.mul_comm]; omega
              exact P_int s4 (h k (by omega) qd).2
      have s1 := sR_dvd (a := a) (e := e) (c := c) (m := c) K (fun j hj hne => by
        by_cases r : j < c
        · exact Int.dvd_mul_of_dvd_left (low c j r (Nat.le_refl _))
        · exact far j c (by omega) hj)
      rw [if_pos hc, a1 c hd, Int.zero_mul] at s1
      have s2 := a2 c hc
      exact h2 (by omega)
  · rintro ⟨h1, h2⟩
    exact ⟨h1, e c, .g _ ⟨c, h1, h2, rfl⟩, (h c h1 h2).1, (h c h1 h2).2⟩
