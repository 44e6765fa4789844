/-! the class's gaps as a whole; red cells as bits -/
def mN (G : Nat → Int) : Nat → Int
  | 0 => 0
  | k + 1 => if mN G k < G k then G k else mN G k
theorem mN_bd (G : Nat → Int) {B : Int} (hB : 0 ≤ B) : ∀ m, (∀ k, k < m → G k ≤ B) → 0 ≤ mN G m ∧ mN G m ≤ B := by
  intro m
  induction m with
  | zero => intro _; simp only [mN]; omega
  | succ m ih =>
    intro h
    have h1 := ih (fun k hk => h k (by omega))
    have h2 := h m (by omega)
    simp only [mN]
    split <;> omega
theorem lt_scale {a b c e D E : Int} (hD : 0 < D) (hE : 0 < E) (h1 : a * E = c * D) (h2 : b * E = e * D) : a < b ↔ c < e := by
  constructor
  · intro h
    have h3 : a * E < b * E := Int.mul_lt_mul_of_pos_right h hE
    rw [h1, h2] at h3
    exact Int.lt_of_mul_lt_mul_right h3 (by omega)
  · intro h
    have h3 : c * D < e * D := Int.mul_lt_mul_of_pos_right h hD
    rw [← h1, ← h2] at h3
    exact Int.lt_of_mul_lt_mul_right h3 (by omega)
theorem mN_mxS {d : Nat → Bool} {G P : Nat → Int} {D E : Int} (hD : 0 < D) (hE : 0 < E) : ∀ c, (∀ e, e < c → d e = true → G (cnt d e) * E = P e * D) → mN G (cnt d c) * E = mxS d P c * D := by
  intro c
  induction c with
  | zero => intro _; simp [mN, mxS, cnt]
  | succ c ih =>
    intro h
    have h1 := ih (fun e he => h e (by omega))
    simp only [cnt, mxS]
    by_cases q : d c = true
    · have h2 := h c (by omega) q
      have h3 := lt_scale hD hE h1 h2
      rw [if_pos q, mN]
      by_cases q2 : mN G (cnt d c) < G (cnt d c)
      · rw [if_pos q2, if_pos ⟨q, h3.mp q2⟩]; exact h2
      · rw [if_neg q2, if_neg (fun r => q2 (h3.mpr r.2))]; exact h1
    · rw [if_neg q, Nat.add_zero, if_neg (fun r => q r.1)]; exact h1
theorem sN_smS {d : Nat → Bool} {G P : Nat → Int} {D E : Int} : ∀ c, (∀ e, e < c → d e = true → G (cnt d e) * E = P e * D) → sN G (cnt d c) * E = smS d P c * D := by
  intro c
  induction c with
  | zero => intro _; simp [sN, smS, cnt]
  | succ c ih =>
    intro h
    have h1 := ih (fun e he => h e (by omega))
    simp only [cnt, smS]
    by_cases q : d c = true
    · have h2 := h c (by omega) q
      rw [if_pos q, if_pos q, sN, Int.add_mul, Int.add_mul, h1, h2]
    · rw [if_neg q, if_neg q, Nat.add_zero, Int.add_zero]; exact h1
section CC
variable {s : xS} {n : Nat} {d : Nat → Bool} {Z : Nat → Int} {D : Int} {G : Nat → Int}
theorem CG.rel (h : CG s n d Z D G) : ∀ e, e < n * n → d e = true → G (cnt d e) * GD n Z d = GP n Z d e * D := by
  intro e he hd
  have h1 := (h.2.2.2.2 (cnt d e) (cnt_lt he hd)).2.2.2
  rw [en_at he hd] at h1
  exact h1
theorem CG.fr {F : Nat → Nat → Bool} {s' : xS} (h : CG s n d Z D G) (hf : fr F s s') (h1 : F 40 11 = false) (h2 : F 40 5 = false) (h3 : ∀ k, F 45 k = false) : CG s' n d Z D G := ⟨h.1, h.2.1, by rw [hf.i 40 11 h1]; exact h.2.2.1, by rw [hf.i 40 5 h2]; exact h.2.2.2.1, fun k hk => by rw [hf.i 45 k (h3 k)]; exact h.2.2.2.2 k hk⟩
theorem cl_most (h : CG s n d Z D G) (sq : n * n ≤ 25) : f46 40 s = some (s, iz (mN G (cnt d (n * n)))) := by
  obtain ⟨D0, D1, e11, e5, hG⟩ := h
  have cl := cnt_le d (n * n)
  have key : ok (f46 40 s) (fun r => r = (s, iz (mN G (cnt d (n * n))))) := by
    unfold f46
    rw [ifg_pos O_40]
    simp only [iz0]
    refine forzA (A := Int32) (fun k L w => w = s ∧ L = iz (mN G k)) 0 (cnt d (n * n)) (by omega) (by omega) ⟨rfl, rfl⟩ (fun k L w _ hk ⟨h1, h2⟩ => ?_) (fun L w ⟨h1, h2⟩ => ?_)
    · subst h1 h2
      obtain ⟨g1, g2, g3, -⟩ := hG k hk
      have hb := mN_bd G (B := 2000000) (by omega) k (fun j hj => (hG j (by omega)).2.2.1)
      unfold f46_4
      simp (disch := omega) only [iz0, iz1, iz2, iz3, iz4, iz5, iz7, iz8, iz9, iz10, iz15, iz20, iz25, iz30, iz40, iz49, iz99, iz100, iz300, iz343, iz500, iz999, iz1000, iz1200, iz_add, iz_sub, iz_mul, iz_neg, it_le_t, it_le_f, it_lt_t, it_lt_f, it_eq_t, it_eq_f, bz0, bz1, ifg_T, or_true, true_or, if_true, if_false, Option.bind_some, Option.map_some, iz_in, iz_n, nat_toNat, e5, R_40_4, A_45, g1, ok_some, ok_map, lp_l, lp_r, lpA_l, lpA_r, true_and]
      rw [mN]
      by_cases q : mN G k < G k
      · rw [it_lt_t q (by omega) (by omega), if_pos q]
      · rw [it_lt_f (by omega) (by omega) (by omega), if_neg q]
    · subst h1 h2
      unfold f46_4
      simp (disch := omega) only [iz0, iz1, iz2, iz3, iz4, iz5, iz7, iz8, iz9, iz10, iz15, iz20, iz25, iz30, iz40, iz49, iz99, iz100, iz300, iz343, iz500, iz999, iz1000, iz1200, iz_add, iz_sub, iz_mul, iz_neg, it_le_t, it_le_f, it_lt_t, it_lt_f, it_eq_t, it_eq_f, bz0, bz1, ifg_T, or_true, true_or, if_true, if_false, Option.bind_some, Option.map_some, e5, ok_some, ok_map, lp_l, lp_r, lpA_l, lpA_r, true_and]
  obtain ⟨r, e1, e2⟩ := key
  rw [e1, e2]
theorem cl_all (h : CG s n d Z D G) (sq : n * n ≤ 25) : f47 40 s = some (s, lz (sN G (cnt d (n * n)))) := by
  obtain ⟨D0, D1, e11, e5, hG⟩ := h
  have cl := cnt_le d (n * n)
  have key : ok (f47 40 s) (fun r => r = (s, lz (sN G (cnt d (n * n))))) := by
    unfold f47
    rw [ifg_pos O_40]
    simp only [iz0, lz0]
    refine forzA (A := Int64) (fun k L w => w = s ∧ L = lz (sN G k)) 0 (cnt d (n * n)) (by omega) (by omega) ⟨rfl, rfl⟩ (fun k L w _ hk ⟨h1, h2⟩ => ?_) (fun L w ⟨h1, h2⟩ => ?_)
    · subst h1 h2
      obtain ⟨g1, g2, g3, -⟩ := hG k hk
      unfold f47_4
      simp (disch := omega) only [iz0, iz1, iz2, iz3, iz4, iz5, iz7, iz8, iz9, iz10, iz15, iz20, iz25, iz30, iz40, iz49, iz99, iz100, iz300, iz343, iz500, iz999, iz1000, iz1200, iz_add, iz_sub, iz_mul, iz_neg, it_le_t, it_le_f, it_lt_t, it_lt_f, it_eq_t, it_eq_f, bz0, bz1, ifg_T, or_true, true_or, if_true, if_false, Option.bind_some, Option.map_some, iz_in, iz_n, nat_toNat, e5, R_40_4, A_45, g1, iz_l, lz_add, ok_some, ok_map, lp_l, lp_r, lpA_l, lpA_r, true_and]
      rw [sN]
    · subst h1 h2
      unfold f47_4
      simp (disch := omega) only [iz0, iz1, iz2, iz3, iz4, iz5, iz7, iz8, iz9, iz10, iz15, iz20, iz25, iz30, iz40, iz49, iz99, iz100, iz300, iz343, iz500, iz999, iz1000, iz1200, iz_add, iz_sub, iz_mul, iz_neg, it_le_t, it_le_f, it_lt_t, it_lt_f, it_eq_t, it_eq_f, bz0, bz1, ifg_T, or_true, true_or, if_true, if_false, Option.bind_some, Option.map_some, e5, ok_some, ok_map, lp_l, lp_r, lpA_l, lpA_r, true_and]
  obtain ⟨r, e1, e2⟩ := key
  rw [e1, e2]
theorem CG.most (h : CG s n d Z D G) (hE : 0 < GD n Z d) : mN G (cnt d (n * n)) * GD n Z d = mxS d (GP n Z d) (n * n) * D := mN_mxS h.1 hE _ h.rel
theorem CG.sum (h : CG s n d Z D G) : sN G (cnt d (n * n)) * GD n Z d = smS d (GP n Z d) (n * n) * D := sN_smS _ h.rel
theorem CG.mbd (h : CG s n d Z D G) : 0 ≤ mN G (cnt d (n * n)) ∧ mN G (cnt d (n * n)) ≤ 2000000 := mN_bd G (by omega) _ (fun k hk => (h.2.2.2.2 k hk).2.2.1)
theorem CG.sbd (h : CG s n d Z D G) (sq : n * n ≤ 25) : 0 ≤ sN G (cnt d (n * n)) ∧ sN G (cnt d (n * n)) ≤ 50000000 := by
  have cl := cnt_le d (n * n)
  have : ∀ m, m ≤ cnt d (n * n) → 0 ≤ sN G m ∧ sN G m ≤ m * 2000000 := by
    intro m
    induction m with
    | zero => intro _; simp [sN]
    | succ m ih =>
      intro hm
      have h1 := ih (by omega)
      have h2 := h.2.2.2.2 m (by omega)
      simp only [sN]
      have e : ((m + 1 : Nat) : Int) * 2000000 = m * 2000000 + 2000000 := by omega
      rw [e]
      omega
  have := this _ (Nat.le_refl _)
  omega
/-- all are near by k -/
noncomputable def wi (n : Nat) (Z : Nat → Int) (d : Nat → Bool) (k : Int) : Bool := decide (mxS d (GP n Z d) (n * n) ≤ k * GD n Z d)
theorem cl_within (h : CG s n d Z D G) (sq : n * n ≤ 25) (hE : 0 < GD n Z d) {k : Int} (k0 : 0 ≤ k) (k9 : k ≤ 999) : f48 40 (iz k) s = some (s, if wi n Z d k = true then 1 else 0) := by
  have hb := h.mbd
  have hm := h.most hE
  have hD := h.1
  have hD2 := h.2.1
  have hkD := mbd (B := 999) (C := 32) (x := k) (y := D) (by omega) k9 (by omega) hD2
  unfold f48 f48_18
  rw [ifg_pos O_40, cl_most h sq]
  simp only [Option.bind_some, h.2.2.1, iz_mul]
  have e : k * D < mN G (cnt d (n * n)) ↔ k * GD n Z d < mxS d (GP n Z d) (n * n) := lt_scale hD hE (by grind) hm
  by_cases q : k * D < mN G (cnt d (n * n))
  · rw [it_lt_t q (by omega) (by omega)]
    have : ¬ wi n Z d k = true := by unfold wi; rw [decide_eq_true_eq]; have := e.mp q; omega
    rw [if_neg this]
    rfl
  · rw [it_lt_f (by omega) (by omega) (by omega)]
    have : wi n Z d k = true := by unfold wi; rw [decide_eq_true_eq]; have := fun r => q (e.mpr r); omega
    rw [if_pos this]
    rfl
end CC
