/-! hidden: the rank at the model -/
def swp (f g : Nat) (M : Nat → Nat → Nat) (r : Nat) : Nat → Nat := if r = f then M g else if r = g then M f else M r
theorem me_swap {w : xS} {m f g : Nat} {M : Nat → Nat → Nat} (hq : MWq w m M) (hf : f < m) (hg : g < m) : ok (f241 101 (iz f) (iz g) w) (fun r => fr F128 w r.1 ∧ MWq r.1 m (swp f g M)) := by
  obtain ⟨g1, g2, g3⟩ := hq
  have L130 : (130 : Int32) = iz 130 := rfl
  unfold f241
  rw [ifg_pos O_101]
  simp only [iz0]
  refine forz (fun k z => fr F128 w z ∧ z.1 = w.1 ∧ ∀ r, r < 250 → ∀ c, c < 130 → z.2 128 (130 * r + c) = lz ((if c < k then swp f g M r c else M r c : Nat) : Int)) 0 130 (by omega) (by omega) ⟨fr.rf _ _, rfl, fun r hr c hc => by rw [if_neg (by omega)]; exact (g3 r hr c hc).1⟩ (fun k z _ hk ⟨h1, h1', h2⟩ => ?_) (fun z ⟨h1, h1', h2⟩ => ?_)
  · unfold f241_2 f241_72
    by_cases q : f = g
    · subst q
      simp (disch := omega) only [iz0, iz1, iz2, iz3, iz4, iz5, iz7, iz8, iz9, iz10, iz15, iz20, iz25, iz30, iz40, iz49, iz99, iz100, iz300, iz343, iz500, iz999, iz1000, iz1200, iz_add, iz_sub, iz_mul, iz_neg, it_le_t, it_le_f, it_lt_t, it_lt_f, it_eq_t, it_eq_f, bz0, bz1, ifg_T, or_true, true_or, if_true, if_false, Option.bind_some, Option.map_some, L130, ok_some, ok_map, lp_l, lp_r, lpA_l, lpA_r, true_and]
      have e : swp f f M = M := by
        funext r
        unfold swp
        by_cases q : r = f
        · rw [if_pos q, q]
        · rw [if_neg q, if_neg q]
      refine ⟨h1, by rw [h1']; exact g1, g2, fun r hr c hc => ?_⟩
      rw [e]
      have := h2 r hr c hc
      rw [e, ite_self] at this
      exact ⟨this, (g3 r hr c hc).2⟩
    · have a1 := h2 f (by omega) k hk
      have a2 := h2 g (by omega) k hk
      rw [if_neg (by omega)] at a1 a2
      have k1 : z.2 128 ((130 * (f : Int) + k).toNat) = lz ((M f k : Nat) : Int) := by rw [show (130 * (f : Int) + k).toNat = 130 * f + k by omega]; exact a1
      have k2 : z.2 128 ((130 * (g : Int) + k).toNat) = lz ((M g k : Nat) : Int) := by rw [show (130 * (g : Int) + k).toNat = 130 * g + k by omega]; exact a2
      simp (disch := omega) only [iz0, iz1, iz2, iz3, iz4, iz5, iz7, iz8, iz9, iz10, iz15, iz20, iz25, iz30, iz40, iz49, iz99, iz100, iz300, iz343, iz500, iz999, iz1000, iz1200, iz_add, iz_sub, iz_mul, iz_neg, it_le_t, it_le_f, it_lt_t, it_lt_f, it_eq_t, it_eq_f, bz0, bz1, ifg_T, or_true, true_or, if_true, if_false, Option.bind_some, Option.map_some, L130, R_101_50, A_128, W_128, iz_in, iz_n, k1, k2, ok_some, ok_map, lp_l, lp_r, lpA_l, lpA_r, true_and]
      refine ⟨(h1.ul rfl).ul rfl, h1', fun r hr c hc => ?_⟩
      by_cases qc : c = k
      · subst qc
        rw [if_pos (by omega)]
        unfold swp
        by_cases r1 : r = g
        · subst r1
          rw [up_at _ _ (by omega), if_neg (by omega), if_pos rfl]
        · rw [up_ix _ _ (by omega)]
          by_cases r2 : r = f
          · subst r2
            rw [up_at _ _ (by omega), if_pos rfl]
          · rw [up_ix _ _ (by omega), if_neg r2, if_neg r1, h2 r hr c hc, if_neg (by omega)]
      · rw [up_ix _ _ (by omega), up_ix _ _ (by omega), h2 r hr c hc]
        by_cases q3 : c < k
        · rw [if_pos q3, if_pos (by omega)]
        · rw [if_neg q3, if_neg (by omega)]
  · unfold f241_2 f241_72
    simp (disch := omega) only [iz0, iz1, iz2, iz3, iz4, iz5, iz7, iz8, iz9, iz10, iz15, iz20, iz25, iz30, iz40, iz49, iz99, iz100, iz300, iz343, iz500, iz999, iz1000, iz1200, iz_add, iz_sub, iz_mul, iz_neg, it_le_t, it_le_f, it_lt_t, it_lt_f, it_eq_t, it_eq_f, bz0, bz1, ifg_T, or_true, true_or, if_true, if_false, Option.bind_some, Option.map_some, L130, ok_some, ok_map, lp_l, lp_r, lpA_l, lpA_r, true_and]
    refine ⟨h1, by rw [h1']; exact g1, g2, fun r hr c hc => ⟨?_, ?_⟩⟩
    · rw [h2 r hr c hc, if_pos hc]
    · unfold swp
      by_cases r2 : r = f
      · rw [if_pos r2]
        exact ⟨(g3 g (by omega) c hc).2.1, fun q => by omega⟩
      · rw [if_neg r2]
        by_cases r1 : r = g
        · rw [if_pos r1]
          exact ⟨(g3 f (by omega) c hc).2.1, fun q => by omega⟩
        · rw [if_neg r1]
          exact (g3 r hr c hc).2
def elR (k f : Nat) (A B : Nat → Nat) (c : Nat) : Nat := if k ≤ c then (A c + (1000003 - f) * B c) % 1000003 else A c
theorem me_elim {w : xS} {m g r k f : Nat} {M : Nat → Nat → Nat} {by' : Int64} (hq : MWq w m M) (hg : g < r) (hr : r < m) (hk : k < 130) (hf : f < 1000003) :
    ok (whl (fun q : (Int32 × xS) => f242_128 101 (iz g) (iz k) by' (iz r) (lz f) q.1 q.2) (iz k, w)) (fun o => ∃ w', o = .inl (iz ((r : Int) + 1), w') ∧ fr F128 w w' ∧ MWq w' m (stR r (elR k f (M r) (M g)) M)) := by
  obtain ⟨g1, g2, g3⟩ := hq
  have L130 : (130 : Int32) = iz 130 := rfl
  have LL : (1000003 : Int64) = lz ((1000003 : Nat) : Int) := rfl
  refine forz (fun c z => fr F128 w z ∧ z.1 = w.1 ∧ ∀ r', r' < 250 → ∀ c', c' < 130 → z.2 128 (130 * r' + c') = lz ((if r' = r ∧ c' < c then elR k f (M r) (M g) c' else M r' c' : Nat) : Int)) k 130 (by omega) (by omega) ⟨fr.rf _ _, rfl, fun r' hr' c' hc' => ?_⟩ (fun c z c0 hc ⟨h1, h1', h2⟩ => ?_) (fun z ⟨h1, h1', h2⟩ => ?_)
  · rw [(g3 r' hr' c' hc').1]
    by_cases q : r' = r ∧ c' < k
    · obtain ⟨rfl, q⟩ := q
      rw [if_pos ⟨rfl, q⟩]
      unfold elR
      rw [if_neg (by omega)]
    · rw [if_neg q]
  · unfold f242_128 f242_202
    by_cases q : f = 0
    · simp (disch := omega) only [iz0, iz1, iz2, iz3, iz4, iz5, iz7, iz8, iz9, iz10, iz15, iz20, iz25, iz30, iz40, iz49, iz99, iz100, iz300, iz343, iz500, iz999, iz1000, iz1200, iz_add, iz_sub, iz_mul, iz_neg, it_le_t, it_le_f, it_lt_t, it_lt_f, it_eq_t, it_eq_f, bz0, bz1, ifg_T, or_true, true_or, if_true, if_false, Option.bind_some, Option.map_some, L130, lz0, lk_eq_t, ok_some, ok_map, lp_l, lp_r, lpA_l, lpA_r, true_and]
      refine ⟨z, rfl, h1, by rw [h1']; exact g1, g2, fun r' hr' c' hc' => ?_⟩
      have e : elR k f (M r) (M g) c' = M r c' := by
        unfold elR
        rw [q]
        split
        · have := (g3 r (by omega) c' hc').2.1
          omega
        · rfl
      have h3 := h2 r' hr' c' hc'
      by_cases q2 : r' = r
      · subst q2
        rw [stR_p, e]
        rw [e, ite_self] at h3
        exact ⟨h3, (g3 r' hr' c' hc').2⟩
      · rw [stR_n q2]
        rw [if_neg (fun w => q2 w.1)] at h3
        exact ⟨h3, (g3 r' hr' c' hc').2⟩
    · have a1 := h2 r (by omega) c hc
      have a2 := h2 g (by omega) c hc
      rw [if_neg (by omega)] at a1 a2
      have k1 : z.2 128 ((130 * (r : Int) + c).toNat) = lz ((M r c : Nat) : Int) := by rw [show (130 * (r : Int) + c).toNat = 130 * r + c by omega]; exact a1
      have k2 : z.2 128 ((130 * (g : Int) + c).toNat) = lz ((M g c : Nat) : Int) := by rw [show (130 * (g : Int) + c).toNat = 130 * g + c by omega]; exact a2
      have b1 := (g3 r (by omega) c hc).2.1
      have b2 := (g3 g (by omega) c hc).2.1
      have b3 := Nat.mul_le_mul (show 1000003 - f ≤ 1000003 by omega) (show M g c ≤ 1000003 by omega)
      have hv : lrm (lz ((M r c : Nat) : Int) + (((1000003 : Int64) - lz (f : Int)) * lz ((M g c : Nat) : Int))) (1000003 : Int64) = lz ((elR k f (M r) (M g) c : Nat) : Int) := by
        rw [LL, lz_sub, ← Int.natCast_sub (by omega), lz_mul, ← Int.natCast_mul, lz_add, ← Int.natCast_add, lz_remN (by omega) (by omega) (by omega)]
        unfold elR
        rw [if_pos c0]
      simp (disch := omega) only [iz0, iz1, iz2, iz3, iz4, iz5, iz7, iz8, iz9, iz10, iz15, iz20, iz25, iz30, iz40, iz49, iz99, iz100, iz300, iz343, iz500, iz999, iz1000, iz1200, iz_add, iz_sub, iz_mul, iz_neg, it_le_t, it_le_f, it_lt_t, it_lt_f, it_eq_t, it_eq_f, bz0, bz1, ifg_T, or_true, true_or, if_true, if_false, Option.bind_some, Option.map_some, L130, lz0, lk_eq_f, R_101_50, A_128, W_128, iz_in, iz_n, k1, k2, hv, ok_some, ok_map, lp_l, lp_r, lpA_l, lpA_r, true_and]
      refine ⟨h1.ul rfl, h1', fun r' hr' c' hc' => ?_⟩
      by_cases q2 : r' = r ∧ c' = c
      · obtain ⟨rfl, rfl⟩ := q2
        rw [up_at _ _ (by omega), if_pos ⟨rfl, by omega⟩]
      · rw [up_ix _ _ (by omega), h2 r' hr' c' hc']
        by_cases q3 : r' = r ∧ c' < c
        · rw [if_pos q3, if_pos ⟨q3.1, by omega⟩]
        · rw [if_neg q3, if_neg (by omega)]
  · unfold f242_128 f242_202
    simp (disch := omega) only [iz0, iz1, iz2, iz3, iz4, iz5, iz7, iz8, iz9, iz10, iz15, iz20, iz25, iz30, iz40, iz49, iz99, iz100, iz300, iz343, iz500, iz999, iz1000, iz1200, iz_add, iz_sub, iz_mul, iz_neg, it_le_t, it_le_f, it_lt_t, it_lt_f, it_eq_t, it_eq_f, bz0, bz1, ifg_T, or_true, true_or, if_true, if_false, Option.bind_some, Option.map_some, L130, ok_some, ok_map, lp_l, lp_r, lpA_l, lpA_r, true_and]
    refine ⟨z, rfl, h1, by rw [h1']; exact g1, g2, fun r' hr' c' hc' => ?_⟩
    have h3 := h2 r' hr' c' hc'
    by_cases q2 : r' = r
    · subst q2
      rw [stR_p]
      rw [if_pos ⟨rfl, hc'⟩] at h3
      refine ⟨h3, ?_, fun q => by omega⟩
      unfold elR
      split
      · exact Nat.mod_lt _ (by omega)
      · exact (g3 r' hr' c' hc').2.1
    · rw [stR_n q2]
      rw [if_neg (fun w => q2 w.1)] at h3
      exact ⟨h3, (g3 r' hr' c' hc').2⟩
/-! the rows' span stays -/
theorem SE_swap {m f g : Nat} {M : Nat → Nat → Nat} (hf : f < m) (hg : g < m) : SE 130 (GmM m (swp f g M)) (GmM m M) := by
  refine SE.of (fun v hv => ?_) (fun v hv => ?_)
  · obtain ⟨r, hr, rfl⟩ := hv
    unfold swp
    by_cases q : r = f
    · rw [if_pos q]; exact Sp.g _ ⟨g, hg, rfl⟩
    · rw [if_neg q]
      by_cases q2 : r = g
      · rw [if_pos q2]; exact Sp.g _ ⟨f, hf, rfl⟩
      · rw [if_neg q2]; exact Sp.g _ ⟨r, hr, rfl⟩
  · obtain ⟨r, hr, rfl⟩ := hv
    by_cases q : r = f
    · refine Sp.g _ ⟨g, hg, ?_⟩
      unfold swp
      by_cases q2 : g = f
      · rw [if_pos q2, q, q2]
      · rw [if_neg q2, if_pos rfl, q]
    · by_cases q2 : r = g
      · refine Sp.g _ ⟨f, hf, ?_⟩
        unfold swp
        rw [if_pos rfl, q2]
      · refine Sp.g _ ⟨r, hr, ?_⟩
        unfold swp
        rw [if_neg q, if_neg q2]
theorem SE_elim {m g r k f : Nat} {M : Nat → Nat → Nat} (hg : g < r) (hr : r < m) (hf : f < 1000003) (hz : ∀ c, c < k → M g c = 0) : SE 130 (GmM m (stR r (elR k f (M r) (M g)) M)) (GmM m M) := by
  have dv : ∀ c, (1000003 : Int) ∣ (elR k f (M r) (M g) c : Int) - ((M r c : Int) + (-(f : Int)) * (M g c : Int)) := by
    intro c
    unfold elR
    by_cases q : k ≤ c
    · rw [if_pos q]; exact tk_A (by omega)
    · rw [if_neg q, hz c (by omega)]; simp
  refine SE.of (fun v hv => ?_) (fun v hv => ?_)
  · obtain ⟨r', hr', rfl⟩ := hv
    by_cases q : r' = r
    · subst q
      rw [stR_p]
      exact Sp.lc (cZ (M r')) (cZ (M g)) _ (-(f : Int)) (Sp.g _ ⟨r', hr', rfl⟩) (Sp.g _ ⟨g, by omega, rfl⟩) (fun c hc => dv c)
    · rw [stR_n q]; exact Sp.g _ ⟨r', hr', rfl⟩
  · obtain ⟨r', hr', rfl⟩ := hv
    by_cases q : r' = r
    · subst q
      refine Sp.lc (cZ (elR k f (M r') (M g))) (cZ (M g)) _ (f : Int) (Sp.g _ ⟨r', hr', by rw [stR_p]⟩) (Sp.g _ ⟨g, by omega, by rw [stR_n (by omega)]⟩) (fun c hc => ?_)
      have := dv c
      rw [Int.neg_mul] at this
      unfold cZ
      generalize (f : Int) * (M g c : Int) = X at *
      omega
    · exact Sp.g _ ⟨r', hr', by rw [stR_n q]⟩
/-- the state of the elimination: columns before k done, R of them marked -/
def EI (m k R : Nat) (M : Nat → Nat → Nat) (d : Nat → Bool) : Prop := (∀ c, k ≤ c → d c = false) ∧ cnt d k = R ∧ R ≤ m ∧ (∀ c, c < k → d c = true → (∀ j, j < c → M (cnt d c) j = 0) ∧ M (cnt d c) c ≠ 0) ∧ ∀ r, R ≤ r → r < m → ∀ j, j < k → M r j = 0
theorem EI_end {m k R : Nat} {M : Nat → Nat → Nat} {d : Nat → Bool} (h : EI m k R M d) (hM : ∀ r, r < m → ∀ c, c < 130 → M r c < 1000003) (hk : k = 130 ∨ (R = m ∧ k ≤ 130)) : Ec 130 d (fun c => cZ (M (cnt d c))) ∧ SE 130 (Gn 130 d (fun c => cZ (M (cnt d c)))) (GmM m M) ∧ cnt d 130 = R := by
  obtain ⟨h1, h2, h3, h4, h5⟩ := h
  have hc : cnt d 130 = R := by rw [cnt_ff h1 (by omega), h2]
  have hlt : ∀ c, c < 130 → d c = true → cnt d c < m ∧ c < k := by
    intro c hc' hd
    have hck : c < k := by
      by_cases q : c < k
      · exact q
      · rw [h1 c (by omega)] at hd; cases hd
    have := cnt_lt hck hd
    exact ⟨by omega, hck⟩
  refine ⟨fun c hc' hd => ⟨fun j hj => ?_, ?_⟩, ?_, hc⟩
  · show (1000003 : Int) ∣ (M (cnt d c) j : Int)
    rw [(h4 c (hlt c hc' hd).2 hd).1 j hj]
    exact Int.dvd_zero _
  · show ¬ (1000003 : Int) ∣ (M (cnt d c) c : Int)
    have a := (h4 c (hlt c hc' hd).2 hd).2
    have b := hM _ (hlt c hc' hd).1 c hc'
    omega
  · refine SE.of (fun v hv => ?_) (fun v hv => ?_)
    · obtain ⟨c, c1, c2, rfl⟩ := hv
      exact Sp.g _ ⟨cnt d c, (hlt c c1 c2).1, rfl⟩
    · obtain ⟨r, hr, rfl⟩ := hv
      by_cases q : r < R
      · obtain ⟨o1, o2, o3⟩ := en_ok (d := d) (N := 130) (k := r) (by omega)
        refine Sp.g _ ⟨en d 130 r, o1, o2, ?_⟩
        dsimp only
        rw [o3]
      · refine Sp.z _ (fun c hc' => ?_)
        have : k = 130 := by omega
        show (1000003 : Int) ∣ (M r c : Int)
        rw [h5 r (by omega) hr c (by omega)]
        exact Int.dvd_zero _
theorem el_0 {a b' i f : Nat} (ha : a < 1000003) (hi : i * b' % 1000003 = 1) (hf : f = a * i % 1000003) : (a + (1000003 - f) * b') % 1000003 = 0 := by
  have hl := Nat.mod_lt (a * i) (show 0 < 1000003 by omega)
  have h : (1000003 - f) * b' + f * b' = 1000003 * b' := by rw [← Nat.add_mul, Nat.sub_add_cancel (by omega)]
  have h2 : f * b' % 1000003 = a := by
    rw [hf, Nat.mod_mul_mod, Nat.mul_assoc, Nat.mul_mod, hi, Nat.mul_one, Nat.mod_mod, Nat.mod_eq_of_lt ha]
  generalize (1000003 - f) * b' = A at *
  generalize f * b' = B at *
  omega
section ME
variable {s : xS} {m : Nat} {M0 : Nat → Nat → Nat}
def IR (s : xS) (m : Nat) (M0 : Nat → Nat → Nat) (k : Nat) (a : Int32) (w : xS) : Prop := fr F128 s w ∧ ∃ M d R, a = iz ((R : Nat) : Int) ∧ MWq w m M ∧ SE 130 (GmM m M) (GmM m M0) ∧ EI m k R M d
theorem me_52 {w : xS} {k R f : Nat} {M : Nat → Nat → Nat} {d : Nat → Bool} {Q : xS × Int32 → Prop} (h1 : fr F128 s w) (hq : MWq w m M) (hse : SE 130 (GmM m M) (GmM m M0)) (hE : EI m k R M d) (hk : k < 130) (hR : R ≤ f) (hf : f < m) (hx : M f k ≠ 0) :
    ok (f242_52 101 (iz R) (iz k) (iz f) w) (lpA ((k : Int) + 1) (IR s m M0 (k + 1)) Q) := by
  have g1 := hq.1
  have g2 := hq.2.1
  have L130 : (130 : Int32) = iz 130 := rfl
  have LL : (1000003 : Int64) = lz ((1000003 : Nat) : Int) := rfl
  obtain ⟨E1, E2, E3, E4, E5⟩ := hE
  unfold f242_52
  simp (disch := omega) only [g1, iz0, iz1, iz2, iz3, iz4, iz5, iz7, iz8, iz9, iz10, iz15, iz20, iz25, iz30, iz40, iz49, iz99, iz100, iz300, iz343, iz500, iz999, iz1000, iz1200, iz_add, iz_sub, iz_mul, iz_neg, it_le_t, it_le_f, it_lt_t, it_lt_f, it_eq_t, it_eq_f, bz0, bz1, ifg_T, or_true, true_or, if_true, if_false, Option.bind_some, Option.map_some]
  refine (me_swap hq hf (show R < m by omega)).bind (fun r ⟨a1, a2⟩ => ?_)
  have sR : swp f R M R = M f := by
    unfold swp
    by_cases q : R = f
    · rw [if_pos q, q]
    · rw [if_neg q, if_pos rfl]
  have b1 := (a2.2.2 R (by omega) k hk)
  rw [sR] at b1
  have k1 : r.1.2 128 ((130 * (R : Int) + k).toNat) = lz ((M f k : Nat) : Int) := by rw [show (130 * (R : Int) + k).toNat = 130 * R + k by omega]; exact b1.1
  obtain ⟨E, hEE⟩ : ∃ E, E = 1000001 := ⟨_, rfl⟩
  obtain ⟨t, t1, t2, t3⟩ := me_pow r.1 20 0 1 (M f k) (M f k ^ E % 1000003) (by omega) (by omega) b1.2.1 (fun E' h' => by
    have : E' = E := by rw [h', hEE]
    rw [this, Nat.one_mul])
  have ti : t * M f k % 1000003 = 1 := by
    rw [t2]
    refine P_inv (fun d => ?_) (fun E' h' => by rw [h', ← hEE])
    have := Nat.le_of_dvd (by omega) d
    have := b1.2.1
    omega
  have f239e : f239 (lz ((M f k : Nat) : Int)) (1000001 : Int32) r.1 = some (r.1, lz t) := t3
  simp (disch := omega) only [R_101_50, L130, iz_mul, iz_add, A_128, iz_in, iz_n, if_true, Option.bind_some, k1, f239e]
  have hz : ∀ r', R ≤ r' → r' < m → ∀ j, j < k → swp f R M r' j = 0 := by
    intro r' h1 h2 j hj
    unfold swp
    by_cases q : r' = f
    · rw [if_pos q]; exact E5 R (by omega) (by omega) j hj
    · rw [if_neg q]
      by_cases q2 : r' = R
      · rw [if_pos q2]; exact E5 f (by omega) (by omega) j hj
      · rw [if_neg q2]; exact E5 r' h1 h2 j hj
  refine forz (fun q z => fr F128 s z ∧ ∃ M', MWq z m M' ∧ SE 130 (GmM m M') (GmM m M0) ∧ (∀ r', (r' ≤ R ∨ q ≤ r') → M' r' = swp f R M r') ∧ ∀ r', R < r' → r' < q → ∀ j, j ≤ k → M' r' j = 0) (R + 1) m (by omega) (by omega) ⟨h1.tr a1, swp f R M, a2, (SE_swap hf (by omega)).tr hse, fun _ _ => rfl, fun r' h1 h2 => by omega⟩ (fun q z q0 hq' ⟨z1, M', z2, z3, z4, z5⟩ => ?_) (fun z ⟨z1, M', z2, z3, z4, z5⟩ => ?_)
  · have e51 := z2.1
    have c1 := z2.2.2 q (by omega) k hk
    have c2 := z2.2.2 R (by omega) k hk
    have k2 : z.2 128 ((130 * (q : Int) + k).toNat) = lz ((M' q k : Nat) : Int) := by rw [show (130 * (q : Int) + k).toNat = 130 * q + k by omega]; exact c1.1
    have b3 := Nat.mul_le_mul (show M' q k ≤ 1000003 by omega) (show t ≤ 1000003 by omega)
    have hv : lrm (lz ((M' q k : Nat) : Int) * lz t) (1000003 : Int64) = lz ((M' q k * t % 1000003 : Nat) : Int) := by
      rw [LL, lz_mul, ← Int.natCast_mul, lz_remN (by omega) (by omega) (by omega)]
    unfold f242_94
    simp (disch := omega) only [e51, iz0, iz1, iz2, iz3, iz4, iz5, iz7, iz8, iz9, iz10, iz15, iz20, iz25, iz30, iz40, iz49, iz99, iz100, iz300, iz343, iz500, iz999, iz1000, iz1200, iz_add, iz_sub, iz_mul, iz_neg, it_le_t, it_le_f, it_lt_t, it_lt_f, it_eq_t, it_eq_f, bz0, bz1, ifg_T, or_true, true_or, if_true, if_false, Option.bind_some, Option.map_some, R_101_50, L130, A_128, iz_in, iz_n, k2, hv]
    have hlt := Nat.mod_lt (M' q k * t) (show 0 < 1000003 by omega)
    refine (me_elim z2 (show R < q by omega) hq' hk hlt).mono (fun o ⟨w', o1, o2, o3⟩ => ?_)
    subst o1
    refine ⟨rfl, z1.tr o2, _, o3, (SE_elim (show R < q by omega) hq' hlt (fun c hc => ?_)).tr z3, fun r' hr' => ?_, fun r' r1 r2 j hj => ?_⟩
    · rw [z4 R (Or.inl (Nat.le_refl _))]; exact hz R (by omega) (by omega) c hc
    · rw [stR_n (by omega)]; exact z4 r' (by omega)
    · by_cases e : r' = q
      · subst e
        rw [stR_p]
        unfold elR
        by_cases e2 : j = k
        · subst e2
          rw [if_pos (by omega)]
          have e3 : M' R j = M f j := by rw [z4 R (Or.inl (Nat.le_refl _)), sR]
          rw [e3]
          exact el_0 c1.2.1 ti rfl
        · rw [if_neg (by omega), z4 r' (Or.inr (Nat.le_refl _))]
          exact hz r' (by omega) hq' j (by omega)
      · rw [stR_n e]; exact z5 r' r1 (by omega) j hj
  · have e51 := z2.1
    unfold f242_94 f242_211
    simp (disch := omega) only [e51, iz0, iz1, iz2, iz3, iz4, iz5, iz7, iz8, iz9, iz10, iz15, iz20, iz25, iz30, iz40, iz49, iz99, iz100, iz300, iz343, iz500, iz999, iz1000, iz1200, iz_add, iz_sub, iz_mul, iz_neg, it_le_t, it_le_f, it_lt_t, it_lt_f, it_eq_t, it_eq_f, bz0, bz1, ifg_T, or_true, true_or, if_true, if_false, Option.bind_some, Option.map_some, ok_some, ok_map, lp_l, lp_r, lpA_l, lpA_r, true_and]
    have hcn : ∀ c, c ≤ k → cnt (fun c => if c = k then true else d c) c = cnt d c := fun c hc => cnt_cg (fun e he => if_neg (by omega))
    refine ⟨z1, M', fun c => if c = k then true else d c, R + 1, rfl, z2, z3, fun c hc => ?_, ?_, by omega, fun c hc hd => ?_, fun r' h1 h2 j hj => z5 r' (by omega) h2 j (by omega)⟩
    · dsimp only
      rw [if_neg (by omega)]; exact E1 c (by omega)
    · rw [cnt, hcn k (Nat.le_refl _), E2, if_pos rfl]
      simp
    · rw [hcn c (by omega)]
      by_cases e : c = k
      · subst e
        rw [E2, z4 R (Or.inl (Nat.le_refl _))]
        refine ⟨fun j hj => hz R (by omega) (by omega) j hj, ?_⟩
        rw [sR]; exact hx
      · dsimp only at hd
        rw [if_neg e] at hd
        have hl := cnt_lt (show c < k by omega) hd
        rw [z4 (cnt d c) (Or.inl (by omega))]
        unfold swp
        rw [if_neg (by omega), if_neg (by omega)]
        exact E4 c (by omega) hd
theorem me_rank (hq : MWq s m M0) : ok (f242 101 s) (fun r => fr F128 s r.1 ∧ ∃ d e, Ec 130 d e ∧ SE 130 (Gn 130 d e) (GmM m M0) ∧ r.2 = iz (cnt d 130)) := by
  have g2 := hq.2.1
  have L130 : (130 : Int32) = iz 130 := rfl
  unfold f242
  rw [ifg_pos O_101]
  simp only [iz0]
  have fin : ∀ {w : xS} {k R : Nat} {M : Nat → Nat → Nat} {d : Nat → Bool}, fr F128 s w → MWq w m M → SE 130 (GmM m M) (GmM m M0) → EI m k R M d → (k = 130 ∨ (R = m ∧ k ≤ 130)) → ∃ d e, Ec 130 d e ∧ SE 130 (Gn 130 d e) (GmM m M0) ∧ iz ((R : Nat) : Int) = iz (cnt d 130) := by
    intro w k R M d h1 h2 h3 h4 h5
    obtain ⟨e1, e2, e3⟩ := EI_end h4 (fun r hr c hc => (h2.2.2 r (by omega) c hc).2.1) h5
    exact ⟨d, _, e1, e2.tr h3, by rw [e3]⟩
  refine forzA (A := Int32) (IR s m M0) 0 130 (by omega) (by omega) ⟨fr.rf _ _, M0, fun _ => false, 0, rfl, hq, SE.rf, fun _ _ => rfl, rfl, by omega, fun c hc => by omega, fun r _ _ j hj => by omega⟩ (fun k a w _ hk ⟨h1, M, d, R, h2, h3, h4, h5⟩ => ?_) (fun a w ⟨h1, M, d, R, h2, h3, h4, h5⟩ => ?_)
  · subst h2
    have e51 := h3.1
    unfold f242_4 f242_217
    by_cases qR : R = m
    · simp (disch := omega) only [iz0, iz1, iz2, iz3, iz4, iz5, iz7, iz8, iz9, iz10, iz15, iz20, iz25, iz30, iz40, iz49, iz99, iz100, iz300, iz343, iz500, iz999, iz1000, iz1200, iz_add, iz_sub, iz_mul, iz_neg, it_le_t, it_le_f, it_lt_t, it_lt_f, it_eq_t, it_eq_f, bz0, bz1, ifg_T, or_true, true_or, if_true, if_false, Option.bind_some, Option.map_some, L130, e51, ok_some, ok_map, lp_l, lp_r, lpA_l, lpA_r, true_and]
      exact ⟨h1, fin h1 h3 h4 h5 (by omega)⟩
    · have hRm : R < m := by have := h5.2.2.1; omega
      simp (disch := omega) only [iz0, iz1, iz2, iz3, iz4, iz5, iz7, iz8, iz9, iz10, iz15, iz20, iz25, iz30, iz40, iz49, iz99, iz100, iz300, iz343, iz500, iz999, iz1000, iz1200, iz_add, iz_sub, iz_mul, iz_neg, it_le_t, it_le_f, it_lt_t, it_lt_f, it_eq_t, it_eq_f, bz0, bz1, ifg_T, or_true, true_or, if_true, if_false, Option.bind_some, Option.map_some, L130, e51]
      refine forz (fun f z => z = w ∧ ∀ r, R ≤ r → r < f → M r k = 0) R m (by omega) (by omega) ⟨rfl, fun r _ _ => by omega⟩ (fun f z f0 hf ⟨z1, z2⟩ => ?_) (fun z ⟨z1, z2⟩ => ?_)
      · subst z1
        have b1 := h3.2.2 f (by omega) k hk
        have k1 : z.2 128 ((130 * (f : Int) + k).toNat) = lz ((M f k : Nat) : Int) := by rw [show (130 * (f : Int) + k).toNat = 130 * f + k by omega]; exact b1.1
        have b2 := b1.2.1
        unfold f242_21
        simp (disch := omega) only [iz0, iz1, iz2, iz3, iz4, iz5, iz7, iz8, iz9, iz10, iz15, iz20, iz25, iz30, iz40, iz49, iz99, iz100, iz300, iz343, iz500, iz999, iz1000, iz1200, iz_add, iz_sub, iz_mul, iz_neg, it_le_t, it_le_f, it_lt_t, it_lt_f, it_eq_t, it_eq_f, bz0, bz1, ifg_T, or_true, true_or, if_true, if_false, Option.bind_some, Option.map_some, e51, R_101_50, L130, A_128, iz_in, iz_n, k1, lz0]
        by_cases q : M f k = 0
        · rw [lk_eq_t (by omega) (by omega) (by omega) (by omega) (by omega)]
          simp only [ok_some, ok_map, lp_l, lp_r, lpA_l, lpA_r, true_and]
          intro r r0 r1
          by_cases e : r = f
          · rw [e]; exact q
          · exact z2 r r0 (by omega)
        · rw [lk_eq_f (by omega) (by omega) (by omega) (by omega) (by omega)]
          simp only [ok_map, lp_r]
          exact me_52 h1 h3 h4 h5 hk f0 hf q
      · subst z1
        unfold f242_21 f242_52 f242_211
        simp (disch := omega) only [iz0, iz1, iz2, iz3, iz4, iz5, iz7, iz8, iz9, iz10, iz15, iz20, iz25, iz30, iz40, iz49, iz99, iz100, iz300, iz343, iz500, iz999, iz1000, iz1200, iz_add, iz_sub, iz_mul, iz_neg, it_le_t, it_le_f, it_lt_t, it_lt_f, it_eq_t, it_eq_f, bz0, bz1, ifg_T, or_true, true_or, if_true, if_false, Option.bind_some, Option.map_some, e51, ok_some, ok_map, lp_l, lp_r, lpA_l, lpA_r, true_and]
        obtain ⟨E1, E2, E3, E4, E5⟩ := h5
        refine ⟨h1, M, d, R, rfl, h3, h4, fun c hc => E1 c (by omega), ?_, E3, fun c hc hd => ?_, fun r r1 r2 j hj => ?_⟩
        · rw [cnt, E1 k (Nat.le_refl _), E2]; simp
        · refine E4 c ?_ hd
          by_cases e : c = k
          · rw [e, E1 k (Nat.le_refl _)] at hd; cases hd
          · omega
        · by_cases e : j = k
          · rw [e]; exact z2 r r1 r2
          · exact E5 r r1 r2 j (by omega)
  · subst h2
    unfold f242_4 f242_217
    simp (disch := omega) only [iz0, iz1, iz2, iz3, iz4, iz5, iz7, iz8, iz9, iz10, iz15, iz20, iz25, iz30, iz40, iz49, iz99, iz100, iz300, iz343, iz500, iz999, iz1000, iz1200, iz_add, iz_sub, iz_mul, iz_neg, it_le_t, it_le_f, it_lt_t, it_lt_f, it_eq_t, it_eq_f, bz0, bz1, ifg_T, or_true, true_or, if_true, if_false, Option.bind_some, Option.map_some, L130, ok_some, ok_map, lp_l, lp_r, lpA_l, lpA_r, true_and]
    exact ⟨h1, fin h1 h3 h4 h5 (by omega)⟩
end ME
