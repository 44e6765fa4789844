/-! hidden: write and rank at the class -/
def eqR (A B G x y j : Nat) : Nat := if j = G + 2 then (1000003 - y) % 1000003 else if j = G + 1 then (1000003 - x) % 1000003 else if j = G then 1000002 else if j = B then 1 else if j = A then 1 else 0
theorem eqR_lt (A B G x y j : Nat) : eqR A B G x y j < 1000003 := by
  unfold eqR
  repeat' split
  all_goals omega
theorem w_mod {x : Nat} (hx : x ≤ 1000003) : irm ((1000003 : Int32) - iz x) (1000003 : Int32) = iz (((1000003 - x) % 1000003 : Nat) : Int) := by
  have LP : (1000003 : Int32) = iz ((1000003 : Nat) : Int) := rfl
  rw [LP, iz_sub, ← Int.natCast_sub hx, iz_remN (by omega) (by omega) (by omega)]
theorem f68_at (s : xS) : f68 3 s = some (s, s.1 3 3 * s.1 3 3) := by
  unfold f68
  rw [ifg_pos O_3]
def rwC (n pl : Nat) (Rs : Nat → Rn) (i k : Nat) : Nat → Nat := eqR ((Rs i).2.1 * (n * n) + en (dR n (Rs i).2.2.2.1 (Rs i).2.2.2.2.1) (n * n) k) ((Rs i).1 * (n * n) + ov n (Rs i).2.2.1 (Rs i).2.2.2.1 (Rs i).2.2.2.2.1 (en (dR n (Rs i).2.2.2.1 (Rs i).2.2.2.2.1) (n * n) k)) (pl * (n * n) + 3 * i) (en (dR n (Rs i).2.2.2.1 (Rs i).2.2.2.2.1) (n * n) k % n) (en (dR n (Rs i).2.2.2.1 (Rs i).2.2.2.2.1) (n * n) k / n)
def rwM (n : Nat) (Rs : Nat → Rn) (i k : Nat) : Nat → Nat := eqR (25 * (Rs i).2.1 + en (dR n (Rs i).2.2.2.1 (Rs i).2.2.2.2.1) (n * n) k) (25 * (Rs i).1 + ov n (Rs i).2.2.1 (Rs i).2.2.2.1 (Rs i).2.2.2.2.1 (en (dR n (Rs i).2.2.2.1 (Rs i).2.2.2.2.1) (n * n) k)) (100 + 3 * i) (en (dR n (Rs i).2.2.2.1 (Rs i).2.2.2.2.1) (n * n) k % n) (en (dR n (Rs i).2.2.2.1 (Rs i).2.2.2.2.1) (n * n) k / n)
def cnE (n : Nat) (Rs : Nat → Rn) (i : Nat) : Nat := cnt (dR n (Rs i).2.2.2.1 (Rs i).2.2.2.2.1) (n * n)
theorem ce_write {s : xS} {n pl i k : Nat} {Rs : Nat → Rn} (hn : Cn s n) (h2 : s.1 3 2 = iz pl) (hpl : pl ≤ 4) (hi : i < 10) (hR : CR s (11 + i) (Rs i)) (hv : Rv pl n (Rs i)) (hM : CM s n (Rs i).2.2.1 (Rs i).2.2.2.1 (Rs i).2.2.2.2.1) (hk : k < cnE n Rs i) (hf : ∀ s' : xS, fr F85 s s' → True) :
    ok (f15 82 (11 + i) (iz i) (iz k) s) (fun r => fr F85 s r.1 ∧ ∀ j, j < 130 → r.1.1 85 j = iz ((rwC n pl Rs i k j : Nat) : Int)) := by
  obtain ⟨v1, v2, v3, v4, v5, v6, v7⟩ := hv
  have sq := hn.sq
  have n3 := hn.2.1
  have n5 := hn.2.2
  have cl := cnt_le (dR n (Rs i).2.2.2.1 (Rs i).2.2.2.2.1) (n * n)
  unfold cnE at hk
  obtain ⟨m1, m2⟩ := hM.2 k hk
  obtain ⟨c1, c2, c3⟩ := en_ok hk
  obtain ⟨q0, q1, -⟩ := hR
  have ho := (v4.all c1).2.1
  unfold rwC
  generalize en (dR n (Rs i).2.2.2.1 (Rs i).2.2.2.2.1) (n * n) k = c at *
  generalize ov n (Rs i).2.2.1 (Rs i).2.2.2.1 (Rs i).2.2.2.2.1 c = o at *
  generalize (Rs i).1 = up at *
  generalize (Rs i).2.1 = lo at *
  have p1 := Nat.mul_le_mul (show lo ≤ 3 by omega) sq
  have p2 := Nat.mul_le_mul (show up ≤ 3 by omega) sq
  have p3 := Nat.mul_le_mul hpl sq
  unfold f15
  rw [ifg_pos O_82, ifg_pos (R_O (isR_of hi)), R_82_5, Option.bind_some]
  refine (fill_ok (id := 85) (n := 130) N_85 W_85 (by omega) _ s).bind (fun r0 ⟨g1, g2⟩ => ?_)
  have e33 : r0.1.1 3 3 = iz n := by rw [g1.i _ _ rfl]; exact hn.1
  have e32 : r0.1.1 3 2 = iz pl := by rw [g1.i _ _ rfl]; exact h2
  have e49 : r0.1.1 49 k = iz c := by rw [g1.i _ _ rfl]; exact m1
  have e50 : r0.1.1 50 k = iz o := by rw [g1.i _ _ rfl]; exact m2
  have nE : (11 + i == 85) = false := by simp; omega
  have q0' : r0.1.1 (11 + i) 0 = iz up := by rw [g1.i _ _ nE]; exact q0
  have q1' : r0.1.1 (11 + i) 1 = iz lo := by rw [g1.i _ _ nE]; exact q1
  have eN : iz (n : Int) * iz (n : Int) = iz ((n * n : Nat) : Int) := by rw [iz_mul]; rfl
  generalize n * n = N at *
  have eA : iz (lo : Int) * iz ((N : Nat) : Int) + iz (c : Int) = iz ((lo * N + c : Nat) : Int) := by rw [iz_mul, iz_add]; push_cast; rfl
  have eB : iz (up : Int) * iz ((N : Nat) : Int) + iz (o : Int) = iz ((up * N + o : Nat) : Int) := by rw [iz_mul, iz_add]; push_cast; rfl
  have eG : iz (pl : Int) * iz ((N : Nat) : Int) + iz 3 * iz (i : Int) = iz ((pl * N + 3 * i : Nat) : Int) := by rw [iz_mul, iz_mul, iz_add]; push_cast; rfl
  have eG1 : iz ((pl * N + 3 * i : Nat) : Int) + iz 1 = iz ((pl * N + 3 * i + 1 : Nat) : Int) := by rw [iz_add]; push_cast; rfl
  have eG2 : iz ((pl * N + 3 * i : Nat) : Int) + iz 2 = iz ((pl * N + 3 * i + 2 : Nat) : Int) := by rw [iz_add]; push_cast; rfl
  have ex : irm (iz (c : Int)) (iz (n : Int)) = iz ((c % n : Nat) : Int) := iz_remN (by omega) (by omega) (by omega)
  have ey : iz (c : Int) / iz (n : Int) = iz ((c / n : Nat) : Int) := iz_divN (by omega) (by omega) (by omega)
  have lx : c % n ≤ 25 := by have := Nat.mod_lt c (show 0 < n by omega); omega
  have ly : c / n ≤ 25 := by have := Nat.div_le_self c n; omega
  simp (disch := omega) only [R_82_5, R_82_2, R_39_5, R_39_6, R_82_0, A_49, A_50, Option.bind_some, f68_at, iz_in, iz_n, nat_toNat, if_true, e33, e32, e49, e50, q0', q1', eN, eA, up_id, iz3, iz1, iz2, eG]
  simp (disch := omega) only [W_85, Option.bind_some, f68_at, iz_in, iz_n, nat_toNat, if_true, e33, e32, e50, q0', q1', eN, eB, up_id, iz1, iz2, eG1, eG2, ex, ey, nz, w_mod, ok_some]
  refine ⟨(((((fr.mono g1 (fun id k h => h)).ui rfl).ui rfl).ui rfl).ui rfl).ui rfl, fun j hj => ?_⟩
  unfold eqR
  by_cases j1 : j = pl * N + 3 * i + 2
  · rw [if_pos j1, up_at _ _ j1]
  · rw [if_neg j1, up_ix _ _ j1]
    by_cases j2 : j = pl * N + 3 * i + 1
    · rw [if_pos j2, up_at _ _ j2]
    · rw [if_neg j2, up_ix _ _ j2]
      by_cases j3 : j = pl * N + 3 * i
      · rw [if_pos j3, up_at _ _ j3]; rfl
      · rw [if_neg j3, up_ix _ _ j3]
        by_cases j4 : j = up * N + o
        · rw [if_pos j4, up_at _ _ j4]; rfl
        · rw [if_neg j4, up_ix _ _ j4]
          by_cases j5 : j = lo * N + c
          · rw [if_pos j5, up_at _ _ j5]; rfl
          · rw [if_neg j5, up_ix _ _ j5, g2 j hj]; rfl
def GL (rw' : Nat → Nat → Nat → Nat) (cn : Nat → Nat) (i k : Nat) (v : Nat → Int) : Prop := ∃ i' k', ((i' < i ∧ k' < cn i') ∨ (i' = i ∧ k' < k)) ∧ v = cZ (rw' i' k')
theorem GL_step {K : Nat} {rw' : Nat → Nat → Nat → Nat} {cn : Nat → Nat} {i k : Nat} : SE K (G1 (GL rw' cn i k) (cZ (rw' i k))) (GL rw' cn i (k + 1)) := by
  refine SE.of (fun v hv => ?_) (fun v hv => ?_)
  · rcases hv with ⟨i', k', h1, rfl⟩ | rfl
    · exact Sp.g _ ⟨i', k', by omega, rfl⟩
    · exact Sp.g _ ⟨i, k, by omega, rfl⟩
  · obtain ⟨i', k', h1, rfl⟩ := hv
    by_cases q : i' = i ∧ k' = k
    · obtain ⟨rfl, rfl⟩ := q
      exact Sp.g _ (Or.inr rfl)
    · exact Sp.g _ (Or.inl ⟨i', k', by omega, rfl⟩)
theorem GL_next {K : Nat} {rw' : Nat → Nat → Nat → Nat} {cn : Nat → Nat} {i : Nat} : SE K (GL rw' cn i (cn i)) (GL rw' cn (i + 1) 0) := by
  refine SE.of (fun v hv => ?_) (fun v hv => ?_)
  · obtain ⟨i', k', h1, rfl⟩ := hv
    refine Sp.g _ ⟨i', k', ?_, rfl⟩
    rcases h1 with h1 | ⟨rfl, h1⟩
    · exact Or.inl ⟨by omega, h1.2⟩
    · exact Or.inl ⟨by omega, h1⟩
  · obtain ⟨i', k', h1, rfl⟩ := hv
    refine Sp.g _ ⟨i', k', ?_, rfl⟩
    rcases h1 with h1 | ⟨-, h1⟩
    · by_cases q : i' = i
      · subst q; exact Or.inr ⟨rfl, h1.2⟩
      · exact Or.inl ⟨by omega, h1.2⟩
    · omega
theorem GL_0 {K : Nat} {rw' : Nat → Nat → Nat → Nat} {cn : Nat → Nat} {d : Nat → Bool} {e : Nat → Nat → Int} (hd : ∀ c, d c = false) : SE K (Gn K d e) (GL rw' cn 0 0) := by
  refine SE.of (fun v hv => ?_) (fun v hv => ?_)
  · obtain ⟨c, -, h2, -⟩ := hv
    rw [hd c] at h2
    cases h2
  · obtain ⟨i', k', h1, -⟩ := hv
    omega
theorem F835_z (id k : Nat) (h : F835 id k = true) : Fz id k = true := by
  refine Fy_z id k ?_
  unfold F835 at h
  simp only [Bool.or_eq_true, beq_iff_eq] at h
  unfold Fy
  rw [bleT (show 83 ≤ id by omega), bleT (show id ≤ 85 by omega)]
  simp only [Bool.and_true, Bool.or_true, Bool.true_or]
theorem EQ.fr {F : Nat → Nat → Bool} {s s' : xS} {K : Nat} {d : Nat → Bool} {E : Nat → Nat → Nat} (h : EQ s K d E) (hf : fr F s s') (h1 : ∀ k, F 83 k = false) (h2 : ∀ k, F 84 k = false) : EQ s' K d E := by
  intro c hc
  rw [hf.i 84 c (h2 c)]
  refine ⟨(h c hc).1, fun hd => ⟨fun j j0 j1 => ?_, ((h c hc).2 hd).2⟩⟩
  rw [hf.i 83 _ (h1 _)]
  exact ((h c hc).2 hd).1 j j0 j1
section HR
variable {s : xS} {b n pl : Nat} {red slip : Int} {x : sS} {W S : Nat → Int} {st : Int32} {rc : Nat} {Rs : Nat → Rn}
theorem ce_unk (h : Core s b n pl red slip x W S st rc Rs) : f13 82 s = some (s, iz ((pl * (n * n) + 3 * rc : Nat) : Int)) := by
  unfold f13
  rw [ifg_pos O_82]
  have e1 := h.1.1
  have e2 := h.1.2.2.2.2.2.2.2.1
  simp only [R_82_0, R_82_1, Option.bind_some, h.cn.cells, e1, e2, iz3, iz_mul, iz_add]
  push_cast
  rfl
theorem ce_rank (h : Core s b n pl red slip x W S st rc Rs) : ok (f14 82 s) (fun r => fr Fz s r.1 ∧ ∃ d e, Ec (pl * (n * n) + 3 * rc) d e ∧ SE (pl * (n * n) + 3 * rc) (Gn (pl * (n * n) + 3 * rc) d e) (GL (rwC n pl Rs) (cnE n Rs) rc 0) ∧ r.2 = iz (cnt d (pl * (n * n) + 3 * rc))) := by
  have hpl := h.p4
  have hrc := h.rc10
  have sq := h.cn.sq
  have hV := h.2.2
  have p3 := Nat.mul_le_mul hpl sq
  have L130 : (130 : Int32) = iz ((130 : Nat) : Int) := rfl
  unfold f14
  rw [ifg_pos O_82]
  simp only [iz0]
  refine forz (fun m w => fr Fz s w ∧ ∀ j, j < m → w.1 84 j = iz 0) 0 130 (by omega) (by omega) ⟨fr.rf _ _, fun j hj => by omega⟩ (fun m w _ hm ⟨h1, h2⟩ => ?_) (fun w ⟨h1, h2⟩ => ?_)
  · unfold f14_2
    simp (disch := omega) only [iz0, iz1, iz2, iz3, iz4, iz5, iz7, iz8, iz9, iz10, iz15, iz20, iz25, iz30, iz40, iz49, iz99, iz100, iz300, iz343, iz500, iz999, iz1000, iz1200, iz_add, iz_sub, iz_mul, iz_neg, it_le_t, it_le_f, it_lt_t, it_lt_f, it_eq_t, it_eq_f, bz0, bz1, ifg_T, or_true, true_or, if_true, if_false, Option.bind_some, Option.map_some, L130, R_82_4, W_84, iz_in, iz_n, nat_toNat, ok_some, ok_map, lp_l, lp_r, lpA_l, lpA_r, true_and]
    refine ⟨h1.ui (F835_z _ _ rfl), fun j hj => ?_⟩
    by_cases q : j = m
    · subst q; rw [up_eq]; decide +kernel
    · rw [up_ix _ _ q]; exact h2 j (by omega)
  · unfold f14_2
    simp (disch := omega) only [iz0, iz1, iz2, iz3, iz4, iz5, iz7, iz8, iz9, iz10, iz15, iz20, iz25, iz30, iz40, iz49, iz99, iz100, iz300, iz343, iz500, iz999, iz1000, iz1200, iz_add, iz_sub, iz_mul, iz_neg, it_le_t, it_le_f, it_lt_t, it_lt_f, it_eq_t, it_eq_f, bz0, bz1, ifg_T, or_true, true_or, if_true, if_false, Option.bind_some, Option.map_some, L130, ok_map, lp_r]
    refine forzA (A := Int32) (fun i c u => fr Fz s u ∧ ∃ d E, EQ u (pl * (n * n) + 3 * rc) d E ∧ SE (pl * (n * n) + 3 * rc) (Gn (pl * (n * n) + 3 * rc) d (eRw E)) (GL (rwC n pl Rs) (cnE n Rs) i 0) ∧ c = iz (cnt d (pl * (n * n) + 3 * rc))) 0 rc (by omega) (by omega) ⟨h1, fun _ => false, fun _ _ => 0, fun c hc => ⟨by rw [if_neg (show ¬ false = true by decide)]; exact h2 c (by omega), fun q => by cases q⟩, GL_0 (fun _ => rfl), ?_⟩ (fun i c u _ hi ⟨a1, d, E, a2, a3, a4⟩ => ?_) (fun c u ⟨a1, d, E, a2, a3, a4⟩ => ?_)
    · rw [cnt_ff (d := fun _ => false) (N := 0) (fun _ _ => rfl) (by omega)]; rfl
    · have hw := Core_scr h a1
      obtain ⟨v1, v2, v3, v4, v5, v6, v7⟩ := hV.2.2.2.2.2.2.2.2.2.2 i hi
      have w9 := hw.1.2.2.2.2.2.2.2.1
      obtain ⟨q0, q1, q2, q3, q4, q5, q6⟩ := hw.1.2.2.2.2.2.2.2.2 i hi
      unfold f14_26
      simp (disch := omega) only [R_82_1, R_82_2, R_9_0, w9, iz0, iz1, iz2, iz3, iz4, iz5, iz7, iz8, iz9, iz10, iz15, iz20, iz25, iz30, iz40, iz49, iz99, iz100, iz300, iz343, iz500, iz999, iz1000, iz1200, iz_add, iz_sub, iz_mul, iz_neg, it_le_t, it_le_f, it_lt_t, it_lt_f, it_eq_t, it_eq_f, bz0, bz1, ifg_T, or_true, true_or, if_true, if_false, Option.bind_some, Option.map_some, AR_10 (show i < 10 by omega)]
      rw [ifg_pos (R_O (isR_of (show i < 10 by omega))), q2, q3, q4]
      refine (cl_match hw.cn v4).bind (fun r ⟨b1, b2⟩ => ?_)
      have cl := cnt_le (dR n (Rs i).2.2.2.1 (Rs i).2.2.2.2.1) (n * n)
      have hin := forzA (A := Int32) (body := fun q : (Int32 × Int32 × xS) => f14_69 82 q.1 (iz i) (11 + i) q.2.1 q.2.2) (fun k c' z => fr Fz s z ∧ CM z n (Rs i).2.2.1 (Rs i).2.2.2.1 (Rs i).2.2.2.2.1 ∧ ∃ d E, EQ z (pl * (n * n) + 3 * rc) d E ∧ SE (pl * (n * n) + 3 * rc) (Gn (pl * (n * n) + 3 * rc) d (eRw E)) (GL (rwC n pl Rs) (cnE n Rs) i k) ∧ c' = iz (cnt d (pl * (n * n) + 3 * rc))) 0 (cnE n Rs i) (Q := lpA ((i : Int) + 1) (fun c' z => fr Fz s z ∧ ∃ d E, EQ z (pl * (n * n) + 3 * rc) d E ∧ SE (pl * (n * n) + 3 * rc) (Gn (pl * (n * n) + 3 * rc) d (eRw E)) (GL (rwC n pl Rs) (cnE n Rs) (i + 1) 0) ∧ c' = iz (cnt d (pl * (n * n) + 3 * rc))) (fun r => fr Fz s r.1 ∧ ∃ d e, Ec (pl * (n * n) + 3 * rc) d e ∧ SE (pl * (n * n) + 3 * rc) (Gn (pl * (n * n) + 3 * rc) d e) (GL (rwC n pl Rs) (cnE n Rs) rc 0) ∧ r.2 = iz (cnt d (pl * (n * n) + 3 * rc)))) (c0 := c) (s0 := r.1) (by omega) (by unfold cnE; omega) ⟨a1.tr (b1.mono (fun id k h => FL_z id k (FM_FL id k h))), b2, d, E, a2.fr b1 (fun _ => rfl) (fun _ => rfl), a3, a4⟩ (fun k c' z _ hk ⟨z1, z2, d', E', z3, z4, z5⟩ => ?_) (fun c' z ⟨z1, z2, d', E', z3, z4, z5⟩ => ?_)
      · exact hin
      · have hz := Core_scr h z1
        have e7 := z2.1
        have hk' : k < cnt (dR n (Rs i).2.2.2.1 (Rs i).2.2.2.2.1) (n * n) := hk
        unfold f14_69 f14_99
        simp (disch := omega) only [R_82_2, e7, iz0, iz1, iz2, iz3, iz4, iz5, iz7, iz8, iz9, iz10, iz15, iz20, iz25, iz30, iz40, iz49, iz99, iz100, iz300, iz343, iz500, iz999, iz1000, iz1200, iz_add, iz_sub, iz_mul, iz_neg, it_le_t, it_le_f, it_lt_t, it_lt_f, it_eq_t, it_eq_f, bz0, bz1, ifg_T, or_true, true_or, if_true, if_false, Option.bind_some, Option.map_some]
        refine (ce_write hz.cn hz.1.1 hpl (show i < 10 by omega) (hz.1.2.2.2.2.2.2.2.2 i hi) (hV.2.2.2.2.2.2.2.2.2.2 i hi) z2 hk (fun _ _ => trivial)).bind (fun r1 ⟨y1, y2⟩ => ?_)
        have y1' := y1.mono (fun id k h => F835_z id k (F85_5 id k h))
        have hy := Core_scr hz y1'
        refine (ce_isNew (R := rwC n pl Rs i k) (by omega) (ce_unk hy) (z3.fr y1 (fun _ => rfl) (fun _ => rfl)) (fun j hj => ⟨y2 j (by omega), eqR_lt _ _ _ _ _ _⟩)).bind (fun r2 ⟨x1, d2, E2, x2, x3, x4⟩ => ?_)
        have hse : SE (pl * (n * n) + 3 * rc) (Gn (pl * (n * n) + 3 * rc) d2 (eRw E2)) (GL (rwC n pl Rs) (cnE n Rs) i (k + 1)) := (x3.tr (G1_se z4)).tr GL_step
        have hcm : CM r2.1 n (Rs i).2.2.1 (Rs i).2.2.2.1 (Rs i).2.2.2.2.1 := (z2.fr y1 rfl (fun _ => rfl) (fun _ => rfl)).fr x1 rfl (fun _ => rfl) (fun _ => rfl)
        have hfr : fr Fz s r2.1 := (z1.tr y1').tr (x1.mono F835_z)
        subst z5
        rcases x4 with ⟨x4, x5⟩ | ⟨x4, x5⟩
        · rw [x4]
          simp (disch := omega) only [iz0, iz1, iz2, iz3, iz4, iz5, iz7, iz8, iz9, iz10, iz15, iz20, iz25, iz30, iz40, iz49, iz99, iz100, iz300, iz343, iz500, iz999, iz1000, iz1200, iz_add, iz_sub, iz_mul, iz_neg, it_le_t, it_le_f, it_lt_t, it_lt_f, it_eq_t, it_eq_f, bz0, bz1, ifg_T, or_true, true_or, if_true, if_false, Option.bind_some, Option.map_some, ok_some, ok_map, lp_l, lp_r, lpA_l, lpA_r, true_and]
          exact ⟨hfr, hcm, d2, E2, x2, hse, by rw [x5]⟩
        · rw [x4]
          simp (disch := omega) only [iz0, iz1, iz2, iz3, iz4, iz5, iz7, iz8, iz9, iz10, iz15, iz20, iz25, iz30, iz40, iz49, iz99, iz100, iz300, iz343, iz500, iz999, iz1000, iz1200, iz_add, iz_sub, iz_mul, iz_neg, it_le_t, it_le_f, it_lt_t, it_lt_f, it_eq_t, it_eq_f, bz0, bz1, ifg_T, or_true, true_or, if_true, if_false, Option.bind_some, Option.map_some, ok_some, ok_map, lp_l, lp_r, lpA_l, lpA_r, true_and]
          exact ⟨hfr, hcm, d2, E2, x2, hse, by rw [x5]; rfl⟩
      · have e7 := z2.1
        unfold f14_69
        unfold cnE
        simp (disch := omega) only [R_82_2, e7, iz0, iz1, iz2, iz3, iz4, iz5, iz7, iz8, iz9, iz10, iz15, iz20, iz25, iz30, iz40, iz49, iz99, iz100, iz300, iz343, iz500, iz999, iz1000, iz1200, iz_add, iz_sub, iz_mul, iz_neg, it_le_t, it_le_f, it_lt_t, it_lt_f, it_eq_t, it_eq_f, bz0, bz1, ifg_T, or_true, true_or, if_true, if_false, Option.bind_some, Option.map_some, ok_some, ok_map, lp_l, lp_r, lpA_l, lpA_r, true_and]
        exact ⟨z1, d', E', z3, z4.tr GL_next, z5⟩
    · have hw := Core_scr h a1
      have w9 := hw.1.2.2.2.2.2.2.2.1
      unfold f14_26
      simp (disch := omega) only [R_82_1, w9, iz0, iz1, iz2, iz3, iz4, iz5, iz7, iz8, iz9, iz10, iz15, iz20, iz25, iz30, iz40, iz49, iz99, iz100, iz300, iz343, iz500, iz999, iz1000, iz1200, iz_add, iz_sub, iz_mul, iz_neg, it_le_t, it_le_f, it_lt_t, it_lt_f, it_eq_t, it_eq_f, bz0, bz1, ifg_T, or_true, true_or, if_true, if_false, Option.bind_some, Option.map_some, ok_some, ok_map, lp_l, lp_r, lpA_l, lpA_r, true_and]
      exact ⟨a1, d, eRw E, a2.ec, a3, a4⟩
end HR
