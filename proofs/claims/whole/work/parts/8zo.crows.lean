/-! best: tryRows, findBest at the class -/
theorem cp54 {m : Nat} (hm : m ≤ 3) (s : xS) : cpI s 54 (iz 0) 55 (iz 0) (iz m) = some (xm_row s.1 55 (va_cpy (s.1 54) (s.1 55) 0 0 m), s.2) := by
  have k1 : hk_ks[54]? = some (20, 3) := by decide +kernel
  have k2 : hk_ks[55]? = some (20, 3) := by decide +kernel
  have e0 : (iz 0).toNatClampNeg = 0 := by decide +kernel
  have e1 : (iz (m : Int)).toNatClampNeg = m := iz_n (by omega) (by omega)
  have e2 : (0 : Int32) ≤ iz (m : Int) := by rw [iz0, iz_le (by omega) (by omega) (by omega) (by omega)]; omega
  unfold cpI
  rw [k1, k2]
  simp only [e0, e1]
  rw [if_pos (by refine ⟨trivial, trivial, e2, by decide +kernel, by decide +kernel, by omega, by omega⟩)]
theorem cpy_m (f g : Nat → Int32) {k m : Nat} (h : k < m) : va_cpy f g 0 0 m k = f k := by
  unfold va_cpy
  rw [if_pos ⟨by omega, by omega⟩]
  congr 1
  omega
section CT
variable {s : xS} {b n pl : Nat} {red slip : Int} {x : sS} {W S : Nat → Int} {st : Int32} {rc : Nat} {Rs : Nat → Rn}
/-- a code whose row makes all flat -/
def flC (n pl : Nat) (red slip : Int) (W S : Nat → Int) (rc : Nat) (Rs : Nat → Rn) (x : sS) (k : Int) (m c : Nat) : Prop := flA n pl (stp n red slip W S rc Rs x m c).1 k
/-- the class's best so far -/
def BCr (s : xS) (n : Nat) (red slip : Int) (W S : Nat → Int) (rc : Nat) (Rs : Nat → Rn) (x : sS) (m : Nat) (o : Option Nat) : Prop := (o = none ∧ s.1 51 8 = iz (-1)) ∨ ∃ c, o = some c ∧ s.1 51 8 = iz (irn n red slip W S rc Rs x m c) ∧ ∀ j, j < m → s.1 55 j = iz (dg rc m c j)
theorem flC_iff (hV : KV n pl red slip x W S rc Rs) (h0 : 0 < rc) {k : Int} {m c : Nat} {D : Nat → Nat} (hD : ∀ j, j < m → D j = dg rc m c j) : (∀ q, q < pl → ((∃ j, j < m ∧ (Rs (D j)).2.2.2.2.2.1 = q) → flP n (stp n red slip W S rc Rs x m c).1 q k = true) ∧ ((∀ j, j < m → (Rs (D j)).2.2.2.2.2.1 ≠ q) → flP n x.1 q k = true)) ↔ flC n pl red slip W S rc Rs x k m c := by
  have hpl := hV.2.2.1
  constructor
  · intro h q hq
    by_cases e : ∃ j, j < m ∧ (Rs (D j)).2.2.2.2.2.1 = q
    · exact (h q hq).1 e
    · have e' : ∀ j, j < m → (Rs (D j)).2.2.2.2.2.1 ≠ q := fun j hj r => e ⟨j, hj, r⟩
      rw [flP_stp hV h0 (by omega) k m c (fun i hi => by rw [← hD i hi]; exact e' i hi)]
      exact (h q hq).2 e'
  · intro h q hq
    refine ⟨fun _ => h q hq, fun e => ?_⟩
    rw [← flP_stp hV h0 (show q < 4 by omega) k m c (fun i hi => by rw [← hD i hi]; exact e i hi)]
    exact h q hq
theorem BCr.fr {F : Nat → Nat → Bool} {s' : xS} {m : Nat} {o : Option Nat} (h : BCr s n red slip W S rc Rs x m o) (hf : fr F s s') (h1 : F 51 8 = false) (h2 : ∀ k, F 55 k = false) : BCr s' n red slip W S rc Rs x m o := by
  rcases h with ⟨a1, a2⟩ | ⟨c, a1, a2, a3⟩
  · exact Or.inl ⟨a1, by rw [hf.i _ _ h1]; exact a2⟩
  · exact Or.inr ⟨c, a1, by rw [hf.i _ _ h1]; exact a2, fun j hj => by rw [hf.i _ _ (h2 j)]; exact a3 j hj⟩
theorem pw_pos {t : Nat} (h0 : 0 < rc) : 0 < rc ^ t := Nat.pow_pos h0
/-- what tryRows needs -/
def TRw (s w : xS) (n pl : Nat) (red slip : Int) (W S : Nat → Int) (rc : Nat) (Rs : Nat → Rn) (x : sS) (k : Int) (m dep p : Nat) : Prop := fr FQb s w ∧ w.1 51 10 = iz m ∧ w.1 51 11 = iz k ∧ Fn w n pl x.1 k ∧ (∃ st', BxC w (56 + 4 * dep) (stp n red slip W S rc Rs x dep p) W S st') ∧ ∀ j, j < dep → w.1 54 j = iz (dg rc dep p j)
theorem TRw.fr {w w' : xS} {k : Int} {m dep p : Nat} (h : TRw s w n pl red slip W S rc Rs x k m dep p) (hf : fr (FTb dep) w w') : TRw s w' n pl red slip W S rc Rs x k m dep p := by
  obtain ⟨a1, a2, a3, a4, ⟨st', a5⟩, a6⟩ := h
  refine ⟨a1.tr (hf.mono FTb_Q), by rw [hf.i _ _ (by unfold FTb; rw [ble_f (show 51 < 60 + 4 * dep by omega)]; rfl)]; exact a2, by rw [hf.i _ _ (by unfold FTb; rw [ble_f (show 51 < 60 + 4 * dep by omega)]; rfl)]; exact a3, fun q hq => ?_, ⟨st', a5.fr hf (fun a k h1 h2 => FTb_no (by omega) (by omega))⟩, fun j hj => ?_⟩
  · rw [hf.i _ _ (by unfold FTb; rw [ble_f (show 53 < 60 + 4 * dep by omega)]; rfl)]
    exact a4 q hq
  · rw [hf.i _ _ (by unfold FTb; rw [ble_f (show 54 < 60 + 4 * dep by omega), ble_f hj]; rfl)]
    exact a6 j hj
theorem ct_rows_step (h : Core s b n pl red slip x W S st rc Rs) (h0 : 0 < rc) {k : Int} (k0 : 0 ≤ k) (k9 : k ≤ 999) {m : Nat} (m3 : m ≤ 3) (t dep p : Nat) (w : xS) (o : Option Nat) (d : Nat) (hdm : dep + (t + 1) = m) (hT : TRw s w n pl red slip W S rc Rs x k m dep p) (hI : IsB (flC n pl red slip W S rc Rs x k m) (irn n red slip W S rc Rs x m) (p * rc ^ (t + 1)) o) (hB : BCr w n red slip W S rc Rs x m o)
    (hrec : t ≠ 0 → ∀ (i : Nat) (w' : xS) (o' : Option Nat), i < rc → TRw s w' n pl red slip W S rc Rs x k m (dep + 1) (p * rc + i) → IsB (flC n pl red slip W S rc Rs x k m) (irn n red slip W S rc Rs x m) ((p * rc + i) * rc ^ t) o' → BCr w' n red slip W S rc Rs x m o' → ok (f102r d 51 (iz ((dep + 1 : Nat) : Int)) w') (fun r => fr (FTb (dep + 1)) w' r.1 ∧ ∃ o', IsB (flC n pl red slip W S rc Rs x k m) (irn n red slip W S rc Rs x m) ((p * rc + i + 1) * rc ^ t) o' ∧ BCr r.1 n red slip W S rc Rs x m o')) :
    ok (f102r (d + 1) 51 (iz dep) w) (fun r => fr (FTb dep) w r.1 ∧ ∃ o', IsB (flC n pl red slip W S rc Rs x k m) (irn n red slip W S rc Rs x m) ((p + 1) * rc ^ (t + 1)) o' ∧ BCr r.1 n red slip W S rc Rs x m o') := by
  have hpl := h.p4
  have hrc := h.rc10
  have hV := h.2.2
  have h10 := hT.2.1
  rw [f102r]
  unfold f102_b
  rw [ifg_pos O_51]
  simp (disch := omega) only [h10, R_51_4, iz0, iz1, iz2, iz3, iz4, iz5, iz7, iz8, iz9, iz10, iz15, iz20, iz25, iz30, iz40, iz49, iz99, iz100, iz300, iz343, iz500, iz999, iz1000, iz1200, iz_add, iz_sub, iz_mul, iz_neg, it_le_t, it_le_f, it_lt_t, it_lt_f, it_eq_t, it_eq_f, bz0, bz1, ifg_T, or_true, true_or, if_true, if_false, Option.bind_some, Option.map_some]
  rw [show ((dep : Int) + 1) = ((dep + 1 : Nat) : Int) from rfl, AR_52 (show dep + 1 < 4 by omega)]
  simp only [Option.bind_some]
  rw [ifg_pos (B_O (isB_t (show dep + 1 ≤ 3 by omega)))]
  refine forz (fun i z => fr (FTb dep) w z ∧ ∃ o', IsB (flC n pl red slip W S rc Rs x k m) (irn n red slip W S rc Rs x m) ((p * rc + i) * rc ^ t) o' ∧ BCr z n red slip W S rc Rs x m o') 0 rc (by omega) (by omega) ⟨fr.rf _ _, o, ?_, hB⟩ (fun i z _ hi ⟨z1, o', z2, z3⟩ => ?_) (fun z ⟨z1, o', z2, z3⟩ => ?_)
  · rw [Nat.add_zero, Nat.mul_assoc, ← Nat.pow_succ']
    exact hI
  · have hTz := hT.fr z1
    have hz := Core_Q h hTz.1
    have c9 := hz.1.2.2.2.2.2.2.2.1
    obtain ⟨st', hx'⟩ := hTz.2.2.2.2.1
    have hVd := KV_stp hV h0 dep p
    unfold f102_25
    simp (disch := omega) only [R_51_1, R_51_4, R_51_3, R_9_0, c9, iz0, iz1, iz2, iz3, iz4, iz5, iz7, iz8, iz9, iz10, iz15, iz20, iz25, iz30, iz40, iz49, iz99, iz100, iz300, iz343, iz500, iz999, iz1000, iz1200, iz_add, iz_sub, iz_mul, iz_neg, it_le_t, it_le_f, it_lt_t, it_lt_f, it_eq_t, it_eq_f, bz0, bz1, ifg_T, or_true, true_or, if_true, if_false, Option.bind_some, Option.map_some, AR_52 (show dep < 4 by omega), AR_10 (show i < 10 by omega)]
    rw [ifg_pos (B_O (isB_t (show dep ≤ 3 by omega)))]
    refine (cl_become (isB_t (show dep + 1 ≤ 3 by omega)) (isB_t (show dep ≤ 3 by omega)) (by omega) hx').bind (fun t1 ⟨a1, a2⟩ => ?_)
    rw [show 56 + 4 * (dep + 1) = 60 + 4 * dep by omega] at a1 a2 ⊢
    have f1 := z1.tr (a1.mono (FBm_T (by omega)))
    have hT1 := hT.fr f1
    have h1 := Core_Q h hT1.1
    rw [ifg_pos (R_O (isR_of (show i < 10 by omega)))]
    refine (cl_scrape h1.cn (by rw [show 60 + 4 * dep = 56 + 4 * (dep + 1) by omega]; exact isB_t (by omega)) a2.1 a2.2.1 (Hb.bd hVd.2.2.2.2.2.2.2.1 hV.2.2.2.2.2.2.2.2.1) (hV.2.2.2.2.2.2.2.2.2.2 i hi) hpl (isR_of (show i < 10 by omega)) (h1.1.2.2.2.2.2.2.2.2 i hi) h1.1.2.2.1 hV.2.2.2.1 hV.2.2.2.2.1 h1.1.2.2.2.1 hV.2.2.2.2.2.1 hV.2.2.2.2.2.2.1).bind (fun t3 ⟨d1, d2, d3, d4, d5⟩ => ?_)
    have f3 := f1.tr (d1.mono (FC_T (by omega)))
    rw [← stp_up (j := dep) (p := p) hi] at d2 d3
    have hVn := KV_stp hV h0 (dep + 1) (p * rc + i)
    have hTu : TRw s (xm_up t3.1.1 54 dep (iz i), t3.1.2) n pl red slip W S rc Rs x k m (dep + 1) (p * rc + i) := by
      have f4 : fr (FTb dep) w (xm_up t3.1.1 54 dep (iz i), t3.1.2) := f3.ui (by unfold FTb; rw [bleT (Nat.le_refl dep)]; simp only [beq_self_eq_true, Bool.and_true, Bool.or_true, Bool.true_or])
      obtain ⟨q1, q2, q3, q4, -, q6⟩ := hT.fr f4
      refine ⟨q1, q2, q3, q4, ⟨t3.1.1 (60 + 4 * dep) 3, ?_⟩, fun j hj => ?_⟩
      · rw [show 56 + 4 * (dep + 1) = 60 + 4 * dep by omega]
        have q0 : BxC t3.1 (60 + 4 * dep) (stp n red slip W S rc Rs x (dep + 1) (p * rc + i)) W S (t3.1.1 (60 + 4 * dep) 3) := ⟨d2, d3, rfl⟩
        exact q0.fr ((fr.rf (F1 54) _).ui rfl) (fun a k h1 h2 => by unfold F1; rw [beq_eq_false_iff_ne]; omega)
      · by_cases e : j = dep
        · subst e
          rw [dg_last hi]
          exact (show xm_up t3.1.1 54 j (iz i) 54 j = iz i from up_eq _ _ _ _)
        · rw [dg_up hi (by omega)]
          exact q6 j (by omega)
    have f4 : fr (FTb dep) w (xm_up t3.1.1 54 dep (iz i), t3.1.2) := f3.ui (by unfold FTb; rw [bleT (Nat.le_refl dep)]; simp only [beq_self_eq_true, Bool.and_true, Bool.or_true, Bool.true_or])
    have f5 : fr (FTb dep) z (xm_up t3.1.1 54 dep (iz i), t3.1.2) := ((a1.mono (FBm_T (by omega))).tr (d1.mono (FC_T (by omega)))).ui (by unfold FTb; rw [bleT (Nat.le_refl dep)]; simp only [beq_self_eq_true, Bool.and_true, Bool.or_true, Bool.true_or])
    have z3' : BCr (xm_up t3.1.1 54 dep (iz i), t3.1.2) n red slip W S rc Rs x m o' := by
      have y1 : BCr t1.1 n red slip W S rc Rs x m o' := z3.fr a1 (by unfold FBm; simp only [Bool.or_eq_false_iff, beq_eq_false_iff_ne]; omega) (fun k => by unfold FBm; simp only [Bool.or_eq_false_iff, beq_eq_false_iff_ne]; omega)
      have y2 : BCr t3.1 n red slip W S rc Rs x m o' := y1.fr d1 (by unfold FC FB; simp only [Bool.or_eq_false_iff, beq_eq_false_iff_ne, Bool.and_eq_false_iff]; refine ⟨rfl, by omega, Or.inl (Or.inl (by omega))⟩) (fun k => by unfold FC FB; simp only [Bool.or_eq_false_iff, beq_eq_false_iff_ne, Bool.and_eq_false_iff]; refine ⟨rfl, by omega, Or.inl (Or.inl (by omega))⟩)
      exact y2.fr ((fr.rf (F1 54) _).ui rfl) rfl (fun _ => rfl)
    have hu := Core_Q h hTu.1
    have i4 : t3.1.1 (60 + 4 * dep) 4 = x.2.1 + iz (irn n red slip W S rc Rs x (dep + 1) (p * rc + i)) := by rw [d3.2.1]; exact (irn_at hV h0 (by omega) _).1
    have i33 : t3.1.1 33 4 = x.2.1 := by
      have := hu.1.2.2.2.2.2.1.2.1
      have e : xm_up t3.1.1 54 dep (iz i) 33 4 = t3.1.1 33 4 := up_id t3.1.1 (iz i) (show (33 : Nat) ≠ 54 by decide)
      exact e.symm.trans this
    have i8 : (xm_up t3.1.1 54 dep (iz i) 51 8) = t3.1.1 51 8 := up_id t3.1.1 (iz i) (show (51 : Nat) ≠ 54 by decide)
    have ib := (irn_at hV h0 (show dep + 1 ≤ 3 by omega) (p * rc + i)).2
    have ed : t3.1.1 (60 + 4 * dep) 4 - t3.1.1 33 4 = iz (irn n red slip W S rc Rs x (dep + 1) (p * rc + i)) := by rw [i4, i33, iz_sub_self]
    simp (disch := omega) only [R_51_6, R_51_2, W_54, iz_in, iz_n, nat_toNat, iz0, iz1, iz2, iz3, iz4, iz5, iz7, iz8, iz9, iz10, iz15, iz20, iz25, iz30, iz40, iz49, iz99, iz100, iz300, iz343, iz500, iz999, iz1000, iz1200, iz_add, iz_sub, iz_mul, iz_neg, it_le_t, it_le_f, it_lt_t, it_lt_f, it_eq_t, it_eq_f, bz0, bz1, ifg_T, or_true, true_or, if_true, if_false, Option.bind_some, Option.map_some, up_id, ed]
    -- behind the look at the iron
    have go : (∀ c, o' = some c → irn n red slip W S rc Rs x (dep + 1) (p * rc + i) < irn n red slip W S rc Rs x m c) → ok (f102_105 (f102r d) 51 (iz dep) (60 + 4 * dep) (iz i) (iz (irn n red slip W S rc Rs x (dep + 1) (p * rc + i))) (xm_up t3.1.1 54 dep (iz i), t3.1.2)) (lp ((i : Int) + 1) (fun z => fr (FTb dep) w z ∧ ∃ o', IsB (flC n pl red slip W S rc Rs x k m) (irn n red slip W S rc Rs x m) ((p * rc + (i + 1)) * rc ^ t) o' ∧ BCr z n red slip W S rc Rs x m o') (fun r : xS × Unit => fr (FTb dep) w r.1 ∧ ∃ o', IsB (flC n pl red slip W S rc Rs x k m) (irn n red slip W S rc Rs x m) ((p + 1) * rc ^ (t + 1)) o' ∧ BCr r.1 n red slip W S rc Rs x m o')) := by
      intro hlt
      have u10 := hTu.2.1
      have u10' : xm_up t3.1.1 54 dep (iz i) 51 10 = iz m := hTu.2.1
      unfold f102_105 f102_156
      by_cases qt : t = 0
      · subst qt
        have em : m = dep + 1 := by omega
        subst em
        rw [Nat.pow_zero, Nat.mul_one] at z2
        simp (disch := omega) only [u10', iz0, iz1, iz2, iz3, iz4, iz5, iz7, iz8, iz9, iz10, iz15, iz20, iz25, iz30, iz40, iz49, iz99, iz100, iz300, iz343, iz500, iz999, iz1000, iz1200, iz_add, iz_sub, iz_mul, iz_neg, it_le_t, it_le_f, it_lt_t, it_lt_f, it_eq_t, it_eq_f, bz0, bz1, ifg_T, or_true, true_or, if_true, if_false, Option.bind_some, Option.map_some]
        refine (ct_flat (id := 60 + 4 * dep) hu k0 k9 m3 (by rw [show 60 + 4 * dep = 56 + 4 * (dep + 1) by omega]; exact isB_t (by omega)) (by omega) u10 hTu.2.2.1 (D := dg rc (dep + 1) (p * rc + i)) (fun j hj => ⟨hTu.2.2.2.2.2 j hj, dg_lt h0⟩) hTu.2.2.2.1 (y := stp n red slip W S rc Rs x (dep + 1) (p * rc + i)) (st' := (hTu.2.2.2.2.1).choose) (by rw [show 60 + 4 * dep = 56 + 4 * (dep + 1) by omega]; exact (hTu.2.2.2.2.1).choose_spec) hVn.2.2.2.2.2.2.2.1).bind (fun r ⟨r1, r2⟩ => ?_)
        have hfr : fr (FTb dep) w r.1 := f4.tr (r1.mono FL_T)
        have hB' : BCr r.1 n red slip W S rc Rs x (dep + 1) o' := z3'.fr r1 rfl (fun _ => rfl)
        rcases r2 with ⟨r2, r3⟩ | ⟨r2, r3⟩
        · rw [flC_iff hV h0 (fun j _ => rfl)] at r3
          have r54 : ∀ j, j < dep + 1 → r.1.1 54 j = iz (dg rc (dep + 1) (p * rc + i) j) := fun j hj => by rw [r1.i _ _ rfl]; exact hTu.2.2.2.2.2 j hj
          have r10 : r.1.1 51 10 = iz ((dep + 1 : Nat) : Int) := by rw [r1.i _ _ rfl]; exact u10
          rw [r2]
          simp (disch := omega) only [iz0, iz1, iz2, iz3, iz4, iz5, iz7, iz8, iz9, iz10, iz15, iz20, iz25, iz30, iz40, iz49, iz99, iz100, iz300, iz343, iz500, iz999, iz1000, iz1200, iz_add, iz_sub, iz_mul, iz_neg, it_le_t, it_le_f, it_lt_t, it_lt_f, it_eq_t, it_eq_f, bz0, bz1, ifg_T, or_true, true_or, if_true, if_false, Option.bind_some, Option.map_some, pI, R_51_6, R_51_7, up_ix, r10, cp54 m3, ok_some, ok_map, lp_l, lp_r, lpA_l, lpA_r, true_and]
          refine ⟨(hfr.ui (by unfold FTb; simp only [beq_self_eq_true, Bool.and_true, Bool.or_true, Bool.true_or])).row (fun k => by unfold FTb; simp only [beq_self_eq_true, Bool.or_true]), some (p * rc + i), ?_, Or.inr ⟨p * rc + i, rfl, ?_, fun j hj => ?_⟩⟩
          · rw [Nat.pow_zero, Nat.mul_one, ← Nat.add_assoc]
            exact IsB_yes z2 r3 hlt
          · dsimp only
            rw [row_ne _ _ (by omega), up_eq]
          · dsimp only
            rw [row_at, cpy_m _ _ hj]
            rw [up_id _ _ (by omega)]
            exact r54 j hj
        · rw [flC_iff hV h0 (fun j _ => rfl)] at r3
          rw [r2]
          simp (disch := omega) only [iz0, iz1, iz2, iz3, iz4, iz5, iz7, iz8, iz9, iz10, iz15, iz20, iz25, iz30, iz40, iz49, iz99, iz100, iz300, iz343, iz500, iz999, iz1000, iz1200, iz_add, iz_sub, iz_mul, iz_neg, it_le_t, it_le_f, it_lt_t, it_lt_f, it_eq_t, it_eq_f, bz0, bz1, ifg_T, or_true, true_or, if_true, if_false, Option.bind_some, Option.map_some, ok_some, ok_map, lp_l, lp_r, lpA_l, lpA_r, true_and]
          refine ⟨hfr, o', ?_, hB'⟩
          rw [Nat.pow_zero, Nat.mul_one, ← Nat.add_assoc]
          exact IsB_no z2 r3
      · simp (disch := omega) only [u10', iz0, iz1, iz2, iz3, iz4, iz5, iz7, iz8, iz9, iz10, iz15, iz20, iz25, iz30, iz40, iz49, iz99, iz100, iz300, iz343, iz500, iz999, iz1000, iz1200, iz_add, iz_sub, iz_mul, iz_neg, it_le_t, it_le_f, it_lt_t, it_lt_f, it_eq_t, it_eq_f, bz0, bz1, ifg_T, or_true, true_or, if_true, if_false, Option.bind_some, Option.map_some]
        rw [show ((dep : Int) + 1) = ((dep + 1 : Nat) : Int) from rfl]
        refine (hrec qt i _ o' hi hTu z2 z3').bind (fun r ⟨r1, o2, r2, r3⟩ => ?_)
        simp only [ok_some, ok_map, lp_l, lp_r, lpA_l, lpA_r, true_and]
        exact ⟨f4.tr (r1.mono FTb_up), o2, by rw [← Nat.add_assoc]; exact r2, r3⟩
    rcases z3' with ⟨rfl, y2⟩ | ⟨c, rfl, y2, y3⟩
    · have y2' : t3.1.1 51 8 = iz (-1) := by rw [← i8]; exact y2
      simp (disch := omega) only [y2', izm1, it_eq_t]
      exact go (fun c hc => by cases hc)
    · have y2' : t3.1.1 51 8 = iz (irn n red slip W S rc Rs x m c) := by rw [← i8]; exact y2
      have cb := (irn_at hV h0 m3 c).2
      simp (disch := omega) only [y2', izm1, it_eq_f]
      by_cases q : irn n red slip W S rc Rs x (dep + 1) (p * rc + i) < irn n red slip W S rc Rs x m c
      · rw [it_lt_t (by omega) (by omega) (by omega)]
        exact go (fun c' hc' => by cases hc'; exact q)
      · rw [it_lt_f (by omega) (by omega) (by omega)]
        unfold f102_156
        simp (disch := omega) only [iz0, iz1, iz2, iz3, iz4, iz5, iz7, iz8, iz9, iz10, iz15, iz20, iz25, iz30, iz40, iz49, iz99, iz100, iz300, iz343, iz500, iz999, iz1000, iz1200, iz_add, iz_sub, iz_mul, iz_neg, it_le_t, it_le_f, it_lt_t, it_lt_f, it_eq_t, it_eq_f, bz0, bz1, ifg_T, or_true, true_or, if_true, if_false, Option.bind_some, Option.map_some, ok_some, ok_map, lp_l, lp_r, lpA_l, lpA_r, true_and]
        refine ⟨f4, some c, IsB_more z2 (Nat.mul_le_mul_right _ (by omega)) (fun c' c1 c2 => ?_), Or.inr ⟨c, rfl, y2, y3⟩⟩
        have hpw := pw_pos (rc := rc) (t := t) h0
        have hdiv : c' / rc ^ t = p * rc + i := by
          have e1 : p * rc + i ≤ c' / rc ^ t := (Nat.le_div_iff_mul_le hpw).mpr c1
          have e2 : c' / rc ^ t < p * rc + i + 1 := (Nat.div_lt_iff_lt_mul hpw).mpr c2
          omega
        have := irn_block hV h0 (j := dep + 1) (p * rc + i) t (by omega) c' hdiv
        rw [show dep + 1 + t = m by omega] at this
        omega
  · have hTz := hT.fr z1
    have hz := Core_Q h hTz.1
    have c9 := hz.1.2.2.2.2.2.2.2.1
    unfold f102_25
    simp (disch := omega) only [R_51_1, c9, iz0, iz1, iz2, iz3, iz4, iz5, iz7, iz8, iz9, iz10, iz15, iz20, iz25, iz30, iz40, iz49, iz99, iz100, iz300, iz343, iz500, iz999, iz1000, iz1200, iz_add, iz_sub, iz_mul, iz_neg, it_le_t, it_le_f, it_lt_t, it_lt_f, it_eq_t, it_eq_f, bz0, bz1, ifg_T, or_true, true_or, if_true, if_false, Option.bind_some, Option.map_some, ok_some, ok_map, lp_l, lp_r, lpA_l, lpA_r, true_and]
    refine ⟨z1, o', ?_, z3⟩
    rw [Nat.pow_succ', ← Nat.mul_assoc, Nat.add_mul, Nat.one_mul]
    exact z2
theorem ct_rows (h : Core s b n pl red slip x W S st rc Rs) (h0 : 0 < rc) {k : Int} (k0 : 0 ≤ k) (k9 : k ≤ 999) {m : Nat} (m3 : m ≤ 3) : ∀ (t dep p : Nat) (w : xS) (o : Option Nat) (d : Nat), dep + (t + 1) = m → t < d → TRw s w n pl red slip W S rc Rs x k m dep p → IsB (flC n pl red slip W S rc Rs x k m) (irn n red slip W S rc Rs x m) (p * rc ^ (t + 1)) o → BCr w n red slip W S rc Rs x m o →
    ok (f102r (d + 1) 51 (iz dep) w) (fun r => fr (FTb dep) w r.1 ∧ ∃ o', IsB (flC n pl red slip W S rc Rs x k m) (irn n red slip W S rc Rs x m) ((p + 1) * rc ^ (t + 1)) o' ∧ BCr r.1 n red slip W S rc Rs x m o') := by
  have hpl := h.p4
  have hrc := h.rc10
  have hV := h.2.2
  intro t
  induction t with
  | zero =>
    intro dep p w o d hdm htd hT hI hB
    exact ct_rows_step h h0 k0 k9 m3 0 dep p w o d hdm hT hI hB (fun hne => absurd rfl hne)
  | succ t ih =>
    intro dep p w o d hdm htd hT hI hB
    refine ct_rows_step h h0 k0 k9 m3 (t + 1) dep p w o d hdm hT hI hB (fun _ i w' o' hi hT' hI' hB' => ?_)
    obtain ⟨d', rfl⟩ : ∃ d', d = d' + 1 := ⟨d - 1, by omega⟩
    exact ih (dep + 1) (p * rc + i) w' o' d' (by omega) (by omega) hT' hI' hB'
end CT
