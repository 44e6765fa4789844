/-! hidden: the equations at the model -/
def F128 (id k : Nat) : Bool := id == 128 || (id == 101 && k == 51)
theorem F128_z (id k : Nat) (h : F128 id k = true) : Fz id k = true := by
  refine Fx_z id k ?_
  unfold F128 at h
  simp only [Bool.or_eq_true, Bool.and_eq_true, beq_iff_eq] at h
  rcases h with rfl | ⟨rfl, rfl⟩
  · unfold Fx; simp only [beq_self_eq_true, Bool.or_true, Bool.true_or]
  · rfl
theorem FO_z (id k : Nat) (h : FO id k = true) : Fz id k = true := FD0_z id k (FO_D id k h)
/-- the model's rows -/
def MWq (s : xS) (m : Nat) (M : Nat → Nat → Nat) : Prop := s.1 101 51 = iz m ∧ m ≤ 250 ∧ ∀ r, r < 250 → ∀ c, c < 130 → s.2 128 (130 * r + c) = lz (M r c : Nat) ∧ M r c < 1000003 ∧ (m ≤ r → M r c = 0)
def GmM (m : Nat) (M : Nat → Nat → Nat) (v : Nat → Int) : Prop := ∃ r, r < m ∧ v = cZ (M r)
def stR (m : Nat) (v : Nat → Nat) (M : Nat → Nat → Nat) (r : Nat) : Nat → Nat := if r = m then v else M r
theorem stR_p {m : Nat} {v : Nat → Nat} {M : Nat → Nat → Nat} : stR m v M m = v := if_pos rfl
theorem stR_n {m r : Nat} {v : Nat → Nat} {M : Nat → Nat → Nat} (h : r ≠ m) : stR m v M r = M r := if_neg h
theorem GmM_add {K m : Nat} {M : Nat → Nat → Nat} {v : Nat → Nat} : SE K (G1 (GmM m M) (cZ v)) (GmM (m + 1) (stR m v M)) := by
  refine SE.of (fun u hu => ?_) (fun u hu => ?_)
  · rcases hu with ⟨r, hr, rfl⟩ | rfl
    · exact Sp.g _ ⟨r, by omega, by rw [stR_n (by omega)]⟩
    · exact Sp.g _ ⟨m, by omega, by rw [stR_p]⟩
  · obtain ⟨r, hr, rfl⟩ := hu
    by_cases q : r = m
    · rw [q, stR_p]; exact Sp.g _ (Or.inr rfl)
    · rw [stR_n q]; exact Sp.g _ (Or.inl ⟨r, by omega, rfl⟩)
theorem MWq.fr {F : Nat → Nat → Bool} {s s' : xS} {m : Nat} {M : Nat → Nat → Nat} (h : MWq s m M) (hf : fr F s s') (h1 : ∀ k, F 128 k = false) (h2 : F 101 51 = false) : MWq s' m M := ⟨by rw [hf.i _ _ h2]; exact h.1, h.2.1, fun r hr c hc => by rw [hf.l _ _ (h1 _)]; exact h.2.2 r hr c hc⟩
section HM
variable {s : xS} {b n pl : Nat} {red slip : Int} {x : sS} {W S : Nat → Int} {st : Int32} {rc : Nat} {Rs : Nat → Rn}
theorem mo_layP (h : Core s b n pl red slip x W S st rc Rs) {p q t : Nat} {u v : Int} (hp : p < pl) (hq : q < pl) (hL : Ly n t u v) : ok (f206 101 (iz p) (iz q) (iz t) (iz u) (iz v) s) (fun r => fr FO s r.1 ∧ MO r.1 n t u v) := by
  have hpl := h.p4
  have sq := h.cn.sq
  have key : ∀ p : Nat, p < pl → ∀ w, fr FO s w → ∀ c, c < n * n → f202 101 (iz p) (iz c) w = some (w, iz (sm x.1 W S p c)) := fun p hp w hw c hc => mo_seem (h.mn.fr hw rfl (fun _ => rfl)) (h.2.1.2.2.2.2.1.fr hw (fun _ => rfl) (fun _ => rfl) (fun _ => rfl) (fun _ => rfl) (fun _ => rfl)) hp hpl hc
  have kb : ∀ p : Nat, p < 4 → ∀ c, c < n * n → -2500 ≤ sm x.1 W S p c ∧ sm x.1 W S p c ≤ 2500 := fun p hp c hc => by have := Bd_sm h.bd hp (show c < 25 by omega); omega
  exact (mo_layOn h.mn hL (key p (by omega)) (key q (by omega)) (kb p (by omega)) (kb q (by omega))).mono (fun r ⟨a1, a2, _⟩ => ⟨a1, a2⟩)
theorem me_row {w : xS} {m i c : Nat} {M : Nat → Nat → Nat} (h : Core w b n pl red slip x W S st rc Rs) (hi : i < rc) (hq : MWq w m M) (hm : m < 250) (hO : MO w n (Rs i).2.2.1 (Rs i).2.2.2.1 (Rs i).2.2.2.2.1) (hc : c < n * n) (hd : dR n (Rs i).2.2.2.1 (Rs i).2.2.2.2.1 c = true) :
    ok (f240_76 101 (iz 100) (iz i) (iz c) w) (fun r => ∃ w', r = .inl (iz ((c : Int) + 1), w') ∧ fr F128 w w' ∧ MWq w' (m + 1) (stR m (rwM n Rs i (cnt (dR n (Rs i).2.2.2.1 (Rs i).2.2.2.2.1) c)) M)) := by
  have hpl := h.p4
  have hrc := h.rc10
  have sq := h.cn.sq
  have n3 := h.cn.2.1
  have n5 := h.cn.2.2
  obtain ⟨v1, v2, v3, v4, v5, v6, v7⟩ := h.2.2.2.2.2.2.2.2.2.2.2.2 i hi
  obtain ⟨q0, q1, q2, q3, q4, q5, q6⟩ := h.2.1.2.2.2.2.2.2.2.2.1 i hi
  have ho := (v4.all hc).2.1
  have o1 := hO.1 c hc
  rw [if_pos hd] at o1
  obtain ⟨g1, g2, g3⟩ := hq
  have een := en_at hc hd
  unfold rwM
  rw [een]
  generalize ov n (Rs i).2.2.1 (Rs i).2.2.2.1 (Rs i).2.2.2.2.1 c = o at *
  generalize (Rs i).1 = up at *
  generalize (Rs i).2.1 = lo at *
  have zc := h.mn.zc
  have zn : ∀ l, f196 101 (w.1, l) = some ((w.1, l), iz n) := fun l => Mn.zn (s := (w.1, l)) h.mn
  have ex : irm (iz (c : Int)) (iz (n : Int)) = iz ((c % n : Nat) : Int) := iz_remN (by omega) (by omega) (by omega)
  have ey : iz (c : Int) / iz (n : Int) = iz ((c / n : Nat) : Int) := iz_divN (by omega) (by omega) (by omega)
  have lx : c % n ≤ 25 := by have := Nat.mod_lt c (show 0 < n by omega); omega
  have ly : c / n ≤ 25 := by have := Nat.div_le_self c n; omega
  have L130 : (130 : Int32) = iz 130 := rfl
  have L2 : (1000002 : Int64) = lz ((1000002 : Nat) : Int) := rfl
  unfold f240_76 f240_237
  simp (disch := omega) only [zc, Option.bind_some, it_le_f, R_101_39, A_125, iz_in, iz_n, nat_toNat, if_true, o1, iz0, it_le_t, R_101_50, R_101_31, R_101_30, A_118, A_119, q0, q1, g1, iz25, L130, iz3, iz1, iz2, iz_mul, iz_add, W_128, zn, nz', ex, ey, w_mod, iz_l, pI, ok_some, L2, lz1]
  refine ⟨_, rfl, ?_, ?_, by omega, fun r hr j hj => ?_⟩
  · exact (((((fr.rf _ _).ul rfl).ul rfl).ul rfl).ul rfl).ul rfl |>.ui rfl
  · show xm_up w.1 101 51 _ 101 51 = _
    rw [up_eq]; rfl
  · dsimp only
    by_cases qr : r = m
    · subst qr
      rw [stR_p]
      refine ⟨?_, eqR_lt _ _ _ _ _ _, fun q => by omega⟩
      unfold eqR
      by_cases j1 : j = 100 + 3 * i + 2
      · rw [if_pos j1, up_at _ _ (by omega)]
      · rw [if_neg j1, up_ix _ _ (by omega)]
        by_cases j2 : j = 100 + 3 * i + 1
        · rw [if_pos j2, up_at _ _ (by omega)]
        · rw [if_neg j2, up_ix _ _ (by omega)]
          by_cases j3 : j = 100 + 3 * i
          · rw [if_pos j3, up_at _ _ (by omega)]
          · rw [if_neg j3, up_ix _ _ (by omega)]
            by_cases j4 : j = 25 * up + o
            · rw [if_pos j4, up_at _ _ (by omega)]; rfl
            · rw [if_neg j4, up_ix _ _ (by omega)]
              by_cases j5 : j = 25 * lo + c
              · rw [if_pos j5, up_at _ _ (by omega)]; rfl
              · rw [if_neg j5, up_ix _ _ (by omega)]
                rw [(g3 r hr j hj).1, (g3 r hr j hj).2.2 (Nat.le_refl _)]
    · rw [stR_n qr, up_ix _ _ (by omega), up_ix _ _ (by omega), up_ix _ _ (by omega), up_ix _ _ (by omega), up_ix _ _ (by omega)]
      exact ⟨(g3 r hr j hj).1, (g3 r hr j hj).2.1, fun q => (g3 r hr j hj).2.2 (by omega)⟩
theorem me_lay (h : Core s b n pl red slip x W S st rc Rs) : ok (f240 101 s) (fun r => fr Fz s r.1 ∧ ∃ m M, MWq r.1 m M ∧ SE 130 (GmM m M) (GL (rwM n Rs) (cnE n Rs) rc 0)) := by
  have hpl := h.p4
  have hrc := h.rc10
  have sq := h.cn.sq
  have hV := h.2.2
  have L3 : (32500 : Int32) = iz ((32500 : Nat) : Int) := rfl
  unfold f240
  rw [ifg_pos O_101]
  simp only [pI, iz0, Option.bind_some]
  refine forz (fun m w => fr F128 s w ∧ w.1 101 51 = iz 0 ∧ ∀ j, j < m → w.2 128 j = lz 0) 0 32500 (by omega) (by omega) ⟨(fr.rf _ _).ui rfl, (show xm_up s.1 101 51 (iz 0) 101 51 = iz 0 from up_eq _ _ _ _), fun j hj => by omega⟩ (fun m w _ hm ⟨h1, h1', h2⟩ => ?_) (fun w ⟨h1, h1', h2⟩ => ?_)
  · unfold f240_7
    simp (disch := omega) only [iz0, iz1, iz2, iz3, iz4, iz5, iz7, iz8, iz9, iz10, iz15, iz20, iz25, iz30, iz40, iz49, iz99, iz100, iz300, iz343, iz500, iz999, iz1000, iz1200, iz_add, iz_sub, iz_mul, iz_neg, it_le_t, it_le_f, it_lt_t, it_lt_f, it_eq_t, it_eq_f, bz0, bz1, ifg_T, or_true, true_or, if_true, if_false, Option.bind_some, Option.map_some, L3, R_101_50, W_128, iz_in, iz_n, nat_toNat, ok_some, ok_map, lp_l, lp_r, lpA_l, lpA_r, true_and, lz0]
    refine ⟨h1.ul rfl, h1', fun j hj => ?_⟩
    by_cases q : j = m
    · subst q; rw [up_eq]
    · rw [up_ix _ _ q]; exact h2 j (by omega)
  · unfold f240_7
    simp (disch := omega) only [iz0, iz1, iz2, iz3, iz4, iz5, iz7, iz8, iz9, iz10, iz15, iz20, iz25, iz30, iz40, iz49, iz99, iz100, iz300, iz343, iz500, iz999, iz1000, iz1200, iz_add, iz_sub, iz_mul, iz_neg, it_le_t, it_le_f, it_lt_t, it_lt_f, it_eq_t, it_eq_f, bz0, bz1, ifg_T, or_true, true_or, if_true, if_false, Option.bind_some, Option.map_some, L3, ok_map, lp_r]
    refine forz (fun i u => fr Fz s u ∧ ∃ m M, MWq u m M ∧ m ≤ 25 * i ∧ SE 130 (GmM m M) (GL (rwM n Rs) (cnE n Rs) i 0)) 0 rc (by omega) (by omega) ⟨h1.mono F128_z, 0, fun _ _ => 0, ⟨h1', by omega, fun r hr c hc => ⟨h2 _ (by omega), (show 0 < 1000003 by omega), fun _ => rfl⟩⟩, by omega, ?_⟩ (fun i u _ hi ⟨a1, m, M, a2, a3, a4⟩ => ?_) (fun u ⟨a1, m, M, a2, a3, a4⟩ => ?_)
    · refine SE.of (fun v hv => ?_) (fun v hv => ?_)
      · obtain ⟨r, hr, -⟩ := hv; omega
      · obtain ⟨i', k', h1, -⟩ := hv; omega
    · have hw := Core_scr h a1
      obtain ⟨v1, v2, v3, v4, v5, v6, v7⟩ := hV.2.2.2.2.2.2.2.2.2.2 i hi
      obtain ⟨q0, q1, q2, q3, q4, q5, q6⟩ := hw.2.1.2.2.2.2.2.2.2.2.1 i hi
      have w9 := hw.2.1.2.2.2.2.2.2.2.1
      unfold f240_32
      simp (disch := omega) only [R_101_30, R_101_31, R_101_32, R_101_33, R_101_34, A_118, A_119, A_120, A_121, A_122, w9, iz0, iz1, iz2, iz3, iz4, iz5, iz7, iz8, iz9, iz10, iz15, iz20, iz25, iz30, iz40, iz49, iz99, iz100, iz300, iz343, iz500, iz999, iz1000, iz1200, iz_add, iz_sub, iz_mul, iz_neg, it_le_t, it_le_f, it_lt_t, it_lt_f, it_eq_t, it_eq_f, bz0, bz1, ifg_T, or_true, true_or, if_true, if_false, Option.bind_some, Option.map_some, iz_in, iz_n, nat_toNat, q0, q1, q2, q3, q4]
      refine (mo_layP hw v2 v1 v4).bind (fun r ⟨b1, b2⟩ => ?_)
      have hin := forz (body := fun q : (Int32 × xS) => f240_76 101 (iz 100) (iz i) q.1 q.2) (fun c z => fr Fz s z ∧ MO z n (Rs i).2.2.1 (Rs i).2.2.2.1 (Rs i).2.2.2.2.1 ∧ ∃ m M, MWq z m M ∧ m ≤ 25 * i + c ∧ SE 130 (GmM m M) (GL (rwM n Rs) (cnE n Rs) i (cnt (dR n (Rs i).2.2.2.1 (Rs i).2.2.2.2.1) c))) 0 (n * n) (Q := lp ((i : Int) + 1) (fun z => fr Fz s z ∧ ∃ m M, MWq z m M ∧ m ≤ 25 * (i + 1) ∧ SE 130 (GmM m M) (GL (rwM n Rs) (cnE n Rs) (i + 1) 0)) (fun r => fr Fz s r.1 ∧ ∃ m M, MWq r.1 m M ∧ SE 130 (GmM m M) (GL (rwM n Rs) (cnE n Rs) rc 0))) (s0 := r.1) (by omega) (by omega) ⟨a1.tr (b1.mono FO_z), b2, m, M, a2.fr b1 (fun _ => rfl) rfl, by omega, a4⟩ (fun c z _ hc ⟨z1, z2, m', M', z3, z4, z5⟩ => ?_) (fun z ⟨z1, z2, m', M', z3, z4, z5⟩ => ?_)
      · exact hin
      · have hz := Core_scr h z1
        by_cases qd : dR n (Rs i).2.2.2.1 (Rs i).2.2.2.2.1 c = true
        · refine (me_row hz hi z3 (by omega) z2 hc qd).mono (fun r ⟨w', e1, e2, e3⟩ => ?_)
          subst e1
          refine ⟨rfl, z1.tr (e2.mono F128_z), z2.fr e2 (fun _ => rfl) rfl, m' + 1, _, e3, by omega, ?_⟩
          rw [cnt, if_pos qd]
          exact (SE.sy GmM_add).tr ((G1_se z5).tr GL_step)
        · have o1 := z2.1 c hc
          rw [if_neg qd] at o1
          unfold f240_76 f240_237
          simp (disch := omega) only [hz.mn.zc, iz0, iz1, iz2, iz3, iz4, iz5, iz7, iz8, iz9, iz10, iz15, iz20, iz25, iz30, iz40, iz49, iz99, iz100, iz300, iz343, iz500, iz999, iz1000, iz1200, iz_add, iz_sub, iz_mul, iz_neg, it_le_t, it_le_f, it_lt_t, it_lt_f, it_eq_t, it_eq_f, bz0, bz1, ifg_T, or_true, true_or, if_true, if_false, Option.bind_some, Option.map_some, R_101_39, A_125, iz_in, iz_n, nat_toNat, o1, ok_some, ok_map, lp_l, lp_r, lpA_l, lpA_r, true_and]
          refine ⟨z1, z2, m', M', z3, by omega, ?_⟩
          rw [cnt, if_neg qd]
          exact z5
      · have hz := Core_scr h z1
        unfold f240_76
        simp (disch := omega) only [hz.mn.zc, iz0, iz1, iz2, iz3, iz4, iz5, iz7, iz8, iz9, iz10, iz15, iz20, iz25, iz30, iz40, iz49, iz99, iz100, iz300, iz343, iz500, iz999, iz1000, iz1200, iz_add, iz_sub, iz_mul, iz_neg, it_le_t, it_le_f, it_lt_t, it_lt_f, it_eq_t, it_eq_f, bz0, bz1, ifg_T, or_true, true_or, if_true, if_false, Option.bind_some, Option.map_some, ok_some, ok_map, lp_l, lp_r, lpA_l, lpA_r, true_and]
        exact ⟨z1, m', M', z3, by omega, z5.tr GL_next⟩
    · have hw := Core_scr h a1
      have w9 := hw.2.1.2.2.2.2.2.2.2.1
      unfold f240_32
      simp (disch := omega) only [w9, iz0, iz1, iz2, iz3, iz4, iz5, iz7, iz8, iz9, iz10, iz15, iz20, iz25, iz30, iz40, iz49, iz99, iz100, iz300, iz343, iz500, iz999, iz1000, iz1200, iz_add, iz_sub, iz_mul, iz_neg, it_le_t, it_le_f, it_lt_t, it_lt_f, it_eq_t, it_eq_f, bz0, bz1, ifg_T, or_true, true_or, if_true, if_false, Option.bind_some, Option.map_some, ok_some, ok_map, lp_l, lp_r, lpA_l, lpA_r, true_and]
      exact ⟨a1, m, M, a2, a4⟩
end HM
