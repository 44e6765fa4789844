/-! until -/
def FLf (id k : Nat) : Bool := FL id k || id == 53
theorem FLf_z (id k : Nat) (h : FLf id k = true) : Fz id k = true := by
  unfold FLf at h
  rw [Bool.or_eq_true, beq_iff_eq] at h
  rcases h with h | rfl
  · exact FL_z id k h
  · rfl
theorem FL_Lf (id k : Nat) (h : FL id k = true) : FLf id k = true := by unfold FLf; rw [h]; rfl
section UN
variable {s : xS} {b n pl : Nat} {red slip : Int} {x : sS} {W S : Nat → Int} {st : Int32} {rc : Nat} {Rs : Nat → Rn}
/-- which plates are flat, as told by a row -/
def Fn (s : xS) (n pl : Nat) (H : Nat → Int) (k : Int) : Prop := ∀ p, p < pl → s.1 53 p = if flP n H p k = true then iz 1 else iz 0
theorem nbi {c : Prop} {dc : Decidable c} : vp_nar .boolean (if c then iz 1 else iz 0) = if c then iz 1 else iz 0 := by
  by_cases h : c
  · rw [if_pos h]; exact nb1
  · rw [if_neg h]; exact nb0
theorem cl_look (h : Core s b n pl red slip x W S st rc Rs) {k : Int} (k0 : 0 ≤ k) (k9 : k ≤ 999) : ok (f98 51 (iz k) s) (fun r => fr FLf s r.1 ∧ Fn r.1 n pl x.1 k) := by
  have hpl := h.p4
  unfold f98
  rw [ifg_pos O_51]
  simp only [iz0]
  refine forz (fun p w => fr FLf s w ∧ Fn w n p x.1 k) 0 pl (by omega) (by omega) ⟨fr.rf _ _, fun q hq => by omega⟩ (fun p w _ hp ⟨h1, h2⟩ => ?_) (fun w ⟨h1, h2⟩ => ?_)
  · have hw := Core_scr h (h1.mono FLf_z)
    unfold f98_2
    simp (disch := omega) only [R_51_0, R_51_2, R_51_5, hw.1.1, iz0, iz1, iz2, iz3, iz4, iz5, iz7, iz8, iz9, iz10, iz15, iz20, iz25, iz30, iz40, iz49, iz99, iz100, iz300, iz343, iz500, iz999, iz1000, iz1200, iz_add, iz_sub, iz_mul, iz_neg, it_le_t, it_le_f, it_lt_t, it_lt_f, it_eq_t, it_eq_f, bz0, bz1, ifg_T, or_true, true_or, if_true, if_false, Option.bind_some, Option.map_some]
    refine (cl_isFlat hw.cn is33 hw.1.2.2.2.2.1 hw.bd (show p < 4 by omega) k0 k9).bind (fun r1 ⟨a1, a2⟩ => ?_)
    rw [a2]
    simp (disch := omega) only [W_53, iz0, iz1, iz2, iz3, iz4, iz5, iz7, iz8, iz9, iz10, iz15, iz20, iz25, iz30, iz40, iz49, iz99, iz100, iz300, iz343, iz500, iz999, iz1000, iz1200, iz_add, iz_sub, iz_mul, iz_neg, it_le_t, it_le_f, it_lt_t, it_lt_f, it_eq_t, it_eq_f, bz0, bz1, ifg_T, or_true, true_or, if_true, if_false, Option.bind_some, Option.map_some, iz_in, iz_n, nat_toNat, nbi, ok_some, ok_map, lp_l, lp_r, lpA_l, lpA_r, true_and]
    refine ⟨(h1.tr (a1.mono FL_Lf)).ui rfl, fun q hq => ?_⟩
    dsimp only
    by_cases e : q = p
    · rw [e, up_eq]
    · rw [up_ix _ _ e, a1.i _ _ rfl]
      exact h2 q (by omega)
  · have hw := Core_scr h (h1.mono FLf_z)
    unfold f98_2
    simp (disch := omega) only [R_51_0, hw.1.1, iz0, iz1, iz2, iz3, iz4, iz5, iz7, iz8, iz9, iz10, iz15, iz20, iz25, iz30, iz40, iz49, iz99, iz100, iz300, iz343, iz500, iz999, iz1000, iz1200, iz_add, iz_sub, iz_mul, iz_neg, it_le_t, it_le_f, it_lt_t, it_lt_f, it_eq_t, it_eq_f, bz0, bz1, ifg_T, or_true, true_or, if_true, if_false, Option.bind_some, Option.map_some, ok_some, ok_map, lp_l, lp_r, lpA_l, lpA_r, true_and]
    exact ⟨h1, h2⟩
theorem cl_each {H : Nat → Int} {k : Int} (h2 : s.1 3 2 = iz pl) (hpl : pl ≤ 4) (hf : Fn s n pl H k) : ∃ v, f99 51 s = some (s, v) ∧ ((v = iz 1 ∧ flA n pl H k) ∨ (v = iz 0 ∧ ¬ flA n pl H k)) := by
  have key : ok (f99 51 s) (fun r => r.1 = s ∧ ((r.2 = iz 1 ∧ flA n pl H k) ∨ (r.2 = iz 0 ∧ ¬ flA n pl H k))) := by
    unfold f99
    rw [ifg_pos O_51]
    simp only [iz0]
    refine forz (fun p w => w = s ∧ ∀ q, q < p → flP n H q k = true) 0 pl (by omega) (by omega) ⟨rfl, fun q hq => by omega⟩ (fun p w _ hp ⟨e1, e2⟩ => ?_) (fun w ⟨e1, e2⟩ => ?_)
    · subst e1
      have e3 := hf p hp
      unfold f99_2
      simp (disch := omega) only [R_51_0, R_51_5, h2, A_53, iz0, iz1, iz2, iz3, iz4, iz5, iz7, iz8, iz9, iz10, iz15, iz20, iz25, iz30, iz40, iz49, iz99, iz100, iz300, iz343, iz500, iz999, iz1000, iz1200, iz_add, iz_sub, iz_mul, iz_neg, it_le_t, it_le_f, it_lt_t, it_lt_f, it_eq_t, it_eq_f, bz0, bz1, ifg_T, or_true, true_or, if_true, if_false, Option.bind_some, Option.map_some, iz_in, iz_n, nat_toNat, e3]
      by_cases q : flP n H p k = true
      · rw [if_pos q]
        simp (disch := omega) only [iz0, iz1, iz2, iz3, iz4, iz5, iz7, iz8, iz9, iz10, iz15, iz20, iz25, iz30, iz40, iz49, iz99, iz100, iz300, iz343, iz500, iz999, iz1000, iz1200, iz_add, iz_sub, iz_mul, iz_neg, it_le_t, it_le_f, it_lt_t, it_lt_f, it_eq_t, it_eq_f, bz0, bz1, ifg_T, or_true, true_or, if_true, if_false, Option.bind_some, Option.map_some, ok_some, ok_map, lp_l, lp_r, lpA_l, lpA_r, true_and]
        intro j hj
        by_cases r : j = p
        · rw [r]; exact q
        · exact e2 j (by omega)
      · rw [if_neg q]
        simp (disch := omega) only [iz0, iz1, iz2, iz3, iz4, iz5, iz7, iz8, iz9, iz10, iz15, iz20, iz25, iz30, iz40, iz49, iz99, iz100, iz300, iz343, iz500, iz999, iz1000, iz1200, iz_add, iz_sub, iz_mul, iz_neg, it_le_t, it_le_f, it_lt_t, it_lt_f, it_eq_t, it_eq_f, bz0, bz1, ifg_T, or_true, true_or, if_true, if_false, Option.bind_some, Option.map_some, ok_some, ok_map, lp_l, lp_r, lpA_l, lpA_r, true_and]
        exact Or.inr (fun r => q (r p hp))
    · subst e1
      unfold f99_2
      simp (disch := omega) only [R_51_0, h2, iz0, iz1, iz2, iz3, iz4, iz5, iz7, iz8, iz9, iz10, iz15, iz20, iz25, iz30, iz40, iz49, iz99, iz100, iz300, iz343, iz500, iz999, iz1000, iz1200, iz_add, iz_sub, iz_mul, iz_neg, it_le_t, it_le_f, it_lt_t, it_lt_f, it_eq_t, it_eq_f, bz0, bz1, ifg_T, or_true, true_or, if_true, if_false, Option.bind_some, Option.map_some, ok_some, ok_map, lp_l, lp_r, lpA_l, lpA_r, true_and]
      exact Or.inl e2
  obtain ⟨r, e1, e2, e3⟩ := key
  exact ⟨r.2, by rw [e1, ← e2], e3⟩
/-- how many rounds till flat -/
def unt (n pl : Nat) (red slip : Int) (x : sS) (W S : Nat → Int) (st : Int32) (rc : Nat) (Rs : Nat → Rn) (k : Int) (v : Int32) : Prop := (∃ j : Nat, j ≤ 300 ∧ v = iz j ∧ flA n pl (itR n red slip W S rc Rs j (x, st)).1.1 k ∧ ∀ i, i < j → ¬ flA n pl (itR n red slip W S rc Rs i (x, st)).1.1 k) ∨ (v = iz (-1) ∧ ∀ j, j ≤ 300 → ¬ flA n pl (itR n red slip W S rc Rs j (x, st)).1.1 k)
theorem unt_u {k : Int} {v w : Int32} (h1 : unt n pl red slip x W S st rc Rs k v) (h2 : unt n pl red slip x W S st rc Rs k w) : v = w := by
  rcases h1 with ⟨j, a1, a2, a3, a4⟩ | ⟨a1, a2⟩
  · rcases h2 with ⟨i, b1, b2, b3, b4⟩ | ⟨b1, b2⟩
    · have : i = j := by
        by_cases e : i < j
        · exact absurd b3 (a4 i e)
        · by_cases e2 : j < i
          · exact absurd a3 (b4 j e2)
          · omega
      rw [a2, b2, this]
    · exact absurd a3 (b2 j a1)
  · rcases h2 with ⟨i, b1, b2, b3, b4⟩ | ⟨b1, b2⟩
    · exact absurd b3 (a2 i b1)
    · rw [a1, b1]
theorem AR_52 {q : Nat} (h : q < 4) : aR 52 (iz q) = some (56 + 4 * q) := by
  have : q = 0 ∨ q = 1 ∨ q = 2 ∨ q = 3 := by omega
  have e : hk_ks[52]? = some (24, 4) := by decide +kernel
  unfold aR
  rw [e]
  simp (disch := omega) only [iz_in, iz_n, nat_toNat, if_true, and_true, true_or]
  rcases this with rfl | rfl | rfl | rfl <;> exact (hk_R_at (by decide) (by decide)).trans rfl
theorem is56 : isB 56 := Or.inr (Or.inl rfl)
theorem FLf_f {id k : Nat} (h : 56 ≤ id) : FLf id k = false := by
  unfold FLf FL
  rw [ble_f (show 50 < id by omega), Bool.and_false, show (id == 39) = false by rw [beq_eq_false_iff_ne]; omega, show (id == 53) = false by rw [beq_eq_false_iff_ne]; omega]
  rfl
set_option maxHeartbeats 400000 in
theorem cl_until (h : Core s b n pl red slip x W S st rc Rs) (h0 : 0 < rc) {k : Int} (k0 : 0 ≤ k) (k9 : k ≤ 999) : ok (f100 51 (iz k) s) (fun r => fr Fz s r.1 ∧ unt n pl red slip x W S st rc Rs k r.2) := by
  have hpl := h.p4
  have hrc := h.rc10
  have hV := h.2.2
  unfold f100
  rw [ifg_pos O_51]
  simp only [R_51_4, R_51_2, Option.bind_some, iz0]
  rw [show aR 52 (iz 0) = some 56 from AR_52 (q := 0) (by omega)]
  simp only [Option.bind_some]
  rw [ifg_pos O_56]
  refine (cl_become is56 is33 (by omega) (KC_bx h.1)).bind (fun t1 ⟨a1, a2⟩ => ?_)
  have h1 := Core_scr h (a1.mono (FBm_z (Or.inl rfl)))
  refine (cl_look h1 k0 k9).bind (fun t2 ⟨b1, b2⟩ => ?_)
  have b3 : BxC t2.1 56 x W S st := a2.fr b1 (fun a k h1 h2 => FLf_f (by omega))
  have f2 : fr Fz s t2.1 := (a1.mono (FBm_z (Or.inl rfl))).tr (b1.mono FLf_z)
  refine forz (fun j w => fr Fz s w ∧ BxC w 56 (itR n red slip W S rc Rs j (x, st)).1 W S (itR n red slip W S rc Rs j (x, st)).2 ∧ Fn w n pl (itR n red slip W S rc Rs j (x, st)).1.1 k ∧ ∀ i, i < j → ¬ flA n pl (itR n red slip W S rc Rs i (x, st)).1.1 k) 0 300 (by omega) (by omega) ⟨f2, b3, b2, fun i hi => by omega⟩ (fun j w _ hj ⟨e1, e2, e3, e4⟩ => ?_) (fun w ⟨e1, e2, e3, e4⟩ => ?_)
  · have hw := Core_scr h e1
    have hVj := KV_it hV h0 st j
    obtain ⟨v, g1, g2⟩ := cl_each hw.1.1 hpl e3
    unfold f100_22
    rw [iz300, it_le_f (by omega) (by omega) (by omega), g1]
    simp only [Option.bind_some]
    rcases g2 with ⟨rfl, g3⟩ | ⟨rfl, g3⟩
    · rw [iz0, it_eq_f (by omega) (by omega) (by omega) (by omega) (by omega)]
      simp only [ok_some, ok_map, lp_l, lp_r, lpA_l, lpA_r, true_and]
      exact ⟨e1, Or.inl ⟨j, by omega, rfl, g3, e4⟩⟩
    · rw [iz0, it_eq_t rfl]
      have hjr : j % rc < rc := Nat.mod_lt _ h0
      have hO := R_O (isR_of (show j % rc < 10 by omega))
      have hRv := hV.2.2.2.2.2.2.2.2.2.2 (j % rc) hjr
      have hCR := hw.1.2.2.2.2.2.2.2.2 (j % rc) hjr
      simp only [R_51_1, R_51_3, R_51_5, Option.bind_some, cl_after hw.1.2.2.2.2.2.2.2.1 h0 hrc (show j ≤ 1000 by omega)]
      rw [ifg_pos hO]
      have hHj := hVj.2.2.2.2.2.2.2.1
      have hWs := hVj.2.2.2.2.2.2.2.2.1
      refine (cl_scrape hw.cn is56 e2.1 e2.2.1 (Hb.bd hHj hWs) hRv hpl (isR_of (show j % rc < 10 by omega)) hCR hw.1.2.2.1 hV.2.2.2.1 hV.2.2.2.2.1 hw.1.2.2.2.1 hV.2.2.2.2.2.1 hV.2.2.2.2.2.2.1).bind (fun t3 ⟨d1, d2, d3, d4, d5⟩ => ?_)
      have f3 := e1.tr (d1.mono (FC_z (Or.inl rfl)))
      have hw3 := Core_scr h f3
      have hCR3 := hw3.1.2.2.2.2.2.2.2.2 (j % rc) hjr
      have hsc : (Rs (j % rc)).2.2.2.2.2.1 < 4 := by
        have r1 := hRv.1
        have r2 := hRv.2.1
        rcases hRv.2.2.2.2.1 with q | q <;> rw [q] <;> omega
      have hVj1 := KV_it hV h0 st (j + 1)
      rw [hCR3.2.2.2.2.2.1]
      refine (cl_isFlat hw3.cn is56 d2 (Hb.bd hVj1.2.2.2.2.2.2.2.1 hWs) hsc k0 k9).bind (fun t4 ⟨l1, l2⟩ => ?_)
      rw [l2]
      simp (disch := omega) only [W_53, iz0, iz1, iz2, iz3, iz4, iz5, iz7, iz8, iz9, iz10, iz15, iz20, iz25, iz30, iz40, iz49, iz99, iz100, iz300, iz343, iz500, iz999, iz1000, iz1200, iz_add, iz_sub, iz_mul, iz_neg, it_le_t, it_le_f, it_lt_t, it_lt_f, it_eq_t, it_eq_f, bz0, bz1, ifg_T, or_true, true_or, if_true, if_false, Option.bind_some, Option.map_some, iz_in, iz_n, nat_toNat, nbi, ok_some, ok_map, lp_l, lp_r, lpA_l, lpA_r, true_and]
      have f4 := f3.tr (l1.mono FL_z)
      refine ⟨f4.ui rfl, ?_, fun p hp => ?_, fun i hi => ?_⟩
      · have q1 : BxC t4.1 56 (itR n red slip W S rc Rs (j + 1) (x, st)).1 W S (itR n red slip W S rc Rs (j + 1) (x, st)).2 := by
          have q0 : BxC t3.1 56 (itR n red slip W S rc Rs (j + 1) (x, st)).1 W S (itR n red slip W S rc Rs (j + 1) (x, st)).2 := ⟨d2, d3, by rw [d4, e2.2.2]; rfl⟩
          exact q0.fr l1 (fun a k h1 h2 => by
            have := FLf_f (id := a) (k := k) (by omega)
            unfold FLf at this
            rw [Bool.or_eq_false_iff] at this
            exact this.1)
        exact q1.fr ((fr.rf (F1 53) _).ui rfl) (fun a k h1 h2 => by unfold F1; rw [beq_eq_false_iff_ne]; omega)
      · dsimp only
        by_cases q : p = (Rs (j % rc)).2.2.2.2.2.1
        · rw [q, up_eq]
          rfl
        · rw [up_ix _ _ q, l1.i _ _ rfl, d1.i _ _ rfl, e3 p hp]
          have := flP_o (red := red) (slip := slip) (Hb.bd hHj hWs) hRv hpl (show p < 4 by omega) q k
          rw [← this]
          rfl
      · by_cases q : i = j
        · rw [q]; exact g3
        · exact e4 i (by omega)
  · have hw := Core_scr h e1
    obtain ⟨v, g1, g2⟩ := cl_each hw.1.1 hpl e3
    unfold f100_22 f100_100
    rw [iz300, it_le_t (by omega) (by omega) (by omega), g1]
    simp only [Option.bind_some]
    rcases g2 with ⟨rfl, g3⟩ | ⟨rfl, g3⟩
    · rw [iz0, it_eq_f (by omega) (by omega) (by omega) (by omega) (by omega)]
      simp only [ok_some, ok_map, lp_l, lp_r, lpA_l, lpA_r, true_and]
      exact ⟨e1, Or.inl ⟨300, by omega, rfl, g3, e4⟩⟩
    · rw [iz0, it_eq_t rfl]
      simp only [ok_some, ok_map, lp_l, lp_r, lpA_l, lpA_r, true_and]
      refine ⟨e1, Or.inr ⟨rfl, fun j hj => ?_⟩⟩
      by_cases q : j = 300
      · rw [q]; exact g3
      · exact e4 j (by omega)
end UN
