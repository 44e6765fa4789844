/-! best at the model, both sides -/
section MBt
variable {s : xS} {b n pl : Nat} {red slip : Int} {x : sS} {W S : Nat → Int} {st : Int32} {rc : Nat} {Rs : Nat → Rn}
theorem pw_le {j : Nat} (hr : rc ≤ 10) (hj : j ≤ 3) : rc ^ j ≤ 1000 := by
  have h1 : rc ^ j ≤ 10 ^ j := Nat.pow_le_pow_left hr j
  have h2 : 10 ^ j ≤ 10 ^ 3 := Nat.pow_le_pow_right (by omega) hj
  omega
theorem mb_pow {r j : Nat} (hr : r ≤ 10) (hj : j ≤ 3) : f251 (iz r) (iz j) s = some (s, iz ((r ^ j : Nat) : Int)) := by
  have key : ok (f251 (iz r) (iz j) s) (fun q => q.1 = s ∧ q.2 = iz ((r ^ j : Nat) : Int)) := by
    unfold f251
    simp only [iz0, iz1]
    refine forzA (A := Int32) (fun i v w => w = s ∧ v = iz ((r ^ i : Nat) : Int)) 0 j (by omega) (by omega) ⟨rfl, rfl⟩ (fun i v w _ hi ⟨e1, e2⟩ => ?_) (fun v w ⟨e1, e2⟩ => ?_)
    · subst e1
      subst e2
      unfold f251_4
      simp (disch := omega) only [iz0, iz1, iz2, iz3, iz4, iz5, iz7, iz8, iz9, iz10, iz15, iz20, iz25, iz30, iz40, iz49, iz99, iz100, iz300, iz343, iz500, iz999, iz1000, iz1200, iz_add, iz_sub, iz_mul, iz_neg, it_le_t, it_le_f, it_lt_t, it_lt_f, it_eq_t, it_eq_f, bz0, bz1, ifg_T, or_true, true_or, if_true, if_false, Option.bind_some, Option.map_some, ok_some, ok_map, lp_l, lp_r, lpA_l, lpA_r, true_and]
      rw [Nat.pow_succ]
      rfl
    · subst e1
      subst e2
      unfold f251_4
      simp (disch := omega) only [iz0, iz1, iz2, iz3, iz4, iz5, iz7, iz8, iz9, iz10, iz15, iz20, iz25, iz30, iz40, iz49, iz99, iz100, iz300, iz343, iz500, iz999, iz1000, iz1200, iz_add, iz_sub, iz_mul, iz_neg, it_le_t, it_le_f, it_lt_t, it_lt_f, it_eq_t, it_eq_f, bz0, bz1, ifg_T, or_true, true_or, if_true, if_false, Option.bind_some, Option.map_some, ok_some, ok_map, lp_l, lp_r, lpA_l, lpA_r, true_and]
  obtain ⟨q, e1, e2, e3⟩ := key
  rw [e1, ← e2, ← e3]
theorem mb_dig {m j c : Nat} (h37 : s.1 101 37 = iz rc) (h0 : 0 < rc) (hr : rc ≤ 10) (m3 : m ≤ 3) (hj : j < m) (hc : c < rc ^ m) : f252 101 (iz c) (iz m) (iz j) s = some (s, iz ((dg rc m c j : Nat) : Int)) := by
  have p1 := pw_le hr m3
  have p2 := pw_le (j := m - 1 - j) hr (by omega)
  have p3 := pw_pos (rc := rc) (t := m - 1 - j) h0
  unfold f252
  rw [ifg_pos O_101, h37]
  simp (disch := omega) only [iz1, iz_sub]
  rw [show ((m : Int) - 1 - (j : Int)) = ((m - 1 - j : Nat) : Int) by omega, mb_pow hr (by omega)]
  simp only [Option.bind_some]
  rw [nz (by omega) (by omega) (by omega), h37, nz (by omega) (by omega) (by omega), iz_divN p3 (by omega) (by omega), iz_remN h0 (Nat.le_trans (Nat.div_le_self _ _) (by omega)) (by omega)]
  rfl
theorem stp_dg {m c j : Nat} (hj : j < m) : stp n red slip W S rc Rs x (j + 1) (c / rc ^ (m - (j + 1))) = (dRd n red slip W S (Rs (dg rc m c j)) (stp n red slip W S rc Rs x j (c / rc ^ (m - j)))).1 := by
  rw [stp]
  unfold dg
  rw [Nat.div_div_eq_div_mul, ← Nat.pow_succ, show Nat.succ (m - (j + 1)) = m - j by omega, show m - (j + 1) = m - 1 - j by omega]
def BMr (s : xS) (n : Nat) (red slip : Int) (W S : Nat → Int) (rc : Nat) (Rs : Nat → Rn) (x : sS) (m : Nat) (o : Option Nat) : Prop := (o = none ∧ s.1 101 64 = iz (-1)) ∨ ∃ c, o = some c ∧ c < rc ^ m ∧ s.1 101 64 = iz c ∧ s.1 101 63 = iz (irn n red slip W S rc Rs x m c)
def F6 (id k : Nat) : Bool := id == 101 && (k == 63 || k == 64)
theorem F6_z (id k : Nat) (h : F6 id k = true) : Fz id k = true := by
  unfold F6 at h
  simp only [Bool.and_eq_true, Bool.or_eq_true, beq_iff_eq] at h
  rcases h with ⟨rfl, rfl | rfl⟩ <;> rfl
theorem BMr.fr {F : Nat → Nat → Bool} {s' : xS} {m : Nat} {o : Option Nat} (h : BMr s n red slip W S rc Rs x m o) (hf : fr F s s') (h1 : F 101 64 = false ∧ F 101 63 = false) : BMr s' n red slip W S rc Rs x m o := by
  rcases h with ⟨a1, a2⟩ | ⟨c, a1, a0, a2, a3⟩
  · exact Or.inl ⟨a1, by rw [hf.i _ _ h1.1]; exact a2⟩
  · exact Or.inr ⟨c, a1, a0, by rw [hf.i _ _ h1.1]; exact a2, by rw [hf.i _ _ h1.2]; exact a3⟩
theorem FG_bx (r : Nat) : (FG 132 r = false ∧ FG 133 r = false ∧ FG 134 r = false) ∧ (∀ k, k < 100 → FG 130 (100 * r + k) = false ∧ FG 131 (100 * r + k) = false) ∧ (∀ k, k < 15 → FG 135 (15 * r + k) = false) ∧ (∀ k, k < 5 → FG 136 (5 * r + k) = false ∧ FG 137 (5 * r + k) = false) := ⟨⟨rfl, rfl, rfl⟩, fun _ _ => ⟨rfl, rfl⟩, fun _ _ => rfl, fun _ _ => ⟨rfl, rfl⟩⟩
theorem F6_bx (r : Nat) : (F6 132 r = false ∧ F6 133 r = false ∧ F6 134 r = false) ∧ (∀ k, k < 100 → F6 130 (100 * r + k) = false ∧ F6 131 (100 * r + k) = false) ∧ (∀ k, k < 15 → F6 135 (15 * r + k) = false) ∧ (∀ k, k < 5 → F6 136 (5 * r + k) = false ∧ F6 137 (5 * r + k) = false) := ⟨⟨rfl, rfl, rfl⟩, fun _ _ => ⟨rfl, rfl⟩, fun _ _ => rfl, fun _ _ => ⟨rfl, rfl⟩⟩
/-- between two codes -/
def MBI (s w : xS) (b n pl : Nat) (red slip : Int) (x : sS) (W S : Nat → Int) (st : Int32) (rc : Nat) (Rs : Nat → Rn) (k : Int) (m c : Nat) : Prop := fr FU s w ∧ Core w b n pl red slip x W S st rc Rs ∧ BxM w 3 n pl x W S st ∧ ∃ o, IsB (flC n pl red slip W S rc Rs x k m) (irn n red slip W S rc Rs x m) c o ∧ BMr w n red slip W S rc Rs x m o
theorem mb_118 {w w2 : xS} {y : sS} {st' : Int32} {k : Int} {m c : Nat} {o : Option Nat} (hc : c < 100000) (hrc : rc ≤ 10) (hV : KV n pl red slip x W S rc Rs) (f1 : fr FU s w) (hC : KC w n pl red slip x W S st rc Rs) (hM : KM w b n pl red slip y W S st' rc Rs) (hx : BxM w 3 n pl x W S st) (hI : IsB (flC n pl red slip W S rc Rs x k m) (irn n red slip W S rc Rs x m) (c + 1) o) (hB : BMr w n red slip W S rc Rs x m o) {Q : xS × Unit → Prop} : ok (f253_118 101 (iz m) (iz k) (iz c) w) (lp ((c : Int) + 1) (fun w => MBI s w b n pl red slip x W S st rc Rs k m (c + 1)) Q) := by
  unfold f253_118
  rw [iz3]
  refine (mo_bring hM (q := 3) (by omega) hx).bind (fun r ⟨d1, d2⟩ => ?_)
  obtain ⟨x1, x2, x3, x4⟩ := FG_bx 3
  rw [ok_some, lp_l, iz1, iz_add]
  exact ⟨rfl, f1.tr (d1.mono FG_U), ⟨KC_i hC d1 hrc (fun id k hi => FG_le id k hi), d2, hV⟩, hx.fr d1 x1 x2 x3 x4, o, hI, hB.fr d1 ⟨rfl, rfl⟩⟩
theorem mb_99 {w : xS} {st' : Int32} {k : Int} (k0 : 0 ≤ k) (k9 : k ≤ 999) {m c : Nat} {o : Option Nat} (m3 : m ≤ 3) (hcm : c < rc ^ m) (h0 : 0 < rc) (hrc : rc ≤ 10) (hV : KV n pl red slip x W S rc Rs) (f1 : fr FU s w) (hC : KC w n pl red slip x W S st rc Rs) (hM : KM w b n pl red slip (stp n red slip W S rc Rs x m c) W S st' rc Rs) (hx : BxM w 3 n pl x W S st) (hI : IsB (flC n pl red slip W S rc Rs x k m) (irn n red slip W S rc Rs x m) c o) (hB : BMr w n red slip W S rc Rs x m o) (hlt : ∀ c', o = some c' → irn n red slip W S rc Rs x m c < irn n red slip W S rc Rs x m c') {Q : xS × Unit → Prop} : ok (f253_99 101 (iz m) (iz k) (iz c) (iz (irn n red slip W S rc Rs x m c)) w) (lp ((c : Int) + 1) (fun w => MBI s w b n pl red slip x W S st rc Rs k m (c + 1)) Q) := by
  have p1 := pw_le hrc m3
  unfold f253_99
  refine (mo_isFlatM hM (KV_stp hV h0 m c) k0 k9).bind (fun t1 ⟨a1, a2⟩ => ?_)
  obtain ⟨x1, x2, x3, x4⟩ := FW_bx 3
  have hC1 := KC_W hC (a1.mono FD_W) hrc
  have hM1 := KM_scr hM (a1.mono FD0_z) hrc
  have hx1 := hx.fr (a1.mono FD_W) x1 x2 x3 x4
  have fa := f1.tr (a1.mono (fun id k hk => FW_U id k (FD_W id k hk)))
  have hB1 := hB.fr a1 ⟨rfl, rfl⟩
  rcases a2 with ⟨a2, a3⟩ | ⟨a2, a3⟩
  · rw [a2, iz0, it_eq_f (by omega) (by omega) (by omega) (by omega) (by omega)]
    simp only [pI, Option.bind_some]
    have e6 : fr F6 t1.1 (xm_up (xm_up t1.1.1 101 64 (iz c)) 101 63 (iz (irn n red slip W S rc Rs x m c)), t1.1.2) := ((fr.rf F6 t1.1).ui (v := iz c) (id := 101) (k := 64) rfl).ui (v := iz (irn n red slip W S rc Rs x m c)) (id := 101) (k := 63) rfl
    obtain ⟨y1, y2, y3, y4⟩ := F6_bx 3
    refine mb_118 (w2 := w) (o := some c) (by omega) hrc hV (fa.tr (e6.mono (fun id k hk => Fz_U id k (F6_z id k hk)))) (KC_scr hC1 (e6.mono F6_z) hrc) (KM_scr hM1 (e6.mono F6_z) hrc) (hx1.fr e6 y1 y2 y3 y4) (IsB_yes hI a3 hlt) (Or.inr ⟨c, rfl, hcm, ?_, ?_⟩)
    · show xm_up (xm_up t1.1.1 101 64 (iz c)) 101 63 (iz (irn n red slip W S rc Rs x m c)) 101 64 = iz c
      rw [up_ix _ _ (by omega), up_eq]
    · exact (by first | exact up_eqP _ _ _ _ _ | exact up_eq _ _ _ _)
  · rw [a2, iz0, it_eq_t rfl]
    exact mb_118 (w2 := w) (o := o) (by omega) hrc hV fa hC1 hM1 hx1 (IsB_no hI a3) hB1
theorem mo_find (h : Core s b n pl red slip x W S st rc Rs) (h0 : 0 < rc) {m : Nat} (m1 : 1 ≤ m) (m3 : m ≤ 3) {k : Int} (k0 : 0 ≤ k) (k9 : k ≤ 999) : ok (f253 101 (iz m) (iz k) s) (fun r => fr FU s r.1 ∧ Core r.1 b n pl red slip x W S st rc Rs ∧ ∃ o, IsB (flC n pl red slip W S rc Rs x k m) (irn n red slip W S rc Rs x m) (rc ^ m) o ∧ BMr r.1 n red slip W S rc Rs x m o) := by
  have hpl := h.p4
  have hrc := h.rc10
  have hV := h.2.2
  have p1 := pw_le hrc m3
  unfold f253
  rw [ifg_pos O_101, iz3]
  refine (mo_keep h.2.1 (q := 3) (by omega) hpl).bind (fun t1 ⟨a1, a2, a3⟩ => ?_)
  simp only [pI, Option.bind_some, izm1]
  have e6 : fr F6 t1.1 (xm_up t1.1.1 101 64 (iz (-1)), t1.1.2) := (fr.rf F6 t1.1).ui (v := iz (-1)) (id := 101) (k := 64) rfl
  have h1 := Core_scr h ((a1.mono FK3_z).tr (e6.mono F6_z))
  have f1 : fr FU s (xm_up t1.1.1 101 64 (iz (-1)), t1.1.2) := ((a1.mono FK3_z).tr (e6.mono F6_z)).mono Fz_U
  obtain ⟨y1, y2, y3, y4⟩ := F6_bx 3
  obtain ⟨x1, x2, x3, x4⟩ := FW_bx 3
  refine forz (fun c w => MBI s w b n pl red slip x W S st rc Rs k m c) 0 (rc ^ m) (by omega) (by omega) ⟨f1, h1, a2.fr e6 y1 y2 y3 y4, none, IsB_0, Or.inl ⟨rfl, (by first | exact up_eqP _ _ _ _ _ | exact up_eq _ _ _ _)⟩⟩ (fun c w _ hc ⟨g1, g2, g3, o, g4, g5⟩ => ?_) (fun w ⟨g1, g2, g3, o, g4, g5⟩ => ?_)
  · have m37 := g2.2.1.2.2.2.2.2.2.2.1
    have m28 : w.1 101 28 = x.2.1 := g2.2.1.2.2.2.2.2.1.2.1
    dsimp only
    unfold f253_12
    rw [m37, mb_pow hrc m3]
    simp only [Option.bind_some]
    rw [it_le_f (by omega) (by omega) (by omega), m28]
    refine forzA (A := Int32) (fun j v u => v = x.2.1 ∧ fr FW w u ∧ ∃ st', KM u b n pl red slip (stp n red slip W S rc Rs x j (c / rc ^ (m - j))) W S st' rc Rs) 0 m (by omega) (by omega) ⟨rfl, fr.rf _ _, st, g2.2.1⟩ (fun j v u _ hj ⟨v1, v2, st', v3⟩ => ?_) (fun v u ⟨v1, v2, st', v3⟩ => ?_)
    · subst v1
      have u37 := v3.2.2.2.2.2.2.2.1
      dsimp only
      unfold f253_33
      rw [it_le_f (by omega) (by omega) (by omega), mb_dig u37 h0 hrc m3 hj hc]
      simp only [Option.bind_some]
      refine (KM_round v3 (KV_stp hV h0 j _) (dg_lt h0)).bind (fun q ⟨d1, d2, d3⟩ => ?_)
      have hcn : (dRd n red slip W S (Rs (dg rc m c j)) (stp n red slip W S rc Rs x j (c / rc ^ (m - j)))).2 ≤ n * n := scr_n _
      have sq := h.cn.sq
      rw [d3, iz0, it_le_t (by omega) (by omega) (by omega)]
      unfold f253_65
      rw [ok_some, lpA_l, iz1, iz_add, show iz 0 = (0 : Int32) from iz0.symm, Int32.add_zero]
      rw [← stp_dg hj] at d2
      exact ⟨rfl, rfl, v2.tr d1, _, d2⟩
    · subst v1
      rw [Nat.sub_self, Nat.pow_zero, Nat.div_one] at v3
      have u28 : u.1 101 28 = (stp n red slip W S rc Rs x m c).2.1 := v3.2.2.2.2.2.1.2.1
      have ib := (irn_at hV h0 m3 c).2
      have ed : u.1 101 28 - x.2.1 = iz (irn n red slip W S rc Rs x m c) := by rw [u28, (irn_at hV h0 m3 c).1, iz_sub_self]
      have hCu := KC_W g2.1 v2 hrc
      have hxu := g3.fr v2 x1 x2 x3 x4
      have hBu := g5.fr v2 ⟨rfl, rfl⟩
      have fu := g1.tr (v2.mono FW_U)
      dsimp only
      unfold f253_33
      rw [it_le_t (by omega) (by omega) (by omega), ok_map, ed]
      simp only [lpA_r]
      rcases hBu with ⟨rfl, b2⟩ | ⟨c', rfl, b1, b2, b3⟩
      · rw [b2, iz0, it_lt_t (by omega) (by omega) (by omega)]
        exact mb_99 k0 k9 m3 hc h0 hrc hV fu hCu v3 hxu g4 (Or.inl ⟨rfl, b2⟩) (fun c' e => by cases e)
      · have ib' := (irn_at hV h0 m3 c').2
        rw [b2, iz0, it_lt_f (by omega) (by omega) (by omega), b3]
        by_cases e : irn n red slip W S rc Rs x m c' ≤ irn n red slip W S rc Rs x m c
        · rw [it_le_t (by omega) (by omega) (by omega)]
          exact mb_118 (w2 := w) (o := some c') (by omega) hrc hV fu hCu v3 hxu (IsB_more g4 (by omega) (fun c'' h1 h2 => by rw [show c'' = c by omega]; exact e)) (Or.inr ⟨c', rfl, b1, b2, b3⟩)
        · rw [it_le_f (by omega) (by omega) (by omega)]
          exact mb_99 k0 k9 m3 hc h0 hrc hV fu hCu v3 hxu g4 (Or.inr ⟨c', rfl, b1, b2, b3⟩) (fun c'' h => by cases h; omega)
  · have m37 := g2.2.1.2.2.2.2.2.2.2.1
    dsimp only
    unfold f253_12
    rw [m37, mb_pow hrc m3]
    simp only [Option.bind_some]
    rw [it_le_t (by omega) (by omega) (by omega), ok_map, ok_some, lp_r]
    exact ⟨g1, g2, o, g4, g5⟩
theorem mb_is {m k : Int} (m0 : -2147483648 ≤ m) (m1 : m ≤ 2147483647) (k0 : -2147483648 ≤ k) (k1 : k ≤ 2147483647) (h : Core s b n pl red slip x W S st rc Rs) : ∃ v, f250 101 (iz m) (iz k) s = some (s, v) ∧ ((v = iz 1 ∧ 1 ≤ m ∧ m ≤ 3 ∧ 0 ≤ k ∧ k ≤ 999 ∧ 0 < rc) ∨ (v = iz 0 ∧ ¬ (1 ≤ m ∧ m ≤ 3 ∧ 0 ≤ k ∧ k ≤ 999 ∧ 0 < rc))) := by
  have hrc := h.rc10
  have m37 := h.2.1.2.2.2.2.2.2.2.1
  unfold f250 f250_31 f250_32
  rw [ifg_pos O_101]
  by_cases e1 : 1 ≤ m ∧ m ≤ 3
  · by_cases e2 : 0 ≤ k ∧ k ≤ 999
    · by_cases e3 : 0 < rc
      · simp (disch := omega) only [iz0, iz1, iz2, iz3, iz4, iz5, iz7, iz8, iz9, iz10, iz15, iz20, iz25, iz30, iz40, iz49, iz99, iz100, iz300, iz343, iz500, iz999, iz1000, iz1200, iz_add, iz_sub, iz_mul, iz_neg, it_le_t, it_le_f, it_lt_t, it_lt_f, it_eq_t, it_eq_f, bz0, bz1, ifg_T, or_true, true_or, if_true, if_false, Option.bind_some, Option.map_some, g_in_t, m37]
        exact ⟨_, rfl, Or.inl ⟨rfl, e1.1, e1.2, e2.1, e2.2, e3⟩⟩
      · simp (disch := omega) only [iz0, iz1, iz2, iz3, iz4, iz5, iz7, iz8, iz9, iz10, iz15, iz20, iz25, iz30, iz40, iz49, iz99, iz100, iz300, iz343, iz500, iz999, iz1000, iz1200, iz_add, iz_sub, iz_mul, iz_neg, it_le_t, it_le_f, it_lt_t, it_lt_f, it_eq_t, it_eq_f, bz0, bz1, ifg_T, or_true, true_or, if_true, if_false, Option.bind_some, Option.map_some, g_in_t, m37]
        exact ⟨_, rfl, Or.inr ⟨rfl, fun q => e3 q.2.2.2.2⟩⟩
    · simp (disch := omega) only [iz0, iz1, iz2, iz3, iz4, iz5, iz7, iz8, iz9, iz10, iz15, iz20, iz25, iz30, iz40, iz49, iz99, iz100, iz300, iz343, iz500, iz999, iz1000, iz1200, iz_add, iz_sub, iz_mul, iz_neg, it_le_t, it_le_f, it_lt_t, it_lt_f, it_eq_t, it_eq_f, bz0, bz1, ifg_T, or_true, true_or, if_true, if_false, Option.bind_some, Option.map_some, g_in_t, g_in_f]
      exact ⟨_, rfl, Or.inr ⟨rfl, fun q => e2 ⟨q.2.2.1, q.2.2.2.1⟩⟩⟩
  · simp (disch := omega) only [iz0, iz1, iz2, iz3, iz4, iz5, iz7, iz8, iz9, iz10, iz15, iz20, iz25, iz30, iz40, iz49, iz99, iz100, iz300, iz343, iz500, iz999, iz1000, iz1200, iz_add, iz_sub, iz_mul, iz_neg, it_le_t, it_le_f, it_lt_t, it_lt_f, it_eq_t, it_eq_f, bz0, bz1, ifg_T, or_true, true_or, if_true, if_false, Option.bind_some, Option.map_some, g_in_f]
    exact ⟨_, rfl, Or.inr ⟨rfl, fun q => e1 ⟨q.1, q.2.1⟩⟩⟩
theorem BeK.I {m : Nat} {k : Int} {o : Option Nat} (h : BeK s n pl red slip W S rc Rs x m k o) (m1 : 1 ≤ m) (m3 : m ≤ 3) (k0 : 0 ≤ k) (k9 : k ≤ 999) : BeI s n pl red slip W S rc Rs x := Or.inr ⟨m, k, o, m1, m3, k0, k9, h⟩
theorem FU_51 : FU 51 8 = false ∧ FU 51 9 = false ∧ FU 51 10 = false ∧ FU 51 11 = false := ⟨rfl, rfl, rfl, rfl⟩
theorem FU_55 (k : Nat) : FU 55 k = false := rfl
set_option maxHeartbeats 400000 in
theorem c_best (h : Core s b n pl red slip x W S st rc Rs) (hB : BeI s n pl red slip W S rc Rs x) {m k : Int} (m0 : -2147483648 ≤ m) (m1 : m ≤ 2147483647) (k0 : -2147483648 ≤ k) (k1 : k ≤ 2147483647) : ok (f144 0 (iz m) (iz k) s) (fun r1 => ok (f254 101 (iz m) (iz k) r1.1) (fun r2 => r2.2 = r1.2 ∧ fr FUB s r2.1 ∧ Core r2.1 b n pl red slip x W S st rc Rs ∧ BeI r2.1 n pl red slip W S rc Rs x)) := by
  have hrc := h.rc10
  unfold f144 f144_23
  rw [ifg_pos O_0]
  simp only [R_0_9, Option.bind_some]
  by_cases g : 1 ≤ m ∧ m ≤ 3 ∧ 0 ≤ k ∧ k ≤ 999 ∧ 0 < rc
  · obtain ⟨g1, g2, g3, g4, g5⟩ := g
    obtain ⟨m', rfl⟩ : ∃ m' : Nat, m = m' := ⟨m.toNat, by omega⟩
    have p1 := pw_le hrc (show m' ≤ 3 by omega)
    refine (ct_find h hB g5 (by omega) (by omega) g3 g4).bind (fun r1 ⟨a1, o, a2, a3⟩ => ?_)
    have h1 := Core_Q h a1
    have fin : ok (f254 101 (iz m') (iz k) r1.1) (fun r2 => fr FU r1.1 r2.1 ∧ Core r2.1 b n pl red slip x W S st rc Rs ∧ ((o = none ∧ r2.2 = iz (-1)) ∨ ∃ c, o = some c ∧ r2.2 = iz (irn n red slip W S rc Rs x m' c))) := by
      unfold f254 f254_32
      rw [ifg_pos O_101]
      obtain ⟨v, v1, v2⟩ := mb_is (m := (m' : Int)) (k := k) (by omega) (by omega) (by omega) (by omega) h1
      rcases v2 with ⟨rfl, -⟩ | ⟨-, v2⟩
      · rw [v1]
        simp only [Option.bind_some]
        rw [iz0, it_eq_f (by omega) (by omega) (by omega) (by omega) (by omega)]
        refine (mo_find h1 g5 (by omega) (by omega) g3 g4).bind (fun r2 ⟨b1, b2, o', b3, b4⟩ => ?_)
        have := IsB_u b3 a2.2.2.2.1
        subst this
        rcases b4 with ⟨rfl, b4⟩ | ⟨c, rfl, b5, b6, b7⟩
        · rw [b4, it_le_f (by omega) (by omega) (by omega), ok_some]
          exact ⟨b1, b2, Or.inl ⟨rfl, izm1⟩⟩
        · rw [b6, it_le_t (by omega) (by omega) (by omega), ok_some]
          exact ⟨b1, b2, Or.inr ⟨c, rfl, b7⟩⟩
      · exact absurd ⟨g1, g2, g3, g4, g5⟩ v2
    rcases a3 with ⟨a3, c, rfl⟩ | ⟨a3, rfl⟩
    · rw [a3, iz0, it_eq_f (by omega) (by omega) (by omega) (by omega) (by omega), ok_some]
      refine fin.mono (fun r2 ⟨d1, d2, d3⟩ => ⟨?_, (a1.mono FQb_B).tr (d1.mono FU_B), d2, (a2.fr d1 FU_51 FU_55).I (by omega) (by omega) g3 g4⟩)
      rcases d3 with ⟨d3, -⟩ | ⟨c', d3, d4⟩
      · cases d3
      · cases d3
        rcases a2.2.2.2.2 with ⟨q, -⟩ | ⟨c', q, q2, -⟩
        · cases q
        · cases q
          rw [d4]
          exact q2.symm
    · rw [a3, iz0, it_eq_t rfl, ok_some]
      refine fin.mono (fun r2 ⟨d1, d2, d3⟩ => ⟨?_, (a1.mono FQb_B).tr (d1.mono FU_B), d2, (a2.fr d1 FU_51 FU_55).I (by omega) (by omega) g3 g4⟩)
      rcases d3 with ⟨-, d3⟩ | ⟨c', d3, d4⟩
      · rw [d3]; exact izm1.symm
      · cases d3
  · rw [ct_find0 m0 m1 k0 k1 h g]
    simp only [Option.bind_some]
    rw [iz0, it_eq_t rfl, ok_some]
    obtain ⟨v, v1, v2⟩ := mb_is m0 m1 k0 k1 h
    unfold f254
    rw [ifg_pos O_101, v1]
    rcases v2 with ⟨-, v2⟩ | ⟨rfl, -⟩
    · exact absurd v2 g
    · simp only [Option.bind_some]
      rw [iz0, it_eq_t rfl, ok_some]
      exact ⟨rfl, fr.rf _ _, h, hB⟩
set_option maxHeartbeats 400000 in
theorem c_bestRound (h : Core s b n pl red slip x W S st rc Rs) (hB : BeI s n pl red slip W S rc Rs x) {m k j : Int} (m0 : -2147483648 ≤ m) (m1 : m ≤ 2147483647) (k0 : -2147483648 ≤ k) (k1 : k ≤ 2147483647) (j0 : -2147483648 ≤ j) (j1 : j ≤ 2147483647) : ok (f145 0 (iz m) (iz k) (iz j) s) (fun r1 => ok (f255 101 (iz m) (iz k) (iz j) r1.1) (fun r2 => r2.2 = r1.2 ∧ fr FUB s r2.1 ∧ Core r2.1 b n pl red slip x W S st rc Rs ∧ BeI r2.1 n pl red slip W S rc Rs x)) := by
  have hrc := h.rc10
  by_cases g : 1 ≤ m ∧ m ≤ 3 ∧ 0 ≤ k ∧ k ≤ 999 ∧ 0 < rc
  · obtain ⟨g1, g2, g3, g4, g5⟩ := g
    obtain ⟨m', rfl⟩ : ∃ m' : Nat, m = m' := ⟨m.toNat, by omega⟩
    have p1 := pw_le hrc (show m' ≤ 3 by omega)
    by_cases q : 0 ≤ j ∧ j < m'
    · obtain ⟨j', rfl⟩ : ∃ j' : Nat, j = j' := ⟨j.toNat, by omega⟩
      unfold f145 f145_26
      rw [ifg_pos O_0]
      simp (disch := omega) only [R_0_9, iz0, iz1, iz2, iz3, iz4, iz5, iz7, iz8, iz9, iz10, iz15, iz20, iz25, iz30, iz40, iz49, iz99, iz100, iz300, iz343, iz500, iz999, iz1000, iz1200, iz_add, iz_sub, iz_mul, iz_neg, it_le_t, it_le_f, it_lt_t, it_lt_f, it_eq_t, it_eq_f, bz0, bz1, ifg_T, or_true, true_or, if_true, if_false, Option.bind_some, Option.map_some]
      refine (ct_find h hB g5 (by omega) (by omega) g3 g4).bind (fun r1 ⟨a1, o, a2, a3⟩ => ?_)
      have h1 := Core_Q h a1
      have fin : ok (f255 101 (iz m') (iz k) (iz j') r1.1) (fun r2 => fr FU r1.1 r2.1 ∧ Core r2.1 b n pl red slip x W S st rc Rs ∧ ((o = none ∧ r2.2 = iz (-1)) ∨ ∃ c, o = some c ∧ r2.2 = iz ((dg rc m' c j' : Nat) : Int))) := by
        unfold f255 f255_49
        rw [ifg_pos O_101]
        obtain ⟨v, v1, v2⟩ := mb_is (m := (m' : Int)) (k := k) (by omega) (by omega) (by omega) (by omega) h1
        rcases v2 with ⟨rfl, -⟩ | ⟨-, v2⟩
        · rw [v1]
          simp (disch := omega) only [iz0, iz1, iz2, iz3, iz4, iz5, iz7, iz8, iz9, iz10, iz15, iz20, iz25, iz30, iz40, iz49, iz99, iz100, iz300, iz343, iz500, iz999, iz1000, iz1200, iz_add, iz_sub, iz_mul, iz_neg, it_le_t, it_le_f, it_lt_t, it_lt_f, it_eq_t, it_eq_f, bz0, bz1, ifg_T, or_true, true_or, if_true, if_false, Option.bind_some, Option.map_some, g_in_t]
          refine (mo_find h1 g5 (by omega) (by omega) g3 g4).bind (fun r2 ⟨b1, b2, o', b3, b4⟩ => ?_)
          have := IsB_u b3 a2.2.2.2.1
          subst this
          rcases b4 with ⟨rfl, b4⟩ | ⟨c, rfl, b5, b6, b7⟩
          · rw [b4, it_le_f (by omega) (by omega) (by omega), ok_some]
            exact ⟨b1, b2, Or.inl ⟨rfl, izm1⟩⟩
          · rw [b6, it_le_t (by omega) (by omega) (by omega), mb_dig b2.2.1.2.2.2.2.2.2.2.1 g5 hrc (by omega) (by omega) b5]
            simp only [Option.bind_some, ok_some]
            exact ⟨b1, b2, Or.inr ⟨c, rfl, rfl⟩⟩
        · exact absurd ⟨g1, g2, g3, g4, g5⟩ v2
      rcases a3 with ⟨a3, c, rfl⟩ | ⟨a3, rfl⟩
      · rcases a2.2.2.2.2 with ⟨q0, -⟩ | ⟨c', q0, q2, q3⟩
        · cases q0
        · cases q0
          rw [a3, it_eq_f (by omega) (by omega) (by omega) (by omega) (by omega)]
          simp (disch := omega) only [R_0_9, R_51_7, A_55, iz0, iz1, iz2, iz3, iz4, iz5, iz7, iz8, iz9, iz10, iz15, iz20, iz25, iz30, iz40, iz49, iz99, iz100, iz300, iz343, iz500, iz999, iz1000, iz1200, iz_add, iz_sub, iz_mul, iz_neg, it_le_t, it_le_f, it_lt_t, it_lt_f, it_eq_t, it_eq_f, bz0, bz1, ifg_T, or_true, true_or, if_true, if_false, Option.bind_some, Option.map_some, iz_in, iz_n, nat_toNat, ok_some]
          refine fin.mono (fun r2 ⟨d1, d2, d3⟩ => ⟨?_, (a1.mono FQb_B).tr (d1.mono FU_B), d2, (a2.fr d1 FU_51 FU_55).I (by omega) (by omega) g3 g4⟩)
          rcases d3 with ⟨d3, -⟩ | ⟨c'', d3, d4⟩
          · cases d3
          · cases d3
            rw [d4]
            exact (q3 j' (by omega)).symm
      · rw [a3, it_eq_t rfl, ok_some]
        refine fin.mono (fun r2 ⟨d1, d2, d3⟩ => ⟨?_, (a1.mono FQb_B).tr (d1.mono FU_B), d2, (a2.fr d1 FU_51 FU_55).I (by omega) (by omega) g3 g4⟩)
        rcases d3 with ⟨-, d3⟩ | ⟨c', d3, d4⟩
        · rw [d3]
        · cases d3
    · have e1 : f145 0 (iz m') (iz k) (iz j) s = some (s, -1) := by
        unfold f145 f145_26
        rw [ifg_pos O_0]
        by_cases u : j < 0
        · rw [iz0, it_lt_t (by omega) (by omega) (by omega)]
        · rw [iz0, it_lt_f (by omega) (by omega) (by omega), it_le_t (by omega) (by omega) (by omega)]
      rw [e1, ok_some]
      obtain ⟨v, v1, v2⟩ := mb_is m0 m1 k0 k1 h
      unfold f255 f255_20
      rw [ifg_pos O_101, v1]
      rcases v2 with ⟨rfl, v2⟩ | ⟨-, v2⟩
      · simp (disch := omega) only [iz0, iz1, iz2, iz3, iz4, iz5, iz7, iz8, iz9, iz10, iz15, iz20, iz25, iz30, iz40, iz49, iz99, iz100, iz300, iz343, iz500, iz999, iz1000, iz1200, iz_add, iz_sub, iz_mul, iz_neg, it_le_t, it_le_f, it_lt_t, it_lt_f, it_eq_t, it_eq_f, bz0, bz1, ifg_T, or_true, true_or, if_true, if_false, Option.bind_some, Option.map_some, g_in_f, ok_some]
        exact ⟨trivial, fr.rf _ _, h, hB⟩
      · exact absurd ⟨g1, g2, g3, g4, g5⟩ v2
  · have e1 : f145 0 (iz m) (iz k) (iz j) s = some (s, -1) := by
      unfold f145 f145_26
      rw [ifg_pos O_0]
      by_cases u : j < 0
      · rw [iz0, it_lt_t (by omega) (by omega) (by omega)]
      · rw [iz0, it_lt_f (by omega) (by omega) (by omega)]
        by_cases u2 : m ≤ j
        · rw [it_le_t (by omega) (by omega) (by omega)]
        · rw [it_le_f (by omega) (by omega) (by omega), iz3]
          by_cases u3 : 3 ≤ j
          · rw [it_le_t (by omega) (by omega) (by omega)]
          · rw [it_le_f (by omega) (by omega) (by omega)]
            simp only [R_0_9, Option.bind_some]
            rw [ct_find0 m0 m1 k0 k1 h g]
            simp only [Option.bind_some, if_true]
    rw [e1, ok_some]
    obtain ⟨v, v1, v2⟩ := mb_is m0 m1 k0 k1 h
    unfold f255 f255_20
    rw [ifg_pos O_101, v1]
    rcases v2 with ⟨-, v2⟩ | ⟨rfl, -⟩
    · exact absurd v2 g
    · simp only [Option.bind_some]
      rw [iz0, it_eq_t rfl, ok_some]
      exact ⟨rfl, fr.rf _ _, h, hB⟩
end MBt
