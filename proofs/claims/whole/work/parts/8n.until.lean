/-! until, both sides -/
section UM
variable {s : xS} {b n pl : Nat} {red slip : Int} {x : sS} {W S : Nat → Int} {st : Int32} {rc : Nat} {Rs : Nat → Rn}
theorem FW_bx (r : Nat) : (FW 132 r = false ∧ FW 133 r = false ∧ FW 134 r = false) ∧ (∀ k, k < 100 → FW 130 (100 * r + k) = false ∧ FW 131 (100 * r + k) = false) ∧ (∀ k, k < 15 → FW 135 (15 * r + k) = false) ∧ (∀ k, k < 5 → FW 136 (5 * r + k) = false ∧ FW 137 (5 * r + k) = false) := ⟨⟨rfl, rfl, rfl⟩, fun _ _ => ⟨rfl, rfl⟩, fun _ _ => rfl, fun _ _ => ⟨rfl, rfl⟩⟩
theorem FD_W (id k : Nat) (h : FD0 id k = true) : FW id k = true := FF_W id k (FD_F id k h)
theorem KC_U {s' : xS} (h : KC s n pl red slip x W S st rc Rs) (hrc : rc ≤ 10) (h1 : fr FW s s') : KC s' n pl red slip x W S st rc Rs := KC_W h h1 hrc
theorem FG_le (id k : Nat) (h : id ≤ 36) : FG id k = false := by
  unfold FG
  rw [show (id == 113) = false by rw [beq_eq_false_iff_ne]; omega, show (id == 114) = false by rw [beq_eq_false_iff_ne]; omega, show (id == 115) = false by rw [beq_eq_false_iff_ne]; omega, show (id == 116) = false by rw [beq_eq_false_iff_ne]; omega, show (id == 117) = false by rw [beq_eq_false_iff_ne]; omega, show (id == 101) = false by rw [beq_eq_false_iff_ne]; omega]
  rfl
theorem mo_until (h : Core s b n pl red slip x W S st rc Rs) (h0 : 0 < rc) {k : Int} (k0 : 0 ≤ k) (k9 : k ≤ 999) : ok (f247 101 (iz k) s) (fun r => fr FU s r.1 ∧ Core r.1 b n pl red slip x W S st rc Rs ∧ unt n pl red slip x W S st rc Rs k r.2) := by
  have hpl := h.p4
  have hrc := h.rc10
  have hV := h.2.2
  have sq := h.cn.sq
  have m37 := h.2.1.2.2.2.2.2.2.2.1
  unfold f247
  rw [ifg_pos O_101]
  simp (disch := omega) only [iz0, iz1, iz2, iz3, iz4, iz5, iz7, iz8, iz9, iz10, iz15, iz20, iz25, iz30, iz40, iz49, iz99, iz100, iz300, iz343, iz500, iz999, iz1000, iz1200, iz_add, iz_sub, iz_mul, iz_neg, it_le_t, it_le_f, it_lt_t, it_lt_f, it_eq_t, it_eq_f, bz0, bz1, ifg_T, or_true, true_or, if_true, if_false, Option.bind_some, Option.map_some, g_in_t, m37]
  refine (mo_keep h.2.1 (q := 3) (by omega) hpl).bind (fun t1 ⟨a1, a2, a3⟩ => ?_)
  have h1 := Core_scr h (a1.mono FK3_z)
  refine (mo_isFlatM h1.2.1 hV k0 k9).bind (fun t2 ⟨b1, b2⟩ => ?_)
  -- the loop
  have hw := whl_rule (body := fun q : (Int32 × Int32 × xS) => f247_33 101 (iz k) q.1 q.2.1 q.2.2) (fun q => ∃ j : Nat, j ≤ 300 ∧ q.1 = iz j ∧ fr FW t1.1 q.2.2 ∧ KM q.2.2 b n pl red slip (itR n red slip W S rc Rs j (x, st)).1 W S (itR n red slip W S rc Rs j (x, st)).2 rc Rs ∧ (∀ i, i < j → ¬ flA n pl (itR n red slip W S rc Rs i (x, st)).1.1 k) ∧ ((q.2.1 = iz 1 ∧ flA n pl (itR n red slip W S rc Rs j (x, st)).1.1 k) ∨ (q.2.1 = iz 0 ∧ ¬ flA n pl (itR n red slip W S rc Rs j (x, st)).1.1 k))) (fun q => 300 - q.1.toInt.toNat)
    (fun r : xS × Int32 => fr FU s r.1 ∧ Core r.1 b n pl red slip x W S st rc Rs ∧ unt n pl red slip x W S st rc Rs k r.2) ?_ (iz 0, t2.2, t2.1) ⟨0, by omega, rfl, b1.mono FD_W, KM_scr h1.2.1 (b1.mono FD0_z) hrc, fun i hi => by omega, b2⟩
  · obtain ⟨r, e1, e2⟩ := hw
    exact ⟨r, e1, e2⟩
  · rintro ⟨q1, q2, w⟩ ⟨j, j1, j2, j3, j4, j5, j6⟩
    dsimp only at j2 j3 j4 j5 j6 ⊢
    subst j2
    have fin : ∀ v, unt n pl red slip x W S st rc Rs k v → ok (f246 101 (iz 3) w) (fun r => fr FU s r.1 ∧ Core r.1 b n pl red slip x W S st rc Rs) := by
      intro v _
      obtain ⟨x1, x2, x3, x4⟩ := FW_bx 3
      refine (mo_bring j4 (q := 3) (by omega) (a2.fr j3 x1 x2 x3 x4)).mono (fun r ⟨d1, d2⟩ => ?_)
      refine ⟨((a1.mono (fun id k hk => Fz_U id k (FK3_z id k hk))).tr (j3.mono FW_U)).tr (d1.mono FG_U), KC_i (KC_W h1.1 j3 hrc) d1 hrc (fun id k hi => FG_le id k hi), d2, hV⟩
    unfold f247_33
    rcases j6 with ⟨rfl, g3⟩ | ⟨rfl, g3⟩
    · right
      rw [iz0, it_eq_f (by omega) (by omega) (by omega) (by omega) (by omega)]
      have hu : unt n pl red slip x W S st rc Rs k (iz j) := Or.inl ⟨j, j1, rfl, g3, j5⟩
      obtain ⟨r, e1, e2⟩ := fin _ hu
      refine ⟨(r.1, iz j), ?_, e2.1, e2.2, hu⟩
      unfold f247_78 f247_92
      rw [iz3, e1]
      simp only [Option.bind_some]
      rw [iz0, it_eq_f (by omega) (by omega) (by omega) (by omega) (by omega)]
      rfl
    · rw [iz0, it_eq_t rfl, iz300]
      by_cases e300 : j = 300
      · right
        subst e300
        have hu : unt n pl red slip x W S st rc Rs k (iz (-1)) := Or.inr ⟨rfl, fun i hi => by
          by_cases q : i = 300
          · rw [q]; exact g3
          · exact j5 i (by omega)⟩
        obtain ⟨r, e1, e2⟩ := fin _ hu
        refine ⟨(r.1, iz (-1)), ?_, e2.1, e2.2, hu⟩
        rw [it_le_t (by omega) (by omega) (by omega)]
        unfold f247_78 f247_92
        rw [iz3, e1]
        simp only [Option.bind_some]
        rw [iz0, it_eq_t rfl]
        rfl
      · left
        have hjr : j % rc < rc := Nat.mod_lt _ h0
        have m38 := j4.2.2.2.2.2.2.2.1
        rw [it_le_f (by omega) (by omega) (by omega), m38, nz' (by omega) (by omega) (by omega), iz_remN (by omega) (by omega) (by omega)]
        have hVj := KV_it hV h0 st j
        have step : ok ((f228 101 (iz ((j % rc : Nat) : Int)) w).bind fun z4 => if iz 0 ≤ z4.2 then f247_67 101 (iz k) 1 (iz j) z4.1 else f247_67 101 (iz k) (iz 0) (iz j) z4.1) (fun r => ∃ s', r = .inl s' ∧ s'.1 = iz ((j + 1 : Nat) : Int) ∧ fr FW t1.1 s'.2.2 ∧ KM s'.2.2 b n pl red slip (itR n red slip W S rc Rs (j + 1) (x, st)).1 W S (itR n red slip W S rc Rs (j + 1) (x, st)).2 rc Rs ∧ ((s'.2.1 = iz 1 ∧ flA n pl (itR n red slip W S rc Rs (j + 1) (x, st)).1.1 k) ∨ (s'.2.1 = iz 0 ∧ ¬ flA n pl (itR n red slip W S rc Rs (j + 1) (x, st)).1.1 k))) := by
          refine (KM_round j4 hVj hjr).bind (fun q ⟨d1, d2, d3⟩ => ?_)
          have hcn : (dRd n red slip W S (Rs (j % rc)) (itR n red slip W S rc Rs j (x, st)).1).2 ≤ n * n := scr_n _
          rw [d3, it_le_t (by omega) (by omega) (by omega)]
          unfold f247_67
          refine (mo_isFlatM d2 (KV_it hV h0 st (j + 1)) k0 k9).bind (fun q2 ⟨l1, l2⟩ => ?_)
          rw [ok_some]
          exact ⟨_, rfl, by dsimp only; rw [iz1, iz_add]; rfl, (j3.tr d1).tr (l1.mono FD_W), KM_scr d2 (l1.mono FD0_z) hrc, l2⟩
        obtain ⟨r, e1, s', rfl, e3, e4, e5, e6⟩ := step
        refine ⟨s', e1, ⟨j + 1, by omega, e3, e4, e5, fun i hi => ?_, e6⟩, ?_⟩
        · by_cases q : i = j
          · rw [q]; exact g3
          · exact j5 i (by omega)
        · rw [e3, iz_t (by omega) (by omega), iz_t (by omega) (by omega)]
          omega
theorem c_until (h : Core s b n pl red slip x W S st rc Rs) {k : Int} (k0 : -2147483648 ≤ k) (k1 : k ≤ 2147483647) : ok (f143 0 (iz k) s) (fun r1 => ok (f247 101 (iz k) r1.1) (fun r2 => r2.2 = r1.2 ∧ fr FU s r2.1 ∧ Core r2.1 b n pl red slip x W S st rc Rs)) := by
  have hrc := h.rc10
  have c9 := h.1.2.2.2.2.2.2.2.1
  have m37 := h.2.1.2.2.2.2.2.2.2.1
  unfold f143 f143_17
  rw [ifg_pos O_0]
  by_cases g : 0 ≤ k ∧ k ≤ 999
  · by_cases g0 : rc = 0
    · subst g0
      simp (disch := omega) only [R_0_3, R_0_9, iz0, iz1, iz2, iz3, iz4, iz5, iz7, iz8, iz9, iz10, iz15, iz20, iz25, iz30, iz40, iz49, iz99, iz100, iz300, iz343, iz500, iz999, iz1000, iz1200, iz_add, iz_sub, iz_mul, iz_neg, it_le_t, it_le_f, it_lt_t, it_lt_f, it_eq_t, it_eq_f, bz0, bz1, ifg_T, or_true, true_or, if_true, if_false, Option.bind_some, Option.map_some, g_off_t, c9, ok_some]
      unfold f247 f247_18
      rw [ifg_pos O_101]
      simp (disch := omega) only [iz0, iz1, iz2, iz3, iz4, iz5, iz7, iz8, iz9, iz10, iz15, iz20, iz25, iz30, iz40, iz49, iz99, iz100, iz300, iz343, iz500, iz999, iz1000, iz1200, iz_add, iz_sub, iz_mul, iz_neg, it_le_t, it_le_f, it_lt_t, it_lt_f, it_eq_t, it_eq_f, bz0, bz1, ifg_T, or_true, true_or, if_true, if_false, Option.bind_some, Option.map_some, g_in_t, m37, ok_some, true_and]
      exact ⟨fr.rf _ _, h⟩
    · simp (disch := omega) only [R_0_3, R_0_9, iz0, iz1, iz2, iz3, iz4, iz5, iz7, iz8, iz9, iz10, iz15, iz20, iz25, iz30, iz40, iz49, iz99, iz100, iz300, iz343, iz500, iz999, iz1000, iz1200, iz_add, iz_sub, iz_mul, iz_neg, it_le_t, it_le_f, it_lt_t, it_lt_f, it_eq_t, it_eq_f, bz0, bz1, ifg_T, or_true, true_or, if_true, if_false, Option.bind_some, Option.map_some, g_off_t, c9]
      refine (cl_until h (by omega) g.1 g.2).bind (fun r1 ⟨a1, a2⟩ => ?_)
      rw [ok_some]
      refine (mo_until (Core_scr h a1) (by omega) g.1 g.2).mono (fun r2 ⟨b1, b2, b3⟩ => ⟨unt_u b3 a2, (a1.mono Fz_U).tr b1, b2⟩)
  · simp (disch := omega) only [iz0, iz1, iz2, iz3, iz4, iz5, iz7, iz8, iz9, iz10, iz15, iz20, iz25, iz30, iz40, iz49, iz99, iz100, iz300, iz343, iz500, iz999, iz1000, iz1200, iz_add, iz_sub, iz_mul, iz_neg, it_le_t, it_le_f, it_lt_t, it_lt_f, it_eq_t, it_eq_f, bz0, bz1, ifg_T, or_true, true_or, if_true, if_false, Option.bind_some, Option.map_some, g_off_f, ok_some]
    unfold f247 f247_18
    rw [ifg_pos O_101]
    simp (disch := omega) only [iz0, iz1, iz2, iz3, iz4, iz5, iz7, iz8, iz9, iz10, iz15, iz20, iz25, iz30, iz40, iz49, iz99, iz100, iz300, iz343, iz500, iz999, iz1000, iz1200, iz_add, iz_sub, iz_mul, iz_neg, it_le_t, it_le_f, it_lt_t, it_lt_f, it_eq_t, it_eq_f, bz0, bz1, ifg_T, or_true, true_or, if_true, if_false, Option.bind_some, Option.map_some, g_in_f, ok_some, true_and]
    exact ⟨fr.rf _ _, h⟩
end UM
