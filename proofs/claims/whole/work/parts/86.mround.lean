/-! a round, at the model -/
def FD0 (id k : Nat) : Bool := FO id k || FS id k
theorem FO_D (id k : Nat) (h : FO id k = true) : FD0 id k = true := by unfold FD0; rw [h]; rfl
theorem FS_D (id k : Nat) (h : FS id k = true) : FD0 id k = true := by unfold FD0; rw [h, Bool.or_true]
theorem nb0 : vp_nar .boolean (iz 0) = iz 0 := by decide +kernel
theorem nb1 : vp_nar .boolean (iz 1) = iz 1 := by decide +kernel
/-- layDown, for what cells of both seem -/
theorem mo_down {s : xS} {b : Nat} {N : Int32} {n : Nat} (hn : Mn s b N n) {t p q : Nat} {u v : Int} (hL : Ly n t u v) {A B : Nat → Int} (hA : ∀ w, fr FO s w → ∀ c, c < n * n → f202 101 (iz p) (iz c) w = some (w, iz (A c))) (hB : ∀ w, fr FO s w → ∀ c, c < n * n → f202 101 (iz q) (iz c) w = some (w, iz (B c))) (bA : ∀ c, c < n * n → -2500 ≤ A c ∧ A c ≤ 2500) (bB : ∀ c, c < n * n → -2500 ≤ B c ∧ B c ≤ 2500) :
    ok (f219 101 (iz p) (iz q) (iz t) (iz u) (iz v) s) (fun r => fr FD0 s r.1 ∧ MO r.1 n t u v ∧ MG r.1 n (dR n u v) (Zl A B n t u v)) := by
  unfold f219
  rw [ifg_pos O_101]
  refine (mo_layOn hn hL hA hB bA bB).bind (fun r1 ⟨a1, a2, a3⟩ => ?_)
  have hn1 : Mn r1.1 b N n := hn.fr a1 rfl (fun _ => rfl)
  obtain ⟨s', e1, e2, e3⟩ := mo_settle1 hn1 a3 hL.RC
  rw [e1]
  simp only [Option.bind_some, ok_some]
  exact ⟨(a1.mono FO_D).tr (e2.mono FS_D), a2.fr e2 (fun _ => rfl) rfl, e3⟩
theorem mo_downP {s : xS} {b : Nat} {N : Int32} {n pl : Nat} (hn : Mn s b N n) {t p q : Nat} {u v : Int} (hL : Ly n t u v) {H W S : Nat → Int} (h : MB s n pl H W S) (hb : Bd H W S) (hpl : pl ≤ 4) (hp : p < pl) (hq : q < pl) :
    ok (f219 101 (iz p) (iz q) (iz t) (iz u) (iz v) s) (fun r => fr FD0 s r.1 ∧ MO r.1 n t u v ∧ MG r.1 n (dR n u v) (Zl (sm H W S p) (sm H W S q) n t u v)) := by
  have sq := hn.sq25
  have key : ∀ p : Nat, p < pl → ∀ w, fr FO s w → ∀ c, c < n * n → f202 101 (iz p) (iz c) w = some (w, iz (sm H W S p c)) := fun p hp w hw c hc => mo_seem (hn.fr hw rfl (fun _ => rfl)) (h.fr hw (fun _ => rfl) (fun _ => rfl) (fun _ => rfl) (fun _ => rfl) (fun _ => rfl)) hp hpl hc
  have kb : ∀ p : Nat, p < pl → ∀ c, c < n * n → -2500 ≤ sm H W S p c ∧ sm H W S p c ≤ 2500 := fun p hp c hc => by have := Bd_sm hb (show p < 4 by omega) (show c < 25 by omega); omega
  exact mo_down hn hL (key p hp) (key q hq) (kb p hp) (kb q hq)
def MR (s : xS) (r : Nat) (R : Rn) : Prop := s.1 118 r = iz R.1 ∧ s.1 119 r = iz R.2.1 ∧ s.1 120 r = iz R.2.2.1 ∧ s.1 121 r = iz R.2.2.2.1 ∧ s.1 122 r = iz R.2.2.2.2.1 ∧ s.1 123 r = iz R.2.2.2.2.2.1 ∧ s.1 124 r = iz R.2.2.2.2.2.2
theorem MR.fr {F : Nat → Nat → Bool} {s s' : xS} {r : Nat} {R : Rn} (h : MR s r R) (hf : fr F s s') (h1 : F 118 r = false) (h2 : F 119 r = false) (h3 : F 120 r = false) (h4 : F 121 r = false) (h5 : F 122 r = false) (h6 : F 123 r = false) (h7 : F 124 r = false) : MR s' r R := by
  unfold MR
  rw [hf.i _ _ h1, hf.i _ _ h2, hf.i _ _ h3, hf.i _ _ h4, hf.i _ _ h5, hf.i _ _ h6, hf.i _ _ h7]
  exact h
def FF (id k : Nat) : Bool := FD0 id k || id == 127
theorem FD_F (id k : Nat) (h : FD0 id k = true) : FF id k = true := by unfold FF; rw [h]; rfl
theorem MG.fr {F : Nat → Nat → Bool} {s s' : xS} {n : Nat} {d : Nat → Bool} {Z : Nat → Int} (h : MG s n d Z) (hf : fr F s s') (h1 : ∀ k, F 125 k = false) (h2 : ∀ k, F 126 k = false) (h3 : F 101 42 = false) (h4 : F 101 43 = false) (h5 : F 101 44 = false) (h6 : F 101 45 = false) : MG s' n d Z := by
  obtain ⟨g1, i, j, k, g2, g3, g4, g5, g6⟩ := h
  exact ⟨g1.fr hf h1 h2, i, j, k, g2, by rw [hf.i _ _ h3]; exact g3, by rw [hf.l _ _ h4]; exact g4, by rw [hf.l _ _ h5]; exact g5, by rw [hf.l _ _ h6]; exact g6⟩
set_option maxHeartbeats 1000000 in
theorem mo_findRed {s : xS} {b : Nat} {N : Int32} {n pl : Nat} (hn : Mn s b N n) {H W S : Nat → Int} (h : MB s n pl H W S) (hb : Bd H W S) {R : Rn} (hv : Rv pl n R) (hpl : pl ≤ 4) {r : Nat} (hr : r < 20) (hR : MR s r R) {red : Int} (hred : s.1 106 b = iz red) (r0 : 0 ≤ red) (r20 : red ≤ 20) :
    ok (f227 101 (iz r) s) (fun o => fr FF s o.1 ∧ ∀ c, c < n * n → o.1.1 127 c = if rS n red W S R H c = true then iz 1 else iz 0) := by
  obtain ⟨v1, v2, v3, v4, v5, v6, v7⟩ := hv
  have hR0 := hR
  obtain ⟨q0, q1, q2, q3, q4, q5, q6⟩ := hR0
  have sq := hn.sq25
  unfold f227
  rw [ifg_pos O_101]
  simp (disch := omega) only [R_101_30, R_101_31, R_101_32, R_101_33, R_101_34, R_101_35, A_118, A_119, A_120, A_121, A_122, A_123, iz0, iz1, iz2, iz3, iz4, iz5, iz7, iz8, iz9, iz10, iz15, iz20, iz25, iz30, iz40, iz49, iz99, iz100, iz300, iz343, iz500, iz999, iz1000, iz1200, iz_add, iz_sub, iz_mul, iz_neg, it_le_t, it_le_f, it_lt_t, it_lt_f, it_eq_t, it_eq_f, bz0, bz1, ifg_T, or_true, true_or, if_true, if_false, Option.bind_some, Option.map_some, iz_in, iz_n, nat_toNat, q0, q1, q2, q3, q4]
  refine (mo_downP hn v4 h hb (p := R.2.1) (q := R.1) hpl (by omega) (by omega)).bind (fun r1 ⟨a1, a2, a3⟩ => ?_)
  have hR1 : MR r1.1 r R := hR.fr a1 rfl rfl rfl rfl rfl rfl rfl
  obtain ⟨p0, p1, p2, p3, p4, p5, p6⟩ := hR1
  rw [p0, p5]
  have hn1 : Mn r1.1 b N n := hn.fr a1 rfl (fun _ => rfl)
  have red1 : r1.1.1 106 b = iz red := by rw [a1.i 106 b rfl]; exact hred
  have main : ∀ (top : Bool) (y : Int), (y = if top = true then 1 else 0) → ok (f227_54 101 (iz y) r1.1) (fun o => fr FF s o.1 ∧ ∀ c, c < n * n → o.1.1 127 c = if toS n R.2.2.1 R.2.2.2.1 R.2.2.2.2.1 (Zl (sm H W S R.2.1) (sm H W S R.1) n R.2.2.1 R.2.2.2.1 R.2.2.2.2.1) red top c = true then iz 1 else iz 0) := by
    intro top y hy
    unfold f227_54
    simp only [iz0]
    have f127 : fr FF s r1.1 := a1.mono FD_F
    refine forz (fun c w => fr FF s w ∧ fr (fun a _ => a == 127) r1.1 w ∧ ∀ e, e < c → w.1 127 e = iz 0) 0 25 (by omega) (by omega) ⟨f127, fr.rf _ _, fun e he => by omega⟩ (fun c w _ hc ⟨h1, h2, h3⟩ => ?_) (fun w ⟨h1, h2, h3⟩ => ?_)
    · unfold f227_57
      simp (disch := omega) only [R_101_49, W_127, iz0, iz1, iz2, iz3, iz4, iz5, iz7, iz8, iz9, iz10, iz15, iz20, iz25, iz30, iz40, iz49, iz99, iz100, iz300, iz343, iz500, iz999, iz1000, iz1200, iz_add, iz_sub, iz_mul, iz_neg, it_le_t, it_le_f, it_lt_t, it_lt_f, it_eq_t, it_eq_f, bz0, bz1, ifg_T, or_true, true_or, if_true, if_false, Option.bind_some, Option.map_some, iz_in, iz_n, nat_toNat, nb0, ok_some, ok_map, lp_l, lp_r, lpA_l, lpA_r, true_and]
      refine ⟨h1.ui rfl, h2.ui rfl, fun e he => ?_⟩
      by_cases q : e = c
      · rw [q, up_eq]
      · rw [up_ix _ _ q]; exact h3 e (by omega)
    · unfold f227_57
      simp (disch := omega) only [iz0, iz1, iz2, iz3, iz4, iz5, iz7, iz8, iz9, iz10, iz15, iz20, iz25, iz30, iz40, iz49, iz99, iz100, iz300, iz343, iz500, iz999, iz1000, iz1200, iz_add, iz_sub, iz_mul, iz_neg, it_le_t, it_le_f, it_lt_t, it_lt_f, it_eq_t, it_eq_f, bz0, bz1, ifg_T, or_true, true_or, if_true, if_false, Option.bind_some, Option.map_some, ok_some, ok_map, lp_l, lp_r, lpA_l, lpA_r, true_and]
      refine forz (fun c w => fr FF s w ∧ fr (fun a _ => a == 127) r1.1 w ∧ ∀ e, e < n * n → (w.1 127 e = iz 1 ∧ ∃ g, g < c ∧ rd n (Zl (sm H W S R.2.1) (sm H W S R.1) n R.2.2.1 R.2.2.2.1 R.2.2.2.2.1) (dR n R.2.2.2.1 R.2.2.2.2.1) red g = true ∧ (if top = true then ov n R.2.2.1 R.2.2.2.1 R.2.2.2.2.1 g else g) = e) ∨ (w.1 127 e = iz 0 ∧ ¬ ∃ g, g < c ∧ rd n (Zl (sm H W S R.2.1) (sm H W S R.1) n R.2.2.1 R.2.2.2.1 R.2.2.2.2.1) (dR n R.2.2.2.1 R.2.2.2.2.1) red g = true ∧ (if top = true then ov n R.2.2.1 R.2.2.2.1 R.2.2.2.2.1 g else g) = e)) 0 (n * n) (by omega) (by omega) ⟨h1, h2, fun e he => Or.inr ⟨h3 e (by omega), fun ⟨g, hg, _⟩ => by omega⟩⟩ (fun c w _ hc ⟨h1, h2, h3⟩ => ?_) (fun w ⟨h1, h2, h3⟩ => ?_)
      · have hnw : Mn w b N n := hn1.fr h2 rfl (fun _ => rfl)
        have hgw := a3.fr h2 (fun _ => rfl) (fun _ => rfl) rfl rfl rfl rfl
        have hred2 := mo_red hnw hgw v4.RC (show w.1 106 b = iz red by rw [h2.i 106 b rfl]; exact red1) r0 r20 hc
        have hMw := a2.fr h2 (fun _ => rfl) rfl
        by_cases q : rd n (Zl (sm H W S R.2.1) (sm H W S R.1) n R.2.2.1 R.2.2.2.1 R.2.2.2.2.1) (dR n R.2.2.2.1 R.2.2.2.2.1) red c = true
        · have hd : dR n R.2.2.2.1 R.2.2.2.2.1 c = true := by unfold rd at q; rw [Bool.and_eq_true] at q; exact q.1
          have ho := (v4.all hc).2.1
          have hoc := hMw.1 c hc
          rw [if_pos hd] at hoc
          rw [if_pos q] at hred2
          obtain ⟨z, hz, hzn⟩ : ∃ z, z = (if top = true then ov n R.2.2.1 R.2.2.2.1 R.2.2.2.2.1 c else c) ∧ z < n * n := ⟨_, rfl, by split <;> omega⟩
          have red3 : f227_78 101 (iz y) (iz c) w = (wB w 127 (iz z) (iz 1)).bind fun t1 => some (Sum.inl (iz ((c : Int) + 1), t1)) := by
            unfold f227_78 f227_112 f227_114
            simp (disch := omega) only [hnw.zc, iz0, iz1, iz2, iz3, iz4, iz5, iz7, iz8, iz9, iz10, iz15, iz20, iz25, iz30, iz40, iz49, iz99, iz100, iz300, iz343, iz500, iz999, iz1000, iz1200, iz_add, iz_sub, iz_mul, iz_neg, it_le_t, it_le_f, it_lt_t, it_lt_f, it_eq_t, it_eq_f, bz0, bz1, ifg_T, or_true, true_or, if_true, if_false, Option.bind_some, Option.map_some, hred2, R_101_49]
            cases top with
            | true =>
              rw [if_pos rfl] at hy hz
              subst hy hz
              simp (disch := omega) only [iz0, iz1, iz2, iz3, iz4, iz5, iz7, iz8, iz9, iz10, iz15, iz20, iz25, iz30, iz40, iz49, iz99, iz100, iz300, iz343, iz500, iz999, iz1000, iz1200, iz_add, iz_sub, iz_mul, iz_neg, it_le_t, it_le_f, it_lt_t, it_lt_f, it_eq_t, it_eq_f, bz0, bz1, ifg_T, or_true, true_or, if_true, if_false, Option.bind_some, Option.map_some, iz_in, iz_n, nat_toNat, R_101_39, A_125, hoc]
            | false =>
              rw [if_neg (by decide)] at hy hz
              subst hy hz
              simp (disch := omega) only [iz0, iz1, iz2, iz3, iz4, iz5, iz7, iz8, iz9, iz10, iz15, iz20, iz25, iz30, iz40, iz49, iz99, iz100, iz300, iz343, iz500, iz999, iz1000, iz1200, iz_add, iz_sub, iz_mul, iz_neg, it_le_t, it_le_f, it_lt_t, it_lt_f, it_eq_t, it_eq_f, bz0, bz1, ifg_T, or_true, true_or, if_true, if_false, Option.bind_some, Option.map_some]
          dsimp only
          rw [red3]
          simp (disch := omega) only [W_127, iz0, iz1, iz2, iz3, iz4, iz5, iz7, iz8, iz9, iz10, iz15, iz20, iz25, iz30, iz40, iz49, iz99, iz100, iz300, iz343, iz500, iz999, iz1000, iz1200, iz_add, iz_sub, iz_mul, iz_neg, it_le_t, it_le_f, it_lt_t, it_lt_f, it_eq_t, it_eq_f, bz0, bz1, ifg_T, or_true, true_or, if_true, if_false, Option.bind_some, Option.map_some, iz_in, iz_n, nat_toNat, nb1, ok_some, ok_map, lp_l, lp_r, lpA_l, lpA_r, true_and]
          refine ⟨h1.ui rfl, h2.ui rfl, fun e he => ?_⟩
          by_cases qe : e = z
          · left
            rw [qe, up_eq]
            exact ⟨rfl, c, by omega, q, hz.symm⟩
          · rw [up_ix _ _ qe]
            rcases h3 e he with ⟨g1, g, g2, g3, g4⟩ | ⟨g1, g2⟩
            · exact Or.inl ⟨g1, g, by omega, g3, g4⟩
            · refine Or.inr ⟨g1, fun ⟨g, k1, k2, k3⟩ => ?_⟩
              by_cases qg : g = c
              · subst qg; exact qe (by rw [← k3, hz])
              · exact g2 ⟨g, by omega, k2, k3⟩
        · rw [if_neg q] at hred2
          unfold f227_78 f227_114
          simp (disch := omega) only [hnw.zc, iz0, iz1, iz2, iz3, iz4, iz5, iz7, iz8, iz9, iz10, iz15, iz20, iz25, iz30, iz40, iz49, iz99, iz100, iz300, iz343, iz500, iz999, iz1000, iz1200, iz_add, iz_sub, iz_mul, iz_neg, it_le_t, it_le_f, it_lt_t, it_lt_f, it_eq_t, it_eq_f, bz0, bz1, ifg_T, or_true, true_or, if_true, if_false, Option.bind_some, Option.map_some, hred2, ok_some, ok_map, lp_l, lp_r, lpA_l, lpA_r, true_and]
          refine ⟨h1, h2, fun e he => ?_⟩
          rcases h3 e he with ⟨g1, g, g2, g3, g4⟩ | ⟨g1, g2⟩
          · exact Or.inl ⟨g1, g, by omega, g3, g4⟩
          · refine Or.inr ⟨g1, fun ⟨g, k1, k2, k3⟩ => ?_⟩
            by_cases qg : g = c
            · subst qg; exact q k2
            · exact g2 ⟨g, by omega, k2, k3⟩
      · have hnw : Mn w b N n := hn1.fr h2 rfl (fun _ => rfl)
        unfold f227_78
        simp (disch := omega) only [hnw.zc, iz0, iz1, iz2, iz3, iz4, iz5, iz7, iz8, iz9, iz10, iz15, iz20, iz25, iz30, iz40, iz49, iz99, iz100, iz300, iz343, iz500, iz999, iz1000, iz1200, iz_add, iz_sub, iz_mul, iz_neg, it_le_t, it_le_f, it_lt_t, it_lt_f, it_eq_t, it_eq_f, bz0, bz1, ifg_T, or_true, true_or, if_true, if_false, Option.bind_some, Option.map_some, ok_some, ok_map, lp_l, lp_r, lpA_l, lpA_r, true_and]
        refine ⟨h1, fun c hc => ?_⟩
        have hT := toS_iff (t := R.2.2.1) (u := R.2.2.2.1) (v := R.2.2.2.2.1) (Z := Zl (sm H W S R.2.1) (sm H W S R.1) n R.2.2.1 R.2.2.2.1 R.2.2.2.2.1) (red := red) (top := top) hc
        rcases h3 c hc with ⟨g1, g2⟩ | ⟨g1, g2⟩
        · rw [g1, if_pos (hT.mpr g2)]
        · rw [g1, if_neg (fun q => g2 (hT.mp q))]
  unfold rS rZ
  by_cases q : R.2.2.2.2.2.1 = R.1
  · rw [it_eq_t (by rw [q]), show (R.2.2.2.2.2.1 == R.1) = true by rw [beq_iff_eq]; exact q]
    exact main true 1 rfl
  · rw [it_eq_f (by omega) (by omega) (by omega) (by omega) (by omega), show (R.2.2.2.2.2.1 == R.1) = false by rw [beq_eq_false_iff_ne]; exact q]
    exact main false 0 rfl
