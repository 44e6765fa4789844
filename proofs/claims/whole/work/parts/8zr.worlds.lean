/-! worlds: their heights, the cells red on them -/
theorem mbs {A B x y : Int} (h1 : -A ≤ x) (h2 : x ≤ A) (h3 : -B ≤ y) (h4 : y ≤ B) : -(A * B) ≤ x * y ∧ x * y ≤ A * B := by
  have a1 := Int.mul_nonneg (show 0 ≤ A - x by omega) (show 0 ≤ B - y by omega)
  have a2 := Int.mul_nonneg (show 0 ≤ A + x by omega) (show 0 ≤ B + y by omega)
  have a3 := Int.mul_nonneg (show 0 ≤ A - x by omega) (show 0 ≤ B + y by omega)
  have a4 := Int.mul_nonneg (show 0 ≤ A + x by omega) (show 0 ≤ B - y by omega)
  simp only [Int.sub_mul, Int.mul_sub, Int.add_mul, Int.mul_add] at a1 a2 a3 a4
  constructor <;> omega
def wX (n c : Nat) : Int := 2 * mx n c - n + 1
def wY (n c : Nat) : Int := 2 * my n c - n + 1
/-- the height of cell c of world N -/
def wH (n N c : Nat) : Int := (((N / 49 : Nat) : Int) - 3) * wX n c * wX n c + (((N / 7 % 7 : Nat) : Int) - 3) * wX n c * wY n c + (((N % 7 : Nat) : Int) - 3) * wY n c * wY n c
theorem wH_b {n N c : Nat} (n3 : 3 ≤ n) (n5 : n ≤ 5) (hN : N < 343) (hc : c < n * n) : -144 ≤ wH n N c ∧ wH n N c ≤ 144 := by
  have b1 := mx_lt (n := n) (c := c) (by omega)
  have b2 := my_lt hc
  have x1 : -4 ≤ wX n c ∧ wX n c ≤ 4 := by unfold wX; omega
  have y1 : -4 ≤ wY n c ∧ wY n c ≤ 4 := by unfold wY; omega
  have p1 : -3 ≤ ((N / 49 : Nat) : Int) - 3 ∧ ((N / 49 : Nat) : Int) - 3 ≤ 3 := by omega
  have q1 : -3 ≤ ((N / 7 % 7 : Nat) : Int) - 3 ∧ ((N / 7 % 7 : Nat) : Int) - 3 ≤ 3 := by omega
  have r1 : -3 ≤ ((N % 7 : Nat) : Int) - 3 ∧ ((N % 7 : Nat) : Int) - 3 ≤ 3 := by omega
  have e1 := mbs p1.1 p1.2 x1.1 x1.2
  have e2 := mbs (A := 12) (by omega) (by omega) x1.1 x1.2 (x := (((N / 49 : Nat) : Int) - 3) * wX n c)
  have e3 := mbs q1.1 q1.2 x1.1 x1.2
  have e4 := mbs (A := 12) (by omega) (by omega) y1.1 y1.2 (x := (((N / 7 % 7 : Nat) : Int) - 3) * wX n c)
  have e5 := mbs r1.1 r1.2 y1.1 y1.2
  have e6 := mbs (A := 12) (by omega) (by omega) y1.1 y1.2 (x := (((N % 7 : Nat) : Int) - 3) * wY n c)
  unfold wH
  omega
theorem w_49 {N : Nat} (h : N < 343) : iz N / (49 : Int32) - 3 = iz (((N / 49 : Nat) : Int) - 3) := by
  rw [iz49, iz3, show iz (N : Int) / iz 49 = iz ((N / 49 : Nat) : Int) from iz_divN (b := 49) (by omega) (by omega) (by omega), iz_sub]
theorem w_7 {N : Nat} (h : N < 343) : irm (iz N / (7 : Int32)) 7 - 3 = iz (((N / 7 % 7 : Nat) : Int) - 3) := by
  rw [iz7, iz3, show iz (N : Int) / iz 7 = iz ((N / 7 : Nat) : Int) from iz_divN (b := 7) (by omega) (by omega) (by omega), show irm (iz ((N / 7 : Nat) : Int)) (iz 7) = iz ((N / 7 % 7 : Nat) : Int) from iz_remN (b := 7) (by omega) (by omega) (by omega), iz_sub]
theorem w_1 {N : Nat} (h : N < 343) : irm (iz N) (7 : Int32) - 3 = iz (((N % 7 : Nat) : Int) - 3) := by
  rw [iz7, iz3, show irm (iz (N : Int)) (iz 7) = iz ((N % 7 : Nat) : Int) from iz_remN (b := 7) (by omega) (by omega) (by omega), iz_sub]
/-- a set of cells as an int -/
def bOf (f : Nat → Bool) : Nat → Int32
  | 0 => 0
  | m + 1 => bOf f m ||| (if f m = true then (1 : Int32) <<< (iz m &&& 31) else 0)
theorem hb_bOf (f : Nat → Bool) (c : Nat) : ∀ m, m ≤ 32 → hb (bOf f m) c = (decide (c < m) && f c)
  | 0, _ => by
    show hb 0 c = _
    rw [hb_0]
    simp
  | m + 1, hm => by
    rw [bOf, hb_or, hb_bOf f c m (by omega)]
    by_cases q : f m = true
    · rw [if_pos q, hb_one (by omega)]
      by_cases e : c = m
      · subst e; simp [q]
      · have : decide (c < m + 1) = decide (c < m) := by congr 1; exact propext ⟨fun _ => by omega, fun _ => by omega⟩
        rw [this]
        simp [e]
    · rw [if_neg q, hb_0]
      by_cases e : c = m
      · subst e; simp [q]
      · have : decide (c < m + 1) = decide (c < m) := by congr 1; exact propext ⟨fun _ => by omega, fun _ => by omega⟩
        rw [this]
        simp
def FRw (id _k : Nat) : Bool := (Nat.ble 40 id && Nat.ble id 45) || id == 47
theorem FRw_L (id k : Nat) (h : FRw id k = true) : FL id k = true := by
  unfold FRw at h
  unfold FL
  rw [Bool.or_eq_true, Bool.and_eq_true, Nat.ble_eq, Nat.ble_eq, beq_iff_eq] at h
  rcases h with h | rfl
  · rw [bleT h.1, bleT (show id ≤ 50 by omega)]; rfl
  · rfl
theorem FP_Rw (id k : Nat) (h : FP id k = true) : FRw id k = true := by
  unfold FP at h
  simp only [Bool.or_eq_true, Bool.and_eq_true, beq_iff_eq] at h
  rcases h with ((⟨⟨rfl, -⟩, -⟩ | rfl) | rfl) | rfl <;> rfl
theorem Rz_frw {s s' : xS} (h : Rz s s') : fr FRw s s' := by
  intro id k hk
  have h1 : id ≠ 40 := fun e => by rw [e, show FRw 40 k = true from rfl] at hk; exact absurd hk (by decide)
  have h2 : id ≠ 44 := fun e => by rw [e, show FRw 44 k = true from rfl] at hk; exact absurd hk (by decide)
  have h3 : id ≠ 45 := fun e => by rw [e, show FRw 45 k = true from rfl] at hk; exact absurd hk (by decide)
  exact ⟨by rw [h.2.1 id h1 h2 h3], by rw [h.1]⟩
section CW
variable {s : xS} {n : Nat}
theorem cl_fill (hn : Cn s n) {N : Nat} (hN : N < 343) : ok (f115 72 (iz N) 47 s) (fun r => fr (F1 47) s r.1 ∧ ∀ c, c < n * n → r.1.1 47 c = iz (wH n N c)) := by
  have sq := hn.sq
  have n3 := hn.2.1
  have n5 := hn.2.2
  unfold f115
  rw [ifg_pos O_72, w_49 hN, w_7 hN, w_1 hN, iz0]
  refine forz (fun c w => fr (F1 47) s w ∧ ∀ e, e < c → w.1 47 e = iz (wH n N e)) 0 (n * n) (by omega) (by omega) ⟨fr.rf _ _, fun e he => by omega⟩ (fun c w _ hc ⟨h1, h2⟩ => ?_) (fun w ⟨h1, h2⟩ => ?_)
  · have hw : Cn w n := hn.fr h1 rfl
    dsimp only
    unfold f115_29
    simp (disch := omega) only [iz0, iz1, iz2, iz3, iz4, iz5, iz7, iz8, iz9, iz10, iz15, iz20, iz25, iz30, iz40, iz49, iz99, iz100, iz300, iz343, iz500, iz999, iz1000, iz1200, iz_add, iz_sub, iz_mul, iz_neg, it_le_t, it_le_f, it_lt_t, it_lt_f, it_eq_t, it_eq_f, bz0, bz1, ifg_T, or_true, true_or, if_true, if_false, Option.bind_some, Option.map_some, R_72_0, hw.cells, hw.1, nz', iz_mx, iz_my, W_47, iz_in, iz_n, nat_toNat, ok_some, ok_map, lp_l, lp_r, lpA_l, lpA_r, true_and]
    refine ⟨h1.ui rfl, fun e he => ?_⟩
    by_cases q : e = c
    · subst q
      rw [up_eq]
      rfl
    · rw [up_ix _ _ q]
      exact h2 e (by omega)
  · have hw : Cn w n := hn.fr h1 rfl
    dsimp only
    unfold f115_29
    simp (disch := omega) only [iz0, iz1, iz2, iz3, iz4, iz5, iz7, iz8, iz9, iz10, iz15, iz20, iz25, iz30, iz40, iz49, iz99, iz100, iz300, iz343, iz500, iz999, iz1000, iz1200, iz_add, iz_sub, iz_mul, iz_neg, it_le_t, it_le_f, it_lt_t, it_lt_f, it_eq_t, it_eq_f, bz0, bz1, ifg_T, or_true, true_or, if_true, if_false, Option.bind_some, Option.map_some, R_72_0, hw.cells, ok_some, ok_map, lp_l, lp_r, lpA_l, lpA_r, true_and]
    exact ⟨h1, h2⟩
theorem F1_47 (id k : Nat) (h : F1 47 id k = true) : FRw id k = true := by
  unfold F1 at h
  rw [beq_iff_eq] at h
  subst h
  rfl
theorem wZ_b {N t : Nat} {u v : Int} {A : Nat → Int} (hL : Ly n t u v) (hN : N < 343) (bA : ∀ c, c < n * n → -2500 ≤ A c ∧ A c ≤ 2500) : Zb n (dR n u v) (Zl A (wH n N) n t u v) := fun c hc _ => by
  have h1 := bA c hc
  have h2 := wH_b hL.1 hL.2.1 hN (hL.all hc).2.1
  unfold Zl
  omega
/-- the cells red under world N -/
noncomputable def wRd (n : Nat) (red : Int) (A : Nat → Int) (t : Nat) (u v : Int) (N : Nat) : Int32 := bOf (rd n (Zl A (wH n N) n t u v) (dR n u v) red) (n * n)
theorem cl_wreds (hn : Cn s n) {t : Nat} {u v : Int} (hL : Ly n t u v) (hM : CM s n t u v) {A : Nat → Int} (hA : ∀ c, c < n * n → s.1 46 c = iz (A c)) (bA : ∀ c, c < n * n → -2500 ≤ A c ∧ A c ≤ 2500) {red : Int} (h34 : s.1 3 4 = iz red) (r0 : 0 ≤ red) (r20 : red ≤ 20) {N : Nat} (hN : N < 343) :
    ok (f114 72 (iz N) s) (fun r => fr FRw s r.1 ∧ r.2 = wRd n red A t u v N) := by
  have sq := hn.sq
  have hZ := wZ_b hL hN bA
  unfold f114
  rw [ifg_pos O_72]
  simp only [R_72_2, R_39_3, R_39_1, R_39_5, Option.bind_some]
  refine (cl_fill hn hN).bind (fun r1 ⟨a1, a2⟩ => ?_)
  have f1 := a1.mono F1_47
  refine (cl_pairs (hn.fr a1 rfl) hL (hM.fr a1 rfl (fun _ => rfl) (fun _ => rfl)) (A := A) (B := wH n N) (fun c hc => by rw [a1.i _ _ rfl]; exact hA c hc) a2).bind (fun r2 ⟨b1, b2⟩ => ?_)
  have f2 := f1.tr (b1.mono FP_Rw)
  obtain ⟨s', D, G, c1, c2, c3⟩ := cl_settle hL.RC hZ b2
  rw [c1]
  simp only [Option.bind_some]
  have f3 := f2.tr (Rz_frw c2)
  have hM3 := hM.fr f3 rfl (fun _ => rfl) (fun _ => rfl)
  have hE := (GD_bd hL.RC hZ).1
  obtain ⟨x, e1, e2⟩ := cl_reds c3 sq (by rw [f3.i _ _ rfl]; exact h34) r0 r20 (a := 49) (Or.inl rfl) (e := fun k => en (dR n u v) (n * n) k) (fun k hk => ⟨(hM3.2 k hk).1, by have := (en_ok hk).1; omega⟩) hM3.1
  rw [e1]
  simp only [Option.bind_some, ok_some]
  refine ⟨f3, hb_ext (fun c hc => ?_)⟩
  unfold wRd
  rw [hb_bOf _ _ _ (by omega)]
  have h1 := (e2 c).trans (c3.reds hE red (fun e => e) c)
  rw [Bool.eq_iff_iff, h1, Bool.and_eq_true, decide_eq_true_eq]
  constructor
  · rintro ⟨e, g1, g2, rfl⟩
    exact ⟨g1, g2⟩
  · rintro ⟨g1, g2⟩
    exact ⟨c, g1, g2, rfl⟩
theorem cl_walone (hn : Cn s n) {N : Nat} (hN : N < 343) : ok (f115 72 (iz N) 47 s) (fun z => ok (f31 39 47 z.1) (fun z2 => ok (f49 40 z2.1) (fun y => fr FRw s y.1 ∧ ∃ D G, CG y.1 n (dR n 0 0) (wH n N) D G))) := by
  have sq := hn.sq
  have n3 := hn.2.1
  have n5 := hn.2.2
  refine (cl_fill hn hN).mono (fun r1 ⟨a1, a2⟩ => ?_)
  have hn1 : Cn r1.1 n := hn.fr a1 rfl
  have key : ok (f31 39 47 r1.1) (fun r => fr FP r1.1 r.1 ∧ CP r.1 n (dR n 0 0) (wH n N)) := by
    unfold f31
    rw [ifg_pos O_39, R_39_1, Option.bind_some]
    refine (cl_begin r1.1 n (fun j => j) (wH n N)).bind (fun r0 ⟨g1, g2⟩ => ?_)
    simp only [iz0]
    refine forz (fun k w => fr FP r1.1 w ∧ LPt w n (fun j => j) (wH n N) k) 0 (n * n) (by omega) (by omega) ⟨g1, g2⟩ (fun k w _ hk ⟨h1, h2⟩ => ?_) (fun w ⟨h1, h2⟩ => ?_)
    · have hnw : Cn w n := hn1.fr h1 rfl
      have e1 : w.1 47 k = iz (wH n N k) := by rw [h1.i _ _ rfl]; exact a2 k hk
      unfold f31_9
      simp (disch := omega) only [iz0, iz1, iz2, iz3, iz4, iz5, iz7, iz8, iz9, iz10, iz15, iz20, iz25, iz30, iz40, iz49, iz99, iz100, iz300, iz343, iz500, iz999, iz1000, iz1200, iz_add, iz_sub, iz_mul, iz_neg, it_le_t, it_le_f, it_lt_t, it_lt_f, it_eq_t, it_eq_f, bz0, bz1, ifg_T, or_true, true_or, if_true, if_false, Option.bind_some, Option.map_some, iz_in, iz_n, nat_toNat, R_39_0, R_39_1, hnw.cells, A_47, e1, hnw.1, nz', iz_mx, iz_my]
      refine (cl_add h2 (by omega) rfl rfl rfl).bind (fun r ⟨q1, q2⟩ => ?_)
      simp only [ok_some, ok_map, lp_l, lp_r, lpA_l, lpA_r, true_and]
      exact ⟨h1.tr q1, q2⟩
    · have hnw : Cn w n := hn1.fr h1 rfl
      unfold f31_9
      simp (disch := omega) only [iz0, iz1, iz2, iz3, iz4, iz5, iz7, iz8, iz9, iz10, iz15, iz20, iz25, iz30, iz40, iz49, iz99, iz100, iz300, iz343, iz500, iz999, iz1000, iz1200, iz_add, iz_sub, iz_mul, iz_neg, it_le_t, it_le_f, it_lt_t, it_lt_f, it_eq_t, it_eq_f, bz0, bz1, ifg_T, or_true, true_or, if_true, if_false, Option.bind_some, Option.map_some, R_39_0, hnw.cells, ok_some, ok_map, lp_l, lp_r, lpA_l, lpA_r, true_and]
      exact ⟨h1, h2.full⟩
  refine key.mono (fun r2 ⟨b1, b2⟩ => ?_)
  obtain ⟨s', D, G, c1, c2, c3⟩ := cl_settle (RC_at n3 n5 (by omega) (by omega) (by omega) (by omega)) (fun c hc _ => by have := wH_b n3 n5 hN hc; omega) b2
  exact ⟨(s', ()), c1, ((a1.mono F1_47).tr (b1.mono FP_Rw)).tr (Rz_frw c2), D, G, c3⟩
end CW
/-! the same at the model -/
def F4w (id k : Nat) : Bool := id == 113 && Nat.ble 100 k
theorem F4w_z (id k : Nat) (h : F4w id k = true) : Fz id k = true := by
  refine Fx_z id k ?_
  unfold F4w at h
  unfold Fx
  rw [h]
  simp only [Bool.or_true, Bool.true_or]
theorem F4w_t {k : Nat} (h : 100 ≤ k) : F4w 113 k = true := by
  unfold F4w
  rw [bleT h]
  rfl
theorem F4w_f {k : Nat} (h : k < 100) : F4w 113 k = false := by
  unfold F4w
  rw [ble_f h]
  rfl
section MW
variable {s : xS} {b n pl : Nat} {red slip : Int} {x : sS} {W S : Nat → Int} {st : Int32} {rc : Nat} {Rs : Nat → Rn}
def Wd (s : xS) (n N : Nat) : Prop := ∀ c, c < n * n → s.1 113 (100 + c) = iz (wH n N c)
theorem Wd.fr {F : Nat → Nat → Bool} {s' : xS} {N : Nat} (h : Wd s n N) (hf : fr F s s') (h1 : ∀ k, F 113 k = false) : Wd s' n N := fun c hc => by rw [hf.i _ _ (h1 _)]; exact h c hc
theorem mo_fill (hn : Mn s b (iz n) n) {N : Nat} (hN : N < 343) : ok (f264 101 (iz N) s) (fun r => fr F4w s r.1 ∧ Wd r.1 n N) := by
  have sq := hn.sq25
  have n3 := hn.2.2.2.2.1
  have n5 := hn.2.2.2.2.2
  unfold f264
  rw [ifg_pos O_101, w_49 hN, w_7 hN, w_1 hN, iz0]
  refine forz (fun c w => fr F4w s w ∧ ∀ e, e < c → w.1 113 (100 + e) = iz (wH n N e)) 0 (n * n) (by omega) (by omega) ⟨fr.rf _ _, fun e he => by omega⟩ (fun c w _ hc ⟨h1, h2⟩ => ?_) (fun w ⟨h1, h2⟩ => ?_)
  · have hw : Mn w b (iz n) n := hn.fr h1 rfl (fun _ => rfl)
    have e1 : ((100 : Int) + (c : Int)).toNat = 100 + c := by omega
    dsimp only
    unfold f264_28
    simp (disch := omega) only [iz0, iz1, iz2, iz3, iz4, iz5, iz7, iz8, iz9, iz10, iz15, iz20, iz25, iz30, iz40, iz49, iz99, iz100, iz300, iz343, iz500, iz999, iz1000, iz1200, iz_add, iz_sub, iz_mul, iz_neg, it_le_t, it_le_f, it_lt_t, it_lt_f, it_eq_t, it_eq_f, bz0, bz1, ifg_T, or_true, true_or, if_true, if_false, Option.bind_some, Option.map_some, hw.zc, hw.zn, R_101_20, nz', iz_mx, iz_my, W_113, iz_in, iz_n, nat_toNat, ok_some, ok_map, lp_l, lp_r, lpA_l, lpA_r, true_and, e1]
    refine ⟨h1.ui (F4w_t (by omega)), fun e he => ?_⟩
    by_cases q : e = c
    · subst q
      rw [up_eq]
      rfl
    · rw [up_ix _ _ (by omega)]
      exact h2 e (by omega)
  · have hw : Mn w b (iz n) n := hn.fr h1 rfl (fun _ => rfl)
    dsimp only
    unfold f264_28
    simp (disch := omega) only [iz0, iz1, iz2, iz3, iz4, iz5, iz7, iz8, iz9, iz10, iz15, iz20, iz25, iz30, iz40, iz49, iz99, iz100, iz300, iz343, iz500, iz999, iz1000, iz1200, iz_add, iz_sub, iz_mul, iz_neg, it_le_t, it_le_f, it_lt_t, it_lt_f, it_eq_t, it_eq_f, bz0, bz1, ifg_T, or_true, true_or, if_true, if_false, Option.bind_some, Option.map_some, hw.zc, ok_some, ok_map, lp_l, lp_r, lpA_l, lpA_r, true_and]
    exact ⟨h1, h2⟩
theorem mo_wseem {N : Nat} (hW : Wd s n N) (h14 : ∀ c, c < 25 → s.1 114 (100 + c) = iz 0) (h17 : s.1 117 4 = iz 0) (sq : n * n ≤ 25) {c : Nat} (hc : c < n * n) : f202 101 (iz 4) (iz c) s = some (s, iz (wH n N c)) := by
  have e1 := hW c hc
  have e2 := h14 c (by omega)
  have en : ((25 * 4 + (c : Int))).toNat = 100 + c := by omega
  have e4 : ((4 : Int)).toNat = 4 := rfl
  unfold f202 f202_48
  rw [ifg_pos O_101]
  simp (disch := omega) only [R_101_20, R_101_21, R_101_24, R_101_23, Option.bind_some, iz25, iz_mul, iz_add, A_113, A_114, A_117, A_116, iz_in, iz_n, if_true, en, e4, e1, e2]
  rw [h17, if_pos iz0.symm, iz0, iz_sub, Int.add_zero, Int.sub_zero]
theorem mo_wreds (h : KM s b n pl red slip x W S st rc Rs) (hV : KV n pl red slip x W S rc Rs) {p t N : Nat} {u v : Int} (hpp : p < pl) (hL : Ly n t u v) (hN : N < 343) (hW : Wd s n N) :
    ok (f265 101 (iz p) (iz t) (iz u) (iz v) s) (fun r => fr FD0 s r.1 ∧ r.2 = wRd n red (sm x.1 W S p) t u v N) := by
  have hn := h.1
  have sq := hn.sq25
  have hb : Bd x.1 W S := Hb.bd hV.2.2.2.2.2.2.2.1 hV.2.2.2.2.2.2.2.2.1
  have hpl := hV.2.2.1
  have hp : p < 4 := by omega
  unfold f265
  rw [ifg_pos O_101, iz4]
  refine (mo_down hn hL (p := p) (q := 4) (A := sm x.1 W S p) (B := wH n N) (fun w hw c hc => mo_seem (hn.fr hw rfl (fun _ => rfl)) (h.2.2.2.2.1.fr hw (fun _ => rfl) (fun _ => rfl) (fun _ => rfl) (fun _ => rfl) (fun _ => rfl)) hpp hpl hc) (fun w hw c hc => mo_wseem (hW.fr hw (fun _ => rfl)) (fun c hc => by rw [hw.i _ _ rfl]; exact h.2.2.2.2.2.2.2.2.2.1 c hc) (by rw [hw.i _ _ rfl]; exact h.2.2.2.2.2.2.2.2.2.2) sq hc) (fun c hc => by have := Bd_sm hb hp (show c < 25 by omega); omega) (fun c hc => by have := wH_b hL.1 hL.2.1 hN hc; omega)).bind (fun r1 ⟨a1, a2, a3⟩ => ?_)
  have hn1 : Mn r1.1 b (iz n) n := hn.fr a1 rfl (fun _ => rfl)
  have h6 : r1.1.1 106 b = iz red := by rw [a1.i _ _ rfl]; exact h.2.2.1
  rw [show ((0 : Int32), (0 : Int32), r1.1) = ((0 : Int32), iz ((0 : Nat) : Int), r1.1) from rfl]
  refine forzA (A := Int32) (fun c w y => y = r1.1 ∧ w = bOf (rd n (Zl (sm x.1 W S p) (wH n N) n t u v) (dR n u v) red) c) 0 (n * n) (by omega) (by omega) ⟨rfl, rfl⟩ (fun c w y _ hc ⟨g1, g2⟩ => ?_) (fun w y ⟨g1, g2⟩ => ?_)
  · subst g1
    dsimp only
    unfold f265_16 f265_44
    rw [hn1.zc]
    simp only [Option.bind_some]
    rw [it_le_f (by omega) (by omega) (by omega), mo_red hn1 a3 hL.RC h6 hV.2.2.2.1 hV.2.2.2.2.1 hc]
    simp only [Option.bind_some]
    by_cases q : rd n (Zl (sm x.1 W S p) (wH n N) n t u v) (dR n u v) red c = true
    · rw [if_pos q, if_neg one_ne, ok_some, lpA_l, iz1, iz_add]
      refine ⟨rfl, rfl, ?_⟩
      rw [bOf, if_pos q, g2]
      rfl
    · rw [if_neg q, if_pos rfl, ok_some, lpA_l, iz1, iz_add]
      refine ⟨rfl, rfl, ?_⟩
      rw [bOf, if_neg q, g2]
  · subst g1
    dsimp only
    unfold f265_16
    rw [hn1.zc]
    simp only [Option.bind_some]
    rw [it_le_t (by omega) (by omega) (by omega), ok_map, ok_some, lpA_r]
    exact ⟨a1, g2⟩
end MW
