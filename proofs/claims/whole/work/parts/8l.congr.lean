/-! planes depend on the sums of cells alone; rounds change one plate -/
section CO
variable {n : Nat} {Z Z' : Nat → Int} {d : Nat → Bool}
theorem ge_congr {i j k : Nat} (hi : Z i = Z' i) (hj : Z j = Z' j) (hk : Z k = Z' k) (px py pt : Int) : fi_f (mx n) (my n) Z i j k px py pt = fi_f (mx n) (my n) Z' i j k px py pt := by
  unfold fi_f ge_p ge_q ge_r
  rw [hi, hj, hk]
theorem mo_c_congr (h : ∀ c, c < n * n → Z c = Z' c) {i j k : Nat} (hc : mo_c n Z d i j k) : mo_c n Z' d i j k := by
  obtain ⟨c1, c2, c3, c4, c5, c6, c7, c8⟩ := hc
  refine ⟨c1, c2, c3, c4, c5, c6, c7, fun c q1 q2 => ?_⟩
  have := c8 c q1 q2
  rw [h c q1, ge_congr (h i (by omega)) (h j (by omega)) (h k c3)] at this
  exact this
theorem mo_1_congr (h : ∀ c, c < n * n → Z c = Z' c) {i j k : Nat} (hc : mo_1 n Z d i j k) : mo_1 n Z' d i j k := by
  refine ⟨mo_c_congr h hc.1, fun i' j' k' _ hc' => ?_⟩
  have hb := hc.2 i' j' k' trivial (mo_c_congr (fun c q => (h c q).symm) hc')
  obtain ⟨c1, c2, c3, -⟩ := hc.1
  obtain ⟨d1, d2, d3, -⟩ := hc'
  have e1 : mo_v n Z d i j k = mo_v n Z' d i j k := ge_congr (h i (by omega)) (h j (by omega)) (h k c3) _ _ _
  have e2 : mo_v n Z d i' j' k' = mo_v n Z' d i' j' k' := ge_congr (h i' (by omega)) (h j' (by omega)) (h k' d3) _ _ _
  rw [e1, e2] at hb
  exact hb
theorem GDP_congr (hRC : RCb n d = true) (hZ : Zb n d Z) (h : ∀ c, c < n * n → Z c = Z' c) : GD n Z d = GD n Z' d ∧ ∀ c, c < n * n → GP n Z d c = GP n Z' d c := by
  obtain ⟨i, j, k, h1⟩ := mo_1_ex hRC hZ
  have h2 := mo_1_congr h h1
  obtain ⟨c1, c2, c3, -⟩ := h1.1
  refine ⟨by rw [GD_eq h1, GD_eq h2], fun c hc => ?_⟩
  rw [GP_eq h1, GP_eq h2, h c hc, ge_congr (h i (by omega)) (h j (by omega)) (h k c3)]
theorem mxS_congr {f g : Nat → Int} : ∀ N, (∀ c, c < N → f c = g c) → mxS d f N = mxS d g N := by
  intro N
  induction N with
  | zero => intro _; rfl
  | succ N ih => intro h; rw [mxS, mxS, ih (fun c hc => h c (by omega)), h N (by omega)]
theorem wi_congr (hRC : RCb n d = true) (hZ : Zb n d Z) (h : ∀ c, c < n * n → Z c = Z' c) (k : Int) : wi n Z d k = wi n Z' d k := by
  obtain ⟨e1, e2⟩ := GDP_congr hRC hZ h
  unfold wi
  rw [e1, mxS_congr (n * n) e2]
end CO
/-- a round changes its plate alone -/
theorem tk_o {a : Nat} {m : Int} {x : sS} {k : Nat} (h : k ≠ a) : (tk a m x).1 k = x.1 k := by
  unfold tk
  split
  · rfl
  · dsimp only
    rw [if_neg h]
theorem sl1_o {n : Nat} {slip : Int} {b c : Nat} {x : sS} {k : Nat} (hc : c < n * n) (h : k < b ∨ b + n * n ≤ k) : (sl1 n slip b c x).1 k = x.1 k := by
  unfold sl1
  split
  · rfl
  · split
    · rfl
    · split
      · rw [tk_o (by omega)]
      · rename_i q
        have := row_next hc q
        rw [tk_o (by omega), tk_o (by omega)]
theorem scr_o {n : Nat} {slip dp : Int} {b : Nat} {r : Nat → Bool} {x : sS} {k : Nat} (h : k < b ∨ b + n * n ≤ k) : ∀ c, c ≤ n * n → (scr n slip dp b r c x).1.1 k = x.1 k := by
  intro c
  induction c with
  | zero => intro _; rfl
  | succ c ih =>
    intro hc
    have h1 := ih (by omega)
    rw [scr]
    split
    · dsimp only
      rw [sl1_o (by omega) h, tk_o (by omega)]
      exact h1
    · exact h1
theorem flP_o {pl n : Nat} {red slip : Int} {W S : Nat → Int} {R : Rn} {x : sS} (hb : Bd x.1 W S) (hv : Rv pl n R) (hpl : pl ≤ 4) {p : Nat} (hp : p < 4) (hne : p ≠ R.2.2.2.2.2.1) (k : Int) : flP n (dRd n red slip W S R x).1.1 p k = flP n x.1 p k := by
  have sq := hv.2.2.2.1.sq
  unfold flP
  refine (wi_congr (RC_at hv.2.2.2.1.1 hv.2.2.2.1.2.1 (by omega) (by omega) (by omega) (by omega)) (hZ_b hb hp hv.2.2.2.1.2.1 (Or.inl rfl)) (fun c hc => ?_) k).symm
  unfold hZ dRd
  rw [scr_o (by omega) _ (Nat.le_refl _)]
/-- what may change where all is as before at the end -/
def FU (id k : Nat) : Bool := Fz id k || FC 33 id k || FW id k || id == 33 || id == 34 || id == 35 || id == 36 || id == 114 || id == 115 || id == 116 || id == 117
theorem Fz_U (id k : Nat) (h : Fz id k = true) : FU id k = true := by unfold FU; rw [h]; rfl
theorem FW_U (id k : Nat) (h : FW id k = true) : FU id k = true := by unfold FU; rw [h]; simp only [Bool.or_true, Bool.true_or]
theorem FG_U (id k : Nat) (h : FG id k = true) : FU id k = true := by
  unfold FG at h
  simp only [Bool.or_eq_true, Bool.and_eq_true, beq_iff_eq] at h
  rcases h with ((((⟨rfl, -⟩ | ⟨rfl, -⟩) | rfl) | rfl) | rfl) | ⟨rfl, (rfl | rfl) | rfl⟩
  · exact FW_U _ _ (FV_W _ _ rfl)
  · unfold FU; simp only [Bool.or_true, Bool.true_or, beq_self_eq_true]
  · unfold FU; simp only [Bool.or_true, Bool.true_or, beq_self_eq_true]
  · unfold FU; simp only [Bool.or_true, Bool.true_or, beq_self_eq_true]
  · unfold FU; simp only [Bool.or_true, Bool.true_or, beq_self_eq_true]
  · exact FW_U _ _ rfl
  · exact FW_U _ _ rfl
  · exact FW_U _ _ rfl
theorem FK3_z (id k : Nat) (h : FK 3 id k = true) : Fz id k = true := by
  refine Fw_z id k ?_
  unfold FK at h
  simp only [Bool.or_eq_true, Bool.and_eq_true, beq_iff_eq, Nat.ble_eq] at h
  unfold Fw
  rcases h with (((((⟨rfl, rfl⟩ | ⟨⟨(rfl | rfl), h1⟩, h2⟩) | ⟨rfl, rfl⟩) | ⟨rfl, rfl⟩) | ⟨rfl, rfl⟩) | ⟨⟨rfl, h1⟩, h2⟩) | ⟨⟨(rfl | rfl), h1⟩, h2⟩
  · rfl
  · rw [bleT (show 300 ≤ k by omega)]; simp
  · rw [bleT (show 300 ≤ k by omega)]; simp
  · rfl
  · rfl
  · rfl
  · rw [bleT (show 45 ≤ k by omega)]; simp
  · rw [bleT (show 15 ≤ k by omega)]; simp
  · rw [bleT (show 15 ≤ k by omega)]; simp
theorem FBm_z {p : Nat} (hp : p = 56 ∨ p = 60 ∨ p = 64 ∨ p = 68) (id k : Nat) (h : FBm p id k = true) : Fz id k = true := by
  refine Fy_z id k ?_
  unfold FBm at h
  simp only [Bool.or_eq_true, beq_iff_eq] at h
  unfold Fy
  rw [bleT (show 56 ≤ id by omega), bleT (show id ≤ 71 by omega)]
  simp only [Bool.and_true, Bool.or_true, Bool.true_or]
theorem FC_z {p : Nat} (hp : p = 56 ∨ p = 60 ∨ p = 64 ∨ p = 68) (id k : Nat) (h : FC p id k = true) : Fz id k = true := by
  unfold FC at h
  rw [Bool.or_eq_true] at h
  rcases h with h | h
  · exact FL_z id k h
  · refine FBm_z hp id k ?_
    unfold FB at h
    simp only [Bool.or_eq_true, Bool.and_eq_true, beq_iff_eq] at h
    unfold FBm
    rcases h with h | ⟨⟨h, -⟩, -⟩
    · subst h; simp
    · subst h; simp
section MU
variable {s : xS} {b n pl : Nat} {red slip : Int} {x : sS} {W S : Nat → Int} {st : Int32} {rc : Nat} {Rs : Nat → Rn}
theorem mo_isFlatM (hM : KM s b n pl red slip x W S st rc Rs) (hV : KV n pl red slip x W S rc Rs) {k : Int} (k0 : 0 ≤ k) (k9 : k ≤ 999) : ok (f234 101 (iz k) s) (fun r => fr FD0 s r.1 ∧ ((r.2 = iz 1 ∧ flA n pl x.1 k) ∨ (r.2 = iz 0 ∧ ¬ flA n pl x.1 k))) := by
  obtain ⟨n3, n5, hpl, a4, a5, a6, a7, a8, a9, hrc, a11⟩ := hV
  have hbd := Hb.bd a8 a9
  have sq : n * n ≤ 25 := mul_le_nat n5 n5
  unfold f234
  rw [ifg_pos O_101]
  simp only [iz0]
  refine forz (fun p w => fr FD0 s w ∧ ∀ q, q < p → flP n x.1 q k = true) 0 pl (by omega) (by omega) ⟨fr.rf _ _, fun q hq => by omega⟩ (fun p w _ hp ⟨h1, h2⟩ => ?_) (fun w ⟨h1, h2⟩ => ?_)
  · have hw := KM_scr hM (h1.mono FD0_z) hrc
    have hE := GD_bd (Z := hZ 1 x.1 p) (RC_at n3 n5 (by omega) (by omega) (by omega) (by omega)) (hZ_b (n := n) hbd (show p < 4 by omega) n5 (g := 1) (by omega))
    unfold f234_2 f232
    rw [ifg_pos O_101]
    simp (disch := omega) only [R_101_12, A_105, hw.1.b_in, hw.1.b_nat, hw.2.1, iz0, iz1, iz2, iz3, iz4, iz5, iz7, iz8, iz9, iz10, iz15, iz20, iz25, iz30, iz40, iz49, iz99, iz100, iz300, iz343, iz500, iz999, iz1000, iz1200, iz_add, iz_sub, iz_mul, iz_neg, it_le_t, it_le_f, it_lt_t, it_lt_f, it_eq_t, it_eq_f, bz0, bz1, ifg_T, or_true, true_or, if_true, if_false, Option.bind_some, Option.map_some, bind_assoc']
    refine (mo_alone1 hw.1 (show p < 5 by omega) (H := fun c => x.1 (25 * p + c)) (fun c hc => (hw.2.2.2.2.1.1 (25 * p + c) (by omega)).1 (us_of hp hpl hc sq)) (fun c hc => by have := hbd (25 * p + c) (by omega); omega) (g := 1) (by omega)).bind (fun r0 hr0 => ?_)
    refine hr0.bind (fun r1 ⟨b1, b2⟩ => ?_)
    have b3 : MG r1.1 n (dR n 0 0) (hZ 1 x.1 p) := b2
    have hw1 := KM_scr hw (b1.mono FD0_z) hrc
    have hb := mxS_bd (dR n 0 0) (GP n (hZ 1 x.1 p) (dR n 0 0)) (B := 1000000) (by omega) (n * n) (fun c hc hd => (mo_gapOf hw1.1 b3 hc hd).2.2)
    have hm2 := mbd (B := 32) (C := 999) (x := GD n (hZ 1 x.1 p) (dR n 0 0)) (y := k) (by omega) hE.2 (by omega) (by omega)
    rw [mo_most hw1.1 b3]
    simp (disch := omega) only [iz0, iz1, iz2, iz3, iz4, iz5, iz7, iz8, iz9, iz10, iz15, iz20, iz25, iz30, iz40, iz49, iz99, iz100, iz300, iz343, iz500, iz999, iz1000, iz1200, iz_add, iz_sub, iz_mul, iz_neg, it_le_t, it_le_f, it_lt_t, it_lt_f, it_eq_t, it_eq_f, bz0, bz1, ifg_T, or_true, true_or, if_true, if_false, Option.bind_some, Option.map_some, b3.e45, iz_l, lz_mul]
    by_cases q1 : mxS (dR n 0 0) (GP n (hZ 1 x.1 p) (dR n 0 0)) (n * n) ≤ GD n (hZ 1 x.1 p) (dR n 0 0) * k
    · have : flP n x.1 p k = true := by unfold flP wi; rw [decide_eq_true_eq, Int.mul_comm k]; exact q1
      rw [lk_le_t q1 (by omega) (by omega) (by omega) (by omega)]
      simp only [ok_some, ok_map, lp_l, lp_r, lpA_l, lpA_r, true_and]
      refine ⟨h1.tr b1, fun j hj => ?_⟩
      by_cases r : j = p
      · rw [r]; exact this
      · exact h2 j (by omega)
    · have : ¬ flP n x.1 p k = true := by unfold flP wi; rw [decide_eq_true_eq, Int.mul_comm k]; exact q1
      rw [lk_le_f (by omega) (by omega) (by omega) (by omega) (by omega)]
      simp only [ok_some, ok_map, lp_l, lp_r, lpA_l, lpA_r, true_and]
      exact ⟨h1.tr b1, Or.inr (fun r => this (r p hp))⟩
  · have hw := KM_scr hM (h1.mono FD0_z) hrc
    unfold f234_2
    simp (disch := omega) only [R_101_12, A_105, hw.1.b_in, hw.1.b_nat, hw.2.1, iz0, iz1, iz2, iz3, iz4, iz5, iz7, iz8, iz9, iz10, iz15, iz20, iz25, iz30, iz40, iz49, iz99, iz100, iz300, iz343, iz500, iz999, iz1000, iz1200, iz_add, iz_sub, iz_mul, iz_neg, it_le_t, it_le_f, it_lt_t, it_lt_f, it_eq_t, it_eq_f, bz0, bz1, ifg_T, or_true, true_or, if_true, if_false, Option.bind_some, Option.map_some, ok_some, ok_map, lp_l, lp_r, lpA_l, lpA_r, true_and]
    exact ⟨h1, Or.inl h2⟩
end MU
