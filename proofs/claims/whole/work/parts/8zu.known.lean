/-! how far off the worlds that fit are -/
noncomputable def wP (n N : Nat) : Int := mxS (dR n 0 0) (GP n (wH n N) (dR n 0 0)) (n * n)
noncomputable def wE (n N : Nat) : Int := GD n (wH n N) (dR n 0 0)
noncomputable def btw (n : Nat) (hi : Bool) (q : Int × Int) (N : Nat) : Bool := if hi = true then decide (q.1 * wE n N < wP n N * q.2) else decide (wP n N * q.2 < q.1 * wE n N)
theorem btw_t {n N : Nat} {q : Int × Int} : btw n true q N = true ↔ q.1 * wE n N < wP n N * q.2 := by unfold btw; rw [if_pos rfl, decide_eq_true_eq]
theorem btw_f {n N : Nat} {q : Int × Int} : btw n false q N = true ↔ wP n N * q.2 < q.1 * wE n N := by unfold btw; rw [if_neg (by decide), decide_eq_true_eq]
noncomputable def stB (n : Nat) (hi : Bool) (o : Option (Int × Int)) (N : Nat) : Option (Int × Int) := match o with
  | none => some (wP n N, wE n N)
  | some q => if btw n hi q N = true then some (wP n N, wE n N) else some q
noncomputable def bsO (n : Nat) (hi : Bool) (L : List Nat) : Option (Int × Int) := L.foldl (stB n hi) none
theorem bsO_1 {n : Nat} {hi : Bool} {L : List Nat} {N : Nat} : bsO n hi (L ++ [N]) = stB n hi (bsO n hi L) N := by
  unfold bsO
  rw [List.foldl_append]
  rfl
theorem stB_n {n : Nat} {hi : Bool} {N : Nat} : stB n hi none N = some (wP n N, wE n N) := rfl
theorem stB_s {n : Nat} {hi : Bool} {N : Nat} {q : Int × Int} : stB n hi (some q) N = if btw n hi q N = true then some (wP n N, wE n N) else some q := rfl
theorem stB_ex {n : Nat} {hi : Bool} {N : Nat} (o : Option (Int × Int)) : ∃ q, stB n hi o N = some q := by
  cases o with
  | none => exact ⟨_, rfl⟩
  | some q =>
    rw [stB_s]
    split
    · exact ⟨_, rfl⟩
    · exact ⟨_, rfl⟩
theorem bsO_ex {n : Nat} {hi : Bool} {L : List Nat} (h : 0 < L.length) : ∃ q, bsO n hi L = some q := by
  rcases List.eq_nil_or_concat L with rfl | ⟨M, N, rfl⟩
  · exact absurd h (by decide)
  · rw [List.concat_eq_append, bsO_1]
    exact stB_ex _
/-- a kept fraction tells the same -/
def ofR (g D : Int) (q : Int × Int) : Prop := 0 ≤ g ∧ g ≤ 2000000 ∧ 0 < D ∧ D ≤ 32 ∧ g * q.2 = q.1 * D ∧ 0 < q.2
theorem ofR_lt {g D g' D' : Int} {q q' : Int × Int} (h : ofR g D q) (h' : ofR g' D' q') : g * D' < g' * D ↔ q.1 * q'.2 < q'.1 * q.2 := by
  obtain ⟨-, -, a3, -, a5, a6⟩ := h
  obtain ⟨-, -, b3, -, b5, b6⟩ := h'
  have e1 : (g * D') * (q.2 * q'.2) = (q.1 * q'.2) * (D * D') := by
    have : (g * D') * (q.2 * q'.2) = (g * q.2) * (D' * q'.2) := by grind
    rw [this, a5]
    grind
  have e2 : (g' * D) * (q.2 * q'.2) = (q'.1 * q.2) * (D * D') := by
    have : (g' * D) * (q.2 * q'.2) = (g' * q'.2) * (D * q.2) := by grind
    rw [this, b5]
    grind
  exact lt_scale (Int.mul_pos a3 b3) (Int.mul_pos a6 b6) e1 e2
section KN
variable {s : xS} {b n pl : Nat} {red slip : Int} {x : sS} {W S : Nat → Int} {st : Int32} {rc : Nat} {Rs : Nat → Rn} {m : Nat} {G : Nat → Sg}
theorem wPE_b (n3 : 3 ≤ n) (n5 : n ≤ 5) {N : Nat} (hN : N < 343) : 0 < wE n N ∧ wE n N ≤ 32 := by
  unfold wE
  exact GD_bd (RC_at n3 n5 (by omega) (by omega) (by omega) (by omega)) (fun c hc _ => by have := wH_b n3 n5 hN hc; omega)
theorem wR_of (n3 : 3 ≤ n) (n5 : n ≤ 5) {N : Nat} (hN : N < 343) {D : Int} {G' : Nat → Int} (h : CG s n (dR n 0 0) (wH n N) D G') : ofR (mN G' (cnt (dR n 0 0) (n * n))) D (wP n N, wE n N) := by
  have e := wPE_b n3 n5 hN
  exact ⟨h.mbd.1, h.mbd.2, h.1, h.2.1, h.most e.1, e.1⟩
/-- what row 81 keeps from place i on -/
def OfS (s : xS) (n i : Nat) (hi : Bool) (L : List Nat) : Prop := ∀ q, bsO n hi L = some q → ∃ g D, s.1 81 i = iz g ∧ s.1 81 (i + 1) = iz D ∧ ofR g D q
theorem OfS.fr {F : Nat → Nat → Bool} {s' : xS} {i : Nat} {hi : Bool} {L : List Nat} (h : OfS s n i hi L) (hf : fr F s s') (h1 : F 81 i = false) (h2 : F 81 (i + 1) = false) : OfS s' n i hi L := fun q hq => by
  obtain ⟨g, D, a1, a2, a3⟩ := h q hq
  exact ⟨g, D, by rw [hf.i _ _ h1]; exact a1, by rw [hf.i _ _ h2]; exact a2, a3⟩
theorem OfS_new {i : Nat} {hi : Bool} {L : List Nat} {N : Nat} {g D : Int} (h1 : s.1 81 i = iz g) (h2 : s.1 81 (i + 1) = iz D) (h3 : ofR g D (wP n N, wE n N)) (h4 : bsO n hi (L ++ [N]) = some (wP n N, wE n N)) : OfS s n i hi (L ++ [N]) := fun q hq => by
  rw [h4] at hq
  cases hq
  exact ⟨g, D, h1, h2, h3⟩
theorem OfS_old {i : Nat} {hi : Bool} {L : List Nat} {N : Nat} (h : OfS s n i hi L) (h4 : bsO n hi (L ++ [N]) = bsO n hi L) : OfS s n i hi (L ++ [N]) := fun q hq => h q (by rw [← h4]; exact hq)
theorem ofR_b {g D g' D' : Int} {q q' : Int × Int} (h : ofR g D q) (h' : ofR g' D' q') : 0 ≤ g * D' ∧ g * D' ≤ 64000000 := by
  have a := mbd (B := 2000000) (C := 32) (x := g) (y := D') (by have := h.1; omega) h.2.1 (by have := h'.2.2.1; omega) h'.2.2.2.1
  have b := Int.mul_nonneg h.1 (show 0 ≤ D' by have := h'.2.2.1; omega)
  omega
def F81h (id k : Nat) : Bool := id == 81 && Nat.ble 2 k
theorem up_m {v w : Int32} : (fr F81h s (xm_up (xm_up s.1 81 2 v) 81 3 w, s.2)) := ((fr.rf F81h s).ui (v := v) (id := 81) (k := 2) rfl).ui (v := w) (id := 81) (k := 3) rfl
theorem kn_hi {k N : Nat} {L : List Nat} (hk : L.length = k) (hk3 : k < 343) (hS : OfS s n 2 true L) {g D : Int} (hR : ofR g D (wP n N, wE n N)) : ∃ w, f118_123 72 (iz k) (iz g) (iz D) s = some (.inl (iz ((k : Int) + 1), w)) ∧ fr F81h s w ∧ OfS w n 2 true (L ++ [N]) := by
  have new : bsO n true (L ++ [N]) = some (wP n N, wE n N) → OfS ((xm_up (xm_up s.1 81 2 (iz g)) 81 3 (iz D), s.2) : xS) n 2 true (L ++ [N]) := fun h4 => OfS_new (by show xm_up (xm_up s.1 81 2 (iz g)) 81 3 (iz D) 81 2 = _; rw [up_ix _ _ (by omega), up_eq]) (by first | exact up_eqP _ _ _ _ _ | exact up_eq _ _ _ _) hR h4
  unfold f118_123 f118_146 f118_160
  by_cases e : k = 0
  · subst e
    have : L = [] := List.length_eq_zero_iff.mp hk
    subst this
    rw [iz0, it_eq_t (show ((0 : Nat) : Int) = 0 from rfl)]
    simp (disch := omega) only [R_72_15, W_81, Option.bind_some, iz0, iz1, iz2, iz3, iz4, iz5, iz7, iz8, iz9, iz10, iz15, iz20, iz25, iz30, iz40, iz49, iz99, iz100, iz300, iz343, iz500, iz999, iz1000, iz1200, iz_add, iz_sub, iz_mul, iz_neg, it_le_t, it_le_f, it_lt_t, it_lt_f, it_eq_t, it_eq_f, bz0, bz1, ifg_T, or_true, true_or, if_true, if_false, Option.bind_some, Option.map_some, iz_in, iz_n, nat_toNat]
    exact ⟨_, rfl, up_m, new rfl⟩
  · obtain ⟨q, hq⟩ := bsO_ex (n := n) (hi := true) (L := L) (by omega)
    obtain ⟨g0, D0, a1, a2, a3⟩ := hS q hq
    have b1 := ofR_b hR a3
    have b2 := ofR_b a3 hR
    have lt := ofR_lt a3 hR
    rw [iz0, it_eq_f (by omega) (by omega) (by omega) (by omega) (by omega)]
    simp (disch := omega) only [R_72_15, A_81, Option.bind_some, iz0, iz1, iz2, iz3, iz4, iz5, iz7, iz8, iz9, iz10, iz15, iz20, iz25, iz30, iz40, iz49, iz99, iz100, iz300, iz343, iz500, iz999, iz1000, iz1200, iz_add, iz_sub, iz_mul, iz_neg, it_le_t, it_le_f, it_lt_t, it_lt_f, it_eq_t, it_eq_f, bz0, bz1, ifg_T, or_true, true_or, if_true, if_false, Option.bind_some, Option.map_some, iz_in, iz_n, nat_toNat]
    rw [show ((3 : Int)).toNat = 2 + 1 from rfl, show ((2 : Int)).toNat = 2 from rfl, a1, a2, iz_mul, iz_mul]
    by_cases c : g0 * D < g * D0
    · rw [it_le_f c (by omega) (by omega)]
      simp (disch := omega) only [R_72_15, W_81, Option.bind_some, iz0, iz1, iz2, iz3, iz4, iz5, iz7, iz8, iz9, iz10, iz15, iz20, iz25, iz30, iz40, iz49, iz99, iz100, iz300, iz343, iz500, iz999, iz1000, iz1200, iz_add, iz_sub, iz_mul, iz_neg, it_le_t, it_le_f, it_lt_t, it_lt_f, it_eq_t, it_eq_f, bz0, bz1, ifg_T, or_true, true_or, if_true, if_false, Option.bind_some, Option.map_some, iz_in, iz_n, nat_toNat]
      refine ⟨_, rfl, up_m, new ?_⟩
      rw [bsO_1, hq, stB_s, if_pos (btw_t.mpr (lt.mp c))]
    · rw [it_le_t (by omega) (by omega) (by omega)]
      refine ⟨_, rfl, fr.rf _ _, OfS_old hS ?_⟩
      rw [bsO_1, hq, stB_s, if_neg (fun h => c (lt.mpr (btw_t.mp h)))]
def F81 (id _k : Nat) : Bool := id == 81
theorem F81h_81 (id k : Nat) (h : F81h id k = true) : F81 id k = true := by
  unfold F81h at h
  rw [Bool.and_eq_true] at h
  exact h.1
theorem kn_lo {k N : Nat} {L : List Nat} (hk : L.length = k) (hk3 : k < 343) (hS : OfS s n 2 true L) (hS0 : OfS s n 0 false L) {g D : Int} (hR : ofR g D (wP n N, wE n N)) : ∃ w, (if (iz k : Int32) = 0 then f118_109 72 (iz k) (iz g) (iz D) s else (hk_R 72 15).bind fun a46 => (aI s a46 1).bind fun v48 => (hk_R 72 15).bind fun a50 => (aI s a50 0).bind fun v52 => if v52 * iz D ≤ iz g * v48 then f118_123 72 (iz k) (iz g) (iz D) s else f118_109 72 (iz k) (iz g) (iz D) s) = some (.inl (iz ((k : Int) + 1), w)) ∧ fr F81 s w ∧ OfS w n 2 true (L ++ [N]) ∧ OfS w n 0 false (L ++ [N]) := by
  have f1 : fr F81 s ((xm_up (xm_up s.1 81 0 (iz g)) 81 1 (iz D), s.2) : xS) := ((fr.rf F81 s).ui (v := iz g) (id := 81) (k := 0) rfl).ui (v := iz D) (id := 81) (k := 1) rfl
  have upd : bsO n false (L ++ [N]) = some (wP n N, wE n N) → ∃ w, f118_109 72 (iz k) (iz g) (iz D) s = some (.inl (iz ((k : Int) + 1), w)) ∧ fr F81 s w ∧ OfS w n 2 true (L ++ [N]) ∧ OfS w n 0 false (L ++ [N]) := by
    intro h4
    have hS1 : OfS ((xm_up (xm_up s.1 81 0 (iz g)) 81 1 (iz D), s.2) : xS) n 2 true L := fun q hq => by
      obtain ⟨g', D', a1, a2, a3⟩ := hS q hq
      exact ⟨g', D', by show xm_up (xm_up s.1 81 0 (iz g)) 81 1 (iz D) 81 2 = _; rw [up_ix _ _ (by omega), up_ix _ _ (by omega)]; exact a1, by show xm_up (xm_up s.1 81 0 (iz g)) 81 1 (iz D) 81 3 = _; rw [up_ix _ _ (by omega), up_ix _ _ (by omega)]; exact a2, a3⟩
    obtain ⟨w, b1, b2, b3⟩ := kn_hi hk hk3 hS1 hR
    refine ⟨w, ?_, f1.tr (b2.mono F81h_81), b3, OfS_new (by rw [b2.i _ _ rfl]; show xm_up (xm_up s.1 81 0 (iz g)) 81 1 (iz D) 81 0 = _; rw [up_ix _ _ (by omega), up_eq]) (by rw [b2.i _ _ rfl]; exact (by first | exact up_eqP _ _ _ _ _ | exact up_eq _ _ _ _)) hR h4⟩
    unfold f118_109
    simp (disch := omega) only [R_72_15, W_81, Option.bind_some, iz0, iz1, iz_in, iz_n, nat_toNat, if_true]
    exact b1
  by_cases e : k = 0
  · subst e
    have : L = [] := List.length_eq_zero_iff.mp hk
    subst this
    rw [iz0, it_eq_t (show ((0 : Nat) : Int) = 0 from rfl)]
    exact upd rfl
  · obtain ⟨q, hq⟩ := bsO_ex (n := n) (hi := false) (L := L) (by omega)
    obtain ⟨g0, D0, a1, a2, a3⟩ := hS0 q hq
    have b1 := ofR_b hR a3
    have b2 := ofR_b a3 hR
    have lt := ofR_lt hR a3
    rw [iz0, it_eq_f (by omega) (by omega) (by omega) (by omega) (by omega)]
    simp (disch := omega) only [R_72_15, A_81, Option.bind_some, iz0, iz1, iz_in, iz_n, nat_toNat, if_true]
    rw [show ((1 : Int)).toNat = 0 + 1 from rfl, show ((0 : Int)).toNat = 0 from rfl, a1, a2, iz_mul, iz_mul]
    by_cases c : g * D0 < g0 * D
    · rw [it_le_f c (by omega) (by omega)]
      refine upd ?_
      rw [bsO_1, hq, stB_s, if_pos (btw_f.mpr (lt.mp c))]
    · rw [it_le_t (by omega) (by omega) (by omega)]
      obtain ⟨w, d1, d2, d3⟩ := kn_hi hk hk3 hS hR
      refine ⟨w, d1, d2.mono F81h_81, d3, (OfS_old hS0 ?_).fr d2 rfl rfl⟩
      rw [bsO_1, hq, stB_s, if_neg (fun h => c (lt.mpr (btw_f.mp h)))]
/-- the kept offs -/
def OfI (s : xS) (n : Nat) (red : Int) (H W S : Nat → Int) (m : Nat) (G : Nat → Sg) : Prop := s.1 72 16 = iz 0 ∨ (s.1 72 16 = iz 1 ∧ OfS s n 0 false (fLs n red H W S G m) ∧ OfS s n 2 true (fLs n red H W S G m))
def Fof (id k : Nat) : Bool := FRw id k || id == 81 || (id == 72 && k == 16)
theorem FRw_of (id k : Nat) (h : FRw id k = true) : Fof id k = true := by unfold Fof; rw [h]; rfl
theorem F81_of (id k : Nat) (h : F81 id k = true) : Fof id k = true := by unfold F81 at h; unfold Fof; rw [h]; simp only [Bool.or_true, Bool.true_or]
theorem Fof_c (id k : Nat) (h : Fof id k = true) : FWc id k = true := by
  unfold Fof at h
  simp only [Bool.or_eq_true, Bool.and_eq_true, beq_iff_eq] at h
  rcases h with (h | rfl) | ⟨rfl, rfl⟩
  · exact FL_Wc id k (FRw_L id k h)
  · rfl
  · rfl
set_option maxHeartbeats 400000 in
theorem cl_offs (h : Core s b n pl red slip x W S st rc Rs) (hL : FtL s (fLs n red x.1 W S G m)) (hO : OfI s n red x.1 W S m G) : ok (f118 72 s) (fun r => fr Fof s r.1 ∧ r.1.1 72 16 = iz 1 ∧ OfS r.1 n 0 false (fLs n red x.1 W S G m) ∧ OfS r.1 n 2 true (fLs n red x.1 W S G m)) := by
  have sq := h.cn.sq
  have n3 := h.cn.2.1
  have n5 := h.cn.2.2
  have ln := fLs_len (n := n) (red := red) (H := x.1) (W := W) (S := S) (G := G) m
  unfold f118
  rw [ifg_pos O_72]
  rcases hO with h1 | ⟨h1, h2, h3⟩
  · rw [h1, iz0, it_eq_t rfl]
    simp only [pI, Option.bind_some, iz1]
    have f0 : fr Fof s (xm_up s.1 72 16 (iz 1), s.2) := (fr.rf Fof s).ui (v := iz 1) (id := 72) (k := 16) rfl
    refine forz (fun k w => fr Fof s w ∧ w.1 72 16 = iz 1 ∧ OfS w n 0 false ((fLs n red x.1 W S G m).take k) ∧ OfS w n 2 true ((fLs n red x.1 W S G m).take k)) 0 (fLs n red x.1 W S G m).length (by omega) (by omega) ⟨f0, (by first | exact up_eqP _ _ _ _ _ | exact up_eq _ _ _ _), (fun q hq => by cases hq), (fun q hq => by cases hq)⟩ (fun k w _ hk ⟨c1, c2, c3, c4⟩ => ?_) (fun w ⟨c1, c2, c3, c4⟩ => ?_)
    · obtain ⟨N, hN⟩ := get_ex hk
      have hN3 := fLs_lt hN
      have hw := Core_Wc h (c1.mono Fof_c)
      have hLw : FtL w (fLs n red x.1 W S G m) := hL.fr c1 rfl (fun _ => rfl)
      dsimp only
      unfold f118_15
      rw [hLw.1, it_le_f (by omega) (by omega) (by omega)]
      simp (disch := omega) only [R_72_9, R_72_2, R_39_3, R_39_1, Option.bind_some, A_78, iz_in, iz_n, nat_toNat, if_true, hLw.2 k N hN]
      refine (cl_walone hw.cn hN3).bind (fun z1 hz1 => ?_)
      refine hz1.bind (fun z2 hz2 => ?_)
      refine hz2.bind (fun y ⟨d1, D, G', d2⟩ => ?_)
      rw [cl_most d2 sq]
      simp only [Option.bind_some]
      rw [d2.2.2.1]
      have l1 : ((fLs n red x.1 W S G m).take k).length = k := by rw [List.length_take]; omega
      obtain ⟨w', e1, e2, e3, e4⟩ := kn_lo l1 (by omega) (c4.fr d1 rfl rfl) (c3.fr d1 rfl rfl) (wR_of n3 n5 hN3 d2)
      rw [e1, ok_some, lp_l, tk_1 hN]
      exact ⟨rfl, (c1.tr (d1.mono FRw_of)).tr (e2.mono F81_of), by rw [e2.i _ _ rfl, d1.i _ _ rfl]; exact c2, e4, e3⟩
    · have hLw : FtL w (fLs n red x.1 W S G m) := hL.fr c1 rfl (fun _ => rfl)
      dsimp only
      unfold f118_15
      rw [hLw.1, it_le_t (by omega) (by omega) (by omega), ok_map, ok_some, lp_r]
      rw [List.take_length] at c3 c4
      exact ⟨c1, c2, c3, c4⟩
  · rw [h1, iz0, it_eq_f (by omega) (by omega) (by omega) (by omega) (by omega), ok_some]
    exact ⟨fr.rf _ _, h1, h2, h3⟩
end KN
