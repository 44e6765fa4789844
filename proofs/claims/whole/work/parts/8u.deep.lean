/-! deepest -/
section DP
/-- heights when scraped by d, without slips -/
noncomputable def dpY (n : Nat) (red : Int) (W S : Nat → Int) (R : Rn) (x : sS) (d : Nat) : sS := (scr n 0 d (25 * R.2.2.2.2.2.1) (rS n red W S R x.1) (n * n) x).1
noncomputable def dpP (n : Nat) (red : Int) (W S : Nat → Int) (R : Rn) (x : sS) (d : Nat) : Int := mxS (dR n 0 0) (GP n (hZ 1 (dpY n red W S R x d).1 R.2.2.2.2.2.1) (dR n 0 0)) (n * n)
noncomputable def dpE (n : Nat) (red : Int) (W S : Nat → Int) (R : Rn) (x : sS) (d : Nat) : Int := GD n (hZ 1 (dpY n red W S R x d).1 R.2.2.2.2.2.1) (dR n 0 0)
/-- the best deep of 1 .. d -/
noncomputable def dpB (n : Nat) (red : Int) (W S : Nat → Int) (R : Rn) (x : sS) : Nat → Nat
  | 0 => 0
  | d + 1 => if d = 0 then 1 else if dpP n red W S R x (d + 1) * dpE n red W S R x (dpB n red W S R x d) < dpP n red W S R x (dpB n red W S R x d) * dpE n red W S R x (d + 1) then d + 1 else dpB n red W S R x d
variable {s : xS} {b n pl : Nat} {red slip : Int} {x : sS} {W S : Nat → Int} {st : Int32} {rc : Nat} {Rs : Nat → Rn} {R : Rn}
theorem dpB_le (d : Nat) : dpB n red W S R x d ≤ d ∧ (1 ≤ d → 1 ≤ dpB n red W S R x d) := by
  induction d with
  | zero => exact ⟨Nat.le_refl _, fun h => by omega⟩
  | succ d ih =>
    simp only [dpB]
    split
    · omega
    · split <;> omega
theorem dpY_b (hx : Hb x) (hv : Rv pl n R) (hpl : pl ≤ 4) {d : Nat} (d9 : d ≤ 9) : Hb (dpY n red W S R x d) := by
  have sq := hv.2.2.2.1.sq
  obtain ⟨v1, v2, v3, v4, v5, v6, v7⟩ := hv
  exact scr_b hx (by rcases v5 with v5 | v5 <;> rw [v5] <;> omega) (by omega) (by omega) _ (Nat.le_refl _)
theorem dp_bd (hx : Hb x) (hw : Ws W S) (hv : Rv pl n R) (hpl : pl ≤ 4) {d : Nat} (d9 : d ≤ 9) : 0 < dpE n red W S R x d ∧ dpE n red W S R x d ≤ 32 ∧ RCb n (dR n 0 0) = true ∧ Zb n (dR n 0 0) (hZ 1 (dpY n red W S R x d).1 R.2.2.2.2.2.1) := by
  have hRC := RC_at (n := n) (u := 0) (v := 0) hv.2.2.2.1.1 hv.2.2.2.1.2.1 (by omega) (by omega) (by omega) (by omega)
  have hsc : R.2.2.2.2.2.1 < 4 := by
    have r1 := hv.1
    have r2 := hv.2.1
    rcases hv.2.2.2.2.1 with q | q <;> rw [q] <;> omega
  have hZ' := hZ_b (n := n) (Hb.bd (dpY_b (red := red) (W := W) (S := S) hx hv hpl d9) hw) hsc hv.2.2.2.1.2.1 (g := 1) (Or.inl rfl)
  have := GD_bd hRC hZ'
  exact ⟨this.1, this.2, hRC, hZ'⟩
/-- what findDeepest leaves -/
def dpC (s : xS) (n : Nat) (red : Int) (W S : Nat → Int) (R : Rn) (x : sS) (d : Nat) : Prop := s.1 51 12 = iz (dpB n red W S R x d) ∧ (1 ≤ d → ∃ u v : Int, s.1 51 13 = iz u ∧ s.1 51 14 = iz v ∧ 0 ≤ u ∧ u ≤ 2000000 ∧ 0 < v ∧ v ≤ 32 ∧ u * dpE n red W S R x (dpB n red W S R x d) = dpP n red W S R x (dpB n red W S R x d) * v)
set_option maxHeartbeats 1000000 in
theorem cl_deepest (h : Core s b n pl red slip x W S st rc Rs) {r : Nat} (hr : r < rc) : ok (f105 51 (11 + r) s) (fun o => fr Fz s o.1 ∧ dpC o.1 n red W S (Rs r) x 9) := by
  have hpl := h.p4
  have hrc := h.rc10
  have sq := h.cn.sq
  have hV := h.2.2
  have hv := hV.2.2.2.2.2.2.2.2.2.2 r hr
  have hv' := hv
  obtain ⟨v1, v2, v3, v4, v5, v6, v7⟩ := hv
  have hx := hV.2.2.2.2.2.2.2.1
  have hws := hV.2.2.2.2.2.2.2.2.1
  have hsc : (Rs r).2.2.2.2.2.1 < 4 := by rcases v5 with q | q <;> rw [q] <;> omega
  obtain ⟨q0, q1, q2, q3, q4, q5, q6⟩ := h.1.2.2.2.2.2.2.2.2 r hr
  have hO := R_O (isR_of (show r < 10 by omega))
  unfold f105
  rw [ifg_pos O_51, ifg_pos hO, q0, q1, q2, q3, q4]
  simp only [R_51_3, R_51_2, Option.bind_some]
  refine (both_lay h v2 v1 v4).bind (fun r1 ⟨a1, a2, D, G, a3, a4, a5⟩ => ?_)
  have h1 := Core_scr h a1
  obtain ⟨bits, b1, b2⟩ := cl_bits h1.cn hv' (isR_of (show r < 10 by omega)) (h1.1.2.2.2.2.2.2.2.2 r hr) h1.1.2.2.1 hV.2.2.2.1 hV.2.2.2.2.1 a2 a3 a4 hpl
  rw [b1]
  simp only [Option.bind_some, pI, iz0, iz1]
  have b2' : ∀ c, c < n * n → hb bits c = rS n red W S (Rs r) x.1 c := b2
  have f0 : fr Fz s (xm_up r1.1.1 51 12 (iz 0), r1.1.2) := a1.ui rfl
  refine forz (fun d w => fr Fz s w ∧ dpC w n red W S (Rs r) x (d - 1)) 1 10 (by omega) (by omega) ⟨f0, by dsimp only; rw [up_eq]; rfl, fun q => by omega⟩ (fun d w hd1 hd ⟨e1, e2⟩ => ?_) (fun w ⟨e1, e2⟩ => ?_)
  · have hw := Core_scr h e1
    unfold f105_47
    rw [iz9, it_lt_f (by omega) (by omega) (by omega)]
    simp only [R_51_4, R_51_2, R_51_3, R_39_1, Option.bind_some]
    rw [show aR 52 (0 : Int32) = some 56 from AR_52 (q := 0) (by omega)]
    simp only [Option.bind_some]
    rw [ifg_pos O_56]
    refine (cl_become is56 is33 (by omega) (KC_bx hw.1)).bind (fun t1 ⟨c1, c2⟩ => ?_)
    have f1 := e1.tr (c1.mono (FBm_z (Or.inl rfl)))
    have hw1 := Core_scr h f1
    have q5' := (hw1.1.2.2.2.2.2.2.2.2 r hr).2.2.2.2.2.1
    rw [q5', iz0]
    refine (cl_cells hw1.cn is56 c2.2.1 hx hsc b2' (dp := d) (slip := 0) (by omega) (by omega) (by omega) (by omega)).bind (fun t2 ⟨d1, d2, d3, d4⟩ => ?_)
    have f2 := f1.tr (d1.mono (fun id k hk => FC_z (p := 56) (Or.inl rfl) id k (by unfold FC; rw [hk, Bool.or_true])))
    have hw2 := Core_scr h f2
    have q5'' := (hw2.1.2.2.2.2.2.2.2.2 r hr).2.2.2.2.2.1
    rw [q5'', iz1]
    have hY := dpY_b (red := red) (W := W) (S := S) hx hv' hpl (show d ≤ 9 by omega)
    have cb2 : CB t2.1 56 (dpY n red W S (Rs r) x d).1 W S := fun k hk => ⟨d2.1 k hk, by rw [d1.i _ _ rfl]; exact (c2.1 k hk).2.1, by rw [d1.i _ _ rfl]; exact (c2.1 k hk).2.2⟩
    refine (cl_alone hw2.cn is56 cb2 (Hb.bd hY hws) hsc (g := 1) (by omega)).bind (fun t3 ht3 => ?_)
    refine ht3.bind (fun t4 ⟨g1, D', G', g3⟩ => ?_)
    obtain ⟨p1, p2, p3, p4⟩ := dp_bd (red := red) hx hws hv' hpl (show d ≤ 9 by omega)
    rw [cl_most g3 sq]
    simp only [Option.bind_some]
    have hmost := g3.most p1
    have hmb := g3.mbd
    have f4 := f2.tr (g1.mono FL_z)
    have keep : ∀ k, 12 ≤ k → t4.1.1 51 k = w.1 51 k := fun k hk => by
      rw [g1.i _ _ rfl, d1.i _ _ rfl, c1.i _ _ rfl]
    rw [keep 12 (by omega), keep 13 (by omega), keep 14 (by omega), g3.2.2.1]
    have upd : ok (f105_159 51 (11 + r) bits (iz d) (iz (mN G' (cnt (dR n 0 0) (n * n)))) (iz D') t4.1) (lp ((d : Int) + 1) (fun w => fr Fz s w ∧ s = s ∧ w.1 51 12 = iz d ∧ w.1 51 13 = iz (mN G' (cnt (dR n 0 0) (n * n))) ∧ w.1 51 14 = iz D') (fun _ : xS × Unit => False)) := by
      unfold f105_159 f105_176
      simp only [pI, Option.bind_some, iz1, iz_add, ok_some, ok_map, lp_l, lp_r, lpA_l, lpA_r, true_and]
      refine ⟨((f4.ui rfl).ui rfl).ui rfl, ?_, ?_, ?_⟩
      · simp (disch := omega) only [up_ix, up_eq]
      · simp (disch := omega) only [up_ix, up_eq]
      · exact up_eq _ _ _ _
    have fin : (dpB n red W S (Rs r) x d = d) → ok (f105_159 51 (11 + r) bits (iz d) (iz (mN G' (cnt (dR n 0 0) (n * n)))) (iz D') t4.1) (lp ((d : Int) + 1) (fun w => fr Fz s w ∧ dpC w n red W S (Rs r) x (d + 1 - 1)) (fun o : xS × Unit => fr Fz s o.1 ∧ dpC o.1 n red W S (Rs r) x 9)) := by
      intro hbd
      refine upd.mono (fun o ho => ?_)
      cases o with
      | inr o => exact ho.elim
      | inl o =>
        obtain ⟨oi, ow⟩ := o
        obtain ⟨k1, k2, -, k3, k4, k5⟩ := ho
        refine ⟨k1, k2, by rw [k3, Nat.add_sub_cancel, hbd], fun _ => ⟨_, _, k4, k5, hmb.1, hmb.2, g3.1, g3.2.1, ?_⟩⟩
        rw [Nat.add_sub_cancel, hbd]
        exact hmost
    obtain ⟨g, rfl⟩ : ∃ g, d = g + 1 := ⟨d - 1, by omega⟩
    rw [Nat.add_sub_cancel] at e2
    have hbl := dpB_le (n := n) (red := red) (W := W) (S := S) (R := Rs r) (x := x) g
    rw [e2.1]
    by_cases g0 : g = 0
    · rw [it_eq_t (by subst g0; rfl)]
      exact fin (by subst g0; rfl)
    · rw [it_eq_f (by have := hbl.2 (by omega); omega) (by omega) (by omega) (by omega) (by omega)]
      obtain ⟨u, v, w1, w2, w3, w4, w5, w6, w7⟩ := e2.2 (by omega)
      obtain ⟨o1, o2, -, -⟩ := dp_bd (red := red) hx hws hv' hpl (show dpB n red W S (Rs r) x g ≤ 9 by omega)
      rw [w1, w2, iz_mul, iz_mul]
      have m1 := mbd (B := 2000000) (C := 32) (x := u) (y := D') (by omega) (by omega) (by have := g3.1; omega) g3.2.1
      have m2 := mbd (B := 2000000) (C := 32) (x := mN G' (cnt (dR n 0 0) (n * n))) (y := v) (by omega) (by omega) (by omega) (by omega)
      have hcmp : mN G' (cnt (dR n 0 0) (n * n)) * v < u * D' ↔ dpP n red W S (Rs r) x (g + 1) * dpE n red W S (Rs r) x (dpB n red W S (Rs r) x g) < dpP n red W S (Rs r) x (dpB n red W S (Rs r) x g) * dpE n red W S (Rs r) x (g + 1) := by
        have e1 : mN G' (cnt (dR n 0 0) (n * n)) * dpE n red W S (Rs r) x (g + 1) = dpP n red W S (Rs r) x (g + 1) * D' := hmost
        refine lt_scale (D := D' * v) (E := dpE n red W S (Rs r) x (g + 1) * dpE n red W S (Rs r) x (dpB n red W S (Rs r) x g)) (Int.mul_pos g3.1 w5) (Int.mul_pos p1 o1) ?_ ?_
        · grind
        · grind
      by_cases q : mN G' (cnt (dR n 0 0) (n * n)) * v < u * D'
      · rw [it_le_f q (by omega) (by omega)]
        refine fin ?_
        simp only [dpB]
        rw [if_neg g0, if_pos (hcmp.mp q)]
      · rw [it_le_t (by omega) (by omega) (by omega)]
        have hbd : dpB n red W S (Rs r) x (g + 1) = dpB n red W S (Rs r) x g := by
          simp only [dpB]
          rw [if_neg g0, if_neg (fun z => q (hcmp.mpr z))]
        unfold f105_176
        simp only [iz1, iz_add, ok_some, ok_map, lp_l, lp_r, lpA_l, lpA_r, true_and]
        refine ⟨f4, ?_, fun _ => ⟨u, v, ?_, ?_, w3, w4, w5, w6, ?_⟩⟩
        · rw [keep 12 (by omega), e2.1, Nat.add_sub_cancel, hbd]
        · rw [keep 13 (by omega), w1]
        · rw [keep 14 (by omega), w2]
        · rw [Nat.add_sub_cancel, hbd]; exact w7
  · unfold f105_47
    rw [iz9, it_lt_t (by omega) (by omega) (by omega)]
    simp only [ok_some, ok_map, lp_l, lp_r, lpA_l, lpA_r, true_and]
    exact ⟨e1, e2⟩
end DP
