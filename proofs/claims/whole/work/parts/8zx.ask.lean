/-! known, ask: both sides -/
section WX
variable {s : xS} {b n pl : Nat} {red slip : Int} {x : sS} {W S : Nat → Int} {st : Int32} {rc : Nat} {Rs : Nat → Rn} {m : Nat} {G : Nat → Sg}
theorem cl_offs' (h : Core s b n pl red slip x W S st rc Rs) (hW : WlI s n pl red x.1 W S m G) (hL : FtL s (fLs n red x.1 W S G m)) : ok (f118 72 s) (fun r => fr FWc s r.1 ∧ WlI r.1 n pl red x.1 W S m G ∧ OfS r.1 n 0 false (fLs n red x.1 W S G m) ∧ OfS r.1 n 2 true (fLs n red x.1 W S G m)) := by
  refine (cl_offs h hL hW.2.1).mono (fun r ⟨a1, a2, a3, a4⟩ => ⟨a1.mono Fof_c, ⟨hW.1.fr a1 ⟨rfl, rfl⟩ (fun _ => rfl), Or.inr ⟨a2, a3, a4⟩, hW.2.2.fr a1 rfl (fun _ => rfl)⟩, a3, a4⟩)
theorem cl_kn (h : Core s b n pl red slip x W S st rc Rs) (hW : WlI s n pl red x.1 W S m G) (hL : FtL s (fLs n red x.1 W S G m)) (hl : 0 < (fLs n red x.1 W S G m).length) {hi : Bool} {y : Int32} (hy : (y = iz 0 ∧ hi = false) ∨ (y ≠ iz 0 ∧ hi = true)) {p : Int} (p0 : 0 ≤ p) (p1 : p ≤ 1) : ok (if y = 0 then (hk_R 0 10).bind fun a17 => (f116 a17 (iz p) s).bind fun z20 => f158_57 z20.2 z20.1 else (hk_R 0 10).bind fun a22 => (f117 a22 (iz p) s).bind fun z25 => f158_57 z25.2 z25.1) (fun r => fr FWc s r.1 ∧ WlI r.1 n pl red x.1 W S m G ∧ ∃ q : Int × Int, bsO n hi (fLs n red x.1 W S G m) = some q ∧ 0 < q.2 ∧ r.2 = (lz (prt q.1 q.2.toNat p)).toInt32) := by
  obtain ⟨q, hq⟩ := bsO_ex (n := n) (hi := hi) hl
  simp only [R_0_10, Option.bind_some]
  unfold f158_57
  rcases hy with ⟨rfl, rfl⟩ | ⟨hy, rfl⟩
  · rw [if_pos iz0.symm]
    unfold f116
    rw [ifg_pos O_72]
    simp only [bind_assoc']
    refine (cl_offs' h hW hL).bind (fun r ⟨a1, a2, a3, a4⟩ => ?_)
    obtain ⟨g, D, b1, b2, b3⟩ := a3 q hq
    obtain ⟨g0, g1, D0, D1, e1, e2⟩ := b3
    simp (disch := omega) only [R_72_15, A_81, Option.bind_some, iz0, iz1, iz_in, iz_n, nat_toNat, if_true]
    rw [show ((1 : Int)).toNat = 0 + 1 from rfl, show ((0 : Int)).toNat = 0 from rfl, b1, b2, iz_l (by omega) (by omega), iz_l (by omega) (by omega), lowC (by omega) (by omega) (by omega) (by omega) (by omega) (by omega)]
    simp only [Option.bind_some, ok_some]
    exact ⟨a1, a2, q, hq, e2, by rw [prt_E D0 e2 e1]⟩
  · rw [if_neg (by rw [iz0]; exact hy)]
    unfold f117
    rw [ifg_pos O_72]
    simp only [bind_assoc']
    refine (cl_offs' h hW hL).bind (fun r ⟨a1, a2, a3, a4⟩ => ?_)
    obtain ⟨g, D, b1, b2, b3⟩ := a4 q hq
    obtain ⟨g0, g1, D0, D1, e1, e2⟩ := b3
    simp (disch := omega) only [R_72_15, A_81, Option.bind_some, iz2, iz3, iz_in, iz_n, nat_toNat, if_true]
    rw [show ((3 : Int)).toNat = 2 + 1 from rfl, show ((2 : Int)).toNat = 2 from rfl, b1, b2, iz_l (by omega) (by omega), iz_l (by omega) (by omega), lowC (by omega) (by omega) (by omega) (by omega) (by omega) (by omega)]
    simp only [Option.bind_some, ok_some]
    exact ⟨a1, a2, q, hq, e2, by rw [prt_E D0 e2 e1]⟩
theorem c_known (h : Core s b n pl red slip x W S st rc Rs) (hS : SgI s pl n m G) (hW : WlI s n pl red x.1 W S m G) (y : Int32) {p : Int} (p0 : -2147483648 ≤ p) (p1 : p ≤ 2147483647) : ok (f158 0 y (iz p) s) (fun r1 => ok (f270 101 y (iz p) r1.1) (fun r2 => r2.2 = r1.2 ∧ fr FWU s r2.1 ∧ WlI r2.1 n pl red x.1 W S m G)) := by
  have ln := fLs_len (n := n) (red := red) (H := x.1) (W := W) (S := S) (G := G) m
  unfold f158
  rw [ifg_pos O_0]
  by_cases g : 0 ≤ p ∧ p ≤ 1
  · rw [g_part_t p0 p1 g]
    simp only [R_0_10, Option.bind_some]
    rw [iz0, it_eq_f (by omega) (by omega) (by omega) (by omega) (by omega), cl_spent h]
    simp only [Option.bind_some]
    by_cases q : n = 5
    · rw [if_pos q, it_eq_f (by omega) (by omega) (by omega) (by omega) (by omega), ok_some]
      unfold f270
      rw [ifg_pos O_101, g_mpart_t p0 p1 g]
      simp only [Option.bind_some]
      rw [iz0, it_eq_f (by omega) (by omega) (by omega) (by omega) (by omega), mo_spent h, if_pos q]
      simp only [Option.bind_some]
      rw [it_eq_f (by omega) (by omega) (by omega) (by omega) (by omega), ok_some]
      exact ⟨rfl, fr.rf _ _, hW⟩
    · rw [if_neg q, it_eq_t rfl]
      refine (cl_count' h hS hW).bind (fun r1 ⟨a1, a2, a3, a4, a5, a6⟩ => ?_)
      obtain ⟨hi, hy⟩ : ∃ hi : Bool, (y = iz 0 ∧ hi = false) ∨ (y ≠ iz 0 ∧ hi = true) := by
        by_cases e : y = iz 0
        · exact ⟨false, Or.inl ⟨e, rfl⟩⟩
        · exact ⟨true, Or.inr ⟨e, rfl⟩⟩
      rw [a6]
      by_cases e : (fLs n red x.1 W S G m).length = 0
      · rw [it_eq_t (by rw [e]; rfl), ok_some]
        refine (mo_known a2 a3 q hy g.1 g.2).mono (fun r2 ⟨b1, b2⟩ => ⟨?_, (a1.mono FWc_WU).tr (b1.mono Fz_WU), WlI_z a4 b1⟩)
        have e0 : fLs n red x.1 W S G m = [] := List.length_eq_zero_iff.mp e
        rcases b2 with ⟨-, b2⟩ | ⟨q, b2, -⟩
        · rw [b2]
          exact izm1.symm
        · rw [e0] at b2
          cases b2
      · rw [it_eq_f (by omega) (by omega) (by omega) (by omega) (by omega)]
        have k1 := cl_kn a2 a4 a5 (by omega) hy g.1 g.2
        simp only [R_0_10, Option.bind_some, iz0] at k1
        refine k1.mono (fun r ⟨d1, d2, v, d3, d4, d5⟩ => ?_)
        refine (mo_known (Core_Wc a2 d1) (SgI_Wc a3 d1) q hy g.1 g.2).mono (fun r2 ⟨b1, b2⟩ => ⟨?_, ((a1.tr d1).mono FWc_WU).tr (b1.mono Fz_WU), WlI_z d2 b1⟩)
        rcases b2 with ⟨b2, -⟩ | ⟨v', b2, b3, b4⟩
        · rw [d3] at b2
          cases b2
        · rw [d3] at b2
          cases b2
          rw [b4, d5]
  · rw [g_part_f p0 p1 g]
    simp only [Option.bind_some]
    rw [iz0, it_eq_t rfl, ok_some]
    unfold f270
    rw [ifg_pos O_101, g_mpart_f p0 p1 g]
    simp only [Option.bind_some]
    rw [iz0, it_eq_t rfl, ok_some]
    exact ⟨rfl, fr.rf _ _, hW⟩
/-! ask -/
noncomputable def askV (o : Option Nat × Nat) (w : Int) : Int32 := match o.1 with
  | none => iz (-1)
  | some j => if w = 0 then iz ((j / 4 : Nat) : Int) else if w = 1 then iz ((j % 4 : Nat) : Int) else iz o.2
theorem askV_s {o : Option Nat × Nat} {j : Nat} (h : o.1 = some j) (w : Int) : askV o w = if w = 0 then iz ((j / 4 : Nat) : Int) else if w = 1 then iz ((j % 4 : Nat) : Int) else iz o.2 := by unfold askV; rw [h]
theorem askV_n {o : Option Nat × Nat} (h : o.1 = none) (w : Int) : askV o w = iz (-1) := by unfold askV; rw [h]
theorem mo_pl (h : Core s b n pl red slip x W S st rc Rs) : aI s 105 (s.1 101 25) = some (iz pl) := by
  have h1 := iz_of h.mn.1
  have h2 := h.mn.2.1
  rw [h1, A_105]
  simp (disch := omega) only [iz_in, iz_n, nat_toNat, if_true]
  rw [h.2.1.2.1]
set_option maxHeartbeats 400000 in
theorem mo_ask (h : Core s b n pl red slip x W S st rc Rs) (hS : SgI s pl n m G) (hn : n ≠ 5) (hpl : 0 < pl) {w : Int} (w0 : 0 ≤ w) (w2 : w ≤ 2) : ok (f272 101 (iz w) s) (fun r => fr Fz s r.1 ∧ r.2 = askV (aO n red x.1 W S (fLs n red x.1 W S G m) (4 * pl)) w) := by
  have p4 := h.p4
  have ln := fLs_len (n := n) (red := red) (H := x.1) (W := W) (S := S) (G := G) m
  unfold f272
  rw [ifg_pos O_101]
  simp (disch := omega) only [iz0, iz2, g_in_t, Option.bind_some, R_101_12]
  rw [it_eq_f (by omega) (by omega) (by omega) (by omega) (by omega), mo_pl h]
  simp only [Option.bind_some]
  rw [it_eq_f (by omega) (by omega) (by omega) (by omega) (by omega), mo_spent h, if_neg hn]
  simp only [Option.bind_some]
  rw [if_pos trivial]
  refine forzG (body := fun q : (Int32 × Int32 × Int32 × xS) => f272_40 101 (iz w) q.1 q.2.1 q.2.2.1 q.2.2.2) (fun (a : Int32 × Int32) i y => (a.1, a.2, i, y)) (fun k a y => fr Fz s y ∧ a.2 = iz (aO n red x.1 W S (fLs n red x.1 W S G m) k).2 ∧ (((aO n red x.1 W S (fLs n red x.1 W S G m) k).1 = none ∧ a.1 = iz (-1)) ∨ ∃ j, (aO n red x.1 W S (fLs n red x.1 W S G m) k).1 = some j ∧ a.1 = iz (j : Nat))) 0 (4 * pl) (c0 := (-1, iz 0)) (by omega) ⟨fr.rf _ _, rfl, Or.inl ⟨rfl, izm1⟩⟩ (fun k a y _ hk ⟨c1, c2, c3⟩ => ?_) (fun a y ⟨c1, c2, c3⟩ => ?_)
  · have hy := Core_scr h c1
    have q1 := (aO_le (n := n) (red := red) (H := x.1) (W := W) (S := S) (L := fLs n red x.1 W S G m) k).1
    have q2 := dsO_len (n := n) (red := red) (H := x.1) (W := W) (S := S) (p := k / 4) (t := k % 4) (L := fLs n red x.1 W S G m)
    have key : ok (f272_40 101 (iz w) a.1 a.2 (iz k) y) (fun r => ∃ (c' : Int32 × Int32) (y' : xS), r = .inl (c'.1, c'.2, iz ((k : Int) + 1), y') ∧ fr Fz s y' ∧ c'.2 = iz (aO n red x.1 W S (fLs n red x.1 W S G m) (k + 1)).2 ∧ (((aO n red x.1 W S (fLs n red x.1 W S G m) (k + 1)).1 = none ∧ c'.1 = iz (-1)) ∨ ∃ j, (aO n red x.1 W S (fLs n red x.1 W S G m) (k + 1)).1 = some j ∧ c'.1 = iz (j : Nat))) := by
      unfold f272_40 f272_85
      simp only [R_101_12, Option.bind_some, mo_pl hy, iz4, iz_mul]
      rw [it_le_f (by omega) (by omega) (by omega), show iz (k : Int) / iz 4 = iz ((k / 4 : Nat) : Int) from iz_divN (b := 4) (by omega) (by omega) (by omega), show irm (iz (k : Int)) (iz 4) = iz ((k % 4 : Nat) : Int) from iz_remN (b := 4) (by omega) (by omega) (by omega)]
      refine (mo_unlike hy (SgI_z hS c1) (show k / 4 < pl by omega) (show k % 4 ≤ 3 by omega)).bind (fun r ⟨d1, d2⟩ => ?_)
      rw [aO]
      unfold aS
      rw [d2, c2]
      by_cases e : (aO n red x.1 W S (fLs n red x.1 W S G m) k).2 < (dsO n red x.1 W S (k / 4) (k % 4) (fLs n red x.1 W S G m)).length
      · rw [it_lt_t (by omega) (by omega) (by omega), if_pos e, ok_some, iz1, iz_add]
        exact ⟨(iz k, iz (dsO n red x.1 W S (k / 4) (k % 4) (fLs n red x.1 W S G m)).length), r.1, rfl, c1.tr d1, rfl, Or.inr ⟨k, rfl, rfl⟩⟩
      · rw [it_lt_f (by omega) (by omega) (by omega), if_neg e, ok_some, iz1, iz_add]
        exact ⟨(a.1, iz (aO n red x.1 W S (fLs n red x.1 W S G m) k).2), r.1, rfl, c1.tr d1, rfl, c3⟩
    obtain ⟨r, e1, c', y', e2, e3⟩ := key
    rw [e2] at e1
    exact ⟨c', y', e1, e3⟩
  · have hy := Core_scr h c1
    obtain ⟨q1, q2, q3⟩ := aO_le (n := n) (red := red) (H := x.1) (W := W) (S := S) (L := fLs n red x.1 W S G m) (4 * pl)
    have key : ok (f272_40 101 (iz w) a.1 a.2 (iz ((4 * pl : Nat) : Int)) y) (fun r => ∃ v, r = .inr v ∧ fr Fz s v.1 ∧ v.2 = askV (aO n red x.1 W S (fLs n red x.1 W S G m) (4 * pl)) w) := by
      unfold f272_40 f272_121
      simp only [R_101_12, Option.bind_some, mo_pl hy, iz4, iz_mul]
      rw [it_le_t (by omega) (by omega) (by omega), ok_map]
      rcases c3 with ⟨c3, c4⟩ | ⟨j, c3, c4⟩
      · rw [c4, iz0, it_le_f (by omega) (by omega) (by omega), ok_some]
        exact ⟨_, rfl, c1, by rw [askV_n c3]; exact izm1⟩
      · have hj := q3 j c3
        rw [c4, iz0, it_le_t (by omega) (by omega) (by omega), c2, show iz (j : Int) / iz 4 = iz ((j / 4 : Nat) : Int) from iz_divN (b := 4) (by omega) (by omega) (by omega), show irm (iz (j : Int)) (iz 4) = iz ((j % 4 : Nat) : Int) from iz_remN (b := 4) (by omega) (by omega) (by omega), askV_s c3]
        by_cases e0 : w = 0
        · rw [it_eq_t e0, if_pos e0, ok_some]
          exact ⟨_, rfl, c1, rfl⟩
        · rw [it_eq_f e0 (by omega) (by omega) (by omega) (by omega), if_neg e0, iz1]
          by_cases e1 : w = 1
          · rw [it_eq_t e1, if_pos e1, ok_some]
            exact ⟨_, rfl, c1, rfl⟩
          · rw [it_eq_f e1 (by omega) (by omega) (by omega) (by omega), if_neg e1, ok_some]
            exact ⟨_, rfl, c1, rfl⟩
    obtain ⟨r, e1, v, e2, e3⟩ := key
    rw [e2] at e1
    exact ⟨v, e1, e3⟩
theorem cl_ask16 {o : Option Nat × Nat} (hA : AkR s o) {j : Nat} (hj : o.1 = some j) {w : Int} (w0 : 0 ≤ w) (w2 : w ≤ 2) : f119_16 72 (iz w) s = some (s, askV o w) := by
  obtain ⟨a1, a2⟩ := hA
  obtain ⟨a2, a3⟩ := a2 j hj
  unfold f119_16 f119_39
  rw [iz0, it_lt_f (by omega) (by omega) (by omega)]
  simp only [R_72_13, Option.bind_some, N_80, iz3]
  rw [it_le_f (by omega) (by omega) (by omega)]
  simp (disch := omega) only [A_80, Option.bind_some, iz_in, iz_n, nat_toNat, if_true]
  rw [askV_s hj]
  have : w = 0 ∨ w = 1 ∨ w = 2 := by omega
  rcases this with rfl | rfl | rfl
  · rw [if_pos rfl, show ((0 : Int)).toNat = 0 from rfl, a2]
  · rw [if_neg (by omega), if_pos rfl, show ((1 : Int)).toNat = 1 from rfl, a3]
  · rw [if_neg (by omega), if_neg (by omega), show ((2 : Int)).toNat = 2 from rfl, a1]
theorem cl_answer (h : Core s b n pl red slip x W S st rc Rs) (hW : WlI s n pl red x.1 W S m G) (hL : FtL s (fLs n red x.1 W S G m)) (hl : 0 < (fLs n red x.1 W S G m).length) (hpl : 0 < pl) {w : Int} (w0 : 0 ≤ w) (w2 : w ≤ 2) : ok (f119 72 (iz w) s) (fun r => fr FWc s r.1 ∧ WlI r.1 n pl red x.1 W S m G ∧ r.2 = askV (aO n red x.1 W S (fLs n red x.1 W S G m) (4 * pl)) w) := by
  obtain ⟨j, hj⟩ := aO_some (n := n) (red := red) (H := x.1) (W := W) (S := S) hl (show 0 < 4 * pl by omega)
  unfold f119
  rw [ifg_pos O_72]
  rcases hW.2.2 with h1 | ⟨h1, h2⟩
  · rw [h1, iz0, it_eq_t rfl]
    simp only [pI, Option.bind_some, iz1]
    have f0 : fr FWc s (xm_up s.1 72 14 (iz 1), s.2) := (fr.rf FWc s).ui (v := iz 1) (id := 72) (k := 14) rfl
    have g0 : fr (fun id k => id == 72 && k == 14) s (xm_up s.1 72 14 (iz 1), s.2) := (fr.rf (fun id k => id == 72 && k == 14) s).ui (v := iz 1) (id := 72) (k := 14) rfl
    refine (cl_findA (Core_Wc h f0) (hL.fr g0 rfl (fun _ => rfl)) (fLs_len m) (fun j N hj => fLs_lt hj)).bind (fun r ⟨a1, a2⟩ => ?_)
    rw [cl_ask16 a2 hj w0 w2, ok_some]
    refine ⟨f0.tr (a1.mono Fak_c), ⟨(hW.1.fr g0 ⟨rfl, rfl⟩ (fun _ => rfl)).fr a1 ⟨rfl, rfl⟩ (fun _ => rfl), (hW.2.1.fr g0 rfl (fun _ => rfl)).fr a1 rfl (fun _ => rfl), Or.inr ⟨?_, a2⟩⟩, rfl⟩
    rw [a1.i 72 14 rfl]
    exact up_eqP _ _ _ _ _
  · rw [h1, iz0, it_eq_f (by omega) (by omega) (by omega) (by omega) (by omega), cl_ask16 h2 hj w0 w2, ok_some]
    exact ⟨fr.rf _ _, hW, rfl⟩
theorem c_ask (h : Core s b n pl red slip x W S st rc Rs) (hS : SgI s pl n m G) (hW : WlI s n pl red x.1 W S m G) {w : Int} (w0 : -2147483648 ≤ w) (w1 : w ≤ 2147483647) : ok (f159 0 (iz w) s) (fun r1 => ok (f272 101 (iz w) r1.1) (fun r2 => r2.2 = r1.2 ∧ fr FWU s r2.1 ∧ WlI r2.1 n pl red x.1 W S m G)) := by
  have p4 := h.p4
  have ln := fLs_len (n := n) (red := red) (H := x.1) (W := W) (S := S) (G := G) m
  by_cases g : 0 ≤ w ∧ w ≤ 2
  · obtain ⟨g0, g2⟩ := g
    unfold f159 f159_19 f159_56
    rw [ifg_pos O_0, iz0, it_lt_f (by omega) (by omega) (by omega), iz2, it_lt_f (by omega) (by omega) (by omega)]
    simp only [R_0_1, R_0_10, Option.bind_some]
    rw [h.1.1]
    by_cases gp : pl = 0
    · subst gp
      rw [it_eq_t (show ((0 : Nat) : Int) = 0 from rfl), ok_some]
      unfold f272 f272_21
      rw [ifg_pos O_101]
      simp (disch := omega) only [iz0, iz2, g_in_t, Option.bind_some, R_101_12]
      rw [it_eq_f (by omega) (by omega) (by omega) (by omega) (by omega), mo_pl h]
      simp only [Option.bind_some]
      rw [it_eq_t (show ((0 : Nat) : Int) = 0 from rfl), ok_some]
      exact ⟨rfl, fr.rf _ _, hW⟩
    · rw [it_eq_f (by omega) (by omega) (by omega) (by omega) (by omega), cl_spent h]
      simp only [Option.bind_some]
      by_cases q : n = 5
      · rw [if_pos q, it_eq_f (by omega) (by omega) (by omega) (by omega) (by omega), ok_some]
        unfold f272
        rw [ifg_pos O_101]
        simp (disch := omega) only [iz0, iz2, g_in_t, Option.bind_some, R_101_12]
        rw [it_eq_f (by omega) (by omega) (by omega) (by omega) (by omega), mo_pl h]
        simp only [Option.bind_some]
        rw [it_eq_f (by omega) (by omega) (by omega) (by omega) (by omega), mo_spent h, if_pos q]
        simp only [Option.bind_some]
        rw [it_eq_f (by omega) (by omega) (by omega) (by omega) (by omega), ok_some]
        exact ⟨rfl, fr.rf _ _, hW⟩
      · rw [if_neg q, it_eq_t rfl]
        refine (cl_count' h hS hW).bind (fun r1 ⟨a1, a2, a3, a4, a5, a6⟩ => ?_)
        rw [a6]
        by_cases e : (fLs n red x.1 W S G m).length = 0
        · rw [it_eq_t (by rw [e]; rfl), ok_some]
          refine (mo_ask a2 a3 q (by omega) g0 g2).mono (fun r2 ⟨b1, b2⟩ => ⟨?_, (a1.mono FWc_WU).tr (b1.mono Fz_WU), WlI_z a4 b1⟩)
          rw [b2, askV_n (by rw [aO_none e])]
          exact izm1.symm
        · rw [it_eq_f (by omega) (by omega) (by omega) (by omega) (by omega)]
          refine (cl_answer a2 a4 a5 (by omega) (by omega) g0 g2).bind (fun r ⟨d1, d2, d3⟩ => ?_)
          rw [ok_some]
          refine (mo_ask (Core_Wc a2 d1) (SgI_Wc a3 d1) q (by omega) g0 g2).mono (fun r2 ⟨b1, b2⟩ => ⟨by rw [b2, d3], ((a1.tr d1).mono FWc_WU).tr (b1.mono Fz_WU), WlI_z d2 b1⟩)
  · have e1 : f159 0 (iz w) s = some (s, -1) := by
      unfold f159 f159_19
      rw [ifg_pos O_0]
      by_cases u : w < 0
      · rw [iz0, it_lt_t (by omega) (by omega) (by omega)]
      · rw [iz0, it_lt_f (by omega) (by omega) (by omega), iz2, it_lt_t (by omega) (by omega) (by omega)]
    rw [e1, ok_some]
    unfold f272 f272_21
    rw [ifg_pos O_101]
    simp (disch := omega) only [iz0, iz2, g_in_f, Option.bind_some, R_101_12]
    rw [if_pos trivial, ok_some]
    exact ⟨rfl, fr.rf _ _, hW⟩
end WX
