/-! strokes: heights, iron and w -/
abbrev sS : Type := (Nat → Int) × Int32 × Int32
def tk (a : Nat) (m : Int) (x : sS) : sS := if x.1 a < -999 then x else (fun k => if k = a then x.1 a - m else x.1 k, x.2.1 + iz m, x.2.2)
theorem dw_ex : ∃ f : Int32 → Int32, ∀ w, f w = w * 1103515245 + 12345 := ⟨_, fun _ => rfl⟩
theorem dr_ex : ∃ f : Int32 → Int32, ∀ w, f w = irm (xm_ush w 16) 8 := ⟨_, fun _ => rfl⟩
/-- a draw (names that do not unfold) -/
noncomputable def dw : Int32 → Int32 := Classical.choose dw_ex
noncomputable def dr : Int32 → Int32 := Classical.choose dr_ex
theorem dw_eq (w : Int32) : w * 1103515245 + 12345 = dw w := (Classical.choose_spec dw_ex w).symm
theorem dr_eq (w : Int32) : irm (xm_ush w 16) 8 = dr w := (Classical.choose_spec dr_ex w).symm
/-- what comes behind the deep of a stroke -/
noncomputable def sl1 (n : Nat) (slip : Int) (b c : Nat) (x : sS) : sS :=
  if slip ≤ 0 then x else if iz slip ≤ dr (dw x.2.2) then (x.1, x.2.1, dw x.2.2) else if n - 1 ≤ c % n then tk (b + c) 1 (x.1, x.2.1, dw x.2.2) else tk (b + c + 1) 1 (tk (b + c) 1 (x.1, x.2.1, dw x.2.2))
noncomputable def scr (n : Nat) (slip dp : Int) (b : Nat) (r : Nat → Bool) : Nat → sS → sS × Nat
  | 0, x => (x, 0)
  | c + 1, x => if r c = true ∧ -999 ≤ (scr n slip dp b r c x).1.1 (b + c) then (sl1 n slip b c (tk (b + c) dp (scr n slip dp b r c x).1), (scr n slip dp b r c x).2 + 1) else scr n slip dp b r c x
def Hb (x : sS) : Prop := ∀ k, k < 100 → -1010 ≤ x.1 k ∧ x.1 k ≤ 99
theorem tk_b {a : Nat} {m : Int} {x : sS} (h : Hb x) (ha : a < 100) (m0 : 0 ≤ m) (m9 : m ≤ 9) : Hb (tk a m x) := by
  unfold tk
  split
  · exact h
  · rename_i q
    intro k hk
    have h1 := h k hk
    have h2 := h a ha
    dsimp only
    split
    · omega
    · exact h1
theorem Hb_w {x : sS} (h : Hb x) (w : Int32) : Hb (x.1, x.2.1, w) := fun k hk => h k hk
theorem sl1_b {n : Nat} {slip : Int} {b c : Nat} {x : sS} (h : Hb x) (hb : b + n * n ≤ 100) (hc : c < n * n) : Hb (sl1 n slip b c x) := by
  have h1 : Hb (x.1, x.2.1, dw x.2.2) := Hb_w h _
  unfold sl1
  split
  · exact h
  · split
    · exact h1
    · split
      · exact tk_b h1 (by omega) (by omega) (by omega)
      · rename_i q
        have : c + 1 < n * n := by
          have e := Nat.div_add_mod c n
          have e2 : c / n < n := Nat.div_lt_of_lt_mul hc
          have e3 : n * (c / n) + n ≤ n * n := by
            have := Nat.mul_le_mul_left n (show c / n + 1 ≤ n by omega)
            rw [Nat.mul_add, Nat.mul_one] at this
            exact this
          omega
        exact tk_b (tk_b h1 (by omega) (by omega) (by omega)) (by omega) (by omega) (by omega)
theorem scr_b {n : Nat} {slip dp : Int} {b : Nat} {r : Nat → Bool} {x : sS} (h : Hb x) (hb : b + n * n ≤ 100) (d0 : 0 ≤ dp) (d9 : dp ≤ 9) : ∀ c, c ≤ n * n → Hb (scr n slip dp b r c x).1 := by
  intro c
  induction c with
  | zero => intro _; exact h
  | succ c ih =>
    intro hc
    have h1 := ih (by omega)
    rw [scr]
    split
    · exact sl1_b (tk_b h1 (by omega) d0 d9) hb (by omega)
    · exact h1
theorem scr_n {n : Nat} {slip dp : Int} {b : Nat} {r : Nat → Bool} {x : sS} : ∀ c, (scr n slip dp b r c x).2 ≤ c := by
  intro c
  induction c with
  | zero => exact Nat.le_refl _
  | succ c ih =>
    rw [scr]
    split
    · exact Nat.succ_le_succ ih
    · omega
/-- a bench of the class with its heights, iron, w -/
def BS (s : xS) (id : Nat) (x : sS) : Prop := (∀ k, k < 100 → s.1 (id + 1) k = iz (x.1 k)) ∧ s.1 id 4 = x.2.1 ∧ s.1 id 5 = x.2.2
def FB (id a k : Nat) : Bool := a == id + 1 || (a == id && Nat.ble 3 k && Nat.ble k 5)
def FT (id a k : Nat) : Bool := a == id + 1 || (a == id && Nat.ble 4 k && Nat.ble k 5)
theorem FT_FB (id a k : Nat) (h : FT id a k = true) : FB id a k = true := by
  unfold FT at h
  unfold FB
  simp only [Bool.or_eq_true, Bool.and_eq_true, beq_iff_eq, Nat.ble_eq] at h ⊢
  omega
theorem FT_1 (id k : Nat) : FT id (id + 1) k = true := by simp [FT]
theorem FT_4 (id : Nat) : FT id id 4 = true := by simp [FT]
theorem FT_5 (id : Nat) : FT id id 5 = true := by simp [FT]
theorem cl_take {s : xS} {id : Nat} (hB : isB id) {x : sS} (h : BS s id x) (hx : Hb x) {a : Nat} (ha : a < 100) {m : Int} : ok (f10 id (iz a) (iz m) s) (fun r => fr (FT id) s r.1 ∧ BS r.1 id (tk a m x)) := by
  obtain ⟨k1, k2, k3⟩ := B_ks hB
  obtain ⟨h1, h2, h3⟩ := h
  have e := h1 a ha
  have hxa := hx a ha
  unfold f10 tk
  rw [ifg_pos (B_O hB)]
  by_cases q : x.1 a < -999
  · rw [if_pos q]
    simp (disch := omega) only [B_0 hB, iz0, iz1, iz2, iz3, iz4, iz5, iz7, iz8, iz9, iz10, iz15, iz20, iz25, iz30, iz40, iz49, iz99, iz100, iz300, iz343, iz500, iz999, iz1000, iz1200, iz_add, iz_sub, iz_mul, iz_neg, it_le_t, it_le_f, it_lt_t, it_lt_f, it_eq_t, it_eq_f, bz0, bz1, ifg_T, or_true, true_or, if_true, if_false, Option.bind_some, Option.map_some, iz_in, iz_n, nat_toNat, aI_k k1, e, show (999 : Int32) = iz 999 from iz999, ok_some, ok_map, lp_l, lp_r, lpA_l, lpA_r, true_and]
    exact ⟨fr.rf _ _, h1, h2, h3⟩
  · rw [if_neg q]
    simp (disch := omega) only [B_0 hB, iz0, iz1, iz2, iz3, iz4, iz5, iz7, iz8, iz9, iz10, iz15, iz20, iz25, iz30, iz40, iz49, iz99, iz100, iz300, iz343, iz500, iz999, iz1000, iz1200, iz_add, iz_sub, iz_mul, iz_neg, it_le_t, it_le_f, it_lt_t, it_lt_f, it_eq_t, it_eq_f, bz0, bz1, ifg_T, or_true, true_or, if_true, if_false, Option.bind_some, Option.map_some, iz_in, iz_n, nat_toNat, aI_k k1, wI_k k1, e, pI, up_id, ok_some, ok_map, lp_l, lp_r, lpA_l, lpA_r, true_and]
    refine ⟨((fr.rf _ _).ui (FT_1 id a)).ui (FT_4 id), fun k hk => ?_, ?_, ?_⟩
    · by_cases q2 : k = a
      · subst q2
        simp (disch := omega) only [up_id, up_eq, if_true]
      · simp (disch := omega) only [up_id, up_ix, if_neg q2]
        exact h1 k hk
    · dsimp only
      rw [up_eq, h2]
    · simp (disch := omega) only [up_id, up_ix]
      exact h3
theorem cl_draw {s : xS} {id : Nat} (hB : isB id) {x : sS} (h : BS s id x) : ok (f11 id s) (fun r => fr (FT id) s r.1 ∧ BS r.1 id (x.1, x.2.1, dw x.2.2) ∧ r.2 = dr (dw x.2.2)) := by
  obtain ⟨h1, h2, h3⟩ := h
  unfold f11
  rw [ifg_pos (B_O hB)]
  simp only [pI, Option.bind_some, ok_some, dw_eq, dr_eq, up_eq, h3, and_true]
  refine ⟨(fr.rf _ _).ui (FT_5 id), fun k hk => ?_, ?_, ?_⟩
  · simp (disch := omega) only [up_id]; exact h1 k hk
  · simp (disch := omega) only [up_ix]; exact h2
  · exact up_eq _ _ _ _
theorem cl_stroke {s : xS} {id : Nat} (hB : isB id) {x : sS} (h : BS s id x) (hx : Hb x) {n p c : Nat} (n3 : 3 ≤ n) (n5 : n ≤ 5) (hp : p < 4) (hc : c < n * n) {dp slip : Int} (d1 : 1 ≤ dp) (d9 : dp ≤ 9) (s0 : 0 ≤ slip) (s8 : slip ≤ 8) :
    ok (f9 id (iz p) (iz c) (iz dp) (iz slip) (iz n) s) (fun r => fr (FB id) s r.1 ∧ if x.1 (25 * p + c) < -999 then r.1 = s ∧ r.2 = 0 else BS r.1 id (sl1 n slip (25 * p) c (tk (25 * p + c) dp x)) ∧ r.1.1 id 3 = s.1 id 3 + 1 ∧ r.2 = 1) := by
  have sq : n * n ≤ 25 := mul_le_nat n5 n5
  obtain ⟨k1, k2, k3⟩ := B_ks hB
  have e := h.1 (25 * p + c) (by omega)
  have hxa := hx (25 * p + c) (by omega)
  have e2 : ((p : Int) * 25 + c).toNat = 25 * p + c := by omega
  have e3 : iz ((p : Int) * 25 + c) = iz ((25 * p + c : Nat) : Int) := by congr 1; omega
  have e4 : iz ((p : Int) * 25 + c + 1) = iz ((25 * p + c + 1 : Nat) : Int) := by congr 1; omega
  have t3 : FT id id 3 = false := by simp [FT]
  unfold f9 f9_81
  rw [ifg_pos (B_O hB)]
  simp (disch := omega) only [B_0 hB, Option.bind_some, iz25, iz_mul, iz_add, aI_k k1, iz_in, iz_n, nat_toNat, e2, e, if_true, e3, show (-999 : Int32) = iz (-999) from izm999]
  by_cases q : x.1 (25 * p + c) < -999
  · rw [it_le_f (by omega) (by omega) (by omega), ok_some, if_pos q]
    exact ⟨fr.rf _ _, rfl, rfl⟩
  · rw [it_le_t (by omega) (by omega) (by omega)]
    simp only [if_neg q]
    have hx1 := tk_b hx (show 25 * p + c < 100 by omega) (show 0 ≤ dp by omega) d9
    refine (cl_take hB h hx (show 25 * p + c < 100 by omega)).bind (fun r1 ⟨a1, a2⟩ => ?_)
    simp only [pI, Option.bind_some]
    have b1 : fr (FB id) s (xm_up r1.1.1 id 3 (r1.1.1 id 3 + 1), r1.1.2) := (a1.mono (FT_FB id)).ui (by simp [FB])
    have b2 : BS (xm_up r1.1.1 id 3 (r1.1.1 id 3 + 1), r1.1.2) id (tk (25 * p + c) dp x) := ⟨fun k hk => by simp (disch := omega) only [up_id]; exact a2.1 k hk, by simp (disch := omega) only [up_ix]; exact a2.2.1, by simp (disch := omega) only [up_ix]; exact a2.2.2⟩
    have b3 : (xm_up r1.1.1 id 3 (r1.1.1 id 3 + 1)) id 3 = s.1 id 3 + 1 := by rw [up_eq, a1.i id 3 t3]
    generalize hS : (xm_up r1.1.1 id 3 (r1.1.1 id 3 + 1), r1.1.2) = S at b1 b2
    have b4 : S.1 id 3 = s.1 id 3 + 1 := by rw [← hS]; exact b3
    generalize hy : tk (25 * p + c) dp x = y at b2 hx1 ⊢
    rw [iz0]
    by_cases z : slip ≤ 0
    · rw [it_le_t z (by omega) (by omega), ok_some]
      unfold sl1
      rw [if_pos z]
      exact ⟨b1, b2, b4, rfl⟩
    · rw [it_le_f (by omega) (by omega) (by omega)]
      unfold sl1
      rw [if_neg z]
      refine (cl_draw hB b2).bind (fun r2 ⟨c1, c2, c3⟩ => ?_)
      rw [c3]
      have c4 : r2.1.1 id 3 = s.1 id 3 + 1 := by rw [c1.i id 3 t3]; exact b4
      have c5 := b1.tr (c1.mono (FT_FB id))
      by_cases z2 : iz slip ≤ dr (dw y.2.2)
      · rw [if_pos z2, if_pos z2, ok_some]
        exact ⟨c5, c2, c4, rfl⟩
      · rw [if_neg z2, if_neg z2]
        have hx2 : Hb (y.1, y.2.1, dw y.2.2) := Hb_w hx1 _
        rw [iz1]
        refine (cl_take hB c2 hx2 (show 25 * p + c < 100 by omega)).bind (fun r3 ⟨g1, g2⟩ => ?_)
        have g3 : r3.1.1 id 3 = s.1 id 3 + 1 := by rw [g1.i id 3 t3]; exact c4
        have g4 := c5.tr (g1.mono (FT_FB id))
        have hmod : c % n < n := Nat.mod_lt _ (by omega)
        rw [nz' (by omega) (by omega) (by omega), iz_remN (by omega) (by omega) (by omega), iz_sub]
        generalize hmm : c % n = mm at hmod
        by_cases z3 : n - 1 ≤ mm
        · rw [it_le_t (by omega) (by omega) (by omega), if_pos z3, ok_some]
          exact ⟨g4, g2, by rw [g3, iz1], rfl⟩
        · rw [it_le_f (by omega) (by omega) (by omega), if_neg z3]
          have hc1 : c + 1 < n * n := by
            have w1 := Nat.div_add_mod c n
            have w2 : c / n < n := Nat.div_lt_of_lt_mul hc
            have w3 : n * (c / n) + n ≤ n * n := by
              have := Nat.mul_le_mul_left n (show c / n + 1 ≤ n by omega)
              rw [Nat.mul_add, Nat.mul_one] at this
              exact this
            omega
          have e5 : iz ((25 * p + c : Nat) : Int) + iz 1 = iz ((25 * p + c + 1 : Nat) : Int) := by rw [iz_add]; congr 1
          rw [e5]
          have hx3 := tk_b hx2 (show 25 * p + c < 100 by omega) (show (0 : Int) ≤ 1 by omega) (by omega)
          refine (cl_take hB g2 hx3 (show 25 * p + c + 1 < 100 by omega)).bind (fun r4 ⟨l1, l2⟩ => ?_)
          rw [ok_some]
          exact ⟨g4.tr (l1.mono (FT_FB id)), l2, by rw [l1.i id 3 t3, g3, iz1], rfl⟩
/-- scrapeCells -/
theorem cl_cells {s : xS} {n : Nat} (hn : Cn s n) {id : Nat} (hB : isB id) {x : sS} (h : BS s id x) (hx : Hb x) {p : Nat} (hp : p < 4) {bits : Int32} {r : Nat → Bool} (hr : ∀ c, c < n * n → hb bits c = r c) {dp slip : Int} (d1 : 1 ≤ dp) (d9 : dp ≤ 9) (s0 : 0 ≤ slip) (s8 : slip ≤ 8) :
    ok (f37 39 id (iz p) bits (iz dp) (iz slip) s) (fun o => fr (FB id) s o.1 ∧ BS o.1 id (scr n slip dp (25 * p) r (n * n) x).1 ∧ o.1.1 id 3 = s.1 id 3 + iz (scr n slip dp (25 * p) r (n * n) x).2 ∧ o.2 = iz (scr n slip dp (25 * p) r (n * n) x).2) := by
  have sq := hn.sq
  have f33 : FB id 3 3 = false := by rcases hB with rfl | rfl | rfl | rfl | rfl | rfl | rfl | rfl <;> rfl
  unfold f37
  rw [ifg_pos O_39, ifg_pos (B_O hB)]
  simp only [iz0]
  refine forzA (A := Int32) (fun c L w => fr (FB id) s w ∧ BS w id (scr n slip dp (25 * p) r c x).1 ∧ w.1 id 3 = s.1 id 3 + iz (scr n slip dp (25 * p) r c x).2 ∧ L = iz (scr n slip dp (25 * p) r c x).2) 0 (n * n) (by omega) (by omega) ⟨fr.rf _ _, h, by show s.1 id 3 = s.1 id 3 + iz 0; rw [← iz0, Int32.add_zero], rfl⟩ (fun c L w _ hc ⟨h1, h2, h3, h4⟩ => ?_) (fun L w ⟨h1, h2, h3, h4⟩ => ?_)
  · subst h4
    have hnw : Cn w n := hn.fr h1 f33
    have hxc := scr_b (slip := slip) (r := r) hx (show 25 * p + n * n ≤ 100 by omega) (show 0 ≤ dp by omega) d9 c (by omega)
    have hcn := scr_n (n := n) (slip := slip) (dp := dp) (b := 25 * p) (r := r) (x := x) c
    unfold f37_6 f37_50
    simp only [R_39_0, Option.bind_some, hnw.cells, hnw.1]
    rw [it_le_f (by omega) (by omega) (by omega)]
    have ht := hb_test bits (show c < 32 by omega)
    rw [hr c hc] at ht
    by_cases q : r c = true
    · rw [if_neg (fun z => by rw [ht.mp z] at q; exact absurd q (by decide))]
      refine (cl_stroke hB h2 hxc hn.2.1 hn.2.2 hp hc d1 d9 s0 s8).bind (fun o ⟨a1, a2⟩ => ?_)
      rw [ok_some, lpA_l]
      refine ⟨by rw [iz1, iz_add], h1.tr a1, ?_⟩
      by_cases z : (scr n slip dp (25 * p) r c x).1.1 (25 * p + c) < -999
      · rw [if_pos z] at a2
        rw [scr, if_neg (fun y => by omega), a2.1, a2.2]
        exact ⟨h2, h3, by rw [Int32.add_zero]⟩
      · rw [if_neg z] at a2
        rw [scr, if_pos ⟨q, by omega⟩, a2.2.1, a2.2.2, h3]
        refine ⟨a2.1, ?_, ?_⟩
        · dsimp only
          rw [Int32.add_assoc, iz1, iz_add]
          rfl
        · dsimp only
          rw [iz1, iz_add]
          rfl
    · rw [if_pos (ht.mpr (by simpa using q)), ok_some, lpA_l, scr, if_neg (fun y => q y.1)]
      exact ⟨by rw [iz1, iz_add], h1, h2, h3, rfl⟩
  · subst h4
    have hnw : Cn w n := hn.fr h1 f33
    unfold f37_6
    simp only [R_39_0, Option.bind_some, hnw.cells]
    rw [it_le_t (by omega) (by omega) (by omega)]
    simp only [ok_some, ok_map, lp_l, lp_r, lpA_l, lpA_r, true_and]
    exact ⟨h1, h2, h3, trivial⟩
