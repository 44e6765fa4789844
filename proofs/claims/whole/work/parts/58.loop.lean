theorem bl_rot_tr {a b c a' b' c' a2 b2 c2 : Nat} (h1 : bl_rot a b c a' b' c') (h2 : bl_rot a' b' c' a2 b2 c2) : bl_rot a b c a2 b2 c2 := by
  unfold bl_rot at *
  omega
/-- since s0 only the resting plane's own fields, corners and gaps have changed -/
def Rz (s0 s : xS) : Prop := s.2 = s0.2 ∧ (∀ id, id ≠ 40 → id ≠ 44 → id ≠ 45 → s.1 id = s0.1 id) ∧ ∀ k, (k < 8 ∨ 11 < k) → s.1 40 k = s0.1 40 k
theorem Rz.rf (s : xS) : Rz s s := ⟨rfl, fun _ _ _ _ => rfl, fun _ _ => rfl⟩
theorem Rz.tr {s s1 s2 : xS} (h1 : Rz s s1) (h2 : Rz s1 s2) : Rz s s2 := ⟨h2.1.trans h1.1, fun id q1 q2 q3 => (h2.2.1 id q1 q2 q3).trans (h1.2.1 id q1 q2 q3), fun k q => (h2.2.2 k q).trans (h1.2.2 k q)⟩
theorem Rz.ofOnly {s s' : xS} (h : only 40 8 11 s s') : Rz s s' := ⟨h.1, fun id q1 _ _ => funext fun k => h.2 id k (fun q => q1 q.1), fun k q => h.2 40 k (fun r => by omega)⟩
theorem Rz.of45 {s s' : xS} (h : onlyA 45 s s') : Rz s s' := ⟨h.1, fun id _ _ q3 => h.2 id q3, fun k _ => by rw [h.2 40 (by decide)]⟩
theorem Rz.of44 (s : xS) (o : Nat) (v : Int32) : Rz s (xm_up s.1 44 o v, s.2) := ⟨rfl, fun id _ q2 _ => xm_up_ne q2, fun k _ => by dsimp only; rw [xm_up_ne (by decide)]⟩
theorem RS.rz {s s' : xS} {m : Nat} {X Y Z : Nat → Int} (h : RS s m X Y Z) (hz : Rz s s') : RS s' m X Y Z := by
  obtain ⟨h1, h2, h3, h4⟩ := h
  refine ⟨by rw [hz.2.2 5 (by omega)]; exact h1, h2, h3, fun k hk => ?_⟩
  rw [hz.2.1 41 (by decide) (by decide) (by decide), hz.2.1 42 (by decide) (by decide) (by decide), hz.2.1 43 (by decide) (by decide) (by decide)]
  exact h4 k hk
theorem rp_bd {X Y Z : Nat → Int} {a b c : Nat} (ha : 0 ≤ X a ∧ X a ≤ 4 ∧ 0 ≤ Y a ∧ Y a ≤ 4 ∧ -5000 ≤ Z a ∧ Z a ≤ 5000) (hb : 0 ≤ X b ∧ X b ≤ 4 ∧ 0 ≤ Y b ∧ Y b ≤ 4 ∧ -5000 ≤ Z b ∧ Z b ≤ 5000) (hc : 0 ≤ X c ∧ X c ≤ 4 ∧ 0 ≤ Y c ∧ Y c ≤ 4 ∧ -5000 ≤ Z c ∧ Z c ≤ 5000) :
    -1000000 ≤ ge_p X Y Z a b c ∧ ge_p X Y Z a b c ≤ 1000000 ∧ -100000 ≤ ge_q Y Z a b c ∧ ge_q Y Z a b c ≤ 100000 ∧ -100000 ≤ ge_r X Z a b c ∧ ge_r X Z a b c ≤ 100000 ∧ -32 ≤ ge_d X Y a b c ∧ ge_d X Y a b c ≤ 32 := by
  have b1 := mb4 (x := X b - X a) (y := Y c - Y a) (by omega) (by omega) (by omega) (by omega)
  have b2 := mb4 (x := X c - X a) (y := Y b - Y a) (by omega) (by omega) (by omega) (by omega)
  have p1 := mbd (B := 10000) (C := 4) (x := Z b - Z a) (y := Y c - Y a) (by omega) (by omega) (by omega) (by omega)
  have p2 := mbd (B := 10000) (C := 4) (x := Z c - Z a) (y := Y b - Y a) (by omega) (by omega) (by omega) (by omega)
  have p3 := mbd (B := 4) (C := 10000) (x := X b - X a) (y := Z c - Z a) (by omega) (by omega) (by omega) (by omega)
  have p4 := mbd (B := 4) (C := 10000) (x := X c - X a) (y := Z b - Z a) (by omega) (by omega) (by omega) (by omega)
  have hd : -32 ≤ ge_d X Y a b c ∧ ge_d X Y a b c ≤ 32 := by unfold ge_d; omega
  have hq : -80000 ≤ ge_q Y Z a b c ∧ ge_q Y Z a b c ≤ 80000 := by unfold ge_q; omega
  have hr : -80000 ≤ ge_r X Z a b c ∧ ge_r X Z a b c ≤ 80000 := by unfold ge_r; omega
  have q1 := mbd (B := 5000) (C := 32) (x := Z a) (y := ge_d X Y a b c) (by omega) (by omega) hd.1 hd.2
  have q2 := mbd (B := 80000) (C := 4) (x := ge_q Y Z a b c) (y := X a) hq.1 hq.2 (by omega) (by omega)
  have q3 := mbd (B := 80000) (C := 4) (x := ge_r X Z a b c) (y := Y a) hr.1 hr.2 (by omega) (by omega)
  refine ⟨?_, ?_, by omega, by omega, by omega, by omega, hd.1, hd.2⟩ <;> unfold ge_p <;> omega
/-- behind the exchanges: corners C, their plane over all, its gaps -/
def REx (s0 : xS) (m : Nat) (X Y Z : Nat → Int) (x y : Int) (u : xS) (C : Nat → Nat) : Prop := Rz s0 u ∧ (∀ n, n < 3 → (u.1 44 n).toInt = C n ∧ C n < m) ∧ fi_T X Y Z m x y m (C 0) (C 1) (C 2) ∧ RP u (ge_p X Y Z (C 0) (C 1) (C 2)) (ge_q Y Z (C 0) (C 1) (C 2)) (ge_r X Z (C 0) (C 1) (C 2)) (ge_d X Y (C 0) (C 1) (C 2)) ∧ ∀ k, k < m → (u.1 45 k).toInt = ge_p X Y Z (C 0) (C 1) (C 2) + ge_q Y Z (C 0) (C 1) (C 2) * X k + ge_r X Z (C 0) (C 1) (C 2) * Y k - ge_d X Y (C 0) (C 1) (C 2) * Z k
/-- before an exchange -/
def RTr (m : Nat) (X Y : Nat → Int) (x y : Int) (u : xS) (C : Nat → Nat) : Prop := (∀ n, n < 3 → (u.1 44 n).toInt = C n ∧ C n < m) ∧ 0 < ge_d X Y (C 0) (C 1) (C 2) ∧ 0 ≤ ge_o X Y (C 1) (C 2) x y m ∧ 0 ≤ ge_o X Y (C 2) (C 0) x y m ∧ 0 ≤ ge_o X Y (C 0) (C 1) x y m
set_option maxHeartbeats 2000000 in
/-- one turn of the loop: it ends, or a corner is exchanged as bl_st says -/
theorem rs_turn {s0 u : xS} {m : Nat} {X Y Z : Nat → Int} {x y : Int} {C : Nat → Nat} (hs0 : RS s0 m X Y Z) (hz : Rz s0 u) (hT : RTr m X Y x y u C) (hx : (s0.1 40 6).toInt = x) (hy : (s0.1 40 7).toInt = y) (x0 : 0 ≤ x) (x9 : x ≤ 100) (y0 : 0 ≤ y) (y9 : y ≤ 100) {i : Int32} (hi : ¬ (2300 : Int32) ≤ i) :
    (∃ u' , f49_37 40 i u = Option.map Sum.inr (f49_91 40 u') ∧ REx s0 m X Y Z x y u' C) ∨ ∃ u' C' o e, f49_37 40 i u = some (.inl (i + 1, u')) ∧ Rz s0 u' ∧ RTr m X Y x y u' C' ∧ o < 3 ∧ e < m ∧ bl_st X Y Z x y m (C o) (C ((o + 1) % 3)) (C ((o + 2) % 3)) e ∧ bl_rot e (C ((o + 1) % 3)) (C ((o + 2) % 3)) (C' 0) (C' 1) (C' 2) := by
  obtain ⟨hC, hd, w0, w1, w2⟩ := hT
  have hs := hs0.rz hz
  obtain ⟨hm, m4, m25, hp⟩ := hs0
  obtain ⟨c0, l0⟩ := hC 0 (by decide)
  obtain ⟨c1, l1⟩ := hC 1 (by decide)
  obtain ⟨c2, l2⟩ := hC 2 (by decide)
  have hdn : ge_d X Y (C 0) (C 1) (C 2) ≠ 0 := by omega
  have hne := ge_dne hdn
  have bd := rp_bd (X := X) (Y := Y) (Z := Z) (a := C 0) (b := C 1) (c := C 2) ((hp _ l0).2.2.2) ((hp _ l1).2.2.2) ((hp _ l2).2.2.2)
  obtain ⟨s1, e1, o1, g11, g9, g10, g8⟩ := (rs_span hs c0 c1 c2 l0 l1 l2).2 hdn
  have fs : fi_s X Y (C 0) (C 1) (C 2) = 1 := by unfold fi_s; rw [if_neg (by omega)]
  have hs1 := hs.rz (Rz.ofOnly o1)
  have hRP : RP s1 (ge_p X Y Z (C 0) (C 1) (C 2)) (ge_q Y Z (C 0) (C 1) (C 2)) (ge_r X Z (C 0) (C 1) (C 2)) (ge_d X Y (C 0) (C 1) (C 2)) := by
    rw [fs, Int.one_mul] at g9 g10 g8
    unfold fi_D at g11
    rw [fs, Int.one_mul] at g11
    exact ⟨g8, g9, g10, g11, bd.1, bd.2.1, bd.2.2.1, bd.2.2.2.1, bd.2.2.2.2.1, bd.2.2.2.2.2.1, hd, bd.2.2.2.2.2.2.2⟩
  obtain ⟨s2, r, e2, o2, hr⟩ := rs_above hs1 hRP
  have hz2 : Rz s0 s2 := (hz.tr (Rz.ofOnly o1)).tr (Rz.of45 o2)
  have hs2 := hs1.rz (Rz.of45 o2)
  have f44 : s2.1 44 = u.1 44 := by rw [o2.2 44 (by decide)]; funext k; exact o1.2 44 k (fun q => by omega)
  have hC2 : ∀ n, n < 3 → (s2.1 44 n).toInt = C n ∧ C n < m := by rw [f44]; exact hC
  have ev : f49_37 40 i u = if r = -1 then Option.map Sum.inr (f49_91 40 s2) else ((f52 40 r s2).bind fun z19 => some (Sum.inl (i + 1, z19.1))) := by
    unfold f49_37
    rw [if_neg hi]
    have z0 : (0 : Int32).toNatClampNeg = 0 := by decide +kernel
    have z1 : (1 : Int32).toNatClampNeg = 1 := by decide +kernel
    have z2 : (2 : Int32).toNatClampNeg = 2 := by decide +kernel
    have y0 : xm_in (0 : Int32) 3 = true := by decide +kernel
    have y1 : xm_in (1 : Int32) 3 = true := by decide +kernel
    have y2 : xm_in (2 : Int32) 3 = true := by decide +kernel
    simp only [R_40_3, Option.bind_some, A_44, y0, y1, y2, if_true, z0, z1, z2, e1, e2]
  rcases hr with ⟨hr1, hr2⟩ | ⟨e, he1, he2, he3, he4⟩
  · left
    refine ⟨s2, by rw [ev, if_pos hr1], hz2, hC2, ⟨hd, l0, l1, l2, w0, w1, w2, fun k hk => (hr2 k hk).1⟩, ?_, fun k hk => (hr2 k hk).2⟩
    obtain ⟨q1, q2, q3, q4, q5⟩ := hRP
    have f40 : s2.1 40 = s1.1 40 := o2.2 40 (by decide)
    exact ⟨by rw [f40]; exact q1, by rw [f40]; exact q2, by rw [f40]; exact q3, by rw [f40]; exact q4, q5⟩
  · right
    have hrn : ¬ r = -1 := fun q => by rw [q] at he2; have : (-1 : Int32).toInt = -1 := rfl; omega
    have hx2 : (s2.1 40 6).toInt = x := by rw [hz2.2.2 6 (by omega)]; exact hx
    have hy2 : (s2.1 40 7).toInt = y := by rw [hz2.2.2 7 (by omega)]; exact hy
    have hCd : ∀ i j, i < 3 → j < 3 → C i = C j → i = j := by
      intro i j q1 q2 q3
      rcases (show i = 0 ∨ i = 1 ∨ i = 2 by omega) with rfl | rfl | rfl <;> rcases (show j = 0 ∨ j = 1 ∨ j = 2 by omega) with rfl | rfl | rfl <;> first | rfl | (exfalso; omega)
    have hsum := ge_sum (X := X) (Y := Y) (C 0) (C 1) (C 2) (X e) (Y e) 1
    rw [ge_o_d, ge_o_d, ge_o_d] at hsum
    have hex : ∃ n, n < 3 ∧ 0 < ge_d X Y (C ((n + 1) % 3)) (C ((n + 2) % 3)) e := by
      by_cases q0 : 0 < ge_d X Y (C 1) (C 2) e
      · exact ⟨0, by decide, q0⟩
      · by_cases q1 : 0 < ge_d X Y (C 2) (C 0) e
        · exact ⟨1, by decide, q1⟩
        · exact ⟨2, by decide, by show 0 < ge_d X Y (C 0) (C 1) e; omega⟩
    obtain ⟨o, ho, hf, hb1, hb2, hb3⟩ := rs_exchange hs2 hC2 hCd he2 he1 hx2 hy2 x0 x9 y0 y9 hex
    dsimp only at hb2 hb3
    refine ⟨(xm_up s2.1 44 o r, s2.2), fun n => if n = o then e else C n, o, e, by rw [ev, if_neg hrn, hf]; rfl, hz2.tr (Rz.of44 s2 o r), ?_, ho, he1, ?_, ?_⟩
    · have corner : ∀ n, n < 3 → ((xm_up s2.1 44 o r, s2.2) : xS).1 44 n = if n = o then r else s2.1 44 n := by
        intro n hn
        simp [xm_up]
      refine ⟨fun n hn => ?_, ?_⟩
      · rw [corner n hn]
        dsimp only
        split
        · exact ⟨he2, he1⟩
        · exact hC2 n hn
      · -- the new weights
        have nb : ∀ a b c : Nat, 0 < ge_d X Y a b c → 0 ≤ ge_o X Y b c x y m → 0 ≤ ge_o X Y c a x y m → 0 ≤ ge_o X Y a b x y m → 0 < ge_d X Y b c e → (0 < ge_d X Y c a e → ge_o X Y b c x y m * ge_d X Y c a e ≤ ge_o X Y c a x y m * ge_d X Y b c e) → (0 < ge_d X Y a b e → ge_o X Y b c x y m * ge_d X Y a b e ≤ ge_o X Y a b x y m * ge_d X Y b c e) → 0 < ge_d X Y e b c ∧ 0 ≤ ge_o X Y b c x y m ∧ 0 ≤ ge_o X Y c e x y m ∧ 0 ≤ ge_o X Y e b x y m := by
          intro a b c k1 k2 k3 k4 k5 k6 k7
          have i1 := ge_ex_b (X := X) (Y := Y) a b c e x y m
          have i2 := ge_ex_c (X := X) (Y := Y) a b c e x y m
          have p1 : 0 ≤ ge_d X Y a b c * ge_o X Y c e x y m := by
            rw [i1]
            by_cases q : 0 < ge_d X Y c a e
            · have := k6 q; omega
            · have t1 := Int.mul_nonneg k3 (show 0 ≤ ge_d X Y b c e by omega)
              have t2 := Int.mul_nonpos_of_nonneg_of_nonpos k2 (show ge_d X Y c a e ≤ 0 by omega)
              omega
          have p2 : 0 ≤ ge_d X Y a b c * ge_o X Y e b x y m := by
            rw [i2]
            by_cases q : 0 < ge_d X Y a b e
            · have := k7 q; omega
            · have t1 := Int.mul_nonneg k4 (show 0 ≤ ge_d X Y b c e by omega)
              have t2 := Int.mul_nonpos_of_nonneg_of_nonpos k2 (show ge_d X Y a b e ≤ 0 by omega)
              omega
          refine ⟨by rw [bl_new_d]; exact k5, k2, ?_, ?_⟩
          · exact Int.le_of_mul_le_mul_left (a := ge_d X Y a b c) (by simpa using p1) k1
          · exact Int.le_of_mul_le_mul_left (a := ge_d X Y a b c) (by simpa using p2) k1
        have weak : ∀ j, j < 3 → j ≠ o → 0 < ge_d X Y (C ((j + 1) % 3)) (C ((j + 2) % 3)) e → ge_o X Y (C ((o + 1) % 3)) (C ((o + 2) % 3)) x y m * ge_d X Y (C ((j + 1) % 3)) (C ((j + 2) % 3)) e ≤ ge_o X Y (C ((j + 1) % 3)) (C ((j + 2) % 3)) x y m * ge_d X Y (C ((o + 1) % 3)) (C ((o + 2) % 3)) e := by
          intro j q1 q2 q3
          rcases hb3 j q1 q2 q3 with q | ⟨q, -⟩ <;> omega
        rcases (show o = 0 ∨ o = 1 ∨ o = 2 by omega) with rfl | rfl | rfl
        · have := nb (C 0) (C 1) (C 2) hd w0 w1 w2 hb2 (weak 1 (by decide) (by decide)) (weak 2 (by decide) (by decide))
          exact ⟨this.1, this.2.1, this.2.2.1, this.2.2.2⟩
        · have := nb (C 1) (C 2) (C 0) (by rw [ge_d_rot]; exact hd) w1 w2 w0 hb2 (weak 2 (by decide) (by decide)) (weak 0 (by decide) (by decide))
          exact ⟨by show 0 < ge_d X Y (C 0) e (C 2); rw [← ge_d_rot]; exact this.1, this.2.2.2, this.2.1, this.2.2.1⟩
        · have := nb (C 2) (C 0) (C 1) (by rw [← ge_d_rot]; exact hd) w2 w0 w1 hb2 (weak 0 (by decide) (by decide)) (weak 1 (by decide) (by decide))
          exact ⟨by show 0 < ge_d X Y (C 0) (C 1) e; rw [ge_d_rot]; exact this.1, this.2.2.1, this.2.2.2, this.2.1⟩
    · have ha : bl_f X Y Z (C 0) (C 1) (C 2) e < ge_d X Y (C 0) (C 1) (C 2) * Z e := he3
      have hk : ∀ k, k < e → ge_d X Y (C 0) (C 1) (C 2) * Z k ≤ bl_f X Y Z (C 0) (C 1) (C 2) k := he4
      have rq : ∀ a b c, ge_q Y Z b c a = ge_q Y Z a b c := fun a b c => by unfold ge_q; grind
      have rr : ∀ a b c, ge_r X Z b c a = ge_r X Z a b c := fun a b c => by unfold ge_r; grind
      have rp : ∀ a b c, ge_p X Y Z b c a = ge_p X Y Z a b c := fun a b c => by unfold ge_p ge_q ge_r ge_d; grind
      have rf : ∀ a b c k, bl_f X Y Z b c a k = bl_f X Y Z a b c k := fun a b c k => by unfold bl_f; rw [rq, rr, rp]
      rcases (show o = 0 ∨ o = 1 ∨ o = 2 by omega) with rfl | rfl | rfl
      · exact ⟨hd, w0, w1, w2, ha, hk, hb2, hb3 1 (by decide) (by decide), hb3 2 (by decide) (by decide)⟩
      · refine ⟨by show 0 < ge_d X Y (C 1) (C 2) (C 0); rw [ge_d_rot]; exact hd, w1, w2, w0, ?_, ?_, hb2, hb3 2 (by decide) (by decide), hb3 0 (by decide) (by decide)⟩
        · show bl_f X Y Z (C 1) (C 2) (C 0) e < ge_d X Y (C 1) (C 2) (C 0) * Z e
          rw [rf, ge_d_rot]; exact ha
        · intro k q
          show ge_d X Y (C 1) (C 2) (C 0) * Z k ≤ bl_f X Y Z (C 1) (C 2) (C 0) k
          rw [rf, ge_d_rot]; exact hk k q
      · refine ⟨by show 0 < ge_d X Y (C 2) (C 0) (C 1); rw [← ge_d_rot]; exact hd, w2, w0, w1, ?_, ?_, hb2, hb3 0 (by decide) (by decide), hb3 1 (by decide) (by decide)⟩
        · show bl_f X Y Z (C 2) (C 0) (C 1) e < ge_d X Y (C 2) (C 0) (C 1) * Z e
          rw [← rf, ← ge_d_rot]; exact ha
        · intro k q
          show ge_d X Y (C 2) (C 0) (C 1) * Z k ≤ bl_f X Y Z (C 2) (C 0) (C 1) k
          rw [← rf, ← ge_d_rot]; exact hk k q
    · rcases (show o = 0 ∨ o = 1 ∨ o = 2 by omega) with rfl | rfl | rfl
      · exact Or.inl ⟨rfl, rfl, rfl⟩
      · exact Or.inr (Or.inr ⟨rfl, rfl, rfl⟩)
      · exact Or.inr (Or.inl ⟨rfl, rfl, rfl⟩)
