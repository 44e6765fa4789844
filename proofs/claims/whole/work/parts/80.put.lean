/-! points are loaded, plates put on one another: the class -/
def FL (id k : Nat) : Bool := (Nat.ble 40 id && Nat.ble id 50) || (id == 39 && k == 7)
def FP (id k : Nat) : Bool := (id == 40 && Nat.ble 5 k && Nat.ble k 7) || id == 41 || id == 42 || id == 43
theorem iz_mx {n c : Nat} (h : 0 < n) (h1 : c ≤ 2147483647) (h2 : n ≤ 2147483647) : irm (iz c) (iz n) = iz (mx n c) := iz_remN h h1 h2
theorem iz_my {n c : Nat} (h : 0 < n) (h1 : c ≤ 2147483647) (h2 : n ≤ 2147483647) : iz c / iz n = iz (my n c) := iz_divN h h1 h2
theorem Rz.fr {s s' : xS} (h : Rz s s') : fr FL s s' := by
  intro id k hk
  refine ⟨?_, by rw [h.1]⟩
  by_cases e : id = 40
  · subst e; exact absurd hk (by simp [FL])
  · by_cases e1 : id = 44
    · subst e1; exact absurd hk (by simp [FL])
    · by_cases e2 : id = 45
      · subst e2; exact absurd hk (by simp [FL])
      · rw [h.2.1 id e e1 e2]
theorem FP_FL (id k : Nat) (h : FP id k = true) : FL id k = true := by
  unfold FP at h
  unfold FL
  simp only [Bool.or_eq_true, Bool.and_eq_true, beq_iff_eq, Nat.ble_eq] at h ⊢
  omega
theorem FM_FL (id k : Nat) (h : FM id k = true) : FL id k = true := by
  unfold FM at h
  unfold FL
  simp only [Bool.or_eq_true, Bool.and_eq_true, beq_iff_eq, Nat.ble_eq] at h ⊢
  omega
/-- k points are loaded -/
def LPt (s : xS) (n : Nat) (e : Nat → Nat) (z : Nat → Int) (k : Nat) : Prop := s.1 40 5 = iz k ∧ s.1 40 6 = iz (sN (fun j => mx n (e j)) k) ∧ s.1 40 7 = iz (sN (fun j => my n (e j)) k) ∧ ∀ j, j < k → s.1 41 j = iz (mx n (e j)) ∧ s.1 42 j = iz (my n (e j)) ∧ s.1 43 j = iz (z j)
theorem cl_begin (s : xS) (n : Nat) (e : Nat → Nat) (z : Nat → Int) : ok (f44 40 s) (fun r => fr FP s r.1 ∧ LPt r.1 n e z 0) := by
  unfold f44
  rw [ifg_pos O_40]
  simp only [pI, Option.bind_some, ok_some]
  refine ⟨(((fr.rf _ _).ui rfl).ui rfl).ui rfl, ?_, ?_, ?_, fun j hj => by omega⟩
  · simp (disch := omega) only [up_ix, up_eq]; rfl
  · simp (disch := omega) only [up_ix, up_eq]; rfl
  · simp (disch := omega) only [up_ix, up_eq]; rfl
theorem cl_add {s : xS} {n : Nat} {e : Nat → Nat} {z : Nat → Int} {k : Nat} (h : LPt s n e z k) (hk : k < 25) {x y v : Int32} (ex : x = iz (mx n (e k))) (ey : y = iz (my n (e k))) (ev : v = iz (z k)) : ok (f45 40 x y v s) (fun r => fr FP s r.1 ∧ LPt r.1 n e z (k + 1)) := by
  obtain ⟨h5, h6, h7, hp⟩ := h
  subst ex ey ev
  unfold f45
  rw [ifg_pos O_40]
  simp (disch := omega) only [h5, iz0, iz1, iz2, iz3, iz4, iz5, iz7, iz8, iz9, iz10, iz15, iz20, iz25, iz30, iz40, iz49, iz99, iz100, iz300, iz343, iz500, iz999, iz1000, iz1200, iz_add, iz_sub, iz_mul, iz_neg, it_le_t, it_le_f, it_lt_t, it_lt_f, it_eq_t, it_eq_f, bz0, bz1, ifg_T, or_true, true_or, if_true, if_false, Option.bind_some, Option.map_some, iz_in, iz_n, nat_toNat, R_40_0, R_40_1, R_40_2, W_41, W_42, W_43, up_id, up_ix, h6, h7, pI, ok_some]
  refine ⟨((((((fr.rf _ _).ui rfl).ui rfl).ui rfl).ui rfl).ui rfl).ui rfl, ?_, ?_, ?_, fun j hj => ?_⟩
  · simp (disch := omega) only [up_eq]; rfl
  · simp (disch := omega) only [up_eq, up_ix]; rfl
  · simp (disch := omega) only [up_eq, up_ix]; rfl
  · by_cases q : j = k
    · subst q
      simp (disch := omega) only [up_eq, up_id, and_self]
    · simp (disch := omega) only [up_ix, up_id]
      exact hp j (by omega)
theorem LPt.toCP {s : xS} {n : Nat} {d : Nat → Bool} {Z : Nat → Int} (h : LPt s n (en d (n * n)) (fun j => Z (en d (n * n) j)) (cnt d (n * n))) : CP s n d Z := by
  obtain ⟨h5, h6, h7, hp⟩ := h
  refine ⟨h5, ?_, ?_, hp⟩
  · rw [h6, sN_en d (mx n) (n * n)]
  · rw [h7, sN_en d (my n) (n * n)]
/-- loadPairs -/
theorem cl_pairs {s : xS} {n : Nat} (hn : Cn s n) {t : Nat} {u v : Int} (hL : Ly n t u v) (hM : CM s n t u v) {A B : Nat → Int} (hA : ∀ c, c < n * n → s.1 46 c = iz (A c)) (hB : ∀ c, c < n * n → s.1 47 c = iz (B c)) : ok (f29 39 s) (fun r => fr FP s r.1 ∧ CP r.1 n (dR n u v) (fun c => A c + B (ov n t u v c))) := by
  have sq := hn.sq
  have cl := cnt_le (dR n u v) (n * n)
  unfold f29
  rw [ifg_pos O_39, R_39_1, Option.bind_some]
  refine (cl_begin s n (en (dR n u v) (n * n)) (fun j => A (en (dR n u v) (n * n) j) + B (ov n t u v (en (dR n u v) (n * n) j)))).bind (fun r0 ⟨g1, g2⟩ => ?_)
  simp only [iz0]
  refine forz (fun k w => fr FP s w ∧ LPt w n (en (dR n u v) (n * n)) (fun j => A (en (dR n u v) (n * n) j) + B (ov n t u v (en (dR n u v) (n * n) j))) k) 0 (cnt (dR n u v) (n * n)) (by omega) (by omega) ⟨g1, g2⟩ (fun k w _ hk ⟨h1, h2⟩ => ?_) (fun w ⟨h1, h2⟩ => ?_)
  · have hMw := hM.fr h1 rfl (fun _ => rfl) (fun _ => rfl)
    have hnw : Cn w n := hn.fr h1 rfl
    obtain ⟨o1, o2, o3⟩ := en_ok hk
    have o4 := (hL.all o1).2.1
    have e1 : w.1 46 (en (dR n u v) (n * n) k) = iz (A (en (dR n u v) (n * n) k)) := by rw [h1.i 46 _ rfl]; exact hA _ o1
    have e2 : w.1 47 (ov n t u v (en (dR n u v) (n * n) k)) = iz (B (ov n t u v (en (dR n u v) (n * n) k))) := by rw [h1.i 47 _ rfl]; exact hB _ o4
    obtain ⟨m1, m2⟩ := hMw.2 k hk
    have n3 := hn.2.1
    have n5 := hn.2.2
    unfold f29_9
    simp (disch := omega) only [hMw.1, iz0, iz1, iz2, iz3, iz4, iz5, iz7, iz8, iz9, iz10, iz15, iz20, iz25, iz30, iz40, iz49, iz99, iz100, iz300, iz343, iz500, iz999, iz1000, iz1200, iz_add, iz_sub, iz_mul, iz_neg, it_le_t, it_le_f, it_lt_t, it_lt_f, it_eq_t, it_eq_f, bz0, bz1, ifg_T, or_true, true_or, if_true, if_false, Option.bind_some, Option.map_some, iz_in, iz_n, nat_toNat, R_39_0, R_39_1, R_39_2, R_39_3, R_39_5, R_39_6, A_49, A_50, A_46, A_47, m1, m2, e1, e2, hnw.1, nz', iz_mx, iz_my]
    refine (cl_add h2 (by omega) rfl rfl rfl).bind (fun r ⟨q1, q2⟩ => ?_)
    simp only [ok_some, ok_map, lp_l, lp_r, lpA_l, lpA_r, true_and]
    exact ⟨h1.tr q1, q2⟩
  · have hMw := hM.fr h1 rfl (fun _ => rfl) (fun _ => rfl)
    unfold f29_9
    simp (disch := omega) only [hMw.1, it_le_t, ok_some, ok_map, lp_l, lp_r, lpA_l, lpA_r, true_and]
    exact ⟨h1, h2.toCP⟩
/-- cells of a whole plate -/
theorem full_d {n c : Nat} (h : c < n * n) : dR n 0 0 c = true := by
  have h1 := my_lt h
  have h2 := mx_lt (n := n) (c := c) (Nat.pos_of_ne_zero (fun q => by subst q; omega))
  unfold dR
  simp only [Bool.and_eq_true, decide_eq_true_eq]
  omega
theorem full_cnt {n c : Nat} (h : c ≤ n * n) : cnt (dR n 0 0) c = c := by
  induction c with
  | zero => rfl
  | succ c ih => rw [cnt, ih (by omega), if_pos (full_d (by omega))]
theorem full_en {n c : Nat} (h : c < n * n) : en (dR n 0 0) (n * n) c = c := by
  have := en_at h (full_d h)
  rw [full_cnt (by omega)] at this
  exact this
theorem LPt.congr {s : xS} {n : Nat} {e e' : Nat → Nat} {z z' : Nat → Int} {k : Nat} (h : LPt s n e z k) (he : ∀ j, j < k → e j = e' j) (hz : ∀ j, j < k → z j = z' j) : LPt s n e' z' k := by
  obtain ⟨h5, h6, h7, hp⟩ := h
  refine ⟨h5, ?_, ?_, fun j hj => ?_⟩
  · rw [h6]; congr 1; exact sN_congr (fun j hj => by rw [he j hj])
  · rw [h7]; congr 1; exact sN_congr (fun j hj => by rw [he j hj])
  · rw [← he j hj, ← hz j hj]; exact hp j hj
theorem LPt.full {s : xS} {n : Nat} {Z : Nat → Int} (h : LPt s n (fun j => j) Z (n * n)) : CP s n (dR n 0 0) Z := by
  refine LPt.toCP ?_
  rw [full_cnt (Nat.le_refl _)]
  exact h.congr (fun j hj => (full_en hj).symm) (fun j hj => by rw [full_en hj])
/-- loadPlate -/
theorem cl_plate {s : xS} {n : Nat} (hn : Cn s n) {id : Nat} (hB : isB id) {H W S : Nat → Int} (h : CB s id H W S) {p : Nat} (hp : p < 4) {g : Int} (hg : g = 1 ∨ g = -1) : ok (f30 39 id (iz p) (iz g) s) (fun r => fr FP s r.1 ∧ CP r.1 n (dR n 0 0) (fun c => g * H (25 * p + c))) := by
  have sq := hn.sq
  obtain ⟨k1, k2, k3⟩ := B_ks hB
  have hF : ∀ k, FP (id + 1) k = false := fun k => by rcases hB with rfl | rfl | rfl | rfl | rfl | rfl | rfl | rfl <;> rfl
  unfold f30
  rw [ifg_pos O_39, ifg_pos (B_O hB), R_39_1, Option.bind_some]
  refine (cl_begin s n (fun j => j) (fun c => g * H (25 * p + c))).bind (fun r0 ⟨g1, g2⟩ => ?_)
  simp only [iz0]
  refine forz (fun k w => fr FP s w ∧ LPt w n (fun j => j) (fun c => g * H (25 * p + c)) k) 0 (n * n) (by omega) (by omega) ⟨g1, g2⟩ (fun k w _ hk ⟨h1, h2⟩ => ?_) (fun w ⟨h1, h2⟩ => ?_)
  · have hnw : Cn w n := hn.fr h1 rfl
    have n3 := hn.2.1
    have n5 := hn.2.2
    have e1 : w.1 (id + 1) (25 * p + k) = iz (H (25 * p + k)) := by rw [h1.i _ _ (hF _)]; exact (h _ (by omega)).1
    have e2 : ((p : Int) * 25 + k).toNat = 25 * p + k := by omega
    unfold f30_10
    simp (disch := omega) only [iz0, iz1, iz2, iz3, iz4, iz5, iz7, iz8, iz9, iz10, iz15, iz20, iz25, iz30, iz40, iz49, iz99, iz100, iz300, iz343, iz500, iz999, iz1000, iz1200, iz_add, iz_sub, iz_mul, iz_neg, it_le_t, it_le_f, it_lt_t, it_lt_f, it_eq_t, it_eq_f, bz0, bz1, ifg_T, or_true, true_or, if_true, if_false, Option.bind_some, Option.map_some, iz_in, iz_n, nat_toNat, R_39_0, R_39_1, hnw.cells, B_0 hB, aI_k k1, e2, e1, hnw.1, nz', iz_mx, iz_my]
    refine (cl_add h2 (by omega) rfl rfl rfl).bind (fun r ⟨q1, q2⟩ => ?_)
    simp only [ok_some, ok_map, lp_l, lp_r, lpA_l, lpA_r, true_and]
    exact ⟨h1.tr q1, q2⟩
  · have hnw : Cn w n := hn.fr h1 rfl
    unfold f30_10
    simp (disch := omega) only [iz0, iz1, iz2, iz3, iz4, iz5, iz7, iz8, iz9, iz10, iz15, iz20, iz25, iz30, iz40, iz49, iz99, iz100, iz300, iz343, iz500, iz999, iz1000, iz1200, iz_add, iz_sub, iz_mul, iz_neg, it_le_t, it_le_f, it_lt_t, it_lt_f, it_eq_t, it_eq_f, bz0, bz1, ifg_T, or_true, true_or, if_true, if_false, Option.bind_some, Option.map_some, R_39_0, hnw.cells, ok_some, ok_map, lp_l, lp_r, lpA_l, lpA_r, true_and]
    exact ⟨h1, h2.full⟩
/-- the sums of two plates -/
def Zl (A B : Nat → Int) (n t : Nat) (u v : Int) (c : Nat) : Int := A c + B (ov n t u v c)
theorem CM.rz {s s' : xS} {n t : Nat} {u v : Int} (h : CM s n t u v) (hz : Rz s s') : CM s' n t u v := ⟨by rw [hz.2.1 39 (by decide) (by decide) (by decide)]; exact h.1, fun k hk => by rw [hz.2.1 49 (by decide) (by decide) (by decide), hz.2.1 50 (by decide) (by decide) (by decide)]; exact h.2 k hk⟩
/-- put -/
theorem cl_put {s : xS} {n : Nat} (hn : Cn s n) {id : Nat} (hB : isB id) {H W S : Nat → Int} (h : CB s id H W S) (hb : Bd H W S) {a b t : Nat} {u v : Int} (ha : a < 4) (hbb : b < 4) (hL : Ly n t u v) : ok (f26 39 id (iz a) (iz b) (iz t) (iz u) (iz v) s) (fun r => fr FL s r.1 ∧ CM r.1 n t u v ∧ ∃ D G, CG r.1 n (dR n u v) (Zl (sm H W S a) (sm H W S b) n t u v) D G) := by
  have sq := hn.sq
  have hF : ∀ (F : Nat → Nat → Bool), (F = FM ∨ F = (fun x _ => x == 46) ∨ F = (fun x _ => x == 47)) → ∀ k, F (id + 1) k = false ∧ F (id + 2) k = false ∧ F (id + 3) k = false := by
    intro F hF k
    rcases hF with rfl | rfl | rfl <;> rcases hB with rfl | rfl | rfl | rfl | rfl | rfl | rfl | rfl <;> exact ⟨rfl, rfl, rfl⟩
  unfold f26
  rw [ifg_pos O_39, ifg_pos (B_O hB)]
  refine (cl_match hn hL).bind (fun r1 ⟨a1, a2⟩ => ?_)
  have hn1 : Cn r1.1 n := hn.fr a1 rfl
  have hB1 : CB r1.1 id H W S := h.fr a1 (fun k => (hF _ (Or.inl rfl) k).1) (fun k => (hF _ (Or.inl rfl) k).2.1) (fun k => (hF _ (Or.inl rfl) k).2.2)
  simp only [R_39_0, R_39_1, R_39_2, R_39_3, hn1.cells, Option.bind_some]
  refine (cl_copy hB hB1 ha sq (Or.inl rfl)).bind (fun r2 ⟨b1, b2⟩ => ?_)
  have hn2 : Cn r2.1 n := hn1.fr b1 rfl
  have hB2 : CB r2.1 id H W S := hB1.fr b1 (fun k => (hF _ (Or.inr (Or.inl rfl)) k).1) (fun k => (hF _ (Or.inr (Or.inl rfl)) k).2.1) (fun k => (hF _ (Or.inr (Or.inl rfl)) k).2.2)
  simp only [hn2.cells, Option.bind_some]
  refine (cl_copy hB hB2 hbb sq (Or.inr rfl)).bind (fun r3 ⟨c1, c2⟩ => ?_)
  have hn3 : Cn r3.1 n := hn2.fr c1 rfl
  have hM3 : CM r3.1 n t u v := (a2.fr b1 rfl (fun _ => rfl) (fun _ => rfl)).fr c1 rfl (fun _ => rfl) (fun _ => rfl)
  refine (cl_pairs hn3 hL hM3 (A := sm H W S a) (B := sm H W S b) (fun c hc => by rw [c1.i 46 c rfl]; exact b2 c hc) c2).bind (fun r4 ⟨d1, d2⟩ => ?_)
  obtain ⟨s', D, G, e1, e2, e3⟩ := cl_settle (n := n) (d := dR n u v) (Z := Zl (sm H W S a) (sm H W S b) n t u v) hL.RC (fun c hc _ => by
    have q1 := Bd_sm hb ha (show c < 25 by omega)
    have q2 := Bd_sm hb hbb (show ov n t u v c < 25 by have := (hL.all hc).2.1; omega)
    unfold Zl
    omega) d2
  rw [e1]
  simp only [Option.bind_some, ok_some]
  have m46 : ∀ (x : Nat), (x == 46) = true → ∀ k, FL x k = true := fun x hx k => by rw [beq_iff_eq] at hx; subst hx; rfl
  have m47 : ∀ (x : Nat), (x == 47) = true → ∀ k, FL x k = true := fun x hx k => by rw [beq_iff_eq] at hx; subst hx; rfl
  refine ⟨((((a1.mono FM_FL).tr (b1.mono (fun x k hx => m46 x hx k))).tr (c1.mono (fun x k hx => m47 x hx k))).tr (d1.mono FP_FL)).tr e2.fr, (hM3.fr d1 rfl (fun _ => rfl) (fun _ => rfl)).rz e2, D, G, e3⟩
