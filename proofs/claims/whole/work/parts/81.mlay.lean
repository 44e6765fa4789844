/-! the model lays down -/
def FO (id k : Nat) : Bool := id == 125 || id == 126 || (id == 101 && k == 41)
/-- what lies over what at the model -/
def MO (s : xS) (n t : Nat) (u v : Int) : Prop := (∀ c, c < n * n → s.1 125 c = if dR n u v c = true then iz (ov n t u v c) else iz (-1)) ∧ s.1 101 41 = iz (cnt (dR n u v) (n * n))
theorem MO.fr {F : Nat → Nat → Bool} {s s' : xS} {n t : Nat} {u v : Int} (h : MO s n t u v) (hf : fr F s s') (h1 : ∀ k, F 125 k = false) (h2 : F 101 41 = false) : MO s' n t u v := ⟨fun c hc => by rw [hf.i 125 c (h1 c)]; exact h.1 c hc, by rw [hf.i 101 41 h2]; exact h.2⟩
set_option maxHeartbeats 1000000 in
theorem mo_layOn {s : xS} {b : Nat} {N : Int32} {n : Nat} (hn : Mn s b N n) {t p q : Nat} {u v : Int} (hL : Ly n t u v) {A B : Nat → Int} (hA : ∀ w, fr FO s w → ∀ c, c < n * n → f202 101 (iz p) (iz c) w = some (w, iz (A c))) (hB : ∀ w, fr FO s w → ∀ c, c < n * n → f202 101 (iz q) (iz c) w = some (w, iz (B c))) (bA : ∀ c, c < n * n → -2500 ≤ A c ∧ A c ≤ 2500) (bB : ∀ c, c < n * n → -2500 ≤ B c ∧ B c ≤ 2500) :
    ok (f206 101 (iz p) (iz q) (iz t) (iz u) (iz v) s) (fun r => fr FO s r.1 ∧ MO r.1 n t u v ∧ Ms r.1 n (dR n u v) (Zl A B n t u v)) := by
  have sq := hn.sq25
  have cl := cnt_le (dR n u v) (n * n)
  unfold f206
  rw [ifg_pos O_101]
  simp only [iz0]
  refine forz (fun c w => fr FO s w ∧ ∀ e, e < c → w.1 125 e = iz (-1)) 0 25 (by omega) (by omega) ⟨fr.rf _ _, fun e he => by omega⟩ (fun c w _ hc ⟨h1, h2⟩ => ?_) (fun w ⟨h1, h2⟩ => ?_)
  · unfold f206_3
    simp (disch := omega) only [iz0, iz1, iz2, iz3, iz4, iz5, iz7, iz8, iz9, iz10, iz15, iz20, iz25, iz30, iz40, iz49, iz99, iz100, iz300, iz343, iz500, iz999, iz1000, iz1200, iz_add, iz_sub, iz_mul, iz_neg, it_le_t, it_le_f, it_lt_t, it_lt_f, it_eq_t, it_eq_f, bz0, bz1, ifg_T, or_true, true_or, if_true, if_false, Option.bind_some, Option.map_some, iz_in, iz_n, nat_toNat, R_101_39, W_125, ok_some, ok_map, lp_l, lp_r, lpA_l, lpA_r, true_and]
    refine ⟨h1.ui rfl, fun e he => ?_⟩
    by_cases q : e = c
    · rw [q, up_eq]
    · rw [up_ix _ _ q]; exact h2 e (by omega)
  · unfold f206_3
    simp (disch := omega) only [iz0, iz1, iz2, iz3, iz4, iz5, iz7, iz8, iz9, iz10, iz15, iz20, iz25, iz30, iz40, iz49, iz99, iz100, iz300, iz343, iz500, iz999, iz1000, iz1200, iz_add, iz_sub, iz_mul, iz_neg, it_le_t, it_le_f, it_lt_t, it_lt_f, it_eq_t, it_eq_f, bz0, bz1, ifg_T, or_true, true_or, if_true, if_false, Option.bind_some, Option.map_some, pI, ok_some, ok_map, lp_l, lp_r, lpA_l, lpA_r, true_and]
    refine forz (fun c w => fr FO s w ∧ w.1 101 41 = iz (cnt (fun c => decide (0 ≤ sp n t u v c)) c) ∧ (∀ e, e < n * n → w.1 125 e = if dR n u v e = true ∧ ov n t u v e < c then iz (ov n t u v e) else iz (-1)) ∧ ∀ e, e < n * n → dR n u v e = true → ov n t u v e < c → w.1 126 e = iz (Zl A B n t u v e)) 0 (n * n) (by omega) (by omega) ⟨h1.ui rfl, by dsimp only; exact up_eq _ _ _ _, fun e he => by dsimp only; rw [up_id _ _ (by decide), if_neg (by omega)]; exact h2 e (by omega), fun e _ _ h => by omega⟩ (fun c w _ hc ⟨h1, h2, h3, h4⟩ => ?_) (fun w ⟨h1, h2, h3, h4⟩ => ?_)
    · have hnw : Mn w b N n := hn.fr h1 rfl (fun _ => rfl)
      have hA0 := hL.all hc
      have hcc := cnt_le (fun c => decide (0 ≤ sp n t u v c)) c
      unfold f206_32 f206_103
      simp (disch := omega) only [iz0, iz1, iz2, iz3, iz4, iz5, iz7, iz8, iz9, iz10, iz15, iz20, iz25, iz30, iz40, iz49, iz99, iz100, iz300, iz343, iz500, iz999, iz1000, iz1200, iz_add, iz_sub, iz_mul, iz_neg, it_le_t, it_le_f, it_lt_t, it_lt_f, it_eq_t, it_eq_f, bz0, bz1, ifg_T, or_true, true_or, if_true, if_false, Option.bind_some, Option.map_some, hnw.zc, mo_spot hnw hL hc]
      by_cases e0 : sp n t u v c = -1
      · have hcn : cnt (fun c => decide (0 ≤ sp n t u v c)) (c + 1) = cnt (fun c => decide (0 ≤ sp n t u v c)) c := by
          simp only [cnt]
          rw [if_neg (by rw [decide_eq_true_eq]; omega), Nat.add_zero]
        simp (disch := omega) only [it_le_f, ok_some, ok_map, lp_l, lp_r, lpA_l, lpA_r, true_and]
        have no : ∀ e, e < n * n → dR n u v e = true → ov n t u v e ≠ c := fun e he q1 q2 => by
          have h5 := (hL.all he).1.mp q1
          rw [q2, e0] at h5
          omega
        refine ⟨h1, by rw [hcn]; exact h2, fun e he => ?_, fun e he q1 q2 => h4 e he q1 (by have := no e he q1; omega)⟩
        rw [h3 e he]
        by_cases q : dR n u v e = true ∧ ov n t u v e < c
        · rw [if_pos q, if_pos ⟨q.1, by omega⟩]
        · rw [if_neg q, if_neg]
          rintro ⟨q1, q2⟩
          have h9 : ¬ ov n t u v e < c := fun h => q ⟨q1, h⟩
          have := no e he q1
          omega
      · obtain ⟨hd, ho⟩ := hA0.2.2.2.2.resolve_left e0
        have b1 := hA0.2.2.1
        have b2 := hA0.2.2.2.1
        obtain ⟨m, hm⟩ : ∃ m : Nat, sp n t u v c = m := ⟨(sp n t u v c).toNat, by omega⟩
        rw [hm] at hd ho b1 b2 ⊢
        rw [nat_toNat] at hd ho
        have b3 : m < n * n := by omega
        have hcn : cnt (fun c => decide (0 ≤ sp n t u v c)) (c + 1) = cnt (fun c => decide (0 ≤ sp n t u v c)) c + 1 := by
          simp only [cnt]
          rw [if_pos (by rw [decide_eq_true_eq]; omega)]
        have g1 : fr FO s (xm_up w.1 125 m (iz c), w.2) := h1.ui rfl
        have x1 := hA _ g1 m b3
        have x2 := hB _ g1 c hc
        have y1 := bA m b3
        have y2 := bB c hc
        simp (disch := omega) only [it_le_t, R_101_39, R_101_40, Option.bind_some, W_125, W_126, iz_in, iz_n, nat_toNat, if_true, x1, x2, iz_add, pI, up_id, h2, ok_some, ok_map, lp_l, lp_r, lpA_l, lpA_r, true_and]
        have no : ∀ e, e < n * n → dR n u v e = true → ov n t u v e = c → e = m := fun e he q1 q2 => by
          have h5 := (hL.all he).1.mp q1
          rw [q2, hm] at h5
          omega
        refine ⟨(g1.ui rfl).ui rfl, by rw [up_eq, hcn]; rfl, fun e he => ?_, fun e he q1 q2 => ?_⟩
        · by_cases q : e = m
          · subst q
            rw [up_eq, ho, if_pos ⟨hd, by omega⟩]
          · rw [up_ix _ _ q, h3 e he]
            by_cases q : dR n u v e = true ∧ ov n t u v e < c
            · rw [if_pos q, if_pos ⟨q.1, by omega⟩]
            · rw [if_neg q, if_neg]
              rintro ⟨q1, q2⟩
              have h9 : ¬ ov n t u v e < c := fun h => q ⟨q1, h⟩
              have := no e he q1 (by omega)
              contradiction
        · by_cases q : e = m
          · subst q
            rw [up_eq]
            unfold Zl
            rw [ho]
          · rw [up_ix _ _ q]
            refine h4 e he q1 ?_
            have : ov n t u v e ≠ c := fun r => q (no e he q1 r)
            omega
    · have hnw : Mn w b N n := hn.fr h1 rfl (fun _ => rfl)
      unfold f206_32
      simp (disch := omega) only [iz0, iz1, iz2, iz3, iz4, iz5, iz7, iz8, iz9, iz10, iz15, iz20, iz25, iz30, iz40, iz49, iz99, iz100, iz300, iz343, iz500, iz999, iz1000, iz1200, iz_add, iz_sub, iz_mul, iz_neg, it_le_t, it_le_f, it_lt_t, it_lt_f, it_eq_t, it_eq_f, bz0, bz1, ifg_T, or_true, true_or, if_true, if_false, Option.bind_some, Option.map_some, hnw.zc, ok_some, ok_map, lp_l, lp_r, lpA_l, lpA_r, true_and]
      refine ⟨h1, ⟨fun c hc => ?_, by rw [h2, hL.cnt]⟩, fun c hc => ?_, fun c hc hd => ?_⟩
      · rw [h3 c hc]
        have h5 := (hL.all hc).2.1
        by_cases q : dR n u v c = true
        · rw [if_pos ⟨q, h5⟩, if_pos q]
        · rw [if_neg (fun r => q r.1), if_neg q]
      · rw [h3 c hc]
        have h5 := (hL.all hc).2.1
        by_cases q : dR n u v c = true
        · rw [if_pos ⟨q, h5⟩, iz_t (by omega) (by omega)]
          exact ⟨fun _ => by omega, fun _ => q⟩
        · rw [if_neg (fun r => q r.1), iz_t (by omega) (by omega)]
          exact ⟨fun h => absurd h q, fun h => by omega⟩
      · have h5 := (hL.all hc).2.1
        have y1 := bA c hc
        have y2 := bB _ h5
        have z1 : -5000 ≤ Zl A B n t u v c ∧ Zl A B n t u v c ≤ 5000 := by unfold Zl; omega
        rw [h4 c hc hd h5, iz_t (by omega) (by omega)]
        exact ⟨rfl, z1⟩
/-- layAlone, for a plate whose heights are known -/
theorem mo_alone {s : xS} {b : Nat} {N : Int32} {n : Nat} (hn : Mn s b N n) {p : Nat} (hp : p < 5) {H : Nat → Int} (hH : ∀ c, c < n * n → s.1 113 (25 * p + c) = iz (H c)) (bH : ∀ c, c < n * n → -2500 ≤ H c ∧ H c ≤ 2500) {g : Int} (hg : g = 1 ∨ g = -1) :
    ok (f207 101 (iz p) (iz g) s) (fun r => fr FO s r.1 ∧ (∀ c, c < n * n → r.1.1 125 c = iz c) ∧ r.1.1 101 41 = iz (n * n : Nat) ∧ Ms r.1 n (dR n 0 0) (fun c => g * H c)) := by
  have sq := hn.sq25
  unfold f207
  rw [ifg_pos O_101]
  simp only [hn.zc, Option.bind_some, pI, iz0]
  refine forz (fun c w => fr FO s w ∧ w.1 101 41 = iz (n * n : Nat) ∧ ∀ e, e < c → w.1 125 e = if e < n * n then iz e else iz (-1)) 0 25 (by omega) (by omega) ⟨(fr.rf _ _).ui rfl, by dsimp only; exact up_eq _ _ _ _, fun e he => by omega⟩ (fun c w _ hc ⟨h1, h2, h3⟩ => ?_) (fun w ⟨h1, h2, h3⟩ => ?_)
  · unfold f207_10 f207_34
    by_cases q : c < n * n
    · simp (disch := omega) only [iz0, iz1, iz2, iz3, iz4, iz5, iz7, iz8, iz9, iz10, iz15, iz20, iz25, iz30, iz40, iz49, iz99, iz100, iz300, iz343, iz500, iz999, iz1000, iz1200, iz_add, iz_sub, iz_mul, iz_neg, it_le_t, it_le_f, it_lt_t, it_lt_f, it_eq_t, it_eq_f, bz0, bz1, ifg_T, or_true, true_or, if_true, if_false, Option.bind_some, Option.map_some, iz_in, iz_n, nat_toNat, R_101_39, h2, W_125, ok_some, ok_map, lp_l, lp_r, lpA_l, lpA_r, true_and, up_id]
      refine ⟨h1.ui rfl, fun e he => ?_⟩
      by_cases q2 : e = c
      · rw [q2, up_eq, if_pos q]
      · rw [up_ix _ _ q2]; exact h3 e (by omega)
    · simp (disch := omega) only [iz0, iz1, iz2, iz3, iz4, iz5, iz7, iz8, iz9, iz10, iz15, iz20, iz25, iz30, iz40, iz49, iz99, iz100, iz300, iz343, iz500, iz999, iz1000, iz1200, iz_add, iz_sub, iz_mul, iz_neg, it_le_t, it_le_f, it_lt_t, it_lt_f, it_eq_t, it_eq_f, bz0, bz1, ifg_T, or_true, true_or, if_true, if_false, Option.bind_some, Option.map_some, iz_in, iz_n, nat_toNat, R_101_39, h2, W_125, ok_some, ok_map, lp_l, lp_r, lpA_l, lpA_r, true_and, up_id]
      refine ⟨h1.ui rfl, fun e he => ?_⟩
      by_cases q2 : e = c
      · rw [q2, up_eq, if_neg q]
      · rw [up_ix _ _ q2]; exact h3 e (by omega)
  · unfold f207_10
    simp (disch := omega) only [iz0, iz1, iz2, iz3, iz4, iz5, iz7, iz8, iz9, iz10, iz15, iz20, iz25, iz30, iz40, iz49, iz99, iz100, iz300, iz343, iz500, iz999, iz1000, iz1200, iz_add, iz_sub, iz_mul, iz_neg, it_le_t, it_le_f, it_lt_t, it_lt_f, it_eq_t, it_eq_f, bz0, bz1, ifg_T, or_true, true_or, if_true, if_false, Option.bind_some, Option.map_some, ok_some, ok_map, lp_l, lp_r, lpA_l, lpA_r, true_and]
    refine forz (fun c w => fr FO s w ∧ w.1 101 41 = iz (n * n : Nat) ∧ (∀ e, e < n * n → w.1 125 e = iz e) ∧ ∀ e, e < c → w.1 126 e = iz (g * H e)) 0 (n * n) (by omega) (by omega) ⟨h1, h2, fun e he => by rw [h3 e (by omega), if_pos he], fun e he => by omega⟩ (fun c w _ hc ⟨h1, h2, h3, h4⟩ => ?_) (fun w ⟨h1, h2, h3, h4⟩ => ?_)
    · have e1 : w.1 113 (25 * p + c) = iz (H c) := by rw [h1.i _ _ rfl]; exact hH c hc
      have e2 : (25 * (p : Int) + c).toNat = 25 * p + c := by omega
      unfold f207_43
      simp (disch := omega) only [iz0, iz1, iz2, iz3, iz4, iz5, iz7, iz8, iz9, iz10, iz15, iz20, iz25, iz30, iz40, iz49, iz99, iz100, iz300, iz343, iz500, iz999, iz1000, iz1200, iz_add, iz_sub, iz_mul, iz_neg, it_le_t, it_le_f, it_lt_t, it_lt_f, it_eq_t, it_eq_f, bz0, bz1, ifg_T, or_true, true_or, if_true, if_false, Option.bind_some, Option.map_some, iz_in, iz_n, nat_toNat, R_101_40, R_101_20, h2, A_113, W_126, e2, e1, ok_some, ok_map, lp_l, lp_r, lpA_l, lpA_r, true_and, up_id]
      refine ⟨h1.ui rfl, h3, fun e he => ?_⟩
      by_cases q2 : e = c
      · rw [q2, up_eq]
      · rw [up_ix _ _ q2]; exact h4 e (by omega)
    · unfold f207_43
      simp (disch := omega) only [iz0, iz1, iz2, iz3, iz4, iz5, iz7, iz8, iz9, iz10, iz15, iz20, iz25, iz30, iz40, iz49, iz99, iz100, iz300, iz343, iz500, iz999, iz1000, iz1200, iz_add, iz_sub, iz_mul, iz_neg, it_le_t, it_le_f, it_lt_t, it_lt_f, it_eq_t, it_eq_f, bz0, bz1, ifg_T, or_true, true_or, if_true, if_false, Option.bind_some, Option.map_some, h2, ok_some, ok_map, lp_l, lp_r, lpA_l, lpA_r, true_and]
      refine ⟨h1, h3, fun c hc => ?_, fun c hc _ => ?_⟩
      · rw [h3 c hc, iz_t (by omega) (by omega), full_d hc]
        exact ⟨fun _ => by omega, fun _ => rfl⟩
      · have y1 := bH c hc
        have y2 : -5000 ≤ g * H c ∧ g * H c ≤ 5000 := by rcases hg with rfl | rfl <;> omega
        rw [h4 c hc, iz_t (by omega) (by omega)]
        exact ⟨rfl, y2⟩
/-- over: as a test -/
theorem Ms.neg {s : xS} {n : Nat} {d : Nat → Bool} {Z : Nat → Int} (h : Ms s n d Z) {c : Nat} (hc : c < n * n) {α : Type} {x y : α} : (if s.1 125 c < iz 0 then x else y) = if d c = true then y else x := by
  have e : (s.1 125 c < iz 0) ↔ ¬ d c = true := by
    rw [i_lt, h.1 c hc, iz_t (by omega) (by omega)]
    omega
  by_cases q : d c = true
  · rw [if_pos q, if_neg (fun r => e.mp r q)]
  · rw [if_neg q, if_pos (e.mpr q)]
theorem Ms.pos {s : xS} {n : Nat} {d : Nat → Bool} {Z : Nat → Int} (h : Ms s n d Z) {c : Nat} (hc : c < n * n) {α : Type} {x y : α} : (if iz 0 ≤ s.1 125 c then x else y) = if d c = true then x else y := by
  have e : (iz 0 ≤ s.1 125 c) ↔ d c = true := by
    rw [i_le, h.1 c hc, iz_t (by omega) (by omega)]
  by_cases q : d c = true
  · rw [if_pos q, if_pos (e.mpr q)]
  · rw [if_neg q, if_neg (fun r => q (e.mp r))]
section MM
variable {s : xS} {b : Nat} {N : Int32} {n : Nat} {d : Nat → Bool} {Z : Nat → Int}
/-- the greatest of the gaps -/
def mxS (d : Nat → Bool) (f : Nat → Int) : Nat → Int
  | 0 => 0
  | n + 1 => if d n = true ∧ mxS d f n < f n then f n else mxS d f n
theorem mxS_bd (d : Nat → Bool) (f : Nat → Int) {B : Int} (hB : 0 ≤ B) : ∀ N, (∀ c, c < N → d c = true → f c ≤ B) → 0 ≤ mxS d f N ∧ mxS d f N ≤ B := by
  intro N
  induction N with
  | zero => intro _; simp only [mxS]; omega
  | succ N ih =>
    intro h
    have h1 := ih (fun c hc => h c (by omega))
    simp only [mxS]
    split
    · rename_i q
      have := h N (by omega) q.1
      omega
    · exact h1
theorem mo_most (hn : Mn s b N n) (hg : MG s n d Z) : f223 101 s = some (s, lz (mxS d (GP n Z d) (n * n))) := by
  have sq := hn.sq25
  have key : ok (f223 101 s) (fun r => r = (s, lz (mxS d (GP n Z d) (n * n)))) := by
    unfold f223
    rw [ifg_pos O_101]
    simp only [iz0, lz0]
    refine forzA (A := Int64) (fun c L w => w = s ∧ L = lz (mxS d (GP n Z d) c)) 0 (n * n) (by omega) (by omega) ⟨rfl, rfl⟩ (fun c L w _ hc ⟨h1, h2⟩ => ?_) (fun L w ⟨h1, h2⟩ => ?_)
    · subst h1 h2
      have hb := mxS_bd d (GP n Z d) (B := 1000000) (by omega) c (fun e he q => (mo_gapOf hn hg (show e < n * n by omega) q).2.2)
      unfold f223_4 f223_37
      simp (disch := omega) only [iz0, iz1, iz2, iz3, iz4, iz5, iz7, iz8, iz9, iz10, iz15, iz20, iz25, iz30, iz40, iz49, iz99, iz100, iz300, iz343, iz500, iz999, iz1000, iz1200, iz_add, iz_sub, iz_mul, iz_neg, it_le_t, it_le_f, it_lt_t, it_lt_f, it_eq_t, it_eq_f, bz0, bz1, ifg_T, or_true, true_or, if_true, if_false, Option.bind_some, Option.map_some, iz_in, iz_n, nat_toNat, hn.zc, R_101_39, A_125, hg.1.neg hc]
      by_cases q : d c = true
      · obtain ⟨g1, g2, g3⟩ := mo_gapOf hn hg hc q
        rw [if_pos q, g1]
        simp only [Option.bind_some]
        by_cases q2 : GP n Z d c ≤ mxS d (GP n Z d) c
        · rw [lk_le_t q2 (by omega) (by omega) (by omega) (by omega)]
          simp only [ok_some, ok_map, lp_l, lp_r, lpA_l, lpA_r, true_and]
          rw [mxS, if_neg (fun r => by omega)]
        · rw [lk_le_f (by omega) (by omega) (by omega) (by omega) (by omega), g1]
          simp only [Option.bind_some, ok_some, ok_map, lp_l, lp_r, lpA_l, lpA_r, true_and]
          rw [mxS, if_pos ⟨q, by omega⟩]
      · rw [if_neg q]
        simp only [ok_some, ok_map, lp_l, lp_r, lpA_l, lpA_r, true_and]
        rw [mxS, if_neg (fun r => q r.1)]
    · subst h1 h2
      unfold f223_4
      simp (disch := omega) only [iz0, iz1, iz2, iz3, iz4, iz5, iz7, iz8, iz9, iz10, iz15, iz20, iz25, iz30, iz40, iz49, iz99, iz100, iz300, iz343, iz500, iz999, iz1000, iz1200, iz_add, iz_sub, iz_mul, iz_neg, it_le_t, it_le_f, it_lt_t, it_lt_f, it_eq_t, it_eq_f, bz0, bz1, ifg_T, or_true, true_or, if_true, if_false, Option.bind_some, Option.map_some, hn.zc, ok_some, ok_map, lp_l, lp_r, lpA_l, lpA_r, true_and]
  obtain ⟨r, e1, e2⟩ := key
  rw [e1, e2]
theorem mo_sum (hn : Mn s b N n) (hg : MG s n d Z) : f222 101 s = some (s, lz (smS d (GP n Z d) (n * n))) := by
  have sq := hn.sq25
  have key : ok (f222 101 s) (fun r => r = (s, lz (smS d (GP n Z d) (n * n)))) := by
    unfold f222
    rw [ifg_pos O_101]
    simp only [iz0, lz0]
    refine forzA (A := Int64) (fun c L w => w = s ∧ L = lz (smS d (GP n Z d) c)) 0 (n * n) (by omega) (by omega) ⟨rfl, rfl⟩ (fun c L w _ hc ⟨h1, h2⟩ => ?_) (fun L w ⟨h1, h2⟩ => ?_)
    · subst h1 h2
      unfold f222_4 f222_31
      simp (disch := omega) only [iz0, iz1, iz2, iz3, iz4, iz5, iz7, iz8, iz9, iz10, iz15, iz20, iz25, iz30, iz40, iz49, iz99, iz100, iz300, iz343, iz500, iz999, iz1000, iz1200, iz_add, iz_sub, iz_mul, iz_neg, it_le_t, it_le_f, it_lt_t, it_lt_f, it_eq_t, it_eq_f, bz0, bz1, ifg_T, or_true, true_or, if_true, if_false, Option.bind_some, Option.map_some, iz_in, iz_n, nat_toNat, hn.zc, R_101_39, A_125, hg.1.neg hc]
      by_cases q : d c = true
      · obtain ⟨g1, g2, g3⟩ := mo_gapOf hn hg hc q
        rw [if_pos q, g1]
        simp only [Option.bind_some, lz_add, ok_some, ok_map, lp_l, lp_r, lpA_l, lpA_r, true_and]
        rw [smS, if_pos q]
      · rw [if_neg q]
        simp only [lz0, lz_add, ok_some, ok_map, lp_l, lp_r, lpA_l, lpA_r, true_and]
        rw [smS, if_neg q]
    · subst h1 h2
      unfold f222_4
      simp (disch := omega) only [iz0, iz1, iz2, iz3, iz4, iz5, iz7, iz8, iz9, iz10, iz15, iz20, iz25, iz30, iz40, iz49, iz99, iz100, iz300, iz343, iz500, iz999, iz1000, iz1200, iz_add, iz_sub, iz_mul, iz_neg, it_le_t, it_le_f, it_lt_t, it_lt_f, it_eq_t, it_eq_f, bz0, bz1, ifg_T, or_true, true_or, if_true, if_false, Option.bind_some, Option.map_some, hn.zc, ok_some, ok_map, lp_l, lp_r, lpA_l, lpA_r, true_and]
  obtain ⟨r, e1, e2⟩ := key
  rw [e1, e2]
/-- a red cell -/
noncomputable def rd (n : Nat) (Z : Nat → Int) (d : Nat → Bool) (red : Int) (c : Nat) : Bool := d c && decide (GP n Z d c ≤ red * GD n Z d)
theorem mo_red (hn : Mn s b N n) (hg : MG s n d Z) (hRC : RCb n d = true) {red : Int} (hr : s.1 106 b = iz red) (r0 : 0 ≤ red) (r20 : red ≤ 20) {c : Nat} (hc : c < n * n) : f214 101 (iz c) s = some (s, if rd n Z d red c = true then 1 else 0) := by
  have sq := hn.sq25
  have hD := GD_bd hRC (fun c hc hd => (hg.1.2 c hc hd).2)
  have e45 : s.2 101 45 = lz (GD n Z d) := by obtain ⟨-, i, j, k, -, -, -, -, h⟩ := hg; exact h
  have hm := mbd (B := 32) (C := 20) (x := GD n Z d) (y := red) (by omega) hD.2 (by omega) r20
  unfold f214 f214_37 f214_38
  rw [ifg_pos O_101]
  simp (disch := omega) only [R_101_39, R_101_13, A_125, A_106, iz0, iz1, iz2, iz3, iz4, iz5, iz7, iz8, iz9, iz10, iz15, iz20, iz25, iz30, iz40, iz49, iz99, iz100, iz300, iz343, iz500, iz999, iz1000, iz1200, iz_add, iz_sub, iz_mul, iz_neg, it_le_t, it_le_f, it_lt_t, it_lt_f, it_eq_t, it_eq_f, bz0, bz1, ifg_T, or_true, true_or, if_true, if_false, Option.bind_some, Option.map_some, iz_in, iz_n, nat_toNat, hg.1.neg hc]
  by_cases q : d c = true
  · obtain ⟨g1, g2, g3⟩ := mo_gapOf hn hg hc q
    rw [if_pos q, g1]
    simp (disch := omega) only [iz0, iz1, iz2, iz3, iz4, iz5, iz7, iz8, iz9, iz10, iz15, iz20, iz25, iz30, iz40, iz49, iz99, iz100, iz300, iz343, iz500, iz999, iz1000, iz1200, iz_add, iz_sub, iz_mul, iz_neg, it_le_t, it_le_f, it_lt_t, it_lt_f, it_eq_t, it_eq_f, bz0, bz1, ifg_T, or_true, true_or, if_true, if_false, Option.bind_some, Option.map_some, e45, hr, hn.b_in, hn.b_nat, iz_l, lz_mul]
    by_cases q2 : GD n Z d * red < GP n Z d c
    · rw [lk_gt_t q2 (by omega) (by omega) (by omega) (by omega)]
      have : ¬ rd n Z d red c = true := by unfold rd; rw [Bool.and_eq_true, decide_eq_true_eq, Int.mul_comm]; omega
      rw [if_neg this]
    · rw [lk_gt_f (by omega) (by omega) (by omega) (by omega) (by omega)]
      have : rd n Z d red c = true := by unfold rd; rw [Bool.and_eq_true, decide_eq_true_eq, Int.mul_comm red]; exact ⟨q, by omega⟩
      rw [if_pos this]
  · rw [if_neg q]
    have : ¬ rd n Z d red c = true := by unfold rd; rw [Bool.and_eq_true]; exact fun r => q r.1
    rw [if_neg this]
end MM
