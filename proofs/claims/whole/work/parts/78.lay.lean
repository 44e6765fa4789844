/-! the class's match, the model's layOn -/
theorem fill_ok {id n : Nat} (hN : aN id = some (iz n)) (hW : ∀ (s : xS) (i x : Int32), wI s id i x = if xm_in i n = true then some (xm_up s.1 id i.toNatClampNeg x, s.2) else none) (hn : n ≤ 100000) (x : Int32) (s : xS) : ok (f286 id x s) (fun r => fr (fun a _ => a == id) s r.1 ∧ ∀ k, k < n → r.1.1 id k = x) := by
  unfold f286
  rw [hN]
  simp only [Option.bind_some, iz0]
  refine forz (fun m u => fr (fun a _ => a == id) s u ∧ ∀ k, k < m → u.1 id k = x) 0 n (by omega) (by omega) ⟨fr.rf _ _, fun k hk => by omega⟩ (fun m u _ hm ⟨h1, h2⟩ => ?_) (fun u ⟨h1, h2⟩ => ?_)
  · unfold f286_5
    simp (disch := omega) only [it_le_f, hW, iz_in, iz_n, iz1, iz_add, if_true, Option.bind_some, ok_some, lp_l, nat_toNat, true_and]
    refine ⟨h1.ui (by simp), fun k hk => ?_⟩
    by_cases e : k = m
    · exact up_at _ _ e
    · rw [up_ix _ _ e]; exact h2 k (by omega)
  · unfold f286_5
    simp (disch := omega) only [it_le_t, ok_map, ok_some, lp_r]
    exact ⟨h1, h2⟩
theorem sp_cnt_all : ∀ n, n < 6 → 3 ≤ n → ∀ t, t < 4 → ∀ u, u < 3 → ∀ v, v < 3 → cnt (fun c => decide (0 ≤ sp n t ((u : Nat) - 1 : Int) ((v : Nat) - 1 : Int) c)) (n * n) = cnt (dR n ((u : Nat) - 1 : Int) ((v : Nat) - 1 : Int)) (n * n) := by decide +kernel
theorem Ly.cnt {n t : Nat} {u v : Int} (h : Ly n t u v) : cnt (fun c => decide (0 ≤ sp n t u v c)) (n * n) = cnt (dR n u v) (n * n) := by
  obtain ⟨h1, h2, h3, h4, h5, h6, h7⟩ := h
  have h := sp_cnt_all n (by omega) h1 t (by omega) (u + 1).toNat (by omega) (v + 1).toNat (by omega)
  rw [show (((u + 1).toNat : Nat) : Int) - 1 = u by omega, show (((v + 1).toNat : Nat) : Int) - 1 = v by omega] at h
  exact h
/-- what changes where cells are matched -/
def FM (id k : Nat) : Bool := id == 48 || id == 49 || id == 50 || (id == 39 && k == 7)
/-- the class's pairs -/
def CM (s : xS) (n t : Nat) (u v : Int) : Prop := s.1 39 7 = iz (cnt (dR n u v) (n * n)) ∧ ∀ k, k < cnt (dR n u v) (n * n) → s.1 49 k = iz (en (dR n u v) (n * n) k) ∧ s.1 50 k = iz (ov n t u v (en (dR n u v) (n * n) k))
theorem CM.fr {F : Nat → Nat → Bool} {s s' : xS} {n t : Nat} {u v : Int} (h : CM s n t u v) (hf : fr F s s') (h1 : F 39 7 = false) (h2 : ∀ k, F 49 k = false) (h3 : ∀ k, F 50 k = false) : CM s' n t u v := ⟨by rw [hf.i 39 7 h1]; exact h.1, fun k hk => by rw [hf.i 49 k (h2 k), hf.i 50 k (h3 k)]; exact h.2 k hk⟩
set_option maxHeartbeats 1000000 in
theorem cl_match {s : xS} {n : Nat} (hn : Cn s n) {t : Nat} {u v : Int} (hL : Ly n t u v) : ok (f27 39 (iz t) (iz u) (iz v) s) (fun r => fr FM s r.1 ∧ CM r.1 n t u v) := by
  have sq := hn.sq
  have cl := cnt_le (dR n u v) (n * n)
  unfold f27
  rw [ifg_pos O_39, R_39_4, Option.bind_some]
  refine (fill_ok (id := 48) (n := 25) N_48 W_48 (by omega) _ s).bind (fun r0 ⟨g1, g2⟩ => ?_)
  simp only [iz0]
  refine forz (fun c w => fr FM s w ∧ ∀ e, e < n * n → w.1 48 e = if dR n u v e = true ∧ ov n t u v e < c then iz (ov n t u v e) else iz (-1)) 0 (n * n) (by omega) (by omega) ⟨g1.mono (fun id k h => by unfold FM; simp at h; simp [h]), fun e he => by rw [if_neg (by omega)]; exact g2 e (by omega)⟩ (fun c w _ hc ⟨h1, h2⟩ => ?_) (fun w ⟨h1, h2⟩ => ?_)
  · have hnw : Cn w n := hn.fr h1 rfl
    have hA := hL.all hc
    unfold f27_11 f27_49
    simp (disch := omega) only [R_39_0, Option.bind_some, hnw.cells, it_le_f, cl_spot hnw hL hc, iz1, iz_neg]
    by_cases e0 : sp n t u v c = -1
    · simp (disch := omega) only [it_eq_t, iz1, iz_add, ok_some, lp_l, true_and]
      refine ⟨h1, fun e he => ?_⟩
      rw [h2 e he]
      have hE := hL.all he
      by_cases q : dR n u v e = true ∧ ov n t u v e < c
      · rw [if_pos q, if_pos ⟨q.1, by omega⟩]
      · rw [if_neg q, if_neg]
        rintro ⟨q1, q2⟩
        have h9 : ¬ ov n t u v e < c := fun h => q ⟨q1, h⟩
        have : ov n t u v e = c := by omega
        have h3 := hE.1.mp q1
        rw [this, e0] at h3
        omega
    · obtain ⟨hd, ho⟩ := hA.2.2.2.2.resolve_left e0
      have b1 := hA.2.2.1
      have b2 := hA.2.2.2.1
      have b3 : (sp n t u v c).toNat < n * n := by omega
      simp (disch := omega) only [it_eq_f, R_39_4, Option.bind_some, W_48, iz_in, iz_n, if_true, iz1, iz_add, ok_some, lp_l, true_and]
      refine ⟨h1.ui rfl, fun e he => ?_⟩
      have hE := hL.all he
      by_cases e1 : e = (sp n t u v c).toNat
      · rw [up_at _ _ e1, e1, ho, if_pos ⟨hd, by omega⟩]
      · rw [up_ix _ _ e1, h2 e he]
        by_cases q : dR n u v e = true ∧ ov n t u v e < c
        · rw [if_pos q, if_pos ⟨q.1, by omega⟩]
        · rw [if_neg q, if_neg]
          rintro ⟨q1, q2⟩
          have h9 : ¬ ov n t u v e < c := fun h => q ⟨q1, h⟩
          have : ov n t u v e = c := by omega
          have h3 := hE.1.mp q1
          rw [this] at h3
          omega
  · have hnw : Cn w n := hn.fr h1 rfl
    have h3 : ∀ e, e < n * n → w.1 48 e = if dR n u v e = true then iz (ov n t u v e) else iz (-1) := by
      intro e he
      rw [h2 e he]
      have hE := hL.all he
      by_cases q : dR n u v e = true
      · rw [if_pos ⟨q, hE.2.1⟩, if_pos q]
      · rw [if_neg (fun r => q r.1), if_neg q]
    unfold f27_11
    simp (disch := omega) only [R_39_0, Option.bind_some, hnw.cells, it_le_t, ok_map, pI, iz0]
    refine forz (fun c w => fr FM s w ∧ (∀ e, e < n * n → w.1 48 e = if dR n u v e = true then iz (ov n t u v e) else iz (-1)) ∧ w.1 39 7 = iz (cnt (dR n u v) c) ∧ ∀ k, k < cnt (dR n u v) c → w.1 49 k = iz (en (dR n u v) (n * n) k) ∧ w.1 50 k = iz (ov n t u v (en (dR n u v) (n * n) k))) 0 (n * n) (by omega) (by omega) ⟨h1.ui rfl, fun e he => by dsimp only; rw [up_id _ _ (by decide)]; exact h3 e he, by dsimp only; exact up_eq _ _ _ _, fun k hk => by simp only [cnt] at hk; omega⟩ (fun c w _ hc ⟨h1, h2, h4, h5⟩ => ?_) (fun w ⟨h1, h2, h4, h5⟩ => ?_)
    · have hnw : Cn w n := hn.fr h1 rfl
      have h6 := h2 c hc
      have hc1 := cnt_le (dR n u v) c
      unfold f27_63 f27_123
      by_cases q : dR n u v c = true
      · rw [if_pos q] at h6
        have h7 : cnt (dR n u v) (c + 1) = cnt (dR n u v) c + 1 := by simp only [cnt, q, if_true]
        have h8 := en_at hc q
        have h9 := (hL.all hc).2.1
        simp (disch := omega) only [R_39_0, R_39_4, R_39_5, R_39_6, Option.bind_some, hnw.cells, it_le_f, A_48, iz_in, iz_n, if_true, nat_toNat, h6, iz1, iz_neg, it_eq_f, h4, W_49, W_50, up_id, pI, iz1, iz_add, ok_some, lp_l, true_and]
        rw [h7]
        refine ⟨((h1.ui rfl).ui rfl).ui rfl, fun e he => h2 e he, by rw [up_eq]; rfl, fun k hk => ?_⟩
        by_cases e : k = cnt (dR n u v) c
        · subst e
          simp (disch := omega) only [up_id, up_eq, h8, and_self]
        · simp (disch := omega) only [up_id, up_ix]
          exact h5 k (by omega)
      · rw [if_neg q] at h6
        have h7 : cnt (dR n u v) (c + 1) = cnt (dR n u v) c := by simp only [cnt, if_neg q, Nat.add_zero]
        simp (disch := omega) only [R_39_0, R_39_4, Option.bind_some, hnw.cells, it_le_f, A_48, iz_in, iz_n, if_true, nat_toNat, h6, iz1, iz_neg, it_eq_t, iz1, iz_add, ok_some, lp_l, true_and]
        rw [h7]
        exact ⟨h1, h2, h4, h5⟩
    · have hnw : Cn w n := hn.fr h1 rfl
      unfold f27_63
      simp (disch := omega) only [R_39_0, Option.bind_some, hnw.cells, it_le_t, ok_map, ok_some, lp_r, lp]
      exact ⟨h1, h4, h5⟩
