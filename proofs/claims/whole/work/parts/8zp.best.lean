/-! best at the class: what is kept, findBest -/
def FUB (id k : Nat) : Bool := FU id k || FQb id k
theorem FU_B (id k : Nat) (h : FU id k = true) : FUB id k = true := by unfold FUB; rw [h]; rfl
theorem FQb_B (id k : Nat) (h : FQb id k = true) : FUB id k = true := by unfold FUB; rw [h, Bool.or_true]
section CF
variable {s : xS} {b n pl : Nat} {red slip : Int} {x : sS} {W S : Nat → Int} {st : Int32} {rc : Nat} {Rs : Nat → Rn}
/-- the kept answer of best -/
def BeK (s : xS) (n pl : Nat) (red slip : Int) (W S : Nat → Int) (rc : Nat) (Rs : Nat → Rn) (x : sS) (m : Nat) (k : Int) (o : Option Nat) : Prop := s.1 51 9 = iz 1 ∧ s.1 51 10 = iz m ∧ s.1 51 11 = iz k ∧ IsB (flC n pl red slip W S rc Rs x k m) (irn n red slip W S rc Rs x m) (rc ^ m) o ∧ BCr s n red slip W S rc Rs x m o
def BeI (s : xS) (n pl : Nat) (red slip : Int) (W S : Nat → Int) (rc : Nat) (Rs : Nat → Rn) (x : sS) : Prop := s.1 51 9 = iz 0 ∨ ∃ (m : Nat) (k : Int) (o : Option Nat), 1 ≤ m ∧ m ≤ 3 ∧ 0 ≤ k ∧ k ≤ 999 ∧ BeK s n pl red slip W S rc Rs x m k o
theorem BeK.fr {F : Nat → Nat → Bool} {s' : xS} {m : Nat} {k : Int} {o : Option Nat} (h : BeK s n pl red slip W S rc Rs x m k o) (hf : fr F s s') (h1 : F 51 8 = false ∧ F 51 9 = false ∧ F 51 10 = false ∧ F 51 11 = false) (h2 : ∀ k, F 55 k = false) : BeK s' n pl red slip W S rc Rs x m k o := by
  obtain ⟨a1, a2, a3, a4, a5⟩ := h
  exact ⟨by rw [hf.i _ _ h1.2.1]; exact a1, by rw [hf.i _ _ h1.2.2.1]; exact a2, by rw [hf.i _ _ h1.2.2.2]; exact a3, a4, a5.fr hf h1.1 h2⟩
theorem BeI.fr {F : Nat → Nat → Bool} {s' : xS} (h : BeI s n pl red slip W S rc Rs x) (hf : fr F s s') (h1 : F 51 8 = false ∧ F 51 9 = false ∧ F 51 10 = false ∧ F 51 11 = false) (h2 : ∀ k, F 55 k = false) : BeI s' n pl red slip W S rc Rs x := by
  rcases h with h | ⟨m, k, o, a1, a2, a3, a4, a5⟩
  · exact Or.inl (by rw [hf.i _ _ h1.2.1]; exact h)
  · exact Or.inr ⟨m, k, o, a1, a2, a3, a4, a5.fr hf h1 h2⟩
def bAns (o : Option Nat) (v : Int32) : Prop := (v = iz 1 ∧ ∃ c, o = some c) ∨ (v = iz 0 ∧ o = none)
theorem ct_95 (hV : KV n pl red slip x W S rc Rs) (h0 : 0 < rc) {m : Nat} (m3 : m ≤ 3) {o : Option Nat} (h : BCr s n red slip W S rc Rs x m o) : ∃ v, f101_95 51 s = some (s, v) ∧ bAns o v := by
  unfold f101_95 f101_108
  rcases h with ⟨rfl, h2⟩ | ⟨c, rfl, h2, -⟩
  · simp (disch := omega) only [h2, izm1, iz0, iz1, iz2, iz3, iz4, iz5, iz7, iz8, iz9, iz10, iz15, iz20, iz25, iz30, iz40, iz49, iz99, iz100, iz300, iz343, iz500, iz999, iz1000, iz1200, iz_add, iz_sub, iz_mul, iz_neg, it_le_t, it_le_f, it_lt_t, it_lt_f, it_eq_t, it_eq_f, bz0, bz1, ifg_T, or_true, true_or, if_true, if_false, Option.bind_some, Option.map_some]
    exact ⟨_, rfl, Or.inr ⟨rfl, rfl⟩⟩
  · have := (irn_at hV h0 m3 c).2
    simp (disch := omega) only [h2, izm1, iz0, iz1, iz2, iz3, iz4, iz5, iz7, iz8, iz9, iz10, iz15, iz20, iz25, iz30, iz40, iz49, iz99, iz100, iz300, iz343, iz500, iz999, iz1000, iz1200, iz_add, iz_sub, iz_mul, iz_neg, it_le_t, it_le_f, it_lt_t, it_lt_f, it_eq_t, it_eq_f, bz0, bz1, ifg_T, or_true, true_or, if_true, if_false, Option.bind_some, Option.map_some]
    exact ⟨_, rfl, Or.inl ⟨rfl, c, rfl⟩⟩
theorem ct_52 (h : Core s b n pl red slip x W S st rc Rs) (h0 : 0 < rc) {m : Nat} (m1 : 1 ≤ m) (m3 : m ≤ 3) {k : Int} (k0 : 0 ≤ k) (k9 : k ≤ 999) : ok (f101_52 51 (iz m) (iz k) s) (fun r => fr FQb s r.1 ∧ ∃ o, BeK r.1 n pl red slip W S rc Rs x m k o ∧ bAns o r.2) := by
  have hV := h.2.2
  unfold f101_52
  simp only [pI, Option.bind_some, iz1, iz_neg]
  have f1 : fr FQb s (xm_up (xm_up (xm_up (xm_up s.1 51 9 (iz 1)) 51 10 (iz m)) 51 11 (iz k)) 51 8 (iz (-1)), s.2) := ((((fr.rf FQb s).ui (v := iz 1) (id := 51) (k := 9) rfl).ui (v := iz m) (id := 51) (k := 10) rfl).ui (v := iz k) (id := 51) (k := 11) rfl).ui (v := iz (-1)) (id := 51) (k := 8) rfl
  generalize hw : ((xm_up (xm_up (xm_up (xm_up s.1 51 9 (iz 1)) 51 10 (iz m)) 51 11 (iz k)) 51 8 (iz (-1)), s.2) : xS) = w at f1 ⊢
  have w9 : w.1 51 9 = iz 1 := by rw [← hw]; dsimp only; rw [up_ix _ _ (by omega), up_ix _ _ (by omega), up_ix _ _ (by omega), up_eq]
  have w10 : w.1 51 10 = iz m := by rw [← hw]; dsimp only; rw [up_ix _ _ (by omega), up_ix _ _ (by omega), up_eq]
  have w11 : w.1 51 11 = iz k := by rw [← hw]; dsimp only; rw [up_ix _ _ (by omega), up_eq]
  have w8 : w.1 51 8 = iz (-1) := by rw [← hw]; dsimp only; rw [up_eq]
  have h1 := Core_Q h f1
  refine (cl_look h1 k0 k9).bind (fun t1 ⟨a1, a2⟩ => ?_)
  have f2 := f1.tr (a1.mono (fun id k hk => Fz_Q id k (FLf_z id k hk)))
  have h2 := Core_Q h f2
  simp only [R_51_4, R_51_2, Option.bind_some, iz0]
  rw [show aR 52 (iz 0) = some 56 from AR_52 (q := 0) (by omega)]
  simp only [Option.bind_some]
  rw [ifg_pos O_56]
  refine (cl_become is56 is33 (by omega) (KC_bx h2.1)).bind (fun t2 ⟨b1, b2⟩ => ?_)
  have f3 := f2.tr (b1.mono (fun id k hk => Fz_Q id k (FBm_z (Or.inl rfl) id k hk)))
  have g8 : t2.1.1 51 8 = iz (-1) := by rw [b1.i _ _ rfl, a1.i _ _ rfl]; exact w8
  have g9 : t2.1.1 51 9 = iz 1 := by rw [b1.i _ _ rfl, a1.i _ _ rfl]; exact w9
  have g10 : t2.1.1 51 10 = iz m := by rw [b1.i _ _ rfl, a1.i _ _ rfl]; exact w10
  have g11 : t2.1.1 51 11 = iz k := by rw [b1.i _ _ rfl, a1.i _ _ rfl]; exact w11
  have hT : TRw s t2.1 n pl red slip W S rc Rs x k m 0 0 := ⟨f3, g10, g11, fun q hq => by rw [b1.i _ _ rfl]; exact a2 q hq, ⟨st, b2⟩, fun j hj => by omega⟩
  unfold f102
  obtain ⟨t, rfl⟩ : ∃ t, m = t + 1 := ⟨m - 1, by omega⟩
  refine (ct_rows h h0 k0 k9 m3 t 0 0 t2.1 none 4 (by omega) (by omega) hT (by rw [Nat.zero_mul]; exact IsB_0) (Or.inl ⟨rfl, g8⟩)).bind (fun t3 ⟨c1, o, c2, c3⟩ => ?_)
  rw [Nat.zero_add, Nat.one_mul] at c2
  obtain ⟨v, v1, v2⟩ := ct_95 hV h0 m3 c3
  rw [v1, ok_some]
  exact ⟨f3.tr (c1.mono FTb_Q), o, ⟨by rw [c1.i _ _ rfl]; exact g9, by rw [c1.i _ _ rfl]; exact g10, by rw [c1.i _ _ rfl]; exact g11, c2, c3⟩, v2⟩
theorem ct_find (h : Core s b n pl red slip x W S st rc Rs) (hB : BeI s n pl red slip W S rc Rs x) (h0 : 0 < rc) {m : Nat} (m1 : 1 ≤ m) (m3 : m ≤ 3) {k : Int} (k0 : 0 ≤ k) (k9 : k ≤ 999) : ok (f101 51 (iz m) (iz k) s) (fun r => fr FQb s r.1 ∧ ∃ o, BeK r.1 n pl red slip W S rc Rs x m k o ∧ bAns o r.2) := by
  have hrc := h.rc10
  have c9 := h.1.2.2.2.2.2.2.2.1
  unfold f101
  rw [ifg_pos O_51]
  simp (disch := omega) only [iz0, iz1, iz2, iz3, iz4, iz5, iz7, iz8, iz9, iz10, iz15, iz20, iz25, iz30, iz40, iz49, iz99, iz100, iz300, iz343, iz500, iz999, iz1000, iz1200, iz_add, iz_sub, iz_mul, iz_neg, it_le_t, it_le_f, it_lt_t, it_lt_f, it_eq_t, it_eq_f, bz0, bz1, ifg_T, or_true, true_or, if_true, if_false, Option.bind_some, Option.map_some, g_off_t, R_51_1, c9]
  rcases hB with h9 | ⟨m', k', o, a1, a2, a3, a4, a5⟩
  · simp (disch := omega) only [h9, iz0, iz1, iz2, iz3, iz4, iz5, iz7, iz8, iz9, iz10, iz15, iz20, iz25, iz30, iz40, iz49, iz99, iz100, iz300, iz343, iz500, iz999, iz1000, iz1200, iz_add, iz_sub, iz_mul, iz_neg, it_le_t, it_le_f, it_lt_t, it_lt_f, it_eq_t, it_eq_f, bz0, bz1, ifg_T, or_true, true_or, if_true, if_false, Option.bind_some, Option.map_some]
    exact ct_52 h h0 m1 m3 k0 k9
  · obtain ⟨g9, g10, g11, g12, g13⟩ := a5
    simp (disch := omega) only [g9, g10, g11, iz0, iz1, iz2, iz3, iz4, iz5, iz7, iz8, iz9, iz10, iz15, iz20, iz25, iz30, iz40, iz49, iz99, iz100, iz300, iz343, iz500, iz999, iz1000, iz1200, iz_add, iz_sub, iz_mul, iz_neg, it_le_t, it_le_f, it_lt_t, it_lt_f, it_eq_t, it_eq_f, bz0, bz1, ifg_T, or_true, true_or, if_true, if_false, Option.bind_some, Option.map_some]
    by_cases e1 : m' = m
    · subst e1
      by_cases e2 : k' = k
      · subst e2
        simp (disch := omega) only [iz0, iz1, iz2, iz3, iz4, iz5, iz7, iz8, iz9, iz10, iz15, iz20, iz25, iz30, iz40, iz49, iz99, iz100, iz300, iz343, iz500, iz999, iz1000, iz1200, iz_add, iz_sub, iz_mul, iz_neg, it_le_t, it_le_f, it_lt_t, it_lt_f, it_eq_t, it_eq_f, bz0, bz1, ifg_T, or_true, true_or, if_true, if_false, Option.bind_some, Option.map_some]
        obtain ⟨v, v1, v2⟩ := ct_95 h.2.2 h0 m3 g13
        rw [v1, ok_some]
        exact ⟨fr.rf _ _, o, ⟨g9, g10, g11, g12, g13⟩, v2⟩
      · simp (disch := omega) only [iz0, iz1, iz2, iz3, iz4, iz5, iz7, iz8, iz9, iz10, iz15, iz20, iz25, iz30, iz40, iz49, iz99, iz100, iz300, iz343, iz500, iz999, iz1000, iz1200, iz_add, iz_sub, iz_mul, iz_neg, it_le_t, it_le_f, it_lt_t, it_lt_f, it_eq_t, it_eq_f, bz0, bz1, ifg_T, or_true, true_or, if_true, if_false, Option.bind_some, Option.map_some]
        exact ct_52 h h0 m1 m3 k0 k9
    · simp (disch := omega) only [iz0, iz1, iz2, iz3, iz4, iz5, iz7, iz8, iz9, iz10, iz15, iz20, iz25, iz30, iz40, iz49, iz99, iz100, iz300, iz343, iz500, iz999, iz1000, iz1200, iz_add, iz_sub, iz_mul, iz_neg, it_le_t, it_le_f, it_lt_t, it_lt_f, it_eq_t, it_eq_f, bz0, bz1, ifg_T, or_true, true_or, if_true, if_false, Option.bind_some, Option.map_some]
      exact ct_52 h h0 m1 m3 k0 k9
theorem ct_find0 {m k : Int} (m0 : -2147483648 ≤ m) (m1 : m ≤ 2147483647) (k0 : -2147483648 ≤ k) (k1 : k ≤ 2147483647) (h : Core s b n pl red slip x W S st rc Rs) (hg : ¬ (1 ≤ m ∧ m ≤ 3 ∧ 0 ≤ k ∧ k ≤ 999 ∧ 0 < rc)) : f101 51 (iz m) (iz k) s = some (s, iz 0) := by
  have hrc := h.rc10
  have c9 := h.1.2.2.2.2.2.2.2.1
  unfold f101 f101_27
  rw [ifg_pos O_51]
  by_cases e1 : m < 1
  · simp (disch := omega) only [iz0, iz1, iz2, iz3, iz4, iz5, iz7, iz8, iz9, iz10, iz15, iz20, iz25, iz30, iz40, iz49, iz99, iz100, iz300, iz343, iz500, iz999, iz1000, iz1200, iz_add, iz_sub, iz_mul, iz_neg, it_le_t, it_le_f, it_lt_t, it_lt_f, it_eq_t, it_eq_f, bz0, bz1, ifg_T, or_true, true_or, if_true, if_false, Option.bind_some, Option.map_some]
  · by_cases e2 : 3 < m
    · simp (disch := omega) only [iz0, iz1, iz2, iz3, iz4, iz5, iz7, iz8, iz9, iz10, iz15, iz20, iz25, iz30, iz40, iz49, iz99, iz100, iz300, iz343, iz500, iz999, iz1000, iz1200, iz_add, iz_sub, iz_mul, iz_neg, it_le_t, it_le_f, it_lt_t, it_lt_f, it_eq_t, it_eq_f, bz0, bz1, ifg_T, or_true, true_or, if_true, if_false, Option.bind_some, Option.map_some]
    · by_cases e3 : 0 ≤ k ∧ k ≤ 999
      · have : rc = 0 := by omega
        subst this
        simp (disch := omega) only [iz0, iz1, iz2, iz3, iz4, iz5, iz7, iz8, iz9, iz10, iz15, iz20, iz25, iz30, iz40, iz49, iz99, iz100, iz300, iz343, iz500, iz999, iz1000, iz1200, iz_add, iz_sub, iz_mul, iz_neg, it_le_t, it_le_f, it_lt_t, it_lt_f, it_eq_t, it_eq_f, bz0, bz1, ifg_T, or_true, true_or, if_true, if_false, Option.bind_some, Option.map_some, g_off_t, R_51_1, c9]
      · simp (disch := omega) only [iz0, iz1, iz2, iz3, iz4, iz5, iz7, iz8, iz9, iz10, iz15, iz20, iz25, iz30, iz40, iz49, iz99, iz100, iz300, iz343, iz500, iz999, iz1000, iz1200, iz_add, iz_sub, iz_mul, iz_neg, it_le_t, it_le_f, it_lt_t, it_lt_f, it_eq_t, it_eq_f, bz0, bz1, ifg_T, or_true, true_or, if_true, if_false, Option.bind_some, Option.map_some, g_off_f]
end CF
