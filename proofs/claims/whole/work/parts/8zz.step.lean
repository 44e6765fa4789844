/-! step at the class -/
section CS
variable {s : xS} {B : Nat → Int} {L : Nat}
theorem it_b {α : Type} {b : Bool} {x y : α} {dc : Decidable ((if b = true then iz 1 else iz 0) = iz 0)} : @ite α ((if b = true then iz 1 else iz 0) = iz 0) dc x y = if b = true then y else x := by
  cases b with
  | true => exact (if_neg (show ¬ (if true = true then iz 1 else iz 0) = iz 0 from (by decide : ¬ iz 1 = iz 0))).trans (if_pos rfl).symm
  | false => exact (if_pos (show (if false = true then iz 1 else iz 0) = iz 0 from rfl)).trans (if_neg (by decide)).symm
theorem cs_word (h : CTx s B L) {q : Nat} (hq : q ≤ L) (h4 : s.1 1 4 = iz q) (h6 : s.1 1 6 = iz q) : ok (f88 1 s) (fun r => fr Ftk s r.1 ∧ r.1.1 1 6 = iz q ∧ r.1.1 1 4 = iz (scn cLe B L q) ∧ r.1.2 1 7 = wdk B q (scn cLe B L q - q) ∧ r.1.1 1 5 = iz ((if scn cLe B L q - q ≤ 8 then 1 else 5 : Nat) : Int)) := by
  have hL := h.1
  obtain ⟨a1, a2, a3, a4⟩ := scn_all cLe B L _ q rfl
  have a2 := a2 hq
  unfold f88
  rw [ifg_pos O_1]
  simp only [pL, Option.bind_some]
  have f0 : fr Ftk s (s.1, xm_up s.2 1 7 (0 : Int64)) := (fr.rf Ftk s).ul (id := 1) (k := 7) rfl
  refine whz (fun i w => q ≤ i ∧ fr Ftk s w ∧ w.1 1 4 = iz (i : Nat) ∧ w.1 1 6 = iz q ∧ w.2 1 7 = wdk B q (i - q)) (e := scn cLe B L q) (fun i w hi ⟨b0, b1, b2, b3, b4⟩ => ?_) (fun w ⟨b0, b1, b2, b3, b4⟩ => ?_) _ q _ rfl a1 ⟨Nat.le_refl _, f0, h4, h6, by rw [Nat.sub_self]; dsimp only; rw [up_eq]; rfl⟩
  · have hw := h.fr b1 rfl (fun _ => rfl)
    obtain ⟨c1, c2⟩ := a3 i b0 hi
    have cb := (h.2.2 i c1).2
    unfold f88_5
    rw [hw.2.1, b2, it_le_f (by omega) (by omega) (by omega)]
    simp only [R_1_0, Option.bind_some, ct_byte hw c1, g92 cb.1 (show B i ≤ 255 by have := cb.2; omega), iz0, it_b, if_pos c2, b2, pL, pI, b4, iz1, iz_add]
    rw [it_eq_f (by omega) (by omega) (by omega) (by omega) (by omega), ok_some]
    refine ⟨_, rfl, by omega, (b1.ul (id := 1) (k := 7) rfl).ui (id := 1) (k := 4) rfl, (by first | exact up_eqP _ _ _ _ _ | exact up_eq _ _ _ _), ?_, ?_⟩
    · dsimp only
      rw [up_ix _ _ (by omega)]
      exact b3
    · dsimp only
      rw [up_eq, show i + 1 - q = (i - q) + 1 by omega, wdk, show q + (i - q) = i by omega]
  · have hw := h.fr b1 rfl (fun _ => rfl)
    have fin : ok (f88_66 1 w) (fun r => fr Ftk s r.1 ∧ r.1.1 1 6 = iz q ∧ r.1.1 1 4 = iz (scn cLe B L q) ∧ r.1.2 1 7 = wdk B q (scn cLe B L q - q) ∧ r.1.1 1 5 = iz ((if scn cLe B L q - q ≤ 8 then 1 else 5 : Nat) : Int)) := by
      unfold f88_66 f88_86
      rw [b2, b3, iz_sub, iz8]
      by_cases e : scn cLe B L q - q ≤ 8
      · rw [it_le_t (by omega) (by omega) (by omega), if_pos e]
        simp only [pI, Option.bind_some, ok_some, iz1]
        refine ⟨b1.ui (id := 1) (k := 5) rfl, ?_, ?_, b4, up_eq _ _ _ _⟩
        · rw [up_ix _ _ (by omega)]; exact b3
        · rw [up_ix _ _ (by omega)]; exact b2
      · rw [it_le_f (by omega) (by omega) (by omega), if_neg e]
        simp only [pI, Option.bind_some, ok_some, iz5]
        refine ⟨b1.ui (id := 1) (k := 5) rfl, ?_, ?_, b4, up_eq _ _ _ _⟩
        · rw [up_ix _ _ (by omega)]; exact b3
        · rw [up_ix _ _ (by omega)]; exact b2
    obtain ⟨v, v1, v2⟩ := fin
    unfold f88_5
    rw [hw.2.1, b2]
    by_cases e : L ≤ scn cLe B L q
    · rw [it_le_t (by omega) (by omega) (by omega), v1]
      exact ⟨_, rfl, v, rfl, v2⟩
    · have c2 : ¬ cLe (B (scn cLe B L q)) = true := fun r => a4 ⟨by omega, r⟩
      have cb := (h.2.2 (scn cLe B L q) (by omega)).2
      rw [it_le_f (by omega) (by omega) (by omega)]
      simp only [R_1_0, Option.bind_some, ct_byte hw (show scn cLe B L q < L by omega), g92 cb.1 (show B (scn cLe B L q) ≤ 255 by have := cb.2; omega), iz0, it_b, if_neg c2]
      rw [v1]
      exact ⟨_, rfl, v, rfl, v2⟩
theorem cs_num (h : CTx s B L) {q : Nat} (hq : q ≤ L) (h4 : s.1 1 4 = iz q) (h6 : s.1 1 6 = iz q) : ok (f89 1 s) (fun r => fr Ftk s r.1 ∧ r.1.1 1 6 = iz q ∧ r.1.1 1 4 = iz (scn cDg B L q) ∧ r.1.1 1 8 = iz (nmk B q (scn cDg B L q - q)) ∧ r.1.1 1 5 = iz ((if ¬ (scn cDg B L q < L ∧ cLe (B (scn cDg B L q)) = true) ∧ scn cDg B L q - q ≤ 4 then 2 else 5 : Nat) : Int)) := by
  have hL := h.1
  obtain ⟨a1, a2, a3, a4⟩ := scn_all cDg B L _ q rfl
  have a2 := a2 hq
  unfold f89
  rw [ifg_pos O_1]
  simp only [pI, Option.bind_some]
  have f0 : fr Ftk s (xm_up s.1 1 8 (0 : Int32), s.2) := (fr.rf Ftk s).ui (id := 1) (k := 8) rfl
  refine whz (fun i w => q ≤ i ∧ fr Ftk s w ∧ w.1 1 4 = iz (i : Nat) ∧ w.1 1 6 = iz q ∧ w.1 1 8 = iz (nmk B q (i - q))) (e := scn cDg B L q) (fun i w hi ⟨b0, b1, b2, b3, b4⟩ => ?_) (fun w ⟨b0, b1, b2, b3, b4⟩ => ?_) _ q _ rfl a1 ⟨Nat.le_refl _, f0, by dsimp only; rw [up_ix _ _ (by omega)]; exact h4, by dsimp only; rw [up_ix _ _ (by omega)]; exact h6, by rw [Nat.sub_self]; exact up_eqP _ _ _ _ _⟩
  · have hw := h.fr b1 rfl (fun _ => rfl)
    obtain ⟨c1, c2⟩ := a3 i b0 hi
    have cb := (h.2.2 i c1).2
    unfold f89_5
    rw [hw.2.1, b2, it_le_f (by omega) (by omega) (by omega)]
    simp only [R_1_0, Option.bind_some, ct_byte hw c1, g93 cb.1 (show B i ≤ 255 by have := cb.2; omega), iz0, it_b, if_pos c2, b2, pL, pI, b4, iz1, iz10, iz48, iz_add, iz_mul, iz_sub]
    rw [it_eq_f (by omega) (by omega) (by omega) (by omega) (by omega), ok_some]
    refine ⟨_, rfl, by omega, (b1.ui (id := 1) (k := 8) rfl).ui (id := 1) (k := 4) rfl, ?_, ?_, ?_⟩
    · dsimp only
      rw [up_eq, up_ix _ _ (by omega), b2, iz_add]
      rfl
    · dsimp only
      rw [up_ix _ _ (by omega), up_ix _ _ (by omega)]
      exact b3
    · dsimp only
      rw [up_ix _ _ (by omega), up_eq, show i + 1 - q = (i - q) + 1 by omega, nmk, show q + (i - q) = i by omega]
  · have hw := h.fr b1 rfl (fun _ => rfl)
    have fin : ∀ y : Bool, (y = true ↔ (scn cDg B L q < L ∧ cLe (B (scn cDg B L q)) = true)) → ok (f89_99 1 (if y = true then iz 1 else iz 0) w) (fun r => fr Ftk s r.1 ∧ r.1.1 1 6 = iz q ∧ r.1.1 1 4 = iz (scn cDg B L q) ∧ r.1.1 1 8 = iz (nmk B q (scn cDg B L q - q)) ∧ r.1.1 1 5 = iz ((if ¬ (scn cDg B L q < L ∧ cLe (B (scn cDg B L q)) = true) ∧ scn cDg B L q - q ≤ 4 then 2 else 5 : Nat) : Int)) := by
      intro y hy
      unfold f89_99 f89_118 f89_123
      simp only [iz0, it_b]
      by_cases ey : y = true
      · rw [if_pos ey, if_neg (fun r => r.1 (hy.mp ey))]
        simp only [pI, Option.bind_some, ok_some, iz5]
        refine ⟨b1.ui (id := 1) (k := 5) rfl, ?_, ?_, ?_, up_eq _ _ _ _⟩
        · rw [up_ix _ _ (by omega)]; exact b3
        · rw [up_ix _ _ (by omega)]; exact b2
        · rw [up_ix _ _ (by omega)]; exact b4
      · rw [if_neg ey, b2, b3, iz_sub, iz4]
        by_cases e : scn cDg B L q - q ≤ 4
        · rw [it_le_t (by omega) (by omega) (by omega), if_pos ⟨fun r => ey (hy.mpr r), e⟩]
          simp only [pI, Option.bind_some, ok_some, iz2]
          refine ⟨b1.ui (id := 1) (k := 5) rfl, ?_, ?_, ?_, up_eq _ _ _ _⟩
          · rw [up_ix _ _ (by omega)]; exact b3
          · rw [up_ix _ _ (by omega)]; exact b2
          · rw [up_ix _ _ (by omega)]; exact b4
        · rw [it_le_f (by omega) (by omega) (by omega), if_neg (fun r => e r.2)]
          simp only [pI, Option.bind_some, ok_some, iz5]
          refine ⟨b1.ui (id := 1) (k := 5) rfl, ?_, ?_, ?_, up_eq _ _ _ _⟩
          · rw [up_ix _ _ (by omega)]; exact b3
          · rw [up_ix _ _ (by omega)]; exact b2
          · rw [up_ix _ _ (by omega)]; exact b4
    have f68 : ok (f89_68 1 w) (fun r => fr Ftk s r.1 ∧ r.1.1 1 6 = iz q ∧ r.1.1 1 4 = iz (scn cDg B L q) ∧ r.1.1 1 8 = iz (nmk B q (scn cDg B L q - q)) ∧ r.1.1 1 5 = iz ((if ¬ (scn cDg B L q < L ∧ cLe (B (scn cDg B L q)) = true) ∧ scn cDg B L q - q ≤ 4 then 2 else 5 : Nat) : Int)) := by
      unfold f89_68 f89_98
      rw [hw.2.1, b2]
      by_cases e : L ≤ scn cDg B L q
      · rw [it_le_t (by omega) (by omega) (by omega), iz0]
        exact fin false ⟨(fun r => by cases r), fun r => by omega⟩
      · have cb := (h.2.2 (scn cDg B L q) (by omega)).2
        rw [it_le_f (by omega) (by omega) (by omega)]
        simp only [R_1_0, Option.bind_some, ct_byte hw (show scn cDg B L q < L by omega), g92 cb.1 (show B (scn cDg B L q) ≤ 255 by have := cb.2; omega), iz0, it_b]
        by_cases c : cLe (B (scn cDg B L q)) = true
        · rw [if_pos c, iz1]
          exact fin true ⟨fun _ => ⟨by omega, c⟩, fun _ => rfl⟩
        · rw [if_neg c]
          exact fin false ⟨(fun r => by cases r), fun r => absurd r.2 c⟩
    obtain ⟨v, v1, v2⟩ := f68
    unfold f89_5
    rw [hw.2.1, b2]
    by_cases e : L ≤ scn cDg B L q
    · rw [it_le_t (by omega) (by omega) (by omega), v1]
      exact ⟨_, rfl, v, rfl, v2⟩
    · have c2 : ¬ cDg (B (scn cDg B L q)) = true := fun r => a4 ⟨by omega, r⟩
      have cb := (h.2.2 (scn cDg B L q) (by omega)).2
      rw [it_le_f (by omega) (by omega) (by omega)]
      simp only [R_1_0, Option.bind_some, ct_byte hw (show scn cDg B L q < L by omega), g93 cb.1 (show B (scn cDg B L q) ≤ 255 by have := cb.2; omega), iz0, it_b, if_neg c2]
      rw [v1]
      exact ⟨_, rfl, v, rfl, v2⟩
theorem cs_sign {q : Nat} (h4 : s.1 1 4 = iz (q : Nat)) (hq : q < 1200) (h6 : s.1 1 6 = iz q) {z : Int} (hz : byR z) : ok (f90 1 (iz z) s) (fun r => fr Ftk s r.1 ∧ r.1.1 1 6 = iz q ∧ r.1.1 1 4 = iz ((q + 1 : Nat) : Int) ∧ r.1.1 1 5 = iz ((if z = 59 then 3 else if z = 45 then 4 else 5 : Nat) : Int)) := by
  obtain ⟨z1, z2⟩ := hz
  have fin : ∀ j : Nat, ok (f90_33 1 (xm_up s.1 1 5 (iz j), s.2)) (fun r => fr Ftk s r.1 ∧ r.1.1 1 6 = iz q ∧ r.1.1 1 4 = iz ((q + 1 : Nat) : Int) ∧ r.1.1 1 5 = iz (j : Int)) := by
    intro j
    unfold f90_33
    simp only [pI, Option.bind_some, ok_some]
    refine ⟨((fr.rf Ftk s).ui (id := 1) (k := 5) (v := iz j) rfl).ui (id := 1) (k := 4) rfl, ?_, ?_, ?_⟩
    · rw [up_ix _ _ (by omega), up_ix _ _ (by omega)]; exact h6
    · rw [up_eq, up_ix _ _ (by omega), h4, iz1, iz_add]; rfl
    · rw [up_ix _ _ (by omega), up_eq]
  unfold f90
  rw [ifg_pos O_1, iz59, iz45]
  simp only [pI, Option.bind_some, iz3, iz4, iz5]
  by_cases a : z = 59
  · rw [it_eq_t a, if_pos a]
    exact fin 3
  · rw [it_eq_f a (by omega) (by omega) (by omega) (by omega), if_neg a]
    by_cases c : z = 45
    · rw [it_eq_t c, if_pos c]
      exact fin 4
    · rw [it_eq_f c (by omega) (by omega) (by omega) (by omega), if_neg c]
      exact fin 5
theorem cl_step (h : CTx s B L) {q : Nat} (hq : q ≤ L) (h4 : s.1 1 4 = iz q) : ok (f87 1 s) (fun r => fr Ftk s r.1 ∧ CTk r.1 B L q) := by
  have hL := h.1
  obtain ⟨a1, a2, a3, a4⟩ := scn_all cBl B L _ q rfl
  have a2 := a2 hq
  -- behind the blanks
  have fin : ∀ w, fr Ftk s w → w.1 1 4 = iz (scn cBl B L q) → ok (f87_39 1 w) (fun r => fr Ftk s r.1 ∧ CTk r.1 B L q) := by
    intro w b1 b2
    have f1 : fr Ftk s (xm_up w.1 1 6 (iz (scn cBl B L q)), w.2) := b1.ui (id := 1) (k := 6) rfl
    have hw := h.fr f1 rfl (fun _ => rfl)
    unfold f87_39 f87_123
    simp only [pI, Option.bind_some, b2]
    generalize hW : ((xm_up w.1 1 6 (iz (scn cBl B L q)), w.2) : xS) = W at f1 hw ⊢
    have w4 : W.1 1 4 = iz (scn cBl B L q) := by rw [← hW]; dsimp only; rw [up_ix _ _ (by omega)]; exact b2
    have w6 : W.1 1 6 = iz (scn cBl B L q) := by rw [← hW]; exact up_eqP _ _ _ _ _
    rw [show (xm_up w.1 1 6 (iz (scn cBl B L q))) = W.1 by rw [← hW], hw.2.1, w4]
    unfold CTk tkW tkN tok
    by_cases e : L ≤ scn cBl B L q
    · rw [it_lt_f (by omega) (by omega) (by omega)]
      simp only [if_pos e, ok_some, iz0]
      rw [show w.2 = W.2 by rw [← hW]]
      refine ⟨f1.ui (id := 1) (k := 5) rfl, (by first | exact up_eqP _ _ _ _ _ | exact up_eq _ _ _ _), ?_, ?_, (fun r => by cases r), (fun r => by cases r)⟩
      · rw [up_ix _ _ (by omega)]; exact w6
      · rw [up_ix _ _ (by omega)]; exact w4
    · have cb := (h.2.2 (scn cBl B L q) (by omega)).2
      have cb2 : B (scn cBl B L q) ≤ 255 := by have := cb.2; omega
      rw [it_lt_t (by omega) (by omega) (by omega)]
      simp only [if_neg e, R_1_0, Option.bind_some, ct_byte hw (show scn cBl B L q < L by omega), g92 cb.1 cb2, g93 cb.1 cb2, iz0, it_b, w4]
      by_cases c1 : cLe (B (scn cBl B L q)) = true
      · simp only [if_pos c1]
        refine (cs_word hw a2 w4 w6).bind (fun r ⟨d1, d2, d3, d4, d5⟩ => ?_)
        rw [ok_some]
        refine ⟨f1.tr d1, d5, d2, d3, fun _ => d4, fun r => ?_⟩
        exfalso
        revert r
        split <;> intro r <;> omega
      · simp only [if_neg c1]
        by_cases c2 : cDg (B (scn cBl B L q)) = true
        · simp only [if_pos c2]
          refine (cs_num hw a2 w4 w6).bind (fun r ⟨d1, d2, d3, d4, d5⟩ => ?_)
          rw [ok_some]
          refine ⟨f1.tr d1, d5, d2, d3, fun r => ?_, fun _ => d4⟩
          exfalso
          revert r
          split <;> intro r <;> omega
        · simp only [if_neg c2]
          refine (cs_sign w4 (by omega) w6 cb).bind (fun r ⟨d1, d2, d3, d4⟩ => ?_)
          rw [ok_some]
          refine ⟨f1.tr d1, d4, d2, d3, fun r => ?_, fun r => ?_⟩
          · exfalso
            revert r
            split
            · intro r; omega
            · split <;> intro r <;> omega
          · exfalso
            revert r
            split
            · intro r; omega
            · split <;> intro r <;> omega
  unfold f87
  rw [ifg_pos O_1]
  refine whz (fun i w => q ≤ i ∧ fr Ftk s w ∧ w.1 1 4 = iz (i : Nat)) (e := scn cBl B L q) (fun i w hi ⟨b0, b1, b2⟩ => ?_) (fun w ⟨b0, b1, b2⟩ => ?_) _ q _ rfl a1 ⟨Nat.le_refl _, fr.rf _ _, h4⟩
  · have hw := h.fr b1 rfl (fun _ => rfl)
    obtain ⟨c1, c2⟩ := a3 i b0 hi
    have cb := (h.2.2 i c1).2
    unfold f87_0
    rw [hw.2.1, b2, it_le_f (by omega) (by omega) (by omega)]
    simp only [R_1_0, Option.bind_some, ct_byte hw c1, g91 cb, iz0, it_b, if_pos c2, b2, pI, iz1, iz_add]
    rw [it_eq_f (by omega) (by omega) (by omega) (by omega) (by omega), ok_some]
    exact ⟨_, rfl, by omega, b1.ui (id := 1) (k := 4) rfl, (by first | exact up_eqP _ _ _ _ _ | exact up_eq _ _ _ _)⟩
  · have hw := h.fr b1 rfl (fun _ => rfl)
    obtain ⟨v, v1, v2⟩ := fin w b1 b2
    unfold f87_0
    rw [hw.2.1, b2]
    by_cases e : L ≤ scn cBl B L q
    · rw [it_le_t (by omega) (by omega) (by omega), v1]
      exact ⟨_, rfl, v, rfl, v2⟩
    · have c2 : ¬ cBl (B (scn cBl B L q)) = true := fun r => a4 ⟨by omega, r⟩
      have cb := (h.2.2 (scn cBl B L q) (by omega)).2
      rw [it_le_f (by omega) (by omega) (by omega)]
      simp only [R_1_0, Option.bind_some, ct_byte hw (show scn cBl B L q < L by omega), g91 cb, iz0, it_b, if_neg c2]
      rw [v1]
      exact ⟨_, rfl, v, rfl, v2⟩
end CS
