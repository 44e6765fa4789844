/-! goOn at the model -/
section MG2
variable {s : xS} {B : Nat → Int} {L : Nat}
theorem mk_num (h : MTx s B L) {q : Nat} (hq : q ≤ L) (h6 : s.1 101 6 = iz q) (h7 : s.1 101 7 = iz q) (h9 : s.1 101 9 = iz 0) : ok (whl (fun w : xS => f179_259 101 w) s) (fun r => fr Fmk s r.1 ∧ r.1.1 101 6 = iz q ∧ r.1.1 101 7 = iz (scn cDg B L q) ∧ (scn cDg B L q - q ≤ 4 → r.1.1 101 9 = iz (nmk B q (scn cDg B L q - q))) ∧ r.1.1 101 8 = iz ((if ¬ (scn cDg B L q < L ∧ cLe (B (scn cDg B L q)) = true) ∧ scn cDg B L q - q ≤ 4 then 4 else 1 : Nat) : Int)) := by
  have hL := h.1
  obtain ⟨a1, a2, a3, a4⟩ := scn_all cDg B L _ q rfl
  have a2 := a2 hq
  refine whz (fun i w => q ≤ i ∧ fr Fmk s w ∧ w.1 101 7 = iz (i : Nat) ∧ w.1 101 6 = iz q ∧ (i - q ≤ 4 → w.1 101 9 = iz (nmk B q (i - q)))) (e := scn cDg B L q) (fun i w hi ⟨b0, b1, b2, b3, b4⟩ => ?_) (fun w ⟨b0, b1, b2, b3, b4⟩ => ?_) _ q _ rfl a1 ⟨Nat.le_refl _, fr.rf _ _, h7, h6, fun _ => by rw [Nat.sub_self]; exact h9⟩
  · have hw := h.fr b1 rfl (fun _ => rfl)
    obtain ⟨c1, c2⟩ := a3 i b0 hi
    have sb := sgn_b hw i
    have eb : sgn B L i = B i := by
      have := cDg_iff.mp c2
      unfold sgn
      rw [if_pos c1]
      omega
    unfold f179_259 f179_309
    rw [b2, mt_sign hw (by omega)]
    simp only [Option.bind_some, g175 (show -128 ≤ sgn B L i by omega) sb.2, iz0, it_b]
    rw [if_pos ((sgn_dg hw).mpr ⟨c1, c2⟩), b2, b3, iz_sub, iz4]
    by_cases e : 4 ≤ i - q
    · rw [it_le_t (by omega) (by omega) (by omega)]
      simp only [pI, Option.bind_some, b2, iz1, iz_add]
      rw [ok_some]
      exact ⟨_, rfl, by omega, b1.ui (id := 101) (k := 7) rfl, (by first | exact up_eqP _ _ _ _ _ | exact up_eq _ _ _ _), by dsimp only; rw [up_ix _ _ (by omega)]; exact b3, fun r => by omega⟩
    · rw [it_le_f (by omega) (by omega) (by omega), mt_sign hw (by omega)]
      simp only [pI, Option.bind_some, b4 (by omega), iz1, iz10, iz48, iz_add, iz_mul, iz_sub]
      rw [ok_some]
      refine ⟨_, rfl, by omega, (b1.ui (id := 101) (k := 9) rfl).ui (id := 101) (k := 7) rfl, ?_, ?_, fun _ => ?_⟩
      · dsimp only
        rw [up_eq, up_ix _ _ (by omega), b2, iz_add]
        rfl
      · dsimp only
        rw [up_ix _ _ (by omega), up_ix _ _ (by omega)]
        exact b3
      · dsimp only
        rw [up_ix _ _ (by omega), up_eq, show i + 1 - q = (i - q) + 1 by omega, nmk, show q + (i - q) = i by omega, eb]
        congr 1
        omega
  · have hw := h.fr b1 rfl (fun _ => rfl)
    have sb := sgn_b hw (scn cDg B L q)
    have fin : ∀ j : Nat, j = (if ¬ (scn cDg B L q < L ∧ cLe (B (scn cDg B L q)) = true) ∧ scn cDg B L q - q ≤ 4 then 4 else 1 : Nat) → ok (f179_355 (iz j) 101 w) (fun r => fr Fmk s r.1 ∧ r.1.1 101 6 = iz q ∧ r.1.1 101 7 = iz (scn cDg B L q) ∧ (scn cDg B L q - q ≤ 4 → r.1.1 101 9 = iz (nmk B q (scn cDg B L q - q))) ∧ r.1.1 101 8 = iz ((if ¬ (scn cDg B L q < L ∧ cLe (B (scn cDg B L q)) = true) ∧ scn cDg B L q - q ≤ 4 then 4 else 1 : Nat) : Int)) := by
      intro j hj
      rw [← hj]
      unfold f179_355 f179_382
      simp only [pI, Option.bind_some, ok_some]
      exact ⟨b1.ui (id := 101) (k := 8) rfl, by rw [up_ix _ _ (by omega)]; exact b3, by rw [up_ix _ _ (by omega)]; exact b2, fun r => by rw [up_ix _ _ (by omega)]; exact b4 r, up_eq _ _ _ _⟩
    unfold f179_259 f179_350
    rw [b2, mt_sign hw (by omega)]
    simp only [Option.bind_some, g175 (show -128 ≤ sgn B L (scn cDg B L q) by omega) sb.2, iz0, it_b]
    rw [if_neg (fun r => a4 ((sgn_dg hw).mp r)), b2, b3, iz_sub, iz4, ok_map]
    by_cases e : 4 < scn cDg B L q - q
    · rw [it_lt_t (by omega) (by omega) (by omega), iz1]
      refine (fin 1 (by rw [if_neg (fun r => by omega)])).mono (fun r hr => ⟨r, rfl, hr⟩)
    · rw [it_lt_f (by omega) (by omega) (by omega), mt_sign hw (by omega)]
      simp only [Option.bind_some, g174 (show -128 ≤ sgn B L (scn cDg B L q) by omega) sb.2, iz0, it_b]
      by_cases c : cLe (sgn B L (scn cDg B L q)) = true
      · rw [if_pos c, iz1]
        refine (fin 1 (by rw [if_neg (fun r => r.1 ((sgn_le hw).mp c))])).mono (fun r hr => ⟨r, rfl, hr⟩)
      · rw [if_neg c]
        refine (fin 4 (by rw [if_pos ⟨fun r => c ((sgn_le hw).mpr r), by omega⟩])).mono (fun r hr => ⟨r, rfl, hr⟩)
theorem sgn_bl (h : MTx s B L) {i : Nat} (hi : i < L) : cBl (B i) = true ↔ sgn B L i = 32 ∨ sgn B L i = 10 := by
  have := (h.2.2 i hi).2
  unfold byR at this
  unfold sgn
  rw [cBl_iff, if_pos hi]
  omega
theorem mo_step (h : MTx s B L) {q : Nat} (hq : q ≤ L) (h7 : s.1 101 7 = iz q) : ok (f179 101 s) (fun r => fr Fmk s r.1 ∧ MTk r.1 B L q) := by
  have hL := h.1
  obtain ⟨a1, a2, a3, a4⟩ := scn_all cBl B L _ q rfl
  have a2 := a2 hq
  have fin : ∀ w, fr Fmk s w → w.1 101 6 = iz (scn cBl B L q) → ok (f179_58 101 w) (fun r => fr Fmk s r.1 ∧ MTk r.1 B L q) := by
    intro w b1 b2
    have hw0 := h.fr b1 rfl (fun _ => rfl)
    have sb := sgn_b hw0 (scn cBl B L q)
    unfold f179_58
    rw [b2, mt_sign hw0 (by omega)]
    simp only [pI, Option.bind_some, b2, iz1, iz_add]
    generalize hW : ((xm_up w.1 101 7 (iz (((scn cBl B L q : Nat) : Int) + 1)), w.2) : xS) = W
    have f1 : fr Fmk s W := by rw [← hW]; exact b1.ui (id := 101) (k := 7) rfl
    have w6 : W.1 101 6 = iz (scn cBl B L q) := by rw [← hW]; dsimp only; rw [up_ix _ _ (by omega)]; exact b2
    have w7 : W.1 101 7 = iz ((scn cBl B L q + 1 : Nat) : Int) := by rw [← hW]; exact up_eqP _ _ _ _ _
    have hw := h.fr f1 rfl (fun _ => rfl)
    rw [show (xm_up w.1 101 7 (iz (((scn cBl B L q : Nat) : Int) + 1))) = W.1 by rw [← hW], hw.2.1, w6]
    unfold MTk tkW tkN tok
    by_cases e : L ≤ scn cBl B L q
    · have eL : scn cBl B L q = L := by omega
      rw [it_lt_f (by omega) (by omega) (by omega)]
      unfold f179_382
      simp only [if_pos e, ok_some, iz0]
      rw [show w.2 = W.2 by rw [← hW]]
      refine ⟨((f1.ui (id := 101) (k := 8) rfl).ui (id := 101) (k := 6) rfl).ui (id := 101) (k := 7) rfl, ?_, ?_, ?_, (fun r => by cases r), (fun r => by cases r)⟩
      · rw [up_ix _ _ (by omega), up_ix _ _ (by omega), up_eq]; rfl
      · rw [up_ix _ _ (by omega), up_eq, up_ix _ _ (by omega), hw.2.1, eL]
      · rw [up_eq, up_ix _ _ (by omega), up_ix _ _ (by omega), hw.2.1, eL]
    · have hlt : scn cBl B L q < L := by omega
      have cb := (h.2.2 (scn cBl B L q) hlt).2
      rw [it_lt_t (by omega) (by omega) (by omega)]
      simp only [if_neg e, Option.bind_some, g174 (show -128 ≤ sgn B L (scn cBl B L q) by omega) sb.2, g175 (show -128 ≤ sgn B L (scn cBl B L q) by omega) sb.2, iz0, it_b]
      by_cases c1 : cLe (B (scn cBl B L q)) = true
      · rw [if_pos ((sgn_le hw).mpr ⟨hlt, c1⟩)]
        simp only [if_pos c1]
        refine (mk_word hw hlt c1 w6 w7).mono (fun r ⟨d1, d2, d3, d4, d5⟩ => ?_)
        refine ⟨f1.tr d1, d5, d2, d3, fun r => d4 ?_, fun r => ?_⟩
        · by_cases g : scn cLe B L (scn cBl B L q) - scn cBl B L q ≤ 8
          · exact g
          · rw [if_neg g] at r; omega
        · exfalso
          revert r
          split <;> intro r <;> omega
      · rw [if_neg (fun r => c1 ((sgn_le hw).mp r).2)]
        simp only [if_neg c1]
        by_cases c2 : cDg (B (scn cBl B L q)) = true
        · rw [if_pos ((sgn_dg hw).mpr ⟨hlt, c2⟩)]
          simp only [if_pos c2, pI, Option.bind_some]
          refine (mk_num (B := B) (s := (xm_up (xm_up W.1 101 9 (iz 0)) 101 7 (xm_up W.1 101 9 (iz 0) 101 6), W.2)) (q := scn cBl B L q) ?_ a2 ?_ ?_ ?_).mono (fun r ⟨d1, d2, d3, d4, d5⟩ => ?_)
          · exact h.fr ((f1.ui (id := 101) (k := 9) rfl).ui (id := 101) (k := 7) rfl) rfl (fun _ => rfl)
          · dsimp only
            rw [up_ix _ _ (by omega), up_ix _ _ (by omega)]; exact w6
          · dsimp only
            rw [up_eq, up_ix _ _ (by omega)]; exact w6
          · dsimp only
            rw [up_ix _ _ (by omega), up_eq]
          · refine ⟨((f1.ui (id := 101) (k := 9) rfl).ui (id := 101) (k := 7) rfl).tr d1, ?_, d2, d3, fun r => ?_, fun r => d4 ?_⟩
            · rw [d5]
              split <;> rfl
            · exfalso
              revert r
              split <;> intro r <;> omega
            · revert r
              split
              · rename_i g
                exact fun _ => g.2
              · intro r; omega
        · rw [if_neg (fun r => c2 ((sgn_dg hw).mp r).2)]
          simp only [if_neg c2]
          have sg : ∀ j k : Nat, mK k (wdk B (scn cBl B L q) (scn cBl B L q + 1 - scn cBl B L q)) = j → k ≠ 1 → k ≠ 2 → ok (f179_379 (iz j) 101 W) (fun r => fr Fmk s r.1 ∧ r.1.1 101 8 = iz (mK k (wdk B (scn cBl B L q) (scn cBl B L q + 1 - scn cBl B L q))) ∧ r.1.1 101 6 = iz (scn cBl B L q) ∧ r.1.1 101 7 = iz ((scn cBl B L q + 1 : Nat) : Int) ∧ (k = 1 → r.1.2 101 10 = wdk B (scn cBl B L q) (scn cBl B L q + 1 - scn cBl B L q)) ∧ (k = 2 → r.1.1 101 9 = iz (nmk B (scn cBl B L q) (scn cBl B L q + 1 - scn cBl B L q)))) := by
            intro j k hj k1 k2
            unfold f179_379 f179_382
            simp only [pI, Option.bind_some, ok_some]
            exact ⟨f1.ui (id := 101) (k := 8) rfl, by rw [up_eq, hj], by rw [up_ix _ _ (by omega)]; exact w6, by rw [up_ix _ _ (by omega)]; exact w7, fun r => absurd r k1, fun r => absurd r k2⟩
          have es : sgn B L (scn cBl B L q) = B (scn cBl B L q) % 256 := by unfold sgn; rw [if_pos hlt]
          unfold byR at cb
          unfold f179_374
          rw [iz59, iz45, iz5]
          by_cases g1 : B (scn cBl B L q) = 59
          · rw [it_eq_t (show sgn B L (scn cBl B L q) = 59 by omega)]
            simp only [if_pos g1]
            exact sg 5 3 rfl (by omega) (by omega)
          · rw [it_eq_f (show sgn B L (scn cBl B L q) ≠ 59 by omega) (by omega) (by omega) (by omega) (by omega)]
            simp only [if_neg g1]
            by_cases g2 : B (scn cBl B L q) = 45
            · rw [it_eq_t (show sgn B L (scn cBl B L q) = 45 by omega)]
              simp only [if_pos g2]
              exact sg 5 4 rfl (by omega) (by omega)
            · rw [it_eq_f (show sgn B L (scn cBl B L q) ≠ 45 by omega) (by omega) (by omega) (by omega) (by omega)]
              simp only [if_neg g2]
              exact sg 1 5 rfl (by omega) (by omega)
  unfold f179
  rw [ifg_pos O_101]
  simp only [pI, Option.bind_some]
  refine whz (fun i w => q ≤ i ∧ fr Fmk s w ∧ w.1 101 6 = iz (i : Nat)) (e := scn cBl B L q) (fun i w hi ⟨b0, b1, b2⟩ => ?_) (fun w ⟨b0, b1, b2⟩ => ?_) _ q _ rfl a1 ⟨Nat.le_refl _, (fr.rf Fmk s).ui (id := 101) (k := 6) rfl, by dsimp only; rw [up_eq]; exact h7⟩
  · have hw := h.fr b1 rfl (fun _ => rfl)
    obtain ⟨c1, c2⟩ := a3 i b0 hi
    have sb := sgn_b hw i
    have st : ok (f179_45 101 w) (fun r => ∃ w', r = .inl w' ∧ q ≤ i + 1 ∧ fr Fmk s w' ∧ w'.1 101 6 = iz ((i + 1 : Nat) : Int)) := by
      unfold f179_45
      simp only [pI, Option.bind_some, b2, iz1, iz_add]
      rw [ok_some]
      exact ⟨_, rfl, by omega, b1.ui (id := 101) (k := 6) rfl, (by first | exact up_eqP _ _ _ _ _ | exact up_eq _ _ _ _)⟩
    unfold f179_8
    rw [hw.2.1, b2, it_le_f (by omega) (by omega) (by omega), mt_sign hw (by omega)]
    simp only [Option.bind_some, iz32, iz10, b2]
    rcases (sgn_bl hw c1).mp c2 with g | g
    · rw [it_eq_t g]
      exact st
    · rw [it_eq_f (show sgn B L i ≠ 32 by omega) (by omega) (by omega) (by omega) (by omega), mt_sign hw (by omega)]
      simp only [Option.bind_some]
      rw [it_eq_t g]
      exact st
  · have hw := h.fr b1 rfl (fun _ => rfl)
    have sb := sgn_b hw (scn cBl B L q)
    have fi : ok (Option.map Sum.inr (f179_58 101 w)) (fun r : xS ⊕ (xS × Unit) => ∃ v, r = .inr v ∧ fr Fmk s v.1 ∧ MTk v.1 B L q) := by
      rw [ok_map]
      exact (fin w b1 b2).mono (fun r hr => ⟨r, rfl, hr⟩)
    unfold f179_8
    rw [hw.2.1, b2]
    by_cases e : L ≤ scn cBl B L q
    · rw [it_le_t (by omega) (by omega) (by omega)]
      exact fi
    · have c2 : ¬ cBl (B (scn cBl B L q)) = true := fun r => a4 ⟨by omega, r⟩
      have c3 := fun r => c2 ((sgn_bl hw (show scn cBl B L q < L by omega)).mpr r)
      rw [it_le_f (by omega) (by omega) (by omega), mt_sign hw (by omega)]
      simp only [Option.bind_some, iz32, iz10, b2]
      rw [it_eq_f (fun r => c3 (Or.inl r)) (by omega) (by omega) (by omega) (by omega), mt_sign hw (by omega)]
      simp only [Option.bind_some]
      rw [it_eq_f (fun r => c3 (Or.inr r)) (by omega) (by omega) (by omega) (by omega)]
      exact fi
end MG2
