/-! a plate by its name, a round at the model -/
theorem msk0 : ∀ p, p < 4 → ((((0 : Int32) >>> (iz (p : Nat) &&& 31)) &&& (1 : Int32)) = 1 ↔ (fun _ : Nat => false) p = true) := by decide +kernel
theorem msk1 : ∀ u, u < 4 → ∀ p, p < 4 → (((((1 : Int32) <<< (iz (u : Nat) &&& 31)) >>> (iz (p : Nat) &&& 31)) &&& (1 : Int32)) = 1 ↔ (fun x : Nat => x == u) p = true) := by decide +kernel
theorem msk2 : ∀ u, u < 4 → ∀ l, l < 4 → ∀ p, p < 4 → (((((15 : Int32) &&& ((((1 : Int32) <<< (iz (u : Nat) &&& 31)) ||| ((1 : Int32) <<< (iz (l : Nat) &&& 31))) ^^^ (-1 : Int32))) >>> (iz (p : Nat) &&& 31)) &&& (1 : Int32)) = 1 ↔ (fun x : Nat => x != u && x != l) p = true) := by decide +kernel
section MPl
variable {s : xS} {B : Nat → Int} {L q b pl : Nat} {nm : Nat → Int64}
/-- the model's shop by name -/
def MNm (s : xS) (b pl : Nat) (nm : Nat → Int64) : Prop := b < 2 ∧ pl ≤ 4 ∧ s.1 101 25 = iz b ∧ s.1 105 b = iz pl ∧ ∀ p, p < pl → s.2 112 (4 * b + p) = nm p
theorem MNm.fr {F : Nat → Nat → Bool} {s' : xS} (h : MNm s b pl nm) (hf : fr F s s') (h1 : F 101 25 = false) (h2 : F 105 b = false) (h3 : ∀ p, p < 4 → F 112 (4 * b + p) = false) : MNm s' b pl nm := ⟨h.1, h.2.1, by rw [hf.i _ _ h1]; exact h.2.2.1, by rw [hf.i _ _ h2]; exact h.2.2.2.1, fun p hp => by rw [hf.l _ _ (h3 p (by have := h.2.1; omega))]; exact h.2.2.2.2 p hp⟩
theorem ms_plate {x : TS} (h : mOut B L x s) (hN : MNm s b pl nm) {m : Int32} {bad : Nat → Bool} (hm : ∀ p, p < 4 → (((m >>> (iz (p : Nat) &&& 31)) &&& (1 : Int32)) = 1 ↔ bad p = true)) : ok (f193 101 m s) (fun r => fr FMt s r.1 ∧ ∃ (u : Nat) (x' : TS), r.2 = iz u ∧ u < 4 ∧ mOut B L x' r.1 ∧ ∀ (γ : Type) (k : Nat → Nat → PR γ), tBind x (fun q => pBind (pPl B L nm pl bad q) k) = tBind x' (fun q => k u q)) := by
  obtain ⟨hb, hpl, h25, h5, hn⟩ := hN
  cases x with
  | inl e =>
    unfold f193
    rw [ifg_pos O_101, mt_isbad h]
    simp only [Option.bind_some]
    rw [it_z0 rfl, ok_some]
    exact ⟨fr.rf _ _, 0, .inl e, iz0, by omega, h, fun γ k => rfl⟩
  | inr q =>
    have hh : MGd s B L q := h
    have hA := hh.mAt
    obtain ⟨a1, a2, ⟨b1, b2, b3, b4, b5⟩, a4, a5⟩ := hh
    have kb := mK_b (tok B L q).1 (tkW B L q)
    unfold f193 f193_46
    rw [ifg_pos O_101, mt_isgood a4]
    simp only [Option.bind_some]
    rw [it_z1 rfl, h25, mt_here hb h5 hpl hn b1 kb]
    simp only [Option.bind_some]
    rw [b1, iz2, show ((2 : Int)) = ((2 : Nat) : Int) from rfl, it_nat (by omega) (by omega)]
    by_cases g : (tok B L q).1 = 1 ∧ ¬ kwd (tkW B L q) = true
    · simp only [if_pos (mK_2.mpr g), b4 g.1]
      have fb := fnd_b nm (tkW B L q) pl
      have e1 : ∀ (γ : Type) (k : Nat → Nat → PR γ), pBind (pPl B L nm pl bad q) k = pBind (if fnd nm (tkW B L q) pl < 0 ∨ bad (fnd nm (tkW B L q) pl).toNat = true then .inl (5, (tok B L q).2.1) else .inr ((fnd nm (tkW B L q) pl).toNat, (tok B L q).2.2)) k := fun γ k => by
        unfold pPl pNm
        rw [if_pos g, pBind_r]
      have bd : (fnd nm (tkW B L q) pl < 0 ∨ bad (fnd nm (tkW B L q) pl).toNat = true) → ok ((f176 101 (5 : Int32) (s.1 101 6) s).bind fun z1 => f193_55 101 (iz (fnd nm (tkW B L q) pl)) z1.1) (fun r => fr FMt s r.1 ∧ ∃ (u : Nat) (x' : TS), r.2 = iz u ∧ u < 4 ∧ mOut B L x' r.1 ∧ ∀ (γ : Type) (k : Nat → Nat → PR γ), tBind (.inr q) (fun q => pBind (pPl B L nm pl bad q) k) = tBind x' (fun q => k u q)) := by
        intro g2
        rw [b2, mt_fails a4, iz5]
        simp only [Option.bind_some]
        have hbd : MBd (xm_up (xm_up s.1 101 4 (iz 5)) 101 5 (iz (tok B L q).2.1), s.2) (5, (tok B L q).2.1) := ⟨Nat.le_add_left 1 4, Nat.le_refl 5, by dsimp only; rw [up_ix _ _ (by omega), up_eq]; rfl, by dsimp only; rw [up_eq], hA.fr (F := fun id k => id == 101 && (k == 4 || k == 5)) (((fr.rf _ _).ui (id := 101) (k := 4) rfl).ui (id := 101) (k := 5) rfl) rfl rfl⟩
        unfold f193_55 f193_66 f193_75
        rw [mt_isbad hbd]
        simp only [Option.bind_some]
        rw [it_z0 rfl, iz0]
        have ff : fr FMt s (xm_up (xm_up s.1 101 4 (iz 5)) 101 5 (iz (tok B L q).2.1), s.2) := ((fr.rf _ _).ui (id := 101) (k := 4) rfl).ui (id := 101) (k := 5) rfl
        have ee : ∀ (u : Nat) (γ : Type) (k : Nat → Nat → PR γ), tBind (.inr q) (fun q => pBind (pPl B L nm pl bad q) k) = tBind (.inl (5, (tok B L q).2.1)) (fun q => k u q) := fun u γ k => by
          show pBind (pPl B L nm pl bad q) k = _
          rw [e1, if_pos g2]
          rfl
        by_cases g3 : 0 ≤ fnd nm (tkW B L q) pl
        · rw [it_le_t (by omega) (by omega) (by omega), ok_some]
          obtain ⟨u, hu⟩ : ∃ u : Nat, fnd nm (tkW B L q) pl = u := ⟨(fnd nm (tkW B L q) pl).toNat, by omega⟩
          rw [hu]
          exact ⟨ff, u, .inl (5, (tok B L q).2.1), rfl, by omega, hbd, ee _⟩
        · rw [it_le_f (by omega) (by omega) (by omega), ok_some]
          exact ⟨ff, 0, .inl (5, (tok B L q).2.1), rfl, by omega, hbd, ee _⟩
      rw [iz0]
      by_cases g2 : fnd nm (tkW B L q) pl < 0
      · rw [it_lt_t (by omega) (by omega) (by omega)]
        exact bd (Or.inl g2)
      · rw [it_lt_f (by omega) (by omega) (by omega)]
        obtain ⟨u, hu⟩ : ∃ u : Nat, fnd nm (tkW B L q) pl = u := ⟨(fnd nm (tkW B L q) pl).toNat, by omega⟩
        have m1 := hm u (by omega)
        rw [hu] at bd e1 ⊢
        by_cases g3 : bad u = true
        · rw [if_pos (m1.mpr g3)]
          exact bd (Or.inr (by rw [nat_toNat]; exact g3))
        · rw [if_neg (fun r => g3 (m1.mp r))]
          unfold f193_55 f193_66 f193_75
          rw [mt_isgood a4]
          simp only [Option.bind_some]
          rw [it_z1 rfl]
          refine (mt_step h).bind (fun r ⟨c1, c2⟩ => ?_)
          rw [iz0, it_le_t (by omega) (by omega) (by omega), ok_some]
          refine ⟨c1, u, .inr (tok B L q).2.2, rfl, by omega, c2, fun γ k => ?_⟩
          show pBind (pPl B L nm pl bad q) k = _
          rw [e1, if_neg (fun r => by rcases r with r | r; omega; rw [nat_toNat] at r; exact g3 r)]
          rfl
    · have g' : ¬ mK (tok B L q).1 (tkW B L q) = 2 := fun r => g (mK_2.mp r)
      simp only [if_neg g']
      refine (mt_wrong h).bind (fun r ⟨c1, c2⟩ => ?_)
      unfold f193_55 f193_66 f193_75
      rw [mt_isbad c2]
      simp only [Option.bind_some]
      rw [it_z0 rfl, iz0, it_le_f (by omega) (by omega) (by omega), ok_some]
      refine ⟨c1, 0, .inl (pBad B L q), rfl, by omega, c2, fun γ k => ?_⟩
      show pBind (pPl B L nm pl bad q) k = _
      unfold pPl pNm
      rw [if_neg g]
      rfl
/-- the round that is read: cells beside the token -/
def FMr (c id k : Nat) : Bool := (id == 101 && ((Nat.ble 4 k && Nat.ble k 10) || k == 38)) || (Nat.ble 118 id && Nat.ble id 124 && k == 10 + c)
theorem FMt_r (c id k : Nat) (h : FMt id k = true) : FMr c id k = true := by
  unfold FMt at h
  unfold FMr
  simp only [Bool.and_eq_true, Bool.or_eq_true, beq_iff_eq] at h ⊢
  exact Or.inl ⟨h.1.1, Or.inl ⟨h.1.2, h.2⟩⟩
theorem FMr_w (c : Nat) {id : Nat} (h1 : 118 ≤ id) (h2 : id ≤ 124) : FMr c id (10 + c) = true := by
  unfold FMr
  rw [Nat.ble_eq_true_of_le h1, Nat.ble_eq_true_of_le h2]
  simp
theorem mOut.uw {x : TS} {id k : Nat} {v : Int32} (h : mOut B L x s) (h1 : id ≠ 101) (h2 : id ≠ 103) : mOut B L x (xm_up s.1 id k v, s.2) := h.fr (F := fun a _ => a == id) ((fr.rf _ _).ui (beq_self_eq_true id)) (fun k _ _ => FX_1 h1 k) (FX_1 h2)
theorem MNm.uw {id k : Nat} {v : Int32} (h : MNm s b pl nm) (h1 : id ≠ 101) (h2 : id ≠ 105) (h3 : id ≠ 112) : MNm (xm_up s.1 id k v, s.2) b pl nm := h.fr (F := fun a _ => a == id) ((fr.rf _ _).ui (beq_self_eq_true id)) (FX_1 h1 25) (FX_1 h2 b) (fun p _ => FX_1 h3 (4 * b + p))
theorem MNm_ft {s' : xS} (h : MNm s b pl nm) (hf : fr FMt s s') : MNm s' b pl nm := h.fr hf rfl rfl (fun _ _ => rfl)
theorem FMt_n {id : Nat} (h : id ≠ 101) (k : Nat) : FMt id k = false := by
  unfold FMt
  rw [show (id == 101) = false from beq_false_of_ne h]
  rfl
theorem ms_tail {x : TS} {c u l : Nat} (hc : c < 10) (h : mOut B L x s) (hN : MNm s b pl nm) (hu : u < 4) (hl : l < 4) (h118 : s.1 118 (10 + c) = iz u) (h119 : s.1 119 (10 + c) = iz l) (h38 : s.1 101 38 = iz c) : ok (f194_165 101 (iz (10 + c : Int)) s) (fun r => fr (FMr c) s r.1 ∧ (∀ id, id ≤ 122 → 118 ≤ id → r.1.1 id (10 + c) = s.1 id (10 + c)) ∧ r.1.1 101 38 = iz ((c + 1 : Nat) : Int) ∧ ∃ (sc : Nat) (d : Int) (x' : TS), r.1.1 123 (10 + c) = iz sc ∧ r.1.1 124 (10 + c) = iz d ∧ mOut B L x' r.1 ∧ ∀ (γ : Type) (k : Nat × Int → Nat → PR γ), tBind x (fun q => pBind (pR3 B L nm pl u l q) k) = tBind x' (fun q => k (sc, d) q)) := by
  have en : ((10 : Int) + c).toNat = 10 + c := by omega
  unfold f194_165
  obtain ⟨v1, e1, e2⟩ := ms_word h (w := 126870957944933) (by decide)
  rw [e1]
  simp only [Option.bind_some]
  refine e2.bind (fun r1 ⟨f1, x1, o1, E1⟩ => ?_)
  have i118 : r1.1.1 118 (10 + c) = iz u := by rw [f1.i _ _ rfl]; exact h118
  have i119 : r1.1.1 119 (10 + c) = iz l := by rw [f1.i _ _ rfl]; exact h119
  simp (disch := omega) only [R_101_35, R_101_30, R_101_31, A_118, A_119, Option.bind_some, iz_in, iz_n, nat_toNat, en, if_true, i118, i119]
  refine (ms_plate o1 (MNm_ft hN f1) (msk2 u hu l hl)).bind (fun r2 ⟨f2, sc, x2, w2, w3, o2, E2⟩ => ?_)
  rw [w2]
  simp (disch := omega) only [W_123, Option.bind_some, iz_in, iz_n, nat_toNat, en, if_true]
  have o2' : mOut B L x2 (xm_up r2.1.1 123 (10 + c) (iz sc), r2.1.2) := o2.uw (by omega) (by omega)
  obtain ⟨v3, e3, e4⟩ := ms_word o2' (w := 1684366704) (by decide)
  rw [e3]
  simp only [Option.bind_some]
  refine e4.bind (fun r3 ⟨f3, x3, o3, E3⟩ => ?_)
  simp only [R_101_36, Option.bind_some]
  have n4 := ms_num (lo := 1) (hi := 9) o3 (by omega) (by omega) (by omega)
  rw [iz1, iz9]
  refine n4.bind (fun r4 ⟨f4, d, x4, w4, w5, w6, o4, E4⟩ => ?_)
  rw [w4]
  simp (disch := omega) only [W_124, Option.bind_some, iz_in, iz_n, nat_toNat, en, if_true]
  have o4' : mOut B L x4 (xm_up r4.1.1 124 (10 + c) (iz d), r4.1.2) := o4.uw (by omega) (by omega)
  obtain ⟨v5, e5, e6⟩ := ms_stop o4'
  rw [e5]
  simp only [Option.bind_some]
  refine e6.bind (fun r5 ⟨f5, x5, o5, E5⟩ => ?_)
  have k38 : r5.1.1 101 38 = iz c := by
    rw [f5.i _ _ rfl]
    dsimp only
    rw [up_id _ _ (by omega), f4.i _ _ rfl, f3.i _ _ rfl]
    dsimp only
    rw [up_id _ _ (by omega), f2.i _ _ rfl, f1.i _ _ rfl]
    exact h38
  simp only [pI, Option.bind_some, k38, iz_add, ok_some]
  have g2 : fr (FMr c) s (xm_up r2.1.1 123 (10 + c) (iz sc), r2.1.2) := ((f1.tr f2).mono (FMt_r c)).ui (FMr_w c (by omega) (by omega))
  have g4 : fr (FMr c) s (xm_up r4.1.1 124 (10 + c) (iz d), r4.1.2) := (g2.tr ((f3.tr f4).mono (FMt_r c))).ui (FMr_w c (by omega) (by omega))
  refine ⟨(g4.tr (f5.mono (FMt_r c))).ui rfl, fun id i1 i2 => ?_, up_eq _ _ _ _, sc, d, x5, ?_, ?_, ?_, fun γ k => ?_⟩
  · rw [up_id _ _ (by omega), f5.i _ _ (FMt_n (by omega) _)]
    dsimp only
    rw [up_id _ _ (by omega), f4.i _ _ (FMt_n (by omega) _), f3.i _ _ (FMt_n (by omega) _)]
    dsimp only
    rw [up_id _ _ (by omega), f2.i _ _ (FMt_n (by omega) _), f1.i _ _ (FMt_n (by omega) _)]
  · rw [up_id _ _ (by omega), f5.i _ _ rfl]
    dsimp only
    rw [up_id _ _ (by omega), f4.i _ _ rfl, f3.i _ _ rfl]
    dsimp only
    rw [up_eq]
  · rw [up_id _ _ (by omega), f5.i _ _ rfl]
    dsimp only
    rw [up_eq]
  · exact o5.fr (F := fun a k => a == 101 && k == 38) ((fr.rf _ _).ui rfl) (fun k k1 k2 => by rw [show (k == 38) = false from beq_false_of_ne (by omega)]; rfl) (fun k => rfl)
  · unfold pR3
    simp only [pBind_assoc, pBind_r]
    rw [E1, E2, E3, E4, E5]
theorem ms_round {c : Nat} (hc : c ≤ 10) (h : MGd s B L q) (hN : MNm s b pl nm) (h38 : s.1 101 38 = iz c) : ok (f194 101 s) (fun r => fr (FMr c) s r.1 ∧ ∃ (R : Rn) (x' : TS), mOut B L x' r.1 ∧ ((∃ q', x' = .inr q') → r.1.1 101 38 = iz ((c + 1 : Nat) : Int) ∧ MR r.1 (10 + c) R) ∧ (c = 10 → x' = .inl (pBad B L q)) ∧ (c < 10 → ∀ (γ : Type) (k : Rn → Nat → PR γ), pBind (pRd B L nm pl q) k = tBind x' (fun q => k R q))) := by
  have bad : ((tok B L q).1 = 1 ∧ tkW B L q = 7102841 → c = 10) → ok (f194_19 101 s) (fun r => fr (FMr c) s r.1 ∧ ∃ (R : Rn) (x' : TS), mOut B L x' r.1 ∧ ((∃ q', x' = .inr q') → r.1.1 101 38 = iz ((c + 1 : Nat) : Int) ∧ MR r.1 (10 + c) R) ∧ (c = 10 → x' = .inl (pBad B L q)) ∧ (c < 10 → ∀ (γ : Type) (k : Rn → Nat → PR γ), pBind (pRd B L nm pl q) k = tBind x' (fun q => k R q))) := by
    intro g
    unfold f194_19 f194_23
    refine (mt_wrong h).bind (fun r ⟨c1, c2⟩ => ?_)
    rw [mt_isbad c2]
    simp only [Option.bind_some]
    rw [it_z0 rfl, ok_some]
    refine ⟨c1.mono (FMt_r c), (0, 0, 0, 0, 0, 0, 0), .inl (pBad B L q), c2, (fun ⟨q', e⟩ => by cases e), fun _ => rfl, fun h10 γ k => ?_⟩
    unfold pRd pR1 pWd
    rw [if_neg (fun r => by have := g r; omega)]
    rfl
  unfold f194
  rw [ifg_pos O_101, mt_isw h (by decide)]
  simp only [Option.bind_some]
  by_cases g : (tok B L q).1 = 1 ∧ tkW B L q = 7102841
  · simp only [if_pos g]
    rw [it_z1 rfl, h38, iz10]
    by_cases g10 : c = 10
    · rw [it_eq_t (by omega)]
      exact bad (fun _ => g10)
    · rw [it_eq_f (by omega) (by omega) (by omega) (by omega) (by omega)]
      have hc10 : c < 10 := by omega
      have en : ((10 : Int) + c).toNat = 10 + c := by omega
      unfold f194_23
      rw [mt_isgood h.2.2.2.1]
      simp only [Option.bind_some]
      rw [it_z1 rfl]
      refine (mt_step h).bind (fun r0 ⟨f0, o0⟩ => ?_)
      have E0 : ∀ (γ : Type) (k : Unit → Nat → PR γ), pBind (pWd B L 7102841 q) k = tBind (.inr (tok B L q).2.2) (fun q => k () q) := fun γ k => by
        unfold pWd
        rw [if_pos g]
        rfl
      simp only [R_101_30, Option.bind_some]
      refine (ms_plate (x := .inr (tok B L q).2.2) o0 (MNm_ft hN f0) msk0).bind (fun r1 ⟨f1, u, x1, w1, u4, o1, E1⟩ => ?_)
      rw [w1, h38, iz10, iz_add]
      simp (disch := omega) only [W_118, Option.bind_some, iz_in, iz_n, nat_toNat, en, if_true]
      have hN1 : MNm (xm_up r1.1.1 118 (10 + c) (iz u), r1.1.2) b pl nm := (MNm_ft (MNm_ft hN f0) f1).uw (by omega) (by omega) (by omega)
      have o1' : mOut B L x1 (xm_up r1.1.1 118 (10 + c) (iz u), r1.1.2) := o1.uw (by omega) (by omega)
      obtain ⟨v2, e2, e3⟩ := ms_word o1' (w := 28526) (by decide)
      rw [e2]
      simp only [Option.bind_some]
      refine e3.bind (fun r2 ⟨f2, x2, o2, E2⟩ => ?_)
      have i118 : r2.1.1 118 (10 + c) = iz u := by rw [f2.i _ _ rfl]; exact up_eqP _ _ _ _ _
      simp (disch := omega) only [R_101_31, R_101_30, A_118, Option.bind_some, iz_in, iz_n, nat_toNat, en, if_true, i118]
      refine (ms_plate o2 (MNm_ft hN1 f2) (msk1 u u4)).bind (fun r3 ⟨f3, l, x3, w3, l4, o3, E3⟩ => ?_)
      rw [w3]
      simp (disch := omega) only [W_119, Option.bind_some, iz_in, iz_n, nat_toNat, en, if_true]
      have hN3 : MNm (xm_up r3.1.1 119 (10 + c) (iz l), r3.1.2) b pl nm := (MNm_ft (MNm_ft hN1 f2) f3).uw (by omega) (by omega) (by omega)
      have o3' : mOut B L x3 (xm_up r3.1.1 119 (10 + c) (iz l), r3.1.2) := o3.uw (by omega) (by omega)
      obtain ⟨v4, e4, e5⟩ := ms_word o3' (w := 1953854062) (by decide)
      rw [e4]
      simp only [Option.bind_some]
      refine e5.bind (fun r4 ⟨f4, x4, o4, E4⟩ => ?_)
      simp only [R_101_32, Option.bind_some]
      have n5 := ms_num (lo := 0) (hi := 3) o4 (by omega) (by omega) (by omega)
      rw [← iz0, ← iz3] at n5
      refine n5.bind (fun r5 ⟨f5, t, x5, w5, t0, t3, o5, E5⟩ => ?_)
      obtain ⟨tn, rfl⟩ : ∃ tn : Nat, t = tn := ⟨t.toNat, by omega⟩
      rw [w5]
      simp (disch := omega) only [R_101_33, R_101_34, W_120, W_121, W_122, Option.bind_some, iz_in, iz_n, nat_toNat, en, if_true]
      have hN6 : MNm (xm_up (xm_up (xm_up r5.1.1 120 (10 + c) (iz tn)) 121 (10 + c) 0) 122 (10 + c) 0, r5.1.2) b pl nm := ((((MNm_ft (MNm_ft hN3 f4) f5).uw (id := 120) (k := 10 + c) (v := iz tn) (by omega) (by omega) (by omega)).uw (id := 121) (k := 10 + c) (v := 0) (by omega) (by omega) (by omega)).uw (id := 122) (by omega) (by omega) (by omega))
      have o6 : mOut B L x5 (xm_up (xm_up (xm_up r5.1.1 120 (10 + c) (iz tn)) 121 (10 + c) 0) 122 (10 + c) 0, r5.1.2) := ((o5.uw (id := 120) (k := 10 + c) (v := iz tn) (by omega) (by omega)).uw (id := 121) (k := 10 + c) (v := 0) (by omega) (by omega)).uw (id := 122) (by omega) (by omega)
      have g1 : fr (FMr c) s (xm_up r1.1.1 118 (10 + c) (iz u), r1.1.2) := ((f0.tr f1).mono (FMt_r c)).ui (FMr_w c (by omega) (by omega))
      have g3 : fr (FMr c) s (xm_up r3.1.1 119 (10 + c) (iz l), r3.1.2) := (g1.tr ((f2.tr f3).mono (FMt_r c))).ui (FMr_w c (by omega) (by omega))
      have g6 : fr (FMr c) s (xm_up (xm_up (xm_up r5.1.1 120 (10 + c) (iz tn)) 121 (10 + c) 0) 122 (10 + c) 0, r5.1.2) := (((g3.tr ((f4.tr f5).mono (FMt_r c))).ui (id := 120) (v := iz tn) (FMr_w c (by omega) (by omega))).ui (id := 121) (v := 0) (FMr_w c (by omega) (by omega))).ui (id := 122) (FMr_w c (by omega) (by omega))
      have j118 : (xm_up (xm_up (xm_up r5.1.1 120 (10 + c) (iz tn)) 121 (10 + c) 0) 122 (10 + c) 0) 118 (10 + c) = iz u := by
        rw [up_id _ _ (by omega), up_id _ _ (by omega), up_id _ _ (by omega), f5.i _ _ rfl, f4.i _ _ rfl]
        dsimp only
        rw [up_id _ _ (by omega), f3.i _ _ rfl]
        exact i118
      have j119 : (xm_up (xm_up (xm_up r5.1.1 120 (10 + c) (iz tn)) 121 (10 + c) 0) 122 (10 + c) 0) 119 (10 + c) = iz l := by
        rw [up_id _ _ (by omega), up_id _ _ (by omega), up_id _ _ (by omega), f5.i _ _ rfl, f4.i _ _ rfl]
        dsimp only
        rw [up_eq]
      have j120 : (xm_up (xm_up (xm_up r5.1.1 120 (10 + c) (iz tn)) 121 (10 + c) 0) 122 (10 + c) 0) 120 (10 + c) = iz tn := by
        rw [up_id _ _ (by omega), up_id _ _ (by omega), up_eq]
      have j121 : (xm_up (xm_up (xm_up r5.1.1 120 (10 + c) (iz tn)) 121 (10 + c) 0) 122 (10 + c) 0) 121 (10 + c) = iz 0 := by
        rw [up_id _ _ (by omega), up_eq]
        exact iz0
      have j122 : (xm_up (xm_up (xm_up r5.1.1 120 (10 + c) (iz tn)) 121 (10 + c) 0) 122 (10 + c) 0) 122 (10 + c) = iz 0 := (up_eq _ _ _ _).trans iz0
      have j38 : (xm_up (xm_up (xm_up r5.1.1 120 (10 + c) (iz tn)) 121 (10 + c) 0) 122 (10 + c) 0) 101 38 = iz c := by
        rw [up_id _ _ (by omega), up_id _ _ (by omega), up_id _ _ (by omega), f5.i _ _ rfl, f4.i _ _ rfl]
        dsimp only
        rw [up_id _ _ (by omega), f3.i _ _ rfl, f2.i _ _ rfl]
        dsimp only
        rw [up_id _ _ (by omega), f1.i _ _ rfl, f0.i _ _ rfl]
        exact h38
      generalize hW : ((xm_up (xm_up (xm_up r5.1.1 120 (10 + c) (iz tn)) 121 (10 + c) 0) 122 (10 + c) 0, r5.1.2) : xS) = W at hN6 o6 g6 ⊢
      rw [show xm_up (xm_up (xm_up r5.1.1 120 (10 + c) (iz tn)) 121 (10 + c) 0) 122 (10 + c) 0 = W.1 by rw [← hW]] at j118 j119 j120 j121 j122 j38
      -- the end, from any state behind the place
      have fin : ∀ (w : xS) (x6 : TS) (a d : Int), fr (FMr c) s w → mOut B L x6 w → MNm w b pl nm → w.1 118 (10 + c) = iz u → w.1 119 (10 + c) = iz l → w.1 120 (10 + c) = iz tn → w.1 121 (10 + c) = iz a → w.1 122 (10 + c) = iz d → w.1 101 38 = iz c → (∀ (γ : Type) (k : Nat × Int × Int → Nat → PR γ), tBind x5 (fun q => if (tok B L q).1 = 1 ∧ tkW B L q = 25209 then pBind (pNu B L true (-1) 1 (tok B L q).2.2) (fun a q => pBind (pNu B L true (-1) 1 q) (fun c q => k (tn, a, c) q)) else k (tn, 0, 0) q) = tBind x6 (fun q => k (tn, a, d) q)) → ok (f194_165 101 (iz (10 + c : Int)) w) (fun r => fr (FMr c) s r.1 ∧ ∃ (R : Rn) (x' : TS), mOut B L x' r.1 ∧ ((∃ q', x' = .inr q') → r.1.1 101 38 = iz ((c + 1 : Nat) : Int) ∧ MR r.1 (10 + c) R) ∧ (c = 10 → x' = .inl (pBad B L q)) ∧ (c < 10 → ∀ (γ : Type) (k : Rn → Nat → PR γ), pBind (pRd B L nm pl q) k = tBind x' (fun q => k R q))) := by
        intro w x6 a d hf ho hNw k0 k1 k2 k3 k4 k5 EB
        refine (ms_tail hc10 ho hNw u4 l4 k0 k1 k5).mono (fun r ⟨f7, p7, q7, sc, dd, x7, s1, s2, o7, E7⟩ => ?_)
        refine ⟨hf.tr f7, (u, l, tn, a, d, sc, dd), x7, o7, fun _ => ⟨q7, ?_⟩, fun r => absurd r g10, fun _ γ k => ?_⟩
        · exact ⟨(p7 118 (by omega) (by omega)).trans k0, (p7 119 (by omega) (by omega)).trans k1, (p7 120 (by omega) (by omega)).trans k2, (p7 121 (by omega) (by omega)).trans k3, (p7 122 (by omega) (by omega)).trans k4, s1, s2⟩
        · have EB' := EB γ (fun t q => pBind (pR3 B L nm pl u l q) (fun sd q => k (u, l, t.1, t.2.1, t.2.2, sd.1, sd.2) q))
          dsimp only at EB'
          have E7' := E7 γ (fun sd q => k (u, l, tn, a, d, sd.1, sd.2) q)
          dsimp only at E7'
          rw [E7'] at EB'
          rw [← EB']
          unfold pRd pR1 pR2
          simp only [pBind_assoc, pBind_r]
          rw [E0, E1, E2, E3, E4, E5]
          congr 1
          funext q
          rw [nat_toNat]
          split
          · simp only [pBind_assoc, pBind_r]
          · rfl
      cases x5 with
      | inl e =>
        rw [mt_isbad o6]
        simp only [Option.bind_some]
        rw [it_z0 rfl]
        exact fin W (.inl e) 0 0 g6 o6 hN6 j118 j119 j120 j121 j122 j38 (fun γ k => rfl)
      | inr q5 =>
        have o6' : MGd W B L q5 := o6
        rw [mt_isgood o6'.2.2.2.1]
        simp only [Option.bind_some]
        rw [it_z1 rfl, mt_isw o6' (by decide)]
        simp only [Option.bind_some]
        by_cases gB : (tok B L q5).1 = 1 ∧ tkW B L q5 = 25209
        · simp only [if_pos gB]
          rw [it_z1 rfl]
          refine (mt_step o6').bind (fun r6 ⟨f6, o7⟩ => ?_)
          have n7 := ms_sgd (x := .inr (tok B L q5).2.2) (lo := -1) (hi := 1) o7 (by omega) (by omega) (by omega)
          rw [izm1, iz1]
          refine n7.bind (fun r7 ⟨f7, a, x7, w7, a1, a2, o8, E7⟩ => ?_)
          rw [w7]
          have o8' : mOut B L x7 (xm_up r7.1.1 121 (10 + c) (iz a), r7.1.2) := o8.uw (by omega) (by omega)
          have n8 := ms_sgd (lo := -1) (hi := 1) o8' (by omega) (by omega) (by omega)
          refine n8.bind (fun r8 ⟨f8, d, x8, w8, d1, d2, o9, E8⟩ => ?_)
          rw [w8]
          have old : ∀ id, 118 ≤ id → id ≤ 120 → (xm_up r8.1.1 122 (10 + c) (iz d)) id (10 + c) = W.1 id (10 + c) := fun id i1 i2 => by
            rw [up_id _ _ (by omega), f8.i _ _ (FMt_n (by omega) _)]
            dsimp only
            rw [up_id _ _ (by omega), f7.i _ _ (FMt_n (by omega) _), f6.i _ _ (FMt_n (by omega) _)]
          refine fin _ x8 a d ?_ (o9.uw (by omega) (by omega)) ((MNm_ft (((MNm_ft (MNm_ft hN6 f6) f7).uw (id := 121) (k := 10 + c) (v := iz a) (by omega) (by omega) (by omega))) f8).uw (by omega) (by omega) (by omega)) ((old 118 (by omega) (by omega)).trans j118) ((old 119 (by omega) (by omega)).trans j119) ((old 120 (by omega) (by omega)).trans j120) ?_ (up_eqP _ _ _ _ _) ?_ (fun γ k => ?_)
          · exact (((g6.tr ((f6.tr f7).mono (FMt_r c))).ui (id := 121) (v := iz a) (FMr_w c (by omega) (by omega))).tr (f8.mono (FMt_r c))).ui (FMr_w c (by omega) (by omega))
          · dsimp only
            rw [up_id _ _ (by omega), f8.i _ _ rfl]
            dsimp only
            rw [up_eq]
          · dsimp only
            rw [up_id _ _ (by omega), f8.i _ _ rfl]
            dsimp only
            rw [up_id _ _ (by omega), f7.i _ _ rfl, f6.i _ _ rfl]
            exact j38
          · have E7' := E7 γ (fun a q => pBind (pNu B L true (-1) 1 q) (fun c q => k (tn, a, c) q))
            have E8' := E8 γ (fun d q => k (tn, a, d) q)
            show (if (tok B L q5).1 = 1 ∧ tkW B L q5 = 25209 then _ else _) = _
            rw [if_pos gB]
            exact E7'.trans E8'
        · simp only [if_neg gB]
          rw [it_z0 rfl]
          refine fin W (.inr q5) 0 0 g6 o6 hN6 j118 j119 j120 j121 j122 j38 (fun γ k => ?_)
          show (if (tok B L q5).1 = 1 ∧ tkW B L q5 = 25209 then _ else _) = _
          rw [if_neg gB]
          rfl
  · simp only [if_neg g]
    rw [it_z0 rfl]
    exact bad (fun r => absurd r g)
end MPl
