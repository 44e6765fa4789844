/-! an order on both sides -/
theorem nby_all : ∀ k, k < 256 → vp_nar .byte (iz ((k : Nat) - 128 : Int)) = iz ((k : Nat) - 128 : Int) := by decide +kernel
theorem nby {z : Int} (h : byR z) : vp_nar .byte (iz z) = iz z := by
  obtain ⟨h1, h2⟩ := h
  have := nby_all (z + 128).toNat (by omega)
  rw [show (((z + 128).toNat : Nat) : Int) - 128 = z by omega] at this
  exact this
section TX
variable {s : xS} {B : Nat → Int} {L : Nat}
def FMx (id k : Nat) : Bool := (id == 101 && (Nat.ble 2 k && Nat.ble k 10)) || id == 103
theorem mo_take (hL : L ≤ 1200) (h2 : s.1 101 2 = iz L) (h : ∀ k, k < L → s.1 102 k = iz (B k) ∧ byR (B k)) : ok (f186 101 s) (fun r => fr FMx s r.1 ∧ MTx r.1 B L ∧ r.1.1 101 2 = iz 0 ∧ r.1.1 101 4 = iz 0 ∧ r.1.1 101 5 = iz (-1) ∧ r.1.1 101 7 = iz 0) := by
  unfold f186
  rw [ifg_pos O_101]
  simp (disch := omega) only [pI, Option.bind_some, up_ix, h2, iz0, izm1]
  have f0 : fr FMx s (xm_up (xm_up (xm_up s.1 101 4 (iz 0)) 101 5 (iz (-1))) 101 3 (iz L), s.2) := (((fr.rf _ _).ui rfl).ui rfl).ui rfl
  refine forz (fun m w => fr FMx s w ∧ w.1 101 3 = iz L ∧ w.1 101 4 = iz 0 ∧ w.1 101 5 = iz (-1) ∧ ∀ k, k < m → w.1 103 k = iz (B k)) 0 L (by omega) (by omega) ⟨f0, by dsimp only; rw [up_eq], by dsimp only; rw [up_ix _ _ (by omega), up_ix _ _ (by omega), up_eq], by dsimp only; rw [up_ix _ _ (by omega), up_eq], fun k hk => by omega⟩ (fun m w _ hm ⟨a1, a2, a3, a4, a5⟩ => ?_) (fun w ⟨a1, a2, a3, a4, a5⟩ => ?_)
  · dsimp only
    unfold f186_20
    rw [a2, it_le_f (by omega) (by omega) (by omega)]
    have e : w.1 102 m = iz (B m) := by rw [a1.i _ _ rfl]; exact (h m hm).1
    simp (disch := omega) only [R_101_0, R_101_1, A_102, W_103, Option.bind_some, iz_in, iz_n, nat_toNat, if_true, e, nby (h m hm).2]
    rw [ok_some, lp_l, iz1, iz_add]
    refine ⟨rfl, a1.ui rfl, ?_, ?_, ?_, fun k hk => ?_⟩
    · dsimp only
      rw [up_id _ _ (by omega)]; exact a2
    · dsimp only
      rw [up_id _ _ (by omega)]; exact a3
    · dsimp only
      rw [up_id _ _ (by omega)]; exact a4
    · dsimp only
      by_cases g : k = m
      · rw [g, up_eq]
      · rw [up_ix _ _ g]; exact a5 k (by omega)
  · dsimp only
    unfold f186_20
    rw [a2, it_le_t (by omega) (by omega) (by omega)]
    simp only [pI, Option.bind_some, ok_map, ok_some, lp_r, iz0]
    refine ⟨(a1.ui rfl).ui rfl, ⟨hL, ?_, fun k hk => ⟨?_, (h k hk).2⟩⟩, ?_, ?_, ?_, up_eq _ _ _ _⟩
    · dsimp only
      rw [up_ix _ _ (by omega), up_ix _ _ (by omega)]; exact a2
    · dsimp only
      rw [up_id _ _ (by omega), up_id _ _ (by omega)]; exact a5 k hk
    · rw [up_ix _ _ (by omega), up_eq]
    · rw [up_ix _ _ (by omega), up_ix _ _ (by omega)]; exact a3
    · rw [up_ix _ _ (by omega), up_ix _ _ (by omega)]; exact a4
theorem cl_open (h : CTx s B L) : ok (f78 1 s) (fun r => fr FTt s r.1 ∧ CSt r.1 B L 0) := by
  unfold f78
  rw [ifg_pos O_1]
  simp only [pI, Option.bind_some, iz0, izm1]
  have f0 : fr FTt s (xm_up (xm_up (xm_up s.1 1 2 (iz 0)) 1 3 (iz (-1))) 1 4 (iz 0), s.2) := (((fr.rf _ _).ui rfl).ui rfl).ui rfl
  have hw := h.fr f0 rfl (fun _ => rfl)
  refine (cl_step hw (Nat.zero_le L) (up_eqP _ _ _ _ _)).bind (fun r ⟨c1, c2⟩ => ?_)
  rw [ok_some]
  refine ⟨f0.tr (c1.mono Ftk_t), hw.fr c1 rfl (fun _ => rfl), Nat.zero_le L, c2, ?_, ?_⟩
  · rw [c1.i _ _ rfl]
    dsimp only
    rw [up_ix _ _ (by omega), up_ix _ _ (by omega), up_eq]
  · rw [c1.i _ _ rfl]
    dsimp only
    rw [up_ix _ _ (by omega), up_eq]
end TX
def FCu (id k : Nat) : Bool := FCq id k || (id == 1 && k == 1)
def FCo (id k : Nat) : Bool := FCu id k || FPb id k || FH id k
section CO2
variable {s : xS} {B : Nat → Int} {L pl : Nat} {nm : Nat → Int64}
def R00 : Nat → Rn := fun _ => (0, 0, 0, 0, 0, 0, 0)
def cOrd (s : xS) (p : PR (Nat × (Nat → Rn))) (r : xS × Int32) : Prop := r.1.1 1 1 = iz 0 ∧ match p with
  | .inl e => fr FCu s r.1 ∧ r.2 = iz (-1) ∧ CFa r.1 e
  | .inr a => fr FCo s r.1 ∧ r.2 = iz (a.1.1 : Nat) ∧ a.1.1 ≤ 10 ∧ r.1.1 1 2 = iz 0 ∧ r.1.1 1 3 = iz (-1) ∧ r.1.1 9 1 = iz (a.1.1 : Nat) ∧ (∀ i, i < a.1.1 → CR r.1 (11 + i) (a.1.2 i)) ∧ chg r.1
theorem FCq_u (id k : Nat) (h : FCq id k = true) : FCu id k = true := by unfold FCu; rw [h]; rfl
theorem FCu_o (id k : Nat) (h : FCu id k = true) : FCo id k = true := by unfold FCo; rw [h]; rfl
theorem FPb_o (id k : Nat) (h : FPb id k = true) : FCo id k = true := by unfold FCo; rw [h, Bool.or_true]; rfl
theorem FH_o (id k : Nat) (h : FH id k = true) : FCo id k = true := by unfold FCo; rw [h, Bool.or_true]
theorem cl_order (h : CTx s B L) (hL : L ≤ 500) (hN : CNm s pl nm) : ok (f127 0 s) (cOrd s (pOr B L nm pl 10 0 R00 0)) := by
  unfold f127
  rw [ifg_pos O_0]
  simp only [R_0_0, R_0_1, R_0_3, R_0_4, Option.bind_some]
  rw [h.2.1, iz500, it_le_t (by omega) (by omega) (by omega)]
  refine (cl_open h).bind (fun r1 ⟨f1, c1⟩ => ?_)
  have hN1 := hN.fr f1 rfl (fun _ => rfl)
  unfold f42
  rw [ifg_pos O_21, ifg_pos O_1, ifg_pos O_3]
  simp only [pI, Option.bind_some]
  have g1 : fr FCq r1.1 (xm_up r1.1.1 21 1 0, r1.1.2) := (fr.rf _ _).ui rfl
  refine (ct_plan hN1 10 0 R00 0 _ (by omega) g1 (c1.ux (by omega) (by omega)) ((up_eqP _ _ _ _ _).trans iz0) (fun i hi => by omega)).bind (fun r2 ⟨f2, o2⟩ => ?_)
  have g2 : fr FCu s (xm_up r2.1.1 1 1 0, r2.1.2) := (((f1.mono FTt_q).tr f2).mono FCq_u).ui rfl
  cases hp : pOr B L nm pl 10 0 R00 0 with
  | inl e =>
    rw [hp] at o2
    rw [it_z0 o2.1, ok_some, izm1]
    exact ⟨(up_eqP _ _ _ _ _).trans iz0, g2, rfl, by dsimp only; rw [up_ix _ _ (by omega)]; exact o2.2.1, by dsimp only; rw [up_ix _ _ (by omega)]; exact o2.2.2⟩
  | inr a =>
    rw [hp] at o2
    obtain ⟨p1, p2, p3, p4, p5⟩ := o2
    rw [it_z1 p1]
    have k1 : fr (fun id _ => id == 1) r2.1 (xm_up r2.1.1 1 1 0, r2.1.2) := (fr.rf _ _).ui rfl
    refine (ct_become (s := (xm_up r2.1.1 1 1 0, r2.1.2)) (c := a.1.1) (Rs := a.1.2) p4 (by dsimp only; rw [up_id _ _ (by omega)]; exact p3) (fun i hi => (p5 i hi).fr k1 (fun k => beq_false_of_ne (by omega)))).bind (fun r3 ⟨f3, q1, q2⟩ => ?_)
    refine (cl_changed r3.1).bind (fun r4 ⟨f4, q3⟩ => ?_)
    rw [ok_some]
    refine ⟨?_, ((g2.mono FCu_o).tr (f3.mono FPb_o)).tr (f4.mono FH_o), ?_, p4, ?_, ?_, ?_, fun i hi => (q2 i hi).fr f4 (fun k => ?_), q3⟩
    · rw [f4.i _ _ rfl, f3.i _ _ rfl]; first | exact (up_eqP _ _ _ _ _).trans iz0 | exact (up_eq _ _ _ _).trans iz0
    · rw [f4.i _ _ rfl]; exact q1
    · rw [f4.i _ _ rfl, f3.i _ _ rfl]; dsimp only; rw [up_ix _ _ (by omega)]; exact p2.2.2.2.1
    · rw [f4.i _ _ rfl, f3.i _ _ rfl]; dsimp only; rw [up_ix _ _ (by omega)]; exact p2.2.2.2.2
    · rw [f4.i _ _ rfl]; exact q1
    · unfold FH
      rw [show (11 + i == 51) = false from beq_false_of_ne (by omega), show (11 + i == 72) = false from beq_false_of_ne (by omega)]
      rfl
end CO2
/-! the model's order -/
def FMs (id k : Nat) : Bool := (id == 101 && ((Nat.ble 3 k && Nat.ble k 10) || k == 38)) || id == 103 || (Nat.ble 118 id && Nat.ble id 124 && Nat.ble 10 k)
def FMz (id k : Nat) : Bool := FMs id k || (id == 101 && k == 2)
def FMo (id k : Nat) : Bool := FMs id k || (id == 101 && k == 37) || (Nat.ble 118 id && Nat.ble id 124)
theorem FMs_o (id k : Nat) (h : FMs id k = true) : FMo id k = true := by unfold FMo; rw [h]; rfl
theorem FMr_s (c id k : Nat) (h : FMr c id k = true) : FMs id k = true := by
  unfold FMr at h
  unfold FMs
  simp only [Bool.and_eq_true, Bool.or_eq_true, beq_iff_eq, Nat.ble_eq] at h ⊢
  omega
def FMq (id k : Nat) : Bool := FMo id k || (id == 101 && k == 2)
theorem FMs_z (id k : Nat) (h : FMs id k = true) : FMz id k = true := by unfold FMz; rw [h]; rfl
theorem FMo_q (id k : Nat) (h : FMo id k = true) : FMq id k = true := by unfold FMq; rw [h]; rfl
theorem FMz_q (id k : Nat) (h : FMz id k = true) : FMq id k = true := by
  unfold FMz at h
  unfold FMq
  rw [Bool.or_eq_true] at h
  rcases h with h | h
  · rw [FMs_o id k h]; rfl
  · rw [h, Bool.or_true]
theorem FMx_z (id k : Nat) (h : FMx id k = true) : FMz id k = true := by
  unfold FMx at h
  unfold FMz FMs
  simp only [Bool.and_eq_true, Bool.or_eq_true, beq_iff_eq, Nat.ble_eq] at h ⊢
  omega
theorem FMt_s (id k : Nat) (h : FMt id k = true) : FMs id k = true := FMr_s 0 id k (FMt_r 0 id k h)
theorem FMo_w {id : Nat} (h1 : 118 ≤ id) (h2 : id ≤ 124) (k : Nat) : FMo id k = true := by
  unfold FMo
  rw [Nat.ble_eq_true_of_le h1, Nat.ble_eq_true_of_le h2]
  simp
theorem FMr_n {c i : Nat} (h : i ≠ 10 + c) {id : Nat} (h1 : id ≠ 101) : FMr c id i = false := by
  unfold FMr
  rw [show (id == 101) = false from beq_false_of_ne h1, show (i == 10 + c) = false from beq_false_of_ne h]
  simp
section MO2
variable {s : xS} {B : Nat → Int} {L b pl : Nat} {nm : Nat → Int64}
def mOrd (s : xS) (p : PR (Nat × (Nat → Rn))) (r : xS × Int32) : Prop := match p with
  | .inl e => fr FMs s r.1 ∧ r.2 = iz (-1) ∧ r.1.1 101 4 = iz e.1 ∧ r.1.1 101 5 = iz e.2
  | .inr a => fr FMo s r.1 ∧ r.2 = iz (a.1.1 : Nat) ∧ r.1.1 101 4 = iz 0 ∧ r.1.1 101 5 = iz (-1) ∧ r.1.1 101 37 = iz (a.1.1 : Nat) ∧ ∀ i, i < a.1.1 → MR r.1 i (a.1.2 i)
theorem mo_ordend {w : xS} {c q : Nat} {Rs : Nat → Rn} (hc : c ≤ 10) (hf : fr FMs s w) (h : MGd w B L q) (h38 : w.1 101 38 = iz c) (hR : ∀ i, i < c → MR w (10 + i) (Rs i)) : ok (f192_47 101 w) (mOrd s (.inr ((c, Rs), q))) := by
  unfold f192_47
  rw [mt_isgood h.2.2.2.1]
  simp only [Option.bind_some]
  rw [it_z1 rfl]
  simp only [pI, Option.bind_some, h38, iz0]
  have f0 : fr FMo s (xm_up w.1 101 37 (iz c), w.2) := (hf.mono FMs_o).ui rfl
  have k0 : fr (fun id _ => id == 101) w (xm_up w.1 101 37 (iz c), w.2) := (fr.rf _ _).ui rfl
  refine forz (fun m z => fr FMo s z ∧ z.1 101 37 = iz c ∧ z.1 101 4 = iz 0 ∧ z.1 101 5 = iz (-1) ∧ (∀ i, i < c → MR z (10 + i) (Rs i)) ∧ ∀ i, i < m → MR z i (Rs i)) 0 c (by omega) (by omega) ⟨f0, up_eqP _ _ _ _ _, by dsimp only; rw [up_ix _ _ (by omega)]; exact h.2.2.2.1, by dsimp only; rw [up_ix _ _ (by omega)]; exact h.2.2.2.2, fun i hi => (hR i hi).fr k0 rfl rfl rfl rfl rfl rfl rfl, fun i hi => by omega⟩ (fun m z _ hm ⟨a1, a2, a3, a4, a5, a6⟩ => ?_) (fun z ⟨a1, a2, a3, a4, a5, a6⟩ => ?_)
  · have en : ((10 : Int) + m).toNat = 10 + m := by omega
    obtain ⟨m0, m1, m2, m3, m4, m5, m6⟩ := a5 m hm
    dsimp only
    unfold f192_66
    rw [a2, it_le_f (by omega) (by omega) (by omega)]
    simp (disch := omega) only [R_101_30, R_101_31, R_101_32, R_101_33, R_101_34, R_101_35, R_101_36, A_118, A_119, A_120, A_121, A_122, A_123, A_124, W_118, W_119, W_120, W_121, W_122, W_123, W_124, Option.bind_some, iz10, iz_add, iz_in, iz_n, nat_toNat, en, if_true, up_id, m0, m1, m2, m3, m4, m5, m6]
    rw [ok_some, lp_l, iz1, iz_add]
    have W := fun {id : Nat} (h1 : 118 ≤ id) (h2 : id ≤ 124) => FMo_w h1 h2 m
    refine ⟨rfl, ((((((a1.ui (W (by omega) (by omega))).ui (W (by omega) (by omega))).ui (W (by omega) (by omega))).ui (W (by omega) (by omega))).ui (W (by omega) (by omega))).ui (W (by omega) (by omega))).ui (W (by omega) (by omega)), ?_, ?_, ?_, fun i hi => ?_, fun i hi => ?_⟩
    · simp (disch := omega) only [up_id]; exact a2
    · simp (disch := omega) only [up_id]; exact a3
    · simp (disch := omega) only [up_id]; exact a4
    · have := a5 i hi
      unfold MR at this ⊢
      simp (disch := omega) only [up_id, up_ix]
      exact this
    · by_cases e : i = m
      · rw [e]
        unfold MR
        simp (disch := omega) only [up_id, up_eq, true_and]
      · have := a6 i (by omega)
        unfold MR at this ⊢
        simp (disch := omega) only [up_id, up_ix]
        exact this
  · dsimp only
    unfold f192_66
    rw [a2, it_le_t (by omega) (by omega) (by omega), ok_map, ok_some, lp_r]
    exact ⟨a1, rfl, a3, a4, a2, a6⟩
theorem mo_ordbad {w : xS} {e : Nat × Nat} (hf : fr FMs s w) (h : MBd w e) : ok (f192_47 101 w) (mOrd s (.inl e)) := by
  unfold f192_47
  rw [mt_isbad h]
  simp only [Option.bind_some]
  rw [it_z0 rfl, ok_some, izm1]
  exact ⟨hf, rfl, h.2.2.1, h.2.2.2.1⟩
theorem ms_planbad {w : xS} {e : Nat × Nat} (hf : fr FMs s w) (h : MBd w e) : ok (whl (fun z : xS => f192_26 101 z) w) (mOrd s (.inl e)) := by
  refine whl_ok (fun Z hl hr => ?_)
  unfold f192_26
  rw [mt_isbad h]
  simp only [Option.bind_some]
  rw [it_z0 rfl, ok_map]
  exact (mo_ordbad hf h).mono hr
theorem FMs_names (hN : MNm s b pl nm) {w : xS} (hf : fr FMs s w) : MNm w b pl nm := hN.fr hf rfl rfl (fun _ _ => rfl)
theorem ms_plan (hN : MNm s b pl nm) : ∀ f c Rs q w, c + f = 10 → fr FMs s w → MGd w B L q → w.1 101 38 = iz (c : Nat) → (∀ i, i < c → MR w (10 + i) (Rs i)) → ok (whl (fun z : xS => f192_26 101 z) w) (mOrd s (pOr B L nm pl f c Rs q))
  | 0, c, Rs, q, w, hc, hf, h, h38, hR => by
    have kb := mK_b (tok B L q).1 (tkW B L q)
    have a6 := (tok_le (B := B) h.2.1).2.2.2.2
    by_cases g : (tok B L q).1 = 0
    · have e0 : pOr B L nm pl (0) c Rs q = .inr ((c, Rs), q) := by unfold pOr; rw [if_pos g]
      rw [e0]
      refine whl_ok (fun Z hl hr => ?_)
      unfold f192_26
      rw [mt_isgood h.2.2.2.1]
      simp only [Option.bind_some]
      rw [it_z1 rfl, h.2.2.1.1, iz0, show ((0 : Int)) = ((0 : Nat) : Int) from rfl, it_nat (by omega) (by omega), if_pos ((mK_0 a6).mpr g), ok_map]
      exact (mo_ordend (by omega) hf h h38 hR).mono hr
    · have e0 : pOr B L nm pl 0 c Rs q = .inl (pBad B L q) := by unfold pOr; rw [if_neg g]
      rw [e0]
      refine whl_ok (fun Z hl hr => ?_)
      unfold f192_26
      rw [mt_isgood h.2.2.2.1]
      simp only [Option.bind_some]
      rw [it_z1 rfl, h.2.2.1.1, iz0, show ((0 : Int)) = ((0 : Nat) : Int) from rfl, it_nat (by omega) (by omega), if_neg (fun r => g ((mK_0 a6).mp r))]
      refine (ms_round (by omega) h (FMs_names hN hf) h38).bind (fun r ⟨c1, R, x', o1, o2, o3, o4⟩ => ?_)
      rw [ok_some]
      refine hl _ ?_
      have ox := o3 (by omega)
      rw [ox] at o1
      exact ms_planbad (hf.tr (c1.mono (FMr_s c))) o1
  | f + 1, c, Rs, q, w, hc, hf, h, h38, hR => by
    have kb := mK_b (tok B L q).1 (tkW B L q)
    have a6 := (tok_le (B := B) h.2.1).2.2.2.2
    by_cases g : (tok B L q).1 = 0
    · have e0 : pOr B L nm pl (f + 1) c Rs q = .inr ((c, Rs), q) := by unfold pOr; rw [if_pos g]
      rw [e0]
      refine whl_ok (fun Z hl hr => ?_)
      unfold f192_26
      rw [mt_isgood h.2.2.2.1]
      simp only [Option.bind_some]
      rw [it_z1 rfl, h.2.2.1.1, iz0, show ((0 : Int)) = ((0 : Nat) : Int) from rfl, it_nat (by omega) (by omega), if_pos ((mK_0 a6).mpr g), ok_map]
      exact (mo_ordend (by omega) hf h h38 hR).mono hr
    · have e0 : pOr B L nm pl (f + 1) c Rs q = pBind (pRd B L nm pl q) (fun R q' => pOr B L nm pl f (c + 1) (fun i => if i = c then R else Rs i) q') := by conv => lhs; unfold pOr; rw [if_neg g]
      rw [e0]
      refine whl_ok (fun Z hl hr => ?_)
      unfold f192_26
      rw [mt_isgood h.2.2.2.1]
      simp only [Option.bind_some]
      rw [it_z1 rfl, h.2.2.1.1, iz0, show ((0 : Int)) = ((0 : Nat) : Int) from rfl, it_nat (by omega) (by omega), if_neg (fun r => g ((mK_0 a6).mp r))]
      refine (ms_round (by omega) h (FMs_names hN hf) h38).bind (fun r ⟨c1, R, x', o1, o2, o3, o4⟩ => ?_)
      rw [ok_some]
      refine hl _ ?_
      rw [o4 (by omega)]
      have hf' := hf.tr (c1.mono (FMr_s c))
      cases x' with
      | inl e => exact ms_planbad hf' o1
      | inr q' =>
        obtain ⟨o5, o6⟩ := o2 ⟨q', rfl⟩
        refine ms_plan hN f (c + 1) _ q' _ (by omega) hf' o1 o5 (fun i hi => ?_)
        by_cases e : i = c
        · rw [if_pos e, e]; exact o6
        · rw [if_neg e]
          have ne : 10 + i ≠ 10 + c := by omega
          exact (hR i (by omega)).fr c1 (FMr_n ne (by omega)) (FMr_n ne (by omega)) (FMr_n ne (by omega)) (FMr_n ne (by omega)) (FMr_n ne (by omega)) (FMr_n ne (by omega)) (FMr_n ne (by omega))
def mOrz (s : xS) (p : PR (Nat × (Nat → Rn))) (r : xS × Int32) : Prop := r.1.1 101 2 = iz 0 ∧ match p with
  | .inl e => fr FMz s r.1 ∧ r.2 = iz (-1) ∧ r.1.1 101 4 = iz e.1 ∧ r.1.1 101 5 = iz e.2
  | .inr a => fr FMq s r.1 ∧ r.2 = iz (a.1.1 : Nat) ∧ r.1.1 101 4 = iz 0 ∧ r.1.1 101 5 = iz (-1) ∧ r.1.1 101 37 = iz (a.1.1 : Nat) ∧ ∀ i, i < a.1.1 → MR r.1 i (a.1.2 i)
theorem mo_order (hL : L ≤ 500) (h2 : s.1 101 2 = iz L) (h : ∀ k, k < L → s.1 102 k = iz (B k) ∧ byR (B k)) (hN : MNm s b pl nm) : ok (f192 101 s) (mOrz s (pOr B L nm pl 10 0 R00 0)) := by
  unfold f192
  rw [ifg_pos O_101, h2, iz500, it_le_t (by omega) (by omega) (by omega)]
  refine (mo_take (by omega) h2 h).bind (fun r1 ⟨f1, t1, t2, t3, t4, t5⟩ => ?_)
  simp only [pI, Option.bind_some, iz0]
  have f2 : fr FMs r1.1 (xm_up r1.1.1 101 38 (iz 0), r1.1.2) := (fr.rf _ _).ui rfl
  have k2 : fr (fun id k => id == 101 && k == 38) r1.1 (xm_up r1.1.1 101 38 (iz 0), r1.1.2) := (fr.rf _ _).ui rfl
  refine (mo_step (t1.fr k2 rfl (fun _ => rfl)) (Nat.zero_le L) (by rw [k2.i _ _ rfl]; exact t5)).bind (fun r3 ⟨f3, t6⟩ => ?_)
  have f4 : fr FMs r1.1 r3.1 := f2.tr (f3.mono (fun id k hk => FMt_s id k (Fmk_t id k hk)))
  have g : MGd r3.1 B L 0 := ⟨(t1.fr k2 rfl (fun _ => rfl)).fr f3 rfl (fun _ => rfl), Nat.zero_le L, t6, by rw [f3.i _ _ rfl, k2.i _ _ rfl]; exact t3, by rw [f3.i _ _ rfl, k2.i _ _ rfl]; exact t4⟩
  have f5 : fr FMz s r3.1 := (f1.mono FMx_z).tr (f4.mono FMs_z)
  have z2 : r3.1.1 101 2 = iz 0 := by rw [f4.i _ _ rfl]; exact t2
  have hN3 : MNm r3.1 b pl nm := hN.fr f5 rfl rfl (fun _ _ => rfl)
  refine (ms_plan (s := r3.1) hN3 10 0 R00 0 r3.1 (by omega) (fr.rf _ _) g (by rw [f3.i _ _ rfl]; first | exact up_eqP _ _ _ _ _ | exact up_eq _ _ _ _) (fun i hi => by omega)).mono (fun r hr => ?_)
  revert hr
  unfold mOrd mOrz
  cases pOr B L nm pl 10 0 R00 0 with
  | inl e => exact fun hr => ⟨by rw [hr.1.i _ _ rfl]; exact z2, f5.tr (hr.1.mono FMs_z), hr.2⟩
  | inr a => exact fun hr => ⟨by rw [hr.1.i _ _ rfl]; exact z2, (f5.mono FMz_q).tr (hr.1.mono FMo_q), hr.2⟩
end MO2
