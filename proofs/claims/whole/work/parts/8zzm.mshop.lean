/-! a shop at the model -/
def FMf (rb id k : Nat) : Bool := FMl rb id k || (id == 101 && (k == 2 || k == 3 || k == 26)) || id == 103
def FMe (id k : Nat) : Bool := (id == 101 && (k == 25 || k == 27 || k == 28 || k == 37 || k == 71)) || ((id == 113 || id == 114) && Nat.ble k 99) || (id == 117 && Nat.ble k 3) || (id == 129 && Nat.ble k 2)
def FMh (rb id k : Nat) : Bool := FMf rb id k || FMe id k
theorem FMl_f (rb id k : Nat) (h : FMl rb id k = true) : FMf rb id k = true := by unfold FMf; rw [h]; rfl
theorem FMf_h (rb id k : Nat) (h : FMf rb id k = true) : FMh rb id k = true := by unfold FMh; rw [h]; rfl
theorem FMe_h (rb id k : Nat) (h : FMe id k = true) : FMh rb id k = true := by unfold FMh; rw [h, Bool.or_true]
theorem FMt_f (rb id k : Nat) (h : FMt id k = true) : FMf rb id k = true := FMl_f rb id k (FMt_l rb id k h)
section MSh
variable {s : xS} {B : Nat → Int} {L rb : Nat}
/-- what a new shop is at the model -/
def nwM (s : xS) (rb : Nat) (σ : Sh) : Prop := s.1 101 25 = iz rb ∧ ShM s rb σ ∧ (∀ k, Us σ.2.1 σ.1 k → s.1 113 k = iz (σ.2.2.2.2.2.2.2.2 k)) ∧ (∀ k, k < 100 → s.1 114 k = iz 0) ∧ (∀ p, p < 4 → s.1 117 p = iz 0) ∧ s.1 101 27 = iz 0 ∧ s.1 101 28 = iz 0 ∧ s.1 101 37 = iz 0 ∧ s.1 101 71 = iz 0 ∧ ∀ q, q < 3 → s.1 129 q = iz (-1)
theorem FMe_113 {id k : Nat} (h : id = 113 ∨ id = 114) (hk : k < 100) : FMe id k = true := by
  unfold FMe
  rw [Nat.ble_eq_true_of_le (show k ≤ 99 by omega)]
  rcases h with rfl | rfl <;> simp
theorem FMe_117 {k : Nat} (hk : k < 4) : FMe 117 k = true := by
  unfold FMe
  rw [Nat.ble_eq_true_of_le (show k ≤ 3 by omega)]
  simp
theorem FMe_129 {k : Nat} (hk : k < 3) : FMe 129 k = true := by
  unfold FMe
  rw [Nat.ble_eq_true_of_le (show k ≤ 2 by omega)]
  simp
theorem ShM.fr {F : Nat → Nat → Bool} {s' : xS} {σ : Sh} (h : ShM s rb σ) (hf : fr F s s') (h0 : F 101 26 = false) (h1 : ∀ id k, 104 ≤ id → id ≤ 112 → F id k = false) : ShM s' rb σ := by
  obtain ⟨m0, m1, m2, m3, m4, m5, m6, m7, m8, m9, m10⟩ := h
  have i : ∀ id k, 104 ≤ id → id ≤ 112 → s'.1 id k = s.1 id k := fun id k a b => hf.i _ _ (h1 id k a b)
  exact ⟨m0, by rw [hf.i _ _ h0]; exact m1, by rw [i _ _ (by omega) (by omega)]; exact m2, by rw [i _ _ (by omega) (by omega)]; exact m3, by rw [i _ _ (by omega) (by omega)]; exact m4, by rw [i _ _ (by omega) (by omega)]; exact m5, by rw [i _ _ (by omega) (by omega)]; exact m6, by rw [i _ _ (by omega) (by omega)]; exact m7, by rw [i _ _ (by omega) (by omega)]; exact m8, fun p hp => by rw [hf.l _ _ (h1 _ _ (by omega) (by omega))]; exact m9 p hp, fun k hk => by rw [i _ _ (by omega) (by omega)]; exact m10 k hk⟩
theorem FMe_b (id k : Nat) (h1 : 104 ≤ id) (h2 : id ≤ 112) : FMe id k = false := by
  unfold FMe
  rw [show (id == 101) = false from beq_false_of_ne (by omega), show (id == 113) = false from beq_false_of_ne (by omega), show (id == 114) = false from beq_false_of_ne (by omega), show (id == 117) = false from beq_false_of_ne (by omega), show (id == 129) = false from beq_false_of_ne (by omega)]
  rfl
theorem mo_e3 {w : xS} {σ : Sh} (hV : σ.1 ≤ 4) (hM : ShM w rb σ) (h25 : w.1 101 25 = iz rb) : ok (whl (fun z : Int32 × xS => f187_209 101 z.1 z.2) (iz ((0 : Nat) : Int), w)) (fun r => fr (fun id k => id == 129 && Nat.ble k 2) w r.1 ∧ (∀ q, q < 3 → r.1.1 129 q = iz (-1)) ∧ r.2 = iz σ.1) := by
  have hr := hM.1
  refine forz (fun m z => fr (fun id k => id == 129 && Nat.ble k 2) w z ∧ ∀ q, q < m → z.1 129 q = iz (-1)) 0 3 (by omega) (by omega) ⟨fr.rf _ _, fun q hq => by omega⟩ (fun m z _ hm ⟨a1, a2⟩ => ?_) (fun z ⟨a1, a2⟩ => ?_)
  · dsimp only
    unfold f187_209
    rw [iz3, it_le_f (by omega) (by omega) (by omega)]
    simp (disch := omega) only [R_101_52, W_129, Option.bind_some, iz_in, iz_n, nat_toNat, if_true, iz1, iz_add, izm1]
    rw [ok_some, lp_l]
    refine ⟨rfl, a1.ui (by rw [Nat.ble_eq_true_of_le (show m ≤ 2 by omega)]; rfl), fun q hq => ?_⟩
    dsimp only
    by_cases e : q = m
    · rw [e, up_eq, iz_neg]
    · rw [up_ix _ _ e]; exact a2 q (by omega)
  · dsimp only
    unfold f187_209
    rw [iz3, it_le_t (by omega) (by omega) (by omega)]
    have i25 : z.1 101 25 = iz rb := by rw [a1.i _ _ rfl]; exact h25
    have i105 : z.1 105 rb = iz σ.1 := by rw [a1.i _ _ rfl]; exact hM.2.2.1
    simp (disch := omega) only [R_101_12, A_105, Option.bind_some, iz_in, iz_n, nat_toNat, if_true, i25, i105]
    rw [ok_map, ok_some, lp_r]
    exact ⟨a1, a2, rfl⟩
theorem mo_e2 {w : xS} {σ : Sh} (hV : σ.1 ≤ 4) (hM : ShM w rb σ) (h25 : w.1 101 25 = iz rb) (h113 : ∀ k, Us σ.2.1 σ.1 k → w.1 113 k = iz (σ.2.2.2.2.2.2.2.2 k)) (h114 : ∀ k, k < 100 → w.1 114 k = iz 0) : ok (whl (fun z : Int32 × xS => f187_169 101 z.1 z.2) (iz ((0 : Nat) : Int), w)) (fun r => fr FMe w r.1 ∧ nwM r.1 rb σ ∧ r.2 = iz σ.1) := by
  refine forz (fun m z => fr (fun id k => id == 117 && Nat.ble k 3) w z ∧ ∀ q, q < m → z.1 117 q = iz 0) 0 4 (by omega) (by omega) ⟨fr.rf _ _, fun q hq => by omega⟩ (fun m z _ hm ⟨a1, a2⟩ => ?_) (fun z ⟨a1, a2⟩ => ?_)
  · dsimp only
    unfold f187_169
    rw [iz4, it_le_f (by omega) (by omega) (by omega)]
    simp (disch := omega) only [R_101_24, W_117, Option.bind_some, iz_in, iz_n, nat_toNat, if_true, iz1, iz_add, iz0, nb0]
    rw [ok_some, lp_l]
    refine ⟨rfl, a1.ui (by rw [Nat.ble_eq_true_of_le (show m ≤ 3 by omega)]; rfl), fun q hq => ?_⟩
    dsimp only
    by_cases e : q = m
    · rw [e, up_eq]
    · rw [up_ix _ _ e]; exact a2 q (by omega)
  · dsimp only
    unfold f187_169
    rw [iz4, it_le_t (by omega) (by omega) (by omega)]
    simp only [pI, Option.bind_some, iz0]
    have k1 : fr (fun id k => id == 101 && (k == 27 || k == 28 || k == 37 || k == 71)) z (xm_up (xm_up (xm_up (xm_up z.1 101 27 (iz 0)) 101 28 (iz 0)) 101 37 (iz 0)) 101 71 (iz 0), z.2) := ((((fr.rf _ _).ui rfl).ui rfl).ui rfl).ui rfl
    have hM1 := (hM.fr a1 rfl (fun id k h1 h2 => by rw [show (id == 117) = false from beq_false_of_ne (by omega)]; rfl)).fr k1 rfl (fun id k h1 h2 => by rw [show (id == 101) = false from beq_false_of_ne (by omega)]; rfl)
    rw [ok_map]
    have e3 := mo_e3 (w := (xm_up (xm_up (xm_up (xm_up z.1 101 27 (iz 0)) 101 28 (iz 0)) 101 37 (iz 0)) 101 71 (iz 0), z.2)) hV hM1 (by rw [k1.i _ _ rfl, a1.i _ _ rfl]; exact h25)
    refine e3.mono (fun r ⟨b1, b2, b3⟩ => ?_)
    rw [lp_r]
    refine ⟨?_, ⟨?_, ?_, fun k hk => ?_, fun k hk => ?_, fun p hp => ?_, ?_, ?_, ?_, ?_, b2⟩, b3⟩
    · refine ((a1.mono (fun id k hk => ?_)).tr (k1.mono (fun id k hk => ?_))).tr (b1.mono (fun id k hk => ?_))
      · unfold FMe; rw [hk]; simp
      · unfold FMe
        simp only [Bool.or_eq_true, Bool.and_eq_true, beq_iff_eq] at hk ⊢
        omega
      · unfold FMe; rw [hk]; simp
    · rw [b1.i _ _ rfl, k1.i _ _ rfl, a1.i _ _ rfl]; exact h25
    · exact hM1.fr b1 rfl (fun id k h1 h2 => by rw [show (id == 129) = false from beq_false_of_ne (by omega)]; rfl)
    · rw [b1.i _ _ rfl, k1.i _ _ rfl, a1.i _ _ rfl]; exact h113 k hk
    · rw [b1.i _ _ rfl, k1.i _ _ rfl, a1.i _ _ rfl]; exact h114 k hk
    · rw [b1.i _ _ rfl, k1.i _ _ rfl]; exact a2 p hp
    · rw [b1.i _ _ rfl]; simp (disch := omega) only [up_ix, up_eq]
    · rw [b1.i _ _ rfl]; simp (disch := omega) only [up_ix, up_eq]
    · rw [b1.i _ _ rfl]; simp (disch := omega) only [up_ix, up_eq]
    · rw [b1.i _ _ rfl]; simp (disch := omega) only [up_eq]
theorem mo_e1 {w : xS} {σ : Sh} {q : Nat} (hV : σ.1 ≤ 4) (hM : ShM w rb σ) (h : MGd w B L q) : ok (f187_109 101 w) (fun r => fr FMe w r.1 ∧ nwM r.1 rb σ ∧ r.2 = iz σ.1) := by
  have hr := hM.1
  unfold f187_109
  rw [mt_isgood h.2.2.2.1]
  simp only [Option.bind_some]
  rw [it_z1 rfl, hM.2.1]
  simp only [pI, Option.bind_some]
  rw [show ((0 : Int32), ((xm_up w.1 101 25 (iz rb), w.2) : xS)) = (iz ((0 : Nat) : Int), (xm_up w.1 101 25 (iz rb), w.2)) from congrArg (fun z => (z, _)) iz0]
  have k0 : fr (fun id k => id == 101 && k == 25) w (xm_up w.1 101 25 (iz rb), w.2) := (fr.rf _ _).ui rfl
  have hM0 := hM.fr k0 rfl (fun id k h1 h2 => by rw [show (id == 101) = false from beq_false_of_ne (by omega)]; rfl)
  refine forz (fun m z => fr (fun id k => (id == 113 || id == 114) && Nat.ble k 99) (xm_up w.1 101 25 (iz rb), w.2) z ∧ ∀ k, k < m → z.1 113 k = w.1 108 (100 * rb + k) ∧ z.1 114 k = iz 0) 0 100 (by omega) (by omega) ⟨fr.rf _ _, fun q hq => by omega⟩ (fun m z _ hm ⟨a1, a2⟩ => ?_) (fun z ⟨a1, a2⟩ => ?_)
  · dsimp only
    unfold f187_128
    have i25 : z.1 101 25 = iz rb := by rw [a1.i _ _ rfl]; first | exact up_eqP _ _ _ _ _ | exact up_eq _ _ _ _
    have en : ((100 : Int) * rb + m).toNat = 100 * rb + m := by omega
    have i108 : z.1 108 (100 * rb + m) = w.1 108 (100 * rb + m) := by rw [a1.i _ _ rfl, k0.i _ _ rfl]
    rw [iz100, it_le_f (by omega) (by omega) (by omega)]
    simp (disch := omega) only [R_101_20, R_101_15, R_101_21, A_108, W_113, W_114, Option.bind_some, i25, iz_mul, iz_add, iz_in, iz_n, nat_toNat, en, if_true, iz1, iz0, i108]
    rw [ok_some, lp_l]
    have hb : Nat.ble m 99 = true := Nat.ble_eq_true_of_le (by omega)
    refine ⟨rfl, (a1.ui (by rw [hb]; rfl)).ui (by rw [hb]; rfl), fun k hk => ?_⟩
    dsimp only
    by_cases e : k = m
    · rw [e, up_eq, up_id _ _ (by omega), up_eq]
      exact ⟨rfl, rfl⟩
    · simp (disch := omega) only [up_ix, up_id]
      exact a2 k (by omega)
  · dsimp only
    unfold f187_128
    rw [iz100, it_le_t (by omega) (by omega) (by omega), ok_map]
    rw [show ((0 : Int32), z) = (iz ((0 : Nat) : Int), z) from congrArg (fun y => (y, z)) iz0]
    have hM1 := hM0.fr a1 rfl (fun id k h1 h2 => by rw [show (id == 113) = false from beq_false_of_ne (by omega), show (id == 114) = false from beq_false_of_ne (by omega)]; rfl)
    refine (mo_e2 hV hM1 (by rw [a1.i _ _ rfl]; first | exact up_eqP _ _ _ _ _ | exact up_eq _ _ _ _) (fun k hk => ?_) (fun k hk => (a2 k hk).2)).mono (fun r ⟨b1, b2, b3⟩ => ?_)
    · rw [(a2 k hk.1).1]; exact hM.2.2.2.2.2.2.2.2.2.2 k hk
    · rw [lp_r]
      refine ⟨((k0.mono (fun id k hk => ?_)).tr (a1.mono (fun id k hk => ?_))).tr b1, b2, b3⟩
      · unfold FMe
        simp only [Bool.or_eq_true, Bool.and_eq_true, beq_iff_eq] at hk ⊢
        omega
      · unfold FMe; rw [hk]; simp
def mShp (s : xS) (rb : Nat) (p : PR Sh) (r : xS × Int32) : Prop := match p with
  | .inl e => fr (FMl rb) s r.1 ∧ r.2 = iz (-1) ∧ r.1.1 101 4 = iz e.1 ∧ r.1.1 101 5 = iz e.2
  | .inr a => fr (fun id k => FMl rb id k || FMe id k) s r.1 ∧ r.2 = iz (a.1.1 : Nat) ∧ r.1.1 101 4 = iz 0 ∧ r.1.1 101 5 = iz (-1) ∧ nwM r.1 rb a.1 ∧ ShV a.1
theorem ms_shopbad {w : xS} {e : Nat × Nat} (hf : fr (FMl rb) s w) (h : MBd w e) : ok (whl (fun z : xS => f187_88 101 z) w) (mShp s rb (.inl e)) := by
  refine whl_ok (fun Z hl hr => ?_)
  unfold f187_88 f187_109
  rw [mt_isbad h]
  simp only [Option.bind_some]
  rw [it_z0 rfl, ok_map, mt_isbad h]
  simp only [Option.bind_some]
  rw [it_z0 rfl, ok_some, izm1]
  exact hr _ ⟨hf, rfl, h.2.2.1, h.2.2.2.1⟩
theorem ms_shop : ∀ f σ q w, L - q < f → fr (FMl rb) s w → MGd w B L q → ShV σ → ShM w rb σ → ok (whl (fun z : xS => f187_88 101 z) w) (mShp s rb (pSh B L f σ q))
  | 0, σ, q, w, hf0, hf, h, hV, hM => by omega
  | f + 1, σ, q, w, hf0, hf, h, hV, hM => by
    have kb := mK_b (tok B L q).1 (tkW B L q)
    have a6 := (tok_le (B := B) h.2.1).2.2.2.2
    by_cases g : (tok B L q).1 = 0
    · have e0 : pSh B L (f + 1) σ q = .inr (σ, q) := by unfold pSh; rw [if_pos g]
      rw [e0]
      refine whl_ok (fun Z hl hr => ?_)
      unfold f187_88
      rw [mt_isgood h.2.2.2.1]
      simp only [Option.bind_some]
      rw [it_z1 rfl, h.2.2.1.1, iz0, show ((0 : Int)) = ((0 : Nat) : Int) from rfl, it_nat (by omega) (by omega), if_pos ((mK_0 a6).mpr g), ok_map]
      refine (mo_e1 hV.1 hM h).mono (fun r ⟨b1, b2, b3⟩ => ?_)
      refine hr _ ⟨(hf.mono (fun id k hk => by rw [hk]; rfl)).tr (b1.mono (fun id k hk => by rw [hk, Bool.or_true])), b3, ?_, ?_, b2, hV⟩
      · rw [b1.i _ _ rfl]; exact h.2.2.2.1
      · rw [b1.i _ _ rfl]; exact h.2.2.2.2
    · have e0 : pSh B L (f + 1) σ q = pBind (pLt B L σ q) (fun σ' q' => pSh B L f σ' q') := by conv => lhs; unfold pSh; rw [if_neg g]
      rw [e0]
      refine whl_ok (fun Z hl hr => ?_)
      unfold f187_88
      rw [mt_isgood h.2.2.2.1]
      simp only [Option.bind_some]
      rw [it_z1 rfl, h.2.2.1.1, iz0, show ((0 : Int)) = ((0 : Nat) : Int) from rfl, it_nat (by omega) (by omega), if_neg (fun r => g ((mK_0 a6).mp r))]
      refine (ms_line h hV hM).bind (fun r ⟨c1, σ', x', o1, o2, E⟩ => ?_)
      rw [ok_some]
      refine hl _ ?_
      have hf' := hf.tr c1
      cases x' with
      | inl e =>
        rw [E]
        exact ms_shopbad hf' o1
      | inr q' =>
        have hp : pLt B L σ q = .inr (σ', q') := by
          have E0 := E Sh (fun σ q => .inr (σ, q))
          cases hq : pLt B L σ q with
          | inl e => rw [hq] at E0; cases E0
          | inr y => rw [hq] at E0; exact E0
        obtain ⟨b1, b2, b3⟩ := pLt_q h.2.1 hV hp
        rw [E]
        exact ms_shop f σ' q' r.1 (by omega) hf' o1 b3 (o2 ⟨q', rfl⟩)
def mShz (s : xS) (rb : Nat) (p : PR Sh) (r : xS × Int32) : Prop := r.1.1 101 2 = iz 0 ∧ match p with
  | .inl e => fr (FMf rb) s r.1 ∧ r.2 = iz (-1) ∧ r.1.1 101 4 = iz e.1 ∧ r.1.1 101 5 = iz e.2
  | .inr a => fr (FMh rb) s r.1 ∧ r.2 = iz (a.1.1 : Nat) ∧ r.1.1 101 4 = iz 0 ∧ r.1.1 101 5 = iz (-1) ∧ nwM r.1 rb a.1 ∧ ShV a.1
theorem FMl_w {id : Nat} (h : 104 ≤ id ∧ id ≤ 111) : FMl rb id rb = true := by
  obtain ⟨h1, h2⟩ := h
  unfold FMl
  by_cases e : id ≤ 107
  · rw [Nat.ble_eq_true_of_le h1, Nat.ble_eq_true_of_le e]; simp
  · rw [Nat.ble_eq_true_of_le (show 108 ≤ id by omega), Nat.ble_eq_true_of_le h2]; simp
theorem mo_shop {b : Nat} {hs : Nat → Int} (hb : b < 2) (hrb : rb = 1 - b) (hL : L ≤ 1200) (h2 : s.1 101 2 = iz L) (h25 : s.1 101 25 = iz b) (h : ∀ k, k < L → s.1 102 k = iz (B k) ∧ byR (B k)) (hhs : ∀ k, k < 100 → -99 ≤ hs k ∧ hs k ≤ 99) : ok (f187 101 s) (mShz s rb (pSh B L 1201 (Sh0 hs) 0)) := by
  have rb2 : rb < 2 := by omega
  have eb : iz ((1 : Int) - b) = iz (rb : Int) := by congr 1; omega
  unfold f187
  rw [ifg_pos O_101]
  refine (mo_take hL h2 h).bind (fun r1 ⟨f1, t1, t2, t3, t4, t5⟩ => ?_)
  have i25 : r1.1.1 101 25 = iz b := by rw [f1.i _ _ rfl]; exact h25
  simp only [pI, Option.bind_some]
  rw [i25, iz1, iz_sub, eb]
  simp (disch := omega) only [R_101_11, R_101_12, R_101_13, R_101_14, R_101_16, R_101_17, R_101_18, W_104, W_105, W_106, W_107, W_109, W_110, W_111, Option.bind_some, up_eq, up_id, iz_in, iz_n, nat_toNat, if_true, iz0, nb0]
  generalize hW : ((xm_up (xm_up (xm_up (xm_up (xm_up (xm_up (xm_up (xm_up r1.1.1 101 26 (iz rb)) 104 rb (3 : Int32)) 105 rb (iz 0)) 106 rb (iz 0)) 107 rb (iz 0)) 109 rb (iz 0)) 110 rb (iz 0)) 111 rb (iz 0), r1.1.2) : xS) = W
  have k1 : fr (fun id k => (id == 101 && k == 26) || (Nat.ble 104 id && Nat.ble id 111)) r1.1 W := by
    rw [← hW]
    exact ((((((((fr.rf _ _).ui (id := 101) (k := 26) rfl).ui (id := 104) rfl).ui (id := 105) rfl).ui (id := 106) rfl).ui (id := 107) rfl).ui (id := 109) rfl).ui (id := 110) rfl).ui (id := 111) rfl
  have k2 : fr (FMf rb) r1.1 W := by
    rw [← hW]
    have w := fun {id : Nat} (h : 104 ≤ id ∧ id ≤ 111) => FMl_f rb id rb (FMl_w (rb := rb) h)
    exact ((((((((fr.rf _ _).ui (id := 101) (k := 26) (by unfold FMf; simp)).ui (id := 104) (w (by omega))).ui (id := 105) (w (by omega))).ui (id := 106) (w (by omega))).ui (id := 107) (w (by omega))).ui (id := 109) (w (by omega))).ui (id := 110) (w (by omega))).ui (id := 111) (w (by omega))
  have hM : ShM W rb (Sh0 hs) := by
    rw [← hW]
    refine ⟨rb2, ?_, ?_, ?_, ?_, ?_, ?_, ?_, ?_, fun p hp => absurd hp (Nat.not_lt_zero p), fun k hk => absurd hk.2.1 (Nat.not_lt_zero _)⟩
    · simp (disch := omega) only [up_id, up_eq]
    · simp (disch := omega) only [up_id, up_eq]; rfl
    · simp (disch := omega) only [up_id, up_eq]; exact iz3
    · simp (disch := omega) only [up_id, up_eq]; rfl
    · simp (disch := omega) only [up_id, up_eq]; rfl
    · simp (disch := omega) only [up_id, up_eq]; rfl
    · simp (disch := omega) only [up_id, up_eq]; rfl
    · simp (disch := omega) only [up_eq]; rfl
  refine (mo_step (t1.fr k1 rfl (fun _ => rfl)) (Nat.zero_le L) (by rw [k1.i _ _ rfl]; exact t5)).bind (fun r3 ⟨f3, t6⟩ => ?_)
  have g : MGd r3.1 B L 0 := ⟨(t1.fr k1 rfl (fun _ => rfl)).fr f3 rfl (fun _ => rfl), Nat.zero_le L, t6, by rw [f3.i _ _ rfl, k1.i _ _ rfl]; exact t3, by rw [f3.i _ _ rfl, k1.i _ _ rfl]; exact t4⟩
  have f5 : fr (FMf rb) s r3.1 := ((f1.mono (fun id k hk => ?_)).tr k2).tr (f3.mono (fun id k hk => FMt_f rb id k (Fmk_t id k hk)))
  · have z2 : r3.1.1 101 2 = iz 0 := by rw [f3.i _ _ rfl, k1.i _ _ rfl]; exact t2
    have hV0 : ShV (Sh0 hs) := ⟨Nat.zero_le 4, Nat.le_refl 3, Nat.le_add_right 3 2, Int.le_refl 0, (show (0 : Int) ≤ 20 by decide), Int.le_refl 0, (show (0 : Int) ≤ 8 by decide), hhs⟩
    have hM3 : ShM r3.1 rb (Sh0 hs) := hM.fr f3 rfl (fun id k h1 h2 => by unfold Fmk; rw [show (id == 101) = false from beq_false_of_ne (by omega)]; rfl)
    refine (ms_shop (s := r3.1) 1201 (Sh0 hs) 0 r3.1 (by omega) (fr.rf _ _) g hV0 hM3).mono (fun r hr => ?_)
    revert hr
    unfold mShp mShz
    cases pSh B L 1201 (Sh0 hs) 0 with
    | inl e => exact fun hr => ⟨by rw [hr.1.i _ _ (by unfold FMl; simp)]; exact z2, f5.tr (hr.1.mono (FMl_f rb)), hr.2⟩
    | inr a => exact fun hr => ⟨by rw [hr.1.i _ _ (by unfold FMl FMe; simp)]; exact z2, (f5.mono (FMf_h rb)).tr (hr.1.mono (fun id k hk => by rw [Bool.or_eq_true] at hk; rcases hk with hk | hk; exact FMf_h rb id k (FMl_f rb id k hk); exact FMe_h rb id k hk)), hr.2⟩
  · unfold FMx at hk
    unfold FMf FMl
    simp only [Bool.or_eq_true, Bool.and_eq_true, beq_iff_eq, Nat.ble_eq] at hk ⊢
    omega
end MSh
