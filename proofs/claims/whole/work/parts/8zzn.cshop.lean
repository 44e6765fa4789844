/-! a shop at the class -/
theorem cp4 (s : xS) : cpI s 7 0 4 0 4 = some (s.1, xm_row s.2 4 (va_cpy (s.2 7) (s.2 4) 0 0 4)) := by
  have e0 : (0 : Int32).toNatClampNeg = 0 := by decide +kernel
  have e1 : (4 : Int32).toNatClampNeg = 4 := by decide +kernel
  have ka : hk_ks[7]? = some (23, 4) := by decide +kernel
  have kd : hk_ks[4]? = some (23, 4) := by decide +kernel
  unfold cpI
  rw [ka, kd]
  dsimp only
  rw [if_neg (fun q => absurd q.1 (by decide)), if_pos (by refine ⟨rfl, rfl, by decide +kernel, by decide +kernel, by decide +kernel, by rw [e0, e1]; omega, by rw [e0, e1]; omega⟩), e0, e1]
theorem rowL_at (f : Nat → Nat → Int64) (d : Nat) (r : Nat → Int64) (k : Nat) : xm_row f d r d k = r k := by unfold xm_row; rw [if_pos rfl]
theorem rowL_ne (f : Nat → Nat → Int64) {d a : Nat} (r : Nat → Int64) (h : a ≠ d) (k : Nat) : xm_row f d r a k = f a k := by unfold xm_row; rw [if_neg h]
theorem fr.rowL {F : Nat → Nat → Bool} {s s' : xS} (h : fr F s s') {d : Nat} {r : Nat → Int64} (hk : ∀ k, F d k = true) : fr F s (s'.1, xm_row s'.2 d r) := fun a k hab => by
  have ne : a ≠ d := fun e => by rw [e, hk k] at hab; cases hab
  exact ⟨(h a k hab).1, by dsimp only; rw [rowL_ne _ _ ne]; exact (h a k hab).2⟩
def FCt (id k : Nat) : Bool := FCp id k || (id == 1 && k == 1)
theorem FCp_t (id k : Nat) (h : FCp id k = true) : FCt id k = true := by unfold FCt; rw [h]; rfl
def FCs (id k : Nat) : Bool := FCt id k || id == 3 || id == 4 || id == 5 || (id == 33 && (k == 3 || k == 4)) || id == 34 || id == 35 || id == 36 || (id == 9 && k == 1) || id == 38 || (id == 72 && k == 8) || FH id k
theorem FCt_s (id k : Nat) (h : FCt id k = true) : FCs id k = true := by unfold FCs; rw [h]; rfl
theorem FH_s (id k : Nat) (h : FH id k = true) : FCs id k = true := by unfold FCs; rw [h, Bool.or_true]
section CSh
variable {s : xS} {B : Nat → Int} {L : Nat}
def nwC (s : xS) (σ : Sh) : Prop := s.1 3 2 = iz σ.1 ∧ s.1 3 3 = iz σ.2.1 ∧ s.1 3 4 = iz σ.2.2.1 ∧ s.1 3 5 = iz σ.2.2.2.1 ∧ (∀ p, p < σ.1 → s.2 4 p = σ.2.2.2.2.2.2.2.1 p) ∧ (∀ k, k < 100 → s.1 34 k = iz (σ.2.2.2.2.2.2.2.2 k) ∧ s.1 35 k = iz 0 ∧ s.1 36 k = iz 0) ∧ s.1 33 3 = iz 0 ∧ s.1 33 4 = iz 0 ∧ s.1 9 1 = iz 0 ∧ (∀ q, q < 3 → s.1 38 q = iz 0) ∧ s.1 72 8 = iz 0 ∧ chg s
theorem cl_shb {σ : Sh} (hV : σ.1 ≤ 4) (hC : ShC s σ) : ok (f71 3 6 s) (fun r => fr (fun id _ => id == 3 || id == 4 || id == 5) s r.1 ∧ r.1.1 3 2 = iz σ.1 ∧ r.1.1 3 3 = iz σ.2.1 ∧ r.1.1 3 4 = iz σ.2.2.1 ∧ r.1.1 3 5 = iz σ.2.2.2.1 ∧ (∀ p, p < σ.1 → r.1.2 4 p = σ.2.2.2.2.2.2.2.1 p) ∧ ∀ k, k < 100 → r.1.1 5 k = iz (σ.2.2.2.2.2.2.2.2 k)) := by
  obtain ⟨d1, d2, d3, d4, d5, d6, d7, d8, d9⟩ := hC
  have ka : hk_ks[8]? = some (20, 100) := by decide +kernel
  have kd : hk_ks[5]? = some (20, 100) := by decide +kernel
  unfold f71
  rw [ifg_pos O_3, ifg_pos O_6]
  simp only [R_6_0, R_3_0, R_6_1, R_3_1, Option.bind_some, show aN 4 = some 4 from rfl, show aN 5 = some 100 from rfl, cp4, cp100 ka kd, pI]
  rw [ok_some]
  have f0 : fr (fun id _ => id == 3 || id == 4 || id == 5) s (s.1, xm_row s.2 4 (va_cpy (s.2 7) (s.2 4) 0 0 4)) := (fr.rf _ _).rowL (fun _ => rfl)
  have f1 := f0.row (d := 5) (r := va_cpy (s.1 8) (s.1 5) 0 0 100) (fun _ => rfl)
  refine ⟨(((f1.ui (id := 3) rfl).ui (id := 3) rfl).ui (id := 3) rfl).ui (id := 3) rfl, ?_, ?_, ?_, ?_, fun p hp => ?_, fun k hk => ?_⟩
  · simp (disch := omega) only [up_ix, up_eq, up_id, row_ne]; exact d1
  · simp (disch := omega) only [up_ix, up_eq, up_id, row_ne]; exact d2
  · simp (disch := omega) only [up_ix, up_eq, up_id, row_ne]; exact d3
  · simp (disch := omega) only [up_ix, up_eq, up_id, row_ne]; exact d4
  · dsimp only
    rw [rowL_at]
    unfold va_cpy
    rw [if_pos ⟨by omega, by omega⟩, show 0 + (p - 0) = p by omega]
    exact d8 p hp
  · simp (disch := omega) only [up_id]
    rw [row_at, cpy_at _ _ hk]
    exact d9 k hk
theorem cl_bgn {H : Nat → Int} (h5 : ∀ k, k < 100 → s.1 5 k = iz (H k)) : ok (f2 33 3 s) (fun r => fr (fun id k => (id == 33 && (k == 3 || k == 4)) || id == 34 || id == 35 || id == 36) s r.1 ∧ (∀ k, k < 100 → r.1.1 34 k = iz (H k) ∧ r.1.1 35 k = iz 0 ∧ r.1.1 36 k = iz 0) ∧ r.1.1 33 3 = iz 0 ∧ r.1.1 33 4 = iz 0) := by
  have ka : hk_ks[5]? = some (20, 100) := by decide +kernel
  have kd : hk_ks[34]? = some (20, 100) := by decide +kernel
  unfold f2
  rw [ifg_pos O_33, ifg_pos O_3]
  simp only [R_3_1, R_33_0, R_33_1, R_33_2, Option.bind_some, show aN 34 = some 100 from rfl, cp100 ka kd]
  have f0 : fr (fun id k => (id == 33 && (k == 3 || k == 4)) || id == 34 || id == 35 || id == 36) s (xm_row s.1 34 (va_cpy (s.1 5) (s.1 34) 0 0 100), s.2) := (fr.rf _ _).row (fun _ => rfl)
  refine (fill_ok (id := 35) (n := 100) ((show aN 35 = some 100 from rfl).trans (congrArg some iz100)) W_35 (by omega) 0 _).bind (fun r1 ⟨f1, g1⟩ => ?_)
  refine (fill_ok (id := 36) (n := 100) ((show aN 36 = some 100 from rfl).trans (congrArg some iz100)) W_36 (by omega) 0 _).bind (fun r2 ⟨f2, g2⟩ => ?_)
  simp only [pI, Option.bind_some]
  rw [ok_some]
  refine ⟨(((f0.tr (f1.mono (fun id k hk => by rw [beq_iff_eq] at hk; rw [hk]; rfl))).tr (f2.mono (fun id k hk => by rw [beq_iff_eq] at hk; rw [hk]; rfl))).ui (id := 33) (k := 3) rfl).ui (id := 33) (k := 4) rfl, fun k hk => ⟨?_, ?_, ?_⟩, ?_, ?_⟩
  · dsimp only
    rw [up_id _ _ (by omega), up_id _ _ (by omega), f2.i _ _ rfl, f1.i _ _ rfl]
    dsimp only
    rw [row_at, cpy_at _ _ hk]; exact h5 k hk
  · dsimp only; rw [up_id _ _ (by omega), up_id _ _ (by omega), f2.i _ _ rfl]; exact (g1 k hk).trans iz0
  · dsimp only; rw [up_id _ _ (by omega), up_id _ _ (by omega)]; exact (g2 k hk).trans iz0
  · dsimp only; rw [up_ix _ _ (by omega), up_eq]; exact iz0
  · dsimp only; rw [up_eq]; exact iz0
def cShz (s : xS) (p : PR Sh) (r : xS × Int32) : Prop := r.1.1 1 1 = iz 0 ∧ S8 r.1 ∧ match p with
  | .inl e => fr FCt s r.1 ∧ r.2 = iz (-1) ∧ CFa r.1 e
  | .inr a => fr FCs s r.1 ∧ r.2 = iz (a.1.1 : Nat) ∧ r.1.1 1 2 = iz 0 ∧ r.1.1 1 3 = iz (-1) ∧ nwC r.1 a.1 ∧ ShV a.1
theorem cl_shop {hs : Nat → Int} (h : CTx s B L) (h8 : ∀ k, k < 100 → s.1 8 k = iz (hs k)) (hb : ∀ k, k < 100 → -99 ≤ hs k ∧ hs k ≤ 99) : ok (f126 0 s) (cShz s (pSh B L 1201 (Sh0 hs) 0)) := by
  unfold f126
  rw [ifg_pos O_0]
  simp only [R_0_0, R_0_1, R_0_2, R_0_3, R_0_5, Option.bind_some]
  refine (cl_open h).bind (fun r1 ⟨f1, c1⟩ => ?_)
  refine (ct_shop h.1 (fun k hk => by rw [f1.i _ _ rfl]; exact h8 k hk) hb c1).bind (fun r2 ⟨⟨f2, s2⟩, o2⟩ => ?_)
  simp only [pI, Option.bind_some]
  have g2 : fr FCt s (xm_up r2.1.1 1 1 0, r2.1.2) := (((f1.mono FTt_p).tr f2).mono FCp_t).ui rfl
  have k1 : fr (fun id _ => id == 1) r2.1 (xm_up r2.1.1 1 1 0, r2.1.2) := (fr.rf _ _).ui rfl
  have s3 : S8 (xm_up r2.1.1 1 1 0, r2.1.2) := s2.fr k1 (fun _ => rfl)
  cases hp : pSh B L 1201 (Sh0 hs) 0 with
  | inl e =>
    rw [hp] at o2
    rw [it_z0 o2.1, ok_some, izm1]
    exact ⟨(up_eqP _ _ _ _ _).trans iz0, s3, g2, rfl, by dsimp only; rw [up_ix _ _ (by omega)]; exact o2.2.1, by dsimp only; rw [up_ix _ _ (by omega)]; exact o2.2.2⟩
  | inr a =>
    rw [hp] at o2
    obtain ⟨p1, p2, p3, p4⟩ := o2
    rw [it_z1 p1]
    refine (cl_shb (s := (xm_up r2.1.1 1 1 0, r2.1.2)) (σ := a.1) p4.1 (p3.fr k1 (fun _ => rfl) (fun _ => rfl) (fun _ => rfl))).bind (fun r3 ⟨f3, q1, q2, q3, q4, q5, q6⟩ => ?_)
    refine (cl_bgn q6).bind (fun r4 ⟨f4, u1, u2, u3⟩ => ?_)
    have k5 : fr (fun id k => id == 9 && k == 1) r4.1 (xm_up r4.1.1 9 1 0, r4.1.2) := (fr.rf _ _).ui rfl
    rw [show ((0 : Int32), ((xm_up r4.1.1 9 1 0, r4.1.2) : xS)) = (iz ((0 : Nat) : Int), (xm_up r4.1.1 9 1 0, r4.1.2)) from congrArg (fun z => (z, _)) iz0]
    refine forz (fun m z => fr (fun id _ => id == 38) (xm_up r4.1.1 9 1 0, r4.1.2) z ∧ ∀ q, q < m → z.1 38 q = iz 0) 0 3 (by omega) (by omega) ⟨fr.rf _ _, fun q hq => by omega⟩ (fun m z _ hm ⟨a1, a2⟩ => ?_) (fun z ⟨a1, a2⟩ => ?_)
    · dsimp only
      unfold f126_65
      rw [iz3, it_le_f (by omega) (by omega) (by omega)]
      simp (disch := omega) only [R_0_7, W_38, Option.bind_some, iz_in, iz_n, nat_toNat, if_true, iz1, iz_add, iz0, nb0]
      rw [ok_some, lp_l]
      refine ⟨rfl, a1.ui rfl, fun q hq => ?_⟩
      dsimp only
      by_cases e : q = m
      · rw [e, up_eq]
      · rw [up_ix _ _ e]; exact a2 q (by omega)
    · dsimp only
      unfold f126_65 f109 f108
      rw [iz3, it_le_t (by omega) (by omega) (by omega)]
      simp only [R_0_10, R_0_1, Option.bind_some]
      rw [ifg_pos O_72]
      simp only [pI, Option.bind_some]
      rw [ifg_pos O_72]
      simp only [Option.bind_some, ok_map]
      have k6 : fr (fun id k => id == 72 && (k == 8 || k == 11 || k == 14 || k == 16)) z (xm_up (xm_up (xm_up (xm_up z.1 72 8 0) 72 11 0) 72 14 0) 72 16 0, z.2) := ((((fr.rf _ _).ui (id := 72) (k := 8) rfl).ui (id := 72) (k := 11) rfl).ui (id := 72) (k := 14) rfl).ui (id := 72) (k := 16) rfl
      refine (cl_changed _).bind (fun r7 ⟨f7, q7⟩ => ?_)
      rw [ok_some, lp_r]
      have z3 : ∀ k, r7.1.1 3 k = r3.1.1 3 k := fun k => by rw [f7.i _ _ rfl, k6.i _ _ rfl, a1.i _ _ rfl, k5.i _ _ rfl, f4.i _ _ rfl]
      refine ⟨?_, ?_, ?_, (z3 2).trans q1, ?_, ?_, ⟨(z3 2).trans q1, (z3 3).trans q2, (z3 4).trans q3, (z3 5).trans q4, fun p hp => ?_, fun k hk => ⟨?_, ?_, ?_⟩, ?_, ?_, ?_, fun q hq => ?_, ?_, q7⟩, p4⟩
      · rw [f7.i _ _ rfl, k6.i _ _ rfl, a1.i _ _ rfl, k5.i _ _ rfl, f4.i _ _ rfl, f3.i _ _ rfl]; first | exact (up_eqP _ _ _ _ _).trans iz0 | exact (up_eq _ _ _ _).trans iz0
      · exact (((((s3.fr f3 (fun _ => rfl)).fr f4 (fun _ => rfl)).fr k5 (fun _ => rfl)).fr a1 (fun _ => rfl)).fr k6 (fun _ => rfl)).fr f7 (fun _ => rfl)
      · refine ((((((g2.mono FCt_s).tr (f3.mono (fun id k hk => ?_))).tr (f4.mono (fun id k hk => ?_))).tr (k5.mono (fun id k hk => ?_))).tr (a1.mono (fun id k hk => ?_))).tr (k6.mono (fun id k hk => ?_))).tr (f7.mono FH_s)
        · unfold FCs
          simp only [Bool.or_eq_true, beq_iff_eq] at hk ⊢
          rcases hk with (h | h) | h <;> simp [h]
        · unfold FCs
          simp only [Bool.or_eq_true, Bool.and_eq_true, beq_iff_eq] at hk ⊢
          rcases hk with ((h | h) | h) | h <;> simp [h]
        · unfold FCs
          simp only [Bool.or_eq_true, Bool.and_eq_true, beq_iff_eq] at hk ⊢
          simp [hk]
        · unfold FCs
          rw [beq_iff_eq] at hk
          rw [hk]
          simp
        · unfold FCs FH
          simp only [Bool.or_eq_true, Bool.and_eq_true, beq_iff_eq] at hk ⊢
          rcases hk with ⟨h1, ((h | h) | h) | h⟩ <;> simp [h, h1]
      · rw [f7.i _ _ rfl, k6.i _ _ rfl, a1.i _ _ rfl, k5.i _ _ rfl, f4.i _ _ rfl, f3.i _ _ rfl]; dsimp only; rw [up_ix _ _ (by omega)]; exact p2.2.2.2.1
      · rw [f7.i _ _ rfl, k6.i _ _ rfl, a1.i _ _ rfl, k5.i _ _ rfl, f4.i _ _ rfl, f3.i _ _ rfl]; dsimp only; rw [up_ix _ _ (by omega)]; exact p2.2.2.2.2
      · rw [f7.l _ _ rfl, k6.l _ _ rfl, a1.l _ _ rfl, k5.l _ _ rfl, f4.l _ _ rfl]; exact q5 p hp
      · rw [f7.i _ _ rfl, k6.i _ _ rfl, a1.i _ _ rfl, k5.i _ _ rfl]; exact (u1 k hk).1
      · rw [f7.i _ _ rfl, k6.i _ _ rfl, a1.i _ _ rfl, k5.i _ _ rfl]; exact (u1 k hk).2.1
      · rw [f7.i _ _ rfl, k6.i _ _ rfl, a1.i _ _ rfl, k5.i _ _ rfl]; exact (u1 k hk).2.2
      · rw [f7.i _ _ rfl, k6.i _ _ rfl, a1.i _ _ rfl, k5.i _ _ rfl]; exact u2
      · rw [f7.i _ _ rfl, k6.i _ _ rfl, a1.i _ _ rfl, k5.i _ _ rfl]; exact u3
      · rw [f7.i _ _ rfl, k6.i _ _ rfl, a1.i _ _ rfl]; first | exact (up_eqP _ _ _ _ _).trans iz0 | exact (up_eq _ _ _ _).trans iz0
      · rw [f7.i _ _ rfl, k6.i _ _ rfl]; exact a2 q hq
      · rw [f7.i _ _ rfl]; simp (disch := omega) only [up_ix, up_eq]; exact iz0
end CSh
