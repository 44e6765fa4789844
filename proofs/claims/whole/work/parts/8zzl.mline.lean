/-! a line of a shop at the model -/
section MLi
variable {s : xS} {B : Nat → Int} {L q rb pl n : Nat} {red slip : Int} {a b c : Bool} {nm : Nat → Int64} {hs : Nat → Int}
theorem ShM.flags {σ : Sh} {s' : xS} {a' b' c' : Bool} (h : ShM s rb (pl, n, red, slip, a, b, c, nm, hs)) (hf : fr FMg s s') (h1 : s'.1 109 rb = bz a') (h2 : s'.1 110 rb = bz b') (h3 : s'.1 111 rb = bz c') : ShM s' rb (pl, n, red, slip, a', b', c', nm, hs) := by
  obtain ⟨m0, m1, m2, m3, m4, m5, m6, m7, m8, m9, m10⟩ := h
  exact ⟨m0, by rw [hf.i _ _ rfl]; exact m1, by rw [hf.i _ _ rfl]; exact m2, by rw [hf.i _ _ rfl]; exact m3, by rw [hf.i _ _ rfl]; exact m4, by rw [hf.i _ _ rfl]; exact m5, h1, h2, h3, fun p hp => by rw [hf.l _ _ rfl]; exact m9 p hp, fun k hk => by rw [hf.i _ _ rfl]; exact m10 k hk⟩
theorem ms_lplate (h : MGd s B L q) (hpl : pl < 4) (hn : 3 ≤ n ∧ n ≤ 5) (hM : ShM s rb (pl, n, red, slip, a, b, c, nm, hs)) : ok (f188_144 101 (iz 0) (iz 1) (iz 0) (iz 0) s) (lOut B L s rb (pLp B L pl n red slip a b c nm hs (tok B L q).2.2)) := by
  obtain ⟨m0, m1, m2, m3, m4, m5, m6, m7, m8, m9, m10⟩ := hM
  dsimp only at m1 m2 m3 m4 m5 m6 m7 m8 m9 m10
  unfold f188_144
  rw [mt_isgood h.2.2.2.1]
  simp only [Option.bind_some]
  rw [it_z1 rfl]
  refine (mt_step h).bind (fun r1 ⟨f1, o1⟩ => ?_)
  rw [it_z1 rfl]
  refine (mo_plate (nm := nm) (hs := hs) m0 hpl hn o1 (by rw [f1.i _ _ rfl]; exact m1) (by rw [f1.i _ _ rfl]; exact m3) (by rw [f1.i _ _ rfl]; exact m2) (fun p hp => by rw [f1.l _ _ rfl]; exact m9 p hp) (fun k hk => by rw [f1.i _ _ rfl]; exact m10 k hk)).bind (fun r2 ⟨f2, p1, hs', x2, o2, p2, p3, E2⟩ => ?_)
  unfold f188_164 f188_183 f188_203
  rw [it_z0 rfl, it_z0 rfl, it_z0 rfl]
  have j26 : r2.1.1 101 26 = iz rb := by rw [f2.i _ _ rfl, f1.i _ _ rfl]; exact m1
  have j109 : r2.1.1 109 rb = bz a := by rw [f2.i _ _ rfl, f1.i _ _ rfl]; exact m6
  have j110 : r2.1.1 110 rb = bz b := by rw [f2.i _ _ rfl, f1.i _ _ rfl]; exact m7
  have j111 : r2.1.1 111 rb = bz c := by rw [f2.i _ _ rfl, f1.i _ _ rfl]; exact m8
  have fl := fl224 m0 o2 j26 j109 j110 j111 false false false
  rw [bz_f] at fl
  simp only [Bool.or_false] at fl
  refine fl.mono (fun r3 ⟨f3, q1, q2, q3, x3, o3, E3⟩ => ⟨?_, (pl + 1, n, red, slip, a, b, c, (fun i => if i = pl then tkW B L (tok B L q).2.2 else nm i), hs'), x3, o3, fun ⟨q', hq'⟩ => ?_, fun γ K => ?_⟩)
  · refine ((f1.mono (FMt_l rb)).tr (f2.mono (fun id k hk => ?_))).tr (f3.mono (FMg_l rb))
    unfold FMc at hk
    unfold FMl
    simp only [Bool.or_eq_true, Bool.and_eq_true, beq_iff_eq, Nat.ble_eq] at hk ⊢
    omega
  · have good : ∃ q2, x2 = .inr q2 := by
      cases x2 with
      | inl e => exact (tB_bad hq' (E3 Unit (fun q => .inr ((), q)))).elim
      | inr q2 => exact ⟨q2, rfl⟩
    have pn := p2 good
    have base : ShM r2.1 rb (pl + 1, n, red, slip, a, b, c, (fun i => if i = pl then tkW B L (tok B L q).2.2 else nm i), hs') := ⟨m0, j26, p1, by rw [f2.i _ _ rfl, f1.i _ _ rfl]; exact m3, by rw [f2.i _ _ rfl, f1.i _ _ rfl]; exact m4, by rw [f2.i _ _ rfl, f1.i _ _ rfl]; exact m5, j109, j110, j111, pn, p3⟩
    exact base.flags (σ := (pl, n, red, slip, a, b, c, nm, hs)) f3 q1 q2 q3
  · have E2' := E2 γ (fun w hs' q2 => pBind (pSt B L q2) (fun _ q3 => K (pl + 1, n, red, slip, a, b, c, (fun i => if i = pl then w.1 else nm i), hs') q3))
    have E3' := E3 γ (fun q3 => K (pl + 1, n, red, slip, a, b, c, (fun i => if i = pl then tkW B L (tok B L q).2.2 else nm i), hs') q3)
    rw [← E3']
    rw [← E2']
    unfold pLp
    rw [pBind_assoc]
    congr 1
    funext w q2
    split
    · rfl
    · simp only [pBind_assoc, pBind_r]
theorem ms_lsize (h : MGd s B L q) (hpl : pl = 0) (hM : ShM s rb (pl, n, red, slip, a, b, c, nm, hs)) : ok (f188_144 101 (iz 1) (iz 0) (iz 0) (iz 0) s) (lOut B L s rb (pLs B L 3 5 (fun v => (pl, v.toNat, red, slip, true, b, c, nm, hs)) (tok B L q).2.2)) := by
  obtain ⟨m0, m1, m2, m3, m4, m5, m6, m7, m8, m9, m10⟩ := hM
  dsimp only at m1 m2 m3 m4 m5 m6 m7 m8 m9 m10
  unfold f188_144
  rw [mt_isgood h.2.2.2.1]
  simp only [Option.bind_some]
  rw [it_z1 rfl]
  refine (mt_step h).bind (fun r1 ⟨f1, o1⟩ => ?_)
  rw [it_z0 rfl]
  have j26a : r1.1.1 101 26 = iz rb := by rw [f1.i _ _ rfl]; exact m1
  unfold f188_164
  rw [it_z1 rfl]
  simp only [R_101_11, Option.bind_some]
  have n1 := ms_num (x := .inr (tok B L q).2.2) (lo := 3) (hi := 5) o1 (by omega) (by omega) (by omega)
  rw [← iz3, ← iz5] at n1
  refine n1.bind (fun r2 ⟨f2, v, x2, w2, v1, v2, o2, E2⟩ => ?_)
  rw [w2, j26a]
  simp (disch := omega) only [W_104, Option.bind_some, iz_in, iz_n, nat_toNat, if_true]
  unfold f188_183 f188_203
  rw [it_z0 rfl, it_z0 rfl]
  have j26 : (xm_up r2.1.1 104 rb (iz v)) 101 26 = iz rb := by rw [up_id _ _ (by omega), f2.i _ _ rfl, f1.i _ _ rfl]; exact m1
  have j109 : (xm_up r2.1.1 104 rb (iz v)) 109 rb = bz a := by rw [up_id _ _ (by omega), f2.i _ _ rfl, f1.i _ _ rfl]; exact m6
  have j110 : (xm_up r2.1.1 104 rb (iz v)) 110 rb = bz b := by rw [up_id _ _ (by omega), f2.i _ _ rfl, f1.i _ _ rfl]; exact m7
  have j111 : (xm_up r2.1.1 104 rb (iz v)) 111 rb = bz c := by rw [up_id _ _ (by omega), f2.i _ _ rfl, f1.i _ _ rfl]; exact m8
  have fl := fl224 (s := (xm_up r2.1.1 104 rb (iz v), r2.1.2)) m0 (o2.uw (by omega) (by omega)) j26 j109 j110 j111 true false false
  rw [bz_t, bz_f] at fl
  simp only [Bool.or_false, Bool.or_true] at fl
  refine fl.mono (fun r3 ⟨f3, q1, q2, q3, x3, o3, E3⟩ => ⟨?_, (pl, v.toNat, red, slip, true, b, c, nm, hs), x3, o3, fun _ => ?_, fun γ K => ?_⟩)
  · exact ((((f1.tr f2).mono (FMt_l rb)).ui (id := 104) (k := rb) (by unfold FMl; simp)).tr (f3.mono (FMg_l rb)))
  · have base : ShM (xm_up r2.1.1 104 rb (iz v), r2.1.2) rb (pl, v.toNat, red, slip, a, b, c, nm, hs) := ⟨m0, j26, (by dsimp only; rw [up_id _ _ (by omega), f2.i _ _ rfl, f1.i _ _ rfl]; exact m2), (by dsimp only; rw [up_eq]; congr 1; omega), (by dsimp only; rw [up_id _ _ (by omega), f2.i _ _ rfl, f1.i _ _ rfl]; exact m4), (by dsimp only; rw [up_id _ _ (by omega), f2.i _ _ rfl, f1.i _ _ rfl]; exact m5), j109, j110, j111, fun p hp => by dsimp only at hp; omega, fun k hk => by have := hk.2.1; dsimp only at this; omega⟩
    exact base.flags (σ := (pl, n, red, slip, a, b, c, nm, hs)) f3 q1 q2 q3
  · have E2' := E2 γ (fun v q2 => pBind (pSt B L q2) (fun _ q3 => K (pl, v.toNat, red, slip, true, b, c, nm, hs) q3))
    have E3' := E3 γ (fun q3 => K (pl, v.toNat, red, slip, true, b, c, nm, hs) q3)
    rw [← E3', ← E2']
    unfold pLs
    simp only [pBind_assoc, pBind_r]
    rfl
theorem ms_lred (h : MGd s B L q) (hM : ShM s rb (pl, n, red, slip, a, b, c, nm, hs)) : ok (f188_144 101 (iz 0) (iz 0) (iz 1) (iz 0) s) (lOut B L s rb (pLs B L 0 20 (fun v => (pl, n, v, slip, a, true, c, nm, hs)) (tok B L q).2.2)) := by
  obtain ⟨m0, m1, m2, m3, m4, m5, m6, m7, m8, m9, m10⟩ := hM
  dsimp only at m1 m2 m3 m4 m5 m6 m7 m8 m9 m10
  unfold f188_144
  rw [mt_isgood h.2.2.2.1]
  simp only [Option.bind_some]
  rw [it_z1 rfl]
  refine (mt_step h).bind (fun r1 ⟨f1, o1⟩ => ?_)
  rw [it_z0 rfl]
  have j26a : r1.1.1 101 26 = iz rb := by rw [f1.i _ _ rfl]; exact m1
  unfold f188_164 f188_183
  rw [it_z0 rfl, it_z1 rfl]
  simp only [R_101_13, Option.bind_some]
  have n1 := ms_num (x := .inr (tok B L q).2.2) (lo := 0) (hi := 20) o1 (by omega) (by omega) (by omega)
  rw [← iz0, ← iz20] at n1
  refine n1.bind (fun r2 ⟨f2, v, x2, w2, v1, v2, o2, E2⟩ => ?_)
  rw [w2, j26a]
  simp (disch := omega) only [W_106, Option.bind_some, iz_in, iz_n, nat_toNat, if_true]
  unfold f188_203
  rw [it_z0 rfl]
  have j26 : (xm_up r2.1.1 106 rb (iz v)) 101 26 = iz rb := by rw [up_id _ _ (by omega), f2.i _ _ rfl, f1.i _ _ rfl]; exact m1
  have j109 : (xm_up r2.1.1 106 rb (iz v)) 109 rb = bz a := by rw [up_id _ _ (by omega), f2.i _ _ rfl, f1.i _ _ rfl]; exact m6
  have j110 : (xm_up r2.1.1 106 rb (iz v)) 110 rb = bz b := by rw [up_id _ _ (by omega), f2.i _ _ rfl, f1.i _ _ rfl]; exact m7
  have j111 : (xm_up r2.1.1 106 rb (iz v)) 111 rb = bz c := by rw [up_id _ _ (by omega), f2.i _ _ rfl, f1.i _ _ rfl]; exact m8
  have fl := fl224 (s := (xm_up r2.1.1 106 rb (iz v), r2.1.2)) m0 (o2.uw (by omega) (by omega)) j26 j109 j110 j111 false true false
  rw [bz_t, bz_f] at fl
  simp only [Bool.or_false, Bool.or_true] at fl
  refine fl.mono (fun r3 ⟨f3, q1, q2, q3, x3, o3, E3⟩ => ⟨?_, (pl, n, v, slip, a, true, c, nm, hs), x3, o3, fun _ => ?_, fun γ K => ?_⟩)
  · exact ((((f1.tr f2).mono (FMt_l rb)).ui (id := 106) (k := rb) (by unfold FMl; simp)).tr (f3.mono (FMg_l rb)))
  · have base : ShM (xm_up r2.1.1 106 rb (iz v), r2.1.2) rb (pl, n, v, slip, a, b, c, nm, hs) := ⟨m0, j26, (by dsimp only; rw [up_id _ _ (by omega), f2.i _ _ rfl, f1.i _ _ rfl]; exact m2), (by dsimp only; rw [up_id _ _ (by omega), f2.i _ _ rfl, f1.i _ _ rfl]; exact m3), (by dsimp only; rw [up_eq]), (by dsimp only; rw [up_id _ _ (by omega), f2.i _ _ rfl, f1.i _ _ rfl]; exact m5), j109, j110, j111, fun p hp => by dsimp only; rw [f2.l _ _ rfl, f1.l _ _ rfl]; exact m9 p hp, fun k hk => by dsimp only; rw [up_id _ _ (by omega), f2.i _ _ rfl, f1.i _ _ rfl]; exact m10 k hk⟩
    exact base.flags (σ := (pl, n, red, slip, a, b, c, nm, hs)) f3 q1 q2 q3
  · have E2' := E2 γ (fun v q2 => pBind (pSt B L q2) (fun _ q3 => K (pl, n, v, slip, a, true, c, nm, hs) q3))
    have E3' := E3 γ (fun q3 => K (pl, n, v, slip, a, true, c, nm, hs) q3)
    rw [← E3', ← E2']
    unfold pLs
    simp only [pBind_assoc, pBind_r]
    rfl
theorem ms_lslip (h : MGd s B L q) (hM : ShM s rb (pl, n, red, slip, a, b, c, nm, hs)) : ok (f188_144 101 (iz 0) (iz 0) (iz 0) (iz 1) s) (lOut B L s rb (pLs B L 0 8 (fun v => (pl, n, red, v, a, b, true, nm, hs)) (tok B L q).2.2)) := by
  obtain ⟨m0, m1, m2, m3, m4, m5, m6, m7, m8, m9, m10⟩ := hM
  dsimp only at m1 m2 m3 m4 m5 m6 m7 m8 m9 m10
  unfold f188_144
  rw [mt_isgood h.2.2.2.1]
  simp only [Option.bind_some]
  rw [it_z1 rfl]
  refine (mt_step h).bind (fun r1 ⟨f1, o1⟩ => ?_)
  rw [it_z0 rfl]
  have j26a : r1.1.1 101 26 = iz rb := by rw [f1.i _ _ rfl]; exact m1
  unfold f188_164 f188_183 f188_203
  rw [it_z0 rfl, it_z0 rfl, it_z1 rfl]
  simp only [R_101_14, Option.bind_some]
  have n1 := ms_num (x := .inr (tok B L q).2.2) (lo := 0) (hi := 8) o1 (by omega) (by omega) (by omega)
  rw [← iz0, ← iz8] at n1
  refine n1.bind (fun r2 ⟨f2, v, x2, w2, v1, v2, o2, E2⟩ => ?_)
  rw [w2, j26a]
  simp (disch := omega) only [W_107, Option.bind_some, iz_in, iz_n, nat_toNat, if_true]
  have j26 : (xm_up r2.1.1 107 rb (iz v)) 101 26 = iz rb := by rw [up_id _ _ (by omega), f2.i _ _ rfl, f1.i _ _ rfl]; exact m1
  have j109 : (xm_up r2.1.1 107 rb (iz v)) 109 rb = bz a := by rw [up_id _ _ (by omega), f2.i _ _ rfl, f1.i _ _ rfl]; exact m6
  have j110 : (xm_up r2.1.1 107 rb (iz v)) 110 rb = bz b := by rw [up_id _ _ (by omega), f2.i _ _ rfl, f1.i _ _ rfl]; exact m7
  have j111 : (xm_up r2.1.1 107 rb (iz v)) 111 rb = bz c := by rw [up_id _ _ (by omega), f2.i _ _ rfl, f1.i _ _ rfl]; exact m8
  have fl := fl224 (s := (xm_up r2.1.1 107 rb (iz v), r2.1.2)) m0 (o2.uw (by omega) (by omega)) j26 j109 j110 j111 false false true
  rw [bz_t, bz_f] at fl
  simp only [Bool.or_false, Bool.or_true] at fl
  refine fl.mono (fun r3 ⟨f3, q1, q2, q3, x3, o3, E3⟩ => ⟨?_, (pl, n, red, v, a, b, true, nm, hs), x3, o3, fun _ => ?_, fun γ K => ?_⟩)
  · exact ((((f1.tr f2).mono (FMt_l rb)).ui (id := 107) (k := rb) (by unfold FMl; simp)).tr (f3.mono (FMg_l rb)))
  · have base : ShM (xm_up r2.1.1 107 rb (iz v), r2.1.2) rb (pl, n, red, v, a, b, c, nm, hs) := ⟨m0, j26, (by dsimp only; rw [up_id _ _ (by omega), f2.i _ _ rfl, f1.i _ _ rfl]; exact m2), (by dsimp only; rw [up_id _ _ (by omega), f2.i _ _ rfl, f1.i _ _ rfl]; exact m3), (by dsimp only; rw [up_id _ _ (by omega), f2.i _ _ rfl, f1.i _ _ rfl]; exact m4), (by dsimp only; rw [up_eq]), j109, j110, j111, fun p hp => by dsimp only; rw [f2.l _ _ rfl, f1.l _ _ rfl]; exact m9 p hp, fun k hk => by dsimp only; rw [up_id _ _ (by omega), f2.i _ _ rfl, f1.i _ _ rfl]; exact m10 k hk⟩
    exact base.flags (σ := (pl, n, red, slip, a, b, c, nm, hs)) f3 q1 q2 q3
  · have E2' := E2 γ (fun v q2 => pBind (pSt B L q2) (fun _ q3 => K (pl, n, red, v, a, b, true, nm, hs) q3))
    have E3' := E3 γ (fun q3 => K (pl, n, red, v, a, b, true, nm, hs) q3)
    rw [← E3', ← E2']
    unfold pLs
    simp only [pBind_assoc, pBind_r]
    rfl
theorem ms_line {σ : Sh} (h : MGd s B L q) (hV : ShV σ) (hM : ShM s rb σ) : ok (f188 101 s) (lOut B L s rb (pLt B L σ q)) := by
  obtain ⟨pl, n, red, slip, a, b, c, nm, hs⟩ := σ
  have v1 : pl ≤ 4 := hV.1
  have v2 : 3 ≤ n ∧ n ≤ 5 := ⟨hV.2.1, hV.2.2.1⟩
  have hM' := hM
  obtain ⟨m0, m1, m2, m3, m4, m5, m6, m7, m8, m9, m10⟩ := hM
  dsimp only at m1 m2 m3 m4 m5 m6 m7 m8 m9 m10
  have iS := mt_isw h (w := 1936292453) (by decide)
  have iP := mt_isw h (w := 482854663269) (by decide)
  have iR := mt_isw h (w := 7497060) (by decide)
  have iL := mt_isw h (w := 1936484720) (by decide)
  have pl0 : (iz (pl : Int) ≤ (0 : Int32)) = (pl = 0) := propext ⟨fun r => by rw [iz0] at r; have := (iz_le (by omega) (by omega) (by omega) (by omega)).mp r; omega, fun r => by rw [r]; decide⟩
  have pl4 : (iz (pl : Int) = (4 : Int32)) = (pl = 4) := propext ⟨fun r => by rw [iz4] at r; have := (iz_eq (by omega) (by omega) (by omega) (by omega)).mp r; omega, fun r => by rw [r]; decide⟩
  unfold f188 pLt pLn
  rw [ifg_pos O_101]
  dsimp only
  by_cases gP : (tok B L q).1 = 1 ∧ tkW B L q = 482854663269
  · rw [if_pos gP] at iP
    have gS : ¬ ((tok B L q).1 = 1 ∧ tkW B L q = 1936292453) := fun r => absurd (gP.2.symm.trans r.2) (by decide)
    rw [if_neg gS] at iS
    have gR : ¬ ((tok B L q).1 = 1 ∧ tkW B L q = 7497060) := fun r => absurd (gP.2.symm.trans r.2) (by decide)
    rw [if_neg gR] at iR
    have gL : ¬ ((tok B L q).1 = 1 ∧ tkW B L q = 1936484720) := fun r => absurd (gP.2.symm.trans r.2) (by decide)
    rw [if_neg gL] at iL
    by_cases k : pl < 4
    · rw [if_pos ⟨gP, k⟩]
      simp only [iS, iP, iR, iL, Option.bind_some]
      rw [it_z0 rfl]
      unfold f188_65 f188_66
      rw [it_z0 rfl, it_z1 rfl]
      unfold f188_85
      rw [if_pos (show (0 : Int32) = 0 from rfl), it_z1 rfl]
      simp (disch := omega) only [R_101_12, A_105, m1, m2, Option.bind_some, iz_in, iz_n, nat_toNat, if_true]
      rw [if_neg (show ¬ iz (pl : Int) = 4 by rw [pl4]; omega)]
      unfold f188_107 f188_123
      rw [it_z0 rfl, it_z0 rfl]
      exact ms_lplate h k v2 hM'
    · rw [if_neg (fun r => k r.2), if_neg (fun r => gS r.1), if_neg (fun r => gR r.1), if_neg (fun r => gL r.1)]
      simp only [iS, iP, iR, iL, Option.bind_some]
      rw [it_z0 rfl]
      unfold f188_65 f188_66
      rw [it_z0 rfl, it_z1 rfl]
      unfold f188_85
      rw [if_pos (show (0 : Int32) = 0 from rfl), it_z1 rfl]
      simp (disch := omega) only [R_101_12, A_105, m1, m2, Option.bind_some, iz_in, iz_n, nat_toNat, if_true]
      rw [if_pos (show iz (pl : Int) = 4 by rw [pl4]; omega)]
      exact ms_lbad h (Sh0 hs) _ _ _ _
  · by_cases gS : (tok B L q).1 = 1 ∧ tkW B L q = 1936292453
    · rw [if_pos gS] at iS
      rw [if_neg gP] at iP
      have gR : ¬ ((tok B L q).1 = 1 ∧ tkW B L q = 7497060) := fun r => absurd (gS.2.symm.trans r.2) (by decide)
      rw [if_neg gR] at iR
      have gL : ¬ ((tok B L q).1 = 1 ∧ tkW B L q = 1936484720) := fun r => absurd (gS.2.symm.trans r.2) (by decide)
      rw [if_neg gL] at iL
      rw [if_neg (fun r => gP r.1)]
      simp only [iS, iP, iR, iL, Option.bind_some]
      rw [it_z1 rfl]
      simp (disch := omega) only [R_101_12, R_101_16, A_105, A_109, m1, m2, m6, Option.bind_some, iz_in, iz_n, nat_toNat, if_true]
      rw [bz_if]
      cases a with
      | true =>
        rw [if_pos (show true = true from rfl), if_neg (fun r => by cases r.2.1), if_neg (fun r => gR r.1), if_neg (fun r => gL r.1)]
        unfold f188_61 f188_66
        rw [it_z1 rfl]
        unfold f188_85
        rw [if_neg one_ne]
        exact ms_lbad h (Sh0 hs) _ _ _ _
      | false =>
        rw [if_neg (show ¬ false = true by decide)]
        by_cases k : pl = 0
        · rw [if_pos (show iz (pl : Int) ≤ 0 by rw [pl0]; exact k), if_pos ⟨gS, rfl, k⟩]
          unfold f188_65 f188_66
          rw [it_z1 rfl]
          unfold f188_85
          rw [if_pos (show (0 : Int32) = 0 from rfl), it_z0 rfl]
          unfold f188_107 f188_123
          rw [it_z0 rfl, it_z0 rfl]
          exact ms_lsize h k hM'
        · rw [if_neg (show ¬ iz (pl : Int) ≤ 0 by rw [pl0]; exact k), if_neg (fun r => k r.2.2), if_neg (fun r => gR r.1), if_neg (fun r => gL r.1)]
          unfold f188_61 f188_66
          rw [it_z1 rfl]
          unfold f188_85
          rw [if_neg one_ne]
          exact ms_lbad h (Sh0 hs) _ _ _ _
    · by_cases gR : (tok B L q).1 = 1 ∧ tkW B L q = 7497060
      · rw [if_pos gR] at iR
        rw [if_neg gP] at iP
        rw [if_neg gS] at iS
        have gL : ¬ ((tok B L q).1 = 1 ∧ tkW B L q = 1936484720) := fun r => absurd (gR.2.symm.trans r.2) (by decide)
        rw [if_neg gL] at iL
        rw [if_neg (fun r => gP r.1), if_neg (fun r => gS r.1)]
        simp only [iS, iP, iR, iL, Option.bind_some]
        rw [it_z0 rfl]
        unfold f188_65 f188_66
        rw [it_z0 rfl, it_z0 rfl, it_z1 rfl]
        unfold f188_85
        rw [if_pos (show (0 : Int32) = 0 from rfl), it_z0 rfl]
        unfold f188_107
        rw [it_z1 rfl]
        simp (disch := omega) only [R_101_17, A_110, m1, m7, Option.bind_some, iz_in, iz_n, nat_toNat, if_true]
        rw [bz_if]
        cases b with
        | true =>
          rw [if_pos (show true = true from rfl), if_neg (fun r => by cases r.2), if_neg (fun r => gL r.1)]
          exact ms_lbad h (Sh0 hs) _ _ _ _
        | false =>
          rw [if_neg (show ¬ false = true by decide), if_pos ⟨gR, rfl⟩]
          unfold f188_123
          rw [it_z0 rfl]
          exact ms_lred h hM'
      · by_cases gL : (tok B L q).1 = 1 ∧ tkW B L q = 1936484720
        · rw [if_pos gL] at iL
          rw [if_neg gP] at iP
          rw [if_neg gS] at iS
          rw [if_neg gR] at iR
          rw [if_neg (fun r => gP r.1), if_neg (fun r => gS r.1), if_neg (fun r => gR r.1)]
          simp only [iS, iP, iR, iL, Option.bind_some]
          rw [it_z0 rfl]
          unfold f188_65 f188_66
          rw [it_z0 rfl, it_z0 rfl, it_z0 rfl, it_z1 rfl]
          unfold f188_85
          rw [if_pos (show (0 : Int32) = 0 from rfl), it_z0 rfl]
          unfold f188_107 f188_123
          rw [it_z0 rfl, it_z1 rfl]
          simp (disch := omega) only [R_101_18, A_111, m1, m8, Option.bind_some, iz_in, iz_n, nat_toNat, if_true]
          rw [bz_if]
          cases c with
          | true =>
            rw [if_pos (show true = true from rfl), if_neg (fun r => by cases r.2)]
            exact ms_lbad h (Sh0 hs) _ _ _ _
          | false =>
            rw [if_neg (show ¬ false = true by decide), if_pos ⟨gL, rfl⟩]
            exact ms_lslip h hM'
        · rw [if_neg gP] at iP
          rw [if_neg gS] at iS
          rw [if_neg gR] at iR
          rw [if_neg gL] at iL
          rw [if_neg (fun r => gP r.1), if_neg (fun r => gS r.1), if_neg (fun r => gR r.1), if_neg (fun r => gL r.1)]
          simp only [iS, iP, iR, iL, Option.bind_some]
          rw [it_z0 rfl]
          unfold f188_65 f188_66
          rw [it_z0 rfl, it_z0 rfl, it_z0 rfl, it_z0 rfl]
          exact ms_lbad h (Sh0 hs) _ _ _ _
end MLi
