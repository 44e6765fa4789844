/-! the lines of a shop at the class -/
theorem pLs_map {B : Nat → Int} {L : Nat} {α : Type} (lo hi : Int) (k : Int → α) (q : Nat) : pLs B L lo hi k q = pBind (pLs B L lo hi (fun v => v) q) (fun v q => .inr (k v, q)) := by
  unfold pLs
  simp only [pBind_assoc, pBind_r]
theorem bz_ok {α : Type} {c : Int32} (h : c = iz 0 ∨ c = iz 1) {dc : Decidable (c = 0 ∨ c = 1)} (a : Option α) : @ifg α (c = 0 ∨ c = 1) dc a = a := cd0 h a
section SL
variable {s : xS} {B : Nat → Int} {L q pl n : Nat} {red slip : Int} {a b c : Bool} {nm : Nat → Int64} {hs : Nat → Int}
theorem ct_refR {α : Type} (h8 : S8 s) (h : CSt s B L q) {J : α → xS → Prop} : ok (f73_170 1 s) (fun r => R8 s r.1 ∧ cOut B L (.inl (pBad B L q)) J r) := by
  unfold f73_170
  exact (ct_ref (p := (.inl (pBad B L q) : PR α)) (J := J) h rfl).mono (fun r hr => ⟨⟨hr.1.mono FTt_p, h8.fr hr.1 (fun _ => rfl)⟩, hr.2⟩)
theorem ct_slip (h8 : S8 s) (h : CSt s B L q) (hC : ShC s (pl, n, red, slip, a, b, c, nm, hs)) : ok (f73_127 6 1 s) (fun r => R8 s r.1 ∧ cOut B L (if ((tok B L q).1 = 1 ∧ tkW B L q = 1936484720) ∧ c = false then pLs B L 0 8 (fun v => (pl, n, red, v, a, b, true, nm, hs)) (tok B L q).2.2 else .inl (pBad B L q)) (fun σ w => ShC w σ) r) := by
  have hC' := hC
  obtain ⟨d1, d2, d3, d4, d5, d6, d7, d8, d9⟩ := hC
  dsimp only at d1 d2 d3 d4 d5 d6 d7 d8 d9
  unfold f73_127
  rw [ct_isw h]
  simp only [Option.bind_some]
  by_cases g : (tok B L q).1 = 1 ∧ tkW B L q = 1936484720
  · rw [if_pos g, it_z1 rfl, d7, bz_if]
    cases c with
    | true =>
      rw [if_pos rfl, if_neg (fun r => by cases r.2)]
      exact ct_refR h8 h
    | false =>
      rw [if_neg (by decide), if_pos ⟨g, rfl⟩]
      simp only [pI, Option.bind_some]
      have k1 : fr (fun id _ => id == 6) s (xm_up s.1 6 8 1, s.2) := (fr.rf _ _).ui rfl
      have g1 : R8 s (xm_up s.1 6 8 1, s.2) := ⟨(fr.rf _ _).ui rfl, h8.fr k1 (fun _ => rfl)⟩
      have n1 := ct_set (s := (xm_up s.1 6 8 1, s.2)) (w := 1936484720) (lo := 0) (hi := 8) (h.ux (by omega) (by omega)) (by omega) (by omega) (by omega) g
      rw [← iz0, ← iz8] at n1
      refine n1.bind (fun r7 ⟨f7, o7⟩ => ?_)
      have k2 : fr (fun id _ => id == 6) r7.1 (xm_up r7.1.1 6 5 (r7.1.1 1 9), r7.1.2) := (fr.rf _ _).ui rfl
      have g2 : R8 s (xm_up r7.1.1 6 5 (r7.1.1 1 9), r7.1.2) := ⟨(g1.1.tr (f7.mono FTt_p)).ui rfl, (g1.2.fr f7 (fun _ => rfl)).fr k2 (fun _ => rfl)⟩
      rw [pLs_map]
      cases hp : pLs B L 0 8 (fun v => v) (tok B L q).2.2 with
      | inl e =>
        rw [hp] at o7
        rw [cd0 (Or.inl o7.1), ok_some, pBind_l]
        exact ⟨g2, o7.1, by dsimp only; rw [up_id _ _ (by omega)]; exact o7.2.1, by dsimp only; rw [up_id _ _ (by omega)]; exact o7.2.2⟩
      | inr y =>
        rw [hp] at o7
        rw [cd0 (Or.inr o7.1), ok_some]
        refine ⟨g2, o7.1, o7.2.1.ux (by omega) (by omega), (by dsimp only; rw [up_ix _ _ (by omega), f7.i _ _ rfl]; dsimp only; rw [up_ix _ _ (by omega)]; exact d1), (by dsimp only; rw [up_ix _ _ (by omega), f7.i _ _ rfl]; dsimp only; rw [up_ix _ _ (by omega)]; exact d2), (by dsimp only; rw [up_ix _ _ (by omega), f7.i _ _ rfl]; dsimp only; rw [up_ix _ _ (by omega)]; exact d3), (by dsimp only; rw [up_eq]; exact o7.2.2), (by dsimp only; rw [up_ix _ _ (by omega), f7.i _ _ rfl]; dsimp only; rw [up_ix _ _ (by omega)]; exact d5), (by dsimp only; rw [up_ix _ _ (by omega), f7.i _ _ rfl]; dsimp only; rw [up_ix _ _ (by omega)]; exact d6), (by dsimp only; rw [up_ix _ _ (by omega), f7.i _ _ rfl]; first | exact (up_eqP _ _ _ _ _).trans iz1 | exact (up_eq _ _ _ _).trans iz1), fun p hp => ?_, fun k hk => ?_⟩
        · dsimp only
          rw [f7.l _ _ rfl]; exact d8 p hp
        · dsimp only
          rw [up_id _ _ (by omega), f7.i _ _ rfl]; dsimp only; rw [up_id _ _ (by omega)]; exact d9 k hk
  · rw [if_neg g, it_z0 rfl, if_neg (fun r => g r.1)]
    exact ct_refR h8 h
theorem ct_red (h8 : S8 s) (h : CSt s B L q) (hC : ShC s (pl, n, red, slip, a, b, c, nm, hs)) : ok (f73_84 6 1 s) (fun r => R8 s r.1 ∧ cOut B L (if ((tok B L q).1 = 1 ∧ tkW B L q = 7497060) ∧ b = false then pLs B L 0 20 (fun v => (pl, n, v, slip, a, true, c, nm, hs)) (tok B L q).2.2 else (if ((tok B L q).1 = 1 ∧ tkW B L q = 1936484720) ∧ c = false then pLs B L 0 8 (fun v => (pl, n, red, v, a, b, true, nm, hs)) (tok B L q).2.2 else .inl (pBad B L q))) (fun σ w => ShC w σ) r) := by
  have hC' := hC
  obtain ⟨d1, d2, d3, d4, d5, d6, d7, d8, d9⟩ := hC
  dsimp only at d1 d2 d3 d4 d5 d6 d7 d8 d9
  unfold f73_84
  rw [ct_isw h]
  simp only [Option.bind_some]
  by_cases g : (tok B L q).1 = 1 ∧ tkW B L q = 7497060
  · rw [if_pos g, it_z1 rfl, d6, bz_if]
    cases b with
    | true =>
      rw [if_pos rfl, if_neg (fun r => by cases r.2)]
      exact ct_slip h8 h hC'
    | false =>
      rw [if_neg (by decide), if_pos ⟨g, rfl⟩]
      simp only [pI, Option.bind_some]
      have k1 : fr (fun id _ => id == 6) s (xm_up s.1 6 7 1, s.2) := (fr.rf _ _).ui rfl
      have g1 : R8 s (xm_up s.1 6 7 1, s.2) := ⟨(fr.rf _ _).ui rfl, h8.fr k1 (fun _ => rfl)⟩
      have n1 := ct_set (s := (xm_up s.1 6 7 1, s.2)) (w := 7497060) (lo := 0) (hi := 20) (h.ux (by omega) (by omega)) (by omega) (by omega) (by omega) g
      rw [← iz0, ← iz20] at n1
      refine n1.bind (fun r7 ⟨f7, o7⟩ => ?_)
      have k2 : fr (fun id _ => id == 6) r7.1 (xm_up r7.1.1 6 4 (r7.1.1 1 9), r7.1.2) := (fr.rf _ _).ui rfl
      have g2 : R8 s (xm_up r7.1.1 6 4 (r7.1.1 1 9), r7.1.2) := ⟨(g1.1.tr (f7.mono FTt_p)).ui rfl, (g1.2.fr f7 (fun _ => rfl)).fr k2 (fun _ => rfl)⟩
      rw [pLs_map]
      cases hp : pLs B L 0 20 (fun v => v) (tok B L q).2.2 with
      | inl e =>
        rw [hp] at o7
        rw [cd0 (Or.inl o7.1), ok_some, pBind_l]
        exact ⟨g2, o7.1, by dsimp only; rw [up_id _ _ (by omega)]; exact o7.2.1, by dsimp only; rw [up_id _ _ (by omega)]; exact o7.2.2⟩
      | inr y =>
        rw [hp] at o7
        rw [cd0 (Or.inr o7.1), ok_some]
        refine ⟨g2, o7.1, o7.2.1.ux (by omega) (by omega), (by dsimp only; rw [up_ix _ _ (by omega), f7.i _ _ rfl]; dsimp only; rw [up_ix _ _ (by omega)]; exact d1), (by dsimp only; rw [up_ix _ _ (by omega), f7.i _ _ rfl]; dsimp only; rw [up_ix _ _ (by omega)]; exact d2), (by dsimp only; rw [up_eq]; exact o7.2.2), (by dsimp only; rw [up_ix _ _ (by omega), f7.i _ _ rfl]; dsimp only; rw [up_ix _ _ (by omega)]; exact d4), (by dsimp only; rw [up_ix _ _ (by omega), f7.i _ _ rfl]; dsimp only; rw [up_ix _ _ (by omega)]; exact d5), (by dsimp only; rw [up_ix _ _ (by omega), f7.i _ _ rfl]; first | exact (up_eqP _ _ _ _ _).trans iz1 | exact (up_eq _ _ _ _).trans iz1), (by dsimp only; rw [up_ix _ _ (by omega), f7.i _ _ rfl]; dsimp only; rw [up_ix _ _ (by omega)]; exact d7), fun p hp => ?_, fun k hk => ?_⟩
        · dsimp only
          rw [f7.l _ _ rfl]; exact d8 p hp
        · dsimp only
          rw [up_id _ _ (by omega), f7.i _ _ rfl]; dsimp only; rw [up_id _ _ (by omega)]; exact d9 k hk
  · rw [if_neg g, it_z0 rfl, if_neg (fun r => g r.1)]
    exact ct_slip h8 h hC'
theorem ct_size (h8 : S8 s) (h : CSt s B L q) (hpl : pl ≤ 4) (hC : ShC s (pl, n, red, slip, a, b, c, nm, hs)) : ok (f73_24 6 1 s) (fun r => R8 s r.1 ∧ cOut B L (if ((tok B L q).1 = 1 ∧ tkW B L q = 1936292453) ∧ a = false ∧ pl = 0 then pLs B L 3 5 (fun v => (pl, v.toNat, red, slip, true, b, c, nm, hs)) (tok B L q).2.2 else (if ((tok B L q).1 = 1 ∧ tkW B L q = 7497060) ∧ b = false then pLs B L 0 20 (fun v => (pl, n, v, slip, a, true, c, nm, hs)) (tok B L q).2.2 else (if ((tok B L q).1 = 1 ∧ tkW B L q = 1936484720) ∧ c = false then pLs B L 0 8 (fun v => (pl, n, red, v, a, b, true, nm, hs)) (tok B L q).2.2 else .inl (pBad B L q)))) (fun σ w => ShC w σ) r) := by
  have hC' := hC
  obtain ⟨d1, d2, d3, d4, d5, d6, d7, d8, d9⟩ := hC
  dsimp only at d1 d2 d3 d4 d5 d6 d7 d8 d9
  have tl := tok_le (B := B) h.2.1
  unfold f73_24 f73_79
  rw [ct_isw h]
  simp only [Option.bind_some]
  by_cases g : (tok B L q).1 = 1 ∧ tkW B L q = 1936292453
  · rw [if_pos g, it_z1 rfl, d5, bz_if]
    cases a with
    | true =>
      rw [if_pos rfl, if_neg (fun r => by cases r.2.1)]
      exact ct_red h8 h hC'
    | false =>
      rw [if_neg (by decide), d1]
      by_cases p0 : pl = 0
      · rw [if_pos (show iz (pl : Int) = 0 by rw [p0]; rfl), if_pos ⟨g, rfl, p0⟩]
        simp only [pI, Option.bind_some]
        have k1 : fr (fun id _ => id == 6) s (xm_up s.1 6 6 1, s.2) := (fr.rf _ _).ui rfl
        have g1 : R8 s (xm_up s.1 6 6 1, s.2) := ⟨(fr.rf _ _).ui rfl, h8.fr k1 (fun _ => rfl)⟩
        have n1 := ct_set (s := (xm_up s.1 6 6 1, s.2)) (w := 1936292453) (lo := 3) (hi := 5) (h.ux (by omega) (by omega)) (by omega) (by omega) (by omega) g
        rw [← iz3, ← iz5] at n1
        refine n1.bind (fun r7 ⟨f7, o7⟩ => ?_)
        have g2 : ∀ v, R8 s (xm_up r7.1.1 6 3 v, r7.1.2) := fun v => ⟨(g1.1.tr (f7.mono FTt_p)).ui rfl, (g1.2.fr f7 (fun _ => rfl)).fr (F := fun id _ => id == 6) ((fr.rf _ _).ui rfl) (fun _ => rfl)⟩
        rw [pLs_map]
        cases hp : pLs B L 3 5 (fun v => v) (tok B L q).2.2 with
        | inl e =>
          rw [hp] at o7
          rw [it_z0 o7.1, cd0 (Or.inl o7.1), ok_some, pBind_l]
          exact ⟨g2 _, o7.1, by dsimp only; rw [up_id _ _ (by omega)]; exact o7.2.1, by dsimp only; rw [up_id _ _ (by omega)]; exact o7.2.2⟩
        | inr y =>
          rw [hp] at o7
          rw [it_z1 o7.1, cd0 (Or.inr o7.1), ok_some]
          obtain ⟨b1, b2, v, b5, b3, b4⟩ := pLs_q tl.2.2.1 hp
          refine ⟨g2 _, o7.1, o7.2.1.ux (by omega) (by omega), (by dsimp only; rw [up_ix _ _ (by omega), f7.i _ _ rfl]; dsimp only; rw [up_ix _ _ (by omega)]; exact d1), (by dsimp only; rw [up_eq, o7.2.2]; congr 1; omega), (by dsimp only; rw [up_ix _ _ (by omega), f7.i _ _ rfl]; dsimp only; rw [up_ix _ _ (by omega)]; exact d3), (by dsimp only; rw [up_ix _ _ (by omega), f7.i _ _ rfl]; dsimp only; rw [up_ix _ _ (by omega)]; exact d4), (by dsimp only; rw [up_ix _ _ (by omega), f7.i _ _ rfl]; first | exact (up_eqP _ _ _ _ _).trans iz1 | exact (up_eq _ _ _ _).trans iz1), (by dsimp only; rw [up_ix _ _ (by omega), f7.i _ _ rfl]; dsimp only; rw [up_ix _ _ (by omega)]; exact d6), (by dsimp only; rw [up_ix _ _ (by omega), f7.i _ _ rfl]; dsimp only; rw [up_ix _ _ (by omega)]; exact d7), fun p hp => ?_, fun k hk => ?_⟩
          · dsimp only at hp ⊢
            omega
          · dsimp only
            rw [up_id _ _ (by omega), f7.i _ _ rfl]; dsimp only; rw [up_id _ _ (by omega)]; exact d9 k hk
      · rw [iz0, it_eq_f (by omega) (by omega) (by omega) (by omega) (by omega), if_neg (fun r => p0 r.2.2)]
        exact ct_red h8 h hC'
  · rw [if_neg g, it_z0 rfl, if_neg (fun r => g r.1)]
    exact ct_red h8 h hC'
theorem ct_line {σ : Sh} (h8 : S8 s) (h : CSt s B L q) (hV : ShV σ) (hC : ShC s σ) : ok (f73 6 1 s) (fun r => R8 s r.1 ∧ cOut B L (pLt B L σ q) (fun σ w => ShC w σ) r) := by
  obtain ⟨pl, n, red, slip, a, b, c, nm, hs⟩ := σ
  have hpl : pl ≤ 4 := hV.1
  have d1 : s.1 6 2 = iz pl := hC.1
  unfold f73 pLt pLn
  rw [ifg_pos O_6, ifg_pos O_1, ct_isw h]
  simp only [Option.bind_some]
  by_cases g : (tok B L q).1 = 1 ∧ tkW B L q = 482854663269
  · rw [if_pos g, it_z1 rfl, d1, iz4]
    by_cases k : pl < 4
    · rw [it_le_f (by omega) (by omega) (by omega), if_pos ⟨g, k⟩]
      refine (ct_plate k hV h8 h g hC).bind (fun r ⟨o1, o2⟩ => ?_)
      have o3 : r.2 = iz 0 ∨ r.2 = iz 1 := by
        revert o2
        cases pLp B L pl n red slip a b c nm hs (tok B L q).2.2 with
        | inl e => exact fun o2 => Or.inl o2.1
        | inr y => exact fun o2 => Or.inr o2.1
      rw [cd0 o3, ok_some]
      exact ⟨o1, o2⟩
    · rw [it_le_t (by omega) (by omega) (by omega), if_neg (fun r => k r.2)]
      exact ct_size h8 h hpl hC
  · rw [if_neg g, it_z0 rfl, if_neg (fun r => g r.1)]
    exact ct_size h8 h hpl hC
theorem ct_lines (hL : L ≤ 1200) : ∀ f i σ q w, i + f = 1201 → i ≤ q → R8 s w → CSt w B L q → ShV σ → ShC w σ → ok (whl (fun z : Int32 × xS => f72_37 6 1 z.1 z.2) (iz (i : Nat), w)) (fun r => R8 s r.1 ∧ cOut B L (pSh B L f σ q) (fun σ w => ShC w σ ∧ ShV σ) r)
  | 0, i, σ, q, w, hi, hq, hR, h, hV, hC => by have := h.2.1; omega
  | f + 1, i, σ, q, w, hi, hq, hR, h, hV, hC => by
    by_cases g : (tok B L q).1 = 0
    · have e0 : pSh B L (f + 1) σ q = .inr (σ, q) := by unfold pSh; rw [if_pos g]
      rw [e0]
      refine whl_ok (fun Z hl hr => ?_)
      dsimp only
      unfold f72_37
      rw [iz1200, it_lt_f (by omega) (by omega) (by omega), ct_end h]
      simp only [Option.bind_some]
      rw [if_pos g, it_z1 rfl, ok_map, ok_some]
      exact hr _ ⟨hR, iz1, h, hC, hV⟩
    · have e0 : pSh B L (f + 1) σ q = pBind (pLt B L σ q) (fun σ' q' => pSh B L f σ' q') := by conv => lhs; unfold pSh; rw [if_neg g]
      rw [e0]
      refine whl_ok (fun Z hl hr => ?_)
      dsimp only
      unfold f72_37
      rw [iz1200, it_lt_f (by omega) (by omega) (by omega), ct_end h]
      simp only [Option.bind_some]
      rw [if_neg g, it_z0 rfl]
      refine (ct_line hR.2 h hV hC).bind (fun r ⟨o1, o2⟩ => ?_)
      have g1 : R8 s r.1 := ⟨hR.1.tr o1.1, o1.2⟩
      cases hp : pLt B L σ q with
      | inl e =>
        rw [hp] at o2 hr
        rw [it_z0 o2.1, ok_map, ok_some]
        exact hr _ ⟨g1, iz0, o2.2⟩
      | inr y =>
        rw [hp] at o2 hl
        obtain ⟨b1, b2, b3⟩ := pLt_q h.2.1 hV hp
        rw [it_z1 o2.1, ok_some, iz1, iz_add]
        exact hl _ (ct_lines hL f (i + 1) y.1 y.2 r.1 (by omega) (by omega) g1 o2.2.1 b3 o2.2.2)
/-- the shop that a text begins from -/
def Sh0 (hs : Nat → Int) : Sh := (0, 3, 0, 0, false, false, false, (fun _ => 0), hs)
theorem ct_shop {hs : Nat → Int} (hL : L ≤ 1200) (h8 : ∀ k, k < 100 → s.1 8 k = iz (hs k)) (hb : ∀ k, k < 100 → -99 ≤ hs k ∧ hs k ≤ 99) (h : CSt s B L 0) : ok (f72 6 1 s) (fun r => R8 s r.1 ∧ cOut B L (pSh B L 1201 (Sh0 hs) 0) (fun σ w => ShC w σ ∧ ShV σ) r) := by
  unfold f72
  rw [ifg_pos O_6, ifg_pos O_1]
  simp only [pI, Option.bind_some]
  rw [show ((0 : Int32), ((xm_up (xm_up (xm_up (xm_up (xm_up (xm_up (xm_up s.1 6 2 0) 6 3 3) 6 4 0) 6 5 0) 6 6 0) 6 7 0) 6 8 0, s.2) : xS)) = (iz ((0 : Nat) : Int), (xm_up (xm_up (xm_up (xm_up (xm_up (xm_up (xm_up s.1 6 2 0) 6 3 3) 6 4 0) 6 5 0) 6 6 0) 6 7 0) 6 8 0, s.2)) from congrArg (fun z => (z, _)) iz0]
  have k1 : fr (fun id _ => id == 6) s (xm_up (xm_up (xm_up (xm_up (xm_up (xm_up (xm_up s.1 6 2 0) 6 3 3) 6 4 0) 6 5 0) 6 6 0) 6 7 0) 6 8 0, s.2) := (((((((fr.rf _ _).ui rfl).ui rfl).ui rfl).ui rfl).ui rfl).ui rfl).ui rfl
  have k2 : fr FCp s (xm_up (xm_up (xm_up (xm_up (xm_up (xm_up (xm_up s.1 6 2 0) 6 3 3) 6 4 0) 6 5 0) 6 6 0) 6 7 0) 6 8 0, s.2) := (((((((fr.rf _ _).ui rfl).ui rfl).ui rfl).ui rfl).ui rfl).ui rfl).ui rfl
  have h80 : S8 s := fun k hk => ⟨hs k, h8 k hk, hb k hk⟩
  refine ct_lines hL 1201 0 (Sh0 hs) 0 _ (by omega) (by omega) ⟨k2, h80.fr k1 (fun _ => rfl)⟩ (h.fr k1 (fun _ => rfl) (fun _ => rfl)) ⟨Nat.zero_le 4, Nat.le_refl 3, Nat.le_add_right 3 2, Int.le_refl 0, (show (0 : Int) ≤ 20 by decide), Int.le_refl 0, (show (0 : Int) ≤ 8 by decide), hb⟩ ⟨?_, ?_, ?_, ?_, ?_, ?_, ?_, fun p hp => absurd hp (Nat.not_lt_zero p), fun k hk => by rw [k1.i _ _ rfl]; exact h8 k hk⟩
  · simp (disch := omega) only [up_ix, up_eq]; exact iz0
  · simp (disch := omega) only [up_ix, up_eq]; exact iz3
  · simp (disch := omega) only [up_ix, up_eq]; exact iz0
  · simp (disch := omega) only [up_ix, up_eq]; exact iz0
  · simp (disch := omega) only [up_ix, up_eq]; exact iz0
  · simp (disch := omega) only [up_ix, up_eq]; exact iz0
  · simp (disch := omega) only [up_eq]; exact iz0
end SL
