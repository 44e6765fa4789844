/-! a shop: pure; at the class -/
abbrev Sh : Type := Nat × Nat × Int × Int × Bool × Bool × Bool × (Nat → Int64) × (Nat → Int)
def bz (c : Bool) : Int32 := if c = true then iz 1 else iz 0
theorem bz_t : bz true = iz 1 := rfl
theorem bz_f : bz false = iz 0 := rfl
section SG
variable (B : Nat → Int) (L : Nat)
/-- numbers from place k on -/
def pCl : Nat → Nat → (Nat → Int) → Nat → PR (Nat → Int)
  | 0, _, hs, q => .inr (hs, q)
  | m + 1, k, hs, q => pBind (pNu B L true (-99) 99 q) (fun v q => pCl m (k + 1) (fun i => if i = k then v else hs i) q)
def pLp (pl n : Nat) (red slip : Int) (a b c : Bool) (nm : Nat → Int64) (hs : Nat → Int) (q : Nat) : PR Sh := pBind (pNm B L q) (fun w q => if 0 ≤ fnd nm w.1 pl then .inl (3, w.2) else pBind (pCl B L (n * n) (25 * pl) hs q) (fun hs' q => pBind (pSt B L q) (fun _ q => .inr ((pl + 1, n, red, slip, a, b, c, (fun i => if i = pl then w.1 else nm i), hs'), q))))
def pLs {α : Type} (lo hi : Int) (k : Int → α) (q : Nat) : PR α := pBind (pNu B L false lo hi q) (fun v q => pBind (pSt B L q) (fun _ q => .inr (k v, q)))
def pLn (pl n : Nat) (red slip : Int) (a b c : Bool) (nm : Nat → Int64) (hs : Nat → Int) (q : Nat) : PR Sh :=
  if ((tok B L q).1 = 1 ∧ tkW B L q = 482854663269) ∧ pl < 4 then pLp B L pl n red slip a b c nm hs (tok B L q).2.2
  else if ((tok B L q).1 = 1 ∧ tkW B L q = 1936292453) ∧ a = false ∧ pl = 0 then pLs B L 3 5 (fun v => (pl, v.toNat, red, slip, true, b, c, nm, hs)) (tok B L q).2.2
  else if ((tok B L q).1 = 1 ∧ tkW B L q = 7497060) ∧ b = false then pLs B L 0 20 (fun v => (pl, n, v, slip, a, true, c, nm, hs)) (tok B L q).2.2
  else if ((tok B L q).1 = 1 ∧ tkW B L q = 1936484720) ∧ c = false then pLs B L 0 8 (fun v => (pl, n, red, v, a, b, true, nm, hs)) (tok B L q).2.2
  else .inl (pBad B L q)
def pLt (σ : Sh) (q : Nat) : PR Sh := pLn B L σ.1 σ.2.1 σ.2.2.1 σ.2.2.2.1 σ.2.2.2.2.1 σ.2.2.2.2.2.1 σ.2.2.2.2.2.2.1 σ.2.2.2.2.2.2.2.1 σ.2.2.2.2.2.2.2.2 q
def pSh : Nat → Sh → Nat → PR Sh
  | 0, _, _ => .inl (0, 0)
  | f + 1, σ, q => if (tok B L q).1 = 0 then .inr (σ, q) else pBind (pLt B L σ q) (fun σ' q' => pSh f σ' q')
end SG
/-- what a shop may be -/
def ShV (σ : Sh) : Prop := σ.1 ≤ 4 ∧ 3 ≤ σ.2.1 ∧ σ.2.1 ≤ 5 ∧ 0 ≤ σ.2.2.1 ∧ σ.2.2.1 ≤ 20 ∧ 0 ≤ σ.2.2.2.1 ∧ σ.2.2.2.1 ≤ 8 ∧ ∀ k, k < 100 → -99 ≤ σ.2.2.2.2.2.2.2.2 k ∧ σ.2.2.2.2.2.2.2.2 k ≤ 99
section SV
variable {B : Nat → Int} {L : Nat}
theorem pCl_q : ∀ m k hs q, q ≤ L → (∀ i, i < 100 → -99 ≤ hs i ∧ hs i ≤ 99) → ∀ hs' q', pCl B L m k hs q = .inr (hs', q') → q ≤ q' ∧ q' ≤ L ∧ ∀ i, i < 100 → -99 ≤ hs' i ∧ hs' i ≤ 99
  | 0, k, hs, q, hq, hb, hs', q', h => by
    unfold pCl at h
    cases h
    exact ⟨Nat.le_refl _, hq, hb⟩
  | m + 1, k, hs, q, hq, hb, hs', q', h => by
    unfold pCl at h
    obtain ⟨v, q1, h1, h2⟩ := pBind_inr h
    have a := pNu_q hq h1
    dsimp only at a
    have := pCl_q m (k + 1) _ q1 a.2.1 (fun i hi => by
      by_cases e : i = k
      · rw [if_pos e]; exact a.2.2
      · rw [if_neg e]; exact hb i hi) hs' q' h2
    exact ⟨by omega, this.2⟩
theorem pLs_q {α : Type} {lo hi : Int} {k : Int → α} {q : Nat} (hq : q ≤ L) {y : α} {q' : Nat} (h : pLs B L lo hi k q = .inr (y, q')) : q < q' ∧ q' ≤ L ∧ ∃ v, y = k v ∧ lo ≤ v ∧ v ≤ hi := by
  unfold pLs at h
  obtain ⟨v, q1, h1, h⟩ := pBind_inr h
  obtain ⟨_, q2, h2, h⟩ := pBind_inr h
  cases h
  have a := pNu_q hq h1
  have b := pSt_q a.2.1 h2
  dsimp only at a b
  exact ⟨by omega, b.2, v, rfl, a.2.2⟩
theorem pLt_q {σ : Sh} {q : Nat} (hq : q ≤ L) (hV : ShV σ) {σ' : Sh} {q' : Nat} (h : pLt B L σ q = .inr (σ', q')) : q < q' ∧ q' ≤ L ∧ ShV σ' := by
  obtain ⟨pl, n, red, slip, a, b, c, nm, hs⟩ := σ
  obtain ⟨v1, v2, v3, v4, v5, v6, v7, v8⟩ := hV
  dsimp only at v1 v2 v3 v4 v5 v6 v7 v8
  obtain ⟨t1, t2, t3, t4, t5⟩ := tok_le (B := B) hq
  unfold pLt pLn at h
  dsimp only at h
  split at h
  · rename_i g
    have t4 := t4 (by omega)
    unfold pLp at h
    obtain ⟨w, q1, h1, h⟩ := pBind_inr h
    have a1 := pNm_q t3 h1
    dsimp only at a1
    split at h
    · cases h
    · obtain ⟨hs', q2, h2, h⟩ := pBind_inr h
      obtain ⟨_, q3, h3, h⟩ := pBind_inr h
      cases h
      have a2 := pCl_q _ _ hs q1 a1.2 v8 hs' q2 h2
      have a3 := pSt_q a2.2.1 h3
      dsimp only at a3
      exact ⟨by omega, a3.2, by dsimp only; omega, v2, v3, v4, v5, v6, v7, a2.2.2⟩
  · split at h
    · rename_i g
      have t4 := t4 (by omega)
      obtain ⟨b1, b2, v, rfl, b3, b4⟩ := pLs_q t3 h
      exact ⟨by omega, b2, v1, by dsimp only; omega, by dsimp only; omega, v4, v5, v6, v7, v8⟩
    · split at h
      · rename_i g
        have t4 := t4 (by omega)
        obtain ⟨b1, b2, v, rfl, b3, b4⟩ := pLs_q t3 h
        exact ⟨by omega, b2, v1, v2, v3, b3, b4, v6, v7, v8⟩
      · split at h
        · rename_i g
          have t4 := t4 (by omega)
          obtain ⟨b1, b2, v, rfl, b3, b4⟩ := pLs_q t3 h
          exact ⟨by omega, b2, v1, v2, v3, v4, v5, b3, b4, v8⟩
        · cases h
end SV
/-- spare heights stay small -/
def S8 (s : xS) : Prop := ∀ k, k < 100 → ∃ z : Int, s.1 8 k = iz z ∧ -99 ≤ z ∧ z ≤ 99
theorem S8.fr {F : Nat → Nat → Bool} {s s' : xS} (h : S8 s) (hf : fr F s s') (h1 : ∀ k, F 8 k = false) : S8 s' := fun k hk => by rw [hf.i _ _ (h1 k)]; exact h k hk
/-- the class's spare shop -/
def ShC (s : xS) (σ : Sh) : Prop := s.1 6 2 = iz σ.1 ∧ s.1 6 3 = iz σ.2.1 ∧ s.1 6 4 = iz σ.2.2.1 ∧ s.1 6 5 = iz σ.2.2.2.1 ∧ s.1 6 6 = bz σ.2.2.2.2.1 ∧ s.1 6 7 = bz σ.2.2.2.2.2.1 ∧ s.1 6 8 = bz σ.2.2.2.2.2.2.1 ∧ (∀ p, p < σ.1 → s.2 7 p = σ.2.2.2.2.2.2.2.1 p) ∧ ∀ k, k < 100 → s.1 8 k = iz (σ.2.2.2.2.2.2.2.2 k)
theorem ShC.fr {F : Nat → Nat → Bool} {s s' : xS} {σ : Sh} (h : ShC s σ) (hf : fr F s s') (h1 : ∀ k, F 6 k = false) (h2 : ∀ k, F 7 k = false) (h3 : ∀ k, F 8 k = false) : ShC s' σ := by
  obtain ⟨a1, a2, a3, a4, a5, a6, a7, a8, a9⟩ := h
  exact ⟨by rw [hf.i _ _ (h1 _)]; exact a1, by rw [hf.i _ _ (h1 _)]; exact a2, by rw [hf.i _ _ (h1 _)]; exact a3, by rw [hf.i _ _ (h1 _)]; exact a4, by rw [hf.i _ _ (h1 _)]; exact a5, by rw [hf.i _ _ (h1 _)]; exact a6, by rw [hf.i _ _ (h1 _)]; exact a7, fun p hp => by rw [hf.l _ _ (h2 _)]; exact a8 p hp, fun k hk => by rw [hf.i _ _ (h3 _)]; exact a9 k hk⟩
theorem bz_t0 : ¬ bz true = 0 := by decide
theorem bz_f0 : bz false = 0 := by decide
theorem bz_if {α : Type} {x y : α} {c : Bool} {dc : Decidable (bz c = 0)} : @ite α (bz c = 0) dc x y = if c = true then y else x := by
  cases c with
  | true => rw [if_neg bz_t0, if_pos rfl]
  | false => rw [if_pos bz_f0, if_neg (by decide)]
def R8 (s w : xS) : Prop := fr FCp s w ∧ S8 w
section SC
variable {s : xS} {B : Nat → Int} {L : Nat}
theorem ct_cells {pl n : Nat} (hpl : pl < 4) (hn : 3 ≤ n ∧ n ≤ 5) : ∀ m i hs q w, i + m = n * n → R8 s w → CSt w B L q → w.1 6 2 = iz pl → w.1 6 3 = iz n → (∀ k, k < 100 → w.1 8 k = iz (hs k)) → (∀ k, k < 100 → -99 ≤ hs k ∧ hs k ≤ 99) → ok (whl (fun z : Int32 × xS => f75_56 6 1 z.1 z.2) (iz (i : Nat), w)) (fun r => R8 s r.1 ∧ cOut B L (pBind (pCl B L m (25 * pl + i) hs q) (fun hs' q => pBind (pSt B L q) (fun _ q => .inr (hs', q)))) (fun hs' z => z.1 6 2 = iz ((pl + 1 : Nat) : Int) ∧ (∀ k, 3 ≤ k → z.1 6 k = w.1 6 k) ∧ (∀ k, z.2 7 k = w.2 7 k) ∧ ∀ k, k < 100 → z.1 8 k = iz (hs' k)) r)
  | 0, i, hs, q, w, hi, hR, h, h2, h3, h8, hb => by
    have nn : n * n ≤ 25 := by rcases (show n = 3 ∨ n = 4 ∨ n = 5 by omega) with rfl | rfl | rfl <;> omega
    have e0 : pCl B L 0 (25 * pl + i) hs q = .inr (hs, q) := by unfold pCl; rfl
    rw [e0, pBind_r]
    refine whl_ok (fun Z hl hr => ?_)
    dsimp only
    unfold f75_56 f68
    rw [ifg_pos O_6, h3, iz_mul]
    simp only [Option.bind_some, pI]
    rw [show ((n : Int) * n) = ((n * n : Nat) : Int) from rfl, it_le_t (by omega) (by omega) (by omega), ok_map, h2, iz1, iz_add]
    refine (ct_stop (h.ux (x0 := 6) (k := 2) (v := iz ((pl : Int) + 1)) (by omega) (by omega))).bind (fun r ⟨f1, o1⟩ => ?_)
    have g1 : R8 s r.1 := ⟨(hR.1.ui rfl).tr (f1.mono FTt_p), (hR.2.fr (F := fun id _ => id == 6) ((fr.rf _ _).ui rfl) (fun _ => rfl)).fr f1 (fun _ => rfl)⟩
    cases hp : pSt B L q with
    | inl e =>
      rw [hp] at o1 hr
      rw [ifg_pos (show r.2 = 0 ∨ r.2 = iz 1 from Or.inl (o1.1.trans iz0.symm)), ok_some]
      exact hr _ ⟨g1, o1⟩
    | inr y =>
      rw [hp] at o1 hr
      rw [ifg_pos (show r.2 = 0 ∨ r.2 = iz 1 from Or.inr o1.1), ok_some]
      refine hr _ ⟨g1, o1.1, o1.2.1, ?_, fun k hk => ?_, fun k => ?_, fun k hk => ?_⟩
      · rw [f1.i _ _ rfl]; first | exact up_eqP _ _ _ _ _ | exact up_eq _ _ _ _
      · rw [f1.i _ _ rfl]; dsimp only; rw [up_ix _ _ (by omega)]
      · rw [f1.l _ _ rfl]
      · rw [f1.i _ _ rfl]; dsimp only; rw [up_id _ _ (by omega)]; exact h8 k hk
  | m + 1, i, hs, q, w, hi, hR, h, h2, h3, h8, hb => by
    have nn : n * n ≤ 25 := by rcases (show n = 3 ∨ n = 4 ∨ n = 5 by omega) with rfl | rfl | rfl <;> omega
    have e0 : pCl B L (m + 1) (25 * pl + i) hs q = pBind (pNu B L true (-99) 99 q) (fun v q => pCl B L m (25 * pl + i + 1) (fun k => if k = 25 * pl + i then v else hs k) q) := by conv => lhs; unfold pCl
    rw [e0, pBind_assoc]
    refine whl_ok (fun Z hl hr => ?_)
    dsimp only
    unfold f75_56 f68
    rw [ifg_pos O_6, h3, iz_mul]
    simp only [Option.bind_some]
    rw [show ((n : Int) * n) = ((n * n : Nat) : Int) from rfl, it_le_f (by omega) (by omega) (by omega)]
    have n1 := ct_num (sd := true) (lo := -99) (hi := 99) h (by omega) (by omega) (by omega)
    rw [← iz99, show iz (-99) = (-99 : Int32) by decide, if_pos rfl] at n1
    refine n1.bind (fun r ⟨f1, o1⟩ => ?_)
    have g1 : R8 s r.1 := ⟨hR.1.tr (f1.mono FTt_p), hR.2.fr f1 (fun _ => rfl)⟩
    cases hp : pNu B L true (-99) 99 q with
    | inl e =>
      rw [hp] at o1 hr
      rw [it_z0 o1.1, ok_map, ok_some]
      exact hr _ ⟨g1, iz0, o1.2⟩
    | inr y =>
      rw [hp] at o1 hl
      obtain ⟨p1, p2, p3⟩ := o1
      have yb := (pNu_q h.2.1 hp).2.2
      rw [it_z1 p1]
      have e2 : r.1.1 6 2 = iz pl := by rw [f1.i _ _ rfl]; exact h2
      have en : ((pl : Int) * 25 + i).toNat = 25 * pl + i := by omega
      simp (disch := omega) only [R_6_1, W_8, Option.bind_some, e2, p3, iz25, iz_mul, iz_add, iz_in, iz_n, nat_toNat, en, if_true, iz1]
      rw [ok_some]
      refine hl _ ?_
      have k8 : fr (fun id _ => id == 8) r.1 (xm_up r.1.1 8 (25 * pl + i) (iz y.1), r.1.2) := (fr.rf _ _).ui rfl
      have := ct_cells hpl hn m (i + 1) (fun k => if k = 25 * pl + i then y.1 else hs k) y.2 (xm_up r.1.1 8 (25 * pl + i) (iz y.1), r.1.2) (by omega) ⟨g1.1.ui rfl, fun k hk => ?_⟩ (p2.ux (by omega) (by omega)) (by rw [k8.i _ _ rfl]; exact e2) (by rw [k8.i _ _ rfl, f1.i _ _ rfl]; exact h3) (fun k hk => ?_) (fun k hk => ?_)
      · refine this.mono (fun z hz => ⟨hz.1, ?_⟩)
        have hz2 := hz.2
        revert hz2
        rw [pBind_r, show 25 * pl + (i + 1) = 25 * pl + i + 1 by omega]
        cases (pBind (pCl B L m (25 * pl + i + 1) (fun k => if k = 25 * pl + i then y.1 else hs k) y.2) fun hs' q => pBind (pSt B L q) fun _ q => (.inr (hs', q) : PR (Nat → Int))) with
        | inl e => exact fun hz2 => hz2
        | inr v => exact fun ⟨z1, z2, z3, z4, z5, z6⟩ => ⟨z1, z2, z3, fun k hk => (z4 k hk).trans (by rw [k8.i _ _ rfl, f1.i _ _ rfl]), fun k => (z5 k).trans (by rw [k8.l _ _ rfl, f1.l _ _ rfl]), z6⟩
      · by_cases e : k = 25 * pl + i
        · exact ⟨y.1, by dsimp only; rw [e, up_eq], yb⟩
        · obtain ⟨z, z1, z2⟩ := g1.2 k hk
          exact ⟨z, by dsimp only; rw [up_ix _ _ e]; exact z1, z2⟩
      · dsimp only
        by_cases e : k = 25 * pl + i
        · rw [e, up_eq, if_pos rfl]
        · rw [up_ix _ _ e, if_neg e, f1.i _ _ rfl]; exact h8 k hk
      · by_cases e : k = 25 * pl + i
        · rw [if_pos e]; exact yb
        · rw [if_neg e]; exact hb k hk
theorem ct_plate {pl n : Nat} {red slip : Int} {a b c : Bool} {nm : Nat → Int64} {hs : Nat → Int} {q : Nat} (hpl : pl < 4) (hV : ShV (pl, n, red, slip, a, b, c, nm, hs)) (h8 : S8 s) (h : CSt s B L q) (hw : (tok B L q).1 = 1 ∧ tkW B L q = 482854663269) (hC : ShC s (pl, n, red, slip, a, b, c, nm, hs)) : ok (f75 6 1 s) (fun r => R8 s r.1 ∧ cOut B L (pLp B L pl n red slip a b c nm hs (tok B L q).2.2) (fun σ w => ShC w σ) r) := by
  obtain ⟨v1, v2, v3, v4, v5, v6, v7, v8⟩ := hV
  dsimp only at v1 v2 v3 v4 v5 v6 v7 v8
  have ew : pWd B L 482854663269 q = .inr ((), (tok B L q).2.2) := by unfold pWd; rw [if_pos hw]
  have el : pLp B L pl n red slip a b c nm hs (tok B L q).2.2 = pBind (pWd B L 482854663269 q) (fun _ q => pLp B L pl n red slip a b c nm hs q) := by rw [ew, pBind_r]
  rw [el]
  unfold f75 f75_17
  rw [ifg_pos O_6, ifg_pos O_1]
  refine cbind (R := R8 s) (ct_word h _) (fun w hw => ⟨hw.mono FTt_p, h8.fr hw (fun _ => rfl)⟩) (fun e r hr h0 h1 => by rw [ok_some]; exact ⟨hr, iz0, h1⟩) (fun _ q1 r1 f1 _ c1 _ => ?_)
  have g1 : R8 s r1.1 := ⟨f1.mono FTt_p, h8.fr f1 (fun _ => rfl)⟩
  unfold pLp
  refine cbind (R := R8 s) (ct_name c1) (fun w hw => ⟨g1.1.tr (hw.mono FTt_p), g1.2.fr hw (fun _ => rfl)⟩) (fun e r hr h0 h1 => by rw [ok_some]; exact ⟨hr, iz0, h1⟩) (fun w q2 r2 f2 _ c2 ⟨n1, n2⟩ => ?_)
  have g2 : R8 s r2.1 := ⟨g1.1.tr (f2.mono FTt_p), g1.2.fr f2 (fun _ => rfl)⟩
  have hC2 : ShC r2.1 (pl, n, red, slip, a, b, c, nm, hs) := (hC.fr f1 (fun _ => rfl) (fun _ => rfl) (fun _ => rfl)).fr f2 (fun _ => rfl) (fun _ => rfl) (fun _ => rfl)
  obtain ⟨d1, d2, d3, d4, d5, d6, d7, d8, d9⟩ := hC2
  dsimp only at d1 d2 d3 d4 d5 d6 d7 d8 d9
  have fb := fnd_b nm w.1 pl
  rw [n1, ct_find6 d1 (by omega) d8]
  simp only [Option.bind_some]
  rw [izm1]
  by_cases k : 0 ≤ fnd nm w.1 pl
  · rw [it_eq_f (by omega) (by omega) (by omega) (by omega) (by omega), if_pos k, iz3]
    exact ct_failR (R := R8 s) (a := 3) n2 rfl ⟨(g2.1.ui rfl).ui rfl, g2.2.fr (F := fun id _ => id == 1) (((fr.rf _ _).ui rfl).ui rfl) (fun _ => rfl)⟩
  · rw [it_eq_t (by omega), if_neg k, d1]
    simp (disch := omega) only [R_6_0, W_7, Option.bind_some, iz_in, iz_n, nat_toNat, if_true]
    rw [n1, iz0]
    have k7 : fr (fun id _ => id == 7) r2.1 (r2.1.1, xm_up r2.1.2 7 pl w.1) := (fr.rf _ _).ul rfl
    have := ct_cells (s := s) (B := B) (L := L) hpl ⟨v2, v3⟩ (n * n) 0 hs q2 (r2.1.1, xm_up r2.1.2 7 pl w.1) (by omega) ⟨g2.1.ul rfl, g2.2.fr k7 (fun _ => rfl)⟩ (c2.fr k7 (fun _ => rfl) (fun _ => rfl)) d1 d2 d9 v8
    refine this.mono (fun r hr => ⟨hr.1, ?_⟩)
    have hr2 := hr.2
    revert hr2
    rw [Nat.add_zero]
    cases hq : pCl B L (n * n) (25 * pl) hs q2 with
    | inl e => exact fun x => x
    | inr y =>
      rw [pBind_r, pBind_r]
      cases hq2 : pSt B L y.2 with
      | inl e => exact fun x => x
      | inr y2 =>
        rw [pBind_r, pBind_r]
        intro ⟨z1, z2, z3, z4, z5, z6⟩
        refine ⟨z1, z2, z3, (z4 3 (by omega)).trans d2, (z4 4 (by omega)).trans d3, (z4 5 (by omega)).trans d4, (z4 6 (by omega)).trans d5, (z4 7 (by omega)).trans d6, (z4 8 (by omega)).trans d7, fun p hp => ?_, z6⟩
        dsimp only at hp ⊢
        rw [z5]
        dsimp only
        by_cases e : p = pl
        · rw [e, up_eq, if_pos rfl]
        · rw [up_ix _ _ e, if_neg e]; exact d8 p (by omega)
theorem ct_set {q : Nat} (h : CSt s B L q) {w : Int64} {lo hi : Int} (hlo : -1000 ≤ lo) (hhi : hi ≤ 1000) (hlh : lo ≤ hi) (hw : (tok B L q).1 = 1 ∧ tkW B L q = w) : ok (f74 1 w (iz lo) (iz hi) s) (fun r => fr FTt s r.1 ∧ cOut B L (pLs B L lo hi (fun v => v) (tok B L q).2.2) (fun v z => z.1 1 9 = iz v) r) := by
  have ew : pWd B L w q = .inr ((), (tok B L q).2.2) := by unfold pWd; rw [if_pos hw]
  have el : pLs B L lo hi (fun v => v) (tok B L q).2.2 = pBind (pWd B L w q) (fun _ q => pLs B L lo hi (fun v => v) q) := by rw [ew, pBind_r]
  rw [el]
  unfold f74 f74_30 f74_31
  rw [ifg_pos O_1]
  refine cbind (R := fun w => fr FTt s w) (ct_word h _) (fun w hw => hw) (fun e r hr h0 h1 => by rw [ifg_pos (Or.inl rfl), ok_some]; exact ⟨hr, iz0, h1⟩) (fun _ q1 r1 f1 _ c1 _ => ?_)
  unfold pLs
  have n1 := ct_num (sd := false) c1 hlo hhi hlh
  rw [if_neg (show ¬ false = true by decide)] at n1
  refine cbind (R := fun w => fr FTt s w) n1 (fun w hw => f1.tr hw) (fun e r hr h0 h1 => by rw [ifg_pos (Or.inl rfl), ok_some]; exact ⟨hr, iz0, h1⟩) (fun v q2 r2 f2 _ c2 j2 => ?_)
  refine cbind (R := fun w => fr FTt s w) (ct_stop c2) (fun w hw => (f1.tr f2).tr hw) (fun e r hr h0 h1 => by rw [ifg_pos (Or.inl rfl), ok_some]; exact ⟨hr, iz0, h1⟩) (fun _ q3 r3 f3 _ c3 j3 => ?_)
  rw [ifg_pos (Or.inr rfl), ok_some]
  exact ⟨(f1.tr f2).tr f3, iz1, c3, j3.trans j2⟩
end SC
