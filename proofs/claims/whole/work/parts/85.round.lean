/-! a round, at the class -/
abbrev Rn : Type := Nat × Nat × Nat × Int × Int × Nat × Int
/-- cells to scrape -/
noncomputable def toS (n t : Nat) (u v : Int) (Z : Nat → Int) (red : Int) (top : Bool) (c : Nat) : Bool := if top = true then (List.range (n * n)).any (fun e => rd n Z (dR n u v) red e && (ov n t u v e == c)) else rd n Z (dR n u v) red c
theorem toS_iff {n t : Nat} {u v : Int} {Z : Nat → Int} {red : Int} {top : Bool} {c : Nat} (hc : c < n * n) : toS n t u v Z red top c = true ↔ ∃ e, e < n * n ∧ rd n Z (dR n u v) red e = true ∧ (if top = true then ov n t u v e else e) = c := by
  unfold toS
  cases top with
  | true =>
    rw [if_pos rfl, List.any_eq_true]
    constructor
    · rintro ⟨e, h1, h2⟩
      rw [Bool.and_eq_true, beq_iff_eq] at h2
      exact ⟨e, List.mem_range.mp h1, h2.1, by rw [if_pos rfl]; exact h2.2⟩
    · rintro ⟨e, h1, h2, h3⟩
      rw [if_pos rfl] at h3
      exact ⟨e, List.mem_range.mpr h1, by rw [Bool.and_eq_true, beq_iff_eq]; exact ⟨h2, h3⟩⟩
  | false =>
    rw [if_neg (by decide)]
    constructor
    · intro h
      exact ⟨c, hc, h, by rw [if_neg (by decide)]⟩
    · rintro ⟨e, h1, h2, h3⟩
      rw [if_neg (by decide)] at h3
      subst h3
      exact h2
def Rv (pl n : Nat) (R : Rn) : Prop := R.1 < pl ∧ R.2.1 < pl ∧ R.1 ≠ R.2.1 ∧ Ly n R.2.2.1 R.2.2.2.1 R.2.2.2.2.1 ∧ (R.2.2.2.2.2.1 = R.1 ∨ R.2.2.2.2.2.1 = R.2.1) ∧ 1 ≤ R.2.2.2.2.2.2 ∧ R.2.2.2.2.2.2 ≤ 9
noncomputable def rZ (n : Nat) (W S : Nat → Int) (R : Rn) (H : Nat → Int) : Nat → Int := Zl (sm H W S R.2.1) (sm H W S R.1) n R.2.2.1 R.2.2.2.1 R.2.2.2.2.1
noncomputable def rS (n : Nat) (red : Int) (W S : Nat → Int) (R : Rn) (H : Nat → Int) : Nat → Bool := toS n R.2.2.1 R.2.2.2.1 R.2.2.2.2.1 (rZ n W S R H) red (R.2.2.2.2.2.1 == R.1)
/-- a round -/
noncomputable def dRd (n : Nat) (red slip : Int) (W S : Nat → Int) (R : Rn) (x : sS) : sS × Nat := scr n slip R.2.2.2.2.2.2 (25 * R.2.2.2.2.2.1) (rS n red W S R x.1) (n * n) x
def CR (s : xS) (id : Nat) (R : Rn) : Prop := s.1 id 0 = iz R.1 ∧ s.1 id 1 = iz R.2.1 ∧ s.1 id 2 = iz R.2.2.1 ∧ s.1 id 3 = iz R.2.2.2.1 ∧ s.1 id 4 = iz R.2.2.2.2.1 ∧ s.1 id 5 = iz R.2.2.2.2.2.1 ∧ s.1 id 6 = iz R.2.2.2.2.2.2
def isR (id : Nat) : Prop := 11 ≤ id ∧ id ≤ 20
theorem R_O {id : Nat} (h : isR id) : oK id 6 = true := by
  have : id = 11 ∨ id = 12 ∨ id = 13 ∨ id = 14 ∨ id = 15 ∨ id = 16 ∨ id = 17 ∨ id = 18 ∨ id = 19 ∨ id = 20 := by unfold isR at h; omega
  rcases this with rfl | rfl | rfl | rfl | rfl | rfl | rfl | rfl | rfl | rfl <;> rfl
theorem CR.fr {F : Nat → Nat → Bool} {s s' : xS} {id : Nat} {R : Rn} (h : CR s id R) (hf : fr F s s') (h1 : ∀ k, F id k = false) : CR s' id R := by
  unfold CR
  rw [hf.ci id h1]
  exact h
theorem Bd.Hb {x : sS} {W S : Nat → Int} (h : Bd x.1 W S) : Hb x := fun k hk => ⟨(h k hk).1, (h k hk).2.1⟩
def Ws (W S : Nat → Int) : Prop := ∀ k, k < 100 → 0 ≤ W k ∧ W k ≤ 99 ∧ 0 ≤ S k ∧ S k ≤ 72
theorem Hb.bd {x : sS} {W S : Nat → Int} (h : Hb x) (hw : Ws W S) : Bd x.1 W S := fun k hk => ⟨(h k hk).1, (h k hk).2, hw k hk⟩
theorem dRd_b {pl n : Nat} {red slip : Int} {W S : Nat → Int} {R : Rn} {x : sS} (h : Hb x) (hv : Rv pl n R) (hpl : pl ≤ 4) : Hb (dRd n red slip W S R x).1 := by
  have sq := hv.2.2.2.1.sq
  obtain ⟨v1, v2, v3, v4, v5, v6, v7⟩ := hv
  exact scr_b h (by rcases v5 with v5 | v5 <;> rw [v5] <;> omega) (by omega) v7 _ (Nat.le_refl _)
def FC (id a k : Nat) : Bool := FL a k || FB id a k
theorem Zl_b {H W S : Nat → Int} (hb : Bd H W S) {n a b t : Nat} {u v : Int} (ha : a < 4) (hb' : b < 4) (hL : Ly n t u v) : Zb n (dR n u v) (Zl (sm H W S a) (sm H W S b) n t u v) := by
  intro c hc _
  have sq := hL.sq
  have q1 := Bd_sm hb ha (show c < 25 by omega)
  have q2 := Bd_sm hb hb' (show ov n t u v c < 25 by have := (hL.all hc).2.1; omega)
  unfold Zl
  omega
/-- the bits of what is to be scraped -/
theorem cl_bits {s : xS} {n : Nat} (hn : Cn s n) {R : Rn} {pl : Nat} (hv : Rv pl n R) {rid : Nat} (hr : isR rid) (hR : CR s rid R) {red : Int} (h34 : s.1 3 4 = iz red) (r0 : 0 ≤ red) (r20 : red ≤ 20) (hM : CM s n R.2.2.1 R.2.2.2.1 R.2.2.2.2.1) {Z : Nat → Int} {D : Int} {G : Nat → Int} (hG : CG s n (dR n R.2.2.2.1 R.2.2.2.2.1) Z D G) (hE : 0 < GD n Z (dR n R.2.2.2.1 R.2.2.2.2.1)) (hpl : pl ≤ 4) :
    ∃ x, f35 39 rid s = some (s, x) ∧ ∀ c, c < n * n → hb x c = toS n R.2.2.1 R.2.2.2.1 R.2.2.2.2.1 Z red (R.2.2.2.2.2.1 == R.1) c := by
  obtain ⟨v1, v2, v3, v4, v5, v6, v7⟩ := hv
  have sq := v4.sq
  obtain ⟨q0, q1, q2, q3, q4, q5, q6⟩ := hR
  have fin : ∀ (top : Bool) (f : Nat → Nat) (x : Int32), (∀ e, e < n * n → f e = if top = true then ov n R.2.2.1 R.2.2.2.1 R.2.2.2.2.1 e else e) → (∀ c, hb x c = true ↔ ∃ k, k < cnt (dR n R.2.2.2.1 R.2.2.2.2.1) (n * n) ∧ G k ≤ red * D ∧ f (en (dR n R.2.2.2.1 R.2.2.2.2.1) (n * n) k) = c) → ∀ c, c < n * n → hb x c = toS n R.2.2.1 R.2.2.2.1 R.2.2.2.2.1 Z red top c := by
    intro top f x hf hx c hc
    have h1 := (hx c).trans (hG.reds hE red f c)
    have h2 := toS_iff (t := R.2.2.1) (u := R.2.2.2.1) (v := R.2.2.2.2.1) (Z := Z) (red := red) (top := top) hc
    have h3 : hb x c = true ↔ toS n R.2.2.1 R.2.2.2.1 R.2.2.2.2.1 Z red top c = true := by
      rw [h1, h2]
      constructor
      · rintro ⟨e, e1, e2, e3⟩
        exact ⟨e, e1, e2, by rw [← hf e e1]; exact e3⟩
      · rintro ⟨e, e1, e2, e3⟩
        exact ⟨e, e1, e2, by rw [hf e e1]; exact e3⟩
    exact Bool.eq_iff_iff.mpr h3
  unfold f35 f35_23
  rw [ifg_pos O_39, ifg_pos (R_O hr), q5, q0]
  by_cases q : R.2.2.2.2.2.1 = R.1
  · rw [it_eq_t (by rw [q]), R_39_6]
    obtain ⟨x, e1, e2⟩ := cl_reds hG sq h34 r0 r20 (a := 50) (Or.inr rfl) (e := fun k => ov n R.2.2.1 R.2.2.2.1 R.2.2.2.2.1 (en (dR n R.2.2.2.1 R.2.2.2.2.1) (n * n) k)) (fun k hk => ⟨(hM.2 k hk).2, by have := (v4.all (en_ok hk).1).2.1; omega⟩) hM.1
    refine ⟨x, by rw [Option.bind_some, e1]; rfl, ?_⟩
    rw [show (R.2.2.2.2.2.1 == R.1) = true by rw [beq_iff_eq]; exact q]
    exact fin true (ov n R.2.2.1 R.2.2.2.1 R.2.2.2.2.1) x (fun e _ => by rw [if_pos rfl]) e2
  · rw [it_eq_f (by omega) (by omega) (by omega) (by omega) (by omega), R_39_5]
    obtain ⟨x, e1, e2⟩ := cl_reds hG sq h34 r0 r20 (a := 49) (Or.inl rfl) (e := fun k => en (dR n R.2.2.2.1 R.2.2.2.2.1) (n * n) k) (fun k hk => ⟨(hM.2 k hk).1, by have := (en_ok hk).1; omega⟩) hM.1
    refine ⟨x, by rw [Option.bind_some, e1]; rfl, ?_⟩
    rw [show (R.2.2.2.2.2.1 == R.1) = false by rw [beq_eq_false_iff_ne]; exact q]
    exact fin false (fun e => e) x (fun e _ => by rw [if_neg (by decide)]) e2
theorem cl_scrape {s : xS} {n : Nat} (hn : Cn s n) {id : Nat} (hB : isB id) {x : sS} {W S : Nat → Int} (h : CB s id x.1 W S) (hS : BS s id x) (hb : Bd x.1 W S) {R : Rn} {pl : Nat} (hv : Rv pl n R) (hpl : pl ≤ 4) {rid : Nat} (hr : isR rid) (hR : CR s rid R) {red slip : Int} (h34 : s.1 3 4 = iz red) (r0 : 0 ≤ red) (r20 : red ≤ 20) (h35 : s.1 3 5 = iz slip) (s0 : 0 ≤ slip) (s8 : slip ≤ 8) :
    ok (f36 39 id rid s) (fun o => fr (FC id) s o.1 ∧ CB o.1 id (dRd n red slip W S R x).1.1 W S ∧ BS o.1 id (dRd n red slip W S R x).1 ∧ o.1.1 id 3 = s.1 id 3 + iz (dRd n red slip W S R x).2 ∧ o.2 = iz (dRd n red slip W S R x).2) := by
  have hv' := hv
  obtain ⟨v1, v2, v3, v4, v5, v6, v7⟩ := hv
  have hR0 := hR
  obtain ⟨q0, q1, q2, q3, q4, q5, q6⟩ := hR0
  have hrF : ∀ k, FL rid k = false := fun k => by
    unfold FL
    unfold isR at hr
    simp only [Bool.or_eq_false_iff, Bool.and_eq_false_iff, beq_eq_false_iff_ne]
    refine ⟨Or.inl ?_, Or.inl (by omega)⟩
    cases hx : Nat.ble 40 rid with
    | false => rfl
    | true => rw [Nat.ble_eq] at hx; omega
  have bF : ∀ k, FL (id + 1) k = false ∧ FL (id + 2) k = false ∧ FL (id + 3) k = false ∧ FL id k = false := fun k => by rcases hB with rfl | rfl | rfl | rfl | rfl | rfl | rfl | rfl <;> exact ⟨rfl, rfl, rfl, rfl⟩
  have bF2 : ∀ k, FB id (id + 2) k = false ∧ FB id (id + 3) k = false := fun k => by rcases hB with rfl | rfl | rfl | rfl | rfl | rfl | rfl | rfl <;> exact ⟨rfl, rfl⟩
  unfold f36
  rw [ifg_pos O_39, ifg_pos (B_O hB), ifg_pos (R_O hr), q0, q1, q2, q3, q4]
  refine (cl_put hn hB h hb (a := R.2.1) (b := R.1) (by omega) (by omega) v4).bind (fun r1 ⟨a1, a2, D, G, a3⟩ => ?_)
  have hn1 : Cn r1.1 n := hn.fr a1 rfl
  have hR1 := hR.fr a1 hrF
  have hE := (GD_bd (Z := Zl (sm x.1 W S R.2.1) (sm x.1 W S R.1) n R.2.2.1 R.2.2.2.1 R.2.2.2.2.1) v4.RC (Zl_b hb (by omega) (by omega) v4)).1
  obtain ⟨bits, b1, b2⟩ := cl_bits hn1 hv' hr hR1 (by rw [a1.i 3 4 rfl]; exact h34) r0 r20 a2 a3 hE hpl
  rw [b1]
  simp only [Option.bind_some, R_39_0]
  obtain ⟨p0, p1, p2, p3, p4, p5, p6⟩ := hR1
  rw [p5, p6, a1.i 3 5 rfl, h35]
  have hS1 : BS r1.1 id x := ⟨fun k hk => by rw [a1.i _ k (bF k).1]; exact hS.1 k hk, by rw [a1.i _ _ (bF _).2.2.2]; exact hS.2.1, by rw [a1.i _ _ (bF _).2.2.2]; exact hS.2.2⟩
  refine (cl_cells hn1 hB hS1 hb.Hb (p := R.2.2.2.2.2.1) (by rcases v5 with v5 | v5 <;> rw [v5] <;> omega) b2 v6 v7 s0 s8).bind (fun r2 ⟨c1, c2, c3, c4⟩ => ?_)
  rw [ok_some]
  have f1 : fr (FC id) s r2.1 := (a1.mono (fun a k hk => by unfold FC; rw [hk]; rfl)).tr (c1.mono (fun a k hk => by unfold FC; rw [hk, Bool.or_true]))
  refine ⟨f1, fun k hk => ⟨c2.1 k hk, ?_, ?_⟩, c2, ?_, c4⟩
  · rw [c1.i _ k (bF2 k).1, a1.i _ k (bF k).2.1]; exact (h k hk).2.1
  · rw [c1.i _ k (bF2 k).2, a1.i _ k (bF k).2.2.1]; exact (h k hk).2.2
  · rw [c3, a1.i _ _ (bF _).2.2.2]
    rfl
