/-! the grammar, pure -/
abbrev PR (α : Type) : Type := (Nat × Nat) ⊕ (α × Nat)
def pBind {α β : Type} (p : PR α) (f : α → Nat → PR β) : PR β := match p with
  | .inl e => .inl e
  | .inr x => f x.1 x.2
theorem pBind_l {α β : Type} (e : Nat × Nat) (f : α → Nat → PR β) : pBind (.inl e) f = .inl e := rfl
theorem pBind_r {α β : Type} (a : α) (q : Nat) (f : α → Nat → PR β) : pBind (.inr (a, q)) f = f a q := rfl
theorem pBind_inr {α β : Type} {p : PR α} {f : α → Nat → PR β} {y : β × Nat} (h : pBind p f = .inr y) : ∃ a q, p = .inr (a, q) ∧ f a q = .inr y := by
  cases p with
  | inl e => cases h
  | inr x => exact ⟨x.1, x.2, rfl, h⟩
section GR
variable (B : Nat → Int) (L : Nat)
def pBad (q : Nat) : Nat × Nat := (if (tok B L q).1 = 5 then 1 else 2, (tok B L q).2.1)
def pWd (w : Int64) (q : Nat) : PR Unit := if (tok B L q).1 = 1 ∧ tkW B L q = w then .inr ((), (tok B L q).2.2) else .inl (pBad B L q)
def pSt (q : Nat) : PR Unit := if (tok B L q).1 = 3 then .inr ((), (tok B L q).2.2) else .inl (pBad B L q)
def pNm (q : Nat) : PR (Int64 × Nat) := if (tok B L q).1 = 1 ∧ ¬ kwd (tkW B L q) = true then .inr ((tkW B L q, (tok B L q).2.1), (tok B L q).2.2) else .inl (pBad B L q)
def pN0 (sg lo hi : Int) (pl q : Nat) : PR Int := if (tok B L q).1 = 2 then (if lo ≤ sg * tkN B L q ∧ sg * tkN B L q ≤ hi then .inr (sg * tkN B L q, (tok B L q).2.2) else .inl (4, pl)) else .inl (pBad B L q)
def pNu (sd : Bool) (lo hi : Int) (q : Nat) : PR Int := if sd = true ∧ (tok B L q).1 = 4 then pN0 B L (-1) lo hi (tok B L q).2.1 (tok B L q).2.2 else pN0 B L 1 lo hi (tok B L q).2.1 q
end GR
section GB
variable {B : Nat → Int} {L q : Nat}
theorem tkN_b (hq : q ≤ L) (h : (tok B L q).1 = 2) : 0 ≤ tkN B L q ∧ tkN B L q < 10000 := by
  obtain ⟨a1, a2, a3, a4⟩ := scn_all cBl B L _ q rfl
  have a2 := a2 hq
  unfold tkN
  unfold tok at h ⊢
  by_cases h1 : L ≤ scn cBl B L q
  · rw [if_pos h1] at h; cases h
  · rw [if_neg h1] at h ⊢
    by_cases h2 : cLe (B (scn cBl B L q)) = true
    · rw [if_pos h2] at h
      exfalso
      revert h
      dsimp only
      split <;> intro h <;> omega
    · rw [if_neg h2] at h ⊢
      by_cases h3 : cDg (B (scn cBl B L q)) = true
      · rw [if_pos h3] at h ⊢
        obtain ⟨b1, b2, b3, b4⟩ := scn_all cDg B L _ (scn cBl B L q) rfl
        have h4 : scn cDg B L (scn cBl B L q) - scn cBl B L q ≤ 4 := by
          revert h
          dsimp only
          split
          · rename_i g
            exact fun _ => g.2
          · intro h; omega
        dsimp only
        obtain ⟨c1, c2⟩ := nmk_b (B := B) (a := scn cBl B L q) (scn cDg B L (scn cBl B L q) - scn cBl B L q) h4 (fun i hi => (b3 (scn cBl B L q + i) (by omega) (by omega)).2)
        refine ⟨c1, Int.lt_of_lt_of_le c2 ?_⟩
        rcases (show ∀ m : Nat, m ≤ 4 → m = 0 ∨ m = 1 ∨ m = 2 ∨ m = 3 ∨ m = 4 by omega) _ h4 with e | e | e | e | e <;> rw [e] <;> decide
      · rw [if_neg h3] at h
        exfalso
        revert h
        dsimp only
        split
        · intro h; omega
        · split <;> intro h <;> omega
theorem tok_sgn (h : (tok B L q).1 = 3 ∨ (tok B L q).1 = 4) : (tok B L q).2.1 < L ∧ B (tok B L q).2.1 = (if (tok B L q).1 = 3 then 59 else 45) := by
  unfold tok at h ⊢
  by_cases h1 : L ≤ scn cBl B L q
  · rw [if_pos h1] at h; dsimp only at h; omega
  · rw [if_neg h1] at h ⊢
    by_cases h2 : cLe (B (scn cBl B L q)) = true
    · rw [if_pos h2] at h
      exfalso
      revert h
      dsimp only
      split <;> intro h <;> omega
    · rw [if_neg h2] at h ⊢
      by_cases h3 : cDg (B (scn cBl B L q)) = true
      · rw [if_pos h3] at h
        exfalso
        revert h
        dsimp only
        split <;> intro h <;> omega
      · rw [if_neg h3] at h ⊢
        dsimp only at h ⊢
        refine ⟨by omega, ?_⟩
        by_cases g1 : B (scn cBl B L q) = 59
        · rw [if_pos g1, if_pos rfl]; exact g1
        · rw [if_neg g1] at h ⊢
          by_cases g2 : B (scn cBl B L q) = 45
          · rw [if_pos g2, if_neg (by omega)]; exact g2
          · rw [if_neg g2] at h; omega
theorem pWd_q {w : Int64} (hq : q ≤ L) {y : Unit × Nat} (h : pWd B L w q = .inr y) : q < y.2 ∧ y.2 ≤ L := by
  obtain ⟨a1, a2, a3, a4, a5⟩ := tok_le (B := B) hq
  unfold pWd at h
  split at h
  · rename_i g
    cases h
    exact ⟨a4 (by omega), a3⟩
  · cases h
theorem pSt_q (hq : q ≤ L) {y : Unit × Nat} (h : pSt B L q = .inr y) : q < y.2 ∧ y.2 ≤ L := by
  obtain ⟨a1, a2, a3, a4, a5⟩ := tok_le (B := B) hq
  unfold pSt at h
  split at h
  · rename_i g
    cases h
    exact ⟨a4 (by omega), a3⟩
  · cases h
theorem pNm_q (hq : q ≤ L) {y : (Int64 × Nat) × Nat} (h : pNm B L q = .inr y) : q < y.2 ∧ y.2 ≤ L := by
  obtain ⟨a1, a2, a3, a4, a5⟩ := tok_le (B := B) hq
  unfold pNm at h
  split at h
  · rename_i g
    cases h
    exact ⟨a4 (by omega), a3⟩
  · cases h
theorem pN0_q {sg lo hi : Int} {pl : Nat} (hq : q ≤ L) {y : Int × Nat} (h : pN0 B L sg lo hi pl q = .inr y) : q < y.2 ∧ y.2 ≤ L ∧ lo ≤ y.1 ∧ y.1 ≤ hi := by
  obtain ⟨a1, a2, a3, a4, a5⟩ := tok_le (B := B) hq
  unfold pN0 at h
  split at h
  · rename_i g
    split at h
    · rename_i g2
      cases h
      exact ⟨a4 (by omega), a3, g2⟩
    · cases h
  · cases h
theorem pNu_q {sd : Bool} {lo hi : Int} (hq : q ≤ L) {y : Int × Nat} (h : pNu B L sd lo hi q = .inr y) : q < y.2 ∧ y.2 ≤ L ∧ lo ≤ y.1 ∧ y.1 ≤ hi := by
  obtain ⟨a1, a2, a3, a4, a5⟩ := tok_le (B := B) hq
  unfold pNu at h
  split at h
  · rename_i g
    have := a4 (by omega)
    obtain ⟨b1, b2⟩ := pN0_q a3 h
    exact ⟨by omega, b2⟩
  · exact pN0_q hq h
end GB
/-! the class's tape -/
def CSt (s : xS) (B : Nat → Int) (L q : Nat) : Prop := CTx s B L ∧ q ≤ L ∧ CTk s B L q ∧ s.1 1 2 = iz 0 ∧ s.1 1 3 = iz (-1)
def CFa (s : xS) (e : Nat × Nat) : Prop := s.1 1 2 = iz e.1 ∧ s.1 1 3 = iz e.2
def FTt (id k : Nat) : Bool := id == 1 && Nat.ble 2 k
/-- where the class stands behind a piece of the text -/
def cOut {α : Type} (B : Nat → Int) (L : Nat) (p : PR α) (J : α → xS → Prop) (r : xS × Int32) : Prop := match p with
  | .inl e => r.2 = iz 0 ∧ CFa r.1 e
  | .inr x => r.2 = iz 1 ∧ CSt r.1 B L x.2 ∧ J x.1 r.1
theorem Ftk_t (id k : Nat) (h : Ftk id k = true) : FTt id k = true := by
  unfold Ftk at h
  unfold FTt
  simp only [Bool.and_eq_true, beq_iff_eq, Nat.ble_eq] at h ⊢
  omega
theorem it_z0 {α : Type} {x y : α} {v : Int32} {dc : Decidable (v = 0)} (h : v = iz 0) : @ite α (v = 0) dc x y = x := if_pos h
theorem it_z1 {α : Type} {x y : α} {v : Int32} {dc : Decidable (v = 0)} (h : v = iz 1) : @ite α (v = 0) dc x y = y := if_neg (by rw [h]; decide)
/-- one piece behind another -/
theorem cbind {α β : Type} {R : xS → Prop} {s : xS} {B : Nat → Int} {L : Nat} {p : PR α} {J : α → xS → Prop} {f : α → Nat → PR β} {K : β → xS → Prop} {x : Option (xS × Int32)} {g0 g1 : xS × Int32 → Option (xS × Int32)} (h : ok x (fun r => fr FTt s r.1 ∧ cOut B L p J r)) (hR : ∀ w, fr FTt s w → R w) (h0 : ∀ e r, R r.1 → r.2 = iz 0 → CFa r.1 e → ok (g0 r) (fun r' => R r'.1 ∧ r'.2 = iz 0 ∧ CFa r'.1 e)) (h1 : ∀ a q r, fr FTt s r.1 → p = .inr (a, q) → CSt r.1 B L q → J a r.1 → ok (g1 r) (fun r' => R r'.1 ∧ cOut B L (f a q) K r')) : ok (x.bind (fun z => if z.2 = 0 then g0 z else g1 z)) (fun r' => R r'.1 ∧ cOut B L (pBind p f) K r') := by
  refine h.bind (fun r ⟨a1, a2⟩ => ?_)
  cases p with
  | inl e =>
    obtain ⟨b1, b2⟩ := a2
    rw [it_z0 b1]
    exact (h0 e r (hR _ a1) b1 b2).mono (fun r' ⟨c0, c1, c2⟩ => ⟨c0, c1, c2⟩)
  | inr y =>
    obtain ⟨b1, b2, b3⟩ := a2
    rw [it_z1 b1]
    exact h1 y.1 y.2 r a1 rfl b2 b3
theorem cd0 {α : Type} {z : Int32} (h : z = iz 0 ∨ z = iz 1) {dc : Decidable (z = 0 ∨ z = 1)} (a : Option α) : @ifg α (z = 0 ∨ z = 1) dc a = a := ifg_pos (by rw [iz0, iz1]; exact h)
section CO
variable {s : xS} {B : Nat → Int} {L q : Nat}
theorem CSt.fr {F : Nat → Nat → Bool} {s' : xS} (h : CSt s B L q) (hf : fr F s s') (h1 : ∀ k, F 1 k = false) (h2 : ∀ k, F 2 k = false) : CSt s' B L q := by
  obtain ⟨a1, a2, ⟨b1, b2, b3, b4, b5⟩, a4, a5⟩ := h
  exact ⟨a1.fr hf (h1 1) h2, a2, ⟨by rw [hf.i _ _ (h1 _)]; exact b1, by rw [hf.i _ _ (h1 _)]; exact b2, by rw [hf.i _ _ (h1 _)]; exact b3, fun r => by rw [hf.l _ _ (h1 _)]; exact b4 r, fun r => by rw [hf.i _ _ (h1 _)]; exact b5 r⟩, by rw [hf.i _ _ (h1 _)]; exact a4, by rw [hf.i _ _ (h1 _)]; exact a5⟩
theorem ct_fail (a c : Int) : f79 1 (iz a) (iz c) s = some ((xm_up (xm_up s.1 1 2 (iz a)) 1 3 (iz c), s.2), iz 0) := by
  unfold f79
  rw [ifg_pos O_1]
  simp only [pI, Option.bind_some, iz0]
theorem ct_refuse (h : CSt s B L q) : ok (f80 1 s) (fun r => fr FTt s r.1 ∧ r.2 = iz 0 ∧ CFa r.1 (pBad B L q)) := by
  obtain ⟨a1, a2, ⟨b1, b2, b3, b4, b5⟩, a4, a5⟩ := h
  have a6 := (tok_le (B := B) a2).2.2.2.2
  have fin : ∀ j : Nat, j = (if (tok B L q).1 = 5 then 1 else 2) → ok (f80_14 1 (iz j) 1 s) (fun r => fr FTt s r.1 ∧ r.2 = iz 0 ∧ CFa r.1 (pBad B L q)) := by
    intro j hj
    unfold f80_14
    rw [b2, ct_fail]
    simp only [Option.bind_some]
    rw [cd0 (Or.inl rfl), ok_some]
    refine ⟨((fr.rf _ _).ui (id := 1) (k := 2) rfl).ui (id := 1) (k := 3) rfl, rfl, ?_, ?_⟩
    · unfold pBad
      dsimp only
      rw [up_ix _ _ (by omega), up_eq, hj]
    · unfold pBad
      dsimp only
      rw [up_eq]
  unfold f80
  rw [ifg_pos O_1, b1, iz5, iz1, iz2]
  by_cases e : (tok B L q).1 = 5
  · rw [it_eq_t (by omega)]
    exact fin 1 (by rw [if_pos e])
  · rw [it_eq_f (by omega) (by omega) (by omega) (by omega) (by omega)]
    exact fin 2 (by rw [if_neg e])
theorem ct_step (h : CSt s B L q) {w : xS} (hf : fr FTt s w) (h2 : w.1 1 2 = s.1 1 2) (h3 : w.1 1 3 = s.1 1 3) (h4 : w.1 1 4 = s.1 1 4) : ok (f87 1 w) (fun r => fr FTt s r.1 ∧ fr Ftk w r.1 ∧ CSt r.1 B L (tok B L q).2.2) := by
  obtain ⟨a1, a2, ⟨b1, b2, b3, b4, b5⟩, a4, a5⟩ := h
  have a6 := (tok_le (B := B) a2).2.2.1
  have hw : CTx w B L := a1.fr hf rfl (fun _ => rfl)
  refine (cl_step hw a6 (by rw [h4]; exact b3)).mono (fun r ⟨c1, c2⟩ => ?_)
  exact ⟨hf.tr (c1.mono Ftk_t), c1, hw.fr c1 rfl (fun _ => rfl), a6, c2, by rw [c1.i _ _ rfl, h2]; exact a4, by rw [c1.i _ _ rfl, h3]; exact a5⟩
theorem ct_isw (h : CSt s B L q) (w : Int64) : f82 1 w s = some (s, if (tok B L q).1 = 1 ∧ tkW B L q = w then iz 1 else iz 0) := by
  obtain ⟨a1, a2, ⟨b1, b2, b3, b4, b5⟩, a4, a5⟩ := h
  have a6 := (tok_le (B := B) a2).2.2.2.2
  unfold f82 f82_21 f82_22
  rw [ifg_pos O_1, b1, iz1]
  by_cases e : (tok B L q).1 = 1
  · rw [it_eq_t (by omega), b4 e, lg_ite]
    by_cases g : tkW B L q = w
    · rw [if_pos g, if_pos ⟨e, g⟩, ← iz1]
      exact ifg_pos (Or.inr rfl)
    · rw [if_neg g, if_neg (fun r => g r.2), ← iz0]
      exact ifg_pos (Or.inl rfl)
  · rw [it_eq_f (by omega) (by omega) (by omega) (by omega) (by omega), if_neg (fun r => e r.1), ← iz0]
    exact ifg_pos (Or.inl rfl)
theorem ct_end (h : CSt s B L q) : f81 1 s = some (s, if (tok B L q).1 = 0 then iz 1 else iz 0) := by
  obtain ⟨a1, a2, ⟨b1, b2, b3, b4, b5⟩, a4, a5⟩ := h
  have a6 := (tok_le (B := B) a2).2.2.2.2
  unfold f81 f81_12
  rw [ifg_pos O_1, b1, iz0]
  by_cases e : (tok B L q).1 = 0
  · rw [it_eq_t (by omega), if_pos e, ← iz1]
    exact ifg_pos (Or.inr rfl)
  · rw [it_eq_f (by omega) (by omega) (by omega) (by omega) (by omega), if_neg e, ← iz0]
    exact ifg_pos (Or.inl rfl)
/-- a refusal, handed on -/
theorem ct_ref {α : Type} (h : CSt s B L q) {p : PR α} {J : α → xS → Prop} (hp : p = .inl (pBad B L q)) : ok ((f80 1 s).bind (fun z => ifg (z.2 = 0 ∨ z.2 = 1) <| some (z.1, z.2))) (fun r => fr FTt s r.1 ∧ cOut B L p J r) := by
  refine (ct_refuse h).bind (fun r ⟨c1, c2, c3⟩ => ?_)
  rw [cd0 (Or.inl c2), ok_some, hp]
  exact ⟨c1, c2, c3⟩
theorem ct_word (h : CSt s B L q) (w : Int64) : ok (f83 1 w s) (fun r => fr FTt s r.1 ∧ cOut B L (pWd B L w q) (fun _ _ => True) r) := by
  unfold f83 pWd
  rw [ifg_pos O_1, ct_isw h w]
  simp only [Option.bind_some]
  by_cases e : (tok B L q).1 = 1 ∧ tkW B L q = w
  · simp only [if_pos e]
    rw [it_z1 rfl]
    refine (ct_step h (fr.rf _ _) rfl rfl rfl).bind (fun r ⟨c1, c2, c3⟩ => ?_)
    rw [ok_some, iz1]
    exact ⟨c1, rfl, c3, trivial⟩
  · simp only [if_neg e]
    rw [it_z0 rfl]
    exact ct_ref h rfl
theorem ct_stop (h : CSt s B L q) : ok (f84 1 s) (fun r => fr FTt s r.1 ∧ cOut B L (pSt B L q) (fun _ w => w.1 1 9 = s.1 1 9) r) := by
  have hh := h
  obtain ⟨a1, a2, ⟨b1, b2, b3, b4, b5⟩, a4, a5⟩ := h
  have a6 := (tok_le (B := B) a2).2.2.2.2
  unfold f84 pSt
  rw [ifg_pos O_1, b1, iz3]
  by_cases e : (tok B L q).1 = 3
  · rw [it_eq_t (by omega), if_pos e]
    refine (ct_step hh (fr.rf _ _) rfl rfl rfl).bind (fun r ⟨c1, c2, c3⟩ => ?_)
    rw [ok_some, iz1]
    exact ⟨c1, rfl, c3, c2.i _ _ rfl⟩
  · rw [it_eq_f (by omega) (by omega) (by omega) (by omega) (by omega), if_neg e]
    exact ct_ref hh rfl
theorem ct_name (h : CSt s B L q) : ok (f85 1 s) (fun r => fr FTt s r.1 ∧ cOut B L (pNm B L q) (fun a w => w.2 1 10 = a.1 ∧ w.1 1 11 = iz a.2) r) := by
  have hh := h
  obtain ⟨a1, a2, ⟨b1, b2, b3, b4, b5⟩, a4, a5⟩ := h
  have a6 := (tok_le (B := B) a2).2.2.2.2
  unfold f85 f85_18 pNm
  rw [ifg_pos O_1, b1, iz1]
  by_cases e : (tok B L q).1 = 1
  · rw [it_eq_t (by omega), b4 e, g94]
    simp only [Option.bind_some]
    by_cases g : kwd (tkW B L q) = true
    · simp only [if_pos g]
      rw [it_z1 rfl, if_neg (fun r => r.2 g)]
      exact ct_ref hh rfl
    · simp only [if_neg g]
      rw [it_z0 rfl, if_pos ⟨e, g⟩]
      simp only [pL, pI, Option.bind_some, b4 e, b2]
      refine (ct_step hh (w := (xm_up s.1 1 11 (iz (tok B L q).2.1), xm_up s.2 1 10 (tkW B L q))) (((fr.rf _ _).ul (id := 1) (k := 10) rfl).ui (id := 1) (k := 11) rfl) ?_ ?_ ?_).bind (fun r ⟨c1, c2, c3⟩ => ?_)
      · dsimp only; rw [up_ix _ _ (by omega)]
      · dsimp only; rw [up_ix _ _ (by omega)]
      · dsimp only; rw [up_ix _ _ (by omega)]
      · rw [ok_some]
        refine ⟨c1, rfl, c3, ?_, ?_⟩
        · rw [c2.l _ _ rfl]; dsimp only; rw [up_eq]
        · rw [c2.i _ _ rfl]; dsimp only; rw [up_eq]
  · rw [it_eq_f (by omega) (by omega) (by omega) (by omega) (by omega), if_neg (fun r => e r.1)]
    exact ct_ref hh rfl
theorem ct_num0 (h : CSt s B L q) {w : xS} (hf : fr FTt w s) {sg lo hi : Int} (hsg : sg = 1 ∨ sg = -1) (hlo : -1000 ≤ lo) (hhi : hi ≤ 1000) (hlh : lo ≤ hi) (pl : Nat) : ok (f86_28 1 (iz lo) (iz hi) (iz pl) (iz sg) s) (fun r => fr FTt w r.1 ∧ cOut B L (pN0 B L sg lo hi pl q) (fun v r => r.1 1 9 = iz v) r) := by
  have hh := h
  obtain ⟨a1, a2, ⟨b1, b2, b3, b4, b5⟩, a4, a5⟩ := h
  have a6 := (tok_le (B := B) a2).2.2.2.2
  unfold f86_28 f86_68 pN0
  rw [b1, iz2]
  by_cases e : (tok B L q).1 = 2
  · rw [it_eq_t (by omega), if_pos e, b5 e]
    obtain ⟨n1, n2⟩ := tkN_b a2 e
    have n3 : -10000 ≤ sg * tkN B L q ∧ sg * tkN B L q ≤ 10000 := by rcases hsg with rfl | rfl <;> omega
    simp only [pI, Option.bind_some, iz_mul, up_eq]
    have f1 : fr FTt s (xm_up s.1 1 9 (iz (sg * tkN B L q)), s.2) := (fr.rf _ _).ui (id := 1) (k := 9) rfl
    have bad : ¬ (lo ≤ sg * tkN B L q ∧ sg * tkN B L q ≤ hi) → ok ((f79 1 (4 : Int32) (iz pl) (xm_up s.1 1 9 (iz (sg * tkN B L q)), s.2)).bind fun z1 => ifg (z1.2 = 0 ∨ z1.2 = 1) <| some (z1.1, z1.2)) (fun r => fr FTt w r.1 ∧ cOut B L (if lo ≤ sg * tkN B L q ∧ sg * tkN B L q ≤ hi then .inr (sg * tkN B L q, (tok B L q).2.2) else .inl (4, pl)) (fun v r => r.1 1 9 = iz v) r) := by
      intro g
      rw [if_neg g, iz4, ct_fail]
      simp only [Option.bind_some]
      rw [cd0 (Or.inl rfl), ok_some]
      exact ⟨((hf.tr f1).ui (id := 1) (k := 2) rfl).ui (id := 1) (k := 3) rfl, rfl, by dsimp only; rw [up_ix _ _ (by omega), up_eq]; rfl, by dsimp only; rw [up_eq]⟩
    by_cases g1 : sg * tkN B L q < lo
    · rw [it_lt_t (by omega) (by omega) (by omega)]
      exact bad (fun r => by omega)
    · rw [it_lt_f (by omega) (by omega) (by omega)]
      by_cases g2 : sg * tkN B L q ≤ hi
      · rw [it_le_t (by omega) (by omega) (by omega), if_pos ⟨by omega, g2⟩]
        refine (ct_step hh f1 (by dsimp only; rw [up_ix _ _ (by omega)]) (by dsimp only; rw [up_ix _ _ (by omega)]) (by dsimp only; rw [up_ix _ _ (by omega)])).bind (fun r ⟨c1, c2, c3⟩ => ?_)
        rw [ok_some, iz1]
        exact ⟨hf.tr c1, rfl, c3, by dsimp only; rw [c2.i _ _ rfl]; dsimp only; rw [up_eq]⟩
      · rw [it_le_f (by omega) (by omega) (by omega)]
        exact bad (fun r => by omega)
  · rw [it_eq_f (by omega) (by omega) (by omega) (by omega) (by omega), if_neg e]
    refine (ct_ref hh (J := fun v r => r.1 1 9 = iz v) rfl).mono (fun r hr => ⟨hf.tr hr.1, hr.2⟩)
theorem ct_num (h : CSt s B L q) {sd : Bool} {lo hi : Int} (hlo : -1000 ≤ lo) (hhi : hi ≤ 1000) (hlh : lo ≤ hi) : ok (f86 1 (if sd = true then 1 else 0) (iz lo) (iz hi) s) (fun r => fr FTt s r.1 ∧ cOut B L (pNu B L sd lo hi q) (fun v r => r.1 1 9 = iz v) r) := by
  have hh := h
  obtain ⟨a1, a2, ⟨b1, b2, b3, b4, b5⟩, a4, a5⟩ := h
  have a6 := (tok_le (B := B) a2).2.2.2.2
  unfold f86 pNu
  rw [ifg_pos O_1, b1, b2, iz4, izm1, iz1]
  cases sd with
  | false =>
    rw [if_neg (show ¬ false = true by decide), if_pos rfl, if_neg (fun r => by cases r.1)]
    exact ct_num0 hh (fr.rf _ _) (Or.inl rfl) hlo hhi hlh _
  | true =>
    rw [if_pos rfl, if_neg (by decide)]
    by_cases e : (tok B L q).1 = 4
    · rw [it_eq_t (by omega), if_pos ⟨rfl, e⟩]
      refine (ct_step hh (fr.rf _ _) rfl rfl rfl).bind (fun r ⟨c1, c2, c3⟩ => ?_)
      exact ct_num0 c3 c1 (Or.inr rfl) hlo hhi hlh _
    · rw [it_eq_f (by omega) (by omega) (by omega) (by omega) (by omega), if_neg (fun r => e r.2)]
      exact ct_num0 hh (fr.rf _ _) (Or.inl rfl) hlo hhi hlh _
end CO
