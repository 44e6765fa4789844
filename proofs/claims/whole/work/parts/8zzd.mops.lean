/-! the model's reader -/
def MGd (s : xS) (B : Nat → Int) (L q : Nat) : Prop := MTx s B L ∧ q ≤ L ∧ MTk s B L q ∧ s.1 101 4 = iz 0 ∧ s.1 101 5 = iz (-1)
/-- the signs can be looked at -/
def mAt (s : xS) : Prop := (∃ j : Nat, j ≤ 1200 ∧ s.1 101 3 = iz j) ∧ ∃ j : Int, 0 ≤ j ∧ j ≤ 1200 ∧ s.1 101 6 = iz j
def MBd (s : xS) (e : Nat × Nat) : Prop := 1 ≤ e.1 ∧ e.1 ≤ 5 ∧ s.1 101 4 = iz e.1 ∧ s.1 101 5 = iz e.2 ∧ mAt s
theorem mAt.fr {F : Nat → Nat → Bool} {s s' : xS} (h : mAt s) (hf : fr F s s') (h1 : F 101 3 = false) (h2 : F 101 6 = false) : mAt s' := by
  obtain ⟨⟨l, l1, l2⟩, j, j1, j2, j3⟩ := h
  exact ⟨⟨l, l1, by rw [hf.i _ _ h1]; exact l2⟩, j, j1, j2, by rw [hf.i _ _ h2]; exact j3⟩
abbrev TS : Type := (Nat × Nat) ⊕ Nat
def mOut (B : Nat → Int) (L : Nat) (x : TS) (s : xS) : Prop := match x with
  | .inl e => MBd s e
  | .inr q => MGd s B L q
def tBind {γ : Type} (x : TS) (k : Nat → PR γ) : PR γ := match x with
  | .inl e => .inl e
  | .inr q => k q
def FMt (id k : Nat) : Bool := id == 101 && Nat.ble 4 k && Nat.ble k 10
theorem Fmk_t (id k : Nat) (h : Fmk id k = true) : FMt id k = true := by
  unfold Fmk at h
  unfold FMt
  simp only [Bool.and_eq_true, beq_iff_eq, Nat.ble_eq] at h ⊢
  omega
theorem mK_1 {k : Nat} {w : Int64} (h : k ≤ 5) : mK k w = 1 ↔ k = 5 := by
  unfold mK
  by_cases h0 : k = 0
  · rw [if_pos h0]; omega
  · rw [if_neg h0]
    by_cases h1 : k = 1
    · rw [if_pos h1]; split <;> omega
    · rw [if_neg h1]
      by_cases h2 : k = 2
      · rw [if_pos h2]; omega
      · rw [if_neg h2]; split <;> omega
theorem mK_0 {k : Nat} {w : Int64} (h : k ≤ 5) : mK k w = 0 ↔ k = 0 := by
  unfold mK
  by_cases h0 : k = 0
  · rw [if_pos h0]; omega
  · rw [if_neg h0]
    by_cases h1 : k = 1
    · rw [if_pos h1]; split <;> omega
    · rw [if_neg h1]
      by_cases h2 : k = 2
      · rw [if_pos h2]; omega
      · rw [if_neg h2]; split <;> omega
theorem mK_2 {k : Nat} {w : Int64} : mK k w = 2 ↔ (k = 1 ∧ ¬ kwd w = true) := by
  unfold mK
  by_cases h0 : k = 0
  · rw [if_pos h0]; omega
  · rw [if_neg h0]
    by_cases h1 : k = 1
    · rw [if_pos h1]
      by_cases g : kwd w = true
      · rw [if_pos g]; exact ⟨fun r => by omega, fun r => absurd g r.2⟩
      · rw [if_neg g]; exact ⟨fun _ => ⟨h1, g⟩, fun _ => rfl⟩
    · rw [if_neg h1]
      by_cases h2 : k = 2
      · rw [if_pos h2]; omega
      · rw [if_neg h2]; split <;> omega
theorem mK_3 {k : Nat} {w : Int64} : mK k w = 3 ↔ (k = 1 ∧ kwd w = true) := by
  unfold mK
  by_cases h0 : k = 0
  · rw [if_pos h0]; omega
  · rw [if_neg h0]
    by_cases h1 : k = 1
    · rw [if_pos h1]
      by_cases g : kwd w = true
      · rw [if_pos g]; exact ⟨fun _ => ⟨h1, g⟩, fun _ => rfl⟩
      · rw [if_neg g]; exact ⟨fun r => by omega, fun r => absurd r.2 g⟩
    · rw [if_neg h1]
      by_cases h2 : k = 2
      · rw [if_pos h2]; omega
      · rw [if_neg h2]; split <;> omega
theorem mK_4 {k : Nat} {w : Int64} : mK k w = 4 ↔ k = 2 := by
  unfold mK
  by_cases h0 : k = 0
  · rw [if_pos h0]; omega
  · rw [if_neg h0]
    by_cases h1 : k = 1
    · rw [if_pos h1]; split <;> omega
    · rw [if_neg h1]
      by_cases h2 : k = 2
      · rw [if_pos h2]; omega
      · rw [if_neg h2]; split <;> omega
theorem mK_5 {k : Nat} {w : Int64} (h : k ≤ 5) : mK k w = 5 ↔ (k = 3 ∨ k = 4) := by
  unfold mK
  by_cases h0 : k = 0
  · rw [if_pos h0]; omega
  · rw [if_neg h0]
    by_cases h1 : k = 1
    · rw [if_pos h1]; split <;> omega
    · rw [if_neg h1]
      by_cases h2 : k = 2
      · rw [if_pos h2]; omega
      · rw [if_neg h2]; split <;> omega
theorem mK_b (k : Nat) (w : Int64) : mK k w ≤ 5 := by
  unfold mK
  split
  · omega
  · split
    · split <;> omega
    · split
      · omega
      · split <;> omega
theorem it_nat {α : Type} {x y : α} {a b : Nat} (ha : a ≤ 1000) (hb : b ≤ 1000) {dc : Decidable (iz (a : Int) = iz (b : Int))} : @ite α (iz (a : Int) = iz (b : Int)) dc x y = if a = b then x else y := by
  by_cases h : a = b
  · rw [if_pos h]; exact it_eq_t (by omega)
  · rw [if_neg h]; exact it_eq_f (by omega) (by omega) (by omega) (by omega) (by omega)
section MO
variable {s : xS} {B : Nat → Int} {L q : Nat} {e : Nat × Nat}
theorem MGd.fr {F : Nat → Nat → Bool} {s' : xS} (h : MGd s B L q) (hf : fr F s s') (h1 : ∀ k, 3 ≤ k → k ≤ 10 → F 101 k = false) (h2 : ∀ k, F 103 k = false) : MGd s' B L q := by
  obtain ⟨a1, a2, ⟨b1, b2, b3, b4, b5⟩, a4, a5⟩ := h
  exact ⟨a1.fr hf (h1 3 (by omega) (by omega)) h2, a2, ⟨by rw [hf.i _ _ (h1 _ (by omega) (by omega))]; exact b1, by rw [hf.i _ _ (h1 _ (by omega) (by omega))]; exact b2, by rw [hf.i _ _ (h1 _ (by omega) (by omega))]; exact b3, fun r => by rw [hf.l _ _ (h1 _ (by omega) (by omega))]; exact b4 r, fun r => by rw [hf.i _ _ (h1 _ (by omega) (by omega))]; exact b5 r⟩, by rw [hf.i _ _ (h1 _ (by omega) (by omega))]; exact a4, by rw [hf.i _ _ (h1 _ (by omega) (by omega))]; exact a5⟩
theorem MBd.fr {F : Nat → Nat → Bool} {s' : xS} (h : MBd s e) (hf : fr F s s') (h1 : ∀ k, 3 ≤ k → k ≤ 10 → F 101 k = false) : MBd s' e := by
  obtain ⟨a1, a2, a3, a4, a5⟩ := h
  exact ⟨a1, a2, by rw [hf.i _ _ (h1 _ (by omega) (by omega))]; exact a3, by rw [hf.i _ _ (h1 _ (by omega) (by omega))]; exact a4, a5.fr hf (h1 _ (by omega) (by omega)) (h1 _ (by omega) (by omega))⟩
theorem mOut.fr {F : Nat → Nat → Bool} {s' : xS} {x : TS} (h : mOut B L x s) (hf : fr F s s') (h1 : ∀ k, 3 ≤ k → k ≤ 10 → F 101 k = false) (h2 : ∀ k, F 103 k = false) : mOut B L x s' := by
  cases x with
  | inl e => exact MBd.fr h hf h1
  | inr q => exact MGd.fr h hf h1 h2
theorem MGd.mAt (h : MGd s B L q) : mAt s := by
  obtain ⟨a1, a2, ⟨b1, b2, b3, b4, b5⟩, a4, a5⟩ := h
  have a7 := (tok_le (B := B) a2)
  exact ⟨⟨L, a1.1, a1.2.1⟩, ((tok B L q).2.1 : Nat), by omega, by have := a1.1; omega, b2⟩
theorem mt_isgood (h : s.1 101 4 = iz 0) : f177 101 s = some (s, iz 1) := by
  unfold f177 f177_12
  rw [ifg_pos O_101, if_pos (h.trans iz0.symm), ← iz1]
  exact ifg_pos (Or.inr rfl)
theorem mt_isbad (h : MBd s e) : f177 101 s = some (s, iz 0) := by
  obtain ⟨a1, a2, a3, a4, -⟩ := h
  unfold f177 f177_12
  rw [ifg_pos O_101, a3, iz0, it_eq_f (by omega) (by omega) (by omega) (by omega) (by omega), ← iz0]
  exact ifg_pos (Or.inl rfl)
theorem mt_fails (h : s.1 101 4 = iz 0) (a c : Int32) : f176 101 a c s = some ((xm_up (xm_up s.1 101 4 a) 101 5 c, s.2), ()) := by
  unfold f176
  rw [ifg_pos O_101, h, if_pos (by decide)]
  simp only [pI, Option.bind_some]
theorem mt_fails_b (h : MBd s e) (a c : Int32) : f176 101 a c s = some (s, ()) := by
  obtain ⟨a1, a2, a3, a4, -⟩ := h
  unfold f176
  rw [ifg_pos O_101, a3, iz0, it_le_f (by omega) (by omega) (by omega)]
theorem mt_wrong (h : MGd s B L q) : ok (f182 101 s) (fun r => fr FMt s r.1 ∧ MBd r.1 (pBad B L q)) := by
  have hA := h.mAt
  obtain ⟨a1, a2, ⟨b1, b2, b3, b4, b5⟩, a4, a5⟩ := h
  have a6 := (tok_le (B := B) a2).2.2.2.2
  have fin : ∀ j : Nat, j = (if (tok B L q).1 = 5 then 1 else 2) → ok (f182_14 101 (iz j) 101 s) (fun r => fr FMt s r.1 ∧ MBd r.1 (pBad B L q)) := by
    intro j hj
    unfold f182_14
    rw [b2, mt_fails a4]
    simp only [Option.bind_some, ok_some]
    refine ⟨((fr.rf _ _).ui (id := 101) (k := 4) rfl).ui (id := 101) (k := 5) rfl, ?_, ?_, ?_, ?_, ?_⟩
    · unfold pBad
      dsimp only
      split <;> omega
    · unfold pBad
      dsimp only
      split <;> omega
    · unfold pBad
      dsimp only
      rw [up_ix _ _ (by omega), up_eq, hj]
    · unfold pBad
      dsimp only
      rw [up_eq]
    · exact hA.fr (F := fun id k => id == 101 && (k == 4 || k == 5)) (((fr.rf _ _).ui (id := 101) (k := 4) rfl).ui (id := 101) (k := 5) rfl) rfl rfl
  unfold f182
  rw [ifg_pos O_101, b1, iz1, iz2]
  rw [show ((1 : Int)) = ((1 : Nat) : Int) from rfl, it_nat (by have := mK_b (tok B L q).1 (tkW B L q); omega) (by omega)]
  by_cases g : (tok B L q).1 = 5
  · rw [if_pos ((mK_1 a6).mpr g)]
    exact fin 1 (by rw [if_pos g])
  · rw [if_neg (fun r => g ((mK_1 a6).mp r))]
    exact fin 2 (by rw [if_neg g])
theorem mt_step (h : MGd s B L q) : ok (f179 101 s) (fun r => fr FMt s r.1 ∧ MGd r.1 B L (tok B L q).2.2) := by
  obtain ⟨a1, a2, ⟨b1, b2, b3, b4, b5⟩, a4, a5⟩ := h
  have a6 := (tok_le (B := B) a2).2.2.1
  refine (mo_step a1 a6 b3).mono (fun r ⟨c1, c2⟩ => ?_)
  exact ⟨c1.mono Fmk_t, a1.fr c1 rfl (fun _ => rfl), a6, c2, by rw [c1.i _ _ rfl]; exact a4, by rw [c1.i _ _ rfl]; exact a5⟩
theorem mt_isw (h : MGd s B L q) {w : Int64} (hw : kwd w = true) : f181 101 w s = some (s, if (tok B L q).1 = 1 ∧ tkW B L q = w then iz 1 else iz 0) := by
  obtain ⟨a1, a2, ⟨b1, b2, b3, b4, b5⟩, a4, a5⟩ := h
  unfold f181 f181_21 f181_22
  rw [ifg_pos O_101, b1, iz3, show ((3 : Int)) = ((3 : Nat) : Int) from rfl, it_nat (by have := mK_b (tok B L q).1 (tkW B L q); omega) (by omega)]
  by_cases g : (tok B L q).1 = 1 ∧ kwd (tkW B L q) = true
  · rw [if_pos (mK_3.mpr g), b4 g.1, lg_ite]
    by_cases g2 : tkW B L q = w
    · rw [if_pos g2, if_pos ⟨g.1, g2⟩, ← iz1]
      exact ifg_pos (Or.inr rfl)
    · rw [if_neg g2, if_neg (fun r => g2 r.2), ← iz0]
      exact ifg_pos (Or.inl rfl)
  · rw [if_neg (fun r => g (mK_3.mp r)), if_neg (fun r => g ⟨r.1, by rw [r.2]; exact hw⟩), ← iz0]
    exact ifg_pos (Or.inl rfl)
theorem mt_isw_any (w : Int64) : ∃ v, f181 101 w s = some (s, v) := by
  unfold f181 f181_21 f181_22
  rw [ifg_pos O_101]
  split
  · split
    · exact ⟨_, ifg_pos (Or.inr rfl)⟩
    · exact ⟨_, ifg_pos (Or.inl rfl)⟩
  · exact ⟨_, ifg_pos (Or.inl rfl)⟩
theorem mt_is (h : MGd s B L q) {c : Int} {j : Nat} (hc : (c = 59 ∧ j = 3) ∨ (c = 45 ∧ j = 4)) : f180 101 (iz c) s = some (s, if (tok B L q).1 = j then iz 1 else iz 0) := by
  obtain ⟨a1, a2, ⟨b1, b2, b3, b4, b5⟩, a4, a5⟩ := h
  have a6 := (tok_le (B := B) a2).2.2.2.2
  have a7 := (tok_le (B := B) a2)
  have hL := a1.1
  unfold f180 f180_24 f180_25
  rw [ifg_pos O_101, b1, iz5, show ((5 : Int)) = ((5 : Nat) : Int) from rfl, it_nat (by have := mK_b (tok B L q).1 (tkW B L q); omega) (by omega)]
  by_cases g : (tok B L q).1 = 3 ∨ (tok B L q).1 = 4
  · rw [if_pos ((mK_5 a6).mpr g), b2, mt_sign a1 (by omega)]
    obtain ⟨t1, t2⟩ := tok_sgn g
    have sb := sgn_b a1 (tok B L q).2.1
    have es : sgn B L (tok B L q).2.1 = if (tok B L q).1 = 3 then 59 else 45 := by
      unfold sgn
      rw [if_pos t1, t2]
      split <;> rfl
    simp only [Option.bind_some]
    by_cases g2 : (tok B L q).1 = j
    · rw [it_eq_t (by rw [es]; split <;> omega), if_pos g2, ← iz1]
      exact ifg_pos (by simp)
    · rw [it_eq_f (by rw [es]; split <;> omega) (by omega) (by omega) (by omega) (by omega), if_neg g2, ← iz0]
      exact ifg_pos (by simp)
  · rw [if_neg (fun r => g ((mK_5 a6).mp r)), if_neg (by omega), ← iz0]
    exact ifg_pos (by simp)
theorem mt_is_b (h : mAt s) (c : Int32) : ∃ v, f180 101 c s = some (s, v) := by
  obtain ⟨⟨l, l1, l2⟩, j, j1, j2, j3⟩ := h
  unfold f180 f180_24 f180_25 f173 f173_22
  rw [ifg_pos O_101]
  split
  · rw [ifg_pos O_101, j3, l2]
    by_cases g : (l : Int) ≤ j
    · rw [it_le_t (by omega) (by omega) (by omega)]
      simp only [Option.bind_some]
      split
      · exact ⟨_, ifg_pos (by simp)⟩
      · exact ⟨_, ifg_pos (by simp)⟩
    · rw [it_le_f (by omega) (by omega) (by omega)]
      simp (disch := omega) only [R_101_1, A_103, Option.bind_some, iz_in, if_true]
      split
      · exact ⟨_, ifg_pos (by simp)⟩
      · exact ⟨_, ifg_pos (by simp)⟩
  · exact ⟨_, ifg_pos (by simp)⟩
theorem mt_must_b (h : MBd s e) (v : Int32) : f183 101 v s = some (s, ()) := by
  unfold f183
  rw [ifg_pos O_101, mt_isbad h]
  simp only [Option.bind_some]
  rw [it_z0 rfl]
theorem mt_must (h : MGd s B L q) {c : Prop} {dc : Decidable c} : ok (f183 101 (if c then iz 1 else iz 0) s) (fun r => fr FMt s r.1 ∧ mOut B L (if c then .inr (tok B L q).2.2 else .inl (pBad B L q)) r.1) := by
  unfold f183 f183_23
  rw [ifg_pos O_101, mt_isgood h.2.2.2.1]
  simp only [Option.bind_some]
  rw [it_z1 rfl]
  by_cases g : c
  · rw [if_pos g, if_pos g, it_z1 rfl]
    refine (mt_step h).bind (fun r ⟨c1, c2⟩ => ?_)
    rw [ok_some]
    exact ⟨c1, c2⟩
  · rw [if_neg g, if_neg g, it_z0 rfl]
    refine (mt_wrong h).bind (fun r ⟨c1, c2⟩ => ?_)
    rw [ok_some]
    exact ⟨c1, c2⟩
/-- a word that must stand there -/
theorem ms_word {x : TS} (h : mOut B L x s) {w : Int64} (hw : kwd w = true) : ∃ v, f181 101 w s = some (s, v) ∧ ok (f183 101 v s) (fun r => fr FMt s r.1 ∧ ∃ x', mOut B L x' r.1 ∧ ∀ (γ : Type) (k : Nat → PR γ), tBind x (fun q => pBind (pWd B L w q) (fun _ q' => k q')) = tBind x' k) := by
  cases x with
  | inl e =>
    obtain ⟨v, hv⟩ := mt_isw_any (s := s) w
    refine ⟨v, hv, ?_⟩
    rw [mt_must_b h, ok_some]
    exact ⟨fr.rf _ _, .inl e, h, fun γ k => rfl⟩
  | inr q =>
    refine ⟨_, mt_isw h hw, (mt_must h).mono (fun r ⟨c1, c2⟩ => ⟨c1, _, c2, fun γ k => ?_⟩)⟩
    show pBind (pWd B L w q) (fun _ q' => k q') = _
    unfold pWd
    split <;> rfl
theorem ms_stop {x : TS} (h : mOut B L x s) : ∃ v, f180 101 (59 : Int32) s = some (s, v) ∧ ok (f183 101 v s) (fun r => fr FMt s r.1 ∧ ∃ x', mOut B L x' r.1 ∧ ∀ (γ : Type) (k : Nat → PR γ), tBind x (fun q => pBind (pSt B L q) (fun _ q' => k q')) = tBind x' k) := by
  cases x with
  | inl e =>
    obtain ⟨v, hv⟩ := mt_is_b (s := s) h.2.2.2.2 (59 : Int32)
    refine ⟨v, hv, ?_⟩
    rw [mt_must_b h, ok_some]
    exact ⟨fr.rf _ _, .inl e, h, fun γ k => rfl⟩
  | inr q =>
    refine ⟨if (tok B L q).1 = 3 then iz 1 else iz 0, by rw [iz59]; exact mt_is h (Or.inl ⟨rfl, rfl⟩), (mt_must h).mono (fun r ⟨c1, c2⟩ => ⟨c1, _, c2, fun γ k => ?_⟩)⟩
    show pBind (pSt B L q) (fun _ q' => k q') = _
    unfold pSt
    split <;> rfl
/-- a number at the model: what it answers, and where it stands behind it -/
def nOut (B : Nat → Int) (L : Nat) (s : xS) (p : PR Int) (lo hi : Int) (r : xS × Int32) : Prop := fr FMt s r.1 ∧ ∃ v : Int, r.2 = iz v ∧ lo ≤ v ∧ v ≤ hi ∧ match p with
  | .inl e => MBd r.1 e
  | .inr x => x.1 = v ∧ MGd r.1 B L x.2
theorem mt_num_end {w : xS} {sg lo hi : Int} {pl : Nat} {x3 : Int32} (hsg : sg = 1 ∨ sg = -1) (hlo : -1000 ≤ lo) (hhi : hi ≤ 1000) (hlh : lo ≤ hi) (hpl : pl ≤ 1200) (hx : x3 = iz pl) (h : MGd s B L q) (hf : fr FMt w s) (hk : (tok B L q).1 = 2) : ok (f185_60 101 (iz lo) (iz hi) x3 (iz (sg * tkN B L q)) s) (nOut B L w (pN0 B L sg lo hi pl q) lo hi) := by
  have hA := h.mAt
  obtain ⟨n1, n2⟩ := tkN_b h.2.1 hk
  have n3 : -10000 ≤ sg * tkN B L q ∧ sg * tkN B L q ≤ 10000 := by rcases hsg with rfl | rfl <;> omega
  have bad : ¬ (lo ≤ sg * tkN B L q ∧ sg * tkN B L q ≤ hi) → ok (f185_81 101 (iz lo) x3 (iz (sg * tkN B L q)) s) (nOut B L w (pN0 B L sg lo hi pl q) lo hi) := by
    intro g
    unfold f185_81 f185_87 f185_98 f185_111 pN0
    rw [if_pos hk, if_neg g, mt_fails h.2.2.2.1]
    simp only [Option.bind_some]
    have hb : MBd (xm_up (xm_up s.1 101 4 (4 : Int32)) 101 5 x3, s.2) (4, pl) := ⟨Nat.le_add_left 1 3, Nat.le_add_right 4 1, by dsimp only; rw [up_ix _ _ (by omega), up_eq]; exact iz4, by dsimp only; rw [up_eq]; exact hx, hA.fr (F := fun id k => id == 101 && (k == 4 || k == 5)) (((fr.rf _ _).ui (id := 101) (k := 4) rfl).ui (id := 101) (k := 5) rfl) rfl rfl⟩
    rw [mt_isbad hb]
    simp only [Option.bind_some]
    rw [it_z0 rfl, mt_isbad hb]
    simp only [Option.bind_some]
    rw [it_z0 rfl, ok_some]
    exact ⟨(hf.ui (id := 101) (k := 4) rfl).ui (id := 101) (k := 5) rfl, lo, rfl, Int.le_refl _, hlh, hb⟩
  unfold f185_60
  rw [mt_isgood h.2.2.2.1]
  simp only [Option.bind_some]
  rw [it_z1 rfl]
  by_cases g1 : sg * tkN B L q < lo
  · rw [it_lt_t (by omega) (by omega) (by omega)]
    exact bad (fun r => by omega)
  · rw [it_lt_f (by omega) (by omega) (by omega)]
    by_cases g2 : sg * tkN B L q ≤ hi
    · rw [it_le_t (by omega) (by omega) (by omega)]
      unfold f185_87 f185_98 f185_111 pN0
      rw [if_pos hk, if_pos ⟨by omega, g2⟩, mt_isgood h.2.2.2.1]
      simp only [Option.bind_some]
      rw [it_z1 rfl]
      refine (mt_step h).bind (fun r ⟨c1, c2⟩ => ?_)
      rw [mt_isgood c2.2.2.2.1]
      simp only [Option.bind_some]
      rw [it_z1 rfl, ok_some]
      exact ⟨hf.tr c1, _, rfl, by omega, g2, rfl, c2⟩
    · rw [it_le_f (by omega) (by omega) (by omega)]
      exact bad (fun r => by omega)
theorem mt_num_wrong {w : xS} {sg lo hi : Int} {pl : Nat} {x3 : Int32} (hlh : lo ≤ hi) {x4 : Int32} (h : MGd s B L q) (hf : fr FMt w s) (hk : ¬ (tok B L q).1 = 2) : ok ((f182 101 s).bind fun z2 => f185_43 101 (iz lo) (iz hi) x3 x4 z2.1) (nOut B L w (pN0 B L sg lo hi pl q) lo hi) := by
  refine (mt_wrong h).bind (fun r ⟨c1, c2⟩ => ?_)
  have main : ∀ y, ok (f185_60 101 (iz lo) (iz hi) x3 y r.1) (nOut B L w (pN0 B L sg lo hi pl q) lo hi) := by
    intro y
    unfold f185_60 f185_87 f185_98 f185_111 pN0
    rw [if_neg hk, mt_isbad c2]
    simp only [Option.bind_some]
    rw [it_z0 rfl, mt_isbad c2]
    simp only [Option.bind_some]
    rw [it_z0 rfl, mt_isbad c2]
    simp only [Option.bind_some]
    rw [it_z0 rfl, ok_some]
    exact ⟨hf.tr c1, lo, rfl, Int.le_refl _, hlh, c2⟩
  unfold f185_43
  split
  · exact main _
  · exact main _
theorem mt_sgd (h : MGd s B L q) {lo hi : Int} (hlo : -1000 ≤ lo) (hhi : hi ≤ 1000) (hlh : lo ≤ hi) : ok (f185 101 (iz lo) (iz hi) s) (nOut B L s (pNu B L true lo hi q) lo hi) := by
  have hh := h
  obtain ⟨a1, a2, ⟨b1, b2, b3, b4, b5⟩, a4, a5⟩ := h
  have a7 := (tok_le (B := B) a2)
  have hL := a1.1
  unfold f185 pNu
  rw [ifg_pos O_101, mt_isgood a4]
  simp only [Option.bind_some]
  rw [it_z1 rfl, iz45, mt_is hh (Or.inr ⟨rfl, rfl⟩), b2]
  simp only [Option.bind_some]
  have go : ∀ (sg : Int) (w : xS) (q' : Nat) (x4 : Int32), (sg = 1 ∧ x4 = iz 0 ∨ sg = -1 ∧ x4 = iz 1) → fr FMt s w → MGd w B L q' → ok (f185_31 101 (iz lo) (iz hi) (iz (tok B L q).2.1) x4 w) (nOut B L s (pN0 B L sg lo hi (tok B L q).2.1 q') lo hi) := by
    intro sg w q' x4 hs hf hw
    have hw' := hw
    obtain ⟨d1, d2, ⟨e1, e2, e3, e4, e5⟩, d4, d5⟩ := hw
    unfold f185_31
    rw [e1, iz4, show ((4 : Int)) = ((4 : Nat) : Int) from rfl, it_nat (by have := mK_b (tok B L q').1 (tkW B L q'); omega) (by omega)]
    by_cases g : (tok B L q').1 = 2
    · rw [if_pos (mK_4.mpr g)]
      unfold f185_43
      rw [e5 g, iz_neg]
      rcases hs with ⟨rfl, rfl⟩ | ⟨rfl, rfl⟩
      · rw [it_z0 rfl, show tkN B L q' = 1 * tkN B L q' by omega]
        exact mt_num_end (Or.inl rfl) hlo hhi hlh (by omega) rfl hw' hf g
      · rw [it_z1 rfl, show -tkN B L q' = -1 * tkN B L q' by omega]
        exact mt_num_end (Or.inr rfl) hlo hhi hlh (by omega) rfl hw' hf g
    · rw [if_neg (fun r => g (mK_4.mp r))]
      exact mt_num_wrong hlh hw' hf g
  by_cases g : (tok B L q).1 = 4
  · simp only [if_pos g]
    rw [it_z1 rfl, if_pos ⟨trivial, g⟩]
    refine (mt_step hh).bind (fun r ⟨c1, c2⟩ => ?_)
    exact go (-1) _ _ _ (Or.inr ⟨rfl, rfl⟩) c1 c2
  · simp only [if_neg g]
    rw [it_z0 rfl, if_neg (fun r => g r.2)]
    exact go 1 _ _ _ (Or.inl ⟨rfl, rfl⟩) (fr.rf _ _) hh
theorem mt_num (h : MGd s B L q) {lo hi : Int} (hlo : -1000 ≤ lo) (hhi : hi ≤ 1000) (hlh : lo ≤ hi) : ok (f184 101 (iz lo) (iz hi) s) (nOut B L s (pNu B L false lo hi q) lo hi) := by
  have hh := h
  have hA := h.mAt
  obtain ⟨a1, a2, ⟨b1, b2, b3, b4, b5⟩, a4, a5⟩ := h
  have a7 := (tok_le (B := B) a2)
  have hL := a1.1
  have pn : pNu B L false lo hi q = pN0 B L 1 lo hi (tok B L q).2.1 q := by
    unfold pNu
    rw [if_neg (fun r => by cases r.1)]
  rw [pn]
  unfold f184 pN0
  rw [ifg_pos O_101, mt_isgood a4]
  simp only [Option.bind_some]
  rw [it_z1 rfl, b1, iz4, show ((4 : Int)) = ((4 : Nat) : Int) from rfl, it_nat (by have := mK_b (tok B L q).1 (tkW B L q); omega) (by omega)]
  by_cases g : (tok B L q).1 = 2
  · obtain ⟨n1, n2⟩ := tkN_b a2 g
    rw [if_pos (mK_4.mpr g), if_pos g, show 1 * tkN B L q = tkN B L q by omega]
    have bad : ¬ (lo ≤ tkN B L q ∧ tkN B L q ≤ hi) → ok (f184_44 101 (iz lo) s) (nOut B L s (if lo ≤ tkN B L q ∧ tkN B L q ≤ hi then .inr (tkN B L q, (tok B L q).2.2) else .inl (4, (tok B L q).2.1)) lo hi) := by
      intro g
      unfold f184_44 f184_53 f184_69 f184_81
      rw [if_neg g, mt_fails a4, b2, iz4]
      simp only [Option.bind_some]
      have hb : MBd (xm_up (xm_up s.1 101 4 (iz 4)) 101 5 (iz (tok B L q).2.1), s.2) (4, (tok B L q).2.1) := ⟨Nat.le_add_left 1 3, Nat.le_add_right 4 1, by dsimp only; rw [up_ix _ _ (by omega), up_eq]; rfl, by dsimp only; rw [up_eq], hA.fr (F := fun id k => id == 101 && (k == 4 || k == 5)) (((fr.rf _ _).ui (id := 101) (k := 4) rfl).ui (id := 101) (k := 5) rfl) rfl rfl⟩
      rw [mt_isbad hb]
      simp only [Option.bind_some]
      rw [it_z0 rfl, mt_isbad hb]
      simp only [Option.bind_some]
      rw [it_z0 rfl, ok_some]
      exact ⟨((fr.rf _ _).ui (id := 101) (k := 4) rfl).ui (id := 101) (k := 5) rfl, lo, rfl, Int.le_refl _, hlh, hb⟩
    unfold f184_21
    rw [mt_isgood a4]
    simp only [Option.bind_some]
    rw [it_z1 rfl, b5 g]
    by_cases g1 : tkN B L q < lo
    · rw [it_lt_t (by omega) (by omega) (by omega)]
      exact bad (fun r => by omega)
    · rw [it_lt_f (by omega) (by omega) (by omega)]
      by_cases g2 : tkN B L q ≤ hi
      · rw [it_le_t (by omega) (by omega) (by omega), if_pos ⟨by omega, g2⟩]
        unfold f184_53 f184_69 f184_81
        rw [mt_isgood a4]
        simp only [Option.bind_some]
        rw [it_z1 rfl, b5 g]
        refine (mt_step hh).bind (fun r ⟨c1, c2⟩ => ?_)
        rw [mt_isgood c2.2.2.2.1]
        simp only [Option.bind_some]
        rw [it_z1 rfl, ok_some]
        exact ⟨c1, _, rfl, by omega, g2, rfl, c2⟩
      · rw [it_le_f (by omega) (by omega) (by omega)]
        exact bad (fun r => by omega)
  · rw [if_neg (fun r => g (mK_4.mp r)), if_neg g]
    refine (mt_wrong hh).bind (fun r ⟨c1, c2⟩ => ?_)
    unfold f184_21 f184_53 f184_69 f184_81
    rw [mt_isbad c2]
    simp only [Option.bind_some]
    rw [it_z0 rfl, mt_isbad c2]
    simp only [Option.bind_some]
    rw [it_z0 rfl, mt_isbad c2]
    simp only [Option.bind_some]
    rw [it_z0 rfl, ok_some]
    exact ⟨c1, lo, rfl, Int.le_refl _, hlh, c2⟩
/-- what a number leaves -/
def mNum (B : Nat → Int) (L : Nat) (s : xS) (x : TS) (sd : Bool) (lo hi : Int) (r : xS × Int32) : Prop := fr FMt s r.1 ∧ ∃ (v : Int) (x' : TS), r.2 = iz v ∧ lo ≤ v ∧ v ≤ hi ∧ mOut B L x' r.1 ∧ ∀ (γ : Type) (k : Int → Nat → PR γ), tBind x (fun q => pBind (pNu B L sd lo hi q) k) = tBind x' (fun q => k v q)
theorem nOut_m {sd : Bool} {lo hi : Int} {r : xS × Int32} (h : nOut B L s (pNu B L sd lo hi q) lo hi r) : mNum B L s (.inr q) sd lo hi r := by
  obtain ⟨h1, v, h2, h3, h4, h5⟩ := h
  cases hp : pNu B L sd lo hi q with
  | inl e =>
    rw [hp] at h5
    exact ⟨h1, v, .inl e, h2, h3, h4, h5, fun γ k => by show pBind (pNu B L sd lo hi q) k = _; rw [hp]; rfl⟩
  | inr y =>
    rw [hp] at h5
    obtain ⟨h5, h6⟩ := h5
    exact ⟨h1, v, .inr y.2, h2, h3, h4, h6, fun γ k => by show pBind (pNu B L sd lo hi q) k = _; rw [hp, ← h5]; rfl⟩
theorem ms_num {x : TS} (h : mOut B L x s) {lo hi : Int} (hlo : -1000 ≤ lo) (hhi : hi ≤ 1000) (hlh : lo ≤ hi) : ok (f184 101 (iz lo) (iz hi) s) (mNum B L s x false lo hi) := by
  cases x with
  | inl e =>
    unfold f184
    rw [ifg_pos O_101, mt_isbad h]
    simp only [Option.bind_some]
    rw [it_z0 rfl, ok_some]
    exact ⟨fr.rf _ _, lo, .inl e, rfl, Int.le_refl _, hlh, h, fun γ k => rfl⟩
  | inr q => exact (mt_num h hlo hhi hlh).mono (fun r hr => nOut_m hr)
theorem ms_sgd {x : TS} (h : mOut B L x s) {lo hi : Int} (hlo : -1000 ≤ lo) (hhi : hi ≤ 1000) (hlh : lo ≤ hi) : ok (f185 101 (iz lo) (iz hi) s) (mNum B L s x true lo hi) := by
  cases x with
  | inl e =>
    unfold f185
    rw [ifg_pos O_101, mt_isbad h]
    simp only [Option.bind_some]
    rw [it_z0 rfl, ok_some]
    exact ⟨fr.rf _ _, lo, .inl e, rfl, Int.le_refl _, hlh, h, fun γ k => rfl⟩
  | inr q => exact (mt_sgd h hlo hhi hlh).mono (fun r hr => nOut_m hr)
end MO
