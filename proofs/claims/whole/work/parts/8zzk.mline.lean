/-! the lines of a shop at the model -/
def ShM (s : xS) (rb : Nat) (σ : Sh) : Prop := rb < 2 ∧ s.1 101 26 = iz rb ∧ s.1 105 rb = iz σ.1 ∧ s.1 104 rb = iz σ.2.1 ∧ s.1 106 rb = iz σ.2.2.1 ∧ s.1 107 rb = iz σ.2.2.2.1 ∧ s.1 109 rb = bz σ.2.2.2.2.1 ∧ s.1 110 rb = bz σ.2.2.2.2.2.1 ∧ s.1 111 rb = bz σ.2.2.2.2.2.2.1 ∧ (∀ p, p < σ.1 → s.2 112 (4 * rb + p) = σ.2.2.2.2.2.2.2.1 p) ∧ ∀ k, Us σ.2.1 σ.1 k → s.1 108 (100 * rb + k) = iz (σ.2.2.2.2.2.2.2.2 k)
/-- what the reading of a shop writes at the model -/
def FMl (rb id k : Nat) : Bool := (id == 101 && Nat.ble 4 k && Nat.ble k 10) || (Nat.ble 104 id && Nat.ble id 107 && k == rb) || (Nat.ble 108 id && Nat.ble id 111) || (id == 112 && k / 4 == rb)
theorem FMt_l (rb id k : Nat) (h : FMt id k = true) : FMl rb id k = true := by
  unfold FMt at h
  unfold FMl
  rw [h]
  rfl
/-- flags alone -/
def FMg (id k : Nat) : Bool := (id == 101 && Nat.ble 4 k && Nat.ble k 10) || id == 109 || id == 110 || id == 111
theorem FMt_g (id k : Nat) (h : FMt id k = true) : FMg id k = true := by
  unfold FMt at h
  unfold FMg
  rw [h]
  rfl
theorem FMg_l (rb id k : Nat) (h : FMg id k = true) : FMl rb id k = true := by
  unfold FMg at h
  unfold FMl
  simp only [Bool.or_eq_true, Bool.and_eq_true, beq_iff_eq, Nat.ble_eq] at h ⊢
  omega
theorem bz_01 (c : Bool) : bz c = iz 0 ∨ bz c = iz 1 := by
  cases c with
  | true => exact Or.inr rfl
  | false => exact Or.inl rfl
section MLn
variable {s : xS} {B : Nat → Int} {L q rb : Nat}
theorem mOut.ul {x : TS} {id k : Nat} {v : Int64} (h : mOut B L x s) (h1 : id ≠ 101) (h2 : id ≠ 103) : mOut B L x (s.1, xm_up s.2 id k v) := h.fr (F := fun a _ => a == id) ((fr.rf _ _).ul (beq_self_eq_true id)) (fun k _ _ => FX_1 h1 k) (FX_1 h2)
theorem fl314 {x : TS} (hr : rb < 2) (h : mOut B L x s) (y : Bool) : ok (f188_314 101 (bz y) (iz rb) 111 s) (fun r => fr FMg s r.1 ∧ (∀ id, id = 109 ∨ id = 110 → ∀ k, r.1.1 id k = s.1 id k) ∧ r.1.1 111 rb = bz y ∧ ∃ x', mOut B L x' r.1 ∧ ∀ (γ : Type) (k : Nat → PR γ), tBind x (fun q => pBind (pSt B L q) (fun _ q' => k q')) = tBind x' k) := by
  unfold f188_314
  simp (disch := omega) only [W_111, Option.bind_some, iz_in, iz_n, nat_toNat, if_true, nbz (bz_01 y)]
  have o1 : mOut B L x (xm_up s.1 111 rb (bz y), s.2) := h.uw (by omega) (by omega)
  obtain ⟨v, e1, e2⟩ := ms_stop o1
  rw [e1]
  simp only [Option.bind_some]
  refine e2.bind (fun r ⟨f1, x', o2, E⟩ => ?_)
  rw [ok_some]
  refine ⟨((fr.rf FMg s).ui (id := 111) (k := rb) (v := bz y) rfl).tr (f1.mono FMt_g), fun id hid k => ?_, by rw [f1.i _ _ rfl]; first | exact up_eqP _ _ _ _ _ | exact up_eq _ _ _ _, x', o2, E⟩
  rw [f1.i _ _ (FMt_n (by omega) _)]
  dsimp only
  rw [up_id _ _ (by omega)]
theorem fl283 {x : TS} {c : Bool} (hr : rb < 2) (h : mOut B L x s) (h26 : s.1 101 26 = iz rb) (h111 : s.1 111 rb = bz c) (z y : Bool) : ok (f188_283 101 (bz z) (bz y) (iz rb) 110 s) (fun r => fr FMg s r.1 ∧ (∀ k, r.1.1 109 k = s.1 109 k) ∧ r.1.1 110 rb = bz y ∧ r.1.1 111 rb = bz (c || z) ∧ ∃ x', mOut B L x' r.1 ∧ ∀ (γ : Type) (k : Nat → PR γ), tBind x (fun q => pBind (pSt B L q) (fun _ q' => k q')) = tBind x' k) := by
  unfold f188_283 f188_309
  simp (disch := omega) only [R_101_18, W_110, A_111, Option.bind_some, iz_in, iz_n, nat_toNat, if_true, nbz (bz_01 y), up_id, h26, h111]
  have o1 : mOut B L x (xm_up s.1 110 rb (bz y), s.2) := h.uw (by omega) (by omega)
  have go : ∀ w : Bool, ok (f188_314 101 (bz w) (iz rb) 111 (xm_up s.1 110 rb (bz y), s.2)) (fun r => fr FMg s r.1 ∧ (∀ k, r.1.1 109 k = s.1 109 k) ∧ r.1.1 110 rb = bz y ∧ r.1.1 111 rb = bz w ∧ ∃ x', mOut B L x' r.1 ∧ ∀ (γ : Type) (k : Nat → PR γ), tBind x (fun q => pBind (pSt B L q) (fun _ q' => k q')) = tBind x' k) := fun w =>
    (fl314 hr o1 w).mono (fun r ⟨f1, f2, f3, f4⟩ => ⟨((fr.rf FMg s).ui (id := 110) (k := rb) (v := bz y) rfl).tr f1, fun k => (f2 109 (Or.inl rfl) k).trans (by dsimp only; rw [up_id _ _ (by omega)]), (f2 110 (Or.inr rfl) rb).trans (by dsimp only; rw [up_eq]), f3, f4⟩)
  rw [bz_if, bz_if]
  cases c with
  | true => rw [if_pos rfl, show (1 : Int32) = bz true from iz1]; exact go true
  | false =>
    rw [if_neg (by decide)]
    cases z with
    | true => rw [if_pos rfl, show (1 : Int32) = bz true from iz1]; exact go true
    | false => rw [if_neg (by decide), show (0 : Int32) = bz false from iz0]; exact go false
theorem fl253 {x : TS} {b c : Bool} (hr : rb < 2) (h : mOut B L x s) (h26 : s.1 101 26 = iz rb) (h110 : s.1 110 rb = bz b) (h111 : s.1 111 rb = bz c) (z3 z4 y : Bool) : ok (f188_253 101 (bz z3) (bz z4) (bz y) (iz rb) 109 s) (fun r => fr FMg s r.1 ∧ r.1.1 109 rb = bz y ∧ r.1.1 110 rb = bz (b || z3) ∧ r.1.1 111 rb = bz (c || z4) ∧ ∃ x', mOut B L x' r.1 ∧ ∀ (γ : Type) (k : Nat → PR γ), tBind x (fun q => pBind (pSt B L q) (fun _ q' => k q')) = tBind x' k) := by
  unfold f188_253 f188_278
  simp (disch := omega) only [R_101_17, W_109, A_110, Option.bind_some, iz_in, iz_n, nat_toNat, if_true, nbz (bz_01 y), up_id, h26, h110]
  have o1 : mOut B L x (xm_up s.1 109 rb (bz y), s.2) := h.uw (by omega) (by omega)
  have i26 : (xm_up s.1 109 rb (bz y)) 101 26 = iz rb := by rw [up_id _ _ (by omega)]; exact h26
  have i111 : (xm_up s.1 109 rb (bz y)) 111 rb = bz c := by rw [up_id _ _ (by omega)]; exact h111
  have go : ∀ w : Bool, ok (f188_283 101 (bz z4) (bz w) (iz rb) 110 (xm_up s.1 109 rb (bz y), s.2)) (fun r => fr FMg s r.1 ∧ r.1.1 109 rb = bz y ∧ r.1.1 110 rb = bz w ∧ r.1.1 111 rb = bz (c || z4) ∧ ∃ x', mOut B L x' r.1 ∧ ∀ (γ : Type) (k : Nat → PR γ), tBind x (fun q => pBind (pSt B L q) (fun _ q' => k q')) = tBind x' k) := fun w =>
    (fl283 hr o1 i26 i111 z4 w).mono (fun r ⟨f1, f2, f3, f4, f5⟩ => ⟨((fr.rf FMg s).ui (id := 109) (k := rb) (v := bz y) rfl).tr f1, (f2 rb).trans (by dsimp only; rw [up_eq]), f3, f4, f5⟩)
  rw [bz_if, bz_if]
  cases b with
  | true => rw [if_pos rfl, show (1 : Int32) = bz true from iz1]; exact go true
  | false =>
    rw [if_neg (by decide)]
    cases z3 with
    | true => rw [if_pos rfl, show (1 : Int32) = bz true from iz1]; exact go true
    | false => rw [if_neg (by decide), show (0 : Int32) = bz false from iz0]; exact go false
theorem fl224 {x : TS} {a b c : Bool} (hr : rb < 2) (h : mOut B L x s) (h26 : s.1 101 26 = iz rb) (h109 : s.1 109 rb = bz a) (h110 : s.1 110 rb = bz b) (h111 : s.1 111 rb = bz c) (z1 z3 z4 : Bool) : ok (f188_224 101 (bz z1) (bz z3) (bz z4) s) (fun r => fr FMg s r.1 ∧ r.1.1 109 rb = bz (a || z1) ∧ r.1.1 110 rb = bz (b || z3) ∧ r.1.1 111 rb = bz (c || z4) ∧ ∃ x', mOut B L x' r.1 ∧ ∀ (γ : Type) (k : Nat → PR γ), tBind x (fun q => pBind (pSt B L q) (fun _ q' => k q')) = tBind x' k) := by
  unfold f188_224 f188_248
  simp (disch := omega) only [R_101_16, A_109, Option.bind_some, iz_in, iz_n, nat_toNat, if_true, h26, h109]
  have go := fl253 hr h h26 h110 h111 z3 z4
  rw [bz_if, bz_if]
  cases a with
  | true => rw [if_pos rfl, show (1 : Int32) = bz true from iz1]; exact go true
  | false =>
    rw [if_neg (by decide)]
    cases z1 with
    | true => rw [if_pos rfl, show (1 : Int32) = bz true from iz1]; exact go true
    | false => rw [if_neg (by decide), show (0 : Int32) = bz false from iz0]; exact go false
theorem tB_bad {x' : TS} {e : Nat × Nat} {q' : Nat} (h : x' = .inr q') (E : (.inl e : PR Unit) = tBind x' (fun q => .inr ((), q))) : False := by
  rw [h] at E
  cases E
/-- cells of a plate -/
def FMc (id k : Nat) : Bool := (id == 101 && Nat.ble 4 k && Nat.ble k 10) || id == 108
theorem FMt_c (id k : Nat) (h : FMt id k = true) : FMc id k = true := by
  unfold FMt at h
  unfold FMc
  rw [h]
  rfl
theorem mo_cells {pl n : Nat} (hr : rb < 2) (hpl : pl < 4) (hn : 3 ≤ n ∧ n ≤ 5) : ∀ m i hs x w, i + m = n * n → mOut B L x w → w.1 101 26 = iz rb → w.1 104 rb = iz n → w.1 105 rb = iz pl → (∀ k, Us n pl k → w.1 108 (100 * rb + k) = iz (hs k)) → (∀ c, c < i → w.1 108 (100 * rb + (25 * pl + c)) = iz (hs (25 * pl + c))) → ok (whl (fun z : Int32 × xS => f190_66 101 (iz pl) z.1 z.2) (iz (i : Nat), w)) (fun r => fr (fun id k => FMc id k || (id == 105 && k == rb)) w r.1 ∧ r.1.1 105 rb = iz ((pl + 1 : Nat) : Int) ∧ ∃ (hs' : Nat → Int) (x' : TS), mOut B L x' r.1 ∧ (∀ k, Us n (pl + 1) k → r.1.1 108 (100 * rb + k) = iz (hs' k)) ∧ ∀ (γ : Type) (K : (Nat → Int) → Nat → PR γ), tBind x (fun q => pBind (pCl B L m (25 * pl + i) hs q) K) = tBind x' (fun q => K hs' q))
  | 0, i, hs, x, w, hi, ho, h26, h104, h105, h1, h2 => by
    have nn : n * n ≤ 25 := by rcases (show n = 3 ∨ n = 4 ∨ n = 5 by omega) with rfl | rfl | rfl <;> omega
    refine whl_ok (fun Z hl hr0 => ?_)
    dsimp only
    unfold f190_66
    simp (disch := omega) only [R_101_11, R_101_12, A_104, A_105, W_105, Option.bind_some, iz_in, iz_n, nat_toNat, if_true, h26, h104, h105, iz_mul]
    rw [show ((n : Int) * n) = ((n * n : Nat) : Int) from rfl, it_le_t (by omega) (by omega) (by omega), ok_map, ok_some, iz1, iz_add]
    refine hr0 _ ⟨(fr.rf _ _).ui (by simp), (by dsimp only; rw [up_eq]; rfl), hs, x, ho.uw (by omega) (by omega), fun k hk => ?_, fun γ K => ?_⟩
    · dsimp only
      rw [up_id _ _ (by omega)]
      obtain ⟨k1, k2, k3⟩ := hk
      by_cases e : k / 25 < pl
      · exact h1 k ⟨k1, e, k3⟩
      · have e2 : k = 25 * pl + k % 25 := by omega
        rw [e2]
        exact h2 (k % 25) (by omega)
    · unfold pCl
      rfl
  | m + 1, i, hs, x, w, hi, ho, h26, h104, h105, h1, h2 => by
    have nn : n * n ≤ 25 := by rcases (show n = 3 ∨ n = 4 ∨ n = 5 by omega) with rfl | rfl | rfl <;> omega
    refine whl_ok (fun Z hl hr0 => ?_)
    dsimp only
    unfold f190_66
    simp (disch := omega) only [R_101_11, R_101_15, A_104, Option.bind_some, iz_in, iz_n, nat_toNat, if_true, h26, h104, iz_mul]
    rw [show ((n : Int) * n) = ((n * n : Nat) : Int) from rfl, it_le_f (by omega) (by omega) (by omega)]
    have n1 := ms_sgd (lo := -99) (hi := 99) ho (by omega) (by omega) (by omega)
    rw [show iz (-99) = (-99 : Int32) by decide, ← iz99] at n1
    refine n1.bind (fun r ⟨f1, v, x1, w1, v1, v2, o1, E1⟩ => ?_)
    have en : ((100 : Int) * rb + 25 * pl + i).toNat = 100 * rb + (25 * pl + i) := by omega
    rw [w1]
    simp (disch := omega) only [W_108, Option.bind_some, iz100, iz25, iz1, iz_mul, iz_add, iz_in, iz_n, nat_toNat, en, if_true]
    rw [ok_some]
    refine hl _ ?_
    have k8 : fr (fun id _ => id == 108) r.1 (xm_up r.1.1 108 (100 * rb + (25 * pl + i)) (iz v), r.1.2) := (fr.rf _ _).ui rfl
    have := mo_cells hr hpl hn m (i + 1) (fun k => if k = 25 * pl + i then v else hs k) x1 (xm_up r.1.1 108 (100 * rb + (25 * pl + i)) (iz v), r.1.2) (by omega) (o1.uw (by omega) (by omega)) (by rw [k8.i _ _ rfl, f1.i _ _ rfl]; exact h26) (by rw [k8.i _ _ rfl, f1.i _ _ rfl]; exact h104) (by rw [k8.i _ _ rfl, f1.i _ _ rfl]; exact h105) (fun k hk => ?_) (fun c hc => ?_)
    · refine this.mono (fun z ⟨z1, z2, hs', x', z3, z4, z5⟩ => ⟨?_, z2, hs', x', z3, z4, fun γ K => ?_⟩)
      · exact ((f1.mono (fun id k hk => by rw [FMt_c id k hk]; rfl)).tr (k8.mono (fun id k hk => by rw [beq_iff_eq] at hk; rw [hk]; rfl))).tr z1
      · have E2 := E1 γ (fun v q => pBind (pCl B L m (25 * pl + i + 1) (fun k => if k = 25 * pl + i then v else hs k) q) K)
        have z6 := z5 γ K
        rw [show 25 * pl + (i + 1) = 25 * pl + i + 1 by omega] at z6
        rw [← z6, ← E2]
        congr 1
        funext q
        conv => lhs; unfold pCl
        rw [pBind_assoc]
    · dsimp only
      have kk : k ≠ 25 * pl + i := by obtain ⟨k1, k2, k3⟩ := hk; omega
      rw [up_ix _ _ (by omega), if_neg kk, f1.i _ _ rfl]
      exact h1 k hk
    · dsimp only
      by_cases e : c = i
      · rw [e, up_eq, if_pos rfl]
      · rw [up_ix _ _ (by omega), if_neg (by omega), f1.i _ _ rfl]
        exact h2 c (by omega)
theorem mt_must1 (h : MGd s B L q) : ok (f183 101 (1 : Int32) s) (fun r => fr FMt s r.1 ∧ MGd r.1 B L (tok B L q).2.2) := by
  have := mt_must (c := True) (dc := .isTrue trivial) h
  rw [if_pos trivial, if_pos trivial, ← iz1] at this
  exact this
theorem mt_must0 (h : MGd s B L q) : ok (f183 101 (0 : Int32) s) (fun r => fr FMt s r.1 ∧ MBd r.1 (pBad B L q)) := by
  have := mt_must (c := False) (dc := .isFalse id) h
  rw [if_neg id, if_neg id, ← iz0] at this
  exact this
theorem mo_plate {pl n : Nat} {nm : Nat → Int64} {hs : Nat → Int} (hr : rb < 2) (hpl : pl < 4) (hn : 3 ≤ n ∧ n ≤ 5) (h : MGd s B L q) (h26 : s.1 101 26 = iz rb) (h104 : s.1 104 rb = iz n) (h105 : s.1 105 rb = iz pl) (h112 : ∀ p, p < pl → s.2 112 (4 * rb + p) = nm p) (h108 : ∀ k, Us n pl k → s.1 108 (100 * rb + k) = iz (hs k)) : ok (f190 101 s) (fun r => fr (fun id k => FMc id k || (id == 105 && k == rb) || (id == 112 && k == 4 * rb + pl)) s r.1 ∧ r.1.1 105 rb = iz ((pl + 1 : Nat) : Int) ∧ ∃ (hs' : Nat → Int) (x' : TS), mOut B L x' r.1 ∧ ((∃ q', x' = .inr q') → ∀ p, p < pl + 1 → r.1.2 112 (4 * rb + p) = if p = pl then tkW B L q else nm p) ∧ (∀ k, Us n (pl + 1) k → r.1.1 108 (100 * rb + k) = iz (hs' k)) ∧ ∀ (γ : Type) (K : Int64 × Nat → (Nat → Int) → Nat → PR γ), pBind (pNm B L q) (fun w q2 => if 0 ≤ fnd nm w.1 pl then .inl (3, w.2) else pBind (pCl B L (n * n) (25 * pl) hs q2) (K w)) = tBind x' (fun q2 => K (tkW B L q, (tok B L q).2.1) hs' q2)) := by
  have hh := h
  have hA := h.mAt
  obtain ⟨a1, a2, ⟨b1, b2, b3, b4, b5⟩, a4, a5⟩ := h
  have kb := mK_b (tok B L q).1 (tkW B L q)
  have en : ((4 : Int) * rb + pl).toNat = 4 * rb + pl := by omega
  have fin : ∀ (w : xS) (x1 : TS), fr (fun id k => FMt id k || (id == 112 && k == 4 * rb + pl)) s w → mOut B L x1 w → ((∃ q', x1 = .inr q') → w.2 112 (4 * rb + pl) = tkW B L q) → (∀ (γ : Type) (K : Int64 × Nat → Nat → PR γ), pBind (pNm B L q) (fun w q2 => if 0 ≤ fnd nm w.1 pl then .inl (3, w.2) else K w q2) = tBind x1 (fun q2 => K (tkW B L q, (tok B L q).2.1) q2)) → ok (whl (fun z : Int32 × xS => f190_66 101 (iz pl) z.1 z.2) ((0 : Int32), w)) (fun r => fr (fun id k => FMc id k || (id == 105 && k == rb) || (id == 112 && k == 4 * rb + pl)) s r.1 ∧ r.1.1 105 rb = iz ((pl + 1 : Nat) : Int) ∧ ∃ (hs' : Nat → Int) (x' : TS), mOut B L x' r.1 ∧ ((∃ q', x' = .inr q') → ∀ p, p < pl + 1 → r.1.2 112 (4 * rb + p) = if p = pl then tkW B L q else nm p) ∧ (∀ k, Us n (pl + 1) k → r.1.1 108 (100 * rb + k) = iz (hs' k)) ∧ ∀ (γ : Type) (K : Int64 × Nat → (Nat → Int) → Nat → PR γ), pBind (pNm B L q) (fun w q2 => if 0 ≤ fnd nm w.1 pl then .inl (3, w.2) else pBind (pCl B L (n * n) (25 * pl) hs q2) (K w)) = tBind x' (fun q2 => K (tkW B L q, (tok B L q).2.1) hs' q2)) := by
    intro w x1 hf ho hnm E1
    have c := mo_cells (B := B) (L := L) hr hpl hn (n * n) 0 hs x1 w (by omega) ho (by rw [hf.i _ _ rfl]; exact h26) (by rw [hf.i _ _ rfl]; exact h104) (by rw [hf.i _ _ rfl]; exact h105) (fun k hk => by rw [hf.i _ _ rfl]; exact h108 k hk) (fun c hc => by omega)
    rw [show ((0 : Int32), w) = (iz ((0 : Nat) : Int), w) from congrArg (fun z => (z, w)) iz0]
    refine c.mono (fun r ⟨z1, z2, hs', x', z3, z4, z5⟩ => ⟨?_, z2, hs', x', z3, fun ⟨q', hq'⟩ p hp => ?_, z4, fun γ K => ?_⟩)
    · refine (hf.mono (fun id k hk => ?_)).tr (z1.mono (fun id k hk => by rw [hk]; rfl))
      rw [Bool.or_eq_true] at hk
      rcases hk with hk | hk
      · rw [FMt_c id k hk]; rfl
      · rw [hk, Bool.or_true]
    · have good : ∃ q1, x1 = .inr q1 := by
        cases x1 with
        | inl e => exact (tB_bad hq' (z5 Unit (fun _ q => .inr ((), q)))).elim
        | inr q1 => exact ⟨q1, rfl⟩
      rw [z1.l 112 _ rfl]
      by_cases e : p = pl
      · rw [e, if_pos rfl]; exact hnm good
      · rw [if_neg e, hf.l 112 (4 * rb + p) (by simp [FMt]; omega)]
        exact h112 p (by omega)
    · rw [Nat.add_zero] at z5
      rw [E1 γ (fun w q2 => pBind (pCl B L (n * n) (25 * pl) hs q2) (K w)), z5 γ (K (tkW B L q, (tok B L q).2.1))]
  unfold f190 f190_30 f190_61
  rw [ifg_pos O_101]
  simp (disch := omega) only [R_101_12, R_101_19, A_105, W_112, Option.bind_some, iz_in, iz_n, nat_toNat, if_true, h26, h105]
  rw [mt_here hr h105 (by omega) h112 b1 kb]
  simp only [Option.bind_some]
  by_cases g : (tok B L q).1 = 1 ∧ ¬ kwd (tkW B L q) = true
  · have m2 := mK_2.mpr g
    simp only [m2, if_true, b4 g.1]
    have fb := fnd_b nm (tkW B L q) pl
    have e1 : pNm B L q = .inr ((tkW B L q, (tok B L q).2.1), (tok B L q).2.2) := by unfold pNm; rw [if_pos g]
    by_cases g2 : fnd nm (tkW B L q) pl < 0
    · rw [if_pos (show iz (fnd nm (tkW B L q) pl) < 0 by rw [iz0]; exact (iz_lt (by omega) (by omega) (by omega) (by omega)).mpr g2)]
      rw [h26]
      simp (disch := omega) only [iz4, iz_mul, iz_add, iz_in, iz_n, en, if_true, Option.bind_some]
      have hw : MGd (s.1, xm_up s.2 112 (4 * rb + pl) (tkW B L q)) B L q := mOut.ul (x := .inr q) hh (by omega) (by omega)
      rw [b1, m2, if_pos (show iz ((2 : Nat) : Int) = 2 from iz2.symm)]
      refine (mt_must1 hw).bind (fun r ⟨f1, o1⟩ => ?_)
      refine fin r.1 (.inr (tok B L q).2.2) ?_ o1 (fun _ => ?_) (fun γ K => ?_)
      · exact ((fr.rf _ _).ul (id := 112) (k := 4 * rb + pl) (by simp)).tr (f1.mono (fun id k hk => by rw [hk]; rfl))
      · rw [f1.l _ _ rfl]; dsimp only; rw [up_eq]
      · rw [e1, pBind_r, if_neg (by dsimp only; omega)]
        rfl
    · rw [if_neg (show ¬ iz (fnd nm (tkW B L q) pl) < 0 by rw [iz0]; exact fun r => g2 ((iz_lt (by omega) (by omega) (by omega) (by omega)).mp r)), mt_fails a4, b2]
      simp only [Option.bind_some]
      have hbd : MBd (xm_up (xm_up s.1 101 4 (3 : Int32)) 101 5 (iz (tok B L q).2.1), s.2) (3, (tok B L q).2.1) := ⟨Nat.le_add_left 1 2, Nat.le_add_right 3 2, by dsimp only; rw [up_ix _ _ (by omega), up_eq]; exact iz3, by dsimp only; rw [up_eq], hA.fr (F := fun id k => id == 101 && (k == 4 || k == 5)) (((fr.rf _ _).ui (id := 101) (k := 4) rfl).ui (id := 101) (k := 5) rfl) rfl rfl⟩
      rw [up_ix _ _ (show 26 ≠ 5 by omega), up_ix _ _ (show 26 ≠ 4 by omega), h26]
      simp (disch := omega) only [iz4, iz_mul, iz_add, iz_in, iz_n, en, if_true, Option.bind_some]
      have hb2 : MBd (xm_up (xm_up s.1 101 4 (3 : Int32)) 101 5 (iz (tok B L q).2.1), xm_up s.2 112 (4 * rb + pl) (s.2 101 10)) (3, (tok B L q).2.1) := mOut.ul (B := B) (L := L) (x := .inl (3, (tok B L q).2.1)) hbd (by omega) (by omega)
      have ff : fr (fun id k => FMt id k || (id == 112 && k == 4 * rb + pl)) s (xm_up (xm_up s.1 101 4 (3 : Int32)) 101 5 (iz (tok B L q).2.1), xm_up s.2 112 (4 * rb + pl) (s.2 101 10)) := (((fr.rf _ _).ui (id := 101) (k := 4) rfl).ui (id := 101) (k := 5) rfl).ul (id := 112) (k := 4 * rb + pl) (by simp)
      have ee : ∀ (γ : Type) (K : Int64 × Nat → Nat → PR γ), pBind (pNm B L q) (fun w q2 => if 0 ≤ fnd nm w.1 pl then .inl (3, w.2) else K w q2) = tBind (.inl (3, (tok B L q).2.1)) (fun q2 => K (tkW B L q, (tok B L q).2.1) q2) := fun γ K => by
        rw [e1, pBind_r, if_pos (by dsimp only; omega)]
        rfl
      split
      · rw [mt_must_b hb2]
        simp only [Option.bind_some]
        exact fin _ (.inl (3, (tok B L q).2.1)) ff hb2 (fun ⟨q', e⟩ => by cases e) ee
      · rw [mt_must_b hb2]
        simp only [Option.bind_some]
        exact fin _ (.inl (3, (tok B L q).2.1)) ff hb2 (fun ⟨q', e⟩ => by cases e) ee
  · have m2 : ¬ mK (tok B L q).1 (tkW B L q) = 2 := fun r => g (mK_2.mp r)
    simp only [m2, if_false]
    have e1 : pNm B L q = .inl (pBad B L q) := by unfold pNm; rw [if_neg g]
    rw [if_pos (show iz (-1) < 0 by decide), h26]
    simp (disch := omega) only [iz4, iz_mul, iz_add, iz_in, iz_n, en, if_true, Option.bind_some]
    have hw : MGd (s.1, xm_up s.2 112 (4 * rb + pl) (s.2 101 10)) B L q := mOut.ul (x := .inr q) hh (by omega) (by omega)
    rw [b1, iz2, show ((2 : Int)) = ((2 : Nat) : Int) from rfl, it_nat (by omega) (by omega), if_neg m2]
    refine (mt_must0 hw).bind (fun r ⟨f1, o1⟩ => ?_)
    refine fin r.1 (.inl (pBad B L q)) ?_ o1 (fun ⟨q', e⟩ => by cases e) (fun γ K => ?_)
    · exact ((fr.rf _ _).ul (id := 112) (k := 4 * rb + pl) (by simp)).tr (f1.mono (fun id k hk => by rw [hk]; rfl))
    · rw [e1, pBind_l]
      rfl
theorem e00 : (iz 0 = (0 : Int32)) = True := propext ⟨fun _ => trivial, fun _ => iz0.symm⟩
theorem e10 : (iz 1 = (0 : Int32)) = False := propext ⟨fun h => absurd h (by decide), False.elim⟩
theorem e1l : ((1 : Int32) = 0) = False := propext ⟨fun h => absurd h (by decide), False.elim⟩
/-- where the model stands behind a line -/
def lOut (B : Nat → Int) (L : Nat) (s : xS) (rb : Nat) (p : PR Sh) (r : xS × Unit) : Prop := fr (FMl rb) s r.1 ∧ ∃ (σ' : Sh) (x' : TS), mOut B L x' r.1 ∧ ((∃ q', x' = .inr q') → ShM r.1 rb σ') ∧ ∀ (γ : Type) (K : Sh → Nat → PR γ), pBind p K = tBind x' (fun q2 => K σ' q2)
theorem ms_lbad (h : MGd s B L q) (σ : Sh) (x1 x2 x3 x4 : Int32) : ok (f188_140 101 x1 x2 x3 x4 s) (lOut B L s rb (.inl (pBad B L q))) := by
  unfold f188_140 f188_144
  refine (mt_wrong h).bind (fun r ⟨c1, c2⟩ => ?_)
  rw [mt_isbad c2]
  simp only [Option.bind_some]
  rw [it_z0 rfl, ok_some]
  exact ⟨c1.mono (FMt_l rb), σ, .inl (pBad B L q), c2, (fun ⟨q', e⟩ => by cases e), fun γ K => rfl⟩
end MLn
