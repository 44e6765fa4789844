/-! the cells that d names, in their order; the plane of both sides -/
def cnt (d : Nat → Bool) : Nat → Nat
  | 0 => 0
  | n + 1 => cnt d n + (if d n = true then 1 else 0)
def en (d : Nat → Bool) : Nat → Nat → Nat
  | 0, _ => 0
  | n + 1, k => if d n = true ∧ k = cnt d n then n else en d n k
def sN (f : Nat → Int) : Nat → Int
  | 0 => 0
  | n + 1 => sN f n + f n
theorem sN_congr {f g : Nat → Int} {N : Nat} (h : ∀ k, k < N → f k = g k) : sN f N = sN g N := by
  induction N with
  | zero => rfl
  | succ N ih => rw [sN, sN, ih (fun k hk => h k (by omega)), h N (by omega)]
theorem cnt_le (d : Nat → Bool) (N : Nat) : cnt d N ≤ N := by
  induction N with
  | zero => exact Nat.le_refl _
  | succ N ih => simp only [cnt]; split <;> omega
theorem cnt_mono (d : Nat → Bool) {a b : Nat} (h : a ≤ b) : cnt d a ≤ cnt d b := by
  induction b with
  | zero => have : a = 0 := by omega
            subst this; exact Nat.le_refl _
  | succ b ih =>
    by_cases e : a = b + 1
    · subst e; exact Nat.le_refl _
    · have := ih (by omega)
      simp only [cnt]
      omega
theorem cnt_lt {d : Nat → Bool} {c N : Nat} (hc : c < N) (hd : d c = true) : cnt d c < cnt d N := by
  have h1 := cnt_mono d (show c + 1 ≤ N by omega)
  have h2 : cnt d (c + 1) = cnt d c + 1 := by simp only [cnt, hd, if_true]
  omega
theorem en_at {d : Nat → Bool} {N c : Nat} (hc : c < N) (hd : d c = true) : en d N (cnt d c) = c := by
  induction N with
  | zero => omega
  | succ N ih =>
    simp only [en]
    by_cases e : c = N
    · subst e
      rw [if_pos ⟨hd, rfl⟩]
    · have h1 := cnt_lt (show c < N by omega) hd
      rw [if_neg (fun q => by omega)]
      exact ih (by omega)
theorem en_ok {d : Nat → Bool} {N k : Nat} (hk : k < cnt d N) : en d N k < N ∧ d (en d N k) = true ∧ cnt d (en d N k) = k := by
  induction N with
  | zero => simp only [cnt] at hk; omega
  | succ N ih =>
    simp only [en]
    by_cases e : d N = true ∧ k = cnt d N
    · rw [if_pos e]
      exact ⟨by omega, e.1, e.2.symm⟩
    · rw [if_neg e]
      have hk2 : k < cnt d N := by
        simp only [cnt] at hk
        by_cases q : d N = true
        · rw [if_pos q] at hk
          have : k ≠ cnt d N := fun r => e ⟨q, r⟩
          omega
        · rw [if_neg q] at hk
          omega
      obtain ⟨h1, h2, h3⟩ := ih hk2
      exact ⟨by omega, h2, h3⟩
theorem en_mono {d : Nat → Bool} {N k l : Nat} (hl : l < cnt d N) (h : k < l) : en d N k < en d N l := by
  obtain ⟨h1, h2, h3⟩ := en_ok (show k < cnt d N by omega)
  obtain ⟨g1, g2, g3⟩ := en_ok hl
  refine Nat.not_le.mp fun q => ?_
  have := cnt_mono d q
  omega
theorem en_inj {d : Nat → Bool} {N k l : Nat} (hk : k < cnt d N) (hl : l < cnt d N) (h : en d N k = en d N l) : k = l := by
  have h1 := (en_ok hk).2.2
  have h2 := (en_ok hl).2.2
  rw [h] at h1
  omega
theorem sN_en (d : Nat → Bool) (f : Nat → Int) (N : Nat) : sN (fun k => f (en d N k)) (cnt d N) = smS d f N := by
  induction N with
  | zero => rfl
  | succ N ih =>
    have h : ∀ k, k < cnt d N → f (en d (N + 1) k) = f (en d N k) := by
      intro k hk
      simp only [en]
      rw [if_neg (fun q => by omega)]
    simp only [cnt, smS]
    by_cases e : d N = true
    · rw [if_pos e, if_pos e, sN, sN_congr h, ih]
      have h2 : en d (N + 1) (cnt d N) = N := by show (if d N = true ∧ cnt d N = cnt d N then N else en d N (cnt d N)) = N; rw [if_pos ⟨e, rfl⟩]
      rw [h2]
    · rw [if_neg e, if_neg e, Nat.add_zero, Int.add_zero]
      exact (sN_congr h).trans ih
theorem smS_one (d : Nat → Bool) (N : Nat) : smS d (fun _ => 1) N = (cnt d N : Int) := by
  induction N with
  | zero => rfl
  | succ N ih =>
    simp only [smS, cnt, ih]
    split <;> omega
section AG
variable (n : Nat) (Z : Nat → Int) (d : Nat → Bool)
def aX (k : Nat) : Int := mx n (en d (n * n) k)
def aY (k : Nat) : Int := my n (en d (n * n) k)
def aZ (k : Nat) : Int := Z (en d (n * n) k)
/-- the three cells that settle finds -/
def mo_1 (i j k : Nat) : Prop := mo_c n Z d i j k ∧ mo_b n Z d (fun _ _ _ => True) i j k
noncomputable def gT : Nat × Nat × Nat := @dite _ (∃ t : Nat × Nat × Nat, mo_1 n Z d t.1 t.2.1 t.2.2) (Classical.propDecidable _) (fun h => Classical.choose h) (fun _ => (0, 0, 0))
noncomputable def GD : Int := mo_D n (gT n Z d).1 (gT n Z d).2.1 (gT n Z d).2.2
noncomputable def GP (c : Nat) : Int := fi_f (mx n) (my n) Z (gT n Z d).1 (gT n Z d).2.1 (gT n Z d).2.2 (mx n c) (my n c) 1 - GD n Z d * Z c
end AG
section AH
variable {n : Nat} {Z : Nat → Int} {d : Nat → Bool}
theorem mo_1_u {i j k i' j' k' : Nat} (h : mo_1 n Z d i j k) (h' : mo_1 n Z d i' j' k') : i = i' ∧ j = j' ∧ k = k' := by
  have h1 := h.2 i' j' k' trivial h'.1
  have h2 := h'.2 i j k trivial h.1
  unfold lx at h1 h2
  omega
theorem gT_eq {i j k : Nat} (h : mo_1 n Z d i j k) : gT n Z d = (i, j, k) := by
  have hex : ∃ t : Nat × Nat × Nat, mo_1 n Z d t.1 t.2.1 t.2.2 := ⟨(i, j, k), h⟩
  unfold gT
  rw [dif_pos hex]
  have h1 := Classical.choose_spec hex
  generalize Classical.choose hex = t at h1
  obtain ⟨a, b, c⟩ := t
  obtain ⟨rfl, rfl, rfl⟩ := mo_1_u h1 h
  rfl
theorem GD_eq {i j k : Nat} (h : mo_1 n Z d i j k) : GD n Z d = mo_D n i j k := by unfold GD; rw [gT_eq h]
theorem GP_eq {i j k : Nat} (h : mo_1 n Z d i j k) (c : Nat) : GP n Z d c = fi_f (mx n) (my n) Z i j k (mx n c) (my n c) 1 - mo_D n i j k * Z c := by unfold GP; rw [GD_eq h, gT_eq h]
/-- the first three of all threes: by the order of the cells, or by that of the points -/
theorem mo_of_fi {x y : Int} {i j k : Nat} (hx : x = smS d (mx n) (n * n)) (hy : y = smS d (my n) (n * n)) (h : fi_1 (aX n d) (aY n d) (aZ n Z d) (cnt d (n * n)) x y (cnt d (n * n)) i j k) : mo_1 n Z d (en d (n * n) i) (en d (n * n) j) (en d (n * n) k) := by
  have conv : ∀ i j k, fi_c (aX n d) (aY n d) (aZ n Z d) (cnt d (n * n)) i j k → mo_c n Z d (en d (n * n) i) (en d (n * n) j) (en d (n * n) k) := by
    intro i j k hc
    obtain ⟨c1, c2, c3, c4, c5⟩ := hc
    have oi := en_ok (show i < cnt d (n * n) by omega)
    have oj := en_ok (show j < cnt d (n * n) by omega)
    have ok := en_ok c3
    refine ⟨en_mono (by omega) c1, en_mono c3 c2, ok.1, oi.2.1, oj.2.1, ok.2.1, c4, fun c q1 q2 => ?_⟩
    have := c5 (cnt d c) (cnt_lt q1 q2)
    have e := en_at q1 q2
    unfold aX aY aZ at this
    rw [e] at this
    exact this
  have back : ∀ i' j' k', mo_c n Z d i' j' k' → fi_c (aX n d) (aY n d) (aZ n Z d) (cnt d (n * n)) (cnt d i') (cnt d j') (cnt d k') := by
    intro i' j' k' hc
    obtain ⟨c1, c2, c3, c4, c5, c6, c7, c8⟩ := hc
    have ei := en_at (show i' < n * n by omega) c4
    have ej := en_at (show j' < n * n by omega) c5
    have ek := en_at c3 c6
    refine ⟨cnt_lt c1 c4, cnt_lt c2 c5, cnt_lt c3 c6, ?_, fun m hm => ?_⟩
    · show ge_d (fun k => mx n (en d (n * n) k)) (fun k => my n (en d (n * n) k)) _ _ _ ≠ 0
      unfold ge_d
      dsimp only
      rw [ei, ej, ek]
      exact c7
    · have om := en_ok hm
      have := c8 (en d (n * n) m) om.1 om.2.1
      show fi_D (fun k => mx n (en d (n * n) k)) (fun k => my n (en d (n * n) k)) _ _ _ * Z (en d (n * n) m) ≤ fi_f (fun k => mx n (en d (n * n) k)) (fun k => my n (en d (n * n) k)) (fun k => Z (en d (n * n) k)) _ _ _ _ _ _
      have w1 : ∀ i j k, fi_D (fun k => mx n (en d (n * n) k)) (fun k => my n (en d (n * n) k)) i j k = fi_D (mx n) (my n) (en d (n * n) i) (en d (n * n) j) (en d (n * n) k) := fun _ _ _ => rfl
      have w2 : ∀ i j k a b c, fi_f (fun k => mx n (en d (n * n) k)) (fun k => my n (en d (n * n) k)) (fun k => Z (en d (n * n) k)) i j k a b c = fi_f (mx n) (my n) Z (en d (n * n) i) (en d (n * n) j) (en d (n * n) k) a b c := fun _ _ _ _ _ _ => rfl
      rw [w1, w2, ei, ej, ek]
      exact this
  have hv : ∀ i j k, fi_f (aX n d) (aY n d) (aZ n Z d) i j k x y (cnt d (n * n)) = mo_v n Z d (en d (n * n) i) (en d (n * n) j) (en d (n * n) k) := by
    intro i j k
    unfold mo_v
    rw [← hx, ← hy, smS_one]
    rfl
  have hD : ∀ i j k, fi_D (aX n d) (aY n d) i j k = mo_D n (en d (n * n) i) (en d (n * n) j) (en d (n * n) k) := fun i j k => rfl
  refine ⟨conv i j k h.1.1, fun i' j' k' _ hc => ?_⟩
  have b1 := back i' j' k' hc
  have ei := en_at (show i' < n * n by have := hc.1; have := hc.2.1; have := hc.2.2.1; omega) hc.2.2.2.1
  have ej := en_at (show j' < n * n by have := hc.2.1; have := hc.2.2.1; omega) hc.2.2.2.2.1
  have ek := en_at hc.2.2.1 hc.2.2.2.2.2.1
  have h1 := h.1.2 _ _ _ b1
  rw [hv, hv, hD, hD, ei, ej, ek] at h1
  by_cases e : mo_v n Z d (en d (n * n) i) (en d (n * n) j) (en d (n * n) k) * mo_D n i' j' k' = mo_v n Z d i' j' k' * mo_D n (en d (n * n) i) (en d (n * n) j) (en d (n * n) k)
  · refine Or.inr ⟨e, ?_⟩
    have hl : fi_l (aX n d) (aY n d) (aZ n Z d) (cnt d (n * n)) x y (cnt d (n * n)) (cnt d i') (cnt d j') (cnt d k') := by
      refine ⟨b1, fun a b c hc2 => ?_⟩
      have h2 := h.1.2 a b c hc2
      have p0 := fi_Dpos (X := aX n d) (Y := aY n d) h.1.1.2.2.2.1
      have p1 := fi_Dpos (X := aX n d) (Y := aY n d) b1.2.2.2.1
      have p2 := fi_Dpos (X := aX n d) (Y := aY n d) hc2.2.2.2.1
      rw [hv] at h2 ⊢
      rw [hv] at h2 ⊢
      rw [hD i j k] at h2 p0
      rw [hD (cnt d i') (cnt d j') (cnt d k'), ei, ej, ek] at p1 ⊢
      refine Int.not_lt.mp fun q => ?_
      have h3 := ratio_lt p2 p1 p0 q (Int.le_of_eq e.symm)
      omega
    have h2 := h.2 _ _ _ hl
    have oi := (en_ok (show i < cnt d (n * n) by have := h.1.1.1; have := h.1.1.2.1; have := h.1.1.2.2.1; omega))
    have oj := (en_ok (show j < cnt d (n * n) by have := h.1.1.2.1; have := h.1.1.2.2.1; omega))
    have ok := (en_ok h.1.1.2.2.1)
    have mono : ∀ a b, cnt d a < cnt d b → a < b := fun a b q => Nat.not_le.mp fun r => by have := cnt_mono d r; omega
    have monoe : ∀ a b, a < n * n → b < n * n → d a = true → d b = true → cnt d a = cnt d b → a = b := fun a b q1 q2 q3 q4 q => by rw [← en_at q1 q3, ← en_at q2 q4, q]
    have i'b : i' < n * n := by have := hc.1; have := hc.2.1; have := hc.2.2.1; omega
    have j'b : j' < n * n := by have := hc.2.1; have := hc.2.2.1; omega
    rcases h2 with h2 | ⟨h2, h3 | ⟨h3, h4⟩⟩
    · exact Or.inl (mono _ _ (by rw [oi.2.2]; exact h2))
    · exact Or.inr ⟨monoe _ _ oi.1 i'b oi.2.1 hc.2.2.2.1 (by rw [oi.2.2]; exact h2), Or.inl (mono _ _ (by rw [oj.2.2]; exact h3))⟩
    · refine Or.inr ⟨monoe _ _ oi.1 i'b oi.2.1 hc.2.2.2.1 (by rw [oi.2.2]; exact h2), Or.inr ⟨monoe _ _ oj.1 j'b oj.2.1 hc.2.2.2.2.1 (by rw [oj.2.2]; exact h3), ?_⟩⟩
      by_cases q : k = cnt d k'
      · have := monoe _ _ ok.1 hc.2.2.1 ok.2.1 hc.2.2.2.2.2.1 (by rw [ok.2.2]; exact q)
        omega
      · have := mono (en d (n * n) k) k' (by rw [ok.2.2]; omega)
        omega
  · exact Or.inl (by omega)
end AH
