/-! tokens: pure, at the class -/
theorem iz32 : (32 : Int32) = iz 32 := by decide +kernel
theorem iz97 : (97 : Int32) = iz 97 := by decide +kernel
theorem iz122 : (122 : Int32) = iz 122 := by decide +kernel
theorem iz48 : (48 : Int32) = iz 48 := by decide +kernel
theorem iz57 : (57 : Int32) = iz 57 := by decide +kernel
theorem iz59 : (59 : Int32) = iz 59 := by decide +kernel
theorem iz45 : (45 : Int32) = iz 45 := by decide +kernel
def cBl (z : Int) : Bool := decide (z = 32) || decide (z = 10)
def cLe (z : Int) : Bool := decide (97 ≤ z) && decide (z ≤ 122)
def cDg (z : Int) : Bool := decide (48 ≤ z) && decide (z ≤ 57)
theorem cLe_iff {z : Int} : cLe z = true ↔ 97 ≤ z ∧ z ≤ 122 := by unfold cLe; rw [Bool.and_eq_true, decide_eq_true_eq, decide_eq_true_eq]
theorem cDg_iff {z : Int} : cDg z = true ↔ 48 ≤ z ∧ z ≤ 57 := by unfold cDg; rw [Bool.and_eq_true, decide_eq_true_eq, decide_eq_true_eq]
theorem cBl_iff {z : Int} : cBl z = true ↔ z = 32 ∨ z = 10 := by unfold cBl; rw [Bool.or_eq_true, decide_eq_true_eq, decide_eq_true_eq]
section TK
variable (P : Int → Bool) (B : Nat → Int) (L : Nat)
def skF : Nat → Nat → Nat
  | 0, q => q
  | f + 1, q => if q < L ∧ P (B q) = true then skF f (q + 1) else q
/-- the end of a run -/
def scn (q : Nat) : Nat := skF P B L (L - q) q
theorem scn_t {q : Nat} (h1 : q < L) (h2 : P (B q) = true) : scn P B L q = scn P B L (q + 1) := by
  unfold scn
  rw [show L - q = (L - (q + 1)) + 1 by omega, skF, if_pos ⟨h1, h2⟩]
theorem scn_f {q : Nat} (h : ¬ (q < L ∧ P (B q) = true)) : scn P B L q = q := by
  unfold scn
  cases e : L - q with
  | zero => rfl
  | succ f => rw [skF, if_neg h]
theorem scn_all : ∀ d q, L - q = d → q ≤ scn P B L q ∧ (q ≤ L → scn P B L q ≤ L) ∧ (∀ i, q ≤ i → i < scn P B L q → i < L ∧ P (B i) = true) ∧ ¬ (scn P B L q < L ∧ P (B (scn P B L q)) = true)
  | 0, q, h => by
    have hq : ¬ (q < L ∧ P (B q) = true) := fun w => by omega
    rw [scn_f P B L hq]
    exact ⟨Nat.le_refl _, fun h => h, fun i h1 h2 => by omega, hq⟩
  | d + 1, q, h => by
    by_cases hq : q < L ∧ P (B q) = true
    · obtain ⟨a1, a2, a3, a4⟩ := scn_all d (q + 1) (by omega)
      rw [scn_t P B L hq.1 hq.2]
      refine ⟨by omega, fun _ => a2 (by omega), fun i h1 h2 => ?_, a4⟩
      by_cases e : i = q
      · rw [e]; exact hq
      · exact a3 i (by omega) h2
    · rw [scn_f P B L hq]
      exact ⟨Nat.le_refl _, fun h => h, fun i h1 h2 => by omega, hq⟩
end TK
/-- a token: kind, first byte, end -/
def tok (B : Nat → Int) (L q : Nat) : Nat × Nat × Nat :=
  if L ≤ scn cBl B L q then (0, scn cBl B L q, scn cBl B L q)
  else if cLe (B (scn cBl B L q)) = true then (if scn cLe B L (scn cBl B L q) - scn cBl B L q ≤ 8 then 1 else 5, scn cBl B L q, scn cLe B L (scn cBl B L q))
  else if cDg (B (scn cBl B L q)) = true then (if ¬ (scn cDg B L (scn cBl B L q) < L ∧ cLe (B (scn cDg B L (scn cBl B L q))) = true) ∧ scn cDg B L (scn cBl B L q) - scn cBl B L q ≤ 4 then 2 else 5, scn cBl B L q, scn cDg B L (scn cBl B L q))
  else (if B (scn cBl B L q) = 59 then 3 else if B (scn cBl B L q) = 45 then 4 else 5, scn cBl B L q, scn cBl B L q + 1)
/-- the word of k letters from a on; the number of k digits -/
def wdk (B : Nat → Int) (a : Nat) : Nat → Int64
  | 0 => 0
  | k + 1 => (wdk B a k <<< ((8 : Int32).toInt64 &&& 63)) ||| (iz (B (a + k))).toInt64
def nmk (B : Nat → Int) (a : Nat) : Nat → Int
  | 0 => 0
  | k + 1 => nmk B a k * 10 + (B (a + k) - 48)
def tkW (B : Nat → Int) (L q : Nat) : Int64 := wdk B (tok B L q).2.1 ((tok B L q).2.2 - (tok B L q).2.1)
def tkN (B : Nat → Int) (L q : Nat) : Int := nmk B (tok B L q).2.1 ((tok B L q).2.2 - (tok B L q).2.1)
theorem nmk_b {B : Nat → Int} {a : Nat} : ∀ k, k ≤ 4 → (∀ i, i < k → cDg (B (a + i)) = true) → 0 ≤ nmk B a k ∧ nmk B a k < 10 ^ k
  | 0, _, _ => ⟨by rw [nmk]; omega, by rw [nmk]; omega⟩
  | k + 1, hk, h => by
    obtain ⟨a1, a2⟩ := nmk_b k (by omega) (fun i hi => h i (by omega))
    have := cDg_iff.mp (h k (by omega))
    rw [nmk, Int.pow_succ]
    omega
theorem tok_le {B : Nat → Int} {L q : Nat} (hq : q ≤ L) : q ≤ (tok B L q).2.1 ∧ (tok B L q).2.1 ≤ (tok B L q).2.2 ∧ (tok B L q).2.2 ≤ L ∧ ((tok B L q).1 ≠ 0 → q < (tok B L q).2.2) ∧ (tok B L q).1 ≤ 5 := by
  obtain ⟨a1, a2, a3, a4⟩ := scn_all cBl B L _ q rfl
  have a2 := a2 hq
  unfold tok
  by_cases h1 : L ≤ scn cBl B L q
  · rw [if_pos h1]
    exact ⟨a1, Nat.le_refl _, a2, fun h => absurd rfl h, by omega⟩
  · rw [if_neg h1]
    by_cases h2 : cLe (B (scn cBl B L q)) = true
    · rw [if_pos h2]
      obtain ⟨b1, b2, b3, b4⟩ := scn_all cLe B L _ (scn cBl B L q) rfl
      have b2 := b2 a2
      have b5 : scn cBl B L q < scn cLe B L (scn cBl B L q) := by
        rcases Nat.lt_or_ge (scn cBl B L q) (scn cLe B L (scn cBl B L q)) with w | w
        · exact w
        · have e : scn cLe B L (scn cBl B L q) = scn cBl B L q := by omega
          rw [e] at b4
          exact absurd ⟨by omega, h2⟩ b4
      refine ⟨a1, b1, b2, fun _ => by dsimp only; omega, ?_⟩
      dsimp only
      split <;> omega
    · rw [if_neg h2]
      by_cases h3 : cDg (B (scn cBl B L q)) = true
      · rw [if_pos h3]
        obtain ⟨b1, b2, b3, b4⟩ := scn_all cDg B L _ (scn cBl B L q) rfl
        have b2 := b2 a2
        have b5 : scn cBl B L q < scn cDg B L (scn cBl B L q) := by
          rcases Nat.lt_or_ge (scn cBl B L q) (scn cDg B L (scn cBl B L q)) with w | w
          · exact w
          · have e : scn cDg B L (scn cBl B L q) = scn cBl B L q := by omega
            rw [e] at b4
            exact absurd ⟨by omega, h3⟩ b4
        refine ⟨a1, b1, b2, fun _ => by dsimp only; omega, ?_⟩
        dsimp only
        split <;> omega
      · rw [if_neg h3]
        refine ⟨a1, by dsimp only; omega, by dsimp only; omega, fun _ => by dsimp only; omega, ?_⟩
        dsimp only
        split
        · omega
        · split <;> omega
/-- loops over a state that hold a place -/
theorem whz {R : Type} {body : xS → Option (xS ⊕ R)} {Q : R → Prop} (I : Nat → xS → Prop) {e : Nat} (hs : ∀ i w, i < e → I i w → ok (body w) (fun r => ∃ w', r = .inl w' ∧ I (i + 1) w')) (he : ∀ w, I e w → ok (body w) (fun r => ∃ v, r = .inr v ∧ Q v)) : ∀ d q s, e - q = d → q ≤ e → I q s → ok (whl body s) Q
  | 0, q, s, h1, h2, h3 => by
    have : q = e := by omega
    subst this
    obtain ⟨r, e1, v, rfl, e3⟩ := he s h3
    exact ⟨v, whl_inr e1, e3⟩
  | d + 1, q, s, h1, h2, h3 => by
    obtain ⟨r, e1, w', rfl, e3⟩ := hs q s (by omega) h3
    obtain ⟨v, e4, e5⟩ := whz I hs he d (q + 1) w' (by omega) (by omega) e3
    exact ⟨v, (whl_inl e1).trans e4, e5⟩
def byR (z : Int) : Prop := -128 ≤ z ∧ z ≤ 127
section CK
variable {s : xS} {z : Int}
theorem g91 (h : byR z) : f91 (iz z) s = some (s, if cBl z = true then iz 1 else iz 0) := by
  obtain ⟨h1, h2⟩ := h
  unfold f91 f91_12 f91_17
  by_cases a : z = 32
  · rw [if_pos (cBl_iff.mpr (Or.inl a))]
    simp (disch := omega) only [iz32, iz0, iz1, iz2, iz3, iz4, iz5, iz7, iz8, iz9, iz10, iz15, iz20, iz25, iz30, iz40, iz49, iz99, iz100, iz300, iz343, iz500, iz999, iz1000, iz1200, iz_add, iz_sub, iz_mul, iz_neg, it_le_t, it_le_f, it_lt_t, it_lt_f, it_eq_t, it_eq_f, bz0, bz1, ifg_T, or_true, true_or, if_true, if_false, Option.bind_some, Option.map_some]
  · by_cases c : z = 10
    · rw [if_pos (cBl_iff.mpr (Or.inr c))]
      simp (disch := omega) only [iz32, iz0, iz1, iz2, iz3, iz4, iz5, iz7, iz8, iz9, iz10, iz15, iz20, iz25, iz30, iz40, iz49, iz99, iz100, iz300, iz343, iz500, iz999, iz1000, iz1200, iz_add, iz_sub, iz_mul, iz_neg, it_le_t, it_le_f, it_lt_t, it_lt_f, it_eq_t, it_eq_f, bz0, bz1, ifg_T, or_true, true_or, if_true, if_false, Option.bind_some, Option.map_some]
    · rw [if_neg (show ¬ cBl z = true from fun w => by have := cBl_iff.mp w; omega)]
      simp (disch := omega) only [iz32, iz0, iz1, iz2, iz3, iz4, iz5, iz7, iz8, iz9, iz10, iz15, iz20, iz25, iz30, iz40, iz49, iz99, iz100, iz300, iz343, iz500, iz999, iz1000, iz1200, iz_add, iz_sub, iz_mul, iz_neg, it_le_t, it_le_f, it_lt_t, it_lt_f, it_eq_t, it_eq_f, bz0, bz1, ifg_T, or_true, true_or, if_true, if_false, Option.bind_some, Option.map_some]
theorem g92 (h1 : -128 ≤ z) (h2 : z ≤ 255) : f92 (iz z) s = some (s, if cLe z = true then iz 1 else iz 0) := by
  unfold f92 f92_16 f92_17
  by_cases a : z < 97
  · rw [if_neg (show ¬ cLe z = true from fun w => by have := cLe_iff.mp w; omega)]
    simp (disch := omega) only [iz97, iz122, iz0, iz1, iz2, iz3, iz4, iz5, iz7, iz8, iz9, iz10, iz15, iz20, iz25, iz30, iz40, iz49, iz99, iz100, iz300, iz343, iz500, iz999, iz1000, iz1200, iz_add, iz_sub, iz_mul, iz_neg, it_le_t, it_le_f, it_lt_t, it_lt_f, it_eq_t, it_eq_f, bz0, bz1, ifg_T, or_true, true_or, if_true, if_false, Option.bind_some, Option.map_some]
  · by_cases c : 122 < z
    · rw [if_neg (show ¬ cLe z = true from fun w => by have := cLe_iff.mp w; omega)]
      simp (disch := omega) only [iz97, iz122, iz0, iz1, iz2, iz3, iz4, iz5, iz7, iz8, iz9, iz10, iz15, iz20, iz25, iz30, iz40, iz49, iz99, iz100, iz300, iz343, iz500, iz999, iz1000, iz1200, iz_add, iz_sub, iz_mul, iz_neg, it_le_t, it_le_f, it_lt_t, it_lt_f, it_eq_t, it_eq_f, bz0, bz1, ifg_T, or_true, true_or, if_true, if_false, Option.bind_some, Option.map_some]
    · rw [if_pos (cLe_iff.mpr ⟨by omega, by omega⟩)]
      simp (disch := omega) only [iz97, iz122, iz0, iz1, iz2, iz3, iz4, iz5, iz7, iz8, iz9, iz10, iz15, iz20, iz25, iz30, iz40, iz49, iz99, iz100, iz300, iz343, iz500, iz999, iz1000, iz1200, iz_add, iz_sub, iz_mul, iz_neg, it_le_t, it_le_f, it_lt_t, it_lt_f, it_eq_t, it_eq_f, bz0, bz1, ifg_T, or_true, true_or, if_true, if_false, Option.bind_some, Option.map_some]
theorem g93 (h1 : -128 ≤ z) (h2 : z ≤ 255) : f93 (iz z) s = some (s, if cDg z = true then iz 1 else iz 0) := by
  unfold f93 f93_16 f93_17
  by_cases a : z < 48
  · rw [if_neg (show ¬ cDg z = true from fun w => by have := cDg_iff.mp w; omega)]
    simp (disch := omega) only [iz48, iz57, iz0, iz1, iz2, iz3, iz4, iz5, iz7, iz8, iz9, iz10, iz15, iz20, iz25, iz30, iz40, iz49, iz99, iz100, iz300, iz343, iz500, iz999, iz1000, iz1200, iz_add, iz_sub, iz_mul, iz_neg, it_le_t, it_le_f, it_lt_t, it_lt_f, it_eq_t, it_eq_f, bz0, bz1, ifg_T, or_true, true_or, if_true, if_false, Option.bind_some, Option.map_some]
  · by_cases c : 57 < z
    · rw [if_neg (show ¬ cDg z = true from fun w => by have := cDg_iff.mp w; omega)]
      simp (disch := omega) only [iz48, iz57, iz0, iz1, iz2, iz3, iz4, iz5, iz7, iz8, iz9, iz10, iz15, iz20, iz25, iz30, iz40, iz49, iz99, iz100, iz300, iz343, iz500, iz999, iz1000, iz1200, iz_add, iz_sub, iz_mul, iz_neg, it_le_t, it_le_f, it_lt_t, it_lt_f, it_eq_t, it_eq_f, bz0, bz1, ifg_T, or_true, true_or, if_true, if_false, Option.bind_some, Option.map_some]
    · rw [if_pos (cDg_iff.mpr ⟨by omega, by omega⟩)]
      simp (disch := omega) only [iz48, iz57, iz0, iz1, iz2, iz3, iz4, iz5, iz7, iz8, iz9, iz10, iz15, iz20, iz25, iz30, iz40, iz49, iz99, iz100, iz300, iz343, iz500, iz999, iz1000, iz1200, iz_add, iz_sub, iz_mul, iz_neg, it_le_t, it_le_f, it_lt_t, it_lt_f, it_eq_t, it_eq_f, bz0, bz1, ifg_T, or_true, true_or, if_true, if_false, Option.bind_some, Option.map_some]
theorem g174 (z0 : -128 ≤ z) (z1 : z ≤ 255) : f174 (iz z) s = some (s, if cLe z = true then iz 1 else iz 0) := by
  have h := g92 (s := s) z0 z1
  unfold f92 f92_16 f92_17 at h
  unfold f174 f174_16 f174_17
  exact h
theorem g175 (z0 : -128 ≤ z) (z1 : z ≤ 255) : f175 (iz z) s = some (s, if cDg z = true then iz 1 else iz 0) := by
  have h := g93 (s := s) z0 z1
  unfold f93 f93_16 f93_17 at h
  unfold f175 f175_16 f175_17
  exact h
/-- what the class holds of the text -/
def CTx (s : xS) (B : Nat → Int) (L : Nat) : Prop := L ≤ 1200 ∧ s.1 1 1 = iz L ∧ ∀ k, k < L → s.1 2 k = iz (B k) ∧ byR (B k)
/-- what it holds of a token -/
def CTk (s : xS) (B : Nat → Int) (L q : Nat) : Prop := s.1 1 5 = iz (tok B L q).1 ∧ s.1 1 6 = iz (tok B L q).2.1 ∧ s.1 1 4 = iz (tok B L q).2.2 ∧ ((tok B L q).1 = 1 → s.2 1 7 = tkW B L q) ∧ ((tok B L q).1 = 2 → s.1 1 8 = iz (tkN B L q))
def Ftk (id k : Nat) : Bool := id == 1 && Nat.ble 4 k && Nat.ble k 8
theorem CTx.fr {F : Nat → Nat → Bool} {s' : xS} {B : Nat → Int} {L : Nat} (h : CTx s B L) (hf : fr F s s') (h1 : F 1 1 = false) (h2 : ∀ k, F 2 k = false) : CTx s' B L := ⟨h.1, by rw [hf.i _ _ h1]; exact h.2.1, fun k hk => by rw [hf.i _ _ (h2 k)]; exact h.2.2 k hk⟩
theorem ct_byte {B : Nat → Int} {L i : Nat} (h : CTx s B L) (hi : i < L) : aB s 2 (iz i) = some (iz (B i)) := by
  have hL := h.1
  rw [A_2]
  simp (disch := omega) only [iz_in, iz_n, nat_toNat, if_true, (h.2.2 i hi).1]
end CK
