/-! numbers by name, runs that end well, loops that count: tools -/
def iz (z : Int) : Int32 := Int32.ofInt z
def lz (z : Int) : Int64 := Int64.ofInt z
theorem iz_t {z : Int} (h1 : -2147483648 ≤ z) (h2 : z ≤ 2147483647) : (iz z).toInt = z := Int32.toInt_ofInt_of_le (by omega) (by omega)
theorem iz_of {i : Int32} {z : Int} (h : i.toInt = z) : i = iz z := by rw [← h]; exact (Int32.ofInt_toInt i).symm
theorem iz_self (i : Int32) : iz i.toInt = i := Int32.ofInt_toInt i
theorem lz_t {z : Int} (h1 : -9223372036854775808 ≤ z) (h2 : z ≤ 9223372036854775807) : (lz z).toInt = z := by
  show (Int64.ofInt z).toInt = z
  rw [Int64.toInt_ofInt]
  exact bm64 h1 h2
theorem lz_of {i : Int64} {z : Int} (h : i.toInt = z) : i = lz z := by rw [← h]; exact (Int64.ofInt_toInt i).symm
theorem iz_add (a b : Int) : iz a + iz b = iz (a + b) := (Int32.ofInt_add a b).symm
theorem iz_sub (a b : Int) : iz a - iz b = iz (a - b) := (Int32.ofInt_sub a b).symm
theorem iz_mul (a b : Int) : iz a * iz b = iz (a * b) := (Int32.ofInt_mul a b).symm
theorem iz_neg (a : Int) : -iz a = iz (-a) := (Int32.ofInt_neg a).symm
theorem lz_add (a b : Int) : lz a + lz b = lz (a + b) := (Int64.ofInt_add a b).symm
theorem lz_sub (a b : Int) : lz a - lz b = lz (a - b) := (Int64.ofInt_sub a b).symm
theorem lz_mul (a b : Int) : lz a * lz b = lz (a * b) := (Int64.ofInt_mul a b).symm
theorem lz_neg (a : Int) : -lz a = lz (-a) := (Int64.ofInt_neg a).symm
theorem iz_le {a b : Int} (h1 : -2147483648 ≤ a) (h2 : a ≤ 2147483647) (h3 : -2147483648 ≤ b) (h4 : b ≤ 2147483647) : iz a ≤ iz b ↔ a ≤ b := by rw [i_le, iz_t h1 h2, iz_t h3 h4]
theorem iz_lt {a b : Int} (h1 : -2147483648 ≤ a) (h2 : a ≤ 2147483647) (h3 : -2147483648 ≤ b) (h4 : b ≤ 2147483647) : iz a < iz b ↔ a < b := by rw [i_lt, iz_t h1 h2, iz_t h3 h4]
theorem iz_eq {a b : Int} (h1 : -2147483648 ≤ a) (h2 : a ≤ 2147483647) (h3 : -2147483648 ≤ b) (h4 : b ≤ 2147483647) : iz a = iz b ↔ a = b := by rw [i_eq, iz_t h1 h2, iz_t h3 h4]
theorem lz_eq {a b : Int} (h1 : -9223372036854775808 ≤ a) (h2 : a ≤ 9223372036854775807) (h3 : -9223372036854775808 ≤ b) (h4 : b ≤ 9223372036854775807) : lz a = lz b ↔ a = b := by rw [l_eq, lz_t h1 h2, lz_t h3 h4]
section IT
variable {α : Type} {x y : α} {a b : Int}
theorem it_le_t {dc : Decidable (iz a ≤ iz b)} (h : a ≤ b) (h1 : -2147483648 ≤ a) (h2 : b ≤ 2147483647) : @ite α (iz a ≤ iz b) dc x y = x := if_pos ((iz_le h1 (by omega) (by omega) h2).mpr h)
theorem it_le_f {dc : Decidable (iz a ≤ iz b)} (h : b < a) (h1 : -2147483648 ≤ b) (h2 : a ≤ 2147483647) : @ite α (iz a ≤ iz b) dc x y = y := if_neg (fun q => by have := (iz_le (by omega) (by omega) (by omega) (by omega)).mp q; omega)
theorem it_lt_t {dc : Decidable (iz a < iz b)} (h : a < b) (h1 : -2147483648 ≤ a) (h2 : b ≤ 2147483647) : @ite α (iz a < iz b) dc x y = x := if_pos ((iz_lt h1 (by omega) (by omega) h2).mpr h)
theorem it_lt_f {dc : Decidable (iz a < iz b)} (h : b ≤ a) (h1 : -2147483648 ≤ b) (h2 : a ≤ 2147483647) : @ite α (iz a < iz b) dc x y = y := if_neg (fun q => by have := (iz_lt (by omega) (by omega) (by omega) (by omega)).mp q; omega)
theorem it_eq_t {dc : Decidable (iz a = iz b)} (h : a = b) : @ite α (iz a = iz b) dc x y = x := if_pos (by rw [h])
theorem it_eq_f {dc : Decidable (iz a = iz b)} (h : a ≠ b) (h1 : -2147483648 ≤ a) (h2 : a ≤ 2147483647) (h3 : -2147483648 ≤ b) (h4 : b ≤ 2147483647) : @ite α (iz a = iz b) dc x y = y := if_neg (fun q => h ((iz_eq h1 h2 h3 h4).mp q))
end IT
theorem nz {b : Int} {dc : Decidable (¬ iz b = 0)} (h : b ≠ 0) (h1 : -2147483648 ≤ b) (h2 : b ≤ 2147483647) {α : Type} (a : Option α) : @ifg α (¬ iz b = 0) dc a = a := ifg_pos (fun q => h ((iz_eq h1 h2 (by omega) (by omega)).mp (q.trans (show (0 : Int32) = iz 0 from rfl))))
theorem nz' {b : Int} {dc : Decidable (¬ iz b = iz 0)} (h : b ≠ 0) (h1 : -2147483648 ≤ b) (h2 : b ≤ 2147483647) {α : Type} (a : Option α) : @ifg α (¬ iz b = iz 0) dc a = a := ifg_pos (fun q => h ((iz_eq h1 h2 (by omega) (by omega)).mp q))
theorem iz_rem {a b : Int} (h0 : 0 < b) (h1 : -2147483648 ≤ a) (h2 : a ≤ 2147483647) (h3 : b ≤ 2147483647) : irm (iz a) (iz b) = iz (a.tmod b) := iz_of (i_rem (iz_t h1 h2) (iz_t (by omega) h3) h0)
theorem iz_div {a b : Int} (h0 : 0 < b) (h1 : -2147483648 ≤ a) (h2 : a ≤ 2147483647) (h3 : b ≤ 2147483647) : iz a / iz b = iz (a.tdiv b) := iz_of (i_div (iz_t h1 h2) (iz_t (by omega) h3) h0)
theorem iz_remN {a b : Nat} (h0 : 0 < b) (h1 : a ≤ 2147483647) (h2 : b ≤ 2147483647) : irm (iz a) (iz b) = iz ((a % b : Nat) : Int) := iz_of (i_remN (iz_t (by omega) (by omega)) (iz_t (by omega) (by omega)) h0)
theorem iz_divN {a b : Nat} (h0 : 0 < b) (h1 : a ≤ 2147483647) (h2 : b ≤ 2147483647) : iz a / iz b = iz ((a / b : Nat) : Int) := iz_of (i_divN (iz_t (by omega) (by omega)) (iz_t (by omega) (by omega)) h0)
theorem iz_n {z : Int} (h1 : -2147483648 ≤ z) (h2 : z ≤ 2147483647) : (iz z).toNatClampNeg = z.toNat := cl_nat (iz_t h1 h2)
theorem iz_in {z : Int} {n : Nat} (h0 : 0 ≤ z) (h1 : z < n) (h2 : n ≤ 2147483647) : xm_in (iz z) n = true := in_ok (iz_t (by omega) (by omega)) h0 h1
theorem iz_out {z : Int} {n : Nat} (h0 : z < 0 ∨ (n : Int) ≤ z) (h1 : -2147483648 ≤ z) (h2 : z ≤ 2147483647) : xm_in (iz z) n = false := in_no (iz_t h1 h2) h0
theorem iz_l {z : Int} (h1 : -2147483648 ≤ z) (h2 : z ≤ 2147483647) : (iz z).toInt64 = lz z := lz_of (i2l (iz_t h1 h2))
theorem lz_i {z : Int} (h1 : -2147483648 ≤ z) (h2 : z ≤ 2147483647) : (lz z).toInt32 = iz z := iz_of (l2i (lz_t (by omega) (by omega)) h1 h2)
theorem lz_div {a b : Int} (h0 : 0 < b) (h1 : -9223372036854775808 ≤ a) (h2 : a ≤ 9223372036854775807) (h3 : b ≤ 9223372036854775807) : lz a / lz b = lz (a.tdiv b) := lz_of (l_div (lz_t h1 h2) (lz_t (by omega) h3) h0)
theorem lz_rem {a b : Int} (h0 : 0 < b) (h1 : -9223372036854775808 ≤ a) (h2 : a ≤ 9223372036854775807) (h3 : b ≤ 9223372036854775807) : lrm (lz a) (lz b) = lz (a.tmod b) := lz_of (l_rem (lz_t h1 h2) (lz_t (by omega) h3) h0)
/-- a run that ends well -/
def ok {α : Type} (p : Option α) (Q : α → Prop) : Prop := ∃ r, p = some r ∧ Q r
theorem ok_some {α : Type} {a : α} {Q : α → Prop} : ok (some a) Q ↔ Q a := ⟨fun ⟨r, h1, h2⟩ => by cases h1; exact h2, fun h => ⟨a, rfl, h⟩⟩
theorem ok_bind {α β : Type} {p : Option α} {f : α → Option β} {Q : β → Prop} : ok (p.bind f) Q ↔ ok p (fun r => ok (f r) Q) := by
  constructor
  · rintro ⟨r, h1, h2⟩
    obtain ⟨a, h3, h4⟩ := Option.bind_eq_some_iff.mp h1
    exact ⟨a, h3, r, h4, h2⟩
  · rintro ⟨a, h3, r, h4, h2⟩
    exact ⟨r, by rw [h3]; exact h4, h2⟩
theorem ok_map {α β : Type} {p : Option α} {Q : β ⊕ α → Prop} : ok (Option.map Sum.inr p) Q ↔ ok p (fun r => Q (.inr r)) := by
  constructor
  · rintro ⟨r, h1, h2⟩
    obtain ⟨a, h3, rfl⟩ := Option.map_eq_some_iff.mp h1
    exact ⟨a, h3, h2⟩
  · rintro ⟨a, h3, h4⟩
    exact ⟨.inr a, by rw [h3]; rfl, h4⟩
theorem ok.mono {α : Type} {p : Option α} {Q R : α → Prop} (h : ok p Q) (hQ : ∀ r, Q r → R r) : ok p R := by
  obtain ⟨r, h1, h2⟩ := h
  exact ⟨r, h1, hQ r h2⟩
theorem ok.and {α : Type} {p : Option α} {Q R : α → Prop} (h : ok p Q) (h' : ok p R) : ok p (fun r => Q r ∧ R r) := by
  obtain ⟨r, h1, h2⟩ := h
  obtain ⟨r', h3, h4⟩ := h'
  rw [h1] at h3
  cases h3
  exact ⟨r, h1, h2, h4⟩
theorem ok.bind {α β : Type} {p : Option α} {f : α → Option β} {P : α → Prop} {Q : β → Prop} (h : ok p P) (hf : ∀ r, P r → ok (f r) Q) : ok (p.bind f) Q := ok_bind.mpr (h.mono hf)
theorem ok.eq {α : Type} {p : Option α} {a : α} {Q : α → Prop} (h : p = some a) (hq : Q a) : ok p Q := ⟨a, h, hq⟩
/-- behind one turn of a loop -/
def lp {R : Type} (z : Int) (I : xS → Prop) (Q : R → Prop) : (Int32 × xS) ⊕ R → Prop
  | .inl q => q.1 = iz z ∧ I q.2
  | .inr r => Q r
def lpA {A R : Type} (z : Int) (I : A → xS → Prop) (Q : R → Prop) : (A × Int32 × xS) ⊕ R → Prop
  | .inl q => q.2.1 = iz z ∧ I q.1 q.2.2
  | .inr r => Q r
theorem lp_l {R : Type} {z : Int} {I : xS → Prop} {Q : R → Prop} {i : Int32} {s : xS} : lp z I Q (.inl (i, s)) ↔ i = iz z ∧ I s := Iff.rfl
theorem lp_r {R : Type} {z : Int} {I : xS → Prop} {Q : R → Prop} {r : R} : lp z I Q (.inr r) ↔ Q r := Iff.rfl
theorem lpA_l {A R : Type} {z : Int} {I : A → xS → Prop} {Q : R → Prop} {a : A} {i : Int32} {s : xS} : lpA z I Q (.inl (a, i, s)) ↔ i = iz z ∧ I a s := Iff.rfl
theorem lpA_r {A R : Type} {z : Int} {I : A → xS → Prop} {Q : R → Prop} {r : R} : lpA z I Q (.inr r) ↔ Q r := Iff.rfl
theorem forz {R : Type} {body : Int32 × xS → Option ((Int32 × xS) ⊕ R)} (I : Nat → xS → Prop) (a b : Nat) {Q : R → Prop} {s0 : xS} (hab : a ≤ b) (hb : b < 2147483647) (h0 : I a s0)
    (hstep : ∀ (n : Nat) (s : xS), a ≤ n → n < b → I n s → ok (body (iz n, s)) (lp ((n : Int) + 1) (I (n + 1)) Q))
    (hend : ∀ (s : xS), I b s → ok (body (iz b, s)) (lp 0 (fun _ => False) Q)) : ok (whl body (iz a, s0)) Q := by
  refine for_rule I a b Q hab hb (fun n i s h1 h2 h3 h4 h5 => ?_) (fun i s h1 h2 => ?_) (iz_t (by omega) (by omega)) h0
  · obtain rfl := iz_of h3
    obtain ⟨r, h6, h7⟩ := hstep n s h1 h2 h5
    cases r with
    | inl q =>
      obtain ⟨q1, q2⟩ := q
      left
      exact ⟨q2, by rw [h6, iz_of h4]; have e : q1 = iz ((n : Int) + 1) := h7.1; rw [e]; rfl, h7.2⟩
    | inr r => exact Or.inr ⟨r, h6, h7⟩
  · obtain rfl := iz_of h1
    obtain ⟨r, h6, h7⟩ := hend s h2
    cases r with
    | inl q => exact h7.2.elim
    | inr r => exact ⟨r, h6, h7⟩
theorem forzA {A R : Type} {body : A × Int32 × xS → Option ((A × Int32 × xS) ⊕ R)} (I : Nat → A → xS → Prop) (a b : Nat) {Q : R → Prop} {c0 : A} {s0 : xS} (hab : a ≤ b) (hb : b < 2147483647) (h0 : I a c0 s0)
    (hstep : ∀ (n : Nat) (c : A) (s : xS), a ≤ n → n < b → I n c s → ok (body (c, iz n, s)) (lpA ((n : Int) + 1) (I (n + 1)) Q))
    (hend : ∀ (c : A) (s : xS), I b c s → ok (body (c, iz b, s)) (lpA 0 (fun _ _ => False) Q)) : ok (whl body (c0, iz a, s0)) Q := by
  refine for_ruleA I a b Q hab hb (fun n c i s h1 h2 h3 h4 h5 => ?_) (fun c i s h1 h2 => ?_) (iz_t (by omega) (by omega)) h0
  · obtain rfl := iz_of h3
    obtain ⟨r, h6, h7⟩ := hstep n c s h1 h2 h5
    cases r with
    | inl q =>
      obtain ⟨q1, q2, q3⟩ := q
      left
      exact ⟨q1, q3, by rw [h6, iz_of h4]; have e : q2 = iz ((n : Int) + 1) := h7.1; rw [e]; rfl, h7.2⟩
    | inr r => exact Or.inr ⟨r, h6, h7⟩
  · obtain rfl := iz_of h1
    obtain ⟨r, h6, h7⟩ := hend c s h2
    cases r with
    | inl q => exact h7.2.elim
    | inr r => exact ⟨r, h6, h7⟩
theorem up_id {α : Type} (f : Nat → Nat → α) {a i b j : Nat} (v : α) (h : b ≠ a) : xm_up f a i v b j = f b j := up_ne f v (fun q => h q.1)
theorem up_ix {α : Type} (f : Nat → Nat → α) {a i j : Nat} (v : α) (h : j ≠ i) : xm_up f a i v a j = f a j := up_ne f v (fun q => h q.2)
theorem up_at {α : Type} (f : Nat → Nat → α) {a i j : Nat} (v : α) (h : j = i) : xm_up f a i v a j = v := by rw [h]; exact up_eq f a i v
theorem lg_lt {α : Type} {x y : α} {a b : Int64} : (if lg_cmp a b < 0 then x else y) = if a.toInt < b.toInt then x else y := by simp only [cmp_lt]
/-- comparisons of longs -/
theorem lc_lt {a b : Int} (h1 : -9223372036854775808 ≤ a) (h2 : a ≤ 9223372036854775807) (h3 : -9223372036854775808 ≤ b) (h4 : b ≤ 9223372036854775807) : lg_cmp (lz a) (lz b) < 0 ↔ a < b := by rw [cmp_lt, lz_t h1 h2, lz_t h3 h4]
theorem lc_le {a b : Int} (h1 : -9223372036854775808 ≤ a) (h2 : a ≤ 9223372036854775807) (h3 : -9223372036854775808 ≤ b) (h4 : b ≤ 9223372036854775807) : lg_cmp (lz a) (lz b) ≤ 0 ↔ a ≤ b := by rw [cmp_le, lz_t h1 h2, lz_t h3 h4]
theorem lc_gt {a b : Int} (h1 : -9223372036854775808 ≤ a) (h2 : a ≤ 9223372036854775807) (h3 : -9223372036854775808 ≤ b) (h4 : b ≤ 9223372036854775807) : 0 < lg_cmp (lz a) (lz b) ↔ b < a := by rw [cmp_gt, lz_t h1 h2, lz_t h3 h4]
theorem lc_ge {a b : Int} (h1 : -9223372036854775808 ≤ a) (h2 : a ≤ 9223372036854775807) (h3 : -9223372036854775808 ≤ b) (h4 : b ≤ 9223372036854775807) : 0 ≤ lg_cmp (lz a) (lz b) ↔ b ≤ a := by rw [cmp_ge, lz_t h1 h2, lz_t h3 h4]
theorem lc_eq {a b : Int} (h1 : -9223372036854775808 ≤ a) (h2 : a ≤ 9223372036854775807) (h3 : -9223372036854775808 ≤ b) (h4 : b ≤ 9223372036854775807) : lg_cmp (lz a) (lz b) = 0 ↔ a = b := by rw [cmp_eq, lz_t h1 h2, lz_t h3 h4]
section IL
variable {α : Type} {x y : α} {a b : Int}
theorem lk_le_t {dc : Decidable (lg_cmp (lz a) (lz b) ≤ iz 0)} (h : a ≤ b) (h1 : -9223372036854775808 ≤ a) (h2 : a ≤ 9223372036854775807) (h3 : -9223372036854775808 ≤ b) (h4 : b ≤ 9223372036854775807) : @ite α (lg_cmp (lz a) (lz b) ≤ iz 0) dc x y = x := if_pos ((lc_le h1 h2 h3 h4).mpr h)
theorem lk_le_f {dc : Decidable (lg_cmp (lz a) (lz b) ≤ iz 0)} (h : b < a) (h1 : -9223372036854775808 ≤ a) (h2 : a ≤ 9223372036854775807) (h3 : -9223372036854775808 ≤ b) (h4 : b ≤ 9223372036854775807) : @ite α (lg_cmp (lz a) (lz b) ≤ iz 0) dc x y = y := if_neg (fun q => by have := (lc_le h1 h2 h3 h4).mp q; omega)
theorem lk_lt_t {dc : Decidable (lg_cmp (lz a) (lz b) < iz 0)} (h : a < b) (h1 : -9223372036854775808 ≤ a) (h2 : a ≤ 9223372036854775807) (h3 : -9223372036854775808 ≤ b) (h4 : b ≤ 9223372036854775807) : @ite α (lg_cmp (lz a) (lz b) < iz 0) dc x y = x := if_pos ((lc_lt h1 h2 h3 h4).mpr h)
theorem lk_lt_f {dc : Decidable (lg_cmp (lz a) (lz b) < iz 0)} (h : b ≤ a) (h1 : -9223372036854775808 ≤ a) (h2 : a ≤ 9223372036854775807) (h3 : -9223372036854775808 ≤ b) (h4 : b ≤ 9223372036854775807) : @ite α (lg_cmp (lz a) (lz b) < iz 0) dc x y = y := if_neg (fun q => by have := (lc_lt h1 h2 h3 h4).mp q; omega)
theorem lk_gt_t {dc : Decidable (iz 0 < lg_cmp (lz a) (lz b))} (h : b < a) (h1 : -9223372036854775808 ≤ a) (h2 : a ≤ 9223372036854775807) (h3 : -9223372036854775808 ≤ b) (h4 : b ≤ 9223372036854775807) : @ite α (iz 0 < lg_cmp (lz a) (lz b)) dc x y = x := if_pos ((lc_gt h1 h2 h3 h4).mpr h)
theorem lk_gt_f {dc : Decidable (iz 0 < lg_cmp (lz a) (lz b))} (h : a ≤ b) (h1 : -9223372036854775808 ≤ a) (h2 : a ≤ 9223372036854775807) (h3 : -9223372036854775808 ≤ b) (h4 : b ≤ 9223372036854775807) : @ite α (iz 0 < lg_cmp (lz a) (lz b)) dc x y = y := if_neg (fun q => by have := (lc_gt h1 h2 h3 h4).mp q; omega)
theorem lk_ge_t {dc : Decidable (iz 0 ≤ lg_cmp (lz a) (lz b))} (h : b ≤ a) (h1 : -9223372036854775808 ≤ a) (h2 : a ≤ 9223372036854775807) (h3 : -9223372036854775808 ≤ b) (h4 : b ≤ 9223372036854775807) : @ite α (iz 0 ≤ lg_cmp (lz a) (lz b)) dc x y = x := if_pos ((lc_ge h1 h2 h3 h4).mpr h)
theorem lk_ge_f {dc : Decidable (iz 0 ≤ lg_cmp (lz a) (lz b))} (h : a < b) (h1 : -9223372036854775808 ≤ a) (h2 : a ≤ 9223372036854775807) (h3 : -9223372036854775808 ≤ b) (h4 : b ≤ 9223372036854775807) : @ite α (iz 0 ≤ lg_cmp (lz a) (lz b)) dc x y = y := if_neg (fun q => by have := (lc_ge h1 h2 h3 h4).mp q; omega)
theorem lk_eq_t {dc : Decidable (lg_cmp (lz a) (lz b) = iz 0)} (h : a = b) (h1 : -9223372036854775808 ≤ a) (h2 : a ≤ 9223372036854775807) (h3 : -9223372036854775808 ≤ b) (h4 : b ≤ 9223372036854775807) : @ite α (lg_cmp (lz a) (lz b) = iz 0) dc x y = x := if_pos ((lc_eq h1 h2 h3 h4).mpr h)
theorem lk_eq_f {dc : Decidable (lg_cmp (lz a) (lz b) = iz 0)} (h : a ≠ b) (h1 : -9223372036854775808 ≤ a) (h2 : a ≤ 9223372036854775807) (h3 : -9223372036854775808 ≤ b) (h4 : b ≤ 9223372036854775807) : @ite α (lg_cmp (lz a) (lz b) = iz 0) dc x y = y := if_neg (fun q => by have := (lc_eq h1 h2 h3 h4).mp q; omega)
theorem lnz {b : Int} {dc : Decidable (¬ lz b = lz 0)} (h : b ≠ 0) (h1 : -9223372036854775808 ≤ b) (h2 : b ≤ 9223372036854775807) {α : Type} (a : Option α) : @ifg α (¬ lz b = lz 0) dc a = a := ifg_pos (fun q => h ((lz_eq h1 h2 (by omega) (by omega)).mp q))
theorem zb0' {α : Type} {dc : Decidable (iz 0 = iz 0 ∨ iz 0 = iz 1)} (a : Option α) : @ifg α (iz 0 = iz 0 ∨ iz 0 = iz 1) dc a = a := ifg_pos (Or.inl rfl)
theorem ifg_t {α : Type} {c : Prop} {dc : Decidable c} (h : c) (a : Option α) : @ifg α c dc a = a := ifg_pos h
theorem bz0 {α : Type} {dc : Decidable (True ∨ iz 0 = iz 1)} (a : Option α) : @ifg α (True ∨ iz 0 = iz 1) dc a = a := ifg_pos (Or.inl trivial)
theorem bz1 {α : Type} {dc : Decidable (iz 1 = iz 0 ∨ True)} (a : Option α) : @ifg α (iz 1 = iz 0 ∨ True) dc a = a := ifg_pos (Or.inr trivial)
theorem ifg_T {α : Type} {dc : Decidable True} (a : Option α) : @ifg α True dc a = a := ifg_pos trivial
end IL
theorem lz0 : (0 : Int64) = lz 0 := by decide +kernel
theorem lz1 : (1 : Int64) = lz 1 := by decide +kernel
theorem iz0 : (0 : Int32) = iz 0 := by decide +kernel
theorem iz1 : (1 : Int32) = iz 1 := by decide +kernel
theorem iz2 : (2 : Int32) = iz 2 := by decide +kernel
theorem iz3 : (3 : Int32) = iz 3 := by decide +kernel
theorem iz4 : (4 : Int32) = iz 4 := by decide +kernel
theorem iz5 : (5 : Int32) = iz 5 := by decide +kernel
theorem iz7 : (7 : Int32) = iz 7 := by decide +kernel
theorem iz8 : (8 : Int32) = iz 8 := by decide +kernel
theorem iz9 : (9 : Int32) = iz 9 := by decide +kernel
theorem iz10 : (10 : Int32) = iz 10 := by decide +kernel
theorem iz15 : (15 : Int32) = iz 15 := by decide +kernel
theorem iz20 : (20 : Int32) = iz 20 := by decide +kernel
theorem iz25 : (25 : Int32) = iz 25 := by decide +kernel
theorem iz30 : (30 : Int32) = iz 30 := by decide +kernel
theorem iz40 : (40 : Int32) = iz 40 := by decide +kernel
theorem iz49 : (49 : Int32) = iz 49 := by decide +kernel
theorem iz99 : (99 : Int32) = iz 99 := by decide +kernel
theorem iz100 : (100 : Int32) = iz 100 := by decide +kernel
theorem iz300 : (300 : Int32) = iz 300 := by decide +kernel
theorem iz343 : (343 : Int32) = iz 343 := by decide +kernel
theorem iz500 : (500 : Int32) = iz 500 := by decide +kernel
theorem iz999 : (999 : Int32) = iz 999 := by decide +kernel
theorem iz1000 : (1000 : Int32) = iz 1000 := by decide +kernel
theorem iz1200 : (1200 : Int32) = iz 1200 := by decide +kernel
theorem izm1 : (-1 : Int32) = iz (-1) := by decide +kernel
theorem izm2 : (-2 : Int32) = iz (-2) := by decide +kernel
theorem izm999 : (-999 : Int32) = iz (-999) := by decide +kernel
theorem izm100000 : (-100000 : Int32) = iz (-100000) := by decide +kernel
theorem nat_toNat (k : Nat) : ((k : Int)).toNat = k := rfl
theorem zb0 {α : Type} (a : Option α) : ifg ((0 : Int32) = 0 ∨ (0 : Int32) = 1) a = a := ifg_pos (Or.inl rfl)
theorem zb1 {α : Type} (a : Option α) : ifg ((1 : Int32) = 0 ∨ (1 : Int32) = 1) a = a := ifg_pos (Or.inr rfl)
theorem one_ne : ¬ (1 : Int32) = 0 := by decide
