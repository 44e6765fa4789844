theorem cmpI (a b : Int32) (s : xS) : f284 a b s = some (s, if a < b then -1 else if a = b then 0 else 1) := by
  unfold f284
  by_cases h1 : a < b
  · have : ¬ b ≤ a := fun q => by have := i_le.mp q; have := i_lt.mp h1; omega
    simp [h1, this, f284_19]
  · have h2 : b ≤ a := i_le.mpr (by have : ¬ a.toInt < b.toInt := fun q => h1 (i_lt.mpr q); omega)
    by_cases h3 : a = b
    · simp [h1, h2, h3, f284_19]
    · simp [h1, h2, h3, f284_19]
theorem ratio_lt {wi li wo lo wj lj : Int} (hi : 0 < li) (ho : 0 < lo) (hj : 0 < lj) (h1 : wi * lo < wo * li) (h2 : wo * lj ≤ wj * lo) : wi * lj < wj * li := by
  have e1 := Int.mul_lt_mul_of_pos_right h1 hj
  have e2 := Int.mul_le_mul_of_nonneg_right h2 (show 0 ≤ li by omega)
  have e3 : lo * (wi * lj) < lo * (wj * li) := by
    have k1 : lo * (wi * lj) = wi * lo * lj := by grind
    have k2 : wo * li * lj = wo * lj * li := by grind
    have k3 : lo * (wj * li) = wj * lo * li := by grind
    omega
  exact Int.lt_of_mul_lt_mul_left e3 (by omega)
theorem ratio_le {wi li wo lo wj lj : Int} (hi : 0 < li) (ho : 0 < lo) (hj : 0 < lj) (h1 : wi * lo = wo * li) (h2 : wo * lj < wj * lo) : wi * lj < wj * li := by
  have e2 := Int.mul_lt_mul_of_pos_right h2 hi
  have e3 : lo * (wi * lj) < lo * (wj * li) := by
    have k1 : lo * (wi * lj) = wi * lo * lj := by grind
    have k2 : wo * li * lj = wo * lj * li := by grind
    have k3 : lo * (wj * li) = wj * lo * li := by grind
    rw [k1, h1, k2, k3]
    exact e2
  exact Int.lt_of_mul_lt_mul_left e3 (by omega)
theorem ratio_eq {wi li wo lo wj lj : Int} (ho : 0 < lo) (h1 : wi * lo = wo * li) (h2 : wo * lj = wj * lo) : wi * lj = wj * li := by
  have e3 : lo * (wi * lj) = lo * (wj * li) := by
    have k1 : lo * (wi * lj) = wi * lo * lj := by grind
    have k2 : wo * li * lj = wo * lj * li := by grind
    rw [k1, h1, k2, h2]
    grind
  exact Int.eq_of_mul_eq_mul_left (by omega) e3
/-- the corner that goes out: o, by the weights w of the middle and l of the cell, n of the corners looked at -/
def ex_best (w l : Nat → Int) (C : Nat → Nat) (n o : Nat) : Prop := o < n ∧ 0 < l o ∧ ∀ j, j < n → j ≠ o → 0 < l j → w o * l j < w j * l o ∨ (w o * l j = w j * l o ∧ C o < C j)
theorem ex_new {w l : Nat → Int} {C : Nat → Nat} {n o : Nat} (h : ex_best w l C n o) (hl : 0 < l n) (hb : w n * l o < w o * l n ∨ (w n * l o = w o * l n ∧ C n < C o)) : ex_best w l C (n + 1) n := by
  obtain ⟨h1, h2, h3⟩ := h
  refine ⟨by omega, hl, fun j hj hne hlj => ?_⟩
  by_cases e : j = o
  · subst e
    exact hb
  · rcases h3 j (by omega) e hlj with q | ⟨q1, q2⟩
    · rcases hb with r | ⟨r1, r2⟩
      · exact Or.inl (ratio_lt hl h2 hlj r (by omega))
      · exact Or.inl (ratio_le hl h2 hlj r1 q)
    · rcases hb with r | ⟨r1, r2⟩
      · exact Or.inl (ratio_lt hl h2 hlj r (by omega))
      · exact Or.inr ⟨ratio_eq h2 r1 q1, by omega⟩
theorem ex_old {w l : Nat → Int} {C : Nat → Nat} {n o : Nat} (h : ex_best w l C n o) (hb : 0 < l n → w o * l n < w n * l o ∨ (w o * l n = w n * l o ∧ C o < C n)) : ex_best w l C (n + 1) o := by
  obtain ⟨h1, h2, h3⟩ := h
  refine ⟨by omega, h2, fun j hj hne hlj => ?_⟩
  by_cases e : j = n
  · subst e
    exact hb hlj
  · exact h3 j (by omega) hne hlj
set_option maxHeartbeats 2000000 in
theorem rs_exchange {s : xS} {m : Nat} {X Y Z : Nat → Int} (hs : RS s m X Y Z) {C : Nat → Nat} (hC : ∀ n, n < 3 → (s.1 44 n).toInt = C n ∧ C n < m) (hCd : ∀ i j, i < 3 → j < 3 → C i = C j → i = j) {e : Nat} {x1 : Int32} (he : x1.toInt = e) (hem : e < m) {x y : Int} (hx : (s.1 40 6).toInt = x) (hy : (s.1 40 7).toInt = y) (x0 : 0 ≤ x) (x9 : x ≤ 100) (y0 : 0 ≤ y) (y9 : y ≤ 100)
    (hex : ∃ n, n < 3 ∧ 0 < ge_d X Y (C ((n + 1) % 3)) (C ((n + 2) % 3)) e) :
    ∃ o, o < 3 ∧ f52 40 x1 s = some ((xm_up s.1 44 o x1, s.2), ()) ∧ ex_best (fun n => ge_o X Y (C ((n + 1) % 3)) (C ((n + 2) % 3)) x y m) (fun n => ge_d X Y (C ((n + 1) % 3)) (C ((n + 2) % 3)) e) C 3 o := by
  have hs0 := hs
  obtain ⟨hm, m4, m25, hp⟩ := hs
  obtain ⟨xe, ye, -, xe0, xe4, ye0, ye4, -, -⟩ := hp e hem
  have ie : xm_in x1 25 = true := in_ok he (by omega) (by omega)
  have ne : x1.toNatClampNeg = e := by rw [cl_nat he]; rfl
  let w : Nat → Int := fun n => ge_o X Y (C ((n + 1) % 3)) (C ((n + 2) % 3)) x y m
  let l : Nat → Int := fun n => ge_d X Y (C ((n + 1) % 3)) (C ((n + 2) % 3)) e
  have hwb : ∀ n, n < 3 → -2000 ≤ w n ∧ w n ≤ 2000 := by
    intro n hn
    obtain ⟨-, l1⟩ := hC ((n + 1) % 3) (by omega)
    obtain ⟨-, l2⟩ := hC ((n + 2) % 3) (by omega)
    obtain ⟨-, -, -, a1, a2, a3, a4, -, -⟩ := hp _ l1
    obtain ⟨-, -, -, b1, b2, b3, b4, -, -⟩ := hp _ l2
    have q1 := mb4 (x := X (C ((n + 1) % 3))) (y := Y (C ((n + 2) % 3))) (by omega) (by omega) (by omega) (by omega)
    have q2 := mb4 (x := X (C ((n + 2) % 3))) (y := Y (C ((n + 1) % 3))) (by omega) (by omega) (by omega) (by omega)
    have q3 := mbd (B := 25) (C := 32) (x := (m : Int)) (by omega) (by omega) (show -32 ≤ X (C ((n + 1) % 3)) * Y (C ((n + 2) % 3)) - X (C ((n + 2) % 3)) * Y (C ((n + 1) % 3)) by omega) (by omega)
    have q4 := mbd (B := 100) (C := 4) (show -100 ≤ y by omega) y9 (show -4 ≤ X (C ((n + 2) % 3)) - X (C ((n + 1) % 3)) by omega) (by omega)
    have q5 := mbd (B := 100) (C := 4) (show -100 ≤ x by omega) x9 (show -4 ≤ Y (C ((n + 2) % 3)) - Y (C ((n + 1) % 3)) by omega) (by omega)
    show -2000 ≤ ge_o X Y _ _ x y m ∧ ge_o X Y _ _ x y m ≤ 2000
    unfold ge_o
    omega
  have hlb : ∀ n, n < 3 → -32 ≤ l n ∧ l n ≤ 32 := by
    intro n hn
    obtain ⟨-, l1⟩ := hC ((n + 1) % 3) (by omega)
    obtain ⟨-, l2⟩ := hC ((n + 2) % 3) (by omega)
    obtain ⟨-, -, -, a1, a2, a3, a4, -, -⟩ := hp _ l1
    obtain ⟨-, -, -, b1, b2, b3, b4, -, -⟩ := hp _ l2
    have q1 := mb4 (x := X (C ((n + 2) % 3)) - X (C ((n + 1) % 3))) (y := Y e - Y (C ((n + 1) % 3))) (by omega) (by omega) (by omega) (by omega)
    have q2 := mb4 (x := X e - X (C ((n + 1) % 3))) (y := Y (C ((n + 2) % 3)) - Y (C ((n + 1) % 3))) (by omega) (by omega) (by omega) (by omega)
    show -32 ≤ ge_d X Y _ _ e ∧ ge_d X Y _ _ e ≤ 32
    unfold ge_d
    omega
  have hw := whl_rule (body := fun q : Int32 × Int32 × Int32 × Int32 × xS => f52_10 40 x1 q.1 q.2.1 q.2.2.1 q.2.2.2.1 q.2.2.2.2)
    (fun q => q.2.2.2.2 = s ∧ ∃ n : Nat, n ≤ 3 ∧ q.2.2.2.1.toInt = n ∧ ((q.1 = -1 ∧ q.2.1.toInt = 0 ∧ q.2.2.1.toInt = 0 ∧ ∀ j, j < n → l j ≤ 0) ∨ ∃ o, q.1.toInt = (o : Nat) ∧ q.2.1.toInt = l o ∧ q.2.2.1.toInt = w o ∧ ex_best w l C n o))
    (fun q => 3 - q.2.2.2.1.toInt.toNat) (fun r : xS × Unit => ∃ o, o < 3 ∧ r.1 = (xm_up s.1 44 o x1, s.2) ∧ ex_best w l C 3 o) ?_ (-1, 0, 0, 0, s) ⟨rfl, 0, by omega, rfl, Or.inl ⟨rfl, rfl, rfl, fun j h => by omega⟩⟩
  · obtain ⟨⟨r, u⟩, h1, o, h2, h3, h4⟩ := hw
    refine ⟨o, h2, ?_, h4⟩
    unfold f52
    rw [ifg_pos O_40]
    dsimp only at h3
    subst h3
    exact h1
  · rintro ⟨out, oc, om, i, u⟩ ⟨hu, n, n1, n2, n3⟩
    dsimp only at hu n2 n3 ⊢
    subst hu
    by_cases hn : n = 3
    · right
      have h3 : (3 : Int32) ≤ i := i_le.mpr (by rw [n2, hn]; decide)
      rcases n3 with ⟨-, -, -, q⟩ | ⟨o, q1, q2, q3, q4⟩
      · obtain ⟨k, k1, k2⟩ := hex
        exact absurd (q k (by omega)) (by show ¬ l k ≤ 0; have : 0 < l k := k2; omega)
      · subst hn
        have ho := q4.1
        have io : xm_in out 3 = true := in_ok q1 (by omega) (by omega)
        have no : out.toNatClampNeg = o := by rw [cl_nat q1]; rfl
        have hne : ¬ out = -1 := fun q => by rw [q] at q1; have : (-1 : Int32).toInt = -1 := rfl; omega
        refine ⟨((xm_up u.1 44 o x1, u.2), ()), ?_, o, ho, rfl, q4⟩
        unfold f52_10
        rw [if_pos h3, if_neg hne]
        simp only [R_40_3, Option.bind_some, W_44, io, if_true, no, f52_138]
        rfl
    · left
      have h3 : ¬ (3 : Int32) ≤ i := fun q => by have := i_le.mp q; rw [n2] at this; have : (3 : Int32).toInt = 3 := rfl; omega
      obtain ⟨lc, hlc1, hlc2⟩ := rs_weight hs0 hC (n := n) (by omega) n2 xe ye (show (1 : Int32).toInt = 1 from rfl) xe0 (by omega) ye0 (by omega) (by omega) (by omega)
      obtain ⟨wc, hwc1, hwc2⟩ := rs_weight hs0 hC (n := n) (by omega) n2 hx hy hm x0 x9 y0 y9 (by omega) (by omega)
      rw [ge_o_d] at hlc2
      change lc.toInt = l n at hlc2
      change wc.toInt = w n at hwc2
      have bl := hlb n (by omega)
      have bw := hwb n (by omega)
      have hi1 : (i + 1).toInt = n + 1 := i_add n2 rfl (by omega) (by omega)
      have hmeas : 3 - (i + 1).toInt.toNat < 3 - i.toInt.toNat := by rw [hi1, n2]; omega
      have start : f52_10 40 x1 out oc om i u = if 0 < lc then ((f284 (wc * oc) (om * lc) u).bind fun z20 => if out = -1 then (f52_110 40 x1 i lc wc z20.1) else (if z20.2 < 0 then (f52_110 40 x1 i lc wc z20.1) else (if z20.2 = 0 then ((hk_R 40 3).bind fun a25 => (aI z20.1 a25 i).bind fun v27 => (hk_R 40 3).bind fun a29 => (aI z20.1 a29 out).bind fun v31 => if v31 ≤ v27 then (f52_120 40 x1 out oc om i z20.1) else (f52_110 40 x1 i lc wc z20.1)) else (f52_120 40 x1 out oc om i z20.1)))) else f52_120 40 x1 out oc om i u := by
        unfold f52_10
        rw [if_neg h3]
        simp only [R_40_0, R_40_1, Option.bind_some, A_41, A_42, ie, ne, if_true, hlc1, hwc1]
      have keep : f52_120 40 x1 out oc om i u = some (Sum.inl (out, oc, om, i + 1, u)) := rfl
      have take : f52_110 40 x1 i lc wc u = some (Sum.inl (i, lc, wc, i + 1, u)) := rfl
      have hnI : ((n + 1 : Nat) : Int) = (n : Int) + 1 := by omega
      by_cases hl0 : 0 < lc
      · have hl0' : 0 < l n := by have := i_lt.mp hl0; rw [hlc2] at this; exact this
        rw [start, if_pos hl0, cmpI, Option.bind_some]
        dsimp only
        rcases n3 with ⟨q1, q2, q3, q4⟩ | ⟨o, q1, q2, q3, q4⟩
        · rw [if_pos q1, take]
          refine ⟨_, rfl, ⟨rfl, n + 1, by omega, by rw [hnI]; exact hi1, Or.inr ⟨n, n2, hlc2, hwc2, by omega, hl0', fun j hj hne hlj => ?_⟩⟩, hmeas⟩
          have := q4 j (by omega)
          omega
        · have ho := q4.1
          have hne : ¬ out = -1 := fun q => by rw [q] at q1; have : (-1 : Int32).toInt = -1 := rfl; omega
          rw [if_neg hne]
          have blo := hlb o (by omega)
          have bwo := hwb o (by omega)
          have m1 := mbd (B := 2000) (C := 32) bw.1 bw.2 blo.1 blo.2
          have m2 := mbd (B := 2000) (C := 32) bwo.1 bwo.2 bl.1 bl.2
          have e1 := i_mul hwc2 q2 (by omega) (by omega)
          have e2 := i_mul q3 hlc2 (by omega) (by omega)
          have hlt : (wc * oc < om * lc) ↔ w n * l o < w o * l n := by rw [i_lt, e1, e2]
          have heq : (wc * oc = om * lc) ↔ w n * l o = w o * l n := by rw [i_eq, e1, e2]
          obtain ⟨ci, ci2⟩ := hC n (by omega)
          obtain ⟨co, co2⟩ := hC o (by omega)
          have ii : xm_in i 3 = true := in_ok n2 (by omega) (by omega)
          have io : xm_in out 3 = true := in_ok q1 (by omega) (by omega)
          have ni : i.toNatClampNeg = n := by rw [cl_nat n2]; rfl
          have no : out.toNatClampNeg = o := by rw [cl_nat q1]; rfl
          by_cases r1 : w n * l o < w o * l n
          · rw [if_pos (hlt.mpr r1), if_pos (by decide), take]
            exact ⟨_, rfl, ⟨rfl, n + 1, by omega, by rw [hnI]; exact hi1, Or.inr ⟨n, n2, hlc2, hwc2, ex_new q4 hl0' (Or.inl r1)⟩⟩, hmeas⟩
          · rw [if_neg (fun q => r1 (hlt.mp q))]
            by_cases r2 : w n * l o = w o * l n
            · rw [if_pos (heq.mpr r2), if_neg (by decide), if_pos rfl]
              simp only [R_40_3, Option.bind_some, A_44, ii, io, if_true, ni, no]
              have hcc : (u.1 44 o ≤ u.1 44 n) ↔ C o ≤ C n := by rw [i_le, ci, co]; omega
              have hcn : C o ≠ C n := fun q => by have := hCd o n (by omega) (by omega) q; omega
              by_cases r3 : C o ≤ C n
              · rw [if_pos (hcc.mpr r3), keep]
                exact ⟨_, rfl, ⟨rfl, n + 1, by omega, by rw [hnI]; exact hi1, Or.inr ⟨o, q1, q2, q3, ex_old q4 (fun _ => Or.inr ⟨r2.symm, by omega⟩)⟩⟩, hmeas⟩
              · rw [if_neg (fun q => r3 (hcc.mp q)), take]
                exact ⟨_, rfl, ⟨rfl, n + 1, by omega, by rw [hnI]; exact hi1, Or.inr ⟨n, n2, hlc2, hwc2, ex_new q4 hl0' (Or.inr ⟨r2, by omega⟩)⟩⟩, hmeas⟩
            · rw [if_neg (fun q => r2 (heq.mp q)), if_neg (by decide), if_neg (by decide), keep]
              exact ⟨_, rfl, ⟨rfl, n + 1, by omega, by rw [hnI]; exact hi1, Or.inr ⟨o, q1, q2, q3, ex_old q4 (fun _ => Or.inl (by omega))⟩⟩, hmeas⟩
      · have hl0' : l n ≤ 0 := by
          have : ¬ (0 : Int32).toInt < lc.toInt := fun q => hl0 (i_lt.mpr q)
          rw [hlc2] at this
          have h0 : (0 : Int32).toInt = 0 := rfl
          omega
        rw [start, if_neg hl0, keep]
        refine ⟨_, rfl, ⟨rfl, n + 1, by omega, by rw [hnI]; exact hi1, ?_⟩, hmeas⟩
        rcases n3 with ⟨q1, q2, q3, q4⟩ | ⟨o, q1, q2, q3, q4⟩
        · refine Or.inl ⟨q1, q2, q3, fun j hj => ?_⟩
          by_cases e2 : j = n
          · subst e2; exact hl0'
          · exact q4 j (by omega)
        · exact Or.inr ⟨o, q1, q2, q3, ex_old q4 (fun q => by omega)⟩
