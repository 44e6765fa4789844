/-- the plane through p, j, k, its gaps reckoned -/
def RFin (X Y Z : Nat → Int) (m : Nat) (u : xS) (p j k : Nat) : Prop := RP u (fi_s X Y p j k * ge_p X Y Z p j k) (fi_s X Y p j k * ge_q Y Z p j k) (fi_s X Y p j k * ge_r X Z p j k) (fi_D X Y p j k) ∧ ∀ n, n < m → (u.1 45 n).toInt = fi_f X Y Z p j k (X n) (Y n) 1 - fi_D X Y p j k * Z n
theorem rs_fin {s0 u : xS} {m : Nat} {X Y Z : Nat → Int} (hs0 : RS s0 m X Y Z) (hz : Rz s0 u) {p j k : Nat} {x1 x4 x5 : Int32} (h1 : x1.toInt = p) (h4 : x4.toInt = j) (h5 : x5.toInt = k) (hp : p < m) (hj : j < m) (hk : k < m) (hc : tr_cand X Y Z m p j k) :
    ∃ u', ((f50 40 x1 x4 x5 u).bind fun z2 => (f51 40 z2.1).bind fun z4 => some (z4.1, ())) = some (u', ()) ∧ Rz s0 u' ∧ u'.1 44 = u.1 44 ∧ RFin X Y Z m u' p j k := by
  have hs := hs0.rz hz
  obtain ⟨hm, m4, m25, hpp⟩ := hs0
  obtain ⟨hd, hov⟩ := hc
  obtain ⟨s1, e1, o1, g11, g9, g10, g8⟩ := (rs_span hs h1 h4 h5 hp hj hk).2 hd
  have bd := rp_bd (X := X) (Y := Y) (Z := Z) (a := p) (b := j) (c := k) ((hpp _ hp).2.2.2) ((hpp _ hj).2.2.2) ((hpp _ hk).2.2.2)
  have hDp := fi_Dpos (X := X) (Y := Y) hd
  have hRP : RP s1 (fi_s X Y p j k * ge_p X Y Z p j k) (fi_s X Y p j k * ge_q Y Z p j k) (fi_s X Y p j k * ge_r X Z p j k) (fi_D X Y p j k) := by
    refine ⟨g8, g9, g10, g11, ?_, ?_, ?_, ?_, ?_, ?_, hDp, ?_⟩
    all_goals first | (unfold fi_D; rcases fi_s_cases X Y p j k with q | q <;> rw [q] <;> omega) | (rcases fi_s_cases X Y p j k with q | q <;> rw [q] <;> omega)
  have hs1 := hs.rz (Rz.ofOnly o1)
  obtain ⟨s2, r, e2, o2, hr⟩ := rs_above hs1 hRP
  have hz2 : Rz s0 s2 := (hz.tr (Rz.ofOnly o1)).tr (Rz.of45 o2)
  have f44 : s2.1 44 = u.1 44 := by rw [o2.2 44 (by decide)]; funext n; exact o1.2 44 n (fun q => by omega)
  have hfe : ∀ n, fi_f X Y Z p j k (X n) (Y n) 1 = fi_s X Y p j k * ge_p X Y Z p j k + fi_s X Y p j k * ge_q Y Z p j k * X n + fi_s X Y p j k * ge_r X Z p j k * Y n := fun n => by rw [fi_f_eq, Int.one_mul]
  refine ⟨s2, by rw [e1, Option.bind_some]; dsimp only; rw [e2, Option.bind_some], hz2, f44, ?_, ?_⟩
  · obtain ⟨q1, q2, q3, q4, q5⟩ := hRP
    have f40 : s2.1 40 = s1.1 40 := o2.2 40 (by decide)
    exact ⟨by rw [f40]; exact q1, by rw [f40]; exact q2, by rw [f40]; exact q3, by rw [f40]; exact q4, q5⟩
  · intro n hn
    rcases hr with ⟨hr1, hr2⟩ | ⟨e, he1, he2, he3, he4⟩
    · rw [hfe]; exact (hr2 n hn).2
    · exfalso
      have := hov e he1
      rw [hfe] at this
      omega
set_option maxHeartbeats 1000000 in
/-- the outer loop: j from lo on, below hi; k from kf j on -/
theorem rs_outer {s0 u : xS} {m : Nat} {X Y Z : Nat → Int} (hs0 : RS s0 m X Y Z) (hpt : ∀ i j, i < m → j < m → X i = X j → Y i = Y j → i = j) (hz : Rz s0 u) {p lo hi : Nat} {x1 x2 x4 x5 x6 y0 : Int32} {kf : Nat → Nat} (h1 : x1.toInt = p) (h6 : x6.toInt + 1 = hi) (hy : y0.toInt = lo) (hp : p < m) (hlo : lo ≤ hi) (hhi : hi ≤ m)
    (hk : ∀ (J : Nat) (x7 : Int32), x7.toInt = J → J < hi → kf J ≤ m ∧ ∃ y : Int32, y.toInt = kf J ∧ ∀ x3 x4 x5 v, f55_48 40 x1 x2 x3 x4 x5 x6 x7 v = if x6 < x7 then (Option.map Sum.inr ((f50 40 x1 x4 x5 v).bind fun z2 => (f51 40 z2.1).bind fun z4 => some (z4.1, ()))) else f55_68 40 x1 x2 x3 x4 x5 x6 x7 y v)
    (hex : ∃ j k, lo ≤ j ∧ j < hi ∧ kf j ≤ k ∧ k < m ∧ tr_cand X Y Z m p j k) :
    ∃ u' j k r, f55_46 40 x1 x2 2147483647 x4 x5 x6 y0 u = some (u', ()) ∧ Rz s0 u' ∧ u'.1 44 = u.1 44 ∧ RFin X Y Z m u' p j k ∧ (lo ≤ j ∧ j < hi) ∧ k < m ∧ tr_cand X Y Z m p j k ∧ tr_code X Y Z m p j k r ∧ ∀ j' k' r', lo ≤ j' → j' < hi → kf j' ≤ k' → k' < m → tr_cand X Y Z m p j' k' → tr_code X Y Z m p j' k' r' → r ≤ r' := by
  have m25 := hs0.2.2.1
  have hw := whl_rule (body := fun q : Int32 × Int32 × Int32 × Int32 × xS => f55_48 40 x1 x2 q.1 q.2.1 q.2.2.1 x6 q.2.2.2.1 q.2.2.2.2)
    (fun q => Rz s0 q.2.2.2.2 ∧ q.2.2.2.2.1 44 = u.1 44 ∧ ∃ J : Nat, lo ≤ J ∧ J ≤ hi ∧ q.2.2.2.1.toInt = J ∧ BI X Y Z m p (fun j k => lo ≤ j ∧ j < J ∧ kf j ≤ k ∧ k < m) q.1 q.2.1 q.2.2.1)
    (fun q => m + 1 - q.2.2.2.1.toInt.toNat) (fun r : xS × Unit => ∃ j k w, Rz s0 r.1 ∧ r.1.1 44 = u.1 44 ∧ RFin X Y Z m r.1 p j k ∧ (lo ≤ j ∧ j < hi) ∧ k < m ∧ tr_cand X Y Z m p j k ∧ tr_code X Y Z m p j k w ∧ ∀ j' k' r', lo ≤ j' → j' < hi → kf j' ≤ k' → k' < m → tr_cand X Y Z m p j' k' → tr_code X Y Z m p j' k' r' → w ≤ r') ?_ (2147483647, x4, x5, y0, u) ⟨hz, rfl, lo, Nat.le_refl _, hlo, hy, Or.inl ⟨rfl, fun j k q => by omega⟩⟩
  · obtain ⟨⟨r, v⟩, e1, j, k, w, e2, e3, e4, e5, e6, e7, e8, e9⟩ := hw
    exact ⟨r, j, k, w, e1, e2, e3, e4, e5, e6, e7, e8, e9⟩
  · rintro ⟨b3, b4, b5, x7, v⟩ ⟨v1, v2, J, n0, n1, n2, n3⟩
    dsimp only at v1 v2 n2 n3 ⊢
    by_cases hJ : J = hi
    · right
      subst hJ
      have hlt : x6 < x7 := i_lt.mpr (by omega)
      rcases n3 with ⟨-, q⟩ | ⟨j, k, r, q1, q2, q3, q4, q5, q6, q7⟩
      · obtain ⟨j, k, t1, t2, t3, t4, t5⟩ := hex
        exact absurd t5 (q j k ⟨t1, t2, t3, t4⟩)
      · obtain ⟨u', f1, f2, f3, f4⟩ := rs_fin hs0 v1 h1 q5 q6 hp (show j < m by omega) q1.2.2.2 q2
        refine ⟨(u', ()), ?_, j, k, r, f2, f3.trans v2, f4, ⟨q1.1, q1.2.1⟩, q1.2.2.2, q2, q3, fun j' k' r' t1 t2 t3 t4 t5 t6 => q7 j' k' r' ⟨t1, t2, t3, t4⟩ t5 t6⟩
        unfold f55_48
        rw [if_pos hlt, f1]
        rfl
    · left
      obtain ⟨kf1, y, kf2, kf3⟩ := hk J x7 n2 (by omega)
      have hlt : ¬ x6 < x7 := fun q => by have := i_lt.mp q; omega
      obtain ⟨u', a3, a4, a5, e1, e2, e3, e4⟩ := rs_row hs0 hpt v1 (x2 := x2) (x6 := x6) h1 n2 kf2 hp (show J < m by omega) kf1 n3
      have hi1 : (x7 + 1).toInt = J + 1 := i_add n2 rfl (by omega) (by omega)
      refine ⟨_, by rw [kf3, if_neg hlt]; exact e1, ⟨e2, e3.trans v2, J + 1, by omega, by omega, by rw [hi1]; omega, e4.congr (fun j' k' => ?_)⟩, ?_⟩
      · constructor
        · rintro (⟨t1, t2, t3, t4⟩ | ⟨t1, t2, t3⟩)
          · exact ⟨t1, by omega, t3, t4⟩
          · exact ⟨by omega, by omega, by rw [t1]; exact t2, t3⟩
        · rintro ⟨t1, t2, t3, t4⟩
          by_cases q : j' = J
          · exact Or.inr ⟨q, by rw [← q]; exact t3, t4⟩
          · exact Or.inl ⟨t1, by omega, t3, t4⟩
      · dsimp only
        rw [hi1, n2]
        omega
