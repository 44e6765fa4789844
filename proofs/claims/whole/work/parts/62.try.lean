theorem gr_congr {X Y : Nat → Int} {m : Nat} {T T' : Nat → Prop} (h : ∀ n, n < m → (T n ↔ T' n)) {i j k : Nat} (hg : gr_t X Y m T i j k) : gr_t X Y m T' i j k := by
  obtain ⟨g1, g2, g3, g4, g5, g6, g7, g8, g9, g10⟩ := hg
  exact ⟨g1, g2, g3, (h i (by omega)).mp g4, (h j (by omega)).mp g5, (h k g3).mp g6, g7, fun n hn q => g8 n hn ((h n (by omega)).mpr q), fun n h1 h2 q => g9 n h1 h2 ((h n (by omega)).mpr q), fun n h1 h2 q => g10 n h1 h2 ((h n (by omega)).mpr q)⟩
/-- the plane through p, j, k is over all -/
def tr_cand (X Y Z : Nat → Int) (m p j k : Nat) : Prop := ge_d X Y p j k ≠ 0 ∧ ∀ n, n < m → fi_D X Y p j k * Z n ≤ fi_f X Y Z p j k (X n) (Y n) 1
/-- its first cells, as one number -/
def tr_code (X Y Z : Nat → Int) (m p j k r : Nat) : Prop := ∃ a b c, gr_t X Y m (fun n => fi_f X Y Z p j k (X n) (Y n) 1 = fi_D X Y p j k * Z n) a b c ∧ r = (a * 25 + b) * 25 + c
theorem fi_s_cases (X Y : Nat → Int) (p j k : Nat) : fi_s X Y p j k = 1 ∨ fi_s X Y p j k = -1 := by
  unfold fi_s
  split
  · exact Or.inr rfl
  · exact Or.inl rfl
set_option maxHeartbeats 2000000 in
theorem rs_try {s0 u : xS} {m : Nat} {X Y Z : Nat → Int} (hs0 : RS s0 m X Y Z) (hpt : ∀ i j, i < m → j < m → X i = X j → Y i = Y j → i = j) (hz : Rz s0 u) {p j k : Nat} {x1 x2 x3 x4 x5 x6 x7 x8 : Int32} (h1 : x1.toInt = p) (h7 : x7.toInt = j) (h8 : x8.toInt = k) (hp : p < m) (hj : j < m) (hk : k < m) :
    ∃ u' a3 a4 a5, f55_70 40 x1 x2 x3 x4 x5 x6 x7 x8 u = some (.inl (a3, a4, a5, x8 + 1, u')) ∧ Rz s0 u' ∧ u'.1 44 = u.1 44 ∧
      ((¬ tr_cand X Y Z m p j k ∧ a3 = x3 ∧ a4 = x4 ∧ a5 = x5) ∨ (tr_cand X Y Z m p j k ∧ ∃ r, tr_code X Y Z m p j k r ∧ ((x3.toInt ≤ r ∧ a3 = x3 ∧ a4 = x4 ∧ a5 = x5) ∨ ((r : Int) < x3.toInt ∧ a3.toInt = r ∧ a4 = x7 ∧ a5 = x8)))) := by
  have hs := hs0.rz hz
  obtain ⟨hm, m4, m25, hpp⟩ := hs0
  have hlt : ¬ (u.1 40 5) ≤ x8 := fun q => by have := i_le.mp q; rw [hz.2.2 5 (by omega), hm, h8] at this; omega
  have keep : ∀ v, f55_120 40 x1 x2 x3 x4 x5 x6 x7 x8 v = some (Sum.inl (x3, x4, x5, x8 + 1, v)) := fun _ => rfl
  obtain ⟨sp0, sp1⟩ := rs_span hs h1 h7 h8 hp hj hk
  by_cases hd : ge_d X Y p j k = 0
  · refine ⟨u, x3, x4, x5, ?_, hz, rfl, Or.inl ⟨fun q => q.1 hd, rfl, rfl, rfl⟩⟩
    unfold f55_70
    rw [if_neg hlt, sp0 hd, Option.bind_some]
    dsimp only
    rw [if_pos rfl, keep]
  · obtain ⟨s1, e1, o1, g11, g9, g10, g8⟩ := sp1 hd
    have bd := rp_bd (X := X) (Y := Y) (Z := Z) (a := p) (b := j) (c := k) ((hpp _ hp).2.2.2) ((hpp _ hj).2.2.2) ((hpp _ hk).2.2.2)
    have hDp := fi_Dpos (X := X) (Y := Y) hd
    have hRP : RP s1 (fi_s X Y p j k * ge_p X Y Z p j k) (fi_s X Y p j k * ge_q Y Z p j k) (fi_s X Y p j k * ge_r X Z p j k) (fi_D X Y p j k) := by
      refine ⟨g8, g9, g10, g11, ?_, ?_, ?_, ?_, ?_, ?_, hDp, ?_⟩
      all_goals first | (unfold fi_D; rcases fi_s_cases X Y p j k with q | q <;> rw [q] <;> omega) | (rcases fi_s_cases X Y p j k with q | q <;> rw [q] <;> omega)
    have hs1 := hs.rz (Rz.ofOnly o1)
    obtain ⟨s2, r, e2, o2, hr⟩ := rs_above hs1 hRP
    have hz2 : Rz s0 s2 := (hz.tr (Rz.ofOnly o1)).tr (Rz.of45 o2)
    have hs2 := hs1.rz (Rz.of45 o2)
    have f44 : s2.1 44 = u.1 44 := by rw [o2.2 44 (by decide)]; funext n; exact o1.2 44 n (fun q => by omega)
    have hfe : ∀ n, fi_f X Y Z p j k (X n) (Y n) 1 = fi_s X Y p j k * ge_p X Y Z p j k + fi_s X Y p j k * ge_q Y Z p j k * X n + fi_s X Y p j k * ge_r X Z p j k * Y n := fun n => by rw [fi_f_eq, Int.one_mul]
    have ev : f55_70 40 x1 x2 x3 x4 x5 x6 x7 x8 u = if r = -1 then ((f56 40 s2).bind fun z8 => if x3 ≤ z8.2 then (f55_120 40 x1 x2 x3 x4 x5 x6 x7 x8 z8.1) else ((f56 40 z8.1).bind fun z11 => f55_120 40 x1 x2 z11.2 x7 x8 x6 x7 x8 z11.1)) else f55_120 40 x1 x2 x3 x4 x5 x6 x7 x8 s2 := by
      unfold f55_70
      rw [if_neg hlt, e1, Option.bind_some]
      dsimp only
      rw [if_neg (by decide), e2, Option.bind_some]
    rcases hr with ⟨hr1, hr2⟩ | ⟨e, he1, he2, he3, he4⟩
    · have hcand : tr_cand X Y Z m p j k := ⟨hd, fun n hn => by rw [hfe]; exact (hr2 n hn).1⟩
      have hiff : ∀ n, n < m → ((s2.1 45 n).toInt = 0 ↔ fi_f X Y Z p j k (X n) (Y n) 1 = fi_D X Y p j k * Z n) := fun n hn => by rw [hfe, (hr2 n hn).2]; omega
      have hex : ∃ i j k, gr_t X Y m (fun n => (s2.1 45 n).toInt = 0) i j k := by
        refine gr_ex hpt hp hj hk ?_ ?_ ?_ hd
        · exact (hiff p hp).mpr (fi_at (Or.inl rfl))
        · exact (hiff j hj).mpr (fi_at (Or.inr (Or.inl rfl)))
        · exact (hiff k hk).mpr (fi_at (Or.inr (Or.inr rfl)))
      obtain ⟨a, b, c, t, t1, t2, t3⟩ := rs_touched hs2 hpt hex
      have hcode : tr_code X Y Z m p j k ((a * 25 + b) * 25 + c) := ⟨a, b, c, gr_congr hiff t1, rfl⟩
      rw [if_pos hr1, t2, Option.bind_some] at ev
      dsimp only at ev
      by_cases hle : x3 ≤ t
      · rw [if_pos hle, keep] at ev
        refine ⟨s2, x3, x4, x5, ev, hz2, f44, Or.inr ⟨hcand, _, hcode, Or.inl ⟨?_, rfl, rfl, rfl⟩⟩⟩
        have := i_le.mp hle
        rw [t3] at this
        exact this
      · rw [if_neg hle, t2, Option.bind_some] at ev
        refine ⟨s2, t, x7, x8, ev, hz2, f44, Or.inr ⟨hcand, _, hcode, Or.inr ⟨?_, t3, rfl, rfl⟩⟩⟩
        have : ¬ x3.toInt ≤ t.toInt := fun q => hle (i_le.mpr q)
        rw [t3] at this
        omega
    · have hrn : ¬ r = -1 := fun q => by rw [q] at he2; have : (-1 : Int32).toInt = -1 := rfl; omega
      rw [if_neg hrn, keep] at ev
      refine ⟨s2, x3, x4, x5, ev, hz2, f44, Or.inl ⟨fun q => ?_, rfl, rfl, rfl⟩⟩
      have := q.2 e he1
      rw [hfe] at this
      omega
