/-! the law's loop -/
section LG
variable {L : Nat} {xs : Nat → Int32} {s : xS} {x3 : Int32}
def lgQ (L : Nat) (xs : Nat → Int32) : (Int32 × xS) ⊕ (xS × Int32) → Prop := Sum.elim (fun w => ok (whl (fun q : Int32 × xS => f0_18 L xs 0 101 q.1 q.2) w) (fun r => r.2 = 1)) (fun r => r.2 = 1)
theorem ok_ite {α : Type} {c : Prop} {dc : Decidable c} {x y : Option α} {Q : α → Prop} (h1 : c → ok x Q) (h2 : ¬ c → ok y Q) : ok (@ite _ c dc x y) Q := by
  by_cases h : c
  · rw [if_pos h]; exact h1 h
  · rw [if_neg h]; exact h2 h
theorem ok_ifg {α : Type} {c : Prop} {dc : Decidable c} {x : Option α} {Q : α → Prop} (h : c) (h1 : ok x Q) : ok (@ifg α c dc x) Q := by rw [ifg_pos h]; exact h1
theorem lg_fin {fc fm : xS → Option (xS × Int32)} (h : Post s fc fm) (hK : ∀ w, Inv w → ok (f0_1622 L xs 0 101 x3 w) (lgQ L xs)) : ok ((fc s).bind fun z1 => (fm z1.1).bind fun z2 => if z1.2 = z2.2 then (f0_1622 L xs 0 101 x3 z2.1) else (Option.map Sum.inr (some (z2.1, (0 : Int32))))) (lgQ L xs) := by
  refine ok.bind h (fun r1 h1 => h1.bind (fun r2 ⟨e, hI⟩ => ?_))
  rw [if_pos e.symm]
  exact hK _ hI
theorem lg_finL {fc fm : xS → Option (xS × Int64)} (h : Post s fc fm) (hK : ∀ w, Inv w → ok (f0_1622 L xs 0 101 x3 w) (lgQ L xs)) : ok ((fc s).bind fun z1 => (fm z1.1).bind fun z2 => if (lg_cmp z1.2 z2.2) = 0 then (f0_1622 L xs 0 101 x3 z2.1) else (Option.map Sum.inr (some (z2.1, (0 : Int32))))) (lgQ L xs) := by
  refine ok.bind h (fun r1 h1 => h1.bind (fun r2 ⟨e, hI⟩ => ?_))
  rw [lg_ite, if_pos e.symm]
  exact hK _ hI
theorem ifgt {α : Type} {dc : Decidable (true = true)} (a : Option α) : @ifg α (true = true) dc a = a := ifg_pos rfl
set_option maxHeartbeats 4000000 in
theorem lg_step (hI : Inv s) (g0 : xm_in x3 L = true) (g1 : xm_in (x3 + (1 : Int32)) L = true) (g2 : xm_in (x3 + (2 : Int32)) L = true) (g3 : xm_in (x3 + (3 : Int32)) L = true) (g4 : xm_in (x3 + (4 : Int32)) L = true) (g5 : xm_in (x3 + (5 : Int32)) L = true) (g6 : xm_in (x3 + (6 : Int32)) L = true) (g7 : xm_in (x3 + (7 : Int32)) L = true) (hlt : ¬ ((Int32.ofNat L) - (8 : Int32)) < x3) (hK : ∀ w, Inv w → ok (f0_1622 L xs 0 101 x3 w) (lgQ L xs)) : ok (f0_18 L xs 0 101 x3 s) (lgQ L xs) := by
  unfold f0_18
  refine ok_ite (fun h => absurd h hlt) (fun _ => ok_ifg g0 ?_)
  refine ok_ite (fun _ => ?_) (fun _ => ?_)
  · simp only [g1, g2, g3, g4, g5, g6, g7, ifgt, ifg_T]
    exact lg_fin (i_feed hI _ _ _ _ _) hK
  refine ok_ite (fun _ => ?_) (fun _ => ?_)
  · simp only [g1, g2, g3, g4, g5, g6, g7, ifgt, ifg_T]
    exact lg_fin (i_end hI _) hK
  refine ok_ite (fun _ => ?_) (fun _ => ?_)
  · exact lg_fin (i_shop hI) hK
  refine ok_ite (fun _ => ?_) (fun _ => ?_)
  · exact lg_fin (i_order hI) hK
  refine ok_ite (fun _ => ?_) (fun _ => ?_)
  · simp only [g1, g2, g3, g4, g5, g6, g7, ifgt, ifg_T]
    exact lg_fin (i_fault hI _) hK
  refine ok_ite (fun _ => ?_) (fun _ => ?_)
  · simp only [g1, g2, g3, g4, g5, g6, g7, ifgt, ifg_T]
    exact lg_fin (i_height hI _ _) hK
  refine ok_ite (fun _ => ?_) (fun _ => ?_)
  · simp only [g1, g2, g3, g4, g5, g6, g7, ifgt, ifg_T]
    exact lg_fin (i_seems hI _ _) hK
  refine ok_ite (fun _ => ?_) (fun _ => ?_)
  · simp only [g1, g2, g3, g4, g5, g6, g7, ifgt, ifg_T]
    exact lg_fin (i_lay hI _ _ _ _ _ _) hK
  refine ok_ite (fun _ => ?_) (fun _ => ?_)
  · simp only [g1, g2, g3, g4, g5, g6, g7, ifgt, ifg_T]
    exact lg_fin (i_gap hI _ _ _ _ _ _ _) hK
  refine ok_ite (fun _ => ?_) (fun _ => ?_)
  · simp only [g1, g2, g3, g4, g5, g6, g7, ifgt, ifg_T]
    exact lg_finL (i_air hI _ _ _ _ _ _) hK
  refine ok_ite (fun _ => ?_) (fun _ => ?_)
  · simp only [g1, g2, g3, g4, g5, g6, g7, ifgt, ifg_T]
    exact lg_fin (i_lift hI _ _ _ _ _ _) hK
  refine ok_ite (fun _ => ?_) (fun _ => ?_)
  · simp only [g1, g2, g3, g4, g5, g6, g7, ifgt, ifg_T]
    exact lg_fin (i_round hI _) hK
  refine ok_ite (fun _ => ?_) (fun _ => ?_)
  · simp only [g1, g2, g3, g4, g5, g6, g7, ifgt, ifg_T]
    exact lg_fin (i_run hI _) hK
  refine ok_ite (fun _ => ?_) (fun _ => ?_)
  · simp only [g1, g2, g3, g4, g5, g6, g7, ifgt, ifg_T]
    exact lg_fin (i_off hI _ _) hK
  refine ok_ite (fun _ => ?_) (fun _ => ?_)
  · simp only [g1, g2, g3, g4, g5, g6, g7, ifgt, ifg_T]
    exact lg_fin (i_flat hI _) hK
  refine ok_ite (fun _ => ?_) (fun _ => ?_)
  · simp only [g1, g2, g3, g4, g5, g6, g7, ifgt, ifg_T]
    exact lg_fin (i_warm hI _ _ _) hK
  refine ok_ite (fun _ => ?_) (fun _ => ?_)
  · simp only [g1, g2, g3, g4, g5, g6, g7, ifgt, ifg_T]
    exact lg_fin (i_rest hI _) hK
  refine ok_ite (fun _ => ?_) (fun _ => ?_)
  · exact lg_fin (i_hidden hI) hK
  refine ok_ite (fun _ => ?_) (fun _ => ?_)
  · exact lg_fin (i_hides hI) hK
  refine ok_ite (fun _ => ?_) (fun _ => ?_)
  · simp only [g1, g2, g3, g4, g5, g6, g7, ifgt, ifg_T]
    exact lg_fin (i_until hI _) hK
  refine ok_ite (fun _ => ?_) (fun _ => ?_)
  · simp only [g1, g2, g3, g4, g5, g6, g7, ifgt, ifg_T]
    exact lg_fin (i_best hI _ _) hK
  refine ok_ite (fun _ => ?_) (fun _ => ?_)
  · simp only [g1, g2, g3, g4, g5, g6, g7, ifgt, ifg_T]
    exact lg_fin (i_bestRound hI _ _ _) hK
  refine ok_ite (fun _ => ?_) (fun _ => ?_)
  · simp only [g1, g2, g3, g4, g5, g6, g7, ifgt, ifg_T]
    exact lg_finL (i_hole hI _ _) hK
  refine ok_ite (fun _ => ?_) (fun _ => ?_)
  · refine ok_ifg g1 (ok_ifg g2 ?_)
    refine ok_ite (fun c => ?_) (fun c => ?_)
    · unfold f0_1068 f0_1100
      simp only [g1, g2, g3, g4, ifgt, ifg_T, if_pos c]
      exact lg_fin (i_edge hI _ _ _ _) hK
    · unfold f0_1068 f0_1100
      simp only [g1, g2, g3, g4, ifgt, ifg_T, if_neg c]
      exact lg_fin (i_edge hI _ _ _ _) hK
  refine ok_ite (fun _ => ?_) (fun _ => ?_)
  · simp only [g1, g2, g3, g4, g5, g6, g7, ifgt, ifg_T]
    exact lg_fin (i_square hI _ _ _ _ _) hK
  refine ok_ite (fun _ => ?_) (fun _ => ?_)
  · simp only [g1, g2, g3, g4, g5, g6, g7, ifgt, ifg_T]
    exact lg_fin (i_cut hI _ _) hK
  refine ok_ite (fun _ => ?_) (fun _ => ?_)
  · exact lg_fin (i_clear hI) hK
  refine ok_ite (fun _ => ?_) (fun _ => ?_)
  · exact lg_fin (i_fits hI) hK
  refine ok_ite (fun _ => ?_) (fun _ => ?_)
  · simp only [g1, g2, g3, g4, g5, g6, g7, ifgt, ifg_T]
    exact lg_fin (i_tight hI _) hK
  refine ok_ite (fun _ => ?_) (fun _ => ?_)
  · simp only [g1, g2, g3, g4, g5, g6, g7, ifgt, ifg_T]
    exact lg_fin (i_stand hI _ _ _ _ _) hK
  refine ok_ite (fun _ => ?_) (fun _ => ?_)
  · simp only [g1, g2, g3, g4, g5, g6, g7, ifgt, ifg_T]
    exact lg_fin (i_deepest hI _ _) hK
  refine ok_ite (fun _ => ?_) (fun _ => ?_)
  · simp only [g1, g2, g3, g4, g5, g6, g7, ifgt, ifg_T]
    exact lg_fin (i_sight hI _ _ _ _ _) hK
  refine ok_ite (fun _ => ?_) (fun _ => ?_)
  · exact lg_fin (i_worlds hI) hK
  refine ok_ite (fun _ => ?_) (fun _ => ?_)
  · simp only [g1, g2, g3, g4, g5, g6, g7, ifgt, ifg_T]
    exact lg_fin (i_world hI _) hK
  refine ok_ite (fun _ => ?_) (fun _ => ?_)
  · refine ok_ifg g1 ?_
    refine ok_ite (fun c => ?_) (fun c => ?_)
    · unfold f0_1472 f0_1494
      simp only [g1, g2, ifgt, ifg_T, if_pos c]
      exact lg_fin (i_known hI _ _) hK
    · unfold f0_1472 f0_1494
      simp only [g1, g2, ifgt, ifg_T, if_neg c]
      exact lg_fin (i_known hI _ _) hK
  refine ok_ite (fun _ => ?_) (fun _ => ?_)
  · simp only [g1, g2, g3, g4, g5, g6, g7, ifgt, ifg_T]
    exact lg_fin (i_ask hI _) hK
  refine ok_ite (fun _ => ?_) (fun _ => ?_)
  · simp only [g1, g2, g3, g4, g5, g6, g7, ifgt, ifg_T]
    exact lg_fin (i_seed hI _) hK
  refine ok_ite (fun _ => ?_) (fun _ => ?_)
  · simp only [g1, g2, g3, g4, g5, g6, g7, ifgt, ifg_T]
    exact lg_fin (i_image hI _) hK
  refine ok_ite (fun _ => ?_) (fun _ => ?_)
  · simp only [g1, g2, g3, g4, g5, g6, g7, ifgt, ifg_T]
    exact lg_fin (i_back hI _) hK
  refine ok_ite (fun _ => ?_) (fun _ => ?_)
  · simp only [g1, g2, g3, g4, g5, g6, g7, ifgt, ifg_T]
    exact lg_fin (i_about hI _) hK
  exact hK s hI
theorem lg_end (hL : L ≤ 4096) {j : Nat} (g : L < 8 * j + 8) (hj : j ≤ 1000) : ok (whl (fun q : Int32 × xS => f0_18 L xs 0 101 q.1 q.2) (iz ((8 * j : Nat) : Int), s)) (fun r => r.2 = 1) := by
  have eL : Int32.ofNat L = iz (L : Int) := rfl
  refine whl_ok0 ?_
  show ok (f0_18 L xs 0 101 (iz ((8 * j : Nat) : Int)) s) (lgQ L xs)
  unfold f0_18
  rw [if_pos (show Int32.ofNat L - (8 : Int32) < iz ((8 * j : Nat) : Int) by rw [eL, iz8, iz_sub]; exact (iz_lt (by omega) (by omega) (by omega) (by omega)).mpr (by omega))]
  rw [ok_map, ok_some]
  exact rfl
theorem lg_loop (hL : L ≤ 4096) : ∀ d j s, L - 8 * j ≤ d → j ≤ 600 → Inv s → ok (whl (fun q : Int32 × xS => f0_18 L xs 0 101 q.1 q.2) (iz ((8 * j : Nat) : Int), s)) (fun r => r.2 = 1)
  | 0, j, s, hd, hj, hI => lg_end hL (by omega) (by omega)
  | d + 1, j, s, hd, hj, hI => by
    have eL : Int32.ofNat L = iz (L : Int) := rfl
    by_cases g : L < 8 * j + 8
    · exact lg_end hL g (by omega)
    · refine whl_ok0 ?_
      show ok (f0_18 L xs 0 101 (iz ((8 * j : Nat) : Int)) s) (lgQ L xs)
      have gi : ∀ k : Nat, k ≤ 7 → xm_in (iz ((8 * j : Nat) : Int) + iz (k : Int)) L = true := fun k hk => by
        rw [iz_add]
        exact iz_in (by omega) (by omega) (by omega)
      refine lg_step hI (iz_in (by omega) (by omega) (by omega)) (by rw [show (1 : Int32) = iz ((1 : Nat) : Int) by decide]; exact gi 1 (by omega)) (by rw [show (2 : Int32) = iz ((2 : Nat) : Int) by decide]; exact gi 2 (by omega)) (by rw [show (3 : Int32) = iz ((3 : Nat) : Int) by decide]; exact gi 3 (by omega)) (by rw [show (4 : Int32) = iz ((4 : Nat) : Int) by decide]; exact gi 4 (by omega)) (by rw [show (5 : Int32) = iz ((5 : Nat) : Int) by decide]; exact gi 5 (by omega)) (by rw [show (6 : Int32) = iz ((6 : Nat) : Int) by decide]; exact gi 6 (by omega)) (by rw [show (7 : Int32) = iz ((7 : Nat) : Int) by decide]; exact gi 7 (by omega)) ?_ (fun w hw => ?_)
      · rw [eL, iz8, iz_sub]
        exact fun r => by have := (iz_lt (by omega) (by omega) (by omega) (by omega)).mp r; omega
      · unfold f0_1622
        rw [ok_some, iz8, iz_add]
        have := lg_loop hL d (j + 1) w (by omega) (by omega) hw
        rw [show (((8 * (j + 1) : Nat)) : Int) = ((8 * j : Nat) : Int) + 8 by omega] at this
        exact this
theorem hk_goal_all : hk_goal := fun L xs hL => by
  obtain ⟨r, h1, h2⟩ := lg_loop (xs := xs) hL (L + 1) 0 hk_s0 (by omega) (by omega) Inv_0
  refine ⟨r.1, ?_⟩
  rw [show ((0 : Int32), hk_s0) = (iz ((8 * 0 : Nat) : Int), hk_s0) from congrArg (fun z => (z, hk_s0)) iz0, h1, ← h2]
end LG
