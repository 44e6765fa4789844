/-! hidden: isNew at the class -/
def SE (K : Nat) (G H : (Nat → Int) → Prop) : Prop := ∀ v, Sp K G v ↔ Sp K H v
section SE
variable {K : Nat} {G H J : (Nat → Int) → Prop} {R R' : Nat → Int}
theorem SE.of (h1 : ∀ v, G v → Sp K H v) (h2 : ∀ v, H v → Sp K G v) : SE K G H := fun _ => ⟨Sp.mono h1, Sp.mono h2⟩
theorem SE.rf : SE K G G := fun _ => Iff.rfl
theorem SE.tr (h1 : SE K G H) (h2 : SE K H J) : SE K G J := fun v => (h1 v).trans (h2 v)
theorem SE.sy (h1 : SE K G H) : SE K H G := fun v => (h1 v).symm
/-- one row more -/
def G1 (G : (Nat → Int) → Prop) (R : Nat → Int) (v : Nat → Int) : Prop := G v ∨ v = R
theorem Sp_l {v : Nat → Int} (h : Sp K G v) : Sp K (G1 G R) v := Sp.mono (fun u hu => Sp.g u (Or.inl hu)) h
theorem G1_se (h : SE K G H) : SE K (G1 G R) (G1 H R) := by
  refine SE.of (fun v hv => ?_) (fun v hv => ?_)
  · rcases hv with hv | rfl
    · exact Sp_l ((h v).mp (Sp.g v hv))
    · exact Sp.g v (Or.inr rfl)
  · rcases hv with hv | rfl
    · exact Sp_l ((h v).mpr (Sp.g v hv))
    · exact Sp.g v (Or.inr rfl)
theorem G1_0 (h : ∀ c, c < K → (1000003 : Int) ∣ R c) : SE K (G1 G R) G := by
  refine SE.of (fun v hv => ?_) (fun v hv => Sp.g v (Or.inl hv))
  rcases hv with hv | rfl
  · exact Sp.g v hv
  · exact Sp.z v h
theorem G1_ch (h1 : Sp K (G1 G R) R') (h2 : Sp K (G1 G R') R) : SE K (G1 G R) (G1 G R') := by
  refine SE.of (fun v hv => ?_) (fun v hv => ?_)
  · rcases hv with hv | rfl
    · exact Sp.g v (Or.inl hv)
    · exact h2
  · rcases hv with hv | rfl
    · exact Sp.g v (Or.inl hv)
    · exact h1
end SE
def cZ (R : Nat → Nat) (j : Nat) : Int := (R j : Int)
def eRw (E : Nat → Nat → Nat) (c : Nat) (j : Nat) : Int := if j < c then 0 else (E c j : Int)
theorem tk_A {r x y : Nat} (hx : x ≤ 1000003) : (1000003 : Int) ∣ (((r + (1000003 - x) * y) % 1000003 : Nat) : Int) - ((r : Int) + (-(x : Int)) * (y : Int)) := by
  have h : (1000003 - x) * y + x * y = 1000003 * y := by rw [← Nat.add_mul, Nat.sub_add_cancel hx]
  rw [Int.neg_mul, ← Int.natCast_mul]
  generalize (1000003 - x) * y = A at *
  generalize x * y = B at *
  omega
theorem tk_dv {R : Nat → Nat} {E : Nat → Nat → Nat} {c j : Nat} (hx : R c ≤ 1000003) : (1000003 : Int) ∣ (tkR c R (E c) j : Int) - ((R j : Int) + (-(R c : Int)) * eRw E c j) := by
  unfold tkR eRw
  by_cases q : j < c
  · rw [if_neg (by omega), if_pos q]
    simp
  · rw [if_pos (by omega), if_neg q]
    exact tk_A hx
/-- the known rows -/
def EQ (s : xS) (K : Nat) (d : Nat → Bool) (E : Nat → Nat → Nat) : Prop := ∀ c, c < K → s.1 84 c = (if d c = true then iz 1 else iz 0) ∧ (d c = true → (∀ j, c ≤ j → j < K → s.1 83 (c * 130 + j) = iz (E c j) ∧ E c j < 1000003) ∧ E c c = 1)
theorem EQ.ec {s : xS} {K : Nat} {d : Nat → Bool} {E : Nat → Nat → Nat} (h : EQ s K d E) : Ec K d (eRw E) := by
  intro c hc hd
  refine ⟨fun k hk => ?_, ?_⟩
  · unfold eRw; rw [if_pos hk]; exact Int.dvd_zero _
  · unfold eRw
    rw [if_neg (by omega), ((h c hc).2 hd).2]
    omega
def F835 (id _k : Nat) : Bool := id == 83 || id == 84 || id == 85
theorem F85_5 (id k : Nat) (h : F85 id k = true) : F835 id k = true := by
  unfold F85 at h
  unfold F835
  rw [h]
  simp only [Bool.or_true]
theorem F834_5 (id k : Nat) (h : F834 id k = true) : F835 id k = true := by
  unfold F834 at h
  unfold F835
  rw [h]
  rfl
theorem cnt_one {d d' : Nat → Bool} {c : Nat} (hd : d c = false) (hd' : d' c = true) (ho : ∀ k, k ≠ c → d' k = d k) : ∀ K, cnt d' K = cnt d K + if c < K then 1 else 0
  | 0 => by simp [cnt]
  | K + 1 => by
    have ih := cnt_one hd hd' ho K
    simp only [cnt]
    by_cases q : K = c
    · subst q
      rw [hd, hd', ih]
      simp
    · rw [ho K q, ih]
      have e : (if c < K + 1 then 1 else 0) = if c < K then 1 else 0 := by
        by_cases r : c < K
        · rw [if_pos r, if_pos (by omega)]
        · rw [if_neg r, if_neg (by omega)]
      rw [e]
      split <;> omega
theorem ce_isNew {s : xS} {K : Nat} {d : Nat → Bool} {E : Nat → Nat → Nat} {R : Nat → Nat} (hK : K ≤ 130) (hk : f13 82 s = some (s, iz K)) (hq : EQ s K d E) (hR : ∀ j, j < K → s.1 85 j = iz (R j) ∧ R j < 1000003) :
    ok (f16 82 s) (fun r => fr F835 s r.1 ∧ ∃ d' E', EQ r.1 K d' E' ∧ SE K (Gn K d' (eRw E')) (G1 (Gn K d (eRw E)) (cZ R)) ∧ ((r.2 = iz 0 ∧ cnt d' K = cnt d K) ∨ (r.2 = iz 1 ∧ cnt d' K = cnt d K + 1))) := by
  unfold f16
  rw [ifg_pos O_82, hk]
  simp only [Option.bind_some, iz0]
  refine forz (fun m w => fr F835 s w ∧ EQ w K d E ∧ ∃ R' : Nat → Nat, (∀ j, j < K → w.1 85 j = iz (R' j) ∧ R' j < 1000003) ∧ (∀ j, j < m → R' j = 0) ∧ SE K (G1 (Gn K d (eRw E)) (cZ R')) (G1 (Gn K d (eRw E)) (cZ R))) 0 K (by omega) (by omega) ⟨fr.rf _ _, hq, R, hR, fun j hj => by omega, SE.rf⟩ (fun m w _ hm ⟨h1, h2, R', h3, h4, h5⟩ => ?_) (fun w ⟨h1, h2, R', h3, h4, h5⟩ => ?_)
  · obtain ⟨g1, g2⟩ := h3 m hm
    obtain ⟨g3, g4⟩ := h2 m hm
    unfold f16_7 f16_47
    simp (disch := omega) only [iz0, iz1, iz2, iz3, iz4, iz5, iz7, iz8, iz9, iz10, iz15, iz20, iz25, iz30, iz40, iz49, iz99, iz100, iz300, iz343, iz500, iz999, iz1000, iz1200, iz_add, iz_sub, iz_mul, iz_neg, it_le_t, it_le_f, it_lt_t, it_lt_f, it_eq_t, it_eq_f, bz0, bz1, ifg_T, or_true, true_or, if_true, if_false, Option.bind_some, Option.map_some, R_82_5, R_82_4, A_85, A_84, iz_in, iz_n, nat_toNat, g1, g3]
    by_cases q : R' m = 0
    · simp (disch := omega) only [iz0, iz1, iz2, iz3, iz4, iz5, iz7, iz8, iz9, iz10, iz15, iz20, iz25, iz30, iz40, iz49, iz99, iz100, iz300, iz343, iz500, iz999, iz1000, iz1200, iz_add, iz_sub, iz_mul, iz_neg, it_le_t, it_le_f, it_lt_t, it_lt_f, it_eq_t, it_eq_f, bz0, bz1, ifg_T, or_true, true_or, if_true, if_false, Option.bind_some, Option.map_some, ok_some, ok_map, lp_l, lp_r, lpA_l, lpA_r, true_and]
      refine ⟨h1, h2, R', h3, fun j hj => ?_, h5⟩
      by_cases e : j = m
      · rw [e]; exact q
      · exact h4 j (by omega)
    · rw [it_eq_f (by omega) (by omega) (by omega) (by omega) (by omega)]
      by_cases qd : d m = true
      · rw [if_pos qd]
        simp (disch := omega) only [iz0, iz1, iz2, iz3, iz4, iz5, iz7, iz8, iz9, iz10, iz15, iz20, iz25, iz30, iz40, iz49, iz99, iz100, iz300, iz343, iz500, iz999, iz1000, iz1200, iz_add, iz_sub, iz_mul, iz_neg, it_le_t, it_le_f, it_lt_t, it_lt_f, it_eq_t, it_eq_f, bz0, bz1, ifg_T, or_true, true_or, if_true, if_false, Option.bind_some, Option.map_some]
        obtain ⟨g5, g6⟩ := g4 qd
        refine (ce_take hm hK h3 g5).bind (fun r ⟨a1, a2⟩ => ?_)
        simp only [ok_some, ok_map, lp_l, lp_r, lpA_l, lpA_r, true_and]
        refine ⟨h1.tr (a1.mono F85_5), fun c hc => ?_, tkR m R' (E m), a2, fun j hj => ?_, SE.tr ?_ h5⟩
        · rw [a1.i 84 c rfl]
          refine ⟨(h2 c hc).1, fun hd => ⟨fun j j0 j1 => ?_, ((h2 c hc).2 hd).2⟩⟩
          rw [a1.i 83 _ rfl]
          exact ((h2 c hc).2 hd).1 j j0 j1
        · unfold tkR
          by_cases e : j = m
          · subst e
            rw [if_pos (by omega), g6, Nat.mul_one]
            rw [show R' j + (1000003 - R' j) = 1000003 by omega]
          · rw [if_neg (by omega)]; exact h4 j (by omega)
        · refine G1_ch ?_ ?_
          · refine Sp.lc (cZ (tkR m R' (E m))) (eRw E m) (cZ R') (R' m : Int) (Sp.g _ (Or.inr rfl)) (Sp.g _ (Or.inl ⟨m, hm, qd, rfl⟩)) (fun j hj => ?_)
            have := tk_dv (R := R') (E := E) (c := m) (j := j) (by omega)
            rw [Int.neg_mul] at this
            unfold cZ
            generalize (R' m : Int) * eRw E m j = X at *
            omega
          · exact Sp.lc (cZ R') (eRw E m) (cZ (tkR m R' (E m))) (-(R' m : Int)) (Sp.g _ (Or.inr rfl)) (Sp.g _ (Or.inl ⟨m, hm, qd, rfl⟩)) (fun j hj => tk_dv (by omega))
      · rw [if_neg qd]
        simp (disch := omega) only [iz0, iz1, iz2, iz3, iz4, iz5, iz7, iz8, iz9, iz10, iz15, iz20, iz25, iz30, iz40, iz49, iz99, iz100, iz300, iz343, iz500, iz999, iz1000, iz1200, iz_add, iz_sub, iz_mul, iz_neg, it_le_t, it_le_f, it_lt_t, it_lt_f, it_eq_t, it_eq_f, bz0, bz1, ifg_T, or_true, true_or, if_true, if_false, Option.bind_some, Option.map_some]
        have qd' : d m = false := by cases e : d m with | true => exact absurd e qd | false => rfl
        refine ok_map.mpr ?_
        refine (ce_keep hm hK h3 q).bind (fun r ⟨a1, a2, a3, a4, t, t1, t2, a5⟩ => ?_)
        simp only [ok_some, ok_map, lp_l, lp_r, lpA_l, lpA_r, true_and]
        refine ⟨h1.tr (a1.mono F834_5), fun c => if c = m then true else d c, fun c j => if c = m then t * R' j % 1000003 else E c j, fun c hc => ?_, ?_, Or.inr ?_⟩
        · by_cases e : c = m
          · subst e
            simp only [if_true]
            refine ⟨a3, fun _ => ⟨fun j j0 j1 => ⟨a5 j j0 j1, Nat.mod_lt _ (by omega)⟩, t2⟩⟩
          · simp only [if_neg e]
            rw [a2 c e]
            refine ⟨(h2 c hc).1, fun hd => ⟨fun j j0 j1 => ?_, ((h2 c hc).2 hd).2⟩⟩
            rw [a4 _ (by omega)]
            exact ((h2 c hc).2 hd).1 j j0 j1
        · refine SE.tr ?_ h5
          have hz : ∀ j, j < K → eRw (fun c j => if c = m then t * R' j % 1000003 else E c j) m j = ((t * R' j % 1000003 : Nat) : Int) := by
            intro j hj
            unfold eRw
            by_cases e : j < m
            · rw [if_pos e, h4 j e]; simp
            · rw [if_neg e]; dsimp only; rw [if_pos rfl]
          refine SE.of (fun v hv => ?_) (fun v hv => ?_)
          · obtain ⟨c, c1, c2, rfl⟩ := hv
            by_cases e : c = m
            · subst e
              refine Sp.mul (Sp.g (cZ R') (Or.inr rfl)) (t : Int) (fun j hj => ?_)
              rw [hz j hj]
              unfold cZ
              rw [← Int.natCast_mul]
              omega
            · dsimp only at c2
              rw [if_neg e] at c2
              refine Sp.g _ (Or.inl ⟨c, c1, c2, ?_⟩)
              funext j
              unfold eRw
              dsimp only
              rw [if_neg e]
          · rcases hv with ⟨c, c1, c2, rfl⟩ | rfl
            · have e : c ≠ m := fun e => by rw [e] at c2; exact qd c2
              refine Sp.g _ ⟨c, c1, by dsimp only; rw [if_neg e]; exact c2, ?_⟩
              funext j
              unfold eRw
              dsimp only
              rw [if_neg e]
            · refine Sp.mul (Sp.g (eRw (fun c j => if c = m then t * R' j % 1000003 else E c j) m) ⟨m, hm, by dsimp only; rw [if_pos rfl], rfl⟩) (R' m : Int) (fun j hj => ?_)
              rw [hz j hj]
              unfold cZ
              have e1 : (R' m : Int) * ((t * R' j % 1000003 : Nat) : Int) = ((R' m * (t * R' j % 1000003) : Nat) : Int) := (Int.natCast_mul _ _).symm
              rw [e1]
              have e2 : R' m * (t * R' j % 1000003) % 1000003 = R' j % 1000003 := by
                rw [Nat.mul_mod, Nat.mod_mod, ← Nat.mul_mod, ← Nat.mul_assoc, Nat.mul_comm (R' m) t, Nat.mul_mod, t2, Nat.one_mul, Nat.mod_mod]
              generalize R' m * (t * R' j % 1000003) = X at *
              omega
        · rw [cnt_one (d := d) (d' := fun c => if c = m then true else d c) (c := m) qd' (if_pos rfl) (fun k hk => if_neg hk) K, if_pos hm]
  · unfold f16_7
    simp (disch := omega) only [iz0, iz1, iz2, iz3, iz4, iz5, iz7, iz8, iz9, iz10, iz15, iz20, iz25, iz30, iz40, iz49, iz99, iz100, iz300, iz343, iz500, iz999, iz1000, iz1200, iz_add, iz_sub, iz_mul, iz_neg, it_le_t, it_le_f, it_lt_t, it_lt_f, it_eq_t, it_eq_f, bz0, bz1, ifg_T, or_true, true_or, if_true, if_false, Option.bind_some, Option.map_some, ok_some, ok_map, lp_l, lp_r, lpA_l, lpA_r, true_and]
    refine ⟨h1, d, E, h2, SE.tr (SE.sy (G1_0 (fun c hc => ?_))) h5, Or.inl rfl⟩
    unfold cZ
    rw [h4 c hc]
    exact Int.dvd_zero _
