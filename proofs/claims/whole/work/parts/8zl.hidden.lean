/-! hidden: both sides -/
section LM
variable {K : Nat} {ph : Nat → Nat} {GC GM : (Nat → Int) → Prop}
theorem Ld_cg {G H : (Nat → Int) → Prop} (h : SE K G H) (c : Nat) : Ld K (Sp K G) c ↔ Ld K (Sp K H) c := by
  constructor
  · rintro ⟨h1, v, h2, h3⟩
    exact ⟨h1, v, (h v).mp h2, h3⟩
  · rintro ⟨h1, v, h2, h3⟩
    exact ⟨h1, v, (h v).mpr h2, h3⟩
theorem Ld_F1 (hb : ∀ j, j < K → ph j < 130) (h1 : ∀ v, GM v → ∃ u, GC u ∧ (∀ j, j < K → u j = v (ph j)) ∧ ∀ c, c < 130 → (∀ j, j < K → ph j ≠ c) → v c = 0) (v : Nat → Int) (hv : Sp 130 GM v) : Sp K GC (fun j => v (ph j)) ∧ ∀ c, c < 130 → (∀ j, j < K → ph j ≠ c) → (1000003 : Int) ∣ v c := by
  refine hv (fun v => Sp K GC (fun j => v (ph j)) ∧ ∀ c, c < 130 → (∀ j, j < K → ph j ≠ c) → (1000003 : Int) ∣ v c) ⟨fun v hz => ?_, fun u v w a i1 i2 hw => ?_⟩ (fun v hg => ?_)
  · exact ⟨Sp.z _ (fun j hj => hz _ (hb j hj)), fun c hc _ => hz c hc⟩
  · refine ⟨Sp.lc _ _ _ a i1.1 i2.1 (fun j hj => hw _ (hb j hj)), fun c hc hn => ?_⟩
    have e1 := i1.2 c hc hn
    have e2 := Int.dvd_mul_of_dvd_right (i2.2 c hc hn) (b := a)
    have e3 := hw c hc
    generalize a * v c = X at *
    omega
  · obtain ⟨u, u1, u2, u3⟩ := h1 v hg
    refine ⟨Sp.cg (Sp.g u u1) (fun j hj => ?_), fun c hc hn => by rw [u3 c hc hn]; exact Int.dvd_zero _⟩
    rw [u2 j hj, Int.sub_self]
    exact Int.dvd_zero _
theorem Ld_F2 (h2 : ∀ u, GC u → ∃ v, GM v ∧ ∀ j, j < K → u j = v (ph j)) (u : Nat → Int) (hu : Sp K GC u) : ∃ v, Sp 130 GM v ∧ ∀ j, j < K → (1000003 : Int) ∣ u j - v (ph j) := by
  refine hu (fun u => ∃ v, Sp 130 GM v ∧ ∀ j, j < K → (1000003 : Int) ∣ u j - v (ph j)) ⟨fun v hz => ?_, fun u v w a i1 i2 hw => ?_⟩ (fun v hg => ?_)
  · exact ⟨fun _ => 0, Sp.z _ (fun _ _ => Int.dvd_zero _), fun j hj => by rw [Int.sub_zero]; exact hz j hj⟩
  · obtain ⟨p, p1, p2⟩ := i1
    obtain ⟨q, q1, q2⟩ := i2
    refine ⟨fun c => p c + a * q c, Sp.lc p q _ a p1 q1 (fun c hc => by rw [Int.sub_self]; exact Int.dvd_zero _), fun j hj => ?_⟩
    have e1 := p2 j hj
    have e2 := Int.dvd_mul_of_dvd_right (q2 j hj) (b := a)
    have e3 := hw j hj
    rw [Int.mul_sub] at e2
    dsimp only
    generalize a * v j = X at *
    generalize a * q (ph j) = Y at *
    omega
  · obtain ⟨v', v1, v2⟩ := h2 v hg
    exact ⟨v', Sp.g _ v1, fun j hj => by rw [v2 j hj, Int.sub_self]; exact Int.dvd_zero _⟩
theorem Ld_map (hb : ∀ j, j < K → ph j < 130) (hm : ∀ j j', j < j' → j' < K → ph j < ph j') (h1 : ∀ v, GM v → ∃ u, GC u ∧ (∀ j, j < K → u j = v (ph j)) ∧ ∀ c, c < 130 → (∀ j, j < K → ph j ≠ c) → v c = 0) (h2 : ∀ u, GC u → ∃ v, GM v ∧ ∀ j, j < K → u j = v (ph j)) : (∀ j, j < K → (Ld K (Sp K GC) j ↔ Ld 130 (Sp 130 GM) (ph j))) ∧ ∀ c, c < 130 → (∀ j, j < K → ph j ≠ c) → ¬ Ld 130 (Sp 130 GM) c := by
  refine ⟨fun j hj => ⟨?_, ?_⟩, fun c hc hn => ?_⟩
  · rintro ⟨-, u, u1, u2, u3⟩
    obtain ⟨v, v1, v2⟩ := Ld_F2 h2 u u1
    have F1 := (Ld_F1 hb h1 v v1).2
    refine ⟨hb j hj, v, v1, fun c hc => ?_, fun q => u3 ?_⟩
    · by_cases q : ∃ i, i < K ∧ ph i = c
      · obtain ⟨i, i1, rfl⟩ := q
        have ij : i < j := by
          by_cases r : i < j
          · exact r
          · by_cases r2 : i = j
            · subst r2; omega
            · have := hm j i (by omega) i1; omega
        have e1 := u2 i ij
        have e2 := v2 i i1
        omega
      · have := hb j hj
        exact F1 c (by omega) (fun i hi e => q ⟨i, hi, e⟩)
    · have := v2 j hj
      omega
  · rintro ⟨-, v, v1, v2, v3⟩
    exact ⟨hj, _, (Ld_F1 hb h1 v v1).1, fun i hi => v2 _ (hm i j hi hj), v3⟩
  · rintro ⟨-, v, v1, v2, v3⟩
    exact v3 ((Ld_F1 hb h1 v v1).2 c hc hn)
theorem cnt_gap {d : Nat → Bool} {A : Nat} : ∀ {B}, A ≤ B → (∀ c, A ≤ c → c < B → d c = false) → cnt d B = cnt d A
  | 0, h, _ => by rw [show A = 0 by omega]
  | B + 1, h, hz => by
    by_cases q : A = B + 1
    · rw [q]
    · rw [cnt, hz B (by omega) (by omega), cnt_gap (B := B) (by omega) (fun c h1 h2 => hz c h1 (by omega))]
      simp
theorem cnt_map {d dM : Nat → Bool} (hb : ∀ j, j < K → ph j < 130) (hm : ∀ j j', j < j' → j' < K → ph j < ph j') (h1 : ∀ j, j < K → d j = dM (ph j)) (h2 : ∀ c, c < 130 → (∀ j, j < K → ph j ≠ c) → dM c = false) : ∀ j B, j ≤ K → (∀ i, i < j → ph i < B) → (∀ i, j ≤ i → i < K → B ≤ ph i) → B ≤ 130 → cnt d j = cnt dM B
  | 0, B, _, a1, a2, a3 => by
    rw [cnt_gap (d := dM) (A := 0) (B := B) (by omega) (fun c _ hc => h2 c (by omega) (fun i hi e => by have := a2 i (by omega) hi; omega))]
    rfl
  | j + 1, B, hj, a1, a2, a3 => by
    have b0 := a1 j (by omega)
    have ih := cnt_map hb hm h1 h2 j (ph j) (by omega) (fun i hi => hm i j hi (by omega)) (fun i h3 h4 => by
      by_cases q : i = j
      · rw [q]; exact Nat.le_refl _
      · have := hm j i (by omega) h4; omega) (by have := hb j (by omega); omega)
    rw [cnt_gap (d := dM) (A := ph j + 1) (B := B) (by omega) (fun c c1 c2 => h2 c (by omega) (fun i hi e => by
      by_cases q : i ≤ j
      · by_cases q2 : i = j
        · subst q2; omega
        · have := hm i j (by omega) (by omega); omega
      · have := a2 i (by omega) hi; omega))]
    rw [cnt, cnt, ih, h1 j (by omega)]
end LM
def phi (N pl j : Nat) : Nat := if j < pl * N then 25 * (j / N) + j % N else 100 + (j - pl * N)
theorem phi_at {N pl p c : Nat} (hN : N = 9 ∨ N = 16 ∨ N = 25) (hp : p < pl) (hpl : pl ≤ 4) (hc : c < N) : phi N pl (p * N + c) = 25 * p + c ∧ p * N + c < pl * N := by
  unfold phi
  rcases hN with rfl | rfl | rfl
  · rw [if_pos (by omega)]; omega
  · rw [if_pos (by omega)]; omega
  · rw [if_pos (by omega)]; omega
theorem phi_hi {N pl c : Nat} : phi N pl (pl * N + c) = 100 + c := by
  unfold phi
  rw [if_neg (by omega)]
  omega
theorem phi_b {N pl K : Nat} (hN : N = 9 ∨ N = 16 ∨ N = 25) (hpl : pl ≤ 4) (hK : K ≤ pl * N + 30) (j : Nat) (hj : j < K) : phi N pl j < 130 := by
  unfold phi
  rcases hN with rfl | rfl | rfl <;> split <;> omega
theorem phi_m {N pl : Nat} (hN : N = 9 ∨ N = 16 ∨ N = 25) (hpl : pl ≤ 4) (j j' : Nat) (h : j < j') : phi N pl j < phi N pl j' := by
  unfold phi
  rcases hN with rfl | rfl | rfl <;> split <;> split <;> omega
theorem phi_i {N pl : Nat} (hN : N = 9 ∨ N = 16 ∨ N = 25) (hpl : pl ≤ 4) (j j' : Nat) : phi N pl j = phi N pl j' ↔ j = j' := by
  constructor
  · intro h
    rcases Nat.lt_trichotomy j j' with q | q | q
    · have := phi_m hN hpl j j' q; omega
    · exact q
    · have := phi_m hN hpl j' j q; omega
  · intro h; rw [h]
theorem eqR_phi {ph : Nat → Nat} (hi : ∀ j j', ph j = ph j' ↔ j = j') {A B G x y : Nat} {A' B' G' : Nat} (hA : ph A = A') (hB : ph B = B') (hG : ph G = G') (hG1 : ph (G + 1) = G' + 1) (hG2 : ph (G + 2) = G' + 2) (j : Nat) : eqR A' B' G' x y (ph j) = eqR A B G x y j := by
  unfold eqR
  rw [← hA, ← hB, ← hG2, ← hG1, ← hG]
  simp only [hi]
theorem eqR_out {ph : Nat → Nat} {A B G x y K : Nat} {A' B' G' : Nat} (hA : ph A = A' ∧ A < K) (hB : ph B = B' ∧ B < K) (hG : ph G = G') (hG1 : ph (G + 1) = G' + 1) (hG2 : ph (G + 2) = G' + 2) (hK : G + 2 < K) {c : Nat} (hn : ∀ j, j < K → ph j ≠ c) : eqR A' B' G' x y c = 0 := by
  unfold eqR
  rw [if_neg (fun e => hn (G + 2) hK (by omega)), if_neg (fun e => hn (G + 1) (by omega) (by omega)), if_neg (fun e => hn G (by omega) (by omega)), if_neg (fun e => hn B hB.2 (by omega)), if_neg (fun e => hn A hA.2 (by omega))]
section HH
variable {s : xS} {b n pl : Nat} {red slip : Int} {x : sS} {W S : Nat → Int} {st : Int32} {rc : Nat} {Rs : Nat → Rn}
theorem rw_phi (hV : KV n pl red slip x W S rc Rs) {i k : Nat} (hi : i < rc) (hk : k < cnE n Rs i) : (∀ j, rwM n Rs i k (phi (n * n) pl j) = rwC n pl Rs i k j) ∧ ∀ c, (∀ j, j < pl * (n * n) + 3 * rc → phi (n * n) pl j ≠ c) → rwM n Rs i k c = 0 := by
  obtain ⟨n3, n5, hpl, -, -, -, -, -, -, hrc, hRs⟩ := hV
  obtain ⟨v1, v2, v3, v4, v5, v6, v7⟩ := hRs i hi
  unfold cnE at hk
  obtain ⟨c1, c2, c3⟩ := en_ok hk
  have ho := (v4.all c1).2.1
  unfold rwM rwC
  generalize en (dR n (Rs i).2.2.2.1 (Rs i).2.2.2.2.1) (n * n) k = c at *
  generalize ov n (Rs i).2.2.1 (Rs i).2.2.2.1 (Rs i).2.2.2.2.1 c = o at *
  generalize (Rs i).1 = up at *
  generalize (Rs i).2.1 = lo at *
  have hN : n * n = 9 ∨ n * n = 16 ∨ n * n = 25 := by
    have : n = 3 ∨ n = 4 ∨ n = 5 := by omega
    rcases this with rfl | rfl | rfl <;> omega
  generalize n * n = N at *
  have a1 := phi_at hN v2 hpl c1
  have a2 := phi_at hN v1 hpl ho
  have g0 : phi N pl (pl * N + 3 * i) = 100 + 3 * i := phi_hi
  have g1 : phi N pl (pl * N + 3 * i + 1) = 100 + 3 * i + 1 := by rw [Nat.add_assoc, phi_hi]; omega
  have g2 : phi N pl (pl * N + 3 * i + 2) = 100 + 3 * i + 2 := by rw [Nat.add_assoc, phi_hi]; omega
  exact ⟨fun j => eqR_phi (phi_i hN hpl) a1.1 a2.1 g0 g1 g2 j, fun c hc => eqR_out (K := pl * N + 3 * rc) ⟨a1.1, by omega⟩ ⟨a2.1, by omega⟩ g0 g1 g2 (by omega) hc⟩
theorem c_hidden (h : Core s b n pl red slip x W S st rc Rs) : RO s (f141 0) (f243 101) := by
  have hpl := h.p4
  have hrc := h.rc10
  have sq := h.cn.sq
  have hV := h.2.2
  have n3 := hV.1
  have n5 := hV.2.1
  have hN : n * n = 9 ∨ n * n = 16 ∨ n * n = 25 := by
    have : n = 3 ∨ n = 4 ∨ n = 5 := by omega
    rcases this with rfl | rfl | rfl <;> omega
  unfold RO f141
  rw [ifg_pos O_0]
  simp only [R_0_11, R_0_1, Option.bind_some, ce_unk h]
  refine (ce_rank h).bind (fun r1 ⟨a1, d, e, a2, a3, a4⟩ => ?_)
  have h1 := Core_scr h a1
  have e32 := h1.1.1
  simp only [ok_some, a4, e32, iz3, iz_mul, iz_sub]
  refine ⟨a1, ?_⟩
  unfold f243
  rw [ifg_pos O_101]
  refine (me_lay h1).bind (fun r2 ⟨b1, m, M, b2, b3⟩ => ?_)
  have h2 := Core_scr h1 b1
  have m37 := h2.2.1.2.2.2.2.2.2.2.1
  simp (disch := omega) only [R_101_12, A_105, h2.mn.b_in, h2.mn.b_nat, h2.2.1.2.1, if_true, Option.bind_some, h2.mn.zc, m37]
  refine (me_rank b2).bind (fun r3 ⟨c1, dM, eM, c2, c3, c4⟩ => ?_)
  have h3 := Core_scr h2 (c1.mono F128_z)
  simp (disch := omega) only [A_105, h3.mn.b_in, h3.mn.b_nat, h3.2.1.2.1, if_true, Option.bind_some, c4, iz3, iz_mul, iz_sub, iz_add, ok_some]
  refine ⟨b1.tr (c1.mono F128_z), ?_⟩
  have key := Ld_map (K := pl * (n * n) + 3 * rc) (ph := phi (n * n) pl) (GC := GL (rwC n pl Rs) (cnE n Rs) rc 0) (GM := GL (rwM n Rs) (cnE n Rs) rc 0) (phi_b hN hpl (by omega)) (fun j j' hj _ => phi_m hN hpl j j' hj) (fun v hv => ?_) (fun u hu => ?_)
  · have kc : ∀ j, j < pl * (n * n) + 3 * rc → (d j = true ↔ dM (phi (n * n) pl j) = true) := by
      intro j hj
      have e1 := Ec_ld a2 j
      have e2 := Ec_ld c2 (phi (n * n) pl j)
      have e3 := Ld_cg a3 j
      have e4 := Ld_cg (c3.tr b3) (phi (n * n) pl j)
      have e5 := key.1 j hj
      constructor
      · intro q
        exact (e2.mp (e4.mpr (e5.mp (e3.mp (e1.mpr ⟨hj, q⟩))))).2
      · intro q
        exact (e1.mp (e3.mpr (e5.mpr (e4.mp (e2.mpr ⟨phi_b hN hpl (K := pl * (n * n) + 3 * rc) (by omega) j hj, q⟩))))).2
    have ko : ∀ c, c < 130 → (∀ j, j < pl * (n * n) + 3 * rc → phi (n * n) pl j ≠ c) → dM c = false := by
      intro c hc hn
      cases q : dM c with
      | false => rfl
      | true => exact absurd ((Ld_cg (c3.tr b3) c).mp ((Ec_ld c2 c).mpr ⟨hc, q⟩)) (key.2 c hc hn)
    have fin := cnt_map (d := d) (dM := dM) (phi_b hN hpl (K := pl * (n * n) + 3 * rc) (by omega)) (fun j j' hj _ => phi_m hN hpl j j' hj) (fun j hj => by
      have := kc j hj
      cases q1 : d j <;> cases q2 : dM (phi (n * n) pl j) <;> rw [q1, q2] at this <;> simp at this <;> rfl) ko (pl * (n * n) + 3 * rc) 130 (Nat.le_refl _) (fun i hi => phi_b hN hpl (K := pl * (n * n) + 3 * rc) (by omega) i hi) (fun i h1 h2 => by omega) (Nat.le_refl _)
    rw [fin]
    push_cast
    rfl
  · obtain ⟨i, k, h1, rfl⟩ := hv
    have hik : i < rc ∧ k < cnE n Rs i := by omega
    obtain ⟨w1, w2⟩ := rw_phi hV hik.1 hik.2
    exact ⟨cZ (rwC n pl Rs i k), ⟨i, k, h1, rfl⟩, fun j hj => by unfold cZ; rw [w1 j], fun c hc hn => by unfold cZ; rw [w2 c hn]; rfl⟩
  · obtain ⟨i, k, h1, rfl⟩ := hu
    have hik : i < rc ∧ k < cnE n Rs i := by omega
    obtain ⟨w1, w2⟩ := rw_phi hV hik.1 hik.2
    exact ⟨cZ (rwM n Rs i k), ⟨i, k, h1, rfl⟩, fun j hj => by unfold cZ; rw [w1 j]⟩
end HH
