/-! the model's settle: the trial of all threes -/
section MO
variable (n : Nat) (Z : Nat → Int) (d : Nat → Bool)
def mo_c (i j k : Nat) : Prop := i < j ∧ j < k ∧ k < n * n ∧ d i = true ∧ d j = true ∧ d k = true ∧ ge_d (mx n) (my n) i j k ≠ 0 ∧ ∀ c, c < n * n → d c = true → fi_D (mx n) (my n) i j k * Z c ≤ fi_f (mx n) (my n) Z i j k (mx n c) (my n c) 1
def mo_v (i j k : Nat) : Int := fi_f (mx n) (my n) Z i j k (smS d (mx n) (n * n)) (smS d (my n) (n * n)) (smS d (fun _ => 1) (n * n))
def lx (i j k i' j' k' : Nat) : Prop := i < i' ∨ (i = i' ∧ (j < j' ∨ (j = j' ∧ k ≤ k')))
def mo_X (i j k : Nat) : Int := fi_s (mx n) (my n) i j k * ge_q (my n) Z i j k
def mo_Y (i j k : Nat) : Int := fi_s (mx n) (my n) i j k * ge_r (mx n) Z i j k
def mo_D (i j k : Nat) : Int := fi_D (mx n) (my n) i j k
/-- the best of those that Pr names -/
def mo_b (Pr : Nat → Nat → Nat → Prop) (i j k : Nat) : Prop := ∀ i' j' k', Pr i' j' k' → mo_c n Z d i' j' k' → mo_v n Z d i j k * mo_D n i' j' k' < mo_v n Z d i' j' k' * mo_D n i j k ∨ (mo_v n Z d i j k * mo_D n i' j' k' = mo_v n Z d i' j' k' * mo_D n i j k ∧ lx i j k i' j' k')
def MI (Pr : Nat → Nat → Nat → Prop) (has pc : Int32) (px py pb : Int64) : Prop := (has = 0 ∧ ∀ i j k, Pr i j k → ¬ mo_c n Z d i j k) ∨ (has = 1 ∧ ∃ i j k, Pr i j k ∧ mo_c n Z d i j k ∧ pc.toInt = (i : Int) ∧ px.toInt = mo_X n Z i j k ∧ py.toInt = mo_Y n Z i j k ∧ pb.toInt = mo_D n i j k ∧ mo_b n Z d Pr i j k)
end MO
section MP
variable {n : Nat} {Z : Nat → Int} {d : Nat → Bool}
theorem mo_ab_eq (c i j k : Nat) : mo_ab n Z c i (mo_X n Z i j k) (mo_Y n Z i j k) (mo_D n i j k) = fi_f (mx n) (my n) Z i j k (mx n c) (my n c) 1 - mo_D n i j k * Z c := by
  unfold mo_ab mo_X mo_Y mo_D fi_f fi_D ge_p
  generalize fi_s (mx n) (my n) i j k = σ
  grind
theorem mo_mid_v (i j k : Nat) : mo_mid n Z d i (mo_X n Z i j k) (mo_Y n Z i j k) (mo_D n i j k) = mo_v n Z d i j k := by
  rw [mo_mid_eq]
  unfold mo_v mo_X mo_Y mo_D fi_f fi_D ge_p
  generalize fi_s (mx n) (my n) i j k = σ
  grind
theorem mo_Dpos {i j k : Nat} (h : ge_d (mx n) (my n) i j k ≠ 0) : 0 < mo_D n i j k := fi_Dpos h
theorem mo_plb {i j k : Nat} (n3 : 3 ≤ n) (n5 : n ≤ 5) (hi : i < n * n) (hj : j < n * n) (hk : k < n * n) (zi : -5000 ≤ Z i ∧ Z i ≤ 5000) (zj : -5000 ≤ Z j ∧ Z j ≤ 5000) (zk : -5000 ≤ Z k ∧ Z k ≤ 5000) : plb (mo_X n Z i j k) (mo_Y n Z i j k) (mo_D n i j k) := by
  have bi := mx_bd (c := i) n3 n5
  have bj := mx_bd (c := j) n3 n5
  have bk := mx_bd (c := k) n3 n5
  have ci := my_bd n3 n5 hi
  have cj := my_bd n3 n5 hj
  have ck := my_bd n3 n5 hk
  have p1 := mb4 (x := mx n j - mx n i) (y := my n k - my n i) (by omega) (by omega) (by omega) (by omega)
  have p2 := mb4 (x := mx n k - mx n i) (y := my n j - my n i) (by omega) (by omega) (by omega) (by omega)
  have q1 := mbd (B := 10000) (C := 4) (x := Z j - Z i) (y := my n k - my n i) (by omega) (by omega) (by omega) (by omega)
  have q2 := mbd (B := 10000) (C := 4) (x := Z k - Z i) (y := my n j - my n i) (by omega) (by omega) (by omega) (by omega)
  have q3 := mbd (B := 4) (C := 10000) (x := mx n j - mx n i) (y := Z k - Z i) (by omega) (by omega) (by omega) (by omega)
  have q4 := mbd (B := 4) (C := 10000) (x := mx n k - mx n i) (y := Z j - Z i) (by omega) (by omega) (by omega) (by omega)
  have g1 : -32 ≤ ge_d (mx n) (my n) i j k ∧ ge_d (mx n) (my n) i j k ≤ 32 := by unfold ge_d; omega
  have g2 : -80000 ≤ ge_q (my n) Z i j k ∧ ge_q (my n) Z i j k ≤ 80000 := by unfold ge_q; omega
  have g3 : -80000 ≤ ge_r (mx n) Z i j k ∧ ge_r (mx n) Z i j k ≤ 80000 := by unfold ge_r; omega
  unfold plb mo_X mo_Y mo_D fi_D
  rcases fi_s_cases (mx n) (my n) i j k with q | q <;> rw [q] <;> omega
theorem MI.congr {Pr Pr' : Nat → Nat → Nat → Prop} {has pc : Int32} {px py pb : Int64} (h : MI n Z d Pr has pc px py pb) (he : ∀ i j k, mo_c n Z d i j k → (Pr i j k ↔ Pr' i j k)) : MI n Z d Pr' has pc px py pb := by
  rcases h with ⟨h1, h2⟩ | ⟨h1, i, j, k, h2, h3, h4, h5, h6, h7, h8⟩
  · exact Or.inl ⟨h1, fun i j k q c => h2 i j k ((he i j k c).mpr q) c⟩
  · exact Or.inr ⟨h1, i, j, k, (he i j k h3).mp h2, h3, h4, h5, h6, h7, fun i' j' k' q c => h8 i' j' k' ((he i' j' k' c).mpr q) c⟩
theorem MI.skip {Pr : Nat → Nat → Nat → Prop} {has pc : Int32} {px py pb : Int64} (h : MI n Z d Pr has pc px py pb) {i j k : Nat} (hn : ¬ mo_c n Z d i j k) : MI n Z d (fun a b c => Pr a b c ∨ (a = i ∧ b = j ∧ c = k)) has pc px py pb :=
  h.congr (fun a b c hc => ⟨Or.inl, fun q => q.elim id (fun q => absurd (by rw [q.1, q.2.1, q.2.2] at hc; exact hc) hn)⟩)
theorem mo_b_refl {i j k : Nat} : mo_v n Z d i j k * mo_D n i j k = mo_v n Z d i j k * mo_D n i j k ∧ lx i j k i j k := ⟨rfl, Or.inr ⟨rfl, Or.inr ⟨rfl, Nat.le_refl _⟩⟩⟩
theorem MI.first {Pr : Nat → Nat → Nat → Prop} {pc : Int32} {px py pb : Int64} (h : ∀ i j k, Pr i j k → ¬ mo_c n Z d i j k) {i j k : Nat} (hc : mo_c n Z d i j k) (e1 : pc.toInt = (i : Int)) (e2 : px.toInt = mo_X n Z i j k) (e3 : py.toInt = mo_Y n Z i j k) (e4 : pb.toInt = mo_D n i j k) : MI n Z d (fun a b c => Pr a b c ∨ (a = i ∧ b = j ∧ c = k)) 1 pc px py pb := by
  refine Or.inr ⟨rfl, i, j, k, Or.inr ⟨rfl, rfl, rfl⟩, hc, e1, e2, e3, e4, fun i' j' k' q c => ?_⟩
  rcases q with q | ⟨rfl, rfl, rfl⟩
  · exact absurd c (h i' j' k' q)
  · exact Or.inr mo_b_refl
theorem MI.lower {Pr : Nat → Nat → Nat → Prop} {pc : Int32} {px py pb : Int64} {i0 j0 k0 : Nat} (hc0 : mo_c n Z d i0 j0 k0) (hb : mo_b n Z d Pr i0 j0 k0) {i j k : Nat} (hc : mo_c n Z d i j k) (hl : mo_v n Z d i j k * mo_D n i0 j0 k0 < mo_v n Z d i0 j0 k0 * mo_D n i j k) (e1 : pc.toInt = (i : Int)) (e2 : px.toInt = mo_X n Z i j k) (e3 : py.toInt = mo_Y n Z i j k) (e4 : pb.toInt = mo_D n i j k) : MI n Z d (fun a b c => Pr a b c ∨ (a = i ∧ b = j ∧ c = k)) 1 pc px py pb := by
  refine Or.inr ⟨rfl, i, j, k, Or.inr ⟨rfl, rfl, rfl⟩, hc, e1, e2, e3, e4, fun i' j' k' q c => ?_⟩
  rcases q with q | ⟨rfl, rfl, rfl⟩
  · have h1 := hb i' j' k' q c
    have p0 := mo_Dpos hc0.2.2.2.2.2.2.1
    have p1 := mo_Dpos hc.2.2.2.2.2.2.1
    have p2 := mo_Dpos c.2.2.2.2.2.2.1
    refine Or.inl (ratio_lt p1 p0 p2 hl ?_)
    omega
  · exact Or.inr mo_b_refl
theorem MI.keep {Pr : Nat → Nat → Nat → Prop} {pc : Int32} {px py pb : Int64} {i0 j0 k0 : Nat} (hp : Pr i0 j0 k0) (hc0 : mo_c n Z d i0 j0 k0) (hb : mo_b n Z d Pr i0 j0 k0) {i j k : Nat} (hl : ¬ mo_v n Z d i j k * mo_D n i0 j0 k0 < mo_v n Z d i0 j0 k0 * mo_D n i j k) (hx : lx i0 j0 k0 i j k) (e1 : pc.toInt = (i0 : Int)) (e2 : px.toInt = mo_X n Z i0 j0 k0) (e3 : py.toInt = mo_Y n Z i0 j0 k0) (e4 : pb.toInt = mo_D n i0 j0 k0) : MI n Z d (fun a b c => Pr a b c ∨ (a = i ∧ b = j ∧ c = k)) 1 pc px py pb := by
  refine Or.inr ⟨rfl, i0, j0, k0, Or.inl hp, hc0, e1, e2, e3, e4, fun i' j' k' q c => ?_⟩
  rcases q with q | ⟨rfl, rfl, rfl⟩
  · exact hb i' j' k' q c
  · by_cases e : mo_v n Z d i0 j0 k0 * mo_D n i' j' k' = mo_v n Z d i' j' k' * mo_D n i0 j0 k0
    · exact Or.inr ⟨e, hx⟩
    · exact Or.inl (by omega)
end MP
def FS (id k : Nat) : Bool := id == 101 && (Nat.ble 42 k && Nat.ble k 48)
def Lt (i j k i' j' k' : Nat) : Prop := i' < i ∨ (i' = i ∧ (j' < j ∨ (j' = j ∧ k' < k)))
set_option maxHeartbeats 4000000 in
/-- one three tried -/
theorem mo_try {s : xS} {b : Nat} {N : Int32} {n : Nat} (hn : Mn s b N n) {d : Nat → Bool} {Z : Nat → Int} (hs : Ms s n d Z) {x1 x2 x3 x4 : Int32} {i j k : Nat} (h2 : x2.toInt = i) (h3 : x3.toInt = j) (h4 : x4.toInt = k) (hij : i < j) (hjk : j < k) (hk : k < n * n)
    (hI : MI n Z d (Lt i j k) x1 (s.1 101 42) (s.2 101 43) (s.2 101 44) (s.2 101 45)) :
    ∃ x1' s', f212_29 101 x1 x2 x3 x4 s = some (.inl (x1', x4 + 1, s')) ∧ fr FS s s' ∧ MI n Z d (Lt i j (k + 1)) x1' (s'.1 101 42) (s'.2 101 43) (s'.2 101 44) (s'.2 101 45) := by
  have sq25 := hn.sq25
  have n3 := hn.2.2.2.2.1
  have n5 := hn.2.2.2.2.2
  have hle : ¬ N * N ≤ x4 := fun q => by have := i_le.mp q; rw [hn.sq, h4] at this; omega
  have ii : xm_in x2 25 = true := in_ok h2 (by omega) (by omega)
  have ij : xm_in x3 25 = true := in_ok h3 (by omega) (by omega)
  have ik : xm_in x4 25 = true := in_ok h4 (by omega) (by omega)
  have ni : x2.toNatClampNeg = i := by rw [cl_nat h2]; rfl
  have nj : x3.toNatClampNeg = j := by rw [cl_nat h3]; rfl
  have nk : x4.toNatClampNeg = k := by rw [cl_nat h4]; rfl
  have di := hs.1 i (by omega)
  have dj := hs.1 j (by omega)
  have dk := hs.1 k hk
  have z32 : (0 : Int32).toInt = 0 := rfl
  have neg : ∀ c : Nat, c < n * n → ((s.1 125 c < 0) ↔ ¬ d c = true) := by
    intro c hc
    have h := hs.1 c hc
    rw [i_lt, z32, h]
    omega
  have fold : ∀ {x1' pc : Int32} {px py pb : Int64}, MI n Z d (fun a b' c => Lt i j k a b' c ∨ (a = i ∧ b' = j ∧ c = k)) x1' pc px py pb → MI n Z d (Lt i j (k + 1)) x1' pc px py pb := by
    intro x1' pc px py pb h
    refine h.congr (fun a b' c _ => ?_)
    unfold Lt
    omega
  have ev : f212_29 101 x1 x2 x3 x4 s = if s.1 125 i < 0 then some (.inl (x1, x4 + 1, s)) else if s.1 125 j < 0 then some (.inl (x1, x4 + 1, s)) else if s.1 125 k < 0 then some (.inl (x1, x4 + 1, s)) else ((f208 101 x2 x3 x4 s).bind fun z19 => if z19.2 = 0 then (f212_177 101 x1 x2 x3 x4 z19.1) else ((f210 101 x2 z19.1).bind fun z22 => if z22.2 = 0 then (f212_177 101 x1 x2 x3 x4 z22.1) else (if x1 = 0 then (f212_146 101 x2 x3 x4 z22.1) else ((f211 101 x2 (z22.1.2 101 46) (z22.1.2 101 47) (z22.1.2 101 48) z22.1).bind fun z26 => (f211 101 (z26.1.1 101 42) (z26.1.2 101 43) (z26.1.2 101 44) (z26.1.2 101 45) z26.1).bind fun z28 => if (lg_cmp (z26.2 * (z26.1.2 101 45)) (z28.2 * (z28.1.2 101 48))) < 0 then (f212_146 101 x2 x3 x4 z28.1) else (f212_177 101 x1 x2 x3 x4 z28.1))))) := by
    unfold f212_29
    simp only [hn.cells, Option.bind_some, if_neg hle, R_101_39, A_125, ii, ij, ik, if_true, ni, nj, nk]
    rfl
  rw [ev]
  by_cases ei : s.1 125 i < 0
  · rw [if_pos ei]
    exact ⟨x1, s, rfl, fr.rf _ _, fold (hI.skip (fun q => (neg i (by omega)).mp ei q.2.2.2.1))⟩
  rw [if_neg ei]
  by_cases ej : s.1 125 j < 0
  · rw [if_pos ej]
    exact ⟨x1, s, rfl, fr.rf _ _, fold (hI.skip (fun q => (neg j (by omega)).mp ej q.2.2.2.2.1))⟩
  rw [if_neg ej]
  by_cases ek : s.1 125 k < 0
  · rw [if_pos ek]
    exact ⟨x1, s, rfl, fr.rf _ _, fold (hI.skip (fun q => (neg k hk).mp ek q.2.2.2.2.2.1))⟩
  rw [if_neg ek]
  have di1 : d i = true := by cases e : d i with | true => rfl | false => exact absurd ((neg i (by omega)).mpr (by rw [e]; decide)) ei
  have dj1 : d j = true := by cases e : d j with | true => rfl | false => exact absurd ((neg j (by omega)).mpr (by rw [e]; decide)) ej
  have dk1 : d k = true := by cases e : d k with | true => rfl | false => exact absurd ((neg k hk).mpr (by rw [e]; decide)) ek
  obtain ⟨t0, t1⟩ := mo_through hn hs h2 h3 h4 (by omega) (by omega) hk di1 dj1 dk1
  by_cases hd : ge_d (mx n) (my n) i j k = 0
  · rw [t0 hd]
    exact ⟨x1, s, rfl, fr.rf _ _, fold (hI.skip (fun q => q.2.2.2.2.2.2.1 hd))⟩
  obtain ⟨vx, vy, vb, e1, e2, e3, e4⟩ := t1 hd
  rw [e1]
  simp only [Option.bind_some]
  rw [if_neg (by decide)]
  generalize hs1 : ((s.1, xm_up (xm_up (xm_up s.2 101 46 vx) 101 47 vy) 101 48 vb) : xS) = s1
  have hf1 : fr FS s s1 := by
    rw [← hs1]
    exact (((fr.rf FS s).ul (id := 101) (k := 46) rfl).ul (id := 101) (k := 47) rfl).ul (id := 101) (k := 48) rfl
  have hn1 : Mn s1 b N n := hn.fr hf1 rfl (fun _ => rfl)
  have hms1 : Ms s1 n d Z := hs.fr hf1 (fun _ => rfl) (fun _ => rfl)
  have g46 : s1.2 101 46 = vx := by rw [← hs1]; simp [xm_up]
  have g47 : s1.2 101 47 = vy := by rw [← hs1]; simp [xm_up]
  have g48 : s1.2 101 48 = vb := by rw [← hs1]; simp [xm_up]
  have g42 : s1.1 101 42 = s.1 101 42 := by rw [← hs1]
  have g43 : s1.2 101 43 = s.2 101 43 := by rw [← hs1]; simp [xm_up]
  have g44 : s1.2 101 44 = s.2 101 44 := by rw [← hs1]; simp [xm_up]
  have g45 : s1.2 101 45 = s.2 101 45 := by rw [← hs1]; simp [xm_up]
  have pb1 := mo_plb (n := n) (Z := Z) n3 n5 (show i < n * n by omega) (show j < n * n by omega) hk (hs.2 i (by omega) di1).2 (hs.2 j (by omega) dj1).2 (hs.2 k hk dk1).2
  obtain ⟨v, f1, f2⟩ := mo_over hn1 hms1 h2 (show i < n * n by omega) di1 (x := mo_X n Z i j k) (y := mo_Y n Z i j k) (w := mo_D n i j k) (by rw [g46, e2]; rfl) (by rw [g47, e3]; rfl) (by rw [g48, e4]; rfl) pb1
  rw [f1]
  simp only [Option.bind_some]
  rcases f2 with ⟨rfl, f3⟩ | ⟨rfl, c, c1, c2, c3⟩
  · rw [if_neg (by decide)]
    have hc : mo_c n Z d i j k := ⟨hij, hjk, hk, di1, dj1, dk1, hd, fun c q1 q2 => by
      have := f3 c q1 q2
      rw [mo_ab_eq] at this
      unfold mo_D at this
      omega⟩
    have newok : ∃ s', f212_146 101 x2 x3 x4 s1 = some (.inl (1, x4 + 1, s')) ∧ fr FS s s' ∧ s'.1 101 42 = x2 ∧ s'.2 101 43 = vx ∧ s'.2 101 44 = vy ∧ s'.2 101 45 = vb := by
      refine ⟨_, rfl, ?_, ?_, ?_, ?_, ?_⟩
      · exact (((hf1.ui (id := 101) (k := 42) rfl).ul (id := 101) (k := 43) rfl).ul (id := 101) (k := 44) rfl).ul (id := 101) (k := 45) rfl
      · simp [xm_up]
      · simp [xm_up, g46]
      · simp [xm_up, g47]
      · simp [xm_up, g48]
    obtain ⟨s', n1, n2, m42, m43, m44, m45⟩ := newok
    rcases hI with ⟨rfl, hI2⟩ | ⟨rfl, i0, j0, k0, p1, p2, p3, p4, p5, p6, p7⟩
    · rw [if_pos rfl]
      refine ⟨1, s', n1, n2, fold (MI.first hI2 hc (by rw [m42]; exact h2) (by rw [m43]; exact e2) (by rw [m44]; exact e3) (by rw [m45]; exact e4))⟩
    · rw [if_neg (by decide)]
      have i0b : i0 < n * n := by have := p2.1; have := p2.2.1; have := p2.2.2.1; omega
      have j0b : j0 < n * n := by have := p2.2.1; have := p2.2.2.1; omega
      have pb0 := mo_plb (n := n) (Z := Z) n3 n5 i0b j0b p2.2.2.1 (hs.2 i0 i0b p2.2.2.2.1).2 (hs.2 j0 j0b p2.2.2.2.2.1).2 (hs.2 k0 p2.2.2.1 p2.2.2.2.2.2.1).2
      obtain ⟨w1, q1, q2, q3, q4⟩ := mo_middle hn1 hms1 h2 (show i < n * n by omega) di1 (vx := s1.2 101 46) (vy := s1.2 101 47) (vw := s1.2 101 48) (x := mo_X n Z i j k) (y := mo_Y n Z i j k) (w := mo_D n i j k) (by rw [g46, e2]; rfl) (by rw [g47, e3]; rfl) (by rw [g48, e4]; rfl) pb1
      obtain ⟨w0, r1, r2, r3, r4⟩ := mo_middle hn1 hms1 (x1 := s1.1 101 42) (by rw [g42]; exact p3) i0b p2.2.2.2.1 (vx := s1.2 101 43) (vy := s1.2 101 44) (vw := s1.2 101 45) (by rw [g43]; exact p4) (by rw [g44]; exact p5) (by rw [g45]; exact p6) pb0
      rw [q1]
      simp only [Option.bind_some]
      rw [r1]
      simp only [Option.bind_some]
      rw [mo_mid_v] at q2 q3 q4 r2 r3 r4
      have u0 := mo_Dpos p2.2.2.2.2.2.2.1
      have u1 := mo_Dpos hd
      have b1 := mbd (B := 25000000) (C := 32) q3 q4 pb0.2.2.2.2.1 pb0.2.2.2.2.2
      have b2 := mbd (B := 25000000) (C := 32) r3 r4 pb1.2.2.2.2.1 pb1.2.2.2.2.2
      have l1 := l_mul q2 (show (s1.2 101 45).toInt = mo_D n i0 j0 k0 by rw [g45]; exact p6) (by omega) (by omega)
      have l2 := l_mul r2 (show (s1.2 101 48).toInt = mo_D n i j k by rw [g48, e4]; rfl) (by omega) (by omega)
      have hcmp : (lg_cmp (w1 * s1.2 101 45) (w0 * s1.2 101 48) < 0) ↔ mo_v n Z d i j k * mo_D n i0 j0 k0 < mo_v n Z d i0 j0 k0 * mo_D n i j k := by rw [cmp_lt, l1, l2]
      by_cases hl : mo_v n Z d i j k * mo_D n i0 j0 k0 < mo_v n Z d i0 j0 k0 * mo_D n i j k
      · rw [if_pos (hcmp.mpr hl)]
        exact ⟨1, s', n1, n2, fold (MI.lower p2 p7 hc hl (by rw [m42]; exact h2) (by rw [m43]; exact e2) (by rw [m44]; exact e3) (by rw [m45]; exact e4))⟩
      · rw [if_neg (fun q => hl (hcmp.mp q))]
        refine ⟨1, s1, rfl, hf1, fold (MI.keep p1 p2 p7 hl ?_ (by rw [g42]; exact p3) (by rw [g43]; exact p4) (by rw [g44]; exact p5) (by rw [g45]; exact p6))⟩
        unfold lx
        unfold Lt at p1
        omega
  · rw [if_pos rfl]
    refine ⟨x1, s1, rfl, hf1, ?_⟩
    rw [g42, g43, g44, g45]
    refine fold (hI.skip (fun q => ?_))
    have := q.2.2.2.2.2.2.2 c c1 c2
    rw [mo_ab_eq] at c3
    unfold mo_D at c3
    omega
/-- the model's settle -/
theorem mo_settle {s : xS} {b : Nat} {N : Int32} {n : Nat} (hn : Mn s b N n) {d : Nat → Bool} {Z : Nat → Int} (hs : Ms s n d Z) (hex : ∃ i j k, mo_c n Z d i j k) :
    ∃ s', f212 101 s = some (s', ()) ∧ fr FS s s' ∧ ∃ i j k, mo_c n Z d i j k ∧ (s'.1 101 42).toInt = (i : Int) ∧ (s'.2 101 43).toInt = mo_X n Z i j k ∧ (s'.2 101 44).toInt = mo_Y n Z i j k ∧ (s'.2 101 45).toInt = mo_D n i j k ∧ mo_b n Z d (fun _ _ _ => True) i j k := by
  have sq25 := hn.sq25
  have hw := for_ruleA (body := fun q : Int32 × Int32 × xS => f212_4 101 q.1 q.2.1 q.2.2) (fun i x1 u => fr FS s u ∧ MI n Z d (Lt i 0 0) x1 (u.1 101 42) (u.2 101 43) (u.2 101 44) (u.2 101 45)) 0 (n * n)
    (fun r : xS × Unit => fr FS s r.1 ∧ ∃ i j k, mo_c n Z d i j k ∧ (r.1.1 101 42).toInt = (i : Int) ∧ (r.1.2 101 43).toInt = mo_X n Z i j k ∧ (r.1.2 101 44).toInt = mo_Y n Z i j k ∧ (r.1.2 101 45).toInt = mo_D n i j k ∧ mo_b n Z d (fun _ _ _ => True) i j k) (Nat.zero_le _) (by omega) ?_ ?_ (c0 := 0) (i0 := 0) (s0 := s) rfl ⟨fr.rf _ _, Or.inl ⟨rfl, fun i j k q => by unfold Lt at q; omega⟩⟩
  · obtain ⟨⟨u, v⟩, e1, e2, e3⟩ := hw
    refine ⟨u, ?_, e2, e3⟩
    unfold f212
    rw [ifg_pos O_101]
    exact e1
  · intro i x1 xi u i0 i1 i2 i3 ⟨hu, hI⟩
    left
    have hn1 : Mn u b N n := hn.fr hu rfl (fun _ => rfl)
    have hle : ¬ N * N ≤ xi := fun q => by have := i_le.mp q; rw [hn.sq, i2] at this; omega
    have hw2 := for_ruleA (body := fun q : Int32 × Int32 × xS => f212_16 101 q.1 xi q.2.1 q.2.2) (fun j x1 u => fr FS s u ∧ MI n Z d (Lt i j 0) x1 (u.1 101 42) (u.2 101 43) (u.2 101 44) (u.2 101 45)) (i + 1) (n * n)
      (fun r : (Int32 × Int32 × xS) ⊕ (xS × Unit) => ∃ x1' u', r = .inl (x1', xi + 1, u') ∧ fr FS s u' ∧ MI n Z d (Lt (i + 1) 0 0) x1' (u'.1 101 42) (u'.2 101 43) (u'.2 101 44) (u'.2 101 45)) (by omega) (by omega) ?_ ?_ (c0 := x1) (i0 := xi + 1) (s0 := u) i3 ⟨hu, hI.congr (fun a b' c hc => by have h1 := hc.1; have h2 := hc.2.1; unfold Lt; omega)⟩
    · obtain ⟨r, e1, x1', u', rfl, e3, e4⟩ := hw2
      refine ⟨x1', u', ?_, e3, e4⟩
      dsimp only
      unfold f212_4
      simp only [hn1.cells, Option.bind_some, if_neg hle]
      exact e1
    · intro j x1 xj u j0 j1 j2 j3 ⟨hu, hI⟩
      left
      have hn1 : Mn u b N n := hn.fr hu rfl (fun _ => rfl)
      have hle : ¬ N * N ≤ xj := fun q => by have := i_le.mp q; rw [hn.sq, j2] at this; omega
      have hw3 := for_ruleA (body := fun q : Int32 × Int32 × xS => f212_29 101 q.1 xi xj q.2.1 q.2.2) (fun k x1 u => fr FS s u ∧ MI n Z d (Lt i j k) x1 (u.1 101 42) (u.2 101 43) (u.2 101 44) (u.2 101 45)) (j + 1) (n * n)
        (fun r : (Int32 × Int32 × xS) ⊕ ((Int32 × Int32 × xS) ⊕ (xS × Unit)) => ∃ x1' u', r = .inl (x1', xj + 1, u') ∧ fr FS s u' ∧ MI n Z d (Lt i (j + 1) 0) x1' (u'.1 101 42) (u'.2 101 43) (u'.2 101 44) (u'.2 101 45)) (by omega) (by omega) ?_ ?_ (c0 := x1) (i0 := xj + 1) (s0 := u) j3 ⟨hu, hI.congr (fun a b' c hc => by have h1 := hc.1; have h2 := hc.2.1; unfold Lt; omega)⟩
      · obtain ⟨r, e1, x1', u', rfl, e3, e4⟩ := hw3
        refine ⟨x1', u', ?_, e3, e4⟩
        dsimp only
        unfold f212_16
        simp only [hn1.cells, Option.bind_some, if_neg hle]
        exact e1
      · intro k x1 xk u k0 k1 k2 k3 ⟨hu, hI⟩
        left
        have hn1 : Mn u b N n := hn.fr hu rfl (fun _ => rfl)
        have hms1 : Ms u n d Z := hs.fr hu (fun _ => rfl) (fun _ => rfl)
        obtain ⟨x1', s', e1, e2, e3⟩ := mo_try hn1 hms1 i2 j2 k2 (by omega) (by omega) k1 hI
        exact ⟨x1', s', e1, hu.tr e2, e3⟩
      · intro x1 xk u k2 ⟨hu, hI⟩
        have hn1 : Mn u b N n := hn.fr hu rfl (fun _ => rfl)
        have hle2 : N * N ≤ xk := i_le.mpr (by rw [hn.sq, k2]; omega)
        refine ⟨.inl (x1, xj + 1, u), ?_, x1, u, rfl, hu, hI.congr (fun a b' c hc => by have h1 := hc.1; have h2 := hc.2.1; have h3 := hc.2.2.1; unfold Lt; omega)⟩
        dsimp only
        unfold f212_29
        simp only [hn1.cells, Option.bind_some, if_pos hle2, Option.map_some]
    · intro x1 xj u j2 ⟨hu, hI⟩
      have hn1 : Mn u b N n := hn.fr hu rfl (fun _ => rfl)
      have hle2 : N * N ≤ xj := i_le.mpr (by rw [hn.sq, j2]; omega)
      refine ⟨.inl (x1, xi + 1, u), ?_, x1, u, rfl, hu, hI.congr (fun a b' c hc => by have h1 := hc.1; have h2 := hc.2.1; have h3 := hc.2.2.1; unfold Lt; omega)⟩
      dsimp only
      unfold f212_16
      simp only [hn1.cells, Option.bind_some, if_pos hle2, Option.map_some]
  · intro x1 xi u i2 ⟨hu, hI⟩
    have hn1 : Mn u b N n := hn.fr hu rfl (fun _ => rfl)
    have hle2 : N * N ≤ xi := i_le.mpr (by rw [hn.sq, i2]; omega)
    refine ⟨(u, ()), ?_, hu, ?_⟩
    · dsimp only
      unfold f212_4
      simp only [hn1.cells, Option.bind_some, if_pos hle2, Option.map_some]
    · have hall : ∀ i j k, mo_c n Z d i j k → Lt (n * n) 0 0 i j k := fun i j k hc => by have h1 := hc.1; have h2 := hc.2.1; have h3 := hc.2.2.1; unfold Lt; omega
      rcases hI with ⟨-, h2⟩ | ⟨-, i, j, k, h2, h3, h4, h5, h6, h7, h8⟩
      · obtain ⟨i, j, k, hc⟩ := hex
        exact absurd hc (h2 i j k (hall i j k hc))
      · exact ⟨i, j, k, h3, h4, h5, h6, h7, fun i' j' k' _ hc => h8 i' j' k' (hall i' j' k' hc) hc⟩
