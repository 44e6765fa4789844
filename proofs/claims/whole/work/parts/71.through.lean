/-! the model's plane through three cells -/
def mx (n c : Nat) : Int := ((c % n : Nat) : Int)
def my (n c : Nat) : Int := ((c / n : Nat) : Int)
theorem mx_bd {n c : Nat} (h1 : 3 ≤ n) (h2 : n ≤ 5) : 0 ≤ mx n c ∧ mx n c ≤ 4 := by
  have := Nat.mod_lt c (show 0 < n by omega)
  unfold mx
  omega
theorem my_bd {n c : Nat} (h1 : 3 ≤ n) (h2 : n ≤ 5) (hc : c < n * n) : 0 ≤ my n c ∧ my n c ≤ 4 := by
  have : c / n < n := Nat.div_lt_of_lt_mul hc
  unfold my
  generalize c / n = q at *
  omega
/-- what lies on what, and the sums of both, at the model -/
def Ms (s : xS) (n : Nat) (d : Nat → Bool) (Z : Nat → Int) : Prop := (∀ c, c < n * n → (d c = true ↔ 0 ≤ (s.1 125 c).toInt)) ∧ ∀ c, c < n * n → d c = true → (s.1 126 c).toInt = Z c ∧ -5000 ≤ Z c ∧ Z c ≤ 5000
theorem Ms.fr {F : Nat → Nat → Bool} {s s' : xS} {n : Nat} {d : Nat → Bool} {Z : Nat → Int} (h : Ms s n d Z) (hf : fr F s s') (h1 : ∀ k, F 125 k = false) (h2 : ∀ k, F 126 k = false) : Ms s' n d Z := by
  refine ⟨fun c hc => ?_, fun c hc => ?_⟩
  · rw [hf.i 125 c (h1 c)]; exact h.1 c hc
  · rw [hf.i 126 c (h2 c)]; exact h.2 c hc
set_option maxHeartbeats 1000000 in
theorem mo_through {s : xS} {b : Nat} {N : Int32} {n : Nat} (hn : Mn s b N n) {d : Nat → Bool} {Z : Nat → Int} (hs : Ms s n d Z) {x1 x2 x3 : Int32} {i j k : Nat} (h1 : x1.toInt = i) (h2 : x2.toInt = j) (h3 : x3.toInt = k) (hi : i < n * n) (hj : j < n * n) (hk : k < n * n) (di : d i = true) (dj : d j = true) (dk : d k = true) :
    (ge_d (mx n) (my n) i j k = 0 → f208 101 x1 x2 x3 s = some (s, 0)) ∧ (ge_d (mx n) (my n) i j k ≠ 0 → ∃ vx vy vb : Int64, f208 101 x1 x2 x3 s = some ((s.1, xm_up (xm_up (xm_up s.2 101 46 vx) 101 47 vy) 101 48 vb), 1) ∧ vx.toInt = fi_s (mx n) (my n) i j k * ge_q (my n) Z i j k ∧ vy.toInt = fi_s (mx n) (my n) i j k * ge_r (mx n) Z i j k ∧ vb.toInt = fi_D (mx n) (my n) i j k) := by
  have n3 := hn.2.2.2.2.1
  have n5 := hn.2.2.2.2.2
  have sq25 := hn.sq25
  have hN := hn.2.2.2.1
  obtain ⟨zi, zi0, zi1⟩ := hs.2 i hi di
  obtain ⟨zj, zj0, zj1⟩ := hs.2 j hj dj
  obtain ⟨zk, zk0, zk1⟩ := hs.2 k hk dk
  have bi := mx_bd (c := i) n3 n5
  have bj := mx_bd (c := j) n3 n5
  have bk := mx_bd (c := k) n3 n5
  have ci := my_bd n3 n5 hi
  have cj := my_bd n3 n5 hj
  have ck := my_bd n3 n5 hk
  have xi : (irm x1 N).toInt = mx n i := i_remN h1 hN (by omega)
  have xj : (irm x2 N).toInt = mx n j := i_remN h2 hN (by omega)
  have xk : (irm x3 N).toInt = mx n k := i_remN h3 hN (by omega)
  have yi : (x1 / N).toInt = my n i := i_divN h1 hN (by omega)
  have yj : (x2 / N).toInt = my n j := i_divN h2 hN (by omega)
  have yk : (x3 / N).toInt = my n k := i_divN h3 hN (by omega)
  have ii : xm_in x1 25 = true := in_ok h1 (by omega) (by omega)
  have ij : xm_in x2 25 = true := in_ok h2 (by omega) (by omega)
  have ik : xm_in x3 25 = true := in_ok h3 (by omega) (by omega)
  have ni : x1.toNatClampNeg = i := by rw [cl_nat h1]; rfl
  have nj : x2.toNatClampNeg = j := by rw [cl_nat h2]; rfl
  have nk : x3.toNatClampNeg = k := by rw [cl_nat h3]; rfl
  have jx := i2l (i_sub xj xi (by omega) (by omega))
  have jy := i2l (i_sub yj yi (by omega) (by omega))
  have kx := i2l (i_sub xk xi (by omega) (by omega))
  have ky := i2l (i_sub yk yi (by omega) (by omega))
  have wj := i2l (i_sub zj zi (by omega) (by omega))
  have wk := i2l (i_sub zk zi (by omega) (by omega))
  have p1 := mb4 (x := mx n j - mx n i) (y := my n k - my n i) (by omega) (by omega) (by omega) (by omega)
  have p2 := mb4 (x := mx n k - mx n i) (y := my n j - my n i) (by omega) (by omega) (by omega) (by omega)
  have ed := l_sub (l_mul jx ky (by omega) (by omega)) (l_mul kx jy (by omega) (by omega)) (by omega) (by omega)
  have q1 := mbd (B := 10000) (C := 4) (x := Z j - Z i) (y := my n k - my n i) (by omega) (by omega) (by omega) (by omega)
  have q2 := mbd (B := 10000) (C := 4) (x := Z k - Z i) (y := my n j - my n i) (by omega) (by omega) (by omega) (by omega)
  have q3 := mbd (B := 4) (C := 10000) (x := mx n j - mx n i) (y := Z k - Z i) (by omega) (by omega) (by omega) (by omega)
  have q4 := mbd (B := 4) (C := 10000) (x := mx n k - mx n i) (y := Z j - Z i) (by omega) (by omega) (by omega) (by omega)
  have eq := l_sub (l_mul wj ky (by omega) (by omega)) (l_mul wk jy (by omega) (by omega)) (by omega) (by omega)
  have er := l_sub (l_mul jx wk (by omega) (by omega)) (l_mul kx wj (by omega) (by omega)) (by omega) (by omega)
  have hgd : (mx n j - mx n i) * (my n k - my n i) - (mx n k - mx n i) * (my n j - my n i) = ge_d (mx n) (my n) i j k := rfl
  have hgq : (Z j - Z i) * (my n k - my n i) - (Z k - Z i) * (my n j - my n i) = ge_q (my n) Z i j k := rfl
  have hgr : (mx n j - mx n i) * (Z k - Z i) - (mx n k - mx n i) * (Z j - Z i) = ge_r (mx n) Z i j k := rfl
  rw [hgd] at ed
  rw [hgq] at eq
  rw [hgr] at er
  have bd : -32 ≤ ge_d (mx n) (my n) i j k ∧ ge_d (mx n) (my n) i j k ≤ 32 := by unfold ge_d; omega
  have bq : -80000 ≤ ge_q (my n) Z i j k ∧ ge_q (my n) Z i j k ≤ 80000 := by unfold ge_q; omega
  have br : -80000 ≤ ge_r (mx n) Z i j k ∧ ge_r (mx n) Z i j k ≤ 80000 := by unfold ge_r; omega
  unfold f208
  rw [ifg_pos O_101]
  simp only [hn.n, Option.bind_some, ifg_pos hn.ne, R_101_40, A_126, ii, ij, ik, if_true, ni, nj, nk, cmp_eq, cmp_ge, ed, eq, er]
  have z0 : (0 : Int64).toInt = 0 := rfl
  rw [z0]
  constructor
  · intro h0
    rw [if_pos h0]
  · intro h0
    rw [if_neg h0]
    have main : ∀ (y0 : Int64) (σ : Int), y0.toInt = σ → (σ = 1 ∨ σ = -1) → σ = fi_s (mx n) (my n) i j k → ∀ (A B C E F G H : Int64), (F * E - G * B).toInt = ge_q (my n) Z i j k → (A * G - C * F).toInt = ge_r (mx n) Z i j k → H.toInt = ge_d (mx n) (my n) i j k → ∃ vx vy vb : Int64, f208_132 101 A B C E H F G y0 s = some ((s.1, xm_up (xm_up (xm_up s.2 101 46 vx) 101 47 vy) 101 48 vb), 1) ∧ vx.toInt = fi_s (mx n) (my n) i j k * ge_q (my n) Z i j k ∧ vy.toInt = fi_s (mx n) (my n) i j k * ge_r (mx n) Z i j k ∧ vb.toInt = fi_D (mx n) (my n) i j k := by
      intro y0 σ hy hσ hfs A B C E F G H e1 e2 e3
      have m1 := l_mul hy e1 (by rcases hσ with rfl | rfl <;> omega) (by rcases hσ with rfl | rfl <;> omega)
      have m2 := l_mul hy e2 (by rcases hσ with rfl | rfl <;> omega) (by rcases hσ with rfl | rfl <;> omega)
      have m3 := l_mul hy e3 (by rcases hσ with rfl | rfl <;> omega) (by rcases hσ with rfl | rfl <;> omega)
      refine ⟨_, _, _, rfl, by rw [m1, hfs], by rw [m2, hfs], by rw [m3, hfs]; rfl⟩
    by_cases h4 : 0 ≤ ge_d (mx n) (my n) i j k
    · rw [if_pos h4]
      exact main 1 1 rfl (Or.inl rfl) (by unfold fi_s; rw [if_neg (by omega)]) _ _ _ _ _ _ _ eq er ed
    · rw [if_neg h4]
      exact main (-1) (-1) rfl (Or.inr rfl) (by unfold fi_s; rw [if_pos (by omega)]) _ _ _ _ _ _ _ eq er ed
/-- how far a plane through i is above cell c -/
def mo_ab (n : Nat) (Z : Nat → Int) (c i : Nat) (x y w : Int) : Int := w * (Z i - Z c) + x * (mx n c - mx n i) + y * (my n c - my n i)
def plb (x y w : Int) : Prop := -80000 ≤ x ∧ x ≤ 80000 ∧ -80000 ≤ y ∧ y ≤ 80000 ∧ -32 ≤ w ∧ w ≤ 32
theorem mo_above {s : xS} {b : Nat} {N : Int32} {n : Nat} (hn : Mn s b N n) {d : Nat → Bool} {Z : Nat → Int} (hs : Ms s n d Z) {x1 x2 : Int32} {i c : Nat} (h1 : x1.toInt = c) (h2 : x2.toInt = i) (hc : c < n * n) (hi : i < n * n) (dc : d c = true) (di : d i = true) {vx vy vw : Int64} {x y w : Int} (ex : vx.toInt = x) (ey : vy.toInt = y) (ew : vw.toInt = w) (hb : plb x y w) :
    ∃ v, f209 101 x1 x2 vx vy vw s = some (s, v) ∧ v.toInt = mo_ab n Z c i x y w ∧ -1000000 ≤ mo_ab n Z c i x y w ∧ mo_ab n Z c i x y w ≤ 1000000 := by
  have n3 := hn.2.2.2.2.1
  have n5 := hn.2.2.2.2.2
  have sq25 := hn.sq25
  have hN := hn.2.2.2.1
  obtain ⟨zi, zi0, zi1⟩ := hs.2 i hi di
  obtain ⟨zc, zc0, zc1⟩ := hs.2 c hc dc
  have bi := mx_bd (c := i) n3 n5
  have bc := mx_bd (c := c) n3 n5
  have ci := my_bd n3 n5 hi
  have cc := my_bd n3 n5 hc
  have xi : (irm x2 N).toInt = mx n i := i_remN h2 hN (by omega)
  have xc : (irm x1 N).toInt = mx n c := i_remN h1 hN (by omega)
  have yi : (x2 / N).toInt = my n i := i_divN h2 hN (by omega)
  have yc : (x1 / N).toInt = my n c := i_divN h1 hN (by omega)
  have ii : xm_in x2 25 = true := in_ok h2 (by omega) (by omega)
  have ic : xm_in x1 25 = true := in_ok h1 (by omega) (by omega)
  have ni : x2.toNatClampNeg = i := by rw [cl_nat h2]; rfl
  have nc : x1.toNatClampNeg = c := by rw [cl_nat h1]; rfl
  obtain ⟨b1, b2, b3, b4, b5, b6⟩ := hb
  have q1 := mbd (B := 32) (C := 10000) (x := w) (y := Z i - Z c) (by omega) (by omega) (by omega) (by omega)
  have q2 := mbd (B := 80000) (C := 4) (x := x) (y := mx n c - mx n i) (by omega) (by omega) (by omega) (by omega)
  have q3 := mbd (B := 80000) (C := 4) (x := y) (y := my n c - my n i) (by omega) (by omega) (by omega) (by omega)
  have e := l_add (l_add (l_mul ew (i2l (i_sub zi zc (by omega) (by omega))) (by omega) (by omega)) (l_mul ex (i2l (i_sub xc xi (by omega) (by omega))) (by omega) (by omega)) (by omega) (by omega)) (l_mul ey (i2l (i_sub yc yi (by omega) (by omega))) (by omega) (by omega)) (by omega) (by omega)
  refine ⟨_, ?_, e, by unfold mo_ab; omega, by unfold mo_ab; omega⟩
  unfold f209
  rw [ifg_pos O_101]
  simp only [hn.n, Option.bind_some, ifg_pos hn.ne, R_101_40, A_126, ii, ic, if_true, ni, nc]
/-- isOverAll -/
theorem mo_over {s : xS} {b : Nat} {N : Int32} {n : Nat} (hn : Mn s b N n) {d : Nat → Bool} {Z : Nat → Int} (hs : Ms s n d Z) {x1 : Int32} {i : Nat} (h1 : x1.toInt = i) (hi : i < n * n) (di : d i = true) {x y w : Int} (ex : (s.2 101 46).toInt = x) (ey : (s.2 101 47).toInt = y) (ew : (s.2 101 48).toInt = w) (hb : plb x y w) :
    ∃ v, f210 101 x1 s = some (s, v) ∧ ((v = 1 ∧ ∀ c, c < n * n → d c = true → 0 ≤ mo_ab n Z c i x y w) ∨ (v = 0 ∧ ∃ c, c < n * n ∧ d c = true ∧ mo_ab n Z c i x y w < 0)) := by
  have sq25 := hn.sq25
  have hw := for_rule (body := fun q : Int32 × xS => f210_2 101 x1 q.1 q.2) (fun m u => u = s ∧ ∀ c, c < m → d c = true → 0 ≤ mo_ab n Z c i x y w) 0 (n * n)
    (fun r : xS × Int32 => r.1 = s ∧ ((r.2 = 1 ∧ ∀ c, c < n * n → d c = true → 0 ≤ mo_ab n Z c i x y w) ∨ (r.2 = 0 ∧ ∃ c, c < n * n ∧ d c = true ∧ mo_ab n Z c i x y w < 0))) (Nat.zero_le _) (by omega) ?_ ?_ (i0 := 0) (s0 := s) rfl ⟨rfl, fun c h => by omega⟩
  · obtain ⟨⟨u, v⟩, e1, e2, e3⟩ := hw
    dsimp only at e2 e3
    subst e2
    refine ⟨v, ?_, e3⟩
    unfold f210
    rw [ifg_pos O_101]
    exact e1
  · intro m z u m0 m1 m2 m3 ⟨hu, m4⟩
    subst hu
    have hle : ¬ N * N ≤ z := fun q => by have := i_le.mp q; rw [hn.sq, m2] at this; omega
    have ic : xm_in z 25 = true := in_ok m2 (by omega) (by omega)
    have nc : z.toNatClampNeg = m := by rw [cl_nat m2]; rfl
    have hd := hs.1 m m1
    by_cases dm : d m = true
    · have hov : ¬ u.1 125 m < 0 := fun q => by have := i_lt.mp q; have h0 : (0 : Int32).toInt = 0 := rfl; have := hd.mp dm; omega
      obtain ⟨v, e1, e2, -, -⟩ := mo_above hn hs m2 h1 m1 hi dm di ex ey ew hb
      have ev : f210_2 101 x1 z u = if 0 ≤ lg_cmp v 0 then some (.inl (z + 1, u)) else some (.inr (u, 0)) := by
        unfold f210_2
        simp only [hn.cells, Option.bind_some, if_neg hle, R_101_39, A_125, ic, if_true, nc, if_neg hov, e1, f210_44, Option.map_some]
      dsimp only
      rw [ev]
      have hz : (0 : Int64).toInt = 0 := rfl
      by_cases hv : 0 ≤ lg_cmp v 0
      · rw [if_pos hv]
        have h0 := cmp_ge.mp hv
        left
        refine ⟨u, rfl, rfl, fun c hc hdc => ?_⟩
        by_cases q : c = m
        · rw [q]; omega
        · exact m4 c (by omega) hdc
      · rw [if_neg hv]
        right
        refine ⟨_, rfl, rfl, Or.inr ⟨rfl, m, m1, dm, ?_⟩⟩
        have : ¬ (0 : Int64).toInt ≤ v.toInt := fun q => hv (cmp_ge.mpr q)
        omega
    · have hov : u.1 125 m < 0 := i_lt.mpr (by have h0 : (0 : Int32).toInt = 0 := rfl; have : ¬ 0 ≤ (u.1 125 m).toInt := fun q => dm (hd.mpr q); omega)
      left
      refine ⟨u, ?_, rfl, fun c hc hdc => ?_⟩
      · dsimp only
        unfold f210_2
        simp only [hn.cells, Option.bind_some, if_neg hle, R_101_39, A_125, ic, if_true, nc, if_pos hov, f210_44]
      · by_cases q : c = m
        · rw [q] at hdc; exact absurd hdc dm
        · exact m4 c (by omega) hdc
  · intro z u m2 ⟨hu, m4⟩
    subst hu
    have hle : N * N ≤ z := i_le.mpr (by rw [hn.sq, m2]; omega)
    refine ⟨(u, 1), ?_, rfl, Or.inl ⟨rfl, m4⟩⟩
    dsimp only
    unfold f210_2
    simp only [hn.cells, Option.bind_some, if_pos hle, Option.map_some]
/-- a sum over the cells that d names -/
def smS (d : Nat → Bool) (f : Nat → Int) : Nat → Int
  | 0 => 0
  | n + 1 => smS d f n + (if d n = true then f n else 0)
theorem smS_lin (d : Nat → Bool) (f g : Nat → Int) (a x y : Int) (N : Nat) : smS d (fun c => a + x * f c + y * g c) N = a * smS d (fun _ => 1) N + x * smS d f N + y * smS d g N := by
  induction N with
  | zero => simp [smS]
  | succ N ih =>
    simp only [smS, ih]
    split
    · grind
    · grind
theorem smS_congr {d : Nat → Bool} {f g : Nat → Int} {N : Nat} (h : ∀ c, c < N → d c = true → f c = g c) : smS d f N = smS d g N := by
  induction N with
  | zero => rfl
  | succ N ih =>
    simp only [smS]
    rw [ih (fun c hc => h c (by omega))]
    split
    · rename_i q
      rw [h N (by omega) q]
    · rfl
theorem smS_bd {d : Nat → Bool} {f : Nat → Int} {N : Nat} {B : Int} (hB : 0 ≤ B) (h : ∀ c, c < N → d c = true → -B ≤ f c ∧ f c ≤ B) : -(N * B) ≤ smS d f N ∧ smS d f N ≤ N * B := by
  induction N with
  | zero => simp [smS]
  | succ N ih =>
    have h1 := ih (fun c hc => h c (by omega))
    have e : ((N + 1 : Nat) : Int) * B = N * B + B := by rw [Int.natCast_add]; grind
    simp only [smS]
    rw [e]
    split
    · rename_i q
      have h2 := h N (by omega) q
      omega
    · omega
def mo_mid (n : Nat) (Z : Nat → Int) (d : Nat → Bool) (i : Nat) (x y w : Int) : Int := smS d (fun c => w * Z i + x * (mx n c - mx n i) + y * (my n c - my n i)) (n * n)
theorem mo_mid_eq (n : Nat) (Z : Nat → Int) (d : Nat → Bool) (i : Nat) (x y w : Int) : mo_mid n Z d i x y w = (w * Z i - x * mx n i - y * my n i) * smS d (fun _ => 1) (n * n) + x * smS d (mx n) (n * n) + y * smS d (my n) (n * n) := by
  unfold mo_mid
  rw [← smS_lin]
  refine smS_congr (fun c _ _ => ?_)
  grind
theorem mo_middle {s : xS} {b : Nat} {N : Int32} {n : Nat} (hn : Mn s b N n) {d : Nat → Bool} {Z : Nat → Int} (hs : Ms s n d Z) {x1 : Int32} {i : Nat} (h1 : x1.toInt = i) (hi : i < n * n) (di : d i = true) {vx vy vw : Int64} {x y w : Int} (ex : vx.toInt = x) (ey : vy.toInt = y) (ew : vw.toInt = w) (hb : plb x y w) :
    ∃ v, f211 101 x1 vx vy vw s = some (s, v) ∧ v.toInt = mo_mid n Z d i x y w ∧ -25000000 ≤ mo_mid n Z d i x y w ∧ mo_mid n Z d i x y w ≤ 25000000 := by
  have n3 := hn.2.2.2.2.1
  have n5 := hn.2.2.2.2.2
  have sq25 := hn.sq25
  have hN := hn.2.2.2.1
  obtain ⟨zi, zi0, zi1⟩ := hs.2 i hi di
  have bi := mx_bd (c := i) n3 n5
  have ci := my_bd n3 n5 hi
  have xi : (irm x1 N).toInt = mx n i := i_remN h1 hN (by omega)
  have yi : (x1 / N).toInt = my n i := i_divN h1 hN (by omega)
  have ii : xm_in x1 25 = true := in_ok h1 (by omega) (by omega)
  have ni : x1.toNatClampNeg = i := by rw [cl_nat h1]; rfl
  obtain ⟨b1, b2, b3, b4, b5, b6⟩ := hb
  have tb : ∀ c, c < n * n → -1000000 ≤ w * Z i + x * (mx n c - mx n i) + y * (my n c - my n i) ∧ w * Z i + x * (mx n c - mx n i) + y * (my n c - my n i) ≤ 1000000 := by
    intro c hc
    have bc := mx_bd (c := c) n3 n5
    have cc := my_bd n3 n5 hc
    have q1 := mbd (B := 32) (C := 5000) (x := w) (y := Z i) (by omega) (by omega) (by omega) (by omega)
    have q2 := mbd (B := 80000) (C := 4) (x := x) (y := mx n c - mx n i) (by omega) (by omega) (by omega) (by omega)
    have q3 := mbd (B := 80000) (C := 4) (x := y) (y := my n c - my n i) (by omega) (by omega) (by omega) (by omega)
    omega
  have sb : ∀ m, m ≤ n * n → -25000000 ≤ smS d (fun c => w * Z i + x * (mx n c - mx n i) + y * (my n c - my n i)) m ∧ smS d (fun c => w * Z i + x * (mx n c - mx n i) + y * (my n c - my n i)) m ≤ 25000000 := by
    intro m hm
    have := smS_bd (d := d) (N := m) (f := fun c => w * Z i + x * (mx n c - mx n i) + y * (my n c - my n i)) (B := 1000000) (by omega) (fun c hc _ => tb c (by omega))
    omega
  have hw := for_ruleA (body := fun q : Int64 × Int32 × xS => f211_6 101 x1 vx vy vw q.1 q.2.1 q.2.2) (fun m a u => u = s ∧ a.toInt = smS d (fun c => w * Z i + x * (mx n c - mx n i) + y * (my n c - my n i)) m) 0 (n * n)
    (fun r : xS × Int64 => r.1 = s ∧ r.2.toInt = mo_mid n Z d i x y w) (Nat.zero_le _) (by omega) ?_ ?_ (c0 := 0) (i0 := 0) (s0 := s) rfl ⟨rfl, rfl⟩
  · obtain ⟨⟨u, v⟩, e1, e2, e3⟩ := hw
    dsimp only at e2 e3
    subst e2
    refine ⟨v, ?_, e3, (sb _ (Nat.le_refl _)).1, (sb _ (Nat.le_refl _)).2⟩
    unfold f211
    rw [ifg_pos O_101]
    exact e1
  · intro m a z u m0 m1 m2 m3 ⟨hu, m4⟩
    subst hu
    have hle : ¬ N * N ≤ z := fun q => by have := i_le.mp q; rw [hn.sq, m2] at this; omega
    have ic : xm_in z 25 = true := in_ok m2 (by omega) (by omega)
    have nc : z.toNatClampNeg = m := by rw [cl_nat m2]; rfl
    have hd := hs.1 m m1
    have s0 := sb m (by omega)
    have s1 := sb (m + 1) (by omega)
    left
    by_cases dm : d m = true
    · have hov : ¬ u.1 125 m < 0 := fun q => by have := i_lt.mp q; have h0 : (0 : Int32).toInt = 0 := rfl; have := hd.mp dm; omega
      have bc := mx_bd (c := m) n3 n5
      have cc := my_bd n3 n5 m1
      have xc : (irm z N).toInt = mx n m := i_remN m2 hN (by omega)
      have yc : (z / N).toInt = my n m := i_divN m2 hN (by omega)
      have q1 := mbd (B := 32) (C := 5000) (x := w) (y := Z i) (by omega) (by omega) (by omega) (by omega)
      have q2 := mbd (B := 80000) (C := 4) (x := x) (y := mx n m - mx n i) (by omega) (by omega) (by omega) (by omega)
      have q3 := mbd (B := 80000) (C := 4) (x := y) (y := my n m - my n i) (by omega) (by omega) (by omega) (by omega)
      have e := l_add m4 (l_add (l_add (l_mul ew (i2l zi) (by omega) (by omega)) (l_mul ex (i2l (i_sub xc xi (by omega) (by omega))) (by omega) (by omega)) (by omega) (by omega)) (l_mul ey (i2l (i_sub yc yi (by omega) (by omega))) (by omega) (by omega)) (by omega) (by omega)) (by omega) (by omega)
      have hs1 : smS d (fun c => w * Z i + x * (mx n c - mx n i) + y * (my n c - my n i)) (m + 1) = smS d (fun c => w * Z i + x * (mx n c - mx n i) + y * (my n c - my n i)) m + (w * Z i + x * (mx n m - mx n i) + y * (my n m - my n i)) := by rw [smS, if_pos dm]
      refine ⟨_, u, ?_, rfl, e.trans hs1.symm⟩
      · dsimp only
        unfold f211_6
        simp only [hn.cells, Option.bind_some, if_neg hle, R_101_39, A_125, ic, if_true, nc, if_neg hov, R_101_40, A_126, ii, ni, hn.n, ifg_pos hn.ne, f211_77]
    · have hov : u.1 125 m < 0 := i_lt.mpr (by have h0 : (0 : Int32).toInt = 0 := rfl; have : ¬ 0 ≤ (u.1 125 m).toInt := fun q => dm (hd.mpr q); omega)
      refine ⟨a, u, ?_, rfl, ?_⟩
      · dsimp only
        unfold f211_6
        simp only [hn.cells, Option.bind_some, if_neg hle, R_101_39, A_125, ic, if_true, nc, if_pos hov, f211_77]
      · rw [smS, if_neg dm, Int.add_zero]
        exact m4
  · intro a z u m2 ⟨hu, m4⟩
    subst hu
    have hle : N * N ≤ z := i_le.mpr (by rw [hn.sq, m2]; omega)
    refine ⟨(u, a), ?_, rfl, m4⟩
    dsimp only
    unfold f211_6
    simp only [hn.cells, Option.bind_some, if_pos hle, Option.map_some]
