/-! benches: heights, warmths, sags; what cells seem -/
def isB (id : Nat) : Prop := id = 33 ∨ id = 56 ∨ id = 60 ∨ id = 64 ∨ id = 68 ∨ id = 89 ∨ id = 93 ∨ id = 97
theorem B_O {id : Nat} (h : isB id) : oK id 0 = true := by rcases h with rfl | rfl | rfl | rfl | rfl | rfl | rfl | rfl <;> rfl
theorem B_0 {id : Nat} (h : isB id) : hk_R id 0 = some (id + 1) := by rcases h with rfl | rfl | rfl | rfl | rfl | rfl | rfl | rfl <;> exact (hk_R_at (by decide) (by decide)).trans rfl
theorem B_1 {id : Nat} (h : isB id) : hk_R id 1 = some (id + 2) := by rcases h with rfl | rfl | rfl | rfl | rfl | rfl | rfl | rfl <;> exact (hk_R_at (by decide) (by decide)).trans rfl
theorem B_2 {id : Nat} (h : isB id) : hk_R id 2 = some (id + 3) := by rcases h with rfl | rfl | rfl | rfl | rfl | rfl | rfl | rfl <;> exact (hk_R_at (by decide) (by decide)).trans rfl
theorem B_ks {id : Nat} (h : isB id) : hk_ks[id + 1]? = some (20, 100) ∧ hk_ks[id + 2]? = some (20, 100) ∧ hk_ks[id + 3]? = some (20, 100) := by rcases h with rfl | rfl | rfl | rfl | rfl | rfl | rfl | rfl <;> exact ⟨by decide +kernel, by decide +kernel, by decide +kernel⟩
theorem aI_k {a n : Nat} (h : hk_ks[a]? = some (20, n)) (s : xS) (i : Int32) : aI s a i = if xm_in i n = true then some (s.1 a i.toNatClampNeg) else none := by
  unfold aI
  rw [h]
  simp only [true_and]
theorem wI_k {a n : Nat} (h : hk_ks[a]? = some (20, n)) (s : xS) (i x : Int32) : wI s a i x = if xm_in i n = true then some (xm_up s.1 a i.toNatClampNeg x, s.2) else none := by
  unfold wI
  rw [h]
  simp only [true_and]
/-- the class's bench -/
def CB (s : xS) (id : Nat) (H W S : Nat → Int) : Prop := ∀ k, k < 100 → s.1 (id + 1) k = iz (H k) ∧ s.1 (id + 2) k = iz (W k) ∧ s.1 (id + 3) k = iz (S k)
def Bd (H W S : Nat → Int) : Prop := ∀ k, k < 100 → -1010 ≤ H k ∧ H k ≤ 99 ∧ 0 ≤ W k ∧ W k ≤ 99 ∧ 0 ≤ S k ∧ S k ≤ 72
def sm (H W S : Nat → Int) (p c : Nat) : Int := H (25 * p + c) + W (25 * p + c) - S (25 * p + c)
theorem Bd_sm {H W S : Nat → Int} (h : Bd H W S) {p c : Nat} (hp : p < 4) (hc : c < 25) : -1100 ≤ sm H W S p c ∧ sm H W S p c ≤ 200 := by
  have := h (25 * p + c) (by omega)
  unfold sm
  omega
theorem CB.fr {F : Nat → Nat → Bool} {s s' : xS} {id : Nat} {H W S : Nat → Int} (h : CB s id H W S) (hf : fr F s s') (h1 : ∀ k, F (id + 1) k = false) (h2 : ∀ k, F (id + 2) k = false) (h3 : ∀ k, F (id + 3) k = false) : CB s' id H W S := fun k hk => by rw [hf.i _ k (h1 k), hf.i _ k (h2 k), hf.i _ k (h3 k)]; exact h k hk
theorem cl_seems {s : xS} {id : Nat} (hB : isB id) {H W S : Nat → Int} (h : CB s id H W S) {p c : Nat} (hp : p < 4) (hc : c < 25) : f4 id (iz (25 * p + c)) s = some (s, iz (sm H W S p c)) := by
  obtain ⟨k1, k2, k3⟩ := B_ks hB
  obtain ⟨e1, e2, e3⟩ := h (25 * p + c) (by omega)
  have en : ((25 * (p : Int) + c)).toNat = 25 * p + c := by omega
  unfold f4
  rw [ifg_pos (B_O hB)]
  simp (disch := omega) only [B_0 hB, B_1 hB, B_2 hB, Option.bind_some, aI_k k1, aI_k k2, aI_k k3, iz_in, iz_n, if_true, en, e1, e2, e3, iz_add, iz_sub]
  rfl
/-- copySeems into below or above -/
theorem cl_copy {s : xS} {id : Nat} (hB : isB id) {H W S : Nat → Int} (h : CB s id H W S) {p m a : Nat} (hp : p < 4) (hm : m ≤ 25) (ha : a = 46 ∨ a = 47) : ok (f5 id (iz p) (iz m) a s) (fun r => fr (fun x _ => x == a) s r.1 ∧ ∀ c, c < m → r.1.1 a c = iz (sm H W S p c)) := by
  have ka : hk_ks[a]? = some (20, 25) := by rcases ha with rfl | rfl <;> decide +kernel
  unfold f5
  rw [ifg_pos (B_O hB)]
  simp only [iz0]
  refine forz (fun c w => fr (fun x _ => x == a) s w ∧ ∀ e, e < c → w.1 a e = iz (sm H W S p e)) 0 m (by omega) (by omega) ⟨fr.rf _ _, fun e he => by omega⟩ (fun c w _ hc ⟨h1, h2⟩ => ?_) (fun w ⟨h1, h2⟩ => ?_)
  · have hw : CB w id H W S := h.fr h1 (fun k => by rcases hB with rfl | rfl | rfl | rfl | rfl | rfl | rfl | rfl <;> rcases ha with rfl | rfl <;> rfl) (fun k => by rcases hB with rfl | rfl | rfl | rfl | rfl | rfl | rfl | rfl <;> rcases ha with rfl | rfl <;> rfl) (fun k => by rcases hB with rfl | rfl | rfl | rfl | rfl | rfl | rfl | rfl <;> rcases ha with rfl | rfl <;> rfl)
    have e := cl_seems hB hw hp (show c < 25 by omega)
    unfold f5_3
    rw [iz25, iz_mul, iz_add, Int.mul_comm (p : Int) 25]
    simp (disch := omega) only [it_le_f, e, Option.bind_some, wI_k ka, iz_in, iz_n, if_true, nat_toNat, iz1, iz_add, ok_some, ok_map, lp_l, lp_r, lpA_l, lpA_r, true_and]
    refine ⟨h1.ui (by simp), fun k hk => ?_⟩
    by_cases q : k = c
    · rw [q, up_eq]
    · rw [up_ix _ _ q]; exact h2 k (by omega)
  · unfold f5_3
    simp (disch := omega) only [it_le_t, ok_some, ok_map, lp_l, lp_r, lpA_l, lpA_r, true_and]
    exact ⟨h1, h2⟩
theorem sq_nn (x : Int) : 0 ≤ x * x := by
  rcases Int.le_total 0 x with h | h
  · exact Int.mul_nonneg h h
  · have e : x * x = (-x) * (-x) := by grind
    rw [e]
    exact Int.mul_nonneg (by omega) (by omega)
/-- squares of ways -/
def sqw (n c f : Nat) : Int := (mx n c - mx n f) * (mx n c - mx n f) + (my n c - my n f) * (my n c - my n f)
theorem sqw_bd {n c f : Nat} (n3 : 3 ≤ n) (n5 : n ≤ 5) (hc : c < n * n) (hf : f < n * n) : 0 ≤ sqw n c f ∧ sqw n c f ≤ 32 := by
  have a1 := mx_bd (c := c) n3 n5
  have a2 := mx_bd (c := f) n3 n5
  have a3 := my_bd n3 n5 hc
  have a4 := my_bd n3 n5 hf
  have b1 := mb4 (x := mx n c - mx n f) (y := mx n c - mx n f) (by omega) (by omega) (by omega) (by omega)
  have b2 := mb4 (x := my n c - my n f) (y := my n c - my n f) (by omega) (by omega) (by omega) (by omega)
  have c1 : 0 ≤ (mx n c - mx n f) * (mx n c - mx n f) := sq_nn _
  have c2 : 0 ≤ (my n c - my n f) * (my n c - my n f) := sq_nn _
  unfold sqw
  omega
theorem sqw_sw (n c f : Nat) : sqw n c f = sqw n f c := by unfold sqw; grind
def near (n a b c e : Nat) : Int := min (min (sqw n e a) (sqw n e b)) (sqw n e c)
def sagv (n a b c : Nat) (so : Int) (e : Nat) : Int := (so * near n a b c e).tdiv 4
theorem near_bd {n a b c e : Nat} (n3 : 3 ≤ n) (n5 : n ≤ 5) (ha : a < n * n) (hb : b < n * n) (hc : c < n * n) (he : e < n * n) : 0 ≤ near n a b c e ∧ near n a b c e ≤ 32 := by
  have h1 := sqw_bd n3 n5 he ha
  have h2 := sqw_bd n3 n5 he hb
  have h3 := sqw_bd n3 n5 he hc
  unfold near
  omega
theorem sagv_bd {n a b c e : Nat} {so : Int} (n3 : 3 ≤ n) (n5 : n ≤ 5) (ha : a < n * n) (hb : b < n * n) (hc : c < n * n) (he : e < n * n) (s0 : 0 ≤ so) (s9 : so ≤ 9) : 0 ≤ sagv n a b c so e ∧ sagv n a b c so e ≤ 72 := by
  obtain ⟨h1, h2⟩ := near_bd n3 n5 ha hb hc he
  have h3 := mbd (B := 9) (C := 32) (x := so) (y := near n a b c e) (by omega) s9 (by omega) h2
  have h4 : 0 ≤ so * near n a b c e := Int.mul_nonneg s0 h1
  unfold sagv
  rw [Int.tdiv_eq_ediv_of_nonneg h4]
  omega
/-- feet and sags at the model, for four plates and the unknown one -/
def MF (s : xS) (n : Nat) (S : Nat → Int) : Prop := ∀ p, p < 4 → (s.1 117 p = 0 ∧ ∀ e, e < n * n → S (25 * p + e) = 0) ∨ (s.1 117 p = 1 ∧ ∃ (a b c : Nat) (so : Int), s.1 115 (3 * p) = iz a ∧ s.1 115 (3 * p + 1) = iz b ∧ s.1 115 (3 * p + 2) = iz c ∧ s.1 116 p = iz so ∧ a < n * n ∧ b < n * n ∧ c < n * n ∧ 0 ≤ so ∧ so ≤ 9 ∧ ∀ e, e < n * n → S (25 * p + e) = sagv n a b c so e)
/-- the model's heights, warmths, sags -/
def Us (n pl k : Nat) : Prop := k < 100 ∧ k / 25 < pl ∧ k % 25 < n * n
theorem us_of {n pl p c : Nat} (hp : p < pl) (hpl : pl ≤ 4) (hc : c < n * n) (sq : n * n ≤ 25) : Us n pl (25 * p + c) := ⟨by omega, by omega, by rw [show (25 * p + c) % 25 = c by omega]; exact hc⟩
def MB (s : xS) (n pl : Nat) (H W S : Nat → Int) : Prop := (∀ k, k < 100 → (Us n pl k → s.1 113 k = iz (H k)) ∧ s.1 114 k = iz (W k)) ∧ MF s n S
theorem MB.fr {F : Nat → Nat → Bool} {s s' : xS} {n pl : Nat} {H W S : Nat → Int} (h : MB s n pl H W S) (hf : fr F s s') (h1 : ∀ k, F 113 k = false) (h2 : ∀ k, F 114 k = false) (h3 : ∀ k, F 115 k = false) (h4 : ∀ k, F 116 k = false) (h5 : ∀ k, F 117 k = false) : MB s' n pl H W S := by
  refine ⟨fun k hk => ⟨fun u => by rw [hf.i _ k (h1 k)]; exact (h.1 k hk).1 u, by rw [hf.i _ k (h2 k)]; exact (h.1 k hk).2⟩, ?_⟩
  have e3 : s'.1 115 = s.1 115 := hf.ci 115 h3
  have e4 : s'.1 116 = s.1 116 := hf.ci 116 h4
  have e5 : s'.1 117 = s.1 117 := hf.ci 117 h5
  unfold MF
  rw [e3, e4, e5]
  exact h.2
theorem mo_near {s : xS} {b : Nat} {N : Int32} {n : Nat} (hn : Mn s b N n) {p a b' c e : Nat} (hp : p < 4) (e1 : s.1 115 (3 * p) = iz a) (e2 : s.1 115 (3 * p + 1) = iz b') (e3 : s.1 115 (3 * p + 2) = iz c) (ha : a < n * n) (hb : b' < n * n) (hc : c < n * n) (he : e < n * n) : f203 101 (iz p) (iz e) s = some (s, iz (near n a b' c e)) := by
  have n3 := hn.2.2.2.2.1
  have n5 := hn.2.2.2.2.2
  have sq := hn.sq25
  have key : ok (f203 101 (iz p) (iz e) s) (fun r => r = (s, iz (near n a b' c e))) := by
    unfold f203
    rw [ifg_pos O_101]
    simp only [iz0, iz1000]
    have body : ∀ (k : Nat) (f : Nat) (L : Int), k < 3 → s.1 115 (3 * p + k) = iz f → f < n * n → 0 ≤ L → L ≤ 1000 → f203_7 101 (iz p) (iz e) (iz L) (iz k) s = some (.inl (iz (min L (sqw n e f)), iz ((k : Int) + 1), s)) := by
      intro k f L hk hf hfn L0 L1
      have w := sqw_bd n3 n5 he hfn
      have en : (3 * (p : Int) + k).toNat = 3 * p + k := by omega
      have hq : sqw n e f = (mx n f - mx n e) * (mx n f - mx n e) + (my n f - my n e) * (my n f - my n e) := sqw_sw n e f
      unfold f203_7 f203_88
      simp (disch := omega) only [iz3, iz1, it_le_f, R_101_22, Option.bind_some, iz_mul, iz_add, A_115, iz_in, iz_n, if_true, en, hf, hn.zn, nz, iz_remN, iz_divN, iz_sub]
      have r1 : (((f % n : Nat) : Int) - ((e % n : Nat) : Int)) * (((f % n : Nat) : Int) - ((e % n : Nat) : Int)) + (((f / n : Nat) : Int) - ((e / n : Nat) : Int)) * (((f / n : Nat) : Int) - ((e / n : Nat) : Int)) = sqw n e f := hq.symm
      rw [r1]
      by_cases hL : L ≤ sqw n e f
      · rw [it_le_t hL (by omega) (by omega), Int.min_eq_left hL]
      · rw [it_le_f (by omega) (by omega) (by omega), Int.min_eq_right (by omega)]
    refine forzA (A := Int32) (fun k L w => w = s ∧ L = iz (if k = 0 then 1000 else if k = 1 then min 1000 (sqw n e a) else if k = 2 then min (min 1000 (sqw n e a)) (sqw n e b') else min (min (min 1000 (sqw n e a)) (sqw n e b')) (sqw n e c))) 0 3 (by omega) (by omega) ⟨rfl, rfl⟩ (fun k L w _ hk ⟨h1, h2⟩ => ?_) (fun L w ⟨h1, h2⟩ => ?_)
    · subst h1
      subst h2
      have w1 := sqw_bd n3 n5 he ha
      have w2 := sqw_bd n3 n5 he hb
      rcases (show k = 0 ∨ k = 1 ∨ k = 2 by omega) with rfl | rfl | rfl
      · exact ok.eq (body 0 a 1000 (by omega) e1 ha (by omega) (by omega)) ⟨rfl, rfl, rfl⟩
      · exact ok.eq (body 1 b' (min 1000 (sqw n e a)) (by omega) e2 hb (by omega) (by omega)) ⟨rfl, rfl, rfl⟩
      · exact ok.eq (body 2 c (min (min 1000 (sqw n e a)) (sqw n e b')) (by omega) e3 hc (by omega) (by omega)) ⟨rfl, rfl, rfl⟩
    · subst h1
      subst h2
      have w1 := sqw_bd n3 n5 he ha
      unfold f203_7
      simp (disch := omega) only [iz3, it_le_t, ok_some, ok_map, lp_l, lp_r, lpA_l, lpA_r, true_and]
      show (w, iz (min (min (min 1000 (sqw n e a)) (sqw n e b')) (sqw n e c))) = (w, iz (near n a b' c e))
      unfold near
      rw [Int.min_eq_right (show sqw n e a ≤ 1000 by omega)]
  obtain ⟨r, h1, h2⟩ := key
  rw [h1, h2]
theorem mo_seem {s : xS} {b : Nat} {N : Int32} {n pl : Nat} (hn : Mn s b N n) {H W S : Nat → Int} (h : MB s n pl H W S) {p c : Nat} (hpp : p < pl) (hpl : pl ≤ 4) (hc : c < n * n) : f202 101 (iz p) (iz c) s = some (s, iz (sm H W S p c)) := by
  have n3 := hn.2.2.2.2.1
  have n5 := hn.2.2.2.2.2
  have sq := hn.sq25
  have hp : p < 4 := by omega
  have e1 := (h.1 (25 * p + c) (by omega)).1 (us_of hpp hpl hc sq)
  have e2 := (h.1 (25 * p + c) (by omega)).2
  have en : ((25 * (p : Int) + c)).toNat = 25 * p + c := by omega
  unfold f202 f202_48
  rw [ifg_pos O_101]
  simp (disch := omega) only [R_101_20, R_101_21, R_101_24, R_101_23, Option.bind_some, iz25, iz_mul, iz_add, A_113, A_114, A_117, A_116, iz_in, iz_n, if_true, en, e1, e2, nat_toNat]
  rcases h.2 p hp with ⟨h1, h2⟩ | ⟨h1, fa, fb, fc, so, g1, g2, g3, g4, l1, l2, l3, s0, s9, h2⟩
  · rw [h1, if_pos rfl, iz0, iz_sub]
    unfold sm
    rw [h2 c hc]
  · rw [h1, if_neg one_ne, mo_near hn hp g1 g2 g3 l1 l2 l3 hc, g4]
    obtain ⟨w1, w2⟩ := near_bd n3 n5 l1 l2 l3 hc
    have w3 := mbd (B := 9) (C := 32) (x := so) (y := near n fa fb fc c) (by omega) s9 (by omega) w2
    simp (disch := omega) only [Option.bind_some, iz4, iz_mul, iz_div, iz_sub]
    unfold sm
    rw [h2 c hc]
    rfl
