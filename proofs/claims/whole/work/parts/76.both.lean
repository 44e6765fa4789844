/-! both sides find one plane -/
def dR (n : Nat) (u v : Int) (c : Nat) : Bool := decide (0 ≤ mx n c - u) && decide (mx n c - u < n) && decide (0 ≤ my n c - v) && decide (my n c - v < n)
/-- what must hold of the cells that lie on one another -/
def RCb (n : Nat) (d : Nat → Bool) : Bool := decide (3 ≤ n) && decide (n ≤ 5) && decide (4 ≤ cnt d (n * n)) && (decide (cnt d (n * n) ≤ 24) || (decide (cnt d (n * n) = 25) && decide (ge_d (aX n d) (aY n d) 0 1 2 = 0))) && decide (0 < ge_d (aX n d) (aY n d) 0 1 (cnt d (n * n) - 1))
  && decide (0 ≤ ge_o (aX n d) (aY n d) 1 (cnt d (n * n) - 1) (smS d (mx n) (n * n)) (smS d (my n) (n * n)) (cnt d (n * n))) && decide (0 ≤ ge_o (aX n d) (aY n d) (cnt d (n * n) - 1) 0 (smS d (mx n) (n * n)) (smS d (my n) (n * n)) (cnt d (n * n))) && decide (0 ≤ ge_o (aX n d) (aY n d) 0 1 (smS d (mx n) (n * n)) (smS d (my n) (n * n)) (cnt d (n * n)))
  && decide (0 ≤ smS d (mx n) (n * n)) && decide (smS d (mx n) (n * n) ≤ 100) && decide (0 ≤ smS d (my n) (n * n)) && decide (smS d (my n) (n * n) ≤ 100)
set_option maxRecDepth 100000 in
theorem RC_all : ∀ n, n < 6 → 3 ≤ n → ∀ u, u < 3 → ∀ v, v < 3 → RCb n (dR n ((u : Nat) - 1 : Int) ((v : Nat) - 1 : Int)) = true := by decide +kernel
theorem RC_at {n : Nat} {u v : Int} (n3 : 3 ≤ n) (n5 : n ≤ 5) (u0 : -1 ≤ u) (u1 : u ≤ 1) (v0 : -1 ≤ v) (v1 : v ≤ 1) : RCb n (dR n u v) = true := by
  have h := RC_all n (by omega) n3 (u + 1).toNat (by omega) (v + 1).toNat (by omega)
  rw [show (((u + 1).toNat : Nat) : Int) - 1 = u by omega, show (((v + 1).toNat : Nat) : Int) - 1 = v by omega] at h
  exact h
section BO
variable {n : Nat} {Z : Nat → Int} {d : Nat → Bool}
theorem a_inj (n0 : 0 < n) : ∀ i j, i < cnt d (n * n) → j < cnt d (n * n) → aX n d i = aX n d j → aY n d i = aY n d j → i = j := by
  intro i j hi hj h1 h2
  refine en_inj hi hj ?_
  unfold aX mx at h1
  unfold aY my at h2
  have e1 := Nat.div_add_mod (en d (n * n) i) n
  have e2 := Nat.div_add_mod (en d (n * n) j) n
  have h3 : en d (n * n) i % n = en d (n * n) j % n := by omega
  have h4 : en d (n * n) i / n = en d (n * n) j / n := by omega
  rw [h3, h4] at e1
  omega
def Zb (n : Nat) (d : Nat → Bool) (Z : Nat → Int) : Prop := ∀ c, c < n * n → d c = true → -5000 ≤ Z c ∧ Z c ≤ 5000
/-- the class's points -/
def CP (s : xS) (n : Nat) (d : Nat → Bool) (Z : Nat → Int) : Prop := s.1 40 5 = iz (cnt d (n * n)) ∧ s.1 40 6 = iz (smS d (mx n) (n * n)) ∧ s.1 40 7 = iz (smS d (my n) (n * n)) ∧ ∀ k, k < cnt d (n * n) → s.1 41 k = iz (mx n (en d (n * n) k)) ∧ s.1 42 k = iz (my n (en d (n * n) k)) ∧ s.1 43 k = iz (Z (en d (n * n) k))
/-- the class's gaps -/
def CG (s : xS) (n : Nat) (d : Nat → Bool) (Z : Nat → Int) (D : Int) (G : Nat → Int) : Prop := 0 < D ∧ D ≤ 32 ∧ s.1 40 11 = iz D ∧ s.1 40 5 = iz (cnt d (n * n)) ∧ ∀ k, k < cnt d (n * n) → s.1 45 k = iz (G k) ∧ 0 ≤ G k ∧ G k ≤ 2000000 ∧ G k * GD n Z d = GP n Z d (en d (n * n) k) * D
theorem cl_settle0 {s : xS} (hRC : RCb n d = true) (hZ : Zb n d Z) (hp : CP s n d Z) : ∃ s' i j k, f49 40 s = some (s', ()) ∧ RRes (aX n d) (aY n d) (aZ n Z d) (cnt d (n * n)) (smS d (mx n) (n * n)) (smS d (my n) (n * n)) s s' ∧ mo_1 n Z d i j k := by
  unfold RCb at hRC
  simp only [Bool.and_eq_true, Bool.or_eq_true, decide_eq_true_eq] at hRC
  obtain ⟨⟨⟨⟨⟨⟨⟨⟨⟨⟨⟨n3, n5⟩, c4⟩, hm⟩, hd⟩, w0⟩, w1⟩, w2⟩, x0⟩, x9⟩, y0⟩, y9⟩ := hRC
  have sq : n * n ≤ 25 := mul_le_nat n5 n5
  have hc := cnt_le d (n * n)
  obtain ⟨h5, h6, h7, hp⟩ := hp
  have hRS : RS s (cnt d (n * n)) (aX n d) (aY n d) (aZ n Z d) := by
    refine ⟨by rw [h5, iz_t (by omega) (by omega)], c4, by omega, fun k hk => ?_⟩
    obtain ⟨o1, o2, o3⟩ := en_ok hk
    obtain ⟨p1, p2, p3⟩ := hp k hk
    have b1 := mx_bd (c := en d (n * n) k) n3 n5
    have b2 := my_bd n3 n5 o1
    have b3 := hZ _ o1 o2
    exact ⟨by rw [p1]; exact iz_t (by omega) (by omega), by rw [p2]; exact iz_t (by omega) (by omega), by rw [p3]; exact iz_t (by omega) (by omega), b1.1, b1.2, b2.1, b2.2, b3.1, b3.2⟩
  obtain ⟨r, e1, e2⟩ := rs_settle hRS (a_inj (by omega)) hm (by rw [h6]; exact iz_t (by omega) (by omega)) (by rw [h7]; exact iz_t (by omega) (by omega)) x0 x9 y0 y9 hd w0 w1 w2
  obtain ⟨-, P, Q, R, D, -, -, -, i, j, k, hf, -⟩ := id e2
  exact ⟨r, _, _, _, e1, e2, mo_of_fi rfl rfl hf⟩
theorem mo_1_ex (hRC : RCb n d = true) (hZ : Zb n d Z) : ∃ i j k, mo_1 n Z d i j k := by
  obtain ⟨s', i, j, k, -, -, h⟩ := cl_settle0 (s := (fun id k => if id = 40 then (if k = 5 then iz (cnt d (n * n)) else if k = 6 then iz (smS d (mx n) (n * n)) else iz (smS d (my n) (n * n))) else if id = 41 then iz (mx n (en d (n * n) k)) else if id = 42 then iz (my n (en d (n * n) k)) else iz (Z (en d (n * n) k)), fun _ _ => 0)) hRC hZ ⟨rfl, rfl, rfl, fun k hk => ⟨rfl, rfl, rfl⟩⟩
  exact ⟨i, j, k, h⟩
theorem cl_settle {s : xS} (hRC : RCb n d = true) (hZ : Zb n d Z) (hp : CP s n d Z) : ∃ s' D G, f49 40 s = some (s', ()) ∧ Rz s s' ∧ CG s' n d Z D G := by
  obtain ⟨s', i, j, k, e1, e2, h1⟩ := cl_settle0 hRC hZ hp
  obtain ⟨hz, P, Q, R, D, hRP, hov, hg, i2, j2, k2, hf, t1, t2, t3⟩ := e2
  have h2 := mo_of_fi rfl rfl hf
  have hd := hf.1.1.2.2.2.1
  have b5 : 3 ≤ n ∧ n ≤ 5 := by
    unfold RCb at hRC
    simp only [Bool.and_eq_true, Bool.or_eq_true, decide_eq_true_eq] at hRC
    exact ⟨hRC.1.1.1.1.1.1.1.1.1.1.1, hRC.1.1.1.1.1.1.1.1.1.1.2⟩
  refine ⟨s', D, fun k => P + Q * aX n d k + R * aY n d k - D * aZ n Z d k, e1, hz, hRP.2.2.2.2.2.2.2.2.2.2.1, hRP.2.2.2.2.2.2.2.2.2.2.2, iz_of hRP.2.2.2.1, by rw [hz.2.2 5 (by omega)]; exact hp.1, fun m hm => ?_⟩
  obtain ⟨o1, o2, o3⟩ := en_ok hm
  have b1 := mx_bd (c := en d (n * n) m) b5.1 b5.2
  have b2 := my_bd b5.1 b5.2 o1
  have b3 := hZ _ o1 o2
  have hge := hov m hm
  obtain ⟨r1, r2, r3, r4, r5, r6, r7, r8, r9, r10, r11, r12⟩ := hRP
  have q1 := mbd (B := 100000) (C := 4) r7 r8 (show -4 ≤ aX n d m by unfold aX; omega) (by unfold aX; omega)
  have q2 := mbd (B := 100000) (C := 4) r9 r10 (show -4 ≤ aY n d m by unfold aY; omega) (by unfold aY; omega)
  have q3 := mbd (B := 32) (C := 5000) (show -32 ≤ D by omega) r12 (show -5000 ≤ aZ n Z d m by unfold aZ; omega) (by unfold aZ; omega)
  dsimp only
  refine ⟨iz_of (hg m hm), by omega, by omega, ?_⟩
  rw [GD_eq h2, GP_eq h2]
  have e := fi_prop hd t1 t2 t3 (aX n d m) (aY n d m) 1
  have eD : fi_D (aX n d) (aY n d) i2 j2 k2 = mo_D n (en d (n * n) i2) (en d (n * n) j2) (en d (n * n) k2) := rfl
  have eF : fi_f (aX n d) (aY n d) (aZ n Z d) i2 j2 k2 (aX n d m) (aY n d m) 1 = fi_f (mx n) (my n) Z (en d (n * n) i2) (en d (n * n) j2) (en d (n * n) k2) (mx n (en d (n * n) m)) (my n (en d (n * n) m)) 1 := rfl
  rw [eF, eD] at e
  have eZ : aZ n Z d m = Z (en d (n * n) m) := rfl
  rw [eZ]
  generalize fi_f (mx n) (my n) Z (en d (n * n) i2) (en d (n * n) j2) (en d (n * n) k2) (mx n (en d (n * n) m)) (my n (en d (n * n) m)) 1 = F at *
  generalize mo_D n (en d (n * n) i2) (en d (n * n) j2) (en d (n * n) k2) = E at *
  grind
/-- the model's plane -/
def MG (s : xS) (n : Nat) (d : Nat → Bool) (Z : Nat → Int) : Prop := Ms s n d Z ∧ ∃ i j k, mo_1 n Z d i j k ∧ s.1 101 42 = iz i ∧ s.2 101 43 = lz (mo_X n Z i j k) ∧ s.2 101 44 = lz (mo_Y n Z i j k) ∧ s.2 101 45 = lz (GD n Z d)
theorem mo_settle1 {s : xS} {b : Nat} {N : Int32} (hn : Mn s b N n) (hs : Ms s n d Z) (hRC : RCb n d = true) : ∃ s', f212 101 s = some (s', ()) ∧ fr FS s s' ∧ MG s' n d Z := by
  have hZ : Zb n d Z := fun c hc hd => (hs.2 c hc hd).2
  obtain ⟨i, j, k, h⟩ := mo_1_ex hRC hZ
  obtain ⟨s', e1, e2, i', j', k', g1, g2, g3, g4, g5, g6⟩ := mo_settle hn hs ⟨i, j, k, h.1⟩
  have h1 : mo_1 n Z d i' j' k' := ⟨g1, g6⟩
  exact ⟨s', e1, e2, hs.fr e2 (fun _ => rfl) (fun _ => rfl), i', j', k', h1, iz_of g2, lz_of g3, lz_of g4, by rw [GD_eq h1]; exact lz_of g5⟩
theorem GD_bd (hRC : RCb n d = true) (hZ : Zb n d Z) : 0 < GD n Z d ∧ GD n Z d ≤ 32 := by
  obtain ⟨i, j, k, h⟩ := mo_1_ex hRC hZ
  have b5 : 3 ≤ n ∧ n ≤ 5 := by
    unfold RCb at hRC
    simp only [Bool.and_eq_true, Bool.or_eq_true, decide_eq_true_eq] at hRC
    exact ⟨hRC.1.1.1.1.1.1.1.1.1.1.1, hRC.1.1.1.1.1.1.1.1.1.1.2⟩
  obtain ⟨c1, c2, c3, c4, c5, c6, c7, c8⟩ := h.1
  have h1 := mo_Dpos (n := n) c7
  have h2 := mo_plb (Z := Z) b5.1 b5.2 (show i < n * n by omega) (show j < n * n by omega) c3 (hZ i (by omega) c4) (hZ j (by omega) c5) (hZ k c3 c6)
  rw [GD_eq h]
  exact ⟨h1, h2.2.2.2.2.2⟩
theorem mo_gapOf {s : xS} {b : Nat} {N : Int32} (hn : Mn s b N n) (hg : MG s n d Z) {c : Nat} (hc : c < n * n) (dc : d c = true) : f213 101 (iz c) s = some (s, lz (GP n Z d c)) ∧ 0 ≤ GP n Z d c ∧ GP n Z d c ≤ 1000000 := by
  obtain ⟨hs, i, j, k, h, e1, e2, e3, e4⟩ := hg
  have sq := hn.sq25
  obtain ⟨c1, c2, c3, c4, c5, c6, c7, c8⟩ := id h.1
  have h2 := mo_plb (Z := Z) hn.2.2.2.2.1 hn.2.2.2.2.2 (show i < n * n by omega) (show j < n * n by omega) c3 (hs.2 i (by omega) c4).2 (hs.2 j (by omega) c5).2 (hs.2 k c3 c6).2
  have hpl := h2
  obtain ⟨b1, b2, b3, b4, b5, b6⟩ := h2
  rw [GD_eq h] at e4
  obtain ⟨v, g1, g2, g3, g4⟩ := mo_above hn hs (x1 := iz c) (x2 := s.1 101 42) (c := c) (i := i) (iz_t (by omega) (by omega)) (by rw [e1]; exact iz_t (by omega) (by omega)) hc (by omega) dc c4 (vx := s.2 101 43) (vy := s.2 101 44) (vw := s.2 101 45) (by rw [e2]; exact lz_t (by omega) (by omega)) (by rw [e3]; exact lz_t (by omega) (by omega)) (by rw [e4]; exact lz_t (by omega) (by omega)) hpl
  rw [mo_ab_eq] at g2 g3 g4
  have hp := c8 c hc dc
  have hD : mo_D n i j k = fi_D (mx n) (my n) i j k := rfl
  rw [GP_eq h]
  refine ⟨?_, by rw [hD]; omega, g4⟩
  unfold f213
  rw [ifg_pos O_101, g1, lz_of g2]
  rfl
end BO
