/-! red cells as bits -/
def hb (x : Int32) (c : Nat) : Bool := x.toBitVec.getLsbD c
theorem hb_0 (c : Nat) : hb 0 c = false := by
  unfold hb
  show (0#32).getLsbD c = false
  simp
theorem hb_sh : ∀ v, v < 32 → ((1 : Int32) <<< (iz (v : Nat) &&& 31)).toBitVec = BitVec.ofNat 32 (2 ^ v) := by decide +kernel
theorem hb_one {v c : Nat} (hv : v < 32) : hb ((1 : Int32) <<< (iz v &&& 31)) c = decide (c = v) := by
  unfold hb
  rw [hb_sh v hv, BitVec.getLsbD_ofNat, Nat.testBit_two_pow]
  by_cases h : c = v
  · subst h; simp [hv]
  · have : ¬ v = c := fun q => h q.symm
    simp [h, this]
theorem hb_or (x y : Int32) (c : Nat) : hb (x ||| y) c = (hb x c || hb y c) := by
  unfold hb
  rw [Int32.toBitVec_or, BitVec.getLsbD_or]
theorem hb_ext {x y : Int32} (h : ∀ c, c < 32 → hb x c = hb y c) : x = y := by
  refine Int32.toBitVec_inj.mp ?_
  exact BitVec.eq_of_getLsbD_eq (fun i hi => h i hi)
theorem hb_usa : ∀ c, c < 32 → ((iz (c : Nat)).toUInt32 &&& Int32.toUInt32 31).toBitVec % 32#32 = BitVec.ofNat 32 c := by decide +kernel
theorem hb_test (x : Int32) {c : Nat} (hc : c < 32) : (xm_ush x (iz c) &&& (1 : Int32)) = 0 ↔ hb x c = false := by
  have e : (xm_ush x (iz c) &&& (1 : Int32)).toBitVec = (x.toBitVec >>> c) &&& 1#32 := by
    unfold xm_ush
    rw [Int32.toBitVec_and]
    show ((x.toUInt32 >>> ((iz c).toUInt32 &&& Int32.toUInt32 31)).toInt32).toBitVec &&& 1#32 = _
    rw [UInt32.toBitVec_toInt32, UInt32.toBitVec_shiftRight]
    show (x.toBitVec >>> (((iz c).toUInt32 &&& Int32.toUInt32 31).toBitVec % 32#32)) &&& 1#32 = _
    rw [hb_usa c hc]
    congr 1
    rw [BitVec.ushiftRight_eq']
    congr 1
    rw [BitVec.toNat_ofNat]
    exact Nat.mod_eq_of_lt (by omega)
  have e2 : ((xm_ush x (iz c) &&& (1 : Int32)) = 0) ↔ (x.toBitVec >>> c) &&& 1#32 = 0#32 := by
    rw [← Int32.toBitVec_inj, e]
    exact Iff.rfl
  rw [e2]
  constructor
  · intro h
    have := congrArg (fun y => y.getLsbD 0) h
    simpa [hb, BitVec.getLsbD_and, BitVec.getLsbD_ushiftRight] using this
  · intro h
    refine BitVec.eq_of_getLsbD_eq (fun i hi => ?_)
    rw [BitVec.getLsbD_and, BitVec.getLsbD_ushiftRight]
    by_cases q : i = 0
    · subst q
      unfold hb at h
      simp [h]
    · have : (1#32).getLsbD i = false := by
        rw [BitVec.getLsbD_one]
        simp [q]
      rw [this]
      simp
/-- reds: the class -/
theorem cl_reds {s : xS} {n : Nat} {d : Nat → Bool} {Z : Nat → Int} {D : Int} {G : Nat → Int} (h : CG s n d Z D G) (sq : n * n ≤ 25) {red : Int} (hr : s.1 3 4 = iz red) (r0 : 0 ≤ red) (r20 : red ≤ 20) {a : Nat} (ha : a = 49 ∨ a = 50) {e : Nat → Nat} (he : ∀ k, k < cnt d (n * n) → s.1 a k = iz (e k) ∧ e k < 32) (hp : s.1 39 7 = iz (cnt d (n * n))) :
    ∃ x, f34 39 a s = some (s, x) ∧ ∀ c, hb x c = true ↔ ∃ k, k < cnt d (n * n) ∧ G k ≤ red * D ∧ e k = c := by
  obtain ⟨D0, D1, e11, e5, hG⟩ := h
  have cl := cnt_le d (n * n)
  have ka : hk_ks[a]? = some (20, 25) := by rcases ha with rfl | rfl <;> decide +kernel
  have hm := mbd (B := 20) (C := 32) (x := red) (y := D) (by omega) r20 (by omega) D1
  have key : ok (f34 39 a s) (fun r => r.1 = s ∧ ∀ c, hb r.2 c = true ↔ ∃ k, k < cnt d (n * n) ∧ G k ≤ red * D ∧ e k = c) := by
    unfold f34
    rw [ifg_pos O_39]
    rw [show (whl (fun q : (Int32 × Int32 × xS) => f34_4 39 a q.1 q.2.1 q.2.2) ((0 : Int32), (0 : Int32), s)) = whl (fun q : (Int32 × Int32 × xS) => f34_4 39 a q.1 q.2.1 q.2.2) ((0 : Int32), iz ((0 : Nat) : Int), s) from rfl]
    refine forzA (A := Int32) (fun m L w => w = s ∧ ∀ c, hb L c = true ↔ ∃ k, k < m ∧ G k ≤ red * D ∧ e k = c) 0 (cnt d (n * n)) (by omega) (by omega) ⟨rfl, fun c => by rw [hb_0]; exact ⟨fun q => absurd q (by decide), fun ⟨k, hk, _⟩ => by omega⟩⟩ (fun k L w _ hk ⟨h1, h2⟩ => ?_) (fun L w ⟨h1, h2⟩ => ?_)
    · subst h1
      obtain ⟨g1, g2, g3, -⟩ := hG k hk
      obtain ⟨q1, q2⟩ := he k hk
      unfold f34_4 f34_47
      rw [hp, it_le_f (by omega) (by omega) (by omega)]
      simp (disch := omega) only [Option.bind_some, if_true, iz_in, iz_n, nat_toNat, R_39_1, R_39_0, R_40_4, A_45, g1, hr, e11, iz_mul, aI_k ka, q1]
      by_cases q : red * D < G k
      · rw [it_lt_t q (by omega) (by omega)]
        simp only [iz1, iz_add, ok_some, ok_map, lp_l, lp_r, lpA_l, lpA_r, true_and]
        refine fun c => (h2 c).trans ⟨fun ⟨j, j1, j2, j3⟩ => ⟨j, by omega, j2, j3⟩, fun ⟨j, j1, j2, j3⟩ => ⟨j, ?_, j2, j3⟩⟩
        have : j ≠ k := fun r => by subst r; omega
        omega
      · rw [it_lt_f (by omega) (by omega) (by omega), ok_some, lpA_l]
        refine ⟨by rw [iz1, iz_add], rfl, fun c => ?_⟩
        rw [hb_or, hb_one q2, Bool.or_eq_true, h2 c, decide_eq_true_eq]
        constructor
        · rintro (⟨j, j1, j2, j3⟩ | rfl)
          · exact ⟨j, by omega, j2, j3⟩
          · exact ⟨k, by omega, by omega, rfl⟩
        · rintro ⟨j, j1, j2, j3⟩
          by_cases r : j = k
          · subst r; exact Or.inr j3.symm
          · exact Or.inl ⟨j, by omega, j2, j3⟩
    · subst h1
      unfold f34_4
      rw [hp, it_le_t (by omega) (by omega) (by omega)]
      simp only [ok_some, ok_map, lp_l, lp_r, lpA_l, lpA_r, true_and]
      exact h2
  obtain ⟨r, e1, e2, e3⟩ := key
  exact ⟨r.2, by rw [e1, ← e2], e3⟩
theorem CG.red {s : xS} {n : Nat} {d : Nat → Bool} {Z : Nat → Int} {D : Int} {G : Nat → Int} (h : CG s n d Z D G) (hE : 0 < GD n Z d) (red : Int) {e : Nat} (he : e < n * n) (hd : d e = true) : G (cnt d e) ≤ red * D ↔ rd n Z d red e = true := by
  have h1 := h.rel e he hd
  have h2 := lt_scale (a := red * D) (b := G (cnt d e)) (c := red * GD n Z d) (e := GP n Z d e) h.1 hE (by grind) h1
  unfold rd
  rw [Bool.and_eq_true, decide_eq_true_eq]
  constructor
  · intro q
    exact ⟨hd, Int.not_lt.mp (fun r => absurd (h2.mpr r) (Int.not_lt.mpr q))⟩
  · intro q
    exact Int.not_lt.mp (fun r => absurd (h2.mp r) (Int.not_lt.mpr q.2))
/-- red pairs by red cells -/
theorem CG.reds {s : xS} {n : Nat} {d : Nat → Bool} {Z : Nat → Int} {D : Int} {G : Nat → Int} (h : CG s n d Z D G) (hE : 0 < GD n Z d) (red : Int) (f : Nat → Nat) (c : Nat) : (∃ k, k < cnt d (n * n) ∧ G k ≤ red * D ∧ f (en d (n * n) k) = c) ↔ ∃ e, e < n * n ∧ rd n Z d red e = true ∧ f e = c := by
  constructor
  · rintro ⟨k, k1, k2, k3⟩
    obtain ⟨o1, o2, o3⟩ := en_ok k1
    refine ⟨_, o1, (h.red hE red o1 o2).mp ?_, k3⟩
    rw [o3]
    exact k2
  · rintro ⟨e, e1, e2, e3⟩
    have hd : d e = true := by unfold rd at e2; rw [Bool.and_eq_true] at e2; exact e2.1
    exact ⟨cnt d e, cnt_lt e1 hd, (h.red hE red e1 hd).mpr e2, by rw [en_at e1 hd]; exact e3⟩
