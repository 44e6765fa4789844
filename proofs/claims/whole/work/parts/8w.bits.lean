/-! the bit count -/
theorem pc_mod (z m M : Nat) (hm : m < 256) : z &&& (m + 256 * M) = (z % 256 &&& m) + 256 * (z / 256 &&& M) := by
  have h1 : (z &&& (m + 256 * M)) % 2 ^ 8 = (z % 256 &&& m) := by
    rw [Nat.and_mod_two_pow]
    congr 1
    omega
  have h2 : (z &&& (m + 256 * M)) / 2 ^ 8 = (z / 256 &&& M) := by
    rw [Nat.and_div_two_pow]
    congr 1
    omega
  omega
theorem pc_1 : ∀ a, a < 256 → ∀ e, e < 2 → (a / 2 + 128 * e) &&& 85 = (a / 2) &&& 85 := by decide +kernel
theorem pc_2 : ∀ a, a < 256 → ∀ e, e < 4 → (a / 4 + 64 * e) &&& 51 = (a / 4) &&& 51 := by decide +kernel
def pcA (a : Nat) : Nat := a - ((a / 2) &&& 85)
def pcB (a : Nat) : Nat := (pcA a &&& 51) + ((pcA a / 4) &&& 51)
def pcC (a : Nat) : Nat := (pcB a + pcB a / 16) &&& 15
theorem pc_3 : ∀ a, a < 256 → ((a / 2) &&& 85 ≤ a ∧ pcA a < 256) ∧ (pcB a ≤ 68 ∧ pcB a / 16 ≤ 4 ∧ pcB a % 16 ≤ 4) ∧ pcC a ≤ 8 ∧ pcC a = cnt (fun c => a.testBit c) 8 := by decide +kernel
theorem pc_4 : ∀ a, a < 73 → ∀ e, e < 16 → (a + 16 * e) &&& 15 = a &&& 15 := by decide +kernel
theorem pc_S1 {a : Nat} (ha : a < 256) (y M : Nat) : ((a + 256 * y) / 2) &&& (85 + 256 * M) = ((a / 2) &&& 85) + 256 * ((y / 2) &&& M) := by
  rw [pc_mod _ _ _ (by omega), show (a + 256 * y) / 2 % 256 = a / 2 + 128 * (y % 2) by omega, show (a + 256 * y) / 2 / 256 = y / 2 by omega, pc_1 a ha _ (by omega)]
theorem pc_S2 {a : Nat} (ha : a < 256) (y M : Nat) : ((a + 256 * y) / 4) &&& (51 + 256 * M) = ((a / 4) &&& 51) + 256 * ((y / 4) &&& M) := by
  rw [pc_mod _ _ _ (by omega), show (a + 256 * y) / 4 % 256 = a / 4 + 64 * (y % 4) by omega, show (a + 256 * y) / 4 / 256 = y / 4 by omega, pc_2 a ha _ (by omega)]
theorem pc_S3 {a : Nat} (ha : a < 256) (y m M : Nat) (hm : m < 256) : (a + 256 * y) &&& (m + 256 * M) = (a &&& m) + 256 * (y &&& M) := by
  rw [pc_mod _ _ _ hm, show (a + 256 * y) % 256 = a by omega, show (a + 256 * y) / 256 = y by omega]
def pA (v : Nat) : Nat := v - ((v / 2) &&& 1431655765)
def pB (v : Nat) : Nat := (pA v &&& 858993459) + ((pA v / 4) &&& 858993459)
def pC (v : Nat) : Nat := (pB v + pB v / 16) &&& 252645135
def pE (v : Nat) : Nat := (pC v + pC v / 256) + (pC v + pC v / 256) / 65536
section PC
variable {a b c e : Nat}
theorem pc_A (ha : a < 256) (hb : b < 256) (hc : c < 256) (he : e < 256) : ((a + 256 * (b + 256 * (c + 256 * e))) / 2) &&& 1431655765 ≤ a + 256 * (b + 256 * (c + 256 * e)) ∧ pA (a + 256 * (b + 256 * (c + 256 * e))) = pcA a + 256 * (pcA b + 256 * (pcA c + 256 * pcA e)) := by
  have := (pc_3 a ha).1
  have := (pc_3 b hb).1
  have := (pc_3 c hc).1
  have := (pc_3 e he).1
  unfold pA
  rw [show (1431655765 : Nat) = 85 + 256 * (85 + 256 * (85 + 256 * 85)) from rfl, pc_S1 ha, pc_S1 hb, pc_S1 hc]
  unfold pcA
  omega
theorem pc_B (ha : a < 256) (hb : b < 256) (hc : c < 256) (he : e < 256) : pB (a + 256 * (b + 256 * (c + 256 * e))) = pcB a + 256 * (pcB b + 256 * (pcB c + 256 * pcB e)) := by
  have h1 := (pc_3 a ha).1
  have h2 := (pc_3 b hb).1
  have h3 := (pc_3 c hc).1
  have h4 := (pc_3 e he).1
  unfold pB
  rw [(pc_A ha hb hc he).2, show (858993459 : Nat) = 51 + 256 * (51 + 256 * (51 + 256 * 51)) from rfl, pc_S2 h1.2, pc_S2 h2.2, pc_S2 h3.2, pc_S3 h1.2 _ _ _ (by omega), pc_S3 h2.2 _ _ _ (by omega), pc_S3 h3.2 _ _ _ (by omega)]
  unfold pcB
  omega
theorem pc_C (ha : a < 256) (hb : b < 256) (hc : c < 256) (he : e < 256) : pC (a + 256 * (b + 256 * (c + 256 * e))) = pcC a + 256 * (pcC b + 256 * (pcC c + 256 * pcC e)) := by
  have h1 := (pc_3 a ha).2.1
  have h2 := (pc_3 b hb).2.1
  have h3 := (pc_3 c hc).2.1
  have h4 := (pc_3 e he).2.1
  unfold pC
  rw [pc_B ha hb hc he, show (pcB a + 256 * (pcB b + 256 * (pcB c + 256 * pcB e))) + (pcB a + 256 * (pcB b + 256 * (pcB c + 256 * pcB e))) / 16 = (pcB a + pcB a / 16 + 16 * (pcB b % 16)) + 256 * ((pcB b + pcB b / 16 + 16 * (pcB c % 16)) + 256 * ((pcB c + pcB c / 16 + 16 * (pcB e % 16)) + 256 * (pcB e + pcB e / 16))) by omega, show (252645135 : Nat) = 15 + 256 * (15 + 256 * (15 + 256 * 15)) from rfl, pc_S3 (by omega) _ _ _ (by omega), pc_S3 (by omega) _ _ _ (by omega), pc_S3 (by omega) _ _ _ (by omega), pc_4 _ (by omega) _ (by omega), pc_4 _ (by omega) _ (by omega), pc_4 _ (by omega) _ (by omega)]
  rfl
theorem pc_E (ha : a < 256) (hb : b < 256) (hc : c < 256) (he : e < 256) : pE (a + 256 * (b + 256 * (c + 256 * e))) % 64 = pcC a + pcC b + pcC c + pcC e ∧ pE (a + 256 * (b + 256 * (c + 256 * e))) < 4294967296 := by
  have h1 := (pc_3 a ha).2.2.1
  have h2 := (pc_3 b hb).2.2.1
  have h3 := (pc_3 c hc).2.2.1
  have h4 := (pc_3 e he).2.2.1
  unfold pE
  rw [pc_C ha hb hc he, show (pcC a + 256 * (pcC b + 256 * (pcC c + 256 * pcC e))) / 256 = pcC b + 256 * (pcC c + 256 * pcC e) by omega]
  have e1 : (pcC a + 256 * (pcC b + 256 * (pcC c + 256 * pcC e)) + (pcC b + 256 * (pcC c + 256 * pcC e))) / 65536 = pcC c + pcC e + 256 * pcC e := by omega
  rw [e1]
  have e2 : pcC a + 256 * (pcC b + 256 * (pcC c + 256 * pcC e)) + (pcC b + 256 * (pcC c + 256 * pcC e)) + (pcC c + pcC e + 256 * pcC e) = (pcC a + pcC b + pcC c + pcC e) + 64 * (4 * pcC b + 1024 * pcC c + 262144 * pcC e + 4 * pcC c + 1024 * pcC e + 4 * pcC e) := by omega
  rw [e2, Nat.add_mul_mod_self_left]
  omega
end PC
theorem cnt_add (d : Nat → Bool) (m : Nat) : ∀ k, cnt d (m + k) = cnt d m + cnt (fun c => d (m + c)) k
  | 0 => by simp [cnt]
  | k + 1 => by
    rw [← Nat.add_assoc]
    simp only [cnt]
    rw [cnt_add d m k]
    omega
theorem cnt_cg {d e : Nat → Bool} : ∀ {N}, (∀ c, c < N → d c = e c) → cnt d N = cnt e N
  | 0, _ => rfl
  | N + 1, h => by
    simp only [cnt]
    rw [cnt_cg (fun c hc => h c (by omega)), h N (by omega)]
theorem cnt_ff {d : Nat → Bool} {N M : Nat} (h : ∀ c, N ≤ c → d c = false) (hM : N ≤ M) : cnt d M = cnt d N := by
  obtain ⟨k, rfl⟩ : ∃ k, M = N + k := ⟨M - N, by omega⟩
  rw [cnt_add]
  have : ∀ k, cnt (fun c => d (N + c)) k = 0 := by
    intro k
    induction k with
    | zero => rfl
    | succ k ih => simp only [cnt]; rw [ih, if_neg (by rw [h (N + k) (by omega)]; decide)]
  rw [this]
  rfl
theorem pc_v {v : Nat} (hv : v < 4294967296) : pE v % 64 = cnt (fun c => v.testBit c) 32 ∧ pE v < 4294967296 ∧ ((v / 2) &&& 1431655765) ≤ v := by
  have e : v = v % 256 + 256 * (v / 256 % 256 + 256 * (v / 65536 % 256 + 256 * (v / 16777216 % 256))) := by omega
  have h1 := pc_E (a := v % 256) (b := v / 256 % 256) (c := v / 65536 % 256) (e := v / 16777216 % 256) (by omega) (by omega) (by omega) (by omega)
  have h2 := (pc_A (a := v % 256) (b := v / 256 % 256) (c := v / 65536 % 256) (e := v / 16777216 % 256) (by omega) (by omega) (by omega) (by omega)).1
  rw [← e] at h1 h2
  refine ⟨?_, h1.2, h2⟩
  rw [h1.1, (pc_3 _ (show v % 256 < 256 by omega)).2.2.2, (pc_3 _ (show v / 256 % 256 < 256 by omega)).2.2.2, (pc_3 _ (show v / 65536 % 256 < 256 by omega)).2.2.2, (pc_3 _ (show v / 16777216 % 256 < 256 by omega)).2.2.2]
  rw [show (32 : Nat) = ((8 + 8) + 8) + 8 from rfl, cnt_add _ ((8 + 8) + 8), cnt_add _ (8 + 8), cnt_add _ 8]
  have t0 : ∀ c, c < 8 → (v % 256).testBit c = v.testBit c := fun c hc => by
    rw [show (256 : Nat) = 2 ^ 8 from rfl, Nat.testBit_mod_two_pow]; simp [hc]
  have t1 : ∀ c, c < 8 → (v / 256 % 256).testBit c = v.testBit (8 + c) := fun c hc => by
    rw [show (256 : Nat) = 2 ^ 8 from rfl, Nat.testBit_mod_two_pow, Nat.testBit_div_two_pow, Nat.add_comm c]; simp [hc]
  have t2 : ∀ c, c < 8 → (v / 65536 % 256).testBit c = v.testBit (8 + 8 + c) := fun c hc => by
    rw [show (256 : Nat) = 2 ^ 8 from rfl, show (65536 : Nat) = 2 ^ 16 from rfl, Nat.testBit_mod_two_pow, Nat.testBit_div_two_pow, Nat.add_comm c]; simp [hc]
  have t3 : ∀ c, c < 8 → (v / 16777216 % 256).testBit c = v.testBit (8 + 8 + 8 + c) := fun c hc => by
    rw [show (256 : Nat) = 2 ^ 8 from rfl, show (16777216 : Nat) = 2 ^ 24 from rfl, Nat.testBit_mod_two_pow, Nat.testBit_div_two_pow, Nat.add_comm c]; simp [hc]
  rw [cnt_cg t0, cnt_cg t1, cnt_cg t2, cnt_cg t3]
theorem ush_b (x : Int32) {c : Nat} (hc : c < 32) : (xm_ush x (iz c)).toBitVec = x.toBitVec >>> c := by
  unfold xm_ush
  show ((x.toUInt32 >>> ((iz c).toUInt32 &&& Int32.toUInt32 31)).toInt32).toBitVec = _
  rw [UInt32.toBitVec_toInt32, UInt32.toBitVec_shiftRight]
  show (x.toBitVec >>> (((iz c).toUInt32 &&& Int32.toUInt32 31).toBitVec % 32#32)) = _
  rw [hb_usa c hc]
  rw [BitVec.ushiftRight_eq']
  congr 1
  rw [BitVec.toNat_ofNat]
  exact Nat.mod_eq_of_lt (by omega)
theorem ush_n (x : Int32) {c : Nat} (hc : c < 32) : (xm_ush x (iz c)).toBitVec.toNat = x.toBitVec.toNat / 2 ^ c := by
  rw [ush_b x hc, BitVec.toNat_ushiftRight, Nat.shiftRight_eq_div_pow]
theorem and_n (x y : Int32) : (x &&& y).toBitVec.toNat = x.toBitVec.toNat &&& y.toBitVec.toNat := by rw [Int32.toBitVec_and, BitVec.toNat_and]
theorem add_n (x y : Int32) (h : x.toBitVec.toNat + y.toBitVec.toNat < 4294967296) : (x + y).toBitVec.toNat = x.toBitVec.toNat + y.toBitVec.toNat := by rw [Int32.toBitVec_add, BitVec.toNat_add]; exact Nat.mod_eq_of_lt h
theorem sub_n (x y : Int32) (h : y.toBitVec.toNat ≤ x.toBitVec.toNat) : (x - y).toBitVec.toNat = x.toBitVec.toNat - y.toBitVec.toNat := by rw [Int32.toBitVec_sub]; exact BitVec.toNat_sub_of_le h
theorem iz_nat {x : Int32} {m : Nat} (h : x.toBitVec.toNat = m) : x = iz m := by
  refine Int32.toBitVec_inj.mp (BitVec.eq_of_toNat_eq ?_)
  rw [h]
  have hm : m < 4294967296 := by rw [← h]; exact x.toBitVec.isLt
  show m = (BitVec.ofInt 32 (m : Int)).toNat
  rw [BitVec.ofInt_natCast, BitVec.toNat_ofNat]
  omega
theorem pc_all (x : Int32) (s : xS) : f285 x s = some (s, iz (cnt (hb x) 32)) := by
  unfold f285
  have hv := x.toBitVec.isLt
  obtain ⟨h1, h2, h3⟩ := pc_v hv
  have n1 : (x - ((xm_ush x (1 : Int32)) &&& (1431655765 : Int32))).toBitVec.toNat = pA x.toBitVec.toNat := by
    have e : ((xm_ush x (1 : Int32)) &&& (1431655765 : Int32)).toBitVec.toNat = ((x.toBitVec.toNat / 2) &&& 1431655765) := by
      rw [and_n, show (1 : Int32) = iz ((1 : Nat) : Int) from rfl, ush_n x (by omega)]; rfl
    rw [sub_n _ _ (by rw [e]; exact h3), e]; rfl
  generalize (x - ((xm_ush x (1 : Int32)) &&& (1431655765 : Int32))) = y1 at n1 ⊢
  have b1 : pB x.toBitVec.toNat < 4294967296 := by
    unfold pB
    have p1 : pA x.toBitVec.toNat &&& 858993459 ≤ 858993459 := Nat.and_le_right
    have p2 : (pA x.toBitVec.toNat / 4) &&& 858993459 ≤ 858993459 := Nat.and_le_right
    omega
  have n2 : ((y1 &&& (858993459 : Int32)) + ((xm_ush y1 (2 : Int32)) &&& (858993459 : Int32))).toBitVec.toNat = pB x.toBitVec.toNat := by
    have e1 : (y1 &&& (858993459 : Int32)).toBitVec.toNat = pA x.toBitVec.toNat &&& 858993459 := by rw [and_n, n1]; rfl
    have e2 : ((xm_ush y1 (2 : Int32)) &&& (858993459 : Int32)).toBitVec.toNat = (pA x.toBitVec.toNat / 4) &&& 858993459 := by
      rw [and_n, show (2 : Int32) = iz ((2 : Nat) : Int) from rfl, ush_n _ (by omega), n1]; rfl
    rw [add_n _ _ (by rw [e1, e2]; exact b1), e1, e2]; rfl
  generalize ((y1 &&& (858993459 : Int32)) + ((xm_ush y1 (2 : Int32)) &&& (858993459 : Int32))) = y2 at n2 ⊢
  have b2 : pB x.toBitVec.toNat ≤ 1717986918 := by
    unfold pB
    have p1 : pA x.toBitVec.toNat &&& 858993459 ≤ 858993459 := Nat.and_le_right
    have p2 : (pA x.toBitVec.toNat / 4) &&& 858993459 ≤ 858993459 := Nat.and_le_right
    omega
  have n3 : ((y2 + xm_ush y2 (4 : Int32)) &&& (252645135 : Int32)).toBitVec.toNat = pC x.toBitVec.toNat := by
    have e2 : (xm_ush y2 (4 : Int32)).toBitVec.toNat = pB x.toBitVec.toNat / 16 := by
      rw [show (4 : Int32) = iz ((4 : Nat) : Int) from rfl, ush_n _ (by omega), n2]
    rw [and_n, add_n _ _ (by rw [e2, n2]; omega), e2, n2]; rfl
  generalize ((y2 + xm_ush y2 (4 : Int32)) &&& (252645135 : Int32)) = y3 at n3 ⊢
  have b3 : pC x.toBitVec.toNat ≤ 252645135 := Nat.and_le_right
  have n4 : (y3 + xm_ush y3 (8 : Int32)).toBitVec.toNat = pC x.toBitVec.toNat + pC x.toBitVec.toNat / 256 := by
    have e2 : (xm_ush y3 (8 : Int32)).toBitVec.toNat = pC x.toBitVec.toNat / 256 := by
      rw [show (8 : Int32) = iz ((8 : Nat) : Int) from rfl, ush_n _ (by omega), n3]
    rw [add_n _ _ (by rw [e2, n3]; omega), e2, n3]
  generalize (y3 + xm_ush y3 (8 : Int32)) = y4 at n4 ⊢
  have n5 : ((y4 + xm_ush y4 (16 : Int32)) &&& (63 : Int32)).toBitVec.toNat = cnt (hb x) 32 := by
    have e2 : (xm_ush y4 (16 : Int32)).toBitVec.toNat = (pC x.toBitVec.toNat + pC x.toBitVec.toNat / 256) / 65536 := by
      rw [show (16 : Int32) = iz ((16 : Nat) : Int) from rfl, ush_n _ (by omega), n4]
    rw [and_n, add_n _ _ (by rw [e2, n4]; omega), e2, n4]
    rw [show (63 : Int32).toBitVec.toNat = 2 ^ 6 - 1 from rfl, Nat.and_two_pow_sub_one_eq_mod]
    exact h1
  rw [iz_nat n5]
