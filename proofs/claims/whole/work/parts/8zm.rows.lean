/-! best: rows of rounds, pure -/
theorem up_eqP (f : Nat → Nat → Int32) (a i : Nat) (v : Int32) (t : Nat → Nat → Int64) : ((xm_up f a i v, t) : xS).1 a i = v := up_eq f a i v
theorem iz_assoc (a : Int32) (p q : Int) : a + iz p + iz q = a + iz (p + q) := by rw [Int32.add_assoc, iz_add]
theorem iz_sub_self (a : Int32) (q : Int) : a + iz q - a = iz q := by rw [Int32.add_comm, Int32.add_sub_cancel]
theorem tk_iron {a : Nat} {m : Nat} (x : sS) : ∃ q : Nat, q ≤ m ∧ (tk a (m : Int) x).2.1 = x.2.1 + iz q := by
  unfold tk
  split
  · exact ⟨0, by omega, by rw [show iz ((0 : Nat) : Int) = 0 from rfl, Int32.add_zero]⟩
  · exact ⟨m, Nat.le_refl _, rfl⟩
theorem sl1_iron {n : Nat} {slip : Int} {b c : Nat} (x : sS) : ∃ q : Nat, q ≤ 2 ∧ (sl1 n slip b c x).2.1 = x.2.1 + iz q := by
  have z0 : ∀ y : Int32, y = y + iz ((0 : Nat) : Int) := fun y => by rw [show iz ((0 : Nat) : Int) = 0 from rfl, Int32.add_zero]
  unfold sl1
  split
  · exact ⟨0, by omega, z0 _⟩
  · split
    · exact ⟨0, by omega, z0 _⟩
    · split
      · obtain ⟨q, q1, q2⟩ := tk_iron (a := b + c) (m := 1) (x.1, x.2.1, dw x.2.2)
        exact ⟨q, by omega, q2⟩
      · obtain ⟨q, q1, q2⟩ := tk_iron (a := b + c) (m := 1) (x.1, x.2.1, dw x.2.2)
        obtain ⟨p, p1, p2⟩ := tk_iron (a := b + c + 1) (m := 1) (tk (b + c) ((1 : Nat) : Int) (x.1, x.2.1, dw x.2.2))
        refine ⟨q + p, by omega, ?_⟩
        have : (tk (b + c + 1) 1 (tk (b + c) 1 (x.1, x.2.1, dw x.2.2))).2.1 = (tk (b + c + 1) ((1 : Nat) : Int) (tk (b + c) ((1 : Nat) : Int) (x.1, x.2.1, dw x.2.2))).2.1 := rfl
        rw [this, p2, q2, iz_assoc]
        rfl
theorem scr_iron {n : Nat} {slip : Int} {dp : Nat} {b : Nat} {r : Nat → Bool} (x : sS) : ∀ c, ∃ q : Nat, q ≤ (dp + 2) * c ∧ (scr n slip dp b r c x).1.2.1 = x.2.1 + iz q
  | 0 => ⟨0, by omega, by rw [show iz ((0 : Nat) : Int) = 0 from rfl, Int32.add_zero]; rfl⟩
  | c + 1 => by
    obtain ⟨q, q1, q2⟩ := scr_iron (n := n) (slip := slip) (dp := dp) (b := b) (r := r) x c
    rw [scr]
    have e : (dp + 2) * (c + 1) = (dp + 2) * c + (dp + 2) := Nat.mul_succ _ _
    split
    · obtain ⟨p, p1, p2⟩ := tk_iron (a := b + c) (m := dp) (scr n slip dp b r c x).1
      obtain ⟨o, o1, o2⟩ := sl1_iron (n := n) (slip := slip) (b := b) (c := c) (tk (b + c) dp (scr n slip dp b r c x).1)
      refine ⟨q + p + o, by omega, ?_⟩
      dsimp only
      rw [o2, p2, q2, iz_assoc, iz_assoc]
      congr 2
      omega
    · exact ⟨q, by omega, q2⟩
section PR
variable {n pl : Nat} {red slip : Int} {x : sS} {W S : Nat → Int} {rc : Nat} {Rs : Nat → Rn}
theorem dRd_iron {R : Rn} (hv : Rv pl n R) (y : sS) : ∃ q : Nat, q ≤ 300 ∧ (dRd n red slip W S R y).1.2.1 = y.2.1 + iz q := by
  have sq := hv.2.2.2.1.sq
  obtain ⟨dp, hdp⟩ : ∃ dp : Nat, R.2.2.2.2.2.2 = dp := ⟨R.2.2.2.2.2.2.toNat, by have := hv.2.2.2.2.2.1; omega⟩
  have d9 := hv.2.2.2.2.2.2
  unfold dRd
  rw [hdp]
  obtain ⟨q, q1, q2⟩ := scr_iron (n := n) (slip := slip) (dp := dp) (b := 25 * R.2.2.2.2.2.1) (r := rS n red W S R y.1) y (n * n)
  have := Nat.mul_le_mul (show dp + 2 ≤ 11 by omega) sq
  exact ⟨q, by omega, q2⟩
/-- the state behind the rounds that the digits of p tell -/
noncomputable def stp (n : Nat) (red slip : Int) (W S : Nat → Int) (rc : Nat) (Rs : Nat → Rn) (x : sS) : Nat → Nat → sS
  | 0, _ => x
  | j + 1, p => (dRd n red slip W S (Rs (p % rc)) (stp n red slip W S rc Rs x j (p / rc))).1
theorem KV_stp (h : KV n pl red slip x W S rc Rs) (h0 : 0 < rc) : ∀ j p, KV n pl red slip (stp n red slip W S rc Rs x j p) W S rc Rs
  | 0, _ => h
  | j + 1, p => KV_round (KV_stp h h0 j (p / rc)) (Nat.mod_lt _ h0)
noncomputable def irn (n : Nat) (red slip : Int) (W S : Nat → Int) (rc : Nat) (Rs : Nat → Rn) (x : sS) (j p : Nat) : Nat := ((stp n red slip W S rc Rs x j p).2.1 - x.2.1).toInt.toNat
theorem irn_ex (h : KV n pl red slip x W S rc Rs) (h0 : 0 < rc) : ∀ j p, ∃ q : Nat, q ≤ 300 * j ∧ (stp n red slip W S rc Rs x j p).2.1 = x.2.1 + iz q
  | 0, _ => ⟨0, by omega, by rw [show iz ((0 : Nat) : Int) = 0 from rfl, Int32.add_zero]; rfl⟩
  | j + 1, p => by
    obtain ⟨q, q1, q2⟩ := irn_ex h h0 j (p / rc)
    obtain ⟨o, o1, o2⟩ := dRd_iron (red := red) (slip := slip) (W := W) (S := S) (h.2.2.2.2.2.2.2.2.2.2 (p % rc) (Nat.mod_lt _ h0)) (stp n red slip W S rc Rs x j (p / rc))
    refine ⟨q + o, by omega, ?_⟩
    rw [stp, o2, q2, iz_assoc]
    rfl
theorem irn_eq {j p q : Nat} (hq : q ≤ 1000000) (h : (stp n red slip W S rc Rs x j p).2.1 = x.2.1 + iz q) : irn n red slip W S rc Rs x j p = q := by
  unfold irn
  rw [h, iz_sub_self, iz_t (by omega) (by omega)]
  rfl
theorem irn_at (h : KV n pl red slip x W S rc Rs) (h0 : 0 < rc) {j : Nat} (hj : j ≤ 3) (p : Nat) : (stp n red slip W S rc Rs x j p).2.1 = x.2.1 + iz (irn n red slip W S rc Rs x j p) ∧ irn n red slip W S rc Rs x j p ≤ 900 := by
  obtain ⟨q, q1, q2⟩ := irn_ex h h0 j p
  have := irn_eq (by omega) q2
  rw [this]
  exact ⟨q2, by omega⟩
theorem irn_up (h : KV n pl red slip x W S rc Rs) (h0 : 0 < rc) {j : Nat} (hj : j < 3) (p : Nat) : irn n red slip W S rc Rs x j (p / rc) ≤ irn n red slip W S rc Rs x (j + 1) p := by
  obtain ⟨a1, a2⟩ := irn_at h h0 (j := j) (by omega) (p / rc)
  obtain ⟨o, o1, o2⟩ := dRd_iron (red := red) (slip := slip) (W := W) (S := S) (h.2.2.2.2.2.2.2.2.2.2 (p % rc) (Nat.mod_lt _ h0)) (stp n red slip W S rc Rs x j (p / rc))
  have : (stp n red slip W S rc Rs x (j + 1) p).2.1 = x.2.1 + iz ((irn n red slip W S rc Rs x j (p / rc) + o : Nat) : Int) := by
    rw [stp, o2, a1, iz_assoc]
    rfl
  rw [irn_eq (by omega) this]
  omega
theorem irn_block (h : KV n pl red slip x W S rc Rs) (h0 : 0 < rc) {j : Nat} (p : Nat) : ∀ t, j + t ≤ 3 → ∀ c, c / rc ^ t = p → irn n red slip W S rc Rs x j p ≤ irn n red slip W S rc Rs x (j + t) c
  | 0, _, c, hc => by
    rw [Nat.pow_zero, Nat.div_one] at hc
    rw [hc]
    exact Nat.le_refl _
  | t + 1, ht, c, hc => by
    have h1 := irn_block h h0 (j := j) p t (by omega) (c / rc) (by rw [Nat.div_div_eq_div_mul, ← Nat.pow_succ', hc])
    have h2 := irn_up h h0 (j := j + t) (by omega) c
    rw [← Nat.add_assoc]
    omega
/-- digit j of m digits -/
def dg (rc m c j : Nat) : Nat := c / rc ^ (m - 1 - j) % rc
theorem dg_lt {m c j : Nat} (h0 : 0 < rc) : dg rc m c j < rc := Nat.mod_lt _ h0
theorem dg_up {m p i j : Nat} (hi : i < rc) (hj : j < m) : dg rc (m + 1) (p * rc + i) j = dg rc m p j := by
  unfold dg
  rw [show m + 1 - 1 - j = (m - 1 - j) + 1 by omega, Nat.pow_succ', ← Nat.div_div_eq_div_mul]
  congr 2
  rw [Nat.mul_comm, Nat.mul_add_div (by omega), Nat.div_eq_of_lt hi, Nat.add_zero]
theorem dg_last {m p i : Nat} (hi : i < rc) : dg rc (m + 1) (p * rc + i) m = i := by
  unfold dg
  rw [show m + 1 - 1 - m = 0 by omega, Nat.pow_zero, Nat.div_one, Nat.mul_comm, Nat.mul_add_mod, Nat.mod_eq_of_lt hi]
theorem stp_up {j p i : Nat} (hi : i < rc) : stp n red slip W S rc Rs x (j + 1) (p * rc + i) = (dRd n red slip W S (Rs i) (stp n red slip W S rc Rs x j p)).1 := by
  rw [stp, Nat.mul_comm p rc, Nat.mul_add_mod, Nat.mod_eq_of_lt hi, Nat.mul_add_div (by omega), Nat.div_eq_of_lt hi, Nat.add_zero]
/-- a plate that no digit scrapes is as it was -/
theorem flP_stp (h : KV n pl red slip x W S rc Rs) (h0 : 0 < rc) {q : Nat} (hq : q < 4) (k : Int) : ∀ j p, (∀ i, i < j → (Rs (dg rc j p i)).2.2.2.2.2.1 ≠ q) → flP n (stp n red slip W S rc Rs x j p).1 q k = flP n x.1 q k
  | 0, _, _ => rfl
  | j + 1, p, hd => by
    have hV := KV_stp h h0 j (p / rc)
    have e1 := hd j (by omega)
    unfold dg at e1
    rw [show j + 1 - 1 - j = 0 by omega, Nat.pow_zero, Nat.div_one] at e1
    rw [stp, flP_o (Hb.bd hV.2.2.2.2.2.2.2.1 hV.2.2.2.2.2.2.2.2.1) (h.2.2.2.2.2.2.2.2.2.2 (p % rc) (Nat.mod_lt _ h0)) h.2.2.1 hq (fun e => e1 e.symm) k]
    refine flP_stp h h0 hq k j (p / rc) (fun i hi => ?_)
    have e2 := hd i (by omega)
    have : dg rc (j + 1) p i = dg rc j (p / rc) i := by
      unfold dg
      rw [show j + 1 - 1 - i = (j - 1 - i) + 1 by omega, Nat.pow_succ', ← Nat.div_div_eq_div_mul]
    rw [this] at e2
    exact e2
end PR
/-- the best code below N: a value t, a choice f -/
def IsB (f : Nat → Prop) (t : Nat → Nat) (N : Nat) (o : Option Nat) : Prop := (o = none ∧ ∀ c, c < N → ¬ f c) ∨ ∃ c, o = some c ∧ c < N ∧ f c ∧ (∀ c', c' < N → f c' → t c ≤ t c') ∧ ∀ c', c' < c → f c' → t c < t c'
section IB
variable {f : Nat → Prop} {t : Nat → Nat} {N : Nat} {o o' : Option Nat}
theorem IsB_u (h : IsB f t N o) (h' : IsB f t N o') : o = o' := by
  rcases h with ⟨rfl, h1⟩ | ⟨c, rfl, h1, h2, h3, h4⟩
  · rcases h' with ⟨rfl, -⟩ | ⟨c, rfl, g1, g2, -⟩
    · rfl
    · exact absurd g2 (h1 c g1)
  · rcases h' with ⟨rfl, g1⟩ | ⟨c', rfl, g1, g2, g3, g4⟩
    · exact absurd h2 (g1 c h1)
    · rcases Nat.lt_trichotomy c c' with q | q | q
      · have a := g4 c q h2
        have b := h3 c' g1 g2
        omega
      · rw [q]
      · have a := h4 c' q g2
        have b := g3 c h1 h2
        omega
theorem IsB_0 : IsB f t 0 none := Or.inl ⟨rfl, fun c hc => by omega⟩
theorem IsB_no (h : IsB f t N o) (hn : ¬ f N) : IsB f t (N + 1) o := by
  rcases h with ⟨rfl, h1⟩ | ⟨c, rfl, h1, h2, h3, h4⟩
  · refine Or.inl ⟨rfl, fun c hc => ?_⟩
    by_cases q : c = N
    · rw [q]; exact hn
    · exact h1 c (by omega)
  · refine Or.inr ⟨c, rfl, by omega, h2, fun c' hc' hf => ?_, h4⟩
    by_cases q : c' = N
    · rw [q] at hf; exact absurd hf hn
    · exact h3 c' (by omega) hf
theorem IsB_more {o0 : Nat} (h : IsB f t N (some o0)) {M : Nat} (hM : N ≤ M) (hn : ∀ c, N ≤ c → c < M → t o0 ≤ t c) : IsB f t M (some o0) := by
  rcases h with ⟨h0, -⟩ | ⟨c, h0, h1, h2, h3, h4⟩
  · cases h0
  · cases h0
    refine Or.inr ⟨o0, rfl, by omega, h2, fun c' hc' hf => ?_, h4⟩
    by_cases q : c' < N
    · exact h3 c' q hf
    · exact hn c' (by omega) hc'
theorem IsB_yes (h : IsB f t N o) (hf : f N) (hb : ∀ c, o = some c → t N < t c) : IsB f t (N + 1) (some N) := by
  refine Or.inr ⟨N, rfl, by omega, hf, fun c' hc' hf' => ?_, fun c' hc' hf' => ?_⟩
  · by_cases q : c' = N
    · rw [q]; exact Nat.le_refl _
    · rcases h with ⟨rfl, h1⟩ | ⟨c, rfl, h1, h2, h3, h4⟩
      · exact absurd hf' (h1 c' (by omega))
      · have := hb c rfl
        have := h3 c' (by omega) hf'
        omega
  · rcases h with ⟨rfl, h1⟩ | ⟨c, rfl, h1, h2, h3, h4⟩
    · exact absurd hf' (h1 c' hc')
    · have := hb c rfl
      have := h3 c' hc' hf'
      omega
end IB
