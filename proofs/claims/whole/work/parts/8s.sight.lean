/-! sight, hides -/
def FSg (id k : Nat) : Bool := (id == 72 && (k == 8 || k == 11 || k == 14 || k == 16)) || id == 73 || id == 74 || id == 75 || id == 76 || id == 77 || (id == 101 && k == 71) || id == 138 || id == 139 || id == 140 || id == 141 || id == 142
theorem sh_n {n : Nat} (n3 : 3 ≤ n) (n5 : n ≤ 5) : ∃ z : Int, (1 : Int32) <<< (iz ((n * n : Nat) : Int) &&& 31) = iz z ∧ 1 ≤ z ∧ z ≤ 33554432 := by
  rcases (show n = 3 ∨ n = 4 ∨ n = 5 by omega) with rfl | rfl | rfl
  · exact ⟨512, by decide +kernel, by omega, by omega⟩
  · exact ⟨65536, by decide +kernel, by omega, by omega⟩
  · exact ⟨33554432, by decide +kernel, by omega, by omega⟩
section SS
variable {s : xS} {b n pl : Nat} {red slip : Int} {x : sS} {W S : Nat → Int} {st : Int32} {rc : Nat} {Rs : Nat → Rn}
def FH7 (id k : Nat) : Bool := id == 72 && (k == 11 || k == 14 || k == 16)
theorem cl_forget (s : xS) : ok (f108 72 s) (fun r => fr FH7 s r.1 ∧ r.1.1 72 11 = iz 0 ∧ r.1.1 72 14 = iz 0 ∧ r.1.1 72 16 = iz 0) := by
  unfold f108
  rw [ifg_pos O_72]
  simp only [pI, Option.bind_some, ok_some, iz0]
  refine ⟨(((fr.rf _ _).ui rfl).ui rfl).ui rfl, ?_, ?_, ?_⟩
  · simp (disch := omega) only [up_ix, up_eq]
  · simp (disch := omega) only [up_ix, up_eq]
  · exact up_eq _ _ _ _
set_option maxHeartbeats 1000000 in
theorem c_sight (h : Core s b n pl red slip x W S st rc Rs) {m : Nat} {G : Nat → Sg} (hS : SgI s pl n m G) {p t u v r : Int} (p0 : -2147483648 ≤ p) (p1 : p ≤ 2147483647) (t0 : -2147483648 ≤ t) (t1 : t ≤ 2147483647) (u0 : -2147483648 ≤ u) (u1 : u ≤ 2147483647) (v0 : -2147483648 ≤ v) (v1 : v ≤ 2147483647) (r0 : -2147483648 ≤ r) (r1 : r ≤ 2147483647) : ok (f155 0 (iz p) (iz t) (iz u) (iz v) (iz r) s) (fun o1 => ok (f263 101 (iz p) (iz t) (iz u) (iz v) (iz r) o1.1) (fun o2 => o2.2 = o1.2 ∧ (o2.1 = s ∨ (fr FSg s o2.1 ∧ o2.1.1 72 11 = iz 0 ∧ o2.1.1 72 14 = iz 0 ∧ o2.1.1 72 16 = iz 0 ∧ ∃ G', SgI o2.1 pl n (m + 1) G')))) := by
  have hpl := h.p4
  have n3 := h.2.2.1
  have n5 := h.2.2.2.1
  obtain ⟨sh, sh1, sh2, sh3⟩ := sh_n n3 n5
  have nz1 : ¬ iz 1 = (0 : Int32) := by decide
  have zz0 : iz 0 = (0 : Int32) := by decide
  obtain ⟨m20, s8, s71, sk⟩ := hS
  have em1 : (-1 : Int32) = iz (-1) := by decide
  have ct := h.cn.cells
  have mt := h.mn.zc
  have cls : ¬ ((0 ≤ p ∧ p < pl) ∧ (0 ≤ t ∧ t ≤ 3) ∧ (-1 ≤ u ∧ u ≤ 1) ∧ (-1 ≤ v ∧ v ≤ 1) ∧ (0 ≤ r ∧ r ≤ sh - 1) ∧ m < 20) → f155 0 (iz p) (iz t) (iz u) (iz v) (iz r) s = some (s, iz (-1)) ∧ f263 101 (iz p) (iz t) (iz u) (iz v) (iz r) s = some (s, iz (-1)) := by
    intro hb
    constructor
    · unfold f155 f155_33 f155_54
      rw [ifg_pos O_0, R_0_1, em1, R_0_10]
      simp only [Option.bind_some]
      by_cases k1 : 0 ≤ p ∧ p < pl
      case neg => rw [g_plate_f h.1.1 hpl p0 p1 k1, Option.bind_some]; exact if_pos zz0
      rw [g_plate_t h.1.1 hpl p0 p1 k1, Option.bind_some]
      dsimp only
      rw [if_neg nz1]
      by_cases k2 : 0 ≤ t ∧ t ≤ 3
      case neg => rw [g_turn_f t0 t1 k2, Option.bind_some]; exact if_pos zz0
      rw [g_turn_t t0 t1 k2, Option.bind_some]
      dsimp only
      rw [if_neg nz1]
      by_cases k3 : -1 ≤ u ∧ u ≤ 1
      case neg => rw [g_shift_f u0 u1 k3, Option.bind_some]; exact if_pos zz0
      rw [g_shift_t u0 u1 k3, Option.bind_some]
      dsimp only
      rw [if_neg nz1]
      by_cases k4 : -1 ≤ v ∧ v ≤ 1
      case neg => rw [g_shift_f v0 v1 k4, Option.bind_some]; exact if_pos zz0
      rw [g_shift_t v0 v1 k4, Option.bind_some]
      dsimp only
      rw [if_neg nz1]
      by_cases k5 : 0 ≤ r
      case neg => rw [iz0, it_lt_t (by omega) (by omega) (by omega)]
      rw [iz0, it_lt_f (by omega) (by omega) (by omega), ct, Option.bind_some]
      dsimp only
      rw [sh1]
      by_cases k6 : r ≤ sh - 1
      case neg => rw [it_lt_f (by omega) (by omega) (by omega)]
      rw [it_lt_t (by omega) (by omega) (by omega)]
      unfold f110
      rw [ifg_pos O_72, s8, iz20, it_lt_f (by omega) (by omega) (by omega), em1]
      rfl
    · unfold f263 f263_62
      rw [ifg_pos O_101, em1]
      by_cases k1 : 0 ≤ p ∧ p < pl
      case neg => rw [g_mplate_f h.mn h.2.1.2.1 hpl p0 p1 k1, Option.bind_some]; exact if_pos zz0
      rw [g_mplate_t h.mn h.2.1.2.1 hpl p0 p1 k1, Option.bind_some]
      dsimp only
      rw [if_neg nz1, iz0, iz3]
      by_cases k2 : 0 ≤ t ∧ t ≤ 3
      case neg => rw [g_in_f t0 t1 (by omega) (by omega) (by omega) (by omega) k2, Option.bind_some]; exact if_pos rfl
      rw [g_in_t t0 t1 (by omega) (by omega) (by omega) (by omega) k2, Option.bind_some]
      dsimp only
      rw [it_eq_f (by omega) (by omega) (by omega) (by omega) (by omega), iz1]
      by_cases k3 : -1 ≤ u ∧ u ≤ 1
      case neg => rw [g_in_f u0 u1 (by omega) (by omega) (by omega) (by omega) k3, Option.bind_some]; exact if_pos rfl
      rw [g_in_t u0 u1 (by omega) (by omega) (by omega) (by omega) k3, Option.bind_some]
      dsimp only
      rw [it_eq_f (by omega) (by omega) (by omega) (by omega) (by omega)]
      by_cases k4 : -1 ≤ v ∧ v ≤ 1
      case neg => rw [g_in_f v0 v1 (by omega) (by omega) (by omega) (by omega) k4, Option.bind_some]; exact if_pos rfl
      rw [g_in_t v0 v1 (by omega) (by omega) (by omega) (by omega) k4, Option.bind_some]
      dsimp only
      rw [it_eq_f (by omega) (by omega) (by omega) (by omega) (by omega), mt, Option.bind_some]
      dsimp only
      rw [← iz1, sh1, iz1, iz_sub]
      by_cases k6 : 0 ≤ r ∧ r ≤ sh - 1
      case neg => rw [g_in_f r0 r1 (by omega) (by omega) (by omega) (by omega) k6, Option.bind_some]; exact if_pos rfl
      rw [g_in_t r0 r1 (by omega) (by omega) (by omega) (by omega) k6, Option.bind_some]
      dsimp only
      rw [it_eq_f (by omega) (by omega) (by omega) (by omega) (by omega), s71, iz20, it_eq_t (by omega)]
  by_cases g : (0 ≤ p ∧ p < pl) ∧ (0 ≤ t ∧ t ≤ 3) ∧ (-1 ≤ u ∧ u ≤ 1) ∧ (-1 ≤ v ∧ v ≤ 1) ∧ (0 ≤ r ∧ r ≤ sh - 1) ∧ m < 20
  · obtain ⟨k1, k2, k3, k4, k5, k6⟩ := g
    clear cls
    unfold f155
    rw [ifg_pos O_0, R_0_1, R_0_10]
    simp only [Option.bind_some]
    rw [g_plate_t h.1.1 hpl p0 p1 k1, Option.bind_some]
    dsimp only
    rw [if_neg nz1, g_turn_t t0 t1 k2, Option.bind_some]
    dsimp only
    rw [if_neg nz1, g_shift_t u0 u1 k3, Option.bind_some]
    dsimp only
    rw [if_neg nz1, g_shift_t v0 v1 k4, Option.bind_some]
    dsimp only
    rw [if_neg nz1, iz0, it_lt_f (by omega) (by omega) (by omega), ct, Option.bind_some]
    dsimp only
    rw [sh1, it_lt_t (by omega) (by omega) (by omega)]
    unfold f110
    rw [ifg_pos O_72, s8, iz20, it_lt_t (by omega) (by omega) (by omega)]
    simp (disch := omega) only [R_72_3, R_72_4, R_72_5, R_72_6, R_72_7, W_73, W_74, W_75, W_76, W_77, Option.bind_some, iz_in, iz_n, nat_toNat, if_true, up_id, s8, pI, iz1, iz_add, bind_assoc']
    have a1 : fr FSg s (xm_up (xm_up (xm_up (xm_up (xm_up (xm_up s.1 73 m (iz p)) 74 m (iz t)) 75 m (iz u)) 76 m (iz v)) 77 m (iz r)) 72 8 (iz ((m : Int) + 1)), s.2) := ((((((fr.rf _ _).ui rfl).ui rfl).ui rfl).ui rfl).ui rfl).ui rfl
    refine (cl_forget _).bind (fun q0 ⟨b1, b2, b3, b4⟩ => ?_)
    simp only [Option.bind_some, ok_some]
    have a2 : fr FSg s q0.1 := a1.tr (b1.mono (fun id k hk => by
      unfold FH7 at hk
      simp only [Bool.or_eq_true, Bool.and_eq_true, beq_iff_eq] at hk
      rcases hk with ⟨rfl, (rfl | rfl) | rfl⟩ <;> rfl))
    have hM : KM q0.1 b n pl red slip x W S st rc Rs := KM_i h.2.1 (F := fun id k => (Nat.ble 72 id && Nat.ble id 77)) (fun id k hk => ?_) h.rc10 (fun id k h1 h2 => by rw [ble_f (show 77 < id by omega), Bool.and_false])
    · have q71 : q0.1.1 101 71 = iz m := by rw [b1.i _ _ rfl]; simp (disch := omega) only [up_id]; exact s71
      have q8 : q0.1.1 72 8 = iz ((m : Int) + 1) := by rw [b1.i _ _ rfl]; dsimp only; exact up_eq _ _ _ _
      unfold f263
      rw [ifg_pos O_101, g_mplate_t hM.1 hM.2.1 hpl p0 p1 k1, Option.bind_some]
      dsimp only
      rw [if_neg nz1, iz0, iz3, g_in_t t0 t1 (by omega) (by omega) (by omega) (by omega) k2, Option.bind_some]
      dsimp only
      rw [it_eq_f (by omega) (by omega) (by omega) (by omega) (by omega), em1, iz1, g_in_t u0 u1 (by omega) (by omega) (by omega) (by omega) k3, Option.bind_some]
      dsimp only
      rw [it_eq_f (by omega) (by omega) (by omega) (by omega) (by omega), g_in_t v0 v1 (by omega) (by omega) (by omega) (by omega) k4, Option.bind_some]
      dsimp only
      rw [it_eq_f (by omega) (by omega) (by omega) (by omega) (by omega), hM.1.zc, Option.bind_some]
      dsimp only
      rw [← iz1, sh1, iz1, iz_sub, g_in_t r0 r1 (by omega) (by omega) (by omega) (by omega) k5, Option.bind_some]
      dsimp only
      rw [it_eq_f (by omega) (by omega) (by omega) (by omega) (by omega), q71, iz20, it_eq_f (by omega) (by omega) (by omega) (by omega) (by omega)]
      simp (disch := omega) only [R_101_65, R_101_66, R_101_67, R_101_68, R_101_69, W_138, W_139, W_140, W_141, W_142, Option.bind_some, iz_in, iz_n, nat_toNat, if_true, up_id, up_ix, up_eq, q71, q8, pI, iz_add, iz_sub, ok_some]
      refine ⟨trivial, Or.inr ⟨(((((a2.ui rfl).ui rfl).ui rfl).ui rfl).ui rfl).ui rfl, ?_, ?_, ?_, fun k => if k = m then (p.toNat, t.toNat, u, v, iz r) else G k, by omega, ?_, ?_, fun k hk => ?_⟩⟩
      · first | exact b2 | (simp (disch := omega) only [up_id]; exact b2)
      · first | exact b3 | (simp (disch := omega) only [up_id]; exact b3)
      · first | exact b4 | (simp (disch := omega) only [up_id]; exact b4)
      · simp (disch := omega) only [up_id]; exact q8
      · dsimp only; rw [up_eq]; rfl
      · have hb1 : ∀ id, id ≠ 72 → q0.1.1 id k = xm_up (xm_up (xm_up (xm_up (xm_up (xm_up s.1 73 m (iz p)) 74 m (iz t)) 75 m (iz u)) 76 m (iz v)) 77 m (iz r)) 72 8 (iz ((m : Int) + 1)) id k := fun id hid => b1.i _ _ (by unfold FH7; rw [show (id == 72) = false by rw [beq_eq_false_iff_ne]; exact hid]; rfl)
        dsimp only
        by_cases q : k = m
        · subst q
          simp only [if_true]
          simp (disch := omega) only [up_id, up_eq, hb1 73 (by decide), hb1 74 (by decide), hb1 75 (by decide), hb1 76 (by decide), hb1 77 (by decide)]
          have e1 : ((p.toNat : Nat) : Int) = p := by omega
          have e2 : ((t.toNat : Nat) : Int) = t := by omega
          rw [e1, e2]
          refine ⟨?_, ?_, ?_, ?_, ?_, ?_, ?_, ?_, ?_, ?_, by omega, n3, n5, by omega, k3.1, k3.2, k4.1, k4.2⟩ <;> first | trivial | rfl
        · simp only [if_neg q]
          simp (disch := omega) only [up_id, up_ix, hb1 73 (by decide), hb1 74 (by decide), hb1 75 (by decide), hb1 76 (by decide), hb1 77 (by decide)]
          have hk' : k < m := by omega
          have hq0 : ∀ id, 138 ≤ id → q0.1.1 id k = s.1 id k := fun id hid => by rw [hb1 id (by omega)]; simp (disch := omega) only [up_id]
          rw [hq0 138 (by omega), hq0 139 (by omega), hq0 140 (by omega), hq0 141 (by omega), hq0 142 (by omega)]
          exact sk k hk'
    · have hf : FH7 id k = false := by
        cases e : FH7 id k with
        | false => rfl
        | true =>
          unfold FH7 at e
          simp only [Bool.or_eq_true, Bool.and_eq_true, beq_iff_eq] at e
          obtain ⟨rfl, -⟩ := e
          exact absurd hk (by show ¬ (Nat.ble 72 72 && Nat.ble 72 77) = false; decide)
      have hid : id < 72 ∨ 77 < id := by
        by_cases e1 : 72 ≤ id
        · by_cases e2 : id ≤ 77
          · have hk2 : (Nat.ble 72 id && Nat.ble id 77) = false := hk
            rw [bleT e1, bleT e2] at hk2; exact absurd hk2 (by decide)
          · omega
        · omega
      rw [b1.i _ _ hf, b1.l _ _ hf]
      simp (disch := omega) only [up_id, and_self]
  · obtain ⟨b1, b2⟩ := cls g
    exact ok.eq b1 (ok.eq b2 ⟨rfl, Or.inl rfl⟩)
end SS
