/-! where the cells of a plate that is laid on another one come: both sides -/
def ro (n : Int) : Nat → Int × Int → Int × Int
  | 0, p => p
  | t + 1, p => ro n t (n - 1 - p.2, p.1)
def sp (n t : Nat) (u v : Int) (c : Nat) : Int :=
  if 0 ≤ (ro n t (n - 1 - mx n c, my n c)).1 + u ∧ (ro n t (n - 1 - mx n c, my n c)).1 + u < n ∧ 0 ≤ (ro n t (n - 1 - mx n c, my n c)).2 + v ∧ (ro n t (n - 1 - mx n c, my n c)).2 + v < n then n * ((ro n t (n - 1 - mx n c, my n c)).2 + v) + ((ro n t (n - 1 - mx n c, my n c)).1 + u) else -1
/-- the cell of the upper plate over cell c of the lower one -/
def ov (n t : Nat) (u v : Int) (c : Nat) : Nat := (List.range (n * n)).find? (fun e => sp n t u v e == (c : Int)) |>.getD 0
def spOK (n t : Nat) (u v : Int) : Bool := (List.range (n * n)).all fun c => (dR n u v c == decide (sp n t u v (ov n t u v c) = (c : Int))) && decide (ov n t u v c < n * n) && decide (-1 ≤ sp n t u v c) && decide (sp n t u v c < n * n) && (decide (sp n t u v c = -1) || (dR n u v (sp n t u v c).toNat && decide (ov n t u v (sp n t u v c).toNat = c)))
set_option maxRecDepth 100000 in
theorem sp_all : ∀ n, n < 6 → 3 ≤ n → ∀ t, t < 4 → ∀ u, u < 3 → ∀ v, v < 3 → spOK n t ((u : Nat) - 1 : Int) ((v : Nat) - 1 : Int) = true := by decide +kernel
/-- a laying that can be -/
def Ly (n t : Nat) (u v : Int) : Prop := 3 ≤ n ∧ n ≤ 5 ∧ t ≤ 3 ∧ -1 ≤ u ∧ u ≤ 1 ∧ -1 ≤ v ∧ v ≤ 1
section LY
variable {n t : Nat} {u v : Int}
theorem Ly.sq (h : Ly n t u v) : n * n ≤ 25 := mul_le_nat h.2.1 h.2.1
theorem Ly.all (h : Ly n t u v) {c : Nat} (hc : c < n * n) : (dR n u v c = true ↔ sp n t u v (ov n t u v c) = (c : Int)) ∧ ov n t u v c < n * n ∧ -1 ≤ sp n t u v c ∧ sp n t u v c < n * n ∧ (sp n t u v c = -1 ∨ (dR n u v (sp n t u v c).toNat = true ∧ ov n t u v (sp n t u v c).toNat = c)) := by
  obtain ⟨h1, h2, h3, h4, h5, h6, h7⟩ := h
  have h := sp_all n (by omega) h1 t (by omega) (u + 1).toNat (by omega) (v + 1).toNat (by omega)
  rw [show (((u + 1).toNat : Nat) : Int) - 1 = u by omega, show (((v + 1).toNat : Nat) : Int) - 1 = v by omega] at h
  unfold spOK at h
  rw [List.all_eq_true] at h
  have h8 := h c (List.mem_range.mpr hc)
  simp only [Bool.and_eq_true, Bool.or_eq_true, decide_eq_true_eq, beq_iff_eq] at h8
  obtain ⟨⟨⟨⟨h9, h10⟩, h11⟩, h12⟩, h13⟩ := h8
  refine ⟨?_, h10, h11, h12, h13⟩
  rw [h9, decide_eq_true_eq]
theorem Ly.RC (h : Ly n t u v) : RCb n (dR n u v) = true := RC_at h.1 h.2.1 h.2.2.2.1 h.2.2.2.2.1 h.2.2.2.2.2.1 h.2.2.2.2.2.2
end LY
theorem mx_lt {n c : Nat} (h : 0 < n) : 0 ≤ mx n c ∧ mx n c < n := by
  have := Nat.mod_lt c h
  unfold mx
  generalize c % n = q at *
  omega
theorem my_lt {n c : Nat} (h : c < n * n) : 0 ≤ my n c ∧ my n c < n := by
  have : c / n < n := Nat.div_lt_of_lt_mul h
  unfold my
  generalize c / n = q at *
  omega
/-- the class's size -/
def Cn (s : xS) (n : Nat) : Prop := s.1 3 3 = iz n ∧ 3 ≤ n ∧ n ≤ 5
theorem Cn.sq {s : xS} {n : Nat} (h : Cn s n) : n * n ≤ 25 := mul_le_nat h.2.2 h.2.2
theorem Cn.cells {s : xS} {n : Nat} (h : Cn s n) : f68 3 s = some (s, iz (n * n : Nat)) := by
  unfold f68
  rw [ifg_pos O_3, h.1, iz_mul]
  rfl
theorem Cn.fr {F : Nat → Nat → Bool} {s s' : xS} {n : Nat} (h : Cn s n) (hf : fr F s s') (h1 : F 3 3 = false) : Cn s' n := ⟨by rw [hf.i 3 3 h1]; exact h.1, h.2⟩
theorem cl_spot {s : xS} {n : Nat} (hn : Cn s n) {c t : Nat} {u v : Int} (hL : Ly n t u v) (hc : c < n * n) : f28 39 (iz c) (iz t) (iz u) (iz v) s = some (s, iz (sp n t u v c)) := by
  obtain ⟨h3, n3, n5⟩ := hn
  obtain ⟨-, -, t3, u0, u1, v0, v1⟩ := hL
  have sq : n * n ≤ 25 := mul_le_nat n5 n5
  have hx := mx_lt (n := n) (c := c) (by omega)
  have hy := my_lt hc
  unfold f28
  rw [ifg_pos O_39]
  simp only [R_39_0, Option.bind_some, h3]
  rw [nz (by omega) (by omega) (by omega), nz (by omega) (by omega) (by omega), iz_remN (by omega) (by omega) (by omega), iz_divN (by omega) (by omega) (by omega)]
  simp only [iz0, iz1, iz_sub]
  have hw := whl_rule (body := fun q : (Int32 × Int32 × Int32 × xS) => f28_39 39 (iz t) (iz u) (iz v) (iz (n - 1)) q.1 q.2.1 q.2.2.1 q.2.2.2) (fun q => ∃ (x y : Int) (k : Nat), q = (iz x, iz y, iz k, s) ∧ k ≤ t ∧ 0 ≤ x ∧ x < n ∧ 0 ≤ y ∧ y < n ∧ ro n (t - k) (x, y) = ro n t (n - 1 - mx n c, my n c)) (fun q => t - q.2.2.1.toInt.toNat) (fun r => r = (s, iz (sp n t u v c))) ?_ _ ⟨n - 1 - mx n c, my n c, 0, rfl, by omega, by omega, by omega, by omega, by omega, rfl⟩
  · obtain ⟨r, e1, e2⟩ := hw
    exact e1.trans (by rw [e2])
  · rintro q ⟨x, y, k, rfl, k1, x0, x1, y0, y1, hr⟩
    dsimp only
    unfold f28_39
    by_cases hk : k = t
    · right
      subst hk
      rw [Nat.sub_self, ro] at hr
      rw [it_le_t (by omega) (by omega) (by omega)]
      refine ⟨_, ?_, rfl⟩
      unfold sp
      rw [← hr]
      dsimp only
      unfold f28_107 f28_108 f28_132
      simp only [iz0, iz1, iz_neg, iz_add]
      by_cases hin : 0 ≤ x + u ∧ x + u < n ∧ 0 ≤ y + v ∧ y + v < n
      · rw [if_pos hin]
        obtain ⟨i1, i2, i3, i4⟩ := hin
        simp (disch := omega) only [it_lt_f, it_eq_f, R_39_0, Option.bind_some, h3, iz_mul, iz_add, Option.map_some]
      · rw [if_neg hin]
        by_cases a1 : x + u < 0
        · simp (disch := omega) only [it_lt_t, it_eq_t, if_true, Option.map_some]
        · by_cases a2 : n - 1 < x + u
          · simp (disch := omega) only [it_lt_t, it_lt_f, it_eq_t, if_true, Option.map_some]
          · by_cases a3 : y + v < 0
            · simp (disch := omega) only [it_lt_t, it_lt_f, it_eq_t, if_true, Option.map_some]
            · simp (disch := omega) only [it_lt_t, it_lt_f, it_eq_t, if_true, Option.map_some]
    · left
      rw [it_le_f (by omega) (by omega) (by omega)]
      simp only [iz1, iz_add, iz_sub]
      have e : t - k = (t - (k + 1)) + 1 := by omega
      rw [e, ro] at hr
      refine ⟨_, rfl, ⟨n - 1 - y, x, k + 1, rfl, by omega, by omega, by omega, x0, x1, hr⟩, ?_⟩
      dsimp only
      rw [iz_t (by omega) (by omega), iz_t (by omega) (by omega)]
      omega
/-- the model's size -/
theorem Mn.z {s : xS} {b : Nat} {N : Int32} {n : Nat} (h : Mn s b N n) : N = iz n := iz_of h.2.2.2.1
theorem Mn.zn {s : xS} {b : Nat} {N : Int32} {n : Nat} (h : Mn s b N n) : f196 101 s = some (s, iz n) := by rw [h.n, h.z]
theorem Mn.zc {s : xS} {b : Nat} {N : Int32} {n : Nat} (h : Mn s b N n) : f197 101 s = some (s, iz (n * n : Nat)) := by rw [h.cells, h.z, iz_mul]; rfl
theorem isIn_eq (a l h : Int32) (s : xS) : f195 a l h s = some (s, if a < l then 0 else if h < a then 0 else 1) := by
  unfold f195 f195_14 f195_15
  by_cases h1 : a < l
  · rw [if_pos h1, if_pos h1]; rfl
  · rw [if_neg h1, if_neg h1]
    by_cases h2 : h < a
    · rw [if_pos h2, if_pos h2]; rfl
    · rw [if_neg h2, if_neg h2]; rfl
theorem mo_spot {s : xS} {b : Nat} {N : Int32} {n : Nat} (hn : Mn s b N n) {c t : Nat} {u v : Int} (hL : Ly n t u v) (hc : c < n * n) : f205 101 (iz c) (iz t) (iz u) (iz v) s = some (s, iz (sp n t u v c)) := by
  obtain ⟨n3, n5, t3, u0, u1, v0, v1⟩ := hL
  have sq : n * n ≤ 25 := mul_le_nat n5 n5
  have hx := mx_lt (n := n) (c := c) (by omega)
  have hy := my_lt hc
  unfold f205
  rw [ifg_pos O_101]
  simp only [hn.zn, Option.bind_some]
  rw [nz (by omega) (by omega) (by omega), nz (by omega) (by omega) (by omega), iz_remN (by omega) (by omega) (by omega), iz_divN (by omega) (by omega) (by omega)]
  simp only [iz0, iz1, iz_sub]
  have hw := whl_rule (body := fun q : (Int32 × Int32 × Int32 × xS) => f205_26 101 (iz t) (iz u) (iz v) q.1 q.2.1 q.2.2.1 q.2.2.2) (fun q => ∃ (x y : Int) (k : Nat), q = (iz x, iz y, iz k, s) ∧ k ≤ t ∧ 0 ≤ x ∧ x < n ∧ 0 ≤ y ∧ y < n ∧ ro n (t - k) (x, y) = ro n t (n - 1 - mx n c, my n c)) (fun q => t - q.2.2.1.toInt.toNat) (fun r => r = (s, iz (sp n t u v c))) ?_ _ ⟨n - 1 - mx n c, my n c, 0, rfl, by omega, by omega, by omega, by omega, by omega, rfl⟩
  · obtain ⟨r, e1, e2⟩ := hw
    exact e1.trans (by rw [e2])
  · rintro q ⟨x, y, k, rfl, k1, x0, x1, y0, y1, hr⟩
    dsimp only
    unfold f205_26
    by_cases hk : k = t
    · right
      subst hk
      rw [Nat.sub_self, ro] at hr
      rw [it_le_t (by omega) (by omega) (by omega)]
      refine ⟨_, ?_, rfl⟩
      unfold sp
      rw [← hr]
      dsimp only
      unfold f205_113 f205_114
      simp only [isIn_eq, hn.zn, Option.bind_some, iz0, iz1, iz_neg, iz_add, iz_sub]
      by_cases hin : 0 ≤ x + u ∧ x + u < n ∧ 0 ≤ y + v ∧ y + v < n
      · rw [if_pos hin]
        obtain ⟨i1, i2, i3, i4⟩ := hin
        simp (disch := omega) only [it_lt_f, it_eq_f, iz_mul, iz_add, Option.map_some]
      · rw [if_neg hin]
        by_cases a1 : x + u < 0
        · simp (disch := omega) only [it_lt_t, it_eq_t, if_true, Option.map_some]
        · by_cases a2 : n - 1 < x + u
          · simp (disch := omega) only [it_lt_t, it_lt_f, it_eq_t, if_true, Option.map_some]
          · by_cases a3 : y + v < 0
            · simp (disch := omega) only [it_lt_t, it_lt_f, it_eq_t, it_eq_f, if_true, Option.map_some]
            · simp (disch := omega) only [it_lt_t, it_lt_f, it_eq_t, it_eq_f, if_true, Option.map_some]
    · left
      rw [it_le_f (by omega) (by omega) (by omega)]
      simp only [hn.zn, Option.bind_some, iz1, iz_add, iz_sub]
      have e : t - k = (t - (k + 1)) + 1 := by omega
      rw [e, ro] at hr
      refine ⟨_, rfl, ⟨n - 1 - y, x, k + 1, rfl, by omega, by omega, by omega, x0, x1, hr⟩, ?_⟩
      dsimp only
      rw [iz_t (by omega) (by omega), iz_t (by omega) (by omega)]
      omega
