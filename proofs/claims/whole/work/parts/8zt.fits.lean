/-! worlds that fit at the model; worlds, world -/
theorem rg_get {f : Nat → Bool} {N : Nat} (hf : f N = true) : ∀ M, N < M → ((List.range M).filter f)[((List.range N).filter f).length]? = some N
  | 0, h => absurd h (by omega)
  | M + 1, h => by
    rw [List.range_succ, fl_1]
    by_cases e : N = M
    · subst e
      rw [if_pos hf, List.getElem?_concat_length]
    · have ih := rg_get hf M (by omega)
      by_cases q : f M = true
      · rw [if_pos q, List.getElem?_append_left (lt_of_get ih)]
        exact ih
      · rw [if_neg q]
        exact ih
theorem rg_len {f : Nat → Bool} (N : Nat) : ((List.range N).filter f).length ≤ N := by
  have h := List.length_filter_le f (List.range N)
  rw [List.length_range] at h
  exact h
section MW2
variable {s : xS} {b n pl : Nat} {red slip : Int} {x : sS} {W S : Nat → Int} {st : Int32} {rc : Nat} {Rs : Nat → Rn} {m : Nat} {G : Nat → Sg}
theorem SgI_z {s' : xS} (h : SgI s pl n m G) (hf : fr Fz s s') : SgI s' pl n m G := h.fr hf rfl rfl (fun _ => ⟨rfl, rfl, rfl, rfl, rfl⟩) (fun _ => ⟨rfl, rfl, rfl, rfl, rfl⟩)
def Ffm (id k : Nat) : Bool := FD0 id k || F4w id k
theorem FD0_fm (id k : Nat) (h : FD0 id k = true) : Ffm id k = true := by unfold Ffm; rw [h]; rfl
theorem F4w_fm (id k : Nat) (h : F4w id k = true) : Ffm id k = true := by unfold Ffm; rw [h, Bool.or_true]
theorem Ffm_z (id k : Nat) (h : Ffm id k = true) : Fz id k = true := by
  unfold Ffm at h
  rw [Bool.or_eq_true] at h
  rcases h with h | h
  · exact FD0_z id k h
  · exact F4w_z id k h
theorem mo_fits (h : Core s b n pl red slip x W S st rc Rs) (hS : SgI s pl n m G) {N : Nat} (hN : N < 343) : ok (f266 101 (iz N) s) (fun r => fr Ffm s r.1 ∧ Wd r.1 n N ∧ ((r.2 = iz 1 ∧ fW n red x.1 W S G m N = true) ∨ (r.2 = iz 0 ∧ fW n red x.1 W S G m N = false))) := by
  have hm := hS.1
  have hpl := h.p4
  have hrc := h.rc10
  unfold f266
  rw [ifg_pos O_101]
  refine (mo_fill h.mn hN).bind (fun r1 ⟨a1, a2⟩ => ?_)
  have h1 := Core_scr h (a1.mono F4w_z)
  have hS1 := SgI_z hS (a1.mono F4w_z)
  rw [iz0]
  refine forz (fun i w => fr FD0 r1.1 w ∧ fW n red x.1 W S G i N = true) 0 m (by omega) (by omega) ⟨fr.rf _ _, rfl⟩ (fun i w _ hi ⟨c1, c2⟩ => ?_) (fun w ⟨c1, c2⟩ => ?_)
  · have hw := Core_scr h1 (c1.mono FD0_z)
    have hSw := SgI_z hS1 (c1.mono FD0_z)
    obtain ⟨-, -, -, -, -, g1, g2, g3, g4, g5, gp, gL⟩ := hSw.2.2.2 i hi
    dsimp only
    unfold f266_7
    rw [hSw.2.2.1, it_le_f (by omega) (by omega) (by omega)]
    simp (disch := omega) only [R_101_65, R_101_66, R_101_67, R_101_68, R_101_69, Option.bind_some, A_138, A_139, A_140, A_141, iz_in, iz_n, nat_toNat, if_true, g1, g2, g3, g4]
    refine (mo_wreds hw.2.1 h.2.2 gp gL hN (a2.fr c1 (fun _ => rfl))).bind (fun r2 ⟨d1, d2⟩ => ?_)
    have e5 : r2.1.1 142 i = (G i).2.2.2.2 := by rw [d1.i _ _ rfl]; exact g5
    simp (disch := omega) only [Option.bind_some, A_142, iz_in, iz_n, nat_toNat, if_true, e5]
    by_cases q : gB n red x.1 W S (G i) N = (G i).2.2.2.2
    · rw [if_pos (d2.trans q), ok_some, lp_l, iz1, iz_add]
      refine ⟨rfl, c1.tr d1, ?_⟩
      rw [fW, c2, Bool.true_and, decide_eq_true_eq]
      exact q
    · rw [if_neg (fun e => q (d2.symm.trans e)), ok_map, ok_some, lp_r]
      refine ⟨(a1.mono F4w_fm).tr ((c1.tr d1).mono FD0_fm), (a2.fr c1 (fun _ => rfl)).fr d1 (fun _ => rfl), Or.inr ⟨iz0, ?_⟩⟩
      have e : fW n red x.1 W S G (i + 1) N = false := by
        rw [fW, c2, Bool.true_and, decide_eq_false_iff_not]
        exact q
      have := fW_no e (m - (i + 1))
      rw [show i + 1 + (m - (i + 1)) = m by omega] at this
      exact this
  · have hSw := SgI_z hS1 (c1.mono FD0_z)
    dsimp only
    unfold f266_7
    rw [hSw.2.2.1, it_le_t (by omega) (by omega) (by omega), ok_map, ok_some, lp_r]
    exact ⟨(a1.mono F4w_fm).tr (c1.mono FD0_fm), a2.fr c1 (fun _ => rfl), Or.inl ⟨iz1, c2⟩⟩
theorem mo_spent (h : Core s b n pl red slip x W S st rc Rs) : f267 101 s = some (s, if n = 5 then iz 1 else iz 0) := by
  have n3 := h.cn.2.1
  have n5 := h.cn.2.2
  unfold f267 f267_13
  rw [ifg_pos O_101, h.mn.zn]
  simp only [Option.bind_some]
  by_cases q : n = 5
  · rw [iz5, it_eq_t (by omega), if_pos q, ifg_pos (Or.inr trivial), iz1]
  · rw [iz5, it_eq_f (by omega) (by omega) (by omega) (by omega) (by omega), if_neg q, ifg_pos (Or.inl trivial), iz0]
theorem cl_spent (h : Core s b n pl red slip x W S st rc Rs) : f107 72 s = some (s, if n = 5 then iz 1 else iz 0) := by
  have n3 := h.cn.2.1
  have n5 := h.cn.2.2
  unfold f107 f107_16
  rw [ifg_pos O_72, R_72_0]
  simp only [Option.bind_some]
  rw [h.cn.1]
  by_cases q : n = 5
  · rw [iz5, it_eq_t (by omega), if_pos q, ifg_pos (Or.inr trivial), iz1]
  · rw [iz5, it_eq_f (by omega) (by omega) (by omega) (by omega) (by omega), if_neg q, ifg_pos (Or.inl trivial), iz0]
theorem mo_worlds (h : Core s b n pl red slip x W S st rc Rs) (hS : SgI s pl n m G) (hn : n ≠ 5) : ok (f268 101 s) (fun r => fr Fz s r.1 ∧ r.2 = iz (fLs n red x.1 W S G m).length) := by
  unfold f268
  rw [ifg_pos O_101, mo_spent h, if_neg hn]
  simp only [Option.bind_some]
  rw [iz0, it_eq_t rfl]
  refine forzA (A := Int32) (fun N v w => fr Fz s w ∧ v = iz (((List.range N).filter (fW n red x.1 W S G m)).length : Nat)) 0 343 (by omega) (by omega) ⟨fr.rf _ _, rfl⟩ (fun N v w _ hN ⟨c1, c2⟩ => ?_) (fun v w ⟨c1, c2⟩ => ?_)
  · dsimp only
    unfold f268_14 f268_35
    rw [iz343, it_le_f (by omega) (by omega) (by omega)]
    refine (mo_fits (Core_scr h c1) (SgI_z hS c1) hN).bind (fun r ⟨d0, _, d3⟩ => ?_)
    have d1 := d0.mono Ffm_z
    rw [List.range_succ, fl_1]
    rcases d3 with ⟨d3, d4⟩ | ⟨d3, d4⟩
    · rw [d3, iz0, it_eq_f (by omega) (by omega) (by omega) (by omega) (by omega), if_pos d4, ok_some, lpA_l, iz1, iz_add, c2, iz_add, List.length_append]
      exact ⟨rfl, c1.tr d1, rfl⟩
    · rw [d3, iz0, it_eq_t rfl, if_neg (by rw [d4]; decide), ok_some, lpA_l, iz1, iz_add, c2, iz_add, Int.add_zero]
      exact ⟨rfl, c1.tr d1, rfl⟩
  · dsimp only
    unfold f268_14
    rw [iz343, show ((343 : Nat) : Int) = 343 from rfl, it_le_t (by omega) (by omega) (by omega), ok_map, ok_some, lpA_r]
    exact ⟨c1, c2⟩
/-- the answer of world -/
noncomputable def wAt (L : List Nat) (i : Nat) : Int32 := match L[i]? with | some N => iz (N : Nat) | none => iz (-1)
theorem wAt_s {L : List Nat} {i N : Nat} (h : L[i]? = some N) : wAt L i = iz (N : Nat) := by unfold wAt; rw [h]
theorem wAt_n {L : List Nat} {i : Nat} (h : L.length ≤ i) : wAt L i = iz (-1) := by unfold wAt; rw [List.getElem?_eq_none h]
theorem mo_world (h : Core s b n pl red slip x W S st rc Rs) (hS : SgI s pl n m G) (hn : n ≠ 5) {i : Nat} (hi : i ≤ 2147483647) : ok (f269 101 (iz i) s) (fun r => fr Fz s r.1 ∧ r.2 = wAt (fLs n red x.1 W S G m) i) := by
  unfold f269
  rw [ifg_pos O_101, mo_spent h, if_neg hn]
  simp only [Option.bind_some]
  rw [iz0, it_eq_t rfl, it_le_t (by omega) (by omega) (by omega)]
  refine forzA (A := Int32) (fun N v w => fr Fz s w ∧ ∃ d : Nat, v = iz d ∧ d + ((List.range N).filter (fW n red x.1 W S G m)).length = i) 0 343 (by omega) (by omega) ⟨fr.rf _ _, i, rfl, rfl⟩ (fun N v w _ hN ⟨c1, d, c2, c3⟩ => ?_) (fun v w ⟨c1, d, c2, c3⟩ => ?_)
  · dsimp only
    unfold f269_17 f269_44
    rw [iz343, it_le_f (by omega) (by omega) (by omega)]
    refine (mo_fits (Core_scr h c1) (SgI_z hS c1) hN).bind (fun r ⟨d0, _, d3⟩ => ?_)
    have d1 := d0.mono Ffm_z
    rw [List.range_succ, fl_1]
    rcases d3 with ⟨d3, d4⟩ | ⟨d3, d4⟩
    · rw [d3, iz0, it_eq_f (by omega) (by omega) (by omega) (by omega) (by omega), if_pos d4, c2]
      by_cases q : d = 0
      · subst q
        rw [it_eq_t (show ((0 : Nat) : Int) = 0 from rfl), ok_map, ok_some, lpA_r]
        refine ⟨c1.tr d1, (wAt_s ?_).symm⟩
        rw [← c3, Nat.zero_add]
        exact rg_get d4 343 hN
      · rw [it_eq_f (by omega) (by omega) (by omega) (by omega) (by omega), ok_some, lpA_l, iz1, iz_add, iz_neg, iz_add, List.length_append]
        refine ⟨rfl, c1.tr d1, d - 1, ?_, ?_⟩
        · congr 1; omega
        · simp only [List.length_cons, List.length_nil]; omega
    · rw [d3, iz0, it_eq_t rfl, if_neg (by rw [d4]; decide), ok_some, lpA_l, iz1, iz_add]
      exact ⟨rfl, c1.tr d1, d, c2, c3⟩
  · dsimp only
    unfold f269_17
    rw [iz343, show ((343 : Nat) : Int) = 343 from rfl, it_le_t (by omega) (by omega) (by omega), ok_map, ok_some, lpA_r]
    refine ⟨c1, ?_⟩
    rw [wAt_n (by unfold fLs; omega)]
    exact izm1
end MW2
