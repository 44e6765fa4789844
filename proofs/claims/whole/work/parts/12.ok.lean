def pg_ck0 (cn : Nat) (q : xI) : Bool := match q.1 with
  | .ldc i => pg_CI.any (fun e => e.2 == (cn, i, q.2.1))
  | .ldc_w i => pg_CI.any (fun e => e.2 == (cn, i, q.2.1))
  | .ldc2_w i => pg_CJ.any (fun e => e.2 == (cn, i, q.2.1))
  | _ => true
def pg_ck1 (cn : Nat) (ini : Bool) (q : xI) : Bool := match q.1 with
  | .getfield i => pg_FL.any (fun e => e.2 == (cn, i, q.2.1, q.2.2)) && decide (q.2.1 < 13) && decide (q.2.2 < (pg_r q.2.1).2.2)
  | .putfield i => pg_FL.any (fun e => e.2 == (cn, i, q.2.1, q.2.2)) && decide (q.2.1 < 13) && decide (q.2.2 < (pg_r q.2.1).2.2) && (!((pg_r q.2.1).2.1 q.2.2).2.2.2 || (ini && decide (((pg_r q.2.1).2.1 q.2.2).1 = pg_own cn)))
  | _ => true
def pg_ck2 (pc : Nat) (q : xI) : Bool := match q.1 with
  | .goto o => decide ((pc : Int) + o = (q.2.1 : Int))
  | .ifCond _ o => decide ((pc : Int) + o = (q.2.1 : Int))
  | .if_icmp _ o => decide ((pc : Int) + o = (q.2.1 : Int))
  | _ => true
def pg_isT : Instr → Bool
  | .tableswitch _ _ _ _ => true
  | _ => false
def pg_ck4 (cn : Nat) (q : xI) : Bool := match q.1 with
  | .new i => pg_CK.any (fun e => e.2 == (cn, i, q.2.1)) && decide (q.2.1 < 13) && decide ((pg_r q.2.1).2.2 = q.2.2)
  | .newarray t => decide (newarray.typeOf t = xm_ty q.2.1) && decide (20 ≤ q.2.1) && decide (q.2.1 < 24)
  | .anewarray i => (q.2.1 == 24 && pg_CK.any (fun e => e.2 == (cn, i, 0))) || (q.2.1 == 25 && pg_CK.any (fun e => e.2 == (cn, i, 6)))
  | _ => false
def pg_ck5 (cn : Nat) (q : xI) : Bool := match q.1 with
  | .invokespecial i => (q.2.1 == 1000 && pg_OI.any (fun e => e.2 == (cn, i))) || (q.2.1 != 1000 && q.2.1 != 1001 && decide (0 < q.2.1) && decide (q.2.1 < 287) && (pg_ML.any (fun e => e.2 == (cn, i, q.2.1)) || pg_MN.any (fun e => e.2 == (cn, i, q.2.1))) && (pg_k.getD q.2.1 (9, 0) == (2, q.2.2)))
  | .invokevirtual i => q.2.1 != 1000 && q.2.1 != 1001 && decide (0 < q.2.1) && decide (q.2.1 < 287) && (pg_ML.any (fun e => e.2 == (cn, i, q.2.1)) || pg_MN.any (fun e => e.2 == (cn, i, q.2.1))) && (pg_k.getD q.2.1 (9, 0) == (1, q.2.2))
  | .invokestatic i => (q.2.1 == 1001 && pg_AC.any (fun e => e.2 == (cn, i))) || (q.2.1 == 1002 && pg_M2.any (fun e => e.2 == (cn, i))) || (q.2.1 == 1003 && pg_M3.any (fun e => e.2 == (cn, i))) || (q.2.1 == 1004 && pg_M4.any (fun e => e.2 == (cn, i))) || (q.2.1 != 1000 && q.2.1 != 1001 && decide (0 < q.2.1) && decide (q.2.1 < 287) && (pg_ML.any (fun e => e.2 == (cn, i, q.2.1)) || pg_MN.any (fun e => e.2 == (cn, i, q.2.1))) && (pg_k.getD q.2.1 (9, 0) == (0, q.2.2)))
  | _ => false
def pg_ck (cn : Nat) (ini : Bool) (cd : ByteArray) (pc : Nat) (q : xI) : Bool := match xm_kd q.1 with
  | 0 => decide (decode cd pc = .ok (q.1, xm_len q.1)) && pg_ck0 cn q
  | 1 => decide (decode cd pc = .ok (q.1, xm_len q.1)) && pg_ck1 cn ini q
  | 2 => (match decode cd pc with
    | .ok (i, len) => decide (i = q.1) && (decide (len = 3) || pg_isT q.1) && pg_ck2 pc q
    | _ => false)
  | 3 => decide (decode cd pc = .ok (q.1, 1))
  | 4 => decide (decode cd pc = .ok (q.1, xm_len q.1)) && pg_ck4 cn q
  | _ => decide (decode cd pc = .ok (q.1, 3)) && pg_ck5 cn q
def pg_bck (cn : Nat) (ini : Bool) (cd : ByteArray) : Nat → List xI → Bool
  | _, [] => true
  | pc, q :: is => pg_ck cn ini cd pc q && pg_bck cn ini cd (pc + xm_len q.1) is
/-- what is said of each method but its blocks -/
def pg_mfb (n : Nat) : Bool := pg_CD.any (fun e => e.2 == n) && pg_IN.any (fun e => decide (pg_own e.2 = (pg_md n).1.cls)) && decide ((pg_md n).1.cls ≠ "java/lang/invoke/MethodHandle") && decide ((pg_md n).1.cls ≠ "java/lang/invoke/VarHandle") && decide ((pg_md n).2.2.1 ≤ 20) && plainName (pg_md n).1.cls &&
  (match pg_k.getD n (9, 0) with
   | (0, k) => pg_SM.any (fun e => e.2 == n) && decide ((parseMethodDescriptor (pg_md n).1.desc).map (fun d => d.parameters.length) = some k) && decide ((pg_md n).2.2.2.2 = 99)
   | (1, k) => pg_IM.any (fun e => e.2 == n) && pg_SL.any (fun e => e.2 == n) && decide ((parseMethodDescriptor (pg_md n).1.desc).map (fun d => d.parameters.length + 1) = some k) && decide ((pg_md n).2.2.2.2 < 13) && decide ((pg_r (pg_md n).2.2.2.2).1 = (pg_md n).1.cls)
   | (2, k) => pg_IM.any (fun e => e.2 == n) && decide ((pg_md n).1.name = "<init>") && decide ((pg_md n).2.2.2.1 = none) && decide ((parseMethodDescriptor (pg_md n).1.desc).map (fun d => d.parameters.length + 1) = some k) && decide ((pg_md n).2.2.2.2 < 13) && decide ((pg_r (pg_md n).2.2.2.2).1 = (pg_md n).1.cls)
   | _ => false)
theorem pg_mf : (List.range 287).all (fun n => n == 0 || pg_mfb n) = true := by decide +kernel
theorem pg_cl_len : pg_cl.length = 13 := rfl
theorem pg_m_len : pg_m.length = 287 := by decide +kernel
theorem pg_cl_at {c : Nat} {r : vw_C} (h : pg_cl[c]? = some r) : c < 13 ∧ r = pg_r c := by
  have h1 : c < pg_cl.length := (List.getElem?_eq_some_iff.mp h).1
  refine ⟨h1, ?_⟩
  unfold pg_r
  rw [List.getD_eq_getElem?_getD, h]
  rfl
theorem pg_cl_r {c : Nat} (h : c < 13) : pg_cl[c]? = some (pg_r c) := by
  have h1 : c < pg_cl.length := h
  unfold pg_r
  rw [List.getD_eq_getElem?_getD, List.getElem?_eq_getElem h1]
  rfl
theorem pg_mt_at {n : Nat} {md : xM} (h : pg_mt n = some md) : n < 287 ∧ md = pg_md n := by
  have h1 : n < pg_m.length := (List.getElem?_eq_some_iff.mp h).1
  refine ⟨pg_m_len ▸ h1, ?_⟩
  unfold pg_md
  rw [List.getD_eq_getElem?_getD, show pg_m[n]? = some md from h]
  rfl
theorem pg_mt_md {n : Nat} (h : n < 287) : pg_mt n = some (pg_md n) := by
  have h1 : n < pg_m.length := by rw [pg_m_len]; exact h
  show pg_m[n]? = _
  unfold pg_md
  rw [List.getD_eq_getElem?_getD, List.getElem?_eq_getElem h1]
  rfl
theorem pg_any {α : Type} {L : List α} {f : α → Bool} (h : L.any f = true) : ∃ x ∈ L, f x = true := List.any_eq_true.mp h
theorem pg_FL_ok {cn i ci k : Nat} (h : pg_FL.any (fun e => e.2 == (cn, i, ci, k)) = true) : Cond.fieldLink (pg_own cn) i ((pg_r ci).2.1 k).1 ((pg_r ci).2.1 k).2.1 ((pg_r ci).2.1 k).2.2.1 ∈ pg_Tb := by
  obtain ⟨e, h1, h2⟩ := pg_any h
  have h3 : e.2 = (cn, i, ci, k) := by simpa using h2
  have h4 := pg_walk_ok _ _ _ pg_FL_w (e.1, pg_fc e) (List.mem_map.mpr ⟨e, h1, rfl⟩)
  unfold pg_fc at h4
  rw [h3] at h4
  exact pg_tb h4 rfl
theorem pg_CI_ok {cn i a : Nat} (h : pg_CI.any (fun e => e.2 == (cn, i, a)) = true) : Cond.constant (pg_own cn) i (Int32.ofNat a) ∈ pg_Tb := by
  obtain ⟨e, h1, h2⟩ := pg_any h
  have h3 : e.2 = (cn, i, a) := by simpa using h2
  have h4 := pg_walk_ok _ _ _ pg_CI_w _ (List.mem_map.mpr ⟨e, h1, rfl⟩)
  dsimp only at h4
  rw [h3] at h4
  exact pg_tb h4 rfl
theorem pg_CJ_ok {cn i a : Nat} (h : pg_CJ.any (fun e => e.2 == (cn, i, a)) = true) : Cond.constantLong (pg_own cn) i (Int64.ofNat a) ∈ pg_Tb := by
  obtain ⟨e, h1, h2⟩ := pg_any h
  have h3 : e.2 = (cn, i, a) := by simpa using h2
  have h4 := pg_walk_ok _ _ _ pg_CJ_w _ (List.mem_map.mpr ⟨e, h1, rfl⟩)
  dsimp only at h4
  rw [h3] at h4
  exact pg_tb h4 rfl
theorem pg_CK_ok {cn i a : Nat} (h : pg_CK.any (fun e => e.2 == (cn, i, a)) = true) : Cond.classLink (pg_own cn) i (pg_own a) ∈ pg_Tb := by
  obtain ⟨e, h1, h2⟩ := pg_any h
  have h3 : e.2 = (cn, i, a) := by simpa using h2
  have h4 := pg_walk_ok _ _ _ pg_CK_w _ (List.mem_map.mpr ⟨e, h1, rfl⟩)
  dsimp only at h4
  rw [h3] at h4
  exact pg_tb h4 rfl
theorem pg_OI_ok {cn i : Nat} (h : pg_OI.any (fun e => e.2 == (cn, i)) = true) : Cond.methodLink (pg_own cn) i Lib.objectInit ∈ pg_Tb := by
  obtain ⟨e, h1, h2⟩ := pg_any h
  have h3 : e.2 = (cn, i) := by simpa using h2
  have h4 := pg_walk_ok _ _ _ pg_OI_w _ (List.mem_map.mpr ⟨e, h1, rfl⟩)
  dsimp only at h4
  rw [h3] at h4
  exact pg_tb h4 rfl
theorem pg_AC_ok {cn i : Nat} (h : pg_AC.any (fun e => e.2 == (cn, i)) = true) : Cond.methodLink (pg_own cn) i arraycopyName ∈ pg_Tb := by
  obtain ⟨e, h1, h2⟩ := pg_any h
  have h3 : e.2 = (cn, i) := by simpa using h2
  have h4 := pg_walk_ok _ _ _ pg_AC_w _ (List.mem_map.mpr ⟨e, h1, rfl⟩)
  dsimp only at h4
  rw [h3] at h4
  exact pg_tb h4 rfl
theorem pg_lnk_ok {cn i n : Nat} (h : (pg_ML.any (fun e => e.2 == (cn, i, n)) || pg_MN.any (fun e => e.2 == (cn, i, n))) = true) : xm_lnk pg_Tb pg_Tx (pg_own cn) i (pg_md n).1 := by
  rcases (Bool.or_eq_true _ _).mp h with h | h
  · obtain ⟨e, h1, h2⟩ := pg_any h
    have h3 : e.2 = (cn, i, n) := by simpa using h2
    have h4 := pg_walk_ok _ _ _ pg_ML_w _ (List.mem_map.mpr ⟨e, h1, rfl⟩)
    dsimp only at h4
    rw [h3] at h4
    exact Or.inl (pg_tb h4 rfl)
  · obtain ⟨e, h1, h2⟩ := pg_any h
    have h3 : e.2 = (cn, i, n) := by simpa using h2
    have h4 := pg_walk_ok _ _ _ pg_MN_w _ (List.mem_map.mpr ⟨e, h1, rfl⟩)
    dsimp only at h4
    rw [h3] at h4
    exact Or.inr ⟨_, List.mem_filter.mpr ⟨h4, rfl⟩⟩
theorem pg_X_ok {w : Cond} (h : w ∈ pg_X.map (fun e => e.2)) (hg : goodWord w = true) : w ∈ pg_Tb := by
  obtain ⟨e, h1, rfl⟩ := List.mem_map.mp h
  exact pg_tb (pg_walk_ok _ _ _ pg_X_w e h1) hg
theorem pg_Z_ok {md : xM} (h : md ∈ pg_Z.map (fun e => e.2)) : Cond.code md.1 md.2.1 md.2.2.1 md.2.2.2.1 ∈ pg_Tb := by
  obtain ⟨e, h1, rfl⟩ := List.mem_map.mp h
  exact pg_tb (pg_walkC_ok _ _ _ pg_Z_w e h1) rfl
theorem pg_M2_ok {cn i : Nat} (h : pg_M2.any (fun e => e.2 == (cn, i)) = true) : Cond.methodLink (pg_own cn) i Lib.Math.min.name ∈ pg_Tb := by
  obtain ⟨e, h1, h2⟩ := pg_any h
  have h3 : e.2 = (cn, i) := by simpa using h2
  have h4 := pg_walk_ok _ _ _ pg_M2_w _ (List.mem_map.mpr ⟨e, h1, rfl⟩)
  dsimp only at h4
  rw [h3] at h4
  exact pg_tb h4 rfl
theorem pg_M3_ok {cn i : Nat} (h : pg_M3.any (fun e => e.2 == (cn, i)) = true) : Cond.methodLink (pg_own cn) i Lib.Math.max.name ∈ pg_Tb := by
  obtain ⟨e, h1, h2⟩ := pg_any h
  have h3 : e.2 = (cn, i) := by simpa using h2
  have h4 := pg_walk_ok _ _ _ pg_M3_w _ (List.mem_map.mpr ⟨e, h1, rfl⟩)
  dsimp only at h4
  rw [h3] at h4
  exact pg_tb h4 rfl
theorem pg_M4_ok {cn i : Nat} (h : pg_M4.any (fun e => e.2 == (cn, i)) = true) : Cond.methodLink (pg_own cn) i Lib.MathLoose.abs_long.x ∈ pg_Tb := by
  obtain ⟨e, h1, h2⟩ := pg_any h
  have h3 : e.2 = (cn, i) := by simpa using h2
  have h4 := pg_walk_ok _ _ _ pg_M4_w _ (List.mem_map.mpr ⟨e, h1, rfl⟩)
  dsimp only at h4
  rw [h3] at h4
  exact pg_tb h4 rfl
theorem pg_IM_ok {n : Nat} (h : pg_IM.any (fun e => e.2 == n) = true) : Cond.instanceMethod (pg_md n).1 ∈ pg_Tb := by
  obtain ⟨e, h1, h2⟩ := pg_any h
  have h3 : e.2 = n := by simpa using h2
  have h4 := pg_walk_ok _ _ _ pg_IM_w _ (List.mem_map.mpr ⟨e, h1, rfl⟩)
  dsimp only at h4
  rw [h3] at h4
  exact pg_tb h4 rfl
theorem pg_SM_ok {n : Nat} (h : pg_SM.any (fun e => e.2 == n) = true) : Cond.static (pg_md n).1 ∈ pg_Tb := by
  obtain ⟨e, h1, h2⟩ := pg_any h
  have h3 : e.2 = n := by simpa using h2
  have h4 := pg_walk_ok _ _ _ pg_SM_w _ (List.mem_map.mpr ⟨e, h1, rfl⟩)
  dsimp only at h4
  rw [h3] at h4
  exact pg_tb h4 rfl
theorem pg_SL_ok {n : Nat} (h : pg_SL.any (fun e => e.2 == n) = true) : Cond.selects (pg_md n).1.cls (pg_md n).1 (pg_md n).1 ∈ pg_Tb := by
  obtain ⟨e, h1, h2⟩ := pg_any h
  have h3 : e.2 = n := by simpa using h2
  have h4 := pg_walk_ok _ _ _ pg_SL_w _ (List.mem_map.mpr ⟨e, h1, rfl⟩)
  dsimp only at h4
  rw [h3] at h4
  exact pg_tb h4 rfl
theorem pg_mf_at {n : Nat} (h0 : 0 < n) (h : n < 287) : pg_mfb n = true := by
  have h1 := List.all_eq_true.mp pg_mf n (List.mem_range.mpr h)
  simp only [Bool.or_eq_true, beq_iff_eq] at h1
  rcases h1 with h1 | h1
  · omega
  · exact h1
theorem pg_mok {n : Nat} (h0 : 0 < n) (h : n < 287) : xm_mok pg_Tb (pg_md n) := by
  have h1 := pg_mf_at h0 h
  unfold pg_mfb at h1
  simp only [Bool.and_eq_true, decide_eq_true_eq] at h1
  obtain ⟨⟨⟨⟨⟨⟨a1, a2⟩, a3⟩, a4⟩, a5⟩, a6⟩, -⟩ := h1
  refine ⟨?_, ?_, a3, a4, a5, a6⟩
  · obtain ⟨e, b1, b2⟩ := pg_any a1
    have b3 : e.2 = n := by simpa using b2
    have b4 := pg_walkC_ok _ _ _ pg_CD_w _ (List.mem_map.mpr ⟨e, b1, rfl⟩)
    dsimp only at b4
    rw [b3] at b4
    exact pg_tb b4 rfl
  · obtain ⟨e, b1, b2⟩ := pg_any a2
    have b3 : pg_own e.2 = (pg_md n).1.cls := by simpa using b2
    have b4 := pg_walk_ok _ _ _ pg_IN_w _ (List.mem_map.mpr ⟨e, b1, rfl⟩)
    dsimp only at b4
    rw [b3] at b4
    exact pg_tb b4 rfl
theorem pg_ck5_ok {cn : Nat} {q : xI} (h : pg_ck5 cn q = true) : xm_lkc pg_Tb pg_Tx pg_cl pg_mt (pg_own cn) q := by
  obtain ⟨ins, a, b⟩ := q
  cases ins with
  | invokespecial i =>
    simp only [pg_ck5, Bool.or_eq_true, Bool.and_eq_true, beq_iff_eq, bne_iff_ne, decide_eq_true_eq] at h
    unfold xm_lkc
    dsimp only
    rcases h with ⟨h1, h2⟩ | ⟨⟨⟨⟨⟨h1, h2⟩, h3⟩, h4⟩, h5⟩, h6⟩
    · subst h1
      exact ⟨fun _ => ⟨i, rfl, pg_OI_ok h2, pg_X_ok (by decide +kernel) rfl, pg_X_ok (List.mem_of_getElem? (i := 3) rfl) rfl⟩, fun h => by omega, fun h => by omega, fun h => by omega, fun h => by omega, fun h => by omega⟩
    · refine ⟨fun h => absurd h h1, fun h => absurd h h2, fun h => by omega, fun h => by omega, fun h => by omega, fun _ => ⟨_, pg_mt_md h4, by omega, Or.inr (Or.inl ⟨i, rfl, pg_lnk_ok (by simpa using h5), ?_⟩)⟩⟩
      have h7 := pg_mf_at h3 h4
      unfold pg_mfb at h7
      rw [h6] at h7
      simp only [Bool.and_eq_true, decide_eq_true_eq] at h7
      obtain ⟨-, ⟨⟨⟨⟨⟨a1, a2⟩, a3⟩, a4⟩, a5⟩, a6⟩⟩ := h7
      exact ⟨pg_IM_ok a1, a2, a3, a4, by omega, _, pg_cl_r a5, a6⟩
  | invokevirtual i =>
    simp only [pg_ck5, Bool.and_eq_true, beq_iff_eq, bne_iff_ne, decide_eq_true_eq] at h
    obtain ⟨⟨⟨⟨⟨h1, h2⟩, h3⟩, h4⟩, h5⟩, h6⟩ := h
    unfold xm_lkc
    dsimp only
    refine ⟨fun h => absurd h h1, fun h => absurd h h2, fun h => by omega, fun h => by omega, fun h => by omega, fun _ => ⟨_, pg_mt_md h4, by omega, Or.inl ⟨i, rfl, pg_lnk_ok h5, ?_⟩⟩⟩
    have h7 := pg_mf_at h3 h4
    unfold pg_mfb at h7
    rw [h6] at h7
    simp only [Bool.and_eq_true, decide_eq_true_eq] at h7
    obtain ⟨-, ⟨⟨⟨⟨a1, a2⟩, a3⟩, a4⟩, a5⟩⟩ := h7
    exact ⟨pg_IM_ok a1, pg_SL_ok a2, a3, by omega, _, pg_cl_r a4, a5⟩
  | invokestatic i =>
    simp only [pg_ck5, Bool.or_eq_true, Bool.and_eq_true, beq_iff_eq, bne_iff_ne, decide_eq_true_eq] at h
    unfold xm_lkc
    dsimp only
    have hini : Cond.initialized "java/lang/Math" ∈ pg_Tb := pg_X_ok (by decide +kernel) rfl
    rcases h with (((⟨h1, h2⟩ | ⟨h1, h2⟩) | ⟨h1, h2⟩) | ⟨h1, h2⟩) | ⟨⟨⟨⟨⟨h1, h2⟩, h3⟩, h4⟩, h5⟩, h6⟩
    · subst h1
      exact ⟨fun h => by omega, fun _ => ⟨i, rfl, pg_AC_ok h2, pg_X_ok (by decide +kernel) rfl, pg_X_ok (by decide +kernel) rfl, pg_X_ok (by decide +kernel) rfl⟩, fun h => by omega, fun h => by omega, fun h => by omega, fun h => by omega⟩
    · subst h1
      exact ⟨fun h => by omega, fun h => by omega, fun _ => ⟨i, rfl, pg_M2_ok h2, pg_X_ok (by decide +kernel) rfl, hini, pg_Z_ok (md := (Lib.Math.min.name, Lib.Math.min.code, 2, some .int, 99)) (List.mem_of_getElem? (i := 2) rfl)⟩, fun h => by omega, fun h => by omega, fun h => by omega⟩
    · subst h1
      exact ⟨fun h => by omega, fun h => by omega, fun h => by omega, fun _ => ⟨i, rfl, pg_M3_ok h2, pg_X_ok (by decide +kernel) rfl, hini, pg_Z_ok (md := (Lib.Math.max.name, Lib.Math.max.code, 2, some .int, 99)) (List.mem_of_getElem? (i := 1) rfl)⟩, fun h => by omega, fun h => by omega⟩
    · subst h1
      exact ⟨fun h => by omega, fun h => by omega, fun h => by omega, fun h => by omega, fun _ => ⟨i, rfl, pg_M4_ok h2, pg_X_ok (by decide +kernel) rfl, hini, pg_Z_ok (md := (Lib.MathLoose.abs_long.x, Lib.MathLoose.abs_long.code, 2, some .long, 99)) (List.mem_of_getElem? (i := 0) rfl)⟩, fun h => by omega⟩
    · refine ⟨fun h => absurd h h1, fun h => absurd h h2, fun h => by omega, fun h => by omega, fun h => by omega, fun _ => ⟨_, pg_mt_md h4, by omega, Or.inr (Or.inr ⟨i, rfl, pg_lnk_ok (by simpa using h5), ?_⟩)⟩⟩
      have h7 := pg_mf_at h3 h4
      unfold pg_mfb at h7
      rw [h6] at h7
      simp only [Bool.and_eq_true, decide_eq_true_eq] at h7
      obtain ⟨-, ⟨⟨a1, a2⟩, a3⟩⟩ := h7
      exact ⟨pg_SM_ok a1, a2, a3⟩
  | _ => cases h
theorem pg_Tb_Y {C : String} (h : (Cond.arrayOver (.object C)) ∈ pg_Y.map (fun e => e.2)) : Cond.arrayOver (.object C) ∈ pg_Tx := by
  obtain ⟨e, h1, h2⟩ := List.mem_map.mp h
  have h3 := pg_walk_ok _ _ _ pg_Y_w e h1
  rw [h2] at h3
  exact List.mem_filter.mpr ⟨h3, rfl⟩
theorem pg_ck_ok {cn : Nat} {ini : Bool} {md : xM} {pc : Nat} {q : xI} (hcn : pg_own cn = md.1.cls) (hini : ini = true → md.1.name = "<init>") (h : pg_ck cn ini md.2.1 pc q = true) : xm_iok pg_Tb pg_Tx pg_cl pg_mt md pc q := by
  unfold pg_ck at h
  unfold xm_iok
  rw [← hcn]
  split at h
  · rename_i hk
    rw [hk]
    simp only [Bool.and_eq_true, decide_eq_true_eq] at h
    refine ⟨h.1, ?_⟩
    have h2 := h.2
    obtain ⟨ins, a, b⟩ := q
    cases ins with
    | ldc i => exact pg_CI_ok h2
    | ldc_w i => exact pg_CI_ok h2
    | ldc2_w i => exact pg_CJ_ok h2
    | _ => trivial
  · rename_i hk
    rw [hk]
    simp only [Bool.and_eq_true, decide_eq_true_eq] at h
    refine ⟨h.1, ?_⟩
    have h2 := h.2
    obtain ⟨ins, a, b⟩ := q
    cases ins with
    | getfield i =>
      simp only [pg_ck1, Bool.and_eq_true, decide_eq_true_eq] at h2
      exact ⟨_, pg_cl_r h2.1.2, h2.2, pg_FL_ok h2.1.1⟩
    | putfield i =>
      simp only [pg_ck1, Bool.and_eq_true, decide_eq_true_eq, Bool.or_eq_true, Bool.not_eq_true'] at h2
      refine ⟨_, pg_cl_r h2.1.1.2, h2.1.2, pg_FL_ok h2.1.1.1, fun hf => ?_⟩
      rcases h2.2 with h3 | h3
      · rw [hf] at h3
        cases h3
      · exact ⟨hini h3.1, h3.2⟩
    | _ => trivial
  · rename_i hk
    rw [hk]
    split at h
    · rename_i i len hdec
      simp only [Bool.and_eq_true, decide_eq_true_eq, Bool.or_eq_true] at h
      obtain ⟨⟨rfl, h2⟩, h3⟩ := h
      refine ⟨len, hdec, ?_, ?_⟩
      · rcases h2 with h2 | h2
        · exact Or.inl h2
        · refine Or.inr ?_
          obtain ⟨ins, a, b⟩ := q
          cases ins <;> first | exact ⟨_, _, _, _, rfl⟩ | cases h2
      · intro o ho
        obtain ⟨ins, a, b⟩ := q
        rcases ho with rfl | ⟨k, rfl⟩ | ⟨k, rfl⟩
        · exact of_decide_eq_true h3
        · exact of_decide_eq_true h3
        · exact of_decide_eq_true h3
    · cases h
  · rename_i hk
    rw [hk]
    have h1 := of_decide_eq_true h
    exact h1
  · rename_i hk
    rw [hk]
    simp only [Bool.and_eq_true, decide_eq_true_eq] at h
    refine ⟨h.1, ?_⟩
    have h2 := h.2
    obtain ⟨ins, a, b⟩ := q
    cases ins with
    | new i =>
      simp only [pg_ck4, Bool.and_eq_true, decide_eq_true_eq] at h2
      refine ⟨_, pg_cl_r h2.1.2, h2.2, ?_⟩
      have h3 := pg_CK_ok h2.1.1
      have h4 : ∀ n, n < 13 → pg_own n = (pg_r n).1 := by decide +kernel
      rw [← h4 _ h2.1.2]
      exact h3
    | newarray t =>
      simp only [pg_ck4, Bool.and_eq_true, decide_eq_true_eq] at h2
      refine ⟨?_, h2.1.1, h2.1.2, h2.2⟩
      rw [h2.1.1]
      have h3 := h2.1.2
      have h4 := h2.2
      rcases (show a = 20 ∨ a = 21 ∨ a = 22 ∨ a = 23 by omega) with rfl | rfl | rfl | rfl
      · exact pg_X_ok (by decide +kernel) rfl
      · exact pg_X_ok (by decide +kernel) rfl
      · exact pg_X_ok (by decide +kernel) rfl
      · exact pg_X_ok (by decide +kernel) rfl
    | anewarray i =>
      simp only [pg_ck4, Bool.and_eq_true, beq_iff_eq, Bool.or_eq_true] at h2
      rcases h2 with ⟨rfl, h3⟩ | ⟨rfl, h3⟩
      · exact ⟨by dsimp only; omega, by dsimp only; omega, _, rfl, pg_CK_ok h3, pg_Tb_Y (by decide +kernel)⟩
      · exact ⟨by dsimp only; omega, by dsimp only; omega, _, rfl, pg_CK_ok h3, pg_Tb_Y (by decide +kernel)⟩
    | _ => cases h2
  · rename_i hk0 hk1 hk2 hk3 hk4
    simp only [Bool.and_eq_true, decide_eq_true_eq] at h
    split
    · rename_i hh; exact absurd hh hk0
    · rename_i hh; exact absurd hh hk1
    · rename_i hh; exact absurd hh hk2
    · rename_i hh; exact absurd hh hk3
    · rename_i hh; exact absurd hh hk4
    · exact ⟨h.1, pg_ck5_ok h.2⟩
theorem pg_bck_ok {cn : Nat} {ini : Bool} {md : xM} (hcn : pg_own cn = md.1.cls) (hini : ini = true → md.1.name = "<init>") : ∀ (is : List xI) (pc : Nat), pg_bck cn ini md.2.1 pc is = true → xm_bok pg_Tb pg_Tx pg_cl pg_mt md pc is := by
  intro is
  induction is with
  | nil => intro pc _; trivial
  | cons q is ih =>
    intro pc h
    simp only [pg_bck, Bool.and_eq_true] at h
    exact ⟨pg_ck_ok hcn hini h.1, ih _ h.2⟩
/-- all blocks of method n -/
def pg_on (s : String) : Nat := if s = pg_own 0 then 0 else if s = pg_own 1 then 1 else if s = pg_own 2 then 2 else if s = pg_own 3 then 3 else if s = pg_own 4 then 4 else if s = pg_own 5 then 5 else if s = pg_own 6 then 6 else if s = pg_own 7 then 7 else if s = pg_own 8 then 8 else if s = pg_own 9 then 9 else if s = pg_own 10 then 10 else if s = pg_own 11 then 11 else if s = pg_own 12 then 12 else if s = pg_own 13 then 13 else if s = pg_own 14 then 14 else if s = pg_own 15 then 15 else 16
def pg_ckM (n cn : Nat) (ini : Bool) (cd : ByteArray) (bs : List (Nat × List xI)) : Bool := bs.all (fun x => pg_bck cn ini cd x.1 x.2)
theorem pg_find_mem {pc : Nat} {is : List xI} : ∀ {bs : List (Nat × List xI)}, pg_find pc bs = some is → (pc, is) ∈ bs := by
  intro bs
  induction bs with
  | nil => intro h; cases h
  | cons x xs ih =>
    intro h
    simp only [pg_find] at h
    split at h
    · rename_i hx
      cases h
      subst hx
      exact List.mem_cons_self
    · exact List.mem_cons_of_mem _ (ih h)
/-- the classes -/
theorem pg_cl_lay : (List.range 13).all (fun c => (List.range (pg_r c).2.2).all (fun k => pg_LY.any (fun e => e.2 == (c, k)))) = true := by decide +kernel
theorem pg_cl_par : ∀ c, c < 13 → ∀ k, k < (pg_r c).2.2 → parseFieldDescriptor ((pg_r c).2.1 k).2.2.1 = some (pg_fty c k) := by decide +kernel
theorem pg_cl_nam : ∀ c, c < 13 → ∀ a, a < (pg_r c).2.2 → ∀ b, b < (pg_r c).2.2 → a ≠ b → ((pg_r c).2.1 a).2.1 ≠ ((pg_r c).2.1 b).2.1 := by decide +kernel
theorem pg_cl_flo : ∀ c, c < 13 → ∀ k, k < (pg_r c).2.2 → pg_fty c k ≠ .float ∧ pg_fty c k ≠ .double := by decide +kernel
theorem pg_cl_own : ∀ c, c < 13 → pg_own c = (pg_r c).1 := by decide +kernel
theorem pg_clok : xm_clok pg_Tb pg_cl pg_fty := by
  refine ⟨fun c r hr => ?_, ⟨_, rfl, rfl⟩, ⟨_, rfl, rfl⟩⟩
  obtain ⟨hc, rfl⟩ := pg_cl_at hr
  refine ⟨fun w hw => ?_, pg_cl_par c hc, pg_cl_nam c hc, by omega, ?_, ?_, pg_cl_flo c hc⟩
  · obtain ⟨k, hk, rfl⟩ := List.mem_map.mp hw
    have h1 := List.all_eq_true.mp (List.all_eq_true.mp pg_cl_lay c (List.mem_range.mpr hc)) k hk
    obtain ⟨e, h2, h3⟩ := pg_any h1
    have h4 : e.2 = (c, k) := by simpa using h3
    have h5 := pg_walk_ok _ _ _ pg_LY_w _ (List.mem_map.mpr ⟨e, h2, rfl⟩)
    dsimp only at h5
    rw [h4] at h5
    refine pg_tb h5 ?_
    unfold u_lay
    split <;> rfl
  · have h1 : (List.range 13).all (fun c => pg_IT.any (fun e => e.2 == c)) = true := by decide +kernel
    obtain ⟨e, h2, h3⟩ := pg_any (List.all_eq_true.mp h1 c (List.mem_range.mpr hc))
    have h4 : e.2 = c := by simpa using h3
    have h5 := pg_walk_ok _ _ _ pg_IT_w _ (List.mem_map.mpr ⟨e, h2, rfl⟩)
    dsimp only at h5
    rw [h4] at h5
    exact pg_tb h5 rfl
  · have h1 : (List.range 13).all (fun c => pg_IN.any (fun e => e.2 == c)) = true := by decide +kernel
    obtain ⟨e, h2, h3⟩ := pg_any (List.all_eq_true.mp h1 c (List.mem_range.mpr hc))
    have h4 : e.2 = c := by simpa using h3
    have h5 := pg_walk_ok _ _ _ pg_IN_w _ (List.mem_map.mpr ⟨e, h2, rfl⟩)
    dsimp only at h5
    rw [h4, pg_cl_own c hc] at h5
    exact pg_tb h5 rfl
