def pg_Tb : List Cond := lw_tbl.filter goodWord
def pg_isx : Cond → Bool
  | .methodLinkNest _ _ _ _ => true
  | .arrayOver (.object _) => true
  | _ => false
def pg_Tx : List Cond := lw_tbl.filter pg_isx
def pg_walk : List Cond → Nat → List (Nat × Cond) → Bool
  | _, _, [] => true
  | [], _, _ :: _ => false
  | w :: ws, n, x :: r => if x.1 = n then decide (w = x.2) && pg_walk ws (n + 1) r else pg_walk ws (n + 1) (x :: r)
theorem pg_walk_ok : ∀ (ws : List Cond) (n : Nat) (L : List (Nat × Cond)), pg_walk ws n L = true → ∀ x ∈ L, x.2 ∈ ws := by
  intro ws
  induction ws with
  | nil =>
    intro n L h x hx
    cases L with
    | nil => cases hx
    | cons y L => cases h
  | cons w ws ih =>
    intro n L h x hx
    cases L with
    | nil => cases hx
    | cons y L =>
      simp only [pg_walk] at h
      split at h
      · simp only [Bool.and_eq_true, decide_eq_true_eq] at h
        rcases List.mem_cons.mp hx with rfl | hx
        · exact h.1 ▸ List.mem_cons_self
        · exact List.mem_cons_of_mem _ (ih _ _ h.2 x hx)
      · exact List.mem_cons_of_mem _ (ih _ _ h x hx)
theorem pg_tb {w : Cond} (h : w ∈ lw_tbl) (hg : goodWord w = true) : w ∈ pg_Tb := List.mem_filter.mpr ⟨h, hg⟩
theorem pg_good : ∀ w ∈ pg_Tb, goodWord w = true := fun w h => (List.mem_filter.mp h).2
theorem pg_txok : ∀ w ∈ pg_Tx, xm_tx w := fun w h => by
  have h1 := (List.mem_filter.mp h).2
  unfold pg_isx at h1
  split at h1
  · exact Or.inl ⟨_, _, _, _, rfl⟩
  · exact Or.inr ⟨_, rfl⟩
  · cases h1
def pg_r (c : Nat) : vw_C := pg_cl.getD c ("", (fun _ => ("", "", "", false)), 0)
def pg_md (n : Nat) : xM := pg_m.getD n (⟨"", "", ""⟩, ⟨#[]⟩, 0, none, 0)
def pg_fc (e : Nat × Nat × Nat × Nat × Nat) : Cond := .fieldLink (pg_own e.2.1) e.2.2.1 ((pg_r e.2.2.2.1).2.1 e.2.2.2.2).1 ((pg_r e.2.2.2.1).2.1 e.2.2.2.2).2.1 ((pg_r e.2.2.2.1).2.1 e.2.2.2.2).2.2.1
theorem pg_FL_w : pg_walk lw_tbl 0 (pg_FL.map (fun e => (e.1, pg_fc e))) = true := by decide +kernel
theorem pg_CI_w : pg_walk lw_tbl 0 (pg_CI.map (fun e => (e.1, .constant (pg_own e.2.1) e.2.2.1 (Int32.ofNat e.2.2.2)))) = true := by decide +kernel
theorem pg_CJ_w : pg_walk lw_tbl 0 (pg_CJ.map (fun e => (e.1, .constantLong (pg_own e.2.1) e.2.2.1 (Int64.ofNat e.2.2.2)))) = true := by decide +kernel
theorem pg_ML_w : pg_walk lw_tbl 0 (pg_ML.map (fun e => (e.1, .methodLink (pg_own e.2.1) e.2.2.1 (pg_md e.2.2.2).1))) = true := by decide +kernel
theorem pg_MN_w : pg_walk lw_tbl 0 (pg_MN.map (fun e => (e.1, .methodLinkNest (pg_own e.2.1) e.2.2.1 (pg_md e.2.2.2).1 "ThreePlates"))) = true := by decide +kernel
theorem pg_OI_w : pg_walk lw_tbl 0 (pg_OI.map (fun e => (e.1, .methodLink (pg_own e.2.1) e.2.2 Lib.objectInit))) = true := by decide +kernel
theorem pg_AC_w : pg_walk lw_tbl 0 (pg_AC.map (fun e => (e.1, .methodLink (pg_own e.2.1) e.2.2 arraycopyName))) = true := by decide +kernel
theorem pg_CK_w : pg_walk lw_tbl 0 (pg_CK.map (fun e => (e.1, .classLink (pg_own e.2.1) e.2.2.1 (pg_own e.2.2.2)))) = true := by decide +kernel
def pg_walkC : List Cond → Nat → List (Nat × xM) → Bool
  | _, _, [] => true
  | [], _, _ :: _ => false
  | w :: ws, n, x :: r => if x.1 = n then (match w with
      | .code y c ml rt => decide (y = x.2.1) && (c.data.toList == x.2.2.1.data.toList) && decide (ml = x.2.2.2.1) && decide (rt = x.2.2.2.2.1)
      | _ => false) && pg_walkC ws (n + 1) r else pg_walkC ws (n + 1) (x :: r)
theorem pg_walkC_ok : ∀ (ws : List Cond) (n : Nat) (L : List (Nat × xM)), pg_walkC ws n L = true → ∀ x ∈ L, Cond.code x.2.1 x.2.2.1 x.2.2.2.1 x.2.2.2.2.1 ∈ ws := by
  intro ws
  induction ws with
  | nil =>
    intro n L h x hx
    cases L with
    | nil => cases hx
    | cons y L => cases h
  | cons w ws ih =>
    intro n L h x hx
    cases L with
    | nil => cases hx
    | cons y L =>
      simp only [pg_walkC] at h
      split at h
      · simp only [Bool.and_eq_true] at h
        rcases List.mem_cons.mp hx with rfl | hx
        · obtain ⟨h1, -⟩ := h
          split at h1
          · rename_i y c ml rt
            simp only [Bool.and_eq_true, decide_eq_true_eq, beq_iff_eq] at h1
            obtain ⟨⟨⟨rfl, h2⟩, rfl⟩, rfl⟩ := h1
            have h3 : c = x.2.2.1 := by
              cases c
              cases hx3 : x.2.2.1
              rw [hx3] at h2
              exact congrArg ByteArray.mk (Array.toList_inj.mp h2)
            rw [← h3]
            exact List.mem_cons_self
          · cases h1
        · exact List.mem_cons_of_mem _ (ih _ _ h.2 x hx)
      · exact List.mem_cons_of_mem _ (ih _ _ h x hx)
theorem pg_CD_w : pg_walkC lw_tbl 0 (pg_CD.map (fun e => (e.1, pg_md e.2))) = true := by decide +kernel
theorem pg_IM_w : pg_walk lw_tbl 0 (pg_IM.map (fun e => (e.1, .instanceMethod (pg_md e.2).1))) = true := by decide +kernel
theorem pg_SM_w : pg_walk lw_tbl 0 (pg_SM.map (fun e => (e.1, .static (pg_md e.2).1))) = true := by decide +kernel
theorem pg_SL_w : pg_walk lw_tbl 0 (pg_SL.map (fun e => (e.1, .selects (pg_md e.2).1.cls (pg_md e.2).1 (pg_md e.2).1))) = true := by decide +kernel
theorem pg_IN_w : pg_walk lw_tbl 0 (pg_IN.map (fun e => (e.1, .initialized (pg_own e.2)))) = true := by decide +kernel
theorem pg_IT_w : pg_walk lw_tbl 0 (pg_IT.map (fun e => (e.1, .instantiable (pg_r e.2).1 (pg_r e.2).2.2))) = true := by decide +kernel
theorem pg_X_w : pg_walk lw_tbl 0 pg_X = true := by decide +kernel
theorem pg_Y_w : pg_walk lw_tbl 0 pg_Y = true := by decide +kernel
theorem pg_LY_w : pg_walk lw_tbl 0 (pg_LY.map (fun e => (e.1, u_lay (pg_r e.2.1).1 (pg_r e.2.1).2.1 e.2.2))) = true := by decide +kernel
theorem pg_M2_w : pg_walk lw_tbl 0 (pg_M2.map (fun e => (e.1, .methodLink (pg_own e.2.1) e.2.2 Lib.Math.min.name))) = true := by decide +kernel
theorem pg_M3_w : pg_walk lw_tbl 0 (pg_M3.map (fun e => (e.1, .methodLink (pg_own e.2.1) e.2.2 Lib.Math.max.name))) = true := by decide +kernel
theorem pg_M4_w : pg_walk lw_tbl 0 (pg_M4.map (fun e => (e.1, .methodLink (pg_own e.2.1) e.2.2 Lib.MathLoose.abs_long.x))) = true := by decide +kernel
theorem pg_Z_w : pg_walkC lw_tbl 0 pg_Z = true := by decide +kernel
