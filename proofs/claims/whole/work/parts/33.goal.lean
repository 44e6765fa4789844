/-! the claim out of the law's loop as a function -/
theorem xm_h_sc {fty : Nat → Nat → FieldType} {sc : Option (Nat × (Nat → Int32))} {q : xI} {st : List Value} {σ : xH} {x : List Value × xH} (h : xm_h fty none q st σ = some x) : xm_h fty sc q st σ = some x := by
  obtain ⟨ins, a, b⟩ := q
  cases ins with
  | arraylength =>
    match st, h with
    | .ref id :: r, h => exact h
  | iaload =>
    match st, h with
    | .int i :: .ref id :: r, h => exact h
  | _ => exact h
set_option maxHeartbeats 4000000 in
theorem xm_sc {sc : Option (Nat × (Nat → Int32))} : ∀ {n d M : Nat} {is : List xI} {pc : Nat} {l : xL} {st : List Value} {σ : xH} {o : xH × Option Value}, xm_ev pg_mt pg_bt pg_fty none n d M is pc l st σ = some o → xm_ev pg_mt pg_bt pg_fty sc n d M is pc l st σ = some o := by
  intro n
  induction n with
  | zero => intro d M is pc l st σ o h; cases h
  | succ n ih =>
    intro d M is pc l st σ o h
    cases is with
    | nil =>
      simp only [xm_ev] at h ⊢
      split at h
      · cases h
      · exact ih h
    | cons q is =>
      simp only [xm_ev] at h ⊢
      split at h
      · split at h
        · cases h
        · exact ih h
      · split at h
        · cases h
        · rename_i st1 σ1 hh
          have h2 : xm_h pg_fty (if M = 0 then sc else none) q st σ = some (st1, σ1) := by
            refine xm_h_sc ?_
            rw [← hh]
            split <;> rfl
          rw [h2]
          exact ih h
      · split at h
        · cases h
        · exact ih h
      · exact h
      · split at h
        · cases h
        · exact ih h
      · split at h
        · rename_i h1
          rw [if_pos h1]
          split at h
          · split at h
            · rename_i h2
              rw [if_pos h2]
              exact ih h
            · cases h
          · cases h
        · rename_i h1
          rw [if_neg h1]
          split at h
          · rename_i h2
            rw [if_pos h2]
            split at h
            · cases h
            · exact ih h
          · rename_i h2
            rw [if_neg h2]
            split at h
            · rename_i h3
              rw [if_pos h3]
              split at h
              · cases h
              · exact ih h
            · rename_i h3
              rw [if_neg h3]
              split at h
              · rename_i h4
                rw [if_pos h4]
                split at h
                · rename_i d1 md hmd
                  split at h
                  · rename_i hrv
                    rw [if_pos hrv]
                    split at h
                    · cases h
                    · rename_i l1 hl1
                      split at h
                      · cases h
                      · rename_i σ1 r hev
                        rw [ih hev]
                        exact ih h
                  · cases h
                · cases h
              · cases h
      · exact h
theorem E_nw {sc : Option (Nat × (Nat → Int32))} {d M : Nat} {is : List xI} {pc : Nat} {l : xL} {st st' : List Value} {σ σ' : xH} {o : xH × Option Value} {q : xI} (hk : xm_kd q.1 = 4) (hn : xm_nw q st σ = some (st', σ')) (h : Ev sc d M is (pc + xm_len q.1) l st' σ' o) : Ev sc d M (q :: is) pc l st σ o := by
  obtain ⟨n, h⟩ := h
  exact ⟨n + 1, by simp only [xm_ev, hk, hn]; exact h⟩
theorem hk_s0_ex : ∃ s : xS, s = (hk_s2.2.1, hk_s2.2.2.1) := ⟨_, rfl⟩
/-- the fields and elements behind the constructors (a name that does not unfold) -/
noncomputable def hk_s0 : xS := Classical.choose hk_s0_ex
theorem hk_s0_eq : hk_s0 = (hk_s2.2.1, hk_s2.2.2.1) := Classical.choose_spec hk_s0_ex
theorem hk_s2_of : hk_s2 = hk_of hk_s0 := by
  show hk_s2 = (hk_ks, hk_s0.1, hk_s0.2, hk_R)
  rw [hk_s0_eq, hk_R_eq, ← hk_s2_ks]
def hk_w1 : xH := xm_grow xm_0 11 13
noncomputable def hk_w2 : xH := xm_grow hk_s1 12 75
theorem hk_cl1 (sc : Option (Nat × (Nat → Int32))) : Cl sc 8 123 [.ref 0] (xm_grow xm_0 11 13) (hk_s1, none) := by
  refine ⟨pg_md 123, [some (.ref 0), none], pg_mt_md (by decide), by decide +kernel, by decide +kernel, 3000, xm_sc ?_⟩
  have h := hk_v_eq hk_a_v
  exact h
theorem hk_rcv2 : xm_rcv 12 [.ref 101] (xm_grow hk_s1 12 75) = true := by
  have h : (xm_grow hk_s1 12 75).1[101]? = some (12, 75) := by
    have h1 := xm_grow_at hk_s1 12 75
    rw [hk_s1_n] at h1
    exact h1
  simp only [xm_rcv, h]
  rfl
theorem hk_cl2 (sc : Option (Nat × (Nat → Int32))) : Cl sc 8 172 [.ref 101] (xm_grow hk_s1 12 75) (hk_s2, none) := by
  refine ⟨pg_md 172, [some (.ref 101), none], pg_mt_md (by decide), hk_rcv2, by decide +kernel, 3000, xm_sc ?_⟩
  have h := hk_v_eq hk_b_v
  exact h
theorem hk_law0 {L : Nat} {xs : Nat → Int32} {o : xH × Option Value} (h : Ev (some (L, xs)) 13 0 [] 18 [some (.retAddr 0), some (.ref 0), some (.ref 101), some (.int 0)] [] (hk_of hk_s0) o) : Ev (some (L, xs)) 13 0 [] 0 [some (.retAddr 0), none, none, none] [] xm_0 o := by
  rw [← hk_s2_of] at h
  refine E_blk (is' := pg_0_0) rfl ?_
  refine E_nw (st' := [.ref 0]) (σ' := xm_grow xm_0 11 13) rfl rfl ?_
  refine E_ps 1 (pc' := 4) (l' := [some (.retAddr 0), none, none, none]) (st' := [.ref 0, .ref 0]) rfl ?_
  refine E_callV (vs := [.ref 0]) (rest := [.ref 0]) rfl (by decide) rfl rfl (Nat.le_of_ble_eq_true rfl) (hk_cl1 _) (by decide) ?_
  refine E_ps 1 (pc' := 8) (l' := [some (.retAddr 0), some (.ref 0), none, none]) (st' := []) rfl ?_
  refine E_nw (st' := [.ref 101]) (σ' := xm_grow hk_s1 12 75) rfl ?_ ?_
  · simp only [xm_nw]
    rw [hk_s1_n]
  refine E_ps 1 (pc' := 12) (l' := [some (.retAddr 0), some (.ref 0), none, none]) (st' := [.ref 101, .ref 101]) rfl ?_
  refine E_callV (vs := [.ref 101]) (rest := [.ref 101]) rfl (by decide) rfl rfl (Nat.le_of_ble_eq_true rfl) (hk_cl2 _) (by decide) ?_
  exact E_ps 3 (pc' := 18) (l' := [some (.retAddr 0), some (.ref 0), some (.ref 101), some (.int 0)]) (st' := []) rfl h
theorem hk_sum : xm_sum hk_ks ≤ 7302250 := by decide +kernel
/-- what is left: the law's loop, as a function, answers 1 on every script -/
def hk_goal : Prop := ∀ (L : Nat) (xs : Nat → Int32), L ≤ 4096 → ∃ s : xS, whl (fun q : Int32 × xS => f0_18 L xs 0 101 q.1 q.2) (0, hk_s0) = some (s, 1)
theorem hk_goal_ok (hg : hk_goal) : xm_goal := by
  intro L xs hL
  obtain ⟨s, hs⟩ := hg L xs hL
  have k1 : oK 0 11 = true := by decide +kernel
  have k2 : oK 101 12 = true := by decide +kernel
  have h1 := s0_18_w (L := L) (xs := xs) (x1 := 0) (x2 := 101) (x3 := 0) (s := hk_s0) (o := (hk_of s, some (.int 1))) (r := (s, 1)) k1 k2 hs rfl
  obtain ⟨n, h2⟩ := hk_law0 h1
  refine ⟨n, 13, hk_of s, by decide, h2, ?_, hk_sum⟩
  show hk_ks.length ≤ 600000
  rw [hk_ks_len]
  decide
