-- 75: ThreePlates$Shop.readPlate(LThreePlates$Tape;)Z
def dn75 (o : xH × Option Value) (r : xS × Int32) : Prop := o = (hk_of r.1, some (.int r.2))
def dn75_56 (sc : Option (Nat × (Nat → Int32))) (x0 : Nat) (x1 : Nat) (o : xH × Option Value) (r : ((Int32 × xS) ⊕ (xS × Int32))) : Prop := match r with
  | .inl q => Ev sc 5 75 [] 56 [some (.ref x0), some (.ref x1), some (.int q.1)] [] (hk_of q.2) o
  | .inr r => dn75 o r
noncomputable def f75_56 (x0 : Nat) (x1 : Nat) (x2 : Int32) (s : xS) : Option ((Int32 × xS) ⊕ (xS × Int32)) := (f68 x0 s).bind fun z1 => if z1.2 ≤ x2 then (Option.map Sum.inr ((pI z1.1 x0 2 ((z1.1.1 x0 2) + (1 : Int32))).bind fun t4 => (f84 x1 t4).bind fun z6 => ifg (z6.2 = 0 ∨ z6.2 = 1) <| some (z6.1, z6.2))) else ((f86 x1 (1 : Int32) (-99 : Int32) (99 : Int32) z1.1).bind fun z9 => if z9.2 = 0 then (Option.map Sum.inr (some (z9.1, (0 : Int32)))) else ((hk_R x0 1).bind fun a12 => (wI z9.1 a12 (((z9.1.1 x0 2) * (25 : Int32)) + x2) (z9.1.1 x1 9)).bind fun t14 => some (Sum.inl ((x2 + (1 : Int32)), t14))))
set_option maxRecDepth 20000 in
theorem s75_56 {sc : Option (Nat × (Nat → Int32))} {x0 : Nat} {x1 : Nat} {x2 : Int32} {s : xS} {o : xH × Option Value} {r : ((Int32 × xS) ⊕ (xS × Int32))} (k0 : oK x0 7 = true) (k1 : oK x1 8 = true) (h : f75_56 x0 x1 x2 s = some r) (hr : dn75_56 sc x0 x1 o r) : Ev sc 5 75 [] 56 [some (.ref x0), some (.ref x1), some (.int x2)] [] (hk_of s) o := by
  unfold f75_56 at h
  refine E_blk rfl ?_
  refine E_ps 2 (pc' := 58) (l' := [some (.ref x0), some (.ref x1), some (.int x2)]) (st' := [.ref x0, .int x2]) rfl ?_
  obtain ⟨z1, e2, h⟩ := Option.bind_eq_some_iff.mp h
  refine E_callI (vs := [.ref x0]) (rest := [.int x2]) rfl (by decide) rfl rfl (Nat.le_of_ble_eq_true rfl) (s68 e2) (by decide) ?_
  by_cases c3 : z1.2 ≤ x2
  · rw [if_pos c3] at h
    refine E_jt rfl rfl c3 ?_
    obtain ⟨r, h, hr⟩ := lf_some (Dn := dn75_56 sc x0 x1 o) h hr
    refine E_blk rfl ?_
    refine E_ps 2 (pc' := 104) (l' := [some (.ref x0), some (.ref x1), some (.int x2)]) (st' := [.ref x0, .ref x0]) rfl ?_
    refine E_gi k0 (by decide) rfl ?_
    refine E_ps 2 (pc' := 109) (l' := [some (.ref x0), some (.ref x1), some (.int x2)]) (st' := [.int ((z1.1.1 x0 2) + (1 : Int32)), .ref x0]) rfl ?_
    obtain ⟨t4, e5, h⟩ := Option.bind_eq_some_iff.mp h
    refine E_pi k0 (by decide) rfl e5 ?_
    refine E_ps 1 (pc' := 113) (l' := [some (.ref x0), some (.ref x1), some (.int x2)]) (st' := [.ref x1]) rfl ?_
    obtain ⟨z6, e7, h⟩ := Option.bind_eq_some_iff.mp h
    refine E_callI (vs := [.ref x1]) (rest := []) rfl (by decide) rfl rfl (Nat.le_of_ble_eq_true rfl) (s84 e7) (by decide) ?_
    obtain ⟨g8, h⟩ := ifg_some h
    cases h
    exact E_ret rfl (pg_mt_md (by decide)) (hk_retz g8 rfl) hr
  · rw [if_neg c3] at h
    refine E_jf rfl rfl c3 ?_
    refine E_blk rfl ?_
    refine E_ps 4 (pc' := 70) (l' := [some (.ref x0), some (.ref x1), some (.int x2)]) (st' := [.int (99 : Int32), .int (-99 : Int32), .int (1 : Int32), .ref x1]) rfl ?_
    obtain ⟨z9, e10, h⟩ := Option.bind_eq_some_iff.mp h
    refine E_callI (vs := [.ref x1, .int (1 : Int32), .int (-99 : Int32), .int (99 : Int32)]) (rest := []) rfl (by decide) rfl rfl (Nat.le_of_ble_eq_true rfl) (s86 e10) (by decide) ?_
    by_cases c11 : z9.2 = 0
    · rw [if_pos c11] at h
      refine E_jt rfl rfl c11 ?_
      obtain ⟨r, h, hr⟩ := lf_some (Dn := dn75_56 sc x0 x1 o) h hr
      refine E_blk rfl ?_
      refine E_ps 1 (pc' := 77) (l' := [some (.ref x0), some (.ref x1), some (.int x2)]) (st' := [.int (0 : Int32)]) rfl ?_
      cases h
      exact E_ret rfl (pg_mt_md (by decide)) rfl hr
    · rw [if_neg c11] at h
      refine E_jf rfl rfl c11 ?_
      refine E_blk rfl ?_
      refine E_ps 1 (pc' := 79) (l' := [some (.ref x0), some (.ref x1), some (.int x2)]) (st' := [.ref x0]) rfl ?_
      obtain ⟨a12, e13, h⟩ := Option.bind_eq_some_iff.mp h
      refine E_gr k0 (by decide) rfl e13 ?_
      refine E_ps 1 (pc' := 83) (l' := [some (.ref x0), some (.ref x1), some (.int x2)]) (st' := [.ref x0, .ref a12]) rfl ?_
      refine E_gi k0 (by decide) rfl ?_
      refine E_ps 5 (pc' := 92) (l' := [some (.ref x0), some (.ref x1), some (.int x2)]) (st' := [.ref x1, .int (((z9.1.1 x0 2) * (25 : Int32)) + x2), .ref a12]) rfl ?_
      refine E_gi k1 (by decide) rfl ?_
      obtain ⟨t14, e15, h⟩ := Option.bind_eq_some_iff.mp h
      refine E_wi e15 ?_
      refine E_ps 1 (pc' := 99) (l' := [some (.ref x0), some (.ref x1), some (.int (x2 + (1 : Int32)))]) (st' := []) rfl ?_
      refine E_j rfl rfl ?_
      cases h
      exact E_wk (l' := [some (.ref x0), some (.ref x1), some (.int (x2 + (1 : Int32)))]) ⟨rfl, rfl, rfl, trivial⟩ hr
theorem s75_56_w {sc : Option (Nat × (Nat → Int32))} {x0 : Nat} {x1 : Nat} {x2 : Int32} {s : xS} {o : xH × Option Value} {r : (xS × Int32)} (k0 : oK x0 7 = true) (k1 : oK x1 8 = true) (h : whl (fun q : (Int32 × xS) => f75_56 x0 x1 q.1 q.2) (x2, s) = some r) (hr : dn75 o r) : Ev sc 5 75 [] 56 [some (.ref x0), some (.ref x1), some (.int x2)] [] (hk_of s) o := by
  refine whl_snd (E := fun q : (Int32 × xS) => Ev sc 5 75 [] 56 [some (.ref x0), some (.ref x1), some (.int q.1)] [] (hk_of q.2) o) (P := fun r => dn75 o r) (fun q r h hr => ?_) h hr
  exact s75_56 k0 k1 h (by cases r <;> exact hr)
noncomputable def f75_17  (s : xS) : Option (xS × Int32) := some (s, (0 : Int32))
set_option maxRecDepth 20000 in
theorem s75_17 {sc : Option (Nat × (Nat → Int32))}  {s : xS} {o : xH × Option Value} {r : (xS × Int32)}  (h : f75_17  s = some r) (hr : dn75 o r) : Ev sc 5 75 [] 17 [none, none, none] [] (hk_of s) o := by
  unfold f75_17 at h
  refine E_blk rfl ?_
  refine E_ps 1 (pc' := 18) (l' := [none, none, none]) (st' := [.int (0 : Int32)]) rfl ?_
  cases h
  exact E_ret rfl (pg_mt_md (by decide)) rfl hr
noncomputable def f75 (x0 : Nat) (x1 : Nat) (s : xS) : Option (xS × Int32) := ifg (oK x0 7 = true) <| ifg (oK x1 8 = true) <| (f83 x1 (482854663269 : Int64) s).bind fun z1 => if z1.2 = 0 then (f75_17  z1.1) else ((f85 x1 z1.1).bind fun z4 => if z4.2 = 0 then (f75_17  z4.1) else ((f70 x0 (z4.1.2 x1 10) z4.1).bind fun z7 => if z7.2 = (-1 : Int32) then ((hk_R x0 0).bind fun a10 => (wL z7.1 a10 (z7.1.1 x0 2) (z7.1.2 x1 10)).bind fun t12 => whl (fun q : (Int32 × xS) => f75_56 x0 x1 q.1 q.2) ((0 : Int32), t12)) else ((f79 x1 (3 : Int32) (z7.1.1 x1 11) z7.1).bind fun z14 => ifg (z14.2 = 0 ∨ z14.2 = 1) <| some (z14.1, z14.2))))
set_option maxRecDepth 20000 in
theorem s75 {sc : Option (Nat × (Nat → Int32))} {x0 : Nat} {x1 : Nat} {s : xS} {r : xS × Int32} (h : f75 x0 x1 s = some r) : Cl sc 5 75 [.ref x0, .ref x1] (hk_of s) (hk_of r.1, some (.int r.2)) := by
  unfold f75 at h
  obtain ⟨k0, h⟩ := ifg_some h
  obtain ⟨k1, h⟩ := ifg_some h
  refine ⟨pg_md 75, [some (.ref x0), some (.ref x1), none], pg_mt_md (by decide), (hk_rcv k0), rfl, ?_⟩
  generalize ho : ((hk_of r.1, some (Value.int r.2)) : xH × Option Value) = o
  have hr : dn75 o r := ho.symm
  refine E_blk rfl ?_
  refine E_ps 2 (pc' := 4) (l' := [some (.ref x0), some (.ref x1), none]) (st' := [.long (482854663269 : Int64), .ref x1]) rfl ?_
  obtain ⟨z1, e2, h⟩ := Option.bind_eq_some_iff.mp h
  refine E_callI (vs := [.ref x1, .long (482854663269 : Int64)]) (rest := []) rfl (by decide) rfl rfl (Nat.le_of_ble_eq_true rfl) (s83 e2) (by decide) ?_
  by_cases c3 : z1.2 = 0
  · rw [if_pos c3] at h
    refine E_jt rfl rfl c3 ?_
    exact E_wk (l' := [none, none, none]) trivial (s75_17  h hr)
  · rw [if_neg c3] at h
    refine E_jf rfl rfl c3 ?_
    refine E_blk rfl ?_
    refine E_ps 1 (pc' := 11) (l' := [some (.ref x0), some (.ref x1), none]) (st' := [.ref x1]) rfl ?_
    obtain ⟨z4, e5, h⟩ := Option.bind_eq_some_iff.mp h
    refine E_callI (vs := [.ref x1]) (rest := []) rfl (by decide) rfl rfl (Nat.le_of_ble_eq_true rfl) (s85 e5) (by decide) ?_
    by_cases c6 : z4.2 = 0
    · rw [if_pos c6] at h
      refine E_jt rfl rfl c6 ?_
      exact E_wk (l' := [none, none, none]) trivial (s75_17  h hr)
    · rw [if_neg c6] at h
      refine E_jf rfl rfl c6 ?_
      refine E_blk rfl ?_
      refine E_ps 2 (pc' := 21) (l' := [some (.ref x0), some (.ref x1), none]) (st' := [.ref x1, .ref x0]) rfl ?_
      refine E_gl k1 (by decide) rfl ?_
      obtain ⟨z7, e8, h⟩ := Option.bind_eq_some_iff.mp h
      refine E_callI (vs := [.ref x0, .long (z4.1.2 x1 10)]) (rest := []) rfl (by decide) rfl rfl (Nat.le_of_ble_eq_true rfl) (s70 e8) (by decide) ?_
      refine E_ps 1 (pc' := 28) (l' := [some (.ref x0), some (.ref x1), none]) (st' := [.int (-1 : Int32), .int z7.2]) rfl ?_
      by_cases c9 : z7.2 = (-1 : Int32)
      · rw [if_pos c9] at h
        refine E_jt rfl rfl c9 ?_
        refine E_blk rfl ?_
        refine E_ps 1 (pc' := 42) (l' := [some (.ref x0), some (.ref x1), none]) (st' := [.ref x0]) rfl ?_
        obtain ⟨a10, e11, h⟩ := Option.bind_eq_some_iff.mp h
        refine E_gr k0 (by decide) rfl e11 ?_
        refine E_ps 1 (pc' := 46) (l' := [some (.ref x0), some (.ref x1), none]) (st' := [.ref x0, .ref a10]) rfl ?_
        refine E_gi k0 (by decide) rfl ?_
        refine E_ps 1 (pc' := 50) (l' := [some (.ref x0), some (.ref x1), none]) (st' := [.ref x1, .int (z7.1.1 x0 2), .ref a10]) rfl ?_
        refine E_gl k1 (by decide) rfl ?_
        obtain ⟨t12, e13, h⟩ := Option.bind_eq_some_iff.mp h
        refine E_wl e13 ?_
        refine E_ps 2 (pc' := 56) (l' := [some (.ref x0), some (.ref x1), some (.int (0 : Int32))]) (st' := []) rfl ?_
        exact E_wk (l' := [some (.ref x0), some (.ref x1), some (.int (0 : Int32))]) ⟨rfl, rfl, rfl, trivial⟩ (s75_56_w k0 k1 h hr)
      · rw [if_neg c9] at h
        refine E_jf rfl rfl c9 ?_
        refine E_blk rfl ?_
        refine E_ps 3 (pc' := 34) (l' := [some (.ref x0), some (.ref x1), none]) (st' := [.ref x1, .int (3 : Int32), .ref x1]) rfl ?_
        refine E_gi k1 (by decide) rfl ?_
        obtain ⟨z14, e15, h⟩ := Option.bind_eq_some_iff.mp h
        refine E_callI (vs := [.ref x1, .int (3 : Int32), .int (z7.1.1 x1 11)]) (rest := []) rfl (by decide) rfl rfl (Nat.le_of_ble_eq_true rfl) (s79 e15) (by decide) ?_
        obtain ⟨g16, h⟩ := ifg_some h
        cases h
        exact E_ret rfl (pg_mt_md (by decide)) (hk_retz g16 rfl) hr

-- 73: ThreePlates$Shop.readLine(LThreePlates$Tape;)Z
def dn73 (o : xH × Option Value) (r : xS × Int32) : Prop := o = (hk_of r.1, some (.int r.2))
noncomputable def f73_170 (x1 : Nat) (s : xS) : Option (xS × Int32) := (f80 x1 s).bind fun z1 => ifg (z1.2 = 0 ∨ z1.2 = 1) <| some (z1.1, z1.2)
set_option maxRecDepth 20000 in
theorem s73_170 {sc : Option (Nat × (Nat → Int32))} {x1 : Nat} {s : xS} {o : xH × Option Value} {r : (xS × Int32)} (k1 : oK x1 8 = true) (h : f73_170 x1 s = some r) (hr : dn73 o r) : Ev sc 6 73 [] 170 [none, some (.ref x1), none] [] (hk_of s) o := by
  unfold f73_170 at h
  refine E_blk rfl ?_
  refine E_ps 1 (pc' := 171) (l' := [none, some (.ref x1), none]) (st' := [.ref x1]) rfl ?_
  obtain ⟨z1, e2, h⟩ := Option.bind_eq_some_iff.mp h
  refine E_callI (vs := [.ref x1]) (rest := []) rfl (by decide) rfl rfl (Nat.le_of_ble_eq_true rfl) (s80 e2) (by decide) ?_
  obtain ⟨g3, h⟩ := ifg_some h
  cases h
  exact E_ret rfl (pg_mt_md (by decide)) (hk_retz g3 rfl) hr
noncomputable def f73_79 (x2 : Int32) (y0 : Int32) (y1 : Nat) (s : xS) : Option (xS × Int32) := (pI s y1 3 y0).bind fun t1 => ifg (x2 = 0 ∨ x2 = 1) <| some (t1, x2)
set_option maxRecDepth 20000 in
theorem s73_79 {sc : Option (Nat × (Nat → Int32))} {x2 : Int32} {y0 : Int32} {y1 : Nat} {s : xS} {o : xH × Option Value} {r : (xS × Int32)} (ky1 : oK y1 7 = true) (h : f73_79 x2 y0 y1 s = some r) (hr : dn73 o r) : Ev sc 6 73 [] 79 [none, none, some (.int x2)] [.int y0, .ref y1] (hk_of s) o := by
  unfold f73_79 at h
  refine E_blk rfl ?_
  obtain ⟨t1, e2, h⟩ := Option.bind_eq_some_iff.mp h
  refine E_pi ky1 (by decide) rfl e2 ?_
  refine E_ps 1 (pc' := 83) (l' := [none, none, some (.int x2)]) (st' := [.int x2]) rfl ?_
  obtain ⟨g3, h⟩ := ifg_some h
  cases h
  exact E_ret rfl (pg_mt_md (by decide)) (hk_retz g3 rfl) hr
noncomputable def f73_127 (x0 : Nat) (x1 : Nat) (s : xS) : Option (xS × Int32) := (f82 x1 (1936484720 : Int64) s).bind fun z1 => if z1.2 = 0 then (f73_170 x1 z1.1) else (if (z1.1.1 x0 8) = 0 then ((pI z1.1 x0 8 (1 : Int32)).bind fun t5 => (f74 x1 (1936484720 : Int64) (0 : Int32) (8 : Int32) t5).bind fun z7 => (pI z7.1 x0 5 (z7.1.1 x1 9)).bind fun t9 => ifg (z7.2 = 0 ∨ z7.2 = 1) <| some (t9, z7.2)) else (f73_170 x1 z1.1))
set_option maxRecDepth 20000 in
theorem s73_127 {sc : Option (Nat × (Nat → Int32))} {x0 : Nat} {x1 : Nat} {s : xS} {o : xH × Option Value} {r : (xS × Int32)} (k0 : oK x0 7 = true) (k1 : oK x1 8 = true) (h : f73_127 x0 x1 s = some r) (hr : dn73 o r) : Ev sc 6 73 [] 127 [some (.ref x0), some (.ref x1), none] [] (hk_of s) o := by
  unfold f73_127 at h
  refine E_blk rfl ?_
  refine E_ps 2 (pc' := 131) (l' := [some (.ref x0), some (.ref x1), none]) (st' := [.long (1936484720 : Int64), .ref x1]) rfl ?_
  obtain ⟨z1, e2, h⟩ := Option.bind_eq_some_iff.mp h
  refine E_callI (vs := [.ref x1, .long (1936484720 : Int64)]) (rest := []) rfl (by decide) rfl rfl (Nat.le_of_ble_eq_true rfl) (s82 e2) (by decide) ?_
  by_cases c3 : z1.2 = 0
  · rw [if_pos c3] at h
    refine E_jt rfl rfl c3 ?_
    exact E_wk (l' := [none, some (.ref x1), none]) ⟨rfl, trivial⟩ (s73_170 k1 h hr)
  · rw [if_neg c3] at h
    refine E_jf rfl rfl c3 ?_
    refine E_blk rfl ?_
    refine E_ps 1 (pc' := 138) (l' := [some (.ref x0), some (.ref x1), none]) (st' := [.ref x0]) rfl ?_
    refine E_gi k0 (by decide) rfl ?_
    by_cases c4 : (z1.1.1 x0 8) = 0
    · rw [if_pos c4] at h
      refine E_jt rfl rfl c4 ?_
      refine E_blk rfl ?_
      refine E_ps 2 (pc' := 146) (l' := [some (.ref x0), some (.ref x1), none]) (st' := [.int (1 : Int32), .ref x0]) rfl ?_
      obtain ⟨t5, e6, h⟩ := Option.bind_eq_some_iff.mp h
      refine E_pi k0 (by decide) rfl e6 ?_
      refine E_ps 4 (pc' := 156) (l' := [some (.ref x0), some (.ref x1), none]) (st' := [.int (8 : Int32), .int (0 : Int32), .long (1936484720 : Int64), .ref x1]) rfl ?_
      obtain ⟨z7, e8, h⟩ := Option.bind_eq_some_iff.mp h
      refine E_callI (vs := [.ref x1, .long (1936484720 : Int64), .int (0 : Int32), .int (8 : Int32)]) (rest := []) rfl (by decide) rfl rfl (Nat.le_of_ble_eq_true rfl) (s74 e8) (by decide) ?_
      refine E_ps 3 (pc' := 162) (l' := [some (.ref x0), some (.ref x1), some (.int z7.2)]) (st' := [.ref x1, .ref x0]) rfl ?_
      refine E_gi k1 (by decide) rfl ?_
      obtain ⟨t9, e10, h⟩ := Option.bind_eq_some_iff.mp h
      refine E_pi k0 (by decide) rfl e10 ?_
      refine E_ps 1 (pc' := 169) (l' := [some (.ref x0), some (.ref x1), some (.int z7.2)]) (st' := [.int z7.2]) rfl ?_
      obtain ⟨g11, h⟩ := ifg_some h
      cases h
      exact E_ret rfl (pg_mt_md (by decide)) (hk_retz g11 rfl) hr
    · rw [if_neg c4] at h
      refine E_jf rfl rfl c4 ?_
      exact E_wk (l' := [none, some (.ref x1), none]) ⟨rfl, trivial⟩ (s73_170 k1 h hr)
noncomputable def f73_84 (x0 : Nat) (x1 : Nat) (s : xS) : Option (xS × Int32) := (f82 x1 (7497060 : Int64) s).bind fun z1 => if z1.2 = 0 then (f73_127 x0 x1 z1.1) else (if (z1.1.1 x0 7) = 0 then ((pI z1.1 x0 7 (1 : Int32)).bind fun t5 => (f74 x1 (7497060 : Int64) (0 : Int32) (20 : Int32) t5).bind fun z7 => (pI z7.1 x0 4 (z7.1.1 x1 9)).bind fun t9 => ifg (z7.2 = 0 ∨ z7.2 = 1) <| some (t9, z7.2)) else (f73_127 x0 x1 z1.1))
set_option maxRecDepth 20000 in
theorem s73_84 {sc : Option (Nat × (Nat → Int32))} {x0 : Nat} {x1 : Nat} {s : xS} {o : xH × Option Value} {r : (xS × Int32)} (k0 : oK x0 7 = true) (k1 : oK x1 8 = true) (h : f73_84 x0 x1 s = some r) (hr : dn73 o r) : Ev sc 6 73 [] 84 [some (.ref x0), some (.ref x1), none] [] (hk_of s) o := by
  unfold f73_84 at h
  refine E_blk rfl ?_
  refine E_ps 2 (pc' := 88) (l' := [some (.ref x0), some (.ref x1), none]) (st' := [.long (7497060 : Int64), .ref x1]) rfl ?_
  obtain ⟨z1, e2, h⟩ := Option.bind_eq_some_iff.mp h
  refine E_callI (vs := [.ref x1, .long (7497060 : Int64)]) (rest := []) rfl (by decide) rfl rfl (Nat.le_of_ble_eq_true rfl) (s82 e2) (by decide) ?_
  by_cases c3 : z1.2 = 0
  · rw [if_pos c3] at h
    refine E_jt rfl rfl c3 ?_
    exact E_wk (l' := [some (.ref x0), some (.ref x1), none]) ⟨rfl, rfl, trivial⟩ (s73_127 k0 k1 h hr)
  · rw [if_neg c3] at h
    refine E_jf rfl rfl c3 ?_
    refine E_blk rfl ?_
    refine E_ps 1 (pc' := 95) (l' := [some (.ref x0), some (.ref x1), none]) (st' := [.ref x0]) rfl ?_
    refine E_gi k0 (by decide) rfl ?_
    by_cases c4 : (z1.1.1 x0 7) = 0
    · rw [if_pos c4] at h
      refine E_jt rfl rfl c4 ?_
      refine E_blk rfl ?_
      refine E_ps 2 (pc' := 103) (l' := [some (.ref x0), some (.ref x1), none]) (st' := [.int (1 : Int32), .ref x0]) rfl ?_
      obtain ⟨t5, e6, h⟩ := Option.bind_eq_some_iff.mp h
      refine E_pi k0 (by decide) rfl e6 ?_
      refine E_ps 4 (pc' := 113) (l' := [some (.ref x0), some (.ref x1), none]) (st' := [.int (20 : Int32), .int (0 : Int32), .long (7497060 : Int64), .ref x1]) rfl ?_
      obtain ⟨z7, e8, h⟩ := Option.bind_eq_some_iff.mp h
      refine E_callI (vs := [.ref x1, .long (7497060 : Int64), .int (0 : Int32), .int (20 : Int32)]) (rest := []) rfl (by decide) rfl rfl (Nat.le_of_ble_eq_true rfl) (s74 e8) (by decide) ?_
      refine E_ps 3 (pc' := 119) (l' := [some (.ref x0), some (.ref x1), some (.int z7.2)]) (st' := [.ref x1, .ref x0]) rfl ?_
      refine E_gi k1 (by decide) rfl ?_
      obtain ⟨t9, e10, h⟩ := Option.bind_eq_some_iff.mp h
      refine E_pi k0 (by decide) rfl e10 ?_
      refine E_ps 1 (pc' := 126) (l' := [some (.ref x0), some (.ref x1), some (.int z7.2)]) (st' := [.int z7.2]) rfl ?_
      obtain ⟨g11, h⟩ := ifg_some h
      cases h
      exact E_ret rfl (pg_mt_md (by decide)) (hk_retz g11 rfl) hr
    · rw [if_neg c4] at h
      refine E_jf rfl rfl c4 ?_
      exact E_wk (l' := [some (.ref x0), some (.ref x1), none]) ⟨rfl, rfl, trivial⟩ (s73_127 k0 k1 h hr)
noncomputable def f73_24 (x0 : Nat) (x1 : Nat) (s : xS) : Option (xS × Int32) := (f82 x1 (1936292453 : Int64) s).bind fun z1 => if z1.2 = 0 then (f73_84 x0 x1 z1.1) else (if (z1.1.1 x0 6) = 0 then (if (z1.1.1 x0 2) = 0 then ((pI z1.1 x0 6 (1 : Int32)).bind fun t6 => (f74 x1 (1936292453 : Int64) (3 : Int32) (5 : Int32) t6).bind fun z8 => if z8.2 = 0 then (f73_79 z8.2 (z8.1.1 x0 3) x0 z8.1) else (f73_79 z8.2 (z8.1.1 x1 9) x0 z8.1)) else (f73_84 x0 x1 z1.1)) else (f73_84 x0 x1 z1.1))
set_option maxRecDepth 20000 in
theorem s73_24 {sc : Option (Nat × (Nat → Int32))} {x0 : Nat} {x1 : Nat} {s : xS} {o : xH × Option Value} {r : (xS × Int32)} (k0 : oK x0 7 = true) (k1 : oK x1 8 = true) (h : f73_24 x0 x1 s = some r) (hr : dn73 o r) : Ev sc 6 73 [] 24 [some (.ref x0), some (.ref x1), none] [] (hk_of s) o := by
  unfold f73_24 at h
  refine E_blk rfl ?_
  refine E_ps 2 (pc' := 28) (l' := [some (.ref x0), some (.ref x1), none]) (st' := [.long (1936292453 : Int64), .ref x1]) rfl ?_
  obtain ⟨z1, e2, h⟩ := Option.bind_eq_some_iff.mp h
  refine E_callI (vs := [.ref x1, .long (1936292453 : Int64)]) (rest := []) rfl (by decide) rfl rfl (Nat.le_of_ble_eq_true rfl) (s82 e2) (by decide) ?_
  by_cases c3 : z1.2 = 0
  · rw [if_pos c3] at h
    refine E_jt rfl rfl c3 ?_
    exact E_wk (l' := [some (.ref x0), some (.ref x1), none]) ⟨rfl, rfl, trivial⟩ (s73_84 k0 k1 h hr)
  · rw [if_neg c3] at h
    refine E_jf rfl rfl c3 ?_
    refine E_blk rfl ?_
    refine E_ps 1 (pc' := 35) (l' := [some (.ref x0), some (.ref x1), none]) (st' := [.ref x0]) rfl ?_
    refine E_gi k0 (by decide) rfl ?_
    by_cases c4 : (z1.1.1 x0 6) = 0
    · rw [if_pos c4] at h
      refine E_jt rfl rfl c4 ?_
      refine E_blk rfl ?_
      refine E_ps 1 (pc' := 42) (l' := [some (.ref x0), some (.ref x1), none]) (st' := [.ref x0]) rfl ?_
      refine E_gi k0 (by decide) rfl ?_
      by_cases c5 : (z1.1.1 x0 2) = 0
      · rw [if_pos c5] at h
        refine E_jt rfl rfl c5 ?_
        refine E_blk rfl ?_
        refine E_ps 2 (pc' := 50) (l' := [some (.ref x0), some (.ref x1), none]) (st' := [.int (1 : Int32), .ref x0]) rfl ?_
        obtain ⟨t6, e7, h⟩ := Option.bind_eq_some_iff.mp h
        refine E_pi k0 (by decide) rfl e7 ?_
        refine E_ps 4 (pc' := 59) (l' := [some (.ref x0), some (.ref x1), none]) (st' := [.int (5 : Int32), .int (3 : Int32), .long (1936292453 : Int64), .ref x1]) rfl ?_
        obtain ⟨z8, e9, h⟩ := Option.bind_eq_some_iff.mp h
        refine E_callI (vs := [.ref x1, .long (1936292453 : Int64), .int (3 : Int32), .int (5 : Int32)]) (rest := []) rfl (by decide) rfl rfl (Nat.le_of_ble_eq_true rfl) (s74 e9) (by decide) ?_
        refine E_ps 3 (pc' := 65) (l' := [some (.ref x0), some (.ref x1), some (.int z8.2)]) (st' := [.int z8.2, .ref x0]) rfl ?_
        by_cases c10 : z8.2 = 0
        · rw [if_pos c10] at h
          refine E_jt rfl rfl c10 ?_
          refine E_blk rfl ?_
          refine E_ps 1 (pc' := 76) (l' := [some (.ref x0), some (.ref x1), some (.int z8.2)]) (st' := [.ref x0, .ref x0]) rfl ?_
          refine E_gi k0 (by decide) rfl ?_
          exact E_wk (l' := [none, none, some (.int z8.2)]) ⟨rfl, trivial⟩ (s73_79 k0 h hr)
        · rw [if_neg c10] at h
          refine E_jf rfl rfl c10 ?_
          refine E_blk rfl ?_
          refine E_ps 1 (pc' := 69) (l' := [some (.ref x0), some (.ref x1), some (.int z8.2)]) (st' := [.ref x1, .ref x0]) rfl ?_
          refine E_gi k1 (by decide) rfl ?_
          refine E_j rfl rfl ?_
          exact E_wk (l' := [none, none, some (.int z8.2)]) ⟨rfl, trivial⟩ (s73_79 k0 h hr)
      · rw [if_neg c5] at h
        refine E_jf rfl rfl c5 ?_
        exact E_wk (l' := [some (.ref x0), some (.ref x1), none]) ⟨rfl, rfl, trivial⟩ (s73_84 k0 k1 h hr)
    · rw [if_neg c4] at h
      refine E_jf rfl rfl c4 ?_
      exact E_wk (l' := [some (.ref x0), some (.ref x1), none]) ⟨rfl, rfl, trivial⟩ (s73_84 k0 k1 h hr)
noncomputable def f73 (x0 : Nat) (x1 : Nat) (s : xS) : Option (xS × Int32) := ifg (oK x0 7 = true) <| ifg (oK x1 8 = true) <| (f82 x1 (482854663269 : Int64) s).bind fun z1 => if z1.2 = 0 then (f73_24 x0 x1 z1.1) else (if (4 : Int32) ≤ (z1.1.1 x0 2) then (f73_24 x0 x1 z1.1) else ((f75 x0 x1 z1.1).bind fun z5 => ifg (z5.2 = 0 ∨ z5.2 = 1) <| some (z5.1, z5.2)))
set_option maxRecDepth 20000 in
theorem s73 {sc : Option (Nat × (Nat → Int32))} {x0 : Nat} {x1 : Nat} {s : xS} {r : xS × Int32} (h : f73 x0 x1 s = some r) : Cl sc 6 73 [.ref x0, .ref x1] (hk_of s) (hk_of r.1, some (.int r.2)) := by
  unfold f73 at h
  obtain ⟨k0, h⟩ := ifg_some h
  obtain ⟨k1, h⟩ := ifg_some h
  refine ⟨pg_md 73, [some (.ref x0), some (.ref x1), none], pg_mt_md (by decide), (hk_rcv k0), rfl, ?_⟩
  generalize ho : ((hk_of r.1, some (Value.int r.2)) : xH × Option Value) = o
  have hr : dn73 o r := ho.symm
  refine E_blk rfl ?_
  refine E_ps 2 (pc' := 4) (l' := [some (.ref x0), some (.ref x1), none]) (st' := [.long (482854663269 : Int64), .ref x1]) rfl ?_
  obtain ⟨z1, e2, h⟩ := Option.bind_eq_some_iff.mp h
  refine E_callI (vs := [.ref x1, .long (482854663269 : Int64)]) (rest := []) rfl (by decide) rfl rfl (Nat.le_of_ble_eq_true rfl) (s82 e2) (by decide) ?_
  by_cases c3 : z1.2 = 0
  · rw [if_pos c3] at h
    refine E_jt rfl rfl c3 ?_
    exact E_wk (l' := [some (.ref x0), some (.ref x1), none]) ⟨rfl, rfl, trivial⟩ (s73_24 k0 k1 h hr)
  · rw [if_neg c3] at h
    refine E_jf rfl rfl c3 ?_
    refine E_blk rfl ?_
    refine E_ps 1 (pc' := 11) (l' := [some (.ref x0), some (.ref x1), none]) (st' := [.ref x0]) rfl ?_
    refine E_gi k0 (by decide) rfl ?_
    refine E_ps 1 (pc' := 15) (l' := [some (.ref x0), some (.ref x1), none]) (st' := [.int (4 : Int32), .int (z1.1.1 x0 2)]) rfl ?_
    by_cases c4 : (4 : Int32) ≤ (z1.1.1 x0 2)
    · rw [if_pos c4] at h
      refine E_jt rfl rfl c4 ?_
      exact E_wk (l' := [some (.ref x0), some (.ref x1), none]) ⟨rfl, rfl, trivial⟩ (s73_24 k0 k1 h hr)
    · rw [if_neg c4] at h
      refine E_jf rfl rfl c4 ?_
      refine E_blk rfl ?_
      refine E_ps 2 (pc' := 20) (l' := [some (.ref x0), some (.ref x1), none]) (st' := [.ref x1, .ref x0]) rfl ?_
      obtain ⟨z5, e6, h⟩ := Option.bind_eq_some_iff.mp h
      refine E_callI (vs := [.ref x0, .ref x1]) (rest := []) rfl (by decide) rfl rfl (Nat.le_of_ble_eq_true rfl) (s75 e6) (by decide) ?_
      obtain ⟨g7, h⟩ := ifg_some h
      cases h
      exact E_ret rfl (pg_mt_md (by decide)) (hk_retz g7 rfl) hr

-- 72: ThreePlates$Shop.readShop(LThreePlates$Tape;)Z
def dn72 (o : xH × Option Value) (r : xS × Int32) : Prop := o = (hk_of r.1, some (.int r.2))
def dn72_37 (sc : Option (Nat × (Nat → Int32))) (x0 : Nat) (x1 : Nat) (o : xH × Option Value) (r : ((Int32 × xS) ⊕ (xS × Int32))) : Prop := match r with
  | .inl q => Ev sc 7 72 [] 37 [some (.ref x0), some (.ref x1), some (.int q.1)] [] (hk_of q.2) o
  | .inr r => dn72 o r
noncomputable def f72_37 (x0 : Nat) (x1 : Nat) (x2 : Int32) (s : xS) : Option ((Int32 × xS) ⊕ (xS × Int32)) := if (1200 : Int32) < x2 then (Option.map Sum.inr (some (s, (0 : Int32)))) else ((f81 x1 s).bind fun z2 => if z2.2 = 0 then ((f73 x0 x1 z2.1).bind fun z5 => if z5.2 = 0 then (Option.map Sum.inr (some (z5.1, (0 : Int32)))) else (some (Sum.inl ((x2 + (1 : Int32)), z5.1)))) else (Option.map Sum.inr (some (z2.1, (1 : Int32)))))
set_option maxRecDepth 20000 in
theorem s72_37 {sc : Option (Nat × (Nat → Int32))} {x0 : Nat} {x1 : Nat} {x2 : Int32} {s : xS} {o : xH × Option Value} {r : ((Int32 × xS) ⊕ (xS × Int32))} (k0 : oK x0 7 = true) (k1 : oK x1 8 = true) (h : f72_37 x0 x1 x2 s = some r) (hr : dn72_37 sc x0 x1 o r) : Ev sc 7 72 [] 37 [some (.ref x0), some (.ref x1), some (.int x2)] [] (hk_of s) o := by
  unfold f72_37 at h
  refine E_blk rfl ?_
  refine E_ps 2 (pc' := 41) (l' := [some (.ref x0), some (.ref x1), some (.int x2)]) (st' := [.int (1200 : Int32), .int x2]) rfl ?_
  by_cases c1 : (1200 : Int32) < x2
  · rw [if_pos c1] at h
    refine E_jt rfl rfl c1 ?_
    obtain ⟨r, h, hr⟩ := lf_some (Dn := dn72_37 sc x0 x1 o) h hr
    refine E_blk rfl ?_
    refine E_ps 1 (pc' := 70) (l' := [some (.ref x0), some (.ref x1), some (.int x2)]) (st' := [.int (0 : Int32)]) rfl ?_
    cases h
    exact E_ret rfl (pg_mt_md (by decide)) rfl hr
  · rw [if_neg c1] at h
    refine E_jf rfl rfl c1 ?_
    refine E_blk rfl ?_
    refine E_ps 1 (pc' := 45) (l' := [some (.ref x0), some (.ref x1), some (.int x2)]) (st' := [.ref x1]) rfl ?_
    obtain ⟨z2, e3, h⟩ := Option.bind_eq_some_iff.mp h
    refine E_callI (vs := [.ref x1]) (rest := []) rfl (by decide) rfl rfl (Nat.le_of_ble_eq_true rfl) (s81 e3) (by decide) ?_
    by_cases c4 : z2.2 = 0
    · rw [if_pos c4] at h
      refine E_jt rfl rfl c4 ?_
      refine E_blk rfl ?_
      refine E_ps 2 (pc' := 55) (l' := [some (.ref x0), some (.ref x1), some (.int x2)]) (st' := [.ref x1, .ref x0]) rfl ?_
      obtain ⟨z5, e6, h⟩ := Option.bind_eq_some_iff.mp h
      refine E_callI (vs := [.ref x0, .ref x1]) (rest := []) rfl (by decide) rfl rfl (Nat.le_of_ble_eq_true rfl) (s73 e6) (by decide) ?_
      by_cases c7 : z5.2 = 0
      · rw [if_pos c7] at h
        refine E_jt rfl rfl c7 ?_
        obtain ⟨r, h, hr⟩ := lf_some (Dn := dn72_37 sc x0 x1 o) h hr
        refine E_blk rfl ?_
        refine E_ps 1 (pc' := 62) (l' := [some (.ref x0), some (.ref x1), some (.int x2)]) (st' := [.int (0 : Int32)]) rfl ?_
        cases h
        exact E_ret rfl (pg_mt_md (by decide)) rfl hr
      · rw [if_neg c7] at h
        refine E_jf rfl rfl c7 ?_
        refine E_blk rfl ?_
        refine E_ps 1 (pc' := 66) (l' := [some (.ref x0), some (.ref x1), some (.int (x2 + (1 : Int32)))]) (st' := []) rfl ?_
        refine E_j rfl rfl ?_
        cases h
        exact E_wk (l' := [some (.ref x0), some (.ref x1), some (.int (x2 + (1 : Int32)))]) ⟨rfl, rfl, rfl, trivial⟩ hr
    · rw [if_neg c4] at h
      refine E_jf rfl rfl c4 ?_
      obtain ⟨r, h, hr⟩ := lf_some (Dn := dn72_37 sc x0 x1 o) h hr
      refine E_blk rfl ?_
      refine E_ps 1 (pc' := 52) (l' := [some (.ref x0), some (.ref x1), some (.int x2)]) (st' := [.int (1 : Int32)]) rfl ?_
      cases h
      exact E_ret rfl (pg_mt_md (by decide)) rfl hr
theorem s72_37_w {sc : Option (Nat × (Nat → Int32))} {x0 : Nat} {x1 : Nat} {x2 : Int32} {s : xS} {o : xH × Option Value} {r : (xS × Int32)} (k0 : oK x0 7 = true) (k1 : oK x1 8 = true) (h : whl (fun q : (Int32 × xS) => f72_37 x0 x1 q.1 q.2) (x2, s) = some r) (hr : dn72 o r) : Ev sc 7 72 [] 37 [some (.ref x0), some (.ref x1), some (.int x2)] [] (hk_of s) o := by
  refine whl_snd (E := fun q : (Int32 × xS) => Ev sc 7 72 [] 37 [some (.ref x0), some (.ref x1), some (.int q.1)] [] (hk_of q.2) o) (P := fun r => dn72 o r) (fun q r h hr => ?_) h hr
  exact s72_37 k0 k1 h (by cases r <;> exact hr)
noncomputable def f72 (x0 : Nat) (x1 : Nat) (s : xS) : Option (xS × Int32) := ifg (oK x0 7 = true) <| ifg (oK x1 8 = true) <| (pI s x0 2 (0 : Int32)).bind fun t1 => (pI t1 x0 3 (3 : Int32)).bind fun t3 => (pI t3 x0 4 (0 : Int32)).bind fun t5 => (pI t5 x0 5 (0 : Int32)).bind fun t7 => (pI t7 x0 6 (0 : Int32)).bind fun t9 => (pI t9 x0 7 (0 : Int32)).bind fun t11 => (pI t11 x0 8 (0 : Int32)).bind fun t13 => whl (fun q : (Int32 × xS) => f72_37 x0 x1 q.1 q.2) ((0 : Int32), t13)
set_option maxRecDepth 20000 in
theorem s72 {sc : Option (Nat × (Nat → Int32))} {x0 : Nat} {x1 : Nat} {s : xS} {r : xS × Int32} (h : f72 x0 x1 s = some r) : Cl sc 7 72 [.ref x0, .ref x1] (hk_of s) (hk_of r.1, some (.int r.2)) := by
  unfold f72 at h
  obtain ⟨k0, h⟩ := ifg_some h
  obtain ⟨k1, h⟩ := ifg_some h
  refine ⟨pg_md 72, [some (.ref x0), some (.ref x1), none], pg_mt_md (by decide), (hk_rcv k0), rfl, ?_⟩
  generalize ho : ((hk_of r.1, some (Value.int r.2)) : xH × Option Value) = o
  have hr : dn72 o r := ho.symm
  refine E_blk rfl ?_
  refine E_ps 2 (pc' := 2) (l' := [some (.ref x0), some (.ref x1), none]) (st' := [.int (0 : Int32), .ref x0]) rfl ?_
  obtain ⟨t1, e2, h⟩ := Option.bind_eq_some_iff.mp h
  refine E_pi k0 (by decide) rfl e2 ?_
  refine E_ps 2 (pc' := 7) (l' := [some (.ref x0), some (.ref x1), none]) (st' := [.int (3 : Int32), .ref x0]) rfl ?_
  obtain ⟨t3, e4, h⟩ := Option.bind_eq_some_iff.mp h
  refine E_pi k0 (by decide) rfl e4 ?_
  refine E_ps 2 (pc' := 12) (l' := [some (.ref x0), some (.ref x1), none]) (st' := [.int (0 : Int32), .ref x0]) rfl ?_
  obtain ⟨t5, e6, h⟩ := Option.bind_eq_some_iff.mp h
  refine E_pi k0 (by decide) rfl e6 ?_
  refine E_ps 2 (pc' := 17) (l' := [some (.ref x0), some (.ref x1), none]) (st' := [.int (0 : Int32), .ref x0]) rfl ?_
  obtain ⟨t7, e8, h⟩ := Option.bind_eq_some_iff.mp h
  refine E_pi k0 (by decide) rfl e8 ?_
  refine E_ps 2 (pc' := 22) (l' := [some (.ref x0), some (.ref x1), none]) (st' := [.int (0 : Int32), .ref x0]) rfl ?_
  obtain ⟨t9, e10, h⟩ := Option.bind_eq_some_iff.mp h
  refine E_pi k0 (by decide) rfl e10 ?_
  refine E_ps 2 (pc' := 27) (l' := [some (.ref x0), some (.ref x1), none]) (st' := [.int (0 : Int32), .ref x0]) rfl ?_
  obtain ⟨t11, e12, h⟩ := Option.bind_eq_some_iff.mp h
  refine E_pi k0 (by decide) rfl e12 ?_
  refine E_ps 2 (pc' := 32) (l' := [some (.ref x0), some (.ref x1), none]) (st' := [.int (0 : Int32), .ref x0]) rfl ?_
  obtain ⟨t13, e14, h⟩ := Option.bind_eq_some_iff.mp h
  refine E_pi k0 (by decide) rfl e14 ?_
  refine E_ps 2 (pc' := 37) (l' := [some (.ref x0), some (.ref x1), some (.int (0 : Int32))]) (st' := []) rfl ?_
  exact E_wk (l' := [some (.ref x0), some (.ref x1), some (.int (0 : Int32))]) ⟨rfl, rfl, rfl, trivial⟩ (s72_37_w k0 k1 h hr)

-- 77: ThreePlates$Tape.append(I)V
def dn77 (o : xH × Option Value) (r : xS × Unit) : Prop := o = (hk_of r.1, none)
def dn77_3 (sc : Option (Nat × (Nat → Int32))) (x0 : Nat) (x1 : Int32) (o : xH × Option Value) (r : ((Int32 × xS) ⊕ (xS × Unit))) : Prop := match r with
  | .inl q => Ev sc 1 77 [] 3 [some (.ref x0), some (.int x1), some (.int q.1)] [] (hk_of q.2) o
  | .inr r => dn77 o r
noncomputable def f77_40 (x0 : Nat) (x1 : Int32) (x2 : Int32) (s : xS) : Option ((Int32 × xS) ⊕ (xS × Unit)) := some (Sum.inl ((x2 + (-8 : Int32)), s))
set_option maxRecDepth 20000 in
theorem s77_40 {sc : Option (Nat × (Nat → Int32))} {x0 : Nat} {x1 : Int32} {x2 : Int32} {s : xS} {o : xH × Option Value} {r : ((Int32 × xS) ⊕ (xS × Unit))} (k0 : oK x0 8 = true) (h : f77_40 x0 x1 x2 s = some r) (hr : dn77_3 sc x0 x1 o r) : Ev sc 1 77 [] 40 [some (.ref x0), some (.int x1), some (.int x2)] [] (hk_of s) o := by
  unfold f77_40 at h
  refine E_blk rfl ?_
  refine E_ps 1 (pc' := 43) (l' := [some (.ref x0), some (.int x1), some (.int (x2 + (-8 : Int32)))]) (st' := []) rfl ?_
  refine E_j rfl rfl ?_
  cases h
  exact E_wk (l' := [some (.ref x0), some (.int x1), some (.int (x2 + (-8 : Int32)))]) ⟨rfl, rfl, rfl, trivial⟩ hr
noncomputable def f77_3 (x0 : Nat) (x1 : Int32) (x2 : Int32) (s : xS) : Option ((Int32 × xS) ⊕ (xS × Unit)) := if x2 < 0 then (Option.map Sum.inr (some (s, ()))) else (if (1200 : Int32) ≤ (s.1 x0 1) then (f77_40 x0 x1 x2 s) else ((hk_R x0 0).bind fun a3 => (wB s a3 (s.1 x0 1) ((xm_ush x1 x2)).toInt8.toInt32).bind fun t5 => (pI t5 x0 1 ((t5.1 x0 1) + (1 : Int32))).bind fun t7 => f77_40 x0 x1 x2 t7))
set_option maxRecDepth 20000 in
theorem s77_3 {sc : Option (Nat × (Nat → Int32))} {x0 : Nat} {x1 : Int32} {x2 : Int32} {s : xS} {o : xH × Option Value} {r : ((Int32 × xS) ⊕ (xS × Unit))} (k0 : oK x0 8 = true) (h : f77_3 x0 x1 x2 s = some r) (hr : dn77_3 sc x0 x1 o r) : Ev sc 1 77 [] 3 [some (.ref x0), some (.int x1), some (.int x2)] [] (hk_of s) o := by
  unfold f77_3 at h
  refine E_blk rfl ?_
  refine E_ps 1 (pc' := 4) (l' := [some (.ref x0), some (.int x1), some (.int x2)]) (st' := [.int x2]) rfl ?_
  by_cases c1 : x2 < 0
  · rw [if_pos c1] at h
    refine E_jt rfl rfl c1 ?_
    obtain ⟨r, h, hr⟩ := lf_some (Dn := dn77_3 sc x0 x1 o) h hr
    refine E_blk rfl ?_
    cases h
    exact E_ret rfl (pg_mt_md (by decide)) rfl hr
  · rw [if_neg c1] at h
    refine E_jf rfl rfl c1 ?_
    refine E_blk rfl ?_
    refine E_ps 1 (pc' := 8) (l' := [some (.ref x0), some (.int x1), some (.int x2)]) (st' := [.ref x0]) rfl ?_
    refine E_gi k0 (by decide) rfl ?_
    refine E_ps 1 (pc' := 14) (l' := [some (.ref x0), some (.int x1), some (.int x2)]) (st' := [.int (1200 : Int32), .int (s.1 x0 1)]) rfl ?_
    by_cases c2 : (1200 : Int32) ≤ (s.1 x0 1)
    · rw [if_pos c2] at h
      refine E_jt rfl rfl c2 ?_
      exact E_wk (l' := [some (.ref x0), some (.int x1), some (.int x2)]) ⟨rfl, rfl, rfl, trivial⟩ (s77_40 k0 h hr)
    · rw [if_neg c2] at h
      refine E_jf rfl rfl c2 ?_
      refine E_blk rfl ?_
      refine E_ps 1 (pc' := 18) (l' := [some (.ref x0), some (.int x1), some (.int x2)]) (st' := [.ref x0]) rfl ?_
      obtain ⟨a3, e4, h⟩ := Option.bind_eq_some_iff.mp h
      refine E_gr k0 (by decide) rfl e4 ?_
      refine E_ps 1 (pc' := 22) (l' := [some (.ref x0), some (.int x1), some (.int x2)]) (st' := [.ref x0, .ref a3]) rfl ?_
      refine E_gi k0 (by decide) rfl ?_
      refine E_ps 4 (pc' := 29) (l' := [some (.ref x0), some (.int x1), some (.int x2)]) (st' := [.int ((xm_ush x1 x2)).toInt8.toInt32, .int (s.1 x0 1), .ref a3]) rfl ?_
      obtain ⟨t5, e6, h⟩ := Option.bind_eq_some_iff.mp h
      refine E_wb e6 ?_
      refine E_ps 2 (pc' := 32) (l' := [some (.ref x0), some (.int x1), some (.int x2)]) (st' := [.ref x0, .ref x0]) rfl ?_
      refine E_gi k0 (by decide) rfl ?_
      refine E_ps 2 (pc' := 37) (l' := [some (.ref x0), some (.int x1), some (.int x2)]) (st' := [.int ((t5.1 x0 1) + (1 : Int32)), .ref x0]) rfl ?_
      obtain ⟨t7, e8, h⟩ := Option.bind_eq_some_iff.mp h
      refine E_pi k0 (by decide) rfl e8 ?_
      exact E_wk (l' := [some (.ref x0), some (.int x1), some (.int x2)]) ⟨rfl, rfl, rfl, trivial⟩ (s77_40 k0 h hr)
theorem s77_3_w {sc : Option (Nat × (Nat → Int32))} {x0 : Nat} {x1 : Int32} {x2 : Int32} {s : xS} {o : xH × Option Value} {r : (xS × Unit)} (k0 : oK x0 8 = true) (h : whl (fun q : (Int32 × xS) => f77_3 x0 x1 q.1 q.2) (x2, s) = some r) (hr : dn77 o r) : Ev sc 1 77 [] 3 [some (.ref x0), some (.int x1), some (.int x2)] [] (hk_of s) o := by
  refine whl_snd (E := fun q : (Int32 × xS) => Ev sc 1 77 [] 3 [some (.ref x0), some (.int x1), some (.int q.1)] [] (hk_of q.2) o) (P := fun r => dn77 o r) (fun q r h hr => ?_) h hr
  exact s77_3 k0 h (by cases r <;> exact hr)
noncomputable def f77 (x0 : Nat) (x1 : Int32) (s : xS) : Option (xS × Unit) := ifg (oK x0 8 = true) <| whl (fun q : (Int32 × xS) => f77_3 x0 x1 q.1 q.2) ((24 : Int32), s)
set_option maxRecDepth 20000 in
theorem s77 {sc : Option (Nat × (Nat → Int32))} {x0 : Nat} {x1 : Int32} {s : xS} {r : xS × Unit} (h : f77 x0 x1 s = some r) : Cl sc 1 77 [.ref x0, .int x1] (hk_of s) (hk_of r.1, none) := by
  unfold f77 at h
  obtain ⟨k0, h⟩ := ifg_some h
  refine ⟨pg_md 77, [some (.ref x0), some (.int x1), none], pg_mt_md (by decide), (hk_rcv k0), rfl, ?_⟩
  generalize ho : ((hk_of r.1, none) : xH × Option Value) = o
  have hr : dn77 o r := ho.symm
  refine E_blk rfl ?_
  refine E_ps 2 (pc' := 3) (l' := [some (.ref x0), some (.int x1), some (.int (24 : Int32))]) (st' := []) rfl ?_
  exact E_wk (l' := [some (.ref x0), some (.int x1), some (.int (24 : Int32))]) ⟨rfl, rfl, rfl, trivial⟩ (s77_3_w k0 h hr)

-- 78: ThreePlates$Tape.open()V
def dn78 (o : xH × Option Value) (r : xS × Unit) : Prop := o = (hk_of r.1, none)
noncomputable def f78 (x0 : Nat) (s : xS) : Option (xS × Unit) := ifg (oK x0 8 = true) <| (pI s x0 2 (0 : Int32)).bind fun t1 => (pI t1 x0 3 (-1 : Int32)).bind fun t3 => (pI t3 x0 4 (0 : Int32)).bind fun t5 => (f87 x0 t5).bind fun z7 => some (z7.1, ())
set_option maxRecDepth 20000 in
theorem s78 {sc : Option (Nat × (Nat → Int32))} {x0 : Nat} {s : xS} {r : xS × Unit} (h : f78 x0 s = some r) : Cl sc 4 78 [.ref x0] (hk_of s) (hk_of r.1, none) := by
  unfold f78 at h
  obtain ⟨k0, h⟩ := ifg_some h
  refine ⟨pg_md 78, [some (.ref x0)], pg_mt_md (by decide), (hk_rcv k0), rfl, ?_⟩
  generalize ho : ((hk_of r.1, none) : xH × Option Value) = o
  have hr : dn78 o r := ho.symm
  refine E_blk rfl ?_
  refine E_ps 2 (pc' := 2) (l' := [some (.ref x0)]) (st' := [.int (0 : Int32), .ref x0]) rfl ?_
  obtain ⟨t1, e2, h⟩ := Option.bind_eq_some_iff.mp h
  refine E_pi k0 (by decide) rfl e2 ?_
  refine E_ps 2 (pc' := 7) (l' := [some (.ref x0)]) (st' := [.int (-1 : Int32), .ref x0]) rfl ?_
  obtain ⟨t3, e4, h⟩ := Option.bind_eq_some_iff.mp h
  refine E_pi k0 (by decide) rfl e4 ?_
  refine E_ps 2 (pc' := 12) (l' := [some (.ref x0)]) (st' := [.int (0 : Int32), .ref x0]) rfl ?_
  obtain ⟨t5, e6, h⟩ := Option.bind_eq_some_iff.mp h
  refine E_pi k0 (by decide) rfl e6 ?_
  refine E_ps 1 (pc' := 16) (l' := [some (.ref x0)]) (st' := [.ref x0]) rfl ?_
  obtain ⟨z7, e8, h⟩ := Option.bind_eq_some_iff.mp h
  refine E_callV (vs := [.ref x0]) (rest := []) rfl (by decide) rfl rfl (Nat.le_of_ble_eq_true rfl) (s87 e8) (by decide) ?_
  cases h
  exact E_ret rfl (pg_mt_md (by decide)) rfl hr

-- 96: ThreePlates$Trials.isFlat(LThreePlates$Bench;II)Z
def dn96 (o : xH × Option Value) (r : xS × Int32) : Prop := o = (hk_of r.1, some (.int r.2))
noncomputable def f96 (x0 : Nat) (x1 : Nat) (x2 : Int32) (x3 : Int32) (s : xS) : Option (xS × Int32) := ifg (oK x0 9 = true) <| ifg (oK x1 0 = true) <| (hk_R x0 3).bind fun a1 => (f30 a1 x1 x2 (1 : Int32) s).bind fun z4 => (hk_R x0 3).bind fun a6 => (hk_R a6 1).bind fun a9 => (f49 a9 z4.1).bind fun z12 => (hk_R x0 3).bind fun a14 => (hk_R a14 1).bind fun a17 => (f48 a17 x3 z12.1).bind fun z20 => ifg (z20.2 = 0 ∨ z20.2 = 1) <| some (z20.1, z20.2)
set_option maxRecDepth 20000 in
theorem s96 {sc : Option (Nat × (Nat → Int32))} {x0 : Nat} {x1 : Nat} {x2 : Int32} {x3 : Int32} {s : xS} {r : xS × Int32} (h : f96 x0 x1 x2 x3 s = some r) : Cl sc 4 96 [.ref x0, .ref x1, .int x2, .int x3] (hk_of s) (hk_of r.1, some (.int r.2)) := by
  unfold f96 at h
  obtain ⟨k0, h⟩ := ifg_some h
  obtain ⟨k1, h⟩ := ifg_some h
  refine ⟨pg_md 96, [some (.ref x0), some (.ref x1), some (.int x2), some (.int x3)], pg_mt_md (by decide), (hk_rcv k0), rfl, ?_⟩
  generalize ho : ((hk_of r.1, some (Value.int r.2)) : xH × Option Value) = o
  have hr : dn96 o r := ho.symm
  refine E_blk rfl ?_
  refine E_ps 1 (pc' := 1) (l' := [some (.ref x0), some (.ref x1), some (.int x2), some (.int x3)]) (st' := [.ref x0]) rfl ?_
  obtain ⟨a1, e2, h⟩ := Option.bind_eq_some_iff.mp h
  refine E_gr k0 (by decide) rfl e2 ?_
  have kf3 : oK a1 3 = true := hk_rty k0 e2 rfl (by decide)
  refine E_ps 3 (pc' := 7) (l' := [some (.ref x0), some (.ref x1), some (.int x2), some (.int x3)]) (st' := [.int (1 : Int32), .int x2, .ref x1, .ref a1]) rfl ?_
  obtain ⟨z4, e5, h⟩ := Option.bind_eq_some_iff.mp h
  refine E_callV (vs := [.ref a1, .ref x1, .int x2, .int (1 : Int32)]) (rest := []) rfl (by decide) rfl rfl (Nat.le_of_ble_eq_true rfl) (s30 e5) (by decide) ?_
  refine E_ps 1 (pc' := 11) (l' := [some (.ref x0), some (.ref x1), some (.int x2), some (.int x3)]) (st' := [.ref x0]) rfl ?_
  obtain ⟨a6, e7, h⟩ := Option.bind_eq_some_iff.mp h
  refine E_gr k0 (by decide) rfl e7 ?_
  have kf8 : oK a6 3 = true := hk_rty k0 e7 rfl (by decide)
  obtain ⟨a9, e10, h⟩ := Option.bind_eq_some_iff.mp h
  refine E_gr kf8 (by decide) rfl e10 ?_
  have kf11 : oK a9 5 = true := hk_rty kf8 e10 rfl (by decide)
  obtain ⟨z12, e13, h⟩ := Option.bind_eq_some_iff.mp h
  refine E_callV (vs := [.ref a9]) (rest := []) rfl (by decide) rfl rfl (Nat.le_of_ble_eq_true rfl) (s49 e13) (by decide) ?_
  refine E_ps 1 (pc' := 21) (l' := [some (.ref x0), some (.ref x1), some (.int x2), some (.int x3)]) (st' := [.ref x0]) rfl ?_
  obtain ⟨a14, e15, h⟩ := Option.bind_eq_some_iff.mp h
  refine E_gr k0 (by decide) rfl e15 ?_
  have kf16 : oK a14 3 = true := hk_rty k0 e15 rfl (by decide)
  obtain ⟨a17, e18, h⟩ := Option.bind_eq_some_iff.mp h
  refine E_gr kf16 (by decide) rfl e18 ?_
  have kf19 : oK a17 5 = true := hk_rty kf16 e18 rfl (by decide)
  refine E_ps 1 (pc' := 28) (l' := [some (.ref x0), some (.ref x1), some (.int x2), some (.int x3)]) (st' := [.int x3, .ref a17]) rfl ?_
  obtain ⟨z20, e21, h⟩ := Option.bind_eq_some_iff.mp h
  refine E_callI (vs := [.ref a17, .int x3]) (rest := []) rfl (by decide) rfl rfl (Nat.le_of_ble_eq_true rfl) (s48 e21) (by decide) ?_
  obtain ⟨g22, h⟩ := ifg_some h
  cases h
  exact E_ret rfl (pg_mt_md (by decide)) (hk_retz g22 rfl) hr

-- 97: ThreePlates$Trials.areAllFlat(I)Z
def dn97 (o : xH × Option Value) (r : xS × Int32) : Prop := o = (hk_of r.1, some (.int r.2))
def dn97_2 (sc : Option (Nat × (Nat → Int32))) (x0 : Nat) (x1 : Int32) (o : xH × Option Value) (r : ((Int32 × xS) ⊕ (xS × Int32))) : Prop := match r with
  | .inl q => Ev sc 5 97 [] 2 [some (.ref x0), some (.int x1), some (.int q.1)] [] (hk_of q.2) o
  | .inr r => dn97 o r
noncomputable def f97_2 (x0 : Nat) (x1 : Int32) (x2 : Int32) (s : xS) : Option ((Int32 × xS) ⊕ (xS × Int32)) := (hk_R x0 0).bind fun a1 => if (s.1 a1 2) ≤ x2 then (Option.map Sum.inr (some (s, (1 : Int32)))) else ((hk_R x0 2).bind fun a5 => (f96 x0 a5 x2 x1 s).bind fun z8 => if z8.2 = 0 then (Option.map Sum.inr (some (z8.1, (0 : Int32)))) else (some (Sum.inl ((x2 + (1 : Int32)), z8.1))))
set_option maxRecDepth 20000 in
theorem s97_2 {sc : Option (Nat × (Nat → Int32))} {x0 : Nat} {x1 : Int32} {x2 : Int32} {s : xS} {o : xH × Option Value} {r : ((Int32 × xS) ⊕ (xS × Int32))} (k0 : oK x0 9 = true) (h : f97_2 x0 x1 x2 s = some r) (hr : dn97_2 sc x0 x1 o r) : Ev sc 5 97 [] 2 [some (.ref x0), some (.int x1), some (.int x2)] [] (hk_of s) o := by
  unfold f97_2 at h
  refine E_blk rfl ?_
  refine E_ps 2 (pc' := 4) (l' := [some (.ref x0), some (.int x1), some (.int x2)]) (st' := [.ref x0, .int x2]) rfl ?_
  obtain ⟨a1, e2, h⟩ := Option.bind_eq_some_iff.mp h
  refine E_gr k0 (by decide) rfl e2 ?_
  have kf3 : oK a1 7 = true := hk_rty k0 e2 rfl (by decide)
  refine E_gi kf3 (by decide) rfl ?_
  by_cases c4 : (s.1 a1 2) ≤ x2
  · rw [if_pos c4] at h
    refine E_jt rfl rfl c4 ?_
    obtain ⟨r, h, hr⟩ := lf_some (Dn := dn97_2 sc x0 x1 o) h hr
    refine E_blk rfl ?_
    refine E_ps 1 (pc' := 35) (l' := [some (.ref x0), some (.int x1), some (.int x2)]) (st' := [.int (1 : Int32)]) rfl ?_
    cases h
    exact E_ret rfl (pg_mt_md (by decide)) rfl hr
  · rw [if_neg c4] at h
    refine E_jf rfl rfl c4 ?_
    refine E_blk rfl ?_
    refine E_ps 2 (pc' := 15) (l' := [some (.ref x0), some (.int x1), some (.int x2)]) (st' := [.ref x0, .ref x0]) rfl ?_
    obtain ⟨a5, e6, h⟩ := Option.bind_eq_some_iff.mp h
    refine E_gr k0 (by decide) rfl e6 ?_
    have kf7 : oK a5 0 = true := hk_rty k0 e6 rfl (by decide)
    refine E_ps 2 (pc' := 20) (l' := [some (.ref x0), some (.int x1), some (.int x2)]) (st' := [.int x1, .int x2, .ref a5, .ref x0]) rfl ?_
    obtain ⟨z8, e9, h⟩ := Option.bind_eq_some_iff.mp h
    refine E_callI (vs := [.ref x0, .ref a5, .int x2, .int x1]) (rest := []) rfl (by decide) rfl rfl (Nat.le_of_ble_eq_true rfl) (s96 e9) (by decide) ?_
    by_cases c10 : z8.2 = 0
    · rw [if_pos c10] at h
      refine E_jt rfl rfl c10 ?_
      obtain ⟨r, h, hr⟩ := lf_some (Dn := dn97_2 sc x0 x1 o) h hr
      refine E_blk rfl ?_
      refine E_ps 1 (pc' := 27) (l' := [some (.ref x0), some (.int x1), some (.int x2)]) (st' := [.int (0 : Int32)]) rfl ?_
      cases h
      exact E_ret rfl (pg_mt_md (by decide)) rfl hr
    · rw [if_neg c10] at h
      refine E_jf rfl rfl c10 ?_
      refine E_blk rfl ?_
      refine E_ps 1 (pc' := 31) (l' := [some (.ref x0), some (.int x1), some (.int (x2 + (1 : Int32)))]) (st' := []) rfl ?_
      refine E_j rfl rfl ?_
      cases h
      exact E_wk (l' := [some (.ref x0), some (.int x1), some (.int (x2 + (1 : Int32)))]) ⟨rfl, rfl, rfl, trivial⟩ hr
theorem s97_2_w {sc : Option (Nat × (Nat → Int32))} {x0 : Nat} {x1 : Int32} {x2 : Int32} {s : xS} {o : xH × Option Value} {r : (xS × Int32)} (k0 : oK x0 9 = true) (h : whl (fun q : (Int32 × xS) => f97_2 x0 x1 q.1 q.2) (x2, s) = some r) (hr : dn97 o r) : Ev sc 5 97 [] 2 [some (.ref x0), some (.int x1), some (.int x2)] [] (hk_of s) o := by
  refine whl_snd (E := fun q : (Int32 × xS) => Ev sc 5 97 [] 2 [some (.ref x0), some (.int x1), some (.int q.1)] [] (hk_of q.2) o) (P := fun r => dn97 o r) (fun q r h hr => ?_) h hr
  exact s97_2 k0 h (by cases r <;> exact hr)
noncomputable def f97 (x0 : Nat) (x1 : Int32) (s : xS) : Option (xS × Int32) := ifg (oK x0 9 = true) <| whl (fun q : (Int32 × xS) => f97_2 x0 x1 q.1 q.2) ((0 : Int32), s)
set_option maxRecDepth 20000 in
theorem s97 {sc : Option (Nat × (Nat → Int32))} {x0 : Nat} {x1 : Int32} {s : xS} {r : xS × Int32} (h : f97 x0 x1 s = some r) : Cl sc 5 97 [.ref x0, .int x1] (hk_of s) (hk_of r.1, some (.int r.2)) := by
  unfold f97 at h
  obtain ⟨k0, h⟩ := ifg_some h
  refine ⟨pg_md 97, [some (.ref x0), some (.int x1), none], pg_mt_md (by decide), (hk_rcv k0), rfl, ?_⟩
  generalize ho : ((hk_of r.1, some (Value.int r.2)) : xH × Option Value) = o
  have hr : dn97 o r := ho.symm
  refine E_blk rfl ?_
  refine E_ps 2 (pc' := 2) (l' := [some (.ref x0), some (.int x1), some (.int (0 : Int32))]) (st' := []) rfl ?_
  exact E_wk (l' := [some (.ref x0), some (.int x1), some (.int (0 : Int32))]) ⟨rfl, rfl, rfl, trivial⟩ (s97_2_w k0 h hr)

-- 98: ThreePlates$Trials.lookForFlat(I)V
def dn98 (o : xH × Option Value) (r : xS × Unit) : Prop := o = (hk_of r.1, none)
def dn98_2 (sc : Option (Nat × (Nat → Int32))) (x0 : Nat) (x1 : Int32) (o : xH × Option Value) (r : ((Int32 × xS) ⊕ (xS × Unit))) : Prop := match r with
  | .inl q => Ev sc 5 98 [] 2 [some (.ref x0), some (.int x1), some (.int q.1)] [] (hk_of q.2) o
  | .inr r => dn98 o r
noncomputable def f98_2 (x0 : Nat) (x1 : Int32) (x2 : Int32) (s : xS) : Option ((Int32 × xS) ⊕ (xS × Unit)) := (hk_R x0 0).bind fun a1 => if (s.1 a1 2) ≤ x2 then (Option.map Sum.inr (some (s, ()))) else ((hk_R x0 5).bind fun a5 => (hk_R x0 2).bind fun a7 => (f96 x0 a7 x2 x1 s).bind fun z10 => (wB z10.1 a5 x2 z10.2).bind fun t12 => some (Sum.inl ((x2 + (1 : Int32)), t12)))
set_option maxRecDepth 20000 in
theorem s98_2 {sc : Option (Nat × (Nat → Int32))} {x0 : Nat} {x1 : Int32} {x2 : Int32} {s : xS} {o : xH × Option Value} {r : ((Int32 × xS) ⊕ (xS × Unit))} (k0 : oK x0 9 = true) (h : f98_2 x0 x1 x2 s = some r) (hr : dn98_2 sc x0 x1 o r) : Ev sc 5 98 [] 2 [some (.ref x0), some (.int x1), some (.int x2)] [] (hk_of s) o := by
  unfold f98_2 at h
  refine E_blk rfl ?_
  refine E_ps 2 (pc' := 4) (l' := [some (.ref x0), some (.int x1), some (.int x2)]) (st' := [.ref x0, .int x2]) rfl ?_
  obtain ⟨a1, e2, h⟩ := Option.bind_eq_some_iff.mp h
  refine E_gr k0 (by decide) rfl e2 ?_
  have kf3 : oK a1 7 = true := hk_rty k0 e2 rfl (by decide)
  refine E_gi kf3 (by decide) rfl ?_
  by_cases c4 : (s.1 a1 2) ≤ x2
  · rw [if_pos c4] at h
    refine E_jt rfl rfl c4 ?_
    obtain ⟨r, h, hr⟩ := lf_some (Dn := dn98_2 sc x0 x1 o) h hr
    refine E_blk rfl ?_
    cases h
    exact E_ret rfl (pg_mt_md (by decide)) rfl hr
  · rw [if_neg c4] at h
    refine E_jf rfl rfl c4 ?_
    refine E_blk rfl ?_
    refine E_ps 1 (pc' := 14) (l' := [some (.ref x0), some (.int x1), some (.int x2)]) (st' := [.ref x0]) rfl ?_
    obtain ⟨a5, e6, h⟩ := Option.bind_eq_some_iff.mp h
    refine E_gr k0 (by decide) rfl e6 ?_
    refine E_ps 3 (pc' := 20) (l' := [some (.ref x0), some (.int x1), some (.int x2)]) (st' := [.ref x0, .ref x0, .int x2, .ref a5]) rfl ?_
    obtain ⟨a7, e8, h⟩ := Option.bind_eq_some_iff.mp h
    refine E_gr k0 (by decide) rfl e8 ?_
    have kf9 : oK a7 0 = true := hk_rty k0 e8 rfl (by decide)
    refine E_ps 2 (pc' := 25) (l' := [some (.ref x0), some (.int x1), some (.int x2)]) (st' := [.int x1, .int x2, .ref a7, .ref x0, .int x2, .ref a5]) rfl ?_
    obtain ⟨z10, e11, h⟩ := Option.bind_eq_some_iff.mp h
    refine E_callI (vs := [.ref x0, .ref a7, .int x2, .int x1]) (rest := [.int x2, .ref a5]) rfl (by decide) rfl rfl (Nat.le_of_ble_eq_true rfl) (s96 e11) (by decide) ?_
    obtain ⟨t12, e13, h⟩ := Option.bind_eq_some_iff.mp h
    refine E_wb e13 ?_
    refine E_ps 1 (pc' := 32) (l' := [some (.ref x0), some (.int x1), some (.int (x2 + (1 : Int32)))]) (st' := []) rfl ?_
    refine E_j rfl rfl ?_
    cases h
    exact E_wk (l' := [some (.ref x0), some (.int x1), some (.int (x2 + (1 : Int32)))]) ⟨rfl, rfl, rfl, trivial⟩ hr
theorem s98_2_w {sc : Option (Nat × (Nat → Int32))} {x0 : Nat} {x1 : Int32} {x2 : Int32} {s : xS} {o : xH × Option Value} {r : (xS × Unit)} (k0 : oK x0 9 = true) (h : whl (fun q : (Int32 × xS) => f98_2 x0 x1 q.1 q.2) (x2, s) = some r) (hr : dn98 o r) : Ev sc 5 98 [] 2 [some (.ref x0), some (.int x1), some (.int x2)] [] (hk_of s) o := by
  refine whl_snd (E := fun q : (Int32 × xS) => Ev sc 5 98 [] 2 [some (.ref x0), some (.int x1), some (.int q.1)] [] (hk_of q.2) o) (P := fun r => dn98 o r) (fun q r h hr => ?_) h hr
  exact s98_2 k0 h (by cases r <;> exact hr)
noncomputable def f98 (x0 : Nat) (x1 : Int32) (s : xS) : Option (xS × Unit) := ifg (oK x0 9 = true) <| whl (fun q : (Int32 × xS) => f98_2 x0 x1 q.1 q.2) ((0 : Int32), s)
set_option maxRecDepth 20000 in
theorem s98 {sc : Option (Nat × (Nat → Int32))} {x0 : Nat} {x1 : Int32} {s : xS} {r : xS × Unit} (h : f98 x0 x1 s = some r) : Cl sc 5 98 [.ref x0, .int x1] (hk_of s) (hk_of r.1, none) := by
  unfold f98 at h
  obtain ⟨k0, h⟩ := ifg_some h
  refine ⟨pg_md 98, [some (.ref x0), some (.int x1), none], pg_mt_md (by decide), (hk_rcv k0), rfl, ?_⟩
  generalize ho : ((hk_of r.1, none) : xH × Option Value) = o
  have hr : dn98 o r := ho.symm
  refine E_blk rfl ?_
  refine E_ps 2 (pc' := 2) (l' := [some (.ref x0), some (.int x1), some (.int (0 : Int32))]) (st' := []) rfl ?_
  exact E_wk (l' := [some (.ref x0), some (.int x1), some (.int (0 : Int32))]) ⟨rfl, rfl, rfl, trivial⟩ (s98_2_w k0 h hr)

-- 99: ThreePlates$Trials.isEachFlat()Z
def dn99 (o : xH × Option Value) (r : xS × Int32) : Prop := o = (hk_of r.1, some (.int r.2))
def dn99_2 (sc : Option (Nat × (Nat → Int32))) (x0 : Nat) (o : xH × Option Value) (r : ((Int32 × xS) ⊕ (xS × Int32))) : Prop := match r with
  | .inl q => Ev sc 1 99 [] 2 [some (.ref x0), some (.int q.1)] [] (hk_of q.2) o
  | .inr r => dn99 o r
noncomputable def f99_2 (x0 : Nat) (x1 : Int32) (s : xS) : Option ((Int32 × xS) ⊕ (xS × Int32)) := (hk_R x0 0).bind fun a1 => if (s.1 a1 2) ≤ x1 then (Option.map Sum.inr (some (s, (1 : Int32)))) else ((hk_R x0 5).bind fun a5 => (aB s a5 x1).bind fun v7 => if v7 = 0 then (Option.map Sum.inr (some (s, (0 : Int32)))) else (some (Sum.inl ((x1 + (1 : Int32)), s))))
set_option maxRecDepth 20000 in
theorem s99_2 {sc : Option (Nat × (Nat → Int32))} {x0 : Nat} {x1 : Int32} {s : xS} {o : xH × Option Value} {r : ((Int32 × xS) ⊕ (xS × Int32))} (k0 : oK x0 9 = true) (h : f99_2 x0 x1 s = some r) (hr : dn99_2 sc x0 o r) : Ev sc 1 99 [] 2 [some (.ref x0), some (.int x1)] [] (hk_of s) o := by
  unfold f99_2 at h
  refine E_blk rfl ?_
  refine E_ps 2 (pc' := 4) (l' := [some (.ref x0), some (.int x1)]) (st' := [.ref x0, .int x1]) rfl ?_
  obtain ⟨a1, e2, h⟩ := Option.bind_eq_some_iff.mp h
  refine E_gr k0 (by decide) rfl e2 ?_
  have kf3 : oK a1 7 = true := hk_rty k0 e2 rfl (by decide)
  refine E_gi kf3 (by decide) rfl ?_
  by_cases c4 : (s.1 a1 2) ≤ x1
  · rw [if_pos c4] at h
    refine E_jt rfl rfl c4 ?_
    obtain ⟨r, h, hr⟩ := lf_some (Dn := dn99_2 sc x0 o) h hr
    refine E_blk rfl ?_
    refine E_ps 1 (pc' := 31) (l' := [some (.ref x0), some (.int x1)]) (st' := [.int (1 : Int32)]) rfl ?_
    cases h
    exact E_ret rfl (pg_mt_md (by decide)) rfl hr
  · rw [if_neg c4] at h
    refine E_jf rfl rfl c4 ?_
    refine E_blk rfl ?_
    refine E_ps 1 (pc' := 14) (l' := [some (.ref x0), some (.int x1)]) (st' := [.ref x0]) rfl ?_
    obtain ⟨a5, e6, h⟩ := Option.bind_eq_some_iff.mp h
    refine E_gr k0 (by decide) rfl e6 ?_
    refine E_ps 1 (pc' := 18) (l' := [some (.ref x0), some (.int x1)]) (st' := [.int x1, .ref a5]) rfl ?_
    obtain ⟨v7, e8, h⟩ := Option.bind_eq_some_iff.mp h
    refine E_ab e8 ?_
    by_cases c9 : v7 = 0
    · rw [if_pos c9] at h
      refine E_jt rfl rfl c9 ?_
      obtain ⟨r, h, hr⟩ := lf_some (Dn := dn99_2 sc x0 o) h hr
      refine E_blk rfl ?_
      refine E_ps 1 (pc' := 23) (l' := [some (.ref x0), some (.int x1)]) (st' := [.int (0 : Int32)]) rfl ?_
      cases h
      exact E_ret rfl (pg_mt_md (by decide)) rfl hr
    · rw [if_neg c9] at h
      refine E_jf rfl rfl c9 ?_
      refine E_blk rfl ?_
      refine E_ps 1 (pc' := 27) (l' := [some (.ref x0), some (.int (x1 + (1 : Int32)))]) (st' := []) rfl ?_
      refine E_j rfl rfl ?_
      cases h
      exact E_wk (l' := [some (.ref x0), some (.int (x1 + (1 : Int32)))]) ⟨rfl, rfl, trivial⟩ hr
theorem s99_2_w {sc : Option (Nat × (Nat → Int32))} {x0 : Nat} {x1 : Int32} {s : xS} {o : xH × Option Value} {r : (xS × Int32)} (k0 : oK x0 9 = true) (h : whl (fun q : (Int32 × xS) => f99_2 x0 q.1 q.2) (x1, s) = some r) (hr : dn99 o r) : Ev sc 1 99 [] 2 [some (.ref x0), some (.int x1)] [] (hk_of s) o := by
  refine whl_snd (E := fun q : (Int32 × xS) => Ev sc 1 99 [] 2 [some (.ref x0), some (.int q.1)] [] (hk_of q.2) o) (P := fun r => dn99 o r) (fun q r h hr => ?_) h hr
  exact s99_2 k0 h (by cases r <;> exact hr)
noncomputable def f99 (x0 : Nat) (s : xS) : Option (xS × Int32) := ifg (oK x0 9 = true) <| whl (fun q : (Int32 × xS) => f99_2 x0 q.1 q.2) ((0 : Int32), s)
set_option maxRecDepth 20000 in
theorem s99 {sc : Option (Nat × (Nat → Int32))} {x0 : Nat} {s : xS} {r : xS × Int32} (h : f99 x0 s = some r) : Cl sc 1 99 [.ref x0] (hk_of s) (hk_of r.1, some (.int r.2)) := by
  unfold f99 at h
  obtain ⟨k0, h⟩ := ifg_some h
  refine ⟨pg_md 99, [some (.ref x0), none], pg_mt_md (by decide), (hk_rcv k0), rfl, ?_⟩
  generalize ho : ((hk_of r.1, some (Value.int r.2)) : xH × Option Value) = o
  have hr : dn99 o r := ho.symm
  refine E_blk rfl ?_
  refine E_ps 2 (pc' := 2) (l' := [some (.ref x0), some (.int (0 : Int32))]) (st' := []) rfl ?_
  exact E_wk (l' := [some (.ref x0), some (.int (0 : Int32))]) ⟨rfl, rfl, trivial⟩ (s99_2_w k0 h hr)

-- 100: ThreePlates$Trials.roundsTillFlat(I)I
def dn100 (o : xH × Option Value) (r : xS × Int32) : Prop := o = (hk_of r.1, some (.int r.2))
def dn100_22 (sc : Option (Nat × (Nat → Int32))) (x0 : Nat) (x1 : Int32) (x2 : Nat) (o : xH × Option Value) (r : ((Int32 × xS) ⊕ (xS × Int32))) : Prop := match r with
  | .inl q => Ev sc 6 100 [] 22 [some (.ref x0), some (.int x1), some (.ref x2), some (.int q.1), none] [] (hk_of q.2) o
  | .inr r => dn100 o r
noncomputable def f100_100 (y0 : Int32) (s : xS) : Option (xS × Int32) := some (s, y0)
set_option maxRecDepth 20000 in
theorem s100_100 {sc : Option (Nat × (Nat → Int32))} {y0 : Int32} {s : xS} {o : xH × Option Value} {r : (xS × Int32)}  (h : f100_100 y0 s = some r) (hr : dn100 o r) : Ev sc 6 100 [] 100 [none, none, none, none, none] [.int y0] (hk_of s) o := by
  unfold f100_100 at h
  refine E_blk rfl ?_
  cases h
  exact E_ret rfl (pg_mt_md (by decide)) rfl hr
noncomputable def f100_22 (x0 : Nat) (x1 : Int32) (x2 : Nat) (x3 : Int32) (s : xS) : Option ((Int32 × xS) ⊕ (xS × Int32)) := if (300 : Int32) ≤ x3 then (Option.map Sum.inr ((f99 x0 s).bind fun z2 => if z2.2 = 0 then (f100_100 (-1 : Int32) z2.1) else (f100_100 (300 : Int32) z2.1))) else ((f99 x0 s).bind fun z5 => if z5.2 = 0 then ((hk_R x0 1).bind fun a8 => (f40 a8 x3 z5.1).bind fun z11 => ifg (oK z11.2 6 = true) <| (hk_R x0 3).bind fun a14 => (f36 a14 x2 z11.2 z11.1).bind fun z17 => (hk_R x0 5).bind fun a19 => (f96 x0 x2 (z17.1.1 z11.2 5) x1 z17.1).bind fun z21 => (wB z21.1 a19 (z17.1.1 z11.2 5) z21.2).bind fun t23 => some (Sum.inl ((x3 + (1 : Int32)), t23))) else (Option.map Sum.inr (some (z5.1, x3))))
set_option maxRecDepth 20000 in
theorem s100_22 {sc : Option (Nat × (Nat → Int32))} {x0 : Nat} {x1 : Int32} {x2 : Nat} {x3 : Int32} {s : xS} {o : xH × Option Value} {r : ((Int32 × xS) ⊕ (xS × Int32))} (k0 : oK x0 9 = true) (k2 : oK x2 0 = true) (h : f100_22 x0 x1 x2 x3 s = some r) (hr : dn100_22 sc x0 x1 x2 o r) : Ev sc 6 100 [] 22 [some (.ref x0), some (.int x1), some (.ref x2), some (.int x3), none] [] (hk_of s) o := by
  unfold f100_22 at h
  refine E_blk rfl ?_
  refine E_ps 2 (pc' := 26) (l' := [some (.ref x0), some (.int x1), some (.ref x2), some (.int x3), none]) (st' := [.int (300 : Int32), .int x3]) rfl ?_
  by_cases c1 : (300 : Int32) ≤ x3
  · rw [if_pos c1] at h
    refine E_jt rfl rfl c1 ?_
    obtain ⟨r, h, hr⟩ := lf_some (Dn := dn100_22 sc x0 x1 x2 o) h hr
    refine E_blk rfl ?_
    refine E_ps 1 (pc' := 87) (l' := [some (.ref x0), some (.int x1), some (.ref x2), some (.int x3), none]) (st' := [.ref x0]) rfl ?_
    obtain ⟨z2, e3, h⟩ := Option.bind_eq_some_iff.mp h
    refine E_callI (vs := [.ref x0]) (rest := []) rfl (by decide) rfl rfl (Nat.le_of_ble_eq_true rfl) (s99 e3) (by decide) ?_
    by_cases c4 : z2.2 = 0
    · rw [if_pos c4] at h
      refine E_jt rfl rfl c4 ?_
      refine E_blk rfl ?_
      refine E_ps 1 (pc' := 100) (l' := [some (.ref x0), some (.int x1), some (.ref x2), some (.int x3), none]) (st' := [.int (-1 : Int32)]) rfl ?_
      exact E_wk (l' := [none, none, none, none, none]) trivial (s100_100  h hr)
    · rw [if_neg c4] at h
      refine E_jf rfl rfl c4 ?_
      refine E_blk rfl ?_
      refine E_ps 1 (pc' := 96) (l' := [some (.ref x0), some (.int x1), some (.ref x2), some (.int x3), none]) (st' := [.int (300 : Int32)]) rfl ?_
      refine E_j rfl rfl ?_
      exact E_wk (l' := [none, none, none, none, none]) trivial (s100_100  h hr)
  · rw [if_neg c1] at h
    refine E_jf rfl rfl c1 ?_
    refine E_blk rfl ?_
    refine E_ps 1 (pc' := 30) (l' := [some (.ref x0), some (.int x1), some (.ref x2), some (.int x3), none]) (st' := [.ref x0]) rfl ?_
    obtain ⟨z5, e6, h⟩ := Option.bind_eq_some_iff.mp h
    refine E_callI (vs := [.ref x0]) (rest := []) rfl (by decide) rfl rfl (Nat.le_of_ble_eq_true rfl) (s99 e6) (by decide) ?_
    by_cases c7 : z5.2 = 0
    · rw [if_pos c7] at h
      refine E_jt rfl rfl c7 ?_
      refine E_blk rfl ?_
      refine E_ps 1 (pc' := 39) (l' := [some (.ref x0), some (.int x1), some (.ref x2), some (.int x3), none]) (st' := [.ref x0]) rfl ?_
      obtain ⟨a8, e9, h⟩ := Option.bind_eq_some_iff.mp h
      refine E_gr k0 (by decide) rfl e9 ?_
      have kf10 : oK a8 4 = true := hk_rty k0 e9 rfl (by decide)
      refine E_ps 1 (pc' := 43) (l' := [some (.ref x0), some (.int x1), some (.ref x2), some (.int x3), none]) (st' := [.int x3, .ref a8]) rfl ?_
      obtain ⟨z11, e12, h⟩ := Option.bind_eq_some_iff.mp h
      refine E_callR (vs := [.ref a8, .int x3]) (rest := []) rfl (by decide) rfl rfl (Nat.le_of_ble_eq_true rfl) (s40 e12) (by decide) ?_
      obtain ⟨g13, h⟩ := ifg_some h
      refine E_ps 2 (pc' := 49) (l' := [some (.ref x0), some (.int x1), some (.ref x2), some (.int x3), some (.ref z11.2)]) (st' := [.ref x0]) rfl ?_
      obtain ⟨a14, e15, h⟩ := Option.bind_eq_some_iff.mp h
      refine E_gr k0 (by decide) rfl e15 ?_
      have kf16 : oK a14 3 = true := hk_rty k0 e15 rfl (by decide)
      refine E_ps 2 (pc' := 55) (l' := [some (.ref x0), some (.int x1), some (.ref x2), some (.int x3), some (.ref z11.2)]) (st' := [.ref z11.2, .ref x2, .ref a14]) rfl ?_
      obtain ⟨z17, e18, h⟩ := Option.bind_eq_some_iff.mp h
      refine E_callI (vs := [.ref a14, .ref x2, .ref z11.2]) (rest := []) rfl (by decide) rfl rfl (Nat.le_of_ble_eq_true rfl) (s36 e18) (by decide) ?_
      refine E_ps 2 (pc' := 60) (l' := [some (.ref x0), some (.int x1), some (.ref x2), some (.int x3), some (.ref z11.2)]) (st' := [.ref x0]) rfl ?_
      obtain ⟨a19, e20, h⟩ := Option.bind_eq_some_iff.mp h
      refine E_gr k0 (by decide) rfl e20 ?_
      refine E_ps 1 (pc' := 65) (l' := [some (.ref x0), some (.int x1), some (.ref x2), some (.int x3), some (.ref z11.2)]) (st' := [.ref z11.2, .ref a19]) rfl ?_
      refine E_gi g13 (by decide) rfl ?_
      refine E_ps 3 (pc' := 72) (l' := [some (.ref x0), some (.int x1), some (.ref x2), some (.int x3), some (.ref z11.2)]) (st' := [.ref z11.2, .ref x2, .ref x0, .int (z17.1.1 z11.2 5), .ref a19]) rfl ?_
      refine E_gi g13 (by decide) rfl ?_
      refine E_ps 1 (pc' := 76) (l' := [some (.ref x0), some (.int x1), some (.ref x2), some (.int x3), some (.ref z11.2)]) (st' := [.int x1, .int (z17.1.1 z11.2 5), .ref x2, .ref x0, .int (z17.1.1 z11.2 5), .ref a19]) rfl ?_
      obtain ⟨z21, e22, h⟩ := Option.bind_eq_some_iff.mp h
      refine E_callI (vs := [.ref x0, .ref x2, .int (z17.1.1 z11.2 5), .int x1]) (rest := [.int (z17.1.1 z11.2 5), .ref a19]) rfl (by decide) rfl rfl (Nat.le_of_ble_eq_true rfl) (s96 e22) (by decide) ?_
      obtain ⟨t23, e24, h⟩ := Option.bind_eq_some_iff.mp h
      refine E_wb e24 ?_
      refine E_ps 1 (pc' := 83) (l' := [some (.ref x0), some (.int x1), some (.ref x2), some (.int (x3 + (1 : Int32))), some (.ref z11.2)]) (st' := []) rfl ?_
      refine E_j rfl rfl ?_
      cases h
      exact E_wk (l' := [some (.ref x0), some (.int x1), some (.ref x2), some (.int (x3 + (1 : Int32))), none]) ⟨rfl, rfl, rfl, rfl, trivial⟩ hr
    · rw [if_neg c7] at h
      refine E_jf rfl rfl c7 ?_
      obtain ⟨r, h, hr⟩ := lf_some (Dn := dn100_22 sc x0 x1 x2 o) h hr
      refine E_blk rfl ?_
      refine E_ps 1 (pc' := 37) (l' := [some (.ref x0), some (.int x1), some (.ref x2), some (.int x3), none]) (st' := [.int x3]) rfl ?_
      cases h
      exact E_ret rfl (pg_mt_md (by decide)) rfl hr
theorem s100_22_w {sc : Option (Nat × (Nat → Int32))} {x0 : Nat} {x1 : Int32} {x2 : Nat} {x3 : Int32} {s : xS} {o : xH × Option Value} {r : (xS × Int32)} (k0 : oK x0 9 = true) (k2 : oK x2 0 = true) (h : whl (fun q : (Int32 × xS) => f100_22 x0 x1 x2 q.1 q.2) (x3, s) = some r) (hr : dn100 o r) : Ev sc 6 100 [] 22 [some (.ref x0), some (.int x1), some (.ref x2), some (.int x3), none] [] (hk_of s) o := by
  refine whl_snd (E := fun q : (Int32 × xS) => Ev sc 6 100 [] 22 [some (.ref x0), some (.int x1), some (.ref x2), some (.int q.1), none] [] (hk_of q.2) o) (P := fun r => dn100 o r) (fun q r h hr => ?_) h hr
  exact s100_22 k0 k2 h (by cases r <;> exact hr)
noncomputable def f100 (x0 : Nat) (x1 : Int32) (s : xS) : Option (xS × Int32) := ifg (oK x0 9 = true) <| (hk_R x0 4).bind fun a1 => (aR a1 (0 : Int32)).bind fun a3 => ifg (oK a3 0 = true) <| (hk_R x0 2).bind fun a6 => (f3 a3 a6 s).bind fun z9 => (f98 x0 x1 z9.1).bind fun z11 => whl (fun q : (Int32 × xS) => f100_22 x0 x1 a3 q.1 q.2) ((0 : Int32), z11.1)
set_option maxRecDepth 20000 in
theorem s100 {sc : Option (Nat × (Nat → Int32))} {x0 : Nat} {x1 : Int32} {s : xS} {r : xS × Int32} (h : f100 x0 x1 s = some r) : Cl sc 6 100 [.ref x0, .int x1] (hk_of s) (hk_of r.1, some (.int r.2)) := by
  unfold f100 at h
  obtain ⟨k0, h⟩ := ifg_some h
  refine ⟨pg_md 100, [some (.ref x0), some (.int x1), none, none, none], pg_mt_md (by decide), (hk_rcv k0), rfl, ?_⟩
  generalize ho : ((hk_of r.1, some (Value.int r.2)) : xH × Option Value) = o
  have hr : dn100 o r := ho.symm
  refine E_blk rfl ?_
  refine E_ps 1 (pc' := 1) (l' := [some (.ref x0), some (.int x1), none, none, none]) (st' := [.ref x0]) rfl ?_
  obtain ⟨a1, e2, h⟩ := Option.bind_eq_some_iff.mp h
  refine E_gr k0 (by decide) rfl e2 ?_
  refine E_ps 1 (pc' := 5) (l' := [some (.ref x0), some (.int x1), none, none, none]) (st' := [.int (0 : Int32), .ref a1]) rfl ?_
  obtain ⟨a3, e4, h⟩ := Option.bind_eq_some_iff.mp h
  refine E_ar e4 ?_
  obtain ⟨g5, h⟩ := ifg_some h
  refine E_ps 3 (pc' := 9) (l' := [some (.ref x0), some (.int x1), some (.ref a3), none, none]) (st' := [.ref x0, .ref a3]) rfl ?_
  obtain ⟨a6, e7, h⟩ := Option.bind_eq_some_iff.mp h
  refine E_gr k0 (by decide) rfl e7 ?_
  have kf8 : oK a6 0 = true := hk_rty k0 e7 rfl (by decide)
  obtain ⟨z9, e10, h⟩ := Option.bind_eq_some_iff.mp h
  refine E_callV (vs := [.ref a3, .ref a6]) (rest := []) rfl (by decide) rfl rfl (Nat.le_of_ble_eq_true rfl) (s3 e10) (by decide) ?_
  refine E_ps 2 (pc' := 17) (l' := [some (.ref x0), some (.int x1), some (.ref a3), none, none]) (st' := [.int x1, .ref x0]) rfl ?_
  obtain ⟨z11, e12, h⟩ := Option.bind_eq_some_iff.mp h
  refine E_callV (vs := [.ref x0, .int x1]) (rest := []) rfl (by decide) rfl rfl (Nat.le_of_ble_eq_true rfl) (s98 e12) (by decide) ?_
  refine E_ps 2 (pc' := 22) (l' := [some (.ref x0), some (.int x1), some (.ref a3), some (.int (0 : Int32)), none]) (st' := []) rfl ?_
  exact E_wk (l' := [some (.ref x0), some (.int x1), some (.ref a3), some (.int (0 : Int32)), none]) ⟨rfl, rfl, rfl, rfl, trivial⟩ (s100_22_w k0 g5 h hr)

-- 104: ThreePlates$Trials.isScrapedInRow(I)Z
def dn104 (o : xH × Option Value) (r : xS × Int32) : Prop := o = (hk_of r.1, some (.int r.2))
def dn104_2 (sc : Option (Nat × (Nat → Int32))) (x0 : Nat) (x1 : Int32) (o : xH × Option Value) (r : ((Int32 × xS) ⊕ (xS × Int32))) : Prop := match r with
  | .inl q => Ev sc 1 104 [] 2 [some (.ref x0), some (.int x1), some (.int q.1)] [] (hk_of q.2) o
  | .inr r => dn104 o r
noncomputable def f104_2 (x0 : Nat) (x1 : Int32) (x2 : Int32) (s : xS) : Option ((Int32 × xS) ⊕ (xS × Int32)) := if (s.1 x0 10) ≤ x2 then (Option.map Sum.inr (some (s, (0 : Int32)))) else ((hk_R x0 1).bind fun a2 => (hk_R a2 0).bind fun a5 => (hk_R x0 6).bind fun a7 => (aI s a7 x2).bind fun v9 => (aR a5 v9).bind fun a11 => ifg (oK a11 6 = true) <| if (s.1 a11 5) = x1 then (Option.map Sum.inr (some (s, (1 : Int32)))) else (some (Sum.inl ((x2 + (1 : Int32)), s))))
set_option maxRecDepth 20000 in
theorem s104_2 {sc : Option (Nat × (Nat → Int32))} {x0 : Nat} {x1 : Int32} {x2 : Int32} {s : xS} {o : xH × Option Value} {r : ((Int32 × xS) ⊕ (xS × Int32))} (k0 : oK x0 9 = true) (h : f104_2 x0 x1 x2 s = some r) (hr : dn104_2 sc x0 x1 o r) : Ev sc 1 104 [] 2 [some (.ref x0), some (.int x1), some (.int x2)] [] (hk_of s) o := by
  unfold f104_2 at h
  refine E_blk rfl ?_
  refine E_ps 2 (pc' := 4) (l' := [some (.ref x0), some (.int x1), some (.int x2)]) (st' := [.ref x0, .int x2]) rfl ?_
  refine E_gi k0 (by decide) rfl ?_
  by_cases c1 : (s.1 x0 10) ≤ x2
  · rw [if_pos c1] at h
    refine E_jt rfl rfl c1 ?_
    obtain ⟨r, h, hr⟩ := lf_some (Dn := dn104_2 sc x0 x1 o) h hr
    refine E_blk rfl ?_
    refine E_ps 1 (pc' := 40) (l' := [some (.ref x0), some (.int x1), some (.int x2)]) (st' := [.int (0 : Int32)]) rfl ?_
    cases h
    exact E_ret rfl (pg_mt_md (by decide)) rfl hr
  · rw [if_neg c1] at h
    refine E_jf rfl rfl c1 ?_
    refine E_blk rfl ?_
    refine E_ps 1 (pc' := 11) (l' := [some (.ref x0), some (.int x1), some (.int x2)]) (st' := [.ref x0]) rfl ?_
    obtain ⟨a2, e3, h⟩ := Option.bind_eq_some_iff.mp h
    refine E_gr k0 (by decide) rfl e3 ?_
    have kf4 : oK a2 4 = true := hk_rty k0 e3 rfl (by decide)
    obtain ⟨a5, e6, h⟩ := Option.bind_eq_some_iff.mp h
    refine E_gr kf4 (by decide) rfl e6 ?_
    refine E_ps 1 (pc' := 18) (l' := [some (.ref x0), some (.int x1), some (.int x2)]) (st' := [.ref x0, .ref a5]) rfl ?_
    obtain ⟨a7, e8, h⟩ := Option.bind_eq_some_iff.mp h
    refine E_gr k0 (by decide) rfl e8 ?_
    refine E_ps 1 (pc' := 22) (l' := [some (.ref x0), some (.int x1), some (.int x2)]) (st' := [.int x2, .ref a7, .ref a5]) rfl ?_
    obtain ⟨v9, e10, h⟩ := Option.bind_eq_some_iff.mp h
    refine E_ai e10 ?_
    obtain ⟨a11, e12, h⟩ := Option.bind_eq_some_iff.mp h
    refine E_ar e12 ?_
    obtain ⟨g13, h⟩ := ifg_some h
    refine E_gi g13 (by decide) rfl ?_
    refine E_ps 1 (pc' := 28) (l' := [some (.ref x0), some (.int x1), some (.int x2)]) (st' := [.int x1, .int (s.1 a11 5)]) rfl ?_
    by_cases c14 : (s.1 a11 5) = x1
    · rw [if_pos c14] at h
      refine E_jt rfl rfl c14 ?_
      obtain ⟨r, h, hr⟩ := lf_some (Dn := dn104_2 sc x0 x1 o) h hr
      refine E_blk rfl ?_
      refine E_ps 1 (pc' := 32) (l' := [some (.ref x0), some (.int x1), some (.int x2)]) (st' := [.int (1 : Int32)]) rfl ?_
      cases h
      exact E_ret rfl (pg_mt_md (by decide)) rfl hr
    · rw [if_neg c14] at h
      refine E_jf rfl rfl c14 ?_
      refine E_blk rfl ?_
      refine E_ps 1 (pc' := 36) (l' := [some (.ref x0), some (.int x1), some (.int (x2 + (1 : Int32)))]) (st' := []) rfl ?_
      refine E_j rfl rfl ?_
      cases h
      exact E_wk (l' := [some (.ref x0), some (.int x1), some (.int (x2 + (1 : Int32)))]) ⟨rfl, rfl, rfl, trivial⟩ hr
theorem s104_2_w {sc : Option (Nat × (Nat → Int32))} {x0 : Nat} {x1 : Int32} {x2 : Int32} {s : xS} {o : xH × Option Value} {r : (xS × Int32)} (k0 : oK x0 9 = true) (h : whl (fun q : (Int32 × xS) => f104_2 x0 x1 q.1 q.2) (x2, s) = some r) (hr : dn104 o r) : Ev sc 1 104 [] 2 [some (.ref x0), some (.int x1), some (.int x2)] [] (hk_of s) o := by
  refine whl_snd (E := fun q : (Int32 × xS) => Ev sc 1 104 [] 2 [some (.ref x0), some (.int x1), some (.int q.1)] [] (hk_of q.2) o) (P := fun r => dn104 o r) (fun q r h hr => ?_) h hr
  exact s104_2 k0 h (by cases r <;> exact hr)
noncomputable def f104 (x0 : Nat) (x1 : Int32) (s : xS) : Option (xS × Int32) := ifg (oK x0 9 = true) <| whl (fun q : (Int32 × xS) => f104_2 x0 x1 q.1 q.2) ((0 : Int32), s)
set_option maxRecDepth 20000 in
theorem s104 {sc : Option (Nat × (Nat → Int32))} {x0 : Nat} {x1 : Int32} {s : xS} {r : xS × Int32} (h : f104 x0 x1 s = some r) : Cl sc 1 104 [.ref x0, .int x1] (hk_of s) (hk_of r.1, some (.int r.2)) := by
  unfold f104 at h
  obtain ⟨k0, h⟩ := ifg_some h
  refine ⟨pg_md 104, [some (.ref x0), some (.int x1), none], pg_mt_md (by decide), (hk_rcv k0), rfl, ?_⟩
  generalize ho : ((hk_of r.1, some (Value.int r.2)) : xH × Option Value) = o
  have hr : dn104 o r := ho.symm
  refine E_blk rfl ?_
  refine E_ps 2 (pc' := 2) (l' := [some (.ref x0), some (.int x1), some (.int (0 : Int32))]) (st' := []) rfl ?_
  exact E_wk (l' := [some (.ref x0), some (.int x1), some (.int (0 : Int32))]) ⟨rfl, rfl, rfl, trivial⟩ (s104_2_w k0 h hr)

-- 103: ThreePlates$Trials.isRowFlat(LThreePlates$Bench;)Z
def dn103 (o : xH × Option Value) (r : xS × Int32) : Prop := o = (hk_of r.1, some (.int r.2))
def dn103_2 (sc : Option (Nat × (Nat → Int32))) (x0 : Nat) (x1 : Nat) (o : xH × Option Value) (r : ((Int32 × xS) ⊕ (xS × Int32))) : Prop := match r with
  | .inl q => Ev sc 5 103 [] 2 [some (.ref x0), some (.ref x1), some (.int q.1)] [] (hk_of q.2) o
  | .inr r => dn103 o r
def dn103_40 (sc : Option (Nat × (Nat → Int32))) (x0 : Nat) (x1 : Nat) (o : xH × Option Value) (r : ((Int32 × xS) ⊕ (xS × Int32))) : Prop := match r with
  | .inl q => Ev sc 5 103 [] 40 [some (.ref x0), some (.ref x1), some (.int q.1)] [] (hk_of q.2) o
  | .inr r => dn103 o r
noncomputable def f103_32 (x0 : Nat) (x1 : Nat) (x2 : Int32) (s : xS) : Option ((Int32 × xS) ⊕ (xS × Int32)) := some (Sum.inl ((x2 + (1 : Int32)), s))
set_option maxRecDepth 20000 in
theorem s103_32 {sc : Option (Nat × (Nat → Int32))} {x0 : Nat} {x1 : Nat} {x2 : Int32} {s : xS} {o : xH × Option Value} {r : ((Int32 × xS) ⊕ (xS × Int32))} (k0 : oK x0 9 = true) (k1 : oK x1 0 = true) (h : f103_32 x0 x1 x2 s = some r) (hr : dn103_2 sc x0 x1 o r) : Ev sc 5 103 [] 32 [some (.ref x0), some (.ref x1), some (.int x2)] [] (hk_of s) o := by
  unfold f103_32 at h
  refine E_blk rfl ?_
  refine E_ps 1 (pc' := 35) (l' := [some (.ref x0), some (.ref x1), some (.int (x2 + (1 : Int32)))]) (st' := []) rfl ?_
  refine E_j rfl rfl ?_
  cases h
  exact E_wk (l' := [some (.ref x0), some (.ref x1), some (.int (x2 + (1 : Int32)))]) ⟨rfl, rfl, rfl, trivial⟩ hr
noncomputable def f103_74 (x0 : Nat) (x1 : Nat) (x2 : Int32) (s : xS) : Option ((Int32 × xS) ⊕ (xS × Int32)) := some (Sum.inl ((x2 + (1 : Int32)), s))
set_option maxRecDepth 20000 in
theorem s103_74 {sc : Option (Nat × (Nat → Int32))} {x0 : Nat} {x1 : Nat} {x2 : Int32} {s : xS} {o : xH × Option Value} {r : ((Int32 × xS) ⊕ (xS × Int32))} (k0 : oK x0 9 = true) (k1 : oK x1 0 = true) (h : f103_74 x0 x1 x2 s = some r) (hr : dn103_40 sc x0 x1 o r) : Ev sc 5 103 [] 74 [some (.ref x0), some (.ref x1), some (.int x2)] [] (hk_of s) o := by
  unfold f103_74 at h
  refine E_blk rfl ?_
  refine E_ps 1 (pc' := 77) (l' := [some (.ref x0), some (.ref x1), some (.int (x2 + (1 : Int32)))]) (st' := []) rfl ?_
  refine E_j rfl rfl ?_
  cases h
  exact E_wk (l' := [some (.ref x0), some (.ref x1), some (.int (x2 + (1 : Int32)))]) ⟨rfl, rfl, rfl, trivial⟩ hr
noncomputable def f103_40 (x0 : Nat) (x1 : Nat) (x2 : Int32) (s : xS) : Option ((Int32 × xS) ⊕ (xS × Int32)) := (hk_R x0 0).bind fun a1 => if (s.1 a1 2) ≤ x2 then (Option.map Sum.inr (some (s, (1 : Int32)))) else ((f104 x0 x2 s).bind fun z5 => if z5.2 = 0 then (f103_74 x0 x1 x2 z5.1) else ((f96 x0 x1 x2 (z5.1.1 x0 11) z5.1).bind fun z8 => if z8.2 = 0 then (Option.map Sum.inr (some (z8.1, (0 : Int32)))) else (f103_74 x0 x1 x2 z8.1)))
set_option maxRecDepth 20000 in
theorem s103_40 {sc : Option (Nat × (Nat → Int32))} {x0 : Nat} {x1 : Nat} {x2 : Int32} {s : xS} {o : xH × Option Value} {r : ((Int32 × xS) ⊕ (xS × Int32))} (k0 : oK x0 9 = true) (k1 : oK x1 0 = true) (h : f103_40 x0 x1 x2 s = some r) (hr : dn103_40 sc x0 x1 o r) : Ev sc 5 103 [] 40 [some (.ref x0), some (.ref x1), some (.int x2)] [] (hk_of s) o := by
  unfold f103_40 at h
  refine E_blk rfl ?_
  refine E_ps 2 (pc' := 42) (l' := [some (.ref x0), some (.ref x1), some (.int x2)]) (st' := [.ref x0, .int x2]) rfl ?_
  obtain ⟨a1, e2, h⟩ := Option.bind_eq_some_iff.mp h
  refine E_gr k0 (by decide) rfl e2 ?_
  have kf3 : oK a1 7 = true := hk_rty k0 e2 rfl (by decide)
  refine E_gi kf3 (by decide) rfl ?_
  by_cases c4 : (s.1 a1 2) ≤ x2
  · rw [if_pos c4] at h
    refine E_jt rfl rfl c4 ?_
    obtain ⟨r, h, hr⟩ := lf_some (Dn := dn103_40 sc x0 x1 o) h hr
    refine E_blk rfl ?_
    refine E_ps 1 (pc' := 81) (l' := [some (.ref x0), some (.ref x1), some (.int x2)]) (st' := [.int (1 : Int32)]) rfl ?_
    cases h
    exact E_ret rfl (pg_mt_md (by decide)) rfl hr
  · rw [if_neg c4] at h
    refine E_jf rfl rfl c4 ?_
    refine E_blk rfl ?_
    refine E_ps 2 (pc' := 53) (l' := [some (.ref x0), some (.ref x1), some (.int x2)]) (st' := [.int x2, .ref x0]) rfl ?_
    obtain ⟨z5, e6, h⟩ := Option.bind_eq_some_iff.mp h
    refine E_callI (vs := [.ref x0, .int x2]) (rest := []) rfl (by decide) rfl rfl (Nat.le_of_ble_eq_true rfl) (s104 e6) (by decide) ?_
    by_cases c7 : z5.2 = 0
    · rw [if_pos c7] at h
      refine E_jt rfl rfl c7 ?_
      exact E_wk (l' := [some (.ref x0), some (.ref x1), some (.int x2)]) ⟨rfl, rfl, rfl, trivial⟩ (s103_74 k0 k1 h hr)
    · rw [if_neg c7] at h
      refine E_jf rfl rfl c7 ?_
      refine E_blk rfl ?_
      refine E_ps 4 (pc' := 63) (l' := [some (.ref x0), some (.ref x1), some (.int x2)]) (st' := [.ref x0, .int x2, .ref x1, .ref x0]) rfl ?_
      refine E_gi k0 (by decide) rfl ?_
      obtain ⟨z8, e9, h⟩ := Option.bind_eq_some_iff.mp h
      refine E_callI (vs := [.ref x0, .ref x1, .int x2, .int (z5.1.1 x0 11)]) (rest := []) rfl (by decide) rfl rfl (Nat.le_of_ble_eq_true rfl) (s96 e9) (by decide) ?_
      by_cases c10 : z8.2 = 0
      · rw [if_pos c10] at h
        refine E_jt rfl rfl c10 ?_
        obtain ⟨r, h, hr⟩ := lf_some (Dn := dn103_40 sc x0 x1 o) h hr
        refine E_blk rfl ?_
        refine E_ps 1 (pc' := 73) (l' := [some (.ref x0), some (.ref x1), some (.int x2)]) (st' := [.int (0 : Int32)]) rfl ?_
        cases h
        exact E_ret rfl (pg_mt_md (by decide)) rfl hr
      · rw [if_neg c10] at h
        refine E_jf rfl rfl c10 ?_
        exact E_wk (l' := [some (.ref x0), some (.ref x1), some (.int x2)]) ⟨rfl, rfl, rfl, trivial⟩ (s103_74 k0 k1 h hr)
theorem s103_40_w {sc : Option (Nat × (Nat → Int32))} {x0 : Nat} {x1 : Nat} {x2 : Int32} {s : xS} {o : xH × Option Value} {r : (xS × Int32)} (k0 : oK x0 9 = true) (k1 : oK x1 0 = true) (h : whl (fun q : (Int32 × xS) => f103_40 x0 x1 q.1 q.2) (x2, s) = some r) (hr : dn103 o r) : Ev sc 5 103 [] 40 [some (.ref x0), some (.ref x1), some (.int x2)] [] (hk_of s) o := by
  refine whl_snd (E := fun q : (Int32 × xS) => Ev sc 5 103 [] 40 [some (.ref x0), some (.ref x1), some (.int q.1)] [] (hk_of q.2) o) (P := fun r => dn103 o r) (fun q r h hr => ?_) h hr
  exact s103_40 k0 k1 h (by cases r <;> exact hr)
noncomputable def f103_2 (x0 : Nat) (x1 : Nat) (x2 : Int32) (s : xS) : Option ((Int32 × xS) ⊕ (xS × Int32)) := (hk_R x0 0).bind fun a1 => if (s.1 a1 2) ≤ x2 then (Option.map Sum.inr (whl (fun q : (Int32 × xS) => f103_40 x0 x1 q.1 q.2) ((0 : Int32), s))) else ((hk_R x0 5).bind fun a5 => (aB s a5 x2).bind fun v7 => if v7 = 0 then ((f104 x0 x2 s).bind fun z10 => if z10.2 = 0 then (Option.map Sum.inr (some (z10.1, (0 : Int32)))) else (f103_32 x0 x1 x2 z10.1)) else (f103_32 x0 x1 x2 s))
set_option maxRecDepth 20000 in
theorem s103_2 {sc : Option (Nat × (Nat → Int32))} {x0 : Nat} {x1 : Nat} {x2 : Int32} {s : xS} {o : xH × Option Value} {r : ((Int32 × xS) ⊕ (xS × Int32))} (k0 : oK x0 9 = true) (k1 : oK x1 0 = true) (h : f103_2 x0 x1 x2 s = some r) (hr : dn103_2 sc x0 x1 o r) : Ev sc 5 103 [] 2 [some (.ref x0), some (.ref x1), some (.int x2)] [] (hk_of s) o := by
  unfold f103_2 at h
  refine E_blk rfl ?_
  refine E_ps 2 (pc' := 4) (l' := [some (.ref x0), some (.ref x1), some (.int x2)]) (st' := [.ref x0, .int x2]) rfl ?_
  obtain ⟨a1, e2, h⟩ := Option.bind_eq_some_iff.mp h
  refine E_gr k0 (by decide) rfl e2 ?_
  have kf3 : oK a1 7 = true := hk_rty k0 e2 rfl (by decide)
  refine E_gi kf3 (by decide) rfl ?_
  by_cases c4 : (s.1 a1 2) ≤ x2
  · rw [if_pos c4] at h
    refine E_jt rfl rfl c4 ?_
    obtain ⟨r, h, hr⟩ := lf_some (Dn := dn103_2 sc x0 x1 o) h hr
    refine E_blk rfl ?_
    refine E_ps 2 (pc' := 40) (l' := [some (.ref x0), some (.ref x1), some (.int (0 : Int32))]) (st' := []) rfl ?_
    exact E_wk (l' := [some (.ref x0), some (.ref x1), some (.int (0 : Int32))]) ⟨rfl, rfl, rfl, trivial⟩ (s103_40_w k0 k1 h hr)
  · rw [if_neg c4] at h
    refine E_jf rfl rfl c4 ?_
    refine E_blk rfl ?_
    refine E_ps 1 (pc' := 14) (l' := [some (.ref x0), some (.ref x1), some (.int x2)]) (st' := [.ref x0]) rfl ?_
    obtain ⟨a5, e6, h⟩ := Option.bind_eq_some_iff.mp h
    refine E_gr k0 (by decide) rfl e6 ?_
    refine E_ps 1 (pc' := 18) (l' := [some (.ref x0), some (.ref x1), some (.int x2)]) (st' := [.int x2, .ref a5]) rfl ?_
    obtain ⟨v7, e8, h⟩ := Option.bind_eq_some_iff.mp h
    refine E_ab e8 ?_
    by_cases c9 : v7 = 0
    · rw [if_pos c9] at h
      refine E_jt rfl rfl c9 ?_
      refine E_blk rfl ?_
      refine E_ps 2 (pc' := 24) (l' := [some (.ref x0), some (.ref x1), some (.int x2)]) (st' := [.int x2, .ref x0]) rfl ?_
      obtain ⟨z10, e11, h⟩ := Option.bind_eq_some_iff.mp h
      refine E_callI (vs := [.ref x0, .int x2]) (rest := []) rfl (by decide) rfl rfl (Nat.le_of_ble_eq_true rfl) (s104 e11) (by decide) ?_
      by_cases c12 : z10.2 = 0
      · rw [if_pos c12] at h
        refine E_jt rfl rfl c12 ?_
        obtain ⟨r, h, hr⟩ := lf_some (Dn := dn103_2 sc x0 x1 o) h hr
        refine E_blk rfl ?_
        refine E_ps 1 (pc' := 31) (l' := [some (.ref x0), some (.ref x1), some (.int x2)]) (st' := [.int (0 : Int32)]) rfl ?_
        cases h
        exact E_ret rfl (pg_mt_md (by decide)) rfl hr
      · rw [if_neg c12] at h
        refine E_jf rfl rfl c12 ?_
        exact E_wk (l' := [some (.ref x0), some (.ref x1), some (.int x2)]) ⟨rfl, rfl, rfl, trivial⟩ (s103_32 k0 k1 h hr)
    · rw [if_neg c9] at h
      refine E_jf rfl rfl c9 ?_
      exact E_wk (l' := [some (.ref x0), some (.ref x1), some (.int x2)]) ⟨rfl, rfl, rfl, trivial⟩ (s103_32 k0 k1 h hr)
theorem s103_2_w {sc : Option (Nat × (Nat → Int32))} {x0 : Nat} {x1 : Nat} {x2 : Int32} {s : xS} {o : xH × Option Value} {r : (xS × Int32)} (k0 : oK x0 9 = true) (k1 : oK x1 0 = true) (h : whl (fun q : (Int32 × xS) => f103_2 x0 x1 q.1 q.2) (x2, s) = some r) (hr : dn103 o r) : Ev sc 5 103 [] 2 [some (.ref x0), some (.ref x1), some (.int x2)] [] (hk_of s) o := by
  refine whl_snd (E := fun q : (Int32 × xS) => Ev sc 5 103 [] 2 [some (.ref x0), some (.ref x1), some (.int q.1)] [] (hk_of q.2) o) (P := fun r => dn103 o r) (fun q r h hr => ?_) h hr
  exact s103_2 k0 k1 h (by cases r <;> exact hr)
noncomputable def f103 (x0 : Nat) (x1 : Nat) (s : xS) : Option (xS × Int32) := ifg (oK x0 9 = true) <| ifg (oK x1 0 = true) <| whl (fun q : (Int32 × xS) => f103_2 x0 x1 q.1 q.2) ((0 : Int32), s)
set_option maxRecDepth 20000 in
theorem s103 {sc : Option (Nat × (Nat → Int32))} {x0 : Nat} {x1 : Nat} {s : xS} {r : xS × Int32} (h : f103 x0 x1 s = some r) : Cl sc 5 103 [.ref x0, .ref x1] (hk_of s) (hk_of r.1, some (.int r.2)) := by
  unfold f103 at h
  obtain ⟨k0, h⟩ := ifg_some h
  obtain ⟨k1, h⟩ := ifg_some h
  refine ⟨pg_md 103, [some (.ref x0), some (.ref x1), none], pg_mt_md (by decide), (hk_rcv k0), rfl, ?_⟩
  generalize ho : ((hk_of r.1, some (Value.int r.2)) : xH × Option Value) = o
  have hr : dn103 o r := ho.symm
  refine E_blk rfl ?_
  refine E_ps 2 (pc' := 2) (l' := [some (.ref x0), some (.ref x1), some (.int (0 : Int32))]) (st' := []) rfl ?_
  exact E_wk (l' := [some (.ref x0), some (.ref x1), some (.int (0 : Int32))]) ⟨rfl, rfl, rfl, trivial⟩ (s103_2_w k0 k1 h hr)

-- 102: ThreePlates$Trials.tryRows(I)V
def dn102 (o : xH × Option Value) (r : xS × Unit) : Prop := o = (hk_of r.1, none)
def dn102_25 (d : Nat) (sc : Option (Nat × (Nat → Int32))) (x0 : Nat) (x1 : Int32) (x2 : Nat) (o : xH × Option Value) (r : ((Int32 × xS) ⊕ (xS × Unit))) : Prop := match r with
  | .inl q => Ev sc (d + 6) 102 [] 25 [some (.ref x0), some (.int x1), some (.ref x2), some (.int q.1), none] [] (hk_of q.2) o
  | .inr r => dn102 o r
noncomputable def f102_156 (self : Nat → Int32 → xS → Option (xS × Unit)) (x0 : Nat) (x1 : Int32) (x2 : Nat) (x3 : Int32) (s : xS) : Option ((Int32 × xS) ⊕ (xS × Unit)) := some (Sum.inl ((x3 + (1 : Int32)), s))
set_option maxRecDepth 20000 in
theorem s102_156 {d : Nat} {self : Nat → Int32 → xS → Option (xS × Unit)} {sc : Option (Nat × (Nat → Int32))} {x0 : Nat} {x1 : Int32} {x2 : Nat} {x3 : Int32} {s : xS} {o : xH × Option Value} {r : ((Int32 × xS) ⊕ (xS × Unit))} (k0 : oK x0 9 = true) (k2 : oK x2 0 = true) (hself : ∀ x0 x1 s r, self x0 x1 s = some r → Cl sc (d + 5) 102 [.ref x0, .int x1] (hk_of s) (hk_of r.1, none)) (h : f102_156 self x0 x1 x2 x3 s = some r) (hr : dn102_25 d sc x0 x1 x2 o r) : Ev sc (d + 6) 102 [] 156 [some (.ref x0), some (.int x1), some (.ref x2), some (.int x3), none] [] (hk_of s) o := by
  unfold f102_156 at h
  refine E_blk rfl ?_
  refine E_ps 1 (pc' := 159) (l' := [some (.ref x0), some (.int x1), some (.ref x2), some (.int (x3 + (1 : Int32))), none]) (st' := []) rfl ?_
  refine E_j rfl rfl ?_
  cases h
  exact E_wk (l' := [some (.ref x0), some (.int x1), some (.ref x2), some (.int (x3 + (1 : Int32))), none]) ⟨rfl, rfl, rfl, rfl, trivial⟩ hr
noncomputable def f102_105 (self : Nat → Int32 → xS → Option (xS × Unit)) (x0 : Nat) (x1 : Int32) (x2 : Nat) (x3 : Int32) (x4 : Int32) (s : xS) : Option ((Int32 × xS) ⊕ (xS × Unit)) := if (s.1 x0 10) ≤ (x1 + (1 : Int32)) then ((f103 x0 x2 s).bind fun z2 => if z2.2 = 0 then (f102_156 self x0 x1 x2 x3 z2.1) else ((pI z2.1 x0 8 x4).bind fun t5 => (hk_R x0 6).bind fun a7 => (hk_R x0 7).bind fun a9 => (cpI t5 a7 (0 : Int32) a9 (0 : Int32) (t5.1 x0 10)).bind fun t11 => f102_156 self x0 x1 x2 x3 t11)) else ((self x0 (x1 + (1 : Int32)) s).bind fun z13 => f102_156 self x0 x1 x2 x3 z13.1)
set_option maxRecDepth 20000 in
theorem s102_105 {d : Nat} {self : Nat → Int32 → xS → Option (xS × Unit)} {sc : Option (Nat × (Nat → Int32))} {x0 : Nat} {x1 : Int32} {x2 : Nat} {x3 : Int32} {x4 : Int32} {s : xS} {o : xH × Option Value} {r : ((Int32 × xS) ⊕ (xS × Unit))} (k0 : oK x0 9 = true) (k2 : oK x2 0 = true) (hself : ∀ x0 x1 s r, self x0 x1 s = some r → Cl sc (d + 5) 102 [.ref x0, .int x1] (hk_of s) (hk_of r.1, none)) (h : f102_105 self x0 x1 x2 x3 x4 s = some r) (hr : dn102_25 d sc x0 x1 x2 o r) : Ev sc (d + 6) 102 [] 105 [some (.ref x0), some (.int x1), some (.ref x2), some (.int x3), some (.int x4)] [] (hk_of s) o := by
  unfold f102_105 at h
  refine E_blk rfl ?_
  refine E_ps 4 (pc' := 109) (l' := [some (.ref x0), some (.int x1), some (.ref x2), some (.int x3), some (.int x4)]) (st' := [.ref x0, .int (x1 + (1 : Int32))]) rfl ?_
  refine E_gi k0 (by decide) rfl ?_
  by_cases c1 : (s.1 x0 10) ≤ (x1 + (1 : Int32))
  · rw [if_pos c1] at h
    refine E_jt rfl rfl c1 ?_
    refine E_blk rfl ?_
    refine E_ps 2 (pc' := 127) (l' := [some (.ref x0), some (.int x1), some (.ref x2), some (.int x3), some (.int x4)]) (st' := [.ref x2, .ref x0]) rfl ?_
    obtain ⟨z2, e3, h⟩ := Option.bind_eq_some_iff.mp h
    refine E_callI (vs := [.ref x0, .ref x2]) (rest := []) rfl (by decide) rfl rfl (Nat.le_of_ble_eq_true rfl) (s103 e3) (by omega) ?_
    by_cases c4 : z2.2 = 0
    · rw [if_pos c4] at h
      refine E_jt rfl rfl c4 ?_
      exact E_wk (l' := [some (.ref x0), some (.int x1), some (.ref x2), some (.int x3), none]) ⟨rfl, rfl, rfl, rfl, trivial⟩ (s102_156 k0 k2 hself h hr)
    · rw [if_neg c4] at h
      refine E_jf rfl rfl c4 ?_
      refine E_blk rfl ?_
      refine E_ps 2 (pc' := 136) (l' := [some (.ref x0), some (.int x1), some (.ref x2), some (.int x3), some (.int x4)]) (st' := [.int x4, .ref x0]) rfl ?_
      obtain ⟨t5, e6, h⟩ := Option.bind_eq_some_iff.mp h
      refine E_pi k0 (by decide) rfl e6 ?_
      refine E_ps 1 (pc' := 140) (l' := [some (.ref x0), some (.int x1), some (.ref x2), some (.int x3), some (.int x4)]) (st' := [.ref x0]) rfl ?_
      obtain ⟨a7, e8, h⟩ := Option.bind_eq_some_iff.mp h
      refine E_gr k0 (by decide) rfl e8 ?_
      refine E_ps 2 (pc' := 145) (l' := [some (.ref x0), some (.int x1), some (.ref x2), some (.int x3), some (.int x4)]) (st' := [.ref x0, .int (0 : Int32), .ref a7]) rfl ?_
      obtain ⟨a9, e10, h⟩ := Option.bind_eq_some_iff.mp h
      refine E_gr k0 (by decide) rfl e10 ?_
      refine E_ps 2 (pc' := 150) (l' := [some (.ref x0), some (.int x1), some (.ref x2), some (.int x3), some (.int x4)]) (st' := [.ref x0, .int (0 : Int32), .ref a9, .int (0 : Int32), .ref a7]) rfl ?_
      refine E_gi k0 (by decide) rfl ?_
      obtain ⟨t11, e12, h⟩ := Option.bind_eq_some_iff.mp h
      refine E_cp e12 (Nat.le_of_ble_eq_true rfl) ?_
      exact E_wk (l' := [some (.ref x0), some (.int x1), some (.ref x2), some (.int x3), none]) ⟨rfl, rfl, rfl, rfl, trivial⟩ (s102_156 k0 k2 hself h hr)
  · rw [if_neg c1] at h
    refine E_jf rfl rfl c1 ?_
    refine E_blk rfl ?_
    refine E_ps 4 (pc' := 119) (l' := [some (.ref x0), some (.int x1), some (.ref x2), some (.int x3), some (.int x4)]) (st' := [.int (x1 + (1 : Int32)), .ref x0]) rfl ?_
    obtain ⟨z13, e14, h⟩ := Option.bind_eq_some_iff.mp h
    refine E_callV (vs := [.ref x0, .int (x1 + (1 : Int32))]) (rest := []) rfl (by decide) rfl rfl (Nat.le_of_ble_eq_true rfl) (hself _ _ _ _ e14) (Nat.lt_succ_self _) ?_
    refine E_j rfl rfl ?_
    exact E_wk (l' := [some (.ref x0), some (.int x1), some (.ref x2), some (.int x3), none]) ⟨rfl, rfl, rfl, rfl, trivial⟩ (s102_156 k0 k2 hself h hr)
noncomputable def f102_25 (self : Nat → Int32 → xS → Option (xS × Unit)) (x0 : Nat) (x1 : Int32) (x2 : Nat) (x3 : Int32) (s : xS) : Option ((Int32 × xS) ⊕ (xS × Unit)) := (hk_R x0 1).bind fun a1 => if (s.1 a1 1) ≤ x3 then (Option.map Sum.inr (some (s, ()))) else ((hk_R x0 4).bind fun a5 => (aR a5 x1).bind fun a7 => ifg (oK a7 0 = true) <| (f3 x2 a7 s).bind fun z10 => (hk_R x0 3).bind fun a12 => (hk_R x0 1).bind fun a15 => (hk_R a15 0).bind fun a18 => (aR a18 x3).bind fun a20 => ifg (oK a20 6 = true) <| (f36 a12 x2 a20 z10.1).bind fun z23 => (hk_R x0 6).bind fun a25 => (wI z23.1 a25 x1 x3).bind fun t27 => (hk_R x0 2).bind fun a29 => if (t27.1 x0 8) = (-1 : Int32) then (f102_105 self x0 x1 x2 x3 ((t27.1 x2 4) - (t27.1 a29 4)) t27) else (if ((t27.1 x2 4) - (t27.1 a29 4)) < (t27.1 x0 8) then (f102_105 self x0 x1 x2 x3 ((t27.1 x2 4) - (t27.1 a29 4)) t27) else (f102_156 self x0 x1 x2 x3 t27)))
set_option maxRecDepth 20000 in
theorem s102_25 {d : Nat} {self : Nat → Int32 → xS → Option (xS × Unit)} {sc : Option (Nat × (Nat → Int32))} {x0 : Nat} {x1 : Int32} {x2 : Nat} {x3 : Int32} {s : xS} {o : xH × Option Value} {r : ((Int32 × xS) ⊕ (xS × Unit))} (k0 : oK x0 9 = true) (k2 : oK x2 0 = true) (hself : ∀ x0 x1 s r, self x0 x1 s = some r → Cl sc (d + 5) 102 [.ref x0, .int x1] (hk_of s) (hk_of r.1, none)) (h : f102_25 self x0 x1 x2 x3 s = some r) (hr : dn102_25 d sc x0 x1 x2 o r) : Ev sc (d + 6) 102 [] 25 [some (.ref x0), some (.int x1), some (.ref x2), some (.int x3), none] [] (hk_of s) o := by
  unfold f102_25 at h
  refine E_blk rfl ?_
  refine E_ps 2 (pc' := 27) (l' := [some (.ref x0), some (.int x1), some (.ref x2), some (.int x3), none]) (st' := [.ref x0, .int x3]) rfl ?_
  obtain ⟨a1, e2, h⟩ := Option.bind_eq_some_iff.mp h
  refine E_gr k0 (by decide) rfl e2 ?_
  have kf3 : oK a1 4 = true := hk_rty k0 e2 rfl (by decide)
  refine E_gi kf3 (by decide) rfl ?_
  by_cases c4 : (s.1 a1 1) ≤ x3
  · rw [if_pos c4] at h
    refine E_jt rfl rfl c4 ?_
    obtain ⟨r, h, hr⟩ := lf_some (Dn := dn102_25 d sc x0 x1 x2 o) h hr
    refine E_blk rfl ?_
    cases h
    exact E_ret rfl (pg_mt_md (by decide)) rfl hr
  · rw [if_neg c4] at h
    refine E_jf rfl rfl c4 ?_
    refine E_blk rfl ?_
    refine E_ps 2 (pc' := 38) (l' := [some (.ref x0), some (.int x1), some (.ref x2), some (.int x3), none]) (st' := [.ref x0, .ref x2]) rfl ?_
    obtain ⟨a5, e6, h⟩ := Option.bind_eq_some_iff.mp h
    refine E_gr k0 (by decide) rfl e6 ?_
    refine E_ps 1 (pc' := 42) (l' := [some (.ref x0), some (.int x1), some (.ref x2), some (.int x3), none]) (st' := [.int x1, .ref a5, .ref x2]) rfl ?_
    obtain ⟨a7, e8, h⟩ := Option.bind_eq_some_iff.mp h
    refine E_ar e8 ?_
    obtain ⟨g9, h⟩ := ifg_some h
    obtain ⟨z10, e11, h⟩ := Option.bind_eq_some_iff.mp h
    refine E_callV (vs := [.ref x2, .ref a7]) (rest := []) rfl (by decide) rfl rfl (Nat.le_of_ble_eq_true rfl) (s3 e11) (by omega) ?_
    refine E_ps 1 (pc' := 47) (l' := [some (.ref x0), some (.int x1), some (.ref x2), some (.int x3), none]) (st' := [.ref x0]) rfl ?_
    obtain ⟨a12, e13, h⟩ := Option.bind_eq_some_iff.mp h
    refine E_gr k0 (by decide) rfl e13 ?_
    have kf14 : oK a12 3 = true := hk_rty k0 e13 rfl (by decide)
    refine E_ps 2 (pc' := 52) (l' := [some (.ref x0), some (.int x1), some (.ref x2), some (.int x3), none]) (st' := [.ref x0, .ref x2, .ref a12]) rfl ?_
    obtain ⟨a15, e16, h⟩ := Option.bind_eq_some_iff.mp h
    refine E_gr k0 (by decide) rfl e16 ?_
    have kf17 : oK a15 4 = true := hk_rty k0 e16 rfl (by decide)
    obtain ⟨a18, e19, h⟩ := Option.bind_eq_some_iff.mp h
    refine E_gr kf17 (by decide) rfl e19 ?_
    refine E_ps 1 (pc' := 59) (l' := [some (.ref x0), some (.int x1), some (.ref x2), some (.int x3), none]) (st' := [.int x3, .ref a18, .ref x2, .ref a12]) rfl ?_
    obtain ⟨a20, e21, h⟩ := Option.bind_eq_some_iff.mp h
    refine E_ar e21 ?_
    obtain ⟨g22, h⟩ := ifg_some h
    obtain ⟨z23, e24, h⟩ := Option.bind_eq_some_iff.mp h
    refine E_callI (vs := [.ref a12, .ref x2, .ref a20]) (rest := []) rfl (by decide) rfl rfl (Nat.le_of_ble_eq_true rfl) (s36 e24) (by omega) ?_
    refine E_ps 2 (pc' := 65) (l' := [some (.ref x0), some (.int x1), some (.ref x2), some (.int x3), none]) (st' := [.ref x0]) rfl ?_
    obtain ⟨a25, e26, h⟩ := Option.bind_eq_some_iff.mp h
    refine E_gr k0 (by decide) rfl e26 ?_
    refine E_ps 2 (pc' := 70) (l' := [some (.ref x0), some (.int x1), some (.ref x2), some (.int x3), none]) (st' := [.int x3, .int x1, .ref a25]) rfl ?_
    obtain ⟨t27, e28, h⟩ := Option.bind_eq_some_iff.mp h
    refine E_wi e28 ?_
    refine E_ps 1 (pc' := 72) (l' := [some (.ref x0), some (.int x1), some (.ref x2), some (.int x3), none]) (st' := [.ref x2]) rfl ?_
    refine E_gi k2 (by decide) rfl ?_
    refine E_ps 1 (pc' := 76) (l' := [some (.ref x0), some (.int x1), some (.ref x2), some (.int x3), none]) (st' := [.ref x0, .int (t27.1 x2 4)]) rfl ?_
    obtain ⟨a29, e30, h⟩ := Option.bind_eq_some_iff.mp h
    refine E_gr k0 (by decide) rfl e30 ?_
    have kf31 : oK a29 0 = true := hk_rty k0 e30 rfl (by decide)
    refine E_gi kf31 (by decide) rfl ?_
    refine E_ps 3 (pc' := 86) (l' := [some (.ref x0), some (.int x1), some (.ref x2), some (.int x3), some (.int ((t27.1 x2 4) - (t27.1 a29 4)))]) (st' := [.ref x0]) rfl ?_
    refine E_gi k0 (by decide) rfl ?_
    refine E_ps 1 (pc' := 90) (l' := [some (.ref x0), some (.int x1), some (.ref x2), some (.int x3), some (.int ((t27.1 x2 4) - (t27.1 a29 4)))]) (st' := [.int (-1 : Int32), .int (t27.1 x0 8)]) rfl ?_
    by_cases c32 : (t27.1 x0 8) = (-1 : Int32)
    · rw [if_pos c32] at h
      refine E_jt rfl rfl c32 ?_
      exact E_wk (l' := [some (.ref x0), some (.int x1), some (.ref x2), some (.int x3), some (.int ((t27.1 x2 4) - (t27.1 a29 4)))]) ⟨rfl, rfl, rfl, rfl, rfl, trivial⟩ (s102_105 k0 k2 hself h hr)
    · rw [if_neg c32] at h
      refine E_jf rfl rfl c32 ?_
      refine E_blk rfl ?_
      refine E_ps 2 (pc' := 96) (l' := [some (.ref x0), some (.int x1), some (.ref x2), some (.int x3), some (.int ((t27.1 x2 4) - (t27.1 a29 4)))]) (st' := [.ref x0, .int ((t27.1 x2 4) - (t27.1 a29 4))]) rfl ?_
      refine E_gi k0 (by decide) rfl ?_
      by_cases c33 : ((t27.1 x2 4) - (t27.1 a29 4)) < (t27.1 x0 8)
      · rw [if_pos c33] at h
        refine E_jt rfl rfl c33 ?_
        exact E_wk (l' := [some (.ref x0), some (.int x1), some (.ref x2), some (.int x3), some (.int ((t27.1 x2 4) - (t27.1 a29 4)))]) ⟨rfl, rfl, rfl, rfl, rfl, trivial⟩ (s102_105 k0 k2 hself h hr)
      · rw [if_neg c33] at h
        refine E_jf rfl rfl c33 ?_
        refine E_blk rfl ?_
        refine E_j rfl rfl ?_
        exact E_wk (l' := [some (.ref x0), some (.int x1), some (.ref x2), some (.int x3), none]) ⟨rfl, rfl, rfl, rfl, trivial⟩ (s102_156 k0 k2 hself h hr)
theorem s102_25_w {d : Nat} {self : Nat → Int32 → xS → Option (xS × Unit)} {sc : Option (Nat × (Nat → Int32))} {x0 : Nat} {x1 : Int32} {x2 : Nat} {x3 : Int32} {s : xS} {o : xH × Option Value} {r : (xS × Unit)} (k0 : oK x0 9 = true) (k2 : oK x2 0 = true) (hself : ∀ x0 x1 s r, self x0 x1 s = some r → Cl sc (d + 5) 102 [.ref x0, .int x1] (hk_of s) (hk_of r.1, none)) (h : whl (fun q : (Int32 × xS) => f102_25 self x0 x1 x2 q.1 q.2) (x3, s) = some r) (hr : dn102 o r) : Ev sc (d + 6) 102 [] 25 [some (.ref x0), some (.int x1), some (.ref x2), some (.int x3), none] [] (hk_of s) o := by
  refine whl_snd (E := fun q : (Int32 × xS) => Ev sc (d + 6) 102 [] 25 [some (.ref x0), some (.int x1), some (.ref x2), some (.int q.1), none] [] (hk_of q.2) o) (P := fun r => dn102 o r) (fun q r h hr => ?_) h hr
  exact s102_25 k0 k2 hself h (by cases r <;> exact hr)
noncomputable def f102_13 (self : Nat → Int32 → xS → Option (xS × Unit))  (s : xS) : Option (xS × Unit) := some (s, ())
set_option maxRecDepth 20000 in
theorem s102_13 {d : Nat} {self : Nat → Int32 → xS → Option (xS × Unit)} {sc : Option (Nat × (Nat → Int32))}  {s : xS} {o : xH × Option Value} {r : (xS × Unit)}  (hself : ∀ x0 x1 s r, self x0 x1 s = some r → Cl sc (d + 5) 102 [.ref x0, .int x1] (hk_of s) (hk_of r.1, none)) (h : f102_13 self  s = some r) (hr : dn102 o r) : Ev sc (d + 6) 102 [] 13 [none, none, none, none, none] [] (hk_of s) o := by
  unfold f102_13 at h
  refine E_blk rfl ?_
  cases h
  exact E_ret rfl (pg_mt_md (by decide)) rfl hr
noncomputable def f102_b (self : Nat → Int32 → xS → Option (xS × Unit)) (x0 : Nat) (x1 : Int32) (s : xS) : Option (xS × Unit) := ifg (oK x0 9 = true) <| if (s.1 x0 10) ≤ x1 then (f102_13 self  s) else (if x1 < (3 : Int32) then ((hk_R x0 4).bind fun a3 => (aR a3 (x1 + (1 : Int32))).bind fun a5 => ifg (oK a5 0 = true) <| whl (fun q : (Int32 × xS) => f102_25 self x0 x1 a5 q.1 q.2) ((0 : Int32), s)) else (f102_13 self  s))
set_option maxRecDepth 20000 in
theorem s102_b {d : Nat} {self : Nat → Int32 → xS → Option (xS × Unit)} {sc : Option (Nat × (Nat → Int32))} {x0 : Nat} {x1 : Int32} {s : xS} {r : xS × Unit} (hself : ∀ x0 x1 s r, self x0 x1 s = some r → Cl sc (d + 5) 102 [.ref x0, .int x1] (hk_of s) (hk_of r.1, none)) (h : f102_b self x0 x1 s = some r) : Cl sc (d + 6) 102 [.ref x0, .int x1] (hk_of s) (hk_of r.1, none) := by
  unfold f102_b at h
  obtain ⟨k0, h⟩ := ifg_some h
  refine ⟨pg_md 102, [some (.ref x0), some (.int x1), none, none, none], pg_mt_md (by decide), (hk_rcv k0), rfl, ?_⟩
  generalize ho : ((hk_of r.1, none) : xH × Option Value) = o
  have hr : dn102 o r := ho.symm
  refine E_blk rfl ?_
  refine E_ps 2 (pc' := 2) (l' := [some (.ref x0), some (.int x1), none, none, none]) (st' := [.ref x0, .int x1]) rfl ?_
  refine E_gi k0 (by decide) rfl ?_
  by_cases c1 : (s.1 x0 10) ≤ x1
  · rw [if_pos c1] at h
    refine E_jt rfl rfl c1 ?_
    exact E_wk (l' := [none, none, none, none, none]) trivial (s102_13  hself h hr)
  · rw [if_neg c1] at h
    refine E_jf rfl rfl c1 ?_
    refine E_blk rfl ?_
    refine E_ps 2 (pc' := 10) (l' := [some (.ref x0), some (.int x1), none, none, none]) (st' := [.int (3 : Int32), .int x1]) rfl ?_
    by_cases c2 : x1 < (3 : Int32)
    · rw [if_pos c2] at h
      refine E_jt rfl rfl c2 ?_
      refine E_blk rfl ?_
      refine E_ps 1 (pc' := 15) (l' := [some (.ref x0), some (.int x1), none, none, none]) (st' := [.ref x0]) rfl ?_
      obtain ⟨a3, e4, h⟩ := Option.bind_eq_some_iff.mp h
      refine E_gr k0 (by decide) rfl e4 ?_
      refine E_ps 3 (pc' := 21) (l' := [some (.ref x0), some (.int x1), none, none, none]) (st' := [.int (x1 + (1 : Int32)), .ref a3]) rfl ?_
      obtain ⟨a5, e6, h⟩ := Option.bind_eq_some_iff.mp h
      refine E_ar e6 ?_
      obtain ⟨g7, h⟩ := ifg_some h
      refine E_ps 3 (pc' := 25) (l' := [some (.ref x0), some (.int x1), some (.ref a5), some (.int (0 : Int32)), none]) (st' := []) rfl ?_
      exact E_wk (l' := [some (.ref x0), some (.int x1), some (.ref a5), some (.int (0 : Int32)), none]) ⟨rfl, rfl, rfl, rfl, trivial⟩ (s102_25_w k0 g7 hself h hr)
    · rw [if_neg c2] at h
      refine E_jf rfl rfl c2 ?_
      exact E_wk (l' := [none, none, none, none, none]) trivial (s102_13  hself h hr)
noncomputable def f102r : Nat → Nat → Int32 → xS → Option (xS × Unit)
  | 0, _, _, _ => none
  | d + 1, x0, x1, s => f102_b (f102r d) x0 x1 s
theorem s102r {sc : Option (Nat × (Nat → Int32))} : ∀ (d : Nat) (x0 : Nat) (x1 : Int32) (s : xS) (r : xS × Unit), f102r (d + 1) x0 x1 s = some r → Cl sc (d + 6) 102 [.ref x0, .int x1] (hk_of s) (hk_of r.1, none) := by
  intro d
  induction d with
  | zero => intro x0 x1 s r h; exact s102_b (d := 0) (self := f102r 0) (fun _ _ _ _ q => by cases q) h
  | succ d ih => intro x0 x1 s r h; exact s102_b (d := d + 1) (self := f102r (d + 1)) (fun a b s r q => by have := ih a b s r q; rw [show d + 1 + 5 = d + 6 by omega]; exact this) h
noncomputable def f102 (x0 : Nat) (x1 : Int32) (s : xS) : Option (xS × Unit) := f102r 5 x0 x1 s
theorem s102 {sc : Option (Nat × (Nat → Int32))} {x0 : Nat} {x1 : Int32} {s : xS} {r : xS × Unit} (h : f102 x0 x1 s = some r) : Cl sc 10 102 [.ref x0, .int x1] (hk_of s) (hk_of r.1, none) := s102r 4 x0 x1 s r h

-- 167: ThreePlates.isOff(I)Z
def dn167 (o : xH × Option Value) (r : xS × Int32) : Prop := o = (hk_of r.1, some (.int r.2))
noncomputable def f167_16 (y0 : Int32) (s : xS) : Option (xS × Int32) := ifg (y0 = 0 ∨ y0 = 1) <| some (s, y0)
set_option maxRecDepth 20000 in
theorem s167_16 {sc : Option (Nat × (Nat → Int32))} {y0 : Int32} {s : xS} {o : xH × Option Value} {r : (xS × Int32)}  (h : f167_16 y0 s = some r) (hr : dn167 o r) : Ev sc 1 167 [] 16 [none] [.int y0] (hk_of s) o := by
  unfold f167_16 at h
  refine E_blk rfl ?_
  obtain ⟨g1, h⟩ := ifg_some h
  cases h
  exact E_ret rfl (pg_mt_md (by decide)) (hk_retz g1 rfl) hr
noncomputable def f167_15  (s : xS) : Option (xS × Int32) := f167_16 (0 : Int32) s
set_option maxRecDepth 20000 in
theorem s167_15 {sc : Option (Nat × (Nat → Int32))}  {s : xS} {o : xH × Option Value} {r : (xS × Int32)}  (h : f167_15  s = some r) (hr : dn167 o r) : Ev sc 1 167 [] 15 [none] [] (hk_of s) o := by
  unfold f167_15 at h
  refine E_blk rfl ?_
  refine E_ps 1 (pc' := 16) (l' := [none]) (st' := [.int (0 : Int32)]) rfl ?_
  exact E_wk (l' := [none]) trivial (s167_16  h hr)
noncomputable def f167 (x0 : Int32) (s : xS) : Option (xS × Int32) :=  if x0 < 0 then (f167_15  s) else (if (999 : Int32) < x0 then (f167_15  s) else (f167_16 (1 : Int32) s))
set_option maxRecDepth 20000 in
theorem s167 {sc : Option (Nat × (Nat → Int32))} {x0 : Int32} {s : xS} {r : xS × Int32} (h : f167 x0 s = some r) : Cl sc 1 167 [.int x0] (hk_of s) (hk_of r.1, some (.int r.2)) := by
  unfold f167 at h
  refine ⟨pg_md 167, [some (.int x0)], pg_mt_md (by decide), rfl, rfl, ?_⟩
  generalize ho : ((hk_of r.1, some (Value.int r.2)) : xH × Option Value) = o
  have hr : dn167 o r := ho.symm
  refine E_blk rfl ?_
  refine E_ps 1 (pc' := 1) (l' := [some (.int x0)]) (st' := [.int x0]) rfl ?_
  by_cases c1 : x0 < 0
  · rw [if_pos c1] at h
    refine E_jt rfl rfl c1 ?_
    exact E_wk (l' := [none]) trivial (s167_15  h hr)
  · rw [if_neg c1] at h
    refine E_jf rfl rfl c1 ?_
    refine E_blk rfl ?_
    refine E_ps 2 (pc' := 8) (l' := [some (.int x0)]) (st' := [.int (999 : Int32), .int x0]) rfl ?_
    by_cases c2 : (999 : Int32) < x0
    · rw [if_pos c2] at h
      refine E_jt rfl rfl c2 ?_
      exact E_wk (l' := [none]) trivial (s167_15  h hr)
    · rw [if_neg c2] at h
      refine E_jf rfl rfl c2 ?_
      refine E_blk rfl ?_
      refine E_ps 1 (pc' := 12) (l' := [some (.int x0)]) (st' := [.int (1 : Int32)]) rfl ?_
      refine E_j rfl rfl ?_
      exact E_wk (l' := [none]) trivial (s167_16  h hr)

-- 101: ThreePlates$Trials.findBest(II)Z
def dn101 (o : xH × Option Value) (r : xS × Int32) : Prop := o = (hk_of r.1, some (.int r.2))
noncomputable def f101_108 (y0 : Int32) (s : xS) : Option (xS × Int32) := ifg (y0 = 0 ∨ y0 = 1) <| some (s, y0)
set_option maxRecDepth 20000 in
theorem s101_108 {sc : Option (Nat × (Nat → Int32))} {y0 : Int32} {s : xS} {o : xH × Option Value} {r : (xS × Int32)}  (h : f101_108 y0 s = some r) (hr : dn101 o r) : Ev sc 11 101 [] 108 [none, none, none] [.int y0] (hk_of s) o := by
  unfold f101_108 at h
  refine E_blk rfl ?_
  obtain ⟨g1, h⟩ := ifg_some h
  cases h
  exact E_ret rfl (pg_mt_md (by decide)) (hk_retz g1 rfl) hr
noncomputable def f101_27  (s : xS) : Option (xS × Int32) := some (s, (0 : Int32))
set_option maxRecDepth 20000 in
theorem s101_27 {sc : Option (Nat × (Nat → Int32))}  {s : xS} {o : xH × Option Value} {r : (xS × Int32)}  (h : f101_27  s = some r) (hr : dn101 o r) : Ev sc 11 101 [] 27 [none, none, none] [] (hk_of s) o := by
  unfold f101_27 at h
  refine E_blk rfl ?_
  refine E_ps 1 (pc' := 28) (l' := [none, none, none]) (st' := [.int (0 : Int32)]) rfl ?_
  cases h
  exact E_ret rfl (pg_mt_md (by decide)) rfl hr
noncomputable def f101_95 (x0 : Nat) (s : xS) : Option (xS × Int32) := if (s.1 x0 8) = (-1 : Int32) then (f101_108 (0 : Int32) s) else (f101_108 (1 : Int32) s)
set_option maxRecDepth 20000 in
theorem s101_95 {sc : Option (Nat × (Nat → Int32))} {x0 : Nat} {s : xS} {o : xH × Option Value} {r : (xS × Int32)} (k0 : oK x0 9 = true) (h : f101_95 x0 s = some r) (hr : dn101 o r) : Ev sc 11 101 [] 95 [some (.ref x0), none, none] [] (hk_of s) o := by
  unfold f101_95 at h
  refine E_blk rfl ?_
  refine E_ps 1 (pc' := 96) (l' := [some (.ref x0), none, none]) (st' := [.ref x0]) rfl ?_
  refine E_gi k0 (by decide) rfl ?_
  refine E_ps 1 (pc' := 100) (l' := [some (.ref x0), none, none]) (st' := [.int (-1 : Int32), .int (s.1 x0 8)]) rfl ?_
  by_cases c1 : (s.1 x0 8) = (-1 : Int32)
  · rw [if_pos c1] at h
    refine E_jt rfl rfl c1 ?_
    refine E_blk rfl ?_
    refine E_ps 1 (pc' := 108) (l' := [some (.ref x0), none, none]) (st' := [.int (0 : Int32)]) rfl ?_
    exact E_wk (l' := [none, none, none]) trivial (s101_108  h hr)
  · rw [if_neg c1] at h
    refine E_jf rfl rfl c1 ?_
    refine E_blk rfl ?_
    refine E_ps 1 (pc' := 104) (l' := [some (.ref x0), none, none]) (st' := [.int (1 : Int32)]) rfl ?_
    refine E_j rfl rfl ?_
    exact E_wk (l' := [none, none, none]) trivial (s101_108  h hr)
noncomputable def f101_52 (x0 : Nat) (x1 : Int32) (x2 : Int32) (s : xS) : Option (xS × Int32) := (pI s x0 9 (1 : Int32)).bind fun t1 => (pI t1 x0 10 x1).bind fun t3 => (pI t3 x0 11 x2).bind fun t5 => (pI t5 x0 8 (-1 : Int32)).bind fun t7 => (f98 x0 x2 t7).bind fun z9 => (hk_R x0 4).bind fun a11 => (aR a11 (0 : Int32)).bind fun a13 => ifg (oK a13 0 = true) <| (hk_R x0 2).bind fun a16 => (f3 a13 a16 z9.1).bind fun z19 => (f102 x0 (0 : Int32) z19.1).bind fun z21 => f101_95 x0 z21.1
set_option maxRecDepth 20000 in
theorem s101_52 {sc : Option (Nat × (Nat → Int32))} {x0 : Nat} {x1 : Int32} {x2 : Int32} {s : xS} {o : xH × Option Value} {r : (xS × Int32)} (k0 : oK x0 9 = true) (h : f101_52 x0 x1 x2 s = some r) (hr : dn101 o r) : Ev sc 11 101 [] 52 [some (.ref x0), some (.int x1), some (.int x2)] [] (hk_of s) o := by
  unfold f101_52 at h
  refine E_blk rfl ?_
  refine E_ps 2 (pc' := 54) (l' := [some (.ref x0), some (.int x1), some (.int x2)]) (st' := [.int (1 : Int32), .ref x0]) rfl ?_
  obtain ⟨t1, e2, h⟩ := Option.bind_eq_some_iff.mp h
  refine E_pi k0 (by decide) rfl e2 ?_
  refine E_ps 2 (pc' := 59) (l' := [some (.ref x0), some (.int x1), some (.int x2)]) (st' := [.int x1, .ref x0]) rfl ?_
  obtain ⟨t3, e4, h⟩ := Option.bind_eq_some_iff.mp h
  refine E_pi k0 (by decide) rfl e4 ?_
  refine E_ps 2 (pc' := 64) (l' := [some (.ref x0), some (.int x1), some (.int x2)]) (st' := [.int x2, .ref x0]) rfl ?_
  obtain ⟨t5, e6, h⟩ := Option.bind_eq_some_iff.mp h
  refine E_pi k0 (by decide) rfl e6 ?_
  refine E_ps 2 (pc' := 69) (l' := [some (.ref x0), some (.int x1), some (.int x2)]) (st' := [.int (-1 : Int32), .ref x0]) rfl ?_
  obtain ⟨t7, e8, h⟩ := Option.bind_eq_some_iff.mp h
  refine E_pi k0 (by decide) rfl e8 ?_
  refine E_ps 2 (pc' := 74) (l' := [some (.ref x0), some (.int x1), some (.int x2)]) (st' := [.int x2, .ref x0]) rfl ?_
  obtain ⟨z9, e10, h⟩ := Option.bind_eq_some_iff.mp h
  refine E_callV (vs := [.ref x0, .int x2]) (rest := []) rfl (by decide) rfl rfl (Nat.le_of_ble_eq_true rfl) (s98 e10) (by decide) ?_
  refine E_ps 1 (pc' := 78) (l' := [some (.ref x0), some (.int x1), some (.int x2)]) (st' := [.ref x0]) rfl ?_
  obtain ⟨a11, e12, h⟩ := Option.bind_eq_some_iff.mp h
  refine E_gr k0 (by decide) rfl e12 ?_
  refine E_ps 1 (pc' := 82) (l' := [some (.ref x0), some (.int x1), some (.int x2)]) (st' := [.int (0 : Int32), .ref a11]) rfl ?_
  obtain ⟨a13, e14, h⟩ := Option.bind_eq_some_iff.mp h
  refine E_ar e14 ?_
  obtain ⟨g15, h⟩ := ifg_some h
  refine E_ps 1 (pc' := 84) (l' := [some (.ref x0), some (.int x1), some (.int x2)]) (st' := [.ref x0, .ref a13]) rfl ?_
  obtain ⟨a16, e17, h⟩ := Option.bind_eq_some_iff.mp h
  refine E_gr k0 (by decide) rfl e17 ?_
  have kf18 : oK a16 0 = true := hk_rty k0 e17 rfl (by decide)
  obtain ⟨z19, e20, h⟩ := Option.bind_eq_some_iff.mp h
  refine E_callV (vs := [.ref a13, .ref a16]) (rest := []) rfl (by decide) rfl rfl (Nat.le_of_ble_eq_true rfl) (s3 e20) (by decide) ?_
  refine E_ps 2 (pc' := 92) (l' := [some (.ref x0), some (.int x1), some (.int x2)]) (st' := [.int (0 : Int32), .ref x0]) rfl ?_
  obtain ⟨z21, e22, h⟩ := Option.bind_eq_some_iff.mp h
  refine E_callV (vs := [.ref x0, .int (0 : Int32)]) (rest := []) rfl (by decide) rfl rfl (Nat.le_of_ble_eq_true rfl) (s102 e22) (by decide) ?_
  exact E_wk (l' := [some (.ref x0), none, none]) ⟨rfl, trivial⟩ (s101_95 k0 h hr)
noncomputable def f101 (x0 : Nat) (x1 : Int32) (x2 : Int32) (s : xS) : Option (xS × Int32) := ifg (oK x0 9 = true) <| if x1 < (1 : Int32) then (f101_27  s) else (if (3 : Int32) < x1 then (f101_27  s) else ((f167 x2 s).bind fun z3 => if z3.2 = 0 then (f101_27  z3.1) else ((hk_R x0 1).bind fun a6 => if (z3.1.1 a6 1) = 0 then (f101_27  z3.1) else (if (z3.1.1 x0 9) = 0 then (f101_52 x0 x1 x2 z3.1) else (if (z3.1.1 x0 10) = x1 then (if (z3.1.1 x0 11) = x2 then (f101_95 x0 z3.1) else (f101_52 x0 x1 x2 z3.1)) else (f101_52 x0 x1 x2 z3.1))))))
set_option maxRecDepth 20000 in
theorem s101 {sc : Option (Nat × (Nat → Int32))} {x0 : Nat} {x1 : Int32} {x2 : Int32} {s : xS} {r : xS × Int32} (h : f101 x0 x1 x2 s = some r) : Cl sc 11 101 [.ref x0, .int x1, .int x2] (hk_of s) (hk_of r.1, some (.int r.2)) := by
  unfold f101 at h
  obtain ⟨k0, h⟩ := ifg_some h
  refine ⟨pg_md 101, [some (.ref x0), some (.int x1), some (.int x2)], pg_mt_md (by decide), (hk_rcv k0), rfl, ?_⟩
  generalize ho : ((hk_of r.1, some (Value.int r.2)) : xH × Option Value) = o
  have hr : dn101 o r := ho.symm
  refine E_blk rfl ?_
  refine E_ps 2 (pc' := 2) (l' := [some (.ref x0), some (.int x1), some (.int x2)]) (st' := [.int (1 : Int32), .int x1]) rfl ?_
  by_cases c1 : x1 < (1 : Int32)
  · rw [if_pos c1] at h
    refine E_jt rfl rfl c1 ?_
    exact E_wk (l' := [none, none, none]) trivial (s101_27  h hr)
  · rw [if_neg c1] at h
    refine E_jf rfl rfl c1 ?_
    refine E_blk rfl ?_
    refine E_ps 2 (pc' := 7) (l' := [some (.ref x0), some (.int x1), some (.int x2)]) (st' := [.int (3 : Int32), .int x1]) rfl ?_
    by_cases c2 : (3 : Int32) < x1
    · rw [if_pos c2] at h
      refine E_jt rfl rfl c2 ?_
      exact E_wk (l' := [none, none, none]) trivial (s101_27  h hr)
    · rw [if_neg c2] at h
      refine E_jf rfl rfl c2 ?_
      refine E_blk rfl ?_
      refine E_ps 1 (pc' := 11) (l' := [some (.ref x0), some (.int x1), some (.int x2)]) (st' := [.int x2]) rfl ?_
      obtain ⟨z3, e4, h⟩ := Option.bind_eq_some_iff.mp h
      refine E_callI (vs := [.int x2]) (rest := []) rfl (by decide) rfl rfl (Nat.le_of_ble_eq_true rfl) (s167 e4) (by decide) ?_
      by_cases c5 : z3.2 = 0
      · rw [if_pos c5] at h
        refine E_jt rfl rfl c5 ?_
        exact E_wk (l' := [none, none, none]) trivial (s101_27  h hr)
      · rw [if_neg c5] at h
        refine E_jf rfl rfl c5 ?_
        refine E_blk rfl ?_
        refine E_ps 1 (pc' := 18) (l' := [some (.ref x0), some (.int x1), some (.int x2)]) (st' := [.ref x0]) rfl ?_
        obtain ⟨a6, e7, h⟩ := Option.bind_eq_some_iff.mp h
        refine E_gr k0 (by decide) rfl e7 ?_
        have kf8 : oK a6 4 = true := hk_rty k0 e7 rfl (by decide)
        refine E_gi kf8 (by decide) rfl ?_
        by_cases c9 : (z3.1.1 a6 1) = 0
        · rw [if_pos c9] at h
          refine E_jt rfl rfl c9 ?_
          exact E_wk (l' := [none, none, none]) trivial (s101_27  h hr)
        · rw [if_neg c9] at h
          refine E_jf rfl rfl c9 ?_
          refine E_blk rfl ?_
          refine E_ps 1 (pc' := 30) (l' := [some (.ref x0), some (.int x1), some (.int x2)]) (st' := [.ref x0]) rfl ?_
          refine E_gi k0 (by decide) rfl ?_
          by_cases c10 : (z3.1.1 x0 9) = 0
          · rw [if_pos c10] at h
            refine E_jt rfl rfl c10 ?_
            exact E_wk (l' := [some (.ref x0), some (.int x1), some (.int x2)]) ⟨rfl, rfl, rfl, trivial⟩ (s101_52 k0 h hr)
          · rw [if_neg c10] at h
            refine E_jf rfl rfl c10 ?_
            refine E_blk rfl ?_
            refine E_ps 1 (pc' := 37) (l' := [some (.ref x0), some (.int x1), some (.int x2)]) (st' := [.ref x0]) rfl ?_
            refine E_gi k0 (by decide) rfl ?_
            refine E_ps 1 (pc' := 41) (l' := [some (.ref x0), some (.int x1), some (.int x2)]) (st' := [.int x1, .int (z3.1.1 x0 10)]) rfl ?_
            by_cases c11 : (z3.1.1 x0 10) = x1
            · rw [if_pos c11] at h
              refine E_jt rfl rfl c11 ?_
              refine E_blk rfl ?_
              refine E_ps 1 (pc' := 45) (l' := [some (.ref x0), some (.int x1), some (.int x2)]) (st' := [.ref x0]) rfl ?_
              refine E_gi k0 (by decide) rfl ?_
              refine E_ps 1 (pc' := 49) (l' := [some (.ref x0), some (.int x1), some (.int x2)]) (st' := [.int x2, .int (z3.1.1 x0 11)]) rfl ?_
              by_cases c12 : (z3.1.1 x0 11) = x2
              · rw [if_pos c12] at h
                refine E_jt rfl rfl c12 ?_
                exact E_wk (l' := [some (.ref x0), none, none]) ⟨rfl, trivial⟩ (s101_95 k0 h hr)
              · rw [if_neg c12] at h
                refine E_jf rfl rfl c12 ?_
                exact E_wk (l' := [some (.ref x0), some (.int x1), some (.int x2)]) ⟨rfl, rfl, rfl, trivial⟩ (s101_52 k0 h hr)
            · rw [if_neg c11] at h
              refine E_jf rfl rfl c11 ?_
              exact E_wk (l' := [some (.ref x0), some (.int x1), some (.int x2)]) ⟨rfl, rfl, rfl, trivial⟩ (s101_52 k0 h hr)

-- 105: ThreePlates$Trials.findDeepest(LThreePlates$Round;)V
def dn105 (o : xH × Option Value) (r : xS × Unit) : Prop := o = (hk_of r.1, none)
def dn105_47 (sc : Option (Nat × (Nat → Int32))) (x0 : Nat) (x1 : Nat) (x2 : Int32) (o : xH × Option Value) (r : ((Int32 × xS) ⊕ (xS × Unit))) : Prop := match r with
  | .inl q => Ev sc 5 105 [] 47 [some (.ref x0), some (.ref x1), some (.int x2), some (.int q.1), none, none, none] [] (hk_of q.2) o
  | .inr r => dn105 o r
noncomputable def f105_176 (x0 : Nat) (x1 : Nat) (x2 : Int32) (x3 : Int32) (s : xS) : Option ((Int32 × xS) ⊕ (xS × Unit)) := some (Sum.inl ((x3 + (1 : Int32)), s))
set_option maxRecDepth 20000 in
theorem s105_176 {sc : Option (Nat × (Nat → Int32))} {x0 : Nat} {x1 : Nat} {x2 : Int32} {x3 : Int32} {s : xS} {o : xH × Option Value} {r : ((Int32 × xS) ⊕ (xS × Unit))} (k0 : oK x0 9 = true) (k1 : oK x1 6 = true) (h : f105_176 x0 x1 x2 x3 s = some r) (hr : dn105_47 sc x0 x1 x2 o r) : Ev sc 5 105 [] 176 [some (.ref x0), some (.ref x1), some (.int x2), some (.int x3), none, none, none] [] (hk_of s) o := by
  unfold f105_176 at h
  refine E_blk rfl ?_
  refine E_ps 1 (pc' := 179) (l' := [some (.ref x0), some (.ref x1), some (.int x2), some (.int (x3 + (1 : Int32))), none, none, none]) (st' := []) rfl ?_
  refine E_j rfl rfl ?_
  cases h
  exact E_wk (l' := [some (.ref x0), some (.ref x1), some (.int x2), some (.int (x3 + (1 : Int32))), none, none, none]) ⟨rfl, rfl, rfl, rfl, trivial⟩ hr
noncomputable def f105_159 (x0 : Nat) (x1 : Nat) (x2 : Int32) (x3 : Int32) (x5 : Int32) (x6 : Int32) (s : xS) : Option ((Int32 × xS) ⊕ (xS × Unit)) := (pI s x0 12 x3).bind fun t1 => (pI t1 x0 13 x5).bind fun t3 => (pI t3 x0 14 x6).bind fun t5 => f105_176 x0 x1 x2 x3 t5
set_option maxRecDepth 20000 in
theorem s105_159 {sc : Option (Nat × (Nat → Int32))} {x0 : Nat} {x1 : Nat} {x2 : Int32} {x3 : Int32} {x5 : Int32} {x6 : Int32} {s : xS} {o : xH × Option Value} {r : ((Int32 × xS) ⊕ (xS × Unit))} (k0 : oK x0 9 = true) (k1 : oK x1 6 = true) (h : f105_159 x0 x1 x2 x3 x5 x6 s = some r) (hr : dn105_47 sc x0 x1 x2 o r) : Ev sc 5 105 [] 159 [some (.ref x0), some (.ref x1), some (.int x2), some (.int x3), none, some (.int x5), some (.int x6)] [] (hk_of s) o := by
  unfold f105_159 at h
  refine E_blk rfl ?_
  refine E_ps 2 (pc' := 161) (l' := [some (.ref x0), some (.ref x1), some (.int x2), some (.int x3), none, some (.int x5), some (.int x6)]) (st' := [.int x3, .ref x0]) rfl ?_
  obtain ⟨t1, e2, h⟩ := Option.bind_eq_some_iff.mp h
  refine E_pi k0 (by decide) rfl e2 ?_
  refine E_ps 2 (pc' := 167) (l' := [some (.ref x0), some (.ref x1), some (.int x2), some (.int x3), none, some (.int x5), some (.int x6)]) (st' := [.int x5, .ref x0]) rfl ?_
  obtain ⟨t3, e4, h⟩ := Option.bind_eq_some_iff.mp h
  refine E_pi k0 (by decide) rfl e4 ?_
  refine E_ps 2 (pc' := 173) (l' := [some (.ref x0), some (.ref x1), some (.int x2), some (.int x3), none, some (.int x5), some (.int x6)]) (st' := [.int x6, .ref x0]) rfl ?_
  obtain ⟨t5, e6, h⟩ := Option.bind_eq_some_iff.mp h
  refine E_pi k0 (by decide) rfl e6 ?_
  exact E_wk (l' := [some (.ref x0), some (.ref x1), some (.int x2), some (.int x3), none, none, none]) ⟨rfl, rfl, rfl, rfl, trivial⟩ (s105_176 k0 k1 h hr)
noncomputable def f105_47 (x0 : Nat) (x1 : Nat) (x2 : Int32) (x3 : Int32) (s : xS) : Option ((Int32 × xS) ⊕ (xS × Unit)) := if (9 : Int32) < x3 then (Option.map Sum.inr (some (s, ()))) else ((hk_R x0 4).bind fun a2 => (aR a2 (0 : Int32)).bind fun a4 => ifg (oK a4 0 = true) <| (hk_R x0 2).bind fun a7 => (f3 a4 a7 s).bind fun z10 => (hk_R x0 3).bind fun a12 => (f37 a12 a4 (z10.1.1 x1 5) x2 x3 (0 : Int32) z10.1).bind fun z15 => (hk_R x0 3).bind fun a17 => (f30 a17 a4 (z15.1.1 x1 5) (1 : Int32) z15.1).bind fun z20 => (hk_R x0 3).bind fun a22 => (hk_R a22 1).bind fun a25 => (f49 a25 z20.1).bind fun z28 => (hk_R x0 3).bind fun a30 => (hk_R a30 1).bind fun a33 => (f46 a33 z28.1).bind fun z36 => (hk_R x0 3).bind fun a38 => (hk_R a38 1).bind fun a41 => if (z36.1.1 x0 12) = 0 then (f105_159 x0 x1 x2 x3 z36.2 (z36.1.1 a41 11) z36.1) else (if ((z36.1.1 x0 13) * (z36.1.1 a41 11)) ≤ (z36.2 * (z36.1.1 x0 14)) then (f105_176 x0 x1 x2 x3 z36.1) else (f105_159 x0 x1 x2 x3 z36.2 (z36.1.1 a41 11) z36.1)))
set_option maxRecDepth 20000 in
theorem s105_47 {sc : Option (Nat × (Nat → Int32))} {x0 : Nat} {x1 : Nat} {x2 : Int32} {x3 : Int32} {s : xS} {o : xH × Option Value} {r : ((Int32 × xS) ⊕ (xS × Unit))} (k0 : oK x0 9 = true) (k1 : oK x1 6 = true) (h : f105_47 x0 x1 x2 x3 s = some r) (hr : dn105_47 sc x0 x1 x2 o r) : Ev sc 5 105 [] 47 [some (.ref x0), some (.ref x1), some (.int x2), some (.int x3), none, none, none] [] (hk_of s) o := by
  unfold f105_47 at h
  refine E_blk rfl ?_
  refine E_ps 2 (pc' := 50) (l' := [some (.ref x0), some (.ref x1), some (.int x2), some (.int x3), none, none, none]) (st' := [.int (9 : Int32), .int x3]) rfl ?_
  by_cases c1 : (9 : Int32) < x3
  · rw [if_pos c1] at h
    refine E_jt rfl rfl c1 ?_
    obtain ⟨r, h, hr⟩ := lf_some (Dn := dn105_47 sc x0 x1 x2 o) h hr
    refine E_blk rfl ?_
    cases h
    exact E_ret rfl (pg_mt_md (by decide)) rfl hr
  · rw [if_neg c1] at h
    refine E_jf rfl rfl c1 ?_
    refine E_blk rfl ?_
    refine E_ps 1 (pc' := 54) (l' := [some (.ref x0), some (.ref x1), some (.int x2), some (.int x3), none, none, none]) (st' := [.ref x0]) rfl ?_
    obtain ⟨a2, e3, h⟩ := Option.bind_eq_some_iff.mp h
    refine E_gr k0 (by decide) rfl e3 ?_
    refine E_ps 1 (pc' := 58) (l' := [some (.ref x0), some (.ref x1), some (.int x2), some (.int x3), none, none, none]) (st' := [.int (0 : Int32), .ref a2]) rfl ?_
    obtain ⟨a4, e5, h⟩ := Option.bind_eq_some_iff.mp h
    refine E_ar e5 ?_
    obtain ⟨g6, h⟩ := ifg_some h
    refine E_ps 3 (pc' := 64) (l' := [some (.ref x0), some (.ref x1), some (.int x2), some (.int x3), some (.ref a4), none, none]) (st' := [.ref x0, .ref a4]) rfl ?_
    obtain ⟨a7, e8, h⟩ := Option.bind_eq_some_iff.mp h
    refine E_gr k0 (by decide) rfl e8 ?_
    have kf9 : oK a7 0 = true := hk_rty k0 e8 rfl (by decide)
    obtain ⟨z10, e11, h⟩ := Option.bind_eq_some_iff.mp h
    refine E_callV (vs := [.ref a4, .ref a7]) (rest := []) rfl (by decide) rfl rfl (Nat.le_of_ble_eq_true rfl) (s3 e11) (by decide) ?_
    refine E_ps 1 (pc' := 71) (l' := [some (.ref x0), some (.ref x1), some (.int x2), some (.int x3), some (.ref a4), none, none]) (st' := [.ref x0]) rfl ?_
    obtain ⟨a12, e13, h⟩ := Option.bind_eq_some_iff.mp h
    refine E_gr k0 (by decide) rfl e13 ?_
    have kf14 : oK a12 3 = true := hk_rty k0 e13 rfl (by decide)
    refine E_ps 2 (pc' := 77) (l' := [some (.ref x0), some (.ref x1), some (.int x2), some (.int x3), some (.ref a4), none, none]) (st' := [.ref x1, .ref a4, .ref a12]) rfl ?_
    refine E_gi k1 (by decide) rfl ?_
    refine E_ps 3 (pc' := 83) (l' := [some (.ref x0), some (.ref x1), some (.int x2), some (.int x3), some (.ref a4), none, none]) (st' := [.int (0 : Int32), .int x3, .int x2, .int (z10.1.1 x1 5), .ref a4, .ref a12]) rfl ?_
    obtain ⟨z15, e16, h⟩ := Option.bind_eq_some_iff.mp h
    refine E_callI (vs := [.ref a12, .ref a4, .int (z10.1.1 x1 5), .int x2, .int x3, .int (0 : Int32)]) (rest := []) rfl (by decide) rfl rfl (Nat.le_of_ble_eq_true rfl) (s37 e16) (by decide) ?_
    refine E_ps 2 (pc' := 88) (l' := [some (.ref x0), some (.ref x1), some (.int x2), some (.int x3), some (.ref a4), none, none]) (st' := [.ref x0]) rfl ?_
    obtain ⟨a17, e18, h⟩ := Option.bind_eq_some_iff.mp h
    refine E_gr k0 (by decide) rfl e18 ?_
    have kf19 : oK a17 3 = true := hk_rty k0 e18 rfl (by decide)
    refine E_ps 2 (pc' := 94) (l' := [some (.ref x0), some (.ref x1), some (.int x2), some (.int x3), some (.ref a4), none, none]) (st' := [.ref x1, .ref a4, .ref a17]) rfl ?_
    refine E_gi k1 (by decide) rfl ?_
    refine E_ps 1 (pc' := 98) (l' := [some (.ref x0), some (.ref x1), some (.int x2), some (.int x3), some (.ref a4), none, none]) (st' := [.int (1 : Int32), .int (z15.1.1 x1 5), .ref a4, .ref a17]) rfl ?_
    obtain ⟨z20, e21, h⟩ := Option.bind_eq_some_iff.mp h
    refine E_callV (vs := [.ref a17, .ref a4, .int (z15.1.1 x1 5), .int (1 : Int32)]) (rest := []) rfl (by decide) rfl rfl (Nat.le_of_ble_eq_true rfl) (s30 e21) (by decide) ?_
    refine E_ps 1 (pc' := 102) (l' := [some (.ref x0), some (.ref x1), some (.int x2), some (.int x3), some (.ref a4), none, none]) (st' := [.ref x0]) rfl ?_
    obtain ⟨a22, e23, h⟩ := Option.bind_eq_some_iff.mp h
    refine E_gr k0 (by decide) rfl e23 ?_
    have kf24 : oK a22 3 = true := hk_rty k0 e23 rfl (by decide)
    obtain ⟨a25, e26, h⟩ := Option.bind_eq_some_iff.mp h
    refine E_gr kf24 (by decide) rfl e26 ?_
    have kf27 : oK a25 5 = true := hk_rty kf24 e26 rfl (by decide)
    obtain ⟨z28, e29, h⟩ := Option.bind_eq_some_iff.mp h
    refine E_callV (vs := [.ref a25]) (rest := []) rfl (by decide) rfl rfl (Nat.le_of_ble_eq_true rfl) (s49 e29) (by decide) ?_
    refine E_ps 1 (pc' := 112) (l' := [some (.ref x0), some (.ref x1), some (.int x2), some (.int x3), some (.ref a4), none, none]) (st' := [.ref x0]) rfl ?_
    obtain ⟨a30, e31, h⟩ := Option.bind_eq_some_iff.mp h
    refine E_gr k0 (by decide) rfl e31 ?_
    have kf32 : oK a30 3 = true := hk_rty k0 e31 rfl (by decide)
    obtain ⟨a33, e34, h⟩ := Option.bind_eq_some_iff.mp h
    refine E_gr kf32 (by decide) rfl e34 ?_
    have kf35 : oK a33 5 = true := hk_rty kf32 e34 rfl (by decide)
    obtain ⟨z36, e37, h⟩ := Option.bind_eq_some_iff.mp h
    refine E_callI (vs := [.ref a33]) (rest := []) rfl (by decide) rfl rfl (Nat.le_of_ble_eq_true rfl) (s46 e37) (by decide) ?_
    refine E_ps 2 (pc' := 124) (l' := [some (.ref x0), some (.ref x1), some (.int x2), some (.int x3), some (.ref a4), some (.int z36.2), none]) (st' := [.ref x0]) rfl ?_
    obtain ⟨a38, e39, h⟩ := Option.bind_eq_some_iff.mp h
    refine E_gr k0 (by decide) rfl e39 ?_
    have kf40 : oK a38 3 = true := hk_rty k0 e39 rfl (by decide)
    obtain ⟨a41, e42, h⟩ := Option.bind_eq_some_iff.mp h
    refine E_gr kf40 (by decide) rfl e42 ?_
    have kf43 : oK a41 5 = true := hk_rty kf40 e42 rfl (by decide)
    refine E_gi kf43 (by decide) rfl ?_
    refine E_ps 2 (pc' := 136) (l' := [some (.ref x0), some (.ref x1), some (.int x2), some (.int x3), some (.ref a4), some (.int z36.2), some (.int (z36.1.1 a41 11))]) (st' := [.ref x0]) rfl ?_
    refine E_gi k0 (by decide) rfl ?_
    by_cases c44 : (z36.1.1 x0 12) = 0
    · rw [if_pos c44] at h
      refine E_jt rfl rfl c44 ?_
      exact E_wk (l' := [some (.ref x0), some (.ref x1), some (.int x2), some (.int x3), none, some (.int z36.2), some (.int (z36.1.1 a41 11))]) ⟨rfl, rfl, rfl, rfl, rfl, rfl, trivial⟩ (s105_159 k0 k1 h hr)
    · rw [if_neg c44] at h
      refine E_jf rfl rfl c44 ?_
      refine E_blk rfl ?_
      refine E_ps 2 (pc' := 145) (l' := [some (.ref x0), some (.ref x1), some (.int x2), some (.int x3), some (.ref a4), some (.int z36.2), some (.int (z36.1.1 a41 11))]) (st' := [.ref x0, .int z36.2]) rfl ?_
      refine E_gi k0 (by decide) rfl ?_
      refine E_ps 2 (pc' := 150) (l' := [some (.ref x0), some (.ref x1), some (.int x2), some (.int x3), some (.ref a4), some (.int z36.2), some (.int (z36.1.1 a41 11))]) (st' := [.ref x0, .int (z36.2 * (z36.1.1 x0 14))]) rfl ?_
      refine E_gi k0 (by decide) rfl ?_
      refine E_ps 2 (pc' := 156) (l' := [some (.ref x0), some (.ref x1), some (.int x2), some (.int x3), some (.ref a4), some (.int z36.2), some (.int (z36.1.1 a41 11))]) (st' := [.int ((z36.1.1 x0 13) * (z36.1.1 a41 11)), .int (z36.2 * (z36.1.1 x0 14))]) rfl ?_
      by_cases c45 : ((z36.1.1 x0 13) * (z36.1.1 a41 11)) ≤ (z36.2 * (z36.1.1 x0 14))
      · rw [if_pos c45] at h
        refine E_jt rfl rfl c45 ?_
        exact E_wk (l' := [some (.ref x0), some (.ref x1), some (.int x2), some (.int x3), none, none, none]) ⟨rfl, rfl, rfl, rfl, trivial⟩ (s105_176 k0 k1 h hr)
      · rw [if_neg c45] at h
        refine E_jf rfl rfl c45 ?_
        exact E_wk (l' := [some (.ref x0), some (.ref x1), some (.int x2), some (.int x3), none, some (.int z36.2), some (.int (z36.1.1 a41 11))]) ⟨rfl, rfl, rfl, rfl, rfl, rfl, trivial⟩ (s105_159 k0 k1 h hr)
theorem s105_47_w {sc : Option (Nat × (Nat → Int32))} {x0 : Nat} {x1 : Nat} {x2 : Int32} {x3 : Int32} {s : xS} {o : xH × Option Value} {r : (xS × Unit)} (k0 : oK x0 9 = true) (k1 : oK x1 6 = true) (h : whl (fun q : (Int32 × xS) => f105_47 x0 x1 x2 q.1 q.2) (x3, s) = some r) (hr : dn105 o r) : Ev sc 5 105 [] 47 [some (.ref x0), some (.ref x1), some (.int x2), some (.int x3), none, none, none] [] (hk_of s) o := by
  refine whl_snd (E := fun q : (Int32 × xS) => Ev sc 5 105 [] 47 [some (.ref x0), some (.ref x1), some (.int x2), some (.int q.1), none, none, none] [] (hk_of q.2) o) (P := fun r => dn105 o r) (fun q r h hr => ?_) h hr
  exact s105_47 k0 k1 h (by cases r <;> exact hr)
noncomputable def f105 (x0 : Nat) (x1 : Nat) (s : xS) : Option (xS × Unit) := ifg (oK x0 9 = true) <| ifg (oK x1 6 = true) <| (hk_R x0 3).bind fun a1 => (hk_R x0 2).bind fun a4 => (f26 a1 a4 (s.1 x1 1) (s.1 x1 0) (s.1 x1 2) (s.1 x1 3) (s.1 x1 4) s).bind fun z7 => (hk_R x0 3).bind fun a9 => (f35 a9 x1 z7.1).bind fun z12 => (pI z12.1 x0 12 (0 : Int32)).bind fun t14 => whl (fun q : (Int32 × xS) => f105_47 x0 x1 z12.2 q.1 q.2) ((1 : Int32), t14)
set_option maxRecDepth 20000 in
theorem s105 {sc : Option (Nat × (Nat → Int32))} {x0 : Nat} {x1 : Nat} {s : xS} {r : xS × Unit} (h : f105 x0 x1 s = some r) : Cl sc 5 105 [.ref x0, .ref x1] (hk_of s) (hk_of r.1, none) := by
  unfold f105 at h
  obtain ⟨k0, h⟩ := ifg_some h
  obtain ⟨k1, h⟩ := ifg_some h
  refine ⟨pg_md 105, [some (.ref x0), some (.ref x1), none, none, none, none, none], pg_mt_md (by decide), (hk_rcv k0), rfl, ?_⟩
  generalize ho : ((hk_of r.1, none) : xH × Option Value) = o
  have hr : dn105 o r := ho.symm
  refine E_blk rfl ?_
  refine E_ps 1 (pc' := 1) (l' := [some (.ref x0), some (.ref x1), none, none, none, none, none]) (st' := [.ref x0]) rfl ?_
  obtain ⟨a1, e2, h⟩ := Option.bind_eq_some_iff.mp h
  refine E_gr k0 (by decide) rfl e2 ?_
  have kf3 : oK a1 3 = true := hk_rty k0 e2 rfl (by decide)
  refine E_ps 1 (pc' := 5) (l' := [some (.ref x0), some (.ref x1), none, none, none, none, none]) (st' := [.ref x0, .ref a1]) rfl ?_
  obtain ⟨a4, e5, h⟩ := Option.bind_eq_some_iff.mp h
  refine E_gr k0 (by decide) rfl e5 ?_
  have kf6 : oK a4 0 = true := hk_rty k0 e5 rfl (by decide)
  refine E_ps 1 (pc' := 9) (l' := [some (.ref x0), some (.ref x1), none, none, none, none, none]) (st' := [.ref x1, .ref a4, .ref a1]) rfl ?_
  refine E_gi k1 (by decide) rfl ?_
  refine E_ps 1 (pc' := 13) (l' := [some (.ref x0), some (.ref x1), none, none, none, none, none]) (st' := [.ref x1, .int (s.1 x1 1), .ref a4, .ref a1]) rfl ?_
  refine E_gi k1 (by decide) rfl ?_
  refine E_ps 1 (pc' := 17) (l' := [some (.ref x0), some (.ref x1), none, none, none, none, none]) (st' := [.ref x1, .int (s.1 x1 0), .int (s.1 x1 1), .ref a4, .ref a1]) rfl ?_
  refine E_gi k1 (by decide) rfl ?_
  refine E_ps 1 (pc' := 21) (l' := [some (.ref x0), some (.ref x1), none, none, none, none, none]) (st' := [.ref x1, .int (s.1 x1 2), .int (s.1 x1 0), .int (s.1 x1 1), .ref a4, .ref a1]) rfl ?_
  refine E_gi k1 (by decide) rfl ?_
  refine E_ps 1 (pc' := 25) (l' := [some (.ref x0), some (.ref x1), none, none, none, none, none]) (st' := [.ref x1, .int (s.1 x1 3), .int (s.1 x1 2), .int (s.1 x1 0), .int (s.1 x1 1), .ref a4, .ref a1]) rfl ?_
  refine E_gi k1 (by decide) rfl ?_
  obtain ⟨z7, e8, h⟩ := Option.bind_eq_some_iff.mp h
  refine E_callV (vs := [.ref a1, .ref a4, .int (s.1 x1 1), .int (s.1 x1 0), .int (s.1 x1 2), .int (s.1 x1 3), .int (s.1 x1 4)]) (rest := []) rfl (by decide) rfl rfl (Nat.le_of_ble_eq_true rfl) (s26 e8) (by decide) ?_
  refine E_ps 1 (pc' := 32) (l' := [some (.ref x0), some (.ref x1), none, none, none, none, none]) (st' := [.ref x0]) rfl ?_
  obtain ⟨a9, e10, h⟩ := Option.bind_eq_some_iff.mp h
  refine E_gr k0 (by decide) rfl e10 ?_
  have kf11 : oK a9 3 = true := hk_rty k0 e10 rfl (by decide)
  refine E_ps 1 (pc' := 36) (l' := [some (.ref x0), some (.ref x1), none, none, none, none, none]) (st' := [.ref x1, .ref a9]) rfl ?_
  obtain ⟨z12, e13, h⟩ := Option.bind_eq_some_iff.mp h
  refine E_callI (vs := [.ref a9, .ref x1]) (rest := []) rfl (by decide) rfl rfl (Nat.le_of_ble_eq_true rfl) (s35 e13) (by decide) ?_
  refine E_ps 3 (pc' := 42) (l' := [some (.ref x0), some (.ref x1), some (.int z12.2), none, none, none, none]) (st' := [.int (0 : Int32), .ref x0]) rfl ?_
  obtain ⟨t14, e15, h⟩ := Option.bind_eq_some_iff.mp h
  refine E_pi k0 (by decide) rfl e15 ?_
  refine E_ps 2 (pc' := 47) (l' := [some (.ref x0), some (.ref x1), some (.int z12.2), some (.int (1 : Int32)), none, none, none]) (st' := []) rfl ?_
  exact E_wk (l' := [some (.ref x0), some (.ref x1), some (.int z12.2), some (.int (1 : Int32)), none, none, none]) ⟨rfl, rfl, rfl, rfl, trivial⟩ (s105_47_w k0 k1 h hr)

-- 107: ThreePlates$Worlds.isSpent()Z
def dn107 (o : xH × Option Value) (r : xS × Int32) : Prop := o = (hk_of r.1, some (.int r.2))
noncomputable def f107_16 (y0 : Int32) (s : xS) : Option (xS × Int32) := ifg (y0 = 0 ∨ y0 = 1) <| some (s, y0)
set_option maxRecDepth 20000 in
theorem s107_16 {sc : Option (Nat × (Nat → Int32))} {y0 : Int32} {s : xS} {o : xH × Option Value} {r : (xS × Int32)}  (h : f107_16 y0 s = some r) (hr : dn107 o r) : Ev sc 1 107 [] 16 [none] [.int y0] (hk_of s) o := by
  unfold f107_16 at h
  refine E_blk rfl ?_
  obtain ⟨g1, h⟩ := ifg_some h
  cases h
  exact E_ret rfl (pg_mt_md (by decide)) (hk_retz g1 rfl) hr
noncomputable def f107 (x0 : Nat) (s : xS) : Option (xS × Int32) := ifg (oK x0 10 = true) <| (hk_R x0 0).bind fun a1 => if (s.1 a1 3) = (5 : Int32) then (f107_16 (1 : Int32) s) else (f107_16 (0 : Int32) s)
set_option maxRecDepth 20000 in
theorem s107 {sc : Option (Nat × (Nat → Int32))} {x0 : Nat} {s : xS} {r : xS × Int32} (h : f107 x0 s = some r) : Cl sc 1 107 [.ref x0] (hk_of s) (hk_of r.1, some (.int r.2)) := by
  unfold f107 at h
  obtain ⟨k0, h⟩ := ifg_some h
  refine ⟨pg_md 107, [some (.ref x0)], pg_mt_md (by decide), (hk_rcv k0), rfl, ?_⟩
  generalize ho : ((hk_of r.1, some (Value.int r.2)) : xH × Option Value) = o
  have hr : dn107 o r := ho.symm
  refine E_blk rfl ?_
  refine E_ps 1 (pc' := 1) (l' := [some (.ref x0)]) (st' := [.ref x0]) rfl ?_
  obtain ⟨a1, e2, h⟩ := Option.bind_eq_some_iff.mp h
  refine E_gr k0 (by decide) rfl e2 ?_
  have kf3 : oK a1 7 = true := hk_rty k0 e2 rfl (by decide)
  refine E_gi kf3 (by decide) rfl ?_
  refine E_ps 1 (pc' := 8) (l' := [some (.ref x0)]) (st' := [.int (5 : Int32), .int (s.1 a1 3)]) rfl ?_
  by_cases c4 : (s.1 a1 3) = (5 : Int32)
  · rw [if_pos c4] at h
    refine E_jt rfl rfl c4 ?_
    refine E_blk rfl ?_
    refine E_ps 1 (pc' := 12) (l' := [some (.ref x0)]) (st' := [.int (1 : Int32)]) rfl ?_
    refine E_j rfl rfl ?_
    exact E_wk (l' := [none]) trivial (s107_16  h hr)
  · rw [if_neg c4] at h
    refine E_jf rfl rfl c4 ?_
    refine E_blk rfl ?_
    refine E_ps 1 (pc' := 16) (l' := [some (.ref x0)]) (st' := [.int (0 : Int32)]) rfl ?_
    exact E_wk (l' := [none]) trivial (s107_16  h hr)

-- 108: ThreePlates$Worlds.forgetFitting()V
def dn108 (o : xH × Option Value) (r : xS × Unit) : Prop := o = (hk_of r.1, none)
noncomputable def f108 (x0 : Nat) (s : xS) : Option (xS × Unit) := ifg (oK x0 10 = true) <| (pI s x0 11 (0 : Int32)).bind fun t1 => (pI t1 x0 14 (0 : Int32)).bind fun t3 => (pI t3 x0 16 (0 : Int32)).bind fun t5 => some (t5, ())
set_option maxRecDepth 20000 in
theorem s108 {sc : Option (Nat × (Nat → Int32))} {x0 : Nat} {s : xS} {r : xS × Unit} (h : f108 x0 s = some r) : Cl sc 1 108 [.ref x0] (hk_of s) (hk_of r.1, none) := by
  unfold f108 at h
  obtain ⟨k0, h⟩ := ifg_some h
  refine ⟨pg_md 108, [some (.ref x0)], pg_mt_md (by decide), (hk_rcv k0), rfl, ?_⟩
  generalize ho : ((hk_of r.1, none) : xH × Option Value) = o
  have hr : dn108 o r := ho.symm
  refine E_blk rfl ?_
  refine E_ps 2 (pc' := 2) (l' := [some (.ref x0)]) (st' := [.int (0 : Int32), .ref x0]) rfl ?_
  obtain ⟨t1, e2, h⟩ := Option.bind_eq_some_iff.mp h
  refine E_pi k0 (by decide) rfl e2 ?_
  refine E_ps 2 (pc' := 7) (l' := [some (.ref x0)]) (st' := [.int (0 : Int32), .ref x0]) rfl ?_
  obtain ⟨t3, e4, h⟩ := Option.bind_eq_some_iff.mp h
  refine E_pi k0 (by decide) rfl e4 ?_
  refine E_ps 2 (pc' := 12) (l' := [some (.ref x0)]) (st' := [.int (0 : Int32), .ref x0]) rfl ?_
  obtain ⟨t5, e6, h⟩ := Option.bind_eq_some_iff.mp h
  refine E_pi k0 (by decide) rfl e6 ?_
  cases h
  exact E_ret rfl (pg_mt_md (by decide)) rfl hr

-- 109: ThreePlates$Worlds.forgetSights()V
def dn109 (o : xH × Option Value) (r : xS × Unit) : Prop := o = (hk_of r.1, none)
noncomputable def f109 (x0 : Nat) (s : xS) : Option (xS × Unit) := ifg (oK x0 10 = true) <| (pI s x0 8 (0 : Int32)).bind fun t1 => (f108 x0 t1).bind fun z3 => some (z3.1, ())
set_option maxRecDepth 20000 in
theorem s109 {sc : Option (Nat × (Nat → Int32))} {x0 : Nat} {s : xS} {r : xS × Unit} (h : f109 x0 s = some r) : Cl sc 2 109 [.ref x0] (hk_of s) (hk_of r.1, none) := by
  unfold f109 at h
  obtain ⟨k0, h⟩ := ifg_some h
  refine ⟨pg_md 109, [some (.ref x0)], pg_mt_md (by decide), (hk_rcv k0), rfl, ?_⟩
  generalize ho : ((hk_of r.1, none) : xH × Option Value) = o
  have hr : dn109 o r := ho.symm
  refine E_blk rfl ?_
  refine E_ps 2 (pc' := 2) (l' := [some (.ref x0)]) (st' := [.int (0 : Int32), .ref x0]) rfl ?_
  obtain ⟨t1, e2, h⟩ := Option.bind_eq_some_iff.mp h
  refine E_pi k0 (by decide) rfl e2 ?_
  refine E_ps 1 (pc' := 6) (l' := [some (.ref x0)]) (st' := [.ref x0]) rfl ?_
  obtain ⟨z3, e4, h⟩ := Option.bind_eq_some_iff.mp h
  refine E_callV (vs := [.ref x0]) (rest := []) rfl (by decide) rfl rfl (Nat.le_of_ble_eq_true rfl) (s108 e4) (by decide) ?_
  cases h
  exact E_ret rfl (pg_mt_md (by decide)) rfl hr

-- 110: ThreePlates$Worlds.tell(IIIII)I
def dn110 (o : xH × Option Value) (r : xS × Int32) : Prop := o = (hk_of r.1, some (.int r.2))
noncomputable def f110 (x0 : Nat) (x1 : Int32) (x2 : Int32) (x3 : Int32) (x4 : Int32) (x5 : Int32) (s : xS) : Option (xS × Int32) := ifg (oK x0 10 = true) <| if (s.1 x0 8) < (20 : Int32) then ((hk_R x0 3).bind fun a2 => (wI s a2 (s.1 x0 8) x1).bind fun t4 => (hk_R x0 4).bind fun a6 => (wI t4 a6 (t4.1 x0 8) x2).bind fun t8 => (hk_R x0 5).bind fun a10 => (wI t8 a10 (t8.1 x0 8) x3).bind fun t12 => (hk_R x0 6).bind fun a14 => (wI t12 a14 (t12.1 x0 8) x4).bind fun t16 => (hk_R x0 7).bind fun a18 => (wI t16 a18 (t16.1 x0 8) x5).bind fun t20 => (pI t20 x0 8 ((t20.1 x0 8) + (1 : Int32))).bind fun t22 => (f108 x0 t22).bind fun z24 => some (z24.1, ((z24.1.1 x0 8) - (1 : Int32)))) else (some (s, (-1 : Int32)))
set_option maxRecDepth 20000 in
theorem s110 {sc : Option (Nat × (Nat → Int32))} {x0 : Nat} {x1 : Int32} {x2 : Int32} {x3 : Int32} {x4 : Int32} {x5 : Int32} {s : xS} {r : xS × Int32} (h : f110 x0 x1 x2 x3 x4 x5 s = some r) : Cl sc 2 110 [.ref x0, .int x1, .int x2, .int x3, .int x4, .int x5] (hk_of s) (hk_of r.1, some (.int r.2)) := by
  unfold f110 at h
  obtain ⟨k0, h⟩ := ifg_some h
  refine ⟨pg_md 110, [some (.ref x0), some (.int x1), some (.int x2), some (.int x3), some (.int x4), some (.int x5)], pg_mt_md (by decide), (hk_rcv k0), rfl, ?_⟩
  generalize ho : ((hk_of r.1, some (Value.int r.2)) : xH × Option Value) = o
  have hr : dn110 o r := ho.symm
  refine E_blk rfl ?_
  refine E_ps 1 (pc' := 1) (l' := [some (.ref x0), some (.int x1), some (.int x2), some (.int x3), some (.int x4), some (.int x5)]) (st' := [.ref x0]) rfl ?_
  refine E_gi k0 (by decide) rfl ?_
  refine E_ps 1 (pc' := 6) (l' := [some (.ref x0), some (.int x1), some (.int x2), some (.int x3), some (.int x4), some (.int x5)]) (st' := [.int (20 : Int32), .int (s.1 x0 8)]) rfl ?_
  by_cases c1 : (s.1 x0 8) < (20 : Int32)
  · rw [if_pos c1] at h
    refine E_jt rfl rfl c1 ?_
    refine E_blk rfl ?_
    refine E_ps 1 (pc' := 12) (l' := [some (.ref x0), some (.int x1), some (.int x2), some (.int x3), some (.int x4), some (.int x5)]) (st' := [.ref x0]) rfl ?_
    obtain ⟨a2, e3, h⟩ := Option.bind_eq_some_iff.mp h
    refine E_gr k0 (by decide) rfl e3 ?_
    refine E_ps 1 (pc' := 16) (l' := [some (.ref x0), some (.int x1), some (.int x2), some (.int x3), some (.int x4), some (.int x5)]) (st' := [.ref x0, .ref a2]) rfl ?_
    refine E_gi k0 (by decide) rfl ?_
    refine E_ps 1 (pc' := 20) (l' := [some (.ref x0), some (.int x1), some (.int x2), some (.int x3), some (.int x4), some (.int x5)]) (st' := [.int x1, .int (s.1 x0 8), .ref a2]) rfl ?_
    obtain ⟨t4, e5, h⟩ := Option.bind_eq_some_iff.mp h
    refine E_wi e5 ?_
    refine E_ps 1 (pc' := 22) (l' := [some (.ref x0), some (.int x1), some (.int x2), some (.int x3), some (.int x4), some (.int x5)]) (st' := [.ref x0]) rfl ?_
    obtain ⟨a6, e7, h⟩ := Option.bind_eq_some_iff.mp h
    refine E_gr k0 (by decide) rfl e7 ?_
    refine E_ps 1 (pc' := 26) (l' := [some (.ref x0), some (.int x1), some (.int x2), some (.int x3), some (.int x4), some (.int x5)]) (st' := [.ref x0, .ref a6]) rfl ?_
    refine E_gi k0 (by decide) rfl ?_
    refine E_ps 1 (pc' := 30) (l' := [some (.ref x0), some (.int x1), some (.int x2), some (.int x3), some (.int x4), some (.int x5)]) (st' := [.int x2, .int (t4.1 x0 8), .ref a6]) rfl ?_
    obtain ⟨t8, e9, h⟩ := Option.bind_eq_some_iff.mp h
    refine E_wi e9 ?_
    refine E_ps 1 (pc' := 32) (l' := [some (.ref x0), some (.int x1), some (.int x2), some (.int x3), some (.int x4), some (.int x5)]) (st' := [.ref x0]) rfl ?_
    obtain ⟨a10, e11, h⟩ := Option.bind_eq_some_iff.mp h
    refine E_gr k0 (by decide) rfl e11 ?_
    refine E_ps 1 (pc' := 36) (l' := [some (.ref x0), some (.int x1), some (.int x2), some (.int x3), some (.int x4), some (.int x5)]) (st' := [.ref x0, .ref a10]) rfl ?_
    refine E_gi k0 (by decide) rfl ?_
    refine E_ps 1 (pc' := 40) (l' := [some (.ref x0), some (.int x1), some (.int x2), some (.int x3), some (.int x4), some (.int x5)]) (st' := [.int x3, .int (t8.1 x0 8), .ref a10]) rfl ?_
    obtain ⟨t12, e13, h⟩ := Option.bind_eq_some_iff.mp h
    refine E_wi e13 ?_
    refine E_ps 1 (pc' := 42) (l' := [some (.ref x0), some (.int x1), some (.int x2), some (.int x3), some (.int x4), some (.int x5)]) (st' := [.ref x0]) rfl ?_
    obtain ⟨a14, e15, h⟩ := Option.bind_eq_some_iff.mp h
    refine E_gr k0 (by decide) rfl e15 ?_
    refine E_ps 1 (pc' := 46) (l' := [some (.ref x0), some (.int x1), some (.int x2), some (.int x3), some (.int x4), some (.int x5)]) (st' := [.ref x0, .ref a14]) rfl ?_
    refine E_gi k0 (by decide) rfl ?_
    refine E_ps 1 (pc' := 51) (l' := [some (.ref x0), some (.int x1), some (.int x2), some (.int x3), some (.int x4), some (.int x5)]) (st' := [.int x4, .int (t12.1 x0 8), .ref a14]) rfl ?_
    obtain ⟨t16, e17, h⟩ := Option.bind_eq_some_iff.mp h
    refine E_wi e17 ?_
    refine E_ps 1 (pc' := 53) (l' := [some (.ref x0), some (.int x1), some (.int x2), some (.int x3), some (.int x4), some (.int x5)]) (st' := [.ref x0]) rfl ?_
    obtain ⟨a18, e19, h⟩ := Option.bind_eq_some_iff.mp h
    refine E_gr k0 (by decide) rfl e19 ?_
    refine E_ps 1 (pc' := 57) (l' := [some (.ref x0), some (.int x1), some (.int x2), some (.int x3), some (.int x4), some (.int x5)]) (st' := [.ref x0, .ref a18]) rfl ?_
    refine E_gi k0 (by decide) rfl ?_
    refine E_ps 1 (pc' := 62) (l' := [some (.ref x0), some (.int x1), some (.int x2), some (.int x3), some (.int x4), some (.int x5)]) (st' := [.int x5, .int (t16.1 x0 8), .ref a18]) rfl ?_
    obtain ⟨t20, e21, h⟩ := Option.bind_eq_some_iff.mp h
    refine E_wi e21 ?_
    refine E_ps 2 (pc' := 65) (l' := [some (.ref x0), some (.int x1), some (.int x2), some (.int x3), some (.int x4), some (.int x5)]) (st' := [.ref x0, .ref x0]) rfl ?_
    refine E_gi k0 (by decide) rfl ?_
    refine E_ps 2 (pc' := 70) (l' := [some (.ref x0), some (.int x1), some (.int x2), some (.int x3), some (.int x4), some (.int x5)]) (st' := [.int ((t20.1 x0 8) + (1 : Int32)), .ref x0]) rfl ?_
    obtain ⟨t22, e23, h⟩ := Option.bind_eq_some_iff.mp h
    refine E_pi k0 (by decide) rfl e23 ?_
    refine E_ps 1 (pc' := 74) (l' := [some (.ref x0), some (.int x1), some (.int x2), some (.int x3), some (.int x4), some (.int x5)]) (st' := [.ref x0]) rfl ?_
    obtain ⟨z24, e25, h⟩ := Option.bind_eq_some_iff.mp h
    refine E_callV (vs := [.ref x0]) (rest := []) rfl (by decide) rfl rfl (Nat.le_of_ble_eq_true rfl) (s108 e25) (by decide) ?_
    refine E_ps 1 (pc' := 78) (l' := [some (.ref x0), some (.int x1), some (.int x2), some (.int x3), some (.int x4), some (.int x5)]) (st' := [.ref x0]) rfl ?_
    refine E_gi k0 (by decide) rfl ?_
    refine E_ps 2 (pc' := 83) (l' := [some (.ref x0), some (.int x1), some (.int x2), some (.int x3), some (.int x4), some (.int x5)]) (st' := [.int ((z24.1.1 x0 8) - (1 : Int32))]) rfl ?_
    cases h
    exact E_ret rfl (pg_mt_md (by decide)) rfl hr
  · rw [if_neg c1] at h
    refine E_jf rfl rfl c1 ?_
    refine E_blk rfl ?_
    refine E_ps 1 (pc' := 10) (l' := [some (.ref x0), some (.int x1), some (.int x2), some (.int x3), some (.int x4), some (.int x5)]) (st' := [.int (-1 : Int32)]) rfl ?_
    cases h
    exact E_ret rfl (pg_mt_md (by decide)) rfl hr

-- 115: ThreePlates$Worlds.fill(I[I)V
def dn115 (o : xH × Option Value) (r : xS × Unit) : Prop := o = (hk_of r.1, none)
def dn115_29 (sc : Option (Nat × (Nat → Int32))) (x0 : Nat) (x2 : Nat) (x3 : Int32) (x4 : Int32) (x5 : Int32) (o : xH × Option Value) (r : ((Int32 × xS) ⊕ (xS × Unit))) : Prop := match r with
  | .inl q => Ev sc 2 115 [] 29 [some (.ref x0), none, some (.ref x2), some (.int x3), some (.int x4), some (.int x5), some (.int q.1), none, none] [] (hk_of q.2) o
  | .inr r => dn115 o r
noncomputable def f115_29 (x0 : Nat) (x2 : Nat) (x3 : Int32) (x4 : Int32) (x5 : Int32) (x6 : Int32) (s : xS) : Option ((Int32 × xS) ⊕ (xS × Unit)) := (hk_R x0 0).bind fun a1 => (f68 a1 s).bind fun z4 => if z4.2 ≤ x6 then (Option.map Sum.inr (some (z4.1, ()))) else ((hk_R x0 0).bind fun a7 => ifg (¬ (z4.1.1 a7 3) = 0) <| (hk_R x0 0).bind fun a11 => (hk_R x0 0).bind fun a14 => ifg (¬ (z4.1.1 a14 3) = 0) <| (hk_R x0 0).bind fun a18 => (wI z4.1 x2 x6 ((((x3 * ((((2 : Int32) * (irm x6 (z4.1.1 a7 3))) - (z4.1.1 a11 3)) + (1 : Int32))) * ((((2 : Int32) * (irm x6 (z4.1.1 a7 3))) - (z4.1.1 a11 3)) + (1 : Int32))) + ((x4 * ((((2 : Int32) * (irm x6 (z4.1.1 a7 3))) - (z4.1.1 a11 3)) + (1 : Int32))) * ((((2 : Int32) * (x6 / (z4.1.1 a14 3))) - (z4.1.1 a18 3)) + (1 : Int32)))) + ((x5 * ((((2 : Int32) * (x6 / (z4.1.1 a14 3))) - (z4.1.1 a18 3)) + (1 : Int32))) * ((((2 : Int32) * (x6 / (z4.1.1 a14 3))) - (z4.1.1 a18 3)) + (1 : Int32))))).bind fun t21 => some (Sum.inl ((x6 + (1 : Int32)), t21)))
set_option maxRecDepth 20000 in
theorem s115_29 {sc : Option (Nat × (Nat → Int32))} {x0 : Nat} {x2 : Nat} {x3 : Int32} {x4 : Int32} {x5 : Int32} {x6 : Int32} {s : xS} {o : xH × Option Value} {r : ((Int32 × xS) ⊕ (xS × Unit))} (k0 : oK x0 10 = true) (h : f115_29 x0 x2 x3 x4 x5 x6 s = some r) (hr : dn115_29 sc x0 x2 x3 x4 x5 o r) : Ev sc 2 115 [] 29 [some (.ref x0), none, some (.ref x2), some (.int x3), some (.int x4), some (.int x5), some (.int x6), none, none] [] (hk_of s) o := by
  unfold f115_29 at h
  refine E_blk rfl ?_
  refine E_ps 2 (pc' := 32) (l' := [some (.ref x0), none, some (.ref x2), some (.int x3), some (.int x4), some (.int x5), some (.int x6), none, none]) (st' := [.ref x0, .int x6]) rfl ?_
  obtain ⟨a1, e2, h⟩ := Option.bind_eq_some_iff.mp h
  refine E_gr k0 (by decide) rfl e2 ?_
  have kf3 : oK a1 7 = true := hk_rty k0 e2 rfl (by decide)
  obtain ⟨z4, e5, h⟩ := Option.bind_eq_some_iff.mp h
  refine E_callI (vs := [.ref a1]) (rest := [.int x6]) rfl (by decide) rfl rfl (Nat.le_of_ble_eq_true rfl) (s68 e5) (by decide) ?_
  by_cases c6 : z4.2 ≤ x6
  · rw [if_pos c6] at h
    refine E_jt rfl rfl c6 ?_
    obtain ⟨r, h, hr⟩ := lf_some (Dn := dn115_29 sc x0 x2 x3 x4 x5 o) h hr
    refine E_blk rfl ?_
    cases h
    exact E_ret rfl (pg_mt_md (by decide)) rfl hr
  · rw [if_neg c6] at h
    refine E_jf rfl rfl c6 ?_
    refine E_blk rfl ?_
    refine E_ps 3 (pc' := 45) (l' := [some (.ref x0), none, some (.ref x2), some (.int x3), some (.int x4), some (.int x5), some (.int x6), none, none]) (st' := [.ref x0, .int x6, .int (2 : Int32)]) rfl ?_
    obtain ⟨a7, e8, h⟩ := Option.bind_eq_some_iff.mp h
    refine E_gr k0 (by decide) rfl e8 ?_
    have kf9 : oK a7 7 = true := hk_rty k0 e8 rfl (by decide)
    refine E_gi kf9 (by decide) rfl ?_
    obtain ⟨g10, h⟩ := ifg_some h
    refine E_irem g10 ?_
    refine E_ps 2 (pc' := 54) (l' := [some (.ref x0), none, some (.ref x2), some (.int x3), some (.int x4), some (.int x5), some (.int x6), none, none]) (st' := [.ref x0, .int ((2 : Int32) * (irm x6 (z4.1.1 a7 3)))]) rfl ?_
    obtain ⟨a11, e12, h⟩ := Option.bind_eq_some_iff.mp h
    refine E_gr k0 (by decide) rfl e12 ?_
    have kf13 : oK a11 7 = true := hk_rty k0 e12 rfl (by decide)
    refine E_gi kf13 (by decide) rfl ?_
    refine E_ps 7 (pc' := 69) (l' := [some (.ref x0), none, some (.ref x2), some (.int x3), some (.int x4), some (.int x5), some (.int x6), some (.int ((((2 : Int32) * (irm x6 (z4.1.1 a7 3))) - (z4.1.1 a11 3)) + (1 : Int32))), none]) (st' := [.ref x0, .int x6, .int (2 : Int32)]) rfl ?_
    obtain ⟨a14, e15, h⟩ := Option.bind_eq_some_iff.mp h
    refine E_gr k0 (by decide) rfl e15 ?_
    have kf16 : oK a14 7 = true := hk_rty k0 e15 rfl (by decide)
    refine E_gi kf16 (by decide) rfl ?_
    obtain ⟨g17, h⟩ := ifg_some h
    refine E_idiv g17 ?_
    refine E_ps 2 (pc' := 78) (l' := [some (.ref x0), none, some (.ref x2), some (.int x3), some (.int x4), some (.int x5), some (.int x6), some (.int ((((2 : Int32) * (irm x6 (z4.1.1 a7 3))) - (z4.1.1 a11 3)) + (1 : Int32))), none]) (st' := [.ref x0, .int ((2 : Int32) * (x6 / (z4.1.1 a14 3)))]) rfl ?_
    obtain ⟨a18, e19, h⟩ := Option.bind_eq_some_iff.mp h
    refine E_gr k0 (by decide) rfl e19 ?_
    have kf20 : oK a18 7 = true := hk_rty k0 e19 rfl (by decide)
    refine E_gi kf20 (by decide) rfl ?_
    refine E_ps 23 (pc' := 117) (l' := [some (.ref x0), none, some (.ref x2), some (.int x3), some (.int x4), some (.int x5), some (.int x6), some (.int ((((2 : Int32) * (irm x6 (z4.1.1 a7 3))) - (z4.1.1 a11 3)) + (1 : Int32))), some (.int ((((2 : Int32) * (x6 / (z4.1.1 a14 3))) - (z4.1.1 a18 3)) + (1 : Int32)))]) (st' := [.int ((((x3 * ((((2 : Int32) * (irm x6 (z4.1.1 a7 3))) - (z4.1.1 a11 3)) + (1 : Int32))) * ((((2 : Int32) * (irm x6 (z4.1.1 a7 3))) - (z4.1.1 a11 3)) + (1 : Int32))) + ((x4 * ((((2 : Int32) * (irm x6 (z4.1.1 a7 3))) - (z4.1.1 a11 3)) + (1 : Int32))) * ((((2 : Int32) * (x6 / (z4.1.1 a14 3))) - (z4.1.1 a18 3)) + (1 : Int32)))) + ((x5 * ((((2 : Int32) * (x6 / (z4.1.1 a14 3))) - (z4.1.1 a18 3)) + (1 : Int32))) * ((((2 : Int32) * (x6 / (z4.1.1 a14 3))) - (z4.1.1 a18 3)) + (1 : Int32)))), .int x6, .ref x2]) rfl ?_
    obtain ⟨t21, e22, h⟩ := Option.bind_eq_some_iff.mp h
    refine E_wi e22 ?_
    refine E_ps 1 (pc' := 121) (l' := [some (.ref x0), none, some (.ref x2), some (.int x3), some (.int x4), some (.int x5), some (.int (x6 + (1 : Int32))), some (.int ((((2 : Int32) * (irm x6 (z4.1.1 a7 3))) - (z4.1.1 a11 3)) + (1 : Int32))), some (.int ((((2 : Int32) * (x6 / (z4.1.1 a14 3))) - (z4.1.1 a18 3)) + (1 : Int32)))]) (st' := []) rfl ?_
    refine E_j rfl rfl ?_
    cases h
    exact E_wk (l' := [some (.ref x0), none, some (.ref x2), some (.int x3), some (.int x4), some (.int x5), some (.int (x6 + (1 : Int32))), none, none]) ⟨rfl, rfl, rfl, rfl, rfl, rfl, trivial⟩ hr
theorem s115_29_w {sc : Option (Nat × (Nat → Int32))} {x0 : Nat} {x2 : Nat} {x3 : Int32} {x4 : Int32} {x5 : Int32} {x6 : Int32} {s : xS} {o : xH × Option Value} {r : (xS × Unit)} (k0 : oK x0 10 = true) (h : whl (fun q : (Int32 × xS) => f115_29 x0 x2 x3 x4 x5 q.1 q.2) (x6, s) = some r) (hr : dn115 o r) : Ev sc 2 115 [] 29 [some (.ref x0), none, some (.ref x2), some (.int x3), some (.int x4), some (.int x5), some (.int x6), none, none] [] (hk_of s) o := by
  refine whl_snd (E := fun q : (Int32 × xS) => Ev sc 2 115 [] 29 [some (.ref x0), none, some (.ref x2), some (.int x3), some (.int x4), some (.int x5), some (.int q.1), none, none] [] (hk_of q.2) o) (P := fun r => dn115 o r) (fun q r h hr => ?_) h hr
  exact s115_29 k0 h (by cases r <;> exact hr)
noncomputable def f115 (x0 : Nat) (x1 : Int32) (x2 : Nat) (s : xS) : Option (xS × Unit) := ifg (oK x0 10 = true) <| whl (fun q : (Int32 × xS) => f115_29 x0 x2 ((x1 / (49 : Int32)) - (3 : Int32)) ((irm (x1 / (7 : Int32)) (7 : Int32)) - (3 : Int32)) ((irm x1 (7 : Int32)) - (3 : Int32)) q.1 q.2) ((0 : Int32), s)
set_option maxRecDepth 20000 in
theorem s115 {sc : Option (Nat × (Nat → Int32))} {x0 : Nat} {x1 : Int32} {x2 : Nat} {s : xS} {r : xS × Unit} (h : f115 x0 x1 x2 s = some r) : Cl sc 2 115 [.ref x0, .int x1, .ref x2] (hk_of s) (hk_of r.1, none) := by
  unfold f115 at h
  obtain ⟨k0, h⟩ := ifg_some h
  refine ⟨pg_md 115, [some (.ref x0), some (.int x1), some (.ref x2), none, none, none, none, none, none], pg_mt_md (by decide), (hk_rcv k0), rfl, ?_⟩
  generalize ho : ((hk_of r.1, none) : xH × Option Value) = o
  have hr : dn115 o r := ho.symm
  refine E_blk rfl ?_
  refine E_ps 2 (pc' := 3) (l' := [some (.ref x0), some (.int x1), some (.ref x2), none, none, none, none, none, none]) (st' := [.int (49 : Int32), .int x1]) rfl ?_
  refine E_idiv (by decide) ?_
  refine E_ps 5 (pc' := 10) (l' := [some (.ref x0), some (.int x1), some (.ref x2), some (.int ((x1 / (49 : Int32)) - (3 : Int32))), none, none, none, none, none]) (st' := [.int (7 : Int32), .int x1]) rfl ?_
  refine E_idiv (by decide) ?_
  refine E_ps 1 (pc' := 13) (l' := [some (.ref x0), some (.int x1), some (.ref x2), some (.int ((x1 / (49 : Int32)) - (3 : Int32))), none, none, none, none, none]) (st' := [.int (7 : Int32), .int (x1 / (7 : Int32))]) rfl ?_
  refine E_irem (by decide) ?_
  refine E_ps 5 (pc' := 21) (l' := [some (.ref x0), some (.int x1), some (.ref x2), some (.int ((x1 / (49 : Int32)) - (3 : Int32))), some (.int ((irm (x1 / (7 : Int32)) (7 : Int32)) - (3 : Int32))), none, none, none, none]) (st' := [.int (7 : Int32), .int x1]) rfl ?_
  refine E_irem (by decide) ?_
  refine E_ps 5 (pc' := 29) (l' := [some (.ref x0), some (.int x1), some (.ref x2), some (.int ((x1 / (49 : Int32)) - (3 : Int32))), some (.int ((irm (x1 / (7 : Int32)) (7 : Int32)) - (3 : Int32))), some (.int ((irm x1 (7 : Int32)) - (3 : Int32))), some (.int (0 : Int32)), none, none]) (st' := []) rfl ?_
  exact E_wk (l' := [some (.ref x0), none, some (.ref x2), some (.int ((x1 / (49 : Int32)) - (3 : Int32))), some (.int ((irm (x1 / (7 : Int32)) (7 : Int32)) - (3 : Int32))), some (.int ((irm x1 (7 : Int32)) - (3 : Int32))), some (.int (0 : Int32)), none, none]) ⟨rfl, rfl, rfl, rfl, rfl, rfl, trivial⟩ (s115_29_w k0 h hr)

-- 114: ThreePlates$Worlds.redsOf(I)I
def dn114 (o : xH × Option Value) (r : xS × Int32) : Prop := o = (hk_of r.1, some (.int r.2))
noncomputable def f114 (x0 : Nat) (x1 : Int32) (s : xS) : Option (xS × Int32) := ifg (oK x0 10 = true) <| (hk_R x0 2).bind fun a1 => (hk_R a1 3).bind fun a4 => (f115 x0 x1 a4 s).bind fun z6 => (hk_R x0 2).bind fun a8 => (f29 a8 z6.1).bind fun z11 => (hk_R x0 2).bind fun a13 => (hk_R a13 1).bind fun a16 => (f49 a16 z11.1).bind fun z19 => (hk_R x0 2).bind fun a21 => (hk_R x0 2).bind fun a24 => (hk_R a24 5).bind fun a27 => (f34 a21 a27 z19.1).bind fun z29 => some (z29.1, z29.2)
set_option maxRecDepth 20000 in
theorem s114 {sc : Option (Nat × (Nat → Int32))} {x0 : Nat} {x1 : Int32} {s : xS} {r : xS × Int32} (h : f114 x0 x1 s = some r) : Cl sc 4 114 [.ref x0, .int x1] (hk_of s) (hk_of r.1, some (.int r.2)) := by
  unfold f114 at h
  obtain ⟨k0, h⟩ := ifg_some h
  refine ⟨pg_md 114, [some (.ref x0), some (.int x1)], pg_mt_md (by decide), (hk_rcv k0), rfl, ?_⟩
  generalize ho : ((hk_of r.1, some (Value.int r.2)) : xH × Option Value) = o
  have hr : dn114 o r := ho.symm
  refine E_blk rfl ?_
  refine E_ps 3 (pc' := 3) (l' := [some (.ref x0), some (.int x1)]) (st' := [.ref x0, .int x1, .ref x0]) rfl ?_
  obtain ⟨a1, e2, h⟩ := Option.bind_eq_some_iff.mp h
  refine E_gr k0 (by decide) rfl e2 ?_
  have kf3 : oK a1 3 = true := hk_rty k0 e2 rfl (by decide)
  obtain ⟨a4, e5, h⟩ := Option.bind_eq_some_iff.mp h
  refine E_gr kf3 (by decide) rfl e5 ?_
  obtain ⟨z6, e7, h⟩ := Option.bind_eq_some_iff.mp h
  refine E_callV (vs := [.ref x0, .int x1, .ref a4]) (rest := []) rfl (by decide) rfl rfl (Nat.le_of_ble_eq_true rfl) (s115 e7) (by decide) ?_
  refine E_ps 1 (pc' := 13) (l' := [some (.ref x0), some (.int x1)]) (st' := [.ref x0]) rfl ?_
  obtain ⟨a8, e9, h⟩ := Option.bind_eq_some_iff.mp h
  refine E_gr k0 (by decide) rfl e9 ?_
  have kf10 : oK a8 3 = true := hk_rty k0 e9 rfl (by decide)
  obtain ⟨z11, e12, h⟩ := Option.bind_eq_some_iff.mp h
  refine E_callV (vs := [.ref a8]) (rest := []) rfl (by decide) rfl rfl (Nat.le_of_ble_eq_true rfl) (s29 e12) (by decide) ?_
  refine E_ps 1 (pc' := 20) (l' := [some (.ref x0), some (.int x1)]) (st' := [.ref x0]) rfl ?_
  obtain ⟨a13, e14, h⟩ := Option.bind_eq_some_iff.mp h
  refine E_gr k0 (by decide) rfl e14 ?_
  have kf15 : oK a13 3 = true := hk_rty k0 e14 rfl (by decide)
  obtain ⟨a16, e17, h⟩ := Option.bind_eq_some_iff.mp h
  refine E_gr kf15 (by decide) rfl e17 ?_
  have kf18 : oK a16 5 = true := hk_rty kf15 e17 rfl (by decide)
  obtain ⟨z19, e20, h⟩ := Option.bind_eq_some_iff.mp h
  refine E_callV (vs := [.ref a16]) (rest := []) rfl (by decide) rfl rfl (Nat.le_of_ble_eq_true rfl) (s49 e20) (by decide) ?_
  refine E_ps 1 (pc' := 30) (l' := [some (.ref x0), some (.int x1)]) (st' := [.ref x0]) rfl ?_
  obtain ⟨a21, e22, h⟩ := Option.bind_eq_some_iff.mp h
  refine E_gr k0 (by decide) rfl e22 ?_
  have kf23 : oK a21 3 = true := hk_rty k0 e22 rfl (by decide)
  refine E_ps 1 (pc' := 34) (l' := [some (.ref x0), some (.int x1)]) (st' := [.ref x0, .ref a21]) rfl ?_
  obtain ⟨a24, e25, h⟩ := Option.bind_eq_some_iff.mp h
  refine E_gr k0 (by decide) rfl e25 ?_
  have kf26 : oK a24 3 = true := hk_rty k0 e25 rfl (by decide)
  obtain ⟨a27, e28, h⟩ := Option.bind_eq_some_iff.mp h
  refine E_gr kf26 (by decide) rfl e28 ?_
  obtain ⟨z29, e30, h⟩ := Option.bind_eq_some_iff.mp h
  refine E_callI (vs := [.ref a21, .ref a27]) (rest := []) rfl (by decide) rfl rfl (Nat.le_of_ble_eq_true rfl) (s34 e30) (by decide) ?_
  cases h
  exact E_ret rfl (pg_mt_md (by decide)) rfl hr

-- 113: ThreePlates$Worlds.sift(I)V
def dn113 (o : xH × Option Value) (r : xS × Unit) : Prop := o = (hk_of r.1, none)
def dn113_56 (sc : Option (Nat × (Nat → Int32))) (x0 : Nat) (x1 : Int32) (o : xH × Option Value) (r : ((Int32 × Int32 × xS) ⊕ (xS × Unit))) : Prop := match r with
  | .inl q => Ev sc 5 113 [] 56 [some (.ref x0), some (.int x1), some (.int q.1), some (.int q.2.1)] [] (hk_of q.2.2) o
  | .inr r => dn113 o r
noncomputable def f113_98 (x0 : Nat) (x1 : Int32) (x2 : Int32) (x3 : Int32) (s : xS) : Option ((Int32 × Int32 × xS) ⊕ (xS × Unit)) := some (Sum.inl (x2, (x3 + (1 : Int32)), s))
set_option maxRecDepth 20000 in
theorem s113_98 {sc : Option (Nat × (Nat → Int32))} {x0 : Nat} {x1 : Int32} {x2 : Int32} {x3 : Int32} {s : xS} {o : xH × Option Value} {r : ((Int32 × Int32 × xS) ⊕ (xS × Unit))} (k0 : oK x0 10 = true) (h : f113_98 x0 x1 x2 x3 s = some r) (hr : dn113_56 sc x0 x1 o r) : Ev sc 5 113 [] 98 [some (.ref x0), some (.int x1), some (.int x2), some (.int x3)] [] (hk_of s) o := by
  unfold f113_98 at h
  refine E_blk rfl ?_
  refine E_ps 1 (pc' := 101) (l' := [some (.ref x0), some (.int x1), some (.int x2), some (.int (x3 + (1 : Int32)))]) (st' := []) rfl ?_
  refine E_j rfl rfl ?_
  cases h
  exact E_wk (l' := [some (.ref x0), some (.int x1), some (.int x2), some (.int (x3 + (1 : Int32)))]) ⟨rfl, rfl, rfl, rfl, trivial⟩ hr
noncomputable def f113_56 (x0 : Nat) (x1 : Int32) (x2 : Int32) (x3 : Int32) (s : xS) : Option ((Int32 × Int32 × xS) ⊕ (xS × Unit)) := if (s.1 x0 10) ≤ x3 then (Option.map Sum.inr ((pI s x0 10 x2).bind fun t2 => some (t2, ()))) else ((hk_R x0 9).bind fun a4 => (aI s a4 x3).bind fun v6 => (f114 x0 v6 s).bind fun z8 => (hk_R x0 7).bind fun a10 => (aI z8.1 a10 x1).bind fun v12 => if z8.2 = v12 then ((hk_R x0 9).bind fun a15 => (hk_R x0 9).bind fun a17 => (aI z8.1 a17 x3).bind fun v19 => (wI z8.1 a15 x2 v19).bind fun t21 => f113_98 x0 x1 (x2 + (1 : Int32)) x3 t21) else (f113_98 x0 x1 x2 x3 z8.1))
set_option maxRecDepth 20000 in
theorem s113_56 {sc : Option (Nat × (Nat → Int32))} {x0 : Nat} {x1 : Int32} {x2 : Int32} {x3 : Int32} {s : xS} {o : xH × Option Value} {r : ((Int32 × Int32 × xS) ⊕ (xS × Unit))} (k0 : oK x0 10 = true) (h : f113_56 x0 x1 x2 x3 s = some r) (hr : dn113_56 sc x0 x1 o r) : Ev sc 5 113 [] 56 [some (.ref x0), some (.int x1), some (.int x2), some (.int x3)] [] (hk_of s) o := by
  unfold f113_56 at h
  refine E_blk rfl ?_
  refine E_ps 2 (pc' := 58) (l' := [some (.ref x0), some (.int x1), some (.int x2), some (.int x3)]) (st' := [.ref x0, .int x3]) rfl ?_
  refine E_gi k0 (by decide) rfl ?_
  by_cases c1 : (s.1 x0 10) ≤ x3
  · rw [if_pos c1] at h
    refine E_jt rfl rfl c1 ?_
    obtain ⟨r, h, hr⟩ := lf_some (Dn := dn113_56 sc x0 x1 o) h hr
    refine E_blk rfl ?_
    refine E_ps 2 (pc' := 106) (l' := [some (.ref x0), some (.int x1), some (.int x2), some (.int x3)]) (st' := [.int x2, .ref x0]) rfl ?_
    obtain ⟨t2, e3, h⟩ := Option.bind_eq_some_iff.mp h
    refine E_pi k0 (by decide) rfl e3 ?_
    cases h
    exact E_ret rfl (pg_mt_md (by decide)) rfl hr
  · rw [if_neg c1] at h
    refine E_jf rfl rfl c1 ?_
    refine E_blk rfl ?_
    refine E_ps 2 (pc' := 66) (l' := [some (.ref x0), some (.int x1), some (.int x2), some (.int x3)]) (st' := [.ref x0, .ref x0]) rfl ?_
    obtain ⟨a4, e5, h⟩ := Option.bind_eq_some_iff.mp h
    refine E_gr k0 (by decide) rfl e5 ?_
    refine E_ps 1 (pc' := 70) (l' := [some (.ref x0), some (.int x1), some (.int x2), some (.int x3)]) (st' := [.int x3, .ref a4, .ref x0]) rfl ?_
    obtain ⟨v6, e7, h⟩ := Option.bind_eq_some_iff.mp h
    refine E_ai e7 ?_
    obtain ⟨z8, e9, h⟩ := Option.bind_eq_some_iff.mp h
    refine E_callI (vs := [.ref x0, .int v6]) (rest := []) rfl (by decide) rfl rfl (Nat.le_of_ble_eq_true rfl) (s114 e9) (by decide) ?_
    refine E_ps 1 (pc' := 75) (l' := [some (.ref x0), some (.int x1), some (.int x2), some (.int x3)]) (st' := [.ref x0, .int z8.2]) rfl ?_
    obtain ⟨a10, e11, h⟩ := Option.bind_eq_some_iff.mp h
    refine E_gr k0 (by decide) rfl e11 ?_
    refine E_ps 1 (pc' := 79) (l' := [some (.ref x0), some (.int x1), some (.int x2), some (.int x3)]) (st' := [.int x1, .ref a10, .int z8.2]) rfl ?_
    obtain ⟨v12, e13, h⟩ := Option.bind_eq_some_iff.mp h
    refine E_ai e13 ?_
    by_cases c14 : z8.2 = v12
    · rw [if_pos c14] at h
      refine E_jt rfl rfl c14 ?_
      refine E_blk rfl ?_
      refine E_ps 1 (pc' := 84) (l' := [some (.ref x0), some (.int x1), some (.int x2), some (.int x3)]) (st' := [.ref x0]) rfl ?_
      obtain ⟨a15, e16, h⟩ := Option.bind_eq_some_iff.mp h
      refine E_gr k0 (by decide) rfl e16 ?_
      refine E_ps 2 (pc' := 89) (l' := [some (.ref x0), some (.int x1), some (.int x2), some (.int x3)]) (st' := [.ref x0, .int x2, .ref a15]) rfl ?_
      obtain ⟨a17, e18, h⟩ := Option.bind_eq_some_iff.mp h
      refine E_gr k0 (by decide) rfl e18 ?_
      refine E_ps 1 (pc' := 93) (l' := [some (.ref x0), some (.int x1), some (.int x2), some (.int x3)]) (st' := [.int x3, .ref a17, .int x2, .ref a15]) rfl ?_
      obtain ⟨v19, e20, h⟩ := Option.bind_eq_some_iff.mp h
      refine E_ai e20 ?_
      obtain ⟨t21, e22, h⟩ := Option.bind_eq_some_iff.mp h
      refine E_wi e22 ?_
      refine E_ps 1 (pc' := 98) (l' := [some (.ref x0), some (.int x1), some (.int (x2 + (1 : Int32))), some (.int x3)]) (st' := []) rfl ?_
      exact E_wk (l' := [some (.ref x0), some (.int x1), some (.int (x2 + (1 : Int32))), some (.int x3)]) ⟨rfl, rfl, rfl, rfl, trivial⟩ (s113_98 k0 h hr)
    · rw [if_neg c14] at h
      refine E_jf rfl rfl c14 ?_
      exact E_wk (l' := [some (.ref x0), some (.int x1), some (.int x2), some (.int x3)]) ⟨rfl, rfl, rfl, rfl, trivial⟩ (s113_98 k0 h hr)
theorem s113_56_w {sc : Option (Nat × (Nat → Int32))} {x0 : Nat} {x1 : Int32} {x2 : Int32} {x3 : Int32} {s : xS} {o : xH × Option Value} {r : (xS × Unit)} (k0 : oK x0 10 = true) (h : whl (fun q : (Int32 × Int32 × xS) => f113_56 x0 x1 q.1 q.2.1 q.2.2) (x2, x3, s) = some r) (hr : dn113 o r) : Ev sc 5 113 [] 56 [some (.ref x0), some (.int x1), some (.int x2), some (.int x3)] [] (hk_of s) o := by
  refine whl_snd (E := fun q : (Int32 × Int32 × xS) => Ev sc 5 113 [] 56 [some (.ref x0), some (.int x1), some (.int q.1), some (.int q.2.1)] [] (hk_of q.2.2) o) (P := fun r => dn113 o r) (fun q r h hr => ?_) h hr
  exact s113_56 k0 h (by cases r <;> exact hr)
noncomputable def f113 (x0 : Nat) (x1 : Int32) (s : xS) : Option (xS × Unit) := ifg (oK x0 10 = true) <| (hk_R x0 2).bind fun a1 => (hk_R x0 4).bind fun a4 => (aI s a4 x1).bind fun v6 => (hk_R x0 5).bind fun a8 => (aI s a8 x1).bind fun v10 => (hk_R x0 6).bind fun a12 => (aI s a12 x1).bind fun v14 => (f27 a1 v6 v10 v14 s).bind fun z16 => (hk_R x0 1).bind fun a18 => (hk_R x0 3).bind fun a21 => (aI z16.1 a21 x1).bind fun v23 => (hk_R x0 0).bind fun a25 => (f68 a25 z16.1).bind fun z28 => (hk_R x0 2).bind fun a30 => (hk_R a30 2).bind fun a33 => (f5 a18 v23 z28.2 a33 z28.1).bind fun z35 => whl (fun q : (Int32 × Int32 × xS) => f113_56 x0 x1 q.1 q.2.1 q.2.2) ((0 : Int32), (0 : Int32), z35.1)
set_option maxRecDepth 20000 in
theorem s113 {sc : Option (Nat × (Nat → Int32))} {x0 : Nat} {x1 : Int32} {s : xS} {r : xS × Unit} (h : f113 x0 x1 s = some r) : Cl sc 5 113 [.ref x0, .int x1] (hk_of s) (hk_of r.1, none) := by
  unfold f113 at h
  obtain ⟨k0, h⟩ := ifg_some h
  refine ⟨pg_md 113, [some (.ref x0), some (.int x1), none, none], pg_mt_md (by decide), (hk_rcv k0), rfl, ?_⟩
  generalize ho : ((hk_of r.1, none) : xH × Option Value) = o
  have hr : dn113 o r := ho.symm
  refine E_blk rfl ?_
  refine E_ps 1 (pc' := 1) (l' := [some (.ref x0), some (.int x1), none, none]) (st' := [.ref x0]) rfl ?_
  obtain ⟨a1, e2, h⟩ := Option.bind_eq_some_iff.mp h
  refine E_gr k0 (by decide) rfl e2 ?_
  have kf3 : oK a1 3 = true := hk_rty k0 e2 rfl (by decide)
  refine E_ps 1 (pc' := 5) (l' := [some (.ref x0), some (.int x1), none, none]) (st' := [.ref x0, .ref a1]) rfl ?_
  obtain ⟨a4, e5, h⟩ := Option.bind_eq_some_iff.mp h
  refine E_gr k0 (by decide) rfl e5 ?_
  refine E_ps 1 (pc' := 9) (l' := [some (.ref x0), some (.int x1), none, none]) (st' := [.int x1, .ref a4, .ref a1]) rfl ?_
  obtain ⟨v6, e7, h⟩ := Option.bind_eq_some_iff.mp h
  refine E_ai e7 ?_
  refine E_ps 1 (pc' := 11) (l' := [some (.ref x0), some (.int x1), none, none]) (st' := [.ref x0, .int v6, .ref a1]) rfl ?_
  obtain ⟨a8, e9, h⟩ := Option.bind_eq_some_iff.mp h
  refine E_gr k0 (by decide) rfl e9 ?_
  refine E_ps 1 (pc' := 15) (l' := [some (.ref x0), some (.int x1), none, none]) (st' := [.int x1, .ref a8, .int v6, .ref a1]) rfl ?_
  obtain ⟨v10, e11, h⟩ := Option.bind_eq_some_iff.mp h
  refine E_ai e11 ?_
  refine E_ps 1 (pc' := 17) (l' := [some (.ref x0), some (.int x1), none, none]) (st' := [.ref x0, .int v10, .int v6, .ref a1]) rfl ?_
  obtain ⟨a12, e13, h⟩ := Option.bind_eq_some_iff.mp h
  refine E_gr k0 (by decide) rfl e13 ?_
  refine E_ps 1 (pc' := 21) (l' := [some (.ref x0), some (.int x1), none, none]) (st' := [.int x1, .ref a12, .int v10, .int v6, .ref a1]) rfl ?_
  obtain ⟨v14, e15, h⟩ := Option.bind_eq_some_iff.mp h
  refine E_ai e15 ?_
  obtain ⟨z16, e17, h⟩ := Option.bind_eq_some_iff.mp h
  refine E_callV (vs := [.ref a1, .int v6, .int v10, .int v14]) (rest := []) rfl (by decide) rfl rfl (Nat.le_of_ble_eq_true rfl) (s27 e17) (by decide) ?_
  refine E_ps 1 (pc' := 26) (l' := [some (.ref x0), some (.int x1), none, none]) (st' := [.ref x0]) rfl ?_
  obtain ⟨a18, e19, h⟩ := Option.bind_eq_some_iff.mp h
  refine E_gr k0 (by decide) rfl e19 ?_
  have kf20 : oK a18 0 = true := hk_rty k0 e19 rfl (by decide)
  refine E_ps 1 (pc' := 30) (l' := [some (.ref x0), some (.int x1), none, none]) (st' := [.ref x0, .ref a18]) rfl ?_
  obtain ⟨a21, e22, h⟩ := Option.bind_eq_some_iff.mp h
  refine E_gr k0 (by decide) rfl e22 ?_
  refine E_ps 1 (pc' := 34) (l' := [some (.ref x0), some (.int x1), none, none]) (st' := [.int x1, .ref a21, .ref a18]) rfl ?_
  obtain ⟨v23, e24, h⟩ := Option.bind_eq_some_iff.mp h
  refine E_ai e24 ?_
  refine E_ps 1 (pc' := 36) (l' := [some (.ref x0), some (.int x1), none, none]) (st' := [.ref x0, .int v23, .ref a18]) rfl ?_
  obtain ⟨a25, e26, h⟩ := Option.bind_eq_some_iff.mp h
  refine E_gr k0 (by decide) rfl e26 ?_
  have kf27 : oK a25 7 = true := hk_rty k0 e26 rfl (by decide)
  obtain ⟨z28, e29, h⟩ := Option.bind_eq_some_iff.mp h
  refine E_callI (vs := [.ref a25]) (rest := [.int v23, .ref a18]) rfl (by decide) rfl rfl (Nat.le_of_ble_eq_true rfl) (s68 e29) (by decide) ?_
  refine E_ps 1 (pc' := 43) (l' := [some (.ref x0), some (.int x1), none, none]) (st' := [.ref x0, .int z28.2, .int v23, .ref a18]) rfl ?_
  obtain ⟨a30, e31, h⟩ := Option.bind_eq_some_iff.mp h
  refine E_gr k0 (by decide) rfl e31 ?_
  have kf32 : oK a30 3 = true := hk_rty k0 e31 rfl (by decide)
  obtain ⟨a33, e34, h⟩ := Option.bind_eq_some_iff.mp h
  refine E_gr kf32 (by decide) rfl e34 ?_
  obtain ⟨z35, e36, h⟩ := Option.bind_eq_some_iff.mp h
  refine E_callV (vs := [.ref a18, .int v23, .int z28.2, .ref a33]) (rest := []) rfl (by decide) rfl rfl (Nat.le_of_ble_eq_true rfl) (s5 e36) (by decide) ?_
  refine E_ps 4 (pc' := 56) (l' := [some (.ref x0), some (.int x1), some (.int (0 : Int32)), some (.int (0 : Int32))]) (st' := []) rfl ?_
  exact E_wk (l' := [some (.ref x0), some (.int x1), some (.int (0 : Int32)), some (.int (0 : Int32))]) ⟨rfl, rfl, rfl, rfl, trivial⟩ (s113_56_w k0 h hr)

-- 112: ThreePlates$Worlds.findFitting()V
def dn112 (o : xH × Option Value) (r : xS × Unit) : Prop := o = (hk_of r.1, none)
def dn112_9 (sc : Option (Nat × (Nat → Int32))) (x0 : Nat) (o : xH × Option Value) (r : ((Int32 × xS) ⊕ (xS × Unit))) : Prop := match r with
  | .inl q => Ev sc 6 112 [] 9 [some (.ref x0), some (.int q.1)] [] (hk_of q.2) o
  | .inr r => dn112 o r
def dn112_31 (sc : Option (Nat × (Nat → Int32))) (x0 : Nat) (o : xH × Option Value) (r : ((Int32 × xS) ⊕ (xS × Unit))) : Prop := match r with
  | .inl q => Ev sc 6 112 [] 31 [some (.ref x0), some (.int q.1)] [] (hk_of q.2) o
  | .inr r => dn112 o r
noncomputable def f112_31 (x0 : Nat) (x1 : Int32) (s : xS) : Option ((Int32 × xS) ⊕ (xS × Unit)) := if (s.1 x0 8) ≤ x1 then (Option.map Sum.inr (some (s, ()))) else ((f113 x0 x1 s).bind fun z2 => some (Sum.inl ((x1 + (1 : Int32)), z2.1)))
set_option maxRecDepth 20000 in
theorem s112_31 {sc : Option (Nat × (Nat → Int32))} {x0 : Nat} {x1 : Int32} {s : xS} {o : xH × Option Value} {r : ((Int32 × xS) ⊕ (xS × Unit))} (k0 : oK x0 10 = true) (h : f112_31 x0 x1 s = some r) (hr : dn112_31 sc x0 o r) : Ev sc 6 112 [] 31 [some (.ref x0), some (.int x1)] [] (hk_of s) o := by
  unfold f112_31 at h
  refine E_blk rfl ?_
  refine E_ps 2 (pc' := 33) (l' := [some (.ref x0), some (.int x1)]) (st' := [.ref x0, .int x1]) rfl ?_
  refine E_gi k0 (by decide) rfl ?_
  by_cases c1 : (s.1 x0 8) ≤ x1
  · rw [if_pos c1] at h
    refine E_jt rfl rfl c1 ?_
    obtain ⟨r, h, hr⟩ := lf_some (Dn := dn112_31 sc x0 o) h hr
    refine E_blk rfl ?_
    cases h
    exact E_ret rfl (pg_mt_md (by decide)) rfl hr
  · rw [if_neg c1] at h
    refine E_jf rfl rfl c1 ?_
    refine E_blk rfl ?_
    refine E_ps 2 (pc' := 41) (l' := [some (.ref x0), some (.int x1)]) (st' := [.int x1, .ref x0]) rfl ?_
    obtain ⟨z2, e3, h⟩ := Option.bind_eq_some_iff.mp h
    refine E_callV (vs := [.ref x0, .int x1]) (rest := []) rfl (by decide) rfl rfl (Nat.le_of_ble_eq_true rfl) (s113 e3) (by decide) ?_
    refine E_ps 1 (pc' := 47) (l' := [some (.ref x0), some (.int (x1 + (1 : Int32)))]) (st' := []) rfl ?_
    refine E_j rfl rfl ?_
    cases h
    exact E_wk (l' := [some (.ref x0), some (.int (x1 + (1 : Int32)))]) ⟨rfl, rfl, trivial⟩ hr
theorem s112_31_w {sc : Option (Nat × (Nat → Int32))} {x0 : Nat} {x1 : Int32} {s : xS} {o : xH × Option Value} {r : (xS × Unit)} (k0 : oK x0 10 = true) (h : whl (fun q : (Int32 × xS) => f112_31 x0 q.1 q.2) (x1, s) = some r) (hr : dn112 o r) : Ev sc 6 112 [] 31 [some (.ref x0), some (.int x1)] [] (hk_of s) o := by
  refine whl_snd (E := fun q : (Int32 × xS) => Ev sc 6 112 [] 31 [some (.ref x0), some (.int q.1)] [] (hk_of q.2) o) (P := fun r => dn112 o r) (fun q r h hr => ?_) h hr
  exact s112_31 k0 h (by cases r <;> exact hr)
noncomputable def f112_9 (x0 : Nat) (x1 : Int32) (s : xS) : Option ((Int32 × xS) ⊕ (xS × Unit)) := if (343 : Int32) ≤ x1 then (Option.map Sum.inr (whl (fun q : (Int32 × xS) => f112_31 x0 q.1 q.2) ((0 : Int32), s))) else ((hk_R x0 9).bind fun a2 => (wI s a2 x1 x1).bind fun t4 => some (Sum.inl ((x1 + (1 : Int32)), t4)))
set_option maxRecDepth 20000 in
theorem s112_9 {sc : Option (Nat × (Nat → Int32))} {x0 : Nat} {x1 : Int32} {s : xS} {o : xH × Option Value} {r : ((Int32 × xS) ⊕ (xS × Unit))} (k0 : oK x0 10 = true) (h : f112_9 x0 x1 s = some r) (hr : dn112_9 sc x0 o r) : Ev sc 6 112 [] 9 [some (.ref x0), some (.int x1)] [] (hk_of s) o := by
  unfold f112_9 at h
  refine E_blk rfl ?_
  refine E_ps 2 (pc' := 13) (l' := [some (.ref x0), some (.int x1)]) (st' := [.int (343 : Int32), .int x1]) rfl ?_
  by_cases c1 : (343 : Int32) ≤ x1
  · rw [if_pos c1] at h
    refine E_jt rfl rfl c1 ?_
    obtain ⟨r, h, hr⟩ := lf_some (Dn := dn112_9 sc x0 o) h hr
    refine E_blk rfl ?_
    refine E_ps 2 (pc' := 31) (l' := [some (.ref x0), some (.int (0 : Int32))]) (st' := []) rfl ?_
    exact E_wk (l' := [some (.ref x0), some (.int (0 : Int32))]) ⟨rfl, rfl, trivial⟩ (s112_31_w k0 h hr)
  · rw [if_neg c1] at h
    refine E_jf rfl rfl c1 ?_
    refine E_blk rfl ?_
    refine E_ps 1 (pc' := 17) (l' := [some (.ref x0), some (.int x1)]) (st' := [.ref x0]) rfl ?_
    obtain ⟨a2, e3, h⟩ := Option.bind_eq_some_iff.mp h
    refine E_gr k0 (by decide) rfl e3 ?_
    refine E_ps 2 (pc' := 22) (l' := [some (.ref x0), some (.int x1)]) (st' := [.int x1, .int x1, .ref a2]) rfl ?_
    obtain ⟨t4, e5, h⟩ := Option.bind_eq_some_iff.mp h
    refine E_wi e5 ?_
    refine E_ps 1 (pc' := 26) (l' := [some (.ref x0), some (.int (x1 + (1 : Int32)))]) (st' := []) rfl ?_
    refine E_j rfl rfl ?_
    cases h
    exact E_wk (l' := [some (.ref x0), some (.int (x1 + (1 : Int32)))]) ⟨rfl, rfl, trivial⟩ hr
theorem s112_9_w {sc : Option (Nat × (Nat → Int32))} {x0 : Nat} {x1 : Int32} {s : xS} {o : xH × Option Value} {r : (xS × Unit)} (k0 : oK x0 10 = true) (h : whl (fun q : (Int32 × xS) => f112_9 x0 q.1 q.2) (x1, s) = some r) (hr : dn112 o r) : Ev sc 6 112 [] 9 [some (.ref x0), some (.int x1)] [] (hk_of s) o := by
  refine whl_snd (E := fun q : (Int32 × xS) => Ev sc 6 112 [] 9 [some (.ref x0), some (.int q.1)] [] (hk_of q.2) o) (P := fun r => dn112 o r) (fun q r h hr => ?_) h hr
  exact s112_9 k0 h (by cases r <;> exact hr)
noncomputable def f112 (x0 : Nat) (s : xS) : Option (xS × Unit) := ifg (oK x0 10 = true) <| (pI s x0 10 (343 : Int32)).bind fun t1 => whl (fun q : (Int32 × xS) => f112_9 x0 q.1 q.2) ((0 : Int32), t1)
set_option maxRecDepth 20000 in
theorem s112 {sc : Option (Nat × (Nat → Int32))} {x0 : Nat} {s : xS} {r : xS × Unit} (h : f112 x0 s = some r) : Cl sc 6 112 [.ref x0] (hk_of s) (hk_of r.1, none) := by
  unfold f112 at h
  obtain ⟨k0, h⟩ := ifg_some h
  refine ⟨pg_md 112, [some (.ref x0), none], pg_mt_md (by decide), (hk_rcv k0), rfl, ?_⟩
  generalize ho : ((hk_of r.1, none) : xH × Option Value) = o
  have hr : dn112 o r := ho.symm
  refine E_blk rfl ?_
  refine E_ps 2 (pc' := 4) (l' := [some (.ref x0), none]) (st' := [.int (343 : Int32), .ref x0]) rfl ?_
  obtain ⟨t1, e2, h⟩ := Option.bind_eq_some_iff.mp h
  refine E_pi k0 (by decide) rfl e2 ?_
  refine E_ps 2 (pc' := 9) (l' := [some (.ref x0), some (.int (0 : Int32))]) (st' := []) rfl ?_
  exact E_wk (l' := [some (.ref x0), some (.int (0 : Int32))]) ⟨rfl, rfl, trivial⟩ (s112_9_w k0 h hr)

-- 111: ThreePlates$Worlds.countFitting()I
def dn111 (o : xH × Option Value) (r : xS × Int32) : Prop := o = (hk_of r.1, some (.int r.2))
noncomputable def f111_16 (x0 : Nat) (s : xS) : Option (xS × Int32) := some (s, (s.1 x0 10))
set_option maxRecDepth 20000 in
theorem s111_16 {sc : Option (Nat × (Nat → Int32))} {x0 : Nat} {s : xS} {o : xH × Option Value} {r : (xS × Int32)} (k0 : oK x0 10 = true) (h : f111_16 x0 s = some r) (hr : dn111 o r) : Ev sc 7 111 [] 16 [some (.ref x0)] [] (hk_of s) o := by
  unfold f111_16 at h
  refine E_blk rfl ?_
  refine E_ps 1 (pc' := 17) (l' := [some (.ref x0)]) (st' := [.ref x0]) rfl ?_
  refine E_gi k0 (by decide) rfl ?_
  cases h
  exact E_ret rfl (pg_mt_md (by decide)) rfl hr
noncomputable def f111 (x0 : Nat) (s : xS) : Option (xS × Int32) := ifg (oK x0 10 = true) <| if (s.1 x0 11) = 0 then ((pI s x0 11 (1 : Int32)).bind fun t2 => (f112 x0 t2).bind fun z4 => f111_16 x0 z4.1) else (f111_16 x0 s)
set_option maxRecDepth 20000 in
theorem s111 {sc : Option (Nat × (Nat → Int32))} {x0 : Nat} {s : xS} {r : xS × Int32} (h : f111 x0 s = some r) : Cl sc 7 111 [.ref x0] (hk_of s) (hk_of r.1, some (.int r.2)) := by
  unfold f111 at h
  obtain ⟨k0, h⟩ := ifg_some h
  refine ⟨pg_md 111, [some (.ref x0)], pg_mt_md (by decide), (hk_rcv k0), rfl, ?_⟩
  generalize ho : ((hk_of r.1, some (Value.int r.2)) : xH × Option Value) = o
  have hr : dn111 o r := ho.symm
  refine E_blk rfl ?_
  refine E_ps 1 (pc' := 1) (l' := [some (.ref x0)]) (st' := [.ref x0]) rfl ?_
  refine E_gi k0 (by decide) rfl ?_
  by_cases c1 : (s.1 x0 11) = 0
  · rw [if_pos c1] at h
    refine E_jt rfl rfl c1 ?_
    refine E_blk rfl ?_
    refine E_ps 2 (pc' := 9) (l' := [some (.ref x0)]) (st' := [.int (1 : Int32), .ref x0]) rfl ?_
    obtain ⟨t2, e3, h⟩ := Option.bind_eq_some_iff.mp h
    refine E_pi k0 (by decide) rfl e3 ?_
    refine E_ps 1 (pc' := 13) (l' := [some (.ref x0)]) (st' := [.ref x0]) rfl ?_
    obtain ⟨z4, e5, h⟩ := Option.bind_eq_some_iff.mp h
    refine E_callV (vs := [.ref x0]) (rest := []) rfl (by decide) rfl rfl (Nat.le_of_ble_eq_true rfl) (s112 e5) (by decide) ?_
    exact E_wk (l' := [some (.ref x0)]) ⟨rfl, trivial⟩ (s111_16 k0 h hr)
  · rw [if_neg c1] at h
    refine E_jf rfl rfl c1 ?_
    exact E_wk (l' := [some (.ref x0)]) ⟨rfl, trivial⟩ (s111_16 k0 h hr)

-- 118: ThreePlates$Worlds.findOffs()V
def dn118 (o : xH × Option Value) (r : xS × Unit) : Prop := o = (hk_of r.1, none)
def dn118_15 (sc : Option (Nat × (Nat → Int32))) (x0 : Nat) (o : xH × Option Value) (r : ((Int32 × xS) ⊕ (xS × Unit))) : Prop := match r with
  | .inl q => Ev sc 4 118 [] 15 [some (.ref x0), some (.int q.1), none, none] [] (hk_of q.2) o
  | .inr r => dn118 o r
noncomputable def f118_160 (x0 : Nat) (x1 : Int32) (s : xS) : Option ((Int32 × xS) ⊕ (xS × Unit)) := some (Sum.inl ((x1 + (1 : Int32)), s))
set_option maxRecDepth 20000 in
theorem s118_160 {sc : Option (Nat × (Nat → Int32))} {x0 : Nat} {x1 : Int32} {s : xS} {o : xH × Option Value} {r : ((Int32 × xS) ⊕ (xS × Unit))} (k0 : oK x0 10 = true) (h : f118_160 x0 x1 s = some r) (hr : dn118_15 sc x0 o r) : Ev sc 4 118 [] 160 [some (.ref x0), some (.int x1), none, none] [] (hk_of s) o := by
  unfold f118_160 at h
  refine E_blk rfl ?_
  refine E_ps 1 (pc' := 163) (l' := [some (.ref x0), some (.int (x1 + (1 : Int32))), none, none]) (st' := []) rfl ?_
  refine E_j rfl rfl ?_
  cases h
  exact E_wk (l' := [some (.ref x0), some (.int (x1 + (1 : Int32))), none, none]) ⟨rfl, rfl, trivial⟩ hr
noncomputable def f118_146 (x0 : Nat) (x1 : Int32) (x2 : Int32) (x3 : Int32) (s : xS) : Option ((Int32 × xS) ⊕ (xS × Unit)) := (hk_R x0 15).bind fun a1 => (wI s a1 (2 : Int32) x2).bind fun t3 => (hk_R x0 15).bind fun a5 => (wI t3 a5 (3 : Int32) x3).bind fun t7 => f118_160 x0 x1 t7
set_option maxRecDepth 20000 in
theorem s118_146 {sc : Option (Nat × (Nat → Int32))} {x0 : Nat} {x1 : Int32} {x2 : Int32} {x3 : Int32} {s : xS} {o : xH × Option Value} {r : ((Int32 × xS) ⊕ (xS × Unit))} (k0 : oK x0 10 = true) (h : f118_146 x0 x1 x2 x3 s = some r) (hr : dn118_15 sc x0 o r) : Ev sc 4 118 [] 146 [some (.ref x0), some (.int x1), some (.int x2), some (.int x3)] [] (hk_of s) o := by
  unfold f118_146 at h
  refine E_blk rfl ?_
  refine E_ps 1 (pc' := 147) (l' := [some (.ref x0), some (.int x1), some (.int x2), some (.int x3)]) (st' := [.ref x0]) rfl ?_
  obtain ⟨a1, e2, h⟩ := Option.bind_eq_some_iff.mp h
  refine E_gr k0 (by decide) rfl e2 ?_
  refine E_ps 2 (pc' := 152) (l' := [some (.ref x0), some (.int x1), some (.int x2), some (.int x3)]) (st' := [.int x2, .int (2 : Int32), .ref a1]) rfl ?_
  obtain ⟨t3, e4, h⟩ := Option.bind_eq_some_iff.mp h
  refine E_wi e4 ?_
  refine E_ps 1 (pc' := 154) (l' := [some (.ref x0), some (.int x1), some (.int x2), some (.int x3)]) (st' := [.ref x0]) rfl ?_
  obtain ⟨a5, e6, h⟩ := Option.bind_eq_some_iff.mp h
  refine E_gr k0 (by decide) rfl e6 ?_
  refine E_ps 2 (pc' := 159) (l' := [some (.ref x0), some (.int x1), some (.int x2), some (.int x3)]) (st' := [.int x3, .int (3 : Int32), .ref a5]) rfl ?_
  obtain ⟨t7, e8, h⟩ := Option.bind_eq_some_iff.mp h
  refine E_wi e8 ?_
  exact E_wk (l' := [some (.ref x0), some (.int x1), none, none]) ⟨rfl, rfl, trivial⟩ (s118_160 k0 h hr)
noncomputable def f118_123 (x0 : Nat) (x1 : Int32) (x2 : Int32) (x3 : Int32) (s : xS) : Option ((Int32 × xS) ⊕ (xS × Unit)) := if x1 = 0 then (f118_146 x0 x1 x2 x3 s) else ((hk_R x0 15).bind fun a2 => (aI s a2 (3 : Int32)).bind fun v4 => (hk_R x0 15).bind fun a6 => (aI s a6 (2 : Int32)).bind fun v8 => if (x2 * v4) ≤ (v8 * x3) then (f118_160 x0 x1 s) else (f118_146 x0 x1 x2 x3 s))
set_option maxRecDepth 20000 in
theorem s118_123 {sc : Option (Nat × (Nat → Int32))} {x0 : Nat} {x1 : Int32} {x2 : Int32} {x3 : Int32} {s : xS} {o : xH × Option Value} {r : ((Int32 × xS) ⊕ (xS × Unit))} (k0 : oK x0 10 = true) (h : f118_123 x0 x1 x2 x3 s = some r) (hr : dn118_15 sc x0 o r) : Ev sc 4 118 [] 123 [some (.ref x0), some (.int x1), some (.int x2), some (.int x3)] [] (hk_of s) o := by
  unfold f118_123 at h
  refine E_blk rfl ?_
  refine E_ps 1 (pc' := 124) (l' := [some (.ref x0), some (.int x1), some (.int x2), some (.int x3)]) (st' := [.int x1]) rfl ?_
  by_cases c1 : x1 = 0
  · rw [if_pos c1] at h
    refine E_jt rfl rfl c1 ?_
    exact E_wk (l' := [some (.ref x0), some (.int x1), some (.int x2), some (.int x3)]) ⟨rfl, rfl, rfl, rfl, trivial⟩ (s118_146 k0 h hr)
  · rw [if_neg c1] at h
    refine E_jf rfl rfl c1 ?_
    refine E_blk rfl ?_
    refine E_ps 2 (pc' := 129) (l' := [some (.ref x0), some (.int x1), some (.int x2), some (.int x3)]) (st' := [.ref x0, .int x2]) rfl ?_
    obtain ⟨a2, e3, h⟩ := Option.bind_eq_some_iff.mp h
    refine E_gr k0 (by decide) rfl e3 ?_
    refine E_ps 1 (pc' := 133) (l' := [some (.ref x0), some (.int x1), some (.int x2), some (.int x3)]) (st' := [.int (3 : Int32), .ref a2, .int x2]) rfl ?_
    obtain ⟨v4, e5, h⟩ := Option.bind_eq_some_iff.mp h
    refine E_ai e5 ?_
    refine E_ps 2 (pc' := 136) (l' := [some (.ref x0), some (.int x1), some (.int x2), some (.int x3)]) (st' := [.ref x0, .int (x2 * v4)]) rfl ?_
    obtain ⟨a6, e7, h⟩ := Option.bind_eq_some_iff.mp h
    refine E_gr k0 (by decide) rfl e7 ?_
    refine E_ps 1 (pc' := 140) (l' := [some (.ref x0), some (.int x1), some (.int x2), some (.int x3)]) (st' := [.int (2 : Int32), .ref a6, .int (x2 * v4)]) rfl ?_
    obtain ⟨v8, e9, h⟩ := Option.bind_eq_some_iff.mp h
    refine E_ai e9 ?_
    refine E_ps 2 (pc' := 143) (l' := [some (.ref x0), some (.int x1), some (.int x2), some (.int x3)]) (st' := [.int (v8 * x3), .int (x2 * v4)]) rfl ?_
    by_cases c10 : (x2 * v4) ≤ (v8 * x3)
    · rw [if_pos c10] at h
      refine E_jt rfl rfl c10 ?_
      exact E_wk (l' := [some (.ref x0), some (.int x1), none, none]) ⟨rfl, rfl, trivial⟩ (s118_160 k0 h hr)
    · rw [if_neg c10] at h
      refine E_jf rfl rfl c10 ?_
      exact E_wk (l' := [some (.ref x0), some (.int x1), some (.int x2), some (.int x3)]) ⟨rfl, rfl, rfl, rfl, trivial⟩ (s118_146 k0 h hr)
noncomputable def f118_109 (x0 : Nat) (x1 : Int32) (x2 : Int32) (x3 : Int32) (s : xS) : Option ((Int32 × xS) ⊕ (xS × Unit)) := (hk_R x0 15).bind fun a1 => (wI s a1 (0 : Int32) x2).bind fun t3 => (hk_R x0 15).bind fun a5 => (wI t3 a5 (1 : Int32) x3).bind fun t7 => f118_123 x0 x1 x2 x3 t7
set_option maxRecDepth 20000 in
theorem s118_109 {sc : Option (Nat × (Nat → Int32))} {x0 : Nat} {x1 : Int32} {x2 : Int32} {x3 : Int32} {s : xS} {o : xH × Option Value} {r : ((Int32 × xS) ⊕ (xS × Unit))} (k0 : oK x0 10 = true) (h : f118_109 x0 x1 x2 x3 s = some r) (hr : dn118_15 sc x0 o r) : Ev sc 4 118 [] 109 [some (.ref x0), some (.int x1), some (.int x2), some (.int x3)] [] (hk_of s) o := by
  unfold f118_109 at h
  refine E_blk rfl ?_
  refine E_ps 1 (pc' := 110) (l' := [some (.ref x0), some (.int x1), some (.int x2), some (.int x3)]) (st' := [.ref x0]) rfl ?_
  obtain ⟨a1, e2, h⟩ := Option.bind_eq_some_iff.mp h
  refine E_gr k0 (by decide) rfl e2 ?_
  refine E_ps 2 (pc' := 115) (l' := [some (.ref x0), some (.int x1), some (.int x2), some (.int x3)]) (st' := [.int x2, .int (0 : Int32), .ref a1]) rfl ?_
  obtain ⟨t3, e4, h⟩ := Option.bind_eq_some_iff.mp h
  refine E_wi e4 ?_
  refine E_ps 1 (pc' := 117) (l' := [some (.ref x0), some (.int x1), some (.int x2), some (.int x3)]) (st' := [.ref x0]) rfl ?_
  obtain ⟨a5, e6, h⟩ := Option.bind_eq_some_iff.mp h
  refine E_gr k0 (by decide) rfl e6 ?_
  refine E_ps 2 (pc' := 122) (l' := [some (.ref x0), some (.int x1), some (.int x2), some (.int x3)]) (st' := [.int x3, .int (1 : Int32), .ref a5]) rfl ?_
  obtain ⟨t7, e8, h⟩ := Option.bind_eq_some_iff.mp h
  refine E_wi e8 ?_
  exact E_wk (l' := [some (.ref x0), some (.int x1), some (.int x2), some (.int x3)]) ⟨rfl, rfl, rfl, rfl, trivial⟩ (s118_123 k0 h hr)
noncomputable def f118_15 (x0 : Nat) (x1 : Int32) (s : xS) : Option ((Int32 × xS) ⊕ (xS × Unit)) := if (s.1 x0 10) ≤ x1 then (Option.map Sum.inr (some (s, ()))) else ((hk_R x0 9).bind fun a2 => (aI s a2 x1).bind fun v4 => (hk_R x0 2).bind fun a6 => (hk_R a6 3).bind fun a9 => (f115 x0 v4 a9 s).bind fun z11 => (hk_R x0 2).bind fun a13 => (hk_R x0 2).bind fun a16 => (hk_R a16 3).bind fun a19 => (f31 a13 a19 z11.1).bind fun z21 => (hk_R x0 2).bind fun a23 => (hk_R a23 1).bind fun a26 => (f49 a26 z21.1).bind fun z29 => (hk_R x0 2).bind fun a31 => (hk_R a31 1).bind fun a34 => (f46 a34 z29.1).bind fun z37 => (hk_R x0 2).bind fun a39 => (hk_R a39 1).bind fun a42 => if x1 = 0 then (f118_109 x0 x1 z37.2 (z37.1.1 a42 11) z37.1) else ((hk_R x0 15).bind fun a46 => (aI z37.1 a46 (1 : Int32)).bind fun v48 => (hk_R x0 15).bind fun a50 => (aI z37.1 a50 (0 : Int32)).bind fun v52 => if (v52 * (z37.1.1 a42 11)) ≤ (z37.2 * v48) then (f118_123 x0 x1 z37.2 (z37.1.1 a42 11) z37.1) else (f118_109 x0 x1 z37.2 (z37.1.1 a42 11) z37.1)))
set_option maxRecDepth 20000 in
theorem s118_15 {sc : Option (Nat × (Nat → Int32))} {x0 : Nat} {x1 : Int32} {s : xS} {o : xH × Option Value} {r : ((Int32 × xS) ⊕ (xS × Unit))} (k0 : oK x0 10 = true) (h : f118_15 x0 x1 s = some r) (hr : dn118_15 sc x0 o r) : Ev sc 4 118 [] 15 [some (.ref x0), some (.int x1), none, none] [] (hk_of s) o := by
  unfold f118_15 at h
  refine E_blk rfl ?_
  refine E_ps 2 (pc' := 17) (l' := [some (.ref x0), some (.int x1), none, none]) (st' := [.ref x0, .int x1]) rfl ?_
  refine E_gi k0 (by decide) rfl ?_
  by_cases c1 : (s.1 x0 10) ≤ x1
  · rw [if_pos c1] at h
    refine E_jt rfl rfl c1 ?_
    obtain ⟨r, h, hr⟩ := lf_some (Dn := dn118_15 sc x0 o) h hr
    refine E_blk rfl ?_
    cases h
    exact E_ret rfl (pg_mt_md (by decide)) rfl hr
  · rw [if_neg c1] at h
    refine E_jf rfl rfl c1 ?_
    refine E_blk rfl ?_
    refine E_ps 2 (pc' := 25) (l' := [some (.ref x0), some (.int x1), none, none]) (st' := [.ref x0, .ref x0]) rfl ?_
    obtain ⟨a2, e3, h⟩ := Option.bind_eq_some_iff.mp h
    refine E_gr k0 (by decide) rfl e3 ?_
    refine E_ps 1 (pc' := 29) (l' := [some (.ref x0), some (.int x1), none, none]) (st' := [.int x1, .ref a2, .ref x0]) rfl ?_
    obtain ⟨v4, e5, h⟩ := Option.bind_eq_some_iff.mp h
    refine E_ai e5 ?_
    refine E_ps 1 (pc' := 31) (l' := [some (.ref x0), some (.int x1), none, none]) (st' := [.ref x0, .int v4, .ref x0]) rfl ?_
    obtain ⟨a6, e7, h⟩ := Option.bind_eq_some_iff.mp h
    refine E_gr k0 (by decide) rfl e7 ?_
    have kf8 : oK a6 3 = true := hk_rty k0 e7 rfl (by decide)
    obtain ⟨a9, e10, h⟩ := Option.bind_eq_some_iff.mp h
    refine E_gr kf8 (by decide) rfl e10 ?_
    obtain ⟨z11, e12, h⟩ := Option.bind_eq_some_iff.mp h
    refine E_callV (vs := [.ref x0, .int v4, .ref a9]) (rest := []) rfl (by decide) rfl rfl (Nat.le_of_ble_eq_true rfl) (s115 e12) (by decide) ?_
    refine E_ps 1 (pc' := 41) (l' := [some (.ref x0), some (.int x1), none, none]) (st' := [.ref x0]) rfl ?_
    obtain ⟨a13, e14, h⟩ := Option.bind_eq_some_iff.mp h
    refine E_gr k0 (by decide) rfl e14 ?_
    have kf15 : oK a13 3 = true := hk_rty k0 e14 rfl (by decide)
    refine E_ps 1 (pc' := 45) (l' := [some (.ref x0), some (.int x1), none, none]) (st' := [.ref x0, .ref a13]) rfl ?_
    obtain ⟨a16, e17, h⟩ := Option.bind_eq_some_iff.mp h
    refine E_gr k0 (by decide) rfl e17 ?_
    have kf18 : oK a16 3 = true := hk_rty k0 e17 rfl (by decide)
    obtain ⟨a19, e20, h⟩ := Option.bind_eq_some_iff.mp h
    refine E_gr kf18 (by decide) rfl e20 ?_
    obtain ⟨z21, e22, h⟩ := Option.bind_eq_some_iff.mp h
    refine E_callV (vs := [.ref a13, .ref a19]) (rest := []) rfl (by decide) rfl rfl (Nat.le_of_ble_eq_true rfl) (s31 e22) (by decide) ?_
    refine E_ps 1 (pc' := 55) (l' := [some (.ref x0), some (.int x1), none, none]) (st' := [.ref x0]) rfl ?_
    obtain ⟨a23, e24, h⟩ := Option.bind_eq_some_iff.mp h
    refine E_gr k0 (by decide) rfl e24 ?_
    have kf25 : oK a23 3 = true := hk_rty k0 e24 rfl (by decide)
    obtain ⟨a26, e27, h⟩ := Option.bind_eq_some_iff.mp h
    refine E_gr kf25 (by decide) rfl e27 ?_
    have kf28 : oK a26 5 = true := hk_rty kf25 e27 rfl (by decide)
    obtain ⟨z29, e30, h⟩ := Option.bind_eq_some_iff.mp h
    refine E_callV (vs := [.ref a26]) (rest := []) rfl (by decide) rfl rfl (Nat.le_of_ble_eq_true rfl) (s49 e30) (by decide) ?_
    refine E_ps 1 (pc' := 65) (l' := [some (.ref x0), some (.int x1), none, none]) (st' := [.ref x0]) rfl ?_
    obtain ⟨a31, e32, h⟩ := Option.bind_eq_some_iff.mp h
    refine E_gr k0 (by decide) rfl e32 ?_
    have kf33 : oK a31 3 = true := hk_rty k0 e32 rfl (by decide)
    obtain ⟨a34, e35, h⟩ := Option.bind_eq_some_iff.mp h
    refine E_gr kf33 (by decide) rfl e35 ?_
    have kf36 : oK a34 5 = true := hk_rty kf33 e35 rfl (by decide)
    obtain ⟨z37, e38, h⟩ := Option.bind_eq_some_iff.mp h
    refine E_callI (vs := [.ref a34]) (rest := []) rfl (by decide) rfl rfl (Nat.le_of_ble_eq_true rfl) (s46 e38) (by decide) ?_
    refine E_ps 2 (pc' := 76) (l' := [some (.ref x0), some (.int x1), some (.int z37.2), none]) (st' := [.ref x0]) rfl ?_
    obtain ⟨a39, e40, h⟩ := Option.bind_eq_some_iff.mp h
    refine E_gr k0 (by decide) rfl e40 ?_
    have kf41 : oK a39 3 = true := hk_rty k0 e40 rfl (by decide)
    obtain ⟨a42, e43, h⟩ := Option.bind_eq_some_iff.mp h
    refine E_gr kf41 (by decide) rfl e43 ?_
    have kf44 : oK a42 5 = true := hk_rty kf41 e43 rfl (by decide)
    refine E_gi kf44 (by decide) rfl ?_
    refine E_ps 2 (pc' := 87) (l' := [some (.ref x0), some (.int x1), some (.int z37.2), some (.int (z37.1.1 a42 11))]) (st' := [.int x1]) rfl ?_
    by_cases c45 : x1 = 0
    · rw [if_pos c45] at h
      refine E_jt rfl rfl c45 ?_
      exact E_wk (l' := [some (.ref x0), some (.int x1), some (.int z37.2), some (.int (z37.1.1 a42 11))]) ⟨rfl, rfl, rfl, rfl, trivial⟩ (s118_109 k0 h hr)
    · rw [if_neg c45] at h
      refine E_jf rfl rfl c45 ?_
      refine E_blk rfl ?_
      refine E_ps 2 (pc' := 92) (l' := [some (.ref x0), some (.int x1), some (.int z37.2), some (.int (z37.1.1 a42 11))]) (st' := [.ref x0, .int z37.2]) rfl ?_
      obtain ⟨a46, e47, h⟩ := Option.bind_eq_some_iff.mp h
      refine E_gr k0 (by decide) rfl e47 ?_
      refine E_ps 1 (pc' := 96) (l' := [some (.ref x0), some (.int x1), some (.int z37.2), some (.int (z37.1.1 a42 11))]) (st' := [.int (1 : Int32), .ref a46, .int z37.2]) rfl ?_
      obtain ⟨v48, e49, h⟩ := Option.bind_eq_some_iff.mp h
      refine E_ai e49 ?_
      refine E_ps 2 (pc' := 99) (l' := [some (.ref x0), some (.int x1), some (.int z37.2), some (.int (z37.1.1 a42 11))]) (st' := [.ref x0, .int (z37.2 * v48)]) rfl ?_
      obtain ⟨a50, e51, h⟩ := Option.bind_eq_some_iff.mp h
      refine E_gr k0 (by decide) rfl e51 ?_
      refine E_ps 1 (pc' := 103) (l' := [some (.ref x0), some (.int x1), some (.int z37.2), some (.int (z37.1.1 a42 11))]) (st' := [.int (0 : Int32), .ref a50, .int (z37.2 * v48)]) rfl ?_
      obtain ⟨v52, e53, h⟩ := Option.bind_eq_some_iff.mp h
      refine E_ai e53 ?_
      refine E_ps 2 (pc' := 106) (l' := [some (.ref x0), some (.int x1), some (.int z37.2), some (.int (z37.1.1 a42 11))]) (st' := [.int (v52 * (z37.1.1 a42 11)), .int (z37.2 * v48)]) rfl ?_
      by_cases c54 : (v52 * (z37.1.1 a42 11)) ≤ (z37.2 * v48)
      · rw [if_pos c54] at h
        refine E_jt rfl rfl c54 ?_
        exact E_wk (l' := [some (.ref x0), some (.int x1), some (.int z37.2), some (.int (z37.1.1 a42 11))]) ⟨rfl, rfl, rfl, rfl, trivial⟩ (s118_123 k0 h hr)
      · rw [if_neg c54] at h
        refine E_jf rfl rfl c54 ?_
        exact E_wk (l' := [some (.ref x0), some (.int x1), some (.int z37.2), some (.int (z37.1.1 a42 11))]) ⟨rfl, rfl, rfl, rfl, trivial⟩ (s118_109 k0 h hr)
theorem s118_15_w {sc : Option (Nat × (Nat → Int32))} {x0 : Nat} {x1 : Int32} {s : xS} {o : xH × Option Value} {r : (xS × Unit)} (k0 : oK x0 10 = true) (h : whl (fun q : (Int32 × xS) => f118_15 x0 q.1 q.2) (x1, s) = some r) (hr : dn118 o r) : Ev sc 4 118 [] 15 [some (.ref x0), some (.int x1), none, none] [] (hk_of s) o := by
  refine whl_snd (E := fun q : (Int32 × xS) => Ev sc 4 118 [] 15 [some (.ref x0), some (.int q.1), none, none] [] (hk_of q.2) o) (P := fun r => dn118 o r) (fun q r h hr => ?_) h hr
  exact s118_15 k0 h (by cases r <;> exact hr)
noncomputable def f118 (x0 : Nat) (s : xS) : Option (xS × Unit) := ifg (oK x0 10 = true) <| if (s.1 x0 16) = 0 then ((pI s x0 16 (1 : Int32)).bind fun t2 => whl (fun q : (Int32 × xS) => f118_15 x0 q.1 q.2) ((0 : Int32), t2)) else (some (s, ()))
set_option maxRecDepth 20000 in
theorem s118 {sc : Option (Nat × (Nat → Int32))} {x0 : Nat} {s : xS} {r : xS × Unit} (h : f118 x0 s = some r) : Cl sc 4 118 [.ref x0] (hk_of s) (hk_of r.1, none) := by
  unfold f118 at h
  obtain ⟨k0, h⟩ := ifg_some h
  refine ⟨pg_md 118, [some (.ref x0), none, none, none], pg_mt_md (by decide), (hk_rcv k0), rfl, ?_⟩
  generalize ho : ((hk_of r.1, none) : xH × Option Value) = o
  have hr : dn118 o r := ho.symm
  refine E_blk rfl ?_
  refine E_ps 1 (pc' := 1) (l' := [some (.ref x0), none, none, none]) (st' := [.ref x0]) rfl ?_
  refine E_gi k0 (by decide) rfl ?_
  by_cases c1 : (s.1 x0 16) = 0
  · rw [if_pos c1] at h
    refine E_jt rfl rfl c1 ?_
    refine E_blk rfl ?_
    refine E_ps 2 (pc' := 10) (l' := [some (.ref x0), none, none, none]) (st' := [.int (1 : Int32), .ref x0]) rfl ?_
    obtain ⟨t2, e3, h⟩ := Option.bind_eq_some_iff.mp h
    refine E_pi k0 (by decide) rfl e3 ?_
    refine E_ps 2 (pc' := 15) (l' := [some (.ref x0), some (.int (0 : Int32)), none, none]) (st' := []) rfl ?_
    exact E_wk (l' := [some (.ref x0), some (.int (0 : Int32)), none, none]) ⟨rfl, rfl, trivial⟩ (s118_15_w k0 h hr)
  · rw [if_neg c1] at h
    refine E_jf rfl rfl c1 ?_
    refine E_blk rfl ?_
    cases h
    exact E_ret rfl (pg_mt_md (by decide)) rfl hr

-- 171: ThreePlates.lowest(JJI)J
def dn171 (o : xH × Option Value) (r : xS × Int64) : Prop := o = (hk_of r.1, some (.long r.2))
def dn171_15 (sc : Option (Nat × (Nat → Int32))) (x0 : Int64) (x2 : Int64) (x4 : Int32) (o : xH × Option Value) (r : ((Int64 × Int64 × Int32 × xS) ⊕ (xS × Int64))) : Prop := match r with
  | .inl q => Ev sc 1 171 [] 15 [some (.long x0), none, some (.long x2), none, some (.int x4), some (.long q.1), none, some (.long q.2.1), none, some (.int q.2.2.1), none, none] [] (hk_of q.2.2.2) o
  | .inr r => dn171 o r
noncomputable def f171_68 (y0 : Int64) (s : xS) : Option (xS × Int64) := some (s, y0)
set_option maxRecDepth 20000 in
theorem s171_68 {sc : Option (Nat × (Nat → Int32))} {y0 : Int64} {s : xS} {o : xH × Option Value} {r : (xS × Int64)}  (h : f171_68 y0 s = some r) (hr : dn171 o r) : Ev sc 1 171 [] 68 [none, none, none, none, none, none, none, none, none, none, none, none] [.long y0] (hk_of s) o := by
  unfold f171_68 at h
  refine E_blk rfl ?_
  cases h
  exact E_ret rfl (pg_mt_md (by decide)) rfl hr
noncomputable def f171_85 (y0 : Int64) (s : xS) : Option (xS × Int64) := some (s, y0)
set_option maxRecDepth 20000 in
theorem s171_85 {sc : Option (Nat × (Nat → Int32))} {y0 : Int64} {s : xS} {o : xH × Option Value} {r : (xS × Int64)}  (h : f171_85 y0 s = some r) (hr : dn171 o r) : Ev sc 1 171 [] 85 [none, none, none, none, none, none, none, none, none, none, none, none] [.long y0] (hk_of s) o := by
  unfold f171_85 at h
  refine E_blk rfl ?_
  cases h
  exact E_ret rfl (pg_mt_md (by decide)) rfl hr
noncomputable def f171_51 (x0 : Int64) (x2 : Int64) (x4 : Int32) (x5 : Int64) (s : xS) : Option (xS × Int64) := if (lg_cmp x5 (0 : Int64)) = 0 then (if x4 = 0 then (f171_68 x0 s) else (f171_68 x2 s)) else (if x4 = 0 then (ifg (¬ x5 = 0) <| f171_85 (x0 / x5) s) else (ifg (¬ x5 = 0) <| f171_85 (x2 / x5) s))
set_option maxRecDepth 20000 in
theorem s171_51 {sc : Option (Nat × (Nat → Int32))} {x0 : Int64} {x2 : Int64} {x4 : Int32} {x5 : Int64} {s : xS} {o : xH × Option Value} {r : (xS × Int64)}  (h : f171_51 x0 x2 x4 x5 s = some r) (hr : dn171 o r) : Ev sc 1 171 [] 51 [some (.long x0), none, some (.long x2), none, some (.int x4), some (.long x5), none, none, none, none, none, none] [] (hk_of s) o := by
  unfold f171_51 at h
  refine E_blk rfl ?_
  refine E_ps 3 (pc' := 55) (l' := [some (.long x0), none, some (.long x2), none, some (.int x4), some (.long x5), none, none, none, none, none, none]) (st' := [.int (lg_cmp x5 (0 : Int64))]) rfl ?_
  by_cases c1 : (lg_cmp x5 (0 : Int64)) = 0
  · rw [if_pos c1] at h
    refine E_jt rfl rfl c1 ?_
    refine E_blk rfl ?_
    refine E_ps 1 (pc' := 60) (l' := [some (.long x0), none, some (.long x2), none, some (.int x4), some (.long x5), none, none, none, none, none, none]) (st' := [.int x4]) rfl ?_
    by_cases c2 : x4 = 0
    · rw [if_pos c2] at h
      refine E_jt rfl rfl c2 ?_
      refine E_blk rfl ?_
      refine E_ps 1 (pc' := 64) (l' := [some (.long x0), none, some (.long x2), none, some (.int x4), some (.long x5), none, none, none, none, none, none]) (st' := [.long x0]) rfl ?_
      refine E_j rfl rfl ?_
      exact E_wk (l' := [none, none, none, none, none, none, none, none, none, none, none, none]) trivial (s171_68  h hr)
    · rw [if_neg c2] at h
      refine E_jf rfl rfl c2 ?_
      refine E_blk rfl ?_
      refine E_ps 1 (pc' := 68) (l' := [some (.long x0), none, some (.long x2), none, some (.int x4), some (.long x5), none, none, none, none, none, none]) (st' := [.long x2]) rfl ?_
      exact E_wk (l' := [none, none, none, none, none, none, none, none, none, none, none, none]) trivial (s171_68  h hr)
  · rw [if_neg c1] at h
    refine E_jf rfl rfl c1 ?_
    refine E_blk rfl ?_
    refine E_ps 1 (pc' := 71) (l' := [some (.long x0), none, some (.long x2), none, some (.int x4), some (.long x5), none, none, none, none, none, none]) (st' := [.int x4]) rfl ?_
    by_cases c3 : x4 = 0
    · rw [if_pos c3] at h
      refine E_jt rfl rfl c3 ?_
      refine E_blk rfl ?_
      refine E_ps 2 (pc' := 77) (l' := [some (.long x0), none, some (.long x2), none, some (.int x4), some (.long x5), none, none, none, none, none, none]) (st' := [.long x5, .long x0]) rfl ?_
      obtain ⟨g4, h⟩ := ifg_some h
      refine E_ldiv g4 ?_
      refine E_j rfl rfl ?_
      exact E_wk (l' := [none, none, none, none, none, none, none, none, none, none, none, none]) trivial (s171_85  h hr)
    · rw [if_neg c3] at h
      refine E_jf rfl rfl c3 ?_
      refine E_blk rfl ?_
      refine E_ps 2 (pc' := 84) (l' := [some (.long x0), none, some (.long x2), none, some (.int x4), some (.long x5), none, none, none, none, none, none]) (st' := [.long x5, .long x2]) rfl ?_
      obtain ⟨g5, h⟩ := ifg_some h
      refine E_ldiv g5 ?_
      exact E_wk (l' := [none, none, none, none, none, none, none, none, none, none, none, none]) trivial (s171_85  h hr)
noncomputable def f171_15 (x0 : Int64) (x2 : Int64) (x4 : Int32) (x5 : Int64) (x7 : Int64) (x9 : Int32) (s : xS) : Option ((Int64 × Int64 × Int32 × xS) ⊕ (xS × Int64)) := if (200 : Int32) ≤ x9 then (Option.map Sum.inr (f171_51 x0 x2 x4 x5 s)) else (if (lg_cmp x7 (0 : Int64)) = 0 then (Option.map Sum.inr (f171_51 x0 x2 x4 x5 s)) else (ifg (¬ x7 = 0) <| some (Sum.inl (x7, (lrm x5 x7), (x9 + (1 : Int32)), s))))
set_option maxRecDepth 20000 in
theorem s171_15 {sc : Option (Nat × (Nat → Int32))} {x0 : Int64} {x2 : Int64} {x4 : Int32} {x5 : Int64} {x7 : Int64} {x9 : Int32} {s : xS} {o : xH × Option Value} {r : ((Int64 × Int64 × Int32 × xS) ⊕ (xS × Int64))}  (h : f171_15 x0 x2 x4 x5 x7 x9 s = some r) (hr : dn171_15 sc x0 x2 x4 o r) : Ev sc 1 171 [] 15 [some (.long x0), none, some (.long x2), none, some (.int x4), some (.long x5), none, some (.long x7), none, some (.int x9), none, none] [] (hk_of s) o := by
  unfold f171_15 at h
  refine E_blk rfl ?_
  refine E_ps 2 (pc' := 20) (l' := [some (.long x0), none, some (.long x2), none, some (.int x4), some (.long x5), none, some (.long x7), none, some (.int x9), none, none]) (st' := [.int (200 : Int32), .int x9]) rfl ?_
  by_cases c1 : (200 : Int32) ≤ x9
  · rw [if_pos c1] at h
    refine E_jt rfl rfl c1 ?_
    obtain ⟨r, h, hr⟩ := lf_some (Dn := dn171_15 sc x0 x2 x4 o) h hr
    exact E_wk (l' := [some (.long x0), none, some (.long x2), none, some (.int x4), some (.long x5), none, none, none, none, none, none]) ⟨rfl, rfl, rfl, rfl, trivial⟩ (s171_51  h hr)
  · rw [if_neg c1] at h
    refine E_jf rfl rfl c1 ?_
    refine E_blk rfl ?_
    refine E_ps 3 (pc' := 27) (l' := [some (.long x0), none, some (.long x2), none, some (.int x4), some (.long x5), none, some (.long x7), none, some (.int x9), none, none]) (st' := [.int (lg_cmp x7 (0 : Int64))]) rfl ?_
    by_cases c2 : (lg_cmp x7 (0 : Int64)) = 0
    · rw [if_pos c2] at h
      refine E_jt rfl rfl c2 ?_
      obtain ⟨r, h, hr⟩ := lf_some (Dn := dn171_15 sc x0 x2 x4 o) h hr
      exact E_wk (l' := [some (.long x0), none, some (.long x2), none, some (.int x4), some (.long x5), none, none, none, none, none, none]) ⟨rfl, rfl, rfl, rfl, trivial⟩ (s171_51  h hr)
    · rw [if_neg c2] at h
      refine E_jf rfl rfl c2 ?_
      refine E_blk rfl ?_
      refine E_ps 2 (pc' := 34) (l' := [some (.long x0), none, some (.long x2), none, some (.int x4), some (.long x5), none, some (.long x7), none, some (.int x9), none, none]) (st' := [.long x7, .long x5]) rfl ?_
      obtain ⟨g3, h⟩ := ifg_some h
      refine E_lrem g3 ?_
      refine E_ps 6 (pc' := 48) (l' := [some (.long x0), none, some (.long x2), none, some (.int x4), some (.long x7), none, some (.long (lrm x5 x7)), none, some (.int (x9 + (1 : Int32))), some (.long (lrm x5 x7)), none]) (st' := []) rfl ?_
      refine E_j rfl rfl ?_
      cases h
      exact E_wk (l' := [some (.long x0), none, some (.long x2), none, some (.int x4), some (.long x7), none, some (.long (lrm x5 x7)), none, some (.int (x9 + (1 : Int32))), none, none]) ⟨rfl, rfl, rfl, rfl, rfl, rfl, trivial⟩ hr
theorem s171_15_w {sc : Option (Nat × (Nat → Int32))} {x0 : Int64} {x2 : Int64} {x4 : Int32} {x5 : Int64} {x7 : Int64} {x9 : Int32} {s : xS} {o : xH × Option Value} {r : (xS × Int64)}  (h : whl (fun q : (Int64 × Int64 × Int32 × xS) => f171_15 x0 x2 x4 q.1 q.2.1 q.2.2.1 q.2.2.2) (x5, x7, x9, s) = some r) (hr : dn171 o r) : Ev sc 1 171 [] 15 [some (.long x0), none, some (.long x2), none, some (.int x4), some (.long x5), none, some (.long x7), none, some (.int x9), none, none] [] (hk_of s) o := by
  refine whl_snd (E := fun q : (Int64 × Int64 × Int32 × xS) => Ev sc 1 171 [] 15 [some (.long x0), none, some (.long x2), none, some (.int x4), some (.long q.1), none, some (.long q.2.1), none, some (.int q.2.2.1), none, none] [] (hk_of q.2.2.2) o) (P := fun r => dn171 o r) (fun q r h hr => ?_) h hr
  exact s171_15  h (by cases r <;> exact hr)
noncomputable def f171 (x0 : Int64) (x2 : Int64) (x4 : Int32) (s : xS) : Option (xS × Int64) :=  whl (fun q : (Int64 × Int64 × Int32 × xS) => f171_15 x0 x2 x4 q.1 q.2.1 q.2.2.1 q.2.2.2) ((if 0 < x0 then x0 else -x0), (if 0 < x2 then x2 else -x2), (0 : Int32), s)
set_option maxRecDepth 20000 in
theorem s171 {sc : Option (Nat × (Nat → Int32))} {x0 : Int64} {x2 : Int64} {x4 : Int32} {s : xS} {r : xS × Int64} (h : f171 x0 x2 x4 s = some r) : Cl sc 1 171 [.long x0, .long x2, .int x4] (hk_of s) (hk_of r.1, some (.long r.2)) := by
  unfold f171 at h
  refine ⟨pg_md 171, [some (.long x0), none, some (.long x2), none, some (.int x4), none, none, none, none, none, none, none], pg_mt_md (by decide), rfl, rfl, ?_⟩
  generalize ho : ((hk_of r.1, some (Value.long r.2)) : xH × Option Value) = o
  have hr : dn171 o r := ho.symm
  refine E_blk rfl ?_
  refine E_ps 1 (pc' := 1) (l' := [some (.long x0), none, some (.long x2), none, some (.int x4), none, none, none, none, none, none, none]) (st' := [.long x0]) rfl ?_
  refine E_ma (st' := [.long (if 0 < x0 then x0 else -x0)]) rfl (by decide) rfl ?_
  refine E_ps 2 (pc' := 7) (l' := [some (.long x0), none, some (.long x2), none, some (.int x4), some (.long (if 0 < x0 then x0 else -x0)), none, none, none, none, none, none]) (st' := [.long x2]) rfl ?_
  refine E_ma (st' := [.long (if 0 < x2 then x2 else -x2)]) rfl (by decide) rfl ?_
  refine E_ps 3 (pc' := 15) (l' := [some (.long x0), none, some (.long x2), none, some (.int x4), some (.long (if 0 < x0 then x0 else -x0)), none, some (.long (if 0 < x2 then x2 else -x2)), none, some (.int (0 : Int32)), none, none]) (st' := []) rfl ?_
  exact E_wk (l' := [some (.long x0), none, some (.long x2), none, some (.int x4), some (.long (if 0 < x0 then x0 else -x0)), none, some (.long (if 0 < x2 then x2 else -x2)), none, some (.int (0 : Int32)), none, none]) ⟨rfl, rfl, rfl, rfl, rfl, rfl, trivial⟩ (s171_15_w  h hr)

-- 116: ThreePlates$Worlds.leastOff(I)I
def dn116 (o : xH × Option Value) (r : xS × Int32) : Prop := o = (hk_of r.1, some (.int r.2))
noncomputable def f116 (x0 : Nat) (x1 : Int32) (s : xS) : Option (xS × Int32) := ifg (oK x0 10 = true) <| (f118 x0 s).bind fun z1 => (hk_R x0 15).bind fun a3 => (aI z1.1 a3 (0 : Int32)).bind fun v5 => (hk_R x0 15).bind fun a7 => (aI z1.1 a7 (1 : Int32)).bind fun v9 => (f171 v5.toInt64 v9.toInt64 x1 z1.1).bind fun z11 => some (z11.1, (z11.2).toInt32)
set_option maxRecDepth 20000 in
theorem s116 {sc : Option (Nat × (Nat → Int32))} {x0 : Nat} {x1 : Int32} {s : xS} {r : xS × Int32} (h : f116 x0 x1 s = some r) : Cl sc 5 116 [.ref x0, .int x1] (hk_of s) (hk_of r.1, some (.int r.2)) := by
  unfold f116 at h
  obtain ⟨k0, h⟩ := ifg_some h
  refine ⟨pg_md 116, [some (.ref x0), some (.int x1)], pg_mt_md (by decide), (hk_rcv k0), rfl, ?_⟩
  generalize ho : ((hk_of r.1, some (Value.int r.2)) : xH × Option Value) = o
  have hr : dn116 o r := ho.symm
  refine E_blk rfl ?_
  refine E_ps 1 (pc' := 1) (l' := [some (.ref x0), some (.int x1)]) (st' := [.ref x0]) rfl ?_
  obtain ⟨z1, e2, h⟩ := Option.bind_eq_some_iff.mp h
  refine E_callV (vs := [.ref x0]) (rest := []) rfl (by decide) rfl rfl (Nat.le_of_ble_eq_true rfl) (s118 e2) (by decide) ?_
  refine E_ps 1 (pc' := 5) (l' := [some (.ref x0), some (.int x1)]) (st' := [.ref x0]) rfl ?_
  obtain ⟨a3, e4, h⟩ := Option.bind_eq_some_iff.mp h
  refine E_gr k0 (by decide) rfl e4 ?_
  refine E_ps 1 (pc' := 9) (l' := [some (.ref x0), some (.int x1)]) (st' := [.int (0 : Int32), .ref a3]) rfl ?_
  obtain ⟨v5, e6, h⟩ := Option.bind_eq_some_iff.mp h
  refine E_ai e6 ?_
  refine E_ps 2 (pc' := 12) (l' := [some (.ref x0), some (.int x1)]) (st' := [.ref x0, .long v5.toInt64]) rfl ?_
  obtain ⟨a7, e8, h⟩ := Option.bind_eq_some_iff.mp h
  refine E_gr k0 (by decide) rfl e8 ?_
  refine E_ps 1 (pc' := 16) (l' := [some (.ref x0), some (.int x1)]) (st' := [.int (1 : Int32), .ref a7, .long v5.toInt64]) rfl ?_
  obtain ⟨v9, e10, h⟩ := Option.bind_eq_some_iff.mp h
  refine E_ai e10 ?_
  refine E_ps 2 (pc' := 19) (l' := [some (.ref x0), some (.int x1)]) (st' := [.int x1, .long v9.toInt64, .long v5.toInt64]) rfl ?_
  obtain ⟨z11, e12, h⟩ := Option.bind_eq_some_iff.mp h
  refine E_callL (vs := [.long v5.toInt64, .long v9.toInt64, .int x1]) (rest := []) rfl (by decide) rfl rfl (Nat.le_of_ble_eq_true rfl) (s171 e12) (by decide) ?_
  refine E_ps 1 (pc' := 23) (l' := [some (.ref x0), some (.int x1)]) (st' := [.int (z11.2).toInt32]) rfl ?_
  cases h
  exact E_ret rfl (pg_mt_md (by decide)) rfl hr

-- 117: ThreePlates$Worlds.mostOff(I)I
def dn117 (o : xH × Option Value) (r : xS × Int32) : Prop := o = (hk_of r.1, some (.int r.2))
noncomputable def f117 (x0 : Nat) (x1 : Int32) (s : xS) : Option (xS × Int32) := ifg (oK x0 10 = true) <| (f118 x0 s).bind fun z1 => (hk_R x0 15).bind fun a3 => (aI z1.1 a3 (2 : Int32)).bind fun v5 => (hk_R x0 15).bind fun a7 => (aI z1.1 a7 (3 : Int32)).bind fun v9 => (f171 v5.toInt64 v9.toInt64 x1 z1.1).bind fun z11 => some (z11.1, (z11.2).toInt32)
set_option maxRecDepth 20000 in
theorem s117 {sc : Option (Nat × (Nat → Int32))} {x0 : Nat} {x1 : Int32} {s : xS} {r : xS × Int32} (h : f117 x0 x1 s = some r) : Cl sc 5 117 [.ref x0, .int x1] (hk_of s) (hk_of r.1, some (.int r.2)) := by
  unfold f117 at h
  obtain ⟨k0, h⟩ := ifg_some h
  refine ⟨pg_md 117, [some (.ref x0), some (.int x1)], pg_mt_md (by decide), (hk_rcv k0), rfl, ?_⟩
  generalize ho : ((hk_of r.1, some (Value.int r.2)) : xH × Option Value) = o
  have hr : dn117 o r := ho.symm
  refine E_blk rfl ?_
  refine E_ps 1 (pc' := 1) (l' := [some (.ref x0), some (.int x1)]) (st' := [.ref x0]) rfl ?_
  obtain ⟨z1, e2, h⟩ := Option.bind_eq_some_iff.mp h
  refine E_callV (vs := [.ref x0]) (rest := []) rfl (by decide) rfl rfl (Nat.le_of_ble_eq_true rfl) (s118 e2) (by decide) ?_
  refine E_ps 1 (pc' := 5) (l' := [some (.ref x0), some (.int x1)]) (st' := [.ref x0]) rfl ?_
  obtain ⟨a3, e4, h⟩ := Option.bind_eq_some_iff.mp h
  refine E_gr k0 (by decide) rfl e4 ?_
  refine E_ps 1 (pc' := 9) (l' := [some (.ref x0), some (.int x1)]) (st' := [.int (2 : Int32), .ref a3]) rfl ?_
  obtain ⟨v5, e6, h⟩ := Option.bind_eq_some_iff.mp h
  refine E_ai e6 ?_
  refine E_ps 2 (pc' := 12) (l' := [some (.ref x0), some (.int x1)]) (st' := [.ref x0, .long v5.toInt64]) rfl ?_
  obtain ⟨a7, e8, h⟩ := Option.bind_eq_some_iff.mp h
  refine E_gr k0 (by decide) rfl e8 ?_
  refine E_ps 1 (pc' := 16) (l' := [some (.ref x0), some (.int x1)]) (st' := [.int (3 : Int32), .ref a7, .long v5.toInt64]) rfl ?_
  obtain ⟨v9, e10, h⟩ := Option.bind_eq_some_iff.mp h
  refine E_ai e10 ?_
  refine E_ps 2 (pc' := 19) (l' := [some (.ref x0), some (.int x1)]) (st' := [.int x1, .long v9.toInt64, .long v5.toInt64]) rfl ?_
  obtain ⟨z11, e12, h⟩ := Option.bind_eq_some_iff.mp h
  refine E_callL (vs := [.long v5.toInt64, .long v9.toInt64, .int x1]) (rest := []) rfl (by decide) rfl rfl (Nat.le_of_ble_eq_true rfl) (s171 e12) (by decide) ?_
  refine E_ps 1 (pc' := 23) (l' := [some (.ref x0), some (.int x1)]) (st' := [.int (z11.2).toInt32]) rfl ?_
  cases h
  exact E_ret rfl (pg_mt_md (by decide)) rfl hr

-- 122: ThreePlates$Worlds.isAmongSets(II)Z
def dn122 (o : xH × Option Value) (r : xS × Int32) : Prop := o = (hk_of r.1, some (.int r.2))
def dn122_2 (sc : Option (Nat × (Nat → Int32))) (x0 : Nat) (x1 : Int32) (x2 : Int32) (o : xH × Option Value) (r : ((Int32 × xS) ⊕ (xS × Int32))) : Prop := match r with
  | .inl q => Ev sc 1 122 [] 2 [some (.ref x0), some (.int x1), some (.int x2), some (.int q.1)] [] (hk_of q.2) o
  | .inr r => dn122 o r
noncomputable def f122_2 (x0 : Nat) (x1 : Int32) (x2 : Int32) (x3 : Int32) (s : xS) : Option ((Int32 × xS) ⊕ (xS × Int32)) := if x2 ≤ x3 then (Option.map Sum.inr (some (s, (0 : Int32)))) else ((hk_R x0 12).bind fun a2 => (aI s a2 x3).bind fun v4 => if v4 = x1 then (Option.map Sum.inr (some (s, (1 : Int32)))) else (some (Sum.inl ((x3 + (1 : Int32)), s))))
set_option maxRecDepth 20000 in
theorem s122_2 {sc : Option (Nat × (Nat → Int32))} {x0 : Nat} {x1 : Int32} {x2 : Int32} {x3 : Int32} {s : xS} {o : xH × Option Value} {r : ((Int32 × xS) ⊕ (xS × Int32))} (k0 : oK x0 10 = true) (h : f122_2 x0 x1 x2 x3 s = some r) (hr : dn122_2 sc x0 x1 x2 o r) : Ev sc 1 122 [] 2 [some (.ref x0), some (.int x1), some (.int x2), some (.int x3)] [] (hk_of s) o := by
  unfold f122_2 at h
  refine E_blk rfl ?_
  refine E_ps 2 (pc' := 4) (l' := [some (.ref x0), some (.int x1), some (.int x2), some (.int x3)]) (st' := [.int x2, .int x3]) rfl ?_
  by_cases c1 : x2 ≤ x3
  · rw [if_pos c1] at h
    refine E_jt rfl rfl c1 ?_
    obtain ⟨r, h, hr⟩ := lf_some (Dn := dn122_2 sc x0 x1 x2 o) h hr
    refine E_blk rfl ?_
    refine E_ps 1 (pc' := 26) (l' := [some (.ref x0), some (.int x1), some (.int x2), some (.int x3)]) (st' := [.int (0 : Int32)]) rfl ?_
    cases h
    exact E_ret rfl (pg_mt_md (by decide)) rfl hr
  · rw [if_neg c1] at h
    refine E_jf rfl rfl c1 ?_
    refine E_blk rfl ?_
    refine E_ps 1 (pc' := 8) (l' := [some (.ref x0), some (.int x1), some (.int x2), some (.int x3)]) (st' := [.ref x0]) rfl ?_
    obtain ⟨a2, e3, h⟩ := Option.bind_eq_some_iff.mp h
    refine E_gr k0 (by decide) rfl e3 ?_
    refine E_ps 1 (pc' := 12) (l' := [some (.ref x0), some (.int x1), some (.int x2), some (.int x3)]) (st' := [.int x3, .ref a2]) rfl ?_
    obtain ⟨v4, e5, h⟩ := Option.bind_eq_some_iff.mp h
    refine E_ai e5 ?_
    refine E_ps 1 (pc' := 14) (l' := [some (.ref x0), some (.int x1), some (.int x2), some (.int x3)]) (st' := [.int x1, .int v4]) rfl ?_
    by_cases c6 : v4 = x1
    · rw [if_pos c6] at h
      refine E_jt rfl rfl c6 ?_
      obtain ⟨r, h, hr⟩ := lf_some (Dn := dn122_2 sc x0 x1 x2 o) h hr
      refine E_blk rfl ?_
      refine E_ps 1 (pc' := 18) (l' := [some (.ref x0), some (.int x1), some (.int x2), some (.int x3)]) (st' := [.int (1 : Int32)]) rfl ?_
      cases h
      exact E_ret rfl (pg_mt_md (by decide)) rfl hr
    · rw [if_neg c6] at h
      refine E_jf rfl rfl c6 ?_
      refine E_blk rfl ?_
      refine E_ps 1 (pc' := 22) (l' := [some (.ref x0), some (.int x1), some (.int x2), some (.int (x3 + (1 : Int32)))]) (st' := []) rfl ?_
      refine E_j rfl rfl ?_
      cases h
      exact E_wk (l' := [some (.ref x0), some (.int x1), some (.int x2), some (.int (x3 + (1 : Int32)))]) ⟨rfl, rfl, rfl, rfl, trivial⟩ hr
theorem s122_2_w {sc : Option (Nat × (Nat → Int32))} {x0 : Nat} {x1 : Int32} {x2 : Int32} {x3 : Int32} {s : xS} {o : xH × Option Value} {r : (xS × Int32)} (k0 : oK x0 10 = true) (h : whl (fun q : (Int32 × xS) => f122_2 x0 x1 x2 q.1 q.2) (x3, s) = some r) (hr : dn122 o r) : Ev sc 1 122 [] 2 [some (.ref x0), some (.int x1), some (.int x2), some (.int x3)] [] (hk_of s) o := by
  refine whl_snd (E := fun q : (Int32 × xS) => Ev sc 1 122 [] 2 [some (.ref x0), some (.int x1), some (.int x2), some (.int q.1)] [] (hk_of q.2) o) (P := fun r => dn122 o r) (fun q r h hr => ?_) h hr
  exact s122_2 k0 h (by cases r <;> exact hr)
noncomputable def f122 (x0 : Nat) (x1 : Int32) (x2 : Int32) (s : xS) : Option (xS × Int32) := ifg (oK x0 10 = true) <| whl (fun q : (Int32 × xS) => f122_2 x0 x1 x2 q.1 q.2) ((0 : Int32), s)
set_option maxRecDepth 20000 in
theorem s122 {sc : Option (Nat × (Nat → Int32))} {x0 : Nat} {x1 : Int32} {x2 : Int32} {s : xS} {r : xS × Int32} (h : f122 x0 x1 x2 s = some r) : Cl sc 1 122 [.ref x0, .int x1, .int x2] (hk_of s) (hk_of r.1, some (.int r.2)) := by
  unfold f122 at h
  obtain ⟨k0, h⟩ := ifg_some h
  refine ⟨pg_md 122, [some (.ref x0), some (.int x1), some (.int x2), none], pg_mt_md (by decide), (hk_rcv k0), rfl, ?_⟩
  generalize ho : ((hk_of r.1, some (Value.int r.2)) : xH × Option Value) = o
  have hr : dn122 o r := ho.symm
  refine E_blk rfl ?_
  refine E_ps 2 (pc' := 2) (l' := [some (.ref x0), some (.int x1), some (.int x2), some (.int (0 : Int32))]) (st' := []) rfl ?_
  exact E_wk (l' := [some (.ref x0), some (.int x1), some (.int x2), some (.int (0 : Int32))]) ⟨rfl, rfl, rfl, rfl, trivial⟩ (s122_2_w k0 h hr)

-- 121: ThreePlates$Worlds.countUnlike(II)I
def dn121 (o : xH × Option Value) (r : xS × Int32) : Prop := o = (hk_of r.1, some (.int r.2))
def dn121_37 (sc : Option (Nat × (Nat → Int32))) (x0 : Nat) (o : xH × Option Value) (r : ((Int32 × Int32 × xS) ⊕ (xS × Int32))) : Prop := match r with
  | .inl q => Ev sc 5 121 [] 37 [some (.ref x0), none, none, some (.int q.1), some (.int q.2.1), none] [] (hk_of q.2.2) o
  | .inr r => dn121 o r
noncomputable def f121_80 (x0 : Nat) (x3 : Int32) (x4 : Int32) (s : xS) : Option ((Int32 × Int32 × xS) ⊕ (xS × Int32)) := some (Sum.inl (x3, (x4 + (1 : Int32)), s))
set_option maxRecDepth 20000 in
theorem s121_80 {sc : Option (Nat × (Nat → Int32))} {x0 : Nat} {x3 : Int32} {x4 : Int32} {s : xS} {o : xH × Option Value} {r : ((Int32 × Int32 × xS) ⊕ (xS × Int32))} (k0 : oK x0 10 = true) (h : f121_80 x0 x3 x4 s = some r) (hr : dn121_37 sc x0 o r) : Ev sc 5 121 [] 80 [some (.ref x0), none, none, some (.int x3), some (.int x4), none] [] (hk_of s) o := by
  unfold f121_80 at h
  refine E_blk rfl ?_
  refine E_ps 1 (pc' := 83) (l' := [some (.ref x0), none, none, some (.int x3), some (.int (x4 + (1 : Int32))), none]) (st' := []) rfl ?_
  refine E_j rfl rfl ?_
  cases h
  exact E_wk (l' := [some (.ref x0), none, none, some (.int x3), some (.int (x4 + (1 : Int32))), none]) ⟨rfl, rfl, rfl, trivial⟩ hr
noncomputable def f121_37 (x0 : Nat) (x3 : Int32) (x4 : Int32) (s : xS) : Option ((Int32 × Int32 × xS) ⊕ (xS × Int32)) := if (s.1 x0 10) ≤ x4 then (Option.map Sum.inr (some (s, x3))) else ((hk_R x0 9).bind fun a2 => (aI s a2 x4).bind fun v4 => (f114 x0 v4 s).bind fun z6 => (f122 x0 z6.2 x3 z6.1).bind fun z8 => if z8.2 = 0 then ((hk_R x0 12).bind fun a11 => (wI z8.1 a11 x3 z6.2).bind fun t13 => f121_80 x0 (x3 + (1 : Int32)) x4 t13) else (f121_80 x0 x3 x4 z8.1))
set_option maxRecDepth 20000 in
theorem s121_37 {sc : Option (Nat × (Nat → Int32))} {x0 : Nat} {x3 : Int32} {x4 : Int32} {s : xS} {o : xH × Option Value} {r : ((Int32 × Int32 × xS) ⊕ (xS × Int32))} (k0 : oK x0 10 = true) (h : f121_37 x0 x3 x4 s = some r) (hr : dn121_37 sc x0 o r) : Ev sc 5 121 [] 37 [some (.ref x0), none, none, some (.int x3), some (.int x4), none] [] (hk_of s) o := by
  unfold f121_37 at h
  refine E_blk rfl ?_
  refine E_ps 2 (pc' := 40) (l' := [some (.ref x0), none, none, some (.int x3), some (.int x4), none]) (st' := [.ref x0, .int x4]) rfl ?_
  refine E_gi k0 (by decide) rfl ?_
  by_cases c1 : (s.1 x0 10) ≤ x4
  · rw [if_pos c1] at h
    refine E_jt rfl rfl c1 ?_
    obtain ⟨r, h, hr⟩ := lf_some (Dn := dn121_37 sc x0 o) h hr
    refine E_blk rfl ?_
    refine E_ps 1 (pc' := 87) (l' := [some (.ref x0), none, none, some (.int x3), some (.int x4), none]) (st' := [.int x3]) rfl ?_
    cases h
    exact E_ret rfl (pg_mt_md (by decide)) rfl hr
  · rw [if_neg c1] at h
    refine E_jf rfl rfl c1 ?_
    refine E_blk rfl ?_
    refine E_ps 2 (pc' := 48) (l' := [some (.ref x0), none, none, some (.int x3), some (.int x4), none]) (st' := [.ref x0, .ref x0]) rfl ?_
    obtain ⟨a2, e3, h⟩ := Option.bind_eq_some_iff.mp h
    refine E_gr k0 (by decide) rfl e3 ?_
    refine E_ps 1 (pc' := 53) (l' := [some (.ref x0), none, none, some (.int x3), some (.int x4), none]) (st' := [.int x4, .ref a2, .ref x0]) rfl ?_
    obtain ⟨v4, e5, h⟩ := Option.bind_eq_some_iff.mp h
    refine E_ai e5 ?_
    obtain ⟨z6, e7, h⟩ := Option.bind_eq_some_iff.mp h
    refine E_callI (vs := [.ref x0, .int v4]) (rest := []) rfl (by decide) rfl rfl (Nat.le_of_ble_eq_true rfl) (s114 e7) (by decide) ?_
    refine E_ps 4 (pc' := 63) (l' := [some (.ref x0), none, none, some (.int x3), some (.int x4), some (.int z6.2)]) (st' := [.int x3, .int z6.2, .ref x0]) rfl ?_
    obtain ⟨z8, e9, h⟩ := Option.bind_eq_some_iff.mp h
    refine E_callI (vs := [.ref x0, .int z6.2, .int x3]) (rest := []) rfl (by decide) rfl rfl (Nat.le_of_ble_eq_true rfl) (s122 e9) (by decide) ?_
    by_cases c10 : z8.2 = 0
    · rw [if_pos c10] at h
      refine E_jt rfl rfl c10 ?_
      refine E_blk rfl ?_
      refine E_ps 1 (pc' := 70) (l' := [some (.ref x0), none, none, some (.int x3), some (.int x4), some (.int z6.2)]) (st' := [.ref x0]) rfl ?_
      obtain ⟨a11, e12, h⟩ := Option.bind_eq_some_iff.mp h
      refine E_gr k0 (by decide) rfl e12 ?_
      refine E_ps 2 (pc' := 76) (l' := [some (.ref x0), none, none, some (.int x3), some (.int x4), some (.int z6.2)]) (st' := [.int z6.2, .int x3, .ref a11]) rfl ?_
      obtain ⟨t13, e14, h⟩ := Option.bind_eq_some_iff.mp h
      refine E_wi e14 ?_
      refine E_ps 1 (pc' := 80) (l' := [some (.ref x0), none, none, some (.int (x3 + (1 : Int32))), some (.int x4), some (.int z6.2)]) (st' := []) rfl ?_
      exact E_wk (l' := [some (.ref x0), none, none, some (.int (x3 + (1 : Int32))), some (.int x4), none]) ⟨rfl, rfl, rfl, trivial⟩ (s121_80 k0 h hr)
    · rw [if_neg c10] at h
      refine E_jf rfl rfl c10 ?_
      exact E_wk (l' := [some (.ref x0), none, none, some (.int x3), some (.int x4), none]) ⟨rfl, rfl, rfl, trivial⟩ (s121_80 k0 h hr)
theorem s121_37_w {sc : Option (Nat × (Nat → Int32))} {x0 : Nat} {x3 : Int32} {x4 : Int32} {s : xS} {o : xH × Option Value} {r : (xS × Int32)} (k0 : oK x0 10 = true) (h : whl (fun q : (Int32 × Int32 × xS) => f121_37 x0 q.1 q.2.1 q.2.2) (x3, x4, s) = some r) (hr : dn121 o r) : Ev sc 5 121 [] 37 [some (.ref x0), none, none, some (.int x3), some (.int x4), none] [] (hk_of s) o := by
  refine whl_snd (E := fun q : (Int32 × Int32 × xS) => Ev sc 5 121 [] 37 [some (.ref x0), none, none, some (.int q.1), some (.int q.2.1), none] [] (hk_of q.2.2) o) (P := fun r => dn121 o r) (fun q r h hr => ?_) h hr
  exact s121_37 k0 h (by cases r <;> exact hr)
noncomputable def f121 (x0 : Nat) (x1 : Int32) (x2 : Int32) (s : xS) : Option (xS × Int32) := ifg (oK x0 10 = true) <| (hk_R x0 2).bind fun a1 => (f27 a1 x2 (0 : Int32) (0 : Int32) s).bind fun z4 => (hk_R x0 1).bind fun a6 => (hk_R x0 0).bind fun a9 => (f68 a9 z4.1).bind fun z12 => (hk_R x0 2).bind fun a14 => (hk_R a14 2).bind fun a17 => (f5 a6 x1 z12.2 a17 z12.1).bind fun z19 => whl (fun q : (Int32 × Int32 × xS) => f121_37 x0 q.1 q.2.1 q.2.2) ((0 : Int32), (0 : Int32), z19.1)
set_option maxRecDepth 20000 in
theorem s121 {sc : Option (Nat × (Nat → Int32))} {x0 : Nat} {x1 : Int32} {x2 : Int32} {s : xS} {r : xS × Int32} (h : f121 x0 x1 x2 s = some r) : Cl sc 5 121 [.ref x0, .int x1, .int x2] (hk_of s) (hk_of r.1, some (.int r.2)) := by
  unfold f121 at h
  obtain ⟨k0, h⟩ := ifg_some h
  refine ⟨pg_md 121, [some (.ref x0), some (.int x1), some (.int x2), none, none, none], pg_mt_md (by decide), (hk_rcv k0), rfl, ?_⟩
  generalize ho : ((hk_of r.1, some (Value.int r.2)) : xH × Option Value) = o
  have hr : dn121 o r := ho.symm
  refine E_blk rfl ?_
  refine E_ps 1 (pc' := 1) (l' := [some (.ref x0), some (.int x1), some (.int x2), none, none, none]) (st' := [.ref x0]) rfl ?_
  obtain ⟨a1, e2, h⟩ := Option.bind_eq_some_iff.mp h
  refine E_gr k0 (by decide) rfl e2 ?_
  have kf3 : oK a1 3 = true := hk_rty k0 e2 rfl (by decide)
  refine E_ps 3 (pc' := 7) (l' := [some (.ref x0), some (.int x1), some (.int x2), none, none, none]) (st' := [.int (0 : Int32), .int (0 : Int32), .int x2, .ref a1]) rfl ?_
  obtain ⟨z4, e5, h⟩ := Option.bind_eq_some_iff.mp h
  refine E_callV (vs := [.ref a1, .int x2, .int (0 : Int32), .int (0 : Int32)]) (rest := []) rfl (by decide) rfl rfl (Nat.le_of_ble_eq_true rfl) (s27 e5) (by decide) ?_
  refine E_ps 1 (pc' := 11) (l' := [some (.ref x0), some (.int x1), some (.int x2), none, none, none]) (st' := [.ref x0]) rfl ?_
  obtain ⟨a6, e7, h⟩ := Option.bind_eq_some_iff.mp h
  refine E_gr k0 (by decide) rfl e7 ?_
  have kf8 : oK a6 0 = true := hk_rty k0 e7 rfl (by decide)
  refine E_ps 2 (pc' := 16) (l' := [some (.ref x0), some (.int x1), some (.int x2), none, none, none]) (st' := [.ref x0, .int x1, .ref a6]) rfl ?_
  obtain ⟨a9, e10, h⟩ := Option.bind_eq_some_iff.mp h
  refine E_gr k0 (by decide) rfl e10 ?_
  have kf11 : oK a9 7 = true := hk_rty k0 e10 rfl (by decide)
  obtain ⟨z12, e13, h⟩ := Option.bind_eq_some_iff.mp h
  refine E_callI (vs := [.ref a9]) (rest := [.int x1, .ref a6]) rfl (by decide) rfl rfl (Nat.le_of_ble_eq_true rfl) (s68 e13) (by decide) ?_
  refine E_ps 1 (pc' := 23) (l' := [some (.ref x0), some (.int x1), some (.int x2), none, none, none]) (st' := [.ref x0, .int z12.2, .int x1, .ref a6]) rfl ?_
  obtain ⟨a14, e15, h⟩ := Option.bind_eq_some_iff.mp h
  refine E_gr k0 (by decide) rfl e15 ?_
  have kf16 : oK a14 3 = true := hk_rty k0 e15 rfl (by decide)
  obtain ⟨a17, e18, h⟩ := Option.bind_eq_some_iff.mp h
  refine E_gr kf16 (by decide) rfl e18 ?_
  obtain ⟨z19, e20, h⟩ := Option.bind_eq_some_iff.mp h
  refine E_callV (vs := [.ref a6, .int x1, .int z12.2, .ref a17]) (rest := []) rfl (by decide) rfl rfl (Nat.le_of_ble_eq_true rfl) (s5 e20) (by decide) ?_
  refine E_ps 4 (pc' := 37) (l' := [some (.ref x0), some (.int x1), some (.int x2), some (.int (0 : Int32)), some (.int (0 : Int32)), none]) (st' := []) rfl ?_
  exact E_wk (l' := [some (.ref x0), none, none, some (.int (0 : Int32)), some (.int (0 : Int32)), none]) ⟨rfl, rfl, rfl, trivial⟩ (s121_37_w k0 h hr)

-- 120: ThreePlates$Worlds.findAsked()V
def dn120 (o : xH × Option Value) (r : xS × Unit) : Prop := o = (hk_of r.1, none)
def dn120_9 (sc : Option (Nat × (Nat → Int32))) (x0 : Nat) (o : xH × Option Value) (r : ((Int32 × xS) ⊕ (xS × Unit))) : Prop := match r with
  | .inl q => Ev sc 6 120 [] 9 [some (.ref x0), some (.int q.1), none, none] [] (hk_of q.2) o
  | .inr r => dn120 o r
def dn120_22 (sc : Option (Nat × (Nat → Int32))) (x0 : Nat) (x1 : Int32) (o : xH × Option Value) (r : ((Int32 × xS) ⊕ ((Int32 × xS) ⊕ (xS × Unit)))) : Prop := match r with
  | .inl q => Ev sc 6 120 [] 22 [some (.ref x0), some (.int x1), some (.int q.1), none] [] (hk_of q.2) o
  | .inr r => dn120_9 sc x0 o r
noncomputable def f120_65 (x0 : Nat) (x1 : Int32) (x2 : Int32) (s : xS) : Option ((Int32 × xS) ⊕ ((Int32 × xS) ⊕ (xS × Unit))) := some (Sum.inl ((x2 + (1 : Int32)), s))
set_option maxRecDepth 20000 in
theorem s120_65 {sc : Option (Nat × (Nat → Int32))} {x0 : Nat} {x1 : Int32} {x2 : Int32} {s : xS} {o : xH × Option Value} {r : ((Int32 × xS) ⊕ ((Int32 × xS) ⊕ (xS × Unit)))} (k0 : oK x0 10 = true) (h : f120_65 x0 x1 x2 s = some r) (hr : dn120_22 sc x0 x1 o r) : Ev sc 6 120 [] 65 [some (.ref x0), some (.int x1), some (.int x2), none] [] (hk_of s) o := by
  unfold f120_65 at h
  refine E_blk rfl ?_
  refine E_ps 1 (pc' := 68) (l' := [some (.ref x0), some (.int x1), some (.int (x2 + (1 : Int32))), none]) (st' := []) rfl ?_
  refine E_j rfl rfl ?_
  cases h
  exact E_wk (l' := [some (.ref x0), some (.int x1), some (.int (x2 + (1 : Int32))), none]) ⟨rfl, rfl, rfl, trivial⟩ hr
noncomputable def f120_22 (x0 : Nat) (x1 : Int32) (x2 : Int32) (s : xS) : Option ((Int32 × xS) ⊕ ((Int32 × xS) ⊕ (xS × Unit))) := if (3 : Int32) < x2 then (Option.map Sum.inr (some (Sum.inl ((x1 + (1 : Int32)), s)))) else ((f121 x0 x1 x2 s).bind fun z2 => (hk_R x0 13).bind fun a4 => (aI z2.1 a4 (2 : Int32)).bind fun v6 => if z2.2 ≤ v6 then (f120_65 x0 x1 x2 z2.1) else ((hk_R x0 13).bind fun a9 => (wI z2.1 a9 (0 : Int32) x1).bind fun t11 => (hk_R x0 13).bind fun a13 => (wI t11 a13 (1 : Int32) x2).bind fun t15 => (hk_R x0 13).bind fun a17 => (wI t15 a17 (2 : Int32) z2.2).bind fun t19 => f120_65 x0 x1 x2 t19))
set_option maxRecDepth 20000 in
theorem s120_22 {sc : Option (Nat × (Nat → Int32))} {x0 : Nat} {x1 : Int32} {x2 : Int32} {s : xS} {o : xH × Option Value} {r : ((Int32 × xS) ⊕ ((Int32 × xS) ⊕ (xS × Unit)))} (k0 : oK x0 10 = true) (h : f120_22 x0 x1 x2 s = some r) (hr : dn120_22 sc x0 x1 o r) : Ev sc 6 120 [] 22 [some (.ref x0), some (.int x1), some (.int x2), none] [] (hk_of s) o := by
  unfold f120_22 at h
  refine E_blk rfl ?_
  refine E_ps 2 (pc' := 24) (l' := [some (.ref x0), some (.int x1), some (.int x2), none]) (st' := [.int (3 : Int32), .int x2]) rfl ?_
  by_cases c1 : (3 : Int32) < x2
  · rw [if_pos c1] at h
    refine E_jt rfl rfl c1 ?_
    obtain ⟨r, h, hr⟩ := lf_some (Dn := dn120_22 sc x0 x1 o) h hr
    refine E_blk rfl ?_
    refine E_ps 1 (pc' := 74) (l' := [some (.ref x0), some (.int (x1 + (1 : Int32))), some (.int x2), none]) (st' := []) rfl ?_
    refine E_j rfl rfl ?_
    cases h
    exact E_wk (l' := [some (.ref x0), some (.int (x1 + (1 : Int32))), none, none]) ⟨rfl, rfl, trivial⟩ hr
  · rw [if_neg c1] at h
    refine E_jf rfl rfl c1 ?_
    refine E_blk rfl ?_
    refine E_ps 3 (pc' := 30) (l' := [some (.ref x0), some (.int x1), some (.int x2), none]) (st' := [.int x2, .int x1, .ref x0]) rfl ?_
    obtain ⟨z2, e3, h⟩ := Option.bind_eq_some_iff.mp h
    refine E_callI (vs := [.ref x0, .int x1, .int x2]) (rest := []) rfl (by decide) rfl rfl (Nat.le_of_ble_eq_true rfl) (s121 e3) (by decide) ?_
    refine E_ps 3 (pc' := 36) (l' := [some (.ref x0), some (.int x1), some (.int x2), some (.int z2.2)]) (st' := [.ref x0, .int z2.2]) rfl ?_
    obtain ⟨a4, e5, h⟩ := Option.bind_eq_some_iff.mp h
    refine E_gr k0 (by decide) rfl e5 ?_
    refine E_ps 1 (pc' := 40) (l' := [some (.ref x0), some (.int x1), some (.int x2), some (.int z2.2)]) (st' := [.int (2 : Int32), .ref a4, .int z2.2]) rfl ?_
    obtain ⟨v6, e7, h⟩ := Option.bind_eq_some_iff.mp h
    refine E_ai e7 ?_
    by_cases c8 : z2.2 ≤ v6
    · rw [if_pos c8] at h
      refine E_jt rfl rfl c8 ?_
      exact E_wk (l' := [some (.ref x0), some (.int x1), some (.int x2), none]) ⟨rfl, rfl, rfl, trivial⟩ (s120_65 k0 h hr)
    · rw [if_neg c8] at h
      refine E_jf rfl rfl c8 ?_
      refine E_blk rfl ?_
      refine E_ps 1 (pc' := 45) (l' := [some (.ref x0), some (.int x1), some (.int x2), some (.int z2.2)]) (st' := [.ref x0]) rfl ?_
      obtain ⟨a9, e10, h⟩ := Option.bind_eq_some_iff.mp h
      refine E_gr k0 (by decide) rfl e10 ?_
      refine E_ps 2 (pc' := 50) (l' := [some (.ref x0), some (.int x1), some (.int x2), some (.int z2.2)]) (st' := [.int x1, .int (0 : Int32), .ref a9]) rfl ?_
      obtain ⟨t11, e12, h⟩ := Option.bind_eq_some_iff.mp h
      refine E_wi e12 ?_
      refine E_ps 1 (pc' := 52) (l' := [some (.ref x0), some (.int x1), some (.int x2), some (.int z2.2)]) (st' := [.ref x0]) rfl ?_
      obtain ⟨a13, e14, h⟩ := Option.bind_eq_some_iff.mp h
      refine E_gr k0 (by decide) rfl e14 ?_
      refine E_ps 2 (pc' := 57) (l' := [some (.ref x0), some (.int x1), some (.int x2), some (.int z2.2)]) (st' := [.int x2, .int (1 : Int32), .ref a13]) rfl ?_
      obtain ⟨t15, e16, h⟩ := Option.bind_eq_some_iff.mp h
      refine E_wi e16 ?_
      refine E_ps 1 (pc' := 59) (l' := [some (.ref x0), some (.int x1), some (.int x2), some (.int z2.2)]) (st' := [.ref x0]) rfl ?_
      obtain ⟨a17, e18, h⟩ := Option.bind_eq_some_iff.mp h
      refine E_gr k0 (by decide) rfl e18 ?_
      refine E_ps 2 (pc' := 64) (l' := [some (.ref x0), some (.int x1), some (.int x2), some (.int z2.2)]) (st' := [.int z2.2, .int (2 : Int32), .ref a17]) rfl ?_
      obtain ⟨t19, e20, h⟩ := Option.bind_eq_some_iff.mp h
      refine E_wi e20 ?_
      exact E_wk (l' := [some (.ref x0), some (.int x1), some (.int x2), none]) ⟨rfl, rfl, rfl, trivial⟩ (s120_65 k0 h hr)
theorem s120_22_w {sc : Option (Nat × (Nat → Int32))} {x0 : Nat} {x1 : Int32} {x2 : Int32} {s : xS} {o : xH × Option Value} {r : ((Int32 × xS) ⊕ (xS × Unit))} (k0 : oK x0 10 = true) (h : whl (fun q : (Int32 × xS) => f120_22 x0 x1 q.1 q.2) (x2, s) = some r) (hr : dn120_9 sc x0 o r) : Ev sc 6 120 [] 22 [some (.ref x0), some (.int x1), some (.int x2), none] [] (hk_of s) o := by
  refine whl_snd (E := fun q : (Int32 × xS) => Ev sc 6 120 [] 22 [some (.ref x0), some (.int x1), some (.int q.1), none] [] (hk_of q.2) o) (P := fun r => dn120_9 sc x0 o r) (fun q r h hr => ?_) h hr
  exact s120_22 k0 h (by cases r <;> exact hr)
noncomputable def f120_9 (x0 : Nat) (x1 : Int32) (s : xS) : Option ((Int32 × xS) ⊕ (xS × Unit)) := (hk_R x0 0).bind fun a1 => if (s.1 a1 2) ≤ x1 then (Option.map Sum.inr (some (s, ()))) else (whl (fun q : (Int32 × xS) => f120_22 x0 x1 q.1 q.2) ((0 : Int32), s))
set_option maxRecDepth 20000 in
theorem s120_9 {sc : Option (Nat × (Nat → Int32))} {x0 : Nat} {x1 : Int32} {s : xS} {o : xH × Option Value} {r : ((Int32 × xS) ⊕ (xS × Unit))} (k0 : oK x0 10 = true) (h : f120_9 x0 x1 s = some r) (hr : dn120_9 sc x0 o r) : Ev sc 6 120 [] 9 [some (.ref x0), some (.int x1), none, none] [] (hk_of s) o := by
  unfold f120_9 at h
  refine E_blk rfl ?_
  refine E_ps 2 (pc' := 11) (l' := [some (.ref x0), some (.int x1), none, none]) (st' := [.ref x0, .int x1]) rfl ?_
  obtain ⟨a1, e2, h⟩ := Option.bind_eq_some_iff.mp h
  refine E_gr k0 (by decide) rfl e2 ?_
  have kf3 : oK a1 7 = true := hk_rty k0 e2 rfl (by decide)
  refine E_gi kf3 (by decide) rfl ?_
  by_cases c4 : (s.1 a1 2) ≤ x1
  · rw [if_pos c4] at h
    refine E_jt rfl rfl c4 ?_
    obtain ⟨r, h, hr⟩ := lf_some (Dn := dn120_9 sc x0 o) h hr
    refine E_blk rfl ?_
    cases h
    exact E_ret rfl (pg_mt_md (by decide)) rfl hr
  · rw [if_neg c4] at h
    refine E_jf rfl rfl c4 ?_
    refine E_blk rfl ?_
    refine E_ps 2 (pc' := 22) (l' := [some (.ref x0), some (.int x1), some (.int (0 : Int32)), none]) (st' := []) rfl ?_
    exact E_wk (l' := [some (.ref x0), some (.int x1), some (.int (0 : Int32)), none]) ⟨rfl, rfl, rfl, trivial⟩ (s120_22_w k0 h hr)
theorem s120_9_w {sc : Option (Nat × (Nat → Int32))} {x0 : Nat} {x1 : Int32} {s : xS} {o : xH × Option Value} {r : (xS × Unit)} (k0 : oK x0 10 = true) (h : whl (fun q : (Int32 × xS) => f120_9 x0 q.1 q.2) (x1, s) = some r) (hr : dn120 o r) : Ev sc 6 120 [] 9 [some (.ref x0), some (.int x1), none, none] [] (hk_of s) o := by
  refine whl_snd (E := fun q : (Int32 × xS) => Ev sc 6 120 [] 9 [some (.ref x0), some (.int q.1), none, none] [] (hk_of q.2) o) (P := fun r => dn120 o r) (fun q r h hr => ?_) h hr
  exact s120_9 k0 h (by cases r <;> exact hr)
noncomputable def f120 (x0 : Nat) (s : xS) : Option (xS × Unit) := ifg (oK x0 10 = true) <| (hk_R x0 13).bind fun a1 => (wI s a1 (2 : Int32) (0 : Int32)).bind fun t3 => whl (fun q : (Int32 × xS) => f120_9 x0 q.1 q.2) ((0 : Int32), t3)
set_option maxRecDepth 20000 in
theorem s120 {sc : Option (Nat × (Nat → Int32))} {x0 : Nat} {s : xS} {r : xS × Unit} (h : f120 x0 s = some r) : Cl sc 6 120 [.ref x0] (hk_of s) (hk_of r.1, none) := by
  unfold f120 at h
  obtain ⟨k0, h⟩ := ifg_some h
  refine ⟨pg_md 120, [some (.ref x0), none, none, none], pg_mt_md (by decide), (hk_rcv k0), rfl, ?_⟩
  generalize ho : ((hk_of r.1, none) : xH × Option Value) = o
  have hr : dn120 o r := ho.symm
  refine E_blk rfl ?_
  refine E_ps 1 (pc' := 1) (l' := [some (.ref x0), none, none, none]) (st' := [.ref x0]) rfl ?_
  obtain ⟨a1, e2, h⟩ := Option.bind_eq_some_iff.mp h
  refine E_gr k0 (by decide) rfl e2 ?_
  refine E_ps 2 (pc' := 6) (l' := [some (.ref x0), none, none, none]) (st' := [.int (0 : Int32), .int (2 : Int32), .ref a1]) rfl ?_
  obtain ⟨t3, e4, h⟩ := Option.bind_eq_some_iff.mp h
  refine E_wi e4 ?_
  refine E_ps 2 (pc' := 9) (l' := [some (.ref x0), some (.int (0 : Int32)), none, none]) (st' := []) rfl ?_
  exact E_wk (l' := [some (.ref x0), some (.int (0 : Int32)), none, none]) ⟨rfl, rfl, trivial⟩ (s120_9_w k0 h hr)

-- 119: ThreePlates$Worlds.answerAsked(I)I
def dn119 (o : xH × Option Value) (r : xS × Int32) : Prop := o = (hk_of r.1, some (.int r.2))
noncomputable def f119_39 (y0 : Int32) (s : xS) : Option (xS × Int32) := some (s, y0)
set_option maxRecDepth 20000 in
theorem s119_39 {sc : Option (Nat × (Nat → Int32))} {y0 : Int32} {s : xS} {o : xH × Option Value} {r : (xS × Int32)}  (h : f119_39 y0 s = some r) (hr : dn119 o r) : Ev sc 7 119 [] 39 [none, none] [.int y0] (hk_of s) o := by
  unfold f119_39 at h
  refine E_blk rfl ?_
  cases h
  exact E_ret rfl (pg_mt_md (by decide)) rfl hr
noncomputable def f119_38  (s : xS) : Option (xS × Int32) := f119_39 (-1 : Int32) s
set_option maxRecDepth 20000 in
theorem s119_38 {sc : Option (Nat × (Nat → Int32))}  {s : xS} {o : xH × Option Value} {r : (xS × Int32)}  (h : f119_38  s = some r) (hr : dn119 o r) : Ev sc 7 119 [] 38 [none, none] [] (hk_of s) o := by
  unfold f119_38 at h
  refine E_blk rfl ?_
  refine E_ps 1 (pc' := 39) (l' := [none, none]) (st' := [.int (-1 : Int32)]) rfl ?_
  exact E_wk (l' := [none, none]) trivial (s119_39  h hr)
noncomputable def f119_16 (x0 : Nat) (x1 : Int32) (s : xS) : Option (xS × Int32) := if x1 < 0 then (f119_38  s) else ((hk_R x0 13).bind fun a2 => (aN a2).bind fun v4 => if v4 ≤ x1 then (f119_38  s) else ((hk_R x0 13).bind fun a7 => (aI s a7 x1).bind fun v9 => f119_39 v9 s))
set_option maxRecDepth 20000 in
theorem s119_16 {sc : Option (Nat × (Nat → Int32))} {x0 : Nat} {x1 : Int32} {s : xS} {o : xH × Option Value} {r : (xS × Int32)} (k0 : oK x0 10 = true) (h : f119_16 x0 x1 s = some r) (hr : dn119 o r) : Ev sc 7 119 [] 16 [some (.ref x0), some (.int x1)] [] (hk_of s) o := by
  unfold f119_16 at h
  refine E_blk rfl ?_
  refine E_ps 1 (pc' := 17) (l' := [some (.ref x0), some (.int x1)]) (st' := [.int x1]) rfl ?_
  by_cases c1 : x1 < 0
  · rw [if_pos c1] at h
    refine E_jt rfl rfl c1 ?_
    exact E_wk (l' := [none, none]) trivial (s119_38  h hr)
  · rw [if_neg c1] at h
    refine E_jf rfl rfl c1 ?_
    refine E_blk rfl ?_
    refine E_ps 2 (pc' := 22) (l' := [some (.ref x0), some (.int x1)]) (st' := [.ref x0, .int x1]) rfl ?_
    obtain ⟨a2, e3, h⟩ := Option.bind_eq_some_iff.mp h
    refine E_gr k0 (by decide) rfl e3 ?_
    obtain ⟨v4, e5, h⟩ := Option.bind_eq_some_iff.mp h
    refine E_an e5 ?_
    by_cases c6 : v4 ≤ x1
    · rw [if_pos c6] at h
      refine E_jt rfl rfl c6 ?_
      exact E_wk (l' := [none, none]) trivial (s119_38  h hr)
    · rw [if_neg c6] at h
      refine E_jf rfl rfl c6 ?_
      refine E_blk rfl ?_
      refine E_ps 1 (pc' := 30) (l' := [some (.ref x0), some (.int x1)]) (st' := [.ref x0]) rfl ?_
      obtain ⟨a7, e8, h⟩ := Option.bind_eq_some_iff.mp h
      refine E_gr k0 (by decide) rfl e8 ?_
      refine E_ps 1 (pc' := 34) (l' := [some (.ref x0), some (.int x1)]) (st' := [.int x1, .ref a7]) rfl ?_
      obtain ⟨v9, e10, h⟩ := Option.bind_eq_some_iff.mp h
      refine E_ai e10 ?_
      refine E_j rfl rfl ?_
      exact E_wk (l' := [none, none]) trivial (s119_39  h hr)
noncomputable def f119 (x0 : Nat) (x1 : Int32) (s : xS) : Option (xS × Int32) := ifg (oK x0 10 = true) <| if (s.1 x0 14) = 0 then ((pI s x0 14 (1 : Int32)).bind fun t2 => (f120 x0 t2).bind fun z4 => f119_16 x0 x1 z4.1) else (f119_16 x0 x1 s)
set_option maxRecDepth 20000 in
theorem s119 {sc : Option (Nat × (Nat → Int32))} {x0 : Nat} {x1 : Int32} {s : xS} {r : xS × Int32} (h : f119 x0 x1 s = some r) : Cl sc 7 119 [.ref x0, .int x1] (hk_of s) (hk_of r.1, some (.int r.2)) := by
  unfold f119 at h
  obtain ⟨k0, h⟩ := ifg_some h
  refine ⟨pg_md 119, [some (.ref x0), some (.int x1)], pg_mt_md (by decide), (hk_rcv k0), rfl, ?_⟩
  generalize ho : ((hk_of r.1, some (Value.int r.2)) : xH × Option Value) = o
  have hr : dn119 o r := ho.symm
  refine E_blk rfl ?_
  refine E_ps 1 (pc' := 1) (l' := [some (.ref x0), some (.int x1)]) (st' := [.ref x0]) rfl ?_
  refine E_gi k0 (by decide) rfl ?_
  by_cases c1 : (s.1 x0 14) = 0
  · rw [if_pos c1] at h
    refine E_jt rfl rfl c1 ?_
    refine E_blk rfl ?_
    refine E_ps 2 (pc' := 9) (l' := [some (.ref x0), some (.int x1)]) (st' := [.int (1 : Int32), .ref x0]) rfl ?_
    obtain ⟨t2, e3, h⟩ := Option.bind_eq_some_iff.mp h
    refine E_pi k0 (by decide) rfl e3 ?_
    refine E_ps 1 (pc' := 13) (l' := [some (.ref x0), some (.int x1)]) (st' := [.ref x0]) rfl ?_
    obtain ⟨z4, e5, h⟩ := Option.bind_eq_some_iff.mp h
    refine E_callV (vs := [.ref x0]) (rest := []) rfl (by decide) rfl rfl (Nat.le_of_ble_eq_true rfl) (s120 e5) (by decide) ?_
    exact E_wk (l' := [some (.ref x0), some (.int x1)]) ⟨rfl, rfl, trivial⟩ (s119_16 k0 h hr)
  · rw [if_neg c1] at h
    refine E_jf rfl rfl c1 ?_
    exact E_wk (l' := [some (.ref x0), some (.int x1)]) ⟨rfl, rfl, trivial⟩ (s119_16 k0 h hr)

-- 124: ThreePlates.feed(IIIII)I
def dn124 (o : xH × Option Value) (r : xS × Int32) : Prop := o = (hk_of r.1, some (.int r.2))
noncomputable def f124 (x0 : Nat) (x1 : Int32) (x2 : Int32) (x3 : Int32) (x4 : Int32) (x5 : Int32) (s : xS) : Option (xS × Int32) := ifg (oK x0 11 = true) <| (hk_R x0 0).bind fun a1 => if ((s.1 a1 1) + (20 : Int32)) ≤ (1200 : Int32) then ((hk_R x0 0).bind fun a5 => (f77 a5 x1 s).bind fun z8 => (hk_R x0 0).bind fun a10 => (f77 a10 x2 z8.1).bind fun z13 => (hk_R x0 0).bind fun a15 => (f77 a15 x3 z13.1).bind fun z18 => (hk_R x0 0).bind fun a20 => (f77 a20 x4 z18.1).bind fun z23 => (hk_R x0 0).bind fun a25 => (f77 a25 x5 z23.1).bind fun z28 => (hk_R x0 0).bind fun a30 => some (z28.1, (z28.1.1 a30 1))) else (some (s, (-1 : Int32)))
set_option maxRecDepth 20000 in
theorem s124 {sc : Option (Nat × (Nat → Int32))} {x0 : Nat} {x1 : Int32} {x2 : Int32} {x3 : Int32} {x4 : Int32} {x5 : Int32} {s : xS} {r : xS × Int32} (h : f124 x0 x1 x2 x3 x4 x5 s = some r) : Cl sc 2 124 [.ref x0, .int x1, .int x2, .int x3, .int x4, .int x5] (hk_of s) (hk_of r.1, some (.int r.2)) := by
  unfold f124 at h
  obtain ⟨k0, h⟩ := ifg_some h
  refine ⟨pg_md 124, [some (.ref x0), some (.int x1), some (.int x2), some (.int x3), some (.int x4), some (.int x5)], pg_mt_md (by decide), (hk_rcv k0), rfl, ?_⟩
  generalize ho : ((hk_of r.1, some (Value.int r.2)) : xH × Option Value) = o
  have hr : dn124 o r := ho.symm
  refine E_blk rfl ?_
  refine E_ps 1 (pc' := 1) (l' := [some (.ref x0), some (.int x1), some (.int x2), some (.int x3), some (.int x4), some (.int x5)]) (st' := [.ref x0]) rfl ?_
  obtain ⟨a1, e2, h⟩ := Option.bind_eq_some_iff.mp h
  refine E_gr k0 (by decide) rfl e2 ?_
  have kf3 : oK a1 8 = true := hk_rty k0 e2 rfl (by decide)
  refine E_gi kf3 (by decide) rfl ?_
  refine E_ps 3 (pc' := 13) (l' := [some (.ref x0), some (.int x1), some (.int x2), some (.int x3), some (.int x4), some (.int x5)]) (st' := [.int (1200 : Int32), .int ((s.1 a1 1) + (20 : Int32))]) rfl ?_
  by_cases c4 : ((s.1 a1 1) + (20 : Int32)) ≤ (1200 : Int32)
  · rw [if_pos c4] at h
    refine E_jt rfl rfl c4 ?_
    refine E_blk rfl ?_
    refine E_ps 1 (pc' := 19) (l' := [some (.ref x0), some (.int x1), some (.int x2), some (.int x3), some (.int x4), some (.int x5)]) (st' := [.ref x0]) rfl ?_
    obtain ⟨a5, e6, h⟩ := Option.bind_eq_some_iff.mp h
    refine E_gr k0 (by decide) rfl e6 ?_
    have kf7 : oK a5 8 = true := hk_rty k0 e6 rfl (by decide)
    refine E_ps 1 (pc' := 23) (l' := [some (.ref x0), some (.int x1), some (.int x2), some (.int x3), some (.int x4), some (.int x5)]) (st' := [.int x1, .ref a5]) rfl ?_
    obtain ⟨z8, e9, h⟩ := Option.bind_eq_some_iff.mp h
    refine E_callV (vs := [.ref a5, .int x1]) (rest := []) rfl (by decide) rfl rfl (Nat.le_of_ble_eq_true rfl) (s77 e9) (by decide) ?_
    refine E_ps 1 (pc' := 27) (l' := [some (.ref x0), some (.int x1), some (.int x2), some (.int x3), some (.int x4), some (.int x5)]) (st' := [.ref x0]) rfl ?_
    obtain ⟨a10, e11, h⟩ := Option.bind_eq_some_iff.mp h
    refine E_gr k0 (by decide) rfl e11 ?_
    have kf12 : oK a10 8 = true := hk_rty k0 e11 rfl (by decide)
    refine E_ps 1 (pc' := 31) (l' := [some (.ref x0), some (.int x1), some (.int x2), some (.int x3), some (.int x4), some (.int x5)]) (st' := [.int x2, .ref a10]) rfl ?_
    obtain ⟨z13, e14, h⟩ := Option.bind_eq_some_iff.mp h
    refine E_callV (vs := [.ref a10, .int x2]) (rest := []) rfl (by decide) rfl rfl (Nat.le_of_ble_eq_true rfl) (s77 e14) (by decide) ?_
    refine E_ps 1 (pc' := 35) (l' := [some (.ref x0), some (.int x1), some (.int x2), some (.int x3), some (.int x4), some (.int x5)]) (st' := [.ref x0]) rfl ?_
    obtain ⟨a15, e16, h⟩ := Option.bind_eq_some_iff.mp h
    refine E_gr k0 (by decide) rfl e16 ?_
    have kf17 : oK a15 8 = true := hk_rty k0 e16 rfl (by decide)
    refine E_ps 1 (pc' := 39) (l' := [some (.ref x0), some (.int x1), some (.int x2), some (.int x3), some (.int x4), some (.int x5)]) (st' := [.int x3, .ref a15]) rfl ?_
    obtain ⟨z18, e19, h⟩ := Option.bind_eq_some_iff.mp h
    refine E_callV (vs := [.ref a15, .int x3]) (rest := []) rfl (by decide) rfl rfl (Nat.le_of_ble_eq_true rfl) (s77 e19) (by decide) ?_
    refine E_ps 1 (pc' := 43) (l' := [some (.ref x0), some (.int x1), some (.int x2), some (.int x3), some (.int x4), some (.int x5)]) (st' := [.ref x0]) rfl ?_
    obtain ⟨a20, e21, h⟩ := Option.bind_eq_some_iff.mp h
    refine E_gr k0 (by decide) rfl e21 ?_
    have kf22 : oK a20 8 = true := hk_rty k0 e21 rfl (by decide)
    refine E_ps 1 (pc' := 48) (l' := [some (.ref x0), some (.int x1), some (.int x2), some (.int x3), some (.int x4), some (.int x5)]) (st' := [.int x4, .ref a20]) rfl ?_
    obtain ⟨z23, e24, h⟩ := Option.bind_eq_some_iff.mp h
    refine E_callV (vs := [.ref a20, .int x4]) (rest := []) rfl (by decide) rfl rfl (Nat.le_of_ble_eq_true rfl) (s77 e24) (by decide) ?_
    refine E_ps 1 (pc' := 52) (l' := [some (.ref x0), some (.int x1), some (.int x2), some (.int x3), some (.int x4), some (.int x5)]) (st' := [.ref x0]) rfl ?_
    obtain ⟨a25, e26, h⟩ := Option.bind_eq_some_iff.mp h
    refine E_gr k0 (by decide) rfl e26 ?_
    have kf27 : oK a25 8 = true := hk_rty k0 e26 rfl (by decide)
    refine E_ps 1 (pc' := 57) (l' := [some (.ref x0), some (.int x1), some (.int x2), some (.int x3), some (.int x4), some (.int x5)]) (st' := [.int x5, .ref a25]) rfl ?_
    obtain ⟨z28, e29, h⟩ := Option.bind_eq_some_iff.mp h
    refine E_callV (vs := [.ref a25, .int x5]) (rest := []) rfl (by decide) rfl rfl (Nat.le_of_ble_eq_true rfl) (s77 e29) (by decide) ?_
    refine E_ps 1 (pc' := 61) (l' := [some (.ref x0), some (.int x1), some (.int x2), some (.int x3), some (.int x4), some (.int x5)]) (st' := [.ref x0]) rfl ?_
    obtain ⟨a30, e31, h⟩ := Option.bind_eq_some_iff.mp h
    refine E_gr k0 (by decide) rfl e31 ?_
    have kf32 : oK a30 8 = true := hk_rty k0 e31 rfl (by decide)
    refine E_gi kf32 (by decide) rfl ?_
    cases h
    exact E_ret rfl (pg_mt_md (by decide)) rfl hr
  · rw [if_neg c4] at h
    refine E_jf rfl rfl c4 ?_
    refine E_blk rfl ?_
    refine E_ps 1 (pc' := 17) (l' := [some (.ref x0), some (.int x1), some (.int x2), some (.int x3), some (.int x4), some (.int x5)]) (st' := [.int (-1 : Int32)]) rfl ?_
    cases h
    exact E_ret rfl (pg_mt_md (by decide)) rfl hr

-- 125: ThreePlates.end(I)I
def dn125 (o : xH × Option Value) (r : xS × Int32) : Prop := o = (hk_of r.1, some (.int r.2))
noncomputable def f125_15  (s : xS) : Option (xS × Int32) := some (s, (-1 : Int32))
set_option maxRecDepth 20000 in
theorem s125_15 {sc : Option (Nat × (Nat → Int32))}  {s : xS} {o : xH × Option Value} {r : (xS × Int32)}  (h : f125_15  s = some r) (hr : dn125 o r) : Ev sc 1 125 [] 15 [none, none] [] (hk_of s) o := by
  unfold f125_15 at h
  refine E_blk rfl ?_
  refine E_ps 1 (pc' := 16) (l' := [none, none]) (st' := [.int (-1 : Int32)]) rfl ?_
  cases h
  exact E_ret rfl (pg_mt_md (by decide)) rfl hr
noncomputable def f125 (x0 : Nat) (x1 : Int32) (s : xS) : Option (xS × Int32) := ifg (oK x0 11 = true) <| if x1 < 0 then (f125_15  s) else ((hk_R x0 0).bind fun a2 => if x1 ≤ (s.1 a2 1) then ((hk_R x0 0).bind fun a6 => (pI s a6 1 x1).bind fun t9 => some (t9, x1)) else (f125_15  s))
set_option maxRecDepth 20000 in
theorem s125 {sc : Option (Nat × (Nat → Int32))} {x0 : Nat} {x1 : Int32} {s : xS} {r : xS × Int32} (h : f125 x0 x1 s = some r) : Cl sc 1 125 [.ref x0, .int x1] (hk_of s) (hk_of r.1, some (.int r.2)) := by
  unfold f125 at h
  obtain ⟨k0, h⟩ := ifg_some h
  refine ⟨pg_md 125, [some (.ref x0), some (.int x1)], pg_mt_md (by decide), (hk_rcv k0), rfl, ?_⟩
  generalize ho : ((hk_of r.1, some (Value.int r.2)) : xH × Option Value) = o
  have hr : dn125 o r := ho.symm
  refine E_blk rfl ?_
  refine E_ps 1 (pc' := 1) (l' := [some (.ref x0), some (.int x1)]) (st' := [.int x1]) rfl ?_
  by_cases c1 : x1 < 0
  · rw [if_pos c1] at h
    refine E_jt rfl rfl c1 ?_
    exact E_wk (l' := [none, none]) trivial (s125_15  h hr)
  · rw [if_neg c1] at h
    refine E_jf rfl rfl c1 ?_
    refine E_blk rfl ?_
    refine E_ps 2 (pc' := 6) (l' := [some (.ref x0), some (.int x1)]) (st' := [.ref x0, .int x1]) rfl ?_
    obtain ⟨a2, e3, h⟩ := Option.bind_eq_some_iff.mp h
    refine E_gr k0 (by decide) rfl e3 ?_
    have kf4 : oK a2 8 = true := hk_rty k0 e3 rfl (by decide)
    refine E_gi kf4 (by decide) rfl ?_
    by_cases c5 : x1 ≤ (s.1 a2 1)
    · rw [if_pos c5] at h
      refine E_jt rfl rfl c5 ?_
      refine E_blk rfl ?_
      refine E_ps 1 (pc' := 18) (l' := [some (.ref x0), some (.int x1)]) (st' := [.ref x0]) rfl ?_
      obtain ⟨a6, e7, h⟩ := Option.bind_eq_some_iff.mp h
      refine E_gr k0 (by decide) rfl e7 ?_
      have kf8 : oK a6 8 = true := hk_rty k0 e7 rfl (by decide)
      refine E_ps 1 (pc' := 22) (l' := [some (.ref x0), some (.int x1)]) (st' := [.int x1, .ref a6]) rfl ?_
      obtain ⟨t9, e10, h⟩ := Option.bind_eq_some_iff.mp h
      refine E_pi kf8 (by decide) rfl e10 ?_
      refine E_ps 1 (pc' := 26) (l' := [some (.ref x0), some (.int x1)]) (st' := [.int x1]) rfl ?_
      cases h
      exact E_ret rfl (pg_mt_md (by decide)) rfl hr
    · rw [if_neg c5] at h
      refine E_jf rfl rfl c5 ?_
      exact E_wk (l' := [none, none]) trivial (s125_15  h hr)

-- 164: ThreePlates.changed()V
def dn164 (o : xH × Option Value) (r : xS × Unit) : Prop := o = (hk_of r.1, none)
noncomputable def f164 (x0 : Nat) (s : xS) : Option (xS × Unit) := ifg (oK x0 11 = true) <| (hk_R x0 9).bind fun a1 => (pI s a1 9 (0 : Int32)).bind fun t4 => (hk_R x0 10).bind fun a6 => (f108 a6 t4).bind fun z9 => some (z9.1, ())
set_option maxRecDepth 20000 in
theorem s164 {sc : Option (Nat × (Nat → Int32))} {x0 : Nat} {s : xS} {r : xS × Unit} (h : f164 x0 s = some r) : Cl sc 2 164 [.ref x0] (hk_of s) (hk_of r.1, none) := by
  unfold f164 at h
  obtain ⟨k0, h⟩ := ifg_some h
  refine ⟨pg_md 164, [some (.ref x0)], pg_mt_md (by decide), (hk_rcv k0), rfl, ?_⟩
  generalize ho : ((hk_of r.1, none) : xH × Option Value) = o
  have hr : dn164 o r := ho.symm
  refine E_blk rfl ?_
  refine E_ps 1 (pc' := 1) (l' := [some (.ref x0)]) (st' := [.ref x0]) rfl ?_
  obtain ⟨a1, e2, h⟩ := Option.bind_eq_some_iff.mp h
  refine E_gr k0 (by decide) rfl e2 ?_
  have kf3 : oK a1 9 = true := hk_rty k0 e2 rfl (by decide)
  refine E_ps 1 (pc' := 5) (l' := [some (.ref x0)]) (st' := [.int (0 : Int32), .ref a1]) rfl ?_
  obtain ⟨t4, e5, h⟩ := Option.bind_eq_some_iff.mp h
  refine E_pi kf3 (by decide) rfl e5 ?_
  refine E_ps 1 (pc' := 9) (l' := [some (.ref x0)]) (st' := [.ref x0]) rfl ?_
  obtain ⟨a6, e7, h⟩ := Option.bind_eq_some_iff.mp h
  refine E_gr k0 (by decide) rfl e7 ?_
  have kf8 : oK a6 10 = true := hk_rty k0 e7 rfl (by decide)
  obtain ⟨z9, e10, h⟩ := Option.bind_eq_some_iff.mp h
  refine E_callV (vs := [.ref a6]) (rest := []) rfl (by decide) rfl rfl (Nat.le_of_ble_eq_true rfl) (s108 e10) (by decide) ?_
  cases h
  exact E_ret rfl (pg_mt_md (by decide)) rfl hr

-- 126: ThreePlates.shop()I
def dn126 (o : xH × Option Value) (r : xS × Int32) : Prop := o = (hk_of r.1, some (.int r.2))
def dn126_65 (sc : Option (Nat × (Nat → Int32))) (x0 : Nat) (o : xH × Option Value) (r : ((Int32 × xS) ⊕ (xS × Int32))) : Prop := match r with
  | .inl q => Ev sc 8 126 [] 65 [some (.ref x0), none, some (.int q.1)] [] (hk_of q.2) o
  | .inr r => dn126 o r
noncomputable def f126_65 (x0 : Nat) (x2 : Int32) (s : xS) : Option ((Int32 × xS) ⊕ (xS × Int32)) := if (3 : Int32) ≤ x2 then (Option.map Sum.inr ((hk_R x0 10).bind fun a2 => (f109 a2 s).bind fun z5 => (f164 x0 z5.1).bind fun z7 => (hk_R x0 1).bind fun a9 => some (z7.1, (z7.1.1 a9 2)))) else ((hk_R x0 7).bind fun a12 => (wB s a12 x2 (0 : Int32)).bind fun t14 => some (Sum.inl ((x2 + (1 : Int32)), t14)))
set_option maxRecDepth 20000 in
theorem s126_65 {sc : Option (Nat × (Nat → Int32))} {x0 : Nat} {x2 : Int32} {s : xS} {o : xH × Option Value} {r : ((Int32 × xS) ⊕ (xS × Int32))} (k0 : oK x0 11 = true) (h : f126_65 x0 x2 s = some r) (hr : dn126_65 sc x0 o r) : Ev sc 8 126 [] 65 [some (.ref x0), none, some (.int x2)] [] (hk_of s) o := by
  unfold f126_65 at h
  refine E_blk rfl ?_
  refine E_ps 2 (pc' := 67) (l' := [some (.ref x0), none, some (.int x2)]) (st' := [.int (3 : Int32), .int x2]) rfl ?_
  by_cases c1 : (3 : Int32) ≤ x2
  · rw [if_pos c1] at h
    refine E_jt rfl rfl c1 ?_
    obtain ⟨r, h, hr⟩ := lf_some (Dn := dn126_65 sc x0 o) h hr
    refine E_blk rfl ?_
    refine E_ps 1 (pc' := 84) (l' := [some (.ref x0), none, some (.int x2)]) (st' := [.ref x0]) rfl ?_
    obtain ⟨a2, e3, h⟩ := Option.bind_eq_some_iff.mp h
    refine E_gr k0 (by decide) rfl e3 ?_
    have kf4 : oK a2 10 = true := hk_rty k0 e3 rfl (by decide)
    obtain ⟨z5, e6, h⟩ := Option.bind_eq_some_iff.mp h
    refine E_callV (vs := [.ref a2]) (rest := []) rfl (by decide) rfl rfl (Nat.le_of_ble_eq_true rfl) (s109 e6) (by decide) ?_
    refine E_ps 1 (pc' := 91) (l' := [some (.ref x0), none, some (.int x2)]) (st' := [.ref x0]) rfl ?_
    obtain ⟨z7, e8, h⟩ := Option.bind_eq_some_iff.mp h
    refine E_callV (vs := [.ref x0]) (rest := []) rfl (by decide) rfl rfl (Nat.le_of_ble_eq_true rfl) (s164 e8) (by decide) ?_
    refine E_ps 1 (pc' := 95) (l' := [some (.ref x0), none, some (.int x2)]) (st' := [.ref x0]) rfl ?_
    obtain ⟨a9, e10, h⟩ := Option.bind_eq_some_iff.mp h
    refine E_gr k0 (by decide) rfl e10 ?_
    have kf11 : oK a9 7 = true := hk_rty k0 e10 rfl (by decide)
    refine E_gi kf11 (by decide) rfl ?_
    cases h
    exact E_ret rfl (pg_mt_md (by decide)) rfl hr
  · rw [if_neg c1] at h
    refine E_jf rfl rfl c1 ?_
    refine E_blk rfl ?_
    refine E_ps 1 (pc' := 71) (l' := [some (.ref x0), none, some (.int x2)]) (st' := [.ref x0]) rfl ?_
    obtain ⟨a12, e13, h⟩ := Option.bind_eq_some_iff.mp h
    refine E_gr k0 (by decide) rfl e13 ?_
    refine E_ps 2 (pc' := 76) (l' := [some (.ref x0), none, some (.int x2)]) (st' := [.int (0 : Int32), .int x2, .ref a12]) rfl ?_
    obtain ⟨t14, e15, h⟩ := Option.bind_eq_some_iff.mp h
    refine E_wb e15 ?_
    refine E_ps 1 (pc' := 80) (l' := [some (.ref x0), none, some (.int (x2 + (1 : Int32)))]) (st' := []) rfl ?_
    refine E_j rfl rfl ?_
    cases h
    exact E_wk (l' := [some (.ref x0), none, some (.int (x2 + (1 : Int32)))]) ⟨rfl, rfl, trivial⟩ hr
theorem s126_65_w {sc : Option (Nat × (Nat → Int32))} {x0 : Nat} {x2 : Int32} {s : xS} {o : xH × Option Value} {r : (xS × Int32)} (k0 : oK x0 11 = true) (h : whl (fun q : (Int32 × xS) => f126_65 x0 q.1 q.2) (x2, s) = some r) (hr : dn126 o r) : Ev sc 8 126 [] 65 [some (.ref x0), none, some (.int x2)] [] (hk_of s) o := by
  refine whl_snd (E := fun q : (Int32 × xS) => Ev sc 8 126 [] 65 [some (.ref x0), none, some (.int q.1)] [] (hk_of q.2) o) (P := fun r => dn126 o r) (fun q r h hr => ?_) h hr
  exact s126_65 k0 h (by cases r <;> exact hr)
noncomputable def f126 (x0 : Nat) (s : xS) : Option (xS × Int32) := ifg (oK x0 11 = true) <| (hk_R x0 0).bind fun a1 => (f78 a1 s).bind fun z4 => (hk_R x0 2).bind fun a6 => (hk_R x0 0).bind fun a9 => (f72 a6 a9 z4.1).bind fun z12 => (hk_R x0 0).bind fun a14 => (pI z12.1 a14 1 (0 : Int32)).bind fun t17 => if z12.2 = 0 then (some (t17, (-1 : Int32))) else ((hk_R x0 1).bind fun a20 => (hk_R x0 2).bind fun a23 => (f71 a20 a23 t17).bind fun z26 => (hk_R x0 5).bind fun a28 => (hk_R x0 1).bind fun a31 => (f2 a28 a31 z26.1).bind fun z34 => (hk_R x0 3).bind fun a36 => (pI z34.1 a36 1 (0 : Int32)).bind fun t39 => whl (fun q : (Int32 × xS) => f126_65 x0 q.1 q.2) ((0 : Int32), t39))
set_option maxRecDepth 20000 in
theorem s126 {sc : Option (Nat × (Nat → Int32))} {x0 : Nat} {s : xS} {r : xS × Int32} (h : f126 x0 s = some r) : Cl sc 8 126 [.ref x0] (hk_of s) (hk_of r.1, some (.int r.2)) := by
  unfold f126 at h
  obtain ⟨k0, h⟩ := ifg_some h
  refine ⟨pg_md 126, [some (.ref x0), none, none], pg_mt_md (by decide), (hk_rcv k0), rfl, ?_⟩
  generalize ho : ((hk_of r.1, some (Value.int r.2)) : xH × Option Value) = o
  have hr : dn126 o r := ho.symm
  refine E_blk rfl ?_
  refine E_ps 1 (pc' := 1) (l' := [some (.ref x0), none, none]) (st' := [.ref x0]) rfl ?_
  obtain ⟨a1, e2, h⟩ := Option.bind_eq_some_iff.mp h
  refine E_gr k0 (by decide) rfl e2 ?_
  have kf3 : oK a1 8 = true := hk_rty k0 e2 rfl (by decide)
  obtain ⟨z4, e5, h⟩ := Option.bind_eq_some_iff.mp h
  refine E_callV (vs := [.ref a1]) (rest := []) rfl (by decide) rfl rfl (Nat.le_of_ble_eq_true rfl) (s78 e5) (by decide) ?_
  refine E_ps 1 (pc' := 8) (l' := [some (.ref x0), none, none]) (st' := [.ref x0]) rfl ?_
  obtain ⟨a6, e7, h⟩ := Option.bind_eq_some_iff.mp h
  refine E_gr k0 (by decide) rfl e7 ?_
  have kf8 : oK a6 7 = true := hk_rty k0 e7 rfl (by decide)
  refine E_ps 1 (pc' := 12) (l' := [some (.ref x0), none, none]) (st' := [.ref x0, .ref a6]) rfl ?_
  obtain ⟨a9, e10, h⟩ := Option.bind_eq_some_iff.mp h
  refine E_gr k0 (by decide) rfl e10 ?_
  have kf11 : oK a9 8 = true := hk_rty k0 e10 rfl (by decide)
  obtain ⟨z12, e13, h⟩ := Option.bind_eq_some_iff.mp h
  refine E_callI (vs := [.ref a6, .ref a9]) (rest := []) rfl (by decide) rfl rfl (Nat.le_of_ble_eq_true rfl) (s72 e13) (by decide) ?_
  refine E_ps 2 (pc' := 20) (l' := [some (.ref x0), some (.int z12.2), none]) (st' := [.ref x0]) rfl ?_
  obtain ⟨a14, e15, h⟩ := Option.bind_eq_some_iff.mp h
  refine E_gr k0 (by decide) rfl e15 ?_
  have kf16 : oK a14 8 = true := hk_rty k0 e15 rfl (by decide)
  refine E_ps 1 (pc' := 24) (l' := [some (.ref x0), some (.int z12.2), none]) (st' := [.int (0 : Int32), .ref a14]) rfl ?_
  obtain ⟨t17, e18, h⟩ := Option.bind_eq_some_iff.mp h
  refine E_pi kf16 (by decide) rfl e18 ?_
  refine E_ps 1 (pc' := 28) (l' := [some (.ref x0), some (.int z12.2), none]) (st' := [.int z12.2]) rfl ?_
  by_cases c19 : z12.2 = 0
  · rw [if_pos c19] at h
    refine E_jt rfl rfl c19 ?_
    refine E_blk rfl ?_
    refine E_ps 1 (pc' := 32) (l' := [some (.ref x0), some (.int z12.2), none]) (st' := [.int (-1 : Int32)]) rfl ?_
    cases h
    exact E_ret rfl (pg_mt_md (by decide)) rfl hr
  · rw [if_neg c19] at h
    refine E_jf rfl rfl c19 ?_
    refine E_blk rfl ?_
    refine E_ps 1 (pc' := 34) (l' := [some (.ref x0), some (.int z12.2), none]) (st' := [.ref x0]) rfl ?_
    obtain ⟨a20, e21, h⟩ := Option.bind_eq_some_iff.mp h
    refine E_gr k0 (by decide) rfl e21 ?_
    have kf22 : oK a20 7 = true := hk_rty k0 e21 rfl (by decide)
    refine E_ps 1 (pc' := 38) (l' := [some (.ref x0), some (.int z12.2), none]) (st' := [.ref x0, .ref a20]) rfl ?_
    obtain ⟨a23, e24, h⟩ := Option.bind_eq_some_iff.mp h
    refine E_gr k0 (by decide) rfl e24 ?_
    have kf25 : oK a23 7 = true := hk_rty k0 e24 rfl (by decide)
    obtain ⟨z26, e27, h⟩ := Option.bind_eq_some_iff.mp h
    refine E_callV (vs := [.ref a20, .ref a23]) (rest := []) rfl (by decide) rfl rfl (Nat.le_of_ble_eq_true rfl) (s71 e27) (by decide) ?_
    refine E_ps 1 (pc' := 45) (l' := [some (.ref x0), some (.int z12.2), none]) (st' := [.ref x0]) rfl ?_
    obtain ⟨a28, e29, h⟩ := Option.bind_eq_some_iff.mp h
    refine E_gr k0 (by decide) rfl e29 ?_
    have kf30 : oK a28 0 = true := hk_rty k0 e29 rfl (by decide)
    refine E_ps 1 (pc' := 49) (l' := [some (.ref x0), some (.int z12.2), none]) (st' := [.ref x0, .ref a28]) rfl ?_
    obtain ⟨a31, e32, h⟩ := Option.bind_eq_some_iff.mp h
    refine E_gr k0 (by decide) rfl e32 ?_
    have kf33 : oK a31 7 = true := hk_rty k0 e32 rfl (by decide)
    obtain ⟨z34, e35, h⟩ := Option.bind_eq_some_iff.mp h
    refine E_callV (vs := [.ref a28, .ref a31]) (rest := []) rfl (by decide) rfl rfl (Nat.le_of_ble_eq_true rfl) (s2 e35) (by decide) ?_
    refine E_ps 1 (pc' := 56) (l' := [some (.ref x0), some (.int z12.2), none]) (st' := [.ref x0]) rfl ?_
    obtain ⟨a36, e37, h⟩ := Option.bind_eq_some_iff.mp h
    refine E_gr k0 (by decide) rfl e37 ?_
    have kf38 : oK a36 4 = true := hk_rty k0 e37 rfl (by decide)
    refine E_ps 1 (pc' := 60) (l' := [some (.ref x0), some (.int z12.2), none]) (st' := [.int (0 : Int32), .ref a36]) rfl ?_
    obtain ⟨t39, e40, h⟩ := Option.bind_eq_some_iff.mp h
    refine E_pi kf38 (by decide) rfl e40 ?_
    refine E_ps 2 (pc' := 65) (l' := [some (.ref x0), some (.int z12.2), some (.int (0 : Int32))]) (st' := []) rfl ?_
    exact E_wk (l' := [some (.ref x0), none, some (.int (0 : Int32))]) ⟨rfl, rfl, trivial⟩ (s126_65_w k0 h hr)

-- 127: ThreePlates.order()I
def dn127 (o : xH × Option Value) (r : xS × Int32) : Prop := o = (hk_of r.1, some (.int r.2))
noncomputable def f127 (x0 : Nat) (s : xS) : Option (xS × Int32) := ifg (oK x0 11 = true) <| (hk_R x0 0).bind fun a1 => if (s.1 a1 1) ≤ (500 : Int32) then ((hk_R x0 0).bind fun a5 => (f78 a5 s).bind fun z8 => (hk_R x0 4).bind fun a10 => (hk_R x0 0).bind fun a13 => (hk_R x0 1).bind fun a16 => (f42 a10 a13 a16 z8.1).bind fun z19 => (hk_R x0 0).bind fun a21 => (pI z19.1 a21 1 (0 : Int32)).bind fun t24 => if z19.2 = 0 then (some (t24, (-1 : Int32))) else ((hk_R x0 3).bind fun a27 => (hk_R x0 4).bind fun a30 => (f41 a27 a30 t24).bind fun z33 => (f164 x0 z33.1).bind fun z35 => (hk_R x0 3).bind fun a37 => some (z35.1, (z35.1.1 a37 1)))) else (some (s, (-2 : Int32)))
set_option maxRecDepth 20000 in
theorem s127 {sc : Option (Nat × (Nat → Int32))} {x0 : Nat} {s : xS} {r : xS × Int32} (h : f127 x0 s = some r) : Cl sc 8 127 [.ref x0] (hk_of s) (hk_of r.1, some (.int r.2)) := by
  unfold f127 at h
  obtain ⟨k0, h⟩ := ifg_some h
  refine ⟨pg_md 127, [some (.ref x0), none], pg_mt_md (by decide), (hk_rcv k0), rfl, ?_⟩
  generalize ho : ((hk_of r.1, some (Value.int r.2)) : xH × Option Value) = o
  have hr : dn127 o r := ho.symm
  refine E_blk rfl ?_
  refine E_ps 1 (pc' := 1) (l' := [some (.ref x0), none]) (st' := [.ref x0]) rfl ?_
  obtain ⟨a1, e2, h⟩ := Option.bind_eq_some_iff.mp h
  refine E_gr k0 (by decide) rfl e2 ?_
  have kf3 : oK a1 8 = true := hk_rty k0 e2 rfl (by decide)
  refine E_gi kf3 (by decide) rfl ?_
  refine E_ps 1 (pc' := 10) (l' := [some (.ref x0), none]) (st' := [.int (500 : Int32), .int (s.1 a1 1)]) rfl ?_
  by_cases c4 : (s.1 a1 1) ≤ (500 : Int32)
  · rw [if_pos c4] at h
    refine E_jt rfl rfl c4 ?_
    refine E_blk rfl ?_
    refine E_ps 1 (pc' := 17) (l' := [some (.ref x0), none]) (st' := [.ref x0]) rfl ?_
    obtain ⟨a5, e6, h⟩ := Option.bind_eq_some_iff.mp h
    refine E_gr k0 (by decide) rfl e6 ?_
    have kf7 : oK a5 8 = true := hk_rty k0 e6 rfl (by decide)
    obtain ⟨z8, e9, h⟩ := Option.bind_eq_some_iff.mp h
    refine E_callV (vs := [.ref a5]) (rest := []) rfl (by decide) rfl rfl (Nat.le_of_ble_eq_true rfl) (s78 e9) (by decide) ?_
    refine E_ps 1 (pc' := 24) (l' := [some (.ref x0), none]) (st' := [.ref x0]) rfl ?_
    obtain ⟨a10, e11, h⟩ := Option.bind_eq_some_iff.mp h
    refine E_gr k0 (by decide) rfl e11 ?_
    have kf12 : oK a10 4 = true := hk_rty k0 e11 rfl (by decide)
    refine E_ps 1 (pc' := 28) (l' := [some (.ref x0), none]) (st' := [.ref x0, .ref a10]) rfl ?_
    obtain ⟨a13, e14, h⟩ := Option.bind_eq_some_iff.mp h
    refine E_gr k0 (by decide) rfl e14 ?_
    have kf15 : oK a13 8 = true := hk_rty k0 e14 rfl (by decide)
    refine E_ps 1 (pc' := 32) (l' := [some (.ref x0), none]) (st' := [.ref x0, .ref a13, .ref a10]) rfl ?_
    obtain ⟨a16, e17, h⟩ := Option.bind_eq_some_iff.mp h
    refine E_gr k0 (by decide) rfl e17 ?_
    have kf18 : oK a16 7 = true := hk_rty k0 e17 rfl (by decide)
    obtain ⟨z19, e20, h⟩ := Option.bind_eq_some_iff.mp h
    refine E_callI (vs := [.ref a10, .ref a13, .ref a16]) (rest := []) rfl (by decide) rfl rfl (Nat.le_of_ble_eq_true rfl) (s42 e20) (by decide) ?_
    refine E_ps 2 (pc' := 40) (l' := [some (.ref x0), some (.int z19.2)]) (st' := [.ref x0]) rfl ?_
    obtain ⟨a21, e22, h⟩ := Option.bind_eq_some_iff.mp h
    refine E_gr k0 (by decide) rfl e22 ?_
    have kf23 : oK a21 8 = true := hk_rty k0 e22 rfl (by decide)
    refine E_ps 1 (pc' := 44) (l' := [some (.ref x0), some (.int z19.2)]) (st' := [.int (0 : Int32), .ref a21]) rfl ?_
    obtain ⟨t24, e25, h⟩ := Option.bind_eq_some_iff.mp h
    refine E_pi kf23 (by decide) rfl e25 ?_
    refine E_ps 1 (pc' := 48) (l' := [some (.ref x0), some (.int z19.2)]) (st' := [.int z19.2]) rfl ?_
    by_cases c26 : z19.2 = 0
    · rw [if_pos c26] at h
      refine E_jt rfl rfl c26 ?_
      refine E_blk rfl ?_
      refine E_ps 1 (pc' := 52) (l' := [some (.ref x0), some (.int z19.2)]) (st' := [.int (-1 : Int32)]) rfl ?_
      cases h
      exact E_ret rfl (pg_mt_md (by decide)) rfl hr
    · rw [if_neg c26] at h
      refine E_jf rfl rfl c26 ?_
      refine E_blk rfl ?_
      refine E_ps 1 (pc' := 54) (l' := [some (.ref x0), some (.int z19.2)]) (st' := [.ref x0]) rfl ?_
      obtain ⟨a27, e28, h⟩ := Option.bind_eq_some_iff.mp h
      refine E_gr k0 (by decide) rfl e28 ?_
      have kf29 : oK a27 4 = true := hk_rty k0 e28 rfl (by decide)
      refine E_ps 1 (pc' := 58) (l' := [some (.ref x0), some (.int z19.2)]) (st' := [.ref x0, .ref a27]) rfl ?_
      obtain ⟨a30, e31, h⟩ := Option.bind_eq_some_iff.mp h
      refine E_gr k0 (by decide) rfl e31 ?_
      have kf32 : oK a30 4 = true := hk_rty k0 e31 rfl (by decide)
      obtain ⟨z33, e34, h⟩ := Option.bind_eq_some_iff.mp h
      refine E_callV (vs := [.ref a27, .ref a30]) (rest := []) rfl (by decide) rfl rfl (Nat.le_of_ble_eq_true rfl) (s41 e34) (by decide) ?_
      refine E_ps 1 (pc' := 65) (l' := [some (.ref x0), some (.int z19.2)]) (st' := [.ref x0]) rfl ?_
      obtain ⟨z35, e36, h⟩ := Option.bind_eq_some_iff.mp h
      refine E_callV (vs := [.ref x0]) (rest := []) rfl (by decide) rfl rfl (Nat.le_of_ble_eq_true rfl) (s164 e36) (by decide) ?_
      refine E_ps 1 (pc' := 69) (l' := [some (.ref x0), some (.int z19.2)]) (st' := [.ref x0]) rfl ?_
      obtain ⟨a37, e38, h⟩ := Option.bind_eq_some_iff.mp h
      refine E_gr k0 (by decide) rfl e38 ?_
      have kf39 : oK a37 4 = true := hk_rty k0 e38 rfl (by decide)
      refine E_gi kf39 (by decide) rfl ?_
      cases h
      exact E_ret rfl (pg_mt_md (by decide)) rfl hr
  · rw [if_neg c4] at h
    refine E_jf rfl rfl c4 ?_
    refine E_blk rfl ?_
    refine E_ps 1 (pc' := 15) (l' := [some (.ref x0), none]) (st' := [.int (-2 : Int32)]) rfl ?_
    cases h
    exact E_ret rfl (pg_mt_md (by decide)) rfl hr

-- 128: ThreePlates.fault(I)I
def dn128 (o : xH × Option Value) (r : xS × Int32) : Prop := o = (hk_of r.1, some (.int r.2))
noncomputable def f128_28 (y0 : Int32) (s : xS) : Option (xS × Int32) := some (s, y0)
set_option maxRecDepth 20000 in
theorem s128_28 {sc : Option (Nat × (Nat → Int32))} {y0 : Int32} {s : xS} {o : xH × Option Value} {r : (xS × Int32)}  (h : f128_28 y0 s = some r) (hr : dn128 o r) : Ev sc 1 128 [] 28 [none, none] [.int y0] (hk_of s) o := by
  unfold f128_28 at h
  refine E_blk rfl ?_
  cases h
  exact E_ret rfl (pg_mt_md (by decide)) rfl hr
noncomputable def f128 (x0 : Nat) (x1 : Int32) (s : xS) : Option (xS × Int32) := ifg (oK x0 11 = true) <| if x1 = 0 then ((hk_R x0 0).bind fun a2 => some (s, (s.1 a2 2))) else (if x1 = (1 : Int32) then ((hk_R x0 0).bind fun a6 => f128_28 (s.1 a6 3) s) else (f128_28 (-1 : Int32) s))
set_option maxRecDepth 20000 in
theorem s128 {sc : Option (Nat × (Nat → Int32))} {x0 : Nat} {x1 : Int32} {s : xS} {r : xS × Int32} (h : f128 x0 x1 s = some r) : Cl sc 1 128 [.ref x0, .int x1] (hk_of s) (hk_of r.1, some (.int r.2)) := by
  unfold f128 at h
  obtain ⟨k0, h⟩ := ifg_some h
  refine ⟨pg_md 128, [some (.ref x0), some (.int x1)], pg_mt_md (by decide), (hk_rcv k0), rfl, ?_⟩
  generalize ho : ((hk_of r.1, some (Value.int r.2)) : xH × Option Value) = o
  have hr : dn128 o r := ho.symm
  refine E_blk rfl ?_
  refine E_ps 1 (pc' := 1) (l' := [some (.ref x0), some (.int x1)]) (st' := [.int x1]) rfl ?_
  by_cases c1 : x1 = 0
  · rw [if_pos c1] at h
    refine E_jt rfl rfl c1 ?_
    refine E_blk rfl ?_
    refine E_ps 1 (pc' := 5) (l' := [some (.ref x0), some (.int x1)]) (st' := [.ref x0]) rfl ?_
    obtain ⟨a2, e3, h⟩ := Option.bind_eq_some_iff.mp h
    refine E_gr k0 (by decide) rfl e3 ?_
    have kf4 : oK a2 8 = true := hk_rty k0 e3 rfl (by decide)
    refine E_gi kf4 (by decide) rfl ?_
    cases h
    exact E_ret rfl (pg_mt_md (by decide)) rfl hr
  · rw [if_neg c1] at h
    refine E_jf rfl rfl c1 ?_
    refine E_blk rfl ?_
    refine E_ps 2 (pc' := 14) (l' := [some (.ref x0), some (.int x1)]) (st' := [.int (1 : Int32), .int x1]) rfl ?_
    by_cases c5 : x1 = (1 : Int32)
    · rw [if_pos c5] at h
      refine E_jt rfl rfl c5 ?_
      refine E_blk rfl ?_
      refine E_ps 1 (pc' := 18) (l' := [some (.ref x0), some (.int x1)]) (st' := [.ref x0]) rfl ?_
      obtain ⟨a6, e7, h⟩ := Option.bind_eq_some_iff.mp h
      refine E_gr k0 (by decide) rfl e7 ?_
      have kf8 : oK a6 8 = true := hk_rty k0 e7 rfl (by decide)
      refine E_gi kf8 (by decide) rfl ?_
      refine E_j rfl rfl ?_
      exact E_wk (l' := [none, none]) trivial (s128_28  h hr)
    · rw [if_neg c5] at h
      refine E_jf rfl rfl c5 ?_
      refine E_blk rfl ?_
      refine E_ps 1 (pc' := 28) (l' := [some (.ref x0), some (.int x1)]) (st' := [.int (-1 : Int32)]) rfl ?_
      exact E_wk (l' := [none, none]) trivial (s128_28  h hr)

-- 129: ThreePlates.height(II)I
def dn129 (o : xH × Option Value) (r : xS × Int32) : Prop := o = (hk_of r.1, some (.int r.2))
noncomputable def f129_31 (y0 : Int32) (s : xS) : Option (xS × Int32) := some (s, y0)
set_option maxRecDepth 20000 in
theorem s129_31 {sc : Option (Nat × (Nat → Int32))} {y0 : Int32} {s : xS} {o : xH × Option Value} {r : (xS × Int32)}  (h : f129_31 y0 s = some r) (hr : dn129 o r) : Ev sc 3 129 [] 31 [none, none, none] [.int y0] (hk_of s) o := by
  unfold f129_31 at h
  refine E_blk rfl ?_
  cases h
  exact E_ret rfl (pg_mt_md (by decide)) rfl hr
noncomputable def f129 (x0 : Nat) (x1 : Int32) (x2 : Int32) (s : xS) : Option (xS × Int32) := ifg (oK x0 11 = true) <| (hk_R x0 1).bind fun a1 => (f67 a1 x1 x2 s).bind fun z4 => if z4.2 = 0 then (f129_31 (-100000 : Int32) z4.1) else ((hk_R x0 5).bind fun a7 => (hk_R a7 0).bind fun a10 => (aI z4.1 a10 ((x1 * (25 : Int32)) + x2)).bind fun v12 => f129_31 v12 z4.1)
set_option maxRecDepth 20000 in
theorem s129 {sc : Option (Nat × (Nat → Int32))} {x0 : Nat} {x1 : Int32} {x2 : Int32} {s : xS} {r : xS × Int32} (h : f129 x0 x1 x2 s = some r) : Cl sc 3 129 [.ref x0, .int x1, .int x2] (hk_of s) (hk_of r.1, some (.int r.2)) := by
  unfold f129 at h
  obtain ⟨k0, h⟩ := ifg_some h
  refine ⟨pg_md 129, [some (.ref x0), some (.int x1), some (.int x2)], pg_mt_md (by decide), (hk_rcv k0), rfl, ?_⟩
  generalize ho : ((hk_of r.1, some (Value.int r.2)) : xH × Option Value) = o
  have hr : dn129 o r := ho.symm
  refine E_blk rfl ?_
  refine E_ps 1 (pc' := 1) (l' := [some (.ref x0), some (.int x1), some (.int x2)]) (st' := [.ref x0]) rfl ?_
  obtain ⟨a1, e2, h⟩ := Option.bind_eq_some_iff.mp h
  refine E_gr k0 (by decide) rfl e2 ?_
  have kf3 : oK a1 7 = true := hk_rty k0 e2 rfl (by decide)
  refine E_ps 2 (pc' := 6) (l' := [some (.ref x0), some (.int x1), some (.int x2)]) (st' := [.int x2, .int x1, .ref a1]) rfl ?_
  obtain ⟨z4, e5, h⟩ := Option.bind_eq_some_iff.mp h
  refine E_callI (vs := [.ref a1, .int x1, .int x2]) (rest := []) rfl (by decide) rfl rfl (Nat.le_of_ble_eq_true rfl) (s67 e5) (by decide) ?_
  by_cases c6 : z4.2 = 0
  · rw [if_pos c6] at h
    refine E_jt rfl rfl c6 ?_
    refine E_blk rfl ?_
    refine E_ps 1 (pc' := 31) (l' := [some (.ref x0), some (.int x1), some (.int x2)]) (st' := [.int (-100000 : Int32)]) rfl ?_
    exact E_wk (l' := [none, none, none]) trivial (s129_31  h hr)
  · rw [if_neg c6] at h
    refine E_jf rfl rfl c6 ?_
    refine E_blk rfl ?_
    refine E_ps 1 (pc' := 13) (l' := [some (.ref x0), some (.int x1), some (.int x2)]) (st' := [.ref x0]) rfl ?_
    obtain ⟨a7, e8, h⟩ := Option.bind_eq_some_iff.mp h
    refine E_gr k0 (by decide) rfl e8 ?_
    have kf9 : oK a7 0 = true := hk_rty k0 e8 rfl (by decide)
    obtain ⟨a10, e11, h⟩ := Option.bind_eq_some_iff.mp h
    refine E_gr kf9 (by decide) rfl e11 ?_
    refine E_ps 5 (pc' := 25) (l' := [some (.ref x0), some (.int x1), some (.int x2)]) (st' := [.int ((x1 * (25 : Int32)) + x2), .ref a10]) rfl ?_
    obtain ⟨v12, e13, h⟩ := Option.bind_eq_some_iff.mp h
    refine E_ai e13 ?_
    refine E_j rfl rfl ?_
    exact E_wk (l' := [none, none, none]) trivial (s129_31  h hr)

-- 130: ThreePlates.seems(II)I
def dn130 (o : xH × Option Value) (r : xS × Int32) : Prop := o = (hk_of r.1, some (.int r.2))
noncomputable def f130_30 (y0 : Int32) (s : xS) : Option (xS × Int32) := some (s, y0)
set_option maxRecDepth 20000 in
theorem s130_30 {sc : Option (Nat × (Nat → Int32))} {y0 : Int32} {s : xS} {o : xH × Option Value} {r : (xS × Int32)}  (h : f130_30 y0 s = some r) (hr : dn130 o r) : Ev sc 3 130 [] 30 [none, none, none] [.int y0] (hk_of s) o := by
  unfold f130_30 at h
  refine E_blk rfl ?_
  cases h
  exact E_ret rfl (pg_mt_md (by decide)) rfl hr
noncomputable def f130 (x0 : Nat) (x1 : Int32) (x2 : Int32) (s : xS) : Option (xS × Int32) := ifg (oK x0 11 = true) <| (hk_R x0 1).bind fun a1 => (f67 a1 x1 x2 s).bind fun z4 => if z4.2 = 0 then (f130_30 (-100000 : Int32) z4.1) else ((hk_R x0 5).bind fun a7 => (f4 a7 ((x1 * (25 : Int32)) + x2) z4.1).bind fun z10 => f130_30 z10.2 z10.1)
set_option maxRecDepth 20000 in
theorem s130 {sc : Option (Nat × (Nat → Int32))} {x0 : Nat} {x1 : Int32} {x2 : Int32} {s : xS} {r : xS × Int32} (h : f130 x0 x1 x2 s = some r) : Cl sc 3 130 [.ref x0, .int x1, .int x2] (hk_of s) (hk_of r.1, some (.int r.2)) := by
  unfold f130 at h
  obtain ⟨k0, h⟩ := ifg_some h
  refine ⟨pg_md 130, [some (.ref x0), some (.int x1), some (.int x2)], pg_mt_md (by decide), (hk_rcv k0), rfl, ?_⟩
  generalize ho : ((hk_of r.1, some (Value.int r.2)) : xH × Option Value) = o
  have hr : dn130 o r := ho.symm
  refine E_blk rfl ?_
  refine E_ps 1 (pc' := 1) (l' := [some (.ref x0), some (.int x1), some (.int x2)]) (st' := [.ref x0]) rfl ?_
  obtain ⟨a1, e2, h⟩ := Option.bind_eq_some_iff.mp h
  refine E_gr k0 (by decide) rfl e2 ?_
  have kf3 : oK a1 7 = true := hk_rty k0 e2 rfl (by decide)
  refine E_ps 2 (pc' := 6) (l' := [some (.ref x0), some (.int x1), some (.int x2)]) (st' := [.int x2, .int x1, .ref a1]) rfl ?_
  obtain ⟨z4, e5, h⟩ := Option.bind_eq_some_iff.mp h
  refine E_callI (vs := [.ref a1, .int x1, .int x2]) (rest := []) rfl (by decide) rfl rfl (Nat.le_of_ble_eq_true rfl) (s67 e5) (by decide) ?_
  by_cases c6 : z4.2 = 0
  · rw [if_pos c6] at h
    refine E_jt rfl rfl c6 ?_
    refine E_blk rfl ?_
    refine E_ps 1 (pc' := 30) (l' := [some (.ref x0), some (.int x1), some (.int x2)]) (st' := [.int (-100000 : Int32)]) rfl ?_
    exact E_wk (l' := [none, none, none]) trivial (s130_30  h hr)
  · rw [if_neg c6] at h
    refine E_jf rfl rfl c6 ?_
    refine E_blk rfl ?_
    refine E_ps 1 (pc' := 13) (l' := [some (.ref x0), some (.int x1), some (.int x2)]) (st' := [.ref x0]) rfl ?_
    obtain ⟨a7, e8, h⟩ := Option.bind_eq_some_iff.mp h
    refine E_gr k0 (by decide) rfl e8 ?_
    have kf9 : oK a7 0 = true := hk_rty k0 e8 rfl (by decide)
    refine E_ps 5 (pc' := 22) (l' := [some (.ref x0), some (.int x1), some (.int x2)]) (st' := [.int ((x1 * (25 : Int32)) + x2), .ref a7]) rfl ?_
    obtain ⟨z10, e11, h⟩ := Option.bind_eq_some_iff.mp h
    refine E_callI (vs := [.ref a7, .int ((x1 * (25 : Int32)) + x2)]) (rest := []) rfl (by decide) rfl rfl (Nat.le_of_ble_eq_true rfl) (s4 e11) (by decide) ?_
    refine E_j rfl rfl ?_
    exact E_wk (l' := [none, none, none]) trivial (s130_30  h hr)
