-- 247: ThreePlatesModel.until(I)I
def dn247 (o : xH × Option Value) (r : xS × Int32) : Prop := o = (hk_of r.1, some (.int r.2))
def dn247_33 (sc : Option (Nat × (Nat → Int32))) (x0 : Nat) (x1 : Int32) (o : xH × Option Value) (r : ((Int32 × Int32 × xS) ⊕ (xS × Int32))) : Prop := match r with
  | .inl q => Ev sc 8 247 [] 33 [some (.ref x0), some (.int x1), some (.int q.1), some (.int q.2.1), none] [] (hk_of q.2.2) o
  | .inr r => dn247 o r
noncomputable def f247_67 (x0 : Nat) (x1 : Int32) (y0 : Int32) (y1 : Int32) (s : xS) : Option ((Int32 × Int32 × xS) ⊕ (xS × Int32)) := (f234 x0 x1 s).bind fun z1 => some (Sum.inl ((y1 + y0), z1.2, z1.1))
set_option maxRecDepth 20000 in
theorem s247_67 {sc : Option (Nat × (Nat → Int32))} {x0 : Nat} {x1 : Int32} {y0 : Int32} {y1 : Int32} {s : xS} {o : xH × Option Value} {r : ((Int32 × Int32 × xS) ⊕ (xS × Int32))} (k0 : oK x0 12 = true) (h : f247_67 x0 x1 y0 y1 s = some r) (hr : dn247_33 sc x0 x1 o r) : Ev sc 8 247 [] 67 [some (.ref x0), some (.int x1), none, none, none] [.int y0, .int y1] (hk_of s) o := by
  unfold f247_67 at h
  refine E_blk rfl ?_
  refine E_ps 4 (pc' := 71) (l' := [some (.ref x0), some (.int x1), some (.int (y1 + y0)), none, none]) (st' := [.int x1, .ref x0]) rfl ?_
  obtain ⟨z1, e2, h⟩ := Option.bind_eq_some_iff.mp h
  refine E_callI (vs := [.ref x0, .int x1]) (rest := []) rfl (by decide) rfl rfl (Nat.le_of_ble_eq_true rfl) (s234 e2) (by decide) ?_
  refine E_ps 1 (pc' := 75) (l' := [some (.ref x0), some (.int x1), some (.int (y1 + y0)), some (.int z1.2), none]) (st' := []) rfl ?_
  refine E_j rfl rfl ?_
  cases h
  exact E_wk (l' := [some (.ref x0), some (.int x1), some (.int (y1 + y0)), some (.int z1.2), none]) ⟨rfl, rfl, rfl, rfl, trivial⟩ hr
noncomputable def f247_92 (y0 : Int32) (s : xS) : Option (xS × Int32) := some (s, y0)
set_option maxRecDepth 20000 in
theorem s247_92 {sc : Option (Nat × (Nat → Int32))} {y0 : Int32} {s : xS} {o : xH × Option Value} {r : (xS × Int32)}  (h : f247_92 y0 s = some r) (hr : dn247 o r) : Ev sc 8 247 [] 92 [none, none, none, none, none] [.int y0] (hk_of s) o := by
  unfold f247_92 at h
  refine E_blk rfl ?_
  cases h
  exact E_ret rfl (pg_mt_md (by decide)) rfl hr
noncomputable def f247_78 (x0 : Nat) (x2 : Int32) (x3 : Int32) (s : xS) : Option (xS × Int32) := (f246 x0 (3 : Int32) s).bind fun z1 => if x3 = 0 then (f247_92 (-1 : Int32) z1.1) else (f247_92 x2 z1.1)
set_option maxRecDepth 20000 in
theorem s247_78 {sc : Option (Nat × (Nat → Int32))} {x0 : Nat} {x2 : Int32} {x3 : Int32} {s : xS} {o : xH × Option Value} {r : (xS × Int32)} (k0 : oK x0 12 = true) (h : f247_78 x0 x2 x3 s = some r) (hr : dn247 o r) : Ev sc 8 247 [] 78 [some (.ref x0), none, some (.int x2), some (.int x3), none] [] (hk_of s) o := by
  unfold f247_78 at h
  refine E_blk rfl ?_
  refine E_ps 2 (pc' := 80) (l' := [some (.ref x0), none, some (.int x2), some (.int x3), none]) (st' := [.int (3 : Int32), .ref x0]) rfl ?_
  obtain ⟨z1, e2, h⟩ := Option.bind_eq_some_iff.mp h
  refine E_callV (vs := [.ref x0, .int (3 : Int32)]) (rest := []) rfl (by decide) rfl rfl (Nat.le_of_ble_eq_true rfl) (s246 e2) (by decide) ?_
  refine E_ps 1 (pc' := 84) (l' := [some (.ref x0), none, some (.int x2), some (.int x3), none]) (st' := [.int x3]) rfl ?_
  by_cases c3 : x3 = 0
  · rw [if_pos c3] at h
    refine E_jt rfl rfl c3 ?_
    refine E_blk rfl ?_
    refine E_ps 1 (pc' := 92) (l' := [some (.ref x0), none, some (.int x2), some (.int x3), none]) (st' := [.int (-1 : Int32)]) rfl ?_
    exact E_wk (l' := [none, none, none, none, none]) trivial (s247_92  h hr)
  · rw [if_neg c3] at h
    refine E_jf rfl rfl c3 ?_
    refine E_blk rfl ?_
    refine E_ps 1 (pc' := 88) (l' := [some (.ref x0), none, some (.int x2), some (.int x3), none]) (st' := [.int x2]) rfl ?_
    refine E_j rfl rfl ?_
    exact E_wk (l' := [none, none, none, none, none]) trivial (s247_92  h hr)
noncomputable def f247_33 (x0 : Nat) (x1 : Int32) (x2 : Int32) (x3 : Int32) (s : xS) : Option ((Int32 × Int32 × xS) ⊕ (xS × Int32)) := if x3 = 0 then (if (300 : Int32) ≤ x2 then (Option.map Sum.inr (f247_78 x0 x2 x3 s)) else (ifg (¬ (s.1 x0 37) = 0) <| (f228 x0 (irm x2 (s.1 x0 37)) s).bind fun z4 => if 0 ≤ z4.2 then (f247_67 x0 x1 (1 : Int32) x2 z4.1) else (f247_67 x0 x1 (0 : Int32) x2 z4.1))) else (Option.map Sum.inr (f247_78 x0 x2 x3 s))
set_option maxRecDepth 20000 in
theorem s247_33 {sc : Option (Nat × (Nat → Int32))} {x0 : Nat} {x1 : Int32} {x2 : Int32} {x3 : Int32} {s : xS} {o : xH × Option Value} {r : ((Int32 × Int32 × xS) ⊕ (xS × Int32))} (k0 : oK x0 12 = true) (h : f247_33 x0 x1 x2 x3 s = some r) (hr : dn247_33 sc x0 x1 o r) : Ev sc 8 247 [] 33 [some (.ref x0), some (.int x1), some (.int x2), some (.int x3), none] [] (hk_of s) o := by
  unfold f247_33 at h
  refine E_blk rfl ?_
  refine E_ps 1 (pc' := 34) (l' := [some (.ref x0), some (.int x1), some (.int x2), some (.int x3), none]) (st' := [.int x3]) rfl ?_
  by_cases c1 : x3 = 0
  · rw [if_pos c1] at h
    refine E_jt rfl rfl c1 ?_
    refine E_blk rfl ?_
    refine E_ps 2 (pc' := 41) (l' := [some (.ref x0), some (.int x1), some (.int x2), some (.int x3), none]) (st' := [.int (300 : Int32), .int x2]) rfl ?_
    by_cases c2 : (300 : Int32) ≤ x2
    · rw [if_pos c2] at h
      refine E_jt rfl rfl c2 ?_
      obtain ⟨r, h, hr⟩ := lf_some (Dn := dn247_33 sc x0 x1 o) h hr
      exact E_wk (l' := [some (.ref x0), none, some (.int x2), some (.int x3), none]) ⟨rfl, rfl, rfl, trivial⟩ (s247_78 k0 h hr)
    · rw [if_neg c2] at h
      refine E_jf rfl rfl c2 ?_
      refine E_blk rfl ?_
      refine E_ps 3 (pc' := 47) (l' := [some (.ref x0), some (.int x1), some (.int x2), some (.int x3), none]) (st' := [.ref x0, .int x2, .ref x0]) rfl ?_
      refine E_gi k0 (by decide) rfl ?_
      obtain ⟨g3, h⟩ := ifg_some h
      refine E_irem g3 ?_
      obtain ⟨z4, e5, h⟩ := Option.bind_eq_some_iff.mp h
      refine E_callI (vs := [.ref x0, .int (irm x2 (s.1 x0 37))]) (rest := []) rfl (by decide) rfl rfl (Nat.le_of_ble_eq_true rfl) (s228 e5) (by decide) ?_
      refine E_ps 3 (pc' := 59) (l' := [some (.ref x0), some (.int x1), some (.int x2), some (.int x3), some (.int z4.2)]) (st' := [.int z4.2, .int x2]) rfl ?_
      by_cases c6 : 0 ≤ z4.2
      · rw [if_pos c6] at h
        refine E_jt rfl rfl c6 ?_
        refine E_blk rfl ?_
        refine E_ps 1 (pc' := 67) (l' := [some (.ref x0), some (.int x1), some (.int x2), some (.int x3), some (.int z4.2)]) (st' := [.int (1 : Int32), .int x2]) rfl ?_
        exact E_wk (l' := [some (.ref x0), some (.int x1), none, none, none]) ⟨rfl, rfl, trivial⟩ (s247_67 k0 h hr)
      · rw [if_neg c6] at h
        refine E_jf rfl rfl c6 ?_
        refine E_blk rfl ?_
        refine E_ps 1 (pc' := 63) (l' := [some (.ref x0), some (.int x1), some (.int x2), some (.int x3), some (.int z4.2)]) (st' := [.int (0 : Int32), .int x2]) rfl ?_
        refine E_j rfl rfl ?_
        exact E_wk (l' := [some (.ref x0), some (.int x1), none, none, none]) ⟨rfl, rfl, trivial⟩ (s247_67 k0 h hr)
  · rw [if_neg c1] at h
    refine E_jf rfl rfl c1 ?_
    obtain ⟨r, h, hr⟩ := lf_some (Dn := dn247_33 sc x0 x1 o) h hr
    exact E_wk (l' := [some (.ref x0), none, some (.int x2), some (.int x3), none]) ⟨rfl, rfl, rfl, trivial⟩ (s247_78 k0 h hr)
theorem s247_33_w {sc : Option (Nat × (Nat → Int32))} {x0 : Nat} {x1 : Int32} {x2 : Int32} {x3 : Int32} {s : xS} {o : xH × Option Value} {r : (xS × Int32)} (k0 : oK x0 12 = true) (h : whl (fun q : (Int32 × Int32 × xS) => f247_33 x0 x1 q.1 q.2.1 q.2.2) (x2, x3, s) = some r) (hr : dn247 o r) : Ev sc 8 247 [] 33 [some (.ref x0), some (.int x1), some (.int x2), some (.int x3), none] [] (hk_of s) o := by
  refine whl_snd (E := fun q : (Int32 × Int32 × xS) => Ev sc 8 247 [] 33 [some (.ref x0), some (.int x1), some (.int q.1), some (.int q.2.1), none] [] (hk_of q.2.2) o) (P := fun r => dn247 o r) (fun q r h hr => ?_) h hr
  exact s247_33 k0 h (by cases r <;> exact hr)
noncomputable def f247_18  (s : xS) : Option (xS × Int32) := some (s, (-1 : Int32))
set_option maxRecDepth 20000 in
theorem s247_18 {sc : Option (Nat × (Nat → Int32))}  {s : xS} {o : xH × Option Value} {r : (xS × Int32)}  (h : f247_18  s = some r) (hr : dn247 o r) : Ev sc 8 247 [] 18 [none, none, none, none, none] [] (hk_of s) o := by
  unfold f247_18 at h
  refine E_blk rfl ?_
  refine E_ps 1 (pc' := 19) (l' := [none, none, none, none, none]) (st' := [.int (-1 : Int32)]) rfl ?_
  cases h
  exact E_ret rfl (pg_mt_md (by decide)) rfl hr
noncomputable def f247 (x0 : Nat) (x1 : Int32) (s : xS) : Option (xS × Int32) := ifg (oK x0 12 = true) <| (f195 x1 (0 : Int32) (999 : Int32) s).bind fun z1 => if z1.2 = 0 then (f247_18  z1.1) else (if (z1.1.1 x0 37) = 0 then (f247_18  z1.1) else ((f245 x0 (3 : Int32) z1.1).bind fun z5 => (f234 x0 x1 z5.1).bind fun z7 => whl (fun q : (Int32 × Int32 × xS) => f247_33 x0 x1 q.1 q.2.1 q.2.2) ((0 : Int32), z7.2, z7.1)))
set_option maxRecDepth 20000 in
theorem s247 {sc : Option (Nat × (Nat → Int32))} {x0 : Nat} {x1 : Int32} {s : xS} {r : xS × Int32} (h : f247 x0 x1 s = some r) : Cl sc 8 247 [.ref x0, .int x1] (hk_of s) (hk_of r.1, some (.int r.2)) := by
  unfold f247 at h
  obtain ⟨k0, h⟩ := ifg_some h
  refine ⟨pg_md 247, [some (.ref x0), some (.int x1), none, none, none], pg_mt_md (by decide), (hk_rcv k0), rfl, ?_⟩
  generalize ho : ((hk_of r.1, some (Value.int r.2)) : xH × Option Value) = o
  have hr : dn247 o r := ho.symm
  refine E_blk rfl ?_
  refine E_ps 3 (pc' := 5) (l' := [some (.ref x0), some (.int x1), none, none, none]) (st' := [.int (999 : Int32), .int (0 : Int32), .int x1]) rfl ?_
  obtain ⟨z1, e2, h⟩ := Option.bind_eq_some_iff.mp h
  refine E_callI (vs := [.int x1, .int (0 : Int32), .int (999 : Int32)]) (rest := []) rfl (by decide) rfl rfl (Nat.le_of_ble_eq_true rfl) (s195 e2) (by decide) ?_
  by_cases c3 : z1.2 = 0
  · rw [if_pos c3] at h
    refine E_jt rfl rfl c3 ?_
    exact E_wk (l' := [none, none, none, none, none]) trivial (s247_18  h hr)
  · rw [if_neg c3] at h
    refine E_jf rfl rfl c3 ?_
    refine E_blk rfl ?_
    refine E_ps 1 (pc' := 12) (l' := [some (.ref x0), some (.int x1), none, none, none]) (st' := [.ref x0]) rfl ?_
    refine E_gi k0 (by decide) rfl ?_
    by_cases c4 : (z1.1.1 x0 37) = 0
    · rw [if_pos c4] at h
      refine E_jt rfl rfl c4 ?_
      exact E_wk (l' := [none, none, none, none, none]) trivial (s247_18  h hr)
    · rw [if_neg c4] at h
      refine E_jf rfl rfl c4 ?_
      refine E_blk rfl ?_
      refine E_ps 2 (pc' := 22) (l' := [some (.ref x0), some (.int x1), none, none, none]) (st' := [.int (3 : Int32), .ref x0]) rfl ?_
      obtain ⟨z5, e6, h⟩ := Option.bind_eq_some_iff.mp h
      refine E_callV (vs := [.ref x0, .int (3 : Int32)]) (rest := []) rfl (by decide) rfl rfl (Nat.le_of_ble_eq_true rfl) (s245 e6) (by decide) ?_
      refine E_ps 4 (pc' := 29) (l' := [some (.ref x0), some (.int x1), some (.int (0 : Int32)), none, none]) (st' := [.int x1, .ref x0]) rfl ?_
      obtain ⟨z7, e8, h⟩ := Option.bind_eq_some_iff.mp h
      refine E_callI (vs := [.ref x0, .int x1]) (rest := []) rfl (by decide) rfl rfl (Nat.le_of_ble_eq_true rfl) (s234 e8) (by decide) ?_
      refine E_ps 1 (pc' := 33) (l' := [some (.ref x0), some (.int x1), some (.int (0 : Int32)), some (.int z7.2), none]) (st' := []) rfl ?_
      exact E_wk (l' := [some (.ref x0), some (.int x1), some (.int (0 : Int32)), some (.int z7.2), none]) ⟨rfl, rfl, rfl, rfl, trivial⟩ (s247_33_w k0 h hr)

-- 248: ThreePlatesModel.findDeep(I)I
def dn248 (o : xH × Option Value) (r : xS × Int32) : Prop := o = (hk_of r.1, some (.int r.2))
def dn248_25 (sc : Option (Nat × (Nat → Int32))) (x0 : Nat) (x1 : Int32) (x3 : Int32) (o : xH × Option Value) (r : ((Int32 × Int32 × xS) ⊕ (xS × Int32))) : Prop := match r with
  | .inl q => Ev sc 7 248 [] 25 [some (.ref x0), some (.int x1), some (.int q.1), some (.int x3), some (.int q.2.1), none] [] (hk_of q.2.2) o
  | .inr r => dn248 o r
def dn248_35 (sc : Option (Nat × (Nat → Int32))) (x0 : Nat) (x1 : Int32) (x2 : Int32) (x3 : Int32) (x4 : Int32) (o : xH × Option Value) (r : ((Int32 × xS) ⊕ ((Int32 × Int32 × xS) ⊕ (xS × Int32)))) : Prop := match r with
  | .inl q => Ev sc 7 248 [] 35 [some (.ref x0), some (.int x1), some (.int x2), some (.int x3), some (.int x4), some (.int q.1)] [] (hk_of q.2) o
  | .inr r => dn248_25 sc x0 x1 x3 o r
noncomputable def f248_152 (x0 : Nat) (x1 : Int32) (x2 : Int32) (x3 : Int32) (x4 : Int32) (s : xS) : Option ((Int32 × Int32 × xS) ⊕ (xS × Int32)) := some (Sum.inl (x2, (x4 + (1 : Int32)), s))
set_option maxRecDepth 20000 in
theorem s248_152 {sc : Option (Nat × (Nat → Int32))} {x0 : Nat} {x1 : Int32} {x2 : Int32} {x3 : Int32} {x4 : Int32} {s : xS} {o : xH × Option Value} {r : ((Int32 × Int32 × xS) ⊕ (xS × Int32))} (k0 : oK x0 12 = true) (h : f248_152 x0 x1 x2 x3 x4 s = some r) (hr : dn248_25 sc x0 x1 x3 o r) : Ev sc 7 248 [] 152 [some (.ref x0), some (.int x1), some (.int x2), some (.int x3), some (.int x4), none] [] (hk_of s) o := by
  unfold f248_152 at h
  refine E_blk rfl ?_
  refine E_ps 1 (pc' := 155) (l' := [some (.ref x0), some (.int x1), some (.int x2), some (.int x3), some (.int (x4 + (1 : Int32))), none]) (st' := []) rfl ?_
  refine E_j rfl rfl ?_
  cases h
  exact E_wk (l' := [some (.ref x0), some (.int x1), some (.int x2), some (.int x3), some (.int (x4 + (1 : Int32))), none]) ⟨rfl, rfl, rfl, rfl, rfl, trivial⟩ hr
noncomputable def f248_83 (x0 : Nat) (x1 : Int32) (x2 : Int32) (x3 : Int32) (x4 : Int32) (x5 : Int32) (s : xS) : Option ((Int32 × xS) ⊕ ((Int32 × Int32 × xS) ⊕ (xS × Int32))) := some (Sum.inl ((x5 + (1 : Int32)), s))
set_option maxRecDepth 20000 in
theorem s248_83 {sc : Option (Nat × (Nat → Int32))} {x0 : Nat} {x1 : Int32} {x2 : Int32} {x3 : Int32} {x4 : Int32} {x5 : Int32} {s : xS} {o : xH × Option Value} {r : ((Int32 × xS) ⊕ ((Int32 × Int32 × xS) ⊕ (xS × Int32)))} (k0 : oK x0 12 = true) (h : f248_83 x0 x1 x2 x3 x4 x5 s = some r) (hr : dn248_35 sc x0 x1 x2 x3 x4 o r) : Ev sc 7 248 [] 83 [some (.ref x0), some (.int x1), some (.int x2), some (.int x3), some (.int x4), some (.int x5)] [] (hk_of s) o := by
  unfold f248_83 at h
  refine E_blk rfl ?_
  refine E_ps 1 (pc' := 86) (l' := [some (.ref x0), some (.int x1), some (.int x2), some (.int x3), some (.int x4), some (.int (x5 + (1 : Int32)))]) (st' := []) rfl ?_
  refine E_j rfl rfl ?_
  cases h
  exact E_wk (l' := [some (.ref x0), some (.int x1), some (.int x2), some (.int x3), some (.int x4), some (.int (x5 + (1 : Int32)))]) ⟨rfl, rfl, rfl, rfl, rfl, rfl, trivial⟩ hr
noncomputable def f248_133 (x0 : Nat) (x1 : Int32) (x3 : Int32) (x4 : Int32) (s : xS) : Option ((Int32 × Int32 × xS) ⊕ (xS × Int32)) := (f223 x0 s).bind fun z1 => (pL z1.1 x0 61 z1.2).bind fun t3 => (pL t3 x0 62 (t3.2 x0 45)).bind fun t5 => f248_152 x0 x1 x4 x3 x4 t5
set_option maxRecDepth 20000 in
theorem s248_133 {sc : Option (Nat × (Nat → Int32))} {x0 : Nat} {x1 : Int32} {x3 : Int32} {x4 : Int32} {s : xS} {o : xH × Option Value} {r : ((Int32 × Int32 × xS) ⊕ (xS × Int32))} (k0 : oK x0 12 = true) (h : f248_133 x0 x1 x3 x4 s = some r) (hr : dn248_25 sc x0 x1 x3 o r) : Ev sc 7 248 [] 133 [some (.ref x0), some (.int x1), none, some (.int x3), some (.int x4), none] [] (hk_of s) o := by
  unfold f248_133 at h
  refine E_blk rfl ?_
  refine E_ps 4 (pc' := 138) (l' := [some (.ref x0), some (.int x1), some (.int x4), some (.int x3), some (.int x4), none]) (st' := [.ref x0, .ref x0]) rfl ?_
  obtain ⟨z1, e2, h⟩ := Option.bind_eq_some_iff.mp h
  refine E_callL (vs := [.ref x0]) (rest := [.ref x0]) rfl (by decide) rfl rfl (Nat.le_of_ble_eq_true rfl) (s223 e2) (by decide) ?_
  obtain ⟨t3, e4, h⟩ := Option.bind_eq_some_iff.mp h
  refine E_pl k0 (by decide) rfl e4 ?_
  refine E_ps 2 (pc' := 146) (l' := [some (.ref x0), some (.int x1), some (.int x4), some (.int x3), some (.int x4), none]) (st' := [.ref x0, .ref x0]) rfl ?_
  refine E_gl k0 (by decide) rfl ?_
  obtain ⟨t5, e6, h⟩ := Option.bind_eq_some_iff.mp h
  refine E_pl k0 (by decide) rfl e6 ?_
  exact E_wk (l' := [some (.ref x0), some (.int x1), some (.int x4), some (.int x3), some (.int x4), none]) ⟨rfl, rfl, rfl, rfl, rfl, trivial⟩ (s248_152 k0 h hr)
noncomputable def f248_35 (x0 : Nat) (x1 : Int32) (x2 : Int32) (x3 : Int32) (x4 : Int32) (x5 : Int32) (s : xS) : Option ((Int32 × xS) ⊕ ((Int32 × Int32 × xS) ⊕ (xS × Int32))) := (f197 x0 s).bind fun z1 => if z1.2 ≤ x5 then (Option.map Sum.inr ((hk_R x0 35).bind fun a4 => (aI z1.1 a4 x1).bind fun v6 => (f232 x0 v6 z1.1).bind fun z8 => (f246 x0 (3 : Int32) z8.1).bind fun z10 => if x2 < 0 then (f248_133 x0 x1 x3 x4 z10.1) else ((f223 x0 z10.1).bind fun z13 => if (lg_cmp (z13.2 * (z13.1.2 x0 62)) ((z13.1.2 x0 61) * (z13.1.2 x0 45))) < 0 then (f248_133 x0 x1 x3 x4 z13.1) else (f248_152 x0 x1 x2 x3 x4 z13.1)))) else ((hk_R x0 49).bind fun a16 => (aB z1.1 a16 x5).bind fun v18 => if v18 = 0 then (f248_83 x0 x1 x2 x3 x4 x5 z1.1) else ((hk_R x0 20).bind fun a21 => (aI z1.1 a21 (x3 + x5)).bind fun v23 => if v23 < (-999 : Int32) then (f248_83 x0 x1 x2 x3 x4 x5 z1.1) else ((hk_R x0 20).bind fun a26 => (aI z1.1 a26 (x3 + x5)).bind fun v28 => (wI z1.1 a26 (x3 + x5) (v28 - x4)).bind fun t30 => f248_83 x0 x1 x2 x3 x4 x5 t30)))
set_option maxRecDepth 20000 in
theorem s248_35 {sc : Option (Nat × (Nat → Int32))} {x0 : Nat} {x1 : Int32} {x2 : Int32} {x3 : Int32} {x4 : Int32} {x5 : Int32} {s : xS} {o : xH × Option Value} {r : ((Int32 × xS) ⊕ ((Int32 × Int32 × xS) ⊕ (xS × Int32)))} (k0 : oK x0 12 = true) (h : f248_35 x0 x1 x2 x3 x4 x5 s = some r) (hr : dn248_35 sc x0 x1 x2 x3 x4 o r) : Ev sc 7 248 [] 35 [some (.ref x0), some (.int x1), some (.int x2), some (.int x3), some (.int x4), some (.int x5)] [] (hk_of s) o := by
  unfold f248_35 at h
  refine E_blk rfl ?_
  refine E_ps 2 (pc' := 38) (l' := [some (.ref x0), some (.int x1), some (.int x2), some (.int x3), some (.int x4), some (.int x5)]) (st' := [.ref x0, .int x5]) rfl ?_
  obtain ⟨z1, e2, h⟩ := Option.bind_eq_some_iff.mp h
  refine E_callI (vs := [.ref x0]) (rest := [.int x5]) rfl (by decide) rfl rfl (Nat.le_of_ble_eq_true rfl) (s197 e2) (by decide) ?_
  by_cases c3 : z1.2 ≤ x5
  · rw [if_pos c3] at h
    refine E_jt rfl rfl c3 ?_
    obtain ⟨r, h, hr⟩ := lf_some (Dn := dn248_35 sc x0 x1 x2 x3 x4 o) h hr
    refine E_blk rfl ?_
    refine E_ps 2 (pc' := 91) (l' := [some (.ref x0), some (.int x1), some (.int x2), some (.int x3), some (.int x4), some (.int x5)]) (st' := [.ref x0, .ref x0]) rfl ?_
    obtain ⟨a4, e5, h⟩ := Option.bind_eq_some_iff.mp h
    refine E_gr k0 (by decide) rfl e5 ?_
    refine E_ps 1 (pc' := 95) (l' := [some (.ref x0), some (.int x1), some (.int x2), some (.int x3), some (.int x4), some (.int x5)]) (st' := [.int x1, .ref a4, .ref x0]) rfl ?_
    obtain ⟨v6, e7, h⟩ := Option.bind_eq_some_iff.mp h
    refine E_ai e7 ?_
    obtain ⟨z8, e9, h⟩ := Option.bind_eq_some_iff.mp h
    refine E_callV (vs := [.ref x0, .int v6]) (rest := []) rfl (by decide) rfl rfl (Nat.le_of_ble_eq_true rfl) (s232 e9) (by decide) ?_
    refine E_ps 2 (pc' := 101) (l' := [some (.ref x0), some (.int x1), some (.int x2), some (.int x3), some (.int x4), some (.int x5)]) (st' := [.int (3 : Int32), .ref x0]) rfl ?_
    obtain ⟨z10, e11, h⟩ := Option.bind_eq_some_iff.mp h
    refine E_callV (vs := [.ref x0, .int (3 : Int32)]) (rest := []) rfl (by decide) rfl rfl (Nat.le_of_ble_eq_true rfl) (s246 e11) (by decide) ?_
    refine E_ps 1 (pc' := 105) (l' := [some (.ref x0), some (.int x1), some (.int x2), some (.int x3), some (.int x4), some (.int x5)]) (st' := [.int x2]) rfl ?_
    by_cases c12 : x2 < 0
    · rw [if_pos c12] at h
      refine E_jt rfl rfl c12 ?_
      exact E_wk (l' := [some (.ref x0), some (.int x1), none, some (.int x3), some (.int x4), none]) ⟨rfl, rfl, rfl, rfl, trivial⟩ (s248_133 k0 h hr)
    · rw [if_neg c12] at h
      refine E_jf rfl rfl c12 ?_
      refine E_blk rfl ?_
      refine E_ps 1 (pc' := 109) (l' := [some (.ref x0), some (.int x1), some (.int x2), some (.int x3), some (.int x4), some (.int x5)]) (st' := [.ref x0]) rfl ?_
      obtain ⟨z13, e14, h⟩ := Option.bind_eq_some_iff.mp h
      refine E_callL (vs := [.ref x0]) (rest := []) rfl (by decide) rfl rfl (Nat.le_of_ble_eq_true rfl) (s223 e14) (by decide) ?_
      refine E_ps 1 (pc' := 113) (l' := [some (.ref x0), some (.int x1), some (.int x2), some (.int x3), some (.int x4), some (.int x5)]) (st' := [.ref x0, .long z13.2]) rfl ?_
      refine E_gl k0 (by decide) rfl ?_
      refine E_ps 2 (pc' := 118) (l' := [some (.ref x0), some (.int x1), some (.int x2), some (.int x3), some (.int x4), some (.int x5)]) (st' := [.ref x0, .long (z13.2 * (z13.1.2 x0 62))]) rfl ?_
      refine E_gl k0 (by decide) rfl ?_
      refine E_ps 1 (pc' := 122) (l' := [some (.ref x0), some (.int x1), some (.int x2), some (.int x3), some (.int x4), some (.int x5)]) (st' := [.ref x0, .long (z13.1.2 x0 61), .long (z13.2 * (z13.1.2 x0 62))]) rfl ?_
      refine E_gl k0 (by decide) rfl ?_
      refine E_ps 2 (pc' := 127) (l' := [some (.ref x0), some (.int x1), some (.int x2), some (.int x3), some (.int x4), some (.int x5)]) (st' := [.int (lg_cmp (z13.2 * (z13.1.2 x0 62)) ((z13.1.2 x0 61) * (z13.1.2 x0 45)))]) rfl ?_
      by_cases c15 : (lg_cmp (z13.2 * (z13.1.2 x0 62)) ((z13.1.2 x0 61) * (z13.1.2 x0 45))) < 0
      · rw [if_pos c15] at h
        refine E_jt rfl rfl c15 ?_
        exact E_wk (l' := [some (.ref x0), some (.int x1), none, some (.int x3), some (.int x4), none]) ⟨rfl, rfl, rfl, rfl, trivial⟩ (s248_133 k0 h hr)
      · rw [if_neg c15] at h
        refine E_jf rfl rfl c15 ?_
        refine E_blk rfl ?_
        refine E_j rfl rfl ?_
        exact E_wk (l' := [some (.ref x0), some (.int x1), some (.int x2), some (.int x3), some (.int x4), none]) ⟨rfl, rfl, rfl, rfl, rfl, trivial⟩ (s248_152 k0 h hr)
  · rw [if_neg c3] at h
    refine E_jf rfl rfl c3 ?_
    refine E_blk rfl ?_
    refine E_ps 1 (pc' := 45) (l' := [some (.ref x0), some (.int x1), some (.int x2), some (.int x3), some (.int x4), some (.int x5)]) (st' := [.ref x0]) rfl ?_
    obtain ⟨a16, e17, h⟩ := Option.bind_eq_some_iff.mp h
    refine E_gr k0 (by decide) rfl e17 ?_
    refine E_ps 1 (pc' := 50) (l' := [some (.ref x0), some (.int x1), some (.int x2), some (.int x3), some (.int x4), some (.int x5)]) (st' := [.int x5, .ref a16]) rfl ?_
    obtain ⟨v18, e19, h⟩ := Option.bind_eq_some_iff.mp h
    refine E_ab e19 ?_
    by_cases c20 : v18 = 0
    · rw [if_pos c20] at h
      refine E_jt rfl rfl c20 ?_
      exact E_wk (l' := [some (.ref x0), some (.int x1), some (.int x2), some (.int x3), some (.int x4), some (.int x5)]) ⟨rfl, rfl, rfl, rfl, rfl, rfl, trivial⟩ (s248_83 k0 h hr)
    · rw [if_neg c20] at h
      refine E_jf rfl rfl c20 ?_
      refine E_blk rfl ?_
      refine E_ps 1 (pc' := 55) (l' := [some (.ref x0), some (.int x1), some (.int x2), some (.int x3), some (.int x4), some (.int x5)]) (st' := [.ref x0]) rfl ?_
      obtain ⟨a21, e22, h⟩ := Option.bind_eq_some_iff.mp h
      refine E_gr k0 (by decide) rfl e22 ?_
      refine E_ps 3 (pc' := 62) (l' := [some (.ref x0), some (.int x1), some (.int x2), some (.int x3), some (.int x4), some (.int x5)]) (st' := [.int (x3 + x5), .ref a21]) rfl ?_
      obtain ⟨v23, e24, h⟩ := Option.bind_eq_some_iff.mp h
      refine E_ai e24 ?_
      refine E_ps 1 (pc' := 66) (l' := [some (.ref x0), some (.int x1), some (.int x2), some (.int x3), some (.int x4), some (.int x5)]) (st' := [.int (-999 : Int32), .int v23]) rfl ?_
      by_cases c25 : v23 < (-999 : Int32)
      · rw [if_pos c25] at h
        refine E_jt rfl rfl c25 ?_
        exact E_wk (l' := [some (.ref x0), some (.int x1), some (.int x2), some (.int x3), some (.int x4), some (.int x5)]) ⟨rfl, rfl, rfl, rfl, rfl, rfl, trivial⟩ (s248_83 k0 h hr)
      · rw [if_neg c25] at h
        refine E_jf rfl rfl c25 ?_
        refine E_blk rfl ?_
        refine E_ps 1 (pc' := 70) (l' := [some (.ref x0), some (.int x1), some (.int x2), some (.int x3), some (.int x4), some (.int x5)]) (st' := [.ref x0]) rfl ?_
        obtain ⟨a26, e27, h⟩ := Option.bind_eq_some_iff.mp h
        refine E_gr k0 (by decide) rfl e27 ?_
        refine E_ps 4 (pc' := 78) (l' := [some (.ref x0), some (.int x1), some (.int x2), some (.int x3), some (.int x4), some (.int x5)]) (st' := [.int (x3 + x5), .ref a26, .int (x3 + x5), .ref a26]) rfl ?_
        obtain ⟨v28, e29, h⟩ := Option.bind_eq_some_iff.mp h
        refine E_ai e29 ?_
        refine E_ps 2 (pc' := 82) (l' := [some (.ref x0), some (.int x1), some (.int x2), some (.int x3), some (.int x4), some (.int x5)]) (st' := [.int (v28 - x4), .int (x3 + x5), .ref a26]) rfl ?_
        obtain ⟨t30, e31, h⟩ := Option.bind_eq_some_iff.mp h
        refine E_wi e31 ?_
        exact E_wk (l' := [some (.ref x0), some (.int x1), some (.int x2), some (.int x3), some (.int x4), some (.int x5)]) ⟨rfl, rfl, rfl, rfl, rfl, rfl, trivial⟩ (s248_83 k0 h hr)
theorem s248_35_w {sc : Option (Nat × (Nat → Int32))} {x0 : Nat} {x1 : Int32} {x2 : Int32} {x3 : Int32} {x4 : Int32} {x5 : Int32} {s : xS} {o : xH × Option Value} {r : ((Int32 × Int32 × xS) ⊕ (xS × Int32))} (k0 : oK x0 12 = true) (h : whl (fun q : (Int32 × xS) => f248_35 x0 x1 x2 x3 x4 q.1 q.2) (x5, s) = some r) (hr : dn248_25 sc x0 x1 x3 o r) : Ev sc 7 248 [] 35 [some (.ref x0), some (.int x1), some (.int x2), some (.int x3), some (.int x4), some (.int x5)] [] (hk_of s) o := by
  refine whl_snd (E := fun q : (Int32 × xS) => Ev sc 7 248 [] 35 [some (.ref x0), some (.int x1), some (.int x2), some (.int x3), some (.int x4), some (.int q.1)] [] (hk_of q.2) o) (P := fun r => dn248_25 sc x0 x1 x3 o r) (fun q r h hr => ?_) h hr
  exact s248_35 k0 h (by cases r <;> exact hr)
noncomputable def f248_25 (x0 : Nat) (x1 : Int32) (x2 : Int32) (x3 : Int32) (x4 : Int32) (s : xS) : Option ((Int32 × Int32 × xS) ⊕ (xS × Int32)) := if (9 : Int32) < x4 then (Option.map Sum.inr (some (s, x2))) else (whl (fun q : (Int32 × xS) => f248_35 x0 x1 x2 x3 x4 q.1 q.2) ((0 : Int32), s))
set_option maxRecDepth 20000 in
theorem s248_25 {sc : Option (Nat × (Nat → Int32))} {x0 : Nat} {x1 : Int32} {x2 : Int32} {x3 : Int32} {x4 : Int32} {s : xS} {o : xH × Option Value} {r : ((Int32 × Int32 × xS) ⊕ (xS × Int32))} (k0 : oK x0 12 = true) (h : f248_25 x0 x1 x2 x3 x4 s = some r) (hr : dn248_25 sc x0 x1 x3 o r) : Ev sc 7 248 [] 25 [some (.ref x0), some (.int x1), some (.int x2), some (.int x3), some (.int x4), none] [] (hk_of s) o := by
  unfold f248_25 at h
  refine E_blk rfl ?_
  refine E_ps 2 (pc' := 29) (l' := [some (.ref x0), some (.int x1), some (.int x2), some (.int x3), some (.int x4), none]) (st' := [.int (9 : Int32), .int x4]) rfl ?_
  by_cases c1 : (9 : Int32) < x4
  · rw [if_pos c1] at h
    refine E_jt rfl rfl c1 ?_
    obtain ⟨r, h, hr⟩ := lf_some (Dn := dn248_25 sc x0 x1 x3 o) h hr
    refine E_blk rfl ?_
    refine E_ps 1 (pc' := 159) (l' := [some (.ref x0), some (.int x1), some (.int x2), some (.int x3), some (.int x4), none]) (st' := [.int x2]) rfl ?_
    cases h
    exact E_ret rfl (pg_mt_md (by decide)) rfl hr
  · rw [if_neg c1] at h
    refine E_jf rfl rfl c1 ?_
    refine E_blk rfl ?_
    refine E_ps 2 (pc' := 35) (l' := [some (.ref x0), some (.int x1), some (.int x2), some (.int x3), some (.int x4), some (.int (0 : Int32))]) (st' := []) rfl ?_
    exact E_wk (l' := [some (.ref x0), some (.int x1), some (.int x2), some (.int x3), some (.int x4), some (.int (0 : Int32))]) ⟨rfl, rfl, rfl, rfl, rfl, rfl, trivial⟩ (s248_35_w k0 h hr)
theorem s248_25_w {sc : Option (Nat × (Nat → Int32))} {x0 : Nat} {x1 : Int32} {x2 : Int32} {x3 : Int32} {x4 : Int32} {s : xS} {o : xH × Option Value} {r : (xS × Int32)} (k0 : oK x0 12 = true) (h : whl (fun q : (Int32 × Int32 × xS) => f248_25 x0 x1 q.1 x3 q.2.1 q.2.2) (x2, x4, s) = some r) (hr : dn248 o r) : Ev sc 7 248 [] 25 [some (.ref x0), some (.int x1), some (.int x2), some (.int x3), some (.int x4), none] [] (hk_of s) o := by
  refine whl_snd (E := fun q : (Int32 × Int32 × xS) => Ev sc 7 248 [] 25 [some (.ref x0), some (.int x1), some (.int q.1), some (.int x3), some (.int q.2.1), none] [] (hk_of q.2.2) o) (P := fun r => dn248 o r) (fun q r h hr => ?_) h hr
  exact s248_25 k0 h (by cases r <;> exact hr)
noncomputable def f248 (x0 : Nat) (x1 : Int32) (s : xS) : Option (xS × Int32) := ifg (oK x0 12 = true) <| (f227 x0 x1 s).bind fun z1 => (f245 x0 (3 : Int32) z1.1).bind fun z3 => (hk_R x0 35).bind fun a5 => (aI z3.1 a5 x1).bind fun v7 => whl (fun q : (Int32 × Int32 × xS) => f248_25 x0 x1 q.1 ((25 : Int32) * v7) q.2.1 q.2.2) ((-1 : Int32), (1 : Int32), z3.1)
set_option maxRecDepth 20000 in
theorem s248 {sc : Option (Nat × (Nat → Int32))} {x0 : Nat} {x1 : Int32} {s : xS} {r : xS × Int32} (h : f248 x0 x1 s = some r) : Cl sc 7 248 [.ref x0, .int x1] (hk_of s) (hk_of r.1, some (.int r.2)) := by
  unfold f248 at h
  obtain ⟨k0, h⟩ := ifg_some h
  refine ⟨pg_md 248, [some (.ref x0), some (.int x1), none, none, none, none], pg_mt_md (by decide), (hk_rcv k0), rfl, ?_⟩
  generalize ho : ((hk_of r.1, some (Value.int r.2)) : xH × Option Value) = o
  have hr : dn248 o r := ho.symm
  refine E_blk rfl ?_
  refine E_ps 4 (pc' := 4) (l' := [some (.ref x0), some (.int x1), some (.int (-1 : Int32)), none, none, none]) (st' := [.int x1, .ref x0]) rfl ?_
  obtain ⟨z1, e2, h⟩ := Option.bind_eq_some_iff.mp h
  refine E_callV (vs := [.ref x0, .int x1]) (rest := []) rfl (by decide) rfl rfl (Nat.le_of_ble_eq_true rfl) (s227 e2) (by decide) ?_
  refine E_ps 2 (pc' := 9) (l' := [some (.ref x0), some (.int x1), some (.int (-1 : Int32)), none, none, none]) (st' := [.int (3 : Int32), .ref x0]) rfl ?_
  obtain ⟨z3, e4, h⟩ := Option.bind_eq_some_iff.mp h
  refine E_callV (vs := [.ref x0, .int (3 : Int32)]) (rest := []) rfl (by decide) rfl rfl (Nat.le_of_ble_eq_true rfl) (s245 e4) (by decide) ?_
  refine E_ps 2 (pc' := 15) (l' := [some (.ref x0), some (.int x1), some (.int (-1 : Int32)), none, none, none]) (st' := [.ref x0, .int (25 : Int32)]) rfl ?_
  obtain ⟨a5, e6, h⟩ := Option.bind_eq_some_iff.mp h
  refine E_gr k0 (by decide) rfl e6 ?_
  refine E_ps 1 (pc' := 19) (l' := [some (.ref x0), some (.int x1), some (.int (-1 : Int32)), none, none, none]) (st' := [.int x1, .ref a5, .int (25 : Int32)]) rfl ?_
  obtain ⟨v7, e8, h⟩ := Option.bind_eq_some_iff.mp h
  refine E_ai e8 ?_
  refine E_ps 4 (pc' := 25) (l' := [some (.ref x0), some (.int x1), some (.int (-1 : Int32)), some (.int ((25 : Int32) * v7)), some (.int (1 : Int32)), none]) (st' := []) rfl ?_
  exact E_wk (l' := [some (.ref x0), some (.int x1), some (.int (-1 : Int32)), some (.int ((25 : Int32) * v7)), some (.int (1 : Int32)), none]) ⟨rfl, rfl, rfl, rfl, rfl, trivial⟩ (s248_25_w k0 h hr)

-- 249: ThreePlatesModel.deepest(II)I
def dn249 (o : xH × Option Value) (r : xS × Int32) : Prop := o = (hk_of r.1, some (.int r.2))
noncomputable def f249_54 (y0 : Int32) (s : xS) : Option (xS × Int32) := some (s, y0)
set_option maxRecDepth 20000 in
theorem s249_54 {sc : Option (Nat × (Nat → Int32))} {y0 : Int32} {s : xS} {o : xH × Option Value} {r : (xS × Int32)}  (h : f249_54 y0 s = some r) (hr : dn249 o r) : Ev sc 8 249 [] 54 [none, none, none, none] [.int y0] (hk_of s) o := by
  unfold f249_54 at h
  refine E_blk rfl ?_
  cases h
  exact E_ret rfl (pg_mt_md (by decide)) rfl hr
noncomputable def f249_23  (s : xS) : Option (xS × Int32) := some (s, (-1 : Int32))
set_option maxRecDepth 20000 in
theorem s249_23 {sc : Option (Nat × (Nat → Int32))}  {s : xS} {o : xH × Option Value} {r : (xS × Int32)}  (h : f249_23  s = some r) (hr : dn249 o r) : Ev sc 8 249 [] 23 [none, none, none, none] [] (hk_of s) o := by
  unfold f249_23 at h
  refine E_blk rfl ?_
  refine E_ps 1 (pc' := 24) (l' := [none, none, none, none]) (st' := [.int (-1 : Int32)]) rfl ?_
  cases h
  exact E_ret rfl (pg_mt_md (by decide)) rfl hr
noncomputable def f249 (x0 : Nat) (x1 : Int32) (x2 : Int32) (s : xS) : Option (xS × Int32) := ifg (oK x0 12 = true) <| (f195 x1 (0 : Int32) ((s.1 x0 37) - (1 : Int32)) s).bind fun z1 => if z1.2 = 0 then (f249_23  z1.1) else ((f195 x2 (0 : Int32) (2 : Int32) z1.1).bind fun z4 => if z4.2 = 0 then (f249_23  z4.1) else ((f248 x0 x1 z4.1).bind fun z7 => if x2 = 0 then (f249_54 z7.2 z7.1) else ((f216 (z7.1.2 x0 61) (z7.1.2 x0 62) (x2 - (1 : Int32)) z7.1).bind fun z10 => f249_54 (z10.2).toInt32 z10.1)))
set_option maxRecDepth 20000 in
theorem s249 {sc : Option (Nat × (Nat → Int32))} {x0 : Nat} {x1 : Int32} {x2 : Int32} {s : xS} {r : xS × Int32} (h : f249 x0 x1 x2 s = some r) : Cl sc 8 249 [.ref x0, .int x1, .int x2] (hk_of s) (hk_of r.1, some (.int r.2)) := by
  unfold f249 at h
  obtain ⟨k0, h⟩ := ifg_some h
  refine ⟨pg_md 249, [some (.ref x0), some (.int x1), some (.int x2), none], pg_mt_md (by decide), (hk_rcv k0), rfl, ?_⟩
  generalize ho : ((hk_of r.1, some (Value.int r.2)) : xH × Option Value) = o
  have hr : dn249 o r := ho.symm
  refine E_blk rfl ?_
  refine E_ps 3 (pc' := 3) (l' := [some (.ref x0), some (.int x1), some (.int x2), none]) (st' := [.ref x0, .int (0 : Int32), .int x1]) rfl ?_
  refine E_gi k0 (by decide) rfl ?_
  refine E_ps 2 (pc' := 8) (l' := [some (.ref x0), some (.int x1), some (.int x2), none]) (st' := [.int ((s.1 x0 37) - (1 : Int32)), .int (0 : Int32), .int x1]) rfl ?_
  obtain ⟨z1, e2, h⟩ := Option.bind_eq_some_iff.mp h
  refine E_callI (vs := [.int x1, .int (0 : Int32), .int ((s.1 x0 37) - (1 : Int32))]) (rest := []) rfl (by decide) rfl rfl (Nat.le_of_ble_eq_true rfl) (s195 e2) (by decide) ?_
  by_cases c3 : z1.2 = 0
  · rw [if_pos c3] at h
    refine E_jt rfl rfl c3 ?_
    exact E_wk (l' := [none, none, none, none]) trivial (s249_23  h hr)
  · rw [if_neg c3] at h
    refine E_jf rfl rfl c3 ?_
    refine E_blk rfl ?_
    refine E_ps 3 (pc' := 17) (l' := [some (.ref x0), some (.int x1), some (.int x2), none]) (st' := [.int (2 : Int32), .int (0 : Int32), .int x2]) rfl ?_
    obtain ⟨z4, e5, h⟩ := Option.bind_eq_some_iff.mp h
    refine E_callI (vs := [.int x2, .int (0 : Int32), .int (2 : Int32)]) (rest := []) rfl (by decide) rfl rfl (Nat.le_of_ble_eq_true rfl) (s195 e5) (by decide) ?_
    by_cases c6 : z4.2 = 0
    · rw [if_pos c6] at h
      refine E_jt rfl rfl c6 ?_
      exact E_wk (l' := [none, none, none, none]) trivial (s249_23  h hr)
    · rw [if_neg c6] at h
      refine E_jf rfl rfl c6 ?_
      refine E_blk rfl ?_
      refine E_ps 2 (pc' := 27) (l' := [some (.ref x0), some (.int x1), some (.int x2), none]) (st' := [.int x1, .ref x0]) rfl ?_
      obtain ⟨z7, e8, h⟩ := Option.bind_eq_some_iff.mp h
      refine E_callI (vs := [.ref x0, .int x1]) (rest := []) rfl (by decide) rfl rfl (Nat.le_of_ble_eq_true rfl) (s248 e8) (by decide) ?_
      refine E_ps 2 (pc' := 32) (l' := [some (.ref x0), some (.int x1), some (.int x2), some (.int z7.2)]) (st' := [.int x2]) rfl ?_
      by_cases c9 : x2 = 0
      · rw [if_pos c9] at h
        refine E_jt rfl rfl c9 ?_
        refine E_blk rfl ?_
        refine E_ps 1 (pc' := 36) (l' := [some (.ref x0), some (.int x1), some (.int x2), some (.int z7.2)]) (st' := [.int z7.2]) rfl ?_
        refine E_j rfl rfl ?_
        exact E_wk (l' := [none, none, none, none]) trivial (s249_54  h hr)
      · rw [if_neg c9] at h
        refine E_jf rfl rfl c9 ?_
        refine E_blk rfl ?_
        refine E_ps 1 (pc' := 40) (l' := [some (.ref x0), some (.int x1), some (.int x2), some (.int z7.2)]) (st' := [.ref x0]) rfl ?_
        refine E_gl k0 (by decide) rfl ?_
        refine E_ps 1 (pc' := 44) (l' := [some (.ref x0), some (.int x1), some (.int x2), some (.int z7.2)]) (st' := [.ref x0, .long (z7.1.2 x0 61)]) rfl ?_
        refine E_gl k0 (by decide) rfl ?_
        refine E_ps 3 (pc' := 50) (l' := [some (.ref x0), some (.int x1), some (.int x2), some (.int z7.2)]) (st' := [.int (x2 - (1 : Int32)), .long (z7.1.2 x0 62), .long (z7.1.2 x0 61)]) rfl ?_
        obtain ⟨z10, e11, h⟩ := Option.bind_eq_some_iff.mp h
        refine E_callL (vs := [.long (z7.1.2 x0 61), .long (z7.1.2 x0 62), .int (x2 - (1 : Int32))]) (rest := []) rfl (by decide) rfl rfl (Nat.le_of_ble_eq_true rfl) (s216 e11) (by decide) ?_
        refine E_ps 1 (pc' := 54) (l' := [some (.ref x0), some (.int x1), some (.int x2), some (.int z7.2)]) (st' := [.int (z10.2).toInt32]) rfl ?_
        exact E_wk (l' := [none, none, none, none]) trivial (s249_54  h hr)

-- 250: ThreePlatesModel.isBest(II)Z
def dn250 (o : xH × Option Value) (r : xS × Int32) : Prop := o = (hk_of r.1, some (.int r.2))
noncomputable def f250_32 (y0 : Int32) (s : xS) : Option (xS × Int32) := ifg (y0 = 0 ∨ y0 = 1) <| some (s, y0)
set_option maxRecDepth 20000 in
theorem s250_32 {sc : Option (Nat × (Nat → Int32))} {y0 : Int32} {s : xS} {o : xH × Option Value} {r : (xS × Int32)}  (h : f250_32 y0 s = some r) (hr : dn250 o r) : Ev sc 2 250 [] 32 [none, none, none] [.int y0] (hk_of s) o := by
  unfold f250_32 at h
  refine E_blk rfl ?_
  obtain ⟨g1, h⟩ := ifg_some h
  cases h
  exact E_ret rfl (pg_mt_md (by decide)) (hk_retz g1 rfl) hr
noncomputable def f250_31  (s : xS) : Option (xS × Int32) := f250_32 (0 : Int32) s
set_option maxRecDepth 20000 in
theorem s250_31 {sc : Option (Nat × (Nat → Int32))}  {s : xS} {o : xH × Option Value} {r : (xS × Int32)}  (h : f250_31  s = some r) (hr : dn250 o r) : Ev sc 2 250 [] 31 [none, none, none] [] (hk_of s) o := by
  unfold f250_31 at h
  refine E_blk rfl ?_
  refine E_ps 1 (pc' := 32) (l' := [none, none, none]) (st' := [.int (0 : Int32)]) rfl ?_
  exact E_wk (l' := [none, none, none]) trivial (s250_32  h hr)
noncomputable def f250 (x0 : Nat) (x1 : Int32) (x2 : Int32) (s : xS) : Option (xS × Int32) := ifg (oK x0 12 = true) <| (f195 x1 (1 : Int32) (3 : Int32) s).bind fun z1 => if z1.2 = 0 then (f250_31  z1.1) else ((f195 x2 (0 : Int32) (999 : Int32) z1.1).bind fun z4 => if z4.2 = 0 then (f250_31  z4.1) else (if (z4.1.1 x0 37) ≤ 0 then (f250_31  z4.1) else (f250_32 (1 : Int32) z4.1)))
set_option maxRecDepth 20000 in
theorem s250 {sc : Option (Nat × (Nat → Int32))} {x0 : Nat} {x1 : Int32} {x2 : Int32} {s : xS} {r : xS × Int32} (h : f250 x0 x1 x2 s = some r) : Cl sc 2 250 [.ref x0, .int x1, .int x2] (hk_of s) (hk_of r.1, some (.int r.2)) := by
  unfold f250 at h
  obtain ⟨k0, h⟩ := ifg_some h
  refine ⟨pg_md 250, [some (.ref x0), some (.int x1), some (.int x2)], pg_mt_md (by decide), (hk_rcv k0), rfl, ?_⟩
  generalize ho : ((hk_of r.1, some (Value.int r.2)) : xH × Option Value) = o
  have hr : dn250 o r := ho.symm
  refine E_blk rfl ?_
  refine E_ps 3 (pc' := 3) (l' := [some (.ref x0), some (.int x1), some (.int x2)]) (st' := [.int (3 : Int32), .int (1 : Int32), .int x1]) rfl ?_
  obtain ⟨z1, e2, h⟩ := Option.bind_eq_some_iff.mp h
  refine E_callI (vs := [.int x1, .int (1 : Int32), .int (3 : Int32)]) (rest := []) rfl (by decide) rfl rfl (Nat.le_of_ble_eq_true rfl) (s195 e2) (by decide) ?_
  by_cases c3 : z1.2 = 0
  · rw [if_pos c3] at h
    refine E_jt rfl rfl c3 ?_
    exact E_wk (l' := [none, none, none]) trivial (s250_31  h hr)
  · rw [if_neg c3] at h
    refine E_jf rfl rfl c3 ?_
    refine E_blk rfl ?_
    refine E_ps 3 (pc' := 14) (l' := [some (.ref x0), some (.int x1), some (.int x2)]) (st' := [.int (999 : Int32), .int (0 : Int32), .int x2]) rfl ?_
    obtain ⟨z4, e5, h⟩ := Option.bind_eq_some_iff.mp h
    refine E_callI (vs := [.int x2, .int (0 : Int32), .int (999 : Int32)]) (rest := []) rfl (by decide) rfl rfl (Nat.le_of_ble_eq_true rfl) (s195 e5) (by decide) ?_
    by_cases c6 : z4.2 = 0
    · rw [if_pos c6] at h
      refine E_jt rfl rfl c6 ?_
      exact E_wk (l' := [none, none, none]) trivial (s250_31  h hr)
    · rw [if_neg c6] at h
      refine E_jf rfl rfl c6 ?_
      refine E_blk rfl ?_
      refine E_ps 1 (pc' := 21) (l' := [some (.ref x0), some (.int x1), some (.int x2)]) (st' := [.ref x0]) rfl ?_
      refine E_gi k0 (by decide) rfl ?_
      by_cases c7 : (z4.1.1 x0 37) ≤ 0
      · rw [if_pos c7] at h
        refine E_jt rfl rfl c7 ?_
        exact E_wk (l' := [none, none, none]) trivial (s250_31  h hr)
      · rw [if_neg c7] at h
        refine E_jf rfl rfl c7 ?_
        refine E_blk rfl ?_
        refine E_ps 1 (pc' := 28) (l' := [some (.ref x0), some (.int x1), some (.int x2)]) (st' := [.int (1 : Int32)]) rfl ?_
        refine E_j rfl rfl ?_
        exact E_wk (l' := [none, none, none]) trivial (s250_32  h hr)

-- 251: ThreePlatesModel.power10(II)I
def dn251 (o : xH × Option Value) (r : xS × Int32) : Prop := o = (hk_of r.1, some (.int r.2))
def dn251_4 (sc : Option (Nat × (Nat → Int32))) (x0 : Int32) (x1 : Int32) (o : xH × Option Value) (r : ((Int32 × Int32 × xS) ⊕ (xS × Int32))) : Prop := match r with
  | .inl q => Ev sc 1 251 [] 4 [some (.int x0), some (.int x1), some (.int q.1), some (.int q.2.1)] [] (hk_of q.2.2) o
  | .inr r => dn251 o r
noncomputable def f251_4 (x0 : Int32) (x1 : Int32) (x2 : Int32) (x3 : Int32) (s : xS) : Option ((Int32 × Int32 × xS) ⊕ (xS × Int32)) := if x1 ≤ x3 then (Option.map Sum.inr (some (s, x2))) else (some (Sum.inl ((x2 * x0), (x3 + (1 : Int32)), s)))
set_option maxRecDepth 20000 in
theorem s251_4 {sc : Option (Nat × (Nat → Int32))} {x0 : Int32} {x1 : Int32} {x2 : Int32} {x3 : Int32} {s : xS} {o : xH × Option Value} {r : ((Int32 × Int32 × xS) ⊕ (xS × Int32))}  (h : f251_4 x0 x1 x2 x3 s = some r) (hr : dn251_4 sc x0 x1 o r) : Ev sc 1 251 [] 4 [some (.int x0), some (.int x1), some (.int x2), some (.int x3)] [] (hk_of s) o := by
  unfold f251_4 at h
  refine E_blk rfl ?_
  refine E_ps 2 (pc' := 6) (l' := [some (.int x0), some (.int x1), some (.int x2), some (.int x3)]) (st' := [.int x1, .int x3]) rfl ?_
  by_cases c1 : x1 ≤ x3
  · rw [if_pos c1] at h
    refine E_jt rfl rfl c1 ?_
    obtain ⟨r, h, hr⟩ := lf_some (Dn := dn251_4 sc x0 x1 o) h hr
    refine E_blk rfl ?_
    refine E_ps 1 (pc' := 20) (l' := [some (.int x0), some (.int x1), some (.int x2), some (.int x3)]) (st' := [.int x2]) rfl ?_
    cases h
    exact E_ret rfl (pg_mt_md (by decide)) rfl hr
  · rw [if_neg c1] at h
    refine E_jf rfl rfl c1 ?_
    refine E_blk rfl ?_
    refine E_ps 5 (pc' := 16) (l' := [some (.int x0), some (.int x1), some (.int (x2 * x0)), some (.int (x3 + (1 : Int32)))]) (st' := []) rfl ?_
    refine E_j rfl rfl ?_
    cases h
    exact E_wk (l' := [some (.int x0), some (.int x1), some (.int (x2 * x0)), some (.int (x3 + (1 : Int32)))]) ⟨rfl, rfl, rfl, rfl, trivial⟩ hr
theorem s251_4_w {sc : Option (Nat × (Nat → Int32))} {x0 : Int32} {x1 : Int32} {x2 : Int32} {x3 : Int32} {s : xS} {o : xH × Option Value} {r : (xS × Int32)}  (h : whl (fun q : (Int32 × Int32 × xS) => f251_4 x0 x1 q.1 q.2.1 q.2.2) (x2, x3, s) = some r) (hr : dn251 o r) : Ev sc 1 251 [] 4 [some (.int x0), some (.int x1), some (.int x2), some (.int x3)] [] (hk_of s) o := by
  refine whl_snd (E := fun q : (Int32 × Int32 × xS) => Ev sc 1 251 [] 4 [some (.int x0), some (.int x1), some (.int q.1), some (.int q.2.1)] [] (hk_of q.2.2) o) (P := fun r => dn251 o r) (fun q r h hr => ?_) h hr
  exact s251_4  h (by cases r <;> exact hr)
noncomputable def f251 (x0 : Int32) (x1 : Int32) (s : xS) : Option (xS × Int32) :=  whl (fun q : (Int32 × Int32 × xS) => f251_4 x0 x1 q.1 q.2.1 q.2.2) ((1 : Int32), (0 : Int32), s)
set_option maxRecDepth 20000 in
theorem s251 {sc : Option (Nat × (Nat → Int32))} {x0 : Int32} {x1 : Int32} {s : xS} {r : xS × Int32} (h : f251 x0 x1 s = some r) : Cl sc 1 251 [.int x0, .int x1] (hk_of s) (hk_of r.1, some (.int r.2)) := by
  unfold f251 at h
  refine ⟨pg_md 251, [some (.int x0), some (.int x1), none, none], pg_mt_md (by decide), rfl, rfl, ?_⟩
  generalize ho : ((hk_of r.1, some (Value.int r.2)) : xH × Option Value) = o
  have hr : dn251 o r := ho.symm
  refine E_blk rfl ?_
  refine E_ps 4 (pc' := 4) (l' := [some (.int x0), some (.int x1), some (.int (1 : Int32)), some (.int (0 : Int32))]) (st' := []) rfl ?_
  exact E_wk (l' := [some (.int x0), some (.int x1), some (.int (1 : Int32)), some (.int (0 : Int32))]) ⟨rfl, rfl, rfl, rfl, trivial⟩ (s251_4_w  h hr)

-- 252: ThreePlatesModel.roundOf(III)I
def dn252 (o : xH × Option Value) (r : xS × Int32) : Prop := o = (hk_of r.1, some (.int r.2))
noncomputable def f252 (x0 : Nat) (x1 : Int32) (x2 : Int32) (x3 : Int32) (s : xS) : Option (xS × Int32) := ifg (oK x0 12 = true) <| (f251 (s.1 x0 37) ((x2 - (1 : Int32)) - x3) s).bind fun z1 => ifg (¬ z1.2 = 0) <| ifg (¬ (z1.1.1 x0 37) = 0) <| some (z1.1, (irm (x1 / z1.2) (z1.1.1 x0 37)))
set_option maxRecDepth 20000 in
theorem s252 {sc : Option (Nat × (Nat → Int32))} {x0 : Nat} {x1 : Int32} {x2 : Int32} {x3 : Int32} {s : xS} {r : xS × Int32} (h : f252 x0 x1 x2 x3 s = some r) : Cl sc 2 252 [.ref x0, .int x1, .int x2, .int x3] (hk_of s) (hk_of r.1, some (.int r.2)) := by
  unfold f252 at h
  obtain ⟨k0, h⟩ := ifg_some h
  refine ⟨pg_md 252, [some (.ref x0), some (.int x1), some (.int x2), some (.int x3)], pg_mt_md (by decide), (hk_rcv k0), rfl, ?_⟩
  generalize ho : ((hk_of r.1, some (Value.int r.2)) : xH × Option Value) = o
  have hr : dn252 o r := ho.symm
  refine E_blk rfl ?_
  refine E_ps 2 (pc' := 2) (l' := [some (.ref x0), some (.int x1), some (.int x2), some (.int x3)]) (st' := [.ref x0, .int x1]) rfl ?_
  refine E_gi k0 (by decide) rfl ?_
  refine E_ps 5 (pc' := 10) (l' := [some (.ref x0), some (.int x1), some (.int x2), some (.int x3)]) (st' := [.int ((x2 - (1 : Int32)) - x3), .int (s.1 x0 37), .int x1]) rfl ?_
  obtain ⟨z1, e2, h⟩ := Option.bind_eq_some_iff.mp h
  refine E_callI (vs := [.int (s.1 x0 37), .int ((x2 - (1 : Int32)) - x3)]) (rest := [.int x1]) rfl (by decide) rfl rfl (Nat.le_of_ble_eq_true rfl) (s251 e2) (by decide) ?_
  obtain ⟨g3, h⟩ := ifg_some h
  refine E_idiv g3 ?_
  refine E_ps 1 (pc' := 15) (l' := [some (.ref x0), some (.int x1), some (.int x2), some (.int x3)]) (st' := [.ref x0, .int (x1 / z1.2)]) rfl ?_
  refine E_gi k0 (by decide) rfl ?_
  obtain ⟨g4, h⟩ := ifg_some h
  refine E_irem g4 ?_
  cases h
  exact E_ret rfl (pg_mt_md (by decide)) rfl hr

-- 253: ThreePlatesModel.findBest(II)V
def dn253 (o : xH × Option Value) (r : xS × Unit) : Prop := o = (hk_of r.1, none)
def dn253_12 (sc : Option (Nat × (Nat → Int32))) (x0 : Nat) (x1 : Int32) (x2 : Int32) (o : xH × Option Value) (r : ((Int32 × xS) ⊕ (xS × Unit))) : Prop := match r with
  | .inl q => Ev sc 8 253 [] 12 [some (.ref x0), some (.int x1), some (.int x2), some (.int q.1), none, none, none] [] (hk_of q.2) o
  | .inr r => dn253 o r
def dn253_33 (sc : Option (Nat × (Nat → Int32))) (x0 : Nat) (x1 : Int32) (x2 : Int32) (x3 : Int32) (o : xH × Option Value) (r : ((Int32 × Int32 × xS) ⊕ ((Int32 × xS) ⊕ (xS × Unit)))) : Prop := match r with
  | .inl q => Ev sc 8 253 [] 33 [some (.ref x0), some (.int x1), some (.int x2), some (.int x3), some (.int q.1), some (.int q.2.1), none] [] (hk_of q.2.2) o
  | .inr r => dn253_12 sc x0 x1 x2 o r
noncomputable def f253_65 (x0 : Nat) (x1 : Int32) (x2 : Int32) (x3 : Int32) (x5 : Int32) (y0 : Int32) (y1 : Int32) (s : xS) : Option ((Int32 × Int32 × xS) ⊕ ((Int32 × xS) ⊕ (xS × Unit))) := some (Sum.inl ((y1 + y0), (x5 + (1 : Int32)), s))
set_option maxRecDepth 20000 in
theorem s253_65 {sc : Option (Nat × (Nat → Int32))} {x0 : Nat} {x1 : Int32} {x2 : Int32} {x3 : Int32} {x5 : Int32} {y0 : Int32} {y1 : Int32} {s : xS} {o : xH × Option Value} {r : ((Int32 × Int32 × xS) ⊕ ((Int32 × xS) ⊕ (xS × Unit)))} (k0 : oK x0 12 = true) (h : f253_65 x0 x1 x2 x3 x5 y0 y1 s = some r) (hr : dn253_33 sc x0 x1 x2 x3 o r) : Ev sc 8 253 [] 65 [some (.ref x0), some (.int x1), some (.int x2), some (.int x3), none, some (.int x5), none] [.int y0, .int y1] (hk_of s) o := by
  unfold f253_65 at h
  refine E_blk rfl ?_
  refine E_ps 3 (pc' := 71) (l' := [some (.ref x0), some (.int x1), some (.int x2), some (.int x3), some (.int (y1 + y0)), some (.int (x5 + (1 : Int32))), none]) (st' := []) rfl ?_
  refine E_j rfl rfl ?_
  cases h
  exact E_wk (l' := [some (.ref x0), some (.int x1), some (.int x2), some (.int x3), some (.int (y1 + y0)), some (.int (x5 + (1 : Int32))), none]) ⟨rfl, rfl, rfl, rfl, rfl, rfl, trivial⟩ hr
noncomputable def f253_118 (x0 : Nat) (x1 : Int32) (x2 : Int32) (x3 : Int32) (s : xS) : Option ((Int32 × xS) ⊕ (xS × Unit)) := (f246 x0 (3 : Int32) s).bind fun z1 => some (Sum.inl ((x3 + (1 : Int32)), z1.1))
set_option maxRecDepth 20000 in
theorem s253_118 {sc : Option (Nat × (Nat → Int32))} {x0 : Nat} {x1 : Int32} {x2 : Int32} {x3 : Int32} {s : xS} {o : xH × Option Value} {r : ((Int32 × xS) ⊕ (xS × Unit))} (k0 : oK x0 12 = true) (h : f253_118 x0 x1 x2 x3 s = some r) (hr : dn253_12 sc x0 x1 x2 o r) : Ev sc 8 253 [] 118 [some (.ref x0), some (.int x1), some (.int x2), some (.int x3), none, none, none] [] (hk_of s) o := by
  unfold f253_118 at h
  refine E_blk rfl ?_
  refine E_ps 2 (pc' := 120) (l' := [some (.ref x0), some (.int x1), some (.int x2), some (.int x3), none, none, none]) (st' := [.int (3 : Int32), .ref x0]) rfl ?_
  obtain ⟨z1, e2, h⟩ := Option.bind_eq_some_iff.mp h
  refine E_callV (vs := [.ref x0, .int (3 : Int32)]) (rest := []) rfl (by decide) rfl rfl (Nat.le_of_ble_eq_true rfl) (s246 e2) (by decide) ?_
  refine E_ps 1 (pc' := 126) (l' := [some (.ref x0), some (.int x1), some (.int x2), some (.int (x3 + (1 : Int32))), none, none, none]) (st' := []) rfl ?_
  refine E_j rfl rfl ?_
  cases h
  exact E_wk (l' := [some (.ref x0), some (.int x1), some (.int x2), some (.int (x3 + (1 : Int32))), none, none, none]) ⟨rfl, rfl, rfl, rfl, trivial⟩ hr
noncomputable def f253_99 (x0 : Nat) (x1 : Int32) (x2 : Int32) (x3 : Int32) (x5 : Int32) (s : xS) : Option ((Int32 × xS) ⊕ (xS × Unit)) := (f234 x0 x2 s).bind fun z1 => if z1.2 = 0 then (f253_118 x0 x1 x2 x3 z1.1) else ((pI z1.1 x0 64 x3).bind fun t4 => (pI t4 x0 63 x5).bind fun t6 => f253_118 x0 x1 x2 x3 t6)
set_option maxRecDepth 20000 in
theorem s253_99 {sc : Option (Nat × (Nat → Int32))} {x0 : Nat} {x1 : Int32} {x2 : Int32} {x3 : Int32} {x5 : Int32} {s : xS} {o : xH × Option Value} {r : ((Int32 × xS) ⊕ (xS × Unit))} (k0 : oK x0 12 = true) (h : f253_99 x0 x1 x2 x3 x5 s = some r) (hr : dn253_12 sc x0 x1 x2 o r) : Ev sc 8 253 [] 99 [some (.ref x0), some (.int x1), some (.int x2), some (.int x3), none, some (.int x5), none] [] (hk_of s) o := by
  unfold f253_99 at h
  refine E_blk rfl ?_
  refine E_ps 2 (pc' := 101) (l' := [some (.ref x0), some (.int x1), some (.int x2), some (.int x3), none, some (.int x5), none]) (st' := [.int x2, .ref x0]) rfl ?_
  obtain ⟨z1, e2, h⟩ := Option.bind_eq_some_iff.mp h
  refine E_callI (vs := [.ref x0, .int x2]) (rest := []) rfl (by decide) rfl rfl (Nat.le_of_ble_eq_true rfl) (s234 e2) (by decide) ?_
  by_cases c3 : z1.2 = 0
  · rw [if_pos c3] at h
    refine E_jt rfl rfl c3 ?_
    exact E_wk (l' := [some (.ref x0), some (.int x1), some (.int x2), some (.int x3), none, none, none]) ⟨rfl, rfl, rfl, rfl, trivial⟩ (s253_118 k0 h hr)
  · rw [if_neg c3] at h
    refine E_jf rfl rfl c3 ?_
    refine E_blk rfl ?_
    refine E_ps 2 (pc' := 109) (l' := [some (.ref x0), some (.int x1), some (.int x2), some (.int x3), none, some (.int x5), none]) (st' := [.int x3, .ref x0]) rfl ?_
    obtain ⟨t4, e5, h⟩ := Option.bind_eq_some_iff.mp h
    refine E_pi k0 (by decide) rfl e5 ?_
    refine E_ps 2 (pc' := 115) (l' := [some (.ref x0), some (.int x1), some (.int x2), some (.int x3), none, some (.int x5), none]) (st' := [.int x5, .ref x0]) rfl ?_
    obtain ⟨t6, e7, h⟩ := Option.bind_eq_some_iff.mp h
    refine E_pi k0 (by decide) rfl e7 ?_
    exact E_wk (l' := [some (.ref x0), some (.int x1), some (.int x2), some (.int x3), none, none, none]) ⟨rfl, rfl, rfl, rfl, trivial⟩ (s253_118 k0 h hr)
noncomputable def f253_33 (x0 : Nat) (x1 : Int32) (x2 : Int32) (x3 : Int32) (x4 : Int32) (x5 : Int32) (s : xS) : Option ((Int32 × Int32 × xS) ⊕ ((Int32 × xS) ⊕ (xS × Unit))) := if x1 ≤ x5 then (Option.map Sum.inr (if (s.1 x0 64) < 0 then (f253_99 x0 x1 x2 x3 ((s.1 x0 28) - x4) s) else (if (s.1 x0 63) ≤ ((s.1 x0 28) - x4) then (f253_118 x0 x1 x2 x3 s) else (f253_99 x0 x1 x2 x3 ((s.1 x0 28) - x4) s)))) else ((f252 x0 x3 x1 x5 s).bind fun z4 => (f228 x0 z4.2 z4.1).bind fun z6 => if 0 ≤ z6.2 then (f253_65 x0 x1 x2 x3 x5 (0 : Int32) x4 z6.1) else (f253_65 x0 x1 x2 x3 x5 (1 : Int32) x4 z6.1))
set_option maxRecDepth 20000 in
theorem s253_33 {sc : Option (Nat × (Nat → Int32))} {x0 : Nat} {x1 : Int32} {x2 : Int32} {x3 : Int32} {x4 : Int32} {x5 : Int32} {s : xS} {o : xH × Option Value} {r : ((Int32 × Int32 × xS) ⊕ ((Int32 × xS) ⊕ (xS × Unit)))} (k0 : oK x0 12 = true) (h : f253_33 x0 x1 x2 x3 x4 x5 s = some r) (hr : dn253_33 sc x0 x1 x2 x3 o r) : Ev sc 8 253 [] 33 [some (.ref x0), some (.int x1), some (.int x2), some (.int x3), some (.int x4), some (.int x5), none] [] (hk_of s) o := by
  unfold f253_33 at h
  refine E_blk rfl ?_
  refine E_ps 2 (pc' := 36) (l' := [some (.ref x0), some (.int x1), some (.int x2), some (.int x3), some (.int x4), some (.int x5), none]) (st' := [.int x1, .int x5]) rfl ?_
  by_cases c1 : x1 ≤ x5
  · rw [if_pos c1] at h
    refine E_jt rfl rfl c1 ?_
    obtain ⟨r, h, hr⟩ := lf_some (Dn := dn253_33 sc x0 x1 x2 x3 o) h hr
    refine E_blk rfl ?_
    refine E_ps 1 (pc' := 75) (l' := [some (.ref x0), some (.int x1), some (.int x2), some (.int x3), some (.int x4), some (.int x5), none]) (st' := [.ref x0]) rfl ?_
    refine E_gi k0 (by decide) rfl ?_
    refine E_ps 4 (pc' := 84) (l' := [some (.ref x0), some (.int x1), some (.int x2), some (.int x3), some (.int x4), some (.int ((s.1 x0 28) - x4)), none]) (st' := [.ref x0]) rfl ?_
    refine E_gi k0 (by decide) rfl ?_
    by_cases c2 : (s.1 x0 64) < 0
    · rw [if_pos c2] at h
      refine E_jt rfl rfl c2 ?_
      exact E_wk (l' := [some (.ref x0), some (.int x1), some (.int x2), some (.int x3), none, some (.int ((s.1 x0 28) - x4)), none]) ⟨rfl, rfl, rfl, rfl, rfl, trivial⟩ (s253_99 k0 h hr)
    · rw [if_neg c2] at h
      refine E_jf rfl rfl c2 ?_
      refine E_blk rfl ?_
      refine E_ps 2 (pc' := 93) (l' := [some (.ref x0), some (.int x1), some (.int x2), some (.int x3), some (.int x4), some (.int ((s.1 x0 28) - x4)), none]) (st' := [.ref x0, .int ((s.1 x0 28) - x4)]) rfl ?_
      refine E_gi k0 (by decide) rfl ?_
      by_cases c3 : (s.1 x0 63) ≤ ((s.1 x0 28) - x4)
      · rw [if_pos c3] at h
        refine E_jt rfl rfl c3 ?_
        exact E_wk (l' := [some (.ref x0), some (.int x1), some (.int x2), some (.int x3), none, none, none]) ⟨rfl, rfl, rfl, rfl, trivial⟩ (s253_118 k0 h hr)
      · rw [if_neg c3] at h
        refine E_jf rfl rfl c3 ?_
        exact E_wk (l' := [some (.ref x0), some (.int x1), some (.int x2), some (.int x3), none, some (.int ((s.1 x0 28) - x4)), none]) ⟨rfl, rfl, rfl, rfl, rfl, trivial⟩ (s253_99 k0 h hr)
  · rw [if_neg c1] at h
    refine E_jf rfl rfl c1 ?_
    refine E_blk rfl ?_
    refine E_ps 5 (pc' := 45) (l' := [some (.ref x0), some (.int x1), some (.int x2), some (.int x3), some (.int x4), some (.int x5), none]) (st' := [.int x5, .int x1, .int x3, .ref x0, .ref x0]) rfl ?_
    obtain ⟨z4, e5, h⟩ := Option.bind_eq_some_iff.mp h
    refine E_callI (vs := [.ref x0, .int x3, .int x1, .int x5]) (rest := [.ref x0]) rfl (by decide) rfl rfl (Nat.le_of_ble_eq_true rfl) (s252 e5) (by decide) ?_
    obtain ⟨z6, e7, h⟩ := Option.bind_eq_some_iff.mp h
    refine E_callI (vs := [.ref x0, .int z4.2]) (rest := []) rfl (by decide) rfl rfl (Nat.le_of_ble_eq_true rfl) (s228 e7) (by decide) ?_
    refine E_ps 3 (pc' := 57) (l' := [some (.ref x0), some (.int x1), some (.int x2), some (.int x3), some (.int x4), some (.int x5), some (.int z6.2)]) (st' := [.int z6.2, .int x4]) rfl ?_
    by_cases c8 : 0 ≤ z6.2
    · rw [if_pos c8] at h
      refine E_jt rfl rfl c8 ?_
      refine E_blk rfl ?_
      refine E_ps 1 (pc' := 65) (l' := [some (.ref x0), some (.int x1), some (.int x2), some (.int x3), some (.int x4), some (.int x5), some (.int z6.2)]) (st' := [.int (0 : Int32), .int x4]) rfl ?_
      exact E_wk (l' := [some (.ref x0), some (.int x1), some (.int x2), some (.int x3), none, some (.int x5), none]) ⟨rfl, rfl, rfl, rfl, rfl, trivial⟩ (s253_65 k0 h hr)
    · rw [if_neg c8] at h
      refine E_jf rfl rfl c8 ?_
      refine E_blk rfl ?_
      refine E_ps 1 (pc' := 61) (l' := [some (.ref x0), some (.int x1), some (.int x2), some (.int x3), some (.int x4), some (.int x5), some (.int z6.2)]) (st' := [.int (1 : Int32), .int x4]) rfl ?_
      refine E_j rfl rfl ?_
      exact E_wk (l' := [some (.ref x0), some (.int x1), some (.int x2), some (.int x3), none, some (.int x5), none]) ⟨rfl, rfl, rfl, rfl, rfl, trivial⟩ (s253_65 k0 h hr)
theorem s253_33_w {sc : Option (Nat × (Nat → Int32))} {x0 : Nat} {x1 : Int32} {x2 : Int32} {x3 : Int32} {x4 : Int32} {x5 : Int32} {s : xS} {o : xH × Option Value} {r : ((Int32 × xS) ⊕ (xS × Unit))} (k0 : oK x0 12 = true) (h : whl (fun q : (Int32 × Int32 × xS) => f253_33 x0 x1 x2 x3 q.1 q.2.1 q.2.2) (x4, x5, s) = some r) (hr : dn253_12 sc x0 x1 x2 o r) : Ev sc 8 253 [] 33 [some (.ref x0), some (.int x1), some (.int x2), some (.int x3), some (.int x4), some (.int x5), none] [] (hk_of s) o := by
  refine whl_snd (E := fun q : (Int32 × Int32 × xS) => Ev sc 8 253 [] 33 [some (.ref x0), some (.int x1), some (.int x2), some (.int x3), some (.int q.1), some (.int q.2.1), none] [] (hk_of q.2.2) o) (P := fun r => dn253_12 sc x0 x1 x2 o r) (fun q r h hr => ?_) h hr
  exact s253_33 k0 h (by cases r <;> exact hr)
noncomputable def f253_12 (x0 : Nat) (x1 : Int32) (x2 : Int32) (x3 : Int32) (s : xS) : Option ((Int32 × xS) ⊕ (xS × Unit)) := (f251 (s.1 x0 37) x1 s).bind fun z1 => if z1.2 ≤ x3 then (Option.map Sum.inr (some (z1.1, ()))) else (whl (fun q : (Int32 × Int32 × xS) => f253_33 x0 x1 x2 x3 q.1 q.2.1 q.2.2) ((z1.1.1 x0 28), (0 : Int32), z1.1))
set_option maxRecDepth 20000 in
theorem s253_12 {sc : Option (Nat × (Nat → Int32))} {x0 : Nat} {x1 : Int32} {x2 : Int32} {x3 : Int32} {s : xS} {o : xH × Option Value} {r : ((Int32 × xS) ⊕ (xS × Unit))} (k0 : oK x0 12 = true) (h : f253_12 x0 x1 x2 x3 s = some r) (hr : dn253_12 sc x0 x1 x2 o r) : Ev sc 8 253 [] 12 [some (.ref x0), some (.int x1), some (.int x2), some (.int x3), none, none, none] [] (hk_of s) o := by
  unfold f253_12 at h
  refine E_blk rfl ?_
  refine E_ps 2 (pc' := 14) (l' := [some (.ref x0), some (.int x1), some (.int x2), some (.int x3), none, none, none]) (st' := [.ref x0, .int x3]) rfl ?_
  refine E_gi k0 (by decide) rfl ?_
  refine E_ps 1 (pc' := 18) (l' := [some (.ref x0), some (.int x1), some (.int x2), some (.int x3), none, none, none]) (st' := [.int x1, .int (s.1 x0 37), .int x3]) rfl ?_
  obtain ⟨z1, e2, h⟩ := Option.bind_eq_some_iff.mp h
  refine E_callI (vs := [.int (s.1 x0 37), .int x1]) (rest := [.int x3]) rfl (by decide) rfl rfl (Nat.le_of_ble_eq_true rfl) (s251 e2) (by decide) ?_
  by_cases c3 : z1.2 ≤ x3
  · rw [if_pos c3] at h
    refine E_jt rfl rfl c3 ?_
    obtain ⟨r, h, hr⟩ := lf_some (Dn := dn253_12 sc x0 x1 x2 o) h hr
    refine E_blk rfl ?_
    cases h
    exact E_ret rfl (pg_mt_md (by decide)) rfl hr
  · rw [if_neg c3] at h
    refine E_jf rfl rfl c3 ?_
    refine E_blk rfl ?_
    refine E_ps 1 (pc' := 25) (l' := [some (.ref x0), some (.int x1), some (.int x2), some (.int x3), none, none, none]) (st' := [.ref x0]) rfl ?_
    refine E_gi k0 (by decide) rfl ?_
    refine E_ps 3 (pc' := 33) (l' := [some (.ref x0), some (.int x1), some (.int x2), some (.int x3), some (.int (z1.1.1 x0 28)), some (.int (0 : Int32)), none]) (st' := []) rfl ?_
    exact E_wk (l' := [some (.ref x0), some (.int x1), some (.int x2), some (.int x3), some (.int (z1.1.1 x0 28)), some (.int (0 : Int32)), none]) ⟨rfl, rfl, rfl, rfl, rfl, rfl, trivial⟩ (s253_33_w k0 h hr)
theorem s253_12_w {sc : Option (Nat × (Nat → Int32))} {x0 : Nat} {x1 : Int32} {x2 : Int32} {x3 : Int32} {s : xS} {o : xH × Option Value} {r : (xS × Unit)} (k0 : oK x0 12 = true) (h : whl (fun q : (Int32 × xS) => f253_12 x0 x1 x2 q.1 q.2) (x3, s) = some r) (hr : dn253 o r) : Ev sc 8 253 [] 12 [some (.ref x0), some (.int x1), some (.int x2), some (.int x3), none, none, none] [] (hk_of s) o := by
  refine whl_snd (E := fun q : (Int32 × xS) => Ev sc 8 253 [] 12 [some (.ref x0), some (.int x1), some (.int x2), some (.int q.1), none, none, none] [] (hk_of q.2) o) (P := fun r => dn253 o r) (fun q r h hr => ?_) h hr
  exact s253_12 k0 h (by cases r <;> exact hr)
noncomputable def f253 (x0 : Nat) (x1 : Int32) (x2 : Int32) (s : xS) : Option (xS × Unit) := ifg (oK x0 12 = true) <| (f245 x0 (3 : Int32) s).bind fun z1 => (pI z1.1 x0 64 (-1 : Int32)).bind fun t3 => whl (fun q : (Int32 × xS) => f253_12 x0 x1 x2 q.1 q.2) ((0 : Int32), t3)
set_option maxRecDepth 20000 in
theorem s253 {sc : Option (Nat × (Nat → Int32))} {x0 : Nat} {x1 : Int32} {x2 : Int32} {s : xS} {r : xS × Unit} (h : f253 x0 x1 x2 s = some r) : Cl sc 8 253 [.ref x0, .int x1, .int x2] (hk_of s) (hk_of r.1, none) := by
  unfold f253 at h
  obtain ⟨k0, h⟩ := ifg_some h
  refine ⟨pg_md 253, [some (.ref x0), some (.int x1), some (.int x2), none, none, none, none], pg_mt_md (by decide), (hk_rcv k0), rfl, ?_⟩
  generalize ho : ((hk_of r.1, none) : xH × Option Value) = o
  have hr : dn253 o r := ho.symm
  refine E_blk rfl ?_
  refine E_ps 2 (pc' := 2) (l' := [some (.ref x0), some (.int x1), some (.int x2), none, none, none, none]) (st' := [.int (3 : Int32), .ref x0]) rfl ?_
  obtain ⟨z1, e2, h⟩ := Option.bind_eq_some_iff.mp h
  refine E_callV (vs := [.ref x0, .int (3 : Int32)]) (rest := []) rfl (by decide) rfl rfl (Nat.le_of_ble_eq_true rfl) (s245 e2) (by decide) ?_
  refine E_ps 2 (pc' := 7) (l' := [some (.ref x0), some (.int x1), some (.int x2), none, none, none, none]) (st' := [.int (-1 : Int32), .ref x0]) rfl ?_
  obtain ⟨t3, e4, h⟩ := Option.bind_eq_some_iff.mp h
  refine E_pi k0 (by decide) rfl e4 ?_
  refine E_ps 2 (pc' := 12) (l' := [some (.ref x0), some (.int x1), some (.int x2), some (.int (0 : Int32)), none, none, none]) (st' := []) rfl ?_
  exact E_wk (l' := [some (.ref x0), some (.int x1), some (.int x2), some (.int (0 : Int32)), none, none, none]) ⟨rfl, rfl, rfl, rfl, trivial⟩ (s253_12_w k0 h hr)

-- 254: ThreePlatesModel.best(II)I
def dn254 (o : xH × Option Value) (r : xS × Int32) : Prop := o = (hk_of r.1, some (.int r.2))
noncomputable def f254_32 (y0 : Int32) (s : xS) : Option (xS × Int32) := some (s, y0)
set_option maxRecDepth 20000 in
theorem s254_32 {sc : Option (Nat × (Nat → Int32))} {y0 : Int32} {s : xS} {o : xH × Option Value} {r : (xS × Int32)}  (h : f254_32 y0 s = some r) (hr : dn254 o r) : Ev sc 9 254 [] 32 [none, none, none] [.int y0] (hk_of s) o := by
  unfold f254_32 at h
  refine E_blk rfl ?_
  cases h
  exact E_ret rfl (pg_mt_md (by decide)) rfl hr
noncomputable def f254 (x0 : Nat) (x1 : Int32) (x2 : Int32) (s : xS) : Option (xS × Int32) := ifg (oK x0 12 = true) <| (f250 x0 x1 x2 s).bind fun z1 => if z1.2 = 0 then (some (z1.1, (-1 : Int32))) else ((f253 x0 x1 x2 z1.1).bind fun z4 => if 0 ≤ (z4.1.1 x0 64) then (f254_32 (z4.1.1 x0 63) z4.1) else (f254_32 (-1 : Int32) z4.1))
set_option maxRecDepth 20000 in
theorem s254 {sc : Option (Nat × (Nat → Int32))} {x0 : Nat} {x1 : Int32} {x2 : Int32} {s : xS} {r : xS × Int32} (h : f254 x0 x1 x2 s = some r) : Cl sc 9 254 [.ref x0, .int x1, .int x2] (hk_of s) (hk_of r.1, some (.int r.2)) := by
  unfold f254 at h
  obtain ⟨k0, h⟩ := ifg_some h
  refine ⟨pg_md 254, [some (.ref x0), some (.int x1), some (.int x2)], pg_mt_md (by decide), (hk_rcv k0), rfl, ?_⟩
  generalize ho : ((hk_of r.1, some (Value.int r.2)) : xH × Option Value) = o
  have hr : dn254 o r := ho.symm
  refine E_blk rfl ?_
  refine E_ps 3 (pc' := 3) (l' := [some (.ref x0), some (.int x1), some (.int x2)]) (st' := [.int x2, .int x1, .ref x0]) rfl ?_
  obtain ⟨z1, e2, h⟩ := Option.bind_eq_some_iff.mp h
  refine E_callI (vs := [.ref x0, .int x1, .int x2]) (rest := []) rfl (by decide) rfl rfl (Nat.le_of_ble_eq_true rfl) (s250 e2) (by decide) ?_
  by_cases c3 : z1.2 = 0
  · rw [if_pos c3] at h
    refine E_jt rfl rfl c3 ?_
    refine E_blk rfl ?_
    refine E_ps 1 (pc' := 10) (l' := [some (.ref x0), some (.int x1), some (.int x2)]) (st' := [.int (-1 : Int32)]) rfl ?_
    cases h
    exact E_ret rfl (pg_mt_md (by decide)) rfl hr
  · rw [if_neg c3] at h
    refine E_jf rfl rfl c3 ?_
    refine E_blk rfl ?_
    refine E_ps 3 (pc' := 14) (l' := [some (.ref x0), some (.int x1), some (.int x2)]) (st' := [.int x2, .int x1, .ref x0]) rfl ?_
    obtain ⟨z4, e5, h⟩ := Option.bind_eq_some_iff.mp h
    refine E_callV (vs := [.ref x0, .int x1, .int x2]) (rest := []) rfl (by decide) rfl rfl (Nat.le_of_ble_eq_true rfl) (s253 e5) (by decide) ?_
    refine E_ps 1 (pc' := 18) (l' := [some (.ref x0), some (.int x1), some (.int x2)]) (st' := [.ref x0]) rfl ?_
    refine E_gi k0 (by decide) rfl ?_
    by_cases c6 : 0 ≤ (z4.1.1 x0 64)
    · rw [if_pos c6] at h
      refine E_jt rfl rfl c6 ?_
      refine E_blk rfl ?_
      refine E_ps 1 (pc' := 29) (l' := [some (.ref x0), some (.int x1), some (.int x2)]) (st' := [.ref x0]) rfl ?_
      refine E_gi k0 (by decide) rfl ?_
      exact E_wk (l' := [none, none, none]) trivial (s254_32  h hr)
    · rw [if_neg c6] at h
      refine E_jf rfl rfl c6 ?_
      refine E_blk rfl ?_
      refine E_ps 1 (pc' := 25) (l' := [some (.ref x0), some (.int x1), some (.int x2)]) (st' := [.int (-1 : Int32)]) rfl ?_
      refine E_j rfl rfl ?_
      exact E_wk (l' := [none, none, none]) trivial (s254_32  h hr)

-- 255: ThreePlatesModel.bestRound(III)I
def dn255 (o : xH × Option Value) (r : xS × Int32) : Prop := o = (hk_of r.1, some (.int r.2))
noncomputable def f255_49 (y0 : Int32) (s : xS) : Option (xS × Int32) := some (s, y0)
set_option maxRecDepth 20000 in
theorem s255_49 {sc : Option (Nat × (Nat → Int32))} {y0 : Int32} {s : xS} {o : xH × Option Value} {r : (xS × Int32)}  (h : f255_49 y0 s = some r) (hr : dn255 o r) : Ev sc 9 255 [] 49 [none, none, none, none] [.int y0] (hk_of s) o := by
  unfold f255_49 at h
  refine E_blk rfl ?_
  cases h
  exact E_ret rfl (pg_mt_md (by decide)) rfl hr
noncomputable def f255_20  (s : xS) : Option (xS × Int32) := some (s, (-1 : Int32))
set_option maxRecDepth 20000 in
theorem s255_20 {sc : Option (Nat × (Nat → Int32))}  {s : xS} {o : xH × Option Value} {r : (xS × Int32)}  (h : f255_20  s = some r) (hr : dn255 o r) : Ev sc 9 255 [] 20 [none, none, none, none] [] (hk_of s) o := by
  unfold f255_20 at h
  refine E_blk rfl ?_
  refine E_ps 1 (pc' := 21) (l' := [none, none, none, none]) (st' := [.int (-1 : Int32)]) rfl ?_
  cases h
  exact E_ret rfl (pg_mt_md (by decide)) rfl hr
noncomputable def f255 (x0 : Nat) (x1 : Int32) (x2 : Int32) (x3 : Int32) (s : xS) : Option (xS × Int32) := ifg (oK x0 12 = true) <| (f250 x0 x1 x2 s).bind fun z1 => if z1.2 = 0 then (f255_20  z1.1) else ((f195 x3 (0 : Int32) (x1 - (1 : Int32)) z1.1).bind fun z4 => if z4.2 = 0 then (f255_20  z4.1) else ((f253 x0 x1 x2 z4.1).bind fun z7 => if 0 ≤ (z7.1.1 x0 64) then ((f252 x0 (z7.1.1 x0 64) x1 x3 z7.1).bind fun z10 => f255_49 z10.2 z10.1) else (f255_49 (-1 : Int32) z7.1)))
set_option maxRecDepth 20000 in
theorem s255 {sc : Option (Nat × (Nat → Int32))} {x0 : Nat} {x1 : Int32} {x2 : Int32} {x3 : Int32} {s : xS} {r : xS × Int32} (h : f255 x0 x1 x2 x3 s = some r) : Cl sc 9 255 [.ref x0, .int x1, .int x2, .int x3] (hk_of s) (hk_of r.1, some (.int r.2)) := by
  unfold f255 at h
  obtain ⟨k0, h⟩ := ifg_some h
  refine ⟨pg_md 255, [some (.ref x0), some (.int x1), some (.int x2), some (.int x3)], pg_mt_md (by decide), (hk_rcv k0), rfl, ?_⟩
  generalize ho : ((hk_of r.1, some (Value.int r.2)) : xH × Option Value) = o
  have hr : dn255 o r := ho.symm
  refine E_blk rfl ?_
  refine E_ps 3 (pc' := 3) (l' := [some (.ref x0), some (.int x1), some (.int x2), some (.int x3)]) (st' := [.int x2, .int x1, .ref x0]) rfl ?_
  obtain ⟨z1, e2, h⟩ := Option.bind_eq_some_iff.mp h
  refine E_callI (vs := [.ref x0, .int x1, .int x2]) (rest := []) rfl (by decide) rfl rfl (Nat.le_of_ble_eq_true rfl) (s250 e2) (by decide) ?_
  by_cases c3 : z1.2 = 0
  · rw [if_pos c3] at h
    refine E_jt rfl rfl c3 ?_
    exact E_wk (l' := [none, none, none, none]) trivial (s255_20  h hr)
  · rw [if_neg c3] at h
    refine E_jf rfl rfl c3 ?_
    refine E_blk rfl ?_
    refine E_ps 5 (pc' := 14) (l' := [some (.ref x0), some (.int x1), some (.int x2), some (.int x3)]) (st' := [.int (x1 - (1 : Int32)), .int (0 : Int32), .int x3]) rfl ?_
    obtain ⟨z4, e5, h⟩ := Option.bind_eq_some_iff.mp h
    refine E_callI (vs := [.int x3, .int (0 : Int32), .int (x1 - (1 : Int32))]) (rest := []) rfl (by decide) rfl rfl (Nat.le_of_ble_eq_true rfl) (s195 e5) (by decide) ?_
    by_cases c6 : z4.2 = 0
    · rw [if_pos c6] at h
      refine E_jt rfl rfl c6 ?_
      exact E_wk (l' := [none, none, none, none]) trivial (s255_20  h hr)
    · rw [if_neg c6] at h
      refine E_jf rfl rfl c6 ?_
      refine E_blk rfl ?_
      refine E_ps 3 (pc' := 25) (l' := [some (.ref x0), some (.int x1), some (.int x2), some (.int x3)]) (st' := [.int x2, .int x1, .ref x0]) rfl ?_
      obtain ⟨z7, e8, h⟩ := Option.bind_eq_some_iff.mp h
      refine E_callV (vs := [.ref x0, .int x1, .int x2]) (rest := []) rfl (by decide) rfl rfl (Nat.le_of_ble_eq_true rfl) (s253 e8) (by decide) ?_
      refine E_ps 1 (pc' := 29) (l' := [some (.ref x0), some (.int x1), some (.int x2), some (.int x3)]) (st' := [.ref x0]) rfl ?_
      refine E_gi k0 (by decide) rfl ?_
      by_cases c9 : 0 ≤ (z7.1.1 x0 64)
      · rw [if_pos c9] at h
        refine E_jt rfl rfl c9 ?_
        refine E_blk rfl ?_
        refine E_ps 2 (pc' := 41) (l' := [some (.ref x0), some (.int x1), some (.int x2), some (.int x3)]) (st' := [.ref x0, .ref x0]) rfl ?_
        refine E_gi k0 (by decide) rfl ?_
        refine E_ps 2 (pc' := 46) (l' := [some (.ref x0), some (.int x1), some (.int x2), some (.int x3)]) (st' := [.int x3, .int x1, .int (z7.1.1 x0 64), .ref x0]) rfl ?_
        obtain ⟨z10, e11, h⟩ := Option.bind_eq_some_iff.mp h
        refine E_callI (vs := [.ref x0, .int (z7.1.1 x0 64), .int x1, .int x3]) (rest := []) rfl (by decide) rfl rfl (Nat.le_of_ble_eq_true rfl) (s252 e11) (by decide) ?_
        exact E_wk (l' := [none, none, none, none]) trivial (s255_49  h hr)
      · rw [if_neg c9] at h
        refine E_jf rfl rfl c9 ?_
        refine E_blk rfl ?_
        refine E_ps 1 (pc' := 36) (l' := [some (.ref x0), some (.int x1), some (.int x2), some (.int x3)]) (st' := [.int (-1 : Int32)]) rfl ?_
        refine E_j rfl rfl ?_
        exact E_wk (l' := [none, none, none, none]) trivial (s255_49  h hr)

-- 256: ThreePlatesModel.hole(II)J
def dn256 (o : xH × Option Value) (r : xS × Int64) : Prop := o = (hk_of r.1, some (.long r.2))
noncomputable def f256_15  (s : xS) : Option (xS × Int64) := some (s, (-1 : Int64))
set_option maxRecDepth 20000 in
theorem s256_15 {sc : Option (Nat × (Nat → Int32))}  {s : xS} {o : xH × Option Value} {r : (xS × Int64)}  (h : f256_15  s = some r) (hr : dn256 o r) : Ev sc 5 256 [] 15 [none, none, none] [] (hk_of s) o := by
  unfold f256_15 at h
  refine E_blk rfl ?_
  refine E_ps 1 (pc' := 18) (l' := [none, none, none]) (st' := [.long (-1 : Int64)]) rfl ?_
  cases h
  exact E_ret rfl (pg_mt_md (by decide)) rfl hr
noncomputable def f256 (x0 : Nat) (x1 : Int32) (x2 : Int32) (s : xS) : Option (xS × Int64) := ifg (oK x0 12 = true) <| (f198 x0 x1 s).bind fun z1 => if z1.2 = 0 then (f256_15  z1.1) else ((f217 x2 z1.1).bind fun z4 => if z4.2 = 0 then (f256_15  z4.1) else ((f207 x0 x1 (-1 : Int32) z4.1).bind fun z7 => (f212 x0 z7.1).bind fun z9 => (f222 x0 z9.1).bind fun z11 => (f216 z11.2 (z11.1.2 x0 45) x2 z11.1).bind fun z13 => some (z13.1, z13.2)))
set_option maxRecDepth 20000 in
theorem s256 {sc : Option (Nat × (Nat → Int32))} {x0 : Nat} {x1 : Int32} {x2 : Int32} {s : xS} {r : xS × Int64} (h : f256 x0 x1 x2 s = some r) : Cl sc 5 256 [.ref x0, .int x1, .int x2] (hk_of s) (hk_of r.1, some (.long r.2)) := by
  unfold f256 at h
  obtain ⟨k0, h⟩ := ifg_some h
  refine ⟨pg_md 256, [some (.ref x0), some (.int x1), some (.int x2)], pg_mt_md (by decide), (hk_rcv k0), rfl, ?_⟩
  generalize ho : ((hk_of r.1, some (Value.long r.2)) : xH × Option Value) = o
  have hr : dn256 o r := ho.symm
  refine E_blk rfl ?_
  refine E_ps 2 (pc' := 2) (l' := [some (.ref x0), some (.int x1), some (.int x2)]) (st' := [.int x1, .ref x0]) rfl ?_
  obtain ⟨z1, e2, h⟩ := Option.bind_eq_some_iff.mp h
  refine E_callI (vs := [.ref x0, .int x1]) (rest := []) rfl (by decide) rfl rfl (Nat.le_of_ble_eq_true rfl) (s198 e2) (by decide) ?_
  by_cases c3 : z1.2 = 0
  · rw [if_pos c3] at h
    refine E_jt rfl rfl c3 ?_
    exact E_wk (l' := [none, none, none]) trivial (s256_15  h hr)
  · rw [if_neg c3] at h
    refine E_jf rfl rfl c3 ?_
    refine E_blk rfl ?_
    refine E_ps 1 (pc' := 9) (l' := [some (.ref x0), some (.int x1), some (.int x2)]) (st' := [.int x2]) rfl ?_
    obtain ⟨z4, e5, h⟩ := Option.bind_eq_some_iff.mp h
    refine E_callI (vs := [.int x2]) (rest := []) rfl (by decide) rfl rfl (Nat.le_of_ble_eq_true rfl) (s217 e5) (by decide) ?_
    by_cases c6 : z4.2 = 0
    · rw [if_pos c6] at h
      refine E_jt rfl rfl c6 ?_
      exact E_wk (l' := [none, none, none]) trivial (s256_15  h hr)
    · rw [if_neg c6] at h
      refine E_jf rfl rfl c6 ?_
      refine E_blk rfl ?_
      refine E_ps 3 (pc' := 22) (l' := [some (.ref x0), some (.int x1), some (.int x2)]) (st' := [.int (-1 : Int32), .int x1, .ref x0]) rfl ?_
      obtain ⟨z7, e8, h⟩ := Option.bind_eq_some_iff.mp h
      refine E_callV (vs := [.ref x0, .int x1, .int (-1 : Int32)]) (rest := []) rfl (by decide) rfl rfl (Nat.le_of_ble_eq_true rfl) (s207 e8) (by decide) ?_
      refine E_ps 1 (pc' := 26) (l' := [some (.ref x0), some (.int x1), some (.int x2)]) (st' := [.ref x0]) rfl ?_
      obtain ⟨z9, e10, h⟩ := Option.bind_eq_some_iff.mp h
      refine E_callV (vs := [.ref x0]) (rest := []) rfl (by decide) rfl rfl (Nat.le_of_ble_eq_true rfl) (s212 e10) (by decide) ?_
      refine E_ps 1 (pc' := 30) (l' := [some (.ref x0), some (.int x1), some (.int x2)]) (st' := [.ref x0]) rfl ?_
      obtain ⟨z11, e12, h⟩ := Option.bind_eq_some_iff.mp h
      refine E_callL (vs := [.ref x0]) (rest := []) rfl (by decide) rfl rfl (Nat.le_of_ble_eq_true rfl) (s222 e12) (by decide) ?_
      refine E_ps 1 (pc' := 34) (l' := [some (.ref x0), some (.int x1), some (.int x2)]) (st' := [.ref x0, .long z11.2]) rfl ?_
      refine E_gl k0 (by decide) rfl ?_
      refine E_ps 1 (pc' := 38) (l' := [some (.ref x0), some (.int x1), some (.int x2)]) (st' := [.int x2, .long (z11.1.2 x0 45), .long z11.2]) rfl ?_
      obtain ⟨z13, e14, h⟩ := Option.bind_eq_some_iff.mp h
      refine E_callL (vs := [.long z11.2, .long (z11.1.2 x0 45), .int x2]) (rest := []) rfl (by decide) rfl rfl (Nat.le_of_ble_eq_true rfl) (s216 e14) (by decide) ?_
      cases h
      exact E_ret rfl (pg_mt_md (by decide)) rfl hr

-- 257: ThreePlatesModel.lineOver(IIIII)J
def dn257 (o : xH × Option Value) (r : xS × Int64) : Prop := o = (hk_of r.1, some (.long r.2))
noncomputable def f257 (x0 : Nat) (x1 : Int32) (x2 : Int32) (x3 : Int32) (x4 : Int32) (x5 : Int32) (s : xS) : Option (xS × Int64) := ifg (oK x0 12 = true) <| (hk_R x0 20).bind fun a1 => (aI s a1 (x1 + (x2 * x3))).bind fun v3 => (hk_R x0 20).bind fun a5 => (aI s a5 (x1 + (x2 * x4))).bind fun v7 => (hk_R x0 20).bind fun a9 => (aI s a9 (x1 + (x2 * x5))).bind fun v11 => some (s, (((v3.toInt64 - v11.toInt64) * (x4 - x3).toInt64) + ((v7.toInt64 - v3.toInt64) * (x5 - x3).toInt64)))
set_option maxRecDepth 20000 in
theorem s257 {sc : Option (Nat × (Nat → Int32))} {x0 : Nat} {x1 : Int32} {x2 : Int32} {x3 : Int32} {x4 : Int32} {x5 : Int32} {s : xS} {r : xS × Int64} (h : f257 x0 x1 x2 x3 x4 x5 s = some r) : Cl sc 1 257 [.ref x0, .int x1, .int x2, .int x3, .int x4, .int x5] (hk_of s) (hk_of r.1, some (.long r.2)) := by
  unfold f257 at h
  obtain ⟨k0, h⟩ := ifg_some h
  refine ⟨pg_md 257, [some (.ref x0), some (.int x1), some (.int x2), some (.int x3), some (.int x4), some (.int x5), none, none, none, none], pg_mt_md (by decide), (hk_rcv k0), rfl, ?_⟩
  generalize ho : ((hk_of r.1, some (Value.long r.2)) : xH × Option Value) = o
  have hr : dn257 o r := ho.symm
  refine E_blk rfl ?_
  refine E_ps 1 (pc' := 1) (l' := [some (.ref x0), some (.int x1), some (.int x2), some (.int x3), some (.int x4), some (.int x5), none, none, none, none]) (st' := [.ref x0]) rfl ?_
  obtain ⟨a1, e2, h⟩ := Option.bind_eq_some_iff.mp h
  refine E_gr k0 (by decide) rfl e2 ?_
  refine E_ps 5 (pc' := 9) (l' := [some (.ref x0), some (.int x1), some (.int x2), some (.int x3), some (.int x4), some (.int x5), none, none, none, none]) (st' := [.int (x1 + (x2 * x3)), .ref a1]) rfl ?_
  obtain ⟨v3, e4, h⟩ := Option.bind_eq_some_iff.mp h
  refine E_ai e4 ?_
  refine E_ps 3 (pc' := 14) (l' := [some (.ref x0), some (.int x1), some (.int x2), some (.int x3), some (.int x4), some (.int x5), some (.long v3.toInt64), none, none, none]) (st' := [.ref x0]) rfl ?_
  obtain ⟨a5, e6, h⟩ := Option.bind_eq_some_iff.mp h
  refine E_gr k0 (by decide) rfl e6 ?_
  refine E_ps 5 (pc' := 23) (l' := [some (.ref x0), some (.int x1), some (.int x2), some (.int x3), some (.int x4), some (.int x5), some (.long v3.toInt64), none, none, none]) (st' := [.int (x1 + (x2 * x4)), .ref a5]) rfl ?_
  obtain ⟨v7, e8, h⟩ := Option.bind_eq_some_iff.mp h
  refine E_ai e8 ?_
  refine E_ps 4 (pc' := 30) (l' := [some (.ref x0), some (.int x1), some (.int x2), some (.int x3), some (.int x4), some (.int x5), some (.long v3.toInt64), none, some (.long v7.toInt64), none]) (st' := [.ref x0, .long v3.toInt64]) rfl ?_
  obtain ⟨a9, e10, h⟩ := Option.bind_eq_some_iff.mp h
  refine E_gr k0 (by decide) rfl e10 ?_
  refine E_ps 5 (pc' := 39) (l' := [some (.ref x0), some (.int x1), some (.int x2), some (.int x3), some (.int x4), some (.int x5), some (.long v3.toInt64), none, some (.long v7.toInt64), none]) (st' := [.int (x1 + (x2 * x5)), .ref a9, .long v3.toInt64]) rfl ?_
  obtain ⟨v11, e12, h⟩ := Option.bind_eq_some_iff.mp h
  refine E_ai e12 ?_
  refine E_ps 16 (pc' := 60) (l' := [some (.ref x0), some (.int x1), some (.int x2), some (.int x3), some (.int x4), some (.int x5), some (.long v3.toInt64), none, some (.long v7.toInt64), none]) (st' := [.long (((v3.toInt64 - v11.toInt64) * (x4 - x3).toInt64) + ((v7.toInt64 - v3.toInt64) * (x5 - x3).toInt64))]) rfl ?_
  cases h
  exact E_ret rfl (pg_mt_md (by decide)) rfl hr

-- 258: ThreePlatesModel.lineMiddle(IIII)J
def dn258 (o : xH × Option Value) (r : xS × Int64) : Prop := o = (hk_of r.1, some (.long r.2))
noncomputable def f258 (x0 : Nat) (x1 : Int32) (x2 : Int32) (x3 : Int32) (x4 : Int32) (s : xS) : Option (xS × Int64) := ifg (oK x0 12 = true) <| (hk_R x0 20).bind fun a1 => (aI s a1 (x1 + (x2 * x3))).bind fun v3 => (hk_R x0 20).bind fun a5 => (aI s a5 (x1 + (x2 * x4))).bind fun v7 => (f196 x0 s).bind fun z9 => some (z9.1, ((((2 : Int64) * v3.toInt64) * (x4 - x3).toInt64) + ((v7.toInt64 - v3.toInt64) * ((z9.2 - (1 : Int32)) - ((2 : Int32) * x3)).toInt64)))
set_option maxRecDepth 20000 in
theorem s258 {sc : Option (Nat × (Nat → Int32))} {x0 : Nat} {x1 : Int32} {x2 : Int32} {x3 : Int32} {x4 : Int32} {s : xS} {r : xS × Int64} (h : f258 x0 x1 x2 x3 x4 s = some r) : Cl sc 2 258 [.ref x0, .int x1, .int x2, .int x3, .int x4] (hk_of s) (hk_of r.1, some (.long r.2)) := by
  unfold f258 at h
  obtain ⟨k0, h⟩ := ifg_some h
  refine ⟨pg_md 258, [some (.ref x0), some (.int x1), some (.int x2), some (.int x3), some (.int x4), none, none, none, none], pg_mt_md (by decide), (hk_rcv k0), rfl, ?_⟩
  generalize ho : ((hk_of r.1, some (Value.long r.2)) : xH × Option Value) = o
  have hr : dn258 o r := ho.symm
  refine E_blk rfl ?_
  refine E_ps 1 (pc' := 1) (l' := [some (.ref x0), some (.int x1), some (.int x2), some (.int x3), some (.int x4), none, none, none, none]) (st' := [.ref x0]) rfl ?_
  obtain ⟨a1, e2, h⟩ := Option.bind_eq_some_iff.mp h
  refine E_gr k0 (by decide) rfl e2 ?_
  refine E_ps 5 (pc' := 9) (l' := [some (.ref x0), some (.int x1), some (.int x2), some (.int x3), some (.int x4), none, none, none, none]) (st' := [.int (x1 + (x2 * x3)), .ref a1]) rfl ?_
  obtain ⟨v3, e4, h⟩ := Option.bind_eq_some_iff.mp h
  refine E_ai e4 ?_
  refine E_ps 3 (pc' := 14) (l' := [some (.ref x0), some (.int x1), some (.int x2), some (.int x3), some (.int x4), some (.long v3.toInt64), none, none, none]) (st' := [.ref x0]) rfl ?_
  obtain ⟨a5, e6, h⟩ := Option.bind_eq_some_iff.mp h
  refine E_gr k0 (by decide) rfl e6 ?_
  refine E_ps 5 (pc' := 23) (l' := [some (.ref x0), some (.int x1), some (.int x2), some (.int x3), some (.int x4), some (.long v3.toInt64), none, none, none]) (st' := [.int (x1 + (x2 * x4)), .ref a5]) rfl ?_
  obtain ⟨v7, e8, h⟩ := Option.bind_eq_some_iff.mp h
  refine E_ai e8 ?_
  refine E_ps 14 (pc' := 45) (l' := [some (.ref x0), some (.int x1), some (.int x2), some (.int x3), some (.int x4), some (.long v3.toInt64), none, some (.long v7.toInt64), none]) (st' := [.ref x0, .long (v7.toInt64 - v3.toInt64), .long (((2 : Int64) * v3.toInt64) * (x4 - x3).toInt64)]) rfl ?_
  obtain ⟨z9, e10, h⟩ := Option.bind_eq_some_iff.mp h
  refine E_callI (vs := [.ref x0]) (rest := [.long (v7.toInt64 - v3.toInt64), .long (((2 : Int64) * v3.toInt64) * (x4 - x3).toInt64)]) rfl (by decide) rfl rfl (Nat.le_of_ble_eq_true rfl) (s196 e10) (by decide) ?_
  refine E_ps 9 (pc' := 57) (l' := [some (.ref x0), some (.int x1), some (.int x2), some (.int x3), some (.int x4), some (.long v3.toInt64), none, some (.long v7.toInt64), none]) (st' := [.long ((((2 : Int64) * v3.toInt64) * (x4 - x3).toInt64) + ((v7.toInt64 - v3.toInt64) * ((z9.2 - (1 : Int32)) - ((2 : Int32) * x3)).toInt64))]) rfl ?_
  cases h
  exact E_ret rfl (pg_mt_md (by decide)) rfl hr

-- 259: ThreePlatesModel.isLine(IIII)Z
def dn259 (o : xH × Option Value) (r : xS × Int32) : Prop := o = (hk_of r.1, some (.int r.2))
def dn259_3 (sc : Option (Nat × (Nat → Int32))) (x0 : Nat) (x1 : Int32) (x2 : Int32) (x3 : Int32) (x4 : Int32) (o : xH × Option Value) (r : ((Int32 × xS) ⊕ (xS × Int32))) : Prop := match r with
  | .inl q => Ev sc 2 259 [] 3 [some (.ref x0), some (.int x1), some (.int x2), some (.int x3), some (.int x4), some (.int q.1)] [] (hk_of q.2) o
  | .inr r => dn259 o r
noncomputable def f259_3 (x0 : Nat) (x1 : Int32) (x2 : Int32) (x3 : Int32) (x4 : Int32) (x5 : Int32) (s : xS) : Option ((Int32 × xS) ⊕ (xS × Int32)) := (f196 x0 s).bind fun z1 => if z1.2 ≤ x5 then (Option.map Sum.inr (some (z1.1, (1 : Int32)))) else ((f257 x0 x1 x2 x3 x4 x5 z1.1).bind fun z4 => if 0 ≤ (lg_cmp z4.2 (0 : Int64)) then (some (Sum.inl ((x5 + (1 : Int32)), z4.1))) else (Option.map Sum.inr (some (z4.1, (0 : Int32)))))
set_option maxRecDepth 20000 in
theorem s259_3 {sc : Option (Nat × (Nat → Int32))} {x0 : Nat} {x1 : Int32} {x2 : Int32} {x3 : Int32} {x4 : Int32} {x5 : Int32} {s : xS} {o : xH × Option Value} {r : ((Int32 × xS) ⊕ (xS × Int32))} (k0 : oK x0 12 = true) (h : f259_3 x0 x1 x2 x3 x4 x5 s = some r) (hr : dn259_3 sc x0 x1 x2 x3 x4 o r) : Ev sc 2 259 [] 3 [some (.ref x0), some (.int x1), some (.int x2), some (.int x3), some (.int x4), some (.int x5)] [] (hk_of s) o := by
  unfold f259_3 at h
  refine E_blk rfl ?_
  refine E_ps 2 (pc' := 6) (l' := [some (.ref x0), some (.int x1), some (.int x2), some (.int x3), some (.int x4), some (.int x5)]) (st' := [.ref x0, .int x5]) rfl ?_
  obtain ⟨z1, e2, h⟩ := Option.bind_eq_some_iff.mp h
  refine E_callI (vs := [.ref x0]) (rest := [.int x5]) rfl (by decide) rfl rfl (Nat.le_of_ble_eq_true rfl) (s196 e2) (by decide) ?_
  by_cases c3 : z1.2 ≤ x5
  · rw [if_pos c3] at h
    refine E_jt rfl rfl c3 ?_
    obtain ⟨r, h, hr⟩ := lf_some (Dn := dn259_3 sc x0 x1 x2 x3 x4 o) h hr
    refine E_blk rfl ?_
    refine E_ps 1 (pc' := 37) (l' := [some (.ref x0), some (.int x1), some (.int x2), some (.int x3), some (.int x4), some (.int x5)]) (st' := [.int (1 : Int32)]) rfl ?_
    cases h
    exact E_ret rfl (pg_mt_md (by decide)) rfl hr
  · rw [if_neg c3] at h
    refine E_jf rfl rfl c3 ?_
    refine E_blk rfl ?_
    refine E_ps 6 (pc' := 20) (l' := [some (.ref x0), some (.int x1), some (.int x2), some (.int x3), some (.int x4), some (.int x5)]) (st' := [.int x5, .int x4, .int x3, .int x2, .int x1, .ref x0]) rfl ?_
    obtain ⟨z4, e5, h⟩ := Option.bind_eq_some_iff.mp h
    refine E_callL (vs := [.ref x0, .int x1, .int x2, .int x3, .int x4, .int x5]) (rest := []) rfl (by decide) rfl rfl (Nat.le_of_ble_eq_true rfl) (s257 e5) (by decide) ?_
    refine E_ps 2 (pc' := 25) (l' := [some (.ref x0), some (.int x1), some (.int x2), some (.int x3), some (.int x4), some (.int x5)]) (st' := [.int (lg_cmp z4.2 (0 : Int64))]) rfl ?_
    by_cases c6 : 0 ≤ (lg_cmp z4.2 (0 : Int64))
    · rw [if_pos c6] at h
      refine E_jt rfl rfl c6 ?_
      refine E_blk rfl ?_
      refine E_ps 1 (pc' := 33) (l' := [some (.ref x0), some (.int x1), some (.int x2), some (.int x3), some (.int x4), some (.int (x5 + (1 : Int32)))]) (st' := []) rfl ?_
      refine E_j rfl rfl ?_
      cases h
      exact E_wk (l' := [some (.ref x0), some (.int x1), some (.int x2), some (.int x3), some (.int x4), some (.int (x5 + (1 : Int32)))]) ⟨rfl, rfl, rfl, rfl, rfl, rfl, trivial⟩ hr
    · rw [if_neg c6] at h
      refine E_jf rfl rfl c6 ?_
      obtain ⟨r, h, hr⟩ := lf_some (Dn := dn259_3 sc x0 x1 x2 x3 x4 o) h hr
      refine E_blk rfl ?_
      refine E_ps 1 (pc' := 29) (l' := [some (.ref x0), some (.int x1), some (.int x2), some (.int x3), some (.int x4), some (.int x5)]) (st' := [.int (0 : Int32)]) rfl ?_
      cases h
      exact E_ret rfl (pg_mt_md (by decide)) rfl hr
theorem s259_3_w {sc : Option (Nat × (Nat → Int32))} {x0 : Nat} {x1 : Int32} {x2 : Int32} {x3 : Int32} {x4 : Int32} {x5 : Int32} {s : xS} {o : xH × Option Value} {r : (xS × Int32)} (k0 : oK x0 12 = true) (h : whl (fun q : (Int32 × xS) => f259_3 x0 x1 x2 x3 x4 q.1 q.2) (x5, s) = some r) (hr : dn259 o r) : Ev sc 2 259 [] 3 [some (.ref x0), some (.int x1), some (.int x2), some (.int x3), some (.int x4), some (.int x5)] [] (hk_of s) o := by
  refine whl_snd (E := fun q : (Int32 × xS) => Ev sc 2 259 [] 3 [some (.ref x0), some (.int x1), some (.int x2), some (.int x3), some (.int x4), some (.int q.1)] [] (hk_of q.2) o) (P := fun r => dn259 o r) (fun q r h hr => ?_) h hr
  exact s259_3 k0 h (by cases r <;> exact hr)
noncomputable def f259 (x0 : Nat) (x1 : Int32) (x2 : Int32) (x3 : Int32) (x4 : Int32) (s : xS) : Option (xS × Int32) := ifg (oK x0 12 = true) <| whl (fun q : (Int32 × xS) => f259_3 x0 x1 x2 x3 x4 q.1 q.2) ((0 : Int32), s)
set_option maxRecDepth 20000 in
theorem s259 {sc : Option (Nat × (Nat → Int32))} {x0 : Nat} {x1 : Int32} {x2 : Int32} {x3 : Int32} {x4 : Int32} {s : xS} {r : xS × Int32} (h : f259 x0 x1 x2 x3 x4 s = some r) : Cl sc 2 259 [.ref x0, .int x1, .int x2, .int x3, .int x4] (hk_of s) (hk_of r.1, some (.int r.2)) := by
  unfold f259 at h
  obtain ⟨k0, h⟩ := ifg_some h
  refine ⟨pg_md 259, [some (.ref x0), some (.int x1), some (.int x2), some (.int x3), some (.int x4), none], pg_mt_md (by decide), (hk_rcv k0), rfl, ?_⟩
  generalize ho : ((hk_of r.1, some (Value.int r.2)) : xH × Option Value) = o
  have hr : dn259 o r := ho.symm
  refine E_blk rfl ?_
  refine E_ps 2 (pc' := 3) (l' := [some (.ref x0), some (.int x1), some (.int x2), some (.int x3), some (.int x4), some (.int (0 : Int32))]) (st' := []) rfl ?_
  exact E_wk (l' := [some (.ref x0), some (.int x1), some (.int x2), some (.int x3), some (.int x4), some (.int (0 : Int32))]) ⟨rfl, rfl, rfl, rfl, rfl, rfl, trivial⟩ (s259_3_w k0 h hr)

-- 260: ThreePlatesModel.edge(IZII)I
def dn260 (o : xH × Option Value) (r : xS × Int32) : Prop := o = (hk_of r.1, some (.int r.2))
def dn260_76 (sc : Option (Nat × (Nat → Int32))) (x0 : Nat) (x4 : Int32) (x5 : Int32) (x6 : Int32) (o : xH × Option Value) (r : ((Int32 × Int32 × Int32 × xS) ⊕ (xS × Int32))) : Prop := match r with
  | .inl q => Ev sc 3 260 [] 76 [some (.ref x0), none, none, none, some (.int x4), some (.int x5), some (.int x6), some (.int q.1), some (.int q.2.1), some (.int q.2.2.1), none, none] [] (hk_of q.2.2.2) o
  | .inr r => dn260 o r
def dn260_194 (sc : Option (Nat × (Nat → Int32))) (x0 : Nat) (x4 : Int32) (x5 : Int32) (x6 : Int32) (x7 : Int32) (x8 : Int32) (o : xH × Option Value) (r : ((Int64 × Int32 × xS) ⊕ (xS × Int32))) : Prop := match r with
  | .inl q => Ev sc 3 260 [] 194 [some (.ref x0), none, none, none, some (.int x4), some (.int x5), some (.int x6), some (.int x7), some (.int x8), some (.long q.1), none, some (.int q.2.1)] [] (hk_of q.2.2) o
  | .inr r => dn260 o r
def dn260_91 (sc : Option (Nat × (Nat → Int32))) (x0 : Nat) (x4 : Int32) (x5 : Int32) (x6 : Int32) (x9 : Int32) (o : xH × Option Value) (r : ((Int32 × Int32 × Int32 × xS) ⊕ ((Int32 × Int32 × Int32 × xS) ⊕ (xS × Int32)))) : Prop := match r with
  | .inl q => Ev sc 3 260 [] 91 [some (.ref x0), none, none, none, some (.int x4), some (.int x5), some (.int x6), some (.int q.1), some (.int q.2.1), some (.int x9), some (.int q.2.2.1), none] [] (hk_of q.2.2.2) o
  | .inr r => dn260_76 sc x0 x4 x5 x6 o r
noncomputable def f260_239 (x0 : Nat) (x4 : Int32) (x5 : Int32) (x6 : Int32) (x7 : Int32) (x8 : Int32) (x9 : Int64) (x11 : Int32) (s : xS) : Option ((Int64 × Int32 × xS) ⊕ (xS × Int32)) := some (Sum.inl (x9, (x11 + (1 : Int32)), s))
set_option maxRecDepth 20000 in
theorem s260_239 {sc : Option (Nat × (Nat → Int32))} {x0 : Nat} {x4 : Int32} {x5 : Int32} {x6 : Int32} {x7 : Int32} {x8 : Int32} {x9 : Int64} {x11 : Int32} {s : xS} {o : xH × Option Value} {r : ((Int64 × Int32 × xS) ⊕ (xS × Int32))} (k0 : oK x0 12 = true) (h : f260_239 x0 x4 x5 x6 x7 x8 x9 x11 s = some r) (hr : dn260_194 sc x0 x4 x5 x6 x7 x8 o r) : Ev sc 3 260 [] 239 [some (.ref x0), none, none, none, some (.int x4), some (.int x5), some (.int x6), some (.int x7), some (.int x8), some (.long x9), none, some (.int x11)] [] (hk_of s) o := by
  unfold f260_239 at h
  refine E_blk rfl ?_
  refine E_ps 1 (pc' := 242) (l' := [some (.ref x0), none, none, none, some (.int x4), some (.int x5), some (.int x6), some (.int x7), some (.int x8), some (.long x9), none, some (.int (x11 + (1 : Int32)))]) (st' := []) rfl ?_
  refine E_j rfl rfl ?_
  cases h
  exact E_wk (l' := [some (.ref x0), none, none, none, some (.int x4), some (.int x5), some (.int x6), some (.int x7), some (.int x8), some (.long x9), none, some (.int (x11 + (1 : Int32)))]) ⟨rfl, rfl, rfl, rfl, rfl, rfl, rfl, rfl, trivial⟩ hr
noncomputable def f260_194 (x0 : Nat) (x4 : Int32) (x5 : Int32) (x6 : Int32) (x7 : Int32) (x8 : Int32) (x9 : Int64) (x11 : Int32) (s : xS) : Option ((Int64 × Int32 × xS) ⊕ (xS × Int32)) := (f196 x0 s).bind fun z1 => if z1.2 ≤ x11 then (Option.map Sum.inr ((f216 x9 (x8 - x7).toInt64 x4 z1.1).bind fun z4 => some (z4.1, (z4.2).toInt32))) else ((f257 x0 x5 x6 x7 x8 x11 z1.1).bind fun z6 => if (lg_cmp z6.2 x9) ≤ 0 then (f260_239 x0 x4 x5 x6 x7 x8 x9 x11 z6.1) else ((f257 x0 x5 x6 x7 x8 x11 z6.1).bind fun z9 => f260_239 x0 x4 x5 x6 x7 x8 z9.2 x11 z9.1))
set_option maxRecDepth 20000 in
theorem s260_194 {sc : Option (Nat × (Nat → Int32))} {x0 : Nat} {x4 : Int32} {x5 : Int32} {x6 : Int32} {x7 : Int32} {x8 : Int32} {x9 : Int64} {x11 : Int32} {s : xS} {o : xH × Option Value} {r : ((Int64 × Int32 × xS) ⊕ (xS × Int32))} (k0 : oK x0 12 = true) (h : f260_194 x0 x4 x5 x6 x7 x8 x9 x11 s = some r) (hr : dn260_194 sc x0 x4 x5 x6 x7 x8 o r) : Ev sc 3 260 [] 194 [some (.ref x0), none, none, none, some (.int x4), some (.int x5), some (.int x6), some (.int x7), some (.int x8), some (.long x9), none, some (.int x11)] [] (hk_of s) o := by
  unfold f260_194 at h
  refine E_blk rfl ?_
  refine E_ps 2 (pc' := 197) (l' := [some (.ref x0), none, none, none, some (.int x4), some (.int x5), some (.int x6), some (.int x7), some (.int x8), some (.long x9), none, some (.int x11)]) (st' := [.ref x0, .int x11]) rfl ?_
  obtain ⟨z1, e2, h⟩ := Option.bind_eq_some_iff.mp h
  refine E_callI (vs := [.ref x0]) (rest := [.int x11]) rfl (by decide) rfl rfl (Nat.le_of_ble_eq_true rfl) (s196 e2) (by decide) ?_
  by_cases c3 : z1.2 ≤ x11
  · rw [if_pos c3] at h
    refine E_jt rfl rfl c3 ?_
    obtain ⟨r, h, hr⟩ := lf_some (Dn := dn260_194 sc x0 x4 x5 x6 x7 x8 o) h hr
    refine E_blk rfl ?_
    refine E_ps 6 (pc' := 255) (l' := [some (.ref x0), none, none, none, some (.int x4), some (.int x5), some (.int x6), some (.int x7), some (.int x8), some (.long x9), none, some (.int x11)]) (st' := [.int x4, .long (x8 - x7).toInt64, .long x9]) rfl ?_
    obtain ⟨z4, e5, h⟩ := Option.bind_eq_some_iff.mp h
    refine E_callL (vs := [.long x9, .long (x8 - x7).toInt64, .int x4]) (rest := []) rfl (by decide) rfl rfl (Nat.le_of_ble_eq_true rfl) (s216 e5) (by decide) ?_
    refine E_ps 1 (pc' := 259) (l' := [some (.ref x0), none, none, none, some (.int x4), some (.int x5), some (.int x6), some (.int x7), some (.int x8), some (.long x9), none, some (.int x11)]) (st' := [.int (z4.2).toInt32]) rfl ?_
    cases h
    exact E_ret rfl (pg_mt_md (by decide)) rfl hr
  · rw [if_neg c3] at h
    refine E_jf rfl rfl c3 ?_
    refine E_blk rfl ?_
    refine E_ps 6 (pc' := 214) (l' := [some (.ref x0), none, none, none, some (.int x4), some (.int x5), some (.int x6), some (.int x7), some (.int x8), some (.long x9), none, some (.int x11)]) (st' := [.int x11, .int x8, .int x7, .int x6, .int x5, .ref x0]) rfl ?_
    obtain ⟨z6, e7, h⟩ := Option.bind_eq_some_iff.mp h
    refine E_callL (vs := [.ref x0, .int x5, .int x6, .int x7, .int x8, .int x11]) (rest := []) rfl (by decide) rfl rfl (Nat.le_of_ble_eq_true rfl) (s257 e7) (by decide) ?_
    refine E_ps 2 (pc' := 220) (l' := [some (.ref x0), none, none, none, some (.int x4), some (.int x5), some (.int x6), some (.int x7), some (.int x8), some (.long x9), none, some (.int x11)]) (st' := [.int (lg_cmp z6.2 x9)]) rfl ?_
    by_cases c8 : (lg_cmp z6.2 x9) ≤ 0
    · rw [if_pos c8] at h
      refine E_jt rfl rfl c8 ?_
      exact E_wk (l' := [some (.ref x0), none, none, none, some (.int x4), some (.int x5), some (.int x6), some (.int x7), some (.int x8), some (.long x9), none, some (.int x11)]) ⟨rfl, rfl, rfl, rfl, rfl, rfl, rfl, rfl, trivial⟩ (s260_239 k0 h hr)
    · rw [if_neg c8] at h
      refine E_jf rfl rfl c8 ?_
      refine E_blk rfl ?_
      refine E_ps 6 (pc' := 234) (l' := [some (.ref x0), none, none, none, some (.int x4), some (.int x5), some (.int x6), some (.int x7), some (.int x8), some (.long x9), none, some (.int x11)]) (st' := [.int x11, .int x8, .int x7, .int x6, .int x5, .ref x0]) rfl ?_
      obtain ⟨z9, e10, h⟩ := Option.bind_eq_some_iff.mp h
      refine E_callL (vs := [.ref x0, .int x5, .int x6, .int x7, .int x8, .int x11]) (rest := []) rfl (by decide) rfl rfl (Nat.le_of_ble_eq_true rfl) (s257 e10) (by decide) ?_
      refine E_ps 1 (pc' := 239) (l' := [some (.ref x0), none, none, none, some (.int x4), some (.int x5), some (.int x6), some (.int x7), some (.int x8), some (.long z9.2), none, some (.int x11)]) (st' := []) rfl ?_
      exact E_wk (l' := [some (.ref x0), none, none, none, some (.int x4), some (.int x5), some (.int x6), some (.int x7), some (.int x8), some (.long z9.2), none, some (.int x11)]) ⟨rfl, rfl, rfl, rfl, rfl, rfl, rfl, rfl, trivial⟩ (s260_239 k0 h hr)
theorem s260_194_w {sc : Option (Nat × (Nat → Int32))} {x0 : Nat} {x4 : Int32} {x5 : Int32} {x6 : Int32} {x7 : Int32} {x8 : Int32} {x9 : Int64} {x11 : Int32} {s : xS} {o : xH × Option Value} {r : (xS × Int32)} (k0 : oK x0 12 = true) (h : whl (fun q : (Int64 × Int32 × xS) => f260_194 x0 x4 x5 x6 x7 x8 q.1 q.2.1 q.2.2) (x9, x11, s) = some r) (hr : dn260 o r) : Ev sc 3 260 [] 194 [some (.ref x0), none, none, none, some (.int x4), some (.int x5), some (.int x6), some (.int x7), some (.int x8), some (.long x9), none, some (.int x11)] [] (hk_of s) o := by
  refine whl_snd (E := fun q : (Int64 × Int32 × xS) => Ev sc 3 260 [] 194 [some (.ref x0), none, none, none, some (.int x4), some (.int x5), some (.int x6), some (.int x7), some (.int x8), some (.long q.1), none, some (.int q.2.1)] [] (hk_of q.2.2) o) (P := fun r => dn260 o r) (fun q r h hr => ?_) h hr
  exact s260_194 k0 h (by cases r <;> exact hr)
noncomputable def f260_176 (x0 : Nat) (x4 : Int32) (x5 : Int32) (x6 : Int32) (x7 : Int32) (x8 : Int32) (x9 : Int32) (x10 : Int32) (s : xS) : Option ((Int32 × Int32 × Int32 × xS) ⊕ ((Int32 × Int32 × Int32 × xS) ⊕ (xS × Int32))) := some (Sum.inl (x7, x8, (x10 + (1 : Int32)), s))
set_option maxRecDepth 20000 in
theorem s260_176 {sc : Option (Nat × (Nat → Int32))} {x0 : Nat} {x4 : Int32} {x5 : Int32} {x6 : Int32} {x7 : Int32} {x8 : Int32} {x9 : Int32} {x10 : Int32} {s : xS} {o : xH × Option Value} {r : ((Int32 × Int32 × Int32 × xS) ⊕ ((Int32 × Int32 × Int32 × xS) ⊕ (xS × Int32)))} (k0 : oK x0 12 = true) (h : f260_176 x0 x4 x5 x6 x7 x8 x9 x10 s = some r) (hr : dn260_91 sc x0 x4 x5 x6 x9 o r) : Ev sc 3 260 [] 176 [some (.ref x0), none, none, none, some (.int x4), some (.int x5), some (.int x6), some (.int x7), some (.int x8), some (.int x9), some (.int x10), none] [] (hk_of s) o := by
  unfold f260_176 at h
  refine E_blk rfl ?_
  refine E_ps 1 (pc' := 179) (l' := [some (.ref x0), none, none, none, some (.int x4), some (.int x5), some (.int x6), some (.int x7), some (.int x8), some (.int x9), some (.int (x10 + (1 : Int32))), none]) (st' := []) rfl ?_
  refine E_j rfl rfl ?_
  cases h
  exact E_wk (l' := [some (.ref x0), none, none, none, some (.int x4), some (.int x5), some (.int x6), some (.int x7), some (.int x8), some (.int x9), some (.int (x10 + (1 : Int32))), none]) ⟨rfl, rfl, rfl, rfl, rfl, rfl, rfl, rfl, trivial⟩ hr
noncomputable def f260_168 (x0 : Nat) (x4 : Int32) (x5 : Int32) (x6 : Int32) (x9 : Int32) (x10 : Int32) (s : xS) : Option ((Int32 × Int32 × Int32 × xS) ⊕ ((Int32 × Int32 × Int32 × xS) ⊕ (xS × Int32))) := f260_176 x0 x4 x5 x6 x9 x10 x9 x10 s
set_option maxRecDepth 20000 in
theorem s260_168 {sc : Option (Nat × (Nat → Int32))} {x0 : Nat} {x4 : Int32} {x5 : Int32} {x6 : Int32} {x9 : Int32} {x10 : Int32} {s : xS} {o : xH × Option Value} {r : ((Int32 × Int32 × Int32 × xS) ⊕ ((Int32 × Int32 × Int32 × xS) ⊕ (xS × Int32)))} (k0 : oK x0 12 = true) (h : f260_168 x0 x4 x5 x6 x9 x10 s = some r) (hr : dn260_91 sc x0 x4 x5 x6 x9 o r) : Ev sc 3 260 [] 168 [some (.ref x0), none, none, none, some (.int x4), some (.int x5), some (.int x6), none, none, some (.int x9), some (.int x10), none] [] (hk_of s) o := by
  unfold f260_168 at h
  refine E_blk rfl ?_
  refine E_ps 4 (pc' := 176) (l' := [some (.ref x0), none, none, none, some (.int x4), some (.int x5), some (.int x6), some (.int x9), some (.int x10), some (.int x9), some (.int x10), none]) (st' := []) rfl ?_
  exact E_wk (l' := [some (.ref x0), none, none, none, some (.int x4), some (.int x5), some (.int x6), some (.int x9), some (.int x10), some (.int x9), some (.int x10), none]) ⟨rfl, rfl, rfl, rfl, rfl, rfl, rfl, rfl, trivial⟩ (s260_176 k0 h hr)
noncomputable def f260_91 (x0 : Nat) (x4 : Int32) (x5 : Int32) (x6 : Int32) (x7 : Int32) (x8 : Int32) (x9 : Int32) (x10 : Int32) (s : xS) : Option ((Int32 × Int32 × Int32 × xS) ⊕ ((Int32 × Int32 × Int32 × xS) ⊕ (xS × Int32))) := (f196 x0 s).bind fun z1 => if z1.2 ≤ x10 then (Option.map Sum.inr (some (Sum.inl (x7, x8, (x9 + (1 : Int32)), z1.1)))) else ((f259 x0 x5 x6 x9 x10 z1.1).bind fun z4 => if z4.2 = 0 then (f260_176 x0 x4 x5 x6 x7 x8 x9 x10 z4.1) else (if x7 < 0 then (f260_168 x0 x4 x5 x6 x9 x10 z4.1) else ((f258 x0 x5 x6 x9 x10 z4.1).bind fun z8 => (f258 x0 x5 x6 x7 x8 z8.1).bind fun z10 => if (lg_cmp (z8.2 * (x8 - x7).toInt64) (z10.2 * (x10 - x9).toInt64)) < 0 then (f260_168 x0 x4 x5 x6 x9 x10 z10.1) else (f260_176 x0 x4 x5 x6 x7 x8 x9 x10 z10.1))))
set_option maxRecDepth 20000 in
theorem s260_91 {sc : Option (Nat × (Nat → Int32))} {x0 : Nat} {x4 : Int32} {x5 : Int32} {x6 : Int32} {x7 : Int32} {x8 : Int32} {x9 : Int32} {x10 : Int32} {s : xS} {o : xH × Option Value} {r : ((Int32 × Int32 × Int32 × xS) ⊕ ((Int32 × Int32 × Int32 × xS) ⊕ (xS × Int32)))} (k0 : oK x0 12 = true) (h : f260_91 x0 x4 x5 x6 x7 x8 x9 x10 s = some r) (hr : dn260_91 sc x0 x4 x5 x6 x9 o r) : Ev sc 3 260 [] 91 [some (.ref x0), none, none, none, some (.int x4), some (.int x5), some (.int x6), some (.int x7), some (.int x8), some (.int x9), some (.int x10), none] [] (hk_of s) o := by
  unfold f260_91 at h
  refine E_blk rfl ?_
  refine E_ps 2 (pc' := 94) (l' := [some (.ref x0), none, none, none, some (.int x4), some (.int x5), some (.int x6), some (.int x7), some (.int x8), some (.int x9), some (.int x10), none]) (st' := [.ref x0, .int x10]) rfl ?_
  obtain ⟨z1, e2, h⟩ := Option.bind_eq_some_iff.mp h
  refine E_callI (vs := [.ref x0]) (rest := [.int x10]) rfl (by decide) rfl rfl (Nat.le_of_ble_eq_true rfl) (s196 e2) (by decide) ?_
  by_cases c3 : z1.2 ≤ x10
  · rw [if_pos c3] at h
    refine E_jt rfl rfl c3 ?_
    obtain ⟨r, h, hr⟩ := lf_some (Dn := dn260_91 sc x0 x4 x5 x6 x9 o) h hr
    refine E_blk rfl ?_
    refine E_ps 1 (pc' := 185) (l' := [some (.ref x0), none, none, none, some (.int x4), some (.int x5), some (.int x6), some (.int x7), some (.int x8), some (.int (x9 + (1 : Int32))), some (.int x10), none]) (st' := []) rfl ?_
    refine E_j rfl rfl ?_
    cases h
    exact E_wk (l' := [some (.ref x0), none, none, none, some (.int x4), some (.int x5), some (.int x6), some (.int x7), some (.int x8), some (.int (x9 + (1 : Int32))), none, none]) ⟨rfl, rfl, rfl, rfl, rfl, rfl, rfl, trivial⟩ hr
  · rw [if_neg c3] at h
    refine E_jf rfl rfl c3 ?_
    refine E_blk rfl ?_
    refine E_ps 5 (pc' := 109) (l' := [some (.ref x0), none, none, none, some (.int x4), some (.int x5), some (.int x6), some (.int x7), some (.int x8), some (.int x9), some (.int x10), none]) (st' := [.int x10, .int x9, .int x6, .int x5, .ref x0]) rfl ?_
    obtain ⟨z4, e5, h⟩ := Option.bind_eq_some_iff.mp h
    refine E_callI (vs := [.ref x0, .int x5, .int x6, .int x9, .int x10]) (rest := []) rfl (by decide) rfl rfl (Nat.le_of_ble_eq_true rfl) (s259 e5) (by decide) ?_
    by_cases c6 : z4.2 = 0
    · rw [if_pos c6] at h
      refine E_jt rfl rfl c6 ?_
      refine E_blk rfl ?_
      refine E_j rfl rfl ?_
      exact E_wk (l' := [some (.ref x0), none, none, none, some (.int x4), some (.int x5), some (.int x6), some (.int x7), some (.int x8), some (.int x9), some (.int x10), none]) ⟨rfl, rfl, rfl, rfl, rfl, rfl, rfl, rfl, trivial⟩ (s260_176 k0 h hr)
    · rw [if_neg c6] at h
      refine E_jf rfl rfl c6 ?_
      refine E_blk rfl ?_
      refine E_ps 1 (pc' := 120) (l' := [some (.ref x0), none, none, none, some (.int x4), some (.int x5), some (.int x6), some (.int x7), some (.int x8), some (.int x9), some (.int x10), none]) (st' := [.int x7]) rfl ?_
      by_cases c7 : x7 < 0
      · rw [if_pos c7] at h
        refine E_jt rfl rfl c7 ?_
        exact E_wk (l' := [some (.ref x0), none, none, none, some (.int x4), some (.int x5), some (.int x6), none, none, some (.int x9), some (.int x10), none]) ⟨rfl, rfl, rfl, rfl, rfl, rfl, trivial⟩ (s260_168 k0 h hr)
      · rw [if_neg c7] at h
        refine E_jf rfl rfl c7 ?_
        refine E_blk rfl ?_
        refine E_ps 5 (pc' := 132) (l' := [some (.ref x0), none, none, none, some (.int x4), some (.int x5), some (.int x6), some (.int x7), some (.int x8), some (.int x9), some (.int x10), none]) (st' := [.int x10, .int x9, .int x6, .int x5, .ref x0]) rfl ?_
        obtain ⟨z8, e9, h⟩ := Option.bind_eq_some_iff.mp h
        refine E_callL (vs := [.ref x0, .int x5, .int x6, .int x9, .int x10]) (rest := []) rfl (by decide) rfl rfl (Nat.le_of_ble_eq_true rfl) (s258 e9) (by decide) ?_
        refine E_ps 10 (pc' := 151) (l' := [some (.ref x0), none, none, none, some (.int x4), some (.int x5), some (.int x6), some (.int x7), some (.int x8), some (.int x9), some (.int x10), none]) (st' := [.int x8, .int x7, .int x6, .int x5, .ref x0, .long (z8.2 * (x8 - x7).toInt64)]) rfl ?_
        obtain ⟨z10, e11, h⟩ := Option.bind_eq_some_iff.mp h
        refine E_callL (vs := [.ref x0, .int x5, .int x6, .int x7, .int x8]) (rest := [.long (z8.2 * (x8 - x7).toInt64)]) rfl (by decide) rfl rfl (Nat.le_of_ble_eq_true rfl) (s258 e11) (by decide) ?_
        refine E_ps 6 (pc' := 162) (l' := [some (.ref x0), none, none, none, some (.int x4), some (.int x5), some (.int x6), some (.int x7), some (.int x8), some (.int x9), some (.int x10), none]) (st' := [.int (lg_cmp (z8.2 * (x8 - x7).toInt64) (z10.2 * (x10 - x9).toInt64))]) rfl ?_
        by_cases c12 : (lg_cmp (z8.2 * (x8 - x7).toInt64) (z10.2 * (x10 - x9).toInt64)) < 0
        · rw [if_pos c12] at h
          refine E_jt rfl rfl c12 ?_
          exact E_wk (l' := [some (.ref x0), none, none, none, some (.int x4), some (.int x5), some (.int x6), none, none, some (.int x9), some (.int x10), none]) ⟨rfl, rfl, rfl, rfl, rfl, rfl, trivial⟩ (s260_168 k0 h hr)
        · rw [if_neg c12] at h
          refine E_jf rfl rfl c12 ?_
          refine E_blk rfl ?_
          refine E_j rfl rfl ?_
          exact E_wk (l' := [some (.ref x0), none, none, none, some (.int x4), some (.int x5), some (.int x6), some (.int x7), some (.int x8), some (.int x9), some (.int x10), none]) ⟨rfl, rfl, rfl, rfl, rfl, rfl, rfl, rfl, trivial⟩ (s260_176 k0 h hr)
theorem s260_91_w {sc : Option (Nat × (Nat → Int32))} {x0 : Nat} {x4 : Int32} {x5 : Int32} {x6 : Int32} {x7 : Int32} {x8 : Int32} {x9 : Int32} {x10 : Int32} {s : xS} {o : xH × Option Value} {r : ((Int32 × Int32 × Int32 × xS) ⊕ (xS × Int32))} (k0 : oK x0 12 = true) (h : whl (fun q : (Int32 × Int32 × Int32 × xS) => f260_91 x0 x4 x5 x6 q.1 q.2.1 x9 q.2.2.1 q.2.2.2) (x7, x8, x10, s) = some r) (hr : dn260_76 sc x0 x4 x5 x6 o r) : Ev sc 3 260 [] 91 [some (.ref x0), none, none, none, some (.int x4), some (.int x5), some (.int x6), some (.int x7), some (.int x8), some (.int x9), some (.int x10), none] [] (hk_of s) o := by
  refine whl_snd (E := fun q : (Int32 × Int32 × Int32 × xS) => Ev sc 3 260 [] 91 [some (.ref x0), none, none, none, some (.int x4), some (.int x5), some (.int x6), some (.int q.1), some (.int q.2.1), some (.int x9), some (.int q.2.2.1), none] [] (hk_of q.2.2.2) o) (P := fun r => dn260_76 sc x0 x4 x5 x6 o r) (fun q r h hr => ?_) h hr
  exact s260_91 k0 h (by cases r <;> exact hr)
noncomputable def f260_76 (x0 : Nat) (x4 : Int32) (x5 : Int32) (x6 : Int32) (x7 : Int32) (x8 : Int32) (x9 : Int32) (s : xS) : Option ((Int32 × Int32 × Int32 × xS) ⊕ (xS × Int32)) := (f196 x0 s).bind fun z1 => if z1.2 ≤ x9 then (Option.map Sum.inr (whl (fun q : (Int64 × Int32 × xS) => f260_194 x0 x4 x5 x6 x7 x8 q.1 q.2.1 q.2.2) ((0 : Int64), (0 : Int32), z1.1))) else (whl (fun q : (Int32 × Int32 × Int32 × xS) => f260_91 x0 x4 x5 x6 q.1 q.2.1 x9 q.2.2.1 q.2.2.2) (x7, x8, (x9 + (1 : Int32)), z1.1))
set_option maxRecDepth 20000 in
theorem s260_76 {sc : Option (Nat × (Nat → Int32))} {x0 : Nat} {x4 : Int32} {x5 : Int32} {x6 : Int32} {x7 : Int32} {x8 : Int32} {x9 : Int32} {s : xS} {o : xH × Option Value} {r : ((Int32 × Int32 × Int32 × xS) ⊕ (xS × Int32))} (k0 : oK x0 12 = true) (h : f260_76 x0 x4 x5 x6 x7 x8 x9 s = some r) (hr : dn260_76 sc x0 x4 x5 x6 o r) : Ev sc 3 260 [] 76 [some (.ref x0), none, none, none, some (.int x4), some (.int x5), some (.int x6), some (.int x7), some (.int x8), some (.int x9), none, none] [] (hk_of s) o := by
  unfold f260_76 at h
  refine E_blk rfl ?_
  refine E_ps 2 (pc' := 79) (l' := [some (.ref x0), none, none, none, some (.int x4), some (.int x5), some (.int x6), some (.int x7), some (.int x8), some (.int x9), none, none]) (st' := [.ref x0, .int x9]) rfl ?_
  obtain ⟨z1, e2, h⟩ := Option.bind_eq_some_iff.mp h
  refine E_callI (vs := [.ref x0]) (rest := [.int x9]) rfl (by decide) rfl rfl (Nat.le_of_ble_eq_true rfl) (s196 e2) (by decide) ?_
  by_cases c3 : z1.2 ≤ x9
  · rw [if_pos c3] at h
    refine E_jt rfl rfl c3 ?_
    obtain ⟨r, h, hr⟩ := lf_some (Dn := dn260_76 sc x0 x4 x5 x6 o) h hr
    refine E_blk rfl ?_
    refine E_ps 4 (pc' := 194) (l' := [some (.ref x0), none, none, none, some (.int x4), some (.int x5), some (.int x6), some (.int x7), some (.int x8), some (.long (0 : Int64)), none, some (.int (0 : Int32))]) (st' := []) rfl ?_
    exact E_wk (l' := [some (.ref x0), none, none, none, some (.int x4), some (.int x5), some (.int x6), some (.int x7), some (.int x8), some (.long (0 : Int64)), none, some (.int (0 : Int32))]) ⟨rfl, rfl, rfl, rfl, rfl, rfl, rfl, rfl, trivial⟩ (s260_194_w k0 h hr)
  · rw [if_neg c3] at h
    refine E_jf rfl rfl c3 ?_
    refine E_blk rfl ?_
    refine E_ps 4 (pc' := 91) (l' := [some (.ref x0), none, none, none, some (.int x4), some (.int x5), some (.int x6), some (.int x7), some (.int x8), some (.int x9), some (.int (x9 + (1 : Int32))), none]) (st' := []) rfl ?_
    exact E_wk (l' := [some (.ref x0), none, none, none, some (.int x4), some (.int x5), some (.int x6), some (.int x7), some (.int x8), some (.int x9), some (.int (x9 + (1 : Int32))), none]) ⟨rfl, rfl, rfl, rfl, rfl, rfl, rfl, rfl, trivial⟩ (s260_91_w k0 h hr)
theorem s260_76_w {sc : Option (Nat × (Nat → Int32))} {x0 : Nat} {x4 : Int32} {x5 : Int32} {x6 : Int32} {x7 : Int32} {x8 : Int32} {x9 : Int32} {s : xS} {o : xH × Option Value} {r : (xS × Int32)} (k0 : oK x0 12 = true) (h : whl (fun q : (Int32 × Int32 × Int32 × xS) => f260_76 x0 x4 x5 x6 q.1 q.2.1 q.2.2.1 q.2.2.2) (x7, x8, x9, s) = some r) (hr : dn260 o r) : Ev sc 3 260 [] 76 [some (.ref x0), none, none, none, some (.int x4), some (.int x5), some (.int x6), some (.int x7), some (.int x8), some (.int x9), none, none] [] (hk_of s) o := by
  refine whl_snd (E := fun q : (Int32 × Int32 × Int32 × xS) => Ev sc 3 260 [] 76 [some (.ref x0), none, none, none, some (.int x4), some (.int x5), some (.int x6), some (.int q.1), some (.int q.2.1), some (.int q.2.2.1), none, none] [] (hk_of q.2.2.2) o) (P := fun r => dn260 o r) (fun q r h hr => ?_) h hr
  exact s260_76 k0 h (by cases r <;> exact hr)
noncomputable def f260_65 (x0 : Nat) (x4 : Int32) (x5 : Int32) (y0 : Int32) (s : xS) : Option (xS × Int32) := whl (fun q : (Int32 × Int32 × Int32 × xS) => f260_76 x0 x4 x5 y0 q.1 q.2.1 q.2.2.1 q.2.2.2) ((-1 : Int32), (-1 : Int32), (0 : Int32), s)
set_option maxRecDepth 20000 in
theorem s260_65 {sc : Option (Nat × (Nat → Int32))} {x0 : Nat} {x4 : Int32} {x5 : Int32} {y0 : Int32} {s : xS} {o : xH × Option Value} {r : (xS × Int32)} (k0 : oK x0 12 = true) (h : f260_65 x0 x4 x5 y0 s = some r) (hr : dn260 o r) : Ev sc 3 260 [] 65 [some (.ref x0), none, none, none, some (.int x4), some (.int x5), none, none, none, none, none, none] [.int y0] (hk_of s) o := by
  unfold f260_65 at h
  refine E_blk rfl ?_
  refine E_ps 7 (pc' := 76) (l' := [some (.ref x0), none, none, none, some (.int x4), some (.int x5), some (.int y0), some (.int (-1 : Int32)), some (.int (-1 : Int32)), some (.int (0 : Int32)), none, none]) (st' := []) rfl ?_
  exact E_wk (l' := [some (.ref x0), none, none, none, some (.int x4), some (.int x5), some (.int y0), some (.int (-1 : Int32)), some (.int (-1 : Int32)), some (.int (0 : Int32)), none, none]) ⟨rfl, rfl, rfl, rfl, rfl, rfl, rfl, trivial⟩ (s260_76_w k0 h hr)
noncomputable def f260_50 (x0 : Nat) (x2 : Int32) (x4 : Int32) (y0 : Int32) (y1 : Int32) (s : xS) : Option (xS × Int32) := if x2 = 0 then ((f196 x0 s).bind fun z2 => f260_65 x0 x4 (y1 + y0) z2.2 z2.1) else (f260_65 x0 x4 (y1 + y0) (1 : Int32) s)
set_option maxRecDepth 20000 in
theorem s260_50 {sc : Option (Nat × (Nat → Int32))} {x0 : Nat} {x2 : Int32} {x4 : Int32} {y0 : Int32} {y1 : Int32} {s : xS} {o : xH × Option Value} {r : (xS × Int32)} (k0 : oK x0 12 = true) (h : f260_50 x0 x2 x4 y0 y1 s = some r) (hr : dn260 o r) : Ev sc 3 260 [] 50 [some (.ref x0), none, some (.int x2), none, some (.int x4), none, none, none, none, none, none, none] [.int y0, .int y1] (hk_of s) o := by
  unfold f260_50 at h
  refine E_blk rfl ?_
  refine E_ps 3 (pc' := 54) (l' := [some (.ref x0), none, some (.int x2), none, some (.int x4), some (.int (y1 + y0)), none, none, none, none, none, none]) (st' := [.int x2]) rfl ?_
  by_cases c1 : x2 = 0
  · rw [if_pos c1] at h
    refine E_jt rfl rfl c1 ?_
    refine E_blk rfl ?_
    refine E_ps 1 (pc' := 62) (l' := [some (.ref x0), none, some (.int x2), none, some (.int x4), some (.int (y1 + y0)), none, none, none, none, none, none]) (st' := [.ref x0]) rfl ?_
    obtain ⟨z2, e3, h⟩ := Option.bind_eq_some_iff.mp h
    refine E_callI (vs := [.ref x0]) (rest := []) rfl (by decide) rfl rfl (Nat.le_of_ble_eq_true rfl) (s196 e3) (by decide) ?_
    exact E_wk (l' := [some (.ref x0), none, none, none, some (.int x4), some (.int (y1 + y0)), none, none, none, none, none, none]) ⟨rfl, rfl, rfl, trivial⟩ (s260_65 k0 h hr)
  · rw [if_neg c1] at h
    refine E_jf rfl rfl c1 ?_
    refine E_blk rfl ?_
    refine E_ps 1 (pc' := 58) (l' := [some (.ref x0), none, some (.int x2), none, some (.int x4), some (.int (y1 + y0)), none, none, none, none, none, none]) (st' := [.int (1 : Int32)]) rfl ?_
    refine E_j rfl rfl ?_
    exact E_wk (l' := [some (.ref x0), none, none, none, some (.int x4), some (.int (y1 + y0)), none, none, none, none, none, none]) ⟨rfl, rfl, rfl, trivial⟩ (s260_65 k0 h hr)
noncomputable def f260_30  (s : xS) : Option (xS × Int32) := some (s, (-1 : Int32))
set_option maxRecDepth 20000 in
theorem s260_30 {sc : Option (Nat × (Nat → Int32))}  {s : xS} {o : xH × Option Value} {r : (xS × Int32)}  (h : f260_30  s = some r) (hr : dn260 o r) : Ev sc 3 260 [] 30 [none, none, none, none, none, none, none, none, none, none, none, none] [] (hk_of s) o := by
  unfold f260_30 at h
  refine E_blk rfl ?_
  refine E_ps 1 (pc' := 31) (l' := [none, none, none, none, none, none, none, none, none, none, none, none]) (st' := [.int (-1 : Int32)]) rfl ?_
  cases h
  exact E_ret rfl (pg_mt_md (by decide)) rfl hr
noncomputable def f260 (x0 : Nat) (x1 : Int32) (x2 : Int32) (x3 : Int32) (x4 : Int32) (s : xS) : Option (xS × Int32) := ifg (oK x0 12 = true) <| (f198 x0 x1 s).bind fun z1 => if z1.2 = 0 then (f260_30  z1.1) else ((f196 x0 z1.1).bind fun z4 => (f195 x3 (0 : Int32) (z4.2 - (1 : Int32)) z4.1).bind fun z6 => if z6.2 = 0 then (f260_30  z6.1) else ((f217 x4 z6.1).bind fun z9 => if z9.2 = 0 then (f260_30  z9.1) else (if x2 = 0 then (f260_50 x0 x2 x4 x3 ((25 : Int32) * x1) z9.1) else ((f196 x0 z9.1).bind fun z13 => f260_50 x0 x2 x4 (z13.2 * x3) ((25 : Int32) * x1) z13.1))))
set_option maxRecDepth 20000 in
theorem s260 {sc : Option (Nat × (Nat → Int32))} {x0 : Nat} {x1 : Int32} {x2 : Int32} {x3 : Int32} {x4 : Int32} {s : xS} {r : xS × Int32} (h : f260 x0 x1 x2 x3 x4 s = some r) : Cl sc 3 260 [.ref x0, .int x1, .int x2, .int x3, .int x4] (hk_of s) (hk_of r.1, some (.int r.2)) := by
  unfold f260 at h
  obtain ⟨k0, h⟩ := ifg_some h
  refine ⟨pg_md 260, [some (.ref x0), some (.int x1), some (.int x2), some (.int x3), some (.int x4), none, none, none, none, none, none, none], pg_mt_md (by decide), (hk_rcv k0), rfl, ?_⟩
  generalize ho : ((hk_of r.1, some (Value.int r.2)) : xH × Option Value) = o
  have hr : dn260 o r := ho.symm
  refine E_blk rfl ?_
  refine E_ps 2 (pc' := 2) (l' := [some (.ref x0), some (.int x1), some (.int x2), some (.int x3), some (.int x4), none, none, none, none, none, none, none]) (st' := [.int x1, .ref x0]) rfl ?_
  obtain ⟨z1, e2, h⟩ := Option.bind_eq_some_iff.mp h
  refine E_callI (vs := [.ref x0, .int x1]) (rest := []) rfl (by decide) rfl rfl (Nat.le_of_ble_eq_true rfl) (s198 e2) (by decide) ?_
  by_cases c3 : z1.2 = 0
  · rw [if_pos c3] at h
    refine E_jt rfl rfl c3 ?_
    exact E_wk (l' := [none, none, none, none, none, none, none, none, none, none, none, none]) trivial (s260_30  h hr)
  · rw [if_neg c3] at h
    refine E_jf rfl rfl c3 ?_
    refine E_blk rfl ?_
    refine E_ps 3 (pc' := 11) (l' := [some (.ref x0), some (.int x1), some (.int x2), some (.int x3), some (.int x4), none, none, none, none, none, none, none]) (st' := [.ref x0, .int (0 : Int32), .int x3]) rfl ?_
    obtain ⟨z4, e5, h⟩ := Option.bind_eq_some_iff.mp h
    refine E_callI (vs := [.ref x0]) (rest := [.int (0 : Int32), .int x3]) rfl (by decide) rfl rfl (Nat.le_of_ble_eq_true rfl) (s196 e5) (by decide) ?_
    refine E_ps 2 (pc' := 16) (l' := [some (.ref x0), some (.int x1), some (.int x2), some (.int x3), some (.int x4), none, none, none, none, none, none, none]) (st' := [.int (z4.2 - (1 : Int32)), .int (0 : Int32), .int x3]) rfl ?_
    obtain ⟨z6, e7, h⟩ := Option.bind_eq_some_iff.mp h
    refine E_callI (vs := [.int x3, .int (0 : Int32), .int (z4.2 - (1 : Int32))]) (rest := []) rfl (by decide) rfl rfl (Nat.le_of_ble_eq_true rfl) (s195 e7) (by decide) ?_
    by_cases c8 : z6.2 = 0
    · rw [if_pos c8] at h
      refine E_jt rfl rfl c8 ?_
      exact E_wk (l' := [none, none, none, none, none, none, none, none, none, none, none, none]) trivial (s260_30  h hr)
    · rw [if_neg c8] at h
      refine E_jf rfl rfl c8 ?_
      refine E_blk rfl ?_
      refine E_ps 1 (pc' := 24) (l' := [some (.ref x0), some (.int x1), some (.int x2), some (.int x3), some (.int x4), none, none, none, none, none, none, none]) (st' := [.int x4]) rfl ?_
      obtain ⟨z9, e10, h⟩ := Option.bind_eq_some_iff.mp h
      refine E_callI (vs := [.int x4]) (rest := []) rfl (by decide) rfl rfl (Nat.le_of_ble_eq_true rfl) (s217 e10) (by decide) ?_
      by_cases c11 : z9.2 = 0
      · rw [if_pos c11] at h
        refine E_jt rfl rfl c11 ?_
        exact E_wk (l' := [none, none, none, none, none, none, none, none, none, none, none, none]) trivial (s260_30  h hr)
      · rw [if_neg c11] at h
        refine E_jf rfl rfl c11 ?_
        refine E_blk rfl ?_
        refine E_ps 4 (pc' := 37) (l' := [some (.ref x0), some (.int x1), some (.int x2), some (.int x3), some (.int x4), none, none, none, none, none, none, none]) (st' := [.int x2, .int ((25 : Int32) * x1)]) rfl ?_
        by_cases c12 : x2 = 0
        · rw [if_pos c12] at h
          refine E_jt rfl rfl c12 ?_
          refine E_blk rfl ?_
          refine E_ps 1 (pc' := 50) (l' := [some (.ref x0), some (.int x1), some (.int x2), some (.int x3), some (.int x4), none, none, none, none, none, none, none]) (st' := [.int x3, .int ((25 : Int32) * x1)]) rfl ?_
          exact E_wk (l' := [some (.ref x0), none, some (.int x2), none, some (.int x4), none, none, none, none, none, none, none]) ⟨rfl, rfl, rfl, trivial⟩ (s260_50 k0 h hr)
        · rw [if_neg c12] at h
          refine E_jf rfl rfl c12 ?_
          refine E_blk rfl ?_
          refine E_ps 1 (pc' := 41) (l' := [some (.ref x0), some (.int x1), some (.int x2), some (.int x3), some (.int x4), none, none, none, none, none, none, none]) (st' := [.ref x0, .int ((25 : Int32) * x1)]) rfl ?_
          obtain ⟨z13, e14, h⟩ := Option.bind_eq_some_iff.mp h
          refine E_callI (vs := [.ref x0]) (rest := [.int ((25 : Int32) * x1)]) rfl (by decide) rfl rfl (Nat.le_of_ble_eq_true rfl) (s196 e14) (by decide) ?_
          refine E_ps 2 (pc' := 46) (l' := [some (.ref x0), some (.int x1), some (.int x2), some (.int x3), some (.int x4), none, none, none, none, none, none, none]) (st' := [.int (z13.2 * x3), .int ((25 : Int32) * x1)]) rfl ?_
          refine E_j rfl rfl ?_
          exact E_wk (l' := [some (.ref x0), none, some (.int x2), none, some (.int x4), none, none, none, none, none, none, none]) ⟨rfl, rfl, rfl, trivial⟩ (s260_50 k0 h hr)

-- 261: ThreePlatesModel.isSquare(I)Z
def dn261 (o : xH × Option Value) (r : xS × Int32) : Prop := o = (hk_of r.1, some (.int r.2))
noncomputable def f261 (x0 : Int32) (s : xS) : Option (xS × Int32) :=  (f195 x0 (-9999 : Int32) (9999 : Int32) s).bind fun z1 => ifg (z1.2 = 0 ∨ z1.2 = 1) <| some (z1.1, z1.2)
set_option maxRecDepth 20000 in
theorem s261 {sc : Option (Nat × (Nat → Int32))} {x0 : Int32} {s : xS} {r : xS × Int32} (h : f261 x0 s = some r) : Cl sc 2 261 [.int x0] (hk_of s) (hk_of r.1, some (.int r.2)) := by
  unfold f261 at h
  refine ⟨pg_md 261, [some (.int x0)], pg_mt_md (by decide), rfl, rfl, ?_⟩
  generalize ho : ((hk_of r.1, some (Value.int r.2)) : xH × Option Value) = o
  have hr : dn261 o r := ho.symm
  refine E_blk rfl ?_
  refine E_ps 3 (pc' := 7) (l' := [some (.int x0)]) (st' := [.int (9999 : Int32), .int (-9999 : Int32), .int x0]) rfl ?_
  obtain ⟨z1, e2, h⟩ := Option.bind_eq_some_iff.mp h
  refine E_callI (vs := [.int x0, .int (-9999 : Int32), .int (9999 : Int32)]) (rest := []) rfl (by decide) rfl rfl (Nat.le_of_ble_eq_true rfl) (s195 e2) (by decide) ?_
  obtain ⟨g3, h⟩ := ifg_some h
  cases h
  exact E_ret rfl (pg_mt_md (by decide)) (hk_retz g3 rfl) hr

-- 262: ThreePlatesModel.square(IIIII)I
def dn262 (o : xH × Option Value) (r : xS × Int32) : Prop := o = (hk_of r.1, some (.int r.2))
noncomputable def f262_75 (x5 : Int32) (y0 : Int32) (s : xS) : Option (xS × Int32) := (f216 y0.toInt64 (2 : Int64) x5 s).bind fun z1 => some (z1.1, (z1.2).toInt32)
set_option maxRecDepth 20000 in
theorem s262_75 {sc : Option (Nat × (Nat → Int32))} {x5 : Int32} {y0 : Int32} {s : xS} {o : xH × Option Value} {r : (xS × Int32)}  (h : f262_75 x5 y0 s = some r) (hr : dn262 o r) : Ev sc 3 262 [] 75 [none, none, none, none, none, some (.int x5), none] [.int y0] (hk_of s) o := by
  unfold f262_75 at h
  refine E_blk rfl ?_
  refine E_ps 5 (pc' := 85) (l' := [none, none, none, none, none, some (.int x5), some (.int y0)]) (st' := [.int x5, .long (2 : Int64), .long y0.toInt64]) rfl ?_
  obtain ⟨z1, e2, h⟩ := Option.bind_eq_some_iff.mp h
  refine E_callL (vs := [.long y0.toInt64, .long (2 : Int64), .int x5]) (rest := []) rfl (by decide) rfl rfl (Nat.le_of_ble_eq_true rfl) (s216 e2) (by decide) ?_
  refine E_ps 1 (pc' := 89) (l' := [none, none, none, none, none, some (.int x5), some (.int y0)]) (st' := [.int (z1.2).toInt32]) rfl ?_
  cases h
  exact E_ret rfl (pg_mt_md (by decide)) rfl hr
noncomputable def f262_39  (s : xS) : Option (xS × Int32) := some (s, (-100000 : Int32))
set_option maxRecDepth 20000 in
theorem s262_39 {sc : Option (Nat × (Nat → Int32))}  {s : xS} {o : xH × Option Value} {r : (xS × Int32)}  (h : f262_39  s = some r) (hr : dn262 o r) : Ev sc 3 262 [] 39 [none, none, none, none, none, none, none] [] (hk_of s) o := by
  unfold f262_39 at h
  refine E_blk rfl ?_
  refine E_ps 1 (pc' := 42) (l' := [none, none, none, none, none, none, none]) (st' := [.int (-100000 : Int32)]) rfl ?_
  cases h
  exact E_ret rfl (pg_mt_md (by decide)) rfl hr
noncomputable def f262 (x0 : Nat) (x1 : Int32) (x2 : Int32) (x3 : Int32) (x4 : Int32) (x5 : Int32) (s : xS) : Option (xS × Int32) := ifg (oK x0 12 = true) <| (f261 x1 s).bind fun z1 => if z1.2 = 0 then (f262_39  z1.1) else ((f261 x2 z1.1).bind fun z4 => if z4.2 = 0 then (f262_39  z4.1) else ((f261 x3 z4.1).bind fun z7 => if z7.2 = 0 then (f262_39  z7.1) else ((f195 x4 (0 : Int32) (2 : Int32) z7.1).bind fun z10 => if z10.2 = 0 then (f262_39  z10.1) else ((f217 x5 z10.1).bind fun z13 => if z13.2 = 0 then (f262_39  z13.1) else (if x4 = 0 then (f262_75 x5 ((x1 + x3) - x2) z13.1) else (if x4 = (1 : Int32) then (f262_75 x5 ((x1 + x2) - x3) z13.1) else (f262_75 x5 ((x2 + x3) - x1) z13.1)))))))
set_option maxRecDepth 20000 in
theorem s262 {sc : Option (Nat × (Nat → Int32))} {x0 : Nat} {x1 : Int32} {x2 : Int32} {x3 : Int32} {x4 : Int32} {x5 : Int32} {s : xS} {r : xS × Int32} (h : f262 x0 x1 x2 x3 x4 x5 s = some r) : Cl sc 3 262 [.ref x0, .int x1, .int x2, .int x3, .int x4, .int x5] (hk_of s) (hk_of r.1, some (.int r.2)) := by
  unfold f262 at h
  obtain ⟨k0, h⟩ := ifg_some h
  refine ⟨pg_md 262, [some (.ref x0), some (.int x1), some (.int x2), some (.int x3), some (.int x4), some (.int x5), none], pg_mt_md (by decide), (hk_rcv k0), rfl, ?_⟩
  generalize ho : ((hk_of r.1, some (Value.int r.2)) : xH × Option Value) = o
  have hr : dn262 o r := ho.symm
  refine E_blk rfl ?_
  refine E_ps 1 (pc' := 1) (l' := [some (.ref x0), some (.int x1), some (.int x2), some (.int x3), some (.int x4), some (.int x5), none]) (st' := [.int x1]) rfl ?_
  obtain ⟨z1, e2, h⟩ := Option.bind_eq_some_iff.mp h
  refine E_callI (vs := [.int x1]) (rest := []) rfl (by decide) rfl rfl (Nat.le_of_ble_eq_true rfl) (s261 e2) (by decide) ?_
  by_cases c3 : z1.2 = 0
  · rw [if_pos c3] at h
    refine E_jt rfl rfl c3 ?_
    exact E_wk (l' := [none, none, none, none, none, none, none]) trivial (s262_39  h hr)
  · rw [if_neg c3] at h
    refine E_jf rfl rfl c3 ?_
    refine E_blk rfl ?_
    refine E_ps 1 (pc' := 8) (l' := [some (.ref x0), some (.int x1), some (.int x2), some (.int x3), some (.int x4), some (.int x5), none]) (st' := [.int x2]) rfl ?_
    obtain ⟨z4, e5, h⟩ := Option.bind_eq_some_iff.mp h
    refine E_callI (vs := [.int x2]) (rest := []) rfl (by decide) rfl rfl (Nat.le_of_ble_eq_true rfl) (s261 e5) (by decide) ?_
    by_cases c6 : z4.2 = 0
    · rw [if_pos c6] at h
      refine E_jt rfl rfl c6 ?_
      exact E_wk (l' := [none, none, none, none, none, none, none]) trivial (s262_39  h hr)
    · rw [if_neg c6] at h
      refine E_jf rfl rfl c6 ?_
      refine E_blk rfl ?_
      refine E_ps 1 (pc' := 15) (l' := [some (.ref x0), some (.int x1), some (.int x2), some (.int x3), some (.int x4), some (.int x5), none]) (st' := [.int x3]) rfl ?_
      obtain ⟨z7, e8, h⟩ := Option.bind_eq_some_iff.mp h
      refine E_callI (vs := [.int x3]) (rest := []) rfl (by decide) rfl rfl (Nat.le_of_ble_eq_true rfl) (s261 e8) (by decide) ?_
      by_cases c9 : z7.2 = 0
      · rw [if_pos c9] at h
        refine E_jt rfl rfl c9 ?_
        exact E_wk (l' := [none, none, none, none, none, none, none]) trivial (s262_39  h hr)
      · rw [if_neg c9] at h
        refine E_jf rfl rfl c9 ?_
        refine E_blk rfl ?_
        refine E_ps 3 (pc' := 25) (l' := [some (.ref x0), some (.int x1), some (.int x2), some (.int x3), some (.int x4), some (.int x5), none]) (st' := [.int (2 : Int32), .int (0 : Int32), .int x4]) rfl ?_
        obtain ⟨z10, e11, h⟩ := Option.bind_eq_some_iff.mp h
        refine E_callI (vs := [.int x4, .int (0 : Int32), .int (2 : Int32)]) (rest := []) rfl (by decide) rfl rfl (Nat.le_of_ble_eq_true rfl) (s195 e11) (by decide) ?_
        by_cases c12 : z10.2 = 0
        · rw [if_pos c12] at h
          refine E_jt rfl rfl c12 ?_
          exact E_wk (l' := [none, none, none, none, none, none, none]) trivial (s262_39  h hr)
        · rw [if_neg c12] at h
          refine E_jf rfl rfl c12 ?_
          refine E_blk rfl ?_
          refine E_ps 1 (pc' := 33) (l' := [some (.ref x0), some (.int x1), some (.int x2), some (.int x3), some (.int x4), some (.int x5), none]) (st' := [.int x5]) rfl ?_
          obtain ⟨z13, e14, h⟩ := Option.bind_eq_some_iff.mp h
          refine E_callI (vs := [.int x5]) (rest := []) rfl (by decide) rfl rfl (Nat.le_of_ble_eq_true rfl) (s217 e14) (by decide) ?_
          by_cases c15 : z13.2 = 0
          · rw [if_pos c15] at h
            refine E_jt rfl rfl c15 ?_
            exact E_wk (l' := [none, none, none, none, none, none, none]) trivial (s262_39  h hr)
          · rw [if_neg c15] at h
            refine E_jf rfl rfl c15 ?_
            refine E_blk rfl ?_
            refine E_ps 1 (pc' := 45) (l' := [some (.ref x0), some (.int x1), some (.int x2), some (.int x3), some (.int x4), some (.int x5), none]) (st' := [.int x4]) rfl ?_
            by_cases c16 : x4 = 0
            · rw [if_pos c16] at h
              refine E_jt rfl rfl c16 ?_
              refine E_blk rfl ?_
              refine E_ps 5 (pc' := 53) (l' := [some (.ref x0), some (.int x1), some (.int x2), some (.int x3), some (.int x4), some (.int x5), none]) (st' := [.int ((x1 + x3) - x2)]) rfl ?_
              refine E_j rfl rfl ?_
              exact E_wk (l' := [none, none, none, none, none, some (.int x5), none]) ⟨rfl, trivial⟩ (s262_75  h hr)
            · rw [if_neg c16] at h
              refine E_jf rfl rfl c16 ?_
              refine E_blk rfl ?_
              refine E_ps 2 (pc' := 59) (l' := [some (.ref x0), some (.int x1), some (.int x2), some (.int x3), some (.int x4), some (.int x5), none]) (st' := [.int (1 : Int32), .int x4]) rfl ?_
              by_cases c17 : x4 = (1 : Int32)
              · rw [if_pos c17] at h
                refine E_jt rfl rfl c17 ?_
                refine E_blk rfl ?_
                refine E_ps 5 (pc' := 67) (l' := [some (.ref x0), some (.int x1), some (.int x2), some (.int x3), some (.int x4), some (.int x5), none]) (st' := [.int ((x1 + x2) - x3)]) rfl ?_
                refine E_j rfl rfl ?_
                exact E_wk (l' := [none, none, none, none, none, some (.int x5), none]) ⟨rfl, trivial⟩ (s262_75  h hr)
              · rw [if_neg c17] at h
                refine E_jf rfl rfl c17 ?_
                refine E_blk rfl ?_
                refine E_ps 5 (pc' := 75) (l' := [some (.ref x0), some (.int x1), some (.int x2), some (.int x3), some (.int x4), some (.int x5), none]) (st' := [.int ((x2 + x3) - x1)]) rfl ?_
                exact E_wk (l' := [none, none, none, none, none, some (.int x5), none]) ⟨rfl, trivial⟩ (s262_75  h hr)

-- 263: ThreePlatesModel.sight(IIIII)I
def dn263 (o : xH × Option Value) (r : xS × Int32) : Prop := o = (hk_of r.1, some (.int r.2))
noncomputable def f263_62  (s : xS) : Option (xS × Int32) := some (s, (-1 : Int32))
set_option maxRecDepth 20000 in
theorem s263_62 {sc : Option (Nat × (Nat → Int32))}  {s : xS} {o : xH × Option Value} {r : (xS × Int32)}  (h : f263_62  s = some r) (hr : dn263 o r) : Ev sc 3 263 [] 62 [none, none, none, none, none, none] [] (hk_of s) o := by
  unfold f263_62 at h
  refine E_blk rfl ?_
  refine E_ps 1 (pc' := 63) (l' := [none, none, none, none, none, none]) (st' := [.int (-1 : Int32)]) rfl ?_
  cases h
  exact E_ret rfl (pg_mt_md (by decide)) rfl hr
noncomputable def f263 (x0 : Nat) (x1 : Int32) (x2 : Int32) (x3 : Int32) (x4 : Int32) (x5 : Int32) (s : xS) : Option (xS × Int32) := ifg (oK x0 12 = true) <| (f198 x0 x1 s).bind fun z1 => if z1.2 = 0 then (f263_62  z1.1) else ((f195 x2 (0 : Int32) (3 : Int32) z1.1).bind fun z4 => if z4.2 = 0 then (f263_62  z4.1) else ((f195 x3 (-1 : Int32) (1 : Int32) z4.1).bind fun z7 => if z7.2 = 0 then (f263_62  z7.1) else ((f195 x4 (-1 : Int32) (1 : Int32) z7.1).bind fun z10 => if z10.2 = 0 then (f263_62  z10.1) else ((f197 x0 z10.1).bind fun z13 => (f195 x5 (0 : Int32) (((1 : Int32) <<< (z13.2 &&& 31)) - (1 : Int32)) z13.1).bind fun z15 => if z15.2 = 0 then (f263_62  z15.1) else (if (z15.1.1 x0 71) = (20 : Int32) then (f263_62  z15.1) else ((hk_R x0 65).bind fun a19 => (wI z15.1 a19 (z15.1.1 x0 71) x1).bind fun t21 => (hk_R x0 66).bind fun a23 => (wI t21 a23 (t21.1 x0 71) x2).bind fun t25 => (hk_R x0 67).bind fun a27 => (wI t25 a27 (t25.1 x0 71) x3).bind fun t29 => (hk_R x0 68).bind fun a31 => (wI t29 a31 (t29.1 x0 71) x4).bind fun t33 => (hk_R x0 69).bind fun a35 => (wI t33 a35 (t33.1 x0 71) x5).bind fun t37 => (pI t37 x0 71 ((t37.1 x0 71) + (1 : Int32))).bind fun t39 => some (t39, ((t39.1 x0 71) - (1 : Int32)))))))))
set_option maxRecDepth 20000 in
theorem s263 {sc : Option (Nat × (Nat → Int32))} {x0 : Nat} {x1 : Int32} {x2 : Int32} {x3 : Int32} {x4 : Int32} {x5 : Int32} {s : xS} {r : xS × Int32} (h : f263 x0 x1 x2 x3 x4 x5 s = some r) : Cl sc 3 263 [.ref x0, .int x1, .int x2, .int x3, .int x4, .int x5] (hk_of s) (hk_of r.1, some (.int r.2)) := by
  unfold f263 at h
  obtain ⟨k0, h⟩ := ifg_some h
  refine ⟨pg_md 263, [some (.ref x0), some (.int x1), some (.int x2), some (.int x3), some (.int x4), some (.int x5)], pg_mt_md (by decide), (hk_rcv k0), rfl, ?_⟩
  generalize ho : ((hk_of r.1, some (Value.int r.2)) : xH × Option Value) = o
  have hr : dn263 o r := ho.symm
  refine E_blk rfl ?_
  refine E_ps 2 (pc' := 2) (l' := [some (.ref x0), some (.int x1), some (.int x2), some (.int x3), some (.int x4), some (.int x5)]) (st' := [.int x1, .ref x0]) rfl ?_
  obtain ⟨z1, e2, h⟩ := Option.bind_eq_some_iff.mp h
  refine E_callI (vs := [.ref x0, .int x1]) (rest := []) rfl (by decide) rfl rfl (Nat.le_of_ble_eq_true rfl) (s198 e2) (by decide) ?_
  by_cases c3 : z1.2 = 0
  · rw [if_pos c3] at h
    refine E_jt rfl rfl c3 ?_
    exact E_wk (l' := [none, none, none, none, none, none]) trivial (s263_62  h hr)
  · rw [if_neg c3] at h
    refine E_jf rfl rfl c3 ?_
    refine E_blk rfl ?_
    refine E_ps 3 (pc' := 11) (l' := [some (.ref x0), some (.int x1), some (.int x2), some (.int x3), some (.int x4), some (.int x5)]) (st' := [.int (3 : Int32), .int (0 : Int32), .int x2]) rfl ?_
    obtain ⟨z4, e5, h⟩ := Option.bind_eq_some_iff.mp h
    refine E_callI (vs := [.int x2, .int (0 : Int32), .int (3 : Int32)]) (rest := []) rfl (by decide) rfl rfl (Nat.le_of_ble_eq_true rfl) (s195 e5) (by decide) ?_
    by_cases c6 : z4.2 = 0
    · rw [if_pos c6] at h
      refine E_jt rfl rfl c6 ?_
      exact E_wk (l' := [none, none, none, none, none, none]) trivial (s263_62  h hr)
    · rw [if_neg c6] at h
      refine E_jf rfl rfl c6 ?_
      refine E_blk rfl ?_
      refine E_ps 3 (pc' := 20) (l' := [some (.ref x0), some (.int x1), some (.int x2), some (.int x3), some (.int x4), some (.int x5)]) (st' := [.int (1 : Int32), .int (-1 : Int32), .int x3]) rfl ?_
      obtain ⟨z7, e8, h⟩ := Option.bind_eq_some_iff.mp h
      refine E_callI (vs := [.int x3, .int (-1 : Int32), .int (1 : Int32)]) (rest := []) rfl (by decide) rfl rfl (Nat.le_of_ble_eq_true rfl) (s195 e8) (by decide) ?_
      by_cases c9 : z7.2 = 0
      · rw [if_pos c9] at h
        refine E_jt rfl rfl c9 ?_
        exact E_wk (l' := [none, none, none, none, none, none]) trivial (s263_62  h hr)
      · rw [if_neg c9] at h
        refine E_jf rfl rfl c9 ?_
        refine E_blk rfl ?_
        refine E_ps 3 (pc' := 30) (l' := [some (.ref x0), some (.int x1), some (.int x2), some (.int x3), some (.int x4), some (.int x5)]) (st' := [.int (1 : Int32), .int (-1 : Int32), .int x4]) rfl ?_
        obtain ⟨z10, e11, h⟩ := Option.bind_eq_some_iff.mp h
        refine E_callI (vs := [.int x4, .int (-1 : Int32), .int (1 : Int32)]) (rest := []) rfl (by decide) rfl rfl (Nat.le_of_ble_eq_true rfl) (s195 e11) (by decide) ?_
        by_cases c12 : z10.2 = 0
        · rw [if_pos c12] at h
          refine E_jt rfl rfl c12 ?_
          exact E_wk (l' := [none, none, none, none, none, none]) trivial (s263_62  h hr)
        · rw [if_neg c12] at h
          refine E_jf rfl rfl c12 ?_
          refine E_blk rfl ?_
          refine E_ps 4 (pc' := 41) (l' := [some (.ref x0), some (.int x1), some (.int x2), some (.int x3), some (.int x4), some (.int x5)]) (st' := [.ref x0, .int (1 : Int32), .int (0 : Int32), .int x5]) rfl ?_
          obtain ⟨z13, e14, h⟩ := Option.bind_eq_some_iff.mp h
          refine E_callI (vs := [.ref x0]) (rest := [.int (1 : Int32), .int (0 : Int32), .int x5]) rfl (by decide) rfl rfl (Nat.le_of_ble_eq_true rfl) (s197 e14) (by decide) ?_
          refine E_ps 3 (pc' := 47) (l' := [some (.ref x0), some (.int x1), some (.int x2), some (.int x3), some (.int x4), some (.int x5)]) (st' := [.int (((1 : Int32) <<< (z13.2 &&& 31)) - (1 : Int32)), .int (0 : Int32), .int x5]) rfl ?_
          obtain ⟨z15, e16, h⟩ := Option.bind_eq_some_iff.mp h
          refine E_callI (vs := [.int x5, .int (0 : Int32), .int (((1 : Int32) <<< (z13.2 &&& 31)) - (1 : Int32))]) (rest := []) rfl (by decide) rfl rfl (Nat.le_of_ble_eq_true rfl) (s195 e16) (by decide) ?_
          by_cases c17 : z15.2 = 0
          · rw [if_pos c17] at h
            refine E_jt rfl rfl c17 ?_
            exact E_wk (l' := [none, none, none, none, none, none]) trivial (s263_62  h hr)
          · rw [if_neg c17] at h
            refine E_jf rfl rfl c17 ?_
            refine E_blk rfl ?_
            refine E_ps 1 (pc' := 54) (l' := [some (.ref x0), some (.int x1), some (.int x2), some (.int x3), some (.int x4), some (.int x5)]) (st' := [.ref x0]) rfl ?_
            refine E_gi k0 (by decide) rfl ?_
            refine E_ps 1 (pc' := 59) (l' := [some (.ref x0), some (.int x1), some (.int x2), some (.int x3), some (.int x4), some (.int x5)]) (st' := [.int (20 : Int32), .int (z15.1.1 x0 71)]) rfl ?_
            by_cases c18 : (z15.1.1 x0 71) = (20 : Int32)
            · rw [if_pos c18] at h
              refine E_jt rfl rfl c18 ?_
              exact E_wk (l' := [none, none, none, none, none, none]) trivial (s263_62  h hr)
            · rw [if_neg c18] at h
              refine E_jf rfl rfl c18 ?_
              refine E_blk rfl ?_
              refine E_ps 1 (pc' := 65) (l' := [some (.ref x0), some (.int x1), some (.int x2), some (.int x3), some (.int x4), some (.int x5)]) (st' := [.ref x0]) rfl ?_
              obtain ⟨a19, e20, h⟩ := Option.bind_eq_some_iff.mp h
              refine E_gr k0 (by decide) rfl e20 ?_
              refine E_ps 1 (pc' := 69) (l' := [some (.ref x0), some (.int x1), some (.int x2), some (.int x3), some (.int x4), some (.int x5)]) (st' := [.ref x0, .ref a19]) rfl ?_
              refine E_gi k0 (by decide) rfl ?_
              refine E_ps 1 (pc' := 73) (l' := [some (.ref x0), some (.int x1), some (.int x2), some (.int x3), some (.int x4), some (.int x5)]) (st' := [.int x1, .int (z15.1.1 x0 71), .ref a19]) rfl ?_
              obtain ⟨t21, e22, h⟩ := Option.bind_eq_some_iff.mp h
              refine E_wi e22 ?_
              refine E_ps 1 (pc' := 75) (l' := [some (.ref x0), some (.int x1), some (.int x2), some (.int x3), some (.int x4), some (.int x5)]) (st' := [.ref x0]) rfl ?_
              obtain ⟨a23, e24, h⟩ := Option.bind_eq_some_iff.mp h
              refine E_gr k0 (by decide) rfl e24 ?_
              refine E_ps 1 (pc' := 79) (l' := [some (.ref x0), some (.int x1), some (.int x2), some (.int x3), some (.int x4), some (.int x5)]) (st' := [.ref x0, .ref a23]) rfl ?_
              refine E_gi k0 (by decide) rfl ?_
              refine E_ps 1 (pc' := 83) (l' := [some (.ref x0), some (.int x1), some (.int x2), some (.int x3), some (.int x4), some (.int x5)]) (st' := [.int x2, .int (t21.1 x0 71), .ref a23]) rfl ?_
              obtain ⟨t25, e26, h⟩ := Option.bind_eq_some_iff.mp h
              refine E_wi e26 ?_
              refine E_ps 1 (pc' := 85) (l' := [some (.ref x0), some (.int x1), some (.int x2), some (.int x3), some (.int x4), some (.int x5)]) (st' := [.ref x0]) rfl ?_
              obtain ⟨a27, e28, h⟩ := Option.bind_eq_some_iff.mp h
              refine E_gr k0 (by decide) rfl e28 ?_
              refine E_ps 1 (pc' := 89) (l' := [some (.ref x0), some (.int x1), some (.int x2), some (.int x3), some (.int x4), some (.int x5)]) (st' := [.ref x0, .ref a27]) rfl ?_
              refine E_gi k0 (by decide) rfl ?_
              refine E_ps 1 (pc' := 93) (l' := [some (.ref x0), some (.int x1), some (.int x2), some (.int x3), some (.int x4), some (.int x5)]) (st' := [.int x3, .int (t25.1 x0 71), .ref a27]) rfl ?_
              obtain ⟨t29, e30, h⟩ := Option.bind_eq_some_iff.mp h
              refine E_wi e30 ?_
              refine E_ps 1 (pc' := 95) (l' := [some (.ref x0), some (.int x1), some (.int x2), some (.int x3), some (.int x4), some (.int x5)]) (st' := [.ref x0]) rfl ?_
              obtain ⟨a31, e32, h⟩ := Option.bind_eq_some_iff.mp h
              refine E_gr k0 (by decide) rfl e32 ?_
              refine E_ps 1 (pc' := 99) (l' := [some (.ref x0), some (.int x1), some (.int x2), some (.int x3), some (.int x4), some (.int x5)]) (st' := [.ref x0, .ref a31]) rfl ?_
              refine E_gi k0 (by decide) rfl ?_
              refine E_ps 1 (pc' := 104) (l' := [some (.ref x0), some (.int x1), some (.int x2), some (.int x3), some (.int x4), some (.int x5)]) (st' := [.int x4, .int (t29.1 x0 71), .ref a31]) rfl ?_
              obtain ⟨t33, e34, h⟩ := Option.bind_eq_some_iff.mp h
              refine E_wi e34 ?_
              refine E_ps 1 (pc' := 106) (l' := [some (.ref x0), some (.int x1), some (.int x2), some (.int x3), some (.int x4), some (.int x5)]) (st' := [.ref x0]) rfl ?_
              obtain ⟨a35, e36, h⟩ := Option.bind_eq_some_iff.mp h
              refine E_gr k0 (by decide) rfl e36 ?_
              refine E_ps 1 (pc' := 110) (l' := [some (.ref x0), some (.int x1), some (.int x2), some (.int x3), some (.int x4), some (.int x5)]) (st' := [.ref x0, .ref a35]) rfl ?_
              refine E_gi k0 (by decide) rfl ?_
              refine E_ps 1 (pc' := 115) (l' := [some (.ref x0), some (.int x1), some (.int x2), some (.int x3), some (.int x4), some (.int x5)]) (st' := [.int x5, .int (t33.1 x0 71), .ref a35]) rfl ?_
              obtain ⟨t37, e38, h⟩ := Option.bind_eq_some_iff.mp h
              refine E_wi e38 ?_
              refine E_ps 2 (pc' := 118) (l' := [some (.ref x0), some (.int x1), some (.int x2), some (.int x3), some (.int x4), some (.int x5)]) (st' := [.ref x0, .ref x0]) rfl ?_
              refine E_gi k0 (by decide) rfl ?_
              refine E_ps 2 (pc' := 123) (l' := [some (.ref x0), some (.int x1), some (.int x2), some (.int x3), some (.int x4), some (.int x5)]) (st' := [.int ((t37.1 x0 71) + (1 : Int32)), .ref x0]) rfl ?_
              obtain ⟨t39, e40, h⟩ := Option.bind_eq_some_iff.mp h
              refine E_pi k0 (by decide) rfl e40 ?_
              refine E_ps 1 (pc' := 127) (l' := [some (.ref x0), some (.int x1), some (.int x2), some (.int x3), some (.int x4), some (.int x5)]) (st' := [.ref x0]) rfl ?_
              refine E_gi k0 (by decide) rfl ?_
              refine E_ps 2 (pc' := 132) (l' := [some (.ref x0), some (.int x1), some (.int x2), some (.int x3), some (.int x4), some (.int x5)]) (st' := [.int ((t39.1 x0 71) - (1 : Int32))]) rfl ?_
              cases h
              exact E_ret rfl (pg_mt_md (by decide)) rfl hr

-- 264: ThreePlatesModel.layWorld(I)V
def dn264 (o : xH × Option Value) (r : xS × Unit) : Prop := o = (hk_of r.1, none)
def dn264_28 (sc : Option (Nat × (Nat → Int32))) (x0 : Nat) (x2 : Int32) (x3 : Int32) (x4 : Int32) (o : xH × Option Value) (r : ((Int32 × xS) ⊕ (xS × Unit))) : Prop := match r with
  | .inl q => Ev sc 3 264 [] 28 [some (.ref x0), none, some (.int x2), some (.int x3), some (.int x4), some (.int q.1), none, none] [] (hk_of q.2) o
  | .inr r => dn264 o r
noncomputable def f264_28 (x0 : Nat) (x2 : Int32) (x3 : Int32) (x4 : Int32) (x5 : Int32) (s : xS) : Option ((Int32 × xS) ⊕ (xS × Unit)) := (f197 x0 s).bind fun z1 => if z1.2 ≤ x5 then (Option.map Sum.inr (some (z1.1, ()))) else ((f196 x0 z1.1).bind fun z4 => ifg (¬ z4.2 = 0) <| (f196 x0 z4.1).bind fun z7 => (f196 x0 z7.1).bind fun z9 => ifg (¬ z9.2 = 0) <| (f196 x0 z9.1).bind fun z12 => (hk_R x0 20).bind fun a14 => (wI z12.1 a14 ((100 : Int32) + x5) ((((x2 * ((((2 : Int32) * (irm x5 z4.2)) - z7.2) + (1 : Int32))) * ((((2 : Int32) * (irm x5 z4.2)) - z7.2) + (1 : Int32))) + ((x3 * ((((2 : Int32) * (irm x5 z4.2)) - z7.2) + (1 : Int32))) * ((((2 : Int32) * (x5 / z9.2)) - z12.2) + (1 : Int32)))) + ((x4 * ((((2 : Int32) * (x5 / z9.2)) - z12.2) + (1 : Int32))) * ((((2 : Int32) * (x5 / z9.2)) - z12.2) + (1 : Int32))))).bind fun t16 => some (Sum.inl ((x5 + (1 : Int32)), t16)))
set_option maxRecDepth 20000 in
theorem s264_28 {sc : Option (Nat × (Nat → Int32))} {x0 : Nat} {x2 : Int32} {x3 : Int32} {x4 : Int32} {x5 : Int32} {s : xS} {o : xH × Option Value} {r : ((Int32 × xS) ⊕ (xS × Unit))} (k0 : oK x0 12 = true) (h : f264_28 x0 x2 x3 x4 x5 s = some r) (hr : dn264_28 sc x0 x2 x3 x4 o r) : Ev sc 3 264 [] 28 [some (.ref x0), none, some (.int x2), some (.int x3), some (.int x4), some (.int x5), none, none] [] (hk_of s) o := by
  unfold f264_28 at h
  refine E_blk rfl ?_
  refine E_ps 2 (pc' := 31) (l' := [some (.ref x0), none, some (.int x2), some (.int x3), some (.int x4), some (.int x5), none, none]) (st' := [.ref x0, .int x5]) rfl ?_
  obtain ⟨z1, e2, h⟩ := Option.bind_eq_some_iff.mp h
  refine E_callI (vs := [.ref x0]) (rest := [.int x5]) rfl (by decide) rfl rfl (Nat.le_of_ble_eq_true rfl) (s197 e2) (by decide) ?_
  by_cases c3 : z1.2 ≤ x5
  · rw [if_pos c3] at h
    refine E_jt rfl rfl c3 ?_
    obtain ⟨r, h, hr⟩ := lf_some (Dn := dn264_28 sc x0 x2 x3 x4 o) h hr
    refine E_blk rfl ?_
    cases h
    exact E_ret rfl (pg_mt_md (by decide)) rfl hr
  · rw [if_neg c3] at h
    refine E_jf rfl rfl c3 ?_
    refine E_blk rfl ?_
    refine E_ps 3 (pc' := 41) (l' := [some (.ref x0), none, some (.int x2), some (.int x3), some (.int x4), some (.int x5), none, none]) (st' := [.ref x0, .int x5, .int (2 : Int32)]) rfl ?_
    obtain ⟨z4, e5, h⟩ := Option.bind_eq_some_iff.mp h
    refine E_callI (vs := [.ref x0]) (rest := [.int x5, .int (2 : Int32)]) rfl (by decide) rfl rfl (Nat.le_of_ble_eq_true rfl) (s196 e5) (by decide) ?_
    obtain ⟨g6, h⟩ := ifg_some h
    refine E_irem g6 ?_
    refine E_ps 2 (pc' := 47) (l' := [some (.ref x0), none, some (.int x2), some (.int x3), some (.int x4), some (.int x5), none, none]) (st' := [.ref x0, .int ((2 : Int32) * (irm x5 z4.2))]) rfl ?_
    obtain ⟨z7, e8, h⟩ := Option.bind_eq_some_iff.mp h
    refine E_callI (vs := [.ref x0]) (rest := [.int ((2 : Int32) * (irm x5 z4.2))]) rfl (by decide) rfl rfl (Nat.le_of_ble_eq_true rfl) (s196 e8) (by decide) ?_
    refine E_ps 7 (pc' := 59) (l' := [some (.ref x0), none, some (.int x2), some (.int x3), some (.int x4), some (.int x5), some (.int ((((2 : Int32) * (irm x5 z4.2)) - z7.2) + (1 : Int32))), none]) (st' := [.ref x0, .int x5, .int (2 : Int32)]) rfl ?_
    obtain ⟨z9, e10, h⟩ := Option.bind_eq_some_iff.mp h
    refine E_callI (vs := [.ref x0]) (rest := [.int x5, .int (2 : Int32)]) rfl (by decide) rfl rfl (Nat.le_of_ble_eq_true rfl) (s196 e10) (by decide) ?_
    obtain ⟨g11, h⟩ := ifg_some h
    refine E_idiv g11 ?_
    refine E_ps 2 (pc' := 65) (l' := [some (.ref x0), none, some (.int x2), some (.int x3), some (.int x4), some (.int x5), some (.int ((((2 : Int32) * (irm x5 z4.2)) - z7.2) + (1 : Int32))), none]) (st' := [.ref x0, .int ((2 : Int32) * (x5 / z9.2))]) rfl ?_
    obtain ⟨z12, e13, h⟩ := Option.bind_eq_some_iff.mp h
    refine E_callI (vs := [.ref x0]) (rest := [.int ((2 : Int32) * (x5 / z9.2))]) rfl (by decide) rfl rfl (Nat.le_of_ble_eq_true rfl) (s196 e13) (by decide) ?_
    refine E_ps 5 (pc' := 74) (l' := [some (.ref x0), none, some (.int x2), some (.int x3), some (.int x4), some (.int x5), some (.int ((((2 : Int32) * (irm x5 z4.2)) - z7.2) + (1 : Int32))), some (.int ((((2 : Int32) * (x5 / z9.2)) - z12.2) + (1 : Int32)))]) (st' := [.ref x0]) rfl ?_
    obtain ⟨a14, e15, h⟩ := Option.bind_eq_some_iff.mp h
    refine E_gr k0 (by decide) rfl e15 ?_
    refine E_ps 20 (pc' := 106) (l' := [some (.ref x0), none, some (.int x2), some (.int x3), some (.int x4), some (.int x5), some (.int ((((2 : Int32) * (irm x5 z4.2)) - z7.2) + (1 : Int32))), some (.int ((((2 : Int32) * (x5 / z9.2)) - z12.2) + (1 : Int32)))]) (st' := [.int ((((x2 * ((((2 : Int32) * (irm x5 z4.2)) - z7.2) + (1 : Int32))) * ((((2 : Int32) * (irm x5 z4.2)) - z7.2) + (1 : Int32))) + ((x3 * ((((2 : Int32) * (irm x5 z4.2)) - z7.2) + (1 : Int32))) * ((((2 : Int32) * (x5 / z9.2)) - z12.2) + (1 : Int32)))) + ((x4 * ((((2 : Int32) * (x5 / z9.2)) - z12.2) + (1 : Int32))) * ((((2 : Int32) * (x5 / z9.2)) - z12.2) + (1 : Int32)))), .int ((100 : Int32) + x5), .ref a14]) rfl ?_
    obtain ⟨t16, e17, h⟩ := Option.bind_eq_some_iff.mp h
    refine E_wi e17 ?_
    refine E_ps 1 (pc' := 110) (l' := [some (.ref x0), none, some (.int x2), some (.int x3), some (.int x4), some (.int (x5 + (1 : Int32))), some (.int ((((2 : Int32) * (irm x5 z4.2)) - z7.2) + (1 : Int32))), some (.int ((((2 : Int32) * (x5 / z9.2)) - z12.2) + (1 : Int32)))]) (st' := []) rfl ?_
    refine E_j rfl rfl ?_
    cases h
    exact E_wk (l' := [some (.ref x0), none, some (.int x2), some (.int x3), some (.int x4), some (.int (x5 + (1 : Int32))), none, none]) ⟨rfl, rfl, rfl, rfl, rfl, trivial⟩ hr
theorem s264_28_w {sc : Option (Nat × (Nat → Int32))} {x0 : Nat} {x2 : Int32} {x3 : Int32} {x4 : Int32} {x5 : Int32} {s : xS} {o : xH × Option Value} {r : (xS × Unit)} (k0 : oK x0 12 = true) (h : whl (fun q : (Int32 × xS) => f264_28 x0 x2 x3 x4 q.1 q.2) (x5, s) = some r) (hr : dn264 o r) : Ev sc 3 264 [] 28 [some (.ref x0), none, some (.int x2), some (.int x3), some (.int x4), some (.int x5), none, none] [] (hk_of s) o := by
  refine whl_snd (E := fun q : (Int32 × xS) => Ev sc 3 264 [] 28 [some (.ref x0), none, some (.int x2), some (.int x3), some (.int x4), some (.int q.1), none, none] [] (hk_of q.2) o) (P := fun r => dn264 o r) (fun q r h hr => ?_) h hr
  exact s264_28 k0 h (by cases r <;> exact hr)
noncomputable def f264 (x0 : Nat) (x1 : Int32) (s : xS) : Option (xS × Unit) := ifg (oK x0 12 = true) <| whl (fun q : (Int32 × xS) => f264_28 x0 ((x1 / (49 : Int32)) - (3 : Int32)) ((irm (x1 / (7 : Int32)) (7 : Int32)) - (3 : Int32)) ((irm x1 (7 : Int32)) - (3 : Int32)) q.1 q.2) ((0 : Int32), s)
set_option maxRecDepth 20000 in
theorem s264 {sc : Option (Nat × (Nat → Int32))} {x0 : Nat} {x1 : Int32} {s : xS} {r : xS × Unit} (h : f264 x0 x1 s = some r) : Cl sc 3 264 [.ref x0, .int x1] (hk_of s) (hk_of r.1, none) := by
  unfold f264 at h
  obtain ⟨k0, h⟩ := ifg_some h
  refine ⟨pg_md 264, [some (.ref x0), some (.int x1), none, none, none, none, none, none], pg_mt_md (by decide), (hk_rcv k0), rfl, ?_⟩
  generalize ho : ((hk_of r.1, none) : xH × Option Value) = o
  have hr : dn264 o r := ho.symm
  refine E_blk rfl ?_
  refine E_ps 2 (pc' := 3) (l' := [some (.ref x0), some (.int x1), none, none, none, none, none, none]) (st' := [.int (49 : Int32), .int x1]) rfl ?_
  refine E_idiv (by decide) ?_
  refine E_ps 5 (pc' := 10) (l' := [some (.ref x0), some (.int x1), some (.int ((x1 / (49 : Int32)) - (3 : Int32))), none, none, none, none, none]) (st' := [.int (7 : Int32), .int x1]) rfl ?_
  refine E_idiv (by decide) ?_
  refine E_ps 1 (pc' := 13) (l' := [some (.ref x0), some (.int x1), some (.int ((x1 / (49 : Int32)) - (3 : Int32))), none, none, none, none, none]) (st' := [.int (7 : Int32), .int (x1 / (7 : Int32))]) rfl ?_
  refine E_irem (by decide) ?_
  refine E_ps 5 (pc' := 20) (l' := [some (.ref x0), some (.int x1), some (.int ((x1 / (49 : Int32)) - (3 : Int32))), some (.int ((irm (x1 / (7 : Int32)) (7 : Int32)) - (3 : Int32))), none, none, none, none]) (st' := [.int (7 : Int32), .int x1]) rfl ?_
  refine E_irem (by decide) ?_
  refine E_ps 5 (pc' := 28) (l' := [some (.ref x0), some (.int x1), some (.int ((x1 / (49 : Int32)) - (3 : Int32))), some (.int ((irm (x1 / (7 : Int32)) (7 : Int32)) - (3 : Int32))), some (.int ((irm x1 (7 : Int32)) - (3 : Int32))), some (.int (0 : Int32)), none, none]) (st' := []) rfl ?_
  exact E_wk (l' := [some (.ref x0), none, some (.int ((x1 / (49 : Int32)) - (3 : Int32))), some (.int ((irm (x1 / (7 : Int32)) (7 : Int32)) - (3 : Int32))), some (.int ((irm x1 (7 : Int32)) - (3 : Int32))), some (.int (0 : Int32)), none, none]) ⟨rfl, rfl, rfl, rfl, rfl, trivial⟩ (s264_28_w k0 h hr)

-- 265: ThreePlatesModel.redsOn(IIII)I
def dn265 (o : xH × Option Value) (r : xS × Int32) : Prop := o = (hk_of r.1, some (.int r.2))
def dn265_16 (sc : Option (Nat × (Nat → Int32))) (x0 : Nat) (o : xH × Option Value) (r : ((Int32 × Int32 × xS) ⊕ (xS × Int32))) : Prop := match r with
  | .inl q => Ev sc 6 265 [] 16 [some (.ref x0), none, none, none, none, some (.int q.1), some (.int q.2.1)] [] (hk_of q.2.2) o
  | .inr r => dn265 o r
noncomputable def f265_44 (x0 : Nat) (x6 : Int32) (y0 : Int32) (y1 : Int32) (s : xS) : Option ((Int32 × Int32 × xS) ⊕ (xS × Int32)) := some (Sum.inl ((y1 ||| y0), (x6 + (1 : Int32)), s))
set_option maxRecDepth 20000 in
theorem s265_44 {sc : Option (Nat × (Nat → Int32))} {x0 : Nat} {x6 : Int32} {y0 : Int32} {y1 : Int32} {s : xS} {o : xH × Option Value} {r : ((Int32 × Int32 × xS) ⊕ (xS × Int32))} (k0 : oK x0 12 = true) (h : f265_44 x0 x6 y0 y1 s = some r) (hr : dn265_16 sc x0 o r) : Ev sc 6 265 [] 44 [some (.ref x0), none, none, none, none, none, some (.int x6)] [.int y0, .int y1] (hk_of s) o := by
  unfold f265_44 at h
  refine E_blk rfl ?_
  refine E_ps 3 (pc' := 50) (l' := [some (.ref x0), none, none, none, none, some (.int (y1 ||| y0)), some (.int (x6 + (1 : Int32)))]) (st' := []) rfl ?_
  refine E_j rfl rfl ?_
  cases h
  exact E_wk (l' := [some (.ref x0), none, none, none, none, some (.int (y1 ||| y0)), some (.int (x6 + (1 : Int32)))]) ⟨rfl, rfl, rfl, trivial⟩ hr
noncomputable def f265_16 (x0 : Nat) (x5 : Int32) (x6 : Int32) (s : xS) : Option ((Int32 × Int32 × xS) ⊕ (xS × Int32)) := (f197 x0 s).bind fun z1 => if z1.2 ≤ x6 then (Option.map Sum.inr (some (z1.1, x5))) else ((f214 x0 x6 z1.1).bind fun z4 => if z4.2 = 0 then (f265_44 x0 x6 (0 : Int32) x5 z4.1) else (f265_44 x0 x6 ((1 : Int32) <<< (x6 &&& 31)) x5 z4.1))
set_option maxRecDepth 20000 in
theorem s265_16 {sc : Option (Nat × (Nat → Int32))} {x0 : Nat} {x5 : Int32} {x6 : Int32} {s : xS} {o : xH × Option Value} {r : ((Int32 × Int32 × xS) ⊕ (xS × Int32))} (k0 : oK x0 12 = true) (h : f265_16 x0 x5 x6 s = some r) (hr : dn265_16 sc x0 o r) : Ev sc 6 265 [] 16 [some (.ref x0), none, none, none, none, some (.int x5), some (.int x6)] [] (hk_of s) o := by
  unfold f265_16 at h
  refine E_blk rfl ?_
  refine E_ps 2 (pc' := 19) (l' := [some (.ref x0), none, none, none, none, some (.int x5), some (.int x6)]) (st' := [.ref x0, .int x6]) rfl ?_
  obtain ⟨z1, e2, h⟩ := Option.bind_eq_some_iff.mp h
  refine E_callI (vs := [.ref x0]) (rest := [.int x6]) rfl (by decide) rfl rfl (Nat.le_of_ble_eq_true rfl) (s197 e2) (by decide) ?_
  by_cases c3 : z1.2 ≤ x6
  · rw [if_pos c3] at h
    refine E_jt rfl rfl c3 ?_
    obtain ⟨r, h, hr⟩ := lf_some (Dn := dn265_16 sc x0 o) h hr
    refine E_blk rfl ?_
    refine E_ps 1 (pc' := 55) (l' := [some (.ref x0), none, none, none, none, some (.int x5), some (.int x6)]) (st' := [.int x5]) rfl ?_
    cases h
    exact E_ret rfl (pg_mt_md (by decide)) rfl hr
  · rw [if_neg c3] at h
    refine E_jf rfl rfl c3 ?_
    refine E_blk rfl ?_
    refine E_ps 3 (pc' := 30) (l' := [some (.ref x0), none, none, none, none, some (.int x5), some (.int x6)]) (st' := [.int x6, .ref x0, .int x5]) rfl ?_
    obtain ⟨z4, e5, h⟩ := Option.bind_eq_some_iff.mp h
    refine E_callI (vs := [.ref x0, .int x6]) (rest := [.int x5]) rfl (by decide) rfl rfl (Nat.le_of_ble_eq_true rfl) (s214 e5) (by decide) ?_
    by_cases c6 : z4.2 = 0
    · rw [if_pos c6] at h
      refine E_jt rfl rfl c6 ?_
      refine E_blk rfl ?_
      refine E_ps 1 (pc' := 44) (l' := [some (.ref x0), none, none, none, none, some (.int x5), some (.int x6)]) (st' := [.int (0 : Int32), .int x5]) rfl ?_
      exact E_wk (l' := [some (.ref x0), none, none, none, none, none, some (.int x6)]) ⟨rfl, rfl, trivial⟩ (s265_44 k0 h hr)
    · rw [if_neg c6] at h
      refine E_jf rfl rfl c6 ?_
      refine E_blk rfl ?_
      refine E_ps 3 (pc' := 40) (l' := [some (.ref x0), none, none, none, none, some (.int x5), some (.int x6)]) (st' := [.int ((1 : Int32) <<< (x6 &&& 31)), .int x5]) rfl ?_
      refine E_j rfl rfl ?_
      exact E_wk (l' := [some (.ref x0), none, none, none, none, none, some (.int x6)]) ⟨rfl, rfl, trivial⟩ (s265_44 k0 h hr)
theorem s265_16_w {sc : Option (Nat × (Nat → Int32))} {x0 : Nat} {x5 : Int32} {x6 : Int32} {s : xS} {o : xH × Option Value} {r : (xS × Int32)} (k0 : oK x0 12 = true) (h : whl (fun q : (Int32 × Int32 × xS) => f265_16 x0 q.1 q.2.1 q.2.2) (x5, x6, s) = some r) (hr : dn265 o r) : Ev sc 6 265 [] 16 [some (.ref x0), none, none, none, none, some (.int x5), some (.int x6)] [] (hk_of s) o := by
  refine whl_snd (E := fun q : (Int32 × Int32 × xS) => Ev sc 6 265 [] 16 [some (.ref x0), none, none, none, none, some (.int q.1), some (.int q.2.1)] [] (hk_of q.2.2) o) (P := fun r => dn265 o r) (fun q r h hr => ?_) h hr
  exact s265_16 k0 h (by cases r <;> exact hr)
noncomputable def f265 (x0 : Nat) (x1 : Int32) (x2 : Int32) (x3 : Int32) (x4 : Int32) (s : xS) : Option (xS × Int32) := ifg (oK x0 12 = true) <| (f219 x0 x1 (4 : Int32) x2 x3 x4 s).bind fun z1 => whl (fun q : (Int32 × Int32 × xS) => f265_16 x0 q.1 q.2.1 q.2.2) ((0 : Int32), (0 : Int32), z1.1)
set_option maxRecDepth 20000 in
theorem s265 {sc : Option (Nat × (Nat → Int32))} {x0 : Nat} {x1 : Int32} {x2 : Int32} {x3 : Int32} {x4 : Int32} {s : xS} {r : xS × Int32} (h : f265 x0 x1 x2 x3 x4 s = some r) : Cl sc 6 265 [.ref x0, .int x1, .int x2, .int x3, .int x4] (hk_of s) (hk_of r.1, some (.int r.2)) := by
  unfold f265 at h
  obtain ⟨k0, h⟩ := ifg_some h
  refine ⟨pg_md 265, [some (.ref x0), some (.int x1), some (.int x2), some (.int x3), some (.int x4), none, none], pg_mt_md (by decide), (hk_rcv k0), rfl, ?_⟩
  generalize ho : ((hk_of r.1, some (Value.int r.2)) : xH × Option Value) = o
  have hr : dn265 o r := ho.symm
  refine E_blk rfl ?_
  refine E_ps 6 (pc' := 7) (l' := [some (.ref x0), some (.int x1), some (.int x2), some (.int x3), some (.int x4), none, none]) (st' := [.int x4, .int x3, .int x2, .int (4 : Int32), .int x1, .ref x0]) rfl ?_
  obtain ⟨z1, e2, h⟩ := Option.bind_eq_some_iff.mp h
  refine E_callV (vs := [.ref x0, .int x1, .int (4 : Int32), .int x2, .int x3, .int x4]) (rest := []) rfl (by decide) rfl rfl (Nat.le_of_ble_eq_true rfl) (s219 e2) (by decide) ?_
  refine E_ps 4 (pc' := 16) (l' := [some (.ref x0), some (.int x1), some (.int x2), some (.int x3), some (.int x4), some (.int (0 : Int32)), some (.int (0 : Int32))]) (st' := []) rfl ?_
  exact E_wk (l' := [some (.ref x0), none, none, none, none, some (.int (0 : Int32)), some (.int (0 : Int32))]) ⟨rfl, rfl, rfl, trivial⟩ (s265_16_w k0 h hr)

-- 266: ThreePlatesModel.fitsAll(I)Z
def dn266 (o : xH × Option Value) (r : xS × Int32) : Prop := o = (hk_of r.1, some (.int r.2))
def dn266_7 (sc : Option (Nat × (Nat → Int32))) (x0 : Nat) (o : xH × Option Value) (r : ((Int32 × xS) ⊕ (xS × Int32))) : Prop := match r with
  | .inl q => Ev sc 7 266 [] 7 [some (.ref x0), none, some (.int q.1)] [] (hk_of q.2) o
  | .inr r => dn266 o r
noncomputable def f266_7 (x0 : Nat) (x2 : Int32) (s : xS) : Option ((Int32 × xS) ⊕ (xS × Int32)) := if (s.1 x0 71) ≤ x2 then (Option.map Sum.inr (some (s, (1 : Int32)))) else ((hk_R x0 65).bind fun a2 => (aI s a2 x2).bind fun v4 => (hk_R x0 66).bind fun a6 => (aI s a6 x2).bind fun v8 => (hk_R x0 67).bind fun a10 => (aI s a10 x2).bind fun v12 => (hk_R x0 68).bind fun a14 => (aI s a14 x2).bind fun v16 => (f265 x0 v4 v8 v12 v16 s).bind fun z18 => (hk_R x0 69).bind fun a20 => (aI z18.1 a20 x2).bind fun v22 => if z18.2 = v22 then (some (Sum.inl ((x2 + (1 : Int32)), z18.1))) else (Option.map Sum.inr (some (z18.1, (0 : Int32)))))
set_option maxRecDepth 20000 in
theorem s266_7 {sc : Option (Nat × (Nat → Int32))} {x0 : Nat} {x2 : Int32} {s : xS} {o : xH × Option Value} {r : ((Int32 × xS) ⊕ (xS × Int32))} (k0 : oK x0 12 = true) (h : f266_7 x0 x2 s = some r) (hr : dn266_7 sc x0 o r) : Ev sc 7 266 [] 7 [some (.ref x0), none, some (.int x2)] [] (hk_of s) o := by
  unfold f266_7 at h
  refine E_blk rfl ?_
  refine E_ps 2 (pc' := 9) (l' := [some (.ref x0), none, some (.int x2)]) (st' := [.ref x0, .int x2]) rfl ?_
  refine E_gi k0 (by decide) rfl ?_
  by_cases c1 : (s.1 x0 71) ≤ x2
  · rw [if_pos c1] at h
    refine E_jt rfl rfl c1 ?_
    obtain ⟨r, h, hr⟩ := lf_some (Dn := dn266_7 sc x0 o) h hr
    refine E_blk rfl ?_
    refine E_ps 1 (pc' := 61) (l' := [some (.ref x0), none, some (.int x2)]) (st' := [.int (1 : Int32)]) rfl ?_
    cases h
    exact E_ret rfl (pg_mt_md (by decide)) rfl hr
  · rw [if_neg c1] at h
    refine E_jf rfl rfl c1 ?_
    refine E_blk rfl ?_
    refine E_ps 2 (pc' := 17) (l' := [some (.ref x0), none, some (.int x2)]) (st' := [.ref x0, .ref x0]) rfl ?_
    obtain ⟨a2, e3, h⟩ := Option.bind_eq_some_iff.mp h
    refine E_gr k0 (by decide) rfl e3 ?_
    refine E_ps 1 (pc' := 21) (l' := [some (.ref x0), none, some (.int x2)]) (st' := [.int x2, .ref a2, .ref x0]) rfl ?_
    obtain ⟨v4, e5, h⟩ := Option.bind_eq_some_iff.mp h
    refine E_ai e5 ?_
    refine E_ps 1 (pc' := 23) (l' := [some (.ref x0), none, some (.int x2)]) (st' := [.ref x0, .int v4, .ref x0]) rfl ?_
    obtain ⟨a6, e7, h⟩ := Option.bind_eq_some_iff.mp h
    refine E_gr k0 (by decide) rfl e7 ?_
    refine E_ps 1 (pc' := 27) (l' := [some (.ref x0), none, some (.int x2)]) (st' := [.int x2, .ref a6, .int v4, .ref x0]) rfl ?_
    obtain ⟨v8, e9, h⟩ := Option.bind_eq_some_iff.mp h
    refine E_ai e9 ?_
    refine E_ps 1 (pc' := 29) (l' := [some (.ref x0), none, some (.int x2)]) (st' := [.ref x0, .int v8, .int v4, .ref x0]) rfl ?_
    obtain ⟨a10, e11, h⟩ := Option.bind_eq_some_iff.mp h
    refine E_gr k0 (by decide) rfl e11 ?_
    refine E_ps 1 (pc' := 33) (l' := [some (.ref x0), none, some (.int x2)]) (st' := [.int x2, .ref a10, .int v8, .int v4, .ref x0]) rfl ?_
    obtain ⟨v12, e13, h⟩ := Option.bind_eq_some_iff.mp h
    refine E_ai e13 ?_
    refine E_ps 1 (pc' := 35) (l' := [some (.ref x0), none, some (.int x2)]) (st' := [.ref x0, .int v12, .int v8, .int v4, .ref x0]) rfl ?_
    obtain ⟨a14, e15, h⟩ := Option.bind_eq_some_iff.mp h
    refine E_gr k0 (by decide) rfl e15 ?_
    refine E_ps 1 (pc' := 39) (l' := [some (.ref x0), none, some (.int x2)]) (st' := [.int x2, .ref a14, .int v12, .int v8, .int v4, .ref x0]) rfl ?_
    obtain ⟨v16, e17, h⟩ := Option.bind_eq_some_iff.mp h
    refine E_ai e17 ?_
    obtain ⟨z18, e19, h⟩ := Option.bind_eq_some_iff.mp h
    refine E_callI (vs := [.ref x0, .int v4, .int v8, .int v12, .int v16]) (rest := []) rfl (by decide) rfl rfl (Nat.le_of_ble_eq_true rfl) (s265 e19) (by decide) ?_
    refine E_ps 1 (pc' := 44) (l' := [some (.ref x0), none, some (.int x2)]) (st' := [.ref x0, .int z18.2]) rfl ?_
    obtain ⟨a20, e21, h⟩ := Option.bind_eq_some_iff.mp h
    refine E_gr k0 (by decide) rfl e21 ?_
    refine E_ps 1 (pc' := 48) (l' := [some (.ref x0), none, some (.int x2)]) (st' := [.int x2, .ref a20, .int z18.2]) rfl ?_
    obtain ⟨v22, e23, h⟩ := Option.bind_eq_some_iff.mp h
    refine E_ai e23 ?_
    by_cases c24 : z18.2 = v22
    · rw [if_pos c24] at h
      refine E_jt rfl rfl c24 ?_
      refine E_blk rfl ?_
      refine E_ps 1 (pc' := 57) (l' := [some (.ref x0), none, some (.int (x2 + (1 : Int32)))]) (st' := []) rfl ?_
      refine E_j rfl rfl ?_
      cases h
      exact E_wk (l' := [some (.ref x0), none, some (.int (x2 + (1 : Int32)))]) ⟨rfl, rfl, trivial⟩ hr
    · rw [if_neg c24] at h
      refine E_jf rfl rfl c24 ?_
      obtain ⟨r, h, hr⟩ := lf_some (Dn := dn266_7 sc x0 o) h hr
      refine E_blk rfl ?_
      refine E_ps 1 (pc' := 53) (l' := [some (.ref x0), none, some (.int x2)]) (st' := [.int (0 : Int32)]) rfl ?_
      cases h
      exact E_ret rfl (pg_mt_md (by decide)) rfl hr
theorem s266_7_w {sc : Option (Nat × (Nat → Int32))} {x0 : Nat} {x2 : Int32} {s : xS} {o : xH × Option Value} {r : (xS × Int32)} (k0 : oK x0 12 = true) (h : whl (fun q : (Int32 × xS) => f266_7 x0 q.1 q.2) (x2, s) = some r) (hr : dn266 o r) : Ev sc 7 266 [] 7 [some (.ref x0), none, some (.int x2)] [] (hk_of s) o := by
  refine whl_snd (E := fun q : (Int32 × xS) => Ev sc 7 266 [] 7 [some (.ref x0), none, some (.int q.1)] [] (hk_of q.2) o) (P := fun r => dn266 o r) (fun q r h hr => ?_) h hr
  exact s266_7 k0 h (by cases r <;> exact hr)
noncomputable def f266 (x0 : Nat) (x1 : Int32) (s : xS) : Option (xS × Int32) := ifg (oK x0 12 = true) <| (f264 x0 x1 s).bind fun z1 => whl (fun q : (Int32 × xS) => f266_7 x0 q.1 q.2) ((0 : Int32), z1.1)
set_option maxRecDepth 20000 in
theorem s266 {sc : Option (Nat × (Nat → Int32))} {x0 : Nat} {x1 : Int32} {s : xS} {r : xS × Int32} (h : f266 x0 x1 s = some r) : Cl sc 7 266 [.ref x0, .int x1] (hk_of s) (hk_of r.1, some (.int r.2)) := by
  unfold f266 at h
  obtain ⟨k0, h⟩ := ifg_some h
  refine ⟨pg_md 266, [some (.ref x0), some (.int x1), none], pg_mt_md (by decide), (hk_rcv k0), rfl, ?_⟩
  generalize ho : ((hk_of r.1, some (Value.int r.2)) : xH × Option Value) = o
  have hr : dn266 o r := ho.symm
  refine E_blk rfl ?_
  refine E_ps 2 (pc' := 2) (l' := [some (.ref x0), some (.int x1), none]) (st' := [.int x1, .ref x0]) rfl ?_
  obtain ⟨z1, e2, h⟩ := Option.bind_eq_some_iff.mp h
  refine E_callV (vs := [.ref x0, .int x1]) (rest := []) rfl (by decide) rfl rfl (Nat.le_of_ble_eq_true rfl) (s264 e2) (by decide) ?_
  refine E_ps 2 (pc' := 7) (l' := [some (.ref x0), some (.int x1), some (.int (0 : Int32))]) (st' := []) rfl ?_
  exact E_wk (l' := [some (.ref x0), none, some (.int (0 : Int32))]) ⟨rfl, rfl, trivial⟩ (s266_7_w k0 h hr)

-- 267: ThreePlatesModel.isSpent()Z
def dn267 (o : xH × Option Value) (r : xS × Int32) : Prop := o = (hk_of r.1, some (.int r.2))
noncomputable def f267_13 (y0 : Int32) (s : xS) : Option (xS × Int32) := ifg (y0 = 0 ∨ y0 = 1) <| some (s, y0)
set_option maxRecDepth 20000 in
theorem s267_13 {sc : Option (Nat × (Nat → Int32))} {y0 : Int32} {s : xS} {o : xH × Option Value} {r : (xS × Int32)}  (h : f267_13 y0 s = some r) (hr : dn267 o r) : Ev sc 2 267 [] 13 [none] [.int y0] (hk_of s) o := by
  unfold f267_13 at h
  refine E_blk rfl ?_
  obtain ⟨g1, h⟩ := ifg_some h
  cases h
  exact E_ret rfl (pg_mt_md (by decide)) (hk_retz g1 rfl) hr
noncomputable def f267 (x0 : Nat) (s : xS) : Option (xS × Int32) := ifg (oK x0 12 = true) <| (f196 x0 s).bind fun z1 => if z1.2 = (5 : Int32) then (f267_13 (1 : Int32) z1.1) else (f267_13 (0 : Int32) z1.1)
set_option maxRecDepth 20000 in
theorem s267 {sc : Option (Nat × (Nat → Int32))} {x0 : Nat} {s : xS} {r : xS × Int32} (h : f267 x0 s = some r) : Cl sc 2 267 [.ref x0] (hk_of s) (hk_of r.1, some (.int r.2)) := by
  unfold f267 at h
  obtain ⟨k0, h⟩ := ifg_some h
  refine ⟨pg_md 267, [some (.ref x0)], pg_mt_md (by decide), (hk_rcv k0), rfl, ?_⟩
  generalize ho : ((hk_of r.1, some (Value.int r.2)) : xH × Option Value) = o
  have hr : dn267 o r := ho.symm
  refine E_blk rfl ?_
  refine E_ps 1 (pc' := 1) (l' := [some (.ref x0)]) (st' := [.ref x0]) rfl ?_
  obtain ⟨z1, e2, h⟩ := Option.bind_eq_some_iff.mp h
  refine E_callI (vs := [.ref x0]) (rest := []) rfl (by decide) rfl rfl (Nat.le_of_ble_eq_true rfl) (s196 e2) (by decide) ?_
  refine E_ps 1 (pc' := 5) (l' := [some (.ref x0)]) (st' := [.int (5 : Int32), .int z1.2]) rfl ?_
  by_cases c3 : z1.2 = (5 : Int32)
  · rw [if_pos c3] at h
    refine E_jt rfl rfl c3 ?_
    refine E_blk rfl ?_
    refine E_ps 1 (pc' := 9) (l' := [some (.ref x0)]) (st' := [.int (1 : Int32)]) rfl ?_
    refine E_j rfl rfl ?_
    exact E_wk (l' := [none]) trivial (s267_13  h hr)
  · rw [if_neg c3] at h
    refine E_jf rfl rfl c3 ?_
    refine E_blk rfl ?_
    refine E_ps 1 (pc' := 13) (l' := [some (.ref x0)]) (st' := [.int (0 : Int32)]) rfl ?_
    exact E_wk (l' := [none]) trivial (s267_13  h hr)

-- 268: ThreePlatesModel.worlds()I
def dn268 (o : xH × Option Value) (r : xS × Int32) : Prop := o = (hk_of r.1, some (.int r.2))
def dn268_14 (sc : Option (Nat × (Nat → Int32))) (x0 : Nat) (o : xH × Option Value) (r : ((Int32 × Int32 × xS) ⊕ (xS × Int32))) : Prop := match r with
  | .inl q => Ev sc 8 268 [] 14 [some (.ref x0), some (.int q.1), some (.int q.2.1)] [] (hk_of q.2.2) o
  | .inr r => dn268 o r
noncomputable def f268_35 (x0 : Nat) (x2 : Int32) (y0 : Int32) (y1 : Int32) (s : xS) : Option ((Int32 × Int32 × xS) ⊕ (xS × Int32)) := some (Sum.inl ((y1 + y0), (x2 + (1 : Int32)), s))
set_option maxRecDepth 20000 in
theorem s268_35 {sc : Option (Nat × (Nat → Int32))} {x0 : Nat} {x2 : Int32} {y0 : Int32} {y1 : Int32} {s : xS} {o : xH × Option Value} {r : ((Int32 × Int32 × xS) ⊕ (xS × Int32))} (k0 : oK x0 12 = true) (h : f268_35 x0 x2 y0 y1 s = some r) (hr : dn268_14 sc x0 o r) : Ev sc 8 268 [] 35 [some (.ref x0), none, some (.int x2)] [.int y0, .int y1] (hk_of s) o := by
  unfold f268_35 at h
  refine E_blk rfl ?_
  refine E_ps 3 (pc' := 40) (l' := [some (.ref x0), some (.int (y1 + y0)), some (.int (x2 + (1 : Int32)))]) (st' := []) rfl ?_
  refine E_j rfl rfl ?_
  cases h
  exact E_wk (l' := [some (.ref x0), some (.int (y1 + y0)), some (.int (x2 + (1 : Int32)))]) ⟨rfl, rfl, rfl, trivial⟩ hr
noncomputable def f268_14 (x0 : Nat) (x1 : Int32) (x2 : Int32) (s : xS) : Option ((Int32 × Int32 × xS) ⊕ (xS × Int32)) := if (343 : Int32) ≤ x2 then (Option.map Sum.inr (some (s, x1))) else ((f266 x0 x2 s).bind fun z2 => if z2.2 = 0 then (f268_35 x0 x2 (0 : Int32) x1 z2.1) else (f268_35 x0 x2 (1 : Int32) x1 z2.1))
set_option maxRecDepth 20000 in
theorem s268_14 {sc : Option (Nat × (Nat → Int32))} {x0 : Nat} {x1 : Int32} {x2 : Int32} {s : xS} {o : xH × Option Value} {r : ((Int32 × Int32 × xS) ⊕ (xS × Int32))} (k0 : oK x0 12 = true) (h : f268_14 x0 x1 x2 s = some r) (hr : dn268_14 sc x0 o r) : Ev sc 8 268 [] 14 [some (.ref x0), some (.int x1), some (.int x2)] [] (hk_of s) o := by
  unfold f268_14 at h
  refine E_blk rfl ?_
  refine E_ps 2 (pc' := 18) (l' := [some (.ref x0), some (.int x1), some (.int x2)]) (st' := [.int (343 : Int32), .int x2]) rfl ?_
  by_cases c1 : (343 : Int32) ≤ x2
  · rw [if_pos c1] at h
    refine E_jt rfl rfl c1 ?_
    obtain ⟨r, h, hr⟩ := lf_some (Dn := dn268_14 sc x0 o) h hr
    refine E_blk rfl ?_
    refine E_ps 1 (pc' := 44) (l' := [some (.ref x0), some (.int x1), some (.int x2)]) (st' := [.int x1]) rfl ?_
    cases h
    exact E_ret rfl (pg_mt_md (by decide)) rfl hr
  · rw [if_neg c1] at h
    refine E_jf rfl rfl c1 ?_
    refine E_blk rfl ?_
    refine E_ps 3 (pc' := 24) (l' := [some (.ref x0), some (.int x1), some (.int x2)]) (st' := [.int x2, .ref x0, .int x1]) rfl ?_
    obtain ⟨z2, e3, h⟩ := Option.bind_eq_some_iff.mp h
    refine E_callI (vs := [.ref x0, .int x2]) (rest := [.int x1]) rfl (by decide) rfl rfl (Nat.le_of_ble_eq_true rfl) (s266 e3) (by decide) ?_
    by_cases c4 : z2.2 = 0
    · rw [if_pos c4] at h
      refine E_jt rfl rfl c4 ?_
      refine E_blk rfl ?_
      refine E_ps 1 (pc' := 35) (l' := [some (.ref x0), some (.int x1), some (.int x2)]) (st' := [.int (0 : Int32), .int x1]) rfl ?_
      exact E_wk (l' := [some (.ref x0), none, some (.int x2)]) ⟨rfl, rfl, trivial⟩ (s268_35 k0 h hr)
    · rw [if_neg c4] at h
      refine E_jf rfl rfl c4 ?_
      refine E_blk rfl ?_
      refine E_ps 1 (pc' := 31) (l' := [some (.ref x0), some (.int x1), some (.int x2)]) (st' := [.int (1 : Int32), .int x1]) rfl ?_
      refine E_j rfl rfl ?_
      exact E_wk (l' := [some (.ref x0), none, some (.int x2)]) ⟨rfl, rfl, trivial⟩ (s268_35 k0 h hr)
theorem s268_14_w {sc : Option (Nat × (Nat → Int32))} {x0 : Nat} {x1 : Int32} {x2 : Int32} {s : xS} {o : xH × Option Value} {r : (xS × Int32)} (k0 : oK x0 12 = true) (h : whl (fun q : (Int32 × Int32 × xS) => f268_14 x0 q.1 q.2.1 q.2.2) (x1, x2, s) = some r) (hr : dn268 o r) : Ev sc 8 268 [] 14 [some (.ref x0), some (.int x1), some (.int x2)] [] (hk_of s) o := by
  refine whl_snd (E := fun q : (Int32 × Int32 × xS) => Ev sc 8 268 [] 14 [some (.ref x0), some (.int q.1), some (.int q.2.1)] [] (hk_of q.2.2) o) (P := fun r => dn268 o r) (fun q r h hr => ?_) h hr
  exact s268_14 k0 h (by cases r <;> exact hr)
noncomputable def f268 (x0 : Nat) (s : xS) : Option (xS × Int32) := ifg (oK x0 12 = true) <| (f267 x0 s).bind fun z1 => if z1.2 = 0 then (whl (fun q : (Int32 × Int32 × xS) => f268_14 x0 q.1 q.2.1 q.2.2) ((0 : Int32), (0 : Int32), z1.1)) else (some (z1.1, (-2 : Int32)))
set_option maxRecDepth 20000 in
theorem s268 {sc : Option (Nat × (Nat → Int32))} {x0 : Nat} {s : xS} {r : xS × Int32} (h : f268 x0 s = some r) : Cl sc 8 268 [.ref x0] (hk_of s) (hk_of r.1, some (.int r.2)) := by
  unfold f268 at h
  obtain ⟨k0, h⟩ := ifg_some h
  refine ⟨pg_md 268, [some (.ref x0), none, none], pg_mt_md (by decide), (hk_rcv k0), rfl, ?_⟩
  generalize ho : ((hk_of r.1, some (Value.int r.2)) : xH × Option Value) = o
  have hr : dn268 o r := ho.symm
  refine E_blk rfl ?_
  refine E_ps 1 (pc' := 1) (l' := [some (.ref x0), none, none]) (st' := [.ref x0]) rfl ?_
  obtain ⟨z1, e2, h⟩ := Option.bind_eq_some_iff.mp h
  refine E_callI (vs := [.ref x0]) (rest := []) rfl (by decide) rfl rfl (Nat.le_of_ble_eq_true rfl) (s267 e2) (by decide) ?_
  by_cases c3 : z1.2 = 0
  · rw [if_pos c3] at h
    refine E_jt rfl rfl c3 ?_
    refine E_blk rfl ?_
    refine E_ps 4 (pc' := 14) (l' := [some (.ref x0), some (.int (0 : Int32)), some (.int (0 : Int32))]) (st' := []) rfl ?_
    exact E_wk (l' := [some (.ref x0), some (.int (0 : Int32)), some (.int (0 : Int32))]) ⟨rfl, rfl, rfl, trivial⟩ (s268_14_w k0 h hr)
  · rw [if_neg c3] at h
    refine E_jf rfl rfl c3 ?_
    refine E_blk rfl ?_
    refine E_ps 1 (pc' := 9) (l' := [some (.ref x0), none, none]) (st' := [.int (-2 : Int32)]) rfl ?_
    cases h
    exact E_ret rfl (pg_mt_md (by decide)) rfl hr

-- 269: ThreePlatesModel.world(I)I
def dn269 (o : xH × Option Value) (r : xS × Int32) : Prop := o = (hk_of r.1, some (.int r.2))
def dn269_17 (sc : Option (Nat × (Nat → Int32))) (x0 : Nat) (o : xH × Option Value) (r : ((Int32 × Int32 × xS) ⊕ (xS × Int32))) : Prop := match r with
  | .inl q => Ev sc 8 269 [] 17 [some (.ref x0), none, some (.int q.1), some (.int q.2.1)] [] (hk_of q.2.2) o
  | .inr r => dn269 o r
noncomputable def f269_44 (x0 : Nat) (x2 : Int32) (x3 : Int32) (s : xS) : Option ((Int32 × Int32 × xS) ⊕ (xS × Int32)) := some (Sum.inl (x2, (x3 + (1 : Int32)), s))
set_option maxRecDepth 20000 in
theorem s269_44 {sc : Option (Nat × (Nat → Int32))} {x0 : Nat} {x2 : Int32} {x3 : Int32} {s : xS} {o : xH × Option Value} {r : ((Int32 × Int32 × xS) ⊕ (xS × Int32))} (k0 : oK x0 12 = true) (h : f269_44 x0 x2 x3 s = some r) (hr : dn269_17 sc x0 o r) : Ev sc 8 269 [] 44 [some (.ref x0), none, some (.int x2), some (.int x3)] [] (hk_of s) o := by
  unfold f269_44 at h
  refine E_blk rfl ?_
  refine E_ps 1 (pc' := 47) (l' := [some (.ref x0), none, some (.int x2), some (.int (x3 + (1 : Int32)))]) (st' := []) rfl ?_
  refine E_j rfl rfl ?_
  cases h
  exact E_wk (l' := [some (.ref x0), none, some (.int x2), some (.int (x3 + (1 : Int32)))]) ⟨rfl, rfl, rfl, trivial⟩ hr
noncomputable def f269_17 (x0 : Nat) (x2 : Int32) (x3 : Int32) (s : xS) : Option ((Int32 × Int32 × xS) ⊕ (xS × Int32)) := if (343 : Int32) ≤ x3 then (Option.map Sum.inr (some (s, (-1 : Int32)))) else ((f266 x0 x3 s).bind fun z2 => if z2.2 = 0 then (f269_44 x0 x2 x3 z2.1) else (if x2 = 0 then (Option.map Sum.inr (some (z2.1, x3))) else (f269_44 x0 (x2 + (-1 : Int32)) x3 z2.1)))
set_option maxRecDepth 20000 in
theorem s269_17 {sc : Option (Nat × (Nat → Int32))} {x0 : Nat} {x2 : Int32} {x3 : Int32} {s : xS} {o : xH × Option Value} {r : ((Int32 × Int32 × xS) ⊕ (xS × Int32))} (k0 : oK x0 12 = true) (h : f269_17 x0 x2 x3 s = some r) (hr : dn269_17 sc x0 o r) : Ev sc 8 269 [] 17 [some (.ref x0), none, some (.int x2), some (.int x3)] [] (hk_of s) o := by
  unfold f269_17 at h
  refine E_blk rfl ?_
  refine E_ps 2 (pc' := 21) (l' := [some (.ref x0), none, some (.int x2), some (.int x3)]) (st' := [.int (343 : Int32), .int x3]) rfl ?_
  by_cases c1 : (343 : Int32) ≤ x3
  · rw [if_pos c1] at h
    refine E_jt rfl rfl c1 ?_
    obtain ⟨r, h, hr⟩ := lf_some (Dn := dn269_17 sc x0 o) h hr
    refine E_blk rfl ?_
    refine E_ps 1 (pc' := 51) (l' := [some (.ref x0), none, some (.int x2), some (.int x3)]) (st' := [.int (-1 : Int32)]) rfl ?_
    cases h
    exact E_ret rfl (pg_mt_md (by decide)) rfl hr
  · rw [if_neg c1] at h
    refine E_jf rfl rfl c1 ?_
    refine E_blk rfl ?_
    refine E_ps 2 (pc' := 26) (l' := [some (.ref x0), none, some (.int x2), some (.int x3)]) (st' := [.int x3, .ref x0]) rfl ?_
    obtain ⟨z2, e3, h⟩ := Option.bind_eq_some_iff.mp h
    refine E_callI (vs := [.ref x0, .int x3]) (rest := []) rfl (by decide) rfl rfl (Nat.le_of_ble_eq_true rfl) (s266 e3) (by decide) ?_
    by_cases c4 : z2.2 = 0
    · rw [if_pos c4] at h
      refine E_jt rfl rfl c4 ?_
      refine E_blk rfl ?_
      refine E_j rfl rfl ?_
      exact E_wk (l' := [some (.ref x0), none, some (.int x2), some (.int x3)]) ⟨rfl, rfl, rfl, trivial⟩ (s269_44 k0 h hr)
    · rw [if_neg c4] at h
      refine E_jf rfl rfl c4 ?_
      refine E_blk rfl ?_
      refine E_ps 1 (pc' := 36) (l' := [some (.ref x0), none, some (.int x2), some (.int x3)]) (st' := [.int x2]) rfl ?_
      by_cases c5 : x2 = 0
      · rw [if_pos c5] at h
        refine E_jt rfl rfl c5 ?_
        obtain ⟨r, h, hr⟩ := lf_some (Dn := dn269_17 sc x0 o) h hr
        refine E_blk rfl ?_
        refine E_ps 1 (pc' := 40) (l' := [some (.ref x0), none, some (.int x2), some (.int x3)]) (st' := [.int x3]) rfl ?_
        cases h
        exact E_ret rfl (pg_mt_md (by decide)) rfl hr
      · rw [if_neg c5] at h
        refine E_jf rfl rfl c5 ?_
        refine E_blk rfl ?_
        refine E_ps 1 (pc' := 44) (l' := [some (.ref x0), none, some (.int (x2 + (-1 : Int32))), some (.int x3)]) (st' := []) rfl ?_
        exact E_wk (l' := [some (.ref x0), none, some (.int (x2 + (-1 : Int32))), some (.int x3)]) ⟨rfl, rfl, rfl, trivial⟩ (s269_44 k0 h hr)
theorem s269_17_w {sc : Option (Nat × (Nat → Int32))} {x0 : Nat} {x2 : Int32} {x3 : Int32} {s : xS} {o : xH × Option Value} {r : (xS × Int32)} (k0 : oK x0 12 = true) (h : whl (fun q : (Int32 × Int32 × xS) => f269_17 x0 q.1 q.2.1 q.2.2) (x2, x3, s) = some r) (hr : dn269 o r) : Ev sc 8 269 [] 17 [some (.ref x0), none, some (.int x2), some (.int x3)] [] (hk_of s) o := by
  refine whl_snd (E := fun q : (Int32 × Int32 × xS) => Ev sc 8 269 [] 17 [some (.ref x0), none, some (.int q.1), some (.int q.2.1)] [] (hk_of q.2.2) o) (P := fun r => dn269 o r) (fun q r h hr => ?_) h hr
  exact s269_17 k0 h (by cases r <;> exact hr)
noncomputable def f269_11  (s : xS) : Option (xS × Int32) := some (s, (-1 : Int32))
set_option maxRecDepth 20000 in
theorem s269_11 {sc : Option (Nat × (Nat → Int32))}  {s : xS} {o : xH × Option Value} {r : (xS × Int32)}  (h : f269_11  s = some r) (hr : dn269 o r) : Ev sc 8 269 [] 11 [none, none, none, none] [] (hk_of s) o := by
  unfold f269_11 at h
  refine E_blk rfl ?_
  refine E_ps 1 (pc' := 12) (l' := [none, none, none, none]) (st' := [.int (-1 : Int32)]) rfl ?_
  cases h
  exact E_ret rfl (pg_mt_md (by decide)) rfl hr
noncomputable def f269 (x0 : Nat) (x1 : Int32) (s : xS) : Option (xS × Int32) := ifg (oK x0 12 = true) <| (f267 x0 s).bind fun z1 => if z1.2 = 0 then (if 0 ≤ x1 then (whl (fun q : (Int32 × Int32 × xS) => f269_17 x0 q.1 q.2.1 q.2.2) (x1, (0 : Int32), z1.1)) else (f269_11  z1.1)) else (f269_11  z1.1)
set_option maxRecDepth 20000 in
theorem s269 {sc : Option (Nat × (Nat → Int32))} {x0 : Nat} {x1 : Int32} {s : xS} {r : xS × Int32} (h : f269 x0 x1 s = some r) : Cl sc 8 269 [.ref x0, .int x1] (hk_of s) (hk_of r.1, some (.int r.2)) := by
  unfold f269 at h
  obtain ⟨k0, h⟩ := ifg_some h
  refine ⟨pg_md 269, [some (.ref x0), some (.int x1), none, none], pg_mt_md (by decide), (hk_rcv k0), rfl, ?_⟩
  generalize ho : ((hk_of r.1, some (Value.int r.2)) : xH × Option Value) = o
  have hr : dn269 o r := ho.symm
  refine E_blk rfl ?_
  refine E_ps 1 (pc' := 1) (l' := [some (.ref x0), some (.int x1), none, none]) (st' := [.ref x0]) rfl ?_
  obtain ⟨z1, e2, h⟩ := Option.bind_eq_some_iff.mp h
  refine E_callI (vs := [.ref x0]) (rest := []) rfl (by decide) rfl rfl (Nat.le_of_ble_eq_true rfl) (s267 e2) (by decide) ?_
  by_cases c3 : z1.2 = 0
  · rw [if_pos c3] at h
    refine E_jt rfl rfl c3 ?_
    refine E_blk rfl ?_
    refine E_ps 1 (pc' := 8) (l' := [some (.ref x0), some (.int x1), none, none]) (st' := [.int x1]) rfl ?_
    by_cases c4 : 0 ≤ x1
    · rw [if_pos c4] at h
      refine E_jt rfl rfl c4 ?_
      refine E_blk rfl ?_
      refine E_ps 4 (pc' := 17) (l' := [some (.ref x0), some (.int x1), some (.int x1), some (.int (0 : Int32))]) (st' := []) rfl ?_
      exact E_wk (l' := [some (.ref x0), none, some (.int x1), some (.int (0 : Int32))]) ⟨rfl, rfl, rfl, trivial⟩ (s269_17_w k0 h hr)
    · rw [if_neg c4] at h
      refine E_jf rfl rfl c4 ?_
      exact E_wk (l' := [none, none, none, none]) trivial (s269_11  h hr)
  · rw [if_neg c3] at h
    refine E_jf rfl rfl c3 ?_
    exact E_wk (l' := [none, none, none, none]) trivial (s269_11  h hr)

-- 270: ThreePlatesModel.known(ZI)I
def dn270 (o : xH × Option Value) (r : xS × Int32) : Prop := o = (hk_of r.1, some (.int r.2))
def dn270_29 (sc : Option (Nat × (Nat → Int32))) (x0 : Nat) (x1 : Int32) (x2 : Int32) (o : xH × Option Value) (r : ((Int64 × Int64 × Int32 × xS) ⊕ (xS × Int32))) : Prop := match r with
  | .inl q => Ev sc 8 270 [] 29 [some (.ref x0), some (.int x1), some (.int x2), some (.long q.1), none, some (.long q.2.1), none, some (.int q.2.2.1), none, none] [] (hk_of q.2.2.2) o
  | .inr r => dn270 o r
noncomputable def f270_115 (x0 : Nat) (x1 : Int32) (x2 : Int32) (x3 : Int64) (x5 : Int64) (x7 : Int32) (s : xS) : Option ((Int64 × Int64 × Int32 × xS) ⊕ (xS × Int32)) := some (Sum.inl (x3, x5, (x7 + (1 : Int32)), s))
set_option maxRecDepth 20000 in
theorem s270_115 {sc : Option (Nat × (Nat → Int32))} {x0 : Nat} {x1 : Int32} {x2 : Int32} {x3 : Int64} {x5 : Int64} {x7 : Int32} {s : xS} {o : xH × Option Value} {r : ((Int64 × Int64 × Int32 × xS) ⊕ (xS × Int32))} (k0 : oK x0 12 = true) (h : f270_115 x0 x1 x2 x3 x5 x7 s = some r) (hr : dn270_29 sc x0 x1 x2 o r) : Ev sc 8 270 [] 115 [some (.ref x0), some (.int x1), some (.int x2), some (.long x3), none, some (.long x5), none, some (.int x7), none, none] [] (hk_of s) o := by
  unfold f270_115 at h
  refine E_blk rfl ?_
  refine E_ps 1 (pc' := 118) (l' := [some (.ref x0), some (.int x1), some (.int x2), some (.long x3), none, some (.long x5), none, some (.int (x7 + (1 : Int32))), none, none]) (st' := []) rfl ?_
  refine E_j rfl rfl ?_
  cases h
  exact E_wk (l' := [some (.ref x0), some (.int x1), some (.int x2), some (.long x3), none, some (.long x5), none, some (.int (x7 + (1 : Int32))), none, none]) ⟨rfl, rfl, rfl, rfl, rfl, rfl, trivial⟩ hr
noncomputable def f270_106 (x0 : Nat) (x1 : Int32) (x2 : Int32) (x7 : Int32) (x8 : Int64) (s : xS) : Option ((Int64 × Int64 × Int32 × xS) ⊕ (xS × Int32)) := f270_115 x0 x1 x2 x8 (s.2 x0 45) x7 s
set_option maxRecDepth 20000 in
theorem s270_106 {sc : Option (Nat × (Nat → Int32))} {x0 : Nat} {x1 : Int32} {x2 : Int32} {x7 : Int32} {x8 : Int64} {s : xS} {o : xH × Option Value} {r : ((Int64 × Int64 × Int32 × xS) ⊕ (xS × Int32))} (k0 : oK x0 12 = true) (h : f270_106 x0 x1 x2 x7 x8 s = some r) (hr : dn270_29 sc x0 x1 x2 o r) : Ev sc 8 270 [] 106 [some (.ref x0), some (.int x1), some (.int x2), none, none, none, none, some (.int x7), some (.long x8), none] [] (hk_of s) o := by
  unfold f270_106 at h
  refine E_blk rfl ?_
  refine E_ps 3 (pc' := 110) (l' := [some (.ref x0), some (.int x1), some (.int x2), some (.long x8), none, none, none, some (.int x7), some (.long x8), none]) (st' := [.ref x0]) rfl ?_
  refine E_gl k0 (by decide) rfl ?_
  refine E_ps 1 (pc' := 115) (l' := [some (.ref x0), some (.int x1), some (.int x2), some (.long x8), none, some (.long (s.2 x0 45)), none, some (.int x7), some (.long x8), none]) (st' := []) rfl ?_
  exact E_wk (l' := [some (.ref x0), some (.int x1), some (.int x2), some (.long x8), none, some (.long (s.2 x0 45)), none, some (.int x7), none, none]) ⟨rfl, rfl, rfl, rfl, rfl, rfl, trivial⟩ (s270_115 k0 h hr)
noncomputable def f270_139 (y0 : Int32) (s : xS) : Option (xS × Int32) := some (s, y0)
set_option maxRecDepth 20000 in
theorem s270_139 {sc : Option (Nat × (Nat → Int32))} {y0 : Int32} {s : xS} {o : xH × Option Value} {r : (xS × Int32)}  (h : f270_139 y0 s = some r) (hr : dn270 o r) : Ev sc 8 270 [] 139 [none, none, none, none, none, none, none, none, none, none] [.int y0] (hk_of s) o := by
  unfold f270_139 at h
  refine E_blk rfl ?_
  cases h
  exact E_ret rfl (pg_mt_md (by decide)) rfl hr
noncomputable def f270_29 (x0 : Nat) (x1 : Int32) (x2 : Int32) (x3 : Int64) (x5 : Int64) (x7 : Int32) (s : xS) : Option ((Int64 × Int64 × Int32 × xS) ⊕ (xS × Int32)) := if (343 : Int32) ≤ x7 then (Option.map Sum.inr (if 0 ≤ (lg_cmp x3 (0 : Int64)) then ((f216 x3 x5 x2 s).bind fun z3 => f270_139 (z3.2).toInt32 z3.1) else (f270_139 (-1 : Int32) s))) else ((f266 x0 x7 s).bind fun z5 => if z5.2 = 0 then (f270_115 x0 x1 x2 x3 x5 x7 z5.1) else ((f232 x0 (4 : Int32) z5.1).bind fun z8 => (f223 x0 z8.1).bind fun z10 => if (lg_cmp x3 (0 : Int64)) < 0 then (f270_106 x0 x1 x2 x7 z10.2 z10.1) else (if x1 = 0 then (if (lg_cmp (z10.2 * x5) (x3 * (z10.1.2 x0 45))) < 0 then (f270_106 x0 x1 x2 x7 z10.2 z10.1) else (f270_115 x0 x1 x2 x3 x5 x7 z10.1)) else (if 0 < (lg_cmp (z10.2 * x5) (x3 * (z10.1.2 x0 45))) then (f270_106 x0 x1 x2 x7 z10.2 z10.1) else (f270_115 x0 x1 x2 x3 x5 x7 z10.1)))))
set_option maxRecDepth 20000 in
theorem s270_29 {sc : Option (Nat × (Nat → Int32))} {x0 : Nat} {x1 : Int32} {x2 : Int32} {x3 : Int64} {x5 : Int64} {x7 : Int32} {s : xS} {o : xH × Option Value} {r : ((Int64 × Int64 × Int32 × xS) ⊕ (xS × Int32))} (k0 : oK x0 12 = true) (h : f270_29 x0 x1 x2 x3 x5 x7 s = some r) (hr : dn270_29 sc x0 x1 x2 o r) : Ev sc 8 270 [] 29 [some (.ref x0), some (.int x1), some (.int x2), some (.long x3), none, some (.long x5), none, some (.int x7), none, none] [] (hk_of s) o := by
  unfold f270_29 at h
  refine E_blk rfl ?_
  refine E_ps 2 (pc' := 34) (l' := [some (.ref x0), some (.int x1), some (.int x2), some (.long x3), none, some (.long x5), none, some (.int x7), none, none]) (st' := [.int (343 : Int32), .int x7]) rfl ?_
  by_cases c1 : (343 : Int32) ≤ x7
  · rw [if_pos c1] at h
    refine E_jt rfl rfl c1 ?_
    obtain ⟨r, h, hr⟩ := lf_some (Dn := dn270_29 sc x0 x1 x2 o) h hr
    refine E_blk rfl ?_
    refine E_ps 3 (pc' := 124) (l' := [some (.ref x0), some (.int x1), some (.int x2), some (.long x3), none, some (.long x5), none, some (.int x7), none, none]) (st' := [.int (lg_cmp x3 (0 : Int64))]) rfl ?_
    by_cases c2 : 0 ≤ (lg_cmp x3 (0 : Int64))
    · rw [if_pos c2] at h
      refine E_jt rfl rfl c2 ?_
      refine E_blk rfl ?_
      refine E_ps 3 (pc' := 135) (l' := [some (.ref x0), some (.int x1), some (.int x2), some (.long x3), none, some (.long x5), none, some (.int x7), none, none]) (st' := [.int x2, .long x5, .long x3]) rfl ?_
      obtain ⟨z3, e4, h⟩ := Option.bind_eq_some_iff.mp h
      refine E_callL (vs := [.long x3, .long x5, .int x2]) (rest := []) rfl (by decide) rfl rfl (Nat.le_of_ble_eq_true rfl) (s216 e4) (by decide) ?_
      refine E_ps 1 (pc' := 139) (l' := [some (.ref x0), some (.int x1), some (.int x2), some (.long x3), none, some (.long x5), none, some (.int x7), none, none]) (st' := [.int (z3.2).toInt32]) rfl ?_
      exact E_wk (l' := [none, none, none, none, none, none, none, none, none, none]) trivial (s270_139  h hr)
    · rw [if_neg c2] at h
      refine E_jf rfl rfl c2 ?_
      refine E_blk rfl ?_
      refine E_ps 1 (pc' := 128) (l' := [some (.ref x0), some (.int x1), some (.int x2), some (.long x3), none, some (.long x5), none, some (.int x7), none, none]) (st' := [.int (-1 : Int32)]) rfl ?_
      refine E_j rfl rfl ?_
      exact E_wk (l' := [none, none, none, none, none, none, none, none, none, none]) trivial (s270_139  h hr)
  · rw [if_neg c1] at h
    refine E_jf rfl rfl c1 ?_
    refine E_blk rfl ?_
    refine E_ps 2 (pc' := 40) (l' := [some (.ref x0), some (.int x1), some (.int x2), some (.long x3), none, some (.long x5), none, some (.int x7), none, none]) (st' := [.int x7, .ref x0]) rfl ?_
    obtain ⟨z5, e6, h⟩ := Option.bind_eq_some_iff.mp h
    refine E_callI (vs := [.ref x0, .int x7]) (rest := []) rfl (by decide) rfl rfl (Nat.le_of_ble_eq_true rfl) (s266 e6) (by decide) ?_
    by_cases c7 : z5.2 = 0
    · rw [if_pos c7] at h
      refine E_jt rfl rfl c7 ?_
      refine E_blk rfl ?_
      refine E_j rfl rfl ?_
      exact E_wk (l' := [some (.ref x0), some (.int x1), some (.int x2), some (.long x3), none, some (.long x5), none, some (.int x7), none, none]) ⟨rfl, rfl, rfl, rfl, rfl, rfl, trivial⟩ (s270_115 k0 h hr)
    · rw [if_neg c7] at h
      refine E_jf rfl rfl c7 ?_
      refine E_blk rfl ?_
      refine E_ps 2 (pc' := 51) (l' := [some (.ref x0), some (.int x1), some (.int x2), some (.long x3), none, some (.long x5), none, some (.int x7), none, none]) (st' := [.int (4 : Int32), .ref x0]) rfl ?_
      obtain ⟨z8, e9, h⟩ := Option.bind_eq_some_iff.mp h
      refine E_callV (vs := [.ref x0, .int (4 : Int32)]) (rest := []) rfl (by decide) rfl rfl (Nat.le_of_ble_eq_true rfl) (s232 e9) (by decide) ?_
      refine E_ps 1 (pc' := 55) (l' := [some (.ref x0), some (.int x1), some (.int x2), some (.long x3), none, some (.long x5), none, some (.int x7), none, none]) (st' := [.ref x0]) rfl ?_
      obtain ⟨z10, e11, h⟩ := Option.bind_eq_some_iff.mp h
      refine E_callL (vs := [.ref x0]) (rest := []) rfl (by decide) rfl rfl (Nat.le_of_ble_eq_true rfl) (s223 e11) (by decide) ?_
      refine E_ps 4 (pc' := 63) (l' := [some (.ref x0), some (.int x1), some (.int x2), some (.long x3), none, some (.long x5), none, some (.int x7), some (.long z10.2), none]) (st' := [.int (lg_cmp x3 (0 : Int64))]) rfl ?_
      by_cases c12 : (lg_cmp x3 (0 : Int64)) < 0
      · rw [if_pos c12] at h
        refine E_jt rfl rfl c12 ?_
        exact E_wk (l' := [some (.ref x0), some (.int x1), some (.int x2), none, none, none, none, some (.int x7), some (.long z10.2), none]) ⟨rfl, rfl, rfl, rfl, rfl, trivial⟩ (s270_106 k0 h hr)
      · rw [if_neg c12] at h
        refine E_jf rfl rfl c12 ?_
        refine E_blk rfl ?_
        refine E_ps 1 (pc' := 67) (l' := [some (.ref x0), some (.int x1), some (.int x2), some (.long x3), none, some (.long x5), none, some (.int x7), some (.long z10.2), none]) (st' := [.int x1]) rfl ?_
        by_cases c13 : x1 = 0
        · rw [if_pos c13] at h
          refine E_jt rfl rfl c13 ?_
          refine E_blk rfl ?_
          refine E_ps 5 (pc' := 95) (l' := [some (.ref x0), some (.int x1), some (.int x2), some (.long x3), none, some (.long x5), none, some (.int x7), some (.long z10.2), none]) (st' := [.ref x0, .long x3, .long (z10.2 * x5)]) rfl ?_
          refine E_gl k0 (by decide) rfl ?_
          refine E_ps 2 (pc' := 100) (l' := [some (.ref x0), some (.int x1), some (.int x2), some (.long x3), none, some (.long x5), none, some (.int x7), some (.long z10.2), none]) (st' := [.int (lg_cmp (z10.2 * x5) (x3 * (z10.1.2 x0 45)))]) rfl ?_
          by_cases c14 : (lg_cmp (z10.2 * x5) (x3 * (z10.1.2 x0 45))) < 0
          · rw [if_pos c14] at h
            refine E_jt rfl rfl c14 ?_
            exact E_wk (l' := [some (.ref x0), some (.int x1), some (.int x2), none, none, none, none, some (.int x7), some (.long z10.2), none]) ⟨rfl, rfl, rfl, rfl, rfl, trivial⟩ (s270_106 k0 h hr)
          · rw [if_neg c14] at h
            refine E_jf rfl rfl c14 ?_
            refine E_blk rfl ?_
            refine E_j rfl rfl ?_
            exact E_wk (l' := [some (.ref x0), some (.int x1), some (.int x2), some (.long x3), none, some (.long x5), none, some (.int x7), none, none]) ⟨rfl, rfl, rfl, rfl, rfl, rfl, trivial⟩ (s270_115 k0 h hr)
        · rw [if_neg c13] at h
          refine E_jf rfl rfl c13 ?_
          refine E_blk rfl ?_
          refine E_ps 5 (pc' := 77) (l' := [some (.ref x0), some (.int x1), some (.int x2), some (.long x3), none, some (.long x5), none, some (.int x7), some (.long z10.2), none]) (st' := [.ref x0, .long x3, .long (z10.2 * x5)]) rfl ?_
          refine E_gl k0 (by decide) rfl ?_
          refine E_ps 2 (pc' := 82) (l' := [some (.ref x0), some (.int x1), some (.int x2), some (.long x3), none, some (.long x5), none, some (.int x7), some (.long z10.2), none]) (st' := [.int (lg_cmp (z10.2 * x5) (x3 * (z10.1.2 x0 45)))]) rfl ?_
          by_cases c15 : 0 < (lg_cmp (z10.2 * x5) (x3 * (z10.1.2 x0 45)))
          · rw [if_pos c15] at h
            refine E_jt rfl rfl c15 ?_
            exact E_wk (l' := [some (.ref x0), some (.int x1), some (.int x2), none, none, none, none, some (.int x7), some (.long z10.2), none]) ⟨rfl, rfl, rfl, rfl, rfl, trivial⟩ (s270_106 k0 h hr)
          · rw [if_neg c15] at h
            refine E_jf rfl rfl c15 ?_
            refine E_blk rfl ?_
            refine E_j rfl rfl ?_
            exact E_wk (l' := [some (.ref x0), some (.int x1), some (.int x2), some (.long x3), none, some (.long x5), none, some (.int x7), none, none]) ⟨rfl, rfl, rfl, rfl, rfl, rfl, trivial⟩ (s270_115 k0 h hr)
theorem s270_29_w {sc : Option (Nat × (Nat → Int32))} {x0 : Nat} {x1 : Int32} {x2 : Int32} {x3 : Int64} {x5 : Int64} {x7 : Int32} {s : xS} {o : xH × Option Value} {r : (xS × Int32)} (k0 : oK x0 12 = true) (h : whl (fun q : (Int64 × Int64 × Int32 × xS) => f270_29 x0 x1 x2 q.1 q.2.1 q.2.2.1 q.2.2.2) (x3, x5, x7, s) = some r) (hr : dn270 o r) : Ev sc 8 270 [] 29 [some (.ref x0), some (.int x1), some (.int x2), some (.long x3), none, some (.long x5), none, some (.int x7), none, none] [] (hk_of s) o := by
  refine whl_snd (E := fun q : (Int64 × Int64 × Int32 × xS) => Ev sc 8 270 [] 29 [some (.ref x0), some (.int x1), some (.int x2), some (.long q.1), none, some (.long q.2.1), none, some (.int q.2.2.1), none, none] [] (hk_of q.2.2.2) o) (P := fun r => dn270 o r) (fun q r h hr => ?_) h hr
  exact s270_29 k0 h (by cases r <;> exact hr)
noncomputable def f270 (x0 : Nat) (x1 : Int32) (x2 : Int32) (s : xS) : Option (xS × Int32) := ifg (oK x0 12 = true) <| (f217 x2 s).bind fun z1 => if z1.2 = 0 then (some (z1.1, (-1 : Int32))) else ((f267 x0 z1.1).bind fun z4 => if z4.2 = 0 then (whl (fun q : (Int64 × Int64 × Int32 × xS) => f270_29 x0 x1 x2 q.1 q.2.1 q.2.2.1 q.2.2.2) ((-1 : Int64), (1 : Int64), (0 : Int32), z4.1)) else (some (z4.1, (-2 : Int32))))
set_option maxRecDepth 20000 in
theorem s270 {sc : Option (Nat × (Nat → Int32))} {x0 : Nat} {x1 : Int32} {x2 : Int32} {s : xS} {r : xS × Int32} (h : f270 x0 x1 x2 s = some r) : Cl sc 8 270 [.ref x0, .int x1, .int x2] (hk_of s) (hk_of r.1, some (.int r.2)) := by
  unfold f270 at h
  obtain ⟨k0, h⟩ := ifg_some h
  refine ⟨pg_md 270, [some (.ref x0), some (.int x1), some (.int x2), none, none, none, none, none, none, none], pg_mt_md (by decide), (hk_rcv k0), rfl, ?_⟩
  generalize ho : ((hk_of r.1, some (Value.int r.2)) : xH × Option Value) = o
  have hr : dn270 o r := ho.symm
  refine E_blk rfl ?_
  refine E_ps 1 (pc' := 1) (l' := [some (.ref x0), some (.int x1), some (.int x2), none, none, none, none, none, none, none]) (st' := [.int x2]) rfl ?_
  obtain ⟨z1, e2, h⟩ := Option.bind_eq_some_iff.mp h
  refine E_callI (vs := [.int x2]) (rest := []) rfl (by decide) rfl rfl (Nat.le_of_ble_eq_true rfl) (s217 e2) (by decide) ?_
  by_cases c3 : z1.2 = 0
  · rw [if_pos c3] at h
    refine E_jt rfl rfl c3 ?_
    refine E_blk rfl ?_
    refine E_ps 1 (pc' := 8) (l' := [some (.ref x0), some (.int x1), some (.int x2), none, none, none, none, none, none, none]) (st' := [.int (-1 : Int32)]) rfl ?_
    cases h
    exact E_ret rfl (pg_mt_md (by decide)) rfl hr
  · rw [if_neg c3] at h
    refine E_jf rfl rfl c3 ?_
    refine E_blk rfl ?_
    refine E_ps 1 (pc' := 10) (l' := [some (.ref x0), some (.int x1), some (.int x2), none, none, none, none, none, none, none]) (st' := [.ref x0]) rfl ?_
    obtain ⟨z4, e5, h⟩ := Option.bind_eq_some_iff.mp h
    refine E_callI (vs := [.ref x0]) (rest := []) rfl (by decide) rfl rfl (Nat.le_of_ble_eq_true rfl) (s267 e5) (by decide) ?_
    by_cases c6 : z4.2 = 0
    · rw [if_pos c6] at h
      refine E_jt rfl rfl c6 ?_
      refine E_blk rfl ?_
      refine E_ps 6 (pc' := 29) (l' := [some (.ref x0), some (.int x1), some (.int x2), some (.long (-1 : Int64)), none, some (.long (1 : Int64)), none, some (.int (0 : Int32)), none, none]) (st' := []) rfl ?_
      exact E_wk (l' := [some (.ref x0), some (.int x1), some (.int x2), some (.long (-1 : Int64)), none, some (.long (1 : Int64)), none, some (.int (0 : Int32)), none, none]) ⟨rfl, rfl, rfl, rfl, rfl, rfl, trivial⟩ (s270_29_w k0 h hr)
    · rw [if_neg c6] at h
      refine E_jf rfl rfl c6 ?_
      refine E_blk rfl ?_
      refine E_ps 1 (pc' := 18) (l' := [some (.ref x0), some (.int x1), some (.int x2), none, none, none, none, none, none, none]) (st' := [.int (-2 : Int32)]) rfl ?_
      cases h
      exact E_ret rfl (pg_mt_md (by decide)) rfl hr

-- 271: ThreePlatesModel.unlike(II)I
def dn271 (o : xH × Option Value) (r : xS × Int32) : Prop := o = (hk_of r.1, some (.int r.2))
def dn271_5 (sc : Option (Nat × (Nat → Int32))) (x0 : Nat) (x1 : Int32) (x2 : Int32) (o : xH × Option Value) (r : ((Int32 × Int32 × xS) ⊕ (xS × Int32))) : Prop := match r with
  | .inl q => Ev sc 8 271 [] 5 [some (.ref x0), some (.int x1), some (.int x2), some (.int q.1), some (.int q.2.1), none, none] [] (hk_of q.2.2) o
  | .inr r => dn271 o r
def dn271_38 (sc : Option (Nat × (Nat → Int32))) (x0 : Nat) (x1 : Int32) (x2 : Int32) (x3 : Int32) (x4 : Int32) (x5 : Int32) (o : xH × Option Value) (r : ((Int32 × xS) ⊕ ((Int32 × Int32 × xS) ⊕ (xS × Int32)))) : Prop := match r with
  | .inl q => Ev sc 8 271 [] 38 [some (.ref x0), some (.int x1), some (.int x2), some (.int x3), some (.int x4), some (.int x5), some (.int q.1)] [] (hk_of q.2) o
  | .inr r => dn271_5 sc x0 x1 x2 o r
noncomputable def f271_85 (x0 : Nat) (x1 : Int32) (x2 : Int32) (x3 : Int32) (x4 : Int32) (s : xS) : Option ((Int32 × Int32 × xS) ⊕ (xS × Int32)) := some (Sum.inl (x3, (x4 + (1 : Int32)), s))
set_option maxRecDepth 20000 in
theorem s271_85 {sc : Option (Nat × (Nat → Int32))} {x0 : Nat} {x1 : Int32} {x2 : Int32} {x3 : Int32} {x4 : Int32} {s : xS} {o : xH × Option Value} {r : ((Int32 × Int32 × xS) ⊕ (xS × Int32))} (k0 : oK x0 12 = true) (h : f271_85 x0 x1 x2 x3 x4 s = some r) (hr : dn271_5 sc x0 x1 x2 o r) : Ev sc 8 271 [] 85 [some (.ref x0), some (.int x1), some (.int x2), some (.int x3), some (.int x4), none, none] [] (hk_of s) o := by
  unfold f271_85 at h
  refine E_blk rfl ?_
  refine E_ps 1 (pc' := 88) (l' := [some (.ref x0), some (.int x1), some (.int x2), some (.int x3), some (.int (x4 + (1 : Int32))), none, none]) (st' := []) rfl ?_
  refine E_j rfl rfl ?_
  cases h
  exact E_wk (l' := [some (.ref x0), some (.int x1), some (.int x2), some (.int x3), some (.int (x4 + (1 : Int32))), none, none]) ⟨rfl, rfl, rfl, rfl, rfl, trivial⟩ hr
noncomputable def f271_84 (x0 : Nat) (x1 : Int32) (x2 : Int32) (x4 : Int32) (y0 : Int32) (s : xS) : Option ((Int32 × Int32 × xS) ⊕ (xS × Int32)) := f271_85 x0 x1 x2 y0 x4 s
set_option maxRecDepth 20000 in
theorem s271_84 {sc : Option (Nat × (Nat → Int32))} {x0 : Nat} {x1 : Int32} {x2 : Int32} {x4 : Int32} {y0 : Int32} {s : xS} {o : xH × Option Value} {r : ((Int32 × Int32 × xS) ⊕ (xS × Int32))} (k0 : oK x0 12 = true) (h : f271_84 x0 x1 x2 x4 y0 s = some r) (hr : dn271_5 sc x0 x1 x2 o r) : Ev sc 8 271 [] 84 [some (.ref x0), some (.int x1), some (.int x2), none, some (.int x4), none, none] [.int y0] (hk_of s) o := by
  unfold f271_84 at h
  refine E_blk rfl ?_
  refine E_ps 1 (pc' := 85) (l' := [some (.ref x0), some (.int x1), some (.int x2), some (.int y0), some (.int x4), none, none]) (st' := []) rfl ?_
  exact E_wk (l' := [some (.ref x0), some (.int x1), some (.int x2), some (.int y0), some (.int x4), none, none]) ⟨rfl, rfl, rfl, rfl, rfl, trivial⟩ (s271_85 k0 h hr)
noncomputable def f271_62 (x0 : Nat) (x1 : Int32) (x2 : Int32) (x3 : Int32) (x4 : Int32) (x5 : Int32) (x6 : Int32) (s : xS) : Option ((Int32 × Int32 × xS) ⊕ (xS × Int32)) := (hk_R x0 70).bind fun a1 => (wI s a1 x6 x5).bind fun t3 => if x6 = x3 then (f271_84 x0 x1 x2 x4 (x3 + (1 : Int32)) t3) else (f271_84 x0 x1 x2 x4 x3 t3)
set_option maxRecDepth 20000 in
theorem s271_62 {sc : Option (Nat × (Nat → Int32))} {x0 : Nat} {x1 : Int32} {x2 : Int32} {x3 : Int32} {x4 : Int32} {x5 : Int32} {x6 : Int32} {s : xS} {o : xH × Option Value} {r : ((Int32 × Int32 × xS) ⊕ (xS × Int32))} (k0 : oK x0 12 = true) (h : f271_62 x0 x1 x2 x3 x4 x5 x6 s = some r) (hr : dn271_5 sc x0 x1 x2 o r) : Ev sc 8 271 [] 62 [some (.ref x0), some (.int x1), some (.int x2), some (.int x3), some (.int x4), some (.int x5), some (.int x6)] [] (hk_of s) o := by
  unfold f271_62 at h
  refine E_blk rfl ?_
  refine E_ps 1 (pc' := 63) (l' := [some (.ref x0), some (.int x1), some (.int x2), some (.int x3), some (.int x4), some (.int x5), some (.int x6)]) (st' := [.ref x0]) rfl ?_
  obtain ⟨a1, e2, h⟩ := Option.bind_eq_some_iff.mp h
  refine E_gr k0 (by decide) rfl e2 ?_
  refine E_ps 2 (pc' := 70) (l' := [some (.ref x0), some (.int x1), some (.int x2), some (.int x3), some (.int x4), some (.int x5), some (.int x6)]) (st' := [.int x5, .int x6, .ref a1]) rfl ?_
  obtain ⟨t3, e4, h⟩ := Option.bind_eq_some_iff.mp h
  refine E_wi e4 ?_
  refine E_ps 2 (pc' := 74) (l' := [some (.ref x0), some (.int x1), some (.int x2), some (.int x3), some (.int x4), some (.int x5), some (.int x6)]) (st' := [.int x3, .int x6]) rfl ?_
  by_cases c5 : x6 = x3
  · rw [if_pos c5] at h
    refine E_jt rfl rfl c5 ?_
    refine E_blk rfl ?_
    refine E_ps 3 (pc' := 80) (l' := [some (.ref x0), some (.int x1), some (.int x2), some (.int x3), some (.int x4), some (.int x5), some (.int x6)]) (st' := [.int (x3 + (1 : Int32))]) rfl ?_
    refine E_j rfl rfl ?_
    exact E_wk (l' := [some (.ref x0), some (.int x1), some (.int x2), none, some (.int x4), none, none]) ⟨rfl, rfl, rfl, rfl, trivial⟩ (s271_84 k0 h hr)
  · rw [if_neg c5] at h
    refine E_jf rfl rfl c5 ?_
    refine E_blk rfl ?_
    refine E_ps 1 (pc' := 84) (l' := [some (.ref x0), some (.int x1), some (.int x2), some (.int x3), some (.int x4), some (.int x5), some (.int x6)]) (st' := [.int x3]) rfl ?_
    exact E_wk (l' := [some (.ref x0), some (.int x1), some (.int x2), none, some (.int x4), none, none]) ⟨rfl, rfl, rfl, rfl, trivial⟩ (s271_84 k0 h hr)
noncomputable def f271_38 (x0 : Nat) (x1 : Int32) (x2 : Int32) (x3 : Int32) (x4 : Int32) (x5 : Int32) (x6 : Int32) (s : xS) : Option ((Int32 × xS) ⊕ ((Int32 × Int32 × xS) ⊕ (xS × Int32))) := if x3 ≤ x6 then (Option.map Sum.inr (f271_62 x0 x1 x2 x3 x4 x5 x6 s)) else ((hk_R x0 70).bind fun a2 => (aI s a2 x6).bind fun v4 => if v4 = x5 then (Option.map Sum.inr (f271_62 x0 x1 x2 x3 x4 x5 x6 s)) else (some (Sum.inl ((x6 + (1 : Int32)), s))))
set_option maxRecDepth 20000 in
theorem s271_38 {sc : Option (Nat × (Nat → Int32))} {x0 : Nat} {x1 : Int32} {x2 : Int32} {x3 : Int32} {x4 : Int32} {x5 : Int32} {x6 : Int32} {s : xS} {o : xH × Option Value} {r : ((Int32 × xS) ⊕ ((Int32 × Int32 × xS) ⊕ (xS × Int32)))} (k0 : oK x0 12 = true) (h : f271_38 x0 x1 x2 x3 x4 x5 x6 s = some r) (hr : dn271_38 sc x0 x1 x2 x3 x4 x5 o r) : Ev sc 8 271 [] 38 [some (.ref x0), some (.int x1), some (.int x2), some (.int x3), some (.int x4), some (.int x5), some (.int x6)] [] (hk_of s) o := by
  unfold f271_38 at h
  refine E_blk rfl ?_
  refine E_ps 2 (pc' := 41) (l' := [some (.ref x0), some (.int x1), some (.int x2), some (.int x3), some (.int x4), some (.int x5), some (.int x6)]) (st' := [.int x3, .int x6]) rfl ?_
  by_cases c1 : x3 ≤ x6
  · rw [if_pos c1] at h
    refine E_jt rfl rfl c1 ?_
    obtain ⟨r, h, hr⟩ := lf_some (Dn := dn271_38 sc x0 x1 x2 x3 x4 x5 o) h hr
    exact E_wk (l' := [some (.ref x0), some (.int x1), some (.int x2), some (.int x3), some (.int x4), some (.int x5), some (.int x6)]) ⟨rfl, rfl, rfl, rfl, rfl, rfl, rfl, trivial⟩ (s271_62 k0 h hr)
  · rw [if_neg c1] at h
    refine E_jf rfl rfl c1 ?_
    refine E_blk rfl ?_
    refine E_ps 1 (pc' := 45) (l' := [some (.ref x0), some (.int x1), some (.int x2), some (.int x3), some (.int x4), some (.int x5), some (.int x6)]) (st' := [.ref x0]) rfl ?_
    obtain ⟨a2, e3, h⟩ := Option.bind_eq_some_iff.mp h
    refine E_gr k0 (by decide) rfl e3 ?_
    refine E_ps 1 (pc' := 50) (l' := [some (.ref x0), some (.int x1), some (.int x2), some (.int x3), some (.int x4), some (.int x5), some (.int x6)]) (st' := [.int x6, .ref a2]) rfl ?_
    obtain ⟨v4, e5, h⟩ := Option.bind_eq_some_iff.mp h
    refine E_ai e5 ?_
    refine E_ps 1 (pc' := 53) (l' := [some (.ref x0), some (.int x1), some (.int x2), some (.int x3), some (.int x4), some (.int x5), some (.int x6)]) (st' := [.int x5, .int v4]) rfl ?_
    by_cases c6 : v4 = x5
    · rw [if_pos c6] at h
      refine E_jt rfl rfl c6 ?_
      obtain ⟨r, h, hr⟩ := lf_some (Dn := dn271_38 sc x0 x1 x2 x3 x4 x5 o) h hr
      exact E_wk (l' := [some (.ref x0), some (.int x1), some (.int x2), some (.int x3), some (.int x4), some (.int x5), some (.int x6)]) ⟨rfl, rfl, rfl, rfl, rfl, rfl, rfl, trivial⟩ (s271_62 k0 h hr)
    · rw [if_neg c6] at h
      refine E_jf rfl rfl c6 ?_
      refine E_blk rfl ?_
      refine E_ps 1 (pc' := 59) (l' := [some (.ref x0), some (.int x1), some (.int x2), some (.int x3), some (.int x4), some (.int x5), some (.int (x6 + (1 : Int32)))]) (st' := []) rfl ?_
      refine E_j rfl rfl ?_
      cases h
      exact E_wk (l' := [some (.ref x0), some (.int x1), some (.int x2), some (.int x3), some (.int x4), some (.int x5), some (.int (x6 + (1 : Int32)))]) ⟨rfl, rfl, rfl, rfl, rfl, rfl, rfl, trivial⟩ hr
theorem s271_38_w {sc : Option (Nat × (Nat → Int32))} {x0 : Nat} {x1 : Int32} {x2 : Int32} {x3 : Int32} {x4 : Int32} {x5 : Int32} {x6 : Int32} {s : xS} {o : xH × Option Value} {r : ((Int32 × Int32 × xS) ⊕ (xS × Int32))} (k0 : oK x0 12 = true) (h : whl (fun q : (Int32 × xS) => f271_38 x0 x1 x2 x3 x4 x5 q.1 q.2) (x6, s) = some r) (hr : dn271_5 sc x0 x1 x2 o r) : Ev sc 8 271 [] 38 [some (.ref x0), some (.int x1), some (.int x2), some (.int x3), some (.int x4), some (.int x5), some (.int x6)] [] (hk_of s) o := by
  refine whl_snd (E := fun q : (Int32 × xS) => Ev sc 8 271 [] 38 [some (.ref x0), some (.int x1), some (.int x2), some (.int x3), some (.int x4), some (.int x5), some (.int q.1)] [] (hk_of q.2) o) (P := fun r => dn271_5 sc x0 x1 x2 o r) (fun q r h hr => ?_) h hr
  exact s271_38 k0 h (by cases r <;> exact hr)
noncomputable def f271_5 (x0 : Nat) (x1 : Int32) (x2 : Int32) (x3 : Int32) (x4 : Int32) (s : xS) : Option ((Int32 × Int32 × xS) ⊕ (xS × Int32)) := if (343 : Int32) ≤ x4 then (Option.map Sum.inr (some (s, x3))) else ((f266 x0 x4 s).bind fun z2 => if z2.2 = 0 then (f271_85 x0 x1 x2 x3 x4 z2.1) else ((f265 x0 x1 x2 (0 : Int32) (0 : Int32) z2.1).bind fun z5 => whl (fun q : (Int32 × xS) => f271_38 x0 x1 x2 x3 x4 z5.2 q.1 q.2) ((0 : Int32), z5.1)))
set_option maxRecDepth 20000 in
theorem s271_5 {sc : Option (Nat × (Nat → Int32))} {x0 : Nat} {x1 : Int32} {x2 : Int32} {x3 : Int32} {x4 : Int32} {s : xS} {o : xH × Option Value} {r : ((Int32 × Int32 × xS) ⊕ (xS × Int32))} (k0 : oK x0 12 = true) (h : f271_5 x0 x1 x2 x3 x4 s = some r) (hr : dn271_5 sc x0 x1 x2 o r) : Ev sc 8 271 [] 5 [some (.ref x0), some (.int x1), some (.int x2), some (.int x3), some (.int x4), none, none] [] (hk_of s) o := by
  unfold f271_5 at h
  refine E_blk rfl ?_
  refine E_ps 2 (pc' := 10) (l' := [some (.ref x0), some (.int x1), some (.int x2), some (.int x3), some (.int x4), none, none]) (st' := [.int (343 : Int32), .int x4]) rfl ?_
  by_cases c1 : (343 : Int32) ≤ x4
  · rw [if_pos c1] at h
    refine E_jt rfl rfl c1 ?_
    obtain ⟨r, h, hr⟩ := lf_some (Dn := dn271_5 sc x0 x1 x2 o) h hr
    refine E_blk rfl ?_
    refine E_ps 1 (pc' := 92) (l' := [some (.ref x0), some (.int x1), some (.int x2), some (.int x3), some (.int x4), none, none]) (st' := [.int x3]) rfl ?_
    cases h
    exact E_ret rfl (pg_mt_md (by decide)) rfl hr
  · rw [if_neg c1] at h
    refine E_jf rfl rfl c1 ?_
    refine E_blk rfl ?_
    refine E_ps 2 (pc' := 16) (l' := [some (.ref x0), some (.int x1), some (.int x2), some (.int x3), some (.int x4), none, none]) (st' := [.int x4, .ref x0]) rfl ?_
    obtain ⟨z2, e3, h⟩ := Option.bind_eq_some_iff.mp h
    refine E_callI (vs := [.ref x0, .int x4]) (rest := []) rfl (by decide) rfl rfl (Nat.le_of_ble_eq_true rfl) (s266 e3) (by decide) ?_
    by_cases c4 : z2.2 = 0
    · rw [if_pos c4] at h
      refine E_jt rfl rfl c4 ?_
      refine E_blk rfl ?_
      refine E_j rfl rfl ?_
      exact E_wk (l' := [some (.ref x0), some (.int x1), some (.int x2), some (.int x3), some (.int x4), none, none]) ⟨rfl, rfl, rfl, rfl, rfl, trivial⟩ (s271_85 k0 h hr)
    · rw [if_neg c4] at h
      refine E_jf rfl rfl c4 ?_
      refine E_blk rfl ?_
      refine E_ps 5 (pc' := 30) (l' := [some (.ref x0), some (.int x1), some (.int x2), some (.int x3), some (.int x4), none, none]) (st' := [.int (0 : Int32), .int (0 : Int32), .int x2, .int x1, .ref x0]) rfl ?_
      obtain ⟨z5, e6, h⟩ := Option.bind_eq_some_iff.mp h
      refine E_callI (vs := [.ref x0, .int x1, .int x2, .int (0 : Int32), .int (0 : Int32)]) (rest := []) rfl (by decide) rfl rfl (Nat.le_of_ble_eq_true rfl) (s265 e6) (by decide) ?_
      refine E_ps 3 (pc' := 38) (l' := [some (.ref x0), some (.int x1), some (.int x2), some (.int x3), some (.int x4), some (.int z5.2), some (.int (0 : Int32))]) (st' := []) rfl ?_
      exact E_wk (l' := [some (.ref x0), some (.int x1), some (.int x2), some (.int x3), some (.int x4), some (.int z5.2), some (.int (0 : Int32))]) ⟨rfl, rfl, rfl, rfl, rfl, rfl, rfl, trivial⟩ (s271_38_w k0 h hr)
theorem s271_5_w {sc : Option (Nat × (Nat → Int32))} {x0 : Nat} {x1 : Int32} {x2 : Int32} {x3 : Int32} {x4 : Int32} {s : xS} {o : xH × Option Value} {r : (xS × Int32)} (k0 : oK x0 12 = true) (h : whl (fun q : (Int32 × Int32 × xS) => f271_5 x0 x1 x2 q.1 q.2.1 q.2.2) (x3, x4, s) = some r) (hr : dn271 o r) : Ev sc 8 271 [] 5 [some (.ref x0), some (.int x1), some (.int x2), some (.int x3), some (.int x4), none, none] [] (hk_of s) o := by
  refine whl_snd (E := fun q : (Int32 × Int32 × xS) => Ev sc 8 271 [] 5 [some (.ref x0), some (.int x1), some (.int x2), some (.int q.1), some (.int q.2.1), none, none] [] (hk_of q.2.2) o) (P := fun r => dn271 o r) (fun q r h hr => ?_) h hr
  exact s271_5 k0 h (by cases r <;> exact hr)
noncomputable def f271 (x0 : Nat) (x1 : Int32) (x2 : Int32) (s : xS) : Option (xS × Int32) := ifg (oK x0 12 = true) <| whl (fun q : (Int32 × Int32 × xS) => f271_5 x0 x1 x2 q.1 q.2.1 q.2.2) ((0 : Int32), (0 : Int32), s)
set_option maxRecDepth 20000 in
theorem s271 {sc : Option (Nat × (Nat → Int32))} {x0 : Nat} {x1 : Int32} {x2 : Int32} {s : xS} {r : xS × Int32} (h : f271 x0 x1 x2 s = some r) : Cl sc 8 271 [.ref x0, .int x1, .int x2] (hk_of s) (hk_of r.1, some (.int r.2)) := by
  unfold f271 at h
  obtain ⟨k0, h⟩ := ifg_some h
  refine ⟨pg_md 271, [some (.ref x0), some (.int x1), some (.int x2), none, none, none, none], pg_mt_md (by decide), (hk_rcv k0), rfl, ?_⟩
  generalize ho : ((hk_of r.1, some (Value.int r.2)) : xH × Option Value) = o
  have hr : dn271 o r := ho.symm
  refine E_blk rfl ?_
  refine E_ps 4 (pc' := 5) (l' := [some (.ref x0), some (.int x1), some (.int x2), some (.int (0 : Int32)), some (.int (0 : Int32)), none, none]) (st' := []) rfl ?_
  exact E_wk (l' := [some (.ref x0), some (.int x1), some (.int x2), some (.int (0 : Int32)), some (.int (0 : Int32)), none, none]) ⟨rfl, rfl, rfl, rfl, rfl, trivial⟩ (s271_5_w k0 h hr)

-- 272: ThreePlatesModel.ask(I)I
def dn272 (o : xH × Option Value) (r : xS × Int32) : Prop := o = (hk_of r.1, some (.int r.2))
def dn272_40 (sc : Option (Nat × (Nat → Int32))) (x0 : Nat) (x1 : Int32) (o : xH × Option Value) (r : ((Int32 × Int32 × Int32 × xS) ⊕ (xS × Int32))) : Prop := match r with
  | .inl q => Ev sc 9 272 [] 40 [some (.ref x0), some (.int x1), some (.int q.1), some (.int q.2.1), some (.int q.2.2.1), none] [] (hk_of q.2.2.2) o
  | .inr r => dn272 o r
noncomputable def f272_121 (y0 : Int32) (s : xS) : Option (xS × Int32) := some (s, y0)
set_option maxRecDepth 20000 in
theorem s272_121 {sc : Option (Nat × (Nat → Int32))} {y0 : Int32} {s : xS} {o : xH × Option Value} {r : (xS × Int32)}  (h : f272_121 y0 s = some r) (hr : dn272 o r) : Ev sc 9 272 [] 121 [none, none, none, none, none, none] [.int y0] (hk_of s) o := by
  unfold f272_121 at h
  refine E_blk rfl ?_
  cases h
  exact E_ret rfl (pg_mt_md (by decide)) rfl hr
noncomputable def f272_85 (x0 : Nat) (x1 : Int32) (x2 : Int32) (x3 : Int32) (x4 : Int32) (s : xS) : Option ((Int32 × Int32 × Int32 × xS) ⊕ (xS × Int32)) := some (Sum.inl (x2, x3, (x4 + (1 : Int32)), s))
set_option maxRecDepth 20000 in
theorem s272_85 {sc : Option (Nat × (Nat → Int32))} {x0 : Nat} {x1 : Int32} {x2 : Int32} {x3 : Int32} {x4 : Int32} {s : xS} {o : xH × Option Value} {r : ((Int32 × Int32 × Int32 × xS) ⊕ (xS × Int32))} (k0 : oK x0 12 = true) (h : f272_85 x0 x1 x2 x3 x4 s = some r) (hr : dn272_40 sc x0 x1 o r) : Ev sc 9 272 [] 85 [some (.ref x0), some (.int x1), some (.int x2), some (.int x3), some (.int x4), none] [] (hk_of s) o := by
  unfold f272_85 at h
  refine E_blk rfl ?_
  refine E_ps 1 (pc' := 88) (l' := [some (.ref x0), some (.int x1), some (.int x2), some (.int x3), some (.int (x4 + (1 : Int32))), none]) (st' := []) rfl ?_
  refine E_j rfl rfl ?_
  cases h
  exact E_wk (l' := [some (.ref x0), some (.int x1), some (.int x2), some (.int x3), some (.int (x4 + (1 : Int32))), none]) ⟨rfl, rfl, rfl, rfl, rfl, trivial⟩ hr
noncomputable def f272_40 (x0 : Nat) (x1 : Int32) (x2 : Int32) (x3 : Int32) (x4 : Int32) (s : xS) : Option ((Int32 × Int32 × Int32 × xS) ⊕ (xS × Int32)) := (hk_R x0 12).bind fun a1 => (aI s a1 (s.1 x0 25)).bind fun v3 => if ((4 : Int32) * v3) ≤ x4 then (Option.map Sum.inr (if 0 ≤ x2 then (if x1 = 0 then (f272_121 (x2 / (4 : Int32)) s) else (if x1 = (1 : Int32) then (f272_121 (irm x2 (4 : Int32)) s) else (f272_121 x3 s))) else (f272_121 (-1 : Int32) s))) else ((f271 x0 (x4 / (4 : Int32)) (irm x4 (4 : Int32)) s).bind fun z9 => if x3 < z9.2 then (f272_85 x0 x1 x4 z9.2 x4 z9.1) else (f272_85 x0 x1 x2 x3 x4 z9.1))
set_option maxRecDepth 20000 in
theorem s272_40 {sc : Option (Nat × (Nat → Int32))} {x0 : Nat} {x1 : Int32} {x2 : Int32} {x3 : Int32} {x4 : Int32} {s : xS} {o : xH × Option Value} {r : ((Int32 × Int32 × Int32 × xS) ⊕ (xS × Int32))} (k0 : oK x0 12 = true) (h : f272_40 x0 x1 x2 x3 x4 s = some r) (hr : dn272_40 sc x0 x1 o r) : Ev sc 9 272 [] 40 [some (.ref x0), some (.int x1), some (.int x2), some (.int x3), some (.int x4), none] [] (hk_of s) o := by
  unfold f272_40 at h
  refine E_blk rfl ?_
  refine E_ps 3 (pc' := 44) (l' := [some (.ref x0), some (.int x1), some (.int x2), some (.int x3), some (.int x4), none]) (st' := [.ref x0, .int (4 : Int32), .int x4]) rfl ?_
  obtain ⟨a1, e2, h⟩ := Option.bind_eq_some_iff.mp h
  refine E_gr k0 (by decide) rfl e2 ?_
  refine E_ps 1 (pc' := 48) (l' := [some (.ref x0), some (.int x1), some (.int x2), some (.int x3), some (.int x4), none]) (st' := [.ref x0, .ref a1, .int (4 : Int32), .int x4]) rfl ?_
  refine E_gi k0 (by decide) rfl ?_
  obtain ⟨v3, e4, h⟩ := Option.bind_eq_some_iff.mp h
  refine E_ai e4 ?_
  refine E_ps 1 (pc' := 53) (l' := [some (.ref x0), some (.int x1), some (.int x2), some (.int x3), some (.int x4), none]) (st' := [.int ((4 : Int32) * v3), .int x4]) rfl ?_
  by_cases c5 : ((4 : Int32) * v3) ≤ x4
  · rw [if_pos c5] at h
    refine E_jt rfl rfl c5 ?_
    obtain ⟨r, h, hr⟩ := lf_some (Dn := dn272_40 sc x0 x1 o) h hr
    refine E_blk rfl ?_
    refine E_ps 1 (pc' := 92) (l' := [some (.ref x0), some (.int x1), some (.int x2), some (.int x3), some (.int x4), none]) (st' := [.int x2]) rfl ?_
    by_cases c6 : 0 ≤ x2
    · rw [if_pos c6] at h
      refine E_jt rfl rfl c6 ?_
      refine E_blk rfl ?_
      refine E_ps 1 (pc' := 100) (l' := [some (.ref x0), some (.int x1), some (.int x2), some (.int x3), some (.int x4), none]) (st' := [.int x1]) rfl ?_
      by_cases c7 : x1 = 0
      · rw [if_pos c7] at h
        refine E_jt rfl rfl c7 ?_
        refine E_blk rfl ?_
        refine E_ps 2 (pc' := 105) (l' := [some (.ref x0), some (.int x1), some (.int x2), some (.int x3), some (.int x4), none]) (st' := [.int (4 : Int32), .int x2]) rfl ?_
        refine E_idiv (by decide) ?_
        refine E_j rfl rfl ?_
        exact E_wk (l' := [none, none, none, none, none, none]) trivial (s272_121  h hr)
      · rw [if_neg c7] at h
        refine E_jf rfl rfl c7 ?_
        refine E_blk rfl ?_
        refine E_ps 2 (pc' := 111) (l' := [some (.ref x0), some (.int x1), some (.int x2), some (.int x3), some (.int x4), none]) (st' := [.int (1 : Int32), .int x1]) rfl ?_
        by_cases c8 : x1 = (1 : Int32)
        · rw [if_pos c8] at h
          refine E_jt rfl rfl c8 ?_
          refine E_blk rfl ?_
          refine E_ps 2 (pc' := 116) (l' := [some (.ref x0), some (.int x1), some (.int x2), some (.int x3), some (.int x4), none]) (st' := [.int (4 : Int32), .int x2]) rfl ?_
          refine E_irem (by decide) ?_
          refine E_j rfl rfl ?_
          exact E_wk (l' := [none, none, none, none, none, none]) trivial (s272_121  h hr)
        · rw [if_neg c8] at h
          refine E_jf rfl rfl c8 ?_
          refine E_blk rfl ?_
          refine E_ps 1 (pc' := 121) (l' := [some (.ref x0), some (.int x1), some (.int x2), some (.int x3), some (.int x4), none]) (st' := [.int x3]) rfl ?_
          exact E_wk (l' := [none, none, none, none, none, none]) trivial (s272_121  h hr)
    · rw [if_neg c6] at h
      refine E_jf rfl rfl c6 ?_
      refine E_blk rfl ?_
      refine E_ps 1 (pc' := 96) (l' := [some (.ref x0), some (.int x1), some (.int x2), some (.int x3), some (.int x4), none]) (st' := [.int (-1 : Int32)]) rfl ?_
      refine E_j rfl rfl ?_
      exact E_wk (l' := [none, none, none, none, none, none]) trivial (s272_121  h hr)
  · rw [if_neg c5] at h
    refine E_jf rfl rfl c5 ?_
    refine E_blk rfl ?_
    refine E_ps 3 (pc' := 60) (l' := [some (.ref x0), some (.int x1), some (.int x2), some (.int x3), some (.int x4), none]) (st' := [.int (4 : Int32), .int x4, .ref x0]) rfl ?_
    refine E_idiv (by decide) ?_
    refine E_ps 2 (pc' := 64) (l' := [some (.ref x0), some (.int x1), some (.int x2), some (.int x3), some (.int x4), none]) (st' := [.int (4 : Int32), .int x4, .int (x4 / (4 : Int32)), .ref x0]) rfl ?_
    refine E_irem (by decide) ?_
    obtain ⟨z9, e10, h⟩ := Option.bind_eq_some_iff.mp h
    refine E_callI (vs := [.ref x0, .int (x4 / (4 : Int32)), .int (irm x4 (4 : Int32))]) (rest := []) rfl (by decide) rfl rfl (Nat.le_of_ble_eq_true rfl) (s271 e10) (by decide) ?_
    refine E_ps 3 (pc' := 73) (l' := [some (.ref x0), some (.int x1), some (.int x2), some (.int x3), some (.int x4), some (.int z9.2)]) (st' := [.int x3, .int z9.2]) rfl ?_
    by_cases c11 : x3 < z9.2
    · rw [if_pos c11] at h
      refine E_jt rfl rfl c11 ?_
      refine E_blk rfl ?_
      refine E_ps 4 (pc' := 85) (l' := [some (.ref x0), some (.int x1), some (.int x4), some (.int z9.2), some (.int x4), some (.int z9.2)]) (st' := []) rfl ?_
      exact E_wk (l' := [some (.ref x0), some (.int x1), some (.int x4), some (.int z9.2), some (.int x4), none]) ⟨rfl, rfl, rfl, rfl, rfl, trivial⟩ (s272_85 k0 h hr)
    · rw [if_neg c11] at h
      refine E_jf rfl rfl c11 ?_
      refine E_blk rfl ?_
      refine E_j rfl rfl ?_
      exact E_wk (l' := [some (.ref x0), some (.int x1), some (.int x2), some (.int x3), some (.int x4), none]) ⟨rfl, rfl, rfl, rfl, rfl, trivial⟩ (s272_85 k0 h hr)
theorem s272_40_w {sc : Option (Nat × (Nat → Int32))} {x0 : Nat} {x1 : Int32} {x2 : Int32} {x3 : Int32} {x4 : Int32} {s : xS} {o : xH × Option Value} {r : (xS × Int32)} (k0 : oK x0 12 = true) (h : whl (fun q : (Int32 × Int32 × Int32 × xS) => f272_40 x0 x1 q.1 q.2.1 q.2.2.1 q.2.2.2) (x2, x3, x4, s) = some r) (hr : dn272 o r) : Ev sc 9 272 [] 40 [some (.ref x0), some (.int x1), some (.int x2), some (.int x3), some (.int x4), none] [] (hk_of s) o := by
  refine whl_snd (E := fun q : (Int32 × Int32 × Int32 × xS) => Ev sc 9 272 [] 40 [some (.ref x0), some (.int x1), some (.int q.1), some (.int q.2.1), some (.int q.2.2.1), none] [] (hk_of q.2.2.2) o) (P := fun r => dn272 o r) (fun q r h hr => ?_) h hr
  exact s272_40 k0 h (by cases r <;> exact hr)
noncomputable def f272_21  (s : xS) : Option (xS × Int32) := some (s, (-1 : Int32))
set_option maxRecDepth 20000 in
theorem s272_21 {sc : Option (Nat × (Nat → Int32))}  {s : xS} {o : xH × Option Value} {r : (xS × Int32)}  (h : f272_21  s = some r) (hr : dn272 o r) : Ev sc 9 272 [] 21 [none, none, none, none, none, none] [] (hk_of s) o := by
  unfold f272_21 at h
  refine E_blk rfl ?_
  refine E_ps 1 (pc' := 22) (l' := [none, none, none, none, none, none]) (st' := [.int (-1 : Int32)]) rfl ?_
  cases h
  exact E_ret rfl (pg_mt_md (by decide)) rfl hr
noncomputable def f272 (x0 : Nat) (x1 : Int32) (s : xS) : Option (xS × Int32) := ifg (oK x0 12 = true) <| (f195 x1 (0 : Int32) (2 : Int32) s).bind fun z1 => if z1.2 = 0 then (f272_21  z1.1) else ((hk_R x0 12).bind fun a4 => (aI z1.1 a4 (z1.1.1 x0 25)).bind fun v6 => if v6 = 0 then (f272_21  z1.1) else ((f267 x0 z1.1).bind fun z9 => if z9.2 = 0 then (whl (fun q : (Int32 × Int32 × Int32 × xS) => f272_40 x0 x1 q.1 q.2.1 q.2.2.1 q.2.2.2) ((-1 : Int32), (0 : Int32), (0 : Int32), z9.1)) else (some (z9.1, (-2 : Int32)))))
set_option maxRecDepth 20000 in
theorem s272 {sc : Option (Nat × (Nat → Int32))} {x0 : Nat} {x1 : Int32} {s : xS} {r : xS × Int32} (h : f272 x0 x1 s = some r) : Cl sc 9 272 [.ref x0, .int x1] (hk_of s) (hk_of r.1, some (.int r.2)) := by
  unfold f272 at h
  obtain ⟨k0, h⟩ := ifg_some h
  refine ⟨pg_md 272, [some (.ref x0), some (.int x1), none, none, none, none], pg_mt_md (by decide), (hk_rcv k0), rfl, ?_⟩
  generalize ho : ((hk_of r.1, some (Value.int r.2)) : xH × Option Value) = o
  have hr : dn272 o r := ho.symm
  refine E_blk rfl ?_
  refine E_ps 3 (pc' := 3) (l' := [some (.ref x0), some (.int x1), none, none, none, none]) (st' := [.int (2 : Int32), .int (0 : Int32), .int x1]) rfl ?_
  obtain ⟨z1, e2, h⟩ := Option.bind_eq_some_iff.mp h
  refine E_callI (vs := [.int x1, .int (0 : Int32), .int (2 : Int32)]) (rest := []) rfl (by decide) rfl rfl (Nat.le_of_ble_eq_true rfl) (s195 e2) (by decide) ?_
  by_cases c3 : z1.2 = 0
  · rw [if_pos c3] at h
    refine E_jt rfl rfl c3 ?_
    exact E_wk (l' := [none, none, none, none, none, none]) trivial (s272_21  h hr)
  · rw [if_neg c3] at h
    refine E_jf rfl rfl c3 ?_
    refine E_blk rfl ?_
    refine E_ps 1 (pc' := 10) (l' := [some (.ref x0), some (.int x1), none, none, none, none]) (st' := [.ref x0]) rfl ?_
    obtain ⟨a4, e5, h⟩ := Option.bind_eq_some_iff.mp h
    refine E_gr k0 (by decide) rfl e5 ?_
    refine E_ps 1 (pc' := 14) (l' := [some (.ref x0), some (.int x1), none, none, none, none]) (st' := [.ref x0, .ref a4]) rfl ?_
    refine E_gi k0 (by decide) rfl ?_
    obtain ⟨v6, e7, h⟩ := Option.bind_eq_some_iff.mp h
    refine E_ai e7 ?_
    by_cases c8 : v6 = 0
    · rw [if_pos c8] at h
      refine E_jt rfl rfl c8 ?_
      exact E_wk (l' := [none, none, none, none, none, none]) trivial (s272_21  h hr)
    · rw [if_neg c8] at h
      refine E_jf rfl rfl c8 ?_
      refine E_blk rfl ?_
      refine E_ps 1 (pc' := 24) (l' := [some (.ref x0), some (.int x1), none, none, none, none]) (st' := [.ref x0]) rfl ?_
      obtain ⟨z9, e10, h⟩ := Option.bind_eq_some_iff.mp h
      refine E_callI (vs := [.ref x0]) (rest := []) rfl (by decide) rfl rfl (Nat.le_of_ble_eq_true rfl) (s267 e10) (by decide) ?_
      by_cases c11 : z9.2 = 0
      · rw [if_pos c11] at h
        refine E_jt rfl rfl c11 ?_
        refine E_blk rfl ?_
        refine E_ps 6 (pc' := 40) (l' := [some (.ref x0), some (.int x1), some (.int (-1 : Int32)), some (.int (0 : Int32)), some (.int (0 : Int32)), none]) (st' := []) rfl ?_
        exact E_wk (l' := [some (.ref x0), some (.int x1), some (.int (-1 : Int32)), some (.int (0 : Int32)), some (.int (0 : Int32)), none]) ⟨rfl, rfl, rfl, rfl, rfl, trivial⟩ (s272_40_w k0 h hr)
      · rw [if_neg c11] at h
        refine E_jf rfl rfl c11 ?_
        refine E_blk rfl ?_
        refine E_ps 1 (pc' := 32) (l' := [some (.ref x0), some (.int x1), none, none, none, none]) (st' := [.int (-2 : Int32)]) rfl ?_
        cases h
        exact E_ret rfl (pg_mt_md (by decide)) rfl hr

-- 273: ThreePlatesModel.cut(II)I
def dn273 (o : xH × Option Value) (r : xS × Int32) : Prop := o = (hk_of r.1, some (.int r.2))
noncomputable def f273_29  (s : xS) : Option (xS × Int32) := some (s, (-1 : Int32))
set_option maxRecDepth 20000 in
theorem s273_29 {sc : Option (Nat × (Nat → Int32))}  {s : xS} {o : xH × Option Value} {r : (xS × Int32)}  (h : f273_29  s = some r) (hr : dn273 o r) : Ev sc 2 273 [] 29 [none, none, none] [] (hk_of s) o := by
  unfold f273_29 at h
  refine E_blk rfl ?_
  refine E_ps 1 (pc' := 30) (l' := [none, none, none]) (st' := [.int (-1 : Int32)]) rfl ?_
  cases h
  exact E_ret rfl (pg_mt_md (by decide)) rfl hr
noncomputable def f273 (x0 : Nat) (x1 : Int32) (x2 : Int32) (s : xS) : Option (xS × Int32) := ifg (oK x0 12 = true) <| (f195 x1 (1 : Int32) (9 : Int32) s).bind fun z1 => if z1.2 = 0 then (f273_29  z1.1) else ((f195 x2 (0 : Int32) (99 : Int32) z1.1).bind fun z4 => if z4.2 = 0 then (f273_29  z4.1) else (if (z4.1.1 x0 74) = (40 : Int32) then (f273_29  z4.1) else ((hk_R x0 72).bind fun a8 => (wI z4.1 a8 (z4.1.1 x0 74) x1).bind fun t10 => (hk_R x0 73).bind fun a12 => (wI t10 a12 (t10.1 x0 74) x2).bind fun t14 => (pI t14 x0 74 ((t14.1 x0 74) + (1 : Int32))).bind fun t16 => some (t16, (t16.1 x0 74)))))
set_option maxRecDepth 20000 in
theorem s273 {sc : Option (Nat × (Nat → Int32))} {x0 : Nat} {x1 : Int32} {x2 : Int32} {s : xS} {r : xS × Int32} (h : f273 x0 x1 x2 s = some r) : Cl sc 2 273 [.ref x0, .int x1, .int x2] (hk_of s) (hk_of r.1, some (.int r.2)) := by
  unfold f273 at h
  obtain ⟨k0, h⟩ := ifg_some h
  refine ⟨pg_md 273, [some (.ref x0), some (.int x1), some (.int x2)], pg_mt_md (by decide), (hk_rcv k0), rfl, ?_⟩
  generalize ho : ((hk_of r.1, some (Value.int r.2)) : xH × Option Value) = o
  have hr : dn273 o r := ho.symm
  refine E_blk rfl ?_
  refine E_ps 3 (pc' := 4) (l' := [some (.ref x0), some (.int x1), some (.int x2)]) (st' := [.int (9 : Int32), .int (1 : Int32), .int x1]) rfl ?_
  obtain ⟨z1, e2, h⟩ := Option.bind_eq_some_iff.mp h
  refine E_callI (vs := [.int x1, .int (1 : Int32), .int (9 : Int32)]) (rest := []) rfl (by decide) rfl rfl (Nat.le_of_ble_eq_true rfl) (s195 e2) (by decide) ?_
  by_cases c3 : z1.2 = 0
  · rw [if_pos c3] at h
    refine E_jt rfl rfl c3 ?_
    exact E_wk (l' := [none, none, none]) trivial (s273_29  h hr)
  · rw [if_neg c3] at h
    refine E_jf rfl rfl c3 ?_
    refine E_blk rfl ?_
    refine E_ps 3 (pc' := 14) (l' := [some (.ref x0), some (.int x1), some (.int x2)]) (st' := [.int (99 : Int32), .int (0 : Int32), .int x2]) rfl ?_
    obtain ⟨z4, e5, h⟩ := Option.bind_eq_some_iff.mp h
    refine E_callI (vs := [.int x2, .int (0 : Int32), .int (99 : Int32)]) (rest := []) rfl (by decide) rfl rfl (Nat.le_of_ble_eq_true rfl) (s195 e5) (by decide) ?_
    by_cases c6 : z4.2 = 0
    · rw [if_pos c6] at h
      refine E_jt rfl rfl c6 ?_
      exact E_wk (l' := [none, none, none]) trivial (s273_29  h hr)
    · rw [if_neg c6] at h
      refine E_jf rfl rfl c6 ?_
      refine E_blk rfl ?_
      refine E_ps 1 (pc' := 21) (l' := [some (.ref x0), some (.int x1), some (.int x2)]) (st' := [.ref x0]) rfl ?_
      refine E_gi k0 (by decide) rfl ?_
      refine E_ps 1 (pc' := 26) (l' := [some (.ref x0), some (.int x1), some (.int x2)]) (st' := [.int (40 : Int32), .int (z4.1.1 x0 74)]) rfl ?_
      by_cases c7 : (z4.1.1 x0 74) = (40 : Int32)
      · rw [if_pos c7] at h
        refine E_jt rfl rfl c7 ?_
        exact E_wk (l' := [none, none, none]) trivial (s273_29  h hr)
      · rw [if_neg c7] at h
        refine E_jf rfl rfl c7 ?_
        refine E_blk rfl ?_
        refine E_ps 1 (pc' := 32) (l' := [some (.ref x0), some (.int x1), some (.int x2)]) (st' := [.ref x0]) rfl ?_
        obtain ⟨a8, e9, h⟩ := Option.bind_eq_some_iff.mp h
        refine E_gr k0 (by decide) rfl e9 ?_
        refine E_ps 1 (pc' := 36) (l' := [some (.ref x0), some (.int x1), some (.int x2)]) (st' := [.ref x0, .ref a8]) rfl ?_
        refine E_gi k0 (by decide) rfl ?_
        refine E_ps 1 (pc' := 40) (l' := [some (.ref x0), some (.int x1), some (.int x2)]) (st' := [.int x1, .int (z4.1.1 x0 74), .ref a8]) rfl ?_
        obtain ⟨t10, e11, h⟩ := Option.bind_eq_some_iff.mp h
        refine E_wi e11 ?_
        refine E_ps 1 (pc' := 42) (l' := [some (.ref x0), some (.int x1), some (.int x2)]) (st' := [.ref x0]) rfl ?_
        obtain ⟨a12, e13, h⟩ := Option.bind_eq_some_iff.mp h
        refine E_gr k0 (by decide) rfl e13 ?_
        refine E_ps 1 (pc' := 46) (l' := [some (.ref x0), some (.int x1), some (.int x2)]) (st' := [.ref x0, .ref a12]) rfl ?_
        refine E_gi k0 (by decide) rfl ?_
        refine E_ps 1 (pc' := 50) (l' := [some (.ref x0), some (.int x1), some (.int x2)]) (st' := [.int x2, .int (t10.1 x0 74), .ref a12]) rfl ?_
        obtain ⟨t14, e15, h⟩ := Option.bind_eq_some_iff.mp h
        refine E_wi e15 ?_
        refine E_ps 2 (pc' := 53) (l' := [some (.ref x0), some (.int x1), some (.int x2)]) (st' := [.ref x0, .ref x0]) rfl ?_
        refine E_gi k0 (by decide) rfl ?_
        refine E_ps 2 (pc' := 58) (l' := [some (.ref x0), some (.int x1), some (.int x2)]) (st' := [.int ((t14.1 x0 74) + (1 : Int32)), .ref x0]) rfl ?_
        obtain ⟨t16, e17, h⟩ := Option.bind_eq_some_iff.mp h
        refine E_pi k0 (by decide) rfl e17 ?_
        refine E_ps 1 (pc' := 62) (l' := [some (.ref x0), some (.int x1), some (.int x2)]) (st' := [.ref x0]) rfl ?_
        refine E_gi k0 (by decide) rfl ?_
        cases h
        exact E_ret rfl (pg_mt_md (by decide)) rfl hr

-- 274: ThreePlatesModel.clear()I
def dn274 (o : xH × Option Value) (r : xS × Int32) : Prop := o = (hk_of r.1, some (.int r.2))
noncomputable def f274 (x0 : Nat) (s : xS) : Option (xS × Int32) := ifg (oK x0 12 = true) <| (pI s x0 74 (0 : Int32)).bind fun t1 => some (t1, (s.1 x0 74))
set_option maxRecDepth 20000 in
theorem s274 {sc : Option (Nat × (Nat → Int32))} {x0 : Nat} {s : xS} {r : xS × Int32} (h : f274 x0 s = some r) : Cl sc 1 274 [.ref x0] (hk_of s) (hk_of r.1, some (.int r.2)) := by
  unfold f274 at h
  obtain ⟨k0, h⟩ := ifg_some h
  refine ⟨pg_md 274, [some (.ref x0), none], pg_mt_md (by decide), (hk_rcv k0), rfl, ?_⟩
  generalize ho : ((hk_of r.1, some (Value.int r.2)) : xH × Option Value) = o
  have hr : dn274 o r := ho.symm
  refine E_blk rfl ?_
  refine E_ps 1 (pc' := 1) (l' := [some (.ref x0), none]) (st' := [.ref x0]) rfl ?_
  refine E_gi k0 (by decide) rfl ?_
  refine E_ps 3 (pc' := 7) (l' := [some (.ref x0), some (.int (s.1 x0 74))]) (st' := [.int (0 : Int32), .ref x0]) rfl ?_
  obtain ⟨t1, e2, h⟩ := Option.bind_eq_some_iff.mp h
  refine E_pi k0 (by decide) rfl e2 ?_
  refine E_ps 1 (pc' := 11) (l' := [some (.ref x0), some (.int (s.1 x0 74))]) (st' := [.int (s.1 x0 74)]) rfl ?_
  cases h
  exact E_ret rfl (pg_mt_md (by decide)) rfl hr

-- 275: ThreePlatesModel.lets(II)Z
def dn275 (o : xH × Option Value) (r : xS × Int32) : Prop := o = (hk_of r.1, some (.int r.2))
def dn275_2 (sc : Option (Nat × (Nat → Int32))) (x0 : Nat) (x1 : Int32) (x2 : Int32) (o : xH × Option Value) (r : ((Int32 × xS) ⊕ (xS × Int32))) : Prop := match r with
  | .inl q => Ev sc 1 275 [] 2 [some (.ref x0), some (.int x1), some (.int x2), some (.int q.1), none] [] (hk_of q.2) o
  | .inr r => dn275 o r
noncomputable def f275_47  (s : xS) : Option (xS × Int32) := some (s, (0 : Int32))
set_option maxRecDepth 20000 in
theorem s275_47 {sc : Option (Nat × (Nat → Int32))}  {s : xS} {o : xH × Option Value} {r : (xS × Int32)}  (h : f275_47  s = some r) (hr : dn275 o r) : Ev sc 1 275 [] 47 [none, none, none, none, none] [] (hk_of s) o := by
  unfold f275_47 at h
  refine E_blk rfl ?_
  refine E_ps 1 (pc' := 48) (l' := [none, none, none, none, none]) (st' := [.int (0 : Int32)]) rfl ?_
  cases h
  exact E_ret rfl (pg_mt_md (by decide)) rfl hr
noncomputable def f275_2 (x0 : Nat) (x1 : Int32) (x2 : Int32) (x3 : Int32) (s : xS) : Option ((Int32 × xS) ⊕ (xS × Int32)) := if (s.1 x0 74) ≤ x3 then (Option.map Sum.inr (some (s, (1 : Int32)))) else ((hk_R x0 72).bind fun a2 => (aI s a2 x3).bind fun v4 => (hk_R x0 73).bind fun a6 => (aI s a6 x3).bind fun v8 => if v8 < ((v4 * x1) / (10 : Int32)) then (Option.map Sum.inr (f275_47  s)) else ((hk_R x0 73).bind fun a11 => (aI s a11 x3).bind fun v13 => if v13 ≤ (((v4 * x1) / (10 : Int32)) + x2) then (some (Sum.inl ((x3 + (1 : Int32)), s))) else (Option.map Sum.inr (f275_47  s))))
set_option maxRecDepth 20000 in
theorem s275_2 {sc : Option (Nat × (Nat → Int32))} {x0 : Nat} {x1 : Int32} {x2 : Int32} {x3 : Int32} {s : xS} {o : xH × Option Value} {r : ((Int32 × xS) ⊕ (xS × Int32))} (k0 : oK x0 12 = true) (h : f275_2 x0 x1 x2 x3 s = some r) (hr : dn275_2 sc x0 x1 x2 o r) : Ev sc 1 275 [] 2 [some (.ref x0), some (.int x1), some (.int x2), some (.int x3), none] [] (hk_of s) o := by
  unfold f275_2 at h
  refine E_blk rfl ?_
  refine E_ps 2 (pc' := 4) (l' := [some (.ref x0), some (.int x1), some (.int x2), some (.int x3), none]) (st' := [.ref x0, .int x3]) rfl ?_
  refine E_gi k0 (by decide) rfl ?_
  by_cases c1 : (s.1 x0 74) ≤ x3
  · rw [if_pos c1] at h
    refine E_jt rfl rfl c1 ?_
    obtain ⟨r, h, hr⟩ := lf_some (Dn := dn275_2 sc x0 x1 x2 o) h hr
    refine E_blk rfl ?_
    refine E_ps 1 (pc' := 56) (l' := [some (.ref x0), some (.int x1), some (.int x2), some (.int x3), none]) (st' := [.int (1 : Int32)]) rfl ?_
    cases h
    exact E_ret rfl (pg_mt_md (by decide)) rfl hr
  · rw [if_neg c1] at h
    refine E_jf rfl rfl c1 ?_
    refine E_blk rfl ?_
    refine E_ps 1 (pc' := 11) (l' := [some (.ref x0), some (.int x1), some (.int x2), some (.int x3), none]) (st' := [.ref x0]) rfl ?_
    obtain ⟨a2, e3, h⟩ := Option.bind_eq_some_iff.mp h
    refine E_gr k0 (by decide) rfl e3 ?_
    refine E_ps 1 (pc' := 15) (l' := [some (.ref x0), some (.int x1), some (.int x2), some (.int x3), none]) (st' := [.int x3, .ref a2]) rfl ?_
    obtain ⟨v4, e5, h⟩ := Option.bind_eq_some_iff.mp h
    refine E_ai e5 ?_
    refine E_ps 3 (pc' := 20) (l' := [some (.ref x0), some (.int x1), some (.int x2), some (.int x3), none]) (st' := [.int (10 : Int32), .int (v4 * x1)]) rfl ?_
    refine E_idiv (by decide) ?_
    refine E_ps 2 (pc' := 24) (l' := [some (.ref x0), some (.int x1), some (.int x2), some (.int x3), some (.int ((v4 * x1) / (10 : Int32)))]) (st' := [.ref x0]) rfl ?_
    obtain ⟨a6, e7, h⟩ := Option.bind_eq_some_iff.mp h
    refine E_gr k0 (by decide) rfl e7 ?_
    refine E_ps 1 (pc' := 28) (l' := [some (.ref x0), some (.int x1), some (.int x2), some (.int x3), some (.int ((v4 * x1) / (10 : Int32)))]) (st' := [.int x3, .ref a6]) rfl ?_
    obtain ⟨v8, e9, h⟩ := Option.bind_eq_some_iff.mp h
    refine E_ai e9 ?_
    refine E_ps 1 (pc' := 31) (l' := [some (.ref x0), some (.int x1), some (.int x2), some (.int x3), some (.int ((v4 * x1) / (10 : Int32)))]) (st' := [.int ((v4 * x1) / (10 : Int32)), .int v8]) rfl ?_
    by_cases c10 : v8 < ((v4 * x1) / (10 : Int32))
    · rw [if_pos c10] at h
      refine E_jt rfl rfl c10 ?_
      obtain ⟨r, h, hr⟩ := lf_some (Dn := dn275_2 sc x0 x1 x2 o) h hr
      exact E_wk (l' := [none, none, none, none, none]) trivial (s275_47  h hr)
    · rw [if_neg c10] at h
      refine E_jf rfl rfl c10 ?_
      refine E_blk rfl ?_
      refine E_ps 1 (pc' := 35) (l' := [some (.ref x0), some (.int x1), some (.int x2), some (.int x3), some (.int ((v4 * x1) / (10 : Int32)))]) (st' := [.ref x0]) rfl ?_
      obtain ⟨a11, e12, h⟩ := Option.bind_eq_some_iff.mp h
      refine E_gr k0 (by decide) rfl e12 ?_
      refine E_ps 1 (pc' := 39) (l' := [some (.ref x0), some (.int x1), some (.int x2), some (.int x3), some (.int ((v4 * x1) / (10 : Int32)))]) (st' := [.int x3, .ref a11]) rfl ?_
      obtain ⟨v13, e14, h⟩ := Option.bind_eq_some_iff.mp h
      refine E_ai e14 ?_
      refine E_ps 3 (pc' := 44) (l' := [some (.ref x0), some (.int x1), some (.int x2), some (.int x3), some (.int ((v4 * x1) / (10 : Int32)))]) (st' := [.int (((v4 * x1) / (10 : Int32)) + x2), .int v13]) rfl ?_
      by_cases c15 : v13 ≤ (((v4 * x1) / (10 : Int32)) + x2)
      · rw [if_pos c15] at h
        refine E_jt rfl rfl c15 ?_
        refine E_blk rfl ?_
        refine E_ps 1 (pc' := 52) (l' := [some (.ref x0), some (.int x1), some (.int x2), some (.int (x3 + (1 : Int32))), some (.int ((v4 * x1) / (10 : Int32)))]) (st' := []) rfl ?_
        refine E_j rfl rfl ?_
        cases h
        exact E_wk (l' := [some (.ref x0), some (.int x1), some (.int x2), some (.int (x3 + (1 : Int32))), none]) ⟨rfl, rfl, rfl, rfl, trivial⟩ hr
      · rw [if_neg c15] at h
        refine E_jf rfl rfl c15 ?_
        obtain ⟨r, h, hr⟩ := lf_some (Dn := dn275_2 sc x0 x1 x2 o) h hr
        exact E_wk (l' := [none, none, none, none, none]) trivial (s275_47  h hr)
theorem s275_2_w {sc : Option (Nat × (Nat → Int32))} {x0 : Nat} {x1 : Int32} {x2 : Int32} {x3 : Int32} {s : xS} {o : xH × Option Value} {r : (xS × Int32)} (k0 : oK x0 12 = true) (h : whl (fun q : (Int32 × xS) => f275_2 x0 x1 x2 q.1 q.2) (x3, s) = some r) (hr : dn275 o r) : Ev sc 1 275 [] 2 [some (.ref x0), some (.int x1), some (.int x2), some (.int x3), none] [] (hk_of s) o := by
  refine whl_snd (E := fun q : (Int32 × xS) => Ev sc 1 275 [] 2 [some (.ref x0), some (.int x1), some (.int x2), some (.int q.1), none] [] (hk_of q.2) o) (P := fun r => dn275 o r) (fun q r h hr => ?_) h hr
  exact s275_2 k0 h (by cases r <;> exact hr)
noncomputable def f275 (x0 : Nat) (x1 : Int32) (x2 : Int32) (s : xS) : Option (xS × Int32) := ifg (oK x0 12 = true) <| whl (fun q : (Int32 × xS) => f275_2 x0 x1 x2 q.1 q.2) ((0 : Int32), s)
set_option maxRecDepth 20000 in
theorem s275 {sc : Option (Nat × (Nat → Int32))} {x0 : Nat} {x1 : Int32} {x2 : Int32} {s : xS} {r : xS × Int32} (h : f275 x0 x1 x2 s = some r) : Cl sc 1 275 [.ref x0, .int x1, .int x2] (hk_of s) (hk_of r.1, some (.int r.2)) := by
  unfold f275 at h
  obtain ⟨k0, h⟩ := ifg_some h
  refine ⟨pg_md 275, [some (.ref x0), some (.int x1), some (.int x2), none, none], pg_mt_md (by decide), (hk_rcv k0), rfl, ?_⟩
  generalize ho : ((hk_of r.1, some (Value.int r.2)) : xH × Option Value) = o
  have hr : dn275 o r := ho.symm
  refine E_blk rfl ?_
  refine E_ps 2 (pc' := 2) (l' := [some (.ref x0), some (.int x1), some (.int x2), some (.int (0 : Int32)), none]) (st' := []) rfl ?_
  exact E_wk (l' := [some (.ref x0), some (.int x1), some (.int x2), some (.int (0 : Int32)), none]) ⟨rfl, rfl, rfl, rfl, trivial⟩ (s275_2_w k0 h hr)

-- 276: ThreePlatesModel.fits()I
def dn276 (o : xH × Option Value) (r : xS × Int32) : Prop := o = (hk_of r.1, some (.int r.2))
def dn276_4 (sc : Option (Nat × (Nat → Int32))) (x0 : Nat) (o : xH × Option Value) (r : ((Int32 × Int32 × xS) ⊕ (xS × Int32))) : Prop := match r with
  | .inl q => Ev sc 2 276 [] 4 [some (.ref x0), some (.int q.1), some (.int q.2.1), none] [] (hk_of q.2.2) o
  | .inr r => dn276 o r
def dn276_11 (sc : Option (Nat × (Nat → Int32))) (x0 : Nat) (x2 : Int32) (o : xH × Option Value) (r : ((Int32 × Int32 × xS) ⊕ ((Int32 × Int32 × xS) ⊕ (xS × Int32)))) : Prop := match r with
  | .inl q => Ev sc 2 276 [] 11 [some (.ref x0), some (.int q.1), some (.int x2), some (.int q.2.1)] [] (hk_of q.2.2) o
  | .inr r => dn276_4 sc x0 o r
noncomputable def f276_32 (x0 : Nat) (x2 : Int32) (x3 : Int32) (y0 : Int32) (y1 : Int32) (s : xS) : Option ((Int32 × Int32 × xS) ⊕ ((Int32 × Int32 × xS) ⊕ (xS × Int32))) := some (Sum.inl ((y1 + y0), (x3 + (1 : Int32)), s))
set_option maxRecDepth 20000 in
theorem s276_32 {sc : Option (Nat × (Nat → Int32))} {x0 : Nat} {x2 : Int32} {x3 : Int32} {y0 : Int32} {y1 : Int32} {s : xS} {o : xH × Option Value} {r : ((Int32 × Int32 × xS) ⊕ ((Int32 × Int32 × xS) ⊕ (xS × Int32)))} (k0 : oK x0 12 = true) (h : f276_32 x0 x2 x3 y0 y1 s = some r) (hr : dn276_11 sc x0 x2 o r) : Ev sc 2 276 [] 32 [some (.ref x0), none, some (.int x2), some (.int x3)] [.int y0, .int y1] (hk_of s) o := by
  unfold f276_32 at h
  refine E_blk rfl ?_
  refine E_ps 3 (pc' := 37) (l' := [some (.ref x0), some (.int (y1 + y0)), some (.int x2), some (.int (x3 + (1 : Int32)))]) (st' := []) rfl ?_
  refine E_j rfl rfl ?_
  cases h
  exact E_wk (l' := [some (.ref x0), some (.int (y1 + y0)), some (.int x2), some (.int (x3 + (1 : Int32)))]) ⟨rfl, rfl, rfl, rfl, trivial⟩ hr
noncomputable def f276_11 (x0 : Nat) (x1 : Int32) (x2 : Int32) (x3 : Int32) (s : xS) : Option ((Int32 × Int32 × xS) ⊕ ((Int32 × Int32 × xS) ⊕ (xS × Int32))) := if (30 : Int32) < x3 then (Option.map Sum.inr (some (Sum.inl (x1, (x2 + (1 : Int32)), s)))) else ((f275 x0 x3 x2 s).bind fun z2 => if z2.2 = 0 then (f276_32 x0 x2 x3 (0 : Int32) x1 z2.1) else (f276_32 x0 x2 x3 (1 : Int32) x1 z2.1))
set_option maxRecDepth 20000 in
theorem s276_11 {sc : Option (Nat × (Nat → Int32))} {x0 : Nat} {x1 : Int32} {x2 : Int32} {x3 : Int32} {s : xS} {o : xH × Option Value} {r : ((Int32 × Int32 × xS) ⊕ ((Int32 × Int32 × xS) ⊕ (xS × Int32)))} (k0 : oK x0 12 = true) (h : f276_11 x0 x1 x2 x3 s = some r) (hr : dn276_11 sc x0 x2 o r) : Ev sc 2 276 [] 11 [some (.ref x0), some (.int x1), some (.int x2), some (.int x3)] [] (hk_of s) o := by
  unfold f276_11 at h
  refine E_blk rfl ?_
  refine E_ps 2 (pc' := 14) (l' := [some (.ref x0), some (.int x1), some (.int x2), some (.int x3)]) (st' := [.int (30 : Int32), .int x3]) rfl ?_
  by_cases c1 : (30 : Int32) < x3
  · rw [if_pos c1] at h
    refine E_jt rfl rfl c1 ?_
    obtain ⟨r, h, hr⟩ := lf_some (Dn := dn276_11 sc x0 x2 o) h hr
    refine E_blk rfl ?_
    refine E_ps 1 (pc' := 43) (l' := [some (.ref x0), some (.int x1), some (.int (x2 + (1 : Int32))), some (.int x3)]) (st' := []) rfl ?_
    refine E_j rfl rfl ?_
    cases h
    exact E_wk (l' := [some (.ref x0), some (.int x1), some (.int (x2 + (1 : Int32))), none]) ⟨rfl, rfl, rfl, trivial⟩ hr
  · rw [if_neg c1] at h
    refine E_jf rfl rfl c1 ?_
    refine E_blk rfl ?_
    refine E_ps 4 (pc' := 21) (l' := [some (.ref x0), some (.int x1), some (.int x2), some (.int x3)]) (st' := [.int x2, .int x3, .ref x0, .int x1]) rfl ?_
    obtain ⟨z2, e3, h⟩ := Option.bind_eq_some_iff.mp h
    refine E_callI (vs := [.ref x0, .int x3, .int x2]) (rest := [.int x1]) rfl (by decide) rfl rfl (Nat.le_of_ble_eq_true rfl) (s275 e3) (by decide) ?_
    by_cases c4 : z2.2 = 0
    · rw [if_pos c4] at h
      refine E_jt rfl rfl c4 ?_
      refine E_blk rfl ?_
      refine E_ps 1 (pc' := 32) (l' := [some (.ref x0), some (.int x1), some (.int x2), some (.int x3)]) (st' := [.int (0 : Int32), .int x1]) rfl ?_
      exact E_wk (l' := [some (.ref x0), none, some (.int x2), some (.int x3)]) ⟨rfl, rfl, rfl, trivial⟩ (s276_32 k0 h hr)
    · rw [if_neg c4] at h
      refine E_jf rfl rfl c4 ?_
      refine E_blk rfl ?_
      refine E_ps 1 (pc' := 28) (l' := [some (.ref x0), some (.int x1), some (.int x2), some (.int x3)]) (st' := [.int (1 : Int32), .int x1]) rfl ?_
      refine E_j rfl rfl ?_
      exact E_wk (l' := [some (.ref x0), none, some (.int x2), some (.int x3)]) ⟨rfl, rfl, rfl, trivial⟩ (s276_32 k0 h hr)
theorem s276_11_w {sc : Option (Nat × (Nat → Int32))} {x0 : Nat} {x1 : Int32} {x2 : Int32} {x3 : Int32} {s : xS} {o : xH × Option Value} {r : ((Int32 × Int32 × xS) ⊕ (xS × Int32))} (k0 : oK x0 12 = true) (h : whl (fun q : (Int32 × Int32 × xS) => f276_11 x0 q.1 x2 q.2.1 q.2.2) (x1, x3, s) = some r) (hr : dn276_4 sc x0 o r) : Ev sc 2 276 [] 11 [some (.ref x0), some (.int x1), some (.int x2), some (.int x3)] [] (hk_of s) o := by
  refine whl_snd (E := fun q : (Int32 × Int32 × xS) => Ev sc 2 276 [] 11 [some (.ref x0), some (.int q.1), some (.int x2), some (.int q.2.1)] [] (hk_of q.2.2) o) (P := fun r => dn276_4 sc x0 o r) (fun q r h hr => ?_) h hr
  exact s276_11 k0 h (by cases r <;> exact hr)
noncomputable def f276_4 (x0 : Nat) (x1 : Int32) (x2 : Int32) (s : xS) : Option ((Int32 × Int32 × xS) ⊕ (xS × Int32)) := if (5 : Int32) < x2 then (Option.map Sum.inr (some (s, x1))) else (whl (fun q : (Int32 × Int32 × xS) => f276_11 x0 q.1 x2 q.2.1 q.2.2) (x1, (1 : Int32), s))
set_option maxRecDepth 20000 in
theorem s276_4 {sc : Option (Nat × (Nat → Int32))} {x0 : Nat} {x1 : Int32} {x2 : Int32} {s : xS} {o : xH × Option Value} {r : ((Int32 × Int32 × xS) ⊕ (xS × Int32))} (k0 : oK x0 12 = true) (h : f276_4 x0 x1 x2 s = some r) (hr : dn276_4 sc x0 o r) : Ev sc 2 276 [] 4 [some (.ref x0), some (.int x1), some (.int x2), none] [] (hk_of s) o := by
  unfold f276_4 at h
  refine E_blk rfl ?_
  refine E_ps 2 (pc' := 6) (l' := [some (.ref x0), some (.int x1), some (.int x2), none]) (st' := [.int (5 : Int32), .int x2]) rfl ?_
  by_cases c1 : (5 : Int32) < x2
  · rw [if_pos c1] at h
    refine E_jt rfl rfl c1 ?_
    obtain ⟨r, h, hr⟩ := lf_some (Dn := dn276_4 sc x0 o) h hr
    refine E_blk rfl ?_
    refine E_ps 1 (pc' := 47) (l' := [some (.ref x0), some (.int x1), some (.int x2), none]) (st' := [.int x1]) rfl ?_
    cases h
    exact E_ret rfl (pg_mt_md (by decide)) rfl hr
  · rw [if_neg c1] at h
    refine E_jf rfl rfl c1 ?_
    refine E_blk rfl ?_
    refine E_ps 2 (pc' := 11) (l' := [some (.ref x0), some (.int x1), some (.int x2), some (.int (1 : Int32))]) (st' := []) rfl ?_
    exact E_wk (l' := [some (.ref x0), some (.int x1), some (.int x2), some (.int (1 : Int32))]) ⟨rfl, rfl, rfl, rfl, trivial⟩ (s276_11_w k0 h hr)
theorem s276_4_w {sc : Option (Nat × (Nat → Int32))} {x0 : Nat} {x1 : Int32} {x2 : Int32} {s : xS} {o : xH × Option Value} {r : (xS × Int32)} (k0 : oK x0 12 = true) (h : whl (fun q : (Int32 × Int32 × xS) => f276_4 x0 q.1 q.2.1 q.2.2) (x1, x2, s) = some r) (hr : dn276 o r) : Ev sc 2 276 [] 4 [some (.ref x0), some (.int x1), some (.int x2), none] [] (hk_of s) o := by
  refine whl_snd (E := fun q : (Int32 × Int32 × xS) => Ev sc 2 276 [] 4 [some (.ref x0), some (.int q.1), some (.int q.2.1), none] [] (hk_of q.2.2) o) (P := fun r => dn276 o r) (fun q r h hr => ?_) h hr
  exact s276_4 k0 h (by cases r <;> exact hr)
noncomputable def f276 (x0 : Nat) (s : xS) : Option (xS × Int32) := ifg (oK x0 12 = true) <| whl (fun q : (Int32 × Int32 × xS) => f276_4 x0 q.1 q.2.1 q.2.2) ((0 : Int32), (0 : Int32), s)
set_option maxRecDepth 20000 in
theorem s276 {sc : Option (Nat × (Nat → Int32))} {x0 : Nat} {s : xS} {r : xS × Int32} (h : f276 x0 s = some r) : Cl sc 2 276 [.ref x0] (hk_of s) (hk_of r.1, some (.int r.2)) := by
  unfold f276 at h
  obtain ⟨k0, h⟩ := ifg_some h
  refine ⟨pg_md 276, [some (.ref x0), none, none, none], pg_mt_md (by decide), (hk_rcv k0), rfl, ?_⟩
  generalize ho : ((hk_of r.1, some (Value.int r.2)) : xH × Option Value) = o
  have hr : dn276 o r := ho.symm
  refine E_blk rfl ?_
  refine E_ps 4 (pc' := 4) (l' := [some (.ref x0), some (.int (0 : Int32)), some (.int (0 : Int32)), none]) (st' := []) rfl ?_
  exact E_wk (l' := [some (.ref x0), some (.int (0 : Int32)), some (.int (0 : Int32)), none]) ⟨rfl, rfl, rfl, trivial⟩ (s276_4_w k0 h hr)

-- 277: ThreePlatesModel.tight(I)I
def dn277 (o : xH × Option Value) (r : xS × Int32) : Prop := o = (hk_of r.1, some (.int r.2))
def dn277_13 (sc : Option (Nat × (Nat → Int32))) (x0 : Nat) (x1 : Int32) (o : xH × Option Value) (r : ((Int32 × xS) ⊕ (xS × Int32))) : Prop := match r with
  | .inl q => Ev sc 2 277 [] 13 [some (.ref x0), some (.int x1), some (.int q.1), none] [] (hk_of q.2) o
  | .inr r => dn277 o r
def dn277_20 (sc : Option (Nat × (Nat → Int32))) (x0 : Nat) (x1 : Int32) (x2 : Int32) (o : xH × Option Value) (r : ((Int32 × xS) ⊕ ((Int32 × xS) ⊕ (xS × Int32)))) : Prop := match r with
  | .inl q => Ev sc 2 277 [] 20 [some (.ref x0), some (.int x1), some (.int x2), some (.int q.1)] [] (hk_of q.2) o
  | .inr r => dn277_13 sc x0 x1 o r
noncomputable def f277_44 (y0 : Int32) (s : xS) : Option (xS × Int32) := some (s, y0)
set_option maxRecDepth 20000 in
theorem s277_44 {sc : Option (Nat × (Nat → Int32))} {y0 : Int32} {s : xS} {o : xH × Option Value} {r : (xS × Int32)}  (h : f277_44 y0 s = some r) (hr : dn277 o r) : Ev sc 2 277 [] 44 [none, none, none, none] [.int y0] (hk_of s) o := by
  unfold f277_44 at h
  refine E_blk rfl ?_
  cases h
  exact E_ret rfl (pg_mt_md (by decide)) rfl hr
noncomputable def f277_20 (x0 : Nat) (x1 : Int32) (x2 : Int32) (x3 : Int32) (s : xS) : Option ((Int32 × xS) ⊕ ((Int32 × xS) ⊕ (xS × Int32))) := if (30 : Int32) < x3 then (Option.map Sum.inr (some (Sum.inl ((x2 + (1 : Int32)), s)))) else ((f275 x0 x3 x2 s).bind fun z2 => if z2.2 = 0 then (some (Sum.inl ((x3 + (1 : Int32)), z2.1))) else (Option.map Sum.inr (Option.map Sum.inr (if x1 = 0 then (f277_44 x2 z2.1) else (f277_44 x3 z2.1)))))
set_option maxRecDepth 20000 in
theorem s277_20 {sc : Option (Nat × (Nat → Int32))} {x0 : Nat} {x1 : Int32} {x2 : Int32} {x3 : Int32} {s : xS} {o : xH × Option Value} {r : ((Int32 × xS) ⊕ ((Int32 × xS) ⊕ (xS × Int32)))} (k0 : oK x0 12 = true) (h : f277_20 x0 x1 x2 x3 s = some r) (hr : dn277_20 sc x0 x1 x2 o r) : Ev sc 2 277 [] 20 [some (.ref x0), some (.int x1), some (.int x2), some (.int x3)] [] (hk_of s) o := by
  unfold f277_20 at h
  refine E_blk rfl ?_
  refine E_ps 2 (pc' := 23) (l' := [some (.ref x0), some (.int x1), some (.int x2), some (.int x3)]) (st' := [.int (30 : Int32), .int x3]) rfl ?_
  by_cases c1 : (30 : Int32) < x3
  · rw [if_pos c1] at h
    refine E_jt rfl rfl c1 ?_
    obtain ⟨r, h, hr⟩ := lf_some (Dn := dn277_20 sc x0 x1 x2 o) h hr
    refine E_blk rfl ?_
    refine E_ps 1 (pc' := 54) (l' := [some (.ref x0), some (.int x1), some (.int (x2 + (1 : Int32))), some (.int x3)]) (st' := []) rfl ?_
    refine E_j rfl rfl ?_
    cases h
    exact E_wk (l' := [some (.ref x0), some (.int x1), some (.int (x2 + (1 : Int32))), none]) ⟨rfl, rfl, rfl, trivial⟩ hr
  · rw [if_neg c1] at h
    refine E_jf rfl rfl c1 ?_
    refine E_blk rfl ?_
    refine E_ps 3 (pc' := 29) (l' := [some (.ref x0), some (.int x1), some (.int x2), some (.int x3)]) (st' := [.int x2, .int x3, .ref x0]) rfl ?_
    obtain ⟨z2, e3, h⟩ := Option.bind_eq_some_iff.mp h
    refine E_callI (vs := [.ref x0, .int x3, .int x2]) (rest := []) rfl (by decide) rfl rfl (Nat.le_of_ble_eq_true rfl) (s275 e3) (by decide) ?_
    by_cases c4 : z2.2 = 0
    · rw [if_pos c4] at h
      refine E_jt rfl rfl c4 ?_
      refine E_blk rfl ?_
      refine E_ps 1 (pc' := 48) (l' := [some (.ref x0), some (.int x1), some (.int x2), some (.int (x3 + (1 : Int32)))]) (st' := []) rfl ?_
      refine E_j rfl rfl ?_
      cases h
      exact E_wk (l' := [some (.ref x0), some (.int x1), some (.int x2), some (.int (x3 + (1 : Int32)))]) ⟨rfl, rfl, rfl, rfl, trivial⟩ hr
    · rw [if_neg c4] at h
      refine E_jf rfl rfl c4 ?_
      obtain ⟨r, h, hr⟩ := lf_some (Dn := dn277_20 sc x0 x1 x2 o) h hr
      obtain ⟨r, h, hr⟩ := lf_some (Dn := dn277_13 sc x0 x1 o) h hr
      refine E_blk rfl ?_
      refine E_ps 1 (pc' := 36) (l' := [some (.ref x0), some (.int x1), some (.int x2), some (.int x3)]) (st' := [.int x1]) rfl ?_
      by_cases c5 : x1 = 0
      · rw [if_pos c5] at h
        refine E_jt rfl rfl c5 ?_
        refine E_blk rfl ?_
        refine E_ps 1 (pc' := 40) (l' := [some (.ref x0), some (.int x1), some (.int x2), some (.int x3)]) (st' := [.int x2]) rfl ?_
        refine E_j rfl rfl ?_
        exact E_wk (l' := [none, none, none, none]) trivial (s277_44  h hr)
      · rw [if_neg c5] at h
        refine E_jf rfl rfl c5 ?_
        refine E_blk rfl ?_
        refine E_ps 1 (pc' := 44) (l' := [some (.ref x0), some (.int x1), some (.int x2), some (.int x3)]) (st' := [.int x3]) rfl ?_
        exact E_wk (l' := [none, none, none, none]) trivial (s277_44  h hr)
theorem s277_20_w {sc : Option (Nat × (Nat → Int32))} {x0 : Nat} {x1 : Int32} {x2 : Int32} {x3 : Int32} {s : xS} {o : xH × Option Value} {r : ((Int32 × xS) ⊕ (xS × Int32))} (k0 : oK x0 12 = true) (h : whl (fun q : (Int32 × xS) => f277_20 x0 x1 x2 q.1 q.2) (x3, s) = some r) (hr : dn277_13 sc x0 x1 o r) : Ev sc 2 277 [] 20 [some (.ref x0), some (.int x1), some (.int x2), some (.int x3)] [] (hk_of s) o := by
  refine whl_snd (E := fun q : (Int32 × xS) => Ev sc 2 277 [] 20 [some (.ref x0), some (.int x1), some (.int x2), some (.int q.1)] [] (hk_of q.2) o) (P := fun r => dn277_13 sc x0 x1 o r) (fun q r h hr => ?_) h hr
  exact s277_20 k0 h (by cases r <;> exact hr)
noncomputable def f277_13 (x0 : Nat) (x1 : Int32) (x2 : Int32) (s : xS) : Option ((Int32 × xS) ⊕ (xS × Int32)) := if (5 : Int32) < x2 then (Option.map Sum.inr (some (s, (-1 : Int32)))) else (whl (fun q : (Int32 × xS) => f277_20 x0 x1 x2 q.1 q.2) ((1 : Int32), s))
set_option maxRecDepth 20000 in
theorem s277_13 {sc : Option (Nat × (Nat → Int32))} {x0 : Nat} {x1 : Int32} {x2 : Int32} {s : xS} {o : xH × Option Value} {r : ((Int32 × xS) ⊕ (xS × Int32))} (k0 : oK x0 12 = true) (h : f277_13 x0 x1 x2 s = some r) (hr : dn277_13 sc x0 x1 o r) : Ev sc 2 277 [] 13 [some (.ref x0), some (.int x1), some (.int x2), none] [] (hk_of s) o := by
  unfold f277_13 at h
  refine E_blk rfl ?_
  refine E_ps 2 (pc' := 15) (l' := [some (.ref x0), some (.int x1), some (.int x2), none]) (st' := [.int (5 : Int32), .int x2]) rfl ?_
  by_cases c1 : (5 : Int32) < x2
  · rw [if_pos c1] at h
    refine E_jt rfl rfl c1 ?_
    obtain ⟨r, h, hr⟩ := lf_some (Dn := dn277_13 sc x0 x1 o) h hr
    refine E_blk rfl ?_
    refine E_ps 1 (pc' := 58) (l' := [some (.ref x0), some (.int x1), some (.int x2), none]) (st' := [.int (-1 : Int32)]) rfl ?_
    cases h
    exact E_ret rfl (pg_mt_md (by decide)) rfl hr
  · rw [if_neg c1] at h
    refine E_jf rfl rfl c1 ?_
    refine E_blk rfl ?_
    refine E_ps 2 (pc' := 20) (l' := [some (.ref x0), some (.int x1), some (.int x2), some (.int (1 : Int32))]) (st' := []) rfl ?_
    exact E_wk (l' := [some (.ref x0), some (.int x1), some (.int x2), some (.int (1 : Int32))]) ⟨rfl, rfl, rfl, rfl, trivial⟩ (s277_20_w k0 h hr)
theorem s277_13_w {sc : Option (Nat × (Nat → Int32))} {x0 : Nat} {x1 : Int32} {x2 : Int32} {s : xS} {o : xH × Option Value} {r : (xS × Int32)} (k0 : oK x0 12 = true) (h : whl (fun q : (Int32 × xS) => f277_13 x0 x1 q.1 q.2) (x2, s) = some r) (hr : dn277 o r) : Ev sc 2 277 [] 13 [some (.ref x0), some (.int x1), some (.int x2), none] [] (hk_of s) o := by
  refine whl_snd (E := fun q : (Int32 × xS) => Ev sc 2 277 [] 13 [some (.ref x0), some (.int x1), some (.int q.1), none] [] (hk_of q.2) o) (P := fun r => dn277 o r) (fun q r h hr => ?_) h hr
  exact s277_13 k0 h (by cases r <;> exact hr)
noncomputable def f277 (x0 : Nat) (x1 : Int32) (s : xS) : Option (xS × Int32) := ifg (oK x0 12 = true) <| (f195 x1 (0 : Int32) (1 : Int32) s).bind fun z1 => if z1.2 = 0 then (some (z1.1, (-1 : Int32))) else (whl (fun q : (Int32 × xS) => f277_13 x0 x1 q.1 q.2) ((0 : Int32), z1.1))
set_option maxRecDepth 20000 in
theorem s277 {sc : Option (Nat × (Nat → Int32))} {x0 : Nat} {x1 : Int32} {s : xS} {r : xS × Int32} (h : f277 x0 x1 s = some r) : Cl sc 2 277 [.ref x0, .int x1] (hk_of s) (hk_of r.1, some (.int r.2)) := by
  unfold f277 at h
  obtain ⟨k0, h⟩ := ifg_some h
  refine ⟨pg_md 277, [some (.ref x0), some (.int x1), none, none], pg_mt_md (by decide), (hk_rcv k0), rfl, ?_⟩
  generalize ho : ((hk_of r.1, some (Value.int r.2)) : xH × Option Value) = o
  have hr : dn277 o r := ho.symm
  refine E_blk rfl ?_
  refine E_ps 3 (pc' := 3) (l' := [some (.ref x0), some (.int x1), none, none]) (st' := [.int (1 : Int32), .int (0 : Int32), .int x1]) rfl ?_
  obtain ⟨z1, e2, h⟩ := Option.bind_eq_some_iff.mp h
  refine E_callI (vs := [.int x1, .int (0 : Int32), .int (1 : Int32)]) (rest := []) rfl (by decide) rfl rfl (Nat.le_of_ble_eq_true rfl) (s195 e2) (by decide) ?_
  by_cases c3 : z1.2 = 0
  · rw [if_pos c3] at h
    refine E_jt rfl rfl c3 ?_
    refine E_blk rfl ?_
    refine E_ps 1 (pc' := 10) (l' := [some (.ref x0), some (.int x1), none, none]) (st' := [.int (-1 : Int32)]) rfl ?_
    cases h
    exact E_ret rfl (pg_mt_md (by decide)) rfl hr
  · rw [if_neg c3] at h
    refine E_jf rfl rfl c3 ?_
    refine E_blk rfl ?_
    refine E_ps 2 (pc' := 13) (l' := [some (.ref x0), some (.int x1), some (.int (0 : Int32)), none]) (st' := []) rfl ?_
    exact E_wk (l' := [some (.ref x0), some (.int x1), some (.int (0 : Int32)), none]) ⟨rfl, rfl, rfl, trivial⟩ (s277_13_w k0 h hr)

-- 278: ThreePlatesModel.seed(I)I
def dn278 (o : xH × Option Value) (r : xS × Int32) : Prop := o = (hk_of r.1, some (.int r.2))
noncomputable def f278 (x0 : Nat) (x1 : Int32) (s : xS) : Option (xS × Int32) := ifg (oK x0 12 = true) <| (pI s x0 29 x1).bind fun t1 => some (t1, (s.1 x0 29))
set_option maxRecDepth 20000 in
theorem s278 {sc : Option (Nat × (Nat → Int32))} {x0 : Nat} {x1 : Int32} {s : xS} {r : xS × Int32} (h : f278 x0 x1 s = some r) : Cl sc 1 278 [.ref x0, .int x1] (hk_of s) (hk_of r.1, some (.int r.2)) := by
  unfold f278 at h
  obtain ⟨k0, h⟩ := ifg_some h
  refine ⟨pg_md 278, [some (.ref x0), some (.int x1), none], pg_mt_md (by decide), (hk_rcv k0), rfl, ?_⟩
  generalize ho : ((hk_of r.1, some (Value.int r.2)) : xH × Option Value) = o
  have hr : dn278 o r := ho.symm
  refine E_blk rfl ?_
  refine E_ps 1 (pc' := 1) (l' := [some (.ref x0), some (.int x1), none]) (st' := [.ref x0]) rfl ?_
  refine E_gi k0 (by decide) rfl ?_
  refine E_ps 3 (pc' := 7) (l' := [some (.ref x0), some (.int x1), some (.int (s.1 x0 29))]) (st' := [.int x1, .ref x0]) rfl ?_
  obtain ⟨t1, e2, h⟩ := Option.bind_eq_some_iff.mp h
  refine E_pi k0 (by decide) rfl e2 ?_
  refine E_ps 1 (pc' := 11) (l' := [some (.ref x0), some (.int x1), some (.int (s.1 x0 29))]) (st' := [.int (s.1 x0 29)]) rfl ?_
  cases h
  exact E_ret rfl (pg_mt_md (by decide)) rfl hr

-- 279: ThreePlatesModel.image(I)I
def dn279 (o : xH × Option Value) (r : xS × Int32) : Prop := o = (hk_of r.1, some (.int r.2))
noncomputable def f279 (x0 : Nat) (x1 : Int32) (s : xS) : Option (xS × Int32) := ifg (oK x0 12 = true) <| (f195 x1 (0 : Int32) (2 : Int32) s).bind fun z1 => if z1.2 = 0 then (some (z1.1, (-1 : Int32))) else ((f245 x0 x1 z1.1).bind fun z4 => (hk_R x0 12).bind fun a6 => (aI z4.1 a6 (z4.1.1 x0 25)).bind fun v8 => some (z4.1, v8))
set_option maxRecDepth 20000 in
theorem s279 {sc : Option (Nat × (Nat → Int32))} {x0 : Nat} {x1 : Int32} {s : xS} {r : xS × Int32} (h : f279 x0 x1 s = some r) : Cl sc 2 279 [.ref x0, .int x1] (hk_of s) (hk_of r.1, some (.int r.2)) := by
  unfold f279 at h
  obtain ⟨k0, h⟩ := ifg_some h
  refine ⟨pg_md 279, [some (.ref x0), some (.int x1)], pg_mt_md (by decide), (hk_rcv k0), rfl, ?_⟩
  generalize ho : ((hk_of r.1, some (Value.int r.2)) : xH × Option Value) = o
  have hr : dn279 o r := ho.symm
  refine E_blk rfl ?_
  refine E_ps 3 (pc' := 3) (l' := [some (.ref x0), some (.int x1)]) (st' := [.int (2 : Int32), .int (0 : Int32), .int x1]) rfl ?_
  obtain ⟨z1, e2, h⟩ := Option.bind_eq_some_iff.mp h
  refine E_callI (vs := [.int x1, .int (0 : Int32), .int (2 : Int32)]) (rest := []) rfl (by decide) rfl rfl (Nat.le_of_ble_eq_true rfl) (s195 e2) (by decide) ?_
  by_cases c3 : z1.2 = 0
  · rw [if_pos c3] at h
    refine E_jt rfl rfl c3 ?_
    refine E_blk rfl ?_
    refine E_ps 1 (pc' := 10) (l' := [some (.ref x0), some (.int x1)]) (st' := [.int (-1 : Int32)]) rfl ?_
    cases h
    exact E_ret rfl (pg_mt_md (by decide)) rfl hr
  · rw [if_neg c3] at h
    refine E_jf rfl rfl c3 ?_
    refine E_blk rfl ?_
    refine E_ps 2 (pc' := 13) (l' := [some (.ref x0), some (.int x1)]) (st' := [.int x1, .ref x0]) rfl ?_
    obtain ⟨z4, e5, h⟩ := Option.bind_eq_some_iff.mp h
    refine E_callV (vs := [.ref x0, .int x1]) (rest := []) rfl (by decide) rfl rfl (Nat.le_of_ble_eq_true rfl) (s245 e5) (by decide) ?_
    refine E_ps 1 (pc' := 17) (l' := [some (.ref x0), some (.int x1)]) (st' := [.ref x0]) rfl ?_
    obtain ⟨a6, e7, h⟩ := Option.bind_eq_some_iff.mp h
    refine E_gr k0 (by decide) rfl e7 ?_
    refine E_ps 1 (pc' := 21) (l' := [some (.ref x0), some (.int x1)]) (st' := [.ref x0, .ref a6]) rfl ?_
    refine E_gi k0 (by decide) rfl ?_
    obtain ⟨v8, e9, h⟩ := Option.bind_eq_some_iff.mp h
    refine E_ai e9 ?_
    cases h
    exact E_ret rfl (pg_mt_md (by decide)) rfl hr

-- 280: ThreePlatesModel.back(I)I
def dn280 (o : xH × Option Value) (r : xS × Int32) : Prop := o = (hk_of r.1, some (.int r.2))
noncomputable def f280_18  (s : xS) : Option (xS × Int32) := some (s, (-1 : Int32))
set_option maxRecDepth 20000 in
theorem s280_18 {sc : Option (Nat × (Nat → Int32))}  {s : xS} {o : xH × Option Value} {r : (xS × Int32)}  (h : f280_18  s = some r) (hr : dn280 o r) : Ev sc 2 280 [] 18 [none, none] [] (hk_of s) o := by
  unfold f280_18 at h
  refine E_blk rfl ?_
  refine E_ps 1 (pc' := 19) (l' := [none, none]) (st' := [.int (-1 : Int32)]) rfl ?_
  cases h
  exact E_ret rfl (pg_mt_md (by decide)) rfl hr
noncomputable def f280 (x0 : Nat) (x1 : Int32) (s : xS) : Option (xS × Int32) := ifg (oK x0 12 = true) <| (f195 x1 (0 : Int32) (2 : Int32) s).bind fun z1 => if z1.2 = 0 then (f280_18  z1.1) else ((hk_R x0 52).bind fun a4 => (aI z1.1 a4 x1).bind fun v6 => if 0 ≤ v6 then ((f246 x0 x1 z1.1).bind fun z9 => (hk_R x0 12).bind fun a11 => (aI z9.1 a11 (z9.1.1 x0 25)).bind fun v13 => some (z9.1, v13)) else (f280_18  z1.1))
set_option maxRecDepth 20000 in
theorem s280 {sc : Option (Nat × (Nat → Int32))} {x0 : Nat} {x1 : Int32} {s : xS} {r : xS × Int32} (h : f280 x0 x1 s = some r) : Cl sc 2 280 [.ref x0, .int x1] (hk_of s) (hk_of r.1, some (.int r.2)) := by
  unfold f280 at h
  obtain ⟨k0, h⟩ := ifg_some h
  refine ⟨pg_md 280, [some (.ref x0), some (.int x1)], pg_mt_md (by decide), (hk_rcv k0), rfl, ?_⟩
  generalize ho : ((hk_of r.1, some (Value.int r.2)) : xH × Option Value) = o
  have hr : dn280 o r := ho.symm
  refine E_blk rfl ?_
  refine E_ps 3 (pc' := 3) (l' := [some (.ref x0), some (.int x1)]) (st' := [.int (2 : Int32), .int (0 : Int32), .int x1]) rfl ?_
  obtain ⟨z1, e2, h⟩ := Option.bind_eq_some_iff.mp h
  refine E_callI (vs := [.int x1, .int (0 : Int32), .int (2 : Int32)]) (rest := []) rfl (by decide) rfl rfl (Nat.le_of_ble_eq_true rfl) (s195 e2) (by decide) ?_
  by_cases c3 : z1.2 = 0
  · rw [if_pos c3] at h
    refine E_jt rfl rfl c3 ?_
    exact E_wk (l' := [none, none]) trivial (s280_18  h hr)
  · rw [if_neg c3] at h
    refine E_jf rfl rfl c3 ?_
    refine E_blk rfl ?_
    refine E_ps 1 (pc' := 10) (l' := [some (.ref x0), some (.int x1)]) (st' := [.ref x0]) rfl ?_
    obtain ⟨a4, e5, h⟩ := Option.bind_eq_some_iff.mp h
    refine E_gr k0 (by decide) rfl e5 ?_
    refine E_ps 1 (pc' := 14) (l' := [some (.ref x0), some (.int x1)]) (st' := [.int x1, .ref a4]) rfl ?_
    obtain ⟨v6, e7, h⟩ := Option.bind_eq_some_iff.mp h
    refine E_ai e7 ?_
    by_cases c8 : 0 ≤ v6
    · rw [if_pos c8] at h
      refine E_jt rfl rfl c8 ?_
      refine E_blk rfl ?_
      refine E_ps 2 (pc' := 22) (l' := [some (.ref x0), some (.int x1)]) (st' := [.int x1, .ref x0]) rfl ?_
      obtain ⟨z9, e10, h⟩ := Option.bind_eq_some_iff.mp h
      refine E_callV (vs := [.ref x0, .int x1]) (rest := []) rfl (by decide) rfl rfl (Nat.le_of_ble_eq_true rfl) (s246 e10) (by decide) ?_
      refine E_ps 1 (pc' := 26) (l' := [some (.ref x0), some (.int x1)]) (st' := [.ref x0]) rfl ?_
      obtain ⟨a11, e12, h⟩ := Option.bind_eq_some_iff.mp h
      refine E_gr k0 (by decide) rfl e12 ?_
      refine E_ps 1 (pc' := 30) (l' := [some (.ref x0), some (.int x1)]) (st' := [.ref x0, .ref a11]) rfl ?_
      refine E_gi k0 (by decide) rfl ?_
      obtain ⟨v13, e14, h⟩ := Option.bind_eq_some_iff.mp h
      refine E_ai e14 ?_
      cases h
      exact E_ret rfl (pg_mt_md (by decide)) rfl hr
    · rw [if_neg c8] at h
      refine E_jf rfl rfl c8 ?_
      exact E_wk (l' := [none, none]) trivial (s280_18  h hr)

-- 281: ThreePlatesModel.about(I)I
def dn281 (o : xH × Option Value) (r : xS × Int32) : Prop := o = (hk_of r.1, some (.int r.2))
noncomputable def f281 (x0 : Nat) (x1 : Int32) (s : xS) : Option (xS × Int32) := ifg (oK x0 12 = true) <| if x1 = 0 then ((hk_R x0 12).bind fun a2 => (aI s a2 (s.1 x0 25)).bind fun v4 => some (s, v4)) else (if x1 = 1 then ((f196 x0 s).bind fun z7 => some (z7.1, z7.2)) else (if x1 = 2 then (some (s, (s.1 x0 37))) else (if x1 = 3 then (some (s, (s.1 x0 27))) else (if x1 = 4 then (some (s, (s.1 x0 28))) else (if x1 = 5 then (some (s, (s.1 x0 29))) else (if x1 = 6 then (some (s, (s.1 x0 2))) else (if x1 = 7 then (some (s, (s.1 x0 74))) else (if x1 = 8 then (some (s, (s.1 x0 71))) else (some (s, (-1 : Int32)))))))))))
set_option maxRecDepth 20000 in
theorem s281 {sc : Option (Nat × (Nat → Int32))} {x0 : Nat} {x1 : Int32} {s : xS} {r : xS × Int32} (h : f281 x0 x1 s = some r) : Cl sc 2 281 [.ref x0, .int x1] (hk_of s) (hk_of r.1, some (.int r.2)) := by
  unfold f281 at h
  obtain ⟨k0, h⟩ := ifg_some h
  refine ⟨pg_md 281, [some (.ref x0), some (.int x1)], pg_mt_md (by decide), (hk_rcv k0), rfl, ?_⟩
  generalize ho : ((hk_of r.1, some (Value.int r.2)) : xH × Option Value) = o
  have hr : dn281 o r := ho.symm
  refine E_blk rfl ?_
  refine E_ps 1 (pc' := 1) (l' := [some (.ref x0), some (.int x1)]) (st' := [.int x1]) rfl ?_
  by_cases c1 : x1 = 0
  · rw [if_pos c1] at h
    refine E_j (pc' := 52) rfl (by rw [c1]; rfl) ?_
    refine E_blk rfl ?_
    refine E_ps 1 (pc' := 53) (l' := [some (.ref x0), some (.int x1)]) (st' := [.ref x0]) rfl ?_
    obtain ⟨a2, e3, h⟩ := Option.bind_eq_some_iff.mp h
    refine E_gr k0 (by decide) rfl e3 ?_
    refine E_ps 1 (pc' := 57) (l' := [some (.ref x0), some (.int x1)]) (st' := [.ref x0, .ref a2]) rfl ?_
    refine E_gi k0 (by decide) rfl ?_
    obtain ⟨v4, e5, h⟩ := Option.bind_eq_some_iff.mp h
    refine E_ai e5 ?_
    cases h
    exact E_ret rfl (pg_mt_md (by decide)) rfl hr
  · rw [if_neg c1] at h
    by_cases c6 : x1 = 1
    · rw [if_pos c6] at h
      refine E_j (pc' := 62) rfl (by rw [c6]; rfl) ?_
      refine E_blk rfl ?_
      refine E_ps 1 (pc' := 63) (l' := [some (.ref x0), some (.int x1)]) (st' := [.ref x0]) rfl ?_
      obtain ⟨z7, e8, h⟩ := Option.bind_eq_some_iff.mp h
      refine E_callI (vs := [.ref x0]) (rest := []) rfl (by decide) rfl rfl (Nat.le_of_ble_eq_true rfl) (s196 e8) (by decide) ?_
      cases h
      exact E_ret rfl (pg_mt_md (by decide)) rfl hr
    · rw [if_neg c6] at h
      by_cases c9 : x1 = 2
      · rw [if_pos c9] at h
        refine E_j (pc' := 67) rfl (by rw [c9]; rfl) ?_
        refine E_blk rfl ?_
        refine E_ps 1 (pc' := 68) (l' := [some (.ref x0), some (.int x1)]) (st' := [.ref x0]) rfl ?_
        refine E_gi k0 (by decide) rfl ?_
        cases h
        exact E_ret rfl (pg_mt_md (by decide)) rfl hr
      · rw [if_neg c9] at h
        by_cases c10 : x1 = 3
        · rw [if_pos c10] at h
          refine E_j (pc' := 72) rfl (by rw [c10]; rfl) ?_
          refine E_blk rfl ?_
          refine E_ps 1 (pc' := 73) (l' := [some (.ref x0), some (.int x1)]) (st' := [.ref x0]) rfl ?_
          refine E_gi k0 (by decide) rfl ?_
          cases h
          exact E_ret rfl (pg_mt_md (by decide)) rfl hr
        · rw [if_neg c10] at h
          by_cases c11 : x1 = 4
          · rw [if_pos c11] at h
            refine E_j (pc' := 77) rfl (by rw [c11]; rfl) ?_
            refine E_blk rfl ?_
            refine E_ps 1 (pc' := 78) (l' := [some (.ref x0), some (.int x1)]) (st' := [.ref x0]) rfl ?_
            refine E_gi k0 (by decide) rfl ?_
            cases h
            exact E_ret rfl (pg_mt_md (by decide)) rfl hr
          · rw [if_neg c11] at h
            by_cases c12 : x1 = 5
            · rw [if_pos c12] at h
              refine E_j (pc' := 82) rfl (by rw [c12]; rfl) ?_
              refine E_blk rfl ?_
              refine E_ps 1 (pc' := 83) (l' := [some (.ref x0), some (.int x1)]) (st' := [.ref x0]) rfl ?_
              refine E_gi k0 (by decide) rfl ?_
              cases h
              exact E_ret rfl (pg_mt_md (by decide)) rfl hr
            · rw [if_neg c12] at h
              by_cases c13 : x1 = 6
              · rw [if_pos c13] at h
                refine E_j (pc' := 87) rfl (by rw [c13]; rfl) ?_
                refine E_blk rfl ?_
                refine E_ps 1 (pc' := 88) (l' := [some (.ref x0), some (.int x1)]) (st' := [.ref x0]) rfl ?_
                refine E_gi k0 (by decide) rfl ?_
                cases h
                exact E_ret rfl (pg_mt_md (by decide)) rfl hr
              · rw [if_neg c13] at h
                by_cases c14 : x1 = 7
                · rw [if_pos c14] at h
                  refine E_j (pc' := 92) rfl (by rw [c14]; rfl) ?_
                  refine E_blk rfl ?_
                  refine E_ps 1 (pc' := 93) (l' := [some (.ref x0), some (.int x1)]) (st' := [.ref x0]) rfl ?_
                  refine E_gi k0 (by decide) rfl ?_
                  cases h
                  exact E_ret rfl (pg_mt_md (by decide)) rfl hr
                · rw [if_neg c14] at h
                  by_cases c15 : x1 = 8
                  · rw [if_pos c15] at h
                    refine E_j (pc' := 97) rfl (by rw [c15]; rfl) ?_
                    refine E_blk rfl ?_
                    refine E_ps 1 (pc' := 98) (l' := [some (.ref x0), some (.int x1)]) (st' := [.ref x0]) rfl ?_
                    refine E_gi k0 (by decide) rfl ?_
                    cases h
                    exact E_ret rfl (pg_mt_md (by decide)) rfl hr
                  · rw [if_neg c15] at h
                    refine E_j (pc' := 102) rfl (hk_tsw [0, 1, 2, 3, 4, 5, 6, 7, 8] (by intro z hz; simp only [List.mem_cons, List.not_mem_nil, or_false] at hz; rcases hz with rfl | rfl | rfl | rfl | rfl | rfl | rfl | rfl | rfl <;> assumption) (by decide) (by decide +kernel)) ?_
                    refine E_blk rfl ?_
                    refine E_ps 1 (pc' := 103) (l' := [some (.ref x0), some (.int x1)]) (st' := [.int (-1 : Int32)]) rfl ?_
                    cases h
                    exact E_ret rfl (pg_mt_md (by decide)) rfl hr

-- 282: ThreePlatesModel.feed(IIIII)I
def dn282 (o : xH × Option Value) (r : xS × Int32) : Prop := o = (hk_of r.1, some (.int r.2))
def dn282_18 (sc : Option (Nat × (Nat → Int32))) (x0 : Nat) (x1 : Int32) (x2 : Int32) (x3 : Int32) (x4 : Int32) (x5 : Int32) (o : xH × Option Value) (r : ((Int32 × xS) ⊕ (xS × Int32))) : Prop := match r with
  | .inl q => Ev sc 1 282 [] 18 [some (.ref x0), some (.int x1), some (.int x2), some (.int x3), some (.int x4), some (.int x5), some (.int q.1), none] [] (hk_of q.2) o
  | .inr r => dn282 o r
noncomputable def f282_71 (x0 : Nat) (x1 : Int32) (x2 : Int32) (x3 : Int32) (x4 : Int32) (x5 : Int32) (x6 : Int32) (y0 : Int32) (s : xS) : Option ((Int32 × xS) ⊕ (xS × Int32)) := (hk_R x0 0).bind fun a1 => (wB s a1 ((s.1 x0 2) + x6) ((y0 >>> (((24 : Int32) - ((8 : Int32) * (x6 &&& (3 : Int32)))) &&& 31))).toInt8.toInt32).bind fun t3 => some (Sum.inl ((x6 + (1 : Int32)), t3))
set_option maxRecDepth 20000 in
theorem s282_71 {sc : Option (Nat × (Nat → Int32))} {x0 : Nat} {x1 : Int32} {x2 : Int32} {x3 : Int32} {x4 : Int32} {x5 : Int32} {x6 : Int32} {y0 : Int32} {s : xS} {o : xH × Option Value} {r : ((Int32 × xS) ⊕ (xS × Int32))} (k0 : oK x0 12 = true) (h : f282_71 x0 x1 x2 x3 x4 x5 x6 y0 s = some r) (hr : dn282_18 sc x0 x1 x2 x3 x4 x5 o r) : Ev sc 1 282 [] 71 [some (.ref x0), some (.int x1), some (.int x2), some (.int x3), some (.int x4), some (.int x5), some (.int x6), none] [.int y0] (hk_of s) o := by
  unfold f282_71 at h
  refine E_blk rfl ?_
  refine E_ps 2 (pc' := 74) (l' := [some (.ref x0), some (.int x1), some (.int x2), some (.int x3), some (.int x4), some (.int x5), some (.int x6), some (.int y0)]) (st' := [.ref x0]) rfl ?_
  obtain ⟨a1, e2, h⟩ := Option.bind_eq_some_iff.mp h
  refine E_gr k0 (by decide) rfl e2 ?_
  refine E_ps 1 (pc' := 78) (l' := [some (.ref x0), some (.int x1), some (.int x2), some (.int x3), some (.int x4), some (.int x5), some (.int x6), some (.int y0)]) (st' := [.ref x0, .ref a1]) rfl ?_
  refine E_gi k0 (by decide) rfl ?_
  refine E_ps 12 (pc' := 98) (l' := [some (.ref x0), some (.int x1), some (.int x2), some (.int x3), some (.int x4), some (.int x5), some (.int x6), some (.int y0)]) (st' := [.int ((y0 >>> (((24 : Int32) - ((8 : Int32) * (x6 &&& (3 : Int32)))) &&& 31))).toInt8.toInt32, .int ((s.1 x0 2) + x6), .ref a1]) rfl ?_
  obtain ⟨t3, e4, h⟩ := Option.bind_eq_some_iff.mp h
  refine E_wb e4 ?_
  refine E_ps 1 (pc' := 102) (l' := [some (.ref x0), some (.int x1), some (.int x2), some (.int x3), some (.int x4), some (.int x5), some (.int (x6 + (1 : Int32))), some (.int y0)]) (st' := []) rfl ?_
  refine E_j rfl rfl ?_
  cases h
  exact E_wk (l' := [some (.ref x0), some (.int x1), some (.int x2), some (.int x3), some (.int x4), some (.int x5), some (.int (x6 + (1 : Int32))), none]) ⟨rfl, rfl, rfl, rfl, rfl, rfl, rfl, trivial⟩ hr
noncomputable def f282_18 (x0 : Nat) (x1 : Int32) (x2 : Int32) (x3 : Int32) (x4 : Int32) (x5 : Int32) (x6 : Int32) (s : xS) : Option ((Int32 × xS) ⊕ (xS × Int32)) := if (20 : Int32) ≤ x6 then (Option.map Sum.inr ((pI s x0 2 ((s.1 x0 2) + (20 : Int32))).bind fun t2 => some (t2, (t2.1 x0 2)))) else (if (4 : Int32) ≤ x6 then (if (8 : Int32) ≤ x6 then (if (12 : Int32) ≤ x6 then (if (16 : Int32) ≤ x6 then (f282_71 x0 x1 x2 x3 x4 x5 x6 x5 s) else (f282_71 x0 x1 x2 x3 x4 x5 x6 x4 s)) else (f282_71 x0 x1 x2 x3 x4 x5 x6 x3 s)) else (f282_71 x0 x1 x2 x3 x4 x5 x6 x2 s)) else (f282_71 x0 x1 x2 x3 x4 x5 x6 x1 s))
set_option maxRecDepth 20000 in
theorem s282_18 {sc : Option (Nat × (Nat → Int32))} {x0 : Nat} {x1 : Int32} {x2 : Int32} {x3 : Int32} {x4 : Int32} {x5 : Int32} {x6 : Int32} {s : xS} {o : xH × Option Value} {r : ((Int32 × xS) ⊕ (xS × Int32))} (k0 : oK x0 12 = true) (h : f282_18 x0 x1 x2 x3 x4 x5 x6 s = some r) (hr : dn282_18 sc x0 x1 x2 x3 x4 x5 o r) : Ev sc 1 282 [] 18 [some (.ref x0), some (.int x1), some (.int x2), some (.int x3), some (.int x4), some (.int x5), some (.int x6), none] [] (hk_of s) o := by
  unfold f282_18 at h
  refine E_blk rfl ?_
  refine E_ps 2 (pc' := 22) (l' := [some (.ref x0), some (.int x1), some (.int x2), some (.int x3), some (.int x4), some (.int x5), some (.int x6), none]) (st' := [.int (20 : Int32), .int x6]) rfl ?_
  by_cases c1 : (20 : Int32) ≤ x6
  · rw [if_pos c1] at h
    refine E_jt rfl rfl c1 ?_
    obtain ⟨r, h, hr⟩ := lf_some (Dn := dn282_18 sc x0 x1 x2 x3 x4 x5 o) h hr
    refine E_blk rfl ?_
    refine E_ps 2 (pc' := 107) (l' := [some (.ref x0), some (.int x1), some (.int x2), some (.int x3), some (.int x4), some (.int x5), some (.int x6), none]) (st' := [.ref x0, .ref x0]) rfl ?_
    refine E_gi k0 (by decide) rfl ?_
    refine E_ps 2 (pc' := 113) (l' := [some (.ref x0), some (.int x1), some (.int x2), some (.int x3), some (.int x4), some (.int x5), some (.int x6), none]) (st' := [.int ((s.1 x0 2) + (20 : Int32)), .ref x0]) rfl ?_
    obtain ⟨t2, e3, h⟩ := Option.bind_eq_some_iff.mp h
    refine E_pi k0 (by decide) rfl e3 ?_
    refine E_ps 1 (pc' := 117) (l' := [some (.ref x0), some (.int x1), some (.int x2), some (.int x3), some (.int x4), some (.int x5), some (.int x6), none]) (st' := [.ref x0]) rfl ?_
    refine E_gi k0 (by decide) rfl ?_
    cases h
    exact E_ret rfl (pg_mt_md (by decide)) rfl hr
  · rw [if_neg c1] at h
    refine E_jf rfl rfl c1 ?_
    refine E_blk rfl ?_
    refine E_ps 2 (pc' := 28) (l' := [some (.ref x0), some (.int x1), some (.int x2), some (.int x3), some (.int x4), some (.int x5), some (.int x6), none]) (st' := [.int (4 : Int32), .int x6]) rfl ?_
    by_cases c4 : (4 : Int32) ≤ x6
    · rw [if_pos c4] at h
      refine E_jt rfl rfl c4 ?_
      refine E_blk rfl ?_
      refine E_ps 2 (pc' := 39) (l' := [some (.ref x0), some (.int x1), some (.int x2), some (.int x3), some (.int x4), some (.int x5), some (.int x6), none]) (st' := [.int (8 : Int32), .int x6]) rfl ?_
      by_cases c5 : (8 : Int32) ≤ x6
      · rw [if_pos c5] at h
        refine E_jt rfl rfl c5 ?_
        refine E_blk rfl ?_
        refine E_ps 2 (pc' := 50) (l' := [some (.ref x0), some (.int x1), some (.int x2), some (.int x3), some (.int x4), some (.int x5), some (.int x6), none]) (st' := [.int (12 : Int32), .int x6]) rfl ?_
        by_cases c6 : (12 : Int32) ≤ x6
        · rw [if_pos c6] at h
          refine E_jt rfl rfl c6 ?_
          refine E_blk rfl ?_
          refine E_ps 2 (pc' := 61) (l' := [some (.ref x0), some (.int x1), some (.int x2), some (.int x3), some (.int x4), some (.int x5), some (.int x6), none]) (st' := [.int (16 : Int32), .int x6]) rfl ?_
          by_cases c7 : (16 : Int32) ≤ x6
          · rw [if_pos c7] at h
            refine E_jt rfl rfl c7 ?_
            refine E_blk rfl ?_
            refine E_ps 1 (pc' := 71) (l' := [some (.ref x0), some (.int x1), some (.int x2), some (.int x3), some (.int x4), some (.int x5), some (.int x6), none]) (st' := [.int x5]) rfl ?_
            exact E_wk (l' := [some (.ref x0), some (.int x1), some (.int x2), some (.int x3), some (.int x4), some (.int x5), some (.int x6), none]) ⟨rfl, rfl, rfl, rfl, rfl, rfl, rfl, trivial⟩ (s282_71 k0 h hr)
          · rw [if_neg c7] at h
            refine E_jf rfl rfl c7 ?_
            refine E_blk rfl ?_
            refine E_ps 1 (pc' := 66) (l' := [some (.ref x0), some (.int x1), some (.int x2), some (.int x3), some (.int x4), some (.int x5), some (.int x6), none]) (st' := [.int x4]) rfl ?_
            refine E_j rfl rfl ?_
            exact E_wk (l' := [some (.ref x0), some (.int x1), some (.int x2), some (.int x3), some (.int x4), some (.int x5), some (.int x6), none]) ⟨rfl, rfl, rfl, rfl, rfl, rfl, rfl, trivial⟩ (s282_71 k0 h hr)
        · rw [if_neg c6] at h
          refine E_jf rfl rfl c6 ?_
          refine E_blk rfl ?_
          refine E_ps 1 (pc' := 54) (l' := [some (.ref x0), some (.int x1), some (.int x2), some (.int x3), some (.int x4), some (.int x5), some (.int x6), none]) (st' := [.int x3]) rfl ?_
          refine E_j rfl rfl ?_
          exact E_wk (l' := [some (.ref x0), some (.int x1), some (.int x2), some (.int x3), some (.int x4), some (.int x5), some (.int x6), none]) ⟨rfl, rfl, rfl, rfl, rfl, rfl, rfl, trivial⟩ (s282_71 k0 h hr)
      · rw [if_neg c5] at h
        refine E_jf rfl rfl c5 ?_
        refine E_blk rfl ?_
        refine E_ps 1 (pc' := 43) (l' := [some (.ref x0), some (.int x1), some (.int x2), some (.int x3), some (.int x4), some (.int x5), some (.int x6), none]) (st' := [.int x2]) rfl ?_
        refine E_j rfl rfl ?_
        exact E_wk (l' := [some (.ref x0), some (.int x1), some (.int x2), some (.int x3), some (.int x4), some (.int x5), some (.int x6), none]) ⟨rfl, rfl, rfl, rfl, rfl, rfl, rfl, trivial⟩ (s282_71 k0 h hr)
    · rw [if_neg c4] at h
      refine E_jf rfl rfl c4 ?_
      refine E_blk rfl ?_
      refine E_ps 1 (pc' := 32) (l' := [some (.ref x0), some (.int x1), some (.int x2), some (.int x3), some (.int x4), some (.int x5), some (.int x6), none]) (st' := [.int x1]) rfl ?_
      refine E_j rfl rfl ?_
      exact E_wk (l' := [some (.ref x0), some (.int x1), some (.int x2), some (.int x3), some (.int x4), some (.int x5), some (.int x6), none]) ⟨rfl, rfl, rfl, rfl, rfl, rfl, rfl, trivial⟩ (s282_71 k0 h hr)
theorem s282_18_w {sc : Option (Nat × (Nat → Int32))} {x0 : Nat} {x1 : Int32} {x2 : Int32} {x3 : Int32} {x4 : Int32} {x5 : Int32} {x6 : Int32} {s : xS} {o : xH × Option Value} {r : (xS × Int32)} (k0 : oK x0 12 = true) (h : whl (fun q : (Int32 × xS) => f282_18 x0 x1 x2 x3 x4 x5 q.1 q.2) (x6, s) = some r) (hr : dn282 o r) : Ev sc 1 282 [] 18 [some (.ref x0), some (.int x1), some (.int x2), some (.int x3), some (.int x4), some (.int x5), some (.int x6), none] [] (hk_of s) o := by
  refine whl_snd (E := fun q : (Int32 × xS) => Ev sc 1 282 [] 18 [some (.ref x0), some (.int x1), some (.int x2), some (.int x3), some (.int x4), some (.int x5), some (.int q.1), none] [] (hk_of q.2) o) (P := fun r => dn282 o r) (fun q r h hr => ?_) h hr
  exact s282_18 k0 h (by cases r <;> exact hr)
noncomputable def f282 (x0 : Nat) (x1 : Int32) (x2 : Int32) (x3 : Int32) (x4 : Int32) (x5 : Int32) (s : xS) : Option (xS × Int32) := ifg (oK x0 12 = true) <| if ((s.1 x0 2) + (20 : Int32)) ≤ (1200 : Int32) then (whl (fun q : (Int32 × xS) => f282_18 x0 x1 x2 x3 x4 x5 q.1 q.2) ((0 : Int32), s)) else (some (s, (-1 : Int32)))
set_option maxRecDepth 20000 in
theorem s282 {sc : Option (Nat × (Nat → Int32))} {x0 : Nat} {x1 : Int32} {x2 : Int32} {x3 : Int32} {x4 : Int32} {x5 : Int32} {s : xS} {r : xS × Int32} (h : f282 x0 x1 x2 x3 x4 x5 s = some r) : Cl sc 1 282 [.ref x0, .int x1, .int x2, .int x3, .int x4, .int x5] (hk_of s) (hk_of r.1, some (.int r.2)) := by
  unfold f282 at h
  obtain ⟨k0, h⟩ := ifg_some h
  refine ⟨pg_md 282, [some (.ref x0), some (.int x1), some (.int x2), some (.int x3), some (.int x4), some (.int x5), none, none], pg_mt_md (by decide), (hk_rcv k0), rfl, ?_⟩
  generalize ho : ((hk_of r.1, some (Value.int r.2)) : xH × Option Value) = o
  have hr : dn282 o r := ho.symm
  refine E_blk rfl ?_
  refine E_ps 1 (pc' := 1) (l' := [some (.ref x0), some (.int x1), some (.int x2), some (.int x3), some (.int x4), some (.int x5), none, none]) (st' := [.ref x0]) rfl ?_
  refine E_gi k0 (by decide) rfl ?_
  refine E_ps 3 (pc' := 10) (l' := [some (.ref x0), some (.int x1), some (.int x2), some (.int x3), some (.int x4), some (.int x5), none, none]) (st' := [.int (1200 : Int32), .int ((s.1 x0 2) + (20 : Int32))]) rfl ?_
  by_cases c1 : ((s.1 x0 2) + (20 : Int32)) ≤ (1200 : Int32)
  · rw [if_pos c1] at h
    refine E_jt rfl rfl c1 ?_
    refine E_blk rfl ?_
    refine E_ps 2 (pc' := 18) (l' := [some (.ref x0), some (.int x1), some (.int x2), some (.int x3), some (.int x4), some (.int x5), some (.int (0 : Int32)), none]) (st' := []) rfl ?_
    exact E_wk (l' := [some (.ref x0), some (.int x1), some (.int x2), some (.int x3), some (.int x4), some (.int x5), some (.int (0 : Int32)), none]) ⟨rfl, rfl, rfl, rfl, rfl, rfl, rfl, trivial⟩ (s282_18_w k0 h hr)
  · rw [if_neg c1] at h
    refine E_jf rfl rfl c1 ?_
    refine E_blk rfl ?_
    refine E_ps 1 (pc' := 14) (l' := [some (.ref x0), some (.int x1), some (.int x2), some (.int x3), some (.int x4), some (.int x5), none, none]) (st' := [.int (-1 : Int32)]) rfl ?_
    cases h
    exact E_ret rfl (pg_mt_md (by decide)) rfl hr

-- 283: ThreePlatesModel.end(I)I
def dn283 (o : xH × Option Value) (r : xS × Int32) : Prop := o = (hk_of r.1, some (.int r.2))
noncomputable def f283_12  (s : xS) : Option (xS × Int32) := some (s, (-1 : Int32))
set_option maxRecDepth 20000 in
theorem s283_12 {sc : Option (Nat × (Nat → Int32))}  {s : xS} {o : xH × Option Value} {r : (xS × Int32)}  (h : f283_12  s = some r) (hr : dn283 o r) : Ev sc 1 283 [] 12 [none, none] [] (hk_of s) o := by
  unfold f283_12 at h
  refine E_blk rfl ?_
  refine E_ps 1 (pc' := 13) (l' := [none, none]) (st' := [.int (-1 : Int32)]) rfl ?_
  cases h
  exact E_ret rfl (pg_mt_md (by decide)) rfl hr
noncomputable def f283 (x0 : Nat) (x1 : Int32) (s : xS) : Option (xS × Int32) := ifg (oK x0 12 = true) <| if x1 < 0 then (f283_12  s) else (if x1 ≤ (s.1 x0 2) then ((pI s x0 2 x1).bind fun t3 => some (t3, x1)) else (f283_12  s))
set_option maxRecDepth 20000 in
theorem s283 {sc : Option (Nat × (Nat → Int32))} {x0 : Nat} {x1 : Int32} {s : xS} {r : xS × Int32} (h : f283 x0 x1 s = some r) : Cl sc 1 283 [.ref x0, .int x1] (hk_of s) (hk_of r.1, some (.int r.2)) := by
  unfold f283 at h
  obtain ⟨k0, h⟩ := ifg_some h
  refine ⟨pg_md 283, [some (.ref x0), some (.int x1)], pg_mt_md (by decide), (hk_rcv k0), rfl, ?_⟩
  generalize ho : ((hk_of r.1, some (Value.int r.2)) : xH × Option Value) = o
  have hr : dn283 o r := ho.symm
  refine E_blk rfl ?_
  refine E_ps 1 (pc' := 1) (l' := [some (.ref x0), some (.int x1)]) (st' := [.int x1]) rfl ?_
  by_cases c1 : x1 < 0
  · rw [if_pos c1] at h
    refine E_jt rfl rfl c1 ?_
    exact E_wk (l' := [none, none]) trivial (s283_12  h hr)
  · rw [if_neg c1] at h
    refine E_jf rfl rfl c1 ?_
    refine E_blk rfl ?_
    refine E_ps 2 (pc' := 6) (l' := [some (.ref x0), some (.int x1)]) (st' := [.ref x0, .int x1]) rfl ?_
    refine E_gi k0 (by decide) rfl ?_
    by_cases c2 : x1 ≤ (s.1 x0 2)
    · rw [if_pos c2] at h
      refine E_jt rfl rfl c2 ?_
      refine E_blk rfl ?_
      refine E_ps 2 (pc' := 16) (l' := [some (.ref x0), some (.int x1)]) (st' := [.int x1, .ref x0]) rfl ?_
      obtain ⟨t3, e4, h⟩ := Option.bind_eq_some_iff.mp h
      refine E_pi k0 (by decide) rfl e4 ?_
      refine E_ps 1 (pc' := 20) (l' := [some (.ref x0), some (.int x1)]) (st' := [.int x1]) rfl ?_
      cases h
      exact E_ret rfl (pg_mt_md (by decide)) rfl hr
    · rw [if_neg c2] at h
      refine E_jf rfl rfl c2 ?_
      exact E_wk (l' := [none, none]) trivial (s283_12  h hr)
